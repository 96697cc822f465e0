abbrev b_W_law : ByteArray := code
theorem d_W_law_0 : decode b_W_law 0 = .ok (.new 8, 3) := by decide +kernel
theorem d_W_law_3 : decode b_W_law 3 = .ok (.dup, 1) := by decide +kernel
theorem d_W_law_4 : decode b_W_law 4 = .ok (.aload_n 0, 1) := by decide +kernel
theorem d_W_law_5 : decode b_W_law 5 = .ok (.iconst 0, 1) := by decide +kernel
theorem d_W_law_6 : decode b_W_law 6 = .ok (.invokestatic 25, 3) := by decide +kernel
theorem d_W_law_9 : decode b_W_law 9 = .ok (.invokespecial 31, 3) := by decide +kernel
theorem d_W_law_12 : decode b_W_law 12 = .ok (.astore_n 1, 1) := by decide +kernel
theorem d_W_law_13 : decode b_W_law 13 = .ok (.new 34, 3) := by decide +kernel
theorem d_W_law_16 : decode b_W_law 16 = .ok (.dup, 1) := by decide +kernel
theorem d_W_law_17 : decode b_W_law 17 = .ok (.aload_n 0, 1) := by decide +kernel
theorem d_W_law_18 : decode b_W_law 18 = .ok (.iconst 0, 1) := by decide +kernel
theorem d_W_law_19 : decode b_W_law 19 = .ok (.invokestatic 25, 3) := by decide +kernel
theorem d_W_law_22 : decode b_W_law 22 = .ok (.invokespecial 36, 3) := by decide +kernel
theorem d_W_law_25 : decode b_W_law 25 = .ok (.astore_n 2, 1) := by decide +kernel
theorem d_W_law_26 : decode b_W_law 26 = .ok (.iconst 1, 1) := by decide +kernel
theorem d_W_law_27 : decode b_W_law 27 = .ok (.newarray .long, 2) := by decide +kernel
theorem d_W_law_29 : decode b_W_law 29 = .ok (.astore_n 3, 1) := by decide +kernel
theorem d_W_law_30 : decode b_W_law 30 = .ok (.iconst 1, 1) := by decide +kernel
theorem d_W_law_31 : decode b_W_law 31 = .ok (.istore 4, 2) := by decide +kernel
theorem d_W_law_33 : decode b_W_law 33 = .ok (.iload 4, 2) := by decide +kernel
theorem d_W_law_35 : decode b_W_law 35 = .ok (.aload_n 0, 1) := by decide +kernel
theorem d_W_law_36 : decode b_W_law 36 = .ok (.arraylength, 1) := by decide +kernel
theorem d_W_law_37 : decode b_W_law 37 = .ok (.iconst 5, 1) := by decide +kernel
theorem d_W_law_38 : decode b_W_law 38 = .ok (.isub, 1) := by decide +kernel
theorem d_W_law_39 : decode b_W_law 39 = .ok (.if_icmp .gt 1144, 3) := by decide +kernel
theorem d_W_law_42 : decode b_W_law 42 = .ok (.aload_n 0, 1) := by decide +kernel
theorem d_W_law_43 : decode b_W_law 43 = .ok (.iload 4, 2) := by decide +kernel
theorem d_W_law_45 : decode b_W_law 45 = .ok (.iaload, 1) := by decide +kernel
theorem d_W_law_46 : decode b_W_law 46 = .ok (.bipush 31, 2) := by decide +kernel
theorem d_W_law_48 : decode b_W_law 48 = .ok (.iand, 1) := by decide +kernel
theorem d_W_law_49 : decode b_W_law 49 = .ok (.tableswitch 1128 0 20 #[99, 164, 225, 274, 323, 384, 433, 470, 495, 533, 571, 596, 676, 713, 738, 829, 879, 946, 984, 1010, 1091], 99) := by decide +kernel
theorem d_W_law_148 : decode b_W_law 148 = .ok (.aload_n 1, 1) := by decide +kernel
theorem d_W_law_149 : decode b_W_law 149 = .ok (.aload_n 0, 1) := by decide +kernel
theorem d_W_law_150 : decode b_W_law 150 = .ok (.iload 4, 2) := by decide +kernel
theorem d_W_law_152 : decode b_W_law 152 = .ok (.iconst 1, 1) := by decide +kernel
theorem d_W_law_153 : decode b_W_law 153 = .ok (.iadd, 1) := by decide +kernel
theorem d_W_law_154 : decode b_W_law 154 = .ok (.iaload, 1) := by decide +kernel
theorem d_W_law_155 : decode b_W_law 155 = .ok (.aload_n 0, 1) := by decide +kernel
theorem d_W_law_156 : decode b_W_law 156 = .ok (.iload 4, 2) := by decide +kernel
theorem d_W_law_158 : decode b_W_law 158 = .ok (.iconst 2, 1) := by decide +kernel
theorem d_W_law_159 : decode b_W_law 159 = .ok (.iadd, 1) := by decide +kernel
theorem d_W_law_160 : decode b_W_law 160 = .ok (.iaload, 1) := by decide +kernel
theorem d_W_law_161 : decode b_W_law 161 = .ok (.aload_n 0, 1) := by decide +kernel
theorem d_W_law_162 : decode b_W_law 162 = .ok (.iload 4, 2) := by decide +kernel
theorem d_W_law_164 : decode b_W_law 164 = .ok (.iconst 3, 1) := by decide +kernel
theorem d_W_law_165 : decode b_W_law 165 = .ok (.iadd, 1) := by decide +kernel
theorem d_W_law_166 : decode b_W_law 166 = .ok (.iaload, 1) := by decide +kernel
theorem d_W_law_167 : decode b_W_law 167 = .ok (.ifCond .eq 7, 3) := by decide +kernel
theorem d_W_law_170 : decode b_W_law 170 = .ok (.iconst 1, 1) := by decide +kernel
theorem d_W_law_171 : decode b_W_law 171 = .ok (.goto 4, 3) := by decide +kernel
theorem d_W_law_174 : decode b_W_law 174 = .ok (.iconst 0, 1) := by decide +kernel
theorem d_W_law_175 : decode b_W_law 175 = .ok (.invokevirtual 37, 3) := by decide +kernel
theorem d_W_law_178 : decode b_W_law 178 = .ok (.aload_n 2, 1) := by decide +kernel
theorem d_W_law_179 : decode b_W_law 179 = .ok (.aload_n 0, 1) := by decide +kernel
theorem d_W_law_180 : decode b_W_law 180 = .ok (.iload 4, 2) := by decide +kernel
theorem d_W_law_182 : decode b_W_law 182 = .ok (.iconst 1, 1) := by decide +kernel
theorem d_W_law_183 : decode b_W_law 183 = .ok (.iadd, 1) := by decide +kernel
theorem d_W_law_184 : decode b_W_law 184 = .ok (.iaload, 1) := by decide +kernel
theorem d_W_law_185 : decode b_W_law 185 = .ok (.aload_n 0, 1) := by decide +kernel
theorem d_W_law_186 : decode b_W_law 186 = .ok (.iload 4, 2) := by decide +kernel
theorem d_W_law_188 : decode b_W_law 188 = .ok (.iconst 2, 1) := by decide +kernel
theorem d_W_law_189 : decode b_W_law 189 = .ok (.iadd, 1) := by decide +kernel
theorem d_W_law_190 : decode b_W_law 190 = .ok (.iaload, 1) := by decide +kernel
theorem d_W_law_191 : decode b_W_law 191 = .ok (.aload_n 0, 1) := by decide +kernel
theorem d_W_law_192 : decode b_W_law 192 = .ok (.iload 4, 2) := by decide +kernel
theorem d_W_law_194 : decode b_W_law 194 = .ok (.iconst 3, 1) := by decide +kernel
theorem d_W_law_195 : decode b_W_law 195 = .ok (.iadd, 1) := by decide +kernel
theorem d_W_law_196 : decode b_W_law 196 = .ok (.iaload, 1) := by decide +kernel
theorem d_W_law_197 : decode b_W_law 197 = .ok (.ifCond .eq 7, 3) := by decide +kernel
theorem d_W_law_200 : decode b_W_law 200 = .ok (.iconst 1, 1) := by decide +kernel
theorem d_W_law_201 : decode b_W_law 201 = .ok (.goto 4, 3) := by decide +kernel
theorem d_W_law_204 : decode b_W_law 204 = .ok (.iconst 0, 1) := by decide +kernel
theorem d_W_law_205 : decode b_W_law 205 = .ok (.invokevirtual 41, 3) := by decide +kernel
theorem d_W_law_208 : decode b_W_law 208 = .ok (.if_icmp .eq 969, 3) := by decide +kernel
theorem d_W_law_211 : decode b_W_law 211 = .ok (.iconst 0, 1) := by decide +kernel
theorem d_W_law_212 : decode b_W_law 212 = .ok (.ireturn, 1) := by decide +kernel
theorem d_W_law_213 : decode b_W_law 213 = .ok (.aload_n 1, 1) := by decide +kernel
theorem d_W_law_214 : decode b_W_law 214 = .ok (.aload_n 0, 1) := by decide +kernel
theorem d_W_law_215 : decode b_W_law 215 = .ok (.iload 4, 2) := by decide +kernel
theorem d_W_law_217 : decode b_W_law 217 = .ok (.iconst 1, 1) := by decide +kernel
theorem d_W_law_218 : decode b_W_law 218 = .ok (.iadd, 1) := by decide +kernel
theorem d_W_law_219 : decode b_W_law 219 = .ok (.iaload, 1) := by decide +kernel
theorem d_W_law_220 : decode b_W_law 220 = .ok (.aload_n 0, 1) := by decide +kernel
theorem d_W_law_221 : decode b_W_law 221 = .ok (.iload 4, 2) := by decide +kernel
theorem d_W_law_223 : decode b_W_law 223 = .ok (.iconst 2, 1) := by decide +kernel
theorem d_W_law_224 : decode b_W_law 224 = .ok (.iadd, 1) := by decide +kernel
theorem d_W_law_225 : decode b_W_law 225 = .ok (.iaload, 1) := by decide +kernel
theorem d_W_law_226 : decode b_W_law 226 = .ok (.aload_n 0, 1) := by decide +kernel
theorem d_W_law_227 : decode b_W_law 227 = .ok (.iload 4, 2) := by decide +kernel
theorem d_W_law_229 : decode b_W_law 229 = .ok (.iconst 3, 1) := by decide +kernel
theorem d_W_law_230 : decode b_W_law 230 = .ok (.iadd, 1) := by decide +kernel
theorem d_W_law_231 : decode b_W_law 231 = .ok (.iaload, 1) := by decide +kernel
theorem d_W_law_232 : decode b_W_law 232 = .ok (.aload_n 0, 1) := by decide +kernel
theorem d_W_law_233 : decode b_W_law 233 = .ok (.iload 4, 2) := by decide +kernel
theorem d_W_law_235 : decode b_W_law 235 = .ok (.iconst 4, 1) := by decide +kernel
theorem d_W_law_236 : decode b_W_law 236 = .ok (.iadd, 1) := by decide +kernel
theorem d_W_law_237 : decode b_W_law 237 = .ok (.iaload, 1) := by decide +kernel
theorem d_W_law_238 : decode b_W_law 238 = .ok (.invokevirtual 42, 3) := by decide +kernel
theorem d_W_law_241 : decode b_W_law 241 = .ok (.aload_n 2, 1) := by decide +kernel
theorem d_W_law_242 : decode b_W_law 242 = .ok (.aload_n 0, 1) := by decide +kernel
theorem d_W_law_243 : decode b_W_law 243 = .ok (.iload 4, 2) := by decide +kernel
theorem d_W_law_245 : decode b_W_law 245 = .ok (.iconst 1, 1) := by decide +kernel
theorem d_W_law_246 : decode b_W_law 246 = .ok (.iadd, 1) := by decide +kernel
theorem d_W_law_247 : decode b_W_law 247 = .ok (.iaload, 1) := by decide +kernel
theorem d_W_law_248 : decode b_W_law 248 = .ok (.aload_n 0, 1) := by decide +kernel
theorem d_W_law_249 : decode b_W_law 249 = .ok (.iload 4, 2) := by decide +kernel
theorem d_W_law_251 : decode b_W_law 251 = .ok (.iconst 2, 1) := by decide +kernel
theorem d_W_law_252 : decode b_W_law 252 = .ok (.iadd, 1) := by decide +kernel
theorem d_W_law_253 : decode b_W_law 253 = .ok (.iaload, 1) := by decide +kernel
theorem d_W_law_254 : decode b_W_law 254 = .ok (.aload_n 0, 1) := by decide +kernel
theorem d_W_law_255 : decode b_W_law 255 = .ok (.iload 4, 2) := by decide +kernel
theorem d_W_law_257 : decode b_W_law 257 = .ok (.iconst 3, 1) := by decide +kernel
theorem d_W_law_258 : decode b_W_law 258 = .ok (.iadd, 1) := by decide +kernel
theorem d_W_law_259 : decode b_W_law 259 = .ok (.iaload, 1) := by decide +kernel
theorem d_W_law_260 : decode b_W_law 260 = .ok (.aload_n 0, 1) := by decide +kernel
theorem d_W_law_261 : decode b_W_law 261 = .ok (.iload 4, 2) := by decide +kernel
theorem d_W_law_263 : decode b_W_law 263 = .ok (.iconst 4, 1) := by decide +kernel
theorem d_W_law_264 : decode b_W_law 264 = .ok (.iadd, 1) := by decide +kernel
theorem d_W_law_265 : decode b_W_law 265 = .ok (.iaload, 1) := by decide +kernel
theorem d_W_law_266 : decode b_W_law 266 = .ok (.invokevirtual 46, 3) := by decide +kernel
theorem d_W_law_269 : decode b_W_law 269 = .ok (.if_icmp .eq 908, 3) := by decide +kernel
theorem d_W_law_272 : decode b_W_law 272 = .ok (.iconst 0, 1) := by decide +kernel
theorem d_W_law_273 : decode b_W_law 273 = .ok (.ireturn, 1) := by decide +kernel
theorem d_W_law_274 : decode b_W_law 274 = .ok (.aload_n 1, 1) := by decide +kernel
theorem d_W_law_275 : decode b_W_law 275 = .ok (.aload_n 0, 1) := by decide +kernel
theorem d_W_law_276 : decode b_W_law 276 = .ok (.iload 4, 2) := by decide +kernel
theorem d_W_law_278 : decode b_W_law 278 = .ok (.iconst 1, 1) := by decide +kernel
theorem d_W_law_279 : decode b_W_law 279 = .ok (.iadd, 1) := by decide +kernel
theorem d_W_law_280 : decode b_W_law 280 = .ok (.iaload, 1) := by decide +kernel
theorem d_W_law_281 : decode b_W_law 281 = .ok (.aload_n 0, 1) := by decide +kernel
theorem d_W_law_282 : decode b_W_law 282 = .ok (.iload 4, 2) := by decide +kernel
theorem d_W_law_284 : decode b_W_law 284 = .ok (.iconst 2, 1) := by decide +kernel
theorem d_W_law_285 : decode b_W_law 285 = .ok (.iadd, 1) := by decide +kernel
theorem d_W_law_286 : decode b_W_law 286 = .ok (.iaload, 1) := by decide +kernel
theorem d_W_law_287 : decode b_W_law 287 = .ok (.aload_n 0, 1) := by decide +kernel
theorem d_W_law_288 : decode b_W_law 288 = .ok (.iload 4, 2) := by decide +kernel
theorem d_W_law_290 : decode b_W_law 290 = .ok (.iconst 3, 1) := by decide +kernel
theorem d_W_law_291 : decode b_W_law 291 = .ok (.iadd, 1) := by decide +kernel
theorem d_W_law_292 : decode b_W_law 292 = .ok (.iaload, 1) := by decide +kernel
theorem d_W_law_293 : decode b_W_law 293 = .ok (.invokevirtual 47, 3) := by decide +kernel
theorem d_W_law_296 : decode b_W_law 296 = .ok (.aload_n 2, 1) := by decide +kernel
theorem d_W_law_297 : decode b_W_law 297 = .ok (.aload_n 0, 1) := by decide +kernel
theorem d_W_law_298 : decode b_W_law 298 = .ok (.iload 4, 2) := by decide +kernel
theorem d_W_law_300 : decode b_W_law 300 = .ok (.iconst 1, 1) := by decide +kernel
theorem d_W_law_301 : decode b_W_law 301 = .ok (.iadd, 1) := by decide +kernel
theorem d_W_law_302 : decode b_W_law 302 = .ok (.iaload, 1) := by decide +kernel
theorem d_W_law_303 : decode b_W_law 303 = .ok (.aload_n 0, 1) := by decide +kernel
theorem d_W_law_304 : decode b_W_law 304 = .ok (.iload 4, 2) := by decide +kernel
theorem d_W_law_306 : decode b_W_law 306 = .ok (.iconst 2, 1) := by decide +kernel
theorem d_W_law_307 : decode b_W_law 307 = .ok (.iadd, 1) := by decide +kernel
theorem d_W_law_308 : decode b_W_law 308 = .ok (.iaload, 1) := by decide +kernel
theorem d_W_law_309 : decode b_W_law 309 = .ok (.aload_n 0, 1) := by decide +kernel
theorem d_W_law_310 : decode b_W_law 310 = .ok (.iload 4, 2) := by decide +kernel
theorem d_W_law_312 : decode b_W_law 312 = .ok (.iconst 3, 1) := by decide +kernel
theorem d_W_law_313 : decode b_W_law 313 = .ok (.iadd, 1) := by decide +kernel
theorem d_W_law_314 : decode b_W_law 314 = .ok (.iaload, 1) := by decide +kernel
theorem d_W_law_315 : decode b_W_law 315 = .ok (.invokevirtual 51, 3) := by decide +kernel
theorem d_W_law_318 : decode b_W_law 318 = .ok (.if_icmp .eq 859, 3) := by decide +kernel
theorem d_W_law_321 : decode b_W_law 321 = .ok (.iconst 0, 1) := by decide +kernel
theorem d_W_law_322 : decode b_W_law 322 = .ok (.ireturn, 1) := by decide +kernel
theorem d_W_law_323 : decode b_W_law 323 = .ok (.aload_n 1, 1) := by decide +kernel
theorem d_W_law_324 : decode b_W_law 324 = .ok (.aload_n 0, 1) := by decide +kernel
theorem d_W_law_325 : decode b_W_law 325 = .ok (.iload 4, 2) := by decide +kernel
theorem d_W_law_327 : decode b_W_law 327 = .ok (.iconst 1, 1) := by decide +kernel
theorem d_W_law_328 : decode b_W_law 328 = .ok (.iadd, 1) := by decide +kernel
theorem d_W_law_329 : decode b_W_law 329 = .ok (.iaload, 1) := by decide +kernel
theorem d_W_law_330 : decode b_W_law 330 = .ok (.aload_n 0, 1) := by decide +kernel
theorem d_W_law_331 : decode b_W_law 331 = .ok (.iload 4, 2) := by decide +kernel
theorem d_W_law_333 : decode b_W_law 333 = .ok (.iconst 2, 1) := by decide +kernel
theorem d_W_law_334 : decode b_W_law 334 = .ok (.iadd, 1) := by decide +kernel
theorem d_W_law_335 : decode b_W_law 335 = .ok (.iaload, 1) := by decide +kernel
theorem d_W_law_336 : decode b_W_law 336 = .ok (.aload_n 0, 1) := by decide +kernel
theorem d_W_law_337 : decode b_W_law 337 = .ok (.iload 4, 2) := by decide +kernel
theorem d_W_law_339 : decode b_W_law 339 = .ok (.iconst 3, 1) := by decide +kernel
theorem d_W_law_340 : decode b_W_law 340 = .ok (.iadd, 1) := by decide +kernel
theorem d_W_law_341 : decode b_W_law 341 = .ok (.iaload, 1) := by decide +kernel
theorem d_W_law_342 : decode b_W_law 342 = .ok (.invokevirtual 52, 3) := by decide +kernel
theorem d_W_law_345 : decode b_W_law 345 = .ok (.aload_n 2, 1) := by decide +kernel
theorem d_W_law_346 : decode b_W_law 346 = .ok (.aload_n 0, 1) := by decide +kernel
theorem d_W_law_347 : decode b_W_law 347 = .ok (.iload 4, 2) := by decide +kernel
theorem d_W_law_349 : decode b_W_law 349 = .ok (.iconst 1, 1) := by decide +kernel
theorem d_W_law_350 : decode b_W_law 350 = .ok (.iadd, 1) := by decide +kernel
theorem d_W_law_351 : decode b_W_law 351 = .ok (.iaload, 1) := by decide +kernel
theorem d_W_law_352 : decode b_W_law 352 = .ok (.aload_n 0, 1) := by decide +kernel
theorem d_W_law_353 : decode b_W_law 353 = .ok (.iload 4, 2) := by decide +kernel
theorem d_W_law_355 : decode b_W_law 355 = .ok (.iconst 2, 1) := by decide +kernel
theorem d_W_law_356 : decode b_W_law 356 = .ok (.iadd, 1) := by decide +kernel
theorem d_W_law_357 : decode b_W_law 357 = .ok (.iaload, 1) := by decide +kernel
theorem d_W_law_358 : decode b_W_law 358 = .ok (.aload_n 0, 1) := by decide +kernel
theorem d_W_law_359 : decode b_W_law 359 = .ok (.iload 4, 2) := by decide +kernel
theorem d_W_law_361 : decode b_W_law 361 = .ok (.iconst 3, 1) := by decide +kernel
theorem d_W_law_362 : decode b_W_law 362 = .ok (.iadd, 1) := by decide +kernel
theorem d_W_law_363 : decode b_W_law 363 = .ok (.iaload, 1) := by decide +kernel
theorem d_W_law_364 : decode b_W_law 364 = .ok (.invokevirtual 55, 3) := by decide +kernel
theorem d_W_law_367 : decode b_W_law 367 = .ok (.if_icmp .eq 810, 3) := by decide +kernel
theorem d_W_law_370 : decode b_W_law 370 = .ok (.iconst 0, 1) := by decide +kernel
theorem d_W_law_371 : decode b_W_law 371 = .ok (.ireturn, 1) := by decide +kernel
theorem d_W_law_372 : decode b_W_law 372 = .ok (.aload_n 1, 1) := by decide +kernel
theorem d_W_law_373 : decode b_W_law 373 = .ok (.aload_n 0, 1) := by decide +kernel
theorem d_W_law_374 : decode b_W_law 374 = .ok (.iload 4, 2) := by decide +kernel
theorem d_W_law_376 : decode b_W_law 376 = .ok (.iconst 1, 1) := by decide +kernel
theorem d_W_law_377 : decode b_W_law 377 = .ok (.iadd, 1) := by decide +kernel
theorem d_W_law_378 : decode b_W_law 378 = .ok (.iaload, 1) := by decide +kernel
theorem d_W_law_379 : decode b_W_law 379 = .ok (.aload_n 0, 1) := by decide +kernel
theorem d_W_law_380 : decode b_W_law 380 = .ok (.iload 4, 2) := by decide +kernel
theorem d_W_law_382 : decode b_W_law 382 = .ok (.iconst 2, 1) := by decide +kernel
theorem d_W_law_383 : decode b_W_law 383 = .ok (.iadd, 1) := by decide +kernel
theorem d_W_law_384 : decode b_W_law 384 = .ok (.iaload, 1) := by decide +kernel
theorem d_W_law_385 : decode b_W_law 385 = .ok (.aload_n 0, 1) := by decide +kernel
theorem d_W_law_386 : decode b_W_law 386 = .ok (.iload 4, 2) := by decide +kernel
theorem d_W_law_388 : decode b_W_law 388 = .ok (.iconst 3, 1) := by decide +kernel
theorem d_W_law_389 : decode b_W_law 389 = .ok (.iadd, 1) := by decide +kernel
theorem d_W_law_390 : decode b_W_law 390 = .ok (.iaload, 1) := by decide +kernel
theorem d_W_law_391 : decode b_W_law 391 = .ok (.aload_n 0, 1) := by decide +kernel
theorem d_W_law_392 : decode b_W_law 392 = .ok (.iload 4, 2) := by decide +kernel
theorem d_W_law_394 : decode b_W_law 394 = .ok (.iconst 4, 1) := by decide +kernel
theorem d_W_law_395 : decode b_W_law 395 = .ok (.iadd, 1) := by decide +kernel
theorem d_W_law_396 : decode b_W_law 396 = .ok (.iaload, 1) := by decide +kernel
theorem d_W_law_397 : decode b_W_law 397 = .ok (.invokevirtual 56, 3) := by decide +kernel
theorem d_W_law_400 : decode b_W_law 400 = .ok (.aload_n 2, 1) := by decide +kernel
theorem d_W_law_401 : decode b_W_law 401 = .ok (.aload_n 0, 1) := by decide +kernel
theorem d_W_law_402 : decode b_W_law 402 = .ok (.iload 4, 2) := by decide +kernel
theorem d_W_law_404 : decode b_W_law 404 = .ok (.iconst 1, 1) := by decide +kernel
theorem d_W_law_405 : decode b_W_law 405 = .ok (.iadd, 1) := by decide +kernel
theorem d_W_law_406 : decode b_W_law 406 = .ok (.iaload, 1) := by decide +kernel
theorem d_W_law_407 : decode b_W_law 407 = .ok (.aload_n 0, 1) := by decide +kernel
theorem d_W_law_408 : decode b_W_law 408 = .ok (.iload 4, 2) := by decide +kernel
theorem d_W_law_410 : decode b_W_law 410 = .ok (.iconst 2, 1) := by decide +kernel
theorem d_W_law_411 : decode b_W_law 411 = .ok (.iadd, 1) := by decide +kernel
theorem d_W_law_412 : decode b_W_law 412 = .ok (.iaload, 1) := by decide +kernel
theorem d_W_law_413 : decode b_W_law 413 = .ok (.aload_n 0, 1) := by decide +kernel
theorem d_W_law_414 : decode b_W_law 414 = .ok (.iload 4, 2) := by decide +kernel
theorem d_W_law_416 : decode b_W_law 416 = .ok (.iconst 3, 1) := by decide +kernel
theorem d_W_law_417 : decode b_W_law 417 = .ok (.iadd, 1) := by decide +kernel
theorem d_W_law_418 : decode b_W_law 418 = .ok (.iaload, 1) := by decide +kernel
theorem d_W_law_419 : decode b_W_law 419 = .ok (.aload_n 0, 1) := by decide +kernel
theorem d_W_law_420 : decode b_W_law 420 = .ok (.iload 4, 2) := by decide +kernel
theorem d_W_law_422 : decode b_W_law 422 = .ok (.iconst 4, 1) := by decide +kernel
theorem d_W_law_423 : decode b_W_law 423 = .ok (.iadd, 1) := by decide +kernel
theorem d_W_law_424 : decode b_W_law 424 = .ok (.iaload, 1) := by decide +kernel
theorem d_W_law_425 : decode b_W_law 425 = .ok (.invokevirtual 59, 3) := by decide +kernel
theorem d_W_law_428 : decode b_W_law 428 = .ok (.if_icmp .eq 749, 3) := by decide +kernel
theorem d_W_law_431 : decode b_W_law 431 = .ok (.iconst 0, 1) := by decide +kernel
theorem d_W_law_432 : decode b_W_law 432 = .ok (.ireturn, 1) := by decide +kernel
theorem d_W_law_433 : decode b_W_law 433 = .ok (.aload_n 1, 1) := by decide +kernel
theorem d_W_law_434 : decode b_W_law 434 = .ok (.aload_n 0, 1) := by decide +kernel
theorem d_W_law_435 : decode b_W_law 435 = .ok (.iload 4, 2) := by decide +kernel
theorem d_W_law_437 : decode b_W_law 437 = .ok (.iconst 1, 1) := by decide +kernel
theorem d_W_law_438 : decode b_W_law 438 = .ok (.iadd, 1) := by decide +kernel
theorem d_W_law_439 : decode b_W_law 439 = .ok (.iaload, 1) := by decide +kernel
theorem d_W_law_440 : decode b_W_law 440 = .ok (.aload_n 0, 1) := by decide +kernel
theorem d_W_law_441 : decode b_W_law 441 = .ok (.iload 4, 2) := by decide +kernel
theorem d_W_law_443 : decode b_W_law 443 = .ok (.iconst 2, 1) := by decide +kernel
theorem d_W_law_444 : decode b_W_law 444 = .ok (.iadd, 1) := by decide +kernel
theorem d_W_law_445 : decode b_W_law 445 = .ok (.iaload, 1) := by decide +kernel
theorem d_W_law_446 : decode b_W_law 446 = .ok (.aload_n 0, 1) := by decide +kernel
theorem d_W_law_447 : decode b_W_law 447 = .ok (.iload 4, 2) := by decide +kernel
theorem d_W_law_449 : decode b_W_law 449 = .ok (.iconst 3, 1) := by decide +kernel
theorem d_W_law_450 : decode b_W_law 450 = .ok (.iadd, 1) := by decide +kernel
theorem d_W_law_451 : decode b_W_law 451 = .ok (.iaload, 1) := by decide +kernel
theorem d_W_law_452 : decode b_W_law 452 = .ok (.invokevirtual 60, 3) := by decide +kernel
theorem d_W_law_455 : decode b_W_law 455 = .ok (.aload_n 2, 1) := by decide +kernel
theorem d_W_law_456 : decode b_W_law 456 = .ok (.aload_n 0, 1) := by decide +kernel
theorem d_W_law_457 : decode b_W_law 457 = .ok (.iload 4, 2) := by decide +kernel
theorem d_W_law_459 : decode b_W_law 459 = .ok (.iconst 1, 1) := by decide +kernel
theorem d_W_law_460 : decode b_W_law 460 = .ok (.iadd, 1) := by decide +kernel
theorem d_W_law_461 : decode b_W_law 461 = .ok (.iaload, 1) := by decide +kernel
theorem d_W_law_462 : decode b_W_law 462 = .ok (.aload_n 0, 1) := by decide +kernel
theorem d_W_law_463 : decode b_W_law 463 = .ok (.iload 4, 2) := by decide +kernel
theorem d_W_law_465 : decode b_W_law 465 = .ok (.iconst 2, 1) := by decide +kernel
theorem d_W_law_466 : decode b_W_law 466 = .ok (.iadd, 1) := by decide +kernel
theorem d_W_law_467 : decode b_W_law 467 = .ok (.iaload, 1) := by decide +kernel
theorem d_W_law_468 : decode b_W_law 468 = .ok (.aload_n 0, 1) := by decide +kernel
theorem d_W_law_469 : decode b_W_law 469 = .ok (.iload 4, 2) := by decide +kernel
theorem d_W_law_471 : decode b_W_law 471 = .ok (.iconst 3, 1) := by decide +kernel
theorem d_W_law_472 : decode b_W_law 472 = .ok (.iadd, 1) := by decide +kernel
theorem d_W_law_473 : decode b_W_law 473 = .ok (.iaload, 1) := by decide +kernel
theorem d_W_law_474 : decode b_W_law 474 = .ok (.invokevirtual 63, 3) := by decide +kernel
theorem d_W_law_477 : decode b_W_law 477 = .ok (.if_icmp .eq 700, 3) := by decide +kernel
theorem d_W_law_480 : decode b_W_law 480 = .ok (.iconst 0, 1) := by decide +kernel
theorem d_W_law_481 : decode b_W_law 481 = .ok (.ireturn, 1) := by decide +kernel
theorem d_W_law_482 : decode b_W_law 482 = .ok (.aload_n 1, 1) := by decide +kernel
theorem d_W_law_483 : decode b_W_law 483 = .ok (.aload_n 0, 1) := by decide +kernel
theorem d_W_law_484 : decode b_W_law 484 = .ok (.iload 4, 2) := by decide +kernel
theorem d_W_law_486 : decode b_W_law 486 = .ok (.iconst 1, 1) := by decide +kernel
theorem d_W_law_487 : decode b_W_law 487 = .ok (.iadd, 1) := by decide +kernel
theorem d_W_law_488 : decode b_W_law 488 = .ok (.iaload, 1) := by decide +kernel
theorem d_W_law_489 : decode b_W_law 489 = .ok (.aload_n 0, 1) := by decide +kernel
theorem d_W_law_490 : decode b_W_law 490 = .ok (.iload 4, 2) := by decide +kernel
theorem d_W_law_492 : decode b_W_law 492 = .ok (.iconst 2, 1) := by decide +kernel
theorem d_W_law_493 : decode b_W_law 493 = .ok (.iadd, 1) := by decide +kernel
theorem d_W_law_494 : decode b_W_law 494 = .ok (.iaload, 1) := by decide +kernel
theorem d_W_law_495 : decode b_W_law 495 = .ok (.invokevirtual 64, 3) := by decide +kernel
theorem d_W_law_498 : decode b_W_law 498 = .ok (.aload_n 2, 1) := by decide +kernel
theorem d_W_law_499 : decode b_W_law 499 = .ok (.aload_n 0, 1) := by decide +kernel
theorem d_W_law_500 : decode b_W_law 500 = .ok (.iload 4, 2) := by decide +kernel
theorem d_W_law_502 : decode b_W_law 502 = .ok (.iconst 1, 1) := by decide +kernel
theorem d_W_law_503 : decode b_W_law 503 = .ok (.iadd, 1) := by decide +kernel
theorem d_W_law_504 : decode b_W_law 504 = .ok (.iaload, 1) := by decide +kernel
theorem d_W_law_505 : decode b_W_law 505 = .ok (.aload_n 0, 1) := by decide +kernel
theorem d_W_law_506 : decode b_W_law 506 = .ok (.iload 4, 2) := by decide +kernel
theorem d_W_law_508 : decode b_W_law 508 = .ok (.iconst 2, 1) := by decide +kernel
theorem d_W_law_509 : decode b_W_law 509 = .ok (.iadd, 1) := by decide +kernel
theorem d_W_law_510 : decode b_W_law 510 = .ok (.iaload, 1) := by decide +kernel
theorem d_W_law_511 : decode b_W_law 511 = .ok (.invokevirtual 68, 3) := by decide +kernel
theorem d_W_law_514 : decode b_W_law 514 = .ok (.if_icmp .eq 663, 3) := by decide +kernel
theorem d_W_law_517 : decode b_W_law 517 = .ok (.iconst 0, 1) := by decide +kernel
theorem d_W_law_518 : decode b_W_law 518 = .ok (.ireturn, 1) := by decide +kernel
theorem d_W_law_519 : decode b_W_law 519 = .ok (.aload_n 1, 1) := by decide +kernel
theorem d_W_law_520 : decode b_W_law 520 = .ok (.aload_n 0, 1) := by decide +kernel
theorem d_W_law_521 : decode b_W_law 521 = .ok (.iload 4, 2) := by decide +kernel
theorem d_W_law_523 : decode b_W_law 523 = .ok (.iconst 1, 1) := by decide +kernel
theorem d_W_law_524 : decode b_W_law 524 = .ok (.iadd, 1) := by decide +kernel
theorem d_W_law_525 : decode b_W_law 525 = .ok (.iaload, 1) := by decide +kernel
theorem d_W_law_526 : decode b_W_law 526 = .ok (.invokevirtual 69, 3) := by decide +kernel
theorem d_W_law_529 : decode b_W_law 529 = .ok (.aload_n 2, 1) := by decide +kernel
theorem d_W_law_530 : decode b_W_law 530 = .ok (.aload_n 0, 1) := by decide +kernel
theorem d_W_law_531 : decode b_W_law 531 = .ok (.iload 4, 2) := by decide +kernel
theorem d_W_law_533 : decode b_W_law 533 = .ok (.iconst 1, 1) := by decide +kernel
theorem d_W_law_534 : decode b_W_law 534 = .ok (.iadd, 1) := by decide +kernel
theorem d_W_law_535 : decode b_W_law 535 = .ok (.iaload, 1) := by decide +kernel
theorem d_W_law_536 : decode b_W_law 536 = .ok (.invokevirtual 73, 3) := by decide +kernel
theorem d_W_law_539 : decode b_W_law 539 = .ok (.if_icmp .eq 638, 3) := by decide +kernel
theorem d_W_law_542 : decode b_W_law 542 = .ok (.iconst 0, 1) := by decide +kernel
theorem d_W_law_543 : decode b_W_law 543 = .ok (.ireturn, 1) := by decide +kernel
theorem d_W_law_544 : decode b_W_law 544 = .ok (.aload_n 1, 1) := by decide +kernel
theorem d_W_law_545 : decode b_W_law 545 = .ok (.aload_n 0, 1) := by decide +kernel
theorem d_W_law_546 : decode b_W_law 546 = .ok (.iload 4, 2) := by decide +kernel
theorem d_W_law_548 : decode b_W_law 548 = .ok (.iconst 1, 1) := by decide +kernel
theorem d_W_law_549 : decode b_W_law 549 = .ok (.iadd, 1) := by decide +kernel
theorem d_W_law_550 : decode b_W_law 550 = .ok (.iaload, 1) := by decide +kernel
theorem d_W_law_551 : decode b_W_law 551 = .ok (.aload_n 0, 1) := by decide +kernel
theorem d_W_law_552 : decode b_W_law 552 = .ok (.iload 4, 2) := by decide +kernel
theorem d_W_law_554 : decode b_W_law 554 = .ok (.iconst 2, 1) := by decide +kernel
theorem d_W_law_555 : decode b_W_law 555 = .ok (.iadd, 1) := by decide +kernel
theorem d_W_law_556 : decode b_W_law 556 = .ok (.iaload, 1) := by decide +kernel
theorem d_W_law_557 : decode b_W_law 557 = .ok (.invokevirtual 74, 3) := by decide +kernel
theorem d_W_law_560 : decode b_W_law 560 = .ok (.aload_n 2, 1) := by decide +kernel
theorem d_W_law_561 : decode b_W_law 561 = .ok (.aload_n 0, 1) := by decide +kernel
theorem d_W_law_562 : decode b_W_law 562 = .ok (.iload 4, 2) := by decide +kernel
theorem d_W_law_564 : decode b_W_law 564 = .ok (.iconst 1, 1) := by decide +kernel
theorem d_W_law_565 : decode b_W_law 565 = .ok (.iadd, 1) := by decide +kernel
theorem d_W_law_566 : decode b_W_law 566 = .ok (.iaload, 1) := by decide +kernel
theorem d_W_law_567 : decode b_W_law 567 = .ok (.aload_n 0, 1) := by decide +kernel
theorem d_W_law_568 : decode b_W_law 568 = .ok (.iload 4, 2) := by decide +kernel
theorem d_W_law_570 : decode b_W_law 570 = .ok (.iconst 2, 1) := by decide +kernel
theorem d_W_law_571 : decode b_W_law 571 = .ok (.iadd, 1) := by decide +kernel
theorem d_W_law_572 : decode b_W_law 572 = .ok (.iaload, 1) := by decide +kernel
theorem d_W_law_573 : decode b_W_law 573 = .ok (.invokevirtual 77, 3) := by decide +kernel
theorem d_W_law_576 : decode b_W_law 576 = .ok (.lcmp, 1) := by decide +kernel
theorem d_W_law_577 : decode b_W_law 577 = .ok (.ifCond .eq 600, 3) := by decide +kernel
theorem d_W_law_580 : decode b_W_law 580 = .ok (.iconst 0, 1) := by decide +kernel
theorem d_W_law_581 : decode b_W_law 581 = .ok (.ireturn, 1) := by decide +kernel
theorem d_W_law_582 : decode b_W_law 582 = .ok (.aload_n 1, 1) := by decide +kernel
theorem d_W_law_583 : decode b_W_law 583 = .ok (.aload_n 0, 1) := by decide +kernel
theorem d_W_law_584 : decode b_W_law 584 = .ok (.iload 4, 2) := by decide +kernel
theorem d_W_law_586 : decode b_W_law 586 = .ok (.iconst 1, 1) := by decide +kernel
theorem d_W_law_587 : decode b_W_law 587 = .ok (.iadd, 1) := by decide +kernel
theorem d_W_law_588 : decode b_W_law 588 = .ok (.iaload, 1) := by decide +kernel
theorem d_W_law_589 : decode b_W_law 589 = .ok (.aload_n 0, 1) := by decide +kernel
theorem d_W_law_590 : decode b_W_law 590 = .ok (.iload 4, 2) := by decide +kernel
theorem d_W_law_592 : decode b_W_law 592 = .ok (.iconst 2, 1) := by decide +kernel
theorem d_W_law_593 : decode b_W_law 593 = .ok (.iadd, 1) := by decide +kernel
theorem d_W_law_594 : decode b_W_law 594 = .ok (.iaload, 1) := by decide +kernel
theorem d_W_law_595 : decode b_W_law 595 = .ok (.invokevirtual 78, 3) := by decide +kernel
theorem d_W_law_598 : decode b_W_law 598 = .ok (.aload_n 2, 1) := by decide +kernel
theorem d_W_law_599 : decode b_W_law 599 = .ok (.aload_n 0, 1) := by decide +kernel
theorem d_W_law_600 : decode b_W_law 600 = .ok (.iload 4, 2) := by decide +kernel
theorem d_W_law_602 : decode b_W_law 602 = .ok (.iconst 1, 1) := by decide +kernel
theorem d_W_law_603 : decode b_W_law 603 = .ok (.iadd, 1) := by decide +kernel
theorem d_W_law_604 : decode b_W_law 604 = .ok (.iaload, 1) := by decide +kernel
theorem d_W_law_605 : decode b_W_law 605 = .ok (.aload_n 0, 1) := by decide +kernel
theorem d_W_law_606 : decode b_W_law 606 = .ok (.iload 4, 2) := by decide +kernel
theorem d_W_law_608 : decode b_W_law 608 = .ok (.iconst 2, 1) := by decide +kernel
theorem d_W_law_609 : decode b_W_law 609 = .ok (.iadd, 1) := by decide +kernel
theorem d_W_law_610 : decode b_W_law 610 = .ok (.iaload, 1) := by decide +kernel
theorem d_W_law_611 : decode b_W_law 611 = .ok (.invokevirtual 81, 3) := by decide +kernel
theorem d_W_law_614 : decode b_W_law 614 = .ok (.lcmp, 1) := by decide +kernel
theorem d_W_law_615 : decode b_W_law 615 = .ok (.ifCond .eq 562, 3) := by decide +kernel
theorem d_W_law_618 : decode b_W_law 618 = .ok (.iconst 0, 1) := by decide +kernel
theorem d_W_law_619 : decode b_W_law 619 = .ok (.ireturn, 1) := by decide +kernel
theorem d_W_law_620 : decode b_W_law 620 = .ok (.aload_n 1, 1) := by decide +kernel
theorem d_W_law_621 : decode b_W_law 621 = .ok (.aload_n 0, 1) := by decide +kernel
theorem d_W_law_622 : decode b_W_law 622 = .ok (.iload 4, 2) := by decide +kernel
theorem d_W_law_624 : decode b_W_law 624 = .ok (.iconst 1, 1) := by decide +kernel
theorem d_W_law_625 : decode b_W_law 625 = .ok (.iadd, 1) := by decide +kernel
theorem d_W_law_626 : decode b_W_law 626 = .ok (.iaload, 1) := by decide +kernel
theorem d_W_law_627 : decode b_W_law 627 = .ok (.invokevirtual 82, 3) := by decide +kernel
theorem d_W_law_630 : decode b_W_law 630 = .ok (.aload_n 2, 1) := by decide +kernel
theorem d_W_law_631 : decode b_W_law 631 = .ok (.aload_n 0, 1) := by decide +kernel
theorem d_W_law_632 : decode b_W_law 632 = .ok (.iload 4, 2) := by decide +kernel
theorem d_W_law_634 : decode b_W_law 634 = .ok (.iconst 1, 1) := by decide +kernel
theorem d_W_law_635 : decode b_W_law 635 = .ok (.iadd, 1) := by decide +kernel
theorem d_W_law_636 : decode b_W_law 636 = .ok (.iaload, 1) := by decide +kernel
theorem d_W_law_637 : decode b_W_law 637 = .ok (.invokevirtual 85, 3) := by decide +kernel
theorem d_W_law_640 : decode b_W_law 640 = .ok (.if_icmp .eq 537, 3) := by decide +kernel
theorem d_W_law_643 : decode b_W_law 643 = .ok (.iconst 0, 1) := by decide +kernel
theorem d_W_law_644 : decode b_W_law 644 = .ok (.ireturn, 1) := by decide +kernel
theorem d_W_law_645 : decode b_W_law 645 = .ok (.aload_n 1, 1) := by decide +kernel
theorem d_W_law_646 : decode b_W_law 646 = .ok (.aload_n 0, 1) := by decide +kernel
theorem d_W_law_647 : decode b_W_law 647 = .ok (.iload 4, 2) := by decide +kernel
theorem d_W_law_649 : decode b_W_law 649 = .ok (.iconst 1, 1) := by decide +kernel
theorem d_W_law_650 : decode b_W_law 650 = .ok (.iadd, 1) := by decide +kernel
theorem d_W_law_651 : decode b_W_law 651 = .ok (.iaload, 1) := by decide +kernel
theorem d_W_law_652 : decode b_W_law 652 = .ok (.aload_n 0, 1) := by decide +kernel
theorem d_W_law_653 : decode b_W_law 653 = .ok (.iload 4, 2) := by decide +kernel
theorem d_W_law_655 : decode b_W_law 655 = .ok (.iconst 2, 1) := by decide +kernel
theorem d_W_law_656 : decode b_W_law 656 = .ok (.iadd, 1) := by decide +kernel
theorem d_W_law_657 : decode b_W_law 657 = .ok (.iaload, 1) := by decide +kernel
theorem d_W_law_658 : decode b_W_law 658 = .ok (.aload_n 0, 1) := by decide +kernel
theorem d_W_law_659 : decode b_W_law 659 = .ok (.iload 4, 2) := by decide +kernel
theorem d_W_law_661 : decode b_W_law 661 = .ok (.iconst 3, 1) := by decide +kernel
theorem d_W_law_662 : decode b_W_law 662 = .ok (.iadd, 1) := by decide +kernel
theorem d_W_law_663 : decode b_W_law 663 = .ok (.iaload, 1) := by decide +kernel
theorem d_W_law_664 : decode b_W_law 664 = .ok (.aload_n 3, 1) := by decide +kernel
theorem d_W_law_665 : decode b_W_law 665 = .ok (.invokestatic 86, 3) := by decide +kernel
theorem d_W_law_668 : decode b_W_law 668 = .ok (.istore 5, 2) := by decide +kernel
theorem d_W_law_670 : decode b_W_law 670 = .ok (.aload_n 2, 1) := by decide +kernel
theorem d_W_law_671 : decode b_W_law 671 = .ok (.aload_n 0, 1) := by decide +kernel
theorem d_W_law_672 : decode b_W_law 672 = .ok (.iload 4, 2) := by decide +kernel
theorem d_W_law_674 : decode b_W_law 674 = .ok (.iconst 1, 1) := by decide +kernel
theorem d_W_law_675 : decode b_W_law 675 = .ok (.iadd, 1) := by decide +kernel
theorem d_W_law_676 : decode b_W_law 676 = .ok (.iaload, 1) := by decide +kernel
theorem d_W_law_677 : decode b_W_law 677 = .ok (.aload_n 0, 1) := by decide +kernel
theorem d_W_law_678 : decode b_W_law 678 = .ok (.iload 4, 2) := by decide +kernel
theorem d_W_law_680 : decode b_W_law 680 = .ok (.iconst 2, 1) := by decide +kernel
theorem d_W_law_681 : decode b_W_law 681 = .ok (.iadd, 1) := by decide +kernel
theorem d_W_law_682 : decode b_W_law 682 = .ok (.iaload, 1) := by decide +kernel
theorem d_W_law_683 : decode b_W_law 683 = .ok (.aload_n 0, 1) := by decide +kernel
theorem d_W_law_684 : decode b_W_law 684 = .ok (.iload 4, 2) := by decide +kernel
theorem d_W_law_686 : decode b_W_law 686 = .ok (.iconst 3, 1) := by decide +kernel
theorem d_W_law_687 : decode b_W_law 687 = .ok (.iadd, 1) := by decide +kernel
theorem d_W_law_688 : decode b_W_law 688 = .ok (.iaload, 1) := by decide +kernel
theorem d_W_law_689 : decode b_W_law 689 = .ok (.invokevirtual 89, 3) := by decide +kernel
theorem d_W_law_692 : decode b_W_law 692 = .ok (.istore 6, 2) := by decide +kernel
theorem d_W_law_694 : decode b_W_law 694 = .ok (.aload_n 2, 1) := by decide +kernel
theorem d_W_law_695 : decode b_W_law 695 = .ok (.invokevirtual 90, 3) := by decide +kernel
theorem d_W_law_698 : decode b_W_law 698 = .ok (.iload 5, 2) := by decide +kernel
theorem d_W_law_700 : decode b_W_law 700 = .ok (.if_icmp .eq 5, 3) := by decide +kernel
theorem d_W_law_703 : decode b_W_law 703 = .ok (.iconst 0, 1) := by decide +kernel
theorem d_W_law_704 : decode b_W_law 704 = .ok (.ireturn, 1) := by decide +kernel
theorem d_W_law_705 : decode b_W_law 705 = .ok (.iload 5, 2) := by decide +kernel
theorem d_W_law_707 : decode b_W_law 707 = .ok (.ifCond .ne 15, 3) := by decide +kernel
theorem d_W_law_710 : decode b_W_law 710 = .ok (.aload_n 3, 1) := by decide +kernel
theorem d_W_law_711 : decode b_W_law 711 = .ok (.iconst 0, 1) := by decide +kernel
theorem d_W_law_712 : decode b_W_law 712 = .ok (.laload, 1) := by decide +kernel
theorem d_W_law_713 : decode b_W_law 713 = .ok (.iload 6, 2) := by decide +kernel
theorem d_W_law_715 : decode b_W_law 715 = .ok (.i2l, 1) := by decide +kernel
theorem d_W_law_716 : decode b_W_law 716 = .ok (.lcmp, 1) := by decide +kernel
theorem d_W_law_717 : decode b_W_law 717 = .ok (.ifCond .eq 5, 3) := by decide +kernel
theorem d_W_law_720 : decode b_W_law 720 = .ok (.iconst 0, 1) := by decide +kernel
theorem d_W_law_721 : decode b_W_law 721 = .ok (.ireturn, 1) := by decide +kernel
theorem d_W_law_722 : decode b_W_law 722 = .ok (.goto 455, 3) := by decide +kernel
theorem d_W_law_725 : decode b_W_law 725 = .ok (.aload_n 1, 1) := by decide +kernel
theorem d_W_law_726 : decode b_W_law 726 = .ok (.aload_n 0, 1) := by decide +kernel
theorem d_W_law_727 : decode b_W_law 727 = .ok (.iload 4, 2) := by decide +kernel
theorem d_W_law_729 : decode b_W_law 729 = .ok (.iconst 1, 1) := by decide +kernel
theorem d_W_law_730 : decode b_W_law 730 = .ok (.iadd, 1) := by decide +kernel
theorem d_W_law_731 : decode b_W_law 731 = .ok (.iaload, 1) := by decide +kernel
theorem d_W_law_732 : decode b_W_law 732 = .ok (.aload_n 0, 1) := by decide +kernel
theorem d_W_law_733 : decode b_W_law 733 = .ok (.iload 4, 2) := by decide +kernel
theorem d_W_law_735 : decode b_W_law 735 = .ok (.iconst 2, 1) := by decide +kernel
theorem d_W_law_736 : decode b_W_law 736 = .ok (.iadd, 1) := by decide +kernel
theorem d_W_law_737 : decode b_W_law 737 = .ok (.iaload, 1) := by decide +kernel
theorem d_W_law_738 : decode b_W_law 738 = .ok (.invokevirtual 94, 3) := by decide +kernel
theorem d_W_law_741 : decode b_W_law 741 = .ok (.aload_n 2, 1) := by decide +kernel
theorem d_W_law_742 : decode b_W_law 742 = .ok (.aload_n 0, 1) := by decide +kernel
theorem d_W_law_743 : decode b_W_law 743 = .ok (.iload 4, 2) := by decide +kernel
theorem d_W_law_745 : decode b_W_law 745 = .ok (.iconst 1, 1) := by decide +kernel
theorem d_W_law_746 : decode b_W_law 746 = .ok (.iadd, 1) := by decide +kernel
theorem d_W_law_747 : decode b_W_law 747 = .ok (.iaload, 1) := by decide +kernel
theorem d_W_law_748 : decode b_W_law 748 = .ok (.aload_n 0, 1) := by decide +kernel
theorem d_W_law_749 : decode b_W_law 749 = .ok (.iload 4, 2) := by decide +kernel
theorem d_W_law_751 : decode b_W_law 751 = .ok (.iconst 2, 1) := by decide +kernel
theorem d_W_law_752 : decode b_W_law 752 = .ok (.iadd, 1) := by decide +kernel
theorem d_W_law_753 : decode b_W_law 753 = .ok (.iaload, 1) := by decide +kernel
theorem d_W_law_754 : decode b_W_law 754 = .ok (.invokevirtual 97, 3) := by decide +kernel
theorem d_W_law_757 : decode b_W_law 757 = .ok (.if_icmp .eq 420, 3) := by decide +kernel
theorem d_W_law_760 : decode b_W_law 760 = .ok (.iconst 0, 1) := by decide +kernel
theorem d_W_law_761 : decode b_W_law 761 = .ok (.ireturn, 1) := by decide +kernel
theorem d_W_law_762 : decode b_W_law 762 = .ok (.aload_n 1, 1) := by decide +kernel
theorem d_W_law_763 : decode b_W_law 763 = .ok (.aload_n 0, 1) := by decide +kernel
theorem d_W_law_764 : decode b_W_law 764 = .ok (.iload 4, 2) := by decide +kernel
theorem d_W_law_766 : decode b_W_law 766 = .ok (.iconst 1, 1) := by decide +kernel
theorem d_W_law_767 : decode b_W_law 767 = .ok (.iadd, 1) := by decide +kernel
theorem d_W_law_768 : decode b_W_law 768 = .ok (.iaload, 1) := by decide +kernel
theorem d_W_law_769 : decode b_W_law 769 = .ok (.invokevirtual 98, 3) := by decide +kernel
theorem d_W_law_772 : decode b_W_law 772 = .ok (.aload_n 2, 1) := by decide +kernel
theorem d_W_law_773 : decode b_W_law 773 = .ok (.aload_n 0, 1) := by decide +kernel
theorem d_W_law_774 : decode b_W_law 774 = .ok (.iload 4, 2) := by decide +kernel
theorem d_W_law_776 : decode b_W_law 776 = .ok (.iconst 1, 1) := by decide +kernel
theorem d_W_law_777 : decode b_W_law 777 = .ok (.iadd, 1) := by decide +kernel
theorem d_W_law_778 : decode b_W_law 778 = .ok (.iaload, 1) := by decide +kernel
theorem d_W_law_779 : decode b_W_law 779 = .ok (.invokevirtual 102, 3) := by decide +kernel
theorem d_W_law_782 : decode b_W_law 782 = .ok (.if_icmp .eq 395, 3) := by decide +kernel
theorem d_W_law_785 : decode b_W_law 785 = .ok (.iconst 0, 1) := by decide +kernel
theorem d_W_law_786 : decode b_W_law 786 = .ok (.ireturn, 1) := by decide +kernel
theorem d_W_law_787 : decode b_W_law 787 = .ok (.aload_n 1, 1) := by decide +kernel
theorem d_W_law_788 : decode b_W_law 788 = .ok (.aload_n 0, 1) := by decide +kernel
theorem d_W_law_789 : decode b_W_law 789 = .ok (.iload 4, 2) := by decide +kernel
theorem d_W_law_791 : decode b_W_law 791 = .ok (.iconst 1, 1) := by decide +kernel
theorem d_W_law_792 : decode b_W_law 792 = .ok (.iadd, 1) := by decide +kernel
theorem d_W_law_793 : decode b_W_law 793 = .ok (.iaload, 1) := by decide +kernel
theorem d_W_law_794 : decode b_W_law 794 = .ok (.aload_n 0, 1) := by decide +kernel
theorem d_W_law_795 : decode b_W_law 795 = .ok (.iload 4, 2) := by decide +kernel
theorem d_W_law_797 : decode b_W_law 797 = .ok (.iconst 2, 1) := by decide +kernel
theorem d_W_law_798 : decode b_W_law 798 = .ok (.iadd, 1) := by decide +kernel
theorem d_W_law_799 : decode b_W_law 799 = .ok (.iaload, 1) := by decide +kernel
theorem d_W_law_800 : decode b_W_law 800 = .ok (.aload_n 0, 1) := by decide +kernel
theorem d_W_law_801 : decode b_W_law 801 = .ok (.iload 4, 2) := by decide +kernel
theorem d_W_law_803 : decode b_W_law 803 = .ok (.iconst 3, 1) := by decide +kernel
theorem d_W_law_804 : decode b_W_law 804 = .ok (.iadd, 1) := by decide +kernel
theorem d_W_law_805 : decode b_W_law 805 = .ok (.iaload, 1) := by decide +kernel
theorem d_W_law_806 : decode b_W_law 806 = .ok (.aload_n 0, 1) := by decide +kernel
theorem d_W_law_807 : decode b_W_law 807 = .ok (.iload 4, 2) := by decide +kernel
theorem d_W_law_809 : decode b_W_law 809 = .ok (.iconst 4, 1) := by decide +kernel
theorem d_W_law_810 : decode b_W_law 810 = .ok (.iadd, 1) := by decide +kernel
theorem d_W_law_811 : decode b_W_law 811 = .ok (.iaload, 1) := by decide +kernel
theorem d_W_law_812 : decode b_W_law 812 = .ok (.aload_n 3, 1) := by decide +kernel
theorem d_W_law_813 : decode b_W_law 813 = .ok (.invokestatic 103, 3) := by decide +kernel
theorem d_W_law_816 : decode b_W_law 816 = .ok (.istore 5, 2) := by decide +kernel
theorem d_W_law_818 : decode b_W_law 818 = .ok (.aload_n 2, 1) := by decide +kernel
theorem d_W_law_819 : decode b_W_law 819 = .ok (.aload_n 0, 1) := by decide +kernel
theorem d_W_law_820 : decode b_W_law 820 = .ok (.iload 4, 2) := by decide +kernel
theorem d_W_law_822 : decode b_W_law 822 = .ok (.iconst 1, 1) := by decide +kernel
theorem d_W_law_823 : decode b_W_law 823 = .ok (.iadd, 1) := by decide +kernel
theorem d_W_law_824 : decode b_W_law 824 = .ok (.iaload, 1) := by decide +kernel
theorem d_W_law_825 : decode b_W_law 825 = .ok (.aload_n 0, 1) := by decide +kernel
theorem d_W_law_826 : decode b_W_law 826 = .ok (.iload 4, 2) := by decide +kernel
theorem d_W_law_828 : decode b_W_law 828 = .ok (.iconst 2, 1) := by decide +kernel
theorem d_W_law_829 : decode b_W_law 829 = .ok (.iadd, 1) := by decide +kernel
theorem d_W_law_830 : decode b_W_law 830 = .ok (.iaload, 1) := by decide +kernel
theorem d_W_law_831 : decode b_W_law 831 = .ok (.aload_n 0, 1) := by decide +kernel
theorem d_W_law_832 : decode b_W_law 832 = .ok (.iload 4, 2) := by decide +kernel
theorem d_W_law_834 : decode b_W_law 834 = .ok (.iconst 3, 1) := by decide +kernel
theorem d_W_law_835 : decode b_W_law 835 = .ok (.iadd, 1) := by decide +kernel
theorem d_W_law_836 : decode b_W_law 836 = .ok (.iaload, 1) := by decide +kernel
theorem d_W_law_837 : decode b_W_law 837 = .ok (.aload_n 0, 1) := by decide +kernel
theorem d_W_law_838 : decode b_W_law 838 = .ok (.iload 4, 2) := by decide +kernel
theorem d_W_law_840 : decode b_W_law 840 = .ok (.iconst 4, 1) := by decide +kernel
theorem d_W_law_841 : decode b_W_law 841 = .ok (.iadd, 1) := by decide +kernel
theorem d_W_law_842 : decode b_W_law 842 = .ok (.iaload, 1) := by decide +kernel
theorem d_W_law_843 : decode b_W_law 843 = .ok (.invokevirtual 106, 3) := by decide +kernel
theorem d_W_law_846 : decode b_W_law 846 = .ok (.lstore 6, 2) := by decide +kernel
theorem d_W_law_848 : decode b_W_law 848 = .ok (.aload_n 2, 1) := by decide +kernel
theorem d_W_law_849 : decode b_W_law 849 = .ok (.invokevirtual 90, 3) := by decide +kernel
theorem d_W_law_852 : decode b_W_law 852 = .ok (.iload 5, 2) := by decide +kernel
theorem d_W_law_854 : decode b_W_law 854 = .ok (.if_icmp .eq 5, 3) := by decide +kernel
theorem d_W_law_857 : decode b_W_law 857 = .ok (.iconst 0, 1) := by decide +kernel
theorem d_W_law_858 : decode b_W_law 858 = .ok (.ireturn, 1) := by decide +kernel
theorem d_W_law_859 : decode b_W_law 859 = .ok (.iload 5, 2) := by decide +kernel
theorem d_W_law_861 : decode b_W_law 861 = .ok (.ifCond .ne 14, 3) := by decide +kernel
theorem d_W_law_864 : decode b_W_law 864 = .ok (.aload_n 3, 1) := by decide +kernel
theorem d_W_law_865 : decode b_W_law 865 = .ok (.iconst 0, 1) := by decide +kernel
theorem d_W_law_866 : decode b_W_law 866 = .ok (.laload, 1) := by decide +kernel
theorem d_W_law_867 : decode b_W_law 867 = .ok (.lload 6, 2) := by decide +kernel
theorem d_W_law_869 : decode b_W_law 869 = .ok (.lcmp, 1) := by decide +kernel
theorem d_W_law_870 : decode b_W_law 870 = .ok (.ifCond .eq 5, 3) := by decide +kernel
theorem d_W_law_873 : decode b_W_law 873 = .ok (.iconst 0, 1) := by decide +kernel
theorem d_W_law_874 : decode b_W_law 874 = .ok (.ireturn, 1) := by decide +kernel
theorem d_W_law_875 : decode b_W_law 875 = .ok (.goto 302, 3) := by decide +kernel
theorem d_W_law_878 : decode b_W_law 878 = .ok (.aload_n 1, 1) := by decide +kernel
theorem d_W_law_879 : decode b_W_law 879 = .ok (.aload_n 0, 1) := by decide +kernel
theorem d_W_law_880 : decode b_W_law 880 = .ok (.iload 4, 2) := by decide +kernel
theorem d_W_law_882 : decode b_W_law 882 = .ok (.iconst 1, 1) := by decide +kernel
theorem d_W_law_883 : decode b_W_law 883 = .ok (.iadd, 1) := by decide +kernel
theorem d_W_law_884 : decode b_W_law 884 = .ok (.iaload, 1) := by decide +kernel
theorem d_W_law_885 : decode b_W_law 885 = .ok (.aload_n 0, 1) := by decide +kernel
theorem d_W_law_886 : decode b_W_law 886 = .ok (.iload 4, 2) := by decide +kernel
theorem d_W_law_888 : decode b_W_law 888 = .ok (.iconst 2, 1) := by decide +kernel
theorem d_W_law_889 : decode b_W_law 889 = .ok (.iadd, 1) := by decide +kernel
theorem d_W_law_890 : decode b_W_law 890 = .ok (.iaload, 1) := by decide +kernel
theorem d_W_law_891 : decode b_W_law 891 = .ok (.aload_n 0, 1) := by decide +kernel
theorem d_W_law_892 : decode b_W_law 892 = .ok (.iload 4, 2) := by decide +kernel
theorem d_W_law_894 : decode b_W_law 894 = .ok (.iconst 3, 1) := by decide +kernel
theorem d_W_law_895 : decode b_W_law 895 = .ok (.iadd, 1) := by decide +kernel
theorem d_W_law_896 : decode b_W_law 896 = .ok (.iaload, 1) := by decide +kernel
theorem d_W_law_897 : decode b_W_law 897 = .ok (.invokevirtual 107, 3) := by decide +kernel
theorem d_W_law_900 : decode b_W_law 900 = .ok (.aload_n 2, 1) := by decide +kernel
theorem d_W_law_901 : decode b_W_law 901 = .ok (.aload_n 0, 1) := by decide +kernel
theorem d_W_law_902 : decode b_W_law 902 = .ok (.iload 4, 2) := by decide +kernel
theorem d_W_law_904 : decode b_W_law 904 = .ok (.iconst 1, 1) := by decide +kernel
theorem d_W_law_905 : decode b_W_law 905 = .ok (.iadd, 1) := by decide +kernel
theorem d_W_law_906 : decode b_W_law 906 = .ok (.iaload, 1) := by decide +kernel
theorem d_W_law_907 : decode b_W_law 907 = .ok (.aload_n 0, 1) := by decide +kernel
theorem d_W_law_908 : decode b_W_law 908 = .ok (.iload 4, 2) := by decide +kernel
theorem d_W_law_910 : decode b_W_law 910 = .ok (.iconst 2, 1) := by decide +kernel
theorem d_W_law_911 : decode b_W_law 911 = .ok (.iadd, 1) := by decide +kernel
theorem d_W_law_912 : decode b_W_law 912 = .ok (.iaload, 1) := by decide +kernel
theorem d_W_law_913 : decode b_W_law 913 = .ok (.aload_n 0, 1) := by decide +kernel
theorem d_W_law_914 : decode b_W_law 914 = .ok (.iload 4, 2) := by decide +kernel
theorem d_W_law_916 : decode b_W_law 916 = .ok (.iconst 3, 1) := by decide +kernel
theorem d_W_law_917 : decode b_W_law 917 = .ok (.iadd, 1) := by decide +kernel
theorem d_W_law_918 : decode b_W_law 918 = .ok (.iaload, 1) := by decide +kernel
theorem d_W_law_919 : decode b_W_law 919 = .ok (.invokevirtual 111, 3) := by decide +kernel
theorem d_W_law_922 : decode b_W_law 922 = .ok (.lcmp, 1) := by decide +kernel
theorem d_W_law_923 : decode b_W_law 923 = .ok (.ifCond .eq 254, 3) := by decide +kernel
theorem d_W_law_926 : decode b_W_law 926 = .ok (.iconst 0, 1) := by decide +kernel
theorem d_W_law_927 : decode b_W_law 927 = .ok (.ireturn, 1) := by decide +kernel
theorem d_W_law_928 : decode b_W_law 928 = .ok (.aload_n 1, 1) := by decide +kernel
theorem d_W_law_929 : decode b_W_law 929 = .ok (.aload_n 0, 1) := by decide +kernel
theorem d_W_law_930 : decode b_W_law 930 = .ok (.iload 4, 2) := by decide +kernel
theorem d_W_law_932 : decode b_W_law 932 = .ok (.iconst 1, 1) := by decide +kernel
theorem d_W_law_933 : decode b_W_law 933 = .ok (.iadd, 1) := by decide +kernel
theorem d_W_law_934 : decode b_W_law 934 = .ok (.iaload, 1) := by decide +kernel
theorem d_W_law_935 : decode b_W_law 935 = .ok (.aload_n 0, 1) := by decide +kernel
theorem d_W_law_936 : decode b_W_law 936 = .ok (.iload 4, 2) := by decide +kernel
theorem d_W_law_938 : decode b_W_law 938 = .ok (.iconst 2, 1) := by decide +kernel
theorem d_W_law_939 : decode b_W_law 939 = .ok (.iadd, 1) := by decide +kernel
theorem d_W_law_940 : decode b_W_law 940 = .ok (.iaload, 1) := by decide +kernel
theorem d_W_law_941 : decode b_W_law 941 = .ok (.aload_n 3, 1) := by decide +kernel
theorem d_W_law_942 : decode b_W_law 942 = .ok (.invokestatic 112, 3) := by decide +kernel
theorem d_W_law_945 : decode b_W_law 945 = .ok (.istore 5, 2) := by decide +kernel
theorem d_W_law_947 : decode b_W_law 947 = .ok (.aload_n 2, 1) := by decide +kernel
theorem d_W_law_948 : decode b_W_law 948 = .ok (.aload_n 0, 1) := by decide +kernel
theorem d_W_law_949 : decode b_W_law 949 = .ok (.iload 4, 2) := by decide +kernel
theorem d_W_law_951 : decode b_W_law 951 = .ok (.iconst 1, 1) := by decide +kernel
theorem d_W_law_952 : decode b_W_law 952 = .ok (.iadd, 1) := by decide +kernel
theorem d_W_law_953 : decode b_W_law 953 = .ok (.iaload, 1) := by decide +kernel
theorem d_W_law_954 : decode b_W_law 954 = .ok (.aload_n 0, 1) := by decide +kernel
theorem d_W_law_955 : decode b_W_law 955 = .ok (.iload 4, 2) := by decide +kernel
theorem d_W_law_957 : decode b_W_law 957 = .ok (.iconst 2, 1) := by decide +kernel
theorem d_W_law_958 : decode b_W_law 958 = .ok (.iadd, 1) := by decide +kernel
theorem d_W_law_959 : decode b_W_law 959 = .ok (.iaload, 1) := by decide +kernel
theorem d_W_law_960 : decode b_W_law 960 = .ok (.invokevirtual 115, 3) := by decide +kernel
theorem d_W_law_963 : decode b_W_law 963 = .ok (.lstore 6, 2) := by decide +kernel
theorem d_W_law_965 : decode b_W_law 965 = .ok (.aload_n 2, 1) := by decide +kernel
theorem d_W_law_966 : decode b_W_law 966 = .ok (.invokevirtual 90, 3) := by decide +kernel
theorem d_W_law_969 : decode b_W_law 969 = .ok (.iload 5, 2) := by decide +kernel
theorem d_W_law_971 : decode b_W_law 971 = .ok (.if_icmp .eq 5, 3) := by decide +kernel
theorem d_W_law_974 : decode b_W_law 974 = .ok (.iconst 0, 1) := by decide +kernel
theorem d_W_law_975 : decode b_W_law 975 = .ok (.ireturn, 1) := by decide +kernel
theorem d_W_law_976 : decode b_W_law 976 = .ok (.iload 5, 2) := by decide +kernel
theorem d_W_law_978 : decode b_W_law 978 = .ok (.ifCond .ne 14, 3) := by decide +kernel
theorem d_W_law_981 : decode b_W_law 981 = .ok (.aload_n 3, 1) := by decide +kernel
theorem d_W_law_982 : decode b_W_law 982 = .ok (.iconst 0, 1) := by decide +kernel
theorem d_W_law_983 : decode b_W_law 983 = .ok (.laload, 1) := by decide +kernel
theorem d_W_law_984 : decode b_W_law 984 = .ok (.lload 6, 2) := by decide +kernel
theorem d_W_law_986 : decode b_W_law 986 = .ok (.lcmp, 1) := by decide +kernel
theorem d_W_law_987 : decode b_W_law 987 = .ok (.ifCond .eq 5, 3) := by decide +kernel
theorem d_W_law_990 : decode b_W_law 990 = .ok (.iconst 0, 1) := by decide +kernel
theorem d_W_law_991 : decode b_W_law 991 = .ok (.ireturn, 1) := by decide +kernel
theorem d_W_law_992 : decode b_W_law 992 = .ok (.goto 185, 3) := by decide +kernel
theorem d_W_law_995 : decode b_W_law 995 = .ok (.aload_n 1, 1) := by decide +kernel
theorem d_W_law_996 : decode b_W_law 996 = .ok (.aload_n 0, 1) := by decide +kernel
theorem d_W_law_997 : decode b_W_law 997 = .ok (.iload 4, 2) := by decide +kernel
theorem d_W_law_999 : decode b_W_law 999 = .ok (.iconst 1, 1) := by decide +kernel
theorem d_W_law_1000 : decode b_W_law 1000 = .ok (.iadd, 1) := by decide +kernel
theorem d_W_law_1001 : decode b_W_law 1001 = .ok (.iaload, 1) := by decide +kernel
theorem d_W_law_1002 : decode b_W_law 1002 = .ok (.aload_n 0, 1) := by decide +kernel
theorem d_W_law_1003 : decode b_W_law 1003 = .ok (.iload 4, 2) := by decide +kernel
theorem d_W_law_1005 : decode b_W_law 1005 = .ok (.iconst 2, 1) := by decide +kernel
theorem d_W_law_1006 : decode b_W_law 1006 = .ok (.iadd, 1) := by decide +kernel
theorem d_W_law_1007 : decode b_W_law 1007 = .ok (.iaload, 1) := by decide +kernel
theorem d_W_law_1008 : decode b_W_law 1008 = .ok (.invokevirtual 116, 3) := by decide +kernel
theorem d_W_law_1011 : decode b_W_law 1011 = .ok (.aload_n 2, 1) := by decide +kernel
theorem d_W_law_1012 : decode b_W_law 1012 = .ok (.aload_n 0, 1) := by decide +kernel
theorem d_W_law_1013 : decode b_W_law 1013 = .ok (.iload 4, 2) := by decide +kernel
theorem d_W_law_1015 : decode b_W_law 1015 = .ok (.iconst 1, 1) := by decide +kernel
theorem d_W_law_1016 : decode b_W_law 1016 = .ok (.iadd, 1) := by decide +kernel
theorem d_W_law_1017 : decode b_W_law 1017 = .ok (.iaload, 1) := by decide +kernel
theorem d_W_law_1018 : decode b_W_law 1018 = .ok (.aload_n 0, 1) := by decide +kernel
theorem d_W_law_1019 : decode b_W_law 1019 = .ok (.iload 4, 2) := by decide +kernel
theorem d_W_law_1021 : decode b_W_law 1021 = .ok (.iconst 2, 1) := by decide +kernel
theorem d_W_law_1022 : decode b_W_law 1022 = .ok (.iadd, 1) := by decide +kernel
theorem d_W_law_1023 : decode b_W_law 1023 = .ok (.iaload, 1) := by decide +kernel
theorem d_W_law_1024 : decode b_W_law 1024 = .ok (.invokevirtual 119, 3) := by decide +kernel
theorem d_W_law_1027 : decode b_W_law 1027 = .ok (.lcmp, 1) := by decide +kernel
theorem d_W_law_1028 : decode b_W_law 1028 = .ok (.ifCond .eq 149, 3) := by decide +kernel
theorem d_W_law_1031 : decode b_W_law 1031 = .ok (.iconst 0, 1) := by decide +kernel
theorem d_W_law_1032 : decode b_W_law 1032 = .ok (.ireturn, 1) := by decide +kernel
theorem d_W_law_1033 : decode b_W_law 1033 = .ok (.aload_n 1, 1) := by decide +kernel
theorem d_W_law_1034 : decode b_W_law 1034 = .ok (.aload_n 0, 1) := by decide +kernel
theorem d_W_law_1035 : decode b_W_law 1035 = .ok (.iload 4, 2) := by decide +kernel
theorem d_W_law_1037 : decode b_W_law 1037 = .ok (.iconst 1, 1) := by decide +kernel
theorem d_W_law_1038 : decode b_W_law 1038 = .ok (.iadd, 1) := by decide +kernel
theorem d_W_law_1039 : decode b_W_law 1039 = .ok (.iaload, 1) := by decide +kernel
theorem d_W_law_1040 : decode b_W_law 1040 = .ok (.invokevirtual 120, 3) := by decide +kernel
theorem d_W_law_1043 : decode b_W_law 1043 = .ok (.aload_n 2, 1) := by decide +kernel
theorem d_W_law_1044 : decode b_W_law 1044 = .ok (.aload_n 0, 1) := by decide +kernel
theorem d_W_law_1045 : decode b_W_law 1045 = .ok (.iload 4, 2) := by decide +kernel
theorem d_W_law_1047 : decode b_W_law 1047 = .ok (.iconst 1, 1) := by decide +kernel
theorem d_W_law_1048 : decode b_W_law 1048 = .ok (.iadd, 1) := by decide +kernel
theorem d_W_law_1049 : decode b_W_law 1049 = .ok (.iaload, 1) := by decide +kernel
theorem d_W_law_1050 : decode b_W_law 1050 = .ok (.invokevirtual 124, 3) := by decide +kernel
theorem d_W_law_1053 : decode b_W_law 1053 = .ok (.lcmp, 1) := by decide +kernel
theorem d_W_law_1054 : decode b_W_law 1054 = .ok (.ifCond .eq 123, 3) := by decide +kernel
theorem d_W_law_1057 : decode b_W_law 1057 = .ok (.iconst 0, 1) := by decide +kernel
theorem d_W_law_1058 : decode b_W_law 1058 = .ok (.ireturn, 1) := by decide +kernel
theorem d_W_law_1059 : decode b_W_law 1059 = .ok (.aload_n 1, 1) := by decide +kernel
theorem d_W_law_1060 : decode b_W_law 1060 = .ok (.aload_n 0, 1) := by decide +kernel
theorem d_W_law_1061 : decode b_W_law 1061 = .ok (.iload 4, 2) := by decide +kernel
theorem d_W_law_1063 : decode b_W_law 1063 = .ok (.iconst 1, 1) := by decide +kernel
theorem d_W_law_1064 : decode b_W_law 1064 = .ok (.iadd, 1) := by decide +kernel
theorem d_W_law_1065 : decode b_W_law 1065 = .ok (.iaload, 1) := by decide +kernel
theorem d_W_law_1066 : decode b_W_law 1066 = .ok (.aload_n 0, 1) := by decide +kernel
theorem d_W_law_1067 : decode b_W_law 1067 = .ok (.iload 4, 2) := by decide +kernel
theorem d_W_law_1069 : decode b_W_law 1069 = .ok (.iconst 2, 1) := by decide +kernel
theorem d_W_law_1070 : decode b_W_law 1070 = .ok (.iadd, 1) := by decide +kernel
theorem d_W_law_1071 : decode b_W_law 1071 = .ok (.iaload, 1) := by decide +kernel
theorem d_W_law_1072 : decode b_W_law 1072 = .ok (.aload_n 0, 1) := by decide +kernel
theorem d_W_law_1073 : decode b_W_law 1073 = .ok (.iload 4, 2) := by decide +kernel
theorem d_W_law_1075 : decode b_W_law 1075 = .ok (.iconst 3, 1) := by decide +kernel
theorem d_W_law_1076 : decode b_W_law 1076 = .ok (.iadd, 1) := by decide +kernel
theorem d_W_law_1077 : decode b_W_law 1077 = .ok (.iaload, 1) := by decide +kernel
theorem d_W_law_1078 : decode b_W_law 1078 = .ok (.i2l, 1) := by decide +kernel
theorem d_W_law_1079 : decode b_W_law 1079 = .ok (.bipush 32, 2) := by decide +kernel
theorem d_W_law_1081 : decode b_W_law 1081 = .ok (.lshl, 1) := by decide +kernel
theorem d_W_law_1082 : decode b_W_law 1082 = .ok (.aload_n 0, 1) := by decide +kernel
theorem d_W_law_1083 : decode b_W_law 1083 = .ok (.iload 4, 2) := by decide +kernel
theorem d_W_law_1085 : decode b_W_law 1085 = .ok (.iconst 4, 1) := by decide +kernel
theorem d_W_law_1086 : decode b_W_law 1086 = .ok (.iadd, 1) := by decide +kernel
theorem d_W_law_1087 : decode b_W_law 1087 = .ok (.iaload, 1) := by decide +kernel
theorem d_W_law_1088 : decode b_W_law 1088 = .ok (.i2l, 1) := by decide +kernel
theorem d_W_law_1089 : decode b_W_law 1089 = .ok (.ldc2_w 125, 3) := by decide +kernel
theorem d_W_law_1092 : decode b_W_law 1092 = .ok (.land, 1) := by decide +kernel
theorem d_W_law_1093 : decode b_W_law 1093 = .ok (.lor, 1) := by decide +kernel
theorem d_W_law_1094 : decode b_W_law 1094 = .ok (.invokevirtual 127, 3) := by decide +kernel
theorem d_W_law_1097 : decode b_W_law 1097 = .ok (.aload_n 2, 1) := by decide +kernel
theorem d_W_law_1098 : decode b_W_law 1098 = .ok (.aload_n 0, 1) := by decide +kernel
theorem d_W_law_1099 : decode b_W_law 1099 = .ok (.iload 4, 2) := by decide +kernel
theorem d_W_law_1101 : decode b_W_law 1101 = .ok (.iconst 1, 1) := by decide +kernel
theorem d_W_law_1102 : decode b_W_law 1102 = .ok (.iadd, 1) := by decide +kernel
theorem d_W_law_1103 : decode b_W_law 1103 = .ok (.iaload, 1) := by decide +kernel
theorem d_W_law_1104 : decode b_W_law 1104 = .ok (.aload_n 0, 1) := by decide +kernel
theorem d_W_law_1105 : decode b_W_law 1105 = .ok (.iload 4, 2) := by decide +kernel
theorem d_W_law_1107 : decode b_W_law 1107 = .ok (.iconst 2, 1) := by decide +kernel
theorem d_W_law_1108 : decode b_W_law 1108 = .ok (.iadd, 1) := by decide +kernel
theorem d_W_law_1109 : decode b_W_law 1109 = .ok (.iaload, 1) := by decide +kernel
theorem d_W_law_1110 : decode b_W_law 1110 = .ok (.aload_n 0, 1) := by decide +kernel
theorem d_W_law_1111 : decode b_W_law 1111 = .ok (.iload 4, 2) := by decide +kernel
theorem d_W_law_1113 : decode b_W_law 1113 = .ok (.iconst 3, 1) := by decide +kernel
theorem d_W_law_1114 : decode b_W_law 1114 = .ok (.iadd, 1) := by decide +kernel
theorem d_W_law_1115 : decode b_W_law 1115 = .ok (.iaload, 1) := by decide +kernel
theorem d_W_law_1116 : decode b_W_law 1116 = .ok (.i2l, 1) := by decide +kernel
theorem d_W_law_1117 : decode b_W_law 1117 = .ok (.bipush 32, 2) := by decide +kernel
theorem d_W_law_1119 : decode b_W_law 1119 = .ok (.lshl, 1) := by decide +kernel
theorem d_W_law_1120 : decode b_W_law 1120 = .ok (.aload_n 0, 1) := by decide +kernel
theorem d_W_law_1121 : decode b_W_law 1121 = .ok (.iload 4, 2) := by decide +kernel
theorem d_W_law_1123 : decode b_W_law 1123 = .ok (.iconst 4, 1) := by decide +kernel
theorem d_W_law_1124 : decode b_W_law 1124 = .ok (.iadd, 1) := by decide +kernel
theorem d_W_law_1125 : decode b_W_law 1125 = .ok (.iaload, 1) := by decide +kernel
theorem d_W_law_1126 : decode b_W_law 1126 = .ok (.i2l, 1) := by decide +kernel
theorem d_W_law_1127 : decode b_W_law 1127 = .ok (.ldc2_w 125, 3) := by decide +kernel
theorem d_W_law_1130 : decode b_W_law 1130 = .ok (.land, 1) := by decide +kernel
theorem d_W_law_1131 : decode b_W_law 1131 = .ok (.lor, 1) := by decide +kernel
theorem d_W_law_1132 : decode b_W_law 1132 = .ok (.invokevirtual 131, 3) := by decide +kernel
theorem d_W_law_1135 : decode b_W_law 1135 = .ok (.if_icmp .eq 42, 3) := by decide +kernel
theorem d_W_law_1138 : decode b_W_law 1138 = .ok (.iconst 0, 1) := by decide +kernel
theorem d_W_law_1139 : decode b_W_law 1139 = .ok (.ireturn, 1) := by decide +kernel
theorem d_W_law_1140 : decode b_W_law 1140 = .ok (.aload_n 1, 1) := by decide +kernel
theorem d_W_law_1141 : decode b_W_law 1141 = .ok (.aload_n 0, 1) := by decide +kernel
theorem d_W_law_1142 : decode b_W_law 1142 = .ok (.iload 4, 2) := by decide +kernel
theorem d_W_law_1144 : decode b_W_law 1144 = .ok (.iconst 1, 1) := by decide +kernel
theorem d_W_law_1145 : decode b_W_law 1145 = .ok (.iadd, 1) := by decide +kernel
theorem d_W_law_1146 : decode b_W_law 1146 = .ok (.iaload, 1) := by decide +kernel
theorem d_W_law_1147 : decode b_W_law 1147 = .ok (.aload_n 0, 1) := by decide +kernel
theorem d_W_law_1148 : decode b_W_law 1148 = .ok (.iload 4, 2) := by decide +kernel
theorem d_W_law_1150 : decode b_W_law 1150 = .ok (.iconst 2, 1) := by decide +kernel
theorem d_W_law_1151 : decode b_W_law 1151 = .ok (.iadd, 1) := by decide +kernel
theorem d_W_law_1152 : decode b_W_law 1152 = .ok (.iaload, 1) := by decide +kernel
theorem d_W_law_1153 : decode b_W_law 1153 = .ok (.invokevirtual 132, 3) := by decide +kernel
theorem d_W_law_1156 : decode b_W_law 1156 = .ok (.aload_n 2, 1) := by decide +kernel
theorem d_W_law_1157 : decode b_W_law 1157 = .ok (.aload_n 0, 1) := by decide +kernel
theorem d_W_law_1158 : decode b_W_law 1158 = .ok (.iload 4, 2) := by decide +kernel
theorem d_W_law_1160 : decode b_W_law 1160 = .ok (.iconst 1, 1) := by decide +kernel
theorem d_W_law_1161 : decode b_W_law 1161 = .ok (.iadd, 1) := by decide +kernel
theorem d_W_law_1162 : decode b_W_law 1162 = .ok (.iaload, 1) := by decide +kernel
theorem d_W_law_1163 : decode b_W_law 1163 = .ok (.aload_n 0, 1) := by decide +kernel
theorem d_W_law_1164 : decode b_W_law 1164 = .ok (.iload 4, 2) := by decide +kernel
theorem d_W_law_1166 : decode b_W_law 1166 = .ok (.iconst 2, 1) := by decide +kernel
theorem d_W_law_1167 : decode b_W_law 1167 = .ok (.iadd, 1) := by decide +kernel
theorem d_W_law_1168 : decode b_W_law 1168 = .ok (.iaload, 1) := by decide +kernel
theorem d_W_law_1169 : decode b_W_law 1169 = .ok (.invokevirtual 136, 3) := by decide +kernel
theorem d_W_law_1172 : decode b_W_law 1172 = .ok (.if_icmp .eq 5, 3) := by decide +kernel
theorem d_W_law_1175 : decode b_W_law 1175 = .ok (.iconst 0, 1) := by decide +kernel
theorem d_W_law_1176 : decode b_W_law 1176 = .ok (.ireturn, 1) := by decide +kernel
theorem d_W_law_1177 : decode b_W_law 1177 = .ok (.iinc 4 5, 3) := by decide +kernel
theorem d_W_law_1180 : decode b_W_law 1180 = .ok (.goto (-1147), 3) := by decide +kernel
theorem d_W_law_1183 : decode b_W_law 1183 = .ok (.iconst 1, 1) := by decide +kernel
theorem d_W_law_1184 : decode b_W_law 1184 = .ok (.ireturn, 1) := by decide +kernel
def pp_W_law_b1177 (g : Nat → ClassId) (e0 : Nat → Nat) (mc ms : Nat) (L : Nat) (xs : Nat → Int32) (b : Nat) (K : mo_M → Prop) (B_33 : mo_M → Nat → Nat → Nat → Nat → Nat → Int32 → Prop) (M : mo_M) (cu su : Nat) (x1 : Nat) (x2 : Nat) (x3 : Nat) (x4 : Int32) : Prop := B_33 M cu su x1 x2 x3 (x4 + 5)
def pp_W_law_b992 (g : Nat → ClassId) (e0 : Nat → Nat) (mc ms : Nat) (L : Nat) (xs : Nat → Int32) (b : Nat) (K : mo_M → Prop) (B_33 : mo_M → Nat → Nat → Nat → Nat → Nat → Int32 → Prop) (M : mo_M) (cu su : Nat) (x1 : Nat) (x2 : Nat) (x3 : Nat) (x4 : Int32) : Prop := pp_W_law_b1177 g e0 mc ms L xs b K B_33 M cu su x1 x2 x3 x4
def pp_W_law_b875 (g : Nat → ClassId) (e0 : Nat → Nat) (mc ms : Nat) (L : Nat) (xs : Nat → Int32) (b : Nat) (K : mo_M → Prop) (B_33 : mo_M → Nat → Nat → Nat → Nat → Nat → Int32 → Prop) (M : mo_M) (cu su : Nat) (x1 : Nat) (x2 : Nat) (x3 : Nat) (x4 : Int32) : Prop := pp_W_law_b1177 g e0 mc ms L xs b K B_33 M cu su x1 x2 x3 x4
def pp_W_law_b722 (g : Nat → ClassId) (e0 : Nat → Nat) (mc ms : Nat) (L : Nat) (xs : Nat → Int32) (b : Nat) (K : mo_M → Prop) (B_33 : mo_M → Nat → Nat → Nat → Nat → Nat → Int32 → Prop) (M : mo_M) (cu su : Nat) (x1 : Nat) (x2 : Nat) (x3 : Nat) (x4 : Int32) : Prop := pp_W_law_b1177 g e0 mc ms L xs b K B_33 M cu su x1 x2 x3 x4
def pp_W_law_b205 (g : Nat → ClassId) (e0 : Nat → Nat) (mc ms : Nat) (L : Nat) (xs : Nat → Int32) (b : Nat) (K : mo_M → Prop) (B_33 : mo_M → Nat → Nat → Nat → Nat → Nat → Int32 → Prop) (M : mo_M) (cu su : Nat) (x1 : Nat) (x2 : Nat) (x3 : Nat) (x4 : Int32) (s0 : Int32) (s1 : Int32) (s2 : Int32) (s3 : Nat) (s4 : Int32) : Prop := (cu ≤ mc ∧ su ≤ ms ∧ (mp_is M s3 4 ∧ pp_M_link g e0 (fun r116 M115 => ((s4 = r116 → pp_W_law_b1177 g e0 mc ms L xs b K B_33 M115 cu su x1 x2 x3 x4) ∧ (¬ (s4 = r116) → False))) M s3 s2 s1 s0))
def pp_W_law_b175 (g : Nat → ClassId) (e0 : Nat → Nat) (mc ms : Nat) (L : Nat) (xs : Nat → Int32) (b : Nat) (K : mo_M → Prop) (B_33 : mo_M → Nat → Nat → Nat → Nat → Nat → Int32 → Prop) (M : mo_M) (cu su : Nat) (x1 : Nat) (x2 : Nat) (x3 : Nat) (x4 : Int32) (s0 : Int32) (s1 : Int32) (s2 : Int32) (s3 : Nat) : Prop := (∃ c111 t112 : Nat, cu + c111 ≤ mc ∧ su + t112 ≤ ms ∧ (mp_is M s3 0 ∧ pp_H_link g e0 c111 t112 (fun r114 M113 => (vp_in ((x4 + ((1 : Int32)))) L ∧ (vp_in ((x4 + ((2 : Int32)))) L ∧ (vp_in ((x4 + ((3 : Int32)))) L ∧ ((((xs ((x4 + ((3 : Int32)))).toNatClampNeg)) = 0 → pp_W_law_b205 g e0 mc ms L xs b K B_33 M113 ((cu + c111)) ((su + t112)) x1 x2 x3 x4 ((0 : Int32)) ((xs ((x4 + ((2 : Int32)))).toNatClampNeg)) ((xs ((x4 + ((1 : Int32)))).toNatClampNeg)) x2 r114) ∧ (¬ (((xs ((x4 + ((3 : Int32)))).toNatClampNeg)) = 0) → pp_W_law_b205 g e0 mc ms L xs b K B_33 M113 ((cu + c111)) ((su + t112)) x1 x2 x3 x4 ((1 : Int32)) ((xs ((x4 + ((2 : Int32)))).toNatClampNeg)) ((xs ((x4 + ((1 : Int32)))).toNatClampNeg)) x2 r114)))))) M s3 s2 s1 s0))
def pp_W_law_b33 (g : Nat → ClassId) (e0 : Nat → Nat) (mc ms : Nat) (L : Nat) (xs : Nat → Int32) (b : Nat) (K : mo_M → Prop) : Nat → mo_M → Nat → Nat → Nat → Nat → Nat → Int32 → Prop
  | 0, _, _, _, _, _, _, _ => False
  | n + 1, M, cu, su, x1, x2, x3, x4 => ((((((nI L)) - ((5 : Int32)))) < x4 → (cu ≤ mc ∧ su ≤ ms ∧ K M)) ∧ (¬ (((((nI L)) - ((5 : Int32)))) < x4) → (vp_in x4 L ∧ (((((((xs x4.toNatClampNeg)) &&& ((31 : Int32)))).toInt < 0 ∨ 20 < ((((xs x4.toNatClampNeg)) &&& ((31 : Int32)))).toInt) → pp_W_law_b1177 g e0 mc ms L xs b K (fun M cu su x1 x2 x3 x4 => pp_W_law_b33 g e0 mc ms L xs b K n M cu su x1 x2 x3 x4) M cu su x1 x2 x3 x4) ∧ (((((xs x4.toNatClampNeg)) &&& ((31 : Int32)))) = 0 → (vp_in ((x4 + ((1 : Int32)))) L ∧ (vp_in ((x4 + ((2 : Int32)))) L ∧ (vp_in ((x4 + ((3 : Int32)))) L ∧ ((((xs ((x4 + ((3 : Int32)))).toNatClampNeg)) = 0 → pp_W_law_b175 g e0 mc ms L xs b K (fun M cu su x1 x2 x3 x4 => pp_W_law_b33 g e0 mc ms L xs b K n M cu su x1 x2 x3 x4) M cu su x1 x2 x3 x4 ((0 : Int32)) ((xs ((x4 + ((2 : Int32)))).toNatClampNeg)) ((xs ((x4 + ((1 : Int32)))).toNatClampNeg)) x1) ∧ (¬ (((xs ((x4 + ((3 : Int32)))).toNatClampNeg)) = 0) → pp_W_law_b175 g e0 mc ms L xs b K (fun M cu su x1 x2 x3 x4 => pp_W_law_b33 g e0 mc ms L xs b K n M cu su x1 x2 x3 x4) M cu su x1 x2 x3 x4 ((1 : Int32)) ((xs ((x4 + ((2 : Int32)))).toNatClampNeg)) ((xs ((x4 + ((1 : Int32)))).toNatClampNeg)) x1)))))) ∧ (((((xs x4.toNatClampNeg)) &&& ((31 : Int32)))) = 1 → (vp_in ((x4 + ((1 : Int32)))) L ∧ (vp_in ((x4 + ((2 : Int32)))) L ∧ (vp_in ((x4 + ((3 : Int32)))) L ∧ (vp_in ((x4 + ((4 : Int32)))) L ∧ (cu ≤ mc ∧ su ≤ ms ∧ (mp_is M x1 0 ∧ pp_H_rate g e0 (fun r17 M16 => (vp_in ((x4 + ((1 : Int32)))) L ∧ (vp_in ((x4 + ((2 : Int32)))) L ∧ (vp_in ((x4 + ((3 : Int32)))) L ∧ (vp_in ((x4 + ((4 : Int32)))) L ∧ (cu ≤ mc ∧ su ≤ ms ∧ (mp_is M16 x2 4 ∧ pp_M_rate g e0 (fun r19 M18 => ((r17 = r19 → pp_W_law_b1177 g e0 mc ms L xs b K (fun M cu su x1 x2 x3 x4 => pp_W_law_b33 g e0 mc ms L xs b K n M cu su x1 x2 x3 x4) M18 cu su x1 x2 x3 x4) ∧ (¬ (r17 = r19) → False))) M16 x2 ((xs ((x4 + ((1 : Int32)))).toNatClampNeg)) ((xs ((x4 + ((2 : Int32)))).toNatClampNeg)) ((xs ((x4 + ((3 : Int32)))).toNatClampNeg)) ((xs ((x4 + ((4 : Int32)))).toNatClampNeg))))))))) M x1 ((xs ((x4 + ((1 : Int32)))).toNatClampNeg)) ((xs ((x4 + ((2 : Int32)))).toNatClampNeg)) ((xs ((x4 + ((3 : Int32)))).toNatClampNeg)) ((xs ((x4 + ((4 : Int32)))).toNatClampNeg))))))))) ∧ (((((xs x4.toNatClampNeg)) &&& ((31 : Int32)))) = 2 → (vp_in ((x4 + ((1 : Int32)))) L ∧ (vp_in ((x4 + ((2 : Int32)))) L ∧ (vp_in ((x4 + ((3 : Int32)))) L ∧ (cu ≤ mc ∧ su ≤ ms ∧ (mp_is M x1 0 ∧ pp_H_mint g e0 (fun r21 M20 => (vp_in ((x4 + ((1 : Int32)))) L ∧ (vp_in ((x4 + ((2 : Int32)))) L ∧ (vp_in ((x4 + ((3 : Int32)))) L ∧ (cu ≤ mc ∧ su ≤ ms ∧ (mp_is M20 x2 4 ∧ pp_M_mint g e0 (fun r23 M22 => ((r21 = r23 → pp_W_law_b1177 g e0 mc ms L xs b K (fun M cu su x1 x2 x3 x4 => pp_W_law_b33 g e0 mc ms L xs b K n M cu su x1 x2 x3 x4) M22 cu su x1 x2 x3 x4) ∧ (¬ (r21 = r23) → False))) M20 x2 ((xs ((x4 + ((1 : Int32)))).toNatClampNeg)) ((xs ((x4 + ((2 : Int32)))).toNatClampNeg)) ((xs ((x4 + ((3 : Int32)))).toNatClampNeg)))))))) M x1 ((xs ((x4 + ((1 : Int32)))).toNatClampNeg)) ((xs ((x4 + ((2 : Int32)))).toNatClampNeg)) ((xs ((x4 + ((3 : Int32)))).toNatClampNeg)))))))) ∧ (((((xs x4.toNatClampNeg)) &&& ((31 : Int32)))) = 3 → (vp_in ((x4 + ((1 : Int32)))) L ∧ (vp_in ((x4 + ((2 : Int32)))) L ∧ (vp_in ((x4 + ((3 : Int32)))) L ∧ (cu ≤ mc ∧ su ≤ ms ∧ (mp_is M x1 0 ∧ pp_H_melt g e0 (fun r25 M24 => (vp_in ((x4 + ((1 : Int32)))) L ∧ (vp_in ((x4 + ((2 : Int32)))) L ∧ (vp_in ((x4 + ((3 : Int32)))) L ∧ (cu ≤ mc ∧ su ≤ ms ∧ (mp_is M24 x2 4 ∧ pp_M_melt g e0 (fun r27 M26 => ((r25 = r27 → pp_W_law_b1177 g e0 mc ms L xs b K (fun M cu su x1 x2 x3 x4 => pp_W_law_b33 g e0 mc ms L xs b K n M cu su x1 x2 x3 x4) M26 cu su x1 x2 x3 x4) ∧ (¬ (r25 = r27) → False))) M24 x2 ((xs ((x4 + ((1 : Int32)))).toNatClampNeg)) ((xs ((x4 + ((2 : Int32)))).toNatClampNeg)) ((xs ((x4 + ((3 : Int32)))).toNatClampNeg)))))))) M x1 ((xs ((x4 + ((1 : Int32)))).toNatClampNeg)) ((xs ((x4 + ((2 : Int32)))).toNatClampNeg)) ((xs ((x4 + ((3 : Int32)))).toNatClampNeg)))))))) ∧ (((((xs x4.toNatClampNeg)) &&& ((31 : Int32)))) = 4 → (vp_in ((x4 + ((1 : Int32)))) L ∧ (vp_in ((x4 + ((2 : Int32)))) L ∧ (vp_in ((x4 + ((3 : Int32)))) L ∧ (vp_in ((x4 + ((4 : Int32)))) L ∧ (cu ≤ mc ∧ su ≤ ms ∧ (mp_is M x1 0 ∧ pp_H_exchange g e0 (fun r29 M28 => (vp_in ((x4 + ((1 : Int32)))) L ∧ (vp_in ((x4 + ((2 : Int32)))) L ∧ (vp_in ((x4 + ((3 : Int32)))) L ∧ (vp_in ((x4 + ((4 : Int32)))) L ∧ (cu ≤ mc ∧ su ≤ ms ∧ (mp_is M28 x2 4 ∧ pp_M_exchange g e0 (fun r31 M30 => ((r29 = r31 → pp_W_law_b1177 g e0 mc ms L xs b K (fun M cu su x1 x2 x3 x4 => pp_W_law_b33 g e0 mc ms L xs b K n M cu su x1 x2 x3 x4) M30 cu su x1 x2 x3 x4) ∧ (¬ (r29 = r31) → False))) M28 x2 ((xs ((x4 + ((1 : Int32)))).toNatClampNeg)) ((xs ((x4 + ((2 : Int32)))).toNatClampNeg)) ((xs ((x4 + ((3 : Int32)))).toNatClampNeg)) ((xs ((x4 + ((4 : Int32)))).toNatClampNeg))))))))) M x1 ((xs ((x4 + ((1 : Int32)))).toNatClampNeg)) ((xs ((x4 + ((2 : Int32)))).toNatClampNeg)) ((xs ((x4 + ((3 : Int32)))).toNatClampNeg)) ((xs ((x4 + ((4 : Int32)))).toNatClampNeg))))))))) ∧ (((((xs x4.toNatClampNeg)) &&& ((31 : Int32)))) = 5 → (vp_in ((x4 + ((1 : Int32)))) L ∧ (vp_in ((x4 + ((2 : Int32)))) L ∧ (vp_in ((x4 + ((3 : Int32)))) L ∧ (∃ c32 t33 : Nat, cu + c32 ≤ mc ∧ su + t33 ≤ ms ∧ (mp_is M x1 0 ∧ pp_H_bag g e0 c32 t33 (fun r35 M34 => (vp_in ((x4 + ((1 : Int32)))) L ∧ (vp_in ((x4 + ((2 : Int32)))) L ∧ (vp_in ((x4 + ((3 : Int32)))) L ∧ (((cu + c32)) ≤ mc ∧ ((su + t33)) ≤ ms ∧ (mp_is M34 x2 4 ∧ pp_M_bag g e0 (fun r37 M36 => ((r35 = r37 → pp_W_law_b1177 g e0 mc ms L xs b K (fun M cu su x1 x2 x3 x4 => pp_W_law_b33 g e0 mc ms L xs b K n M cu su x1 x2 x3 x4) M36 ((cu + c32)) ((su + t33)) x1 x2 x3 x4) ∧ (¬ (r35 = r37) → False))) M34 x2 ((xs ((x4 + ((1 : Int32)))).toNatClampNeg)) ((xs ((x4 + ((2 : Int32)))).toNatClampNeg)) ((xs ((x4 + ((3 : Int32)))).toNatClampNeg)))))))) M x1 ((xs ((x4 + ((1 : Int32)))).toNatClampNeg)) ((xs ((x4 + ((2 : Int32)))).toNatClampNeg)) ((xs ((x4 + ((3 : Int32)))).toNatClampNeg)))))))) ∧ (((((xs x4.toNatClampNeg)) &&& ((31 : Int32)))) = 6 → (vp_in ((x4 + ((1 : Int32)))) L ∧ (vp_in ((x4 + ((2 : Int32)))) L ∧ (∃ c38 t39 : Nat, cu + c38 ≤ mc ∧ su + t39 ≤ ms ∧ (mp_is M x1 0 ∧ pp_H_deliver g e0 c38 t39 (fun r41 M40 => (vp_in ((x4 + ((1 : Int32)))) L ∧ (vp_in ((x4 + ((2 : Int32)))) L ∧ (((cu + c38)) ≤ mc ∧ ((su + t39)) ≤ ms ∧ (mp_is M40 x2 4 ∧ pp_M_deliver g e0 (fun r43 M42 => ((r41 = r43 → pp_W_law_b1177 g e0 mc ms L xs b K (fun M cu su x1 x2 x3 x4 => pp_W_law_b33 g e0 mc ms L xs b K n M cu su x1 x2 x3 x4) M42 ((cu + c38)) ((su + t39)) x1 x2 x3 x4) ∧ (¬ (r41 = r43) → False))) M40 x2 ((xs ((x4 + ((1 : Int32)))).toNatClampNeg)) ((xs ((x4 + ((2 : Int32)))).toNatClampNeg))))))) M x1 ((xs ((x4 + ((1 : Int32)))).toNatClampNeg)) ((xs ((x4 + ((2 : Int32)))).toNatClampNeg))))))) ∧ (((((xs x4.toNatClampNeg)) &&& ((31 : Int32)))) = 7 → (vp_in ((x4 + ((1 : Int32)))) L ∧ (∃ c44 t45 : Nat, cu + c44 ≤ mc ∧ su + t45 ≤ ms ∧ (mp_is M x1 0 ∧ pp_H_snap g e0 c44 t45 (fun r47 M46 => (vp_in ((x4 + ((1 : Int32)))) L ∧ (((cu + c44)) ≤ mc ∧ ((su + t45)) ≤ ms ∧ (mp_is M46 x2 4 ∧ pp_M_snap g e0 (fun r49 M48 => ((r47 = r49 → pp_W_law_b1177 g e0 mc ms L xs b K (fun M cu su x1 x2 x3 x4 => pp_W_law_b33 g e0 mc ms L xs b K n M cu su x1 x2 x3 x4) M48 ((cu + c44)) ((su + t45)) x1 x2 x3 x4) ∧ (¬ (r47 = r49) → False))) M46 x2 ((xs ((x4 + ((1 : Int32)))).toNatClampNeg)))))) M x1 ((xs ((x4 + ((1 : Int32)))).toNatClampNeg)))))) ∧ (((((xs x4.toNatClampNeg)) &&& ((31 : Int32)))) = 8 → (vp_in ((x4 + ((1 : Int32)))) L ∧ (vp_in ((x4 + ((2 : Int32)))) L ∧ (cu ≤ mc ∧ su ≤ ms ∧ (mp_is M x1 0 ∧ pp_H_stock g e0 (fun r51 M50 => (vp_in ((x4 + ((1 : Int32)))) L ∧ (vp_in ((x4 + ((2 : Int32)))) L ∧ (cu ≤ mc ∧ su ≤ ms ∧ (mp_is M50 x2 4 ∧ pp_M_stock g e0 (fun r53 M52 => (((lg_cmp r51 r53) = 0 → pp_W_law_b1177 g e0 mc ms L xs b K (fun M cu su x1 x2 x3 x4 => pp_W_law_b33 g e0 mc ms L xs b K n M cu su x1 x2 x3 x4) M52 cu su x1 x2 x3 x4) ∧ (¬ ((lg_cmp r51 r53) = 0) → False))) M50 x2 ((xs ((x4 + ((1 : Int32)))).toNatClampNeg)) ((xs ((x4 + ((2 : Int32)))).toNatClampNeg))))))) M x1 ((xs ((x4 + ((1 : Int32)))).toNatClampNeg)) ((xs ((x4 + ((2 : Int32)))).toNatClampNeg))))))) ∧ (((((xs x4.toNatClampNeg)) &&& ((31 : Int32)))) = 9 → (vp_in ((x4 + ((1 : Int32)))) L ∧ (vp_in ((x4 + ((2 : Int32)))) L ∧ (cu ≤ mc ∧ su ≤ ms ∧ (mp_is M x1 0 ∧ pp_H_till g e0 (fun r55 M54 => (vp_in ((x4 + ((1 : Int32)))) L ∧ (vp_in ((x4 + ((2 : Int32)))) L ∧ (cu ≤ mc ∧ su ≤ ms ∧ (mp_is M54 x2 4 ∧ pp_M_till g e0 (fun r57 M56 => (((lg_cmp r55 r57) = 0 → pp_W_law_b1177 g e0 mc ms L xs b K (fun M cu su x1 x2 x3 x4 => pp_W_law_b33 g e0 mc ms L xs b K n M cu su x1 x2 x3 x4) M56 cu su x1 x2 x3 x4) ∧ (¬ ((lg_cmp r55 r57) = 0) → False))) M54 x2 ((xs ((x4 + ((1 : Int32)))).toNatClampNeg)) ((xs ((x4 + ((2 : Int32)))).toNatClampNeg))))))) M x1 ((xs ((x4 + ((1 : Int32)))).toNatClampNeg)) ((xs ((x4 + ((2 : Int32)))).toNatClampNeg))))))) ∧ (((((xs x4.toNatClampNeg)) &&& ((31 : Int32)))) = 10 → (vp_in ((x4 + ((1 : Int32)))) L ∧ (cu ≤ mc ∧ su ≤ ms ∧ (mp_is M x1 0 ∧ pp_H_onLink g e0 (fun r59 M58 => (vp_in ((x4 + ((1 : Int32)))) L ∧ (cu ≤ mc ∧ su ≤ ms ∧ (mp_is M58 x2 4 ∧ pp_M_onLink g e0 (fun r61 M60 => ((r59 = r61 → pp_W_law_b1177 g e0 mc ms L xs b K (fun M cu su x1 x2 x3 x4 => pp_W_law_b33 g e0 mc ms L xs b K n M cu su x1 x2 x3 x4) M60 cu su x1 x2 x3 x4) ∧ (¬ (r59 = r61) → False))) M58 x2 ((xs ((x4 + ((1 : Int32)))).toNatClampNeg)))))) M x1 ((xs ((x4 + ((1 : Int32)))).toNatClampNeg)))))) ∧ (((((xs x4.toNatClampNeg)) &&& ((31 : Int32)))) = 11 → (vp_in ((x4 + ((1 : Int32)))) L ∧ (vp_in ((x4 + ((2 : Int32)))) L ∧ (vp_in ((x4 + ((3 : Int32)))) L ∧ (cu + 1 ≤ mc ∧ su + 6 ≤ ms ∧ pp_W_thing g e0 (fun r63 M62 => (vp_in ((x4 + ((1 : Int32)))) L ∧ (vp_in ((x4 + ((2 : Int32)))) L ∧ (vp_in ((x4 + ((3 : Int32)))) L ∧ (((cu + 1)) ≤ mc ∧ ((su + 6)) ≤ ms ∧ (mp_is M62 x2 4 ∧ pp_M_thing g e0 (fun r65 M64 => (((cu + 1)) ≤ mc ∧ ((su + 6)) ≤ ms ∧ (mp_is M64 x2 4 ∧ pp_M_thrown g e0 (fun r67 M66 => ((r67 = r63 → ((r63 = 0 → mp_al (g 1) M66 x3 ((0 : Int32)) (fun v68 => (((lg_cmp v68 r65.toInt64) = 0 → pp_W_law_b722 g e0 mc ms L xs b K (fun M cu su x1 x2 x3 x4 => pp_W_law_b33 g e0 mc ms L xs b K n M cu su x1 x2 x3 x4) M66 ((cu + 1)) ((su + 6)) x1 x2 x3 x4) ∧ (¬ ((lg_cmp v68 r65.toInt64) = 0) → False)))) ∧ (¬ (r63 = 0) → pp_W_law_b722 g e0 mc ms L xs b K (fun M cu su x1 x2 x3 x4 => pp_W_law_b33 g e0 mc ms L xs b K n M cu su x1 x2 x3 x4) M66 ((cu + 1)) ((su + 6)) x1 x2 x3 x4))) ∧ (¬ (r67 = r63) → False))) M64 x2))) M62 x2 ((xs ((x4 + ((1 : Int32)))).toNatClampNeg)) ((xs ((x4 + ((2 : Int32)))).toNatClampNeg)) ((xs ((x4 + ((3 : Int32)))).toNatClampNeg)))))))) M x1 ((xs ((x4 + ((1 : Int32)))).toNatClampNeg)) ((xs ((x4 + ((2 : Int32)))).toNatClampNeg)) ((xs ((x4 + ((3 : Int32)))).toNatClampNeg)) x3))))) ∧ (((((xs x4.toNatClampNeg)) &&& ((31 : Int32)))) = 12 → (vp_in ((x4 + ((1 : Int32)))) L ∧ (vp_in ((x4 + ((2 : Int32)))) L ∧ (cu ≤ mc ∧ su ≤ ms ∧ (mp_is M x1 0 ∧ pp_H_recorded g e0 (fun r70 M69 => (vp_in ((x4 + ((1 : Int32)))) L ∧ (vp_in ((x4 + ((2 : Int32)))) L ∧ (cu ≤ mc ∧ su ≤ ms ∧ (mp_is M69 x2 4 ∧ pp_M_recorded g e0 (fun r72 M71 => ((r70 = r72 → pp_W_law_b1177 g e0 mc ms L xs b K (fun M cu su x1 x2 x3 x4 => pp_W_law_b33 g e0 mc ms L xs b K n M cu su x1 x2 x3 x4) M71 cu su x1 x2 x3 x4) ∧ (¬ (r70 = r72) → False))) M69 x2 ((xs ((x4 + ((1 : Int32)))).toNatClampNeg)) ((xs ((x4 + ((2 : Int32)))).toNatClampNeg))))))) M x1 ((xs ((x4 + ((1 : Int32)))).toNatClampNeg)) ((xs ((x4 + ((2 : Int32)))).toNatClampNeg))))))) ∧ (((((xs x4.toNatClampNeg)) &&& ((31 : Int32)))) = 13 → (vp_in ((x4 + ((1 : Int32)))) L ∧ (cu ≤ mc ∧ su ≤ ms ∧ (mp_is M x1 0 ∧ pp_H_finished g e0 (fun r74 M73 => (vp_in ((x4 + ((1 : Int32)))) L ∧ (cu ≤ mc ∧ su ≤ ms ∧ (mp_is M73 x2 4 ∧ pp_M_finished g e0 (fun r76 M75 => ((r74 = r76 → pp_W_law_b1177 g e0 mc ms L xs b K (fun M cu su x1 x2 x3 x4 => pp_W_law_b33 g e0 mc ms L xs b K n M cu su x1 x2 x3 x4) M75 cu su x1 x2 x3 x4) ∧ (¬ (r74 = r76) → False))) M73 x2 ((xs ((x4 + ((1 : Int32)))).toNatClampNeg)))))) M x1 ((xs ((x4 + ((1 : Int32)))).toNatClampNeg)))))) ∧ (((((xs x4.toNatClampNeg)) &&& ((31 : Int32)))) = 14 → (vp_in ((x4 + ((1 : Int32)))) L ∧ (vp_in ((x4 + ((2 : Int32)))) L ∧ (vp_in ((x4 + ((3 : Int32)))) L ∧ (vp_in ((x4 + ((4 : Int32)))) L ∧ (cu + 1 ≤ mc ∧ su + 6 ≤ ms ∧ pp_W_piece g e0 (fun r78 M77 => (vp_in ((x4 + ((1 : Int32)))) L ∧ (vp_in ((x4 + ((2 : Int32)))) L ∧ (vp_in ((x4 + ((3 : Int32)))) L ∧ (vp_in ((x4 + ((4 : Int32)))) L ∧ (((cu + 1)) ≤ mc ∧ ((su + 6)) ≤ ms ∧ (mp_is M77 x2 4 ∧ pp_M_piece g e0 (fun r80 M79 => (((cu + 1)) ≤ mc ∧ ((su + 6)) ≤ ms ∧ (mp_is M79 x2 4 ∧ pp_M_thrown g e0 (fun r82 M81 => ((r82 = r78 → ((r78 = 0 → mp_al (g 1) M81 x3 ((0 : Int32)) (fun v83 => (((lg_cmp v83 r80) = 0 → pp_W_law_b875 g e0 mc ms L xs b K (fun M cu su x1 x2 x3 x4 => pp_W_law_b33 g e0 mc ms L xs b K n M cu su x1 x2 x3 x4) M81 ((cu + 1)) ((su + 6)) x1 x2 x3 x4) ∧ (¬ ((lg_cmp v83 r80) = 0) → False)))) ∧ (¬ (r78 = 0) → pp_W_law_b875 g e0 mc ms L xs b K (fun M cu su x1 x2 x3 x4 => pp_W_law_b33 g e0 mc ms L xs b K n M cu su x1 x2 x3 x4) M81 ((cu + 1)) ((su + 6)) x1 x2 x3 x4))) ∧ (¬ (r82 = r78) → False))) M79 x2))) M77 x2 ((xs ((x4 + ((1 : Int32)))).toNatClampNeg)) ((xs ((x4 + ((2 : Int32)))).toNatClampNeg)) ((xs ((x4 + ((3 : Int32)))).toNatClampNeg)) ((xs ((x4 + ((4 : Int32)))).toNatClampNeg))))))))) M x1 ((xs ((x4 + ((1 : Int32)))).toNatClampNeg)) ((xs ((x4 + ((2 : Int32)))).toNatClampNeg)) ((xs ((x4 + ((3 : Int32)))).toNatClampNeg)) ((xs ((x4 + ((4 : Int32)))).toNatClampNeg)) x3)))))) ∧ (((((xs x4.toNatClampNeg)) &&& ((31 : Int32)))) = 15 → (vp_in ((x4 + ((1 : Int32)))) L ∧ (vp_in ((x4 + ((2 : Int32)))) L ∧ (vp_in ((x4 + ((3 : Int32)))) L ∧ (cu ≤ mc ∧ su ≤ ms ∧ (mp_is M x1 0 ∧ pp_H_road g e0 (fun r85 M84 => (vp_in ((x4 + ((1 : Int32)))) L ∧ (vp_in ((x4 + ((2 : Int32)))) L ∧ (vp_in ((x4 + ((3 : Int32)))) L ∧ (cu ≤ mc ∧ su ≤ ms ∧ (mp_is M84 x2 4 ∧ pp_M_road g e0 (fun r87 M86 => (((lg_cmp r85 r87) = 0 → pp_W_law_b1177 g e0 mc ms L xs b K (fun M cu su x1 x2 x3 x4 => pp_W_law_b33 g e0 mc ms L xs b K n M cu su x1 x2 x3 x4) M86 cu su x1 x2 x3 x4) ∧ (¬ ((lg_cmp r85 r87) = 0) → False))) M84 x2 ((xs ((x4 + ((1 : Int32)))).toNatClampNeg)) ((xs ((x4 + ((2 : Int32)))).toNatClampNeg)) ((xs ((x4 + ((3 : Int32)))).toNatClampNeg)))))))) M x1 ((xs ((x4 + ((1 : Int32)))).toNatClampNeg)) ((xs ((x4 + ((2 : Int32)))).toNatClampNeg)) ((xs ((x4 + ((3 : Int32)))).toNatClampNeg)))))))) ∧ (((((xs x4.toNatClampNeg)) &&& ((31 : Int32)))) = 16 → (vp_in ((x4 + ((1 : Int32)))) L ∧ (vp_in ((x4 + ((2 : Int32)))) L ∧ (cu + 1 ≤ mc ∧ su + 6 ≤ ms ∧ pp_W_total g e0 (fun r89 M88 => (vp_in ((x4 + ((1 : Int32)))) L ∧ (vp_in ((x4 + ((2 : Int32)))) L ∧ (((cu + 1)) ≤ mc ∧ ((su + 6)) ≤ ms ∧ (mp_is M88 x2 4 ∧ pp_M_total g e0 (fun r91 M90 => (((cu + 1)) ≤ mc ∧ ((su + 6)) ≤ ms ∧ (mp_is M90 x2 4 ∧ pp_M_thrown g e0 (fun r93 M92 => ((r93 = r89 → ((r89 = 0 → mp_al (g 1) M92 x3 ((0 : Int32)) (fun v94 => (((lg_cmp v94 r91) = 0 → pp_W_law_b992 g e0 mc ms L xs b K (fun M cu su x1 x2 x3 x4 => pp_W_law_b33 g e0 mc ms L xs b K n M cu su x1 x2 x3 x4) M92 ((cu + 1)) ((su + 6)) x1 x2 x3 x4) ∧ (¬ ((lg_cmp v94 r91) = 0) → False)))) ∧ (¬ (r89 = 0) → pp_W_law_b992 g e0 mc ms L xs b K (fun M cu su x1 x2 x3 x4 => pp_W_law_b33 g e0 mc ms L xs b K n M cu su x1 x2 x3 x4) M92 ((cu + 1)) ((su + 6)) x1 x2 x3 x4))) ∧ (¬ (r93 = r89) → False))) M90 x2))) M88 x2 ((xs ((x4 + ((1 : Int32)))).toNatClampNeg)) ((xs ((x4 + ((2 : Int32)))).toNatClampNeg))))))) M x1 ((xs ((x4 + ((1 : Int32)))).toNatClampNeg)) ((xs ((x4 + ((2 : Int32)))).toNatClampNeg)) x3)))) ∧ (((((xs x4.toNatClampNeg)) &&& ((31 : Int32)))) = 17 → (vp_in ((x4 + ((1 : Int32)))) L ∧ (vp_in ((x4 + ((2 : Int32)))) L ∧ (cu ≤ mc ∧ su ≤ ms ∧ (mp_is M x1 0 ∧ pp_H_minted g e0 (fun r96 M95 => (vp_in ((x4 + ((1 : Int32)))) L ∧ (vp_in ((x4 + ((2 : Int32)))) L ∧ (cu ≤ mc ∧ su ≤ ms ∧ (mp_is M95 x2 4 ∧ pp_M_minted g e0 (fun r98 M97 => (((lg_cmp r96 r98) = 0 → pp_W_law_b1177 g e0 mc ms L xs b K (fun M cu su x1 x2 x3 x4 => pp_W_law_b33 g e0 mc ms L xs b K n M cu su x1 x2 x3 x4) M97 cu su x1 x2 x3 x4) ∧ (¬ ((lg_cmp r96 r98) = 0) → False))) M95 x2 ((xs ((x4 + ((1 : Int32)))).toNatClampNeg)) ((xs ((x4 + ((2 : Int32)))).toNatClampNeg))))))) M x1 ((xs ((x4 + ((1 : Int32)))).toNatClampNeg)) ((xs ((x4 + ((2 : Int32)))).toNatClampNeg))))))) ∧ (((((xs x4.toNatClampNeg)) &&& ((31 : Int32)))) = 18 → (vp_in ((x4 + ((1 : Int32)))) L ∧ (cu ≤ mc ∧ su ≤ ms ∧ (mp_is M x1 0 ∧ pp_H_trueTotal g e0 (fun r100 M99 => (vp_in ((x4 + ((1 : Int32)))) L ∧ (cu ≤ mc ∧ su ≤ ms ∧ (mp_is M99 x2 4 ∧ pp_M_trueTotal g e0 (fun r102 M101 => (((lg_cmp r100 r102) = 0 → pp_W_law_b1177 g e0 mc ms L xs b K (fun M cu su x1 x2 x3 x4 => pp_W_law_b33 g e0 mc ms L xs b K n M cu su x1 x2 x3 x4) M101 cu su x1 x2 x3 x4) ∧ (¬ ((lg_cmp r100 r102) = 0) → False))) M99 x2 ((xs ((x4 + ((1 : Int32)))).toNatClampNeg)))))) M x1 ((xs ((x4 + ((1 : Int32)))).toNatClampNeg)))))) ∧ (((((xs x4.toNatClampNeg)) &&& ((31 : Int32)))) = 19 → (vp_in ((x4 + ((1 : Int32)))) L ∧ (vp_in ((x4 + ((2 : Int32)))) L ∧ (vp_in ((x4 + ((3 : Int32)))) L ∧ (vp_in ((x4 + ((4 : Int32)))) L ∧ (cu ≤ mc ∧ su ≤ ms ∧ (mp_is M x1 0 ∧ pp_H_below g e0 (fun r104 M103 => (vp_in ((x4 + ((1 : Int32)))) L ∧ (vp_in ((x4 + ((2 : Int32)))) L ∧ (vp_in ((x4 + ((3 : Int32)))) L ∧ (vp_in ((x4 + ((4 : Int32)))) L ∧ (cu ≤ mc ∧ su ≤ ms ∧ (mp_is M103 x2 4 ∧ pp_M_below g e0 (fun r106 M105 => ((r104 = r106 → pp_W_law_b1177 g e0 mc ms L xs b K (fun M cu su x1 x2 x3 x4 => pp_W_law_b33 g e0 mc ms L xs b K n M cu su x1 x2 x3 x4) M105 cu su x1 x2 x3 x4) ∧ (¬ (r104 = r106) → False))) M103 x2 ((xs ((x4 + ((1 : Int32)))).toNatClampNeg)) ((xs ((x4 + ((2 : Int32)))).toNatClampNeg)) (((((((xs ((x4 + ((3 : Int32)))).toNatClampNeg)).toInt64) <<< (((32 : Int32)).toInt64 &&& 63))) ||| (((((xs ((x4 + ((4 : Int32)))).toNatClampNeg)).toInt64) &&& ((4294967295 : Int64))))))))))))) M x1 ((xs ((x4 + ((1 : Int32)))).toNatClampNeg)) ((xs ((x4 + ((2 : Int32)))).toNatClampNeg)) (((((((xs ((x4 + ((3 : Int32)))).toNatClampNeg)).toInt64) <<< (((32 : Int32)).toInt64 &&& 63))) ||| (((((xs ((x4 + ((4 : Int32)))).toNatClampNeg)).toInt64) &&& ((4294967295 : Int64))))))))))))) ∧ (((((xs x4.toNatClampNeg)) &&& ((31 : Int32)))) = 20 → (vp_in ((x4 + ((1 : Int32)))) L ∧ (vp_in ((x4 + ((2 : Int32)))) L ∧ (cu ≤ mc ∧ su ≤ ms ∧ (mp_is M x1 0 ∧ pp_H_events g e0 (fun r108 M107 => (vp_in ((x4 + ((1 : Int32)))) L ∧ (vp_in ((x4 + ((2 : Int32)))) L ∧ (cu ≤ mc ∧ su ≤ ms ∧ (mp_is M107 x2 4 ∧ pp_M_events g e0 (fun r110 M109 => ((r108 = r110 → pp_W_law_b1177 g e0 mc ms L xs b K (fun M cu su x1 x2 x3 x4 => pp_W_law_b33 g e0 mc ms L xs b K n M cu su x1 x2 x3 x4) M109 cu su x1 x2 x3 x4) ∧ (¬ (r108 = r110) → False))) M107 x2 ((xs ((x4 + ((1 : Int32)))).toNatClampNeg)) ((xs ((x4 + ((2 : Int32)))).toNatClampNeg))))))) M x1 ((xs ((x4 + ((1 : Int32)))).toNatClampNeg)) ((xs ((x4 + ((2 : Int32)))).toNatClampNeg)))))))))))
def pp_W_law (g : Nat → ClassId) (e0 : Nat → Nat) (mc ms : Nat) (L : Nat) (xs : Nat → Int32) (b : Nat) (K : mo_M → Prop) (M : mo_M) : Prop := (0 + 1 ≤ mc ∧ 0 + 5 ≤ ms ∧ mp_nw M 0 [.null, .null, .null, .null, .int 0] (fun q1 M2 => (((0 + 1)) ≤ mc ∧ ((0 + 5)) ≤ ms ∧ (∃ c4 t5 : Nat, ((0 + 1)) + c4 ≤ mc ∧ ((0 + 5)) + t5 ≤ ms ∧ pp_H_init g e0 c4 t5 (fun M6 => ((((0 + 1) + c4)) + 1 ≤ mc ∧ (((0 + 5) + t5)) + 27 ≤ ms ∧ mp_nw M6 4 [.int 0, .int 0, .int 0, .int 0, .null, .null, .null, .null, .null, .int 0, .null, .null, .null, .null, .null, .null, .null, .int 0, .null, .null, .null, .null, .null, .null, .null, .int 0, .null] (fun q7 M8 => (((((0 + 1) + c4) + 1)) ≤ mc ∧ ((((0 + 5) + t5) + 27)) ≤ ms ∧ (∃ c10 t11 : Nat, ((((0 + 1) + c4) + 1)) + c10 ≤ mc ∧ ((((0 + 5) + t5) + 27)) + t11 ≤ ms ∧ pp_M_init g e0 c10 t11 (fun M12 => ((((((0 + 1) + c4) + 1) + c10)) + 1 ≤ mc ∧ (((((0 + 5) + t5) + 27) + t11)) + ((1 : Int32)).toNatClampNeg ≤ ms ∧ mp_na (g 1) M12 ((1 : Int32)) (.inr (.inl (fun _ => 0))) (fun q13 M14 => ∃ n15 : Nat, pp_W_law_b33 g e0 mc ms L xs b K n15 M14 ((((((0 + 1) + c4) + 1) + c10) + 1)) ((((((0 + 5) + t5) + 27) + t11) + ((1 : Int32)).toNatClampNeg)) q1 q7 q13 ((1 : Int32))))) M8 q7 ((if L = 0 then 0 else xs 0))))))) M2 q1 ((if L = 0 then 0 else xs 0))))))
set_option maxHeartbeats 8000000 in
set_option maxRecDepth 100000 in
theorem lw_go {p : Program} {e : Env} {s : State} {m : MethodId} {below : List Frame} {meth : Method} {c : Code} (l : Launch) (hfl : l.flags = pinnedFlags ++ [noTraceFlag]) {b L L0 : Nat} {xs : Nat → Int32} (hL : L ≤ 2561) {D : va_G} {g : Nat → ClassId} {e0 : Nat → Nat} {K : mo_M → Prop} {M : mo_M} (hx : p.tables.exec = Jvm.exec) (hb : c.code = b_W_law) (hr : meth.sig.returnType = ret) (hml : c.maxLocals = 8) (hown : s.vm.findClass "PurseHouseLaw" = some m.cls) (hts : ∀ w ∈ lw_g, w.before #[Value.ref b] s = true) (hX : va_X b L xs s s.heap) (hbl : b < s.heap.size) (hlocks : meth.locks = false) (hL0 : L0 = s.heap.size) (hok : mo_ok L0 e0 D vwCl (mo_T g) s M s.heap []) (hq : tq L0 s) (hP : pp_W_law g e0 room_1.cells room_1.slots L xs b K M) : W p l e room_1 s m #[Value.ref b] below meth c s.heap [] 0 0 (lw_Z below #[Value.ref b] s) (entryFrame m ([Value.ref b] : List Value).toArray 8) := by
  have hbA : ¬ L0 ≤ b := by rw [hL0]; omega
  have hXs : lw_sc b L L0 xs s := ⟨hX, hbl, hbA⟩
  have w_1177 : ∀ (B_33 : mo_M → Nat → Nat → Nat → Nat → Nat → Int32 → Prop) (hB_33 : ∀ (M : mo_M) (cu su : Nat) (x1 : Nat) (x2 : Nat) (x3 : Nat) (x4 : Int32) (H : Heap) (locs : List Loc) (ls : Array Slot), B_33 M cu su x1 x2 x3 x4 → mo_ok L0 e0 D vwCl (mo_T g) s M H locs → lv_has ls 8 [(0, .ref b), (1, .ref x1), (2, .ref x2), (3, .ref x3), (4, .int x4)] → W p l e room_1 s m #[Value.ref b] below meth c H locs cu su (lw_Z below #[Value.ref b] s) (F0 m 33 ls [])) (M : mo_M) (cu su : Nat) (x1 : Nat) (x2 : Nat) (x3 : Nat) (x4 : Int32) (H : Heap) (locs : List Loc) (ls : Array Slot), pp_W_law_b1177 g e0 room_1.cells room_1.slots L xs b K B_33 M cu su x1 x2 x3 x4 → mo_ok L0 e0 D vwCl (mo_T g) s M H locs → lv_has ls 8 [(0, .ref b), (1, .ref x1), (2, .ref x2), (3, .ref x3), (4, .int x4)] → W p l e room_1 s m #[Value.ref b] below meth c H locs cu su (lw_Z below #[Value.ref b] s) (F0 m 1177 ls []) := by
    intro B_33 hB_33 M cu su x1 x2 x3 x4 H locs ls hP hok hl
    unfold pp_W_law_b1177 at hP
    refine lv_iinc (k := 4) (v := x4 + 5) (lv' := [(4, .int (x4 + 5)), (0, .ref b), (1, .ref x1), (2, .ref x2), (3, .ref x3)]) hx hb d_W_law_1177 hl rfl rfl (by decide) rfl (fun ls hl => ?_)
    refine lv_goto (tgt := 33) hx hb d_W_law_1180 (by decide) ?_
    exact hB_33 _ _ _ _ _ _ _ _ _ _ hP hok (lv_sub hl [1, 2, 3, 4, 0] rfl)
  have w_992 : ∀ (B_33 : mo_M → Nat → Nat → Nat → Nat → Nat → Int32 → Prop) (hB_33 : ∀ (M : mo_M) (cu su : Nat) (x1 : Nat) (x2 : Nat) (x3 : Nat) (x4 : Int32) (H : Heap) (locs : List Loc) (ls : Array Slot), B_33 M cu su x1 x2 x3 x4 → mo_ok L0 e0 D vwCl (mo_T g) s M H locs → lv_has ls 8 [(0, .ref b), (1, .ref x1), (2, .ref x2), (3, .ref x3), (4, .int x4)] → W p l e room_1 s m #[Value.ref b] below meth c H locs cu su (lw_Z below #[Value.ref b] s) (F0 m 33 ls [])) (M : mo_M) (cu su : Nat) (x1 : Nat) (x2 : Nat) (x3 : Nat) (x4 : Int32) (H : Heap) (locs : List Loc) (ls : Array Slot), pp_W_law_b992 g e0 room_1.cells room_1.slots L xs b K B_33 M cu su x1 x2 x3 x4 → mo_ok L0 e0 D vwCl (mo_T g) s M H locs → lv_has ls 8 [(0, .ref b), (1, .ref x1), (2, .ref x2), (3, .ref x3), (4, .int x4)] → W p l e room_1 s m #[Value.ref b] below meth c H locs cu su (lw_Z below #[Value.ref b] s) (F0 m 992 ls []) := by
    intro B_33 hB_33 M cu su x1 x2 x3 x4 H locs ls hP hok hl
    unfold pp_W_law_b992 at hP
    refine lv_goto (tgt := 1177) hx hb d_W_law_992 (by decide) ?_
    exact w_1177 B_33 hB_33 _ _ _ _ _ _ _ _ _ _ hP hok (lv_sub hl [0, 1, 2, 3, 4] rfl)
  have w_875 : ∀ (B_33 : mo_M → Nat → Nat → Nat → Nat → Nat → Int32 → Prop) (hB_33 : ∀ (M : mo_M) (cu su : Nat) (x1 : Nat) (x2 : Nat) (x3 : Nat) (x4 : Int32) (H : Heap) (locs : List Loc) (ls : Array Slot), B_33 M cu su x1 x2 x3 x4 → mo_ok L0 e0 D vwCl (mo_T g) s M H locs → lv_has ls 8 [(0, .ref b), (1, .ref x1), (2, .ref x2), (3, .ref x3), (4, .int x4)] → W p l e room_1 s m #[Value.ref b] below meth c H locs cu su (lw_Z below #[Value.ref b] s) (F0 m 33 ls [])) (M : mo_M) (cu su : Nat) (x1 : Nat) (x2 : Nat) (x3 : Nat) (x4 : Int32) (H : Heap) (locs : List Loc) (ls : Array Slot), pp_W_law_b875 g e0 room_1.cells room_1.slots L xs b K B_33 M cu su x1 x2 x3 x4 → mo_ok L0 e0 D vwCl (mo_T g) s M H locs → lv_has ls 8 [(0, .ref b), (1, .ref x1), (2, .ref x2), (3, .ref x3), (4, .int x4)] → W p l e room_1 s m #[Value.ref b] below meth c H locs cu su (lw_Z below #[Value.ref b] s) (F0 m 875 ls []) := by
    intro B_33 hB_33 M cu su x1 x2 x3 x4 H locs ls hP hok hl
    unfold pp_W_law_b875 at hP
    refine lv_goto (tgt := 1177) hx hb d_W_law_875 (by decide) ?_
    exact w_1177 B_33 hB_33 _ _ _ _ _ _ _ _ _ _ hP hok (lv_sub hl [0, 1, 2, 3, 4] rfl)
  have w_722 : ∀ (B_33 : mo_M → Nat → Nat → Nat → Nat → Nat → Int32 → Prop) (hB_33 : ∀ (M : mo_M) (cu su : Nat) (x1 : Nat) (x2 : Nat) (x3 : Nat) (x4 : Int32) (H : Heap) (locs : List Loc) (ls : Array Slot), B_33 M cu su x1 x2 x3 x4 → mo_ok L0 e0 D vwCl (mo_T g) s M H locs → lv_has ls 8 [(0, .ref b), (1, .ref x1), (2, .ref x2), (3, .ref x3), (4, .int x4)] → W p l e room_1 s m #[Value.ref b] below meth c H locs cu su (lw_Z below #[Value.ref b] s) (F0 m 33 ls [])) (M : mo_M) (cu su : Nat) (x1 : Nat) (x2 : Nat) (x3 : Nat) (x4 : Int32) (H : Heap) (locs : List Loc) (ls : Array Slot), pp_W_law_b722 g e0 room_1.cells room_1.slots L xs b K B_33 M cu su x1 x2 x3 x4 → mo_ok L0 e0 D vwCl (mo_T g) s M H locs → lv_has ls 8 [(0, .ref b), (1, .ref x1), (2, .ref x2), (3, .ref x3), (4, .int x4)] → W p l e room_1 s m #[Value.ref b] below meth c H locs cu su (lw_Z below #[Value.ref b] s) (F0 m 722 ls []) := by
    intro B_33 hB_33 M cu su x1 x2 x3 x4 H locs ls hP hok hl
    unfold pp_W_law_b722 at hP
    refine lv_goto (tgt := 1177) hx hb d_W_law_722 (by decide) ?_
    exact w_1177 B_33 hB_33 _ _ _ _ _ _ _ _ _ _ hP hok (lv_sub hl [0, 1, 2, 3, 4] rfl)
  have w_205 : ∀ (B_33 : mo_M → Nat → Nat → Nat → Nat → Nat → Int32 → Prop) (hB_33 : ∀ (M : mo_M) (cu su : Nat) (x1 : Nat) (x2 : Nat) (x3 : Nat) (x4 : Int32) (H : Heap) (locs : List Loc) (ls : Array Slot), B_33 M cu su x1 x2 x3 x4 → mo_ok L0 e0 D vwCl (mo_T g) s M H locs → lv_has ls 8 [(0, .ref b), (1, .ref x1), (2, .ref x2), (3, .ref x3), (4, .int x4)] → W p l e room_1 s m #[Value.ref b] below meth c H locs cu su (lw_Z below #[Value.ref b] s) (F0 m 33 ls [])) (M : mo_M) (cu su : Nat) (x1 : Nat) (x2 : Nat) (x3 : Nat) (x4 : Int32) (s0 : Int32) (s1 : Int32) (s2 : Int32) (s3 : Nat) (s4 : Int32) (H : Heap) (locs : List Loc) (ls : Array Slot), pp_W_law_b205 g e0 room_1.cells room_1.slots L xs b K B_33 M cu su x1 x2 x3 x4 s0 s1 s2 s3 s4 → mo_ok L0 e0 D vwCl (mo_T g) s M H locs → lv_has ls 8 [(0, .ref b), (1, .ref x1), (2, .ref x2), (3, .ref x3), (4, .int x4)] → W p l e room_1 s m #[Value.ref b] below meth c H locs cu su (lw_Z below #[Value.ref b] s) (F0 m 205 ls [.int s0, .int s1, .int s2, .ref s3, .int s4]) := by
    intro B_33 hB_33 M cu su x1 x2 x3 x4 s0 s1 s2 s3 s4 H locs ls hP hok hl
    unfold pp_W_law_b205 at hP
    obtain ⟨hcc, hss, hP⟩ := hP
    obtain ⟨⟨fs9, he9⟩, hP⟩ := hP
    refine mo_calli hok (va_runV (As := [.int s2, .int s1, .int s0]) (rest := [.int s4]) ⟨hx, hb, hml, hown, hts⟩ (cc_M_link l L0 D hP) ⟨(callB_of 3 hts (lw_gi wd_700) rfl rfl rfl (hts _ wd_39) (hts _ wd_697) (by decide +kernel) ⟨Nat.le_of_ble_eq_true rfl, Nat.le_of_ble_eq_true rfl⟩), hts _ wd_698, hts _ wd_699⟩ (mo_preV hok he9 rfl [.int s2, .int s1, .int s0]) rfl rfl hl.1 rfl (lv_room (Nat.le_of_ble_eq_true rfl)) d_W_law_205 ⟨hcc, hss⟩) (fun r116 M115 H locs hP hok => ?_)
    refine lv_icmp_eq (tgt := 1177) hx hb d_W_law_208 (by decide) (fun hc => ?_) (fun hc => ?_)
    · replace hP := hP.1 hc
      exact w_1177 B_33 hB_33 _ _ _ _ _ _ _ _ _ _ hP hok (lv_sub hl [0, 1, 2, 3, 4] rfl)
    · replace hP := hP.2 hc
      exact hP.elim
  have w_175 : ∀ (B_33 : mo_M → Nat → Nat → Nat → Nat → Nat → Int32 → Prop) (hB_33 : ∀ (M : mo_M) (cu su : Nat) (x1 : Nat) (x2 : Nat) (x3 : Nat) (x4 : Int32) (H : Heap) (locs : List Loc) (ls : Array Slot), B_33 M cu su x1 x2 x3 x4 → mo_ok L0 e0 D vwCl (mo_T g) s M H locs → lv_has ls 8 [(0, .ref b), (1, .ref x1), (2, .ref x2), (3, .ref x3), (4, .int x4)] → W p l e room_1 s m #[Value.ref b] below meth c H locs cu su (lw_Z below #[Value.ref b] s) (F0 m 33 ls [])) (M : mo_M) (cu su : Nat) (x1 : Nat) (x2 : Nat) (x3 : Nat) (x4 : Int32) (s0 : Int32) (s1 : Int32) (s2 : Int32) (s3 : Nat) (H : Heap) (locs : List Loc) (ls : Array Slot), pp_W_law_b175 g e0 room_1.cells room_1.slots L xs b K B_33 M cu su x1 x2 x3 x4 s0 s1 s2 s3 → mo_ok L0 e0 D vwCl (mo_T g) s M H locs → lv_has ls 8 [(0, .ref b), (1, .ref x1), (2, .ref x2), (3, .ref x3), (4, .int x4)] → W p l e room_1 s m #[Value.ref b] below meth c H locs cu su (lw_Z below #[Value.ref b] s) (F0 m 175 ls [.int s0, .int s1, .int s2, .ref s3]) := by
    intro B_33 hB_33 M cu su x1 x2 x3 x4 s0 s1 s2 s3 H locs ls hP hok hl
    unfold pp_W_law_b175 at hP
    obtain ⟨c111, t112, hcc, hss, hP⟩ := hP
    obtain ⟨⟨fs9, he9⟩, hP⟩ := hP
    refine mo_calli hok (va_runV (As := [.int s2, .int s1, .int s0]) (rest := []) ⟨hx, hb, hml, hown, hts⟩ (cc_H_link l L0 D hP) ⟨(callB_of 3 hts (lw_gi wd_160) rfl rfl rfl (hts _ wd_33) (hts _ wd_157) (by decide +kernel) ⟨Nat.le_of_ble_eq_true rfl, Nat.le_of_ble_eq_true rfl⟩), hts _ wd_158, hts _ wd_159⟩ (mo_preV hok he9 rfl [.int s2, .int s1, .int s0]) rfl rfl hl.1 rfl (lv_room (Nat.le_of_ble_eq_true rfl)) d_W_law_175 ⟨hcc, hss⟩) (fun r114 M113 H locs hP hok => ?_)
    refine lv_aload_n hx hb d_W_law_178 rfl (lv_at hl 2 rfl) ?_
    refine lv_aload_n hx hb d_W_law_179 rfl (lv_at hl 0 rfl) ?_
    refine lv_iload hx hb d_W_law_180 (lv_at hl 4 rfl) ?_
    refine lv_iconst (v := 1) hx hb d_W_law_182 (by decide) ?_
    refine lv_iadd hx hb d_W_law_183 ?_
    obtain ⟨hin, hP⟩ := hP
    refine va_sld (A := fun q => L0 ≤ q) hx hb hX hbl hbA hok.2.2.2 hin d_W_law_184 ?_
    refine lv_aload_n hx hb d_W_law_185 rfl (lv_at hl 0 rfl) ?_
    refine lv_iload hx hb d_W_law_186 (lv_at hl 4 rfl) ?_
    refine lv_iconst (v := 2) hx hb d_W_law_188 (by decide) ?_
    refine lv_iadd hx hb d_W_law_189 ?_
    obtain ⟨hin, hP⟩ := hP
    refine va_sld (A := fun q => L0 ≤ q) hx hb hX hbl hbA hok.2.2.2 hin d_W_law_190 ?_
    refine lv_aload_n hx hb d_W_law_191 rfl (lv_at hl 0 rfl) ?_
    refine lv_iload hx hb d_W_law_192 (lv_at hl 4 rfl) ?_
    refine lv_iconst (v := 3) hx hb d_W_law_194 (by decide) ?_
    refine lv_iadd hx hb d_W_law_195 ?_
    obtain ⟨hin, hP⟩ := hP
    refine va_sld (A := fun q => L0 ≤ q) hx hb hX hbl hbA hok.2.2.2 hin d_W_law_196 ?_
    refine lv_if_eq (tgt := 204) hx hb d_W_law_197 (by decide) (fun hc => ?_) (fun hc => ?_)
    · replace hP := hP.1 hc
      refine lv_iconst (v := 0) hx hb d_W_law_204 (by decide) ?_
      exact w_205 B_33 hB_33 _ _ _ _ _ _ _ _ _ _ _ _ _ _ _ hP hok (lv_sub hl [0, 1, 2, 3, 4] rfl)
    · replace hP := hP.2 hc
      refine lv_iconst (v := 1) hx hb d_W_law_200 (by decide) ?_
      refine lv_goto (tgt := 205) hx hb d_W_law_201 (by decide) ?_
      exact w_205 B_33 hB_33 _ _ _ _ _ _ _ _ _ _ _ _ _ _ _ hP hok (lv_sub hl [0, 1, 2, 3, 4] rfl)
  have w_33 : ∀ (n : Nat) (M : mo_M) (cu su : Nat) (x1 : Nat) (x2 : Nat) (x3 : Nat) (x4 : Int32) (H : Heap) (locs : List Loc) (ls : Array Slot), pp_W_law_b33 g e0 room_1.cells room_1.slots L xs b K n M cu su x1 x2 x3 x4 → mo_ok L0 e0 D vwCl (mo_T g) s M H locs → lv_has ls 8 [(0, .ref b), (1, .ref x1), (2, .ref x2), (3, .ref x3), (4, .int x4)] → W p l e room_1 s m #[Value.ref b] below meth c H locs cu su (lw_Z below #[Value.ref b] s) (F0 m 33 ls []) := by
    intro n
    induction n with
    | zero => intro M cu su x1 x2 x3 x4 H locs ls hP; exact hP.elim
    | succ n ih =>
      intro M cu su x1 x2 x3 x4 H locs ls hP hok hl
      unfold pp_W_law_b33 at hP
      refine lv_iload hx hb d_W_law_33 (lv_at hl 4 rfl) ?_
      refine lv_aload_n hx hb d_W_law_35 rfl (lv_at hl 0 rfl) ?_
      refine va_slen (A := fun q => L0 ≤ q) hx hb hX hbl hbA hok.2.2.2 d_W_law_36 ?_
      refine W.eq (g2 := F0 m 37 ls [.int ((nI L)), .int x4]) rfl ?_
      refine lv_iconst (v := 5) hx hb d_W_law_37 (by decide) ?_
      refine lv_isub hx hb d_W_law_38 ?_
      refine lv_icmp_gt (tgt := 1183) hx hb d_W_law_39 (by decide) (fun hc => ?_) (fun hc => ?_)
      · replace hP := hP.1 hc
        obtain ⟨hcu, hsu, hP⟩ := hP
        refine lv_iconst (v := 1) hx hb d_W_law_1183 (by decide) ?_
        refine W.widen (k := 601024) (n := 7293000) hcu hsu ?_
        exact lw_fg (fun x hx => by rw [← hL0]; exact hok.2.2.2.2.2 x hx) (lw_ret hx hb hr hlocks d_W_law_1184)
      · replace hP := hP.2 hc
        refine lv_aload_n hx hb d_W_law_42 rfl (lv_at hl 0 rfl) ?_
        refine lv_iload hx hb d_W_law_43 (lv_at hl 4 rfl) ?_
        obtain ⟨hin, hP⟩ := hP
        refine va_sld (A := fun q => L0 ≤ q) hx hb hX hbl hbA hok.2.2.2 hin d_W_law_45 ?_
        refine lv_bipush (v := 31) hx hb d_W_law_46 (by decide) ?_
        refine lv_iand hx hb d_W_law_48 ?_
        by_cases hsw : ((((xs x4.toNatClampNeg)) &&& ((31 : Int32)))).toInt < 0 ∨ 20 < ((((xs x4.toNatClampNeg)) &&& ((31 : Int32)))).toInt
        · replace hP := hP.1 hsw
          refine lv_tableOut (tgt := 1177) hx hb d_W_law_49 hsw (by decide) ?_
          exact w_1177 _ ih _ _ _ _ _ _ _ _ _ _ hP hok (lv_sub hl [0, 1, 2, 3, 4] rfl)
        · replace hP := hP.2
          have hsw1 : ¬ ((((xs x4.toNatClampNeg)) &&& ((31 : Int32)))).toInt < 0 := fun h => hsw (Or.inl h)
          have hsw2 : ¬ 20 < ((((xs x4.toNatClampNeg)) &&& ((31 : Int32)))).toInt := fun h => hsw (Or.inr h)
          obtain ⟨ksw, hks, hke⟩ := mo_swE (hi := 20) hsw1 hsw2
          have hks : ksw = 0 ∨ ksw = 1 ∨ ksw = 2 ∨ ksw = 3 ∨ ksw = 4 ∨ ksw = 5 ∨ ksw = 6 ∨ ksw = 7 ∨ ksw = 8 ∨ ksw = 9 ∨ ksw = 10 ∨ ksw = 11 ∨ ksw = 12 ∨ ksw = 13 ∨ ksw = 14 ∨ ksw = 15 ∨ ksw = 16 ∨ ksw = 17 ∨ ksw = 18 ∨ ksw = 19 ∨ ksw = 20 := by omega
          rcases hks with rfl | rfl | rfl | rfl | rfl | rfl | rfl | rfl | rfl | rfl | rfl | rfl | rfl | rfl | rfl | rfl | rfl | rfl | rfl | rfl | rfl
          · have hP := hP.1 hke
            refine lv_tableIn (tgt := 148) hx hb d_W_law_49 hsw1 hsw2 (by rw [hke]; rfl) (by decide) ?_
            refine lv_aload_n hx hb d_W_law_148 rfl (lv_at hl 1 rfl) ?_
            refine lv_aload_n hx hb d_W_law_149 rfl (lv_at hl 0 rfl) ?_
            refine lv_iload hx hb d_W_law_150 (lv_at hl 4 rfl) ?_
            refine lv_iconst (v := 1) hx hb d_W_law_152 (by decide) ?_
            refine lv_iadd hx hb d_W_law_153 ?_
            obtain ⟨hin, hP⟩ := hP
            refine va_sld (A := fun q => L0 ≤ q) hx hb hX hbl hbA hok.2.2.2 hin d_W_law_154 ?_
            refine lv_aload_n hx hb d_W_law_155 rfl (lv_at hl 0 rfl) ?_
            refine lv_iload hx hb d_W_law_156 (lv_at hl 4 rfl) ?_
            refine lv_iconst (v := 2) hx hb d_W_law_158 (by decide) ?_
            refine lv_iadd hx hb d_W_law_159 ?_
            obtain ⟨hin, hP⟩ := hP
            refine va_sld (A := fun q => L0 ≤ q) hx hb hX hbl hbA hok.2.2.2 hin d_W_law_160 ?_
            refine lv_aload_n hx hb d_W_law_161 rfl (lv_at hl 0 rfl) ?_
            refine lv_iload hx hb d_W_law_162 (lv_at hl 4 rfl) ?_
            refine lv_iconst (v := 3) hx hb d_W_law_164 (by decide) ?_
            refine lv_iadd hx hb d_W_law_165 ?_
            obtain ⟨hin, hP⟩ := hP
            refine va_sld (A := fun q => L0 ≤ q) hx hb hX hbl hbA hok.2.2.2 hin d_W_law_166 ?_
            refine lv_if_eq (tgt := 174) hx hb d_W_law_167 (by decide) (fun hc => ?_) (fun hc => ?_)
            · replace hP := hP.1 hc
              refine lv_iconst (v := 0) hx hb d_W_law_174 (by decide) ?_
              exact w_175 _ ih _ _ _ _ _ _ _ _ _ _ _ _ _ _ hP hok (lv_sub hl [0, 1, 2, 3, 4] rfl)
            · replace hP := hP.2 hc
              refine lv_iconst (v := 1) hx hb d_W_law_170 (by decide) ?_
              refine lv_goto (tgt := 175) hx hb d_W_law_171 (by decide) ?_
              exact w_175 _ ih _ _ _ _ _ _ _ _ _ _ _ _ _ _ hP hok (lv_sub hl [0, 1, 2, 3, 4] rfl)
          · have hP := hP.2.1 hke
            refine lv_tableIn (tgt := 213) hx hb d_W_law_49 hsw1 hsw2 (by rw [hke]; rfl) (by decide) ?_
            refine lv_aload_n hx hb d_W_law_213 rfl (lv_at hl 1 rfl) ?_
            refine lv_aload_n hx hb d_W_law_214 rfl (lv_at hl 0 rfl) ?_
            refine lv_iload hx hb d_W_law_215 (lv_at hl 4 rfl) ?_
            refine lv_iconst (v := 1) hx hb d_W_law_217 (by decide) ?_
            refine lv_iadd hx hb d_W_law_218 ?_
            obtain ⟨hin, hP⟩ := hP
            refine va_sld (A := fun q => L0 ≤ q) hx hb hX hbl hbA hok.2.2.2 hin d_W_law_219 ?_
            refine lv_aload_n hx hb d_W_law_220 rfl (lv_at hl 0 rfl) ?_
            refine lv_iload hx hb d_W_law_221 (lv_at hl 4 rfl) ?_
            refine lv_iconst (v := 2) hx hb d_W_law_223 (by decide) ?_
            refine lv_iadd hx hb d_W_law_224 ?_
            obtain ⟨hin, hP⟩ := hP
            refine va_sld (A := fun q => L0 ≤ q) hx hb hX hbl hbA hok.2.2.2 hin d_W_law_225 ?_
            refine lv_aload_n hx hb d_W_law_226 rfl (lv_at hl 0 rfl) ?_
            refine lv_iload hx hb d_W_law_227 (lv_at hl 4 rfl) ?_
            refine lv_iconst (v := 3) hx hb d_W_law_229 (by decide) ?_
            refine lv_iadd hx hb d_W_law_230 ?_
            obtain ⟨hin, hP⟩ := hP
            refine va_sld (A := fun q => L0 ≤ q) hx hb hX hbl hbA hok.2.2.2 hin d_W_law_231 ?_
            refine lv_aload_n hx hb d_W_law_232 rfl (lv_at hl 0 rfl) ?_
            refine lv_iload hx hb d_W_law_233 (lv_at hl 4 rfl) ?_
            refine lv_iconst (v := 4) hx hb d_W_law_235 (by decide) ?_
            refine lv_iadd hx hb d_W_law_236 ?_
            obtain ⟨hin, hP⟩ := hP
            refine va_sld (A := fun q => L0 ≤ q) hx hb hX hbl hbA hok.2.2.2 hin d_W_law_237 ?_
            obtain ⟨hcc, hss, hP⟩ := hP
            obtain ⟨⟨fs9, he9⟩, hP⟩ := hP
            refine mo_calli hok (va_runV (As := [.int ((xs ((x4 + ((1 : Int32)))).toNatClampNeg)), .int ((xs ((x4 + ((2 : Int32)))).toNatClampNeg)), .int ((xs ((x4 + ((3 : Int32)))).toNatClampNeg)), .int ((xs ((x4 + ((4 : Int32)))).toNatClampNeg))]) (rest := []) ⟨hx, hb, hml, hown, hts⟩ (cc_H_rate l L0 D hP) ⟨(callB_of 4 hts (lw_gi wd_260) rfl rfl rfl (hts _ wd_33) (hts _ wd_257) (by decide +kernel) ⟨Nat.le_of_ble_eq_true rfl, Nat.le_of_ble_eq_true rfl⟩), hts _ wd_258, hts _ wd_259⟩ (mo_preV hok he9 rfl [.int ((xs ((x4 + ((1 : Int32)))).toNatClampNeg)), .int ((xs ((x4 + ((2 : Int32)))).toNatClampNeg)), .int ((xs ((x4 + ((3 : Int32)))).toNatClampNeg)), .int ((xs ((x4 + ((4 : Int32)))).toNatClampNeg))]) rfl rfl hl.1 rfl (lv_room (Nat.le_of_ble_eq_true rfl)) d_W_law_238 ⟨hcc, hss⟩) (fun r17 M16 H locs hP hok => ?_)
            refine lv_aload_n hx hb d_W_law_241 rfl (lv_at hl 2 rfl) ?_
            refine lv_aload_n hx hb d_W_law_242 rfl (lv_at hl 0 rfl) ?_
            refine lv_iload hx hb d_W_law_243 (lv_at hl 4 rfl) ?_
            refine lv_iconst (v := 1) hx hb d_W_law_245 (by decide) ?_
            refine lv_iadd hx hb d_W_law_246 ?_
            obtain ⟨hin, hP⟩ := hP
            refine va_sld (A := fun q => L0 ≤ q) hx hb hX hbl hbA hok.2.2.2 hin d_W_law_247 ?_
            refine lv_aload_n hx hb d_W_law_248 rfl (lv_at hl 0 rfl) ?_
            refine lv_iload hx hb d_W_law_249 (lv_at hl 4 rfl) ?_
            refine lv_iconst (v := 2) hx hb d_W_law_251 (by decide) ?_
            refine lv_iadd hx hb d_W_law_252 ?_
            obtain ⟨hin, hP⟩ := hP
            refine va_sld (A := fun q => L0 ≤ q) hx hb hX hbl hbA hok.2.2.2 hin d_W_law_253 ?_
            refine lv_aload_n hx hb d_W_law_254 rfl (lv_at hl 0 rfl) ?_
            refine lv_iload hx hb d_W_law_255 (lv_at hl 4 rfl) ?_
            refine lv_iconst (v := 3) hx hb d_W_law_257 (by decide) ?_
            refine lv_iadd hx hb d_W_law_258 ?_
            obtain ⟨hin, hP⟩ := hP
            refine va_sld (A := fun q => L0 ≤ q) hx hb hX hbl hbA hok.2.2.2 hin d_W_law_259 ?_
            refine lv_aload_n hx hb d_W_law_260 rfl (lv_at hl 0 rfl) ?_
            refine lv_iload hx hb d_W_law_261 (lv_at hl 4 rfl) ?_
            refine lv_iconst (v := 4) hx hb d_W_law_263 (by decide) ?_
            refine lv_iadd hx hb d_W_law_264 ?_
            obtain ⟨hin, hP⟩ := hP
            refine va_sld (A := fun q => L0 ≤ q) hx hb hX hbl hbA hok.2.2.2 hin d_W_law_265 ?_
            obtain ⟨hcc, hss, hP⟩ := hP
            obtain ⟨⟨fs9, he9⟩, hP⟩ := hP
            refine mo_calli hok (va_runV (As := [.int ((xs ((x4 + ((1 : Int32)))).toNatClampNeg)), .int ((xs ((x4 + ((2 : Int32)))).toNatClampNeg)), .int ((xs ((x4 + ((3 : Int32)))).toNatClampNeg)), .int ((xs ((x4 + ((4 : Int32)))).toNatClampNeg))]) (rest := [.int r17]) ⟨hx, hb, hml, hown, hts⟩ (cc_M_rate l L0 D hP) ⟨(callB_of 4 hts (lw_gi wd_708) rfl rfl rfl (hts _ wd_39) (hts _ wd_705) (by decide +kernel) ⟨Nat.le_of_ble_eq_true rfl, Nat.le_of_ble_eq_true rfl⟩), hts _ wd_706, hts _ wd_707⟩ (mo_preV hok he9 rfl [.int ((xs ((x4 + ((1 : Int32)))).toNatClampNeg)), .int ((xs ((x4 + ((2 : Int32)))).toNatClampNeg)), .int ((xs ((x4 + ((3 : Int32)))).toNatClampNeg)), .int ((xs ((x4 + ((4 : Int32)))).toNatClampNeg))]) rfl rfl hl.1 rfl (lv_room (Nat.le_of_ble_eq_true rfl)) d_W_law_266 ⟨hcc, hss⟩) (fun r19 M18 H locs hP hok => ?_)
            refine lv_icmp_eq (tgt := 1177) hx hb d_W_law_269 (by decide) (fun hc => ?_) (fun hc => ?_)
            · replace hP := hP.1 hc
              exact w_1177 _ ih _ _ _ _ _ _ _ _ _ _ hP hok (lv_sub hl [0, 1, 2, 3, 4] rfl)
            · replace hP := hP.2 hc
              exact hP.elim
          · have hP := hP.2.2.1 hke
            refine lv_tableIn (tgt := 274) hx hb d_W_law_49 hsw1 hsw2 (by rw [hke]; rfl) (by decide) ?_
            refine lv_aload_n hx hb d_W_law_274 rfl (lv_at hl 1 rfl) ?_
            refine lv_aload_n hx hb d_W_law_275 rfl (lv_at hl 0 rfl) ?_
            refine lv_iload hx hb d_W_law_276 (lv_at hl 4 rfl) ?_
            refine lv_iconst (v := 1) hx hb d_W_law_278 (by decide) ?_
            refine lv_iadd hx hb d_W_law_279 ?_
            obtain ⟨hin, hP⟩ := hP
            refine va_sld (A := fun q => L0 ≤ q) hx hb hX hbl hbA hok.2.2.2 hin d_W_law_280 ?_
            refine lv_aload_n hx hb d_W_law_281 rfl (lv_at hl 0 rfl) ?_
            refine lv_iload hx hb d_W_law_282 (lv_at hl 4 rfl) ?_
            refine lv_iconst (v := 2) hx hb d_W_law_284 (by decide) ?_
            refine lv_iadd hx hb d_W_law_285 ?_
            obtain ⟨hin, hP⟩ := hP
            refine va_sld (A := fun q => L0 ≤ q) hx hb hX hbl hbA hok.2.2.2 hin d_W_law_286 ?_
            refine lv_aload_n hx hb d_W_law_287 rfl (lv_at hl 0 rfl) ?_
            refine lv_iload hx hb d_W_law_288 (lv_at hl 4 rfl) ?_
            refine lv_iconst (v := 3) hx hb d_W_law_290 (by decide) ?_
            refine lv_iadd hx hb d_W_law_291 ?_
            obtain ⟨hin, hP⟩ := hP
            refine va_sld (A := fun q => L0 ≤ q) hx hb hX hbl hbA hok.2.2.2 hin d_W_law_292 ?_
            obtain ⟨hcc, hss, hP⟩ := hP
            obtain ⟨⟨fs9, he9⟩, hP⟩ := hP
            refine mo_calli hok (va_runV (As := [.int ((xs ((x4 + ((1 : Int32)))).toNatClampNeg)), .int ((xs ((x4 + ((2 : Int32)))).toNatClampNeg)), .int ((xs ((x4 + ((3 : Int32)))).toNatClampNeg))]) (rest := []) ⟨hx, hb, hml, hown, hts⟩ (cc_H_mint l L0 D hP) ⟨(callB_of 3 hts (lw_gi wd_268) rfl rfl rfl (hts _ wd_33) (hts _ wd_265) (by decide +kernel) ⟨Nat.le_of_ble_eq_true rfl, Nat.le_of_ble_eq_true rfl⟩), hts _ wd_266, hts _ wd_267⟩ (mo_preV hok he9 rfl [.int ((xs ((x4 + ((1 : Int32)))).toNatClampNeg)), .int ((xs ((x4 + ((2 : Int32)))).toNatClampNeg)), .int ((xs ((x4 + ((3 : Int32)))).toNatClampNeg))]) rfl rfl hl.1 rfl (lv_room (Nat.le_of_ble_eq_true rfl)) d_W_law_293 ⟨hcc, hss⟩) (fun r21 M20 H locs hP hok => ?_)
            refine lv_aload_n hx hb d_W_law_296 rfl (lv_at hl 2 rfl) ?_
            refine lv_aload_n hx hb d_W_law_297 rfl (lv_at hl 0 rfl) ?_
            refine lv_iload hx hb d_W_law_298 (lv_at hl 4 rfl) ?_
            refine lv_iconst (v := 1) hx hb d_W_law_300 (by decide) ?_
            refine lv_iadd hx hb d_W_law_301 ?_
            obtain ⟨hin, hP⟩ := hP
            refine va_sld (A := fun q => L0 ≤ q) hx hb hX hbl hbA hok.2.2.2 hin d_W_law_302 ?_
            refine lv_aload_n hx hb d_W_law_303 rfl (lv_at hl 0 rfl) ?_
            refine lv_iload hx hb d_W_law_304 (lv_at hl 4 rfl) ?_
            refine lv_iconst (v := 2) hx hb d_W_law_306 (by decide) ?_
            refine lv_iadd hx hb d_W_law_307 ?_
            obtain ⟨hin, hP⟩ := hP
            refine va_sld (A := fun q => L0 ≤ q) hx hb hX hbl hbA hok.2.2.2 hin d_W_law_308 ?_
            refine lv_aload_n hx hb d_W_law_309 rfl (lv_at hl 0 rfl) ?_
            refine lv_iload hx hb d_W_law_310 (lv_at hl 4 rfl) ?_
            refine lv_iconst (v := 3) hx hb d_W_law_312 (by decide) ?_
            refine lv_iadd hx hb d_W_law_313 ?_
            obtain ⟨hin, hP⟩ := hP
            refine va_sld (A := fun q => L0 ≤ q) hx hb hX hbl hbA hok.2.2.2 hin d_W_law_314 ?_
            obtain ⟨hcc, hss, hP⟩ := hP
            obtain ⟨⟨fs9, he9⟩, hP⟩ := hP
            refine mo_calli hok (va_runV (As := [.int ((xs ((x4 + ((1 : Int32)))).toNatClampNeg)), .int ((xs ((x4 + ((2 : Int32)))).toNatClampNeg)), .int ((xs ((x4 + ((3 : Int32)))).toNatClampNeg))]) (rest := [.int r21]) ⟨hx, hb, hml, hown, hts⟩ (cc_M_mint l L0 D hP) ⟨(callB_of 3 hts (lw_gi wd_716) rfl rfl rfl (hts _ wd_39) (hts _ wd_713) (by decide +kernel) ⟨Nat.le_of_ble_eq_true rfl, Nat.le_of_ble_eq_true rfl⟩), hts _ wd_714, hts _ wd_715⟩ (mo_preV hok he9 rfl [.int ((xs ((x4 + ((1 : Int32)))).toNatClampNeg)), .int ((xs ((x4 + ((2 : Int32)))).toNatClampNeg)), .int ((xs ((x4 + ((3 : Int32)))).toNatClampNeg))]) rfl rfl hl.1 rfl (lv_room (Nat.le_of_ble_eq_true rfl)) d_W_law_315 ⟨hcc, hss⟩) (fun r23 M22 H locs hP hok => ?_)
            refine lv_icmp_eq (tgt := 1177) hx hb d_W_law_318 (by decide) (fun hc => ?_) (fun hc => ?_)
            · replace hP := hP.1 hc
              exact w_1177 _ ih _ _ _ _ _ _ _ _ _ _ hP hok (lv_sub hl [0, 1, 2, 3, 4] rfl)
            · replace hP := hP.2 hc
              exact hP.elim
          · have hP := hP.2.2.2.1 hke
            refine lv_tableIn (tgt := 323) hx hb d_W_law_49 hsw1 hsw2 (by rw [hke]; rfl) (by decide) ?_
            refine lv_aload_n hx hb d_W_law_323 rfl (lv_at hl 1 rfl) ?_
            refine lv_aload_n hx hb d_W_law_324 rfl (lv_at hl 0 rfl) ?_
            refine lv_iload hx hb d_W_law_325 (lv_at hl 4 rfl) ?_
            refine lv_iconst (v := 1) hx hb d_W_law_327 (by decide) ?_
            refine lv_iadd hx hb d_W_law_328 ?_
            obtain ⟨hin, hP⟩ := hP
            refine va_sld (A := fun q => L0 ≤ q) hx hb hX hbl hbA hok.2.2.2 hin d_W_law_329 ?_
            refine lv_aload_n hx hb d_W_law_330 rfl (lv_at hl 0 rfl) ?_
            refine lv_iload hx hb d_W_law_331 (lv_at hl 4 rfl) ?_
            refine lv_iconst (v := 2) hx hb d_W_law_333 (by decide) ?_
            refine lv_iadd hx hb d_W_law_334 ?_
            obtain ⟨hin, hP⟩ := hP
            refine va_sld (A := fun q => L0 ≤ q) hx hb hX hbl hbA hok.2.2.2 hin d_W_law_335 ?_
            refine lv_aload_n hx hb d_W_law_336 rfl (lv_at hl 0 rfl) ?_
            refine lv_iload hx hb d_W_law_337 (lv_at hl 4 rfl) ?_
            refine lv_iconst (v := 3) hx hb d_W_law_339 (by decide) ?_
            refine lv_iadd hx hb d_W_law_340 ?_
            obtain ⟨hin, hP⟩ := hP
            refine va_sld (A := fun q => L0 ≤ q) hx hb hX hbl hbA hok.2.2.2 hin d_W_law_341 ?_
            obtain ⟨hcc, hss, hP⟩ := hP
            obtain ⟨⟨fs9, he9⟩, hP⟩ := hP
            refine mo_calli hok (va_runV (As := [.int ((xs ((x4 + ((1 : Int32)))).toNatClampNeg)), .int ((xs ((x4 + ((2 : Int32)))).toNatClampNeg)), .int ((xs ((x4 + ((3 : Int32)))).toNatClampNeg))]) (rest := []) ⟨hx, hb, hml, hown, hts⟩ (cc_H_melt l L0 D hP) ⟨(callB_of 3 hts (lw_gi wd_277) rfl rfl rfl (hts _ wd_33) (hts _ wd_274) (by decide +kernel) ⟨Nat.le_of_ble_eq_true rfl, Nat.le_of_ble_eq_true rfl⟩), hts _ wd_275, hts _ wd_276⟩ (mo_preV hok he9 rfl [.int ((xs ((x4 + ((1 : Int32)))).toNatClampNeg)), .int ((xs ((x4 + ((2 : Int32)))).toNatClampNeg)), .int ((xs ((x4 + ((3 : Int32)))).toNatClampNeg))]) rfl rfl hl.1 rfl (lv_room (Nat.le_of_ble_eq_true rfl)) d_W_law_342 ⟨hcc, hss⟩) (fun r25 M24 H locs hP hok => ?_)
            refine lv_aload_n hx hb d_W_law_345 rfl (lv_at hl 2 rfl) ?_
            refine lv_aload_n hx hb d_W_law_346 rfl (lv_at hl 0 rfl) ?_
            refine lv_iload hx hb d_W_law_347 (lv_at hl 4 rfl) ?_
            refine lv_iconst (v := 1) hx hb d_W_law_349 (by decide) ?_
            refine lv_iadd hx hb d_W_law_350 ?_
            obtain ⟨hin, hP⟩ := hP
            refine va_sld (A := fun q => L0 ≤ q) hx hb hX hbl hbA hok.2.2.2 hin d_W_law_351 ?_
            refine lv_aload_n hx hb d_W_law_352 rfl (lv_at hl 0 rfl) ?_
            refine lv_iload hx hb d_W_law_353 (lv_at hl 4 rfl) ?_
            refine lv_iconst (v := 2) hx hb d_W_law_355 (by decide) ?_
            refine lv_iadd hx hb d_W_law_356 ?_
            obtain ⟨hin, hP⟩ := hP
            refine va_sld (A := fun q => L0 ≤ q) hx hb hX hbl hbA hok.2.2.2 hin d_W_law_357 ?_
            refine lv_aload_n hx hb d_W_law_358 rfl (lv_at hl 0 rfl) ?_
            refine lv_iload hx hb d_W_law_359 (lv_at hl 4 rfl) ?_
            refine lv_iconst (v := 3) hx hb d_W_law_361 (by decide) ?_
            refine lv_iadd hx hb d_W_law_362 ?_
            obtain ⟨hin, hP⟩ := hP
            refine va_sld (A := fun q => L0 ≤ q) hx hb hX hbl hbA hok.2.2.2 hin d_W_law_363 ?_
            obtain ⟨hcc, hss, hP⟩ := hP
            obtain ⟨⟨fs9, he9⟩, hP⟩ := hP
            refine mo_calli hok (va_runV (As := [.int ((xs ((x4 + ((1 : Int32)))).toNatClampNeg)), .int ((xs ((x4 + ((2 : Int32)))).toNatClampNeg)), .int ((xs ((x4 + ((3 : Int32)))).toNatClampNeg))]) (rest := [.int r25]) ⟨hx, hb, hml, hown, hts⟩ (cc_M_melt l L0 D hP) ⟨(callB_of 3 hts (lw_gi wd_728) rfl rfl rfl (hts _ wd_39) (hts _ wd_725) (by decide +kernel) ⟨Nat.le_of_ble_eq_true rfl, Nat.le_of_ble_eq_true rfl⟩), hts _ wd_726, hts _ wd_727⟩ (mo_preV hok he9 rfl [.int ((xs ((x4 + ((1 : Int32)))).toNatClampNeg)), .int ((xs ((x4 + ((2 : Int32)))).toNatClampNeg)), .int ((xs ((x4 + ((3 : Int32)))).toNatClampNeg))]) rfl rfl hl.1 rfl (lv_room (Nat.le_of_ble_eq_true rfl)) d_W_law_364 ⟨hcc, hss⟩) (fun r27 M26 H locs hP hok => ?_)
            refine lv_icmp_eq (tgt := 1177) hx hb d_W_law_367 (by decide) (fun hc => ?_) (fun hc => ?_)
            · replace hP := hP.1 hc
              exact w_1177 _ ih _ _ _ _ _ _ _ _ _ _ hP hok (lv_sub hl [0, 1, 2, 3, 4] rfl)
            · replace hP := hP.2 hc
              exact hP.elim
          · have hP := hP.2.2.2.2.1 hke
            refine lv_tableIn (tgt := 372) hx hb d_W_law_49 hsw1 hsw2 (by rw [hke]; rfl) (by decide) ?_
            refine lv_aload_n hx hb d_W_law_372 rfl (lv_at hl 1 rfl) ?_
            refine lv_aload_n hx hb d_W_law_373 rfl (lv_at hl 0 rfl) ?_
            refine lv_iload hx hb d_W_law_374 (lv_at hl 4 rfl) ?_
            refine lv_iconst (v := 1) hx hb d_W_law_376 (by decide) ?_
            refine lv_iadd hx hb d_W_law_377 ?_
            obtain ⟨hin, hP⟩ := hP
            refine va_sld (A := fun q => L0 ≤ q) hx hb hX hbl hbA hok.2.2.2 hin d_W_law_378 ?_
            refine lv_aload_n hx hb d_W_law_379 rfl (lv_at hl 0 rfl) ?_
            refine lv_iload hx hb d_W_law_380 (lv_at hl 4 rfl) ?_
            refine lv_iconst (v := 2) hx hb d_W_law_382 (by decide) ?_
            refine lv_iadd hx hb d_W_law_383 ?_
            obtain ⟨hin, hP⟩ := hP
            refine va_sld (A := fun q => L0 ≤ q) hx hb hX hbl hbA hok.2.2.2 hin d_W_law_384 ?_
            refine lv_aload_n hx hb d_W_law_385 rfl (lv_at hl 0 rfl) ?_
            refine lv_iload hx hb d_W_law_386 (lv_at hl 4 rfl) ?_
            refine lv_iconst (v := 3) hx hb d_W_law_388 (by decide) ?_
            refine lv_iadd hx hb d_W_law_389 ?_
            obtain ⟨hin, hP⟩ := hP
            refine va_sld (A := fun q => L0 ≤ q) hx hb hX hbl hbA hok.2.2.2 hin d_W_law_390 ?_
            refine lv_aload_n hx hb d_W_law_391 rfl (lv_at hl 0 rfl) ?_
            refine lv_iload hx hb d_W_law_392 (lv_at hl 4 rfl) ?_
            refine lv_iconst (v := 4) hx hb d_W_law_394 (by decide) ?_
            refine lv_iadd hx hb d_W_law_395 ?_
            obtain ⟨hin, hP⟩ := hP
            refine va_sld (A := fun q => L0 ≤ q) hx hb hX hbl hbA hok.2.2.2 hin d_W_law_396 ?_
            obtain ⟨hcc, hss, hP⟩ := hP
            obtain ⟨⟨fs9, he9⟩, hP⟩ := hP
            refine mo_calli hok (va_runV (As := [.int ((xs ((x4 + ((1 : Int32)))).toNatClampNeg)), .int ((xs ((x4 + ((2 : Int32)))).toNatClampNeg)), .int ((xs ((x4 + ((3 : Int32)))).toNatClampNeg)), .int ((xs ((x4 + ((4 : Int32)))).toNatClampNeg))]) (rest := []) ⟨hx, hb, hml, hown, hts⟩ (cc_H_exchange l L0 D hP) ⟨(callB_of 4 hts (lw_gi wd_291) rfl rfl rfl (hts _ wd_33) (hts _ wd_288) (by decide +kernel) ⟨Nat.le_of_ble_eq_true rfl, Nat.le_of_ble_eq_true rfl⟩), hts _ wd_289, hts _ wd_290⟩ (mo_preV hok he9 rfl [.int ((xs ((x4 + ((1 : Int32)))).toNatClampNeg)), .int ((xs ((x4 + ((2 : Int32)))).toNatClampNeg)), .int ((xs ((x4 + ((3 : Int32)))).toNatClampNeg)), .int ((xs ((x4 + ((4 : Int32)))).toNatClampNeg))]) rfl rfl hl.1 rfl (lv_room (Nat.le_of_ble_eq_true rfl)) d_W_law_397 ⟨hcc, hss⟩) (fun r29 M28 H locs hP hok => ?_)
            refine lv_aload_n hx hb d_W_law_400 rfl (lv_at hl 2 rfl) ?_
            refine lv_aload_n hx hb d_W_law_401 rfl (lv_at hl 0 rfl) ?_
            refine lv_iload hx hb d_W_law_402 (lv_at hl 4 rfl) ?_
            refine lv_iconst (v := 1) hx hb d_W_law_404 (by decide) ?_
            refine lv_iadd hx hb d_W_law_405 ?_
            obtain ⟨hin, hP⟩ := hP
            refine va_sld (A := fun q => L0 ≤ q) hx hb hX hbl hbA hok.2.2.2 hin d_W_law_406 ?_
            refine lv_aload_n hx hb d_W_law_407 rfl (lv_at hl 0 rfl) ?_
            refine lv_iload hx hb d_W_law_408 (lv_at hl 4 rfl) ?_
            refine lv_iconst (v := 2) hx hb d_W_law_410 (by decide) ?_
            refine lv_iadd hx hb d_W_law_411 ?_
            obtain ⟨hin, hP⟩ := hP
            refine va_sld (A := fun q => L0 ≤ q) hx hb hX hbl hbA hok.2.2.2 hin d_W_law_412 ?_
            refine lv_aload_n hx hb d_W_law_413 rfl (lv_at hl 0 rfl) ?_
            refine lv_iload hx hb d_W_law_414 (lv_at hl 4 rfl) ?_
            refine lv_iconst (v := 3) hx hb d_W_law_416 (by decide) ?_
            refine lv_iadd hx hb d_W_law_417 ?_
            obtain ⟨hin, hP⟩ := hP
            refine va_sld (A := fun q => L0 ≤ q) hx hb hX hbl hbA hok.2.2.2 hin d_W_law_418 ?_
            refine lv_aload_n hx hb d_W_law_419 rfl (lv_at hl 0 rfl) ?_
            refine lv_iload hx hb d_W_law_420 (lv_at hl 4 rfl) ?_
            refine lv_iconst (v := 4) hx hb d_W_law_422 (by decide) ?_
            refine lv_iadd hx hb d_W_law_423 ?_
            obtain ⟨hin, hP⟩ := hP
            refine va_sld (A := fun q => L0 ≤ q) hx hb hX hbl hbA hok.2.2.2 hin d_W_law_424 ?_
            obtain ⟨hcc, hss, hP⟩ := hP
            obtain ⟨⟨fs9, he9⟩, hP⟩ := hP
            refine mo_calli hok (va_runV (As := [.int ((xs ((x4 + ((1 : Int32)))).toNatClampNeg)), .int ((xs ((x4 + ((2 : Int32)))).toNatClampNeg)), .int ((xs ((x4 + ((3 : Int32)))).toNatClampNeg)), .int ((xs ((x4 + ((4 : Int32)))).toNatClampNeg))]) (rest := [.int r29]) ⟨hx, hb, hml, hown, hts⟩ (cc_M_exchange l L0 D hP) ⟨(callB_of 4 hts (lw_gi wd_740) rfl rfl rfl (hts _ wd_39) (hts _ wd_737) (by decide +kernel) ⟨Nat.le_of_ble_eq_true rfl, Nat.le_of_ble_eq_true rfl⟩), hts _ wd_738, hts _ wd_739⟩ (mo_preV hok he9 rfl [.int ((xs ((x4 + ((1 : Int32)))).toNatClampNeg)), .int ((xs ((x4 + ((2 : Int32)))).toNatClampNeg)), .int ((xs ((x4 + ((3 : Int32)))).toNatClampNeg)), .int ((xs ((x4 + ((4 : Int32)))).toNatClampNeg))]) rfl rfl hl.1 rfl (lv_room (Nat.le_of_ble_eq_true rfl)) d_W_law_425 ⟨hcc, hss⟩) (fun r31 M30 H locs hP hok => ?_)
            refine lv_icmp_eq (tgt := 1177) hx hb d_W_law_428 (by decide) (fun hc => ?_) (fun hc => ?_)
            · replace hP := hP.1 hc
              exact w_1177 _ ih _ _ _ _ _ _ _ _ _ _ hP hok (lv_sub hl [0, 1, 2, 3, 4] rfl)
            · replace hP := hP.2 hc
              exact hP.elim
          · have hP := hP.2.2.2.2.2.1 hke
            refine lv_tableIn (tgt := 433) hx hb d_W_law_49 hsw1 hsw2 (by rw [hke]; rfl) (by decide) ?_
            refine lv_aload_n hx hb d_W_law_433 rfl (lv_at hl 1 rfl) ?_
            refine lv_aload_n hx hb d_W_law_434 rfl (lv_at hl 0 rfl) ?_
            refine lv_iload hx hb d_W_law_435 (lv_at hl 4 rfl) ?_
            refine lv_iconst (v := 1) hx hb d_W_law_437 (by decide) ?_
            refine lv_iadd hx hb d_W_law_438 ?_
            obtain ⟨hin, hP⟩ := hP
            refine va_sld (A := fun q => L0 ≤ q) hx hb hX hbl hbA hok.2.2.2 hin d_W_law_439 ?_
            refine lv_aload_n hx hb d_W_law_440 rfl (lv_at hl 0 rfl) ?_
            refine lv_iload hx hb d_W_law_441 (lv_at hl 4 rfl) ?_
            refine lv_iconst (v := 2) hx hb d_W_law_443 (by decide) ?_
            refine lv_iadd hx hb d_W_law_444 ?_
            obtain ⟨hin, hP⟩ := hP
            refine va_sld (A := fun q => L0 ≤ q) hx hb hX hbl hbA hok.2.2.2 hin d_W_law_445 ?_
            refine lv_aload_n hx hb d_W_law_446 rfl (lv_at hl 0 rfl) ?_
            refine lv_iload hx hb d_W_law_447 (lv_at hl 4 rfl) ?_
            refine lv_iconst (v := 3) hx hb d_W_law_449 (by decide) ?_
            refine lv_iadd hx hb d_W_law_450 ?_
            obtain ⟨hin, hP⟩ := hP
            refine va_sld (A := fun q => L0 ≤ q) hx hb hX hbl hbA hok.2.2.2 hin d_W_law_451 ?_
            obtain ⟨c32, t33, hcc, hss, hP⟩ := hP
            obtain ⟨⟨fs9, he9⟩, hP⟩ := hP
            refine mo_calli hok (va_runV (As := [.int ((xs ((x4 + ((1 : Int32)))).toNatClampNeg)), .int ((xs ((x4 + ((2 : Int32)))).toNatClampNeg)), .int ((xs ((x4 + ((3 : Int32)))).toNatClampNeg))]) (rest := []) ⟨hx, hb, hml, hown, hts⟩ (cc_H_bag l L0 D hP) ⟨(callB_of 3 hts (lw_gi wd_305) rfl rfl rfl (hts _ wd_33) (hts _ wd_302) (by decide +kernel) ⟨Nat.le_of_ble_eq_true rfl, Nat.le_of_ble_eq_true rfl⟩), hts _ wd_303, hts _ wd_304⟩ (mo_preV hok he9 rfl [.int ((xs ((x4 + ((1 : Int32)))).toNatClampNeg)), .int ((xs ((x4 + ((2 : Int32)))).toNatClampNeg)), .int ((xs ((x4 + ((3 : Int32)))).toNatClampNeg))]) rfl rfl hl.1 rfl (lv_room (Nat.le_of_ble_eq_true rfl)) d_W_law_452 ⟨hcc, hss⟩) (fun r35 M34 H locs hP hok => ?_)
            refine lv_aload_n hx hb d_W_law_455 rfl (lv_at hl 2 rfl) ?_
            refine lv_aload_n hx hb d_W_law_456 rfl (lv_at hl 0 rfl) ?_
            refine lv_iload hx hb d_W_law_457 (lv_at hl 4 rfl) ?_
            refine lv_iconst (v := 1) hx hb d_W_law_459 (by decide) ?_
            refine lv_iadd hx hb d_W_law_460 ?_
            obtain ⟨hin, hP⟩ := hP
            refine va_sld (A := fun q => L0 ≤ q) hx hb hX hbl hbA hok.2.2.2 hin d_W_law_461 ?_
            refine lv_aload_n hx hb d_W_law_462 rfl (lv_at hl 0 rfl) ?_
            refine lv_iload hx hb d_W_law_463 (lv_at hl 4 rfl) ?_
            refine lv_iconst (v := 2) hx hb d_W_law_465 (by decide) ?_
            refine lv_iadd hx hb d_W_law_466 ?_
            obtain ⟨hin, hP⟩ := hP
            refine va_sld (A := fun q => L0 ≤ q) hx hb hX hbl hbA hok.2.2.2 hin d_W_law_467 ?_
            refine lv_aload_n hx hb d_W_law_468 rfl (lv_at hl 0 rfl) ?_
            refine lv_iload hx hb d_W_law_469 (lv_at hl 4 rfl) ?_
            refine lv_iconst (v := 3) hx hb d_W_law_471 (by decide) ?_
            refine lv_iadd hx hb d_W_law_472 ?_
            obtain ⟨hin, hP⟩ := hP
            refine va_sld (A := fun q => L0 ≤ q) hx hb hX hbl hbA hok.2.2.2 hin d_W_law_473 ?_
            obtain ⟨hcc, hss, hP⟩ := hP
            obtain ⟨⟨fs9, he9⟩, hP⟩ := hP
            refine mo_calli hok (va_runV (As := [.int ((xs ((x4 + ((1 : Int32)))).toNatClampNeg)), .int ((xs ((x4 + ((2 : Int32)))).toNatClampNeg)), .int ((xs ((x4 + ((3 : Int32)))).toNatClampNeg))]) (rest := [.int r35]) ⟨hx, hb, hml, hown, hts⟩ (cc_M_bag l L0 D hP) ⟨(callB_of 3 hts (lw_gi wd_744) rfl rfl rfl (hts _ wd_39) (hts _ wd_741) (by decide +kernel) ⟨Nat.le_of_ble_eq_true rfl, Nat.le_of_ble_eq_true rfl⟩), hts _ wd_742, hts _ wd_743⟩ (mo_preV hok he9 rfl [.int ((xs ((x4 + ((1 : Int32)))).toNatClampNeg)), .int ((xs ((x4 + ((2 : Int32)))).toNatClampNeg)), .int ((xs ((x4 + ((3 : Int32)))).toNatClampNeg))]) rfl rfl hl.1 rfl (lv_room (Nat.le_of_ble_eq_true rfl)) d_W_law_474 ⟨hcc, hss⟩) (fun r37 M36 H locs hP hok => ?_)
            refine lv_icmp_eq (tgt := 1177) hx hb d_W_law_477 (by decide) (fun hc => ?_) (fun hc => ?_)
            · replace hP := hP.1 hc
              exact w_1177 _ ih _ _ _ _ _ _ _ _ _ _ hP hok (lv_sub hl [0, 1, 2, 3, 4] rfl)
            · replace hP := hP.2 hc
              exact hP.elim
          · have hP := hP.2.2.2.2.2.2.1 hke
            refine lv_tableIn (tgt := 482) hx hb d_W_law_49 hsw1 hsw2 (by rw [hke]; rfl) (by decide) ?_
            refine lv_aload_n hx hb d_W_law_482 rfl (lv_at hl 1 rfl) ?_
            refine lv_aload_n hx hb d_W_law_483 rfl (lv_at hl 0 rfl) ?_
            refine lv_iload hx hb d_W_law_484 (lv_at hl 4 rfl) ?_
            refine lv_iconst (v := 1) hx hb d_W_law_486 (by decide) ?_
            refine lv_iadd hx hb d_W_law_487 ?_
            obtain ⟨hin, hP⟩ := hP
            refine va_sld (A := fun q => L0 ≤ q) hx hb hX hbl hbA hok.2.2.2 hin d_W_law_488 ?_
            refine lv_aload_n hx hb d_W_law_489 rfl (lv_at hl 0 rfl) ?_
            refine lv_iload hx hb d_W_law_490 (lv_at hl 4 rfl) ?_
            refine lv_iconst (v := 2) hx hb d_W_law_492 (by decide) ?_
            refine lv_iadd hx hb d_W_law_493 ?_
            obtain ⟨hin, hP⟩ := hP
            refine va_sld (A := fun q => L0 ≤ q) hx hb hX hbl hbA hok.2.2.2 hin d_W_law_494 ?_
            obtain ⟨c38, t39, hcc, hss, hP⟩ := hP
            obtain ⟨⟨fs9, he9⟩, hP⟩ := hP
            refine mo_calli hok (va_runV (As := [.int ((xs ((x4 + ((1 : Int32)))).toNatClampNeg)), .int ((xs ((x4 + ((2 : Int32)))).toNatClampNeg))]) (rest := []) ⟨hx, hb, hml, hown, hts⟩ (cc_H_deliver l L0 D hP) ⟨(callB_of 2 hts (lw_gi wd_369) rfl rfl rfl (hts _ wd_33) (hts _ wd_366) (by decide +kernel) ⟨Nat.le_of_ble_eq_true rfl, Nat.le_of_ble_eq_true rfl⟩), hts _ wd_367, hts _ wd_368⟩ (mo_preV hok he9 rfl [.int ((xs ((x4 + ((1 : Int32)))).toNatClampNeg)), .int ((xs ((x4 + ((2 : Int32)))).toNatClampNeg))]) rfl rfl hl.1 rfl (lv_room (Nat.le_of_ble_eq_true rfl)) d_W_law_495 ⟨hcc, hss⟩) (fun r41 M40 H locs hP hok => ?_)
            refine lv_aload_n hx hb d_W_law_498 rfl (lv_at hl 2 rfl) ?_
            refine lv_aload_n hx hb d_W_law_499 rfl (lv_at hl 0 rfl) ?_
            refine lv_iload hx hb d_W_law_500 (lv_at hl 4 rfl) ?_
            refine lv_iconst (v := 1) hx hb d_W_law_502 (by decide) ?_
            refine lv_iadd hx hb d_W_law_503 ?_
            obtain ⟨hin, hP⟩ := hP
            refine va_sld (A := fun q => L0 ≤ q) hx hb hX hbl hbA hok.2.2.2 hin d_W_law_504 ?_
            refine lv_aload_n hx hb d_W_law_505 rfl (lv_at hl 0 rfl) ?_
            refine lv_iload hx hb d_W_law_506 (lv_at hl 4 rfl) ?_
            refine lv_iconst (v := 2) hx hb d_W_law_508 (by decide) ?_
            refine lv_iadd hx hb d_W_law_509 ?_
            obtain ⟨hin, hP⟩ := hP
            refine va_sld (A := fun q => L0 ≤ q) hx hb hX hbl hbA hok.2.2.2 hin d_W_law_510 ?_
            obtain ⟨hcc, hss, hP⟩ := hP
            obtain ⟨⟨fs9, he9⟩, hP⟩ := hP
            refine mo_calli hok (va_runV (As := [.int ((xs ((x4 + ((1 : Int32)))).toNatClampNeg)), .int ((xs ((x4 + ((2 : Int32)))).toNatClampNeg))]) (rest := [.int r41]) ⟨hx, hb, hml, hown, hts⟩ (cc_M_deliver l L0 D hP) ⟨(callB_of 2 hts (lw_gi wd_760) rfl rfl rfl (hts _ wd_39) (hts _ wd_757) (by decide +kernel) ⟨Nat.le_of_ble_eq_true rfl, Nat.le_of_ble_eq_true rfl⟩), hts _ wd_758, hts _ wd_759⟩ (mo_preV hok he9 rfl [.int ((xs ((x4 + ((1 : Int32)))).toNatClampNeg)), .int ((xs ((x4 + ((2 : Int32)))).toNatClampNeg))]) rfl rfl hl.1 rfl (lv_room (Nat.le_of_ble_eq_true rfl)) d_W_law_511 ⟨hcc, hss⟩) (fun r43 M42 H locs hP hok => ?_)
            refine lv_icmp_eq (tgt := 1177) hx hb d_W_law_514 (by decide) (fun hc => ?_) (fun hc => ?_)
            · replace hP := hP.1 hc
              exact w_1177 _ ih _ _ _ _ _ _ _ _ _ _ hP hok (lv_sub hl [0, 1, 2, 3, 4] rfl)
            · replace hP := hP.2 hc
              exact hP.elim
          · have hP := hP.2.2.2.2.2.2.2.1 hke
            refine lv_tableIn (tgt := 519) hx hb d_W_law_49 hsw1 hsw2 (by rw [hke]; rfl) (by decide) ?_
            refine lv_aload_n hx hb d_W_law_519 rfl (lv_at hl 1 rfl) ?_
            refine lv_aload_n hx hb d_W_law_520 rfl (lv_at hl 0 rfl) ?_
            refine lv_iload hx hb d_W_law_521 (lv_at hl 4 rfl) ?_
            refine lv_iconst (v := 1) hx hb d_W_law_523 (by decide) ?_
            refine lv_iadd hx hb d_W_law_524 ?_
            obtain ⟨hin, hP⟩ := hP
            refine va_sld (A := fun q => L0 ≤ q) hx hb hX hbl hbA hok.2.2.2 hin d_W_law_525 ?_
            obtain ⟨c44, t45, hcc, hss, hP⟩ := hP
            obtain ⟨⟨fs9, he9⟩, hP⟩ := hP
            refine mo_calli hok (va_runV (As := [.int ((xs ((x4 + ((1 : Int32)))).toNatClampNeg))]) (rest := []) ⟨hx, hb, hml, hown, hts⟩ (cc_H_snap l L0 D hP) ⟨(callB_of 1 hts (lw_gi wd_426) rfl rfl rfl (hts _ wd_33) (hts _ wd_423) (by decide +kernel) ⟨Nat.le_of_ble_eq_true rfl, Nat.le_of_ble_eq_true rfl⟩), hts _ wd_424, hts _ wd_425⟩ (mo_preV hok he9 rfl [.int ((xs ((x4 + ((1 : Int32)))).toNatClampNeg))]) rfl rfl hl.1 rfl (lv_room (Nat.le_of_ble_eq_true rfl)) d_W_law_526 ⟨hcc, hss⟩) (fun r47 M46 H locs hP hok => ?_)
            refine lv_aload_n hx hb d_W_law_529 rfl (lv_at hl 2 rfl) ?_
            refine lv_aload_n hx hb d_W_law_530 rfl (lv_at hl 0 rfl) ?_
            refine lv_iload hx hb d_W_law_531 (lv_at hl 4 rfl) ?_
            refine lv_iconst (v := 1) hx hb d_W_law_533 (by decide) ?_
            refine lv_iadd hx hb d_W_law_534 ?_
            obtain ⟨hin, hP⟩ := hP
            refine va_sld (A := fun q => L0 ≤ q) hx hb hX hbl hbA hok.2.2.2 hin d_W_law_535 ?_
            obtain ⟨hcc, hss, hP⟩ := hP
            obtain ⟨⟨fs9, he9⟩, hP⟩ := hP
            refine mo_calli hok (va_runV (As := [.int ((xs ((x4 + ((1 : Int32)))).toNatClampNeg))]) (rest := [.int r47]) ⟨hx, hb, hml, hown, hts⟩ (cc_M_snap l L0 D hP) ⟨(callB_of 1 hts (lw_gi wd_780) rfl rfl rfl (hts _ wd_39) (hts _ wd_777) (by decide +kernel) ⟨Nat.le_of_ble_eq_true rfl, Nat.le_of_ble_eq_true rfl⟩), hts _ wd_778, hts _ wd_779⟩ (mo_preV hok he9 rfl [.int ((xs ((x4 + ((1 : Int32)))).toNatClampNeg))]) rfl rfl hl.1 rfl (lv_room (Nat.le_of_ble_eq_true rfl)) d_W_law_536 ⟨hcc, hss⟩) (fun r49 M48 H locs hP hok => ?_)
            refine lv_icmp_eq (tgt := 1177) hx hb d_W_law_539 (by decide) (fun hc => ?_) (fun hc => ?_)
            · replace hP := hP.1 hc
              exact w_1177 _ ih _ _ _ _ _ _ _ _ _ _ hP hok (lv_sub hl [0, 1, 2, 3, 4] rfl)
            · replace hP := hP.2 hc
              exact hP.elim
          · have hP := hP.2.2.2.2.2.2.2.2.1 hke
            refine lv_tableIn (tgt := 544) hx hb d_W_law_49 hsw1 hsw2 (by rw [hke]; rfl) (by decide) ?_
            refine lv_aload_n hx hb d_W_law_544 rfl (lv_at hl 1 rfl) ?_
            refine lv_aload_n hx hb d_W_law_545 rfl (lv_at hl 0 rfl) ?_
            refine lv_iload hx hb d_W_law_546 (lv_at hl 4 rfl) ?_
            refine lv_iconst (v := 1) hx hb d_W_law_548 (by decide) ?_
            refine lv_iadd hx hb d_W_law_549 ?_
            obtain ⟨hin, hP⟩ := hP
            refine va_sld (A := fun q => L0 ≤ q) hx hb hX hbl hbA hok.2.2.2 hin d_W_law_550 ?_
            refine lv_aload_n hx hb d_W_law_551 rfl (lv_at hl 0 rfl) ?_
            refine lv_iload hx hb d_W_law_552 (lv_at hl 4 rfl) ?_
            refine lv_iconst (v := 2) hx hb d_W_law_554 (by decide) ?_
            refine lv_iadd hx hb d_W_law_555 ?_
            obtain ⟨hin, hP⟩ := hP
            refine va_sld (A := fun q => L0 ≤ q) hx hb hX hbl hbA hok.2.2.2 hin d_W_law_556 ?_
            obtain ⟨hcc, hss, hP⟩ := hP
            obtain ⟨⟨fs9, he9⟩, hP⟩ := hP
            refine mo_calll hok (va_runV (As := [.int ((xs ((x4 + ((1 : Int32)))).toNatClampNeg)), .int ((xs ((x4 + ((2 : Int32)))).toNatClampNeg))]) (rest := []) ⟨hx, hb, hml, hown, hts⟩ (cc_H_stock l L0 D hP) ⟨(callB_of 2 hts (lw_gi wd_430) rfl rfl rfl (hts _ wd_33) (hts _ wd_427) (by decide +kernel) ⟨Nat.le_of_ble_eq_true rfl, Nat.le_of_ble_eq_true rfl⟩), hts _ wd_428, hts _ wd_429⟩ (mo_preV hok he9 rfl [.int ((xs ((x4 + ((1 : Int32)))).toNatClampNeg)), .int ((xs ((x4 + ((2 : Int32)))).toNatClampNeg))]) rfl rfl hl.1 rfl (lv_room (Nat.le_of_ble_eq_true rfl)) d_W_law_557 ⟨hcc, hss⟩) (fun r51 M50 H locs hP hok => ?_)
            refine lv_aload_n hx hb d_W_law_560 rfl (lv_at hl 2 rfl) ?_
            refine lv_aload_n hx hb d_W_law_561 rfl (lv_at hl 0 rfl) ?_
            refine lv_iload hx hb d_W_law_562 (lv_at hl 4 rfl) ?_
            refine lv_iconst (v := 1) hx hb d_W_law_564 (by decide) ?_
            refine lv_iadd hx hb d_W_law_565 ?_
            obtain ⟨hin, hP⟩ := hP
            refine va_sld (A := fun q => L0 ≤ q) hx hb hX hbl hbA hok.2.2.2 hin d_W_law_566 ?_
            refine lv_aload_n hx hb d_W_law_567 rfl (lv_at hl 0 rfl) ?_
            refine lv_iload hx hb d_W_law_568 (lv_at hl 4 rfl) ?_
            refine lv_iconst (v := 2) hx hb d_W_law_570 (by decide) ?_
            refine lv_iadd hx hb d_W_law_571 ?_
            obtain ⟨hin, hP⟩ := hP
            refine va_sld (A := fun q => L0 ≤ q) hx hb hX hbl hbA hok.2.2.2 hin d_W_law_572 ?_
            obtain ⟨hcc, hss, hP⟩ := hP
            obtain ⟨⟨fs9, he9⟩, hP⟩ := hP
            refine mo_calll hok (va_runV (As := [.int ((xs ((x4 + ((1 : Int32)))).toNatClampNeg)), .int ((xs ((x4 + ((2 : Int32)))).toNatClampNeg))]) (rest := [.long r51]) ⟨hx, hb, hml, hown, hts⟩ (cc_M_stock l L0 D hP) ⟨(callB_of 2 hts (lw_gi wd_784) rfl rfl rfl (hts _ wd_39) (hts _ wd_781) (by decide +kernel) ⟨Nat.le_of_ble_eq_true rfl, Nat.le_of_ble_eq_true rfl⟩), hts _ wd_782, hts _ wd_783⟩ (mo_preV hok he9 rfl [.int ((xs ((x4 + ((1 : Int32)))).toNatClampNeg)), .int ((xs ((x4 + ((2 : Int32)))).toNatClampNeg))]) rfl rfl hl.1 rfl (lv_room (Nat.le_of_ble_eq_true rfl)) d_W_law_573 ⟨hcc, hss⟩) (fun r53 M52 H locs hP hok => ?_)
            refine W.lcmp hx hb d_W_law_576 ?_
            refine lv_if_eq (tgt := 1177) hx hb d_W_law_577 (by decide) (fun hc => ?_) (fun hc => ?_)
            · replace hP := hP.1 hc
              exact w_1177 _ ih _ _ _ _ _ _ _ _ _ _ hP hok (lv_sub hl [0, 1, 2, 3, 4] rfl)
            · replace hP := hP.2 hc
              exact hP.elim
          · have hP := hP.2.2.2.2.2.2.2.2.2.1 hke
            refine lv_tableIn (tgt := 582) hx hb d_W_law_49 hsw1 hsw2 (by rw [hke]; rfl) (by decide) ?_
            refine lv_aload_n hx hb d_W_law_582 rfl (lv_at hl 1 rfl) ?_
            refine lv_aload_n hx hb d_W_law_583 rfl (lv_at hl 0 rfl) ?_
            refine lv_iload hx hb d_W_law_584 (lv_at hl 4 rfl) ?_
            refine lv_iconst (v := 1) hx hb d_W_law_586 (by decide) ?_
            refine lv_iadd hx hb d_W_law_587 ?_
            obtain ⟨hin, hP⟩ := hP
            refine va_sld (A := fun q => L0 ≤ q) hx hb hX hbl hbA hok.2.2.2 hin d_W_law_588 ?_
            refine lv_aload_n hx hb d_W_law_589 rfl (lv_at hl 0 rfl) ?_
            refine lv_iload hx hb d_W_law_590 (lv_at hl 4 rfl) ?_
            refine lv_iconst (v := 2) hx hb d_W_law_592 (by decide) ?_
            refine lv_iadd hx hb d_W_law_593 ?_
            obtain ⟨hin, hP⟩ := hP
            refine va_sld (A := fun q => L0 ≤ q) hx hb hX hbl hbA hok.2.2.2 hin d_W_law_594 ?_
            obtain ⟨hcc, hss, hP⟩ := hP
            obtain ⟨⟨fs9, he9⟩, hP⟩ := hP
            refine mo_calll hok (va_runV (As := [.int ((xs ((x4 + ((1 : Int32)))).toNatClampNeg)), .int ((xs ((x4 + ((2 : Int32)))).toNatClampNeg))]) (rest := []) ⟨hx, hb, hml, hown, hts⟩ (cc_H_till l L0 D hP) ⟨(callB_of 2 hts (lw_gi wd_434) rfl rfl rfl (hts _ wd_33) (hts _ wd_431) (by decide +kernel) ⟨Nat.le_of_ble_eq_true rfl, Nat.le_of_ble_eq_true rfl⟩), hts _ wd_432, hts _ wd_433⟩ (mo_preV hok he9 rfl [.int ((xs ((x4 + ((1 : Int32)))).toNatClampNeg)), .int ((xs ((x4 + ((2 : Int32)))).toNatClampNeg))]) rfl rfl hl.1 rfl (lv_room (Nat.le_of_ble_eq_true rfl)) d_W_law_595 ⟨hcc, hss⟩) (fun r55 M54 H locs hP hok => ?_)
            refine lv_aload_n hx hb d_W_law_598 rfl (lv_at hl 2 rfl) ?_
            refine lv_aload_n hx hb d_W_law_599 rfl (lv_at hl 0 rfl) ?_
            refine lv_iload hx hb d_W_law_600 (lv_at hl 4 rfl) ?_
            refine lv_iconst (v := 1) hx hb d_W_law_602 (by decide) ?_
            refine lv_iadd hx hb d_W_law_603 ?_
            obtain ⟨hin, hP⟩ := hP
            refine va_sld (A := fun q => L0 ≤ q) hx hb hX hbl hbA hok.2.2.2 hin d_W_law_604 ?_
            refine lv_aload_n hx hb d_W_law_605 rfl (lv_at hl 0 rfl) ?_
            refine lv_iload hx hb d_W_law_606 (lv_at hl 4 rfl) ?_
            refine lv_iconst (v := 2) hx hb d_W_law_608 (by decide) ?_
            refine lv_iadd hx hb d_W_law_609 ?_
            obtain ⟨hin, hP⟩ := hP
            refine va_sld (A := fun q => L0 ≤ q) hx hb hX hbl hbA hok.2.2.2 hin d_W_law_610 ?_
            obtain ⟨hcc, hss, hP⟩ := hP
            obtain ⟨⟨fs9, he9⟩, hP⟩ := hP
            refine mo_calll hok (va_runV (As := [.int ((xs ((x4 + ((1 : Int32)))).toNatClampNeg)), .int ((xs ((x4 + ((2 : Int32)))).toNatClampNeg))]) (rest := [.long r55]) ⟨hx, hb, hml, hown, hts⟩ (cc_M_till l L0 D hP) ⟨(callB_of 2 hts (lw_gi wd_788) rfl rfl rfl (hts _ wd_39) (hts _ wd_785) (by decide +kernel) ⟨Nat.le_of_ble_eq_true rfl, Nat.le_of_ble_eq_true rfl⟩), hts _ wd_786, hts _ wd_787⟩ (mo_preV hok he9 rfl [.int ((xs ((x4 + ((1 : Int32)))).toNatClampNeg)), .int ((xs ((x4 + ((2 : Int32)))).toNatClampNeg))]) rfl rfl hl.1 rfl (lv_room (Nat.le_of_ble_eq_true rfl)) d_W_law_611 ⟨hcc, hss⟩) (fun r57 M56 H locs hP hok => ?_)
            refine W.lcmp hx hb d_W_law_614 ?_
            refine lv_if_eq (tgt := 1177) hx hb d_W_law_615 (by decide) (fun hc => ?_) (fun hc => ?_)
            · replace hP := hP.1 hc
              exact w_1177 _ ih _ _ _ _ _ _ _ _ _ _ hP hok (lv_sub hl [0, 1, 2, 3, 4] rfl)
            · replace hP := hP.2 hc
              exact hP.elim
          · have hP := hP.2.2.2.2.2.2.2.2.2.2.1 hke
            refine lv_tableIn (tgt := 620) hx hb d_W_law_49 hsw1 hsw2 (by rw [hke]; rfl) (by decide) ?_
            refine lv_aload_n hx hb d_W_law_620 rfl (lv_at hl 1 rfl) ?_
            refine lv_aload_n hx hb d_W_law_621 rfl (lv_at hl 0 rfl) ?_
            refine lv_iload hx hb d_W_law_622 (lv_at hl 4 rfl) ?_
            refine lv_iconst (v := 1) hx hb d_W_law_624 (by decide) ?_
            refine lv_iadd hx hb d_W_law_625 ?_
            obtain ⟨hin, hP⟩ := hP
            refine va_sld (A := fun q => L0 ≤ q) hx hb hX hbl hbA hok.2.2.2 hin d_W_law_626 ?_
            obtain ⟨hcc, hss, hP⟩ := hP
            obtain ⟨⟨fs9, he9⟩, hP⟩ := hP
            refine mo_calli hok (va_runV (As := [.int ((xs ((x4 + ((1 : Int32)))).toNatClampNeg))]) (rest := []) ⟨hx, hb, hml, hown, hts⟩ (cc_H_onLink l L0 D hP) ⟨(callB_of 1 hts (lw_gi wd_438) rfl rfl rfl (hts _ wd_33) (hts _ wd_435) (by decide +kernel) ⟨Nat.le_of_ble_eq_true rfl, Nat.le_of_ble_eq_true rfl⟩), hts _ wd_436, hts _ wd_437⟩ (mo_preV hok he9 rfl [.int ((xs ((x4 + ((1 : Int32)))).toNatClampNeg))]) rfl rfl hl.1 rfl (lv_room (Nat.le_of_ble_eq_true rfl)) d_W_law_627 ⟨hcc, hss⟩) (fun r59 M58 H locs hP hok => ?_)
            refine lv_aload_n hx hb d_W_law_630 rfl (lv_at hl 2 rfl) ?_
            refine lv_aload_n hx hb d_W_law_631 rfl (lv_at hl 0 rfl) ?_
            refine lv_iload hx hb d_W_law_632 (lv_at hl 4 rfl) ?_
            refine lv_iconst (v := 1) hx hb d_W_law_634 (by decide) ?_
            refine lv_iadd hx hb d_W_law_635 ?_
            obtain ⟨hin, hP⟩ := hP
            refine va_sld (A := fun q => L0 ≤ q) hx hb hX hbl hbA hok.2.2.2 hin d_W_law_636 ?_
            obtain ⟨hcc, hss, hP⟩ := hP
            obtain ⟨⟨fs9, he9⟩, hP⟩ := hP
            refine mo_calli hok (va_runV (As := [.int ((xs ((x4 + ((1 : Int32)))).toNatClampNeg))]) (rest := [.int r59]) ⟨hx, hb, hml, hown, hts⟩ (cc_M_onLink l L0 D hP) ⟨(callB_of 1 hts (lw_gi wd_796) rfl rfl rfl (hts _ wd_39) (hts _ wd_793) (by decide +kernel) ⟨Nat.le_of_ble_eq_true rfl, Nat.le_of_ble_eq_true rfl⟩), hts _ wd_794, hts _ wd_795⟩ (mo_preV hok he9 rfl [.int ((xs ((x4 + ((1 : Int32)))).toNatClampNeg))]) rfl rfl hl.1 rfl (lv_room (Nat.le_of_ble_eq_true rfl)) d_W_law_637 ⟨hcc, hss⟩) (fun r61 M60 H locs hP hok => ?_)
            refine lv_icmp_eq (tgt := 1177) hx hb d_W_law_640 (by decide) (fun hc => ?_) (fun hc => ?_)
            · replace hP := hP.1 hc
              exact w_1177 _ ih _ _ _ _ _ _ _ _ _ _ hP hok (lv_sub hl [0, 1, 2, 3, 4] rfl)
            · replace hP := hP.2 hc
              exact hP.elim
          · have hP := hP.2.2.2.2.2.2.2.2.2.2.2.1 hke
            refine lv_tableIn (tgt := 645) hx hb d_W_law_49 hsw1 hsw2 (by rw [hke]; rfl) (by decide) ?_
            refine lv_aload_n hx hb d_W_law_645 rfl (lv_at hl 1 rfl) ?_
            refine lv_aload_n hx hb d_W_law_646 rfl (lv_at hl 0 rfl) ?_
            refine lv_iload hx hb d_W_law_647 (lv_at hl 4 rfl) ?_
            refine lv_iconst (v := 1) hx hb d_W_law_649 (by decide) ?_
            refine lv_iadd hx hb d_W_law_650 ?_
            obtain ⟨hin, hP⟩ := hP
            refine va_sld (A := fun q => L0 ≤ q) hx hb hX hbl hbA hok.2.2.2 hin d_W_law_651 ?_
            refine lv_aload_n hx hb d_W_law_652 rfl (lv_at hl 0 rfl) ?_
            refine lv_iload hx hb d_W_law_653 (lv_at hl 4 rfl) ?_
            refine lv_iconst (v := 2) hx hb d_W_law_655 (by decide) ?_
            refine lv_iadd hx hb d_W_law_656 ?_
            obtain ⟨hin, hP⟩ := hP
            refine va_sld (A := fun q => L0 ≤ q) hx hb hX hbl hbA hok.2.2.2 hin d_W_law_657 ?_
            refine lv_aload_n hx hb d_W_law_658 rfl (lv_at hl 0 rfl) ?_
            refine lv_iload hx hb d_W_law_659 (lv_at hl 4 rfl) ?_
            refine lv_iconst (v := 3) hx hb d_W_law_661 (by decide) ?_
            refine lv_iadd hx hb d_W_law_662 ?_
            obtain ⟨hin, hP⟩ := hP
            refine va_sld (A := fun q => L0 ≤ q) hx hb hX hbl hbA hok.2.2.2 hin d_W_law_663 ?_
            refine lv_aload_n hx hb d_W_law_664 rfl (lv_at hl 3 rfl) ?_
            obtain ⟨hcc, hss, hP⟩ := hP
            refine mo_calli hok (lw_run (As := [.ref x1, .int ((xs ((x4 + ((1 : Int32)))).toNatClampNeg)), .int ((xs ((x4 + ((2 : Int32)))).toNatClampNeg)), .int ((xs ((x4 + ((3 : Int32)))).toNatClampNeg)), .ref x3]) (rest := []) ⟨hx, hb, hml, hown, hts⟩ (cc_W_thing l hfl L0 D hP) (lw_cw 5 hts (lw_gi wd_496) rfl rfl rfl (hts _ wd_32) (hts _ wd_494) (hts _ wd_495) (by decide +kernel) ⟨Nat.le_of_ble_eq_true rfl, Nat.le_of_ble_eq_true rfl⟩) (lw_preS hok hq [.ref x1, .int ((xs ((x4 + ((1 : Int32)))).toNatClampNeg)), .int ((xs ((x4 + ((2 : Int32)))).toNatClampNeg)), .int ((xs ((x4 + ((3 : Int32)))).toNatClampNeg)), .ref x3]) rfl rfl hl.1 rfl (lv_room (Nat.le_of_ble_eq_true rfl)) d_W_law_665 ⟨hcc, hss⟩) (fun r63 M62 H locs hP hok => ?_)
            refine lv_istore (lv' := [(5, .int r63), (0, .ref b), (1, .ref x1), (2, .ref x2), (3, .ref x3), (4, .int x4)]) hx hb d_W_law_668 hl (by decide) rfl (fun ls hl => ?_)
            refine lv_aload_n hx hb d_W_law_670 rfl (lv_at hl 3 rfl) ?_
            refine lv_aload_n hx hb d_W_law_671 rfl (lv_at hl 1 rfl) ?_
            refine lv_iload hx hb d_W_law_672 (lv_at hl 5 rfl) ?_
            refine lv_iconst (v := 1) hx hb d_W_law_674 (by decide) ?_
            refine lv_iadd hx hb d_W_law_675 ?_
            obtain ⟨hin, hP⟩ := hP
            refine va_sld (A := fun q => L0 ≤ q) hx hb hX hbl hbA hok.2.2.2 hin d_W_law_676 ?_
            refine lv_aload_n hx hb d_W_law_677 rfl (lv_at hl 1 rfl) ?_
            refine lv_iload hx hb d_W_law_678 (lv_at hl 5 rfl) ?_
            refine lv_iconst (v := 2) hx hb d_W_law_680 (by decide) ?_
            refine lv_iadd hx hb d_W_law_681 ?_
            obtain ⟨hin, hP⟩ := hP
            refine va_sld (A := fun q => L0 ≤ q) hx hb hX hbl hbA hok.2.2.2 hin d_W_law_682 ?_
            refine lv_aload_n hx hb d_W_law_683 rfl (lv_at hl 1 rfl) ?_
            refine lv_iload hx hb d_W_law_684 (lv_at hl 5 rfl) ?_
            refine lv_iconst (v := 3) hx hb d_W_law_686 (by decide) ?_
            refine lv_iadd hx hb d_W_law_687 ?_
            obtain ⟨hin, hP⟩ := hP
            refine va_sld (A := fun q => L0 ≤ q) hx hb hX hbl hbA hok.2.2.2 hin d_W_law_688 ?_
            obtain ⟨hcc, hss, hP⟩ := hP
            obtain ⟨⟨fs9, he9⟩, hP⟩ := hP
            refine mo_calli hok (va_runV (As := [.int ((xs ((x4 + ((1 : Int32)))).toNatClampNeg)), .int ((xs ((x4 + ((2 : Int32)))).toNatClampNeg)), .int ((xs ((x4 + ((3 : Int32)))).toNatClampNeg))]) (rest := []) ⟨hx, hb, hml, hown, hts⟩ (cc_M_thing l L0 D hP) ⟨(callB_of 3 hts (lw_gi wd_800) rfl rfl rfl (hts _ wd_39) (hts _ wd_797) (by decide +kernel) ⟨Nat.le_of_ble_eq_true rfl, Nat.le_of_ble_eq_true rfl⟩), hts _ wd_798, hts _ wd_799⟩ (mo_preV hok he9 rfl [.int ((xs ((x4 + ((1 : Int32)))).toNatClampNeg)), .int ((xs ((x4 + ((2 : Int32)))).toNatClampNeg)), .int ((xs ((x4 + ((3 : Int32)))).toNatClampNeg))]) rfl rfl hl.1 rfl (lv_room (Nat.le_of_ble_eq_true rfl)) d_W_law_689 ⟨hcc, hss⟩) (fun r65 M64 H locs hP hok => ?_)
            refine lv_istore (lv' := [(6, .int r65), (5, .int r63), (0, .ref b), (1, .ref x1), (2, .ref x2), (3, .ref x3), (4, .int x4)]) hx hb d_W_law_692 hl (by decide) rfl (fun ls hl => ?_)
            refine lv_aload_n hx hb d_W_law_694 rfl (lv_at hl 4 rfl) ?_
            obtain ⟨hcc, hss, hP⟩ := hP
            obtain ⟨⟨fs9, he9⟩, hP⟩ := hP
            refine mo_calli hok (va_runV (As := []) (rest := []) ⟨hx, hb, hml, hown, hts⟩ (cc_M_thrown l L0 D hP) ⟨(callB_of 0 hts (lw_gi wd_696) rfl rfl rfl (hts _ wd_39) (hts _ wd_693) (by decide +kernel) ⟨Nat.le_of_ble_eq_true rfl, Nat.le_of_ble_eq_true rfl⟩), hts _ wd_694, hts _ wd_695⟩ (mo_preV hok he9 rfl []) rfl rfl hl.1 rfl (lv_room (Nat.le_of_ble_eq_true rfl)) d_W_law_695 ⟨hcc, hss⟩) (fun r67 M66 H locs hP hok => ?_)
            refine lv_iload hx hb d_W_law_698 (lv_at hl 1 rfl) ?_
            refine lv_icmp_eq (tgt := 705) hx hb d_W_law_700 (by decide) (fun hc => ?_) (fun hc => ?_)
            · replace hP := hP.1 hc
              refine lv_iload hx hb d_W_law_705 (lv_at hl 1 rfl) ?_
              refine lv_if_ne (tgt := 722) hx hb d_W_law_707 (by decide) (fun hc => ?_) (fun hc => ?_)
              · replace hP := hP.2 hc
                exact w_722 _ ih _ _ _ _ _ _ _ _ _ _ hP hok (lv_sub hl [2, 3, 4, 5, 6] rfl)
              · replace hP := hP.1 hc
                refine lv_aload_n hx hb d_W_law_710 rfl (lv_at hl 5 rfl) ?_
                refine lv_iconst (v := 0) hx hb d_W_law_711 (by decide) ?_
                refine mr_al hx hb hok hP 1 rfl d_W_law_712 (fun v68 hP => ?_)
                refine lv_iload hx hb d_W_law_713 (lv_at hl 0 rfl) ?_
                refine lv_i2l hx hb d_W_law_715 rfl ?_
                refine W.lcmp hx hb d_W_law_716 ?_
                refine lv_if_eq (tgt := 722) hx hb d_W_law_717 (by decide) (fun hc => ?_) (fun hc => ?_)
                · replace hP := hP.1 hc
                  exact w_722 _ ih _ _ _ _ _ _ _ _ _ _ hP hok (lv_sub hl [2, 3, 4, 5, 6] rfl)
                · replace hP := hP.2 hc
                  exact hP.elim
            · replace hP := hP.2 hc
              exact hP.elim
          · have hP := hP.2.2.2.2.2.2.2.2.2.2.2.2.1 hke
            refine lv_tableIn (tgt := 725) hx hb d_W_law_49 hsw1 hsw2 (by rw [hke]; rfl) (by decide) ?_
            refine lv_aload_n hx hb d_W_law_725 rfl (lv_at hl 1 rfl) ?_
            refine lv_aload_n hx hb d_W_law_726 rfl (lv_at hl 0 rfl) ?_
            refine lv_iload hx hb d_W_law_727 (lv_at hl 4 rfl) ?_
            refine lv_iconst (v := 1) hx hb d_W_law_729 (by decide) ?_
            refine lv_iadd hx hb d_W_law_730 ?_
            obtain ⟨hin, hP⟩ := hP
            refine va_sld (A := fun q => L0 ≤ q) hx hb hX hbl hbA hok.2.2.2 hin d_W_law_731 ?_
            refine lv_aload_n hx hb d_W_law_732 rfl (lv_at hl 0 rfl) ?_
            refine lv_iload hx hb d_W_law_733 (lv_at hl 4 rfl) ?_
            refine lv_iconst (v := 2) hx hb d_W_law_735 (by decide) ?_
            refine lv_iadd hx hb d_W_law_736 ?_
            obtain ⟨hin, hP⟩ := hP
            refine va_sld (A := fun q => L0 ≤ q) hx hb hX hbl hbA hok.2.2.2 hin d_W_law_737 ?_
            obtain ⟨hcc, hss, hP⟩ := hP
            obtain ⟨⟨fs9, he9⟩, hP⟩ := hP
            refine mo_calli hok (va_runV (As := [.int ((xs ((x4 + ((1 : Int32)))).toNatClampNeg)), .int ((xs ((x4 + ((2 : Int32)))).toNatClampNeg))]) (rest := []) ⟨hx, hb, hml, hown, hts⟩ (cc_H_recorded l L0 D hP) ⟨(callB_of 2 hts (lw_gi wd_442) rfl rfl rfl (hts _ wd_33) (hts _ wd_439) (by decide +kernel) ⟨Nat.le_of_ble_eq_true rfl, Nat.le_of_ble_eq_true rfl⟩), hts _ wd_440, hts _ wd_441⟩ (mo_preV hok he9 rfl [.int ((xs ((x4 + ((1 : Int32)))).toNatClampNeg)), .int ((xs ((x4 + ((2 : Int32)))).toNatClampNeg))]) rfl rfl hl.1 rfl (lv_room (Nat.le_of_ble_eq_true rfl)) d_W_law_738 ⟨hcc, hss⟩) (fun r70 M69 H locs hP hok => ?_)
            refine lv_aload_n hx hb d_W_law_741 rfl (lv_at hl 2 rfl) ?_
            refine lv_aload_n hx hb d_W_law_742 rfl (lv_at hl 0 rfl) ?_
            refine lv_iload hx hb d_W_law_743 (lv_at hl 4 rfl) ?_
            refine lv_iconst (v := 1) hx hb d_W_law_745 (by decide) ?_
            refine lv_iadd hx hb d_W_law_746 ?_
            obtain ⟨hin, hP⟩ := hP
            refine va_sld (A := fun q => L0 ≤ q) hx hb hX hbl hbA hok.2.2.2 hin d_W_law_747 ?_
            refine lv_aload_n hx hb d_W_law_748 rfl (lv_at hl 0 rfl) ?_
            refine lv_iload hx hb d_W_law_749 (lv_at hl 4 rfl) ?_
            refine lv_iconst (v := 2) hx hb d_W_law_751 (by decide) ?_
            refine lv_iadd hx hb d_W_law_752 ?_
            obtain ⟨hin, hP⟩ := hP
            refine va_sld (A := fun q => L0 ≤ q) hx hb hX hbl hbA hok.2.2.2 hin d_W_law_753 ?_
            obtain ⟨hcc, hss, hP⟩ := hP
            obtain ⟨⟨fs9, he9⟩, hP⟩ := hP
            refine mo_calli hok (va_runV (As := [.int ((xs ((x4 + ((1 : Int32)))).toNatClampNeg)), .int ((xs ((x4 + ((2 : Int32)))).toNatClampNeg))]) (rest := [.int r70]) ⟨hx, hb, hml, hown, hts⟩ (cc_M_recorded l L0 D hP) ⟨(callB_of 2 hts (lw_gi wd_804) rfl rfl rfl (hts _ wd_39) (hts _ wd_801) (by decide +kernel) ⟨Nat.le_of_ble_eq_true rfl, Nat.le_of_ble_eq_true rfl⟩), hts _ wd_802, hts _ wd_803⟩ (mo_preV hok he9 rfl [.int ((xs ((x4 + ((1 : Int32)))).toNatClampNeg)), .int ((xs ((x4 + ((2 : Int32)))).toNatClampNeg))]) rfl rfl hl.1 rfl (lv_room (Nat.le_of_ble_eq_true rfl)) d_W_law_754 ⟨hcc, hss⟩) (fun r72 M71 H locs hP hok => ?_)
            refine lv_icmp_eq (tgt := 1177) hx hb d_W_law_757 (by decide) (fun hc => ?_) (fun hc => ?_)
            · replace hP := hP.1 hc
              exact w_1177 _ ih _ _ _ _ _ _ _ _ _ _ hP hok (lv_sub hl [0, 1, 2, 3, 4] rfl)
            · replace hP := hP.2 hc
              exact hP.elim
          · have hP := hP.2.2.2.2.2.2.2.2.2.2.2.2.2.1 hke
            refine lv_tableIn (tgt := 762) hx hb d_W_law_49 hsw1 hsw2 (by rw [hke]; rfl) (by decide) ?_
            refine lv_aload_n hx hb d_W_law_762 rfl (lv_at hl 1 rfl) ?_
            refine lv_aload_n hx hb d_W_law_763 rfl (lv_at hl 0 rfl) ?_
            refine lv_iload hx hb d_W_law_764 (lv_at hl 4 rfl) ?_
            refine lv_iconst (v := 1) hx hb d_W_law_766 (by decide) ?_
            refine lv_iadd hx hb d_W_law_767 ?_
            obtain ⟨hin, hP⟩ := hP
            refine va_sld (A := fun q => L0 ≤ q) hx hb hX hbl hbA hok.2.2.2 hin d_W_law_768 ?_
            obtain ⟨hcc, hss, hP⟩ := hP
            obtain ⟨⟨fs9, he9⟩, hP⟩ := hP
            refine mo_calli hok (va_runV (As := [.int ((xs ((x4 + ((1 : Int32)))).toNatClampNeg))]) (rest := []) ⟨hx, hb, hml, hown, hts⟩ (cc_H_finished l L0 D hP) ⟨(callB_of 1 hts (lw_gi wd_450) rfl rfl rfl (hts _ wd_33) (hts _ wd_447) (by decide +kernel) ⟨Nat.le_of_ble_eq_true rfl, Nat.le_of_ble_eq_true rfl⟩), hts _ wd_448, hts _ wd_449⟩ (mo_preV hok he9 rfl [.int ((xs ((x4 + ((1 : Int32)))).toNatClampNeg))]) rfl rfl hl.1 rfl (lv_room (Nat.le_of_ble_eq_true rfl)) d_W_law_769 ⟨hcc, hss⟩) (fun r74 M73 H locs hP hok => ?_)
            refine lv_aload_n hx hb d_W_law_772 rfl (lv_at hl 2 rfl) ?_
            refine lv_aload_n hx hb d_W_law_773 rfl (lv_at hl 0 rfl) ?_
            refine lv_iload hx hb d_W_law_774 (lv_at hl 4 rfl) ?_
            refine lv_iconst (v := 1) hx hb d_W_law_776 (by decide) ?_
            refine lv_iadd hx hb d_W_law_777 ?_
            obtain ⟨hin, hP⟩ := hP
            refine va_sld (A := fun q => L0 ≤ q) hx hb hX hbl hbA hok.2.2.2 hin d_W_law_778 ?_
            obtain ⟨hcc, hss, hP⟩ := hP
            obtain ⟨⟨fs9, he9⟩, hP⟩ := hP
            refine mo_calli hok (va_runV (As := [.int ((xs ((x4 + ((1 : Int32)))).toNatClampNeg))]) (rest := [.int r74]) ⟨hx, hb, hml, hown, hts⟩ (cc_M_finished l L0 D hP) ⟨(callB_of 1 hts (lw_gi wd_812) rfl rfl rfl (hts _ wd_39) (hts _ wd_809) (by decide +kernel) ⟨Nat.le_of_ble_eq_true rfl, Nat.le_of_ble_eq_true rfl⟩), hts _ wd_810, hts _ wd_811⟩ (mo_preV hok he9 rfl [.int ((xs ((x4 + ((1 : Int32)))).toNatClampNeg))]) rfl rfl hl.1 rfl (lv_room (Nat.le_of_ble_eq_true rfl)) d_W_law_779 ⟨hcc, hss⟩) (fun r76 M75 H locs hP hok => ?_)
            refine lv_icmp_eq (tgt := 1177) hx hb d_W_law_782 (by decide) (fun hc => ?_) (fun hc => ?_)
            · replace hP := hP.1 hc
              exact w_1177 _ ih _ _ _ _ _ _ _ _ _ _ hP hok (lv_sub hl [0, 1, 2, 3, 4] rfl)
            · replace hP := hP.2 hc
              exact hP.elim
          · have hP := hP.2.2.2.2.2.2.2.2.2.2.2.2.2.2.1 hke
            refine lv_tableIn (tgt := 787) hx hb d_W_law_49 hsw1 hsw2 (by rw [hke]; rfl) (by decide) ?_
            refine lv_aload_n hx hb d_W_law_787 rfl (lv_at hl 1 rfl) ?_
            refine lv_aload_n hx hb d_W_law_788 rfl (lv_at hl 0 rfl) ?_
            refine lv_iload hx hb d_W_law_789 (lv_at hl 4 rfl) ?_
            refine lv_iconst (v := 1) hx hb d_W_law_791 (by decide) ?_
            refine lv_iadd hx hb d_W_law_792 ?_
            obtain ⟨hin, hP⟩ := hP
            refine va_sld (A := fun q => L0 ≤ q) hx hb hX hbl hbA hok.2.2.2 hin d_W_law_793 ?_
            refine lv_aload_n hx hb d_W_law_794 rfl (lv_at hl 0 rfl) ?_
            refine lv_iload hx hb d_W_law_795 (lv_at hl 4 rfl) ?_
            refine lv_iconst (v := 2) hx hb d_W_law_797 (by decide) ?_
            refine lv_iadd hx hb d_W_law_798 ?_
            obtain ⟨hin, hP⟩ := hP
            refine va_sld (A := fun q => L0 ≤ q) hx hb hX hbl hbA hok.2.2.2 hin d_W_law_799 ?_
            refine lv_aload_n hx hb d_W_law_800 rfl (lv_at hl 0 rfl) ?_
            refine lv_iload hx hb d_W_law_801 (lv_at hl 4 rfl) ?_
            refine lv_iconst (v := 3) hx hb d_W_law_803 (by decide) ?_
            refine lv_iadd hx hb d_W_law_804 ?_
            obtain ⟨hin, hP⟩ := hP
            refine va_sld (A := fun q => L0 ≤ q) hx hb hX hbl hbA hok.2.2.2 hin d_W_law_805 ?_
            refine lv_aload_n hx hb d_W_law_806 rfl (lv_at hl 0 rfl) ?_
            refine lv_iload hx hb d_W_law_807 (lv_at hl 4 rfl) ?_
            refine lv_iconst (v := 4) hx hb d_W_law_809 (by decide) ?_
            refine lv_iadd hx hb d_W_law_810 ?_
            obtain ⟨hin, hP⟩ := hP
            refine va_sld (A := fun q => L0 ≤ q) hx hb hX hbl hbA hok.2.2.2 hin d_W_law_811 ?_
            refine lv_aload_n hx hb d_W_law_812 rfl (lv_at hl 3 rfl) ?_
            obtain ⟨hcc, hss, hP⟩ := hP
            refine mo_calli hok (lw_run (As := [.ref x1, .int ((xs ((x4 + ((1 : Int32)))).toNatClampNeg)), .int ((xs ((x4 + ((2 : Int32)))).toNatClampNeg)), .int ((xs ((x4 + ((3 : Int32)))).toNatClampNeg)), .int ((xs ((x4 + ((4 : Int32)))).toNatClampNeg)), .ref x3]) (rest := []) ⟨hx, hb, hml, hown, hts⟩ (cc_W_piece l hfl L0 D hP) (lw_cw 6 hts (lw_gi wd_588) rfl rfl rfl (hts _ wd_32) (hts _ wd_586) (hts _ wd_587) (by decide +kernel) ⟨Nat.le_of_ble_eq_true rfl, Nat.le_of_ble_eq_true rfl⟩) (lw_preS hok hq [.ref x1, .int ((xs ((x4 + ((1 : Int32)))).toNatClampNeg)), .int ((xs ((x4 + ((2 : Int32)))).toNatClampNeg)), .int ((xs ((x4 + ((3 : Int32)))).toNatClampNeg)), .int ((xs ((x4 + ((4 : Int32)))).toNatClampNeg)), .ref x3]) rfl rfl hl.1 rfl (lv_room (Nat.le_of_ble_eq_true rfl)) d_W_law_813 ⟨hcc, hss⟩) (fun r78 M77 H locs hP hok => ?_)
            refine lv_istore (lv' := [(5, .int r78), (0, .ref b), (1, .ref x1), (2, .ref x2), (3, .ref x3), (4, .int x4)]) hx hb d_W_law_816 hl (by decide) rfl (fun ls hl => ?_)
            refine lv_aload_n hx hb d_W_law_818 rfl (lv_at hl 3 rfl) ?_
            refine lv_aload_n hx hb d_W_law_819 rfl (lv_at hl 1 rfl) ?_
            refine lv_iload hx hb d_W_law_820 (lv_at hl 5 rfl) ?_
            refine lv_iconst (v := 1) hx hb d_W_law_822 (by decide) ?_
            refine lv_iadd hx hb d_W_law_823 ?_
            obtain ⟨hin, hP⟩ := hP
            refine va_sld (A := fun q => L0 ≤ q) hx hb hX hbl hbA hok.2.2.2 hin d_W_law_824 ?_
            refine lv_aload_n hx hb d_W_law_825 rfl (lv_at hl 1 rfl) ?_
            refine lv_iload hx hb d_W_law_826 (lv_at hl 5 rfl) ?_
            refine lv_iconst (v := 2) hx hb d_W_law_828 (by decide) ?_
            refine lv_iadd hx hb d_W_law_829 ?_
            obtain ⟨hin, hP⟩ := hP
            refine va_sld (A := fun q => L0 ≤ q) hx hb hX hbl hbA hok.2.2.2 hin d_W_law_830 ?_
            refine lv_aload_n hx hb d_W_law_831 rfl (lv_at hl 1 rfl) ?_
            refine lv_iload hx hb d_W_law_832 (lv_at hl 5 rfl) ?_
            refine lv_iconst (v := 3) hx hb d_W_law_834 (by decide) ?_
            refine lv_iadd hx hb d_W_law_835 ?_
            obtain ⟨hin, hP⟩ := hP
            refine va_sld (A := fun q => L0 ≤ q) hx hb hX hbl hbA hok.2.2.2 hin d_W_law_836 ?_
            refine lv_aload_n hx hb d_W_law_837 rfl (lv_at hl 1 rfl) ?_
            refine lv_iload hx hb d_W_law_838 (lv_at hl 5 rfl) ?_
            refine lv_iconst (v := 4) hx hb d_W_law_840 (by decide) ?_
            refine lv_iadd hx hb d_W_law_841 ?_
            obtain ⟨hin, hP⟩ := hP
            refine va_sld (A := fun q => L0 ≤ q) hx hb hX hbl hbA hok.2.2.2 hin d_W_law_842 ?_
            obtain ⟨hcc, hss, hP⟩ := hP
            obtain ⟨⟨fs9, he9⟩, hP⟩ := hP
            refine mo_calll hok (va_runV (As := [.int ((xs ((x4 + ((1 : Int32)))).toNatClampNeg)), .int ((xs ((x4 + ((2 : Int32)))).toNatClampNeg)), .int ((xs ((x4 + ((3 : Int32)))).toNatClampNeg)), .int ((xs ((x4 + ((4 : Int32)))).toNatClampNeg))]) (rest := []) ⟨hx, hb, hml, hown, hts⟩ (cc_M_piece l L0 D hP) ⟨(callB_of 4 hts (lw_gi wd_824) rfl rfl rfl (hts _ wd_39) (hts _ wd_821) (by decide +kernel) ⟨Nat.le_of_ble_eq_true rfl, Nat.le_of_ble_eq_true rfl⟩), hts _ wd_822, hts _ wd_823⟩ (mo_preV hok he9 rfl [.int ((xs ((x4 + ((1 : Int32)))).toNatClampNeg)), .int ((xs ((x4 + ((2 : Int32)))).toNatClampNeg)), .int ((xs ((x4 + ((3 : Int32)))).toNatClampNeg)), .int ((xs ((x4 + ((4 : Int32)))).toNatClampNeg))]) rfl rfl hl.1 rfl (lv_room (Nat.le_of_ble_eq_true rfl)) d_W_law_843 ⟨hcc, hss⟩) (fun r80 M79 H locs hP hok => ?_)
            refine lv_lstore (lv' := [(6, .long r80), (5, .int r78), (0, .ref b), (1, .ref x1), (2, .ref x2), (3, .ref x3), (4, .int x4)]) hx hb d_W_law_846 hl (by decide) rfl (fun ls hl => ?_)
            refine lv_aload_n hx hb d_W_law_848 rfl (lv_at hl 4 rfl) ?_
            obtain ⟨hcc, hss, hP⟩ := hP
            obtain ⟨⟨fs9, he9⟩, hP⟩ := hP
            refine mo_calli hok (va_runV (As := []) (rest := []) ⟨hx, hb, hml, hown, hts⟩ (cc_M_thrown l L0 D hP) ⟨(callB_of 0 hts (lw_gi wd_696) rfl rfl rfl (hts _ wd_39) (hts _ wd_693) (by decide +kernel) ⟨Nat.le_of_ble_eq_true rfl, Nat.le_of_ble_eq_true rfl⟩), hts _ wd_694, hts _ wd_695⟩ (mo_preV hok he9 rfl []) rfl rfl hl.1 rfl (lv_room (Nat.le_of_ble_eq_true rfl)) d_W_law_849 ⟨hcc, hss⟩) (fun r82 M81 H locs hP hok => ?_)
            refine lv_iload hx hb d_W_law_852 (lv_at hl 1 rfl) ?_
            refine lv_icmp_eq (tgt := 859) hx hb d_W_law_854 (by decide) (fun hc => ?_) (fun hc => ?_)
            · replace hP := hP.1 hc
              refine lv_iload hx hb d_W_law_859 (lv_at hl 1 rfl) ?_
              refine lv_if_ne (tgt := 875) hx hb d_W_law_861 (by decide) (fun hc => ?_) (fun hc => ?_)
              · replace hP := hP.2 hc
                exact w_875 _ ih _ _ _ _ _ _ _ _ _ _ hP hok (lv_sub hl [2, 3, 4, 5, 6] rfl)
              · replace hP := hP.1 hc
                refine lv_aload_n hx hb d_W_law_864 rfl (lv_at hl 5 rfl) ?_
                refine lv_iconst (v := 0) hx hb d_W_law_865 (by decide) ?_
                refine mr_al hx hb hok hP 1 rfl d_W_law_866 (fun v83 hP => ?_)
                refine lv_lload hx hb d_W_law_867 (lv_at hl 0 rfl) ?_
                refine W.lcmp hx hb d_W_law_869 ?_
                refine lv_if_eq (tgt := 875) hx hb d_W_law_870 (by decide) (fun hc => ?_) (fun hc => ?_)
                · replace hP := hP.1 hc
                  exact w_875 _ ih _ _ _ _ _ _ _ _ _ _ hP hok (lv_sub hl [2, 3, 4, 5, 6] rfl)
                · replace hP := hP.2 hc
                  exact hP.elim
            · replace hP := hP.2 hc
              exact hP.elim
          · have hP := hP.2.2.2.2.2.2.2.2.2.2.2.2.2.2.2.1 hke
            refine lv_tableIn (tgt := 878) hx hb d_W_law_49 hsw1 hsw2 (by rw [hke]; rfl) (by decide) ?_
            refine lv_aload_n hx hb d_W_law_878 rfl (lv_at hl 1 rfl) ?_
            refine lv_aload_n hx hb d_W_law_879 rfl (lv_at hl 0 rfl) ?_
            refine lv_iload hx hb d_W_law_880 (lv_at hl 4 rfl) ?_
            refine lv_iconst (v := 1) hx hb d_W_law_882 (by decide) ?_
            refine lv_iadd hx hb d_W_law_883 ?_
            obtain ⟨hin, hP⟩ := hP
            refine va_sld (A := fun q => L0 ≤ q) hx hb hX hbl hbA hok.2.2.2 hin d_W_law_884 ?_
            refine lv_aload_n hx hb d_W_law_885 rfl (lv_at hl 0 rfl) ?_
            refine lv_iload hx hb d_W_law_886 (lv_at hl 4 rfl) ?_
            refine lv_iconst (v := 2) hx hb d_W_law_888 (by decide) ?_
            refine lv_iadd hx hb d_W_law_889 ?_
            obtain ⟨hin, hP⟩ := hP
            refine va_sld (A := fun q => L0 ≤ q) hx hb hX hbl hbA hok.2.2.2 hin d_W_law_890 ?_
            refine lv_aload_n hx hb d_W_law_891 rfl (lv_at hl 0 rfl) ?_
            refine lv_iload hx hb d_W_law_892 (lv_at hl 4 rfl) ?_
            refine lv_iconst (v := 3) hx hb d_W_law_894 (by decide) ?_
            refine lv_iadd hx hb d_W_law_895 ?_
            obtain ⟨hin, hP⟩ := hP
            refine va_sld (A := fun q => L0 ≤ q) hx hb hX hbl hbA hok.2.2.2 hin d_W_law_896 ?_
            obtain ⟨hcc, hss, hP⟩ := hP
            obtain ⟨⟨fs9, he9⟩, hP⟩ := hP
            refine mo_calll hok (va_runV (As := [.int ((xs ((x4 + ((1 : Int32)))).toNatClampNeg)), .int ((xs ((x4 + ((2 : Int32)))).toNatClampNeg)), .int ((xs ((x4 + ((3 : Int32)))).toNatClampNeg))]) (rest := []) ⟨hx, hb, hml, hown, hts⟩ (cc_H_road l L0 D hP) ⟨(callB_of 3 hts (lw_gi wd_470) rfl rfl rfl (hts _ wd_33) (hts _ wd_467) (by decide +kernel) ⟨Nat.le_of_ble_eq_true rfl, Nat.le_of_ble_eq_true rfl⟩), hts _ wd_468, hts _ wd_469⟩ (mo_preV hok he9 rfl [.int ((xs ((x4 + ((1 : Int32)))).toNatClampNeg)), .int ((xs ((x4 + ((2 : Int32)))).toNatClampNeg)), .int ((xs ((x4 + ((3 : Int32)))).toNatClampNeg))]) rfl rfl hl.1 rfl (lv_room (Nat.le_of_ble_eq_true rfl)) d_W_law_897 ⟨hcc, hss⟩) (fun r85 M84 H locs hP hok => ?_)
            refine lv_aload_n hx hb d_W_law_900 rfl (lv_at hl 2 rfl) ?_
            refine lv_aload_n hx hb d_W_law_901 rfl (lv_at hl 0 rfl) ?_
            refine lv_iload hx hb d_W_law_902 (lv_at hl 4 rfl) ?_
            refine lv_iconst (v := 1) hx hb d_W_law_904 (by decide) ?_
            refine lv_iadd hx hb d_W_law_905 ?_
            obtain ⟨hin, hP⟩ := hP
            refine va_sld (A := fun q => L0 ≤ q) hx hb hX hbl hbA hok.2.2.2 hin d_W_law_906 ?_
            refine lv_aload_n hx hb d_W_law_907 rfl (lv_at hl 0 rfl) ?_
            refine lv_iload hx hb d_W_law_908 (lv_at hl 4 rfl) ?_
            refine lv_iconst (v := 2) hx hb d_W_law_910 (by decide) ?_
            refine lv_iadd hx hb d_W_law_911 ?_
            obtain ⟨hin, hP⟩ := hP
            refine va_sld (A := fun q => L0 ≤ q) hx hb hX hbl hbA hok.2.2.2 hin d_W_law_912 ?_
            refine lv_aload_n hx hb d_W_law_913 rfl (lv_at hl 0 rfl) ?_
            refine lv_iload hx hb d_W_law_914 (lv_at hl 4 rfl) ?_
            refine lv_iconst (v := 3) hx hb d_W_law_916 (by decide) ?_
            refine lv_iadd hx hb d_W_law_917 ?_
            obtain ⟨hin, hP⟩ := hP
            refine va_sld (A := fun q => L0 ≤ q) hx hb hX hbl hbA hok.2.2.2 hin d_W_law_918 ?_
            obtain ⟨hcc, hss, hP⟩ := hP
            obtain ⟨⟨fs9, he9⟩, hP⟩ := hP
            refine mo_calll hok (va_runV (As := [.int ((xs ((x4 + ((1 : Int32)))).toNatClampNeg)), .int ((xs ((x4 + ((2 : Int32)))).toNatClampNeg)), .int ((xs ((x4 + ((3 : Int32)))).toNatClampNeg))]) (rest := [.long r85]) ⟨hx, hb, hml, hown, hts⟩ (cc_M_road l L0 D hP) ⟨(callB_of 3 hts (lw_gi wd_828) rfl rfl rfl (hts _ wd_39) (hts _ wd_825) (by decide +kernel) ⟨Nat.le_of_ble_eq_true rfl, Nat.le_of_ble_eq_true rfl⟩), hts _ wd_826, hts _ wd_827⟩ (mo_preV hok he9 rfl [.int ((xs ((x4 + ((1 : Int32)))).toNatClampNeg)), .int ((xs ((x4 + ((2 : Int32)))).toNatClampNeg)), .int ((xs ((x4 + ((3 : Int32)))).toNatClampNeg))]) rfl rfl hl.1 rfl (lv_room (Nat.le_of_ble_eq_true rfl)) d_W_law_919 ⟨hcc, hss⟩) (fun r87 M86 H locs hP hok => ?_)
            refine W.lcmp hx hb d_W_law_922 ?_
            refine lv_if_eq (tgt := 1177) hx hb d_W_law_923 (by decide) (fun hc => ?_) (fun hc => ?_)
            · replace hP := hP.1 hc
              exact w_1177 _ ih _ _ _ _ _ _ _ _ _ _ hP hok (lv_sub hl [0, 1, 2, 3, 4] rfl)
            · replace hP := hP.2 hc
              exact hP.elim
          · have hP := hP.2.2.2.2.2.2.2.2.2.2.2.2.2.2.2.2.1 hke
            refine lv_tableIn (tgt := 928) hx hb d_W_law_49 hsw1 hsw2 (by rw [hke]; rfl) (by decide) ?_
            refine lv_aload_n hx hb d_W_law_928 rfl (lv_at hl 1 rfl) ?_
            refine lv_aload_n hx hb d_W_law_929 rfl (lv_at hl 0 rfl) ?_
            refine lv_iload hx hb d_W_law_930 (lv_at hl 4 rfl) ?_
            refine lv_iconst (v := 1) hx hb d_W_law_932 (by decide) ?_
            refine lv_iadd hx hb d_W_law_933 ?_
            obtain ⟨hin, hP⟩ := hP
            refine va_sld (A := fun q => L0 ≤ q) hx hb hX hbl hbA hok.2.2.2 hin d_W_law_934 ?_
            refine lv_aload_n hx hb d_W_law_935 rfl (lv_at hl 0 rfl) ?_
            refine lv_iload hx hb d_W_law_936 (lv_at hl 4 rfl) ?_
            refine lv_iconst (v := 2) hx hb d_W_law_938 (by decide) ?_
            refine lv_iadd hx hb d_W_law_939 ?_
            obtain ⟨hin, hP⟩ := hP
            refine va_sld (A := fun q => L0 ≤ q) hx hb hX hbl hbA hok.2.2.2 hin d_W_law_940 ?_
            refine lv_aload_n hx hb d_W_law_941 rfl (lv_at hl 3 rfl) ?_
            obtain ⟨hcc, hss, hP⟩ := hP
            refine mo_calli hok (lw_run (As := [.ref x1, .int ((xs ((x4 + ((1 : Int32)))).toNatClampNeg)), .int ((xs ((x4 + ((2 : Int32)))).toNatClampNeg)), .ref x3]) (rest := []) ⟨hx, hb, hml, hown, hts⟩ (cc_W_total l hfl L0 D hP) (lw_cw 4 hts (lw_gi wd_597) rfl rfl rfl (hts _ wd_32) (hts _ wd_595) (hts _ wd_596) (by decide +kernel) ⟨Nat.le_of_ble_eq_true rfl, Nat.le_of_ble_eq_true rfl⟩) (lw_preS hok hq [.ref x1, .int ((xs ((x4 + ((1 : Int32)))).toNatClampNeg)), .int ((xs ((x4 + ((2 : Int32)))).toNatClampNeg)), .ref x3]) rfl rfl hl.1 rfl (lv_room (Nat.le_of_ble_eq_true rfl)) d_W_law_942 ⟨hcc, hss⟩) (fun r89 M88 H locs hP hok => ?_)
            refine lv_istore (lv' := [(5, .int r89), (0, .ref b), (1, .ref x1), (2, .ref x2), (3, .ref x3), (4, .int x4)]) hx hb d_W_law_945 hl (by decide) rfl (fun ls hl => ?_)
            refine lv_aload_n hx hb d_W_law_947 rfl (lv_at hl 3 rfl) ?_
            refine lv_aload_n hx hb d_W_law_948 rfl (lv_at hl 1 rfl) ?_
            refine lv_iload hx hb d_W_law_949 (lv_at hl 5 rfl) ?_
            refine lv_iconst (v := 1) hx hb d_W_law_951 (by decide) ?_
            refine lv_iadd hx hb d_W_law_952 ?_
            obtain ⟨hin, hP⟩ := hP
            refine va_sld (A := fun q => L0 ≤ q) hx hb hX hbl hbA hok.2.2.2 hin d_W_law_953 ?_
            refine lv_aload_n hx hb d_W_law_954 rfl (lv_at hl 1 rfl) ?_
            refine lv_iload hx hb d_W_law_955 (lv_at hl 5 rfl) ?_
            refine lv_iconst (v := 2) hx hb d_W_law_957 (by decide) ?_
            refine lv_iadd hx hb d_W_law_958 ?_
            obtain ⟨hin, hP⟩ := hP
            refine va_sld (A := fun q => L0 ≤ q) hx hb hX hbl hbA hok.2.2.2 hin d_W_law_959 ?_
            obtain ⟨hcc, hss, hP⟩ := hP
            obtain ⟨⟨fs9, he9⟩, hP⟩ := hP
            refine mo_calll hok (va_runV (As := [.int ((xs ((x4 + ((1 : Int32)))).toNatClampNeg)), .int ((xs ((x4 + ((2 : Int32)))).toNatClampNeg))]) (rest := []) ⟨hx, hb, hml, hown, hts⟩ (cc_M_total l L0 D hP) ⟨(callB_of 2 hts (lw_gi wd_836) rfl rfl rfl (hts _ wd_39) (hts _ wd_833) (by decide +kernel) ⟨Nat.le_of_ble_eq_true rfl, Nat.le_of_ble_eq_true rfl⟩), hts _ wd_834, hts _ wd_835⟩ (mo_preV hok he9 rfl [.int ((xs ((x4 + ((1 : Int32)))).toNatClampNeg)), .int ((xs ((x4 + ((2 : Int32)))).toNatClampNeg))]) rfl rfl hl.1 rfl (lv_room (Nat.le_of_ble_eq_true rfl)) d_W_law_960 ⟨hcc, hss⟩) (fun r91 M90 H locs hP hok => ?_)
            refine lv_lstore (lv' := [(6, .long r91), (5, .int r89), (0, .ref b), (1, .ref x1), (2, .ref x2), (3, .ref x3), (4, .int x4)]) hx hb d_W_law_963 hl (by decide) rfl (fun ls hl => ?_)
            refine lv_aload_n hx hb d_W_law_965 rfl (lv_at hl 4 rfl) ?_
            obtain ⟨hcc, hss, hP⟩ := hP
            obtain ⟨⟨fs9, he9⟩, hP⟩ := hP
            refine mo_calli hok (va_runV (As := []) (rest := []) ⟨hx, hb, hml, hown, hts⟩ (cc_M_thrown l L0 D hP) ⟨(callB_of 0 hts (lw_gi wd_696) rfl rfl rfl (hts _ wd_39) (hts _ wd_693) (by decide +kernel) ⟨Nat.le_of_ble_eq_true rfl, Nat.le_of_ble_eq_true rfl⟩), hts _ wd_694, hts _ wd_695⟩ (mo_preV hok he9 rfl []) rfl rfl hl.1 rfl (lv_room (Nat.le_of_ble_eq_true rfl)) d_W_law_966 ⟨hcc, hss⟩) (fun r93 M92 H locs hP hok => ?_)
            refine lv_iload hx hb d_W_law_969 (lv_at hl 1 rfl) ?_
            refine lv_icmp_eq (tgt := 976) hx hb d_W_law_971 (by decide) (fun hc => ?_) (fun hc => ?_)
            · replace hP := hP.1 hc
              refine lv_iload hx hb d_W_law_976 (lv_at hl 1 rfl) ?_
              refine lv_if_ne (tgt := 992) hx hb d_W_law_978 (by decide) (fun hc => ?_) (fun hc => ?_)
              · replace hP := hP.2 hc
                exact w_992 _ ih _ _ _ _ _ _ _ _ _ _ hP hok (lv_sub hl [2, 3, 4, 5, 6] rfl)
              · replace hP := hP.1 hc
                refine lv_aload_n hx hb d_W_law_981 rfl (lv_at hl 5 rfl) ?_
                refine lv_iconst (v := 0) hx hb d_W_law_982 (by decide) ?_
                refine mr_al hx hb hok hP 1 rfl d_W_law_983 (fun v94 hP => ?_)
                refine lv_lload hx hb d_W_law_984 (lv_at hl 0 rfl) ?_
                refine W.lcmp hx hb d_W_law_986 ?_
                refine lv_if_eq (tgt := 992) hx hb d_W_law_987 (by decide) (fun hc => ?_) (fun hc => ?_)
                · replace hP := hP.1 hc
                  exact w_992 _ ih _ _ _ _ _ _ _ _ _ _ hP hok (lv_sub hl [2, 3, 4, 5, 6] rfl)
                · replace hP := hP.2 hc
                  exact hP.elim
            · replace hP := hP.2 hc
              exact hP.elim
          · have hP := hP.2.2.2.2.2.2.2.2.2.2.2.2.2.2.2.2.2.1 hke
            refine lv_tableIn (tgt := 995) hx hb d_W_law_49 hsw1 hsw2 (by rw [hke]; rfl) (by decide) ?_
            refine lv_aload_n hx hb d_W_law_995 rfl (lv_at hl 1 rfl) ?_
            refine lv_aload_n hx hb d_W_law_996 rfl (lv_at hl 0 rfl) ?_
            refine lv_iload hx hb d_W_law_997 (lv_at hl 4 rfl) ?_
            refine lv_iconst (v := 1) hx hb d_W_law_999 (by decide) ?_
            refine lv_iadd hx hb d_W_law_1000 ?_
            obtain ⟨hin, hP⟩ := hP
            refine va_sld (A := fun q => L0 ≤ q) hx hb hX hbl hbA hok.2.2.2 hin d_W_law_1001 ?_
            refine lv_aload_n hx hb d_W_law_1002 rfl (lv_at hl 0 rfl) ?_
            refine lv_iload hx hb d_W_law_1003 (lv_at hl 4 rfl) ?_
            refine lv_iconst (v := 2) hx hb d_W_law_1005 (by decide) ?_
            refine lv_iadd hx hb d_W_law_1006 ?_
            obtain ⟨hin, hP⟩ := hP
            refine va_sld (A := fun q => L0 ≤ q) hx hb hX hbl hbA hok.2.2.2 hin d_W_law_1007 ?_
            obtain ⟨hcc, hss, hP⟩ := hP
            obtain ⟨⟨fs9, he9⟩, hP⟩ := hP
            refine mo_calll hok (va_runV (As := [.int ((xs ((x4 + ((1 : Int32)))).toNatClampNeg)), .int ((xs ((x4 + ((2 : Int32)))).toNatClampNeg))]) (rest := []) ⟨hx, hb, hml, hown, hts⟩ (cc_H_minted l L0 D hP) ⟨(callB_of 2 hts (lw_gi wd_474) rfl rfl rfl (hts _ wd_33) (hts _ wd_471) (by decide +kernel) ⟨Nat.le_of_ble_eq_true rfl, Nat.le_of_ble_eq_true rfl⟩), hts _ wd_472, hts _ wd_473⟩ (mo_preV hok he9 rfl [.int ((xs ((x4 + ((1 : Int32)))).toNatClampNeg)), .int ((xs ((x4 + ((2 : Int32)))).toNatClampNeg))]) rfl rfl hl.1 rfl (lv_room (Nat.le_of_ble_eq_true rfl)) d_W_law_1008 ⟨hcc, hss⟩) (fun r96 M95 H locs hP hok => ?_)
            refine lv_aload_n hx hb d_W_law_1011 rfl (lv_at hl 2 rfl) ?_
            refine lv_aload_n hx hb d_W_law_1012 rfl (lv_at hl 0 rfl) ?_
            refine lv_iload hx hb d_W_law_1013 (lv_at hl 4 rfl) ?_
            refine lv_iconst (v := 1) hx hb d_W_law_1015 (by decide) ?_
            refine lv_iadd hx hb d_W_law_1016 ?_
            obtain ⟨hin, hP⟩ := hP
            refine va_sld (A := fun q => L0 ≤ q) hx hb hX hbl hbA hok.2.2.2 hin d_W_law_1017 ?_
            refine lv_aload_n hx hb d_W_law_1018 rfl (lv_at hl 0 rfl) ?_
            refine lv_iload hx hb d_W_law_1019 (lv_at hl 4 rfl) ?_
            refine lv_iconst (v := 2) hx hb d_W_law_1021 (by decide) ?_
            refine lv_iadd hx hb d_W_law_1022 ?_
            obtain ⟨hin, hP⟩ := hP
            refine va_sld (A := fun q => L0 ≤ q) hx hb hX hbl hbA hok.2.2.2 hin d_W_law_1023 ?_
            obtain ⟨hcc, hss, hP⟩ := hP
            obtain ⟨⟨fs9, he9⟩, hP⟩ := hP
            refine mo_calll hok (va_runV (As := [.int ((xs ((x4 + ((1 : Int32)))).toNatClampNeg)), .int ((xs ((x4 + ((2 : Int32)))).toNatClampNeg))]) (rest := [.long r96]) ⟨hx, hb, hml, hown, hts⟩ (cc_M_minted l L0 D hP) ⟨(callB_of 2 hts (lw_gi wd_841) rfl rfl rfl (hts _ wd_39) (hts _ wd_838) (by decide +kernel) ⟨Nat.le_of_ble_eq_true rfl, Nat.le_of_ble_eq_true rfl⟩), hts _ wd_839, hts _ wd_840⟩ (mo_preV hok he9 rfl [.int ((xs ((x4 + ((1 : Int32)))).toNatClampNeg)), .int ((xs ((x4 + ((2 : Int32)))).toNatClampNeg))]) rfl rfl hl.1 rfl (lv_room (Nat.le_of_ble_eq_true rfl)) d_W_law_1024 ⟨hcc, hss⟩) (fun r98 M97 H locs hP hok => ?_)
            refine W.lcmp hx hb d_W_law_1027 ?_
            refine lv_if_eq (tgt := 1177) hx hb d_W_law_1028 (by decide) (fun hc => ?_) (fun hc => ?_)
            · replace hP := hP.1 hc
              exact w_1177 _ ih _ _ _ _ _ _ _ _ _ _ hP hok (lv_sub hl [0, 1, 2, 3, 4] rfl)
            · replace hP := hP.2 hc
              exact hP.elim
          · have hP := hP.2.2.2.2.2.2.2.2.2.2.2.2.2.2.2.2.2.2.1 hke
            refine lv_tableIn (tgt := 1033) hx hb d_W_law_49 hsw1 hsw2 (by rw [hke]; rfl) (by decide) ?_
            refine lv_aload_n hx hb d_W_law_1033 rfl (lv_at hl 1 rfl) ?_
            refine lv_aload_n hx hb d_W_law_1034 rfl (lv_at hl 0 rfl) ?_
            refine lv_iload hx hb d_W_law_1035 (lv_at hl 4 rfl) ?_
            refine lv_iconst (v := 1) hx hb d_W_law_1037 (by decide) ?_
            refine lv_iadd hx hb d_W_law_1038 ?_
            obtain ⟨hin, hP⟩ := hP
            refine va_sld (A := fun q => L0 ≤ q) hx hb hX hbl hbA hok.2.2.2 hin d_W_law_1039 ?_
            obtain ⟨hcc, hss, hP⟩ := hP
            obtain ⟨⟨fs9, he9⟩, hP⟩ := hP
            refine mo_calll hok (va_runV (As := [.int ((xs ((x4 + ((1 : Int32)))).toNatClampNeg))]) (rest := []) ⟨hx, hb, hml, hown, hts⟩ (cc_H_trueTotal l L0 D hP) ⟨(callB_of 1 hts (lw_gi wd_478) rfl rfl rfl (hts _ wd_33) (hts _ wd_475) (by decide +kernel) ⟨Nat.le_of_ble_eq_true rfl, Nat.le_of_ble_eq_true rfl⟩), hts _ wd_476, hts _ wd_477⟩ (mo_preV hok he9 rfl [.int ((xs ((x4 + ((1 : Int32)))).toNatClampNeg))]) rfl rfl hl.1 rfl (lv_room (Nat.le_of_ble_eq_true rfl)) d_W_law_1040 ⟨hcc, hss⟩) (fun r100 M99 H locs hP hok => ?_)
            refine lv_aload_n hx hb d_W_law_1043 rfl (lv_at hl 2 rfl) ?_
            refine lv_aload_n hx hb d_W_law_1044 rfl (lv_at hl 0 rfl) ?_
            refine lv_iload hx hb d_W_law_1045 (lv_at hl 4 rfl) ?_
            refine lv_iconst (v := 1) hx hb d_W_law_1047 (by decide) ?_
            refine lv_iadd hx hb d_W_law_1048 ?_
            obtain ⟨hin, hP⟩ := hP
            refine va_sld (A := fun q => L0 ≤ q) hx hb hX hbl hbA hok.2.2.2 hin d_W_law_1049 ?_
            obtain ⟨hcc, hss, hP⟩ := hP
            obtain ⟨⟨fs9, he9⟩, hP⟩ := hP
            refine mo_calll hok (va_runV (As := [.int ((xs ((x4 + ((1 : Int32)))).toNatClampNeg))]) (rest := [.long r100]) ⟨hx, hb, hml, hown, hts⟩ (cc_M_trueTotal l L0 D hP) ⟨(callB_of 1 hts (lw_gi wd_849) rfl rfl rfl (hts _ wd_39) (hts _ wd_846) (by decide +kernel) ⟨Nat.le_of_ble_eq_true rfl, Nat.le_of_ble_eq_true rfl⟩), hts _ wd_847, hts _ wd_848⟩ (mo_preV hok he9 rfl [.int ((xs ((x4 + ((1 : Int32)))).toNatClampNeg))]) rfl rfl hl.1 rfl (lv_room (Nat.le_of_ble_eq_true rfl)) d_W_law_1050 ⟨hcc, hss⟩) (fun r102 M101 H locs hP hok => ?_)
            refine W.lcmp hx hb d_W_law_1053 ?_
            refine lv_if_eq (tgt := 1177) hx hb d_W_law_1054 (by decide) (fun hc => ?_) (fun hc => ?_)
            · replace hP := hP.1 hc
              exact w_1177 _ ih _ _ _ _ _ _ _ _ _ _ hP hok (lv_sub hl [0, 1, 2, 3, 4] rfl)
            · replace hP := hP.2 hc
              exact hP.elim
          · have hP := hP.2.2.2.2.2.2.2.2.2.2.2.2.2.2.2.2.2.2.2.1 hke
            refine lv_tableIn (tgt := 1059) hx hb d_W_law_49 hsw1 hsw2 (by rw [hke]; rfl) (by decide) ?_
            refine lv_aload_n hx hb d_W_law_1059 rfl (lv_at hl 1 rfl) ?_
            refine lv_aload_n hx hb d_W_law_1060 rfl (lv_at hl 0 rfl) ?_
            refine lv_iload hx hb d_W_law_1061 (lv_at hl 4 rfl) ?_
            refine lv_iconst (v := 1) hx hb d_W_law_1063 (by decide) ?_
            refine lv_iadd hx hb d_W_law_1064 ?_
            obtain ⟨hin, hP⟩ := hP
            refine va_sld (A := fun q => L0 ≤ q) hx hb hX hbl hbA hok.2.2.2 hin d_W_law_1065 ?_
            refine lv_aload_n hx hb d_W_law_1066 rfl (lv_at hl 0 rfl) ?_
            refine lv_iload hx hb d_W_law_1067 (lv_at hl 4 rfl) ?_
            refine lv_iconst (v := 2) hx hb d_W_law_1069 (by decide) ?_
            refine lv_iadd hx hb d_W_law_1070 ?_
            obtain ⟨hin, hP⟩ := hP
            refine va_sld (A := fun q => L0 ≤ q) hx hb hX hbl hbA hok.2.2.2 hin d_W_law_1071 ?_
            refine lv_aload_n hx hb d_W_law_1072 rfl (lv_at hl 0 rfl) ?_
            refine lv_iload hx hb d_W_law_1073 (lv_at hl 4 rfl) ?_
            refine lv_iconst (v := 3) hx hb d_W_law_1075 (by decide) ?_
            refine lv_iadd hx hb d_W_law_1076 ?_
            obtain ⟨hin, hP⟩ := hP
            refine va_sld (A := fun q => L0 ≤ q) hx hb hX hbl hbA hok.2.2.2 hin d_W_law_1077 ?_
            refine lv_i2l hx hb d_W_law_1078 rfl ?_
            refine lv_bipush (v := 32) hx hb d_W_law_1079 (by decide) ?_
            refine lv_lshl hx hb d_W_law_1081 rfl ?_
            refine lv_aload_n hx hb d_W_law_1082 rfl (lv_at hl 0 rfl) ?_
            refine lv_iload hx hb d_W_law_1083 (lv_at hl 4 rfl) ?_
            refine lv_iconst (v := 4) hx hb d_W_law_1085 (by decide) ?_
            refine lv_iadd hx hb d_W_law_1086 ?_
            obtain ⟨hin, hP⟩ := hP
            refine va_sld (A := fun q => L0 ≤ q) hx hb hX hbl hbA hok.2.2.2 hin d_W_law_1087 ?_
            refine lv_i2l hx hb d_W_law_1088 rfl ?_
            refine lv_ldc2 hx hb hown (hts _ wd_858) d_W_law_1089 ?_
            refine lv_land hx hb d_W_law_1092 ?_
            refine lv_lor hx hb d_W_law_1093 ?_
            obtain ⟨hcc, hss, hP⟩ := hP
            obtain ⟨⟨fs9, he9⟩, hP⟩ := hP
            refine mo_calli hok (va_runV (As := [.int ((xs ((x4 + ((1 : Int32)))).toNatClampNeg)), .int ((xs ((x4 + ((2 : Int32)))).toNatClampNeg)), .long (((((((xs ((x4 + ((3 : Int32)))).toNatClampNeg)).toInt64) <<< (((32 : Int32)).toInt64 &&& 63))) ||| (((((xs ((x4 + ((4 : Int32)))).toNatClampNeg)).toInt64) &&& ((4294967295 : Int64))))))]) (rest := []) ⟨hx, hb, hml, hown, hts⟩ (cc_H_below l L0 D hP) ⟨(callB_of 3 hts (lw_gi wd_486) rfl rfl rfl (hts _ wd_33) (hts _ wd_483) (by decide +kernel) ⟨Nat.le_of_ble_eq_true rfl, Nat.le_of_ble_eq_true rfl⟩), hts _ wd_484, hts _ wd_485⟩ (mo_preV hok he9 rfl [.int ((xs ((x4 + ((1 : Int32)))).toNatClampNeg)), .int ((xs ((x4 + ((2 : Int32)))).toNatClampNeg)), .long (((((((xs ((x4 + ((3 : Int32)))).toNatClampNeg)).toInt64) <<< (((32 : Int32)).toInt64 &&& 63))) ||| (((((xs ((x4 + ((4 : Int32)))).toNatClampNeg)).toInt64) &&& ((4294967295 : Int64))))))]) rfl rfl hl.1 rfl (lv_room (Nat.le_of_ble_eq_true rfl)) d_W_law_1094 ⟨hcc, hss⟩) (fun r104 M103 H locs hP hok => ?_)
            refine lv_aload_n hx hb d_W_law_1097 rfl (lv_at hl 2 rfl) ?_
            refine lv_aload_n hx hb d_W_law_1098 rfl (lv_at hl 0 rfl) ?_
            refine lv_iload hx hb d_W_law_1099 (lv_at hl 4 rfl) ?_
            refine lv_iconst (v := 1) hx hb d_W_law_1101 (by decide) ?_
            refine lv_iadd hx hb d_W_law_1102 ?_
            obtain ⟨hin, hP⟩ := hP
            refine va_sld (A := fun q => L0 ≤ q) hx hb hX hbl hbA hok.2.2.2 hin d_W_law_1103 ?_
            refine lv_aload_n hx hb d_W_law_1104 rfl (lv_at hl 0 rfl) ?_
            refine lv_iload hx hb d_W_law_1105 (lv_at hl 4 rfl) ?_
            refine lv_iconst (v := 2) hx hb d_W_law_1107 (by decide) ?_
            refine lv_iadd hx hb d_W_law_1108 ?_
            obtain ⟨hin, hP⟩ := hP
            refine va_sld (A := fun q => L0 ≤ q) hx hb hX hbl hbA hok.2.2.2 hin d_W_law_1109 ?_
            refine lv_aload_n hx hb d_W_law_1110 rfl (lv_at hl 0 rfl) ?_
            refine lv_iload hx hb d_W_law_1111 (lv_at hl 4 rfl) ?_
            refine lv_iconst (v := 3) hx hb d_W_law_1113 (by decide) ?_
            refine lv_iadd hx hb d_W_law_1114 ?_
            obtain ⟨hin, hP⟩ := hP
            refine va_sld (A := fun q => L0 ≤ q) hx hb hX hbl hbA hok.2.2.2 hin d_W_law_1115 ?_
            refine lv_i2l hx hb d_W_law_1116 rfl ?_
            refine lv_bipush (v := 32) hx hb d_W_law_1117 (by decide) ?_
            refine lv_lshl hx hb d_W_law_1119 rfl ?_
            refine lv_aload_n hx hb d_W_law_1120 rfl (lv_at hl 0 rfl) ?_
            refine lv_iload hx hb d_W_law_1121 (lv_at hl 4 rfl) ?_
            refine lv_iconst (v := 4) hx hb d_W_law_1123 (by decide) ?_
            refine lv_iadd hx hb d_W_law_1124 ?_
            obtain ⟨hin, hP⟩ := hP
            refine va_sld (A := fun q => L0 ≤ q) hx hb hX hbl hbA hok.2.2.2 hin d_W_law_1125 ?_
            refine lv_i2l hx hb d_W_law_1126 rfl ?_
            refine lv_ldc2 hx hb hown (hts _ wd_858) d_W_law_1127 ?_
            refine lv_land hx hb d_W_law_1130 ?_
            refine lv_lor hx hb d_W_law_1131 ?_
            obtain ⟨hcc, hss, hP⟩ := hP
            obtain ⟨⟨fs9, he9⟩, hP⟩ := hP
            refine mo_calli hok (va_runV (As := [.int ((xs ((x4 + ((1 : Int32)))).toNatClampNeg)), .int ((xs ((x4 + ((2 : Int32)))).toNatClampNeg)), .long (((((((xs ((x4 + ((3 : Int32)))).toNatClampNeg)).toInt64) <<< (((32 : Int32)).toInt64 &&& 63))) ||| (((((xs ((x4 + ((4 : Int32)))).toNatClampNeg)).toInt64) &&& ((4294967295 : Int64))))))]) (rest := [.int r104]) ⟨hx, hb, hml, hown, hts⟩ (cc_M_below l L0 D hP) ⟨(callB_of 3 hts (lw_gi wd_853) rfl rfl rfl (hts _ wd_39) (hts _ wd_850) (by decide +kernel) ⟨Nat.le_of_ble_eq_true rfl, Nat.le_of_ble_eq_true rfl⟩), hts _ wd_851, hts _ wd_852⟩ (mo_preV hok he9 rfl [.int ((xs ((x4 + ((1 : Int32)))).toNatClampNeg)), .int ((xs ((x4 + ((2 : Int32)))).toNatClampNeg)), .long (((((((xs ((x4 + ((3 : Int32)))).toNatClampNeg)).toInt64) <<< (((32 : Int32)).toInt64 &&& 63))) ||| (((((xs ((x4 + ((4 : Int32)))).toNatClampNeg)).toInt64) &&& ((4294967295 : Int64))))))]) rfl rfl hl.1 rfl (lv_room (Nat.le_of_ble_eq_true rfl)) d_W_law_1132 ⟨hcc, hss⟩) (fun r106 M105 H locs hP hok => ?_)
            refine lv_icmp_eq (tgt := 1177) hx hb d_W_law_1135 (by decide) (fun hc => ?_) (fun hc => ?_)
            · replace hP := hP.1 hc
              exact w_1177 _ ih _ _ _ _ _ _ _ _ _ _ hP hok (lv_sub hl [0, 1, 2, 3, 4] rfl)
            · replace hP := hP.2 hc
              exact hP.elim
          · have hP := hP.2.2.2.2.2.2.2.2.2.2.2.2.2.2.2.2.2.2.2.2 hke
            refine lv_tableIn (tgt := 1140) hx hb d_W_law_49 hsw1 hsw2 (by rw [hke]; rfl) (by decide) ?_
            refine lv_aload_n hx hb d_W_law_1140 rfl (lv_at hl 1 rfl) ?_
            refine lv_aload_n hx hb d_W_law_1141 rfl (lv_at hl 0 rfl) ?_
            refine lv_iload hx hb d_W_law_1142 (lv_at hl 4 rfl) ?_
            refine lv_iconst (v := 1) hx hb d_W_law_1144 (by decide) ?_
            refine lv_iadd hx hb d_W_law_1145 ?_
            obtain ⟨hin, hP⟩ := hP
            refine va_sld (A := fun q => L0 ≤ q) hx hb hX hbl hbA hok.2.2.2 hin d_W_law_1146 ?_
            refine lv_aload_n hx hb d_W_law_1147 rfl (lv_at hl 0 rfl) ?_
            refine lv_iload hx hb d_W_law_1148 (lv_at hl 4 rfl) ?_
            refine lv_iconst (v := 2) hx hb d_W_law_1150 (by decide) ?_
            refine lv_iadd hx hb d_W_law_1151 ?_
            obtain ⟨hin, hP⟩ := hP
            refine va_sld (A := fun q => L0 ≤ q) hx hb hX hbl hbA hok.2.2.2 hin d_W_law_1152 ?_
            obtain ⟨hcc, hss, hP⟩ := hP
            obtain ⟨⟨fs9, he9⟩, hP⟩ := hP
            refine mo_calli hok (va_runV (As := [.int ((xs ((x4 + ((1 : Int32)))).toNatClampNeg)), .int ((xs ((x4 + ((2 : Int32)))).toNatClampNeg))]) (rest := []) ⟨hx, hb, hml, hown, hts⟩ (cc_H_events l L0 D hP) ⟨(callB_of 2 hts (lw_gi wd_490) rfl rfl rfl (hts _ wd_33) (hts _ wd_487) (by decide +kernel) ⟨Nat.le_of_ble_eq_true rfl, Nat.le_of_ble_eq_true rfl⟩), hts _ wd_488, hts _ wd_489⟩ (mo_preV hok he9 rfl [.int ((xs ((x4 + ((1 : Int32)))).toNatClampNeg)), .int ((xs ((x4 + ((2 : Int32)))).toNatClampNeg))]) rfl rfl hl.1 rfl (lv_room (Nat.le_of_ble_eq_true rfl)) d_W_law_1153 ⟨hcc, hss⟩) (fun r108 M107 H locs hP hok => ?_)
            refine lv_aload_n hx hb d_W_law_1156 rfl (lv_at hl 2 rfl) ?_
            refine lv_aload_n hx hb d_W_law_1157 rfl (lv_at hl 0 rfl) ?_
            refine lv_iload hx hb d_W_law_1158 (lv_at hl 4 rfl) ?_
            refine lv_iconst (v := 1) hx hb d_W_law_1160 (by decide) ?_
            refine lv_iadd hx hb d_W_law_1161 ?_
            obtain ⟨hin, hP⟩ := hP
            refine va_sld (A := fun q => L0 ≤ q) hx hb hX hbl hbA hok.2.2.2 hin d_W_law_1162 ?_
            refine lv_aload_n hx hb d_W_law_1163 rfl (lv_at hl 0 rfl) ?_
            refine lv_iload hx hb d_W_law_1164 (lv_at hl 4 rfl) ?_
            refine lv_iconst (v := 2) hx hb d_W_law_1166 (by decide) ?_
            refine lv_iadd hx hb d_W_law_1167 ?_
            obtain ⟨hin, hP⟩ := hP
            refine va_sld (A := fun q => L0 ≤ q) hx hb hX hbl hbA hok.2.2.2 hin d_W_law_1168 ?_
            obtain ⟨hcc, hss, hP⟩ := hP
            obtain ⟨⟨fs9, he9⟩, hP⟩ := hP
            refine mo_calli hok (va_runV (As := [.int ((xs ((x4 + ((1 : Int32)))).toNatClampNeg)), .int ((xs ((x4 + ((2 : Int32)))).toNatClampNeg))]) (rest := [.int r108]) ⟨hx, hb, hml, hown, hts⟩ (cc_M_events l L0 D hP) ⟨(callB_of 2 hts (lw_gi wd_857) rfl rfl rfl (hts _ wd_39) (hts _ wd_854) (by decide +kernel) ⟨Nat.le_of_ble_eq_true rfl, Nat.le_of_ble_eq_true rfl⟩), hts _ wd_855, hts _ wd_856⟩ (mo_preV hok he9 rfl [.int ((xs ((x4 + ((1 : Int32)))).toNatClampNeg)), .int ((xs ((x4 + ((2 : Int32)))).toNatClampNeg))]) rfl rfl hl.1 rfl (lv_room (Nat.le_of_ble_eq_true rfl)) d_W_law_1169 ⟨hcc, hss⟩) (fun r110 M109 H locs hP hok => ?_)
            refine lv_icmp_eq (tgt := 1177) hx hb d_W_law_1172 (by decide) (fun hc => ?_) (fun hc => ?_)
            · replace hP := hP.1 hc
              exact w_1177 _ ih _ _ _ _ _ _ _ _ _ _ hP hok (lv_sub hl [0, 1, 2, 3, 4] rfl)
            · replace hP := hP.2 hc
              exact hP.elim
  have hl := lv_entry ([.ref b]) (n := 8) (Nat.le_of_ble_eq_true rfl)
  rw [lg_entry_eq]
  generalize (lg_sl [.ref b] ++ List.replicate (8 - (lg_sl [.ref b]).length) Slot.unset).toArray = ls at hl ⊢
  have hl : lv_has ls 8 [(0, .ref b)] := hl
  unfold pp_W_law at hP
  obtain ⟨hcc, hss, hP⟩ := hP
  refine mr_nw (C := "PurseHouse") (T := F_0) (N := 5) hx hb hts hown hok hP ui_0 ty_0 th_0 rfl tf_0 (hts _ wd_52) (hts _ wd_53) (hts _ wd_33) hcc hss d_W_law_0 (fun q1 M2 H hP hok => ?_)
  refine lv_dup hx hb d_W_law_3 rfl ?_
  refine lv_aload_n hx hb d_W_law_4 rfl (lv_at hl 0 rfl) ?_
  refine lv_iconst (v := 0) hx hb d_W_law_5 (by decide) ?_
  obtain ⟨hcc, hss, hP⟩ := hP
  refine mo_calli hok (va_runS (As := [.ref b, .int ((0 : Int32))]) (rest := [.ref q1, .ref q1]) ⟨hx, hb, hml, hown, hts⟩ (cc_W_cell l L0 D (K := fun r M1 => r = (if L = 0 then 0 else xs 0) ∧ M1 = M2) hL ⟨rfl, rfl⟩) ⟨(callB_of 2 hts (lw_gi wd_493) rfl rfl rfl (hts _ wd_32) (hts _ wd_491) (by decide +kernel) ⟨Nat.le_of_ble_eq_true rfl, Nat.le_of_ble_eq_true rfl⟩), hts _ wd_492⟩ (lw_preC hok hXs [.ref b, .int ((0 : Int32))]) rfl rfl hl.1 rfl (lv_room (Nat.le_of_ble_eq_true rfl)) d_W_law_6 ⟨hcc, hss⟩) (fun r9 M9 H locs hP9 hok => ?_)
  obtain ⟨e9, f9⟩ := hP9
  rw [f9] at hok
  rw [e9]
  obtain ⟨c4, t5, hcc, hss, hP⟩ := hP
  refine mo_callv hok (va_runI (As := [.int ((if L = 0 then 0 else xs 0))]) (rest := [.ref q1]) ⟨hx, hb, hml, hown, hts⟩ (cc_H_init l L0 D hP) ⟨(callB_of 1 hts (lw_gi wd_56) rfl rfl rfl (hts _ wd_33) (hts _ wd_54) (by decide +kernel) ⟨Nat.le_of_ble_eq_true rfl, Nat.le_of_ble_eq_true rfl⟩), rfl, hts _ wd_55⟩ (mo_preS hok [.ref q1, .int ((if L = 0 then 0 else xs 0))]) rfl rfl hl.1 rfl (lv_room (Nat.le_of_ble_eq_true rfl)) d_W_law_9 ⟨hcc, hss⟩) (fun M6 H locs hP hok => ?_)
  refine lv_astore_n (lv' := [(1, .ref q1), (0, .ref b)]) hx hb d_W_law_12 rfl hl (by decide) rfl (fun ls hl => ?_)
  obtain ⟨hcc, hss, hP⟩ := hP
  refine mr_nw (C := "PurseHouseModel") (T := F_4) (N := 27) hx hb hts hown hok hP ui_4 ty_4 th_4 rfl tf_4 (hts _ wd_604) (hts _ wd_605) (hts _ wd_39) hcc hss d_W_law_13 (fun q7 M8 H hP hok => ?_)
  refine lv_dup hx hb d_W_law_16 rfl ?_
  refine lv_aload_n hx hb d_W_law_17 rfl (lv_at hl 1 rfl) ?_
  refine lv_iconst (v := 0) hx hb d_W_law_18 (by decide) ?_
  obtain ⟨hcc, hss, hP⟩ := hP
  refine mo_calli hok (va_runS (As := [.ref b, .int ((0 : Int32))]) (rest := [.ref q7, .ref q7]) ⟨hx, hb, hml, hown, hts⟩ (cc_W_cell l L0 D (K := fun r M1 => r = (if L = 0 then 0 else xs 0) ∧ M1 = M8) hL ⟨rfl, rfl⟩) ⟨(callB_of 2 hts (lw_gi wd_493) rfl rfl rfl (hts _ wd_32) (hts _ wd_491) (by decide +kernel) ⟨Nat.le_of_ble_eq_true rfl, Nat.le_of_ble_eq_true rfl⟩), hts _ wd_492⟩ (lw_preC hok hXs [.ref b, .int ((0 : Int32))]) rfl rfl hl.1 rfl (lv_room (Nat.le_of_ble_eq_true rfl)) d_W_law_19 ⟨hcc, hss⟩) (fun r9 M9 H locs hP9 hok => ?_)
  obtain ⟨e9, f9⟩ := hP9
  rw [f9] at hok
  rw [e9]
  obtain ⟨c10, t11, hcc, hss, hP⟩ := hP
  refine mo_callv hok (va_runI (As := [.int ((if L = 0 then 0 else xs 0))]) (rest := [.ref q7]) ⟨hx, hb, hml, hown, hts⟩ (cc_M_init l L0 D hP) ⟨(callB_of 1 hts (lw_gi wd_608) rfl rfl rfl (hts _ wd_39) (hts _ wd_606) (by decide +kernel) ⟨Nat.le_of_ble_eq_true rfl, Nat.le_of_ble_eq_true rfl⟩), rfl, hts _ wd_607⟩ (mo_preS hok [.ref q7, .int ((if L = 0 then 0 else xs 0))]) rfl rfl hl.1 rfl (lv_room (Nat.le_of_ble_eq_true rfl)) d_W_law_22 ⟨hcc, hss⟩) (fun M12 H locs hP hok => ?_)
  refine lv_astore_n (lv' := [(2, .ref q7), (1, .ref q1), (0, .ref b)]) hx hb d_W_law_25 rfl hl (by decide) rfl (fun ls hl => ?_)
  refine lv_iconst (v := 1) hx hb d_W_law_26 (by decide) ?_
  obtain ⟨hcc, hss, hP⟩ := hP
  refine mr_na (atype := .long) (ty := .long) hx hb hok hP (hts _ wd_140) rfl 1 rfl (fun h => h) (fun _ => rfl) (by decide) hcc hss d_W_law_27 (fun q13 M14 H hP hok => ?_)
  refine lv_astore_n (lv' := [(3, .ref q13), (2, .ref q7), (1, .ref q1), (0, .ref b)]) hx hb d_W_law_29 rfl hl (by decide) rfl (fun ls hl => ?_)
  refine lv_iconst (v := 1) hx hb d_W_law_30 (by decide) ?_
  refine lv_istore (lv' := [(4, .int ((1 : Int32))), (3, .ref q13), (2, .ref q7), (1, .ref q1), (0, .ref b)]) hx hb d_W_law_31 hl (by decide) rfl (fun ls hl => ?_)
  obtain ⟨n15, hP⟩ := hP
  exact w_33  n15 _ _ _ _ _ _ _ _ _ _ hP hok (lv_sub hl [4, 3, 2, 1, 0] rfl)
