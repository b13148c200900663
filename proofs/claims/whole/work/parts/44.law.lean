/-! the law -/
theorem op0_18 : rn_op 0 18 = some (.iload_n 3, 1, 0, 0, 0) := by decide +kernel
theorem op0_19 : rn_op 0 19 = some (.aload_n 0, 1, 0, 0, 0) := by decide +kernel
theorem op0_20 : rn_op 0 20 = some (.arraylength, 1, 0, 0, 0) := by decide +kernel
theorem op0_21 : rn_op 0 21 = some (.iconst 5, 1, 0, 0, 0) := by decide +kernel
theorem op0_22 : rn_op 0 22 = some (.isub, 1, 0, 0, 0) := by decide +kernel
theorem op0_23 : rn_op 0 23 = some (.if_icmp .gt 999, 3, 0, 0, 0) := by decide +kernel
theorem op0_26 : rn_op 0 26 = some (.aload_n 0, 1, 0, 0, 0) := by decide +kernel
theorem op0_27 : rn_op 0 27 = some (.iload_n 3, 1, 0, 0, 0) := by decide +kernel
theorem op0_28 : rn_op 0 28 = some (.iaload, 1, 0, 0, 0) := by decide +kernel
theorem op0_29 : rn_op 0 29 = some (.bipush 31, 2, 0, 0, 0) := by decide +kernel
theorem op0_31 : rn_op 0 31 = some (.iand, 1, 0, 0, 0) := by decide +kernel
theorem op0_32 : rn_op 0 32 = some (.tableswitch 984 0 30 #[140, 203, 216, 229, 252, 285, 318, 351, 404, 417, 431, 454, 477, 510, 543, 566, 589, 602, 615, 638, 691, 704, 737, 760, 783, 816, 839, 852, 865, 908, 931], 140, 0, 0, 0) := by decide +kernel
theorem op0_172 : rn_op 0 172 = some (.aload_n 1, 1, 0, 0, 0) := by decide +kernel
theorem op0_173 : rn_op 0 173 = some (.aload_n 0, 1, 0, 0, 0) := by decide +kernel
theorem op0_174 : rn_op 0 174 = some (.iload_n 3, 1, 0, 0, 0) := by decide +kernel
theorem op0_175 : rn_op 0 175 = some (.iconst 1, 1, 0, 0, 0) := by decide +kernel
theorem op0_176 : rn_op 0 176 = some (.iadd, 1, 0, 0, 0) := by decide +kernel
theorem op0_177 : rn_op 0 177 = some (.iaload, 1, 0, 0, 0) := by decide +kernel
theorem op0_178 : rn_op 0 178 = some (.i2l, 1, 0, 0, 0) := by decide +kernel
theorem op0_179 : rn_op 0 179 = some (.bipush 32, 2, 0, 0, 0) := by decide +kernel
theorem op0_181 : rn_op 0 181 = some (.lshl, 1, 0, 0, 0) := by decide +kernel
theorem op0_182 : rn_op 0 182 = some (.aload_n 0, 1, 0, 0, 0) := by decide +kernel
theorem op0_183 : rn_op 0 183 = some (.iload_n 3, 1, 0, 0, 0) := by decide +kernel
theorem op0_184 : rn_op 0 184 = some (.iconst 2, 1, 0, 0, 0) := by decide +kernel
theorem op0_185 : rn_op 0 185 = some (.iadd, 1, 0, 0, 0) := by decide +kernel
theorem op0_186 : rn_op 0 186 = some (.iaload, 1, 0, 0, 0) := by decide +kernel
theorem op0_187 : rn_op 0 187 = some (.i2l, 1, 0, 0, 0) := by decide +kernel
theorem op0_188 : rn_op 0 188 = some (.ldc2_w 13, 3, 4294967295, 0, 0) := by decide +kernel
theorem op0_191 : rn_op 0 191 = some (.land, 1, 0, 0, 0) := by decide +kernel
theorem op0_192 : rn_op 0 192 = some (.lor, 1, 0, 0, 0) := by decide +kernel
theorem op0_193 : rn_op 0 193 = some (.aload_n 0, 1, 0, 0, 0) := by decide +kernel
theorem op0_194 : rn_op 0 194 = some (.iload_n 3, 1, 0, 0, 0) := by decide +kernel
theorem op0_195 : rn_op 0 195 = some (.iconst 3, 1, 0, 0, 0) := by decide +kernel
theorem op0_196 : rn_op 0 196 = some (.iadd, 1, 0, 0, 0) := by decide +kernel
theorem op0_197 : rn_op 0 197 = some (.iaload, 1, 0, 0, 0) := by decide +kernel
theorem op0_198 : rn_op 0 198 = some (.invokevirtual 15, 3, 12, 3, 10) := by decide +kernel
theorem op0_201 : rn_op 0 201 = some (.aload_n 2, 1, 0, 0, 0) := by decide +kernel
theorem op0_202 : rn_op 0 202 = some (.aload_n 0, 1, 0, 0, 0) := by decide +kernel
theorem op0_203 : rn_op 0 203 = some (.iload_n 3, 1, 0, 0, 0) := by decide +kernel
theorem op0_204 : rn_op 0 204 = some (.iconst 1, 1, 0, 0, 0) := by decide +kernel
theorem op0_205 : rn_op 0 205 = some (.iadd, 1, 0, 0, 0) := by decide +kernel
theorem op0_206 : rn_op 0 206 = some (.iaload, 1, 0, 0, 0) := by decide +kernel
theorem op0_207 : rn_op 0 207 = some (.i2l, 1, 0, 0, 0) := by decide +kernel
theorem op0_208 : rn_op 0 208 = some (.bipush 32, 2, 0, 0, 0) := by decide +kernel
theorem op0_210 : rn_op 0 210 = some (.lshl, 1, 0, 0, 0) := by decide +kernel
theorem op0_211 : rn_op 0 211 = some (.aload_n 0, 1, 0, 0, 0) := by decide +kernel
theorem op0_212 : rn_op 0 212 = some (.iload_n 3, 1, 0, 0, 0) := by decide +kernel
theorem op0_213 : rn_op 0 213 = some (.iconst 2, 1, 0, 0, 0) := by decide +kernel
theorem op0_214 : rn_op 0 214 = some (.iadd, 1, 0, 0, 0) := by decide +kernel
theorem op0_215 : rn_op 0 215 = some (.iaload, 1, 0, 0, 0) := by decide +kernel
theorem op0_216 : rn_op 0 216 = some (.i2l, 1, 0, 0, 0) := by decide +kernel
theorem op0_217 : rn_op 0 217 = some (.ldc2_w 13, 3, 4294967295, 0, 0) := by decide +kernel
theorem op0_220 : rn_op 0 220 = some (.land, 1, 0, 0, 0) := by decide +kernel
theorem op0_221 : rn_op 0 221 = some (.lor, 1, 0, 0, 0) := by decide +kernel
theorem op0_222 : rn_op 0 222 = some (.aload_n 0, 1, 0, 0, 0) := by decide +kernel
theorem op0_223 : rn_op 0 223 = some (.iload_n 3, 1, 0, 0, 0) := by decide +kernel
theorem op0_224 : rn_op 0 224 = some (.iconst 3, 1, 0, 0, 0) := by decide +kernel
theorem op0_225 : rn_op 0 225 = some (.iadd, 1, 0, 0, 0) := by decide +kernel
theorem op0_226 : rn_op 0 226 = some (.iaload, 1, 0, 0, 0) := by decide +kernel
theorem op0_227 : rn_op 0 227 = some (.invokevirtual 19, 3, 146, 3, 11) := by decide +kernel
theorem op0_230 : rn_op 0 230 = some (.if_icmp .eq 786, 3, 0, 0, 0) := by decide +kernel
theorem op0_233 : rn_op 0 233 = some (.iconst 0, 1, 0, 0, 0) := by decide +kernel
theorem op0_234 : rn_op 0 234 = some (.ireturn, 1, 0, 0, 0) := by decide +kernel
theorem op0_235 : rn_op 0 235 = some (.aload_n 1, 1, 0, 0, 0) := by decide +kernel
theorem op0_236 : rn_op 0 236 = some (.invokevirtual 20, 3, 15, 1, 10) := by decide +kernel
theorem op0_239 : rn_op 0 239 = some (.aload_n 2, 1, 0, 0, 0) := by decide +kernel
theorem op0_240 : rn_op 0 240 = some (.invokevirtual 24, 3, 148, 1, 11) := by decide +kernel
theorem op0_243 : rn_op 0 243 = some (.if_icmp .eq 773, 3, 0, 0, 0) := by decide +kernel
theorem op0_246 : rn_op 0 246 = some (.iconst 0, 1, 0, 0, 0) := by decide +kernel
theorem op0_247 : rn_op 0 247 = some (.ireturn, 1, 0, 0, 0) := by decide +kernel
theorem op0_248 : rn_op 0 248 = some (.aload_n 1, 1, 0, 0, 0) := by decide +kernel
theorem op0_249 : rn_op 0 249 = some (.invokevirtual 25, 3, 34, 1, 10) := by decide +kernel
theorem op0_252 : rn_op 0 252 = some (.aload_n 2, 1, 0, 0, 0) := by decide +kernel
theorem op0_253 : rn_op 0 253 = some (.invokevirtual 28, 3, 156, 1, 11) := by decide +kernel
theorem op0_256 : rn_op 0 256 = some (.if_icmp .eq 760, 3, 0, 0, 0) := by decide +kernel
theorem op0_259 : rn_op 0 259 = some (.iconst 0, 1, 0, 0, 0) := by decide +kernel
theorem op0_260 : rn_op 0 260 = some (.ireturn, 1, 0, 0, 0) := by decide +kernel
theorem op0_261 : rn_op 0 261 = some (.aload_n 1, 1, 0, 0, 0) := by decide +kernel
theorem op0_262 : rn_op 0 262 = some (.aload_n 0, 1, 0, 0, 0) := by decide +kernel
theorem op0_263 : rn_op 0 263 = some (.iload_n 3, 1, 0, 0, 0) := by decide +kernel
theorem op0_264 : rn_op 0 264 = some (.iconst 1, 1, 0, 0, 0) := by decide +kernel
theorem op0_265 : rn_op 0 265 = some (.iadd, 1, 0, 0, 0) := by decide +kernel
theorem op0_266 : rn_op 0 266 = some (.iaload, 1, 0, 0, 0) := by decide +kernel
theorem op0_267 : rn_op 0 267 = some (.invokevirtual 29, 3, 42, 2, 10) := by decide +kernel
theorem op0_270 : rn_op 0 270 = some (.aload_n 2, 1, 0, 0, 0) := by decide +kernel
theorem op0_271 : rn_op 0 271 = some (.aload_n 0, 1, 0, 0, 0) := by decide +kernel
theorem op0_272 : rn_op 0 272 = some (.iload_n 3, 1, 0, 0, 0) := by decide +kernel
theorem op0_273 : rn_op 0 273 = some (.iconst 1, 1, 0, 0, 0) := by decide +kernel
theorem op0_274 : rn_op 0 274 = some (.iadd, 1, 0, 0, 0) := by decide +kernel
theorem op0_275 : rn_op 0 275 = some (.iaload, 1, 0, 0, 0) := by decide +kernel
theorem op0_276 : rn_op 0 276 = some (.invokevirtual 33, 3, 164, 2, 11) := by decide +kernel
theorem op0_279 : rn_op 0 279 = some (.if_icmp .eq 737, 3, 0, 0, 0) := by decide +kernel
theorem op0_282 : rn_op 0 282 = some (.iconst 0, 1, 0, 0, 0) := by decide +kernel
theorem op0_283 : rn_op 0 283 = some (.ireturn, 1, 0, 0, 0) := by decide +kernel
theorem op0_284 : rn_op 0 284 = some (.aload_n 1, 1, 0, 0, 0) := by decide +kernel
theorem op0_285 : rn_op 0 285 = some (.aload_n 0, 1, 0, 0, 0) := by decide +kernel
theorem op0_286 : rn_op 0 286 = some (.iload_n 3, 1, 0, 0, 0) := by decide +kernel
theorem op0_287 : rn_op 0 287 = some (.iconst 1, 1, 0, 0, 0) := by decide +kernel
theorem op0_288 : rn_op 0 288 = some (.iadd, 1, 0, 0, 0) := by decide +kernel
theorem op0_289 : rn_op 0 289 = some (.iaload, 1, 0, 0, 0) := by decide +kernel
theorem op0_290 : rn_op 0 290 = some (.aload_n 0, 1, 0, 0, 0) := by decide +kernel
theorem op0_291 : rn_op 0 291 = some (.iload_n 3, 1, 0, 0, 0) := by decide +kernel
theorem op0_292 : rn_op 0 292 = some (.iconst 2, 1, 0, 0, 0) := by decide +kernel
theorem op0_293 : rn_op 0 293 = some (.iadd, 1, 0, 0, 0) := by decide +kernel
theorem op0_294 : rn_op 0 294 = some (.iaload, 1, 0, 0, 0) := by decide +kernel
theorem op0_295 : rn_op 0 295 = some (.invokevirtual 34, 3, 44, 3, 10) := by decide +kernel
theorem op0_298 : rn_op 0 298 = some (.aload_n 2, 1, 0, 0, 0) := by decide +kernel
theorem op0_299 : rn_op 0 299 = some (.aload_n 0, 1, 0, 0, 0) := by decide +kernel
theorem op0_300 : rn_op 0 300 = some (.iload_n 3, 1, 0, 0, 0) := by decide +kernel
theorem op0_301 : rn_op 0 301 = some (.iconst 1, 1, 0, 0, 0) := by decide +kernel
theorem op0_302 : rn_op 0 302 = some (.iadd, 1, 0, 0, 0) := by decide +kernel
theorem op0_303 : rn_op 0 303 = some (.iaload, 1, 0, 0, 0) := by decide +kernel
theorem op0_304 : rn_op 0 304 = some (.aload_n 0, 1, 0, 0, 0) := by decide +kernel
theorem op0_305 : rn_op 0 305 = some (.iload_n 3, 1, 0, 0, 0) := by decide +kernel
theorem op0_306 : rn_op 0 306 = some (.iconst 2, 1, 0, 0, 0) := by decide +kernel
theorem op0_307 : rn_op 0 307 = some (.iadd, 1, 0, 0, 0) := by decide +kernel
theorem op0_308 : rn_op 0 308 = some (.iaload, 1, 0, 0, 0) := by decide +kernel
theorem op0_309 : rn_op 0 309 = some (.invokevirtual 38, 3, 165, 3, 11) := by decide +kernel
theorem op0_312 : rn_op 0 312 = some (.if_icmp .eq 704, 3, 0, 0, 0) := by decide +kernel
theorem op0_315 : rn_op 0 315 = some (.iconst 0, 1, 0, 0, 0) := by decide +kernel
theorem op0_316 : rn_op 0 316 = some (.ireturn, 1, 0, 0, 0) := by decide +kernel
theorem op0_317 : rn_op 0 317 = some (.aload_n 1, 1, 0, 0, 0) := by decide +kernel
theorem op0_318 : rn_op 0 318 = some (.aload_n 0, 1, 0, 0, 0) := by decide +kernel
theorem op0_319 : rn_op 0 319 = some (.iload_n 3, 1, 0, 0, 0) := by decide +kernel
theorem op0_320 : rn_op 0 320 = some (.iconst 1, 1, 0, 0, 0) := by decide +kernel
theorem op0_321 : rn_op 0 321 = some (.iadd, 1, 0, 0, 0) := by decide +kernel
theorem op0_322 : rn_op 0 322 = some (.iaload, 1, 0, 0, 0) := by decide +kernel
theorem op0_323 : rn_op 0 323 = some (.aload_n 0, 1, 0, 0, 0) := by decide +kernel
theorem op0_324 : rn_op 0 324 = some (.iload_n 3, 1, 0, 0, 0) := by decide +kernel
theorem op0_325 : rn_op 0 325 = some (.iconst 2, 1, 0, 0, 0) := by decide +kernel
theorem op0_326 : rn_op 0 326 = some (.iadd, 1, 0, 0, 0) := by decide +kernel
theorem op0_327 : rn_op 0 327 = some (.iaload, 1, 0, 0, 0) := by decide +kernel
theorem op0_328 : rn_op 0 328 = some (.invokevirtual 39, 3, 47, 3, 10) := by decide +kernel
theorem op0_331 : rn_op 0 331 = some (.aload_n 2, 1, 0, 0, 0) := by decide +kernel
theorem op0_332 : rn_op 0 332 = some (.aload_n 0, 1, 0, 0, 0) := by decide +kernel
theorem op0_333 : rn_op 0 333 = some (.iload_n 3, 1, 0, 0, 0) := by decide +kernel
theorem op0_334 : rn_op 0 334 = some (.iconst 1, 1, 0, 0, 0) := by decide +kernel
theorem op0_335 : rn_op 0 335 = some (.iadd, 1, 0, 0, 0) := by decide +kernel
theorem op0_336 : rn_op 0 336 = some (.iaload, 1, 0, 0, 0) := by decide +kernel
theorem op0_337 : rn_op 0 337 = some (.aload_n 0, 1, 0, 0, 0) := by decide +kernel
theorem op0_338 : rn_op 0 338 = some (.iload_n 3, 1, 0, 0, 0) := by decide +kernel
theorem op0_339 : rn_op 0 339 = some (.iconst 2, 1, 0, 0, 0) := by decide +kernel
theorem op0_340 : rn_op 0 340 = some (.iadd, 1, 0, 0, 0) := by decide +kernel
theorem op0_341 : rn_op 0 341 = some (.iaload, 1, 0, 0, 0) := by decide +kernel
theorem op0_342 : rn_op 0 342 = some (.invokevirtual 42, 3, 166, 3, 11) := by decide +kernel
theorem op0_345 : rn_op 0 345 = some (.if_icmp .eq 671, 3, 0, 0, 0) := by decide +kernel
theorem op0_348 : rn_op 0 348 = some (.iconst 0, 1, 0, 0, 0) := by decide +kernel
theorem op0_349 : rn_op 0 349 = some (.ireturn, 1, 0, 0, 0) := by decide +kernel
theorem op0_350 : rn_op 0 350 = some (.aload_n 1, 1, 0, 0, 0) := by decide +kernel
theorem op0_351 : rn_op 0 351 = some (.aload_n 0, 1, 0, 0, 0) := by decide +kernel
theorem op0_352 : rn_op 0 352 = some (.iload_n 3, 1, 0, 0, 0) := by decide +kernel
theorem op0_353 : rn_op 0 353 = some (.iconst 1, 1, 0, 0, 0) := by decide +kernel
theorem op0_354 : rn_op 0 354 = some (.iadd, 1, 0, 0, 0) := by decide +kernel
theorem op0_355 : rn_op 0 355 = some (.iaload, 1, 0, 0, 0) := by decide +kernel
theorem op0_356 : rn_op 0 356 = some (.aload_n 0, 1, 0, 0, 0) := by decide +kernel
theorem op0_357 : rn_op 0 357 = some (.iload_n 3, 1, 0, 0, 0) := by decide +kernel
theorem op0_358 : rn_op 0 358 = some (.iconst 2, 1, 0, 0, 0) := by decide +kernel
theorem op0_359 : rn_op 0 359 = some (.iadd, 1, 0, 0, 0) := by decide +kernel
theorem op0_360 : rn_op 0 360 = some (.iaload, 1, 0, 0, 0) := by decide +kernel
theorem op0_361 : rn_op 0 361 = some (.invokevirtual 43, 3, 49, 3, 10) := by decide +kernel
theorem op0_364 : rn_op 0 364 = some (.aload_n 2, 1, 0, 0, 0) := by decide +kernel
theorem op0_365 : rn_op 0 365 = some (.aload_n 0, 1, 0, 0, 0) := by decide +kernel
theorem op0_366 : rn_op 0 366 = some (.iload_n 3, 1, 0, 0, 0) := by decide +kernel
theorem op0_367 : rn_op 0 367 = some (.iconst 1, 1, 0, 0, 0) := by decide +kernel
theorem op0_368 : rn_op 0 368 = some (.iadd, 1, 0, 0, 0) := by decide +kernel
theorem op0_369 : rn_op 0 369 = some (.iaload, 1, 0, 0, 0) := by decide +kernel
theorem op0_370 : rn_op 0 370 = some (.aload_n 0, 1, 0, 0, 0) := by decide +kernel
theorem op0_371 : rn_op 0 371 = some (.iload_n 3, 1, 0, 0, 0) := by decide +kernel
theorem op0_372 : rn_op 0 372 = some (.iconst 2, 1, 0, 0, 0) := by decide +kernel
theorem op0_373 : rn_op 0 373 = some (.iadd, 1, 0, 0, 0) := by decide +kernel
theorem op0_374 : rn_op 0 374 = some (.iaload, 1, 0, 0, 0) := by decide +kernel
theorem op0_375 : rn_op 0 375 = some (.invokevirtual 46, 3, 168, 3, 11) := by decide +kernel
theorem op0_378 : rn_op 0 378 = some (.if_icmp .eq 638, 3, 0, 0, 0) := by decide +kernel
theorem op0_381 : rn_op 0 381 = some (.iconst 0, 1, 0, 0, 0) := by decide +kernel
theorem op0_382 : rn_op 0 382 = some (.ireturn, 1, 0, 0, 0) := by decide +kernel
theorem op0_383 : rn_op 0 383 = some (.aload_n 1, 1, 0, 0, 0) := by decide +kernel
theorem op0_384 : rn_op 0 384 = some (.aload_n 0, 1, 0, 0, 0) := by decide +kernel
theorem op0_385 : rn_op 0 385 = some (.iload_n 3, 1, 0, 0, 0) := by decide +kernel
theorem op0_386 : rn_op 0 386 = some (.iconst 1, 1, 0, 0, 0) := by decide +kernel
theorem op0_387 : rn_op 0 387 = some (.iadd, 1, 0, 0, 0) := by decide +kernel
theorem op0_388 : rn_op 0 388 = some (.iaload, 1, 0, 0, 0) := by decide +kernel
theorem op0_389 : rn_op 0 389 = some (.aload_n 0, 1, 0, 0, 0) := by decide +kernel
theorem op0_390 : rn_op 0 390 = some (.iload_n 3, 1, 0, 0, 0) := by decide +kernel
theorem op0_391 : rn_op 0 391 = some (.iconst 2, 1, 0, 0, 0) := by decide +kernel
theorem op0_392 : rn_op 0 392 = some (.iadd, 1, 0, 0, 0) := by decide +kernel
theorem op0_393 : rn_op 0 393 = some (.iaload, 1, 0, 0, 0) := by decide +kernel
theorem op0_394 : rn_op 0 394 = some (.aload_n 0, 1, 0, 0, 0) := by decide +kernel
theorem op0_395 : rn_op 0 395 = some (.iload_n 3, 1, 0, 0, 0) := by decide +kernel
theorem op0_396 : rn_op 0 396 = some (.iconst 3, 1, 0, 0, 0) := by decide +kernel
theorem op0_397 : rn_op 0 397 = some (.iadd, 1, 0, 0, 0) := by decide +kernel
theorem op0_398 : rn_op 0 398 = some (.iaload, 1, 0, 0, 0) := by decide +kernel
theorem op0_399 : rn_op 0 399 = some (.aload_n 0, 1, 0, 0, 0) := by decide +kernel
theorem op0_400 : rn_op 0 400 = some (.iload_n 3, 1, 0, 0, 0) := by decide +kernel
theorem op0_401 : rn_op 0 401 = some (.iconst 4, 1, 0, 0, 0) := by decide +kernel
theorem op0_402 : rn_op 0 402 = some (.iadd, 1, 0, 0, 0) := by decide +kernel
theorem op0_403 : rn_op 0 403 = some (.iaload, 1, 0, 0, 0) := by decide +kernel
theorem op0_404 : rn_op 0 404 = some (.invokevirtual 47, 3, 54, 5, 10) := by decide +kernel
theorem op0_407 : rn_op 0 407 = some (.aload_n 2, 1, 0, 0, 0) := by decide +kernel
theorem op0_408 : rn_op 0 408 = some (.aload_n 0, 1, 0, 0, 0) := by decide +kernel
theorem op0_409 : rn_op 0 409 = some (.iload_n 3, 1, 0, 0, 0) := by decide +kernel
theorem op0_410 : rn_op 0 410 = some (.iconst 1, 1, 0, 0, 0) := by decide +kernel
theorem op0_411 : rn_op 0 411 = some (.iadd, 1, 0, 0, 0) := by decide +kernel
theorem op0_412 : rn_op 0 412 = some (.iaload, 1, 0, 0, 0) := by decide +kernel
theorem op0_413 : rn_op 0 413 = some (.aload_n 0, 1, 0, 0, 0) := by decide +kernel
theorem op0_414 : rn_op 0 414 = some (.iload_n 3, 1, 0, 0, 0) := by decide +kernel
theorem op0_415 : rn_op 0 415 = some (.iconst 2, 1, 0, 0, 0) := by decide +kernel
theorem op0_416 : rn_op 0 416 = some (.iadd, 1, 0, 0, 0) := by decide +kernel
theorem op0_417 : rn_op 0 417 = some (.iaload, 1, 0, 0, 0) := by decide +kernel
theorem op0_418 : rn_op 0 418 = some (.aload_n 0, 1, 0, 0, 0) := by decide +kernel
theorem op0_419 : rn_op 0 419 = some (.iload_n 3, 1, 0, 0, 0) := by decide +kernel
theorem op0_420 : rn_op 0 420 = some (.iconst 3, 1, 0, 0, 0) := by decide +kernel
theorem op0_421 : rn_op 0 421 = some (.iadd, 1, 0, 0, 0) := by decide +kernel
theorem op0_422 : rn_op 0 422 = some (.iaload, 1, 0, 0, 0) := by decide +kernel
theorem op0_423 : rn_op 0 423 = some (.aload_n 0, 1, 0, 0, 0) := by decide +kernel
theorem op0_424 : rn_op 0 424 = some (.iload_n 3, 1, 0, 0, 0) := by decide +kernel
theorem op0_425 : rn_op 0 425 = some (.iconst 4, 1, 0, 0, 0) := by decide +kernel
theorem op0_426 : rn_op 0 426 = some (.iadd, 1, 0, 0, 0) := by decide +kernel
theorem op0_427 : rn_op 0 427 = some (.iaload, 1, 0, 0, 0) := by decide +kernel
theorem op0_428 : rn_op 0 428 = some (.invokevirtual 51, 3, 170, 5, 11) := by decide +kernel
theorem op0_431 : rn_op 0 431 = some (.if_icmp .eq 585, 3, 0, 0, 0) := by decide +kernel
theorem op0_434 : rn_op 0 434 = some (.iconst 0, 1, 0, 0, 0) := by decide +kernel
theorem op0_435 : rn_op 0 435 = some (.ireturn, 1, 0, 0, 0) := by decide +kernel
theorem op0_436 : rn_op 0 436 = some (.aload_n 1, 1, 0, 0, 0) := by decide +kernel
theorem op0_437 : rn_op 0 437 = some (.invokevirtual 52, 3, 58, 1, 10) := by decide +kernel
theorem op0_440 : rn_op 0 440 = some (.aload_n 2, 1, 0, 0, 0) := by decide +kernel
theorem op0_441 : rn_op 0 441 = some (.invokevirtual 55, 3, 171, 1, 11) := by decide +kernel
theorem op0_444 : rn_op 0 444 = some (.if_icmp .eq 572, 3, 0, 0, 0) := by decide +kernel
theorem op0_447 : rn_op 0 447 = some (.iconst 0, 1, 0, 0, 0) := by decide +kernel
theorem op0_448 : rn_op 0 448 = some (.ireturn, 1, 0, 0, 0) := by decide +kernel
theorem op0_449 : rn_op 0 449 = some (.aload_n 1, 1, 0, 0, 0) := by decide +kernel
theorem op0_450 : rn_op 0 450 = some (.invokevirtual 56, 3, 59, 1, 10) := by decide +kernel
theorem op0_453 : rn_op 0 453 = some (.aload_n 2, 1, 0, 0, 0) := by decide +kernel
theorem op0_454 : rn_op 0 454 = some (.invokevirtual 60, 3, 172, 1, 11) := by decide +kernel
theorem op0_457 : rn_op 0 457 = some (.lcmp, 1, 0, 0, 0) := by decide +kernel
theorem op0_458 : rn_op 0 458 = some (.ifCond .eq 558, 3, 0, 0, 0) := by decide +kernel
theorem op0_461 : rn_op 0 461 = some (.iconst 0, 1, 0, 0, 0) := by decide +kernel
theorem op0_462 : rn_op 0 462 = some (.ireturn, 1, 0, 0, 0) := by decide +kernel
theorem op0_463 : rn_op 0 463 = some (.aload_n 1, 1, 0, 0, 0) := by decide +kernel
theorem op0_464 : rn_op 0 464 = some (.aload_n 0, 1, 0, 0, 0) := by decide +kernel
theorem op0_465 : rn_op 0 465 = some (.iload_n 3, 1, 0, 0, 0) := by decide +kernel
theorem op0_466 : rn_op 0 466 = some (.iconst 1, 1, 0, 0, 0) := by decide +kernel
theorem op0_467 : rn_op 0 467 = some (.iadd, 1, 0, 0, 0) := by decide +kernel
theorem op0_468 : rn_op 0 468 = some (.iaload, 1, 0, 0, 0) := by decide +kernel
theorem op0_469 : rn_op 0 469 = some (.invokevirtual 61, 3, 89, 2, 10) := by decide +kernel
theorem op0_472 : rn_op 0 472 = some (.aload_n 2, 1, 0, 0, 0) := by decide +kernel
theorem op0_473 : rn_op 0 473 = some (.aload_n 0, 1, 0, 0, 0) := by decide +kernel
theorem op0_474 : rn_op 0 474 = some (.iload_n 3, 1, 0, 0, 0) := by decide +kernel
theorem op0_475 : rn_op 0 475 = some (.iconst 1, 1, 0, 0, 0) := by decide +kernel
theorem op0_476 : rn_op 0 476 = some (.iadd, 1, 0, 0, 0) := by decide +kernel
theorem op0_477 : rn_op 0 477 = some (.iaload, 1, 0, 0, 0) := by decide +kernel
theorem op0_478 : rn_op 0 478 = some (.invokevirtual 64, 3, 186, 2, 11) := by decide +kernel
theorem op0_481 : rn_op 0 481 = some (.if_icmp .eq 535, 3, 0, 0, 0) := by decide +kernel
theorem op0_484 : rn_op 0 484 = some (.iconst 0, 1, 0, 0, 0) := by decide +kernel
theorem op0_485 : rn_op 0 485 = some (.ireturn, 1, 0, 0, 0) := by decide +kernel
theorem op0_486 : rn_op 0 486 = some (.aload_n 1, 1, 0, 0, 0) := by decide +kernel
theorem op0_487 : rn_op 0 487 = some (.aload_n 0, 1, 0, 0, 0) := by decide +kernel
theorem op0_488 : rn_op 0 488 = some (.iload_n 3, 1, 0, 0, 0) := by decide +kernel
theorem op0_489 : rn_op 0 489 = some (.iconst 1, 1, 0, 0, 0) := by decide +kernel
theorem op0_490 : rn_op 0 490 = some (.iadd, 1, 0, 0, 0) := by decide +kernel
theorem op0_491 : rn_op 0 491 = some (.iaload, 1, 0, 0, 0) := by decide +kernel
theorem op0_492 : rn_op 0 492 = some (.invokevirtual 65, 3, 92, 2, 10) := by decide +kernel
theorem op0_495 : rn_op 0 495 = some (.aload_n 2, 1, 0, 0, 0) := by decide +kernel
theorem op0_496 : rn_op 0 496 = some (.aload_n 0, 1, 0, 0, 0) := by decide +kernel
theorem op0_497 : rn_op 0 497 = some (.iload_n 3, 1, 0, 0, 0) := by decide +kernel
theorem op0_498 : rn_op 0 498 = some (.iconst 1, 1, 0, 0, 0) := by decide +kernel
theorem op0_499 : rn_op 0 499 = some (.iadd, 1, 0, 0, 0) := by decide +kernel
theorem op0_500 : rn_op 0 500 = some (.iaload, 1, 0, 0, 0) := by decide +kernel
theorem op0_501 : rn_op 0 501 = some (.invokevirtual 68, 3, 187, 2, 11) := by decide +kernel
theorem op0_504 : rn_op 0 504 = some (.if_icmp .eq 512, 3, 0, 0, 0) := by decide +kernel
theorem op0_507 : rn_op 0 507 = some (.iconst 0, 1, 0, 0, 0) := by decide +kernel
theorem op0_508 : rn_op 0 508 = some (.ireturn, 1, 0, 0, 0) := by decide +kernel
theorem op0_509 : rn_op 0 509 = some (.aload_n 1, 1, 0, 0, 0) := by decide +kernel
theorem op0_510 : rn_op 0 510 = some (.aload_n 0, 1, 0, 0, 0) := by decide +kernel
theorem op0_511 : rn_op 0 511 = some (.iload_n 3, 1, 0, 0, 0) := by decide +kernel
theorem op0_512 : rn_op 0 512 = some (.iconst 1, 1, 0, 0, 0) := by decide +kernel
theorem op0_513 : rn_op 0 513 = some (.iadd, 1, 0, 0, 0) := by decide +kernel
theorem op0_514 : rn_op 0 514 = some (.iaload, 1, 0, 0, 0) := by decide +kernel
theorem op0_515 : rn_op 0 515 = some (.aload_n 0, 1, 0, 0, 0) := by decide +kernel
theorem op0_516 : rn_op 0 516 = some (.iload_n 3, 1, 0, 0, 0) := by decide +kernel
theorem op0_517 : rn_op 0 517 = some (.iconst 2, 1, 0, 0, 0) := by decide +kernel
theorem op0_518 : rn_op 0 518 = some (.iadd, 1, 0, 0, 0) := by decide +kernel
theorem op0_519 : rn_op 0 519 = some (.iaload, 1, 0, 0, 0) := by decide +kernel
theorem op0_520 : rn_op 0 520 = some (.invokevirtual 69, 3, 93, 3, 10) := by decide +kernel
theorem op0_523 : rn_op 0 523 = some (.aload_n 2, 1, 0, 0, 0) := by decide +kernel
theorem op0_524 : rn_op 0 524 = some (.aload_n 0, 1, 0, 0, 0) := by decide +kernel
theorem op0_525 : rn_op 0 525 = some (.iload_n 3, 1, 0, 0, 0) := by decide +kernel
theorem op0_526 : rn_op 0 526 = some (.iconst 1, 1, 0, 0, 0) := by decide +kernel
theorem op0_527 : rn_op 0 527 = some (.iadd, 1, 0, 0, 0) := by decide +kernel
theorem op0_528 : rn_op 0 528 = some (.iaload, 1, 0, 0, 0) := by decide +kernel
theorem op0_529 : rn_op 0 529 = some (.aload_n 0, 1, 0, 0, 0) := by decide +kernel
theorem op0_530 : rn_op 0 530 = some (.iload_n 3, 1, 0, 0, 0) := by decide +kernel
theorem op0_531 : rn_op 0 531 = some (.iconst 2, 1, 0, 0, 0) := by decide +kernel
theorem op0_532 : rn_op 0 532 = some (.iadd, 1, 0, 0, 0) := by decide +kernel
theorem op0_533 : rn_op 0 533 = some (.iaload, 1, 0, 0, 0) := by decide +kernel
theorem op0_534 : rn_op 0 534 = some (.invokevirtual 72, 3, 188, 3, 11) := by decide +kernel
theorem op0_537 : rn_op 0 537 = some (.if_icmp .eq 479, 3, 0, 0, 0) := by decide +kernel
theorem op0_540 : rn_op 0 540 = some (.iconst 0, 1, 0, 0, 0) := by decide +kernel
theorem op0_541 : rn_op 0 541 = some (.ireturn, 1, 0, 0, 0) := by decide +kernel
theorem op0_542 : rn_op 0 542 = some (.aload_n 1, 1, 0, 0, 0) := by decide +kernel
theorem op0_543 : rn_op 0 543 = some (.aload_n 0, 1, 0, 0, 0) := by decide +kernel
theorem op0_544 : rn_op 0 544 = some (.iload_n 3, 1, 0, 0, 0) := by decide +kernel
theorem op0_545 : rn_op 0 545 = some (.iconst 1, 1, 0, 0, 0) := by decide +kernel
theorem op0_546 : rn_op 0 546 = some (.iadd, 1, 0, 0, 0) := by decide +kernel
theorem op0_547 : rn_op 0 547 = some (.iaload, 1, 0, 0, 0) := by decide +kernel
theorem op0_548 : rn_op 0 548 = some (.aload_n 0, 1, 0, 0, 0) := by decide +kernel
theorem op0_549 : rn_op 0 549 = some (.iload_n 3, 1, 0, 0, 0) := by decide +kernel
theorem op0_550 : rn_op 0 550 = some (.iconst 2, 1, 0, 0, 0) := by decide +kernel
theorem op0_551 : rn_op 0 551 = some (.iadd, 1, 0, 0, 0) := by decide +kernel
theorem op0_552 : rn_op 0 552 = some (.iaload, 1, 0, 0, 0) := by decide +kernel
theorem op0_553 : rn_op 0 553 = some (.invokevirtual 73, 3, 95, 3, 10) := by decide +kernel
theorem op0_556 : rn_op 0 556 = some (.aload_n 2, 1, 0, 0, 0) := by decide +kernel
theorem op0_557 : rn_op 0 557 = some (.aload_n 0, 1, 0, 0, 0) := by decide +kernel
theorem op0_558 : rn_op 0 558 = some (.iload_n 3, 1, 0, 0, 0) := by decide +kernel
theorem op0_559 : rn_op 0 559 = some (.iconst 1, 1, 0, 0, 0) := by decide +kernel
theorem op0_560 : rn_op 0 560 = some (.iadd, 1, 0, 0, 0) := by decide +kernel
theorem op0_561 : rn_op 0 561 = some (.iaload, 1, 0, 0, 0) := by decide +kernel
theorem op0_562 : rn_op 0 562 = some (.aload_n 0, 1, 0, 0, 0) := by decide +kernel
theorem op0_563 : rn_op 0 563 = some (.iload_n 3, 1, 0, 0, 0) := by decide +kernel
theorem op0_564 : rn_op 0 564 = some (.iconst 2, 1, 0, 0, 0) := by decide +kernel
theorem op0_565 : rn_op 0 565 = some (.iadd, 1, 0, 0, 0) := by decide +kernel
theorem op0_566 : rn_op 0 566 = some (.iaload, 1, 0, 0, 0) := by decide +kernel
theorem op0_567 : rn_op 0 567 = some (.invokevirtual 76, 3, 189, 3, 11) := by decide +kernel
theorem op0_570 : rn_op 0 570 = some (.if_icmp .eq 446, 3, 0, 0, 0) := by decide +kernel
theorem op0_573 : rn_op 0 573 = some (.iconst 0, 1, 0, 0, 0) := by decide +kernel
theorem op0_574 : rn_op 0 574 = some (.ireturn, 1, 0, 0, 0) := by decide +kernel
theorem op0_575 : rn_op 0 575 = some (.aload_n 1, 1, 0, 0, 0) := by decide +kernel
theorem op0_576 : rn_op 0 576 = some (.aload_n 0, 1, 0, 0, 0) := by decide +kernel
theorem op0_577 : rn_op 0 577 = some (.iload_n 3, 1, 0, 0, 0) := by decide +kernel
theorem op0_578 : rn_op 0 578 = some (.iconst 1, 1, 0, 0, 0) := by decide +kernel
theorem op0_579 : rn_op 0 579 = some (.iadd, 1, 0, 0, 0) := by decide +kernel
theorem op0_580 : rn_op 0 580 = some (.iaload, 1, 0, 0, 0) := by decide +kernel
theorem op0_581 : rn_op 0 581 = some (.invokevirtual 77, 3, 97, 2, 10) := by decide +kernel
theorem op0_584 : rn_op 0 584 = some (.aload_n 2, 1, 0, 0, 0) := by decide +kernel
theorem op0_585 : rn_op 0 585 = some (.aload_n 0, 1, 0, 0, 0) := by decide +kernel
theorem op0_586 : rn_op 0 586 = some (.iload_n 3, 1, 0, 0, 0) := by decide +kernel
theorem op0_587 : rn_op 0 587 = some (.iconst 1, 1, 0, 0, 0) := by decide +kernel
theorem op0_588 : rn_op 0 588 = some (.iadd, 1, 0, 0, 0) := by decide +kernel
theorem op0_589 : rn_op 0 589 = some (.iaload, 1, 0, 0, 0) := by decide +kernel
theorem op0_590 : rn_op 0 590 = some (.invokevirtual 80, 3, 190, 2, 11) := by decide +kernel
theorem op0_593 : rn_op 0 593 = some (.if_icmp .eq 423, 3, 0, 0, 0) := by decide +kernel
theorem op0_596 : rn_op 0 596 = some (.iconst 0, 1, 0, 0, 0) := by decide +kernel
theorem op0_597 : rn_op 0 597 = some (.ireturn, 1, 0, 0, 0) := by decide +kernel
theorem op0_598 : rn_op 0 598 = some (.aload_n 1, 1, 0, 0, 0) := by decide +kernel
theorem op0_599 : rn_op 0 599 = some (.aload_n 0, 1, 0, 0, 0) := by decide +kernel
theorem op0_600 : rn_op 0 600 = some (.iload_n 3, 1, 0, 0, 0) := by decide +kernel
theorem op0_601 : rn_op 0 601 = some (.iconst 1, 1, 0, 0, 0) := by decide +kernel
theorem op0_602 : rn_op 0 602 = some (.iadd, 1, 0, 0, 0) := by decide +kernel
theorem op0_603 : rn_op 0 603 = some (.iaload, 1, 0, 0, 0) := by decide +kernel
theorem op0_604 : rn_op 0 604 = some (.invokevirtual 81, 3, 98, 2, 10) := by decide +kernel
theorem op0_607 : rn_op 0 607 = some (.aload_n 2, 1, 0, 0, 0) := by decide +kernel
theorem op0_608 : rn_op 0 608 = some (.aload_n 0, 1, 0, 0, 0) := by decide +kernel
theorem op0_609 : rn_op 0 609 = some (.iload_n 3, 1, 0, 0, 0) := by decide +kernel
theorem op0_610 : rn_op 0 610 = some (.iconst 1, 1, 0, 0, 0) := by decide +kernel
theorem op0_611 : rn_op 0 611 = some (.iadd, 1, 0, 0, 0) := by decide +kernel
theorem op0_612 : rn_op 0 612 = some (.iaload, 1, 0, 0, 0) := by decide +kernel
theorem op0_613 : rn_op 0 613 = some (.invokevirtual 84, 3, 191, 2, 11) := by decide +kernel
theorem op0_616 : rn_op 0 616 = some (.if_icmp .eq 400, 3, 0, 0, 0) := by decide +kernel
theorem op0_619 : rn_op 0 619 = some (.iconst 0, 1, 0, 0, 0) := by decide +kernel
theorem op0_620 : rn_op 0 620 = some (.ireturn, 1, 0, 0, 0) := by decide +kernel
theorem op0_621 : rn_op 0 621 = some (.aload_n 1, 1, 0, 0, 0) := by decide +kernel
theorem op0_622 : rn_op 0 622 = some (.invokevirtual 85, 3, 100, 1, 10) := by decide +kernel
theorem op0_625 : rn_op 0 625 = some (.aload_n 2, 1, 0, 0, 0) := by decide +kernel
theorem op0_626 : rn_op 0 626 = some (.invokevirtual 88, 3, 192, 1, 11) := by decide +kernel
theorem op0_629 : rn_op 0 629 = some (.if_icmp .eq 387, 3, 0, 0, 0) := by decide +kernel
theorem op0_632 : rn_op 0 632 = some (.iconst 0, 1, 0, 0, 0) := by decide +kernel
theorem op0_633 : rn_op 0 633 = some (.ireturn, 1, 0, 0, 0) := by decide +kernel
theorem op0_634 : rn_op 0 634 = some (.aload_n 1, 1, 0, 0, 0) := by decide +kernel
theorem op0_635 : rn_op 0 635 = some (.invokevirtual 89, 3, 102, 1, 10) := by decide +kernel
theorem op0_638 : rn_op 0 638 = some (.aload_n 2, 1, 0, 0, 0) := by decide +kernel
theorem op0_639 : rn_op 0 639 = some (.invokevirtual 92, 3, 195, 1, 11) := by decide +kernel
theorem op0_642 : rn_op 0 642 = some (.if_icmp .eq 374, 3, 0, 0, 0) := by decide +kernel
theorem op0_645 : rn_op 0 645 = some (.iconst 0, 1, 0, 0, 0) := by decide +kernel
theorem op0_646 : rn_op 0 646 = some (.ireturn, 1, 0, 0, 0) := by decide +kernel
theorem op0_647 : rn_op 0 647 = some (.aload_n 1, 1, 0, 0, 0) := by decide +kernel
theorem op0_648 : rn_op 0 648 = some (.aload_n 0, 1, 0, 0, 0) := by decide +kernel
theorem op0_649 : rn_op 0 649 = some (.iload_n 3, 1, 0, 0, 0) := by decide +kernel
theorem op0_650 : rn_op 0 650 = some (.iconst 1, 1, 0, 0, 0) := by decide +kernel
theorem op0_651 : rn_op 0 651 = some (.iadd, 1, 0, 0, 0) := by decide +kernel
theorem op0_652 : rn_op 0 652 = some (.iaload, 1, 0, 0, 0) := by decide +kernel
theorem op0_653 : rn_op 0 653 = some (.invokevirtual 93, 3, 106, 2, 10) := by decide +kernel
theorem op0_656 : rn_op 0 656 = some (.aload_n 2, 1, 0, 0, 0) := by decide +kernel
theorem op0_657 : rn_op 0 657 = some (.aload_n 0, 1, 0, 0, 0) := by decide +kernel
theorem op0_658 : rn_op 0 658 = some (.iload_n 3, 1, 0, 0, 0) := by decide +kernel
theorem op0_659 : rn_op 0 659 = some (.iconst 1, 1, 0, 0, 0) := by decide +kernel
theorem op0_660 : rn_op 0 660 = some (.iadd, 1, 0, 0, 0) := by decide +kernel
theorem op0_661 : rn_op 0 661 = some (.iaload, 1, 0, 0, 0) := by decide +kernel
theorem op0_662 : rn_op 0 662 = some (.invokevirtual 96, 3, 196, 2, 11) := by decide +kernel
theorem op0_665 : rn_op 0 665 = some (.if_icmp .eq 351, 3, 0, 0, 0) := by decide +kernel
theorem op0_668 : rn_op 0 668 = some (.iconst 0, 1, 0, 0, 0) := by decide +kernel
theorem op0_669 : rn_op 0 669 = some (.ireturn, 1, 0, 0, 0) := by decide +kernel
theorem op0_670 : rn_op 0 670 = some (.aload_n 1, 1, 0, 0, 0) := by decide +kernel
theorem op0_671 : rn_op 0 671 = some (.aload_n 0, 1, 0, 0, 0) := by decide +kernel
theorem op0_672 : rn_op 0 672 = some (.iload_n 3, 1, 0, 0, 0) := by decide +kernel
theorem op0_673 : rn_op 0 673 = some (.iconst 1, 1, 0, 0, 0) := by decide +kernel
theorem op0_674 : rn_op 0 674 = some (.iadd, 1, 0, 0, 0) := by decide +kernel
theorem op0_675 : rn_op 0 675 = some (.iaload, 1, 0, 0, 0) := by decide +kernel
theorem op0_676 : rn_op 0 676 = some (.aload_n 0, 1, 0, 0, 0) := by decide +kernel
theorem op0_677 : rn_op 0 677 = some (.iload_n 3, 1, 0, 0, 0) := by decide +kernel
theorem op0_678 : rn_op 0 678 = some (.iconst 2, 1, 0, 0, 0) := by decide +kernel
theorem op0_679 : rn_op 0 679 = some (.iadd, 1, 0, 0, 0) := by decide +kernel
theorem op0_680 : rn_op 0 680 = some (.iaload, 1, 0, 0, 0) := by decide +kernel
theorem op0_681 : rn_op 0 681 = some (.aload_n 0, 1, 0, 0, 0) := by decide +kernel
theorem op0_682 : rn_op 0 682 = some (.iload_n 3, 1, 0, 0, 0) := by decide +kernel
theorem op0_683 : rn_op 0 683 = some (.iconst 3, 1, 0, 0, 0) := by decide +kernel
theorem op0_684 : rn_op 0 684 = some (.iadd, 1, 0, 0, 0) := by decide +kernel
theorem op0_685 : rn_op 0 685 = some (.iaload, 1, 0, 0, 0) := by decide +kernel
theorem op0_686 : rn_op 0 686 = some (.aload_n 0, 1, 0, 0, 0) := by decide +kernel
theorem op0_687 : rn_op 0 687 = some (.iload_n 3, 1, 0, 0, 0) := by decide +kernel
theorem op0_688 : rn_op 0 688 = some (.iconst 4, 1, 0, 0, 0) := by decide +kernel
theorem op0_689 : rn_op 0 689 = some (.iadd, 1, 0, 0, 0) := by decide +kernel
theorem op0_690 : rn_op 0 690 = some (.iaload, 1, 0, 0, 0) := by decide +kernel
theorem op0_691 : rn_op 0 691 = some (.invokevirtual 97, 3, 108, 5, 10) := by decide +kernel
theorem op0_694 : rn_op 0 694 = some (.aload_n 2, 1, 0, 0, 0) := by decide +kernel
theorem op0_695 : rn_op 0 695 = some (.aload_n 0, 1, 0, 0, 0) := by decide +kernel
theorem op0_696 : rn_op 0 696 = some (.iload_n 3, 1, 0, 0, 0) := by decide +kernel
theorem op0_697 : rn_op 0 697 = some (.iconst 1, 1, 0, 0, 0) := by decide +kernel
theorem op0_698 : rn_op 0 698 = some (.iadd, 1, 0, 0, 0) := by decide +kernel
theorem op0_699 : rn_op 0 699 = some (.iaload, 1, 0, 0, 0) := by decide +kernel
theorem op0_700 : rn_op 0 700 = some (.aload_n 0, 1, 0, 0, 0) := by decide +kernel
theorem op0_701 : rn_op 0 701 = some (.iload_n 3, 1, 0, 0, 0) := by decide +kernel
theorem op0_702 : rn_op 0 702 = some (.iconst 2, 1, 0, 0, 0) := by decide +kernel
theorem op0_703 : rn_op 0 703 = some (.iadd, 1, 0, 0, 0) := by decide +kernel
theorem op0_704 : rn_op 0 704 = some (.iaload, 1, 0, 0, 0) := by decide +kernel
theorem op0_705 : rn_op 0 705 = some (.aload_n 0, 1, 0, 0, 0) := by decide +kernel
theorem op0_706 : rn_op 0 706 = some (.iload_n 3, 1, 0, 0, 0) := by decide +kernel
theorem op0_707 : rn_op 0 707 = some (.iconst 3, 1, 0, 0, 0) := by decide +kernel
theorem op0_708 : rn_op 0 708 = some (.iadd, 1, 0, 0, 0) := by decide +kernel
theorem op0_709 : rn_op 0 709 = some (.iaload, 1, 0, 0, 0) := by decide +kernel
theorem op0_710 : rn_op 0 710 = some (.aload_n 0, 1, 0, 0, 0) := by decide +kernel
theorem op0_711 : rn_op 0 711 = some (.iload_n 3, 1, 0, 0, 0) := by decide +kernel
theorem op0_712 : rn_op 0 712 = some (.iconst 4, 1, 0, 0, 0) := by decide +kernel
theorem op0_713 : rn_op 0 713 = some (.iadd, 1, 0, 0, 0) := by decide +kernel
theorem op0_714 : rn_op 0 714 = some (.iaload, 1, 0, 0, 0) := by decide +kernel
theorem op0_715 : rn_op 0 715 = some (.invokevirtual 100, 3, 197, 5, 11) := by decide +kernel
theorem op0_718 : rn_op 0 718 = some (.if_icmp .eq 298, 3, 0, 0, 0) := by decide +kernel
theorem op0_721 : rn_op 0 721 = some (.iconst 0, 1, 0, 0, 0) := by decide +kernel
theorem op0_722 : rn_op 0 722 = some (.ireturn, 1, 0, 0, 0) := by decide +kernel
theorem op0_723 : rn_op 0 723 = some (.aload_n 1, 1, 0, 0, 0) := by decide +kernel
theorem op0_724 : rn_op 0 724 = some (.invokevirtual 101, 3, 121, 1, 10) := by decide +kernel
theorem op0_727 : rn_op 0 727 = some (.aload_n 2, 1, 0, 0, 0) := by decide +kernel
theorem op0_728 : rn_op 0 728 = some (.invokevirtual 104, 3, 203, 1, 11) := by decide +kernel
theorem op0_731 : rn_op 0 731 = some (.if_icmp .eq 285, 3, 0, 0, 0) := by decide +kernel
theorem op0_734 : rn_op 0 734 = some (.iconst 0, 1, 0, 0, 0) := by decide +kernel
theorem op0_735 : rn_op 0 735 = some (.ireturn, 1, 0, 0, 0) := by decide +kernel
theorem op0_736 : rn_op 0 736 = some (.aload_n 1, 1, 0, 0, 0) := by decide +kernel
theorem op0_737 : rn_op 0 737 = some (.aload_n 0, 1, 0, 0, 0) := by decide +kernel
theorem op0_738 : rn_op 0 738 = some (.iload_n 3, 1, 0, 0, 0) := by decide +kernel
theorem op0_739 : rn_op 0 739 = some (.iconst 1, 1, 0, 0, 0) := by decide +kernel
theorem op0_740 : rn_op 0 740 = some (.iadd, 1, 0, 0, 0) := by decide +kernel
theorem op0_741 : rn_op 0 741 = some (.iaload, 1, 0, 0, 0) := by decide +kernel
theorem op0_742 : rn_op 0 742 = some (.aload_n 0, 1, 0, 0, 0) := by decide +kernel
theorem op0_743 : rn_op 0 743 = some (.iload_n 3, 1, 0, 0, 0) := by decide +kernel
theorem op0_744 : rn_op 0 744 = some (.iconst 2, 1, 0, 0, 0) := by decide +kernel
theorem op0_745 : rn_op 0 745 = some (.iadd, 1, 0, 0, 0) := by decide +kernel
theorem op0_746 : rn_op 0 746 = some (.iaload, 1, 0, 0, 0) := by decide +kernel
theorem op0_747 : rn_op 0 747 = some (.invokevirtual 105, 3, 124, 3, 10) := by decide +kernel
theorem op0_750 : rn_op 0 750 = some (.aload_n 2, 1, 0, 0, 0) := by decide +kernel
theorem op0_751 : rn_op 0 751 = some (.aload_n 0, 1, 0, 0, 0) := by decide +kernel
theorem op0_752 : rn_op 0 752 = some (.iload_n 3, 1, 0, 0, 0) := by decide +kernel
theorem op0_753 : rn_op 0 753 = some (.iconst 1, 1, 0, 0, 0) := by decide +kernel
theorem op0_754 : rn_op 0 754 = some (.iadd, 1, 0, 0, 0) := by decide +kernel
theorem op0_755 : rn_op 0 755 = some (.iaload, 1, 0, 0, 0) := by decide +kernel
theorem op0_756 : rn_op 0 756 = some (.aload_n 0, 1, 0, 0, 0) := by decide +kernel
theorem op0_757 : rn_op 0 757 = some (.iload_n 3, 1, 0, 0, 0) := by decide +kernel
theorem op0_758 : rn_op 0 758 = some (.iconst 2, 1, 0, 0, 0) := by decide +kernel
theorem op0_759 : rn_op 0 759 = some (.iadd, 1, 0, 0, 0) := by decide +kernel
theorem op0_760 : rn_op 0 760 = some (.iaload, 1, 0, 0, 0) := by decide +kernel
theorem op0_761 : rn_op 0 761 = some (.invokevirtual 108, 3, 205, 3, 11) := by decide +kernel
theorem op0_764 : rn_op 0 764 = some (.if_icmp .eq 252, 3, 0, 0, 0) := by decide +kernel
theorem op0_767 : rn_op 0 767 = some (.iconst 0, 1, 0, 0, 0) := by decide +kernel
theorem op0_768 : rn_op 0 768 = some (.ireturn, 1, 0, 0, 0) := by decide +kernel
theorem op0_769 : rn_op 0 769 = some (.aload_n 1, 1, 0, 0, 0) := by decide +kernel
theorem op0_770 : rn_op 0 770 = some (.aload_n 0, 1, 0, 0, 0) := by decide +kernel
theorem op0_771 : rn_op 0 771 = some (.iload_n 3, 1, 0, 0, 0) := by decide +kernel
theorem op0_772 : rn_op 0 772 = some (.iconst 1, 1, 0, 0, 0) := by decide +kernel
theorem op0_773 : rn_op 0 773 = some (.iadd, 1, 0, 0, 0) := by decide +kernel
theorem op0_774 : rn_op 0 774 = some (.iaload, 1, 0, 0, 0) := by decide +kernel
theorem op0_775 : rn_op 0 775 = some (.invokevirtual 109, 3, 125, 2, 10) := by decide +kernel
theorem op0_778 : rn_op 0 778 = some (.aload_n 2, 1, 0, 0, 0) := by decide +kernel
theorem op0_779 : rn_op 0 779 = some (.aload_n 0, 1, 0, 0, 0) := by decide +kernel
theorem op0_780 : rn_op 0 780 = some (.iload_n 3, 1, 0, 0, 0) := by decide +kernel
theorem op0_781 : rn_op 0 781 = some (.iconst 1, 1, 0, 0, 0) := by decide +kernel
theorem op0_782 : rn_op 0 782 = some (.iadd, 1, 0, 0, 0) := by decide +kernel
theorem op0_783 : rn_op 0 783 = some (.iaload, 1, 0, 0, 0) := by decide +kernel
theorem op0_784 : rn_op 0 784 = some (.invokevirtual 112, 3, 206, 2, 11) := by decide +kernel
theorem op0_787 : rn_op 0 787 = some (.if_icmp .eq 229, 3, 0, 0, 0) := by decide +kernel
theorem op0_790 : rn_op 0 790 = some (.iconst 0, 1, 0, 0, 0) := by decide +kernel
theorem op0_791 : rn_op 0 791 = some (.ireturn, 1, 0, 0, 0) := by decide +kernel
theorem op0_792 : rn_op 0 792 = some (.aload_n 1, 1, 0, 0, 0) := by decide +kernel
theorem op0_793 : rn_op 0 793 = some (.aload_n 0, 1, 0, 0, 0) := by decide +kernel
theorem op0_794 : rn_op 0 794 = some (.iload_n 3, 1, 0, 0, 0) := by decide +kernel
theorem op0_795 : rn_op 0 795 = some (.iconst 1, 1, 0, 0, 0) := by decide +kernel
theorem op0_796 : rn_op 0 796 = some (.iadd, 1, 0, 0, 0) := by decide +kernel
theorem op0_797 : rn_op 0 797 = some (.iaload, 1, 0, 0, 0) := by decide +kernel
theorem op0_798 : rn_op 0 798 = some (.invokevirtual 113, 3, 130, 2, 10) := by decide +kernel
theorem op0_801 : rn_op 0 801 = some (.aload_n 2, 1, 0, 0, 0) := by decide +kernel
theorem op0_802 : rn_op 0 802 = some (.aload_n 0, 1, 0, 0, 0) := by decide +kernel
theorem op0_803 : rn_op 0 803 = some (.iload_n 3, 1, 0, 0, 0) := by decide +kernel
theorem op0_804 : rn_op 0 804 = some (.iconst 1, 1, 0, 0, 0) := by decide +kernel
theorem op0_805 : rn_op 0 805 = some (.iadd, 1, 0, 0, 0) := by decide +kernel
theorem op0_806 : rn_op 0 806 = some (.iaload, 1, 0, 0, 0) := by decide +kernel
theorem op0_807 : rn_op 0 807 = some (.invokevirtual 116, 3, 210, 2, 11) := by decide +kernel
theorem op0_810 : rn_op 0 810 = some (.if_icmp .eq 206, 3, 0, 0, 0) := by decide +kernel
theorem op0_813 : rn_op 0 813 = some (.iconst 0, 1, 0, 0, 0) := by decide +kernel
theorem op0_814 : rn_op 0 814 = some (.ireturn, 1, 0, 0, 0) := by decide +kernel
theorem op0_815 : rn_op 0 815 = some (.aload_n 1, 1, 0, 0, 0) := by decide +kernel
theorem op0_816 : rn_op 0 816 = some (.aload_n 0, 1, 0, 0, 0) := by decide +kernel
theorem op0_817 : rn_op 0 817 = some (.iload_n 3, 1, 0, 0, 0) := by decide +kernel
theorem op0_818 : rn_op 0 818 = some (.iconst 1, 1, 0, 0, 0) := by decide +kernel
theorem op0_819 : rn_op 0 819 = some (.iadd, 1, 0, 0, 0) := by decide +kernel
theorem op0_820 : rn_op 0 820 = some (.iaload, 1, 0, 0, 0) := by decide +kernel
theorem op0_821 : rn_op 0 821 = some (.aload_n 0, 1, 0, 0, 0) := by decide +kernel
theorem op0_822 : rn_op 0 822 = some (.iload_n 3, 1, 0, 0, 0) := by decide +kernel
theorem op0_823 : rn_op 0 823 = some (.iconst 2, 1, 0, 0, 0) := by decide +kernel
theorem op0_824 : rn_op 0 824 = some (.iadd, 1, 0, 0, 0) := by decide +kernel
theorem op0_825 : rn_op 0 825 = some (.iaload, 1, 0, 0, 0) := by decide +kernel
theorem op0_826 : rn_op 0 826 = some (.invokevirtual 117, 3, 132, 3, 10) := by decide +kernel
theorem op0_829 : rn_op 0 829 = some (.aload_n 2, 1, 0, 0, 0) := by decide +kernel
theorem op0_830 : rn_op 0 830 = some (.aload_n 0, 1, 0, 0, 0) := by decide +kernel
theorem op0_831 : rn_op 0 831 = some (.iload_n 3, 1, 0, 0, 0) := by decide +kernel
theorem op0_832 : rn_op 0 832 = some (.iconst 1, 1, 0, 0, 0) := by decide +kernel
theorem op0_833 : rn_op 0 833 = some (.iadd, 1, 0, 0, 0) := by decide +kernel
theorem op0_834 : rn_op 0 834 = some (.iaload, 1, 0, 0, 0) := by decide +kernel
theorem op0_835 : rn_op 0 835 = some (.aload_n 0, 1, 0, 0, 0) := by decide +kernel
theorem op0_836 : rn_op 0 836 = some (.iload_n 3, 1, 0, 0, 0) := by decide +kernel
theorem op0_837 : rn_op 0 837 = some (.iconst 2, 1, 0, 0, 0) := by decide +kernel
theorem op0_838 : rn_op 0 838 = some (.iadd, 1, 0, 0, 0) := by decide +kernel
theorem op0_839 : rn_op 0 839 = some (.iaload, 1, 0, 0, 0) := by decide +kernel
theorem op0_840 : rn_op 0 840 = some (.invokevirtual 120, 3, 212, 3, 11) := by decide +kernel
theorem op0_843 : rn_op 0 843 = some (.if_icmp .eq 173, 3, 0, 0, 0) := by decide +kernel
theorem op0_846 : rn_op 0 846 = some (.iconst 0, 1, 0, 0, 0) := by decide +kernel
theorem op0_847 : rn_op 0 847 = some (.ireturn, 1, 0, 0, 0) := by decide +kernel
theorem op0_848 : rn_op 0 848 = some (.aload_n 1, 1, 0, 0, 0) := by decide +kernel
theorem op0_849 : rn_op 0 849 = some (.aload_n 0, 1, 0, 0, 0) := by decide +kernel
theorem op0_850 : rn_op 0 850 = some (.iload_n 3, 1, 0, 0, 0) := by decide +kernel
theorem op0_851 : rn_op 0 851 = some (.iconst 1, 1, 0, 0, 0) := by decide +kernel
theorem op0_852 : rn_op 0 852 = some (.iadd, 1, 0, 0, 0) := by decide +kernel
theorem op0_853 : rn_op 0 853 = some (.iaload, 1, 0, 0, 0) := by decide +kernel
theorem op0_854 : rn_op 0 854 = some (.invokevirtual 121, 3, 136, 2, 10) := by decide +kernel
theorem op0_857 : rn_op 0 857 = some (.aload_n 2, 1, 0, 0, 0) := by decide +kernel
theorem op0_858 : rn_op 0 858 = some (.aload_n 0, 1, 0, 0, 0) := by decide +kernel
theorem op0_859 : rn_op 0 859 = some (.iload_n 3, 1, 0, 0, 0) := by decide +kernel
theorem op0_860 : rn_op 0 860 = some (.iconst 1, 1, 0, 0, 0) := by decide +kernel
theorem op0_861 : rn_op 0 861 = some (.iadd, 1, 0, 0, 0) := by decide +kernel
theorem op0_862 : rn_op 0 862 = some (.iaload, 1, 0, 0, 0) := by decide +kernel
theorem op0_863 : rn_op 0 863 = some (.invokevirtual 124, 3, 158, 2, 11) := by decide +kernel
theorem op0_866 : rn_op 0 866 = some (.if_icmp .eq 150, 3, 0, 0, 0) := by decide +kernel
theorem op0_869 : rn_op 0 869 = some (.iconst 0, 1, 0, 0, 0) := by decide +kernel
theorem op0_870 : rn_op 0 870 = some (.ireturn, 1, 0, 0, 0) := by decide +kernel
theorem op0_871 : rn_op 0 871 = some (.aload_n 1, 1, 0, 0, 0) := by decide +kernel
theorem op0_872 : rn_op 0 872 = some (.invokevirtual 125, 3, 137, 1, 10) := by decide +kernel
theorem op0_875 : rn_op 0 875 = some (.aload_n 2, 1, 0, 0, 0) := by decide +kernel
theorem op0_876 : rn_op 0 876 = some (.invokevirtual 128, 3, 215, 1, 11) := by decide +kernel
theorem op0_879 : rn_op 0 879 = some (.if_icmp .eq 137, 3, 0, 0, 0) := by decide +kernel
theorem op0_882 : rn_op 0 882 = some (.iconst 0, 1, 0, 0, 0) := by decide +kernel
theorem op0_883 : rn_op 0 883 = some (.ireturn, 1, 0, 0, 0) := by decide +kernel
theorem op0_884 : rn_op 0 884 = some (.aload_n 1, 1, 0, 0, 0) := by decide +kernel
theorem op0_885 : rn_op 0 885 = some (.invokevirtual 129, 3, 139, 1, 10) := by decide +kernel
theorem op0_888 : rn_op 0 888 = some (.aload_n 2, 1, 0, 0, 0) := by decide +kernel
theorem op0_889 : rn_op 0 889 = some (.invokevirtual 132, 3, 216, 1, 11) := by decide +kernel
theorem op0_892 : rn_op 0 892 = some (.if_icmp .eq 124, 3, 0, 0, 0) := by decide +kernel
theorem op0_895 : rn_op 0 895 = some (.iconst 0, 1, 0, 0, 0) := by decide +kernel
theorem op0_896 : rn_op 0 896 = some (.ireturn, 1, 0, 0, 0) := by decide +kernel
theorem op0_897 : rn_op 0 897 = some (.aload_n 1, 1, 0, 0, 0) := by decide +kernel
theorem op0_898 : rn_op 0 898 = some (.aload_n 0, 1, 0, 0, 0) := by decide +kernel
theorem op0_899 : rn_op 0 899 = some (.iload_n 3, 1, 0, 0, 0) := by decide +kernel
theorem op0_900 : rn_op 0 900 = some (.iconst 1, 1, 0, 0, 0) := by decide +kernel
theorem op0_901 : rn_op 0 901 = some (.iadd, 1, 0, 0, 0) := by decide +kernel
theorem op0_902 : rn_op 0 902 = some (.iaload, 1, 0, 0, 0) := by decide +kernel
theorem op0_903 : rn_op 0 903 = some (.aload_n 0, 1, 0, 0, 0) := by decide +kernel
theorem op0_904 : rn_op 0 904 = some (.iload_n 3, 1, 0, 0, 0) := by decide +kernel
theorem op0_905 : rn_op 0 905 = some (.iconst 2, 1, 0, 0, 0) := by decide +kernel
theorem op0_906 : rn_op 0 906 = some (.iadd, 1, 0, 0, 0) := by decide +kernel
theorem op0_907 : rn_op 0 907 = some (.iaload, 1, 0, 0, 0) := by decide +kernel
theorem op0_908 : rn_op 0 908 = some (.aload_n 0, 1, 0, 0, 0) := by decide +kernel
theorem op0_909 : rn_op 0 909 = some (.iload_n 3, 1, 0, 0, 0) := by decide +kernel
theorem op0_910 : rn_op 0 910 = some (.iconst 3, 1, 0, 0, 0) := by decide +kernel
theorem op0_911 : rn_op 0 911 = some (.iadd, 1, 0, 0, 0) := by decide +kernel
theorem op0_912 : rn_op 0 912 = some (.iaload, 1, 0, 0, 0) := by decide +kernel
theorem op0_913 : rn_op 0 913 = some (.invokevirtual 133, 3, 140, 4, 10) := by decide +kernel
theorem op0_916 : rn_op 0 916 = some (.aload_n 2, 1, 0, 0, 0) := by decide +kernel
theorem op0_917 : rn_op 0 917 = some (.aload_n 0, 1, 0, 0, 0) := by decide +kernel
theorem op0_918 : rn_op 0 918 = some (.iload_n 3, 1, 0, 0, 0) := by decide +kernel
theorem op0_919 : rn_op 0 919 = some (.iconst 1, 1, 0, 0, 0) := by decide +kernel
theorem op0_920 : rn_op 0 920 = some (.iadd, 1, 0, 0, 0) := by decide +kernel
theorem op0_921 : rn_op 0 921 = some (.iaload, 1, 0, 0, 0) := by decide +kernel
theorem op0_922 : rn_op 0 922 = some (.aload_n 0, 1, 0, 0, 0) := by decide +kernel
theorem op0_923 : rn_op 0 923 = some (.iload_n 3, 1, 0, 0, 0) := by decide +kernel
theorem op0_924 : rn_op 0 924 = some (.iconst 2, 1, 0, 0, 0) := by decide +kernel
theorem op0_925 : rn_op 0 925 = some (.iadd, 1, 0, 0, 0) := by decide +kernel
theorem op0_926 : rn_op 0 926 = some (.iaload, 1, 0, 0, 0) := by decide +kernel
theorem op0_927 : rn_op 0 927 = some (.aload_n 0, 1, 0, 0, 0) := by decide +kernel
theorem op0_928 : rn_op 0 928 = some (.iload_n 3, 1, 0, 0, 0) := by decide +kernel
theorem op0_929 : rn_op 0 929 = some (.iconst 3, 1, 0, 0, 0) := by decide +kernel
theorem op0_930 : rn_op 0 930 = some (.iadd, 1, 0, 0, 0) := by decide +kernel
theorem op0_931 : rn_op 0 931 = some (.iaload, 1, 0, 0, 0) := by decide +kernel
theorem op0_932 : rn_op 0 932 = some (.invokevirtual 137, 3, 217, 4, 11) := by decide +kernel
theorem op0_935 : rn_op 0 935 = some (.if_icmp .eq 81, 3, 0, 0, 0) := by decide +kernel
theorem op0_938 : rn_op 0 938 = some (.iconst 0, 1, 0, 0, 0) := by decide +kernel
theorem op0_939 : rn_op 0 939 = some (.ireturn, 1, 0, 0, 0) := by decide +kernel
theorem op0_940 : rn_op 0 940 = some (.aload_n 1, 1, 0, 0, 0) := by decide +kernel
theorem op0_941 : rn_op 0 941 = some (.aload_n 0, 1, 0, 0, 0) := by decide +kernel
theorem op0_942 : rn_op 0 942 = some (.iload_n 3, 1, 0, 0, 0) := by decide +kernel
theorem op0_943 : rn_op 0 943 = some (.iconst 1, 1, 0, 0, 0) := by decide +kernel
theorem op0_944 : rn_op 0 944 = some (.iadd, 1, 0, 0, 0) := by decide +kernel
theorem op0_945 : rn_op 0 945 = some (.iaload, 1, 0, 0, 0) := by decide +kernel
theorem op0_946 : rn_op 0 946 = some (.invokevirtual 138, 3, 142, 2, 10) := by decide +kernel
theorem op0_949 : rn_op 0 949 = some (.aload_n 2, 1, 0, 0, 0) := by decide +kernel
theorem op0_950 : rn_op 0 950 = some (.aload_n 0, 1, 0, 0, 0) := by decide +kernel
theorem op0_951 : rn_op 0 951 = some (.iload_n 3, 1, 0, 0, 0) := by decide +kernel
theorem op0_952 : rn_op 0 952 = some (.iconst 1, 1, 0, 0, 0) := by decide +kernel
theorem op0_953 : rn_op 0 953 = some (.iadd, 1, 0, 0, 0) := by decide +kernel
theorem op0_954 : rn_op 0 954 = some (.iaload, 1, 0, 0, 0) := by decide +kernel
theorem op0_955 : rn_op 0 955 = some (.invokevirtual 141, 3, 218, 2, 11) := by decide +kernel
theorem op0_958 : rn_op 0 958 = some (.if_icmp .eq 58, 3, 0, 0, 0) := by decide +kernel
theorem op0_961 : rn_op 0 961 = some (.iconst 0, 1, 0, 0, 0) := by decide +kernel
theorem op0_962 : rn_op 0 962 = some (.ireturn, 1, 0, 0, 0) := by decide +kernel
theorem op0_963 : rn_op 0 963 = some (.aload_n 1, 1, 0, 0, 0) := by decide +kernel
theorem op0_964 : rn_op 0 964 = some (.aload_n 0, 1, 0, 0, 0) := by decide +kernel
theorem op0_965 : rn_op 0 965 = some (.iload_n 3, 1, 0, 0, 0) := by decide +kernel
theorem op0_966 : rn_op 0 966 = some (.iconst 1, 1, 0, 0, 0) := by decide +kernel
theorem op0_967 : rn_op 0 967 = some (.iadd, 1, 0, 0, 0) := by decide +kernel
theorem op0_968 : rn_op 0 968 = some (.iaload, 1, 0, 0, 0) := by decide +kernel
theorem op0_969 : rn_op 0 969 = some (.aload_n 0, 1, 0, 0, 0) := by decide +kernel
theorem op0_970 : rn_op 0 970 = some (.iload_n 3, 1, 0, 0, 0) := by decide +kernel
theorem op0_971 : rn_op 0 971 = some (.iconst 2, 1, 0, 0, 0) := by decide +kernel
theorem op0_972 : rn_op 0 972 = some (.iadd, 1, 0, 0, 0) := by decide +kernel
theorem op0_973 : rn_op 0 973 = some (.iaload, 1, 0, 0, 0) := by decide +kernel
theorem op0_974 : rn_op 0 974 = some (.aload_n 0, 1, 0, 0, 0) := by decide +kernel
theorem op0_975 : rn_op 0 975 = some (.iload_n 3, 1, 0, 0, 0) := by decide +kernel
theorem op0_976 : rn_op 0 976 = some (.iconst 3, 1, 0, 0, 0) := by decide +kernel
theorem op0_977 : rn_op 0 977 = some (.iadd, 1, 0, 0, 0) := by decide +kernel
theorem op0_978 : rn_op 0 978 = some (.iaload, 1, 0, 0, 0) := by decide +kernel
theorem op0_979 : rn_op 0 979 = some (.aload_n 0, 1, 0, 0, 0) := by decide +kernel
theorem op0_980 : rn_op 0 980 = some (.iload_n 3, 1, 0, 0, 0) := by decide +kernel
theorem op0_981 : rn_op 0 981 = some (.iconst 4, 1, 0, 0, 0) := by decide +kernel
theorem op0_982 : rn_op 0 982 = some (.iadd, 1, 0, 0, 0) := by decide +kernel
theorem op0_983 : rn_op 0 983 = some (.iaload, 1, 0, 0, 0) := by decide +kernel
theorem op0_984 : rn_op 0 984 = some (.invokevirtual 142, 3, 143, 5, 10) := by decide +kernel
theorem op0_987 : rn_op 0 987 = some (.aload_n 2, 1, 0, 0, 0) := by decide +kernel
theorem op0_988 : rn_op 0 988 = some (.aload_n 0, 1, 0, 0, 0) := by decide +kernel
theorem op0_989 : rn_op 0 989 = some (.iload_n 3, 1, 0, 0, 0) := by decide +kernel
theorem op0_990 : rn_op 0 990 = some (.iconst 1, 1, 0, 0, 0) := by decide +kernel
theorem op0_991 : rn_op 0 991 = some (.iadd, 1, 0, 0, 0) := by decide +kernel
theorem op0_992 : rn_op 0 992 = some (.iaload, 1, 0, 0, 0) := by decide +kernel
theorem op0_993 : rn_op 0 993 = some (.aload_n 0, 1, 0, 0, 0) := by decide +kernel
theorem op0_994 : rn_op 0 994 = some (.iload_n 3, 1, 0, 0, 0) := by decide +kernel
theorem op0_995 : rn_op 0 995 = some (.iconst 2, 1, 0, 0, 0) := by decide +kernel
theorem op0_996 : rn_op 0 996 = some (.iadd, 1, 0, 0, 0) := by decide +kernel
theorem op0_997 : rn_op 0 997 = some (.iaload, 1, 0, 0, 0) := by decide +kernel
theorem op0_998 : rn_op 0 998 = some (.aload_n 0, 1, 0, 0, 0) := by decide +kernel
theorem op0_999 : rn_op 0 999 = some (.iload_n 3, 1, 0, 0, 0) := by decide +kernel
theorem op0_1000 : rn_op 0 1000 = some (.iconst 3, 1, 0, 0, 0) := by decide +kernel
theorem op0_1001 : rn_op 0 1001 = some (.iadd, 1, 0, 0, 0) := by decide +kernel
theorem op0_1002 : rn_op 0 1002 = some (.iaload, 1, 0, 0, 0) := by decide +kernel
theorem op0_1003 : rn_op 0 1003 = some (.aload_n 0, 1, 0, 0, 0) := by decide +kernel
theorem op0_1004 : rn_op 0 1004 = some (.iload_n 3, 1, 0, 0, 0) := by decide +kernel
theorem op0_1005 : rn_op 0 1005 = some (.iconst 4, 1, 0, 0, 0) := by decide +kernel
theorem op0_1006 : rn_op 0 1006 = some (.iadd, 1, 0, 0, 0) := by decide +kernel
theorem op0_1007 : rn_op 0 1007 = some (.iaload, 1, 0, 0, 0) := by decide +kernel
theorem op0_1008 : rn_op 0 1008 = some (.invokevirtual 145, 3, 219, 5, 11) := by decide +kernel
theorem op0_1011 : rn_op 0 1011 = some (.if_icmp .eq 5, 3, 0, 0, 0) := by decide +kernel
theorem op0_1014 : rn_op 0 1014 = some (.iconst 0, 1, 0, 0, 0) := by decide +kernel
theorem op0_1015 : rn_op 0 1015 = some (.ireturn, 1, 0, 0, 0) := by decide +kernel
theorem op0_1016 : rn_op 0 1016 = some (.iinc 3 5, 3, 0, 0, 0) := by decide +kernel
theorem op0_1019 : rn_op 0 1019 = some (.goto (-1001), 3, 0, 0, 0) := by decide +kernel
theorem op0_1022 : rn_op 0 1022 = some (.iconst 1, 1, 0, 0, 0) := by decide +kernel
theorem op0_1023 : rn_op 0 1023 = some (.ireturn, 1, 0, 0, 0) := by decide +kernel
def lw_law_l18 (xs : List Int32)  : Nat → Int32 → rn_Mem → Option ((Int32 × rn_Mem) ⊕ (rn_Mem))
  | 0, _, _ => none
  | n + 1, a3, m =>
    if ((Int32.ofNat xs.length) - 5) < a3 then
      some (.inr m)
    else
      if rn_in a3 (xs.length) = true then
        if ((xs.getD a3.toNatClampNeg 0) &&& 31) = 0 then
          if rn_in (a3 + 1) (xs.length) = true then
            if rn_in (a3 + 2) (xs.length) = true then
              if rn_in (a3 + 3) (xs.length) = true then
                (lt_type n ((((xs.getD (a3 + 1).toNatClampNeg 0).toInt64) <<< ((32 : Int32).toInt64 &&& 63)) ||| (((xs.getD (a3 + 2).toNatClampNeg 0).toInt64) &&& 4294967295)) (xs.getD (a3 + 3).toNatClampNeg 0) m).bind fun (r339, m338) =>
                if rn_in (a3 + 1) (xs.length) = true then
                  if rn_in (a3 + 2) (xs.length) = true then
                    if rn_in (a3 + 3) (xs.length) = true then
                      (mo_type n ((((xs.getD (a3 + 1).toNatClampNeg 0).toInt64) <<< ((32 : Int32).toInt64 &&& 63)) ||| (((xs.getD (a3 + 2).toNatClampNeg 0).toInt64) &&& 4294967295)) (xs.getD (a3 + 3).toNatClampNeg 0) m338).bind fun (r345, m344) =>
                      if r339 = r345 then
                        (some (a3 + 5)).bind fun (x348 : Int32) =>
                        lw_law_l18 xs n x348 m344
                      else
                        some (.inl (0, m344))
                    else none
                  else none
                else none
              else none
            else none
          else none
        else if ((xs.getD a3.toNatClampNeg 0) &&& 31) = 1 then
          (lt_game n m).bind fun (r350, m349) =>
          (mo_game n m349).bind fun (r353, m352) =>
          if r350 = r353 then
            (some (a3 + 5)).bind fun (x356 : Int32) =>
            lw_law_l18 xs n x356 m352
          else
            some (.inl (0, m352))
        else if ((xs.getD a3.toNatClampNeg 0) &&& 31) = 2 then
          (lt_table n m).bind fun (r358, m357) =>
          (mo_table n m357).bind fun (r361, m360) =>
          if r358 = r361 then
            (some (a3 + 5)).bind fun (x364 : Int32) =>
            lw_law_l18 xs n x364 m360
          else
            some (.inl (0, m360))
        else if ((xs.getD a3.toNatClampNeg 0) &&& 31) = 3 then
          if rn_in (a3 + 1) (xs.length) = true then
            (lt_told n (xs.getD (a3 + 1).toNatClampNeg 0) m).bind fun (r367, m366) =>
            if rn_in (a3 + 1) (xs.length) = true then
              (mo_told n (xs.getD (a3 + 1).toNatClampNeg 0) m366).bind fun (r371, m370) =>
              if r367 = r371 then
                (some (a3 + 5)).bind fun (x374 : Int32) =>
                lw_law_l18 xs n x374 m370
              else
                some (.inl (0, m370))
            else none
          else none
        else if ((xs.getD a3.toNatClampNeg 0) &&& 31) = 4 then
          if rn_in (a3 + 1) (xs.length) = true then
            if rn_in (a3 + 2) (xs.length) = true then
              (lt_set n (xs.getD (a3 + 1).toNatClampNeg 0) (xs.getD (a3 + 2).toNatClampNeg 0) m).bind fun (r378, m377) =>
              if rn_in (a3 + 1) (xs.length) = true then
                if rn_in (a3 + 2) (xs.length) = true then
                  (mo_set n (xs.getD (a3 + 1).toNatClampNeg 0) (xs.getD (a3 + 2).toNatClampNeg 0) m377).bind fun (r383, m382) =>
                  if r378 = r383 then
                    (some (a3 + 5)).bind fun (x386 : Int32) =>
                    lw_law_l18 xs n x386 m382
                  else
                    some (.inl (0, m382))
                else none
              else none
            else none
          else none
        else if ((xs.getD a3.toNatClampNeg 0) &&& 31) = 5 then
          if rn_in (a3 + 1) (xs.length) = true then
            if rn_in (a3 + 2) (xs.length) = true then
              (lt_heap n (xs.getD (a3 + 1).toNatClampNeg 0) (xs.getD (a3 + 2).toNatClampNeg 0) m).bind fun (r390, m389) =>
              if rn_in (a3 + 1) (xs.length) = true then
                if rn_in (a3 + 2) (xs.length) = true then
                  (mo_heap n (xs.getD (a3 + 1).toNatClampNeg 0) (xs.getD (a3 + 2).toNatClampNeg 0) m389).bind fun (r395, m394) =>
                  if r390 = r395 then
                    (some (a3 + 5)).bind fun (x398 : Int32) =>
                    lw_law_l18 xs n x398 m394
                  else
                    some (.inl (0, m394))
                else none
              else none
            else none
          else none
        else if ((xs.getD a3.toNatClampNeg 0) &&& 31) = 6 then
          if rn_in (a3 + 1) (xs.length) = true then
            if rn_in (a3 + 2) (xs.length) = true then
              (lt_wins n (xs.getD (a3 + 1).toNatClampNeg 0) (xs.getD (a3 + 2).toNatClampNeg 0) m).bind fun (r402, m401) =>
              if rn_in (a3 + 1) (xs.length) = true then
                if rn_in (a3 + 2) (xs.length) = true then
                  (mo_wins n (xs.getD (a3 + 1).toNatClampNeg 0) (xs.getD (a3 + 2).toNatClampNeg 0) m401).bind fun (r407, m406) =>
                  if r402 = r407 then
                    (some (a3 + 5)).bind fun (x410 : Int32) =>
                    lw_law_l18 xs n x410 m406
                  else
                    some (.inl (0, m406))
                else none
              else none
            else none
          else none
        else if ((xs.getD a3.toNatClampNeg 0) &&& 31) = 7 then
          if rn_in (a3 + 1) (xs.length) = true then
            if rn_in (a3 + 2) (xs.length) = true then
              if rn_in (a3 + 3) (xs.length) = true then
                if rn_in (a3 + 4) (xs.length) = true then
                  (lt_clue n (xs.getD (a3 + 1).toNatClampNeg 0) (xs.getD (a3 + 2).toNatClampNeg 0) (xs.getD (a3 + 3).toNatClampNeg 0) (xs.getD (a3 + 4).toNatClampNeg 0) m).bind fun (r416, m415) =>
                  if rn_in (a3 + 1) (xs.length) = true then
                    if rn_in (a3 + 2) (xs.length) = true then
                      if rn_in (a3 + 3) (xs.length) = true then
                        if rn_in (a3 + 4) (xs.length) = true then
                          (mo_clue n (xs.getD (a3 + 1).toNatClampNeg 0) (xs.getD (a3 + 2).toNatClampNeg 0) (xs.getD (a3 + 3).toNatClampNeg 0) (xs.getD (a3 + 4).toNatClampNeg 0) m415).bind fun (r423, m422) =>
                          if r416 = r423 then
                            (some (a3 + 5)).bind fun (x426 : Int32) =>
                            lw_law_l18 xs n x426 m422
                          else
                            some (.inl (0, m422))
                        else none
                      else none
                    else none
                  else none
                else none
              else none
            else none
          else none
        else if ((xs.getD a3.toNatClampNeg 0) &&& 31) = 8 then
          (lt_forget n m).bind fun (r428, m427) =>
          (mo_forget n m427).bind fun (r431, m430) =>
          if r428 = r431 then
            (some (a3 + 5)).bind fun (x434 : Int32) =>
            lw_law_l18 xs n x434 m430
          else
            some (.inl (0, m430))
        else if ((xs.getD a3.toNatClampNeg 0) &&& 31) = 9 then
          (lt_plays n m).bind fun (r436, m435) =>
          (mo_plays n m435).bind fun (r439, m438) =>
          if (lg_cmp r436 r439) = 0 then
            (some (a3 + 5)).bind fun (x442 : Int32) =>
            lw_law_l18 xs n x442 m438
          else
            some (.inl (0, m438))
        else if ((xs.getD a3.toNatClampNeg 0) &&& 31) = 10 then
          if rn_in (a3 + 1) (xs.length) = true then
            (lt_may n (xs.getD (a3 + 1).toNatClampNeg 0) m).bind fun (r445, m444) =>
            if rn_in (a3 + 1) (xs.length) = true then
              (mo_may n (xs.getD (a3 + 1).toNatClampNeg 0) m444).bind fun (r449, m448) =>
              if r445 = r449 then
                (some (a3 + 5)).bind fun (x452 : Int32) =>
                lw_law_l18 xs n x452 m448
              else
                some (.inl (0, m448))
            else none
          else none
        else if ((xs.getD a3.toNatClampNeg 0) &&& 31) = 11 then
          if rn_in (a3 + 1) (xs.length) = true then
            (lt_sure n (xs.getD (a3 + 1).toNatClampNeg 0) m).bind fun (r455, m454) =>
            if rn_in (a3 + 1) (xs.length) = true then
              (mo_sure n (xs.getD (a3 + 1).toNatClampNeg 0) m454).bind fun (r459, m458) =>
              if r455 = r459 then
                (some (a3 + 5)).bind fun (x462 : Int32) =>
                lw_law_l18 xs n x462 m458
              else
                some (.inl (0, m458))
            else none
          else none
        else if ((xs.getD a3.toNatClampNeg 0) &&& 31) = 12 then
          if rn_in (a3 + 1) (xs.length) = true then
            if rn_in (a3 + 2) (xs.length) = true then
              (lt_under n (xs.getD (a3 + 1).toNatClampNeg 0) (xs.getD (a3 + 2).toNatClampNeg 0) m).bind fun (r466, m465) =>
              if rn_in (a3 + 1) (xs.length) = true then
                if rn_in (a3 + 2) (xs.length) = true then
                  (mo_under n (xs.getD (a3 + 1).toNatClampNeg 0) (xs.getD (a3 + 2).toNatClampNeg 0) m465).bind fun (r471, m470) =>
                  if r466 = r471 then
                    (some (a3 + 5)).bind fun (x474 : Int32) =>
                    lw_law_l18 xs n x474 m470
                  else
                    some (.inl (0, m470))
                else none
              else none
            else none
          else none
        else if ((xs.getD a3.toNatClampNeg 0) &&& 31) = 13 then
          if rn_in (a3 + 1) (xs.length) = true then
            if rn_in (a3 + 2) (xs.length) = true then
              (lt_trick n (xs.getD (a3 + 1).toNatClampNeg 0) (xs.getD (a3 + 2).toNatClampNeg 0) m).bind fun (r478, m477) =>
              if rn_in (a3 + 1) (xs.length) = true then
                if rn_in (a3 + 2) (xs.length) = true then
                  (mo_trick n (xs.getD (a3 + 1).toNatClampNeg 0) (xs.getD (a3 + 2).toNatClampNeg 0) m477).bind fun (r483, m482) =>
                  if r478 = r483 then
                    (some (a3 + 5)).bind fun (x486 : Int32) =>
                    lw_law_l18 xs n x486 m482
                  else
                    some (.inl (0, m482))
                else none
              else none
            else none
          else none
        else if ((xs.getD a3.toNatClampNeg 0) &&& 31) = 14 then
          if rn_in (a3 + 1) (xs.length) = true then
            (lt_first n (xs.getD (a3 + 1).toNatClampNeg 0) m).bind fun (r489, m488) =>
            if rn_in (a3 + 1) (xs.length) = true then
              (mo_first n (xs.getD (a3 + 1).toNatClampNeg 0) m488).bind fun (r493, m492) =>
              if r489 = r493 then
                (some (a3 + 5)).bind fun (x496 : Int32) =>
                lw_law_l18 xs n x496 m492
              else
                some (.inl (0, m492))
            else none
          else none
        else if ((xs.getD a3.toNatClampNeg 0) &&& 31) = 15 then
          if rn_in (a3 + 1) (xs.length) = true then
            (lt_fewest n (xs.getD (a3 + 1).toNatClampNeg 0) m).bind fun (r499, m498) =>
            if rn_in (a3 + 1) (xs.length) = true then
              (mo_fewest n (xs.getD (a3 + 1).toNatClampNeg 0) m498).bind fun (r503, m502) =>
              if r499 = r503 then
                (some (a3 + 5)).bind fun (x506 : Int32) =>
                lw_law_l18 xs n x506 m502
              else
                some (.inl (0, m502))
            else none
          else none
        else if ((xs.getD a3.toNatClampNeg 0) &&& 31) = 16 then
          (lt_drops n m).bind fun (r508, m507) =>
          (mo_drops n m507).bind fun (r511, m510) =>
          if r508 = r511 then
            (some (a3 + 5)).bind fun (x514 : Int32) =>
            lw_law_l18 xs n x514 m510
          else
            some (.inl (0, m510))
        else if ((xs.getD a3.toNatClampNeg 0) &&& 31) = 17 then
          (lt_turned n m).bind fun (r516, m515) =>
          (mo_turned n m515).bind fun (r519, m518) =>
          if r516 = r519 then
            (some (a3 + 5)).bind fun (x522 : Int32) =>
            lw_law_l18 xs n x522 m518
          else
            some (.inl (0, m518))
        else if ((xs.getD a3.toNatClampNeg 0) &&& 31) = 18 then
          if rn_in (a3 + 1) (xs.length) = true then
            (lt_others n (xs.getD (a3 + 1).toNatClampNeg 0) m).bind fun (r525, m524) =>
            if rn_in (a3 + 1) (xs.length) = true then
              (mo_others n (xs.getD (a3 + 1).toNatClampNeg 0) m524).bind fun (r529, m528) =>
              if r525 = r529 then
                (some (a3 + 5)).bind fun (x532 : Int32) =>
                lw_law_l18 xs n x532 m528
              else
                some (.inl (0, m528))
            else none
          else none
        else if ((xs.getD a3.toNatClampNeg 0) &&& 31) = 19 then
          if rn_in (a3 + 1) (xs.length) = true then
            if rn_in (a3 + 2) (xs.length) = true then
              if rn_in (a3 + 3) (xs.length) = true then
                if rn_in (a3 + 4) (xs.length) = true then
                  (lt_row n (xs.getD (a3 + 1).toNatClampNeg 0) (xs.getD (a3 + 2).toNatClampNeg 0) (xs.getD (a3 + 3).toNatClampNeg 0) (xs.getD (a3 + 4).toNatClampNeg 0) m).bind fun (r538, m537) =>
                  if rn_in (a3 + 1) (xs.length) = true then
                    if rn_in (a3 + 2) (xs.length) = true then
                      if rn_in (a3 + 3) (xs.length) = true then
                        if rn_in (a3 + 4) (xs.length) = true then
                          (mo_row n (xs.getD (a3 + 1).toNatClampNeg 0) (xs.getD (a3 + 2).toNatClampNeg 0) (xs.getD (a3 + 3).toNatClampNeg 0) (xs.getD (a3 + 4).toNatClampNeg 0) m537).bind fun (r545, m544) =>
                          if r538 = r545 then
                            (some (a3 + 5)).bind fun (x548 : Int32) =>
                            lw_law_l18 xs n x548 m544
                          else
                            some (.inl (0, m544))
                        else none
                      else none
                    else none
                  else none
                else none
              else none
            else none
          else none
        else if ((xs.getD a3.toNatClampNeg 0) &&& 31) = 20 then
          (lt_leaves n m).bind fun (r550, m549) =>
          (mo_leaves n m549).bind fun (r553, m552) =>
          if r550 = r553 then
            (some (a3 + 5)).bind fun (x556 : Int32) =>
            lw_law_l18 xs n x556 m552
          else
            some (.inl (0, m552))
        else if ((xs.getD a3.toNatClampNeg 0) &&& 31) = 21 then
          if rn_in (a3 + 1) (xs.length) = true then
            if rn_in (a3 + 2) (xs.length) = true then
              (lt_who n (xs.getD (a3 + 1).toNatClampNeg 0) (xs.getD (a3 + 2).toNatClampNeg 0) m).bind fun (r560, m559) =>
              if rn_in (a3 + 1) (xs.length) = true then
                if rn_in (a3 + 2) (xs.length) = true then
                  (mo_who n (xs.getD (a3 + 1).toNatClampNeg 0) (xs.getD (a3 + 2).toNatClampNeg 0) m559).bind fun (r565, m564) =>
                  if r560 = r565 then
                    (some (a3 + 5)).bind fun (x568 : Int32) =>
                    lw_law_l18 xs n x568 m564
                  else
                    some (.inl (0, m564))
                else none
              else none
            else none
          else none
        else if ((xs.getD a3.toNatClampNeg 0) &&& 31) = 22 then
          if rn_in (a3 + 1) (xs.length) = true then
            (lt_best n (xs.getD (a3 + 1).toNatClampNeg 0) m).bind fun (r571, m570) =>
            if rn_in (a3 + 1) (xs.length) = true then
              (mo_best n (xs.getD (a3 + 1).toNatClampNeg 0) m570).bind fun (r575, m574) =>
              if r571 = r575 then
                (some (a3 + 5)).bind fun (x578 : Int32) =>
                lw_law_l18 xs n x578 m574
              else
                some (.inl (0, m574))
            else none
          else none
        else if ((xs.getD a3.toNatClampNeg 0) &&& 31) = 23 then
          if rn_in (a3 + 1) (xs.length) = true then
            (lt_falls n (xs.getD (a3 + 1).toNatClampNeg 0) m).bind fun (r581, m580) =>
            if rn_in (a3 + 1) (xs.length) = true then
              (mo_falls n (xs.getD (a3 + 1).toNatClampNeg 0) m580).bind fun (r585, m584) =>
              if r581 = r585 then
                (some (a3 + 5)).bind fun (x588 : Int32) =>
                lw_law_l18 xs n x588 m584
              else
                some (.inl (0, m584))
            else none
          else none
        else if ((xs.getD a3.toNatClampNeg 0) &&& 31) = 24 then
          if rn_in (a3 + 1) (xs.length) = true then
            if rn_in (a3 + 2) (xs.length) = true then
              (lt_knows n (xs.getD (a3 + 1).toNatClampNeg 0) (xs.getD (a3 + 2).toNatClampNeg 0) m).bind fun (r592, m591) =>
              if rn_in (a3 + 1) (xs.length) = true then
                if rn_in (a3 + 2) (xs.length) = true then
                  (mo_knows n (xs.getD (a3 + 1).toNatClampNeg 0) (xs.getD (a3 + 2).toNatClampNeg 0) m591).bind fun (r597, m596) =>
                  if r592 = r597 then
                    (some (a3 + 5)).bind fun (x600 : Int32) =>
                    lw_law_l18 xs n x600 m596
                  else
                    some (.inl (0, m596))
                else none
              else none
            else none
          else none
        else if ((xs.getD a3.toNatClampNeg 0) &&& 31) = 25 then
          if rn_in (a3 + 1) (xs.length) = true then
            (lt_count n (xs.getD (a3 + 1).toNatClampNeg 0) m).bind fun (r603, m602) =>
            if rn_in (a3 + 1) (xs.length) = true then
              (mo_count n (xs.getD (a3 + 1).toNatClampNeg 0) m602).bind fun (r607, m606) =>
              if r603 = r607 then
                (some (a3 + 5)).bind fun (x610 : Int32) =>
                lw_law_l18 xs n x610 m606
              else
                some (.inl (0, m606))
            else none
          else none
        else if ((xs.getD a3.toNatClampNeg 0) &&& 31) = 26 then
          (lt_image n m).bind fun (r612, m611) =>
          (mo_image n m611).bind fun (r615, m614) =>
          if r612 = r615 then
            (some (a3 + 5)).bind fun (x618 : Int32) =>
            lw_law_l18 xs n x618 m614
          else
            some (.inl (0, m614))
        else if ((xs.getD a3.toNatClampNeg 0) &&& 31) = 27 then
          (lt_restore n m).bind fun (r620, m619) =>
          (mo_restore n m619).bind fun (r623, m622) =>
          if r620 = r623 then
            (some (a3 + 5)).bind fun (x626 : Int32) =>
            lw_law_l18 xs n x626 m622
          else
            some (.inl (0, m622))
        else if ((xs.getD a3.toNatClampNeg 0) &&& 31) = 28 then
          if rn_in (a3 + 1) (xs.length) = true then
            if rn_in (a3 + 2) (xs.length) = true then
              if rn_in (a3 + 3) (xs.length) = true then
                (lt_sheet n (xs.getD (a3 + 1).toNatClampNeg 0) (xs.getD (a3 + 2).toNatClampNeg 0) (xs.getD (a3 + 3).toNatClampNeg 0) m).bind fun (r631, m630) =>
                if rn_in (a3 + 1) (xs.length) = true then
                  if rn_in (a3 + 2) (xs.length) = true then
                    if rn_in (a3 + 3) (xs.length) = true then
                      (mo_sheet n (xs.getD (a3 + 1).toNatClampNeg 0) (xs.getD (a3 + 2).toNatClampNeg 0) (xs.getD (a3 + 3).toNatClampNeg 0) m630).bind fun (r637, m636) =>
                      if r631 = r637 then
                        (some (a3 + 5)).bind fun (x640 : Int32) =>
                        lw_law_l18 xs n x640 m636
                      else
                        some (.inl (0, m636))
                    else none
                  else none
                else none
              else none
            else none
          else none
        else if ((xs.getD a3.toNatClampNeg 0) &&& 31) = 29 then
          if rn_in (a3 + 1) (xs.length) = true then
            (lt_drop n (xs.getD (a3 + 1).toNatClampNeg 0) m).bind fun (r643, m642) =>
            if rn_in (a3 + 1) (xs.length) = true then
              (mo_drop n (xs.getD (a3 + 1).toNatClampNeg 0) m642).bind fun (r647, m646) =>
              if r643 = r647 then
                (some (a3 + 5)).bind fun (x650 : Int32) =>
                lw_law_l18 xs n x650 m646
              else
                some (.inl (0, m646))
            else none
          else none
        else if ((xs.getD a3.toNatClampNeg 0) &&& 31) = 30 then
          if rn_in (a3 + 1) (xs.length) = true then
            if rn_in (a3 + 2) (xs.length) = true then
              if rn_in (a3 + 3) (xs.length) = true then
                if rn_in (a3 + 4) (xs.length) = true then
                  (lt_item n (xs.getD (a3 + 1).toNatClampNeg 0) (xs.getD (a3 + 2).toNatClampNeg 0) (xs.getD (a3 + 3).toNatClampNeg 0) (xs.getD (a3 + 4).toNatClampNeg 0) m).bind fun (r656, m655) =>
                  if rn_in (a3 + 1) (xs.length) = true then
                    if rn_in (a3 + 2) (xs.length) = true then
                      if rn_in (a3 + 3) (xs.length) = true then
                        if rn_in (a3 + 4) (xs.length) = true then
                          (mo_item n (xs.getD (a3 + 1).toNatClampNeg 0) (xs.getD (a3 + 2).toNatClampNeg 0) (xs.getD (a3 + 3).toNatClampNeg 0) (xs.getD (a3 + 4).toNatClampNeg 0) m655).bind fun (r663, m662) =>
                          if r656 = r663 then
                            (some (a3 + 5)).bind fun (x666 : Int32) =>
                            lw_law_l18 xs n x666 m662
                          else
                            some (.inl (0, m662))
                        else none
                      else none
                    else none
                  else none
                else none
              else none
            else none
          else none
        else 
          (some (a3 + 5)).bind fun (x667 : Int32) =>
          lw_law_l18 xs n x667 m
      else none
set_option maxHeartbeats 40000000 in
set_option maxRecDepth 100000 in
theorem lw_law_l18_ok (xs : List Int32) {d : Nat} (hd : 42 ≤ d + 1) {r : Option Value} {τ : rn_H} {out : (Int32 × rn_Mem) ⊕ (rn_Mem)} (hl : ∀ (rO : Int32) (mO : rn_Mem), out = .inl (rO, mO) → r = (some (.int rO)) ∧ τ = (rn_SH, mO)) (hr : ∀ (mO : rn_Mem), out = .inr mO → ∀ (o0 o1 o2 o3 : Option Value), rn_R xs (d + 1) 0 1022 [o0, o1, o2, o3] [] (rn_SH, mO) r τ) : ∀ (n : Nat) (a3 : Int32) (m : rn_Mem), lw_law_l18 xs n a3 m = some out → rn_R xs (d + 1) 0 18 [some (.ref 10002), some (.ref 0), some (.ref 115), some (.int a3)] [] (rn_SH, m) r τ := by
  intro n
  induction n with
  | zero =>
    intro _ _ h
    cases h
  | succ n ih =>
    intro a3 m h
    unfold lw_law_l18 at h
    try dsimp only at h
    refine rx_p (L2 := [some (.ref 10002), some (.ref 0), some (.ref 115), some (.int a3)]) (S2 := [.int a3]) (pc2 := 19) op0_18 rfl rfl ?_
    refine rx_p (L2 := [some (.ref 10002), some (.ref 0), some (.ref 115), some (.int a3)]) (S2 := [.ref 10002, .int a3]) (pc2 := 20) op0_19 rfl rfl ?_
    refine rx_alx (pc2 := 21) op0_20 rfl ?_
    refine rx_ic (v := 5) (pc2 := 22) op0_21 (by decide) rfl ?_
    refine rx_p (L2 := [some (.ref 10002), some (.ref 0), some (.ref 115), some (.int a3)]) (S2 := [.int ((Int32.ofNat xs.length) - 5), .int a3]) (pc2 := 23) op0_22 rfl rfl ?_
    refine ry_ic_gt (tgt := 1022) (pc2 := 26) op0_23 (by decide) (by decide) rfl (fun b1 => ?_) (fun b1 => ?_)
    · have h := (if_pos b1).symm.trans h
      cases h
      exact hr _ rfl _ _ _ _
    · have h := (if_neg b1).symm.trans h
      refine rx_p (L2 := [some (.ref 10002), some (.ref 0), some (.ref 115), some (.int a3)]) (S2 := [.ref 10002]) (pc2 := 27) op0_26 rfl rfl ?_
      refine rx_p (L2 := [some (.ref 10002), some (.ref 0), some (.ref 115), some (.int a3)]) (S2 := [.int a3, .ref 10002]) (pc2 := 28) op0_27 rfl rfl ?_
      obtain ⟨k2, h⟩ := rq_chk h
      refine rx_ix (pc2 := 29) op0_28 (by decide) k2 rfl ?_
      show rn_R _ _ _ _ _ [.int (xs.getD a3.toNatClampNeg 0)] _ _ _
      refine rx_bp (v := 31) (pc2 := 31) op0_29 (by decide) rfl ?_
      refine rx_p (L2 := [some (.ref 10002), some (.ref 0), some (.ref 115), some (.int a3)]) (S2 := [.int ((xs.getD a3.toNatClampNeg 0) &&& 31)]) (pc2 := 32) op0_31 rfl rfl ?_
      by_cases b3 : ((xs.getD a3.toNatClampNeg 0) &&& 31) = 0
      · have h := (if_pos b3).symm.trans h
        refine ry_ti (w := 0) (off := 140) (tgt := 172) op0_32 (by rw [b3] <;> decide) (by decide) (by decide) (by decide) (by decide) ?_
        refine rx_p (L2 := [some (.ref 10002), some (.ref 0), some (.ref 115), some (.int a3)]) (S2 := [.ref 0]) (pc2 := 173) op0_172 rfl rfl ?_
        refine rx_p (L2 := [some (.ref 10002), some (.ref 0), some (.ref 115), some (.int a3)]) (S2 := [.ref 10002, .ref 0]) (pc2 := 174) op0_173 rfl rfl ?_
        refine rx_p (L2 := [some (.ref 10002), some (.ref 0), some (.ref 115), some (.int a3)]) (S2 := [.int a3, .ref 10002, .ref 0]) (pc2 := 175) op0_174 rfl rfl ?_
        refine rx_ic (v := 1) (pc2 := 176) op0_175 (by decide) rfl ?_
        refine rx_p (L2 := [some (.ref 10002), some (.ref 0), some (.ref 115), some (.int a3)]) (S2 := [.int (a3 + 1), .ref 10002, .ref 0]) (pc2 := 177) op0_176 rfl rfl ?_
        obtain ⟨k335, h⟩ := rq_chk h
        refine rx_ix (pc2 := 178) op0_177 (by decide) k335 rfl ?_
        show rn_R _ _ _ _ _ [.int (xs.getD (a3 + 1).toNatClampNeg 0), .ref 0] _ _ _
        refine rx_p (L2 := [some (.ref 10002), some (.ref 0), some (.ref 115), some (.int a3)]) (S2 := [.long ((xs.getD (a3 + 1).toNatClampNeg 0).toInt64), .ref 0]) (pc2 := 179) op0_178 rfl rfl ?_
        refine rx_bp (v := 32) (pc2 := 181) op0_179 (by decide) rfl ?_
        refine rx_p (L2 := [some (.ref 10002), some (.ref 0), some (.ref 115), some (.int a3)]) (S2 := [.long (((xs.getD (a3 + 1).toNatClampNeg 0).toInt64) <<< ((32 : Int32).toInt64 &&& 63)), .ref 0]) (pc2 := 182) op0_181 rfl rfl ?_
        refine rx_p (L2 := [some (.ref 10002), some (.ref 0), some (.ref 115), some (.int a3)]) (S2 := [.ref 10002, .long (((xs.getD (a3 + 1).toNatClampNeg 0).toInt64) <<< ((32 : Int32).toInt64 &&& 63)), .ref 0]) (pc2 := 183) op0_182 rfl rfl ?_
        refine rx_p (L2 := [some (.ref 10002), some (.ref 0), some (.ref 115), some (.int a3)]) (S2 := [.int a3, .ref 10002, .long (((xs.getD (a3 + 1).toNatClampNeg 0).toInt64) <<< ((32 : Int32).toInt64 &&& 63)), .ref 0]) (pc2 := 184) op0_183 rfl rfl ?_
        refine rx_ic (v := 2) (pc2 := 185) op0_184 (by decide) rfl ?_
        refine rx_p (L2 := [some (.ref 10002), some (.ref 0), some (.ref 115), some (.int a3)]) (S2 := [.int (a3 + 2), .ref 10002, .long (((xs.getD (a3 + 1).toNatClampNeg 0).toInt64) <<< ((32 : Int32).toInt64 &&& 63)), .ref 0]) (pc2 := 186) op0_185 rfl rfl ?_
        obtain ⟨k336, h⟩ := rq_chk h
        refine rx_ix (pc2 := 187) op0_186 (by decide) k336 rfl ?_
        show rn_R _ _ _ _ _ [.int (xs.getD (a3 + 2).toNatClampNeg 0), .long (((xs.getD (a3 + 1).toNatClampNeg 0).toInt64) <<< ((32 : Int32).toInt64 &&& 63)), .ref 0] _ _ _
        refine rx_p (L2 := [some (.ref 10002), some (.ref 0), some (.ref 115), some (.int a3)]) (S2 := [.long ((xs.getD (a3 + 2).toNatClampNeg 0).toInt64), .long (((xs.getD (a3 + 1).toNatClampNeg 0).toInt64) <<< ((32 : Int32).toInt64 &&& 63)), .ref 0]) (pc2 := 188) op0_187 rfl rfl ?_
        refine rx_ld2 (v := 4294967295) (pc2 := 191) op0_188 (by decide) rfl ?_
        refine rx_p (L2 := [some (.ref 10002), some (.ref 0), some (.ref 115), some (.int a3)]) (S2 := [.long (((xs.getD (a3 + 2).toNatClampNeg 0).toInt64) &&& 4294967295), .long (((xs.getD (a3 + 1).toNatClampNeg 0).toInt64) <<< ((32 : Int32).toInt64 &&& 63)), .ref 0]) (pc2 := 192) op0_191 rfl rfl ?_
        refine rx_p (L2 := [some (.ref 10002), some (.ref 0), some (.ref 115), some (.int a3)]) (S2 := [.long ((((xs.getD (a3 + 1).toNatClampNeg 0).toInt64) <<< ((32 : Int32).toInt64 &&& 63)) ||| (((xs.getD (a3 + 2).toNatClampNeg 0).toInt64) &&& 4294967295)), .ref 0]) (pc2 := 193) op0_192 rfl rfl ?_
        refine rx_p (L2 := [some (.ref 10002), some (.ref 0), some (.ref 115), some (.int a3)]) (S2 := [.ref 10002, .long ((((xs.getD (a3 + 1).toNatClampNeg 0).toInt64) <<< ((32 : Int32).toInt64 &&& 63)) ||| (((xs.getD (a3 + 2).toNatClampNeg 0).toInt64) &&& 4294967295)), .ref 0]) (pc2 := 194) op0_193 rfl rfl ?_
        refine rx_p (L2 := [some (.ref 10002), some (.ref 0), some (.ref 115), some (.int a3)]) (S2 := [.int a3, .ref 10002, .long ((((xs.getD (a3 + 1).toNatClampNeg 0).toInt64) <<< ((32 : Int32).toInt64 &&& 63)) ||| (((xs.getD (a3 + 2).toNatClampNeg 0).toInt64) &&& 4294967295)), .ref 0]) (pc2 := 195) op0_194 rfl rfl ?_
        refine rx_ic (v := 3) (pc2 := 196) op0_195 (by decide) rfl ?_
        refine rx_p (L2 := [some (.ref 10002), some (.ref 0), some (.ref 115), some (.int a3)]) (S2 := [.int (a3 + 3), .ref 10002, .long ((((xs.getD (a3 + 1).toNatClampNeg 0).toInt64) <<< ((32 : Int32).toInt64 &&& 63)) ||| (((xs.getD (a3 + 2).toNatClampNeg 0).toInt64) &&& 4294967295)), .ref 0]) (pc2 := 197) op0_196 rfl rfl ?_
        obtain ⟨k337, h⟩ := rq_chk h
        refine rx_ix (pc2 := 198) op0_197 (by decide) k337 rfl ?_
        show rn_R _ _ _ _ _ [.int (xs.getD (a3 + 3).toNatClampNeg 0), .long ((((xs.getD (a3 + 1).toNatClampNeg 0).toInt64) <<< ((32 : Int32).toInt64 &&& 63)) ||| (((xs.getD (a3 + 2).toNatClampNeg 0).toInt64) &&& 4294967295)), .ref 0] _ _ _
        obtain ⟨⟨r339, m338⟩, f340, h⟩ := rq_bind h
        try dsimp only at h
        refine ry_iv (p := 0) (vs := [.long ((((xs.getD (a3 + 1).toNatClampNeg 0).toInt64) <<< ((32 : Int32).toInt64 &&& 63)) ||| (((xs.getD (a3 + 2).toNatClampNeg 0).toInt64) &&& 4294967295)), .int (xs.getD (a3 + 3).toNatClampNeg 0)]) (T := []) (pc2 := 201) op0_198 ms_12 (by decide) rfl rfl (Nat.le_of_ble_eq_true rfl) (Nat.le_of_ble_eq_true rfl) sp_0 (lt_type_ok xs (by omega)  f340) rfl ?_
        show rn_R _ _ _ _ _ [.int r339] _ _ _
        refine rx_p (L2 := [some (.ref 10002), some (.ref 0), some (.ref 115), some (.int a3)]) (S2 := [.ref 115, .int r339]) (pc2 := 202) op0_201 rfl rfl ?_
        refine rx_p (L2 := [some (.ref 10002), some (.ref 0), some (.ref 115), some (.int a3)]) (S2 := [.ref 10002, .ref 115, .int r339]) (pc2 := 203) op0_202 rfl rfl ?_
        refine rx_p (L2 := [some (.ref 10002), some (.ref 0), some (.ref 115), some (.int a3)]) (S2 := [.int a3, .ref 10002, .ref 115, .int r339]) (pc2 := 204) op0_203 rfl rfl ?_
        refine rx_ic (v := 1) (pc2 := 205) op0_204 (by decide) rfl ?_
        refine rx_p (L2 := [some (.ref 10002), some (.ref 0), some (.ref 115), some (.int a3)]) (S2 := [.int (a3 + 1), .ref 10002, .ref 115, .int r339]) (pc2 := 206) op0_205 rfl rfl ?_
        obtain ⟨k341, h⟩ := rq_chk h
        refine rx_ix (pc2 := 207) op0_206 (by decide) k341 rfl ?_
        show rn_R _ _ _ _ _ [.int (xs.getD (a3 + 1).toNatClampNeg 0), .ref 115, .int r339] _ _ _
        refine rx_p (L2 := [some (.ref 10002), some (.ref 0), some (.ref 115), some (.int a3)]) (S2 := [.long ((xs.getD (a3 + 1).toNatClampNeg 0).toInt64), .ref 115, .int r339]) (pc2 := 208) op0_207 rfl rfl ?_
        refine rx_bp (v := 32) (pc2 := 210) op0_208 (by decide) rfl ?_
        refine rx_p (L2 := [some (.ref 10002), some (.ref 0), some (.ref 115), some (.int a3)]) (S2 := [.long (((xs.getD (a3 + 1).toNatClampNeg 0).toInt64) <<< ((32 : Int32).toInt64 &&& 63)), .ref 115, .int r339]) (pc2 := 211) op0_210 rfl rfl ?_
        refine rx_p (L2 := [some (.ref 10002), some (.ref 0), some (.ref 115), some (.int a3)]) (S2 := [.ref 10002, .long (((xs.getD (a3 + 1).toNatClampNeg 0).toInt64) <<< ((32 : Int32).toInt64 &&& 63)), .ref 115, .int r339]) (pc2 := 212) op0_211 rfl rfl ?_
        refine rx_p (L2 := [some (.ref 10002), some (.ref 0), some (.ref 115), some (.int a3)]) (S2 := [.int a3, .ref 10002, .long (((xs.getD (a3 + 1).toNatClampNeg 0).toInt64) <<< ((32 : Int32).toInt64 &&& 63)), .ref 115, .int r339]) (pc2 := 213) op0_212 rfl rfl ?_
        refine rx_ic (v := 2) (pc2 := 214) op0_213 (by decide) rfl ?_
        refine rx_p (L2 := [some (.ref 10002), some (.ref 0), some (.ref 115), some (.int a3)]) (S2 := [.int (a3 + 2), .ref 10002, .long (((xs.getD (a3 + 1).toNatClampNeg 0).toInt64) <<< ((32 : Int32).toInt64 &&& 63)), .ref 115, .int r339]) (pc2 := 215) op0_214 rfl rfl ?_
        obtain ⟨k342, h⟩ := rq_chk h
        refine rx_ix (pc2 := 216) op0_215 (by decide) k342 rfl ?_
        show rn_R _ _ _ _ _ [.int (xs.getD (a3 + 2).toNatClampNeg 0), .long (((xs.getD (a3 + 1).toNatClampNeg 0).toInt64) <<< ((32 : Int32).toInt64 &&& 63)), .ref 115, .int r339] _ _ _
        refine rx_p (L2 := [some (.ref 10002), some (.ref 0), some (.ref 115), some (.int a3)]) (S2 := [.long ((xs.getD (a3 + 2).toNatClampNeg 0).toInt64), .long (((xs.getD (a3 + 1).toNatClampNeg 0).toInt64) <<< ((32 : Int32).toInt64 &&& 63)), .ref 115, .int r339]) (pc2 := 217) op0_216 rfl rfl ?_
        refine rx_ld2 (v := 4294967295) (pc2 := 220) op0_217 (by decide) rfl ?_
        refine rx_p (L2 := [some (.ref 10002), some (.ref 0), some (.ref 115), some (.int a3)]) (S2 := [.long (((xs.getD (a3 + 2).toNatClampNeg 0).toInt64) &&& 4294967295), .long (((xs.getD (a3 + 1).toNatClampNeg 0).toInt64) <<< ((32 : Int32).toInt64 &&& 63)), .ref 115, .int r339]) (pc2 := 221) op0_220 rfl rfl ?_
        refine rx_p (L2 := [some (.ref 10002), some (.ref 0), some (.ref 115), some (.int a3)]) (S2 := [.long ((((xs.getD (a3 + 1).toNatClampNeg 0).toInt64) <<< ((32 : Int32).toInt64 &&& 63)) ||| (((xs.getD (a3 + 2).toNatClampNeg 0).toInt64) &&& 4294967295)), .ref 115, .int r339]) (pc2 := 222) op0_221 rfl rfl ?_
        refine rx_p (L2 := [some (.ref 10002), some (.ref 0), some (.ref 115), some (.int a3)]) (S2 := [.ref 10002, .long ((((xs.getD (a3 + 1).toNatClampNeg 0).toInt64) <<< ((32 : Int32).toInt64 &&& 63)) ||| (((xs.getD (a3 + 2).toNatClampNeg 0).toInt64) &&& 4294967295)), .ref 115, .int r339]) (pc2 := 223) op0_222 rfl rfl ?_
        refine rx_p (L2 := [some (.ref 10002), some (.ref 0), some (.ref 115), some (.int a3)]) (S2 := [.int a3, .ref 10002, .long ((((xs.getD (a3 + 1).toNatClampNeg 0).toInt64) <<< ((32 : Int32).toInt64 &&& 63)) ||| (((xs.getD (a3 + 2).toNatClampNeg 0).toInt64) &&& 4294967295)), .ref 115, .int r339]) (pc2 := 224) op0_223 rfl rfl ?_
        refine rx_ic (v := 3) (pc2 := 225) op0_224 (by decide) rfl ?_
        refine rx_p (L2 := [some (.ref 10002), some (.ref 0), some (.ref 115), some (.int a3)]) (S2 := [.int (a3 + 3), .ref 10002, .long ((((xs.getD (a3 + 1).toNatClampNeg 0).toInt64) <<< ((32 : Int32).toInt64 &&& 63)) ||| (((xs.getD (a3 + 2).toNatClampNeg 0).toInt64) &&& 4294967295)), .ref 115, .int r339]) (pc2 := 226) op0_225 rfl rfl ?_
        obtain ⟨k343, h⟩ := rq_chk h
        refine rx_ix (pc2 := 227) op0_226 (by decide) k343 rfl ?_
        show rn_R _ _ _ _ _ [.int (xs.getD (a3 + 3).toNatClampNeg 0), .long ((((xs.getD (a3 + 1).toNatClampNeg 0).toInt64) <<< ((32 : Int32).toInt64 &&& 63)) ||| (((xs.getD (a3 + 2).toNatClampNeg 0).toInt64) &&& 4294967295)), .ref 115, .int r339] _ _ _
        obtain ⟨⟨r345, m344⟩, f346, h⟩ := rq_bind h
        try dsimp only at h
        refine ry_iv (p := 115) (vs := [.long ((((xs.getD (a3 + 1).toNatClampNeg 0).toInt64) <<< ((32 : Int32).toInt64 &&& 63)) ||| (((xs.getD (a3 + 2).toNatClampNeg 0).toInt64) &&& 4294967295)), .int (xs.getD (a3 + 3).toNatClampNeg 0)]) (T := [.int r339]) (pc2 := 230) op0_227 ms_146 (by decide) rfl rfl (Nat.le_of_ble_eq_true rfl) (Nat.le_of_ble_eq_true rfl) sp_115 (mo_type_ok xs (by omega)  f346) rfl ?_
        show rn_R _ _ _ _ _ [.int r345, .int r339] _ _ _
        refine ry_ic_eq (tgt := 1016) (pc2 := 233) op0_230 (by decide) (by decide) rfl (fun b347 => ?_) (fun b347 => ?_)
        · have h := (if_pos b347).symm.trans h
          obtain ⟨x348, ex348, h⟩ := rq_bv h
          refine rx_inc (w := 5) (v := x348) (L2 := [some (.ref 10002), some (.ref 0), some (.ref 115), some (.int x348)]) (pc2 := 1019) op0_1016 rfl (by decide) ex348 rfl rfl ?_
          refine ry_go (tgt := 18) op0_1019 (by decide) (by decide) ?_
          exact ih _ _ h
        · have h := (if_neg b347).symm.trans h
          refine rx_ic (v := 0) (pc2 := 234) op0_233 (by decide) rfl ?_
          cases h
          obtain ⟨rfl, rfl⟩ := hl _ _ rfl
          exact ry_rz (x := 0) op0_234 ms_0 rfl (by decide)
      have h := (if_neg b3).symm.trans h
      by_cases b4 : ((xs.getD a3.toNatClampNeg 0) &&& 31) = 1
      · have h := (if_pos b4).symm.trans h
        refine ry_ti (w := 1) (off := 203) (tgt := 235) op0_32 (by rw [b4] <;> decide) (by decide) (by decide) (by decide) (by decide) ?_
        refine rx_p (L2 := [some (.ref 10002), some (.ref 0), some (.ref 115), some (.int a3)]) (S2 := [.ref 0]) (pc2 := 236) op0_235 rfl rfl ?_
        obtain ⟨⟨r350, m349⟩, f351, h⟩ := rq_bind h
        try dsimp only at h
        refine ry_iv (p := 0) (vs := []) (T := []) (pc2 := 239) op0_236 ms_15 (by decide) rfl rfl (Nat.le_of_ble_eq_true rfl) (Nat.le_of_ble_eq_true rfl) sp_0 (lt_game_ok xs (by omega)  f351) rfl ?_
        show rn_R _ _ _ _ _ [.int r350] _ _ _
        refine rx_p (L2 := [some (.ref 10002), some (.ref 0), some (.ref 115), some (.int a3)]) (S2 := [.ref 115, .int r350]) (pc2 := 240) op0_239 rfl rfl ?_
        obtain ⟨⟨r353, m352⟩, f354, h⟩ := rq_bind h
        try dsimp only at h
        refine ry_iv (p := 115) (vs := []) (T := [.int r350]) (pc2 := 243) op0_240 ms_148 (by decide) rfl rfl (Nat.le_of_ble_eq_true rfl) (Nat.le_of_ble_eq_true rfl) sp_115 (mo_game_ok xs (by omega)  f354) rfl ?_
        show rn_R _ _ _ _ _ [.int r353, .int r350] _ _ _
        refine ry_ic_eq (tgt := 1016) (pc2 := 246) op0_243 (by decide) (by decide) rfl (fun b355 => ?_) (fun b355 => ?_)
        · have h := (if_pos b355).symm.trans h
          obtain ⟨x356, ex356, h⟩ := rq_bv h
          refine rx_inc (w := 5) (v := x356) (L2 := [some (.ref 10002), some (.ref 0), some (.ref 115), some (.int x356)]) (pc2 := 1019) op0_1016 rfl (by decide) ex356 rfl rfl ?_
          refine ry_go (tgt := 18) op0_1019 (by decide) (by decide) ?_
          exact ih _ _ h
        · have h := (if_neg b355).symm.trans h
          refine rx_ic (v := 0) (pc2 := 247) op0_246 (by decide) rfl ?_
          cases h
          obtain ⟨rfl, rfl⟩ := hl _ _ rfl
          exact ry_rz (x := 0) op0_247 ms_0 rfl (by decide)
      have h := (if_neg b4).symm.trans h
      by_cases b5 : ((xs.getD a3.toNatClampNeg 0) &&& 31) = 2
      · have h := (if_pos b5).symm.trans h
        refine ry_ti (w := 2) (off := 216) (tgt := 248) op0_32 (by rw [b5] <;> decide) (by decide) (by decide) (by decide) (by decide) ?_
        refine rx_p (L2 := [some (.ref 10002), some (.ref 0), some (.ref 115), some (.int a3)]) (S2 := [.ref 0]) (pc2 := 249) op0_248 rfl rfl ?_
        obtain ⟨⟨r358, m357⟩, f359, h⟩ := rq_bind h
        try dsimp only at h
        refine ry_iv (p := 0) (vs := []) (T := []) (pc2 := 252) op0_249 ms_34 (by decide) rfl rfl (Nat.le_of_ble_eq_true rfl) (Nat.le_of_ble_eq_true rfl) sp_0 (lt_table_ok xs (by omega)  f359) rfl ?_
        show rn_R _ _ _ _ _ [.int r358] _ _ _
        refine rx_p (L2 := [some (.ref 10002), some (.ref 0), some (.ref 115), some (.int a3)]) (S2 := [.ref 115, .int r358]) (pc2 := 253) op0_252 rfl rfl ?_
        obtain ⟨⟨r361, m360⟩, f362, h⟩ := rq_bind h
        try dsimp only at h
        refine ry_iv (p := 115) (vs := []) (T := [.int r358]) (pc2 := 256) op0_253 ms_156 (by decide) rfl rfl (Nat.le_of_ble_eq_true rfl) (Nat.le_of_ble_eq_true rfl) sp_115 (mo_table_ok xs (by omega)  f362) rfl ?_
        show rn_R _ _ _ _ _ [.int r361, .int r358] _ _ _
        refine ry_ic_eq (tgt := 1016) (pc2 := 259) op0_256 (by decide) (by decide) rfl (fun b363 => ?_) (fun b363 => ?_)
        · have h := (if_pos b363).symm.trans h
          obtain ⟨x364, ex364, h⟩ := rq_bv h
          refine rx_inc (w := 5) (v := x364) (L2 := [some (.ref 10002), some (.ref 0), some (.ref 115), some (.int x364)]) (pc2 := 1019) op0_1016 rfl (by decide) ex364 rfl rfl ?_
          refine ry_go (tgt := 18) op0_1019 (by decide) (by decide) ?_
          exact ih _ _ h
        · have h := (if_neg b363).symm.trans h
          refine rx_ic (v := 0) (pc2 := 260) op0_259 (by decide) rfl ?_
          cases h
          obtain ⟨rfl, rfl⟩ := hl _ _ rfl
          exact ry_rz (x := 0) op0_260 ms_0 rfl (by decide)
      have h := (if_neg b5).symm.trans h
      by_cases b6 : ((xs.getD a3.toNatClampNeg 0) &&& 31) = 3
      · have h := (if_pos b6).symm.trans h
        refine ry_ti (w := 3) (off := 229) (tgt := 261) op0_32 (by rw [b6] <;> decide) (by decide) (by decide) (by decide) (by decide) ?_
        refine rx_p (L2 := [some (.ref 10002), some (.ref 0), some (.ref 115), some (.int a3)]) (S2 := [.ref 0]) (pc2 := 262) op0_261 rfl rfl ?_
        refine rx_p (L2 := [some (.ref 10002), some (.ref 0), some (.ref 115), some (.int a3)]) (S2 := [.ref 10002, .ref 0]) (pc2 := 263) op0_262 rfl rfl ?_
        refine rx_p (L2 := [some (.ref 10002), some (.ref 0), some (.ref 115), some (.int a3)]) (S2 := [.int a3, .ref 10002, .ref 0]) (pc2 := 264) op0_263 rfl rfl ?_
        refine rx_ic (v := 1) (pc2 := 265) op0_264 (by decide) rfl ?_
        refine rx_p (L2 := [some (.ref 10002), some (.ref 0), some (.ref 115), some (.int a3)]) (S2 := [.int (a3 + 1), .ref 10002, .ref 0]) (pc2 := 266) op0_265 rfl rfl ?_
        obtain ⟨k365, h⟩ := rq_chk h
        refine rx_ix (pc2 := 267) op0_266 (by decide) k365 rfl ?_
        show rn_R _ _ _ _ _ [.int (xs.getD (a3 + 1).toNatClampNeg 0), .ref 0] _ _ _
        obtain ⟨⟨r367, m366⟩, f368, h⟩ := rq_bind h
        try dsimp only at h
        refine ry_iv (p := 0) (vs := [.int (xs.getD (a3 + 1).toNatClampNeg 0)]) (T := []) (pc2 := 270) op0_267 ms_42 (by decide) rfl rfl (Nat.le_of_ble_eq_true rfl) (Nat.le_of_ble_eq_true rfl) sp_0 (lt_told_ok xs (by omega)  f368) rfl ?_
        show rn_R _ _ _ _ _ [.int r367] _ _ _
        refine rx_p (L2 := [some (.ref 10002), some (.ref 0), some (.ref 115), some (.int a3)]) (S2 := [.ref 115, .int r367]) (pc2 := 271) op0_270 rfl rfl ?_
        refine rx_p (L2 := [some (.ref 10002), some (.ref 0), some (.ref 115), some (.int a3)]) (S2 := [.ref 10002, .ref 115, .int r367]) (pc2 := 272) op0_271 rfl rfl ?_
        refine rx_p (L2 := [some (.ref 10002), some (.ref 0), some (.ref 115), some (.int a3)]) (S2 := [.int a3, .ref 10002, .ref 115, .int r367]) (pc2 := 273) op0_272 rfl rfl ?_
        refine rx_ic (v := 1) (pc2 := 274) op0_273 (by decide) rfl ?_
        refine rx_p (L2 := [some (.ref 10002), some (.ref 0), some (.ref 115), some (.int a3)]) (S2 := [.int (a3 + 1), .ref 10002, .ref 115, .int r367]) (pc2 := 275) op0_274 rfl rfl ?_
        obtain ⟨k369, h⟩ := rq_chk h
        refine rx_ix (pc2 := 276) op0_275 (by decide) k369 rfl ?_
        show rn_R _ _ _ _ _ [.int (xs.getD (a3 + 1).toNatClampNeg 0), .ref 115, .int r367] _ _ _
        obtain ⟨⟨r371, m370⟩, f372, h⟩ := rq_bind h
        try dsimp only at h
        refine ry_iv (p := 115) (vs := [.int (xs.getD (a3 + 1).toNatClampNeg 0)]) (T := [.int r367]) (pc2 := 279) op0_276 ms_164 (by decide) rfl rfl (Nat.le_of_ble_eq_true rfl) (Nat.le_of_ble_eq_true rfl) sp_115 (mo_told_ok xs (by omega)  f372) rfl ?_
        show rn_R _ _ _ _ _ [.int r371, .int r367] _ _ _
        refine ry_ic_eq (tgt := 1016) (pc2 := 282) op0_279 (by decide) (by decide) rfl (fun b373 => ?_) (fun b373 => ?_)
        · have h := (if_pos b373).symm.trans h
          obtain ⟨x374, ex374, h⟩ := rq_bv h
          refine rx_inc (w := 5) (v := x374) (L2 := [some (.ref 10002), some (.ref 0), some (.ref 115), some (.int x374)]) (pc2 := 1019) op0_1016 rfl (by decide) ex374 rfl rfl ?_
          refine ry_go (tgt := 18) op0_1019 (by decide) (by decide) ?_
          exact ih _ _ h
        · have h := (if_neg b373).symm.trans h
          refine rx_ic (v := 0) (pc2 := 283) op0_282 (by decide) rfl ?_
          cases h
          obtain ⟨rfl, rfl⟩ := hl _ _ rfl
          exact ry_rz (x := 0) op0_283 ms_0 rfl (by decide)
      have h := (if_neg b6).symm.trans h
      by_cases b7 : ((xs.getD a3.toNatClampNeg 0) &&& 31) = 4
      · have h := (if_pos b7).symm.trans h
        refine ry_ti (w := 4) (off := 252) (tgt := 284) op0_32 (by rw [b7] <;> decide) (by decide) (by decide) (by decide) (by decide) ?_
        refine rx_p (L2 := [some (.ref 10002), some (.ref 0), some (.ref 115), some (.int a3)]) (S2 := [.ref 0]) (pc2 := 285) op0_284 rfl rfl ?_
        refine rx_p (L2 := [some (.ref 10002), some (.ref 0), some (.ref 115), some (.int a3)]) (S2 := [.ref 10002, .ref 0]) (pc2 := 286) op0_285 rfl rfl ?_
        refine rx_p (L2 := [some (.ref 10002), some (.ref 0), some (.ref 115), some (.int a3)]) (S2 := [.int a3, .ref 10002, .ref 0]) (pc2 := 287) op0_286 rfl rfl ?_
        refine rx_ic (v := 1) (pc2 := 288) op0_287 (by decide) rfl ?_
        refine rx_p (L2 := [some (.ref 10002), some (.ref 0), some (.ref 115), some (.int a3)]) (S2 := [.int (a3 + 1), .ref 10002, .ref 0]) (pc2 := 289) op0_288 rfl rfl ?_
        obtain ⟨k375, h⟩ := rq_chk h
        refine rx_ix (pc2 := 290) op0_289 (by decide) k375 rfl ?_
        show rn_R _ _ _ _ _ [.int (xs.getD (a3 + 1).toNatClampNeg 0), .ref 0] _ _ _
        refine rx_p (L2 := [some (.ref 10002), some (.ref 0), some (.ref 115), some (.int a3)]) (S2 := [.ref 10002, .int (xs.getD (a3 + 1).toNatClampNeg 0), .ref 0]) (pc2 := 291) op0_290 rfl rfl ?_
        refine rx_p (L2 := [some (.ref 10002), some (.ref 0), some (.ref 115), some (.int a3)]) (S2 := [.int a3, .ref 10002, .int (xs.getD (a3 + 1).toNatClampNeg 0), .ref 0]) (pc2 := 292) op0_291 rfl rfl ?_
        refine rx_ic (v := 2) (pc2 := 293) op0_292 (by decide) rfl ?_
        refine rx_p (L2 := [some (.ref 10002), some (.ref 0), some (.ref 115), some (.int a3)]) (S2 := [.int (a3 + 2), .ref 10002, .int (xs.getD (a3 + 1).toNatClampNeg 0), .ref 0]) (pc2 := 294) op0_293 rfl rfl ?_
        obtain ⟨k376, h⟩ := rq_chk h
        refine rx_ix (pc2 := 295) op0_294 (by decide) k376 rfl ?_
        show rn_R _ _ _ _ _ [.int (xs.getD (a3 + 2).toNatClampNeg 0), .int (xs.getD (a3 + 1).toNatClampNeg 0), .ref 0] _ _ _
        obtain ⟨⟨r378, m377⟩, f379, h⟩ := rq_bind h
        try dsimp only at h
        refine ry_iv (p := 0) (vs := [.int (xs.getD (a3 + 1).toNatClampNeg 0), .int (xs.getD (a3 + 2).toNatClampNeg 0)]) (T := []) (pc2 := 298) op0_295 ms_44 (by decide) rfl rfl (Nat.le_of_ble_eq_true rfl) (Nat.le_of_ble_eq_true rfl) sp_0 (lt_set_ok xs (by omega)  f379) rfl ?_
        show rn_R _ _ _ _ _ [.int r378] _ _ _
        refine rx_p (L2 := [some (.ref 10002), some (.ref 0), some (.ref 115), some (.int a3)]) (S2 := [.ref 115, .int r378]) (pc2 := 299) op0_298 rfl rfl ?_
        refine rx_p (L2 := [some (.ref 10002), some (.ref 0), some (.ref 115), some (.int a3)]) (S2 := [.ref 10002, .ref 115, .int r378]) (pc2 := 300) op0_299 rfl rfl ?_
        refine rx_p (L2 := [some (.ref 10002), some (.ref 0), some (.ref 115), some (.int a3)]) (S2 := [.int a3, .ref 10002, .ref 115, .int r378]) (pc2 := 301) op0_300 rfl rfl ?_
        refine rx_ic (v := 1) (pc2 := 302) op0_301 (by decide) rfl ?_
        refine rx_p (L2 := [some (.ref 10002), some (.ref 0), some (.ref 115), some (.int a3)]) (S2 := [.int (a3 + 1), .ref 10002, .ref 115, .int r378]) (pc2 := 303) op0_302 rfl rfl ?_
        obtain ⟨k380, h⟩ := rq_chk h
        refine rx_ix (pc2 := 304) op0_303 (by decide) k380 rfl ?_
        show rn_R _ _ _ _ _ [.int (xs.getD (a3 + 1).toNatClampNeg 0), .ref 115, .int r378] _ _ _
        refine rx_p (L2 := [some (.ref 10002), some (.ref 0), some (.ref 115), some (.int a3)]) (S2 := [.ref 10002, .int (xs.getD (a3 + 1).toNatClampNeg 0), .ref 115, .int r378]) (pc2 := 305) op0_304 rfl rfl ?_
        refine rx_p (L2 := [some (.ref 10002), some (.ref 0), some (.ref 115), some (.int a3)]) (S2 := [.int a3, .ref 10002, .int (xs.getD (a3 + 1).toNatClampNeg 0), .ref 115, .int r378]) (pc2 := 306) op0_305 rfl rfl ?_
        refine rx_ic (v := 2) (pc2 := 307) op0_306 (by decide) rfl ?_
        refine rx_p (L2 := [some (.ref 10002), some (.ref 0), some (.ref 115), some (.int a3)]) (S2 := [.int (a3 + 2), .ref 10002, .int (xs.getD (a3 + 1).toNatClampNeg 0), .ref 115, .int r378]) (pc2 := 308) op0_307 rfl rfl ?_
        obtain ⟨k381, h⟩ := rq_chk h
        refine rx_ix (pc2 := 309) op0_308 (by decide) k381 rfl ?_
        show rn_R _ _ _ _ _ [.int (xs.getD (a3 + 2).toNatClampNeg 0), .int (xs.getD (a3 + 1).toNatClampNeg 0), .ref 115, .int r378] _ _ _
        obtain ⟨⟨r383, m382⟩, f384, h⟩ := rq_bind h
        try dsimp only at h
        refine ry_iv (p := 115) (vs := [.int (xs.getD (a3 + 1).toNatClampNeg 0), .int (xs.getD (a3 + 2).toNatClampNeg 0)]) (T := [.int r378]) (pc2 := 312) op0_309 ms_165 (by decide) rfl rfl (Nat.le_of_ble_eq_true rfl) (Nat.le_of_ble_eq_true rfl) sp_115 (mo_set_ok xs (by omega)  f384) rfl ?_
        show rn_R _ _ _ _ _ [.int r383, .int r378] _ _ _
        refine ry_ic_eq (tgt := 1016) (pc2 := 315) op0_312 (by decide) (by decide) rfl (fun b385 => ?_) (fun b385 => ?_)
        · have h := (if_pos b385).symm.trans h
          obtain ⟨x386, ex386, h⟩ := rq_bv h
          refine rx_inc (w := 5) (v := x386) (L2 := [some (.ref 10002), some (.ref 0), some (.ref 115), some (.int x386)]) (pc2 := 1019) op0_1016 rfl (by decide) ex386 rfl rfl ?_
          refine ry_go (tgt := 18) op0_1019 (by decide) (by decide) ?_
          exact ih _ _ h
        · have h := (if_neg b385).symm.trans h
          refine rx_ic (v := 0) (pc2 := 316) op0_315 (by decide) rfl ?_
          cases h
          obtain ⟨rfl, rfl⟩ := hl _ _ rfl
          exact ry_rz (x := 0) op0_316 ms_0 rfl (by decide)
      have h := (if_neg b7).symm.trans h
      by_cases b8 : ((xs.getD a3.toNatClampNeg 0) &&& 31) = 5
      · have h := (if_pos b8).symm.trans h
        refine ry_ti (w := 5) (off := 285) (tgt := 317) op0_32 (by rw [b8] <;> decide) (by decide) (by decide) (by decide) (by decide) ?_
        refine rx_p (L2 := [some (.ref 10002), some (.ref 0), some (.ref 115), some (.int a3)]) (S2 := [.ref 0]) (pc2 := 318) op0_317 rfl rfl ?_
        refine rx_p (L2 := [some (.ref 10002), some (.ref 0), some (.ref 115), some (.int a3)]) (S2 := [.ref 10002, .ref 0]) (pc2 := 319) op0_318 rfl rfl ?_
        refine rx_p (L2 := [some (.ref 10002), some (.ref 0), some (.ref 115), some (.int a3)]) (S2 := [.int a3, .ref 10002, .ref 0]) (pc2 := 320) op0_319 rfl rfl ?_
        refine rx_ic (v := 1) (pc2 := 321) op0_320 (by decide) rfl ?_
        refine rx_p (L2 := [some (.ref 10002), some (.ref 0), some (.ref 115), some (.int a3)]) (S2 := [.int (a3 + 1), .ref 10002, .ref 0]) (pc2 := 322) op0_321 rfl rfl ?_
        obtain ⟨k387, h⟩ := rq_chk h
        refine rx_ix (pc2 := 323) op0_322 (by decide) k387 rfl ?_
        show rn_R _ _ _ _ _ [.int (xs.getD (a3 + 1).toNatClampNeg 0), .ref 0] _ _ _
        refine rx_p (L2 := [some (.ref 10002), some (.ref 0), some (.ref 115), some (.int a3)]) (S2 := [.ref 10002, .int (xs.getD (a3 + 1).toNatClampNeg 0), .ref 0]) (pc2 := 324) op0_323 rfl rfl ?_
        refine rx_p (L2 := [some (.ref 10002), some (.ref 0), some (.ref 115), some (.int a3)]) (S2 := [.int a3, .ref 10002, .int (xs.getD (a3 + 1).toNatClampNeg 0), .ref 0]) (pc2 := 325) op0_324 rfl rfl ?_
        refine rx_ic (v := 2) (pc2 := 326) op0_325 (by decide) rfl ?_
        refine rx_p (L2 := [some (.ref 10002), some (.ref 0), some (.ref 115), some (.int a3)]) (S2 := [.int (a3 + 2), .ref 10002, .int (xs.getD (a3 + 1).toNatClampNeg 0), .ref 0]) (pc2 := 327) op0_326 rfl rfl ?_
        obtain ⟨k388, h⟩ := rq_chk h
        refine rx_ix (pc2 := 328) op0_327 (by decide) k388 rfl ?_
        show rn_R _ _ _ _ _ [.int (xs.getD (a3 + 2).toNatClampNeg 0), .int (xs.getD (a3 + 1).toNatClampNeg 0), .ref 0] _ _ _
        obtain ⟨⟨r390, m389⟩, f391, h⟩ := rq_bind h
        try dsimp only at h
        refine ry_iv (p := 0) (vs := [.int (xs.getD (a3 + 1).toNatClampNeg 0), .int (xs.getD (a3 + 2).toNatClampNeg 0)]) (T := []) (pc2 := 331) op0_328 ms_47 (by decide) rfl rfl (Nat.le_of_ble_eq_true rfl) (Nat.le_of_ble_eq_true rfl) sp_0 (lt_heap_ok xs (by omega)  f391) rfl ?_
        show rn_R _ _ _ _ _ [.int r390] _ _ _
        refine rx_p (L2 := [some (.ref 10002), some (.ref 0), some (.ref 115), some (.int a3)]) (S2 := [.ref 115, .int r390]) (pc2 := 332) op0_331 rfl rfl ?_
        refine rx_p (L2 := [some (.ref 10002), some (.ref 0), some (.ref 115), some (.int a3)]) (S2 := [.ref 10002, .ref 115, .int r390]) (pc2 := 333) op0_332 rfl rfl ?_
        refine rx_p (L2 := [some (.ref 10002), some (.ref 0), some (.ref 115), some (.int a3)]) (S2 := [.int a3, .ref 10002, .ref 115, .int r390]) (pc2 := 334) op0_333 rfl rfl ?_
        refine rx_ic (v := 1) (pc2 := 335) op0_334 (by decide) rfl ?_
        refine rx_p (L2 := [some (.ref 10002), some (.ref 0), some (.ref 115), some (.int a3)]) (S2 := [.int (a3 + 1), .ref 10002, .ref 115, .int r390]) (pc2 := 336) op0_335 rfl rfl ?_
        obtain ⟨k392, h⟩ := rq_chk h
        refine rx_ix (pc2 := 337) op0_336 (by decide) k392 rfl ?_
        show rn_R _ _ _ _ _ [.int (xs.getD (a3 + 1).toNatClampNeg 0), .ref 115, .int r390] _ _ _
        refine rx_p (L2 := [some (.ref 10002), some (.ref 0), some (.ref 115), some (.int a3)]) (S2 := [.ref 10002, .int (xs.getD (a3 + 1).toNatClampNeg 0), .ref 115, .int r390]) (pc2 := 338) op0_337 rfl rfl ?_
        refine rx_p (L2 := [some (.ref 10002), some (.ref 0), some (.ref 115), some (.int a3)]) (S2 := [.int a3, .ref 10002, .int (xs.getD (a3 + 1).toNatClampNeg 0), .ref 115, .int r390]) (pc2 := 339) op0_338 rfl rfl ?_
        refine rx_ic (v := 2) (pc2 := 340) op0_339 (by decide) rfl ?_
        refine rx_p (L2 := [some (.ref 10002), some (.ref 0), some (.ref 115), some (.int a3)]) (S2 := [.int (a3 + 2), .ref 10002, .int (xs.getD (a3 + 1).toNatClampNeg 0), .ref 115, .int r390]) (pc2 := 341) op0_340 rfl rfl ?_
        obtain ⟨k393, h⟩ := rq_chk h
        refine rx_ix (pc2 := 342) op0_341 (by decide) k393 rfl ?_
        show rn_R _ _ _ _ _ [.int (xs.getD (a3 + 2).toNatClampNeg 0), .int (xs.getD (a3 + 1).toNatClampNeg 0), .ref 115, .int r390] _ _ _
        obtain ⟨⟨r395, m394⟩, f396, h⟩ := rq_bind h
        try dsimp only at h
        refine ry_iv (p := 115) (vs := [.int (xs.getD (a3 + 1).toNatClampNeg 0), .int (xs.getD (a3 + 2).toNatClampNeg 0)]) (T := [.int r390]) (pc2 := 345) op0_342 ms_166 (by decide) rfl rfl (Nat.le_of_ble_eq_true rfl) (Nat.le_of_ble_eq_true rfl) sp_115 (mo_heap_ok xs (by omega)  f396) rfl ?_
        show rn_R _ _ _ _ _ [.int r395, .int r390] _ _ _
        refine ry_ic_eq (tgt := 1016) (pc2 := 348) op0_345 (by decide) (by decide) rfl (fun b397 => ?_) (fun b397 => ?_)
        · have h := (if_pos b397).symm.trans h
          obtain ⟨x398, ex398, h⟩ := rq_bv h
          refine rx_inc (w := 5) (v := x398) (L2 := [some (.ref 10002), some (.ref 0), some (.ref 115), some (.int x398)]) (pc2 := 1019) op0_1016 rfl (by decide) ex398 rfl rfl ?_
          refine ry_go (tgt := 18) op0_1019 (by decide) (by decide) ?_
          exact ih _ _ h
        · have h := (if_neg b397).symm.trans h
          refine rx_ic (v := 0) (pc2 := 349) op0_348 (by decide) rfl ?_
          cases h
          obtain ⟨rfl, rfl⟩ := hl _ _ rfl
          exact ry_rz (x := 0) op0_349 ms_0 rfl (by decide)
      have h := (if_neg b8).symm.trans h
      by_cases b9 : ((xs.getD a3.toNatClampNeg 0) &&& 31) = 6
      · have h := (if_pos b9).symm.trans h
        refine ry_ti (w := 6) (off := 318) (tgt := 350) op0_32 (by rw [b9] <;> decide) (by decide) (by decide) (by decide) (by decide) ?_
        refine rx_p (L2 := [some (.ref 10002), some (.ref 0), some (.ref 115), some (.int a3)]) (S2 := [.ref 0]) (pc2 := 351) op0_350 rfl rfl ?_
        refine rx_p (L2 := [some (.ref 10002), some (.ref 0), some (.ref 115), some (.int a3)]) (S2 := [.ref 10002, .ref 0]) (pc2 := 352) op0_351 rfl rfl ?_
        refine rx_p (L2 := [some (.ref 10002), some (.ref 0), some (.ref 115), some (.int a3)]) (S2 := [.int a3, .ref 10002, .ref 0]) (pc2 := 353) op0_352 rfl rfl ?_
        refine rx_ic (v := 1) (pc2 := 354) op0_353 (by decide) rfl ?_
        refine rx_p (L2 := [some (.ref 10002), some (.ref 0), some (.ref 115), some (.int a3)]) (S2 := [.int (a3 + 1), .ref 10002, .ref 0]) (pc2 := 355) op0_354 rfl rfl ?_
        obtain ⟨k399, h⟩ := rq_chk h
        refine rx_ix (pc2 := 356) op0_355 (by decide) k399 rfl ?_
        show rn_R _ _ _ _ _ [.int (xs.getD (a3 + 1).toNatClampNeg 0), .ref 0] _ _ _
        refine rx_p (L2 := [some (.ref 10002), some (.ref 0), some (.ref 115), some (.int a3)]) (S2 := [.ref 10002, .int (xs.getD (a3 + 1).toNatClampNeg 0), .ref 0]) (pc2 := 357) op0_356 rfl rfl ?_
        refine rx_p (L2 := [some (.ref 10002), some (.ref 0), some (.ref 115), some (.int a3)]) (S2 := [.int a3, .ref 10002, .int (xs.getD (a3 + 1).toNatClampNeg 0), .ref 0]) (pc2 := 358) op0_357 rfl rfl ?_
        refine rx_ic (v := 2) (pc2 := 359) op0_358 (by decide) rfl ?_
        refine rx_p (L2 := [some (.ref 10002), some (.ref 0), some (.ref 115), some (.int a3)]) (S2 := [.int (a3 + 2), .ref 10002, .int (xs.getD (a3 + 1).toNatClampNeg 0), .ref 0]) (pc2 := 360) op0_359 rfl rfl ?_
        obtain ⟨k400, h⟩ := rq_chk h
        refine rx_ix (pc2 := 361) op0_360 (by decide) k400 rfl ?_
        show rn_R _ _ _ _ _ [.int (xs.getD (a3 + 2).toNatClampNeg 0), .int (xs.getD (a3 + 1).toNatClampNeg 0), .ref 0] _ _ _
        obtain ⟨⟨r402, m401⟩, f403, h⟩ := rq_bind h
        try dsimp only at h
        refine ry_iv (p := 0) (vs := [.int (xs.getD (a3 + 1).toNatClampNeg 0), .int (xs.getD (a3 + 2).toNatClampNeg 0)]) (T := []) (pc2 := 364) op0_361 ms_49 (by decide) rfl rfl (Nat.le_of_ble_eq_true rfl) (Nat.le_of_ble_eq_true rfl) sp_0 (lt_wins_ok xs (by omega)  f403) rfl ?_
        show rn_R _ _ _ _ _ [.int r402] _ _ _
        refine rx_p (L2 := [some (.ref 10002), some (.ref 0), some (.ref 115), some (.int a3)]) (S2 := [.ref 115, .int r402]) (pc2 := 365) op0_364 rfl rfl ?_
        refine rx_p (L2 := [some (.ref 10002), some (.ref 0), some (.ref 115), some (.int a3)]) (S2 := [.ref 10002, .ref 115, .int r402]) (pc2 := 366) op0_365 rfl rfl ?_
        refine rx_p (L2 := [some (.ref 10002), some (.ref 0), some (.ref 115), some (.int a3)]) (S2 := [.int a3, .ref 10002, .ref 115, .int r402]) (pc2 := 367) op0_366 rfl rfl ?_
        refine rx_ic (v := 1) (pc2 := 368) op0_367 (by decide) rfl ?_
        refine rx_p (L2 := [some (.ref 10002), some (.ref 0), some (.ref 115), some (.int a3)]) (S2 := [.int (a3 + 1), .ref 10002, .ref 115, .int r402]) (pc2 := 369) op0_368 rfl rfl ?_
        obtain ⟨k404, h⟩ := rq_chk h
        refine rx_ix (pc2 := 370) op0_369 (by decide) k404 rfl ?_
        show rn_R _ _ _ _ _ [.int (xs.getD (a3 + 1).toNatClampNeg 0), .ref 115, .int r402] _ _ _
        refine rx_p (L2 := [some (.ref 10002), some (.ref 0), some (.ref 115), some (.int a3)]) (S2 := [.ref 10002, .int (xs.getD (a3 + 1).toNatClampNeg 0), .ref 115, .int r402]) (pc2 := 371) op0_370 rfl rfl ?_
        refine rx_p (L2 := [some (.ref 10002), some (.ref 0), some (.ref 115), some (.int a3)]) (S2 := [.int a3, .ref 10002, .int (xs.getD (a3 + 1).toNatClampNeg 0), .ref 115, .int r402]) (pc2 := 372) op0_371 rfl rfl ?_
        refine rx_ic (v := 2) (pc2 := 373) op0_372 (by decide) rfl ?_
        refine rx_p (L2 := [some (.ref 10002), some (.ref 0), some (.ref 115), some (.int a3)]) (S2 := [.int (a3 + 2), .ref 10002, .int (xs.getD (a3 + 1).toNatClampNeg 0), .ref 115, .int r402]) (pc2 := 374) op0_373 rfl rfl ?_
        obtain ⟨k405, h⟩ := rq_chk h
        refine rx_ix (pc2 := 375) op0_374 (by decide) k405 rfl ?_
        show rn_R _ _ _ _ _ [.int (xs.getD (a3 + 2).toNatClampNeg 0), .int (xs.getD (a3 + 1).toNatClampNeg 0), .ref 115, .int r402] _ _ _
        obtain ⟨⟨r407, m406⟩, f408, h⟩ := rq_bind h
        try dsimp only at h
        refine ry_iv (p := 115) (vs := [.int (xs.getD (a3 + 1).toNatClampNeg 0), .int (xs.getD (a3 + 2).toNatClampNeg 0)]) (T := [.int r402]) (pc2 := 378) op0_375 ms_168 (by decide) rfl rfl (Nat.le_of_ble_eq_true rfl) (Nat.le_of_ble_eq_true rfl) sp_115 (mo_wins_ok xs (by omega)  f408) rfl ?_
        show rn_R _ _ _ _ _ [.int r407, .int r402] _ _ _
        refine ry_ic_eq (tgt := 1016) (pc2 := 381) op0_378 (by decide) (by decide) rfl (fun b409 => ?_) (fun b409 => ?_)
        · have h := (if_pos b409).symm.trans h
          obtain ⟨x410, ex410, h⟩ := rq_bv h
          refine rx_inc (w := 5) (v := x410) (L2 := [some (.ref 10002), some (.ref 0), some (.ref 115), some (.int x410)]) (pc2 := 1019) op0_1016 rfl (by decide) ex410 rfl rfl ?_
          refine ry_go (tgt := 18) op0_1019 (by decide) (by decide) ?_
          exact ih _ _ h
        · have h := (if_neg b409).symm.trans h
          refine rx_ic (v := 0) (pc2 := 382) op0_381 (by decide) rfl ?_
          cases h
          obtain ⟨rfl, rfl⟩ := hl _ _ rfl
          exact ry_rz (x := 0) op0_382 ms_0 rfl (by decide)
      have h := (if_neg b9).symm.trans h
      by_cases b10 : ((xs.getD a3.toNatClampNeg 0) &&& 31) = 7
      · have h := (if_pos b10).symm.trans h
        refine ry_ti (w := 7) (off := 351) (tgt := 383) op0_32 (by rw [b10] <;> decide) (by decide) (by decide) (by decide) (by decide) ?_
        refine rx_p (L2 := [some (.ref 10002), some (.ref 0), some (.ref 115), some (.int a3)]) (S2 := [.ref 0]) (pc2 := 384) op0_383 rfl rfl ?_
        refine rx_p (L2 := [some (.ref 10002), some (.ref 0), some (.ref 115), some (.int a3)]) (S2 := [.ref 10002, .ref 0]) (pc2 := 385) op0_384 rfl rfl ?_
        refine rx_p (L2 := [some (.ref 10002), some (.ref 0), some (.ref 115), some (.int a3)]) (S2 := [.int a3, .ref 10002, .ref 0]) (pc2 := 386) op0_385 rfl rfl ?_
        refine rx_ic (v := 1) (pc2 := 387) op0_386 (by decide) rfl ?_
        refine rx_p (L2 := [some (.ref 10002), some (.ref 0), some (.ref 115), some (.int a3)]) (S2 := [.int (a3 + 1), .ref 10002, .ref 0]) (pc2 := 388) op0_387 rfl rfl ?_
        obtain ⟨k411, h⟩ := rq_chk h
        refine rx_ix (pc2 := 389) op0_388 (by decide) k411 rfl ?_
        show rn_R _ _ _ _ _ [.int (xs.getD (a3 + 1).toNatClampNeg 0), .ref 0] _ _ _
        refine rx_p (L2 := [some (.ref 10002), some (.ref 0), some (.ref 115), some (.int a3)]) (S2 := [.ref 10002, .int (xs.getD (a3 + 1).toNatClampNeg 0), .ref 0]) (pc2 := 390) op0_389 rfl rfl ?_
        refine rx_p (L2 := [some (.ref 10002), some (.ref 0), some (.ref 115), some (.int a3)]) (S2 := [.int a3, .ref 10002, .int (xs.getD (a3 + 1).toNatClampNeg 0), .ref 0]) (pc2 := 391) op0_390 rfl rfl ?_
        refine rx_ic (v := 2) (pc2 := 392) op0_391 (by decide) rfl ?_
        refine rx_p (L2 := [some (.ref 10002), some (.ref 0), some (.ref 115), some (.int a3)]) (S2 := [.int (a3 + 2), .ref 10002, .int (xs.getD (a3 + 1).toNatClampNeg 0), .ref 0]) (pc2 := 393) op0_392 rfl rfl ?_
        obtain ⟨k412, h⟩ := rq_chk h
        refine rx_ix (pc2 := 394) op0_393 (by decide) k412 rfl ?_
        show rn_R _ _ _ _ _ [.int (xs.getD (a3 + 2).toNatClampNeg 0), .int (xs.getD (a3 + 1).toNatClampNeg 0), .ref 0] _ _ _
        refine rx_p (L2 := [some (.ref 10002), some (.ref 0), some (.ref 115), some (.int a3)]) (S2 := [.ref 10002, .int (xs.getD (a3 + 2).toNatClampNeg 0), .int (xs.getD (a3 + 1).toNatClampNeg 0), .ref 0]) (pc2 := 395) op0_394 rfl rfl ?_
        refine rx_p (L2 := [some (.ref 10002), some (.ref 0), some (.ref 115), some (.int a3)]) (S2 := [.int a3, .ref 10002, .int (xs.getD (a3 + 2).toNatClampNeg 0), .int (xs.getD (a3 + 1).toNatClampNeg 0), .ref 0]) (pc2 := 396) op0_395 rfl rfl ?_
        refine rx_ic (v := 3) (pc2 := 397) op0_396 (by decide) rfl ?_
        refine rx_p (L2 := [some (.ref 10002), some (.ref 0), some (.ref 115), some (.int a3)]) (S2 := [.int (a3 + 3), .ref 10002, .int (xs.getD (a3 + 2).toNatClampNeg 0), .int (xs.getD (a3 + 1).toNatClampNeg 0), .ref 0]) (pc2 := 398) op0_397 rfl rfl ?_
        obtain ⟨k413, h⟩ := rq_chk h
        refine rx_ix (pc2 := 399) op0_398 (by decide) k413 rfl ?_
        show rn_R _ _ _ _ _ [.int (xs.getD (a3 + 3).toNatClampNeg 0), .int (xs.getD (a3 + 2).toNatClampNeg 0), .int (xs.getD (a3 + 1).toNatClampNeg 0), .ref 0] _ _ _
        refine rx_p (L2 := [some (.ref 10002), some (.ref 0), some (.ref 115), some (.int a3)]) (S2 := [.ref 10002, .int (xs.getD (a3 + 3).toNatClampNeg 0), .int (xs.getD (a3 + 2).toNatClampNeg 0), .int (xs.getD (a3 + 1).toNatClampNeg 0), .ref 0]) (pc2 := 400) op0_399 rfl rfl ?_
        refine rx_p (L2 := [some (.ref 10002), some (.ref 0), some (.ref 115), some (.int a3)]) (S2 := [.int a3, .ref 10002, .int (xs.getD (a3 + 3).toNatClampNeg 0), .int (xs.getD (a3 + 2).toNatClampNeg 0), .int (xs.getD (a3 + 1).toNatClampNeg 0), .ref 0]) (pc2 := 401) op0_400 rfl rfl ?_
        refine rx_ic (v := 4) (pc2 := 402) op0_401 (by decide) rfl ?_
        refine rx_p (L2 := [some (.ref 10002), some (.ref 0), some (.ref 115), some (.int a3)]) (S2 := [.int (a3 + 4), .ref 10002, .int (xs.getD (a3 + 3).toNatClampNeg 0), .int (xs.getD (a3 + 2).toNatClampNeg 0), .int (xs.getD (a3 + 1).toNatClampNeg 0), .ref 0]) (pc2 := 403) op0_402 rfl rfl ?_
        obtain ⟨k414, h⟩ := rq_chk h
        refine rx_ix (pc2 := 404) op0_403 (by decide) k414 rfl ?_
        show rn_R _ _ _ _ _ [.int (xs.getD (a3 + 4).toNatClampNeg 0), .int (xs.getD (a3 + 3).toNatClampNeg 0), .int (xs.getD (a3 + 2).toNatClampNeg 0), .int (xs.getD (a3 + 1).toNatClampNeg 0), .ref 0] _ _ _
        obtain ⟨⟨r416, m415⟩, f417, h⟩ := rq_bind h
        try dsimp only at h
        refine ry_iv (p := 0) (vs := [.int (xs.getD (a3 + 1).toNatClampNeg 0), .int (xs.getD (a3 + 2).toNatClampNeg 0), .int (xs.getD (a3 + 3).toNatClampNeg 0), .int (xs.getD (a3 + 4).toNatClampNeg 0)]) (T := []) (pc2 := 407) op0_404 ms_54 (by decide) rfl rfl (Nat.le_of_ble_eq_true rfl) (Nat.le_of_ble_eq_true rfl) sp_0 (lt_clue_ok xs (by omega)  f417) rfl ?_
        show rn_R _ _ _ _ _ [.int r416] _ _ _
        refine rx_p (L2 := [some (.ref 10002), some (.ref 0), some (.ref 115), some (.int a3)]) (S2 := [.ref 115, .int r416]) (pc2 := 408) op0_407 rfl rfl ?_
        refine rx_p (L2 := [some (.ref 10002), some (.ref 0), some (.ref 115), some (.int a3)]) (S2 := [.ref 10002, .ref 115, .int r416]) (pc2 := 409) op0_408 rfl rfl ?_
        refine rx_p (L2 := [some (.ref 10002), some (.ref 0), some (.ref 115), some (.int a3)]) (S2 := [.int a3, .ref 10002, .ref 115, .int r416]) (pc2 := 410) op0_409 rfl rfl ?_
        refine rx_ic (v := 1) (pc2 := 411) op0_410 (by decide) rfl ?_
        refine rx_p (L2 := [some (.ref 10002), some (.ref 0), some (.ref 115), some (.int a3)]) (S2 := [.int (a3 + 1), .ref 10002, .ref 115, .int r416]) (pc2 := 412) op0_411 rfl rfl ?_
        obtain ⟨k418, h⟩ := rq_chk h
        refine rx_ix (pc2 := 413) op0_412 (by decide) k418 rfl ?_
        show rn_R _ _ _ _ _ [.int (xs.getD (a3 + 1).toNatClampNeg 0), .ref 115, .int r416] _ _ _
        refine rx_p (L2 := [some (.ref 10002), some (.ref 0), some (.ref 115), some (.int a3)]) (S2 := [.ref 10002, .int (xs.getD (a3 + 1).toNatClampNeg 0), .ref 115, .int r416]) (pc2 := 414) op0_413 rfl rfl ?_
        refine rx_p (L2 := [some (.ref 10002), some (.ref 0), some (.ref 115), some (.int a3)]) (S2 := [.int a3, .ref 10002, .int (xs.getD (a3 + 1).toNatClampNeg 0), .ref 115, .int r416]) (pc2 := 415) op0_414 rfl rfl ?_
        refine rx_ic (v := 2) (pc2 := 416) op0_415 (by decide) rfl ?_
        refine rx_p (L2 := [some (.ref 10002), some (.ref 0), some (.ref 115), some (.int a3)]) (S2 := [.int (a3 + 2), .ref 10002, .int (xs.getD (a3 + 1).toNatClampNeg 0), .ref 115, .int r416]) (pc2 := 417) op0_416 rfl rfl ?_
        obtain ⟨k419, h⟩ := rq_chk h
        refine rx_ix (pc2 := 418) op0_417 (by decide) k419 rfl ?_
        show rn_R _ _ _ _ _ [.int (xs.getD (a3 + 2).toNatClampNeg 0), .int (xs.getD (a3 + 1).toNatClampNeg 0), .ref 115, .int r416] _ _ _
        refine rx_p (L2 := [some (.ref 10002), some (.ref 0), some (.ref 115), some (.int a3)]) (S2 := [.ref 10002, .int (xs.getD (a3 + 2).toNatClampNeg 0), .int (xs.getD (a3 + 1).toNatClampNeg 0), .ref 115, .int r416]) (pc2 := 419) op0_418 rfl rfl ?_
        refine rx_p (L2 := [some (.ref 10002), some (.ref 0), some (.ref 115), some (.int a3)]) (S2 := [.int a3, .ref 10002, .int (xs.getD (a3 + 2).toNatClampNeg 0), .int (xs.getD (a3 + 1).toNatClampNeg 0), .ref 115, .int r416]) (pc2 := 420) op0_419 rfl rfl ?_
        refine rx_ic (v := 3) (pc2 := 421) op0_420 (by decide) rfl ?_
        refine rx_p (L2 := [some (.ref 10002), some (.ref 0), some (.ref 115), some (.int a3)]) (S2 := [.int (a3 + 3), .ref 10002, .int (xs.getD (a3 + 2).toNatClampNeg 0), .int (xs.getD (a3 + 1).toNatClampNeg 0), .ref 115, .int r416]) (pc2 := 422) op0_421 rfl rfl ?_
        obtain ⟨k420, h⟩ := rq_chk h
        refine rx_ix (pc2 := 423) op0_422 (by decide) k420 rfl ?_
        show rn_R _ _ _ _ _ [.int (xs.getD (a3 + 3).toNatClampNeg 0), .int (xs.getD (a3 + 2).toNatClampNeg 0), .int (xs.getD (a3 + 1).toNatClampNeg 0), .ref 115, .int r416] _ _ _
        refine rx_p (L2 := [some (.ref 10002), some (.ref 0), some (.ref 115), some (.int a3)]) (S2 := [.ref 10002, .int (xs.getD (a3 + 3).toNatClampNeg 0), .int (xs.getD (a3 + 2).toNatClampNeg 0), .int (xs.getD (a3 + 1).toNatClampNeg 0), .ref 115, .int r416]) (pc2 := 424) op0_423 rfl rfl ?_
        refine rx_p (L2 := [some (.ref 10002), some (.ref 0), some (.ref 115), some (.int a3)]) (S2 := [.int a3, .ref 10002, .int (xs.getD (a3 + 3).toNatClampNeg 0), .int (xs.getD (a3 + 2).toNatClampNeg 0), .int (xs.getD (a3 + 1).toNatClampNeg 0), .ref 115, .int r416]) (pc2 := 425) op0_424 rfl rfl ?_
        refine rx_ic (v := 4) (pc2 := 426) op0_425 (by decide) rfl ?_
        refine rx_p (L2 := [some (.ref 10002), some (.ref 0), some (.ref 115), some (.int a3)]) (S2 := [.int (a3 + 4), .ref 10002, .int (xs.getD (a3 + 3).toNatClampNeg 0), .int (xs.getD (a3 + 2).toNatClampNeg 0), .int (xs.getD (a3 + 1).toNatClampNeg 0), .ref 115, .int r416]) (pc2 := 427) op0_426 rfl rfl ?_
        obtain ⟨k421, h⟩ := rq_chk h
        refine rx_ix (pc2 := 428) op0_427 (by decide) k421 rfl ?_
        show rn_R _ _ _ _ _ [.int (xs.getD (a3 + 4).toNatClampNeg 0), .int (xs.getD (a3 + 3).toNatClampNeg 0), .int (xs.getD (a3 + 2).toNatClampNeg 0), .int (xs.getD (a3 + 1).toNatClampNeg 0), .ref 115, .int r416] _ _ _
        obtain ⟨⟨r423, m422⟩, f424, h⟩ := rq_bind h
        try dsimp only at h
        refine ry_iv (p := 115) (vs := [.int (xs.getD (a3 + 1).toNatClampNeg 0), .int (xs.getD (a3 + 2).toNatClampNeg 0), .int (xs.getD (a3 + 3).toNatClampNeg 0), .int (xs.getD (a3 + 4).toNatClampNeg 0)]) (T := [.int r416]) (pc2 := 431) op0_428 ms_170 (by decide) rfl rfl (Nat.le_of_ble_eq_true rfl) (Nat.le_of_ble_eq_true rfl) sp_115 (mo_clue_ok xs (by omega)  f424) rfl ?_
        show rn_R _ _ _ _ _ [.int r423, .int r416] _ _ _
        refine ry_ic_eq (tgt := 1016) (pc2 := 434) op0_431 (by decide) (by decide) rfl (fun b425 => ?_) (fun b425 => ?_)
        · have h := (if_pos b425).symm.trans h
          obtain ⟨x426, ex426, h⟩ := rq_bv h
          refine rx_inc (w := 5) (v := x426) (L2 := [some (.ref 10002), some (.ref 0), some (.ref 115), some (.int x426)]) (pc2 := 1019) op0_1016 rfl (by decide) ex426 rfl rfl ?_
          refine ry_go (tgt := 18) op0_1019 (by decide) (by decide) ?_
          exact ih _ _ h
        · have h := (if_neg b425).symm.trans h
          refine rx_ic (v := 0) (pc2 := 435) op0_434 (by decide) rfl ?_
          cases h
          obtain ⟨rfl, rfl⟩ := hl _ _ rfl
          exact ry_rz (x := 0) op0_435 ms_0 rfl (by decide)
      have h := (if_neg b10).symm.trans h
      by_cases b11 : ((xs.getD a3.toNatClampNeg 0) &&& 31) = 8
      · have h := (if_pos b11).symm.trans h
        refine ry_ti (w := 8) (off := 404) (tgt := 436) op0_32 (by rw [b11] <;> decide) (by decide) (by decide) (by decide) (by decide) ?_
        refine rx_p (L2 := [some (.ref 10002), some (.ref 0), some (.ref 115), some (.int a3)]) (S2 := [.ref 0]) (pc2 := 437) op0_436 rfl rfl ?_
        obtain ⟨⟨r428, m427⟩, f429, h⟩ := rq_bind h
        try dsimp only at h
        refine ry_iv (p := 0) (vs := []) (T := []) (pc2 := 440) op0_437 ms_58 (by decide) rfl rfl (Nat.le_of_ble_eq_true rfl) (Nat.le_of_ble_eq_true rfl) sp_0 (lt_forget_ok xs (by omega)  f429) rfl ?_
        show rn_R _ _ _ _ _ [.int r428] _ _ _
        refine rx_p (L2 := [some (.ref 10002), some (.ref 0), some (.ref 115), some (.int a3)]) (S2 := [.ref 115, .int r428]) (pc2 := 441) op0_440 rfl rfl ?_
        obtain ⟨⟨r431, m430⟩, f432, h⟩ := rq_bind h
        try dsimp only at h
        refine ry_iv (p := 115) (vs := []) (T := [.int r428]) (pc2 := 444) op0_441 ms_171 (by decide) rfl rfl (Nat.le_of_ble_eq_true rfl) (Nat.le_of_ble_eq_true rfl) sp_115 (mo_forget_ok xs (by omega)  f432) rfl ?_
        show rn_R _ _ _ _ _ [.int r431, .int r428] _ _ _
        refine ry_ic_eq (tgt := 1016) (pc2 := 447) op0_444 (by decide) (by decide) rfl (fun b433 => ?_) (fun b433 => ?_)
        · have h := (if_pos b433).symm.trans h
          obtain ⟨x434, ex434, h⟩ := rq_bv h
          refine rx_inc (w := 5) (v := x434) (L2 := [some (.ref 10002), some (.ref 0), some (.ref 115), some (.int x434)]) (pc2 := 1019) op0_1016 rfl (by decide) ex434 rfl rfl ?_
          refine ry_go (tgt := 18) op0_1019 (by decide) (by decide) ?_
          exact ih _ _ h
        · have h := (if_neg b433).symm.trans h
          refine rx_ic (v := 0) (pc2 := 448) op0_447 (by decide) rfl ?_
          cases h
          obtain ⟨rfl, rfl⟩ := hl _ _ rfl
          exact ry_rz (x := 0) op0_448 ms_0 rfl (by decide)
      have h := (if_neg b11).symm.trans h
      by_cases b12 : ((xs.getD a3.toNatClampNeg 0) &&& 31) = 9
      · have h := (if_pos b12).symm.trans h
        refine ry_ti (w := 9) (off := 417) (tgt := 449) op0_32 (by rw [b12] <;> decide) (by decide) (by decide) (by decide) (by decide) ?_
        refine rx_p (L2 := [some (.ref 10002), some (.ref 0), some (.ref 115), some (.int a3)]) (S2 := [.ref 0]) (pc2 := 450) op0_449 rfl rfl ?_
        obtain ⟨⟨r436, m435⟩, f437, h⟩ := rq_bind h
        try dsimp only at h
        refine ry_iv (p := 0) (vs := []) (T := []) (pc2 := 453) op0_450 ms_59 (by decide) rfl rfl (Nat.le_of_ble_eq_true rfl) (Nat.le_of_ble_eq_true rfl) sp_0 (lt_plays_ok xs (by omega)  f437) rfl ?_
        show rn_R _ _ _ _ _ [.long r436] _ _ _
        refine rx_p (L2 := [some (.ref 10002), some (.ref 0), some (.ref 115), some (.int a3)]) (S2 := [.ref 115, .long r436]) (pc2 := 454) op0_453 rfl rfl ?_
        obtain ⟨⟨r439, m438⟩, f440, h⟩ := rq_bind h
        try dsimp only at h
        refine ry_iv (p := 115) (vs := []) (T := [.long r436]) (pc2 := 457) op0_454 ms_172 (by decide) rfl rfl (Nat.le_of_ble_eq_true rfl) (Nat.le_of_ble_eq_true rfl) sp_115 (mo_plays_ok xs (by omega)  f440) rfl ?_
        show rn_R _ _ _ _ _ [.long r439, .long r436] _ _ _
        refine rx_p (L2 := [some (.ref 10002), some (.ref 0), some (.ref 115), some (.int a3)]) (S2 := [.int (lg_cmp r436 r439)]) (pc2 := 458) op0_457 rfl rfl ?_
        refine ry_if_eq (tgt := 1016) (pc2 := 461) op0_458 (by decide) (by decide) rfl (fun b441 => ?_) (fun b441 => ?_)
        · have h := (if_pos b441).symm.trans h
          obtain ⟨x442, ex442, h⟩ := rq_bv h
          refine rx_inc (w := 5) (v := x442) (L2 := [some (.ref 10002), some (.ref 0), some (.ref 115), some (.int x442)]) (pc2 := 1019) op0_1016 rfl (by decide) ex442 rfl rfl ?_
          refine ry_go (tgt := 18) op0_1019 (by decide) (by decide) ?_
          exact ih _ _ h
        · have h := (if_neg b441).symm.trans h
          refine rx_ic (v := 0) (pc2 := 462) op0_461 (by decide) rfl ?_
          cases h
          obtain ⟨rfl, rfl⟩ := hl _ _ rfl
          exact ry_rz (x := 0) op0_462 ms_0 rfl (by decide)
      have h := (if_neg b12).symm.trans h
      by_cases b13 : ((xs.getD a3.toNatClampNeg 0) &&& 31) = 10
      · have h := (if_pos b13).symm.trans h
        refine ry_ti (w := 10) (off := 431) (tgt := 463) op0_32 (by rw [b13] <;> decide) (by decide) (by decide) (by decide) (by decide) ?_
        refine rx_p (L2 := [some (.ref 10002), some (.ref 0), some (.ref 115), some (.int a3)]) (S2 := [.ref 0]) (pc2 := 464) op0_463 rfl rfl ?_
        refine rx_p (L2 := [some (.ref 10002), some (.ref 0), some (.ref 115), some (.int a3)]) (S2 := [.ref 10002, .ref 0]) (pc2 := 465) op0_464 rfl rfl ?_
        refine rx_p (L2 := [some (.ref 10002), some (.ref 0), some (.ref 115), some (.int a3)]) (S2 := [.int a3, .ref 10002, .ref 0]) (pc2 := 466) op0_465 rfl rfl ?_
        refine rx_ic (v := 1) (pc2 := 467) op0_466 (by decide) rfl ?_
        refine rx_p (L2 := [some (.ref 10002), some (.ref 0), some (.ref 115), some (.int a3)]) (S2 := [.int (a3 + 1), .ref 10002, .ref 0]) (pc2 := 468) op0_467 rfl rfl ?_
        obtain ⟨k443, h⟩ := rq_chk h
        refine rx_ix (pc2 := 469) op0_468 (by decide) k443 rfl ?_
        show rn_R _ _ _ _ _ [.int (xs.getD (a3 + 1).toNatClampNeg 0), .ref 0] _ _ _
        obtain ⟨⟨r445, m444⟩, f446, h⟩ := rq_bind h
        try dsimp only at h
        refine ry_iv (p := 0) (vs := [.int (xs.getD (a3 + 1).toNatClampNeg 0)]) (T := []) (pc2 := 472) op0_469 ms_89 (by decide) rfl rfl (Nat.le_of_ble_eq_true rfl) (Nat.le_of_ble_eq_true rfl) sp_0 (lt_may_ok xs (by omega)  f446) rfl ?_
        show rn_R _ _ _ _ _ [.int r445] _ _ _
        refine rx_p (L2 := [some (.ref 10002), some (.ref 0), some (.ref 115), some (.int a3)]) (S2 := [.ref 115, .int r445]) (pc2 := 473) op0_472 rfl rfl ?_
        refine rx_p (L2 := [some (.ref 10002), some (.ref 0), some (.ref 115), some (.int a3)]) (S2 := [.ref 10002, .ref 115, .int r445]) (pc2 := 474) op0_473 rfl rfl ?_
        refine rx_p (L2 := [some (.ref 10002), some (.ref 0), some (.ref 115), some (.int a3)]) (S2 := [.int a3, .ref 10002, .ref 115, .int r445]) (pc2 := 475) op0_474 rfl rfl ?_
        refine rx_ic (v := 1) (pc2 := 476) op0_475 (by decide) rfl ?_
        refine rx_p (L2 := [some (.ref 10002), some (.ref 0), some (.ref 115), some (.int a3)]) (S2 := [.int (a3 + 1), .ref 10002, .ref 115, .int r445]) (pc2 := 477) op0_476 rfl rfl ?_
        obtain ⟨k447, h⟩ := rq_chk h
        refine rx_ix (pc2 := 478) op0_477 (by decide) k447 rfl ?_
        show rn_R _ _ _ _ _ [.int (xs.getD (a3 + 1).toNatClampNeg 0), .ref 115, .int r445] _ _ _
        obtain ⟨⟨r449, m448⟩, f450, h⟩ := rq_bind h
        try dsimp only at h
        refine ry_iv (p := 115) (vs := [.int (xs.getD (a3 + 1).toNatClampNeg 0)]) (T := [.int r445]) (pc2 := 481) op0_478 ms_186 (by decide) rfl rfl (Nat.le_of_ble_eq_true rfl) (Nat.le_of_ble_eq_true rfl) sp_115 (mo_may_ok xs (by omega)  f450) rfl ?_
        show rn_R _ _ _ _ _ [.int r449, .int r445] _ _ _
        refine ry_ic_eq (tgt := 1016) (pc2 := 484) op0_481 (by decide) (by decide) rfl (fun b451 => ?_) (fun b451 => ?_)
        · have h := (if_pos b451).symm.trans h
          obtain ⟨x452, ex452, h⟩ := rq_bv h
          refine rx_inc (w := 5) (v := x452) (L2 := [some (.ref 10002), some (.ref 0), some (.ref 115), some (.int x452)]) (pc2 := 1019) op0_1016 rfl (by decide) ex452 rfl rfl ?_
          refine ry_go (tgt := 18) op0_1019 (by decide) (by decide) ?_
          exact ih _ _ h
        · have h := (if_neg b451).symm.trans h
          refine rx_ic (v := 0) (pc2 := 485) op0_484 (by decide) rfl ?_
          cases h
          obtain ⟨rfl, rfl⟩ := hl _ _ rfl
          exact ry_rz (x := 0) op0_485 ms_0 rfl (by decide)
      have h := (if_neg b13).symm.trans h
      by_cases b14 : ((xs.getD a3.toNatClampNeg 0) &&& 31) = 11
      · have h := (if_pos b14).symm.trans h
        refine ry_ti (w := 11) (off := 454) (tgt := 486) op0_32 (by rw [b14] <;> decide) (by decide) (by decide) (by decide) (by decide) ?_
        refine rx_p (L2 := [some (.ref 10002), some (.ref 0), some (.ref 115), some (.int a3)]) (S2 := [.ref 0]) (pc2 := 487) op0_486 rfl rfl ?_
        refine rx_p (L2 := [some (.ref 10002), some (.ref 0), some (.ref 115), some (.int a3)]) (S2 := [.ref 10002, .ref 0]) (pc2 := 488) op0_487 rfl rfl ?_
        refine rx_p (L2 := [some (.ref 10002), some (.ref 0), some (.ref 115), some (.int a3)]) (S2 := [.int a3, .ref 10002, .ref 0]) (pc2 := 489) op0_488 rfl rfl ?_
        refine rx_ic (v := 1) (pc2 := 490) op0_489 (by decide) rfl ?_
        refine rx_p (L2 := [some (.ref 10002), some (.ref 0), some (.ref 115), some (.int a3)]) (S2 := [.int (a3 + 1), .ref 10002, .ref 0]) (pc2 := 491) op0_490 rfl rfl ?_
        obtain ⟨k453, h⟩ := rq_chk h
        refine rx_ix (pc2 := 492) op0_491 (by decide) k453 rfl ?_
        show rn_R _ _ _ _ _ [.int (xs.getD (a3 + 1).toNatClampNeg 0), .ref 0] _ _ _
        obtain ⟨⟨r455, m454⟩, f456, h⟩ := rq_bind h
        try dsimp only at h
        refine ry_iv (p := 0) (vs := [.int (xs.getD (a3 + 1).toNatClampNeg 0)]) (T := []) (pc2 := 495) op0_492 ms_92 (by decide) rfl rfl (Nat.le_of_ble_eq_true rfl) (Nat.le_of_ble_eq_true rfl) sp_0 (lt_sure_ok xs (by omega)  f456) rfl ?_
        show rn_R _ _ _ _ _ [.int r455] _ _ _
        refine rx_p (L2 := [some (.ref 10002), some (.ref 0), some (.ref 115), some (.int a3)]) (S2 := [.ref 115, .int r455]) (pc2 := 496) op0_495 rfl rfl ?_
        refine rx_p (L2 := [some (.ref 10002), some (.ref 0), some (.ref 115), some (.int a3)]) (S2 := [.ref 10002, .ref 115, .int r455]) (pc2 := 497) op0_496 rfl rfl ?_
        refine rx_p (L2 := [some (.ref 10002), some (.ref 0), some (.ref 115), some (.int a3)]) (S2 := [.int a3, .ref 10002, .ref 115, .int r455]) (pc2 := 498) op0_497 rfl rfl ?_
        refine rx_ic (v := 1) (pc2 := 499) op0_498 (by decide) rfl ?_
        refine rx_p (L2 := [some (.ref 10002), some (.ref 0), some (.ref 115), some (.int a3)]) (S2 := [.int (a3 + 1), .ref 10002, .ref 115, .int r455]) (pc2 := 500) op0_499 rfl rfl ?_
        obtain ⟨k457, h⟩ := rq_chk h
        refine rx_ix (pc2 := 501) op0_500 (by decide) k457 rfl ?_
        show rn_R _ _ _ _ _ [.int (xs.getD (a3 + 1).toNatClampNeg 0), .ref 115, .int r455] _ _ _
        obtain ⟨⟨r459, m458⟩, f460, h⟩ := rq_bind h
        try dsimp only at h
        refine ry_iv (p := 115) (vs := [.int (xs.getD (a3 + 1).toNatClampNeg 0)]) (T := [.int r455]) (pc2 := 504) op0_501 ms_187 (by decide) rfl rfl (Nat.le_of_ble_eq_true rfl) (Nat.le_of_ble_eq_true rfl) sp_115 (mo_sure_ok xs (by omega)  f460) rfl ?_
        show rn_R _ _ _ _ _ [.int r459, .int r455] _ _ _
        refine ry_ic_eq (tgt := 1016) (pc2 := 507) op0_504 (by decide) (by decide) rfl (fun b461 => ?_) (fun b461 => ?_)
        · have h := (if_pos b461).symm.trans h
          obtain ⟨x462, ex462, h⟩ := rq_bv h
          refine rx_inc (w := 5) (v := x462) (L2 := [some (.ref 10002), some (.ref 0), some (.ref 115), some (.int x462)]) (pc2 := 1019) op0_1016 rfl (by decide) ex462 rfl rfl ?_
          refine ry_go (tgt := 18) op0_1019 (by decide) (by decide) ?_
          exact ih _ _ h
        · have h := (if_neg b461).symm.trans h
          refine rx_ic (v := 0) (pc2 := 508) op0_507 (by decide) rfl ?_
          cases h
          obtain ⟨rfl, rfl⟩ := hl _ _ rfl
          exact ry_rz (x := 0) op0_508 ms_0 rfl (by decide)
      have h := (if_neg b14).symm.trans h
      by_cases b15 : ((xs.getD a3.toNatClampNeg 0) &&& 31) = 12
      · have h := (if_pos b15).symm.trans h
        refine ry_ti (w := 12) (off := 477) (tgt := 509) op0_32 (by rw [b15] <;> decide) (by decide) (by decide) (by decide) (by decide) ?_
        refine rx_p (L2 := [some (.ref 10002), some (.ref 0), some (.ref 115), some (.int a3)]) (S2 := [.ref 0]) (pc2 := 510) op0_509 rfl rfl ?_
        refine rx_p (L2 := [some (.ref 10002), some (.ref 0), some (.ref 115), some (.int a3)]) (S2 := [.ref 10002, .ref 0]) (pc2 := 511) op0_510 rfl rfl ?_
        refine rx_p (L2 := [some (.ref 10002), some (.ref 0), some (.ref 115), some (.int a3)]) (S2 := [.int a3, .ref 10002, .ref 0]) (pc2 := 512) op0_511 rfl rfl ?_
        refine rx_ic (v := 1) (pc2 := 513) op0_512 (by decide) rfl ?_
        refine rx_p (L2 := [some (.ref 10002), some (.ref 0), some (.ref 115), some (.int a3)]) (S2 := [.int (a3 + 1), .ref 10002, .ref 0]) (pc2 := 514) op0_513 rfl rfl ?_
        obtain ⟨k463, h⟩ := rq_chk h
        refine rx_ix (pc2 := 515) op0_514 (by decide) k463 rfl ?_
        show rn_R _ _ _ _ _ [.int (xs.getD (a3 + 1).toNatClampNeg 0), .ref 0] _ _ _
        refine rx_p (L2 := [some (.ref 10002), some (.ref 0), some (.ref 115), some (.int a3)]) (S2 := [.ref 10002, .int (xs.getD (a3 + 1).toNatClampNeg 0), .ref 0]) (pc2 := 516) op0_515 rfl rfl ?_
        refine rx_p (L2 := [some (.ref 10002), some (.ref 0), some (.ref 115), some (.int a3)]) (S2 := [.int a3, .ref 10002, .int (xs.getD (a3 + 1).toNatClampNeg 0), .ref 0]) (pc2 := 517) op0_516 rfl rfl ?_
        refine rx_ic (v := 2) (pc2 := 518) op0_517 (by decide) rfl ?_
        refine rx_p (L2 := [some (.ref 10002), some (.ref 0), some (.ref 115), some (.int a3)]) (S2 := [.int (a3 + 2), .ref 10002, .int (xs.getD (a3 + 1).toNatClampNeg 0), .ref 0]) (pc2 := 519) op0_518 rfl rfl ?_
        obtain ⟨k464, h⟩ := rq_chk h
        refine rx_ix (pc2 := 520) op0_519 (by decide) k464 rfl ?_
        show rn_R _ _ _ _ _ [.int (xs.getD (a3 + 2).toNatClampNeg 0), .int (xs.getD (a3 + 1).toNatClampNeg 0), .ref 0] _ _ _
        obtain ⟨⟨r466, m465⟩, f467, h⟩ := rq_bind h
        try dsimp only at h
        refine ry_iv (p := 0) (vs := [.int (xs.getD (a3 + 1).toNatClampNeg 0), .int (xs.getD (a3 + 2).toNatClampNeg 0)]) (T := []) (pc2 := 523) op0_520 ms_93 (by decide) rfl rfl (Nat.le_of_ble_eq_true rfl) (Nat.le_of_ble_eq_true rfl) sp_0 (lt_under_ok xs (by omega)  f467) rfl ?_
        show rn_R _ _ _ _ _ [.int r466] _ _ _
        refine rx_p (L2 := [some (.ref 10002), some (.ref 0), some (.ref 115), some (.int a3)]) (S2 := [.ref 115, .int r466]) (pc2 := 524) op0_523 rfl rfl ?_
        refine rx_p (L2 := [some (.ref 10002), some (.ref 0), some (.ref 115), some (.int a3)]) (S2 := [.ref 10002, .ref 115, .int r466]) (pc2 := 525) op0_524 rfl rfl ?_
        refine rx_p (L2 := [some (.ref 10002), some (.ref 0), some (.ref 115), some (.int a3)]) (S2 := [.int a3, .ref 10002, .ref 115, .int r466]) (pc2 := 526) op0_525 rfl rfl ?_
        refine rx_ic (v := 1) (pc2 := 527) op0_526 (by decide) rfl ?_
        refine rx_p (L2 := [some (.ref 10002), some (.ref 0), some (.ref 115), some (.int a3)]) (S2 := [.int (a3 + 1), .ref 10002, .ref 115, .int r466]) (pc2 := 528) op0_527 rfl rfl ?_
        obtain ⟨k468, h⟩ := rq_chk h
        refine rx_ix (pc2 := 529) op0_528 (by decide) k468 rfl ?_
        show rn_R _ _ _ _ _ [.int (xs.getD (a3 + 1).toNatClampNeg 0), .ref 115, .int r466] _ _ _
        refine rx_p (L2 := [some (.ref 10002), some (.ref 0), some (.ref 115), some (.int a3)]) (S2 := [.ref 10002, .int (xs.getD (a3 + 1).toNatClampNeg 0), .ref 115, .int r466]) (pc2 := 530) op0_529 rfl rfl ?_
        refine rx_p (L2 := [some (.ref 10002), some (.ref 0), some (.ref 115), some (.int a3)]) (S2 := [.int a3, .ref 10002, .int (xs.getD (a3 + 1).toNatClampNeg 0), .ref 115, .int r466]) (pc2 := 531) op0_530 rfl rfl ?_
        refine rx_ic (v := 2) (pc2 := 532) op0_531 (by decide) rfl ?_
        refine rx_p (L2 := [some (.ref 10002), some (.ref 0), some (.ref 115), some (.int a3)]) (S2 := [.int (a3 + 2), .ref 10002, .int (xs.getD (a3 + 1).toNatClampNeg 0), .ref 115, .int r466]) (pc2 := 533) op0_532 rfl rfl ?_
        obtain ⟨k469, h⟩ := rq_chk h
        refine rx_ix (pc2 := 534) op0_533 (by decide) k469 rfl ?_
        show rn_R _ _ _ _ _ [.int (xs.getD (a3 + 2).toNatClampNeg 0), .int (xs.getD (a3 + 1).toNatClampNeg 0), .ref 115, .int r466] _ _ _
        obtain ⟨⟨r471, m470⟩, f472, h⟩ := rq_bind h
        try dsimp only at h
        refine ry_iv (p := 115) (vs := [.int (xs.getD (a3 + 1).toNatClampNeg 0), .int (xs.getD (a3 + 2).toNatClampNeg 0)]) (T := [.int r466]) (pc2 := 537) op0_534 ms_188 (by decide) rfl rfl (Nat.le_of_ble_eq_true rfl) (Nat.le_of_ble_eq_true rfl) sp_115 (mo_under_ok xs (by omega)  f472) rfl ?_
        show rn_R _ _ _ _ _ [.int r471, .int r466] _ _ _
        refine ry_ic_eq (tgt := 1016) (pc2 := 540) op0_537 (by decide) (by decide) rfl (fun b473 => ?_) (fun b473 => ?_)
        · have h := (if_pos b473).symm.trans h
          obtain ⟨x474, ex474, h⟩ := rq_bv h
          refine rx_inc (w := 5) (v := x474) (L2 := [some (.ref 10002), some (.ref 0), some (.ref 115), some (.int x474)]) (pc2 := 1019) op0_1016 rfl (by decide) ex474 rfl rfl ?_
          refine ry_go (tgt := 18) op0_1019 (by decide) (by decide) ?_
          exact ih _ _ h
        · have h := (if_neg b473).symm.trans h
          refine rx_ic (v := 0) (pc2 := 541) op0_540 (by decide) rfl ?_
          cases h
          obtain ⟨rfl, rfl⟩ := hl _ _ rfl
          exact ry_rz (x := 0) op0_541 ms_0 rfl (by decide)
      have h := (if_neg b15).symm.trans h
      by_cases b16 : ((xs.getD a3.toNatClampNeg 0) &&& 31) = 13
      · have h := (if_pos b16).symm.trans h
        refine ry_ti (w := 13) (off := 510) (tgt := 542) op0_32 (by rw [b16] <;> decide) (by decide) (by decide) (by decide) (by decide) ?_
        refine rx_p (L2 := [some (.ref 10002), some (.ref 0), some (.ref 115), some (.int a3)]) (S2 := [.ref 0]) (pc2 := 543) op0_542 rfl rfl ?_
        refine rx_p (L2 := [some (.ref 10002), some (.ref 0), some (.ref 115), some (.int a3)]) (S2 := [.ref 10002, .ref 0]) (pc2 := 544) op0_543 rfl rfl ?_
        refine rx_p (L2 := [some (.ref 10002), some (.ref 0), some (.ref 115), some (.int a3)]) (S2 := [.int a3, .ref 10002, .ref 0]) (pc2 := 545) op0_544 rfl rfl ?_
        refine rx_ic (v := 1) (pc2 := 546) op0_545 (by decide) rfl ?_
        refine rx_p (L2 := [some (.ref 10002), some (.ref 0), some (.ref 115), some (.int a3)]) (S2 := [.int (a3 + 1), .ref 10002, .ref 0]) (pc2 := 547) op0_546 rfl rfl ?_
        obtain ⟨k475, h⟩ := rq_chk h
        refine rx_ix (pc2 := 548) op0_547 (by decide) k475 rfl ?_
        show rn_R _ _ _ _ _ [.int (xs.getD (a3 + 1).toNatClampNeg 0), .ref 0] _ _ _
        refine rx_p (L2 := [some (.ref 10002), some (.ref 0), some (.ref 115), some (.int a3)]) (S2 := [.ref 10002, .int (xs.getD (a3 + 1).toNatClampNeg 0), .ref 0]) (pc2 := 549) op0_548 rfl rfl ?_
        refine rx_p (L2 := [some (.ref 10002), some (.ref 0), some (.ref 115), some (.int a3)]) (S2 := [.int a3, .ref 10002, .int (xs.getD (a3 + 1).toNatClampNeg 0), .ref 0]) (pc2 := 550) op0_549 rfl rfl ?_
        refine rx_ic (v := 2) (pc2 := 551) op0_550 (by decide) rfl ?_
        refine rx_p (L2 := [some (.ref 10002), some (.ref 0), some (.ref 115), some (.int a3)]) (S2 := [.int (a3 + 2), .ref 10002, .int (xs.getD (a3 + 1).toNatClampNeg 0), .ref 0]) (pc2 := 552) op0_551 rfl rfl ?_
        obtain ⟨k476, h⟩ := rq_chk h
        refine rx_ix (pc2 := 553) op0_552 (by decide) k476 rfl ?_
        show rn_R _ _ _ _ _ [.int (xs.getD (a3 + 2).toNatClampNeg 0), .int (xs.getD (a3 + 1).toNatClampNeg 0), .ref 0] _ _ _
        obtain ⟨⟨r478, m477⟩, f479, h⟩ := rq_bind h
        try dsimp only at h
        refine ry_iv (p := 0) (vs := [.int (xs.getD (a3 + 1).toNatClampNeg 0), .int (xs.getD (a3 + 2).toNatClampNeg 0)]) (T := []) (pc2 := 556) op0_553 ms_95 (by decide) rfl rfl (Nat.le_of_ble_eq_true rfl) (Nat.le_of_ble_eq_true rfl) sp_0 (lt_trick_ok xs (by omega)  f479) rfl ?_
        show rn_R _ _ _ _ _ [.int r478] _ _ _
        refine rx_p (L2 := [some (.ref 10002), some (.ref 0), some (.ref 115), some (.int a3)]) (S2 := [.ref 115, .int r478]) (pc2 := 557) op0_556 rfl rfl ?_
        refine rx_p (L2 := [some (.ref 10002), some (.ref 0), some (.ref 115), some (.int a3)]) (S2 := [.ref 10002, .ref 115, .int r478]) (pc2 := 558) op0_557 rfl rfl ?_
        refine rx_p (L2 := [some (.ref 10002), some (.ref 0), some (.ref 115), some (.int a3)]) (S2 := [.int a3, .ref 10002, .ref 115, .int r478]) (pc2 := 559) op0_558 rfl rfl ?_
        refine rx_ic (v := 1) (pc2 := 560) op0_559 (by decide) rfl ?_
        refine rx_p (L2 := [some (.ref 10002), some (.ref 0), some (.ref 115), some (.int a3)]) (S2 := [.int (a3 + 1), .ref 10002, .ref 115, .int r478]) (pc2 := 561) op0_560 rfl rfl ?_
        obtain ⟨k480, h⟩ := rq_chk h
        refine rx_ix (pc2 := 562) op0_561 (by decide) k480 rfl ?_
        show rn_R _ _ _ _ _ [.int (xs.getD (a3 + 1).toNatClampNeg 0), .ref 115, .int r478] _ _ _
        refine rx_p (L2 := [some (.ref 10002), some (.ref 0), some (.ref 115), some (.int a3)]) (S2 := [.ref 10002, .int (xs.getD (a3 + 1).toNatClampNeg 0), .ref 115, .int r478]) (pc2 := 563) op0_562 rfl rfl ?_
        refine rx_p (L2 := [some (.ref 10002), some (.ref 0), some (.ref 115), some (.int a3)]) (S2 := [.int a3, .ref 10002, .int (xs.getD (a3 + 1).toNatClampNeg 0), .ref 115, .int r478]) (pc2 := 564) op0_563 rfl rfl ?_
        refine rx_ic (v := 2) (pc2 := 565) op0_564 (by decide) rfl ?_
        refine rx_p (L2 := [some (.ref 10002), some (.ref 0), some (.ref 115), some (.int a3)]) (S2 := [.int (a3 + 2), .ref 10002, .int (xs.getD (a3 + 1).toNatClampNeg 0), .ref 115, .int r478]) (pc2 := 566) op0_565 rfl rfl ?_
        obtain ⟨k481, h⟩ := rq_chk h
        refine rx_ix (pc2 := 567) op0_566 (by decide) k481 rfl ?_
        show rn_R _ _ _ _ _ [.int (xs.getD (a3 + 2).toNatClampNeg 0), .int (xs.getD (a3 + 1).toNatClampNeg 0), .ref 115, .int r478] _ _ _
        obtain ⟨⟨r483, m482⟩, f484, h⟩ := rq_bind h
        try dsimp only at h
        refine ry_iv (p := 115) (vs := [.int (xs.getD (a3 + 1).toNatClampNeg 0), .int (xs.getD (a3 + 2).toNatClampNeg 0)]) (T := [.int r478]) (pc2 := 570) op0_567 ms_189 (by decide) rfl rfl (Nat.le_of_ble_eq_true rfl) (Nat.le_of_ble_eq_true rfl) sp_115 (mo_trick_ok xs (by omega)  f484) rfl ?_
        show rn_R _ _ _ _ _ [.int r483, .int r478] _ _ _
        refine ry_ic_eq (tgt := 1016) (pc2 := 573) op0_570 (by decide) (by decide) rfl (fun b485 => ?_) (fun b485 => ?_)
        · have h := (if_pos b485).symm.trans h
          obtain ⟨x486, ex486, h⟩ := rq_bv h
          refine rx_inc (w := 5) (v := x486) (L2 := [some (.ref 10002), some (.ref 0), some (.ref 115), some (.int x486)]) (pc2 := 1019) op0_1016 rfl (by decide) ex486 rfl rfl ?_
          refine ry_go (tgt := 18) op0_1019 (by decide) (by decide) ?_
          exact ih _ _ h
        · have h := (if_neg b485).symm.trans h
          refine rx_ic (v := 0) (pc2 := 574) op0_573 (by decide) rfl ?_
          cases h
          obtain ⟨rfl, rfl⟩ := hl _ _ rfl
          exact ry_rz (x := 0) op0_574 ms_0 rfl (by decide)
      have h := (if_neg b16).symm.trans h
      by_cases b17 : ((xs.getD a3.toNatClampNeg 0) &&& 31) = 14
      · have h := (if_pos b17).symm.trans h
        refine ry_ti (w := 14) (off := 543) (tgt := 575) op0_32 (by rw [b17] <;> decide) (by decide) (by decide) (by decide) (by decide) ?_
        refine rx_p (L2 := [some (.ref 10002), some (.ref 0), some (.ref 115), some (.int a3)]) (S2 := [.ref 0]) (pc2 := 576) op0_575 rfl rfl ?_
        refine rx_p (L2 := [some (.ref 10002), some (.ref 0), some (.ref 115), some (.int a3)]) (S2 := [.ref 10002, .ref 0]) (pc2 := 577) op0_576 rfl rfl ?_
        refine rx_p (L2 := [some (.ref 10002), some (.ref 0), some (.ref 115), some (.int a3)]) (S2 := [.int a3, .ref 10002, .ref 0]) (pc2 := 578) op0_577 rfl rfl ?_
        refine rx_ic (v := 1) (pc2 := 579) op0_578 (by decide) rfl ?_
        refine rx_p (L2 := [some (.ref 10002), some (.ref 0), some (.ref 115), some (.int a3)]) (S2 := [.int (a3 + 1), .ref 10002, .ref 0]) (pc2 := 580) op0_579 rfl rfl ?_
        obtain ⟨k487, h⟩ := rq_chk h
        refine rx_ix (pc2 := 581) op0_580 (by decide) k487 rfl ?_
        show rn_R _ _ _ _ _ [.int (xs.getD (a3 + 1).toNatClampNeg 0), .ref 0] _ _ _
        obtain ⟨⟨r489, m488⟩, f490, h⟩ := rq_bind h
        try dsimp only at h
        refine ry_iv (p := 0) (vs := [.int (xs.getD (a3 + 1).toNatClampNeg 0)]) (T := []) (pc2 := 584) op0_581 ms_97 (by decide) rfl rfl (Nat.le_of_ble_eq_true rfl) (Nat.le_of_ble_eq_true rfl) sp_0 (lt_first_ok xs (by omega)  f490) rfl ?_
        show rn_R _ _ _ _ _ [.int r489] _ _ _
        refine rx_p (L2 := [some (.ref 10002), some (.ref 0), some (.ref 115), some (.int a3)]) (S2 := [.ref 115, .int r489]) (pc2 := 585) op0_584 rfl rfl ?_
        refine rx_p (L2 := [some (.ref 10002), some (.ref 0), some (.ref 115), some (.int a3)]) (S2 := [.ref 10002, .ref 115, .int r489]) (pc2 := 586) op0_585 rfl rfl ?_
        refine rx_p (L2 := [some (.ref 10002), some (.ref 0), some (.ref 115), some (.int a3)]) (S2 := [.int a3, .ref 10002, .ref 115, .int r489]) (pc2 := 587) op0_586 rfl rfl ?_
        refine rx_ic (v := 1) (pc2 := 588) op0_587 (by decide) rfl ?_
        refine rx_p (L2 := [some (.ref 10002), some (.ref 0), some (.ref 115), some (.int a3)]) (S2 := [.int (a3 + 1), .ref 10002, .ref 115, .int r489]) (pc2 := 589) op0_588 rfl rfl ?_
        obtain ⟨k491, h⟩ := rq_chk h
        refine rx_ix (pc2 := 590) op0_589 (by decide) k491 rfl ?_
        show rn_R _ _ _ _ _ [.int (xs.getD (a3 + 1).toNatClampNeg 0), .ref 115, .int r489] _ _ _
        obtain ⟨⟨r493, m492⟩, f494, h⟩ := rq_bind h
        try dsimp only at h
        refine ry_iv (p := 115) (vs := [.int (xs.getD (a3 + 1).toNatClampNeg 0)]) (T := [.int r489]) (pc2 := 593) op0_590 ms_190 (by decide) rfl rfl (Nat.le_of_ble_eq_true rfl) (Nat.le_of_ble_eq_true rfl) sp_115 (mo_first_ok xs (by omega)  f494) rfl ?_
        show rn_R _ _ _ _ _ [.int r493, .int r489] _ _ _
        refine ry_ic_eq (tgt := 1016) (pc2 := 596) op0_593 (by decide) (by decide) rfl (fun b495 => ?_) (fun b495 => ?_)
        · have h := (if_pos b495).symm.trans h
          obtain ⟨x496, ex496, h⟩ := rq_bv h
          refine rx_inc (w := 5) (v := x496) (L2 := [some (.ref 10002), some (.ref 0), some (.ref 115), some (.int x496)]) (pc2 := 1019) op0_1016 rfl (by decide) ex496 rfl rfl ?_
          refine ry_go (tgt := 18) op0_1019 (by decide) (by decide) ?_
          exact ih _ _ h
        · have h := (if_neg b495).symm.trans h
          refine rx_ic (v := 0) (pc2 := 597) op0_596 (by decide) rfl ?_
          cases h
          obtain ⟨rfl, rfl⟩ := hl _ _ rfl
          exact ry_rz (x := 0) op0_597 ms_0 rfl (by decide)
      have h := (if_neg b17).symm.trans h
      by_cases b18 : ((xs.getD a3.toNatClampNeg 0) &&& 31) = 15
      · have h := (if_pos b18).symm.trans h
        refine ry_ti (w := 15) (off := 566) (tgt := 598) op0_32 (by rw [b18] <;> decide) (by decide) (by decide) (by decide) (by decide) ?_
        refine rx_p (L2 := [some (.ref 10002), some (.ref 0), some (.ref 115), some (.int a3)]) (S2 := [.ref 0]) (pc2 := 599) op0_598 rfl rfl ?_
        refine rx_p (L2 := [some (.ref 10002), some (.ref 0), some (.ref 115), some (.int a3)]) (S2 := [.ref 10002, .ref 0]) (pc2 := 600) op0_599 rfl rfl ?_
        refine rx_p (L2 := [some (.ref 10002), some (.ref 0), some (.ref 115), some (.int a3)]) (S2 := [.int a3, .ref 10002, .ref 0]) (pc2 := 601) op0_600 rfl rfl ?_
        refine rx_ic (v := 1) (pc2 := 602) op0_601 (by decide) rfl ?_
        refine rx_p (L2 := [some (.ref 10002), some (.ref 0), some (.ref 115), some (.int a3)]) (S2 := [.int (a3 + 1), .ref 10002, .ref 0]) (pc2 := 603) op0_602 rfl rfl ?_
        obtain ⟨k497, h⟩ := rq_chk h
        refine rx_ix (pc2 := 604) op0_603 (by decide) k497 rfl ?_
        show rn_R _ _ _ _ _ [.int (xs.getD (a3 + 1).toNatClampNeg 0), .ref 0] _ _ _
        obtain ⟨⟨r499, m498⟩, f500, h⟩ := rq_bind h
        try dsimp only at h
        refine ry_iv (p := 0) (vs := [.int (xs.getD (a3 + 1).toNatClampNeg 0)]) (T := []) (pc2 := 607) op0_604 ms_98 (by decide) rfl rfl (Nat.le_of_ble_eq_true rfl) (Nat.le_of_ble_eq_true rfl) sp_0 (lt_fewest_ok xs (by omega)  f500) rfl ?_
        show rn_R _ _ _ _ _ [.int r499] _ _ _
        refine rx_p (L2 := [some (.ref 10002), some (.ref 0), some (.ref 115), some (.int a3)]) (S2 := [.ref 115, .int r499]) (pc2 := 608) op0_607 rfl rfl ?_
        refine rx_p (L2 := [some (.ref 10002), some (.ref 0), some (.ref 115), some (.int a3)]) (S2 := [.ref 10002, .ref 115, .int r499]) (pc2 := 609) op0_608 rfl rfl ?_
        refine rx_p (L2 := [some (.ref 10002), some (.ref 0), some (.ref 115), some (.int a3)]) (S2 := [.int a3, .ref 10002, .ref 115, .int r499]) (pc2 := 610) op0_609 rfl rfl ?_
        refine rx_ic (v := 1) (pc2 := 611) op0_610 (by decide) rfl ?_
        refine rx_p (L2 := [some (.ref 10002), some (.ref 0), some (.ref 115), some (.int a3)]) (S2 := [.int (a3 + 1), .ref 10002, .ref 115, .int r499]) (pc2 := 612) op0_611 rfl rfl ?_
        obtain ⟨k501, h⟩ := rq_chk h
        refine rx_ix (pc2 := 613) op0_612 (by decide) k501 rfl ?_
        show rn_R _ _ _ _ _ [.int (xs.getD (a3 + 1).toNatClampNeg 0), .ref 115, .int r499] _ _ _
        obtain ⟨⟨r503, m502⟩, f504, h⟩ := rq_bind h
        try dsimp only at h
        refine ry_iv (p := 115) (vs := [.int (xs.getD (a3 + 1).toNatClampNeg 0)]) (T := [.int r499]) (pc2 := 616) op0_613 ms_191 (by decide) rfl rfl (Nat.le_of_ble_eq_true rfl) (Nat.le_of_ble_eq_true rfl) sp_115 (mo_fewest_ok xs (by omega)  f504) rfl ?_
        show rn_R _ _ _ _ _ [.int r503, .int r499] _ _ _
        refine ry_ic_eq (tgt := 1016) (pc2 := 619) op0_616 (by decide) (by decide) rfl (fun b505 => ?_) (fun b505 => ?_)
        · have h := (if_pos b505).symm.trans h
          obtain ⟨x506, ex506, h⟩ := rq_bv h
          refine rx_inc (w := 5) (v := x506) (L2 := [some (.ref 10002), some (.ref 0), some (.ref 115), some (.int x506)]) (pc2 := 1019) op0_1016 rfl (by decide) ex506 rfl rfl ?_
          refine ry_go (tgt := 18) op0_1019 (by decide) (by decide) ?_
          exact ih _ _ h
        · have h := (if_neg b505).symm.trans h
          refine rx_ic (v := 0) (pc2 := 620) op0_619 (by decide) rfl ?_
          cases h
          obtain ⟨rfl, rfl⟩ := hl _ _ rfl
          exact ry_rz (x := 0) op0_620 ms_0 rfl (by decide)
      have h := (if_neg b18).symm.trans h
      by_cases b19 : ((xs.getD a3.toNatClampNeg 0) &&& 31) = 16
      · have h := (if_pos b19).symm.trans h
        refine ry_ti (w := 16) (off := 589) (tgt := 621) op0_32 (by rw [b19] <;> decide) (by decide) (by decide) (by decide) (by decide) ?_
        refine rx_p (L2 := [some (.ref 10002), some (.ref 0), some (.ref 115), some (.int a3)]) (S2 := [.ref 0]) (pc2 := 622) op0_621 rfl rfl ?_
        obtain ⟨⟨r508, m507⟩, f509, h⟩ := rq_bind h
        try dsimp only at h
        refine ry_iv (p := 0) (vs := []) (T := []) (pc2 := 625) op0_622 ms_100 (by decide) rfl rfl (Nat.le_of_ble_eq_true rfl) (Nat.le_of_ble_eq_true rfl) sp_0 (lt_drops_ok xs (by omega)  f509) rfl ?_
        show rn_R _ _ _ _ _ [.int r508] _ _ _
        refine rx_p (L2 := [some (.ref 10002), some (.ref 0), some (.ref 115), some (.int a3)]) (S2 := [.ref 115, .int r508]) (pc2 := 626) op0_625 rfl rfl ?_
        obtain ⟨⟨r511, m510⟩, f512, h⟩ := rq_bind h
        try dsimp only at h
        refine ry_iv (p := 115) (vs := []) (T := [.int r508]) (pc2 := 629) op0_626 ms_192 (by decide) rfl rfl (Nat.le_of_ble_eq_true rfl) (Nat.le_of_ble_eq_true rfl) sp_115 (mo_drops_ok xs (by omega)  f512) rfl ?_
        show rn_R _ _ _ _ _ [.int r511, .int r508] _ _ _
        refine ry_ic_eq (tgt := 1016) (pc2 := 632) op0_629 (by decide) (by decide) rfl (fun b513 => ?_) (fun b513 => ?_)
        · have h := (if_pos b513).symm.trans h
          obtain ⟨x514, ex514, h⟩ := rq_bv h
          refine rx_inc (w := 5) (v := x514) (L2 := [some (.ref 10002), some (.ref 0), some (.ref 115), some (.int x514)]) (pc2 := 1019) op0_1016 rfl (by decide) ex514 rfl rfl ?_
          refine ry_go (tgt := 18) op0_1019 (by decide) (by decide) ?_
          exact ih _ _ h
        · have h := (if_neg b513).symm.trans h
          refine rx_ic (v := 0) (pc2 := 633) op0_632 (by decide) rfl ?_
          cases h
          obtain ⟨rfl, rfl⟩ := hl _ _ rfl
          exact ry_rz (x := 0) op0_633 ms_0 rfl (by decide)
      have h := (if_neg b19).symm.trans h
      by_cases b20 : ((xs.getD a3.toNatClampNeg 0) &&& 31) = 17
      · have h := (if_pos b20).symm.trans h
        refine ry_ti (w := 17) (off := 602) (tgt := 634) op0_32 (by rw [b20] <;> decide) (by decide) (by decide) (by decide) (by decide) ?_
        refine rx_p (L2 := [some (.ref 10002), some (.ref 0), some (.ref 115), some (.int a3)]) (S2 := [.ref 0]) (pc2 := 635) op0_634 rfl rfl ?_
        obtain ⟨⟨r516, m515⟩, f517, h⟩ := rq_bind h
        try dsimp only at h
        refine ry_iv (p := 0) (vs := []) (T := []) (pc2 := 638) op0_635 ms_102 (by decide) rfl rfl (Nat.le_of_ble_eq_true rfl) (Nat.le_of_ble_eq_true rfl) sp_0 (lt_turned_ok xs (by omega)  f517) rfl ?_
        show rn_R _ _ _ _ _ [.int r516] _ _ _
        refine rx_p (L2 := [some (.ref 10002), some (.ref 0), some (.ref 115), some (.int a3)]) (S2 := [.ref 115, .int r516]) (pc2 := 639) op0_638 rfl rfl ?_
        obtain ⟨⟨r519, m518⟩, f520, h⟩ := rq_bind h
        try dsimp only at h
        refine ry_iv (p := 115) (vs := []) (T := [.int r516]) (pc2 := 642) op0_639 ms_195 (by decide) rfl rfl (Nat.le_of_ble_eq_true rfl) (Nat.le_of_ble_eq_true rfl) sp_115 (mo_turned_ok xs (by omega)  f520) rfl ?_
        show rn_R _ _ _ _ _ [.int r519, .int r516] _ _ _
        refine ry_ic_eq (tgt := 1016) (pc2 := 645) op0_642 (by decide) (by decide) rfl (fun b521 => ?_) (fun b521 => ?_)
        · have h := (if_pos b521).symm.trans h
          obtain ⟨x522, ex522, h⟩ := rq_bv h
          refine rx_inc (w := 5) (v := x522) (L2 := [some (.ref 10002), some (.ref 0), some (.ref 115), some (.int x522)]) (pc2 := 1019) op0_1016 rfl (by decide) ex522 rfl rfl ?_
          refine ry_go (tgt := 18) op0_1019 (by decide) (by decide) ?_
          exact ih _ _ h
        · have h := (if_neg b521).symm.trans h
          refine rx_ic (v := 0) (pc2 := 646) op0_645 (by decide) rfl ?_
          cases h
          obtain ⟨rfl, rfl⟩ := hl _ _ rfl
          exact ry_rz (x := 0) op0_646 ms_0 rfl (by decide)
      have h := (if_neg b20).symm.trans h
      by_cases b21 : ((xs.getD a3.toNatClampNeg 0) &&& 31) = 18
      · have h := (if_pos b21).symm.trans h
        refine ry_ti (w := 18) (off := 615) (tgt := 647) op0_32 (by rw [b21] <;> decide) (by decide) (by decide) (by decide) (by decide) ?_
        refine rx_p (L2 := [some (.ref 10002), some (.ref 0), some (.ref 115), some (.int a3)]) (S2 := [.ref 0]) (pc2 := 648) op0_647 rfl rfl ?_
        refine rx_p (L2 := [some (.ref 10002), some (.ref 0), some (.ref 115), some (.int a3)]) (S2 := [.ref 10002, .ref 0]) (pc2 := 649) op0_648 rfl rfl ?_
        refine rx_p (L2 := [some (.ref 10002), some (.ref 0), some (.ref 115), some (.int a3)]) (S2 := [.int a3, .ref 10002, .ref 0]) (pc2 := 650) op0_649 rfl rfl ?_
        refine rx_ic (v := 1) (pc2 := 651) op0_650 (by decide) rfl ?_
        refine rx_p (L2 := [some (.ref 10002), some (.ref 0), some (.ref 115), some (.int a3)]) (S2 := [.int (a3 + 1), .ref 10002, .ref 0]) (pc2 := 652) op0_651 rfl rfl ?_
        obtain ⟨k523, h⟩ := rq_chk h
        refine rx_ix (pc2 := 653) op0_652 (by decide) k523 rfl ?_
        show rn_R _ _ _ _ _ [.int (xs.getD (a3 + 1).toNatClampNeg 0), .ref 0] _ _ _
        obtain ⟨⟨r525, m524⟩, f526, h⟩ := rq_bind h
        try dsimp only at h
        refine ry_iv (p := 0) (vs := [.int (xs.getD (a3 + 1).toNatClampNeg 0)]) (T := []) (pc2 := 656) op0_653 ms_106 (by decide) rfl rfl (Nat.le_of_ble_eq_true rfl) (Nat.le_of_ble_eq_true rfl) sp_0 (lt_others_ok xs (by omega)  f526) rfl ?_
        show rn_R _ _ _ _ _ [.int r525] _ _ _
        refine rx_p (L2 := [some (.ref 10002), some (.ref 0), some (.ref 115), some (.int a3)]) (S2 := [.ref 115, .int r525]) (pc2 := 657) op0_656 rfl rfl ?_
        refine rx_p (L2 := [some (.ref 10002), some (.ref 0), some (.ref 115), some (.int a3)]) (S2 := [.ref 10002, .ref 115, .int r525]) (pc2 := 658) op0_657 rfl rfl ?_
        refine rx_p (L2 := [some (.ref 10002), some (.ref 0), some (.ref 115), some (.int a3)]) (S2 := [.int a3, .ref 10002, .ref 115, .int r525]) (pc2 := 659) op0_658 rfl rfl ?_
        refine rx_ic (v := 1) (pc2 := 660) op0_659 (by decide) rfl ?_
        refine rx_p (L2 := [some (.ref 10002), some (.ref 0), some (.ref 115), some (.int a3)]) (S2 := [.int (a3 + 1), .ref 10002, .ref 115, .int r525]) (pc2 := 661) op0_660 rfl rfl ?_
        obtain ⟨k527, h⟩ := rq_chk h
        refine rx_ix (pc2 := 662) op0_661 (by decide) k527 rfl ?_
        show rn_R _ _ _ _ _ [.int (xs.getD (a3 + 1).toNatClampNeg 0), .ref 115, .int r525] _ _ _
        obtain ⟨⟨r529, m528⟩, f530, h⟩ := rq_bind h
        try dsimp only at h
        refine ry_iv (p := 115) (vs := [.int (xs.getD (a3 + 1).toNatClampNeg 0)]) (T := [.int r525]) (pc2 := 665) op0_662 ms_196 (by decide) rfl rfl (Nat.le_of_ble_eq_true rfl) (Nat.le_of_ble_eq_true rfl) sp_115 (mo_others_ok xs (by omega)  f530) rfl ?_
        show rn_R _ _ _ _ _ [.int r529, .int r525] _ _ _
        refine ry_ic_eq (tgt := 1016) (pc2 := 668) op0_665 (by decide) (by decide) rfl (fun b531 => ?_) (fun b531 => ?_)
        · have h := (if_pos b531).symm.trans h
          obtain ⟨x532, ex532, h⟩ := rq_bv h
          refine rx_inc (w := 5) (v := x532) (L2 := [some (.ref 10002), some (.ref 0), some (.ref 115), some (.int x532)]) (pc2 := 1019) op0_1016 rfl (by decide) ex532 rfl rfl ?_
          refine ry_go (tgt := 18) op0_1019 (by decide) (by decide) ?_
          exact ih _ _ h
        · have h := (if_neg b531).symm.trans h
          refine rx_ic (v := 0) (pc2 := 669) op0_668 (by decide) rfl ?_
          cases h
          obtain ⟨rfl, rfl⟩ := hl _ _ rfl
          exact ry_rz (x := 0) op0_669 ms_0 rfl (by decide)
      have h := (if_neg b21).symm.trans h
      by_cases b22 : ((xs.getD a3.toNatClampNeg 0) &&& 31) = 19
      · have h := (if_pos b22).symm.trans h
        refine ry_ti (w := 19) (off := 638) (tgt := 670) op0_32 (by rw [b22] <;> decide) (by decide) (by decide) (by decide) (by decide) ?_
        refine rx_p (L2 := [some (.ref 10002), some (.ref 0), some (.ref 115), some (.int a3)]) (S2 := [.ref 0]) (pc2 := 671) op0_670 rfl rfl ?_
        refine rx_p (L2 := [some (.ref 10002), some (.ref 0), some (.ref 115), some (.int a3)]) (S2 := [.ref 10002, .ref 0]) (pc2 := 672) op0_671 rfl rfl ?_
        refine rx_p (L2 := [some (.ref 10002), some (.ref 0), some (.ref 115), some (.int a3)]) (S2 := [.int a3, .ref 10002, .ref 0]) (pc2 := 673) op0_672 rfl rfl ?_
        refine rx_ic (v := 1) (pc2 := 674) op0_673 (by decide) rfl ?_
        refine rx_p (L2 := [some (.ref 10002), some (.ref 0), some (.ref 115), some (.int a3)]) (S2 := [.int (a3 + 1), .ref 10002, .ref 0]) (pc2 := 675) op0_674 rfl rfl ?_
        obtain ⟨k533, h⟩ := rq_chk h
        refine rx_ix (pc2 := 676) op0_675 (by decide) k533 rfl ?_
        show rn_R _ _ _ _ _ [.int (xs.getD (a3 + 1).toNatClampNeg 0), .ref 0] _ _ _
        refine rx_p (L2 := [some (.ref 10002), some (.ref 0), some (.ref 115), some (.int a3)]) (S2 := [.ref 10002, .int (xs.getD (a3 + 1).toNatClampNeg 0), .ref 0]) (pc2 := 677) op0_676 rfl rfl ?_
        refine rx_p (L2 := [some (.ref 10002), some (.ref 0), some (.ref 115), some (.int a3)]) (S2 := [.int a3, .ref 10002, .int (xs.getD (a3 + 1).toNatClampNeg 0), .ref 0]) (pc2 := 678) op0_677 rfl rfl ?_
        refine rx_ic (v := 2) (pc2 := 679) op0_678 (by decide) rfl ?_
        refine rx_p (L2 := [some (.ref 10002), some (.ref 0), some (.ref 115), some (.int a3)]) (S2 := [.int (a3 + 2), .ref 10002, .int (xs.getD (a3 + 1).toNatClampNeg 0), .ref 0]) (pc2 := 680) op0_679 rfl rfl ?_
        obtain ⟨k534, h⟩ := rq_chk h
        refine rx_ix (pc2 := 681) op0_680 (by decide) k534 rfl ?_
        show rn_R _ _ _ _ _ [.int (xs.getD (a3 + 2).toNatClampNeg 0), .int (xs.getD (a3 + 1).toNatClampNeg 0), .ref 0] _ _ _
        refine rx_p (L2 := [some (.ref 10002), some (.ref 0), some (.ref 115), some (.int a3)]) (S2 := [.ref 10002, .int (xs.getD (a3 + 2).toNatClampNeg 0), .int (xs.getD (a3 + 1).toNatClampNeg 0), .ref 0]) (pc2 := 682) op0_681 rfl rfl ?_
        refine rx_p (L2 := [some (.ref 10002), some (.ref 0), some (.ref 115), some (.int a3)]) (S2 := [.int a3, .ref 10002, .int (xs.getD (a3 + 2).toNatClampNeg 0), .int (xs.getD (a3 + 1).toNatClampNeg 0), .ref 0]) (pc2 := 683) op0_682 rfl rfl ?_
        refine rx_ic (v := 3) (pc2 := 684) op0_683 (by decide) rfl ?_
        refine rx_p (L2 := [some (.ref 10002), some (.ref 0), some (.ref 115), some (.int a3)]) (S2 := [.int (a3 + 3), .ref 10002, .int (xs.getD (a3 + 2).toNatClampNeg 0), .int (xs.getD (a3 + 1).toNatClampNeg 0), .ref 0]) (pc2 := 685) op0_684 rfl rfl ?_
        obtain ⟨k535, h⟩ := rq_chk h
        refine rx_ix (pc2 := 686) op0_685 (by decide) k535 rfl ?_
        show rn_R _ _ _ _ _ [.int (xs.getD (a3 + 3).toNatClampNeg 0), .int (xs.getD (a3 + 2).toNatClampNeg 0), .int (xs.getD (a3 + 1).toNatClampNeg 0), .ref 0] _ _ _
        refine rx_p (L2 := [some (.ref 10002), some (.ref 0), some (.ref 115), some (.int a3)]) (S2 := [.ref 10002, .int (xs.getD (a3 + 3).toNatClampNeg 0), .int (xs.getD (a3 + 2).toNatClampNeg 0), .int (xs.getD (a3 + 1).toNatClampNeg 0), .ref 0]) (pc2 := 687) op0_686 rfl rfl ?_
        refine rx_p (L2 := [some (.ref 10002), some (.ref 0), some (.ref 115), some (.int a3)]) (S2 := [.int a3, .ref 10002, .int (xs.getD (a3 + 3).toNatClampNeg 0), .int (xs.getD (a3 + 2).toNatClampNeg 0), .int (xs.getD (a3 + 1).toNatClampNeg 0), .ref 0]) (pc2 := 688) op0_687 rfl rfl ?_
        refine rx_ic (v := 4) (pc2 := 689) op0_688 (by decide) rfl ?_
        refine rx_p (L2 := [some (.ref 10002), some (.ref 0), some (.ref 115), some (.int a3)]) (S2 := [.int (a3 + 4), .ref 10002, .int (xs.getD (a3 + 3).toNatClampNeg 0), .int (xs.getD (a3 + 2).toNatClampNeg 0), .int (xs.getD (a3 + 1).toNatClampNeg 0), .ref 0]) (pc2 := 690) op0_689 rfl rfl ?_
        obtain ⟨k536, h⟩ := rq_chk h
        refine rx_ix (pc2 := 691) op0_690 (by decide) k536 rfl ?_
        show rn_R _ _ _ _ _ [.int (xs.getD (a3 + 4).toNatClampNeg 0), .int (xs.getD (a3 + 3).toNatClampNeg 0), .int (xs.getD (a3 + 2).toNatClampNeg 0), .int (xs.getD (a3 + 1).toNatClampNeg 0), .ref 0] _ _ _
        obtain ⟨⟨r538, m537⟩, f539, h⟩ := rq_bind h
        try dsimp only at h
        refine ry_iv (p := 0) (vs := [.int (xs.getD (a3 + 1).toNatClampNeg 0), .int (xs.getD (a3 + 2).toNatClampNeg 0), .int (xs.getD (a3 + 3).toNatClampNeg 0), .int (xs.getD (a3 + 4).toNatClampNeg 0)]) (T := []) (pc2 := 694) op0_691 ms_108 (by decide) rfl rfl (Nat.le_of_ble_eq_true rfl) (Nat.le_of_ble_eq_true rfl) sp_0 (lt_row_ok xs (by omega)  f539) rfl ?_
        show rn_R _ _ _ _ _ [.int r538] _ _ _
        refine rx_p (L2 := [some (.ref 10002), some (.ref 0), some (.ref 115), some (.int a3)]) (S2 := [.ref 115, .int r538]) (pc2 := 695) op0_694 rfl rfl ?_
        refine rx_p (L2 := [some (.ref 10002), some (.ref 0), some (.ref 115), some (.int a3)]) (S2 := [.ref 10002, .ref 115, .int r538]) (pc2 := 696) op0_695 rfl rfl ?_
        refine rx_p (L2 := [some (.ref 10002), some (.ref 0), some (.ref 115), some (.int a3)]) (S2 := [.int a3, .ref 10002, .ref 115, .int r538]) (pc2 := 697) op0_696 rfl rfl ?_
        refine rx_ic (v := 1) (pc2 := 698) op0_697 (by decide) rfl ?_
        refine rx_p (L2 := [some (.ref 10002), some (.ref 0), some (.ref 115), some (.int a3)]) (S2 := [.int (a3 + 1), .ref 10002, .ref 115, .int r538]) (pc2 := 699) op0_698 rfl rfl ?_
        obtain ⟨k540, h⟩ := rq_chk h
        refine rx_ix (pc2 := 700) op0_699 (by decide) k540 rfl ?_
        show rn_R _ _ _ _ _ [.int (xs.getD (a3 + 1).toNatClampNeg 0), .ref 115, .int r538] _ _ _
        refine rx_p (L2 := [some (.ref 10002), some (.ref 0), some (.ref 115), some (.int a3)]) (S2 := [.ref 10002, .int (xs.getD (a3 + 1).toNatClampNeg 0), .ref 115, .int r538]) (pc2 := 701) op0_700 rfl rfl ?_
        refine rx_p (L2 := [some (.ref 10002), some (.ref 0), some (.ref 115), some (.int a3)]) (S2 := [.int a3, .ref 10002, .int (xs.getD (a3 + 1).toNatClampNeg 0), .ref 115, .int r538]) (pc2 := 702) op0_701 rfl rfl ?_
        refine rx_ic (v := 2) (pc2 := 703) op0_702 (by decide) rfl ?_
        refine rx_p (L2 := [some (.ref 10002), some (.ref 0), some (.ref 115), some (.int a3)]) (S2 := [.int (a3 + 2), .ref 10002, .int (xs.getD (a3 + 1).toNatClampNeg 0), .ref 115, .int r538]) (pc2 := 704) op0_703 rfl rfl ?_
        obtain ⟨k541, h⟩ := rq_chk h
        refine rx_ix (pc2 := 705) op0_704 (by decide) k541 rfl ?_
        show rn_R _ _ _ _ _ [.int (xs.getD (a3 + 2).toNatClampNeg 0), .int (xs.getD (a3 + 1).toNatClampNeg 0), .ref 115, .int r538] _ _ _
        refine rx_p (L2 := [some (.ref 10002), some (.ref 0), some (.ref 115), some (.int a3)]) (S2 := [.ref 10002, .int (xs.getD (a3 + 2).toNatClampNeg 0), .int (xs.getD (a3 + 1).toNatClampNeg 0), .ref 115, .int r538]) (pc2 := 706) op0_705 rfl rfl ?_
        refine rx_p (L2 := [some (.ref 10002), some (.ref 0), some (.ref 115), some (.int a3)]) (S2 := [.int a3, .ref 10002, .int (xs.getD (a3 + 2).toNatClampNeg 0), .int (xs.getD (a3 + 1).toNatClampNeg 0), .ref 115, .int r538]) (pc2 := 707) op0_706 rfl rfl ?_
        refine rx_ic (v := 3) (pc2 := 708) op0_707 (by decide) rfl ?_
        refine rx_p (L2 := [some (.ref 10002), some (.ref 0), some (.ref 115), some (.int a3)]) (S2 := [.int (a3 + 3), .ref 10002, .int (xs.getD (a3 + 2).toNatClampNeg 0), .int (xs.getD (a3 + 1).toNatClampNeg 0), .ref 115, .int r538]) (pc2 := 709) op0_708 rfl rfl ?_
        obtain ⟨k542, h⟩ := rq_chk h
        refine rx_ix (pc2 := 710) op0_709 (by decide) k542 rfl ?_
        show rn_R _ _ _ _ _ [.int (xs.getD (a3 + 3).toNatClampNeg 0), .int (xs.getD (a3 + 2).toNatClampNeg 0), .int (xs.getD (a3 + 1).toNatClampNeg 0), .ref 115, .int r538] _ _ _
        refine rx_p (L2 := [some (.ref 10002), some (.ref 0), some (.ref 115), some (.int a3)]) (S2 := [.ref 10002, .int (xs.getD (a3 + 3).toNatClampNeg 0), .int (xs.getD (a3 + 2).toNatClampNeg 0), .int (xs.getD (a3 + 1).toNatClampNeg 0), .ref 115, .int r538]) (pc2 := 711) op0_710 rfl rfl ?_
        refine rx_p (L2 := [some (.ref 10002), some (.ref 0), some (.ref 115), some (.int a3)]) (S2 := [.int a3, .ref 10002, .int (xs.getD (a3 + 3).toNatClampNeg 0), .int (xs.getD (a3 + 2).toNatClampNeg 0), .int (xs.getD (a3 + 1).toNatClampNeg 0), .ref 115, .int r538]) (pc2 := 712) op0_711 rfl rfl ?_
        refine rx_ic (v := 4) (pc2 := 713) op0_712 (by decide) rfl ?_
        refine rx_p (L2 := [some (.ref 10002), some (.ref 0), some (.ref 115), some (.int a3)]) (S2 := [.int (a3 + 4), .ref 10002, .int (xs.getD (a3 + 3).toNatClampNeg 0), .int (xs.getD (a3 + 2).toNatClampNeg 0), .int (xs.getD (a3 + 1).toNatClampNeg 0), .ref 115, .int r538]) (pc2 := 714) op0_713 rfl rfl ?_
        obtain ⟨k543, h⟩ := rq_chk h
        refine rx_ix (pc2 := 715) op0_714 (by decide) k543 rfl ?_
        show rn_R _ _ _ _ _ [.int (xs.getD (a3 + 4).toNatClampNeg 0), .int (xs.getD (a3 + 3).toNatClampNeg 0), .int (xs.getD (a3 + 2).toNatClampNeg 0), .int (xs.getD (a3 + 1).toNatClampNeg 0), .ref 115, .int r538] _ _ _
        obtain ⟨⟨r545, m544⟩, f546, h⟩ := rq_bind h
        try dsimp only at h
        refine ry_iv (p := 115) (vs := [.int (xs.getD (a3 + 1).toNatClampNeg 0), .int (xs.getD (a3 + 2).toNatClampNeg 0), .int (xs.getD (a3 + 3).toNatClampNeg 0), .int (xs.getD (a3 + 4).toNatClampNeg 0)]) (T := [.int r538]) (pc2 := 718) op0_715 ms_197 (by decide) rfl rfl (Nat.le_of_ble_eq_true rfl) (Nat.le_of_ble_eq_true rfl) sp_115 (mo_row_ok xs (by omega)  f546) rfl ?_
        show rn_R _ _ _ _ _ [.int r545, .int r538] _ _ _
        refine ry_ic_eq (tgt := 1016) (pc2 := 721) op0_718 (by decide) (by decide) rfl (fun b547 => ?_) (fun b547 => ?_)
        · have h := (if_pos b547).symm.trans h
          obtain ⟨x548, ex548, h⟩ := rq_bv h
          refine rx_inc (w := 5) (v := x548) (L2 := [some (.ref 10002), some (.ref 0), some (.ref 115), some (.int x548)]) (pc2 := 1019) op0_1016 rfl (by decide) ex548 rfl rfl ?_
          refine ry_go (tgt := 18) op0_1019 (by decide) (by decide) ?_
          exact ih _ _ h
        · have h := (if_neg b547).symm.trans h
          refine rx_ic (v := 0) (pc2 := 722) op0_721 (by decide) rfl ?_
          cases h
          obtain ⟨rfl, rfl⟩ := hl _ _ rfl
          exact ry_rz (x := 0) op0_722 ms_0 rfl (by decide)
      have h := (if_neg b22).symm.trans h
      by_cases b23 : ((xs.getD a3.toNatClampNeg 0) &&& 31) = 20
      · have h := (if_pos b23).symm.trans h
        refine ry_ti (w := 20) (off := 691) (tgt := 723) op0_32 (by rw [b23] <;> decide) (by decide) (by decide) (by decide) (by decide) ?_
        refine rx_p (L2 := [some (.ref 10002), some (.ref 0), some (.ref 115), some (.int a3)]) (S2 := [.ref 0]) (pc2 := 724) op0_723 rfl rfl ?_
        obtain ⟨⟨r550, m549⟩, f551, h⟩ := rq_bind h
        try dsimp only at h
        refine ry_iv (p := 0) (vs := []) (T := []) (pc2 := 727) op0_724 ms_121 (by decide) rfl rfl (Nat.le_of_ble_eq_true rfl) (Nat.le_of_ble_eq_true rfl) sp_0 (lt_leaves_ok xs (by omega)  f551) rfl ?_
        show rn_R _ _ _ _ _ [.int r550] _ _ _
        refine rx_p (L2 := [some (.ref 10002), some (.ref 0), some (.ref 115), some (.int a3)]) (S2 := [.ref 115, .int r550]) (pc2 := 728) op0_727 rfl rfl ?_
        obtain ⟨⟨r553, m552⟩, f554, h⟩ := rq_bind h
        try dsimp only at h
        refine ry_iv (p := 115) (vs := []) (T := [.int r550]) (pc2 := 731) op0_728 ms_203 (by decide) rfl rfl (Nat.le_of_ble_eq_true rfl) (Nat.le_of_ble_eq_true rfl) sp_115 (mo_leaves_ok xs (by omega)  f554) rfl ?_
        show rn_R _ _ _ _ _ [.int r553, .int r550] _ _ _
        refine ry_ic_eq (tgt := 1016) (pc2 := 734) op0_731 (by decide) (by decide) rfl (fun b555 => ?_) (fun b555 => ?_)
        · have h := (if_pos b555).symm.trans h
          obtain ⟨x556, ex556, h⟩ := rq_bv h
          refine rx_inc (w := 5) (v := x556) (L2 := [some (.ref 10002), some (.ref 0), some (.ref 115), some (.int x556)]) (pc2 := 1019) op0_1016 rfl (by decide) ex556 rfl rfl ?_
          refine ry_go (tgt := 18) op0_1019 (by decide) (by decide) ?_
          exact ih _ _ h
        · have h := (if_neg b555).symm.trans h
          refine rx_ic (v := 0) (pc2 := 735) op0_734 (by decide) rfl ?_
          cases h
          obtain ⟨rfl, rfl⟩ := hl _ _ rfl
          exact ry_rz (x := 0) op0_735 ms_0 rfl (by decide)
      have h := (if_neg b23).symm.trans h
      by_cases b24 : ((xs.getD a3.toNatClampNeg 0) &&& 31) = 21
      · have h := (if_pos b24).symm.trans h
        refine ry_ti (w := 21) (off := 704) (tgt := 736) op0_32 (by rw [b24] <;> decide) (by decide) (by decide) (by decide) (by decide) ?_
        refine rx_p (L2 := [some (.ref 10002), some (.ref 0), some (.ref 115), some (.int a3)]) (S2 := [.ref 0]) (pc2 := 737) op0_736 rfl rfl ?_
        refine rx_p (L2 := [some (.ref 10002), some (.ref 0), some (.ref 115), some (.int a3)]) (S2 := [.ref 10002, .ref 0]) (pc2 := 738) op0_737 rfl rfl ?_
        refine rx_p (L2 := [some (.ref 10002), some (.ref 0), some (.ref 115), some (.int a3)]) (S2 := [.int a3, .ref 10002, .ref 0]) (pc2 := 739) op0_738 rfl rfl ?_
        refine rx_ic (v := 1) (pc2 := 740) op0_739 (by decide) rfl ?_
        refine rx_p (L2 := [some (.ref 10002), some (.ref 0), some (.ref 115), some (.int a3)]) (S2 := [.int (a3 + 1), .ref 10002, .ref 0]) (pc2 := 741) op0_740 rfl rfl ?_
        obtain ⟨k557, h⟩ := rq_chk h
        refine rx_ix (pc2 := 742) op0_741 (by decide) k557 rfl ?_
        show rn_R _ _ _ _ _ [.int (xs.getD (a3 + 1).toNatClampNeg 0), .ref 0] _ _ _
        refine rx_p (L2 := [some (.ref 10002), some (.ref 0), some (.ref 115), some (.int a3)]) (S2 := [.ref 10002, .int (xs.getD (a3 + 1).toNatClampNeg 0), .ref 0]) (pc2 := 743) op0_742 rfl rfl ?_
        refine rx_p (L2 := [some (.ref 10002), some (.ref 0), some (.ref 115), some (.int a3)]) (S2 := [.int a3, .ref 10002, .int (xs.getD (a3 + 1).toNatClampNeg 0), .ref 0]) (pc2 := 744) op0_743 rfl rfl ?_
        refine rx_ic (v := 2) (pc2 := 745) op0_744 (by decide) rfl ?_
        refine rx_p (L2 := [some (.ref 10002), some (.ref 0), some (.ref 115), some (.int a3)]) (S2 := [.int (a3 + 2), .ref 10002, .int (xs.getD (a3 + 1).toNatClampNeg 0), .ref 0]) (pc2 := 746) op0_745 rfl rfl ?_
        obtain ⟨k558, h⟩ := rq_chk h
        refine rx_ix (pc2 := 747) op0_746 (by decide) k558 rfl ?_
        show rn_R _ _ _ _ _ [.int (xs.getD (a3 + 2).toNatClampNeg 0), .int (xs.getD (a3 + 1).toNatClampNeg 0), .ref 0] _ _ _
        obtain ⟨⟨r560, m559⟩, f561, h⟩ := rq_bind h
        try dsimp only at h
        refine ry_iv (p := 0) (vs := [.int (xs.getD (a3 + 1).toNatClampNeg 0), .int (xs.getD (a3 + 2).toNatClampNeg 0)]) (T := []) (pc2 := 750) op0_747 ms_124 (by decide) rfl rfl (Nat.le_of_ble_eq_true rfl) (Nat.le_of_ble_eq_true rfl) sp_0 (lt_who_ok xs (by omega)  f561) rfl ?_
        show rn_R _ _ _ _ _ [.int r560] _ _ _
        refine rx_p (L2 := [some (.ref 10002), some (.ref 0), some (.ref 115), some (.int a3)]) (S2 := [.ref 115, .int r560]) (pc2 := 751) op0_750 rfl rfl ?_
        refine rx_p (L2 := [some (.ref 10002), some (.ref 0), some (.ref 115), some (.int a3)]) (S2 := [.ref 10002, .ref 115, .int r560]) (pc2 := 752) op0_751 rfl rfl ?_
        refine rx_p (L2 := [some (.ref 10002), some (.ref 0), some (.ref 115), some (.int a3)]) (S2 := [.int a3, .ref 10002, .ref 115, .int r560]) (pc2 := 753) op0_752 rfl rfl ?_
        refine rx_ic (v := 1) (pc2 := 754) op0_753 (by decide) rfl ?_
        refine rx_p (L2 := [some (.ref 10002), some (.ref 0), some (.ref 115), some (.int a3)]) (S2 := [.int (a3 + 1), .ref 10002, .ref 115, .int r560]) (pc2 := 755) op0_754 rfl rfl ?_
        obtain ⟨k562, h⟩ := rq_chk h
        refine rx_ix (pc2 := 756) op0_755 (by decide) k562 rfl ?_
        show rn_R _ _ _ _ _ [.int (xs.getD (a3 + 1).toNatClampNeg 0), .ref 115, .int r560] _ _ _
        refine rx_p (L2 := [some (.ref 10002), some (.ref 0), some (.ref 115), some (.int a3)]) (S2 := [.ref 10002, .int (xs.getD (a3 + 1).toNatClampNeg 0), .ref 115, .int r560]) (pc2 := 757) op0_756 rfl rfl ?_
        refine rx_p (L2 := [some (.ref 10002), some (.ref 0), some (.ref 115), some (.int a3)]) (S2 := [.int a3, .ref 10002, .int (xs.getD (a3 + 1).toNatClampNeg 0), .ref 115, .int r560]) (pc2 := 758) op0_757 rfl rfl ?_
        refine rx_ic (v := 2) (pc2 := 759) op0_758 (by decide) rfl ?_
        refine rx_p (L2 := [some (.ref 10002), some (.ref 0), some (.ref 115), some (.int a3)]) (S2 := [.int (a3 + 2), .ref 10002, .int (xs.getD (a3 + 1).toNatClampNeg 0), .ref 115, .int r560]) (pc2 := 760) op0_759 rfl rfl ?_
        obtain ⟨k563, h⟩ := rq_chk h
        refine rx_ix (pc2 := 761) op0_760 (by decide) k563 rfl ?_
        show rn_R _ _ _ _ _ [.int (xs.getD (a3 + 2).toNatClampNeg 0), .int (xs.getD (a3 + 1).toNatClampNeg 0), .ref 115, .int r560] _ _ _
        obtain ⟨⟨r565, m564⟩, f566, h⟩ := rq_bind h
        try dsimp only at h
        refine ry_iv (p := 115) (vs := [.int (xs.getD (a3 + 1).toNatClampNeg 0), .int (xs.getD (a3 + 2).toNatClampNeg 0)]) (T := [.int r560]) (pc2 := 764) op0_761 ms_205 (by decide) rfl rfl (Nat.le_of_ble_eq_true rfl) (Nat.le_of_ble_eq_true rfl) sp_115 (mo_who_ok xs (by omega)  f566) rfl ?_
        show rn_R _ _ _ _ _ [.int r565, .int r560] _ _ _
        refine ry_ic_eq (tgt := 1016) (pc2 := 767) op0_764 (by decide) (by decide) rfl (fun b567 => ?_) (fun b567 => ?_)
        · have h := (if_pos b567).symm.trans h
          obtain ⟨x568, ex568, h⟩ := rq_bv h
          refine rx_inc (w := 5) (v := x568) (L2 := [some (.ref 10002), some (.ref 0), some (.ref 115), some (.int x568)]) (pc2 := 1019) op0_1016 rfl (by decide) ex568 rfl rfl ?_
          refine ry_go (tgt := 18) op0_1019 (by decide) (by decide) ?_
          exact ih _ _ h
        · have h := (if_neg b567).symm.trans h
          refine rx_ic (v := 0) (pc2 := 768) op0_767 (by decide) rfl ?_
          cases h
          obtain ⟨rfl, rfl⟩ := hl _ _ rfl
          exact ry_rz (x := 0) op0_768 ms_0 rfl (by decide)
      have h := (if_neg b24).symm.trans h
      by_cases b25 : ((xs.getD a3.toNatClampNeg 0) &&& 31) = 22
      · have h := (if_pos b25).symm.trans h
        refine ry_ti (w := 22) (off := 737) (tgt := 769) op0_32 (by rw [b25] <;> decide) (by decide) (by decide) (by decide) (by decide) ?_
        refine rx_p (L2 := [some (.ref 10002), some (.ref 0), some (.ref 115), some (.int a3)]) (S2 := [.ref 0]) (pc2 := 770) op0_769 rfl rfl ?_
        refine rx_p (L2 := [some (.ref 10002), some (.ref 0), some (.ref 115), some (.int a3)]) (S2 := [.ref 10002, .ref 0]) (pc2 := 771) op0_770 rfl rfl ?_
        refine rx_p (L2 := [some (.ref 10002), some (.ref 0), some (.ref 115), some (.int a3)]) (S2 := [.int a3, .ref 10002, .ref 0]) (pc2 := 772) op0_771 rfl rfl ?_
        refine rx_ic (v := 1) (pc2 := 773) op0_772 (by decide) rfl ?_
        refine rx_p (L2 := [some (.ref 10002), some (.ref 0), some (.ref 115), some (.int a3)]) (S2 := [.int (a3 + 1), .ref 10002, .ref 0]) (pc2 := 774) op0_773 rfl rfl ?_
        obtain ⟨k569, h⟩ := rq_chk h
        refine rx_ix (pc2 := 775) op0_774 (by decide) k569 rfl ?_
        show rn_R _ _ _ _ _ [.int (xs.getD (a3 + 1).toNatClampNeg 0), .ref 0] _ _ _
        obtain ⟨⟨r571, m570⟩, f572, h⟩ := rq_bind h
        try dsimp only at h
        refine ry_iv (p := 0) (vs := [.int (xs.getD (a3 + 1).toNatClampNeg 0)]) (T := []) (pc2 := 778) op0_775 ms_125 (by decide) rfl rfl (Nat.le_of_ble_eq_true rfl) (Nat.le_of_ble_eq_true rfl) sp_0 (lt_best_ok xs (by omega)  f572) rfl ?_
        show rn_R _ _ _ _ _ [.int r571] _ _ _
        refine rx_p (L2 := [some (.ref 10002), some (.ref 0), some (.ref 115), some (.int a3)]) (S2 := [.ref 115, .int r571]) (pc2 := 779) op0_778 rfl rfl ?_
        refine rx_p (L2 := [some (.ref 10002), some (.ref 0), some (.ref 115), some (.int a3)]) (S2 := [.ref 10002, .ref 115, .int r571]) (pc2 := 780) op0_779 rfl rfl ?_
        refine rx_p (L2 := [some (.ref 10002), some (.ref 0), some (.ref 115), some (.int a3)]) (S2 := [.int a3, .ref 10002, .ref 115, .int r571]) (pc2 := 781) op0_780 rfl rfl ?_
        refine rx_ic (v := 1) (pc2 := 782) op0_781 (by decide) rfl ?_
        refine rx_p (L2 := [some (.ref 10002), some (.ref 0), some (.ref 115), some (.int a3)]) (S2 := [.int (a3 + 1), .ref 10002, .ref 115, .int r571]) (pc2 := 783) op0_782 rfl rfl ?_
        obtain ⟨k573, h⟩ := rq_chk h
        refine rx_ix (pc2 := 784) op0_783 (by decide) k573 rfl ?_
        show rn_R _ _ _ _ _ [.int (xs.getD (a3 + 1).toNatClampNeg 0), .ref 115, .int r571] _ _ _
        obtain ⟨⟨r575, m574⟩, f576, h⟩ := rq_bind h
        try dsimp only at h
        refine ry_iv (p := 115) (vs := [.int (xs.getD (a3 + 1).toNatClampNeg 0)]) (T := [.int r571]) (pc2 := 787) op0_784 ms_206 (by decide) rfl rfl (Nat.le_of_ble_eq_true rfl) (Nat.le_of_ble_eq_true rfl) sp_115 (mo_best_ok xs (by omega)  f576) rfl ?_
        show rn_R _ _ _ _ _ [.int r575, .int r571] _ _ _
        refine ry_ic_eq (tgt := 1016) (pc2 := 790) op0_787 (by decide) (by decide) rfl (fun b577 => ?_) (fun b577 => ?_)
        · have h := (if_pos b577).symm.trans h
          obtain ⟨x578, ex578, h⟩ := rq_bv h
          refine rx_inc (w := 5) (v := x578) (L2 := [some (.ref 10002), some (.ref 0), some (.ref 115), some (.int x578)]) (pc2 := 1019) op0_1016 rfl (by decide) ex578 rfl rfl ?_
          refine ry_go (tgt := 18) op0_1019 (by decide) (by decide) ?_
          exact ih _ _ h
        · have h := (if_neg b577).symm.trans h
          refine rx_ic (v := 0) (pc2 := 791) op0_790 (by decide) rfl ?_
          cases h
          obtain ⟨rfl, rfl⟩ := hl _ _ rfl
          exact ry_rz (x := 0) op0_791 ms_0 rfl (by decide)
      have h := (if_neg b25).symm.trans h
      by_cases b26 : ((xs.getD a3.toNatClampNeg 0) &&& 31) = 23
      · have h := (if_pos b26).symm.trans h
        refine ry_ti (w := 23) (off := 760) (tgt := 792) op0_32 (by rw [b26] <;> decide) (by decide) (by decide) (by decide) (by decide) ?_
        refine rx_p (L2 := [some (.ref 10002), some (.ref 0), some (.ref 115), some (.int a3)]) (S2 := [.ref 0]) (pc2 := 793) op0_792 rfl rfl ?_
        refine rx_p (L2 := [some (.ref 10002), some (.ref 0), some (.ref 115), some (.int a3)]) (S2 := [.ref 10002, .ref 0]) (pc2 := 794) op0_793 rfl rfl ?_
        refine rx_p (L2 := [some (.ref 10002), some (.ref 0), some (.ref 115), some (.int a3)]) (S2 := [.int a3, .ref 10002, .ref 0]) (pc2 := 795) op0_794 rfl rfl ?_
        refine rx_ic (v := 1) (pc2 := 796) op0_795 (by decide) rfl ?_
        refine rx_p (L2 := [some (.ref 10002), some (.ref 0), some (.ref 115), some (.int a3)]) (S2 := [.int (a3 + 1), .ref 10002, .ref 0]) (pc2 := 797) op0_796 rfl rfl ?_
        obtain ⟨k579, h⟩ := rq_chk h
        refine rx_ix (pc2 := 798) op0_797 (by decide) k579 rfl ?_
        show rn_R _ _ _ _ _ [.int (xs.getD (a3 + 1).toNatClampNeg 0), .ref 0] _ _ _
        obtain ⟨⟨r581, m580⟩, f582, h⟩ := rq_bind h
        try dsimp only at h
        refine ry_iv (p := 0) (vs := [.int (xs.getD (a3 + 1).toNatClampNeg 0)]) (T := []) (pc2 := 801) op0_798 ms_130 (by decide) rfl rfl (Nat.le_of_ble_eq_true rfl) (Nat.le_of_ble_eq_true rfl) sp_0 (lt_falls_ok xs (by omega)  f582) rfl ?_
        show rn_R _ _ _ _ _ [.int r581] _ _ _
        refine rx_p (L2 := [some (.ref 10002), some (.ref 0), some (.ref 115), some (.int a3)]) (S2 := [.ref 115, .int r581]) (pc2 := 802) op0_801 rfl rfl ?_
        refine rx_p (L2 := [some (.ref 10002), some (.ref 0), some (.ref 115), some (.int a3)]) (S2 := [.ref 10002, .ref 115, .int r581]) (pc2 := 803) op0_802 rfl rfl ?_
        refine rx_p (L2 := [some (.ref 10002), some (.ref 0), some (.ref 115), some (.int a3)]) (S2 := [.int a3, .ref 10002, .ref 115, .int r581]) (pc2 := 804) op0_803 rfl rfl ?_
        refine rx_ic (v := 1) (pc2 := 805) op0_804 (by decide) rfl ?_
        refine rx_p (L2 := [some (.ref 10002), some (.ref 0), some (.ref 115), some (.int a3)]) (S2 := [.int (a3 + 1), .ref 10002, .ref 115, .int r581]) (pc2 := 806) op0_805 rfl rfl ?_
        obtain ⟨k583, h⟩ := rq_chk h
        refine rx_ix (pc2 := 807) op0_806 (by decide) k583 rfl ?_
        show rn_R _ _ _ _ _ [.int (xs.getD (a3 + 1).toNatClampNeg 0), .ref 115, .int r581] _ _ _
        obtain ⟨⟨r585, m584⟩, f586, h⟩ := rq_bind h
        try dsimp only at h
        refine ry_iv (p := 115) (vs := [.int (xs.getD (a3 + 1).toNatClampNeg 0)]) (T := [.int r581]) (pc2 := 810) op0_807 ms_210 (by decide) rfl rfl (Nat.le_of_ble_eq_true rfl) (Nat.le_of_ble_eq_true rfl) sp_115 (mo_falls_ok xs (by omega)  f586) rfl ?_
        show rn_R _ _ _ _ _ [.int r585, .int r581] _ _ _
        refine ry_ic_eq (tgt := 1016) (pc2 := 813) op0_810 (by decide) (by decide) rfl (fun b587 => ?_) (fun b587 => ?_)
        · have h := (if_pos b587).symm.trans h
          obtain ⟨x588, ex588, h⟩ := rq_bv h
          refine rx_inc (w := 5) (v := x588) (L2 := [some (.ref 10002), some (.ref 0), some (.ref 115), some (.int x588)]) (pc2 := 1019) op0_1016 rfl (by decide) ex588 rfl rfl ?_
          refine ry_go (tgt := 18) op0_1019 (by decide) (by decide) ?_
          exact ih _ _ h
        · have h := (if_neg b587).symm.trans h
          refine rx_ic (v := 0) (pc2 := 814) op0_813 (by decide) rfl ?_
          cases h
          obtain ⟨rfl, rfl⟩ := hl _ _ rfl
          exact ry_rz (x := 0) op0_814 ms_0 rfl (by decide)
      have h := (if_neg b26).symm.trans h
      by_cases b27 : ((xs.getD a3.toNatClampNeg 0) &&& 31) = 24
      · have h := (if_pos b27).symm.trans h
        refine ry_ti (w := 24) (off := 783) (tgt := 815) op0_32 (by rw [b27] <;> decide) (by decide) (by decide) (by decide) (by decide) ?_
        refine rx_p (L2 := [some (.ref 10002), some (.ref 0), some (.ref 115), some (.int a3)]) (S2 := [.ref 0]) (pc2 := 816) op0_815 rfl rfl ?_
        refine rx_p (L2 := [some (.ref 10002), some (.ref 0), some (.ref 115), some (.int a3)]) (S2 := [.ref 10002, .ref 0]) (pc2 := 817) op0_816 rfl rfl ?_
        refine rx_p (L2 := [some (.ref 10002), some (.ref 0), some (.ref 115), some (.int a3)]) (S2 := [.int a3, .ref 10002, .ref 0]) (pc2 := 818) op0_817 rfl rfl ?_
        refine rx_ic (v := 1) (pc2 := 819) op0_818 (by decide) rfl ?_
        refine rx_p (L2 := [some (.ref 10002), some (.ref 0), some (.ref 115), some (.int a3)]) (S2 := [.int (a3 + 1), .ref 10002, .ref 0]) (pc2 := 820) op0_819 rfl rfl ?_
        obtain ⟨k589, h⟩ := rq_chk h
        refine rx_ix (pc2 := 821) op0_820 (by decide) k589 rfl ?_
        show rn_R _ _ _ _ _ [.int (xs.getD (a3 + 1).toNatClampNeg 0), .ref 0] _ _ _
        refine rx_p (L2 := [some (.ref 10002), some (.ref 0), some (.ref 115), some (.int a3)]) (S2 := [.ref 10002, .int (xs.getD (a3 + 1).toNatClampNeg 0), .ref 0]) (pc2 := 822) op0_821 rfl rfl ?_
        refine rx_p (L2 := [some (.ref 10002), some (.ref 0), some (.ref 115), some (.int a3)]) (S2 := [.int a3, .ref 10002, .int (xs.getD (a3 + 1).toNatClampNeg 0), .ref 0]) (pc2 := 823) op0_822 rfl rfl ?_
        refine rx_ic (v := 2) (pc2 := 824) op0_823 (by decide) rfl ?_
        refine rx_p (L2 := [some (.ref 10002), some (.ref 0), some (.ref 115), some (.int a3)]) (S2 := [.int (a3 + 2), .ref 10002, .int (xs.getD (a3 + 1).toNatClampNeg 0), .ref 0]) (pc2 := 825) op0_824 rfl rfl ?_
        obtain ⟨k590, h⟩ := rq_chk h
        refine rx_ix (pc2 := 826) op0_825 (by decide) k590 rfl ?_
        show rn_R _ _ _ _ _ [.int (xs.getD (a3 + 2).toNatClampNeg 0), .int (xs.getD (a3 + 1).toNatClampNeg 0), .ref 0] _ _ _
        obtain ⟨⟨r592, m591⟩, f593, h⟩ := rq_bind h
        try dsimp only at h
        refine ry_iv (p := 0) (vs := [.int (xs.getD (a3 + 1).toNatClampNeg 0), .int (xs.getD (a3 + 2).toNatClampNeg 0)]) (T := []) (pc2 := 829) op0_826 ms_132 (by decide) rfl rfl (Nat.le_of_ble_eq_true rfl) (Nat.le_of_ble_eq_true rfl) sp_0 (lt_knows_ok xs (by omega)  f593) rfl ?_
        show rn_R _ _ _ _ _ [.int r592] _ _ _
        refine rx_p (L2 := [some (.ref 10002), some (.ref 0), some (.ref 115), some (.int a3)]) (S2 := [.ref 115, .int r592]) (pc2 := 830) op0_829 rfl rfl ?_
        refine rx_p (L2 := [some (.ref 10002), some (.ref 0), some (.ref 115), some (.int a3)]) (S2 := [.ref 10002, .ref 115, .int r592]) (pc2 := 831) op0_830 rfl rfl ?_
        refine rx_p (L2 := [some (.ref 10002), some (.ref 0), some (.ref 115), some (.int a3)]) (S2 := [.int a3, .ref 10002, .ref 115, .int r592]) (pc2 := 832) op0_831 rfl rfl ?_
        refine rx_ic (v := 1) (pc2 := 833) op0_832 (by decide) rfl ?_
        refine rx_p (L2 := [some (.ref 10002), some (.ref 0), some (.ref 115), some (.int a3)]) (S2 := [.int (a3 + 1), .ref 10002, .ref 115, .int r592]) (pc2 := 834) op0_833 rfl rfl ?_
        obtain ⟨k594, h⟩ := rq_chk h
        refine rx_ix (pc2 := 835) op0_834 (by decide) k594 rfl ?_
        show rn_R _ _ _ _ _ [.int (xs.getD (a3 + 1).toNatClampNeg 0), .ref 115, .int r592] _ _ _
        refine rx_p (L2 := [some (.ref 10002), some (.ref 0), some (.ref 115), some (.int a3)]) (S2 := [.ref 10002, .int (xs.getD (a3 + 1).toNatClampNeg 0), .ref 115, .int r592]) (pc2 := 836) op0_835 rfl rfl ?_
        refine rx_p (L2 := [some (.ref 10002), some (.ref 0), some (.ref 115), some (.int a3)]) (S2 := [.int a3, .ref 10002, .int (xs.getD (a3 + 1).toNatClampNeg 0), .ref 115, .int r592]) (pc2 := 837) op0_836 rfl rfl ?_
        refine rx_ic (v := 2) (pc2 := 838) op0_837 (by decide) rfl ?_
        refine rx_p (L2 := [some (.ref 10002), some (.ref 0), some (.ref 115), some (.int a3)]) (S2 := [.int (a3 + 2), .ref 10002, .int (xs.getD (a3 + 1).toNatClampNeg 0), .ref 115, .int r592]) (pc2 := 839) op0_838 rfl rfl ?_
        obtain ⟨k595, h⟩ := rq_chk h
        refine rx_ix (pc2 := 840) op0_839 (by decide) k595 rfl ?_
        show rn_R _ _ _ _ _ [.int (xs.getD (a3 + 2).toNatClampNeg 0), .int (xs.getD (a3 + 1).toNatClampNeg 0), .ref 115, .int r592] _ _ _
        obtain ⟨⟨r597, m596⟩, f598, h⟩ := rq_bind h
        try dsimp only at h
        refine ry_iv (p := 115) (vs := [.int (xs.getD (a3 + 1).toNatClampNeg 0), .int (xs.getD (a3 + 2).toNatClampNeg 0)]) (T := [.int r592]) (pc2 := 843) op0_840 ms_212 (by decide) rfl rfl (Nat.le_of_ble_eq_true rfl) (Nat.le_of_ble_eq_true rfl) sp_115 (mo_knows_ok xs (by omega)  f598) rfl ?_
        show rn_R _ _ _ _ _ [.int r597, .int r592] _ _ _
        refine ry_ic_eq (tgt := 1016) (pc2 := 846) op0_843 (by decide) (by decide) rfl (fun b599 => ?_) (fun b599 => ?_)
        · have h := (if_pos b599).symm.trans h
          obtain ⟨x600, ex600, h⟩ := rq_bv h
          refine rx_inc (w := 5) (v := x600) (L2 := [some (.ref 10002), some (.ref 0), some (.ref 115), some (.int x600)]) (pc2 := 1019) op0_1016 rfl (by decide) ex600 rfl rfl ?_
          refine ry_go (tgt := 18) op0_1019 (by decide) (by decide) ?_
          exact ih _ _ h
        · have h := (if_neg b599).symm.trans h
          refine rx_ic (v := 0) (pc2 := 847) op0_846 (by decide) rfl ?_
          cases h
          obtain ⟨rfl, rfl⟩ := hl _ _ rfl
          exact ry_rz (x := 0) op0_847 ms_0 rfl (by decide)
      have h := (if_neg b27).symm.trans h
      by_cases b28 : ((xs.getD a3.toNatClampNeg 0) &&& 31) = 25
      · have h := (if_pos b28).symm.trans h
        refine ry_ti (w := 25) (off := 816) (tgt := 848) op0_32 (by rw [b28] <;> decide) (by decide) (by decide) (by decide) (by decide) ?_
        refine rx_p (L2 := [some (.ref 10002), some (.ref 0), some (.ref 115), some (.int a3)]) (S2 := [.ref 0]) (pc2 := 849) op0_848 rfl rfl ?_
        refine rx_p (L2 := [some (.ref 10002), some (.ref 0), some (.ref 115), some (.int a3)]) (S2 := [.ref 10002, .ref 0]) (pc2 := 850) op0_849 rfl rfl ?_
        refine rx_p (L2 := [some (.ref 10002), some (.ref 0), some (.ref 115), some (.int a3)]) (S2 := [.int a3, .ref 10002, .ref 0]) (pc2 := 851) op0_850 rfl rfl ?_
        refine rx_ic (v := 1) (pc2 := 852) op0_851 (by decide) rfl ?_
        refine rx_p (L2 := [some (.ref 10002), some (.ref 0), some (.ref 115), some (.int a3)]) (S2 := [.int (a3 + 1), .ref 10002, .ref 0]) (pc2 := 853) op0_852 rfl rfl ?_
        obtain ⟨k601, h⟩ := rq_chk h
        refine rx_ix (pc2 := 854) op0_853 (by decide) k601 rfl ?_
        show rn_R _ _ _ _ _ [.int (xs.getD (a3 + 1).toNatClampNeg 0), .ref 0] _ _ _
        obtain ⟨⟨r603, m602⟩, f604, h⟩ := rq_bind h
        try dsimp only at h
        refine ry_iv (p := 0) (vs := [.int (xs.getD (a3 + 1).toNatClampNeg 0)]) (T := []) (pc2 := 857) op0_854 ms_136 (by decide) rfl rfl (Nat.le_of_ble_eq_true rfl) (Nat.le_of_ble_eq_true rfl) sp_0 (lt_count_ok xs (by omega)  f604) rfl ?_
        show rn_R _ _ _ _ _ [.int r603] _ _ _
        refine rx_p (L2 := [some (.ref 10002), some (.ref 0), some (.ref 115), some (.int a3)]) (S2 := [.ref 115, .int r603]) (pc2 := 858) op0_857 rfl rfl ?_
        refine rx_p (L2 := [some (.ref 10002), some (.ref 0), some (.ref 115), some (.int a3)]) (S2 := [.ref 10002, .ref 115, .int r603]) (pc2 := 859) op0_858 rfl rfl ?_
        refine rx_p (L2 := [some (.ref 10002), some (.ref 0), some (.ref 115), some (.int a3)]) (S2 := [.int a3, .ref 10002, .ref 115, .int r603]) (pc2 := 860) op0_859 rfl rfl ?_
        refine rx_ic (v := 1) (pc2 := 861) op0_860 (by decide) rfl ?_
        refine rx_p (L2 := [some (.ref 10002), some (.ref 0), some (.ref 115), some (.int a3)]) (S2 := [.int (a3 + 1), .ref 10002, .ref 115, .int r603]) (pc2 := 862) op0_861 rfl rfl ?_
        obtain ⟨k605, h⟩ := rq_chk h
        refine rx_ix (pc2 := 863) op0_862 (by decide) k605 rfl ?_
        show rn_R _ _ _ _ _ [.int (xs.getD (a3 + 1).toNatClampNeg 0), .ref 115, .int r603] _ _ _
        obtain ⟨⟨r607, m606⟩, f608, h⟩ := rq_bind h
        try dsimp only at h
        refine ry_iv (p := 115) (vs := [.int (xs.getD (a3 + 1).toNatClampNeg 0)]) (T := [.int r603]) (pc2 := 866) op0_863 ms_158 (by decide) rfl rfl (Nat.le_of_ble_eq_true rfl) (Nat.le_of_ble_eq_true rfl) sp_115 (mo_count_ok xs (by omega)  f608) rfl ?_
        show rn_R _ _ _ _ _ [.int r607, .int r603] _ _ _
        refine ry_ic_eq (tgt := 1016) (pc2 := 869) op0_866 (by decide) (by decide) rfl (fun b609 => ?_) (fun b609 => ?_)
        · have h := (if_pos b609).symm.trans h
          obtain ⟨x610, ex610, h⟩ := rq_bv h
          refine rx_inc (w := 5) (v := x610) (L2 := [some (.ref 10002), some (.ref 0), some (.ref 115), some (.int x610)]) (pc2 := 1019) op0_1016 rfl (by decide) ex610 rfl rfl ?_
          refine ry_go (tgt := 18) op0_1019 (by decide) (by decide) ?_
          exact ih _ _ h
        · have h := (if_neg b609).symm.trans h
          refine rx_ic (v := 0) (pc2 := 870) op0_869 (by decide) rfl ?_
          cases h
          obtain ⟨rfl, rfl⟩ := hl _ _ rfl
          exact ry_rz (x := 0) op0_870 ms_0 rfl (by decide)
      have h := (if_neg b28).symm.trans h
      by_cases b29 : ((xs.getD a3.toNatClampNeg 0) &&& 31) = 26
      · have h := (if_pos b29).symm.trans h
        refine ry_ti (w := 26) (off := 839) (tgt := 871) op0_32 (by rw [b29] <;> decide) (by decide) (by decide) (by decide) (by decide) ?_
        refine rx_p (L2 := [some (.ref 10002), some (.ref 0), some (.ref 115), some (.int a3)]) (S2 := [.ref 0]) (pc2 := 872) op0_871 rfl rfl ?_
        obtain ⟨⟨r612, m611⟩, f613, h⟩ := rq_bind h
        try dsimp only at h
        refine ry_iv (p := 0) (vs := []) (T := []) (pc2 := 875) op0_872 ms_137 (by decide) rfl rfl (Nat.le_of_ble_eq_true rfl) (Nat.le_of_ble_eq_true rfl) sp_0 (lt_image_ok xs (by omega)  f613) rfl ?_
        show rn_R _ _ _ _ _ [.int r612] _ _ _
        refine rx_p (L2 := [some (.ref 10002), some (.ref 0), some (.ref 115), some (.int a3)]) (S2 := [.ref 115, .int r612]) (pc2 := 876) op0_875 rfl rfl ?_
        obtain ⟨⟨r615, m614⟩, f616, h⟩ := rq_bind h
        try dsimp only at h
        refine ry_iv (p := 115) (vs := []) (T := [.int r612]) (pc2 := 879) op0_876 ms_215 (by decide) rfl rfl (Nat.le_of_ble_eq_true rfl) (Nat.le_of_ble_eq_true rfl) sp_115 (mo_image_ok xs (by omega)  f616) rfl ?_
        show rn_R _ _ _ _ _ [.int r615, .int r612] _ _ _
        refine ry_ic_eq (tgt := 1016) (pc2 := 882) op0_879 (by decide) (by decide) rfl (fun b617 => ?_) (fun b617 => ?_)
        · have h := (if_pos b617).symm.trans h
          obtain ⟨x618, ex618, h⟩ := rq_bv h
          refine rx_inc (w := 5) (v := x618) (L2 := [some (.ref 10002), some (.ref 0), some (.ref 115), some (.int x618)]) (pc2 := 1019) op0_1016 rfl (by decide) ex618 rfl rfl ?_
          refine ry_go (tgt := 18) op0_1019 (by decide) (by decide) ?_
          exact ih _ _ h
        · have h := (if_neg b617).symm.trans h
          refine rx_ic (v := 0) (pc2 := 883) op0_882 (by decide) rfl ?_
          cases h
          obtain ⟨rfl, rfl⟩ := hl _ _ rfl
          exact ry_rz (x := 0) op0_883 ms_0 rfl (by decide)
      have h := (if_neg b29).symm.trans h
      by_cases b30 : ((xs.getD a3.toNatClampNeg 0) &&& 31) = 27
      · have h := (if_pos b30).symm.trans h
        refine ry_ti (w := 27) (off := 852) (tgt := 884) op0_32 (by rw [b30] <;> decide) (by decide) (by decide) (by decide) (by decide) ?_
        refine rx_p (L2 := [some (.ref 10002), some (.ref 0), some (.ref 115), some (.int a3)]) (S2 := [.ref 0]) (pc2 := 885) op0_884 rfl rfl ?_
        obtain ⟨⟨r620, m619⟩, f621, h⟩ := rq_bind h
        try dsimp only at h
        refine ry_iv (p := 0) (vs := []) (T := []) (pc2 := 888) op0_885 ms_139 (by decide) rfl rfl (Nat.le_of_ble_eq_true rfl) (Nat.le_of_ble_eq_true rfl) sp_0 (lt_restore_ok xs (by omega)  f621) rfl ?_
        show rn_R _ _ _ _ _ [.int r620] _ _ _
        refine rx_p (L2 := [some (.ref 10002), some (.ref 0), some (.ref 115), some (.int a3)]) (S2 := [.ref 115, .int r620]) (pc2 := 889) op0_888 rfl rfl ?_
        obtain ⟨⟨r623, m622⟩, f624, h⟩ := rq_bind h
        try dsimp only at h
        refine ry_iv (p := 115) (vs := []) (T := [.int r620]) (pc2 := 892) op0_889 ms_216 (by decide) rfl rfl (Nat.le_of_ble_eq_true rfl) (Nat.le_of_ble_eq_true rfl) sp_115 (mo_restore_ok xs (by omega)  f624) rfl ?_
        show rn_R _ _ _ _ _ [.int r623, .int r620] _ _ _
        refine ry_ic_eq (tgt := 1016) (pc2 := 895) op0_892 (by decide) (by decide) rfl (fun b625 => ?_) (fun b625 => ?_)
        · have h := (if_pos b625).symm.trans h
          obtain ⟨x626, ex626, h⟩ := rq_bv h
          refine rx_inc (w := 5) (v := x626) (L2 := [some (.ref 10002), some (.ref 0), some (.ref 115), some (.int x626)]) (pc2 := 1019) op0_1016 rfl (by decide) ex626 rfl rfl ?_
          refine ry_go (tgt := 18) op0_1019 (by decide) (by decide) ?_
          exact ih _ _ h
        · have h := (if_neg b625).symm.trans h
          refine rx_ic (v := 0) (pc2 := 896) op0_895 (by decide) rfl ?_
          cases h
          obtain ⟨rfl, rfl⟩ := hl _ _ rfl
          exact ry_rz (x := 0) op0_896 ms_0 rfl (by decide)
      have h := (if_neg b30).symm.trans h
      by_cases b31 : ((xs.getD a3.toNatClampNeg 0) &&& 31) = 28
      · have h := (if_pos b31).symm.trans h
        refine ry_ti (w := 28) (off := 865) (tgt := 897) op0_32 (by rw [b31] <;> decide) (by decide) (by decide) (by decide) (by decide) ?_
        refine rx_p (L2 := [some (.ref 10002), some (.ref 0), some (.ref 115), some (.int a3)]) (S2 := [.ref 0]) (pc2 := 898) op0_897 rfl rfl ?_
        refine rx_p (L2 := [some (.ref 10002), some (.ref 0), some (.ref 115), some (.int a3)]) (S2 := [.ref 10002, .ref 0]) (pc2 := 899) op0_898 rfl rfl ?_
        refine rx_p (L2 := [some (.ref 10002), some (.ref 0), some (.ref 115), some (.int a3)]) (S2 := [.int a3, .ref 10002, .ref 0]) (pc2 := 900) op0_899 rfl rfl ?_
        refine rx_ic (v := 1) (pc2 := 901) op0_900 (by decide) rfl ?_
        refine rx_p (L2 := [some (.ref 10002), some (.ref 0), some (.ref 115), some (.int a3)]) (S2 := [.int (a3 + 1), .ref 10002, .ref 0]) (pc2 := 902) op0_901 rfl rfl ?_
        obtain ⟨k627, h⟩ := rq_chk h
        refine rx_ix (pc2 := 903) op0_902 (by decide) k627 rfl ?_
        show rn_R _ _ _ _ _ [.int (xs.getD (a3 + 1).toNatClampNeg 0), .ref 0] _ _ _
        refine rx_p (L2 := [some (.ref 10002), some (.ref 0), some (.ref 115), some (.int a3)]) (S2 := [.ref 10002, .int (xs.getD (a3 + 1).toNatClampNeg 0), .ref 0]) (pc2 := 904) op0_903 rfl rfl ?_
        refine rx_p (L2 := [some (.ref 10002), some (.ref 0), some (.ref 115), some (.int a3)]) (S2 := [.int a3, .ref 10002, .int (xs.getD (a3 + 1).toNatClampNeg 0), .ref 0]) (pc2 := 905) op0_904 rfl rfl ?_
        refine rx_ic (v := 2) (pc2 := 906) op0_905 (by decide) rfl ?_
        refine rx_p (L2 := [some (.ref 10002), some (.ref 0), some (.ref 115), some (.int a3)]) (S2 := [.int (a3 + 2), .ref 10002, .int (xs.getD (a3 + 1).toNatClampNeg 0), .ref 0]) (pc2 := 907) op0_906 rfl rfl ?_
        obtain ⟨k628, h⟩ := rq_chk h
        refine rx_ix (pc2 := 908) op0_907 (by decide) k628 rfl ?_
        show rn_R _ _ _ _ _ [.int (xs.getD (a3 + 2).toNatClampNeg 0), .int (xs.getD (a3 + 1).toNatClampNeg 0), .ref 0] _ _ _
        refine rx_p (L2 := [some (.ref 10002), some (.ref 0), some (.ref 115), some (.int a3)]) (S2 := [.ref 10002, .int (xs.getD (a3 + 2).toNatClampNeg 0), .int (xs.getD (a3 + 1).toNatClampNeg 0), .ref 0]) (pc2 := 909) op0_908 rfl rfl ?_
        refine rx_p (L2 := [some (.ref 10002), some (.ref 0), some (.ref 115), some (.int a3)]) (S2 := [.int a3, .ref 10002, .int (xs.getD (a3 + 2).toNatClampNeg 0), .int (xs.getD (a3 + 1).toNatClampNeg 0), .ref 0]) (pc2 := 910) op0_909 rfl rfl ?_
        refine rx_ic (v := 3) (pc2 := 911) op0_910 (by decide) rfl ?_
        refine rx_p (L2 := [some (.ref 10002), some (.ref 0), some (.ref 115), some (.int a3)]) (S2 := [.int (a3 + 3), .ref 10002, .int (xs.getD (a3 + 2).toNatClampNeg 0), .int (xs.getD (a3 + 1).toNatClampNeg 0), .ref 0]) (pc2 := 912) op0_911 rfl rfl ?_
        obtain ⟨k629, h⟩ := rq_chk h
        refine rx_ix (pc2 := 913) op0_912 (by decide) k629 rfl ?_
        show rn_R _ _ _ _ _ [.int (xs.getD (a3 + 3).toNatClampNeg 0), .int (xs.getD (a3 + 2).toNatClampNeg 0), .int (xs.getD (a3 + 1).toNatClampNeg 0), .ref 0] _ _ _
        obtain ⟨⟨r631, m630⟩, f632, h⟩ := rq_bind h
        try dsimp only at h
        refine ry_iv (p := 0) (vs := [.int (xs.getD (a3 + 1).toNatClampNeg 0), .int (xs.getD (a3 + 2).toNatClampNeg 0), .int (xs.getD (a3 + 3).toNatClampNeg 0)]) (T := []) (pc2 := 916) op0_913 ms_140 (by decide) rfl rfl (Nat.le_of_ble_eq_true rfl) (Nat.le_of_ble_eq_true rfl) sp_0 (lt_sheet_ok xs (by omega)  f632) rfl ?_
        show rn_R _ _ _ _ _ [.int r631] _ _ _
        refine rx_p (L2 := [some (.ref 10002), some (.ref 0), some (.ref 115), some (.int a3)]) (S2 := [.ref 115, .int r631]) (pc2 := 917) op0_916 rfl rfl ?_
        refine rx_p (L2 := [some (.ref 10002), some (.ref 0), some (.ref 115), some (.int a3)]) (S2 := [.ref 10002, .ref 115, .int r631]) (pc2 := 918) op0_917 rfl rfl ?_
        refine rx_p (L2 := [some (.ref 10002), some (.ref 0), some (.ref 115), some (.int a3)]) (S2 := [.int a3, .ref 10002, .ref 115, .int r631]) (pc2 := 919) op0_918 rfl rfl ?_
        refine rx_ic (v := 1) (pc2 := 920) op0_919 (by decide) rfl ?_
        refine rx_p (L2 := [some (.ref 10002), some (.ref 0), some (.ref 115), some (.int a3)]) (S2 := [.int (a3 + 1), .ref 10002, .ref 115, .int r631]) (pc2 := 921) op0_920 rfl rfl ?_
        obtain ⟨k633, h⟩ := rq_chk h
        refine rx_ix (pc2 := 922) op0_921 (by decide) k633 rfl ?_
        show rn_R _ _ _ _ _ [.int (xs.getD (a3 + 1).toNatClampNeg 0), .ref 115, .int r631] _ _ _
        refine rx_p (L2 := [some (.ref 10002), some (.ref 0), some (.ref 115), some (.int a3)]) (S2 := [.ref 10002, .int (xs.getD (a3 + 1).toNatClampNeg 0), .ref 115, .int r631]) (pc2 := 923) op0_922 rfl rfl ?_
        refine rx_p (L2 := [some (.ref 10002), some (.ref 0), some (.ref 115), some (.int a3)]) (S2 := [.int a3, .ref 10002, .int (xs.getD (a3 + 1).toNatClampNeg 0), .ref 115, .int r631]) (pc2 := 924) op0_923 rfl rfl ?_
        refine rx_ic (v := 2) (pc2 := 925) op0_924 (by decide) rfl ?_
        refine rx_p (L2 := [some (.ref 10002), some (.ref 0), some (.ref 115), some (.int a3)]) (S2 := [.int (a3 + 2), .ref 10002, .int (xs.getD (a3 + 1).toNatClampNeg 0), .ref 115, .int r631]) (pc2 := 926) op0_925 rfl rfl ?_
        obtain ⟨k634, h⟩ := rq_chk h
        refine rx_ix (pc2 := 927) op0_926 (by decide) k634 rfl ?_
        show rn_R _ _ _ _ _ [.int (xs.getD (a3 + 2).toNatClampNeg 0), .int (xs.getD (a3 + 1).toNatClampNeg 0), .ref 115, .int r631] _ _ _
        refine rx_p (L2 := [some (.ref 10002), some (.ref 0), some (.ref 115), some (.int a3)]) (S2 := [.ref 10002, .int (xs.getD (a3 + 2).toNatClampNeg 0), .int (xs.getD (a3 + 1).toNatClampNeg 0), .ref 115, .int r631]) (pc2 := 928) op0_927 rfl rfl ?_
        refine rx_p (L2 := [some (.ref 10002), some (.ref 0), some (.ref 115), some (.int a3)]) (S2 := [.int a3, .ref 10002, .int (xs.getD (a3 + 2).toNatClampNeg 0), .int (xs.getD (a3 + 1).toNatClampNeg 0), .ref 115, .int r631]) (pc2 := 929) op0_928 rfl rfl ?_
        refine rx_ic (v := 3) (pc2 := 930) op0_929 (by decide) rfl ?_
        refine rx_p (L2 := [some (.ref 10002), some (.ref 0), some (.ref 115), some (.int a3)]) (S2 := [.int (a3 + 3), .ref 10002, .int (xs.getD (a3 + 2).toNatClampNeg 0), .int (xs.getD (a3 + 1).toNatClampNeg 0), .ref 115, .int r631]) (pc2 := 931) op0_930 rfl rfl ?_
        obtain ⟨k635, h⟩ := rq_chk h
        refine rx_ix (pc2 := 932) op0_931 (by decide) k635 rfl ?_
        show rn_R _ _ _ _ _ [.int (xs.getD (a3 + 3).toNatClampNeg 0), .int (xs.getD (a3 + 2).toNatClampNeg 0), .int (xs.getD (a3 + 1).toNatClampNeg 0), .ref 115, .int r631] _ _ _
        obtain ⟨⟨r637, m636⟩, f638, h⟩ := rq_bind h
        try dsimp only at h
        refine ry_iv (p := 115) (vs := [.int (xs.getD (a3 + 1).toNatClampNeg 0), .int (xs.getD (a3 + 2).toNatClampNeg 0), .int (xs.getD (a3 + 3).toNatClampNeg 0)]) (T := [.int r631]) (pc2 := 935) op0_932 ms_217 (by decide) rfl rfl (Nat.le_of_ble_eq_true rfl) (Nat.le_of_ble_eq_true rfl) sp_115 (mo_sheet_ok xs (by omega)  f638) rfl ?_
        show rn_R _ _ _ _ _ [.int r637, .int r631] _ _ _
        refine ry_ic_eq (tgt := 1016) (pc2 := 938) op0_935 (by decide) (by decide) rfl (fun b639 => ?_) (fun b639 => ?_)
        · have h := (if_pos b639).symm.trans h
          obtain ⟨x640, ex640, h⟩ := rq_bv h
          refine rx_inc (w := 5) (v := x640) (L2 := [some (.ref 10002), some (.ref 0), some (.ref 115), some (.int x640)]) (pc2 := 1019) op0_1016 rfl (by decide) ex640 rfl rfl ?_
          refine ry_go (tgt := 18) op0_1019 (by decide) (by decide) ?_
          exact ih _ _ h
        · have h := (if_neg b639).symm.trans h
          refine rx_ic (v := 0) (pc2 := 939) op0_938 (by decide) rfl ?_
          cases h
          obtain ⟨rfl, rfl⟩ := hl _ _ rfl
          exact ry_rz (x := 0) op0_939 ms_0 rfl (by decide)
      have h := (if_neg b31).symm.trans h
      by_cases b32 : ((xs.getD a3.toNatClampNeg 0) &&& 31) = 29
      · have h := (if_pos b32).symm.trans h
        refine ry_ti (w := 29) (off := 908) (tgt := 940) op0_32 (by rw [b32] <;> decide) (by decide) (by decide) (by decide) (by decide) ?_
        refine rx_p (L2 := [some (.ref 10002), some (.ref 0), some (.ref 115), some (.int a3)]) (S2 := [.ref 0]) (pc2 := 941) op0_940 rfl rfl ?_
        refine rx_p (L2 := [some (.ref 10002), some (.ref 0), some (.ref 115), some (.int a3)]) (S2 := [.ref 10002, .ref 0]) (pc2 := 942) op0_941 rfl rfl ?_
        refine rx_p (L2 := [some (.ref 10002), some (.ref 0), some (.ref 115), some (.int a3)]) (S2 := [.int a3, .ref 10002, .ref 0]) (pc2 := 943) op0_942 rfl rfl ?_
        refine rx_ic (v := 1) (pc2 := 944) op0_943 (by decide) rfl ?_
        refine rx_p (L2 := [some (.ref 10002), some (.ref 0), some (.ref 115), some (.int a3)]) (S2 := [.int (a3 + 1), .ref 10002, .ref 0]) (pc2 := 945) op0_944 rfl rfl ?_
        obtain ⟨k641, h⟩ := rq_chk h
        refine rx_ix (pc2 := 946) op0_945 (by decide) k641 rfl ?_
        show rn_R _ _ _ _ _ [.int (xs.getD (a3 + 1).toNatClampNeg 0), .ref 0] _ _ _
        obtain ⟨⟨r643, m642⟩, f644, h⟩ := rq_bind h
        try dsimp only at h
        refine ry_iv (p := 0) (vs := [.int (xs.getD (a3 + 1).toNatClampNeg 0)]) (T := []) (pc2 := 949) op0_946 ms_142 (by decide) rfl rfl (Nat.le_of_ble_eq_true rfl) (Nat.le_of_ble_eq_true rfl) sp_0 (lt_drop_ok xs (by omega)  f644) rfl ?_
        show rn_R _ _ _ _ _ [.int r643] _ _ _
        refine rx_p (L2 := [some (.ref 10002), some (.ref 0), some (.ref 115), some (.int a3)]) (S2 := [.ref 115, .int r643]) (pc2 := 950) op0_949 rfl rfl ?_
        refine rx_p (L2 := [some (.ref 10002), some (.ref 0), some (.ref 115), some (.int a3)]) (S2 := [.ref 10002, .ref 115, .int r643]) (pc2 := 951) op0_950 rfl rfl ?_
        refine rx_p (L2 := [some (.ref 10002), some (.ref 0), some (.ref 115), some (.int a3)]) (S2 := [.int a3, .ref 10002, .ref 115, .int r643]) (pc2 := 952) op0_951 rfl rfl ?_
        refine rx_ic (v := 1) (pc2 := 953) op0_952 (by decide) rfl ?_
        refine rx_p (L2 := [some (.ref 10002), some (.ref 0), some (.ref 115), some (.int a3)]) (S2 := [.int (a3 + 1), .ref 10002, .ref 115, .int r643]) (pc2 := 954) op0_953 rfl rfl ?_
        obtain ⟨k645, h⟩ := rq_chk h
        refine rx_ix (pc2 := 955) op0_954 (by decide) k645 rfl ?_
        show rn_R _ _ _ _ _ [.int (xs.getD (a3 + 1).toNatClampNeg 0), .ref 115, .int r643] _ _ _
        obtain ⟨⟨r647, m646⟩, f648, h⟩ := rq_bind h
        try dsimp only at h
        refine ry_iv (p := 115) (vs := [.int (xs.getD (a3 + 1).toNatClampNeg 0)]) (T := [.int r643]) (pc2 := 958) op0_955 ms_218 (by decide) rfl rfl (Nat.le_of_ble_eq_true rfl) (Nat.le_of_ble_eq_true rfl) sp_115 (mo_drop_ok xs (by omega)  f648) rfl ?_
        show rn_R _ _ _ _ _ [.int r647, .int r643] _ _ _
        refine ry_ic_eq (tgt := 1016) (pc2 := 961) op0_958 (by decide) (by decide) rfl (fun b649 => ?_) (fun b649 => ?_)
        · have h := (if_pos b649).symm.trans h
          obtain ⟨x650, ex650, h⟩ := rq_bv h
          refine rx_inc (w := 5) (v := x650) (L2 := [some (.ref 10002), some (.ref 0), some (.ref 115), some (.int x650)]) (pc2 := 1019) op0_1016 rfl (by decide) ex650 rfl rfl ?_
          refine ry_go (tgt := 18) op0_1019 (by decide) (by decide) ?_
          exact ih _ _ h
        · have h := (if_neg b649).symm.trans h
          refine rx_ic (v := 0) (pc2 := 962) op0_961 (by decide) rfl ?_
          cases h
          obtain ⟨rfl, rfl⟩ := hl _ _ rfl
          exact ry_rz (x := 0) op0_962 ms_0 rfl (by decide)
      have h := (if_neg b32).symm.trans h
      by_cases b33 : ((xs.getD a3.toNatClampNeg 0) &&& 31) = 30
      · have h := (if_pos b33).symm.trans h
        refine ry_ti (w := 30) (off := 931) (tgt := 963) op0_32 (by rw [b33] <;> decide) (by decide) (by decide) (by decide) (by decide) ?_
        refine rx_p (L2 := [some (.ref 10002), some (.ref 0), some (.ref 115), some (.int a3)]) (S2 := [.ref 0]) (pc2 := 964) op0_963 rfl rfl ?_
        refine rx_p (L2 := [some (.ref 10002), some (.ref 0), some (.ref 115), some (.int a3)]) (S2 := [.ref 10002, .ref 0]) (pc2 := 965) op0_964 rfl rfl ?_
        refine rx_p (L2 := [some (.ref 10002), some (.ref 0), some (.ref 115), some (.int a3)]) (S2 := [.int a3, .ref 10002, .ref 0]) (pc2 := 966) op0_965 rfl rfl ?_
        refine rx_ic (v := 1) (pc2 := 967) op0_966 (by decide) rfl ?_
        refine rx_p (L2 := [some (.ref 10002), some (.ref 0), some (.ref 115), some (.int a3)]) (S2 := [.int (a3 + 1), .ref 10002, .ref 0]) (pc2 := 968) op0_967 rfl rfl ?_
        obtain ⟨k651, h⟩ := rq_chk h
        refine rx_ix (pc2 := 969) op0_968 (by decide) k651 rfl ?_
        show rn_R _ _ _ _ _ [.int (xs.getD (a3 + 1).toNatClampNeg 0), .ref 0] _ _ _
        refine rx_p (L2 := [some (.ref 10002), some (.ref 0), some (.ref 115), some (.int a3)]) (S2 := [.ref 10002, .int (xs.getD (a3 + 1).toNatClampNeg 0), .ref 0]) (pc2 := 970) op0_969 rfl rfl ?_
        refine rx_p (L2 := [some (.ref 10002), some (.ref 0), some (.ref 115), some (.int a3)]) (S2 := [.int a3, .ref 10002, .int (xs.getD (a3 + 1).toNatClampNeg 0), .ref 0]) (pc2 := 971) op0_970 rfl rfl ?_
        refine rx_ic (v := 2) (pc2 := 972) op0_971 (by decide) rfl ?_
        refine rx_p (L2 := [some (.ref 10002), some (.ref 0), some (.ref 115), some (.int a3)]) (S2 := [.int (a3 + 2), .ref 10002, .int (xs.getD (a3 + 1).toNatClampNeg 0), .ref 0]) (pc2 := 973) op0_972 rfl rfl ?_
        obtain ⟨k652, h⟩ := rq_chk h
        refine rx_ix (pc2 := 974) op0_973 (by decide) k652 rfl ?_
        show rn_R _ _ _ _ _ [.int (xs.getD (a3 + 2).toNatClampNeg 0), .int (xs.getD (a3 + 1).toNatClampNeg 0), .ref 0] _ _ _
        refine rx_p (L2 := [some (.ref 10002), some (.ref 0), some (.ref 115), some (.int a3)]) (S2 := [.ref 10002, .int (xs.getD (a3 + 2).toNatClampNeg 0), .int (xs.getD (a3 + 1).toNatClampNeg 0), .ref 0]) (pc2 := 975) op0_974 rfl rfl ?_
        refine rx_p (L2 := [some (.ref 10002), some (.ref 0), some (.ref 115), some (.int a3)]) (S2 := [.int a3, .ref 10002, .int (xs.getD (a3 + 2).toNatClampNeg 0), .int (xs.getD (a3 + 1).toNatClampNeg 0), .ref 0]) (pc2 := 976) op0_975 rfl rfl ?_
        refine rx_ic (v := 3) (pc2 := 977) op0_976 (by decide) rfl ?_
        refine rx_p (L2 := [some (.ref 10002), some (.ref 0), some (.ref 115), some (.int a3)]) (S2 := [.int (a3 + 3), .ref 10002, .int (xs.getD (a3 + 2).toNatClampNeg 0), .int (xs.getD (a3 + 1).toNatClampNeg 0), .ref 0]) (pc2 := 978) op0_977 rfl rfl ?_
        obtain ⟨k653, h⟩ := rq_chk h
        refine rx_ix (pc2 := 979) op0_978 (by decide) k653 rfl ?_
        show rn_R _ _ _ _ _ [.int (xs.getD (a3 + 3).toNatClampNeg 0), .int (xs.getD (a3 + 2).toNatClampNeg 0), .int (xs.getD (a3 + 1).toNatClampNeg 0), .ref 0] _ _ _
        refine rx_p (L2 := [some (.ref 10002), some (.ref 0), some (.ref 115), some (.int a3)]) (S2 := [.ref 10002, .int (xs.getD (a3 + 3).toNatClampNeg 0), .int (xs.getD (a3 + 2).toNatClampNeg 0), .int (xs.getD (a3 + 1).toNatClampNeg 0), .ref 0]) (pc2 := 980) op0_979 rfl rfl ?_
        refine rx_p (L2 := [some (.ref 10002), some (.ref 0), some (.ref 115), some (.int a3)]) (S2 := [.int a3, .ref 10002, .int (xs.getD (a3 + 3).toNatClampNeg 0), .int (xs.getD (a3 + 2).toNatClampNeg 0), .int (xs.getD (a3 + 1).toNatClampNeg 0), .ref 0]) (pc2 := 981) op0_980 rfl rfl ?_
        refine rx_ic (v := 4) (pc2 := 982) op0_981 (by decide) rfl ?_
        refine rx_p (L2 := [some (.ref 10002), some (.ref 0), some (.ref 115), some (.int a3)]) (S2 := [.int (a3 + 4), .ref 10002, .int (xs.getD (a3 + 3).toNatClampNeg 0), .int (xs.getD (a3 + 2).toNatClampNeg 0), .int (xs.getD (a3 + 1).toNatClampNeg 0), .ref 0]) (pc2 := 983) op0_982 rfl rfl ?_
        obtain ⟨k654, h⟩ := rq_chk h
        refine rx_ix (pc2 := 984) op0_983 (by decide) k654 rfl ?_
        show rn_R _ _ _ _ _ [.int (xs.getD (a3 + 4).toNatClampNeg 0), .int (xs.getD (a3 + 3).toNatClampNeg 0), .int (xs.getD (a3 + 2).toNatClampNeg 0), .int (xs.getD (a3 + 1).toNatClampNeg 0), .ref 0] _ _ _
        obtain ⟨⟨r656, m655⟩, f657, h⟩ := rq_bind h
        try dsimp only at h
        refine ry_iv (p := 0) (vs := [.int (xs.getD (a3 + 1).toNatClampNeg 0), .int (xs.getD (a3 + 2).toNatClampNeg 0), .int (xs.getD (a3 + 3).toNatClampNeg 0), .int (xs.getD (a3 + 4).toNatClampNeg 0)]) (T := []) (pc2 := 987) op0_984 ms_143 (by decide) rfl rfl (Nat.le_of_ble_eq_true rfl) (Nat.le_of_ble_eq_true rfl) sp_0 (lt_item_ok xs (by omega)  f657) rfl ?_
        show rn_R _ _ _ _ _ [.int r656] _ _ _
        refine rx_p (L2 := [some (.ref 10002), some (.ref 0), some (.ref 115), some (.int a3)]) (S2 := [.ref 115, .int r656]) (pc2 := 988) op0_987 rfl rfl ?_
        refine rx_p (L2 := [some (.ref 10002), some (.ref 0), some (.ref 115), some (.int a3)]) (S2 := [.ref 10002, .ref 115, .int r656]) (pc2 := 989) op0_988 rfl rfl ?_
        refine rx_p (L2 := [some (.ref 10002), some (.ref 0), some (.ref 115), some (.int a3)]) (S2 := [.int a3, .ref 10002, .ref 115, .int r656]) (pc2 := 990) op0_989 rfl rfl ?_
        refine rx_ic (v := 1) (pc2 := 991) op0_990 (by decide) rfl ?_
        refine rx_p (L2 := [some (.ref 10002), some (.ref 0), some (.ref 115), some (.int a3)]) (S2 := [.int (a3 + 1), .ref 10002, .ref 115, .int r656]) (pc2 := 992) op0_991 rfl rfl ?_
        obtain ⟨k658, h⟩ := rq_chk h
        refine rx_ix (pc2 := 993) op0_992 (by decide) k658 rfl ?_
        show rn_R _ _ _ _ _ [.int (xs.getD (a3 + 1).toNatClampNeg 0), .ref 115, .int r656] _ _ _
        refine rx_p (L2 := [some (.ref 10002), some (.ref 0), some (.ref 115), some (.int a3)]) (S2 := [.ref 10002, .int (xs.getD (a3 + 1).toNatClampNeg 0), .ref 115, .int r656]) (pc2 := 994) op0_993 rfl rfl ?_
        refine rx_p (L2 := [some (.ref 10002), some (.ref 0), some (.ref 115), some (.int a3)]) (S2 := [.int a3, .ref 10002, .int (xs.getD (a3 + 1).toNatClampNeg 0), .ref 115, .int r656]) (pc2 := 995) op0_994 rfl rfl ?_
        refine rx_ic (v := 2) (pc2 := 996) op0_995 (by decide) rfl ?_
        refine rx_p (L2 := [some (.ref 10002), some (.ref 0), some (.ref 115), some (.int a3)]) (S2 := [.int (a3 + 2), .ref 10002, .int (xs.getD (a3 + 1).toNatClampNeg 0), .ref 115, .int r656]) (pc2 := 997) op0_996 rfl rfl ?_
        obtain ⟨k659, h⟩ := rq_chk h
        refine rx_ix (pc2 := 998) op0_997 (by decide) k659 rfl ?_
        show rn_R _ _ _ _ _ [.int (xs.getD (a3 + 2).toNatClampNeg 0), .int (xs.getD (a3 + 1).toNatClampNeg 0), .ref 115, .int r656] _ _ _
        refine rx_p (L2 := [some (.ref 10002), some (.ref 0), some (.ref 115), some (.int a3)]) (S2 := [.ref 10002, .int (xs.getD (a3 + 2).toNatClampNeg 0), .int (xs.getD (a3 + 1).toNatClampNeg 0), .ref 115, .int r656]) (pc2 := 999) op0_998 rfl rfl ?_
        refine rx_p (L2 := [some (.ref 10002), some (.ref 0), some (.ref 115), some (.int a3)]) (S2 := [.int a3, .ref 10002, .int (xs.getD (a3 + 2).toNatClampNeg 0), .int (xs.getD (a3 + 1).toNatClampNeg 0), .ref 115, .int r656]) (pc2 := 1000) op0_999 rfl rfl ?_
        refine rx_ic (v := 3) (pc2 := 1001) op0_1000 (by decide) rfl ?_
        refine rx_p (L2 := [some (.ref 10002), some (.ref 0), some (.ref 115), some (.int a3)]) (S2 := [.int (a3 + 3), .ref 10002, .int (xs.getD (a3 + 2).toNatClampNeg 0), .int (xs.getD (a3 + 1).toNatClampNeg 0), .ref 115, .int r656]) (pc2 := 1002) op0_1001 rfl rfl ?_
        obtain ⟨k660, h⟩ := rq_chk h
        refine rx_ix (pc2 := 1003) op0_1002 (by decide) k660 rfl ?_
        show rn_R _ _ _ _ _ [.int (xs.getD (a3 + 3).toNatClampNeg 0), .int (xs.getD (a3 + 2).toNatClampNeg 0), .int (xs.getD (a3 + 1).toNatClampNeg 0), .ref 115, .int r656] _ _ _
        refine rx_p (L2 := [some (.ref 10002), some (.ref 0), some (.ref 115), some (.int a3)]) (S2 := [.ref 10002, .int (xs.getD (a3 + 3).toNatClampNeg 0), .int (xs.getD (a3 + 2).toNatClampNeg 0), .int (xs.getD (a3 + 1).toNatClampNeg 0), .ref 115, .int r656]) (pc2 := 1004) op0_1003 rfl rfl ?_
        refine rx_p (L2 := [some (.ref 10002), some (.ref 0), some (.ref 115), some (.int a3)]) (S2 := [.int a3, .ref 10002, .int (xs.getD (a3 + 3).toNatClampNeg 0), .int (xs.getD (a3 + 2).toNatClampNeg 0), .int (xs.getD (a3 + 1).toNatClampNeg 0), .ref 115, .int r656]) (pc2 := 1005) op0_1004 rfl rfl ?_
        refine rx_ic (v := 4) (pc2 := 1006) op0_1005 (by decide) rfl ?_
        refine rx_p (L2 := [some (.ref 10002), some (.ref 0), some (.ref 115), some (.int a3)]) (S2 := [.int (a3 + 4), .ref 10002, .int (xs.getD (a3 + 3).toNatClampNeg 0), .int (xs.getD (a3 + 2).toNatClampNeg 0), .int (xs.getD (a3 + 1).toNatClampNeg 0), .ref 115, .int r656]) (pc2 := 1007) op0_1006 rfl rfl ?_
        obtain ⟨k661, h⟩ := rq_chk h
        refine rx_ix (pc2 := 1008) op0_1007 (by decide) k661 rfl ?_
        show rn_R _ _ _ _ _ [.int (xs.getD (a3 + 4).toNatClampNeg 0), .int (xs.getD (a3 + 3).toNatClampNeg 0), .int (xs.getD (a3 + 2).toNatClampNeg 0), .int (xs.getD (a3 + 1).toNatClampNeg 0), .ref 115, .int r656] _ _ _
        obtain ⟨⟨r663, m662⟩, f664, h⟩ := rq_bind h
        try dsimp only at h
        refine ry_iv (p := 115) (vs := [.int (xs.getD (a3 + 1).toNatClampNeg 0), .int (xs.getD (a3 + 2).toNatClampNeg 0), .int (xs.getD (a3 + 3).toNatClampNeg 0), .int (xs.getD (a3 + 4).toNatClampNeg 0)]) (T := [.int r656]) (pc2 := 1011) op0_1008 ms_219 (by decide) rfl rfl (Nat.le_of_ble_eq_true rfl) (Nat.le_of_ble_eq_true rfl) sp_115 (mo_item_ok xs (by omega)  f664) rfl ?_
        show rn_R _ _ _ _ _ [.int r663, .int r656] _ _ _
        refine ry_ic_eq (tgt := 1016) (pc2 := 1014) op0_1011 (by decide) (by decide) rfl (fun b665 => ?_) (fun b665 => ?_)
        · have h := (if_pos b665).symm.trans h
          obtain ⟨x666, ex666, h⟩ := rq_bv h
          refine rx_inc (w := 5) (v := x666) (L2 := [some (.ref 10002), some (.ref 0), some (.ref 115), some (.int x666)]) (pc2 := 1019) op0_1016 rfl (by decide) ex666 rfl rfl ?_
          refine ry_go (tgt := 18) op0_1019 (by decide) (by decide) ?_
          exact ih _ _ h
        · have h := (if_neg b665).symm.trans h
          refine rx_ic (v := 0) (pc2 := 1015) op0_1014 (by decide) rfl ?_
          cases h
          obtain ⟨rfl, rfl⟩ := hl _ _ rfl
          exact ry_rz (x := 0) op0_1015 ms_0 rfl (by decide)
      have h := (if_neg b33).symm.trans h
      have tb3 := rq_nt 0 (by decide) b3
      have tb4 := rq_nt 1 (by decide) b4
      have tb5 := rq_nt 2 (by decide) b5
      have tb6 := rq_nt 3 (by decide) b6
      have tb7 := rq_nt 4 (by decide) b7
      have tb8 := rq_nt 5 (by decide) b8
      have tb9 := rq_nt 6 (by decide) b9
      have tb10 := rq_nt 7 (by decide) b10
      have tb11 := rq_nt 8 (by decide) b11
      have tb12 := rq_nt 9 (by decide) b12
      have tb13 := rq_nt 10 (by decide) b13
      have tb14 := rq_nt 11 (by decide) b14
      have tb15 := rq_nt 12 (by decide) b15
      have tb16 := rq_nt 13 (by decide) b16
      have tb17 := rq_nt 14 (by decide) b17
      have tb18 := rq_nt 15 (by decide) b18
      have tb19 := rq_nt 16 (by decide) b19
      have tb20 := rq_nt 17 (by decide) b20
      have tb21 := rq_nt 18 (by decide) b21
      have tb22 := rq_nt 19 (by decide) b22
      have tb23 := rq_nt 20 (by decide) b23
      have tb24 := rq_nt 21 (by decide) b24
      have tb25 := rq_nt 22 (by decide) b25
      have tb26 := rq_nt 23 (by decide) b26
      have tb27 := rq_nt 24 (by decide) b27
      have tb28 := rq_nt 25 (by decide) b28
      have tb29 := rq_nt 26 (by decide) b29
      have tb30 := rq_nt 27 (by decide) b30
      have tb31 := rq_nt 28 (by decide) b31
      have tb32 := rq_nt 29 (by decide) b32
      have tb33 := rq_nt 30 (by decide) b33
      refine ry_to (tgt := 1016) op0_32 (by omega) (by decide) (by decide) ?_
      obtain ⟨x667, ex667, h⟩ := rq_bv h
      refine rx_inc (w := 5) (v := x667) (L2 := [some (.ref 10002), some (.ref 0), some (.ref 115), some (.int x667)]) (pc2 := 1019) op0_1016 rfl (by decide) ex667 rfl rfl ?_
      refine ry_go (tgt := 18) op0_1019 (by decide) (by decide) ?_
      exact ih _ _ h
theorem lw_tail_ok (xs : List Int32) {d : Nat} (hd : 42 ≤ d) {n : Nat} {m mO : rn_Mem} (h : lw_law_l18 xs n 0 m = some (.inr mO)) : rn_R xs d 0 18 [some (.ref 10002), some (.ref 0), some (.ref 115), some (.int 0)] [] (rn_SH, m) (some (.int 1)) (rn_SH, mO) := by
  obtain ⟨d, rfl⟩ : ∃ e, d = e + 1 := ⟨d - 1, by omega⟩
  refine lw_law_l18_ok xs hd (out := .inr mO) (fun _ _ eq => by cases eq) (fun _ eq => ?_) n 0 m h
  cases eq
  intro o0 o1 o2 o3
  refine rx_ic (v := 1) (pc2 := 1023) op0_1022 (by decide) rfl ?_
  exact ry_rz (x := 1) op0_1023 ms_0 rfl (by decide)
