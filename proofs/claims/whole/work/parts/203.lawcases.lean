theorem dL_0 : Dc code 0 (.new 7) 3 3 := ⟨by decide +kernel, rfl⟩
theorem dL_3 : Dc code 3 (.dup) 1 4 := ⟨by decide +kernel, rfl⟩
theorem dL_4 : Dc code 4 (.invokespecial 9) 3 7 := ⟨by decide +kernel, rfl⟩
theorem dL_7 : Dc code 7 (.astore_n 1) 1 8 := ⟨by decide +kernel, rfl⟩
theorem dL_8 : Dc code 8 (.new 10) 3 11 := ⟨by decide +kernel, rfl⟩
theorem dL_11 : Dc code 11 (.dup) 1 12 := ⟨by decide +kernel, rfl⟩
theorem dL_12 : Dc code 12 (.invokespecial 12) 3 15 := ⟨by decide +kernel, rfl⟩
theorem dL_15 : Dc code 15 (.astore_n 2) 1 16 := ⟨by decide +kernel, rfl⟩
theorem dL_16 : Dc code 16 (.iconst 0) 1 17 := ⟨by decide +kernel, rfl⟩
theorem dL_17 : Dc code 17 (.istore_n 3) 1 18 := ⟨by decide +kernel, rfl⟩
theorem dL_18 : Dc code 18 (.iload_n 3) 1 19 := ⟨by decide +kernel, rfl⟩
theorem dL_19 : Dc code 19 (.aload_n 0) 1 20 := ⟨by decide +kernel, rfl⟩
theorem dL_20 : Dc code 20 (.arraylength) 1 21 := ⟨by decide +kernel, rfl⟩
theorem dL_21 : Dc code 21 (.bipush 6) 2 23 := ⟨by decide +kernel, rfl⟩
theorem dL_23 : Dc code 23 (.isub) 1 24 := ⟨by decide +kernel, rfl⟩
theorem djL_24 : Dj code 24 (.if_icmp .gt 1446) 3 27 1446 1470 := ⟨by decide +kernel, rfl, by decide⟩
theorem dL_27 : Dc code 27 (.aload_n 0) 1 28 := ⟨by decide +kernel, rfl⟩
theorem dL_28 : Dc code 28 (.iload_n 3) 1 29 := ⟨by decide +kernel, rfl⟩
theorem dL_29 : Dc code 29 (.iaload) 1 30 := ⟨by decide +kernel, rfl⟩
theorem dL_30 : Dc code 30 (.bipush 63) 2 32 := ⟨by decide +kernel, rfl⟩
theorem dL_32 : Dc code 32 (.iand) 1 33 := ⟨by decide +kernel, rfl⟩
theorem dL_33 : Dc code 33 (.tableswitch 1431 0 35 #[159, 222, 245, 258, 281, 294, 317, 350, 393, 426, 459, 492, 535, 578, 622, 665, 719, 762, 805, 818, 831, 884, 917, 970, 1033, 1096, 1139, 1192, 1215, 1269, 1332, 1355, 1368, 1381, 1404, 1417]) 159 192 := ⟨by decide +kernel, rfl⟩
theorem dL_192 : Dc code 192 (.aload_n 1) 1 193 := ⟨by decide +kernel, rfl⟩
theorem dL_193 : Dc code 193 (.aload_n 0) 1 194 := ⟨by decide +kernel, rfl⟩
theorem dL_194 : Dc code 194 (.iload_n 3) 1 195 := ⟨by decide +kernel, rfl⟩
theorem dL_195 : Dc code 195 (.iconst 1) 1 196 := ⟨by decide +kernel, rfl⟩
theorem dL_196 : Dc code 196 (.iadd) 1 197 := ⟨by decide +kernel, rfl⟩
theorem dL_197 : Dc code 197 (.iaload) 1 198 := ⟨by decide +kernel, rfl⟩
theorem dL_198 : Dc code 198 (.aload_n 0) 1 199 := ⟨by decide +kernel, rfl⟩
theorem dL_199 : Dc code 199 (.iload_n 3) 1 200 := ⟨by decide +kernel, rfl⟩
theorem dL_200 : Dc code 200 (.iconst 2) 1 201 := ⟨by decide +kernel, rfl⟩
theorem dL_201 : Dc code 201 (.iadd) 1 202 := ⟨by decide +kernel, rfl⟩
theorem dL_202 : Dc code 202 (.iaload) 1 203 := ⟨by decide +kernel, rfl⟩
theorem dL_203 : Dc code 203 (.aload_n 0) 1 204 := ⟨by decide +kernel, rfl⟩
theorem dL_204 : Dc code 204 (.iload_n 3) 1 205 := ⟨by decide +kernel, rfl⟩
theorem dL_205 : Dc code 205 (.iconst 3) 1 206 := ⟨by decide +kernel, rfl⟩
theorem dL_206 : Dc code 206 (.iadd) 1 207 := ⟨by decide +kernel, rfl⟩
theorem dL_207 : Dc code 207 (.iaload) 1 208 := ⟨by decide +kernel, rfl⟩
theorem dL_208 : Dc code 208 (.aload_n 0) 1 209 := ⟨by decide +kernel, rfl⟩
theorem dL_209 : Dc code 209 (.iload_n 3) 1 210 := ⟨by decide +kernel, rfl⟩
theorem dL_210 : Dc code 210 (.iconst 4) 1 211 := ⟨by decide +kernel, rfl⟩
theorem dL_211 : Dc code 211 (.iadd) 1 212 := ⟨by decide +kernel, rfl⟩
theorem dL_212 : Dc code 212 (.iaload) 1 213 := ⟨by decide +kernel, rfl⟩
theorem dL_213 : Dc code 213 (.aload_n 0) 1 214 := ⟨by decide +kernel, rfl⟩
theorem dL_214 : Dc code 214 (.iload_n 3) 1 215 := ⟨by decide +kernel, rfl⟩
theorem dL_215 : Dc code 215 (.iconst 5) 1 216 := ⟨by decide +kernel, rfl⟩
theorem dL_216 : Dc code 216 (.iadd) 1 217 := ⟨by decide +kernel, rfl⟩
theorem dL_217 : Dc code 217 (.iaload) 1 218 := ⟨by decide +kernel, rfl⟩
theorem dL_218 : Dc code 218 (.invokevirtual 13) 3 221 := ⟨by decide +kernel, rfl⟩
theorem dL_221 : Dc code 221 (.aload_n 2) 1 222 := ⟨by decide +kernel, rfl⟩
theorem dL_222 : Dc code 222 (.aload_n 0) 1 223 := ⟨by decide +kernel, rfl⟩
theorem dL_223 : Dc code 223 (.iload_n 3) 1 224 := ⟨by decide +kernel, rfl⟩
theorem dL_224 : Dc code 224 (.iconst 1) 1 225 := ⟨by decide +kernel, rfl⟩
theorem dL_225 : Dc code 225 (.iadd) 1 226 := ⟨by decide +kernel, rfl⟩
theorem dL_226 : Dc code 226 (.iaload) 1 227 := ⟨by decide +kernel, rfl⟩
theorem dL_227 : Dc code 227 (.aload_n 0) 1 228 := ⟨by decide +kernel, rfl⟩
theorem dL_228 : Dc code 228 (.iload_n 3) 1 229 := ⟨by decide +kernel, rfl⟩
theorem dL_229 : Dc code 229 (.iconst 2) 1 230 := ⟨by decide +kernel, rfl⟩
theorem dL_230 : Dc code 230 (.iadd) 1 231 := ⟨by decide +kernel, rfl⟩
theorem dL_231 : Dc code 231 (.iaload) 1 232 := ⟨by decide +kernel, rfl⟩
theorem dL_232 : Dc code 232 (.aload_n 0) 1 233 := ⟨by decide +kernel, rfl⟩
theorem dL_233 : Dc code 233 (.iload_n 3) 1 234 := ⟨by decide +kernel, rfl⟩
theorem dL_234 : Dc code 234 (.iconst 3) 1 235 := ⟨by decide +kernel, rfl⟩
theorem dL_235 : Dc code 235 (.iadd) 1 236 := ⟨by decide +kernel, rfl⟩
theorem dL_236 : Dc code 236 (.iaload) 1 237 := ⟨by decide +kernel, rfl⟩
theorem dL_237 : Dc code 237 (.aload_n 0) 1 238 := ⟨by decide +kernel, rfl⟩
theorem dL_238 : Dc code 238 (.iload_n 3) 1 239 := ⟨by decide +kernel, rfl⟩
theorem dL_239 : Dc code 239 (.iconst 4) 1 240 := ⟨by decide +kernel, rfl⟩
theorem dL_240 : Dc code 240 (.iadd) 1 241 := ⟨by decide +kernel, rfl⟩
theorem dL_241 : Dc code 241 (.iaload) 1 242 := ⟨by decide +kernel, rfl⟩
theorem dL_242 : Dc code 242 (.aload_n 0) 1 243 := ⟨by decide +kernel, rfl⟩
theorem dL_243 : Dc code 243 (.iload_n 3) 1 244 := ⟨by decide +kernel, rfl⟩
theorem dL_244 : Dc code 244 (.iconst 5) 1 245 := ⟨by decide +kernel, rfl⟩
theorem dL_245 : Dc code 245 (.iadd) 1 246 := ⟨by decide +kernel, rfl⟩
theorem dL_246 : Dc code 246 (.iaload) 1 247 := ⟨by decide +kernel, rfl⟩
theorem dL_247 : Dc code 247 (.invokevirtual 17) 3 250 := ⟨by decide +kernel, rfl⟩
theorem djL_250 : Dj code 250 (.if_icmp .eq 1214) 3 253 1214 1464 := ⟨by decide +kernel, rfl, by decide⟩
theorem dL_253 : Dc code 253 (.iconst 0) 1 254 := ⟨by decide +kernel, rfl⟩
theorem dL_254 : Dc code 254 (.ireturn) 1 255 := ⟨by decide +kernel, rfl⟩
theorem dL_255 : Dc code 255 (.aload_n 1) 1 256 := ⟨by decide +kernel, rfl⟩
theorem dL_256 : Dc code 256 (.aload_n 0) 1 257 := ⟨by decide +kernel, rfl⟩
theorem dL_257 : Dc code 257 (.iload_n 3) 1 258 := ⟨by decide +kernel, rfl⟩
theorem dL_258 : Dc code 258 (.iconst 1) 1 259 := ⟨by decide +kernel, rfl⟩
theorem dL_259 : Dc code 259 (.iadd) 1 260 := ⟨by decide +kernel, rfl⟩
theorem dL_260 : Dc code 260 (.iaload) 1 261 := ⟨by decide +kernel, rfl⟩
theorem dL_261 : Dc code 261 (.invokevirtual 18) 3 264 := ⟨by decide +kernel, rfl⟩
theorem dL_264 : Dc code 264 (.aload_n 2) 1 265 := ⟨by decide +kernel, rfl⟩
theorem dL_265 : Dc code 265 (.aload_n 0) 1 266 := ⟨by decide +kernel, rfl⟩
theorem dL_266 : Dc code 266 (.iload_n 3) 1 267 := ⟨by decide +kernel, rfl⟩
theorem dL_267 : Dc code 267 (.iconst 1) 1 268 := ⟨by decide +kernel, rfl⟩
theorem dL_268 : Dc code 268 (.iadd) 1 269 := ⟨by decide +kernel, rfl⟩
theorem dL_269 : Dc code 269 (.iaload) 1 270 := ⟨by decide +kernel, rfl⟩
theorem dL_270 : Dc code 270 (.invokevirtual 22) 3 273 := ⟨by decide +kernel, rfl⟩
theorem djL_273 : Dj code 273 (.if_icmp .eq 1191) 3 276 1191 1464 := ⟨by decide +kernel, rfl, by decide⟩
theorem dL_276 : Dc code 276 (.iconst 0) 1 277 := ⟨by decide +kernel, rfl⟩
theorem dL_277 : Dc code 277 (.ireturn) 1 278 := ⟨by decide +kernel, rfl⟩
theorem dL_278 : Dc code 278 (.aload_n 1) 1 279 := ⟨by decide +kernel, rfl⟩
theorem dL_279 : Dc code 279 (.invokevirtual 23) 3 282 := ⟨by decide +kernel, rfl⟩
theorem dL_282 : Dc code 282 (.aload_n 2) 1 283 := ⟨by decide +kernel, rfl⟩
theorem dL_283 : Dc code 283 (.invokevirtual 27) 3 286 := ⟨by decide +kernel, rfl⟩
theorem djL_286 : Dj code 286 (.if_icmp .eq 1178) 3 289 1178 1464 := ⟨by decide +kernel, rfl, by decide⟩
theorem dL_289 : Dc code 289 (.iconst 0) 1 290 := ⟨by decide +kernel, rfl⟩
theorem dL_290 : Dc code 290 (.ireturn) 1 291 := ⟨by decide +kernel, rfl⟩
theorem dL_291 : Dc code 291 (.aload_n 1) 1 292 := ⟨by decide +kernel, rfl⟩
theorem dL_292 : Dc code 292 (.aload_n 0) 1 293 := ⟨by decide +kernel, rfl⟩
theorem dL_293 : Dc code 293 (.iload_n 3) 1 294 := ⟨by decide +kernel, rfl⟩
theorem dL_294 : Dc code 294 (.iconst 1) 1 295 := ⟨by decide +kernel, rfl⟩
theorem dL_295 : Dc code 295 (.iadd) 1 296 := ⟨by decide +kernel, rfl⟩
theorem dL_296 : Dc code 296 (.iaload) 1 297 := ⟨by decide +kernel, rfl⟩
theorem dL_297 : Dc code 297 (.invokevirtual 28) 3 300 := ⟨by decide +kernel, rfl⟩
theorem dL_300 : Dc code 300 (.aload_n 2) 1 301 := ⟨by decide +kernel, rfl⟩
theorem dL_301 : Dc code 301 (.aload_n 0) 1 302 := ⟨by decide +kernel, rfl⟩
theorem dL_302 : Dc code 302 (.iload_n 3) 1 303 := ⟨by decide +kernel, rfl⟩
theorem dL_303 : Dc code 303 (.iconst 1) 1 304 := ⟨by decide +kernel, rfl⟩
theorem dL_304 : Dc code 304 (.iadd) 1 305 := ⟨by decide +kernel, rfl⟩
theorem dL_305 : Dc code 305 (.iaload) 1 306 := ⟨by decide +kernel, rfl⟩
theorem dL_306 : Dc code 306 (.invokevirtual 31) 3 309 := ⟨by decide +kernel, rfl⟩
theorem djL_309 : Dj code 309 (.if_icmp .eq 1155) 3 312 1155 1464 := ⟨by decide +kernel, rfl, by decide⟩
theorem dL_312 : Dc code 312 (.iconst 0) 1 313 := ⟨by decide +kernel, rfl⟩
theorem dL_313 : Dc code 313 (.ireturn) 1 314 := ⟨by decide +kernel, rfl⟩
theorem dL_314 : Dc code 314 (.aload_n 1) 1 315 := ⟨by decide +kernel, rfl⟩
theorem dL_315 : Dc code 315 (.invokevirtual 32) 3 318 := ⟨by decide +kernel, rfl⟩
theorem dL_318 : Dc code 318 (.aload_n 2) 1 319 := ⟨by decide +kernel, rfl⟩
theorem dL_319 : Dc code 319 (.invokevirtual 35) 3 322 := ⟨by decide +kernel, rfl⟩
theorem djL_322 : Dj code 322 (.if_icmp .eq 1142) 3 325 1142 1464 := ⟨by decide +kernel, rfl, by decide⟩
theorem dL_325 : Dc code 325 (.iconst 0) 1 326 := ⟨by decide +kernel, rfl⟩
theorem dL_326 : Dc code 326 (.ireturn) 1 327 := ⟨by decide +kernel, rfl⟩
theorem dL_327 : Dc code 327 (.aload_n 1) 1 328 := ⟨by decide +kernel, rfl⟩
theorem dL_328 : Dc code 328 (.aload_n 0) 1 329 := ⟨by decide +kernel, rfl⟩
theorem dL_329 : Dc code 329 (.iload_n 3) 1 330 := ⟨by decide +kernel, rfl⟩
theorem dL_330 : Dc code 330 (.iconst 1) 1 331 := ⟨by decide +kernel, rfl⟩
theorem dL_331 : Dc code 331 (.iadd) 1 332 := ⟨by decide +kernel, rfl⟩
theorem dL_332 : Dc code 332 (.iaload) 1 333 := ⟨by decide +kernel, rfl⟩
theorem dL_333 : Dc code 333 (.invokevirtual 36) 3 336 := ⟨by decide +kernel, rfl⟩
theorem dL_336 : Dc code 336 (.aload_n 2) 1 337 := ⟨by decide +kernel, rfl⟩
theorem dL_337 : Dc code 337 (.aload_n 0) 1 338 := ⟨by decide +kernel, rfl⟩
theorem dL_338 : Dc code 338 (.iload_n 3) 1 339 := ⟨by decide +kernel, rfl⟩
theorem dL_339 : Dc code 339 (.iconst 1) 1 340 := ⟨by decide +kernel, rfl⟩
theorem dL_340 : Dc code 340 (.iadd) 1 341 := ⟨by decide +kernel, rfl⟩
theorem dL_341 : Dc code 341 (.iaload) 1 342 := ⟨by decide +kernel, rfl⟩
theorem dL_342 : Dc code 342 (.invokevirtual 39) 3 345 := ⟨by decide +kernel, rfl⟩
theorem djL_345 : Dj code 345 (.if_icmp .eq 1119) 3 348 1119 1464 := ⟨by decide +kernel, rfl, by decide⟩
theorem dL_348 : Dc code 348 (.iconst 0) 1 349 := ⟨by decide +kernel, rfl⟩
theorem dL_349 : Dc code 349 (.ireturn) 1 350 := ⟨by decide +kernel, rfl⟩
theorem dL_350 : Dc code 350 (.aload_n 1) 1 351 := ⟨by decide +kernel, rfl⟩
theorem dL_351 : Dc code 351 (.aload_n 0) 1 352 := ⟨by decide +kernel, rfl⟩
theorem dL_352 : Dc code 352 (.iload_n 3) 1 353 := ⟨by decide +kernel, rfl⟩
theorem dL_353 : Dc code 353 (.iconst 1) 1 354 := ⟨by decide +kernel, rfl⟩
theorem dL_354 : Dc code 354 (.iadd) 1 355 := ⟨by decide +kernel, rfl⟩
theorem dL_355 : Dc code 355 (.iaload) 1 356 := ⟨by decide +kernel, rfl⟩
theorem dL_356 : Dc code 356 (.aload_n 0) 1 357 := ⟨by decide +kernel, rfl⟩
theorem dL_357 : Dc code 357 (.iload_n 3) 1 358 := ⟨by decide +kernel, rfl⟩
theorem dL_358 : Dc code 358 (.iconst 2) 1 359 := ⟨by decide +kernel, rfl⟩
theorem dL_359 : Dc code 359 (.iadd) 1 360 := ⟨by decide +kernel, rfl⟩
theorem dL_360 : Dc code 360 (.iaload) 1 361 := ⟨by decide +kernel, rfl⟩
theorem dL_361 : Dc code 361 (.invokevirtual 40) 3 364 := ⟨by decide +kernel, rfl⟩
theorem dL_364 : Dc code 364 (.aload_n 2) 1 365 := ⟨by decide +kernel, rfl⟩
theorem dL_365 : Dc code 365 (.aload_n 0) 1 366 := ⟨by decide +kernel, rfl⟩
theorem dL_366 : Dc code 366 (.iload_n 3) 1 367 := ⟨by decide +kernel, rfl⟩
theorem dL_367 : Dc code 367 (.iconst 1) 1 368 := ⟨by decide +kernel, rfl⟩
theorem dL_368 : Dc code 368 (.iadd) 1 369 := ⟨by decide +kernel, rfl⟩
theorem dL_369 : Dc code 369 (.iaload) 1 370 := ⟨by decide +kernel, rfl⟩
theorem dL_370 : Dc code 370 (.aload_n 0) 1 371 := ⟨by decide +kernel, rfl⟩
theorem dL_371 : Dc code 371 (.iload_n 3) 1 372 := ⟨by decide +kernel, rfl⟩
theorem dL_372 : Dc code 372 (.iconst 2) 1 373 := ⟨by decide +kernel, rfl⟩
theorem dL_373 : Dc code 373 (.iadd) 1 374 := ⟨by decide +kernel, rfl⟩
theorem dL_374 : Dc code 374 (.iaload) 1 375 := ⟨by decide +kernel, rfl⟩
theorem dL_375 : Dc code 375 (.invokevirtual 44) 3 378 := ⟨by decide +kernel, rfl⟩
theorem djL_378 : Dj code 378 (.if_icmp .eq 1086) 3 381 1086 1464 := ⟨by decide +kernel, rfl, by decide⟩
theorem dL_381 : Dc code 381 (.iconst 0) 1 382 := ⟨by decide +kernel, rfl⟩
theorem dL_382 : Dc code 382 (.ireturn) 1 383 := ⟨by decide +kernel, rfl⟩
theorem dL_383 : Dc code 383 (.aload_n 1) 1 384 := ⟨by decide +kernel, rfl⟩
theorem dL_384 : Dc code 384 (.aload_n 0) 1 385 := ⟨by decide +kernel, rfl⟩
theorem dL_385 : Dc code 385 (.iload_n 3) 1 386 := ⟨by decide +kernel, rfl⟩
theorem dL_386 : Dc code 386 (.iconst 1) 1 387 := ⟨by decide +kernel, rfl⟩
theorem dL_387 : Dc code 387 (.iadd) 1 388 := ⟨by decide +kernel, rfl⟩
theorem dL_388 : Dc code 388 (.iaload) 1 389 := ⟨by decide +kernel, rfl⟩
theorem dL_389 : Dc code 389 (.aload_n 0) 1 390 := ⟨by decide +kernel, rfl⟩
theorem dL_390 : Dc code 390 (.iload_n 3) 1 391 := ⟨by decide +kernel, rfl⟩
theorem dL_391 : Dc code 391 (.iconst 2) 1 392 := ⟨by decide +kernel, rfl⟩
theorem dL_392 : Dc code 392 (.iadd) 1 393 := ⟨by decide +kernel, rfl⟩
theorem dL_393 : Dc code 393 (.iaload) 1 394 := ⟨by decide +kernel, rfl⟩
theorem dL_394 : Dc code 394 (.aload_n 0) 1 395 := ⟨by decide +kernel, rfl⟩
theorem dL_395 : Dc code 395 (.iload_n 3) 1 396 := ⟨by decide +kernel, rfl⟩
theorem dL_396 : Dc code 396 (.iconst 3) 1 397 := ⟨by decide +kernel, rfl⟩
theorem dL_397 : Dc code 397 (.iadd) 1 398 := ⟨by decide +kernel, rfl⟩
theorem dL_398 : Dc code 398 (.iaload) 1 399 := ⟨by decide +kernel, rfl⟩
theorem dL_399 : Dc code 399 (.invokevirtual 45) 3 402 := ⟨by decide +kernel, rfl⟩
theorem dL_402 : Dc code 402 (.aload_n 2) 1 403 := ⟨by decide +kernel, rfl⟩
theorem dL_403 : Dc code 403 (.aload_n 0) 1 404 := ⟨by decide +kernel, rfl⟩
theorem dL_404 : Dc code 404 (.iload_n 3) 1 405 := ⟨by decide +kernel, rfl⟩
theorem dL_405 : Dc code 405 (.iconst 1) 1 406 := ⟨by decide +kernel, rfl⟩
theorem dL_406 : Dc code 406 (.iadd) 1 407 := ⟨by decide +kernel, rfl⟩
theorem dL_407 : Dc code 407 (.iaload) 1 408 := ⟨by decide +kernel, rfl⟩
theorem dL_408 : Dc code 408 (.aload_n 0) 1 409 := ⟨by decide +kernel, rfl⟩
theorem dL_409 : Dc code 409 (.iload_n 3) 1 410 := ⟨by decide +kernel, rfl⟩
theorem dL_410 : Dc code 410 (.iconst 2) 1 411 := ⟨by decide +kernel, rfl⟩
theorem dL_411 : Dc code 411 (.iadd) 1 412 := ⟨by decide +kernel, rfl⟩
theorem dL_412 : Dc code 412 (.iaload) 1 413 := ⟨by decide +kernel, rfl⟩
theorem dL_413 : Dc code 413 (.aload_n 0) 1 414 := ⟨by decide +kernel, rfl⟩
theorem dL_414 : Dc code 414 (.iload_n 3) 1 415 := ⟨by decide +kernel, rfl⟩
theorem dL_415 : Dc code 415 (.iconst 3) 1 416 := ⟨by decide +kernel, rfl⟩
theorem dL_416 : Dc code 416 (.iadd) 1 417 := ⟨by decide +kernel, rfl⟩
theorem dL_417 : Dc code 417 (.iaload) 1 418 := ⟨by decide +kernel, rfl⟩
theorem dL_418 : Dc code 418 (.invokevirtual 49) 3 421 := ⟨by decide +kernel, rfl⟩
theorem djL_421 : Dj code 421 (.if_icmp .eq 1043) 3 424 1043 1464 := ⟨by decide +kernel, rfl, by decide⟩
theorem dL_424 : Dc code 424 (.iconst 0) 1 425 := ⟨by decide +kernel, rfl⟩
theorem dL_425 : Dc code 425 (.ireturn) 1 426 := ⟨by decide +kernel, rfl⟩
theorem dL_426 : Dc code 426 (.aload_n 1) 1 427 := ⟨by decide +kernel, rfl⟩
theorem dL_427 : Dc code 427 (.aload_n 0) 1 428 := ⟨by decide +kernel, rfl⟩
theorem dL_428 : Dc code 428 (.iload_n 3) 1 429 := ⟨by decide +kernel, rfl⟩
theorem dL_429 : Dc code 429 (.iconst 1) 1 430 := ⟨by decide +kernel, rfl⟩
theorem dL_430 : Dc code 430 (.iadd) 1 431 := ⟨by decide +kernel, rfl⟩
theorem dL_431 : Dc code 431 (.iaload) 1 432 := ⟨by decide +kernel, rfl⟩
theorem dL_432 : Dc code 432 (.aload_n 0) 1 433 := ⟨by decide +kernel, rfl⟩
theorem dL_433 : Dc code 433 (.iload_n 3) 1 434 := ⟨by decide +kernel, rfl⟩
theorem dL_434 : Dc code 434 (.iconst 2) 1 435 := ⟨by decide +kernel, rfl⟩
theorem dL_435 : Dc code 435 (.iadd) 1 436 := ⟨by decide +kernel, rfl⟩
theorem dL_436 : Dc code 436 (.iaload) 1 437 := ⟨by decide +kernel, rfl⟩
theorem dL_437 : Dc code 437 (.invokevirtual 50) 3 440 := ⟨by decide +kernel, rfl⟩
theorem dL_440 : Dc code 440 (.aload_n 2) 1 441 := ⟨by decide +kernel, rfl⟩
theorem dL_441 : Dc code 441 (.aload_n 0) 1 442 := ⟨by decide +kernel, rfl⟩
theorem dL_442 : Dc code 442 (.iload_n 3) 1 443 := ⟨by decide +kernel, rfl⟩
theorem dL_443 : Dc code 443 (.iconst 1) 1 444 := ⟨by decide +kernel, rfl⟩
theorem dL_444 : Dc code 444 (.iadd) 1 445 := ⟨by decide +kernel, rfl⟩
theorem dL_445 : Dc code 445 (.iaload) 1 446 := ⟨by decide +kernel, rfl⟩
theorem dL_446 : Dc code 446 (.aload_n 0) 1 447 := ⟨by decide +kernel, rfl⟩
theorem dL_447 : Dc code 447 (.iload_n 3) 1 448 := ⟨by decide +kernel, rfl⟩
theorem dL_448 : Dc code 448 (.iconst 2) 1 449 := ⟨by decide +kernel, rfl⟩
theorem dL_449 : Dc code 449 (.iadd) 1 450 := ⟨by decide +kernel, rfl⟩
theorem dL_450 : Dc code 450 (.iaload) 1 451 := ⟨by decide +kernel, rfl⟩
theorem dL_451 : Dc code 451 (.invokevirtual 53) 3 454 := ⟨by decide +kernel, rfl⟩
theorem djL_454 : Dj code 454 (.if_icmp .eq 1010) 3 457 1010 1464 := ⟨by decide +kernel, rfl, by decide⟩
theorem dL_457 : Dc code 457 (.iconst 0) 1 458 := ⟨by decide +kernel, rfl⟩
theorem dL_458 : Dc code 458 (.ireturn) 1 459 := ⟨by decide +kernel, rfl⟩
theorem dL_459 : Dc code 459 (.aload_n 1) 1 460 := ⟨by decide +kernel, rfl⟩
theorem dL_460 : Dc code 460 (.aload_n 0) 1 461 := ⟨by decide +kernel, rfl⟩
theorem dL_461 : Dc code 461 (.iload_n 3) 1 462 := ⟨by decide +kernel, rfl⟩
theorem dL_462 : Dc code 462 (.iconst 1) 1 463 := ⟨by decide +kernel, rfl⟩
theorem dL_463 : Dc code 463 (.iadd) 1 464 := ⟨by decide +kernel, rfl⟩
theorem dL_464 : Dc code 464 (.iaload) 1 465 := ⟨by decide +kernel, rfl⟩
theorem dL_465 : Dc code 465 (.aload_n 0) 1 466 := ⟨by decide +kernel, rfl⟩
theorem dL_466 : Dc code 466 (.iload_n 3) 1 467 := ⟨by decide +kernel, rfl⟩
theorem dL_467 : Dc code 467 (.iconst 2) 1 468 := ⟨by decide +kernel, rfl⟩
theorem dL_468 : Dc code 468 (.iadd) 1 469 := ⟨by decide +kernel, rfl⟩
theorem dL_469 : Dc code 469 (.iaload) 1 470 := ⟨by decide +kernel, rfl⟩
theorem dL_470 : Dc code 470 (.invokevirtual 54) 3 473 := ⟨by decide +kernel, rfl⟩
theorem dL_473 : Dc code 473 (.aload_n 2) 1 474 := ⟨by decide +kernel, rfl⟩
theorem dL_474 : Dc code 474 (.aload_n 0) 1 475 := ⟨by decide +kernel, rfl⟩
theorem dL_475 : Dc code 475 (.iload_n 3) 1 476 := ⟨by decide +kernel, rfl⟩
theorem dL_476 : Dc code 476 (.iconst 1) 1 477 := ⟨by decide +kernel, rfl⟩
theorem dL_477 : Dc code 477 (.iadd) 1 478 := ⟨by decide +kernel, rfl⟩
theorem dL_478 : Dc code 478 (.iaload) 1 479 := ⟨by decide +kernel, rfl⟩
theorem dL_479 : Dc code 479 (.aload_n 0) 1 480 := ⟨by decide +kernel, rfl⟩
theorem dL_480 : Dc code 480 (.iload_n 3) 1 481 := ⟨by decide +kernel, rfl⟩
theorem dL_481 : Dc code 481 (.iconst 2) 1 482 := ⟨by decide +kernel, rfl⟩
theorem dL_482 : Dc code 482 (.iadd) 1 483 := ⟨by decide +kernel, rfl⟩
theorem dL_483 : Dc code 483 (.iaload) 1 484 := ⟨by decide +kernel, rfl⟩
theorem dL_484 : Dc code 484 (.invokevirtual 57) 3 487 := ⟨by decide +kernel, rfl⟩
theorem djL_487 : Dj code 487 (.if_icmp .eq 977) 3 490 977 1464 := ⟨by decide +kernel, rfl, by decide⟩
theorem dL_490 : Dc code 490 (.iconst 0) 1 491 := ⟨by decide +kernel, rfl⟩
theorem dL_491 : Dc code 491 (.ireturn) 1 492 := ⟨by decide +kernel, rfl⟩
theorem dL_492 : Dc code 492 (.aload_n 1) 1 493 := ⟨by decide +kernel, rfl⟩
theorem dL_493 : Dc code 493 (.aload_n 0) 1 494 := ⟨by decide +kernel, rfl⟩
theorem dL_494 : Dc code 494 (.iload_n 3) 1 495 := ⟨by decide +kernel, rfl⟩
theorem dL_495 : Dc code 495 (.iconst 1) 1 496 := ⟨by decide +kernel, rfl⟩
theorem dL_496 : Dc code 496 (.iadd) 1 497 := ⟨by decide +kernel, rfl⟩
theorem dL_497 : Dc code 497 (.iaload) 1 498 := ⟨by decide +kernel, rfl⟩
theorem dL_498 : Dc code 498 (.aload_n 0) 1 499 := ⟨by decide +kernel, rfl⟩
theorem dL_499 : Dc code 499 (.iload_n 3) 1 500 := ⟨by decide +kernel, rfl⟩
theorem dL_500 : Dc code 500 (.iconst 2) 1 501 := ⟨by decide +kernel, rfl⟩
theorem dL_501 : Dc code 501 (.iadd) 1 502 := ⟨by decide +kernel, rfl⟩
theorem dL_502 : Dc code 502 (.iaload) 1 503 := ⟨by decide +kernel, rfl⟩
theorem dL_503 : Dc code 503 (.invokevirtual 58) 3 506 := ⟨by decide +kernel, rfl⟩
theorem dL_506 : Dc code 506 (.aload_n 2) 1 507 := ⟨by decide +kernel, rfl⟩
theorem dL_507 : Dc code 507 (.aload_n 0) 1 508 := ⟨by decide +kernel, rfl⟩
theorem dL_508 : Dc code 508 (.iload_n 3) 1 509 := ⟨by decide +kernel, rfl⟩
theorem dL_509 : Dc code 509 (.iconst 1) 1 510 := ⟨by decide +kernel, rfl⟩
theorem dL_510 : Dc code 510 (.iadd) 1 511 := ⟨by decide +kernel, rfl⟩
theorem dL_511 : Dc code 511 (.iaload) 1 512 := ⟨by decide +kernel, rfl⟩
theorem dL_512 : Dc code 512 (.aload_n 0) 1 513 := ⟨by decide +kernel, rfl⟩
theorem dL_513 : Dc code 513 (.iload_n 3) 1 514 := ⟨by decide +kernel, rfl⟩
theorem dL_514 : Dc code 514 (.iconst 2) 1 515 := ⟨by decide +kernel, rfl⟩
theorem dL_515 : Dc code 515 (.iadd) 1 516 := ⟨by decide +kernel, rfl⟩
theorem dL_516 : Dc code 516 (.iaload) 1 517 := ⟨by decide +kernel, rfl⟩
theorem dL_517 : Dc code 517 (.invokevirtual 61) 3 520 := ⟨by decide +kernel, rfl⟩
theorem djL_520 : Dj code 520 (.if_icmp .eq 944) 3 523 944 1464 := ⟨by decide +kernel, rfl, by decide⟩
theorem dL_523 : Dc code 523 (.iconst 0) 1 524 := ⟨by decide +kernel, rfl⟩
theorem dL_524 : Dc code 524 (.ireturn) 1 525 := ⟨by decide +kernel, rfl⟩
theorem dL_525 : Dc code 525 (.aload_n 1) 1 526 := ⟨by decide +kernel, rfl⟩
theorem dL_526 : Dc code 526 (.aload_n 0) 1 527 := ⟨by decide +kernel, rfl⟩
theorem dL_527 : Dc code 527 (.iload_n 3) 1 528 := ⟨by decide +kernel, rfl⟩
theorem dL_528 : Dc code 528 (.iconst 1) 1 529 := ⟨by decide +kernel, rfl⟩
theorem dL_529 : Dc code 529 (.iadd) 1 530 := ⟨by decide +kernel, rfl⟩
theorem dL_530 : Dc code 530 (.iaload) 1 531 := ⟨by decide +kernel, rfl⟩
theorem dL_531 : Dc code 531 (.aload_n 0) 1 532 := ⟨by decide +kernel, rfl⟩
theorem dL_532 : Dc code 532 (.iload_n 3) 1 533 := ⟨by decide +kernel, rfl⟩
theorem dL_533 : Dc code 533 (.iconst 2) 1 534 := ⟨by decide +kernel, rfl⟩
theorem dL_534 : Dc code 534 (.iadd) 1 535 := ⟨by decide +kernel, rfl⟩
theorem dL_535 : Dc code 535 (.iaload) 1 536 := ⟨by decide +kernel, rfl⟩
theorem dL_536 : Dc code 536 (.aload_n 0) 1 537 := ⟨by decide +kernel, rfl⟩
theorem dL_537 : Dc code 537 (.iload_n 3) 1 538 := ⟨by decide +kernel, rfl⟩
theorem dL_538 : Dc code 538 (.iconst 3) 1 539 := ⟨by decide +kernel, rfl⟩
theorem dL_539 : Dc code 539 (.iadd) 1 540 := ⟨by decide +kernel, rfl⟩
theorem dL_540 : Dc code 540 (.iaload) 1 541 := ⟨by decide +kernel, rfl⟩
theorem dL_541 : Dc code 541 (.invokevirtual 62) 3 544 := ⟨by decide +kernel, rfl⟩
theorem dL_544 : Dc code 544 (.aload_n 2) 1 545 := ⟨by decide +kernel, rfl⟩
theorem dL_545 : Dc code 545 (.aload_n 0) 1 546 := ⟨by decide +kernel, rfl⟩
theorem dL_546 : Dc code 546 (.iload_n 3) 1 547 := ⟨by decide +kernel, rfl⟩
theorem dL_547 : Dc code 547 (.iconst 1) 1 548 := ⟨by decide +kernel, rfl⟩
theorem dL_548 : Dc code 548 (.iadd) 1 549 := ⟨by decide +kernel, rfl⟩
theorem dL_549 : Dc code 549 (.iaload) 1 550 := ⟨by decide +kernel, rfl⟩
theorem dL_550 : Dc code 550 (.aload_n 0) 1 551 := ⟨by decide +kernel, rfl⟩
theorem dL_551 : Dc code 551 (.iload_n 3) 1 552 := ⟨by decide +kernel, rfl⟩
theorem dL_552 : Dc code 552 (.iconst 2) 1 553 := ⟨by decide +kernel, rfl⟩
theorem dL_553 : Dc code 553 (.iadd) 1 554 := ⟨by decide +kernel, rfl⟩
theorem dL_554 : Dc code 554 (.iaload) 1 555 := ⟨by decide +kernel, rfl⟩
theorem dL_555 : Dc code 555 (.aload_n 0) 1 556 := ⟨by decide +kernel, rfl⟩
theorem dL_556 : Dc code 556 (.iload_n 3) 1 557 := ⟨by decide +kernel, rfl⟩
theorem dL_557 : Dc code 557 (.iconst 3) 1 558 := ⟨by decide +kernel, rfl⟩
theorem dL_558 : Dc code 558 (.iadd) 1 559 := ⟨by decide +kernel, rfl⟩
theorem dL_559 : Dc code 559 (.iaload) 1 560 := ⟨by decide +kernel, rfl⟩
theorem dL_560 : Dc code 560 (.invokevirtual 65) 3 563 := ⟨by decide +kernel, rfl⟩
theorem djL_563 : Dj code 563 (.if_icmp .eq 901) 3 566 901 1464 := ⟨by decide +kernel, rfl, by decide⟩
theorem dL_566 : Dc code 566 (.iconst 0) 1 567 := ⟨by decide +kernel, rfl⟩
theorem dL_567 : Dc code 567 (.ireturn) 1 568 := ⟨by decide +kernel, rfl⟩
theorem dL_568 : Dc code 568 (.aload_n 1) 1 569 := ⟨by decide +kernel, rfl⟩
theorem dL_569 : Dc code 569 (.aload_n 0) 1 570 := ⟨by decide +kernel, rfl⟩
theorem dL_570 : Dc code 570 (.iload_n 3) 1 571 := ⟨by decide +kernel, rfl⟩
theorem dL_571 : Dc code 571 (.iconst 1) 1 572 := ⟨by decide +kernel, rfl⟩
theorem dL_572 : Dc code 572 (.iadd) 1 573 := ⟨by decide +kernel, rfl⟩
theorem dL_573 : Dc code 573 (.iaload) 1 574 := ⟨by decide +kernel, rfl⟩
theorem dL_574 : Dc code 574 (.aload_n 0) 1 575 := ⟨by decide +kernel, rfl⟩
theorem dL_575 : Dc code 575 (.iload_n 3) 1 576 := ⟨by decide +kernel, rfl⟩
theorem dL_576 : Dc code 576 (.iconst 2) 1 577 := ⟨by decide +kernel, rfl⟩
theorem dL_577 : Dc code 577 (.iadd) 1 578 := ⟨by decide +kernel, rfl⟩
theorem dL_578 : Dc code 578 (.iaload) 1 579 := ⟨by decide +kernel, rfl⟩
theorem dL_579 : Dc code 579 (.aload_n 0) 1 580 := ⟨by decide +kernel, rfl⟩
theorem dL_580 : Dc code 580 (.iload_n 3) 1 581 := ⟨by decide +kernel, rfl⟩
theorem dL_581 : Dc code 581 (.iconst 3) 1 582 := ⟨by decide +kernel, rfl⟩
theorem dL_582 : Dc code 582 (.iadd) 1 583 := ⟨by decide +kernel, rfl⟩
theorem dL_583 : Dc code 583 (.iaload) 1 584 := ⟨by decide +kernel, rfl⟩
theorem dL_584 : Dc code 584 (.invokevirtual 66) 3 587 := ⟨by decide +kernel, rfl⟩
theorem dL_587 : Dc code 587 (.aload_n 2) 1 588 := ⟨by decide +kernel, rfl⟩
theorem dL_588 : Dc code 588 (.aload_n 0) 1 589 := ⟨by decide +kernel, rfl⟩
theorem dL_589 : Dc code 589 (.iload_n 3) 1 590 := ⟨by decide +kernel, rfl⟩
theorem dL_590 : Dc code 590 (.iconst 1) 1 591 := ⟨by decide +kernel, rfl⟩
theorem dL_591 : Dc code 591 (.iadd) 1 592 := ⟨by decide +kernel, rfl⟩
theorem dL_592 : Dc code 592 (.iaload) 1 593 := ⟨by decide +kernel, rfl⟩
theorem dL_593 : Dc code 593 (.aload_n 0) 1 594 := ⟨by decide +kernel, rfl⟩
theorem dL_594 : Dc code 594 (.iload_n 3) 1 595 := ⟨by decide +kernel, rfl⟩
theorem dL_595 : Dc code 595 (.iconst 2) 1 596 := ⟨by decide +kernel, rfl⟩
theorem dL_596 : Dc code 596 (.iadd) 1 597 := ⟨by decide +kernel, rfl⟩
theorem dL_597 : Dc code 597 (.iaload) 1 598 := ⟨by decide +kernel, rfl⟩
theorem dL_598 : Dc code 598 (.aload_n 0) 1 599 := ⟨by decide +kernel, rfl⟩
theorem dL_599 : Dc code 599 (.iload_n 3) 1 600 := ⟨by decide +kernel, rfl⟩
theorem dL_600 : Dc code 600 (.iconst 3) 1 601 := ⟨by decide +kernel, rfl⟩
theorem dL_601 : Dc code 601 (.iadd) 1 602 := ⟨by decide +kernel, rfl⟩
theorem dL_602 : Dc code 602 (.iaload) 1 603 := ⟨by decide +kernel, rfl⟩
theorem dL_603 : Dc code 603 (.invokevirtual 69) 3 606 := ⟨by decide +kernel, rfl⟩
theorem djL_606 : Dj code 606 (.if_icmp .eq 858) 3 609 858 1464 := ⟨by decide +kernel, rfl, by decide⟩
theorem dL_609 : Dc code 609 (.iconst 0) 1 610 := ⟨by decide +kernel, rfl⟩
theorem dL_610 : Dc code 610 (.ireturn) 1 611 := ⟨by decide +kernel, rfl⟩
theorem dL_611 : Dc code 611 (.aload_n 1) 1 612 := ⟨by decide +kernel, rfl⟩
theorem dL_612 : Dc code 612 (.aload_n 0) 1 613 := ⟨by decide +kernel, rfl⟩
theorem dL_613 : Dc code 613 (.iload_n 3) 1 614 := ⟨by decide +kernel, rfl⟩
theorem dL_614 : Dc code 614 (.iconst 1) 1 615 := ⟨by decide +kernel, rfl⟩
theorem dL_615 : Dc code 615 (.iadd) 1 616 := ⟨by decide +kernel, rfl⟩
theorem dL_616 : Dc code 616 (.iaload) 1 617 := ⟨by decide +kernel, rfl⟩
theorem dL_617 : Dc code 617 (.aload_n 0) 1 618 := ⟨by decide +kernel, rfl⟩
theorem dL_618 : Dc code 618 (.iload_n 3) 1 619 := ⟨by decide +kernel, rfl⟩
theorem dL_619 : Dc code 619 (.iconst 2) 1 620 := ⟨by decide +kernel, rfl⟩
theorem dL_620 : Dc code 620 (.iadd) 1 621 := ⟨by decide +kernel, rfl⟩
theorem dL_621 : Dc code 621 (.iaload) 1 622 := ⟨by decide +kernel, rfl⟩
theorem dL_622 : Dc code 622 (.aload_n 0) 1 623 := ⟨by decide +kernel, rfl⟩
theorem dL_623 : Dc code 623 (.iload_n 3) 1 624 := ⟨by decide +kernel, rfl⟩
theorem dL_624 : Dc code 624 (.iconst 3) 1 625 := ⟨by decide +kernel, rfl⟩
theorem dL_625 : Dc code 625 (.iadd) 1 626 := ⟨by decide +kernel, rfl⟩
theorem dL_626 : Dc code 626 (.iaload) 1 627 := ⟨by decide +kernel, rfl⟩
theorem dL_627 : Dc code 627 (.invokevirtual 70) 3 630 := ⟨by decide +kernel, rfl⟩
theorem dL_630 : Dc code 630 (.aload_n 2) 1 631 := ⟨by decide +kernel, rfl⟩
theorem dL_631 : Dc code 631 (.aload_n 0) 1 632 := ⟨by decide +kernel, rfl⟩
theorem dL_632 : Dc code 632 (.iload_n 3) 1 633 := ⟨by decide +kernel, rfl⟩
theorem dL_633 : Dc code 633 (.iconst 1) 1 634 := ⟨by decide +kernel, rfl⟩
theorem dL_634 : Dc code 634 (.iadd) 1 635 := ⟨by decide +kernel, rfl⟩
theorem dL_635 : Dc code 635 (.iaload) 1 636 := ⟨by decide +kernel, rfl⟩
theorem dL_636 : Dc code 636 (.aload_n 0) 1 637 := ⟨by decide +kernel, rfl⟩
theorem dL_637 : Dc code 637 (.iload_n 3) 1 638 := ⟨by decide +kernel, rfl⟩
theorem dL_638 : Dc code 638 (.iconst 2) 1 639 := ⟨by decide +kernel, rfl⟩
theorem dL_639 : Dc code 639 (.iadd) 1 640 := ⟨by decide +kernel, rfl⟩
theorem dL_640 : Dc code 640 (.iaload) 1 641 := ⟨by decide +kernel, rfl⟩
theorem dL_641 : Dc code 641 (.aload_n 0) 1 642 := ⟨by decide +kernel, rfl⟩
theorem dL_642 : Dc code 642 (.iload_n 3) 1 643 := ⟨by decide +kernel, rfl⟩
theorem dL_643 : Dc code 643 (.iconst 3) 1 644 := ⟨by decide +kernel, rfl⟩
theorem dL_644 : Dc code 644 (.iadd) 1 645 := ⟨by decide +kernel, rfl⟩
theorem dL_645 : Dc code 645 (.iaload) 1 646 := ⟨by decide +kernel, rfl⟩
theorem dL_646 : Dc code 646 (.invokevirtual 74) 3 649 := ⟨by decide +kernel, rfl⟩
theorem dL_649 : Dc code 649 (.lcmp) 1 650 := ⟨by decide +kernel, rfl⟩
theorem djL_650 : Dj code 650 (.ifCond .eq 814) 3 653 814 1464 := ⟨by decide +kernel, rfl, by decide⟩
theorem dL_653 : Dc code 653 (.iconst 0) 1 654 := ⟨by decide +kernel, rfl⟩
theorem dL_654 : Dc code 654 (.ireturn) 1 655 := ⟨by decide +kernel, rfl⟩
theorem dL_655 : Dc code 655 (.aload_n 1) 1 656 := ⟨by decide +kernel, rfl⟩
theorem dL_656 : Dc code 656 (.aload_n 0) 1 657 := ⟨by decide +kernel, rfl⟩
theorem dL_657 : Dc code 657 (.iload_n 3) 1 658 := ⟨by decide +kernel, rfl⟩
theorem dL_658 : Dc code 658 (.iconst 1) 1 659 := ⟨by decide +kernel, rfl⟩
theorem dL_659 : Dc code 659 (.iadd) 1 660 := ⟨by decide +kernel, rfl⟩
theorem dL_660 : Dc code 660 (.iaload) 1 661 := ⟨by decide +kernel, rfl⟩
theorem dL_661 : Dc code 661 (.aload_n 0) 1 662 := ⟨by decide +kernel, rfl⟩
theorem dL_662 : Dc code 662 (.iload_n 3) 1 663 := ⟨by decide +kernel, rfl⟩
theorem dL_663 : Dc code 663 (.iconst 2) 1 664 := ⟨by decide +kernel, rfl⟩
theorem dL_664 : Dc code 664 (.iadd) 1 665 := ⟨by decide +kernel, rfl⟩
theorem dL_665 : Dc code 665 (.iaload) 1 666 := ⟨by decide +kernel, rfl⟩
theorem dL_666 : Dc code 666 (.aload_n 0) 1 667 := ⟨by decide +kernel, rfl⟩
theorem dL_667 : Dc code 667 (.iload_n 3) 1 668 := ⟨by decide +kernel, rfl⟩
theorem dL_668 : Dc code 668 (.iconst 3) 1 669 := ⟨by decide +kernel, rfl⟩
theorem dL_669 : Dc code 669 (.iadd) 1 670 := ⟨by decide +kernel, rfl⟩
theorem dL_670 : Dc code 670 (.iaload) 1 671 := ⟨by decide +kernel, rfl⟩
theorem dL_671 : Dc code 671 (.invokevirtual 75) 3 674 := ⟨by decide +kernel, rfl⟩
theorem dL_674 : Dc code 674 (.aload_n 2) 1 675 := ⟨by decide +kernel, rfl⟩
theorem dL_675 : Dc code 675 (.aload_n 0) 1 676 := ⟨by decide +kernel, rfl⟩
theorem dL_676 : Dc code 676 (.iload_n 3) 1 677 := ⟨by decide +kernel, rfl⟩
theorem dL_677 : Dc code 677 (.iconst 1) 1 678 := ⟨by decide +kernel, rfl⟩
theorem dL_678 : Dc code 678 (.iadd) 1 679 := ⟨by decide +kernel, rfl⟩
theorem dL_679 : Dc code 679 (.iaload) 1 680 := ⟨by decide +kernel, rfl⟩
theorem dL_680 : Dc code 680 (.aload_n 0) 1 681 := ⟨by decide +kernel, rfl⟩
theorem dL_681 : Dc code 681 (.iload_n 3) 1 682 := ⟨by decide +kernel, rfl⟩
theorem dL_682 : Dc code 682 (.iconst 2) 1 683 := ⟨by decide +kernel, rfl⟩
theorem dL_683 : Dc code 683 (.iadd) 1 684 := ⟨by decide +kernel, rfl⟩
theorem dL_684 : Dc code 684 (.iaload) 1 685 := ⟨by decide +kernel, rfl⟩
theorem dL_685 : Dc code 685 (.aload_n 0) 1 686 := ⟨by decide +kernel, rfl⟩
theorem dL_686 : Dc code 686 (.iload_n 3) 1 687 := ⟨by decide +kernel, rfl⟩
theorem dL_687 : Dc code 687 (.iconst 3) 1 688 := ⟨by decide +kernel, rfl⟩
theorem dL_688 : Dc code 688 (.iadd) 1 689 := ⟨by decide +kernel, rfl⟩
theorem dL_689 : Dc code 689 (.iaload) 1 690 := ⟨by decide +kernel, rfl⟩
theorem dL_690 : Dc code 690 (.invokevirtual 78) 3 693 := ⟨by decide +kernel, rfl⟩
theorem djL_693 : Dj code 693 (.if_icmp .eq 771) 3 696 771 1464 := ⟨by decide +kernel, rfl, by decide⟩
theorem dL_696 : Dc code 696 (.iconst 0) 1 697 := ⟨by decide +kernel, rfl⟩
theorem dL_697 : Dc code 697 (.ireturn) 1 698 := ⟨by decide +kernel, rfl⟩
theorem dL_698 : Dc code 698 (.aload_n 1) 1 699 := ⟨by decide +kernel, rfl⟩
theorem dL_699 : Dc code 699 (.aload_n 0) 1 700 := ⟨by decide +kernel, rfl⟩
theorem dL_700 : Dc code 700 (.iload_n 3) 1 701 := ⟨by decide +kernel, rfl⟩
theorem dL_701 : Dc code 701 (.iconst 1) 1 702 := ⟨by decide +kernel, rfl⟩
theorem dL_702 : Dc code 702 (.iadd) 1 703 := ⟨by decide +kernel, rfl⟩
theorem dL_703 : Dc code 703 (.iaload) 1 704 := ⟨by decide +kernel, rfl⟩
theorem dL_704 : Dc code 704 (.aload_n 0) 1 705 := ⟨by decide +kernel, rfl⟩
theorem dL_705 : Dc code 705 (.iload_n 3) 1 706 := ⟨by decide +kernel, rfl⟩
theorem dL_706 : Dc code 706 (.iconst 2) 1 707 := ⟨by decide +kernel, rfl⟩
theorem dL_707 : Dc code 707 (.iadd) 1 708 := ⟨by decide +kernel, rfl⟩
theorem dL_708 : Dc code 708 (.iaload) 1 709 := ⟨by decide +kernel, rfl⟩
theorem dL_709 : Dc code 709 (.aload_n 0) 1 710 := ⟨by decide +kernel, rfl⟩
theorem dL_710 : Dc code 710 (.iload_n 3) 1 711 := ⟨by decide +kernel, rfl⟩
theorem dL_711 : Dc code 711 (.iconst 3) 1 712 := ⟨by decide +kernel, rfl⟩
theorem dL_712 : Dc code 712 (.iadd) 1 713 := ⟨by decide +kernel, rfl⟩
theorem dL_713 : Dc code 713 (.iaload) 1 714 := ⟨by decide +kernel, rfl⟩
theorem dL_714 : Dc code 714 (.aload_n 0) 1 715 := ⟨by decide +kernel, rfl⟩
theorem dL_715 : Dc code 715 (.iload_n 3) 1 716 := ⟨by decide +kernel, rfl⟩
theorem dL_716 : Dc code 716 (.iconst 4) 1 717 := ⟨by decide +kernel, rfl⟩
theorem dL_717 : Dc code 717 (.iadd) 1 718 := ⟨by decide +kernel, rfl⟩
theorem dL_718 : Dc code 718 (.iaload) 1 719 := ⟨by decide +kernel, rfl⟩
theorem dL_719 : Dc code 719 (.invokevirtual 79) 3 722 := ⟨by decide +kernel, rfl⟩
theorem dL_722 : Dc code 722 (.aload_n 2) 1 723 := ⟨by decide +kernel, rfl⟩
theorem dL_723 : Dc code 723 (.aload_n 0) 1 724 := ⟨by decide +kernel, rfl⟩
theorem dL_724 : Dc code 724 (.iload_n 3) 1 725 := ⟨by decide +kernel, rfl⟩
theorem dL_725 : Dc code 725 (.iconst 1) 1 726 := ⟨by decide +kernel, rfl⟩
theorem dL_726 : Dc code 726 (.iadd) 1 727 := ⟨by decide +kernel, rfl⟩
theorem dL_727 : Dc code 727 (.iaload) 1 728 := ⟨by decide +kernel, rfl⟩
theorem dL_728 : Dc code 728 (.aload_n 0) 1 729 := ⟨by decide +kernel, rfl⟩
theorem dL_729 : Dc code 729 (.iload_n 3) 1 730 := ⟨by decide +kernel, rfl⟩
theorem dL_730 : Dc code 730 (.iconst 2) 1 731 := ⟨by decide +kernel, rfl⟩
theorem dL_731 : Dc code 731 (.iadd) 1 732 := ⟨by decide +kernel, rfl⟩
theorem dL_732 : Dc code 732 (.iaload) 1 733 := ⟨by decide +kernel, rfl⟩
theorem dL_733 : Dc code 733 (.aload_n 0) 1 734 := ⟨by decide +kernel, rfl⟩
theorem dL_734 : Dc code 734 (.iload_n 3) 1 735 := ⟨by decide +kernel, rfl⟩
theorem dL_735 : Dc code 735 (.iconst 3) 1 736 := ⟨by decide +kernel, rfl⟩
theorem dL_736 : Dc code 736 (.iadd) 1 737 := ⟨by decide +kernel, rfl⟩
theorem dL_737 : Dc code 737 (.iaload) 1 738 := ⟨by decide +kernel, rfl⟩
theorem dL_738 : Dc code 738 (.aload_n 0) 1 739 := ⟨by decide +kernel, rfl⟩
theorem dL_739 : Dc code 739 (.iload_n 3) 1 740 := ⟨by decide +kernel, rfl⟩
theorem dL_740 : Dc code 740 (.iconst 4) 1 741 := ⟨by decide +kernel, rfl⟩
theorem dL_741 : Dc code 741 (.iadd) 1 742 := ⟨by decide +kernel, rfl⟩
theorem dL_742 : Dc code 742 (.iaload) 1 743 := ⟨by decide +kernel, rfl⟩
theorem dL_743 : Dc code 743 (.invokevirtual 83) 3 746 := ⟨by decide +kernel, rfl⟩
theorem dL_746 : Dc code 746 (.lcmp) 1 747 := ⟨by decide +kernel, rfl⟩
theorem djL_747 : Dj code 747 (.ifCond .eq 717) 3 750 717 1464 := ⟨by decide +kernel, rfl, by decide⟩
theorem dL_750 : Dc code 750 (.iconst 0) 1 751 := ⟨by decide +kernel, rfl⟩
theorem dL_751 : Dc code 751 (.ireturn) 1 752 := ⟨by decide +kernel, rfl⟩
theorem dL_752 : Dc code 752 (.aload_n 1) 1 753 := ⟨by decide +kernel, rfl⟩
theorem dL_753 : Dc code 753 (.aload_n 0) 1 754 := ⟨by decide +kernel, rfl⟩
theorem dL_754 : Dc code 754 (.iload_n 3) 1 755 := ⟨by decide +kernel, rfl⟩
theorem dL_755 : Dc code 755 (.iconst 1) 1 756 := ⟨by decide +kernel, rfl⟩
theorem dL_756 : Dc code 756 (.iadd) 1 757 := ⟨by decide +kernel, rfl⟩
theorem dL_757 : Dc code 757 (.iaload) 1 758 := ⟨by decide +kernel, rfl⟩
theorem dL_758 : Dc code 758 (.aload_n 0) 1 759 := ⟨by decide +kernel, rfl⟩
theorem dL_759 : Dc code 759 (.iload_n 3) 1 760 := ⟨by decide +kernel, rfl⟩
theorem dL_760 : Dc code 760 (.iconst 2) 1 761 := ⟨by decide +kernel, rfl⟩
theorem dL_761 : Dc code 761 (.iadd) 1 762 := ⟨by decide +kernel, rfl⟩
theorem dL_762 : Dc code 762 (.iaload) 1 763 := ⟨by decide +kernel, rfl⟩
theorem dL_763 : Dc code 763 (.aload_n 0) 1 764 := ⟨by decide +kernel, rfl⟩
theorem dL_764 : Dc code 764 (.iload_n 3) 1 765 := ⟨by decide +kernel, rfl⟩
theorem dL_765 : Dc code 765 (.iconst 3) 1 766 := ⟨by decide +kernel, rfl⟩
theorem dL_766 : Dc code 766 (.iadd) 1 767 := ⟨by decide +kernel, rfl⟩
theorem dL_767 : Dc code 767 (.iaload) 1 768 := ⟨by decide +kernel, rfl⟩
theorem dL_768 : Dc code 768 (.invokevirtual 84) 3 771 := ⟨by decide +kernel, rfl⟩
theorem dL_771 : Dc code 771 (.aload_n 2) 1 772 := ⟨by decide +kernel, rfl⟩
theorem dL_772 : Dc code 772 (.aload_n 0) 1 773 := ⟨by decide +kernel, rfl⟩
theorem dL_773 : Dc code 773 (.iload_n 3) 1 774 := ⟨by decide +kernel, rfl⟩
theorem dL_774 : Dc code 774 (.iconst 1) 1 775 := ⟨by decide +kernel, rfl⟩
theorem dL_775 : Dc code 775 (.iadd) 1 776 := ⟨by decide +kernel, rfl⟩
theorem dL_776 : Dc code 776 (.iaload) 1 777 := ⟨by decide +kernel, rfl⟩
theorem dL_777 : Dc code 777 (.aload_n 0) 1 778 := ⟨by decide +kernel, rfl⟩
theorem dL_778 : Dc code 778 (.iload_n 3) 1 779 := ⟨by decide +kernel, rfl⟩
theorem dL_779 : Dc code 779 (.iconst 2) 1 780 := ⟨by decide +kernel, rfl⟩
theorem dL_780 : Dc code 780 (.iadd) 1 781 := ⟨by decide +kernel, rfl⟩
theorem dL_781 : Dc code 781 (.iaload) 1 782 := ⟨by decide +kernel, rfl⟩
theorem dL_782 : Dc code 782 (.aload_n 0) 1 783 := ⟨by decide +kernel, rfl⟩
theorem dL_783 : Dc code 783 (.iload_n 3) 1 784 := ⟨by decide +kernel, rfl⟩
theorem dL_784 : Dc code 784 (.iconst 3) 1 785 := ⟨by decide +kernel, rfl⟩
theorem dL_785 : Dc code 785 (.iadd) 1 786 := ⟨by decide +kernel, rfl⟩
theorem dL_786 : Dc code 786 (.iaload) 1 787 := ⟨by decide +kernel, rfl⟩
theorem dL_787 : Dc code 787 (.invokevirtual 87) 3 790 := ⟨by decide +kernel, rfl⟩
theorem djL_790 : Dj code 790 (.if_icmp .eq 674) 3 793 674 1464 := ⟨by decide +kernel, rfl, by decide⟩
theorem dL_793 : Dc code 793 (.iconst 0) 1 794 := ⟨by decide +kernel, rfl⟩
theorem dL_794 : Dc code 794 (.ireturn) 1 795 := ⟨by decide +kernel, rfl⟩
theorem dL_795 : Dc code 795 (.aload_n 1) 1 796 := ⟨by decide +kernel, rfl⟩
theorem dL_796 : Dc code 796 (.aload_n 0) 1 797 := ⟨by decide +kernel, rfl⟩
theorem dL_797 : Dc code 797 (.iload_n 3) 1 798 := ⟨by decide +kernel, rfl⟩
theorem dL_798 : Dc code 798 (.iconst 1) 1 799 := ⟨by decide +kernel, rfl⟩
theorem dL_799 : Dc code 799 (.iadd) 1 800 := ⟨by decide +kernel, rfl⟩
theorem dL_800 : Dc code 800 (.iaload) 1 801 := ⟨by decide +kernel, rfl⟩
theorem dL_801 : Dc code 801 (.aload_n 0) 1 802 := ⟨by decide +kernel, rfl⟩
theorem dL_802 : Dc code 802 (.iload_n 3) 1 803 := ⟨by decide +kernel, rfl⟩
theorem dL_803 : Dc code 803 (.iconst 2) 1 804 := ⟨by decide +kernel, rfl⟩
theorem dL_804 : Dc code 804 (.iadd) 1 805 := ⟨by decide +kernel, rfl⟩
theorem dL_805 : Dc code 805 (.iaload) 1 806 := ⟨by decide +kernel, rfl⟩
theorem dL_806 : Dc code 806 (.aload_n 0) 1 807 := ⟨by decide +kernel, rfl⟩
theorem dL_807 : Dc code 807 (.iload_n 3) 1 808 := ⟨by decide +kernel, rfl⟩
theorem dL_808 : Dc code 808 (.iconst 3) 1 809 := ⟨by decide +kernel, rfl⟩
theorem dL_809 : Dc code 809 (.iadd) 1 810 := ⟨by decide +kernel, rfl⟩
theorem dL_810 : Dc code 810 (.iaload) 1 811 := ⟨by decide +kernel, rfl⟩
theorem dL_811 : Dc code 811 (.invokevirtual 88) 3 814 := ⟨by decide +kernel, rfl⟩
theorem dL_814 : Dc code 814 (.aload_n 2) 1 815 := ⟨by decide +kernel, rfl⟩
theorem dL_815 : Dc code 815 (.aload_n 0) 1 816 := ⟨by decide +kernel, rfl⟩
theorem dL_816 : Dc code 816 (.iload_n 3) 1 817 := ⟨by decide +kernel, rfl⟩
theorem dL_817 : Dc code 817 (.iconst 1) 1 818 := ⟨by decide +kernel, rfl⟩
theorem dL_818 : Dc code 818 (.iadd) 1 819 := ⟨by decide +kernel, rfl⟩
theorem dL_819 : Dc code 819 (.iaload) 1 820 := ⟨by decide +kernel, rfl⟩
theorem dL_820 : Dc code 820 (.aload_n 0) 1 821 := ⟨by decide +kernel, rfl⟩
theorem dL_821 : Dc code 821 (.iload_n 3) 1 822 := ⟨by decide +kernel, rfl⟩
theorem dL_822 : Dc code 822 (.iconst 2) 1 823 := ⟨by decide +kernel, rfl⟩
theorem dL_823 : Dc code 823 (.iadd) 1 824 := ⟨by decide +kernel, rfl⟩
theorem dL_824 : Dc code 824 (.iaload) 1 825 := ⟨by decide +kernel, rfl⟩
theorem dL_825 : Dc code 825 (.aload_n 0) 1 826 := ⟨by decide +kernel, rfl⟩
theorem dL_826 : Dc code 826 (.iload_n 3) 1 827 := ⟨by decide +kernel, rfl⟩
theorem dL_827 : Dc code 827 (.iconst 3) 1 828 := ⟨by decide +kernel, rfl⟩
theorem dL_828 : Dc code 828 (.iadd) 1 829 := ⟨by decide +kernel, rfl⟩
theorem dL_829 : Dc code 829 (.iaload) 1 830 := ⟨by decide +kernel, rfl⟩
theorem dL_830 : Dc code 830 (.invokevirtual 91) 3 833 := ⟨by decide +kernel, rfl⟩
theorem djL_833 : Dj code 833 (.if_icmp .eq 631) 3 836 631 1464 := ⟨by decide +kernel, rfl, by decide⟩
theorem dL_836 : Dc code 836 (.iconst 0) 1 837 := ⟨by decide +kernel, rfl⟩
theorem dL_837 : Dc code 837 (.ireturn) 1 838 := ⟨by decide +kernel, rfl⟩
theorem dL_838 : Dc code 838 (.aload_n 1) 1 839 := ⟨by decide +kernel, rfl⟩
theorem dL_839 : Dc code 839 (.invokevirtual 92) 3 842 := ⟨by decide +kernel, rfl⟩
theorem dL_842 : Dc code 842 (.aload_n 2) 1 843 := ⟨by decide +kernel, rfl⟩
theorem dL_843 : Dc code 843 (.invokevirtual 95) 3 846 := ⟨by decide +kernel, rfl⟩
theorem djL_846 : Dj code 846 (.if_icmp .eq 618) 3 849 618 1464 := ⟨by decide +kernel, rfl, by decide⟩
theorem dL_849 : Dc code 849 (.iconst 0) 1 850 := ⟨by decide +kernel, rfl⟩
theorem dL_850 : Dc code 850 (.ireturn) 1 851 := ⟨by decide +kernel, rfl⟩
theorem dL_851 : Dc code 851 (.aload_n 1) 1 852 := ⟨by decide +kernel, rfl⟩
theorem dL_852 : Dc code 852 (.invokevirtual 96) 3 855 := ⟨by decide +kernel, rfl⟩
theorem dL_855 : Dc code 855 (.aload_n 2) 1 856 := ⟨by decide +kernel, rfl⟩
theorem dL_856 : Dc code 856 (.invokevirtual 99) 3 859 := ⟨by decide +kernel, rfl⟩
theorem djL_859 : Dj code 859 (.if_icmp .eq 605) 3 862 605 1464 := ⟨by decide +kernel, rfl, by decide⟩
theorem dL_862 : Dc code 862 (.iconst 0) 1 863 := ⟨by decide +kernel, rfl⟩
theorem dL_863 : Dc code 863 (.ireturn) 1 864 := ⟨by decide +kernel, rfl⟩
theorem dL_864 : Dc code 864 (.aload_n 1) 1 865 := ⟨by decide +kernel, rfl⟩
theorem dL_865 : Dc code 865 (.aload_n 0) 1 866 := ⟨by decide +kernel, rfl⟩
theorem dL_866 : Dc code 866 (.iload_n 3) 1 867 := ⟨by decide +kernel, rfl⟩
theorem dL_867 : Dc code 867 (.iconst 1) 1 868 := ⟨by decide +kernel, rfl⟩
theorem dL_868 : Dc code 868 (.iadd) 1 869 := ⟨by decide +kernel, rfl⟩
theorem dL_869 : Dc code 869 (.iaload) 1 870 := ⟨by decide +kernel, rfl⟩
theorem dL_870 : Dc code 870 (.aload_n 0) 1 871 := ⟨by decide +kernel, rfl⟩
theorem dL_871 : Dc code 871 (.iload_n 3) 1 872 := ⟨by decide +kernel, rfl⟩
theorem dL_872 : Dc code 872 (.iconst 2) 1 873 := ⟨by decide +kernel, rfl⟩
theorem dL_873 : Dc code 873 (.iadd) 1 874 := ⟨by decide +kernel, rfl⟩
theorem dL_874 : Dc code 874 (.iaload) 1 875 := ⟨by decide +kernel, rfl⟩
theorem dL_875 : Dc code 875 (.aload_n 0) 1 876 := ⟨by decide +kernel, rfl⟩
theorem dL_876 : Dc code 876 (.iload_n 3) 1 877 := ⟨by decide +kernel, rfl⟩
theorem dL_877 : Dc code 877 (.iconst 3) 1 878 := ⟨by decide +kernel, rfl⟩
theorem dL_878 : Dc code 878 (.iadd) 1 879 := ⟨by decide +kernel, rfl⟩
theorem dL_879 : Dc code 879 (.iaload) 1 880 := ⟨by decide +kernel, rfl⟩
theorem dL_880 : Dc code 880 (.aload_n 0) 1 881 := ⟨by decide +kernel, rfl⟩
theorem dL_881 : Dc code 881 (.iload_n 3) 1 882 := ⟨by decide +kernel, rfl⟩
theorem dL_882 : Dc code 882 (.iconst 4) 1 883 := ⟨by decide +kernel, rfl⟩
theorem dL_883 : Dc code 883 (.iadd) 1 884 := ⟨by decide +kernel, rfl⟩
theorem dL_884 : Dc code 884 (.iaload) 1 885 := ⟨by decide +kernel, rfl⟩
theorem dL_885 : Dc code 885 (.invokevirtual 100) 3 888 := ⟨by decide +kernel, rfl⟩
theorem dL_888 : Dc code 888 (.aload_n 2) 1 889 := ⟨by decide +kernel, rfl⟩
theorem dL_889 : Dc code 889 (.aload_n 0) 1 890 := ⟨by decide +kernel, rfl⟩
theorem dL_890 : Dc code 890 (.iload_n 3) 1 891 := ⟨by decide +kernel, rfl⟩
theorem dL_891 : Dc code 891 (.iconst 1) 1 892 := ⟨by decide +kernel, rfl⟩
theorem dL_892 : Dc code 892 (.iadd) 1 893 := ⟨by decide +kernel, rfl⟩
theorem dL_893 : Dc code 893 (.iaload) 1 894 := ⟨by decide +kernel, rfl⟩
theorem dL_894 : Dc code 894 (.aload_n 0) 1 895 := ⟨by decide +kernel, rfl⟩
theorem dL_895 : Dc code 895 (.iload_n 3) 1 896 := ⟨by decide +kernel, rfl⟩
theorem dL_896 : Dc code 896 (.iconst 2) 1 897 := ⟨by decide +kernel, rfl⟩
theorem dL_897 : Dc code 897 (.iadd) 1 898 := ⟨by decide +kernel, rfl⟩
theorem dL_898 : Dc code 898 (.iaload) 1 899 := ⟨by decide +kernel, rfl⟩
theorem dL_899 : Dc code 899 (.aload_n 0) 1 900 := ⟨by decide +kernel, rfl⟩
theorem dL_900 : Dc code 900 (.iload_n 3) 1 901 := ⟨by decide +kernel, rfl⟩
theorem dL_901 : Dc code 901 (.iconst 3) 1 902 := ⟨by decide +kernel, rfl⟩
theorem dL_902 : Dc code 902 (.iadd) 1 903 := ⟨by decide +kernel, rfl⟩
theorem dL_903 : Dc code 903 (.iaload) 1 904 := ⟨by decide +kernel, rfl⟩
theorem dL_904 : Dc code 904 (.aload_n 0) 1 905 := ⟨by decide +kernel, rfl⟩
theorem dL_905 : Dc code 905 (.iload_n 3) 1 906 := ⟨by decide +kernel, rfl⟩
theorem dL_906 : Dc code 906 (.iconst 4) 1 907 := ⟨by decide +kernel, rfl⟩
theorem dL_907 : Dc code 907 (.iadd) 1 908 := ⟨by decide +kernel, rfl⟩
theorem dL_908 : Dc code 908 (.iaload) 1 909 := ⟨by decide +kernel, rfl⟩
theorem dL_909 : Dc code 909 (.invokevirtual 104) 3 912 := ⟨by decide +kernel, rfl⟩
theorem djL_912 : Dj code 912 (.if_icmp .eq 552) 3 915 552 1464 := ⟨by decide +kernel, rfl, by decide⟩
theorem dL_915 : Dc code 915 (.iconst 0) 1 916 := ⟨by decide +kernel, rfl⟩
theorem dL_916 : Dc code 916 (.ireturn) 1 917 := ⟨by decide +kernel, rfl⟩
theorem dL_917 : Dc code 917 (.aload_n 1) 1 918 := ⟨by decide +kernel, rfl⟩
theorem dL_918 : Dc code 918 (.aload_n 0) 1 919 := ⟨by decide +kernel, rfl⟩
theorem dL_919 : Dc code 919 (.iload_n 3) 1 920 := ⟨by decide +kernel, rfl⟩
theorem dL_920 : Dc code 920 (.iconst 1) 1 921 := ⟨by decide +kernel, rfl⟩
theorem dL_921 : Dc code 921 (.iadd) 1 922 := ⟨by decide +kernel, rfl⟩
theorem dL_922 : Dc code 922 (.iaload) 1 923 := ⟨by decide +kernel, rfl⟩
theorem dL_923 : Dc code 923 (.aload_n 0) 1 924 := ⟨by decide +kernel, rfl⟩
theorem dL_924 : Dc code 924 (.iload_n 3) 1 925 := ⟨by decide +kernel, rfl⟩
theorem dL_925 : Dc code 925 (.iconst 2) 1 926 := ⟨by decide +kernel, rfl⟩
theorem dL_926 : Dc code 926 (.iadd) 1 927 := ⟨by decide +kernel, rfl⟩
theorem dL_927 : Dc code 927 (.iaload) 1 928 := ⟨by decide +kernel, rfl⟩
theorem dL_928 : Dc code 928 (.invokevirtual 105) 3 931 := ⟨by decide +kernel, rfl⟩
theorem dL_931 : Dc code 931 (.aload_n 2) 1 932 := ⟨by decide +kernel, rfl⟩
theorem dL_932 : Dc code 932 (.aload_n 0) 1 933 := ⟨by decide +kernel, rfl⟩
theorem dL_933 : Dc code 933 (.iload_n 3) 1 934 := ⟨by decide +kernel, rfl⟩
theorem dL_934 : Dc code 934 (.iconst 1) 1 935 := ⟨by decide +kernel, rfl⟩
theorem dL_935 : Dc code 935 (.iadd) 1 936 := ⟨by decide +kernel, rfl⟩
theorem dL_936 : Dc code 936 (.iaload) 1 937 := ⟨by decide +kernel, rfl⟩
theorem dL_937 : Dc code 937 (.aload_n 0) 1 938 := ⟨by decide +kernel, rfl⟩
theorem dL_938 : Dc code 938 (.iload_n 3) 1 939 := ⟨by decide +kernel, rfl⟩
theorem dL_939 : Dc code 939 (.iconst 2) 1 940 := ⟨by decide +kernel, rfl⟩
theorem dL_940 : Dc code 940 (.iadd) 1 941 := ⟨by decide +kernel, rfl⟩
theorem dL_941 : Dc code 941 (.iaload) 1 942 := ⟨by decide +kernel, rfl⟩
theorem dL_942 : Dc code 942 (.invokevirtual 108) 3 945 := ⟨by decide +kernel, rfl⟩
theorem djL_945 : Dj code 945 (.if_icmp .eq 519) 3 948 519 1464 := ⟨by decide +kernel, rfl, by decide⟩
theorem dL_948 : Dc code 948 (.iconst 0) 1 949 := ⟨by decide +kernel, rfl⟩
theorem dL_949 : Dc code 949 (.ireturn) 1 950 := ⟨by decide +kernel, rfl⟩
theorem dL_950 : Dc code 950 (.aload_n 1) 1 951 := ⟨by decide +kernel, rfl⟩
theorem dL_951 : Dc code 951 (.aload_n 0) 1 952 := ⟨by decide +kernel, rfl⟩
theorem dL_952 : Dc code 952 (.iload_n 3) 1 953 := ⟨by decide +kernel, rfl⟩
theorem dL_953 : Dc code 953 (.iconst 1) 1 954 := ⟨by decide +kernel, rfl⟩
theorem dL_954 : Dc code 954 (.iadd) 1 955 := ⟨by decide +kernel, rfl⟩
theorem dL_955 : Dc code 955 (.iaload) 1 956 := ⟨by decide +kernel, rfl⟩
theorem dL_956 : Dc code 956 (.aload_n 0) 1 957 := ⟨by decide +kernel, rfl⟩
theorem dL_957 : Dc code 957 (.iload_n 3) 1 958 := ⟨by decide +kernel, rfl⟩
theorem dL_958 : Dc code 958 (.iconst 2) 1 959 := ⟨by decide +kernel, rfl⟩
theorem dL_959 : Dc code 959 (.iadd) 1 960 := ⟨by decide +kernel, rfl⟩
theorem dL_960 : Dc code 960 (.iaload) 1 961 := ⟨by decide +kernel, rfl⟩
theorem dL_961 : Dc code 961 (.aload_n 0) 1 962 := ⟨by decide +kernel, rfl⟩
theorem dL_962 : Dc code 962 (.iload_n 3) 1 963 := ⟨by decide +kernel, rfl⟩
theorem dL_963 : Dc code 963 (.iconst 3) 1 964 := ⟨by decide +kernel, rfl⟩
theorem dL_964 : Dc code 964 (.iadd) 1 965 := ⟨by decide +kernel, rfl⟩
theorem dL_965 : Dc code 965 (.iaload) 1 966 := ⟨by decide +kernel, rfl⟩
theorem dL_966 : Dc code 966 (.aload_n 0) 1 967 := ⟨by decide +kernel, rfl⟩
theorem dL_967 : Dc code 967 (.iload_n 3) 1 968 := ⟨by decide +kernel, rfl⟩
theorem dL_968 : Dc code 968 (.iconst 4) 1 969 := ⟨by decide +kernel, rfl⟩
theorem dL_969 : Dc code 969 (.iadd) 1 970 := ⟨by decide +kernel, rfl⟩
theorem dL_970 : Dc code 970 (.iaload) 1 971 := ⟨by decide +kernel, rfl⟩
theorem dL_971 : Dc code 971 (.invokevirtual 109) 3 974 := ⟨by decide +kernel, rfl⟩
theorem dL_974 : Dc code 974 (.aload_n 2) 1 975 := ⟨by decide +kernel, rfl⟩
theorem dL_975 : Dc code 975 (.aload_n 0) 1 976 := ⟨by decide +kernel, rfl⟩
theorem dL_976 : Dc code 976 (.iload_n 3) 1 977 := ⟨by decide +kernel, rfl⟩
theorem dL_977 : Dc code 977 (.iconst 1) 1 978 := ⟨by decide +kernel, rfl⟩
theorem dL_978 : Dc code 978 (.iadd) 1 979 := ⟨by decide +kernel, rfl⟩
theorem dL_979 : Dc code 979 (.iaload) 1 980 := ⟨by decide +kernel, rfl⟩
theorem dL_980 : Dc code 980 (.aload_n 0) 1 981 := ⟨by decide +kernel, rfl⟩
theorem dL_981 : Dc code 981 (.iload_n 3) 1 982 := ⟨by decide +kernel, rfl⟩
theorem dL_982 : Dc code 982 (.iconst 2) 1 983 := ⟨by decide +kernel, rfl⟩
theorem dL_983 : Dc code 983 (.iadd) 1 984 := ⟨by decide +kernel, rfl⟩
theorem dL_984 : Dc code 984 (.iaload) 1 985 := ⟨by decide +kernel, rfl⟩
theorem dL_985 : Dc code 985 (.aload_n 0) 1 986 := ⟨by decide +kernel, rfl⟩
theorem dL_986 : Dc code 986 (.iload_n 3) 1 987 := ⟨by decide +kernel, rfl⟩
theorem dL_987 : Dc code 987 (.iconst 3) 1 988 := ⟨by decide +kernel, rfl⟩
theorem dL_988 : Dc code 988 (.iadd) 1 989 := ⟨by decide +kernel, rfl⟩
theorem dL_989 : Dc code 989 (.iaload) 1 990 := ⟨by decide +kernel, rfl⟩
theorem dL_990 : Dc code 990 (.aload_n 0) 1 991 := ⟨by decide +kernel, rfl⟩
theorem dL_991 : Dc code 991 (.iload_n 3) 1 992 := ⟨by decide +kernel, rfl⟩
theorem dL_992 : Dc code 992 (.iconst 4) 1 993 := ⟨by decide +kernel, rfl⟩
theorem dL_993 : Dc code 993 (.iadd) 1 994 := ⟨by decide +kernel, rfl⟩
theorem dL_994 : Dc code 994 (.iaload) 1 995 := ⟨by decide +kernel, rfl⟩
theorem dL_995 : Dc code 995 (.invokevirtual 112) 3 998 := ⟨by decide +kernel, rfl⟩
theorem djL_998 : Dj code 998 (.if_icmp .eq 466) 3 1001 466 1464 := ⟨by decide +kernel, rfl, by decide⟩
theorem dL_1001 : Dc code 1001 (.iconst 0) 1 1002 := ⟨by decide +kernel, rfl⟩
theorem dL_1002 : Dc code 1002 (.ireturn) 1 1003 := ⟨by decide +kernel, rfl⟩
theorem dL_1003 : Dc code 1003 (.aload_n 1) 1 1004 := ⟨by decide +kernel, rfl⟩
theorem dL_1004 : Dc code 1004 (.aload_n 0) 1 1005 := ⟨by decide +kernel, rfl⟩
theorem dL_1005 : Dc code 1005 (.iload_n 3) 1 1006 := ⟨by decide +kernel, rfl⟩
theorem dL_1006 : Dc code 1006 (.iconst 1) 1 1007 := ⟨by decide +kernel, rfl⟩
theorem dL_1007 : Dc code 1007 (.iadd) 1 1008 := ⟨by decide +kernel, rfl⟩
theorem dL_1008 : Dc code 1008 (.iaload) 1 1009 := ⟨by decide +kernel, rfl⟩
theorem dL_1009 : Dc code 1009 (.aload_n 0) 1 1010 := ⟨by decide +kernel, rfl⟩
theorem dL_1010 : Dc code 1010 (.iload_n 3) 1 1011 := ⟨by decide +kernel, rfl⟩
theorem dL_1011 : Dc code 1011 (.iconst 2) 1 1012 := ⟨by decide +kernel, rfl⟩
theorem dL_1012 : Dc code 1012 (.iadd) 1 1013 := ⟨by decide +kernel, rfl⟩
theorem dL_1013 : Dc code 1013 (.iaload) 1 1014 := ⟨by decide +kernel, rfl⟩
theorem dL_1014 : Dc code 1014 (.aload_n 0) 1 1015 := ⟨by decide +kernel, rfl⟩
theorem dL_1015 : Dc code 1015 (.iload_n 3) 1 1016 := ⟨by decide +kernel, rfl⟩
theorem dL_1016 : Dc code 1016 (.iconst 3) 1 1017 := ⟨by decide +kernel, rfl⟩
theorem dL_1017 : Dc code 1017 (.iadd) 1 1018 := ⟨by decide +kernel, rfl⟩
theorem dL_1018 : Dc code 1018 (.iaload) 1 1019 := ⟨by decide +kernel, rfl⟩
theorem dL_1019 : Dc code 1019 (.aload_n 0) 1 1020 := ⟨by decide +kernel, rfl⟩
theorem dL_1020 : Dc code 1020 (.iload_n 3) 1 1021 := ⟨by decide +kernel, rfl⟩
theorem dL_1021 : Dc code 1021 (.iconst 4) 1 1022 := ⟨by decide +kernel, rfl⟩
theorem dL_1022 : Dc code 1022 (.iadd) 1 1023 := ⟨by decide +kernel, rfl⟩
theorem dL_1023 : Dc code 1023 (.iaload) 1 1024 := ⟨by decide +kernel, rfl⟩
theorem dL_1024 : Dc code 1024 (.aload_n 0) 1 1025 := ⟨by decide +kernel, rfl⟩
theorem dL_1025 : Dc code 1025 (.iload_n 3) 1 1026 := ⟨by decide +kernel, rfl⟩
theorem dL_1026 : Dc code 1026 (.iconst 5) 1 1027 := ⟨by decide +kernel, rfl⟩
theorem dL_1027 : Dc code 1027 (.iadd) 1 1028 := ⟨by decide +kernel, rfl⟩
theorem dL_1028 : Dc code 1028 (.iaload) 1 1029 := ⟨by decide +kernel, rfl⟩
theorem dL_1029 : Dc code 1029 (.invokevirtual 113) 3 1032 := ⟨by decide +kernel, rfl⟩
theorem dL_1032 : Dc code 1032 (.aload_n 2) 1 1033 := ⟨by decide +kernel, rfl⟩
theorem dL_1033 : Dc code 1033 (.aload_n 0) 1 1034 := ⟨by decide +kernel, rfl⟩
theorem dL_1034 : Dc code 1034 (.iload_n 3) 1 1035 := ⟨by decide +kernel, rfl⟩
theorem dL_1035 : Dc code 1035 (.iconst 1) 1 1036 := ⟨by decide +kernel, rfl⟩
theorem dL_1036 : Dc code 1036 (.iadd) 1 1037 := ⟨by decide +kernel, rfl⟩
theorem dL_1037 : Dc code 1037 (.iaload) 1 1038 := ⟨by decide +kernel, rfl⟩
theorem dL_1038 : Dc code 1038 (.aload_n 0) 1 1039 := ⟨by decide +kernel, rfl⟩
theorem dL_1039 : Dc code 1039 (.iload_n 3) 1 1040 := ⟨by decide +kernel, rfl⟩
theorem dL_1040 : Dc code 1040 (.iconst 2) 1 1041 := ⟨by decide +kernel, rfl⟩
theorem dL_1041 : Dc code 1041 (.iadd) 1 1042 := ⟨by decide +kernel, rfl⟩
theorem dL_1042 : Dc code 1042 (.iaload) 1 1043 := ⟨by decide +kernel, rfl⟩
theorem dL_1043 : Dc code 1043 (.aload_n 0) 1 1044 := ⟨by decide +kernel, rfl⟩
theorem dL_1044 : Dc code 1044 (.iload_n 3) 1 1045 := ⟨by decide +kernel, rfl⟩
theorem dL_1045 : Dc code 1045 (.iconst 3) 1 1046 := ⟨by decide +kernel, rfl⟩
theorem dL_1046 : Dc code 1046 (.iadd) 1 1047 := ⟨by decide +kernel, rfl⟩
theorem dL_1047 : Dc code 1047 (.iaload) 1 1048 := ⟨by decide +kernel, rfl⟩
theorem dL_1048 : Dc code 1048 (.aload_n 0) 1 1049 := ⟨by decide +kernel, rfl⟩
theorem dL_1049 : Dc code 1049 (.iload_n 3) 1 1050 := ⟨by decide +kernel, rfl⟩
theorem dL_1050 : Dc code 1050 (.iconst 4) 1 1051 := ⟨by decide +kernel, rfl⟩
theorem dL_1051 : Dc code 1051 (.iadd) 1 1052 := ⟨by decide +kernel, rfl⟩
theorem dL_1052 : Dc code 1052 (.iaload) 1 1053 := ⟨by decide +kernel, rfl⟩
theorem dL_1053 : Dc code 1053 (.aload_n 0) 1 1054 := ⟨by decide +kernel, rfl⟩
theorem dL_1054 : Dc code 1054 (.iload_n 3) 1 1055 := ⟨by decide +kernel, rfl⟩
theorem dL_1055 : Dc code 1055 (.iconst 5) 1 1056 := ⟨by decide +kernel, rfl⟩
theorem dL_1056 : Dc code 1056 (.iadd) 1 1057 := ⟨by decide +kernel, rfl⟩
theorem dL_1057 : Dc code 1057 (.iaload) 1 1058 := ⟨by decide +kernel, rfl⟩
theorem dL_1058 : Dc code 1058 (.invokevirtual 116) 3 1061 := ⟨by decide +kernel, rfl⟩
theorem djL_1061 : Dj code 1061 (.if_icmp .eq 403) 3 1064 403 1464 := ⟨by decide +kernel, rfl, by decide⟩
theorem dL_1064 : Dc code 1064 (.iconst 0) 1 1065 := ⟨by decide +kernel, rfl⟩
theorem dL_1065 : Dc code 1065 (.ireturn) 1 1066 := ⟨by decide +kernel, rfl⟩
theorem dL_1066 : Dc code 1066 (.aload_n 1) 1 1067 := ⟨by decide +kernel, rfl⟩
theorem dL_1067 : Dc code 1067 (.aload_n 0) 1 1068 := ⟨by decide +kernel, rfl⟩
theorem dL_1068 : Dc code 1068 (.iload_n 3) 1 1069 := ⟨by decide +kernel, rfl⟩
theorem dL_1069 : Dc code 1069 (.iconst 1) 1 1070 := ⟨by decide +kernel, rfl⟩
theorem dL_1070 : Dc code 1070 (.iadd) 1 1071 := ⟨by decide +kernel, rfl⟩
theorem dL_1071 : Dc code 1071 (.iaload) 1 1072 := ⟨by decide +kernel, rfl⟩
theorem dL_1072 : Dc code 1072 (.aload_n 0) 1 1073 := ⟨by decide +kernel, rfl⟩
theorem dL_1073 : Dc code 1073 (.iload_n 3) 1 1074 := ⟨by decide +kernel, rfl⟩
theorem dL_1074 : Dc code 1074 (.iconst 2) 1 1075 := ⟨by decide +kernel, rfl⟩
theorem dL_1075 : Dc code 1075 (.iadd) 1 1076 := ⟨by decide +kernel, rfl⟩
theorem dL_1076 : Dc code 1076 (.iaload) 1 1077 := ⟨by decide +kernel, rfl⟩
theorem dL_1077 : Dc code 1077 (.aload_n 0) 1 1078 := ⟨by decide +kernel, rfl⟩
theorem dL_1078 : Dc code 1078 (.iload_n 3) 1 1079 := ⟨by decide +kernel, rfl⟩
theorem dL_1079 : Dc code 1079 (.iconst 3) 1 1080 := ⟨by decide +kernel, rfl⟩
theorem dL_1080 : Dc code 1080 (.iadd) 1 1081 := ⟨by decide +kernel, rfl⟩
theorem dL_1081 : Dc code 1081 (.iaload) 1 1082 := ⟨by decide +kernel, rfl⟩
theorem dL_1082 : Dc code 1082 (.aload_n 0) 1 1083 := ⟨by decide +kernel, rfl⟩
theorem dL_1083 : Dc code 1083 (.iload_n 3) 1 1084 := ⟨by decide +kernel, rfl⟩
theorem dL_1084 : Dc code 1084 (.iconst 4) 1 1085 := ⟨by decide +kernel, rfl⟩
theorem dL_1085 : Dc code 1085 (.iadd) 1 1086 := ⟨by decide +kernel, rfl⟩
theorem dL_1086 : Dc code 1086 (.iaload) 1 1087 := ⟨by decide +kernel, rfl⟩
theorem dL_1087 : Dc code 1087 (.aload_n 0) 1 1088 := ⟨by decide +kernel, rfl⟩
theorem dL_1088 : Dc code 1088 (.iload_n 3) 1 1089 := ⟨by decide +kernel, rfl⟩
theorem dL_1089 : Dc code 1089 (.iconst 5) 1 1090 := ⟨by decide +kernel, rfl⟩
theorem dL_1090 : Dc code 1090 (.iadd) 1 1091 := ⟨by decide +kernel, rfl⟩
theorem dL_1091 : Dc code 1091 (.iaload) 1 1092 := ⟨by decide +kernel, rfl⟩
theorem dL_1092 : Dc code 1092 (.invokevirtual 117) 3 1095 := ⟨by decide +kernel, rfl⟩
theorem dL_1095 : Dc code 1095 (.aload_n 2) 1 1096 := ⟨by decide +kernel, rfl⟩
theorem dL_1096 : Dc code 1096 (.aload_n 0) 1 1097 := ⟨by decide +kernel, rfl⟩
theorem dL_1097 : Dc code 1097 (.iload_n 3) 1 1098 := ⟨by decide +kernel, rfl⟩
theorem dL_1098 : Dc code 1098 (.iconst 1) 1 1099 := ⟨by decide +kernel, rfl⟩
theorem dL_1099 : Dc code 1099 (.iadd) 1 1100 := ⟨by decide +kernel, rfl⟩
theorem dL_1100 : Dc code 1100 (.iaload) 1 1101 := ⟨by decide +kernel, rfl⟩
theorem dL_1101 : Dc code 1101 (.aload_n 0) 1 1102 := ⟨by decide +kernel, rfl⟩
theorem dL_1102 : Dc code 1102 (.iload_n 3) 1 1103 := ⟨by decide +kernel, rfl⟩
theorem dL_1103 : Dc code 1103 (.iconst 2) 1 1104 := ⟨by decide +kernel, rfl⟩
theorem dL_1104 : Dc code 1104 (.iadd) 1 1105 := ⟨by decide +kernel, rfl⟩
theorem dL_1105 : Dc code 1105 (.iaload) 1 1106 := ⟨by decide +kernel, rfl⟩
theorem dL_1106 : Dc code 1106 (.aload_n 0) 1 1107 := ⟨by decide +kernel, rfl⟩
theorem dL_1107 : Dc code 1107 (.iload_n 3) 1 1108 := ⟨by decide +kernel, rfl⟩
theorem dL_1108 : Dc code 1108 (.iconst 3) 1 1109 := ⟨by decide +kernel, rfl⟩
theorem dL_1109 : Dc code 1109 (.iadd) 1 1110 := ⟨by decide +kernel, rfl⟩
theorem dL_1110 : Dc code 1110 (.iaload) 1 1111 := ⟨by decide +kernel, rfl⟩
theorem dL_1111 : Dc code 1111 (.aload_n 0) 1 1112 := ⟨by decide +kernel, rfl⟩
theorem dL_1112 : Dc code 1112 (.iload_n 3) 1 1113 := ⟨by decide +kernel, rfl⟩
theorem dL_1113 : Dc code 1113 (.iconst 4) 1 1114 := ⟨by decide +kernel, rfl⟩
theorem dL_1114 : Dc code 1114 (.iadd) 1 1115 := ⟨by decide +kernel, rfl⟩
theorem dL_1115 : Dc code 1115 (.iaload) 1 1116 := ⟨by decide +kernel, rfl⟩
theorem dL_1116 : Dc code 1116 (.aload_n 0) 1 1117 := ⟨by decide +kernel, rfl⟩
theorem dL_1117 : Dc code 1117 (.iload_n 3) 1 1118 := ⟨by decide +kernel, rfl⟩
theorem dL_1118 : Dc code 1118 (.iconst 5) 1 1119 := ⟨by decide +kernel, rfl⟩
theorem dL_1119 : Dc code 1119 (.iadd) 1 1120 := ⟨by decide +kernel, rfl⟩
theorem dL_1120 : Dc code 1120 (.iaload) 1 1121 := ⟨by decide +kernel, rfl⟩
theorem dL_1121 : Dc code 1121 (.invokevirtual 120) 3 1124 := ⟨by decide +kernel, rfl⟩
theorem djL_1124 : Dj code 1124 (.if_icmp .eq 340) 3 1127 340 1464 := ⟨by decide +kernel, rfl, by decide⟩
theorem dL_1127 : Dc code 1127 (.iconst 0) 1 1128 := ⟨by decide +kernel, rfl⟩
theorem dL_1128 : Dc code 1128 (.ireturn) 1 1129 := ⟨by decide +kernel, rfl⟩
theorem dL_1129 : Dc code 1129 (.aload_n 1) 1 1130 := ⟨by decide +kernel, rfl⟩
theorem dL_1130 : Dc code 1130 (.aload_n 0) 1 1131 := ⟨by decide +kernel, rfl⟩
theorem dL_1131 : Dc code 1131 (.iload_n 3) 1 1132 := ⟨by decide +kernel, rfl⟩
theorem dL_1132 : Dc code 1132 (.iconst 1) 1 1133 := ⟨by decide +kernel, rfl⟩
theorem dL_1133 : Dc code 1133 (.iadd) 1 1134 := ⟨by decide +kernel, rfl⟩
theorem dL_1134 : Dc code 1134 (.iaload) 1 1135 := ⟨by decide +kernel, rfl⟩
theorem dL_1135 : Dc code 1135 (.aload_n 0) 1 1136 := ⟨by decide +kernel, rfl⟩
theorem dL_1136 : Dc code 1136 (.iload_n 3) 1 1137 := ⟨by decide +kernel, rfl⟩
theorem dL_1137 : Dc code 1137 (.iconst 2) 1 1138 := ⟨by decide +kernel, rfl⟩
theorem dL_1138 : Dc code 1138 (.iadd) 1 1139 := ⟨by decide +kernel, rfl⟩
theorem dL_1139 : Dc code 1139 (.iaload) 1 1140 := ⟨by decide +kernel, rfl⟩
theorem dL_1140 : Dc code 1140 (.aload_n 0) 1 1141 := ⟨by decide +kernel, rfl⟩
theorem dL_1141 : Dc code 1141 (.iload_n 3) 1 1142 := ⟨by decide +kernel, rfl⟩
theorem dL_1142 : Dc code 1142 (.iconst 3) 1 1143 := ⟨by decide +kernel, rfl⟩
theorem dL_1143 : Dc code 1143 (.iadd) 1 1144 := ⟨by decide +kernel, rfl⟩
theorem dL_1144 : Dc code 1144 (.iaload) 1 1145 := ⟨by decide +kernel, rfl⟩
theorem dL_1145 : Dc code 1145 (.invokevirtual 121) 3 1148 := ⟨by decide +kernel, rfl⟩
theorem dL_1148 : Dc code 1148 (.aload_n 2) 1 1149 := ⟨by decide +kernel, rfl⟩
theorem dL_1149 : Dc code 1149 (.aload_n 0) 1 1150 := ⟨by decide +kernel, rfl⟩
theorem dL_1150 : Dc code 1150 (.iload_n 3) 1 1151 := ⟨by decide +kernel, rfl⟩
theorem dL_1151 : Dc code 1151 (.iconst 1) 1 1152 := ⟨by decide +kernel, rfl⟩
theorem dL_1152 : Dc code 1152 (.iadd) 1 1153 := ⟨by decide +kernel, rfl⟩
theorem dL_1153 : Dc code 1153 (.iaload) 1 1154 := ⟨by decide +kernel, rfl⟩
theorem dL_1154 : Dc code 1154 (.aload_n 0) 1 1155 := ⟨by decide +kernel, rfl⟩
theorem dL_1155 : Dc code 1155 (.iload_n 3) 1 1156 := ⟨by decide +kernel, rfl⟩
theorem dL_1156 : Dc code 1156 (.iconst 2) 1 1157 := ⟨by decide +kernel, rfl⟩
theorem dL_1157 : Dc code 1157 (.iadd) 1 1158 := ⟨by decide +kernel, rfl⟩
theorem dL_1158 : Dc code 1158 (.iaload) 1 1159 := ⟨by decide +kernel, rfl⟩
theorem dL_1159 : Dc code 1159 (.aload_n 0) 1 1160 := ⟨by decide +kernel, rfl⟩
theorem dL_1160 : Dc code 1160 (.iload_n 3) 1 1161 := ⟨by decide +kernel, rfl⟩
theorem dL_1161 : Dc code 1161 (.iconst 3) 1 1162 := ⟨by decide +kernel, rfl⟩
theorem dL_1162 : Dc code 1162 (.iadd) 1 1163 := ⟨by decide +kernel, rfl⟩
theorem dL_1163 : Dc code 1163 (.iaload) 1 1164 := ⟨by decide +kernel, rfl⟩
theorem dL_1164 : Dc code 1164 (.invokevirtual 124) 3 1167 := ⟨by decide +kernel, rfl⟩
theorem djL_1167 : Dj code 1167 (.if_icmp .eq 297) 3 1170 297 1464 := ⟨by decide +kernel, rfl, by decide⟩
theorem dL_1170 : Dc code 1170 (.iconst 0) 1 1171 := ⟨by decide +kernel, rfl⟩
theorem dL_1171 : Dc code 1171 (.ireturn) 1 1172 := ⟨by decide +kernel, rfl⟩
theorem dL_1172 : Dc code 1172 (.aload_n 1) 1 1173 := ⟨by decide +kernel, rfl⟩
theorem dL_1173 : Dc code 1173 (.aload_n 0) 1 1174 := ⟨by decide +kernel, rfl⟩
theorem dL_1174 : Dc code 1174 (.iload_n 3) 1 1175 := ⟨by decide +kernel, rfl⟩
theorem dL_1175 : Dc code 1175 (.iconst 1) 1 1176 := ⟨by decide +kernel, rfl⟩
theorem dL_1176 : Dc code 1176 (.iadd) 1 1177 := ⟨by decide +kernel, rfl⟩
theorem dL_1177 : Dc code 1177 (.iaload) 1 1178 := ⟨by decide +kernel, rfl⟩
theorem dL_1178 : Dc code 1178 (.aload_n 0) 1 1179 := ⟨by decide +kernel, rfl⟩
theorem dL_1179 : Dc code 1179 (.iload_n 3) 1 1180 := ⟨by decide +kernel, rfl⟩
theorem dL_1180 : Dc code 1180 (.iconst 2) 1 1181 := ⟨by decide +kernel, rfl⟩
theorem dL_1181 : Dc code 1181 (.iadd) 1 1182 := ⟨by decide +kernel, rfl⟩
theorem dL_1182 : Dc code 1182 (.iaload) 1 1183 := ⟨by decide +kernel, rfl⟩
theorem dL_1183 : Dc code 1183 (.aload_n 0) 1 1184 := ⟨by decide +kernel, rfl⟩
theorem dL_1184 : Dc code 1184 (.iload_n 3) 1 1185 := ⟨by decide +kernel, rfl⟩
theorem dL_1185 : Dc code 1185 (.iconst 3) 1 1186 := ⟨by decide +kernel, rfl⟩
theorem dL_1186 : Dc code 1186 (.iadd) 1 1187 := ⟨by decide +kernel, rfl⟩
theorem dL_1187 : Dc code 1187 (.iaload) 1 1188 := ⟨by decide +kernel, rfl⟩
theorem dL_1188 : Dc code 1188 (.aload_n 0) 1 1189 := ⟨by decide +kernel, rfl⟩
theorem dL_1189 : Dc code 1189 (.iload_n 3) 1 1190 := ⟨by decide +kernel, rfl⟩
theorem dL_1190 : Dc code 1190 (.iconst 4) 1 1191 := ⟨by decide +kernel, rfl⟩
theorem dL_1191 : Dc code 1191 (.iadd) 1 1192 := ⟨by decide +kernel, rfl⟩
theorem dL_1192 : Dc code 1192 (.iaload) 1 1193 := ⟨by decide +kernel, rfl⟩
theorem dL_1193 : Dc code 1193 (.invokevirtual 125) 3 1196 := ⟨by decide +kernel, rfl⟩
theorem dL_1196 : Dc code 1196 (.aload_n 2) 1 1197 := ⟨by decide +kernel, rfl⟩
theorem dL_1197 : Dc code 1197 (.aload_n 0) 1 1198 := ⟨by decide +kernel, rfl⟩
theorem dL_1198 : Dc code 1198 (.iload_n 3) 1 1199 := ⟨by decide +kernel, rfl⟩
theorem dL_1199 : Dc code 1199 (.iconst 1) 1 1200 := ⟨by decide +kernel, rfl⟩
theorem dL_1200 : Dc code 1200 (.iadd) 1 1201 := ⟨by decide +kernel, rfl⟩
theorem dL_1201 : Dc code 1201 (.iaload) 1 1202 := ⟨by decide +kernel, rfl⟩
theorem dL_1202 : Dc code 1202 (.aload_n 0) 1 1203 := ⟨by decide +kernel, rfl⟩
theorem dL_1203 : Dc code 1203 (.iload_n 3) 1 1204 := ⟨by decide +kernel, rfl⟩
theorem dL_1204 : Dc code 1204 (.iconst 2) 1 1205 := ⟨by decide +kernel, rfl⟩
theorem dL_1205 : Dc code 1205 (.iadd) 1 1206 := ⟨by decide +kernel, rfl⟩
theorem dL_1206 : Dc code 1206 (.iaload) 1 1207 := ⟨by decide +kernel, rfl⟩
theorem dL_1207 : Dc code 1207 (.aload_n 0) 1 1208 := ⟨by decide +kernel, rfl⟩
theorem dL_1208 : Dc code 1208 (.iload_n 3) 1 1209 := ⟨by decide +kernel, rfl⟩
theorem dL_1209 : Dc code 1209 (.iconst 3) 1 1210 := ⟨by decide +kernel, rfl⟩
theorem dL_1210 : Dc code 1210 (.iadd) 1 1211 := ⟨by decide +kernel, rfl⟩
theorem dL_1211 : Dc code 1211 (.iaload) 1 1212 := ⟨by decide +kernel, rfl⟩
theorem dL_1212 : Dc code 1212 (.aload_n 0) 1 1213 := ⟨by decide +kernel, rfl⟩
theorem dL_1213 : Dc code 1213 (.iload_n 3) 1 1214 := ⟨by decide +kernel, rfl⟩
theorem dL_1214 : Dc code 1214 (.iconst 4) 1 1215 := ⟨by decide +kernel, rfl⟩
theorem dL_1215 : Dc code 1215 (.iadd) 1 1216 := ⟨by decide +kernel, rfl⟩
theorem dL_1216 : Dc code 1216 (.iaload) 1 1217 := ⟨by decide +kernel, rfl⟩
theorem dL_1217 : Dc code 1217 (.invokevirtual 128) 3 1220 := ⟨by decide +kernel, rfl⟩
theorem djL_1220 : Dj code 1220 (.if_icmp .eq 244) 3 1223 244 1464 := ⟨by decide +kernel, rfl, by decide⟩
theorem dL_1223 : Dc code 1223 (.iconst 0) 1 1224 := ⟨by decide +kernel, rfl⟩
theorem dL_1224 : Dc code 1224 (.ireturn) 1 1225 := ⟨by decide +kernel, rfl⟩
theorem dL_1225 : Dc code 1225 (.aload_n 1) 1 1226 := ⟨by decide +kernel, rfl⟩
theorem dL_1226 : Dc code 1226 (.aload_n 0) 1 1227 := ⟨by decide +kernel, rfl⟩
theorem dL_1227 : Dc code 1227 (.iload_n 3) 1 1228 := ⟨by decide +kernel, rfl⟩
theorem dL_1228 : Dc code 1228 (.iconst 1) 1 1229 := ⟨by decide +kernel, rfl⟩
theorem dL_1229 : Dc code 1229 (.iadd) 1 1230 := ⟨by decide +kernel, rfl⟩
theorem dL_1230 : Dc code 1230 (.iaload) 1 1231 := ⟨by decide +kernel, rfl⟩
theorem dL_1231 : Dc code 1231 (.invokevirtual 129) 3 1234 := ⟨by decide +kernel, rfl⟩
theorem dL_1234 : Dc code 1234 (.aload_n 2) 1 1235 := ⟨by decide +kernel, rfl⟩
theorem dL_1235 : Dc code 1235 (.aload_n 0) 1 1236 := ⟨by decide +kernel, rfl⟩
theorem dL_1236 : Dc code 1236 (.iload_n 3) 1 1237 := ⟨by decide +kernel, rfl⟩
theorem dL_1237 : Dc code 1237 (.iconst 1) 1 1238 := ⟨by decide +kernel, rfl⟩
theorem dL_1238 : Dc code 1238 (.iadd) 1 1239 := ⟨by decide +kernel, rfl⟩
theorem dL_1239 : Dc code 1239 (.iaload) 1 1240 := ⟨by decide +kernel, rfl⟩
theorem dL_1240 : Dc code 1240 (.invokevirtual 132) 3 1243 := ⟨by decide +kernel, rfl⟩
theorem djL_1243 : Dj code 1243 (.if_icmp .eq 221) 3 1246 221 1464 := ⟨by decide +kernel, rfl, by decide⟩
theorem dL_1246 : Dc code 1246 (.iconst 0) 1 1247 := ⟨by decide +kernel, rfl⟩
theorem dL_1247 : Dc code 1247 (.ireturn) 1 1248 := ⟨by decide +kernel, rfl⟩
theorem dL_1248 : Dc code 1248 (.aload_n 1) 1 1249 := ⟨by decide +kernel, rfl⟩
theorem dL_1249 : Dc code 1249 (.aload_n 0) 1 1250 := ⟨by decide +kernel, rfl⟩
theorem dL_1250 : Dc code 1250 (.iload_n 3) 1 1251 := ⟨by decide +kernel, rfl⟩
theorem dL_1251 : Dc code 1251 (.iconst 1) 1 1252 := ⟨by decide +kernel, rfl⟩
theorem dL_1252 : Dc code 1252 (.iadd) 1 1253 := ⟨by decide +kernel, rfl⟩
theorem dL_1253 : Dc code 1253 (.iaload) 1 1254 := ⟨by decide +kernel, rfl⟩
theorem dL_1254 : Dc code 1254 (.aload_n 0) 1 1255 := ⟨by decide +kernel, rfl⟩
theorem dL_1255 : Dc code 1255 (.iload_n 3) 1 1256 := ⟨by decide +kernel, rfl⟩
theorem dL_1256 : Dc code 1256 (.iconst 2) 1 1257 := ⟨by decide +kernel, rfl⟩
theorem dL_1257 : Dc code 1257 (.iadd) 1 1258 := ⟨by decide +kernel, rfl⟩
theorem dL_1258 : Dc code 1258 (.iaload) 1 1259 := ⟨by decide +kernel, rfl⟩
theorem dL_1259 : Dc code 1259 (.aload_n 0) 1 1260 := ⟨by decide +kernel, rfl⟩
theorem dL_1260 : Dc code 1260 (.iload_n 3) 1 1261 := ⟨by decide +kernel, rfl⟩
theorem dL_1261 : Dc code 1261 (.iconst 3) 1 1262 := ⟨by decide +kernel, rfl⟩
theorem dL_1262 : Dc code 1262 (.iadd) 1 1263 := ⟨by decide +kernel, rfl⟩
theorem dL_1263 : Dc code 1263 (.iaload) 1 1264 := ⟨by decide +kernel, rfl⟩
theorem dL_1264 : Dc code 1264 (.aload_n 0) 1 1265 := ⟨by decide +kernel, rfl⟩
theorem dL_1265 : Dc code 1265 (.iload_n 3) 1 1266 := ⟨by decide +kernel, rfl⟩
theorem dL_1266 : Dc code 1266 (.iconst 4) 1 1267 := ⟨by decide +kernel, rfl⟩
theorem dL_1267 : Dc code 1267 (.iadd) 1 1268 := ⟨by decide +kernel, rfl⟩
theorem dL_1268 : Dc code 1268 (.iaload) 1 1269 := ⟨by decide +kernel, rfl⟩
theorem dL_1269 : Dc code 1269 (.invokevirtual 133) 3 1272 := ⟨by decide +kernel, rfl⟩
theorem dL_1272 : Dc code 1272 (.aload_n 2) 1 1273 := ⟨by decide +kernel, rfl⟩
theorem dL_1273 : Dc code 1273 (.aload_n 0) 1 1274 := ⟨by decide +kernel, rfl⟩
theorem dL_1274 : Dc code 1274 (.iload_n 3) 1 1275 := ⟨by decide +kernel, rfl⟩
theorem dL_1275 : Dc code 1275 (.iconst 1) 1 1276 := ⟨by decide +kernel, rfl⟩
theorem dL_1276 : Dc code 1276 (.iadd) 1 1277 := ⟨by decide +kernel, rfl⟩
theorem dL_1277 : Dc code 1277 (.iaload) 1 1278 := ⟨by decide +kernel, rfl⟩
theorem dL_1278 : Dc code 1278 (.aload_n 0) 1 1279 := ⟨by decide +kernel, rfl⟩
theorem dL_1279 : Dc code 1279 (.iload_n 3) 1 1280 := ⟨by decide +kernel, rfl⟩
theorem dL_1280 : Dc code 1280 (.iconst 2) 1 1281 := ⟨by decide +kernel, rfl⟩
theorem dL_1281 : Dc code 1281 (.iadd) 1 1282 := ⟨by decide +kernel, rfl⟩
theorem dL_1282 : Dc code 1282 (.iaload) 1 1283 := ⟨by decide +kernel, rfl⟩
theorem dL_1283 : Dc code 1283 (.aload_n 0) 1 1284 := ⟨by decide +kernel, rfl⟩
theorem dL_1284 : Dc code 1284 (.iload_n 3) 1 1285 := ⟨by decide +kernel, rfl⟩
theorem dL_1285 : Dc code 1285 (.iconst 3) 1 1286 := ⟨by decide +kernel, rfl⟩
theorem dL_1286 : Dc code 1286 (.iadd) 1 1287 := ⟨by decide +kernel, rfl⟩
theorem dL_1287 : Dc code 1287 (.iaload) 1 1288 := ⟨by decide +kernel, rfl⟩
theorem dL_1288 : Dc code 1288 (.aload_n 0) 1 1289 := ⟨by decide +kernel, rfl⟩
theorem dL_1289 : Dc code 1289 (.iload_n 3) 1 1290 := ⟨by decide +kernel, rfl⟩
theorem dL_1290 : Dc code 1290 (.iconst 4) 1 1291 := ⟨by decide +kernel, rfl⟩
theorem dL_1291 : Dc code 1291 (.iadd) 1 1292 := ⟨by decide +kernel, rfl⟩
theorem dL_1292 : Dc code 1292 (.iaload) 1 1293 := ⟨by decide +kernel, rfl⟩
theorem dL_1293 : Dc code 1293 (.invokevirtual 136) 3 1296 := ⟨by decide +kernel, rfl⟩
theorem dL_1296 : Dc code 1296 (.lcmp) 1 1297 := ⟨by decide +kernel, rfl⟩
theorem djL_1297 : Dj code 1297 (.ifCond .eq 167) 3 1300 167 1464 := ⟨by decide +kernel, rfl, by decide⟩
theorem dL_1300 : Dc code 1300 (.iconst 0) 1 1301 := ⟨by decide +kernel, rfl⟩
theorem dL_1301 : Dc code 1301 (.ireturn) 1 1302 := ⟨by decide +kernel, rfl⟩
theorem dL_1302 : Dc code 1302 (.aload_n 1) 1 1303 := ⟨by decide +kernel, rfl⟩
theorem dL_1303 : Dc code 1303 (.aload_n 0) 1 1304 := ⟨by decide +kernel, rfl⟩
theorem dL_1304 : Dc code 1304 (.iload_n 3) 1 1305 := ⟨by decide +kernel, rfl⟩
theorem dL_1305 : Dc code 1305 (.iconst 1) 1 1306 := ⟨by decide +kernel, rfl⟩
theorem dL_1306 : Dc code 1306 (.iadd) 1 1307 := ⟨by decide +kernel, rfl⟩
theorem dL_1307 : Dc code 1307 (.iaload) 1 1308 := ⟨by decide +kernel, rfl⟩
theorem dL_1308 : Dc code 1308 (.aload_n 0) 1 1309 := ⟨by decide +kernel, rfl⟩
theorem dL_1309 : Dc code 1309 (.iload_n 3) 1 1310 := ⟨by decide +kernel, rfl⟩
theorem dL_1310 : Dc code 1310 (.iconst 2) 1 1311 := ⟨by decide +kernel, rfl⟩
theorem dL_1311 : Dc code 1311 (.iadd) 1 1312 := ⟨by decide +kernel, rfl⟩
theorem dL_1312 : Dc code 1312 (.iaload) 1 1313 := ⟨by decide +kernel, rfl⟩
theorem dL_1313 : Dc code 1313 (.aload_n 0) 1 1314 := ⟨by decide +kernel, rfl⟩
theorem dL_1314 : Dc code 1314 (.iload_n 3) 1 1315 := ⟨by decide +kernel, rfl⟩
theorem dL_1315 : Dc code 1315 (.iconst 3) 1 1316 := ⟨by decide +kernel, rfl⟩
theorem dL_1316 : Dc code 1316 (.iadd) 1 1317 := ⟨by decide +kernel, rfl⟩
theorem dL_1317 : Dc code 1317 (.iaload) 1 1318 := ⟨by decide +kernel, rfl⟩
theorem dL_1318 : Dc code 1318 (.aload_n 0) 1 1319 := ⟨by decide +kernel, rfl⟩
theorem dL_1319 : Dc code 1319 (.iload_n 3) 1 1320 := ⟨by decide +kernel, rfl⟩
theorem dL_1320 : Dc code 1320 (.iconst 4) 1 1321 := ⟨by decide +kernel, rfl⟩
theorem dL_1321 : Dc code 1321 (.iadd) 1 1322 := ⟨by decide +kernel, rfl⟩
theorem dL_1322 : Dc code 1322 (.iaload) 1 1323 := ⟨by decide +kernel, rfl⟩
theorem dL_1323 : Dc code 1323 (.aload_n 0) 1 1324 := ⟨by decide +kernel, rfl⟩
theorem dL_1324 : Dc code 1324 (.iload_n 3) 1 1325 := ⟨by decide +kernel, rfl⟩
theorem dL_1325 : Dc code 1325 (.iconst 5) 1 1326 := ⟨by decide +kernel, rfl⟩
theorem dL_1326 : Dc code 1326 (.iadd) 1 1327 := ⟨by decide +kernel, rfl⟩
theorem dL_1327 : Dc code 1327 (.iaload) 1 1328 := ⟨by decide +kernel, rfl⟩
theorem dL_1328 : Dc code 1328 (.invokevirtual 137) 3 1331 := ⟨by decide +kernel, rfl⟩
theorem dL_1331 : Dc code 1331 (.aload_n 2) 1 1332 := ⟨by decide +kernel, rfl⟩
theorem dL_1332 : Dc code 1332 (.aload_n 0) 1 1333 := ⟨by decide +kernel, rfl⟩
theorem dL_1333 : Dc code 1333 (.iload_n 3) 1 1334 := ⟨by decide +kernel, rfl⟩
theorem dL_1334 : Dc code 1334 (.iconst 1) 1 1335 := ⟨by decide +kernel, rfl⟩
theorem dL_1335 : Dc code 1335 (.iadd) 1 1336 := ⟨by decide +kernel, rfl⟩
theorem dL_1336 : Dc code 1336 (.iaload) 1 1337 := ⟨by decide +kernel, rfl⟩
theorem dL_1337 : Dc code 1337 (.aload_n 0) 1 1338 := ⟨by decide +kernel, rfl⟩
theorem dL_1338 : Dc code 1338 (.iload_n 3) 1 1339 := ⟨by decide +kernel, rfl⟩
theorem dL_1339 : Dc code 1339 (.iconst 2) 1 1340 := ⟨by decide +kernel, rfl⟩
theorem dL_1340 : Dc code 1340 (.iadd) 1 1341 := ⟨by decide +kernel, rfl⟩
theorem dL_1341 : Dc code 1341 (.iaload) 1 1342 := ⟨by decide +kernel, rfl⟩
theorem dL_1342 : Dc code 1342 (.aload_n 0) 1 1343 := ⟨by decide +kernel, rfl⟩
theorem dL_1343 : Dc code 1343 (.iload_n 3) 1 1344 := ⟨by decide +kernel, rfl⟩
theorem dL_1344 : Dc code 1344 (.iconst 3) 1 1345 := ⟨by decide +kernel, rfl⟩
theorem dL_1345 : Dc code 1345 (.iadd) 1 1346 := ⟨by decide +kernel, rfl⟩
theorem dL_1346 : Dc code 1346 (.iaload) 1 1347 := ⟨by decide +kernel, rfl⟩
theorem dL_1347 : Dc code 1347 (.aload_n 0) 1 1348 := ⟨by decide +kernel, rfl⟩
theorem dL_1348 : Dc code 1348 (.iload_n 3) 1 1349 := ⟨by decide +kernel, rfl⟩
theorem dL_1349 : Dc code 1349 (.iconst 4) 1 1350 := ⟨by decide +kernel, rfl⟩
theorem dL_1350 : Dc code 1350 (.iadd) 1 1351 := ⟨by decide +kernel, rfl⟩
theorem dL_1351 : Dc code 1351 (.iaload) 1 1352 := ⟨by decide +kernel, rfl⟩
theorem dL_1352 : Dc code 1352 (.aload_n 0) 1 1353 := ⟨by decide +kernel, rfl⟩
theorem dL_1353 : Dc code 1353 (.iload_n 3) 1 1354 := ⟨by decide +kernel, rfl⟩
theorem dL_1354 : Dc code 1354 (.iconst 5) 1 1355 := ⟨by decide +kernel, rfl⟩
theorem dL_1355 : Dc code 1355 (.iadd) 1 1356 := ⟨by decide +kernel, rfl⟩
theorem dL_1356 : Dc code 1356 (.iaload) 1 1357 := ⟨by decide +kernel, rfl⟩
theorem dL_1357 : Dc code 1357 (.invokevirtual 140) 3 1360 := ⟨by decide +kernel, rfl⟩
theorem djL_1360 : Dj code 1360 (.if_icmp .eq 104) 3 1363 104 1464 := ⟨by decide +kernel, rfl, by decide⟩
theorem dL_1363 : Dc code 1363 (.iconst 0) 1 1364 := ⟨by decide +kernel, rfl⟩
theorem dL_1364 : Dc code 1364 (.ireturn) 1 1365 := ⟨by decide +kernel, rfl⟩
theorem dL_1365 : Dc code 1365 (.aload_n 1) 1 1366 := ⟨by decide +kernel, rfl⟩
theorem dL_1366 : Dc code 1366 (.aload_n 0) 1 1367 := ⟨by decide +kernel, rfl⟩
theorem dL_1367 : Dc code 1367 (.iload_n 3) 1 1368 := ⟨by decide +kernel, rfl⟩
theorem dL_1368 : Dc code 1368 (.iconst 1) 1 1369 := ⟨by decide +kernel, rfl⟩
theorem dL_1369 : Dc code 1369 (.iadd) 1 1370 := ⟨by decide +kernel, rfl⟩
theorem dL_1370 : Dc code 1370 (.iaload) 1 1371 := ⟨by decide +kernel, rfl⟩
theorem dL_1371 : Dc code 1371 (.invokevirtual 141) 3 1374 := ⟨by decide +kernel, rfl⟩
theorem dL_1374 : Dc code 1374 (.aload_n 2) 1 1375 := ⟨by decide +kernel, rfl⟩
theorem dL_1375 : Dc code 1375 (.aload_n 0) 1 1376 := ⟨by decide +kernel, rfl⟩
theorem dL_1376 : Dc code 1376 (.iload_n 3) 1 1377 := ⟨by decide +kernel, rfl⟩
theorem dL_1377 : Dc code 1377 (.iconst 1) 1 1378 := ⟨by decide +kernel, rfl⟩
theorem dL_1378 : Dc code 1378 (.iadd) 1 1379 := ⟨by decide +kernel, rfl⟩
theorem dL_1379 : Dc code 1379 (.iaload) 1 1380 := ⟨by decide +kernel, rfl⟩
theorem dL_1380 : Dc code 1380 (.invokevirtual 144) 3 1383 := ⟨by decide +kernel, rfl⟩
theorem djL_1383 : Dj code 1383 (.if_icmp .eq 81) 3 1386 81 1464 := ⟨by decide +kernel, rfl, by decide⟩
theorem dL_1386 : Dc code 1386 (.iconst 0) 1 1387 := ⟨by decide +kernel, rfl⟩
theorem dL_1387 : Dc code 1387 (.ireturn) 1 1388 := ⟨by decide +kernel, rfl⟩
theorem dL_1388 : Dc code 1388 (.aload_n 1) 1 1389 := ⟨by decide +kernel, rfl⟩
theorem dL_1389 : Dc code 1389 (.invokevirtual 145) 3 1392 := ⟨by decide +kernel, rfl⟩
theorem dL_1392 : Dc code 1392 (.aload_n 2) 1 1393 := ⟨by decide +kernel, rfl⟩
theorem dL_1393 : Dc code 1393 (.invokevirtual 148) 3 1396 := ⟨by decide +kernel, rfl⟩
theorem djL_1396 : Dj code 1396 (.if_icmp .eq 68) 3 1399 68 1464 := ⟨by decide +kernel, rfl, by decide⟩
theorem dL_1399 : Dc code 1399 (.iconst 0) 1 1400 := ⟨by decide +kernel, rfl⟩
theorem dL_1400 : Dc code 1400 (.ireturn) 1 1401 := ⟨by decide +kernel, rfl⟩
theorem dL_1401 : Dc code 1401 (.aload_n 1) 1 1402 := ⟨by decide +kernel, rfl⟩
theorem dL_1402 : Dc code 1402 (.invokevirtual 149) 3 1405 := ⟨by decide +kernel, rfl⟩
theorem dL_1405 : Dc code 1405 (.aload_n 2) 1 1406 := ⟨by decide +kernel, rfl⟩
theorem dL_1406 : Dc code 1406 (.invokevirtual 152) 3 1409 := ⟨by decide +kernel, rfl⟩
theorem djL_1409 : Dj code 1409 (.if_icmp .eq 55) 3 1412 55 1464 := ⟨by decide +kernel, rfl, by decide⟩
theorem dL_1412 : Dc code 1412 (.iconst 0) 1 1413 := ⟨by decide +kernel, rfl⟩
theorem dL_1413 : Dc code 1413 (.ireturn) 1 1414 := ⟨by decide +kernel, rfl⟩
theorem dL_1414 : Dc code 1414 (.aload_n 1) 1 1415 := ⟨by decide +kernel, rfl⟩
theorem dL_1415 : Dc code 1415 (.aload_n 0) 1 1416 := ⟨by decide +kernel, rfl⟩
theorem dL_1416 : Dc code 1416 (.iload_n 3) 1 1417 := ⟨by decide +kernel, rfl⟩
theorem dL_1417 : Dc code 1417 (.iconst 1) 1 1418 := ⟨by decide +kernel, rfl⟩
theorem dL_1418 : Dc code 1418 (.iadd) 1 1419 := ⟨by decide +kernel, rfl⟩
theorem dL_1419 : Dc code 1419 (.iaload) 1 1420 := ⟨by decide +kernel, rfl⟩
theorem dL_1420 : Dc code 1420 (.invokevirtual 153) 3 1423 := ⟨by decide +kernel, rfl⟩
theorem dL_1423 : Dc code 1423 (.aload_n 2) 1 1424 := ⟨by decide +kernel, rfl⟩
theorem dL_1424 : Dc code 1424 (.aload_n 0) 1 1425 := ⟨by decide +kernel, rfl⟩
theorem dL_1425 : Dc code 1425 (.iload_n 3) 1 1426 := ⟨by decide +kernel, rfl⟩
theorem dL_1426 : Dc code 1426 (.iconst 1) 1 1427 := ⟨by decide +kernel, rfl⟩
theorem dL_1427 : Dc code 1427 (.iadd) 1 1428 := ⟨by decide +kernel, rfl⟩
theorem dL_1428 : Dc code 1428 (.iaload) 1 1429 := ⟨by decide +kernel, rfl⟩
theorem dL_1429 : Dc code 1429 (.invokevirtual 156) 3 1432 := ⟨by decide +kernel, rfl⟩
theorem djL_1432 : Dj code 1432 (.if_icmp .eq 32) 3 1435 32 1464 := ⟨by decide +kernel, rfl, by decide⟩
theorem dL_1435 : Dc code 1435 (.iconst 0) 1 1436 := ⟨by decide +kernel, rfl⟩
theorem dL_1436 : Dc code 1436 (.ireturn) 1 1437 := ⟨by decide +kernel, rfl⟩
theorem dL_1437 : Dc code 1437 (.aload_n 1) 1 1438 := ⟨by decide +kernel, rfl⟩
theorem dL_1438 : Dc code 1438 (.invokevirtual 157) 3 1441 := ⟨by decide +kernel, rfl⟩
theorem dL_1441 : Dc code 1441 (.aload_n 2) 1 1442 := ⟨by decide +kernel, rfl⟩
theorem dL_1442 : Dc code 1442 (.invokevirtual 160) 3 1445 := ⟨by decide +kernel, rfl⟩
theorem djL_1445 : Dj code 1445 (.if_icmp .eq 19) 3 1448 19 1464 := ⟨by decide +kernel, rfl, by decide⟩
theorem dL_1448 : Dc code 1448 (.iconst 0) 1 1449 := ⟨by decide +kernel, rfl⟩
theorem dL_1449 : Dc code 1449 (.ireturn) 1 1450 := ⟨by decide +kernel, rfl⟩
theorem dL_1450 : Dc code 1450 (.aload_n 1) 1 1451 := ⟨by decide +kernel, rfl⟩
theorem dL_1451 : Dc code 1451 (.invokevirtual 161) 3 1454 := ⟨by decide +kernel, rfl⟩
theorem dL_1454 : Dc code 1454 (.aload_n 2) 1 1455 := ⟨by decide +kernel, rfl⟩
theorem dL_1455 : Dc code 1455 (.invokevirtual 165) 3 1458 := ⟨by decide +kernel, rfl⟩
theorem dL_1458 : Dc code 1458 (.lcmp) 1 1459 := ⟨by decide +kernel, rfl⟩
theorem djL_1459 : Dj code 1459 (.ifCond .eq 5) 3 1462 5 1464 := ⟨by decide +kernel, rfl, by decide⟩
theorem dL_1462 : Dc code 1462 (.iconst 0) 1 1463 := ⟨by decide +kernel, rfl⟩
theorem dL_1463 : Dc code 1463 (.ireturn) 1 1464 := ⟨by decide +kernel, rfl⟩
theorem dL_1464 : Dc code 1464 (.iinc 3 6) 3 1467 := ⟨by decide +kernel, rfl⟩
theorem djL_1467 : Dj code 1467 (.goto (-1449)) 3 1470 (-1449) 18 := ⟨by decide +kernel, rfl, by decide⟩
theorem dL_1470 : Dc code 1470 (.iconst 1) 1 1471 := ⟨by decide +kernel, rfl⟩
theorem dL_1471 : Dc code 1471 (.ireturn) 1 1472 := ⟨by decide +kernel, rfl⟩
def Step_feed (Inv : Bool → St → St → Prop) : Prop := ∀ (b : Bool) (σ τ : St), Inv b σ τ → ∀ (x1 x2 x3 x4 x5 : Int), C32 x1 → C32 x2 → C32 x3 → C32 x4 → C32 x5 → wp_X11_feed x1 x2 x3 x4 x5 σ (fun r σ1 => wp_X12_feed x1 x2 x3 x4 x5 τ (fun r1 τ1 => r = r1 ∧ Inv b σ1 τ1))
def Step_end (Inv : Bool → St → St → Prop) : Prop := ∀ (b : Bool) (σ τ : St), Inv b σ τ → ∀ (x1 : Int), C32 x1 → wp_X11_end x1 σ (fun r σ1 => wp_X12_end x1 τ (fun r1 τ1 => r = r1 ∧ Inv b σ1 τ1))
def Step_grammar (Inv : Bool → St → St → Prop) : Prop := ∀ (b : Bool) (σ τ : St), Inv b σ τ → wp_X11_grammar  σ (fun r σ1 => wp_X12_grammar  τ (fun r1 τ1 => r = r1 ∧ Inv b σ1 τ1))
def Step_fault (Inv : Bool → St → St → Prop) : Prop := ∀ (b : Bool) (σ τ : St), Inv b σ τ → ∀ (x1 : Int), C32 x1 → wp_X11_fault x1 σ (fun r σ1 => wp_X12_fault x1 τ (fun r1 τ1 => r = r1 ∧ Inv b σ1 τ1))
def Step_say (Inv : Bool → St → St → Prop) : Prop := ∀ (b : Bool) (σ τ : St), Inv b σ τ → wp_X11_say  σ (fun r σ1 => wp_X12_say  τ (fun r1 τ1 => r = r1 ∧ Inv b σ1 τ1))
def Step_count (Inv : Bool → St → St → Prop) : Prop := ∀ (b : Bool) (σ τ : St), Inv b σ τ → ∀ (x1 : Int), C32 x1 → wp_X11_count x1 σ (fun r σ1 => wp_X12_count x1 τ (fun r1 τ1 => r = r1 ∧ Inv b σ1 τ1))
def Step_rule (Inv : Bool → St → St → Prop) : Prop := ∀ (b : Bool) (σ τ : St), Inv b σ τ → ∀ (x1 x2 : Int), C32 x1 → C32 x2 → wp_X11_rule x1 x2 σ (fun r σ1 => wp_X12_rule x1 x2 τ (fun r1 τ1 => r = r1 ∧ Inv b σ1 τ1))
def Step_table (Inv : Bool → St → St → Prop) : Prop := ∀ (b : Bool) (σ τ : St), Inv b σ τ → ∀ (x1 x2 x3 : Int), C32 x1 → C32 x2 → C32 x3 → wp_X11_table x1 x2 x3 σ (fun r σ1 => wp_X12_table x1 x2 x3 τ (fun r1 τ1 => r = r1 ∧ Inv b σ1 τ1))
def Step_drops (Inv : Bool → St → St → Prop) : Prop := ∀ (b : Bool) (σ τ : St), Inv b σ τ → ∀ (x1 x2 : Int), C32 x1 → C32 x2 → wp_X11_drops x1 x2 σ (fun r σ1 => wp_X12_drops x1 x2 τ (fun r1 τ1 => r = r1 ∧ Inv b σ1 τ1))
def Step_prices (Inv : Bool → St → St → Prop) : Prop := ∀ (b : Bool) (σ τ : St), Inv b σ τ → ∀ (x1 x2 : Int), C32 x1 → C32 x2 → wp_X11_prices x1 x2 σ (fun r σ1 => wp_X12_prices x1 x2 τ (fun r1 τ1 => r = r1 ∧ Inv b σ1 τ1))
def Step_elements (Inv : Bool → St → St → Prop) : Prop := ∀ (b : Bool) (σ τ : St), Inv b σ τ → ∀ (x1 x2 : Int), C32 x1 → C32 x2 → wp_X11_elements x1 x2 σ (fun r σ1 => wp_X12_elements x1 x2 τ (fun r1 τ1 => r = r1 ∧ Inv b σ1 τ1))
def Step_can (Inv : Bool → St → St → Prop) : Prop := ∀ (b : Bool) (σ τ : St), Inv b σ τ → ∀ (x1 x2 x3 : Int), C32 x1 → C32 x2 → C32 x3 → wp_X11_can x1 x2 x3 σ (fun r σ1 => wp_X12_can x1 x2 x3 τ (fun r1 τ1 => r = r1 ∧ Inv b σ1 τ1))
def Step_least (Inv : Bool → St → St → Prop) : Prop := ∀ (b : Bool) (σ τ : St), Inv b σ τ → ∀ (x1 x2 x3 : Int), C32 x1 → C32 x2 → C32 x3 → wp_X11_least x1 x2 x3 σ (fun r σ1 => wp_X12_least x1 x2 x3 τ (fun r1 τ1 => r = r1 ∧ Inv b σ1 τ1))
def Step_ways (Inv : Bool → St → St → Prop) : Prop := ∀ (b : Bool) (σ τ : St), Inv b σ τ → ∀ (x1 x2 x3 : Int), C32 x1 → C32 x2 → C32 x3 → wp_X11_ways x1 x2 x3 σ (fun r σ1 => wp_X12_ways x1 x2 x3 τ (fun r1 τ1 => r = r1 ∧ Inv b σ1 τ1))
def Step_dearest (Inv : Bool → St → St → Prop) : Prop := ∀ (b : Bool) (σ τ : St), Inv b σ τ → ∀ (x1 x2 x3 : Int), C32 x1 → C32 x2 → C32 x3 → wp_X11_dearest x1 x2 x3 σ (fun r σ1 => wp_X12_dearest x1 x2 x3 τ (fun r1 τ1 => r = r1 ∧ Inv b σ1 τ1))
def Step_used (Inv : Bool → St → St → Prop) : Prop := ∀ (b : Bool) (σ τ : St), Inv b σ τ → ∀ (x1 x2 x3 x4 : Int), C32 x1 → C32 x2 → C32 x3 → C32 x4 → wp_X11_used x1 x2 x3 x4 σ (fun r σ1 => wp_X12_used x1 x2 x3 x4 τ (fun r1 τ1 => r = r1 ∧ Inv b σ1 τ1))
def Step_sum (Inv : Bool → St → St → Prop) : Prop := ∀ (b : Bool) (σ τ : St), Inv b σ τ → ∀ (x1 x2 x3 : Int), C32 x1 → C32 x2 → C32 x3 → wp_X11_sum x1 x2 x3 σ (fun r σ1 => wp_X12_sum x1 x2 x3 τ (fun r1 τ1 => r = r1 ∧ Inv b σ1 τ1))
def Step_value (Inv : Bool → St → St → Prop) : Prop := ∀ (b : Bool) (σ τ : St), Inv b σ τ → ∀ (x1 x2 x3 : Int), C32 x1 → C32 x2 → C32 x3 → wp_X11_value x1 x2 x3 σ (fun r σ1 => wp_X12_value x1 x2 x3 τ (fun r1 τ1 => r = r1 ∧ Inv b σ1 τ1))
def Step_rounds (Inv : Bool → St → St → Prop) : Prop := ∀ (b : Bool) (σ τ : St), Inv b σ τ → wp_X11_rounds  σ (fun r σ1 => wp_X12_rounds  τ (fun r1 τ1 => r = r1 ∧ Inv b σ1 τ1))
def Step_laws (Inv : Bool → St → St → Prop) : Prop := ∀ (b : Bool) (σ τ : St), Inv b σ τ → wp_X11_laws  σ (fun r σ1 => wp_X12_laws  τ (fun r1 τ1 => r = r1 ∧ Inv b σ1 τ1))
def Step_cases (Inv : Bool → St → St → Prop) : Prop := ∀ (b : Bool) (σ τ : St), Inv b σ τ → ∀ (x1 x2 x3 x4 : Int), C32 x1 → C32 x2 → C32 x3 → C32 x4 → wp_X11_cases x1 x2 x3 x4 σ (fun r σ1 => wp_X12_cases x1 x2 x3 x4 τ (fun r1 τ1 => r = r1 ∧ Inv b σ1 τ1))
def Step_settled (Inv : Bool → St → St → Prop) : Prop := ∀ (b : Bool) (σ τ : St), Inv b σ τ → ∀ (x1 x2 : Int), C32 x1 → C32 x2 → wp_X11_settled x1 x2 σ (fun r σ1 => wp_X12_settled x1 x2 τ (fun r1 τ1 => r = r1 ∧ Inv b σ1 τ1))
def Step_best (Inv : Bool → St → St → Prop) : Prop := ∀ (b : Bool) (σ τ : St), Inv b σ τ → ∀ (x1 x2 x3 x4 : Int), C32 x1 → C32 x2 → C32 x3 → C32 x4 → wp_X11_best x1 x2 x3 x4 σ (fun r σ1 => wp_X12_best x1 x2 x3 x4 τ (fun r1 τ1 => r = r1 ∧ Inv b σ1 τ1))
def Step_size (Inv : Bool → St → St → Prop) : Prop := ∀ (b : Bool) (σ τ : St), Inv b σ τ → ∀ (x1 x2 x3 x4 x5 : Int), C32 x1 → C32 x2 → C32 x3 → C32 x4 → C32 x5 → wp_X11_size x1 x2 x3 x4 x5 σ (fun r σ1 => wp_X12_size x1 x2 x3 x4 x5 τ (fun r1 τ1 => r = r1 ∧ Inv b σ1 τ1))
def Step_step (Inv : Bool → St → St → Prop) : Prop := ∀ (b : Bool) (σ τ : St), Inv b σ τ → ∀ (x1 x2 x3 x4 x5 : Int), C32 x1 → C32 x2 → C32 x3 → C32 x4 → C32 x5 → wp_X11_step x1 x2 x3 x4 x5 σ (fun r σ1 => wp_X12_step x1 x2 x3 x4 x5 τ (fun r1 τ1 => r = r1 ∧ Inv b σ1 τ1))
def Step_bounds (Inv : Bool → St → St → Prop) : Prop := ∀ (b : Bool) (σ τ : St), Inv b σ τ → ∀ (x1 x2 x3 : Int), C32 x1 → C32 x2 → C32 x3 → wp_X11_bounds x1 x2 x3 σ (fun r σ1 => wp_X12_bounds x1 x2 x3 τ (fun r1 τ1 => r = r1 ∧ Inv b σ1 τ1))
def Step_tell (Inv : Bool → St → St → Prop) : Prop := ∀ (b : Bool) (σ τ : St), Inv b σ τ → ∀ (x1 x2 x3 x4 : Int), C32 x1 → C32 x2 → C32 x3 → C32 x4 → wp_X11_tell x1 x2 x3 x4 σ (fun r σ1 => wp_X12_tell x1 x2 x3 x4 τ (fun r1 τ1 => r = r1 ∧ Inv b σ1 τ1))
def Step_octet (Inv : Bool → St → St → Prop) : Prop := ∀ (b : Bool) (σ τ : St), Inv b σ τ → ∀ (x1 : Int), C32 x1 → wp_X11_octet x1 σ (fun r σ1 => wp_X12_octet x1 τ (fun r1 τ1 => r = r1 ∧ Inv b σ1 τ1))
def Step_alike (Inv : Bool → St → St → Prop) : Prop := ∀ (b : Bool) (σ τ : St), Inv b σ τ → ∀ (x1 x2 x3 x4 x5 : Int), C32 x1 → C32 x2 → C32 x3 → C32 x4 → C32 x5 → wp_X11_alike x1 x2 x3 x4 x5 σ (fun r σ1 => wp_X12_alike x1 x2 x3 x4 x5 τ (fun r1 τ1 => r = r1 ∧ Inv b σ1 τ1))
def Step_without (Inv : Bool → St → St → Prop) : Prop := ∀ (b : Bool) (σ τ : St), Inv b σ τ → ∀ (x1 : Int), C32 x1 → wp_X11_without x1 σ (fun r σ1 => wp_X12_without x1 τ (fun r1 τ1 => r = r1 ∧ Inv b σ1 τ1))
def Step_heads (Inv : Bool → St → St → Prop) : Prop := ∀ (b : Bool) (σ τ : St), Inv b σ τ → wp_X11_heads  σ (fun r σ1 => wp_X12_heads  τ (fun r1 τ1 => r = r1 ∧ Inv b σ1 τ1))
def Step_mends (Inv : Bool → St → St → Prop) : Prop := ∀ (b : Bool) (σ τ : St), Inv b σ τ → wp_X11_mends  σ (fun r σ1 => wp_X12_mends  τ (fun r1 τ1 => r = r1 ∧ Inv b σ1 τ1))
def Step_mend (Inv : Bool → St → St → Prop) : Prop := ∀ (b : Bool) (σ τ : St), Inv b σ τ → ∀ (x1 : Int), C32 x1 → wp_X11_mend x1 σ (fun r σ1 => wp_X12_mend x1 τ (fun r1 τ1 => r = r1 ∧ Inv b σ1 τ1))
def Step_rings (Inv : Bool → St → St → Prop) : Prop := ∀ (b : Bool) (σ τ : St), Inv b σ τ → wp_X11_rings  σ (fun r σ1 => wp_X12_rings  τ (fun r1 τ1 => r = r1 ∧ Inv b σ1 τ1))
def Step_alive (Inv : Bool → St → St → Prop) : Prop := ∀ (b : Bool) (σ τ : St), Inv b σ τ → wp_X11_alive  σ (fun r σ1 => wp_X12_alive  τ (fun r1 τ1 => r = r1 ∧ Inv b σ1 τ1))
theorem mlL_100 : Cond.methodLink RL 100 yX11_cases ∈ gtbl := tg (tb_5 (List.mem_of_getElem? (i := 223) rfl)) rfl
theorem mlL_104 : Cond.methodLink RL 104 yX12_cases ∈ gtbl := tg (tb_9 (List.mem_of_getElem? (i := 123) rfl)) rfl
theorem mlL_105 : Cond.methodLink RL 105 yX11_settled ∈ gtbl := tg (tb_5 (List.mem_of_getElem? (i := 238) rfl)) rfl
theorem mlL_108 : Cond.methodLink RL 108 yX12_settled ∈ gtbl := tg (tb_9 (List.mem_of_getElem? (i := 140) rfl)) rfl
theorem mlL_109 : Cond.methodLink RL 109 yX11_best ∈ gtbl := tg (tb_6 (List.mem_of_getElem? (i := 18) rfl)) rfl
theorem mlL_112 : Cond.methodLink RL 112 yX12_best ∈ gtbl := tg (tb_9 (List.mem_of_getElem? (i := 155) rfl)) rfl
theorem mlL_113 : Cond.methodLink RL 113 yX11_size ∈ gtbl := tg (tb_6 (List.mem_of_getElem? (i := 83) rfl)) rfl
theorem mlL_116 : Cond.methodLink RL 116 yX12_size ∈ gtbl := tg (tb_9 (List.mem_of_getElem? (i := 226) rfl)) rfl
theorem mlL_117 : Cond.methodLink RL 117 yX11_step ∈ gtbl := tg (tb_6 (List.mem_of_getElem? (i := 108) rfl)) rfl
theorem mlL_120 : Cond.methodLink RL 120 yX12_step ∈ gtbl := tg (tb_9 (List.mem_of_getElem? (i := 230) rfl)) rfl
theorem mlL_121 : Cond.methodLink RL 121 yX11_bounds ∈ gtbl := tg (tb_6 (List.mem_of_getElem? (i := 120) rfl)) rfl
theorem mlL_124 : Cond.methodLink RL 124 yX12_bounds ∈ gtbl := tg (tb_9 (List.mem_of_getElem? (i := 238) rfl)) rfl
theorem mlL_125 : Cond.methodLink RL 125 yX11_tell ∈ gtbl := tg (tb_6 (List.mem_of_getElem? (i := 142) rfl)) rfl
theorem mlL_128 : Cond.methodLink RL 128 yX12_tell ∈ gtbl := tg (tb_10 (List.mem_of_getElem? (i := 14) rfl)) rfl
theorem mlL_129 : Cond.methodLink RL 129 yX11_octet ∈ gtbl := tg (tb_6 (List.mem_of_getElem? (i := 162) rfl)) rfl
theorem mlL_13 : Cond.methodLink RL 13 yX11_feed ∈ gtbl := tg (tb_3 (List.mem_of_getElem? (i := 149) rfl)) rfl
theorem mlL_132 : Cond.methodLink RL 132 yX12_octet ∈ gtbl := tg (tb_10 (List.mem_of_getElem? (i := 30) rfl)) rfl
theorem mlL_137 : Cond.methodLink RL 137 yX11_alike ∈ gtbl := tg (tb_6 (List.mem_of_getElem? (i := 201) rfl)) rfl
theorem mlL_140 : Cond.methodLink RL 140 yX12_alike ∈ gtbl := tg (tb_10 (List.mem_of_getElem? (i := 6) rfl)) rfl
theorem mlL_141 : Cond.methodLink RL 141 yX11_without ∈ gtbl := tg (tb_6 (List.mem_of_getElem? (i := 210) rfl)) rfl
theorem mlL_144 : Cond.methodLink RL 144 yX12_without ∈ gtbl := tg (tb_10 (List.mem_of_getElem? (i := 51) rfl)) rfl
theorem mlL_145 : Cond.methodLink RL 145 yX11_heads ∈ gtbl := tg (tb_6 (List.mem_of_getElem? (i := 218) rfl)) rfl
theorem mlL_148 : Cond.methodLink RL 148 yX12_heads ∈ gtbl := tg (tb_10 (List.mem_of_getElem? (i := 59) rfl)) rfl
theorem mlL_149 : Cond.methodLink RL 149 yX11_mends ∈ gtbl := tg (tb_6 (List.mem_of_getElem? (i := 222) rfl)) rfl
theorem mlL_152 : Cond.methodLink RL 152 yX12_mends ∈ gtbl := tg (tb_10 (List.mem_of_getElem? (i := 63) rfl)) rfl
theorem mlL_153 : Cond.methodLink RL 153 yX11_mend ∈ gtbl := tg (tb_7 (List.mem_of_getElem? (i := 27) rfl)) rfl
theorem mlL_156 : Cond.methodLink RL 156 yX12_mend ∈ gtbl := tg (tb_10 (List.mem_of_getElem? (i := 71) rfl)) rfl
theorem mlL_157 : Cond.methodLink RL 157 yX11_rings ∈ gtbl := tg (tb_7 (List.mem_of_getElem? (i := 31) rfl)) rfl
theorem mlL_160 : Cond.methodLink RL 160 yX12_rings ∈ gtbl := tg (tb_10 (List.mem_of_getElem? (i := 75) rfl)) rfl
theorem mlL_161 : Cond.methodLink RL 161 yX11_alive ∈ gtbl := tg (tb_7 (List.mem_of_getElem? (i := 40) rfl)) rfl
theorem mlL_165 : Cond.methodLink RL 165 yX12_alive ∈ gtbl := tg (tb_10 (List.mem_of_getElem? (i := 79) rfl)) rfl
theorem mlL_17 : Cond.methodLink RL 17 yX12_feed ∈ gtbl := tg (tb_8 (List.mem_of_getElem? (i := 26) rfl)) rfl
theorem mlL_18 : Cond.methodLink RL 18 yX11_end ∈ gtbl := tg (tb_3 (List.mem_of_getElem? (i := 157) rfl)) rfl
theorem mlL_22 : Cond.methodLink RL 22 yX12_end ∈ gtbl := tg (tb_8 (List.mem_of_getElem? (i := 30) rfl)) rfl
theorem mlL_23 : Cond.methodLink RL 23 yX11_grammar ∈ gtbl := tg (tb_3 (List.mem_of_getElem? (i := 161) rfl)) rfl
theorem mlL_27 : Cond.methodLink RL 27 yX12_grammar ∈ gtbl := tg (tb_8 (List.mem_of_getElem? (i := 37) rfl)) rfl
theorem mlL_28 : Cond.methodLink RL 28 yX11_fault ∈ gtbl := tg (tb_4 (List.mem_of_getElem? (i := 97) rfl)) rfl
theorem mlL_31 : Cond.methodLink RL 31 yX12_fault ∈ gtbl := tg (tb_8 (List.mem_of_getElem? (i := 106) rfl)) rfl
theorem mlL_32 : Cond.methodLink RL 32 yX11_say ∈ gtbl := tg (tb_4 (List.mem_of_getElem? (i := 101) rfl)) rfl
theorem mlL_35 : Cond.methodLink RL 35 yX12_say ∈ gtbl := tg (tb_8 (List.mem_of_getElem? (i := 110) rfl)) rfl
theorem mlL_36 : Cond.methodLink RL 36 yX11_count ∈ gtbl := tg (tb_4 (List.mem_of_getElem? (i := 115) rfl)) rfl
theorem mlL_39 : Cond.methodLink RL 39 yX12_count ∈ gtbl := tg (tb_10 (List.mem_of_getElem? (i := 86) rfl)) rfl
theorem mlL_40 : Cond.methodLink RL 40 yX11_rule ∈ gtbl := tg (tb_4 (List.mem_of_getElem? (i := 208) rfl)) rfl
theorem mlL_44 : Cond.methodLink RL 44 yX12_rule ∈ gtbl := tg (tb_8 (List.mem_of_getElem? (i := 114) rfl)) rfl
theorem mlL_45 : Cond.methodLink RL 45 yX11_table ∈ gtbl := tg (tb_4 (List.mem_of_getElem? (i := 216) rfl)) rfl
theorem mlL_49 : Cond.methodLink RL 49 yX12_table ∈ gtbl := tg (tb_8 (List.mem_of_getElem? (i := 122) rfl)) rfl
theorem mlL_50 : Cond.methodLink RL 50 yX11_drops ∈ gtbl := tg (tb_4 (List.mem_of_getElem? (i := 232) rfl)) rfl
theorem mlL_53 : Cond.methodLink RL 53 yX12_drops ∈ gtbl := tg (tb_8 (List.mem_of_getElem? (i := 138) rfl)) rfl
theorem mlL_54 : Cond.methodLink RL 54 yX11_prices ∈ gtbl := tg (tb_4 (List.mem_of_getElem? (i := 236) rfl)) rfl
theorem mlL_57 : Cond.methodLink RL 57 yX12_prices ∈ gtbl := tg (tb_8 (List.mem_of_getElem? (i := 143) rfl)) rfl
theorem mlL_58 : Cond.methodLink RL 58 yX11_elements ∈ gtbl := tg (tb_5 (List.mem_of_getElem? (i := 0) rfl)) rfl
theorem mlL_61 : Cond.methodLink RL 61 yX12_elements ∈ gtbl := tg (tb_8 (List.mem_of_getElem? (i := 148) rfl)) rfl
theorem mlL_62 : Cond.methodLink RL 62 yX11_can ∈ gtbl := tg (tb_5 (List.mem_of_getElem? (i := 4) rfl)) rfl
theorem mlL_65 : Cond.methodLink RL 65 yX12_can ∈ gtbl := tg (tb_8 (List.mem_of_getElem? (i := 152) rfl)) rfl
theorem mlL_66 : Cond.methodLink RL 66 yX11_least ∈ gtbl := tg (tb_5 (List.mem_of_getElem? (i := 21) rfl)) rfl
theorem mlL_69 : Cond.methodLink RL 69 yX12_least ∈ gtbl := tg (tb_8 (List.mem_of_getElem? (i := 201) rfl)) rfl
theorem mlL_70 : Cond.methodLink RL 70 yX11_ways ∈ gtbl := tg (tb_5 (List.mem_of_getElem? (i := 25) rfl)) rfl
theorem mlL_74 : Cond.methodLink RL 74 yX12_ways ∈ gtbl := tg (tb_8 (List.mem_of_getElem? (i := 205) rfl)) rfl
theorem mlL_75 : Cond.methodLink RL 75 yX11_dearest ∈ gtbl := tg (tb_5 (List.mem_of_getElem? (i := 83) rfl)) rfl
theorem mlL_78 : Cond.methodLink RL 78 yX12_dearest ∈ gtbl := tg (tb_9 (List.mem_of_getElem? (i := 15) rfl)) rfl
theorem mlL_79 : Cond.methodLink RL 79 yX11_used ∈ gtbl := tg (tb_5 (List.mem_of_getElem? (i := 91) rfl)) rfl
theorem mlL_83 : Cond.methodLink RL 83 yX12_used ∈ gtbl := tg (tb_9 (List.mem_of_getElem? (i := 32) rfl)) rfl
theorem mlL_84 : Cond.methodLink RL 84 yX11_sum ∈ gtbl := tg (tb_5 (List.mem_of_getElem? (i := 116) rfl)) rfl
theorem mlL_87 : Cond.methodLink RL 87 yX12_sum ∈ gtbl := tg (tb_9 (List.mem_of_getElem? (i := 44) rfl)) rfl
theorem mlL_88 : Cond.methodLink RL 88 yX11_value ∈ gtbl := tg (tb_5 (List.mem_of_getElem? (i := 161) rfl)) rfl
theorem mlL_91 : Cond.methodLink RL 91 yX12_value ∈ gtbl := tg (tb_9 (List.mem_of_getElem? (i := 79) rfl)) rfl
theorem mlL_92 : Cond.methodLink RL 92 yX11_rounds ∈ gtbl := tg (tb_5 (List.mem_of_getElem? (i := 195) rfl)) rfl
theorem mlL_95 : Cond.methodLink RL 95 yX12_rounds ∈ gtbl := tg (tb_9 (List.mem_of_getElem? (i := 103) rfl)) rfl
theorem mlL_96 : Cond.methodLink RL 96 yX11_laws ∈ gtbl := tg (tb_5 (List.mem_of_getElem? (i := 200) rfl)) rfl
theorem mlL_99 : Cond.methodLink RL 99 yX12_laws ∈ gtbl := tg (tb_9 (List.mem_of_getElem? (i := 107) rfl)) rfl
section LC
variable {p : Program} {l : Launch} {e : Env} {s : State} {m : MethodId} {args : Array Value} {below : List Frame} {meth : Method} {c : Code} {D : va_G} {cA : Nat → ClassId} {adC adR : Nat → Nat} {cells slots : Nat} {Q : State → Prop} {Z : (Nat → Nat) × (Nat → Nat)} {bq L : Nat} {xs : Nat → Int32} {Inv : Bool → St → St → Prop}
set_option maxHeartbeats 2000000 in
theorem lc_feed (E : EvL p s m args meth c D cA Z bq L xs) {b : Bool} (hAp : Ap s adC adR b) (hcs : cells ≤ room_1.cells ∧ slots ≤ room_1.slots) (hI : Step_feed Inv) {σ τ : St} (hσ : CanS (shC b) (NC b) σ) (hτ : CanS shR NR τ) (h0 : Inv b σ τ) {i : Int} (hi : 0 ≤ i ∧ i + 6 ≤ (L : Int)) (kk : ∀ σ1 τ1, CanS (shC b) (NC b) σ1 → CanS shR NR τ1 → Inv b σ1 τ1 → GL p l e s m args below meth c D cA adC adR b cells slots Q σ1 τ1 1464 [some (.ref bq), some (.ref (adC 0)), some (.ref (adR 0)), some (vI i)] []) : GL p l e s m args below meth c D cA adC adR b cells slots Q σ τ 192 [some (.ref bq), some (.ref (adC 0)), some (.ref (adR 0)), some (vI i)] [] := by
  have h := hI b σ τ h0 (XI xs (i + 1).toNat) (XI xs (i + 2).toNat) (XI xs (i + 3).toNat) (XI xs (i + 4).toNat) (XI xs (i + 5).toNat) (c32_t _) (c32_t _) (c32_t _) (c32_t _) (c32_t _)
  refine l_aload_1 E dL_192 ?_
  refine l_arg E hi (by decide) dL_193 dL_194 dL_195 dL_196 dL_197 ?_
  refine l_arg E hi (by decide) dL_198 dL_199 dL_200 dL_201 dL_202 ?_
  refine l_arg E hi (by decide) dL_203 dL_204 dL_205 dL_206 dL_207 ?_
  refine l_arg E hi (by decide) dL_208 dL_209 dL_210 dL_211 dL_212 ?_
  refine l_arg E hi (by decide) dL_213 dL_214 dL_215 dL_216 dL_217 ?_
  refine l_callCI E hAp my_X11_feed mi_X11_feed msel_X11_feed mlL_13 (by decide) hcs (kC_0 b) (sC_0 b) rfl (m_X11_feed hAp.1 (c32_t _) (c32_t _) (c32_t _) (c32_t _) (c32_t _) hσ h) rfl rfl (Nat.le_of_ble_eq_true rfl) dL_218 (fun r1 σ1 cr1 hσ1 h => ?_)
  refine l_aload_2 E dL_221 ?_
  refine l_arg E hi (by decide) dL_222 dL_223 dL_224 dL_225 dL_226 ?_
  refine l_arg E hi (by decide) dL_227 dL_228 dL_229 dL_230 dL_231 ?_
  refine l_arg E hi (by decide) dL_232 dL_233 dL_234 dL_235 dL_236 ?_
  refine l_arg E hi (by decide) dL_237 dL_238 dL_239 dL_240 dL_241 ?_
  refine l_arg E hi (by decide) dL_242 dL_243 dL_244 dL_245 dL_246 ?_
  refine l_callRI E hAp my_X12_feed mi_X12_feed msel_X12_feed mlL_17 (by decide) hcs kR_0 sR_0 rfl (m_X12_feed hAp.2.1 (c32_t _) (c32_t _) (c32_t _) (c32_t _) (c32_t _) hτ h) rfl rfl (Nat.le_of_ble_eq_true rfl) dL_247 (fun r2 τ1 cr2 hτ1 h => ?_)
  obtain ⟨e1, h1⟩ := h
  exact l_icmp_eq E cr1 cr2 djL_250 (fun _ => kk σ1 τ1 hσ1 hτ1 h1) (fun hc => absurd e1 hc)
set_option maxHeartbeats 2000000 in
theorem lc_end (E : EvL p s m args meth c D cA Z bq L xs) {b : Bool} (hAp : Ap s adC adR b) (hcs : cells ≤ room_1.cells ∧ slots ≤ room_1.slots) (hI : Step_end Inv) {σ τ : St} (hσ : CanS (shC b) (NC b) σ) (hτ : CanS shR NR τ) (h0 : Inv b σ τ) {i : Int} (hi : 0 ≤ i ∧ i + 6 ≤ (L : Int)) (kk : ∀ σ1 τ1, CanS (shC b) (NC b) σ1 → CanS shR NR τ1 → Inv b σ1 τ1 → GL p l e s m args below meth c D cA adC adR b cells slots Q σ1 τ1 1464 [some (.ref bq), some (.ref (adC 0)), some (.ref (adR 0)), some (vI i)] []) : GL p l e s m args below meth c D cA adC adR b cells slots Q σ τ 255 [some (.ref bq), some (.ref (adC 0)), some (.ref (adR 0)), some (vI i)] [] := by
  have h := hI b σ τ h0 (XI xs (i + 1).toNat) (c32_t _)
  refine l_aload_1 E dL_255 ?_
  refine l_arg E hi (by decide) dL_256 dL_257 dL_258 dL_259 dL_260 ?_
  refine l_callCI E hAp my_X11_end mi_X11_end msel_X11_end mlL_18 (by decide) hcs (kC_0 b) (sC_0 b) rfl (m_X11_end hAp.1 (c32_t _) hσ h) rfl rfl (Nat.le_of_ble_eq_true rfl) dL_261 (fun r1 σ1 cr1 hσ1 h => ?_)
  refine l_aload_2 E dL_264 ?_
  refine l_arg E hi (by decide) dL_265 dL_266 dL_267 dL_268 dL_269 ?_
  refine l_callRI E hAp my_X12_end mi_X12_end msel_X12_end mlL_22 (by decide) hcs kR_0 sR_0 rfl (m_X12_end hAp.2.1 (c32_t _) hτ h) rfl rfl (Nat.le_of_ble_eq_true rfl) dL_270 (fun r2 τ1 cr2 hτ1 h => ?_)
  obtain ⟨e1, h1⟩ := h
  exact l_icmp_eq E cr1 cr2 djL_273 (fun _ => kk σ1 τ1 hσ1 hτ1 h1) (fun hc => absurd e1 hc)
set_option maxHeartbeats 2000000 in
theorem lc_grammar (E : EvL p s m args meth c D cA Z bq L xs) {b : Bool} (hAp : Ap s adC adR b) (hcs : cells ≤ room_1.cells ∧ slots ≤ room_1.slots) (hI : Step_grammar Inv) {σ τ : St} (hσ : CanS (shC b) (NC b) σ) (hτ : CanS shR NR τ) (h0 : Inv b σ τ) {i : Int} (hi : 0 ≤ i ∧ i + 6 ≤ (L : Int)) (kk : ∀ σ1 τ1, CanS (shC b) (NC b) σ1 → CanS shR NR τ1 → Inv b σ1 τ1 → GL p l e s m args below meth c D cA adC adR b cells slots Q σ1 τ1 1464 [some (.ref bq), some (.ref (adC 0)), some (.ref (adR 0)), some (vI i)] []) : GL p l e s m args below meth c D cA adC adR b cells slots Q σ τ 278 [some (.ref bq), some (.ref (adC 0)), some (.ref (adR 0)), some (vI i)] [] := by
  have h := hI b σ τ h0  
  refine l_aload_1 E dL_278 ?_
  refine l_callCI E hAp my_X11_grammar mi_X11_grammar msel_X11_grammar mlL_23 (by decide) hcs (kC_0 b) (sC_0 b) rfl (m_X11_grammar hAp.1  hσ h) rfl rfl (Nat.le_of_ble_eq_true rfl) dL_279 (fun r1 σ1 cr1 hσ1 h => ?_)
  refine l_aload_2 E dL_282 ?_
  refine l_callRI E hAp my_X12_grammar mi_X12_grammar msel_X12_grammar mlL_27 (by decide) hcs kR_0 sR_0 rfl (m_X12_grammar hAp.2.1  hτ h) rfl rfl (Nat.le_of_ble_eq_true rfl) dL_283 (fun r2 τ1 cr2 hτ1 h => ?_)
  obtain ⟨e1, h1⟩ := h
  exact l_icmp_eq E cr1 cr2 djL_286 (fun _ => kk σ1 τ1 hσ1 hτ1 h1) (fun hc => absurd e1 hc)
set_option maxHeartbeats 2000000 in
theorem lc_fault (E : EvL p s m args meth c D cA Z bq L xs) {b : Bool} (hAp : Ap s adC adR b) (hcs : cells ≤ room_1.cells ∧ slots ≤ room_1.slots) (hI : Step_fault Inv) {σ τ : St} (hσ : CanS (shC b) (NC b) σ) (hτ : CanS shR NR τ) (h0 : Inv b σ τ) {i : Int} (hi : 0 ≤ i ∧ i + 6 ≤ (L : Int)) (kk : ∀ σ1 τ1, CanS (shC b) (NC b) σ1 → CanS shR NR τ1 → Inv b σ1 τ1 → GL p l e s m args below meth c D cA adC adR b cells slots Q σ1 τ1 1464 [some (.ref bq), some (.ref (adC 0)), some (.ref (adR 0)), some (vI i)] []) : GL p l e s m args below meth c D cA adC adR b cells slots Q σ τ 291 [some (.ref bq), some (.ref (adC 0)), some (.ref (adR 0)), some (vI i)] [] := by
  have h := hI b σ τ h0 (XI xs (i + 1).toNat) (c32_t _)
  refine l_aload_1 E dL_291 ?_
  refine l_arg E hi (by decide) dL_292 dL_293 dL_294 dL_295 dL_296 ?_
  refine l_callCI E hAp my_X11_fault mi_X11_fault msel_X11_fault mlL_28 (by decide) hcs (kC_0 b) (sC_0 b) rfl (m_X11_fault hAp.1 (c32_t _) hσ h) rfl rfl (Nat.le_of_ble_eq_true rfl) dL_297 (fun r1 σ1 cr1 hσ1 h => ?_)
  refine l_aload_2 E dL_300 ?_
  refine l_arg E hi (by decide) dL_301 dL_302 dL_303 dL_304 dL_305 ?_
  refine l_callRI E hAp my_X12_fault mi_X12_fault msel_X12_fault mlL_31 (by decide) hcs kR_0 sR_0 rfl (m_X12_fault hAp.2.1 (c32_t _) hτ h) rfl rfl (Nat.le_of_ble_eq_true rfl) dL_306 (fun r2 τ1 cr2 hτ1 h => ?_)
  obtain ⟨e1, h1⟩ := h
  exact l_icmp_eq E cr1 cr2 djL_309 (fun _ => kk σ1 τ1 hσ1 hτ1 h1) (fun hc => absurd e1 hc)
set_option maxHeartbeats 2000000 in
theorem lc_say (E : EvL p s m args meth c D cA Z bq L xs) {b : Bool} (hAp : Ap s adC adR b) (hcs : cells ≤ room_1.cells ∧ slots ≤ room_1.slots) (hI : Step_say Inv) {σ τ : St} (hσ : CanS (shC b) (NC b) σ) (hτ : CanS shR NR τ) (h0 : Inv b σ τ) {i : Int} (hi : 0 ≤ i ∧ i + 6 ≤ (L : Int)) (kk : ∀ σ1 τ1, CanS (shC b) (NC b) σ1 → CanS shR NR τ1 → Inv b σ1 τ1 → GL p l e s m args below meth c D cA adC adR b cells slots Q σ1 τ1 1464 [some (.ref bq), some (.ref (adC 0)), some (.ref (adR 0)), some (vI i)] []) : GL p l e s m args below meth c D cA adC adR b cells slots Q σ τ 314 [some (.ref bq), some (.ref (adC 0)), some (.ref (adR 0)), some (vI i)] [] := by
  have h := hI b σ τ h0  
  refine l_aload_1 E dL_314 ?_
  refine l_callCI E hAp my_X11_say mi_X11_say msel_X11_say mlL_32 (by decide) hcs (kC_0 b) (sC_0 b) rfl (m_X11_say hAp.1  hσ h) rfl rfl (Nat.le_of_ble_eq_true rfl) dL_315 (fun r1 σ1 cr1 hσ1 h => ?_)
  refine l_aload_2 E dL_318 ?_
  refine l_callRI E hAp my_X12_say mi_X12_say msel_X12_say mlL_35 (by decide) hcs kR_0 sR_0 rfl (m_X12_say hAp.2.1  hτ h) rfl rfl (Nat.le_of_ble_eq_true rfl) dL_319 (fun r2 τ1 cr2 hτ1 h => ?_)
  obtain ⟨e1, h1⟩ := h
  exact l_icmp_eq E cr1 cr2 djL_322 (fun _ => kk σ1 τ1 hσ1 hτ1 h1) (fun hc => absurd e1 hc)
set_option maxHeartbeats 2000000 in
theorem lc_count (E : EvL p s m args meth c D cA Z bq L xs) {b : Bool} (hAp : Ap s adC adR b) (hcs : cells ≤ room_1.cells ∧ slots ≤ room_1.slots) (hI : Step_count Inv) {σ τ : St} (hσ : CanS (shC b) (NC b) σ) (hτ : CanS shR NR τ) (h0 : Inv b σ τ) {i : Int} (hi : 0 ≤ i ∧ i + 6 ≤ (L : Int)) (kk : ∀ σ1 τ1, CanS (shC b) (NC b) σ1 → CanS shR NR τ1 → Inv b σ1 τ1 → GL p l e s m args below meth c D cA adC adR b cells slots Q σ1 τ1 1464 [some (.ref bq), some (.ref (adC 0)), some (.ref (adR 0)), some (vI i)] []) : GL p l e s m args below meth c D cA adC adR b cells slots Q σ τ 327 [some (.ref bq), some (.ref (adC 0)), some (.ref (adR 0)), some (vI i)] [] := by
  have h := hI b σ τ h0 (XI xs (i + 1).toNat) (c32_t _)
  refine l_aload_1 E dL_327 ?_
  refine l_arg E hi (by decide) dL_328 dL_329 dL_330 dL_331 dL_332 ?_
  refine l_callCI E hAp my_X11_count mi_X11_count msel_X11_count mlL_36 (by decide) hcs (kC_0 b) (sC_0 b) rfl (m_X11_count hAp.1 (c32_t _) hσ h) rfl rfl (Nat.le_of_ble_eq_true rfl) dL_333 (fun r1 σ1 cr1 hσ1 h => ?_)
  refine l_aload_2 E dL_336 ?_
  refine l_arg E hi (by decide) dL_337 dL_338 dL_339 dL_340 dL_341 ?_
  refine l_callRI E hAp my_X12_count mi_X12_count msel_X12_count mlL_39 (by decide) hcs kR_0 sR_0 rfl (m_X12_count hAp.2.1 (c32_t _) hτ h) rfl rfl (Nat.le_of_ble_eq_true rfl) dL_342 (fun r2 τ1 cr2 hτ1 h => ?_)
  obtain ⟨e1, h1⟩ := h
  exact l_icmp_eq E cr1 cr2 djL_345 (fun _ => kk σ1 τ1 hσ1 hτ1 h1) (fun hc => absurd e1 hc)
set_option maxHeartbeats 2000000 in
theorem lc_rule (E : EvL p s m args meth c D cA Z bq L xs) {b : Bool} (hAp : Ap s adC adR b) (hcs : cells ≤ room_1.cells ∧ slots ≤ room_1.slots) (hI : Step_rule Inv) {σ τ : St} (hσ : CanS (shC b) (NC b) σ) (hτ : CanS shR NR τ) (h0 : Inv b σ τ) {i : Int} (hi : 0 ≤ i ∧ i + 6 ≤ (L : Int)) (kk : ∀ σ1 τ1, CanS (shC b) (NC b) σ1 → CanS shR NR τ1 → Inv b σ1 τ1 → GL p l e s m args below meth c D cA adC adR b cells slots Q σ1 τ1 1464 [some (.ref bq), some (.ref (adC 0)), some (.ref (adR 0)), some (vI i)] []) : GL p l e s m args below meth c D cA adC adR b cells slots Q σ τ 350 [some (.ref bq), some (.ref (adC 0)), some (.ref (adR 0)), some (vI i)] [] := by
  have h := hI b σ τ h0 (XI xs (i + 1).toNat) (XI xs (i + 2).toNat) (c32_t _) (c32_t _)
  refine l_aload_1 E dL_350 ?_
  refine l_arg E hi (by decide) dL_351 dL_352 dL_353 dL_354 dL_355 ?_
  refine l_arg E hi (by decide) dL_356 dL_357 dL_358 dL_359 dL_360 ?_
  refine l_callCI E hAp my_X11_rule mi_X11_rule msel_X11_rule mlL_40 (by decide) hcs (kC_0 b) (sC_0 b) rfl (m_X11_rule hAp.1 (c32_t _) (c32_t _) hσ h) rfl rfl (Nat.le_of_ble_eq_true rfl) dL_361 (fun r1 σ1 cr1 hσ1 h => ?_)
  refine l_aload_2 E dL_364 ?_
  refine l_arg E hi (by decide) dL_365 dL_366 dL_367 dL_368 dL_369 ?_
  refine l_arg E hi (by decide) dL_370 dL_371 dL_372 dL_373 dL_374 ?_
  refine l_callRI E hAp my_X12_rule mi_X12_rule msel_X12_rule mlL_44 (by decide) hcs kR_0 sR_0 rfl (m_X12_rule hAp.2.1 (c32_t _) (c32_t _) hτ h) rfl rfl (Nat.le_of_ble_eq_true rfl) dL_375 (fun r2 τ1 cr2 hτ1 h => ?_)
  obtain ⟨e1, h1⟩ := h
  exact l_icmp_eq E cr1 cr2 djL_378 (fun _ => kk σ1 τ1 hσ1 hτ1 h1) (fun hc => absurd e1 hc)
set_option maxHeartbeats 2000000 in
theorem lc_table (E : EvL p s m args meth c D cA Z bq L xs) {b : Bool} (hAp : Ap s adC adR b) (hcs : cells ≤ room_1.cells ∧ slots ≤ room_1.slots) (hI : Step_table Inv) {σ τ : St} (hσ : CanS (shC b) (NC b) σ) (hτ : CanS shR NR τ) (h0 : Inv b σ τ) {i : Int} (hi : 0 ≤ i ∧ i + 6 ≤ (L : Int)) (kk : ∀ σ1 τ1, CanS (shC b) (NC b) σ1 → CanS shR NR τ1 → Inv b σ1 τ1 → GL p l e s m args below meth c D cA adC adR b cells slots Q σ1 τ1 1464 [some (.ref bq), some (.ref (adC 0)), some (.ref (adR 0)), some (vI i)] []) : GL p l e s m args below meth c D cA adC adR b cells slots Q σ τ 383 [some (.ref bq), some (.ref (adC 0)), some (.ref (adR 0)), some (vI i)] [] := by
  have h := hI b σ τ h0 (XI xs (i + 1).toNat) (XI xs (i + 2).toNat) (XI xs (i + 3).toNat) (c32_t _) (c32_t _) (c32_t _)
  refine l_aload_1 E dL_383 ?_
  refine l_arg E hi (by decide) dL_384 dL_385 dL_386 dL_387 dL_388 ?_
  refine l_arg E hi (by decide) dL_389 dL_390 dL_391 dL_392 dL_393 ?_
  refine l_arg E hi (by decide) dL_394 dL_395 dL_396 dL_397 dL_398 ?_
  refine l_callCI E hAp my_X11_table mi_X11_table msel_X11_table mlL_45 (by decide) hcs (kC_0 b) (sC_0 b) rfl (m_X11_table hAp.1 (c32_t _) (c32_t _) (c32_t _) hσ h) rfl rfl (Nat.le_of_ble_eq_true rfl) dL_399 (fun r1 σ1 cr1 hσ1 h => ?_)
  refine l_aload_2 E dL_402 ?_
  refine l_arg E hi (by decide) dL_403 dL_404 dL_405 dL_406 dL_407 ?_
  refine l_arg E hi (by decide) dL_408 dL_409 dL_410 dL_411 dL_412 ?_
  refine l_arg E hi (by decide) dL_413 dL_414 dL_415 dL_416 dL_417 ?_
  refine l_callRI E hAp my_X12_table mi_X12_table msel_X12_table mlL_49 (by decide) hcs kR_0 sR_0 rfl (m_X12_table hAp.2.1 (c32_t _) (c32_t _) (c32_t _) hτ h) rfl rfl (Nat.le_of_ble_eq_true rfl) dL_418 (fun r2 τ1 cr2 hτ1 h => ?_)
  obtain ⟨e1, h1⟩ := h
  exact l_icmp_eq E cr1 cr2 djL_421 (fun _ => kk σ1 τ1 hσ1 hτ1 h1) (fun hc => absurd e1 hc)
set_option maxHeartbeats 2000000 in
theorem lc_drops (E : EvL p s m args meth c D cA Z bq L xs) {b : Bool} (hAp : Ap s adC adR b) (hcs : cells ≤ room_1.cells ∧ slots ≤ room_1.slots) (hI : Step_drops Inv) {σ τ : St} (hσ : CanS (shC b) (NC b) σ) (hτ : CanS shR NR τ) (h0 : Inv b σ τ) {i : Int} (hi : 0 ≤ i ∧ i + 6 ≤ (L : Int)) (kk : ∀ σ1 τ1, CanS (shC b) (NC b) σ1 → CanS shR NR τ1 → Inv b σ1 τ1 → GL p l e s m args below meth c D cA adC adR b cells slots Q σ1 τ1 1464 [some (.ref bq), some (.ref (adC 0)), some (.ref (adR 0)), some (vI i)] []) : GL p l e s m args below meth c D cA adC adR b cells slots Q σ τ 426 [some (.ref bq), some (.ref (adC 0)), some (.ref (adR 0)), some (vI i)] [] := by
  have h := hI b σ τ h0 (XI xs (i + 1).toNat) (XI xs (i + 2).toNat) (c32_t _) (c32_t _)
  refine l_aload_1 E dL_426 ?_
  refine l_arg E hi (by decide) dL_427 dL_428 dL_429 dL_430 dL_431 ?_
  refine l_arg E hi (by decide) dL_432 dL_433 dL_434 dL_435 dL_436 ?_
  refine l_callCI E hAp my_X11_drops mi_X11_drops msel_X11_drops mlL_50 (by decide) hcs (kC_0 b) (sC_0 b) rfl (m_X11_drops hAp.1 (c32_t _) (c32_t _) hσ h) rfl rfl (Nat.le_of_ble_eq_true rfl) dL_437 (fun r1 σ1 cr1 hσ1 h => ?_)
  refine l_aload_2 E dL_440 ?_
  refine l_arg E hi (by decide) dL_441 dL_442 dL_443 dL_444 dL_445 ?_
  refine l_arg E hi (by decide) dL_446 dL_447 dL_448 dL_449 dL_450 ?_
  refine l_callRI E hAp my_X12_drops mi_X12_drops msel_X12_drops mlL_53 (by decide) hcs kR_0 sR_0 rfl (m_X12_drops hAp.2.1 (c32_t _) (c32_t _) hτ h) rfl rfl (Nat.le_of_ble_eq_true rfl) dL_451 (fun r2 τ1 cr2 hτ1 h => ?_)
  obtain ⟨e1, h1⟩ := h
  exact l_icmp_eq E cr1 cr2 djL_454 (fun _ => kk σ1 τ1 hσ1 hτ1 h1) (fun hc => absurd e1 hc)
set_option maxHeartbeats 2000000 in
theorem lc_prices (E : EvL p s m args meth c D cA Z bq L xs) {b : Bool} (hAp : Ap s adC adR b) (hcs : cells ≤ room_1.cells ∧ slots ≤ room_1.slots) (hI : Step_prices Inv) {σ τ : St} (hσ : CanS (shC b) (NC b) σ) (hτ : CanS shR NR τ) (h0 : Inv b σ τ) {i : Int} (hi : 0 ≤ i ∧ i + 6 ≤ (L : Int)) (kk : ∀ σ1 τ1, CanS (shC b) (NC b) σ1 → CanS shR NR τ1 → Inv b σ1 τ1 → GL p l e s m args below meth c D cA adC adR b cells slots Q σ1 τ1 1464 [some (.ref bq), some (.ref (adC 0)), some (.ref (adR 0)), some (vI i)] []) : GL p l e s m args below meth c D cA adC adR b cells slots Q σ τ 459 [some (.ref bq), some (.ref (adC 0)), some (.ref (adR 0)), some (vI i)] [] := by
  have h := hI b σ τ h0 (XI xs (i + 1).toNat) (XI xs (i + 2).toNat) (c32_t _) (c32_t _)
  refine l_aload_1 E dL_459 ?_
  refine l_arg E hi (by decide) dL_460 dL_461 dL_462 dL_463 dL_464 ?_
  refine l_arg E hi (by decide) dL_465 dL_466 dL_467 dL_468 dL_469 ?_
  refine l_callCI E hAp my_X11_prices mi_X11_prices msel_X11_prices mlL_54 (by decide) hcs (kC_0 b) (sC_0 b) rfl (m_X11_prices hAp.1 (c32_t _) (c32_t _) hσ h) rfl rfl (Nat.le_of_ble_eq_true rfl) dL_470 (fun r1 σ1 cr1 hσ1 h => ?_)
  refine l_aload_2 E dL_473 ?_
  refine l_arg E hi (by decide) dL_474 dL_475 dL_476 dL_477 dL_478 ?_
  refine l_arg E hi (by decide) dL_479 dL_480 dL_481 dL_482 dL_483 ?_
  refine l_callRI E hAp my_X12_prices mi_X12_prices msel_X12_prices mlL_57 (by decide) hcs kR_0 sR_0 rfl (m_X12_prices hAp.2.1 (c32_t _) (c32_t _) hτ h) rfl rfl (Nat.le_of_ble_eq_true rfl) dL_484 (fun r2 τ1 cr2 hτ1 h => ?_)
  obtain ⟨e1, h1⟩ := h
  exact l_icmp_eq E cr1 cr2 djL_487 (fun _ => kk σ1 τ1 hσ1 hτ1 h1) (fun hc => absurd e1 hc)
set_option maxHeartbeats 2000000 in
theorem lc_elements (E : EvL p s m args meth c D cA Z bq L xs) {b : Bool} (hAp : Ap s adC adR b) (hcs : cells ≤ room_1.cells ∧ slots ≤ room_1.slots) (hI : Step_elements Inv) {σ τ : St} (hσ : CanS (shC b) (NC b) σ) (hτ : CanS shR NR τ) (h0 : Inv b σ τ) {i : Int} (hi : 0 ≤ i ∧ i + 6 ≤ (L : Int)) (kk : ∀ σ1 τ1, CanS (shC b) (NC b) σ1 → CanS shR NR τ1 → Inv b σ1 τ1 → GL p l e s m args below meth c D cA adC adR b cells slots Q σ1 τ1 1464 [some (.ref bq), some (.ref (adC 0)), some (.ref (adR 0)), some (vI i)] []) : GL p l e s m args below meth c D cA adC adR b cells slots Q σ τ 492 [some (.ref bq), some (.ref (adC 0)), some (.ref (adR 0)), some (vI i)] [] := by
  have h := hI b σ τ h0 (XI xs (i + 1).toNat) (XI xs (i + 2).toNat) (c32_t _) (c32_t _)
  refine l_aload_1 E dL_492 ?_
  refine l_arg E hi (by decide) dL_493 dL_494 dL_495 dL_496 dL_497 ?_
  refine l_arg E hi (by decide) dL_498 dL_499 dL_500 dL_501 dL_502 ?_
  refine l_callCI E hAp my_X11_elements mi_X11_elements msel_X11_elements mlL_58 (by decide) hcs (kC_0 b) (sC_0 b) rfl (m_X11_elements hAp.1 (c32_t _) (c32_t _) hσ h) rfl rfl (Nat.le_of_ble_eq_true rfl) dL_503 (fun r1 σ1 cr1 hσ1 h => ?_)
  refine l_aload_2 E dL_506 ?_
  refine l_arg E hi (by decide) dL_507 dL_508 dL_509 dL_510 dL_511 ?_
  refine l_arg E hi (by decide) dL_512 dL_513 dL_514 dL_515 dL_516 ?_
  refine l_callRI E hAp my_X12_elements mi_X12_elements msel_X12_elements mlL_61 (by decide) hcs kR_0 sR_0 rfl (m_X12_elements hAp.2.1 (c32_t _) (c32_t _) hτ h) rfl rfl (Nat.le_of_ble_eq_true rfl) dL_517 (fun r2 τ1 cr2 hτ1 h => ?_)
  obtain ⟨e1, h1⟩ := h
  exact l_icmp_eq E cr1 cr2 djL_520 (fun _ => kk σ1 τ1 hσ1 hτ1 h1) (fun hc => absurd e1 hc)
set_option maxHeartbeats 2000000 in
theorem lc_can (E : EvL p s m args meth c D cA Z bq L xs) {b : Bool} (hAp : Ap s adC adR b) (hcs : cells ≤ room_1.cells ∧ slots ≤ room_1.slots) (hI : Step_can Inv) {σ τ : St} (hσ : CanS (shC b) (NC b) σ) (hτ : CanS shR NR τ) (h0 : Inv b σ τ) {i : Int} (hi : 0 ≤ i ∧ i + 6 ≤ (L : Int)) (kk : ∀ σ1 τ1, CanS (shC b) (NC b) σ1 → CanS shR NR τ1 → Inv b σ1 τ1 → GL p l e s m args below meth c D cA adC adR b cells slots Q σ1 τ1 1464 [some (.ref bq), some (.ref (adC 0)), some (.ref (adR 0)), some (vI i)] []) : GL p l e s m args below meth c D cA adC adR b cells slots Q σ τ 525 [some (.ref bq), some (.ref (adC 0)), some (.ref (adR 0)), some (vI i)] [] := by
  have h := hI b σ τ h0 (XI xs (i + 1).toNat) (XI xs (i + 2).toNat) (XI xs (i + 3).toNat) (c32_t _) (c32_t _) (c32_t _)
  refine l_aload_1 E dL_525 ?_
  refine l_arg E hi (by decide) dL_526 dL_527 dL_528 dL_529 dL_530 ?_
  refine l_arg E hi (by decide) dL_531 dL_532 dL_533 dL_534 dL_535 ?_
  refine l_arg E hi (by decide) dL_536 dL_537 dL_538 dL_539 dL_540 ?_
  refine l_callCI E hAp my_X11_can mi_X11_can msel_X11_can mlL_62 (by decide) hcs (kC_0 b) (sC_0 b) rfl (m_X11_can hAp.1 (c32_t _) (c32_t _) (c32_t _) hσ h) rfl rfl (Nat.le_of_ble_eq_true rfl) dL_541 (fun r1 σ1 cr1 hσ1 h => ?_)
  refine l_aload_2 E dL_544 ?_
  refine l_arg E hi (by decide) dL_545 dL_546 dL_547 dL_548 dL_549 ?_
  refine l_arg E hi (by decide) dL_550 dL_551 dL_552 dL_553 dL_554 ?_
  refine l_arg E hi (by decide) dL_555 dL_556 dL_557 dL_558 dL_559 ?_
  refine l_callRI E hAp my_X12_can mi_X12_can msel_X12_can mlL_65 (by decide) hcs kR_0 sR_0 rfl (m_X12_can hAp.2.1 (c32_t _) (c32_t _) (c32_t _) hτ h) rfl rfl (Nat.le_of_ble_eq_true rfl) dL_560 (fun r2 τ1 cr2 hτ1 h => ?_)
  obtain ⟨e1, h1⟩ := h
  exact l_icmp_eq E cr1 cr2 djL_563 (fun _ => kk σ1 τ1 hσ1 hτ1 h1) (fun hc => absurd e1 hc)
set_option maxHeartbeats 2000000 in
theorem lc_least (E : EvL p s m args meth c D cA Z bq L xs) {b : Bool} (hAp : Ap s adC adR b) (hcs : cells ≤ room_1.cells ∧ slots ≤ room_1.slots) (hI : Step_least Inv) {σ τ : St} (hσ : CanS (shC b) (NC b) σ) (hτ : CanS shR NR τ) (h0 : Inv b σ τ) {i : Int} (hi : 0 ≤ i ∧ i + 6 ≤ (L : Int)) (kk : ∀ σ1 τ1, CanS (shC b) (NC b) σ1 → CanS shR NR τ1 → Inv b σ1 τ1 → GL p l e s m args below meth c D cA adC adR b cells slots Q σ1 τ1 1464 [some (.ref bq), some (.ref (adC 0)), some (.ref (adR 0)), some (vI i)] []) : GL p l e s m args below meth c D cA adC adR b cells slots Q σ τ 568 [some (.ref bq), some (.ref (adC 0)), some (.ref (adR 0)), some (vI i)] [] := by
  have h := hI b σ τ h0 (XI xs (i + 1).toNat) (XI xs (i + 2).toNat) (XI xs (i + 3).toNat) (c32_t _) (c32_t _) (c32_t _)
  refine l_aload_1 E dL_568 ?_
  refine l_arg E hi (by decide) dL_569 dL_570 dL_571 dL_572 dL_573 ?_
  refine l_arg E hi (by decide) dL_574 dL_575 dL_576 dL_577 dL_578 ?_
  refine l_arg E hi (by decide) dL_579 dL_580 dL_581 dL_582 dL_583 ?_
  refine l_callCI E hAp my_X11_least mi_X11_least msel_X11_least mlL_66 (by decide) hcs (kC_0 b) (sC_0 b) rfl (m_X11_least hAp.1 (c32_t _) (c32_t _) (c32_t _) hσ h) rfl rfl (Nat.le_of_ble_eq_true rfl) dL_584 (fun r1 σ1 cr1 hσ1 h => ?_)
  refine l_aload_2 E dL_587 ?_
  refine l_arg E hi (by decide) dL_588 dL_589 dL_590 dL_591 dL_592 ?_
  refine l_arg E hi (by decide) dL_593 dL_594 dL_595 dL_596 dL_597 ?_
  refine l_arg E hi (by decide) dL_598 dL_599 dL_600 dL_601 dL_602 ?_
  refine l_callRI E hAp my_X12_least mi_X12_least msel_X12_least mlL_69 (by decide) hcs kR_0 sR_0 rfl (m_X12_least hAp.2.1 (c32_t _) (c32_t _) (c32_t _) hτ h) rfl rfl (Nat.le_of_ble_eq_true rfl) dL_603 (fun r2 τ1 cr2 hτ1 h => ?_)
  obtain ⟨e1, h1⟩ := h
  exact l_icmp_eq E cr1 cr2 djL_606 (fun _ => kk σ1 τ1 hσ1 hτ1 h1) (fun hc => absurd e1 hc)
set_option maxHeartbeats 2000000 in
theorem lc_ways (E : EvL p s m args meth c D cA Z bq L xs) {b : Bool} (hAp : Ap s adC adR b) (hcs : cells ≤ room_1.cells ∧ slots ≤ room_1.slots) (hI : Step_ways Inv) {σ τ : St} (hσ : CanS (shC b) (NC b) σ) (hτ : CanS shR NR τ) (h0 : Inv b σ τ) {i : Int} (hi : 0 ≤ i ∧ i + 6 ≤ (L : Int)) (kk : ∀ σ1 τ1, CanS (shC b) (NC b) σ1 → CanS shR NR τ1 → Inv b σ1 τ1 → GL p l e s m args below meth c D cA adC adR b cells slots Q σ1 τ1 1464 [some (.ref bq), some (.ref (adC 0)), some (.ref (adR 0)), some (vI i)] []) : GL p l e s m args below meth c D cA adC adR b cells slots Q σ τ 611 [some (.ref bq), some (.ref (adC 0)), some (.ref (adR 0)), some (vI i)] [] := by
  have h := hI b σ τ h0 (XI xs (i + 1).toNat) (XI xs (i + 2).toNat) (XI xs (i + 3).toNat) (c32_t _) (c32_t _) (c32_t _)
  refine l_aload_1 E dL_611 ?_
  refine l_arg E hi (by decide) dL_612 dL_613 dL_614 dL_615 dL_616 ?_
  refine l_arg E hi (by decide) dL_617 dL_618 dL_619 dL_620 dL_621 ?_
  refine l_arg E hi (by decide) dL_622 dL_623 dL_624 dL_625 dL_626 ?_
  refine l_callCL E hAp my_X11_ways mi_X11_ways msel_X11_ways mlL_70 (by decide) hcs (kC_0 b) (sC_0 b) rfl (m_X11_ways hAp.1 (c32_t _) (c32_t _) (c32_t _) hσ h) rfl rfl (Nat.le_of_ble_eq_true rfl) dL_627 (fun r1 σ1 cr1 hσ1 h => ?_)
  refine l_aload_2 E dL_630 ?_
  refine l_arg E hi (by decide) dL_631 dL_632 dL_633 dL_634 dL_635 ?_
  refine l_arg E hi (by decide) dL_636 dL_637 dL_638 dL_639 dL_640 ?_
  refine l_arg E hi (by decide) dL_641 dL_642 dL_643 dL_644 dL_645 ?_
  refine l_callRL E hAp my_X12_ways mi_X12_ways msel_X12_ways mlL_74 (by decide) hcs kR_0 sR_0 rfl (m_X12_ways hAp.2.1 (c32_t _) (c32_t _) (c32_t _) hτ h) rfl rfl (Nat.le_of_ble_eq_true rfl) dL_646 (fun r2 τ1 cr2 hτ1 h => ?_)
  obtain ⟨e1, h1⟩ := h
  exact l_lcmp_eq E cr1 e1 dL_649 djL_650 (kk σ1 τ1 hσ1 hτ1 h1)
set_option maxHeartbeats 2000000 in
theorem lc_dearest (E : EvL p s m args meth c D cA Z bq L xs) {b : Bool} (hAp : Ap s adC adR b) (hcs : cells ≤ room_1.cells ∧ slots ≤ room_1.slots) (hI : Step_dearest Inv) {σ τ : St} (hσ : CanS (shC b) (NC b) σ) (hτ : CanS shR NR τ) (h0 : Inv b σ τ) {i : Int} (hi : 0 ≤ i ∧ i + 6 ≤ (L : Int)) (kk : ∀ σ1 τ1, CanS (shC b) (NC b) σ1 → CanS shR NR τ1 → Inv b σ1 τ1 → GL p l e s m args below meth c D cA adC adR b cells slots Q σ1 τ1 1464 [some (.ref bq), some (.ref (adC 0)), some (.ref (adR 0)), some (vI i)] []) : GL p l e s m args below meth c D cA adC adR b cells slots Q σ τ 655 [some (.ref bq), some (.ref (adC 0)), some (.ref (adR 0)), some (vI i)] [] := by
  have h := hI b σ τ h0 (XI xs (i + 1).toNat) (XI xs (i + 2).toNat) (XI xs (i + 3).toNat) (c32_t _) (c32_t _) (c32_t _)
  refine l_aload_1 E dL_655 ?_
  refine l_arg E hi (by decide) dL_656 dL_657 dL_658 dL_659 dL_660 ?_
  refine l_arg E hi (by decide) dL_661 dL_662 dL_663 dL_664 dL_665 ?_
  refine l_arg E hi (by decide) dL_666 dL_667 dL_668 dL_669 dL_670 ?_
  refine l_callCI E hAp my_X11_dearest mi_X11_dearest msel_X11_dearest mlL_75 (by decide) hcs (kC_0 b) (sC_0 b) rfl (m_X11_dearest hAp.1 (c32_t _) (c32_t _) (c32_t _) hσ h) rfl rfl (Nat.le_of_ble_eq_true rfl) dL_671 (fun r1 σ1 cr1 hσ1 h => ?_)
  refine l_aload_2 E dL_674 ?_
  refine l_arg E hi (by decide) dL_675 dL_676 dL_677 dL_678 dL_679 ?_
  refine l_arg E hi (by decide) dL_680 dL_681 dL_682 dL_683 dL_684 ?_
  refine l_arg E hi (by decide) dL_685 dL_686 dL_687 dL_688 dL_689 ?_
  refine l_callRI E hAp my_X12_dearest mi_X12_dearest msel_X12_dearest mlL_78 (by decide) hcs kR_0 sR_0 rfl (m_X12_dearest hAp.2.1 (c32_t _) (c32_t _) (c32_t _) hτ h) rfl rfl (Nat.le_of_ble_eq_true rfl) dL_690 (fun r2 τ1 cr2 hτ1 h => ?_)
  obtain ⟨e1, h1⟩ := h
  exact l_icmp_eq E cr1 cr2 djL_693 (fun _ => kk σ1 τ1 hσ1 hτ1 h1) (fun hc => absurd e1 hc)
set_option maxHeartbeats 2000000 in
theorem lc_used (E : EvL p s m args meth c D cA Z bq L xs) {b : Bool} (hAp : Ap s adC adR b) (hcs : cells ≤ room_1.cells ∧ slots ≤ room_1.slots) (hI : Step_used Inv) {σ τ : St} (hσ : CanS (shC b) (NC b) σ) (hτ : CanS shR NR τ) (h0 : Inv b σ τ) {i : Int} (hi : 0 ≤ i ∧ i + 6 ≤ (L : Int)) (kk : ∀ σ1 τ1, CanS (shC b) (NC b) σ1 → CanS shR NR τ1 → Inv b σ1 τ1 → GL p l e s m args below meth c D cA adC adR b cells slots Q σ1 τ1 1464 [some (.ref bq), some (.ref (adC 0)), some (.ref (adR 0)), some (vI i)] []) : GL p l e s m args below meth c D cA adC adR b cells slots Q σ τ 698 [some (.ref bq), some (.ref (adC 0)), some (.ref (adR 0)), some (vI i)] [] := by
  have h := hI b σ τ h0 (XI xs (i + 1).toNat) (XI xs (i + 2).toNat) (XI xs (i + 3).toNat) (XI xs (i + 4).toNat) (c32_t _) (c32_t _) (c32_t _) (c32_t _)
  refine l_aload_1 E dL_698 ?_
  refine l_arg E hi (by decide) dL_699 dL_700 dL_701 dL_702 dL_703 ?_
  refine l_arg E hi (by decide) dL_704 dL_705 dL_706 dL_707 dL_708 ?_
  refine l_arg E hi (by decide) dL_709 dL_710 dL_711 dL_712 dL_713 ?_
  refine l_arg E hi (by decide) dL_714 dL_715 dL_716 dL_717 dL_718 ?_
  refine l_callCL E hAp my_X11_used mi_X11_used msel_X11_used mlL_79 (by decide) hcs (kC_0 b) (sC_0 b) rfl (m_X11_used hAp.1 (c32_t _) (c32_t _) (c32_t _) (c32_t _) hσ h) rfl rfl (Nat.le_of_ble_eq_true rfl) dL_719 (fun r1 σ1 cr1 hσ1 h => ?_)
  refine l_aload_2 E dL_722 ?_
  refine l_arg E hi (by decide) dL_723 dL_724 dL_725 dL_726 dL_727 ?_
  refine l_arg E hi (by decide) dL_728 dL_729 dL_730 dL_731 dL_732 ?_
  refine l_arg E hi (by decide) dL_733 dL_734 dL_735 dL_736 dL_737 ?_
  refine l_arg E hi (by decide) dL_738 dL_739 dL_740 dL_741 dL_742 ?_
  refine l_callRL E hAp my_X12_used mi_X12_used msel_X12_used mlL_83 (by decide) hcs kR_0 sR_0 rfl (m_X12_used hAp.2.1 (c32_t _) (c32_t _) (c32_t _) (c32_t _) hτ h) rfl rfl (Nat.le_of_ble_eq_true rfl) dL_743 (fun r2 τ1 cr2 hτ1 h => ?_)
  obtain ⟨e1, h1⟩ := h
  exact l_lcmp_eq E cr1 e1 dL_746 djL_747 (kk σ1 τ1 hσ1 hτ1 h1)
set_option maxHeartbeats 2000000 in
theorem lc_sum (E : EvL p s m args meth c D cA Z bq L xs) {b : Bool} (hAp : Ap s adC adR b) (hcs : cells ≤ room_1.cells ∧ slots ≤ room_1.slots) (hI : Step_sum Inv) {σ τ : St} (hσ : CanS (shC b) (NC b) σ) (hτ : CanS shR NR τ) (h0 : Inv b σ τ) {i : Int} (hi : 0 ≤ i ∧ i + 6 ≤ (L : Int)) (kk : ∀ σ1 τ1, CanS (shC b) (NC b) σ1 → CanS shR NR τ1 → Inv b σ1 τ1 → GL p l e s m args below meth c D cA adC adR b cells slots Q σ1 τ1 1464 [some (.ref bq), some (.ref (adC 0)), some (.ref (adR 0)), some (vI i)] []) : GL p l e s m args below meth c D cA adC adR b cells slots Q σ τ 752 [some (.ref bq), some (.ref (adC 0)), some (.ref (adR 0)), some (vI i)] [] := by
  have h := hI b σ τ h0 (XI xs (i + 1).toNat) (XI xs (i + 2).toNat) (XI xs (i + 3).toNat) (c32_t _) (c32_t _) (c32_t _)
  refine l_aload_1 E dL_752 ?_
  refine l_arg E hi (by decide) dL_753 dL_754 dL_755 dL_756 dL_757 ?_
  refine l_arg E hi (by decide) dL_758 dL_759 dL_760 dL_761 dL_762 ?_
  refine l_arg E hi (by decide) dL_763 dL_764 dL_765 dL_766 dL_767 ?_
  refine l_callCI E hAp my_X11_sum mi_X11_sum msel_X11_sum mlL_84 (by decide) hcs (kC_0 b) (sC_0 b) rfl (m_X11_sum hAp.1 (c32_t _) (c32_t _) (c32_t _) hσ h) rfl rfl (Nat.le_of_ble_eq_true rfl) dL_768 (fun r1 σ1 cr1 hσ1 h => ?_)
  refine l_aload_2 E dL_771 ?_
  refine l_arg E hi (by decide) dL_772 dL_773 dL_774 dL_775 dL_776 ?_
  refine l_arg E hi (by decide) dL_777 dL_778 dL_779 dL_780 dL_781 ?_
  refine l_arg E hi (by decide) dL_782 dL_783 dL_784 dL_785 dL_786 ?_
  refine l_callRI E hAp my_X12_sum mi_X12_sum msel_X12_sum mlL_87 (by decide) hcs kR_0 sR_0 rfl (m_X12_sum hAp.2.1 (c32_t _) (c32_t _) (c32_t _) hτ h) rfl rfl (Nat.le_of_ble_eq_true rfl) dL_787 (fun r2 τ1 cr2 hτ1 h => ?_)
  obtain ⟨e1, h1⟩ := h
  exact l_icmp_eq E cr1 cr2 djL_790 (fun _ => kk σ1 τ1 hσ1 hτ1 h1) (fun hc => absurd e1 hc)
set_option maxHeartbeats 2000000 in
theorem lc_value (E : EvL p s m args meth c D cA Z bq L xs) {b : Bool} (hAp : Ap s adC adR b) (hcs : cells ≤ room_1.cells ∧ slots ≤ room_1.slots) (hI : Step_value Inv) {σ τ : St} (hσ : CanS (shC b) (NC b) σ) (hτ : CanS shR NR τ) (h0 : Inv b σ τ) {i : Int} (hi : 0 ≤ i ∧ i + 6 ≤ (L : Int)) (kk : ∀ σ1 τ1, CanS (shC b) (NC b) σ1 → CanS shR NR τ1 → Inv b σ1 τ1 → GL p l e s m args below meth c D cA adC adR b cells slots Q σ1 τ1 1464 [some (.ref bq), some (.ref (adC 0)), some (.ref (adR 0)), some (vI i)] []) : GL p l e s m args below meth c D cA adC adR b cells slots Q σ τ 795 [some (.ref bq), some (.ref (adC 0)), some (.ref (adR 0)), some (vI i)] [] := by
  have h := hI b σ τ h0 (XI xs (i + 1).toNat) (XI xs (i + 2).toNat) (XI xs (i + 3).toNat) (c32_t _) (c32_t _) (c32_t _)
  refine l_aload_1 E dL_795 ?_
  refine l_arg E hi (by decide) dL_796 dL_797 dL_798 dL_799 dL_800 ?_
  refine l_arg E hi (by decide) dL_801 dL_802 dL_803 dL_804 dL_805 ?_
  refine l_arg E hi (by decide) dL_806 dL_807 dL_808 dL_809 dL_810 ?_
  refine l_callCI E hAp my_X11_value mi_X11_value msel_X11_value mlL_88 (by decide) hcs (kC_0 b) (sC_0 b) rfl (m_X11_value hAp.1 (c32_t _) (c32_t _) (c32_t _) hσ h) rfl rfl (Nat.le_of_ble_eq_true rfl) dL_811 (fun r1 σ1 cr1 hσ1 h => ?_)
  refine l_aload_2 E dL_814 ?_
  refine l_arg E hi (by decide) dL_815 dL_816 dL_817 dL_818 dL_819 ?_
  refine l_arg E hi (by decide) dL_820 dL_821 dL_822 dL_823 dL_824 ?_
  refine l_arg E hi (by decide) dL_825 dL_826 dL_827 dL_828 dL_829 ?_
  refine l_callRI E hAp my_X12_value mi_X12_value msel_X12_value mlL_91 (by decide) hcs kR_0 sR_0 rfl (m_X12_value hAp.2.1 (c32_t _) (c32_t _) (c32_t _) hτ h) rfl rfl (Nat.le_of_ble_eq_true rfl) dL_830 (fun r2 τ1 cr2 hτ1 h => ?_)
  obtain ⟨e1, h1⟩ := h
  exact l_icmp_eq E cr1 cr2 djL_833 (fun _ => kk σ1 τ1 hσ1 hτ1 h1) (fun hc => absurd e1 hc)
set_option maxHeartbeats 2000000 in
theorem lc_rounds (E : EvL p s m args meth c D cA Z bq L xs) {b : Bool} (hAp : Ap s adC adR b) (hcs : cells ≤ room_1.cells ∧ slots ≤ room_1.slots) (hI : Step_rounds Inv) {σ τ : St} (hσ : CanS (shC b) (NC b) σ) (hτ : CanS shR NR τ) (h0 : Inv b σ τ) {i : Int} (hi : 0 ≤ i ∧ i + 6 ≤ (L : Int)) (kk : ∀ σ1 τ1, CanS (shC b) (NC b) σ1 → CanS shR NR τ1 → Inv b σ1 τ1 → GL p l e s m args below meth c D cA adC adR b cells slots Q σ1 τ1 1464 [some (.ref bq), some (.ref (adC 0)), some (.ref (adR 0)), some (vI i)] []) : GL p l e s m args below meth c D cA adC adR b cells slots Q σ τ 838 [some (.ref bq), some (.ref (adC 0)), some (.ref (adR 0)), some (vI i)] [] := by
  have h := hI b σ τ h0  
  refine l_aload_1 E dL_838 ?_
  refine l_callCI E hAp my_X11_rounds mi_X11_rounds msel_X11_rounds mlL_92 (by decide) hcs (kC_0 b) (sC_0 b) rfl (m_X11_rounds hAp.1  hσ h) rfl rfl (Nat.le_of_ble_eq_true rfl) dL_839 (fun r1 σ1 cr1 hσ1 h => ?_)
  refine l_aload_2 E dL_842 ?_
  refine l_callRI E hAp my_X12_rounds mi_X12_rounds msel_X12_rounds mlL_95 (by decide) hcs kR_0 sR_0 rfl (m_X12_rounds hAp.2.1  hτ h) rfl rfl (Nat.le_of_ble_eq_true rfl) dL_843 (fun r2 τ1 cr2 hτ1 h => ?_)
  obtain ⟨e1, h1⟩ := h
  exact l_icmp_eq E cr1 cr2 djL_846 (fun _ => kk σ1 τ1 hσ1 hτ1 h1) (fun hc => absurd e1 hc)
set_option maxHeartbeats 2000000 in
theorem lc_laws (E : EvL p s m args meth c D cA Z bq L xs) {b : Bool} (hAp : Ap s adC adR b) (hcs : cells ≤ room_1.cells ∧ slots ≤ room_1.slots) (hI : Step_laws Inv) {σ τ : St} (hσ : CanS (shC b) (NC b) σ) (hτ : CanS shR NR τ) (h0 : Inv b σ τ) {i : Int} (hi : 0 ≤ i ∧ i + 6 ≤ (L : Int)) (kk : ∀ σ1 τ1, CanS (shC b) (NC b) σ1 → CanS shR NR τ1 → Inv b σ1 τ1 → GL p l e s m args below meth c D cA adC adR b cells slots Q σ1 τ1 1464 [some (.ref bq), some (.ref (adC 0)), some (.ref (adR 0)), some (vI i)] []) : GL p l e s m args below meth c D cA adC adR b cells slots Q σ τ 851 [some (.ref bq), some (.ref (adC 0)), some (.ref (adR 0)), some (vI i)] [] := by
  have h := hI b σ τ h0  
  refine l_aload_1 E dL_851 ?_
  refine l_callCI E hAp my_X11_laws mi_X11_laws msel_X11_laws mlL_96 (by decide) hcs (kC_0 b) (sC_0 b) rfl (m_X11_laws hAp.1  hσ h) rfl rfl (Nat.le_of_ble_eq_true rfl) dL_852 (fun r1 σ1 cr1 hσ1 h => ?_)
  refine l_aload_2 E dL_855 ?_
  refine l_callRI E hAp my_X12_laws mi_X12_laws msel_X12_laws mlL_99 (by decide) hcs kR_0 sR_0 rfl (m_X12_laws hAp.2.1  hτ h) rfl rfl (Nat.le_of_ble_eq_true rfl) dL_856 (fun r2 τ1 cr2 hτ1 h => ?_)
  obtain ⟨e1, h1⟩ := h
  exact l_icmp_eq E cr1 cr2 djL_859 (fun _ => kk σ1 τ1 hσ1 hτ1 h1) (fun hc => absurd e1 hc)
set_option maxHeartbeats 2000000 in
theorem lc_cases (E : EvL p s m args meth c D cA Z bq L xs) {b : Bool} (hAp : Ap s adC adR b) (hcs : cells ≤ room_1.cells ∧ slots ≤ room_1.slots) (hI : Step_cases Inv) {σ τ : St} (hσ : CanS (shC b) (NC b) σ) (hτ : CanS shR NR τ) (h0 : Inv b σ τ) {i : Int} (hi : 0 ≤ i ∧ i + 6 ≤ (L : Int)) (kk : ∀ σ1 τ1, CanS (shC b) (NC b) σ1 → CanS shR NR τ1 → Inv b σ1 τ1 → GL p l e s m args below meth c D cA adC adR b cells slots Q σ1 τ1 1464 [some (.ref bq), some (.ref (adC 0)), some (.ref (adR 0)), some (vI i)] []) : GL p l e s m args below meth c D cA adC adR b cells slots Q σ τ 864 [some (.ref bq), some (.ref (adC 0)), some (.ref (adR 0)), some (vI i)] [] := by
  have h := hI b σ τ h0 (XI xs (i + 1).toNat) (XI xs (i + 2).toNat) (XI xs (i + 3).toNat) (XI xs (i + 4).toNat) (c32_t _) (c32_t _) (c32_t _) (c32_t _)
  refine l_aload_1 E dL_864 ?_
  refine l_arg E hi (by decide) dL_865 dL_866 dL_867 dL_868 dL_869 ?_
  refine l_arg E hi (by decide) dL_870 dL_871 dL_872 dL_873 dL_874 ?_
  refine l_arg E hi (by decide) dL_875 dL_876 dL_877 dL_878 dL_879 ?_
  refine l_arg E hi (by decide) dL_880 dL_881 dL_882 dL_883 dL_884 ?_
  refine l_callCI E hAp my_X11_cases mi_X11_cases msel_X11_cases mlL_100 (by decide) hcs (kC_0 b) (sC_0 b) rfl (m_X11_cases hAp.1 (c32_t _) (c32_t _) (c32_t _) (c32_t _) hσ h) rfl rfl (Nat.le_of_ble_eq_true rfl) dL_885 (fun r1 σ1 cr1 hσ1 h => ?_)
  refine l_aload_2 E dL_888 ?_
  refine l_arg E hi (by decide) dL_889 dL_890 dL_891 dL_892 dL_893 ?_
  refine l_arg E hi (by decide) dL_894 dL_895 dL_896 dL_897 dL_898 ?_
  refine l_arg E hi (by decide) dL_899 dL_900 dL_901 dL_902 dL_903 ?_
  refine l_arg E hi (by decide) dL_904 dL_905 dL_906 dL_907 dL_908 ?_
  refine l_callRI E hAp my_X12_cases mi_X12_cases msel_X12_cases mlL_104 (by decide) hcs kR_0 sR_0 rfl (m_X12_cases hAp.2.1 (c32_t _) (c32_t _) (c32_t _) (c32_t _) hτ h) rfl rfl (Nat.le_of_ble_eq_true rfl) dL_909 (fun r2 τ1 cr2 hτ1 h => ?_)
  obtain ⟨e1, h1⟩ := h
  exact l_icmp_eq E cr1 cr2 djL_912 (fun _ => kk σ1 τ1 hσ1 hτ1 h1) (fun hc => absurd e1 hc)
set_option maxHeartbeats 2000000 in
theorem lc_settled (E : EvL p s m args meth c D cA Z bq L xs) {b : Bool} (hAp : Ap s adC adR b) (hcs : cells ≤ room_1.cells ∧ slots ≤ room_1.slots) (hI : Step_settled Inv) {σ τ : St} (hσ : CanS (shC b) (NC b) σ) (hτ : CanS shR NR τ) (h0 : Inv b σ τ) {i : Int} (hi : 0 ≤ i ∧ i + 6 ≤ (L : Int)) (kk : ∀ σ1 τ1, CanS (shC b) (NC b) σ1 → CanS shR NR τ1 → Inv b σ1 τ1 → GL p l e s m args below meth c D cA adC adR b cells slots Q σ1 τ1 1464 [some (.ref bq), some (.ref (adC 0)), some (.ref (adR 0)), some (vI i)] []) : GL p l e s m args below meth c D cA adC adR b cells slots Q σ τ 917 [some (.ref bq), some (.ref (adC 0)), some (.ref (adR 0)), some (vI i)] [] := by
  have h := hI b σ τ h0 (XI xs (i + 1).toNat) (XI xs (i + 2).toNat) (c32_t _) (c32_t _)
  refine l_aload_1 E dL_917 ?_
  refine l_arg E hi (by decide) dL_918 dL_919 dL_920 dL_921 dL_922 ?_
  refine l_arg E hi (by decide) dL_923 dL_924 dL_925 dL_926 dL_927 ?_
  refine l_callCI E hAp my_X11_settled mi_X11_settled msel_X11_settled mlL_105 (by decide) hcs (kC_0 b) (sC_0 b) rfl (m_X11_settled hAp.1 (c32_t _) (c32_t _) hσ h) rfl rfl (Nat.le_of_ble_eq_true rfl) dL_928 (fun r1 σ1 cr1 hσ1 h => ?_)
  refine l_aload_2 E dL_931 ?_
  refine l_arg E hi (by decide) dL_932 dL_933 dL_934 dL_935 dL_936 ?_
  refine l_arg E hi (by decide) dL_937 dL_938 dL_939 dL_940 dL_941 ?_
  refine l_callRI E hAp my_X12_settled mi_X12_settled msel_X12_settled mlL_108 (by decide) hcs kR_0 sR_0 rfl (m_X12_settled hAp.2.1 (c32_t _) (c32_t _) hτ h) rfl rfl (Nat.le_of_ble_eq_true rfl) dL_942 (fun r2 τ1 cr2 hτ1 h => ?_)
  obtain ⟨e1, h1⟩ := h
  exact l_icmp_eq E cr1 cr2 djL_945 (fun _ => kk σ1 τ1 hσ1 hτ1 h1) (fun hc => absurd e1 hc)
set_option maxHeartbeats 2000000 in
theorem lc_best (E : EvL p s m args meth c D cA Z bq L xs) {b : Bool} (hAp : Ap s adC adR b) (hcs : cells ≤ room_1.cells ∧ slots ≤ room_1.slots) (hI : Step_best Inv) {σ τ : St} (hσ : CanS (shC b) (NC b) σ) (hτ : CanS shR NR τ) (h0 : Inv b σ τ) {i : Int} (hi : 0 ≤ i ∧ i + 6 ≤ (L : Int)) (kk : ∀ σ1 τ1, CanS (shC b) (NC b) σ1 → CanS shR NR τ1 → Inv b σ1 τ1 → GL p l e s m args below meth c D cA adC adR b cells slots Q σ1 τ1 1464 [some (.ref bq), some (.ref (adC 0)), some (.ref (adR 0)), some (vI i)] []) : GL p l e s m args below meth c D cA adC adR b cells slots Q σ τ 950 [some (.ref bq), some (.ref (adC 0)), some (.ref (adR 0)), some (vI i)] [] := by
  have h := hI b σ τ h0 (XI xs (i + 1).toNat) (XI xs (i + 2).toNat) (XI xs (i + 3).toNat) (XI xs (i + 4).toNat) (c32_t _) (c32_t _) (c32_t _) (c32_t _)
  refine l_aload_1 E dL_950 ?_
  refine l_arg E hi (by decide) dL_951 dL_952 dL_953 dL_954 dL_955 ?_
  refine l_arg E hi (by decide) dL_956 dL_957 dL_958 dL_959 dL_960 ?_
  refine l_arg E hi (by decide) dL_961 dL_962 dL_963 dL_964 dL_965 ?_
  refine l_arg E hi (by decide) dL_966 dL_967 dL_968 dL_969 dL_970 ?_
  refine l_callCI E hAp my_X11_best mi_X11_best msel_X11_best mlL_109 (by decide) hcs (kC_0 b) (sC_0 b) rfl (m_X11_best hAp.1 (c32_t _) (c32_t _) (c32_t _) (c32_t _) hσ h) rfl rfl (Nat.le_of_ble_eq_true rfl) dL_971 (fun r1 σ1 cr1 hσ1 h => ?_)
  refine l_aload_2 E dL_974 ?_
  refine l_arg E hi (by decide) dL_975 dL_976 dL_977 dL_978 dL_979 ?_
  refine l_arg E hi (by decide) dL_980 dL_981 dL_982 dL_983 dL_984 ?_
  refine l_arg E hi (by decide) dL_985 dL_986 dL_987 dL_988 dL_989 ?_
  refine l_arg E hi (by decide) dL_990 dL_991 dL_992 dL_993 dL_994 ?_
  refine l_callRI E hAp my_X12_best mi_X12_best msel_X12_best mlL_112 (by decide) hcs kR_0 sR_0 rfl (m_X12_best hAp.2.1 (c32_t _) (c32_t _) (c32_t _) (c32_t _) hτ h) rfl rfl (Nat.le_of_ble_eq_true rfl) dL_995 (fun r2 τ1 cr2 hτ1 h => ?_)
  obtain ⟨e1, h1⟩ := h
  exact l_icmp_eq E cr1 cr2 djL_998 (fun _ => kk σ1 τ1 hσ1 hτ1 h1) (fun hc => absurd e1 hc)
set_option maxHeartbeats 2000000 in
theorem lc_size (E : EvL p s m args meth c D cA Z bq L xs) {b : Bool} (hAp : Ap s adC adR b) (hcs : cells ≤ room_1.cells ∧ slots ≤ room_1.slots) (hI : Step_size Inv) {σ τ : St} (hσ : CanS (shC b) (NC b) σ) (hτ : CanS shR NR τ) (h0 : Inv b σ τ) {i : Int} (hi : 0 ≤ i ∧ i + 6 ≤ (L : Int)) (kk : ∀ σ1 τ1, CanS (shC b) (NC b) σ1 → CanS shR NR τ1 → Inv b σ1 τ1 → GL p l e s m args below meth c D cA adC adR b cells slots Q σ1 τ1 1464 [some (.ref bq), some (.ref (adC 0)), some (.ref (adR 0)), some (vI i)] []) : GL p l e s m args below meth c D cA adC adR b cells slots Q σ τ 1003 [some (.ref bq), some (.ref (adC 0)), some (.ref (adR 0)), some (vI i)] [] := by
  have h := hI b σ τ h0 (XI xs (i + 1).toNat) (XI xs (i + 2).toNat) (XI xs (i + 3).toNat) (XI xs (i + 4).toNat) (XI xs (i + 5).toNat) (c32_t _) (c32_t _) (c32_t _) (c32_t _) (c32_t _)
  refine l_aload_1 E dL_1003 ?_
  refine l_arg E hi (by decide) dL_1004 dL_1005 dL_1006 dL_1007 dL_1008 ?_
  refine l_arg E hi (by decide) dL_1009 dL_1010 dL_1011 dL_1012 dL_1013 ?_
  refine l_arg E hi (by decide) dL_1014 dL_1015 dL_1016 dL_1017 dL_1018 ?_
  refine l_arg E hi (by decide) dL_1019 dL_1020 dL_1021 dL_1022 dL_1023 ?_
  refine l_arg E hi (by decide) dL_1024 dL_1025 dL_1026 dL_1027 dL_1028 ?_
  refine l_callCI E hAp my_X11_size mi_X11_size msel_X11_size mlL_113 (by decide) hcs (kC_0 b) (sC_0 b) rfl (m_X11_size hAp.1 (c32_t _) (c32_t _) (c32_t _) (c32_t _) (c32_t _) hσ h) rfl rfl (Nat.le_of_ble_eq_true rfl) dL_1029 (fun r1 σ1 cr1 hσ1 h => ?_)
  refine l_aload_2 E dL_1032 ?_
  refine l_arg E hi (by decide) dL_1033 dL_1034 dL_1035 dL_1036 dL_1037 ?_
  refine l_arg E hi (by decide) dL_1038 dL_1039 dL_1040 dL_1041 dL_1042 ?_
  refine l_arg E hi (by decide) dL_1043 dL_1044 dL_1045 dL_1046 dL_1047 ?_
  refine l_arg E hi (by decide) dL_1048 dL_1049 dL_1050 dL_1051 dL_1052 ?_
  refine l_arg E hi (by decide) dL_1053 dL_1054 dL_1055 dL_1056 dL_1057 ?_
  refine l_callRI E hAp my_X12_size mi_X12_size msel_X12_size mlL_116 (by decide) hcs kR_0 sR_0 rfl (m_X12_size hAp.2.1 (c32_t _) (c32_t _) (c32_t _) (c32_t _) (c32_t _) hτ h) rfl rfl (Nat.le_of_ble_eq_true rfl) dL_1058 (fun r2 τ1 cr2 hτ1 h => ?_)
  obtain ⟨e1, h1⟩ := h
  exact l_icmp_eq E cr1 cr2 djL_1061 (fun _ => kk σ1 τ1 hσ1 hτ1 h1) (fun hc => absurd e1 hc)
set_option maxHeartbeats 2000000 in
theorem lc_step (E : EvL p s m args meth c D cA Z bq L xs) {b : Bool} (hAp : Ap s adC adR b) (hcs : cells ≤ room_1.cells ∧ slots ≤ room_1.slots) (hI : Step_step Inv) {σ τ : St} (hσ : CanS (shC b) (NC b) σ) (hτ : CanS shR NR τ) (h0 : Inv b σ τ) {i : Int} (hi : 0 ≤ i ∧ i + 6 ≤ (L : Int)) (kk : ∀ σ1 τ1, CanS (shC b) (NC b) σ1 → CanS shR NR τ1 → Inv b σ1 τ1 → GL p l e s m args below meth c D cA adC adR b cells slots Q σ1 τ1 1464 [some (.ref bq), some (.ref (adC 0)), some (.ref (adR 0)), some (vI i)] []) : GL p l e s m args below meth c D cA adC adR b cells slots Q σ τ 1066 [some (.ref bq), some (.ref (adC 0)), some (.ref (adR 0)), some (vI i)] [] := by
  have h := hI b σ τ h0 (XI xs (i + 1).toNat) (XI xs (i + 2).toNat) (XI xs (i + 3).toNat) (XI xs (i + 4).toNat) (XI xs (i + 5).toNat) (c32_t _) (c32_t _) (c32_t _) (c32_t _) (c32_t _)
  refine l_aload_1 E dL_1066 ?_
  refine l_arg E hi (by decide) dL_1067 dL_1068 dL_1069 dL_1070 dL_1071 ?_
  refine l_arg E hi (by decide) dL_1072 dL_1073 dL_1074 dL_1075 dL_1076 ?_
  refine l_arg E hi (by decide) dL_1077 dL_1078 dL_1079 dL_1080 dL_1081 ?_
  refine l_arg E hi (by decide) dL_1082 dL_1083 dL_1084 dL_1085 dL_1086 ?_
  refine l_arg E hi (by decide) dL_1087 dL_1088 dL_1089 dL_1090 dL_1091 ?_
  refine l_callCI E hAp my_X11_step mi_X11_step msel_X11_step mlL_117 (by decide) hcs (kC_0 b) (sC_0 b) rfl (m_X11_step hAp.1 (c32_t _) (c32_t _) (c32_t _) (c32_t _) (c32_t _) hσ h) rfl rfl (Nat.le_of_ble_eq_true rfl) dL_1092 (fun r1 σ1 cr1 hσ1 h => ?_)
  refine l_aload_2 E dL_1095 ?_
  refine l_arg E hi (by decide) dL_1096 dL_1097 dL_1098 dL_1099 dL_1100 ?_
  refine l_arg E hi (by decide) dL_1101 dL_1102 dL_1103 dL_1104 dL_1105 ?_
  refine l_arg E hi (by decide) dL_1106 dL_1107 dL_1108 dL_1109 dL_1110 ?_
  refine l_arg E hi (by decide) dL_1111 dL_1112 dL_1113 dL_1114 dL_1115 ?_
  refine l_arg E hi (by decide) dL_1116 dL_1117 dL_1118 dL_1119 dL_1120 ?_
  refine l_callRI E hAp my_X12_step mi_X12_step msel_X12_step mlL_120 (by decide) hcs kR_0 sR_0 rfl (m_X12_step hAp.2.1 (c32_t _) (c32_t _) (c32_t _) (c32_t _) (c32_t _) hτ h) rfl rfl (Nat.le_of_ble_eq_true rfl) dL_1121 (fun r2 τ1 cr2 hτ1 h => ?_)
  obtain ⟨e1, h1⟩ := h
  exact l_icmp_eq E cr1 cr2 djL_1124 (fun _ => kk σ1 τ1 hσ1 hτ1 h1) (fun hc => absurd e1 hc)
set_option maxHeartbeats 2000000 in
theorem lc_bounds (E : EvL p s m args meth c D cA Z bq L xs) {b : Bool} (hAp : Ap s adC adR b) (hcs : cells ≤ room_1.cells ∧ slots ≤ room_1.slots) (hI : Step_bounds Inv) {σ τ : St} (hσ : CanS (shC b) (NC b) σ) (hτ : CanS shR NR τ) (h0 : Inv b σ τ) {i : Int} (hi : 0 ≤ i ∧ i + 6 ≤ (L : Int)) (kk : ∀ σ1 τ1, CanS (shC b) (NC b) σ1 → CanS shR NR τ1 → Inv b σ1 τ1 → GL p l e s m args below meth c D cA adC adR b cells slots Q σ1 τ1 1464 [some (.ref bq), some (.ref (adC 0)), some (.ref (adR 0)), some (vI i)] []) : GL p l e s m args below meth c D cA adC adR b cells slots Q σ τ 1129 [some (.ref bq), some (.ref (adC 0)), some (.ref (adR 0)), some (vI i)] [] := by
  have h := hI b σ τ h0 (XI xs (i + 1).toNat) (XI xs (i + 2).toNat) (XI xs (i + 3).toNat) (c32_t _) (c32_t _) (c32_t _)
  refine l_aload_1 E dL_1129 ?_
  refine l_arg E hi (by decide) dL_1130 dL_1131 dL_1132 dL_1133 dL_1134 ?_
  refine l_arg E hi (by decide) dL_1135 dL_1136 dL_1137 dL_1138 dL_1139 ?_
  refine l_arg E hi (by decide) dL_1140 dL_1141 dL_1142 dL_1143 dL_1144 ?_
  refine l_callCI E hAp my_X11_bounds mi_X11_bounds msel_X11_bounds mlL_121 (by decide) hcs (kC_0 b) (sC_0 b) rfl (m_X11_bounds hAp.1 (c32_t _) (c32_t _) (c32_t _) hσ h) rfl rfl (Nat.le_of_ble_eq_true rfl) dL_1145 (fun r1 σ1 cr1 hσ1 h => ?_)
  refine l_aload_2 E dL_1148 ?_
  refine l_arg E hi (by decide) dL_1149 dL_1150 dL_1151 dL_1152 dL_1153 ?_
  refine l_arg E hi (by decide) dL_1154 dL_1155 dL_1156 dL_1157 dL_1158 ?_
  refine l_arg E hi (by decide) dL_1159 dL_1160 dL_1161 dL_1162 dL_1163 ?_
  refine l_callRI E hAp my_X12_bounds mi_X12_bounds msel_X12_bounds mlL_124 (by decide) hcs kR_0 sR_0 rfl (m_X12_bounds hAp.2.1 (c32_t _) (c32_t _) (c32_t _) hτ h) rfl rfl (Nat.le_of_ble_eq_true rfl) dL_1164 (fun r2 τ1 cr2 hτ1 h => ?_)
  obtain ⟨e1, h1⟩ := h
  exact l_icmp_eq E cr1 cr2 djL_1167 (fun _ => kk σ1 τ1 hσ1 hτ1 h1) (fun hc => absurd e1 hc)
set_option maxHeartbeats 2000000 in
theorem lc_tell (E : EvL p s m args meth c D cA Z bq L xs) {b : Bool} (hAp : Ap s adC adR b) (hcs : cells ≤ room_1.cells ∧ slots ≤ room_1.slots) (hI : Step_tell Inv) {σ τ : St} (hσ : CanS (shC b) (NC b) σ) (hτ : CanS shR NR τ) (h0 : Inv b σ τ) {i : Int} (hi : 0 ≤ i ∧ i + 6 ≤ (L : Int)) (kk : ∀ σ1 τ1, CanS (shC b) (NC b) σ1 → CanS shR NR τ1 → Inv b σ1 τ1 → GL p l e s m args below meth c D cA adC adR b cells slots Q σ1 τ1 1464 [some (.ref bq), some (.ref (adC 0)), some (.ref (adR 0)), some (vI i)] []) : GL p l e s m args below meth c D cA adC adR b cells slots Q σ τ 1172 [some (.ref bq), some (.ref (adC 0)), some (.ref (adR 0)), some (vI i)] [] := by
  have h := hI b σ τ h0 (XI xs (i + 1).toNat) (XI xs (i + 2).toNat) (XI xs (i + 3).toNat) (XI xs (i + 4).toNat) (c32_t _) (c32_t _) (c32_t _) (c32_t _)
  refine l_aload_1 E dL_1172 ?_
  refine l_arg E hi (by decide) dL_1173 dL_1174 dL_1175 dL_1176 dL_1177 ?_
  refine l_arg E hi (by decide) dL_1178 dL_1179 dL_1180 dL_1181 dL_1182 ?_
  refine l_arg E hi (by decide) dL_1183 dL_1184 dL_1185 dL_1186 dL_1187 ?_
  refine l_arg E hi (by decide) dL_1188 dL_1189 dL_1190 dL_1191 dL_1192 ?_
  refine l_callCI E hAp my_X11_tell mi_X11_tell msel_X11_tell mlL_125 (by decide) hcs (kC_0 b) (sC_0 b) rfl (m_X11_tell hAp.1 (c32_t _) (c32_t _) (c32_t _) (c32_t _) hσ h) rfl rfl (Nat.le_of_ble_eq_true rfl) dL_1193 (fun r1 σ1 cr1 hσ1 h => ?_)
  refine l_aload_2 E dL_1196 ?_
  refine l_arg E hi (by decide) dL_1197 dL_1198 dL_1199 dL_1200 dL_1201 ?_
  refine l_arg E hi (by decide) dL_1202 dL_1203 dL_1204 dL_1205 dL_1206 ?_
  refine l_arg E hi (by decide) dL_1207 dL_1208 dL_1209 dL_1210 dL_1211 ?_
  refine l_arg E hi (by decide) dL_1212 dL_1213 dL_1214 dL_1215 dL_1216 ?_
  refine l_callRI E hAp my_X12_tell mi_X12_tell msel_X12_tell mlL_128 (by decide) hcs kR_0 sR_0 rfl (m_X12_tell hAp.2.1 (c32_t _) (c32_t _) (c32_t _) (c32_t _) hτ h) rfl rfl (Nat.le_of_ble_eq_true rfl) dL_1217 (fun r2 τ1 cr2 hτ1 h => ?_)
  obtain ⟨e1, h1⟩ := h
  exact l_icmp_eq E cr1 cr2 djL_1220 (fun _ => kk σ1 τ1 hσ1 hτ1 h1) (fun hc => absurd e1 hc)
set_option maxHeartbeats 2000000 in
theorem lc_octet (E : EvL p s m args meth c D cA Z bq L xs) {b : Bool} (hAp : Ap s adC adR b) (hcs : cells ≤ room_1.cells ∧ slots ≤ room_1.slots) (hI : Step_octet Inv) {σ τ : St} (hσ : CanS (shC b) (NC b) σ) (hτ : CanS shR NR τ) (h0 : Inv b σ τ) {i : Int} (hi : 0 ≤ i ∧ i + 6 ≤ (L : Int)) (kk : ∀ σ1 τ1, CanS (shC b) (NC b) σ1 → CanS shR NR τ1 → Inv b σ1 τ1 → GL p l e s m args below meth c D cA adC adR b cells slots Q σ1 τ1 1464 [some (.ref bq), some (.ref (adC 0)), some (.ref (adR 0)), some (vI i)] []) : GL p l e s m args below meth c D cA adC adR b cells slots Q σ τ 1225 [some (.ref bq), some (.ref (adC 0)), some (.ref (adR 0)), some (vI i)] [] := by
  have h := hI b σ τ h0 (XI xs (i + 1).toNat) (c32_t _)
  refine l_aload_1 E dL_1225 ?_
  refine l_arg E hi (by decide) dL_1226 dL_1227 dL_1228 dL_1229 dL_1230 ?_
  refine l_callCI E hAp my_X11_octet mi_X11_octet msel_X11_octet mlL_129 (by decide) hcs (kC_0 b) (sC_0 b) rfl (m_X11_octet hAp.1 (c32_t _) hσ h) rfl rfl (Nat.le_of_ble_eq_true rfl) dL_1231 (fun r1 σ1 cr1 hσ1 h => ?_)
  refine l_aload_2 E dL_1234 ?_
  refine l_arg E hi (by decide) dL_1235 dL_1236 dL_1237 dL_1238 dL_1239 ?_
  refine l_callRI E hAp my_X12_octet mi_X12_octet msel_X12_octet mlL_132 (by decide) hcs kR_0 sR_0 rfl (m_X12_octet hAp.2.1 (c32_t _) hτ h) rfl rfl (Nat.le_of_ble_eq_true rfl) dL_1240 (fun r2 τ1 cr2 hτ1 h => ?_)
  obtain ⟨e1, h1⟩ := h
  exact l_icmp_eq E cr1 cr2 djL_1243 (fun _ => kk σ1 τ1 hσ1 hτ1 h1) (fun hc => absurd e1 hc)
set_option maxHeartbeats 2000000 in
theorem lc_alike (E : EvL p s m args meth c D cA Z bq L xs) {b : Bool} (hAp : Ap s adC adR b) (hcs : cells ≤ room_1.cells ∧ slots ≤ room_1.slots) (hI : Step_alike Inv) {σ τ : St} (hσ : CanS (shC b) (NC b) σ) (hτ : CanS shR NR τ) (h0 : Inv b σ τ) {i : Int} (hi : 0 ≤ i ∧ i + 6 ≤ (L : Int)) (kk : ∀ σ1 τ1, CanS (shC b) (NC b) σ1 → CanS shR NR τ1 → Inv b σ1 τ1 → GL p l e s m args below meth c D cA adC adR b cells slots Q σ1 τ1 1464 [some (.ref bq), some (.ref (adC 0)), some (.ref (adR 0)), some (vI i)] []) : GL p l e s m args below meth c D cA adC adR b cells slots Q σ τ 1302 [some (.ref bq), some (.ref (adC 0)), some (.ref (adR 0)), some (vI i)] [] := by
  have h := hI b σ τ h0 (XI xs (i + 1).toNat) (XI xs (i + 2).toNat) (XI xs (i + 3).toNat) (XI xs (i + 4).toNat) (XI xs (i + 5).toNat) (c32_t _) (c32_t _) (c32_t _) (c32_t _) (c32_t _)
  refine l_aload_1 E dL_1302 ?_
  refine l_arg E hi (by decide) dL_1303 dL_1304 dL_1305 dL_1306 dL_1307 ?_
  refine l_arg E hi (by decide) dL_1308 dL_1309 dL_1310 dL_1311 dL_1312 ?_
  refine l_arg E hi (by decide) dL_1313 dL_1314 dL_1315 dL_1316 dL_1317 ?_
  refine l_arg E hi (by decide) dL_1318 dL_1319 dL_1320 dL_1321 dL_1322 ?_
  refine l_arg E hi (by decide) dL_1323 dL_1324 dL_1325 dL_1326 dL_1327 ?_
  refine l_callCI E hAp my_X11_alike mi_X11_alike msel_X11_alike mlL_137 (by decide) hcs (kC_0 b) (sC_0 b) rfl (m_X11_alike hAp.1 (c32_t _) (c32_t _) (c32_t _) (c32_t _) (c32_t _) hσ h) rfl rfl (Nat.le_of_ble_eq_true rfl) dL_1328 (fun r1 σ1 cr1 hσ1 h => ?_)
  refine l_aload_2 E dL_1331 ?_
  refine l_arg E hi (by decide) dL_1332 dL_1333 dL_1334 dL_1335 dL_1336 ?_
  refine l_arg E hi (by decide) dL_1337 dL_1338 dL_1339 dL_1340 dL_1341 ?_
  refine l_arg E hi (by decide) dL_1342 dL_1343 dL_1344 dL_1345 dL_1346 ?_
  refine l_arg E hi (by decide) dL_1347 dL_1348 dL_1349 dL_1350 dL_1351 ?_
  refine l_arg E hi (by decide) dL_1352 dL_1353 dL_1354 dL_1355 dL_1356 ?_
  refine l_callRI E hAp my_X12_alike mi_X12_alike msel_X12_alike mlL_140 (by decide) hcs kR_0 sR_0 rfl (m_X12_alike hAp.2.1 (c32_t _) (c32_t _) (c32_t _) (c32_t _) (c32_t _) hτ h) rfl rfl (Nat.le_of_ble_eq_true rfl) dL_1357 (fun r2 τ1 cr2 hτ1 h => ?_)
  obtain ⟨e1, h1⟩ := h
  exact l_icmp_eq E cr1 cr2 djL_1360 (fun _ => kk σ1 τ1 hσ1 hτ1 h1) (fun hc => absurd e1 hc)
set_option maxHeartbeats 2000000 in
theorem lc_without (E : EvL p s m args meth c D cA Z bq L xs) {b : Bool} (hAp : Ap s adC adR b) (hcs : cells ≤ room_1.cells ∧ slots ≤ room_1.slots) (hI : Step_without Inv) {σ τ : St} (hσ : CanS (shC b) (NC b) σ) (hτ : CanS shR NR τ) (h0 : Inv b σ τ) {i : Int} (hi : 0 ≤ i ∧ i + 6 ≤ (L : Int)) (kk : ∀ σ1 τ1, CanS (shC b) (NC b) σ1 → CanS shR NR τ1 → Inv b σ1 τ1 → GL p l e s m args below meth c D cA adC adR b cells slots Q σ1 τ1 1464 [some (.ref bq), some (.ref (adC 0)), some (.ref (adR 0)), some (vI i)] []) : GL p l e s m args below meth c D cA adC adR b cells slots Q σ τ 1365 [some (.ref bq), some (.ref (adC 0)), some (.ref (adR 0)), some (vI i)] [] := by
  have h := hI b σ τ h0 (XI xs (i + 1).toNat) (c32_t _)
  refine l_aload_1 E dL_1365 ?_
  refine l_arg E hi (by decide) dL_1366 dL_1367 dL_1368 dL_1369 dL_1370 ?_
  refine l_callCI E hAp my_X11_without mi_X11_without msel_X11_without mlL_141 (by decide) hcs (kC_0 b) (sC_0 b) rfl (m_X11_without hAp.1 (c32_t _) hσ h) rfl rfl (Nat.le_of_ble_eq_true rfl) dL_1371 (fun r1 σ1 cr1 hσ1 h => ?_)
  refine l_aload_2 E dL_1374 ?_
  refine l_arg E hi (by decide) dL_1375 dL_1376 dL_1377 dL_1378 dL_1379 ?_
  refine l_callRI E hAp my_X12_without mi_X12_without msel_X12_without mlL_144 (by decide) hcs kR_0 sR_0 rfl (m_X12_without hAp.2.1 (c32_t _) hτ h) rfl rfl (Nat.le_of_ble_eq_true rfl) dL_1380 (fun r2 τ1 cr2 hτ1 h => ?_)
  obtain ⟨e1, h1⟩ := h
  exact l_icmp_eq E cr1 cr2 djL_1383 (fun _ => kk σ1 τ1 hσ1 hτ1 h1) (fun hc => absurd e1 hc)
set_option maxHeartbeats 2000000 in
theorem lc_heads (E : EvL p s m args meth c D cA Z bq L xs) {b : Bool} (hAp : Ap s adC adR b) (hcs : cells ≤ room_1.cells ∧ slots ≤ room_1.slots) (hI : Step_heads Inv) {σ τ : St} (hσ : CanS (shC b) (NC b) σ) (hτ : CanS shR NR τ) (h0 : Inv b σ τ) {i : Int} (hi : 0 ≤ i ∧ i + 6 ≤ (L : Int)) (kk : ∀ σ1 τ1, CanS (shC b) (NC b) σ1 → CanS shR NR τ1 → Inv b σ1 τ1 → GL p l e s m args below meth c D cA adC adR b cells slots Q σ1 τ1 1464 [some (.ref bq), some (.ref (adC 0)), some (.ref (adR 0)), some (vI i)] []) : GL p l e s m args below meth c D cA adC adR b cells slots Q σ τ 1388 [some (.ref bq), some (.ref (adC 0)), some (.ref (adR 0)), some (vI i)] [] := by
  have h := hI b σ τ h0  
  refine l_aload_1 E dL_1388 ?_
  refine l_callCI E hAp my_X11_heads mi_X11_heads msel_X11_heads mlL_145 (by decide) hcs (kC_0 b) (sC_0 b) rfl (m_X11_heads hAp.1  hσ h) rfl rfl (Nat.le_of_ble_eq_true rfl) dL_1389 (fun r1 σ1 cr1 hσ1 h => ?_)
  refine l_aload_2 E dL_1392 ?_
  refine l_callRI E hAp my_X12_heads mi_X12_heads msel_X12_heads mlL_148 (by decide) hcs kR_0 sR_0 rfl (m_X12_heads hAp.2.1  hτ h) rfl rfl (Nat.le_of_ble_eq_true rfl) dL_1393 (fun r2 τ1 cr2 hτ1 h => ?_)
  obtain ⟨e1, h1⟩ := h
  exact l_icmp_eq E cr1 cr2 djL_1396 (fun _ => kk σ1 τ1 hσ1 hτ1 h1) (fun hc => absurd e1 hc)
set_option maxHeartbeats 2000000 in
theorem lc_mends (E : EvL p s m args meth c D cA Z bq L xs) {b : Bool} (hAp : Ap s adC adR b) (hcs : cells ≤ room_1.cells ∧ slots ≤ room_1.slots) (hI : Step_mends Inv) {σ τ : St} (hσ : CanS (shC b) (NC b) σ) (hτ : CanS shR NR τ) (h0 : Inv b σ τ) {i : Int} (hi : 0 ≤ i ∧ i + 6 ≤ (L : Int)) (kk : ∀ σ1 τ1, CanS (shC b) (NC b) σ1 → CanS shR NR τ1 → Inv b σ1 τ1 → GL p l e s m args below meth c D cA adC adR b cells slots Q σ1 τ1 1464 [some (.ref bq), some (.ref (adC 0)), some (.ref (adR 0)), some (vI i)] []) : GL p l e s m args below meth c D cA adC adR b cells slots Q σ τ 1401 [some (.ref bq), some (.ref (adC 0)), some (.ref (adR 0)), some (vI i)] [] := by
  have h := hI b σ τ h0  
  refine l_aload_1 E dL_1401 ?_
  refine l_callCI E hAp my_X11_mends mi_X11_mends msel_X11_mends mlL_149 (by decide) hcs (kC_0 b) (sC_0 b) rfl (m_X11_mends hAp.1  hσ h) rfl rfl (Nat.le_of_ble_eq_true rfl) dL_1402 (fun r1 σ1 cr1 hσ1 h => ?_)
  refine l_aload_2 E dL_1405 ?_
  refine l_callRI E hAp my_X12_mends mi_X12_mends msel_X12_mends mlL_152 (by decide) hcs kR_0 sR_0 rfl (m_X12_mends hAp.2.1  hτ h) rfl rfl (Nat.le_of_ble_eq_true rfl) dL_1406 (fun r2 τ1 cr2 hτ1 h => ?_)
  obtain ⟨e1, h1⟩ := h
  exact l_icmp_eq E cr1 cr2 djL_1409 (fun _ => kk σ1 τ1 hσ1 hτ1 h1) (fun hc => absurd e1 hc)
set_option maxHeartbeats 2000000 in
theorem lc_mend (E : EvL p s m args meth c D cA Z bq L xs) {b : Bool} (hAp : Ap s adC adR b) (hcs : cells ≤ room_1.cells ∧ slots ≤ room_1.slots) (hI : Step_mend Inv) {σ τ : St} (hσ : CanS (shC b) (NC b) σ) (hτ : CanS shR NR τ) (h0 : Inv b σ τ) {i : Int} (hi : 0 ≤ i ∧ i + 6 ≤ (L : Int)) (kk : ∀ σ1 τ1, CanS (shC b) (NC b) σ1 → CanS shR NR τ1 → Inv b σ1 τ1 → GL p l e s m args below meth c D cA adC adR b cells slots Q σ1 τ1 1464 [some (.ref bq), some (.ref (adC 0)), some (.ref (adR 0)), some (vI i)] []) : GL p l e s m args below meth c D cA adC adR b cells slots Q σ τ 1414 [some (.ref bq), some (.ref (adC 0)), some (.ref (adR 0)), some (vI i)] [] := by
  have h := hI b σ τ h0 (XI xs (i + 1).toNat) (c32_t _)
  refine l_aload_1 E dL_1414 ?_
  refine l_arg E hi (by decide) dL_1415 dL_1416 dL_1417 dL_1418 dL_1419 ?_
  refine l_callCI E hAp my_X11_mend mi_X11_mend msel_X11_mend mlL_153 (by decide) hcs (kC_0 b) (sC_0 b) rfl (m_X11_mend hAp.1 (c32_t _) hσ h) rfl rfl (Nat.le_of_ble_eq_true rfl) dL_1420 (fun r1 σ1 cr1 hσ1 h => ?_)
  refine l_aload_2 E dL_1423 ?_
  refine l_arg E hi (by decide) dL_1424 dL_1425 dL_1426 dL_1427 dL_1428 ?_
  refine l_callRI E hAp my_X12_mend mi_X12_mend msel_X12_mend mlL_156 (by decide) hcs kR_0 sR_0 rfl (m_X12_mend hAp.2.1 (c32_t _) hτ h) rfl rfl (Nat.le_of_ble_eq_true rfl) dL_1429 (fun r2 τ1 cr2 hτ1 h => ?_)
  obtain ⟨e1, h1⟩ := h
  exact l_icmp_eq E cr1 cr2 djL_1432 (fun _ => kk σ1 τ1 hσ1 hτ1 h1) (fun hc => absurd e1 hc)
set_option maxHeartbeats 2000000 in
theorem lc_rings (E : EvL p s m args meth c D cA Z bq L xs) {b : Bool} (hAp : Ap s adC adR b) (hcs : cells ≤ room_1.cells ∧ slots ≤ room_1.slots) (hI : Step_rings Inv) {σ τ : St} (hσ : CanS (shC b) (NC b) σ) (hτ : CanS shR NR τ) (h0 : Inv b σ τ) {i : Int} (hi : 0 ≤ i ∧ i + 6 ≤ (L : Int)) (kk : ∀ σ1 τ1, CanS (shC b) (NC b) σ1 → CanS shR NR τ1 → Inv b σ1 τ1 → GL p l e s m args below meth c D cA adC adR b cells slots Q σ1 τ1 1464 [some (.ref bq), some (.ref (adC 0)), some (.ref (adR 0)), some (vI i)] []) : GL p l e s m args below meth c D cA adC adR b cells slots Q σ τ 1437 [some (.ref bq), some (.ref (adC 0)), some (.ref (adR 0)), some (vI i)] [] := by
  have h := hI b σ τ h0  
  refine l_aload_1 E dL_1437 ?_
  refine l_callCI E hAp my_X11_rings mi_X11_rings msel_X11_rings mlL_157 (by decide) hcs (kC_0 b) (sC_0 b) rfl (m_X11_rings hAp.1  hσ h) rfl rfl (Nat.le_of_ble_eq_true rfl) dL_1438 (fun r1 σ1 cr1 hσ1 h => ?_)
  refine l_aload_2 E dL_1441 ?_
  refine l_callRI E hAp my_X12_rings mi_X12_rings msel_X12_rings mlL_160 (by decide) hcs kR_0 sR_0 rfl (m_X12_rings hAp.2.1  hτ h) rfl rfl (Nat.le_of_ble_eq_true rfl) dL_1442 (fun r2 τ1 cr2 hτ1 h => ?_)
  obtain ⟨e1, h1⟩ := h
  exact l_icmp_eq E cr1 cr2 djL_1445 (fun _ => kk σ1 τ1 hσ1 hτ1 h1) (fun hc => absurd e1 hc)
set_option maxHeartbeats 2000000 in
theorem lc_alive (E : EvL p s m args meth c D cA Z bq L xs) {b : Bool} (hAp : Ap s adC adR b) (hcs : cells ≤ room_1.cells ∧ slots ≤ room_1.slots) (hI : Step_alive Inv) {σ τ : St} (hσ : CanS (shC b) (NC b) σ) (hτ : CanS shR NR τ) (h0 : Inv b σ τ) {i : Int} (hi : 0 ≤ i ∧ i + 6 ≤ (L : Int)) (kk : ∀ σ1 τ1, CanS (shC b) (NC b) σ1 → CanS shR NR τ1 → Inv b σ1 τ1 → GL p l e s m args below meth c D cA adC adR b cells slots Q σ1 τ1 1464 [some (.ref bq), some (.ref (adC 0)), some (.ref (adR 0)), some (vI i)] []) : GL p l e s m args below meth c D cA adC adR b cells slots Q σ τ 1450 [some (.ref bq), some (.ref (adC 0)), some (.ref (adR 0)), some (vI i)] [] := by
  have h := hI b σ τ h0  
  refine l_aload_1 E dL_1450 ?_
  refine l_callCL E hAp my_X11_alive mi_X11_alive msel_X11_alive mlL_161 (by decide) hcs (kC_0 b) (sC_0 b) rfl (m_X11_alive hAp.1  hσ h) rfl rfl (Nat.le_of_ble_eq_true rfl) dL_1451 (fun r1 σ1 cr1 hσ1 h => ?_)
  refine l_aload_2 E dL_1454 ?_
  refine l_callRL E hAp my_X12_alive mi_X12_alive msel_X12_alive mlL_165 (by decide) hcs kR_0 sR_0 rfl (m_X12_alive hAp.2.1  hτ h) rfl rfl (Nat.le_of_ble_eq_true rfl) dL_1455 (fun r2 τ1 cr2 hτ1 h => ?_)
  obtain ⟨e1, h1⟩ := h
  exact l_lcmp_eq E cr1 e1 dL_1458 djL_1459 (kk σ1 τ1 hσ1 hτ1 h1)
end LC
