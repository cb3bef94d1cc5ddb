theorem dL_law_16 : DD cL_law 16 (.iconst 0) 1 17 := by decide +kernel
theorem dL_law_17 : DD cL_law 17 (.istore_n 3) 1 18 := by decide +kernel
theorem dL_law_18 : DD cL_law 18 (.iload_n 3) 1 19 := by decide +kernel
theorem dL_law_19 : DD cL_law 19 (.aload_n 0) 1 20 := by decide +kernel
theorem dL_law_20 : DD cL_law 20 (.arraylength) 1 21 := by decide +kernel
theorem dL_law_21 : DD cL_law 21 (.bipush 6) 2 23 := by decide +kernel
theorem dL_law_23 : DD cL_law 23 (.isub) 1 24 := by decide +kernel
theorem dL_law_24 : DD cL_law 24 (.if_icmp .gt 1131) 3 27 := by decide +kernel
theorem dL_law_27 : DD cL_law 27 (.aload_n 0) 1 28 := by decide +kernel
theorem dL_law_28 : DD cL_law 28 (.iload_n 3) 1 29 := by decide +kernel
theorem dL_law_29 : DD cL_law 29 (.iaload) 1 30 := by decide +kernel
theorem dL_law_30 : DD cL_law 30 (.bipush 63) 2 32 := by decide +kernel
theorem dL_law_32 : DD cL_law 32 (.iand) 1 33 := by decide +kernel
theorem dL_law_33 : DD cL_law 33 (.tableswitch 1116 0 32 #[147, 190, 233, 296, 319, 342, 355, 368, 391, 414, 437, 470, 493, 506, 539, 572, 605, 618, 641, 674, 707, 740, 773, 836, 879, 922, 945, 968, 991, 1024, 1057, 1080, 1103]) 147 180 := by decide +kernel
theorem dL_law_180 : DD cL_law 180 (.aload_n 1) 1 181 := by decide +kernel
theorem dL_law_181 : DD cL_law 181 (.aload_n 0) 1 182 := by decide +kernel
theorem dL_law_182 : DD cL_law 182 (.iload_n 3) 1 183 := by decide +kernel
theorem dL_law_183 : DD cL_law 183 (.iconst 1) 1 184 := by decide +kernel
theorem dL_law_184 : DD cL_law 184 (.iadd) 1 185 := by decide +kernel
theorem dL_law_185 : DD cL_law 185 (.iaload) 1 186 := by decide +kernel
theorem dL_law_186 : DD cL_law 186 (.aload_n 0) 1 187 := by decide +kernel
theorem dL_law_187 : DD cL_law 187 (.iload_n 3) 1 188 := by decide +kernel
theorem dL_law_188 : DD cL_law 188 (.iconst 2) 1 189 := by decide +kernel
theorem dL_law_189 : DD cL_law 189 (.iadd) 1 190 := by decide +kernel
theorem dL_law_190 : DD cL_law 190 (.iaload) 1 191 := by decide +kernel
theorem dL_law_191 : DD cL_law 191 (.aload_n 0) 1 192 := by decide +kernel
theorem dL_law_192 : DD cL_law 192 (.iload_n 3) 1 193 := by decide +kernel
theorem dL_law_193 : DD cL_law 193 (.iconst 3) 1 194 := by decide +kernel
theorem dL_law_194 : DD cL_law 194 (.iadd) 1 195 := by decide +kernel
theorem dL_law_195 : DD cL_law 195 (.iaload) 1 196 := by decide +kernel
theorem dL_law_196 : DD cL_law 196 (.invokevirtual 13) 3 199 := by decide +kernel
theorem dL_law_199 : DD cL_law 199 (.aload_n 2) 1 200 := by decide +kernel
theorem dL_law_200 : DD cL_law 200 (.aload_n 0) 1 201 := by decide +kernel
theorem dL_law_201 : DD cL_law 201 (.iload_n 3) 1 202 := by decide +kernel
theorem dL_law_202 : DD cL_law 202 (.iconst 1) 1 203 := by decide +kernel
theorem dL_law_203 : DD cL_law 203 (.iadd) 1 204 := by decide +kernel
theorem dL_law_204 : DD cL_law 204 (.iaload) 1 205 := by decide +kernel
theorem dL_law_205 : DD cL_law 205 (.aload_n 0) 1 206 := by decide +kernel
theorem dL_law_206 : DD cL_law 206 (.iload_n 3) 1 207 := by decide +kernel
theorem dL_law_207 : DD cL_law 207 (.iconst 2) 1 208 := by decide +kernel
theorem dL_law_208 : DD cL_law 208 (.iadd) 1 209 := by decide +kernel
theorem dL_law_209 : DD cL_law 209 (.iaload) 1 210 := by decide +kernel
theorem dL_law_210 : DD cL_law 210 (.aload_n 0) 1 211 := by decide +kernel
theorem dL_law_211 : DD cL_law 211 (.iload_n 3) 1 212 := by decide +kernel
theorem dL_law_212 : DD cL_law 212 (.iconst 3) 1 213 := by decide +kernel
theorem dL_law_213 : DD cL_law 213 (.iadd) 1 214 := by decide +kernel
theorem dL_law_214 : DD cL_law 214 (.iaload) 1 215 := by decide +kernel
theorem dL_law_215 : DD cL_law 215 (.invokevirtual 17) 3 218 := by decide +kernel
theorem dL_law_218 : DD cL_law 218 (.if_icmp .eq 931) 3 221 := by decide +kernel
theorem dL_law_221 : DD cL_law 221 (.iconst 0) 1 222 := by decide +kernel
theorem dL_law_222 : DD cL_law 222 (.ireturn) 1 223 := by decide +kernel
theorem dL_law_223 : DD cL_law 223 (.aload_n 1) 1 224 := by decide +kernel
theorem dL_law_224 : DD cL_law 224 (.aload_n 0) 1 225 := by decide +kernel
theorem dL_law_225 : DD cL_law 225 (.iload_n 3) 1 226 := by decide +kernel
theorem dL_law_226 : DD cL_law 226 (.iconst 1) 1 227 := by decide +kernel
theorem dL_law_227 : DD cL_law 227 (.iadd) 1 228 := by decide +kernel
theorem dL_law_228 : DD cL_law 228 (.iaload) 1 229 := by decide +kernel
theorem dL_law_229 : DD cL_law 229 (.aload_n 0) 1 230 := by decide +kernel
theorem dL_law_230 : DD cL_law 230 (.iload_n 3) 1 231 := by decide +kernel
theorem dL_law_231 : DD cL_law 231 (.iconst 2) 1 232 := by decide +kernel
theorem dL_law_232 : DD cL_law 232 (.iadd) 1 233 := by decide +kernel
theorem dL_law_233 : DD cL_law 233 (.iaload) 1 234 := by decide +kernel
theorem dL_law_234 : DD cL_law 234 (.aload_n 0) 1 235 := by decide +kernel
theorem dL_law_235 : DD cL_law 235 (.iload_n 3) 1 236 := by decide +kernel
theorem dL_law_236 : DD cL_law 236 (.iconst 3) 1 237 := by decide +kernel
theorem dL_law_237 : DD cL_law 237 (.iadd) 1 238 := by decide +kernel
theorem dL_law_238 : DD cL_law 238 (.iaload) 1 239 := by decide +kernel
theorem dL_law_239 : DD cL_law 239 (.invokevirtual 18) 3 242 := by decide +kernel
theorem dL_law_242 : DD cL_law 242 (.aload_n 2) 1 243 := by decide +kernel
theorem dL_law_243 : DD cL_law 243 (.aload_n 0) 1 244 := by decide +kernel
theorem dL_law_244 : DD cL_law 244 (.iload_n 3) 1 245 := by decide +kernel
theorem dL_law_245 : DD cL_law 245 (.iconst 1) 1 246 := by decide +kernel
theorem dL_law_246 : DD cL_law 246 (.iadd) 1 247 := by decide +kernel
theorem dL_law_247 : DD cL_law 247 (.iaload) 1 248 := by decide +kernel
theorem dL_law_248 : DD cL_law 248 (.aload_n 0) 1 249 := by decide +kernel
theorem dL_law_249 : DD cL_law 249 (.iload_n 3) 1 250 := by decide +kernel
theorem dL_law_250 : DD cL_law 250 (.iconst 2) 1 251 := by decide +kernel
theorem dL_law_251 : DD cL_law 251 (.iadd) 1 252 := by decide +kernel
theorem dL_law_252 : DD cL_law 252 (.iaload) 1 253 := by decide +kernel
theorem dL_law_253 : DD cL_law 253 (.aload_n 0) 1 254 := by decide +kernel
theorem dL_law_254 : DD cL_law 254 (.iload_n 3) 1 255 := by decide +kernel
theorem dL_law_255 : DD cL_law 255 (.iconst 3) 1 256 := by decide +kernel
theorem dL_law_256 : DD cL_law 256 (.iadd) 1 257 := by decide +kernel
theorem dL_law_257 : DD cL_law 257 (.iaload) 1 258 := by decide +kernel
theorem dL_law_258 : DD cL_law 258 (.invokevirtual 21) 3 261 := by decide +kernel
theorem dL_law_261 : DD cL_law 261 (.if_icmp .eq 888) 3 264 := by decide +kernel
theorem dL_law_264 : DD cL_law 264 (.iconst 0) 1 265 := by decide +kernel
theorem dL_law_265 : DD cL_law 265 (.ireturn) 1 266 := by decide +kernel
theorem dL_law_266 : DD cL_law 266 (.aload_n 1) 1 267 := by decide +kernel
theorem dL_law_267 : DD cL_law 267 (.aload_n 0) 1 268 := by decide +kernel
theorem dL_law_268 : DD cL_law 268 (.iload_n 3) 1 269 := by decide +kernel
theorem dL_law_269 : DD cL_law 269 (.iconst 1) 1 270 := by decide +kernel
theorem dL_law_270 : DD cL_law 270 (.iadd) 1 271 := by decide +kernel
theorem dL_law_271 : DD cL_law 271 (.iaload) 1 272 := by decide +kernel
theorem dL_law_272 : DD cL_law 272 (.aload_n 0) 1 273 := by decide +kernel
theorem dL_law_273 : DD cL_law 273 (.iload_n 3) 1 274 := by decide +kernel
theorem dL_law_274 : DD cL_law 274 (.iconst 2) 1 275 := by decide +kernel
theorem dL_law_275 : DD cL_law 275 (.iadd) 1 276 := by decide +kernel
theorem dL_law_276 : DD cL_law 276 (.iaload) 1 277 := by decide +kernel
theorem dL_law_277 : DD cL_law 277 (.aload_n 0) 1 278 := by decide +kernel
theorem dL_law_278 : DD cL_law 278 (.iload_n 3) 1 279 := by decide +kernel
theorem dL_law_279 : DD cL_law 279 (.iconst 3) 1 280 := by decide +kernel
theorem dL_law_280 : DD cL_law 280 (.iadd) 1 281 := by decide +kernel
theorem dL_law_281 : DD cL_law 281 (.iaload) 1 282 := by decide +kernel
theorem dL_law_282 : DD cL_law 282 (.aload_n 0) 1 283 := by decide +kernel
theorem dL_law_283 : DD cL_law 283 (.iload_n 3) 1 284 := by decide +kernel
theorem dL_law_284 : DD cL_law 284 (.iconst 4) 1 285 := by decide +kernel
theorem dL_law_285 : DD cL_law 285 (.iadd) 1 286 := by decide +kernel
theorem dL_law_286 : DD cL_law 286 (.iaload) 1 287 := by decide +kernel
theorem dL_law_287 : DD cL_law 287 (.aload_n 0) 1 288 := by decide +kernel
theorem dL_law_288 : DD cL_law 288 (.iload_n 3) 1 289 := by decide +kernel
theorem dL_law_289 : DD cL_law 289 (.iconst 5) 1 290 := by decide +kernel
theorem dL_law_290 : DD cL_law 290 (.iadd) 1 291 := by decide +kernel
theorem dL_law_291 : DD cL_law 291 (.iaload) 1 292 := by decide +kernel
theorem dL_law_292 : DD cL_law 292 (.invokevirtual 22) 3 295 := by decide +kernel
theorem dL_law_295 : DD cL_law 295 (.aload_n 2) 1 296 := by decide +kernel
theorem dL_law_296 : DD cL_law 296 (.aload_n 0) 1 297 := by decide +kernel
theorem dL_law_297 : DD cL_law 297 (.iload_n 3) 1 298 := by decide +kernel
theorem dL_law_298 : DD cL_law 298 (.iconst 1) 1 299 := by decide +kernel
theorem dL_law_299 : DD cL_law 299 (.iadd) 1 300 := by decide +kernel
theorem dL_law_300 : DD cL_law 300 (.iaload) 1 301 := by decide +kernel
theorem dL_law_301 : DD cL_law 301 (.aload_n 0) 1 302 := by decide +kernel
theorem dL_law_302 : DD cL_law 302 (.iload_n 3) 1 303 := by decide +kernel
theorem dL_law_303 : DD cL_law 303 (.iconst 2) 1 304 := by decide +kernel
theorem dL_law_304 : DD cL_law 304 (.iadd) 1 305 := by decide +kernel
theorem dL_law_305 : DD cL_law 305 (.iaload) 1 306 := by decide +kernel
theorem dL_law_306 : DD cL_law 306 (.aload_n 0) 1 307 := by decide +kernel
theorem dL_law_307 : DD cL_law 307 (.iload_n 3) 1 308 := by decide +kernel
theorem dL_law_308 : DD cL_law 308 (.iconst 3) 1 309 := by decide +kernel
theorem dL_law_309 : DD cL_law 309 (.iadd) 1 310 := by decide +kernel
theorem dL_law_310 : DD cL_law 310 (.iaload) 1 311 := by decide +kernel
theorem dL_law_311 : DD cL_law 311 (.aload_n 0) 1 312 := by decide +kernel
theorem dL_law_312 : DD cL_law 312 (.iload_n 3) 1 313 := by decide +kernel
theorem dL_law_313 : DD cL_law 313 (.iconst 4) 1 314 := by decide +kernel
theorem dL_law_314 : DD cL_law 314 (.iadd) 1 315 := by decide +kernel
theorem dL_law_315 : DD cL_law 315 (.iaload) 1 316 := by decide +kernel
theorem dL_law_316 : DD cL_law 316 (.aload_n 0) 1 317 := by decide +kernel
theorem dL_law_317 : DD cL_law 317 (.iload_n 3) 1 318 := by decide +kernel
theorem dL_law_318 : DD cL_law 318 (.iconst 5) 1 319 := by decide +kernel
theorem dL_law_319 : DD cL_law 319 (.iadd) 1 320 := by decide +kernel
theorem dL_law_320 : DD cL_law 320 (.iaload) 1 321 := by decide +kernel
theorem dL_law_321 : DD cL_law 321 (.invokevirtual 26) 3 324 := by decide +kernel
theorem dL_law_324 : DD cL_law 324 (.if_icmp .eq 825) 3 327 := by decide +kernel
theorem dL_law_327 : DD cL_law 327 (.iconst 0) 1 328 := by decide +kernel
theorem dL_law_328 : DD cL_law 328 (.ireturn) 1 329 := by decide +kernel
theorem dL_law_329 : DD cL_law 329 (.aload_n 1) 1 330 := by decide +kernel
theorem dL_law_330 : DD cL_law 330 (.aload_n 0) 1 331 := by decide +kernel
theorem dL_law_331 : DD cL_law 331 (.iload_n 3) 1 332 := by decide +kernel
theorem dL_law_332 : DD cL_law 332 (.iconst 1) 1 333 := by decide +kernel
theorem dL_law_333 : DD cL_law 333 (.iadd) 1 334 := by decide +kernel
theorem dL_law_334 : DD cL_law 334 (.iaload) 1 335 := by decide +kernel
theorem dL_law_335 : DD cL_law 335 (.invokevirtual 27) 3 338 := by decide +kernel
theorem dL_law_338 : DD cL_law 338 (.aload_n 2) 1 339 := by decide +kernel
theorem dL_law_339 : DD cL_law 339 (.aload_n 0) 1 340 := by decide +kernel
theorem dL_law_340 : DD cL_law 340 (.iload_n 3) 1 341 := by decide +kernel
theorem dL_law_341 : DD cL_law 341 (.iconst 1) 1 342 := by decide +kernel
theorem dL_law_342 : DD cL_law 342 (.iadd) 1 343 := by decide +kernel
theorem dL_law_343 : DD cL_law 343 (.iaload) 1 344 := by decide +kernel
theorem dL_law_344 : DD cL_law 344 (.invokevirtual 31) 3 347 := by decide +kernel
theorem dL_law_347 : DD cL_law 347 (.if_icmp .eq 802) 3 350 := by decide +kernel
theorem dL_law_350 : DD cL_law 350 (.iconst 0) 1 351 := by decide +kernel
theorem dL_law_351 : DD cL_law 351 (.ireturn) 1 352 := by decide +kernel
theorem dL_law_352 : DD cL_law 352 (.aload_n 1) 1 353 := by decide +kernel
theorem dL_law_353 : DD cL_law 353 (.aload_n 0) 1 354 := by decide +kernel
theorem dL_law_354 : DD cL_law 354 (.iload_n 3) 1 355 := by decide +kernel
theorem dL_law_355 : DD cL_law 355 (.iconst 1) 1 356 := by decide +kernel
theorem dL_law_356 : DD cL_law 356 (.iadd) 1 357 := by decide +kernel
theorem dL_law_357 : DD cL_law 357 (.iaload) 1 358 := by decide +kernel
theorem dL_law_358 : DD cL_law 358 (.invokevirtual 32) 3 361 := by decide +kernel
theorem dL_law_361 : DD cL_law 361 (.aload_n 2) 1 362 := by decide +kernel
theorem dL_law_362 : DD cL_law 362 (.aload_n 0) 1 363 := by decide +kernel
theorem dL_law_363 : DD cL_law 363 (.iload_n 3) 1 364 := by decide +kernel
theorem dL_law_364 : DD cL_law 364 (.iconst 1) 1 365 := by decide +kernel
theorem dL_law_365 : DD cL_law 365 (.iadd) 1 366 := by decide +kernel
theorem dL_law_366 : DD cL_law 366 (.iaload) 1 367 := by decide +kernel
theorem dL_law_367 : DD cL_law 367 (.invokevirtual 35) 3 370 := by decide +kernel
theorem dL_law_370 : DD cL_law 370 (.if_icmp .eq 779) 3 373 := by decide +kernel
theorem dL_law_373 : DD cL_law 373 (.iconst 0) 1 374 := by decide +kernel
theorem dL_law_374 : DD cL_law 374 (.ireturn) 1 375 := by decide +kernel
theorem dL_law_375 : DD cL_law 375 (.aload_n 1) 1 376 := by decide +kernel
theorem dL_law_376 : DD cL_law 376 (.invokevirtual 36) 3 379 := by decide +kernel
theorem dL_law_379 : DD cL_law 379 (.aload_n 2) 1 380 := by decide +kernel
theorem dL_law_380 : DD cL_law 380 (.invokevirtual 40) 3 383 := by decide +kernel
theorem dL_law_383 : DD cL_law 383 (.if_icmp .eq 766) 3 386 := by decide +kernel
theorem dL_law_386 : DD cL_law 386 (.iconst 0) 1 387 := by decide +kernel
theorem dL_law_387 : DD cL_law 387 (.ireturn) 1 388 := by decide +kernel
theorem dL_law_388 : DD cL_law 388 (.aload_n 1) 1 389 := by decide +kernel
theorem dL_law_389 : DD cL_law 389 (.invokevirtual 41) 3 392 := by decide +kernel
theorem dL_law_392 : DD cL_law 392 (.aload_n 2) 1 393 := by decide +kernel
theorem dL_law_393 : DD cL_law 393 (.invokevirtual 44) 3 396 := by decide +kernel
theorem dL_law_396 : DD cL_law 396 (.if_icmp .eq 753) 3 399 := by decide +kernel
theorem dL_law_399 : DD cL_law 399 (.iconst 0) 1 400 := by decide +kernel
theorem dL_law_400 : DD cL_law 400 (.ireturn) 1 401 := by decide +kernel
theorem dL_law_401 : DD cL_law 401 (.aload_n 1) 1 402 := by decide +kernel
theorem dL_law_402 : DD cL_law 402 (.aload_n 0) 1 403 := by decide +kernel
theorem dL_law_403 : DD cL_law 403 (.iload_n 3) 1 404 := by decide +kernel
theorem dL_law_404 : DD cL_law 404 (.iconst 1) 1 405 := by decide +kernel
theorem dL_law_405 : DD cL_law 405 (.iadd) 1 406 := by decide +kernel
theorem dL_law_406 : DD cL_law 406 (.iaload) 1 407 := by decide +kernel
theorem dL_law_407 : DD cL_law 407 (.invokevirtual 45) 3 410 := by decide +kernel
theorem dL_law_410 : DD cL_law 410 (.aload_n 2) 1 411 := by decide +kernel
theorem dL_law_411 : DD cL_law 411 (.aload_n 0) 1 412 := by decide +kernel
theorem dL_law_412 : DD cL_law 412 (.iload_n 3) 1 413 := by decide +kernel
theorem dL_law_413 : DD cL_law 413 (.iconst 1) 1 414 := by decide +kernel
theorem dL_law_414 : DD cL_law 414 (.iadd) 1 415 := by decide +kernel
theorem dL_law_415 : DD cL_law 415 (.iaload) 1 416 := by decide +kernel
theorem dL_law_416 : DD cL_law 416 (.invokevirtual 48) 3 419 := by decide +kernel
theorem dL_law_419 : DD cL_law 419 (.if_icmp .eq 730) 3 422 := by decide +kernel
theorem dL_law_422 : DD cL_law 422 (.iconst 0) 1 423 := by decide +kernel
theorem dL_law_423 : DD cL_law 423 (.ireturn) 1 424 := by decide +kernel
theorem dL_law_424 : DD cL_law 424 (.aload_n 1) 1 425 := by decide +kernel
theorem dL_law_425 : DD cL_law 425 (.aload_n 0) 1 426 := by decide +kernel
theorem dL_law_426 : DD cL_law 426 (.iload_n 3) 1 427 := by decide +kernel
theorem dL_law_427 : DD cL_law 427 (.iconst 1) 1 428 := by decide +kernel
theorem dL_law_428 : DD cL_law 428 (.iadd) 1 429 := by decide +kernel
theorem dL_law_429 : DD cL_law 429 (.iaload) 1 430 := by decide +kernel
theorem dL_law_430 : DD cL_law 430 (.invokevirtual 49) 3 433 := by decide +kernel
theorem dL_law_433 : DD cL_law 433 (.aload_n 2) 1 434 := by decide +kernel
theorem dL_law_434 : DD cL_law 434 (.aload_n 0) 1 435 := by decide +kernel
theorem dL_law_435 : DD cL_law 435 (.iload_n 3) 1 436 := by decide +kernel
theorem dL_law_436 : DD cL_law 436 (.iconst 1) 1 437 := by decide +kernel
theorem dL_law_437 : DD cL_law 437 (.iadd) 1 438 := by decide +kernel
theorem dL_law_438 : DD cL_law 438 (.iaload) 1 439 := by decide +kernel
theorem dL_law_439 : DD cL_law 439 (.invokevirtual 52) 3 442 := by decide +kernel
theorem dL_law_442 : DD cL_law 442 (.if_icmp .eq 707) 3 445 := by decide +kernel
theorem dL_law_445 : DD cL_law 445 (.iconst 0) 1 446 := by decide +kernel
theorem dL_law_446 : DD cL_law 446 (.ireturn) 1 447 := by decide +kernel
theorem dL_law_447 : DD cL_law 447 (.aload_n 1) 1 448 := by decide +kernel
theorem dL_law_448 : DD cL_law 448 (.aload_n 0) 1 449 := by decide +kernel
theorem dL_law_449 : DD cL_law 449 (.iload_n 3) 1 450 := by decide +kernel
theorem dL_law_450 : DD cL_law 450 (.iconst 1) 1 451 := by decide +kernel
theorem dL_law_451 : DD cL_law 451 (.iadd) 1 452 := by decide +kernel
theorem dL_law_452 : DD cL_law 452 (.iaload) 1 453 := by decide +kernel
theorem dL_law_453 : DD cL_law 453 (.invokevirtual 53) 3 456 := by decide +kernel
theorem dL_law_456 : DD cL_law 456 (.aload_n 2) 1 457 := by decide +kernel
theorem dL_law_457 : DD cL_law 457 (.aload_n 0) 1 458 := by decide +kernel
theorem dL_law_458 : DD cL_law 458 (.iload_n 3) 1 459 := by decide +kernel
theorem dL_law_459 : DD cL_law 459 (.iconst 1) 1 460 := by decide +kernel
theorem dL_law_460 : DD cL_law 460 (.iadd) 1 461 := by decide +kernel
theorem dL_law_461 : DD cL_law 461 (.iaload) 1 462 := by decide +kernel
theorem dL_law_462 : DD cL_law 462 (.invokevirtual 56) 3 465 := by decide +kernel
theorem dL_law_465 : DD cL_law 465 (.if_icmp .eq 684) 3 468 := by decide +kernel
theorem dL_law_468 : DD cL_law 468 (.iconst 0) 1 469 := by decide +kernel
theorem dL_law_469 : DD cL_law 469 (.ireturn) 1 470 := by decide +kernel
theorem dL_law_470 : DD cL_law 470 (.aload_n 1) 1 471 := by decide +kernel
theorem dL_law_471 : DD cL_law 471 (.aload_n 0) 1 472 := by decide +kernel
theorem dL_law_472 : DD cL_law 472 (.iload_n 3) 1 473 := by decide +kernel
theorem dL_law_473 : DD cL_law 473 (.iconst 1) 1 474 := by decide +kernel
theorem dL_law_474 : DD cL_law 474 (.iadd) 1 475 := by decide +kernel
theorem dL_law_475 : DD cL_law 475 (.iaload) 1 476 := by decide +kernel
theorem dL_law_476 : DD cL_law 476 (.aload_n 0) 1 477 := by decide +kernel
theorem dL_law_477 : DD cL_law 477 (.iload_n 3) 1 478 := by decide +kernel
theorem dL_law_478 : DD cL_law 478 (.iconst 2) 1 479 := by decide +kernel
theorem dL_law_479 : DD cL_law 479 (.iadd) 1 480 := by decide +kernel
theorem dL_law_480 : DD cL_law 480 (.iaload) 1 481 := by decide +kernel
theorem dL_law_481 : DD cL_law 481 (.invokevirtual 57) 3 484 := by decide +kernel
theorem dL_law_484 : DD cL_law 484 (.aload_n 2) 1 485 := by decide +kernel
theorem dL_law_485 : DD cL_law 485 (.aload_n 0) 1 486 := by decide +kernel
theorem dL_law_486 : DD cL_law 486 (.iload_n 3) 1 487 := by decide +kernel
theorem dL_law_487 : DD cL_law 487 (.iconst 1) 1 488 := by decide +kernel
theorem dL_law_488 : DD cL_law 488 (.iadd) 1 489 := by decide +kernel
theorem dL_law_489 : DD cL_law 489 (.iaload) 1 490 := by decide +kernel
theorem dL_law_490 : DD cL_law 490 (.aload_n 0) 1 491 := by decide +kernel
theorem dL_law_491 : DD cL_law 491 (.iload_n 3) 1 492 := by decide +kernel
theorem dL_law_492 : DD cL_law 492 (.iconst 2) 1 493 := by decide +kernel
theorem dL_law_493 : DD cL_law 493 (.iadd) 1 494 := by decide +kernel
theorem dL_law_494 : DD cL_law 494 (.iaload) 1 495 := by decide +kernel
theorem dL_law_495 : DD cL_law 495 (.invokevirtual 61) 3 498 := by decide +kernel
theorem dL_law_498 : DD cL_law 498 (.if_icmp .eq 651) 3 501 := by decide +kernel
theorem dL_law_501 : DD cL_law 501 (.iconst 0) 1 502 := by decide +kernel
theorem dL_law_502 : DD cL_law 502 (.ireturn) 1 503 := by decide +kernel
theorem dL_law_503 : DD cL_law 503 (.aload_n 1) 1 504 := by decide +kernel
theorem dL_law_504 : DD cL_law 504 (.aload_n 0) 1 505 := by decide +kernel
theorem dL_law_505 : DD cL_law 505 (.iload_n 3) 1 506 := by decide +kernel
theorem dL_law_506 : DD cL_law 506 (.iconst 1) 1 507 := by decide +kernel
theorem dL_law_507 : DD cL_law 507 (.iadd) 1 508 := by decide +kernel
theorem dL_law_508 : DD cL_law 508 (.iaload) 1 509 := by decide +kernel
theorem dL_law_509 : DD cL_law 509 (.invokevirtual 62) 3 512 := by decide +kernel
theorem dL_law_512 : DD cL_law 512 (.aload_n 2) 1 513 := by decide +kernel
theorem dL_law_513 : DD cL_law 513 (.aload_n 0) 1 514 := by decide +kernel
theorem dL_law_514 : DD cL_law 514 (.iload_n 3) 1 515 := by decide +kernel
theorem dL_law_515 : DD cL_law 515 (.iconst 1) 1 516 := by decide +kernel
theorem dL_law_516 : DD cL_law 516 (.iadd) 1 517 := by decide +kernel
theorem dL_law_517 : DD cL_law 517 (.iaload) 1 518 := by decide +kernel
theorem dL_law_518 : DD cL_law 518 (.invokevirtual 65) 3 521 := by decide +kernel
theorem dL_law_521 : DD cL_law 521 (.if_icmp .eq 628) 3 524 := by decide +kernel
theorem dL_law_524 : DD cL_law 524 (.iconst 0) 1 525 := by decide +kernel
theorem dL_law_525 : DD cL_law 525 (.ireturn) 1 526 := by decide +kernel
theorem dL_law_526 : DD cL_law 526 (.aload_n 1) 1 527 := by decide +kernel
theorem dL_law_527 : DD cL_law 527 (.invokevirtual 66) 3 530 := by decide +kernel
theorem dL_law_530 : DD cL_law 530 (.aload_n 2) 1 531 := by decide +kernel
theorem dL_law_531 : DD cL_law 531 (.invokevirtual 69) 3 534 := by decide +kernel
theorem dL_law_534 : DD cL_law 534 (.if_icmp .eq 615) 3 537 := by decide +kernel
theorem dL_law_537 : DD cL_law 537 (.iconst 0) 1 538 := by decide +kernel
theorem dL_law_538 : DD cL_law 538 (.ireturn) 1 539 := by decide +kernel
theorem dL_law_539 : DD cL_law 539 (.aload_n 1) 1 540 := by decide +kernel
theorem dL_law_540 : DD cL_law 540 (.aload_n 0) 1 541 := by decide +kernel
theorem dL_law_541 : DD cL_law 541 (.iload_n 3) 1 542 := by decide +kernel
theorem dL_law_542 : DD cL_law 542 (.iconst 1) 1 543 := by decide +kernel
theorem dL_law_543 : DD cL_law 543 (.iadd) 1 544 := by decide +kernel
theorem dL_law_544 : DD cL_law 544 (.iaload) 1 545 := by decide +kernel
theorem dL_law_545 : DD cL_law 545 (.aload_n 0) 1 546 := by decide +kernel
theorem dL_law_546 : DD cL_law 546 (.iload_n 3) 1 547 := by decide +kernel
theorem dL_law_547 : DD cL_law 547 (.iconst 2) 1 548 := by decide +kernel
theorem dL_law_548 : DD cL_law 548 (.iadd) 1 549 := by decide +kernel
theorem dL_law_549 : DD cL_law 549 (.iaload) 1 550 := by decide +kernel
theorem dL_law_550 : DD cL_law 550 (.invokevirtual 70) 3 553 := by decide +kernel
theorem dL_law_553 : DD cL_law 553 (.aload_n 2) 1 554 := by decide +kernel
theorem dL_law_554 : DD cL_law 554 (.aload_n 0) 1 555 := by decide +kernel
theorem dL_law_555 : DD cL_law 555 (.iload_n 3) 1 556 := by decide +kernel
theorem dL_law_556 : DD cL_law 556 (.iconst 1) 1 557 := by decide +kernel
theorem dL_law_557 : DD cL_law 557 (.iadd) 1 558 := by decide +kernel
theorem dL_law_558 : DD cL_law 558 (.iaload) 1 559 := by decide +kernel
theorem dL_law_559 : DD cL_law 559 (.aload_n 0) 1 560 := by decide +kernel
theorem dL_law_560 : DD cL_law 560 (.iload_n 3) 1 561 := by decide +kernel
theorem dL_law_561 : DD cL_law 561 (.iconst 2) 1 562 := by decide +kernel
theorem dL_law_562 : DD cL_law 562 (.iadd) 1 563 := by decide +kernel
theorem dL_law_563 : DD cL_law 563 (.iaload) 1 564 := by decide +kernel
theorem dL_law_564 : DD cL_law 564 (.invokevirtual 73) 3 567 := by decide +kernel
theorem dL_law_567 : DD cL_law 567 (.if_icmp .eq 582) 3 570 := by decide +kernel
theorem dL_law_570 : DD cL_law 570 (.iconst 0) 1 571 := by decide +kernel
theorem dL_law_571 : DD cL_law 571 (.ireturn) 1 572 := by decide +kernel
theorem dL_law_572 : DD cL_law 572 (.aload_n 1) 1 573 := by decide +kernel
theorem dL_law_573 : DD cL_law 573 (.aload_n 0) 1 574 := by decide +kernel
theorem dL_law_574 : DD cL_law 574 (.iload_n 3) 1 575 := by decide +kernel
theorem dL_law_575 : DD cL_law 575 (.iconst 1) 1 576 := by decide +kernel
theorem dL_law_576 : DD cL_law 576 (.iadd) 1 577 := by decide +kernel
theorem dL_law_577 : DD cL_law 577 (.iaload) 1 578 := by decide +kernel
theorem dL_law_578 : DD cL_law 578 (.aload_n 0) 1 579 := by decide +kernel
theorem dL_law_579 : DD cL_law 579 (.iload_n 3) 1 580 := by decide +kernel
theorem dL_law_580 : DD cL_law 580 (.iconst 2) 1 581 := by decide +kernel
theorem dL_law_581 : DD cL_law 581 (.iadd) 1 582 := by decide +kernel
theorem dL_law_582 : DD cL_law 582 (.iaload) 1 583 := by decide +kernel
theorem dL_law_583 : DD cL_law 583 (.invokevirtual 74) 3 586 := by decide +kernel
theorem dL_law_586 : DD cL_law 586 (.aload_n 2) 1 587 := by decide +kernel
theorem dL_law_587 : DD cL_law 587 (.aload_n 0) 1 588 := by decide +kernel
theorem dL_law_588 : DD cL_law 588 (.iload_n 3) 1 589 := by decide +kernel
theorem dL_law_589 : DD cL_law 589 (.iconst 1) 1 590 := by decide +kernel
theorem dL_law_590 : DD cL_law 590 (.iadd) 1 591 := by decide +kernel
theorem dL_law_591 : DD cL_law 591 (.iaload) 1 592 := by decide +kernel
theorem dL_law_592 : DD cL_law 592 (.aload_n 0) 1 593 := by decide +kernel
theorem dL_law_593 : DD cL_law 593 (.iload_n 3) 1 594 := by decide +kernel
theorem dL_law_594 : DD cL_law 594 (.iconst 2) 1 595 := by decide +kernel
theorem dL_law_595 : DD cL_law 595 (.iadd) 1 596 := by decide +kernel
theorem dL_law_596 : DD cL_law 596 (.iaload) 1 597 := by decide +kernel
theorem dL_law_597 : DD cL_law 597 (.invokevirtual 77) 3 600 := by decide +kernel
theorem dL_law_600 : DD cL_law 600 (.if_icmp .eq 549) 3 603 := by decide +kernel
theorem dL_law_603 : DD cL_law 603 (.iconst 0) 1 604 := by decide +kernel
theorem dL_law_604 : DD cL_law 604 (.ireturn) 1 605 := by decide +kernel
theorem dL_law_605 : DD cL_law 605 (.aload_n 1) 1 606 := by decide +kernel
theorem dL_law_606 : DD cL_law 606 (.aload_n 0) 1 607 := by decide +kernel
theorem dL_law_607 : DD cL_law 607 (.iload_n 3) 1 608 := by decide +kernel
theorem dL_law_608 : DD cL_law 608 (.iconst 1) 1 609 := by decide +kernel
theorem dL_law_609 : DD cL_law 609 (.iadd) 1 610 := by decide +kernel
theorem dL_law_610 : DD cL_law 610 (.iaload) 1 611 := by decide +kernel
theorem dL_law_611 : DD cL_law 611 (.aload_n 0) 1 612 := by decide +kernel
theorem dL_law_612 : DD cL_law 612 (.iload_n 3) 1 613 := by decide +kernel
theorem dL_law_613 : DD cL_law 613 (.iconst 2) 1 614 := by decide +kernel
theorem dL_law_614 : DD cL_law 614 (.iadd) 1 615 := by decide +kernel
theorem dL_law_615 : DD cL_law 615 (.iaload) 1 616 := by decide +kernel
theorem dL_law_616 : DD cL_law 616 (.invokevirtual 78) 3 619 := by decide +kernel
theorem dL_law_619 : DD cL_law 619 (.aload_n 2) 1 620 := by decide +kernel
theorem dL_law_620 : DD cL_law 620 (.aload_n 0) 1 621 := by decide +kernel
theorem dL_law_621 : DD cL_law 621 (.iload_n 3) 1 622 := by decide +kernel
theorem dL_law_622 : DD cL_law 622 (.iconst 1) 1 623 := by decide +kernel
theorem dL_law_623 : DD cL_law 623 (.iadd) 1 624 := by decide +kernel
theorem dL_law_624 : DD cL_law 624 (.iaload) 1 625 := by decide +kernel
theorem dL_law_625 : DD cL_law 625 (.aload_n 0) 1 626 := by decide +kernel
theorem dL_law_626 : DD cL_law 626 (.iload_n 3) 1 627 := by decide +kernel
theorem dL_law_627 : DD cL_law 627 (.iconst 2) 1 628 := by decide +kernel
theorem dL_law_628 : DD cL_law 628 (.iadd) 1 629 := by decide +kernel
theorem dL_law_629 : DD cL_law 629 (.iaload) 1 630 := by decide +kernel
theorem dL_law_630 : DD cL_law 630 (.invokevirtual 81) 3 633 := by decide +kernel
theorem dL_law_633 : DD cL_law 633 (.if_icmp .eq 516) 3 636 := by decide +kernel
theorem dL_law_636 : DD cL_law 636 (.iconst 0) 1 637 := by decide +kernel
theorem dL_law_637 : DD cL_law 637 (.ireturn) 1 638 := by decide +kernel
theorem dL_law_638 : DD cL_law 638 (.aload_n 1) 1 639 := by decide +kernel
theorem dL_law_639 : DD cL_law 639 (.invokevirtual 82) 3 642 := by decide +kernel
theorem dL_law_642 : DD cL_law 642 (.aload_n 2) 1 643 := by decide +kernel
theorem dL_law_643 : DD cL_law 643 (.invokevirtual 85) 3 646 := by decide +kernel
theorem dL_law_646 : DD cL_law 646 (.if_icmp .eq 503) 3 649 := by decide +kernel
theorem dL_law_649 : DD cL_law 649 (.iconst 0) 1 650 := by decide +kernel
theorem dL_law_650 : DD cL_law 650 (.ireturn) 1 651 := by decide +kernel
theorem dL_law_651 : DD cL_law 651 (.aload_n 1) 1 652 := by decide +kernel
theorem dL_law_652 : DD cL_law 652 (.aload_n 0) 1 653 := by decide +kernel
theorem dL_law_653 : DD cL_law 653 (.iload_n 3) 1 654 := by decide +kernel
theorem dL_law_654 : DD cL_law 654 (.iconst 1) 1 655 := by decide +kernel
theorem dL_law_655 : DD cL_law 655 (.iadd) 1 656 := by decide +kernel
theorem dL_law_656 : DD cL_law 656 (.iaload) 1 657 := by decide +kernel
theorem dL_law_657 : DD cL_law 657 (.invokevirtual 86) 3 660 := by decide +kernel
theorem dL_law_660 : DD cL_law 660 (.aload_n 2) 1 661 := by decide +kernel
theorem dL_law_661 : DD cL_law 661 (.aload_n 0) 1 662 := by decide +kernel
theorem dL_law_662 : DD cL_law 662 (.iload_n 3) 1 663 := by decide +kernel
theorem dL_law_663 : DD cL_law 663 (.iconst 1) 1 664 := by decide +kernel
theorem dL_law_664 : DD cL_law 664 (.iadd) 1 665 := by decide +kernel
theorem dL_law_665 : DD cL_law 665 (.iaload) 1 666 := by decide +kernel
theorem dL_law_666 : DD cL_law 666 (.invokevirtual 89) 3 669 := by decide +kernel
theorem dL_law_669 : DD cL_law 669 (.if_icmp .eq 480) 3 672 := by decide +kernel
theorem dL_law_672 : DD cL_law 672 (.iconst 0) 1 673 := by decide +kernel
theorem dL_law_673 : DD cL_law 673 (.ireturn) 1 674 := by decide +kernel
theorem dL_law_674 : DD cL_law 674 (.aload_n 1) 1 675 := by decide +kernel
theorem dL_law_675 : DD cL_law 675 (.aload_n 0) 1 676 := by decide +kernel
theorem dL_law_676 : DD cL_law 676 (.iload_n 3) 1 677 := by decide +kernel
theorem dL_law_677 : DD cL_law 677 (.iconst 1) 1 678 := by decide +kernel
theorem dL_law_678 : DD cL_law 678 (.iadd) 1 679 := by decide +kernel
theorem dL_law_679 : DD cL_law 679 (.iaload) 1 680 := by decide +kernel
theorem dL_law_680 : DD cL_law 680 (.aload_n 0) 1 681 := by decide +kernel
theorem dL_law_681 : DD cL_law 681 (.iload_n 3) 1 682 := by decide +kernel
theorem dL_law_682 : DD cL_law 682 (.iconst 2) 1 683 := by decide +kernel
theorem dL_law_683 : DD cL_law 683 (.iadd) 1 684 := by decide +kernel
theorem dL_law_684 : DD cL_law 684 (.iaload) 1 685 := by decide +kernel
theorem dL_law_685 : DD cL_law 685 (.invokevirtual 90) 3 688 := by decide +kernel
theorem dL_law_688 : DD cL_law 688 (.aload_n 2) 1 689 := by decide +kernel
theorem dL_law_689 : DD cL_law 689 (.aload_n 0) 1 690 := by decide +kernel
theorem dL_law_690 : DD cL_law 690 (.iload_n 3) 1 691 := by decide +kernel
theorem dL_law_691 : DD cL_law 691 (.iconst 1) 1 692 := by decide +kernel
theorem dL_law_692 : DD cL_law 692 (.iadd) 1 693 := by decide +kernel
theorem dL_law_693 : DD cL_law 693 (.iaload) 1 694 := by decide +kernel
theorem dL_law_694 : DD cL_law 694 (.aload_n 0) 1 695 := by decide +kernel
theorem dL_law_695 : DD cL_law 695 (.iload_n 3) 1 696 := by decide +kernel
theorem dL_law_696 : DD cL_law 696 (.iconst 2) 1 697 := by decide +kernel
theorem dL_law_697 : DD cL_law 697 (.iadd) 1 698 := by decide +kernel
theorem dL_law_698 : DD cL_law 698 (.iaload) 1 699 := by decide +kernel
theorem dL_law_699 : DD cL_law 699 (.invokevirtual 93) 3 702 := by decide +kernel
theorem dL_law_702 : DD cL_law 702 (.if_icmp .eq 447) 3 705 := by decide +kernel
theorem dL_law_705 : DD cL_law 705 (.iconst 0) 1 706 := by decide +kernel
theorem dL_law_706 : DD cL_law 706 (.ireturn) 1 707 := by decide +kernel
theorem dL_law_707 : DD cL_law 707 (.aload_n 1) 1 708 := by decide +kernel
theorem dL_law_708 : DD cL_law 708 (.aload_n 0) 1 709 := by decide +kernel
theorem dL_law_709 : DD cL_law 709 (.iload_n 3) 1 710 := by decide +kernel
theorem dL_law_710 : DD cL_law 710 (.iconst 1) 1 711 := by decide +kernel
theorem dL_law_711 : DD cL_law 711 (.iadd) 1 712 := by decide +kernel
theorem dL_law_712 : DD cL_law 712 (.iaload) 1 713 := by decide +kernel
theorem dL_law_713 : DD cL_law 713 (.aload_n 0) 1 714 := by decide +kernel
theorem dL_law_714 : DD cL_law 714 (.iload_n 3) 1 715 := by decide +kernel
theorem dL_law_715 : DD cL_law 715 (.iconst 2) 1 716 := by decide +kernel
theorem dL_law_716 : DD cL_law 716 (.iadd) 1 717 := by decide +kernel
theorem dL_law_717 : DD cL_law 717 (.iaload) 1 718 := by decide +kernel
theorem dL_law_718 : DD cL_law 718 (.invokevirtual 94) 3 721 := by decide +kernel
theorem dL_law_721 : DD cL_law 721 (.aload_n 2) 1 722 := by decide +kernel
theorem dL_law_722 : DD cL_law 722 (.aload_n 0) 1 723 := by decide +kernel
theorem dL_law_723 : DD cL_law 723 (.iload_n 3) 1 724 := by decide +kernel
theorem dL_law_724 : DD cL_law 724 (.iconst 1) 1 725 := by decide +kernel
theorem dL_law_725 : DD cL_law 725 (.iadd) 1 726 := by decide +kernel
theorem dL_law_726 : DD cL_law 726 (.iaload) 1 727 := by decide +kernel
theorem dL_law_727 : DD cL_law 727 (.aload_n 0) 1 728 := by decide +kernel
theorem dL_law_728 : DD cL_law 728 (.iload_n 3) 1 729 := by decide +kernel
theorem dL_law_729 : DD cL_law 729 (.iconst 2) 1 730 := by decide +kernel
theorem dL_law_730 : DD cL_law 730 (.iadd) 1 731 := by decide +kernel
theorem dL_law_731 : DD cL_law 731 (.iaload) 1 732 := by decide +kernel
theorem dL_law_732 : DD cL_law 732 (.invokevirtual 97) 3 735 := by decide +kernel
theorem dL_law_735 : DD cL_law 735 (.if_icmp .eq 414) 3 738 := by decide +kernel
theorem dL_law_738 : DD cL_law 738 (.iconst 0) 1 739 := by decide +kernel
theorem dL_law_739 : DD cL_law 739 (.ireturn) 1 740 := by decide +kernel
theorem dL_law_740 : DD cL_law 740 (.aload_n 1) 1 741 := by decide +kernel
theorem dL_law_741 : DD cL_law 741 (.aload_n 0) 1 742 := by decide +kernel
theorem dL_law_742 : DD cL_law 742 (.iload_n 3) 1 743 := by decide +kernel
theorem dL_law_743 : DD cL_law 743 (.iconst 1) 1 744 := by decide +kernel
theorem dL_law_744 : DD cL_law 744 (.iadd) 1 745 := by decide +kernel
theorem dL_law_745 : DD cL_law 745 (.iaload) 1 746 := by decide +kernel
theorem dL_law_746 : DD cL_law 746 (.aload_n 0) 1 747 := by decide +kernel
theorem dL_law_747 : DD cL_law 747 (.iload_n 3) 1 748 := by decide +kernel
theorem dL_law_748 : DD cL_law 748 (.iconst 2) 1 749 := by decide +kernel
theorem dL_law_749 : DD cL_law 749 (.iadd) 1 750 := by decide +kernel
theorem dL_law_750 : DD cL_law 750 (.iaload) 1 751 := by decide +kernel
theorem dL_law_751 : DD cL_law 751 (.invokevirtual 98) 3 754 := by decide +kernel
theorem dL_law_754 : DD cL_law 754 (.aload_n 2) 1 755 := by decide +kernel
theorem dL_law_755 : DD cL_law 755 (.aload_n 0) 1 756 := by decide +kernel
theorem dL_law_756 : DD cL_law 756 (.iload_n 3) 1 757 := by decide +kernel
theorem dL_law_757 : DD cL_law 757 (.iconst 1) 1 758 := by decide +kernel
theorem dL_law_758 : DD cL_law 758 (.iadd) 1 759 := by decide +kernel
theorem dL_law_759 : DD cL_law 759 (.iaload) 1 760 := by decide +kernel
theorem dL_law_760 : DD cL_law 760 (.aload_n 0) 1 761 := by decide +kernel
theorem dL_law_761 : DD cL_law 761 (.iload_n 3) 1 762 := by decide +kernel
theorem dL_law_762 : DD cL_law 762 (.iconst 2) 1 763 := by decide +kernel
theorem dL_law_763 : DD cL_law 763 (.iadd) 1 764 := by decide +kernel
theorem dL_law_764 : DD cL_law 764 (.iaload) 1 765 := by decide +kernel
theorem dL_law_765 : DD cL_law 765 (.invokevirtual 101) 3 768 := by decide +kernel
theorem dL_law_768 : DD cL_law 768 (.if_icmp .eq 381) 3 771 := by decide +kernel
theorem dL_law_771 : DD cL_law 771 (.iconst 0) 1 772 := by decide +kernel
theorem dL_law_772 : DD cL_law 772 (.ireturn) 1 773 := by decide +kernel
theorem dL_law_773 : DD cL_law 773 (.aload_n 1) 1 774 := by decide +kernel
theorem dL_law_774 : DD cL_law 774 (.aload_n 0) 1 775 := by decide +kernel
theorem dL_law_775 : DD cL_law 775 (.iload_n 3) 1 776 := by decide +kernel
theorem dL_law_776 : DD cL_law 776 (.iconst 1) 1 777 := by decide +kernel
theorem dL_law_777 : DD cL_law 777 (.iadd) 1 778 := by decide +kernel
theorem dL_law_778 : DD cL_law 778 (.iaload) 1 779 := by decide +kernel
theorem dL_law_779 : DD cL_law 779 (.aload_n 0) 1 780 := by decide +kernel
theorem dL_law_780 : DD cL_law 780 (.iload_n 3) 1 781 := by decide +kernel
theorem dL_law_781 : DD cL_law 781 (.iconst 2) 1 782 := by decide +kernel
theorem dL_law_782 : DD cL_law 782 (.iadd) 1 783 := by decide +kernel
theorem dL_law_783 : DD cL_law 783 (.iaload) 1 784 := by decide +kernel
theorem dL_law_784 : DD cL_law 784 (.invokevirtual 102) 3 787 := by decide +kernel
theorem dL_law_787 : DD cL_law 787 (.aload_n 2) 1 788 := by decide +kernel
theorem dL_law_788 : DD cL_law 788 (.aload_n 0) 1 789 := by decide +kernel
theorem dL_law_789 : DD cL_law 789 (.iload_n 3) 1 790 := by decide +kernel
theorem dL_law_790 : DD cL_law 790 (.iconst 1) 1 791 := by decide +kernel
theorem dL_law_791 : DD cL_law 791 (.iadd) 1 792 := by decide +kernel
theorem dL_law_792 : DD cL_law 792 (.iaload) 1 793 := by decide +kernel
theorem dL_law_793 : DD cL_law 793 (.aload_n 0) 1 794 := by decide +kernel
theorem dL_law_794 : DD cL_law 794 (.iload_n 3) 1 795 := by decide +kernel
theorem dL_law_795 : DD cL_law 795 (.iconst 2) 1 796 := by decide +kernel
theorem dL_law_796 : DD cL_law 796 (.iadd) 1 797 := by decide +kernel
theorem dL_law_797 : DD cL_law 797 (.iaload) 1 798 := by decide +kernel
theorem dL_law_798 : DD cL_law 798 (.invokevirtual 105) 3 801 := by decide +kernel
theorem dL_law_801 : DD cL_law 801 (.if_icmp .eq 348) 3 804 := by decide +kernel
theorem dL_law_804 : DD cL_law 804 (.iconst 0) 1 805 := by decide +kernel
theorem dL_law_805 : DD cL_law 805 (.ireturn) 1 806 := by decide +kernel
theorem dL_law_806 : DD cL_law 806 (.aload_n 1) 1 807 := by decide +kernel
theorem dL_law_807 : DD cL_law 807 (.aload_n 0) 1 808 := by decide +kernel
theorem dL_law_808 : DD cL_law 808 (.iload_n 3) 1 809 := by decide +kernel
theorem dL_law_809 : DD cL_law 809 (.iconst 1) 1 810 := by decide +kernel
theorem dL_law_810 : DD cL_law 810 (.iadd) 1 811 := by decide +kernel
theorem dL_law_811 : DD cL_law 811 (.iaload) 1 812 := by decide +kernel
theorem dL_law_812 : DD cL_law 812 (.aload_n 0) 1 813 := by decide +kernel
theorem dL_law_813 : DD cL_law 813 (.iload_n 3) 1 814 := by decide +kernel
theorem dL_law_814 : DD cL_law 814 (.iconst 2) 1 815 := by decide +kernel
theorem dL_law_815 : DD cL_law 815 (.iadd) 1 816 := by decide +kernel
theorem dL_law_816 : DD cL_law 816 (.iaload) 1 817 := by decide +kernel
theorem dL_law_817 : DD cL_law 817 (.aload_n 0) 1 818 := by decide +kernel
theorem dL_law_818 : DD cL_law 818 (.iload_n 3) 1 819 := by decide +kernel
theorem dL_law_819 : DD cL_law 819 (.iconst 3) 1 820 := by decide +kernel
theorem dL_law_820 : DD cL_law 820 (.iadd) 1 821 := by decide +kernel
theorem dL_law_821 : DD cL_law 821 (.iaload) 1 822 := by decide +kernel
theorem dL_law_822 : DD cL_law 822 (.aload_n 0) 1 823 := by decide +kernel
theorem dL_law_823 : DD cL_law 823 (.iload_n 3) 1 824 := by decide +kernel
theorem dL_law_824 : DD cL_law 824 (.iconst 4) 1 825 := by decide +kernel
theorem dL_law_825 : DD cL_law 825 (.iadd) 1 826 := by decide +kernel
theorem dL_law_826 : DD cL_law 826 (.iaload) 1 827 := by decide +kernel
theorem dL_law_827 : DD cL_law 827 (.aload_n 0) 1 828 := by decide +kernel
theorem dL_law_828 : DD cL_law 828 (.iload_n 3) 1 829 := by decide +kernel
theorem dL_law_829 : DD cL_law 829 (.iconst 5) 1 830 := by decide +kernel
theorem dL_law_830 : DD cL_law 830 (.iadd) 1 831 := by decide +kernel
theorem dL_law_831 : DD cL_law 831 (.iaload) 1 832 := by decide +kernel
theorem dL_law_832 : DD cL_law 832 (.invokevirtual 106) 3 835 := by decide +kernel
theorem dL_law_835 : DD cL_law 835 (.aload_n 2) 1 836 := by decide +kernel
theorem dL_law_836 : DD cL_law 836 (.aload_n 0) 1 837 := by decide +kernel
theorem dL_law_837 : DD cL_law 837 (.iload_n 3) 1 838 := by decide +kernel
theorem dL_law_838 : DD cL_law 838 (.iconst 1) 1 839 := by decide +kernel
theorem dL_law_839 : DD cL_law 839 (.iadd) 1 840 := by decide +kernel
theorem dL_law_840 : DD cL_law 840 (.iaload) 1 841 := by decide +kernel
theorem dL_law_841 : DD cL_law 841 (.aload_n 0) 1 842 := by decide +kernel
theorem dL_law_842 : DD cL_law 842 (.iload_n 3) 1 843 := by decide +kernel
theorem dL_law_843 : DD cL_law 843 (.iconst 2) 1 844 := by decide +kernel
theorem dL_law_844 : DD cL_law 844 (.iadd) 1 845 := by decide +kernel
theorem dL_law_845 : DD cL_law 845 (.iaload) 1 846 := by decide +kernel
theorem dL_law_846 : DD cL_law 846 (.aload_n 0) 1 847 := by decide +kernel
theorem dL_law_847 : DD cL_law 847 (.iload_n 3) 1 848 := by decide +kernel
theorem dL_law_848 : DD cL_law 848 (.iconst 3) 1 849 := by decide +kernel
theorem dL_law_849 : DD cL_law 849 (.iadd) 1 850 := by decide +kernel
theorem dL_law_850 : DD cL_law 850 (.iaload) 1 851 := by decide +kernel
theorem dL_law_851 : DD cL_law 851 (.aload_n 0) 1 852 := by decide +kernel
theorem dL_law_852 : DD cL_law 852 (.iload_n 3) 1 853 := by decide +kernel
theorem dL_law_853 : DD cL_law 853 (.iconst 4) 1 854 := by decide +kernel
theorem dL_law_854 : DD cL_law 854 (.iadd) 1 855 := by decide +kernel
theorem dL_law_855 : DD cL_law 855 (.iaload) 1 856 := by decide +kernel
theorem dL_law_856 : DD cL_law 856 (.aload_n 0) 1 857 := by decide +kernel
theorem dL_law_857 : DD cL_law 857 (.iload_n 3) 1 858 := by decide +kernel
theorem dL_law_858 : DD cL_law 858 (.iconst 5) 1 859 := by decide +kernel
theorem dL_law_859 : DD cL_law 859 (.iadd) 1 860 := by decide +kernel
theorem dL_law_860 : DD cL_law 860 (.iaload) 1 861 := by decide +kernel
theorem dL_law_861 : DD cL_law 861 (.invokevirtual 109) 3 864 := by decide +kernel
theorem dL_law_864 : DD cL_law 864 (.if_icmp .eq 285) 3 867 := by decide +kernel
theorem dL_law_867 : DD cL_law 867 (.iconst 0) 1 868 := by decide +kernel
theorem dL_law_868 : DD cL_law 868 (.ireturn) 1 869 := by decide +kernel
theorem dL_law_869 : DD cL_law 869 (.aload_n 1) 1 870 := by decide +kernel
theorem dL_law_870 : DD cL_law 870 (.aload_n 0) 1 871 := by decide +kernel
theorem dL_law_871 : DD cL_law 871 (.iload_n 3) 1 872 := by decide +kernel
theorem dL_law_872 : DD cL_law 872 (.iconst 1) 1 873 := by decide +kernel
theorem dL_law_873 : DD cL_law 873 (.iadd) 1 874 := by decide +kernel
theorem dL_law_874 : DD cL_law 874 (.iaload) 1 875 := by decide +kernel
theorem dL_law_875 : DD cL_law 875 (.aload_n 0) 1 876 := by decide +kernel
theorem dL_law_876 : DD cL_law 876 (.iload_n 3) 1 877 := by decide +kernel
theorem dL_law_877 : DD cL_law 877 (.iconst 2) 1 878 := by decide +kernel
theorem dL_law_878 : DD cL_law 878 (.iadd) 1 879 := by decide +kernel
theorem dL_law_879 : DD cL_law 879 (.iaload) 1 880 := by decide +kernel
theorem dL_law_880 : DD cL_law 880 (.aload_n 0) 1 881 := by decide +kernel
theorem dL_law_881 : DD cL_law 881 (.iload_n 3) 1 882 := by decide +kernel
theorem dL_law_882 : DD cL_law 882 (.iconst 3) 1 883 := by decide +kernel
theorem dL_law_883 : DD cL_law 883 (.iadd) 1 884 := by decide +kernel
theorem dL_law_884 : DD cL_law 884 (.iaload) 1 885 := by decide +kernel
theorem dL_law_885 : DD cL_law 885 (.invokevirtual 110) 3 888 := by decide +kernel
theorem dL_law_888 : DD cL_law 888 (.aload_n 2) 1 889 := by decide +kernel
theorem dL_law_889 : DD cL_law 889 (.aload_n 0) 1 890 := by decide +kernel
theorem dL_law_890 : DD cL_law 890 (.iload_n 3) 1 891 := by decide +kernel
theorem dL_law_891 : DD cL_law 891 (.iconst 1) 1 892 := by decide +kernel
theorem dL_law_892 : DD cL_law 892 (.iadd) 1 893 := by decide +kernel
theorem dL_law_893 : DD cL_law 893 (.iaload) 1 894 := by decide +kernel
theorem dL_law_894 : DD cL_law 894 (.aload_n 0) 1 895 := by decide +kernel
theorem dL_law_895 : DD cL_law 895 (.iload_n 3) 1 896 := by decide +kernel
theorem dL_law_896 : DD cL_law 896 (.iconst 2) 1 897 := by decide +kernel
theorem dL_law_897 : DD cL_law 897 (.iadd) 1 898 := by decide +kernel
theorem dL_law_898 : DD cL_law 898 (.iaload) 1 899 := by decide +kernel
theorem dL_law_899 : DD cL_law 899 (.aload_n 0) 1 900 := by decide +kernel
theorem dL_law_900 : DD cL_law 900 (.iload_n 3) 1 901 := by decide +kernel
theorem dL_law_901 : DD cL_law 901 (.iconst 3) 1 902 := by decide +kernel
theorem dL_law_902 : DD cL_law 902 (.iadd) 1 903 := by decide +kernel
theorem dL_law_903 : DD cL_law 903 (.iaload) 1 904 := by decide +kernel
theorem dL_law_904 : DD cL_law 904 (.invokevirtual 113) 3 907 := by decide +kernel
theorem dL_law_907 : DD cL_law 907 (.if_icmp .eq 242) 3 910 := by decide +kernel
theorem dL_law_910 : DD cL_law 910 (.iconst 0) 1 911 := by decide +kernel
theorem dL_law_911 : DD cL_law 911 (.ireturn) 1 912 := by decide +kernel
theorem dL_law_912 : DD cL_law 912 (.aload_n 1) 1 913 := by decide +kernel
theorem dL_law_913 : DD cL_law 913 (.aload_n 0) 1 914 := by decide +kernel
theorem dL_law_914 : DD cL_law 914 (.iload_n 3) 1 915 := by decide +kernel
theorem dL_law_915 : DD cL_law 915 (.iconst 1) 1 916 := by decide +kernel
theorem dL_law_916 : DD cL_law 916 (.iadd) 1 917 := by decide +kernel
theorem dL_law_917 : DD cL_law 917 (.iaload) 1 918 := by decide +kernel
theorem dL_law_918 : DD cL_law 918 (.aload_n 0) 1 919 := by decide +kernel
theorem dL_law_919 : DD cL_law 919 (.iload_n 3) 1 920 := by decide +kernel
theorem dL_law_920 : DD cL_law 920 (.iconst 2) 1 921 := by decide +kernel
theorem dL_law_921 : DD cL_law 921 (.iadd) 1 922 := by decide +kernel
theorem dL_law_922 : DD cL_law 922 (.iaload) 1 923 := by decide +kernel
theorem dL_law_923 : DD cL_law 923 (.aload_n 0) 1 924 := by decide +kernel
theorem dL_law_924 : DD cL_law 924 (.iload_n 3) 1 925 := by decide +kernel
theorem dL_law_925 : DD cL_law 925 (.iconst 3) 1 926 := by decide +kernel
theorem dL_law_926 : DD cL_law 926 (.iadd) 1 927 := by decide +kernel
theorem dL_law_927 : DD cL_law 927 (.iaload) 1 928 := by decide +kernel
theorem dL_law_928 : DD cL_law 928 (.invokevirtual 114) 3 931 := by decide +kernel
theorem dL_law_931 : DD cL_law 931 (.aload_n 2) 1 932 := by decide +kernel
theorem dL_law_932 : DD cL_law 932 (.aload_n 0) 1 933 := by decide +kernel
theorem dL_law_933 : DD cL_law 933 (.iload_n 3) 1 934 := by decide +kernel
theorem dL_law_934 : DD cL_law 934 (.iconst 1) 1 935 := by decide +kernel
theorem dL_law_935 : DD cL_law 935 (.iadd) 1 936 := by decide +kernel
theorem dL_law_936 : DD cL_law 936 (.iaload) 1 937 := by decide +kernel
theorem dL_law_937 : DD cL_law 937 (.aload_n 0) 1 938 := by decide +kernel
theorem dL_law_938 : DD cL_law 938 (.iload_n 3) 1 939 := by decide +kernel
theorem dL_law_939 : DD cL_law 939 (.iconst 2) 1 940 := by decide +kernel
theorem dL_law_940 : DD cL_law 940 (.iadd) 1 941 := by decide +kernel
theorem dL_law_941 : DD cL_law 941 (.iaload) 1 942 := by decide +kernel
theorem dL_law_942 : DD cL_law 942 (.aload_n 0) 1 943 := by decide +kernel
theorem dL_law_943 : DD cL_law 943 (.iload_n 3) 1 944 := by decide +kernel
theorem dL_law_944 : DD cL_law 944 (.iconst 3) 1 945 := by decide +kernel
theorem dL_law_945 : DD cL_law 945 (.iadd) 1 946 := by decide +kernel
theorem dL_law_946 : DD cL_law 946 (.iaload) 1 947 := by decide +kernel
theorem dL_law_947 : DD cL_law 947 (.invokevirtual 117) 3 950 := by decide +kernel
theorem dL_law_950 : DD cL_law 950 (.if_icmp .eq 199) 3 953 := by decide +kernel
theorem dL_law_953 : DD cL_law 953 (.iconst 0) 1 954 := by decide +kernel
theorem dL_law_954 : DD cL_law 954 (.ireturn) 1 955 := by decide +kernel
theorem dL_law_955 : DD cL_law 955 (.aload_n 1) 1 956 := by decide +kernel
theorem dL_law_956 : DD cL_law 956 (.aload_n 0) 1 957 := by decide +kernel
theorem dL_law_957 : DD cL_law 957 (.iload_n 3) 1 958 := by decide +kernel
theorem dL_law_958 : DD cL_law 958 (.iconst 1) 1 959 := by decide +kernel
theorem dL_law_959 : DD cL_law 959 (.iadd) 1 960 := by decide +kernel
theorem dL_law_960 : DD cL_law 960 (.iaload) 1 961 := by decide +kernel
theorem dL_law_961 : DD cL_law 961 (.invokevirtual 118) 3 964 := by decide +kernel
theorem dL_law_964 : DD cL_law 964 (.aload_n 2) 1 965 := by decide +kernel
theorem dL_law_965 : DD cL_law 965 (.aload_n 0) 1 966 := by decide +kernel
theorem dL_law_966 : DD cL_law 966 (.iload_n 3) 1 967 := by decide +kernel
theorem dL_law_967 : DD cL_law 967 (.iconst 1) 1 968 := by decide +kernel
theorem dL_law_968 : DD cL_law 968 (.iadd) 1 969 := by decide +kernel
theorem dL_law_969 : DD cL_law 969 (.iaload) 1 970 := by decide +kernel
theorem dL_law_970 : DD cL_law 970 (.invokevirtual 121) 3 973 := by decide +kernel
theorem dL_law_973 : DD cL_law 973 (.if_icmp .eq 176) 3 976 := by decide +kernel
theorem dL_law_976 : DD cL_law 976 (.iconst 0) 1 977 := by decide +kernel
theorem dL_law_977 : DD cL_law 977 (.ireturn) 1 978 := by decide +kernel
theorem dL_law_978 : DD cL_law 978 (.aload_n 1) 1 979 := by decide +kernel
theorem dL_law_979 : DD cL_law 979 (.aload_n 0) 1 980 := by decide +kernel
theorem dL_law_980 : DD cL_law 980 (.iload_n 3) 1 981 := by decide +kernel
theorem dL_law_981 : DD cL_law 981 (.iconst 1) 1 982 := by decide +kernel
theorem dL_law_982 : DD cL_law 982 (.iadd) 1 983 := by decide +kernel
theorem dL_law_983 : DD cL_law 983 (.iaload) 1 984 := by decide +kernel
theorem dL_law_984 : DD cL_law 984 (.invokevirtual 122) 3 987 := by decide +kernel
theorem dL_law_987 : DD cL_law 987 (.aload_n 2) 1 988 := by decide +kernel
theorem dL_law_988 : DD cL_law 988 (.aload_n 0) 1 989 := by decide +kernel
theorem dL_law_989 : DD cL_law 989 (.iload_n 3) 1 990 := by decide +kernel
theorem dL_law_990 : DD cL_law 990 (.iconst 1) 1 991 := by decide +kernel
theorem dL_law_991 : DD cL_law 991 (.iadd) 1 992 := by decide +kernel
theorem dL_law_992 : DD cL_law 992 (.iaload) 1 993 := by decide +kernel
theorem dL_law_993 : DD cL_law 993 (.invokevirtual 125) 3 996 := by decide +kernel
theorem dL_law_996 : DD cL_law 996 (.if_icmp .eq 153) 3 999 := by decide +kernel
theorem dL_law_999 : DD cL_law 999 (.iconst 0) 1 1000 := by decide +kernel
theorem dL_law_1000 : DD cL_law 1000 (.ireturn) 1 1001 := by decide +kernel
theorem dL_law_1001 : DD cL_law 1001 (.aload_n 1) 1 1002 := by decide +kernel
theorem dL_law_1002 : DD cL_law 1002 (.aload_n 0) 1 1003 := by decide +kernel
theorem dL_law_1003 : DD cL_law 1003 (.iload_n 3) 1 1004 := by decide +kernel
theorem dL_law_1004 : DD cL_law 1004 (.iconst 1) 1 1005 := by decide +kernel
theorem dL_law_1005 : DD cL_law 1005 (.iadd) 1 1006 := by decide +kernel
theorem dL_law_1006 : DD cL_law 1006 (.iaload) 1 1007 := by decide +kernel
theorem dL_law_1007 : DD cL_law 1007 (.invokevirtual 126) 3 1010 := by decide +kernel
theorem dL_law_1010 : DD cL_law 1010 (.aload_n 2) 1 1011 := by decide +kernel
theorem dL_law_1011 : DD cL_law 1011 (.aload_n 0) 1 1012 := by decide +kernel
theorem dL_law_1012 : DD cL_law 1012 (.iload_n 3) 1 1013 := by decide +kernel
theorem dL_law_1013 : DD cL_law 1013 (.iconst 1) 1 1014 := by decide +kernel
theorem dL_law_1014 : DD cL_law 1014 (.iadd) 1 1015 := by decide +kernel
theorem dL_law_1015 : DD cL_law 1015 (.iaload) 1 1016 := by decide +kernel
theorem dL_law_1016 : DD cL_law 1016 (.invokevirtual 129) 3 1019 := by decide +kernel
theorem dL_law_1019 : DD cL_law 1019 (.if_icmp .eq 130) 3 1022 := by decide +kernel
theorem dL_law_1022 : DD cL_law 1022 (.iconst 0) 1 1023 := by decide +kernel
theorem dL_law_1023 : DD cL_law 1023 (.ireturn) 1 1024 := by decide +kernel
theorem dL_law_1024 : DD cL_law 1024 (.aload_n 1) 1 1025 := by decide +kernel
theorem dL_law_1025 : DD cL_law 1025 (.aload_n 0) 1 1026 := by decide +kernel
theorem dL_law_1026 : DD cL_law 1026 (.iload_n 3) 1 1027 := by decide +kernel
theorem dL_law_1027 : DD cL_law 1027 (.iconst 1) 1 1028 := by decide +kernel
theorem dL_law_1028 : DD cL_law 1028 (.iadd) 1 1029 := by decide +kernel
theorem dL_law_1029 : DD cL_law 1029 (.iaload) 1 1030 := by decide +kernel
theorem dL_law_1030 : DD cL_law 1030 (.aload_n 0) 1 1031 := by decide +kernel
theorem dL_law_1031 : DD cL_law 1031 (.iload_n 3) 1 1032 := by decide +kernel
theorem dL_law_1032 : DD cL_law 1032 (.iconst 2) 1 1033 := by decide +kernel
theorem dL_law_1033 : DD cL_law 1033 (.iadd) 1 1034 := by decide +kernel
theorem dL_law_1034 : DD cL_law 1034 (.iaload) 1 1035 := by decide +kernel
theorem dL_law_1035 : DD cL_law 1035 (.invokevirtual 130) 3 1038 := by decide +kernel
theorem dL_law_1038 : DD cL_law 1038 (.aload_n 2) 1 1039 := by decide +kernel
theorem dL_law_1039 : DD cL_law 1039 (.aload_n 0) 1 1040 := by decide +kernel
theorem dL_law_1040 : DD cL_law 1040 (.iload_n 3) 1 1041 := by decide +kernel
theorem dL_law_1041 : DD cL_law 1041 (.iconst 1) 1 1042 := by decide +kernel
theorem dL_law_1042 : DD cL_law 1042 (.iadd) 1 1043 := by decide +kernel
theorem dL_law_1043 : DD cL_law 1043 (.iaload) 1 1044 := by decide +kernel
theorem dL_law_1044 : DD cL_law 1044 (.aload_n 0) 1 1045 := by decide +kernel
theorem dL_law_1045 : DD cL_law 1045 (.iload_n 3) 1 1046 := by decide +kernel
theorem dL_law_1046 : DD cL_law 1046 (.iconst 2) 1 1047 := by decide +kernel
theorem dL_law_1047 : DD cL_law 1047 (.iadd) 1 1048 := by decide +kernel
theorem dL_law_1048 : DD cL_law 1048 (.iaload) 1 1049 := by decide +kernel
theorem dL_law_1049 : DD cL_law 1049 (.invokevirtual 133) 3 1052 := by decide +kernel
theorem dL_law_1052 : DD cL_law 1052 (.if_icmp .eq 97) 3 1055 := by decide +kernel
theorem dL_law_1055 : DD cL_law 1055 (.iconst 0) 1 1056 := by decide +kernel
theorem dL_law_1056 : DD cL_law 1056 (.ireturn) 1 1057 := by decide +kernel
theorem dL_law_1057 : DD cL_law 1057 (.aload_n 1) 1 1058 := by decide +kernel
theorem dL_law_1058 : DD cL_law 1058 (.aload_n 0) 1 1059 := by decide +kernel
theorem dL_law_1059 : DD cL_law 1059 (.iload_n 3) 1 1060 := by decide +kernel
theorem dL_law_1060 : DD cL_law 1060 (.iconst 1) 1 1061 := by decide +kernel
theorem dL_law_1061 : DD cL_law 1061 (.iadd) 1 1062 := by decide +kernel
theorem dL_law_1062 : DD cL_law 1062 (.iaload) 1 1063 := by decide +kernel
theorem dL_law_1063 : DD cL_law 1063 (.aload_n 0) 1 1064 := by decide +kernel
theorem dL_law_1064 : DD cL_law 1064 (.iload_n 3) 1 1065 := by decide +kernel
theorem dL_law_1065 : DD cL_law 1065 (.iconst 2) 1 1066 := by decide +kernel
theorem dL_law_1066 : DD cL_law 1066 (.iadd) 1 1067 := by decide +kernel
theorem dL_law_1067 : DD cL_law 1067 (.iaload) 1 1068 := by decide +kernel
theorem dL_law_1068 : DD cL_law 1068 (.invokevirtual 134) 3 1071 := by decide +kernel
theorem dL_law_1071 : DD cL_law 1071 (.aload_n 2) 1 1072 := by decide +kernel
theorem dL_law_1072 : DD cL_law 1072 (.aload_n 0) 1 1073 := by decide +kernel
theorem dL_law_1073 : DD cL_law 1073 (.iload_n 3) 1 1074 := by decide +kernel
theorem dL_law_1074 : DD cL_law 1074 (.iconst 1) 1 1075 := by decide +kernel
theorem dL_law_1075 : DD cL_law 1075 (.iadd) 1 1076 := by decide +kernel
theorem dL_law_1076 : DD cL_law 1076 (.iaload) 1 1077 := by decide +kernel
theorem dL_law_1077 : DD cL_law 1077 (.aload_n 0) 1 1078 := by decide +kernel
theorem dL_law_1078 : DD cL_law 1078 (.iload_n 3) 1 1079 := by decide +kernel
theorem dL_law_1079 : DD cL_law 1079 (.iconst 2) 1 1080 := by decide +kernel
theorem dL_law_1080 : DD cL_law 1080 (.iadd) 1 1081 := by decide +kernel
theorem dL_law_1081 : DD cL_law 1081 (.iaload) 1 1082 := by decide +kernel
theorem dL_law_1082 : DD cL_law 1082 (.invokevirtual 137) 3 1085 := by decide +kernel
theorem dL_law_1085 : DD cL_law 1085 (.if_icmp .eq 64) 3 1088 := by decide +kernel
theorem dL_law_1088 : DD cL_law 1088 (.iconst 0) 1 1089 := by decide +kernel
theorem dL_law_1089 : DD cL_law 1089 (.ireturn) 1 1090 := by decide +kernel
theorem dL_law_1090 : DD cL_law 1090 (.aload_n 1) 1 1091 := by decide +kernel
theorem dL_law_1091 : DD cL_law 1091 (.aload_n 0) 1 1092 := by decide +kernel
theorem dL_law_1092 : DD cL_law 1092 (.iload_n 3) 1 1093 := by decide +kernel
theorem dL_law_1093 : DD cL_law 1093 (.iconst 1) 1 1094 := by decide +kernel
theorem dL_law_1094 : DD cL_law 1094 (.iadd) 1 1095 := by decide +kernel
theorem dL_law_1095 : DD cL_law 1095 (.iaload) 1 1096 := by decide +kernel
theorem dL_law_1096 : DD cL_law 1096 (.invokevirtual 138) 3 1099 := by decide +kernel
theorem dL_law_1099 : DD cL_law 1099 (.aload_n 2) 1 1100 := by decide +kernel
theorem dL_law_1100 : DD cL_law 1100 (.aload_n 0) 1 1101 := by decide +kernel
theorem dL_law_1101 : DD cL_law 1101 (.iload_n 3) 1 1102 := by decide +kernel
theorem dL_law_1102 : DD cL_law 1102 (.iconst 1) 1 1103 := by decide +kernel
theorem dL_law_1103 : DD cL_law 1103 (.iadd) 1 1104 := by decide +kernel
theorem dL_law_1104 : DD cL_law 1104 (.iaload) 1 1105 := by decide +kernel
theorem dL_law_1105 : DD cL_law 1105 (.invokevirtual 141) 3 1108 := by decide +kernel
theorem dL_law_1108 : DD cL_law 1108 (.if_icmp .eq 41) 3 1111 := by decide +kernel
theorem dL_law_1111 : DD cL_law 1111 (.iconst 0) 1 1112 := by decide +kernel
theorem dL_law_1112 : DD cL_law 1112 (.ireturn) 1 1113 := by decide +kernel
theorem dL_law_1113 : DD cL_law 1113 (.aload_n 1) 1 1114 := by decide +kernel
theorem dL_law_1114 : DD cL_law 1114 (.aload_n 0) 1 1115 := by decide +kernel
theorem dL_law_1115 : DD cL_law 1115 (.iload_n 3) 1 1116 := by decide +kernel
theorem dL_law_1116 : DD cL_law 1116 (.iconst 1) 1 1117 := by decide +kernel
theorem dL_law_1117 : DD cL_law 1117 (.iadd) 1 1118 := by decide +kernel
theorem dL_law_1118 : DD cL_law 1118 (.iaload) 1 1119 := by decide +kernel
theorem dL_law_1119 : DD cL_law 1119 (.invokevirtual 142) 3 1122 := by decide +kernel
theorem dL_law_1122 : DD cL_law 1122 (.aload_n 2) 1 1123 := by decide +kernel
theorem dL_law_1123 : DD cL_law 1123 (.aload_n 0) 1 1124 := by decide +kernel
theorem dL_law_1124 : DD cL_law 1124 (.iload_n 3) 1 1125 := by decide +kernel
theorem dL_law_1125 : DD cL_law 1125 (.iconst 1) 1 1126 := by decide +kernel
theorem dL_law_1126 : DD cL_law 1126 (.iadd) 1 1127 := by decide +kernel
theorem dL_law_1127 : DD cL_law 1127 (.iaload) 1 1128 := by decide +kernel
theorem dL_law_1128 : DD cL_law 1128 (.invokevirtual 145) 3 1131 := by decide +kernel
theorem dL_law_1131 : DD cL_law 1131 (.if_icmp .eq 18) 3 1134 := by decide +kernel
theorem dL_law_1134 : DD cL_law 1134 (.iconst 0) 1 1135 := by decide +kernel
theorem dL_law_1135 : DD cL_law 1135 (.ireturn) 1 1136 := by decide +kernel
theorem dL_law_1136 : DD cL_law 1136 (.aload_n 1) 1 1137 := by decide +kernel
theorem dL_law_1137 : DD cL_law 1137 (.invokevirtual 146) 3 1140 := by decide +kernel
theorem dL_law_1140 : DD cL_law 1140 (.aload_n 2) 1 1141 := by decide +kernel
theorem dL_law_1141 : DD cL_law 1141 (.invokevirtual 149) 3 1144 := by decide +kernel
theorem dL_law_1144 : DD cL_law 1144 (.if_icmp .eq 5) 3 1147 := by decide +kernel
theorem dL_law_1147 : DD cL_law 1147 (.iconst 0) 1 1148 := by decide +kernel
theorem dL_law_1148 : DD cL_law 1148 (.ireturn) 1 1149 := by decide +kernel
theorem dL_law_1149 : DD cL_law 1149 (.iinc 3 6) 3 1152 := by decide +kernel
theorem dL_law_1152 : DD cL_law 1152 (.goto (-1134)) 3 1155 := by decide +kernel
theorem dL_law_1155 : DD cL_law 1155 (.iconst 1) 1 1156 := by decide +kernel
theorem dL_law_1156 : DD cL_law 1156 (.ireturn) 1 1157 := by decide +kernel
def fL_law_L18 (L : Nat) (xs : Nat → Int32) : Nat → Int32 → AH → (Int32 → AH → Option (Unit × AH)) → Option (Unit × AH)
  | 0, _, _, _ => none
  | n + 1, x3, h, k => (if ((Int32.ofNat L) - (6 : Int32)) < x3 then k x3 h else (chk (inb x3 L) (if ((xs (Int32.toNatClampNeg x3)) &&& (63 : Int32)) = (0 : Int32) then (chk (inb (x3 + (1 : Int32)) L) (chk (inb (x3 + (2 : Int32)) L) (chk (inb (x3 + (3 : Int32)) L) (bnd (fX5_row (xs (Int32.toNatClampNeg (x3 + (1 : Int32)))) (xs (Int32.toNatClampNeg (x3 + (2 : Int32)))) (xs (Int32.toNatClampNeg (x3 + (3 : Int32)))) h) fun v202 h201 => (chk (inb (x3 + (1 : Int32)) L) (chk (inb (x3 + (2 : Int32)) L) (chk (inb (x3 + (3 : Int32)) L) (bnd (fX6_row (xs (Int32.toNatClampNeg (x3 + (1 : Int32)))) (xs (Int32.toNatClampNeg (x3 + (2 : Int32)))) (xs (Int32.toNatClampNeg (x3 + (3 : Int32)))) h201) fun v204 h203 => (if v202 = v204 then (vl (x3 + (6 : Int32)) fun z205 => fL_law_L18 L xs n z205 h203 k) else none))))))))) else (if ((xs (Int32.toNatClampNeg x3)) &&& (63 : Int32)) = (1 : Int32) then (chk (inb (x3 + (1 : Int32)) L) (chk (inb (x3 + (2 : Int32)) L) (chk (inb (x3 + (3 : Int32)) L) (bnd (fX5_set (xs (Int32.toNatClampNeg (x3 + (1 : Int32)))) (xs (Int32.toNatClampNeg (x3 + (2 : Int32)))) (xs (Int32.toNatClampNeg (x3 + (3 : Int32)))) h) fun v208 h207 => (chk (inb (x3 + (1 : Int32)) L) (chk (inb (x3 + (2 : Int32)) L) (chk (inb (x3 + (3 : Int32)) L) (bnd (fX6_set (xs (Int32.toNatClampNeg (x3 + (1 : Int32)))) (xs (Int32.toNatClampNeg (x3 + (2 : Int32)))) (xs (Int32.toNatClampNeg (x3 + (3 : Int32)))) h207) fun v210 h209 => (if v208 = v210 then (vl (x3 + (6 : Int32)) fun z211 => fL_law_L18 L xs n z211 h209 k) else none))))))))) else (if ((xs (Int32.toNatClampNeg x3)) &&& (63 : Int32)) = (2 : Int32) then (chk (inb (x3 + (1 : Int32)) L) (chk (inb (x3 + (2 : Int32)) L) (chk (inb (x3 + (3 : Int32)) L) (chk (inb (x3 + (4 : Int32)) L) (chk (inb (x3 + (5 : Int32)) L) (bnd (fX5_copy (xs (Int32.toNatClampNeg (x3 + (1 : Int32)))) (xs (Int32.toNatClampNeg (x3 + (2 : Int32)))) (xs (Int32.toNatClampNeg (x3 + (3 : Int32)))) (xs (Int32.toNatClampNeg (x3 + (4 : Int32)))) (xs (Int32.toNatClampNeg (x3 + (5 : Int32)))) h) fun v214 h213 => (chk (inb (x3 + (1 : Int32)) L) (chk (inb (x3 + (2 : Int32)) L) (chk (inb (x3 + (3 : Int32)) L) (chk (inb (x3 + (4 : Int32)) L) (chk (inb (x3 + (5 : Int32)) L) (bnd (fX6_copy (xs (Int32.toNatClampNeg (x3 + (1 : Int32)))) (xs (Int32.toNatClampNeg (x3 + (2 : Int32)))) (xs (Int32.toNatClampNeg (x3 + (3 : Int32)))) (xs (Int32.toNatClampNeg (x3 + (4 : Int32)))) (xs (Int32.toNatClampNeg (x3 + (5 : Int32)))) h213) fun v216 h215 => (if v214 = v216 then (vl (x3 + (6 : Int32)) fun z217 => fL_law_L18 L xs n z217 h215 k) else none))))))))))))) else (if ((xs (Int32.toNatClampNeg x3)) &&& (63 : Int32)) = (3 : Int32) then (chk (inb (x3 + (1 : Int32)) L) (bnd (fX5_drop (xs (Int32.toNatClampNeg (x3 + (1 : Int32)))) h) fun v220 h219 => (chk (inb (x3 + (1 : Int32)) L) (bnd (fX6_drop (xs (Int32.toNatClampNeg (x3 + (1 : Int32)))) h219) fun v222 h221 => (if v220 = v222 then (vl (x3 + (6 : Int32)) fun z223 => fL_law_L18 L xs n z223 h221 k) else none))))) else (if ((xs (Int32.toNatClampNeg x3)) &&& (63 : Int32)) = (4 : Int32) then (chk (inb (x3 + (1 : Int32)) L) (bnd (fX5_feed (xs (Int32.toNatClampNeg (x3 + (1 : Int32)))) h) fun v226 h225 => (chk (inb (x3 + (1 : Int32)) L) (bnd (fX6_feed (xs (Int32.toNatClampNeg (x3 + (1 : Int32)))) h225) fun v228 h227 => (if v226 = v228 then (vl (x3 + (6 : Int32)) fun z229 => fL_law_L18 L xs n z229 h227 k) else none))))) else (if ((xs (Int32.toNatClampNeg x3)) &&& (63 : Int32)) = (5 : Int32) then (bnd (fX5_estuary  h) fun v232 h231 => (bnd (fX6_estuary  h231) fun v234 h233 => (if v232 = v234 then (vl (x3 + (6 : Int32)) fun z235 => fL_law_L18 L xs n z235 h233 k) else none))) else (if ((xs (Int32.toNatClampNeg x3)) &&& (63 : Int32)) = (6 : Int32) then (bnd (fX5_fault  h) fun v238 h237 => (bnd (fX6_fault  h237) fun v240 h239 => (if v238 = v240 then (vl (x3 + (6 : Int32)) fun z241 => fL_law_L18 L xs n z241 h239 k) else none))) else (if ((xs (Int32.toNatClampNeg x3)) &&& (63 : Int32)) = (7 : Int32) then (chk (inb (x3 + (1 : Int32)) L) (bnd (fX5_hours (xs (Int32.toNatClampNeg (x3 + (1 : Int32)))) h) fun v244 h243 => (chk (inb (x3 + (1 : Int32)) L) (bnd (fX6_hours (xs (Int32.toNatClampNeg (x3 + (1 : Int32)))) h243) fun v246 h245 => (if v244 = v246 then (vl (x3 + (6 : Int32)) fun z247 => fL_law_L18 L xs n z247 h245 k) else none))))) else (if ((xs (Int32.toNatClampNeg x3)) &&& (63 : Int32)) = (8 : Int32) then (chk (inb (x3 + (1 : Int32)) L) (bnd (fX5_mend (xs (Int32.toNatClampNeg (x3 + (1 : Int32)))) h) fun v250 h249 => (chk (inb (x3 + (1 : Int32)) L) (bnd (fX6_mend (xs (Int32.toNatClampNeg (x3 + (1 : Int32)))) h249) fun v252 h251 => (if v250 = v252 then (vl (x3 + (6 : Int32)) fun z253 => fL_law_L18 L xs n z253 h251 k) else none))))) else (if ((xs (Int32.toNatClampNeg x3)) &&& (63 : Int32)) = (9 : Int32) then (chk (inb (x3 + (1 : Int32)) L) (bnd (fX5_loose (xs (Int32.toNatClampNeg (x3 + (1 : Int32)))) h) fun v256 h255 => (chk (inb (x3 + (1 : Int32)) L) (bnd (fX6_loose (xs (Int32.toNatClampNeg (x3 + (1 : Int32)))) h255) fun v258 h257 => (if v256 = v258 then (vl (x3 + (6 : Int32)) fun z259 => fL_law_L18 L xs n z259 h257 k) else none))))) else (if ((xs (Int32.toNatClampNeg x3)) &&& (63 : Int32)) = (10 : Int32) then (chk (inb (x3 + (1 : Int32)) L) (chk (inb (x3 + (2 : Int32)) L) (bnd (fX5_pull (xs (Int32.toNatClampNeg (x3 + (1 : Int32)))) (xs (Int32.toNatClampNeg (x3 + (2 : Int32)))) h) fun v262 h261 => (chk (inb (x3 + (1 : Int32)) L) (chk (inb (x3 + (2 : Int32)) L) (bnd (fX6_pull (xs (Int32.toNatClampNeg (x3 + (1 : Int32)))) (xs (Int32.toNatClampNeg (x3 + (2 : Int32)))) h261) fun v264 h263 => (if v262 = v264 then (vl (x3 + (6 : Int32)) fun z265 => fL_law_L18 L xs n z265 h263 k) else none))))))) else (if ((xs (Int32.toNatClampNeg x3)) &&& (63 : Int32)) = (11 : Int32) then (chk (inb (x3 + (1 : Int32)) L) (bnd (fX5_clear (xs (Int32.toNatClampNeg (x3 + (1 : Int32)))) h) fun v268 h267 => (chk (inb (x3 + (1 : Int32)) L) (bnd (fX6_clear (xs (Int32.toNatClampNeg (x3 + (1 : Int32)))) h267) fun v270 h269 => (if v268 = v270 then (vl (x3 + (6 : Int32)) fun z271 => fL_law_L18 L xs n z271 h269 k) else none))))) else (if ((xs (Int32.toNatClampNeg x3)) &&& (63 : Int32)) = (12 : Int32) then (bnd (fX5_undo  h) fun v274 h273 => (bnd (fX6_undo  h273) fun v276 h275 => (if v274 = v276 then (vl (x3 + (6 : Int32)) fun z277 => fL_law_L18 L xs n z277 h275 k) else none))) else (if ((xs (Int32.toNatClampNeg x3)) &&& (63 : Int32)) = (13 : Int32) then (chk (inb (x3 + (1 : Int32)) L) (chk (inb (x3 + (2 : Int32)) L) (bnd (fX5_tug (xs (Int32.toNatClampNeg (x3 + (1 : Int32)))) (xs (Int32.toNatClampNeg (x3 + (2 : Int32)))) h) fun v280 h279 => (chk (inb (x3 + (1 : Int32)) L) (chk (inb (x3 + (2 : Int32)) L) (bnd (fX6_tug (xs (Int32.toNatClampNeg (x3 + (1 : Int32)))) (xs (Int32.toNatClampNeg (x3 + (2 : Int32)))) h279) fun v282 h281 => (if v280 = v282 then (vl (x3 + (6 : Int32)) fun z283 => fL_law_L18 L xs n z283 h281 k) else none))))))) else (if ((xs (Int32.toNatClampNeg x3)) &&& (63 : Int32)) = (14 : Int32) then (chk (inb (x3 + (1 : Int32)) L) (chk (inb (x3 + (2 : Int32)) L) (bnd (fX5_pier (xs (Int32.toNatClampNeg (x3 + (1 : Int32)))) (xs (Int32.toNatClampNeg (x3 + (2 : Int32)))) h) fun v286 h285 => (chk (inb (x3 + (1 : Int32)) L) (chk (inb (x3 + (2 : Int32)) L) (bnd (fX6_pier (xs (Int32.toNatClampNeg (x3 + (1 : Int32)))) (xs (Int32.toNatClampNeg (x3 + (2 : Int32)))) h285) fun v288 h287 => (if v286 = v288 then (vl (x3 + (6 : Int32)) fun z289 => fL_law_L18 L xs n z289 h287 k) else none))))))) else (if ((xs (Int32.toNatClampNeg x3)) &&& (63 : Int32)) = (15 : Int32) then (chk (inb (x3 + (1 : Int32)) L) (chk (inb (x3 + (2 : Int32)) L) (bnd (fX5_later (xs (Int32.toNatClampNeg (x3 + (1 : Int32)))) (xs (Int32.toNatClampNeg (x3 + (2 : Int32)))) h) fun v292 h291 => (chk (inb (x3 + (1 : Int32)) L) (chk (inb (x3 + (2 : Int32)) L) (bnd (fX6_later (xs (Int32.toNatClampNeg (x3 + (1 : Int32)))) (xs (Int32.toNatClampNeg (x3 + (2 : Int32)))) h291) fun v294 h293 => (if v292 = v294 then (vl (x3 + (6 : Int32)) fun z295 => fL_law_L18 L xs n z295 h293 k) else none))))))) else (if ((xs (Int32.toNatClampNeg x3)) &&& (63 : Int32)) = (16 : Int32) then (bnd (fX5_arrives  h) fun v298 h297 => (bnd (fX6_arrives  h297) fun v300 h299 => (if v298 = v300 then (vl (x3 + (6 : Int32)) fun z301 => fL_law_L18 L xs n z301 h299 k) else none))) else (if ((xs (Int32.toNatClampNeg x3)) &&& (63 : Int32)) = (17 : Int32) then (chk (inb (x3 + (1 : Int32)) L) (bnd (fX5_parts (xs (Int32.toNatClampNeg (x3 + (1 : Int32)))) h) fun v304 h303 => (chk (inb (x3 + (1 : Int32)) L) (bnd (fX6_parts (xs (Int32.toNatClampNeg (x3 + (1 : Int32)))) h303) fun v306 h305 => (if v304 = v306 then (vl (x3 + (6 : Int32)) fun z307 => fL_law_L18 L xs n z307 h305 k) else none))))) else (if ((xs (Int32.toNatClampNeg x3)) &&& (63 : Int32)) = (18 : Int32) then (chk (inb (x3 + (1 : Int32)) L) (chk (inb (x3 + (2 : Int32)) L) (bnd (fX5_crew (xs (Int32.toNatClampNeg (x3 + (1 : Int32)))) (xs (Int32.toNatClampNeg (x3 + (2 : Int32)))) h) fun v310 h309 => (chk (inb (x3 + (1 : Int32)) L) (chk (inb (x3 + (2 : Int32)) L) (bnd (fX6_crew (xs (Int32.toNatClampNeg (x3 + (1 : Int32)))) (xs (Int32.toNatClampNeg (x3 + (2 : Int32)))) h309) fun v312 h311 => (if v310 = v312 then (vl (x3 + (6 : Int32)) fun z313 => fL_law_L18 L xs n z313 h311 k) else none))))))) else (if ((xs (Int32.toNatClampNeg x3)) &&& (63 : Int32)) = (19 : Int32) then (chk (inb (x3 + (1 : Int32)) L) (chk (inb (x3 + (2 : Int32)) L) (bnd (fX5_cleared (xs (Int32.toNatClampNeg (x3 + (1 : Int32)))) (xs (Int32.toNatClampNeg (x3 + (2 : Int32)))) h) fun v316 h315 => (chk (inb (x3 + (1 : Int32)) L) (chk (inb (x3 + (2 : Int32)) L) (bnd (fX6_cleared (xs (Int32.toNatClampNeg (x3 + (1 : Int32)))) (xs (Int32.toNatClampNeg (x3 + (2 : Int32)))) h315) fun v318 h317 => (if v316 = v318 then (vl (x3 + (6 : Int32)) fun z319 => fL_law_L18 L xs n z319 h317 k) else none))))))) else (if ((xs (Int32.toNatClampNeg x3)) &&& (63 : Int32)) = (20 : Int32) then (chk (inb (x3 + (1 : Int32)) L) (chk (inb (x3 + (2 : Int32)) L) (bnd (fX5_least (xs (Int32.toNatClampNeg (x3 + (1 : Int32)))) (xs (Int32.toNatClampNeg (x3 + (2 : Int32)))) h) fun v322 h321 => (chk (inb (x3 + (1 : Int32)) L) (chk (inb (x3 + (2 : Int32)) L) (bnd (fX6_least (xs (Int32.toNatClampNeg (x3 + (1 : Int32)))) (xs (Int32.toNatClampNeg (x3 + (2 : Int32)))) h321) fun v324 h323 => (if v322 = v324 then (vl (x3 + (6 : Int32)) fun z325 => fL_law_L18 L xs n z325 h323 k) else none))))))) else (if ((xs (Int32.toNatClampNeg x3)) &&& (63 : Int32)) = (21 : Int32) then (chk (inb (x3 + (1 : Int32)) L) (chk (inb (x3 + (2 : Int32)) L) (bnd (fX5_share (xs (Int32.toNatClampNeg (x3 + (1 : Int32)))) (xs (Int32.toNatClampNeg (x3 + (2 : Int32)))) h) fun v328 h327 => (chk (inb (x3 + (1 : Int32)) L) (chk (inb (x3 + (2 : Int32)) L) (bnd (fX6_share (xs (Int32.toNatClampNeg (x3 + (1 : Int32)))) (xs (Int32.toNatClampNeg (x3 + (2 : Int32)))) h327) fun v330 h329 => (if v328 = v330 then (vl (x3 + (6 : Int32)) fun z331 => fL_law_L18 L xs n z331 h329 k) else none))))))) else (if ((xs (Int32.toNatClampNeg x3)) &&& (63 : Int32)) = (22 : Int32) then (chk (inb (x3 + (1 : Int32)) L) (chk (inb (x3 + (2 : Int32)) L) (chk (inb (x3 + (3 : Int32)) L) (chk (inb (x3 + (4 : Int32)) L) (chk (inb (x3 + (5 : Int32)) L) (bnd (fX5_fits (xs (Int32.toNatClampNeg (x3 + (1 : Int32)))) (xs (Int32.toNatClampNeg (x3 + (2 : Int32)))) (xs (Int32.toNatClampNeg (x3 + (3 : Int32)))) (xs (Int32.toNatClampNeg (x3 + (4 : Int32)))) (xs (Int32.toNatClampNeg (x3 + (5 : Int32)))) h) fun v334 h333 => (chk (inb (x3 + (1 : Int32)) L) (chk (inb (x3 + (2 : Int32)) L) (chk (inb (x3 + (3 : Int32)) L) (chk (inb (x3 + (4 : Int32)) L) (chk (inb (x3 + (5 : Int32)) L) (bnd (fX6_fits (xs (Int32.toNatClampNeg (x3 + (1 : Int32)))) (xs (Int32.toNatClampNeg (x3 + (2 : Int32)))) (xs (Int32.toNatClampNeg (x3 + (3 : Int32)))) (xs (Int32.toNatClampNeg (x3 + (4 : Int32)))) (xs (Int32.toNatClampNeg (x3 + (5 : Int32)))) h333) fun v336 h335 => (if v334 = v336 then (vl (x3 + (6 : Int32)) fun z337 => fL_law_L18 L xs n z337 h335 k) else none))))))))))))) else (if ((xs (Int32.toNatClampNeg x3)) &&& (63 : Int32)) = (23 : Int32) then (chk (inb (x3 + (1 : Int32)) L) (chk (inb (x3 + (2 : Int32)) L) (chk (inb (x3 + (3 : Int32)) L) (bnd (fX5_chance (xs (Int32.toNatClampNeg (x3 + (1 : Int32)))) (xs (Int32.toNatClampNeg (x3 + (2 : Int32)))) (xs (Int32.toNatClampNeg (x3 + (3 : Int32)))) h) fun v340 h339 => (chk (inb (x3 + (1 : Int32)) L) (chk (inb (x3 + (2 : Int32)) L) (chk (inb (x3 + (3 : Int32)) L) (bnd (fX6_chance (xs (Int32.toNatClampNeg (x3 + (1 : Int32)))) (xs (Int32.toNatClampNeg (x3 + (2 : Int32)))) (xs (Int32.toNatClampNeg (x3 + (3 : Int32)))) h339) fun v342 h341 => (if v340 = v342 then (vl (x3 + (6 : Int32)) fun z343 => fL_law_L18 L xs n z343 h341 k) else none))))))))) else (if ((xs (Int32.toNatClampNeg x3)) &&& (63 : Int32)) = (24 : Int32) then (chk (inb (x3 + (1 : Int32)) L) (chk (inb (x3 + (2 : Int32)) L) (chk (inb (x3 + (3 : Int32)) L) (bnd (fX5_drawn (xs (Int32.toNatClampNeg (x3 + (1 : Int32)))) (xs (Int32.toNatClampNeg (x3 + (2 : Int32)))) (xs (Int32.toNatClampNeg (x3 + (3 : Int32)))) h) fun v346 h345 => (chk (inb (x3 + (1 : Int32)) L) (chk (inb (x3 + (2 : Int32)) L) (chk (inb (x3 + (3 : Int32)) L) (bnd (fX6_drawn (xs (Int32.toNatClampNeg (x3 + (1 : Int32)))) (xs (Int32.toNatClampNeg (x3 + (2 : Int32)))) (xs (Int32.toNatClampNeg (x3 + (3 : Int32)))) h345) fun v348 h347 => (if v346 = v348 then (vl (x3 + (6 : Int32)) fun z349 => fL_law_L18 L xs n z349 h347 k) else none))))))))) else (if ((xs (Int32.toNatClampNeg x3)) &&& (63 : Int32)) = (25 : Int32) then (chk (inb (x3 + (1 : Int32)) L) (bnd (fX5_image (xs (Int32.toNatClampNeg (x3 + (1 : Int32)))) h) fun v352 h351 => (chk (inb (x3 + (1 : Int32)) L) (bnd (fX6_image (xs (Int32.toNatClampNeg (x3 + (1 : Int32)))) h351) fun v354 h353 => (if v352 = v354 then (vl (x3 + (6 : Int32)) fun z355 => fL_law_L18 L xs n z355 h353 k) else none))))) else (if ((xs (Int32.toNatClampNeg x3)) &&& (63 : Int32)) = (26 : Int32) then (chk (inb (x3 + (1 : Int32)) L) (bnd (fX5_restore (xs (Int32.toNatClampNeg (x3 + (1 : Int32)))) h) fun v358 h357 => (chk (inb (x3 + (1 : Int32)) L) (bnd (fX6_restore (xs (Int32.toNatClampNeg (x3 + (1 : Int32)))) h357) fun v360 h359 => (if v358 = v360 then (vl (x3 + (6 : Int32)) fun z361 => fL_law_L18 L xs n z361 h359 k) else none))))) else (if ((xs (Int32.toNatClampNeg x3)) &&& (63 : Int32)) = (27 : Int32) then (chk (inb (x3 + (1 : Int32)) L) (bnd (fX5_kind (xs (Int32.toNatClampNeg (x3 + (1 : Int32)))) h) fun v364 h363 => (chk (inb (x3 + (1 : Int32)) L) (bnd (fX6_kind (xs (Int32.toNatClampNeg (x3 + (1 : Int32)))) h363) fun v366 h365 => (if v364 = v366 then (vl (x3 + (6 : Int32)) fun z367 => fL_law_L18 L xs n z367 h365 k) else none))))) else (if ((xs (Int32.toNatClampNeg x3)) &&& (63 : Int32)) = (28 : Int32) then (chk (inb (x3 + (1 : Int32)) L) (chk (inb (x3 + (2 : Int32)) L) (bnd (fX5_as (xs (Int32.toNatClampNeg (x3 + (1 : Int32)))) (xs (Int32.toNatClampNeg (x3 + (2 : Int32)))) h) fun v370 h369 => (chk (inb (x3 + (1 : Int32)) L) (chk (inb (x3 + (2 : Int32)) L) (bnd (fX6_as (xs (Int32.toNatClampNeg (x3 + (1 : Int32)))) (xs (Int32.toNatClampNeg (x3 + (2 : Int32)))) h369) fun v372 h371 => (if v370 = v372 then (vl (x3 + (6 : Int32)) fun z373 => fL_law_L18 L xs n z373 h371 k) else none))))))) else (if ((xs (Int32.toNatClampNeg x3)) &&& (63 : Int32)) = (29 : Int32) then (chk (inb (x3 + (1 : Int32)) L) (chk (inb (x3 + (2 : Int32)) L) (bnd (fX5_ask (xs (Int32.toNatClampNeg (x3 + (1 : Int32)))) (xs (Int32.toNatClampNeg (x3 + (2 : Int32)))) h) fun v376 h375 => (chk (inb (x3 + (1 : Int32)) L) (chk (inb (x3 + (2 : Int32)) L) (bnd (fX6_ask (xs (Int32.toNatClampNeg (x3 + (1 : Int32)))) (xs (Int32.toNatClampNeg (x3 + (2 : Int32)))) h375) fun v378 h377 => (if v376 = v378 then (vl (x3 + (6 : Int32)) fun z379 => fL_law_L18 L xs n z379 h377 k) else none))))))) else (if ((xs (Int32.toNatClampNeg x3)) &&& (63 : Int32)) = (30 : Int32) then (chk (inb (x3 + (1 : Int32)) L) (bnd (fX5_trace (xs (Int32.toNatClampNeg (x3 + (1 : Int32)))) h) fun v382 h381 => (chk (inb (x3 + (1 : Int32)) L) (bnd (fX6_trace (xs (Int32.toNatClampNeg (x3 + (1 : Int32)))) h381) fun v384 h383 => (if v382 = v384 then (vl (x3 + (6 : Int32)) fun z385 => fL_law_L18 L xs n z385 h383 k) else none))))) else (if ((xs (Int32.toNatClampNeg x3)) &&& (63 : Int32)) = (31 : Int32) then (chk (inb (x3 + (1 : Int32)) L) (bnd (fX5_count (xs (Int32.toNatClampNeg (x3 + (1 : Int32)))) h) fun v388 h387 => (chk (inb (x3 + (1 : Int32)) L) (bnd (fX6_count (xs (Int32.toNatClampNeg (x3 + (1 : Int32)))) h387) fun v390 h389 => (if v388 = v390 then (vl (x3 + (6 : Int32)) fun z391 => fL_law_L18 L xs n z391 h389 k) else none))))) else (if ((xs (Int32.toNatClampNeg x3)) &&& (63 : Int32)) = (32 : Int32) then (bnd (fX5_status  h) fun v394 h393 => (bnd (fX6_status  h393) fun v396 h395 => (if v394 = v396 then (vl (x3 + (6 : Int32)) fun z397 => fL_law_L18 L xs n z397 h395 k) else none))) else (vl (x3 + (6 : Int32)) fun z399 => fL_law_L18 L xs n z399 h k))))))))))))))))))))))))))))))))))))
def fL_law (L : Nat) (xs : Nat → Int32) (h : AH) : Option (Unit × AH) := (fL_law_L18 L xs  FU (0 : Int32) h fun z1 h2 => (some ((), h2)))
set_option maxHeartbeats 4000000 in
theorem gL_law_L18 {K : MC} {X : WX} {b L : Nat} {xs : Nat → Int32} (hL : Lc K X b L xs) (hK : Ok K X RL cL_law 4 (some .boolean) 150) {k : Int32 → AH → Option (Unit × AH)} (hk : ∀ (x3 : Int32) (h : AH), J K X 4 (Zl b K) eV 1155 [(3, .int x3), (2, .ref (X.1 + 278)), (1, .ref (X.1 + 0)), (0, .ref b)] [] h (k x3 h)) : ∀ (n : Nat) (x3 : Int32) (h : AH), J K X 4 (Zl b K) eV 18 [(3, .int x3), (2, .ref (X.1 + 278)), (1, .ref (X.1 + 0)), (0, .ref b)] [] h (fL_law_L18 L xs  n x3 h k) := by
  intro n
  induction n with
  | zero => exact fun _ _ => J_none
  | succ n ih =>
    intro x3 h
    rw [fL_law_L18]
    refine J_iload_n hK dL_law_18 0 rfl ?_
    refine J_aload_n hK dL_law_19 3 rfl ?_
    refine J_slenB hK hL dL_law_20 ?_
    refine J_bipush hK dL_law_21 cb_6 ?_
    refine J_isub hK dL_law_23 ?_
    refine J_icmp_gt (tgt := 1155) hK dL_law_24 (by decide) ?_ ?_
    · exact J_sub [0, 1, 2, 3] rfl (hk _ _)
    · refine J_aload_n hK dL_law_27 3 rfl ?_
      refine J_iload_n hK dL_law_28 0 rfl ?_
      refine J_sld hK hL dL_law_29 ?_
      refine J_bipush hK dL_law_30 cb_63 ?_
      refine J_iand hK dL_law_32 ?_
      refine J_split (c := ((xs (Int32.toNatClampNeg x3)) &&& (63 : Int32)) = (0 : Int32)) (fun e206 => ?_) (fun e206 => ?_)
      · refine J_tableIn (v := 0) (off := 147) (tgt := 180) hK dL_law_33 e206 (by decide) ?_
        refine J_aload_n hK dL_law_180 2 rfl ?_
        refine J_aload_n hK dL_law_181 3 rfl ?_
        refine J_iload_n hK dL_law_182 0 rfl ?_
        refine J_iconst hK dL_law_183 ci_1 ?_
        refine J_iadd hK dL_law_184 ?_
        refine J_sld hK hL dL_law_185 ?_
        refine J_aload_n hK dL_law_186 3 rfl ?_
        refine J_iload_n hK dL_law_187 0 rfl ?_
        refine J_iconst hK dL_law_188 ci_2 ?_
        refine J_iadd hK dL_law_189 ?_
        refine J_sld hK hL dL_law_190 ?_
        refine J_aload_n hK dL_law_191 3 rfl ?_
        refine J_iload_n hK dL_law_192 0 rfl ?_
        refine J_iconst hK dL_law_193 ci_3 ?_
        refine J_iadd hK dL_law_194 ?_
        refine J_sld hK hL dL_law_195 ?_
        refine J_callVi (q := 0) (As := [.int (xs (Int32.toNatClampNeg (x3 + (1 : Int32)))), .int (xs (Int32.toNatClampNeg (x3 + (2 : Int32)))), .int (xs (Int32.toNatClampNeg (x3 + (3 : Int32))))]) (st := []) hK dL_law_196 kB_L_13 kV_X5_row kd_0 (by decide) rfl rfl (by decide) rfl rfl (Nat.le_of_ble_eq_true rfl) (fun _ _ hf => uX5_row  hf) (fun v202 h201 => ?_)
        refine J_aload_n hK dL_law_199 1 rfl ?_
        refine J_aload_n hK dL_law_200 3 rfl ?_
        refine J_iload_n hK dL_law_201 0 rfl ?_
        refine J_iconst hK dL_law_202 ci_1 ?_
        refine J_iadd hK dL_law_203 ?_
        refine J_sld hK hL dL_law_204 ?_
        refine J_aload_n hK dL_law_205 3 rfl ?_
        refine J_iload_n hK dL_law_206 0 rfl ?_
        refine J_iconst hK dL_law_207 ci_2 ?_
        refine J_iadd hK dL_law_208 ?_
        refine J_sld hK hL dL_law_209 ?_
        refine J_aload_n hK dL_law_210 3 rfl ?_
        refine J_iload_n hK dL_law_211 0 rfl ?_
        refine J_iconst hK dL_law_212 ci_3 ?_
        refine J_iadd hK dL_law_213 ?_
        refine J_sld hK hL dL_law_214 ?_
        refine J_callVi (q := 278) (As := [.int (xs (Int32.toNatClampNeg (x3 + (1 : Int32)))), .int (xs (Int32.toNatClampNeg (x3 + (2 : Int32)))), .int (xs (Int32.toNatClampNeg (x3 + (3 : Int32))))]) (st := [.int v202]) hK dL_law_215 kB_L_17 kV_X6_row kd_278 (by decide) rfl rfl (by decide) rfl rfl (Nat.le_of_ble_eq_true rfl) (fun _ _ hf => uX6_row  hf) (fun v204 h203 => ?_)
        refine J_icmp_eq (tgt := 1149) hK dL_law_218 (by decide) ?_ ?_
        · refine J_iinc (lw := [(2, .ref (X.1 + 278)), (1, .ref (X.1 + 0)), (0, .ref b)]) hK dL_law_1149 0 rfl (by decide) ci_6 rfl (fun z205 => ?_)
          refine J_goto (len := 0) (tgt := 18) hK dL_law_1152 (by decide) ?_
          exact J_sub [0, 1, 2, 3] rfl (ih _ _)
        · refine J_iconst hK dL_law_221 ci_0 ?_
          exact J_none
      refine J_split (c := ((xs (Int32.toNatClampNeg x3)) &&& (63 : Int32)) = (1 : Int32)) (fun e212 => ?_) (fun e212 => ?_)
      · refine J_tableIn (v := 1) (off := 190) (tgt := 223) hK dL_law_33 e212 (by decide) ?_
        refine J_aload_n hK dL_law_223 2 rfl ?_
        refine J_aload_n hK dL_law_224 3 rfl ?_
        refine J_iload_n hK dL_law_225 0 rfl ?_
        refine J_iconst hK dL_law_226 ci_1 ?_
        refine J_iadd hK dL_law_227 ?_
        refine J_sld hK hL dL_law_228 ?_
        refine J_aload_n hK dL_law_229 3 rfl ?_
        refine J_iload_n hK dL_law_230 0 rfl ?_
        refine J_iconst hK dL_law_231 ci_2 ?_
        refine J_iadd hK dL_law_232 ?_
        refine J_sld hK hL dL_law_233 ?_
        refine J_aload_n hK dL_law_234 3 rfl ?_
        refine J_iload_n hK dL_law_235 0 rfl ?_
        refine J_iconst hK dL_law_236 ci_3 ?_
        refine J_iadd hK dL_law_237 ?_
        refine J_sld hK hL dL_law_238 ?_
        refine J_callVi (q := 0) (As := [.int (xs (Int32.toNatClampNeg (x3 + (1 : Int32)))), .int (xs (Int32.toNatClampNeg (x3 + (2 : Int32)))), .int (xs (Int32.toNatClampNeg (x3 + (3 : Int32))))]) (st := []) hK dL_law_239 kB_L_18 kV_X5_set kd_0 (by decide) rfl rfl (by decide) rfl rfl (Nat.le_of_ble_eq_true rfl) (fun _ _ hf => uX5_set  hf) (fun v208 h207 => ?_)
        refine J_aload_n hK dL_law_242 1 rfl ?_
        refine J_aload_n hK dL_law_243 3 rfl ?_
        refine J_iload_n hK dL_law_244 0 rfl ?_
        refine J_iconst hK dL_law_245 ci_1 ?_
        refine J_iadd hK dL_law_246 ?_
        refine J_sld hK hL dL_law_247 ?_
        refine J_aload_n hK dL_law_248 3 rfl ?_
        refine J_iload_n hK dL_law_249 0 rfl ?_
        refine J_iconst hK dL_law_250 ci_2 ?_
        refine J_iadd hK dL_law_251 ?_
        refine J_sld hK hL dL_law_252 ?_
        refine J_aload_n hK dL_law_253 3 rfl ?_
        refine J_iload_n hK dL_law_254 0 rfl ?_
        refine J_iconst hK dL_law_255 ci_3 ?_
        refine J_iadd hK dL_law_256 ?_
        refine J_sld hK hL dL_law_257 ?_
        refine J_callVi (q := 278) (As := [.int (xs (Int32.toNatClampNeg (x3 + (1 : Int32)))), .int (xs (Int32.toNatClampNeg (x3 + (2 : Int32)))), .int (xs (Int32.toNatClampNeg (x3 + (3 : Int32))))]) (st := [.int v208]) hK dL_law_258 kB_L_21 kV_X6_set kd_278 (by decide) rfl rfl (by decide) rfl rfl (Nat.le_of_ble_eq_true rfl) (fun _ _ hf => uX6_set  hf) (fun v210 h209 => ?_)
        refine J_icmp_eq (tgt := 1149) hK dL_law_261 (by decide) ?_ ?_
        · refine J_iinc (lw := [(2, .ref (X.1 + 278)), (1, .ref (X.1 + 0)), (0, .ref b)]) hK dL_law_1149 0 rfl (by decide) ci_6 rfl (fun z211 => ?_)
          refine J_goto (len := 0) (tgt := 18) hK dL_law_1152 (by decide) ?_
          exact J_sub [0, 1, 2, 3] rfl (ih _ _)
        · refine J_iconst hK dL_law_264 ci_0 ?_
          exact J_none
      refine J_split (c := ((xs (Int32.toNatClampNeg x3)) &&& (63 : Int32)) = (2 : Int32)) (fun e218 => ?_) (fun e218 => ?_)
      · refine J_tableIn (v := 2) (off := 233) (tgt := 266) hK dL_law_33 e218 (by decide) ?_
        refine J_aload_n hK dL_law_266 2 rfl ?_
        refine J_aload_n hK dL_law_267 3 rfl ?_
        refine J_iload_n hK dL_law_268 0 rfl ?_
        refine J_iconst hK dL_law_269 ci_1 ?_
        refine J_iadd hK dL_law_270 ?_
        refine J_sld hK hL dL_law_271 ?_
        refine J_aload_n hK dL_law_272 3 rfl ?_
        refine J_iload_n hK dL_law_273 0 rfl ?_
        refine J_iconst hK dL_law_274 ci_2 ?_
        refine J_iadd hK dL_law_275 ?_
        refine J_sld hK hL dL_law_276 ?_
        refine J_aload_n hK dL_law_277 3 rfl ?_
        refine J_iload_n hK dL_law_278 0 rfl ?_
        refine J_iconst hK dL_law_279 ci_3 ?_
        refine J_iadd hK dL_law_280 ?_
        refine J_sld hK hL dL_law_281 ?_
        refine J_aload_n hK dL_law_282 3 rfl ?_
        refine J_iload_n hK dL_law_283 0 rfl ?_
        refine J_iconst hK dL_law_284 ci_4 ?_
        refine J_iadd hK dL_law_285 ?_
        refine J_sld hK hL dL_law_286 ?_
        refine J_aload_n hK dL_law_287 3 rfl ?_
        refine J_iload_n hK dL_law_288 0 rfl ?_
        refine J_iconst hK dL_law_289 ci_5 ?_
        refine J_iadd hK dL_law_290 ?_
        refine J_sld hK hL dL_law_291 ?_
        refine J_callVi (q := 0) (As := [.int (xs (Int32.toNatClampNeg (x3 + (1 : Int32)))), .int (xs (Int32.toNatClampNeg (x3 + (2 : Int32)))), .int (xs (Int32.toNatClampNeg (x3 + (3 : Int32)))), .int (xs (Int32.toNatClampNeg (x3 + (4 : Int32)))), .int (xs (Int32.toNatClampNeg (x3 + (5 : Int32))))]) (st := []) hK dL_law_292 kB_L_22 kV_X5_copy kd_0 (by decide) rfl rfl (by decide) rfl rfl (Nat.le_of_ble_eq_true rfl) (fun _ _ hf => uX5_copy  hf) (fun v214 h213 => ?_)
        refine J_aload_n hK dL_law_295 1 rfl ?_
        refine J_aload_n hK dL_law_296 3 rfl ?_
        refine J_iload_n hK dL_law_297 0 rfl ?_
        refine J_iconst hK dL_law_298 ci_1 ?_
        refine J_iadd hK dL_law_299 ?_
        refine J_sld hK hL dL_law_300 ?_
        refine J_aload_n hK dL_law_301 3 rfl ?_
        refine J_iload_n hK dL_law_302 0 rfl ?_
        refine J_iconst hK dL_law_303 ci_2 ?_
        refine J_iadd hK dL_law_304 ?_
        refine J_sld hK hL dL_law_305 ?_
        refine J_aload_n hK dL_law_306 3 rfl ?_
        refine J_iload_n hK dL_law_307 0 rfl ?_
        refine J_iconst hK dL_law_308 ci_3 ?_
        refine J_iadd hK dL_law_309 ?_
        refine J_sld hK hL dL_law_310 ?_
        refine J_aload_n hK dL_law_311 3 rfl ?_
        refine J_iload_n hK dL_law_312 0 rfl ?_
        refine J_iconst hK dL_law_313 ci_4 ?_
        refine J_iadd hK dL_law_314 ?_
        refine J_sld hK hL dL_law_315 ?_
        refine J_aload_n hK dL_law_316 3 rfl ?_
        refine J_iload_n hK dL_law_317 0 rfl ?_
        refine J_iconst hK dL_law_318 ci_5 ?_
        refine J_iadd hK dL_law_319 ?_
        refine J_sld hK hL dL_law_320 ?_
        refine J_callVi (q := 278) (As := [.int (xs (Int32.toNatClampNeg (x3 + (1 : Int32)))), .int (xs (Int32.toNatClampNeg (x3 + (2 : Int32)))), .int (xs (Int32.toNatClampNeg (x3 + (3 : Int32)))), .int (xs (Int32.toNatClampNeg (x3 + (4 : Int32)))), .int (xs (Int32.toNatClampNeg (x3 + (5 : Int32))))]) (st := [.int v214]) hK dL_law_321 kB_L_26 kV_X6_copy kd_278 (by decide) rfl rfl (by decide) rfl rfl (Nat.le_of_ble_eq_true rfl) (fun _ _ hf => uX6_copy  hf) (fun v216 h215 => ?_)
        refine J_icmp_eq (tgt := 1149) hK dL_law_324 (by decide) ?_ ?_
        · refine J_iinc (lw := [(2, .ref (X.1 + 278)), (1, .ref (X.1 + 0)), (0, .ref b)]) hK dL_law_1149 0 rfl (by decide) ci_6 rfl (fun z217 => ?_)
          refine J_goto (len := 0) (tgt := 18) hK dL_law_1152 (by decide) ?_
          exact J_sub [0, 1, 2, 3] rfl (ih _ _)
        · refine J_iconst hK dL_law_327 ci_0 ?_
          exact J_none
      refine J_split (c := ((xs (Int32.toNatClampNeg x3)) &&& (63 : Int32)) = (3 : Int32)) (fun e224 => ?_) (fun e224 => ?_)
      · refine J_tableIn (v := 3) (off := 296) (tgt := 329) hK dL_law_33 e224 (by decide) ?_
        refine J_aload_n hK dL_law_329 2 rfl ?_
        refine J_aload_n hK dL_law_330 3 rfl ?_
        refine J_iload_n hK dL_law_331 0 rfl ?_
        refine J_iconst hK dL_law_332 ci_1 ?_
        refine J_iadd hK dL_law_333 ?_
        refine J_sld hK hL dL_law_334 ?_
        refine J_callVi (q := 0) (As := [.int (xs (Int32.toNatClampNeg (x3 + (1 : Int32))))]) (st := []) hK dL_law_335 kB_L_27 kV_X5_drop kd_0 (by decide) rfl rfl (by decide) rfl rfl (Nat.le_of_ble_eq_true rfl) (fun _ _ hf => uX5_drop  hf) (fun v220 h219 => ?_)
        refine J_aload_n hK dL_law_338 1 rfl ?_
        refine J_aload_n hK dL_law_339 3 rfl ?_
        refine J_iload_n hK dL_law_340 0 rfl ?_
        refine J_iconst hK dL_law_341 ci_1 ?_
        refine J_iadd hK dL_law_342 ?_
        refine J_sld hK hL dL_law_343 ?_
        refine J_callVi (q := 278) (As := [.int (xs (Int32.toNatClampNeg (x3 + (1 : Int32))))]) (st := [.int v220]) hK dL_law_344 kB_L_31 kV_X6_drop kd_278 (by decide) rfl rfl (by decide) rfl rfl (Nat.le_of_ble_eq_true rfl) (fun _ _ hf => uX6_drop  hf) (fun v222 h221 => ?_)
        refine J_icmp_eq (tgt := 1149) hK dL_law_347 (by decide) ?_ ?_
        · refine J_iinc (lw := [(2, .ref (X.1 + 278)), (1, .ref (X.1 + 0)), (0, .ref b)]) hK dL_law_1149 0 rfl (by decide) ci_6 rfl (fun z223 => ?_)
          refine J_goto (len := 0) (tgt := 18) hK dL_law_1152 (by decide) ?_
          exact J_sub [0, 1, 2, 3] rfl (ih _ _)
        · refine J_iconst hK dL_law_350 ci_0 ?_
          exact J_none
      refine J_split (c := ((xs (Int32.toNatClampNeg x3)) &&& (63 : Int32)) = (4 : Int32)) (fun e230 => ?_) (fun e230 => ?_)
      · refine J_tableIn (v := 4) (off := 319) (tgt := 352) hK dL_law_33 e230 (by decide) ?_
        refine J_aload_n hK dL_law_352 2 rfl ?_
        refine J_aload_n hK dL_law_353 3 rfl ?_
        refine J_iload_n hK dL_law_354 0 rfl ?_
        refine J_iconst hK dL_law_355 ci_1 ?_
        refine J_iadd hK dL_law_356 ?_
        refine J_sld hK hL dL_law_357 ?_
        refine J_callVi (q := 0) (As := [.int (xs (Int32.toNatClampNeg (x3 + (1 : Int32))))]) (st := []) hK dL_law_358 kB_L_32 kV_X5_feed kd_0 (by decide) rfl rfl (by decide) rfl rfl (Nat.le_of_ble_eq_true rfl) (fun _ _ hf => uX5_feed  hf) (fun v226 h225 => ?_)
        refine J_aload_n hK dL_law_361 1 rfl ?_
        refine J_aload_n hK dL_law_362 3 rfl ?_
        refine J_iload_n hK dL_law_363 0 rfl ?_
        refine J_iconst hK dL_law_364 ci_1 ?_
        refine J_iadd hK dL_law_365 ?_
        refine J_sld hK hL dL_law_366 ?_
        refine J_callVi (q := 278) (As := [.int (xs (Int32.toNatClampNeg (x3 + (1 : Int32))))]) (st := [.int v226]) hK dL_law_367 kB_L_35 kV_X6_feed kd_278 (by decide) rfl rfl (by decide) rfl rfl (Nat.le_of_ble_eq_true rfl) (fun _ _ hf => uX6_feed  hf) (fun v228 h227 => ?_)
        refine J_icmp_eq (tgt := 1149) hK dL_law_370 (by decide) ?_ ?_
        · refine J_iinc (lw := [(2, .ref (X.1 + 278)), (1, .ref (X.1 + 0)), (0, .ref b)]) hK dL_law_1149 0 rfl (by decide) ci_6 rfl (fun z229 => ?_)
          refine J_goto (len := 0) (tgt := 18) hK dL_law_1152 (by decide) ?_
          exact J_sub [0, 1, 2, 3] rfl (ih _ _)
        · refine J_iconst hK dL_law_373 ci_0 ?_
          exact J_none
      refine J_split (c := ((xs (Int32.toNatClampNeg x3)) &&& (63 : Int32)) = (5 : Int32)) (fun e236 => ?_) (fun e236 => ?_)
      · refine J_tableIn (v := 5) (off := 342) (tgt := 375) hK dL_law_33 e236 (by decide) ?_
        refine J_aload_n hK dL_law_375 2 rfl ?_
        refine J_callVi (q := 0) (As := []) (st := []) hK dL_law_376 kB_L_36 kV_X5_estuary kd_0 (by decide) rfl rfl (by decide) rfl rfl (Nat.le_of_ble_eq_true rfl) (fun _ _ hf => uX5_estuary  hf) (fun v232 h231 => ?_)
        refine J_aload_n hK dL_law_379 1 rfl ?_
        refine J_callVi (q := 278) (As := []) (st := [.int v232]) hK dL_law_380 kB_L_40 kV_X6_estuary kd_278 (by decide) rfl rfl (by decide) rfl rfl (Nat.le_of_ble_eq_true rfl) (fun _ _ hf => uX6_estuary  hf) (fun v234 h233 => ?_)
        refine J_icmp_eq (tgt := 1149) hK dL_law_383 (by decide) ?_ ?_
        · refine J_iinc (lw := [(2, .ref (X.1 + 278)), (1, .ref (X.1 + 0)), (0, .ref b)]) hK dL_law_1149 0 rfl (by decide) ci_6 rfl (fun z235 => ?_)
          refine J_goto (len := 0) (tgt := 18) hK dL_law_1152 (by decide) ?_
          exact J_sub [0, 1, 2, 3] rfl (ih _ _)
        · refine J_iconst hK dL_law_386 ci_0 ?_
          exact J_none
      refine J_split (c := ((xs (Int32.toNatClampNeg x3)) &&& (63 : Int32)) = (6 : Int32)) (fun e242 => ?_) (fun e242 => ?_)
      · refine J_tableIn (v := 6) (off := 355) (tgt := 388) hK dL_law_33 e242 (by decide) ?_
        refine J_aload_n hK dL_law_388 2 rfl ?_
        refine J_callVi (q := 0) (As := []) (st := []) hK dL_law_389 kB_L_41 kV_X5_fault kd_0 (by decide) rfl rfl (by decide) rfl rfl (Nat.le_of_ble_eq_true rfl) (fun _ _ hf => uX5_fault  hf) (fun v238 h237 => ?_)
        refine J_aload_n hK dL_law_392 1 rfl ?_
        refine J_callVi (q := 278) (As := []) (st := [.int v238]) hK dL_law_393 kB_L_44 kV_X6_fault kd_278 (by decide) rfl rfl (by decide) rfl rfl (Nat.le_of_ble_eq_true rfl) (fun _ _ hf => uX6_fault  hf) (fun v240 h239 => ?_)
        refine J_icmp_eq (tgt := 1149) hK dL_law_396 (by decide) ?_ ?_
        · refine J_iinc (lw := [(2, .ref (X.1 + 278)), (1, .ref (X.1 + 0)), (0, .ref b)]) hK dL_law_1149 0 rfl (by decide) ci_6 rfl (fun z241 => ?_)
          refine J_goto (len := 0) (tgt := 18) hK dL_law_1152 (by decide) ?_
          exact J_sub [0, 1, 2, 3] rfl (ih _ _)
        · refine J_iconst hK dL_law_399 ci_0 ?_
          exact J_none
      refine J_split (c := ((xs (Int32.toNatClampNeg x3)) &&& (63 : Int32)) = (7 : Int32)) (fun e248 => ?_) (fun e248 => ?_)
      · refine J_tableIn (v := 7) (off := 368) (tgt := 401) hK dL_law_33 e248 (by decide) ?_
        refine J_aload_n hK dL_law_401 2 rfl ?_
        refine J_aload_n hK dL_law_402 3 rfl ?_
        refine J_iload_n hK dL_law_403 0 rfl ?_
        refine J_iconst hK dL_law_404 ci_1 ?_
        refine J_iadd hK dL_law_405 ?_
        refine J_sld hK hL dL_law_406 ?_
        refine J_callVi (q := 0) (As := [.int (xs (Int32.toNatClampNeg (x3 + (1 : Int32))))]) (st := []) hK dL_law_407 kB_L_45 kV_X5_hours kd_0 (by decide) rfl rfl (by decide) rfl rfl (Nat.le_of_ble_eq_true rfl) (fun _ _ hf => uX5_hours  hf) (fun v244 h243 => ?_)
        refine J_aload_n hK dL_law_410 1 rfl ?_
        refine J_aload_n hK dL_law_411 3 rfl ?_
        refine J_iload_n hK dL_law_412 0 rfl ?_
        refine J_iconst hK dL_law_413 ci_1 ?_
        refine J_iadd hK dL_law_414 ?_
        refine J_sld hK hL dL_law_415 ?_
        refine J_callVi (q := 278) (As := [.int (xs (Int32.toNatClampNeg (x3 + (1 : Int32))))]) (st := [.int v244]) hK dL_law_416 kB_L_48 kV_X6_hours kd_278 (by decide) rfl rfl (by decide) rfl rfl (Nat.le_of_ble_eq_true rfl) (fun _ _ hf => uX6_hours  hf) (fun v246 h245 => ?_)
        refine J_icmp_eq (tgt := 1149) hK dL_law_419 (by decide) ?_ ?_
        · refine J_iinc (lw := [(2, .ref (X.1 + 278)), (1, .ref (X.1 + 0)), (0, .ref b)]) hK dL_law_1149 0 rfl (by decide) ci_6 rfl (fun z247 => ?_)
          refine J_goto (len := 0) (tgt := 18) hK dL_law_1152 (by decide) ?_
          exact J_sub [0, 1, 2, 3] rfl (ih _ _)
        · refine J_iconst hK dL_law_422 ci_0 ?_
          exact J_none
      refine J_split (c := ((xs (Int32.toNatClampNeg x3)) &&& (63 : Int32)) = (8 : Int32)) (fun e254 => ?_) (fun e254 => ?_)
      · refine J_tableIn (v := 8) (off := 391) (tgt := 424) hK dL_law_33 e254 (by decide) ?_
        refine J_aload_n hK dL_law_424 2 rfl ?_
        refine J_aload_n hK dL_law_425 3 rfl ?_
        refine J_iload_n hK dL_law_426 0 rfl ?_
        refine J_iconst hK dL_law_427 ci_1 ?_
        refine J_iadd hK dL_law_428 ?_
        refine J_sld hK hL dL_law_429 ?_
        refine J_callVi (q := 0) (As := [.int (xs (Int32.toNatClampNeg (x3 + (1 : Int32))))]) (st := []) hK dL_law_430 kB_L_49 kV_X5_mend kd_0 (by decide) rfl rfl (by decide) rfl rfl (Nat.le_of_ble_eq_true rfl) (fun _ _ hf => uX5_mend  hf) (fun v250 h249 => ?_)
        refine J_aload_n hK dL_law_433 1 rfl ?_
        refine J_aload_n hK dL_law_434 3 rfl ?_
        refine J_iload_n hK dL_law_435 0 rfl ?_
        refine J_iconst hK dL_law_436 ci_1 ?_
        refine J_iadd hK dL_law_437 ?_
        refine J_sld hK hL dL_law_438 ?_
        refine J_callVi (q := 278) (As := [.int (xs (Int32.toNatClampNeg (x3 + (1 : Int32))))]) (st := [.int v250]) hK dL_law_439 kB_L_52 kV_X6_mend kd_278 (by decide) rfl rfl (by decide) rfl rfl (Nat.le_of_ble_eq_true rfl) (fun _ _ hf => uX6_mend  hf) (fun v252 h251 => ?_)
        refine J_icmp_eq (tgt := 1149) hK dL_law_442 (by decide) ?_ ?_
        · refine J_iinc (lw := [(2, .ref (X.1 + 278)), (1, .ref (X.1 + 0)), (0, .ref b)]) hK dL_law_1149 0 rfl (by decide) ci_6 rfl (fun z253 => ?_)
          refine J_goto (len := 0) (tgt := 18) hK dL_law_1152 (by decide) ?_
          exact J_sub [0, 1, 2, 3] rfl (ih _ _)
        · refine J_iconst hK dL_law_445 ci_0 ?_
          exact J_none
      refine J_split (c := ((xs (Int32.toNatClampNeg x3)) &&& (63 : Int32)) = (9 : Int32)) (fun e260 => ?_) (fun e260 => ?_)
      · refine J_tableIn (v := 9) (off := 414) (tgt := 447) hK dL_law_33 e260 (by decide) ?_
        refine J_aload_n hK dL_law_447 2 rfl ?_
        refine J_aload_n hK dL_law_448 3 rfl ?_
        refine J_iload_n hK dL_law_449 0 rfl ?_
        refine J_iconst hK dL_law_450 ci_1 ?_
        refine J_iadd hK dL_law_451 ?_
        refine J_sld hK hL dL_law_452 ?_
        refine J_callVi (q := 0) (As := [.int (xs (Int32.toNatClampNeg (x3 + (1 : Int32))))]) (st := []) hK dL_law_453 kB_L_53 kV_X5_loose kd_0 (by decide) rfl rfl (by decide) rfl rfl (Nat.le_of_ble_eq_true rfl) (fun _ _ hf => uX5_loose  hf) (fun v256 h255 => ?_)
        refine J_aload_n hK dL_law_456 1 rfl ?_
        refine J_aload_n hK dL_law_457 3 rfl ?_
        refine J_iload_n hK dL_law_458 0 rfl ?_
        refine J_iconst hK dL_law_459 ci_1 ?_
        refine J_iadd hK dL_law_460 ?_
        refine J_sld hK hL dL_law_461 ?_
        refine J_callVi (q := 278) (As := [.int (xs (Int32.toNatClampNeg (x3 + (1 : Int32))))]) (st := [.int v256]) hK dL_law_462 kB_L_56 kV_X6_loose kd_278 (by decide) rfl rfl (by decide) rfl rfl (Nat.le_of_ble_eq_true rfl) (fun _ _ hf => uX6_loose  hf) (fun v258 h257 => ?_)
        refine J_icmp_eq (tgt := 1149) hK dL_law_465 (by decide) ?_ ?_
        · refine J_iinc (lw := [(2, .ref (X.1 + 278)), (1, .ref (X.1 + 0)), (0, .ref b)]) hK dL_law_1149 0 rfl (by decide) ci_6 rfl (fun z259 => ?_)
          refine J_goto (len := 0) (tgt := 18) hK dL_law_1152 (by decide) ?_
          exact J_sub [0, 1, 2, 3] rfl (ih _ _)
        · refine J_iconst hK dL_law_468 ci_0 ?_
          exact J_none
      refine J_split (c := ((xs (Int32.toNatClampNeg x3)) &&& (63 : Int32)) = (10 : Int32)) (fun e266 => ?_) (fun e266 => ?_)
      · refine J_tableIn (v := 10) (off := 437) (tgt := 470) hK dL_law_33 e266 (by decide) ?_
        refine J_aload_n hK dL_law_470 2 rfl ?_
        refine J_aload_n hK dL_law_471 3 rfl ?_
        refine J_iload_n hK dL_law_472 0 rfl ?_
        refine J_iconst hK dL_law_473 ci_1 ?_
        refine J_iadd hK dL_law_474 ?_
        refine J_sld hK hL dL_law_475 ?_
        refine J_aload_n hK dL_law_476 3 rfl ?_
        refine J_iload_n hK dL_law_477 0 rfl ?_
        refine J_iconst hK dL_law_478 ci_2 ?_
        refine J_iadd hK dL_law_479 ?_
        refine J_sld hK hL dL_law_480 ?_
        refine J_callVi (q := 0) (As := [.int (xs (Int32.toNatClampNeg (x3 + (1 : Int32)))), .int (xs (Int32.toNatClampNeg (x3 + (2 : Int32))))]) (st := []) hK dL_law_481 kB_L_57 kV_X5_pull kd_0 (by decide) rfl rfl (by decide) rfl rfl (Nat.le_of_ble_eq_true rfl) (fun _ _ hf => uX5_pull  hf) (fun v262 h261 => ?_)
        refine J_aload_n hK dL_law_484 1 rfl ?_
        refine J_aload_n hK dL_law_485 3 rfl ?_
        refine J_iload_n hK dL_law_486 0 rfl ?_
        refine J_iconst hK dL_law_487 ci_1 ?_
        refine J_iadd hK dL_law_488 ?_
        refine J_sld hK hL dL_law_489 ?_
        refine J_aload_n hK dL_law_490 3 rfl ?_
        refine J_iload_n hK dL_law_491 0 rfl ?_
        refine J_iconst hK dL_law_492 ci_2 ?_
        refine J_iadd hK dL_law_493 ?_
        refine J_sld hK hL dL_law_494 ?_
        refine J_callVi (q := 278) (As := [.int (xs (Int32.toNatClampNeg (x3 + (1 : Int32)))), .int (xs (Int32.toNatClampNeg (x3 + (2 : Int32))))]) (st := [.int v262]) hK dL_law_495 kB_L_61 kV_X6_pull kd_278 (by decide) rfl rfl (by decide) rfl rfl (Nat.le_of_ble_eq_true rfl) (fun _ _ hf => uX6_pull  hf) (fun v264 h263 => ?_)
        refine J_icmp_eq (tgt := 1149) hK dL_law_498 (by decide) ?_ ?_
        · refine J_iinc (lw := [(2, .ref (X.1 + 278)), (1, .ref (X.1 + 0)), (0, .ref b)]) hK dL_law_1149 0 rfl (by decide) ci_6 rfl (fun z265 => ?_)
          refine J_goto (len := 0) (tgt := 18) hK dL_law_1152 (by decide) ?_
          exact J_sub [0, 1, 2, 3] rfl (ih _ _)
        · refine J_iconst hK dL_law_501 ci_0 ?_
          exact J_none
      refine J_split (c := ((xs (Int32.toNatClampNeg x3)) &&& (63 : Int32)) = (11 : Int32)) (fun e272 => ?_) (fun e272 => ?_)
      · refine J_tableIn (v := 11) (off := 470) (tgt := 503) hK dL_law_33 e272 (by decide) ?_
        refine J_aload_n hK dL_law_503 2 rfl ?_
        refine J_aload_n hK dL_law_504 3 rfl ?_
        refine J_iload_n hK dL_law_505 0 rfl ?_
        refine J_iconst hK dL_law_506 ci_1 ?_
        refine J_iadd hK dL_law_507 ?_
        refine J_sld hK hL dL_law_508 ?_
        refine J_callVi (q := 0) (As := [.int (xs (Int32.toNatClampNeg (x3 + (1 : Int32))))]) (st := []) hK dL_law_509 kB_L_62 kV_X5_clear kd_0 (by decide) rfl rfl (by decide) rfl rfl (Nat.le_of_ble_eq_true rfl) (fun _ _ hf => uX5_clear  hf) (fun v268 h267 => ?_)
        refine J_aload_n hK dL_law_512 1 rfl ?_
        refine J_aload_n hK dL_law_513 3 rfl ?_
        refine J_iload_n hK dL_law_514 0 rfl ?_
        refine J_iconst hK dL_law_515 ci_1 ?_
        refine J_iadd hK dL_law_516 ?_
        refine J_sld hK hL dL_law_517 ?_
        refine J_callVi (q := 278) (As := [.int (xs (Int32.toNatClampNeg (x3 + (1 : Int32))))]) (st := [.int v268]) hK dL_law_518 kB_L_65 kV_X6_clear kd_278 (by decide) rfl rfl (by decide) rfl rfl (Nat.le_of_ble_eq_true rfl) (fun _ _ hf => uX6_clear  hf) (fun v270 h269 => ?_)
        refine J_icmp_eq (tgt := 1149) hK dL_law_521 (by decide) ?_ ?_
        · refine J_iinc (lw := [(2, .ref (X.1 + 278)), (1, .ref (X.1 + 0)), (0, .ref b)]) hK dL_law_1149 0 rfl (by decide) ci_6 rfl (fun z271 => ?_)
          refine J_goto (len := 0) (tgt := 18) hK dL_law_1152 (by decide) ?_
          exact J_sub [0, 1, 2, 3] rfl (ih _ _)
        · refine J_iconst hK dL_law_524 ci_0 ?_
          exact J_none
      refine J_split (c := ((xs (Int32.toNatClampNeg x3)) &&& (63 : Int32)) = (12 : Int32)) (fun e278 => ?_) (fun e278 => ?_)
      · refine J_tableIn (v := 12) (off := 493) (tgt := 526) hK dL_law_33 e278 (by decide) ?_
        refine J_aload_n hK dL_law_526 2 rfl ?_
        refine J_callVi (q := 0) (As := []) (st := []) hK dL_law_527 kB_L_66 kV_X5_undo kd_0 (by decide) rfl rfl (by decide) rfl rfl (Nat.le_of_ble_eq_true rfl) (fun _ _ hf => uX5_undo  hf) (fun v274 h273 => ?_)
        refine J_aload_n hK dL_law_530 1 rfl ?_
        refine J_callVi (q := 278) (As := []) (st := [.int v274]) hK dL_law_531 kB_L_69 kV_X6_undo kd_278 (by decide) rfl rfl (by decide) rfl rfl (Nat.le_of_ble_eq_true rfl) (fun _ _ hf => uX6_undo  hf) (fun v276 h275 => ?_)
        refine J_icmp_eq (tgt := 1149) hK dL_law_534 (by decide) ?_ ?_
        · refine J_iinc (lw := [(2, .ref (X.1 + 278)), (1, .ref (X.1 + 0)), (0, .ref b)]) hK dL_law_1149 0 rfl (by decide) ci_6 rfl (fun z277 => ?_)
          refine J_goto (len := 0) (tgt := 18) hK dL_law_1152 (by decide) ?_
          exact J_sub [0, 1, 2, 3] rfl (ih _ _)
        · refine J_iconst hK dL_law_537 ci_0 ?_
          exact J_none
      refine J_split (c := ((xs (Int32.toNatClampNeg x3)) &&& (63 : Int32)) = (13 : Int32)) (fun e284 => ?_) (fun e284 => ?_)
      · refine J_tableIn (v := 13) (off := 506) (tgt := 539) hK dL_law_33 e284 (by decide) ?_
        refine J_aload_n hK dL_law_539 2 rfl ?_
        refine J_aload_n hK dL_law_540 3 rfl ?_
        refine J_iload_n hK dL_law_541 0 rfl ?_
        refine J_iconst hK dL_law_542 ci_1 ?_
        refine J_iadd hK dL_law_543 ?_
        refine J_sld hK hL dL_law_544 ?_
        refine J_aload_n hK dL_law_545 3 rfl ?_
        refine J_iload_n hK dL_law_546 0 rfl ?_
        refine J_iconst hK dL_law_547 ci_2 ?_
        refine J_iadd hK dL_law_548 ?_
        refine J_sld hK hL dL_law_549 ?_
        refine J_callVi (q := 0) (As := [.int (xs (Int32.toNatClampNeg (x3 + (1 : Int32)))), .int (xs (Int32.toNatClampNeg (x3 + (2 : Int32))))]) (st := []) hK dL_law_550 kB_L_70 kV_X5_tug kd_0 (by decide) rfl rfl (by decide) rfl rfl (Nat.le_of_ble_eq_true rfl) (fun _ _ hf => uX5_tug  hf) (fun v280 h279 => ?_)
        refine J_aload_n hK dL_law_553 1 rfl ?_
        refine J_aload_n hK dL_law_554 3 rfl ?_
        refine J_iload_n hK dL_law_555 0 rfl ?_
        refine J_iconst hK dL_law_556 ci_1 ?_
        refine J_iadd hK dL_law_557 ?_
        refine J_sld hK hL dL_law_558 ?_
        refine J_aload_n hK dL_law_559 3 rfl ?_
        refine J_iload_n hK dL_law_560 0 rfl ?_
        refine J_iconst hK dL_law_561 ci_2 ?_
        refine J_iadd hK dL_law_562 ?_
        refine J_sld hK hL dL_law_563 ?_
        refine J_callVi (q := 278) (As := [.int (xs (Int32.toNatClampNeg (x3 + (1 : Int32)))), .int (xs (Int32.toNatClampNeg (x3 + (2 : Int32))))]) (st := [.int v280]) hK dL_law_564 kB_L_73 kV_X6_tug kd_278 (by decide) rfl rfl (by decide) rfl rfl (Nat.le_of_ble_eq_true rfl) (fun _ _ hf => uX6_tug  hf) (fun v282 h281 => ?_)
        refine J_icmp_eq (tgt := 1149) hK dL_law_567 (by decide) ?_ ?_
        · refine J_iinc (lw := [(2, .ref (X.1 + 278)), (1, .ref (X.1 + 0)), (0, .ref b)]) hK dL_law_1149 0 rfl (by decide) ci_6 rfl (fun z283 => ?_)
          refine J_goto (len := 0) (tgt := 18) hK dL_law_1152 (by decide) ?_
          exact J_sub [0, 1, 2, 3] rfl (ih _ _)
        · refine J_iconst hK dL_law_570 ci_0 ?_
          exact J_none
      refine J_split (c := ((xs (Int32.toNatClampNeg x3)) &&& (63 : Int32)) = (14 : Int32)) (fun e290 => ?_) (fun e290 => ?_)
      · refine J_tableIn (v := 14) (off := 539) (tgt := 572) hK dL_law_33 e290 (by decide) ?_
        refine J_aload_n hK dL_law_572 2 rfl ?_
        refine J_aload_n hK dL_law_573 3 rfl ?_
        refine J_iload_n hK dL_law_574 0 rfl ?_
        refine J_iconst hK dL_law_575 ci_1 ?_
        refine J_iadd hK dL_law_576 ?_
        refine J_sld hK hL dL_law_577 ?_
        refine J_aload_n hK dL_law_578 3 rfl ?_
        refine J_iload_n hK dL_law_579 0 rfl ?_
        refine J_iconst hK dL_law_580 ci_2 ?_
        refine J_iadd hK dL_law_581 ?_
        refine J_sld hK hL dL_law_582 ?_
        refine J_callVi (q := 0) (As := [.int (xs (Int32.toNatClampNeg (x3 + (1 : Int32)))), .int (xs (Int32.toNatClampNeg (x3 + (2 : Int32))))]) (st := []) hK dL_law_583 kB_L_74 kV_X5_pier kd_0 (by decide) rfl rfl (by decide) rfl rfl (Nat.le_of_ble_eq_true rfl) (fun _ _ hf => uX5_pier  hf) (fun v286 h285 => ?_)
        refine J_aload_n hK dL_law_586 1 rfl ?_
        refine J_aload_n hK dL_law_587 3 rfl ?_
        refine J_iload_n hK dL_law_588 0 rfl ?_
        refine J_iconst hK dL_law_589 ci_1 ?_
        refine J_iadd hK dL_law_590 ?_
        refine J_sld hK hL dL_law_591 ?_
        refine J_aload_n hK dL_law_592 3 rfl ?_
        refine J_iload_n hK dL_law_593 0 rfl ?_
        refine J_iconst hK dL_law_594 ci_2 ?_
        refine J_iadd hK dL_law_595 ?_
        refine J_sld hK hL dL_law_596 ?_
        refine J_callVi (q := 278) (As := [.int (xs (Int32.toNatClampNeg (x3 + (1 : Int32)))), .int (xs (Int32.toNatClampNeg (x3 + (2 : Int32))))]) (st := [.int v286]) hK dL_law_597 kB_L_77 kV_X6_pier kd_278 (by decide) rfl rfl (by decide) rfl rfl (Nat.le_of_ble_eq_true rfl) (fun _ _ hf => uX6_pier  hf) (fun v288 h287 => ?_)
        refine J_icmp_eq (tgt := 1149) hK dL_law_600 (by decide) ?_ ?_
        · refine J_iinc (lw := [(2, .ref (X.1 + 278)), (1, .ref (X.1 + 0)), (0, .ref b)]) hK dL_law_1149 0 rfl (by decide) ci_6 rfl (fun z289 => ?_)
          refine J_goto (len := 0) (tgt := 18) hK dL_law_1152 (by decide) ?_
          exact J_sub [0, 1, 2, 3] rfl (ih _ _)
        · refine J_iconst hK dL_law_603 ci_0 ?_
          exact J_none
      refine J_split (c := ((xs (Int32.toNatClampNeg x3)) &&& (63 : Int32)) = (15 : Int32)) (fun e296 => ?_) (fun e296 => ?_)
      · refine J_tableIn (v := 15) (off := 572) (tgt := 605) hK dL_law_33 e296 (by decide) ?_
        refine J_aload_n hK dL_law_605 2 rfl ?_
        refine J_aload_n hK dL_law_606 3 rfl ?_
        refine J_iload_n hK dL_law_607 0 rfl ?_
        refine J_iconst hK dL_law_608 ci_1 ?_
        refine J_iadd hK dL_law_609 ?_
        refine J_sld hK hL dL_law_610 ?_
        refine J_aload_n hK dL_law_611 3 rfl ?_
        refine J_iload_n hK dL_law_612 0 rfl ?_
        refine J_iconst hK dL_law_613 ci_2 ?_
        refine J_iadd hK dL_law_614 ?_
        refine J_sld hK hL dL_law_615 ?_
        refine J_callVi (q := 0) (As := [.int (xs (Int32.toNatClampNeg (x3 + (1 : Int32)))), .int (xs (Int32.toNatClampNeg (x3 + (2 : Int32))))]) (st := []) hK dL_law_616 kB_L_78 kV_X5_later kd_0 (by decide) rfl rfl (by decide) rfl rfl (Nat.le_of_ble_eq_true rfl) (fun _ _ hf => uX5_later  hf) (fun v292 h291 => ?_)
        refine J_aload_n hK dL_law_619 1 rfl ?_
        refine J_aload_n hK dL_law_620 3 rfl ?_
        refine J_iload_n hK dL_law_621 0 rfl ?_
        refine J_iconst hK dL_law_622 ci_1 ?_
        refine J_iadd hK dL_law_623 ?_
        refine J_sld hK hL dL_law_624 ?_
        refine J_aload_n hK dL_law_625 3 rfl ?_
        refine J_iload_n hK dL_law_626 0 rfl ?_
        refine J_iconst hK dL_law_627 ci_2 ?_
        refine J_iadd hK dL_law_628 ?_
        refine J_sld hK hL dL_law_629 ?_
        refine J_callVi (q := 278) (As := [.int (xs (Int32.toNatClampNeg (x3 + (1 : Int32)))), .int (xs (Int32.toNatClampNeg (x3 + (2 : Int32))))]) (st := [.int v292]) hK dL_law_630 kB_L_81 kV_X6_later kd_278 (by decide) rfl rfl (by decide) rfl rfl (Nat.le_of_ble_eq_true rfl) (fun _ _ hf => uX6_later  hf) (fun v294 h293 => ?_)
        refine J_icmp_eq (tgt := 1149) hK dL_law_633 (by decide) ?_ ?_
        · refine J_iinc (lw := [(2, .ref (X.1 + 278)), (1, .ref (X.1 + 0)), (0, .ref b)]) hK dL_law_1149 0 rfl (by decide) ci_6 rfl (fun z295 => ?_)
          refine J_goto (len := 0) (tgt := 18) hK dL_law_1152 (by decide) ?_
          exact J_sub [0, 1, 2, 3] rfl (ih _ _)
        · refine J_iconst hK dL_law_636 ci_0 ?_
          exact J_none
      refine J_split (c := ((xs (Int32.toNatClampNeg x3)) &&& (63 : Int32)) = (16 : Int32)) (fun e302 => ?_) (fun e302 => ?_)
      · refine J_tableIn (v := 16) (off := 605) (tgt := 638) hK dL_law_33 e302 (by decide) ?_
        refine J_aload_n hK dL_law_638 2 rfl ?_
        refine J_callVi (q := 0) (As := []) (st := []) hK dL_law_639 kB_L_82 kV_X5_arrives kd_0 (by decide) rfl rfl (by decide) rfl rfl (Nat.le_of_ble_eq_true rfl) (fun _ _ hf => uX5_arrives  hf) (fun v298 h297 => ?_)
        refine J_aload_n hK dL_law_642 1 rfl ?_
        refine J_callVi (q := 278) (As := []) (st := [.int v298]) hK dL_law_643 kB_L_85 kV_X6_arrives kd_278 (by decide) rfl rfl (by decide) rfl rfl (Nat.le_of_ble_eq_true rfl) (fun _ _ hf => uX6_arrives  hf) (fun v300 h299 => ?_)
        refine J_icmp_eq (tgt := 1149) hK dL_law_646 (by decide) ?_ ?_
        · refine J_iinc (lw := [(2, .ref (X.1 + 278)), (1, .ref (X.1 + 0)), (0, .ref b)]) hK dL_law_1149 0 rfl (by decide) ci_6 rfl (fun z301 => ?_)
          refine J_goto (len := 0) (tgt := 18) hK dL_law_1152 (by decide) ?_
          exact J_sub [0, 1, 2, 3] rfl (ih _ _)
        · refine J_iconst hK dL_law_649 ci_0 ?_
          exact J_none
      refine J_split (c := ((xs (Int32.toNatClampNeg x3)) &&& (63 : Int32)) = (17 : Int32)) (fun e308 => ?_) (fun e308 => ?_)
      · refine J_tableIn (v := 17) (off := 618) (tgt := 651) hK dL_law_33 e308 (by decide) ?_
        refine J_aload_n hK dL_law_651 2 rfl ?_
        refine J_aload_n hK dL_law_652 3 rfl ?_
        refine J_iload_n hK dL_law_653 0 rfl ?_
        refine J_iconst hK dL_law_654 ci_1 ?_
        refine J_iadd hK dL_law_655 ?_
        refine J_sld hK hL dL_law_656 ?_
        refine J_callVi (q := 0) (As := [.int (xs (Int32.toNatClampNeg (x3 + (1 : Int32))))]) (st := []) hK dL_law_657 kB_L_86 kV_X5_parts kd_0 (by decide) rfl rfl (by decide) rfl rfl (Nat.le_of_ble_eq_true rfl) (fun _ _ hf => uX5_parts  hf) (fun v304 h303 => ?_)
        refine J_aload_n hK dL_law_660 1 rfl ?_
        refine J_aload_n hK dL_law_661 3 rfl ?_
        refine J_iload_n hK dL_law_662 0 rfl ?_
        refine J_iconst hK dL_law_663 ci_1 ?_
        refine J_iadd hK dL_law_664 ?_
        refine J_sld hK hL dL_law_665 ?_
        refine J_callVi (q := 278) (As := [.int (xs (Int32.toNatClampNeg (x3 + (1 : Int32))))]) (st := [.int v304]) hK dL_law_666 kB_L_89 kV_X6_parts kd_278 (by decide) rfl rfl (by decide) rfl rfl (Nat.le_of_ble_eq_true rfl) (fun _ _ hf => uX6_parts  hf) (fun v306 h305 => ?_)
        refine J_icmp_eq (tgt := 1149) hK dL_law_669 (by decide) ?_ ?_
        · refine J_iinc (lw := [(2, .ref (X.1 + 278)), (1, .ref (X.1 + 0)), (0, .ref b)]) hK dL_law_1149 0 rfl (by decide) ci_6 rfl (fun z307 => ?_)
          refine J_goto (len := 0) (tgt := 18) hK dL_law_1152 (by decide) ?_
          exact J_sub [0, 1, 2, 3] rfl (ih _ _)
        · refine J_iconst hK dL_law_672 ci_0 ?_
          exact J_none
      refine J_split (c := ((xs (Int32.toNatClampNeg x3)) &&& (63 : Int32)) = (18 : Int32)) (fun e314 => ?_) (fun e314 => ?_)
      · refine J_tableIn (v := 18) (off := 641) (tgt := 674) hK dL_law_33 e314 (by decide) ?_
        refine J_aload_n hK dL_law_674 2 rfl ?_
        refine J_aload_n hK dL_law_675 3 rfl ?_
        refine J_iload_n hK dL_law_676 0 rfl ?_
        refine J_iconst hK dL_law_677 ci_1 ?_
        refine J_iadd hK dL_law_678 ?_
        refine J_sld hK hL dL_law_679 ?_
        refine J_aload_n hK dL_law_680 3 rfl ?_
        refine J_iload_n hK dL_law_681 0 rfl ?_
        refine J_iconst hK dL_law_682 ci_2 ?_
        refine J_iadd hK dL_law_683 ?_
        refine J_sld hK hL dL_law_684 ?_
        refine J_callVi (q := 0) (As := [.int (xs (Int32.toNatClampNeg (x3 + (1 : Int32)))), .int (xs (Int32.toNatClampNeg (x3 + (2 : Int32))))]) (st := []) hK dL_law_685 kB_L_90 kV_X5_crew kd_0 (by decide) rfl rfl (by decide) rfl rfl (Nat.le_of_ble_eq_true rfl) (fun _ _ hf => uX5_crew  hf) (fun v310 h309 => ?_)
        refine J_aload_n hK dL_law_688 1 rfl ?_
        refine J_aload_n hK dL_law_689 3 rfl ?_
        refine J_iload_n hK dL_law_690 0 rfl ?_
        refine J_iconst hK dL_law_691 ci_1 ?_
        refine J_iadd hK dL_law_692 ?_
        refine J_sld hK hL dL_law_693 ?_
        refine J_aload_n hK dL_law_694 3 rfl ?_
        refine J_iload_n hK dL_law_695 0 rfl ?_
        refine J_iconst hK dL_law_696 ci_2 ?_
        refine J_iadd hK dL_law_697 ?_
        refine J_sld hK hL dL_law_698 ?_
        refine J_callVi (q := 278) (As := [.int (xs (Int32.toNatClampNeg (x3 + (1 : Int32)))), .int (xs (Int32.toNatClampNeg (x3 + (2 : Int32))))]) (st := [.int v310]) hK dL_law_699 kB_L_93 kV_X6_crew kd_278 (by decide) rfl rfl (by decide) rfl rfl (Nat.le_of_ble_eq_true rfl) (fun _ _ hf => uX6_crew  hf) (fun v312 h311 => ?_)
        refine J_icmp_eq (tgt := 1149) hK dL_law_702 (by decide) ?_ ?_
        · refine J_iinc (lw := [(2, .ref (X.1 + 278)), (1, .ref (X.1 + 0)), (0, .ref b)]) hK dL_law_1149 0 rfl (by decide) ci_6 rfl (fun z313 => ?_)
          refine J_goto (len := 0) (tgt := 18) hK dL_law_1152 (by decide) ?_
          exact J_sub [0, 1, 2, 3] rfl (ih _ _)
        · refine J_iconst hK dL_law_705 ci_0 ?_
          exact J_none
      refine J_split (c := ((xs (Int32.toNatClampNeg x3)) &&& (63 : Int32)) = (19 : Int32)) (fun e320 => ?_) (fun e320 => ?_)
      · refine J_tableIn (v := 19) (off := 674) (tgt := 707) hK dL_law_33 e320 (by decide) ?_
        refine J_aload_n hK dL_law_707 2 rfl ?_
        refine J_aload_n hK dL_law_708 3 rfl ?_
        refine J_iload_n hK dL_law_709 0 rfl ?_
        refine J_iconst hK dL_law_710 ci_1 ?_
        refine J_iadd hK dL_law_711 ?_
        refine J_sld hK hL dL_law_712 ?_
        refine J_aload_n hK dL_law_713 3 rfl ?_
        refine J_iload_n hK dL_law_714 0 rfl ?_
        refine J_iconst hK dL_law_715 ci_2 ?_
        refine J_iadd hK dL_law_716 ?_
        refine J_sld hK hL dL_law_717 ?_
        refine J_callVi (q := 0) (As := [.int (xs (Int32.toNatClampNeg (x3 + (1 : Int32)))), .int (xs (Int32.toNatClampNeg (x3 + (2 : Int32))))]) (st := []) hK dL_law_718 kB_L_94 kV_X5_cleared kd_0 (by decide) rfl rfl (by decide) rfl rfl (Nat.le_of_ble_eq_true rfl) (fun _ _ hf => uX5_cleared  hf) (fun v316 h315 => ?_)
        refine J_aload_n hK dL_law_721 1 rfl ?_
        refine J_aload_n hK dL_law_722 3 rfl ?_
        refine J_iload_n hK dL_law_723 0 rfl ?_
        refine J_iconst hK dL_law_724 ci_1 ?_
        refine J_iadd hK dL_law_725 ?_
        refine J_sld hK hL dL_law_726 ?_
        refine J_aload_n hK dL_law_727 3 rfl ?_
        refine J_iload_n hK dL_law_728 0 rfl ?_
        refine J_iconst hK dL_law_729 ci_2 ?_
        refine J_iadd hK dL_law_730 ?_
        refine J_sld hK hL dL_law_731 ?_
        refine J_callVi (q := 278) (As := [.int (xs (Int32.toNatClampNeg (x3 + (1 : Int32)))), .int (xs (Int32.toNatClampNeg (x3 + (2 : Int32))))]) (st := [.int v316]) hK dL_law_732 kB_L_97 kV_X6_cleared kd_278 (by decide) rfl rfl (by decide) rfl rfl (Nat.le_of_ble_eq_true rfl) (fun _ _ hf => uX6_cleared  hf) (fun v318 h317 => ?_)
        refine J_icmp_eq (tgt := 1149) hK dL_law_735 (by decide) ?_ ?_
        · refine J_iinc (lw := [(2, .ref (X.1 + 278)), (1, .ref (X.1 + 0)), (0, .ref b)]) hK dL_law_1149 0 rfl (by decide) ci_6 rfl (fun z319 => ?_)
          refine J_goto (len := 0) (tgt := 18) hK dL_law_1152 (by decide) ?_
          exact J_sub [0, 1, 2, 3] rfl (ih _ _)
        · refine J_iconst hK dL_law_738 ci_0 ?_
          exact J_none
      refine J_split (c := ((xs (Int32.toNatClampNeg x3)) &&& (63 : Int32)) = (20 : Int32)) (fun e326 => ?_) (fun e326 => ?_)
      · refine J_tableIn (v := 20) (off := 707) (tgt := 740) hK dL_law_33 e326 (by decide) ?_
        refine J_aload_n hK dL_law_740 2 rfl ?_
        refine J_aload_n hK dL_law_741 3 rfl ?_
        refine J_iload_n hK dL_law_742 0 rfl ?_
        refine J_iconst hK dL_law_743 ci_1 ?_
        refine J_iadd hK dL_law_744 ?_
        refine J_sld hK hL dL_law_745 ?_
        refine J_aload_n hK dL_law_746 3 rfl ?_
        refine J_iload_n hK dL_law_747 0 rfl ?_
        refine J_iconst hK dL_law_748 ci_2 ?_
        refine J_iadd hK dL_law_749 ?_
        refine J_sld hK hL dL_law_750 ?_
        refine J_callVi (q := 0) (As := [.int (xs (Int32.toNatClampNeg (x3 + (1 : Int32)))), .int (xs (Int32.toNatClampNeg (x3 + (2 : Int32))))]) (st := []) hK dL_law_751 kB_L_98 kV_X5_least kd_0 (by decide) rfl rfl (by decide) rfl rfl (Nat.le_of_ble_eq_true rfl) (fun _ _ hf => uX5_least  hf) (fun v322 h321 => ?_)
        refine J_aload_n hK dL_law_754 1 rfl ?_
        refine J_aload_n hK dL_law_755 3 rfl ?_
        refine J_iload_n hK dL_law_756 0 rfl ?_
        refine J_iconst hK dL_law_757 ci_1 ?_
        refine J_iadd hK dL_law_758 ?_
        refine J_sld hK hL dL_law_759 ?_
        refine J_aload_n hK dL_law_760 3 rfl ?_
        refine J_iload_n hK dL_law_761 0 rfl ?_
        refine J_iconst hK dL_law_762 ci_2 ?_
        refine J_iadd hK dL_law_763 ?_
        refine J_sld hK hL dL_law_764 ?_
        refine J_callVi (q := 278) (As := [.int (xs (Int32.toNatClampNeg (x3 + (1 : Int32)))), .int (xs (Int32.toNatClampNeg (x3 + (2 : Int32))))]) (st := [.int v322]) hK dL_law_765 kB_L_101 kV_X6_least kd_278 (by decide) rfl rfl (by decide) rfl rfl (Nat.le_of_ble_eq_true rfl) (fun _ _ hf => uX6_least  hf) (fun v324 h323 => ?_)
        refine J_icmp_eq (tgt := 1149) hK dL_law_768 (by decide) ?_ ?_
        · refine J_iinc (lw := [(2, .ref (X.1 + 278)), (1, .ref (X.1 + 0)), (0, .ref b)]) hK dL_law_1149 0 rfl (by decide) ci_6 rfl (fun z325 => ?_)
          refine J_goto (len := 0) (tgt := 18) hK dL_law_1152 (by decide) ?_
          exact J_sub [0, 1, 2, 3] rfl (ih _ _)
        · refine J_iconst hK dL_law_771 ci_0 ?_
          exact J_none
      refine J_split (c := ((xs (Int32.toNatClampNeg x3)) &&& (63 : Int32)) = (21 : Int32)) (fun e332 => ?_) (fun e332 => ?_)
      · refine J_tableIn (v := 21) (off := 740) (tgt := 773) hK dL_law_33 e332 (by decide) ?_
        refine J_aload_n hK dL_law_773 2 rfl ?_
        refine J_aload_n hK dL_law_774 3 rfl ?_
        refine J_iload_n hK dL_law_775 0 rfl ?_
        refine J_iconst hK dL_law_776 ci_1 ?_
        refine J_iadd hK dL_law_777 ?_
        refine J_sld hK hL dL_law_778 ?_
        refine J_aload_n hK dL_law_779 3 rfl ?_
        refine J_iload_n hK dL_law_780 0 rfl ?_
        refine J_iconst hK dL_law_781 ci_2 ?_
        refine J_iadd hK dL_law_782 ?_
        refine J_sld hK hL dL_law_783 ?_
        refine J_callVi (q := 0) (As := [.int (xs (Int32.toNatClampNeg (x3 + (1 : Int32)))), .int (xs (Int32.toNatClampNeg (x3 + (2 : Int32))))]) (st := []) hK dL_law_784 kB_L_102 kV_X5_share kd_0 (by decide) rfl rfl (by decide) rfl rfl (Nat.le_of_ble_eq_true rfl) (fun _ _ hf => uX5_share  hf) (fun v328 h327 => ?_)
        refine J_aload_n hK dL_law_787 1 rfl ?_
        refine J_aload_n hK dL_law_788 3 rfl ?_
        refine J_iload_n hK dL_law_789 0 rfl ?_
        refine J_iconst hK dL_law_790 ci_1 ?_
        refine J_iadd hK dL_law_791 ?_
        refine J_sld hK hL dL_law_792 ?_
        refine J_aload_n hK dL_law_793 3 rfl ?_
        refine J_iload_n hK dL_law_794 0 rfl ?_
        refine J_iconst hK dL_law_795 ci_2 ?_
        refine J_iadd hK dL_law_796 ?_
        refine J_sld hK hL dL_law_797 ?_
        refine J_callVi (q := 278) (As := [.int (xs (Int32.toNatClampNeg (x3 + (1 : Int32)))), .int (xs (Int32.toNatClampNeg (x3 + (2 : Int32))))]) (st := [.int v328]) hK dL_law_798 kB_L_105 kV_X6_share kd_278 (by decide) rfl rfl (by decide) rfl rfl (Nat.le_of_ble_eq_true rfl) (fun _ _ hf => uX6_share  hf) (fun v330 h329 => ?_)
        refine J_icmp_eq (tgt := 1149) hK dL_law_801 (by decide) ?_ ?_
        · refine J_iinc (lw := [(2, .ref (X.1 + 278)), (1, .ref (X.1 + 0)), (0, .ref b)]) hK dL_law_1149 0 rfl (by decide) ci_6 rfl (fun z331 => ?_)
          refine J_goto (len := 0) (tgt := 18) hK dL_law_1152 (by decide) ?_
          exact J_sub [0, 1, 2, 3] rfl (ih _ _)
        · refine J_iconst hK dL_law_804 ci_0 ?_
          exact J_none
      refine J_split (c := ((xs (Int32.toNatClampNeg x3)) &&& (63 : Int32)) = (22 : Int32)) (fun e338 => ?_) (fun e338 => ?_)
      · refine J_tableIn (v := 22) (off := 773) (tgt := 806) hK dL_law_33 e338 (by decide) ?_
        refine J_aload_n hK dL_law_806 2 rfl ?_
        refine J_aload_n hK dL_law_807 3 rfl ?_
        refine J_iload_n hK dL_law_808 0 rfl ?_
        refine J_iconst hK dL_law_809 ci_1 ?_
        refine J_iadd hK dL_law_810 ?_
        refine J_sld hK hL dL_law_811 ?_
        refine J_aload_n hK dL_law_812 3 rfl ?_
        refine J_iload_n hK dL_law_813 0 rfl ?_
        refine J_iconst hK dL_law_814 ci_2 ?_
        refine J_iadd hK dL_law_815 ?_
        refine J_sld hK hL dL_law_816 ?_
        refine J_aload_n hK dL_law_817 3 rfl ?_
        refine J_iload_n hK dL_law_818 0 rfl ?_
        refine J_iconst hK dL_law_819 ci_3 ?_
        refine J_iadd hK dL_law_820 ?_
        refine J_sld hK hL dL_law_821 ?_
        refine J_aload_n hK dL_law_822 3 rfl ?_
        refine J_iload_n hK dL_law_823 0 rfl ?_
        refine J_iconst hK dL_law_824 ci_4 ?_
        refine J_iadd hK dL_law_825 ?_
        refine J_sld hK hL dL_law_826 ?_
        refine J_aload_n hK dL_law_827 3 rfl ?_
        refine J_iload_n hK dL_law_828 0 rfl ?_
        refine J_iconst hK dL_law_829 ci_5 ?_
        refine J_iadd hK dL_law_830 ?_
        refine J_sld hK hL dL_law_831 ?_
        refine J_callVi (q := 0) (As := [.int (xs (Int32.toNatClampNeg (x3 + (1 : Int32)))), .int (xs (Int32.toNatClampNeg (x3 + (2 : Int32)))), .int (xs (Int32.toNatClampNeg (x3 + (3 : Int32)))), .int (xs (Int32.toNatClampNeg (x3 + (4 : Int32)))), .int (xs (Int32.toNatClampNeg (x3 + (5 : Int32))))]) (st := []) hK dL_law_832 kB_L_106 kV_X5_fits kd_0 (by decide) rfl rfl (by decide) rfl rfl (Nat.le_of_ble_eq_true rfl) (fun _ _ hf => uX5_fits  hf) (fun v334 h333 => ?_)
        refine J_aload_n hK dL_law_835 1 rfl ?_
        refine J_aload_n hK dL_law_836 3 rfl ?_
        refine J_iload_n hK dL_law_837 0 rfl ?_
        refine J_iconst hK dL_law_838 ci_1 ?_
        refine J_iadd hK dL_law_839 ?_
        refine J_sld hK hL dL_law_840 ?_
        refine J_aload_n hK dL_law_841 3 rfl ?_
        refine J_iload_n hK dL_law_842 0 rfl ?_
        refine J_iconst hK dL_law_843 ci_2 ?_
        refine J_iadd hK dL_law_844 ?_
        refine J_sld hK hL dL_law_845 ?_
        refine J_aload_n hK dL_law_846 3 rfl ?_
        refine J_iload_n hK dL_law_847 0 rfl ?_
        refine J_iconst hK dL_law_848 ci_3 ?_
        refine J_iadd hK dL_law_849 ?_
        refine J_sld hK hL dL_law_850 ?_
        refine J_aload_n hK dL_law_851 3 rfl ?_
        refine J_iload_n hK dL_law_852 0 rfl ?_
        refine J_iconst hK dL_law_853 ci_4 ?_
        refine J_iadd hK dL_law_854 ?_
        refine J_sld hK hL dL_law_855 ?_
        refine J_aload_n hK dL_law_856 3 rfl ?_
        refine J_iload_n hK dL_law_857 0 rfl ?_
        refine J_iconst hK dL_law_858 ci_5 ?_
        refine J_iadd hK dL_law_859 ?_
        refine J_sld hK hL dL_law_860 ?_
        refine J_callVi (q := 278) (As := [.int (xs (Int32.toNatClampNeg (x3 + (1 : Int32)))), .int (xs (Int32.toNatClampNeg (x3 + (2 : Int32)))), .int (xs (Int32.toNatClampNeg (x3 + (3 : Int32)))), .int (xs (Int32.toNatClampNeg (x3 + (4 : Int32)))), .int (xs (Int32.toNatClampNeg (x3 + (5 : Int32))))]) (st := [.int v334]) hK dL_law_861 kB_L_109 kV_X6_fits kd_278 (by decide) rfl rfl (by decide) rfl rfl (Nat.le_of_ble_eq_true rfl) (fun _ _ hf => uX6_fits  hf) (fun v336 h335 => ?_)
        refine J_icmp_eq (tgt := 1149) hK dL_law_864 (by decide) ?_ ?_
        · refine J_iinc (lw := [(2, .ref (X.1 + 278)), (1, .ref (X.1 + 0)), (0, .ref b)]) hK dL_law_1149 0 rfl (by decide) ci_6 rfl (fun z337 => ?_)
          refine J_goto (len := 0) (tgt := 18) hK dL_law_1152 (by decide) ?_
          exact J_sub [0, 1, 2, 3] rfl (ih _ _)
        · refine J_iconst hK dL_law_867 ci_0 ?_
          exact J_none
      refine J_split (c := ((xs (Int32.toNatClampNeg x3)) &&& (63 : Int32)) = (23 : Int32)) (fun e344 => ?_) (fun e344 => ?_)
      · refine J_tableIn (v := 23) (off := 836) (tgt := 869) hK dL_law_33 e344 (by decide) ?_
        refine J_aload_n hK dL_law_869 2 rfl ?_
        refine J_aload_n hK dL_law_870 3 rfl ?_
        refine J_iload_n hK dL_law_871 0 rfl ?_
        refine J_iconst hK dL_law_872 ci_1 ?_
        refine J_iadd hK dL_law_873 ?_
        refine J_sld hK hL dL_law_874 ?_
        refine J_aload_n hK dL_law_875 3 rfl ?_
        refine J_iload_n hK dL_law_876 0 rfl ?_
        refine J_iconst hK dL_law_877 ci_2 ?_
        refine J_iadd hK dL_law_878 ?_
        refine J_sld hK hL dL_law_879 ?_
        refine J_aload_n hK dL_law_880 3 rfl ?_
        refine J_iload_n hK dL_law_881 0 rfl ?_
        refine J_iconst hK dL_law_882 ci_3 ?_
        refine J_iadd hK dL_law_883 ?_
        refine J_sld hK hL dL_law_884 ?_
        refine J_callVi (q := 0) (As := [.int (xs (Int32.toNatClampNeg (x3 + (1 : Int32)))), .int (xs (Int32.toNatClampNeg (x3 + (2 : Int32)))), .int (xs (Int32.toNatClampNeg (x3 + (3 : Int32))))]) (st := []) hK dL_law_885 kB_L_110 kV_X5_chance kd_0 (by decide) rfl rfl (by decide) rfl rfl (Nat.le_of_ble_eq_true rfl) (fun _ _ hf => uX5_chance  hf) (fun v340 h339 => ?_)
        refine J_aload_n hK dL_law_888 1 rfl ?_
        refine J_aload_n hK dL_law_889 3 rfl ?_
        refine J_iload_n hK dL_law_890 0 rfl ?_
        refine J_iconst hK dL_law_891 ci_1 ?_
        refine J_iadd hK dL_law_892 ?_
        refine J_sld hK hL dL_law_893 ?_
        refine J_aload_n hK dL_law_894 3 rfl ?_
        refine J_iload_n hK dL_law_895 0 rfl ?_
        refine J_iconst hK dL_law_896 ci_2 ?_
        refine J_iadd hK dL_law_897 ?_
        refine J_sld hK hL dL_law_898 ?_
        refine J_aload_n hK dL_law_899 3 rfl ?_
        refine J_iload_n hK dL_law_900 0 rfl ?_
        refine J_iconst hK dL_law_901 ci_3 ?_
        refine J_iadd hK dL_law_902 ?_
        refine J_sld hK hL dL_law_903 ?_
        refine J_callVi (q := 278) (As := [.int (xs (Int32.toNatClampNeg (x3 + (1 : Int32)))), .int (xs (Int32.toNatClampNeg (x3 + (2 : Int32)))), .int (xs (Int32.toNatClampNeg (x3 + (3 : Int32))))]) (st := [.int v340]) hK dL_law_904 kB_L_113 kV_X6_chance kd_278 (by decide) rfl rfl (by decide) rfl rfl (Nat.le_of_ble_eq_true rfl) (fun _ _ hf => uX6_chance  hf) (fun v342 h341 => ?_)
        refine J_icmp_eq (tgt := 1149) hK dL_law_907 (by decide) ?_ ?_
        · refine J_iinc (lw := [(2, .ref (X.1 + 278)), (1, .ref (X.1 + 0)), (0, .ref b)]) hK dL_law_1149 0 rfl (by decide) ci_6 rfl (fun z343 => ?_)
          refine J_goto (len := 0) (tgt := 18) hK dL_law_1152 (by decide) ?_
          exact J_sub [0, 1, 2, 3] rfl (ih _ _)
        · refine J_iconst hK dL_law_910 ci_0 ?_
          exact J_none
      refine J_split (c := ((xs (Int32.toNatClampNeg x3)) &&& (63 : Int32)) = (24 : Int32)) (fun e350 => ?_) (fun e350 => ?_)
      · refine J_tableIn (v := 24) (off := 879) (tgt := 912) hK dL_law_33 e350 (by decide) ?_
        refine J_aload_n hK dL_law_912 2 rfl ?_
        refine J_aload_n hK dL_law_913 3 rfl ?_
        refine J_iload_n hK dL_law_914 0 rfl ?_
        refine J_iconst hK dL_law_915 ci_1 ?_
        refine J_iadd hK dL_law_916 ?_
        refine J_sld hK hL dL_law_917 ?_
        refine J_aload_n hK dL_law_918 3 rfl ?_
        refine J_iload_n hK dL_law_919 0 rfl ?_
        refine J_iconst hK dL_law_920 ci_2 ?_
        refine J_iadd hK dL_law_921 ?_
        refine J_sld hK hL dL_law_922 ?_
        refine J_aload_n hK dL_law_923 3 rfl ?_
        refine J_iload_n hK dL_law_924 0 rfl ?_
        refine J_iconst hK dL_law_925 ci_3 ?_
        refine J_iadd hK dL_law_926 ?_
        refine J_sld hK hL dL_law_927 ?_
        refine J_callVi (q := 0) (As := [.int (xs (Int32.toNatClampNeg (x3 + (1 : Int32)))), .int (xs (Int32.toNatClampNeg (x3 + (2 : Int32)))), .int (xs (Int32.toNatClampNeg (x3 + (3 : Int32))))]) (st := []) hK dL_law_928 kB_L_114 kV_X5_drawn kd_0 (by decide) rfl rfl (by decide) rfl rfl (Nat.le_of_ble_eq_true rfl) (fun _ _ hf => uX5_drawn  hf) (fun v346 h345 => ?_)
        refine J_aload_n hK dL_law_931 1 rfl ?_
        refine J_aload_n hK dL_law_932 3 rfl ?_
        refine J_iload_n hK dL_law_933 0 rfl ?_
        refine J_iconst hK dL_law_934 ci_1 ?_
        refine J_iadd hK dL_law_935 ?_
        refine J_sld hK hL dL_law_936 ?_
        refine J_aload_n hK dL_law_937 3 rfl ?_
        refine J_iload_n hK dL_law_938 0 rfl ?_
        refine J_iconst hK dL_law_939 ci_2 ?_
        refine J_iadd hK dL_law_940 ?_
        refine J_sld hK hL dL_law_941 ?_
        refine J_aload_n hK dL_law_942 3 rfl ?_
        refine J_iload_n hK dL_law_943 0 rfl ?_
        refine J_iconst hK dL_law_944 ci_3 ?_
        refine J_iadd hK dL_law_945 ?_
        refine J_sld hK hL dL_law_946 ?_
        refine J_callVi (q := 278) (As := [.int (xs (Int32.toNatClampNeg (x3 + (1 : Int32)))), .int (xs (Int32.toNatClampNeg (x3 + (2 : Int32)))), .int (xs (Int32.toNatClampNeg (x3 + (3 : Int32))))]) (st := [.int v346]) hK dL_law_947 kB_L_117 kV_X6_drawn kd_278 (by decide) rfl rfl (by decide) rfl rfl (Nat.le_of_ble_eq_true rfl) (fun _ _ hf => uX6_drawn  hf) (fun v348 h347 => ?_)
        refine J_icmp_eq (tgt := 1149) hK dL_law_950 (by decide) ?_ ?_
        · refine J_iinc (lw := [(2, .ref (X.1 + 278)), (1, .ref (X.1 + 0)), (0, .ref b)]) hK dL_law_1149 0 rfl (by decide) ci_6 rfl (fun z349 => ?_)
          refine J_goto (len := 0) (tgt := 18) hK dL_law_1152 (by decide) ?_
          exact J_sub [0, 1, 2, 3] rfl (ih _ _)
        · refine J_iconst hK dL_law_953 ci_0 ?_
          exact J_none
      refine J_split (c := ((xs (Int32.toNatClampNeg x3)) &&& (63 : Int32)) = (25 : Int32)) (fun e356 => ?_) (fun e356 => ?_)
      · refine J_tableIn (v := 25) (off := 922) (tgt := 955) hK dL_law_33 e356 (by decide) ?_
        refine J_aload_n hK dL_law_955 2 rfl ?_
        refine J_aload_n hK dL_law_956 3 rfl ?_
        refine J_iload_n hK dL_law_957 0 rfl ?_
        refine J_iconst hK dL_law_958 ci_1 ?_
        refine J_iadd hK dL_law_959 ?_
        refine J_sld hK hL dL_law_960 ?_
        refine J_callVi (q := 0) (As := [.int (xs (Int32.toNatClampNeg (x3 + (1 : Int32))))]) (st := []) hK dL_law_961 kB_L_118 kV_X5_image kd_0 (by decide) rfl rfl (by decide) rfl rfl (Nat.le_of_ble_eq_true rfl) (fun _ _ hf => uX5_image  hf) (fun v352 h351 => ?_)
        refine J_aload_n hK dL_law_964 1 rfl ?_
        refine J_aload_n hK dL_law_965 3 rfl ?_
        refine J_iload_n hK dL_law_966 0 rfl ?_
        refine J_iconst hK dL_law_967 ci_1 ?_
        refine J_iadd hK dL_law_968 ?_
        refine J_sld hK hL dL_law_969 ?_
        refine J_callVi (q := 278) (As := [.int (xs (Int32.toNatClampNeg (x3 + (1 : Int32))))]) (st := [.int v352]) hK dL_law_970 kB_L_121 kV_X6_image kd_278 (by decide) rfl rfl (by decide) rfl rfl (Nat.le_of_ble_eq_true rfl) (fun _ _ hf => uX6_image  hf) (fun v354 h353 => ?_)
        refine J_icmp_eq (tgt := 1149) hK dL_law_973 (by decide) ?_ ?_
        · refine J_iinc (lw := [(2, .ref (X.1 + 278)), (1, .ref (X.1 + 0)), (0, .ref b)]) hK dL_law_1149 0 rfl (by decide) ci_6 rfl (fun z355 => ?_)
          refine J_goto (len := 0) (tgt := 18) hK dL_law_1152 (by decide) ?_
          exact J_sub [0, 1, 2, 3] rfl (ih _ _)
        · refine J_iconst hK dL_law_976 ci_0 ?_
          exact J_none
      refine J_split (c := ((xs (Int32.toNatClampNeg x3)) &&& (63 : Int32)) = (26 : Int32)) (fun e362 => ?_) (fun e362 => ?_)
      · refine J_tableIn (v := 26) (off := 945) (tgt := 978) hK dL_law_33 e362 (by decide) ?_
        refine J_aload_n hK dL_law_978 2 rfl ?_
        refine J_aload_n hK dL_law_979 3 rfl ?_
        refine J_iload_n hK dL_law_980 0 rfl ?_
        refine J_iconst hK dL_law_981 ci_1 ?_
        refine J_iadd hK dL_law_982 ?_
        refine J_sld hK hL dL_law_983 ?_
        refine J_callVi (q := 0) (As := [.int (xs (Int32.toNatClampNeg (x3 + (1 : Int32))))]) (st := []) hK dL_law_984 kB_L_122 kV_X5_restore kd_0 (by decide) rfl rfl (by decide) rfl rfl (Nat.le_of_ble_eq_true rfl) (fun _ _ hf => uX5_restore  hf) (fun v358 h357 => ?_)
        refine J_aload_n hK dL_law_987 1 rfl ?_
        refine J_aload_n hK dL_law_988 3 rfl ?_
        refine J_iload_n hK dL_law_989 0 rfl ?_
        refine J_iconst hK dL_law_990 ci_1 ?_
        refine J_iadd hK dL_law_991 ?_
        refine J_sld hK hL dL_law_992 ?_
        refine J_callVi (q := 278) (As := [.int (xs (Int32.toNatClampNeg (x3 + (1 : Int32))))]) (st := [.int v358]) hK dL_law_993 kB_L_125 kV_X6_restore kd_278 (by decide) rfl rfl (by decide) rfl rfl (Nat.le_of_ble_eq_true rfl) (fun _ _ hf => uX6_restore  hf) (fun v360 h359 => ?_)
        refine J_icmp_eq (tgt := 1149) hK dL_law_996 (by decide) ?_ ?_
        · refine J_iinc (lw := [(2, .ref (X.1 + 278)), (1, .ref (X.1 + 0)), (0, .ref b)]) hK dL_law_1149 0 rfl (by decide) ci_6 rfl (fun z361 => ?_)
          refine J_goto (len := 0) (tgt := 18) hK dL_law_1152 (by decide) ?_
          exact J_sub [0, 1, 2, 3] rfl (ih _ _)
        · refine J_iconst hK dL_law_999 ci_0 ?_
          exact J_none
      refine J_split (c := ((xs (Int32.toNatClampNeg x3)) &&& (63 : Int32)) = (27 : Int32)) (fun e368 => ?_) (fun e368 => ?_)
      · refine J_tableIn (v := 27) (off := 968) (tgt := 1001) hK dL_law_33 e368 (by decide) ?_
        refine J_aload_n hK dL_law_1001 2 rfl ?_
        refine J_aload_n hK dL_law_1002 3 rfl ?_
        refine J_iload_n hK dL_law_1003 0 rfl ?_
        refine J_iconst hK dL_law_1004 ci_1 ?_
        refine J_iadd hK dL_law_1005 ?_
        refine J_sld hK hL dL_law_1006 ?_
        refine J_callVi (q := 0) (As := [.int (xs (Int32.toNatClampNeg (x3 + (1 : Int32))))]) (st := []) hK dL_law_1007 kB_L_126 kV_X5_kind kd_0 (by decide) rfl rfl (by decide) rfl rfl (Nat.le_of_ble_eq_true rfl) (fun _ _ hf => uX5_kind  hf) (fun v364 h363 => ?_)
        refine J_aload_n hK dL_law_1010 1 rfl ?_
        refine J_aload_n hK dL_law_1011 3 rfl ?_
        refine J_iload_n hK dL_law_1012 0 rfl ?_
        refine J_iconst hK dL_law_1013 ci_1 ?_
        refine J_iadd hK dL_law_1014 ?_
        refine J_sld hK hL dL_law_1015 ?_
        refine J_callVi (q := 278) (As := [.int (xs (Int32.toNatClampNeg (x3 + (1 : Int32))))]) (st := [.int v364]) hK dL_law_1016 kB_L_129 kV_X6_kind kd_278 (by decide) rfl rfl (by decide) rfl rfl (Nat.le_of_ble_eq_true rfl) (fun _ _ hf => uX6_kind  hf) (fun v366 h365 => ?_)
        refine J_icmp_eq (tgt := 1149) hK dL_law_1019 (by decide) ?_ ?_
        · refine J_iinc (lw := [(2, .ref (X.1 + 278)), (1, .ref (X.1 + 0)), (0, .ref b)]) hK dL_law_1149 0 rfl (by decide) ci_6 rfl (fun z367 => ?_)
          refine J_goto (len := 0) (tgt := 18) hK dL_law_1152 (by decide) ?_
          exact J_sub [0, 1, 2, 3] rfl (ih _ _)
        · refine J_iconst hK dL_law_1022 ci_0 ?_
          exact J_none
      refine J_split (c := ((xs (Int32.toNatClampNeg x3)) &&& (63 : Int32)) = (28 : Int32)) (fun e374 => ?_) (fun e374 => ?_)
      · refine J_tableIn (v := 28) (off := 991) (tgt := 1024) hK dL_law_33 e374 (by decide) ?_
        refine J_aload_n hK dL_law_1024 2 rfl ?_
        refine J_aload_n hK dL_law_1025 3 rfl ?_
        refine J_iload_n hK dL_law_1026 0 rfl ?_
        refine J_iconst hK dL_law_1027 ci_1 ?_
        refine J_iadd hK dL_law_1028 ?_
        refine J_sld hK hL dL_law_1029 ?_
        refine J_aload_n hK dL_law_1030 3 rfl ?_
        refine J_iload_n hK dL_law_1031 0 rfl ?_
        refine J_iconst hK dL_law_1032 ci_2 ?_
        refine J_iadd hK dL_law_1033 ?_
        refine J_sld hK hL dL_law_1034 ?_
        refine J_callVi (q := 0) (As := [.int (xs (Int32.toNatClampNeg (x3 + (1 : Int32)))), .int (xs (Int32.toNatClampNeg (x3 + (2 : Int32))))]) (st := []) hK dL_law_1035 kB_L_130 kV_X5_as kd_0 (by decide) rfl rfl (by decide) rfl rfl (Nat.le_of_ble_eq_true rfl) (fun _ _ hf => uX5_as  hf) (fun v370 h369 => ?_)
        refine J_aload_n hK dL_law_1038 1 rfl ?_
        refine J_aload_n hK dL_law_1039 3 rfl ?_
        refine J_iload_n hK dL_law_1040 0 rfl ?_
        refine J_iconst hK dL_law_1041 ci_1 ?_
        refine J_iadd hK dL_law_1042 ?_
        refine J_sld hK hL dL_law_1043 ?_
        refine J_aload_n hK dL_law_1044 3 rfl ?_
        refine J_iload_n hK dL_law_1045 0 rfl ?_
        refine J_iconst hK dL_law_1046 ci_2 ?_
        refine J_iadd hK dL_law_1047 ?_
        refine J_sld hK hL dL_law_1048 ?_
        refine J_callVi (q := 278) (As := [.int (xs (Int32.toNatClampNeg (x3 + (1 : Int32)))), .int (xs (Int32.toNatClampNeg (x3 + (2 : Int32))))]) (st := [.int v370]) hK dL_law_1049 kB_L_133 kV_X6_as kd_278 (by decide) rfl rfl (by decide) rfl rfl (Nat.le_of_ble_eq_true rfl) (fun _ _ hf => uX6_as  hf) (fun v372 h371 => ?_)
        refine J_icmp_eq (tgt := 1149) hK dL_law_1052 (by decide) ?_ ?_
        · refine J_iinc (lw := [(2, .ref (X.1 + 278)), (1, .ref (X.1 + 0)), (0, .ref b)]) hK dL_law_1149 0 rfl (by decide) ci_6 rfl (fun z373 => ?_)
          refine J_goto (len := 0) (tgt := 18) hK dL_law_1152 (by decide) ?_
          exact J_sub [0, 1, 2, 3] rfl (ih _ _)
        · refine J_iconst hK dL_law_1055 ci_0 ?_
          exact J_none
      refine J_split (c := ((xs (Int32.toNatClampNeg x3)) &&& (63 : Int32)) = (29 : Int32)) (fun e380 => ?_) (fun e380 => ?_)
      · refine J_tableIn (v := 29) (off := 1024) (tgt := 1057) hK dL_law_33 e380 (by decide) ?_
        refine J_aload_n hK dL_law_1057 2 rfl ?_
        refine J_aload_n hK dL_law_1058 3 rfl ?_
        refine J_iload_n hK dL_law_1059 0 rfl ?_
        refine J_iconst hK dL_law_1060 ci_1 ?_
        refine J_iadd hK dL_law_1061 ?_
        refine J_sld hK hL dL_law_1062 ?_
        refine J_aload_n hK dL_law_1063 3 rfl ?_
        refine J_iload_n hK dL_law_1064 0 rfl ?_
        refine J_iconst hK dL_law_1065 ci_2 ?_
        refine J_iadd hK dL_law_1066 ?_
        refine J_sld hK hL dL_law_1067 ?_
        refine J_callVi (q := 0) (As := [.int (xs (Int32.toNatClampNeg (x3 + (1 : Int32)))), .int (xs (Int32.toNatClampNeg (x3 + (2 : Int32))))]) (st := []) hK dL_law_1068 kB_L_134 kV_X5_ask kd_0 (by decide) rfl rfl (by decide) rfl rfl (Nat.le_of_ble_eq_true rfl) (fun _ _ hf => uX5_ask  hf) (fun v376 h375 => ?_)
        refine J_aload_n hK dL_law_1071 1 rfl ?_
        refine J_aload_n hK dL_law_1072 3 rfl ?_
        refine J_iload_n hK dL_law_1073 0 rfl ?_
        refine J_iconst hK dL_law_1074 ci_1 ?_
        refine J_iadd hK dL_law_1075 ?_
        refine J_sld hK hL dL_law_1076 ?_
        refine J_aload_n hK dL_law_1077 3 rfl ?_
        refine J_iload_n hK dL_law_1078 0 rfl ?_
        refine J_iconst hK dL_law_1079 ci_2 ?_
        refine J_iadd hK dL_law_1080 ?_
        refine J_sld hK hL dL_law_1081 ?_
        refine J_callVi (q := 278) (As := [.int (xs (Int32.toNatClampNeg (x3 + (1 : Int32)))), .int (xs (Int32.toNatClampNeg (x3 + (2 : Int32))))]) (st := [.int v376]) hK dL_law_1082 kB_L_137 kV_X6_ask kd_278 (by decide) rfl rfl (by decide) rfl rfl (Nat.le_of_ble_eq_true rfl) (fun _ _ hf => uX6_ask  hf) (fun v378 h377 => ?_)
        refine J_icmp_eq (tgt := 1149) hK dL_law_1085 (by decide) ?_ ?_
        · refine J_iinc (lw := [(2, .ref (X.1 + 278)), (1, .ref (X.1 + 0)), (0, .ref b)]) hK dL_law_1149 0 rfl (by decide) ci_6 rfl (fun z379 => ?_)
          refine J_goto (len := 0) (tgt := 18) hK dL_law_1152 (by decide) ?_
          exact J_sub [0, 1, 2, 3] rfl (ih _ _)
        · refine J_iconst hK dL_law_1088 ci_0 ?_
          exact J_none
      refine J_split (c := ((xs (Int32.toNatClampNeg x3)) &&& (63 : Int32)) = (30 : Int32)) (fun e386 => ?_) (fun e386 => ?_)
      · refine J_tableIn (v := 30) (off := 1057) (tgt := 1090) hK dL_law_33 e386 (by decide) ?_
        refine J_aload_n hK dL_law_1090 2 rfl ?_
        refine J_aload_n hK dL_law_1091 3 rfl ?_
        refine J_iload_n hK dL_law_1092 0 rfl ?_
        refine J_iconst hK dL_law_1093 ci_1 ?_
        refine J_iadd hK dL_law_1094 ?_
        refine J_sld hK hL dL_law_1095 ?_
        refine J_callVi (q := 0) (As := [.int (xs (Int32.toNatClampNeg (x3 + (1 : Int32))))]) (st := []) hK dL_law_1096 kB_L_138 kV_X5_trace kd_0 (by decide) rfl rfl (by decide) rfl rfl (Nat.le_of_ble_eq_true rfl) (fun _ _ hf => uX5_trace  hf) (fun v382 h381 => ?_)
        refine J_aload_n hK dL_law_1099 1 rfl ?_
        refine J_aload_n hK dL_law_1100 3 rfl ?_
        refine J_iload_n hK dL_law_1101 0 rfl ?_
        refine J_iconst hK dL_law_1102 ci_1 ?_
        refine J_iadd hK dL_law_1103 ?_
        refine J_sld hK hL dL_law_1104 ?_
        refine J_callVi (q := 278) (As := [.int (xs (Int32.toNatClampNeg (x3 + (1 : Int32))))]) (st := [.int v382]) hK dL_law_1105 kB_L_141 kV_X6_trace kd_278 (by decide) rfl rfl (by decide) rfl rfl (Nat.le_of_ble_eq_true rfl) (fun _ _ hf => uX6_trace  hf) (fun v384 h383 => ?_)
        refine J_icmp_eq (tgt := 1149) hK dL_law_1108 (by decide) ?_ ?_
        · refine J_iinc (lw := [(2, .ref (X.1 + 278)), (1, .ref (X.1 + 0)), (0, .ref b)]) hK dL_law_1149 0 rfl (by decide) ci_6 rfl (fun z385 => ?_)
          refine J_goto (len := 0) (tgt := 18) hK dL_law_1152 (by decide) ?_
          exact J_sub [0, 1, 2, 3] rfl (ih _ _)
        · refine J_iconst hK dL_law_1111 ci_0 ?_
          exact J_none
      refine J_split (c := ((xs (Int32.toNatClampNeg x3)) &&& (63 : Int32)) = (31 : Int32)) (fun e392 => ?_) (fun e392 => ?_)
      · refine J_tableIn (v := 31) (off := 1080) (tgt := 1113) hK dL_law_33 e392 (by decide) ?_
        refine J_aload_n hK dL_law_1113 2 rfl ?_
        refine J_aload_n hK dL_law_1114 3 rfl ?_
        refine J_iload_n hK dL_law_1115 0 rfl ?_
        refine J_iconst hK dL_law_1116 ci_1 ?_
        refine J_iadd hK dL_law_1117 ?_
        refine J_sld hK hL dL_law_1118 ?_
        refine J_callVi (q := 0) (As := [.int (xs (Int32.toNatClampNeg (x3 + (1 : Int32))))]) (st := []) hK dL_law_1119 kB_L_142 kV_X5_count kd_0 (by decide) rfl rfl (by decide) rfl rfl (Nat.le_of_ble_eq_true rfl) (fun _ _ hf => uX5_count  hf) (fun v388 h387 => ?_)
        refine J_aload_n hK dL_law_1122 1 rfl ?_
        refine J_aload_n hK dL_law_1123 3 rfl ?_
        refine J_iload_n hK dL_law_1124 0 rfl ?_
        refine J_iconst hK dL_law_1125 ci_1 ?_
        refine J_iadd hK dL_law_1126 ?_
        refine J_sld hK hL dL_law_1127 ?_
        refine J_callVi (q := 278) (As := [.int (xs (Int32.toNatClampNeg (x3 + (1 : Int32))))]) (st := [.int v388]) hK dL_law_1128 kB_L_145 kV_X6_count kd_278 (by decide) rfl rfl (by decide) rfl rfl (Nat.le_of_ble_eq_true rfl) (fun _ _ hf => uX6_count  hf) (fun v390 h389 => ?_)
        refine J_icmp_eq (tgt := 1149) hK dL_law_1131 (by decide) ?_ ?_
        · refine J_iinc (lw := [(2, .ref (X.1 + 278)), (1, .ref (X.1 + 0)), (0, .ref b)]) hK dL_law_1149 0 rfl (by decide) ci_6 rfl (fun z391 => ?_)
          refine J_goto (len := 0) (tgt := 18) hK dL_law_1152 (by decide) ?_
          exact J_sub [0, 1, 2, 3] rfl (ih _ _)
        · refine J_iconst hK dL_law_1134 ci_0 ?_
          exact J_none
      refine J_split (c := ((xs (Int32.toNatClampNeg x3)) &&& (63 : Int32)) = (32 : Int32)) (fun e398 => ?_) (fun e398 => ?_)
      · refine J_tableIn (v := 32) (off := 1103) (tgt := 1136) hK dL_law_33 e398 (by decide) ?_
        refine J_aload_n hK dL_law_1136 2 rfl ?_
        refine J_callVi (q := 0) (As := []) (st := []) hK dL_law_1137 kB_L_146 kV_X5_status kd_0 (by decide) rfl rfl (by decide) rfl rfl (Nat.le_of_ble_eq_true rfl) (fun _ _ hf => uX5_status  hf) (fun v394 h393 => ?_)
        refine J_aload_n hK dL_law_1140 1 rfl ?_
        refine J_callVi (q := 278) (As := []) (st := [.int v394]) hK dL_law_1141 kB_L_149 kV_X6_status kd_278 (by decide) rfl rfl (by decide) rfl rfl (Nat.le_of_ble_eq_true rfl) (fun _ _ hf => uX6_status  hf) (fun v396 h395 => ?_)
        refine J_icmp_eq (tgt := 1149) hK dL_law_1144 (by decide) ?_ ?_
        · refine J_iinc (lw := [(2, .ref (X.1 + 278)), (1, .ref (X.1 + 0)), (0, .ref b)]) hK dL_law_1149 0 rfl (by decide) ci_6 rfl (fun z397 => ?_)
          refine J_goto (len := 0) (tgt := 18) hK dL_law_1152 (by decide) ?_
          exact J_sub [0, 1, 2, 3] rfl (ih _ _)
        · refine J_iconst hK dL_law_1147 ci_0 ?_
          exact J_none
      refine J_tableOut (tgt := 1149) hK dL_law_33 (tbl_out [0, 1, 2, 3, 4, 5, 6, 7, 8, 9, 10, 11, 12, 13, 14, 15, 16, 17, 18, 19, 20, 21, 22, 23, 24, 25, 26, 27, 28, 29, 30, 31, 32] (by decide) (nl1 e206 (nl1 e212 (nl1 e218 (nl1 e224 (nl1 e230 (nl1 e236 (nl1 e242 (nl1 e248 (nl1 e254 (nl1 e260 (nl1 e266 (nl1 e272 (nl1 e278 (nl1 e284 (nl1 e290 (nl1 e296 (nl1 e302 (nl1 e308 (nl1 e314 (nl1 e320 (nl1 e326 (nl1 e332 (nl1 e338 (nl1 e344 (nl1 e350 (nl1 e356 (nl1 e362 (nl1 e368 (nl1 e374 (nl1 e380 (nl1 e386 (nl1 e392 (nl1 e398 nl0)))))))))))))))))))))))))))))))))) (by decide) ?_
      refine J_iinc (lw := [(2, .ref (X.1 + 278)), (1, .ref (X.1 + 0)), (0, .ref b)]) hK dL_law_1149 0 rfl (by decide) ci_6 rfl (fun z399 => ?_)
      refine J_goto (len := 0) (tgt := 18) hK dL_law_1152 (by decide) ?_
      exact J_sub [0, 1, 2, 3] rfl (ih _ _)
set_option maxHeartbeats 4000000 in
theorem gL_law {K : MC} {X : WX} {b L : Nat} {xs : Nat → Int32} {h : AH} (hL : Lc K X b L xs) (hK : Ok K X RL cL_law 4 (some .boolean) 150) : J K X 4 (Zl b K) eV 16 [(2, .ref (X.1 + 278)), (1, .ref (X.1 + 0)), (0, .ref b)] [] h (fL_law L xs h) := by
  unfold fL_law
  refine J_iconst hK dL_law_16 ci_0 ?_
  refine J_istore_n (n := 3) (lw := [(2, .ref (X.1 + 278)), (1, .ref (X.1 + 0)), (0, .ref b)]) hK dL_law_17 rfl (by decide) rfl ?_
  refine J_sub [0, 1, 2, 3] rfl (gL_law_L18 hL hK  (fun z1 h2 => ?_) FU _ _)
  refine J_iconst hK dL_law_1155 ci_1 ?_
  exact JL_ret hK rfl hL dL_law_1156
