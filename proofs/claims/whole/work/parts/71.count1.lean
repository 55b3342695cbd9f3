/-! the search over all pairs of letters, good states 0 -/
theorem ch1_0 : prsA big1 cub1 0 132 = true := by decide +kernel
theorem ch1_132 : prsA big1 cub1 132 29 = true := by decide +kernel
theorem ch1_161 : prsA big1 cub1 161 10 = true := by decide +kernel
theorem ch1_171 : prsA big1 cub1 171 9 = true := by decide +kernel
theorem ch1_180 : prsA big1 cub1 180 24 = true := by decide +kernel
theorem ch1_204 : prsA big1 cub1 204 21 = true := by decide +kernel
theorem ch1_225 : prsA big1 cub1 225 5 = true := by decide +kernel
theorem ch1_230 : prsA big1 cub1 230 8 = true := by decide +kernel
theorem ch1_238 : prsA big1 cub1 238 7 = true := by decide +kernel
theorem ch1_245 : prsA big1 cub1 245 19 = true := by decide +kernel
theorem ch1_264 : prsA big1 cub1 264 10 = true := by decide +kernel
theorem ch1_274 : prsA big1 cub1 274 10 = true := by decide +kernel
theorem ch1_284 : prsA big1 cub1 284 14 = true := by decide +kernel
theorem ch1_298 : prsA big1 cub1 298 9 = true := by decide +kernel
theorem ch1_307 : prsA big1 cub1 307 12 = true := by decide +kernel
theorem ch1_319 : prsA big1 cub1 319 17 = true := by decide +kernel
theorem ch1_336 : prsA big1 cub1 336 6 = true := by decide +kernel
theorem ch1_342 : prsA big1 cub1 342 7 = true := by decide +kernel
theorem ch1_349 : prsA big1 cub1 349 8 = true := by decide +kernel
theorem ch1_357 : prsA big1 cub1 357 13 = true := by decide +kernel
theorem ch1_370 : prsA big1 cub1 370 5 = true := by decide +kernel
theorem ch1_375 : prsA big1 cub1 375 16 = true := by decide +kernel
theorem ch1_391 : prsA big1 cub1 391 5 = true := by decide +kernel
theorem ch1_396 : prsA big1 cub1 396 7 = true := by decide +kernel
theorem ch1_403 : prsA big1 cub1 403 7 = true := by decide +kernel
theorem ch1_410 : prsA big1 cub1 410 4 = true := by decide +kernel
theorem ch1_414 : prsA big1 cub1 414 5 = true := by decide +kernel
theorem ch1_419 : prsA big1 cub1 419 6 = true := by decide +kernel
theorem ch1_425 : prsA big1 cub1 425 3 = true := by decide +kernel
theorem ch1_428 : prsA big1 cub1 428 9 = true := by decide +kernel
theorem ch1_437 : prsA big1 cub1 437 13 = true := by decide +kernel
theorem ch1_450 : prsA big1 cub1 450 14 = true := by decide +kernel
theorem ch1_464 : prsA big1 cub1 464 8 = true := by decide +kernel
theorem ch1_472 : prsA big1 cub1 472 10 = true := by decide +kernel
theorem ch1_482 : prsA big1 cub1 482 7 = true := by decide +kernel
theorem ch1_489 : prsA big1 cub1 489 10 = true := by decide +kernel
theorem ch1_499 : prsA big1 cub1 499 13 = true := by decide +kernel
theorem all1 (A : Nat) (hA : A < 512) (B : Nat) (hB : B ≤ A) : prOK big1 cub1 A B = true := by
  by_cases h0 : A < 132
  · exact prsA_use ch1_0 A (by omega) (by omega) B hB
  by_cases h132 : A < 161
  · exact prsA_use ch1_132 A (by omega) (by omega) B hB
  by_cases h161 : A < 171
  · exact prsA_use ch1_161 A (by omega) (by omega) B hB
  by_cases h171 : A < 180
  · exact prsA_use ch1_171 A (by omega) (by omega) B hB
  by_cases h180 : A < 204
  · exact prsA_use ch1_180 A (by omega) (by omega) B hB
  by_cases h204 : A < 225
  · exact prsA_use ch1_204 A (by omega) (by omega) B hB
  by_cases h225 : A < 230
  · exact prsA_use ch1_225 A (by omega) (by omega) B hB
  by_cases h230 : A < 238
  · exact prsA_use ch1_230 A (by omega) (by omega) B hB
  by_cases h238 : A < 245
  · exact prsA_use ch1_238 A (by omega) (by omega) B hB
  by_cases h245 : A < 264
  · exact prsA_use ch1_245 A (by omega) (by omega) B hB
  by_cases h264 : A < 274
  · exact prsA_use ch1_264 A (by omega) (by omega) B hB
  by_cases h274 : A < 284
  · exact prsA_use ch1_274 A (by omega) (by omega) B hB
  by_cases h284 : A < 298
  · exact prsA_use ch1_284 A (by omega) (by omega) B hB
  by_cases h298 : A < 307
  · exact prsA_use ch1_298 A (by omega) (by omega) B hB
  by_cases h307 : A < 319
  · exact prsA_use ch1_307 A (by omega) (by omega) B hB
  by_cases h319 : A < 336
  · exact prsA_use ch1_319 A (by omega) (by omega) B hB
  by_cases h336 : A < 342
  · exact prsA_use ch1_336 A (by omega) (by omega) B hB
  by_cases h342 : A < 349
  · exact prsA_use ch1_342 A (by omega) (by omega) B hB
  by_cases h349 : A < 357
  · exact prsA_use ch1_349 A (by omega) (by omega) B hB
  by_cases h357 : A < 370
  · exact prsA_use ch1_357 A (by omega) (by omega) B hB
  by_cases h370 : A < 375
  · exact prsA_use ch1_370 A (by omega) (by omega) B hB
  by_cases h375 : A < 391
  · exact prsA_use ch1_375 A (by omega) (by omega) B hB
  by_cases h391 : A < 396
  · exact prsA_use ch1_391 A (by omega) (by omega) B hB
  by_cases h396 : A < 403
  · exact prsA_use ch1_396 A (by omega) (by omega) B hB
  by_cases h403 : A < 410
  · exact prsA_use ch1_403 A (by omega) (by omega) B hB
  by_cases h410 : A < 414
  · exact prsA_use ch1_410 A (by omega) (by omega) B hB
  by_cases h414 : A < 419
  · exact prsA_use ch1_414 A (by omega) (by omega) B hB
  by_cases h419 : A < 425
  · exact prsA_use ch1_419 A (by omega) (by omega) B hB
  by_cases h425 : A < 428
  · exact prsA_use ch1_425 A (by omega) (by omega) B hB
  by_cases h428 : A < 437
  · exact prsA_use ch1_428 A (by omega) (by omega) B hB
  by_cases h437 : A < 450
  · exact prsA_use ch1_437 A (by omega) (by omega) B hB
  by_cases h450 : A < 464
  · exact prsA_use ch1_450 A (by omega) (by omega) B hB
  by_cases h464 : A < 472
  · exact prsA_use ch1_464 A (by omega) (by omega) B hB
  by_cases h472 : A < 482
  · exact prsA_use ch1_472 A (by omega) (by omega) B hB
  by_cases h482 : A < 489
  · exact prsA_use ch1_482 A (by omega) (by omega) B hB
  by_cases h489 : A < 499
  · exact prsA_use ch1_489 A (by omega) (by omega) B hB
  exact prsA_use ch1_499 A (by omega) (by omega) B hB
