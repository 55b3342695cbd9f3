/-! the search over all pairs of letters, good states 0, 1 -/
theorem ch3_0 : prsA big3 cub3 0 216 = true := by decide +kernel
theorem ch3_216 : prsA big3 cub3 216 69 = true := by decide +kernel
theorem ch3_285 : prsA big3 cub3 285 61 = true := by decide +kernel
theorem ch3_346 : prsA big3 cub3 346 50 = true := by decide +kernel
theorem ch3_396 : prsA big3 cub3 396 41 = true := by decide +kernel
theorem ch3_437 : prsA big3 cub3 437 57 = true := by decide +kernel
theorem ch3_494 : prsA big3 cub3 494 18 = true := by decide +kernel
theorem all3 (A : Nat) (hA : A < 512) (B : Nat) (hB : B ≤ A) : prOK big3 cub3 A B = true := by
  by_cases h0 : A < 216
  · exact prsA_use ch3_0 A (by omega) (by omega) B hB
  by_cases h216 : A < 285
  · exact prsA_use ch3_216 A (by omega) (by omega) B hB
  by_cases h285 : A < 346
  · exact prsA_use ch3_285 A (by omega) (by omega) B hB
  by_cases h346 : A < 396
  · exact prsA_use ch3_346 A (by omega) (by omega) B hB
  by_cases h396 : A < 437
  · exact prsA_use ch3_396 A (by omega) (by omega) B hB
  by_cases h437 : A < 494
  · exact prsA_use ch3_437 A (by omega) (by omega) B hB
  exact prsA_use ch3_494 A (by omega) (by omega) B hB
