theorem tst1 : prsA big1 cub1 256 33 = true := by decide +kernel
