theorem okl_1600 : ((List.range 100).all fun q => am_ok 299 (1600 + q)) = true := by decide +kernel
theorem okl_1700 : ((List.range 100).all fun q => am_ok 299 (1700 + q)) = true := by decide +kernel
