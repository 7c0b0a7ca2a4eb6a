theorem okl_1400 : ((List.range 100).all fun q => am_ok 299 (1400 + q)) = true := by decide +kernel
theorem okl_1500 : ((List.range 100).all fun q => am_ok 299 (1500 + q)) = true := by decide +kernel
