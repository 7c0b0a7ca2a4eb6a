theorem okl_2475 : ((List.range 75).all fun q => am_ok 299 (2475 + q)) = true := by decide +kernel
theorem okl_2550 : ((List.range 75).all fun q => am_ok 299 (2550 + q)) = true := by decide +kernel
