theorem okl_2325 : ((List.range 75).all fun q => am_ok 299 (2325 + q)) = true := by decide +kernel
theorem okl_2400 : ((List.range 75).all fun q => am_ok 299 (2400 + q)) = true := by decide +kernel
