theorem okl_0 : ((List.range 300).all fun q => am_ok 299 (0 + q)) = true := by decide +kernel
theorem okl_300 : ((List.range 300).all fun q => am_ok 299 (300 + q)) = true := by decide +kernel
