theorem okl_1800 : ((List.range 300).all fun q => am_ok 299 (1800 + q)) = true := by decide +kernel
theorem okl_2100 : ((List.range 300).all fun q => am_ok 299 (2100 + q)) = true := by decide +kernel
