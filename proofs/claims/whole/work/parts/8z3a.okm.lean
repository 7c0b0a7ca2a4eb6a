theorem okl_1200 : ((List.range 300).all fun q => am_ok 299 (1200 + q)) = true := by decide +kernel
theorem okl_1500 : ((List.range 300).all fun q => am_ok 299 (1500 + q)) = true := by decide +kernel
