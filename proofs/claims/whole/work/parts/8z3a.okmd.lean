theorem okl_1800 : ((List.range 100).all fun q => am_ok 299 (1800 + q)) = true := by decide +kernel
theorem okl_1900 : ((List.range 100).all fun q => am_ok 299 (1900 + q)) = true := by decide +kernel
