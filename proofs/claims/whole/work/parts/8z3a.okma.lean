theorem okl_1200 : ((List.range 100).all fun q => am_ok 299 (1200 + q)) = true := by decide +kernel
theorem okl_1300 : ((List.range 100).all fun q => am_ok 299 (1300 + q)) = true := by decide +kernel
