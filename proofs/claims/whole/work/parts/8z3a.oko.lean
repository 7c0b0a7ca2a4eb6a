theorem okl_2400 : ((List.range 300).all fun q => am_ok 299 (2400 + q)) = true := by decide +kernel
theorem okl_2700 : ((List.range 264).all fun q => am_ok 299 (2700 + q)) = true := by decide +kernel
