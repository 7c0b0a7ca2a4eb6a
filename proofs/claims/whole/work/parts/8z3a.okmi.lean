theorem okl_2625 : ((List.range 75).all fun q => am_ok 299 (2625 + q)) = true := by decide +kernel
theorem okl_2700 : ((List.range 75).all fun q => am_ok 299 (2700 + q)) = true := by decide +kernel
