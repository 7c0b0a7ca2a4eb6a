theorem okl_2000 : ((List.range 100).all fun q => am_ok 299 (2000 + q)) = true := by decide +kernel
theorem okl_2100 : ((List.range 75).all fun q => am_ok 299 (2100 + q)) = true := by decide +kernel
