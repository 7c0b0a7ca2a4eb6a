theorem okl_2175 : ((List.range 75).all fun q => am_ok 299 (2175 + q)) = true := by decide +kernel
theorem okl_2250 : ((List.range 75).all fun q => am_ok 299 (2250 + q)) = true := by decide +kernel
