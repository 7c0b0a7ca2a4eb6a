theorem okl_2775 : ((List.range 75).all fun q => am_ok 299 (2775 + q)) = true := by decide +kernel
theorem okl_2850 : ((List.range 75).all fun q => am_ok 299 (2850 + q)) = true := by decide +kernel
