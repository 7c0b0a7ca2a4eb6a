theorem okl_600 : ((List.range 300).all fun q => am_ok 299 (600 + q)) = true := by decide +kernel
theorem okl_900 : ((List.range 300).all fun q => am_ok 299 (900 + q)) = true := by decide +kernel
