theorem okl_2925 : ((List.range 39).all fun q => am_ok 299 (2925 + q)) = true := by decide +kernel
