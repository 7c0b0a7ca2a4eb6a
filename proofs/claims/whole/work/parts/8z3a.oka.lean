theorem okc_0 : ((List.range 17).all fun q => am_okm (0 + q)) = true := by decide +kernel
theorem okc_17 : ((List.range 17).all fun q => am_okm (17 + q)) = true := by decide +kernel
