theorem okc_138 : ((List.range 29).all fun q => am_okm (138 + q)) = true := by decide +kernel
theorem okc_167 : ((List.range 19).all fun q => am_okm (167 + q)) = true := by decide +kernel
