theorem okc_89 : ((List.range 28).all fun q => am_okm (89 + q)) = true := by decide +kernel
theorem okc_117 : ((List.range 21).all fun q => am_okm (117 + q)) = true := by decide +kernel
