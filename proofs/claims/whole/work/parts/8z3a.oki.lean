theorem okc_259 : ((List.range 16).all fun q => am_okm (259 + q)) = true := by decide +kernel
theorem okc_275 : ((List.range 18).all fun q => am_okm (275 + q)) = true := by decide +kernel
