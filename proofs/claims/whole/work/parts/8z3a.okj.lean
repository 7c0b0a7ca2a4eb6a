theorem okc_293 : ((List.range 6).all fun q => am_okm (293 + q)) = true := by decide +kernel
theorem okc_300 : ((List.range 51).all fun q => am_okm (300 + q)) = true := by decide +kernel
