theorem okc_186 : ((List.range 6).all fun q => am_okm (186 + q)) = true := by decide +kernel
theorem okc_192 : ((List.range 15).all fun q => am_okm (192 + q)) = true := by decide +kernel
