theorem okc_207 : ((List.range 8).all fun q => am_okm (207 + q)) = true := by decide +kernel
theorem okc_215 : ((List.range 4).all fun q => am_okm (215 + q)) = true := by decide +kernel
