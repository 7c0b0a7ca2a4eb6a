theorem okc_238 : ((List.range 10).all fun q => am_okm (238 + q)) = true := by decide +kernel
theorem okc_248 : ((List.range 11).all fun q => am_okm (248 + q)) = true := by decide +kernel
