theorem okc_219 : ((List.range 6).all fun q => am_okm (219 + q)) = true := by decide +kernel
theorem okc_225 : ((List.range 13).all fun q => am_okm (225 + q)) = true := by decide +kernel
