theorem okc_34 : ((List.range 20).all fun q => am_okm (34 + q)) = true := by decide +kernel
theorem okc_54 : ((List.range 35).all fun q => am_okm (54 + q)) = true := by decide +kernel
