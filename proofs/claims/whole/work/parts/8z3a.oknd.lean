theorem okq_300 : ((List.range 51).all fun q => (fun k => Nat.beq (am_kd k) 9 || (am_mok k && am_hok k)) (300 + q)) = true := by decide +kernel
