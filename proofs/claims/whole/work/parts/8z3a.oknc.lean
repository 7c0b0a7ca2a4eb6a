theorem okq_200 : ((List.range 50).all fun q => (fun k => Nat.beq (am_kd k) 9 || (am_mok k && am_hok k)) (200 + q)) = true := by decide +kernel
theorem okq_250 : ((List.range 50).all fun q => (fun k => Nat.beq (am_kd k) 9 || (am_mok k && am_hok k)) (250 + q)) = true := by decide +kernel
