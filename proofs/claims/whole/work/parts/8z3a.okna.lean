theorem okq_0 : ((List.range 50).all fun q => (fun k => Nat.beq (am_kd k) 9 || (am_mok k && am_hok k)) (0 + q)) = true := by decide +kernel
theorem okq_50 : ((List.range 50).all fun q => (fun k => Nat.beq (am_kd k) 9 || (am_mok k && am_hok k)) (50 + q)) = true := by decide +kernel
