theorem okq_100 : ((List.range 50).all fun q => (fun k => Nat.beq (am_kd k) 9 || (am_mok k && am_hok k)) (100 + q)) = true := by decide +kernel
theorem okq_150 : ((List.range 50).all fun q => (fun k => Nat.beq (am_kd k) 9 || (am_mok k && am_hok k)) (150 + q)) = true := by decide +kernel
