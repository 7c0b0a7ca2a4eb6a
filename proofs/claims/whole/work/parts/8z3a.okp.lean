theorem ok_m : ((List.range 351).all fun k => Nat.beq (am_kd k) 9 || (am_mok k && am_hok k)) = true := by decide +kernel
theorem ok_c : ((List.range 10).all am_okcl) = true := by decide +kernel
