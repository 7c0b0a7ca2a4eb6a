theorem am_okr {f : Nat → Bool} {s k i : Nat} (h : ((List.range k).all fun q => f (s + q)) = true) (h1 : s ≤ i) (h2 : i < s + k) : f i = true := by
  have := List.all_eq_true.mp h (i - s) (List.mem_range.mpr (by omega))
  rwa [show s + (i - s) = i by omega] at this
theorem ok_m : ((List.range 351).all fun k => Nat.beq (am_kd k) 9 || (am_mok k && am_hok k)) = true := by
  refine List.all_eq_true.mpr fun i hi => ?_
  have hi := List.mem_range.mp hi
  by_cases h0 : i < 50
  · exact am_okr (f := (fun k => Nat.beq (am_kd k) 9 || (am_mok k && am_hok k))) okq_0 (by omega) (by omega)
  by_cases h50 : i < 100
  · exact am_okr (f := (fun k => Nat.beq (am_kd k) 9 || (am_mok k && am_hok k))) okq_50 (by omega) (by omega)
  by_cases h100 : i < 150
  · exact am_okr (f := (fun k => Nat.beq (am_kd k) 9 || (am_mok k && am_hok k))) okq_100 (by omega) (by omega)
  by_cases h150 : i < 200
  · exact am_okr (f := (fun k => Nat.beq (am_kd k) 9 || (am_mok k && am_hok k))) okq_150 (by omega) (by omega)
  by_cases h200 : i < 250
  · exact am_okr (f := (fun k => Nat.beq (am_kd k) 9 || (am_mok k && am_hok k))) okq_200 (by omega) (by omega)
  by_cases h250 : i < 300
  · exact am_okr (f := (fun k => Nat.beq (am_kd k) 9 || (am_mok k && am_hok k))) okq_250 (by omega) (by omega)
  by_cases h300 : i < 351
  · exact am_okr (f := (fun k => Nat.beq (am_kd k) 9 || (am_mok k && am_hok k))) okq_300 (by omega) (by omega)
  exact absurd hi (by omega)
theorem ok_c : ((List.range 10).all am_okcl) = true := by decide +kernel
