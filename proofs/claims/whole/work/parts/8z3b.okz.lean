theorem am_okc {s k mi : Nat} (h : ((List.range k).all fun q => am_okm (s + q)) = true) (h1 : s ≤ mi) (h2 : mi < s + k) : am_okm mi = true := by
  have := List.all_eq_true.mp h (mi - s) (List.mem_range.mpr (by omega))
  rwa [show s + (mi - s) = mi by omega] at this
theorem am_okl {s k mi pc : Nat} (h : ((List.range k).all fun q => am_ok mi (s + q)) = true) (h1 : s ≤ pc) (h2 : pc < s + k) : am_ok mi pc = true := by
  have := List.all_eq_true.mp h (pc - s) (List.mem_range.mpr (by omega))
  rwa [show s + (pc - s) = pc by omega] at this
theorem am_ok_all (mi pc : Nat) (hm : mi < am_nm) (hp : pc < am_len mi) : am_ok mi pc = true := by
  have hm : mi < 351 := hm
  by_cases hl : mi = 299
  · subst hl
    have hp : pc < 2964 := hp
    by_cases h0 : pc < 300
    · exact am_okl okl_0 (by omega) (by omega)
    by_cases h300 : pc < 600
    · exact am_okl okl_300 (by omega) (by omega)
    by_cases h600 : pc < 900
    · exact am_okl okl_600 (by omega) (by omega)
    by_cases h900 : pc < 1200
    · exact am_okl okl_900 (by omega) (by omega)
    by_cases h1200 : pc < 1300
    · exact am_okl okl_1200 (by omega) (by omega)
    by_cases h1300 : pc < 1400
    · exact am_okl okl_1300 (by omega) (by omega)
    by_cases h1400 : pc < 1500
    · exact am_okl okl_1400 (by omega) (by omega)
    by_cases h1500 : pc < 1600
    · exact am_okl okl_1500 (by omega) (by omega)
    by_cases h1600 : pc < 1700
    · exact am_okl okl_1600 (by omega) (by omega)
    by_cases h1700 : pc < 1800
    · exact am_okl okl_1700 (by omega) (by omega)
    by_cases h1800 : pc < 1900
    · exact am_okl okl_1800 (by omega) (by omega)
    by_cases h1900 : pc < 2000
    · exact am_okl okl_1900 (by omega) (by omega)
    by_cases h2000 : pc < 2100
    · exact am_okl okl_2000 (by omega) (by omega)
    by_cases h2100 : pc < 2175
    · exact am_okl okl_2100 (by omega) (by omega)
    by_cases h2175 : pc < 2250
    · exact am_okl okl_2175 (by omega) (by omega)
    by_cases h2250 : pc < 2325
    · exact am_okl okl_2250 (by omega) (by omega)
    by_cases h2325 : pc < 2400
    · exact am_okl okl_2325 (by omega) (by omega)
    by_cases h2400 : pc < 2475
    · exact am_okl okl_2400 (by omega) (by omega)
    by_cases h2475 : pc < 2550
    · exact am_okl okl_2475 (by omega) (by omega)
    by_cases h2550 : pc < 2625
    · exact am_okl okl_2550 (by omega) (by omega)
    by_cases h2625 : pc < 2700
    · exact am_okl okl_2625 (by omega) (by omega)
    by_cases h2700 : pc < 2775
    · exact am_okl okl_2700 (by omega) (by omega)
    by_cases h2775 : pc < 2850
    · exact am_okl okl_2775 (by omega) (by omega)
    by_cases h2850 : pc < 2925
    · exact am_okl okl_2850 (by omega) (by omega)
    by_cases h2925 : pc < 2964
    · exact am_okl okl_2925 (by omega) (by omega)
    exact absurd hp (by omega)
  · refine List.all_eq_true.mp (?_ : am_okm mi = true) pc (List.mem_range.mpr hp)
    by_cases h0 : mi < 17
    · exact am_okc okc_0 (by omega) (by omega)
    by_cases h17 : mi < 34
    · exact am_okc okc_17 (by omega) (by omega)
    by_cases h34 : mi < 54
    · exact am_okc okc_34 (by omega) (by omega)
    by_cases h54 : mi < 89
    · exact am_okc okc_54 (by omega) (by omega)
    by_cases h89 : mi < 117
    · exact am_okc okc_89 (by omega) (by omega)
    by_cases h117 : mi < 138
    · exact am_okc okc_117 (by omega) (by omega)
    by_cases h138 : mi < 167
    · exact am_okc okc_138 (by omega) (by omega)
    by_cases h167 : mi < 186
    · exact am_okc okc_167 (by omega) (by omega)
    by_cases h186 : mi < 192
    · exact am_okc okc_186 (by omega) (by omega)
    by_cases h192 : mi < 207
    · exact am_okc okc_192 (by omega) (by omega)
    by_cases h207 : mi < 215
    · exact am_okc okc_207 (by omega) (by omega)
    by_cases h215 : mi < 219
    · exact am_okc okc_215 (by omega) (by omega)
    by_cases h219 : mi < 225
    · exact am_okc okc_219 (by omega) (by omega)
    by_cases h225 : mi < 238
    · exact am_okc okc_225 (by omega) (by omega)
    by_cases h238 : mi < 248
    · exact am_okc okc_238 (by omega) (by omega)
    by_cases h248 : mi < 259
    · exact am_okc okc_248 (by omega) (by omega)
    by_cases h259 : mi < 275
    · exact am_okc okc_259 (by omega) (by omega)
    by_cases h275 : mi < 293
    · exact am_okc okc_275 (by omega) (by omega)
    by_cases h293 : mi < 299
    · exact am_okc okc_293 (by omega) (by omega)
    by_cases h300 : mi < 351
    · exact am_okc okc_300 (by omega) (by omega)
    exact absurd hm (by omega)
