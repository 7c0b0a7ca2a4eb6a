set_option maxRecDepth 1000000 in
set_option maxHeartbeats 4000000 in
theorem am_begin (L : Nat) (xs : Nat → Int32) (K : am_K) : am_el 23 K 600 (am_rs 299) 299 0 am_ls9 [] (am_h9 L xs) = K 23 am_ls1 [] (am_h1 L xs) := (rfl)
