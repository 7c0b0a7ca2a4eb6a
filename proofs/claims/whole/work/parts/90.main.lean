theorem am_main {L : Nat} (hL : L ≤ 3072) (xs : Nat → Int32) : ∃ r : am_Q, am_vn am_M (am_rs 299) 299 23 am_ls1 [] (am_h1 L xs) = some r ∧ r.1 = .inl (some (.int 1)) ∧ r.2.2.1 ≤ 601024 ∧ r.2.2.2.1 ≤ 7293034 := by
  sorry
