section
theorem aa_test (a b : Int32) (h : a < b) : ¬ b < a := by grind
theorem aa_test2 (a b c : Int32) (h : a.toInt + b.toInt < 100) (h1 : 0 ≤ a) (h2 : 0 ≤ b) : (a + b) < 100 := by grind
theorem aa_test3 (a : Int32) (h0 : 0 ≤ a) (h : a < 100) : a + 1 ≤ 100 := by grind
theorem aa_test4 (a : Int32) (h0 : 0 ≤ a) (h : a < 100) : 0 ≤ a + 1 := by lia
theorem aa_test5 (a b : Int32) (h0 : 0 ≤ a) (h : a < 9) (h2 : 0 ≤ b) (h3 : b < 9): a * 9 + b < 81 := by grind
theorem aa_test6 (a b : Int32) (h0 : 0 ≤ a) (h : a < 9) (h2 : 0 ≤ b) (h3 : b < 9): (a * 9 + b).toInt = a.toInt * 9 + b.toInt := by grind
#print axioms aa_test
end
