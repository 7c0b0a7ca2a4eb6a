/-! WHAT EACH METHOD DOES FROM ITS ENTRY, OR FROM A CUT, TO THE NEXT CUTS: 66 to 70 -/
set_option maxRecDepth 20000 in
theorem e66 (r0 : Nat) (a1 : Int32) (h : am_H) : am_run am_M 66 [.ref r0, .int a1] h = (if a1 < 0 then some (.inl (some (.int (nI 0))), h) else am_al 100 r0 h fun x1 => (if x1 ≤ a1 then some (.inl (some (.int (nI 0))), h) else am_il 100 r0 a1 h fun x2 => some (.inl (some (.int x2)), h))) := ((am_E 18 (mi := 66) (pc := 0) rfl).trans rfl)
set_option maxRecDepth 20000 in
theorem e67 (r0 : Nat) (a1 : Int32) (a2 : Int32) (h : am_H) : am_run am_M 67 [.ref r0, .int a1, .int a2] h = (if a1 < 0 then some (.inl none, h) else am_al 100 r0 h fun x1 => (if x1 ≤ a1 then some (.inl none, h) else am_is 100 r0 16 a1 a2 h fun g2 => some (.inl none, g2))) := ((am_E 16 (mi := 67) (pc := 0) rfl).trans rfl)
set_option maxRecDepth 20000 in
theorem e68 (r0 : Nat) (a1 : Int32) (a2 : Int32) (h : am_H) : am_run am_M 68 [.ref r0, .int a1, .int a2] h = am_vn am_M 0 68 2 [some (.ref r0), some (.int a1), some (.int a2), some (.int (nI 0))] [] h := ((am_E 5 (mi := 68) (pc := 0) rfl).trans rfl)
set_option maxRecDepth 20000 in
theorem e68_2 (w0 : Nat) (v1 : Int32) (v2 : Int32) (v3 : Int32) (h : am_H) : am_vn am_M 0 68 2 [some (.ref w0), some (.int v1), some (.int v2), some (.int v3)] [] h = (if v1 ≤ v3 then some (.inl none, h) else am_al 100 w0 h fun x1 => (if x1 ≤ v3 then some (.inl none, h) else am_is 100 w0 16 v3 v2 h fun g2 => am_vn am_M 0 68 2 [some (.ref w0), some (.int v1), some (.int v2), some (.int (v3 + (nI 1)))] [] g2)) := ((am_E 18 rfl).trans rfl)
set_option maxRecDepth 20000 in
theorem e69 (r0 : Nat) (a1 : Int32) (r2 : Nat) (a3 : Int32) (a4 : Int32) (h : am_H) : am_run am_M 69 [.ref r0, .int a1, .ref r2, .int a3, .int a4] h = am_vn am_M 1 69 3 [some (.ref r0), some (.int a1), some (.ref r2), some (.int a3), some (.int a4), some (.int (nI 0))] [] h := ((am_E 5 (mi := 69) (pc := 0) rfl).trans rfl)
set_option maxRecDepth 20000 in
theorem e69_3 (w0 : Nat) (v1 : Int32) (w2 : Nat) (v3 : Int32) (v4 : Int32) (v5 : Int32) (h : am_H) : am_vn am_M 1 69 3 [some (.ref w0), some (.int v1), some (.ref w2), some (.int v3), some (.int v4), some (.int v5)] [] h = (if v4 ≤ v5 then some (.inl none, h) else am_bI [] (am_run am_M 66 [(.ref w0), (.int (v1 + v5))] h) fun x2 g1 => am_bV [] (am_run am_M 67 [(.ref w2), (.int (v3 + v5)), (.int x2)] g1) fun g3 => am_vn am_M 1 69 3 [some (.ref w0), some (.int v1), some (.ref w2), some (.int v3), some (.int v4), some (.int (v5 + (nI 1)))] [] g3) := ((am_E 19 rfl).trans rfl)
