section
/-! THE LAW: its loop -/
section
variable {h : am_H} {L v : Nat} {w : pw_W}
theorem law_step (hv : v + 5 < L) (hL : L ≤ 3072) (hs : lx_S L w h) : lx_R L v h (am_vn am_M 77 299 23 [some (.ref 2000), some (.ref 0), some (.ref 60), some (.ref 99), some (.int (nI v)), none, none] [] h) := by
  have hl := hs.2.2.2
  have hlt : ¬ nI L - nI 6 < nI v := fun c => by
    rw [Int32.lt_iff_toInt_lt, pk_sub_toInt (by omega) (by omega), nI_toInt (by omega)] at c
    omega
  rw [e299_23, show ∀ f : Int32 → Option am_Q, am_al 100 2000 h f = f (am_I h 2001 0) from fun _ => rfl, hl, if_neg hlt, law_il0 hl (by omega) hL]
  by_cases c0 : am_I h 2000 v &&& nI 63 = nI 0
  · rw [if_pos c0]; exact law_240 hv hL hs
  rw [if_neg c0]
  by_cases c1 : am_I h 2000 v &&& nI 63 = nI 1
  · rw [if_pos c1]; exact law_313 hv hL hs
  rw [if_neg c1]
  by_cases c2 : am_I h 2000 v &&& nI 63 = nI 2
  · rw [if_pos c2]; exact law_369 hv hL hs
  rw [if_neg c2]
  by_cases c3 : am_I h 2000 v &&& nI 63 = nI 3
  · rw [if_pos c3]; exact law_382 hv hL hs
  rw [if_neg c3]
  by_cases c4 : am_I h 2000 v &&& nI 63 = nI 4
  · rw [if_pos c4]; exact law_438 hv hL hs
  rw [if_neg c4]
  by_cases c5 : am_I h 2000 v &&& nI 63 = nI 5
  · rw [if_pos c5]; exact law_506 hv hL hs
  rw [if_neg c5]
  by_cases c6 : am_I h 2000 v &&& nI 63 = nI 6
  · rw [if_pos c6]; exact law_574 hv hL hs
  rw [if_neg c6]
  by_cases c7 : am_I h 2000 v &&& nI 63 = nI 7
  · rw [if_pos c7]; exact law_642 hv hL hs
  rw [if_neg c7]
  by_cases c8 : am_I h 2000 v &&& nI 63 = nI 8
  · rw [if_pos c8]; exact law_710 hv hL hs
  rw [if_neg c8]
  by_cases c9 : am_I h 2000 v &&& nI 63 = nI 9
  · rw [if_pos c9]; exact law_797 hv hL hs
  rw [if_neg c9]
  by_cases c10 : am_I h 2000 v &&& nI 63 = nI 10
  · rw [if_pos c10]; exact law_822 hv hL hs
  rw [if_neg c10]
  by_cases c11 : am_I h 2000 v &&& nI 63 = nI 11
  · rw [if_pos c11]; exact law_902 hv hL hs
  rw [if_neg c11]
  by_cases c12 : am_I h 2000 v &&& nI 63 = nI 12
  · rw [if_pos c12]; exact law_970 hv hL hs
  rw [if_neg c12]
  by_cases c13 : am_I h 2000 v &&& nI 63 = nI 13
  · rw [if_pos c13]; exact law_1061 hv hL hs
  rw [if_neg c13]
  by_cases c14 : am_I h 2000 v &&& nI 63 = nI 14
  · rw [if_pos c14]; exact law_1164 hv hL hs
  rw [if_neg c14]
  by_cases c15 : am_I h 2000 v &&& nI 63 = nI 15
  · rw [if_pos c15]; exact law_1177 hv hL hs
  rw [if_neg c15]
  by_cases c16 : am_I h 2000 v &&& nI 63 = nI 16
  · rw [if_pos c16]; exact law_1257 hv hL hs
  rw [if_neg c16]
  by_cases c17 : am_I h 2000 v &&& nI 63 = nI 17
  · rw [if_pos c17]; exact law_1337 hv hL hs
  rw [if_neg c17]
  by_cases c18 : am_I h 2000 v &&& nI 63 = nI 18
  · rw [if_pos c18]; exact law_1417 hv hL hs
  rw [if_neg c18]
  by_cases c19 : am_I h 2000 v &&& nI 63 = nI 19
  · rw [if_pos c19]; exact law_1509 hv hL hs
  rw [if_neg c19]
  by_cases c20 : am_I h 2000 v &&& nI 63 = nI 20
  · rw [if_pos c20]; exact law_1589 hv hL hs
  rw [if_neg c20]
  by_cases c21 : am_I h 2000 v &&& nI 63 = nI 21
  · rw [if_pos c21]; exact law_1645 hv hL hs
  rw [if_neg c21]
  by_cases c22 : am_I h 2000 v &&& nI 63 = nI 22
  · rw [if_pos c22]; exact law_1725 hv hL hs
  rw [if_neg c22]
  by_cases c23 : am_I h 2000 v &&& nI 63 = nI 23
  · rw [if_pos c23]; exact law_1805 hv hL hs
  rw [if_neg c23]
  by_cases c24 : am_I h 2000 v &&& nI 63 = nI 24
  · rw [if_pos c24]; exact law_1818 hv hL hs
  rw [if_neg c24]
  by_cases c25 : am_I h 2000 v &&& nI 63 = nI 25
  · rw [if_pos c25]; exact law_1874 hv hL hs
  rw [if_neg c25]
  by_cases c26 : am_I h 2000 v &&& nI 63 = nI 26
  · rw [if_pos c26]; exact law_1930 hv hL hs
  rw [if_neg c26]
  by_cases c27 : am_I h 2000 v &&& nI 63 = nI 27
  · rw [if_pos c27]; exact law_1998 hv hL hs
  rw [if_neg c27]
  by_cases c28 : am_I h 2000 v &&& nI 63 = nI 28
  · rw [if_pos c28]; exact law_2066 hv hL hs
  rw [if_neg c28]
  by_cases c29 : am_I h 2000 v &&& nI 63 = nI 29
  · rw [if_pos c29]; exact law_2134 hv hL hs
  rw [if_neg c29]
  by_cases c30 : am_I h 2000 v &&& nI 63 = nI 30
  · rw [if_pos c30]; exact law_2145 hv hL hs
  rw [if_neg c30]
  by_cases c31 : am_I h 2000 v &&& nI 63 = nI 31
  · rw [if_pos c31]; exact law_2158 hv hL hs
  rw [if_neg c31]
  by_cases c32 : am_I h 2000 v &&& nI 63 = nI 32
  · rw [if_pos c32]; exact law_2214 hv hL hs
  rw [if_neg c32]
  by_cases c33 : am_I h 2000 v &&& nI 63 = nI 33
  · rw [if_pos c33]; exact law_2270 hv hL hs
  rw [if_neg c33]
  by_cases c34 : am_I h 2000 v &&& nI 63 = nI 34
  · rw [if_pos c34]; exact law_2362 hv hL hs
  rw [if_neg c34]
  by_cases c35 : am_I h 2000 v &&& nI 63 = nI 35
  · rw [if_pos c35]; exact law_2454 hv hL hs
  rw [if_neg c35]
  by_cases c36 : am_I h 2000 v &&& nI 63 = nI 36
  · rw [if_pos c36]; exact law_2534 hv hL hs
  rw [if_neg c36]
  by_cases c37 : am_I h 2000 v &&& nI 63 = nI 37
  · rw [if_pos c37]; exact law_2602 hv hL hs
  rw [if_neg c37]
  by_cases c38 : am_I h 2000 v &&& nI 63 = nI 38
  · rw [if_pos c38]; exact law_2615 hv hL hs
  rw [if_neg c38]
  by_cases c39 : am_I h 2000 v &&& nI 63 = nI 39
  · rw [if_pos c39]; exact law_2695 hv hL hs
  rw [if_neg c39]
  by_cases c40 : am_I h 2000 v &&& nI 63 = nI 40
  · rw [if_pos c40]; exact law_2751 hv hL hs
  rw [if_neg c40]
  by_cases c41 : am_I h 2000 v &&& nI 63 = nI 41
  · rw [if_pos c41]; exact law_2807 hv hL hs
  rw [if_neg c41]
  by_cases c42 : am_I h 2000 v &&& nI 63 = nI 42
  · rw [if_pos c42]; exact law_2863 hv hL hs
  rw [if_neg c42]
  by_cases c43 : am_I h 2000 v &&& nI 63 = nI 43
  · rw [if_pos c43]; exact law_2876 hv hL hs
  rw [if_neg c43]
  by_cases c44 : am_I h 2000 v &&& nI 63 = nI 44
  · rw [if_pos c44]; exact law_2932 hv hL hs
  rw [if_neg c44]
  by_cases c45 : am_I h 2000 v &&& nI 63 = nI 45
  · rw [if_pos c45]; exact law_2943 hv hL hs
  rw [if_neg c45]
  exact ⟨h, w, rfl, hs, by omega, by omega⟩
theorem law_loop (hL : L ≤ 3072) : ∀ (f j : Nat) (h : am_H) (w : pw_W), L ≤ 6 * (j + f) + 5 → 6 * j ≤ L → lx_S L w h → h.2.1 ≤ 100 + j → h.2.2.1 ≤ 27050 + 6 * j → ∃ r : am_Q, am_vn am_M 77 299 23 [some (.ref 2000), some (.ref 0), some (.ref 60), some (.ref 99), some (.int (nI (6 * j))), none, none] [] h = some r ∧ r.1 = .inl (some (.int 1)) ∧ r.2.2.1 ≤ 601024 ∧ r.2.2.2.1 ≤ 7293034 := by
  intro f
  induction f with
  | zero =>
    intro j h w h1 h2 hs ha hb
    have hlt : nI L - nI 6 < nI (6 * j) := by
      rw [Int32.lt_iff_toInt_lt, pk_sub_toInt (by omega) (by omega), nI_toInt (by omega)]
      omega
    rw [e299_23, show ∀ f : Int32 → Option am_Q, am_al 100 2000 h f = f (am_I h 2001 0) from fun _ => rfl, hs.2.2.2, if_pos hlt, if_pos (by decide)]
    refine ⟨_, rfl, rfl, ?_, ?_⟩
    · show h.2.1 ≤ 601024
      exact Nat.le_trans ha (by omega)
    · show h.2.2.1 ≤ 7293034
      exact Nat.le_trans hb (by omega)
  | succ f ih =>
    intro j h w h1 h2 hs ha hb
    by_cases hv : 6 * j + 5 < L
    · obtain ⟨g, w', e, s, f1, f2⟩ := law_step (v := 6 * j) hv hL hs
      rw [e, e299_2956, nI_add, show 6 * j + 6 = 6 * (j + 1) by omega]
      exact ih (j + 1) g w' (by omega) (by omega) s (by omega) (by omega)
    · have hlt : nI L - nI 6 < nI (6 * j) := by
        rw [Int32.lt_iff_toInt_lt, pk_sub_toInt (by omega) (by omega), nI_toInt (by omega)]
        omega
      rw [e299_23, show ∀ f : Int32 → Option am_Q, am_al 100 2000 h f = f (am_I h 2001 0) from fun _ => rfl, hs.2.2.2, if_pos hlt, if_pos (by decide)]
      refine ⟨_, rfl, rfl, ?_, ?_⟩
      · show h.2.1 ≤ 601024
        exact Nat.le_trans ha (by omega)
      · show h.2.2.1 ≤ 7293034
        exact Nat.le_trans hb (by omega)
end
end
