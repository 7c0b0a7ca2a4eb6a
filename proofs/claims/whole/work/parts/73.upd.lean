/-! THE PICTURE CHANGES -/
section
variable {h g : am_H} {d : pw_L} {S S' : Nat → Nat} {l l' : List (Nat → Nat)} {t t' : List (Nat × Nat)} {im im' : pw_I} {tp tp' : Nat → Nat} {nb nb' : Nat} {fp : Int32} {rf rf' : Nat → Nat}
theorem pI_c.upd (a : pI_c h (d, S, l, t, im, tp, nb, fp, rf)) (r : am_R g = am_R h) (eL : ∀ i, (3 ≤ i ∧ i ≤ 16 ∨ 43 ≤ i ∧ i ≤ 56) → ¬ (i = 11 ∨ i = 14 ∨ i = 51 ∨ i = 54) → am_I g i = am_I h i) (e11 : am_I g 0 11 = am_I h 0 11)
    (b2 : pc_S g 21 S') (b3 : pc_A g 22 l') (b4 : pc_T g 24 t') (b5 : pc_im g im') (b6 : am_I g 1 1 = nI nb') (b7 : ∀ j, j < nb' → am_I g 2 j = nI (tp' j)) (b9 : ∀ j, j < 3 → am_I g 42 j = nI (rf' j)) : pI_c g (d, S', l', t', im', tp', nb', fp, rf') := by
  obtain ⟨⟨L, hL, r1, r2, a1⟩, a2, a3, a4, a5, a6, a7, a8, a9⟩ := a
  exact ⟨⟨L, hL, by rw [r]; exact r1, by rw [r]; exact r2, a1.fr fun i hi => eL i (by unfold pc_rl at hi; unfold pc_lo at hL; omega) (by unfold pc_rl at hi; unfold pc_lo at hL; omega)⟩, b2, b3, b4, b5, b6, b7, e11.trans a8, b9⟩
theorem pI_m.upd (a : pI_m h (d, S, l, t, im, tp, nb, fp, rf)) (e0 : ∀ k, 1 ≤ k → k ≤ 7 → am_I g 60 k = am_I h 60 k) (eL : ∀ i, 61 ≤ i → i ≤ 69 → am_I g i = am_I h i) (e20 : ∀ k, k = 20 ∨ k = 61 ∨ k = 62 ∨ k = 63 → am_I g 60 k = am_I h 60 k)
    (b2 : pm_S g 85 0 S') (b3 : pm_A g 58 87 l') (b4 : pm_T g 70 94 t') (b5 : pm_im g im') (b6 : am_I g 60 18 = nI nb') (b7 : ∀ j, j < nb' → am_I g 70 j = nI (tp' j)) (b9 : ∀ j, j < 3 → am_I g 71 j = nI (rf' j)) : pI_m g (d, S', l', t', im', tp', nb', fp, rf') := by
  obtain ⟨a1, a2, a3, a4, a5, a6, a7, a8, a9, a10, a11, a12⟩ := a
  exact ⟨a1.fr e0 eL, b2, b3, b4, b5, b6, b7, (e20 _ (by omega)).trans a8, b9, (e20 _ (by omega)).trans a10, (e20 _ (by omega)).trans a11, (e20 _ (by omega)).trans a12⟩
theorem pm_im.fr {i : pw_I} (a : pm_im h i) (e0 : ∀ k, k = 74 ∨ k = 75 ∨ k = 76 → am_I g 60 k = am_I h 60 k) (e : ∀ j, 96 ≤ j → j ≤ 98 → am_I g j = am_I h j) : pm_im g i := by
  match i, a with
  | none, a => exact (e0 _ (by omega)).trans a
  | some (S, l, t), a =>
    obtain ⟨b1, b2, b3, b4⟩ := a
    exact ⟨(e0 _ (by omega)).trans b1, b2.fr (e _ (by omega) (by omega)), b3.fr (e0 _ (by omega)) (e _ (by omega) (by omega)), b4.fr (e0 _ (by omega)) (e _ (by omega) (by omega))⟩
/-- the class: an act is kept, the state changes (rows 21 to 23, scratch) -/
theorem pI_c.act (a : pI_c h (d, S, l, t, im, tp, nb, fp, rf)) (r : am_R g = am_R h) (e : ∀ i k, i < 60 → ps_C i k = false → ¬ (i = 21 ∨ i = 22 ∨ i = 23) → am_I g i k = am_I h i k) (b2 : pc_S g 21 S') (b3 : pc_A g 22 l') : pI_c g (d, S', l', t, im, tp, nb, fp, rf) := by
  have ee : ∀ i, i < 60 → ¬ (i = 11 ∨ i = 14 ∨ i = 17 ∨ i = 51 ∨ i = 54 ∨ i = 57 ∨ i = 34 ∨ i = 36 ∨ i = 38 ∨ i = 39 ∨ i = 40 ∨ i = 41) → ¬ (i = 21 ∨ i = 22 ∨ i = 23) → am_I g i = am_I h i := fun i hi h1 h2 => funext fun k => e i k hi (ps_C_f h1) h2
  have a0 := a
  obtain ⟨⟨L, hL, r1, r2, a1⟩, a2, a3, a4, a5, a6, a7, a8, a9⟩ := a0
  refine a.upd r (fun i h1 h2 => ee i (by omega) (by omega) (by omega)) (by rw [ee _ (by omega) (by omega) (by omega)]) b2 b3 (a4.fr (ee _ (by omega) (by omega) (by omega)) (ee _ (by omega) (by omega) (by omega)) (ee _ (by omega) (by omega) (by omega))) (a5.fr (by rw [ee _ (by omega) (by omega) (by omega)]) (fun j h1 h2 => ee j (by omega) (by omega) (by omega))) ?_ (fun j hj => ?_) (fun j hj => ?_)
  · rw [ee _ (by omega) (by omega) (by omega)]; exact a6
  · rw [ee _ (by omega) (by omega) (by omega)]; exact a7 j hj
  · rw [ee _ (by omega) (by omega) (by omega)]; exact a9 j hj
/-- the model: likewise (rows 85, 87, acts, scratch) -/
theorem pI_m.act (a : pI_m h (d, S, l, t, im, tp, nb, fp, rf)) (e : ∀ i k, 60 ≤ i → i < 99 → ps_M i k = false → ¬ (i = 85 ∨ i = 87 ∨ i = 60 ∧ k = 58) → am_I g i k = am_I h i k) (b2 : pm_S g 85 0 S') (b3 : pm_A g 58 87 l') : pI_m g (d, S', l', t, im, tp, nb, fp, rf) := by
  have ee : ∀ i, 60 < i → i < 99 → ¬ (i = 86 ∨ i = 88 ∨ i = 89 ∨ i = 90 ∨ i = 91 ∨ i = 92 ∨ i = 93 ∨ i = 95) → ¬ (i = 85 ∨ i = 87) → am_I g i = am_I h i := fun i h0 hi h1 h2 => funext fun k => e i k (by omega) hi (ps_M_f (by omega)) (by omega)
  have e6 : ∀ k, ¬ (k = 0 ∨ k = 68 ∨ k = 69 ∨ k = 73) → k ≠ 58 → am_I g 60 k = am_I h 60 k := fun k h1 h2 => e 60 k (by omega) (by omega) (ps_M_f (by omega)) (by omega)
  have a0 := a
  obtain ⟨a1, a2, a3, a4, a5, a6, a7, a8, a9, a10, a11, a12⟩ := a0
  refine a.upd (fun k h1 h2 => e6 k (by omega) (by omega)) (fun i h1 h2 => ee i (by omega) (by omega) (by omega) (by omega)) (fun k hk => e6 k (by omega) (by omega)) b2 b3 (a4.fr (e6 _ (by omega) (by omega)) (ee _ (by omega) (by omega) (by omega) (by omega))) (a5.fr (fun k hk => e6 k (by omega) (by omega)) (fun j h1 h2 => ee j (by omega) (by omega) (by omega) (by omega))) ?_ (fun j hj => ?_) (fun j hj => ?_)
  · rw [e6 _ (by omega) (by omega)]; exact a6
  · rw [ee _ (by omega) (by omega) (by omega) (by omega)]; exact a7 j hj
  · rw [ee _ (by omega) (by omega) (by omega) (by omega)]; exact a9 j hj
/-- a call is refused -/
theorem c_refuse {k : Nat} (a : pI_c h (d, S, l, t, im, tp, nb, fp, rf)) (hk : k < 3) : ∃ g, am_run am_M 47 [.ref 0, .int (nI k)] h = some (.inl (some (.int (-1 : Int32))), g) ∧ pI_c g (d, S, l, t, im, tp, nb, fp, pu rf k (rf k + 1)) ∧ am_fc h g := by
  have a0 := a
  obtain ⟨⟨L, hL, r1, r2, a1⟩, a2, a3, a4, a5, a6, a7, a8, a9⟩ := a0
  rw [e47, at_ok (r := 42) (n := 3) rfl (by omega) (by omega) hk, am_bI_ok, put_ok (r := 42) (n := 3) rfl (by omega) (by omega) hk, am_bV_ok, a9 k hk, pz_succ]
  have ee : ∀ i, i ≠ 42 → am_I (am_sI h 42 k (nI (rf k + 1))) i = am_I h i := fun i hi => am_I_s1 _ _ _ _ hi
  refine ⟨_, rfl, a.upd rfl (fun i h1 h2 => ee i (by omega)) (by rw [ee _ (by omega)]) (a2.fr (ee _ (by omega))) (a3.fr (ee _ (by omega)) (ee _ (by omega))) (a4.fr (ee _ (by omega)) (ee _ (by omega)) (ee _ (by omega))) (a5.fr (by rw [ee _ (by omega)]) (fun j h1 h2 => ee j (by omega))) ?_ (fun j hj => ?_) (fun j hj => ?_), (am_fc.refl h).sI (by omega) _ _⟩
  · rw [ee _ (by omega)]; exact a6
  · rw [ee _ (by omega)]; exact a7 j hj
  · rw [am_I_sc]
    unfold pu
    by_cases e : j = k
    · rw [if_pos ⟨rfl, e⟩, if_pos e]
    · rw [if_neg (fun h => e h.2), if_neg e]; exact a9 j hj
theorem m_refuse {k : Nat} (a : pI_m h (d, S, l, t, im, tp, nb, fp, rf)) (hk : k < 3) : ∃ g, am_run am_M 222 [.ref 60, .int (nI k)] h = some (.inl (some (.int (-1 : Int32))), g) ∧ pI_m g (d, S, l, t, im, tp, nb, fp, pu rf k (rf k + 1)) ∧ am_fm h g ∧ am_I g 60 0 = am_I h 60 0 := by
  have a0 := a
  obtain ⟨a1, a2, a3, a4, a5, a6, a7, a8, a9, a10, a11, a12⟩ := a0
  rw [s222 hk, a9 k hk, pz_succ]
  have ee : ∀ i, i ≠ 71 → am_I (am_sI h 71 k (nI (rf k + 1))) i = am_I h i := fun i hi => am_I_s1 _ _ _ _ hi
  refine ⟨_, rfl, a.upd (fun k _ _ => by rw [ee _ (by omega)]) (fun i h1 h2 => ee i (by omega)) (fun k _ => by rw [ee _ (by omega)]) (a2.fr (ee _ (by omega))) (a3.fr (by rw [ee _ (by omega)]) (ee _ (by omega))) (a4.fr (by rw [ee _ (by omega)]) (ee _ (by omega))) (a5.fr (fun k _ => by rw [ee _ (by omega)]) (fun j h1 h2 => ee j (by omega))) ?_ (fun j hj => ?_) (fun j hj => ?_), (am_fm.refl h).sI (by omega) _ _, by rw [ee _ (by omega)]⟩
  · rw [ee _ (by omega)]; exact a6
  · rw [ee _ (by omega)]; exact a7 j hj
  · rw [am_I_sc]
    unfold pu
    by_cases e : j = k
    · rw [if_pos ⟨rfl, e⟩, if_pos e]
    · rw [if_neg (fun h => e h.2), if_neg e]; exact a9 j hj
end
/-- a number out of bounds -/
theorem pz_w_n {x : Int32} {a m : Nat} (ha : a < 2 ^ 31) (hm : m < 2 ^ 31) (h : ¬ pz_w x a m) : x < nI a ∨ nI m < x := by
  by_cases c0 : x < nI a
  · exact Or.inl c0
  · by_cases c1 : nI m < x
    · exact Or.inr c1
    · refine absurd ?_ h
      have h0 : ¬ x < 0 := fun c => c0 (by
        rw [Int32.lt_iff_toInt_lt] at c ⊢
        rw [nI_toInt ha]
        have : (0 : Int32).toInt = 0 := by decide
        omega)
      obtain ⟨j, hj, rfl⟩ := nI_of h0
      rw [nI_ltI hj ha] at c0
      rw [nI_ltI hm hj] at c1
      exact ⟨j, by omega, by omega, rfl⟩
