/-! THE LAW'S BEGINNING: every object is made -/
def am_h9 (L : Nat) (xs : Nat → Int32) : am_H := (0, 0, 0, fun i => if i = 2000 then xs else if i = 2001 then fun _ => nI L else fun _ => 0, fun _ _ => 0, fun _ _ => none)
def am_ls9 : am_L := [some (.ref 2000), none, none, none, none, none, none]
def am_ls1 : am_L := [some (.ref 2000), some (.ref 0), some (.ref 60), some (.ref 99), some (.int 0), none, none]
def am_op1 : am_H → Nat × Nat × Nat × Nat → am_H := fun h o => match o.1 with
  | 0 => am_new h o.2.1
  | 1 => am_sI h o.2.1 o.2.2.1 (Int32.ofNat o.2.2.2)
  | 2 => am_sR h o.2.1 o.2.2.1 (some o.2.2.2)
  | _ => am_sI h o.2.1 o.2.2.1 (-Int32.ofNat o.2.2.2)
def am_ops : List (Nat × Nat × Nat × Nat) → am_H → am_H
  | [], h => h
  | o :: l, h => am_ops l (am_op1 h o)
def am_op9 : List (Nat × Nat × Nat × Nat) := [(0, 13, 0, 0), (0, 9, 0, 0), (0, 700, 0, 0), (2, 1, 0, 2), (0, 16, 0, 0), (0, 9, 0, 0), (2, 3, 0, 4), (0, 9, 0, 0), (2, 3, 1, 5), (0, 6, 0, 0), (2, 3, 2, 6), (0, 6, 0, 0), (2, 3, 3, 7), (0, 10, 0, 0), (2, 3, 4, 8), (0, 81, 0, 0), (2, 3, 5, 9), (0, 81, 0, 0), (2, 3, 6, 10), (0, 7, 0, 0), (2, 3, 7, 11), (0, 4, 0, 0), (0, 700, 0, 0), (2, 12, 1, 13), (0, 40, 0, 0), (2, 12, 2, 14), (2, 12, 0, 1000), (2, 3, 8, 12), (0, 4, 0, 0), (0, 700, 0, 0), (2, 15, 1, 16), (0, 40, 0, 0), (2, 15, 2, 17), (2, 15, 0, 1001), (2, 3, 9, 15), (0, 1, 0, 0), (0, 49, 0, 0), (2, 18, 0, 19), (2, 3, 10, 18), (2, 1, 2, 3), (3, 1, 3, 1), (2, 0, 0, 1), (0, 1, 0, 0), (0, 49, 0, 0), (2, 20, 0, 21), (2, 0, 1, 20), (0, 3, 0, 0), (0, 1960, 0, 0), (2, 22, 0, 23), (2, 0, 2, 22), (0, 3, 0, 0), (0, 7, 0, 0), (2, 24, 0, 25), (0, 7, 0, 0), (2, 24, 1, 26), (2, 0, 3, 24), (0, 1, 0, 0), (0, 49, 0, 0), (2, 27, 0, 28), (2, 0, 4, 27), (0, 3, 0, 0), (0, 1960, 0, 0), (2, 29, 0, 30), (2, 0, 5, 29), (0, 3, 0, 0), (0, 7, 0, 0), (2, 31, 0, 32), (0, 7, 0, 0), (2, 31, 1, 33), (2, 0, 6, 31), (0, 8, 0, 0), (0, 1, 0, 0), (0, 49, 0, 0), (2, 35, 0, 36), (2, 34, 0, 35), (2, 0, 7, 34), (0, 4, 0, 0), (0, 216, 0, 0), (2, 37, 0, 38), (0, 4608, 0, 0), (2, 37, 1, 39), (0, 9, 0, 0), (2, 37, 2, 40), (0, 9, 0, 0), (2, 37, 3, 41), (2, 0, 8, 37), (0, 3, 0, 0), (2, 0, 9, 42), (0, 16, 0, 0), (0, 9, 0, 0), (2, 43, 0, 44), (0, 9, 0, 0), (2, 43, 1, 45), (0, 6, 0, 0), (2, 43, 2, 46), (0, 6, 0, 0), (2, 43, 3, 47), (0, 10, 0, 0), (2, 43, 4, 48), (0, 81, 0, 0), (2, 43, 5, 49), (0, 81, 0, 0), (2, 43, 6, 50), (0, 7, 0, 0), (2, 43, 7, 51), (0, 4, 0, 0), (0, 700, 0, 0), (2, 52, 1, 53), (0, 40, 0, 0), (2, 52, 2, 54), (2, 52, 0, 1000), (2, 43, 8, 52), (0, 4, 0, 0), (0, 700, 0, 0), (2, 55, 1, 56), (0, 40, 0, 0), (2, 55, 2, 57), (2, 55, 0, 1001), (2, 43, 9, 55), (0, 1, 0, 0), (0, 49, 0, 0), (2, 58, 0, 59), (2, 43, 10, 58), (2, 0, 10, 43), (3, 0, 11, 1), (1, 0, 12, 0), (0, 80, 0, 0), (3, 60, 6, 1), (3, 60, 7, 1), (0, 4, 0, 0), (2, 60, 8, 61), (0, 9, 0, 0), (2, 60, 9, 62), (0, 9, 0, 0), (2, 60, 10, 63), (0, 81, 0, 0), (2, 60, 11, 64), (0, 81, 0, 0), (2, 60, 12, 65), (0, 6, 0, 0), (2, 60, 13, 66), (0, 6, 0, 0), (2, 60, 14, 67), (0, 10, 0, 0), (2, 60, 15, 68), (0, 1400, 0, 0), (2, 60, 16, 69), (0, 700, 0, 0), (2, 60, 17, 70), (3, 60, 20, 1), (0, 3, 0, 0), (2, 60, 21, 71), (0, 4, 0, 0), (2, 60, 42, 72), (0, 4, 0, 0), (2, 60, 43, 73), (0, 9, 0, 0), (2, 60, 44, 74), (0, 9, 0, 0), (2, 60, 45, 75), (0, 81, 0, 0), (2, 60, 46, 76), (0, 6, 0, 0), (2, 60, 47, 77), (0, 6, 0, 0), (2, 60, 48, 78), (0, 6, 0, 0), (2, 60, 49, 79), (0, 6, 0, 0), (2, 60, 50, 80), (0, 10, 0, 0), (2, 60, 51, 81), (0, 1400, 0, 0), (2, 60, 52, 82), (0, 950, 0, 0), (2, 60, 53, 83), (0, 9, 0, 0), (2, 60, 54, 84), (0, 40, 0, 0), (2, 60, 55, 85), (0, 40, 0, 0), (2, 60, 56, 86), (0, 1600, 0, 0), (2, 60, 57, 87), (0, 10, 0, 0), (2, 60, 59, 88), (0, 950, 0, 0), (2, 60, 60, 89), (3, 60, 61, 1), (3, 60, 62, 1), (3, 60, 63, 1), (0, 4, 0, 0), (2, 60, 64, 90), (0, 9, 0, 0), (2, 60, 65, 91), (0, 9, 0, 0), (2, 60, 66, 92), (0, 4608, 0, 0), (2, 60, 67, 93), (0, 14, 0, 0), (2, 60, 71, 94), (0, 7, 0, 0), (2, 60, 72, 95), (0, 40, 0, 0), (2, 60, 77, 96), (0, 1600, 0, 0), (2, 60, 78, 97), (0, 14, 0, 0), (2, 60, 79, 98), (0, 1, 0, 0)]
def am_h1 (L : Nat) (xs : Nat → Int32) : am_H := am_ops am_op9 (am_h9 L xs)
/-- the references and the numbers do not depend on the script -/
def am_eqv (h h' : am_H) : Prop := h.1 = h'.1 ∧ h.2.1 = h'.2.1 ∧ h.2.2.1 = h'.2.2.1 ∧ h.2.2.2.2.1 = h'.2.2.2.2.1 ∧ h.2.2.2.2.2 = h'.2.2.2.2.2 ∧ ∀ i, i < 2000 → h.2.2.2.1 i = h'.2.2.2.1 i
theorem am_eqv_u (I I' : Nat → Nat → Int32) (e : ∀ i, i < 2000 → I i = I' i) (a b : Nat) (v : Int32) (i : Nat) (hi : i < 2000) : am_u I a b v i = am_u I' a b v i := by
  unfold am_u
  by_cases ha : i = a
  · rw [if_pos ha, if_pos ha, ← ha, e i hi]
  · rw [if_neg ha, if_neg ha, e i hi]
theorem am_eqv.op {h h' : am_H} (e : am_eqv h h') (o : Nat × Nat × Nat × Nat) : am_eqv (am_op1 h o) (am_op1 h' o) := by
  obtain ⟨n, c, s, I, J, R⟩ := h
  obtain ⟨n', c', s', I', J', R'⟩ := h'
  obtain ⟨e1, e2, e3, e4, e5, e6⟩ := e
  dsimp only at e1 e2 e3 e4 e5 e6
  subst e1 e2 e3 e4 e5
  unfold am_op1
  split
  · refine ⟨rfl, rfl, rfl, rfl, rfl, fun i hi => ?_⟩
    show am_row I _ _ i = am_row I' _ _ i
    unfold am_row
    split
    · rfl
    · exact e6 i hi
  · exact ⟨rfl, rfl, rfl, rfl, rfl, fun i hi => am_eqv_u _ _ e6 _ _ _ i hi⟩
  · exact ⟨rfl, rfl, rfl, rfl, rfl, e6⟩
  · exact ⟨rfl, rfl, rfl, rfl, rfl, fun i hi => am_eqv_u _ _ e6 _ _ _ i hi⟩
theorem am_eqv.ops : ∀ (l : List (Nat × Nat × Nat × Nat)) {h h' : am_H}, am_eqv h h' → am_eqv (am_ops l h) (am_ops l h')
  | [], _, _, e => e
  | o :: l, _, _, e => am_eqv.ops l (e.op o)
/-- the same, with no script -/
def am_h0 : am_H := am_ops am_op9 (am_h9 0 fun _ => 0)
theorem am_h1_eqv (L : Nat) (xs : Nat → Int32) : am_eqv (am_h1 L xs) am_h0 := am_eqv.ops _ ⟨rfl, rfl, rfl, rfl, rfl, fun i hi => by
  show (if i = 2000 then xs else if i = 2001 then fun _ => nI L else fun _ => 0) = (if i = 2000 then (fun _ => (0 : Int32)) else if i = 2001 then fun _ => nI 0 else fun _ => 0)
  rw [if_neg (by omega), if_neg (by omega), if_neg (by omega), if_neg (by omega)]⟩
theorem am_h1_n (L : Nat) (xs : Nat → Int32) : (am_h1 L xs).1 = 100 ∧ (am_h1 L xs).2.1 = 100 ∧ (am_h1 L xs).2.2.1 = 27050 := by
  obtain ⟨e1, e2, e3, -⟩ := am_h1_eqv L xs
  rw [e1, e2, e3]
  decide +kernel
theorem am_h0_rs : am_rsok am_h0 = true := by decide +kernel
theorem am_h1_rs (L : Nat) (xs : Nat → Int32) : am_rsok (am_h1 L xs) = true := by
  have h := am_h0_rs
  have e : am_R (am_h1 L xs) = am_R am_h0 := (am_h1_eqv L xs).2.2.2.2.1
  unfold am_rsok at h ⊢
  rw [e]
  exact h
theorem am_ops_row (r : Nat) : ∀ (l : List (Nat × Nat × Nat × Nat)) (h : am_H), h.1 + l.length ≤ r → (∀ o ∈ l, o.2.1 ≠ r ∨ o.1 = 0) → am_I (am_ops l h) r = am_I h r
  | [], _, _, _ => rfl
  | o :: l, h, hn, ho => by
    have h1 : (am_op1 h o).1 ≤ h.1 + 1 := by
      unfold am_op1; split <;> simp [am_new, am_sI, am_sR]
    have h2 : am_I (am_op1 h o) r = am_I h r := by
      simp only [List.length_cons] at hn
      rcases Nat.eq_or_lt_of_le (Nat.zero_le o.1) with z | z
      · unfold am_op1
        rw [← z]
        exact am_new_I h _ (by omega)
      · have h3 := ho o List.mem_cons_self
        unfold am_op1
        split
        · exact am_new_I h _ (by omega)
        · exact am_sI_I' h _ _ _ (by omega)
        · rfl
        · exact am_sI_I' h _ _ _ (by omega)
    show am_I (am_ops l (am_op1 h o)) r = _
    rw [am_ops_row r l _ (by simp only [List.length_cons] at hn; omega) (fun o' h' => ho o' (List.mem_cons_of_mem _ h')), h2]
theorem am_op9_r : (am_op9.all fun o => Nat.blt o.2.1 2000 || Nat.beq o.1 0) = true := by decide +kernel
theorem am_op9_l : am_op9.length = 210 := by decide +kernel
theorem am_h1_row {r : Nat} (hr : 2000 ≤ r) (L : Nat) (xs : Nat → Int32) : am_I (am_h1 L xs) r = am_I (am_h9 L xs) r := by
  refine am_ops_row r _ _ (by rw [am_op9_l]; show 0 + 210 ≤ r; omega) fun o ho => ?_
  have := List.all_eq_true.mp am_op9_r o ho
  rw [Bool.or_eq_true] at this
  rcases this with z | z
  · have := Nat.le_of_ble_eq_true z
    exact Or.inl (by omega)
  · exact Or.inr (Nat.eq_of_beq_eq_true z)
theorem am_h1_xs (L : Nat) (xs : Nat → Int32) : am_I (am_h1 L xs) 2000 = xs ∧ am_I (am_h1 L xs) 2001 0 = nI L := by
  rw [am_h1_row (by omega), am_h1_row (by omega)]
  exact ⟨rfl, rfl⟩
