/-! A BODY'S BEGINNING, ITS ENDS, AND ITS CONTRACT -/
theorem am_entry {g : am_D} (hg : g.2.2.1.category = 1) (ad : Nat → Nat) : ∀ (As : List Value), (lg_sl (As.map (am_tv g ad))).length = (am_la As).length ∧ ∀ k v, am_nth (am_la As) k = some (some v) → (lg_sl (As.map (am_tv g ad)))[k]? = some (.val (am_tv g ad v))
  | [] => ⟨rfl, fun k v h => by cases h⟩
  | w :: As => by
    obtain ⟨h1, h2⟩ := am_entry hg ad As
    have hc : ∀ x : Value, x.category = 1 → lg_sl (x :: As.map (am_tv g ad)) = .val x :: lg_sl (As.map (am_tv g ad)) := fun x hx => by simp [lg_sl, hx]
    have hc2 : ∀ x : Value, x.category = 2 → lg_sl (x :: As.map (am_tv g ad)) = .val x :: .second :: lg_sl (As.map (am_tv g ad)) := fun x hx => by simp [lg_sl, hx]
    have one : am_la (w :: As) = some w :: am_la As → (am_tv g ad w).category = 1 → (lg_sl ((w :: As).map (am_tv g ad))).length = (am_la (w :: As)).length ∧ ∀ k v, am_nth (am_la (w :: As)) k = some (some v) → (lg_sl ((w :: As).map (am_tv g ad)))[k]? = some (.val (am_tv g ad v)) := by
      intro e1 e2
      rw [List.map_cons, hc _ e2, e1]
      refine ⟨by simp [h1], fun k v hk => ?_⟩
      cases k with
      | zero => cases hk; rfl
      | succ k => exact h2 k v hk
    have two : am_la (w :: As) = some w :: none :: am_la As → (am_tv g ad w).category = 2 → (lg_sl ((w :: As).map (am_tv g ad))).length = (am_la (w :: As)).length ∧ ∀ k v, am_nth (am_la (w :: As)) k = some (some v) → (lg_sl ((w :: As).map (am_tv g ad)))[k]? = some (.val (am_tv g ad v)) := by
      intro e1 e2
      rw [List.map_cons, hc2 _ e2, e1]
      refine ⟨by simp [h1], fun k v hk => ?_⟩
      match k, hk with
      | 0, hk => cases hk; rfl
      | 1, hk => cases hk
      | k + 2, hk => exact h2 k v hk
    cases w with
    | int x => exact one rfl rfl
    | long x => exact two rfl rfl
    | float x => exact one rfl rfl
    | double x => exact two rfl rfl
    | ref x => exact one rfl rfl
    | retAddr x => exact one rfl hg
    | _ => exact one rfl rfl
theorem am_pad_len {α : Type} [Inhabited α] : ∀ (n : Nat) (l : am_L), l.length ≤ n → (am_pad n l).length = n
  | 0, [], h => rfl
  | 0, a :: l, h => absurd h (Nat.not_succ_le_zero _)
  | n + 1, [], h => by simp [am_pad, am_pad_len (α := α) n [] (Nat.zero_le _)]
  | n + 1, a :: l, h => by simp [am_pad]; exact am_pad_len (α := α) n l (by simpa using h)
theorem am_pad_nth : ∀ (n : Nat) (l : am_L) (k : Nat) (v : Value), am_nth (am_pad n l) k = some (some v) → am_nth l k = some (some v)
  | 0, l, k, v, h => by simpa [am_pad] using h
  | n + 1, [], 0, v, h => by simp [am_pad, am_nth] at h
  | n + 1, [], k + 1, v, h => by
    have := am_pad_nth n [] k v (by simpa [am_pad, am_nth] using h)
    simp [am_nth] at this
  | n + 1, a :: l, 0, v, h => by simpa [am_pad, am_nth] using h
  | n + 1, a :: l, k + 1, v, h => by
    have := am_pad_nth n l k v (by simpa [am_pad, am_nth] using h)
    simpa [am_nth] using this
theorem am_start {g : am_D} (hg : g.2.2.1.category = 1) (ad : Nat → Nat) (m : MethodId) (As : List Value) (n : Nat) (h : (am_la As).length ≤ n) : ∃ lsm, entryFrame m (As.map (am_tv g ad)).toArray n = F0 m 0 lsm [] ∧ am_lr g ad lsm n (am_pad n (am_la As)) := by
  obtain ⟨h1, h2⟩ := am_entry hg ad As
  have hl := lv_entry (As.map (am_tv g ad)) (n := n) (by rw [h1]; exact h)
  refine ⟨_, lg_entry_eq m _ n, hl.1, hl.2.1, by rw [am_pad_len (α := Nat) _ _ h]; exact Nat.le_refl _, fun k v hk => ?_⟩
  have h3 := h2 k v (am_pad_nth _ _ _ _ hk)
  have hlt : k < (lg_sl (As.map (am_tv g ad))).length := (List.getElem?_eq_some_iff.mp h3).1
  rw [List.getElem?_toArray, List.getElem?_append_left hlt]
  exact h3
/-- the heap may grow -/
theorem am_Wd.grow {g : am_D} {B : am_B} {ad : Nat → Nat} {h : am_H} {A : Nat → Prop} {H H1 : Heap} (W : am_Wd g B ad h A H) (hq : ∀ q : Nat, q < H.size → H1[q]? = H[q]?) : am_Wd g B ad h A H1 :=
  ⟨W.1.kept fun k q hk => hq _ (W.1 k q hk).lt, W.2⟩
