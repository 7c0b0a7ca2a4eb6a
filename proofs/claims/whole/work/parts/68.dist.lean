/-! SHORTEST WAYS: walks by way of a list of places -/
def pl_W (e : Nat → Nat → Nat) : Nat → List Nat → Nat → Nat
  | a, [], b => e a b
  | a, x :: l, b => e a x + pl_W e x l b
/-- the least by way of places below k -/
def pl_D (e : Nat → Nat → Nat) : Nat → Nat → Nat → Nat
  | 0, a, b => e a b
  | k + 1, a, b => min (pl_D e k a b) (pl_D e k a k + pl_D e k k b)
theorem pl_app (e : Nat → Nat → Nat) (x b : Nat) (q : List Nat) : ∀ (p : List Nat) (a : Nat), pl_W e a (p ++ x :: q) b = pl_W e a p x + pl_W e x q b
  | [], _ => rfl
  | y :: p, a => by
    show e a y + pl_W e y (p ++ x :: q) b = e a y + pl_W e y p x + pl_W e x q b
    rw [pl_app e x b q p y, Nat.add_assoc]
theorem pl_nd (e : Nat → Nat → Nat) (b : Nat) : ∀ (l : List Nat) (a : Nat), ∃ l' : List Nat, l'.Nodup ∧ (∀ x ∈ l', x ∈ l) ∧ pl_W e a l' b ≤ pl_W e a l b
  | [], a => ⟨[], List.nodup_nil, fun _ h => h, Nat.le_refl _⟩
  | x :: t, a => by
    obtain ⟨t', h1, h2, h3⟩ := pl_nd e b t x
    by_cases hx : x ∈ t'
    · obtain ⟨p, q, rfl⟩ := List.append_of_mem hx
      rw [pl_app] at h3
      have hq : (x :: q).Nodup := (List.nodup_append.mp h1).2.1
      refine ⟨x :: q, hq, fun y hy => ?_, ?_⟩
      · rcases List.mem_cons.mp hy with rfl | hy
        · exact List.mem_cons_self
        · exact List.mem_cons_of_mem _ (h2 y (List.mem_append_right _ (List.mem_cons_of_mem _ hy)))
      · show e a x + pl_W e x q b ≤ e a x + pl_W e x t b
        omega
    · refine ⟨x :: t', List.nodup_cons.mpr ⟨hx, h1⟩, fun y hy => ?_, ?_⟩
      · rcases List.mem_cons.mp hy with rfl | hy
        · exact List.mem_cons_self
        · exact List.mem_cons_of_mem _ (h2 y hy)
      · show e a x + pl_W e x t' b ≤ e a x + pl_W e x t b
        omega
theorem pl_len : ∀ (n : Nat) (l : List Nat), l.Nodup → (∀ x ∈ l, x < n) → l.length ≤ n
  | 0, l, _, h => by
    match l, h with
    | [], _ => exact Nat.le_refl 0
    | x :: _, h => exact absurd (h x List.mem_cons_self) (Nat.not_lt_zero x)
  | n + 1, l, hn, h => by
    by_cases hm : n ∈ l
    · obtain ⟨p, q, rfl⟩ := List.append_of_mem hm
      have h1 := List.nodup_append.mp hn
      have h2 := List.nodup_cons.mp h1.2.1
      have hpq : (p ++ q).Nodup := List.nodup_append.mpr ⟨h1.1, h2.2, fun a ha b hb => h1.2.2 a ha b (List.mem_cons_of_mem _ hb)⟩
      have hlt : ∀ x ∈ p ++ q, x < n := by
        intro x hx
        have hxn : x ≠ n := by
          rcases List.mem_append.mp hx with hx | hx
          · exact h1.2.2 x hx n List.mem_cons_self
          · exact fun e => h2.1 (e ▸ hx)
        have : x < n + 1 := h x (by
          rcases List.mem_append.mp hx with hx | hx
          · exact List.mem_append_left _ hx
          · exact List.mem_append_right _ (List.mem_cons_of_mem _ hx))
        omega
      have := pl_len n (p ++ q) hpq hlt
      simp only [List.length_append, List.length_cons] at this ⊢
      omega
    · have := pl_len n l hn (fun x hx => by
        have h1 := h x hx
        have h2 : x ≠ n := fun e => hm (e ▸ hx)
        omega)
      omega
/-- the least is no more than any walk -/
theorem pl_le (e : Nat → Nat → Nat) : ∀ (k : Nat) (l : List Nat), (∀ x ∈ l, x < k) → ∀ a b, pl_D e k a b ≤ pl_W e a l b
  | 0, l, h, a, b => by
    match l, h with
    | [], _ => exact Nat.le_refl _
    | x :: _, h => exact absurd (h x List.mem_cons_self) (Nat.not_lt_zero x)
  | k + 1, l, h, a, b => by
    obtain ⟨l', h1, h2, h3⟩ := pl_nd e b l a
    refine Nat.le_trans ?_ h3
    have h' : ∀ x ∈ l', x < k + 1 := fun x hx => h x (h2 x hx)
    by_cases hm : k ∈ l'
    · obtain ⟨p, q, rfl⟩ := List.append_of_mem hm
      have n1 := List.nodup_append.mp h1
      have n2 := List.nodup_cons.mp n1.2.1
      have hp : ∀ x ∈ p, x < k := fun x hx => by
        have := h' x (List.mem_append_left _ hx)
        have := n1.2.2 x hx k List.mem_cons_self
        omega
      have hq : ∀ x ∈ q, x < k := fun x hx => by
        have := h' x (List.mem_append_right _ (List.mem_cons_of_mem _ hx))
        have : x ≠ k := fun e => n2.1 (e ▸ hx)
        omega
      rw [pl_app]
      have a1 := pl_le e k p hp a k
      have a2 := pl_le e k q hq k b
      show min _ _ ≤ _
      omega
    · have := pl_le e k l' (fun x hx => by
        have := h' x hx
        have : x ≠ k := fun e => hm (e ▸ hx)
        omega) a b
      show min _ _ ≤ _
      omega
/-- the least is some walk's, by no place twice -/
theorem pl_ex (e : Nat → Nat → Nat) : ∀ (k a b : Nat), ∃ l : List Nat, l.Nodup ∧ (∀ x ∈ l, x < k) ∧ pl_W e a l b = pl_D e k a b := by
  have key : ∀ (k a b : Nat), ∃ l : List Nat, (∀ x ∈ l, x < k) ∧ pl_W e a l b = pl_D e k a b := by
    intro k
    induction k with
    | zero => exact fun a b => ⟨[], fun _ h => absurd h List.not_mem_nil, rfl⟩
    | succ k ih =>
      intro a b
      by_cases c : pl_D e k a b ≤ pl_D e k a k + pl_D e k k b
      · obtain ⟨l, h1, h2⟩ := ih a b
        refine ⟨l, fun x hx => Nat.lt_succ_of_lt (h1 x hx), ?_⟩
        rw [h2]
        exact (Nat.min_eq_left c).symm
      · obtain ⟨p, h1, h2⟩ := ih a k
        obtain ⟨q, h3, h4⟩ := ih k b
        refine ⟨p ++ k :: q, fun x hx => ?_, ?_⟩
        · rcases List.mem_append.mp hx with hx | hx
          · exact Nat.lt_succ_of_lt (h1 x hx)
          · rcases List.mem_cons.mp hx with rfl | hx
            · exact Nat.lt_succ_self _
            · exact Nat.lt_succ_of_lt (h3 x hx)
        · rw [pl_app, h2, h4]
          exact (Nat.min_eq_right (by omega)).symm
  intro k a b
  obtain ⟨l, h1, h2⟩ := key k a b
  obtain ⟨l', n1, n2, n3⟩ := pl_nd e b l a
  have hl : ∀ x ∈ l', x < k := fun x hx => h1 x (n2 x hx)
  refine ⟨l', n1, hl, Nat.le_antisymm ?_ (pl_le e k l' hl a b)⟩
  omega
/-- a walk's length, if every step is small or the walk is at least as long as i -/
theorem pl_small (e : Nat → Nat → Nat) (n i m : Nat) (he : ∀ a b, a < n → b < n → e a b ≤ m ∨ i ≤ e a b) : ∀ (l : List Nat) (a b : Nat), (∀ x ∈ l, x < n) → a < n → b < n → pl_W e a l b ≤ m * (l.length + 1) ∨ i ≤ pl_W e a l b
  | [], a, b, _, ha, hb => by
    show e a b ≤ m * (0 + 1) ∨ i ≤ e a b
    have := he a b ha hb
    omega
  | x :: l, a, b, hl, ha, hb => by
    have hx := hl x List.mem_cons_self
    have h1 := he a x ha hx
    have h2 := pl_small e n i m he l x b (fun y hy => hl y (List.mem_cons_of_mem _ hy)) hx hb
    show e a x + pl_W e x l b ≤ m * (l.length + 1 + 1) ∨ i ≤ e a x + pl_W e x l b
    rw [Nat.mul_succ]
    omega
theorem pl_small_D (e : Nat → Nat → Nat) (n i m k a b : Nat) (he : ∀ a b, a < n → b < n → e a b ≤ m ∨ i ≤ e a b) (hk : k ≤ n) (ha : a < n) (hb : b < n) : pl_D e k a b ≤ m * (k + 1) ∨ i ≤ pl_D e k a b := by
  obtain ⟨l, h1, h2, h3⟩ := pl_ex e k a b
  rw [← h3]
  have hl := pl_len k l h1 h2
  rcases pl_small e n i m he l a b (fun x hx => Nat.lt_of_lt_of_le (h2 x hx) hk) ha hb with h | h
  · exact Or.inl (Nat.le_trans h (Nat.mul_le_mul_left m (by omega)))
  · exact Or.inr h
theorem pl_same {e f : Nat → Nat → Nat} {m : Nat} (h : ∀ a b, e a b ≤ m → f a b = e a b) : ∀ (l : List Nat) (a b : Nat), pl_W e a l b ≤ m → pl_W f a l b = pl_W e a l b
  | [], a, b, hm => h a b hm
  | x :: l, a, b, hm => by
    have hm : e a x + pl_W e x l b ≤ m := hm
    show f a x + pl_W f x l b = e a x + pl_W e x l b
    rw [h a x (by omega), pl_same h l x b (by omega)]
/-- the triangle -/
theorem pl_tri (e : Nat → Nat → Nat) (k a c b : Nat) (hc : c < k) : pl_D e k a b ≤ pl_D e k a c + pl_D e k c b := by
  obtain ⟨p, -, h2, h3⟩ := pl_ex e k a c
  obtain ⟨q, -, h5, h6⟩ := pl_ex e k c b
  rw [← h3, ← h6, ← pl_app]
  refine pl_le e k _ (fun x hx => ?_) a b
  rcases List.mem_append.mp hx with hx | hx
  · exact h2 x hx
  · rcases List.mem_cons.mp hx with rfl | hx
    · exact hc
    · exact h5 x hx
/-! the land's ways -/
def pw_e (d : pw_L) (i a b : Nat) : Nat := if a = b then 0 else if pw_t d 5 (a * 9 + b) = 0 then i else pw_t d 5 (a * 9 + b)
theorem pw_w_D (d : pw_L) (i : Nat) : ∀ k a b, pw_w d i k a b = pl_D (pw_e d i) k a b
  | 0, _, _ => rfl
  | k + 1, a, b => by rw [pw_w, pw_w_D d i k, pw_w_D d i k, pw_w_D d i k]; rfl
theorem pw_e_90 {d : pw_L} {i j : Nat} (hi : 90 < i) (a b : Nat) (h : pw_e d i a b ≤ 90) : pw_e d j a b = pw_e d i a b := by
  unfold pw_e at h ⊢
  split
  · rfl
  · rename_i c
    rw [if_neg c] at h
    split
    · rename_i c2
      rw [if_pos c2] at h
      omega
    · rfl
theorem pw_e_9 {d : pw_L} (ho : pw_ok d) (i : Nat) {a b : Nat} (ha : a < 9) (hb : b < 9) : pw_e d i a b ≤ 9 ∨ i ≤ pw_e d i a b := by
  have := (ho.2.2.2.2.1 a b ha hb).1
  unfold pw_e
  repeat' split
  all_goals omega
/-- both sides' ways are one: at most ninety alike, or none -/
theorem pw_w_two {d : pw_L} (ho : pw_ok d) {k : Nat} (hk : k ≤ 9) {a b : Nat} (ha : a < 9) (hb : b < 9) : pw_w d 1000 k a b = pw_w d 9999 k a b ∧ pw_w d 9999 k a b ≤ 90 ∨ pw_w d 1000 k a b = 1000 ∧ pw_w d 9999 k a b = 9999 := by
  rw [pw_w_D, pw_w_D]
  have hc := pl_small_D (pw_e d 1000) 9 1000 9 k a b (fun a b ha hb => pw_e_9 ho 1000 ha hb) hk ha hb
  have hd := pl_small_D (pw_e d 9999) 9 9999 9 k a b (fun a b ha hb => pw_e_9 ho 9999 ha hb) hk ha hb
  have lc := pl_le (pw_e d 1000) k [] (fun _ h => absurd h List.not_mem_nil) a b
  have ld := pl_le (pw_e d 9999) k [] (fun _ h => absurd h List.not_mem_nil) a b
  have l1 : pl_W (pw_e d 1000) a [] b = pw_e d 1000 a b := rfl
  have l2 : pl_W (pw_e d 9999) a [] b = pw_e d 9999 a b := rfl
  have l3 : pw_e d 1000 a b ≤ 1000 := by
    have := (ho.2.2.2.2.1 a b ha hb).1
    unfold pw_e
    repeat' split
    all_goals omega
  have l4 : pw_e d 9999 a b ≤ 9999 := by
    have := (ho.2.2.2.2.1 a b ha hb).1
    unfold pw_e
    repeat' split
    all_goals omega
  have h9 : 9 * (k + 1) ≤ 90 := by omega
  have x1 : pl_D (pw_e d 9999) k a b ≤ 90 → pl_D (pw_e d 1000) k a b ≤ pl_D (pw_e d 9999) k a b := fun h => by
    obtain ⟨l, h1, h2, h3⟩ := pl_ex (pw_e d 9999) k a b
    have := pl_le (pw_e d 1000) k l h2 a b
    rw [pl_same (e := pw_e d 9999) (m := 90) (fun a b => pw_e_90 (by omega) a b) l a b (by omega)] at this
    omega
  have x2 : pl_D (pw_e d 1000) k a b ≤ 90 → pl_D (pw_e d 9999) k a b ≤ pl_D (pw_e d 1000) k a b := fun h => by
    obtain ⟨l, h1, h2, h3⟩ := pl_ex (pw_e d 1000) k a b
    have := pl_le (pw_e d 9999) k l h2 a b
    rw [pl_same (e := pw_e d 1000) (m := 90) (fun a b => pw_e_90 (by omega) a b) l a b (by omega)] at this
    omega
  omega
/-- the way between two places, by the class's number for none -/
def pw_far (d : pw_L) (a b : Nat) : Nat := pw_w d 1000 (pw_n d 1) a b
def pw_fam (d : pw_L) (a b : Nat) : Nat := pw_w d 9999 (pw_n d 1) a b
theorem pw_far_two {d : pw_L} (ho : pw_ok d) {a b : Nat} (ha : a < pw_n d 1) (hb : b < pw_n d 1) : pw_far d a b = pw_fam d a b ∧ pw_fam d a b ≤ 90 ∨ pw_far d a b = 1000 ∧ pw_fam d a b = 9999 := by
  have := ho.1.2.1
  exact pw_w_two ho (by omega) (by omega) (by omega)
