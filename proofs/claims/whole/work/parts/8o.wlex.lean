/-! WINTER: the text's tokens -/
def wl_r (q : Nat → Bool) (tp : Nat → Nat) (n : Nat) : Nat → Nat → Nat
  | 0, i => i
  | f + 1, i => if i < n ∧ q (tp i) = true then wl_r q tp n f (i + 1) else i
def wl_e (q : Nat → Bool) (tp : Nat → Nat) (n i : Nat) : Nat := wl_r q tp n (n - i) i
theorem wl_e_s {q : Nat → Bool} {tp : Nat → Nat} {n i : Nat} (h : i < n) (hq : q (tp i) = true) : wl_e q tp n i = wl_e q tp n (i + 1) := by
  unfold wl_e
  rw [show n - i = n - (i + 1) + 1 by omega, wl_r, if_pos ⟨h, hq⟩]
theorem wl_e_0 {q : Nat → Bool} {tp : Nat → Nat} {n i : Nat} (h : ¬ (i < n ∧ q (tp i) = true)) : wl_e q tp n i = i := by
  unfold wl_e
  cases n - i with
  | zero => rfl
  | succ f => rw [wl_r, if_neg h]
theorem wl_r_le (q : Nat → Bool) (tp : Nat → Nat) (n : Nat) : ∀ f i, i ≤ wl_r q tp n f i ∧ (i ≤ n → wl_r q tp n f i ≤ n)
  | 0, i => ⟨Nat.le_refl _, fun h => h⟩
  | f + 1, i => by
    rw [wl_r]
    have ih := wl_r_le q tp n f (i + 1)
    by_cases c : i < n ∧ q (tp i) = true
    · rw [if_pos c]
      exact ⟨by omega, fun _ => ih.2 (by omega)⟩
    · rw [if_neg c]
      exact ⟨Nat.le_refl _, fun h => h⟩
theorem wl_e_ge (q : Nat → Bool) (tp : Nat → Nat) (n i : Nat) : i ≤ wl_e q tp n i := (wl_r_le q tp n _ i).1
theorem wl_e_le (q : Nat → Bool) (tp : Nat → Nat) {n i : Nat} (h : i ≤ n) : wl_e q tp n i ≤ n := (wl_r_le q tp n _ i).2 h
/-- within such a row all bytes are such -/
theorem wl_e_in (q : Nat → Bool) (tp : Nat → Nat) (n : Nat) : ∀ f i j, n - i = f → i ≤ j → j < wl_e q tp n i → q (tp j) = true
  | 0, i, j, hf, h1, h2 => by
    rw [wl_e_0 (fun c => by omega)] at h2; omega
  | f + 1, i, j, hf, h1, h2 => by
    by_cases c : i < n ∧ q (tp i) = true
    · by_cases e : j = i
      · rw [e]; exact c.2
      · rw [wl_e_s c.1 c.2] at h2
        exact wl_e_in q tp n f (i + 1) j (by omega) (by omega) h2
    · rw [wl_e_0 c] at h2; omega
def wl_bl (c : Nat) : Bool := decide (c = 32 ∨ c = 10)
def wl_lt (c : Nat) : Bool := decide (97 ≤ c ∧ c ≤ 122)
def wl_dg (c : Nat) : Bool := decide (48 ≤ c ∧ c ≤ 57)
def wl_sg (c : Nat) : Bool := decide (c = 59 ∨ c = 40 ∨ c = 41 ∨ c = 43 ∨ c = 45 ∨ c = 42 ∨ c = 47 ∨ c = 60 ∨ c = 61)
/-- a token's kind (0 end, 1 word, 2 number, 3 strange, a sign its byte), the byte behind it, the next token -/
def wl_k (tp : Nat → Nat) (n s : Nat) : Nat := if n ≤ s then 0 else if wl_lt (tp s) = true then 1 else if wl_dg (tp s) = true then 2 else if wl_sg (tp s) = true then tp s else 3
def wl_z (tp : Nat → Nat) (n s : Nat) : Nat := if n ≤ s then n else if wl_lt (tp s) = true then wl_e wl_lt tp n s else if wl_dg (tp s) = true then wl_e wl_dg tp n s else s + 1
def wl_x (tp : Nat → Nat) (n s : Nat) : Nat := wl_e wl_bl tp n (wl_z tp n s)
section
variable {tp : Nat → Nat} {n s : Nat}
theorem wl_z_le (h : s ≤ n) : wl_z tp n s ≤ n := by
  unfold wl_z
  by_cases c : n ≤ s
  · rw [if_pos c]; exact Nat.le_refl _
  · rw [if_neg c]
    split
    · exact wl_e_le _ _ h
    · split
      · exact wl_e_le _ _ h
      · omega
theorem wl_z_gt (h : s < n) : s < wl_z tp n s := by
  unfold wl_z
  rw [if_neg (by omega)]
  split
  · rename_i c
    have := wl_e_ge wl_lt tp n (s + 1)
    rw [wl_e_s h c]; omega
  · split
    · rename_i c
      have := wl_e_ge wl_dg tp n (s + 1)
      rw [wl_e_s h c]; omega
    · omega
theorem wl_z_ge (h : s ≤ n) : s ≤ wl_z tp n s := by
  rcases Nat.lt_or_ge s n with c | c
  · exact Nat.le_of_lt (wl_z_gt c)
  · unfold wl_z; rw [if_pos c]; exact h
theorem wl_x_le (h : s ≤ n) : wl_x tp n s ≤ n := wl_e_le _ _ (wl_z_le h)
theorem wl_x_gt (h : s < n) : s < wl_x tp n s := Nat.lt_of_lt_of_le (wl_z_gt h) (wl_e_ge _ _ _ _)
theorem wl_k_lt (h : wl_k tp n s ≠ 0) : s < n := by
  unfold wl_k at h
  by_cases c : n ≤ s
  · rw [if_pos c] at h; exact absurd rfl h
  · omega
theorem wl_sg_r {c : Nat} (h : wl_sg c = true) : 40 ≤ c ∧ c ≤ 61 := by
  have := of_decide_eq_true h
  omega
theorem wl_k_le : wl_k tp n s ≤ 61 := by
  unfold wl_k
  split
  · omega
  · split
    · omega
    · split
      · omega
      · split
        · rename_i c; have := wl_sg_r c; omega
        · omega
theorem wl_k_1 : wl_k tp n s = 1 ↔ s < n ∧ wl_lt (tp s) = true := by
  unfold wl_k
  by_cases c : n ≤ s
  · rw [if_pos c]; omega
  · rw [if_neg c]
    by_cases c1 : wl_lt (tp s) = true
    · rw [if_pos c1]; exact ⟨fun _ => ⟨by omega, c1⟩, fun _ => rfl⟩
    · rw [if_neg c1]
      refine ⟨fun h => ?_, fun h => absurd h.2 c1⟩
      split at h
      · omega
      · split at h
        · rename_i c; have := wl_sg_r c; omega
        · omega
theorem wl_k_2 : wl_k tp n s = 2 ↔ s < n ∧ wl_lt (tp s) = false ∧ wl_dg (tp s) = true := by
  unfold wl_k
  by_cases c : n ≤ s
  · rw [if_pos c]; omega
  · rw [if_neg c]
    by_cases c1 : wl_lt (tp s) = true
    · rw [if_pos c1, c1]
      exact ⟨fun h => absurd h (by omega), fun h => absurd h.2.1 (by decide)⟩
    · rw [if_neg c1]
      by_cases c2 : wl_dg (tp s) = true
      · rw [if_pos c2]
        exact ⟨fun _ => ⟨by omega, by cases h : wl_lt (tp s) with | false => rfl | true => exact absurd h c1, c2⟩, fun _ => rfl⟩
      · rw [if_neg c2]
        refine ⟨fun h => ?_, fun h => absurd h.2.2 c2⟩
        split at h
        · rename_i c; have := wl_sg_r c; omega
        · omega
end
/-! the words -/
def wl_Ws : List (List Nat) := [[112, 108, 97, 99, 101], [104, 111, 117, 114], [108, 97, 109, 112], [107, 105, 110, 100], [115, 110, 111, 119], [100, 97, 121], [111, 119, 101, 115], [108, 97, 109, 98, 115], [104, 117, 110, 103, 101, 114], [115, 116, 111, 114, 101], [112, 97, 99, 107], [104, 111, 117, 115, 101], [102, 105, 101, 108, 100], [101, 100, 103, 101], [119, 111, 111, 100], [112, 97, 116, 104], [115, 113, 117, 105, 114, 101], [100, 111, 99, 116, 111, 114], [119, 105, 100, 111, 119], [99, 104, 105, 108, 100], [114, 105, 103, 104, 116], [114, 101, 110, 116], [97, 110, 100], [111, 114], [110, 111, 116]]
def wl_W (k : Nat) : List Nat := wl_Ws.getD k []
/-- the bytes from s to z spell the word k -/
def wl_is (tp : Nat → Nat) (s z k : Nat) : Prop := z - s = (wl_W k).length ∧ ∀ i, i < (wl_W k).length → tp (s + i) = (wl_W k).getD i 0
theorem wl_W_ok : ∀ k, k < 25 → (0 < (wl_W k).length ∧ (wl_W k).length ≤ 6) ∧ ∀ i, i < (wl_W k).length → 97 ≤ (wl_W k).getD i 0 ∧ (wl_W k).getD i 0 ≤ 122 := by decide +kernel
theorem wl_W_ne : ∀ k, k < 25 → ∀ j, j < 25 → wl_W k = wl_W j → k = j := by decide +kernel
theorem wl_ext {l r : List Nat} (h : l.length = r.length) (e : ∀ i, i < l.length → l.getD i 0 = r.getD i 0) : l = r := by
  apply List.ext_getElem h
  intro i h1 h2
  have := e i h1
  rw [List.getD_eq_getElem?_getD, List.getD_eq_getElem?_getD, List.getElem?_eq_getElem h1, List.getElem?_eq_getElem h2] at this
  exact this
theorem wl_is_one {tp : Nat → Nat} {s z k j : Nat} (hk : k < 25) (hj : j < 25) (a : wl_is tp s z k) (b : wl_is tp s z j) : k = j := by
  refine wl_W_ne k hk j hj (wl_ext (a.1.symm.trans b.1) fun i hi => ?_)
  rw [← a.2 i hi]
  exact b.2 i (by rw [← b.1, a.1]; exact hi)
def wl_iB (tp : Nat → Nat) (s z k : Nat) : Bool := Nat.beq (z - s) (wl_W k).length && (List.range (wl_W k).length).all (fun i => Nat.beq (tp (s + i)) ((wl_W k).getD i 0))
theorem wl_iB_is {tp : Nat → Nat} {s z k : Nat} : wl_iB tp s z k = true ↔ wl_is tp s z k := by
  unfold wl_iB wl_is
  rw [Bool.and_eq_true, List.all_eq_true]
  constructor
  · rintro ⟨a, b⟩
    exact ⟨Nat.eq_of_beq_eq_true a, fun i hi => Nat.eq_of_beq_eq_true (b i (List.mem_range.mpr hi))⟩
  · rintro ⟨a, b⟩
    exact ⟨by rw [a]; exact Nat.beq_refl _, fun i hi => by rw [b i (List.mem_range.mp hi)]; exact Nat.beq_refl _⟩
def wl_f (tp : Nat → Nat) (s z : Nat) : Nat → Nat → Nat
  | 0, _ => 25
  | f + 1, i => if wl_iB tp s z i = true then i else wl_f tp s z f (i + 1)
def wl_w (tp : Nat → Nat) (n s : Nat) : Nat := if wl_k tp n s = 1 then wl_f tp s (wl_z tp n s) 25 0 else 25
theorem wl_f_or (tp : Nat → Nat) (s z : Nat) : ∀ f i, i + f = 25 → (wl_f tp s z f i = 25 ∧ ∀ j, i ≤ j → j < 25 → ¬ wl_is tp s z j) ∨ (wl_f tp s z f i < 25 ∧ wl_is tp s z (wl_f tp s z f i))
  | 0, i, h => Or.inl ⟨rfl, fun j h1 h2 => by omega⟩
  | f + 1, i, h => by
    rw [wl_f]
    by_cases c : wl_iB tp s z i = true
    · rw [if_pos c]; exact Or.inr ⟨by omega, wl_iB_is.mp c⟩
    · rw [if_neg c]
      rcases wl_f_or tp s z f (i + 1) (by omega) with ⟨a, b⟩ | a
      · refine Or.inl ⟨a, fun j h1 h2 => ?_⟩
        by_cases e : j = i
        · rw [e]; exact fun h => c (wl_iB_is.mpr h)
        · exact b j (by omega) h2
      · exact Or.inr a
theorem wl_w_is {tp : Nat → Nat} {n s k : Nat} (h1 : wl_k tp n s = 1) (hk : k < 25) : wl_w tp n s = k ↔ wl_is tp s (wl_z tp n s) k := by
  unfold wl_w
  rw [if_pos h1]
  rcases wl_f_or tp s (wl_z tp n s) 25 0 rfl with ⟨a, b⟩ | ⟨a, b⟩
  · rw [a]; exact ⟨fun h => by omega, fun h => absurd h (b k (by omega) hk)⟩
  · exact ⟨fun h => by rw [← h]; exact b, fun h => wl_is_one a hk b h⟩
theorem wl_w_le {tp : Nat → Nat} {n s : Nat} : wl_w tp n s ≤ 25 := by
  unfold wl_w
  split
  · rcases wl_f_or tp s (wl_z tp n s) 25 0 rfl with ⟨a, b⟩ | ⟨a, b⟩ <;> omega
  · omega
theorem wl_w_1 {tp : Nat → Nat} {n s : Nat} (h : wl_w tp n s < 25) : wl_k tp n s = 1 := by
  unfold wl_w at h
  split at h
  · rename_i c; exact c
  · omega
/-- the place of a word in a row of words -/
def wl_ix : List Nat → Nat → Nat
  | [], _ => 0
  | a :: r, w => if a = w then 0 else wl_ix r w + 1
theorem wl_ix_le : ∀ (l : List Nat) (w : Nat), wl_ix l w ≤ l.length
  | [], _ => Nat.le_refl _
  | a :: r, w => by
    have := wl_ix_le r w
    rw [wl_ix, List.length_cons]
    split <;> omega
def wl_cx (l : List Nat) (w : Nat) : Int32 := if wl_ix l w < l.length then nI (wl_ix l w) else (-1 : Int32)
/-- a number's first four digits -/
def wl_n (tp : Nat → Nat) (s : Nat) : Nat → Nat
  | 0 => 0
  | k + 1 => 10 * wl_n tp s k + (tp (s + k) - 48)
def wl_v (tp : Nat → Nat) (n s : Nat) : Nat := wl_n tp s (min 4 (wl_z tp n s - s))
theorem wl_n_lt {tp : Nat → Nat} {s : Nat} : ∀ k, (∀ i, i < k → wl_dg (tp (s + i)) = true) → wl_n tp s k < 10 ^ k
  | 0, _ => by rw [wl_n]; omega
  | k + 1, h => by
    have ih := wl_n_lt k (fun i hi => h i (by omega))
    have h0 := of_decide_eq_true (h k (by omega))
    rw [wl_n, Nat.pow_succ]
    omega
/-- the strings of the class -/
def wl_S (l : List Nat) : List Nat := l.flatMap (fun k => wl_W k ++ [32])
def wl_LN : List Nat := [10, 11, 12, 13, 14, 15, 16, 17, 18, 19, 4, 20, 21]
def wl_V (j : Nat) : List Nat := if j = 0 then [3, 0, 1, 4, 2, 6, 5] else [7, 3, 8, 9, 4, 5, 6]
theorem wl_str0 : am_str 0 = (wl_S (wl_V 0)).map nI := by decide +kernel
theorem wl_str1 : am_str 1 = (wl_S (wl_V 1)).map nI := by decide +kernel
theorem wl_str4 : am_str 4 = (wl_S wl_LN).map nI := by decide +kernel
theorem wl_str5 : am_str 5 = (wl_S [24]).map nI := by decide +kernel
theorem wl_str6 : am_str 6 = (wl_S [22]).map nI := by decide +kernel
theorem wl_str7 : am_str 7 = (wl_S [23]).map nI := by decide +kernel
