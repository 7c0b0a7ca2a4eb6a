/-! WALKS in the class: how long to wait, what a step does -/
def wk_D (q : Nat → Bool) : Nat → Nat → Nat
  | 0, _ => 1000
  | m + 1, k => if q (k % 24) = true then 0 else if wk_D q m (k + 1) = 1000 then 1000 else wk_D q m (k + 1) + 1
theorem wk_D_or (q : Nat → Bool) : ∀ (m k : Nat), m < 100 → (wk_D q m k = 1000 ∧ ∀ j, j < m → q ((k + j) % 24) = false) ∨ (wk_D q m k < m ∧ q ((k + wk_D q m k) % 24) = true ∧ ∀ j, j < wk_D q m k → q ((k + j) % 24) = false)
  | 0, k, _ => Or.inl ⟨rfl, fun j hj => absurd hj (Nat.not_lt_zero j)⟩
  | m + 1, k, hm => by
    rw [wk_D]
    by_cases c : q (k % 24) = true
    · rw [if_pos c]
      exact Or.inr ⟨by omega, c, fun j hj => absurd hj (Nat.not_lt_zero j)⟩
    · rw [if_neg c]
      have c' : q (k % 24) = false := by cases h : q (k % 24) with | true => exact absurd h c | false => rfl
      rcases wk_D_or q m (k + 1) (by omega) with ⟨a, b⟩ | ⟨a, b, e⟩
      · rw [if_pos a]
        refine Or.inl ⟨rfl, fun j hj => ?_⟩
        cases j with
        | zero => exact c'
        | succ j => have := b j (by omega); rwa [show k + 1 + j = k + (j + 1) by omega] at this
      · rw [if_neg (by omega)]
        refine Or.inr ⟨by omega, by rwa [show k + 1 + wk_D q m (k + 1) = k + (wk_D q m (k + 1) + 1) by omega] at b, fun j hj => ?_⟩
        cases j with
        | zero => exact c'
        | succ j => have := e j (by omega); rwa [show k + 1 + j = k + (j + 1) by omega] at this
theorem wk_n_none (q : Nat → Bool) : ∀ (k r : Nat), r + k = 96 → (∀ j, r ≤ j → q (j % 24) = false) → wk_n q r = 96
  | 0, r, h, _ => wk_n_no q (by omega)
  | k + 1, r, h, hq => by
    rw [wk_n_step q (by omega), if_neg (by rw [hq r (Nat.le_refl _)]; decide)]
    exact wk_n_none q k (r + 1) (by omega) (fun j hj => hq j (by omega))
theorem wk_n_at (q : Nat → Bool) : ∀ (w r : Nat), q ((r + w) % 24) = true → (∀ j, j < w → q ((r + j) % 24) = false) → wk_n q r = if r + w < 96 then r + w else 96
  | 0, r, h, _ => by
    rw [Nat.add_zero] at h ⊢
    by_cases c : r < 96
    · rw [wk_n_step q c, if_pos h, if_pos c]
    · rw [wk_n_no q (by omega), if_neg c]
  | w + 1, r, h, hj => by
    by_cases c : r < 96
    · rw [wk_n_step q c, if_neg (by have := hj 0 (by omega); rw [Nat.add_zero] at this; rw [this]; decide), wk_n_at q w (r + 1) (by rwa [show r + 1 + w = r + (w + 1) by omega]) (fun j h1 => by have := hj (j + 1) (by omega); rwa [show r + (j + 1) = r + 1 + j by omega] at this), show r + 1 + w = r + (w + 1) by omega]
    · rw [wk_n_no q (by omega), if_neg (by omega)]
/-- the wait from the table of the day's hours -/
theorem wk_n_D (q : Nat → Bool) {r : Nat} (hr : r ≤ 96) : (wk_D q (48 - r % 24) (r % 24) = 1000 → wk_n q r = 96) ∧ (wk_D q (48 - r % 24) (r % 24) ≠ 1000 → wk_n q r = if r + wk_D q (48 - r % 24) (r % 24) < 96 then r + wk_D q (48 - r % 24) (r % 24) else 96) := by
  rcases wk_D_or q (48 - r % 24) (r % 24) (by omega) with ⟨a, b⟩ | ⟨a, b, e⟩
  · refine ⟨fun _ => wk_n_none q (96 - r) r (by omega) (fun j _ => ?_), fun h => absurd a h⟩
    have := b ((j % 24 + 24 - r % 24) % 24) (by omega)
    rwa [show (r % 24 + (j % 24 + 24 - r % 24) % 24) % 24 = j % 24 by omega] at this
  · refine ⟨fun h => by omega, fun _ => wk_n_at q _ r ?_ (fun j hj => ?_)⟩
    · rwa [show (r % 24 + wk_D q (48 - r % 24) (r % 24)) % 24 = (r + wk_D q (48 - r % 24) (r % 24)) % 24 by omega] at b
    · have := e j hj
      rwa [show (r % 24 + j) % 24 = (r + j) % 24 by omega] at this
section
variable {h : am_H} {d : pw_L} {S : Nat → Nat} {p L : Nat}
/-- waits of place a on row 38 -/
def wk_38 (g : am_H) (q : Nat → Bool) (a : Nat) : Prop := ∀ hr, hr < 24 → am_I g 38 (a * 24 + hr) = pn_o (wk_D q (48 - hr) hr) 100
theorem s167 {q : Nat → Bool} {a : Nat} (ha : a < 9) : am_RV (am_run am_M 167 [.ref 37, .int (nI a), .int (nI (pb q 24))] h) (fun g => am_kp (fun i k => decide (i = 38 ∧ a * 24 ≤ k ∧ k < a * 24 + 24)) h g ∧ wk_38 g q a) := by
  have hpb := pb_lt q 24
  have key : ∀ (k : Nat) (g : am_H) (e3 : Int32), k ≤ 48 → am_kp (fun i k => decide (i = 38 ∧ a * 24 ≤ k ∧ k < a * 24 + 24)) h g → (∀ hr, hr < 24 → k ≤ hr → am_I g 38 (a * 24 + hr) = pn_o (wk_D q (48 - hr) hr) 100) → e3 = pn_o (wk_D q (48 - k) k) 100 →
      am_RV (am_vn am_M 1 167 6 [some (.ref 37), some (.int (nI a)), some (.int (nI (pb q 24))), some (.int e3), some (.int (nI k + (-1 : Int32))), none] [] g) (fun g => am_kp (fun i k => decide (i = 38 ∧ a * 24 ≤ k ∧ k < a * 24 + 24)) h g ∧ wk_38 g q a) := by
    intro k
    induction k with
    | zero =>
      intro g e3 hk kp hf he
      rw [e167_6, if_pos (by decide)]
      exact ⟨g, rfl, kp, fun hr h1 => hf hr h1 (Nat.zero_le _)⟩
    | succ k ih =>
      intro g e3 hk kp hf he
      have fin : ∀ y : Int32, y = pn_o (wk_D q (48 - k) k) 100 → am_RV (am_vn am_M 1 167 41 [some (.ref 37), some (.int (nI a)), some (.int (nI (pb q 24))), some (.int y), some (.int (nI k)), some (.int (nI (k % 24)))] [] g) (fun g => am_kp (fun i k => decide (i = 38 ∧ a * 24 ≤ k ∧ k < a * 24 + 24)) h g ∧ wk_38 g q a) := by
        intro y hy
        rw [e167_41, pk_mul, nI_add, put_ok (r := 38) (n := 216) rfl (by omega) (by omega) (show a * 24 + k % 24 < 216 by omega), am_bV_ok]
        refine ih _ y (by omega) (kp.sI _ (decide_eq_true (by omega))) (fun hr h1 h2 => ?_) hy
        by_cases c : hr = k
        · subst c
          rw [Nat.mod_eq_of_lt h1, am_I_s, hy]
        · rw [am_I_s2 _ _ _ _ (show a * 24 + hr ≠ a * 24 + k % 24 by omega)]
          exact hf hr h1 (by omega)
      have hD : wk_D q (48 - k) k = if q (k % 24) = true then 0 else if wk_D q (48 - (k + 1)) (k + 1) = 1000 then 1000 else wk_D q (48 - (k + 1)) (k + 1) + 1 := by
        rw [show 48 - k = 48 - (k + 1) + 1 by omega, wk_D]
      have hor := wk_D_or q (48 - (k + 1)) (k + 1) (by omega)
      rw [e167_6, pk_pred, if_neg (show ¬ nI k < 0 from nI_nlt (Nat.zero_le k) (by omega)), if_neg (show ¬ nI 24 = 0 by decide), pk_rem (by omega) (by omega) (by omega), pz_bit (by omega) (by omega), pb_bit, decide_eq_true (show k % 24 < 24 by omega), Bool.true_and]
      by_cases cq : q (k % 24) = true
      · rw [if_pos cq, if_pos (show nI 1 = nI 1 from rfl)]
        exact fin _ (by rw [hD, if_pos cq]; rfl)
      · rw [if_neg cq, if_neg (show ¬ nI 0 = nI 1 by decide)]
        by_cases c1 : wk_D q (48 - (k + 1)) (k + 1) = 1000
        · rw [if_pos (show e3 = (-1 : Int32) by rw [he, c1]; rfl)]
          exact fin _ (by rw [hD, if_neg cq, if_pos c1, he, c1])
        · have hlt : wk_D q (48 - (k + 1)) (k + 1) < 48 := by omega
          have he' : e3 = nI (wk_D q (48 - (k + 1)) (k + 1)) := by rw [he]; exact if_pos (by omega)
          rw [if_neg (show ¬ e3 = (-1 : Int32) by rw [he']; exact pz_neg1 (by omega)), he', pz_succ]
          exact fin _ (by rw [hD, if_neg cq, if_neg c1]; exact (if_pos (by omega)).symm)
  rw [e167]
  exact key 48 h _ (Nat.le_refl _) (am_kp.refl _ _) (fun hr h1 h2 => by omega) rfl
/-- row 39 holds the hours -/
def wk_39 (g : am_H) (N : Nat) (f : Nat → Nat) : Prop := ∀ v, v < N → f v ≤ 96 ∧ am_I g 39 v = nI (f v)
theorem s170 {q : Nat → Bool} {A a r N : Nat} {f : Nat → Nat} (ha : a < 9) (hA : A * 9 + a < N) (hN : N ≤ 4608) (hr : r ≤ 150) (h38 : wk_38 h q a) (h39 : wk_39 h N f) :
    am_RV (am_run am_M 170 [.ref 37, .int (nI A), .int (nI a), .int (nI r)] h) (fun g => am_kp (fun i _ => decide (i = 39)) h g ∧ wk_39 g N (if wk_n q r < f (A * 9 + a) then pu f (A * 9 + a) (wk_n q r) else f)) := by
  have fv := h39 _ hA
  have no : am_RV (some (Sum.inl none, h) : Option am_Q) (fun g => am_kp (fun i _ => decide (i = 39)) h g ∧ wk_39 g N f) := ⟨h, rfl, am_kp.refl _ _, h39⟩
  rw [e170, if_neg (show ¬ nI 24 = 0 by decide), pk_rem (by omega) (by omega) (by omega), pk_mul, nI_add, at_ok (r := 38) (n := 216) rfl (by omega) (by omega) (show a * 24 + r % 24 < 216 by omega), am_bI_ok, h38 (r % 24) (by omega)]
  have hor := wk_D_or q (48 - r % 24) (r % 24) (by omega)
  by_cases c96 : r ≤ 96
  · have hnD := wk_n_D q c96
    by_cases c1 : wk_D q (48 - r % 24) (r % 24) = 1000
    · rw [if_pos (by rw [c1]; rfl), hnD.1 c1, if_neg (by omega)]
      exact no
    · have e1 := hnD.2 c1
      generalize wk_D q (48 - r % 24) (r % 24) = w at c1 e1 hor ⊢
      rw [show pn_o w 100 = nI w from if_pos (by omega), if_neg (pz_neg1 (by omega)), pk_mul, nI_add, at_ok (r := 39) (n := 4608) rfl (by omega) (by omega) (show A * 9 + a < 4608 by omega), am_bI_ok, fv.2, nI_add]
      by_cases cl : f (A * 9 + a) ≤ r + w
      · rw [if_pos (nI_le cl (by omega)), if_neg (show ¬ wk_n q r < f (A * 9 + a) by rw [e1]; split <;> omega)]
        exact no
      · have e2 : wk_n q r = r + w := by rw [e1, if_pos (by omega)]
        rw [if_neg (nI_ge (by omega) (by omega)), put_ok (r := 39) (n := 4608) rfl (by omega) (by omega) (show A * 9 + a < 4608 by omega), am_bV_ok, e2, if_pos (by omega)]
        refine ⟨_, rfl, (am_kp.refl _ _).sI _ (decide_eq_true rfl), fun v hv => ?_⟩
        rw [am_I_sc]
        unfold pu
        by_cases e : v = A * 9 + a
        · rw [if_pos (show 39 = 39 ∧ v = A * 9 + a from ⟨rfl, e⟩), if_pos e]; exact ⟨by omega, rfl⟩
        · rw [if_neg (show ¬ (39 = 39 ∧ v = A * 9 + a) from fun h => e h.2), if_neg e]; exact h39 v hv
  · rw [wk_n_no q (by omega), if_neg (show ¬ 96 < f (A * 9 + a) by omega)]
    by_cases c1 : wk_D q (48 - r % 24) (r % 24) = 1000
    · rw [if_pos (by rw [c1]; rfl)]
      exact no
    · generalize wk_D q (48 - r % 24) (r % 24) = w at c1 hor ⊢
      rw [show pn_o w 100 = nI w from if_pos (by omega), if_neg (pz_neg1 (by omega)), pk_mul, nI_add, at_ok (r := 39) (n := 4608) rfl (by omega) (by omega) (show A * 9 + a < 4608 by omega), am_bI_ok, fv.2, nI_add, if_pos (nI_le (by omega) (by omega))]
      exact no
end
