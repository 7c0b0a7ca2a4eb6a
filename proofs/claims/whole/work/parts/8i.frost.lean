/-! FROSTS: the class's long helpers -/
def am_RLe (o : Option am_Q) (v : Int64) (h : am_H) : Prop := o = some (.inl (some (.long v)), h)
def fr_b (n k : Nat) : Nat → Nat
  | 0 => 1
  | i + 1 => fr_b n k i * (n - k + (i + 1)) / (i + 1)
theorem fr_b_le : ∀ n, n < 10 → ∀ k, k < 10 → ∀ i, i < 10 → fr_b n k i ≤ 100000 := by decide +kernel
theorem s57 {n k : Nat} {h : am_H} (hn : n < 10) (hk : k ≤ n) : am_run am_M 57 [.int (nI n), .int (nI k)] h = some (.inl (some (.long (nL (fr_b n k k)))), h) := by
  rw [e57]
  obtain ⟨g, e, hp⟩ := am_for0 (fun i (g : am_H) => am_vn am_M 0 57 5 [some (.int (nI n)), some (.int (nI k)), some (.long (nL (fr_b n k i))), none, some (.int (nI (i + 1)))] [] g) (fun _ g => g = h) k h rfl (fun i g hi hg => by
    subst hg
    have hb := fr_b_le n hn k (by omega) i (by omega)
    have h2 : fr_b n k i * (n - k + (i + 1)) ≤ 100000 * 20 := Nat.mul_le_mul hb (by omega)
    refine ⟨g, ?_, rfl⟩
    rw [e57_5, if_neg (nI_nlt (show i + 1 ≤ k by omega) (by omega)), pk_sub hk, nI_add, nL_of _ (by omega), nL_of _ (by omega), if_neg (fun e => by have := (nL_0 (by omega)).mp e; omega), nL_mul, nL_div (by omega) (by omega), pz_succ]
    rfl)
  subst hp
  refine e.trans ?_
  rw [e57_5, if_pos (nI_lt (Nat.lt_succ_self _) (by omega))]
theorem s58 {a n : Nat} {h : am_H} (hn : n < 100) : am_run am_M 58 [.long (nL a), .int (nI n)] h = some (.inl (some (.long (nL (a ^ n)))), h) := by
  rw [e58]
  obtain ⟨g, e, hp⟩ := am_for0 (fun i (g : am_H) => am_vn am_M 0 58 5 [some (.long (nL a)), none, some (.int (nI n)), some (.long (nL (a ^ i))), none, some (.int (nI i))] [] g) (fun _ g => g = h) n h rfl (fun i g hi hg => by
    subst hg
    refine ⟨g, ?_, rfl⟩
    rw [e58_5, if_neg (nI_ge hi (by omega)), nL_mul, pz_succ, Nat.pow_succ])
  subst hp
  refine e.trans ?_
  rw [e58_5, if_pos (nI_le (Nat.le_refl _) (by omega))]
theorem nL_sub {a b : Nat} (h : b ≤ a) : nL a - nL b = nL (a - b) := by
  have e : nL a = nL (a - b) + nL b := by rw [nL_add, Nat.sub_add_cancel h]
  rw [e, Int64.add_sub_cancel]
theorem nL_rem {a b : Nat} (ha : a < 2 ^ 63) (hb : b < 2 ^ 63) : nL a - nL a / nL b * nL b = nL (a % b) := by
  have h := Nat.div_add_mod a b
  have h2 : a / b * b ≤ a := Nat.div_mul_le_self a b
  rw [nL_div ha hb, nL_mul, nL_sub h2, show a - a / b * b = a % b by rw [Nat.mul_comm] at h2 ⊢; omega]
theorem nL_cmp {a : Nat} (ha : a < 2 ^ 63) : lg_cmp (nL a) (Int64.ofNat 0) = 0 ↔ a = 0 := by
  rw [lg_cmp_eq]
  exact nL_0 ha
