/-! FROSTS: the sums, both sides, the common divisor -/
def fr_t (n t k : Nat) : Nat := fr_b n k k * t ^ k * (10 - t) ^ (n - k)
def fr_s (n t m : Nat) : Nat → Nat
  | 0 => 0
  | i + 1 => fr_s n t m i + fr_t n t (m + i)
def fr_c (n : Nat) : Nat → Nat
  | 0 => 1
  | j + 1 => fr_c n j * (n - j) / (j + 1)
def fr_q (t k v : Nat) : Nat → Nat
  | 0 => v
  | j + 1 => fr_q t k v j * (if j < k then t else 10 - t)
def fr_g : Nat → Nat → Nat → Nat
  | 0, a, _ => a
  | f + 1, a, b => if b = 0 then a else fr_g f b (a % b)
theorem fr_c_le : ∀ n, n < 10 → ∀ j, j < 10 → fr_c n j ≤ 1000 := by decide +kernel
theorem fr_qt : ∀ n, n < 10 → ∀ t, t < 11 → ∀ k, k < n + 1 → fr_q t k (fr_c n k) n = fr_t n t k := by decide +kernel
theorem fr_s_le : ∀ n, n < 10 → ∀ t, t < 11 → ∀ m, m < 10 → fr_s n t m (n + 1 - m) ≤ 1000000000 := by decide +kernel
theorem fr_gg : ∀ n, n < 10 → ∀ t, t < 11 → ∀ m, m < 10 → fr_g 100 (10 ^ n) (fr_s n t m (n + 1 - m)) = Nat.gcd (10 ^ n) (fr_s n t m (n + 1 - m)) := by decide +kernel
theorem fr_p10 : ∀ n, n < 10 → 10 ^ n ≤ 1000000000 ∧ 0 < 10 ^ n := by decide +kernel
section
variable {h : am_H}
theorem s59 {a b : Nat} (ha : a < 2 ^ 63) (hb : b < 2 ^ 63) : am_run am_M 59 [.long (nL a), .long (nL b)] h = some (.inl (some (.long (nL (fr_g 100 a b)))), h) := by
  rw [e59]
  have key : ∀ (f i a b : Nat), i + f = 100 → a < 2 ^ 63 → b < 2 ^ 63 → am_vn am_M 0 59 9 [none, none, none, none, some (.long (nL a)), none, some (.long (nL b)), none, some (.int (nI i)), none, none] [] h = some (.inl (some (.long (nL (fr_g f a b)))), h) := by
    intro f
    induction f with
    | zero =>
      intro i a b hi ha hb
      rw [e59_9, if_pos (nI_le (show 100 ≤ i by omega) (by omega))]
      rfl
    | succ f ih =>
      intro i a b hi ha hb
      rw [e59_9, if_neg (nI_ge (show i < 100 by omega) (by omega)), fr_g]
      by_cases c : b = 0
      · rw [if_pos ((nL_cmp hb).mpr c), if_pos c]
      · rw [if_neg (fun e => c ((nL_cmp hb).mp e)), if_neg (fun e => c ((nL_0 hb).mp e)), if_neg c, nL_rem ha hb, pz_succ]
        have hl : a % b < b := Nat.mod_lt _ (by omega)
        exact ih (i + 1) b (a % b) (by omega) hb (by omega)
  exact key 100 0 a b rfl ha hb
theorem s35_46 {t n m w : Nat} (hn : 1 ≤ n ∧ n < 10) (ht : t < 11) (hm : m < 10) (hw : w < 2) : am_vn am_M 1 35 46 [none, some (.int (nI t)), some (.int (nI n)), none, some (.int (nI w)), some (.long (Int64.ofNat 0)), none, some (.int (nI m)), none, none, none] [] h = some (.inl (some (.int (nI ((if w = 0 then fr_s n t m (n + 1 - m) else 10 ^ n) / Nat.gcd (10 ^ n) (fr_s n t m (n + 1 - m)))))), h) := by
  obtain ⟨g, e, hp⟩ := am_for0 (fun i (g : am_H) => am_vn am_M 1 35 46 [none, some (.int (nI t)), some (.int (nI n)), none, some (.int (nI w)), some (.long (nL (fr_s n t m i))), none, some (.int (nI (m + i))), none, none, none] [] g) (fun _ g => g = h) (n + 1 - m) h rfl (fun i g hi hg => by
    subst hg
    refine ⟨g, ?_, rfl⟩
    rw [e35_46, if_neg (nI_nlt (show m + i ≤ n by omega) (by omega)), s57 (by omega) (by omega), am_bL_ok, nL_of _ (by omega), s58 (by omega), am_bL_ok, pk_sub (show t ≤ 10 by omega), nL_of _ (by omega), pk_sub (show m + i ≤ n by omega), s58 (by omega), am_bL_ok, nL_mul, nL_mul, nL_add, pz_succ]
    rfl)
  subst hp
  refine Eq.trans e ?_
  have hU := fr_s_le n (by omega) t ht m hm
  have hG := fr_gg n (by omega) t ht m hm
  have hT := fr_p10 n (by omega)
  have hg0 : 0 < Nat.gcd (10 ^ n) (fr_s n t m (n + 1 - m)) := Nat.gcd_pos_of_pos_left _ hT.2
  have hgl : Nat.gcd (10 ^ n) (fr_s n t m (n + 1 - m)) ≤ 10 ^ n := Nat.gcd_le_left _ hT.2
  have hd1 : fr_s n t m (n + 1 - m) / Nat.gcd (10 ^ n) (fr_s n t m (n + 1 - m)) ≤ fr_s n t m (n + 1 - m) := Nat.div_le_self _ _
  have hd2 : 10 ^ n / Nat.gcd (10 ^ n) (fr_s n t m (n + 1 - m)) ≤ 10 ^ n := Nat.div_le_self _ _
  have e10 : (.long (Int64.ofNat 10) : Value) = .long (nL 10) := rfl
  rw [e35_46, if_pos (nI_lt (show n < m + (n + 1 - m) by omega) (by omega)), e10, s58 (by omega), am_bL_ok, s59 (by omega) (by omega), am_bL_ok, hG, if_neg (fun e => by have := (nL_cmp (by omega)).mp e; omega)]
  by_cases c : w = 0
  · rw [if_pos (show nI w = 0 by rw [c]; rfl), if_neg (fun e => by have := (nL_0 (by omega)).mp e; omega), if_pos c, nL_div (by omega) (by omega), nL_to (by omega)]
  · rw [if_neg (nI_ne0 (by omega) (by omega)), if_neg (fun e => by have := (nL_0 (by omega)).mp e; omega), if_neg c, nL_div (by omega) (by omega), nL_to (by omega)]
/-! the model -/
theorem s294_194 {U T w : Nat} (hU : U < 2 ^ 31) (hT : T < 2 ^ 31) (hw : w < 2) : ∀ (f a b : Nat), b < f → 0 < a → a < 2 ^ 31 → b < 2 ^ 31 → am_vn am_M 2 294 194 [none, none, none, none, some (.int (nI w)), some (.int (nI T)), some (.int (nI U)), some (.int (nI a)), some (.int (nI b)), none] [] h = some (.inl (some (.int (nI ((if w = 0 then U else T) / Nat.gcd a b)))), h) := by
  intro f
  induction f with
  | zero => intro a b hb; exact absurd hb (Nat.not_lt_zero _)
  | succ f ih =>
    intro a b hb ha0 ha hb2
    rw [e294_194]
    by_cases c : b = 0
    · rw [if_pos (show nI b = 0 by rw [c]; rfl), c, Nat.gcd_zero_right]
      by_cases cw : w = 0
      · rw [if_pos (show nI w = 0 by rw [cw]; rfl), if_neg (nI_ne0 ha0 ha), if_pos cw, pk_div hU ha0 ha]
      · rw [if_neg (nI_ne0 (by omega) (by omega)), if_neg (nI_ne0 ha0 ha), if_neg cw, pk_div hT ha0 ha]
    · have hl : a % b < b := Nat.mod_lt _ (by omega)
      have e : Nat.gcd a b = Nat.gcd b (a % b) := by rw [Nat.gcd_comm a b, Nat.gcd_rec b a, Nat.gcd_comm]
      rw [if_neg (nI_ne0 (by omega) hb2), if_neg (nI_ne0 (by omega) hb2), pk_rem ha (by omega) hb2, e]
      exact ih b (a % b) (by omega) (by omega) hb2 (by omega)
theorem s294_103 {t n U T k w : Nat} (hn : 1 ≤ n ∧ n < 10) (ht : t < 11) (hk : k ≤ n) : am_vn am_M 2 294 103 [none, some (.int (nI t)), some (.int (nI n)), none, some (.int (nI w)), some (.int (nI T)), some (.int (nI U)), some (.int (nI k)), some (.int (nI 1)), some (.int (nI 0))] [] h = am_vn am_M 2 294 91 [none, some (.int (nI t)), some (.int (nI n)), none, some (.int (nI w)), some (.int (nI T)), some (.int (nI (U + fr_t n t k))), some (.int (nI (k + 1))), none, none] [] h := by
  obtain ⟨g, e, hp⟩ := am_for0 (fun i (g : am_H) => am_vn am_M 2 294 103 [none, some (.int (nI t)), some (.int (nI n)), none, some (.int (nI w)), some (.int (nI T)), some (.int (nI U)), some (.int (nI k)), some (.int (nI (fr_c n i))), some (.int (nI i))] [] g) (fun _ g => g = h) k h rfl (fun i g hi hg => by
    subst hg
    have hc := fr_c_le n (by omega) i (by omega)
    have h2 : fr_c n i * (n - i) ≤ 1000 * 10 := Nat.mul_le_mul hc (by omega)
    refine ⟨g, ?_, rfl⟩
    rw [e294_103, if_neg (nI_ge hi (by omega)), pz_succ, if_neg (nI_ne0 (by omega) (by omega)), pk_sub (show i ≤ n by omega), pk_mul, pk_div (by omega) (by omega) (by omega)]
    rfl)
  subst hp
  refine Eq.trans e ?_
  rw [e294_103, if_pos (nI_le (Nat.le_refl _) (by omega))]
  obtain ⟨g2, e2, hp2⟩ := am_for0 (fun i (g' : am_H) => am_vn am_M 2 294 133 [none, some (.int (nI t)), some (.int (nI n)), none, some (.int (nI w)), some (.int (nI T)), some (.int (nI U)), some (.int (nI k)), some (.int (nI (fr_q t k (fr_c n k) i))), some (.int (nI i))] [] g') (fun _ g' => g' = g) n g rfl (fun i g' hi hg => by
    subst hg
    refine ⟨g', ?_, rfl⟩
    rw [e294_133, if_neg (nI_ge hi (by omega)), fr_q]
    by_cases c : i < k
    · rw [if_neg (nI_ge c (by omega)), if_pos c, pk_mul, pz_succ]
    · rw [if_pos (nI_le (by omega) (by omega)), if_neg c, pk_sub (show t ≤ 10 by omega), pk_mul, pz_succ])
  subst hp2
  refine Eq.trans e2 ?_
  rw [e294_133, if_pos (nI_le (Nat.le_refl _) (by omega)), nI_add, pz_succ, fr_qt n (by omega) t ht k (by omega)]
theorem s294_66 {t n m w : Nat} (hn : 1 ≤ n ∧ n < 10) (ht : t < 11) (hm : m < 10) (hw : w < 2) : am_vn am_M 2 294 66 [none, some (.int (nI t)), some (.int (nI n)), some (.int (nI m)), some (.int (nI w)), some (.int (nI 1)), some (.int (nI 0)), none, none, none] [] h = some (.inl (some (.int (nI ((if w = 0 then fr_s n t m (n + 1 - m) else 10 ^ n) / Nat.gcd (10 ^ n) (fr_s n t m (n + 1 - m)))))), h) := by
  obtain ⟨g, e, hp⟩ := am_for0 (fun i (g : am_H) => am_vn am_M 2 294 66 [none, some (.int (nI t)), some (.int (nI n)), some (.int (nI m)), some (.int (nI w)), some (.int (nI (10 ^ i))), some (.int (nI i)), none, none, none] [] g) (fun _ g => g = h) n h rfl (fun i g hi hg => by
    subst hg
    refine ⟨g, ?_, rfl⟩
    rw [e294_66, if_neg (nI_ge hi (by omega)), pk_mul, pz_succ, Nat.pow_succ])
  subst hp
  refine Eq.trans e ?_
  rw [e294_66, if_pos (nI_le (Nat.le_refl _) (by omega))]
  obtain ⟨g2, e2, hp2⟩ := am_for0 (fun i (g' : am_H) => am_vn am_M 2 294 91 [none, some (.int (nI t)), some (.int (nI n)), none, some (.int (nI w)), some (.int (nI (10 ^ n))), some (.int (nI (fr_s n t m i))), some (.int (nI (m + i))), none, none] [] g') (fun _ g' => g' = g) (n + 1 - m) g rfl (fun i g' hi hg => by
    subst hg
    refine ⟨g', ?_, rfl⟩
    rw [e294_91, if_neg (nI_nlt (show m + i ≤ n by omega) (by omega)), s294_103 hn ht (show m + i ≤ n by omega)]
    rfl)
  subst hp2
  refine Eq.trans e2 ?_
  have hU := fr_s_le n (by omega) t ht m hm
  have hT := fr_p10 n (by omega)
  rw [e294_91, if_pos (nI_lt (show n < m + (n + 1 - m) by omega) (by omega))]
  by_cases c : fr_s n t m (n + 1 - m) = 0
  · rw [if_pos (show nI (fr_s n t m (n + 1 - m)) = 0 by rw [c]; rfl), c, Nat.gcd_zero_right]
    have hww : w = 0 ∨ w = 1 := by omega
    rcases hww with rfl | rfl
    · rw [if_pos rfl, Nat.zero_div]
    · rw [if_neg (by omega), Nat.div_self hT.2]
  · rw [if_neg (nI_ne0 (by omega) (by omega))]
    exact s294_194 (by omega) (by omega) hw _ _ _ (Nat.lt_succ_self _) hT.2 (by omega) (by omega)
end
