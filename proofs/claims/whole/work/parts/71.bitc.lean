/-! INTEGER.BITCOUNT -/
theorem bc_and (a b : Nat) : a &&& b = 256 * ((a / 256) &&& (b / 256)) + ((a % 256) &&& (b % 256)) := by
  have h1 := Nat.div_add_mod (a &&& b) (2 ^ 8)
  have h2 : (a &&& b) / 2 ^ 8 = (a / 2 ^ 8) &&& (b / 2 ^ 8) := by
    rw [← Nat.shiftRight_eq_div_pow, ← Nat.shiftRight_eq_div_pow, ← Nat.shiftRight_eq_div_pow, Nat.shiftRight_and_distrib]
  have h3 : (a &&& b) % 2 ^ 8 = (a % 2 ^ 8) &&& (b % 2 ^ 8) := Nat.and_mod_two_pow
  rw [h2, h3] at h1
  exact h1.symm
def bc_1 (x : Nat) : Nat := x - ((x / 2) &&& 85)
def bc_2 (x : Nat) : Nat := (bc_1 x &&& 51) + ((bc_1 x / 4) &&& 51)
def bc_3 (x : Nat) : Nat := (bc_2 x + bc_2 x / 16) % 16
theorem bc_t1 : ∀ x, x < 256 → ∀ t, t < 2 → (x / 2 + 128 * t) &&& 85 = (x / 2) &&& 85 := by decide +kernel
theorem bc_t1b : ∀ x, x < 256 → ((x / 2) &&& 85) ≤ x ∧ bc_1 x ≤ 170 := by decide +kernel
theorem bc_t2 : ∀ x, x < 256 → ∀ t, t < 4 → (x / 4 + 64 * t) &&& 51 = (x / 4) &&& 51 := by decide +kernel
theorem bc_t2b : ∀ x, x < 256 → bc_2 x ≤ 68 ∧ bc_2 x % 16 ≤ 4 := by decide +kernel
theorem bc_t3 : ∀ x, x < 256 → bc_3 x = pz_cnt (fun i => x.testBit i) 8 := by decide +kernel
/-- masks of three bytes -/
theorem bc_m (m : Nat) (hm : m < 256) {a b c : Nat} (ha : a < 256) (hb : b < 256) (hc : c < 256) : (a + 256 * b + 65536 * c) &&& (m + 256 * m + 65536 * m + 16777216 * m) = (a &&& m) + 256 * (b &&& m) + 65536 * (c &&& m) := by
  rw [bc_and, show (a + 256 * b + 65536 * c) / 256 = b + 256 * c by omega, show (a + 256 * b + 65536 * c) % 256 = a by omega, show (m + 256 * m + 65536 * m + 16777216 * m) / 256 = m + 256 * m + 65536 * m by omega, show (m + 256 * m + 65536 * m + 16777216 * m) % 256 = m by omega,
    bc_and (b + 256 * c), show (b + 256 * c) / 256 = c by omega, show (b + 256 * c) % 256 = b by omega, show (m + 256 * m + 65536 * m) / 256 = m + 256 * m by omega, show (m + 256 * m + 65536 * m) % 256 = m by omega,
    bc_and c, show c / 256 = 0 by omega, show c % 256 = c by omega, show (m + 256 * m) % 256 = m by omega, Nat.zero_and]
  omega
theorem bc_u (n k : Nat) (hk : k < 32) (hn : n < 2 ^ 32) : ((nI n).toUInt32 >>> ((nI k).toUInt32 &&& Int32.toUInt32 31)).toInt32 = nI (n / 2 ^ k) := pk_ushrN hn _ k (pz_um k hk)
theorem pz_cnt_cong {f g : Nat → Bool} : ∀ {n : Nat}, (∀ k, k < n → f k = g k) → pz_cnt f n = pz_cnt g n
  | 0, _ => rfl
  | n + 1, h => by rw [pz_cnt, pz_cnt, pz_cnt_cong (fun k hk => h k (by omega)), h n (by omega)]
theorem pz_cnt_add (f : Nat → Bool) (m : Nat) : ∀ n, pz_cnt f (m + n) = pz_cnt f m + pz_cnt (fun k => f (m + k)) n
  | 0 => rfl
  | n + 1 => by
    rw [← Nat.add_assoc, pz_cnt, pz_cnt_add f m n, pz_cnt, Nat.add_assoc]
theorem bc_byte (n j : Nat) : pz_cnt (fun k => n.testBit (8 * j + k)) 8 = bc_3 (n / 2 ^ (8 * j) % 256) := by
  rw [bc_t3 _ (Nat.mod_lt _ (by omega))]
  refine pz_cnt_cong fun k hk => ?_
  rw [show 256 = 2 ^ 8 from rfl, Nat.testBit_mod_two_pow, decide_eq_true hk, Bool.true_and, Nat.testBit_div_two_pow, Nat.add_comm]
theorem s338 {n : Nat} {h : am_H} (hn : n < 2 ^ 24) : am_run am_M 338 [.int (nI n)] h = some (.inl (some (.int (nI (pz_cnt (fun i => n.testBit i) 24)))), h) := by
  obtain ⟨a, b, c, ha, hb, hc, rfl⟩ : ∃ a b c, a < 256 ∧ b < 256 ∧ c < 256 ∧ n = a + 256 * b + 65536 * c := ⟨n % 256, n / 256 % 256, n / 65536, by omega, by omega, by omega, by omega⟩
  have hr : pz_cnt (fun i => (a + 256 * b + 65536 * c).testBit i) 24 = bc_3 a + bc_3 b + bc_3 c := by
    rw [show 24 = 8 + 8 + 8 from rfl, pz_cnt_add, pz_cnt_add]
    have e0 := bc_byte (a + 256 * b + 65536 * c) 0
    have e1 := bc_byte (a + 256 * b + 65536 * c) 1
    have e2 := bc_byte (a + 256 * b + 65536 * c) 2
    simp only [Nat.mul_zero, Nat.zero_add, Nat.mul_one, Nat.reduceMul, Nat.reducePow, Nat.pow_zero, Nat.div_one] at e0 e1 e2
    rw [show (a + 256 * b + 65536 * c) % 256 = a by omega] at e0
    rw [show (a + 256 * b + 65536 * c) / 256 % 256 = b by omega] at e1
    rw [show (a + 256 * b + 65536 * c) / 65536 % 256 = c by omega] at e2
    rw [e0, e1, e2]
  rw [hr, e338]
  have A1 := bc_t1b a ha
  have B1 := bc_t1b b hb
  have C1 := bc_t1b c hc
  have A2 := bc_t2b a ha
  have B2 := bc_t2b b hb
  have C2 := bc_t2b c hc
  have v1 : nI (a + 256 * b + 65536 * c) - (((nI (a + 256 * b + 65536 * c)).toUInt32 >>> ((nI 1).toUInt32 &&& Int32.toUInt32 31)).toInt32 &&& nI 1431655765) = nI (bc_1 a + 256 * bc_1 b + 65536 * bc_1 c) := by
    rw [bc_u _ _ (by omega) (by omega), pz_and, show (a + 256 * b + 65536 * c) / 2 ^ 1 = (a / 2 + 128 * (b % 2)) + 256 * (b / 2 + 128 * (c % 2)) + 65536 * (c / 2 + 128 * 0) by omega, show 1431655765 = 85 + 256 * 85 + 65536 * 85 + 16777216 * 85 by omega, bc_m 85 (by omega) (by omega) (by omega) (by omega), bc_t1 a ha _ (by omega), bc_t1 b hb _ (by omega), bc_t1 c hc _ (by omega), pk_sub (by omega)]
    unfold bc_1
    congr 1
    omega
  rw [v1]
  have v2 : (nI (bc_1 a + 256 * bc_1 b + 65536 * bc_1 c) &&& nI 858993459) + (((nI (bc_1 a + 256 * bc_1 b + 65536 * bc_1 c)).toUInt32 >>> ((nI 2).toUInt32 &&& Int32.toUInt32 31)).toInt32 &&& nI 858993459) = nI (bc_2 a + 256 * bc_2 b + 65536 * bc_2 c) := by
    rw [bc_u _ _ (by omega) (by omega), pz_and, pz_and, show (bc_1 a + 256 * bc_1 b + 65536 * bc_1 c) / 2 ^ 2 = (bc_1 a / 4 + 64 * (bc_1 b % 4)) + 256 * (bc_1 b / 4 + 64 * (bc_1 c % 4)) + 65536 * (bc_1 c / 4 + 64 * 0) by omega, show 858993459 = 51 + 256 * 51 + 65536 * 51 + 16777216 * 51 by omega, bc_m 51 (by omega) (by omega) (by omega) (by omega), bc_m 51 (by omega) (by omega) (by omega) (by omega), bc_t2 _ (by omega) _ (by omega), bc_t2 _ (by omega) _ (by omega), bc_t2 _ (by omega) _ (by omega), nI_add]
    unfold bc_2
    congr 1
    omega
  rw [v2]
  have v3 : (nI (bc_2 a + 256 * bc_2 b + 65536 * bc_2 c) + ((nI (bc_2 a + 256 * bc_2 b + 65536 * bc_2 c)).toUInt32 >>> ((nI 4).toUInt32 &&& Int32.toUInt32 31)).toInt32) &&& nI 252645135 = nI (bc_3 a + 256 * bc_3 b + 65536 * bc_3 c) := by
    rw [bc_u _ _ (by omega) (by omega), nI_add, pz_and, show (bc_2 a + 256 * bc_2 b + 65536 * bc_2 c) + (bc_2 a + 256 * bc_2 b + 65536 * bc_2 c) / 2 ^ 4 = (bc_2 a + bc_2 a / 16 + 16 * (bc_2 b % 16)) + 256 * (bc_2 b + bc_2 b / 16 + 16 * (bc_2 c % 16)) + 65536 * (bc_2 c + bc_2 c / 16) by omega, show 252645135 = 15 + 256 * 15 + 65536 * 15 + 16777216 * 15 by omega, bc_m 15 (by omega) (by omega) (by omega) (by omega)]
    have m15 : ∀ x, x &&& 15 = x % 16 := fun x => Nat.and_two_pow_sub_one_eq_mod x 4
    rw [m15, m15, m15]
    unfold bc_3
    congr 1
    omega
  rw [v3]
  have A3 : bc_3 a ≤ 15 := by unfold bc_3; omega
  have B3 : bc_3 b ≤ 15 := by unfold bc_3; omega
  have C3 : bc_3 c ≤ 15 := by unfold bc_3; omega
  rw [bc_u _ _ (by omega) (by omega), nI_add, show bc_3 a + 256 * bc_3 b + 65536 * bc_3 c + (bc_3 a + 256 * bc_3 b + 65536 * bc_3 c) / 2 ^ 8 = bc_3 a + bc_3 b + 256 * (bc_3 b + bc_3 c) + 65536 * bc_3 c by omega, bc_u _ _ (by omega) (by omega), nI_add, show bc_3 a + bc_3 b + 256 * (bc_3 b + bc_3 c) + 65536 * bc_3 c + (bc_3 a + bc_3 b + 256 * (bc_3 b + bc_3 c) + 65536 * bc_3 c) / 2 ^ 16 = bc_3 a + bc_3 b + bc_3 c + 256 * (bc_3 b + bc_3 c) + 65536 * bc_3 c by omega, pz_and, show (63 : Nat) = 2 ^ 6 - 1 from rfl, Nat.and_two_pow_sub_one_eq_mod, show (bc_3 a + bc_3 b + bc_3 c + 256 * (bc_3 b + bc_3 c) + 65536 * bc_3 c) % 2 ^ 6 = bc_3 a + bc_3 b + bc_3 c by omega]
/-- the model's own count: nine bits -/
theorem s184 {n : Nat} {h : am_H} (hn : n < 2 ^ 31) : am_run am_M 184 [.int (nI n)] h = some (.inl (some (.int (nI (pz_cnt (fun i => n.testBit i) 9)))), h) := by
  rw [e184]
  obtain ⟨g, e, hp⟩ := am_for0 (fun k (g : am_H) => am_vn am_M 0 184 4 [some (.int (nI n)), some (.int (nI (pz_cnt (fun i => n.testBit i) k))), some (.int (nI k))] [] g) (fun _ g => g = h) 9 h rfl (fun k g hk hg => by
    subst hg
    refine ⟨g, ?_, rfl⟩
    rw [e184_4, if_neg (nI_ge hk (by omega)), pz_bit (by omega) hn, pz_cnt, pz_succ k, nI_add])
  subst hp
  refine e.trans ?_
  rw [e184_4, if_pos (by decide)]
theorem pz_cnt_zero {f : Nat → Bool} : ∀ {n : Nat}, (∀ k, k < n → f k = false) → pz_cnt f n = 0
  | 0, _ => rfl
  | n + 1, h => by rw [pz_cnt, pz_cnt_zero (fun k hk => h k (by omega)), h n (by omega)]; rfl
/-- counting the bits of a set gathered -/
theorem pz_cnt_pb (f : Nat → Bool) {n m : Nat} (h : n ≤ m) : pz_cnt (fun i => (pb f n).testBit i) m = pz_cnt f n := by
  obtain ⟨k, rfl⟩ := Nat.exists_eq_add_of_le h
  rw [pz_cnt_add, pz_cnt_zero (f := fun k => (pb f n).testBit (n + k)) (fun k _ => by rw [pb_bit, decide_eq_false (by omega)]; rfl), Nat.add_zero]
  exact pz_cnt_cong fun i hi => by rw [pb_bit, decide_eq_true hi, Bool.true_and]
