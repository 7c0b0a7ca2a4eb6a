/-! THE CLASS'S SEASON: days -/
/-- the snow of the day of a state -/
def py_n (d : pw_L) (u q : Nat) (S : Nat → Nat) : Nat → Nat := py_S d (pw_sn d (S 0)) u q S
/-- the state behind so many days -/
def py_days (d : pw_L) (u q : Nat) (S : Nat → Nat) : Nat → Nat → Nat
  | 0 => S
  | n + 1 => py_n d u q (py_days d u q S n)
def py_tn (d : pw_L) (u q : Nat) (S : Nat → Nat) (n : Nat) : Nat := py_thin d (pw_sn d (py_days d u q S n 0)) u q (py_days d u q S n)
def py_cd (d : pw_L) (u q : Nat) (S : Nat → Nat) (n : Nat) : Nat := py_cold d (pw_sn d (py_days d u q S n 0)) u q (py_days d u q S n)
def py_gv (d : pw_L) (u q : Nat) (S : Nat → Nat) (n : Nat) : Nat := py_gave d (pw_sn d (py_days d u q S n 0)) u q (py_days d u q S n)
/-- thin ever, given in all -/
def py_et (d : pw_L) (u q : Nat) (S : Nat → Nat) : Nat → Nat
  | 0 => 0
  | n + 1 => py_et d u q S n ||| py_tn d u q S n
def py_ga (d : pw_L) (u q : Nat) (S : Nat → Nat) : Nat → Nat
  | 0 => 0
  | n + 1 => py_ga d u q S n + py_gv d u q S n
theorem py_days_T {d : pw_L} (ho : pw_ok d) (u q : Nat) {S : Nat → Nat} (h : pw_S S) : ∀ n, pw_S (py_days d u q S n) ∧ py_days d u q S n 0 = S 0 + n ∧ (∀ j, 45 ≤ j → py_days d u q S n j = S j) ∧ (∀ j, 25 ≤ j → j < 37 → py_days d u q S n j = S j)
  | 0 => ⟨h, rfl, fun _ _ => rfl, fun _ _ _ => rfl⟩
  | n + 1 => by
    obtain ⟨a1, a2, a3, a4⟩ := py_days_T ho u q h n
    obtain ⟨b1, b2, b3, b4⟩ := py_S_T ho (pw_sn d (py_days d u q S n 0)) u q a1
    exact ⟨b1, by show py_S _ _ _ _ _ 0 = _; rw [b2, a2]; omega, fun j hj => (b3 j hj).trans (a3 j hj), fun j hj hj2 => (b4 j hj hj2).trans (a4 j hj hj2)⟩
/-- bits stay small -/
theorem py_e_lt {n : Nat} (X : Nat → Nat) : (am_it py_e n (X, 0)).2 < 2 ^ n := by
  refine am_it_ind (fun m (Y : (Nat → Nat) × Nat) => Y.2 < 2 ^ m) (fun k a hk ha => ?_) Nat.one_pos
  unfold py_e
  rw [Nat.pow_succ]
  split
  · show a.2 + 2 ^ k < _
    omega
  · show a.2 < _
    omega
theorem py_b_lt {n : Nat} (X : Nat → Nat) : (am_it py_b n (X, 0)).2 < 2 ^ n := by
  refine am_it_ind (fun m (Y : (Nat → Nat) × Nat) => Y.2 < 2 ^ m) (fun k a hk ha => ?_) Nat.one_pos
  unfold py_b
  rw [Nat.pow_succ]
  split
  · show a.2 + 2 ^ k < _
    omega
  · show a.2 < _
    omega
theorem py_thin_lt {d : pw_L} (ho : pw_ok d) (sn u q : Nat) (S : Nat → Nat) : py_thin d sn u q S < 16 := by
  unfold py_thin py_B
  exact Nat.lt_of_lt_of_le (py_e_lt _) (Nat.pow_le_pow_right (by omega) ho.1.1)
theorem py_cold_lt {d : pw_L} (ho : pw_ok d) (sn u q : Nat) (S : Nat → Nat) : py_cold d sn u q S < 64 := by
  unfold py_cold py_C
  split
  · show 0 < 64; omega
  · exact Nat.lt_of_lt_of_le (py_b_lt _) (Nat.pow_le_pow_right (by omega) ho.1.2.2.2.1)
theorem py_et_lt {d : pw_L} (ho : pw_ok d) (u q : Nat) (S : Nat → Nat) : ∀ n, py_et d u q S n < 2 ^ 4
  | 0 => by show 0 < 16; omega
  | n + 1 => Nat.or_lt_two_pow (py_et_lt ho u q S n) (py_thin_lt ho _ _ _ _)
section
variable {L p due sn u q G E s : Nat} {h : am_H} {d : pw_L} {S : Nat → Nat}
theorem s97d (hL : pc_lo L) (hd : pc_L h L d) (ho : pw_ok d) {k : Nat} (hk : k < 2 ^ 31) : am_run am_M 97 [.ref L, .int (nI k)] h = some (.inl (some (.int (nI (pw_sn d k)))), h) := by
  rw [s97 hL (hd.1 4 (by omega)) ho.1.2.2.2.2 hk]
  unfold pw_sn
  by_cases c : pw_n d 4 = 0
  · rw [if_pos c, if_pos c]
  · rw [if_neg c, if_neg c, hd.2.2.2.1 _ (Nat.mod_lt _ (by omega))]
theorem s139 (hL : pc_lo L) (hd : pc_L h L d) (ho : pw_ok d) (hY : pc_Y h S u q G E) (hb : pw_S S) (hE : E < 2 ^ 31) (h0 : S 0 < 10000) :
    am_RV (am_run am_M 139 [.ref 34, .ref L] h) (fun g => pc_Y g (py_n d u q S) u q (G + py_gave d (pw_sn d (S 0)) u q S) (E ||| py_thin d (pw_sn d (S 0)) u q S) ∧ am_I g 34 4 = nI (py_cold d (pw_sn d (S 0)) u q S) ∧ am_I g 34 5 = nI (py_thin d (pw_sn d (S 0)) u q S) ∧ am_kp ps_Y h g) := by
  rw [e139, s149 pc_so35, am_bI_ok, hY.1 0 (by omega), pc_lch hL, s97d hL hd ho (by omega), am_bI_ok]
  refine pz_VV (s142 hL hd ho hY hb hE h0 (by have := pw_sn_le ho (S 0); omega)) fun g hg => ?_
  exact ⟨_, rfl, hg.1, hg.2.1, hg.2.2.1, hg.2.2.2.1⟩
/-- many days: what stays known -/
theorem s138 (hL : pc_lo L) (hd : pc_L h L d) (ho : pw_ok d) (hY : pc_Y h S u q 0 0) (hb : pw_S S) (h0 : S 0 < 5000) {n : Nat} (hn : n ≤ 200) :
    am_RV (am_run am_M 138 [.ref 34, .ref L, .int (nI n)] h) (fun g => pc_Y g (py_days d u q S n) u q (py_ga d u q S n) (py_et d u q S n) ∧ am_kp ps_Y h g) := by
  rw [e138]
  obtain ⟨g, e, hp⟩ := am_for0 (fun k (g : am_H) => am_vn am_M 5 138 2 [some (.ref 34), some (.ref L), some (.int (nI n)), some (.int (nI k))] [] g)
    (fun k g => pc_Y g (py_days d u q S k) u q (py_ga d u q S k) (py_et d u q S k) ∧ am_kp ps_Y h g) n h ⟨hY, am_kp.refl _ _⟩ (fun k g hk hg => by
      obtain ⟨y, kp⟩ := hg
      have hT := py_days_T ho u q hb k
      obtain ⟨g1, e1, z1, z2, z3, z4⟩ := s139 hL (hd.kp kp (ps_YL hL)) ho y hT.1 (by have := py_et_lt ho u q S k; omega) (by omega)
      rw [e138_2, if_neg (nI_ge hk (by omega)), e1, am_bV_ok, pz_succ]
      exact ⟨g1, rfl, z1, kp.trans z4⟩)
  show am_RV (am_vn am_M 5 138 2 [some (.ref 34), some (.ref L), some (.int (nI n)), some (.int (nI 0))] [] h) _
  rw [e, e138_2, if_pos (nI_le (Nat.le_refl _) (by omega))]
  exact ⟨_, rfl, hp⟩
/-- a season begins -/
theorem s137 (hS : pc_S h (s + 1) S) (hs : pc_so s) (hs35 : s ≠ 35) : am_RV (am_run am_M 137 [.ref 34, .ref s] h) (fun g => pc_Y g S 1000 1000 0 0 ∧ am_kp ps_Y h g) := by
  rw [e137, s156 pc_so35 hs hs35, am_bV_ok]
  have hs1 : s + 1 ≠ 34 ∧ s + 1 ≠ 36 := by unfold pc_so at hs; omega
  refine ⟨_, rfl, ⟨((((((?_ : pc_S _ 36 S).oth (by omega) _ _).oth (by omega) _ _).oth (by omega) _ _).oth (by omega) _ _).oth (by omega) _ _).oth (by omega) _ _, ?_, ?_, ?_, ?_⟩, ?_⟩
  · intro i hi
    rw [am_I_w]
    show (if 0 ≤ i ∧ i < 0 + 49 then am_I h (s + 1) (0 + (i - 0)) else _) = _
    rw [if_pos (by omega), show 0 + (i - 0) = i by omega]
    exact hS i hi
  · rw [am_I_s2 _ _ _ _ (by omega), am_I_s2 _ _ _ _ (by omega), am_I_s2 _ _ _ _ (by omega), am_I_s2 _ _ _ _ (by omega), am_I_s2 _ _ _ _ (by omega), am_I_s]; rfl
  · rw [am_I_s2 _ _ _ _ (by omega), am_I_s2 _ _ _ _ (by omega), am_I_s2 _ _ _ _ (by omega), am_I_s2 _ _ _ _ (by omega), am_I_s]; rfl
  · rw [am_I_s]
  · rw [am_I_s2 _ _ _ _ (by omega), am_I_s]
  · exact (((((((am_kp.refl _ _).wr _ (fun k => ps_Y_t (by omega))).sI _ (ps_Y_t (by omega))).sI _ (ps_Y_t (by omega))).sI _ (ps_Y_t (by omega))).sI _ (ps_Y_t (by omega))).sI _ (ps_Y_t (by omega))).sI _ (ps_Y_t (by omega))
/-- somebody owes more -/
def py_owe (S T : Nat → Nat) : Bool := (List.range 6).any fun p => decide (T (13 + p) < S (13 + p))
theorem py_owe_t {S T : Nat → Nat} {p : Nat} (h : p < 6) (c : T (13 + p) < S (13 + p)) : py_owe S T = true := List.any_eq_true.mpr ⟨p, List.mem_range.mpr h, decide_eq_true c⟩
theorem py_owe_f {S T : Nat → Nat} (h : ∀ p, p < 6 → ¬ T (13 + p) < S (13 + p)) : py_owe S T = false := List.any_eq_false.mpr fun p hp => by rw [decide_eq_false (h p (List.mem_range.mp hp))]; decide
theorem s147 {T : Nat → Nat} (hS : pc_S h 36 S) (hs : pc_so s) (hT : pc_S h (s + 1) T) (hb : ∀ p, p < 6 → S (13 + p) ≤ 9999 ∧ T (13 + p) ≤ 9999) : am_run am_M 147 [.ref 34, .ref s] h = some (.inl (some (.int (nI (if py_owe S T then 1 else 0)))), h) := by
  rw [e147]
  refine am_forx0 (fun k (_ : Unit) => am_vn am_M 2 147 2 [some (.ref 34), some (.ref s), some (.int (nI k))] [] h) (fun k _ => ∀ p, p < k → ¬ T (13 + p) < S (13 + p)) (fun o => o = some (.inl (some (.int (nI (if py_owe S T then 1 else 0)))), h)) 6 () (fun p hp => absurd hp (Nat.not_lt_zero p)) (fun _ hP => ?_) (fun k _ hk hP => ?_)
  · rw [e147_2, if_pos (by decide), if_pos (by decide)]
    have : py_owe S T = false := py_owe_f hP
    rw [this]; rfl
  · have b := hb k hk
    rw [e147_2, if_neg (nI_ge hk (by omega)), s151 pc_so35 (show 1 + 2 * 6 + k < 49 by omega), am_bI_ok, show 1 + 2 * 6 + k = 13 + k by omega, hS _ (by omega), pc_sch hs, s151 hs (show 1 + 2 * 6 + k < 49 by omega), am_bI_ok, show 1 + 2 * 6 + k = 13 + k by omega, hT _ (by omega)]
    by_cases c : T (13 + k) < S (13 + k)
    · refine Or.inr ?_
      rw [if_neg (nI_ge c (by omega)), if_pos (by decide)]
      have : py_owe S T = true := py_owe_t hk c
      rw [this]; rfl
    · refine Or.inl ⟨(), ?_, fun p hp => ?_⟩
      · rw [if_pos (nI_le (by omega) (by omega)), pz_succ]
      · by_cases e : p = k
        · subst e; exact c
        · exact hP p (by omega)
/-- draws: the class's and the model's alike -/
def pg_next (x : Int32) : Int32 := x * nI 1103515245 + nI 12345
def pg_bits (x : Int32) : Nat := (x.toBitVec.toNat / 65536) % 32768
theorem pg_c (x : Int32) : ((x.toUInt32 >>> ((nI 16).toUInt32 &&& Int32.toUInt32 31)).toInt32 &&& nI 32767) = nI (pg_bits x) := by
  rw [pk_and _ 15 (by decide)]
  unfold pg_bits
  congr 1
  rw [pk_ushr x (nI 16) 16 (by decide)]
theorem s141 {n : Nat} (h0 : 0 < n) (hn : n < 2 ^ 31) : am_run am_M 141 [.ref 34, .int (nI n)] h = some (.inl (some (.int (nI (pg_bits (pg_next (am_I h 34 3)) % n)))), am_sI h 34 3 (pg_next (am_I h 34 3))) := by
  have hb : pg_bits (pg_next (am_I h 34 3)) < 32768 := Nat.mod_lt _ (by omega)
  rw [e141]
  dsimp only
  rw [if_neg (nI_nle h0 hn), if_neg (nI_ne0 h0 hn), am_I_s, pg_c, pk_rem (by unfold pg_next at hb; omega) h0 hn]
  rfl
end
