/-! ACTS: kept and taken back, on both sides -/
def pw_keep (S : Nat → Nat) (l : List (Nat → Nat)) : List (Nat → Nat) := (S :: l).take 40
theorem pw_keep_ok {d : pw_L} {S : Nat → Nat} {l : List (Nat → Nat)} (hS : pw_SL d S) (h : pw_aok d l) : pw_aok d (pw_keep S l) := by
  refine ⟨?_, fun T hT => ?_⟩
  · unfold pw_keep
    rw [List.length_take]
    exact Nat.min_le_left _ _
  · have := List.mem_of_mem_take hT
    rcases List.mem_cons.mp this with rfl | h1
    · exact hS
    · exact h.2 T h1
theorem pw_keep_len {S : Nat → Nat} {l : List (Nat → Nat)} (h : l.length ≤ 40) : (pw_keep S l).length = min 40 (l.length + 1) := by
  unfold pw_keep
  rw [List.length_take, List.length_cons]
theorem pw_keep_get {S : Nat → Nat} {l : List (Nat → Nat)} {j : Nat} (hj : j < 40) : (pw_keep S l).getD j (fun _ => 0) = (S :: l).getD j (fun _ => 0) := by
  unfold pw_keep
  rw [List.getD_eq_getElem?_getD, List.getD_eq_getElem?_getD, List.getElem?_take, if_pos hj]
section
variable {h : am_H} {S : Nat → Nat} {l : List (Nat → Nat)} {A s : Nat}
theorem s72 (hA : pc_ao A) (hs : pc_so s) (ha : pc_A h A l) (hS : pc_S h (s + 1) S) (hl : l.length ≤ 40) :
    am_RV (am_run am_M 72 [.ref A, .ref s] h) (fun g => pc_A g A (pw_keep S l) ∧ am_kp (fun i _ => decide (i = A ∨ i = A + 1)) h g) := by
  obtain ⟨x, hx, a1, a2, a3⟩ := ha
  have hsA : s + 1 ≠ A + 1 ∧ s + 1 ≠ A ∧ A < 98 := by unfold pc_so at hs; unfold pc_ao at hA; omega
  have hslt := pc_slt hs
  rw [e72, pc_sch hs, pc_sg0 hs, pc_ach hA, pc_ag0 hA, pc_ach hA, a1, pk_mul, copyRow_ok (pc_s1 hs) hslt (by omega) (pc_a1 hA) (by omega) (by omega) hsA.1 (show 0 + 49 ≤ 49 by omega) (show x * 49 + 49 ≤ 1960 by omega), am_bV_ok, pc_ach hA]
  have kp1 : am_kp (fun i _ => decide (i = A ∨ i = A + 1)) h (pz_wr h (A + 1) fun j => if x * 49 ≤ j ∧ j < x * 49 + 49 then am_I h (s + 1) (0 + (j - x * 49)) else am_I h (A + 1) j) := (am_kp.refl _ _).wr _ (fun k => by simp)
  have eA : am_I (pz_wr h (A + 1) fun j => if x * 49 ≤ j ∧ j < x * 49 + 49 then am_I h (s + 1) (0 + (j - x * 49)) else am_I h (A + 1) j) A = am_I h A := am_I_w1 _ _ _ (by omega)
  have eB : am_I (pz_wr h (A + 1) fun j => if x * 49 ≤ j ∧ j < x * 49 + 49 then am_I h (s + 1) (0 + (j - x * 49)) else am_I h (A + 1) j) (A + 1) = _ := am_I_w _ _ _
  generalize (pz_wr h (A + 1) fun j => if x * 49 ≤ j ∧ j < x * 49 + 49 then am_I h (s + 1) (0 + (j - x * 49)) else am_I h (A + 1) j) = g at *
  rw [eA, a1, pz_succ]
  have fin : ∀ y, y = (x + 1) % 40 → am_RV (am_vn am_M 2 72 43 [some (.ref A), none] [(.int (nI y)), (.ref A)] g) (fun g => pc_A g A (pw_keep S l) ∧ am_kp (fun i _ => decide (i = A ∨ i = A + 1)) h g) := by
    intro y hy
    rw [e72_43, pc_ach hA]
    dsimp only
    rw [pc_ach hA, pc_ach hA, am_I_s2 _ _ _ _ (by omega), eA, a2, pz_succ, pz_min (a := 40) (by omega) (by omega)]
    refine ⟨_, rfl, ⟨y, by omega, ?_, ?_, fun j hj i hi => ?_⟩, (kp1.sI _ (by simp)).sI _ (by simp)⟩
    · rw [am_I_s2 _ _ _ _ (by omega), am_I_s]
    · rw [am_I_s, pw_keep_len hl]
    · rw [pw_keep_len hl] at hj
      rw [am_I_s1 _ _ _ _ (by omega), am_I_s1 _ _ _ _ (by omega), eB, pw_keep_get (by omega)]
      match j, hj with
      | 0, _ =>
        have e0 : (y + 39 - 0) % 40 = x := by omega
        rw [e0]
        show (if _ then _ else _) = _
        rw [if_pos (by omega), show 0 + (x * 49 + i - x * 49) = i by omega]
        exact hS i hi
      | j + 1, hj =>
        have e1 : (y + 39 - (j + 1)) % 40 = (x + 39 - j) % 40 := by omega
        have hne : (x + 39 - j) % 40 ≠ x := by omega
        have hlt : (x + 39 - j) % 40 < 40 := Nat.mod_lt _ (by omega)
        have e2 := a3 j (by omega) i hi
        generalize (x + 39 - j) % 40 = z at *
        rw [e1]
        show (if _ then _ else _) = _
        rw [if_neg (by omega)]
        exact e2
  by_cases c : 40 ≤ x + 1
  · rw [if_pos (nI_le c (by omega))]
    exact fin 0 (by omega)
  · rw [if_neg (nI_ge (by omega) (by omega)), pc_ach hA]
    exact fin (x + 1) (by omega)
theorem s73 {T : Nat → Nat} (hA : pc_ao A) (hs : pc_so s) (ha : pc_A h A (T :: l)) (hl : l.length < 40) :
    am_RV (am_run am_M 73 [.ref A, .ref s] h) (fun g => pc_A g A l ∧ pc_S g (s + 1) T ∧ am_kp (fun i k => decide (i = A ∧ (k = 1 ∨ k = 2) ∨ i = s + 1)) h g) := by
  obtain ⟨x, hx, a1, a2, a3⟩ := ha
  have hsA : s + 1 ≠ A + 1 ∧ s + 1 ≠ A ∧ A < 98 := by unfold pc_so at hs; unfold pc_ao at hA; omega
  have hslt := pc_slt hs
  have fin : ∀ y, y = (x + 39) % 40 → am_RV (am_vn am_M 2 73 19 [some (.ref A), some (.ref s)] [(.int (nI y)), (.ref A)] h) (fun g => pc_A g A l ∧ pc_S g (s + 1) T ∧ am_kp (fun i k => decide (i = A ∧ (k = 1 ∨ k = 2) ∨ i = s + 1)) h g) := by
    intro y hy
    have hk : (if nI 0 < am_I (am_sI h A 1 (nI y)) A 2 - nI 1 then am_I (am_sI h A 1 (nI y)) A 2 - nI 1 else nI 0) = nI l.length := by
      rw [am_I_s2 _ _ _ _ (by omega), a2, List.length_cons, pk_sub (by omega), Nat.add_sub_cancel, pz_max (a := 0) (by omega) (by omega), Nat.max_eq_right (Nat.zero_le _)]
    rw [e73_19, pc_ach hA]
    dsimp only
    rw [pc_ach hA, pc_ach hA, hk, pc_ach hA, pc_ag0 hA, pc_ach hA, pc_sch hs, pc_sg0 hs, am_I_s2 _ _ _ _ (by omega), am_I_s, pk_mul, copyRow_ok (pc_a1 hA) (by omega) (by omega) (pc_s1 hs) hslt (by omega) (fun e => hsA.1 e.symm) (show y * 49 + 49 ≤ 1960 by omega) (show 0 + 49 ≤ 49 by omega), am_bV_ok]
    refine ⟨_, rfl, ⟨y, by omega, ?_, ?_, fun j hj i hi => ?_⟩, fun i hi => ?_, ((((am_kp.refl _ h).sI _ (by simp)).sI _ (by simp)).wr _ (fun k => by simp))⟩
    · rw [am_I_w1 _ _ _ (by omega), am_I_s2 _ _ _ _ (by omega), am_I_s]
    · rw [am_I_w1 _ _ _ (by omega), am_I_s]
    · rw [am_I_w1 _ _ _ (by omega), am_I_s1 _ _ _ _ (by omega), am_I_s1 _ _ _ _ (by omega)]
      have := a3 (j + 1) (by rw [List.length_cons]; omega) i hi
      rw [show (y + 39 - j) % 40 = (x + 39 - (j + 1)) % 40 by omega]
      exact this
    · rw [am_I_w, if_pos (by omega), am_I_s1 _ _ _ _ (by omega), am_I_s1 _ _ _ _ (by omega), show y * 49 + (i - 0) = (x + 39 - 0) % 40 * 49 + i by omega]
      exact a3 0 (by rw [List.length_cons]; omega) i hi
  rw [e73, pc_ach hA, a1]
  by_cases c : x = 0
  · rw [c, if_pos (by decide)]
    exact fin 39 (by omega)
  · rw [if_neg (nI_nle (by omega) (by omega)), pc_ach hA, pk_sub (by omega)]
    exact fin (x - 1) (by omega)
end
/-! the model's -/
theorem pm_S.mv {h g : am_H} {r r' o o' : Nat} {S : Nat → Nat} (a : pm_S h r o S) (e : ∀ i, i < 40 → am_I g r' (o' + i) = am_I h r (o + i)) : pm_S g r' o' S := by
  obtain ⟨a1, a2, a3, a4⟩ := a
  exact ⟨fun i hi => (e i (by omega)).trans (a1 i hi), fun p hp => (e _ (by omega)).trans (a2 p hp), (e _ (by omega)).trans a3, fun k hk => ⟨(e _ (by omega)).trans (a4 k hk).1, (e _ (by omega)).trans (a4 k hk).2⟩⟩
section
variable {h : am_H} {S : Nat → Nat} {l : List (Nat → Nat)}
/-- the state is laid at place n, n counted up -/
theorem s221_52 {n : Nat} (hn : n < 40) (hS : pm_S h 85 0 S) (h58 : am_I h 60 58 = nI n) :
    am_RV (am_vn am_M 0 221 52 [some (.ref 60), some (.int (nI 0))] [] h) (fun g => pm_S g 87 (n * 40) S ∧ am_I g 60 58 = nI (n + 1) ∧ (∀ j, j < n * 40 → am_I g 87 j = am_I h 87 j) ∧ am_kp (fun i k => decide (i = 60 ∧ k = 58 ∨ i = 87)) h g) := by
  obtain ⟨g, e, hp⟩ := am_for0 (fun k (g : am_H) => am_vn am_M 0 221 52 [some (.ref 60), some (.int (nI k))] [] g) (fun k g => g = pz_wr h 87 (fun j => if n * 40 ≤ j ∧ j < n * 40 + k then am_I h 85 (j - n * 40) else am_I h 87 j)) 40 h (by
    have : (fun j => if n * 40 ≤ j ∧ j < n * 40 + 0 then am_I h 85 (j - n * 40) else am_I h 87 j) = am_I h 87 := by
      funext j
      rw [if_neg (by omega)]
    rw [this]
    exact (pz_wr_id h 87).symm) (fun k g hk hg => by
    refine ⟨_, ?_, rfl⟩
    rw [e221_52, if_neg (nI_ge hk (by omega)), hg, ml_85 hk, am_I_w1 _ _ _ (show 60 ≠ 87 by omega), h58, pk_mul, nI_add, ms_87 (show 40 * n + k < 1600 by omega), pz_succ, pz_sI_wr, am_I_w1 _ _ _ (show 85 ≠ 87 by omega)]
    congr 2
    funext j
    by_cases hj : j = 40 * n + k
    · rw [if_pos hj, if_pos (by omega), show j - n * 40 = k by omega]
    · rw [if_neg hj]
      by_cases hj2 : n * 40 ≤ j ∧ j < n * 40 + k
      · rw [if_pos hj2, if_pos (by omega)]
      · rw [if_neg hj2, if_neg (by omega)])
  subst hp
  refine Eq.mpr (congrArg (fun o => am_RV o _) e) ?_
  rw [e221_52, if_pos (by decide), am_I_w1 _ _ _ (show 60 ≠ 87 by omega), h58, pz_succ]
  refine ⟨_, rfl, hS.mv fun i hi => ?_, am_I_s _ _ _ _, fun j hj => ?_, ((am_kp.refl _ h).wr _ (fun k => by simp)).sI _ (by simp)⟩
  · rw [am_I_s1 _ _ _ _ (by omega), am_I_w, if_pos (by omega), show n * 40 + i - n * 40 = 0 + i by omega]
  · rw [am_I_s1 _ _ _ _ (by omega), am_I_w, if_neg (by omega)]
theorem s221 (ha : pm_A h 58 87 l) (hS : pm_S h 85 0 S) (hl : l.length ≤ 40) :
    am_RV (am_run am_M 221 [.ref 60] h) (fun g => pm_A g 58 87 (pw_keep S l) ∧ am_kp (fun i k => decide (i = 60 ∧ k = 58 ∨ i = 87)) h g) := by
  obtain ⟨a1, a2⟩ := ha
  rw [e221, a1]
  by_cases c : l.length = 40
  · rw [if_pos (by rw [c])]
    have hst : ∀ (k : Nat) (g : am_H), k < 1600 → (40 ≤ k ∧ g = pz_wr h 87 (fun j => if j + 40 < k then am_I h 87 (j + 40) else am_I h 87 j)) → ∃ g', am_vn am_M 0 221 12 [some (.ref 60), some (.int (nI k))] [] g = am_vn am_M 0 221 12 [some (.ref 60), some (.int (nI (k + 1)))] [] g' ∧ 40 ≤ k + 1 ∧ g' = pz_wr h 87 (fun j => if j + 40 < k + 1 then am_I h 87 (j + 40) else am_I h 87 j) := by
      intro k g hk hg
      obtain ⟨hk40, hg⟩ := hg
      refine ⟨_, ?_, by omega, rfl⟩
      rw [e221_12, if_neg (nI_ge hk (by omega)), hg, ml_87 hk, am_I_w, if_neg (by omega), pk_sub hk40, ms_87 (show k - 40 < 1600 by omega), pz_succ, pz_sI_wr]
      congr 2
      funext j
      by_cases hj : j = k - 40
      · rw [if_pos hj, if_pos (by omega), show j + 40 = k by omega]
      · rw [if_neg hj]
        by_cases hj2 : j + 40 < k
        · rw [if_pos hj2, if_pos (by omega)]
        · rw [if_neg hj2, if_neg (by omega)]
    obtain ⟨g, e, hp40, hp⟩ := am_for (fun k (g : am_H) => am_vn am_M 0 221 12 [some (.ref 60), some (.int (nI k))] [] g) (fun k g => 40 ≤ k ∧ g = pz_wr h 87 (fun j => if j + 40 < k then am_I h 87 (j + 40) else am_I h 87 j)) 1600 hst 1560 40 h (by omega) ⟨Nat.le_refl _, by
      have : (fun j => if j + 40 < 40 then am_I h 87 (j + 40) else am_I h 87 j) = am_I h 87 := by
        funext j
        rw [if_neg (by omega)]
      rw [this]
      exact (pz_wr_id h 87).symm⟩
    subst hp
    refine Eq.mpr (congrArg (fun o => am_RV o _) e) ?_
    rw [e221_12, if_pos (by decide), am_I_w1 _ _ _ (show 60 ≠ 87 by omega), a1, c, pk_sub (by omega)]
    dsimp only
    have kp1 : am_kp (fun i k => decide (i = 60 ∧ k = 58 ∨ i = 87)) h (am_sI (pz_wr h 87 fun j => if j + 40 < 1600 then am_I h 87 (j + 40) else am_I h 87 j) 60 58 (nI (40 - 1))) := ((am_kp.refl _ h).wr _ (fun k => by simp)).sI _ (by simp)
    obtain ⟨g2, e2, z1, z2, z3, z4⟩ := s221_52 (n := 39) (h := am_sI (pz_wr h 87 fun j => if j + 40 < 1600 then am_I h 87 (j + 40) else am_I h 87 j) 60 58 (nI (40 - 1))) (by omega) (hS.kp kp1 (fun k => by simp)) (am_I_s _ _ _ _)
    refine ⟨g2, e2, ⟨?_, fun j hj => ?_⟩, kp1.trans z4⟩
    · rw [z2, pw_keep_len hl, c]; rfl
    · rw [pw_keep_len hl, c] at hj ⊢
      rw [pw_keep_get (by omega)]
      match j, hj with
      | 0, _ => exact z1
      | j + 1, hj =>
        refine (a2 j (by omega)).mv fun i hi => ?_
        rw [z3 _ (by omega), am_I_s1 _ _ _ _ (by omega), am_I_w]
        show (if _ then _ else _) = _
        rw [if_pos (by omega), c]
        congr 1
        omega
  · rw [if_neg (fun e => c ((nI_eq (by omega) (by omega)).mp e))]
    obtain ⟨g2, e2, z1, z2, z3, z4⟩ := s221_52 (n := l.length) (h := h) (by omega) hS a1
    refine ⟨g2, e2, ⟨?_, fun j hj => ?_⟩, z4⟩
    · rw [z2, pw_keep_len hl, Nat.min_eq_right (by omega)]
    · rw [pw_keep_len hl, Nat.min_eq_right (by omega)] at hj ⊢
      rw [pw_keep_get (by omega)]
      match j, hj with
      | 0, _ =>
        rw [show l.length + 1 - 1 - 0 = l.length by omega]
        exact z1
      | j + 1, hj =>
        refine (a2 j (by omega)).mv fun i hi => ?_
        rw [z3 _ (by omega)]
        congr 1
        omega
end
