section
/-! WINTER: the model takes the land -/
def wg_B (i k : Nat) : Bool := decide (i = 60 ∧ (1 ≤ k ∧ k ≤ 7 ∨ k = 58 ∨ k = 70 ∨ k = 74) ∨ 61 ≤ i ∧ i ≤ 69 ∨ i = 85)
theorem wg_B_t {i k : Nat} (h : i = 60 ∧ (1 ≤ k ∧ k ≤ 7 ∨ k = 58 ∨ k = 70 ∨ k = 74) ∨ 61 ≤ i ∧ i ≤ 69 ∨ i = 85) : wg_B i k = true := decide_eq_true h
theorem wg_B_f {i k : Nat} (h : ¬ (i = 60 ∧ (1 ≤ k ∧ k ≤ 7 ∨ k = 58 ∨ k = 70 ∨ k = 74) ∨ 61 ≤ i ∧ i ≤ 69 ∨ i = 85)) : wg_B i k = false := decide_eq_false h
section
variable {g : am_H} {d : pw_L}
/-- a row is copied -/
theorem s183w {g0 g : am_H} {r q n : Nat} (k0 : am_kp wg_B g0 g) (hr1 : am_ty r = (16, n)) (hr : 72 ≤ r ∧ r ≤ 84) (hq1 : am_ty q = (16, n)) (hq : 61 ≤ q ∧ q ≤ 69) (hn : n < 2 ^ 31) : am_RV (am_run am_M 183 [.ref 60, .ref r, .ref q] g) (fun g' => am_kp wg_B g0 g' ∧ am_kp (fun i _ => decide (i = q)) g g' ∧ ∀ k, k < n → am_I g' q k = am_I g0 r k) :=
  (s183s hr1 (by omega) hq1 (by omega) hn (by omega)).mono fun g' h => ⟨k0.trans (h.2.up fun i k hi => decide_eq_false (fun c => by have := of_decide_eq_false hi; omega)), h.2, fun k hk => (h.1 k hk).trans (k0.get _ _ (wg_B_f (by omega)))⟩
/-- the state's row, by people, by packs -/
def wq_G (d : pw_L) (v j : Nat) : Nat := if 1 ≤ j ∧ j < 1 + v then pw_t d 8 (j - 1) else if 7 ≤ j ∧ j < 7 + v then pw_t d 9 (j - 7) else 0
theorem s219_319 (g : am_H) : ∃ g', am_vn am_M 7 219 319 [some (.ref 60), none, some (.int (nI 0))] [] g = am_vn am_M 7 219 340 [some (.ref 60), none, some (.int (nI 0))] [] g' ∧ am_kp (fun i _ => decide (i = 85)) g g' ∧ ∀ j, j < 40 → am_I g' 85 j = nI 0 := by
  obtain ⟨g2, e, k2, z2⟩ := am_for0 (fun v (g' : am_H) => am_vn am_M 7 219 319 [some (.ref 60), none, some (.int (nI v))] [] g') (fun v g' => am_kp (fun i _ => decide (i = 85)) g g' ∧ ∀ j, j < v → am_I g' 85 j = nI 0) 40 g ⟨am_kp.refl _ _, fun j hj => absurd hj (Nat.not_lt_zero j)⟩ (fun v g' hv hg => by
    rw [e219_319, if_neg (nI_ge hv (by omega)), ms_85 hv, pz_succ]
    refine ⟨_, rfl, hg.1.sI _ (decide_eq_true rfl), fun j hj => ?_⟩
    by_cases c : j = v
    · rw [c, am_I_s]
    · rw [am_I_s2 _ _ _ _ c]; exact hg.2 j (by omega))
  refine ⟨g2, Eq.trans e ?_, k2, z2⟩
  rw [e219_319, if_pos (nI_le (Nat.le_refl _) (by omega))]
theorem s219_340 {n3 : Nat} (h3 : n3 ≤ 6) (c4 : am_I g 60 4 = nI n3) (hz : ∀ j, j < 40 → am_I g 85 j = nI 0) (h79 : ∀ p, p < n3 → am_I g 79 p = nI (pw_t d 8 p) ∧ am_I g 80 p = nI (pw_t d 9 p)) : ∃ g', am_vn am_M 7 219 340 [some (.ref 60), none, some (.int (nI 0))] [] g = am_vn am_M 7 219 385 [some (.ref 60), none, some (.int (nI 0))] [] g' ∧ am_kp (fun i _ => decide (i = 85)) g g' ∧ ∀ j, j < 40 → am_I g' 85 j = nI (wq_G d n3 j) := by
  have e4 : ∀ g', am_kp (fun i _ => decide (i = 85)) g g' → am_I g' 60 4 = nI n3 := fun g' k => (k.get _ _ (decide_eq_false (by omega))).trans c4
  obtain ⟨g2, e, k2, z2⟩ := am_for0 (fun v (g' : am_H) => am_vn am_M 7 219 340 [some (.ref 60), none, some (.int (nI v))] [] g') (fun v g' => am_kp (fun i _ => decide (i = 85)) g g' ∧ ∀ j, j < 40 → am_I g' 85 j = nI (wq_G d v j)) n3 g ⟨am_kp.refl _ _, fun j hj => by
      rw [hz j hj]
      unfold wq_G
      rw [if_neg (by omega), if_neg (by omega)]⟩ (fun v g' hv hg => by
    obtain ⟨kg, zg⟩ := hg
    have a79 : am_I g' 79 v = nI (pw_t d 8 v) := (kg.get _ _ (decide_eq_false (by omega))).trans (h79 v hv).1
    have a80 : am_I (am_sI g' 85 (1 + v) (nI (pw_t d 8 v))) 80 v = nI (pw_t d 9 v) := by rw [am_I_s1 _ _ _ _ (by omega)]; exact (kg.get _ _ (decide_eq_false (by omega))).trans (h79 v hv).2
    rw [e219_340, e4 g' kg, if_neg (nI_ge hv (by omega)), ml_79 (show v < 6 by omega), nI_add 1 v, a79, ms_85 (show 1 + v < 40 by omega), ml_80 (show v < 6 by omega), a80, nI_add 7 v, ms_85 (show 7 + v < 40 by omega), pz_succ]
    refine ⟨_, rfl, (kg.sI _ (decide_eq_true rfl)).sI _ (decide_eq_true rfl), fun j hj => ?_⟩
    have zj := zg j hj
    by_cases c7 : j = 7 + v
    · rw [c7, am_I_s]
      unfold wq_G
      rw [if_neg (by omega), if_pos (by omega), Nat.add_sub_cancel_left]
    · rw [am_I_s2 _ _ _ _ c7]
      by_cases c1 : j = 1 + v
      · rw [c1, am_I_s]
        unfold wq_G
        rw [if_pos (by omega), Nat.add_sub_cancel_left]
      · rw [am_I_s2 _ _ _ _ c1, zj]
        unfold wq_G
        by_cases x1 : 1 ≤ j ∧ j < 1 + v
        · rw [if_pos x1, if_pos (show 1 ≤ j ∧ j < 1 + (v + 1) by omega)]
        · rw [if_neg x1, if_neg (show ¬ (1 ≤ j ∧ j < 1 + (v + 1)) by omega)]
          by_cases x7 : 7 ≤ j ∧ j < 7 + v
          · rw [if_pos x7, if_pos (show 7 ≤ j ∧ j < 7 + (v + 1) by omega)]
          · rw [if_neg x7, if_neg (show ¬ (7 ≤ j ∧ j < 7 + (v + 1)) by omega)])
  refine ⟨g2, Eq.trans e ?_, k2, z2⟩
  rw [e219_340, e4 g2 k2, if_pos (nI_le (Nat.le_refl _) (by omega))]
theorem s219_385 {n0 : Nat} (G : Nat → Nat) (h0 : n0 ≤ 4) (c1 : am_I g 60 1 = nI n0) (hz : ∀ j, j < 40 → am_I g 85 j = nI (G j)) (h73 : ∀ p, p < n0 → am_I g 73 p = nI (pw_t d 7 p)) : ∃ g', am_vn am_M 7 219 385 [some (.ref 60), none, some (.int (nI 0))] [] g = am_vn am_M 7 219 385 [some (.ref 60), none, some (.int (nI n0))] [] g' ∧ am_kp (fun i _ => decide (i = 85)) g g' ∧ ∀ j, j < 40 → am_I g' 85 j = nI (if 32 ≤ j ∧ j < 32 + n0 then pw_t d 7 (j - 32) else G j) := by
  have e1 : ∀ g', am_kp (fun i _ => decide (i = 85)) g g' → am_I g' 60 1 = nI n0 := fun g' k => (k.get _ _ (decide_eq_false (by omega))).trans c1
  obtain ⟨g2, e, k2, z2⟩ := am_for0 (fun v (g' : am_H) => am_vn am_M 7 219 385 [some (.ref 60), none, some (.int (nI v))] [] g') (fun v g' => am_kp (fun i _ => decide (i = 85)) g g' ∧ ∀ j, j < 40 → am_I g' 85 j = nI (if 32 ≤ j ∧ j < 32 + v then pw_t d 7 (j - 32) else G j)) n0 g ⟨am_kp.refl _ _, fun j hj => by
      rw [hz j hj, if_neg (by omega)]⟩ (fun v g' hv hg => by
    obtain ⟨kg, zg⟩ := hg
    have a73 : am_I g' 73 v = nI (pw_t d 7 v) := (kg.get _ _ (decide_eq_false (by omega))).trans (h73 v hv)
    rw [e219_385, e1 g' kg, if_neg (nI_ge hv (by omega)), ml_73 (show v < 4 by omega), nI_add 32 v, a73, ms_85 (show 32 + v < 40 by omega), pz_succ]
    refine ⟨_, rfl, kg.sI _ (decide_eq_true rfl), fun j hj => ?_⟩
    by_cases c7 : j = 32 + v
    · rw [c7, am_I_s, if_pos (by omega), Nat.add_sub_cancel_left]
    · rw [am_I_s2 _ _ _ _ c7, zg j hj]
      by_cases x1 : 32 ≤ j ∧ j < 32 + v
      · rw [if_pos x1, if_pos (show 32 ≤ j ∧ j < 32 + (v + 1) by omega)]
      · rw [if_neg x1, if_neg (show ¬ (32 ≤ j ∧ j < 32 + (v + 1)) by omega)])
  exact ⟨g2, e, k2, z2⟩
theorem wn_G_S (h0 : pw_n d 0 ≤ 4) (h3 : pw_n d 3 ≤ 6) {i : Nat} (hi : i < 25) : wq_G d (pw_n d 3) i = wn_S d i := by
  unfold wq_G wn_S
  by_cases x1 : 1 ≤ i ∧ i < 1 + pw_n d 3
  · rw [if_pos x1, if_pos x1]
  · rw [if_neg x1, if_neg x1]
    by_cases x7 : 7 ≤ i ∧ i < 7 + pw_n d 3
    · rw [if_pos x7, if_pos x7]
    · rw [if_neg x7, if_neg x7, if_neg (by omega), if_neg (by omega)]
theorem wn_G_z (h3 : pw_n d 3 ≤ 6) {i : Nat} (hi : 13 ≤ i) : wq_G d (pw_n d 3) i = 0 := by
  unfold wq_G
  rw [if_neg (by omega), if_neg (by omega)]
theorem wm_pS {g : am_H} (h0 : pw_n d 0 ≤ 4) (h3 : pw_n d 3 ≤ 6) (h : ∀ j, j < 40 → am_I g 85 j = nI (if 32 ≤ j ∧ j < 32 + pw_n d 0 then pw_t d 7 (j - 32) else wq_G d (pw_n d 3) j)) : pm_S g 85 0 (wn_S d) := by
  refine ⟨fun i hi => ?_, fun p hp => ?_, ?_, fun k hk => ⟨?_, ?_⟩⟩
  · rw [Nat.zero_add, h i (by omega), if_neg (by omega), wn_G_S h0 h3 hi]
  · rw [Nat.zero_add, h _ (by omega), if_neg (by omega), wn_G_z h3 (by omega), wn_S_z h0 h3 (by omega)]
  · rw [wn_S_lamps h0 h3, h _ (by omega), if_neg (by omega), wn_G_z h3 (by omega)]
  · rw [Nat.zero_add, h _ (by omega), wn_S_st h0 h3 hk]
    by_cases c : k < pw_n d 0
    · rw [if_pos c, if_pos (by omega), Nat.add_sub_cancel_left]
    · rw [if_neg c, if_neg (by omega), wn_G_z h3 (by omega)]
  · rw [Nat.zero_add, h _ (by omega), if_neg (by omega), wn_G_z h3 (by omega), wn_S_z h0 h3 (by omega)]
/-- a deed's code at its new place -/
theorem wm_pD {g g' : am_H} {t j : Nat} {l : List Nat} (D : wm_D g t j l) (ht : t ≤ 1400) (e1 : am_I g' 60 (6 + j) = am_I g 60 (35 + j)) (e2 : ∀ k, k < 1400 → am_I g' 69 k = am_I g 82 k) : pm_D g' (6 + j) j l := by
  unfold wm_D at D
  unfold pm_D
  by_cases c : l = []
  · rw [if_pos c] at D ⊢; exact e1.trans D
  · rw [if_neg c] at D ⊢
    obtain ⟨a, a1, a2, a3⟩ := D
    exact ⟨a, e1.trans a1, by omega, fun i hi => (e2 _ (by omega)).trans (a3 i hi)⟩
theorem s219_b {t : Nat} (hz : am_I g 60 19 = nI 0) (hw : wn_ok d) (N : wm_N g t d) (ht : t ≤ 1400) : am_RI (am_vn am_M 7 219 143 [some (.ref 60), none, none] [] g) (fun u g' => u = nI 0 ∧ am_kp wg_B g g' ∧ pm_L g' d ∧ pm_S g' 85 0 (wn_S d) ∧ am_I g' 60 58 = nI 0 ∧ am_I g' 60 70 = nI 0 ∧ am_I g' 60 74 = nI 0) := by
  obtain ⟨c1, c2, c3, c4, c5, c6, c7, c8, c9⟩ := N
  have ho := hw.1
  obtain ⟨n0, n1, n2, n3, n4⟩ := ho.1
  rw [e219_143, s195G hz, am_bI_ok, if_neg (show ¬ nI 1 = 0 by decide)]
  dsimp only
  rw [am_I_s2 _ 60 1 _ (show 31 ≠ 1 by omega), am_I_s2 _ 60 2 _ (show 32 ≠ 2 by omega), am_I_s2 _ 60 1 _ (show 32 ≠ 1 by omega), am_I_s2 _ 60 3 _ (show 33 ≠ 3 by omega), am_I_s2 _ 60 2 _ (show 33 ≠ 2 by omega), am_I_s2 _ 60 1 _ (show 33 ≠ 1 by omega), am_I_s2 _ 60 4 _ (show 34 ≠ 4 by omega), am_I_s2 _ 60 3 _ (show 34 ≠ 3 by omega), am_I_s2 _ 60 2 _ (show 34 ≠ 2 by omega), am_I_s2 _ 60 1 _ (show 34 ≠ 1 by omega), am_I_s2 _ 60 5 _ (show 35 ≠ 5 by omega), am_I_s2 _ 60 4 _ (show 35 ≠ 4 by omega), am_I_s2 _ 60 3 _ (show 35 ≠ 3 by omega), am_I_s2 _ 60 2 _ (show 35 ≠ 2 by omega), am_I_s2 _ 60 1 _ (show 35 ≠ 1 by omega), am_I_s2 _ 60 6 _ (show 36 ≠ 6 by omega), am_I_s2 _ 60 5 _ (show 36 ≠ 5 by omega), am_I_s2 _ 60 4 _ (show 36 ≠ 4 by omega), am_I_s2 _ 60 3 _ (show 36 ≠ 3 by omega), am_I_s2 _ 60 2 _ (show 36 ≠ 2 by omega), am_I_s2 _ 60 1 _ (show 36 ≠ 1 by omega)]
  obtain ⟨X, hX⟩ : ∃ X, X = am_sI (am_sI (am_sI (am_sI (am_sI (am_sI (am_sI g 60 1 (am_I g 60 30)) 60 2 (am_I g 60 31)) 60 3 (am_I g 60 32)) 60 4 (am_I g 60 33)) 60 5 (am_I g 60 34)) 60 6 (am_I g 60 35)) 60 7 (am_I g 60 36) := ⟨_, rfl⟩
  rw [← hX]
  have x1 : am_I X 60 1 = am_I g 60 30 := by rw [hX]; rfl
  have x2 : am_I X 60 2 = am_I g 60 31 := by rw [hX]; rfl
  have x3 : am_I X 60 3 = am_I g 60 32 := by rw [hX]; rfl
  have x4 : am_I X 60 4 = am_I g 60 33 := by rw [hX]; rfl
  have x5 : am_I X 60 5 = am_I g 60 34 := by rw [hX]; rfl
  have x6 : am_I X 60 6 = am_I g 60 35 := by rw [hX]; rfl
  have x7 : am_I X 60 7 = am_I g 60 36 := by rw [hX]; rfl
  have kX : am_kp wg_B g X := by
    rw [hX]
    exact ((((((((am_kp.refl wg_B g).sI _ (wg_B_t (by omega))).sI _ (wg_B_t (by omega))).sI _ (wg_B_t (by omega))).sI _ (wg_B_t (by omega))).sI _ (wg_B_t (by omega))).sI _ (wg_B_t (by omega))).sI _ (wg_B_t (by omega)))
  clear hX
  refine pz_VI (s183w (r := 72) (q := 61) (n := 4) kX rfl (by omega) rfl (by omega) (by omega)) fun g1 h1 => ?_
  obtain ⟨a1, b1, p1⟩ := h1
  refine pz_VI (s183w (r := 74) (q := 62) (n := 9) a1 rfl (by omega) rfl (by omega) (by omega)) fun g2 h2 => ?_
  obtain ⟨a2, b2, p2⟩ := h2
  refine pz_VI (s183w (r := 75) (q := 63) (n := 9) a2 rfl (by omega) rfl (by omega) (by omega)) fun g3 h3 => ?_
  obtain ⟨a3, b3, p3⟩ := h3
  refine pz_VI (s183w (r := 76) (q := 64) (n := 81) a3 rfl (by omega) rfl (by omega) (by omega)) fun g4 h4 => ?_
  obtain ⟨a4, b4, p4⟩ := h4
  refine pz_VI (s183w (r := 77) (q := 66) (n := 6) a4 rfl (by omega) rfl (by omega) (by omega)) fun g5 h5 => ?_
  obtain ⟨a5, b5, p5⟩ := h5
  refine pz_VI (s183w (r := 78) (q := 67) (n := 6) a5 rfl (by omega) rfl (by omega) (by omega)) fun g6 h6 => ?_
  obtain ⟨a6, b6, p6⟩ := h6
  refine pz_VI (s183w (r := 81) (q := 68) (n := 10) a6 rfl (by omega) rfl (by omega) (by omega)) fun g7 h7 => ?_
  obtain ⟨a7, b7, p7⟩ := h7
  refine pz_VI (s183w (r := 82) (q := 69) (n := 1400) a7 rfl (by omega) rfl (by omega) (by omega)) fun g8 h8 => ?_
  obtain ⟨a8, b8, p8⟩ := h8
  have up : ∀ {q m : Nat} {u v : am_H}, am_kp (fun i _ => decide (i = q)) u v → m < q → q ≤ 69 → am_kp (fun i _ => decide (m < i ∧ i ≤ 69)) u v := fun k h1 h2 => k.up fun i _ hi => decide_eq_false (fun c => by have := of_decide_eq_false hi; omega)
  have K7 : am_kp (fun i _ => decide (68 < i ∧ i ≤ 69)) g7 g8 := up b8 (by omega) (by omega)
  have lift : ∀ {m m' : Nat} {u v : am_H}, am_kp (fun i _ => decide (m < i ∧ i ≤ 69)) u v → m' ≤ m → am_kp (fun i _ => decide (m' < i ∧ i ≤ 69)) u v := fun k h1 => k.up fun i _ hi => decide_eq_false (fun c => by have := of_decide_eq_false hi; omega)
  have K6 : am_kp (fun i _ => decide (67 < i ∧ i ≤ 69)) g6 g8 := (up b7 (by omega) (by omega)).trans (lift K7 (by omega))
  have K5 : am_kp (fun i _ => decide (66 < i ∧ i ≤ 69)) g5 g8 := (up b6 (by omega) (by omega)).trans (lift K6 (by omega))
  have K4 : am_kp (fun i _ => decide (64 < i ∧ i ≤ 69)) g4 g8 := (up b5 (by omega) (by omega)).trans (lift K5 (by omega))
  have K3 : am_kp (fun i _ => decide (63 < i ∧ i ≤ 69)) g3 g8 := (up b4 (by omega) (by omega)).trans (lift K4 (by omega))
  have K2 : am_kp (fun i _ => decide (62 < i ∧ i ≤ 69)) g2 g8 := (up b3 (by omega) (by omega)).trans (lift K3 (by omega))
  have K1 : am_kp (fun i _ => decide (61 < i ∧ i ≤ 69)) g1 g8 := (up b2 (by omega) (by omega)).trans (lift K2 (by omega))
  have K0 : am_kp (fun i _ => decide (60 < i ∧ i ≤ 69)) X g8 := (up b1 (by omega) (by omega)).trans (lift K1 (by omega))
  have nb : ∀ {m i k : Nat} {u v : am_H}, am_kp (fun i _ => decide (m < i ∧ i ≤ 69)) u v → i ≤ m → am_I v i k = am_I u i k := fun k h => k.get _ _ (decide_eq_false (by omega))
  have r61 : ∀ k, k < 4 → am_I g8 61 k = am_I g 72 k := fun k hk => (nb K1 (by omega)).trans (p1 k hk)
  have r62 : ∀ k, k < 9 → am_I g8 62 k = am_I g 74 k := fun k hk => (nb K2 (by omega)).trans (p2 k hk)
  have r63 : ∀ k, k < 9 → am_I g8 63 k = am_I g 75 k := fun k hk => (nb K3 (by omega)).trans (p3 k hk)
  have r64 : ∀ k, k < 81 → am_I g8 64 k = am_I g 76 k := fun k hk => (nb K4 (by omega)).trans (p4 k hk)
  have r66 : ∀ k, k < 6 → am_I g8 66 k = am_I g 77 k := fun k hk => (nb K5 (by omega)).trans (p5 k hk)
  have r67 : ∀ k, k < 6 → am_I g8 67 k = am_I g 78 k := fun k hk => (nb K6 (by omega)).trans (p6 k hk)
  have r68 : ∀ k, k < 10 → am_I g8 68 k = am_I g 81 k := fun k hk => (nb K7 (by omega)).trans (p7 k hk)
  have f60 : ∀ k, am_I g8 60 k = am_I X 60 k := fun k => nb K0 (by omega)
  obtain ⟨g9, e9, k9, z9⟩ := s219_319 g8
  rw [e9]
  have a9 : am_kp wg_B g g9 := a8.trans (k9.up fun i _ hi => decide_eq_false (fun c => by have := of_decide_eq_false hi; omega))
  have q9 : ∀ i k, i ≠ 85 → am_I g9 i k = am_I g8 i k := fun i k hi => k9.get _ _ (decide_eq_false hi)
  obtain ⟨ga, ea, ka, za⟩ := s219_340 (d := d) (n3 := pw_n d 3) n3 ((q9 _ _ (by omega)).trans ((f60 4).trans (x4.trans (c1 3 (by omega))))) z9 (fun p hp => ⟨(a9.get _ _ (wg_B_f (by omega))).trans (c5 p hp).2.1, (a9.get _ _ (wg_B_f (by omega))).trans (c5 p hp).2.2⟩)
  rw [ea]
  have aa : am_kp wg_B g ga := a9.trans (ka.up fun i _ hi => decide_eq_false (fun c => by have := of_decide_eq_false hi; omega))
  have qa : ∀ i k, i ≠ 85 → am_I ga i k = am_I g8 i k := fun i k hi => (ka.get _ _ (decide_eq_false hi)).trans (q9 i k hi)
  obtain ⟨gb, eb, kb, zb⟩ := s219_385 (d := d) (n0 := pw_n d 0) _ n0 ((qa _ _ (by omega)).trans ((f60 1).trans (x1.trans (c1 0 (by omega))))) za (fun p hp => (aa.get _ _ (wg_B_f (by omega))).trans (c2 p hp).2)
  rw [eb]
  have ab : am_kp wg_B g gb := aa.trans (kb.up fun i _ hi => decide_eq_false (fun c => by have := of_decide_eq_false hi; omega))
  have qb : ∀ i k, i ≠ 85 → am_I gb i k = am_I g8 i k := fun i k hi => (kb.get _ _ (decide_eq_false hi)).trans (qa i k hi)
  rw [e219_385, (qb _ _ (by omega)).trans ((f60 1).trans (x1.trans (c1 0 (by omega)))), if_pos (nI_le (Nat.le_refl _) (by omega))]
  refine pz_VI (s218 (d := d) ho ((qb _ _ (by omega)).trans ((f60 2).trans (x2.trans (c1 1 (by omega))))) (fun j hj => (qb _ _ (by omega)).trans ((r64 j hj).trans (c4 j hj)))) fun gc hc => ?_
  obtain ⟨kc, wc⟩ := hc
  dsimp only
  rw [if_pos (by decide)]
  refine ⟨_, _, rfl, rfl, ?_⟩
  obtain ⟨Y, hY⟩ : ∃ Y, Y = am_sI (am_sI (am_sI gc 60 58 (nI 0)) 60 70 (nI 0)) 60 74 (nI 0) := ⟨_, rfl⟩
  rw [← hY]
  have y58 : am_I Y 60 58 = nI 0 := by rw [hY]; rfl
  have y70 : am_I Y 60 70 = nI 0 := by rw [hY]; rfl
  have y74 : am_I Y 60 74 = nI 0 := by rw [hY]; rfl
  have kY : am_kp (fun i k => decide (i = 60 ∧ (k = 58 ∨ k = 70 ∨ k = 74))) gc Y := by
    rw [hY]
    exact (((am_kp.refl _ gc).sI _ (decide_eq_true (by omega))).sI _ (decide_eq_true (by omega))).sI _ (decide_eq_true (by omega))
  clear hY
  have qY : ∀ i k, i ≠ 65 → ¬ (i = 60 ∧ (k = 58 ∨ k = 70 ∨ k = 74)) → am_I Y i k = am_I gb i k := fun i k h1 h2 => (kY.get _ _ (decide_eq_false h2)).trans (kc.get _ _ (wf_65_f h1))
  have q8 : ∀ i k, i ≠ 65 → i ≠ 85 → ¬ (i = 60 ∧ (k = 58 ∨ k = 70 ∨ k = 74)) → am_I Y i k = am_I g8 i k := fun i k h1 h2 h3 => (qY i k h1 h3).trans (qb i k h2)
  have y60 : ∀ k, k ≤ 7 → am_I Y 60 k = am_I X 60 k := fun k hk => (q8 _ _ (by omega) (by omega) (by omega)).trans (f60 k)
  refine ⟨(ab.trans (kc.up fun i k hi => wf_65_f (fun c => by have := of_decide_eq_false hi; omega))).trans (kY.up fun i k hi => decide_eq_false (fun c => by have := of_decide_eq_false hi; omega)), ?_, ?_, y58, y70, y74⟩
  · refine ⟨fun i hi => ?_, fun a ha => ⟨?_, ?_⟩, fun p hp => ⟨?_, ?_⟩, fun i hi => ?_, fun j hj => ?_, fun a b ha hb => ?_, fun k hk => ?_, ?_, ?_⟩
    · rw [y60 _ (by omega)]
      have : i = 0 ∨ i = 1 ∨ i = 2 ∨ i = 3 ∨ i = 4 := by omega
      rcases this with rfl | rfl | rfl | rfl | rfl
      · exact x1.trans (c1 0 (by omega))
      · exact x2.trans (c1 1 (by omega))
      · exact x3.trans (c1 2 (by omega))
      · exact x4.trans (c1 3 (by omega))
      · exact x5.trans (c1 4 (by omega))
    · exact (q8 _ _ (by omega) (by omega) (by omega)).trans ((r62 _ (by omega)).trans (c3 a ha).1)
    · exact (q8 _ _ (by omega) (by omega) (by omega)).trans ((r63 _ (by omega)).trans (c3 a ha).2)
    · exact (q8 _ _ (by omega) (by omega) (by omega)).trans ((r66 _ (by omega)).trans (c5 p hp).1.1)
    · exact (q8 _ _ (by omega) (by omega) (by omega)).trans ((r67 _ (by omega)).trans (c5 p hp).1.2)
    · exact (q8 _ _ (by omega) (by omega) (by omega)).trans ((r68 _ (by omega)).trans (c6 i hi))
    · exact (q8 _ _ (by omega) (by omega) (by omega)).trans ((r64 _ (by omega)).trans (c4 j hj))
    · exact (kY.get _ _ (decide_eq_false (by omega))).trans (wc a b ha hb)
    · exact (q8 _ _ (by omega) (by omega) (by omega)).trans ((r61 _ (by omega)).trans (c2 k hk).1)
    · exact wm_pD c8 ht ((y60 6 (by omega)).trans x6) (fun k hk => (q8 _ _ (by omega) (by omega) (by omega)).trans (p8 k hk))
    · exact wm_pD c9 ht ((y60 7 (by omega)).trans x7) (fun k hk => (q8 _ _ (by omega) (by omega) (by omega)).trans (p8 k hk))
  · exact wm_pS n0 n3 (fun j hj => (qY _ _ (by omega) (by omega)).trans (zb j hj))
end
end
