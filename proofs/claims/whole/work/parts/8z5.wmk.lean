section
/-! WINTER: the call -/
theorem am_kp.wk {s : Nat → Nat → Bool} {h g : am_H} (a : am_kp s h g) : wm_k s h g := ⟨a.1, a.2.1, a.2.2.1, a.2.2.2.2.1, fun i _ => by rw [a.2.2.2.1], a.2.2.2.2.2⟩
theorem wm_k.fm {s : Nat → Nat → Bool} {h g : am_H} (a : wm_k s h g) (hs : ∀ i k, i < 60 ∨ 99 ≤ i → s i k = false) : am_fm h g := ⟨a.1, a.2.1, a.2.2.1, a.2.2.2.1, a.2.2.2.2.1, fun i hi => funext fun k => a.get i k (hs i k hi)⟩
def wg_A (i k : Nat) : Bool := decide (i = 60 ∧ 18 ≤ k ∧ k ≤ 41 ∨ 72 ≤ i ∧ i ≤ 84)
theorem wg_A_t {i k : Nat} (h : i = 60 ∧ 18 ≤ k ∧ k ≤ 41 ∨ 72 ≤ i ∧ i ≤ 84) : wg_A i k = true := decide_eq_true h
theorem wg_A_f {i k : Nat} (h : ¬ (i = 60 ∧ 18 ≤ k ∧ k ≤ 41 ∨ 72 ≤ i ∧ i ≤ 84)) : wg_A i k = false := decide_eq_false h
theorem wg_LA {i k : Nat} (h : wg_A i k = false) : wg_L i k = false := wg_L_f (fun c => by have := of_decide_eq_false h; omega)
theorem wg_MA {i k : Nat} (h : wg_A i k = false) : wg_M i k = false := wg_M_f (fun c => by have := of_decide_eq_false h; omega)
theorem wg_xA {i k : Nat} (h : wg_A i k = false) : wg_x i k = false := wg_x_f (fun c => by have := of_decide_eq_false h; omega)
theorem wn_all_H {tp : Nat → Nat} {n : Nat} (hn : n ≤ 700) : wn_H n (wn_all tp n) := wn_lines_G hn 700 _ _ (wl_e_le _ _ (Nat.zero_le n)) (by omega) wn_0_ok
/-- what the model's lines come to -/
def wm_end (g : am_H) : wn_Q → Prop
  | .inl (f, p) => wm_ft g f p
  | .inr (_, d) => am_I g 60 19 = nI 0 ∧ am_I g 60 20 = (-1 : Int32) ∧ ∃ t, t ≤ 1400 ∧ wm_N g t d
theorem s219_a {g : am_H} {tp : Nat → Nat} {n : Nat} (ht0 : am_I g 60 0 = nI 0) (hn : n ≤ 700) (htp : ∀ j, tp j < 256) (h70 : ∀ j, j < n → am_I g 70 j = nI (tp j)) : ∃ g', am_vn am_M 7 219 23 [some (.ref 60), some (.int (nI n)), none] [.int (nI 1), .ref 60] g = am_vn am_M 7 219 143 [some (.ref 60), none, none] [] g' ∧ wm_k wg_A g g' ∧ am_I g' 60 18 = nI 0 ∧ wm_end g' (wn_all tp n) := by
  rw [e219_23, s179_t ht0, am_bI_ok, if_neg (show ¬ nI 1 = 0 by decide)]
  dsimp only
  obtain ⟨X, hX⟩ : ∃ X, X = am_sI (am_sI (am_sI (am_sI (am_sI (am_sI (am_sI (am_sI (am_sI (am_sI (am_sI (am_sI (am_sI g 60 18 (nI 0)) 60 20 (-1 : Int32)) 60 19 (nI 0)) 60 22 (nI n)) 60 23 (nI 0)) 60 30 (nI 0)) 60 31 (nI 0)) 60 32 (nI 0)) 60 33 (nI 0)) 60 34 (nI 0)) 60 35 (-1 : Int32)) 60 36 (-1 : Int32)) 60 37 (nI 0) := ⟨_, rfl⟩
  rw [← hX]
  have v18 : am_I X 60 18 = nI 0 := by rw [hX]; rfl
  have v19 : am_I X 60 19 = nI 0 := by rw [hX]; rfl
  have v20 : am_I X 60 20 = (-1 : Int32) := by rw [hX]; rfl
  have v22 : am_I X 60 22 = nI n := by rw [hX]; rfl
  have v23 : am_I X 60 23 = nI 0 := by rw [hX]; rfl
  have v30 : am_I X 60 30 = nI 0 := by rw [hX]; rfl
  have v31 : am_I X 60 31 = nI 0 := by rw [hX]; rfl
  have v32 : am_I X 60 32 = nI 0 := by rw [hX]; rfl
  have v33 : am_I X 60 33 = nI 0 := by rw [hX]; rfl
  have v34 : am_I X 60 34 = nI 0 := by rw [hX]; rfl
  have v35 : am_I X 60 35 = (-1 : Int32) := by rw [hX]; rfl
  have v36 : am_I X 60 36 = (-1 : Int32) := by rw [hX]; rfl
  have v37 : am_I X 60 37 = nI 0 := by rw [hX]; rfl
  have kX : am_kp wg_A g X := by
    rw [hX]
    exact ((((((((((((((am_kp.refl wg_A g).sI _ (wg_A_t (by omega))).sI _ (wg_A_t (by omega))).sI _ (wg_A_t (by omega))).sI _ (wg_A_t (by omega))).sI _ (wg_A_t (by omega))).sI _ (wg_A_t (by omega))).sI _ (wg_A_t (by omega))).sI _ (wg_A_t (by omega))).sI _ (wg_A_t (by omega))).sI _ (wg_A_t (by omega))).sI _ (wg_A_t (by omega))).sI _ (wg_A_t (by omega))).sI _ (wg_A_t (by omega)))
  clear hX
  obtain ⟨g2, e, k2, z2⟩ := am_for0 (fun v (g' : am_H) => am_vn am_M 7 219 99 [some (.ref 60), none, some (.int (nI v))] [] g') (fun v g' => am_kp (fun i _ => decide (i = 76)) X g' ∧ ∀ j, j < v → am_I g' 76 j = nI 0) 81 X ⟨am_kp.refl _ _, fun j hj => absurd hj (Nat.not_lt_zero j)⟩ (fun v g' hv hg => by
    rw [e219_99, if_neg (nI_ge hv (by omega)), ms_76 hv, pz_succ]
    refine ⟨_, rfl, hg.1.sI _ (decide_eq_true rfl), fun j hj => ?_⟩
    by_cases c : j = v
    · rw [c, am_I_s]
    · rw [am_I_s2 _ _ _ _ c]; exact hg.2 j (by omega))
  have e' : am_vn am_M 7 219 99 [some (.ref 60), none, some (.int (nI 0))] [] X = am_vn am_M 7 219 99 [some (.ref 60), none, some (.int (nI 81))] [] g2 := e
  rw [e', e219_99, if_pos (nI_le (Nat.le_refl _) (by omega))]
  have e6 : ∀ k, am_I g2 60 k = am_I X 60 k := fun k => k2.get _ _ (decide_eq_false (by omega))
  have ht2 : wm_tp g2 tp n := ⟨hn, htp, (e6 _).trans v22, fun j hj => (k2.get _ _ (decide_eq_false (by omega))).trans ((kX.get _ _ (wg_A_f (by omega))).trans (h70 j hj))⟩
  obtain ⟨g3, r3, k3, x3⟩ := s190 (b := 0) ht2 (Nat.zero_le _) ((e6 _).trans v23)
  rw [r3, am_bV_ok]
  have hJ : wm_J g2 tp n := ⟨ht2, (e6 _).trans v19⟩
  have e7 : ∀ k, 30 ≤ k → am_I g3 60 k = am_I X 60 k := fun k hk => (k3.get _ _ (wg_x_f (by omega))).trans (e6 k)
  have N : wm_N g3 0 wn_0 := by
    refine ⟨fun i hi => ?_, fun k hk => absurd hk (Nat.not_lt_zero k), fun k hk => absurd hk (Nat.not_lt_zero k), fun j hj => (k3.get _ _ (wg_x_f (by omega))).trans (z2 j hj), fun k hk => absurd hk (Nat.not_lt_zero k), fun k hk => absurd hk (Nat.not_lt_zero k), (e7 37 (by omega)).trans v37, ?_, ?_⟩
    · rw [e7 _ (by omega)]
      have : i = 0 ∨ i = 1 ∨ i = 2 ∨ i = 3 ∨ i = 4 := by omega
      rcases this with rfl | rfl | rfl | rfl | rfl
      · exact v30
      · exact v31
      · exact v32
      · exact v33
      · exact v34
    · unfold wm_D
      rw [if_pos (show pw_d wn_0 0 = [] from rfl)]
      exact (e7 35 (by omega)).trans v35
    · unfold wm_D
      rw [if_pos (show pw_d wn_0 1 = [] from rfl)]
      exact (e7 36 (by omega)).trans v36
  have hz : wm_Z g2 tp n g3 (.inr (wl_e wl_bl tp n 0, wn_0)) := ⟨k3.up (fun _ _ => wg_xM), x3, ⟨0, Nat.zero_le _, N⟩, wn_0_ok⟩
  obtain ⟨g4, e4, z4⟩ := s219_122 hJ 700 _ wn_0 g3 (by omega) hz
  refine ⟨g4, e4, ?_⟩
  have z5 : wm_Z g2 tp n g4 (wn_all tp n) := z4
  have k12 : wm_k wg_A g g2 := kX.wk.trans (k2.wk.up fun i k hi => decide_eq_false (fun c => by have := of_decide_eq_false hi; omega))
  cases hr : wn_all tp n with
  | inl q =>
    obtain ⟨f, p⟩ := q
    rw [hr] at z5
    exact ⟨k12.trans (z5.1.up fun _ _ => wg_LA), (z5.1.get _ _ (wg_L_f (by omega))).trans ((e6 _).trans v18), z5.2⟩
  | inr q =>
    obtain ⟨s, d⟩ := q
    rw [hr] at z5
    obtain ⟨a1, a2, ⟨t, a3, a4⟩, a5⟩ := z5
    have hsn := a2.1
    exact ⟨k12.trans (a1.up fun _ _ => wg_MA), (a1.get _ _ (wg_M_f (by omega))).trans ((e6 _).trans v18), (a1.get _ _ (wg_M_f (by omega))).trans ((e6 _).trans v19), (a1.get _ _ (wg_M_f (by omega))).trans ((e6 _).trans v20), t, by omega, a4⟩
/-! the state at the beginning -/
section
variable {d : pw_L}
theorem wn_S_la (h3 : pw_n d 3 ≤ 6) {p : Nat} (hp : p < 6) : wn_S d (1 + p) = if p < pw_n d 3 then pw_t d 8 p else 0 := by
  unfold wn_S
  by_cases c : p < pw_n d 3
  · rw [if_pos (show 1 ≤ 1 + p ∧ 1 + p < 1 + pw_n d 3 by omega), if_pos c, Nat.add_sub_cancel_left]
  · rw [if_neg (show ¬ (1 ≤ 1 + p ∧ 1 + p < 1 + pw_n d 3) by omega), if_neg c, if_neg (show ¬ (7 ≤ 1 + p ∧ 1 + p < 7 + pw_n d 3) by omega), if_neg (show ¬ (37 ≤ 1 + p ∧ 1 + p < 37 + pw_n d 0) by omega), if_neg (show ¬ (45 ≤ 1 + p ∧ 1 + p < 45 + pw_n d 0) by omega)]
theorem wn_S_wo (h3 : pw_n d 3 ≤ 6) {p : Nat} (hp : p < 6) : wn_S d (7 + p) = if p < pw_n d 3 then pw_t d 9 p else 0 := by
  unfold wn_S
  rw [if_neg (show ¬ (1 ≤ 7 + p ∧ 7 + p < 1 + pw_n d 3) by omega)]
  by_cases c : p < pw_n d 3
  · rw [if_pos (show 7 ≤ 7 + p ∧ 7 + p < 7 + pw_n d 3 by omega), if_pos c, Nat.add_sub_cancel_left]
  · rw [if_neg c, if_neg (show ¬ (7 ≤ 7 + p ∧ 7 + p < 7 + pw_n d 3) by omega), if_neg (show ¬ (37 ≤ 7 + p ∧ 7 + p < 37 + pw_n d 0) by omega), if_neg (show ¬ (45 ≤ 7 + p ∧ 7 + p < 45 + pw_n d 0) by omega)]
theorem wn_S_st (h0 : pw_n d 0 ≤ 4) (h3 : pw_n d 3 ≤ 6) {k : Nat} (hk : k < 4) : wn_S d (37 + k) = if k < pw_n d 0 then pw_t d 7 k else 0 := by
  unfold wn_S
  rw [if_neg (show ¬ (1 ≤ 37 + k ∧ 37 + k < 1 + pw_n d 3) by omega), if_neg (show ¬ (7 ≤ 37 + k ∧ 37 + k < 7 + pw_n d 3) by omega)]
  by_cases c : k < pw_n d 0
  · rw [if_pos (show 37 ≤ 37 + k ∧ 37 + k < 37 + pw_n d 0 by omega), if_pos c, Nat.add_sub_cancel_left]
  · rw [if_neg c, if_neg (show ¬ (37 ≤ 37 + k ∧ 37 + k < 37 + pw_n d 0) by omega), if_neg (show ¬ (45 ≤ 37 + k ∧ 37 + k < 45 + pw_n d 0) by omega)]
theorem wn_S_hu (h0 : pw_n d 0 ≤ 4) (h3 : pw_n d 3 ≤ 6) {k : Nat} (hk : k < 4) : wn_S d (45 + k) = if k < pw_n d 0 then pw_t d 6 k else 0 := by
  unfold wn_S
  rw [if_neg (show ¬ (1 ≤ 45 + k ∧ 45 + k < 1 + pw_n d 3) by omega), if_neg (show ¬ (7 ≤ 45 + k ∧ 45 + k < 7 + pw_n d 3) by omega), if_neg (show ¬ (37 ≤ 45 + k ∧ 45 + k < 37 + pw_n d 0) by omega)]
  by_cases c : k < pw_n d 0
  · rw [if_pos (show 45 ≤ 45 + k ∧ 45 + k < 45 + pw_n d 0 by omega), if_pos c, Nat.add_sub_cancel_left]
  · rw [if_neg c, if_neg (show ¬ (45 ≤ 45 + k ∧ 45 + k < 45 + pw_n d 0) by omega)]
theorem wn_S_z (h0 : pw_n d 0 ≤ 4) (h3 : pw_n d 3 ≤ 6) {i : Nat} (hi : i = 0 ∨ 13 ≤ i ∧ i < 37 ∨ 41 ≤ i ∧ i < 45) : wn_S d i = 0 := by
  unfold wn_S
  rw [if_neg (show ¬ (1 ≤ i ∧ i < 1 + pw_n d 3) by omega), if_neg (show ¬ (7 ≤ i ∧ i < 7 + pw_n d 3) by omega), if_neg (show ¬ (37 ≤ i ∧ i < 37 + pw_n d 0) by omega), if_neg (show ¬ (45 ≤ i ∧ i < 45 + pw_n d 0) by omega)]
theorem wn_S_SL (h : wn_ok d) : pw_SL d (wn_S d) := by
  obtain ⟨ho, hp, hq⟩ := h
  have h0 := ho.1.1
  have h3 := ho.1.2.2.2.1
  have z0 : wn_S d 0 = 0 := wn_S_z h0 h3 (by omega)
  refine ⟨⟨fun p hp6 => ⟨?_, ?_, ?_, ?_, ?_, ?_⟩, fun k hk => ⟨?_, ?_, ?_⟩⟩, by omega, fun k hk => ?_⟩
  · rw [wn_S_la h3 hp6]
    split
    · exact (hq p (by assumption)).1
    · omega
  · rw [wn_S_wo h3 hp6]
    split
    · exact (hq p (by assumption)).2
    · omega
  · rw [wn_S_z h0 h3 (by omega)]; omega
  · rw [wn_S_z h0 h3 (by omega)]; omega
  · rw [wn_S_z h0 h3 (by omega)]; omega
  · rw [wn_S_z h0 h3 (by omega)]; omega
  · rw [wn_S_st h0 h3 hk]
    split
    · have := (hp k (by assumption)).2; omega
    · omega
  · rw [wn_S_z h0 h3 (by omega)]; omega
  · rw [wn_S_hu h0 h3 hk]
    split
    · exact (hp k (by assumption)).1
    · omega
  · rw [wn_S_hu h0 h3 (by omega), if_pos hk]
theorem wn_S_lamps (h0 : pw_n d 0 ≤ 4) (h3 : pw_n d 3 ≤ 6) : pm_lamps (wn_S d) = 0 := by
  unfold pm_lamps
  rw [pb_zero]
  intro k hk
  rw [wn_S_z h0 h3 (by omega)]
  rfl
end
end
