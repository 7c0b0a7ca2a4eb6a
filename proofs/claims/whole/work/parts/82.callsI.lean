/-! CALLS: forget, image, restore -/
def am_AV (w : pw_W) (C M : am_H → Option am_Q) : Prop := ∃ w', pw_wf w' ∧ (∀ h, pI_c h w → am_RV (C h) (fun g => pI_c g w' ∧ am_fc h g)) ∧ ∀ h, pI_m h w → am_RV (M h) (fun g => am_I g 60 0 = nI 0 ∧ pI_m g w' ∧ am_fm h g)
theorem call_forget {w : pw_W} (hw : pw_wf w) : am_AV w (fun h => am_run am_M 30 [.ref 0] h) (fun h => am_run am_M 284 [.ref 60] h) := by
  obtain ⟨d, S, l, t, im, tp, nb, fp, rf⟩ := w
  have hw0 := hw
  obtain ⟨ho, hS, ha, ht, hi, hnb, htp⟩ := hw
  refine ⟨(d, S, l, [], im, tp, nb, fp, rf), ⟨ho, hS, ha, ⟨Nat.zero_le _, fun x hx => absurd hx (by simp)⟩, hi, hnb, htp⟩, fun h hc => ?_, fun h hm => ?_⟩
  · have hc0 := hc
    obtain ⟨⟨L, hL, r1, r2, c1⟩, c2, c3, c4, c5, c6, c7, c8, c9⟩ := hc
    show am_RV (am_run am_M 30 [.ref 0] h) _
    rw [e30, e158, pc_tch (T := 24) (Or.inl rfl)]
    have kp : am_kp (fun i k => decide (i = 24 ∧ k = 2)) h (am_sI h 24 2 (nI 0)) := (am_kp.refl _ _).sI _ (decide_eq_true (by omega))
    have ee : ∀ i, ¬ (i = 24) → am_I (am_sI h 24 2 (nI 0)) i = am_I h i := fun i hi => am_I_s1 _ _ _ _ hi
    refine ⟨_, rfl, hc0.upd kp.R (fun i h1 h2 => ee i (by omega)) (by rw [ee _ (by omega)]) (c2.fr (ee _ (by omega))) (c3.fr (ee _ (by omega)) (ee _ (by omega))) ⟨am_I_s _ _ _ _, fun j hj => absurd hj (Nat.not_lt_zero j)⟩ (c5.fr (by rw [ee _ (by omega)]) (fun j h1 h2 => ee j (by omega))) ?_ (fun j hj => ?_) (fun j hj => ?_), kp.fc fun i k hi => decide_eq_false (by omega)⟩
    · rw [ee _ (by omega)]; exact c6
    · rw [ee _ (by omega)]; exact c7 j hj
    · rw [ee _ (by omega)]; exact c9 j hj
  · show am_RV (am_run am_M 284 [.ref 60] h) _
    obtain ⟨hm0, ht0, hf0⟩ := m_start hm
    rw [e284]
    generalize am_sI h 60 0 (nI 0) = g at hm0 ht0 hf0 ⊢
    have hm1 := hm0
    obtain ⟨m1, m2, m3, m4, m5, m6, m7, m8, m9, m10, m11, m12⟩ := hm1
    have ee : ∀ i, ¬ (i = 60) → am_I (am_sI g 60 70 (nI 0)) i = am_I g i := fun i hi => am_I_s1 _ _ _ _ hi
    have e6 : ∀ k, k ≠ 70 → am_I (am_sI g 60 70 (nI 0)) 60 k = am_I g 60 k := fun k hk => am_I_s2 _ _ _ _ hk
    refine ⟨_, rfl, (e6 0 (by omega)).trans ht0, hm0.upd (fun k _ _ => e6 k (by omega)) (fun i h1 h2 => ee i (by omega)) (fun k _ => e6 k (by omega)) (m2.fr (ee _ (by omega))) (m3.fr (e6 _ (by omega)) (ee _ (by omega))) ⟨am_I_s _ _ _ _, fun j hj => absurd hj (Nat.not_lt_zero j)⟩ (m5.fr (fun k _ => e6 k (by omega)) (fun j h1 h2 => ee j (by omega))) ((e6 _ (by omega)).trans m6) (fun j hj => ?_) (fun j hj => ?_), hf0.trans ((am_fm.refl _).sI (by omega) _ _)⟩
    · rw [ee _ (by omega)]; exact m7 j hj
    · rw [ee _ (by omega)]; exact m9 j hj
section
variable {h : am_H} {S : Nat → Nat} {l : List (Nat → Nat)} {t : List (Nat × Nat)}
theorem s156s {s r : Nat} (hs : pc_so s) (hr : pc_so r) (hst : r ≠ s) (hS : pc_S h (r + 1) S) : am_RV (am_run am_M 156 [.ref s, .ref r] h) (fun g => pc_S g (s + 1) S ∧ am_kp (fun i _ => decide (i = s + 1)) h g) := by
  rw [s156 hs hr hst]
  refine ⟨_, rfl, fun i hi => ?_, (am_kp.refl _ _).wr _ (fun k => decide_eq_true rfl)⟩
  rw [am_I_w, if_pos (by omega), show 0 + (i - 0) = i by omega]; exact hS i hi
theorem s74 {A B : Nat} (hA : pc_ao A) (hB : pc_ao B) (hAB : A ≠ B) (ha : pc_A h B l) : am_RV (am_run am_M 74 [.ref A, .ref B] h) (fun g => pc_A g A l ∧ am_kp (fun i _ => decide (i = A ∨ i = A + 1)) h g) := by
  have hd : A + 1 ≠ B + 1 ∧ A ≠ B + 1 ∧ A + 1 ≠ B ∧ A < 98 ∧ B < 98 := by unfold pc_ao at hA hB; omega
  obtain ⟨x, hx, a1, a2, a3⟩ := ha
  rw [e74, pc_ach hB, pc_ag0 hB, pc_ach hA, pc_ag0 hA, copyRow_ok (pc_a1 hB) (by omega) (by omega) (pc_a1 hA) (by omega) (by omega) (by omega) (show 0 + 1960 ≤ 1960 by omega) (show 0 + 1960 ≤ 1960 by omega), am_bV_ok, pc_ach hB, pc_ach hA]
  dsimp only
  rw [pc_ach hB, pc_ach hA]
  refine ⟨_, rfl, ⟨x, hx, ?_, ?_, fun j hj i hi => ?_⟩, (((am_kp.refl _ _).wr _ (fun k => decide_eq_true (by omega))).sI _ (decide_eq_true (by omega))).sI _ (decide_eq_true (by omega))⟩
  · rw [am_I_s2 _ _ _ _ (by omega), am_I_s, am_I_w1 _ _ _ (by omega)]; exact a1
  · rw [am_I_s, am_I_s1 _ _ _ _ (by omega), am_I_w1 _ _ _ (by omega)]; exact a2
  · rw [am_I_s1 _ _ _ _ (by omega), am_I_s1 _ _ _ _ (by omega), am_I_w, if_pos (by omega), show 0 + ((x + 39 - j) % 40 * 49 + i - 0) = (x + 39 - j) % 40 * 49 + i by omega]
    exact a3 j hj i hi
theorem s161 {T U : Nat} (hT : pc_to T) (hU : pc_to U) (hTU : T ≠ U) (hl : t.length ≤ 6) (ha : pc_T h U t) : am_RV (am_run am_M 161 [.ref T, .ref U] h) (fun g => pc_T g T t ∧ am_kp (fun i _ => decide (i = T ∨ i = T + 1 ∨ i = T + 2)) h g) := by
  have hd : T + 1 ≠ U + 1 ∧ T + 1 ≠ U + 2 ∧ T + 2 ≠ U + 1 ∧ T + 2 ≠ U + 2 ∧ T ≠ U + 1 ∧ T ≠ U + 2 ∧ T + 1 ≠ U ∧ T + 2 ≠ U ∧ T < 98 ∧ U < 98 := by unfold pc_to at hT hU; omega
  rw [e161, pc_tch hU, pc_tg0 hU, pc_tch hT, pc_tg0 hT, copyRow_ok (pc_t1 hU) (by omega) (by omega) (pc_t1 hT) (by omega) (by omega) (by omega) (show 0 + 6 ≤ 7 by omega) (show 0 + 6 ≤ 7 by omega), am_bV_ok, pc_tch hU, pc_tg1 hU, pc_tch hT, pc_tg1 hT, copyRow_ok (pc_t2 hU) (by omega) (by omega) (pc_t2 hT) (by omega) (by omega) (by omega) (show 0 + 6 ≤ 7 by omega) (show 0 + 6 ≤ 7 by omega), am_bV_ok, pc_tch hU, pc_tch hT]
  refine ⟨_, rfl, ⟨?_, fun j hj => ⟨?_, ?_⟩⟩, (((am_kp.refl _ _).wr _ (fun k => decide_eq_true (by omega))).wr _ (fun k => decide_eq_true (by omega))).sI _ (decide_eq_true (by omega))⟩
  · rw [am_I_s, am_I_w1 _ _ _ (by omega), am_I_w1 _ _ _ (by omega)]; exact ha.1
  · rw [am_I_s1 _ _ _ _ (by omega), am_I_w1 _ _ _ (by omega), am_I_w, if_pos (by omega), show 0 + (j - 0) = j by omega]; exact (ha.2 j hj).1
  · rw [am_I_s1 _ _ _ _ (by omega), am_I_w, if_pos (by omega), am_I_w1 _ _ _ (by omega), show 0 + (j - 0) = j by omega]; exact (ha.2 j hj).2
/-- the model's rows copied -/
theorem s183s {r q n : Nat} (hr1 : am_ty r = (16, n)) (hr : r < 100) (hq1 : am_ty q = (16, n)) (hq : q < 100) (hn : n < 2 ^ 31) (hrq : r ≠ q) : am_RV (am_run am_M 183 [.ref 60, .ref r, .ref q] h) (fun g => (∀ k, k < n → am_I g q k = am_I h r k) ∧ am_kp (fun i _ => decide (i = q)) h g) := by
  rw [s183 hr1 hr hq1 hq (Nat.le_refl _) hn hrq]
  exact ⟨_, rfl, fun k hk => by rw [am_I_w, if_pos hk], (am_kp.refl _ _).wr _ (fun k => decide_eq_true rfl)⟩
end
theorem pm_A.cp {h g : am_H} {c r c' r' : Nat} {l : List (Nat → Nat)} (a : pm_A h c r l) (hl : l.length ≤ 40) (e : am_I g 60 c' = am_I h 60 c) (e2 : ∀ k, k < 1600 → am_I g r' k = am_I h r k) : pm_A g c' r' l := by
  refine ⟨e.trans a.1, fun j hj => (a.2 j hj).mv fun i hi => e2 _ (by omega)⟩
theorem pm_T.cp {h g : am_H} {c r c' r' : Nat} {l : List (Nat × Nat)} (a : pm_T h c r l) (hl : l.length ≤ 6) (e : am_I g 60 c' = am_I h 60 c) (e2 : ∀ k, k < 14 → am_I g r' k = am_I h r k) : pm_T g c' r' l := by
  refine ⟨e.trans a.1, fun j hj => ⟨(e2 _ (by omega)).trans (a.2 j hj).1, (e2 _ (by omega)).trans (a.2 j hj).2⟩⟩
theorem call_image {w : pw_W} (hw : pw_wf w) : am_AV w (fun h => am_run am_M 45 [.ref 0] h) (fun h => am_run am_M 297 [.ref 60] h) := by
  obtain ⟨d, S, l, t, im, tp, nb, fp, rf⟩ := w
  have hw0 := hw
  obtain ⟨ho, hS, ha, ht, hi, hnb, htp⟩ := hw
  have hl6 := ht.1
  have ha4 := ha.1
  refine ⟨(d, S, l, t, some (S, l, t), tp, nb, fp, rf), ⟨ho, hS, ha, ht, ⟨hS, ha, ht⟩, hnb, htp⟩, fun h hc => ?_, fun h hm => ?_⟩
  · have hc0 := hc
    obtain ⟨⟨L, hL, r1, r2, c1⟩, c2, c3, c4, c5, c6, c7, c8, c9⟩ := hc
    show am_RV (am_run am_M 45 [.ref 0] h) _
    rw [e45]
    refine pz_VV (s156s (s := 27) (r := 20) (Or.inr (Or.inl rfl)) (Or.inl rfl) (by omega) c2) fun g1 h1 => ?_
    obtain ⟨p1, k1⟩ := h1
    refine pz_VV (s74 (A := 29) (B := 22) (Or.inr rfl) (Or.inl rfl) (by omega) (c3.fr (funext fun k => k1.get _ _ (decide_eq_false (by omega))) (funext fun k => k1.get _ _ (decide_eq_false (by omega))))) fun g2 h2 => ?_
    obtain ⟨p2, k2⟩ := h2
    have k12 : am_kp (fun i _ => decide (28 ≤ i ∧ i ≤ 33)) h g2 := (k1.up fun i k hs => decide_eq_false (by have := of_decide_eq_false hs; omega)).trans (k2.up fun i k hs => decide_eq_false (by have := of_decide_eq_false hs; omega))
    refine pz_VV (s161 (T := 31) (U := 24) (Or.inr rfl) (Or.inl rfl) (by omega) hl6 (c4.fr (funext fun k => k12.get _ _ (decide_eq_false (by omega))) (funext fun k => k12.get _ _ (decide_eq_false (by omega))) (funext fun k => k12.get _ _ (decide_eq_false (by omega))))) fun g3 h3 => ?_
    obtain ⟨p3, k3⟩ := h3
    rw [if_pos (by decide)]
    have k13 : am_kp (fun i k => decide (28 ≤ i ∧ i ≤ 33 ∨ i = 0 ∧ k = 12)) h (am_sI g3 0 12 (nI 1)) := ((k12.up fun i k hs => decide_eq_false (by have := of_decide_eq_false hs; omega)).trans (k3.up fun i k hs => decide_eq_false (by have := of_decide_eq_false hs; omega))).sI _ (decide_eq_true (by omega))
    have s1 : pc_S (am_sI g3 0 12 (nI 1)) 28 S := p1.fr (funext fun k => by rw [am_I_s1 _ _ _ _ (by omega), k3.get _ _ (decide_eq_false (by omega)), k2.get _ _ (decide_eq_false (by omega))])
    have s2 : pc_A (am_sI g3 0 12 (nI 1)) 29 l := p2.fr (funext fun k => by rw [am_I_s1 _ _ _ _ (by omega), k3.get _ _ (decide_eq_false (by omega))]) (funext fun k => by rw [am_I_s1 _ _ _ _ (by omega), k3.get _ _ (decide_eq_false (by omega))])
    have s3 : pc_T (am_sI g3 0 12 (nI 1)) 31 t := p3.fr (am_I_s1 _ _ _ _ (by omega)) (am_I_s1 _ _ _ _ (by omega)) (am_I_s1 _ _ _ _ (by omega))
    have s0 : am_I (am_sI g3 0 12 (nI 1)) 0 12 = nI 1 := am_I_s _ _ _ _
    refine ⟨_, rfl, ?_⟩
    generalize am_sI g3 0 12 (nI 1) = g at k13 s0 s1 s2 s3 ⊢
    have ee : ∀ i, i ≠ 0 → ¬ (28 ≤ i ∧ i ≤ 33) → am_I g i = am_I h i := fun i h1 h2 => funext fun k => k13.get i k (decide_eq_false (by omega))
    refine ⟨hc0.upd k13.R (fun i h1 h2 => ee i (by omega) (by omega)) (k13.get _ _ (decide_eq_false (by omega))) (c2.fr (ee _ (by omega) (by omega))) (c3.fr (ee _ (by omega) (by omega)) (ee _ (by omega) (by omega))) (c4.fr (ee _ (by omega) (by omega)) (ee _ (by omega) (by omega)) (ee _ (by omega) (by omega))) ⟨s0, s1, s2, s3⟩ ?_ (fun j hj => ?_) (fun j hj => ?_), k13.fc fun i k hi => decide_eq_false (by omega)⟩
    · rw [ee _ (by omega) (by omega)]; exact c6
    · rw [ee _ (by omega) (by omega)]; exact c7 j hj
    · rw [ee _ (by omega) (by omega)]; exact c9 j hj
  · show am_RV (am_run am_M 297 [.ref 60] h) _
    obtain ⟨hm0, ht0, hf0⟩ := m_start hm
    rw [e297]
    generalize am_sI h 60 0 (nI 0) = g at hm0 ht0 hf0 ⊢
    dsimp only
    have hm1 := hm0
    obtain ⟨m1, m2, m3, m4, m5, m6, m7, m8, m9, m10, m11, m12⟩ := hm1
    rw [if_pos (by decide), am_I_s2 _ _ _ _ (show 58 ≠ 74 by omega), am_I_s2 _ _ _ _ (show 70 ≠ 75 by omega), am_I_s2 _ _ _ _ (show 70 ≠ 74 by omega), m3.1, m4.1]
    have k0 : am_kp (fun i k => decide (i = 60 ∧ (k = 74 ∨ k = 75 ∨ k = 76) ∨ 96 ≤ i ∧ i ≤ 98)) g (am_sI (am_sI (am_sI g 60 74 (nI 1)) 60 75 (nI l.length)) 60 76 (nI t.length)) := (((am_kp.refl _ _).sI _ (decide_eq_true (by omega))).sI _ (decide_eq_true (by omega))).sI _ (decide_eq_true (by omega))
    have q74 : am_I (am_sI (am_sI (am_sI g 60 74 (nI 1)) 60 75 (nI l.length)) 60 76 (nI t.length)) 60 74 = nI 1 := by rw [am_I_s2 _ _ _ _ (by omega), am_I_s2 _ _ _ _ (by omega), am_I_s]
    have q75 : am_I (am_sI (am_sI (am_sI g 60 74 (nI 1)) 60 75 (nI l.length)) 60 76 (nI t.length)) 60 75 = nI l.length := by rw [am_I_s2 _ _ _ _ (by omega), am_I_s]
    have q76 : am_I (am_sI (am_sI (am_sI g 60 74 (nI 1)) 60 75 (nI l.length)) 60 76 (nI t.length)) 60 76 = nI t.length := am_I_s _ _ _ _
    generalize am_sI (am_sI (am_sI g 60 74 (nI 1)) 60 75 (nI l.length)) 60 76 (nI t.length) = g0 at k0 q74 q75 q76 ⊢
    refine pz_VV (s183s (r := 85) (q := 96) (n := 40) rfl (by omega) rfl (by omega) (by omega) (by omega)) fun g1 h1 => ?_
    refine pz_VV (s183s (r := 87) (q := 97) (n := 1600) rfl (by omega) rfl (by omega) (by omega) (by omega)) fun g2 h2 => ?_
    refine pz_VV (s183s (r := 94) (q := 98) (n := 14) rfl (by omega) rfl (by omega) (by omega) (by omega)) fun g3 h3 => ?_
    obtain ⟨p1, k1⟩ := h1
    obtain ⟨p2, k2⟩ := h2
    obtain ⟨p3, k3⟩ := h3
    have kk : am_kp (fun i k => decide (i = 60 ∧ (k = 74 ∨ k = 75 ∨ k = 76) ∨ 96 ≤ i ∧ i ≤ 98)) g g3 := ((k0.trans (k1.up fun i k hs => decide_eq_false (by have := of_decide_eq_false hs; omega))).trans (k2.up fun i k hs => decide_eq_false (by have := of_decide_eq_false hs; omega))).trans (k3.up fun i k hs => decide_eq_false (by have := of_decide_eq_false hs; omega))
    have e60 : ∀ k, am_I g3 60 k = am_I g0 60 k := fun k => by rw [k3.get _ _ (decide_eq_false (by omega)), k2.get _ _ (decide_eq_false (by omega)), k1.get _ _ (decide_eq_false (by omega))]
    have f1 : ∀ k, k < 40 → am_I g3 96 k = am_I g 85 k := fun k hk => by rw [k3.get _ _ (decide_eq_false (by omega)), k2.get _ _ (decide_eq_false (by omega)), p1 k hk, k0.get _ _ (decide_eq_false (by omega))]
    have f2 : ∀ k, k < 1600 → am_I g3 97 k = am_I g 87 k := fun k hk => by rw [k3.get _ _ (decide_eq_false (by omega)), p2 k hk, k1.get _ _ (decide_eq_false (by omega)), k0.get _ _ (decide_eq_false (by omega))]
    have f3 : ∀ k, k < 14 → am_I g3 98 k = am_I g 94 k := fun k hk => by rw [p3 k hk, k2.get _ _ (decide_eq_false (by omega)), k1.get _ _ (decide_eq_false (by omega)), k0.get _ _ (decide_eq_false (by omega))]
    have ee : ∀ i, i ≠ 60 → ¬ (96 ≤ i ∧ i ≤ 98) → am_I g3 i = am_I g i := fun i h1 h2 => funext fun k => kk.get i k (decide_eq_false (by omega))
    have e6 : ∀ k, ¬ (k = 74 ∨ k = 75 ∨ k = 76) → am_I g3 60 k = am_I g 60 k := fun k hk => kk.get 60 k (decide_eq_false (by omega))
    refine ⟨_, rfl, (e6 0 (by omega)).trans ht0, hm0.upd (fun k _ _ => e6 k (by omega)) (fun i h1 h2 => ee i (by omega) (by omega)) (fun k _ => e6 k (by omega)) (m2.fr (ee _ (by omega) (by omega))) (m3.fr (e6 _ (by omega)) (ee _ (by omega) (by omega))) (m4.fr (e6 _ (by omega)) (ee _ (by omega) (by omega))) ⟨(e60 74).trans q74, m2.mv (fun i hi => f1 _ (by omega)), m3.cp ha4 (by rw [e60, q75, m3.1]) f2, m4.cp hl6 (by rw [e60, q76, m4.1]) f3⟩ ((e6 _ (by omega)).trans m6) (fun j hj => ?_) (fun j hj => ?_), hf0.trans (kk.fm fun i k hi => decide_eq_false (by omega))⟩
    · rw [ee _ (by omega) (by omega)]; exact m7 j hj
    · rw [ee _ (by omega) (by omega)]; exact m9 j hj
theorem call_restore {w : pw_W} (hw : pw_wf w) : am_AG 0 (fun e => e) w (fun h => am_run am_M 46 [.ref 0] h) (fun h => am_run am_M 298 [.ref 60] h) := by
  obtain ⟨d, S, l, t, im, tp, nb, fp, rf⟩ := w
  have hw0 := hw
  obtain ⟨ho, hS, ha, ht, hi, hnb, htp⟩ := hw
  match im, hi with
  | none, _ =>
    refine ⟨0, nI 0, (d, S, l, t, none, tp, nb, fp, rf), hw0, ⟨by omega, fun hh => by first | exact absurd rfl hh | rfl⟩, fun h hc => ?_, fun h hm => ?_⟩
    · have hc0 := hc
      obtain ⟨⟨L, hL, r1, r2, c1⟩, c2, c3, c4, c5, c6, c7, c8, c9⟩ := hc
      refine am_CO_0 ?_
      show am_RI (am_run am_M 46 [.ref 0] h) _
      have c5' : am_I h 0 12 = 0 := c5
      rw [e46, if_pos c5', if_pos (by decide)]
      exact ⟨_, _, rfl, rfl, hc0, am_fc.refl _⟩
    · show am_RI (am_run am_M 298 [.ref 60] h) _
      obtain ⟨hm0, ht0, hf0⟩ := m_start hm
      rw [e298]
      generalize am_sI h 60 0 (nI 0) = g at hm0 ht0 hf0 ⊢
      dsimp only
      have hm1 := hm0
      obtain ⟨m1, m2, m3, m4, m5, m6, m7, m8, m9, m10, m11, m12⟩ := hm1
      have m5' : am_I g 60 74 = 0 := m5
      rw [if_pos m5', if_pos (by decide)]
      exact ⟨_, _, rfl, am_fin_m hf0 hm0 (am_kp.refl _ _) ht0 (fun _ => rfl)⟩
  | some (S', l', t'), hi =>
    obtain ⟨hS', ha', ht'⟩ := hi
    have hl6 := ht'.1
    have ha4 := ha'.1
    refine ⟨0, nI 1, (d, S', l', t', some (S', l', t'), tp, nb, fp, rf), ⟨ho, hS', ha', ht', ⟨hS', ha', ht'⟩, hnb, htp⟩, ⟨by omega, fun hh => by first | exact absurd rfl hh | rfl⟩, fun h hc => ?_, fun h hm => ?_⟩
    · have hc0 := hc
      obtain ⟨⟨L, hL, r1, r2, c1⟩, c2, c3, c4, c5, c6, c7, c8, c9⟩ := hc
      refine am_CO_0 ?_
      show am_RI (am_run am_M 46 [.ref 0] h) _
      have c50 := c5
      obtain ⟨b0, b1, b2, b3⟩ := c5
      rw [e46, b0, if_neg (by decide)]
      refine pz_VI (s156s (s := 20) (r := 27) (Or.inl rfl) (Or.inr (Or.inl rfl)) (by omega) b1) fun g1 h1 => ?_
      obtain ⟨p1, k1⟩ := h1
      refine pz_VI (s74 (A := 22) (B := 29) (Or.inl rfl) (Or.inr rfl) (by omega) (b2.fr (funext fun k => k1.get _ _ (decide_eq_false (by omega))) (funext fun k => k1.get _ _ (decide_eq_false (by omega))))) fun g2 h2 => ?_
      obtain ⟨p2, k2⟩ := h2
      have k12 : am_kp (fun i _ => decide (21 ≤ i ∧ i ≤ 26)) h g2 := (k1.up fun i k hs => decide_eq_false (by have := of_decide_eq_false hs; omega)).trans (k2.up fun i k hs => decide_eq_false (by have := of_decide_eq_false hs; omega))
      refine pz_VI (s161 (T := 24) (U := 31) (Or.inl rfl) (Or.inr rfl) (by omega) hl6 (b3.fr (funext fun k => k12.get _ _ (decide_eq_false (by omega))) (funext fun k => k12.get _ _ (decide_eq_false (by omega))) (funext fun k => k12.get _ _ (decide_eq_false (by omega))))) fun g h3 => ?_
      obtain ⟨p3, k3⟩ := h3
      rw [if_pos (by decide)]
      have kk : am_kp (fun i k => decide (21 ≤ i ∧ i ≤ 26)) h g := k12.trans (k3.up fun i k hs => decide_eq_false (by have := of_decide_eq_false hs; omega))
      have s1 : pc_S g 21 S' := p1.fr (funext fun k => by rw [k3.get _ _ (decide_eq_false (by omega)), k2.get _ _ (decide_eq_false (by omega))])
      have s2 : pc_A g 22 l' := p2.fr (funext fun k => k3.get _ _ (decide_eq_false (by omega))) (funext fun k => k3.get _ _ (decide_eq_false (by omega)))
      have ee : ∀ i, ¬ (21 ≤ i ∧ i ≤ 26) → am_I g i = am_I h i := fun i h1 => funext fun k => kk.get i k (decide_eq_false (by omega))
      refine ⟨_, _, rfl, rfl, hc0.upd kk.R (fun i h1 h2 => ee i (by omega)) (by rw [ee _ (by omega)]) s1 s2 p3 (pc_im.fr (i := some (S', l', t')) c50 (by rw [ee _ (by omega)]) (fun j h1 h2 => ee j (by omega))) ?_ (fun j hj => ?_) (fun j hj => ?_), kk.fc fun i k hi => decide_eq_false (by omega)⟩
      · rw [ee _ (by omega)]; exact c6
      · rw [ee _ (by omega)]; exact c7 j hj
      · rw [ee _ (by omega)]; exact c9 j hj
    · show am_RI (am_run am_M 298 [.ref 60] h) _
      obtain ⟨hm0, ht0, hf0⟩ := m_start hm
      rw [e298]
      generalize am_sI h 60 0 (nI 0) = g at hm0 ht0 hf0 ⊢
      dsimp only
      have hm1 := hm0
      obtain ⟨m1, m2, m3, m4, m5, m6, m7, m8, m9, m10, m11, m12⟩ := hm1
      have m50 := m5
      obtain ⟨b0, b1, b2, b3⟩ := m5
      rw [b0, if_neg (by decide), am_I_s2 _ _ _ _ (show 76 ≠ 58 by omega), b2.1, b3.1]
      have k0 : am_kp (fun i k => decide (i = 60 ∧ (k = 58 ∨ k = 70) ∨ i = 85 ∨ i = 87 ∨ i = 94)) g (am_sI (am_sI g 60 58 (nI l'.length)) 60 70 (nI t'.length)) := ((am_kp.refl _ _).sI _ (decide_eq_true (by omega))).sI _ (decide_eq_true (by omega))
      have q58 : am_I (am_sI (am_sI g 60 58 (nI l'.length)) 60 70 (nI t'.length)) 60 58 = nI l'.length := by rw [am_I_s2 _ _ _ _ (by omega), am_I_s]
      have q70 : am_I (am_sI (am_sI g 60 58 (nI l'.length)) 60 70 (nI t'.length)) 60 70 = nI t'.length := am_I_s _ _ _ _
      generalize am_sI (am_sI g 60 58 (nI l'.length)) 60 70 (nI t'.length) = g0 at k0 q58 q70 ⊢
      refine pz_VI (s183s (r := 96) (q := 85) (n := 40) rfl (by omega) rfl (by omega) (by omega) (by omega)) fun g1 h1 => ?_
      refine pz_VI (s183s (r := 97) (q := 87) (n := 1600) rfl (by omega) rfl (by omega) (by omega) (by omega)) fun g2 h2 => ?_
      refine pz_VI (s183s (r := 98) (q := 94) (n := 14) rfl (by omega) rfl (by omega) (by omega) (by omega)) fun g3 h3 => ?_
      rw [if_pos (by decide)]
      obtain ⟨p1, k1⟩ := h1
      obtain ⟨p2, k2⟩ := h2
      obtain ⟨p3, k3⟩ := h3
      have kk : am_kp (fun i k => decide (i = 60 ∧ (k = 58 ∨ k = 70) ∨ i = 85 ∨ i = 87 ∨ i = 94)) g g3 := ((k0.trans (k1.up fun i k hs => decide_eq_false (by have := of_decide_eq_false hs; omega))).trans (k2.up fun i k hs => decide_eq_false (by have := of_decide_eq_false hs; omega))).trans (k3.up fun i k hs => decide_eq_false (by have := of_decide_eq_false hs; omega))
      have e60 : ∀ k, am_I g3 60 k = am_I g0 60 k := fun k => by rw [k3.get _ _ (decide_eq_false (by omega)), k2.get _ _ (decide_eq_false (by omega)), k1.get _ _ (decide_eq_false (by omega))]
      have f1 : ∀ k, k < 40 → am_I g3 85 k = am_I g 96 k := fun k hk => by rw [k3.get _ _ (decide_eq_false (by omega)), k2.get _ _ (decide_eq_false (by omega)), p1 k hk, k0.get _ _ (decide_eq_false (by omega))]
      have f2 : ∀ k, k < 1600 → am_I g3 87 k = am_I g 97 k := fun k hk => by rw [k3.get _ _ (decide_eq_false (by omega)), p2 k hk, k1.get _ _ (decide_eq_false (by omega)), k0.get _ _ (decide_eq_false (by omega))]
      have f3 : ∀ k, k < 14 → am_I g3 94 k = am_I g 98 k := fun k hk => by rw [p3 k hk, k2.get _ _ (decide_eq_false (by omega)), k1.get _ _ (decide_eq_false (by omega)), k0.get _ _ (decide_eq_false (by omega))]
      have ee : ∀ i, ¬ (i = 60 ∨ i = 85 ∨ i = 87 ∨ i = 94) → am_I g3 i = am_I g i := fun i h1 => funext fun k => kk.get i k (decide_eq_false (by omega))
      have e6 : ∀ k, ¬ (k = 58 ∨ k = 70) → am_I g3 60 k = am_I g 60 k := fun k hk => kk.get 60 k (decide_eq_false (by omega))
      refine ⟨_, _, rfl, fun _ => rfl, (e6 0 (by omega)).trans ht0, hm0.upd (fun k _ _ => e6 k (by omega)) (fun i h1 h2 => ee i (by omega)) (fun k _ => e6 k (by omega)) (b1.mv (fun i hi => f1 _ (by omega))) (b2.cp ha4 (by rw [e60, q58, b2.1]) f2) (b3.cp hl6 (by rw [e60, q70, b3.1]) f3) (pm_im.fr (i := some (S', l', t')) m50 (fun k hk => e6 k (by omega)) (fun j h1 h2 => ee j (by omega))) ((e6 _ (by omega)).trans m6) (fun j hj => ?_) (fun j hj => ?_), hf0.trans (kk.fm fun i k hi => decide_eq_false (by omega))⟩
      · rw [ee _ (by omega)]; exact m7 j hj
      · rw [ee _ (by omega)]; exact m9 j hj
