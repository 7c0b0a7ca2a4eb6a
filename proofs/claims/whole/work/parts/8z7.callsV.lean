section
/-! CALLS: winter -/
theorem am_R_sR (h : am_H) (i k : Nat) (v : Option Nat) : am_R (am_sR h i k v) i k = v := by
  show (if i = i then fun b => if b = k then v else am_R h i b else am_R h i) k = v
  rw [if_pos rfl]
  exact if_pos rfl
theorem am_R_sR2 (h : am_H) (i k : Nat) (v : Option Nat) {a b : Nat} (hab : ¬ (a = i ∧ b = k)) : am_R (am_sR h i k v) a b = am_R h a b := by
  show (if a = i then fun b => if b = k then v else am_R h i b else am_R h a) b = am_R h a b
  by_cases ha : a = i
  · rw [if_pos ha, ha]
    exact if_neg (fun hb => hab ⟨ha, hb⟩)
  · rw [if_neg ha]
theorem am_I_sR (h : am_H) (i k : Nat) (v : Option Nat) : am_I (am_sR h i k v) = am_I h := rfl
theorem am_fc.sR {h g : am_H} (a : am_fc h g) (i k : Nat) (v : Option Nat) : am_fc h (am_sR g i k v) := ⟨a.1, a.2.1, a.2.2.1, a.2.2.2.1, a.2.2.2.2⟩
theorem am_cd_l {α : Type} {L : Nat} (h : L < 100) (a b : Option α) : am_cd (Nat.blt L 100 || Nat.blt 999 L) a b = a := by
  rw [pz_bl h]; rfl
theorem call_winter {w : pw_W} (hw : pw_wf w) (x : Int32) : am_AG 1 (fun _ => 2) w (fun h => am_run am_M 2 [.ref 0, .int x] h) (fun h => am_run am_M 219 [.ref 60, .int x] h) := by
  obtain ⟨d, S, l, t, im, tp, nb, fp, rf⟩ := w
  have hw0 := hw
  obtain ⟨ho, hS, ha, ht, hi, hnb, htp⟩ := hw
  rcases Classical.em (pz_b x (nb + 1)) with hx | hx
  rotate_left
  · have hb := pz_b_n2 (m := nb) (by omega) hx
    refine ⟨1, 0, (d, S, l, t, im, tp, nb, fp, rf), hw0, ⟨by omega, fun hh => by first | exact absurd rfl hh | rfl⟩, fun h hc => ?_, fun h hm => ?_⟩
    · obtain ⟨⟨L, hL, r1, r2, c1⟩, c2, c3, c4, c5, c6, c7, c8, c9⟩ := hc
      refine am_CO_x (by decide) ?_
      show am_run am_M 2 [.ref 0, .int x] h = _
      rw [e2, c6]
      rcases hb with c | c
      · exact if_pos c
      · split
        · rfl
        · first | rfl | exact if_neg c
    · show am_RI (am_run am_M 219 [.ref 60, .int x] h) _
      obtain ⟨hm0, ht0, hf0⟩ := m_start hm
      rw [e219]
      generalize am_sI h 60 0 (nI 0) = g at hm0 ht0 hf0 ⊢
      dsimp only
      have hm1 := hm0
      obtain ⟨m1, m2, m3, m4, m5, m6, m7, m8, m9, m10, m11, m12⟩ := hm1
      have key : ∀ P : Int32 → am_H → Prop, P (nI 0) (am_sI g 60 0 (nI 1)) → am_RI (am_vn am_M 7 219 23 [some (.ref 60), some (.int x), none] [.int (nI 0), .ref 60] g) P := fun P hP => by
        rw [e219_23, s179_f ht0 (by omega), am_bI_ok, if_pos (show nI 0 = 0 from rfl)]
        exact ⟨_, _, rfl, hP⟩
      rw [m6]
      rcases hb with c | c
      · rw [if_pos c]
        exact key _ (am_fin_x hf0 hm0 (by decide))
      · rw [if_pos (Int32.not_le.mp c)]
        split
        · exact key _ (am_fin_x hf0 hm0 (by decide))
        · exact key _ (am_fin_x hf0 hm0 (by decide))
  obtain ⟨n, hx, rfl⟩ := hx
  have hn : n ≤ 700 := by omega
  have H := wn_all_H (tp := tp) hn
  have MM : ∀ h g, pI_m g (d, S, l, t, im, tp, nb, fp, rf) → am_I g 60 0 = nI 0 → g = am_sI h 60 0 (nI 0) → ∃ g', am_run am_M 219 [.ref 60, .int (nI n)] h = am_vn am_M 7 219 143 [some (.ref 60), none, none] [] g' ∧ wm_k wg_A g g' ∧ am_I g' 60 18 = nI 0 ∧ wm_end g' (wn_all tp n) := fun h g hm ht0 hg => by
    obtain ⟨m1, m2, m3, m4, m5, m6, m7, m8, m9, m10, m11, m12⟩ := hm
    obtain ⟨g', e, r⟩ := s219_a (tp := tp) ht0 hn htp (fun j hj => m7 j (by omega))
    refine ⟨g', ?_, r⟩
    rw [e219]
    rw [← hg]
    dsimp only
    rw [m6, if_neg (nI_pos (by omega)), if_neg (nI_nlt (by omega) (by omega))]
    exact e
  have hL1 : ∀ {L : Nat}, pc_lo L → pc_lo (46 - L) := fun hL => by unfold pc_lo at hL ⊢; omega
  cases hr : wn_all tp n with
  | inl q =>
    obtain ⟨f, p⟩ := q
    rw [hr] at H
    have hf : 1 ≤ f ∧ f ≤ 6 := H
    refine ⟨0, nI f, (d, S, l, t, im, tp, 0, nI p, pu rf 0 (rf 0 + 1)), ⟨ho, hS, ha, ht, hi, Nat.zero_le _, htp⟩, ⟨by omega, fun hh => by first | exact absurd rfl hh | rfl⟩, fun h hc => ?_, fun h hm => ?_⟩
    · obtain ⟨⟨L, hL, r1, r2, c1⟩, c2, c3, c4, c5, c6, c7, c8, c9⟩ := hc
      refine am_CO_0 ?_
      show am_RI (am_run am_M 2 [.ref 0, .int (nI n)] h) _
      rw [e2, if_neg (nI_pos (by omega)), c6, if_pos (nI_le (by omega) (by omega))]
      refine pz_II (s108 (hL1 hL) r2 ⟨hn, htp, fun j hj => c7 j (by omega)⟩) fun u g1 h1 => ?_
      rw [hr] at h1
      obtain ⟨k1, b1, b2, b3⟩ := h1
      dsimp only
      rw [b2, if_neg (nI_ne0 hf.1 (by omega)), b3]
      have hlo := hL
      unfold pc_lo at hlo
      have ee : ∀ i, i ≠ 0 → i ≠ 1 → ¬ (46 - L ≤ i ∧ i ≤ 46 - L + 16) → am_I (am_sI g1 0 11 (nI p)) i = am_I h i := fun i h0 h1 h2 => funext fun k => by
        rw [am_I_s1 _ _ _ _ h0]; exact k1.get _ _ (wf_R_f (by omega))
      have hp : pI_c (am_sI g1 0 11 (nI p)) (d, S, l, t, im, tp, 0, nI p, rf) := by
        refine ⟨⟨L, hL, ?_, ?_, c1.fr fun i hi => ee i (by unfold pc_rl at hi; omega) (by unfold pc_rl at hi; omega) (by unfold pc_rl at hi; omega)⟩, c2.fr (ee _ (by omega) (by omega) (by omega)), c3.fr (ee _ (by omega) (by omega) (by omega)) (ee _ (by omega) (by omega) (by omega)), c4.fr (ee _ (by omega) (by omega) (by omega)) (ee _ (by omega) (by omega) (by omega)) (ee _ (by omega) (by omega) (by omega)), c5.fr ?_ (fun j h1 h2 => ee j (by omega) (by omega) (by omega)), ?_, fun j hj => absurd hj (Nat.not_lt_zero j), am_I_s _ _ _ _, fun j hj => ?_⟩
        · show am_R g1 0 10 = _
          rw [k1.R]; exact r1
        · show am_R g1 1 2 = _
          rw [k1.R]; exact r2
        · rw [am_I_s2 _ _ _ _ (by omega)]; exact k1.get _ _ (wf_R_f (by omega))
        · rw [am_I_s1 _ _ _ _ (by omega)]; exact b1
        · rw [ee _ (by omega) (by omega) (by omega)]; exact c9 j hj
      obtain ⟨g2, e, f1, f2⟩ := c_refuse hp (k := 0) (by omega)
      rw [e, am_bI_ok]
      exact ⟨_, _, rfl, rfl, f1, ((k1.fc fun i k hi => wf_R_f (by omega)).sI (by omega) _ _).trans f2⟩
    · show am_RI (am_run am_M 219 [.ref 60, .int (nI n)] h) _
      obtain ⟨hm0, ht0, hf0⟩ := m_start hm
      obtain ⟨g', e, k1, v18, en⟩ := MM h _ hm0 ht0 rfl
      rw [e]
      generalize am_sI h 60 0 (nI 0) = g at hm0 ht0 hf0 k1
      rw [hr] at en
      have hm1 := hm0
      obtain ⟨m1, m2, m3, m4, m5, m6, m7, m8, m9, m10, m11, m12⟩ := hm1
      have ee : ∀ i, i ≠ 60 → ¬ (72 ≤ i ∧ i ≤ 84) → am_I g' i = am_I g i := fun i h0 h1 => funext fun k => k1.get _ _ (wg_A_f (by omega))
      have e6 : ∀ k, ¬ (18 ≤ k ∧ k ≤ 41) → am_I g' 60 k = am_I g 60 k := fun k h0 => k1.get _ _ (wg_A_f (by omega))
      have m9' : am_I g' 71 0 = nI (rf 0) := by rw [ee _ (by omega) (by omega)]; exact m9 0 (by omega)
      rw [e219_143, s195f en, am_bI_ok, if_pos (show nI 0 = 0 from rfl), ml_71 (show 0 < 3 by omega), ms_71 (show 0 < 3 by omega), m9', pz_succ, am_I_s1 _ _ _ _ (show 60 ≠ 71 by omega), en.1]
      have ee2 : ∀ i, i ≠ 60 → i ≠ 71 → ¬ (72 ≤ i ∧ i ≤ 84) → am_I (am_sI g' 71 0 (nI (rf 0 + 1))) i = am_I g i := fun i h0 h2 h1 => (am_I_s1 _ _ _ _ h2).trans (ee i h0 h1)
      have e62 : ∀ k, ¬ (18 ≤ k ∧ k ≤ 41) → am_I (am_sI g' 71 0 (nI (rf 0 + 1))) 60 k = am_I g 60 k := fun k h0 => by rw [am_I_s1 _ _ _ _ (show 60 ≠ 71 by omega)]; exact e6 k h0
      refine ⟨_, _, rfl, fun _ => rfl, (e62 0 (by omega)).trans ht0, ⟨m1.fr (fun k h1 h2 => e62 k (by omega)) (fun i h1 h2 => ee2 i (by omega) (by omega) (by omega)), m2.fr (ee2 _ (by omega) (by omega) (by omega)), m3.fr (e62 _ (by omega)) (ee2 _ (by omega) (by omega) (by omega)), m4.fr (e62 _ (by omega)) (ee2 _ (by omega) (by omega) (by omega)), m5.fr (fun k hk => e62 k (by omega)) (fun j h1 h2 => ee2 j (by omega) (by omega) (by omega)), ?_, fun j hj => absurd hj (Nat.not_lt_zero j), ?_, fun j hj => ?_, (e62 _ (by omega)).trans m10, (e62 _ (by omega)).trans m11, (e62 _ (by omega)).trans m12⟩, hf0.trans ((k1.fm fun i k hi => wg_A_f (by omega)).sI (by omega) _ _)⟩
      · rw [am_I_s1 _ _ _ _ (show 60 ≠ 71 by omega)]; exact v18
      · rw [am_I_s1 _ _ _ _ (show 60 ≠ 71 by omega)]; exact en.2.2
      · rw [am_I_sc]
        unfold pu
        by_cases e : j = 0
        · rw [if_pos ⟨rfl, e⟩, if_pos e]
        · rw [if_neg (fun h => e h.2), if_neg e, ee _ (by omega) (by omega)]; exact m9 j hj
  | inr q =>
    obtain ⟨s, d'⟩ := q
    rw [hr] at H
    have hok : wn_ok d' := H.2
    have hSL := wn_S_SL hok
    refine ⟨0, nI 0, (d', wn_S d', [], [], none, tp, 0, (-1 : Int32), rf), ⟨hok.1, hSL, ⟨Nat.zero_le _, fun x hx => absurd hx List.not_mem_nil⟩, ⟨Nat.zero_le _, fun x hx => absurd hx List.not_mem_nil⟩, trivial, Nat.zero_le _, htp⟩, ⟨by omega, fun hh => by first | exact absurd rfl hh | rfl⟩, fun h hc => ?_, fun h hm => ?_⟩
    · obtain ⟨⟨L, hL, r1, r2, c1⟩, c2, c3, c4, c5, c6, c7, c8, c9⟩ := hc
      refine am_CO_0 ?_
      show am_RI (am_run am_M 2 [.ref 0, .int (nI n)] h) _
      rw [e2, if_neg (nI_pos (by omega)), c6, if_pos (nI_le (by omega) (by omega))]
      refine pz_II (s108 (hL1 hL) r2 ⟨hn, htp, fun j hj => c7 j (by omega)⟩) fun u g1 h1 => ?_
      rw [hr] at h1
      obtain ⟨k1, b1, b2, b3, b4, b5⟩ := h1
      have hlo := hL
      unfold pc_lo at hlo
      obtain ⟨M, hM⟩ : ∃ M, M = 46 - L := ⟨_, rfl⟩
      have hLM : pc_lo M := by rw [hM]; exact hL1 hL
      rw [← hM] at k1 b4 b5
      have hr1 : am_R g1 0 10 = some L := by rw [k1.R]; exact r1
      have hr2 : am_R g1 1 2 = some M := by rw [k1.R, hM]; exact r2
      dsimp only
      rw [b2, if_pos (show nI 0 = 0 from rfl), b3]
      have q1 : am_R (am_sI g1 0 11 (-1 : Int32)) 1 2 = some M := hr2
      have q2 : am_R (am_sI g1 0 11 (-1 : Int32)) 0 10 = some L := hr1
      rw [q1, am_gr_n, q2, am_gr_n, am_cd_l (by omega), am_cd_l (by omega)]
      obtain ⟨Y, hY⟩ : ∃ Y, Y = am_sR (am_sR (am_sI g1 0 11 (-1 : Int32)) 1 2 (some L)) 0 10 (some M) := ⟨_, rfl⟩
      rw [← hY]
      have y1 : am_R Y 0 10 = some M := by rw [hY]; exact am_R_sR _ _ _ _
      have y2 : am_R Y 1 2 = some L := by rw [hY, am_R_sR2 _ _ _ _ (by omega)]; exact am_R_sR _ _ _ _
      have yI : am_I Y = am_I (am_sI g1 0 11 (-1 : Int32)) := by rw [hY]; rfl
      have yf : am_fc h Y := by
        rw [hY]
        exact (((k1.fc fun i k hi => wf_R_f (by omega)).sI (by omega) _ _).sR _ _ _).sR _ _ _
      clear hY
      rw [y1, am_gr_n, pc_lch hLM, pc_lg10 hLM]
      have eY : ∀ i k, ¬ (i = 0 ∧ k = 11) → am_I Y i k = am_I g1 i k := fun i k hh => by rw [yI, am_I_sc, if_neg hh]
      refine pz_VI (s156s (s := 20) (r := M + 15) (S := wn_S d') (Or.inl rfl) (by unfold pc_so; unfold pc_lo at hLM; omega) (by omega) (fun i hi => (eY _ _ (by omega)).trans (b5 i hi))) fun g2 h2 => ?_
      obtain ⟨p2, k2⟩ := h2
      rw [e71, pc_ach (Or.inl rfl)]
      dsimp only
      rw [am_bV_ok, e158, pc_tch (T := 24) (Or.inl rfl)]
      dsimp only
      rw [am_bV_ok, if_pos (by decide)]
      refine ⟨_, _, rfl, rfl, ?_⟩
      obtain ⟨Z, hZ⟩ : ∃ Z, Z = am_sI (am_sI (am_sI g2 22 2 (nI 0)) 24 2 (nI 0)) 0 12 (nI 0) := ⟨_, rfl⟩
      rw [← hZ]
      have z22 : am_I Z 22 2 = nI 0 := by rw [hZ]; rfl
      have z24 : am_I Z 24 2 = nI 0 := by rw [hZ]; rfl
      have z12 : am_I Z 0 12 = nI 0 := by rw [hZ]; rfl
      have kZ : am_kp (fun i k => decide (i = 22 ∧ k = 2 ∨ i = 24 ∧ k = 2 ∨ i = 0 ∧ k = 12 ∨ i = 21)) Y Z := by
        rw [hZ]
        exact (((k2.up fun i k hi => decide_eq_false (fun c => by have := of_decide_eq_false hi; omega)).sI _ (decide_eq_true (by omega))).sI _ (decide_eq_true (by omega))).sI _ (decide_eq_true (by omega))
      have z21 : pc_S Z 21 (wn_S d') := by
        rw [hZ]
        exact fun i hi => by rw [am_I_s1 _ _ _ _ (by omega), am_I_s1 _ _ _ _ (by omega), am_I_s1 _ _ _ _ (by omega)]; exact p2 i hi
      clear hZ
      have eZ : ∀ i k, ¬ (i = 22 ∧ k = 2 ∨ i = 24 ∧ k = 2 ∨ i = 0 ∧ k = 12 ∨ i = 21) → ¬ (i = 0 ∧ k = 11) → am_I Z i k = am_I g1 i k := fun i k h1 h2 => (kZ.get _ _ (decide_eq_false h1)).trans (eY i k h2)
      refine ⟨⟨⟨M, hLM, by rw [kZ.R]; exact y1, ?_, b4.fr fun i hi => funext fun k => eZ i k (by unfold pc_rl at hi; omega) (by unfold pc_rl at hi; omega)⟩, z21, ?_, ⟨z24, fun j hj => absurd hj (Nat.not_lt_zero j)⟩, z12, (eZ _ _ (by omega) (by omega)).trans b1, fun j hj => absurd hj (Nat.not_lt_zero j), ?_, fun j hj => ?_⟩, yf.trans (kZ.fc fun i k hi => decide_eq_false (by omega))⟩
      · rw [kZ.R, y2]
        congr 1
        omega
      · obtain ⟨x, x1, x2, _⟩ := c3
        exact ⟨x, x1, (eZ _ _ (by omega) (by omega)).trans ((k1.get _ _ (wf_R_f (by omega))).trans x2), z22, fun j hj => absurd hj (Nat.not_lt_zero j)⟩
      · rw [kZ.get _ _ (decide_eq_false (by omega)), yI, am_I_s]
      · rw [eZ _ _ (by omega) (by omega), k1.get _ _ (wf_R_f (by omega))]; exact c9 j hj
    · show am_RI (am_run am_M 219 [.ref 60, .int (nI n)] h) _
      obtain ⟨hm0, ht0, hf0⟩ := m_start hm
      obtain ⟨g', e, k1, v18, en⟩ := MM h _ hm0 ht0 rfl
      rw [e]
      generalize am_sI h 60 0 (nI 0) = g at hm0 ht0 hf0 k1
      rw [hr] at en
      obtain ⟨v19, v20, t', ht', N⟩ := en
      obtain ⟨m1, m2, m3, m4, m5, m6, m7, m8, m9, m10, m11, m12⟩ := hm0
      refine (s219_b v19 hok N ht').mono fun u g2 h2 => ?_
      obtain ⟨hu, k2, b1, b2, b3, b4, b5⟩ := h2
      have e6 : ∀ k, ¬ (18 ≤ k ∧ k ≤ 41) → ¬ (1 ≤ k ∧ k ≤ 7 ∨ k = 58 ∨ k = 70 ∨ k = 74) → am_I g2 60 k = am_I g 60 k := fun k h1 h2 => (k2.get _ _ (wg_B_f (by omega))).trans (k1.get _ _ (wg_A_f (by omega)))
      refine ⟨fun _ => hu, (e6 0 (by omega) (by omega)).trans ht0, ⟨b1, b2, ⟨b3, fun j hj => absurd hj (Nat.not_lt_zero j)⟩, ⟨b4, fun j hj => absurd hj (Nat.not_lt_zero j)⟩, b5, (k2.get _ _ (wg_B_f (by omega))).trans v18, fun j hj => absurd hj (Nat.not_lt_zero j), (k2.get _ _ (wg_B_f (by omega))).trans v20, fun j hj => ?_, (e6 _ (by omega) (by omega)).trans m10, (e6 _ (by omega) (by omega)).trans m11, (e6 _ (by omega) (by omega)).trans m12⟩, (hf0.trans (k1.fm fun i k hi => wg_A_f (by omega))).trans (k2.fm fun i k hi => wg_B_f (by omega))⟩
      rw [k2.get _ _ (wg_B_f (by omega)), k1.get _ _ (wg_A_f (by omega))]; exact m9 j hj
end
