/-! CALLS: reach, meeting -/
theorem call_reach {w : pw_W} (hw : pw_wf w) (x y zz : Int32) : am_AG 2 (fun e => e) w (fun h => am_run am_M 18 [.ref 0, .int x, .int y, .int zz] h) (fun h => am_run am_M 257 [.ref 60, .int x, .int y, .int zz] h) := by
  obtain ⟨d, S, l, t, im, tp, nb, fp, rf⟩ := w
  have hw0 := hw
  obtain ⟨ho, hS, ha, ht, hi, hnb, htp⟩ := hw
  rcases Classical.em (pz_b x (pw_n d 3)) with hx | hx
  rotate_left
  · refine ⟨1, 0, (d, S, l, t, im, tp, nb, fp, rf), hw0, ⟨by omega, fun hh => by first | exact absurd rfl hh | rfl⟩, fun h hc => ?_, fun h hm => ?_⟩
    · have hc0 := hc
      obtain ⟨⟨L, hL, r1, r2, c1⟩, c2, c3, c4, c5, c6, c7, c8, c9⟩ := hc
      refine am_CO_x (by decide) ?_
      show am_run am_M 18 [.ref 0, .int x, .int y, .int zz] h = _
      rw [e18, c62_f hL r1 c1 ho hx]
      try rfl
    · show am_RI (am_run am_M 257 [.ref 60, .int x, .int y, .int zz] h) _
      obtain ⟨hm0, ht0, hf0⟩ := m_start hm
      rw [e257]
      generalize am_sI h 60 0 (nI 0) = g at hm0 ht0 hf0 ⊢
      dsimp only
      have hm1 := hm0
      obtain ⟨m1, m2, m3, m4, m5, m6, m7, m8, m9, m10, m11, m12⟩ := hm1
      rw [s236_f m1 ho ht0 hx, am_bI_ok, if_pos (by decide)]
      exact ⟨_, _, rfl, am_fin_x hf0 hm0 (by decide)⟩
  obtain ⟨i, hx, rfl⟩ := hx
  rcases Classical.em (pz_b y 24) with hy | hy
  rotate_left
  · refine ⟨2, 0, (d, S, l, t, im, tp, nb, fp, rf), hw0, ⟨by omega, fun hh => by first | exact absurd rfl hh | rfl⟩, fun h hc => ?_, fun h hm => ?_⟩
    · have hc0 := hc
      obtain ⟨⟨L, hL, r1, r2, c1⟩, c2, c3, c4, c5, c6, c7, c8, c9⟩ := hc
      refine am_CO_x (by decide) ?_
      show am_run am_M 18 [.ref 0, .int (nI i), .int y, .int zz] h = _
      rw [e18, c62_t hL r1 c1 ho hx, am_bV_ok, c65_f (m := 23) (by omega) hy]
      try rfl
    · show am_RI (am_run am_M 257 [.ref 60, .int (nI i), .int y, .int zz] h) _
      obtain ⟨hm0, ht0, hf0⟩ := m_start hm
      rw [e257]
      generalize am_sI h 60 0 (nI 0) = g at hm0 ht0 hf0 ⊢
      dsimp only
      have hm1 := hm0
      obtain ⟨m1, m2, m3, m4, m5, m6, m7, m8, m9, m10, m11, m12⟩ := hm1
      rw [s236_t m1 ho ht0 hx, am_bI_ok, if_neg (by decide), s180_f y (fun h => hy (pz_bw.mp h)) (by omega) (by omega), am_bI_ok, if_pos (by decide), e257_39, s179_f ht0 (e := 2) (by omega), am_bI_ok, if_pos (by decide)]
      exact ⟨_, _, rfl, am_fin_x hf0 hm0 (by decide)⟩
  obtain ⟨n, hy, rfl⟩ := hy
  rcases Classical.em (pz_b zz 49) with hzz | hzz
  rotate_left
  · refine ⟨2, 0, (d, S, l, t, im, tp, nb, fp, rf), hw0, ⟨by omega, fun hh => by first | exact absurd rfl hh | rfl⟩, fun h hc => ?_, fun h hm => ?_⟩
    · have hc0 := hc
      obtain ⟨⟨L, hL, r1, r2, c1⟩, c2, c3, c4, c5, c6, c7, c8, c9⟩ := hc
      refine am_CO_x (by decide) ?_
      show am_run am_M 18 [.ref 0, .int (nI i), .int (nI n), .int zz] h = _
      rw [e18, c62_t hL r1 c1 ho hx, am_bV_ok, c65_t (m := 23) (by omega) hy, am_bV_ok, c65_f (m := 48) (by omega) hzz]
      try rfl
    · show am_RI (am_run am_M 257 [.ref 60, .int (nI i), .int (nI n), .int zz] h) _
      obtain ⟨hm0, ht0, hf0⟩ := m_start hm
      rw [e257]
      generalize am_sI h 60 0 (nI 0) = g at hm0 ht0 hf0 ⊢
      dsimp only
      have hm1 := hm0
      obtain ⟨m1, m2, m3, m4, m5, m6, m7, m8, m9, m10, m11, m12⟩ := hm1
      rw [s236_t m1 ho ht0 hx, am_bI_ok, if_neg (by decide), s180_t (Nat.zero_le _) (show n ≤ 23 by omega) (by omega), am_bI_ok, if_neg (by decide), s180_f zz (fun h => hzz (pz_bw.mp h)) (by omega) (by omega), am_bI_ok, if_pos (by decide), e257_39, s179_f ht0 (e := 2) (by omega), am_bI_ok, if_pos (by decide)]
      exact ⟨_, _, rfl, am_fin_x hf0 hm0 (by decide)⟩
  obtain ⟨c, hzz, rfl⟩ := hzz
  have h6 := ho.1.2.2.2.1
  have h4 := ho.1.1
  have hd9 := hS.2.1
  have h9 := ho.1.2.1
  obtain ⟨F, hF⟩ := wk_least (wk_s d S i) (pw_n d 1) (pw_t d 3 i) n
  have F96 : ∀ v, F v ≤ 96 := fun v => (hF v).1
  refine ⟨0, (nI (pb (fun v => decide (F v ≤ n + c)) (pw_n d 1))), (d, S, l, t, im, tp, nb, fp, rf), hw0, ⟨by omega, fun hh => by first | exact absurd rfl hh | rfl⟩, fun h hc => ?_, fun h hm => ?_⟩
  · have hc0 := hc
    obtain ⟨⟨L, hL, r1, r2, c1⟩, c2, c3, c4, c5, c6, c7, c8, c9⟩ := hc
    refine am_CO_0 ?_
    show am_RI (am_run am_M 18 [.ref 0, .int (nI i), .int (nI n), .int (nI c)] h) _
    rw [e18, c62_t hL r1 c1 ho hx, am_bV_ok, c65_t (m := 23) (by omega) hy, am_bV_ok, c65_t (m := 48) (by omega) hzz, am_bV_ok]
    rw [r1, am_gr_n]
    refine pz_VI (s165 hL c1 ho c2 hS.1 (by omega) hx hy hF) fun g hg => ?_
    obtain ⟨k, hf⟩ := hg
    have fin := am_fin_c hc0 (k.up fun i k => ps_VC)
    have hd := c1.kp k (fun i k hi => ps_V_f (ps_0L hL i k hi) (by unfold pc_rl at hi; unfold pc_lo at hL; omega))
    obtain ⟨g2, e, hp⟩ := am_for0 (fun k (g' : am_H) => am_vn am_M 6 18 40 [some (.ref 0), none, some (.int (nI n)), some (.int (nI c)), some (.int (nI (pb (fun v => decide (F v ≤ n + c)) k))), some (.int (nI k)), none] [] g') (fun _ g' => g' = g) (pw_n d 1) g rfl (fun q g' hq hg => by
      subst hg
      have fq := F96 q
      refine ⟨g', ?_, rfl⟩
      rw [e18_40, k.R, r1, am_gr_n, pc_lch hL, show am_I g' L 12 = nI (pw_n d 1) from hd.1 1 (by omega), if_neg (nI_ge hq (by omega)), s171 (F := F) (by omega) (hf q hq) fq, am_bI_ok, pz_succ, ← pb_step (fun v => decide (F v ≤ n + c)) (show q < 31 by omega)]
      by_cases c9 : F q ≤ 95
      · rw [show pn_o (F q) 95 = nI (F q) from if_pos c9, if_neg (pz_neg1 (by omega)), nI_add]
        by_cases cl : F q ≤ n + c
        · rw [if_neg (nI_nlt cl (by omega)), if_pos (decide_eq_true cl)]
        · rw [if_pos (nI_lt (by omega) (by omega)), if_neg (show ¬ decide (F q ≤ n + c) = true by rw [decide_eq_false cl]; decide), pz_or, Nat.or_zero]
      · rw [show pn_o (F q) 95 = (-1 : Int32) from if_neg c9, if_pos rfl, if_neg (show ¬ decide (F q ≤ n + c) = true by rw [decide_eq_false (by omega)]; decide), pz_or, Nat.or_zero])
    subst hp
    refine Eq.mpr (congrArg (fun o => am_RI o _) e) ?_
    rw [e18_40, k.R, r1, am_gr_n, pc_lch hL, show am_I g2 L 12 = nI (pw_n d 1) from hd.1 1 (by omega), if_pos (nI_le (Nat.le_refl _) (by omega))]
    exact ⟨_, _, rfl, rfl, fin⟩
  · show am_RI (am_run am_M 257 [.ref 60, .int (nI i), .int (nI n), .int (nI c)] h) _
    obtain ⟨hm0, ht0, hf0⟩ := m_start hm
    rw [e257]
    generalize am_sI h 60 0 (nI 0) = g at hm0 ht0 hf0 ⊢
    dsimp only
    have hm1 := hm0
    obtain ⟨m1, m2, m3, m4, m5, m6, m7, m8, m9, m10, m11, m12⟩ := hm1
    rw [s236_t m1 ho ht0 hx, am_bI_ok, if_neg (by decide), s180_t (Nat.zero_le _) (show n ≤ 23 by omega) (by omega), am_bI_ok, if_neg (by decide), s180_t (Nat.zero_le _) (show c ≤ 48 by omega) (by omega), am_bI_ok, if_neg (by decide)]
    rw [e257_39, s179_t ht0, am_bI_ok, if_neg (by decide)]
    have hwm : wk_m g d S := ⟨m1, m2, m10⟩
    refine pz_VI (s251F (r := 91) (Or.inl rfl) hwm ho hS.1 (by omega) hx hy hF) fun g2 hg => ?_
    obtain ⟨k, hf⟩ := hg
    have kM : am_kp ps_M g g2 := k.up fun i k h => ps_wM (Or.inl rfl) h
    have ht2 : am_I g2 60 0 = nI 0 := (k.get 60 0 (ps_w_f (ps_m_f (by omega)) (by omega))).trans ht0
    have hd := m1.kp k (fun i k hi => ps_w_f (ps_m_f (by omega)) (by omega))
    obtain ⟨g3, e, hp⟩ := am_for0 (fun k (g' : am_H) => am_vn am_M 5 257 64 [some (.ref 60), none, some (.int (nI n)), some (.int (nI c)), some (.int (nI (pb (fun v => decide (F v ≤ n + c)) k))), some (.int (nI k))] [] g') (fun _ g' => g' = g2) (pw_n d 1) g2 rfl (fun q g' hq hg => by
      subst hg
      have fq := F96 q
      refine ⟨g', ?_, rfl⟩
      rw [e257_64, show am_I g' 60 2 = nI (pw_n d 1) from hd.1 1 (by omega), if_neg (nI_ge hq (by omega)), ml_91 (by omega), hf q hq, nI_add, pz_succ, ← pb_step (fun v => decide (F v ≤ n + c)) (show q < 31 by omega)]
      have h99 := wk_9_le (F q)
      have hcmp : wk_9 (F q) ≤ n + c ↔ F q ≤ n + c := by unfold wk_9; split <;> omega
      by_cases cl : F q ≤ n + c
      · rw [if_neg (nI_nlt (hcmp.mpr cl) (by omega)), if_pos (decide_eq_true cl)]
      · rw [if_pos (nI_lt (show n + c < wk_9 (F q) by omega) (by omega)), if_neg (show ¬ decide (F q ≤ n + c) = true by rw [decide_eq_false cl]; decide)])
    subst hp
    refine Eq.mpr (congrArg (fun o => am_RI o _) e) ?_
    rw [e257_64, show am_I g3 60 2 = nI (pw_n d 1) from hd.1 1 (by omega), if_pos (nI_le (Nat.le_refl _) (by omega))]
    exact ⟨_, _, rfl, am_fin_m hf0 hm0 kM ht2 (fun _ => rfl)⟩
