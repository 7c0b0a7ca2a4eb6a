/-! CALLS: days ahead -/
theorem call_then {w : pw_W} (hw : pw_wf w) (x y zz : Int32) : am_AG 2 (fun e => e) w (fun h => am_run am_M 22 [.ref 0, .int x, .int y, .int zz] h) (fun h => am_run am_M 263 [.ref 60, .int x, .int y, .int zz] h) := by
  obtain ⟨d, S, l, t, im, tp, nb, fp, rf⟩ := w
  have hw0 := hw
  obtain ⟨ho, hS, ha, ht, hi, hnb, htp⟩ := hw
  rcases Classical.em (pz_b x (pw_n d 3)) with hx | hx
  rotate_left
  · refine ⟨1, 0, (d, S, l, t, im, tp, nb, fp, rf), hw0, ⟨by omega, fun hh => by first | exact absurd rfl hh | rfl⟩, fun h hc => ?_, fun h hm => ?_⟩
    · have hc0 := hc
      obtain ⟨⟨L, hL, r1, r2, c1⟩, c2, c3, c4, c5, c6, c7, c8, c9⟩ := hc
      refine am_CO_x (by decide) ?_
      show am_run am_M 22 [.ref 0, .int x, .int y, .int zz] h = _
      rw [e22, c62_f hL r1 c1 ho hx]
      try rfl
    · show am_RI (am_run am_M 263 [.ref 60, .int x, .int y, .int zz] h) _
      obtain ⟨hm0, ht0, hf0⟩ := m_start hm
      rw [e263]
      generalize am_sI h 60 0 (nI 0) = g at hm0 ht0 hf0 ⊢
      dsimp only
      have hm1 := hm0
      obtain ⟨m1, m2, m3, m4, m5, m6, m7, m8, m9, m10, m11, m12⟩ := hm1
      rw [s236_f m1 ho ht0 hx, am_bI_ok, if_pos (by decide)]
      exact ⟨_, _, rfl, am_fin_x hf0 hm0 (by decide)⟩
  obtain ⟨i, hx, rfl⟩ := hx
  rcases Classical.em (pz_b zz (3 + 1)) with hzz | hzz
  rotate_left
  · refine ⟨1, 0, (d, S, l, t, im, tp, nb, fp, rf), hw0, ⟨by omega, fun hh => by first | exact absurd rfl hh | rfl⟩, fun h hc => ?_, fun h hm => ?_⟩
    · have hc0 := hc
      obtain ⟨⟨L, hL, r1, r2, c1⟩, c2, c3, c4, c5, c6, c7, c8, c9⟩ := hc
      refine am_CO_x (by decide) ?_
      show am_run am_M 22 [.ref 0, .int (nI i), .int y, .int zz] h = _
      rw [e22, c62_t hL r1 c1 ho hx, am_bV_ok, c64_f (by omega) hzz]
      try rfl
    · show am_RI (am_run am_M 263 [.ref 60, .int (nI i), .int y, .int zz] h) _
      obtain ⟨hm0, ht0, hf0⟩ := m_start hm
      rw [e263]
      generalize am_sI h 60 0 (nI 0) = g at hm0 ht0 hf0 ⊢
      dsimp only
      have hm1 := hm0
      obtain ⟨m1, m2, m3, m4, m5, m6, m7, m8, m9, m10, m11, m12⟩ := hm1
      rw [s236_t m1 ho ht0 hx, am_bI_ok, if_neg (by decide), s237_f ht0 hzz (by omega), am_bI_ok, if_pos (by decide)]
      exact ⟨_, _, rfl, am_fin_x hf0 hm0 (by decide)⟩
  obtain ⟨z, hzz, rfl⟩ := hzz
  rcases Classical.em (pz_b y 100) with hy | hy
  rotate_left
  · refine ⟨2, 0, (d, S, l, t, im, tp, nb, fp, rf), hw0, ⟨by omega, fun hh => by first | exact absurd rfl hh | rfl⟩, fun h hc => ?_, fun h hm => ?_⟩
    · have hc0 := hc
      obtain ⟨⟨L, hL, r1, r2, c1⟩, c2, c3, c4, c5, c6, c7, c8, c9⟩ := hc
      refine am_CO_x (by decide) ?_
      show am_run am_M 22 [.ref 0, .int (nI i), .int y, .int (nI z)] h = _
      rw [e22, c62_t hL r1 c1 ho hx, am_bV_ok, c64_t (by omega) hzz, am_bV_ok, c65_f (m := 99) (by omega) hy]
      try rfl
    · show am_RI (am_run am_M 263 [.ref 60, .int (nI i), .int y, .int (nI z)] h) _
      obtain ⟨hm0, ht0, hf0⟩ := m_start hm
      rw [e263]
      generalize am_sI h 60 0 (nI 0) = g at hm0 ht0 hf0 ⊢
      dsimp only
      have hm1 := hm0
      obtain ⟨m1, m2, m3, m4, m5, m6, m7, m8, m9, m10, m11, m12⟩ := hm1
      rw [s236_t m1 ho ht0 hx, am_bI_ok, if_neg (by decide), s237_t ht0 hzz (by omega), am_bI_ok, if_neg (by decide), s262_f ht0 hy (e := 2) (by omega), am_bI_ok, if_pos (by decide)]
      exact ⟨_, _, rfl, am_fin_x hf0 hm0 (by decide)⟩
  obtain ⟨j, hy, rfl⟩ := hy
  have h6 := ho.1.2.2.2.1
  have h4 := ho.1.1
  have hd9 := hS.2.1
  refine ⟨0, (if z = 3 then nI (py_days d 1000 1000 S j (19 + i)) - nI (S (19 + i)) else nI (py_days d 1000 1000 S j (1 + 6 * z + i))), (d, S, l, t, im, tp, nb, fp, rf), hw0, ⟨by omega, fun hh => by first | exact absurd rfl hh | rfl⟩, fun h hc => ?_, fun h hm => ?_⟩
  · have hc0 := hc
    obtain ⟨⟨L, hL, r1, r2, c1⟩, c2, c3, c4, c5, c6, c7, c8, c9⟩ := hc
    refine am_CO_0 ?_
    show am_RI (am_run am_M 22 [.ref 0, .int (nI i), .int (nI j), .int (nI z)] h) _
    rw [e22, c62_t hL r1 c1 ho hx, am_bV_ok, c64_t (by omega) hzz, am_bV_ok, c65_t (m := 99) (by omega) hy, am_bV_ok]
    refine pz_VI (s137 (S := S) c2 pc_so20 (by omega)) fun g1 hg1 => ?_
    obtain ⟨y1, k1⟩ := hg1
    rw [k1.R, r1, am_gr_n]
    refine pz_VI (s138 hL (c1.kp k1 (ps_YL hL)) ho y1 hS.1 (by have := hS.2.1; omega) (n := j) (by omega)) fun g2 hg2 => ?_
    obtain ⟨y2, k2⟩ := hg2
    have fin := am_fin_c hc0 ((k1.trans k2).up (fun i k => ps_YC))
    have hz : z = 0 ∨ z = 1 ∨ z = 2 ∨ z = 3 := by omega
    rcases hz with rfl | rfl | rfl | rfl
    · rw [if_pos (by decide), s151 pc_so35 (show 1 + 0 * 6 + i < 49 by omega), am_bI_ok, y2.1 _ (by omega)]
      exact ⟨_, _, rfl, rfl, fin⟩
    · rw [if_neg (by decide), if_pos (by decide), s151 pc_so35 (show 1 + 1 * 6 + i < 49 by omega), am_bI_ok, y2.1 _ (by omega)]
      exact ⟨_, _, rfl, rfl, fin⟩
    · rw [if_neg (by decide), if_neg (by decide), if_pos (by decide), s151 pc_so35 (show 1 + 2 * 6 + i < 49 by omega), am_bI_ok, y2.1 _ (by omega)]
      exact ⟨_, _, rfl, rfl, fin⟩
    · rw [if_neg (by decide), if_neg (by decide), if_neg (by decide), s151 pc_so35 (show 1 + 3 * 6 + i < 49 by omega), am_bI_ok, y2.1 _ (by omega), s151 pc_so20 (show 1 + 3 * 6 + i < 49 by omega), am_bI_ok, (c2.kp (k1.trans k2) (fun k => ps_Y_f (by omega))) _ (by omega), show 1 + 3 * 6 + i = 19 + i by omega]
      exact ⟨_, _, rfl, rfl, fin⟩
  · show am_RI (am_run am_M 263 [.ref 60, .int (nI i), .int (nI j), .int (nI z)] h) _
    obtain ⟨hm0, ht0, hf0⟩ := m_start hm
    rw [e263]
    generalize am_sI h 60 0 (nI 0) = g at hm0 ht0 hf0 ⊢
    dsimp only
    have hm1 := hm0
    obtain ⟨m1, m2, m3, m4, m5, m6, m7, m8, m9, m10, m11, m12⟩ := hm1
    rw [s236_t m1 ho ht0 hx, am_bI_ok, if_neg (by decide), s237_t ht0 hzz (by omega), am_bI_ok, if_neg (by decide), s262_t ht0 hy _, am_bI_ok, if_neg (by decide)]
    have hu : am_I g 60 62 = pn_o 1000 20 := m11
    have hq : am_I g 60 63 = pn_o 1000 5 := m12
    obtain ⟨g1, e1, b1, k1⟩ := s231b hm0 hw0 hu hq
    replace b1 : pm_B g1 d S 0 1000 1000 := b1
    have k1N : am_kp ps_N g g1 := k1.up fun i k => ps_bN
    rw [e1, am_bV_ok]
    obtain ⟨g2, e2, b2, k2, -⟩ := m_loop (n := j) (fun k g => am_vn am_M 5 263 40 [some (.ref 60), some (.int (nI i)), some (.int (nI j)), some (.int (nI z)), some (.int (nI k))] [] g) ho b1 hS.1 (by omega) (fun k g hk => by rw [e263_40, if_neg (nI_ge hk (by omega)), pz_succ])
    refine Eq.mpr (congrArg (fun o => am_RI o _) e2) ?_
    rw [e263_40, if_pos (nI_le (Nat.le_refl _) (by omega))]
    have kk := k1N.trans k2
    have hz : z = 0 ∨ z = 1 ∨ z = 2 ∨ z = 3 := by omega
    rcases hz with rfl | rfl | rfl | rfl
    · rw [if_neg (by decide), pk_mul, nI_add 1, nI_add, ml_86 (show 1 + 6 * 0 + i < 40 by omega), b2.2.1.1.i0 (by omega)]
      exact ⟨_, _, rfl, am_fin_N hf0 hm0 ht0 kk rfl⟩
    · rw [if_neg (by decide), pk_mul, nI_add 1, nI_add, ml_86 (show 1 + 6 * 1 + i < 40 by omega), b2.2.1.1.i0 (by omega)]
      exact ⟨_, _, rfl, am_fin_N hf0 hm0 ht0 kk rfl⟩
    · rw [if_neg (by decide), pk_mul, nI_add 1, nI_add, ml_86 (show 1 + 6 * 2 + i < 40 by omega), b2.2.1.1.i0 (by omega)]
      exact ⟨_, _, rfl, am_fin_N hf0 hm0 ht0 kk rfl⟩
    · rw [if_pos (by decide), nI_add 19 i, ml_86 (show 19 + i < 40 by omega), b2.2.1.1.i0 (by omega), ml_85 (by omega), b2.2.2.2.i0 (by omega)]
      exact ⟨_, _, rfl, am_fin_N hf0 hm0 ht0 kk rfl⟩
theorem call_packThen {w : pw_W} (hw : pw_wf w) (x y zz : Int32) : am_AG 2 (fun e => e) w (fun h => am_run am_M 23 [.ref 0, .int x, .int y, .int zz] h) (fun h => am_run am_M 264 [.ref 60, .int x, .int y, .int zz] h) := by
  obtain ⟨d, S, l, t, im, tp, nb, fp, rf⟩ := w
  have hw0 := hw
  obtain ⟨ho, hS, ha, ht, hi, hnb, htp⟩ := hw
  rcases Classical.em (pz_b x (pw_n d 0)) with hx | hx
  rotate_left
  · refine ⟨1, 0, (d, S, l, t, im, tp, nb, fp, rf), hw0, ⟨by omega, fun hh => by first | exact absurd rfl hh | rfl⟩, fun h hc => ?_, fun h hm => ?_⟩
    · have hc0 := hc
      obtain ⟨⟨L, hL, r1, r2, c1⟩, c2, c3, c4, c5, c6, c7, c8, c9⟩ := hc
      refine am_CO_x (by decide) ?_
      show am_run am_M 23 [.ref 0, .int x, .int y, .int zz] h = _
      rw [e23, c60_f hL r1 c1 ho hx]
      try rfl
    · show am_RI (am_run am_M 264 [.ref 60, .int x, .int y, .int zz] h) _
      obtain ⟨hm0, ht0, hf0⟩ := m_start hm
      rw [e264]
      generalize am_sI h 60 0 (nI 0) = g at hm0 ht0 hf0 ⊢
      dsimp only
      have hm1 := hm0
      obtain ⟨m1, m2, m3, m4, m5, m6, m7, m8, m9, m10, m11, m12⟩ := hm1
      rw [s234_f m1 ho ht0 hx, am_bI_ok, if_pos (by decide)]
      exact ⟨_, _, rfl, am_fin_x hf0 hm0 (by decide)⟩
  obtain ⟨i, hx, rfl⟩ := hx
  rcases Classical.em (pz_b zz (1 + 1)) with hzz | hzz
  rotate_left
  · refine ⟨1, 0, (d, S, l, t, im, tp, nb, fp, rf), hw0, ⟨by omega, fun hh => by first | exact absurd rfl hh | rfl⟩, fun h hc => ?_, fun h hm => ?_⟩
    · have hc0 := hc
      obtain ⟨⟨L, hL, r1, r2, c1⟩, c2, c3, c4, c5, c6, c7, c8, c9⟩ := hc
      refine am_CO_x (by decide) ?_
      show am_run am_M 23 [.ref 0, .int (nI i), .int y, .int zz] h = _
      rw [e23, c60_t hL r1 c1 ho hx, am_bV_ok, c64_f (by omega) hzz]
      try rfl
    · show am_RI (am_run am_M 264 [.ref 60, .int (nI i), .int y, .int zz] h) _
      obtain ⟨hm0, ht0, hf0⟩ := m_start hm
      rw [e264]
      generalize am_sI h 60 0 (nI 0) = g at hm0 ht0 hf0 ⊢
      dsimp only
      have hm1 := hm0
      obtain ⟨m1, m2, m3, m4, m5, m6, m7, m8, m9, m10, m11, m12⟩ := hm1
      rw [s234_t m1 ho ht0 hx, am_bI_ok, if_neg (by decide), s237_f ht0 hzz (by omega), am_bI_ok, if_pos (by decide)]
      exact ⟨_, _, rfl, am_fin_x hf0 hm0 (by decide)⟩
  obtain ⟨z, hzz, rfl⟩ := hzz
  rcases Classical.em (pz_b y 100) with hy | hy
  rotate_left
  · refine ⟨2, 0, (d, S, l, t, im, tp, nb, fp, rf), hw0, ⟨by omega, fun hh => by first | exact absurd rfl hh | rfl⟩, fun h hc => ?_, fun h hm => ?_⟩
    · have hc0 := hc
      obtain ⟨⟨L, hL, r1, r2, c1⟩, c2, c3, c4, c5, c6, c7, c8, c9⟩ := hc
      refine am_CO_x (by decide) ?_
      show am_run am_M 23 [.ref 0, .int (nI i), .int y, .int (nI z)] h = _
      rw [e23, c60_t hL r1 c1 ho hx, am_bV_ok, c64_t (by omega) hzz, am_bV_ok, c65_f (m := 99) (by omega) hy]
      try rfl
    · show am_RI (am_run am_M 264 [.ref 60, .int (nI i), .int y, .int (nI z)] h) _
      obtain ⟨hm0, ht0, hf0⟩ := m_start hm
      rw [e264]
      generalize am_sI h 60 0 (nI 0) = g at hm0 ht0 hf0 ⊢
      dsimp only
      have hm1 := hm0
      obtain ⟨m1, m2, m3, m4, m5, m6, m7, m8, m9, m10, m11, m12⟩ := hm1
      rw [s234_t m1 ho ht0 hx, am_bI_ok, if_neg (by decide), s237_t ht0 hzz (by omega), am_bI_ok, if_neg (by decide), s262_f ht0 hy (e := 2) (by omega), am_bI_ok, if_pos (by decide)]
      exact ⟨_, _, rfl, am_fin_x hf0 hm0 (by decide)⟩
  obtain ⟨j, hy, rfl⟩ := hy
  have h6 := ho.1.2.2.2.1
  have h4 := ho.1.1
  have hd9 := hS.2.1
  refine ⟨0, (if z = 1 then nI (py_days d 1000 1000 S j (41 + i)) - nI (S (41 + i)) else nI (py_days d 1000 1000 S j (37 + i))), (d, S, l, t, im, tp, nb, fp, rf), hw0, ⟨by omega, fun hh => by first | exact absurd rfl hh | rfl⟩, fun h hc => ?_, fun h hm => ?_⟩
  · have hc0 := hc
    obtain ⟨⟨L, hL, r1, r2, c1⟩, c2, c3, c4, c5, c6, c7, c8, c9⟩ := hc
    refine am_CO_0 ?_
    show am_RI (am_run am_M 23 [.ref 0, .int (nI i), .int (nI j), .int (nI z)] h) _
    rw [e23, c60_t hL r1 c1 ho hx, am_bV_ok, c64_t (by omega) hzz, am_bV_ok, c65_t (m := 99) (by omega) hy, am_bV_ok]
    refine pz_VI (s137 (S := S) c2 pc_so20 (by omega)) fun g1 hg1 => ?_
    obtain ⟨y1, k1⟩ := hg1
    rw [k1.R, r1, am_gr_n]
    refine pz_VI (s138 hL (c1.kp k1 (ps_YL hL)) ho y1 hS.1 (by have := hS.2.1; omega) (n := j) (by omega)) fun g2 hg2 => ?_
    obtain ⟨y2, k2⟩ := hg2
    have fin := am_fin_c hc0 ((k1.trans k2).up (fun i k => ps_YC))
    have hz : z = 0 ∨ z = 1 := by omega
    rcases hz with rfl | rfl
    · rw [if_pos (by decide), s153 pc_so35 (show 37 + 0 * 4 + i < 49 by omega), am_bI_ok, y2.1 _ (by omega)]
      exact ⟨_, _, rfl, rfl, fin⟩
    · rw [if_neg (by decide), s153 pc_so35 (show 37 + 1 * 4 + i < 49 by omega), am_bI_ok, y2.1 _ (by omega), s153 pc_so20 (show 37 + 1 * 4 + i < 49 by omega), am_bI_ok, (c2.kp (k1.trans k2) (fun k => ps_Y_f (by omega))) _ (by omega), show 37 + 1 * 4 + i = 41 + i by omega]
      exact ⟨_, _, rfl, rfl, fin⟩
  · show am_RI (am_run am_M 264 [.ref 60, .int (nI i), .int (nI j), .int (nI z)] h) _
    obtain ⟨hm0, ht0, hf0⟩ := m_start hm
    rw [e264]
    generalize am_sI h 60 0 (nI 0) = g at hm0 ht0 hf0 ⊢
    dsimp only
    have hm1 := hm0
    obtain ⟨m1, m2, m3, m4, m5, m6, m7, m8, m9, m10, m11, m12⟩ := hm1
    rw [s234_t m1 ho ht0 hx, am_bI_ok, if_neg (by decide), s237_t ht0 hzz (by omega), am_bI_ok, if_neg (by decide), s262_t ht0 hy _, am_bI_ok, if_neg (by decide)]
    have hu : am_I g 60 62 = pn_o 1000 20 := m11
    have hq : am_I g 60 63 = pn_o 1000 5 := m12
    obtain ⟨g1, e1, b1, k1⟩ := s231b hm0 hw0 hu hq
    replace b1 : pm_B g1 d S 0 1000 1000 := b1
    have k1N : am_kp ps_N g g1 := k1.up fun i k => ps_bN
    rw [e1, am_bV_ok]
    obtain ⟨g2, e2, b2, k2, -⟩ := m_loop (n := j) (fun k g => am_vn am_M 5 264 40 [some (.ref 60), some (.int (nI i)), some (.int (nI j)), some (.int (nI z)), some (.int (nI k))] [] g) ho b1 hS.1 (by omega) (fun k g hk => by rw [e264_40, if_neg (nI_ge hk (by omega)), pz_succ])
    refine Eq.mpr (congrArg (fun o => am_RI o _) e2) ?_
    rw [e264_40, if_pos (nI_le (Nat.le_refl _) (by omega))]
    have kk := k1N.trans k2
    have hz : z = 0 ∨ z = 1 := by omega
    rcases hz with rfl | rfl
    · rw [if_pos (by decide), nI_add 32 i, ml_86 (show 32 + i < 40 by omega), b2.2.1.1.is (by omega)]
      exact ⟨_, _, rfl, am_fin_N hf0 hm0 ht0 kk rfl⟩
    · rw [if_neg (by decide), nI_add 36 i, ml_86 (show 36 + i < 40 by omega), b2.2.1.1.it (by omega), ml_85 (by omega), b2.2.2.2.it (by omega)]
      exact ⟨_, _, rfl, am_fin_N hf0 hm0 ht0 kk rfl⟩
theorem call_paid {w : pw_W} (hw : pw_wf w) (x : Int32) : am_AG 1 (fun _ => 2) w (fun h => am_run am_M 42 [.ref 0, .int x] h) (fun h => am_run am_M 280 [.ref 60, .int x] h) := by
  obtain ⟨d, S, l, t, im, tp, nb, fp, rf⟩ := w
  have hw0 := hw
  obtain ⟨ho, hS, ha, ht, hi, hnb, htp⟩ := hw
  rcases Classical.em (pz_b x 100) with hx | hx
  rotate_left
  · refine ⟨1, 0, (d, S, l, t, im, tp, nb, fp, rf), hw0, ⟨by omega, fun hh => by first | exact absurd rfl hh | rfl⟩, fun h hc => ?_, fun h hm => ?_⟩
    · have hc0 := hc
      obtain ⟨⟨L, hL, r1, r2, c1⟩, c2, c3, c4, c5, c6, c7, c8, c9⟩ := hc
      refine am_CO_x (by decide) ?_
      show am_run am_M 42 [.ref 0, .int x] h = _
      rw [e42, c65_f (m := 99) (by omega) hx]
      try rfl
    · show am_RI (am_run am_M 280 [.ref 60, .int x] h) _
      obtain ⟨hm0, ht0, hf0⟩ := m_start hm
      rw [e280]
      generalize am_sI h 60 0 (nI 0) = g at hm0 ht0 hf0 ⊢
      dsimp only
      have hm1 := hm0
      obtain ⟨m1, m2, m3, m4, m5, m6, m7, m8, m9, m10, m11, m12⟩ := hm1
      rw [s262_f ht0 hx (e := 1) (by omega), am_bI_ok, if_pos (by decide)]
      exact ⟨_, _, rfl, am_fin_x hf0 hm0 (by decide)⟩
  obtain ⟨j, hx, rfl⟩ := hx
  have h6 := ho.1.2.2.2.1
  have h4 := ho.1.1
  have hd9 := hS.2.1
  refine ⟨0, (nI (py_ga d 1000 1000 S j)), (d, S, l, t, im, tp, nb, fp, rf), hw0, ⟨by omega, fun hh => by first | exact absurd rfl hh | rfl⟩, fun h hc => ?_, fun h hm => ?_⟩
  · have hc0 := hc
    obtain ⟨⟨L, hL, r1, r2, c1⟩, c2, c3, c4, c5, c6, c7, c8, c9⟩ := hc
    refine am_CO_0 ?_
    show am_RI (am_run am_M 42 [.ref 0, .int (nI j)] h) _
    rw [e42, c65_t (m := 99) (by omega) hx, am_bV_ok]
    refine pz_VI (s137 (S := S) c2 pc_so20 (by omega)) fun g1 hg1 => ?_
    obtain ⟨y1, k1⟩ := hg1
    rw [k1.R, r1, am_gr_n]
    refine pz_VI (s138 hL (c1.kp k1 (ps_YL hL)) ho y1 hS.1 (by have := hS.2.1; omega) (n := j) (by omega)) fun g2 hg2 => ?_
    obtain ⟨y2, k2⟩ := hg2
    have fin := am_fin_c hc0 ((k1.trans k2).up (fun i k => ps_YC))
    rw [y2.2.2.2.1]
    exact ⟨_, _, rfl, rfl, fin⟩
  · show am_RI (am_run am_M 280 [.ref 60, .int (nI j)] h) _
    obtain ⟨hm0, ht0, hf0⟩ := m_start hm
    rw [e280]
    generalize am_sI h 60 0 (nI 0) = g at hm0 ht0 hf0 ⊢
    dsimp only
    have hm1 := hm0
    obtain ⟨m1, m2, m3, m4, m5, m6, m7, m8, m9, m10, m11, m12⟩ := hm1
    rw [s262_t ht0 hx _, am_bI_ok, if_neg (by decide)]
    have hu : am_I g 60 62 = pn_o 1000 20 := m11
    have hq : am_I g 60 63 = pn_o 1000 5 := m12
    obtain ⟨g1, e1, b1, k1⟩ := s231b hm0 hw0 hu hq
    replace b1 : pm_B g1 d S 0 1000 1000 := b1
    have k1N : am_kp ps_N g g1 := k1.up fun i k => ps_bN
    rw [e1, am_bV_ok]

    have b1' : pm_B (am_sI g1 60 69 (nI 0)) d S 0 1000 1000 := b1.kd ((am_kp.refl (ps_d 86) g1).sI _ (ps_d_t (by omega))) (b1.2.1.kd (Or.inr rfl) ((am_kp.refl (ps_d 86) g1).sI _ (ps_d_t (by omega))) (b1.2.1.1.oth (by omega) _ _) (fun _ _ => rfl))
    obtain ⟨g2, e2, b2, k2, hG⟩ := m_loop (n := j) (fun k g => am_vn am_M 5 280 27 [some (.ref 60), some (.int (nI j)), some (.int (nI k))] [] g) ho b1' hS.1 (by omega) (fun k g hk => by rw [e280_27, if_neg (nI_ge hk (by omega)), pz_succ])
    refine Eq.mpr (congrArg (fun o => am_RI o _) e2) ?_
    rw [e280_27, if_pos (nI_le (Nat.le_refl _) (by omega)), hG 0 (am_I_s _ _ _ _), Nat.zero_add]
    exact ⟨_, _, rfl, am_fin_N hf0 hm0 ht0 ((k1N.sI _ (ps_N_t (by omega))).trans k2) rfl⟩
theorem call_lasts {w : pw_W} (hw : pw_wf w) : am_AG 0 (fun e => e) w (fun h => am_run am_M 24 [.ref 0] h) (fun h => am_run am_M 266 [.ref 60] h) := by
  obtain ⟨d, S, l, t, im, tp, nb, fp, rf⟩ := w
  have hw0 := hw
  obtain ⟨ho, hS, ha, ht, hi, hnb, htp⟩ := hw
  have h6 := ho.1.2.2.2.1
  have h4 := ho.1.1
  have hd9 := hS.2.1
  refine ⟨0, (nI (pz_fst (fun k => decide (py_cd d 1000 1000 S k ≠ 0) || decide (py_tn d 1000 1000 S k ≠ 0) || py_owe (py_days d 1000 1000 S (k + 1)) S) 99)), (d, S, l, t, im, tp, nb, fp, rf), hw0, ⟨by omega, fun hh => by first | exact absurd rfl hh | rfl⟩, fun h hc => ?_, fun h hm => ?_⟩
  · have hc0 := hc
    obtain ⟨⟨L, hL, r1, r2, c1⟩, c2, c3, c4, c5, c6, c7, c8, c9⟩ := hc
    refine am_CO_0 ?_
    show am_RI (am_run am_M 24 [.ref 0] h) _
    rw [e24]
    refine pz_VI (s137 (S := S) c2 pc_so20 (by omega)) fun g1 hg1 => ?_
    obtain ⟨y1, k1⟩ := hg1
    refine pz_forf (fun k g => am_vn am_M 5 24 13 [some (.ref 0), some (.int (nI k))] [] g) (fun k g => (∃ G E, pc_Y g (py_days d 1000 1000 S k) 1000 1000 G E ∧ E < 2 ^ 4) ∧ am_kp ps_Y h g) (fun k => decide (py_cd d 1000 1000 S k ≠ 0) || decide (py_tn d 1000 1000 S k ≠ 0) || py_owe (py_days d 1000 1000 S (k + 1)) S) 99 (fun v o => am_RI o (fun u g => u = nI v ∧ pI_c g (d, S, l, t, im, tp, nb, fp, rf) ∧ am_fc h g)) g1 ⟨⟨_, _, y1, by decide⟩, k1⟩ (fun g hg => ?_) (fun k g hk hg => ?_)
    · rw [e24_13, if_pos (by decide)]
      exact ⟨_, _, rfl, rfl, am_fin_c hc0 (hg.2.up (fun i k => ps_YC))⟩
    · obtain ⟨⟨G, E, y, hE⟩, kp⟩ := hg
      have hT := py_days_T ho 1000 1000 hS.1 k
      have hT1 := py_days_T ho 1000 1000 hS.1 (k + 1)
      obtain ⟨g2, e2, z1, z2, z3, z4⟩ := s139 hL (c1.kp kp (ps_YL hL)) ho y hT.1 (by omega) (by omega)
      have kp2 := kp.trans z4
      have cl := py_cold_lt ho (pw_sn d (py_days d 1000 1000 S k 0)) 1000 1000 (py_days d 1000 1000 S k)
      have tl := py_thin_lt ho (pw_sn d (py_days d 1000 1000 S k 0)) 1000 1000 (py_days d 1000 1000 S k)
      have ow : am_run am_M 147 [.ref 34, .ref 20] g2 = some (.inl (some (.int (nI (if py_owe (py_days d 1000 1000 S (k + 1)) S then 1 else 0)))), g2) := s147 z1.1 pc_so20 (c2.kp kp2 (fun k => ps_Y_f (by omega))) (fun p hp => ⟨(hT1.1.1 p hp).2.2.1, (hS.1.1 p hp).2.2.1⟩)
      have ex := e24_13 (nI k) g
      rw [if_neg (nI_ge hk (by omega)), kp.R, r1, am_gr_n, e2, am_bV_ok, z2, z3] at ex
      have fin := am_fin_c hc0 (kp2.up (fun i k => ps_YC))
      have hc : py_cd d 1000 1000 S k = py_cold d (pw_sn d (py_days d 1000 1000 S k 0)) 1000 1000 (py_days d 1000 1000 S k) := rfl
      have htn : py_tn d 1000 1000 S k = py_thin d (pw_sn d (py_days d 1000 1000 S k 0)) 1000 1000 (py_days d 1000 1000 S k) := rfl
      rw [← hc] at ex cl
      rw [← htn] at ex tl
      constructor
      · intro hf
        rw [Bool.or_eq_false_iff, Bool.or_eq_false_iff, decide_eq_false_iff_not, decide_eq_false_iff_not, Classical.not_not, Classical.not_not] at hf
        obtain ⟨⟨f1, f2⟩, f3⟩ := hf
        rw [f1, f2, if_pos (by decide), if_pos (by decide), ow, am_bI_ok, f3, if_pos (by decide), pz_succ] at ex
        exact ⟨g2, ex, ⟨_, _, z1, Nat.or_lt_two_pow hE (py_thin_lt ho _ _ _ _)⟩, kp2⟩
      · intro hf
        rw [ex]
        by_cases f1 : py_cd d 1000 1000 S k = 0
        · rw [f1, if_pos (by decide)]
          by_cases f2 : py_tn d 1000 1000 S k = 0
          · rw [f2, if_pos (by decide), ow, am_bI_ok]
            have f3 : py_owe (py_days d 1000 1000 S (k + 1)) S = true := by
              rw [f1, f2] at hf; simpa using hf
            rw [f3, if_neg (by decide)]
            exact ⟨_, _, rfl, rfl, fin⟩
          · rw [if_neg (nI_ne0 (by omega) (by omega))]
            exact ⟨_, _, rfl, rfl, fin⟩
        · rw [if_neg (nI_ne0 (by omega) (by omega))]
          exact ⟨_, _, rfl, rfl, fin⟩
  · show am_RI (am_run am_M 266 [.ref 60] h) _
    obtain ⟨hm0, ht0, hf0⟩ := m_start hm
    rw [e266]
    generalize am_sI h 60 0 (nI 0) = g at hm0 ht0 hf0 ⊢
    dsimp only
    have hm1 := hm0
    obtain ⟨m1, m2, m3, m4, m5, m6, m7, m8, m9, m10, m11, m12⟩ := hm1
    have hu : am_I g 60 62 = pn_o 1000 20 := m11
    have hq : am_I g 60 63 = pn_o 1000 5 := m12
    obtain ⟨g1, e1, b1, k1⟩ := s231b hm0 hw0 hu hq
    replace b1 : pm_B g1 d S 0 1000 1000 := b1
    have k1N : am_kp ps_N g g1 := k1.up fun i k => ps_bN
    rw [e1, am_bV_ok]
    refine pz_forf (fun k g => am_vn am_M 5 266 11 [some (.ref 60), some (.int (nI k))] [] g) (fun k g' => pm_B g' d S k 1000 1000 ∧ am_kp ps_N g g') (fun k => decide (py_cd d 1000 1000 S k ≠ 0) || decide (py_tn d 1000 1000 S k ≠ 0) || py_owe (py_days d 1000 1000 S (k + 1)) S) 99 (fun v o => am_RI o (fun u g => (0 = 0 → u = nI v) ∧ am_I g 60 0 = nI 0 ∧ pI_m g (d, S, l, t, im, tp, nb, fp, rf) ∧ am_fm h g)) g1 ⟨b1, k1N⟩ (fun g' hg => ?_) (fun k g' hk hg => ?_)
    · rw [e266_11, if_pos (by decide)]
      exact ⟨_, _, rfl, am_fin_N hf0 hm0 ht0 hg.2 rfl⟩
    · obtain ⟨b, kp⟩ := hg
      obtain ⟨v, g2, e2, hv, b2, -, kp2⟩ := s230n ho b hS.1 (by omega)
      have kk := kp.trans (kp2.up fun i k => ps_dN)
      have hT1 := py_days_T ho 1000 1000 hS.1 (k + 1)
      have cl := py_cold_lt ho (pw_sn d (py_days d 1000 1000 S k 0)) 1000 1000 (py_days d 1000 1000 S k)
      have tl := py_thin_lt ho (pw_sn d (py_days d 1000 1000 S k 0)) 1000 1000 (py_days d 1000 1000 S k)
      have hc : py_cd d 1000 1000 S k = py_cold d (pw_sn d (py_days d 1000 1000 S k 0)) 1000 1000 (py_days d 1000 1000 S k) := rfl
      have htn : py_tn d 1000 1000 S k = py_thin d (pw_sn d (py_days d 1000 1000 S k 0)) 1000 1000 (py_days d 1000 1000 S k) := rfl
      rw [← hc] at cl
      rw [← htn] at tl
      have ow := s265 ho b2.1 b2.2.1.1 b2.2.2.2 (fun p hp => ⟨(hT1.1.1 p hp).2.2.1, (hS.1.1 p hp).2.2.1⟩) (py_days_owe ho 1000 1000 hS.1 (k + 1)).1
      have ex := e266_11 (nI k) g'
      rw [if_neg (nI_ge hk (by omega)), e2, am_bI_ok, hv] at ex
      constructor
      · intro hf
        rw [Bool.or_eq_false_iff, Bool.or_eq_false_iff, decide_eq_false_iff_not, decide_eq_false_iff_not, Classical.not_not, Classical.not_not] at hf
        obtain ⟨⟨f1, f2⟩, f3⟩ := hf
        rw [f1, f2, if_pos (by decide), ow, am_bI_ok, f3, if_pos (by decide), pz_succ] at ex
        exact ⟨g2, ex, b2, kk⟩
      · intro hf
        rw [ex]
        by_cases f0 : py_cd d 1000 1000 S k = 0 ∧ py_tn d 1000 1000 S k = 0
        · rw [f0.1, f0.2, if_pos (by decide), ow, am_bI_ok]
          have f3 : py_owe (py_days d 1000 1000 S (k + 1)) S = true := by
            rw [f0.1, f0.2] at hf; simpa using hf
          rw [f3, if_neg (by decide)]
          exact ⟨_, _, rfl, am_fin_N hf0 hm0 ht0 kk rfl⟩
        · rw [if_neg (nI_ne0 (by omega) (by omega))]
          exact ⟨_, _, rfl, am_fin_N hf0 hm0 ht0 kk rfl⟩
