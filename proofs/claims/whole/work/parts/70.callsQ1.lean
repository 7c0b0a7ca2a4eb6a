/-! CALLS: plain questions -/
theorem call_fault {w : pw_W} (hw : pw_wf w) : am_AG 0 (fun e => e) w (fun h => am_run am_M 3 [.ref 0] h) (fun h => am_run am_M 220 [.ref 60] h) := by
  obtain ⟨d, S, l, t, im, tp, nb, fp, rf⟩ := w
  have hw0 := hw
  obtain ⟨ho, hS, ha, ht, hi, hnb, htp⟩ := hw
  have h6 := ho.1.2.2.2.1
  have h4 := ho.1.1
  have hd9 := hS.2.1
  have h9 := ho.1.2.1
  refine ⟨0, fp, (d, S, l, t, im, tp, nb, fp, rf), hw0, ⟨by omega, fun hh => by first | exact absurd rfl hh | rfl⟩, fun h hc => ?_, fun h hm => ?_⟩
  · have hc0 := hc
    obtain ⟨⟨L, hL, r1, r2, c1⟩, c2, c3, c4, c5, c6, c7, c8, c9⟩ := hc
    refine am_CO_0 ?_
    show am_RI (am_run am_M 3 [.ref 0] h) _
    rw [e3]
    rw [c8]
    exact ⟨_, _, rfl, rfl, hc0, am_fc.refl _⟩
  · show am_RI (am_run am_M 220 [.ref 60] h) _
    obtain ⟨hm0, ht0, hf0⟩ := m_start hm
    rw [e220]
    generalize am_sI h 60 0 (nI 0) = g at hm0 ht0 hf0 ⊢
    dsimp only
    have hm1 := hm0
    obtain ⟨m1, m2, m3, m4, m5, m6, m7, m8, m9, m10, m11, m12⟩ := hm1
    rw [m8]
    exact ⟨_, _, rfl, am_fin_m hf0 hm0 (am_kp.refl _ _) ht0 (fun _ => rfl)⟩
theorem call_far {w : pw_W} (hw : pw_wf w) (x y : Int32) : am_AG 1 (fun e => e) w (fun h => am_run am_M 8 [.ref 0, .int x, .int y] h) (fun h => am_run am_M 241 [.ref 60, .int x, .int y] h) := by
  obtain ⟨d, S, l, t, im, tp, nb, fp, rf⟩ := w
  have hw0 := hw
  obtain ⟨ho, hS, ha, ht, hi, hnb, htp⟩ := hw
  rcases Classical.em (pz_b x (pw_n d 1)) with hx | hx
  rotate_left
  · refine ⟨1, 0, (d, S, l, t, im, tp, nb, fp, rf), hw0, ⟨by omega, fun hh => by first | exact absurd rfl hh | rfl⟩, fun h hc => ?_, fun h hm => ?_⟩
    · have hc0 := hc
      obtain ⟨⟨L, hL, r1, r2, c1⟩, c2, c3, c4, c5, c6, c7, c8, c9⟩ := hc
      refine am_CO_x (by decide) ?_
      show am_run am_M 8 [.ref 0, .int x, .int y] h = _
      rw [e8, c61_f hL r1 c1 ho hx]
      try rfl
    · show am_RI (am_run am_M 241 [.ref 60, .int x, .int y] h) _
      obtain ⟨hm0, ht0, hf0⟩ := m_start hm
      rw [e241]
      generalize am_sI h 60 0 (nI 0) = g at hm0 ht0 hf0 ⊢
      dsimp only
      have hm1 := hm0
      obtain ⟨m1, m2, m3, m4, m5, m6, m7, m8, m9, m10, m11, m12⟩ := hm1
      rw [s235_f m1 ho ht0 hx, am_bI_ok, if_pos (by decide)]
      exact ⟨_, _, rfl, am_fin_x hf0 hm0 (by decide)⟩
  obtain ⟨i, hx, rfl⟩ := hx
  rcases Classical.em (pz_b y (pw_n d 1)) with hy | hy
  rotate_left
  · refine ⟨1, 0, (d, S, l, t, im, tp, nb, fp, rf), hw0, ⟨by omega, fun hh => by first | exact absurd rfl hh | rfl⟩, fun h hc => ?_, fun h hm => ?_⟩
    · have hc0 := hc
      obtain ⟨⟨L, hL, r1, r2, c1⟩, c2, c3, c4, c5, c6, c7, c8, c9⟩ := hc
      refine am_CO_x (by decide) ?_
      show am_run am_M 8 [.ref 0, .int (nI i), .int y] h = _
      rw [e8, c61_t hL r1 c1 ho hx, am_bV_ok, c61_f hL r1 c1 ho hy]
      try rfl
    · show am_RI (am_run am_M 241 [.ref 60, .int (nI i), .int y] h) _
      obtain ⟨hm0, ht0, hf0⟩ := m_start hm
      rw [e241]
      generalize am_sI h 60 0 (nI 0) = g at hm0 ht0 hf0 ⊢
      dsimp only
      have hm1 := hm0
      obtain ⟨m1, m2, m3, m4, m5, m6, m7, m8, m9, m10, m11, m12⟩ := hm1
      rw [s235_t m1 ho ht0 hx, am_bI_ok, if_neg (by decide), s235_f m1 ho ht0 hy, am_bI_ok, if_pos (by decide)]
      exact ⟨_, _, rfl, am_fin_x hf0 hm0 (by decide)⟩
  obtain ⟨j, hy, rfl⟩ := hy
  have h6 := ho.1.2.2.2.1
  have h4 := ho.1.1
  have hd9 := hS.2.1
  have h9 := ho.1.2.1
  refine ⟨0, (if pw_w d 9999 (pw_n d 1) i j < 9999 then nI (pw_w d 9999 (pw_n d 1) i j) else (-1 : Int32)), (d, S, l, t, im, tp, nb, fp, rf), hw0, ⟨by omega, fun hh => by first | exact absurd rfl hh | rfl⟩, fun h hc => ?_, fun h hm => ?_⟩
  · have hc0 := hc
    obtain ⟨⟨L, hL, r1, r2, c1⟩, c2, c3, c4, c5, c6, c7, c8, c9⟩ := hc
    refine am_CO_0 ?_
    show am_RI (am_run am_M 8 [.ref 0, .int (nI i), .int (nI j)] h) _
    rw [e8, c61_t hL r1 c1 ho hx, am_bV_ok, c61_t hL r1 c1 ho hy, am_bV_ok]
    rw [r1, am_gr_n, pc_lch hL, s96 hL (show i * 9 + j < 81 by omega), am_bI_ok, c1.2.2.2.2.2.1 i j hx hy]
    have tw := pw_far_two ho hx hy
    unfold pw_far pw_fam at tw
    by_cases c : pw_w d 9999 (pw_n d 1) i j < 9999
    · rw [if_neg (nI_ge (by omega) (by omega)), if_pos c, show pw_w d 1000 (pw_n d 1) i j = pw_w d 9999 (pw_n d 1) i j by omega]
      exact ⟨_, _, rfl, rfl, hc0, am_fc.refl _⟩
    · rw [if_pos (nI_le (by omega) (by omega)), if_neg c]
      exact ⟨_, _, rfl, rfl, hc0, am_fc.refl _⟩
  · show am_RI (am_run am_M 241 [.ref 60, .int (nI i), .int (nI j)] h) _
    obtain ⟨hm0, ht0, hf0⟩ := m_start hm
    rw [e241]
    generalize am_sI h 60 0 (nI 0) = g at hm0 ht0 hf0 ⊢
    dsimp only
    have hm1 := hm0
    obtain ⟨m1, m2, m3, m4, m5, m6, m7, m8, m9, m10, m11, m12⟩ := hm1
    rw [s235_t m1 ho ht0 hx, am_bI_ok, if_neg (by decide), s235_t m1 ho ht0 hy, am_bI_ok, if_neg (by decide)]
    have tw := pw_far_two ho hx hy
    unfold pw_far pw_fam at tw
    rw [pk_mul, nI_add, Nat.mul_comm 9 i, ml_65 (show i * 9 + j < 81 by omega), m1.2.2.2.2.2.1 i j hx hy]
    by_cases c : pw_w d 9999 (pw_n d 1) i j < 9999
    · rw [if_pos (nI_lt c (by omega)), if_pos c, ml_65 (show i * 9 + j < 81 by omega), m1.2.2.2.2.2.1 i j hx hy]
      exact ⟨_, _, rfl, am_fin_m hf0 hm0 (am_kp.refl _ _) ht0 (fun _ => rfl)⟩
    · rw [if_neg (nI_nlt (by omega) (by omega)), if_neg c]
      exact ⟨_, _, rfl, am_fin_m hf0 hm0 (am_kp.refl _ _) ht0 (fun _ => rfl)⟩
theorem call_right {w : pw_W} (hw : pw_wf w) (x y z : Int32) : am_AG 1 (fun e => e) w (fun h => am_run am_M 9 [.ref 0, .int x, .int y, .int z] h) (fun h => am_run am_M 243 [.ref 60, .int x, .int y, .int z] h) := by
  obtain ⟨d, S, l, t, im, tp, nb, fp, rf⟩ := w
  have hw0 := hw
  obtain ⟨ho, hS, ha, ht, hi, hnb, htp⟩ := hw
  rcases Classical.em (pz_b x (pw_n d 3)) with hx | hx
  rotate_left
  · refine ⟨1, 0, (d, S, l, t, im, tp, nb, fp, rf), hw0, ⟨by omega, fun hh => by first | exact absurd rfl hh | rfl⟩, fun h hc => ?_, fun h hm => ?_⟩
    · have hc0 := hc
      obtain ⟨⟨L, hL, r1, r2, c1⟩, c2, c3, c4, c5, c6, c7, c8, c9⟩ := hc
      refine am_CO_x (by decide) ?_
      show am_run am_M 9 [.ref 0, .int x, .int y, .int z] h = _
      rw [e9, c62_f hL r1 c1 ho hx]
      try rfl
    · show am_RI (am_run am_M 243 [.ref 60, .int x, .int y, .int z] h) _
      obtain ⟨hm0, ht0, hf0⟩ := m_start hm
      rw [e243]
      generalize am_sI h 60 0 (nI 0) = g at hm0 ht0 hf0 ⊢
      dsimp only
      have hm1 := hm0
      obtain ⟨m1, m2, m3, m4, m5, m6, m7, m8, m9, m10, m11, m12⟩ := hm1
      rw [s236_f m1 ho ht0 hx, am_bI_ok, if_pos (by decide), if_pos (by decide)]
      exact ⟨_, _, rfl, am_fin_x hf0 hm0 (by decide)⟩
  obtain ⟨i, hx, rfl⟩ := hx
  rcases Classical.em (pz_b y (pw_n d 1)) with hy | hy
  rotate_left
  · refine ⟨1, 0, (d, S, l, t, im, tp, nb, fp, rf), hw0, ⟨by omega, fun hh => by first | exact absurd rfl hh | rfl⟩, fun h hc => ?_, fun h hm => ?_⟩
    · have hc0 := hc
      obtain ⟨⟨L, hL, r1, r2, c1⟩, c2, c3, c4, c5, c6, c7, c8, c9⟩ := hc
      refine am_CO_x (by decide) ?_
      show am_run am_M 9 [.ref 0, .int (nI i), .int y, .int z] h = _
      rw [e9, c62_t hL r1 c1 ho hx, am_bV_ok, c61_f hL r1 c1 ho hy]
      try rfl
    · show am_RI (am_run am_M 243 [.ref 60, .int (nI i), .int y, .int z] h) _
      obtain ⟨hm0, ht0, hf0⟩ := m_start hm
      rw [e243]
      generalize am_sI h 60 0 (nI 0) = g at hm0 ht0 hf0 ⊢
      dsimp only
      have hm1 := hm0
      obtain ⟨m1, m2, m3, m4, m5, m6, m7, m8, m9, m10, m11, m12⟩ := hm1
      rw [s236_t m1 ho ht0 hx, am_bI_ok, if_neg (by decide), s235_f m1 ho ht0 hy, am_bI_ok, if_pos (by decide), if_pos (by decide)]
      exact ⟨_, _, rfl, am_fin_x hf0 hm0 (by decide)⟩
  obtain ⟨j, hy, rfl⟩ := hy
  rcases Classical.em (pz_b z (23 + 1)) with hz | hz
  rotate_left
  · refine ⟨1, 0, (d, S, l, t, im, tp, nb, fp, rf), hw0, ⟨by omega, fun hh => by first | exact absurd rfl hh | rfl⟩, fun h hc => ?_, fun h hm => ?_⟩
    · have hc0 := hc
      obtain ⟨⟨L, hL, r1, r2, c1⟩, c2, c3, c4, c5, c6, c7, c8, c9⟩ := hc
      refine am_CO_x (by decide) ?_
      show am_run am_M 9 [.ref 0, .int (nI i), .int (nI j), .int z] h = _
      rw [e9, c62_t hL r1 c1 ho hx, am_bV_ok, c61_t hL r1 c1 ho hy, am_bV_ok, c63_f hz]
      try rfl
    · show am_RI (am_run am_M 243 [.ref 60, .int (nI i), .int (nI j), .int z] h) _
      obtain ⟨hm0, ht0, hf0⟩ := m_start hm
      rw [e243]
      generalize am_sI h 60 0 (nI 0) = g at hm0 ht0 hf0 ⊢
      dsimp only
      have hm1 := hm0
      obtain ⟨m1, m2, m3, m4, m5, m6, m7, m8, m9, m10, m11, m12⟩ := hm1
      rw [s236_t m1 ho ht0 hx, am_bI_ok, if_neg (by decide), s235_t m1 ho ht0 hy, am_bI_ok, if_neg (by decide), s237_f ht0 hz (by omega), am_bI_ok, if_pos (by decide), if_pos (by decide)]
      exact ⟨_, _, rfl, am_fin_x hf0 hm0 (by decide)⟩
  obtain ⟨n, hz, rfl⟩ := hz
  have h6 := ho.1.2.2.2.1
  have h4 := ho.1.1
  have hd9 := hS.2.1
  have h9 := ho.1.2.1
  refine ⟨0, (nI (if pa_ok d S i j n then 1 else 0)), (d, S, l, t, im, tp, nb, fp, rf), hw0, ⟨by omega, fun hh => by first | exact absurd rfl hh | rfl⟩, fun h hc => ?_, fun h hm => ?_⟩
  · have hc0 := hc
    obtain ⟨⟨L, hL, r1, r2, c1⟩, c2, c3, c4, c5, c6, c7, c8, c9⟩ := hc
    refine am_CO_0 ?_
    show am_RI (am_run am_M 9 [.ref 0, .int (nI i), .int (nI j), .int (nI n)] h) _
    rw [e9, c62_t hL r1 c1 ho hx, am_bV_ok, c61_t hL r1 c1 ho hy, am_bV_ok, c63_t hz, am_bV_ok]
    rw [r1, am_gr_n, pc_lch hL]
    refine pz_II (s103 hL pc_so20 c1 ho c2 hS.1 (by omega) hx hy hz) fun v g hv => ?_
    obtain ⟨rfl, k⟩ := hv
    rw [if_pos (pz_ib _)]
    exact ⟨_, _, rfl, rfl, am_fin_c hc0 (k.up fun i k => ps_0C)⟩
  · show am_RI (am_run am_M 243 [.ref 60, .int (nI i), .int (nI j), .int (nI n)] h) _
    obtain ⟨hm0, ht0, hf0⟩ := m_start hm
    rw [e243]
    generalize am_sI h 60 0 (nI 0) = g at hm0 ht0 hf0 ⊢
    dsimp only
    have hm1 := hm0
    obtain ⟨m1, m2, m3, m4, m5, m6, m7, m8, m9, m10, m11, m12⟩ := hm1
    rw [s236_t m1 ho ht0 hx, am_bI_ok, if_neg (by decide), s235_t m1 ho ht0 hy, am_bI_ok, if_neg (by decide), s237_t ht0 hz (by omega), am_bI_ok, if_neg (by decide)]
    refine pz_II (s242 m1 ho m2 hS.1 (by omega) m10 hx hy hz) fun v g2 hv => ?_
    obtain ⟨rfl, k⟩ := hv
    have kM : am_kp ps_M g g2 := k.up fun i k h => by have := of_decide_eq_false h; exact ps_m_f (by omega)
    have ht2 : am_I g2 60 0 = nI 0 := (k.get 60 0 (ps_m_f (by omega))).trans ht0
    cases pa_ok d S i j n with
    | true =>
      rw [if_pos rfl, if_neg (by decide), if_pos (by decide)]
      exact ⟨_, _, rfl, am_fin_m hf0 hm0 kM ht2 (fun _ => rfl)⟩
    | false =>
      rw [if_pos (show nI (if false = true then 1 else 0) = 0 by decide), if_pos (by decide)]
      exact ⟨_, _, rfl, am_fin_m hf0 hm0 kM ht2 (fun _ => rfl)⟩
theorem call_pack {w : pw_W} (hw : pw_wf w) (x zz : Int32) : am_AG 1 (fun e => e) w (fun h => am_run am_M 5 [.ref 0, .int x, .int zz] h) (fun h => am_run am_M 238 [.ref 60, .int x, .int zz] h) := by
  obtain ⟨d, S, l, t, im, tp, nb, fp, rf⟩ := w
  have hw0 := hw
  obtain ⟨ho, hS, ha, ht, hi, hnb, htp⟩ := hw
  rcases Classical.em (pz_b x (pw_n d 0)) with hx | hx
  rotate_left
  · refine ⟨1, 0, (d, S, l, t, im, tp, nb, fp, rf), hw0, ⟨by omega, fun hh => by first | exact absurd rfl hh | rfl⟩, fun h hc => ?_, fun h hm => ?_⟩
    · have hc0 := hc
      obtain ⟨⟨L, hL, r1, r2, c1⟩, c2, c3, c4, c5, c6, c7, c8, c9⟩ := hc
      refine am_CO_x (by decide) ?_
      show am_run am_M 5 [.ref 0, .int x, .int zz] h = _
      rw [e5, c60_f hL r1 c1 ho hx]
      try rfl
    · show am_RI (am_run am_M 238 [.ref 60, .int x, .int zz] h) _
      obtain ⟨hm0, ht0, hf0⟩ := m_start hm
      rw [e238]
      generalize am_sI h 60 0 (nI 0) = g at hm0 ht0 hf0 ⊢
      dsimp only
      have hm1 := hm0
      obtain ⟨m1, m2, m3, m4, m5, m6, m7, m8, m9, m10, m11, m12⟩ := hm1
      rw [s234_f m1 ho ht0 hx, am_bI_ok, if_pos (by decide)]
      exact ⟨_, _, rfl, am_fin_x hf0 hm0 (by decide)⟩
  obtain ⟨i, hx, rfl⟩ := hx
  rcases Classical.em (pz_b zz (4 + 1)) with hzz | hzz
  rotate_left
  · refine ⟨1, 0, (d, S, l, t, im, tp, nb, fp, rf), hw0, ⟨by omega, fun hh => by first | exact absurd rfl hh | rfl⟩, fun h hc => ?_, fun h hm => ?_⟩
    · have hc0 := hc
      obtain ⟨⟨L, hL, r1, r2, c1⟩, c2, c3, c4, c5, c6, c7, c8, c9⟩ := hc
      refine am_CO_x (by decide) ?_
      show am_run am_M 5 [.ref 0, .int (nI i), .int zz] h = _
      rw [e5, c60_t hL r1 c1 ho hx, am_bV_ok, if_neg (fun e => hzz ⟨0, by omega, e⟩), if_neg (fun e => hzz ⟨1, by omega, e⟩), if_neg (fun e => hzz ⟨2, by omega, e⟩), if_neg (fun e => hzz ⟨3, by omega, e⟩), if_neg (fun e => hzz ⟨4, by omega, e⟩)]
      try rfl
    · show am_RI (am_run am_M 238 [.ref 60, .int (nI i), .int zz] h) _
      obtain ⟨hm0, ht0, hf0⟩ := m_start hm
      rw [e238]
      generalize am_sI h 60 0 (nI 0) = g at hm0 ht0 hf0 ⊢
      dsimp only
      have hm1 := hm0
      obtain ⟨m1, m2, m3, m4, m5, m6, m7, m8, m9, m10, m11, m12⟩ := hm1
      rw [s234_t m1 ho ht0 hx, am_bI_ok, if_neg (by decide), s237_f ht0 hzz (by omega), am_bI_ok, if_pos (by decide)]
      exact ⟨_, _, rfl, am_fin_x hf0 hm0 (by decide)⟩
  obtain ⟨z, hzz, rfl⟩ := hzz
  have h6 := ho.1.2.2.2.1
  have h4 := ho.1.1
  have hd9 := hS.2.1
  have h9 := ho.1.2.1
  refine ⟨0, (if z = 0 then nI (S (45 + i)) else if z = 1 then nI (S (37 + i)) else if z = 2 then nI (S (41 + i)) else if z = 3 then nI (pb (fun a => decide (pw_t d 1 a = i)) (pw_n d 1)) else nI (pb (fun p => decide (pw_t d 1 (pw_t d 3 p) = i)) (pw_n d 3))), (d, S, l, t, im, tp, nb, fp, rf), hw0, ⟨by omega, fun hh => by first | exact absurd rfl hh | rfl⟩, fun h hc => ?_, fun h hm => ?_⟩
  · have hc0 := hc
    obtain ⟨⟨L, hL, r1, r2, c1⟩, c2, c3, c4, c5, c6, c7, c8, c9⟩ := hc
    refine am_CO_0 ?_
    show am_RI (am_run am_M 5 [.ref 0, .int (nI i), .int (nI z)] h) _
    rw [e5, c60_t hL r1 c1 ho hx, am_bV_ok]
    have hz : z = 0 ∨ z = 1 ∨ z = 2 ∨ z = 3 ∨ z = 4 := by omega
    rcases hz with rfl | rfl | rfl | rfl | rfl
    · rw [if_pos (by decide), s153 pc_so20 (show 37 + 2 * 4 + i < 49 by omega), am_bI_ok, c2 _ (by omega)]
      exact ⟨_, _, rfl, rfl, hc0, am_fc.refl _⟩
    · rw [if_neg (by decide), if_pos (by decide), s153 pc_so20 (show 37 + 0 * 4 + i < 49 by omega), am_bI_ok, c2 _ (by omega)]
      exact ⟨_, _, rfl, rfl, hc0, am_fc.refl _⟩
    · rw [if_neg (by decide), if_neg (by decide), if_pos (by decide), s153 pc_so20 (show 37 + 1 * 4 + i < 49 by omega), am_bI_ok, c2 _ (by omega)]
      exact ⟨_, _, rfl, rfl, hc0, am_fc.refl _⟩
    · rw [if_neg (by decide), if_neg (by decide), if_neg (by decide), if_pos (by decide), r1, am_gr_n, pc_lch hL, s98 hL c1 ho (by omega), am_bI_ok]
      exact ⟨_, _, rfl, rfl, hc0, am_fc.refl _⟩
    · rw [if_neg (by decide), if_neg (by decide), if_neg (by decide), if_neg (by decide), if_pos (by decide), r1, am_gr_n, pc_lch hL, s99 hL c1 ho (by omega), am_bI_ok]
      exact ⟨_, _, rfl, rfl, hc0, am_fc.refl _⟩
  · show am_RI (am_run am_M 238 [.ref 60, .int (nI i), .int (nI z)] h) _
    obtain ⟨hm0, ht0, hf0⟩ := m_start hm
    rw [e238]
    generalize am_sI h 60 0 (nI 0) = g at hm0 ht0 hf0 ⊢
    dsimp only
    have hm1 := hm0
    obtain ⟨m1, m2, m3, m4, m5, m6, m7, m8, m9, m10, m11, m12⟩ := hm1
    rw [s234_t m1 ho ht0 hx, am_bI_ok, if_neg (by decide), s237_t ht0 hzz (by omega), am_bI_ok, if_neg (by decide)]
    have hz : z = 0 ∨ z = 1 ∨ z = 2 ∨ z = 3 ∨ z = 4 := by omega
    rcases hz with rfl | rfl | rfl | rfl | rfl
    · rw [if_pos (by decide), ml_61 (by omega), m1.2.2.2.2.2.2.1 i hx, ← hS.2.2 i hx]
      exact ⟨_, _, rfl, am_fin_m hf0 hm0 (am_kp.refl _ _) ht0 (fun _ => rfl)⟩
    · rw [if_neg (by decide), if_neg (by decide), if_pos (by decide), nI_add 32 i, ml_85 (by omega), m2.is (by omega)]
      exact ⟨_, _, rfl, am_fin_m hf0 hm0 (am_kp.refl _ _) ht0 (fun _ => rfl)⟩
    · rw [if_neg (by decide), if_neg (by decide), if_neg (by decide), nI_add 36 i, ml_85 (by omega), m2.it (by omega)]
      exact ⟨_, _, rfl, am_fin_m hf0 hm0 (am_kp.refl _ _) ht0 (fun _ => rfl)⟩
    · rw [if_neg (by decide), if_pos (by decide)]
      obtain ⟨g2, e, hp⟩ := am_for0 (fun k (g' : am_H) => am_vn am_M 2 238 72 [some (.ref 60), some (.int (nI i)), some (.int (nI 3)), some (.int (nI (pb (fun a => decide (pw_t d 1 a = i)) k))), some (.int (nI k))] [] g') (fun _ g' => g' = g) (pw_n d 1) g rfl (fun k g' hk hg => by
        subst hg
        refine ⟨g', ?_, rfl⟩
        have ht := (ho.2.1 k hk).2
        rw [e238_72, show am_I g' 60 2 = nI (pw_n d 1) from m1.1 1 (by omega), if_neg (nI_ge hk (by omega)), if_pos (by decide), ml_63 (by omega), (m1.2.1 k hk).2, pz_succ k, ← pb_step (fun a => decide (pw_t d 1 a = i)) (show k < 31 by omega)]
        by_cases c : pw_t d 1 k = i
        · rw [if_pos (by rw [c]), decide_eq_true c, if_pos rfl]
        · rw [if_neg (fun e => c ((nI_eq (by omega) (by omega)).mp e)), decide_eq_false c, if_neg (by decide)]
      )
      subst hp
      refine Eq.mpr (congrArg (fun o => am_RI o _) e) ?_
      rw [e238_72, show am_I g2 60 2 = nI (pw_n d 1) from m1.1 1 (by omega), if_pos (nI_le (Nat.le_refl _) (by omega)), e238_117, show am_I g2 60 4 = nI (pw_n d 3) from m1.1 3 (by omega)]
      by_cases c : pw_n d 3 = 0
      · rw [c, if_pos (by decide)]
        exact ⟨_, _, rfl, am_fin_m hf0 hm0 (am_kp.refl _ _) ht0 (fun _ => rfl)⟩
      · rw [if_neg (nI_ge (by omega) (by omega)), if_neg (by decide)]
        exact ⟨_, _, rfl, am_fin_m hf0 hm0 (am_kp.refl _ _) ht0 (fun _ => rfl)⟩
    · have h72 : am_vn am_M 2 238 72 [some (.ref 60), some (.int (nI i)), some (.int (nI 4)), some (.int (nI 0)), some (.int (nI 0))] [] g = am_vn am_M 2 238 117 [some (.ref 60), some (.int (nI i)), some (.int (nI 4)), some (.int (nI 0)), some (.int (nI 0))] [] g := by
        rw [e238_72, show am_I g 60 2 = nI (pw_n d 1) from m1.1 1 (by omega)]
        by_cases c : pw_n d 1 = 0
        · rw [c, if_pos (by decide)]
        · rw [if_neg (nI_ge (by omega) (by omega)), if_neg (by decide)]
      rw [if_neg (by decide), if_pos (by decide), h72]
      obtain ⟨g2, e, hp⟩ := am_for0 (fun k (g' : am_H) => am_vn am_M 2 238 117 [some (.ref 60), some (.int (nI i)), some (.int (nI 4)), some (.int (nI (pb (fun p => decide (pw_t d 1 (pw_t d 3 p) = i)) k))), some (.int (nI k))] [] g') (fun _ g' => g' = g) (pw_n d 3) g rfl (fun k g' hk hg => by
        subst hg
        refine ⟨g', ?_, rfl⟩
        have hh := (ho.2.2.1 k hk).2
        have ht := (ho.2.1 _ hh).2
        rw [e238_117, show am_I g' 60 4 = nI (pw_n d 3) from m1.1 3 (by omega), if_neg (nI_ge hk (by omega)), if_pos (by decide), s227 m1 ho hk, am_bI_ok, pz_succ k, ← pb_step (fun p => decide (pw_t d 1 (pw_t d 3 p) = i)) (show k < 31 by omega)]
        by_cases c : pw_t d 1 (pw_t d 3 k) = i
        · rw [if_pos (by rw [c]), decide_eq_true c, if_pos rfl]
        · rw [if_neg (fun e => c ((nI_eq (by omega) (by omega)).mp e)), decide_eq_false c, if_neg (by decide)]
      )
      subst hp
      refine Eq.mpr (congrArg (fun o => am_RI o _) e) ?_
      rw [e238_117, show am_I g2 60 4 = nI (pw_n d 3) from m1.1 3 (by omega), if_pos (nI_le (Nat.le_refl _) (by omega))]
      exact ⟨_, _, rfl, am_fin_m hf0 hm0 (am_kp.refl _ _) ht0 (fun _ => rfl)⟩
theorem call_place {w : pw_W} (hw : pw_wf w) (x zz : Int32) : am_AG 1 (fun e => e) w (fun h => am_run am_M 6 [.ref 0, .int x, .int zz] h) (fun h => am_run am_M 239 [.ref 60, .int x, .int zz] h) := by
  obtain ⟨d, S, l, t, im, tp, nb, fp, rf⟩ := w
  have hw0 := hw
  obtain ⟨ho, hS, ha, ht, hi, hnb, htp⟩ := hw
  rcases Classical.em (pz_b x (pw_n d 1)) with hx | hx
  rotate_left
  · refine ⟨1, 0, (d, S, l, t, im, tp, nb, fp, rf), hw0, ⟨by omega, fun hh => by first | exact absurd rfl hh | rfl⟩, fun h hc => ?_, fun h hm => ?_⟩
    · have hc0 := hc
      obtain ⟨⟨L, hL, r1, r2, c1⟩, c2, c3, c4, c5, c6, c7, c8, c9⟩ := hc
      refine am_CO_x (by decide) ?_
      show am_run am_M 6 [.ref 0, .int x, .int zz] h = _
      rw [e6, c61_f hL r1 c1 ho hx]
      try rfl
    · show am_RI (am_run am_M 239 [.ref 60, .int x, .int zz] h) _
      obtain ⟨hm0, ht0, hf0⟩ := m_start hm
      rw [e239]
      generalize am_sI h 60 0 (nI 0) = g at hm0 ht0 hf0 ⊢
      dsimp only
      have hm1 := hm0
      obtain ⟨m1, m2, m3, m4, m5, m6, m7, m8, m9, m10, m11, m12⟩ := hm1
      rw [s235_f m1 ho ht0 hx, am_bI_ok, if_pos (by decide)]
      exact ⟨_, _, rfl, am_fin_x hf0 hm0 (by decide)⟩
  obtain ⟨i, hx, rfl⟩ := hx
  rcases Classical.em (pz_b zz (3 + 1)) with hzz | hzz
  rotate_left
  · refine ⟨1, 0, (d, S, l, t, im, tp, nb, fp, rf), hw0, ⟨by omega, fun hh => by first | exact absurd rfl hh | rfl⟩, fun h hc => ?_, fun h hm => ?_⟩
    · have hc0 := hc
      obtain ⟨⟨L, hL, r1, r2, c1⟩, c2, c3, c4, c5, c6, c7, c8, c9⟩ := hc
      refine am_CO_x (by decide) ?_
      show am_run am_M 6 [.ref 0, .int (nI i), .int zz] h = _
      rw [e6, c61_t hL r1 c1 ho hx, am_bV_ok, if_neg (fun e => hzz ⟨0, by omega, e⟩), if_neg (fun e => hzz ⟨1, by omega, e⟩), if_neg (fun e => hzz ⟨2, by omega, e⟩), if_neg (fun e => hzz ⟨3, by omega, e⟩)]
      try rfl
    · show am_RI (am_run am_M 239 [.ref 60, .int (nI i), .int zz] h) _
      obtain ⟨hm0, ht0, hf0⟩ := m_start hm
      rw [e239]
      generalize am_sI h 60 0 (nI 0) = g at hm0 ht0 hf0 ⊢
      dsimp only
      have hm1 := hm0
      obtain ⟨m1, m2, m3, m4, m5, m6, m7, m8, m9, m10, m11, m12⟩ := hm1
      rw [s235_t m1 ho ht0 hx, am_bI_ok, if_neg (by decide), s237_f ht0 hzz (by omega), am_bI_ok, if_pos (by decide)]
      exact ⟨_, _, rfl, am_fin_x hf0 hm0 (by decide)⟩
  obtain ⟨z, hzz, rfl⟩ := hzz
  have h6 := ho.1.2.2.2.1
  have h4 := ho.1.1
  have hd9 := hS.2.1
  have h9 := ho.1.2.1
  refine ⟨0, (if z = 0 then nI (pw_t d 0 i) else if z = 1 then nI (pw_t d 1 i) else if z = 2 then nI (pz_cnt (fun b => decide (pw_t d 5 (i * 9 + b) ≠ 0)) (pw_n d 1)) else nI (pb (fun p => decide (pw_t d 3 p = i)) (pw_n d 3))), (d, S, l, t, im, tp, nb, fp, rf), hw0, ⟨by omega, fun hh => by first | exact absurd rfl hh | rfl⟩, fun h hc => ?_, fun h hm => ?_⟩
  · have hc0 := hc
    obtain ⟨⟨L, hL, r1, r2, c1⟩, c2, c3, c4, c5, c6, c7, c8, c9⟩ := hc
    refine am_CO_0 ?_
    show am_RI (am_run am_M 6 [.ref 0, .int (nI i), .int (nI z)] h) _
    rw [e6, c61_t hL r1 c1 ho hx, am_bV_ok]
    have hz : z = 0 ∨ z = 1 ∨ z = 2 ∨ z = 3 := by omega
    rcases hz with rfl | rfl | rfl | rfl
    · rw [if_pos (by decide), r1, am_gr_n, pc_lch hL, s90 hL (by omega), am_bI_ok, (c1.2.1 i hx).1]
      exact ⟨_, _, rfl, rfl, hc0, am_fc.refl _⟩
    · rw [if_neg (by decide), if_pos (by decide), r1, am_gr_n, pc_lch hL, s91 hL (by omega), am_bI_ok, (c1.2.1 i hx).2]
      exact ⟨_, _, rfl, rfl, hc0, am_fc.refl _⟩
    · rw [if_neg (by decide), if_neg (by decide), if_pos (by decide), r1, am_gr_n, pc_lch hL, s101 hL c1 ho hx, am_bI_ok]
      exact ⟨_, _, rfl, rfl, hc0, am_fc.refl _⟩
    · rw [if_neg (by decide), if_neg (by decide), if_neg (by decide), if_pos (by decide), r1, am_gr_n, pc_lch hL, s100 hL c1 ho (by omega), am_bI_ok]
      exact ⟨_, _, rfl, rfl, hc0, am_fc.refl _⟩
  · show am_RI (am_run am_M 239 [.ref 60, .int (nI i), .int (nI z)] h) _
    obtain ⟨hm0, ht0, hf0⟩ := m_start hm
    rw [e239]
    generalize am_sI h 60 0 (nI 0) = g at hm0 ht0 hf0 ⊢
    dsimp only
    have hm1 := hm0
    obtain ⟨m1, m2, m3, m4, m5, m6, m7, m8, m9, m10, m11, m12⟩ := hm1
    rw [s235_t m1 ho ht0 hx, am_bI_ok, if_neg (by decide), s237_t ht0 hzz (by omega), am_bI_ok, if_neg (by decide)]
    have hz : z = 0 ∨ z = 1 ∨ z = 2 ∨ z = 3 := by omega
    rcases hz with rfl | rfl | rfl | rfl
    · rw [if_neg (by decide), if_pos (by decide), ml_62 (by omega), (m1.2.1 i hx).1]
      exact ⟨_, _, rfl, am_fin_m hf0 hm0 (am_kp.refl _ _) ht0 (fun _ => rfl)⟩
    · rw [if_neg (by decide), if_neg (by decide), ml_63 (by omega), (m1.2.1 i hx).2]
      exact ⟨_, _, rfl, am_fin_m hf0 hm0 (am_kp.refl _ _) ht0 (fun _ => rfl)⟩
    · rw [if_pos (by decide)]
      obtain ⟨g2, e, hp⟩ := am_for0 (fun k (g' : am_H) => am_vn am_M 2 239 54 [some (.ref 60), some (.int (nI i)), some (.int (nI 2)), some (.int (nI (pz_cnt (fun b => decide (pw_t d 5 (i * 9 + b) ≠ 0)) k))), some (.int (nI k))] [] g') (fun _ g' => g' = g) (pw_n d 1) g rfl (fun k g' hk hg => by
        subst hg
        have hh := (ho.2.2.2.2.1 i k (by omega) (by omega)).1
        refine ⟨g', ?_, rfl⟩
        rw [e239_54, show am_I g' 60 2 = nI (pw_n d 1) from m1.1 1 (by omega), if_neg (nI_ge hk (by omega)), if_pos (by decide), pk_mul, nI_add, Nat.mul_comm 9 i, ml_64 (show i * 9 + k < 81 by omega), m1.2.2.2.2.1 _ (by omega), pz_succ k, pz_cnt]
        by_cases c : pw_t d 5 (i * 9 + k) = 0
        · rw [if_pos (by rw [c]; decide), decide_eq_false (fun h => h c), if_neg (by decide), pz_addz]; rfl
        · rw [if_neg (nI_nle (by omega) (by omega)), decide_eq_true c, if_pos rfl, pz_succ])
      subst hp
      refine Eq.mpr (congrArg (fun o => am_RI o _) e) ?_
      rw [e239_54, show am_I g2 60 2 = nI (pw_n d 1) from m1.1 1 (by omega), if_pos (nI_le (Nat.le_refl _) (by omega)), e239_100, show am_I g2 60 4 = nI (pw_n d 3) from m1.1 3 (by omega)]
      by_cases c : pw_n d 3 = 0
      · rw [c, if_pos (by decide)]
        exact ⟨_, _, rfl, am_fin_m hf0 hm0 (am_kp.refl _ _) ht0 (fun _ => rfl)⟩
      · rw [if_neg (nI_ge (by omega) (by omega)), if_neg (by decide)]
        exact ⟨_, _, rfl, am_fin_m hf0 hm0 (am_kp.refl _ _) ht0 (fun _ => rfl)⟩
    · have h54 : am_vn am_M 2 239 54 [some (.ref 60), some (.int (nI i)), some (.int (nI 3)), some (.int (nI 0)), some (.int (nI 0))] [] g = am_vn am_M 2 239 100 [some (.ref 60), some (.int (nI i)), some (.int (nI 3)), some (.int (nI 0)), some (.int (nI 0))] [] g := by
        rw [e239_54, show am_I g 60 2 = nI (pw_n d 1) from m1.1 1 (by omega)]
        by_cases c : pw_n d 1 = 0
        · rw [c, if_pos (by decide)]
        · rw [if_neg (nI_ge (by omega) (by omega)), if_neg (by decide)]
      rw [if_pos (by decide), h54]
      obtain ⟨g2, e, hp⟩ := am_for0 (fun k (g' : am_H) => am_vn am_M 2 239 100 [some (.ref 60), some (.int (nI i)), some (.int (nI 3)), some (.int (nI (pb (fun p => decide (pw_t d 3 p = i)) k))), some (.int (nI k))] [] g') (fun _ g' => g' = g) (pw_n d 3) g rfl (fun k g' hk hg => by
        subst hg
        refine ⟨g', ?_, rfl⟩
        have hh := (ho.2.2.1 k hk).2
        rw [e239_100, show am_I g' 60 4 = nI (pw_n d 3) from m1.1 3 (by omega), if_neg (nI_ge hk (by omega)), if_pos (by decide), ml_67 (by omega), (m1.2.2.1 k hk).2, pz_succ k, ← pb_step (fun p => decide (pw_t d 3 p = i)) (show k < 31 by omega)]
        by_cases c : pw_t d 3 k = i
        · rw [if_pos (by rw [c]), decide_eq_true c, if_pos rfl]
        · rw [if_neg (fun e => c ((nI_eq (by omega) (by omega)).mp e)), decide_eq_false c, if_neg (by decide)]
      )
      subst hp
      refine Eq.mpr (congrArg (fun o => am_RI o _) e) ?_
      rw [e239_100, show am_I g2 60 4 = nI (pw_n d 3) from m1.1 3 (by omega), if_pos (nI_le (Nat.le_refl _) (by omega))]
      exact ⟨_, _, rfl, am_fin_m hf0 hm0 (am_kp.refl _ _) ht0 (fun _ => rfl)⟩
theorem call_person {w : pw_W} (hw : pw_wf w) (x zz : Int32) : am_AG 1 (fun e => e) w (fun h => am_run am_M 7 [.ref 0, .int x, .int zz] h) (fun h => am_run am_M 240 [.ref 60, .int x, .int zz] h) := by
  obtain ⟨d, S, l, t, im, tp, nb, fp, rf⟩ := w
  have hw0 := hw
  obtain ⟨ho, hS, ha, ht, hi, hnb, htp⟩ := hw
  rcases Classical.em (pz_b x (pw_n d 3)) with hx | hx
  rotate_left
  · refine ⟨1, 0, (d, S, l, t, im, tp, nb, fp, rf), hw0, ⟨by omega, fun hh => by first | exact absurd rfl hh | rfl⟩, fun h hc => ?_, fun h hm => ?_⟩
    · have hc0 := hc
      obtain ⟨⟨L, hL, r1, r2, c1⟩, c2, c3, c4, c5, c6, c7, c8, c9⟩ := hc
      refine am_CO_x (by decide) ?_
      show am_run am_M 7 [.ref 0, .int x, .int zz] h = _
      rw [e7, c62_f hL r1 c1 ho hx]
      try rfl
    · show am_RI (am_run am_M 240 [.ref 60, .int x, .int zz] h) _
      obtain ⟨hm0, ht0, hf0⟩ := m_start hm
      rw [e240]
      generalize am_sI h 60 0 (nI 0) = g at hm0 ht0 hf0 ⊢
      dsimp only
      have hm1 := hm0
      obtain ⟨m1, m2, m3, m4, m5, m6, m7, m8, m9, m10, m11, m12⟩ := hm1
      rw [s236_f m1 ho ht0 hx, am_bI_ok, if_pos (by decide)]
      exact ⟨_, _, rfl, am_fin_x hf0 hm0 (by decide)⟩
  obtain ⟨i, hx, rfl⟩ := hx
  rcases Classical.em (pz_b zz (8 + 1)) with hzz | hzz
  rotate_left
  · refine ⟨1, 0, (d, S, l, t, im, tp, nb, fp, rf), hw0, ⟨by omega, fun hh => by first | exact absurd rfl hh | rfl⟩, fun h hc => ?_, fun h hm => ?_⟩
    · have hc0 := hc
      obtain ⟨⟨L, hL, r1, r2, c1⟩, c2, c3, c4, c5, c6, c7, c8, c9⟩ := hc
      refine am_CO_x (by decide) ?_
      show am_run am_M 7 [.ref 0, .int (nI i), .int zz] h = _
      rw [e7, c62_t hL r1 c1 ho hx, am_bV_ok, if_neg (fun e => hzz ⟨0, by omega, e⟩), if_neg (fun e => hzz ⟨1, by omega, e⟩), if_neg (fun e => hzz ⟨2, by omega, e⟩), if_neg (fun e => hzz ⟨3, by omega, e⟩), if_neg (fun e => hzz ⟨4, by omega, e⟩), if_neg (fun e => hzz ⟨5, by omega, e⟩), if_neg (fun e => hzz ⟨6, by omega, e⟩), if_neg (fun e => hzz ⟨7, by omega, e⟩), if_neg (fun e => hzz ⟨8, by omega, e⟩)]
      try rfl
    · show am_RI (am_run am_M 240 [.ref 60, .int (nI i), .int zz] h) _
      obtain ⟨hm0, ht0, hf0⟩ := m_start hm
      rw [e240]
      generalize am_sI h 60 0 (nI 0) = g at hm0 ht0 hf0 ⊢
      dsimp only
      have hm1 := hm0
      obtain ⟨m1, m2, m3, m4, m5, m6, m7, m8, m9, m10, m11, m12⟩ := hm1
      rw [s236_t m1 ho ht0 hx, am_bI_ok, if_neg (by decide), s237_f ht0 hzz (by omega), am_bI_ok, if_pos (by decide)]
      exact ⟨_, _, rfl, am_fin_x hf0 hm0 (by decide)⟩
  obtain ⟨z, hzz, rfl⟩ := hzz
  have h6 := ho.1.2.2.2.1
  have h4 := ho.1.1
  have hd9 := hS.2.1
  have h9 := ho.1.2.1
  refine ⟨0, (if z = 0 then nI (pw_t d 2 i) else if z = 1 then nI (pw_t d 3 i) else if z = 2 then nI (S (1 + i)) else if z = 3 then nI (S (7 + i)) else if z = 4 then nI (S (13 + i)) else if z = 5 then nI (S (19 + i)) else if z = 6 then nI (S (25 + i)) else if z = 7 then nI (S (31 + i)) else nI (pr_due d S (pw_sn d (S 0)) i)), (d, S, l, t, im, tp, nb, fp, rf), hw0, ⟨by omega, fun hh => by first | exact absurd rfl hh | rfl⟩, fun h hc => ?_, fun h hm => ?_⟩
  · have hc0 := hc
    obtain ⟨⟨L, hL, r1, r2, c1⟩, c2, c3, c4, c5, c6, c7, c8, c9⟩ := hc
    refine am_CO_0 ?_
    show am_RI (am_run am_M 7 [.ref 0, .int (nI i), .int (nI z)] h) _
    rw [e7, c62_t hL r1 c1 ho hx, am_bV_ok]
    have hz : z = 0 ∨ z = 1 ∨ z = 2 ∨ z = 3 ∨ z = 4 ∨ z = 5 ∨ z = 6 ∨ z = 7 ∨ z = 8 := by omega
    rcases hz with rfl | rfl | rfl | rfl | rfl | rfl | rfl | rfl | rfl
    · rw [if_pos (by decide), r1, am_gr_n, pc_lch hL, s92 hL (by omega), am_bI_ok, (c1.2.2.1 i hx).1]
      exact ⟨_, _, rfl, rfl, hc0, am_fc.refl _⟩
    · rw [if_neg (by decide), if_pos (by decide), r1, am_gr_n, pc_lch hL, s93 hL (by omega), am_bI_ok, (c1.2.2.1 i hx).2]
      exact ⟨_, _, rfl, rfl, hc0, am_fc.refl _⟩
    · rw [if_neg (by decide), if_neg (by decide), if_pos (by decide), s151 pc_so20 (show 1 + 0 * 6 + i < 49 by omega), am_bI_ok, c2 _ (by omega), show 1 + 0 * 6 + i = 1 + i by omega]
      exact ⟨_, _, rfl, rfl, hc0, am_fc.refl _⟩
    · rw [if_neg (by decide), if_neg (by decide), if_neg (by decide), if_pos (by decide), s151 pc_so20 (show 1 + 1 * 6 + i < 49 by omega), am_bI_ok, c2 _ (by omega), show 1 + 1 * 6 + i = 7 + i by omega]
      exact ⟨_, _, rfl, rfl, hc0, am_fc.refl _⟩
    · rw [if_neg (by decide), if_neg (by decide), if_neg (by decide), if_neg (by decide), if_pos (by decide), s151 pc_so20 (show 1 + 2 * 6 + i < 49 by omega), am_bI_ok, c2 _ (by omega), show 1 + 2 * 6 + i = 13 + i by omega]
      exact ⟨_, _, rfl, rfl, hc0, am_fc.refl _⟩
    · rw [if_neg (by decide), if_neg (by decide), if_neg (by decide), if_neg (by decide), if_neg (by decide), if_pos (by decide), s151 pc_so20 (show 1 + 3 * 6 + i < 49 by omega), am_bI_ok, c2 _ (by omega), show 1 + 3 * 6 + i = 19 + i by omega]
      exact ⟨_, _, rfl, rfl, hc0, am_fc.refl _⟩
    · rw [if_neg (by decide), if_neg (by decide), if_neg (by decide), if_neg (by decide), if_neg (by decide), if_neg (by decide), if_pos (by decide), s151 pc_so20 (show 1 + 4 * 6 + i < 49 by omega), am_bI_ok, c2 _ (by omega), show 1 + 4 * 6 + i = 25 + i by omega]
      exact ⟨_, _, rfl, rfl, hc0, am_fc.refl _⟩
    · rw [if_neg (by decide), if_neg (by decide), if_neg (by decide), if_neg (by decide), if_neg (by decide), if_neg (by decide), if_neg (by decide), if_pos (by decide), s151 pc_so20 (show 1 + 5 * 6 + i < 49 by omega), am_bI_ok, c2 _ (by omega), show 1 + 5 * 6 + i = 31 + i by omega]
      exact ⟨_, _, rfl, rfl, hc0, am_fc.refl _⟩
    · rw [if_neg (by decide), if_neg (by decide), if_neg (by decide), if_neg (by decide), if_neg (by decide), if_neg (by decide), if_neg (by decide), if_neg (by decide), if_pos (by decide), r1, am_gr_n, am_gr_n, s149 pc_so20, am_bI_ok, c2 0 (by omega), pc_lch hL, s97d hL c1 ho (by omega), am_bI_ok, pc_lch hL]
      refine pz_II (s105 hL pc_so20 c1 ho c2 hS.1 (by omega) hx) fun v g hv => ?_
      obtain ⟨rfl, k⟩ := hv
      exact ⟨_, _, rfl, rfl, am_fin_c hc0 (k.up fun i k => ps_0C)⟩
  · show am_RI (am_run am_M 240 [.ref 60, .int (nI i), .int (nI z)] h) _
    obtain ⟨hm0, ht0, hf0⟩ := m_start hm
    rw [e240]
    generalize am_sI h 60 0 (nI 0) = g at hm0 ht0 hf0 ⊢
    dsimp only
    have hm1 := hm0
    obtain ⟨m1, m2, m3, m4, m5, m6, m7, m8, m9, m10, m11, m12⟩ := hm1
    rw [s236_t m1 ho ht0 hx, am_bI_ok, if_neg (by decide), s237_t ht0 hzz (by omega), am_bI_ok, if_neg (by decide)]
    rw [s183 (r := 61) (q := 90) (n := 4) (m := 4) rfl (by omega) rfl (by omega) (by omega) (by omega) (by omega), am_bV_ok]
    have k90 : am_kp ps_M g (pz_wr g 90 fun j => if j < 4 then am_I g 61 j else am_I g 90 j) := (am_kp.refl _ _).wr _ (fun k => ps_M_t (by omega))
    have ht2 : am_I (pz_wr g 90 fun j => if j < 4 then am_I g 61 j else am_I g 90 j) 60 0 = nI 0 := by
      rw [am_I_w1 _ _ _ (by omega)]; exact ht0
    have hm2 := hm0.kM k90
    have e90 : ∀ k, k < pw_n d 0 → am_I (pz_wr g 90 fun j => if j < 4 then am_I g 61 j else am_I g 90 j) 90 k = nI (S (45 + k)) := fun k hk => by
      rw [am_I_w]
      show (if k < 4 then _ else _) = _
      rw [if_pos (by omega), m1.2.2.2.2.2.2.1 k hk, hS.2.2 k hk]
    generalize (pz_wr g 90 fun j => if j < 4 then am_I g 61 j else am_I g 90 j) = g2 at *
    have hm3 := hm2
    obtain ⟨n1, n2, n3, n4, n5, n6, n7, n8, n9, n10, n11, n12⟩ := hm3
    have hz : z = 0 ∨ z = 1 ∨ z = 2 ∨ z = 3 ∨ z = 4 ∨ z = 5 ∨ z = 6 ∨ z = 7 ∨ z = 8 := by omega
    rcases hz with rfl | rfl | rfl | rfl | rfl | rfl | rfl | rfl | rfl
    · rw [if_pos (by decide), ml_66 (by omega), (n1.2.2.1 i hx).1]
      exact ⟨_, _, rfl, am_fin_m hf0 hm0 k90 ht2 (fun _ => rfl)⟩
    · rw [if_neg (by decide), if_pos (by decide), ml_67 (by omega), (n1.2.2.1 i hx).2]
      exact ⟨_, _, rfl, am_fin_m hf0 hm0 k90 ht2 (fun _ => rfl)⟩
    · rw [if_neg (by decide), if_neg (by decide), if_pos (by decide), pk_sub (by omega), pk_mul, nI_add 1, nI_add, ml_85 (show 1 + 6 * (2 - 2) + i < 40 by omega), n2.i0 (by omega)]
      exact ⟨_, _, rfl, am_fin_m hf0 hm0 k90 ht2 (fun _ => rfl)⟩
    · rw [if_neg (by decide), if_neg (by decide), if_neg (by decide), if_pos (by decide), pk_sub (by omega), pk_mul, nI_add 1, nI_add, ml_85 (show 1 + 6 * (3 - 2) + i < 40 by omega), n2.i0 (by omega)]
      exact ⟨_, _, rfl, am_fin_m hf0 hm0 k90 ht2 (fun _ => rfl)⟩
    · rw [if_neg (by decide), if_neg (by decide), if_neg (by decide), if_neg (by decide), if_pos (by decide), pk_sub (by omega), pk_mul, nI_add 1, nI_add, ml_85 (show 1 + 6 * (4 - 2) + i < 40 by omega), n2.i0 (by omega)]
      exact ⟨_, _, rfl, am_fin_m hf0 hm0 k90 ht2 (fun _ => rfl)⟩
    · rw [if_neg (by decide), if_neg (by decide), if_neg (by decide), if_neg (by decide), if_neg (by decide), if_pos (by decide), pk_sub (by omega), pk_mul, nI_add 1, nI_add, ml_85 (show 1 + 6 * (5 - 2) + i < 40 by omega), n2.i0 (by omega)]
      exact ⟨_, _, rfl, am_fin_m hf0 hm0 k90 ht2 (fun _ => rfl)⟩
    · have hlv : nI (if (pm_lamps S).testBit i then 1 else 0) = nI (S (25 + i)) := by
        have hb := (hS.1.1 i (by omega)).2.2.2.2.1
        rw [pm_lamps_bit S (by omega)]
        by_cases c : S (25 + i) = 1
        · rw [decide_eq_true c, c]; rfl
        · rw [decide_eq_false c, show S (25 + i) = 0 by omega]; rfl
      rw [if_neg (by decide), if_neg (by decide), if_neg (by decide), if_neg (by decide), if_neg (by decide), if_neg (by decide), if_pos (by decide), ml_85 (by omega), n2.il, pz_bit (by omega) (by have := pm_lamps_lt S; omega), hlv]
      exact ⟨_, _, rfl, am_fin_m hf0 hm0 k90 ht2 (fun _ => rfl)⟩
    · rw [if_neg (by decide), if_neg (by decide), if_neg (by decide), if_neg (by decide), if_neg (by decide), if_neg (by decide), if_neg (by decide), if_pos (by decide), nI_add 25 i, ml_85 (by omega), n2.if_ (by omega)]
      exact ⟨_, _, rfl, am_fin_m hf0 hm0 k90 ht2 (fun _ => rfl)⟩
    · rw [if_neg (by decide), if_neg (by decide), if_neg (by decide), if_neg (by decide), if_neg (by decide), if_neg (by decide), if_neg (by decide), if_neg (by decide), if_pos (by decide)]
      refine pz_II (s228 (u := 1000) (q := 1000) (Or.inl rfl) n1 ho ⟨n2, e90, n11, n12⟩ (Or.inl ⟨n10, rfl⟩) hS.1 (by omega) hx) fun v g3 hv => ?_
      obtain ⟨hv, k⟩ := hv
      have kM : am_kp ps_M g g3 := k90.trans (k.up fun i k h => by have := of_decide_eq_false h; exact ps_m_f (by omega))
      exact ⟨_, _, rfl, am_fin_m hf0 hm0 kM ((k.get 60 0 (ps_m_f (by omega))).trans ht2) (fun _ => hv)⟩
