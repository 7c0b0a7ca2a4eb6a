/-! CALLS: asked -/
theorem call_asked {w : pw_W} (hw : pw_wf w) (x y z : Int32) : am_AG 1 (fun e => e) w (fun h => am_run am_M 20 [.ref 0, .int x, .int y, .int z] h) (fun h => am_run am_M 259 [.ref 60, .int x, .int y, .int z] h) := by
  obtain ⟨d, S, l, t, im, tp, nb, fp, rf⟩ := w
  have hw0 := hw
  obtain ⟨ho, hS, ha, ht, hi, hnb, htp⟩ := hw
  rcases Classical.em (pz_b x (pw_n d 3)) with hx | hx
  rotate_left
  · refine ⟨1, 0, (d, S, l, t, im, tp, nb, fp, rf), hw0, ⟨by omega, fun hh => by first | exact absurd rfl hh | rfl⟩, fun h hc => ?_, fun h hm => ?_⟩
    · have hc0 := hc
      obtain ⟨⟨L, hL, r1, r2, c1⟩, c2, c3, c4, c5, c6, c7, c8, c9⟩ := hc
      refine am_CO_x (by decide) ?_
      show am_run am_M 20 [.ref 0, .int x, .int y, .int z] h = _
      rw [e20, c62_f hL r1 c1 ho hx]
      try rfl
    · show am_RI (am_run am_M 259 [.ref 60, .int x, .int y, .int z] h) _
      obtain ⟨hm0, ht0, hf0⟩ := m_start hm
      rw [e259]
      generalize am_sI h 60 0 (nI 0) = g at hm0 ht0 hf0 ⊢
      dsimp only
      have hm1 := hm0
      obtain ⟨m1, m2, m3, m4, m5, m6, m7, m8, m9, m10, m11, m12⟩ := hm1
      rw [s236_f m1 ho ht0 hx, am_bI_ok, if_pos (by decide)]
      exact ⟨_, _, rfl, am_fin_x hf0 hm0 (by decide)⟩
  obtain ⟨i, hx, rfl⟩ := hx
  rcases Classical.em (pz_b y (pw_n d 1)) with hy | hy
  rotate_left
  · refine ⟨1, 0, (d, S, l, t, im, tp, nb, fp, rf), hw0, ⟨by omega, fun hh => by first | exact absurd rfl hh | rfl⟩, fun h hc => ?_, fun h hm => ?_⟩
    · have hc0 := hc
      obtain ⟨⟨L, hL, r1, r2, c1⟩, c2, c3, c4, c5, c6, c7, c8, c9⟩ := hc
      refine am_CO_x (by decide) ?_
      show am_run am_M 20 [.ref 0, .int (nI i), .int y, .int z] h = _
      rw [e20, c62_t hL r1 c1 ho hx, am_bV_ok, c61_f hL r1 c1 ho hy]
      try rfl
    · show am_RI (am_run am_M 259 [.ref 60, .int (nI i), .int y, .int z] h) _
      obtain ⟨hm0, ht0, hf0⟩ := m_start hm
      rw [e259]
      generalize am_sI h 60 0 (nI 0) = g at hm0 ht0 hf0 ⊢
      dsimp only
      have hm1 := hm0
      obtain ⟨m1, m2, m3, m4, m5, m6, m7, m8, m9, m10, m11, m12⟩ := hm1
      rw [s236_t m1 ho ht0 hx, am_bI_ok, if_neg (by decide), s235_f m1 ho ht0 hy, am_bI_ok, if_pos (by decide)]
      exact ⟨_, _, rfl, am_fin_x hf0 hm0 (by decide)⟩
  obtain ⟨j, hy, rfl⟩ := hy
  rcases Classical.em (pz_b z (23 + 1)) with hz | hz
  rotate_left
  · refine ⟨1, 0, (d, S, l, t, im, tp, nb, fp, rf), hw0, ⟨by omega, fun hh => by first | exact absurd rfl hh | rfl⟩, fun h hc => ?_, fun h hm => ?_⟩
    · have hc0 := hc
      obtain ⟨⟨L, hL, r1, r2, c1⟩, c2, c3, c4, c5, c6, c7, c8, c9⟩ := hc
      refine am_CO_x (by decide) ?_
      show am_run am_M 20 [.ref 0, .int (nI i), .int (nI j), .int z] h = _
      rw [e20, c62_t hL r1 c1 ho hx, am_bV_ok, c61_t hL r1 c1 ho hy, am_bV_ok, c63_f hz]
      try rfl
    · show am_RI (am_run am_M 259 [.ref 60, .int (nI i), .int (nI j), .int z] h) _
      obtain ⟨hm0, ht0, hf0⟩ := m_start hm
      rw [e259]
      generalize am_sI h 60 0 (nI 0) = g at hm0 ht0 hf0 ⊢
      dsimp only
      have hm1 := hm0
      obtain ⟨m1, m2, m3, m4, m5, m6, m7, m8, m9, m10, m11, m12⟩ := hm1
      rw [s236_t m1 ho ht0 hx, am_bI_ok, if_neg (by decide), s235_t m1 ho ht0 hy, am_bI_ok, if_neg (by decide), s237_f ht0 hz (by omega), am_bI_ok, if_pos (by decide)]
      exact ⟨_, _, rfl, am_fin_x hf0 hm0 (by decide)⟩
  obtain ⟨n, hz, rfl⟩ := hz
  have h6 := ho.1.2.2.2.1
  have h4 := ho.1.1
  have hd9 := hS.2.1
  have h9 := ho.1.2.1
  have hk : pw_n d 1 - 1 + 1 = pw_n d 1 := by omega
  refine ⟨0, (pn_o (ak_b d S i n (pw_n d 1 - 1) j) 999), (d, S, l, t, im, tp, nb, fp, rf), hw0, ⟨by omega, fun hh => by first | exact absurd rfl hh | rfl⟩, fun h hc => ?_, fun h hm => ?_⟩
  · have hc0 := hc
    obtain ⟨⟨L, hL, r1, r2, c1⟩, c2, c3, c4, c5, c6, c7, c8, c9⟩ := hc
    refine am_CO_0 ?_
    show am_RI (am_run am_M 20 [.ref 0, .int (nI i), .int (nI j), .int (nI n)] h) _
    rw [e20, c62_t hL r1 c1 ho hx, am_bV_ok, c61_t hL r1 c1 ho hy, am_bV_ok, c63_t hz, am_bV_ok]
    rw [r1, am_gr_n]
    refine pz_II (s175 hL c1 ho c2 hS.1 (by omega) hx hy hz hk) fun v g hv => ?_
    obtain ⟨rfl, k⟩ := hv
    exact ⟨_, _, rfl, rfl, am_fin_c hc0 k⟩
  · show am_RI (am_run am_M 259 [.ref 60, .int (nI i), .int (nI j), .int (nI n)] h) _
    obtain ⟨hm0, ht0, hf0⟩ := m_start hm
    rw [e259]
    generalize am_sI h 60 0 (nI 0) = g at hm0 ht0 hf0 ⊢
    dsimp only
    have hm1 := hm0
    obtain ⟨m1, m2, m3, m4, m5, m6, m7, m8, m9, m10, m11, m12⟩ := hm1
    rw [s236_t m1 ho ht0 hx, am_bI_ok, if_neg (by decide), s235_t m1 ho ht0 hy, am_bI_ok, if_neg (by decide), s237_t ht0 hz (by omega), am_bI_ok, if_neg (by decide)]
    have hwm : wk_m g d S := ⟨m1, m2, m10⟩
    refine (s259_36 hwm ho hS.1 (by omega) hx hy hz hk).mono fun u g2 hu => ?_
    obtain ⟨rfl, k⟩ := hu
    have kM : am_kp ps_M g g2 := k.up fun i k h => ps_wM (Or.inl rfl) h
    have ht2 : am_I g2 60 0 = nI 0 := (k.get 60 0 (ps_w_f (ps_m_f (by omega)) (by omega))).trans ht0
    exact am_fin_m hf0 hm0 kM ht2 (fun _ => rfl)
