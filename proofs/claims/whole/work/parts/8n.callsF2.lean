/-! CALLS: frosts -/
theorem pz_w_of {y : Int32} {a m : Nat} (h1 : ¬ y < nI a) (h2 : y ≤ nI m) (ha : a < 1000 := by omega) (hm : m < 1000 := by omega) : pz_w y a m := by
  have hp : ¬ y < 0 := fun c => h1 (by
    have e := nI_toInt (show a < 2 ^ 31 by omega)
    rw [Int32.lt_iff_toInt_lt] at c ⊢
    have e0 : (0 : Int32).toInt = 0 := by decide
    omega)
  obtain ⟨j, hj, rfl⟩ := nI_of hp
  rw [nI_leI hj (by omega)] at h2
  rw [nI_ltI hj (by omega)] at h1
  exact ⟨j, by omega, h2, rfl⟩
theorem call_frosts {w : pw_W} (hw : pw_wf w) (x y z b : Int32) : am_AG 2 (fun e => e) w (fun h => am_run am_M 35 [.ref 0, .int x, .int y, .int z, .int b] h) (fun h => am_run am_M 294 [.ref 60, .int x, .int y, .int z, .int b] h) := by
  obtain ⟨d, S, l, t, im, tp, nb, fp, rf⟩ := w
  have hw0 := hw
  obtain ⟨ho, hS, ha, ht, hi, hnb, htp⟩ := hw
  rcases Classical.em (pz_b b (1 + 1)) with hb | hb
  rotate_left
  · refine ⟨1, 0, (d, S, l, t, im, tp, nb, fp, rf), hw0, ⟨by omega, fun hh => by first | exact absurd rfl hh | rfl⟩, fun h hc => ?_, fun h hm => ?_⟩
    · have hc0 := hc
      obtain ⟨⟨L, hL, r1, r2, c1⟩, c2, c3, c4, c5, c6, c7, c8, c9⟩ := hc
      refine am_CO_x (by decide) ?_
      show am_run am_M 35 [.ref 0, .int x, .int y, .int z, .int b] h = _
      rw [e35, c64_f (by omega) hb]
      try rfl
    · show am_RI (am_run am_M 294 [.ref 60, .int x, .int y, .int z, .int b] h) _
      obtain ⟨hm0, ht0, hf0⟩ := m_start hm
      rw [e294]
      generalize am_sI h 60 0 (nI 0) = g at hm0 ht0 hf0 ⊢
      dsimp only
      have hm1 := hm0
      obtain ⟨m1, m2, m3, m4, m5, m6, m7, m8, m9, m10, m11, m12⟩ := hm1
      rw [s237_f ht0 hb (by omega), am_bI_ok, if_pos (by decide)]
      exact ⟨_, _, rfl, am_fin_x hf0 hm0 (by decide)⟩
  obtain ⟨w, hb, rfl⟩ := hb
  rcases Classical.em (pz_b x (10 + 1)) with hx | hx
  rotate_left
  · refine ⟨2, 0, (d, S, l, t, im, tp, nb, fp, rf), hw0, ⟨by omega, fun hh => by first | exact absurd rfl hh | rfl⟩, fun h hc => ?_, fun h hm => ?_⟩
    · have hc0 := hc
      obtain ⟨⟨L, hL, r1, r2, c1⟩, c2, c3, c4, c5, c6, c7, c8, c9⟩ := hc
      refine am_CO_x (by decide) ?_
      show am_run am_M 35 [.ref 0, .int x, .int y, .int z, .int (nI w)] h = _
      rw [e35, c64_t (by omega) hb, am_bV_ok]
      rw [c65_f (m := 10) (by omega) hx]
      try rfl
    · show am_RI (am_run am_M 294 [.ref 60, .int x, .int y, .int z, .int (nI w)] h) _
      obtain ⟨hm0, ht0, hf0⟩ := m_start hm
      rw [e294]
      generalize am_sI h 60 0 (nI 0) = g at hm0 ht0 hf0 ⊢
      dsimp only
      have hm1 := hm0
      obtain ⟨m1, m2, m3, m4, m5, m6, m7, m8, m9, m10, m11, m12⟩ := hm1
      rw [s237_t ht0 hb (by omega), am_bI_ok, if_neg (by decide)]
      rw [s180_f x (fun h => hx (pz_bw.mp h)) (by omega) (by omega), am_bI_ok, if_pos (by decide), e294_51, s179_f ht0 (e := 2) (by omega), am_bI_ok, if_pos (by decide)]
      exact ⟨_, _, rfl, am_fin_x hf0 hm0 (by decide)⟩
  obtain ⟨i, hx, rfl⟩ := hx
  rcases Classical.em (pz_w y 1 9) with hy | hy
  rotate_left
  · refine ⟨2, 0, (d, S, l, t, im, tp, nb, fp, rf), hw0, ⟨by omega, fun hh => by first | exact absurd rfl hh | rfl⟩, fun h hc => ?_, fun h hm => ?_⟩
    · have hc0 := hc
      obtain ⟨⟨L, hL, r1, r2, c1⟩, c2, c3, c4, c5, c6, c7, c8, c9⟩ := hc
      refine am_CO_x (by decide) ?_
      show am_run am_M 35 [.ref 0, .int (nI i), .int y, .int z, .int (nI w)] h = _
      rw [e35, c64_t (by omega) hb, am_bV_ok]
      rw [c65_t (m := 10) (by omega) hx, am_bV_ok]
      rcases Classical.em (pz_b z (9 + 1)) with hz | hz
      rotate_left
      · rw [c65_f (m := 9) (by omega) hz]
        try rfl
      · obtain ⟨j, hz, rfl⟩ := hz
        rw [c65_t (m := 9) (by omega) hz, am_bV_ok]
        by_cases c1 : y < nI 1
        · rw [if_pos c1]
        · rw [if_neg c1, if_neg (fun c3 => hy (pz_w_of c1 c3))]
    · show am_RI (am_run am_M 294 [.ref 60, .int (nI i), .int y, .int z, .int (nI w)] h) _
      obtain ⟨hm0, ht0, hf0⟩ := m_start hm
      rw [e294]
      generalize am_sI h 60 0 (nI 0) = g at hm0 ht0 hf0 ⊢
      dsimp only
      have hm1 := hm0
      obtain ⟨m1, m2, m3, m4, m5, m6, m7, m8, m9, m10, m11, m12⟩ := hm1
      rw [s237_t ht0 hb (by omega), am_bI_ok, if_neg (by decide)]
      rw [s180_t (Nat.zero_le _) (show i ≤ 10 by omega) (by omega), am_bI_ok, if_neg (by decide), s180_f y hy (by omega) (by omega), am_bI_ok, if_pos (by decide), e294_51, s179_f ht0 (e := 2) (by omega), am_bI_ok, if_pos (by decide)]
      exact ⟨_, _, rfl, am_fin_x hf0 hm0 (by decide)⟩
  obtain ⟨n, hy1, hy, rfl⟩ := hy
  rcases Classical.em (pz_b z (9 + 1)) with hz | hz
  rotate_left
  · refine ⟨2, 0, (d, S, l, t, im, tp, nb, fp, rf), hw0, ⟨by omega, fun hh => by first | exact absurd rfl hh | rfl⟩, fun h hc => ?_, fun h hm => ?_⟩
    · have hc0 := hc
      obtain ⟨⟨L, hL, r1, r2, c1⟩, c2, c3, c4, c5, c6, c7, c8, c9⟩ := hc
      refine am_CO_x (by decide) ?_
      show am_run am_M 35 [.ref 0, .int (nI i), .int (nI n), .int z, .int (nI w)] h = _
      rw [e35, c64_t (by omega) hb, am_bV_ok]
      rw [c65_t (m := 10) (by omega) hx, am_bV_ok, c65_f (m := 9) (by omega) hz]
      try rfl
    · show am_RI (am_run am_M 294 [.ref 60, .int (nI i), .int (nI n), .int z, .int (nI w)] h) _
      obtain ⟨hm0, ht0, hf0⟩ := m_start hm
      rw [e294]
      generalize am_sI h 60 0 (nI 0) = g at hm0 ht0 hf0 ⊢
      dsimp only
      have hm1 := hm0
      obtain ⟨m1, m2, m3, m4, m5, m6, m7, m8, m9, m10, m11, m12⟩ := hm1
      rw [s237_t ht0 hb (by omega), am_bI_ok, if_neg (by decide)]
      rw [s180_t (Nat.zero_le _) (show i ≤ 10 by omega) (by omega), am_bI_ok, if_neg (by decide), s180_t hy1 hy (by omega), am_bI_ok, if_neg (by decide), s180_f z (fun h => hz (pz_bw.mp h)) (by omega) (by omega), am_bI_ok, if_pos (by decide), e294_51, s179_f ht0 (e := 2) (by omega), am_bI_ok, if_pos (by decide)]
      exact ⟨_, _, rfl, am_fin_x hf0 hm0 (by decide)⟩
  obtain ⟨j, hz, rfl⟩ := hz
  refine ⟨0, (nI ((if w = 0 then fr_s n i j (n + 1 - j) else 10 ^ n) / Nat.gcd (10 ^ n) (fr_s n i j (n + 1 - j)))), (d, S, l, t, im, tp, nb, fp, rf), hw0, ⟨by omega, fun hh => by first | exact absurd rfl hh | rfl⟩, fun h hc => ?_, fun h hm => ?_⟩
  · have hc0 := hc
    obtain ⟨⟨L, hL, r1, r2, c1⟩, c2, c3, c4, c5, c6, c7, c8, c9⟩ := hc
    refine am_CO_0 ?_
    show am_RI (am_run am_M 35 [.ref 0, .int (nI i), .int (nI n), .int (nI j), .int (nI w)] h) _
    rw [e35, c64_t (by omega) hb, am_bV_ok]
    rw [c65_t (m := 10) (by omega) hx, am_bV_ok, c65_t (m := 9) (by omega) hz, am_bV_ok, if_neg (nI_nlt (show 1 ≤ n from hy1) (by omega)), if_pos (nI_le hy (by omega)), s35_46 ⟨hy1, by omega⟩ (by omega) (by omega) (by omega)]
    exact ⟨_, _, rfl, rfl, am_fin_c hc0 (am_kp.refl _ _)⟩
  · show am_RI (am_run am_M 294 [.ref 60, .int (nI i), .int (nI n), .int (nI j), .int (nI w)] h) _
    obtain ⟨hm0, ht0, hf0⟩ := m_start hm
    rw [e294]
    generalize am_sI h 60 0 (nI 0) = g at hm0 ht0 hf0 ⊢
    dsimp only
    have hm1 := hm0
    obtain ⟨m1, m2, m3, m4, m5, m6, m7, m8, m9, m10, m11, m12⟩ := hm1
    rw [s237_t ht0 hb (by omega), am_bI_ok, if_neg (by decide)]
    rw [s180_t (Nat.zero_le _) (show i ≤ 10 by omega) (by omega), am_bI_ok, if_neg (by decide), s180_t hy1 hy (by omega), am_bI_ok, if_neg (by decide), s180_t (Nat.zero_le _) (show j ≤ 9 by omega) (by omega), am_bI_ok, if_neg (by decide), e294_51, s179_t ht0, am_bI_ok, if_neg (by decide), s294_66 ⟨hy1, by omega⟩ (by omega) (by omega) (by omega)]
    exact ⟨_, _, rfl, am_fin_m hf0 hm0 (am_kp.refl _ _) ht0 (fun _ => rfl)⟩
