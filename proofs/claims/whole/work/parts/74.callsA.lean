/-! CALLS: acts -/
theorem pw_SL_pu {d : pw_L} {S : Nat → Nat} (h : pw_SL d S) {i v : Nat} (hi : 1 ≤ i ∧ i < 45) (hv : (i < 13 → v ≤ 99) ∧ (13 ≤ i → i < 19 → v ≤ 9999) ∧ (19 ≤ i → i < 25 → v ≤ S 0) ∧ (25 ≤ i → i < 31 → v ≤ 1) ∧ (31 ≤ i → i < 37 → v < 512) ∧ (37 ≤ i → i < 41 → v ≤ 9999) ∧ (41 ≤ i → v ≤ S 0)) : pw_SL d (pu S i v) := by
  have e0 : pu S i v 0 = S 0 := pu_n _ _ (by omega)
  refine ⟨⟨fun p hp => ?_, fun k hk => ?_⟩, by rw [e0]; exact h.2.1, fun k hk => ?_⟩
  · have := h.1.1 p hp
    rw [e0]
    unfold pu
    refine ⟨?_, ?_, ?_, ?_, ?_, ?_⟩ <;> split <;> omega
  · have := h.1.2 k hk
    rw [e0]
    unfold pu
    refine ⟨?_, ?_, ?_⟩ <;> split <;> omega
  · rw [pu_n _ _ (by omega)]; exact h.2.2 k hk
theorem ps_ao (i k : Nat) (h : ¬ (i = 22 ∨ i = 22 + 1)) : (fun i _ => decide (i = 22 ∨ i = 22 + 1) : Nat → Nat → Bool) i k = false := decide_eq_false h
theorem s180_t {k a m : Nat} {h : am_H} (h1 : a ≤ k) (h2 : k ≤ m) (hm : m < 2 ^ 31) : am_run am_M 180 [.int (nI k), .int (nI a), .int (nI m)] h = some (.inl (some (.int (nI 1))), h) := by
  rw [s180 (by omega) (by omega) hm, if_pos ⟨h1, h2⟩]
theorem pc_ao22 : pc_ao 22 := Or.inl rfl
theorem call_gather {w : pw_W} (hw : pw_wf w) (x y : Int32) : am_AG 1 (fun e => e) w (fun h => am_run am_M 12 [.ref 0, .int x, .int y] h) (fun h => am_run am_M 246 [.ref 60, .int x, .int y] h) := by
  obtain ⟨d, S, l, t, im, tp, nb, fp, rf⟩ := w
  have hw0 := hw
  obtain ⟨ho, hS, ha, ht, hi, hnb, htp⟩ := hw
  rcases Classical.em (pz_b x (pw_n d 3)) with hx | hx
  rotate_left
  · refine ⟨1, 0, (d, S, l, t, im, tp, nb, fp, rf), hw0, ⟨by omega, fun hh => by first | exact absurd rfl hh | rfl⟩, fun h hc => ?_, fun h hm => ?_⟩
    · have hc0 := hc
      obtain ⟨⟨L, hL, r1, r2, c1⟩, c2, c3, c4, c5, c6, c7, c8, c9⟩ := hc
      refine am_CO_x (by decide) ?_
      show am_run am_M 12 [.ref 0, .int x, .int y] h = _
      rw [e12, c62_f hL r1 c1 ho hx]
      try rfl
    · show am_RI (am_run am_M 246 [.ref 60, .int x, .int y] h) _
      obtain ⟨hm0, ht0, hf0⟩ := m_start hm
      rw [e246]
      generalize am_sI h 60 0 (nI 0) = g at hm0 ht0 hf0 ⊢
      dsimp only
      have hm1 := hm0
      obtain ⟨m1, m2, m3, m4, m5, m6, m7, m8, m9, m10, m11, m12⟩ := hm1
      rw [s236_f m1 ho ht0 hx, am_bI_ok, if_pos (by decide)]
      exact ⟨_, _, rfl, am_fin_x hf0 hm0 (by decide)⟩
  obtain ⟨i, hx, rfl⟩ := hx
  have h6 := ho.1.2.2.2.1
  have h4 := ho.1.1
  have hd9 := hS.2.1
  have h9 := ho.1.2.1
  rcases Classical.em (pz_w y 1 99) with hy | hy
  rotate_left
  · refine ⟨0, (-1 : Int32), (d, S, l, t, im, tp, nb, fp, pu rf 1 (rf 1 + 1)), hw0, ⟨by omega, fun hh => by first | exact absurd rfl hh | rfl⟩, fun h hc => ?_, fun h hm => ?_⟩
    · have hc0 := hc
      obtain ⟨⟨L, hL, r1, r2, c1⟩, c2, c3, c4, c5, c6, c7, c8, c9⟩ := hc
      refine am_CO_0 ?_
      show am_RI (am_run am_M 12 [.ref 0, .int (nI i), .int y] h) _
      rw [e12, c62_t hL r1 c1 ho hx, am_bV_ok]
      obtain ⟨g1, e1, f1, f2⟩ := c_refuse hc0 (k := 1) (by omega)
      rcases pz_w_n (by omega) (by omega) hy with c | c
      · rw [if_pos c, e1, am_bI_ok]
        exact ⟨_, _, rfl, rfl, f1, f2⟩
      · by_cases c0 : y < nI 1
        · rw [if_pos c0, e1, am_bI_ok]
          exact ⟨_, _, rfl, rfl, f1, f2⟩
        · rw [if_neg c0, if_neg (show ¬ y ≤ nI 99 from fun h => by rw [Int32.le_iff_toInt_le] at h; rw [Int32.lt_iff_toInt_lt] at c; omega), e1, am_bI_ok]
          exact ⟨_, _, rfl, rfl, f1, f2⟩
    · show am_RI (am_run am_M 246 [.ref 60, .int (nI i), .int y] h) _
      obtain ⟨hm0, ht0, hf0⟩ := m_start hm
      rw [e246]
      generalize am_sI h 60 0 (nI 0) = g at hm0 ht0 hf0 ⊢
      dsimp only
      have hm1 := hm0
      obtain ⟨m1, m2, m3, m4, m5, m6, m7, m8, m9, m10, m11, m12⟩ := hm1
      rw [s236_t m1 ho ht0 hx, am_bI_ok, if_neg (by decide)]
      obtain ⟨g1, e1, f1, f2, f3⟩ := m_refuse hm0 (k := 1) (by omega)
      rw [s180_f y hy (by omega) (by omega), am_bI_ok, if_pos (by decide), e1, am_bI_ok]
      exact ⟨_, _, rfl, fun _ => rfl, f3.trans ht0, f1, hf0.trans f2⟩
  obtain ⟨v, hv1, hv2, rfl⟩ := hy
  have hb := (hS.1.1 i (by omega)).2.1
  have hSn : pw_SL d (pu S (7 + i) (min 99 (S (7 + i) + v))) := pw_SL_pu hS (by omega) (by omega)
  refine ⟨0, (nI (min 99 (S (7 + i) + v))), (d, pu S (7 + i) (min 99 (S (7 + i) + v)), pw_keep S l, t, im, tp, nb, fp, rf), ⟨ho, hSn, pw_keep_ok hS ha, ht, hi, hnb, htp⟩, ⟨by omega, fun hh => by first | exact absurd rfl hh | rfl⟩, fun h hc => ?_, fun h hm => ?_⟩
  · have hc0 := hc
    obtain ⟨⟨L, hL, r1, r2, c1⟩, c2, c3, c4, c5, c6, c7, c8, c9⟩ := hc
    refine am_CO_0 ?_
    show am_RI (am_run am_M 12 [.ref 0, .int (nI i), .int (nI v)] h) _
    rw [e12, c62_t hL r1 c1 ho hx, am_bV_ok]
    rw [if_neg (nI_nlt (by omega) (by omega)), if_pos (nI_le (by omega) (by omega))]
    refine pz_VI (s72 pc_ao22 pc_so20 c3 c2 ha.1) fun g1 hg1 => ?_
    obtain ⟨a1, k1⟩ := hg1
    have s1 : pc_S g1 21 S := c2.kp k1 (fun k => ps_ao 21 k (by omega))
    rw [s151 pc_so20 (show 1 + 1 * 6 + i < 49 by omega), am_bI_ok, show 1 + 1 * 6 + i = 7 + i by omega, s1 _ (by omega), nI_add, pz_min (a := 99) (by omega) (by omega), s152 pc_so20 (show 1 + 1 * 6 + i < 49 by omega), am_bV_ok, show 1 + 1 * 6 + i = 7 + i by omega]
    refine ⟨_, _, rfl, rfl, hc0.act k1.R (fun a b h1 h2 h3 => ?_) (s1.set _ _) (a1.fr (am_I_s1 _ _ _ _ (by omega)) (am_I_s1 _ _ _ _ (by omega))), ((k1.fc fun a b hab => ps_ao a b (by omega)).sI (by omega) _ _)⟩
    rw [am_I_s1 _ _ _ _ (by omega)]
    exact k1.get a b (ps_ao a b (by omega))
  · show am_RI (am_run am_M 246 [.ref 60, .int (nI i), .int (nI v)] h) _
    obtain ⟨hm0, ht0, hf0⟩ := m_start hm
    rw [e246]
    generalize am_sI h 60 0 (nI 0) = g at hm0 ht0 hf0 ⊢
    dsimp only
    have hm1 := hm0
    obtain ⟨m1, m2, m3, m4, m5, m6, m7, m8, m9, m10, m11, m12⟩ := hm1
    rw [s236_t m1 ho ht0 hx, am_bI_ok, if_neg (by decide)]
    rw [s180_t hv1 hv2 (by omega), am_bI_ok, if_neg (by decide)]
    refine pz_VI (s221 m3 m2 ha.1) fun g1 hg1 => ?_
    obtain ⟨a1, k1⟩ := hg1
    have s1 : pm_S g1 85 0 S := m2.kp k1 (fun k => decide_eq_false (by omega))
    rw [nI_add 7 i, ml_85 (by omega), s1.i0 (by omega), nI_add, s182 (by omega) (by omega), am_bI_ok, ms_85 (by omega), ml_85 (by omega), am_I_s]
    refine ⟨_, _, rfl, fun _ => rfl, ?_, hm0.act (fun a b h0 h1 h2 h3 => ?_) (s1.set1 (by omega) _) (a1.fr (by rw [am_I_s1 _ _ _ _ (by omega)]) (am_I_s1 _ _ _ _ (by omega))), hf0.trans ((k1.fm fun a b hab => decide_eq_false (by omega)).sI (by omega) _ _)⟩
    · rw [am_I_s1 _ _ _ _ (by omega), k1.get 60 0 (by decide)]; exact ht0
    · rw [am_I_s1 _ _ _ _ (by omega)]
      exact k1.get a b (decide_eq_false (by omega))
theorem call_pay {w : pw_W} (hw : pw_wf w) (x y z : Int32) : am_AG 1 (fun e => e) w (fun h => am_run am_M 11 [.ref 0, .int x, .int y, .int z] h) (fun h => am_run am_M 245 [.ref 60, .int x, .int y, .int z] h) := by
  obtain ⟨d, S, l, t, im, tp, nb, fp, rf⟩ := w
  have hw0 := hw
  obtain ⟨ho, hS, ha, ht, hi, hnb, htp⟩ := hw
  rcases Classical.em (pz_b x (pw_n d 3)) with hx | hx
  rotate_left
  · refine ⟨1, 0, (d, S, l, t, im, tp, nb, fp, rf), hw0, ⟨by omega, fun hh => by first | exact absurd rfl hh | rfl⟩, fun h hc => ?_, fun h hm => ?_⟩
    · have hc0 := hc
      obtain ⟨⟨L, hL, r1, r2, c1⟩, c2, c3, c4, c5, c6, c7, c8, c9⟩ := hc
      refine am_CO_x (by decide) ?_
      show am_run am_M 11 [.ref 0, .int x, .int y, .int z] h = _
      rw [e11, c62_f hL r1 c1 ho hx]
      try rfl
    · show am_RI (am_run am_M 245 [.ref 60, .int x, .int y, .int z] h) _
      obtain ⟨hm0, ht0, hf0⟩ := m_start hm
      rw [e245]
      generalize am_sI h 60 0 (nI 0) = g at hm0 ht0 hf0 ⊢
      dsimp only
      have hm1 := hm0
      obtain ⟨m1, m2, m3, m4, m5, m6, m7, m8, m9, m10, m11, m12⟩ := hm1
      rw [s236_f m1 ho ht0 hx, am_bI_ok, if_pos (by decide)]
      exact ⟨_, _, rfl, am_fin_x hf0 hm0 (by decide)⟩
  obtain ⟨i, hx, rfl⟩ := hx
  rcases Classical.em (pz_b y (pw_n d 0)) with hy | hy
  rotate_left
  · refine ⟨1, 0, (d, S, l, t, im, tp, nb, fp, rf), hw0, ⟨by omega, fun hh => by first | exact absurd rfl hh | rfl⟩, fun h hc => ?_, fun h hm => ?_⟩
    · have hc0 := hc
      obtain ⟨⟨L, hL, r1, r2, c1⟩, c2, c3, c4, c5, c6, c7, c8, c9⟩ := hc
      refine am_CO_x (by decide) ?_
      show am_run am_M 11 [.ref 0, .int (nI i), .int y, .int z] h = _
      rw [e11, c62_t hL r1 c1 ho hx, am_bV_ok, c60_f hL r1 c1 ho hy]
      try rfl
    · show am_RI (am_run am_M 245 [.ref 60, .int (nI i), .int y, .int z] h) _
      obtain ⟨hm0, ht0, hf0⟩ := m_start hm
      rw [e245]
      generalize am_sI h 60 0 (nI 0) = g at hm0 ht0 hf0 ⊢
      dsimp only
      have hm1 := hm0
      obtain ⟨m1, m2, m3, m4, m5, m6, m7, m8, m9, m10, m11, m12⟩ := hm1
      rw [s236_t m1 ho ht0 hx, am_bI_ok, if_neg (by decide), s234_f m1 ho ht0 hy, am_bI_ok, if_pos (by decide)]
      exact ⟨_, _, rfl, am_fin_x hf0 hm0 (by decide)⟩
  obtain ⟨j, hy, rfl⟩ := hy
  have h6 := ho.1.2.2.2.1
  have h4 := ho.1.1
  have hd9 := hS.2.1
  have h9 := ho.1.2.1
  have hbi := hS.1.1 i (by omega)
  have hbj := hS.1.2 j (by omega)
  rcases Classical.em (pz_w z 1 99) with hz | hz
  rotate_left
  · refine ⟨0, (-1 : Int32), (d, S, l, t, im, tp, nb, fp, pu rf 1 (rf 1 + 1)), hw0, ⟨by omega, fun hh => by first | exact absurd rfl hh | rfl⟩, fun h hc => ?_, fun h hm => ?_⟩
    · have hc0 := hc
      obtain ⟨⟨L, hL, r1, r2, c1⟩, c2, c3, c4, c5, c6, c7, c8, c9⟩ := hc
      refine am_CO_0 ?_
      show am_RI (am_run am_M 11 [.ref 0, .int (nI i), .int (nI j), .int z] h) _
      rw [e11, c62_t hL r1 c1 ho hx, am_bV_ok, c60_t hL r1 c1 ho hy, am_bV_ok]
      obtain ⟨g1, e1, f1, f2⟩ := c_refuse hc0 (k := 1) (by omega)
      rw [s151 pc_so20 (show 1 + 0 * 6 + i < 49 by omega), am_bI_ok, show 1 + 0 * 6 + i = 1 + i by omega, c2 _ (by omega)]
      rcases pz_w_n (by omega) (by omega) hz with c | c
      · rw [if_pos c, e1, am_bI_ok]
        exact ⟨_, _, rfl, rfl, f1, f2⟩
      · by_cases c0 : z < nI 1
        · rw [if_pos c0, e1, am_bI_ok]
          exact ⟨_, _, rfl, rfl, f1, f2⟩
        · rw [if_neg c0, if_pos c, e1, am_bI_ok]
          exact ⟨_, _, rfl, rfl, f1, f2⟩
    · show am_RI (am_run am_M 245 [.ref 60, .int (nI i), .int (nI j), .int z] h) _
      obtain ⟨hm0, ht0, hf0⟩ := m_start hm
      rw [e245]
      generalize am_sI h 60 0 (nI 0) = g at hm0 ht0 hf0 ⊢
      dsimp only
      have hm1 := hm0
      obtain ⟨m1, m2, m3, m4, m5, m6, m7, m8, m9, m10, m11, m12⟩ := hm1
      rw [s236_t m1 ho ht0 hx, am_bI_ok, if_neg (by decide), s234_t m1 ho ht0 hy, am_bI_ok, if_neg (by decide)]
      obtain ⟨g1, e1, f1, f2, f3⟩ := m_refuse hm0 (k := 1) (by omega)
      rw [s180_f z hz (by omega) (by omega), am_bI_ok, if_pos (by decide), e1, am_bI_ok]
      exact ⟨_, _, rfl, fun _ => rfl, f3.trans ht0, f1, hf0.trans f2⟩
  obtain ⟨v, hv1, hv2, rfl⟩ := hz
  by_cases hv : S (1 + i) < v
  · refine ⟨0, (-1 : Int32), (d, S, l, t, im, tp, nb, fp, pu rf 1 (rf 1 + 1)), hw0, ⟨by omega, fun hh => by first | exact absurd rfl hh | rfl⟩, fun h hc => ?_, fun h hm => ?_⟩
    · have hc0 := hc
      obtain ⟨⟨L, hL, r1, r2, c1⟩, c2, c3, c4, c5, c6, c7, c8, c9⟩ := hc
      refine am_CO_0 ?_
      show am_RI (am_run am_M 11 [.ref 0, .int (nI i), .int (nI j), .int (nI v)] h) _
      rw [e11, c62_t hL r1 c1 ho hx, am_bV_ok, c60_t hL r1 c1 ho hy, am_bV_ok]
      obtain ⟨g1, e1, f1, f2⟩ := c_refuse hc0 (k := 1) (by omega)
      rw [s151 pc_so20 (show 1 + 0 * 6 + i < 49 by omega), am_bI_ok, show 1 + 0 * 6 + i = 1 + i by omega, c2 _ (by omega), if_neg (nI_nlt hv1 (by omega)), if_neg (nI_nlt hv2 (by omega)), if_neg (nI_ge hv (by omega)), e1, am_bI_ok]
      exact ⟨_, _, rfl, rfl, f1, f2⟩
    · show am_RI (am_run am_M 245 [.ref 60, .int (nI i), .int (nI j), .int (nI v)] h) _
      obtain ⟨hm0, ht0, hf0⟩ := m_start hm
      rw [e245]
      generalize am_sI h 60 0 (nI 0) = g at hm0 ht0 hf0 ⊢
      dsimp only
      have hm1 := hm0
      obtain ⟨m1, m2, m3, m4, m5, m6, m7, m8, m9, m10, m11, m12⟩ := hm1
      rw [s236_t m1 ho ht0 hx, am_bI_ok, if_neg (by decide), s234_t m1 ho ht0 hy, am_bI_ok, if_neg (by decide)]
      obtain ⟨g1, e1, f1, f2, f3⟩ := m_refuse hm0 (k := 1) (by omega)
      rw [s180_t hv1 hv2 (by omega), am_bI_ok, if_neg (by decide), nI_add 1 i, ml_85 (by omega), m2.i0 (by omega), if_neg (nI_ge hv (by omega)), e1, am_bI_ok]
      exact ⟨_, _, rfl, fun _ => rfl, f3.trans ht0, f1, hf0.trans f2⟩
  have hS1 : pw_SL d (pu S (1 + i) (S (1 + i) - v)) := pw_SL_pu hS (by omega) (by omega)
  have hS2 : pw_SL d (pu (pu S (1 + i) (S (1 + i) - v)) (37 + j) (min 9999 (S (37 + j) + v))) := pw_SL_pu hS1 (by omega) (by omega)
  have hh3 := (ho.2.2.1 i hx).2
  have hpk := (ho.2.1 _ hh3).2
  have e13 : (pu (pu S (1 + i) (S (1 + i) - v)) (37 + j) (min 9999 (S (37 + j) + v))) (13 + i) = S (13 + i) := by rw [pu_n _ _ (by omega), pu_n _ _ (by omega)]
  have hS3 : pw_SL d (pu (pu (pu S (1 + i) (S (1 + i) - v)) (37 + j) (min 9999 (S (37 + j) + v))) (13 + i) (S (13 + i) - v)) := pw_SL_pu hS2 (by omega) (by omega)
  by_cases hj : pw_t d 1 (pw_t d 3 i) = j
  · refine ⟨0, (nI (S (1 + i) - v)), (d, pu (pu (pu S (1 + i) (S (1 + i) - v)) (37 + j) (min 9999 (S (37 + j) + v))) (13 + i) (S (13 + i) - v), pw_keep S l, t, im, tp, nb, fp, rf), ⟨ho, hS3, pw_keep_ok hS ha, ht, hi, hnb, htp⟩, ⟨by omega, fun hh => by first | exact absurd rfl hh | rfl⟩, fun h hc => ?_, fun h hm => ?_⟩
    · have hc0 := hc
      obtain ⟨⟨L, hL, r1, r2, c1⟩, c2, c3, c4, c5, c6, c7, c8, c9⟩ := hc
      refine am_CO_0 ?_
      show am_RI (am_run am_M 11 [.ref 0, .int (nI i), .int (nI j), .int (nI v)] h) _
      rw [e11, c62_t hL r1 c1 ho hx, am_bV_ok, c60_t hL r1 c1 ho hy, am_bV_ok]
      rw [s151 pc_so20 (show 1 + 0 * 6 + i < 49 by omega), am_bI_ok, show 1 + 0 * 6 + i = 1 + i by omega, c2 _ (by omega), if_neg (nI_nlt hv1 (by omega)), if_neg (nI_nlt hv2 (by omega)), if_pos (nI_le (by omega) (by omega)), pk_sub (show v ≤ S (1 + i) by omega)]
      refine pz_VI (s72 pc_ao22 pc_so20 c3 c2 ha.1) fun g1 hg1 => ?_
      obtain ⟨a1, k1⟩ := hg1
      have s1 : pc_S g1 21 S := c2.kp k1 (fun k => ps_ao 21 k (by omega))
      rw [s152 pc_so20 (show 1 + 0 * 6 + i < 49 by omega), am_bV_ok, show 1 + 0 * 6 + i = 1 + i by omega]
      have s2 := s1.set (1 + i) (S (1 + i) - v)
      rw [s153 pc_so20 (show 37 + 0 * 4 + j < 49 by omega), am_bI_ok, show 37 + 0 * 4 + j = 37 + j by omega, s2 _ (by omega), pu_n _ _ (show 37 + j ≠ 1 + i by omega), nI_add, pz_min (a := 9999) (by omega) (by omega), s154 pc_so20 (show 37 + 0 * 4 + j < 49 by omega), am_bV_ok, show 37 + 0 * 4 + j = 37 + j by omega]
      have s3 := s2.set (37 + j) (min 9999 (S (37 + j) + v))
      have kk : am_kp (fun i _ => decide (i = 22 ∨ i = 22 + 1 ∨ i = 21)) h (am_sI (am_sI g1 21 (1 + i) (nI (S (1 + i) - v))) 21 (37 + j) (nI (min 9999 (S (37 + j) + v)))) := ((k1.up fun a b hab => ps_ao a b (by have := of_decide_eq_false hab; omega)).sI _ (by decide)).sI _ (by decide)
      have a3 : pc_A (am_sI (am_sI g1 21 (1 + i) (nI (S (1 + i) - v))) 21 (37 + j) (nI (min 9999 (S (37 + j) + v)))) 22 (pw_keep S l) := (a1.fr (am_I_s1 _ _ _ _ (by omega)) (am_I_s1 _ _ _ _ (by omega))).fr (am_I_s1 _ _ _ _ (by omega)) (am_I_s1 _ _ _ _ (by omega))
      generalize am_sI (am_sI g1 21 (1 + i) (nI (S (1 + i) - v))) 21 (37 + j) (nI (min 9999 (S (37 + j) + v))) = g3 at *
      have hLp : ∀ a b, pc_rl L a → (fun i _ => decide (i = 22 ∨ i = 22 + 1 ∨ i = 21) : Nat → Nat → Bool) a b = false := fun a b hab => decide_eq_false (by unfold pc_rl at hab; unfold pc_lo at hL; omega)
      have d3 := c1.kp kk hLp
      rw [kk.R, r1, am_gr_n, pc_lch hL, s94 hL (by omega) (show pw_t d 3 i < 9 by omega) (d3.2.2.1 i hx).2, am_bI_ok, (d3.2.1 _ hh3).2]
      rw [if_pos (by rw [hj]), s151 pc_so20 (show 1 + 2 * 6 + i < 49 by omega), am_bI_ok, show 1 + 2 * 6 + i = 13 + i by omega, s3 _ (by omega), e13, (pz_subI (by omega) (by omega)).1, s152 pc_so20 (show 1 + 2 * 6 + i < 49 by omega), am_bV_ok, show 1 + 2 * 6 + i = 13 + i by omega]
      refine ⟨_, _, rfl, rfl, hc0.act kk.R (fun a b h1 h2 h3 => ?_) (s3.set _ _) (a3.fr (am_I_s1 _ _ _ _ (by omega)) (am_I_s1 _ _ _ _ (by omega))), ((kk.fc fun a b hab => decide_eq_false (by omega)).sI (by omega) _ _)⟩
      rw [am_I_s1 _ _ _ _ (by omega)]
      exact kk.get a b (decide_eq_false (by omega))
    · show am_RI (am_run am_M 245 [.ref 60, .int (nI i), .int (nI j), .int (nI v)] h) _
      obtain ⟨hm0, ht0, hf0⟩ := m_start hm
      rw [e245]
      generalize am_sI h 60 0 (nI 0) = g at hm0 ht0 hf0 ⊢
      dsimp only
      have hm1 := hm0
      obtain ⟨m1, m2, m3, m4, m5, m6, m7, m8, m9, m10, m11, m12⟩ := hm1
      rw [s236_t m1 ho ht0 hx, am_bI_ok, if_neg (by decide), s234_t m1 ho ht0 hy, am_bI_ok, if_neg (by decide)]
      rw [s180_t hv1 hv2 (by omega), am_bI_ok, if_neg (by decide), nI_add 1 i, ml_85 (by omega), m2.i0 (by omega), if_pos (nI_le (by omega) (by omega))]
      refine pz_VI (s221 m3 m2 ha.1) fun g1 hg1 => ?_
      obtain ⟨a1, k1⟩ := hg1
      have s1 : pm_S g1 85 0 S := m2.kp k1 (fun k => decide_eq_false (by omega))
      rw [ml_85 (by omega), s1.i0 (by omega), pk_sub (show v ≤ S (1 + i) by omega), ms_85 (by omega)]
      have s2 := s1.set1 (show 1 + i < 25 by omega) (S (1 + i) - v)
      rw [nI_add 32 j, ml_85 (by omega), s2.is (by omega), pu_n _ _ (show 37 + j ≠ 1 + i by omega), nI_add, s182 (by omega) (by omega), am_bI_ok, ms_85 (by omega)]
      have s3 := s2.set2 (show j < 4 by omega) (min 9999 (S (37 + j) + v))
      have kk : am_kp (fun i k => decide (i = 60 ∧ k = 58 ∨ i = 87 ∨ i = 85)) g (am_sI (am_sI g1 85 (1 + i) (nI (S (1 + i) - v))) 85 (32 + j) (nI (min 9999 (S (37 + j) + v)))) := ((k1.up fun a b hab => decide_eq_false (by have := of_decide_eq_false hab; omega)).sI _ (decide_eq_true (by omega))).sI _ (decide_eq_true (by omega))
      have a3 : pm_A (am_sI (am_sI g1 85 (1 + i) (nI (S (1 + i) - v))) 85 (32 + j) (nI (min 9999 (S (37 + j) + v)))) 58 87 (pw_keep S l) := (a1.fr (by rw [am_I_s1 _ _ _ _ (by omega)]) (am_I_s1 _ _ _ _ (by omega))).fr (by rw [am_I_s1 _ _ _ _ (by omega)]) (am_I_s1 _ _ _ _ (by omega))
      generalize am_sI (am_sI g1 85 (1 + i) (nI (S (1 + i) - v))) 85 (32 + j) (nI (min 9999 (S (37 + j) + v))) = g3 at *
      have d3 : pm_L g3 d := m1.kp kk fun a b hab => decide_eq_false (by omega)
      rw [s227 d3 ho hx, am_bI_ok]
      rw [if_pos (by rw [hj]), nI_add 13 i, ml_85 (by omega), s3.i0 (by omega), e13]
      have fin : ∀ o, o = nI (S (13 + i) - v) → am_RI (am_vn am_M 2 245 139 [some (.ref 60), some (.int (nI i)), none, none] [] (am_sI g3 85 (13 + i) o)) (fun u g' => (0 = 0 → u = nI (S (1 + i) - v)) ∧ am_I g' 60 0 = nI 0 ∧ pI_m g' (d, pu (pu (pu S (1 + i) (S (1 + i) - v)) (37 + j) (min 9999 (S (37 + j) + v))) (13 + i) (S (13 + i) - v), pw_keep S l, t, im, tp, nb, fp, rf) ∧ am_fm h g') := by
        rintro o rfl
        have s4 := s3.set1 (show 13 + i < 25 by omega) (S (13 + i) - v)
        rw [e245_139, nI_add 1 i, ml_85 (by omega), s4.i0 (by omega), pu_n _ _ (show 1 + i ≠ 13 + i by omega), pu_n _ _ (show 1 + i ≠ 37 + j by omega), pu_s]
        refine ⟨_, _, rfl, fun _ => rfl, ?_, hm0.act (fun a b h0 h1 h2 h3 => ?_) s4 (a3.fr (by rw [am_I_s1 _ _ _ _ (by omega)]) (am_I_s1 _ _ _ _ (by omega))), hf0.trans ((kk.fm fun a b hab => decide_eq_false (by omega)).sI (by omega) _ _)⟩
        · rw [am_I_s1 _ _ _ _ (by omega), kk.get 60 0 (by decide)]; exact ht0
        · rw [am_I_s1 _ _ _ _ (by omega)]
          exact kk.get a b (decide_eq_false (by omega))
      by_cases c : v ≤ S (13 + i)
      · rw [if_pos (nI_le c (by omega)), ml_85 (by omega), s3.i0 (by omega), e13, pk_sub c, ms_85 (by omega)]
        exact fin _ rfl
      · rw [if_neg (nI_ge (by omega) (by omega)), ms_85 (by omega)]
        exact fin _ (by rw [show S (13 + i) - v = 0 by omega])
  refine ⟨0, (nI (S (1 + i) - v)), (d, (pu (pu S (1 + i) (S (1 + i) - v)) (37 + j) (min 9999 (S (37 + j) + v))), pw_keep S l, t, im, tp, nb, fp, rf), ⟨ho, hS2, pw_keep_ok hS ha, ht, hi, hnb, htp⟩, ⟨by omega, fun hh => by first | exact absurd rfl hh | rfl⟩, fun h hc => ?_, fun h hm => ?_⟩
  · have hc0 := hc
    obtain ⟨⟨L, hL, r1, r2, c1⟩, c2, c3, c4, c5, c6, c7, c8, c9⟩ := hc
    refine am_CO_0 ?_
    show am_RI (am_run am_M 11 [.ref 0, .int (nI i), .int (nI j), .int (nI v)] h) _
    rw [e11, c62_t hL r1 c1 ho hx, am_bV_ok, c60_t hL r1 c1 ho hy, am_bV_ok]
    rw [s151 pc_so20 (show 1 + 0 * 6 + i < 49 by omega), am_bI_ok, show 1 + 0 * 6 + i = 1 + i by omega, c2 _ (by omega), if_neg (nI_nlt hv1 (by omega)), if_neg (nI_nlt hv2 (by omega)), if_pos (nI_le (by omega) (by omega)), pk_sub (show v ≤ S (1 + i) by omega)]
    refine pz_VI (s72 pc_ao22 pc_so20 c3 c2 ha.1) fun g1 hg1 => ?_
    obtain ⟨a1, k1⟩ := hg1
    have s1 : pc_S g1 21 S := c2.kp k1 (fun k => ps_ao 21 k (by omega))
    rw [s152 pc_so20 (show 1 + 0 * 6 + i < 49 by omega), am_bV_ok, show 1 + 0 * 6 + i = 1 + i by omega]
    have s2 := s1.set (1 + i) (S (1 + i) - v)
    rw [s153 pc_so20 (show 37 + 0 * 4 + j < 49 by omega), am_bI_ok, show 37 + 0 * 4 + j = 37 + j by omega, s2 _ (by omega), pu_n _ _ (show 37 + j ≠ 1 + i by omega), nI_add, pz_min (a := 9999) (by omega) (by omega), s154 pc_so20 (show 37 + 0 * 4 + j < 49 by omega), am_bV_ok, show 37 + 0 * 4 + j = 37 + j by omega]
    have s3 := s2.set (37 + j) (min 9999 (S (37 + j) + v))
    have kk : am_kp (fun i _ => decide (i = 22 ∨ i = 22 + 1 ∨ i = 21)) h (am_sI (am_sI g1 21 (1 + i) (nI (S (1 + i) - v))) 21 (37 + j) (nI (min 9999 (S (37 + j) + v)))) := ((k1.up fun a b hab => ps_ao a b (by have := of_decide_eq_false hab; omega)).sI _ (by decide)).sI _ (by decide)
    have a3 : pc_A (am_sI (am_sI g1 21 (1 + i) (nI (S (1 + i) - v))) 21 (37 + j) (nI (min 9999 (S (37 + j) + v)))) 22 (pw_keep S l) := (a1.fr (am_I_s1 _ _ _ _ (by omega)) (am_I_s1 _ _ _ _ (by omega))).fr (am_I_s1 _ _ _ _ (by omega)) (am_I_s1 _ _ _ _ (by omega))
    generalize am_sI (am_sI g1 21 (1 + i) (nI (S (1 + i) - v))) 21 (37 + j) (nI (min 9999 (S (37 + j) + v))) = g3 at *
    have hLp : ∀ a b, pc_rl L a → (fun i _ => decide (i = 22 ∨ i = 22 + 1 ∨ i = 21) : Nat → Nat → Bool) a b = false := fun a b hab => decide_eq_false (by unfold pc_rl at hab; unfold pc_lo at hL; omega)
    have d3 := c1.kp kk hLp
    rw [kk.R, r1, am_gr_n, pc_lch hL, s94 hL (by omega) (show pw_t d 3 i < 9 by omega) (d3.2.2.1 i hx).2, am_bI_ok, (d3.2.1 _ hh3).2]
    rw [if_neg (fun e => hj ((nI_eq (by omega) (by omega)).mp e))]
    refine ⟨_, _, rfl, rfl, hc0.act kk.R (fun a b h1 h2 h3 => ?_) s3 a3, (kk.fc fun a b hab => decide_eq_false (by omega))⟩
    exact kk.get a b (decide_eq_false (by omega))
  · show am_RI (am_run am_M 245 [.ref 60, .int (nI i), .int (nI j), .int (nI v)] h) _
    obtain ⟨hm0, ht0, hf0⟩ := m_start hm
    rw [e245]
    generalize am_sI h 60 0 (nI 0) = g at hm0 ht0 hf0 ⊢
    dsimp only
    have hm1 := hm0
    obtain ⟨m1, m2, m3, m4, m5, m6, m7, m8, m9, m10, m11, m12⟩ := hm1
    rw [s236_t m1 ho ht0 hx, am_bI_ok, if_neg (by decide), s234_t m1 ho ht0 hy, am_bI_ok, if_neg (by decide)]
    rw [s180_t hv1 hv2 (by omega), am_bI_ok, if_neg (by decide), nI_add 1 i, ml_85 (by omega), m2.i0 (by omega), if_pos (nI_le (by omega) (by omega))]
    refine pz_VI (s221 m3 m2 ha.1) fun g1 hg1 => ?_
    obtain ⟨a1, k1⟩ := hg1
    have s1 : pm_S g1 85 0 S := m2.kp k1 (fun k => decide_eq_false (by omega))
    rw [ml_85 (by omega), s1.i0 (by omega), pk_sub (show v ≤ S (1 + i) by omega), ms_85 (by omega)]
    have s2 := s1.set1 (show 1 + i < 25 by omega) (S (1 + i) - v)
    rw [nI_add 32 j, ml_85 (by omega), s2.is (by omega), pu_n _ _ (show 37 + j ≠ 1 + i by omega), nI_add, s182 (by omega) (by omega), am_bI_ok, ms_85 (by omega)]
    have s3 := s2.set2 (show j < 4 by omega) (min 9999 (S (37 + j) + v))
    have kk : am_kp (fun i k => decide (i = 60 ∧ k = 58 ∨ i = 87 ∨ i = 85)) g (am_sI (am_sI g1 85 (1 + i) (nI (S (1 + i) - v))) 85 (32 + j) (nI (min 9999 (S (37 + j) + v)))) := ((k1.up fun a b hab => decide_eq_false (by have := of_decide_eq_false hab; omega)).sI _ (decide_eq_true (by omega))).sI _ (decide_eq_true (by omega))
    have a3 : pm_A (am_sI (am_sI g1 85 (1 + i) (nI (S (1 + i) - v))) 85 (32 + j) (nI (min 9999 (S (37 + j) + v)))) 58 87 (pw_keep S l) := (a1.fr (by rw [am_I_s1 _ _ _ _ (by omega)]) (am_I_s1 _ _ _ _ (by omega))).fr (by rw [am_I_s1 _ _ _ _ (by omega)]) (am_I_s1 _ _ _ _ (by omega))
    generalize am_sI (am_sI g1 85 (1 + i) (nI (S (1 + i) - v))) 85 (32 + j) (nI (min 9999 (S (37 + j) + v))) = g3 at *
    have d3 : pm_L g3 d := m1.kp kk fun a b hab => decide_eq_false (by omega)
    rw [s227 d3 ho hx, am_bI_ok]
    rw [if_neg (fun e => hj ((nI_eq (by omega) (by omega)).mp e)), e245_139, nI_add 1 i, ml_85 (by omega), s3.i0 (by omega), pu_n _ _ (show 1 + i ≠ 37 + j by omega), pu_s]
    refine ⟨_, _, rfl, fun _ => rfl, ?_, hm0.act (fun a b h0 h1 h2 h3 => ?_) s3 a3, hf0.trans (kk.fm fun a b hab => decide_eq_false (by omega))⟩
    · rw [kk.get 60 0 (by decide)]; exact ht0
    · exact kk.get a b (decide_eq_false (by omega))
theorem call_undo {w : pw_W} (hw : pw_wf w) : am_AG 0 (fun e => e) w (fun h => am_run am_M 15 [.ref 0] h) (fun h => am_run am_M 223 [.ref 60] h) := by
  obtain ⟨d, S, l, t, im, tp, nb, fp, rf⟩ := w
  have hw0 := hw
  obtain ⟨ho, hS, ha, ht, hi, hnb, htp⟩ := hw
  have h6 := ho.1.2.2.2.1
  have h4 := ho.1.1
  have hd9 := hS.2.1
  have h9 := ho.1.2.1
  match l, ha with
  | [], ha =>
    refine ⟨0, (-1 : Int32), (d, S, [], t, im, tp, nb, fp, rf), hw0, ⟨by omega, fun hh => by first | exact absurd rfl hh | rfl⟩, fun h hc => ?_, fun h hm => ?_⟩
    · have hc0 := hc
      obtain ⟨⟨L, hL, r1, r2, c1⟩, c2, c3, c4, c5, c6, c7, c8, c9⟩ := hc
      refine am_CO_0 ?_
      show am_RI (am_run am_M 15 [.ref 0] h) _
      rw [e15]
      obtain ⟨x, hx, b1, b2, b3⟩ := c3
      rw [show am_I h 22 2 = nI 0 from b2, if_pos (by decide)]
      exact ⟨_, _, rfl, rfl, hc0, am_fc.refl _⟩
    · show am_RI (am_run am_M 223 [.ref 60] h) _
      obtain ⟨hm0, ht0, hf0⟩ := m_start hm
      rw [e223]
      generalize am_sI h 60 0 (nI 0) = g at hm0 ht0 hf0 ⊢
      dsimp only
      have hm1 := hm0
      obtain ⟨m1, m2, m3, m4, m5, m6, m7, m8, m9, m10, m11, m12⟩ := hm1
      rw [show am_I g 60 58 = nI 0 from m3.1, if_pos (by decide)]
      exact ⟨_, _, rfl, am_fin_m hf0 hm0 (am_kp.refl _ _) ht0 (fun _ => rfl)⟩
  | T :: l, ha =>
    have hT : pw_SL d T := ha.2 T List.mem_cons_self
    have hl : l.length < 40 := ha.1
    refine ⟨0, (nI l.length), (d, T, l, t, im, tp, nb, fp, rf), ⟨ho, hT, ⟨by omega, fun U hU => ha.2 U (List.mem_cons_of_mem _ hU)⟩, ht, hi, hnb, htp⟩, ⟨by omega, fun hh => by first | exact absurd rfl hh | rfl⟩, fun h hc => ?_, fun h hm => ?_⟩
    · have hc0 := hc
      obtain ⟨⟨L, hL, r1, r2, c1⟩, c2, c3, c4, c5, c6, c7, c8, c9⟩ := hc
      refine am_CO_0 ?_
      show am_RI (am_run am_M 15 [.ref 0] h) _
      rw [e15]
      have hA2 : am_I h 22 2 = nI (l.length + 1) := by
        obtain ⟨x, hx, b1, b2, b3⟩ := c3
        exact b2
      rw [hA2, if_neg (nI_ne0 (by omega) (by omega))]
      refine pz_VI (s73 pc_ao22 pc_so20 c3 hl) fun g1 hg1 => ?_
      obtain ⟨a1, s1, k1⟩ := hg1
      have hA3 : am_I g1 22 2 = nI l.length := by
        obtain ⟨x, hx, b1, b2, b3⟩ := a1
        exact b2
      rw [hA3]
      exact ⟨_, _, rfl, rfl, hc0.act k1.R (fun a b h1 h2 h3 => k1.get a b (decide_eq_false (by omega))) s1 a1, k1.fc fun a b hab => decide_eq_false (by omega)⟩
    · show am_RI (am_run am_M 223 [.ref 60] h) _
      obtain ⟨hm0, ht0, hf0⟩ := m_start hm
      rw [e223]
      generalize am_sI h 60 0 (nI 0) = g at hm0 ht0 hf0 ⊢
      dsimp only
      have hm1 := hm0
      obtain ⟨m1, m2, m3, m4, m5, m6, m7, m8, m9, m10, m11, m12⟩ := hm1
      have h58 : am_I g 60 58 = nI (l.length + 1) := m3.1
      rw [h58, if_neg (nI_ne0 (by omega) (by omega)), pk_sub (by omega), Nat.add_sub_cancel]
      try dsimp only
      obtain ⟨g2, e, hp⟩ := am_for0 (fun k (g' : am_H) => am_vn am_M 0 223 26 [some (.ref 60), some (.int (nI k))] [] g') (fun k g' => g' = pz_wr (am_sI g 60 58 (nI l.length)) 85 (fun j => if j < k then am_I g 87 (l.length * 40 + j) else am_I g 85 j)) 40 (am_sI g 60 58 (nI l.length)) (by
        have : (fun j => if j < 0 then am_I g 87 (l.length * 40 + j) else am_I g 85 j) = am_I (am_sI g 60 58 (nI l.length)) 85 := by
          funext j
          rw [if_neg (by omega), am_I_s1 _ _ _ _ (by omega)]
        rw [this]
        exact (pz_wr_id _ 85).symm) (fun k g' hk hg => by
        refine ⟨_, ?_, rfl⟩
        rw [e223_26, if_neg (nI_ge hk (by omega)), hg, am_I_w1 _ _ _ (show 60 ≠ 85 by omega), am_I_s, pk_mul, nI_add, ml_87 (show 40 * l.length + k < 1600 by omega), am_I_w1 _ _ _ (show 87 ≠ 85 by omega), am_I_s1 _ _ _ _ (by omega), ms_85 hk, pz_succ, pz_sI_wr]
        congr 2
        funext j
        by_cases hj : j = k
        · rw [if_pos hj, if_pos (by omega), hj, Nat.mul_comm]
        · rw [if_neg hj]
          by_cases hj2 : j < k
          · rw [if_pos hj2, if_pos (by omega)]
          · rw [if_neg hj2, if_neg (by omega)])
      subst hp
      refine Eq.mpr (congrArg (fun o => am_RI o _) e) ?_
      rw [e223_26, if_pos (by decide), am_I_w1 _ _ _ (show 60 ≠ 85 by omega), am_I_s]
      have kp : am_kp (fun i k => decide (i = 60 ∧ k = 58 ∨ i = 85)) g (pz_wr (am_sI g 60 58 (nI l.length)) 85 (fun j => if j < 40 then am_I g 87 (l.length * 40 + j) else am_I g 85 j)) := ((am_kp.refl _ g).sI _ (by decide)).wr _ (fun k => decide_eq_true (by omega))
      have e87 : am_I (pz_wr (am_sI g 60 58 (nI l.length)) 85 (fun j => if j < 40 then am_I g 87 (l.length * 40 + j) else am_I g 85 j)) 87 = am_I g 87 := by
        rw [am_I_w1 _ _ _ (by omega), am_I_s1 _ _ _ _ (by omega)]
      refine ⟨_, _, rfl, fun _ => rfl, ?_, hm0.act (fun a b h0 h1 h2 h3 => kp.get a b (decide_eq_false (by omega))) ?_ ⟨?_, fun j hj => ?_⟩, hf0.trans (kp.fm fun a b hab => decide_eq_false (by omega))⟩
      · rw [kp.get 60 0 (by decide)]; exact ht0
      · refine (m3.2 0 (by rw [List.length_cons]; omega)).mv fun i hi => ?_
        rw [am_I_w]
        show (if _ then _ else _) = _
        rw [if_pos (by omega)]
        congr 1
        rw [List.length_cons]
        omega
      · rw [am_I_w1 _ _ _ (show 60 ≠ 85 by omega), am_I_s]
      · refine (m3.2 (j + 1) (by rw [List.length_cons]; omega)).mv fun i hi => ?_
        rw [e87]
        congr 1
        rw [List.length_cons]
        omega
