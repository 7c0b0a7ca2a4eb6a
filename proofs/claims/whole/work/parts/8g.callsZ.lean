/-! CALLS: errands -/
theorem wk_cl_of {d : pw_L} {S : Nat → Nat} {p tgt x0 s0 N : Nat} {f : Nat → Nat} (hx : (x0 / 9) ||| tgt = tgt) (hN : N = tgt * 9 + 9) (h96 : ∀ v, v < N → f v ≤ 96) (p1 : wk_ju (wk_e d S p tgt) N x0 s0 f) (p3 : ∀ B, B ≤ tgt → B ||| tgt = tgt → wk_cA d S p tgt B f) : wk_cl (wk_e d S p tgt) N f := by
  intro a v ha hv h6
  unfold wk_e
  by_cases c : v = wk_to tgt (a / 9) (v % 9) ∧ a % 9 < pw_n d 1 ∧ v % 9 < pw_n d 1
  · rw [if_pos c]
    have hsub := wk_e_sub hx (p1 a ha h6) h6
    have := p3 (a / 9) (by omega) hsub (a % 9) (v % 9) c.2.1 c.2.2 (by rw [show a / 9 * 9 + a % 9 = a by omega]; exact h6)
    rw [← c.1, show a / 9 * 9 + a % 9 = a by omega] at this
    exact this
  · rw [if_neg c]; exact h96 v hv
theorem call_errands {w : pw_W} (hw : pw_wf w) (x y z : Int32) : am_AG 2 (fun e => e) w (fun h => am_run am_M 17 [.ref 0, .int x, .int y, .int z] h) (fun h => am_run am_M 255 [.ref 60, .int x, .int y, .int z] h) := by
  obtain ⟨d, S, l, t, im, tp, nb, fp, rf⟩ := w
  have hw0 := hw
  obtain ⟨ho, hS, ha, ht, hi, hnb, htp⟩ := hw
  rcases Classical.em (pz_b x (pw_n d 3)) with hx | hx
  rotate_left
  · refine ⟨1, 0, (d, S, l, t, im, tp, nb, fp, rf), hw0, ⟨by omega, fun hh => by first | exact absurd rfl hh | rfl⟩, fun h hc => ?_, fun h hm => ?_⟩
    · have hc0 := hc
      obtain ⟨⟨L, hL, r1, r2, c1⟩, c2, c3, c4, c5, c6, c7, c8, c9⟩ := hc
      refine am_CO_x (by decide) ?_
      show am_run am_M 17 [.ref 0, .int x, .int y, .int z] h = _
      rw [e17, c62_f hL r1 c1 ho hx]
      try rfl
    · show am_RI (am_run am_M 255 [.ref 60, .int x, .int y, .int z] h) _
      obtain ⟨hm0, ht0, hf0⟩ := m_start hm
      rw [e255]
      generalize am_sI h 60 0 (nI 0) = g at hm0 ht0 hf0 ⊢
      dsimp only
      have hm1 := hm0
      obtain ⟨m1, m2, m3, m4, m5, m6, m7, m8, m9, m10, m11, m12⟩ := hm1
      rw [s236_f m1 ho ht0 hx, am_bI_ok, if_pos (by decide)]
      exact ⟨_, _, rfl, am_fin_x hf0 hm0 (by decide)⟩
  obtain ⟨i, hx, rfl⟩ := hx
  have h6 := ho.1.2.2.2.1
  have h4 := ho.1.1
  have hd9 := hS.2.1
  have h9 := ho.1.2.1
  have h512 : 2 ^ pw_n d 1 ≤ 512 := Nat.pow_le_pow_right (show 0 < 2 by omega) h9
  have hpos : 0 < 2 ^ pw_n d 1 := Nat.pow_pos (by omega)
  have hhp := (ho.2.2.1 i hx).2
  rcases Classical.em (pz_b y (2 ^ pw_n d 1)) with hy | hy
  rotate_left
  · refine ⟨2, 0, (d, S, l, t, im, tp, nb, fp, rf), hw0, ⟨by omega, fun hh => by first | exact absurd rfl hh | rfl⟩, fun h hc => ?_, fun h hm => ?_⟩
    · have hc0 := hc
      obtain ⟨⟨L, hL, r1, r2, c1⟩, c2, c3, c4, c5, c6, c7, c8, c9⟩ := hc
      refine am_CO_x (by decide) ?_
      show am_run am_M 17 [.ref 0, .int (nI i), .int y, .int z] h = _
      rw [e17, c62_t hL r1 c1 ho hx, am_bV_ok]
      rw [r1, am_gr_n, pc_lch hL, show am_I h L 12 = nI (pw_n d 1) from c1.1 1 (by omega), pb_1 (show pw_n d 1 < 31 by omega), pk_sub (show 1 ≤ 2 ^ pw_n d 1 by omega), c65_f (m := 2 ^ pw_n d 1 - 1) (by omega) (by rw [show 2 ^ pw_n d 1 - 1 + 1 = 2 ^ pw_n d 1 by omega]; exact hy)]
      try rfl
    · show am_RI (am_run am_M 255 [.ref 60, .int (nI i), .int y, .int z] h) _
      obtain ⟨hm0, ht0, hf0⟩ := m_start hm
      rw [e255]
      generalize am_sI h 60 0 (nI 0) = g at hm0 ht0 hf0 ⊢
      dsimp only
      have hm1 := hm0
      obtain ⟨m1, m2, m3, m4, m5, m6, m7, m8, m9, m10, m11, m12⟩ := hm1
      rw [s236_t m1 ho ht0 hx, am_bI_ok, if_neg (by decide)]
      by_cases c0 : y < 0
      · rw [if_pos c0, e255_43, s179_f ht0 (e := 2) (by omega), am_bI_ok, if_pos (by decide)]
        exact ⟨_, _, rfl, am_fin_x hf0 hm0 (by decide)⟩
      · have c2 := (pz_b_n (by omega) hy).resolve_left c0
        rw [if_neg c0, show am_I g 60 2 = nI (pw_n d 1) from m1.1 1 (by omega), pb_1 (show pw_n d 1 < 31 by omega), if_pos c2, e255_43, s179_f ht0 (e := 2) (by omega), am_bI_ok, if_pos (by decide)]
        exact ⟨_, _, rfl, am_fin_x hf0 hm0 (by decide)⟩
  obtain ⟨tgt, hy, rfl⟩ := hy
  rcases Classical.em (pz_b z 24) with hz | hz
  rotate_left
  · refine ⟨2, 0, (d, S, l, t, im, tp, nb, fp, rf), hw0, ⟨by omega, fun hh => by first | exact absurd rfl hh | rfl⟩, fun h hc => ?_, fun h hm => ?_⟩
    · have hc0 := hc
      obtain ⟨⟨L, hL, r1, r2, c1⟩, c2, c3, c4, c5, c6, c7, c8, c9⟩ := hc
      refine am_CO_x (by decide) ?_
      show am_run am_M 17 [.ref 0, .int (nI i), .int (nI tgt), .int z] h = _
      rw [e17, c62_t hL r1 c1 ho hx, am_bV_ok]
      rw [r1, am_gr_n, pc_lch hL, show am_I h L 12 = nI (pw_n d 1) from c1.1 1 (by omega), pb_1 (show pw_n d 1 < 31 by omega), pk_sub (show 1 ≤ 2 ^ pw_n d 1 by omega), c65_t (m := 2 ^ pw_n d 1 - 1) (by omega) (by omega), am_bV_ok, c65_f (m := 23) (by omega) hz]
      try rfl
    · show am_RI (am_run am_M 255 [.ref 60, .int (nI i), .int (nI tgt), .int z] h) _
      obtain ⟨hm0, ht0, hf0⟩ := m_start hm
      rw [e255]
      generalize am_sI h 60 0 (nI 0) = g at hm0 ht0 hf0 ⊢
      dsimp only
      have hm1 := hm0
      obtain ⟨m1, m2, m3, m4, m5, m6, m7, m8, m9, m10, m11, m12⟩ := hm1
      rw [s236_t m1 ho ht0 hx, am_bI_ok, if_neg (by decide)]
      rw [if_neg (show ¬ nI tgt < 0 from nI_nlt (Nat.zero_le tgt) (by omega)), show am_I g 60 2 = nI (pw_n d 1) from m1.1 1 (by omega), pb_1 (show pw_n d 1 < 31 by omega), if_neg (nI_ge hy (by omega)), s180_f z (fun h => hz (pz_bw.mp h)) (by omega) (by omega), am_bI_ok, if_pos (by decide), e255_43, s179_f ht0 (e := 2) (by omega), am_bI_ok, if_pos (by decide)]
      exact ⟨_, _, rfl, am_fin_x hf0 hm0 (by decide)⟩
  obtain ⟨n, hz, rfl⟩ := hz
  have htg : tgt < 512 := by omega
  have hto := wk_to_ok (tgt := tgt) (A := 0) (v := pw_t d 3 i) (Nat.zero_or _) (by omega)
  have h0t : (0 ||| (tgt &&& 2 ^ pw_t d 3 i)) = (tgt &&& 2 ^ pw_t d 3 i) := Nat.zero_or _
  have hxe : wk_to tgt 0 (pw_t d 3 i) = (tgt &&& 2 ^ pw_t d 3 i) * 9 + pw_t d 3 i := by unfold wk_to; rw [h0t]
  rw [h0t] at hto
  have hx9 : wk_to tgt 0 (pw_t d 3 i) / 9 = (tgt &&& 2 ^ pw_t d 3 i) := by rw [hxe]; omega
  obtain ⟨F, hF⟩ := wk_least (wk_e d S i tgt) (tgt * 9 + 9) (wk_to tgt 0 (pw_t d 3 i)) n
  refine ⟨0, (pn_o (F (tgt * 9 + pw_t d 3 i)) 95), (d, S, l, t, im, tp, nb, fp, rf), hw0, ⟨by omega, fun hh => by first | exact absurd rfl hh | rfl⟩, fun h hc => ?_, fun h hm => ?_⟩
  · have hc0 := hc
    obtain ⟨⟨L, hL, r1, r2, c1⟩, c2, c3, c4, c5, c6, c7, c8, c9⟩ := hc
    refine am_CO_0 ?_
    show am_RI (am_run am_M 17 [.ref 0, .int (nI i), .int (nI tgt), .int (nI n)] h) _
    rw [e17, c62_t hL r1 c1 ho hx, am_bV_ok]
    rw [r1, am_gr_n, pc_lch hL, show am_I h L 12 = nI (pw_n d 1) from c1.1 1 (by omega), pb_1 (show pw_n d 1 < 31 by omega), pk_sub (show 1 ≤ 2 ^ pw_n d 1 by omega), c65_t (m := 2 ^ pw_n d 1 - 1) (by omega) (by omega), am_bV_ok, c65_t (m := 23) (by omega) hz, am_bV_ok, r1, am_gr_n]
    refine pz_VI (s166 (tgt := tgt) (N := tgt * 9 + 9) hL c1 ho c2 hS.1 (by omega) hx htg hz rfl) fun g hg => ?_
    obtain ⟨k, f, rr, p1, p2, p3⟩ := hg
    have hd := c1.kp k (fun i k hi => ps_V_f (ps_0L hL i k hi) (by unfold pc_rl at hi; unfold pc_lo at hL; omega))
    have rv := rr (tgt * 9 + pw_t d 3 i) (by omega)
    have ev := wk_is.eq (wk_e_T d S i tgt) hF p1 p3 p2 (show tgt * 9 + pw_t d 3 i < tgt * 9 + 9 by omega) rv.1
    have fin := am_fin_c hc0 (k.up fun i k => ps_VC)
    rw [k.R, r1, am_gr_n, pc_lch hL, s93 hL (by omega), am_bI_ok, (hd.2.2.1 i hx).2, e172, pk_mul, nI_add, at_ok (r := 39) (n := 4608) rfl (by omega) (by omega) (show tgt * 9 + pw_t d 3 i < 4608 by omega), am_bI_ok, rv.2, ev]
    by_cases c9 : F (tgt * 9 + pw_t d 3 i) ≤ 95
    · rw [if_neg (nI_ge (by omega) (by omega)), show pn_o (F (tgt * 9 + pw_t d 3 i)) 95 = nI (F (tgt * 9 + pw_t d 3 i)) from if_pos c9]
      exact ⟨_, _, rfl, rfl, fin⟩
    · rw [if_pos (nI_le (by omega) (by omega)), show pn_o (F (tgt * 9 + pw_t d 3 i)) 95 = (-1 : Int32) from if_neg c9]
      exact ⟨_, _, rfl, rfl, fin⟩
  · show am_RI (am_run am_M 255 [.ref 60, .int (nI i), .int (nI tgt), .int (nI n)] h) _
    obtain ⟨hm0, ht0, hf0⟩ := m_start hm
    rw [e255]
    generalize am_sI h 60 0 (nI 0) = g at hm0 ht0 hf0 ⊢
    dsimp only
    have hm1 := hm0
    obtain ⟨m1, m2, m3, m4, m5, m6, m7, m8, m9, m10, m11, m12⟩ := hm1
    rw [s236_t m1 ho ht0 hx, am_bI_ok, if_neg (by decide)]
    have hwm : wk_m g d S := ⟨m1, m2, m10⟩
    rw [if_neg (show ¬ nI tgt < 0 from nI_nlt (Nat.zero_le tgt) (by omega)), show am_I g 60 2 = nI (pw_n d 1) from m1.1 1 (by omega), pb_1 (show pw_n d 1 < 31 by omega), if_neg (nI_ge hy (by omega)), s180_t (Nat.zero_le _) (show n ≤ 23 by omega) (by omega), am_bI_ok, if_neg (by decide), e255_43, s179_t ht0, am_bI_ok, if_neg (by decide)]
    obtain ⟨g1, e, kp, hf⟩ := am_for0 (fun k (g' : am_H) => am_vn am_M 5 255 55 [some (.ref 60), some (.int (nI i)), some (.int (nI tgt)), some (.int (nI n)), some (.int (nI k)), none, none] [] g') (fun k g' => am_kp (ps_w 93) g g' ∧ ∀ v, v < k → am_I g' 93 v = nI 9999) 4608 g ⟨am_kp.refl _ _, fun v hv => absurd hv (Nat.not_lt_zero v)⟩ (fun k g' hk hg => by
      rw [e255_55, if_neg (nI_ge hk (by omega)), ms_93 hk, pz_succ]
      refine ⟨_, rfl, hg.1.sI _ (ps_w_r 93 k), fun v hv => ?_⟩
      rw [am_I_sc]
      by_cases c : v = k
      · rw [if_pos ⟨rfl, c⟩]
      · rw [if_neg (fun h => c h.2)]; exact hg.2 v (by omega))
    refine Eq.mpr (congrArg (fun o => am_RI o _) e) ?_
    have hm1' := hwm.kp93 kp
    have hcell : 9 * (tgt &&& 2 ^ pw_t d 3 i) + pw_t d 3 i = wk_to tgt 0 (pw_t d 3 i) := by rw [hxe]; omega
    have hxN : wk_to tgt 0 (pw_t d 3 i) < tgt * 9 + 9 := by rw [hxe]; omega
    rw [e255_55, if_pos (nI_le (Nat.le_refl _) (by omega)), ml_67 (by omega), ml_67 (by omega), (hm1'.1.2.2.1 i hx).2, pb_1 (by omega), pz_and, pk_mul, nI_add, hcell, ms_93 (show wk_to tgt 0 (pw_t d 3 i) < 4608 by omega)]
    have k2 : am_kp (ps_w 93) g (am_sI g1 93 (wk_to tgt 0 (pw_t d 3 i)) (nI n)) := kp.sI _ (ps_w_r 93 _)
    have f2 : wk_93 (am_sI g1 93 (wk_to tgt 0 (pw_t d 3 i)) (nI n)) (tgt * 9 + 9) (fun v => if v = wk_to tgt 0 (pw_t d 3 i) then n else 96) := fun v hv => by
      try dsimp only
      rw [am_I_sc]
      by_cases c : v = wk_to tgt 0 (pw_t d 3 i)
      · rw [if_pos (show 93 = 93 ∧ v = wk_to tgt 0 (pw_t d 3 i) from ⟨rfl, c⟩), if_pos c]
        refine ⟨by omega, ?_⟩
        unfold wk_9; rw [if_pos (by omega)]
      · rw [if_neg (show ¬ (93 = 93 ∧ v = wk_to tgt 0 (pw_t d 3 i)) from fun h => c h.2), if_neg c]; exact ⟨Nat.le_refl _, hf v (by omega)⟩
    generalize am_sI g1 93 (wk_to tgt 0 (pw_t d 3 i)) (nI n) = g2 at k2 f2 ⊢
    obtain ⟨g3, f, e3, k3, rr, p1, p2, p3⟩ := s255_108 (x0 := wk_to tgt 0 (pw_t d 3 i)) (s0 := n) hwm ho hS.1 (by omega) hx htg rfl (tgt + 1) 0 g2 _ (by omega) k2 f2 (fun v hv h6 => by
      try dsimp only at h6 ⊢
      by_cases c : v = wk_to tgt 0 (pw_t d 3 i)
      · rw [if_pos c, c]; exact wk_R.start _ _ _ _
      · rw [if_neg c] at h6; exact absurd h6 (by omega)) (by show (if _ then _ else _) ≤ n; rw [if_pos rfl]; exact Nat.le_refl _) (fun B hB => absurd hB (Nat.not_lt_zero B))
    refine Eq.mpr (congrArg (fun o => am_RI o _) e3) ?_
    have hm3 := hwm.kp93 k3
    have rv := rr (tgt * 9 + pw_t d 3 i) (by omega)
    have ev := wk_is.eq (wk_e_T d S i tgt) hF p1 (wk_cl_of (by rw [hx9]; exact hto.1) rfl (fun v hv => (rr v hv).1) p1 p3) p2 (show tgt * 9 + pw_t d 3 i < tgt * 9 + 9 by omega) rv.1
    have kM : am_kp ps_M g g3 := k3.up fun i k h => by have := of_decide_eq_false h; exact ps_w_f (ps_m_f (by omega)) (by omega)
    have ht2 : am_I g3 60 0 = nI 0 := (k3.get 60 0 (ps_w_f (ps_m_f (by omega)) (by omega))).trans ht0
    rw [e255_108, if_pos (nI_lt (show tgt < tgt + 1 by omega) (by omega)), ml_67 (by omega), (hm3.1.2.2.1 i hx).2, pk_mul, nI_add, show 9 * tgt + pw_t d 3 i = tgt * 9 + pw_t d 3 i by omega, ml_93 (show tgt * 9 + pw_t d 3 i < 4608 by omega), rv.2, ev, s252 (hF _).1, am_bI_ok]
    exact ⟨_, _, rfl, am_fin_m hf0 hm0 kM ht2 (fun _ => rfl)⟩
