/-! CALLS: meeting -/
section
variable {h : am_H} {F G : Nat → Nat}
theorem s174 {v : Nat} (hv : v < 9) (e1 : am_I h 40 v = nI (F v)) (e2 : am_I h 39 v = nI (G v)) (f96 : F v ≤ 96) (g96 : G v ≤ 96) : am_run am_M 174 [.ref 37, .int (nI v)] h = some (.inl (some (.int (pn_o (max (F v) (G v)) 95))), h) := by
  rw [e174, at_ok (r := 40) (n := 9) rfl (by omega) (by omega) hv, am_bI_ok, at_ok (r := 39) (n := 4608) rfl (by omega) (by omega) (show v < 4608 by omega), am_bI_ok, e1, e2, pz_max (by omega) (by omega)]
  unfold pn_o
  by_cases c : max (F v) (G v) ≤ 95
  · rw [if_neg (nI_ge (by omega) (by omega)), if_pos c]
  · rw [if_pos (nI_le (by omega) (by omega)), if_neg c]
end
theorem call_meeting {w : pw_W} (hw : pw_wf w) (x y z b : Int32) : am_AG 2 (fun e => e) w (fun h => am_run am_M 19 [.ref 0, .int x, .int y, .int z, .int b] h) (fun h => am_run am_M 258 [.ref 60, .int x, .int y, .int z, .int b] h) := by
  obtain ⟨d, S, l, t, im, tp, nb, fp, rf⟩ := w
  have hw0 := hw
  obtain ⟨ho, hS, ha, ht, hi, hnb, htp⟩ := hw
  rcases Classical.em (pz_b x (pw_n d 3)) with hx | hx
  rotate_left
  · refine ⟨1, 0, (d, S, l, t, im, tp, nb, fp, rf), hw0, ⟨by omega, fun hh => by first | exact absurd rfl hh | rfl⟩, fun h hc => ?_, fun h hm => ?_⟩
    · have hc0 := hc
      obtain ⟨⟨L, hL, r1, r2, c1⟩, c2, c3, c4, c5, c6, c7, c8, c9⟩ := hc
      refine am_CO_x (by decide) ?_
      show am_run am_M 19 [.ref 0, .int x, .int y, .int z, .int b] h = _
      rw [e19, c62_f hL r1 c1 ho hx]
      try rfl
    · show am_RI (am_run am_M 258 [.ref 60, .int x, .int y, .int z, .int b] h) _
      obtain ⟨hm0, ht0, hf0⟩ := m_start hm
      rw [e258]
      generalize am_sI h 60 0 (nI 0) = g at hm0 ht0 hf0 ⊢
      dsimp only
      have hm1 := hm0
      obtain ⟨m1, m2, m3, m4, m5, m6, m7, m8, m9, m10, m11, m12⟩ := hm1
      rw [s236_f m1 ho ht0 hx, am_bI_ok, if_pos (by decide)]
      exact ⟨_, _, rfl, am_fin_x hf0 hm0 (by decide)⟩
  obtain ⟨i, hx, rfl⟩ := hx
  rcases Classical.em (pz_b y (pw_n d 3)) with hy | hy
  rotate_left
  · refine ⟨1, 0, (d, S, l, t, im, tp, nb, fp, rf), hw0, ⟨by omega, fun hh => by first | exact absurd rfl hh | rfl⟩, fun h hc => ?_, fun h hm => ?_⟩
    · have hc0 := hc
      obtain ⟨⟨L, hL, r1, r2, c1⟩, c2, c3, c4, c5, c6, c7, c8, c9⟩ := hc
      refine am_CO_x (by decide) ?_
      show am_run am_M 19 [.ref 0, .int (nI i), .int y, .int z, .int b] h = _
      rw [e19, c62_t hL r1 c1 ho hx, am_bV_ok, c62_f hL r1 c1 ho hy]
      try rfl
    · show am_RI (am_run am_M 258 [.ref 60, .int (nI i), .int y, .int z, .int b] h) _
      obtain ⟨hm0, ht0, hf0⟩ := m_start hm
      rw [e258]
      generalize am_sI h 60 0 (nI 0) = g at hm0 ht0 hf0 ⊢
      dsimp only
      have hm1 := hm0
      obtain ⟨m1, m2, m3, m4, m5, m6, m7, m8, m9, m10, m11, m12⟩ := hm1
      rw [s236_t m1 ho ht0 hx, am_bI_ok, if_neg (by decide), s236_f m1 ho ht0 hy, am_bI_ok, if_pos (by decide)]
      exact ⟨_, _, rfl, am_fin_x hf0 hm0 (by decide)⟩
  obtain ⟨j, hy, rfl⟩ := hy
  rcases Classical.em (pz_b b (1 + 1)) with hb | hb
  rotate_left
  · refine ⟨1, 0, (d, S, l, t, im, tp, nb, fp, rf), hw0, ⟨by omega, fun hh => by first | exact absurd rfl hh | rfl⟩, fun h hc => ?_, fun h hm => ?_⟩
    · have hc0 := hc
      obtain ⟨⟨L, hL, r1, r2, c1⟩, c2, c3, c4, c5, c6, c7, c8, c9⟩ := hc
      refine am_CO_x (by decide) ?_
      show am_run am_M 19 [.ref 0, .int (nI i), .int (nI j), .int z, .int b] h = _
      rw [e19, c62_t hL r1 c1 ho hx, am_bV_ok, c62_t hL r1 c1 ho hy, am_bV_ok, c64_f (by omega) hb]
      try rfl
    · show am_RI (am_run am_M 258 [.ref 60, .int (nI i), .int (nI j), .int z, .int b] h) _
      obtain ⟨hm0, ht0, hf0⟩ := m_start hm
      rw [e258]
      generalize am_sI h 60 0 (nI 0) = g at hm0 ht0 hf0 ⊢
      dsimp only
      have hm1 := hm0
      obtain ⟨m1, m2, m3, m4, m5, m6, m7, m8, m9, m10, m11, m12⟩ := hm1
      rw [s236_t m1 ho ht0 hx, am_bI_ok, if_neg (by decide), s236_t m1 ho ht0 hy, am_bI_ok, if_neg (by decide), s237_f ht0 hb (by omega), am_bI_ok, if_pos (by decide)]
      exact ⟨_, _, rfl, am_fin_x hf0 hm0 (by decide)⟩
  obtain ⟨f, hb, rfl⟩ := hb
  have h6 := ho.1.2.2.2.1
  have h4 := ho.1.1
  have hd9 := hS.2.1
  have h9 := ho.1.2.1
  by_cases hij : i = j
  · refine ⟨2, 0, (d, S, l, t, im, tp, nb, fp, rf), hw0, ⟨by omega, fun hh => by first | exact absurd rfl hh | rfl⟩, fun h hc => ?_, fun h hm => ?_⟩
    · have hc0 := hc
      obtain ⟨⟨L, hL, r1, r2, c1⟩, c2, c3, c4, c5, c6, c7, c8, c9⟩ := hc
      refine am_CO_x (by decide) ?_
      show am_run am_M 19 [.ref 0, .int (nI i), .int (nI j), .int z, .int (nI f)] h = _
      rw [e19, c62_t hL r1 c1 ho hx, am_bV_ok, c62_t hL r1 c1 ho hy, am_bV_ok, c64_t (by omega) hb, am_bV_ok]
      rw [if_pos (show nI i = nI j by rw [hij])]
    · show am_RI (am_run am_M 258 [.ref 60, .int (nI i), .int (nI j), .int z, .int (nI f)] h) _
      obtain ⟨hm0, ht0, hf0⟩ := m_start hm
      rw [e258]
      generalize am_sI h 60 0 (nI 0) = g at hm0 ht0 hf0 ⊢
      dsimp only
      have hm1 := hm0
      obtain ⟨m1, m2, m3, m4, m5, m6, m7, m8, m9, m10, m11, m12⟩ := hm1
      rw [s236_t m1 ho ht0 hx, am_bI_ok, if_neg (by decide), s236_t m1 ho ht0 hy, am_bI_ok, if_neg (by decide), s237_t ht0 hb (by omega), am_bI_ok, if_neg (by decide)]
      rw [if_pos (show nI i = nI j by rw [hij]), e258_52, s179_f ht0 (e := 2) (by omega), am_bI_ok, if_pos (by decide)]
      exact ⟨_, _, rfl, am_fin_x hf0 hm0 (by decide)⟩
  have hne : ¬ nI i = nI j := fun e => hij ((nI_eq (by omega) (by omega)).mp e)
  rcases Classical.em (pz_b z 24) with hz | hz
  rotate_left
  · refine ⟨2, 0, (d, S, l, t, im, tp, nb, fp, rf), hw0, ⟨by omega, fun hh => by first | exact absurd rfl hh | rfl⟩, fun h hc => ?_, fun h hm => ?_⟩
    · have hc0 := hc
      obtain ⟨⟨L, hL, r1, r2, c1⟩, c2, c3, c4, c5, c6, c7, c8, c9⟩ := hc
      refine am_CO_x (by decide) ?_
      show am_run am_M 19 [.ref 0, .int (nI i), .int (nI j), .int z, .int (nI f)] h = _
      rw [e19, c62_t hL r1 c1 ho hx, am_bV_ok, c62_t hL r1 c1 ho hy, am_bV_ok, c64_t (by omega) hb, am_bV_ok]
      rw [if_neg hne, c65_f (m := 23) (by omega) hz]
      try rfl
    · show am_RI (am_run am_M 258 [.ref 60, .int (nI i), .int (nI j), .int z, .int (nI f)] h) _
      obtain ⟨hm0, ht0, hf0⟩ := m_start hm
      rw [e258]
      generalize am_sI h 60 0 (nI 0) = g at hm0 ht0 hf0 ⊢
      dsimp only
      have hm1 := hm0
      obtain ⟨m1, m2, m3, m4, m5, m6, m7, m8, m9, m10, m11, m12⟩ := hm1
      rw [s236_t m1 ho ht0 hx, am_bI_ok, if_neg (by decide), s236_t m1 ho ht0 hy, am_bI_ok, if_neg (by decide), s237_t ht0 hb (by omega), am_bI_ok, if_neg (by decide)]
      rw [if_neg hne, s180_f z (fun h => hz (pz_bw.mp h)) (by omega) (by omega), am_bI_ok, if_pos (by decide), e258_52, s179_f ht0 (e := 2) (by omega), am_bI_ok, if_pos (by decide)]
      exact ⟨_, _, rfl, am_fin_x hf0 hm0 (by decide)⟩
  obtain ⟨n, hz, rfl⟩ := hz
  obtain ⟨F, hF⟩ := wk_least (wk_s d S i) (pw_n d 1) (pw_t d 3 i) n
  obtain ⟨G, hG⟩ := wk_least (wk_s d S j) (pw_n d 1) (pw_t d 3 j) n
  have F96 : ∀ v, F v ≤ 96 := fun v => (hF v).1
  have G96 : ∀ v, G v ≤ 96 := fun v => (hG v).1
  refine ⟨0, (if f = 0 then pn_o (pz_arg (fun v => max (F v) (G v)) 96 (pw_n d 1)).1 20 else pn_o (pz_arg (fun v => max (F v) (G v)) 96 (pw_n d 1)).2 95), (d, S, l, t, im, tp, nb, fp, rf), hw0, ⟨by omega, fun hh => by first | exact absurd rfl hh | rfl⟩, fun h hc => ?_, fun h hm => ?_⟩
  · have hc0 := hc
    obtain ⟨⟨L, hL, r1, r2, c1⟩, c2, c3, c4, c5, c6, c7, c8, c9⟩ := hc
    refine am_CO_0 ?_
    show am_RI (am_run am_M 19 [.ref 0, .int (nI i), .int (nI j), .int (nI n), .int (nI f)] h) _
    rw [e19, c62_t hL r1 c1 ho hx, am_bV_ok, c62_t hL r1 c1 ho hy, am_bV_ok, c64_t (by omega) hb, am_bV_ok]
    rw [if_neg hne, c65_t (m := 23) (by omega) hz, am_bV_ok, r1, am_gr_n]
    refine pz_VI (s165 hL c1 ho c2 hS.1 (by omega) hx hz hF) fun g1 hg => ?_
    obtain ⟨k1, hf1⟩ := hg
    rw [e173, copyRow_ok (r := 39) (n := 4608) (q := 40) (m := 9) rfl (by omega) (by omega) rfl (by omega) (by omega) (by omega) (show 0 + 9 ≤ 4608 by omega) (show 0 + 9 ≤ 9 by omega), am_bV_ok, am_bV_ok]
    have kw : am_kp (fun i _ => decide (i = 40)) g1 (pz_wr g1 40 (fun j => if 0 ≤ j ∧ j < 0 + 9 then am_I g1 39 (0 + (j - 0)) else am_I g1 40 j)) := (am_kp.refl _ _).wr _ (fun k => decide_eq_true rfl)
    have hw : ∀ v, v < pw_n d 1 → am_I (pz_wr g1 40 (fun j => if 0 ≤ j ∧ j < 0 + 9 then am_I g1 39 (0 + (j - 0)) else am_I g1 40 j)) 40 v = nI (F v) := fun v hv => by
      rw [am_I_w, if_pos (by omega), show 0 + (v - 0) = v by omega]; exact hf1 v hv
    generalize pz_wr g1 40 (fun j => if 0 ≤ j ∧ j < 0 + 9 then am_I g1 39 (0 + (j - 0)) else am_I g1 40 j) = g2 at kw hw ⊢
    have d1 := c1.kp k1 (fun i k hi => ps_V_f (ps_0L hL i k hi) (by unfold pc_rl at hi; unfold pc_lo at hL; omega))
    have d2 := d1.kp kw (fun i k hi => decide_eq_false (by unfold pc_rl at hi; unfold pc_lo at hL; omega))
    have S1 := c2.kp k1 (fun k => ps_V_f (ps_0_f (by omega)) (by omega))
    have S2 := S1.kp kw (fun k => decide_eq_false (by omega))
    rw [kw.R, k1.R, r1, am_gr_n]
    refine pz_VI (s165 hL d2 ho S2 hS.1 (by omega) hy hz hG) fun g hg => ?_
    obtain ⟨k3, hf⟩ := hg
    have hd := d2.kp k3 (fun i k hi => ps_V_f (ps_0L hL i k hi) (by unfold pc_rl at hi; unfold pc_lo at hL; omega))
    have h40 : ∀ v, v < pw_n d 1 → am_I g 40 v = nI (F v) := fun v hv => by rw [k3.get _ _ (ps_V_f (ps_0_f (by omega)) (by omega))]; exact hw v hv
    have k : am_kp ps_C h g := ((k1.up fun i k => ps_VC).trans (kw.up fun i k hs => decide_eq_false (fun e => by rw [ps_C_t (by omega)] at hs; exact absurd hs (by decide)))).trans (k3.up fun i k => ps_VC)
    have fin := am_fin_c hc0 k
    obtain ⟨g4, e, hp⟩ := am_for0 (fun k (g' : am_H) => am_vn am_M 6 19 85 [some (.ref 0), none, none, none, some (.int (nI f)), some (.int (pn_o (pz_arg (fun v => max (F v) (G v)) 96 k).1 20)), some (.int (nI k)), none] [] g') (fun _ g' => g' = g) (pw_n d 1) g rfl (fun q g' hq hg => by
      subst hg
      have fq := F96 q
      have gq := G96 q
      have hor := pz_arg_or (fun v => max (F v) (G v)) 96 q
      have hal := pz_arg_le (fun v => max (F v) (G v)) 96 q
      refine ⟨g', ?_, rfl⟩
      rw [e19_85, k.R, r1, am_gr_n, pc_lch hL, show am_I g' L 12 = nI (pw_n d 1) from hd.1 1 (by omega), if_neg (nI_ge hq (by omega)), s174 (F := F) (G := G) (by omega) (h40 q hq) (hf q hq) fq gq, am_bI_ok, pz_arg]
      by_cases c9 : max (F q) (G q) ≤ 95
      · rw [show pn_o (max (F q) (G q)) 95 = nI (max (F q) (G q)) from if_pos c9, if_neg (pz_neg1 (by omega))]
        rcases hor with e0 | ⟨o1, o2, o3⟩
        · rw [e0, if_pos (show pn_o (1000, 96).1 20 = (-1 : Int32) from rfl), if_pos (show max (F q) (G q) < (1000, 96).2 from by show _ < 96; omega), pz_succ, show pn_o (q, max (F q) (G q)).1 20 = nI q from if_pos (by show q ≤ 20; omega)]
        · have hfb : (pz_arg (fun v => max (F v) (G v)) 96 q).2 = max (F (pz_arg (fun v => max (F v) (G v)) 96 q).1) (G (pz_arg (fun v => max (F v) (G v)) 96 q).1) := o2
          rw [show pn_o (pz_arg (fun v => max (F v) (G v)) 96 q).1 20 = nI (pz_arg (fun v => max (F v) (G v)) 96 q).1 from if_pos (by omega), if_neg (pz_neg1 (by omega)), s174 (F := F) (G := G) (by omega) (h40 _ (show (pz_arg (fun v => max (F v) (G v)) 96 q).1 < pw_n d 1 by omega)) (hf _ (show (pz_arg (fun v => max (F v) (G v)) 96 q).1 < pw_n d 1 by omega)) (F96 _) (G96 _), am_bI_ok, ← hfb, show pn_o (pz_arg (fun v => max (F v) (G v)) 96 q).2 95 = nI (pz_arg (fun v => max (F v) (G v)) 96 q).2 from if_pos (by omega)]
          by_cases cl : max (F q) (G q) < (pz_arg (fun v => max (F v) (G v)) 96 q).2
          · rw [if_neg (nI_ge cl (by omega)), if_pos cl, pz_succ, show pn_o (q, max (F q) (G q)).1 20 = nI q from if_pos (by show q ≤ 20; omega)]
          · rw [if_pos (nI_le (by omega) (by omega)), if_neg cl, pz_succ, show pn_o (pz_arg (fun v => max (F v) (G v)) 96 q).1 20 = nI (pz_arg (fun v => max (F v) (G v)) 96 q).1 from if_pos (by omega)]
      · rw [show pn_o (max (F q) (G q)) 95 = (-1 : Int32) from if_neg c9, if_pos rfl, if_neg (show ¬ max (F q) (G q) < (pz_arg (fun v => max (F v) (G v)) 96 q).2 by omega), pz_succ])
    subst hp
    refine Eq.mpr (congrArg (fun o => am_RI o _) e) ?_
    rw [e19_85, k.R, r1, am_gr_n, pc_lch hL, show am_I g4 L 12 = nI (pw_n d 1) from hd.1 1 (by omega), if_pos (nI_le (Nat.le_refl _) (by omega))]
    rcases pz_arg_or (fun v => max (F v) (G v)) 96 (pw_n d 1) with e0 | ⟨o1, o2, o3⟩
    · rw [e0, if_pos (show pn_o (1000, 96).1 20 = (-1 : Int32) from rfl)]
      refine ⟨_, _, rfl, ?_, fin⟩
      split <;> rfl
    · have hfb : (pz_arg (fun v => max (F v) (G v)) 96 (pw_n d 1)).2 = max (F (pz_arg (fun v => max (F v) (G v)) 96 (pw_n d 1)).1) (G (pz_arg (fun v => max (F v) (G v)) 96 (pw_n d 1)).1) := o2
      rw [show pn_o (pz_arg (fun v => max (F v) (G v)) 96 (pw_n d 1)).1 20 = nI (pz_arg (fun v => max (F v) (G v)) 96 (pw_n d 1)).1 from if_pos (by omega), if_neg (pz_neg1 (by omega))]
      by_cases cf : f = 0
      · rw [if_pos (show nI f = 0 by rw [cf]; rfl), if_pos cf]
        exact ⟨_, _, rfl, rfl, fin⟩
      · rw [if_neg (nI_ne0 (by omega) (by omega)), if_neg cf, s174 (F := F) (G := G) (by omega) (h40 _ o1) (hf _ o1) (F96 _) (G96 _), am_bI_ok, ← hfb]
        exact ⟨_, _, rfl, rfl, fin⟩
  · show am_RI (am_run am_M 258 [.ref 60, .int (nI i), .int (nI j), .int (nI n), .int (nI f)] h) _
    obtain ⟨hm0, ht0, hf0⟩ := m_start hm
    rw [e258]
    generalize am_sI h 60 0 (nI 0) = g at hm0 ht0 hf0 ⊢
    dsimp only
    have hm1 := hm0
    obtain ⟨m1, m2, m3, m4, m5, m6, m7, m8, m9, m10, m11, m12⟩ := hm1
    rw [s236_t m1 ho ht0 hx, am_bI_ok, if_neg (by decide), s236_t m1 ho ht0 hy, am_bI_ok, if_neg (by decide), s237_t ht0 hb (by omega), am_bI_ok, if_neg (by decide)]
    rw [if_neg hne, s180_t (Nat.zero_le _) (show n ≤ 23 by omega) (by omega), am_bI_ok, if_neg (by decide), e258_52, s179_t ht0, am_bI_ok, if_neg (by decide)]
    have hwm : wk_m g d S := ⟨m1, m2, m10⟩
    refine pz_VI (s251F (r := 91) (Or.inl rfl) hwm ho hS.1 (by omega) hx hz hF) fun g1 hg => ?_
    obtain ⟨k1, hf1⟩ := hg
    refine pz_VI (s251F (r := 92) (Or.inr rfl) (hwm.kp (Or.inl rfl) k1) ho hS.1 (by omega) hy hz hG) fun g2 hg => ?_
    obtain ⟨k2, hf2⟩ := hg
    have kM : am_kp ps_M g g2 := (k1.up fun i k h => ps_wM (Or.inl rfl) h).trans (k2.up fun i k h => ps_wM (Or.inr rfl) h)
    have ht2 : am_I g2 60 0 = nI 0 := (k2.get 60 0 (ps_w_f (ps_m_f (by omega)) (by omega))).trans ((k1.get 60 0 (ps_w_f (ps_m_f (by omega)) (by omega))).trans ht0)
    have hd := ((hwm.kp (Or.inl rfl) k1).kp (Or.inr rfl) k2).1
    have h91 : ∀ v, v < pw_n d 1 → am_I g2 91 v = nI (wk_9 (F v)) := fun v hv => by rw [k2.get _ _ (ps_w_f (ps_m_f (by omega)) (by omega))]; exact hf1 v hv
    obtain ⟨g3, e, hp⟩ := am_for0 (fun k (g' : am_H) => am_vn am_M 5 258 92 [some (.ref 60), none, none, none, some (.int (nI f)), some (.int (pn_o (pz_arg (fun v => max (F v) (G v)) 96 k).1 20)), some (.int (nI (wk_9 (pz_arg (fun v => max (F v) (G v)) 96 k).2))), some (.int (nI k)), none] [] g') (fun _ g' => g' = g2) (pw_n d 1) g2 rfl (fun q g' hq hg => by
      subst hg
      have fq := F96 q
      have gq := G96 q
      have hal := pz_arg_le (fun v => max (F v) (G v)) 96 q
      have hF9 := wk_9_le (F q)
      have hG9 := wk_9_le (G q)
      have hA9 := wk_9_le (pz_arg (fun v => max (F v) (G v)) 96 q).2
      refine ⟨g', ?_, rfl⟩
      rw [e258_92, show am_I g' 60 2 = nI (pw_n d 1) from hd.1 1 (by omega), if_neg (nI_ge hq (by omega)), ml_91 (by omega), ml_92 (by omega), h91 q hq, hf2 q hq, pz_arg]
      have go : am_vn am_M 5 258 135 [some (.ref 60), none, none, none, some (.int (nI f)), some (.int (pn_o (pz_arg (fun v => max (F v) (G v)) 96 q).1 20)), some (.int (nI (wk_9 (pz_arg (fun v => max (F v) (G v)) 96 q).2))), some (.int (nI q)), none] [(.int (nI (wk_9 (max (F q) (G q)))))] g' = am_vn am_M 5 258 92 [some (.ref 60), none, none, none, some (.int (nI f)), some (.int (pn_o (if max (F q) (G q) < (pz_arg (fun v => max (F v) (G v)) 96 q).2 then (q, max (F q) (G q)) else pz_arg (fun v => max (F v) (G v)) 96 q).1 20)), some (.int (nI (wk_9 (if max (F q) (G q) < (pz_arg (fun v => max (F v) (G v)) 96 q).2 then (q, max (F q) (G q)) else pz_arg (fun v => max (F v) (G v)) 96 q).2))), some (.int (nI (q + 1))), none] [] g' := by
        have hH9 := wk_9_le (max (F q) (G q))
        have hlt := wk_9_lt (a := max (F q) (G q)) (b := (pz_arg (fun v => max (F v) (G v)) 96 q).2) (by omega) hal
        rw [e258_135]
        by_cases cl : max (F q) (G q) < (pz_arg (fun v => max (F v) (G v)) 96 q).2
        · rw [if_pos (nI_lt (hlt.mpr cl) (by omega)), if_pos cl, pz_succ, show pn_o (q, max (F q) (G q)).1 20 = nI q from if_pos (by show q ≤ 20; omega)]
        · rw [if_neg (nI_nlt (show wk_9 (pz_arg (fun v => max (F v) (G v)) 96 q).2 ≤ wk_9 (max (F q) (G q)) by omega) (by omega)), if_neg cl, pz_succ]
      by_cases cx : wk_9 (F q) ≤ wk_9 (G q)
      · have em : wk_9 (max (F q) (G q)) = wk_9 (G q) := by
          have := wk_9_lt (a := G q) (b := F q) gq fq
          rw [show max (F q) (G q) = G q by omega]
        rw [em] at go
        rw [if_pos (nI_le cx (by omega)), ml_92 (by omega), hf2 q hq]
        exact go
      · have em : wk_9 (max (F q) (G q)) = wk_9 (F q) := by
          have := wk_9_lt (a := G q) (b := F q) gq fq
          rw [show max (F q) (G q) = F q by omega]
        rw [em] at go
        rw [if_neg (nI_ge (by omega) (by omega)), ml_91 (by omega), h91 q hq]
        exact go)
    subst hp
    refine Eq.mpr (congrArg (fun o => am_RI o _) e) ?_
    have hal := pz_arg_le (fun v => max (F v) (G v)) 96 (pw_n d 1)
    rw [e258_92, show am_I g3 60 2 = nI (pw_n d 1) from hd.1 1 (by omega), if_pos (nI_le (Nat.le_refl _) (by omega))]
    by_cases cf : f = 0
    · rw [if_pos (show nI f = 0 by rw [cf]; rfl), if_pos cf]
      exact ⟨_, _, rfl, am_fin_m hf0 hm0 kM ht2 (fun _ => rfl)⟩
    · rw [if_neg (nI_ne0 (by omega) (by omega)), if_neg cf, s252 hal, am_bI_ok]
      exact ⟨_, _, rfl, am_fin_m hf0 hm0 kM ht2 (fun _ => rfl)⟩
