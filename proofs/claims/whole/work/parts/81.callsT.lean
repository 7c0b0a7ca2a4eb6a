/-! CALLS: tracks -/
theorem ps_95M {i k : Nat} (h : ps_M i k = false) : ps_95 i k = false := by
  cases c : ps_95 i k with
  | false => rfl
  | true => have e : i = 95 := of_decide_eq_true c; rw [ps_M_t (by omega)] at h; exact absurd h (by decide)
theorem call_suspects {w : pw_W} (hw : pw_wf w) : am_AG 0 (fun e => e) w (fun h => am_run am_M 31 [.ref 0] h) (fun h => am_run am_M 288 [.ref 60] h) := by
  obtain ⟨d, S, l, t, im, tp, nb, fp, rf⟩ := w
  have hw0 := hw
  obtain ⟨ho, hS, ha, ht, hi, hnb, htp⟩ := hw
  have h6 := ho.1.2.2.2.1
  have h4 := ho.1.1
  have hd9 := hS.2.1
  have h9 := ho.1.2.1
  have t6 := ht.1
  have hto := pt_ok_g ht
  refine ⟨0, (nI (pb (pt_su d (pt_g t) t.length) (pw_n d 3))), (d, S, l, t, im, tp, nb, fp, rf), hw0, ⟨by omega, fun hh => by first | exact absurd rfl hh | rfl⟩, fun h hc => ?_, fun h hm => ?_⟩
  · have hc0 := hc
    obtain ⟨⟨L, hL, r1, r2, c1⟩, c2, c3, c4, c5, c6, c7, c8, c9⟩ := hc
    refine am_CO_0 ?_
    show am_RI (am_run am_M 31 [.ref 0] h) _
    rw [e31]
    have hT : pt_C h 24 t.length (pt_g t) := c4
    rw [← e31, s31 hL r1 c1 ho hT hto]
    exact ⟨_, _, rfl, rfl, hc0, am_fc.refl _⟩
  · show am_RI (am_run am_M 288 [.ref 60] h) _
    obtain ⟨hm0, ht0, hf0⟩ := m_start hm
    rw [e288]
    generalize am_sI h 60 0 (nI 0) = g at hm0 ht0 hf0 ⊢
    dsimp only
    have hm1 := hm0
    obtain ⟨m1, m2, m3, m4, m5, m6, m7, m8, m9, m10, m11, m12⟩ := hm1
    have hT : pt_M g t.length (pt_g t) := m4
    refine pz_II (s287 m1 ho hT hto) fun v g2 hv => ?_
    obtain ⟨rfl, k⟩ := hv
    exact ⟨_, _, rfl, am_fin_m hf0 hm0 (k.up fun i k => ps_95M) ((k.get 60 0 (decide_eq_false (by omega))).trans ht0) (fun _ => rfl)⟩
theorem call_alibi {w : pw_W} (hw : pw_wf w) (x : Int32) : am_AG 1 (fun e => e) w (fun h => am_run am_M 32 [.ref 0, .int x] h) (fun h => am_run am_M 289 [.ref 60, .int x] h) := by
  obtain ⟨d, S, l, t, im, tp, nb, fp, rf⟩ := w
  have hw0 := hw
  obtain ⟨ho, hS, ha, ht, hi, hnb, htp⟩ := hw
  rcases Classical.em (pz_b x (pw_n d 3)) with hx | hx
  rotate_left
  · refine ⟨1, 0, (d, S, l, t, im, tp, nb, fp, rf), hw0, ⟨by omega, fun hh => by first | exact absurd rfl hh | rfl⟩, fun h hc => ?_, fun h hm => ?_⟩
    · have hc0 := hc
      obtain ⟨⟨L, hL, r1, r2, c1⟩, c2, c3, c4, c5, c6, c7, c8, c9⟩ := hc
      refine am_CO_x (by decide) ?_
      show am_run am_M 32 [.ref 0, .int x] h = _
      rw [e32, c62_f hL r1 c1 ho hx]
      try rfl
    · show am_RI (am_run am_M 289 [.ref 60, .int x] h) _
      obtain ⟨hm0, ht0, hf0⟩ := m_start hm
      rw [e289]
      generalize am_sI h 60 0 (nI 0) = g at hm0 ht0 hf0 ⊢
      dsimp only
      have hm1 := hm0
      obtain ⟨m1, m2, m3, m4, m5, m6, m7, m8, m9, m10, m11, m12⟩ := hm1
      rw [s236_f m1 ho ht0 hx, am_bI_ok, if_pos (by decide)]
      exact ⟨_, _, rfl, am_fin_x hf0 hm0 (by decide)⟩
  obtain ⟨i, hx, rfl⟩ := hx
  have h6 := ho.1.2.2.2.1
  have h4 := ho.1.1
  have hd9 := hS.2.1
  have h9 := ho.1.2.1
  have t6 := ht.1
  have hto := pt_ok_g ht
  refine ⟨0, (pt_al d (pt_g t) t.length i), (d, S, l, t, im, tp, nb, fp, rf), hw0, ⟨by omega, fun hh => by first | exact absurd rfl hh | rfl⟩, fun h hc => ?_, fun h hm => ?_⟩
  · have hc0 := hc
    obtain ⟨⟨L, hL, r1, r2, c1⟩, c2, c3, c4, c5, c6, c7, c8, c9⟩ := hc
    refine am_CO_0 ?_
    show am_RI (am_run am_M 32 [.ref 0, .int (nI i)] h) _
    rw [e32, c62_t hL r1 c1 ho hx, am_bV_ok]
    have hT : pt_C h 24 t.length (pt_g t) := c4
    rw [r1, am_gr_n, s162 hL c1 ho hT hto hx, am_bI_ok]
    exact ⟨_, _, rfl, rfl, hc0, am_fc.refl _⟩
  · show am_RI (am_run am_M 289 [.ref 60, .int (nI i)] h) _
    obtain ⟨hm0, ht0, hf0⟩ := m_start hm
    rw [e289]
    generalize am_sI h 60 0 (nI 0) = g at hm0 ht0 hf0 ⊢
    dsimp only
    have hm1 := hm0
    obtain ⟨m1, m2, m3, m4, m5, m6, m7, m8, m9, m10, m11, m12⟩ := hm1
    rw [s236_t m1 ho ht0 hx, am_bI_ok, if_neg (by decide)]
    have hT : pt_M g t.length (pt_g t) := m4
    refine pz_VI (s285 hT hto) fun g2 hg2 => ?_
    obtain ⟨k, o, hO, hr⟩ := hg2
    rw [s286 (m1.kp k (fun i k hi => decide_eq_false (by omega))) ho (hT.kp k) hto hO hr hx, am_bI_ok]
    exact ⟨_, _, rfl, am_fin_m hf0 hm0 (k.up fun i k => ps_95M) ((k.get 60 0 (decide_eq_false (by omega))).trans ht0) (fun _ => rfl)⟩
theorem pt_if2 {c : Prop} [Decidable c] (a b : Int32) (g : am_H) : (if c then some ((.inl (some (.int a)), g) : am_Q) else some (.inl (some (.int b)), g)) = some (.inl (some (.int (if c then a else b))), g) := by split <;> rfl
theorem call_look {w : pw_W} (hw : pw_wf w) (x : Int32) : am_AG 1 (fun _ => 2) w (fun h => am_run am_M 33 [.ref 0, .int x] h) (fun h => am_run am_M 290 [.ref 60, .int x] h) := by
  obtain ⟨d, S, l, t, im, tp, nb, fp, rf⟩ := w
  have hw0 := hw
  obtain ⟨ho, hS, ha, ht, hi, hnb, htp⟩ := hw
  rcases Classical.em (pz_b x 72) with hx | hx
  rotate_left
  · refine ⟨1, 0, (d, S, l, t, im, tp, nb, fp, rf), hw0, ⟨by omega, fun hh => by first | exact absurd rfl hh | rfl⟩, fun h hc => ?_, fun h hm => ?_⟩
    · have hc0 := hc
      obtain ⟨⟨L, hL, r1, r2, c1⟩, c2, c3, c4, c5, c6, c7, c8, c9⟩ := hc
      refine am_CO_x (by decide) ?_
      show am_run am_M 33 [.ref 0, .int x] h = _
      rw [e33, c65_f (m := 71) (by omega) hx]
      try rfl
    · show am_RI (am_run am_M 290 [.ref 60, .int x] h) _
      obtain ⟨hm0, ht0, hf0⟩ := m_start hm
      rw [e290]
      generalize am_sI h 60 0 (nI 0) = g at hm0 ht0 hf0 ⊢
      dsimp only
      have hm1 := hm0
      obtain ⟨m1, m2, m3, m4, m5, m6, m7, m8, m9, m10, m11, m12⟩ := hm1
      rw [s180_f x (fun h => hx (pz_bw.mp h)) (by omega) (by omega), am_bI_ok, s179_f ht0 (e := 1) (by omega), am_bI_ok, if_pos (by decide)]
      exact ⟨_, _, rfl, am_fin_x hf0 hm0 (by decide)⟩
  obtain ⟨j, hx, rfl⟩ := hx
  have h6 := ho.1.2.2.2.1
  have h4 := ho.1.1
  have hd9 := hS.2.1
  have h9 := ho.1.2.1
  have t6 := ht.1
  have hto := pt_ok_g ht
  refine ⟨0, (pn_o (pz_arg (pt_f d (pt_g t) t.length j) 1000 (pw_n d 1)).1 20), (d, S, l, t, im, tp, nb, fp, rf), hw0, ⟨by omega, fun hh => by first | exact absurd rfl hh | rfl⟩, fun h hc => ?_, fun h hm => ?_⟩
  · have hc0 := hc
    obtain ⟨⟨L, hL, r1, r2, c1⟩, c2, c3, c4, c5, c6, c7, c8, c9⟩ := hc
    refine am_CO_0 ?_
    show am_RI (am_run am_M 33 [.ref 0, .int (nI j)] h) _
    rw [e33, c65_t (m := 71) (by omega) hx, am_bV_ok]
    have hT : pt_C h 24 t.length (pt_g t) := c4
    obtain ⟨g, e, hp, h24⟩ := am_for0 (fun k (g : am_H) => am_vn am_M 5 33 13 [some (.ref 0), some (.int (nI j)), some (.int (pn_o (pz_arg (pt_f d (pt_g t) t.length j) 1000 k).1 20)), some (.int (nI (if (pz_arg (pt_f d (pt_g t) t.length j) 1000 k).1 = 1000 then 0 else (pz_arg (pt_f d (pt_g t) t.length j) 1000 k).2))), some (.int (nI k)), none] [] g) (fun _ g => am_kp (ps_T t.length) h g ∧ am_I g 24 2 = nI t.length) (pw_n d 1) h ⟨am_kp.refl _ _, hT.1⟩ (fun k g hk hg => by
      obtain ⟨kp, h24⟩ := hg
      have hd : pc_L g L d := c1.fr fun i hi => funext fun j => kp.get i j (decide_eq_false (by unfold pc_rl at hi; unfold pc_lo at hL; omega))
      have hTg : pt_C g 24 t.length (pt_g t) := ⟨h24, fun j hj => ⟨(kp.get _ _ (decide_eq_false (by omega))).trans (hT.2 j hj).1, (kp.get _ _ (decide_eq_false (by omega))).trans (hT.2 j hj).2⟩⟩
      obtain ⟨v, g2, e2, hv, k2, h24'⟩ := s51 hL (by rw [kp.R]; exact r1) hd ho hTg hto (by omega) hk (show j ≤ 71 by omega)
      have hfl : pt_f d (pt_g t) t.length j k < 13 := by
        have l1 := pz_cnt_le (pt_su d (pt_g t) t.length) (pw_n d 3)
        have l2 := pz_cnt_le (pt_su d (pt_ext t.length (pt_g t) (k, j)) (t.length + 1)) (pw_n d 3)
        exact pt_ab_le (by omega) (by omega)
      refine ⟨g2, ?_, kp.trans k2, h24'⟩
      try dsimp only
      rw [e33_13, kp.R, r1, am_gr_n, pc_lch hL, show am_I g L 12 = nI (pw_n d 1) from hd.1 1 (by omega), if_neg (nI_ge hk (by omega)), e2, am_bI_ok, hv, pz_arg]
      have hkn : k ≠ 1000 := by omega
      have enew : ∀ x : Nat, pn_o (k, x).1 20 = nI k := fun x => if_pos (show k ≤ 20 by omega)
      rcases pz_arg_or (pt_f d (pt_g t) t.length j) 1000 k with e0 | ⟨o1, o2, o3⟩
      · rw [e0, if_pos (show pn_o (1000, 1000).1 20 = (-1 : Int32) from rfl), if_pos (show pt_f d (pt_g t) t.length j k < (1000, 1000).2 from by show _ < 1000; omega), pz_succ, enew, if_neg hkn]
      · rw [show pn_o (pz_arg (pt_f d (pt_g t) t.length j) 1000 k).1 20 = nI (pz_arg (pt_f d (pt_g t) t.length j) 1000 k).1 from if_pos (by omega), if_neg (pz_neg1 (by omega)), if_neg (show ¬ (pz_arg (pt_f d (pt_g t) t.length j) 1000 k).1 = 1000 by omega)]
        by_cases cl : pt_f d (pt_g t) t.length j k < (pz_arg (pt_f d (pt_g t) t.length j) 1000 k).2
        · rw [if_neg (nI_ge cl (by omega)), if_pos cl, pz_succ, enew, if_neg hkn]
        · rw [if_pos (nI_le (by omega) (by omega)), if_neg cl, pz_succ, show pn_o (pz_arg (pt_f d (pt_g t) t.length j) 1000 k).1 20 = nI (pz_arg (pt_f d (pt_g t) t.length j) 1000 k).1 from if_pos (by omega), if_neg (show ¬ (pz_arg (pt_f d (pt_g t) t.length j) 1000 k).1 = 1000 by omega)])
    refine Eq.mpr (congrArg (fun o => am_RI o _) e) ?_
    have hd : pc_L g L d := c1.fr fun i hi => funext fun j => hp.get i j (decide_eq_false (by unfold pc_rl at hi; unfold pc_lo at hL; omega))
    have ee : ∀ i, ¬ (i = 24 ∨ i = 25 ∨ i = 26) → am_I g i = am_I h i := fun i hi => funext fun k => hp.get i k (decide_eq_false (by omega))
    try dsimp only
    rw [e33_13, hp.R, r1, am_gr_n, pc_lch hL, show am_I g L 12 = nI (pw_n d 1) from hd.1 1 (by omega), if_pos (nI_le (Nat.le_refl _) (by omega))]
    refine ⟨_, _, rfl, rfl, hc0.upd hp.R (fun i h1 h2 => ee i (by omega)) (by rw [ee _ (by omega)]) (c2.fr (ee _ (by omega))) (c3.fr (ee _ (by omega)) (ee _ (by omega))) ⟨h24, fun j hj => ⟨(hp.get _ _ (decide_eq_false (by omega))).trans (hT.2 j hj).1, (hp.get _ _ (decide_eq_false (by omega))).trans (hT.2 j hj).2⟩⟩ (c5.fr (by rw [ee _ (by omega)]) (fun j h1 h2 => ee j (by omega))) ?_ (fun j hj => ?_) (fun j hj => ?_), hp.fc fun i k hi => decide_eq_false (by omega)⟩
    · rw [ee _ (by omega)]; exact c6
    · rw [ee _ (by omega)]; exact c7 j hj
    · rw [ee _ (by omega)]; exact c9 j hj
  · show am_RI (am_run am_M 290 [.ref 60, .int (nI j)] h) _
    obtain ⟨hm0, ht0, hf0⟩ := m_start hm
    rw [e290]
    generalize am_sI h 60 0 (nI 0) = g at hm0 ht0 hf0 ⊢
    dsimp only
    have hm1 := hm0
    obtain ⟨m1, m2, m3, m4, m5, m6, m7, m8, m9, m10, m11, m12⟩ := hm1
    rw [s180_t (Nat.zero_le _) (show j ≤ 71 by omega) (by omega), am_bI_ok, s179_t ht0, am_bI_ok, if_neg (by decide)]
    have hT : pt_M g t.length (pt_g t) := m4
    refine pz_II (s287 m1 ho hT hto) fun v g1 hv => ?_
    obtain ⟨rfl, k1⟩ := hv
    have pl : ∀ f : Nat → Bool, pb f (pw_n d 3) < 2 ^ 31 := fun f => Nat.lt_of_lt_of_le (pb_lt f _) (Nat.pow_le_pow_right (by omega) (by omega))
    have hT1 := hT.kp k1
    rw [s184 (pl _), am_bI_ok, pz_cnt_pb _ (show pw_n d 3 ≤ 9 by omega), hT1.1, pk_mul, nI_add, ms_94 (by omega)]
    try dsimp only
    rw [am_I_s1 _ _ _ _ (show 60 ≠ 94 by omega), hT1.1, pz_succ]
    have kU : am_kp (ps_U t.length) g (am_sI (am_sI g1 94 (2 * t.length + 1) (nI j)) 60 70 (nI (t.length + 1))) := ((k1.up fun i k hs => decide_eq_false (fun e => by have := of_decide_eq_false hs; omega)).sI _ (decide_eq_true (by omega))).sI _ (decide_eq_true (by omega))
    have hj1 : am_I (am_sI (am_sI g1 94 (2 * t.length + 1) (nI j)) 60 70 (nI (t.length + 1))) 94 (2 * t.length + 1) = nI j := by rw [am_I_s1 _ _ _ _ (by omega), am_I_s]
    have hn1 : am_I (am_sI (am_sI g1 94 (2 * t.length + 1) (nI j)) 60 70 (nI (t.length + 1))) 60 70 = nI (t.length + 1) := am_I_s _ _ _ _
    generalize am_sI (am_sI g1 94 (2 * t.length + 1) (nI j)) 60 70 (nI (t.length + 1)) = g2 at kU hj1 hn1 ⊢
    obtain ⟨g3, e, hp, q1, q2⟩ := am_for0 (fun k (g' : am_H) => am_vn am_M 2 290 62 [some (.ref 60), none, some (.int (nI (pz_cnt (pt_su d (pt_g t) t.length) (pw_n d 3)))), some (.int (pn_o (pz_arg (pt_f d (pt_g t) t.length j) 1000 k).1 20)), some (.int (nI (if (pz_arg (pt_f d (pt_g t) t.length j) 1000 k).1 = 1000 then 0 else (pz_arg (pt_f d (pt_g t) t.length j) 1000 k).2))), some (.int (nI k)), none, none] [] g') (fun _ g' => am_kp (ps_U t.length) g g' ∧ am_I g' 94 (2 * t.length + 1) = nI j ∧ am_I g' 60 70 = nI (t.length + 1)) (pw_n d 1) g2 ⟨kU, hj1, hn1⟩ (fun k g' hk hg => by
      obtain ⟨kp, hj1, hn1⟩ := hg
      have hd := m1.kU kp
      have hfl : pt_f d (pt_g t) t.length j k < 13 := by
        have l1 := pz_cnt_le (pt_su d (pt_g t) t.length) (pw_n d 3)
        have l2 := pz_cnt_le (pt_su d (pt_ext t.length (pt_g t) (k, j)) (t.length + 1)) (pw_n d 3)
        exact pt_ab_le (by omega) (by omega)
      have kp2 : am_kp (ps_U t.length) g (am_sI g' 94 (2 * t.length) (nI k)) := kp.sI _ (decide_eq_true (by omega))
      have hT2 : pt_M (am_sI g' 94 (2 * t.length) (nI k)) (t.length + 1) (pt_ext t.length (pt_g t) (k, j)) := by
        refine ⟨by rw [am_I_s1 _ _ _ _ (by omega)]; exact hn1, fun i hi => ?_⟩
        unfold pt_ext
        by_cases ei : i = t.length
        · rw [if_pos ei, ei]
          exact ⟨am_I_s _ _ _ _, by rw [am_I_s2 _ _ _ _ (by omega)]; exact hj1⟩
        · rw [if_neg ei]
          exact ⟨(kp2.get _ _ (decide_eq_false (by omega))).trans (hT.2 i (by omega)).1, (kp2.get _ _ (decide_eq_false (by omega))).trans (hT.2 i (by omega)).2⟩
      try dsimp only
      rw [e290_62, show am_I g' 60 2 = nI (pw_n d 1) from hd.1 1 (by omega), if_neg (nI_ge hk (by omega)), hn1, pk_mul, pk_sub (show 2 ≤ 2 * (t.length + 1) by omega), show 2 * (t.length + 1) - 2 = 2 * t.length by omega, ms_94 (by omega)]
      obtain ⟨v, g4, e4, hv, k4⟩ := s287 (m1.kU kp2) ho hT2 (pt_ok_ext hto (by omega) (x := (k, j)) ⟨hk, show j ≤ 71 by omega⟩)
      have k5 : am_kp (ps_U t.length) g g4 := kp2.trans (k4.up fun i k hs => decide_eq_false (fun e => by have := of_decide_eq_false hs; omega))
      have l1 := pz_cnt_le (pt_su d (pt_g t) t.length) (pw_n d 3)
      have l2 := pz_cnt_le (pt_su d (pt_ext t.length (pt_g t) (k, j)) (t.length + 1)) (pw_n d 3)
      refine ⟨g4, ?_, k5, ?_, ?_⟩
      · rw [e4, am_bI_ok, hv, s184 (pl _), am_bI_ok, pz_cnt_pb _ (show pw_n d 3 ≤ 9 by omega), e181]
        have hab := pt_ab_m _ (show pz_cnt (pt_su d (pt_g t) t.length) (pw_n d 3) < 7 by omega) _ (show pz_cnt (pt_su d (pt_ext t.length (pt_g t) (k, j)) (t.length + 1)) (pw_n d 3) < 7 by omega)
        rw [pt_if2, hab, am_bI_ok, pz_arg]
        have hkn : k ≠ 1000 := by omega
        have enew : ∀ x : Nat, pn_o (k, x).1 20 = nI k := fun x => if_pos (show k ≤ 20 by omega)
        have hff : pt_ab (pz_cnt (pt_su d (pt_g t) t.length) (pw_n d 3)) (pz_cnt (pt_su d (pt_ext t.length (pt_g t) (k, j)) (t.length + 1)) (pw_n d 3)) = pt_f d (pt_g t) t.length j k := rfl
        rw [hff]
        rcases pz_arg_or (pt_f d (pt_g t) t.length j) 1000 k with e0 | ⟨o1, o2, o3⟩
        · rw [e0, if_pos (show pn_o (1000, 1000).1 20 = (-1 : Int32) from rfl), if_pos (show pt_f d (pt_g t) t.length j k < (1000, 1000).2 from by show _ < 1000; omega), pz_succ, enew, if_neg hkn]
        · rw [show pn_o (pz_arg (pt_f d (pt_g t) t.length j) 1000 k).1 20 = nI (pz_arg (pt_f d (pt_g t) t.length j) 1000 k).1 from if_pos (by omega), if_neg (pz_neg1 (by omega)), if_neg (show ¬ (pz_arg (pt_f d (pt_g t) t.length j) 1000 k).1 = 1000 by omega)]
          by_cases cl : pt_f d (pt_g t) t.length j k < (pz_arg (pt_f d (pt_g t) t.length j) 1000 k).2
          · rw [if_pos (nI_lt cl (by omega)), if_pos cl, pz_succ, enew, if_neg hkn]
          · rw [if_neg (nI_nlt (by omega) (by omega)), if_neg cl, pz_succ, show pn_o (pz_arg (pt_f d (pt_g t) t.length j) 1000 k).1 20 = nI (pz_arg (pt_f d (pt_g t) t.length j) 1000 k).1 from if_pos (by omega), if_neg (show ¬ (pz_arg (pt_f d (pt_g t) t.length j) 1000 k).1 = 1000 by omega)]
      · rw [k4.get _ _ (decide_eq_false (by omega)), am_I_s2 _ _ _ _ (by omega)]; exact hj1
      · rw [k4.get _ _ (decide_eq_false (by omega)), am_I_s1 _ _ _ _ (by omega)]; exact hn1)
    refine Eq.mpr (congrArg (fun o => am_RI o _) e) ?_
    have hd := m1.kU hp
    try dsimp only
    rw [e290_62, show am_I g3 60 2 = nI (pw_n d 1) from hd.1 1 (by omega), if_pos (nI_le (Nat.le_refl _) (by omega))]
    try dsimp only
    rw [q2, pk_sub (show 1 ≤ t.length + 1 by omega), Nat.add_sub_cancel]
    have kp3 : am_kp (ps_U t.length) g (am_sI g3 60 70 (nI t.length)) := hp.sI _ (decide_eq_true (by omega))
    have h70 : am_I (am_sI g3 60 70 (nI t.length)) 60 70 = nI t.length := am_I_s _ _ _ _
    generalize am_sI g3 60 70 (nI t.length) = g5 at kp3 h70 ⊢
    have ee : ∀ i, ¬ (i = 60 ∨ i = 94 ∨ i = 95) → am_I g5 i = am_I g i := fun i hi => funext fun k => kp3.get i k (decide_eq_false (by omega))
    have e6 : ∀ k, k ≠ 70 → am_I g5 60 k = am_I g 60 k := fun k hk => kp3.get 60 k (decide_eq_false (by omega))
    refine ⟨_, _, rfl, fun _ => rfl, (e6 0 (by omega)).trans ht0, hm0.upd (fun k _ _ => e6 k (by omega)) (fun i h1 h2 => ee i (by omega)) (fun k _ => e6 k (by omega)) (m2.fr (ee _ (by omega))) (m3.fr (e6 _ (by omega)) (ee _ (by omega))) (hT.kU kp3 h70) (m5.fr (fun k _ => e6 k (by omega)) (fun j h1 h2 => ee j (by omega))) ((e6 _ (by omega)).trans m6) (fun j hj => ?_) (fun j hj => ?_), hf0.trans (kp3.fm fun i k hi => decide_eq_false (by omega))⟩
    · rw [ee _ (by omega)]; exact m7 j hj
    · rw [ee _ (by omega)]; exact m9 j hj
theorem call_track {w : pw_W} (hw : pw_wf w) (x y : Int32) : am_AG 1 (fun e => e) w (fun h => am_run am_M 29 [.ref 0, .int x, .int y] h) (fun h => am_run am_M 283 [.ref 60, .int x, .int y] h) := by
  obtain ⟨d, S, l, t, im, tp, nb, fp, rf⟩ := w
  have hw0 := hw
  obtain ⟨ho, hS, ha, ht, hi, hnb, htp⟩ := hw
  rcases Classical.em (pz_b x (pw_n d 1)) with hx | hx
  rotate_left
  · refine ⟨1, 0, (d, S, l, t, im, tp, nb, fp, rf), hw0, ⟨by omega, fun hh => by first | exact absurd rfl hh | rfl⟩, fun h hc => ?_, fun h hm => ?_⟩
    · have hc0 := hc
      obtain ⟨⟨L, hL, r1, r2, c1⟩, c2, c3, c4, c5, c6, c7, c8, c9⟩ := hc
      refine am_CO_x (by decide) ?_
      show am_run am_M 29 [.ref 0, .int x, .int y] h = _
      rw [e29, c61_f hL r1 c1 ho hx]
      try rfl
    · show am_RI (am_run am_M 283 [.ref 60, .int x, .int y] h) _
      obtain ⟨hm0, ht0, hf0⟩ := m_start hm
      rw [e283]
      generalize am_sI h 60 0 (nI 0) = g at hm0 ht0 hf0 ⊢
      dsimp only
      have hm1 := hm0
      obtain ⟨m1, m2, m3, m4, m5, m6, m7, m8, m9, m10, m11, m12⟩ := hm1
      rw [s235_f m1 ho ht0 hx, am_bI_ok, if_pos (by decide)]
      exact ⟨_, _, rfl, am_fin_x hf0 hm0 (by decide)⟩
  obtain ⟨i, hx, rfl⟩ := hx
  have h6 := ho.1.2.2.2.1
  have h4 := ho.1.1
  have hd9 := hS.2.1
  have h9 := ho.1.2.1
  have t6 := ht.1
  have hto := pt_ok_g ht
  by_cases hl : 6 ≤ t.length
  · refine ⟨0, (-1 : Int32), (d, S, l, t, im, tp, nb, fp, pu rf 2 (rf 2 + 1)), hw0, ⟨by omega, fun hh => by first | exact absurd rfl hh | rfl⟩, fun h hc => ?_, fun h hm => ?_⟩
    · have hc0 := hc
      obtain ⟨⟨L, hL, r1, r2, c1⟩, c2, c3, c4, c5, c6, c7, c8, c9⟩ := hc
      refine am_CO_0 ?_
      show am_RI (am_run am_M 29 [.ref 0, .int (nI i), .int y] h) _
      rw [e29, c61_t hL r1 c1 ho hx, am_bV_ok]
      obtain ⟨g1, e1, f1, f2⟩ := c_refuse hc0 (k := 2) (by omega)
      rw [c4.1, if_pos (nI_le hl (by omega)), e1, am_bI_ok]
      exact ⟨_, _, rfl, rfl, f1, f2⟩
    · show am_RI (am_run am_M 283 [.ref 60, .int (nI i), .int y] h) _
      obtain ⟨hm0, ht0, hf0⟩ := m_start hm
      rw [e283]
      generalize am_sI h 60 0 (nI 0) = g at hm0 ht0 hf0 ⊢
      dsimp only
      have hm1 := hm0
      obtain ⟨m1, m2, m3, m4, m5, m6, m7, m8, m9, m10, m11, m12⟩ := hm1
      rw [s235_t m1 ho ht0 hx, am_bI_ok, if_neg (by decide)]
      obtain ⟨g1, e1, f1, f2, f3⟩ := m_refuse hm0 (k := 2) (by omega)
      rw [m4.1, if_pos (show nI t.length = nI 6 by rw [show t.length = 6 by omega]), e1, am_bI_ok]
      exact ⟨_, _, rfl, fun _ => rfl, f3.trans ht0, f1, hf0.trans f2⟩
  rcases Classical.em (pz_w y 0 71) with hy | hy
  rotate_left
  · refine ⟨0, (-1 : Int32), (d, S, l, t, im, tp, nb, fp, pu rf 2 (rf 2 + 1)), hw0, ⟨by omega, fun hh => by first | exact absurd rfl hh | rfl⟩, fun h hc => ?_, fun h hm => ?_⟩
    · have hc0 := hc
      obtain ⟨⟨L, hL, r1, r2, c1⟩, c2, c3, c4, c5, c6, c7, c8, c9⟩ := hc
      refine am_CO_0 ?_
      show am_RI (am_run am_M 29 [.ref 0, .int (nI i), .int y] h) _
      rw [e29, c61_t hL r1 c1 ho hx, am_bV_ok]
      obtain ⟨g1, e1, f1, f2⟩ := c_refuse hc0 (k := 2) (by omega)
      rw [c4.1, if_neg (nI_ge (show t.length < 6 by omega) (by omega))]
      rcases pz_w_n (by omega) (by omega) hy with c | c
      · rw [if_pos (show y < 0 from c), e1, am_bI_ok]
        exact ⟨_, _, rfl, rfl, f1, f2⟩
      · by_cases c0 : y < 0
        · rw [if_pos c0, e1, am_bI_ok]
          exact ⟨_, _, rfl, rfl, f1, f2⟩
        · rw [if_neg c0, if_neg (show ¬ y ≤ nI 71 from fun h => by rw [Int32.le_iff_toInt_le] at h; rw [Int32.lt_iff_toInt_lt] at c; omega), e1, am_bI_ok]
          exact ⟨_, _, rfl, rfl, f1, f2⟩
    · show am_RI (am_run am_M 283 [.ref 60, .int (nI i), .int y] h) _
      obtain ⟨hm0, ht0, hf0⟩ := m_start hm
      rw [e283]
      generalize am_sI h 60 0 (nI 0) = g at hm0 ht0 hf0 ⊢
      dsimp only
      have hm1 := hm0
      obtain ⟨m1, m2, m3, m4, m5, m6, m7, m8, m9, m10, m11, m12⟩ := hm1
      rw [s235_t m1 ho ht0 hx, am_bI_ok, if_neg (by decide)]
      obtain ⟨g1, e1, f1, f2, f3⟩ := m_refuse hm0 (k := 2) (by omega)
      rw [m4.1, if_neg (show ¬ nI t.length = nI 6 from fun e => by have := (nI_eq (by omega) (by omega)).mp e; omega), s180_f y hy (by omega) (by omega), am_bI_ok, if_pos (by decide), e1, am_bI_ok]
      exact ⟨_, _, rfl, fun _ => rfl, f3.trans ht0, f1, hf0.trans f2⟩
  obtain ⟨v, hv1, hv2, rfl⟩ := hy
  have htn : pw_tok d (t ++ [(i, v)]) := by
    refine ⟨by rw [List.length_append, List.length_singleton]; omega, fun x hx' => ?_⟩
    rcases List.mem_append.mp hx' with h | h
    · exact ht.2 x h
    · rw [List.mem_singleton.mp h]; exact ⟨hx, hv2⟩
  have hln : (t ++ [(i, v)]).length = t.length + 1 := by rw [List.length_append, List.length_singleton]
  refine ⟨0, (nI (t.length + 1)), (d, S, l, t ++ [(i, v)], im, tp, nb, fp, rf), ⟨ho, hS, ha, htn, hi, hnb, htp⟩, ⟨by omega, fun hh => by first | exact absurd rfl hh | rfl⟩, fun h hc => ?_, fun h hm => ?_⟩
  · have hc0 := hc
    obtain ⟨⟨L, hL, r1, r2, c1⟩, c2, c3, c4, c5, c6, c7, c8, c9⟩ := hc
    refine am_CO_0 ?_
    show am_RI (am_run am_M 29 [.ref 0, .int (nI i), .int (nI v)] h) _
    rw [e29, c61_t hL r1 c1 ho hx, am_bV_ok]
    rw [c4.1, if_neg (nI_ge (show t.length < 6 by omega) (by omega)), if_neg (show ¬ nI v < 0 from nI_nlt (Nat.zero_le v) (by omega)), if_pos (nI_le hv2 (by omega)), s159 c4.1 (by omega), am_bV_ok, am_I_s]
    have hT : pt_C h 24 t.length (pt_g t) := c4
    have hT2 := hT.ext (i, v)
    have kp := pt_T_kp h t.length (nI i) (nI v) (nI (t.length + 1))
    dsimp only at hT2
    generalize am_sI (am_sI (am_sI h 25 t.length (nI i)) 26 t.length (nI v)) 24 2 (nI (t.length + 1)) = g at hT2 kp ⊢
    have ee : ∀ i, ¬ (i = 24 ∨ i = 25 ∨ i = 26) → am_I g i = am_I h i := fun i hi => funext fun k => kp.get i k (decide_eq_false (by omega))
    refine ⟨_, _, rfl, rfl, hc0.upd kp.R (fun i h1 h2 => ee i (by omega)) (by rw [ee _ (by omega)]) (c2.fr (ee _ (by omega))) (c3.fr (ee _ (by omega)) (ee _ (by omega))) ⟨by rw [hln]; exact hT2.1, fun j hj => ?_⟩ (c5.fr (by rw [ee _ (by omega)]) (fun j h1 h2 => ee j (by omega))) ?_ (fun j hj => ?_) (fun j hj => ?_), kp.fc fun i k hi => decide_eq_false (by omega)⟩
    · rw [hln] at hj
      rw [pt_g_app t (i, v) hj]; exact hT2.2 j hj
    · rw [ee _ (by omega)]; exact c6
    · rw [ee _ (by omega)]; exact c7 j hj
    · rw [ee _ (by omega)]; exact c9 j hj
  · show am_RI (am_run am_M 283 [.ref 60, .int (nI i), .int (nI v)] h) _
    obtain ⟨hm0, ht0, hf0⟩ := m_start hm
    rw [e283]
    generalize am_sI h 60 0 (nI 0) = g at hm0 ht0 hf0 ⊢
    dsimp only
    have hm1 := hm0
    obtain ⟨m1, m2, m3, m4, m5, m6, m7, m8, m9, m10, m11, m12⟩ := hm1
    rw [s235_t m1 ho ht0 hx, am_bI_ok, if_neg (by decide)]
    have hT : pt_M g t.length (pt_g t) := m4
    have hT2 := hT.ext (i, v)
    rw [m4.1, if_neg (show ¬ nI t.length = nI 6 from fun e => by have := (nI_eq (by omega) (by omega)).mp e; omega), s180_t hv1 hv2 (by omega), am_bI_ok, if_neg (by decide), m4.1, pk_mul, ms_94 (by omega), am_I_s1 _ _ _ _ (show 60 ≠ 94 by omega), m4.1, pk_mul, nI_add, ms_94 (by omega)]
    try dsimp only at hT2 ⊢
    rw [am_I_s1 _ _ _ _ (show 60 ≠ 94 by omega), am_I_s1 _ _ _ _ (show 60 ≠ 94 by omega), m4.1, pz_succ, am_I_s]
    have kp : am_kp (ps_U t.length) g (am_sI (am_sI (am_sI g 94 (2 * t.length) (nI i)) 94 (2 * t.length + 1) (nI v)) 60 70 (nI (t.length + 1))) := (((am_kp.refl _ _).sI _ (decide_eq_true (by omega))).sI _ (decide_eq_true (by omega))).sI _ (decide_eq_true (by omega))
    generalize am_sI (am_sI (am_sI g 94 (2 * t.length) (nI i)) 94 (2 * t.length + 1) (nI v)) 60 70 (nI (t.length + 1)) = g5 at hT2 kp ⊢
    have ee : ∀ i, ¬ (i = 60 ∨ i = 94 ∨ i = 95) → am_I g5 i = am_I g i := fun i hi => funext fun k => kp.get i k (decide_eq_false (by omega))
    have e6 : ∀ k, k ≠ 70 → am_I g5 60 k = am_I g 60 k := fun k hk => kp.get 60 k (decide_eq_false (by omega))
    refine ⟨_, _, rfl, fun _ => rfl, (e6 0 (by omega)).trans ht0, hm0.upd (fun k _ _ => e6 k (by omega)) (fun i h1 h2 => ee i (by omega)) (fun k _ => e6 k (by omega)) (m2.fr (ee _ (by omega))) (m3.fr (e6 _ (by omega)) (ee _ (by omega))) ⟨by rw [hln]; exact hT2.1, fun j hj => ?_⟩ (m5.fr (fun k _ => e6 k (by omega)) (fun j h1 h2 => ee j (by omega))) ((e6 _ (by omega)).trans m6) (fun j hj => ?_) (fun j hj => ?_), hf0.trans (kp.fm fun i k hi => decide_eq_false (by omega))⟩
    · rw [hln] at hj
      rw [pt_g_app t (i, v) hj]; exact hT2.2 j hj
    · rw [ee _ (by omega)]; exact m7 j hj
    · rw [ee _ (by omega)]; exact m9 j hj
