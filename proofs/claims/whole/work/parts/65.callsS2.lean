/-! CALLS: days ahead, again -/
theorem call_fairest {w : pw_W} (hw : pw_wf w) (x : Int32) : am_AG 1 (fun _ => 2) w (fun h => am_run am_M 25 [.ref 0, .int x] h) (fun h => am_run am_M 268 [.ref 60, .int x] h) := by
  obtain ⟨d, S, l, t, im, tp, nb, fp, rf⟩ := w
  have hw0 := hw
  obtain ⟨ho, hS, ha, ht, hi, hnb, htp⟩ := hw
  rcases Classical.em (pz_b x 100) with hx | hx
  rotate_left
  · refine ⟨1, 0, (d, S, l, t, im, tp, nb, fp, rf), hw0, ⟨by omega, fun hh => by first | exact absurd rfl hh | rfl⟩, fun h hc => ?_, fun h hm => ?_⟩
    · have hc0 := hc
      obtain ⟨⟨L, hL, r1, r2, c1⟩, c2, c3, c4, c5, c6, c7, c8, c9⟩ := hc
      refine am_CO_x (by decide) ?_
      show am_run am_M 25 [.ref 0, .int x] h = _
      rw [e25, c65_f (m := 99) (by omega) hx]
      rfl
    · show am_RI (am_run am_M 268 [.ref 60, .int x] h) _
      obtain ⟨hm0, ht0, hf0⟩ := m_start hm
      rw [e268]
      generalize am_sI h 60 0 (nI 0) = g at hm0 ht0 hf0 ⊢
      dsimp only
      have hm1 := hm0
      obtain ⟨m1, m2, m3, m4, m5, m6, m7, m8, m9, m10, m11, m12⟩ := hm1
      rw [s262_f ht0 hx (e := 1) (by omega), am_bI_ok, if_pos (by decide)]
      exact ⟨_, _, rfl, am_fin_x hf0 hm0 (by decide)⟩
  obtain ⟨j, hx, rfl⟩ := hx
  have h6 := ho.1.2.2.2.1
  have h4 := ho.1.1
  have hd9 := hS.2.1
  refine ⟨0, (pn_o (pz_fst (pf_ok d S j) 21) 20), (d, S, l, t, im, tp, nb, fp, rf), hw0, ⟨by omega, fun hh => by first | exact absurd rfl hh | rfl⟩, fun h hc => ?_, fun h hm => ?_⟩
  · have hc0 := hc
    obtain ⟨⟨L, hL, r1, r2, c1⟩, c2, c3, c4, c5, c6, c7, c8, c9⟩ := hc
    refine am_CO_0 ?_
    show am_RI (am_run am_M 25 [.ref 0, .int (nI j)] h) _
    rw [e25, c65_t (m := 99) (by omega) hx, am_bV_ok]
    refine pz_forf (fun k g => am_vn am_M 6 25 8 [some (.ref 0), some (.int (nI j)), some (.int (nI k))] [] g) (fun k g => am_kp ps_Y h g) (pf_ok d S j) 21 (fun v o => am_RI o (fun u g => u = pn_o v 20 ∧ pI_c g (d, S, l, t, im, tp, nb, fp, rf) ∧ am_fc h g)) h (am_kp.refl _ _) (fun g hg => ?_) (fun k g hk hg => ?_)
    · rw [e25_8, if_pos (by decide)]
      exact ⟨_, _, rfl, rfl, am_fin_c hc0 (hg.up (fun i k => ps_YC))⟩
    · have c2g := c2.kp hg (fun k => ps_Y_f (by omega))
      obtain ⟨g2, e2, y2, k2⟩ := s137 (S := S) (h := g) c2g pc_so20 (by omega)
      have y3 : pc_Y (am_sI g2 34 1 (nI k)) S k 1000 0 0 := by
        obtain ⟨a1, a2, a3, a4, a5⟩ := y2
        refine ⟨a1.oth (by omega) _ _, ?_, ?_, ?_, ?_⟩
        · rw [am_I_s]; exact (if_pos (by omega)).symm
        · rw [am_I_s2 _ _ _ _ (by omega)]; exact a3
        · rw [am_I_s2 _ _ _ _ (by omega)]; exact a4
        · rw [am_I_s2 _ _ _ _ (by omega)]; exact a5
      have k3 : am_kp ps_Y h (am_sI g2 34 1 (nI k)) := (hg.trans k2).sI _ (ps_Y_t (by omega))
      obtain ⟨g5, e5, y5, k5⟩ := s138 hL (c1.kp k3 (ps_YL hL)) ho y3 hS.1 (by omega) (n := j) (by omega)
      have k6 := k3.trans k5
      have hT := py_days_T ho k 1000 hS.1 j
      have ow : am_run am_M 147 [.ref 34, .ref 20] g5 = some (.inl (some (.int (nI (if py_owe (py_days d k 1000 S j) S then 1 else 0)))), g5) := s147 y5.1 pc_so20 (c2.kp k6 (fun k => ps_Y_f (by omega))) (fun p hp => ⟨(hT.1.1 p hp).2.2.1, (hS.1.1 p hp).2.2.1⟩)
      have el := py_et_lt ho k 1000 S j
      have ex := e25_8 (nI j) (nI k) g
      rw [if_neg (nI_nlt (by omega) (by omega)), e2, am_bV_ok] at ex
      dsimp only at ex
      rw [k3.R, r1, am_gr_n, e5, am_bV_ok, y5.2.2.2.2] at ex
      unfold pf_ok
      constructor
      · intro hf
        refine ⟨g5, ?_, k6⟩
        by_cases f1 : py_et d k 1000 S j = 0
        · rw [f1, if_pos (by decide), ow, am_bI_ok] at ex
          have f3 : py_owe (py_days d k 1000 S j) S = true := by
            rw [f1] at hf; simpa using hf
          rw [f3, if_neg (by decide), pz_succ] at ex
          exact ex
        · rw [if_neg (nI_ne0 (by omega) (by omega)), pz_succ] at ex
          exact ex
      · intro hf
        rw [Bool.and_eq_true, decide_eq_true_iff, Bool.not_eq_true'] at hf
        rw [hf.1, if_pos (by decide), ow, am_bI_ok, hf.2, if_pos (by decide)] at ex
        rw [ex]
        exact ⟨_, _, rfl, (if_pos (by omega)).symm, am_fin_c hc0 (k6.up (fun i k => ps_YC))⟩
  · show am_RI (am_run am_M 268 [.ref 60, .int (nI j)] h) _
    obtain ⟨hm0, ht0, hf0⟩ := m_start hm
    rw [e268]
    generalize am_sI h 60 0 (nI 0) = g at hm0 ht0 hf0 ⊢
    dsimp only
    have hm1 := hm0
    obtain ⟨m1, m2, m3, m4, m5, m6, m7, m8, m9, m10, m11, m12⟩ := hm1
    rw [s262_t ht0 hx _, am_bI_ok, if_neg (by decide)]
    rw [← pf_down_eq]
    have key := am_for0 (fun k (g : am_H) => am_vn am_M 6 268 24 [some (.ref 60), some (.int (nI j)), some (.int (pn_o (pf_down (pf_ok d S j) k) 20))] [] g) (fun k g' => am_I g' 60 62 = pd_tp (21 - k) ∧ am_kp (fun i c => ps_N i c || decide (i = 60 ∧ c = 62)) g g') 21 (am_sI g 60 62 (nI 20)) ⟨by rw [am_I_s]; rfl, (am_kp.refl _ _).sI _ (by decide)⟩ (fun k g' hk hg => by
      obtain ⟨h62, kp⟩ := hg
      have e62 : am_I g' 60 62 = nI (20 - k) := by rw [h62, pd_tp_p (by omega), show 21 - k - 1 = 20 - k by omega]
      have hmm : pI_m (am_sI g' 60 62 (-1)) (d, S, l, t, im, tp, nb, fp, rf) := hm0.fr fun i c h1 h2 h3 => by
        rw [am_I_sc]
        by_cases e : i = 60 ∧ c = 62
        · rw [if_pos e, e.1, e.2]; exact m11.symm
        · rw [if_neg e]
          refine kp.get i c ?_
          rw [ps_NM h3, decide_eq_false e]; rfl
      obtain ⟨v, g2, e2, hv, k2⟩ := s267 (u := 20 - k) (n := j) rfl rfl hmm hw0 (by rw [e62]; exact (if_pos (by omega)).symm) hx
      have k3 : am_kp (fun i c => ps_N i c || decide (i = 60 ∧ c = 62)) g g2 := kp.trans (k2.up fun i c hc => (Bool.or_eq_false_iff.mp hc).1)
      have e62b : am_I g2 60 62 = nI (20 - k) := by rw [k2.get 60 62 (ps_N_f (by omega))]; exact e62
      have htp1 : nI (20 - k) - nI 1 = pd_tp (21 - (k + 1)) := by
        by_cases c : 20 - k = 0
        · rw [c, show 21 - (k + 1) = 0 by omega]; decide
        · rw [pk_sub (by omega), pd_tp_p (by omega), show 21 - (k + 1) - 1 = 20 - k - 1 by omega]
      have step : ∀ b, am_vn am_M 6 268 47 [some (.ref 60), some (.int (nI j)), none] [(.int b)] g2 = am_vn am_M 6 268 24 [some (.ref 60), some (.int (nI j)), some (.int b)] [] (am_sI g2 60 62 (pd_tp (21 - (k + 1)))) := fun b => by
        rw [e268_47, e62b]
        dsimp only
        rw [htp1]
      refine ⟨am_sI g2 60 62 (pd_tp (21 - (k + 1))), ?_, am_I_s _ _ _ _, k3.sI _ (by decide)⟩
      have hv2 : v = nI (if (pf_ok d S j) (20 - k) then 1 else 0) := hv
      rw [e268_24, e62, if_neg (nI_pos (by omega)), e2, am_bI_ok, hv2, pf_down, step, step]
      cases (pf_ok d S j) (20 - k) with
      | true => rw [if_neg (by decide), if_pos rfl, e62b, show pn_o (20 - k) 20 = nI (20 - k) from if_pos (by omega)]
      | false => rw [if_pos (by decide), if_neg (by decide)])
    obtain ⟨g3, e3, h62, k3⟩ := key
    refine Eq.mpr (congrArg (fun o => am_RI o _) e3) ?_
    rw [e268_24, h62, if_pos (by decide)]
    have hfin : pI_m (am_sI g3 60 62 (-1)) (d, S, l, t, im, tp, nb, fp, rf) := hm0.fr fun i c h1 h2 h3 => by
      rw [am_I_sc]
      by_cases e : i = 60 ∧ c = 62
      · rw [if_pos e, e.1, e.2]; exact m11.symm
      · rw [if_neg e]
        refine k3.get i c ?_
        rw [ps_NM h3, decide_eq_false e]; rfl
    refine ⟨_, _, rfl, fun _ => rfl, ?_, hfin, hf0.trans (am_fm.sI (k3.fm fun i c hi => ?_) (by omega) _ _)⟩
    · rw [am_I_s2 _ _ _ _ (by omega), k3.get 60 0 (by decide)]; exact ht0
    · rw [ps_N_f (by omega), decide_eq_false (by omega)]; rfl
theorem call_needed {w : pw_W} (hw : pw_wf w) (x : Int32) : am_AG 1 (fun _ => 2) w (fun h => am_run am_M 26 [.ref 0, .int x] h) (fun h => am_run am_M 270 [.ref 60, .int x] h) := by
  obtain ⟨d, S, l, t, im, tp, nb, fp, rf⟩ := w
  have hw0 := hw
  obtain ⟨ho, hS, ha, ht, hi, hnb, htp⟩ := hw
  rcases Classical.em (pz_b x 100) with hx | hx
  rotate_left
  · refine ⟨1, 0, (d, S, l, t, im, tp, nb, fp, rf), hw0, ⟨by omega, fun hh => by first | exact absurd rfl hh | rfl⟩, fun h hc => ?_, fun h hm => ?_⟩
    · have hc0 := hc
      obtain ⟨⟨L, hL, r1, r2, c1⟩, c2, c3, c4, c5, c6, c7, c8, c9⟩ := hc
      refine am_CO_x (by decide) ?_
      show am_run am_M 26 [.ref 0, .int x] h = _
      rw [e26, c65_f (m := 99) (by omega) hx]
      rfl
    · show am_RI (am_run am_M 270 [.ref 60, .int x] h) _
      obtain ⟨hm0, ht0, hf0⟩ := m_start hm
      rw [e270]
      generalize am_sI h 60 0 (nI 0) = g at hm0 ht0 hf0 ⊢
      dsimp only
      have hm1 := hm0
      obtain ⟨m1, m2, m3, m4, m5, m6, m7, m8, m9, m10, m11, m12⟩ := hm1
      rw [s262_f ht0 hx (e := 1) (by omega), am_bI_ok, if_pos (by decide)]
      exact ⟨_, _, rfl, am_fin_x hf0 hm0 (by decide)⟩
  obtain ⟨j, hx, rfl⟩ := hx
  have h6 := ho.1.2.2.2.1
  have h4 := ho.1.1
  have hd9 := hS.2.1
  refine ⟨0, (nI (pb (fun p => decide (nI (py_et d 1000 p S j) &&& (nI (py_et d 1000 1000 S j) ^^^ (-1 : Int32)) ≠ 0)) (pw_n d 3))), (d, S, l, t, im, tp, nb, fp, rf), hw0, ⟨by omega, fun hh => by first | exact absurd rfl hh | rfl⟩, fun h hc => ?_, fun h hm => ?_⟩
  · have hc0 := hc
    obtain ⟨⟨L, hL, r1, r2, c1⟩, c2, c3, c4, c5, c6, c7, c8, c9⟩ := hc
    refine am_CO_0 ?_
    show am_RI (am_run am_M 26 [.ref 0, .int (nI j)] h) _
    rw [e26, c65_t (m := 99) (by omega) hx, am_bV_ok]
    refine pz_VI (s137 (S := S) c2 pc_so20 (by omega)) fun g1 hg1 => ?_
    obtain ⟨y1, k1⟩ := hg1
    rw [k1.R, r1, am_gr_n]
    refine pz_VI (s138 hL (c1.kp k1 (ps_YL hL)) ho y1 hS.1 (by have := hS.2.1; omega) (n := j) (by omega)) fun g2 hg2 => ?_
    obtain ⟨y2, k2⟩ := hg2
    have fin := am_fin_c hc0 ((k1.trans k2).up (fun i k => ps_YC))
    rw [y2.2.2.2.2]
    obtain ⟨g, e, hp⟩ := am_for0 (fun k g => am_vn am_M 6 26 42 [some (.ref 0), some (.int (nI j)), some (.int (nI (py_et d 1000 1000 S j))), some (.int (nI (pb (fun p => decide (nI (py_et d 1000 p S j) &&& (nI (py_et d 1000 1000 S j) ^^^ (-1 : Int32)) ≠ 0)) k))), some (.int (nI k))] [] g) (fun k g => am_kp ps_Y h g) (pw_n d 3) g2 (k1.trans k2) (fun k g hk hg => by
      have c2g := c2.kp hg (fun k => ps_Y_f (by omega))
      have c1g := c1.kp hg (ps_YL hL)
      obtain ⟨g3, e3, y3, k3⟩ := s137 (S := S) (h := g) c2g pc_so20 (by omega)
      have y4 : pc_Y (am_sI g3 34 2 (nI k)) S 1000 k 0 0 := by
        obtain ⟨a1, a2, a3, a4, a5⟩ := y3
        refine ⟨a1.oth (by omega) _ _, ?_, ?_, ?_, ?_⟩
        · rw [am_I_s2 _ _ _ _ (by omega)]; exact a2
        · rw [am_I_s]; exact (if_pos (by omega)).symm
        · rw [am_I_s2 _ _ _ _ (by omega)]; exact a4
        · rw [am_I_s2 _ _ _ _ (by omega)]; exact a5
      have k4 : am_kp ps_Y h (am_sI g3 34 2 (nI k)) := (hg.trans k3).sI _ (ps_Y_t (by omega))
      obtain ⟨g5, e5, y5, k5⟩ := s138 hL (c1.kp k4 (ps_YL hL)) ho y4 hS.1 (by omega) (n := j) (by omega)
      refine ⟨g5, ?_, k4.trans k5⟩
      rw [e26_42, hg.R, r1, am_gr_n, pc_lch hL, show am_I g L 14 = nI (pw_n d 3) from c1g.1 3 (by omega), if_neg (nI_ge hk (by omega)), e3, am_bV_ok]
      dsimp only
      rw [k4.R, r1, am_gr_n, e5, am_bV_ok, y5.2.2.2.2, pz_succ, ← pb_step (fun p => decide (nI (py_et d 1000 p S j) &&& (nI (py_et d 1000 1000 S j) ^^^ (-1 : Int32)) ≠ 0)) (show k < 31 by omega)]
      by_cases cc : nI (py_et d 1000 k S j) &&& (nI (py_et d 1000 1000 S j) ^^^ (-1 : Int32)) = 0
      · rw [if_pos cc, decide_eq_false (fun h => h cc), if_neg (by decide), pz_or, Nat.or_zero]
      · rw [if_neg cc, decide_eq_true cc, if_pos rfl])
    refine Eq.mpr (congrArg (fun o => am_RI o _) e) ?_
    rw [e26_42, hp.R, r1, am_gr_n, pc_lch hL, show am_I g L 14 = nI (pw_n d 3) from (c1.kp hp (ps_YL hL)).1 3 (by omega), if_pos (nI_le (Nat.le_refl _) (by omega))]
    exact ⟨_, _, rfl, rfl, am_fin_c hc0 (hp.up (fun i k => ps_YC))⟩
  · show am_RI (am_run am_M 270 [.ref 60, .int (nI j)] h) _
    obtain ⟨hm0, ht0, hf0⟩ := m_start hm
    rw [e270]
    generalize am_sI h 60 0 (nI 0) = g at hm0 ht0 hf0 ⊢
    dsimp only
    have hm1 := hm0
    obtain ⟨m1, m2, m3, m4, m5, m6, m7, m8, m9, m10, m11, m12⟩ := hm1
    rw [s262_t ht0 hx _, am_bI_ok, if_neg (by decide)]
    have hmA : pI_m (am_sI g 60 63 (-1)) (d, S, l, t, im, tp, nb, fp, rf) := hm0.fr fun i c h1 h2 h3 => by
      rw [am_I_sc]
      by_cases e : i = 60 ∧ c = 63
      · rw [if_pos e, e.1, e.2]; exact m12.symm
      · rw [if_neg e]
    refine pz_II (s269 (q := 1000) (n := j) rfl rfl hmA hw0 m12 hx) fun v g1 hv => ?_
    obtain ⟨rfl, k1⟩ := hv
    obtain ⟨g2, e, hp⟩ := am_for0 (fun k g => am_vn am_M 6 270 27 [some (.ref 60), some (.int (nI j)), some (.int (nI (py_et d 1000 1000 S j))), some (.int (nI (pb (fun p => decide (nI (py_et d 1000 p S j) &&& (nI (py_et d 1000 1000 S j) ^^^ (-1 : Int32)) ≠ 0)) k))), some (.int (nI k))] [] g) (fun k g' => am_kp (fun i c => ps_N i c || decide (i = 60 ∧ c = 63)) g g') (pw_n d 3) g1 (k1.up fun i c hc => (Bool.or_eq_false_iff.mp hc).1) (fun k g' hk kp => by
      have k3 : am_kp (fun i c => ps_N i c || decide (i = 60 ∧ c = 63)) g (am_sI g' 60 63 (nI k)) := kp.sI _ (by decide)
      have hmm : pI_m (am_sI (am_sI g' 60 63 (nI k)) 60 63 (-1)) (d, S, l, t, im, tp, nb, fp, rf) := hm0.fr fun i c h1 h2 h3 => by
        rw [am_I_sc]
        by_cases e : i = 60 ∧ c = 63
        · rw [if_pos e, e.1, e.2]; exact m12.symm
        · rw [if_neg e]
          refine k3.get i c ?_
          rw [ps_NM h3, decide_eq_false e]; rfl
      obtain ⟨v, g4, e4, hv, k4⟩ := s269 (q := k) (n := j) rfl rfl hmm hw0 (by rw [am_I_s]; exact (if_pos (by omega)).symm) hx
      have hv2 : v = nI (py_et d 1000 k S j) := hv
      have h14 : am_I g' 60 4 = nI (pw_n d 3) := by
        rw [kp.get 60 4 (by decide)]; exact m1.1 3 (by omega)
      refine ⟨g4, ?_, k3.trans (k4.up fun i c hc => (Bool.or_eq_false_iff.mp hc).1)⟩
      rw [e270_27, h14, if_neg (nI_ge hk (by omega))]
      dsimp only
      rw [e4, am_bI_ok, hv2, pz_succ, ← pb_step (fun p => decide (nI (py_et d 1000 p S j) &&& (nI (py_et d 1000 1000 S j) ^^^ (-1 : Int32)) ≠ 0)) (show k < 31 by omega)]
      by_cases cc : nI (py_et d 1000 k S j) &&& (nI (py_et d 1000 1000 S j) ^^^ (-1 : Int32)) = 0
      · rw [if_pos cc, decide_eq_false (fun h => h cc), if_neg (by decide)]
      · rw [if_neg cc, decide_eq_true cc, if_pos rfl])
    refine Eq.mpr (congrArg (fun o => am_RI o _) e) ?_
    rw [e270_27, show am_I g2 60 4 = nI (pw_n d 3) by rw [hp.get 60 4 (by decide)]; exact m1.1 3 (by omega), if_pos (nI_le (Nat.le_refl _) (by omega))]
    have hfin : pI_m (am_sI g2 60 63 (-1)) (d, S, l, t, im, tp, nb, fp, rf) := hm0.fr fun i c h1 h2 h3 => by
      rw [am_I_sc]
      by_cases e : i = 60 ∧ c = 63
      · rw [if_pos e, e.1, e.2]; exact m12.symm
      · rw [if_neg e]
        refine hp.get i c ?_
        rw [ps_NM h3, decide_eq_false e]; rfl
    refine ⟨_, _, rfl, fun _ => rfl, ?_, hfin, hf0.trans (am_fm.sI (hp.fm fun i c hi => ?_) (by omega) _ _)⟩
    · rw [am_I_s2 _ _ _ _ (by omega), hp.get 60 0 (by decide)]; exact ht0
    · rw [ps_N_f (by omega), decide_eq_false (by omega)]; rfl
theorem call_firstCold {w : pw_W} (hw : pw_wf w) (x : Int32) : am_AG 1 (fun e => e) w (fun h => am_run am_M 40 [.ref 0, .int x] h) (fun h => am_run am_M 278 [.ref 60, .int x] h) := by
  obtain ⟨d, S, l, t, im, tp, nb, fp, rf⟩ := w
  have hw0 := hw
  obtain ⟨ho, hS, ha, ht, hi, hnb, htp⟩ := hw
  rcases Classical.em (pz_b x (1 + 1)) with hx | hx
  rotate_left
  · refine ⟨1, 0, (d, S, l, t, im, tp, nb, fp, rf), hw0, ⟨by omega, fun hh => by first | exact absurd rfl hh | rfl⟩, fun h hc => ?_, fun h hm => ?_⟩
    · have hc0 := hc
      obtain ⟨⟨L, hL, r1, r2, c1⟩, c2, c3, c4, c5, c6, c7, c8, c9⟩ := hc
      refine am_CO_x (by decide) ?_
      show am_run am_M 40 [.ref 0, .int x] h = _
      rw [e40, c64_f (by omega) hx]
      rfl
    · show am_RI (am_run am_M 278 [.ref 60, .int x] h) _
      obtain ⟨hm0, ht0, hf0⟩ := m_start hm
      rw [e278]
      generalize am_sI h 60 0 (nI 0) = g at hm0 ht0 hf0 ⊢
      dsimp only
      have hm1 := hm0
      obtain ⟨m1, m2, m3, m4, m5, m6, m7, m8, m9, m10, m11, m12⟩ := hm1
      rw [s237_f ht0 hx (by omega), am_bI_ok, if_pos (by decide)]
      exact ⟨_, _, rfl, am_fin_x hf0 hm0 (by decide)⟩
  obtain ⟨z, hx, rfl⟩ := hx
  have h6 := ho.1.2.2.2.1
  have h4 := ho.1.1
  have hd9 := hS.2.1
  refine ⟨0, (if pz_fst (fun k => decide (py_cd d 1000 1000 S k ≠ 0)) 99 = 99 then (-1 : Int32) else if z = 0 then nI (pz_fst (fun k => decide (py_cd d 1000 1000 S k ≠ 0)) 99 + 1) else nI (pz_low (py_cd d 1000 1000 S (pz_fst (fun k => decide (py_cd d 1000 1000 S k ≠ 0)) 99)))), (d, S, l, t, im, tp, nb, fp, rf), hw0, ⟨by omega, fun hh => by first | exact absurd rfl hh | rfl⟩, fun h hc => ?_, fun h hm => ?_⟩
  · have hc0 := hc
    obtain ⟨⟨L, hL, r1, r2, c1⟩, c2, c3, c4, c5, c6, c7, c8, c9⟩ := hc
    refine am_CO_0 ?_
    show am_RI (am_run am_M 40 [.ref 0, .int (nI z)] h) _
    rw [e40, c64_t (by omega) hx, am_bV_ok]
    refine pz_VI (s137 (S := S) c2 pc_so20 (by omega)) fun g1 hg1 => ?_
    obtain ⟨y1, k1⟩ := hg1
    refine pz_forf (fun k g => am_vn am_M 5 40 18 [some (.ref 0), some (.int (nI z)), some (.int (nI (k + 1)))] [] g) (fun k g => (∃ G E, pc_Y g (py_days d 1000 1000 S k) 1000 1000 G E ∧ E < 2 ^ 4) ∧ am_kp ps_Y h g) (fun k => decide (py_cd d 1000 1000 S k ≠ 0)) 99 (fun v o => am_RI o (fun u g => u = (if v = 99 then (-1 : Int32) else if z = 0 then nI (v + 1) else nI (pz_low (py_cd d 1000 1000 S v))) ∧ pI_c g (d, S, l, t, im, tp, nb, fp, rf) ∧ am_fc h g)) g1 ⟨⟨_, _, y1, by decide⟩, k1⟩ (fun g hg => ?_) (fun k g hk hg => ?_)
    · rw [e40_18, if_pos (by decide)]
      exact ⟨_, _, rfl, rfl, am_fin_c hc0 (hg.2.up (fun i k => ps_YC))⟩
    · obtain ⟨⟨G, E, y, hE⟩, kp⟩ := hg
      have hT := py_days_T ho 1000 1000 hS.1 k
      obtain ⟨g2, e2, z1, z2, z3, z4⟩ := s139 hL (c1.kp kp (ps_YL hL)) ho y hT.1 (by omega) (by omega)
      have kp2 := kp.trans z4
      have cl : py_cd d 1000 1000 S k < 64 := py_cold_lt ho _ _ _ _
      have tl : py_tn d 1000 1000 S k < 16 := py_thin_lt ho _ _ _ _
      have ex := e40_18 (nI z) (nI (k + 1)) g
      rw [if_neg (nI_nlt (by omega) (by omega)), kp.R, r1, am_gr_n, e2, am_bV_ok, show am_I g2 34 4 = nI (py_cd d 1000 1000 S k) from z2] at ex
      have fin := am_fin_c hc0 (kp2.up (fun i k => ps_YC))
      constructor
      · intro hf
        rw [decide_eq_false_iff_not, Classical.not_not] at hf
        rw [hf, if_pos (by decide), pz_succ] at ex
        exact ⟨g2, ex, ⟨_, _, z1, Nat.or_lt_two_pow hE (py_thin_lt ho _ _ _ _)⟩, kp2⟩
      · intro hf
        rw [decide_eq_true_iff] at hf
        rw [ex, if_neg (nI_ne0 (by omega) (by omega)), if_neg (show ¬ k = 99 by omega)]
        by_cases cz : z = 0
        · rw [if_pos (by rw [cz]; rfl), if_pos cz]
          exact ⟨_, _, rfl, rfl, fin⟩
        · rw [if_neg (nI_ne0 (by omega) (by omega)), if_neg cz, s52 (by omega) (by omega), am_bI_ok]
          exact ⟨_, _, rfl, rfl, fin⟩
  · show am_RI (am_run am_M 278 [.ref 60, .int (nI z)] h) _
    obtain ⟨hm0, ht0, hf0⟩ := m_start hm
    rw [e278]
    generalize am_sI h 60 0 (nI 0) = g at hm0 ht0 hf0 ⊢
    dsimp only
    have hm1 := hm0
    obtain ⟨m1, m2, m3, m4, m5, m6, m7, m8, m9, m10, m11, m12⟩ := hm1
    rw [s237_t ht0 hx (by omega), am_bI_ok, if_neg (by decide)]
    have hu : am_I g 60 62 = pn_o 1000 20 := m11
    have hq : am_I g 60 63 = pn_o 1000 5 := m12
    obtain ⟨g1, e1, b1, k1⟩ := s231b hm0 hw0 hu hq
    replace b1 : pm_B g1 d S 0 1000 1000 := b1
    have k1N : am_kp ps_N g g1 := k1.up fun i k => ps_bN
    rw [e276, e1, am_bV_ok]
    have key : am_RI (am_vn am_M 5 276 6 [some (.ref 60), some (.int (nI 255)), some (.int (nI (0 + 1)))] [] g1) (fun u g' => u = (if pz_fst (fun k => decide (py_cd d 1000 1000 S k ≠ 0)) 99 = 99 then (-1 : Int32) else nI (pz_fst (fun k => decide (py_cd d 1000 1000 S k ≠ 0)) 99 + 1)) ∧ am_kp ps_N g g' ∧ (pz_fst (fun k => decide (py_cd d 1000 1000 S k ≠ 0)) 99 ≠ 99 → am_I g' 60 68 = nI (py_cd d 1000 1000 S (pz_fst (fun k => decide (py_cd d 1000 1000 S k ≠ 0)) 99)) ∧ py_cd d 1000 1000 S (pz_fst (fun k => decide (py_cd d 1000 1000 S k ≠ 0)) 99) ≠ 0 ∧ pz_fst (fun k => decide (py_cd d 1000 1000 S k ≠ 0)) 99 < 99)) := by
      refine pz_forf (fun k g => am_vn am_M 5 276 6 [some (.ref 60), some (.int (nI 255)), some (.int (nI (k + 1)))] [] g) (fun k g' => pm_B g' d S k 1000 1000 ∧ am_kp ps_N g g') (fun k => decide (py_cd d 1000 1000 S k ≠ 0)) 99 (fun v o => am_RI o (fun u g' => u = (if v = 99 then (-1 : Int32) else nI (v + 1)) ∧ am_kp ps_N g g' ∧ (v ≠ 99 → am_I g' 60 68 = nI (py_cd d 1000 1000 S v) ∧ py_cd d 1000 1000 S v ≠ 0 ∧ v < 99))) g1 ⟨b1, k1N⟩ (fun g' hg => ?_) (fun k g' hk hg => ?_)
      · rw [e276_6, if_pos (by decide)]
        exact ⟨_, _, rfl, rfl, hg.2, fun h => absurd rfl h⟩
      · obtain ⟨b, kp⟩ := hg
        obtain ⟨v, g2, e2, hv, b2, -, kp2⟩ := s230n ho b hS.1 (by omega)
        have kk : am_kp ps_N g (am_sI g2 60 68 (nI (py_cd d 1000 1000 S k))) := (kp.trans (kp2.up fun i k => ps_dN)).sI _ (ps_N_t (by omega))
        have cl : py_cd d 1000 1000 S k < 64 := py_cold_lt ho _ _ _ _
        have tl : py_tn d 1000 1000 S k < 16 := py_thin_lt ho _ _ _ _
        have ex := e276_6 (nI 255) (nI (k + 1)) g'
        rw [if_neg (nI_nlt (by omega) (by omega)), e2, am_bI_ok, hv, pz_m255 cl] at ex
        dsimp only at ex
        rw [am_I_s] at ex
        have b3 : pm_B (am_sI g2 60 68 (nI (py_cd d 1000 1000 S k))) d S (k + 1) 1000 1000 := by
          obtain ⟨a1, a2, a3, a4⟩ := b2
          refine ⟨a1.fr (fun k h1 h2 => am_I_s2 _ _ _ _ (by omega)) (fun i h1 h2 => am_I_s1 _ _ _ _ (by omega)), ⟨a2.1.oth (by omega) _ _, fun k hk => ?_, ?_, ?_⟩, ?_, a4.oth (by omega) _ _⟩
          · rw [am_I_s1 _ _ _ _ (by omega)]; exact a2.2.1 k hk
          · rw [am_I_s2 _ _ _ _ (by omega)]; exact a2.2.2.1
          · rw [am_I_s2 _ _ _ _ (by omega)]; exact a2.2.2.2
          · rw [am_I_s2 _ _ _ _ (by omega)]; exact a3
        constructor
        · intro hf
          rw [decide_eq_false_iff_not, Classical.not_not] at hf
          rw [hf, if_pos (by decide), pz_succ] at ex
          refine ⟨_, ex, ?_, ?_⟩
          · rw [hf] at b3; exact b3
          · rw [hf] at kk; exact kk
        · intro hf
          rw [decide_eq_true_iff] at hf
          rw [ex, if_neg (nI_ne0 (by omega) (by omega)), if_neg (show ¬ k = 99 by omega)]
          exact ⟨_, _, rfl, rfl, kk, fun _ => ⟨am_I_s _ _ _ _, hf, hk⟩⟩
    refine pz_II key fun u g' hu' => ?_
    obtain ⟨hu1, kk, h68⟩ := hu'
    generalize pz_fst (fun k => decide (py_cd d 1000 1000 S k ≠ 0)) 99 = v at hu1 h68 ⊢
    subst hu1
    by_cases cz : z = 0
    · rw [if_pos (by rw [cz]; rfl)]
      refine ⟨_, _, rfl, am_fin_N hf0 hm0 ht0 kk ?_⟩
      by_cases cv : v = 99
      · rw [if_pos cv, if_pos cv]
      · rw [if_neg cv, if_neg cv, if_pos cz]
    · rw [if_neg (nI_ne0 (by omega) (by omega))]
      by_cases cv : v = 99
      · rw [if_pos cv, if_pos rfl, if_pos cv]
        exact ⟨_, _, rfl, am_fin_N hf0 hm0 ht0 kk rfl⟩
      · obtain ⟨a1, a2, a3⟩ := h68 cv
        have cl : py_cd d 1000 1000 S v < 64 := py_cold_lt ho _ _ _ _
        have tl : py_tn d 1000 1000 S v < 16 := py_thin_lt ho _ _ _ _
        rw [if_neg cv, if_neg (pz_neg1 (by omega)), if_neg cv, if_neg cz, a1, s277 (by omega) (by omega), am_bI_ok]
        exact ⟨_, _, rfl, am_fin_N hf0 hm0 ht0 kk rfl⟩
theorem call_firstThin {w : pw_W} (hw : pw_wf w) (x : Int32) : am_AG 1 (fun e => e) w (fun h => am_run am_M 41 [.ref 0, .int x] h) (fun h => am_run am_M 279 [.ref 60, .int x] h) := by
  obtain ⟨d, S, l, t, im, tp, nb, fp, rf⟩ := w
  have hw0 := hw
  obtain ⟨ho, hS, ha, ht, hi, hnb, htp⟩ := hw
  rcases Classical.em (pz_b x (1 + 1)) with hx | hx
  rotate_left
  · refine ⟨1, 0, (d, S, l, t, im, tp, nb, fp, rf), hw0, ⟨by omega, fun hh => by first | exact absurd rfl hh | rfl⟩, fun h hc => ?_, fun h hm => ?_⟩
    · have hc0 := hc
      obtain ⟨⟨L, hL, r1, r2, c1⟩, c2, c3, c4, c5, c6, c7, c8, c9⟩ := hc
      refine am_CO_x (by decide) ?_
      show am_run am_M 41 [.ref 0, .int x] h = _
      rw [e41, c64_f (by omega) hx]
      rfl
    · show am_RI (am_run am_M 279 [.ref 60, .int x] h) _
      obtain ⟨hm0, ht0, hf0⟩ := m_start hm
      rw [e279]
      generalize am_sI h 60 0 (nI 0) = g at hm0 ht0 hf0 ⊢
      dsimp only
      have hm1 := hm0
      obtain ⟨m1, m2, m3, m4, m5, m6, m7, m8, m9, m10, m11, m12⟩ := hm1
      rw [s237_f ht0 hx (by omega), am_bI_ok, if_pos (by decide)]
      exact ⟨_, _, rfl, am_fin_x hf0 hm0 (by decide)⟩
  obtain ⟨z, hx, rfl⟩ := hx
  have h6 := ho.1.2.2.2.1
  have h4 := ho.1.1
  have hd9 := hS.2.1
  refine ⟨0, (if pz_fst (fun k => decide (py_tn d 1000 1000 S k ≠ 0)) 99 = 99 then (-1 : Int32) else if z = 0 then nI (pz_fst (fun k => decide (py_tn d 1000 1000 S k ≠ 0)) 99 + 1) else nI (pz_low (py_tn d 1000 1000 S (pz_fst (fun k => decide (py_tn d 1000 1000 S k ≠ 0)) 99)))), (d, S, l, t, im, tp, nb, fp, rf), hw0, ⟨by omega, fun hh => by first | exact absurd rfl hh | rfl⟩, fun h hc => ?_, fun h hm => ?_⟩
  · have hc0 := hc
    obtain ⟨⟨L, hL, r1, r2, c1⟩, c2, c3, c4, c5, c6, c7, c8, c9⟩ := hc
    refine am_CO_0 ?_
    show am_RI (am_run am_M 41 [.ref 0, .int (nI z)] h) _
    rw [e41, c64_t (by omega) hx, am_bV_ok]
    refine pz_VI (s137 (S := S) c2 pc_so20 (by omega)) fun g1 hg1 => ?_
    obtain ⟨y1, k1⟩ := hg1
    refine pz_forf (fun k g => am_vn am_M 5 41 18 [some (.ref 0), some (.int (nI z)), some (.int (nI (k + 1)))] [] g) (fun k g => (∃ G E, pc_Y g (py_days d 1000 1000 S k) 1000 1000 G E ∧ E < 2 ^ 4) ∧ am_kp ps_Y h g) (fun k => decide (py_tn d 1000 1000 S k ≠ 0)) 99 (fun v o => am_RI o (fun u g => u = (if v = 99 then (-1 : Int32) else if z = 0 then nI (v + 1) else nI (pz_low (py_tn d 1000 1000 S v))) ∧ pI_c g (d, S, l, t, im, tp, nb, fp, rf) ∧ am_fc h g)) g1 ⟨⟨_, _, y1, by decide⟩, k1⟩ (fun g hg => ?_) (fun k g hk hg => ?_)
    · rw [e41_18, if_pos (by decide)]
      exact ⟨_, _, rfl, rfl, am_fin_c hc0 (hg.2.up (fun i k => ps_YC))⟩
    · obtain ⟨⟨G, E, y, hE⟩, kp⟩ := hg
      have hT := py_days_T ho 1000 1000 hS.1 k
      obtain ⟨g2, e2, z1, z2, z3, z4⟩ := s139 hL (c1.kp kp (ps_YL hL)) ho y hT.1 (by omega) (by omega)
      have kp2 := kp.trans z4
      have cl : py_cd d 1000 1000 S k < 64 := py_cold_lt ho _ _ _ _
      have tl : py_tn d 1000 1000 S k < 16 := py_thin_lt ho _ _ _ _
      have ex := e41_18 (nI z) (nI (k + 1)) g
      rw [if_neg (nI_nlt (by omega) (by omega)), kp.R, r1, am_gr_n, e2, am_bV_ok, show am_I g2 34 5 = nI (py_tn d 1000 1000 S k) from z3] at ex
      have fin := am_fin_c hc0 (kp2.up (fun i k => ps_YC))
      constructor
      · intro hf
        rw [decide_eq_false_iff_not, Classical.not_not] at hf
        rw [hf, if_pos (by decide), pz_succ] at ex
        exact ⟨g2, ex, ⟨_, _, z1, Nat.or_lt_two_pow hE (py_thin_lt ho _ _ _ _)⟩, kp2⟩
      · intro hf
        rw [decide_eq_true_iff] at hf
        rw [ex, if_neg (nI_ne0 (by omega) (by omega)), if_neg (show ¬ k = 99 by omega)]
        by_cases cz : z = 0
        · rw [if_pos (by rw [cz]; rfl), if_pos cz]
          exact ⟨_, _, rfl, rfl, fin⟩
        · rw [if_neg (nI_ne0 (by omega) (by omega)), if_neg cz, s52 (by omega) (by omega), am_bI_ok]
          exact ⟨_, _, rfl, rfl, fin⟩
  · show am_RI (am_run am_M 279 [.ref 60, .int (nI z)] h) _
    obtain ⟨hm0, ht0, hf0⟩ := m_start hm
    rw [e279]
    generalize am_sI h 60 0 (nI 0) = g at hm0 ht0 hf0 ⊢
    dsimp only
    have hm1 := hm0
    obtain ⟨m1, m2, m3, m4, m5, m6, m7, m8, m9, m10, m11, m12⟩ := hm1
    rw [s237_t ht0 hx (by omega), am_bI_ok, if_neg (by decide)]
    have hu : am_I g 60 62 = pn_o 1000 20 := m11
    have hq : am_I g 60 63 = pn_o 1000 5 := m12
    obtain ⟨g1, e1, b1, k1⟩ := s231b hm0 hw0 hu hq
    replace b1 : pm_B g1 d S 0 1000 1000 := b1
    have k1N : am_kp ps_N g g1 := k1.up fun i k => ps_bN
    rw [e276, e1, am_bV_ok]
    have key : am_RI (am_vn am_M 5 276 6 [some (.ref 60), some (.int (nI 3840)), some (.int (nI (0 + 1)))] [] g1) (fun u g' => u = (if pz_fst (fun k => decide (py_tn d 1000 1000 S k ≠ 0)) 99 = 99 then (-1 : Int32) else nI (pz_fst (fun k => decide (py_tn d 1000 1000 S k ≠ 0)) 99 + 1)) ∧ am_kp ps_N g g' ∧ (pz_fst (fun k => decide (py_tn d 1000 1000 S k ≠ 0)) 99 ≠ 99 → am_I g' 60 68 = nI (256 * py_tn d 1000 1000 S (pz_fst (fun k => decide (py_tn d 1000 1000 S k ≠ 0)) 99)) ∧ py_tn d 1000 1000 S (pz_fst (fun k => decide (py_tn d 1000 1000 S k ≠ 0)) 99) ≠ 0 ∧ pz_fst (fun k => decide (py_tn d 1000 1000 S k ≠ 0)) 99 < 99)) := by
      refine pz_forf (fun k g => am_vn am_M 5 276 6 [some (.ref 60), some (.int (nI 3840)), some (.int (nI (k + 1)))] [] g) (fun k g' => pm_B g' d S k 1000 1000 ∧ am_kp ps_N g g') (fun k => decide (py_tn d 1000 1000 S k ≠ 0)) 99 (fun v o => am_RI o (fun u g' => u = (if v = 99 then (-1 : Int32) else nI (v + 1)) ∧ am_kp ps_N g g' ∧ (v ≠ 99 → am_I g' 60 68 = nI (256 * py_tn d 1000 1000 S v) ∧ py_tn d 1000 1000 S v ≠ 0 ∧ v < 99))) g1 ⟨b1, k1N⟩ (fun g' hg => ?_) (fun k g' hk hg => ?_)
      · rw [e276_6, if_pos (by decide)]
        exact ⟨_, _, rfl, rfl, hg.2, fun h => absurd rfl h⟩
      · obtain ⟨b, kp⟩ := hg
        obtain ⟨v, g2, e2, hv, b2, -, kp2⟩ := s230n ho b hS.1 (by omega)
        have kk : am_kp ps_N g (am_sI g2 60 68 (nI (256 * py_tn d 1000 1000 S k))) := (kp.trans (kp2.up fun i k => ps_dN)).sI _ (ps_N_t (by omega))
        have cl : py_cd d 1000 1000 S k < 64 := py_cold_lt ho _ _ _ _
        have tl : py_tn d 1000 1000 S k < 16 := py_thin_lt ho _ _ _ _
        have ex := e276_6 (nI 3840) (nI (k + 1)) g'
        rw [if_neg (nI_nlt (by omega) (by omega)), e2, am_bI_ok, hv, pz_m3840 tl cl] at ex
        dsimp only at ex
        rw [am_I_s] at ex
        have b3 : pm_B (am_sI g2 60 68 (nI (256 * py_tn d 1000 1000 S k))) d S (k + 1) 1000 1000 := by
          obtain ⟨a1, a2, a3, a4⟩ := b2
          refine ⟨a1.fr (fun k h1 h2 => am_I_s2 _ _ _ _ (by omega)) (fun i h1 h2 => am_I_s1 _ _ _ _ (by omega)), ⟨a2.1.oth (by omega) _ _, fun k hk => ?_, ?_, ?_⟩, ?_, a4.oth (by omega) _ _⟩
          · rw [am_I_s1 _ _ _ _ (by omega)]; exact a2.2.1 k hk
          · rw [am_I_s2 _ _ _ _ (by omega)]; exact a2.2.2.1
          · rw [am_I_s2 _ _ _ _ (by omega)]; exact a2.2.2.2
          · rw [am_I_s2 _ _ _ _ (by omega)]; exact a3
        constructor
        · intro hf
          rw [decide_eq_false_iff_not, Classical.not_not] at hf
          rw [hf, Nat.mul_zero, if_pos (by decide), pz_succ] at ex
          refine ⟨_, ex, ?_, ?_⟩
          · rw [hf, Nat.mul_zero] at b3; exact b3
          · rw [hf, Nat.mul_zero] at kk; exact kk
        · intro hf
          rw [decide_eq_true_iff] at hf
          rw [ex, if_neg (nI_ne0 (by omega) (by omega)), if_neg (show ¬ k = 99 by omega)]
          exact ⟨_, _, rfl, rfl, kk, fun _ => ⟨am_I_s _ _ _ _, hf, hk⟩⟩
    refine pz_II key fun u g' hu' => ?_
    obtain ⟨hu1, kk, h68⟩ := hu'
    generalize pz_fst (fun k => decide (py_tn d 1000 1000 S k ≠ 0)) 99 = v at hu1 h68 ⊢
    subst hu1
    by_cases cz : z = 0
    · rw [if_pos (by rw [cz]; rfl)]
      refine ⟨_, _, rfl, am_fin_N hf0 hm0 ht0 kk ?_⟩
      by_cases cv : v = 99
      · rw [if_pos cv, if_pos cv]
      · rw [if_neg cv, if_neg cv, if_pos cz]
    · rw [if_neg (nI_ne0 (by omega) (by omega))]
      by_cases cv : v = 99
      · rw [if_pos cv, if_pos rfl, if_pos cv]
        exact ⟨_, _, rfl, am_fin_N hf0 hm0 ht0 kk rfl⟩
      · obtain ⟨a1, a2, a3⟩ := h68 cv
        have cl : py_cd d 1000 1000 S v < 64 := py_cold_lt ho _ _ _ _
        have tl : py_tn d 1000 1000 S v < 16 := py_thin_lt ho _ _ _ _
        rw [if_neg cv, if_neg (pz_neg1 (by omega)), if_neg cv, if_neg cz, a1, pz_shr (by omega) (by omega), show 256 * py_tn d 1000 1000 S v / 2 ^ 8 = py_tn d 1000 1000 S v by omega, s277 (by omega) (by omega), am_bI_ok]
        exact ⟨_, _, rfl, am_fin_N hf0 hm0 ht0 kk rfl⟩
