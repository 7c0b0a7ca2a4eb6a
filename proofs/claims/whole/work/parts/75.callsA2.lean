/-! CALLS: lamp, favour, days -/
theorem pm_lamps_all (S : Nat → Nat) (j : Nat) : (pm_lamps S).testBit j = (decide (j < 6) && decide (S (25 + j) = 1)) := by
  unfold pm_lamps
  rw [pb_bit]
theorem pm_lamps_flip {S : Nat → Nat} {i v : Nat} (hi : i < 6) (h1 : S (25 + i) ≤ 1) (hv : v ≤ 1) (hne : S (25 + i) ≠ v) : pm_lamps (pu S (25 + i) v) = pm_lamps S ^^^ 2 ^ i := by
  apply Nat.eq_of_testBit_eq
  intro j
  rw [Nat.testBit_xor, Nat.testBit_two_pow, pm_lamps_all, pm_lamps_all]
  unfold pu
  by_cases e : j = i
  · subst e
    rw [if_pos rfl, decide_eq_true hi, decide_eq_true rfl, Bool.true_and, Bool.true_and]
    rcases Nat.le_one_iff_eq_zero_or_eq_one.mp hv with a | a <;> rcases Nat.le_one_iff_eq_zero_or_eq_one.mp h1 with b | b <;> simp [a, b] <;> omega
  · rw [if_neg (by omega), decide_eq_false (show ¬ i = j by omega), Bool.xor_false]
theorem pm_S.setl {h : am_H} {r : Nat} {S : Nat → Nat} (a : pm_S h r 0 S) {i v : Nat} (hi : i < 6) : pm_S (am_sI h r 31 (nI (pm_lamps (pu S (25 + i) v)))) r 0 (pu S (25 + i) v) := by
  obtain ⟨a1, a2, a3, a4⟩ := a
  refine ⟨fun j hj => ?_, fun p hp => ?_, ?_, fun k hk => ⟨?_, ?_⟩⟩
  · rw [am_I_sc, if_neg (by omega), pu_n _ _ (by omega)]; exact a1 j hj
  · rw [am_I_sc, if_neg (by omega), pu_n _ _ (by omega)]; exact a2 p hp
  · rw [am_I_sc, if_pos ⟨rfl, by omega⟩]
  · rw [am_I_sc, if_neg (by omega), pu_n _ _ (by omega)]; exact (a4 k hk).1
  · rw [am_I_sc, if_neg (by omega), pu_n _ _ (by omega)]; exact (a4 k hk).2
theorem pm_S.setf {h : am_H} {r : Nat} {S : Nat → Nat} (a : pm_S h r 0 S) {i : Nat} (hi : i < 6) (v : Nat) : pm_S (am_sI h r (25 + i) (nI v)) r 0 (pu S (31 + i) v) := by
  obtain ⟨a1, a2, a3, a4⟩ := a
  refine ⟨fun j hj => ?_, fun p hp => ?_, ?_, fun k hk => ⟨?_, ?_⟩⟩
  · rw [am_I_sc, if_neg (by omega), pu_n _ _ (by omega)]; exact a1 j hj
  · rw [am_I_sc]
    unfold pu
    by_cases e : p = i
    · rw [if_pos ⟨rfl, by omega⟩, if_pos (by omega)]
    · rw [if_neg (by omega), if_neg (by omega)]; exact a2 p hp
  · rw [am_I_sc, if_neg (by omega), a3, pm_lamps_cong fun j h1 h2 => (pu_n S v (show j ≠ 31 + i by omega)).symm]
  · rw [am_I_sc, if_neg (by omega), pu_n _ _ (by omega)]; exact (a4 k hk).1
  · rw [am_I_sc, if_neg (by omega), pu_n _ _ (by omega)]; exact (a4 k hk).2
theorem pz_flip {F j : Nat} (hF : F < 512) (hj : j < 9) : nI F &&& ((nI 1 <<< (nI j &&& 31)) ^^^ (-1 : Int32)) = nI (if F.testBit j then F ^^^ 2 ^ j else F) ∧ (nI F &&& ((nI 1 <<< (nI j &&& 31)) ^^^ (-1 : Int32))) ||| (nI 1 <<< (nI j &&& 31)) = nI (if F.testBit j then F else F ^^^ 2 ^ j) ∧ F ^^^ 2 ^ j < 512 ∧ F ^^^ 2 ^ j ≠ F := by
  have hm : (-1 : Int32) = nI (2 ^ 32 - 1) := by decide
  have e1 : F &&& (2 ^ j ^^^ (2 ^ 32 - 1)) = if F.testBit j then F ^^^ 2 ^ j else F := by
    apply Nat.eq_of_testBit_eq
    intro k
    rw [Nat.testBit_and, Nat.testBit_xor, Nat.testBit_two_pow, Nat.testBit_two_pow_sub_one]
    by_cases hk : k < 32
    · rw [decide_eq_true hk]
      by_cases e : j = k
      · subst e
        rw [decide_eq_true rfl]
        cases c : F.testBit j with
        | true => rw [if_pos rfl, Nat.testBit_xor, Nat.testBit_two_pow, c, decide_eq_true rfl]; rfl
        | false => rw [if_neg (by decide), c]; rfl
      · rw [decide_eq_false e]
        split
        · rw [Nat.testBit_xor, Nat.testBit_two_pow, decide_eq_false e]; simp
        · simp
    · have hb : F.testBit k = false := Nat.testBit_lt_two_pow (Nat.lt_of_lt_of_le hF (Nat.pow_le_pow_right (n := 2) (i := 9) (by omega) (by omega)))
      rw [hb]
      split
      · rw [Nat.testBit_xor, hb, Nat.testBit_two_pow, decide_eq_false (by omega)]; rfl
      · rw [hb]; rfl
  have e2 : (if F.testBit j then F ^^^ 2 ^ j else F) ||| 2 ^ j = if F.testBit j then F else F ^^^ 2 ^ j := by
    apply Nat.eq_of_testBit_eq
    intro k
    cases c : F.testBit j with
    | true =>
      rw [if_pos rfl, if_pos rfl, Nat.testBit_or, Nat.testBit_xor, Nat.testBit_two_pow]
      by_cases e : j = k
      · subst e; rw [c, decide_eq_true rfl]; rfl
      · rw [decide_eq_false e]; simp
    | false =>
      rw [if_neg (by decide), if_neg (by decide), Nat.testBit_or, Nat.testBit_xor, Nat.testBit_two_pow]
      by_cases e : j = k
      · subst e; rw [c, decide_eq_true rfl]; rfl
      · rw [decide_eq_false e]; simp
  have hlt : 2 ^ j < 2 ^ 9 := Nat.pow_lt_pow_right (by omega) hj
  refine ⟨?_, ?_, Nat.xor_lt_two_pow (n := 9) hF hlt, fun e => ?_⟩
  · rw [pb_1 (by omega), hm, pz_xor, pz_and, e1]
  · rw [pb_1 (by omega), hm, pz_xor, pz_and, e1, pz_or, e2]
  · have := congrArg (fun x => Nat.testBit x j) e
    simp only [Nat.testBit_xor, Nat.testBit_two_pow, decide_true] at this
    cases c : F.testBit j <;> simp [c] at this
theorem call_lamp {w : pw_W} (hw : pw_wf w) (x y : Int32) : am_AG 1 (fun e => e) w (fun h => am_run am_M 13 [.ref 0, .int x, .int y] h) (fun h => am_run am_M 248 [.ref 60, .int x, .int y] h) := by
  obtain ⟨d, S, l, t, im, tp, nb, fp, rf⟩ := w
  have hw0 := hw
  obtain ⟨ho, hS, ha, ht, hi, hnb, htp⟩ := hw
  rcases Classical.em (pz_b x (pw_n d 3)) with hx | hx
  rotate_left
  · refine ⟨1, 0, (d, S, l, t, im, tp, nb, fp, rf), hw0, ⟨by omega, fun hh => by first | exact absurd rfl hh | rfl⟩, fun h hc => ?_, fun h hm => ?_⟩
    · have hc0 := hc
      obtain ⟨⟨L, hL, r1, r2, c1⟩, c2, c3, c4, c5, c6, c7, c8, c9⟩ := hc
      refine am_CO_x (by decide) ?_
      show am_run am_M 13 [.ref 0, .int x, .int y] h = _
      rw [e13, c62_f hL r1 c1 ho hx]
      try rfl
    · show am_RI (am_run am_M 248 [.ref 60, .int x, .int y] h) _
      obtain ⟨hm0, ht0, hf0⟩ := m_start hm
      rw [e248]
      generalize am_sI h 60 0 (nI 0) = g at hm0 ht0 hf0 ⊢
      dsimp only
      have hm1 := hm0
      obtain ⟨m1, m2, m3, m4, m5, m6, m7, m8, m9, m10, m11, m12⟩ := hm1
      rw [s236_f m1 ho ht0 hx, am_bI_ok, if_pos (by decide), if_pos (by decide)]
      exact ⟨_, _, rfl, am_fin_x hf0 hm0 (by decide)⟩
  obtain ⟨i, hx, rfl⟩ := hx
  have h6 := ho.1.2.2.2.1
  have h4 := ho.1.1
  have hd9 := hS.2.1
  have h9 := ho.1.2.1
  have hb := (hS.1.1 i (by omega)).2.2.2.2.1
  obtain ⟨v, hv, hyv⟩ : ∃ v, v ≤ 1 ∧ ∀ (α : Type) (a b : α), (if y = 0 then a else b) = (if v = 0 then a else b) := by
    by_cases c : y = 0
    · exact ⟨0, by omega, fun α a b => by rw [if_pos c, if_pos rfl]⟩
    · exact ⟨1, by omega, fun α a b => by rw [if_neg c, if_neg (by decide)]⟩
  have hcv : ∀ h : am_H, (if y = 0 then am_vn am_M 4 13 14 [some (.ref 0), some (.int (nI i)), none, none] [(.int (nI 0))] h else am_vn am_M 4 13 14 [some (.ref 0), some (.int (nI i)), none, none] [(.int (nI 1))] h) = am_vn am_M 4 13 14 [some (.ref 0), some (.int (nI i)), none, none] [(.int (nI v))] h := fun h => by
    rw [hyv]
    rcases Nat.le_one_iff_eq_zero_or_eq_one.mp hv with rfl | rfl
    · rw [if_pos rfl]
    · rw [if_neg (by decide)]
  by_cases hc : S (25 + i) = v
  · refine ⟨0, (nI 0), (d, S, l, t, im, tp, nb, fp, pu rf 1 (rf 1 + 1)), hw0, ⟨by omega, fun hh => by first | exact absurd rfl hh | rfl⟩, fun h hc => ?_, fun h hm => ?_⟩
    · have hc0 := hc
      obtain ⟨⟨L, hL, r1, r2, c1⟩, c2, c3, c4, c5, c6, c7, c8, c9⟩ := hc
      refine am_CO_0 ?_
      show am_RI (am_run am_M 13 [.ref 0, .int (nI i), .int y] h) _
      rw [e13, c62_t hL r1 c1 ho hx, am_bV_ok]
      obtain ⟨g1, e1, f1, f2⟩ := c_refuse hc0 (k := 1) (by omega)
      rw [hcv, e13_14, e48, s151 pc_so20 (show 1 + 4 * 6 + i < 49 by omega), am_bI_ok, show 1 + 4 * 6 + i = 25 + i by omega, c2 _ (by omega)]
      rw [if_pos (by rw [hc]), e1, am_bI_ok, if_pos (by decide), am_bI_ok, if_pos (by decide)]
      exact ⟨_, _, rfl, rfl, f1, f2⟩
    · show am_RI (am_run am_M 248 [.ref 60, .int (nI i), .int y] h) _
      obtain ⟨hm0, ht0, hf0⟩ := m_start hm
      rw [e248]
      generalize am_sI h 60 0 (nI 0) = g at hm0 ht0 hf0 ⊢
      dsimp only
      have hm1 := hm0
      obtain ⟨m1, m2, m3, m4, m5, m6, m7, m8, m9, m10, m11, m12⟩ := hm1
      rw [s236_t m1 ho ht0 hx, am_bI_ok, if_neg (by decide)]
      obtain ⟨g1, e1, f1, f2, f3⟩ := m_refuse hm0 (k := 1) (by omega)
      rw [e247, ml_85 (by omega), m2.il, pz_bit (by omega) (by have := pm_lamps_lt S; omega), hyv]
      have hstk : (if v = 0 then am_vn am_M 1 247 19 [some (.ref 60), some (.int (nI 31)), some (.int (nI i)), none] [(.int (nI 0)), (.int (nI (if (pm_lamps S).testBit i then 1 else 0)))] g else am_vn am_M 1 247 19 [some (.ref 60), some (.int (nI 31)), some (.int (nI i)), none] [(.int (nI 1)), (.int (nI (if (pm_lamps S).testBit i then 1 else 0)))] g) = am_vn am_M 1 247 19 [some (.ref 60), some (.int (nI 31)), some (.int (nI i)), none] [(.int (nI v)), (.int (nI (S (25 + i))))] g := by
        have hl : (if (pm_lamps S).testBit i then 1 else 0) = S (25 + i) := by
          rw [pm_lamps_bit S (by omega)]
          by_cases c : S (25 + i) = 1
          · rw [decide_eq_true c, c]; rfl
          · rw [decide_eq_false c, show S (25 + i) = 0 by omega]; rfl
        rw [hl]
        rcases Nat.le_one_iff_eq_zero_or_eq_one.mp hv with rfl | rfl
        · rw [if_pos rfl]
        · rw [if_neg (by decide)]
      rw [hstk, e247_19]
      rw [if_pos (by rw [hc]), e1, am_bI_ok, if_pos (by decide), if_pos (by decide), am_bI_ok, if_pos (by decide), if_pos (by decide)]
      exact ⟨_, _, rfl, fun _ => rfl, f3.trans ht0, f1, hf0.trans f2⟩
  have hSn : pw_SL d (pu S (25 + i) v) := pw_SL_pu hS (by omega) (by omega)
  refine ⟨0, (nI 1), (d, pu S (25 + i) v, pw_keep S l, t, im, tp, nb, fp, rf), ⟨ho, hSn, pw_keep_ok hS ha, ht, hi, hnb, htp⟩, ⟨by omega, fun hh => by first | exact absurd rfl hh | rfl⟩, fun h hc => ?_, fun h hm => ?_⟩
  · have hc0 := hc
    obtain ⟨⟨L, hL, r1, r2, c1⟩, c2, c3, c4, c5, c6, c7, c8, c9⟩ := hc
    refine am_CO_0 ?_
    show am_RI (am_run am_M 13 [.ref 0, .int (nI i), .int y] h) _
    rw [e13, c62_t hL r1 c1 ho hx, am_bV_ok]
    rw [hcv, e13_14, e48, s151 pc_so20 (show 1 + 4 * 6 + i < 49 by omega), am_bI_ok, show 1 + 4 * 6 + i = 25 + i by omega, c2 _ (by omega)]
    rw [if_neg (fun e => hc ((nI_eq (by omega) (by omega)).mp e))]
    obtain ⟨g1, e1, a1, k1⟩ := s72 pc_ao22 pc_so20 c3 c2 ha.1
    have s1 : pc_S g1 21 S := c2.kp k1 (fun k => ps_ao 21 k (by omega))
    rw [e1, am_bV_ok, s152 pc_so20 (show 1 + 4 * 6 + i < 49 by omega), am_bV_ok, show 1 + 4 * 6 + i = 25 + i by omega, if_pos (by decide), am_bI_ok, if_pos (by decide)]
    refine ⟨_, _, rfl, rfl, hc0.act k1.R (fun a b h1 h2 h3 => ?_) (s1.set _ _) (a1.fr (am_I_s1 _ _ _ _ (by omega)) (am_I_s1 _ _ _ _ (by omega))), ((k1.fc fun a b hab => ps_ao a b (by omega)).sI (by omega) _ _)⟩
    rw [am_I_s1 _ _ _ _ (by omega)]
    exact k1.get a b (ps_ao a b (by omega))
  · show am_RI (am_run am_M 248 [.ref 60, .int (nI i), .int y] h) _
    obtain ⟨hm0, ht0, hf0⟩ := m_start hm
    rw [e248]
    generalize am_sI h 60 0 (nI 0) = g at hm0 ht0 hf0 ⊢
    dsimp only
    have hm1 := hm0
    obtain ⟨m1, m2, m3, m4, m5, m6, m7, m8, m9, m10, m11, m12⟩ := hm1
    rw [s236_t m1 ho ht0 hx, am_bI_ok, if_neg (by decide)]
    rw [e247, ml_85 (by omega), m2.il, pz_bit (by omega) (by have := pm_lamps_lt S; omega), hyv]
    have hstk : (if v = 0 then am_vn am_M 1 247 19 [some (.ref 60), some (.int (nI 31)), some (.int (nI i)), none] [(.int (nI 0)), (.int (nI (if (pm_lamps S).testBit i then 1 else 0)))] g else am_vn am_M 1 247 19 [some (.ref 60), some (.int (nI 31)), some (.int (nI i)), none] [(.int (nI 1)), (.int (nI (if (pm_lamps S).testBit i then 1 else 0)))] g) = am_vn am_M 1 247 19 [some (.ref 60), some (.int (nI 31)), some (.int (nI i)), none] [(.int (nI v)), (.int (nI (S (25 + i))))] g := by
      have hl : (if (pm_lamps S).testBit i then 1 else 0) = S (25 + i) := by
        rw [pm_lamps_bit S (by omega)]
        by_cases c : S (25 + i) = 1
        · rw [decide_eq_true c, c]; rfl
        · rw [decide_eq_false c, show S (25 + i) = 0 by omega]; rfl
      rw [hl]
      rcases Nat.le_one_iff_eq_zero_or_eq_one.mp hv with rfl | rfl
      · rw [if_pos rfl]
      · rw [if_neg (by decide)]
    rw [hstk, e247_19]
    rw [if_neg (fun e => hc ((nI_eq (by omega) (by omega)).mp e))]
    obtain ⟨g1, e1, a1, k1⟩ := s221 m3 m2 ha.1
    have s1 : pm_S g1 85 0 S := m2.kp k1 (fun k => decide_eq_false (by omega))
    rw [e1, am_bV_ok, ml_85 (by omega), s1.il, pb_1 (by omega), pz_xor, ← pm_lamps_flip (show i < 6 by omega) hb hv hc, ms_85 (by omega), if_pos (by decide), am_bI_ok, if_neg (by decide), if_pos (by decide)]
    refine ⟨_, _, rfl, fun _ => rfl, ?_, hm0.act (fun a b h0 h1 h2 h3 => ?_) (s1.setl (by omega)) (a1.fr (by rw [am_I_s1 _ _ _ _ (by omega)]) (am_I_s1 _ _ _ _ (by omega))), hf0.trans ((k1.fm fun a b hab => decide_eq_false (by omega)).sI (by omega) _ _)⟩
    · rw [am_I_s1 _ _ _ _ (by omega), k1.get 60 0 (by decide)]; exact ht0
    · rw [am_I_s1 _ _ _ _ (by omega)]
      exact k1.get a b (decide_eq_false (by omega))
theorem call_favour {w : pw_W} (hw : pw_wf w) (x y z : Int32) : am_AG 1 (fun e => e) w (fun h => am_run am_M 14 [.ref 0, .int x, .int y, .int z] h) (fun h => am_run am_M 249 [.ref 60, .int x, .int y, .int z] h) := by
  obtain ⟨d, S, l, t, im, tp, nb, fp, rf⟩ := w
  have hw0 := hw
  obtain ⟨ho, hS, ha, ht, hi, hnb, htp⟩ := hw
  rcases Classical.em (pz_b x (pw_n d 3)) with hx | hx
  rotate_left
  · refine ⟨1, 0, (d, S, l, t, im, tp, nb, fp, rf), hw0, ⟨by omega, fun hh => by first | exact absurd rfl hh | rfl⟩, fun h hc => ?_, fun h hm => ?_⟩
    · have hc0 := hc
      obtain ⟨⟨L, hL, r1, r2, c1⟩, c2, c3, c4, c5, c6, c7, c8, c9⟩ := hc
      refine am_CO_x (by decide) ?_
      show am_run am_M 14 [.ref 0, .int x, .int y, .int z] h = _
      rw [e14, c62_f hL r1 c1 ho hx]
      try rfl
    · show am_RI (am_run am_M 249 [.ref 60, .int x, .int y, .int z] h) _
      obtain ⟨hm0, ht0, hf0⟩ := m_start hm
      rw [e249]
      generalize am_sI h 60 0 (nI 0) = g at hm0 ht0 hf0 ⊢
      dsimp only
      have hm1 := hm0
      obtain ⟨m1, m2, m3, m4, m5, m6, m7, m8, m9, m10, m11, m12⟩ := hm1
      rw [s236_f m1 ho ht0 hx, am_bI_ok, if_pos (by decide), if_pos (by decide)]
      exact ⟨_, _, rfl, am_fin_x hf0 hm0 (by decide)⟩
  obtain ⟨i, hx, rfl⟩ := hx
  rcases Classical.em (pz_b y (pw_n d 1)) with hy | hy
  rotate_left
  · refine ⟨1, 0, (d, S, l, t, im, tp, nb, fp, rf), hw0, ⟨by omega, fun hh => by first | exact absurd rfl hh | rfl⟩, fun h hc => ?_, fun h hm => ?_⟩
    · have hc0 := hc
      obtain ⟨⟨L, hL, r1, r2, c1⟩, c2, c3, c4, c5, c6, c7, c8, c9⟩ := hc
      refine am_CO_x (by decide) ?_
      show am_run am_M 14 [.ref 0, .int (nI i), .int y, .int z] h = _
      rw [e14, c62_t hL r1 c1 ho hx, am_bV_ok, c61_f hL r1 c1 ho hy]
      try rfl
    · show am_RI (am_run am_M 249 [.ref 60, .int (nI i), .int y, .int z] h) _
      obtain ⟨hm0, ht0, hf0⟩ := m_start hm
      rw [e249]
      generalize am_sI h 60 0 (nI 0) = g at hm0 ht0 hf0 ⊢
      dsimp only
      have hm1 := hm0
      obtain ⟨m1, m2, m3, m4, m5, m6, m7, m8, m9, m10, m11, m12⟩ := hm1
      rw [s236_t m1 ho ht0 hx, am_bI_ok, if_neg (by decide), s235_f m1 ho ht0 hy, am_bI_ok, if_pos (by decide), if_pos (by decide)]
      exact ⟨_, _, rfl, am_fin_x hf0 hm0 (by decide)⟩
  obtain ⟨j, hy, rfl⟩ := hy
  have h6 := ho.1.2.2.2.1
  have h4 := ho.1.1
  have hd9 := hS.2.1
  have h9 := ho.1.2.1
  have hb := (hS.1.1 i (by omega)).2.2.2.2.2
  have hfl := pz_flip hb (show j < 9 by omega)
  obtain ⟨v, hyv⟩ : ∃ v : Bool, ∀ (α : Type) (a b : α), (if z = 0 then a else b) = (if v = false then a else b) := by
    by_cases c : z = 0
    · exact ⟨false, fun α a b => by rw [if_pos c, if_pos rfl]⟩
    · exact ⟨true, fun α a b => by rw [if_neg c, if_neg (by decide)]⟩
  by_cases hc : (S (31 + i)).testBit j = v
  · refine ⟨0, (nI 0), (d, S, l, t, im, tp, nb, fp, pu rf 1 (rf 1 + 1)), hw0, ⟨by omega, fun hh => by first | exact absurd rfl hh | rfl⟩, fun h hc => ?_, fun h hm => ?_⟩
    · have hc0 := hc
      obtain ⟨⟨L, hL, r1, r2, c1⟩, c2, c3, c4, c5, c6, c7, c8, c9⟩ := hc
      refine am_CO_0 ?_
      show am_RI (am_run am_M 14 [.ref 0, .int (nI i), .int (nI j), .int z] h) _
      rw [e14, c62_t hL r1 c1 ho hx, am_bV_ok, c61_t hL r1 c1 ho hy, am_bV_ok]
      obtain ⟨g1, e1, f1, f2⟩ := c_refuse hc0 (k := 1) (by omega)
      rw [s151 pc_so20 (show 1 + 5 * 6 + i < 49 by omega), am_bI_ok, show 1 + 5 * 6 + i = 31 + i by omega, c2 _ (by omega), hyv]
      have key : ∀ x : Nat, x < 512 → (nI x = (if v = false then nI (S (31 + i)) &&& ((nI 1 <<< (nI j &&& 31)) ^^^ (-1 : Int32)) else (nI (S (31 + i)) &&& ((nI 1 <<< (nI j &&& 31)) ^^^ (-1 : Int32))) ||| (nI 1 <<< (nI j &&& 31)))) → (if v = false then am_bI [] (am_run am_M 48 [(.ref 0), (.int (nI 5)), (.int (nI i)), (.int (nI (S (31 + i)) &&& ((nI 1 <<< (nI j &&& 31)) ^^^ (-1 : Int32))))] h) (fun x6 g5 => (if x6 &&& 1 = x6 then some (.inl (some (.int x6)), g5) else none)) else am_bI [] (am_run am_M 48 [(.ref 0), (.int (nI 5)), (.int (nI i)), (.int ((nI (S (31 + i)) &&& ((nI 1 <<< (nI j &&& 31)) ^^^ (-1 : Int32))) ||| (nI 1 <<< (nI j &&& 31))))] h) (fun x8 g7 => (if x8 &&& 1 = x8 then some (.inl (some (.int x8)), g7) else none))) = am_bI [] (am_run am_M 48 [(.ref 0), (.int (nI 5)), (.int (nI i)), (.int (nI x))] h) (fun x6 g5 => (if x6 &&& 1 = x6 then some (.inl (some (.int x6)), g5) else none)) := by
        intro x hx e
        cases v with
        | true => rw [if_neg (by decide)] at e ⊢; rw [e]
        | false => rw [if_pos rfl] at e ⊢; rw [e]
      rw [key (S (31 + i)) hb (by rw [hfl.2.1, hfl.1, hc]; cases v <;> rfl), e48, s151 pc_so20 (show 1 + 5 * 6 + i < 49 by omega), am_bI_ok, show 1 + 5 * 6 + i = 31 + i by omega, c2 _ (by omega), if_pos rfl, e1, am_bI_ok, if_pos (by decide), am_bI_ok, if_pos (by decide)]
      exact ⟨_, _, rfl, rfl, f1, f2⟩
    · show am_RI (am_run am_M 249 [.ref 60, .int (nI i), .int (nI j), .int z] h) _
      obtain ⟨hm0, ht0, hf0⟩ := m_start hm
      rw [e249]
      generalize am_sI h 60 0 (nI 0) = g at hm0 ht0 hf0 ⊢
      dsimp only
      have hm1 := hm0
      obtain ⟨m1, m2, m3, m4, m5, m6, m7, m8, m9, m10, m11, m12⟩ := hm1
      rw [s236_t m1 ho ht0 hx, am_bI_ok, if_neg (by decide), s235_t m1 ho ht0 hy, am_bI_ok, if_neg (by decide)]
      obtain ⟨g1, e1, f1, f2, f3⟩ := m_refuse hm0 (k := 1) (by omega)
      rw [nI_add 25 i, e247, ml_85 (by omega), m2.if_ (by omega), pz_bit (by omega) (by omega), hyv]
      have hstk : (if v = false then am_vn am_M 1 247 19 [some (.ref 60), some (.int (nI (25 + i))), some (.int (nI j)), none] [(.int (nI 0)), (.int (nI (if (S (31 + i)).testBit j then 1 else 0)))] g else am_vn am_M 1 247 19 [some (.ref 60), some (.int (nI (25 + i))), some (.int (nI j)), none] [(.int (nI 1)), (.int (nI (if (S (31 + i)).testBit j then 1 else 0)))] g) = am_vn am_M 1 247 19 [some (.ref 60), some (.int (nI (25 + i))), some (.int (nI j)), none] [(.int (nI (if v then 1 else 0))), (.int (nI (if (S (31 + i)).testBit j then 1 else 0)))] g := by
        cases v with
        | true => rw [if_neg (by decide)]; rfl
        | false => rw [if_pos rfl]; rfl
      rw [hstk, e247_19]
      rw [hc, if_pos rfl, e1, am_bI_ok, if_pos (by decide), if_pos (by decide), am_bI_ok, if_pos (by decide), if_pos (by decide)]
      exact ⟨_, _, rfl, fun _ => rfl, f3.trans ht0, f1, hf0.trans f2⟩
  have hSn : pw_SL d (pu S (31 + i) (S (31 + i) ^^^ 2 ^ j)) := pw_SL_pu hS (by omega) (by omega)
  refine ⟨0, (nI 1), (d, pu S (31 + i) (S (31 + i) ^^^ 2 ^ j), pw_keep S l, t, im, tp, nb, fp, rf), ⟨ho, hSn, pw_keep_ok hS ha, ht, hi, hnb, htp⟩, ⟨by omega, fun hh => by first | exact absurd rfl hh | rfl⟩, fun h hc => ?_, fun h hm => ?_⟩
  · have hc0 := hc
    obtain ⟨⟨L, hL, r1, r2, c1⟩, c2, c3, c4, c5, c6, c7, c8, c9⟩ := hc
    refine am_CO_0 ?_
    show am_RI (am_run am_M 14 [.ref 0, .int (nI i), .int (nI j), .int z] h) _
    rw [e14, c62_t hL r1 c1 ho hx, am_bV_ok, c61_t hL r1 c1 ho hy, am_bV_ok]
    rw [s151 pc_so20 (show 1 + 5 * 6 + i < 49 by omega), am_bI_ok, show 1 + 5 * 6 + i = 31 + i by omega, c2 _ (by omega), hyv]
    have key : ∀ x : Nat, x < 512 → (nI x = (if v = false then nI (S (31 + i)) &&& ((nI 1 <<< (nI j &&& 31)) ^^^ (-1 : Int32)) else (nI (S (31 + i)) &&& ((nI 1 <<< (nI j &&& 31)) ^^^ (-1 : Int32))) ||| (nI 1 <<< (nI j &&& 31)))) → (if v = false then am_bI [] (am_run am_M 48 [(.ref 0), (.int (nI 5)), (.int (nI i)), (.int (nI (S (31 + i)) &&& ((nI 1 <<< (nI j &&& 31)) ^^^ (-1 : Int32))))] h) (fun x6 g5 => (if x6 &&& 1 = x6 then some (.inl (some (.int x6)), g5) else none)) else am_bI [] (am_run am_M 48 [(.ref 0), (.int (nI 5)), (.int (nI i)), (.int ((nI (S (31 + i)) &&& ((nI 1 <<< (nI j &&& 31)) ^^^ (-1 : Int32))) ||| (nI 1 <<< (nI j &&& 31))))] h) (fun x8 g7 => (if x8 &&& 1 = x8 then some (.inl (some (.int x8)), g7) else none))) = am_bI [] (am_run am_M 48 [(.ref 0), (.int (nI 5)), (.int (nI i)), (.int (nI x))] h) (fun x6 g5 => (if x6 &&& 1 = x6 then some (.inl (some (.int x6)), g5) else none)) := by
      intro x hx e
      cases v with
      | true => rw [if_neg (by decide)] at e ⊢; rw [e]
      | false => rw [if_pos rfl] at e ⊢; rw [e]
    rw [key (S (31 + i) ^^^ 2 ^ j) hfl.2.2.1 (by rw [hfl.2.1, hfl.1]; cases v <;> cases hq : (S (31 + i)).testBit j <;> first | rfl | exact absurd hq hc), e48, s151 pc_so20 (show 1 + 5 * 6 + i < 49 by omega), am_bI_ok, show 1 + 5 * 6 + i = 31 + i by omega, c2 _ (by omega), if_neg (fun e => hfl.2.2.2 ((nI_eq (by omega) (by omega)).mp e).symm)]
    obtain ⟨g1, e1, a1, k1⟩ := s72 pc_ao22 pc_so20 c3 c2 ha.1
    have s1 : pc_S g1 21 S := c2.kp k1 (fun k => ps_ao 21 k (by omega))
    rw [e1, am_bV_ok, s152 pc_so20 (show 1 + 5 * 6 + i < 49 by omega), am_bV_ok, show 1 + 5 * 6 + i = 31 + i by omega, if_pos (by decide), am_bI_ok, if_pos (by decide)]
    refine ⟨_, _, rfl, rfl, hc0.act k1.R (fun a b h1 h2 h3 => ?_) (s1.set _ _) (a1.fr (am_I_s1 _ _ _ _ (by omega)) (am_I_s1 _ _ _ _ (by omega))), ((k1.fc fun a b hab => ps_ao a b (by omega)).sI (by omega) _ _)⟩
    rw [am_I_s1 _ _ _ _ (by omega)]
    exact k1.get a b (ps_ao a b (by omega))
  · show am_RI (am_run am_M 249 [.ref 60, .int (nI i), .int (nI j), .int z] h) _
    obtain ⟨hm0, ht0, hf0⟩ := m_start hm
    rw [e249]
    generalize am_sI h 60 0 (nI 0) = g at hm0 ht0 hf0 ⊢
    dsimp only
    have hm1 := hm0
    obtain ⟨m1, m2, m3, m4, m5, m6, m7, m8, m9, m10, m11, m12⟩ := hm1
    rw [s236_t m1 ho ht0 hx, am_bI_ok, if_neg (by decide), s235_t m1 ho ht0 hy, am_bI_ok, if_neg (by decide)]
    rw [nI_add 25 i, e247, ml_85 (by omega), m2.if_ (by omega), pz_bit (by omega) (by omega), hyv]
    have hstk : (if v = false then am_vn am_M 1 247 19 [some (.ref 60), some (.int (nI (25 + i))), some (.int (nI j)), none] [(.int (nI 0)), (.int (nI (if (S (31 + i)).testBit j then 1 else 0)))] g else am_vn am_M 1 247 19 [some (.ref 60), some (.int (nI (25 + i))), some (.int (nI j)), none] [(.int (nI 1)), (.int (nI (if (S (31 + i)).testBit j then 1 else 0)))] g) = am_vn am_M 1 247 19 [some (.ref 60), some (.int (nI (25 + i))), some (.int (nI j)), none] [(.int (nI (if v then 1 else 0))), (.int (nI (if (S (31 + i)).testBit j then 1 else 0)))] g := by
      cases v with
      | true => rw [if_neg (by decide)]; rfl
      | false => rw [if_pos rfl]; rfl
    rw [hstk, e247_19]
    rw [if_neg (by cases v <;> cases hq : (S (31 + i)).testBit j <;> first | decide | exact absurd hq hc)]
    obtain ⟨g1, e1, a1, k1⟩ := s221 m3 m2 ha.1
    have s1 : pm_S g1 85 0 S := m2.kp k1 (fun k => decide_eq_false (by omega))
    rw [e1, am_bV_ok, ml_85 (by omega), s1.if_ (by omega), pb_1 (by omega), pz_xor, ms_85 (by omega), if_pos (by decide), am_bI_ok, if_neg (by decide), if_pos (by decide)]
    refine ⟨_, _, rfl, fun _ => rfl, ?_, hm0.act (fun a b h0 h1 h2 h3 => ?_) (s1.setf (by omega) _) (a1.fr (by rw [am_I_s1 _ _ _ _ (by omega)]) (am_I_s1 _ _ _ _ (by omega))), hf0.trans ((k1.fm fun a b hab => decide_eq_false (by omega)).sI (by omega) _ _)⟩
    · rw [am_I_s1 _ _ _ _ (by omega), k1.get 60 0 (by decide)]; exact ht0
    · rw [am_I_s1 _ _ _ _ (by omega)]
      exact k1.get a b (decide_eq_false (by omega))
theorem call_days {w : pw_W} (hw : pw_wf w) (x : Int32) : am_AG 0 (fun e => e) w (fun h => am_run am_M 10 [.ref 0, .int x] h) (fun h => am_run am_M 244 [.ref 60, .int x] h) := by
  obtain ⟨d, S, l, t, im, tp, nb, fp, rf⟩ := w
  have hw0 := hw
  obtain ⟨ho, hS, ha, ht, hi, hnb, htp⟩ := hw
  have h6 := ho.1.2.2.2.1
  have h4 := ho.1.1
  have hd9 := hS.2.1
  have h9 := ho.1.2.1
  rcases Classical.em (pz_w x 1 30) with hx | hx
  rotate_left
  · refine ⟨0, (-1 : Int32), (d, S, l, t, im, tp, nb, fp, pu rf 1 (rf 1 + 1)), hw0, ⟨by omega, fun hh => by first | exact absurd rfl hh | rfl⟩, fun h hc => ?_, fun h hm => ?_⟩
    · have hc0 := hc
      obtain ⟨⟨L, hL, r1, r2, c1⟩, c2, c3, c4, c5, c6, c7, c8, c9⟩ := hc
      refine am_CO_0 ?_
      show am_RI (am_run am_M 10 [.ref 0, .int x] h) _
      rw [e10]
      obtain ⟨g1, e1, f1, f2⟩ := c_refuse hc0 (k := 1) (by omega)
      rcases pz_w_n (by omega) (by omega) hx with c | c
      · rw [if_pos c, e1, am_bI_ok]
        exact ⟨_, _, rfl, rfl, f1, f2⟩
      · by_cases c0 : x < nI 1
        · rw [if_pos c0, e1, am_bI_ok]
          exact ⟨_, _, rfl, rfl, f1, f2⟩
        · rw [if_neg c0, if_pos c, e1, am_bI_ok]
          exact ⟨_, _, rfl, rfl, f1, f2⟩
    · show am_RI (am_run am_M 244 [.ref 60, .int x] h) _
      obtain ⟨hm0, ht0, hf0⟩ := m_start hm
      rw [e244]
      generalize am_sI h 60 0 (nI 0) = g at hm0 ht0 hf0 ⊢
      dsimp only
      have hm1 := hm0
      obtain ⟨m1, m2, m3, m4, m5, m6, m7, m8, m9, m10, m11, m12⟩ := hm1
      obtain ⟨g1, e1, f1, f2, f3⟩ := m_refuse hm0 (k := 1) (by omega)
      rw [s180_f x hx (by omega) (by omega), am_bI_ok, if_pos (by decide), e1, am_bI_ok]
      exact ⟨_, _, rfl, fun _ => rfl, f3.trans ht0, f1, hf0.trans f2⟩
  obtain ⟨n, hn1, hn2, rfl⟩ := hx
  by_cases hd : 999 < S 0 + n
  · refine ⟨0, (-1 : Int32), (d, S, l, t, im, tp, nb, fp, pu rf 1 (rf 1 + 1)), hw0, ⟨by omega, fun hh => by first | exact absurd rfl hh | rfl⟩, fun h hc => ?_, fun h hm => ?_⟩
    · have hc0 := hc
      obtain ⟨⟨L, hL, r1, r2, c1⟩, c2, c3, c4, c5, c6, c7, c8, c9⟩ := hc
      refine am_CO_0 ?_
      show am_RI (am_run am_M 10 [.ref 0, .int (nI n)] h) _
      rw [e10]
      obtain ⟨g1, e1, f1, f2⟩ := c_refuse hc0 (k := 1) (by omega)
      rw [if_neg (nI_nlt hn1 (by omega)), if_neg (nI_nlt hn2 (by omega)), s149 pc_so20, am_bI_ok, c2 0 (by omega), nI_add, if_neg (nI_ge hd (by omega)), e1, am_bI_ok]
      exact ⟨_, _, rfl, rfl, f1, f2⟩
    · show am_RI (am_run am_M 244 [.ref 60, .int (nI n)] h) _
      obtain ⟨hm0, ht0, hf0⟩ := m_start hm
      rw [e244]
      generalize am_sI h 60 0 (nI 0) = g at hm0 ht0 hf0 ⊢
      dsimp only
      have hm1 := hm0
      obtain ⟨m1, m2, m3, m4, m5, m6, m7, m8, m9, m10, m11, m12⟩ := hm1
      obtain ⟨g1, e1, f1, f2, f3⟩ := m_refuse hm0 (k := 1) (by omega)
      rw [s180_t hn1 hn2 (by omega), am_bI_ok, if_neg (by decide), ml_85 (by omega), m2.i0 (by omega), nI_add, if_neg (nI_ge hd (by omega)), e1, am_bI_ok]
      exact ⟨_, _, rfl, fun _ => rfl, f3.trans ht0, f1, hf0.trans f2⟩
  have hT := py_days_T ho 1000 1000 hS.1 n
  have hSn : pw_SL d (py_days d 1000 1000 S n) := ⟨hT.1, by omega, fun k hk => by rw [hT.2.2.1 _ (by omega)]; exact hS.2.2 k hk⟩
  refine ⟨0, (nI (S 0 + n)), (d, py_days d 1000 1000 S n, pw_keep S l, t, im, tp, nb, fp, rf), ⟨ho, hSn, pw_keep_ok hS ha, ht, hi, hnb, htp⟩, ⟨by omega, fun hh => by first | exact absurd rfl hh | rfl⟩, fun h hc => ?_, fun h hm => ?_⟩
  · have hc0 := hc
    obtain ⟨⟨L, hL, r1, r2, c1⟩, c2, c3, c4, c5, c6, c7, c8, c9⟩ := hc
    refine am_CO_0 ?_
    show am_RI (am_run am_M 10 [.ref 0, .int (nI n)] h) _
    rw [e10]
    rw [if_neg (nI_nlt hn1 (by omega)), if_neg (nI_nlt hn2 (by omega)), s149 pc_so20, am_bI_ok, c2 0 (by omega), nI_add, if_pos (nI_le (by omega) (by omega))]
    refine pz_VI (s72 pc_ao22 pc_so20 c3 c2 ha.1) fun g1 hg1 => ?_
    obtain ⟨a1, k1⟩ := hg1
    have s1 : pc_S g1 21 S := c2.kp k1 (fun k => ps_ao 21 k (by omega))
    have c1a := c1.kp k1 (fun a b hab => ps_ao a b (by unfold pc_rl at hab; unfold pc_lo at hL; omega))
    refine pz_VI (s137 (S := S) s1 pc_so20 (by omega)) fun g2 hg2 => ?_
    obtain ⟨y2, k2⟩ := hg2
    rw [k2.R, k1.R, r1, am_gr_n]
    refine pz_VI (s138 hL (c1a.kp k2 (ps_YL hL)) ho y2 hS.1 (by omega) (n := n) (by omega)) fun g3 hg3 => ?_
    obtain ⟨y3, k3⟩ := hg3
    have kk : am_kp (fun i k => ps_Y i k || decide (i = 22 ∨ i = 22 + 1)) h g3 := ((k1.up fun a b hab => (Bool.or_eq_false_iff.mp hab).2).trans (k2.up fun a b hab => (Bool.or_eq_false_iff.mp hab).1)).trans (k3.up fun a b hab => (Bool.or_eq_false_iff.mp hab).1)
    have a3 : pc_A g3 22 (pw_keep S l) := (a1.fr (funext fun k => k2.get 22 k (ps_Y_f (by omega))) (funext fun k => k2.get 23 k (ps_Y_f (by omega)))).fr (funext fun k => k3.get 22 k (ps_Y_f (by omega))) (funext fun k => k3.get 23 k (ps_Y_f (by omega)))
    rw [s156 pc_so20 pc_so35 (by omega), am_bV_ok]
    have s4 : pc_S (pz_wr g3 21 fun b => if 0 ≤ b ∧ b < 0 + 49 then am_I g3 (35 + 1) (0 + (b - 0)) else am_I g3 21 b) 21 (py_days d 1000 1000 S n) := fun i hi => by
      rw [am_I_w]
      show (if _ then _ else _) = _
      rw [if_pos (by omega), show 0 + (i - 0) = i by omega]
      exact y3.1 i hi
    show am_RI (am_bI [] (am_run am_M 149 [.ref 20] (pz_wr g3 21 fun b => if 0 ≤ b ∧ b < 0 + 49 then am_I g3 (35 + 1) (0 + (b - 0)) else am_I g3 21 b)) _) _
    rw [s149 pc_so20, am_bI_ok, s4 0 (by omega), hT.2.1]
    refine ⟨_, _, rfl, rfl, hc0.act kk.R (fun a b h1 h2 h3 => ?_) s4 (a3.fr (am_I_w1 _ _ _ (by omega)) (am_I_w1 _ _ _ (by omega))), ((kk.fc fun a b hab => ?_).wr (by omega) _)⟩
    · rw [am_I_w1 _ _ _ (by omega)]
      exact kk.get a b (by rw [ps_YC h2, decide_eq_false (by omega)]; rfl)
    · rw [ps_Y_f (by omega), decide_eq_false (by omega)]; rfl
  · show am_RI (am_run am_M 244 [.ref 60, .int (nI n)] h) _
    obtain ⟨hm0, ht0, hf0⟩ := m_start hm
    rw [e244]
    generalize am_sI h 60 0 (nI 0) = g at hm0 ht0 hf0 ⊢
    dsimp only
    have hm1 := hm0
    obtain ⟨m1, m2, m3, m4, m5, m6, m7, m8, m9, m10, m11, m12⟩ := hm1
    rw [s180_t hn1 hn2 (by omega), am_bI_ok, if_neg (by decide), ml_85 (by omega), m2.i0 (by omega), nI_add, if_pos (nI_le (by omega) (by omega))]
    refine pz_VI (s221 m3 m2 ha.1) fun g1 hg1 => ?_
    obtain ⟨a1, k1⟩ := hg1
    have s1 : pm_S g1 85 0 S := m2.kp k1 (fun k => decide_eq_false (by omega))
    have m1a : pm_L g1 d := m1.kp k1 fun a b hab => decide_eq_false (by omega)
    rw [s183 (r := 61) (q := 90) (n := 4) (m := 4) rfl (by omega) rfl (by omega) (by omega) (by omega) (by omega), am_bV_ok]
    have k2 : am_kp (fun i k => decide (i = 60 ∧ k = 58 ∨ i = 87 ∨ i = 90)) g (pz_wr g1 90 fun j => if j < 4 then am_I g1 61 j else am_I g1 90 j) := (k1.up fun a b hab => decide_eq_false (by have := of_decide_eq_false hab; omega)).wr _ (fun k => decide_eq_true (by omega))
    have y2 : pm_Y (pz_wr g1 90 fun j => if j < 4 then am_I g1 61 j else am_I g1 90 j) d 85 S 1000 1000 := by
      refine ⟨s1.fr (am_I_w1 _ _ _ (by omega)), fun k hk => ?_, ?_, ?_⟩
      · rw [am_I_w]
        show (if k < 4 then _ else _) = _
        rw [if_pos (by omega), m1a.2.2.2.2.2.2.1 k hk, hS.2.2 k hk]
      · rw [am_I_w1 _ _ _ (by omega), k1.get 60 62 (by decide)]; exact m11
      · rw [am_I_w1 _ _ _ (by omega), k1.get 60 63 (by decide)]; exact m12
    have a2 : pm_A (pz_wr g1 90 fun j => if j < 4 then am_I g1 61 j else am_I g1 90 j) 58 87 (pw_keep S l) := a1.fr (by rw [am_I_w1 _ _ _ (by omega)]) (am_I_w1 _ _ _ (by omega))
    have L2 : pm_L (pz_wr g1 90 fun j => if j < 4 then am_I g1 61 j else am_I g1 90 j) d := m1.kp k2 fun a b hab => decide_eq_false (by omega)
    generalize (pz_wr g1 90 fun j => if j < 4 then am_I g1 61 j else am_I g1 90 j) = g2 at *
    obtain ⟨g3, e, hp⟩ := am_for0 (fun k (g' : am_H) => am_vn am_M 5 244 53 [some (.ref 60), some (.int (nI n)), some (.int (nI k))] [] g') (fun k g' => pm_Y g' d 85 (py_days d 1000 1000 S k) 1000 1000 ∧ am_kp (ps_d 85) g2 g') n g2 ⟨y2, am_kp.refl _ _⟩ (fun k g' hk hg => by
      obtain ⟨y, kp⟩ := hg
      obtain ⟨G, hG⟩ := pz_any (am_I g' 60 69)
      have hTk := py_days_T ho 1000 1000 hS.1 k
      obtain ⟨v, g4, e4, hv, y4, -, k4⟩ := s230 (sn := pw_sn d (py_days d 1000 1000 S k 0)) (Or.inl rfl) ho (L2.kd (Or.inl rfl) kp) y (Or.inl ⟨by rw [kp.get 60 61 (ps_d_f (by omega)), k2.get 60 61 (by decide)]; exact m10, rfl⟩) hTk.1 (by omega) (by have := pw_sn_le ho (py_days d 1000 1000 S k 0); omega) hG
      refine ⟨g4, ?_, y4, kp.trans k4⟩
      rw [e244_53, if_neg (nI_ge hk (by omega)), e4, am_bI_ok, pz_succ])
    obtain ⟨y, kp⟩ := hp
    refine Eq.mpr (congrArg (fun o => am_RI o _) e) ?_
    rw [e244_53, if_pos (nI_le (Nat.le_refl _) (by omega)), ml_85 (by omega), y.1.i0 (by omega), hT.2.1]
    have kk : am_kp (fun i k => decide (i = 60 ∧ k = 58 ∨ i = 87 ∨ i = 90) || ps_d 85 i k) g g3 := (k2.up fun a b hab => (Bool.or_eq_false_iff.mp hab).1).trans (kp.up fun a b hab => (Bool.or_eq_false_iff.mp hab).2)
    refine ⟨_, _, rfl, fun _ => rfl, ?_, hm0.act (fun a b h0 h1 h2 h3 => ?_) y.1 (a2.fr (kp.get 60 58 (ps_d_f (by omega))) (funext fun k => kp.get 87 k (ps_d_f (by omega)))), hf0.trans (kk.fm fun a b hab => ?_)⟩
    · rw [kk.get 60 0 (by decide)]; exact ht0
    · refine kk.get a b ?_
      have := of_decide_eq_false h2
      rw [ps_d_f (by omega), decide_eq_false (by omega)]; rfl
    · rw [ps_d_f (by omega), decide_eq_false (by omega)]; rfl
