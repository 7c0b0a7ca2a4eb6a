/-! CALLS: wood, winters -/
theorem pz_subI {c w : Nat} (hc : c < 2 ^ 30) (hw : w < 2 ^ 30) : (if nI 0 < nI c - nI w then nI c - nI w else nI 0) = nI (c - w) ∧ (if 0 ≤ nI c - nI w then nI c - nI w else nI 0) = nI (c - w) := by
  by_cases h : w ≤ c
  · rw [pk_sub h, if_pos (nI_pos' (by omega))]
    refine ⟨?_, rfl⟩
    by_cases z : c - w = 0
    · rw [z]; rfl
    · rw [if_pos (nI_lt (by omega) (by omega))]
  · have hn := pk_sneg hw (show c < w by omega)
    have e : c - w = 0 := by omega
    rw [e]
    constructor
    · rw [if_neg (fun h => by
        rw [Int32.lt_iff_toInt_lt] at h hn
        have e1 : (0 : Int32).toInt = 0 := by decide
        have e2 : (nI 0).toInt = 0 := by decide
        omega)]
    · rw [if_neg (fun h => by
        rw [Int32.le_iff_toInt_le] at h
        rw [Int32.lt_iff_toInt_lt] at hn
        omega)]
theorem pz_add0 (c w : Nat) : nI 0 - nI w + nI c = nI c - nI w := by
  rw [Int32.sub_eq_add_neg, Int32.sub_eq_add_neg, nI_0, Int32.zero_add, Int32.add_comm]
theorem pz_add1 (x : Int32) (c : Nat) : x + nI c + nI 1 = x + nI (c + 1) := by
  rw [Int32.add_assoc, nI_add]
theorem pz_addz (x : Int32) : x + nI 0 = x := by rw [nI_0, Int32.add_zero]
theorem call_wood {w : pw_W} (hw : pw_wf w) (x y : Int32) : am_AG 2 (fun e => e) w (fun h => am_run am_M 27 [.ref 0, .int x, .int y] h) (fun h => am_run am_M 271 [.ref 60, .int x, .int y] h) := by
  obtain ⟨d, S, l, t, im, tp, nb, fp, rf⟩ := w
  have hw0 := hw
  obtain ⟨ho, hS, ha, ht, hi, hnb, htp⟩ := hw
  rcases Classical.em (pz_b x (pw_n d 3)) with hx | hx
  rotate_left
  · refine ⟨1, 0, (d, S, l, t, im, tp, nb, fp, rf), hw0, ⟨by omega, fun hh => by first | exact absurd rfl hh | rfl⟩, fun h hc => ?_, fun h hm => ?_⟩
    · have hc0 := hc
      obtain ⟨⟨L, hL, r1, r2, c1⟩, c2, c3, c4, c5, c6, c7, c8, c9⟩ := hc
      refine am_CO_x (by decide) ?_
      show am_run am_M 27 [.ref 0, .int x, .int y] h = _
      rw [e27, c62_f hL r1 c1 ho hx]
      rfl
    · show am_RI (am_run am_M 271 [.ref 60, .int x, .int y] h) _
      obtain ⟨hm0, ht0, hf0⟩ := m_start hm
      rw [e271]
      generalize am_sI h 60 0 (nI 0) = g at hm0 ht0 hf0 ⊢
      dsimp only
      have hm1 := hm0
      obtain ⟨m1, m2, m3, m4, m5, m6, m7, m8, m9, m10, m11, m12⟩ := hm1
      rw [s236_f m1 ho ht0 hx, am_bI_ok, if_pos (by decide)]
      exact ⟨_, _, rfl, am_fin_x hf0 hm0 (by decide)⟩
  obtain ⟨i, hx, rfl⟩ := hx
  rcases Classical.em (pz_b y 100) with hy | hy
  rotate_left
  · refine ⟨2, 0, (d, S, l, t, im, tp, nb, fp, rf), hw0, ⟨by omega, fun hh => by first | exact absurd rfl hh | rfl⟩, fun h hc => ?_, fun h hm => ?_⟩
    · have hc0 := hc
      obtain ⟨⟨L, hL, r1, r2, c1⟩, c2, c3, c4, c5, c6, c7, c8, c9⟩ := hc
      refine am_CO_x (by decide) ?_
      show am_run am_M 27 [.ref 0, .int (nI i), .int y] h = _
      rw [e27, c62_t hL r1 c1 ho hx, am_bV_ok, c65_f (m := 99) (by omega) hy]
      rfl
    · show am_RI (am_run am_M 271 [.ref 60, .int (nI i), .int y] h) _
      obtain ⟨hm0, ht0, hf0⟩ := m_start hm
      rw [e271]
      generalize am_sI h 60 0 (nI 0) = g at hm0 ht0 hf0 ⊢
      dsimp only
      have hm1 := hm0
      obtain ⟨m1, m2, m3, m4, m5, m6, m7, m8, m9, m10, m11, m12⟩ := hm1
      rw [s236_t m1 ho ht0 hx, am_bI_ok, if_neg (by decide), s262_f ht0 hy (e := 2) (by omega), am_bI_ok, if_pos (by decide)]
      exact ⟨_, _, rfl, am_fin_x hf0 hm0 (by decide)⟩
  obtain ⟨j, hy, rfl⟩ := hy
  have h6 := ho.1.2.2.2.1
  have h4 := ho.1.1
  have hd9 := hS.2.1
  refine ⟨0, (nI (pz_cnt (fun k => decide (pw_sn d (S 0 + k) ≠ 0)) j - S (7 + i))), (d, S, l, t, im, tp, nb, fp, rf), hw0, ⟨by omega, fun hh => by first | exact absurd rfl hh | rfl⟩, fun h hc => ?_, fun h hm => ?_⟩
  · have hc0 := hc
    obtain ⟨⟨L, hL, r1, r2, c1⟩, c2, c3, c4, c5, c6, c7, c8, c9⟩ := hc
    refine am_CO_0 ?_
    show am_RI (am_run am_M 27 [.ref 0, .int (nI i), .int (nI j)] h) _
    rw [e27, c62_t hL r1 c1 ho hx, am_bV_ok, c65_t (m := 99) (by omega) hy, am_bV_ok]
    obtain ⟨g, e, hp⟩ := am_for0 (fun k (g : am_H) => am_vn am_M 2 27 16 [some (.ref 0), some (.int (nI i)), some (.int (nI j)), some (.int (nI (pz_cnt (fun k => decide (pw_sn d (S 0 + k) ≠ 0)) k))), some (.int (nI k))] [] g) (fun k g => g = h) j h rfl (fun k g hk hg => by
      subst hg
      have hsn := pw_sn_le ho (S 0 + k)
      refine ⟨g, ?_, rfl⟩
      rw [e27_16, if_neg (nI_ge hk (by omega)), r1, am_gr_n, s149 pc_so20, am_bI_ok, c2 0 (by omega), pc_lch hL, nI_add, s97d hL c1 ho (by omega), am_bI_ok, pz_cnt]
      by_cases cc : pw_sn d (S 0 + k) = 0
      · rw [if_pos (by rw [cc]; rfl), decide_eq_false (fun h => h cc), if_neg (by decide), pz_succ]; rfl
      · rw [if_neg (nI_ne0 (by omega) (by omega)), decide_eq_true cc, if_pos rfl, pz_succ, pz_succ])
    rw [hp] at e
    refine Eq.mpr (congrArg (fun o => am_RI o _) e) ?_
    have hcl := pz_cnt_le (fun k => decide (pw_sn d (S 0 + k) ≠ 0)) j
    have hw7 := (hS.1.1 i (by omega)).2.1
    rw [e27_16, if_pos (nI_le (Nat.le_refl _) (by omega)), s151 pc_so20 (show 1 + 1 * 6 + i < 49 by omega), am_bI_ok, show 1 + 1 * 6 + i = 7 + i by omega, c2 _ (by omega), (pz_subI (by omega) (by omega)).1]
    exact ⟨_, _, rfl, rfl, hc0, am_fc.refl _⟩
  · show am_RI (am_run am_M 271 [.ref 60, .int (nI i), .int (nI j)] h) _
    obtain ⟨hm0, ht0, hf0⟩ := m_start hm
    rw [e271]
    generalize am_sI h 60 0 (nI 0) = g at hm0 ht0 hf0 ⊢
    dsimp only
    have hm1 := hm0
    obtain ⟨m1, m2, m3, m4, m5, m6, m7, m8, m9, m10, m11, m12⟩ := hm1
    rw [s236_t m1 ho ht0 hx, am_bI_ok, if_neg (by decide), s262_t ht0 hy _, am_bI_ok, if_neg (by decide)]
    rw [nI_add 7 i, ml_85 (by omega), m2.i0 (by omega)]
    obtain ⟨g', e, hp⟩ := am_for0 (fun k (g : am_H) => am_vn am_M 2 271 39 [some (.ref 60), none, some (.int (nI j)), some (.int (nI 0 - nI (S (7 + i)) + nI (pz_cnt (fun k => decide (pw_sn d (S 0 + k) ≠ 0)) k))), some (.int (nI k))] [] g) (fun k g' => g' = g) j g rfl (fun k g' hk hg => by
      subst hg
      have hsn := pw_sn_le ho (S 0 + k)
      refine ⟨g', ?_, rfl⟩
      rw [e271_39, if_neg (nI_ge hk (by omega)), ml_85 (by omega), m2.i0 (by omega), nI_add (S 0) k, s226 m1 ho (Or.inl ⟨m10, rfl⟩) (by omega), am_bI_ok, pz_cnt]
      by_cases cc : pw_sn d (S 0 + k) = 0
      · rw [if_pos (by rw [cc]; rfl), decide_eq_false (fun h => h cc), if_neg (by decide), pz_succ, pz_addz]; rfl
      · rw [if_neg (nI_ne0 (by omega) (by omega)), decide_eq_true cc, if_pos rfl, pz_succ, pz_add1])
    rw [hp] at e
    have e0 : nI 0 - nI (S (7 + i)) + nI (pz_cnt (fun k => decide (pw_sn d (S 0 + k) ≠ 0)) 0) = nI 0 - nI (S (7 + i)) := pz_addz _
    rw [e0] at e
    refine Eq.mpr (congrArg (fun o => am_RI o _) e) ?_
    have hcl := pz_cnt_le (fun k => decide (pw_sn d (S 0 + k) ≠ 0)) j
    have hw7 := (hS.1.1 i (by omega)).2.1
    have hps := (pz_subI (c := pz_cnt (fun k => decide (pw_sn d (S 0 + k) ≠ 0)) j) (w := S (7 + i)) (by omega) (by omega)).2
    rw [e271_39, if_pos (nI_le (Nat.le_refl _) (by omega)), pz_add0]
    by_cases cc : 0 ≤ nI (pz_cnt (fun k => decide (pw_sn d (S 0 + k) ≠ 0)) j) - nI (S (7 + i))
    · rw [if_pos cc] at hps ⊢
      exact ⟨_, _, rfl, am_fin_m hf0 hm0 (am_kp.refl _ _) ht0 (fun _ => hps)⟩
    · rw [if_neg cc] at hps ⊢
      exact ⟨_, _, rfl, am_fin_m hf0 hm0 (am_kp.refl _ _) ht0 (fun _ => hps)⟩
theorem s180_60 {k : Nat} {h : am_H} (hk : k < 60 + 1) : am_run am_M 180 [.int (nI k), .int (nI 0), .int (nI 60)] h = some (.inl (some (.int (nI 1))), h) := by
  rw [s180 (by omega) (by omega) (by omega), if_pos (by omega)]
/-- what the model's winters write -/
def ps_G (i k : Nat) : Bool := decide (i = 86 ∨ i = 88 ∨ i = 89 ∨ i = 90 ∨ i = 60 ∧ (k = 61 ∨ k = 69 ∨ k = 73))
theorem ps_G_t {i k : Nat} (h : i = 86 ∨ i = 88 ∨ i = 89 ∨ i = 90 ∨ i = 60 ∧ (k = 61 ∨ k = 69 ∨ k = 73)) : ps_G i k = true := decide_eq_true h
theorem ps_G_f {i k : Nat} (h : ¬ (i = 86 ∨ i = 88 ∨ i = 89 ∨ i = 90 ∨ i = 60 ∧ (k = 61 ∨ k = 69 ∨ k = 73))) : ps_G i k = false := decide_eq_false h
theorem ps_GN {i k : Nat} (h : ps_G i k = false) : (fun i _ => decide (i = 86 ∨ i = 90) : Nat → Nat → Bool) i k = false := by
  have := of_decide_eq_false h
  exact decide_eq_false (by omega)
theorem ps_dG {i k : Nat} (h : ps_G i k = false) : ps_d 86 i k = false := by
  have := of_decide_eq_false h
  exact ps_d_f (by omega)
theorem ps_GM {i k : Nat} (h : ps_M i k = false) (e : ¬ (i = 60 ∧ k = 61)) : ps_G i k = false := by
  have := of_decide_eq_false h
  exact ps_G_f (by omega)
theorem ps_GL (i k : Nat) (h : i = 60 ∧ 1 ≤ k ∧ k ≤ 7 ∨ 61 ≤ i ∧ i ≤ 69) : ps_G i k = false := ps_G_f (by omega)
section
variable {h : am_H} {d : pw_L} {X : (Nat → Nat) × Int32}
/-- the draws ahead of a model's day -/
theorem m_draw (hL : pm_L h d) (ho : pw_ok d) (hY : pm_Y h d 86 X.1 1000 1000) (hx : am_I h 60 73 = X.2) (hb : pw_S X.1) (a b c e f : Int32) :
    ∃ g, (am_bI [] (am_run am_M 295 [(.ref 60), (.int (nI 10))] h) fun x14 g13 => (fun g15 => (if (am_I g15 60 1) ≤ 0 then am_vn am_M 5 296 142 [some (.ref 60), none, some (.int a), some (.int b), some (.int c), some (.int e), some (.int f), none, none] [] g15 else am_bI [] (am_run am_M 295 [(.ref 60), (.int (am_I g15 60 1))] g15) fun x17 g16 => am_bI [] (am_run am_M 295 [(.ref 60), (.int (nI 3))] g16) fun x19 g18 => (if x19 = 0 then am_il 100 90 x17 g18 fun x20 => am_bI [] (am_run am_M 182 [(.int (nI 20)), (.int (x20 + (nI 1)))] g18) fun x22 g21 => am_is 100 90 16 x17 x22 g21 fun g23 => am_vn am_M 5 296 115 [some (.ref 60), none, some (.int a), some (.int b), some (.int c), some (.int e), some (.int f), some (.int x17), some (.int x19)] [] g23 else am_vn am_M 5 296 115 [some (.ref 60), none, some (.int a), some (.int b), some (.int c), some (.int e), some (.int f), some (.int x17), some (.int x19)] [] g18))) (am_sI g13 60 61 x14)) = am_vn am_M 5 296 142 [some (.ref 60), none, some (.int a), some (.int b), some (.int c), some (.int e), some (.int f), none, none] [] g
      ∧ pm_Y g d 86 (pg_1 d X.1 X.2).1 1000 1000 ∧ am_I g 60 73 = (pg_1 d X.1 X.2).2.1 ∧ am_I g 60 61 = nI (pg_1 d X.1 X.2).2.2 ∧ am_kp ps_G h g := by
  obtain ⟨S, x⟩ := X
  dsimp only at hY hx hb ⊢
  have h4 := ho.1.1
  rw [s295 (by omega) (by omega) hx, am_bI_ok]
  have kp1 : am_kp ps_G h (am_sI (am_sI h 60 73 (pg_next x)) 60 61 (nI (pg_bits (pg_next x) % 10))) := ((am_kp.refl _ _).sI _ (ps_G_t (by omega))).sI _ (ps_G_t (by omega))
  have e1 : am_I (am_sI (am_sI h 60 73 (pg_next x)) 60 61 (nI (pg_bits (pg_next x) % 10))) 60 1 = nI (pw_n d 0) := by
    rw [kp1.get 60 1 (ps_G_f (by omega))]; exact hL.1 0 (by omega)
  have hY1 : pm_Y (am_sI (am_sI h 60 73 (pg_next x)) 60 61 (nI (pg_bits (pg_next x) % 10))) d 86 S 1000 1000 := by
    refine ⟨(hY.1.oth (by omega) _ _).oth (by omega) _ _, fun k hk => ?_, ?_, ?_⟩
    · rw [am_I_s1 _ _ _ _ (by omega), am_I_s1 _ _ _ _ (by omega)]; exact hY.2.1 k hk
    · rw [am_I_s2 _ _ _ _ (by omega), am_I_s2 _ _ _ _ (by omega)]; exact hY.2.2.1
    · rw [am_I_s2 _ _ _ _ (by omega), am_I_s2 _ _ _ _ (by omega)]; exact hY.2.2.2
  have x1 : am_I (am_sI (am_sI h 60 73 (pg_next x)) 60 61 (nI (pg_bits (pg_next x) % 10))) 60 73 = pg_next x := by
    rw [am_I_s2 _ _ _ _ (by omega), am_I_s]
  have c1 : am_I (am_sI (am_sI h 60 73 (pg_next x)) 60 61 (nI (pg_bits (pg_next x) % 10))) 60 61 = nI (pg_bits (pg_next x) % 10) := am_I_s _ _ _ _
  try dsimp only
  generalize am_sI (am_sI h 60 73 (pg_next x)) 60 61 (nI (pg_bits (pg_next x) % 10)) = g1 at *
  rw [e1]
  by_cases cn : pw_n d 0 = 0
  · have ee : pg_1 d S x = (S, pg_next x, pg_bits (pg_next x) % 10) := if_pos cn
    rw [cn, if_pos (by decide), ee]
    exact ⟨g1, rfl, hY1, x1, c1, kp1⟩
  · have ee : pg_1 d S x = _ := if_neg cn
    have hm : pg_bits (pg_next (pg_next x)) % pw_n d 0 < pw_n d 0 := Nat.mod_lt _ (by omega)
    have hm3 : pg_bits (pg_next (pg_next (pg_next x))) % 3 < 3 := Nat.mod_lt _ (by omega)
    rw [if_neg (nI_nle (by omega) (by omega)), s295 (by omega) (by omega) x1, am_bI_ok, s295 (by omega) (by omega) (am_I_s _ _ _ _), am_bI_ok]
    have kp3 : am_kp ps_G h (am_sI (am_sI g1 60 73 (pg_next (pg_next x))) 60 73 (pg_next (pg_next (pg_next x)))) := (kp1.sI _ (ps_G_t (by omega))).sI _ (ps_G_t (by omega))
    have hY3 : pm_Y (am_sI (am_sI g1 60 73 (pg_next (pg_next x))) 60 73 (pg_next (pg_next (pg_next x)))) d 86 S 1000 1000 := by
      refine ⟨(hY1.1.oth (by omega) _ _).oth (by omega) _ _, fun k hk => ?_, ?_, ?_⟩
      · rw [am_I_s1 _ _ _ _ (by omega), am_I_s1 _ _ _ _ (by omega)]; exact hY1.2.1 k hk
      · rw [am_I_s2 _ _ _ _ (by omega), am_I_s2 _ _ _ _ (by omega)]; exact hY1.2.2.1
      · rw [am_I_s2 _ _ _ _ (by omega), am_I_s2 _ _ _ _ (by omega)]; exact hY1.2.2.2
    have x3 : am_I (am_sI (am_sI g1 60 73 (pg_next (pg_next x))) 60 73 (pg_next (pg_next (pg_next x)))) 60 73 = pg_next (pg_next (pg_next x)) := am_I_s _ _ _ _
    have c3 : am_I (am_sI (am_sI g1 60 73 (pg_next (pg_next x))) 60 73 (pg_next (pg_next (pg_next x)))) 60 61 = nI (pg_bits (pg_next x) % 10) := by
      rw [am_I_s2 _ _ _ _ (by omega), am_I_s2 _ _ _ _ (by omega)]; exact c1
    generalize am_sI (am_sI g1 60 73 (pg_next (pg_next x))) 60 73 (pg_next (pg_next (pg_next x))) = g3 at *
    have b20 := (hb.2 _ (show pg_bits (pg_next (pg_next x)) % pw_n d 0 < 4 by omega)).2.2
    have hset : ∀ v, pm_Y (am_sI g3 90 (pg_bits (pg_next (pg_next x)) % pw_n d 0) (nI v)) d 86 (pu S (45 + pg_bits (pg_next (pg_next x)) % pw_n d 0) v) 1000 1000 := fun v => by
      obtain ⟨⟨a1, a2, a3, a4⟩, b1, b2, b3⟩ := hY3
      refine ⟨⟨fun i hi => ?_, fun p hp => ?_, ?_, fun k hk => ⟨?_, ?_⟩⟩, fun k hk => ?_, ?_, ?_⟩
      · rw [am_I_s1 _ _ _ _ (by omega), pu_n _ _ (by omega)]; exact a1 i hi
      · rw [am_I_s1 _ _ _ _ (by omega), pu_n _ _ (by omega)]; exact a2 p hp
      · rw [am_I_s1 _ _ _ _ (by omega), a3, pm_lamps_cong fun j h1 h2 => (pu_n S v (show j ≠ 45 + pg_bits (pg_next (pg_next x)) % pw_n d 0 by omega)).symm]
      · rw [am_I_s1 _ _ _ _ (by omega), pu_n _ _ (by omega)]; exact (a4 k hk).1
      · rw [am_I_s1 _ _ _ _ (by omega), pu_n _ _ (by omega)]; exact (a4 k hk).2
      · rw [am_I_sc]
        unfold pu
        by_cases e : k = pg_bits (pg_next (pg_next x)) % pw_n d 0
        · rw [if_pos ⟨rfl, e⟩, if_pos (by omega)]
        · rw [if_neg (fun h => e h.2), if_neg (by omega)]; exact b1 k hk
      · rw [am_I_s1 _ _ _ _ (by omega)]; exact b2
      · rw [am_I_s1 _ _ _ _ (by omega)]; exact b3
    have ks : ∀ v, am_kp ps_G h (am_sI g3 90 (pg_bits (pg_next (pg_next x)) % pw_n d 0) v) := fun v => kp3.sI _ (ps_G_t (by omega))
    by_cases t0 : pg_bits (pg_next (pg_next (pg_next x))) % 3 = 0
    · rw [if_pos t0] at ee
      rw [if_pos (by rw [t0]; rfl), ml_90 (by omega), hY3.2.1 _ hm, pz_succ, s182 (by omega) (by omega), am_bI_ok, ms_90 (by omega), e296_115, if_neg (by rw [t0]; decide), ee]
      exact ⟨_, rfl, hset _, by rw [am_I_s1 _ _ _ _ (by omega)]; exact x3, by rw [am_I_s1 _ _ _ _ (by omega)]; exact c3, ks _⟩
    · rw [if_neg t0] at ee
      rw [if_neg (nI_ne0 (by omega) (by omega)), e296_115]
      by_cases t1 : pg_bits (pg_next (pg_next (pg_next x))) % 3 = 1
      · rw [if_pos t1] at ee
        rw [if_pos (by rw [t1]), ml_90 (by omega), hY3.2.1 _ hm, ee]
        by_cases z : S (45 + pg_bits (pg_next (pg_next x)) % pw_n d 0) = 0
        · rw [z, if_pos (by decide)]
          have he : pu S (45 + pg_bits (pg_next (pg_next x)) % pw_n d 0) (0 - 1) = S := by
            funext j
            unfold pu
            by_cases e : j = 45 + pg_bits (pg_next (pg_next x)) % pw_n d 0
            · rw [if_pos e, e, z]
            · rw [if_neg e]
          rw [he]
          exact ⟨g3, rfl, hY3, x3, c3, kp3⟩
        · rw [if_neg (nI_nle (by omega) (by omega)), ml_90 (by omega), hY3.2.1 _ hm, pk_sub (by omega), ms_90 (by omega)]
          exact ⟨_, rfl, hset _, by rw [am_I_s1 _ _ _ _ (by omega)]; exact x3, by rw [am_I_s1 _ _ _ _ (by omega)]; exact c3, ks _⟩
      · rw [if_neg t1] at ee
        rw [if_neg (fun e => t1 ((nI_eq (by omega) (by omega)).mp e)), ee]
        exact ⟨g3, rfl, hY3, x3, c3, kp3⟩
end
theorem call_winters {w : pw_W} (hw : pw_wf w) (sd y x : Int32) : am_AG 2 (fun e => e) w (fun h => am_run am_M 36 [.ref 0, .int sd, .int y, .int x] h) (fun h => am_run am_M 296 [.ref 60, .int sd, .int y, .int x] h) := by
  obtain ⟨d, S, l, t, im, tp, nb, fp, rf⟩ := w
  have hw0 := hw
  obtain ⟨ho, hS, ha, ht, hi, hnb, htp⟩ := hw
  rcases Classical.em (pz_b x (2 + 1)) with hx | hx
  rotate_left
  · refine ⟨1, 0, (d, S, l, t, im, tp, nb, fp, rf), hw0, ⟨by omega, fun hh => by first | exact absurd rfl hh | rfl⟩, fun h hc => ?_, fun h hm => ?_⟩
    · have hc0 := hc
      obtain ⟨⟨L, hL, r1, r2, c1⟩, c2, c3, c4, c5, c6, c7, c8, c9⟩ := hc
      refine am_CO_x (by decide) ?_
      show am_run am_M 36 [.ref 0, .int sd, .int y, .int x] h = _
      rw [e36, c64_f (by omega) hx]
      rfl
    · show am_RI (am_run am_M 296 [.ref 60, .int sd, .int y, .int x] h) _
      obtain ⟨hm0, ht0, hf0⟩ := m_start hm
      rw [e296]
      generalize am_sI h 60 0 (nI 0) = g at hm0 ht0 hf0 ⊢
      dsimp only
      have hm1 := hm0
      obtain ⟨m1, m2, m3, m4, m5, m6, m7, m8, m9, m10, m11, m12⟩ := hm1
      rw [s237_f ht0 hx (by omega), am_bI_ok, if_pos (by decide)]
      exact ⟨_, _, rfl, am_fin_x hf0 hm0 (by decide)⟩
  obtain ⟨z, hx, rfl⟩ := hx
  rcases Classical.em (pz_b y (60 + 1)) with hy | hy
  rotate_left
  · refine ⟨2, 0, (d, S, l, t, im, tp, nb, fp, rf), hw0, ⟨by omega, fun hh => by first | exact absurd rfl hh | rfl⟩, fun h hc => ?_, fun h hm => ?_⟩
    · have hc0 := hc
      obtain ⟨⟨L, hL, r1, r2, c1⟩, c2, c3, c4, c5, c6, c7, c8, c9⟩ := hc
      refine am_CO_x (by decide) ?_
      show am_run am_M 36 [.ref 0, .int sd, .int y, .int (nI z)] h = _
      rw [e36, c64_t (by omega) hx, am_bV_ok, c65_f (m := 60) (by omega) hy]
      rfl
    · show am_RI (am_run am_M 296 [.ref 60, .int sd, .int y, .int (nI z)] h) _
      obtain ⟨hm0, ht0, hf0⟩ := m_start hm
      rw [e296]
      generalize am_sI h 60 0 (nI 0) = g at hm0 ht0 hf0 ⊢
      dsimp only
      have hm1 := hm0
      obtain ⟨m1, m2, m3, m4, m5, m6, m7, m8, m9, m10, m11, m12⟩ := hm1
      rw [s237_t ht0 hx (by omega), am_bI_ok, if_neg (by decide), s180_f y (fun h => hy (pz_bw.mp h)) (by omega) (by omega), am_bI_ok, s179_f ht0 (e := 2) (by omega), am_bI_ok, if_pos (by decide)]
      exact ⟨_, _, rfl, am_fin_x hf0 hm0 (by decide)⟩
  obtain ⟨j, hy, rfl⟩ := hy
  have h6 := ho.1.2.2.2.1
  have h4 := ho.1.1
  have hd9 := hS.2.1
  refine ⟨0, (if z = 0 then nI (pz_cnt (fun k => decide (pg_co d (pg_n d S sd k) ≠ 0)) j) else if z = 1 then nI (pz_cnt (fun k => decide (pg_th d (pg_n d S sd k) ≠ 0)) j) else nI (py_sum (pg_n d S sd j).1 (pw_n d 3))), (d, S, l, t, im, tp, nb, fp, rf), hw0, ⟨by omega, fun hh => by first | exact absurd rfl hh | rfl⟩, fun h hc => ?_, fun h hm => ?_⟩
  · have hc0 := hc
    obtain ⟨⟨L, hL, r1, r2, c1⟩, c2, c3, c4, c5, c6, c7, c8, c9⟩ := hc
    refine am_CO_0 ?_
    show am_RI (am_run am_M 36 [.ref 0, .int sd, .int (nI j), .int (nI z)] h) _
    rw [e36, c64_t (by omega) hx, am_bV_ok, c65_t (m := 60) (by omega) hy, am_bV_ok]
    refine pz_VI (s137 (S := S) c2 pc_so20 (by omega)) fun g1 hg1 => ?_
    obtain ⟨y1, k1⟩ := hg1
    dsimp only
    obtain ⟨g, e, hp⟩ := am_for0 (fun k (g : am_H) => am_vn am_M 5 36 39 [some (.ref 0), none, some (.int (nI j)), some (.int (nI z)), some (.int (nI (pz_cnt (fun k => decide (pg_co d (pg_n d S sd k) ≠ 0)) k))), some (.int (nI (pz_cnt (fun k => decide (pg_th d (pg_n d S sd k) ≠ 0)) k))), some (.int (nI k))] [] g) (fun k g => (∃ G E, pc_Y g (pg_n d S sd k).1 1000 1000 G E ∧ E < 2 ^ 4) ∧ am_I g 34 3 = (pg_n d S sd k).2 ∧ am_kp ps_Y h g) j (am_sI g1 34 3 sd) ⟨⟨_, _, y1.s3 _, by decide⟩, am_I_s _ _ _ _, k1.sI _ (ps_Y_t (by omega))⟩ (fun k g hk hg => by
      obtain ⟨⟨G, E, y, hE⟩, sx, kp⟩ := hg
      have hT := pg_n_T ho hS.1 sd k
      obtain ⟨g2, e2, z1, z2, z3, z4, z5⟩ := s140 hL (c1.kp kp (ps_YL hL)) ho y sx hT.1 hE (by omega)
      have cl : pg_co d (pg_n d S sd k) < 64 := py_cold_lt ho _ _ _ _
      have tl : pg_th d (pg_n d S sd k) < 16 := py_thin_lt ho _ _ _ _
      refine ⟨g2, ?_, z1, z4, kp.trans z5⟩
      rw [e36_39, if_neg (nI_ge hk (by omega)), kp.R, r1, am_gr_n, e2, am_bV_ok, show am_I g2 34 4 = nI (pg_co d (pg_n d S sd k)) from z2, e36_73, e36_73, show am_I g2 34 5 = nI (pg_th d (pg_n d S sd k)) from z3, pz_cnt, pz_cnt, pz_succ k]
      have n1 : pg_co d (pg_n d S sd k) = 0 → decide (pg_co d (pg_n d S sd k) ≠ 0) = false := fun a => decide_eq_false (fun h => h a)
      have n2 : pg_th d (pg_n d S sd k) = 0 → decide (pg_th d (pg_n d S sd k) ≠ 0) = false := fun a => decide_eq_false (fun h => h a)
      by_cases a1 : pg_co d (pg_n d S sd k) = 0
      · rw [if_pos (by rw [a1]; rfl)]
        by_cases a2 : pg_th d (pg_n d S sd k) = 0
        · rw [if_pos (by rw [a2]; rfl), n1 a1, n2 a2, if_neg (by decide), pz_addz, pz_addz]; rfl
        · rw [if_neg (nI_ne0 (by omega) (by omega)), n1 a1, if_neg (by decide), decide_eq_true (show pg_th d (pg_n d S sd k) ≠ 0 from a2), if_pos rfl, pz_addz, pz_succ]; rfl
      · rw [if_neg (nI_ne0 (by omega) (by omega))]
        by_cases a2 : pg_th d (pg_n d S sd k) = 0
        · rw [if_pos (by rw [a2]; rfl), decide_eq_true (show pg_co d (pg_n d S sd k) ≠ 0 from a1), if_pos rfl, n2 a2, if_neg (by decide), pz_addz, pz_succ]; rfl
        · rw [if_neg (nI_ne0 (by omega) (by omega)), decide_eq_true (show pg_co d (pg_n d S sd k) ≠ 0 from a1), if_pos rfl, decide_eq_true (show pg_th d (pg_n d S sd k) ≠ 0 from a2), if_pos rfl, pz_succ, pz_succ])
    obtain ⟨⟨G, E, y, hE⟩, sx, kp⟩ := hp
    refine Eq.mpr (congrArg (fun o => am_RI o _) e) ?_
    have fin := am_fin_c hc0 (kp.up (fun i k => ps_YC))
    rw [e36_39, if_pos (nI_le (Nat.le_refl _) (by omega))]
    by_cases z0 : z = 0
    · rw [if_pos (by rw [z0]), if_pos z0]
      exact ⟨_, _, rfl, rfl, fin⟩
    · rw [if_neg (fun e => z0 ((nI_eq (by omega) (by omega)).mp e)), if_neg z0]
      by_cases z1 : z = 1
      · rw [if_pos (by rw [z1]), if_pos z1]
        exact ⟨_, _, rfl, rfl, fin⟩
      · rw [if_neg (fun e => z1 ((nI_eq (by omega) (by omega)).mp e)), if_neg z1, s49 hL (by rw [kp.R]; exact r1) (c1.kp kp (ps_YL hL)) ho pc_so35 y.1, am_bI_ok]
        exact ⟨_, _, rfl, rfl, fin⟩
  · show am_RI (am_run am_M 296 [.ref 60, .int sd, .int (nI j), .int (nI z)] h) _
    obtain ⟨hm0, ht0, hf0⟩ := m_start hm
    rw [e296]
    generalize am_sI h 60 0 (nI 0) = g at hm0 ht0 hf0 ⊢
    dsimp only
    have hm1 := hm0
    obtain ⟨m1, m2, m3, m4, m5, m6, m7, m8, m9, m10, m11, m12⟩ := hm1
    rw [s237_t ht0 hx (by omega), am_bI_ok, if_neg (by decide), s180_60 hy, am_bI_ok, s179_t ht0, am_bI_ok, if_neg (by decide)]
    have hu : am_I g 60 62 = pn_o 1000 20 := m11
    have hq : am_I g 60 63 = pn_o 1000 5 := m12
    obtain ⟨g1, e1, b1, k1⟩ := s231b hm0 hw0 hu hq
    replace b1 : pm_B g1 d S 0 1000 1000 := b1
    rw [e1, am_bV_ok]
    try dsimp only
    have hY0 : pm_Y (am_sI g1 60 73 sd) d 86 S 1000 1000 := ⟨b1.2.1.1.oth (by omega) _ _, fun k hk => by rw [am_I_s1 _ _ _ _ (by omega)]; exact b1.2.1.2.1 k hk, by rw [am_I_s2 _ _ _ _ (by omega)]; exact b1.2.1.2.2.1, by rw [am_I_s2 _ _ _ _ (by omega)]; exact b1.2.1.2.2.2⟩
    obtain ⟨g2, e, hp⟩ := am_for0 (fun k (g : am_H) => am_vn am_M 5 296 49 [some (.ref 60), none, some (.int (nI j)), some (.int (nI z)), some (.int (nI (pz_cnt (fun k => decide (pg_co d (pg_n d S sd k) ≠ 0)) k))), some (.int (nI (pz_cnt (fun k => decide (pg_th d (pg_n d S sd k) ≠ 0)) k))), some (.int (nI k)), none, none] [] g) (fun k g' => pm_Y g' d 86 (pg_n d S sd k).1 1000 1000 ∧ am_I g' 60 73 = (pg_n d S sd k).2 ∧ am_kp ps_G g g') j (am_sI g1 60 73 sd) ⟨hY0, am_I_s _ _ _ _, (k1.up fun i c => ps_GN).sI _ (ps_G_t (by omega))⟩ (fun k g' hk hg => by
      obtain ⟨y, sx, kp⟩ := hg
      have hT := pg_n_T ho hS.1 sd k
      have hLg := m1.kp kp ps_GL
      obtain ⟨g3, e3, y3, x3, c3, k3⟩ := m_draw hLg ho y sx hT.1 (nI j) (nI z) (nI (pz_cnt (fun k => decide (pg_co d (pg_n d S sd k) ≠ 0)) k)) (nI (pz_cnt (fun k => decide (pg_th d (pg_n d S sd k) ≠ 0)) k)) (nI k)
      have hT1 := pg_1_T (d := d) hT.1 (pg_n d S sd k).2
      have k4 := kp.trans k3
      obtain ⟨G, hG⟩ := pz_any (am_I g3 60 69)
      obtain ⟨v, g5, e5, hv, y5, -, k5⟩ := s230 (Or.inr rfl) ho (m1.kp k4 ps_GL) y3 (Or.inr ⟨c3, by omega⟩) hT1.1 (by omega) (by omega) hG
      have cl : pg_co d (pg_n d S sd k) < 64 := py_cold_lt ho _ _ _ _
      have tl : pg_th d (pg_n d S sd k) < 16 := py_thin_lt ho _ _ _ _
      have hv2 : v = nI (256 * pg_th d (pg_n d S sd k) + pg_co d (pg_n d S sd k)) := hv
      refine ⟨g5, ?_, y5, (k5.get 60 73 (ps_d_f (by omega))).trans x3, k4.trans (k5.up fun i c => ps_dG)⟩
      rw [e296_49, if_neg (nI_ge hk (by omega)), e3, e296_142, e5, am_bI_ok, hv2, pz_m255 cl, e296_168, e296_168, pz_cnt, pz_cnt, pz_succ k]
      have n1 : pg_co d (pg_n d S sd k) = 0 → decide (pg_co d (pg_n d S sd k) ≠ 0) = false := fun a => decide_eq_false (fun h => h a)
      have n2 : pg_th d (pg_n d S sd k) = 0 → decide (pg_th d (pg_n d S sd k) ≠ 0) = false := fun a => decide_eq_false (fun h => h a)
      by_cases a1 : pg_co d (pg_n d S sd k) = 0
      · rw [if_pos (by rw [a1]; rfl)]
        by_cases a2 : pg_th d (pg_n d S sd k) = 0
        · rw [if_pos (nI_lt (by omega) (by omega)), n1 a1, n2 a2, if_neg (by decide), pz_addz, pz_addz]; rfl
        · rw [if_neg (nI_nlt (by omega) (by omega)), n1 a1, if_neg (by decide), decide_eq_true (show pg_th d (pg_n d S sd k) ≠ 0 from a2), if_pos rfl, pz_addz, pz_succ]; rfl
      · rw [if_neg (nI_ne0 (by omega) (by omega))]
        by_cases a2 : pg_th d (pg_n d S sd k) = 0
        · rw [if_pos (nI_lt (by omega) (by omega)), decide_eq_true (show pg_co d (pg_n d S sd k) ≠ 0 from a1), if_pos rfl, n2 a2, if_neg (by decide), pz_addz, pz_succ]; rfl
        · rw [if_neg (nI_nlt (by omega) (by omega)), decide_eq_true (show pg_co d (pg_n d S sd k) ≠ 0 from a1), if_pos rfl, decide_eq_true (show pg_th d (pg_n d S sd k) ≠ 0 from a2), if_pos rfl, pz_succ, pz_succ])
    obtain ⟨y, sx, kp⟩ := hp
    refine Eq.mpr (congrArg (fun o => am_RI o _) e) ?_
    have hfin : pI_m (am_sI g2 60 61 (-1)) (d, S, l, t, im, tp, nb, fp, rf) := hm0.fr fun i c h1 h2 h3 => by
      rw [am_I_sc]
      by_cases e : i = 60 ∧ c = 61
      · rw [if_pos e, e.1, e.2]; exact m10.symm
      · rw [if_neg e]
        exact kp.get i c (ps_GM h3 e)
    have fin : ∀ u v : Int32, u = v → (0 = 0 → u = v) ∧ am_I (am_sI g2 60 61 (-1)) 60 0 = nI 0 ∧ pI_m (am_sI g2 60 61 (-1)) (d, S, l, t, im, tp, nb, fp, rf) ∧ am_fm h (am_sI g2 60 61 (-1)) := fun u v huv => ⟨fun _ => huv, by rw [am_I_s2 _ _ _ _ (by omega), kp.get 60 0 (ps_G_f (by omega))]; exact ht0, hfin, hf0.trans (am_fm.sI (kp.fm fun i c hi => ps_G_f (by omega)) (by omega) _ _)⟩
    have hL2 : pm_L (am_sI g2 60 61 (-1)) d := hfin.1
    rw [e296_49, if_pos (nI_le (Nat.le_refl _) (by omega))]
    dsimp only
    by_cases z0 : z = 0
    · rw [if_pos (by rw [z0]; rfl), if_pos z0]
      exact ⟨_, _, rfl, fin _ _ rfl⟩
    · rw [if_neg (nI_ne0 (by omega) (by omega)), if_neg z0]
      by_cases z1 : z = 1
      · rw [if_pos (by rw [z1]), if_pos z1]
        exact ⟨_, _, rfl, fin _ _ rfl⟩
      · rw [if_neg (fun e => z1 ((nI_eq (by omega) (by omega)).mp e)), if_neg z1, s232 (Or.inr rfl) hL2 ho (y.1.oth (by omega) _ _), am_bI_ok]
        exact ⟨_, _, rfl, fin _ _ rfl⟩
