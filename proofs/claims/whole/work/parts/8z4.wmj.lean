/-! WINTER: the model's lines put together -/
theorem wl_LN_ok : ∀ w, w < 26 → wl_ix wl_LN w = if w = 10 then 0 else if 11 ≤ w ∧ w ≤ 14 then w - 10 else if w = 15 then 5 else if 16 ≤ w ∧ w ≤ 19 then w - 10 else if w = 4 then 10 else if w = 20 then 11 else if w = 21 then 12 else 13 := by decide +kernel
theorem wl_W45 : ∀ w, w < 25 → 20 ≤ w → w ≤ 21 → 4 ≤ (wl_W w).length := by decide +kernel
section
variable {h0 : am_H} {tp : Nat → Nat} {n s : Nat} {g : am_H} {d : pw_L}
theorem s197f {f p : Nat} {x : Int32} (h : wm_ft g f p) : am_run am_M 197 [.ref 60, .int x] g = some (.inl none, g) := by
  rw [e197, s195f h, am_bI_ok, if_pos (show nI 0 = 0 from rfl)]
/-- the end of a line -/
theorem wm_fin {r : wn_Q} (h : wm_Z h0 tp n g r) (hJ : wm_J h0 tp n) : am_RV (am_bI [] (am_run am_M 196 [(.ref 60), (.int (nI 59))] g) fun x5 g4 => am_bV [] (am_run am_M 197 [(.ref 60), (.int x5)] g4) fun g6 => some (.inl none, g6)) (fun g' => wm_Z h0 tp n g' (wn_bd r (wn_end tp n))) := by
  match r, h with
  | .inl (f, p), h =>
    obtain ⟨x, e⟩ := s196any g (nI 59)
    rw [e, am_bI_ok, s197f h.2, am_bV_ok]
    exact ⟨_, rfl, h⟩
  | .inr (s, d), h =>
    rw [s196G hJ.1.2.1 h.2.1 (by omega), am_bI_ok, e197, s195G (h.z0 hJ), am_bI_ok, if_neg (show ¬ nI 1 = 0 by decide)]
    show am_RV _ (fun g' => wm_Z h0 tp n g' (wn_end tp n s d))
    unfold wn_end
    by_cases c : wl_k tp n s = 59
    · obtain ⟨g1, r1, _, z1⟩ := h.go hJ
      rw [if_pos c, if_neg (show ¬ nI 1 = 0 by decide), if_pos c, r1, am_bV_ok, am_bV_ok]
      exact ⟨_, rfl, z1⟩
    · obtain ⟨g1, r1, z1, _⟩ := h.wr (f := 1) hJ (by omega)
      rw [if_neg c, if_pos (show nI 0 = 0 from rfl), if_neg c, r1, am_bV_ok, am_bV_ok]
      exact ⟨_, rfl, z1⟩
theorem wm_deed {j : Nat} (hj : j < 2) (h : wm_Z h0 tp n g (.inr (s, d))) (hJ : wm_J h0 tp n) (hw : wl_w tp n s = 20 + j) (hd : pw_d d j = []) : ∃ g1, am_run am_M 190 [.ref 60] g = some (.inl none, g1) ∧ am_RV (am_run am_M 211 [.ref 60, .int (nI (3 * j)), .int (nI (3 * j + 6))] (am_sI g1 60 (35 + j) (am_I g1 60 37))) (fun g' => wm_Z h0 tp n g' (wn_deed tp n j s d)) := by
  have hn := hJ.1.1
  obtain ⟨_, X, ⟨t0, ht0, _, _, _, _, _, _, c70, _, _⟩, _⟩ := id h
  have hk1 := wl_w_1 (tp := tp) (n := n) (s := s) (by omega)
  have hz4 : s + 4 ≤ wl_z tp n s := by
    have := ((wl_w_is hk1 (by omega)).mp hw).1
    have h4 := wl_W45 (20 + j) (by omega) (by omega) (by omega)
    omega
  have hxz := wl_e_ge wl_bl tp n (wl_z tp n s)
  have hx4 : s + 4 ≤ wl_x tp n s := Nat.le_trans hz4 hxz
  obtain ⟨g1, r1, kx, z1⟩ := h.go hJ
  refine ⟨g1, r1, ?_⟩
  obtain ⟨a1, a2, ⟨t, a3, c1, c2, c3, c4, c5, c6, c7, c8, c9⟩, a5⟩ := id z1
  have htt : t = t0 ∨ True := Or.inr trivial
  have h37 : am_I g1 60 37 = nI t0 := (kx.get _ _ (wg_x_f (by omega))).trans c70
  -- the code's top is that of before
  obtain ⟨_, _, ⟨t0', ht0', N0⟩, _⟩ := id h
  obtain ⟨b1, b2, b3, b4, b5, b6, b7, b8, b9⟩ := N0
  have e : ∀ i k, ¬ (i = 60 ∧ 23 ≤ k ∧ k ≤ 28) → am_I g1 i k = am_I g i k := fun i k hh => kx.get _ _ (wg_x_f hh)
  have h37' : am_I g1 60 37 = nI t0' := (e _ _ (by omega)).trans b7
  rw [h37']
  have v19 : am_I (am_sI g1 60 (35 + j) (nI t0')) 60 19 = nI 0 := by rw [am_I_s2 _ _ _ _ (by omega)]; exact z1.z0 hJ
  have v37 : am_I (am_sI g1 60 (35 + j) (nI t0')) 60 37 = nI t0' := by rw [am_I_s2 _ _ _ _ (by omega)]; exact h37'
  have X1 : wm_X (am_sI g1 60 (35 + j) (nI t0')) tp n (wl_x tp n s) := a2.fr (fun k x y => by rw [am_I_s2 _ _ _ _ (by omega)]) rfl
  have ty1 : wm_tp (am_sI g1 60 (35 + j) (nI t0')) tp n := by
    obtain ⟨p1, p2, p3, p4⟩ := z1.ty hJ
    exact ⟨p1, p2, by rw [am_I_s2 _ _ _ _ (by omega)]; exact p3, fun i hi => by rw [am_I_s1 _ _ _ _ (by omega)]; exact p4 i hi⟩
  have e2 : ∀ i k, ¬ (i = 60 ∧ (23 ≤ k ∧ k ≤ 28 ∨ k = 35 + j)) → am_I (am_sI g1 60 (35 + j) (nI t0')) i k = am_I g i k := fun i k hh => by
    rw [am_I_sc, if_neg (fun c => hh ⟨c.1, Or.inr c.2⟩)]; exact e i k (fun c => hh ⟨c.1, Or.inl c.2⟩)
  have vd : am_I (am_sI g1 60 (35 + j) (nI t0')) 60 (35 + j) = nI t0' := am_I_s _ _ _ _
  have kM : wm_k wg_M h0 (am_sI g1 60 (35 + j) (nI t0')) := a1.sI _ (wg_M_t (by omega))
  generalize am_sI g1 60 (35 + j) (nI t0') = g2 at v19 v37 X1 ty1 e2 vd kM ⊢
  refine (s211 ty1 v19 X1 v37 (by omega) hj).mono fun g3 h3 => ?_
  unfold wn_deed
  rw [if_pos hd]
  cases hr : wp_ex tp n j 6 (wl_x tp n s) [] with
  | inl q =>
    obtain ⟨f, p⟩ := q
    rw [hr] at h3
    exact ⟨(kM.up fun _ _ => wg_ML).trans (h3.1.up fun i k hi => wg_11_f (fun c => by have := of_decide_eq_false hi; omega)), h3.2⟩
  | inr q =>
    obtain ⟨s', l'⟩ := q
    rw [hr] at h3
    obtain ⟨k3, X3, h37a, hc, hb⟩ := h3
    have ok := wn_ex_ok hn X1.1 hr
    have e3 : ∀ i k, ¬ (i = 60 ∧ (23 ≤ k ∧ k ≤ 28 ∨ k = 35 + j ∨ 37 ≤ k ∧ k ≤ 41) ∨ i = 82 ∧ t0' ≤ k ∨ i = 83 ∨ i = 84) → am_I g3 i k = am_I g i k := fun i k hh => (k3.get i k (wg_12_f (fun c => by omega))).trans (e2 i k (fun c => by omega))
    have hdj : ∀ i, i < 2 → wm_D g3 (t0' + (pm_code j l').length) i (pw_d (wn_de d j l') i) := fun i hi => by
      show wm_D g3 (t0' + (pm_code j l').length) i (if i = j then l' else d.2.2 i)
      by_cases c : i = j
      · rw [if_pos c, c]
        unfold wm_D
        rw [if_neg ok.2.2.2.2]
        exact ⟨t0', (k3.get _ _ (wg_12_f (by omega))).trans vd, Nat.le_refl _, hc⟩
      · rw [if_neg c]
        have hh : wm_D g t0' i (pw_d d i) := by
          have : i = 0 ∨ i = 1 := by omega
          rcases this with rfl | rfl
          · exact b8
          · exact b9
        exact (hh.fr (e3 _ _ (by omega)) (fun k hk => e3 _ _ (by omega))).up (Nat.le_add_right _ _)
    refine ⟨kM.trans (k3.up fun i k hi => wg_12_f (fun c => by have := of_decide_eq_false hi; omega)), X3, ⟨t0' + (pm_code j l').length, hb, fun i hi => ?_, fun k hk => ?_, fun k hk => ?_, fun k hk => ?_, fun k hk => ?_, fun k hk => ?_, h37a, hdj 0 (by omega), hdj 1 (by omega)⟩, wn_de_ok a5 ok.2.2.2.1⟩
    · exact (e3 _ _ (by omega)).trans (b1 i hi)
    · rw [e3 _ _ (by omega), e3 _ _ (by omega)]; exact b2 k hk
    · rw [e3 _ _ (by omega), e3 _ _ (by omega)]; exact b3 k hk
    · rw [e3 _ _ (by omega)]; exact b4 k hk
    · rw [e3 _ _ (by omega), e3 _ _ (by omega), e3 _ _ (by omega), e3 _ _ (by omega)]; exact b5 k hk
    · rw [e3 _ _ (by omega)]; exact b6 k hk
theorem s217_77 {x : Int32} (h : wm_Z h0 tp n g (.inr (s, d))) (hJ : wm_J h0 tp n) (hx : x = wm_w (wl_w tp n s)) (h1 : ¬ wl_w tp n s = 10) (h2 : ¬ (11 ≤ wl_w tp n s ∧ wl_w tp n s ≤ 14)) (h3 : ¬ wl_w tp n s = 15) (h4 : ¬ (16 ≤ wl_w tp n s ∧ wl_w tp n s ≤ 19)) : am_RV (am_vn am_M 6 217 77 [some (.ref 60), some (.int x)] [] g) (fun g' => wm_Z h0 tp n g' (wn_line tp n s d)) := by
  have hw := wl_w_le (tp := tp) (n := n) (s := s)
  have hL := wl_LN_ok (wl_w tp n s) (by omega)
  rw [if_neg h1, if_neg h2, if_neg h3, if_neg h4] at hL
  have hq : ∀ c, c < 25 → (x = nI c ↔ wl_w tp n s = c) := fun c hc => by rw [hx]; exact wm_w_eq hw hc
  obtain ⟨_, _, ⟨_, _, _, _, _, _, _, _, _, c8, c9⟩, _⟩ := id h
  unfold wn_line
  rw [e217_77]
  by_cases w4 : wl_w tp n s = 4
  · rw [if_pos w4] at hL
    rw [if_pos ((hq 4 (by omega)).mpr w4), hL]
    exact pz_VV (s216 h hJ) fun g1 h1 => wm_fin h1 hJ
  · rw [if_neg w4] at hL
    rw [if_neg (fun e => w4 ((hq 4 (by omega)).mp e))]
    have deed : ∀ j, j < 2 → wl_w tp n s = 20 + j → wl_ix wl_LN (wl_w tp n s) = 11 + j → wm_D g (2 * s) j (pw_d d j) → ∀ (A : am_H → Option am_Q), (∀ g, A g = am_bI [] (am_run am_M 195 [(.ref 60)] g) fun x30 g29 => (if x30 = 0 then some (.inl none, g29) else am_bV [] (am_run am_M 190 [(.ref 60)] g29) fun g31 => am_bV [] (am_run am_M 211 [(.ref 60), (.int (nI (3 * j))), (.int (nI (3 * j + 6)))] (am_sI g31 60 (35 + j) (am_I g31 60 37))) fun g33 => am_bI [] (am_run am_M 196 [(.ref 60), (.int (nI 59))] g33) fun x35 g34 => am_bV [] (am_run am_M 197 [(.ref 60), (.int x35)] g34) fun g36 => some (.inl none, g36))) → am_RV (if am_I g 60 (35 + j) = (-1 : Int32) then A g else am_bV [] (am_run am_M 194 [(.ref 60), (.int (nI 5))] g) fun g23 => A g23) (fun g' => wm_Z h0 tp n g' (wn_bd (wn_body tp n (wl_ix wl_LN (wl_w tp n s)) s d) (wn_end tp n))) := fun j hj hwj hx11 hD A hA => by
      have hbody : wn_body tp n (wl_ix wl_LN (wl_w tp n s)) s d = wn_deed tp n j s d := by
        rw [hx11]
        unfold wn_body
        rw [if_neg (by omega), if_neg (by omega), if_neg (by omega), if_neg (by omega), if_neg (by omega)]
        have : j = 0 ∨ j = 1 := by omega
        rcases this with rfl | rfl
        · rw [if_pos rfl]
        · rw [if_neg (by omega), if_pos rfl]
      rw [hbody]
      unfold wm_D at hD
      by_cases cd : pw_d d j = []
      · rw [if_pos cd] at hD
        obtain ⟨g1, r1, w1⟩ := wm_deed hj h hJ hwj cd
        rw [if_pos hD, hA, s195G (h.z0 hJ), am_bI_ok, if_neg (show ¬ nI 1 = 0 by decide), r1, am_bV_ok]
        exact pz_VV w1 fun g2 h2 => wm_fin h2 hJ
      · rw [if_neg cd] at hD
        obtain ⟨a, ha, hb, _⟩ := hD
        obtain ⟨g1, r1, z1, f1⟩ := h.wr (f := 5) hJ (by omega)
        have hs700 := h.2.1.1
        have hn := hJ.1.1
        rw [if_neg (by rw [ha]; exact pz_neg1 (by omega)), r1, am_bV_ok, hA, s195f f1, am_bI_ok, if_pos (show nI 0 = 0 from rfl)]
        unfold wn_deed
        rw [if_neg cd]
        exact ⟨_, rfl, z1⟩
    by_cases w20 : wl_w tp n s = 20
    · rw [if_pos w20] at hL
      rw [if_pos ((hq 20 (by omega)).mpr w20)]
      obtain ⟨t, ht, N⟩ := h.2.2.1
      exact deed 0 (by omega) w20 hL (N.2.2.2.2.2.2.2.1.up ht) _ (fun g => by rw [e217_108])
    · rw [if_neg w20] at hL
      rw [if_neg (fun e => w20 ((hq 20 (by omega)).mp e))]
      by_cases w21 : wl_w tp n s = 21
      · rw [if_pos w21] at hL
        rw [if_pos ((hq 21 (by omega)).mpr w21)]
        obtain ⟨t, ht, N⟩ := h.2.2.1
        exact deed 1 (by omega) w21 hL (N.2.2.2.2.2.2.2.2.up ht) _ (fun g => by rw [e217_157])
      · rw [if_neg w21] at hL
        rw [if_neg (fun e => w21 ((hq 21 (by omega)).mp e)), hL]
        obtain ⟨g1, r1, z1, f1⟩ := h.wr (f := 1) hJ (by omega)
        rw [r1, am_bV_ok]
        exact wm_fin (r := .inl (1, s)) z1 hJ
theorem s217 (h : wm_Z h0 tp n g (.inr (s, d))) (hJ : wm_J h0 tp n) : am_RV (am_run am_M 217 [.ref 60] g) (fun g' => wm_Z h0 tp n g' (wn_line tp n s d)) := by
  have hw := wl_w_le (tp := tp) (n := n) (s := s)
  have hL := wl_LN_ok (wl_w tp n s) (by omega)
  have hq : ∀ c, c < 25 → (wm_w (wl_w tp n s) = nI c ↔ wl_w tp n s = c) := fun c hc => wm_w_eq hw hc
  have lt : ∀ c, c < 100 → (wm_w (wl_w tp n s) < nI c ↔ (wl_w tp n s < 25 → wl_w tp n s < c)) := fun c hc => by
    unfold wm_w
    by_cases cw : wl_w tp n s < 25
    · rw [if_pos cw, nI_ltI (by omega) (by omega)]
      exact ⟨fun h _ => h, fun h => h cw⟩
    · rw [if_neg cw]
      refine ⟨fun _ h => absurd h cw, fun _ => ?_⟩
      rw [Int32.lt_iff_toInt_lt, nI_toInt (by omega)]
      have : (-1 : Int32).toInt = -1 := by decide
      omega
  have gt : ∀ c, c < 100 → (nI c < wm_w (wl_w tp n s) ↔ (wl_w tp n s < 25 ∧ c < wl_w tp n s)) := fun c hc => by
    unfold wm_w
    by_cases cw : wl_w tp n s < 25
    · rw [if_pos cw, nI_ltI (by omega) (by omega)]
      exact ⟨fun h => ⟨cw, h⟩, fun h => h.2⟩
    · rw [if_neg cw]
      refine ⟨fun h => ?_, fun h => absurd h.1 cw⟩
      rw [Int32.lt_iff_toInt_lt, nI_toInt (by omega)] at h
      have : (-1 : Int32).toInt = -1 := by decide
      omega
  rw [e217, s193 (h.ty hJ) h.2.1, am_bI_ok]
  by_cases w10 : wl_w tp n s = 10
  · rw [if_pos w10] at hL
    unfold wn_line
    rw [if_pos ((hq 10 (by omega)).mpr w10), hL]
    exact pz_VV (s212 h hJ) fun g1 h1 => wm_fin h1 hJ
  · rw [if_neg w10] at hL
    rw [if_neg (fun e => w10 ((hq 10 (by omega)).mp e))]
    have h41 : ¬ (11 ≤ wl_w tp n s ∧ wl_w tp n s ≤ 14) → am_RV (am_vn am_M 6 217 41 [some (.ref 60), some (.int (wm_w (wl_w tp n s)))] [] g) (fun g' => wm_Z h0 tp n g' (wn_line tp n s d)) := fun w14 => by
      rw [if_neg w14] at hL
      rw [e217_41]
      by_cases w15 : wl_w tp n s = 15
      · rw [if_pos w15] at hL
        unfold wn_line
        rw [if_pos ((hq 15 (by omega)).mpr w15), hL]
        exact pz_VV (s214 h hJ) fun g1 h1 => wm_fin h1 hJ
      · rw [if_neg w15] at hL
        rw [if_neg (fun e => w15 ((hq 15 (by omega)).mp e))]
        by_cases w16 : 16 ≤ wl_w tp n s ∧ wl_w tp n s ≤ 19
        · rw [if_pos w16] at hL
          rw [if_neg (fun e => by have := (lt 16 (by omega)).mp e (by omega); omega), if_neg (fun e => by have := (gt 19 (by omega)).mp e; omega), show wm_w (wl_w tp n s) = nI (wl_w tp n s) from if_pos (by omega), pk_sub (by omega)]
          unfold wn_line
          have hb : wn_body tp n (wl_ix wl_LN (wl_w tp n s)) s d = wn_person tp n (wl_w tp n s - 16) s d := by
            rw [hL]
            unfold wn_body
            rw [if_neg (by omega), if_neg (by omega), if_neg (by omega), if_pos (by omega), show wl_w tp n s - 10 - 6 = wl_w tp n s - 16 by omega]
          rw [hb]
          exact pz_VV (s215 (kk := wl_w tp n s - 16) (by omega) h hJ) fun g1 h1 => wm_fin h1 hJ
        · have r77 := s217_77 (x := wm_w (wl_w tp n s)) h hJ rfl w10 w14 w15 w16
          split
          · exact r77
          · split
            · exact r77
            · rename_i c1 c2
              exact absurd (by
                rw [lt 16 (by omega)] at c1
                rw [gt 19 (by omega)] at c2
                omega) w16
    by_cases w14 : 11 ≤ wl_w tp n s ∧ wl_w tp n s ≤ 14
    · rw [if_pos w14] at hL
      rw [if_neg (fun e => by have := (lt 11 (by omega)).mp e (by omega); omega), if_neg (fun e => by have := (gt 14 (by omega)).mp e; omega), show wm_w (wl_w tp n s) = nI (wl_w tp n s) from if_pos (by omega), pk_sub (by omega)]
      unfold wn_line
      have hb : wn_body tp n (wl_ix wl_LN (wl_w tp n s)) s d = wn_place tp n (wl_w tp n s - 11) s d := by
        rw [hL]
        unfold wn_body
        rw [if_neg (by omega), if_pos (by omega), show wl_w tp n s - 10 - 1 = wl_w tp n s - 11 by omega]
      rw [hb]
      exact pz_VV (s213 (kk := wl_w tp n s - 11) (by omega) h hJ) fun g1 h1 => wm_fin h1 hJ
    · have r41 := h41 w14
      split
      · exact r41
      · split
        · exact r41
        · rename_i c1 c2
          exact absurd (by
            rw [lt 11 (by omega)] at c1
            rw [gt 14 (by omega)] at c2
            omega) w14
/-- all lines -/
theorem s219_122 (hJ : wm_J h0 tp n) : ∀ (f s : Nat) (d : pw_L) (g : am_H), n ≤ s + f → wm_Z h0 tp n g (.inr (s, d)) → ∃ g', am_vn am_M 7 219 122 [some (.ref 60), none, none] [] g = am_vn am_M 7 219 143 [some (.ref 60), none, none] [] g' ∧ wm_Z h0 tp n g' (wn_lines tp n f s d) := by
  have hn := hJ.1.1
  have stop : ∀ g (r : wn_Q), wm_Z h0 tp n g r → (∀ s d, r = .inr (s, d) → wl_k tp n s = 0) → am_vn am_M 7 219 122 [some (.ref 60), none, none] [] g = am_vn am_M 7 219 143 [some (.ref 60), none, none] [] g := fun g r h hr => by
    match r, h, hr with
    | .inl (f, p), h, _ => rw [e219_122, s195f h.2, am_bI_ok, if_pos (show nI 0 = 0 from rfl)]
    | .inr (s, d), h, hr => rw [e219_122, s195G (h.z0 hJ), am_bI_ok, if_neg (show ¬ nI 1 = 0 by decide), h.2.1.2.2.1, hr s d rfl, if_pos (show nI (wl_q 0) = 0 from rfl)]
  intro f
  induction f with
  | zero =>
    intro s d g hf h
    have hs := h.2.1.1
    exact ⟨g, stop g _ h (fun s' d' e => by rw [← (Prod.mk.inj (Sum.inr.inj e)).1]; exact wl_k_0.mpr (by omega)), h⟩
  | succ f ih =>
    intro s d g hf h
    rw [wn_lines]
    by_cases c : wl_k tp n s = 0
    · rw [if_pos c]
      exact ⟨g, stop g _ h (fun s' d' e => by rw [← (Prod.mk.inj (Sum.inr.inj e)).1]; exact c), h⟩
    · have hk61 := wl_k_le (tp := tp) (n := n) (s := s)
      have hq : wl_q (wl_k tp n s) ≠ 0 ∧ wl_q (wl_k tp n s) ≤ 4 := by unfold wl_q; split <;> (try split) <;> omega
      have hs := wl_k_lt c
      rw [if_neg c]
      obtain ⟨g1, r1, z1⟩ := s217 h hJ
      have G := wn_line_G (tp := tp) hn hs h.2.2.2
      have e1 : am_vn am_M 7 219 122 [some (.ref 60), none, none] [] g = am_vn am_M 7 219 122 [some (.ref 60), none, none] [] g1 := by
        rw [e219_122, s195G (h.z0 hJ), am_bI_ok, if_neg (show ¬ nI 1 = 0 by decide), h.2.1.2.2.1, if_neg (nI_ne0 (by omega) (by omega)), r1, am_bV_ok]
      rw [e1]
      cases hr : wn_line tp n s d with
      | inl q =>
        rw [hr] at z1
        exact ⟨g1, stop g1 _ z1 (fun s' d' e => absurd e (by simp)), z1⟩
      | inr q =>
        obtain ⟨s1, d1⟩ := q
        rw [hr] at z1 G
        exact ih s1 d1 g1 (by have := G.1; omega) z1
end
/-! the model's shortest ways -/
def wf_65 (i _k : Nat) : Bool := decide (i = 65)
theorem wf_65_t {i k : Nat} (h : i = 65) : wf_65 i k = true := decide_eq_true h
theorem wf_65_f {i k : Nat} (h : i ≠ 65) : wf_65 i k = false := decide_eq_false h
theorem s218 {g : am_H} {d : pw_L} (ho : pw_ok d) (c2 : am_I g 60 2 = nI (pw_n d 1)) (c6 : ∀ j, j < 81 → am_I g 64 j = nI (pw_t d 5 j)) : am_RV (am_run am_M 218 [.ref 60] g) (fun g' => am_kp wf_65 g g' ∧ ∀ a b, a < pw_n d 1 → b < pw_n d 1 → am_I g' 65 (a * 9 + b) = nI (pw_w d 9999 (pw_n d 1) a b)) := by
  have h9 := ho.1.2.1
  have cc : ∀ g', am_kp wf_65 g g' → am_I g' 60 2 = nI (pw_n d 1) := fun g' k => (k.get 60 2 (wf_65_f (by omega))).trans c2
  rw [e218]
  obtain ⟨g2, e, kp2, hw2⟩ := am_for0 (fun x (g' : am_H) => am_vn am_M 1 218 2 [some (.ref 60), some (.int (nI x)), none, none] [] g') (fun x g' => am_kp wf_65 g g' ∧ ∀ a b, a < x → b < 9 → am_I g' 65 (a * 9 + b) = nI (pw_w d 9999 0 a b)) 9 g ⟨am_kp.refl _ _, fun a b ha => absurd ha (Nat.not_lt_zero a)⟩ (fun x g' hx hg => by
    obtain ⟨kp1, hw1⟩ := hg
    obtain ⟨g3, e3, kp3, hw3⟩ := am_for0 (fun y (g' : am_H) => am_vn am_M 1 218 10 [some (.ref 60), some (.int (nI x)), some (.int (nI y)), none] [] g') (fun y g' => am_kp wf_65 g g' ∧ ∀ a b, (a < x ∧ b < 9 ∨ a = x ∧ b < y) → am_I g' 65 (a * 9 + b) = nI (pw_w d 9999 0 a b)) 9 g' ⟨kp1, fun a b h => hw1 a b (by omega) (by omega)⟩ (fun y g' hy hg => by
      obtain ⟨kp1, hw1⟩ := hg
      have t9 := (ho.2.2.2.2.1 x y (by omega) (by omega)).1
      have h6 : am_I g' 64 (x * 9 + y) = nI (pw_t d 5 (x * 9 + y)) := (kp1.get _ _ (wf_65_f (by omega))).trans (c6 _ (by omega))
      have w0 : pw_w d 9999 0 x y = if x = y then 0 else if pw_t d 5 (x * 9 + y) = 0 then 9999 else pw_t d 5 (x * 9 + y) := rfl
      have rest : ∀ u, u = pw_w d 9999 0 x y → am_kp wf_65 g (am_sI g' 65 (x * 9 + y) (nI u)) ∧ ∀ a b, (a < x ∧ b < 9 ∨ a = x ∧ b < y + 1) → am_I (am_sI g' 65 (x * 9 + y) (nI u)) 65 (a * 9 + b) = nI (pw_w d 9999 0 a b) := fun u hu => ⟨kp1.sI _ (wf_65_t rfl), fun a b hab => by
        by_cases e : a = x ∧ b = y
        · rw [e.1, e.2, am_I_s, hu]
        · rw [am_I_s2 _ _ _ _ (by omega)]; exact hw1 a b (by omega)⟩
      have ms65 : ∀ (v : Int32) (f : am_H → Option am_Q), am_is 100 65 16 (nI (x * 9 + y)) v g' f = f (am_sI g' 65 (x * 9 + y) v) := fun v f => am_is_ok (r := 65) (n := 81) rfl (by omega) (by omega) (by omega) v g' f
      rw [e218_10, if_neg (nI_ge hy (by omega)), pk_mul, nI_add, Nat.mul_comm 9 x]
      by_cases c : x = y
      · rw [if_pos (show nI x = nI y by rw [c]), ms65, pz_succ]
        exact ⟨_, rfl, rest 0 (by rw [w0, if_pos c])⟩
      · rw [if_neg (fun e => c ((nI_eq (by omega) (by omega)).mp e)), ml_64 (by omega), h6]
        by_cases t0 : pw_t d 5 (x * 9 + y) = 0
        · rw [if_pos (show nI (pw_t d 5 (x * 9 + y)) ≤ 0 by rw [t0]; decide), ms65, pz_succ]
          exact ⟨_, rfl, rest 9999 (by rw [w0, if_neg c, if_pos t0])⟩
        · rw [if_neg (show ¬ nI (pw_t d 5 (x * 9 + y)) ≤ 0 from nI_ge (show 0 < pw_t d 5 (x * 9 + y) by omega) (by omega)), ml_64 (by omega), h6, ms65, pz_succ]
          exact ⟨_, rfl, rest _ (by rw [w0, if_neg c, if_neg t0])⟩)
    refine ⟨g3, ?_, kp3, fun a b ha hb => hw3 a b (by omega)⟩
    rw [e218_2, if_neg (nI_ge hx (by omega))]
    refine Eq.trans e3 ?_
    rw [e218_10, if_pos (nI_le (Nat.le_refl _) (by omega)), pz_succ])
  refine Eq.mpr (congrArg (fun o => am_RV o _) e) ?_
  rw [e218_2, if_pos (nI_le (Nat.le_refl _) (by omega))]
  obtain ⟨g4, e4, kp4, hw4⟩ := am_for0 (fun k (g' : am_H) => am_vn am_M 1 218 81 [some (.ref 60), some (.int (nI k)), none, none] [] g') (fun k g' => am_kp wf_65 g g' ∧ ∀ a b, a < pw_n d 1 → b < pw_n d 1 → am_I g' 65 (a * 9 + b) = nI (pw_w d 9999 k a b)) (pw_n d 1) g2 ⟨kp2, fun a b ha hb => hw2 a b (by omega) (by omega)⟩ (fun k g' hk hg => by
    obtain ⟨kp1, hw1⟩ := hg
    obtain ⟨g5, e5, kp5, hw5⟩ := am_for0 (fun x (g' : am_H) => am_vn am_M 1 218 91 [some (.ref 60), some (.int (nI k)), some (.int (nI x)), none] [] g') (fun x g' => am_kp wf_65 g g' ∧ ∀ a b, a < pw_n d 1 → b < pw_n d 1 → am_I g' 65 (a * 9 + b) = nI (pw_m d 9999 k x 0 a b)) (pw_n d 1) g' ⟨kp1, fun a b ha hb => by rw [hw1 a b ha hb]; unfold pw_m; rw [if_neg (by omega)]⟩ (fun x g' hx hg => by
      obtain ⟨kp1, hw1⟩ := hg
      obtain ⟨g3, e3, kp3, hw3⟩ := am_for0 (fun y (g' : am_H) => am_vn am_M 1 218 101 [some (.ref 60), some (.int (nI k)), some (.int (nI x)), some (.int (nI y))] [] g') (fun y g' => am_kp wf_65 g g' ∧ ∀ a b, a < pw_n d 1 → b < pw_n d 1 → am_I g' 65 (a * 9 + b) = nI (pw_m d 9999 k x y a b)) (pw_n d 1) g' ⟨kp1, hw1⟩ (fun y g' hy hg => by
        obtain ⟨kp1, hw1⟩ := hg
        have l1 := pw_w_le (i := 9999) (by omega) ho k x k (by omega) (by omega)
        have l2 := pw_w_le (i := 9999) (by omega) ho k k y (by omega) (by omega)
        have l3 := pw_w_le (i := 9999) (by omega) ho k x y (by omega) (by omega)
        have m3 : pw_m d 9999 k x y x y = pw_w d 9999 k x y := by unfold pw_m; rw [if_neg (by omega)]
        have w1 : pw_w d 9999 (k + 1) x y = min (pw_w d 9999 k x y) (pw_w d 9999 k x k + pw_w d 9999 k k y) := rfl
        have stp : ∀ a b, a < pw_n d 1 → b < pw_n d 1 → ¬ (a = x ∧ b = y) → pw_m d 9999 k x (y + 1) a b = pw_m d 9999 k x y a b := fun a b _ _ hab => by
          unfold pw_m
          by_cases c : a < x ∨ a = x ∧ b < y
          · rw [if_pos c, if_pos (by omega)]
          · rw [if_neg c, if_neg (by omega)]
        have stq : pw_m d 9999 k x (y + 1) x y = pw_w d 9999 (k + 1) x y := by unfold pw_m; rw [if_pos (by omega)]
        rw [e218_101, cc g' kp1, if_neg (nI_ge hy (by omega)), pk_mul, nI_add, Nat.mul_comm 9 x, ml_65 (show x * 9 + y < 81 by omega), nI_add, ml_65 (show x * 9 + k < 81 by omega), pk_mul, nI_add, Nat.mul_comm 9 k, ml_65 (show k * 9 + y < 81 by omega), hw1 x k hx hk, hw1 k y hk hy, hw1 x y hx hy, pw_m_c, pw_m_r, m3, nI_add, s182 (by omega) (by omega), am_bI_ok, am_is_ok (r := 65) (n := 81) rfl (by omega) (show x * 9 + y < 81 by omega) (by omega), pz_succ]
        refine ⟨_, rfl, kp1.sI _ (wf_65_t rfl), fun a b ha hb => ?_⟩
        by_cases e : a = x ∧ b = y
        · rw [e.1, e.2, am_I_s, stq, w1]
        · rw [am_I_s2 _ _ _ _ (by omega), hw1 a b ha hb, stp a b ha hb e])
      refine ⟨g3, ?_, kp3, fun a b ha hb => ?_⟩
      · rw [e218_91, cc g' kp1, if_neg (nI_ge hx (by omega))]
        refine Eq.trans e3 ?_
        rw [e218_101, cc g3 kp3, if_pos (nI_le (Nat.le_refl _) (by omega)), pz_succ]
      · rw [hw3 a b ha hb]
        congr 1
        unfold pw_m
        by_cases c : a < x ∨ a = x ∧ b < pw_n d 1
        · rw [if_pos c, if_pos (by omega)]
        · rw [if_neg c, if_neg (by omega)])
    refine ⟨g5, ?_, kp5, fun a b ha hb => ?_⟩
    · rw [e218_81, cc g' kp1, if_neg (nI_ge hk (by omega))]
      refine Eq.trans e5 ?_
      rw [e218_91, cc g5 kp5, if_pos (nI_le (Nat.le_refl _) (by omega)), pz_succ]
    · rw [hw5 a b ha hb]
      unfold pw_m
      rw [if_pos (by omega)])
  refine Eq.mpr (congrArg (fun o => am_RV o _) e4) ?_
  rw [e218_81, cc g4 kp4, if_pos (nI_le (Nat.le_refl _) (by omega))]
  exact ⟨_, rfl, kp4, hw4⟩
