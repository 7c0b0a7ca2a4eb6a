/-! WINTER: what the class adds to its land -/
theorem wc_up {g : am_H} {L a : Nat} {c : Nat → Nat} (h : ∀ i, i < 5 → am_I g L (11 + i) = nI (c i)) : ∀ i, i < 5 → am_I (am_sI g L (11 + a) (nI (c a + 1))) L (11 + i) = nI (wn_up c a i) := fun i hi => by
  by_cases e : i = a
  · rw [e, am_I_s, wn_up_s]
  · rw [am_I_s2 _ _ _ _ (by omega), wn_up_n _ e]; exact h i hi
theorem wc_tab {g : am_H} {r m v : Nat} {t : Nat → Nat} (h : ∀ a, a < m → am_I g r a = nI (t a)) : ∀ a, a < m + 1 → am_I (am_sI g r m (nI v)) r a = nI (if a = m then v else t a) := fun a ha => by
  by_cases e : a = m
  · rw [e, am_I_s, if_pos rfl]
  · rw [am_I_s2 _ _ _ _ e, if_neg e]; exact h a (by omega)
theorem wn_S_pk {d : pw_L} {hu st i : Nat} (h0 : pw_n d 0 < 4) (h3 : pw_n d 3 ≤ 6) : wn_S (wn_pk d hu st) i = if i = 37 + pw_n d 0 then st else if i = 45 + pw_n d 0 then hu else wn_S d i := by
  have e3 : pw_n (wn_pk d hu st) 3 = pw_n d 3 := rfl
  have e0 : pw_n (wn_pk d hu st) 0 = pw_n d 0 + 1 := rfl
  have t8 : ∀ k, pw_t (wn_pk d hu st) 8 k = pw_t d 8 k := fun k => by
    show wn_st (wn_st d.2.1 6 (d.1 0) hu) 7 (d.1 0) st 8 k = _
    rw [wn_st_o _ (by omega), wn_st_o _ (by omega)]; rfl
  have t9 : ∀ k, pw_t (wn_pk d hu st) 9 k = pw_t d 9 k := fun k => by
    show wn_st (wn_st d.2.1 6 (d.1 0) hu) 7 (d.1 0) st 9 k = _
    rw [wn_st_o _ (by omega), wn_st_o _ (by omega)]; rfl
  have t7 : ∀ k, pw_t (wn_pk d hu st) 7 k = if k = pw_n d 0 then st else pw_t d 7 k := fun k => by
    show wn_st (wn_st d.2.1 6 (d.1 0) hu) 7 (d.1 0) st 7 k = _
    rw [wn_st_c, wn_st_o _ (by omega)]; rfl
  have t6 : ∀ k, pw_t (wn_pk d hu st) 6 k = if k = pw_n d 0 then hu else pw_t d 6 k := fun k => by
    show wn_st (wn_st d.2.1 6 (d.1 0) hu) 7 (d.1 0) st 6 k = _
    rw [wn_st_o _ (by omega), wn_st_c]; rfl
  unfold wn_S
  rw [e3, e0, t8, t9, t7, t6]
  by_cases a1 : 1 ≤ i ∧ i < 1 + pw_n d 3
  · rw [if_pos a1, if_neg (by omega), if_neg (by omega), if_pos a1]
  · rw [if_neg a1, if_neg a1]
    by_cases a2 : 7 ≤ i ∧ i < 7 + pw_n d 3
    · rw [if_pos a2, if_neg (by omega), if_neg (by omega), if_pos a2]
    · rw [if_neg a2, if_neg a2]
      by_cases a3 : i = 37 + pw_n d 0
      · rw [if_pos (by omega), if_pos (by omega), if_pos a3]
      · rw [if_neg a3]
        by_cases a4 : 37 ≤ i ∧ i < 37 + pw_n d 0
        · rw [if_pos (by omega), if_neg (by omega), if_neg (by omega), if_pos a4]
        · rw [if_neg (by omega), if_neg a4]
          by_cases a5 : i = 45 + pw_n d 0
          · rw [if_pos (by omega), if_pos (by omega), if_pos a5]
          · rw [if_neg a5]
            by_cases a6 : 45 ≤ i ∧ i < 45 + pw_n d 0
            · rw [if_pos (by omega), if_neg (by omega), if_pos a6]
            · rw [if_neg (by omega), if_neg a6]
theorem wn_S_pe {d : pw_L} {kk m la wo i : Nat} (h0 : pw_n d 0 ≤ 4) (h3 : pw_n d 3 < 6) : wn_S (wn_pe d kk m la wo) i = if i = 7 + pw_n d 3 then wo else if i = 1 + pw_n d 3 then la else wn_S d i := by
  have e3 : pw_n (wn_pe d kk m la wo) 3 = pw_n d 3 + 1 := rfl
  have e0 : pw_n (wn_pe d kk m la wo) 0 = pw_n d 0 := rfl
  have t7 : ∀ k, pw_t (wn_pe d kk m la wo) 7 k = pw_t d 7 k := fun k => by
    show wn_st (wn_st (wn_st (wn_st d.2.1 2 (d.1 3) kk) 3 (d.1 3) m) 8 (d.1 3) la) 9 (d.1 3) wo 7 k = _
    rw [wn_st_o _ (by omega), wn_st_o _ (by omega), wn_st_o _ (by omega), wn_st_o _ (by omega)]; rfl
  have t6 : ∀ k, pw_t (wn_pe d kk m la wo) 6 k = pw_t d 6 k := fun k => by
    show wn_st (wn_st (wn_st (wn_st d.2.1 2 (d.1 3) kk) 3 (d.1 3) m) 8 (d.1 3) la) 9 (d.1 3) wo 6 k = _
    rw [wn_st_o _ (by omega), wn_st_o _ (by omega), wn_st_o _ (by omega), wn_st_o _ (by omega)]; rfl
  have t8 : ∀ k, pw_t (wn_pe d kk m la wo) 8 k = if k = pw_n d 3 then la else pw_t d 8 k := fun k => by
    show wn_st (wn_st (wn_st (wn_st d.2.1 2 (d.1 3) kk) 3 (d.1 3) m) 8 (d.1 3) la) 9 (d.1 3) wo 8 k = _
    rw [wn_st_o _ (by omega), wn_st_c, wn_st_o _ (by omega), wn_st_o _ (by omega)]; rfl
  have t9 : ∀ k, pw_t (wn_pe d kk m la wo) 9 k = if k = pw_n d 3 then wo else pw_t d 9 k := fun k => by
    show wn_st (wn_st (wn_st (wn_st d.2.1 2 (d.1 3) kk) 3 (d.1 3) m) 8 (d.1 3) la) 9 (d.1 3) wo 9 k = _
    rw [wn_st_c, wn_st_o _ (by omega), wn_st_o _ (by omega), wn_st_o _ (by omega)]; rfl
  unfold wn_S
  rw [e3, e0, t8, t9, t7, t6]
  by_cases a3 : i = 1 + pw_n d 3
  · rw [if_pos (by omega), if_pos (by omega), if_neg (by omega), if_pos a3]
  · by_cases a1 : 1 ≤ i ∧ i < 1 + pw_n d 3
    · rw [if_pos (by omega), if_neg (by omega), if_neg (by omega), if_neg a3, if_pos a1]
    · rw [if_neg (by omega)]
      by_cases a4 : i = 7 + pw_n d 3
      · rw [if_pos (by omega), if_pos (by omega), if_pos a4]
      · rw [if_neg a4, if_neg a3, if_neg a1]
        by_cases a2 : 7 ≤ i ∧ i < 7 + pw_n d 3
        · rw [if_pos (by omega), if_neg (by omega), if_pos a2]
        · rw [if_neg (by omega), if_neg a2]
section
variable {h0 : am_H} {L n s : Nat} {tp : Nat → Nat} {g : am_H} {d : pw_L}
theorem s83Z {hu st : Nat} (hL : pc_lo L) (h : wc_Z h0 L tp n g (.inr (s, d))) (c0 : pw_n d 0 < 4) (h1 : hu ≤ 20) (h2 : st ≤ 99) : am_RV (am_run am_M 83 [.ref L, .int (nI hu), .int (nI st)] g) (fun g' => wc_Z h0 L tp n g' (.inr (s, wn_pk d hu st))) := by
  obtain ⟨kp, hX, h4, ⟨c1, c2, c3, c4, c5, c6, c7, c8⟩, hok⟩ := h
  have hl := hL
  unfold pc_lo at hl
  have cn : am_I g L 11 = nI (pw_n d 0) := c1 0 (by omega)
  rw [e83, pc_lch hL, pc_lg10 hL, pc_lch hL, pc_sch (pc_ls1 hL), cn, s154 (pc_ls1 hL) (show 37 + 2 * 4 + pw_n d 0 < 49 by omega), am_bV_ok, pc_lch hL, pc_lg10 hL, pc_lch hL, pc_sch (pc_ls1 hL), am_I_s1 _ _ _ _ (show L ≠ L + 15 + 1 by omega), cn, s154 (pc_ls1 hL) (show 37 + 0 * 4 + pw_n d 0 < 49 by omega), am_bV_ok, pc_lch hL, pc_lch hL, am_I_s1 _ _ _ _ (show L ≠ L + 15 + 1 by omega), am_I_s1 _ _ _ _ (show L ≠ L + 15 + 1 by omega), cn, nI_add, show 37 + 2 * 4 + pw_n d 0 = 45 + pw_n d 0 by omega, show 37 + 0 * 4 + pw_n d 0 = 37 + pw_n d 0 by omega, show L + 15 + 1 = L + 16 from rfl]
  have e : ∀ i k, i ≠ L → i ≠ L + 16 → am_I (am_sI (am_sI (am_sI g (L + 16) (45 + pw_n d 0) (nI hu)) (L + 16) (37 + pw_n d 0) (nI st)) L 11 (nI (pw_n d 0 + 1))) i k = am_I g i k := fun i k a b => by
    rw [am_I_s1 _ _ _ _ a, am_I_s1 _ _ _ _ b, am_I_s1 _ _ _ _ b]
  refine ⟨_, rfl, ((kp.sI _ (wf_H_t (by omega))).sI _ (wf_H_t (by omega))).sI _ (wf_H_t (by omega)), hX.fr fun k _ => e _ _ (by omega) (by omega), (e _ _ (by omega) (by omega)).trans h4, ⟨?_, fun a ha => ?_, fun p hp => ?_, fun i hi => ?_, fun j hj => ?_, c6.fr (e _ _ (by omega) (by omega)) (fun i => e _ _ (by omega) (by omega)), c7.fr (e _ _ (by omega) (by omega)) (fun i => e _ _ (by omega) (by omega)), fun i hi => ?_⟩, wn_pk_ok hok c0 h1 h2⟩
  · exact wc_up (a := 0) (c := d.1) (fun i hi => by rw [am_I_s1 _ _ _ _ (by omega), am_I_s1 _ _ _ _ (by omega)]; exact c1 i hi)
  · rw [e _ _ (by omega) (by omega), e _ _ (by omega) (by omega)]; exact c2 a ha
  · rw [e _ _ (by omega) (by omega), e _ _ (by omega) (by omega)]; exact c3 p hp
  · rw [e _ _ (by omega) (by omega)]; exact c4 i hi
  · rw [e _ _ (by omega) (by omega)]; exact c5 j hj
  · rw [am_I_s1 _ _ _ _ (by omega), wn_S_pk c0 hok.1.1.2.2.2.1]
    by_cases a3 : i = 37 + pw_n d 0
    · rw [if_pos a3, a3, am_I_s]
    · rw [if_neg a3, am_I_s2 _ _ _ _ a3]
      by_cases a4 : i = 45 + pw_n d 0
      · rw [if_pos a4, a4, am_I_s]
      · rw [if_neg a4, am_I_s2 _ _ _ _ a4]; exact c8 i hi
theorem s84Z {kk q : Nat} (hL : pc_lo L) (h : wc_Z h0 L tp n g (.inr (s, d))) (c0 : pw_n d 1 < 9) (h1 : kk ≤ 3) (h2 : q < pw_n d 0) : am_RV (am_run am_M 84 [.ref L, .int (nI kk), .int (nI q)] g) (fun g' => wc_Z h0 L tp n g' (.inr (s, wn_pl d kk q))) := by
  obtain ⟨kp, hX, h4, ⟨c1, c2, c3, c4, c5, c6, c7, c8⟩, hok⟩ := h
  have hl := hL
  unfold pc_lo at hl
  have cn : am_I g L 12 = nI (pw_n d 1) := c1 1 (by omega)
  rw [e84, pc_lch hL, pc_lg0 hL, pc_lch hL, cn, put_ok (pc_l1 hL) (by omega) (by omega) c0, am_bV_ok, pc_lch hL, pc_lg1 hL, pc_lch hL, am_I_s1 _ _ _ _ (show L ≠ L + 1 by omega), cn, put_ok (pc_l2 hL) (by omega) (by omega) c0, am_bV_ok, pc_lch hL, pc_lch hL, am_I_s1 _ _ _ _ (show L ≠ L + 2 by omega), am_I_s1 _ _ _ _ (show L ≠ L + 1 by omega), cn, nI_add]
  have e : ∀ i k, i ≠ L → i ≠ L + 1 → i ≠ L + 2 → am_I (am_sI (am_sI (am_sI g (L + 1) (pw_n d 1) (nI kk)) (L + 2) (pw_n d 1) (nI q)) L 12 (nI (pw_n d 1 + 1))) i k = am_I g i k := fun i k a b c => by
    rw [am_I_s1 _ _ _ _ a, am_I_s1 _ _ _ _ c, am_I_s1 _ _ _ _ b]
  refine ⟨_, rfl, ((kp.sI _ (wf_H_t (by omega))).sI _ (wf_H_t (by omega))).sI _ (wf_H_t (by omega)), hX.fr fun k _ => e _ _ (by omega) (by omega) (by omega), (e _ _ (by omega) (by omega) (by omega)).trans h4, ⟨?_, fun a ha => ?_, fun p hp => ?_, fun i hi => ?_, fun j hj => ?_, c6.fr (e _ _ (by omega) (by omega) (by omega)) (fun i => e _ _ (by omega) (by omega) (by omega)), c7.fr (e _ _ (by omega) (by omega) (by omega)) (fun i => e _ _ (by omega) (by omega) (by omega)), fun i hi => ?_⟩, wn_pl_ok hok c0 h1 h2⟩
  · exact wc_up (a := 1) (c := d.1) (fun i hi => by rw [am_I_s1 _ _ _ _ (by omega), am_I_s1 _ _ _ _ (by omega)]; exact c1 i hi)
  · have t0 : pw_t (wn_pl d kk q) 0 a = if a = pw_n d 1 then kk else pw_t d 0 a := by
      show wn_st (wn_st d.2.1 0 (d.1 1) kk) 1 (d.1 1) q 0 a = _
      rw [wn_st_o _ (by omega), wn_st_c]; rfl
    have t1 : pw_t (wn_pl d kk q) 1 a = if a = pw_n d 1 then q else pw_t d 1 a := by
      show wn_st (wn_st d.2.1 0 (d.1 1) kk) 1 (d.1 1) q 1 a = _
      rw [wn_st_c, wn_st_o _ (by omega)]; rfl
    have ha' : a < pw_n d 1 + 1 := ha
    rw [t0, t1, am_I_s1 _ _ _ _ (by omega), am_I_s1 _ _ _ _ (by omega), am_I_s1 _ _ _ _ (show L + 2 ≠ L by omega)]
    exact ⟨wc_tab (fun a ha => (c2 a ha).1) a ha', wc_tab (fun a ha => by rw [am_I_s1 _ _ _ _ (by omega)]; exact (c2 a ha).2) a ha'⟩
  · rw [e _ _ (by omega) (by omega) (by omega), e _ _ (by omega) (by omega) (by omega)]; exact c3 p hp
  · rw [e _ _ (by omega) (by omega) (by omega)]; exact c4 i hi
  · rw [e _ _ (by omega) (by omega) (by omega)]; exact c5 j hj
  · rw [e _ _ (by omega) (by omega) (by omega)]; exact c8 i hi
theorem s85Z {x y v : Nat} (hL : pc_lo L) (h : wc_Z h0 L tp n g (.inr (s, d))) (c0 : pw_n d 2 < 14) (hx : x < pw_n d 1) (hy : y < pw_n d 1) (hxy : y ≠ x) (hv : v ≤ 9) : am_RV (am_run am_M 85 [.ref L, .int (nI x), .int (nI y), .int (nI v)] g) (fun g' => wc_Z h0 L tp n g' (.inr (s, wn_pa d x y v))) := by
  obtain ⟨kp, hX, h4, ⟨c1, c2, c3, c4, c5, c6, c7, c8⟩, hok⟩ := h
  have hl := hL
  unfold pc_lo at hl
  have h9 := hok.1.1.2.1
  have cn : am_I g L 13 = nI (pw_n d 2) := c1 2 (by omega)
  rw [e85, pc_lch hL, pc_lg5 hL, pk_mul, nI_add, put_ok (pc_l6 hL) (by omega) (by omega) (show x * 9 + y < 81 by omega), am_bV_ok, pc_lch hL, pc_lg5 hL, pk_mul, nI_add, put_ok (pc_l6 hL) (by omega) (by omega) (show y * 9 + x < 81 by omega), am_bV_ok, pc_lch hL, pc_lch hL, am_I_s1 _ _ _ _ (show L ≠ L + 6 by omega), am_I_s1 _ _ _ _ (show L ≠ L + 6 by omega), cn, nI_add]
  have e : ∀ i k, i ≠ L → i ≠ L + 6 → am_I (am_sI (am_sI (am_sI g (L + 6) (x * 9 + y) (nI v)) (L + 6) (y * 9 + x) (nI v)) L 13 (nI (pw_n d 2 + 1))) i k = am_I g i k := fun i k a b => by
    rw [am_I_s1 _ _ _ _ a, am_I_s1 _ _ _ _ b, am_I_s1 _ _ _ _ b]
  refine ⟨_, rfl, ((kp.sI _ (wf_H_t (by omega))).sI _ (wf_H_t (by omega))).sI _ (wf_H_t (by omega)), hX.fr fun k _ => e _ _ (by omega) (by omega), (e _ _ (by omega) (by omega)).trans h4, ⟨?_, fun a ha => ?_, fun p hp => ?_, fun i hi => ?_, fun j hj => ?_, c6.fr (e _ _ (by omega) (by omega)) (fun i => e _ _ (by omega) (by omega)), c7.fr (e _ _ (by omega) (by omega)) (fun i => e _ _ (by omega) (by omega)), fun i hi => ?_⟩, wn_pa_ok hok c0 hx hy hxy hv⟩
  · exact wc_up (a := 2) (c := d.1) (fun i hi => by rw [am_I_s1 _ _ _ _ (by omega), am_I_s1 _ _ _ _ (by omega)]; exact c1 i hi)
  · rw [e _ _ (by omega) (by omega), e _ _ (by omega) (by omega)]; exact c2 a ha
  · rw [e _ _ (by omega) (by omega), e _ _ (by omega) (by omega)]; exact c3 p hp
  · rw [e _ _ (by omega) (by omega)]; exact c4 i hi
  · have t5 : pw_t (wn_pa d x y v) 5 j = if j = y * 9 + x then v else if j = x * 9 + y then v else pw_t d 5 j := by
      show wn_st (wn_st d.2.1 5 (x * 9 + y) v) 5 (y * 9 + x) v 5 j = _
      rw [wn_st_c, wn_st_c]; rfl
    rw [t5, am_I_s1 _ _ _ _ (by omega)]
    by_cases a1 : j = y * 9 + x
    · rw [if_pos a1, a1, am_I_s]
    · rw [if_neg a1, am_I_s2 _ _ _ _ a1]
      by_cases a2 : j = x * 9 + y
      · rw [if_pos a2, a2, am_I_s]
      · rw [if_neg a2, am_I_s2 _ _ _ _ a2]; exact c5 j hj
  · rw [e _ _ (by omega) (by omega)]; exact c8 i hi
theorem s86Z {kk m la wo : Nat} (hL : pc_lo L) (h : wc_Z h0 L tp n g (.inr (s, d))) (c0 : pw_n d 3 < 6) (h1 : kk ≤ 3) (h2 : m < pw_n d 1) (h3 : la ≤ 99) (h5 : wo ≤ 99) : am_RV (am_run am_M 86 [.ref L, .int (nI kk), .int (nI m), .int (nI la), .int (nI wo)] g) (fun g' => wc_Z h0 L tp n g' (.inr (s, wn_pe d kk m la wo))) := by
  obtain ⟨kp, hX, h4, ⟨c1, c2, c3, c4, c5, c6, c7, c8⟩, hok⟩ := h
  have hl := hL
  unfold pc_lo at hl
  have cn : am_I g L 14 = nI (pw_n d 3) := c1 3 (by omega)
  rw [e86, pc_lch hL, pc_lg2 hL, pc_lch hL, cn, put_ok (pc_l3 hL) (by omega) (by omega) c0, am_bV_ok, pc_lch hL, pc_lg3 hL, pc_lch hL, am_I_s1 _ _ _ _ (show L ≠ L + 3 by omega), cn, put_ok (pc_l4 hL) (by omega) (by omega) c0, am_bV_ok, pc_lch hL, pc_lg10 hL, pc_lch hL, pc_sch (pc_ls1 hL), am_I_s1 _ _ _ _ (show L ≠ L + 4 by omega), am_I_s1 _ _ _ _ (show L ≠ L + 3 by omega), cn, s152 (pc_ls1 hL) (show 1 + 0 * 6 + pw_n d 3 < 49 by omega), am_bV_ok, pc_lch hL, pc_lg10 hL, pc_lch hL, pc_sch (pc_ls1 hL), am_I_s1 _ _ _ _ (show L ≠ L + 15 + 1 by omega), am_I_s1 _ _ _ _ (show L ≠ L + 4 by omega), am_I_s1 _ _ _ _ (show L ≠ L + 3 by omega), cn, s152 (pc_ls1 hL) (show 1 + 1 * 6 + pw_n d 3 < 49 by omega), am_bV_ok, pc_lch hL, pc_lch hL, am_I_s1 _ _ _ _ (show L ≠ L + 15 + 1 by omega), am_I_s1 _ _ _ _ (show L ≠ L + 15 + 1 by omega), am_I_s1 _ _ _ _ (show L ≠ L + 4 by omega), am_I_s1 _ _ _ _ (show L ≠ L + 3 by omega), cn, nI_add, show 1 + 0 * 6 + pw_n d 3 = 1 + pw_n d 3 by omega, show 1 + 1 * 6 + pw_n d 3 = 7 + pw_n d 3 by omega, show L + 15 + 1 = L + 16 from rfl]
  have e : ∀ i k, i ≠ L → i ≠ L + 3 → i ≠ L + 4 → i ≠ L + 16 → am_I (am_sI (am_sI (am_sI (am_sI (am_sI g (L + 3) (pw_n d 3) (nI kk)) (L + 4) (pw_n d 3) (nI m)) (L + 16) (1 + pw_n d 3) (nI la)) (L + 16) (7 + pw_n d 3) (nI wo)) L 14 (nI (pw_n d 3 + 1))) i k = am_I g i k := fun i k a b c d => by
    rw [am_I_s1 _ _ _ _ a, am_I_s1 _ _ _ _ d, am_I_s1 _ _ _ _ d, am_I_s1 _ _ _ _ c, am_I_s1 _ _ _ _ b]
  refine ⟨_, rfl, ((((kp.sI _ (wf_H_t (by omega))).sI _ (wf_H_t (by omega))).sI _ (wf_H_t (by omega))).sI _ (wf_H_t (by omega))).sI _ (wf_H_t (by omega)), hX.fr fun k _ => e _ _ (by omega) (by omega) (by omega) (by omega), (e _ _ (by omega) (by omega) (by omega) (by omega)).trans h4, ⟨?_, fun a ha => ?_, fun p hp => ?_, fun i hi => ?_, fun j hj => ?_, c6.fr (e _ _ (by omega) (by omega) (by omega) (by omega)) (fun i => e _ _ (by omega) (by omega) (by omega) (by omega)), c7.fr (e _ _ (by omega) (by omega) (by omega) (by omega)) (fun i => e _ _ (by omega) (by omega) (by omega) (by omega)), fun i hi => ?_⟩, wn_pe_ok hok c0 h1 h2 h3 h5⟩
  · exact wc_up (a := 3) (c := d.1) (fun i hi => by rw [am_I_s1 _ _ _ _ (by omega), am_I_s1 _ _ _ _ (by omega), am_I_s1 _ _ _ _ (by omega), am_I_s1 _ _ _ _ (by omega)]; exact c1 i hi)
  · rw [e _ _ (by omega) (by omega) (by omega) (by omega), e _ _ (by omega) (by omega) (by omega) (by omega)]; exact c2 a ha
  · have t2 : pw_t (wn_pe d kk m la wo) 2 p = if p = pw_n d 3 then kk else pw_t d 2 p := by
      show wn_st (wn_st (wn_st (wn_st d.2.1 2 (d.1 3) kk) 3 (d.1 3) m) 8 (d.1 3) la) 9 (d.1 3) wo 2 p = _
      rw [wn_st_o _ (by omega), wn_st_o _ (by omega), wn_st_o _ (by omega), wn_st_c]; rfl
    have t3 : pw_t (wn_pe d kk m la wo) 3 p = if p = pw_n d 3 then m else pw_t d 3 p := by
      show wn_st (wn_st (wn_st (wn_st d.2.1 2 (d.1 3) kk) 3 (d.1 3) m) 8 (d.1 3) la) 9 (d.1 3) wo 3 p = _
      rw [wn_st_o _ (by omega), wn_st_o _ (by omega), wn_st_c, wn_st_o _ (by omega)]; rfl
    have hp' : p < pw_n d 3 + 1 := hp
    rw [t2, t3, am_I_s1 _ _ _ _ (show L + 3 ≠ L by omega), am_I_s1 _ _ _ _ (show L + 3 ≠ L + 16 by omega), am_I_s1 _ _ _ _ (show L + 3 ≠ L + 16 by omega), am_I_s1 _ _ _ _ (show L + 3 ≠ L + 4 by omega), am_I_s1 _ _ _ _ (show L + 4 ≠ L by omega), am_I_s1 _ _ _ _ (show L + 4 ≠ L + 16 by omega), am_I_s1 _ _ _ _ (show L + 4 ≠ L + 16 by omega)]
    exact ⟨wc_tab (fun a ha => (c3 a ha).1) p hp', wc_tab (fun a ha => by rw [am_I_s1 _ _ _ _ (by omega)]; exact (c3 a ha).2) p hp'⟩
  · rw [e _ _ (by omega) (by omega) (by omega) (by omega)]; exact c4 i hi
  · rw [e _ _ (by omega) (by omega) (by omega) (by omega)]; exact c5 j hj
  · rw [am_I_s1 _ _ _ _ (by omega), wn_S_pe hok.1.1.1 c0]
    by_cases a3 : i = 7 + pw_n d 3
    · rw [if_pos a3, a3, am_I_s]
    · rw [if_neg a3, am_I_s2 _ _ _ _ a3]
      by_cases a4 : i = 1 + pw_n d 3
      · rw [if_pos a4, a4, am_I_s]
      · rw [if_neg a4, am_I_s2 _ _ _ _ a4, am_I_s1 _ _ _ _ (by omega), am_I_s1 _ _ _ _ (by omega)]; exact c8 i hi
theorem s87Z {v : Nat} (hL : pc_lo L) (h : wc_Z h0 L tp n g (.inr (s, d))) (c0 : pw_n d 4 < 10) (h1 : v ≤ 9) : am_RV (am_run am_M 87 [.ref L, .int (nI v)] g) (fun g' => wc_Z h0 L tp n g' (.inr (s, wn_sn d v))) := by
  obtain ⟨kp, hX, h4, ⟨c1, c2, c3, c4, c5, c6, c7, c8⟩, hok⟩ := h
  have hl := hL
  unfold pc_lo at hl
  have cn : am_I g L 15 = nI (pw_n d 4) := c1 4 (by omega)
  rw [e87, pc_lch hL, pc_lg4 hL, pc_lch hL, cn, put_ok (pc_l5 hL) (by omega) (by omega) c0, am_bV_ok, pc_lch hL, pc_lch hL, am_I_s1 _ _ _ _ (show L ≠ L + 5 by omega), cn, nI_add]
  have e : ∀ i k, i ≠ L → i ≠ L + 5 → am_I (am_sI (am_sI g (L + 5) (pw_n d 4) (nI v)) L 15 (nI (pw_n d 4 + 1))) i k = am_I g i k := fun i k a b => by
    rw [am_I_s1 _ _ _ _ a, am_I_s1 _ _ _ _ b]
  refine ⟨_, rfl, (kp.sI _ (wf_H_t (by omega))).sI _ (wf_H_t (by omega)), hX.fr fun k _ => e _ _ (by omega) (by omega), (e _ _ (by omega) (by omega)).trans h4, ⟨?_, fun a ha => ?_, fun p hp => ?_, fun i hi => ?_, fun j hj => ?_, c6.fr (e _ _ (by omega) (by omega)) (fun i => e _ _ (by omega) (by omega)), c7.fr (e _ _ (by omega) (by omega)) (fun i => e _ _ (by omega) (by omega)), fun i hi => ?_⟩, wn_sn_ok hok c0 h1⟩
  · exact wc_up (a := 4) (c := d.1) (fun i hi => by rw [am_I_s1 _ _ _ _ (by omega)]; exact c1 i hi)
  · rw [e _ _ (by omega) (by omega), e _ _ (by omega) (by omega)]; exact c2 a ha
  · rw [e _ _ (by omega) (by omega), e _ _ (by omega) (by omega)]; exact c3 p hp
  · have t4 : pw_t (wn_sn d v) 4 i = if i = pw_n d 4 then v else pw_t d 4 i := wn_st_c _
    have hi' : i < pw_n d 4 + 1 := hi
    rw [t4, am_I_s1 _ _ _ _ (by omega)]
    exact wc_tab c4 i hi'
  · rw [e _ _ (by omega) (by omega)]; exact c5 j hj
  · rw [e _ _ (by omega) (by omega)]; exact c8 i hi
theorem s87F {x : Int32} {q : Nat × Nat} (hL : pc_lo L) (h : wc_Z h0 L tp n g (.inl q)) : am_RV (am_run am_M 87 [.ref L, .int x] g) (fun g' => wc_Z h0 L tp n g' (.inl q)) := by
  obtain ⟨f, p⟩ := q
  obtain ⟨kp, ⟨s, hX⟩, h4, hf, h3, d, d1, d2, d3⟩ := h
  have hl := hL
  unfold pc_lo at hl
  have key : ∀ g1, am_kp (wf_L L) h0 g1 → (∀ i k, i ≠ L + 5 → am_I g1 i k = am_I g i k) → am_RV (am_ch 100 L 2 (am_ch 100 L 2 ((fun g3 => some (.inl none, g3)) (am_sI g1 L 15 ((am_I g1 L 15) + (nI 1)))))) (fun g' => wc_Z h0 L tp n g' (.inl (f, p))) := fun g1 k1 e1 => by
    rw [pc_lch hL, pc_lch hL]
    have e : ∀ i k, ¬ (i = L ∧ k = 15) → i ≠ L + 5 → am_I (am_sI g1 L 15 ((am_I g1 L 15) + (nI 1))) i k = am_I g i k := fun i k a b => by
      rw [am_I_sc, if_neg a]; exact e1 i k b
    exact ⟨_, rfl, k1.sI _ (wf_L_t (by omega)), ⟨s, hX.fr fun k _ => e _ _ (by omega) (by omega)⟩, (e _ _ (by omega) (by omega)).trans h4, hf, (e _ _ (by omega) (by omega)).trans h3, d, d1, (e _ _ (by omega) (by omega)).trans d2, fun j hj => (e _ _ (by omega) (by omega)).trans (d3 j hj)⟩
  rw [e87, pc_lch hL, pc_lg4 hL, pc_lch hL]
  rcases put_any (pc_l5 hL) (by omega) (by omega) (am_I g L 15) x g with e | ⟨k, e⟩
  · rw [e, am_bV_ok]; exact key g kp (fun _ _ _ => rfl)
  · rw [e, am_bV_ok]; exact key _ (kp.sI _ (wf_L_t (by omega))) (fun i k2 hi => by rw [am_I_s1 _ _ _ _ hi])
end
/-! the shortest ways -/
theorem pw_w_d (d : pw_L) (i : Nat) : ∀ k a, pw_w d i k a a = 0
  | 0, a => if_pos rfl
  | k + 1, a => by rw [pw_w, pw_w_d d i k a]; omega
theorem pw_w_le {d : pw_L} {i : Nat} (hi : 9 ≤ i) (ho : pw_ok d) : ∀ k a b, a < 9 → b < 9 → pw_w d i k a b ≤ i
  | 0, a, b, ha, hb => by
    have := (ho.2.2.2.2.1 a b ha hb).1
    rw [pw_w]
    split
    · omega
    · split <;> omega
  | k + 1, a, b, ha, hb => by
    have := pw_w_le hi ho k a b ha hb
    rw [pw_w]; omega
theorem pw_w_c (d : pw_L) (i k a : Nat) : pw_w d i (k + 1) a k = pw_w d i k a k := by rw [pw_w, pw_w_d]; omega
theorem pw_w_r (d : pw_L) (i k b : Nat) : pw_w d i (k + 1) k b = pw_w d i k k b := by rw [pw_w, pw_w_d]; omega
/-- in the midst of a pass through k: below (x, y) done -/
def pw_m (d : pw_L) (i k x y a b : Nat) : Nat := if a < x ∨ a = x ∧ b < y then pw_w d i (k + 1) a b else pw_w d i k a b
theorem pw_m_c (d : pw_L) (i k x y a : Nat) : pw_m d i k x y a k = pw_w d i k a k := by
  unfold pw_m
  split
  · exact pw_w_c d i k a
  · rfl
theorem pw_m_r (d : pw_L) (i k x y b : Nat) : pw_m d i k x y k b = pw_w d i k k b := by
  unfold pw_m
  split
  · exact pw_w_r d i k b
  · rfl
def wf_7 (L i _k : Nat) : Bool := decide (i = L + 7)
theorem wf_7_t {L i k : Nat} (h : i = L + 7) : wf_7 L i k = true := decide_eq_true h
theorem wf_7_f {L i k : Nat} (h : i ≠ L + 7) : wf_7 L i k = false := decide_eq_false h
section
variable {L : Nat} {g : am_H} {d : pw_L}
theorem s89 {k : Nat} {g1 : am_H} (hL : pc_lo L) (ho : pw_ok d) (c12 : am_I g L 12 = nI (pw_n d 1)) (hk : k < pw_n d 1) (kp : am_kp (wf_7 L) g g1) (hw : ∀ a b, a < pw_n d 1 → b < pw_n d 1 → am_I g1 (L + 7) (a * 9 + b) = nI (pw_w d 1000 k a b)) : am_RV (am_run am_M 89 [.ref L, .int (nI k)] g1) (fun g' => am_kp (wf_7 L) g g' ∧ ∀ a b, a < pw_n d 1 → b < pw_n d 1 → am_I g' (L + 7) (a * 9 + b) = nI (pw_w d 1000 (k + 1) a b)) := by
  have h9 := ho.1.2.1
  have hlt := pc_llt hL
  have cc : ∀ g', am_kp (wf_7 L) g g' → am_I g' L 12 = nI (pw_n d 1) := fun g' k => (k.get L 12 (wf_7_f (by omega))).trans c12
  rw [e89]
  obtain ⟨g2, e, kp2, hw2⟩ := am_for0 (fun x (g' : am_H) => am_vn am_M 2 89 2 [some (.ref L), some (.int (nI k)), some (.int (nI x)), none, none] [] g') (fun x g' => am_kp (wf_7 L) g g' ∧ ∀ a b, a < pw_n d 1 → b < pw_n d 1 → am_I g' (L + 7) (a * 9 + b) = nI (pw_m d 1000 k x 0 a b)) (pw_n d 1) g1 ⟨kp, fun a b ha hb => by rw [hw a b ha hb]; unfold pw_m; rw [if_neg (by omega)]⟩ (fun x g' hx hg => by
    obtain ⟨kp1, hw1⟩ := hg
    obtain ⟨g3, e3, kp3, hw3⟩ := am_for0 (fun y (g' : am_H) => am_vn am_M 2 89 12 [some (.ref L), some (.int (nI k)), some (.int (nI x)), some (.int (nI y)), none] [] g') (fun y g' => am_kp (wf_7 L) g g' ∧ ∀ a b, a < pw_n d 1 → b < pw_n d 1 → am_I g' (L + 7) (a * 9 + b) = nI (pw_m d 1000 k x y a b)) (pw_n d 1) g' ⟨kp1, hw1⟩ (fun y g' hy hg => by
      obtain ⟨kp1, hw1⟩ := hg
      have l1 := pw_w_le (i := 1000) (by omega) ho k x k (by omega) (by omega)
      have l2 := pw_w_le (i := 1000) (by omega) ho k k y (by omega) (by omega)
      have l3 := pw_w_le (i := 1000) (by omega) ho k x y (by omega) (by omega)
      have m3 : pw_m d 1000 k x y x y = pw_w d 1000 k x y := by unfold pw_m; rw [if_neg (by omega)]
      have w1 : pw_w d 1000 (k + 1) x y = min (pw_w d 1000 k x y) (pw_w d 1000 k x k + pw_w d 1000 k k y) := rfl
      have stp : ∀ a b, a < pw_n d 1 → b < pw_n d 1 → ¬ (a = x ∧ b = y) → pw_m d 1000 k x (y + 1) a b = pw_m d 1000 k x y a b := fun a b _ _ hab => by
        unfold pw_m
        by_cases c : a < x ∨ a = x ∧ b < y
        · rw [if_pos c, if_pos (by omega)]
        · rw [if_neg c, if_neg (by omega)]
      have stq : pw_m d 1000 k x (y + 1) x y = pw_w d 1000 (k + 1) x y := by unfold pw_m; rw [if_pos (by omega)]
      rw [e89_12, pc_lch hL, cc g' kp1, if_neg (nI_ge hy (by omega)), pc_lch hL, s96 hL (show x * 9 + k < 81 by omega), am_bI_ok, pc_lch hL, s96 hL (show k * 9 + y < 81 by omega), am_bI_ok, pc_lch hL, s96 hL (show x * 9 + y < 81 by omega), am_bI_ok, hw1 x k hx hk, hw1 k y hk hy, hw1 x y hx hy, pw_m_c, pw_m_r, m3, nI_add]
      by_cases c : pw_w d 1000 k x y ≤ pw_w d 1000 k x k + pw_w d 1000 k k y
      · rw [if_pos (nI_le c (by omega)), pz_succ]
        refine ⟨g', rfl, kp1, fun a b ha hb => ?_⟩
        rw [hw1 a b ha hb]
        by_cases e : a = x ∧ b = y
        · rw [e.1, e.2, m3, stq, w1, Nat.min_eq_left c]
        · rw [stp a b ha hb e]
      · rw [if_neg (nI_ge (by omega) (by omega)), pc_lch hL, pc_lg6 hL, pk_mul, nI_add, put_ok (pc_l7 hL) (by omega) (by omega) (show x * 9 + y < 81 by omega), am_bV_ok, pz_succ]
        refine ⟨_, rfl, kp1.sI _ (wf_7_t rfl), fun a b ha hb => ?_⟩
        by_cases e : a = x ∧ b = y
        · rw [e.1, e.2, am_I_s, stq, w1, Nat.min_eq_right (by omega)]
        · rw [am_I_s2 _ _ _ _ (by omega), hw1 a b ha hb, stp a b ha hb e])
    refine ⟨g3, ?_, kp3, fun a b ha hb => ?_⟩
    · rw [e89_2, pc_lch hL, cc g' kp1, if_neg (nI_ge hx (by omega))]
      refine Eq.trans e3 ?_
      rw [e89_12, pc_lch hL, cc g3 kp3, if_pos (nI_le (Nat.le_refl _) (by omega)), pz_succ]
    · rw [hw3 a b ha hb]
      congr 1
      unfold pw_m
      by_cases c : a < x ∨ a = x ∧ b < pw_n d 1
      · rw [if_pos c, if_pos (by omega)]
      · rw [if_neg c, if_neg (by omega)])
  refine Eq.mpr (congrArg (fun o => am_RV o _) e) ?_
  rw [e89_2, pc_lch hL, cc g2 kp2, if_pos (nI_le (Nat.le_refl _) (by omega))]
  refine ⟨_, rfl, kp2, fun a b ha hb => ?_⟩
  rw [hw2 a b ha hb]
  unfold pw_m
  rw [if_pos (by omega)]
theorem s88 (hL : pc_lo L) (ho : pw_ok d) (c12 : am_I g L 12 = nI (pw_n d 1)) (c6 : ∀ j, j < 81 → am_I g (L + 6) j = nI (pw_t d 5 j)) : am_RV (am_run am_M 88 [.ref L] g) (fun g' => am_kp (wf_7 L) g g' ∧ ∀ a b, a < pw_n d 1 → b < pw_n d 1 → am_I g' (L + 7) (a * 9 + b) = nI (pw_w d 1000 (pw_n d 1) a b)) := by
  have h9 := ho.1.2.1
  have hlt := pc_llt hL
  have cc : ∀ g', am_kp (wf_7 L) g g' → am_I g' L 12 = nI (pw_n d 1) := fun g' k => (k.get L 12 (wf_7_f (by omega))).trans c12
  rw [e88]
  obtain ⟨g2, e, kp2, hw2⟩ := am_for0 (fun x (g' : am_H) => am_vn am_M 3 88 2 [some (.ref L), some (.int (nI x)), none, none, none] [] g') (fun x g' => am_kp (wf_7 L) g g' ∧ ∀ a b, a < x → b < pw_n d 1 → am_I g' (L + 7) (a * 9 + b) = nI (pw_w d 1000 0 a b)) (pw_n d 1) g ⟨am_kp.refl _ _, fun a b ha => absurd ha (Nat.not_lt_zero a)⟩ (fun x g' hx hg => by
    obtain ⟨kp1, hw1⟩ := hg
    obtain ⟨g3, e3, kp3, hw3⟩ := am_for0 (fun y (g' : am_H) => am_vn am_M 3 88 12 [some (.ref L), some (.int (nI x)), some (.int (nI y)), none, none] [] g') (fun y g' => am_kp (wf_7 L) g g' ∧ ∀ a b, (a < x ∧ b < pw_n d 1 ∨ a = x ∧ b < y) → am_I g' (L + 7) (a * 9 + b) = nI (pw_w d 1000 0 a b)) (pw_n d 1) g' ⟨kp1, fun a b h => hw1 a b (by omega) (by omega)⟩ (fun y g' hy hg => by
      obtain ⟨kp1, hw1⟩ := hg
      have t9 := (ho.2.2.2.2.1 x y (by omega) (by omega)).1
      have h6 : am_I g' (L + 6) (x * 9 + y) = nI (pw_t d 5 (x * 9 + y)) := (kp1.get _ _ (wf_7_f (by omega))).trans (c6 _ (by omega))
      have w0 : pw_w d 1000 0 x y = if x = y then 0 else if pw_t d 5 (x * 9 + y) = 0 then 1000 else pw_t d 5 (x * 9 + y) := rfl
      have fin : ∀ v, (¬ x = y → v = pw_w d 1000 0 x y) → ∃ s', am_vn am_M 3 88 38 [some (.ref L), some (.int (nI x)), some (.int (nI y)), none, none] [(.int (nI v))] g' = am_vn am_M 3 88 12 [some (.ref L), some (.int (nI x)), some (.int (nI (y + 1))), none, none] [] s' ∧ am_kp (wf_7 L) g s' ∧ ∀ a b, (a < x ∧ b < pw_n d 1 ∨ a = x ∧ b < y + 1) → am_I s' (L + 7) (a * 9 + b) = nI (pw_w d 1000 0 a b) := fun v hv => by
        have rest : ∀ u, u = pw_w d 1000 0 x y → am_kp (wf_7 L) g (am_sI g' (L + 7) (x * 9 + y) (nI u)) ∧ ∀ a b, (a < x ∧ b < pw_n d 1 ∨ a = x ∧ b < y + 1) → am_I (am_sI g' (L + 7) (x * 9 + y) (nI u)) (L + 7) (a * 9 + b) = nI (pw_w d 1000 0 a b) := fun u hu => ⟨kp1.sI _ (wf_7_t rfl), fun a b hab => by
          by_cases e : a = x ∧ b = y
          · rw [e.1, e.2, am_I_s, hu]
          · rw [am_I_s2 _ _ _ _ (by omega)]; exact hw1 a b (by omega)⟩
        rw [e88_38, pc_lch hL, pc_lg6 hL]
        by_cases c : x = y
        · rw [if_pos (show nI x = nI y by rw [c]), pk_mul, nI_add, put_ok (pc_l7 hL) (by omega) (by omega) (show x * 9 + y < 81 by omega), am_bV_ok, pz_succ]
          exact ⟨_, rfl, rest 0 (by rw [w0, if_pos c])⟩
        · rw [if_neg (fun e => c ((nI_eq (by omega) (by omega)).mp e)), pk_mul, nI_add, put_ok (pc_l7 hL) (by omega) (by omega) (show x * 9 + y < 81 by omega), am_bV_ok, pz_succ]
          exact ⟨_, rfl, rest v (hv c)⟩
      rw [e88_12, pc_lch hL, cc g' kp1, if_neg (nI_ge hy (by omega)), pc_lch hL, s95 hL (show x * 9 + y < 81 by omega), am_bI_ok, h6]
      by_cases t0 : pw_t d 5 (x * 9 + y) = 0
      · rw [if_pos (show nI (pw_t d 5 (x * 9 + y)) ≤ 0 by rw [t0]; decide)]
        exact fin 1000 (fun c => by rw [w0, if_neg c, if_pos t0])
      · rw [if_neg (show ¬ nI (pw_t d 5 (x * 9 + y)) ≤ 0 from nI_ge (show 0 < pw_t d 5 (x * 9 + y) by omega) (by omega))]
        exact fin _ (fun c => by rw [w0, if_neg c, if_neg t0]))
    refine ⟨g3, ?_, kp3, fun a b ha hb => hw3 a b (by omega)⟩
    rw [e88_2, pc_lch hL, cc g' kp1, if_neg (nI_ge hx (by omega))]
    refine Eq.trans e3 ?_
    rw [e88_12, pc_lch hL, cc g3 kp3, if_pos (nI_le (Nat.le_refl _) (by omega)), pz_succ])
  refine Eq.mpr (congrArg (fun o => am_RV o _) e) ?_
  rw [e88_2, pc_lch hL, cc g2 kp2, if_pos (nI_le (Nat.le_refl _) (by omega))]
  obtain ⟨g4, e4, kp4, hw4⟩ := am_for0 (fun x (g' : am_H) => am_vn am_M 3 88 78 [some (.ref L), some (.int (nI x)), none, none, none] [] g') (fun x g' => am_kp (wf_7 L) g g' ∧ ∀ a b, a < pw_n d 1 → b < pw_n d 1 → am_I g' (L + 7) (a * 9 + b) = nI (pw_w d 1000 x a b)) (pw_n d 1) g2 ⟨kp2, fun a b ha hb => hw2 a b ha hb⟩ (fun x g' hx hg => by
    obtain ⟨kp1, hw1⟩ := hg
    obtain ⟨g3, e3, kp3, hw3⟩ := s89 hL ho c12 hx kp1 hw1
    refine ⟨g3, ?_, kp3, hw3⟩
    rw [e88_78, pc_lch hL, cc g' kp1, if_neg (nI_ge hx (by omega)), pc_lch hL, e3, am_bV_ok, pz_succ])
  refine Eq.mpr (congrArg (fun o => am_RV o _) e4) ?_
  rw [e88_78, pc_lch hL, cc g4 kp4, if_pos (nI_le (Nat.le_refl _) (by omega))]
  exact ⟨_, rfl, kp4, hw4⟩
/-! an empty land -/
theorem s82 (hL : pc_lo L) : am_RV (am_run am_M 82 [.ref L] g) (fun g' => am_kp (wf_H L) g g' ∧ (∀ k, am_I g' 1 k = am_I g 1 k) ∧ wc_L g' L wn_0) := by
  have hl := hL
  unfold pc_lo at hl
  rw [e82, pc_lch hL]
  dsimp only
  rw [pc_lch hL, pc_lch hL, pc_lch hL, pc_lch hL, pc_lch hL, pc_lg10 hL, pc_sch (pc_ls1 hL), s155 (pc_ls1 hL), am_bV_ok, pc_lch hL, pc_lg8 hL, pc_dch (pc_ld1 hL), s76 (pc_ld1 hL), am_bV_ok, pc_lch hL, pc_lg9 hL, pc_dch (pc_ld2 hL), s76 (pc_ld2 hL), am_bV_ok, pc_lch hL, pc_lg5 hL, fill_ok (pc_l6 hL) (by omega) (by omega) (Nat.le_refl 81), am_bV_ok]
  refine ⟨_, rfl, ?_, fun k => ?_, fun i hi => ?_, fun a ha => absurd ha (Nat.not_lt_zero a), fun a ha => absurd ha (Nat.not_lt_zero a), fun a ha => absurd ha (Nat.not_lt_zero a), fun j hj => ?_, ⟨?_, fun i hi => absurd hi (Nat.not_lt_zero i)⟩, ⟨?_, fun i hi => absurd hi (Nat.not_lt_zero i)⟩, fun i hi => ?_⟩
  · exact ((((((((((am_kp.refl _ g).sI _ (wf_H_t (by omega))).sI _ (wf_H_t (by omega))).sI _ (wf_H_t (by omega))).sI _ (wf_H_t (by omega))).sI _ (wf_H_t (by omega))).wr _ (fun k => wf_H_t (by omega))).sI _ (wf_H_t (by omega))).sI _ (wf_H_t (by omega))).wr _ (fun k => wf_H_t (by omega)))
  · rw [am_I_w1 _ _ _ (by omega), am_I_s1 _ _ _ _ (by omega), am_I_s1 _ _ _ _ (by omega), am_I_w1 _ _ _ (by omega), am_I_s1 _ _ _ _ (by omega), am_I_s1 _ _ _ _ (by omega), am_I_s1 _ _ _ _ (by omega), am_I_s1 _ _ _ _ (by omega), am_I_s1 _ _ _ _ (by omega)]
  · rw [am_I_w1 _ _ _ (by omega), am_I_s1 _ _ _ _ (by omega), am_I_s1 _ _ _ _ (by omega), am_I_w1 _ _ _ (by omega), am_I_sc, am_I_sc, am_I_sc, am_I_sc, am_I_sc]
    show _ = nI 0
    have : i = 0 ∨ i = 1 ∨ i = 2 ∨ i = 3 ∨ i = 4 := by omega
    rcases this with rfl | rfl | rfl | rfl | rfl
    · rw [if_neg (by omega), if_neg (by omega), if_neg (by omega), if_neg (by omega), if_pos ⟨rfl, rfl⟩]
    · rw [if_neg (by omega), if_neg (by omega), if_neg (by omega), if_pos ⟨rfl, rfl⟩]
    · rw [if_neg (by omega), if_neg (by omega), if_pos ⟨rfl, rfl⟩]
    · rw [if_neg (by omega), if_pos ⟨rfl, rfl⟩]
    · rw [if_pos ⟨rfl, rfl⟩]
  · rw [am_I_w, if_pos hj]; rfl
  · rw [am_I_w1 _ _ _ (by omega), am_I_s1 _ _ _ _ (by omega), am_I_s]; rfl
  · rw [am_I_w1 _ _ _ (by omega), am_I_s]; rfl
  · have e0 : wn_S wn_0 i = 0 := by
      unfold wn_S
      show (if 1 ≤ i ∧ i < 1 + 0 then _ else if 7 ≤ i ∧ i < 7 + 0 then _ else if 37 ≤ i ∧ i < 37 + 0 then _ else if 45 ≤ i ∧ i < 45 + 0 then _ else 0) = 0
      rw [if_neg (by omega), if_neg (by omega), if_neg (by omega), if_neg (by omega)]
    rw [am_I_w1 _ _ _ (by omega), am_I_s1 _ _ _ _ (by omega), am_I_s1 _ _ _ _ (by omega), show L + 16 = L + 15 + 1 from rfl, am_I_w, if_pos hi, e0]
end
