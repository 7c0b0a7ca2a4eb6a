/-! WINTER: the model reads an expression: parts, levels, the whole -/
def wm_P (h0 : am_H) (tp : Nat → Nat) (n j a : Nat) (B : List Nat) (dp : Nat) (T : Nat → Nat) (x : Option am_Q) : wp_Q → Prop
  | .inl (f, p) => ∃ g', x = some (.inl none, g') ∧ wm_F h0 a 0 g' f p
  | .inr (s', l') => ∃ g', x = some (.inl none, g') ∧ wm_C h0 tp n j a 0 0 g' s' l' B dp T
/-- a part that is no expression -/
def wp_p0 (tp : Nat → Nat) (n j s : Nat) (l : List Nat) : wp_Q := if wl_k tp n s = 1 then (if wl_ix (wl_V j) (wl_w tp n s) < 7 then .inr (wl_x tp n s, l ++ [10000 + wl_ix (wl_V j) (wl_w tp n s)]) else .inl (3, s)) else wp_nm tp n s l
theorem wl_V_ok : ∀ j, j < 2 → ∀ w, w < 26 → (wl_ix (wl_V j) w < 7 ↔ 3 * j ≤ w ∧ w ≤ 3 * j + 6) ∧ (3 * j ≤ w ∧ w ≤ 3 * j + 6 → pm_v j (wl_ix (wl_V j) w) = w) := by decide +kernel
section
variable {h0 : am_H} {tp : Nat → Nat} {n j a s dp : Nat} {g : am_H} {o B : List Nat} {T : Nat → Nat}
theorem wm_C.p2 {x y c : Nat} (h : wm_C h0 tp n j a 0 0 g s o B dp T) (hn : n ≤ 700) (hc : wm_wd j c = [x, y]) : ∃ g1 g', am_run am_M 201 [.ref 60, .int (nI x)] g = some (.inl none, g1) ∧ am_I g1 60 27 = am_I g 60 27 ∧ am_run am_M 201 [.ref 60, .int (nI y)] g1 = some (.inl none, g') ∧ wm_C h0 tp n j a 2 0 g' s (o ++ [c]) B dp T := by
  obtain ⟨a1, a2, a3, a4, a5, a6, a7, a8, a9⟩ := h
  have hs := a2.1
  have e : (wm_cd j (o ++ [c])).length = (wm_cd j o).length + 2 := by rw [wm_cd_ap, wm_cd_1, hc, List.length_append]; rfl
  refine ⟨_, _, s201 a3.1 (by omega) _, ?_, s201 (am_I_s _ _ _ _) (by omega) _, (((a1.sI _ (wg_G_t (by omega))).sI _ (wg_G_t (by omega))).sI _ (wg_G_t (by omega))).sI _ (wg_G_t (by omega)), a2.fr (fun k h1 h2 => ?_) rfl, a3.two hc, a4.fr ?_ (fun i _ => ?_), ⟨?_, a5.2⟩, fun i h1 h2 => ?_, a7, by rw [e]; omega, by omega⟩
  · rw [am_I_s2 _ _ _ _ (by omega), am_I_s1 _ _ _ _ (by omega)]
  · rw [am_I_s2 _ _ _ _ (by omega), am_I_s1 _ _ _ _ (by omega), am_I_s2 _ _ _ _ (by omega), am_I_s1 _ _ _ _ (by omega)]
  · rw [am_I_s2 _ _ _ _ (by omega), am_I_s1 _ _ _ _ (by omega), am_I_s2 _ _ _ _ (by omega), am_I_s1 _ _ _ _ (by omega)]
  · rw [am_I_s1 _ _ _ _ (by omega), am_I_s1 _ _ _ _ (by omega), am_I_s1 _ _ _ _ (by omega), am_I_s1 _ _ _ _ (by omega)]
  · rw [am_I_s2 _ _ _ _ (by omega), am_I_s1 _ _ _ _ (by omega), am_I_s2 _ _ _ _ (by omega), am_I_s1 _ _ _ _ (by omega)]; exact a5.1
  · rw [am_I_s1 _ _ _ _ (by omega), am_I_s1 _ _ _ _ (by omega), am_I_s1 _ _ _ _ (by omega), am_I_s1 _ _ _ _ (by omega)]; exact a6 i h1 h2
theorem s206 {l : List Nat} (h : wm_C h0 tp n j a 0 0 g s l B dp T) (hH : wm_H h0 tp n j) : wm_P h0 tp n j a B dp T (am_run am_M 206 [.ref 60] g) (wp_p0 tp n j s l) := by
  have hn := hH.1.1
  have hz := h.f0 hH
  have hX := h.2.1
  have hk61 := wl_k_le (tp := tp) (n := n) (s := s)
  have hw := wl_w_le (tp := tp) (n := n) (s := s)
  have hzs := wl_z_ge (tp := tp) hX.1
  have hzn := wl_z_le (tp := tp) hX.1
  have hjv := wl_V_ok j hH.2.2.2.2 (wl_w tp n s) (by omega)
  have hjv2 := hH.2.2.2.2
  have hv38 : am_I g 60 38 = nI (3 * j) := (h.1.get _ _ (wg_G_f (by omega))).trans hH.2.2.1
  have hv39 : am_I g 60 39 = nI (3 * j + 6) := (h.1.get _ _ (wg_G_f (by omega))).trans hH.2.2.2.1
  have f97 : ∀ {k f p : Nat} {g : am_H}, wm_F h0 a k g f p → am_vn am_M 3 206 97 [some (.ref 60), none] [] g = some (.inl none, g) := fun {k f p g} hF => by
    rw [e206_97, s195F hF.2.1 hF.2.2.1, am_bI_ok, if_pos (show nI 0 = 0 from rfl)]
  have c97 : ∀ (g : am_H) (l' : List Nat), s < n → wm_C h0 tp n j a 2 0 g s l' B dp T → ∃ g', am_vn am_M 3 206 97 [some (.ref 60), none] [] g = some (.inl none, g') ∧ wm_C h0 tp n j a 0 0 g' (wl_x tp n s) l' B dp T := fun g l' hs hc => by
    obtain ⟨g', e, c⟩ := hc.go hH hs (by omega)
    refine ⟨g', ?_, c⟩
    rw [e206_97, s195G (hc.f0 hH), am_bI_ok, if_neg (show ¬ nI 1 = 0 by decide), e, am_bV_ok]
  have f2 : ∀ {f p : Nat} {g : am_H} (x y : Int32), wm_F h0 a 2 g f p → ∃ g1 g', am_run am_M 201 [.ref 60, .int x] g = some (.inl none, g1) ∧ am_run am_M 201 [.ref 60, .int y] g1 = some (.inl none, g') ∧ wm_F h0 a 0 g' f p := fun {f p g} x y hF => by
    obtain ⟨g1, e1, F1, _⟩ := hF.pu x
    obtain ⟨g2, e2, F2, _⟩ := F1.pu y
    exact ⟨g1, g2, e1, e2, F2⟩
  unfold wp_p0
  rw [e206, s195G hz, am_bI_ok, if_neg (show ¬ nI 1 = 0 by decide), hX.2.2.1]
  by_cases c1 : wl_k tp n s = 1
  · have hs := wl_k_lt (tp := tp) (n := n) (s := s) (by omega)
    rw [if_pos c1, c1, show wl_q 1 = 1 from rfl, if_neg (show ¬ nI 1 = nI 2 by decide), if_pos rfl, s193 (h.ty hH) hX, am_bI_ok, hv38, hv39]
    have bad : ∀ (x : Int32), ∃ g', (am_bV [] (am_run am_M 194 [(.ref 60), (.int (nI 3))] g) fun g6 => am_vn am_M 3 206 79 [some (.ref 60), some (.int x)] [] g6) = some (.inl none, g') ∧ wm_F h0 a 0 g' 3 s := fun x => by
      obtain ⟨g1, e1, F1, _⟩ := h.wr (f := 3) hH (by omega) (by omega)
      obtain ⟨g2, g3, e2, e3, F3⟩ := f2 (nI 2) x F1
      exact ⟨g3, by rw [e1, am_bV_ok, e206_79, e2, am_bV_ok, e3, am_bV_ok, f97 F3], F3⟩
    by_cases c7 : wl_ix (wl_V j) (wl_w tp n s) < 7
    · have hr := hjv.1.mp c7
      have ew : wm_w (wl_w tp n s) = nI (wl_w tp n s) := if_pos (by omega)
      rw [if_pos c7, ew, if_neg (nI_nlt hr.1 (by omega)), if_pos (nI_le hr.2 (by omega)), e206_79]
      have hwd : wm_wd j (10000 + wl_ix (wl_V j) (wl_w tp n s)) = [2, wl_w tp n s] := by
        unfold wm_wd
        rw [if_neg (by omega), if_pos (by omega), show 10000 + wl_ix (wl_V j) (wl_w tp n s) - 10000 = wl_ix (wl_V j) (wl_w tp n s) by omega, hjv.2 hr]
      obtain ⟨g1, g2, e1, _, e2, c2⟩ := h.p2 hn hwd
      obtain ⟨g3, e3, c3⟩ := c97 g2 _ hs c2
      exact ⟨g3, by rw [e1, am_bV_ok, e2, am_bV_ok, e3], c3⟩
    · have hr := fun hh => c7 (hjv.1.mpr hh)
      rw [if_neg c7]
      by_cases cw : wl_w tp n s < 25
      · have ew : wm_w (wl_w tp n s) = nI (wl_w tp n s) := if_pos cw
        rw [ew]
        by_cases cl : wl_w tp n s < 3 * j
        · rw [if_pos (nI_lt cl (by omega))]; exact bad _
        · rw [if_neg (nI_nlt (by omega) (by omega)), if_neg (nI_ge (by omega) (by omega))]; exact bad _
      · have ew : wm_w (wl_w tp n s) = (-1 : Int32) := if_neg cw
        rw [ew, if_pos (show (-1 : Int32) < nI (3 * j) by
          rw [Int32.lt_iff_toInt_lt, nI_toInt (by omega)]
          have : (-1 : Int32).toInt = -1 := by decide
          omega)]
        exact bad _
  · rw [if_neg c1]
    unfold wp_nm
    have hq : wl_q (wl_k tp n s) ≠ 1 ∧ wl_q (wl_k tp n s) ≤ 4 := by unfold wl_q; split <;> (try split) <;> omega
    by_cases c2 : wl_k tp n s = 2
    · have hs := wl_k_lt (tp := tp) (n := n) (s := s) (by omega)
      have hv := wl_v_lt c2
      rw [if_pos c2, c2, show wl_q 2 = 2 from rfl, if_pos rfl, hX.2.2.2.2.1]
      by_cases c4 : wl_z tp n s - s ≤ 4
      · rw [if_pos (nI_le c4 (by omega)), if_pos c4, e206_29]
        have hwd : wm_wd j (wl_v tp n s) = [1, wl_v tp n s] := by unfold wm_wd; rw [if_pos hv]
        obtain ⟨g1, g2, e1, e27, e2, c2'⟩ := h.p2 hn hwd
        obtain ⟨g3, e3, c3⟩ := c97 g2 _ hs c2'
        exact ⟨g3, by rw [e1, am_bV_ok, e27, hX.2.2.2.2.2.1 c2, e2, am_bV_ok, e3], c3⟩
      · rw [if_neg (nI_ge (by omega) (by omega)), if_neg c4]
        obtain ⟨g1, e1, F1, _⟩ := h.wr (f := 2) hH (by omega) (by omega)
        obtain ⟨g2, e2, F2, _⟩ := F1.pu (nI 1)
        obtain ⟨g3, e3, F3, _⟩ := F2.pu (am_I g2 60 27)
        exact ⟨g3, by rw [e1, am_bV_ok, e206_29, e2, am_bV_ok, e3, am_bV_ok, f97 F3], F3⟩
    · have hq2 : wl_q (wl_k tp n s) ≠ 2 := by unfold wl_q; split <;> (try split) <;> omega
      rw [if_neg c2, if_neg (fun e => hq2 ((nI_eq (by omega) (by omega)).mp e)), if_neg (fun e => hq.1 ((nI_eq (by omega) (by omega)).mp e))]
      obtain ⟨g1, e1, F1, _⟩ := h.wr (f := 1) hH (by omega) (by omega)
      exact ⟨g1, by rw [e1, am_bV_ok, f97 F1], F1.le (by omega)⟩
/-- what an expression within others comes to -/
def wm_V (h0 : am_H) (tp : Nat → Nat) (n j a : Nat) (B : List Nat) (dp : Nat) (T : Nat → Nat) (x : Option am_Q) : wp_Q → Prop
  | .inl (f, p) => ∃ g', x = wm_TO g' ∧ wm_F h0 a 0 g' f p
  | .inr (s', l') => ∃ g' o Q T', x = wm_TO g' ∧ o ++ Q = l' ∧ wm_q 1 Q ∧ wm_C h0 tp n j a 0 0 g' s' o (B ++ Q.reverse) (dp + 1) T' ∧ (∀ i, 1 ≤ i → i ≤ dp → T' i = T i) ∧ wp_om tp n s' = 0 ∧ wp_oa tp n s' = 0 ∧ (wp_oc tp n s' = 0 ∨ T' (dp + 1) = 1) ∧ wp_od tp n s' = 0 ∧ wp_oo tp n s' = 0
def wm_EX (h0 : am_H) (tp : Nat → Nat) (n j a dp : Nat) (ex : Nat → List Nat → wp_Q) : Prop := ∀ (g : am_H) (s : Nat) (l B : List Nat) (T : Nat → Nat), wm_C h0 tp n j a 0 0 g s l B dp T → wm_b 1 B → wm_V h0 tp n j a B dp T (am_bV [] (am_bV [] (am_run am_M 207 [.ref 60] g) fun g20 => am_vn am_M 4 208 4 [some (.ref 60), none, some (.int (nI 1)), some (.int (nI 1)), none] [] g20) (fun g' => wm_TO g')) (ex s l)
/-- to the closing parenthesis -/
theorem wm_TO41 {Q : List Nat} (h : wm_C h0 tp n j a 0 0 g s o (B ++ Q.reverse) dp T) (hH : wm_H h0 tp n j) (hd : 1 ≤ dp) (e1 : wp_om tp n s = 0) (e2 : wp_oa tp n s = 0) (e3 : wp_oc tp n s = 0 ∨ T dp = 1) (e4 : wp_od tp n s = 0) (e5 : wp_oo tp n s = 0) : wm_TO g = am_bI [] (am_run am_M 196 [(.ref 60), (.int (nI 41))] g) fun x39 g38 => (if x39 = 0 then am_vn am_M 5 211 39 [some (.ref 60), none, none, some (.int (nI 0)), none] [] g38 else am_bI [] (am_run am_M 209 [(.ref 60)] g38) fun x41 g40 => (if x41 = 0 then am_vn am_M 5 211 39 [some (.ref 60), none, none, some (.int (nI 0)), none] [] g40 else am_bV [] (am_run am_M 210 [(.ref 60)] g40) fun g42 => am_vn am_M 5 211 39 [some (.ref 60), none, none, some (.int (nI 1)), none] [] g42)) := by
  have m := wm_op_om.mp e1
  have p := wm_op_oa.mp e2
  have hX := h.2.1
  have ht := hH.1.2.1
  rw [wm_TO201 h hH (wm_op_od.mp e4) (wm_op_oo.mp e5) hd (fun c => e3.resolve_left (fun e => by have := wm_op_oc.mp e; omega)), e211_201, s196G ht hX (by omega), am_bI_ok, if_neg p.1, if_pos (show nI 0 = 0 from rfl), s196G ht hX (by omega), am_bI_ok, if_neg p.2, if_pos (show nI 0 = 0 from rfl), s196G ht hX (by omega), am_bI_ok, if_neg m.1, if_pos (show nI 0 = 0 from rfl), s196G ht hX (by omega), am_bI_ok, if_neg m.2, if_pos (show nI 0 = 0 from rfl)]
theorem wm_more0 (hz : am_I g 60 19 = nI 0) : am_vn am_M 5 211 39 [some (.ref 60), none, none, some (.int (nI 0)), none] [] g = am_vn am_M 5 211 340 [some (.ref 60), none, none, none, none] [] g := by
  rw [e211_39, if_pos (show nI 0 = 0 from rfl)]
theorem wm_close {Q : List Nat} (h : wm_C h0 tp n j a 0 0 g s o ((B ++ [20011]) ++ Q.reverse) (dp + 1) T) (hH : wm_H h0 tp n j) (hs : s < n) (hq : wm_q 0 Q) : ∃ g', am_run am_M 210 [.ref 60] g = some (.inl none, g') ∧ wm_C h0 tp n j a 0 0 g' (wl_x tp n s) (o ++ Q) B dp T := by
  have hn := hH.1.1
  obtain ⟨g1, r1, c1⟩ := h.dr hn (by omega) (Or.inr ⟨B, 20011, rfl, Or.inl rfl⟩) hq (by omega)
  obtain ⟨a1, a2, a3, a4, a5, a6, a7, a8, a9⟩ := c1
  rw [wp_l1] at a8 a9
  have h40 : am_I g1 60 40 - nI 1 = nI B.length := by rw [a4.1, wp_l1, pk_sub (by omega)]; rfl
  have c2 : wm_C h0 tp n j a 0 0 (am_sI (am_sI g1 60 40 (nI B.length)) 60 41 (nI dp)) s (o ++ Q) B dp T := by
    refine ⟨(a1.sI _ (wg_G_t (by omega))).sI _ (wg_G_t (by omega)), a2.fr (fun k h1 h2 => by rw [am_I_s2 _ _ _ _ (by omega), am_I_s2 _ _ _ _ (by omega)]) rfl, a3.fr (by rw [am_I_s2 _ _ _ _ (by omega), am_I_s2 _ _ _ _ (by omega)]) (fun i _ => by rw [am_I_s1 _ _ _ _ (by omega), am_I_s1 _ _ _ _ (by omega)]), a4.pop.fr (by rw [am_I_s2 _ _ _ _ (by omega)]) (fun i _ => by rw [am_I_s1 _ _ _ _ (by omega)]), ⟨am_I_s _ _ _ _, by have := a5.2; omega⟩, fun i h1 h2 => by rw [am_I_s1 _ _ _ _ (by omega), am_I_s1 _ _ _ _ (by omega)]; exact a6 i h1 (by omega), fun x hx => a7 x (List.mem_append_left _ hx), by omega, by omega⟩
  obtain ⟨g3, r3, c3⟩ := c2.go hH hs (by omega)
  refine ⟨g3, ?_, c3⟩
  rw [e210, r1, am_bV_ok]
  dsimp only
  rw [h40, am_I_s2 _ _ _ _ (show 41 ≠ 40 by omega), a5.1, pk_sub (by omega), show dp + 1 - 1 = dp by omega, r3, am_bV_ok]
theorem wm_pt {ex : Nat → List Nat → wp_Q} {v : Nat} {l : List Nat} (hH : wm_H h0 tp n j) (hd : 1 ≤ dp) (hex : wm_EX h0 tp n j a dp ex) {D : Nat} (hG : wp_SG D n ex) (h : wm_C h0 tp n j a 0 0 g s l B dp T) (hT : T dp ≤ 1) : wm_W h0 tp n j a 7 (fun _ t => t = T dp) B dp T (wm_T75 v g) (wp_pt tp n j ex s l) := by
  have hn := hH.1.1
  have hX := h.2.1
  have ht := hH.1.2.1
  have hz := h.f0 hH
  have q0 : wm_q 7 [] := fun c hc => absurd hc List.not_mem_nil
  have e75 : wm_T75 v g = am_bV [] (if (if wl_k tp n s = 40 then nI 1 else nI 0) = 0 then am_vn am_M 4 208 96 [some (.ref 60), none, some (.int (nI v)), none, none] [(.int (nI 0))] g else am_vn am_M 4 208 96 [some (.ref 60), none, some (.int (nI v)), none, none] [(.int (nI 1))] g) (fun g' => wm_TO g') := by
    show am_bV [] (am_vn am_M 4 208 75 [some (.ref 60), none, some (.int (nI v)), none, none] [] g) _ = _
    rw [e208_75, s195G hz, am_bI_ok, if_neg (show ¬ nI 1 = 0 by decide), s196G ht hX (by omega), am_bI_ok]
    by_cases c : wl_k tp n s = 40
    · rw [if_pos c, if_pos c]
    · rw [if_neg c, if_neg c]
  rw [e75]
  by_cases c40 : wl_k tp n s = 40
  · have hs := wl_k_lt (tp := tp) (n := n) (s := s) (by omega)
    unfold wp_pt
    rw [if_pos c40, if_pos c40, if_neg (show ¬ nI 1 = 0 by decide), e208_96, if_neg (show ¬ nI 1 = 0 by decide)]
    have hBn : B.length ≤ n := by have := h.2.2.2.2.2.2.2.2; have := hX.1; omega
    obtain ⟨g1, r1, c1⟩ := h.pu (c := 20011) (Or.inr rfl) (by omega)
    obtain ⟨g2, r2, c2⟩ := c1.go hH hs (by omega)
    have r1' : am_run am_M 205 [.ref 60, .int (nI 14)] g = some (.inl none, g1) := r1
    rw [r1', am_bV_ok, r2, am_bV_ok]
    have w := hex g2 (wl_x tp n s) l (B ++ [20011]) T c2 (Or.inr ⟨B, 20011, rfl, Or.inl rfl⟩)
    have gg := hG (wl_x tp n s) l (wl_x_le hX.1)
    cases hr : ex (wl_x tp n s) l with
    | inl q =>
      obtain ⟨f, p⟩ := q
      rw [hr] at w
      exact w
    | inr q =>
      obtain ⟨s2, l2⟩ := q
      rw [hr] at w gg
      obtain ⟨g3, o3, Q3, T3, e3, el, q3, c3, ht3, m1, m2, m3, m4, m5⟩ := w
      show wm_W h0 tp n j a 7 (fun _ t => t = T dp) B dp T _ (if wl_k tp n s2 = 41 then .inr (wl_x tp n s2, l2) else .inl (1, s2))
      have e4 := wm_TO41 c3 hH (by omega) m1 m2 m3 m4 m5
      rw [s196G ht c3.2.1 (by omega), am_bI_ok] at e4
      by_cases c41 : wl_k tp n s2 = 41
      · have hs2 := wl_k_lt (tp := tp) (n := n) (s := s2) (by omega)
        have hlen : (B ++ [20011] ++ Q3.reverse).length ≤ 900 := by have := c3.2.2.2.2.2.2.2.2; have := c3.2.1.1; omega
        have hmem : 20011 ∈ B ++ [20011] ++ Q3.reverse := List.mem_append_left _ (List.mem_append_right _ (List.mem_singleton.mpr rfl))
        obtain ⟨g4, r4, c4⟩ := wm_close c3 hH hs2 (wm_q_up q3 (by omega))
        rw [if_pos c41, if_neg (show ¬ nI 1 = 0 by decide), s209 c3.2.2.2.1 c3.2.2.2.2.2.2.1 hlen, am_bI_ok, if_pos hmem, if_neg (show ¬ nI 1 = 0 by decide), r4, am_bV_ok] at e4
        rw [if_pos c41]
        rw [el] at c4
        have c5 : wm_C h0 tp n j a 0 0 g4 (wl_x tp n s2) l2 B dp T := by
          obtain ⟨a1, a2, a3, a4, a5, a6, a7⟩ := c4
          exact ⟨a1, a2, a3, a4, a5, fun i h1 h2 => by rw [a6 i h1 h2, ht3 i h1 h2], a7⟩
        exact ⟨g4, l2, [], T dp, e3.trans e4, List.append_nil _, q0, by rw [List.reverse_nil, List.append_nil, wm_u_i]; exact c5, rfl, hT⟩
      · rw [if_neg c41, if_pos (show nI 0 = 0 from rfl), wm_more0 (c3.f0 hH)] at e4
        rw [if_neg c41]
        obtain ⟨g4, r4, F4, _⟩ := c3.wr (f := 1) hH (by omega) (by omega)
        refine ⟨g4, ?_, F4.le (by omega)⟩
        rw [wm_TOF F4]
        refine e3.trans (e4.trans ?_)
        rw [e211_340, s195G (c3.f0 hH), am_bI_ok, if_neg (show ¬ nI 1 = 0 by decide), c3.2.2.2.2.1.1, if_neg (nI_ge (by omega) (by have := c3.2.2.2.2.1.2; omega)), r4, am_bV_ok]
  · have ep : wp_pt tp n j ex s l = wp_p0 tp n j s l := by unfold wp_pt wp_p0; rw [if_neg c40]
    have w := s206 h hH
    rw [ep, if_neg c40, if_pos (show nI 0 = 0 from rfl), e208_96, if_pos (show nI 0 = 0 from rfl), e208_4, if_pos (show nI 0 = 0 from rfl)]
    cases hr : wp_p0 tp n j s l with
    | inl q =>
      obtain ⟨f, p⟩ := q
      rw [hr] at w
      obtain ⟨g1, r1, F1⟩ := w
      exact ⟨g1, by rw [r1, am_bV_ok, am_bV_ok], F1⟩
    | inr q =>
      obtain ⟨s2, l2⟩ := q
      rw [hr] at w
      obtain ⟨g1, r1, c1⟩ := w
      exact ⟨g1, l2, [], T dp, by rw [r1, am_bV_ok, am_bV_ok], List.append_nil _, q0, by rw [List.reverse_nil, List.append_nil, wm_u_i]; exact c1, rfl, hT⟩
theorem wm_st_om (s : Nat) (h : wp_om tp n s ≠ 0) : wm_st (wp_om tp n s) = 6 := by
  unfold wp_om at h ⊢
  split
  · rfl
  · split
    · rfl
    · rename_i c1 c2; rw [if_neg c1, if_neg c2] at h; exact absurd rfl h
theorem wm_st_oa (s : Nat) (h : wp_oa tp n s ≠ 0) : wm_st (wp_oa tp n s) = 5 := by
  unfold wp_oa at h ⊢
  split
  · rfl
  · split
    · rfl
    · rename_i c1 c2; rw [if_neg c1, if_neg c2] at h; exact absurd rfl h
theorem wm_st_oc (s : Nat) (h : wp_oc tp n s ≠ 0) : wm_st (wp_oc tp n s) = 4 := by
  unfold wp_oc at h ⊢
  split
  · rfl
  · split
    · rfl
    · rename_i c1 c2; rw [if_neg c1, if_neg c2] at h; exact absurd rfl h
theorem wm_st_od (s : Nat) (h : wp_od tp n s ≠ 0) : wm_st (wp_od tp n s) = 2 := by
  unfold wp_od at h ⊢
  split
  · rfl
  · rename_i c1; rw [if_neg c1] at h; exact absurd rfl h
theorem wm_st_oo (s : Nat) (h : wp_oo tp n s ≠ 0) : wm_st (wp_oo tp n s) = 1 := by
  unfold wp_oo at h ⊢
  split
  · rfl
  · rename_i c1; rw [if_neg c1] at h; exact absurd rfl h
theorem wm_pr {ex : Nat → List Nat → wp_Q} {t0 D : Nat} (hH : wm_H h0 tp n j) (hd : 1 ≤ dp) (hex : wm_EX h0 tp n j a dp ex) (hD : 1 ≤ D) (hG : wp_SG D n ex) (ht0 : t0 ≤ 1) {v : Nat} {g : am_H} {s : Nat} {l B : List Nat} {T : Nat → Nat} (h : wm_C h0 tp n j a 0 0 g s l B dp T) (hb : wm_b 6 B) (hT : T dp = t0) : wm_W h0 tp n j a 6 (fun s t => t = t0 ∧ wp_om tp n s = 0) B dp T (wm_T75 v g) (wp_pr tp n j ex s l) := by
  have sub : ∀ (v : Nat) (g : am_H) (s : Nat) (l B : List Nat) (T : Nat → Nat), wm_C h0 tp n j a 0 0 g s l B dp T → wm_b 7 B → T dp = t0 → wm_W h0 tp n j a 7 (fun _ t => t = t0) B dp T (wm_T75 v g) (wp_pt tp n j ex s l) := fun v g s l B T hc _ hT => by
    have := wm_pt (v := v) hH hd hex hG hc (by omega)
    rw [hT] at this
    exact this
  exact wm_cn (EFs := fun _ t => t = t0) (CT := fun t => t = t0) (tgt := wm_T75 0) hH wp_omO (wp_ptG hD hG) wm_st_om (fun g s o Q B T hc hq hb' ho hE => by
    obtain ⟨g', e, c⟩ := wm_s6 hc hH hd hq hb' ho
    exact ⟨g', T dp, e, by rw [wm_u_i]; exact c, hE⟩) (fun g s l B T hc hb' hT => sub 0 g s l B T hc hb' hT) hb (sub v g s l B T h (wm_b_up hb (by omega)) hT)
theorem wm_su {ex : Nat → List Nat → wp_Q} {t0 D : Nat} (hH : wm_H h0 tp n j) (hd : 1 ≤ dp) (hex : wm_EX h0 tp n j a dp ex) (hD : 1 ≤ D) (hG : wp_SG D n ex) (ht0 : t0 ≤ 1) {v : Nat} {g : am_H} {s : Nat} {l B : List Nat} {T : Nat → Nat} (h : wm_C h0 tp n j a 0 0 g s l B dp T) (hb : wm_b 5 B) (hT : T dp = t0) : wm_W h0 tp n j a 5 (fun s t => (t = t0 ∧ wp_om tp n s = 0) ∧ wp_oa tp n s = 0) B dp T (wm_T75 v g) (wp_su tp n j ex s l) :=
  wm_cn (EFs := fun s t => t = t0 ∧ wp_om tp n s = 0) (CT := fun t => t = t0) (tgt := wm_T75 0) hH wp_oaO (wp_orG (j := j) hD hG).1 wm_st_oa (fun g s o Q B T hc hq hb' ho hE => by
    obtain ⟨g', e, c⟩ := wm_s5 hc hH hd hq hb' ho
    exact ⟨g', T dp, e, by rw [wm_u_i]; exact c, hE.1⟩) (fun g s l B T hc hb' hT => wm_pr hH hd hex hD hG ht0 hc hb' hT) hb (wm_pr hH hd hex hD hG ht0 h (wm_b_up hb (by omega)) hT)
/-- the tests: what follows is no further sign of theirs -/
def wm_E4 (tp : Nat → Nat) (n s t : Nat) : Prop := wp_om tp n s = 0 ∧ wp_oa tp n s = 0 ∧ (wp_oc tp n s = 0 ∨ t = 1)
theorem wm_te {ex : Nat → List Nat → wp_Q} {D : Nat} (hH : wm_H h0 tp n j) (hd : 1 ≤ dp) (hex : wm_EX h0 tp n j a dp ex) (hD : 1 ≤ D) (hG : wp_SG D n ex) {v : Nat} {g : am_H} {s : Nat} {l B : List Nat} {T : Nat → Nat} (h : wm_C h0 tp n j a 0 0 g s l B dp T) (hb : wm_b 4 B) (hT : T dp = 0) : wm_W h0 tp n j a 4 (wm_E4 tp n) B dp T (wm_T75 v g) (wp_te tp n j ex s l) := by
  have w := wm_su hH hd hex hD hG (t0 := 0) (by omega) (v := v) h (wm_b_up hb (by omega)) hT
  unfold wp_te
  cases hr : wp_su tp n j ex s l with
  | inl q =>
    obtain ⟨f, p⟩ := q
    rw [hr] at w
    exact w
  | inr q =>
    obtain ⟨s1, l1⟩ := q
    rw [hr] at w
    obtain ⟨g1, o1, Q1, t1, e1, el, q1, c1, ⟨⟨rfl, m1⟩, m2⟩, _⟩ := w
    show wm_W h0 tp n j a 4 (wm_E4 tp n) B dp T (wm_T75 v g) (if wp_oc tp n s1 = 0 then .inr (s1, l1) else wp_bd (wp_su tp n j ex (wl_x tp n s1) l1) (fun s2 l2 => .inr (s2, l2 ++ [wp_oc tp n s1])))
    by_cases c0 : wp_oc tp n s1 = 0
    · rw [if_pos c0]
      exact ⟨g1, o1, Q1, 0, e1, el, wm_q_up q1 (by omega), c1, ⟨m1, m2, Or.inl c0⟩, by omega⟩
    · have hO := (wp_ocO (tp := tp) (n := n) s1).resolve_left c0
      rw [if_neg c0]
      obtain ⟨g2, e2, c2⟩ := wm_s4 c1 hH hd (wm_u_s _ _ _) (wm_q_up q1 (by omega)) hb c0
      rw [el, wm_u_u] at c2
      have hb5 : wm_b 5 (B ++ [wp_oc tp n s1]) := Or.inr ⟨B, _, rfl, Or.inr ⟨⟨hO.1, hO.2.1⟩, by rw [wm_st_oc s1 c0]; omega⟩⟩
      have w2 := wm_su hH hd hex hD hG (t0 := 1) (by omega) (v := 0) c2 hb5 (wm_u_s _ _ _)
      cases hr2 : wp_su tp n j ex (wl_x tp n s1) l1 with
      | inl q =>
        obtain ⟨f, p⟩ := q
        rw [hr2] at w2
        obtain ⟨g3, e3, c3⟩ := w2
        exact ⟨g3, (e1.trans e2).trans e3, c3⟩
      | inr q =>
        obtain ⟨s2, l2⟩ := q
        rw [hr2] at w2
        obtain ⟨g3, o3, Q3, t3, e3, el3, q3, c3, ⟨⟨rfl, n1⟩, n2⟩, _⟩ := w2
        rw [wm_u_u] at c3
        have er : B ++ (Q3 ++ [wp_oc tp n s1]).reverse = B ++ [wp_oc tp n s1] ++ Q3.reverse := by rw [List.reverse_append, List.append_assoc]; rfl
        refine ⟨g3, o3, Q3 ++ [wp_oc tp n s1], 1, (e1.trans e2).trans e3, by rw [← List.append_assoc, el3], fun c hc => ?_, by rw [er]; exact c3, ⟨n1, n2, Or.inr rfl⟩, by omega⟩
        rcases List.mem_append.mp hc with hc | hc
        · exact wm_q_up q3 (by omega) c hc
        · rw [List.mem_singleton.mp hc]; exact ⟨⟨hO.1, hO.2.1⟩, by rw [wm_st_oc s1 c0]; omega⟩
theorem wm_no {ex : Nat → List Nat → wp_Q} {D : Nat} (hH : wm_H h0 tp n j) (hd : 1 ≤ dp) (hex : wm_EX h0 tp n j a dp ex) (hD : 1 ≤ D) (hG : wp_SG D n ex) : ∀ (r c : Nat) (g : am_H) (s : Nat) (l B : List Nat) (T : Nat → Nat), c + r = 6 → wm_C h0 tp n j a 0 0 g s l B dp T → wm_b 4 B → T dp = 0 → wm_W h0 tp n j a 3 (wm_E4 tp n) B dp T (wm_T18 c g) (wp_no tp n j ex r s l) := by
  have hn := hH.1.1
  -- no 'not' here
  have key : ∀ (c : Nat) (g : am_H) (s : Nat) (l B : List Nat) (T : Nat → Nat), wm_C h0 tp n j a 0 0 g s l B dp T → wm_b 4 B → T dp = 0 → wl_w tp n s ≠ 24 → wm_W h0 tp n j a 3 (wm_E4 tp n) B dp T (wm_T18 c g) (wp_te tp n j ex s l) := fun c g s l B T h hb hT hw24 => by
    have hw := wl_w_le (tp := tp) (n := n) (s := s)
    have e : wm_T18 c g = wm_T75 1 g := by
      show am_bV [] (am_vn am_M 4 208 18 [some (.ref 60), none, some (.int (nI 1)), none, some (.int (nI c))] [] g) _ = _
      rw [e208_18, s195G (h.f0 hH), am_bI_ok, if_neg (show ¬ nI 1 = 0 by decide), if_neg (show ¬ nI 1 = 0 by decide), s193 (h.ty hH) h.2.1, am_bI_ok, if_neg (fun e => hw24 ((wm_w_eq hw (by omega)).mp e))]
    have w := wm_te hH hd hex hD hG (v := 1) h hb hT
    rw [e]
    cases hr : wp_te tp n j ex s l with
    | inl q => rw [hr] at w; exact w
    | inr q =>
      rw [hr] at w
      obtain ⟨g1, o1, Q1, t1, a1, a2, a3, a4⟩ := w
      exact ⟨g1, o1, Q1, t1, a1, a2, wm_q_up a3 (by omega), a4⟩
  intro r
  induction r with
  | zero =>
    intro c g s l B T hc h hb hT
    rw [wp_no]
    by_cases c24 : wl_w tp n s = 24
    · rw [if_pos c24]
      obtain ⟨g1, r1, F1, _⟩ := h.wr (f := 2) hH (by omega) (by omega)
      refine ⟨g1, ?_, F1.le (by omega)⟩
      show am_bV [] (am_vn am_M 4 208 18 [some (.ref 60), none, some (.int (nI 1)), none, some (.int (nI c))] [] g) _ = _
      rw [e208_18, s195G (h.f0 hH), am_bI_ok, if_neg (show ¬ nI 1 = 0 by decide), if_neg (show ¬ nI 1 = 0 by decide), s193 (h.ty hH) h.2.1, am_bI_ok, c24, show wm_w 24 = nI 24 from rfl, if_pos rfl, if_pos (show nI c = nI 6 by rw [show c = 6 by omega]), r1, am_bV_ok, e208_50, s195F F1.2.1 F1.2.2.1, am_bI_ok, if_pos (show nI 0 = 0 from rfl), e208_18, s195F F1.2.1 F1.2.2.1, am_bI_ok, if_pos (show nI 0 = 0 from rfl)]
      exact wm_T75F (v := 1) F1
    · rw [if_neg c24]
      exact key c g s l B T h hb hT c24
  | succ r ih =>
    intro c g s l B T hc h hb hT
    rw [wp_no]
    by_cases c24 : wl_w tp n s = 24
    · have hs := wl_w_lt (tp := tp) (n := n) (s := s) (by omega)
      have hBn : B.length ≤ n := by have := h.2.2.2.2.2.2.2.2; have := h.2.1.1; omega
      rw [if_pos c24]
      obtain ⟨g1, r1, c1⟩ := h.pu (c := 20002) (Or.inl (by omega)) (by omega)
      obtain ⟨g2, r2, c2⟩ := c1.go hH hs (by omega)
      have r1' : am_run am_M 205 [.ref 60, .int (nI 3)] g = some (.inl none, g1) := r1
      have e : wm_T18 c g = wm_T18 (c + 1) g2 := by
        show am_bV [] (am_vn am_M 4 208 18 [some (.ref 60), none, some (.int (nI 1)), none, some (.int (nI c))] [] g) _ = _
        rw [e208_18, s195G (h.f0 hH), am_bI_ok, if_neg (show ¬ nI 1 = 0 by decide), if_neg (show ¬ nI 1 = 0 by decide), s193 (h.ty hH) h.2.1, am_bI_ok, c24, show wm_w 24 = nI 24 from rfl, if_pos rfl, if_neg (fun e => by have := (nI_eq (by omega) (by omega)).mp e; omega), e208_50, s195G (h.f0 hH), am_bI_ok, if_neg (show ¬ nI 1 = 0 by decide), r1', am_bV_ok, r2, am_bV_ok, pz_succ]
      have w := ih (c + 1) g2 _ l (B ++ [20002]) T (by omega) c2 (Or.inr ⟨B, 20002, rfl, Or.inr ⟨by omega, by decide⟩⟩) hT
      rw [e]
      cases hr : wp_no tp n j ex r (wl_x tp n s) l with
      | inl q =>
        rw [hr] at w
        exact w
      | inr q =>
        obtain ⟨s2, l2⟩ := q
        rw [hr] at w
        obtain ⟨g3, o3, Q3, t3, e3, el3, q3, c3, E3, t3'⟩ := w
        have er : B ++ (Q3 ++ [20002]).reverse = B ++ [20002] ++ Q3.reverse := by rw [List.reverse_append, List.append_assoc]; rfl
        refine ⟨g3, o3, Q3 ++ [20002], t3, e3, by rw [← List.append_assoc, el3], fun c hc => ?_, by rw [er]; exact c3, E3, t3'⟩
        rcases List.mem_append.mp hc with hc | hc
        · exact q3 c hc
        · rw [List.mem_singleton.mp hc]; exact ⟨by omega, by decide⟩
    · rw [if_neg c24]
      exact key c g s l B T h hb hT c24
theorem wm_an {ex : Nat → List Nat → wp_Q} {D : Nat} (hH : wm_H h0 tp n j) (hd : 1 ≤ dp) (hex : wm_EX h0 tp n j a dp ex) (hD : 1 ≤ D) (hG : wp_SG D n ex) {g : am_H} {s : Nat} {l B : List Nat} {T : Nat → Nat} (h : wm_C h0 tp n j a 0 0 g s l B dp T) (hb : wm_b 2 B) (hT : T dp = 0) : wm_W h0 tp n j a 2 (fun s t => wm_E4 tp n s t ∧ wp_od tp n s = 0) B dp T (wm_T18 0 g) (wp_an tp n j ex s l) :=
  wm_cn (EFs := wm_E4 tp n) (CT := fun t => t = 0) (tgt := wm_T18 0) hH wp_odO ((wp_orG (j := j) hD hG).2.2.2.1 6) wm_st_od (fun g s o Q B T hc hq hb' ho hE => by
    obtain ⟨g', e, c⟩ := wm_s2 hc hH hq hb' ho
    exact ⟨g', 0, e, c, rfl⟩) (fun g s l B T hc hb' hT => wm_no hH hd hex hD hG 6 0 g s l B T rfl hc (wm_b_up hb' (by omega)) hT) hb (wm_no hH hd hex hD hG 6 0 g s l B T rfl h (wm_b_up hb (by omega)) hT)
theorem wm_or {ex : Nat → List Nat → wp_Q} {D : Nat} (hH : wm_H h0 tp n j) (hd : 1 ≤ dp) (hex : wm_EX h0 tp n j a dp ex) (hD : 1 ≤ D) (hG : wp_SG D n ex) {g : am_H} {s : Nat} {l B : List Nat} {T : Nat → Nat} (h : wm_C h0 tp n j a 0 0 g s l B dp T) (hb : wm_b 1 B) (hT : T dp = 0) : wm_W h0 tp n j a 1 (fun s t => (wm_E4 tp n s t ∧ wp_od tp n s = 0) ∧ wp_oo tp n s = 0) B dp T (wm_T18 0 g) (wp_or tp n j ex s l) :=
  wm_cn (EFs := fun s t => wm_E4 tp n s t ∧ wp_od tp n s = 0) (CT := fun t => t = 0) (tgt := wm_T18 0) hH wp_ooO (wp_orG (j := j) hD hG).2.2.2.2.1 wm_st_oo (fun g s o Q B T hc hq hb' ho hE => by
    obtain ⟨g', e, c⟩ := wm_s1 hc hH hq hb' ho
    exact ⟨g', 0, e, c, rfl⟩) (fun g s l B T hc hb' hT => wm_an hH hd hex hD hG hc hb' hT) hb (wm_an hH hd hex hD hG h (wm_b_up hb (by omega)) hT)
theorem wm_ex (hH : wm_H h0 tp n j) : ∀ (d dp : Nat), dp + d = 6 → wm_EX h0 tp n j a dp (wp_ex tp n j d)
  | 0, dp, hdp => by
    intro g s l B T h hb
    have hn := hH.1.1
    have hX := h.2.1
    have hk61 := wl_k_le (tp := tp) (n := n) (s := s)
    have hd6 : dp = 6 := by omega
    have fin : ∀ f, 1 ≤ f ∧ f ≤ 6 → ∃ g', am_bV [] (am_bV [] (am_bV [] (am_run am_M 194 [(.ref 60), (.int (nI f))] g) fun g1 => some (.inl none, g1)) fun g20 => am_vn am_M 4 208 4 [some (.ref 60), none, some (.int (nI 1)), some (.int (nI 1)), none] [] g20) (fun g' => wm_TO g') = wm_TO g' ∧ wm_F h0 a 0 g' f s := fun f hf => by
      obtain ⟨g1, r1, F1, _⟩ := h.wr (f := f) hH (by omega) hf
      refine ⟨g1, ?_, F1.le (by omega)⟩
      rw [r1, am_bV_ok, am_bV_ok]
      exact wm_T4F (v := 1) F1
    rw [wp_ex, e207, h.2.2.2.2.1.1, if_pos (nI_le (by omega) (by omega)), hX.2.2.1]
    have hq4 : wl_q (wl_k tp n s) ≤ 4 := by unfold wl_q; split <;> (try split) <;> omega
    by_cases c2 : wl_k tp n s = 2
    · rw [if_pos (Or.inl c2), c2, show wl_q 2 = 2 from rfl, if_pos rfl]
      exact fin 2 (by omega)
    · have q2 : wl_q (wl_k tp n s) ≠ 2 := by unfold wl_q; split <;> (try split) <;> omega
      rw [if_neg (fun e => q2 ((nI_eq (by omega) (by omega)).mp e))]
      by_cases c1 : wl_k tp n s = 1
      · rw [if_pos (Or.inr (Or.inl c1)), c1, show wl_q 1 = 1 from rfl, if_pos rfl]
        exact fin 2 (by omega)
      · have q1 : wl_q (wl_k tp n s) ≠ 1 := by unfold wl_q; split <;> (try split) <;> omega
        rw [if_neg (fun e => q1 ((nI_eq (by omega) (by omega)).mp e)), s196G hH.1.2.1 hX (by omega), am_bI_ok]
        by_cases c40 : wl_k tp n s = 40
        · rw [if_pos (Or.inr (Or.inr c40)), if_pos c40, if_neg (show ¬ nI 1 = 0 by decide)]
          exact fin 2 (by omega)
        · rw [if_neg (show ¬ (wl_k tp n s = 2 ∨ wl_k tp n s = 1 ∨ wl_k tp n s = 40) by omega), if_neg c40, if_pos (show nI 0 = 0 from rfl)]
          exact fin 1 (by omega)
  | d + 1, dp, hdp => by
    intro g s l B T h hb
    have hn := hH.1.1
    have hex := wm_ex hH d (dp + 1) (by omega)
    have hG := wp_exG (tp := tp) (n := n) (j := j) d
    obtain ⟨a1, a2, a3, a4, a5, a6, a7, a8, a9⟩ := h
    have r7 : am_run am_M 207 [.ref 60] g = some (.inl none, am_sI (am_sI g 60 41 (nI (dp + 1))) 84 (dp + 1) (nI 0)) := by
      rw [e207, a5.1, if_neg (nI_ge (show dp < 6 by omega) (by omega))]
      dsimp only
      rw [am_I_s, nI_add, am_is17 (by omega)]
      rfl
    have c1 : wm_C h0 tp n j a 0 0 (am_sI (am_sI g 60 41 (nI (dp + 1))) 84 (dp + 1) (nI 0)) s l B (dp + 1) (wm_u T (dp + 1) 0) := by
      refine ⟨(a1.sI _ (wg_G_t (by omega))).sI _ (wg_G_t (by omega)), a2.fr (fun k h1 h2 => by rw [am_I_s1 _ _ _ _ (by omega), am_I_s2 _ _ _ _ (by omega)]) rfl, a3.fr (by rw [am_I_s1 _ _ _ _ (by omega), am_I_s2 _ _ _ _ (by omega)]) (fun i _ => by rw [am_I_s1 _ _ _ _ (by omega), am_I_s1 _ _ _ _ (by omega)]), a4.fr (by rw [am_I_s1 _ _ _ _ (by omega), am_I_s2 _ _ _ _ (by omega)]) (fun i _ => by rw [am_I_s1 _ _ _ _ (by omega), am_I_s1 _ _ _ _ (by omega)]), ⟨by rw [am_I_s1 _ _ _ _ (by omega), am_I_s], by omega⟩, fun i h1 h2 => ?_, a7, a8, a9⟩
      unfold wm_u
      by_cases c : i = dp + 1
      · rw [if_pos c, c, am_I_s]
      · rw [if_neg c, am_I_s2 _ _ _ _ c, am_I_s1 _ _ _ _ (by omega)]; exact a6 i h1 (by omega)
    have w := wm_or hH (by omega) hex (by omega) hG c1 hb (wm_u_s _ _ _)
    rw [r7, am_bV_ok]
    show wm_V h0 tp n j a B dp T (wm_T4 1 _) (wp_ex tp n j (d + 1) s l)
    rw [wm_T4_1 (c1.f0 hH), wp_ex]
    cases hr : wp_or tp n j (wp_ex tp n j d) s l with
    | inl q =>
      rw [hr] at w
      exact w
    | inr q =>
      obtain ⟨s2, l2⟩ := q
      rw [hr] at w
      obtain ⟨g3, o3, Q3, t3, e3, el3, q3, c3, ⟨⟨⟨m1, m2, m3⟩, m4⟩, m5⟩, _⟩ := w
      rw [wm_u_u] at c3
      exact ⟨g3, o3, Q3, _, e3, el3, q3, c3, fun i h1 h2 => by unfold wm_u; rw [if_neg (by omega)], m1, m2, by rw [wm_u_s]; exact m3, m4, m5⟩
end
