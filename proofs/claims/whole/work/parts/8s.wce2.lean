/-! WINTER: the class reads tests, ands, ors, parts -/
def wp_ap : Nat → wp_Q → wp_Q
  | 0, r => r
  | k + 1, r => wp_ap k (wp_bd r (fun s l => .inr (s, l ++ [20002])))
theorem wp_ap_inl (e : Nat × Nat) : ∀ k, wp_ap k (.inl e) = .inl e
  | 0 => rfl
  | k + 1 => by rw [wp_ap]; exact wp_ap_inl e k
section
variable {h0 : am_H} {D n j w : Nat} {tp : Nat → Nat}
theorem wl_sn {k : Nat} {a : Nat} (hk : k < 17) (hs : am_str k = (wl_S [a]).map nI) (ha : a < 25) : 0 < (wl_S [a]).length ∧ (wl_S [a]).length < 1000 := by
  have h := (wl_W_ok a ha).1
  rw [wl_S_c, List.length_append, List.length_append]
  show 0 < (wl_W a).length + 1 + 0 ∧ (wl_W a).length + 1 + 0 < 1000
  omega
theorem s132_42F {ρ : Nat} {x : Int32} (hj : wc_dj D j) (ht : wc_tp h0 tp n) (hw : w ≤ 6) (hρ : ρ = 7 + 8 * (7 - w) + 4) {g : am_H} {f p : Nat} (h : wc_E h0 D tp n g (.inl (f, p))) : am_RV (am_vn am_M ρ 132 42 [some (.ref 1), some (.ref D), some (.int (nI w)), none] [(.int x)] g) (fun g' => wc_E h0 D tp n g' (.inl (f, p))) := by
  have hD := hj.do
  have hs := wr_133 (D := D) (show w < 1000 by omega)
  rw [e132_42, wr_1 (wr_110 _) (by omega), am_cd_t]
  refine pz_VV (s110E hD ht h) fun g1 hg1 => ?_
  rw [wr_2 (show am_rk 133 [.ref 1, .ref D, .int (nI w)] < ρ by omega), am_cd_t]
  refine pz_VV (s133F hj ht hw g1 (f, p) hg1) fun g2 hg2 => ?_
  rw [pc_dch hD, wr_1 (wr_78 _) (by omega), am_cd_t]
  exact pz_VV (s78E (c := 0) hD hg2 (fun _ _ e => absurd e (by simp))) fun g3 hg3 => ⟨_, rfl, hg3⟩
theorem s132e (hj : wc_dj D j) (ht : wc_tp h0 tp n) (hw : w ≤ 6) {g : am_H} {f p : Nat} (hsub : am_RV (am_run am_M 133 [.ref 1, .ref D, .int (nI w)] g) (fun g' => wc_E h0 D tp n g' (.inl (f, p)))) : am_RV (am_run am_M 132 [.ref 1, .ref D, .int (nI w)] g) (fun g' => wc_E h0 D tp n g' (.inl (f, p))) := by
  have hk := wr_132 (D := D) (show w < 1000 by omega)
  have hs := wr_133 (D := D) (show w < 1000 by omega)
  rw [e132, wr_2 (show am_rk 133 [.ref 1, .ref D, .int (nI w)] < am_rk 132 [.ref 1, .ref D, .int (nI w)] by omega), am_cd_t]
  refine pz_VV hsub fun g1 hg1 => ?_
  have key : am_RV (am_vn am_M (am_rk 132 [.ref 1, .ref D, .int (nI w)]) 132 24 [some (.ref 1), some (.ref D), some (.int (nI w)), none] [] g1) (fun g' => wc_E h0 D tp n g' (.inl (f, p))) := by
    rw [e132_24]
    split
    · exact s132_42F hj ht hw hk hg1
    · exact s132_42F hj ht hw hk hg1
  split
  · exact key
  · split
    · exact key
    · exact ⟨_, rfl, hg1⟩
theorem s132F (hj : wc_dj D j) (ht : wc_tp h0 tp n) (hw : w ≤ 6) : wc_F h0 D tp n w 132 := by
  rintro g ⟨f, p⟩ h
  exact s132e hj ht hw (s133F hj ht hw g (f, p) h)
theorem s132C {N : Nat} {ex : Nat → List Nat → wp_Q} (hj : wc_dj D j) (ht : wc_tp h0 tp n) (hw : w ≤ 6) (hC : wc_C h0 D tp n w 133 (wp_su tp n j ex)) (hG : wp_SG N n (wp_su tp n j ex)) : wc_C h0 D tp n w 132 (wp_te tp n j ex) := by
  intro g s l h hl
  have hD := hj.do
  have hn := ht.1
  have hk := wr_132 (D := D) (show w < 1000 by omega)
  have hs := wr_133 (D := D) (show w < 1000 by omega)
  have gg := hG s l h.2.1.1
  unfold wp_te
  cases hr : wp_su tp n j ex s l with
  | inl q =>
    obtain ⟨f, p⟩ := q
    have h1 := hC g s l h hl
    rw [hr] at h1
    exact s132e hj ht hw h1
  | inr q =>
    obtain ⟨s2, l2⟩ := q
    have h1 := hC g s l h hl
    rw [hr] at h1 gg
    have g1' := gg.1
    have g2' := gg.2.1
    have g3' := gg.2.2.1
    rw [e132, wr_2 (show am_rk 133 [.ref 1, .ref D, .int (nI w)] < am_rk 132 [.ref 1, .ref D, .int (nI w)] by omega), am_cd_t]
    refine pz_VV h1 fun g1 hg1 => ?_
    show am_RV _ (fun g' => wc_E h0 D tp n g' (if wp_oc tp n s2 = 0 then .inr (s2, l2) else wp_bd (wp_su tp n j ex (wl_x tp n s2) l2) (fun s3 l3 => .inr (s3, l3 ++ [wp_oc tp n s2]))))
    have hX := hg1.2.1
    have hkl := wl_k_le (tp := tp) (n := n) (s := s2)
    have hO := wp_ocO (tp := tp) (n := n) s2
    have go : ∀ c, c < 30000 → wp_oc tp n s2 = c → 20000 ≤ c → am_RV (am_vn am_M (am_rk 132 [.ref 1, .ref D, .int (nI w)]) 132 42 [some (.ref 1), some (.ref D), some (.int (nI w)), none] [(.int (nI c))] g1) (fun g' => wc_E h0 D tp n g' (if wp_oc tp n s2 = 0 then .inr (s2, l2) else wp_bd (wp_su tp n j ex (wl_x tp n s2) l2) (fun s3 l3 => .inr (s3, l3 ++ [wp_oc tp n s2])))) := fun c hc e hc2 => by
      have hsn : s2 < n := by rcases hO with a | a <;> omega
      have hx := wl_x_gt (tp := tp) hsn
      have hxn := wl_x_le (tp := tp) hX.1
      have gg2 := hG (wl_x tp n s2) l2 hxn
      rw [if_neg (by omega), e, e132_42, wr_1 (wr_110 _) (by omega), am_cd_t]
      refine pz_VV (s110E hD ht hg1) fun g2 hg2 => ?_
      rw [wr_2 (show am_rk 133 [.ref 1, .ref D, .int (nI w)] < am_rk 132 [.ref 1, .ref D, .int (nI w)] by omega), am_cd_t]
      refine pz_VV (hC g2 _ l2 hg2 (by omega)) fun g3 hg3 => ?_
      rw [pc_dch hD, wr_1 (wr_78 _) (by omega), am_cd_t]
      refine pz_VV (s78E (c := c) hD hg3 (fun s' l' e => ?_)) fun g4 hg4 => ⟨_, rfl, hg4⟩
      rw [e] at gg2
      have := gg2.1
      have := gg2.2.1
      have := gg2.2.2.1
      exact ⟨by omega, rfl⟩
    rw [hX.2.2.1]
    by_cases k1 : wl_k tp n s2 = 60
    · rw [if_pos (by rw [k1]), e132_24, hX.2.2.1, if_pos (by rw [k1])]
      exact go 20003 (by omega) (by unfold wp_oc; rw [if_pos k1]) (by omega)
    · rw [if_neg (fun e => k1 ((nI_eq (by omega) (by omega)).mp e))]
      by_cases k2 : wl_k tp n s2 = 61
      · rw [if_pos (by rw [k2]), e132_24, hX.2.2.1, if_neg (fun e => k1 ((nI_eq (by omega) (by omega)).mp e))]
        exact go 20004 (by omega) (by unfold wp_oc; rw [if_neg k1, if_pos k2]) (by omega)
      · rw [if_neg (fun e => k2 ((nI_eq (by omega) (by omega)).mp e)), if_pos (by unfold wp_oc; rw [if_neg k1, if_neg k2])]
        exact ⟨_, rfl, hg1⟩
/-! not -/
theorem s131_62 {ρ a : Nat} (hD : pc_do D) (hρ : 7 < ρ) (ha : a < 1000) : ∀ (k i : Nat) (g : am_H) (r : wp_Q), i + k = a → wc_E h0 D tp n g r → (∀ s l, r = .inr (s, l) → l.length + k ≤ 700) → am_RV (am_vn am_M ρ 131 62 [none, some (.ref D), none, some (.int (nI a)), some (.int (nI i))] [] g) (fun g' => wc_E h0 D tp n g' (wp_ap k r)) := by
  intro k
  induction k with
  | zero =>
    intro i g r hi h _
    rw [e131_62, if_pos (nI_le (show a ≤ i by omega) (by omega))]
    exact ⟨g, rfl, h⟩
  | succ k ih =>
    intro i g r hi h hl
    rw [e131_62, if_neg (nI_ge (show i < a by omega) (by omega)), pc_dch hD, wr_1 (wr_78 _) hρ, am_cd_t]
    refine pz_VV (s78E (c := 20002) hD h (fun s l e => ⟨by have := hl s l e; omega, rfl⟩)) fun g1 hg1 => ?_
    rw [pz_succ, wp_ap]
    refine ih (i + 1) g1 _ (by omega) hg1 (fun s l e => ?_)
    match r, e, hl with
    | .inl _, e, _ => exact absurd e (by simp [wp_bd])
    | .inr (s2, l2), e, hl =>
      have h2 := hl s2 l2 rfl
      have e2 : l = l2 ++ [20002] := (Prod.mk.inj (Sum.inr.inj e)).2.symm
      rw [e2, wp_l1]; omega
theorem s131_5F {ρ a : Nat} {x : Int32} (hj : wc_dj D j) (ht : wc_tp h0 tp n) (hw : w ≤ 6) (hρ : ρ = 7 + 8 * (7 - w) + 5) (ha : a < 1000) {g : am_H} {f p : Nat} (h : wc_E h0 D tp n g (.inl (f, p))) : am_RV (am_vn am_M ρ 131 5 [some (.ref 1), some (.ref D), some (.int (nI w)), some (.int (nI a)), some (.int x)] [] g) (fun g' => wc_E h0 D tp n g' (.inl (f, p))) := by
  have hD := hj.do
  have hs := wr_132 (D := D) (show w < 1000 by omega)
  have key : am_RV (am_cd (Nat.blt (am_rk 132 [(.ref 1), (.ref D), (.int (nI w))]) ρ && true) (am_bV [] (am_run am_M 132 [(.ref 1), (.ref D), (.int (nI w))] g) fun g1 => am_vn am_M ρ 131 62 [none, some (.ref D), none, some (.int (nI a)), some (.int (nI 0))] [] g1) none) (fun g' => wc_E h0 D tp n g' (.inl (f, p))) := by
    rw [wr_2 (show am_rk 132 [.ref 1, .ref D, .int (nI w)] < ρ by omega), am_cd_t]
    refine pz_VV (s132F hj ht hw g (f, p) h) fun g1 hg1 => ?_
    have := s131_62 (ρ := ρ) hD (by omega) ha a 0 g1 (.inl (f, p)) (by omega) hg1 (fun _ _ e => absurd e (by simp))
    rw [wp_ap_inl] at this
    exact this
  rw [e131_5]
  split
  · exact key
  · obtain ⟨s, hX, e, _⟩ := s116E (k := 5) (ws := [24]) (by omega) wl_str5 (wl_sn (by omega) wl_str5 (by omega)) (by decide) hD ht h
    rw [wr_1 (wr_116 _) (by omega), am_cd_t]
    have e' : am_run am_M 116 [.ref 1, .ref 1005] g = _ := e
    rw [e', am_bI_ok]
    split
    · rw [if_neg h.f0]; exact key
    · exact key
theorem s131F (hj : wc_dj D j) (ht : wc_tp h0 tp n) (hw : w ≤ 6) : wc_F h0 D tp n w 131 := by
  rintro g ⟨f, p⟩ h
  rw [e131]
  exact s131_5F hj ht hw (wr_131 (by omega)) (by omega) h
theorem s131_5 {ρ N : Nat} {ex : Nat → List Nat → wp_Q} (hj : wc_dj D j) (ht : wc_tp h0 tp n) (hw : w ≤ 6) (hρ : ρ = 7 + 8 * (7 - w) + 5) (hC : wc_C h0 D tp n w 132 (wp_te tp n j ex)) (hG : wp_SG N n (wp_te tp n j ex)) : ∀ (k c s : Nat) (l : List Nat) (g : am_H), c + k = 6 → wc_E h0 D tp n g (.inr (s, l)) → l.length + c ≤ s → am_RV (am_vn am_M ρ 131 5 [some (.ref 1), some (.ref D), some (.int (nI w)), some (.int (nI c)), some (.int (nI c))] [] g) (fun g' => wc_E h0 D tp n g' (wp_ap c (wp_no tp n j ex k s l))) := by
  have hD := hj.do
  have hn := ht.1
  have hs := wr_132 (D := D) (show w < 1000 by omega)
  -- no further 'not'
  have key : ∀ (c s : Nat) (l : List Nat) (g : am_H), c ≤ 6 → wc_E h0 D tp n g (.inr (s, l)) → l.length + c ≤ s → am_RV (am_cd (Nat.blt (am_rk 132 [(.ref 1), (.ref D), (.int (nI w))]) ρ && true) (am_bV [] (am_run am_M 132 [(.ref 1), (.ref D), (.int (nI w))] g) fun g1 => am_vn am_M ρ 131 62 [none, some (.ref D), none, some (.int (nI c)), some (.int (nI 0))] [] g1) none) (fun g' => wc_E h0 D tp n g' (wp_ap c (wp_te tp n j ex s l))) := fun c s l g hc h hl => by
    rw [wr_2 (show am_rk 132 [.ref 1, .ref D, .int (nI w)] < ρ by omega), am_cd_t]
    refine pz_VV (hC g s l h (by omega)) fun g1 hg1 => ?_
    refine s131_62 (ρ := ρ) hD (by omega) (by omega) c 0 g1 _ (by omega) hg1 (fun s2 l2 e => ?_)
    have gg := hG s l h.2.1.1
    rw [e] at gg
    have := gg.2.1
    have := gg.2.2.1
    omega
  intro k
  induction k with
  | zero =>
    intro c s l g hc h hl
    rw [e131_5, if_neg (nI_ge (show c < 700 by omega) (by omega)), wr_1 (wr_116 _) (by omega), am_cd_t]
    have e' : am_run am_M 116 [.ref 1, .ref 1005] g = _ := s116 (k := 5) (ws := [24]) (by omega) wl_str5 (wl_sn (by omega) wl_str5 (by omega)) (by decide) (h.ty hD ht) h.2.1
    rw [e', am_bI_ok, wl_cx1]
    by_cases c1 : 24 = wl_w tp n s
    · rw [if_pos c1, if_pos (show nI 0 = 0 from rfl), if_pos (by rw [h.2.2.1]; rfl), if_neg (nI_nlt (show 6 ≤ c by omega) (by omega)), wr_1 (wr_109 _) (by omega), am_cd_t, wp_no, if_pos c1.symm, wp_ap_inl]
      refine pz_VV (s109E h (by omega)) fun g1 hg1 => ?_
      rw [wr_1 (wr_110 _) (by omega), am_cd_t]
      refine pz_VV (s110E hD ht hg1) fun g2 hg2 => ?_
      rw [pz_succ]
      exact s131_5F hj ht hw hρ (by omega) hg2
    · rw [if_neg c1, if_neg wl_m1, wp_no, if_neg (fun e => c1 e.symm)]
      exact key c s l g (by omega) h hl
  | succ k ih =>
    intro c s l g hc h hl
    rw [e131_5, if_neg (nI_ge (show c < 700 by omega) (by omega)), wr_1 (wr_116 _) (by omega), am_cd_t]
    have e' : am_run am_M 116 [.ref 1, .ref 1005] g = _ := s116 (k := 5) (ws := [24]) (by omega) wl_str5 (wl_sn (by omega) wl_str5 (by omega)) (by decide) (h.ty hD ht) h.2.1
    rw [e', am_bI_ok, wl_cx1]
    by_cases c1 : 24 = wl_w tp n s
    · have hx := wl_x_gt (tp := tp) (wl_w_lt (tp := tp) (n := n) (s := s) (by omega))
      rw [if_pos c1, if_pos (show nI 0 = 0 from rfl), if_pos (by rw [h.2.2.1]; rfl), if_pos (nI_lt (show c < 6 by omega) (by omega)), wr_1 (wr_110 _) (by omega), am_cd_t, wp_no, if_pos c1.symm]
      refine pz_VV (s110E hD ht h) fun g2 hg2 => ?_
      rw [pz_succ]
      exact ih (c + 1) _ l g2 (by omega) hg2 (by omega)
    · rw [if_neg c1, if_neg wl_m1, wp_no, if_neg (fun e => c1 e.symm)]
      exact key c s l g (by omega) h hl
theorem s131C {N : Nat} {ex : Nat → List Nat → wp_Q} (hj : wc_dj D j) (ht : wc_tp h0 tp n) (hw : w ≤ 6) (hC : wc_C h0 D tp n w 132 (wp_te tp n j ex)) (hG : wp_SG N n (wp_te tp n j ex)) : wc_C h0 D tp n w 131 (wp_no tp n j ex 6) := by
  intro g s l h hl
  rw [e131]
  exact s131_5 hj ht hw (wr_131 (by omega)) hC hG 6 0 s l g rfl h hl
theorem s130_8F {ρ : Nat} {v : Int32} {g : am_H} {f p : Nat} (hD : pc_do D) (ht : wc_tp h0 tp n) (hρ : 7 < ρ) (h : wc_E h0 D tp n g (.inl (f, p))) : am_vn am_M ρ 130 8 [some (.ref 1), some (.ref D), some (.int (nI w)), some (.int v)] [] g = some (.inl none, g) := by
  rw [e130_8]
  split
  · rfl
  · obtain ⟨s, hX, e, _⟩ := s116E (k := 6) (ws := [22]) (by omega) wl_str6 (wl_sn (by omega) wl_str6 (by omega)) (by decide) hD ht h
    rw [wr_1 (wr_116 _) hρ, am_cd_t]
    have e' : am_run am_M 116 [.ref 1, .ref 1006] g = _ := e
    rw [e', am_bI_ok]
    split
    · rw [if_neg h.f0]
    · rfl
theorem s130_8 {ρ N : Nat} {sub : Nat → List Nat → wp_Q} (hD : pc_do D) (ht : wc_tp h0 tp n) (hw : w ≤ 6) (hρ : ρ = 7 + 8 * (7 - w) + 6) (hC : wc_C h0 D tp n w 131 sub) (hG : wp_SG N n sub) : ∀ (f v s : Nat) (l : List Nat) (g : am_H), v + f = 700 → wc_E h0 D tp n g (.inr (s, l)) → l.length ≤ s → am_RV (am_vn am_M ρ 130 8 [some (.ref 1), some (.ref D), some (.int (nI w)), some (.int (nI v))] [] g) (fun g' => wc_E h0 D tp n g' (wp_lp tp n (wp_od tp n) sub f s l)) := by
  have hn := ht.1
  intro f
  induction f with
  | zero =>
    intro v s l g hv h hl
    rw [e130_8, if_pos (nI_le (show 700 ≤ v by omega) (by omega))]
    exact ⟨g, rfl, h⟩
  | succ f ih =>
    intro v s l g hv h hl
    have hX := h.2.1
    have e' : am_run am_M 116 [.ref 1, .ref 1006] g = _ := s116 (k := 6) (ws := [22]) (by omega) wl_str6 (wl_sn (by omega) wl_str6 (by omega)) (by decide) (h.ty hD ht) hX
    rw [e130_8, if_neg (nI_ge (show v < 700 by omega) (by omega)), wr_1 (wr_116 _) (by omega), am_cd_t, e', am_bI_ok, wl_cx1]
    by_cases c1 : 22 = wl_w tp n s
    · have hop : wp_od tp n s = 20001 := by unfold wp_od; rw [if_pos c1.symm]
      have hsn : s < n := wl_w_lt (tp := tp) (n := n) (s := s) (by omega)
      have hx := wl_x_gt (tp := tp) hsn
      have hxn := wl_x_le (tp := tp) hX.1
      have gg := hG (wl_x tp n s) l hxn
      rw [if_pos c1, if_pos (show nI 0 = 0 from rfl), if_pos (by rw [h.2.2.1]; rfl), wp_lp, if_neg (by omega), wr_1 (wr_110 _) (by omega), am_cd_t]
      refine pz_VV (s110E hD ht h) fun g1 hg1 => ?_
      have hs := wr_131 (D := D) (show w < 1000 by omega)
      rw [wr_2 (show am_rk 131 [.ref 1, .ref D, .int (nI w)] < ρ by omega), am_cd_t]
      refine pz_VV (hC g1 _ l hg1 (by omega)) fun g2 hg2 => ?_
      rw [pc_dch hD, wr_1 (wr_78 _) (by omega), am_cd_t]
      cases hr : sub (wl_x tp n s) l with
      | inl q =>
        obtain ⟨f2, p2⟩ := q
        rw [hr] at hg2
        refine pz_VV (s78E (c := 20001) hD hg2 (fun _ _ e => absurd e (by simp))) fun g3 hg3 => ?_
        rw [s130_8F hD ht (by omega) hg3]
        exact ⟨_, rfl, hg3⟩
      | inr q =>
        obtain ⟨s2, l2⟩ := q
        rw [hr] at hg2 gg
        have g1' := gg.1
        have g2' := gg.2.1
        have g3' := gg.2.2.1
        refine pz_VV (s78E (c := 20001) hD hg2 (fun s' l' e => by
          obtain ⟨_, rfl⟩ := Prod.mk.inj (Sum.inr.inj e)
          exact ⟨by omega, rfl⟩)) fun g3 hg3 => ?_
        rw [pz_succ, hop]
        exact ih (v + 1) s2 (l2 ++ [20001]) g3 (by omega) hg3 (by rw [wp_l1]; omega)
    · rw [if_neg c1, if_neg wl_m1, wp_lp, if_pos (by unfold wp_od; rw [if_neg (fun e => c1 e.symm)])]
      exact ⟨g, rfl, h⟩
theorem s130e (hj : wc_dj D j) (ht : wc_tp h0 tp n) (hw : w ≤ 6) {g : am_H} {f p : Nat} (hsub : am_RV (am_run am_M 131 [.ref 1, .ref D, .int (nI w)] g) (fun g' => wc_E h0 D tp n g' (.inl (f, p)))) : am_RV (am_run am_M 130 [.ref 1, .ref D, .int (nI w)] g) (fun g' => wc_E h0 D tp n g' (.inl (f, p))) := by
  have hk := wr_130 (D := D) (show w < 1000 by omega)
  have hs := wr_131 (D := D) (show w < 1000 by omega)
  rw [e130, wr_2 (show am_rk 131 [.ref 1, .ref D, .int (nI w)] < am_rk 130 [.ref 1, .ref D, .int (nI w)] by omega), am_cd_t]
  refine pz_VV hsub fun g1 hg1 => ?_
  rw [s130_8F hj.do ht (by omega) hg1]
  exact ⟨_, rfl, hg1⟩
theorem s130C {N : Nat} {sub : Nat → List Nat → wp_Q} (hj : wc_dj D j) (ht : wc_tp h0 tp n) (hw : w ≤ 6) (hC : wc_C h0 D tp n w 131 sub) (hG : wp_SG N n sub) : wc_C h0 D tp n w 130 (wp_cn tp n (wp_od tp n) sub) := by
  intro g s l h hl
  have hk := wr_130 (D := D) (show w < 1000 by omega)
  have hs := wr_131 (D := D) (show w < 1000 by omega)
  have gg := hG s l h.2.1.1
  have h1 := hC g s l h hl
  unfold wp_cn
  cases hr : sub s l with
  | inl q =>
    obtain ⟨f2, p2⟩ := q
    rw [hr] at h1
    exact s130e hj ht hw h1
  | inr q =>
    obtain ⟨s2, l2⟩ := q
    rw [hr] at h1 gg
    have g3' := gg.2.2.1
    have g1' := gg.1
    rw [e130, wr_2 (show am_rk 131 [.ref 1, .ref D, .int (nI w)] < am_rk 130 [.ref 1, .ref D, .int (nI w)] by omega), am_cd_t]
    refine pz_VV h1 fun g1 hg1 => ?_
    exact s130_8 hj.do ht hw hk hC hG 700 0 s2 l2 g1 rfl hg1 (by omega)
theorem s129_52F {ρ : Nat} {v : Int32} {g : am_H} {f p : Nat} (hD : pc_do D) (ht : wc_tp h0 tp n) (hρ : 7 < ρ) (h : wc_E h0 D tp n g (.inl (f, p))) : am_vn am_M ρ 129 52 [some (.ref 1), some (.ref D), some (.int (nI w)), some (.int v)] [] g = some (.inl none, g) := by
  rw [e129_52]
  split
  · rfl
  · obtain ⟨s, hX, e, _⟩ := s116E (k := 7) (ws := [23]) (by omega) wl_str7 (wl_sn (by omega) wl_str7 (by omega)) (by decide) hD ht h
    rw [wr_1 (wr_116 _) hρ, am_cd_t]
    have e' : am_run am_M 116 [.ref 1, .ref 1007] g = _ := e
    rw [e', am_bI_ok]
    split
    · rw [if_neg h.f0]
    · rfl
theorem s129_52 {ρ N : Nat} {sub : Nat → List Nat → wp_Q} (hD : pc_do D) (ht : wc_tp h0 tp n) (hw : w ≤ 6) (hρ : ρ = 7 + 8 * (7 - w) + 7) (hC : wc_C h0 D tp n w 130 sub) (hG : wp_SG N n sub) : ∀ (f v s : Nat) (l : List Nat) (g : am_H), v + f = 700 → wc_E h0 D tp n g (.inr (s, l)) → l.length ≤ s → am_RV (am_vn am_M ρ 129 52 [some (.ref 1), some (.ref D), some (.int (nI w)), some (.int (nI v))] [] g) (fun g' => wc_E h0 D tp n g' (wp_lp tp n (wp_oo tp n) sub f s l)) := by
  have hn := ht.1
  intro f
  induction f with
  | zero =>
    intro v s l g hv h hl
    rw [e129_52, if_pos (nI_le (show 700 ≤ v by omega) (by omega))]
    exact ⟨g, rfl, h⟩
  | succ f ih =>
    intro v s l g hv h hl
    have hX := h.2.1
    have e' : am_run am_M 116 [.ref 1, .ref 1007] g = _ := s116 (k := 7) (ws := [23]) (by omega) wl_str7 (wl_sn (by omega) wl_str7 (by omega)) (by decide) (h.ty hD ht) hX
    rw [e129_52, if_neg (nI_ge (show v < 700 by omega) (by omega)), wr_1 (wr_116 _) (by omega), am_cd_t, e', am_bI_ok, wl_cx1]
    by_cases c1 : 23 = wl_w tp n s
    · have hop : wp_oo tp n s = 20000 := by unfold wp_oo; rw [if_pos c1.symm]
      have hsn : s < n := wl_w_lt (tp := tp) (n := n) (s := s) (by omega)
      have hx := wl_x_gt (tp := tp) hsn
      have hxn := wl_x_le (tp := tp) hX.1
      have gg := hG (wl_x tp n s) l hxn
      rw [if_pos c1, if_pos (show nI 0 = 0 from rfl), if_pos (by rw [h.2.2.1]; rfl), wp_lp, if_neg (by omega), wr_1 (wr_110 _) (by omega), am_cd_t]
      refine pz_VV (s110E hD ht h) fun g1 hg1 => ?_
      have hs := wr_130 (D := D) (show w < 1000 by omega)
      rw [wr_2 (show am_rk 130 [.ref 1, .ref D, .int (nI w)] < ρ by omega), am_cd_t]
      refine pz_VV (hC g1 _ l hg1 (by omega)) fun g2 hg2 => ?_
      rw [pc_dch hD, wr_1 (wr_78 _) (by omega), am_cd_t]
      cases hr : sub (wl_x tp n s) l with
      | inl q =>
        obtain ⟨f2, p2⟩ := q
        rw [hr] at hg2
        refine pz_VV (s78E (c := 20000) hD hg2 (fun _ _ e => absurd e (by simp))) fun g3 hg3 => ?_
        rw [s129_52F hD ht (by omega) hg3]
        exact ⟨_, rfl, hg3⟩
      | inr q =>
        obtain ⟨s2, l2⟩ := q
        rw [hr] at hg2 gg
        have g1' := gg.1
        have g2' := gg.2.1
        have g3' := gg.2.2.1
        refine pz_VV (s78E (c := 20000) hD hg2 (fun s' l' e => by
          obtain ⟨_, rfl⟩ := Prod.mk.inj (Sum.inr.inj e)
          exact ⟨by omega, rfl⟩)) fun g3 hg3 => ?_
        rw [pz_succ, hop]
        exact ih (v + 1) s2 (l2 ++ [20000]) g3 (by omega) hg3 (by rw [wp_l1]; omega)
    · rw [if_neg c1, if_neg wl_m1, wp_lp, if_pos (by unfold wp_oo; rw [if_neg (fun e => c1 e.symm)])]
      exact ⟨g, rfl, h⟩
theorem s129_36e (hj : wc_dj D j) (ht : wc_tp h0 tp n) (hw : w ≤ 6) {g : am_H} {s f p : Nat} {l : List Nat} (h : wc_E h0 D tp n g (.inr (s, l))) (hsub : am_RV (am_run am_M 130 [.ref 1, .ref D, .int (nI w)] g) (fun g' => wc_E h0 D tp n g' (.inl (f, p)))) : am_RV (am_vn am_M (am_rk 129 [.ref 1, .ref D, .int (nI w)]) 129 36 [some (.ref 1), some (.ref D), some (.int (nI w)), none] [] g) (fun g' => wc_E h0 D tp n g' (.inl (f, p))) := by
  have hk := wr_129 (D := D) (show w < 1000 by omega)
  have hs := wr_130 (D := D) (show w < 1000 by omega)
  rw [e129_36, if_pos (by rw [h.2.2.1]; rfl), wr_2 (show am_rk 130 [.ref 1, .ref D, .int (nI w)] < am_rk 129 [.ref 1, .ref D, .int (nI w)] by omega), am_cd_t]
  refine pz_VV hsub fun g1 hg1 => ?_
  rw [s129_52F hj.do ht (by omega) hg1]
  exact ⟨_, rfl, hg1⟩
theorem s129_36 {N : Nat} {sub : Nat → List Nat → wp_Q} (hj : wc_dj D j) (ht : wc_tp h0 tp n) (hw : w ≤ 6) (hC : wc_C h0 D tp n w 130 sub) (hG : wp_SG N n sub) {g : am_H} {s : Nat} {l : List Nat} (h : wc_E h0 D tp n g (.inr (s, l))) (hl : l.length ≤ s) : am_RV (am_vn am_M (am_rk 129 [.ref 1, .ref D, .int (nI w)]) 129 36 [some (.ref 1), some (.ref D), some (.int (nI w)), none] [] g) (fun g' => wc_E h0 D tp n g' (wp_cn tp n (wp_oo tp n) sub s l)) := by
  have hk := wr_129 (D := D) (show w < 1000 by omega)
  have hs := wr_130 (D := D) (show w < 1000 by omega)
  have gg := hG s l h.2.1.1
  have h1 := hC g s l h hl
  unfold wp_cn
  cases hr : sub s l with
  | inl q =>
    obtain ⟨f2, p2⟩ := q
    rw [hr] at h1
    exact s129_36e hj ht hw h h1
  | inr q =>
    obtain ⟨s2, l2⟩ := q
    rw [hr] at h1 gg
    have g3' := gg.2.2.1
    have g1' := gg.1
    rw [e129_36, if_pos (by rw [h.2.2.1]; rfl), wr_2 (show am_rk 130 [.ref 1, .ref D, .int (nI w)] < am_rk 129 [.ref 1, .ref D, .int (nI w)] by omega), am_cd_t]
    refine pz_VV h1 fun g1 hg1 => ?_
    exact s129_52 hj.do ht hw hk hC hG 700 0 s2 l2 g1 rfl hg1 (by omega)
/-! parts -/
theorem s135N {g : am_H} {s : Nat} {l : List Nat} (hj : wc_dj D j) (ht : wc_tp h0 tp n) (hw : w ≤ 6) (h : wc_E h0 D tp n g (.inr (s, l))) (hl : l.length ≤ s) (k40 : wl_k tp n s ≠ 40) (k1 : wl_k tp n s ≠ 1) : am_RV (am_run am_M 135 [.ref 1, .ref D, .int (nI w)] g) (fun g' => wc_E h0 D tp n g' (wp_nm tp n s l)) := by
  have hD := hj.do
  have hn := ht.1
  have hX := h.2.1
  have hkl := wl_k_le (tp := tp) (n := n) (s := s)
  have hk := wr_135 (D := D) (show w < 1000 by omega)
  have h7 : 7 < am_rk 135 [.ref 1, .ref D, .int (nI w)] := by omega
  rw [e135, hX.2.2.1, if_neg (fun e => k40 ((nI_eq (by omega) (by omega)).mp e)), if_neg (fun e => k1 ((nI_eq (by omega) (by omega)).mp e)), wr_1 (wr_119 _) h7, am_cd_t]
  refine pz_IV (s119E hD ht h) fun x g1 hg1 => ?_
  obtain ⟨hg1, hx⟩ := hg1
  have hg1' : wc_E h0 D tp n g1 (wp_nh tp n s l) := hg1
  rw [pc_dch hD, wr_1 (wr_78 _) h7, am_cd_t]
  have hb : wp_nm tp n s l = wp_bd (wp_bd (wp_nh tp n s l) (fun s' l' => .inr (s', l' ++ [wl_v tp n s]))) (fun s' l' => .inr (wl_x tp n s', l')) := by
    unfold wp_nm wp_nh
    split
    · split <;> rfl
    · rfl
  rw [hb]
  refine pz_VV (s78E (c := wl_v tp n s) hD hg1' (fun s' l' e => ?_)) fun g2 hg2 => ?_
  · unfold wp_nh at e
    split at e
    · rename_i c2
      have hsn := wl_k_lt (tp := tp) (n := n) (s := s) (by omega)
      split at e
      · rename_i c4
        obtain ⟨_, rfl⟩ := Prod.mk.inj (Sum.inr.inj e)
        exact ⟨by omega, hx s l rfl c2 c4⟩
      · exact absurd e (by simp)
    · exact absurd e (by simp)
  · rw [wr_1 (wr_110 _) h7, am_cd_t]
    exact pz_VV (s110E hD ht hg2) fun g3 hg3 => ⟨_, rfl, hg3⟩
theorem s135C {ex : Nat → List Nat → wp_Q} (hj : wc_dj D j) (ht : wc_tp h0 tp n) (hw : w ≤ 5) (hC : wc_C h0 D tp n (w + 1) 129 ex) : wc_C h0 D tp n w 135 (wp_pt tp n j ex) := by
  intro g s l h hl
  have hD := hj.do
  have hn := ht.1
  obtain ⟨j1, j2, j3, j4, j5⟩ := wc_dS hj
  have hX := h.2.1
  have hkl := wl_k_le (tp := tp) (n := n) (s := s)
  have hk := wr_135 (D := D) (show w < 1000 by omega)
  have hk9 := wr_129 (D := D) (show w + 1 < 1000 by omega)
  have h7 : 7 < am_rk 135 [.ref 1, .ref D, .int (nI w)] := by omega
  unfold wp_pt
  by_cases k40 : wl_k tp n s = 40
  · have hx := wl_x_gt (tp := tp) (wl_k_lt (tp := tp) (n := n) (s := s) (by omega))
    rw [if_pos k40, e135, hX.2.2.1, if_pos (by rw [k40]), wr_1 (wr_110 _) h7, am_cd_t]
    refine pz_VV (s110E hD ht h) fun g1 hg1 => ?_
    rw [nI_add, wr_2 (show am_rk 129 [.ref 1, .ref D, .int (nI (w + 1))] < am_rk 135 [.ref 1, .ref D, .int (nI w)] by omega), am_cd_t]
    refine pz_VV (hC g1 _ l hg1 (by omega)) fun g2 hg2 => ?_
    rw [wr_1 (wr_118 _) h7, am_cd_t]
    exact pz_VV (s118E (c := 41) hD ht hg2 (by omega)) fun g3 hg3 => ⟨_, rfl, hg3⟩
  · rw [if_neg k40]
    by_cases k1 : wl_k tp n s = 1
    · rw [if_pos k1, e135, hX.2.2.1, if_neg (fun e => k40 ((nI_eq (by omega) (by omega)).mp e)), if_pos (by rw [k1]), pc_dch hD, wc_dg0 hj, wr_1 (wr_116 _) h7, am_cd_t, s116 j1 j2 j3 j5 (h.ty hD ht) hX, am_bI_ok]
      have hsn := wl_k_lt (tp := tp) (n := n) (s := s) (by omega)
      unfold wl_cx
      rw [j4]
      by_cases c7 : wl_ix (wl_V j) (wl_w tp n s) < 7
      · rw [if_pos c7, if_pos c7, if_neg (pz_neg1 (by omega)), e135_57, pc_dch hD, wr_1 (wr_78 _) h7, am_cd_t]
        refine pz_VV (s78E (c := 10000 + wl_ix (wl_V j) (wl_w tp n s)) hD h (fun s' l' e => ?_)) fun g1 hg1 => ?_
        · obtain ⟨_, rfl⟩ := Prod.mk.inj (Sum.inr.inj e)
          exact ⟨by omega, nI_add _ _⟩
        · rw [wr_1 (wr_110 _) h7, am_cd_t]
          exact pz_VV (s110E hD ht hg1) fun g2 hg2 => ⟨_, rfl, hg2⟩
      · rw [if_neg c7, if_neg c7, if_pos rfl, wr_1 (wr_109 _) h7, am_cd_t]
        exact pz_VV (s109E h (by omega)) fun g1 hg1 => s135_57F hD ht h7 hg1
    · rw [if_neg k1]
      exact s135N hj ht (by omega) h hl k40 k1
/-! an expression -/
theorem s129C (hj : wc_dj D j) (ht : wc_tp h0 tp n) : ∀ (d w : Nat), w + d = 6 → wc_C h0 D tp n w 129 (wp_ex tp n j d)
  | 0, w, hw => by
    intro g s l h hl
    have hD := hj.do
    have hn := ht.1
    have hX := h.2.1
    have hkl := wl_k_le (tp := tp) (n := n) (s := s)
    have hk := wr_129 (D := D) (show w < 1000 by omega)
    have h7 : 7 < am_rk 129 [.ref 1, .ref D, .int (nI w)] := by omega
    have fin : ∀ g f p, wc_E h0 D tp n g (.inl (f, p)) → am_RV (am_vn am_M (am_rk 129 [.ref 1, .ref D, .int (nI w)]) 129 36 [some (.ref 1), some (.ref D), some (.int (nI w)), none] [] g) (fun g' => wc_E h0 D tp n g' (.inl (f, p))) := fun g f p h => by
      rw [e129_36, if_neg h.f0]; exact ⟨g, rfl, h⟩
    rw [e129, if_neg (nI_nlt (show 6 ≤ w by omega) (by omega)), wr_1 (wr_109 _) h7, am_cd_t, hX.2.2.1, wp_ex]
    have two : am_RV (am_bV [] (am_run am_M 109 [(.ref 1), (.int (nI 2))] g) fun g1 => am_vn am_M (am_rk 129 [.ref 1, .ref D, .int (nI w)]) 129 36 [some (.ref 1), some (.ref D), some (.int (nI w)), none] [] g1) (fun g' => wc_E h0 D tp n g' (.inl (2, s))) := pz_VV (s109E h (by omega)) fun g' hg => fin g' _ _ hg
    by_cases c2 : wl_k tp n s = 2
    · rw [if_pos (show nI (wl_k tp n s) = nI 2 by rw [c2]), if_pos (Or.inl c2)]; exact two
    · rw [if_neg (show ¬ nI (wl_k tp n s) = nI 2 from fun e => c2 ((nI_eq (by omega) (by omega)).mp e))]
      by_cases c1 : wl_k tp n s = 1
      · rw [if_pos (show nI (wl_k tp n s) = nI 1 by rw [c1]), if_pos (Or.inr (Or.inl c1))]; exact two
      · rw [if_neg (show ¬ nI (wl_k tp n s) = nI 1 from fun e => c1 ((nI_eq (by omega) (by omega)).mp e))]
        by_cases c40 : wl_k tp n s = 40
        · rw [if_pos (show nI (wl_k tp n s) = nI 40 by rw [c40]), if_pos (Or.inr (Or.inr c40))]; exact two
        · rw [if_neg (show ¬ nI (wl_k tp n s) = nI 40 from fun e => c40 ((nI_eq (by omega) (by omega)).mp e)), if_neg (by omega)]
          have a5 := s135N hj ht (show w ≤ 6 by omega) h hl c40 c1
          unfold wp_nm at a5
          rw [if_neg c2] at a5
          have a2 := s132e hj ht (show w ≤ 6 by omega) (s133e (by omega) (s134e (by omega) a5))
          have hs := wr_132 (D := D) (show w < 1000 by omega)
          have hk1 := wr_131 (D := D) (show w < 1000 by omega)
          have hw24 : ¬ 24 = wl_w tp n s := fun e => c1 (wl_w_1 (by omega))
          have a1 : am_RV (am_run am_M 131 [.ref 1, .ref D, .int (nI w)] g) (fun g' => wc_E h0 D tp n g' (.inl (1, s))) := by
            have e' : am_run am_M 116 [.ref 1, .ref 1005] g = _ := s116 (k := 5) (ws := [24]) (by omega) wl_str5 (wl_sn (by omega) wl_str5 (by omega)) (by decide) (h.ty hD ht) h.2.1
            rw [e131, e131_5, if_neg (by decide), wr_1 (wr_116 _) (by omega), am_cd_t, e', am_bI_ok, wl_cx1, if_neg hw24, if_neg wl_m1, wr_2 (show am_rk 132 [.ref 1, .ref D, .int (nI w)] < am_rk 131 [.ref 1, .ref D, .int (nI w)] by omega), am_cd_t]
            refine pz_VV a2 fun g1 hg1 => ?_
            exact s131_62 hD (by omega) (by omega) 0 0 g1 _ rfl hg1 (fun _ _ e => absurd e (by simp))
          exact s129_36e hj ht (by omega) h (s130e hj ht (by omega) a1)
  | d + 1, w, hw => by
    have hC := s129C hj ht d (w + 1) (by omega)
    have hG := wp_orG (tp := tp) (j := j) (D := 5 * d + 1) (by omega) (wp_exG (tp := tp) (n := n) (j := j) d)
    have h5 : wc_C h0 D tp n w 135 (wp_pt tp n j (wp_ex tp n j d)) := s135C hj ht (by omega) hC
    have h4 : wc_C h0 D tp n w 134 (wp_pr tp n j (wp_ex tp n j d)) := s134C hj.do ht (by omega) h5 (wp_ptG (D := 5 * d + 1) (by omega) (wp_exG d))
    have h3 : wc_C h0 D tp n w 133 (wp_su tp n j (wp_ex tp n j d)) := s133C hj.do ht (by omega) h4 hG.1
    have h2 := s132C hj ht (show w ≤ 6 by omega) h3 hG.2.1
    have h1 := s131C hj ht (show w ≤ 6 by omega) h2 hG.2.2.1
    have h0' : wc_C h0 D tp n w 130 (wp_an tp n j (wp_ex tp n j d)) := s130C hj ht (by omega) h1 (hG.2.2.2.1 6)
    intro g s l h hl
    rw [e129, if_pos (nI_lt (show w < 6 by omega) (by omega)), wp_ex]
    exact s129_36 hj ht (by omega) h0' hG.2.2.2.2.1 h hl
end
