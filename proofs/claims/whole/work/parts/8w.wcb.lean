/-! WINTER: the class's lines, one by one -/
section
variable {h0 : am_H} {L n s : Nat} {tp : Nat → Nat} {g : am_H} {d : pw_L} {q : Nat × Nat}
theorem s123_16F (hL : pc_lo L) (ht : wc_tp h0 tp n) (h : wc_Z h0 L tp n g (.inl q)) : am_RV (am_vn am_M 7 123 16 [some (.ref 1), none, none] [] g) (fun g' => wc_Z h0 L tp n g' (.inl q)) := by
  rw [e123_16]
  refine pz_VV (s110Z hL ht h) fun g1 h1 => pz_IV (s120Z hL ht h1) fun x1 g2 h2 => pz_IV (s120Z hL ht h2.1) fun x2 g3 h3 => ?_
  have h3' : wc_Z h0 L tp n g3 (.inl q) := h3.1
  rw [if_neg h3'.f0]
  exact ⟨_, rfl, h3'⟩
theorem s123Z (hL : pc_lo L) (hR : am_R h0 1 2 = some L) (ht : wc_tp h0 tp n) (h : wc_Z h0 L tp n g (.inr (s, d))) : am_RV (am_run am_M 123 [.ref 1] g) (fun g' => wc_Z h0 L tp n g' (wn_pack tp n s d)) := by
  have cn : am_I g L 11 = nI (pw_n d 0) := h.2.2.2.1.1 0 (by omega)
  have h4 := h.2.2.2.2.1.1.1
  have hxn := wl_x_le (tp := tp) h.2.1.1
  rw [e123, h.R hR, am_gr_n, pc_lch hL, cn]
  unfold wn_pack
  by_cases c : pw_n d 0 < 4
  · rw [if_pos (nI_lt c (by omega)), if_pos c, e123_16]
    refine pz_VV (s110Z hL ht h) fun g1 h1 => pz_IV (s120Z (lo := 0) (hi := 20) hL ht h1) fun x1 g2 h2 => ?_
    obtain ⟨h2, hx1⟩ := h2
    have h2' : wc_Z h0 L tp n g2 (wn_vb (wn_nu tp n 0 20 (wl_x tp n s)) (fun s' _ => .inr (s', d))) := h2
    have hx1' := hx1 (wl_x tp n s) d rfl
    have hG1 := wn_nu_G (tp := tp) (lo := 0) (hi := 20) hxn
    cases n1 : wn_nu tp n 0 20 (wl_x tp n s) with
    | inl e =>
      rw [n1] at h2'
      refine pz_IV (s120Z hL ht h2') fun x2 g3 h3 => ?_
      have h3' : wc_Z h0 L tp n g3 (.inl e) := h3.1
      rw [if_neg h3'.f0]
      exact ⟨_, rfl, h3'⟩
    | inr p =>
      obtain ⟨s1, hu⟩ := p
      rw [n1] at h2' hG1
      have ex1 := hx1' s1 hu n1
      refine pz_IV (s120Z (lo := 0) (hi := 99) hL ht h2') fun x2 g3 h3 => ?_
      have h3' : wc_Z h0 L tp n g3 (wn_vb (wn_nu tp n 0 99 s1) (fun s' _ => .inr (s', d))) := h3.1
      have hx2' := h3.2 s1 d rfl
      have hG2 := wn_nu_G (tp := tp) (lo := 0) (hi := 99) hG1.2.1
      show am_RV _ (fun g' => wc_Z h0 L tp n g' (wn_vb (wn_nu tp n 0 99 s1) (fun s2 st => .inr (s2, wn_pk d hu st))))
      cases n2 : wn_nu tp n 0 99 s1 with
      | inl e =>
        rw [n2] at h3'
        have h3'' : wc_Z h0 L tp n g3 (.inl e) := h3'
        rw [if_neg h3''.f0]
        exact ⟨_, rfl, h3''⟩
      | inr p =>
        obtain ⟨s2, st⟩ := p
        rw [n2] at h3' hG2
        have h3'' : wc_Z h0 L tp n g3 (.inr (s2, d)) := h3'
        rw [if_pos h3''.z0, h3''.R hR, am_gr_n, pc_lch hL, ex1, hx2' s2 st n2]
        exact pz_VV (s83Z hL h3'' c hG1.2.2.2.1 hG2.2.2.2.1) fun g4 h5 => ⟨_, rfl, h5⟩
  · rw [if_neg (nI_nlt (by omega) (by omega)), if_neg c]
    exact pz_VV (s109Z (f := 2) hL h (by omega)) fun g1 h1 => s123_16F hL ht h1
theorem s124_17F {x : Int32} (hL : pc_lo L) (hR : am_R h0 1 2 = some L) (ht : wc_tp h0 tp n) (h : wc_Z h0 L tp n g (.inl q)) : am_RV (am_vn am_M 6 124 17 [some (.ref 1), some (.int x), none] [] g) (fun g' => wc_Z h0 L tp n g' (.inl q)) := by
  rw [e124_17]
  refine pz_VV (s110Z hL ht h) fun g1 h1 => ?_
  have h1' : wc_Z h0 L tp n g1 (.inl q) := h1
  rw [h1'.R hR, am_gr_n, pc_lch hL]
  refine pz_IV (s121Z (m := 0) hL ht (by omega) h1' (fun _ _ e => absurd e (by simp))) fun x1 g2 h2 => pz_VV (s110Z hL ht h2.1) fun g3 h3 => ?_
  have h3' : wc_Z h0 L tp n g3 (.inl q) := h3
  rw [if_neg h3'.f0]
  exact ⟨_, rfl, h3'⟩
theorem s124Z {k : Nat} (hk : k ≤ 3) (hL : pc_lo L) (hR : am_R h0 1 2 = some L) (ht : wc_tp h0 tp n) (h : wc_Z h0 L tp n g (.inr (s, d))) : am_RV (am_run am_M 124 [.ref 1, .int (nI k)] g) (fun g' => wc_Z h0 L tp n g' (wn_place tp n k s d)) := by
  have cn : am_I g L 12 = nI (pw_n d 1) := h.2.2.2.1.1 1 (by omega)
  have h4 := h.2.2.2.2.1.1
  have hxn := wl_x_le (tp := tp) h.2.1.1
  rw [e124, h.R hR, am_gr_n, pc_lch hL, cn]
  unfold wn_place
  by_cases c : pw_n d 1 < 9
  · rw [if_pos (nI_lt c (by omega)), if_pos c, e124_17]
    refine pz_VV (s110Z hL ht h) fun g1 h1 => ?_
    have h1' : wc_Z h0 L tp n g1 (.inr (wl_x tp n s, d)) := h1
    have c1 : am_I g1 L 11 = nI (pw_n d 0) := h1'.2.2.2.1.1 0 (by omega)
    rw [h1'.R hR, am_gr_n, pc_lch hL, c1]
    refine pz_IV (s121Z (m := pw_n d 0) hL ht (by omega) h1' (fun _ _ _ => rfl)) fun x1 g2 h2 => ?_
    obtain ⟨h2, hx1⟩ := h2
    have h2' : wc_Z h0 L tp n g2 (wn_vb (wn_to tp n (pw_n d 0) (wl_x tp n s)) (fun s' _ => .inr (s', d))) := h2
    have hx1' := hx1 (wl_x tp n s) d rfl
    have hG1 := wn_to_G (tp := tp) (m := pw_n d 0) hxn
    cases n1 : wn_to tp n (pw_n d 0) (wl_x tp n s) with
    | inl e =>
      rw [n1] at h2'
      refine pz_VV (s110Z hL ht h2') fun g3 h3 => ?_
      have h3' : wc_Z h0 L tp n g3 (.inl e) := h3
      rw [if_neg h3'.f0]
      exact ⟨_, rfl, h3'⟩
    | inr p =>
      obtain ⟨s1, v⟩ := p
      rw [n1] at h2' hG1
      refine pz_VV (s110Z hL ht h2') fun g3 h3 => ?_
      have h3' : wc_Z h0 L tp n g3 (.inr (wl_x tp n s1, d)) := h3
      rw [if_pos h3'.z0, h3'.R hR, am_gr_n, pc_lch hL, hx1' s1 v n1]
      exact pz_VV (s84Z hL h3' c hk hG1.2.2.1) fun g4 h5 => ⟨_, rfl, h5⟩
  · rw [if_neg (nI_nlt (by omega) (by omega)), if_neg c]
    exact pz_VV (s109Z (f := 2) hL h (by omega)) fun g1 h1 => s124_17F hL hR ht h1
theorem s125_71F {x y : Int32} (hL : pc_lo L) (ht : wc_tp h0 tp n) (h : wc_Z h0 L tp n g (.inl q)) : am_RV (am_vn am_M 7 125 71 [some (.ref 1), some (.int x), some (.int y), none] [] g) (fun g' => wc_Z h0 L tp n g' (.inl q)) := by
  rw [e125_71]
  refine pz_VV (s110Z hL ht h) fun g1 h1 => pz_IV (s120Z hL ht h1) fun x1 g2 h2 => ?_
  have h3' : wc_Z h0 L tp n g2 (.inl q) := h2.1
  rw [if_neg h3'.f0]
  exact ⟨_, rfl, h3'⟩
/-- what stands behind the second place, in a fault -/
theorem s125_xF {x y : Int32} (hL : pc_lo L) (hR : am_R h0 1 2 = some L) (ht : wc_tp h0 tp n) (h : wc_Z h0 L tp n g (.inl q)) : am_RV (if y = x then am_bV [] (am_run am_M 109 [(.ref 1), (.int (nI 4))] g) fun g11 => am_vn am_M 7 125 71 [some (.ref 1), some (.int x), some (.int y), none] [] g11 else am_gr none (am_R g 1 2) fun q12 => am_ch 100 q12 2 (am_bI [] (am_run am_M 95 [(.ref q12), (.int x), (.int y)] g) fun x14 g13 => (if x14 ≤ 0 then am_vn am_M 7 125 71 [some (.ref 1), some (.int x), some (.int y), none] [] g13 else am_bV [] (am_run am_M 109 [(.ref 1), (.int (nI 4))] g13) fun g15 => am_vn am_M 7 125 71 [some (.ref 1), some (.int x), some (.int y), none] [] g15))) (fun g' => wc_Z h0 L tp n g' (.inl q)) := by
  have hl := pc_llt hL
  have two : am_RV (am_bV [] (am_run am_M 109 [(.ref 1), (.int (nI 4))] g) fun g11 => am_vn am_M 7 125 71 [some (.ref 1), some (.int x), some (.int y), none] [] g11) (fun g' => wc_Z h0 L tp n g' (.inl q)) := pz_VV (s109Z (f := 4) hL h (by omega)) fun g1 h1 => s125_71F hL ht h1
  split
  · exact two
  · rw [h.R hR, am_gr_n, pc_lch hL, e95, pc_lch hL, pc_lg5 hL, at_any (pc_l6 hL) (by omega) (by omega), am_bI_ok, am_bI_ok]
    split
    · exact s125_71F hL ht h
    · exact two
theorem s125_17F (hL : pc_lo L) (hR : am_R h0 1 2 = some L) (ht : wc_tp h0 tp n) (h : wc_Z h0 L tp n g (.inl q)) : am_RV (am_vn am_M 7 125 17 [some (.ref 1), none, none, none] [] g) (fun g' => wc_Z h0 L tp n g' (.inl q)) := by
  rw [e125_17]
  refine pz_VV (s110Z hL ht h) fun g1 h1 => ?_
  have h1' : wc_Z h0 L tp n g1 (.inl q) := h1
  rw [h1'.R hR, am_gr_n, pc_lch hL]
  refine pz_IV (s121Z (m := 0) hL ht (by omega) h1' (fun _ _ e => absurd e (by simp))) fun x1 g2 h2 => pz_VV (s110Z hL ht h2.1) fun g3 h3 => ?_
  have h3' : wc_Z h0 L tp n g3 (.inl q) := h3
  rw [h3'.R hR, am_gr_n, pc_lch hL]
  refine pz_IV (s121Z (m := 0) hL ht (by omega) h3' (fun _ _ e => absurd e (by simp))) fun x2 g4 h4 => ?_
  exact s125_xF hL hR ht h4.1
theorem s125Z (hL : pc_lo L) (hR : am_R h0 1 2 = some L) (ht : wc_tp h0 tp n) (h : wc_Z h0 L tp n g (.inr (s, d))) : am_RV (am_run am_M 125 [.ref 1] g) (fun g' => wc_Z h0 L tp n g' (wn_path tp n s d)) := by
  have cn : am_I g L 13 = nI (pw_n d 2) := h.2.2.2.1.1 2 (by omega)
  have h4 := h.2.2.2.2.1.1
  have hW := h.2.2.2.2.1.2.2.2.2.1
  have hxn := wl_x_le (tp := tp) h.2.1.1
  rw [e125, h.R hR, am_gr_n, pc_lch hL, cn]
  unfold wn_path
  by_cases c : pw_n d 2 < 14
  · rw [if_pos (nI_lt c (by omega)), if_pos c, e125_17]
    refine pz_VV (s110Z hL ht h) fun g1 h1 => ?_
    have h1' : wc_Z h0 L tp n g1 (.inr (wl_x tp n s, d)) := h1
    have c1 : am_I g1 L 12 = nI (pw_n d 1) := h1'.2.2.2.1.1 1 (by omega)
    rw [h1'.R hR, am_gr_n, pc_lch hL, c1]
    refine pz_IV (s121Z (m := pw_n d 1) hL ht (by omega) h1' (fun _ _ _ => rfl)) fun x1 g2 h2 => ?_
    obtain ⟨h2, hx1⟩ := h2
    have h2' : wc_Z h0 L tp n g2 (wn_vb (wn_to tp n (pw_n d 1) (wl_x tp n s)) (fun s' _ => .inr (s', d))) := h2
    have hx1' := hx1 (wl_x tp n s) d rfl
    have hG1 := wn_to_G (tp := tp) (m := pw_n d 1) hxn
    cases n1 : wn_to tp n (pw_n d 1) (wl_x tp n s) with
    | inl e =>
      rw [n1] at h2'
      refine pz_VV (s110Z hL ht h2') fun g3 h3 => ?_
      have h3' : wc_Z h0 L tp n g3 (.inl e) := h3
      rw [h3'.R hR, am_gr_n, pc_lch hL]
      refine pz_IV (s121Z (m := 0) hL ht (by omega) h3' (fun _ _ e => absurd e (by simp))) fun x2 g4 h4 => ?_
      exact s125_xF hL hR ht h4.1
    | inr p =>
      obtain ⟨s1, a⟩ := p
      rw [n1] at h2' hG1
      have ex1 := hx1' s1 a n1
      obtain ⟨es1, hs1, ha1, _⟩ := hG1
      subst es1
      have hxn2 := wl_x_le (tp := tp) (Nat.le_of_lt hs1)
      refine pz_VV (s110Z hL ht h2') fun g3 h3 => ?_
      have h3' : wc_Z h0 L tp n g3 (.inr (wl_x tp n (wl_x tp n s), d)) := h3
      have c3 : am_I g3 L 12 = nI (pw_n d 1) := h3'.2.2.2.1.1 1 (by omega)
      rw [h3'.R hR, am_gr_n, pc_lch hL, c3, ex1]
      refine pz_IV (s121Z (m := pw_n d 1) hL ht (by omega) h3' (fun _ _ _ => rfl)) fun x2 g4 h4 => ?_
      obtain ⟨h4, hx2⟩ := h4
      have h4' : wc_Z h0 L tp n g4 (wn_vb (wn_to tp n (pw_n d 1) (wl_x tp n (wl_x tp n s))) (fun s' _ => .inr (s', d))) := h4
      have hx2' := hx2 (wl_x tp n (wl_x tp n s)) d rfl
      have hG2 := wn_to_G (tp := tp) (m := pw_n d 1) hxn2
      show am_RV _ (fun g' => wc_Z h0 L tp n g' (wn_vb (wn_to tp n (pw_n d 1) (wl_x tp n (wl_x tp n s))) (fun s2 b => if b = a ∨ 0 < pw_t d 5 (a * 9 + b) then .inl (4, s2) else wn_vb (wn_nu tp n 1 9 (wl_x tp n s2)) (fun s3 v => .inr (s3, wn_pa d a b v)))))
      cases n2 : wn_to tp n (pw_n d 1) (wl_x tp n (wl_x tp n s)) with
      | inl e =>
        rw [n2] at h4'
        exact s125_xF hL hR ht h4'
      | inr p =>
        obtain ⟨s2, b⟩ := p
        rw [n2] at h4' hG2
        have ex2 := hx2' s2 b n2
        obtain ⟨es2, hs2, hb1, _⟩ := hG2
        subst es2
        have hxn3 := wl_x_le (tp := tp) (Nat.le_of_lt hs2)
        have h4'' : wc_Z h0 L tp n g4 (.inr (wl_x tp n (wl_x tp n s), d)) := h4'
        have t9 := (hW a b (by omega) (by omega)).1
        have c6 := h4''.2.2.2.1.2.2.2.2.1 (a * 9 + b) (by omega)
        rw [ex2]
        show am_RV _ (fun g' => wc_Z h0 L tp n g' (if b = a ∨ 0 < pw_t d 5 (a * 9 + b) then .inl (4, wl_x tp n (wl_x tp n s)) else wn_vb (wn_nu tp n 1 9 (wl_x tp n (wl_x tp n (wl_x tp n s)))) (fun s3 v => .inr (s3, wn_pa d a b v))))
        by_cases cb : b = a
        · rw [if_pos (show nI b = nI a by rw [cb]), if_pos (Or.inl cb)]
          exact pz_VV (s109Z (f := 4) hL h4'' (by omega)) fun g5 h5 => s125_71F hL ht h5
        · rw [if_neg (fun e => cb ((nI_eq (by omega) (by omega)).mp e)), h4''.R hR, am_gr_n, pc_lch hL, s95 hL (show a * 9 + b < 81 by omega), am_bI_ok, c6]
          by_cases ct : 0 < pw_t d 5 (a * 9 + b)
          · rw [if_neg (show ¬ nI (pw_t d 5 (a * 9 + b)) ≤ 0 from nI_ge ct (by omega)), if_pos (Or.inr ct)]
            exact pz_VV (s109Z (f := 4) hL h4'' (by omega)) fun g5 h5 => s125_71F hL ht h5
          · rw [if_pos (show nI (pw_t d 5 (a * 9 + b)) ≤ 0 by rw [show pw_t d 5 (a * 9 + b) = 0 by omega]; decide), if_neg (fun h => by rcases h with h | h <;> omega), e125_71]
            refine pz_VV (s110Z hL ht h4'') fun g5 h5 => pz_IV (s120Z (lo := 1) (hi := 9) hL ht h5) fun x3 g6 h6 => ?_
            obtain ⟨h6, hx3⟩ := h6
            have h6' : wc_Z h0 L tp n g6 (wn_vb (wn_nu tp n 1 9 (wl_x tp n (wl_x tp n (wl_x tp n s)))) (fun s' _ => .inr (s', d))) := h6
            have hx3' := hx3 (wl_x tp n (wl_x tp n (wl_x tp n s))) d rfl
            have hG3 := wn_nu_G (tp := tp) (lo := 1) (hi := 9) hxn3
            cases n3 : wn_nu tp n 1 9 (wl_x tp n (wl_x tp n (wl_x tp n s))) with
            | inl e =>
              rw [n3] at h6'
              have h6'' : wc_Z h0 L tp n g6 (.inl e) := h6'
              rw [if_neg h6''.f0]
              exact ⟨_, rfl, h6''⟩
            | inr p =>
              obtain ⟨s3, v⟩ := p
              rw [n3] at h6' hG3
              have h6'' : wc_Z h0 L tp n g6 (.inr (s3, d)) := h6'
              rw [if_pos h6''.z0, h6''.R hR, am_gr_n, pc_lch hL, hx3' s3 v n3]
              exact pz_VV (s85Z hL h6'' c ha1 hb1 cb hG3.2.2.2.1) fun g7 h7 => ⟨_, rfl, h7⟩
  · rw [if_neg (nI_nlt (by omega) (by omega)), if_neg c]
    exact pz_VV (s109Z (f := 2) hL h (by omega)) fun g1 h1 => s125_17F hL hR ht h1
theorem s126_50F {x y : Int32} (hL : pc_lo L) (ht : wc_tp h0 tp n) (h : wc_Z h0 L tp n g (.inl q)) : am_RV (am_vn am_M 7 126 50 [some (.ref 1), some (.int x), some (.int y), none, none] [] g) (fun g' => wc_Z h0 L tp n g' (.inl q)) := by
  rw [e126_50]
  refine pz_VV (s110Z hL ht h) fun g1 h1 => pz_IV (s120Z hL ht h1) fun x1 g2 h2 => pz_IV (s120Z hL ht h2.1) fun x2 g3 h3 => ?_
  have h3' : wc_Z h0 L tp n g3 (.inl q) := h3.1
  rw [if_neg h3'.f0]
  exact ⟨_, rfl, h3'⟩
theorem s126_xF {x y : Int32} (hL : pc_lo L) (hR : am_R h0 1 2 = some L) (ht : wc_tp h0 tp n) (h : wc_Z h0 L tp n g (.inl q)) : am_RV (am_gr none (am_R g 1 2) fun q7 => am_ch 100 q7 2 (am_bI [] (am_run am_M 90 [(.ref q7), (.int y)] g) fun x9 g8 => (if x9 = 0 then am_vn am_M 7 126 50 [some (.ref 1), some (.int x), some (.int y), none, none] [] g8 else am_bV [] (am_run am_M 109 [(.ref 1), (.int (nI 6))] g8) fun g10 => am_vn am_M 7 126 50 [some (.ref 1), some (.int x), some (.int y), none, none] [] g10))) (fun g' => wc_Z h0 L tp n g' (.inl q)) := by
  have hl := pc_llt hL
  rw [h.R hR, am_gr_n, pc_lch hL, e90, pc_lch hL, pc_lg0 hL, at_any (pc_l1 hL) (by omega) (by omega), am_bI_ok, am_bI_ok]
  split
  · exact s126_50F hL ht h
  · exact pz_VV (s109Z (f := 6) hL h (by omega)) fun g1 h1 => s126_50F hL ht h1
theorem s126_17F {x : Int32} (hL : pc_lo L) (hR : am_R h0 1 2 = some L) (ht : wc_tp h0 tp n) (h : wc_Z h0 L tp n g (.inl q)) : am_RV (am_vn am_M 7 126 17 [some (.ref 1), some (.int x), none, none, none] [] g) (fun g' => wc_Z h0 L tp n g' (.inl q)) := by
  rw [e126_17]
  refine pz_VV (s110Z hL ht h) fun g1 h1 => ?_
  have h1' : wc_Z h0 L tp n g1 (.inl q) := h1
  rw [h1'.R hR, am_gr_n, pc_lch hL]
  exact pz_IV (s121Z (m := 0) hL ht (by omega) h1' (fun _ _ e => absurd e (by simp))) fun x1 g2 h2 => s126_xF hL hR ht h2.1
theorem s126Z {k : Nat} (hk : k ≤ 3) (hL : pc_lo L) (hR : am_R h0 1 2 = some L) (ht : wc_tp h0 tp n) (h : wc_Z h0 L tp n g (.inr (s, d))) : am_RV (am_run am_M 126 [.ref 1, .int (nI k)] g) (fun g' => wc_Z h0 L tp n g' (wn_person tp n k s d)) := by
  have cn : am_I g L 14 = nI (pw_n d 3) := h.2.2.2.1.1 3 (by omega)
  have h4 := h.2.2.2.2.1.1
  have hP := h.2.2.2.2.1.2.1
  have hxn := wl_x_le (tp := tp) h.2.1.1
  rw [e126, h.R hR, am_gr_n, pc_lch hL, cn]
  unfold wn_person
  by_cases c : pw_n d 3 < 6
  · rw [if_pos (nI_lt c (by omega)), if_pos c, e126_17]
    refine pz_VV (s110Z hL ht h) fun g1 h1 => ?_
    have h1' : wc_Z h0 L tp n g1 (.inr (wl_x tp n s, d)) := h1
    have c1 : am_I g1 L 12 = nI (pw_n d 1) := h1'.2.2.2.1.1 1 (by omega)
    rw [h1'.R hR, am_gr_n, pc_lch hL, c1]
    refine pz_IV (s121Z (m := pw_n d 1) hL ht (by omega) h1' (fun _ _ _ => rfl)) fun x1 g2 h2 => ?_
    obtain ⟨h2, hx1⟩ := h2
    have h2' : wc_Z h0 L tp n g2 (wn_vb (wn_to tp n (pw_n d 1) (wl_x tp n s)) (fun s' _ => .inr (s', d))) := h2
    have hx1' := hx1 (wl_x tp n s) d rfl
    have hG1 := wn_to_G (tp := tp) (m := pw_n d 1) hxn
    cases n1 : wn_to tp n (pw_n d 1) (wl_x tp n s) with
    | inl e =>
      rw [n1] at h2'
      exact s126_xF hL hR ht h2'
    | inr p =>
      obtain ⟨s1, m⟩ := p
      rw [n1] at h2' hG1
      have ex1 := hx1' s1 m n1
      obtain ⟨es1, hs1, hm1, _⟩ := hG1
      subst es1
      have h2'' : wc_Z h0 L tp n g2 (.inr (wl_x tp n s, d)) := h2'
      have hxn2 := wl_x_le (tp := tp) (Nat.le_of_lt hs1)
      have hk3 := (hP m hm1).1
      rw [h2''.R hR, am_gr_n, pc_lch hL, ex1, s90 hL (by omega), am_bI_ok, (h2''.2.2.2.1.2.1 m hm1).1]
      show am_RV _ (fun g' => wc_Z h0 L tp n g' (if pw_t d 0 m = 0 then wn_vb (wn_nu tp n 0 99 (wl_x tp n (wl_x tp n s))) (fun s2 la => wn_vb (wn_nu tp n 0 99 s2) (fun s3 wo => .inr (s3, wn_pe d k m la wo))) else .inl (6, wl_x tp n s)))
      by_cases ck : pw_t d 0 m = 0
      · rw [if_pos (show nI (pw_t d 0 m) = 0 by rw [ck]; rfl), if_pos ck, e126_50]
        refine pz_VV (s110Z hL ht h2'') fun g3 h3 => pz_IV (s120Z (lo := 0) (hi := 99) hL ht h3) fun x2 g4 h4 => ?_
        obtain ⟨h4, hx2⟩ := h4
        have h4' : wc_Z h0 L tp n g4 (wn_vb (wn_nu tp n 0 99 (wl_x tp n (wl_x tp n s))) (fun s' _ => .inr (s', d))) := h4
        have hx2' := hx2 (wl_x tp n (wl_x tp n s)) d rfl
        have hG2 := wn_nu_G (tp := tp) (lo := 0) (hi := 99) hxn2
        cases n2 : wn_nu tp n 0 99 (wl_x tp n (wl_x tp n s)) with
        | inl e =>
          rw [n2] at h4'
          refine pz_IV (s120Z hL ht h4') fun x3 g5 h5 => ?_
          have h5' : wc_Z h0 L tp n g5 (.inl e) := h5.1
          rw [if_neg h5'.f0]
          exact ⟨_, rfl, h5'⟩
        | inr p =>
          obtain ⟨s2, la⟩ := p
          rw [n2] at h4' hG2
          have ex2 := hx2' s2 la n2
          refine pz_IV (s120Z (lo := 0) (hi := 99) hL ht h4') fun x3 g5 h5 => ?_
          have h5' : wc_Z h0 L tp n g5 (wn_vb (wn_nu tp n 0 99 s2) (fun s' _ => .inr (s', d))) := h5.1
          have hx3' := h5.2 s2 d rfl
          have hG3 := wn_nu_G (tp := tp) (lo := 0) (hi := 99) hG2.2.1
          show am_RV _ (fun g' => wc_Z h0 L tp n g' (wn_vb (wn_nu tp n 0 99 s2) (fun s3 wo => .inr (s3, wn_pe d k m la wo))))
          cases n3 : wn_nu tp n 0 99 s2 with
          | inl e =>
            rw [n3] at h5'
            have h5'' : wc_Z h0 L tp n g5 (.inl e) := h5'
            rw [if_neg h5''.f0]
            exact ⟨_, rfl, h5''⟩
          | inr p =>
            obtain ⟨s3, wo⟩ := p
            rw [n3] at h5' hG3
            have h5'' : wc_Z h0 L tp n g5 (.inr (s3, d)) := h5'
            rw [if_pos h5''.z0, h5''.R hR, am_gr_n, pc_lch hL, ex2, hx3' s3 wo n3]
            exact pz_VV (s86Z hL h5'' c hk hm1 hG2.2.2.2.1 hG3.2.2.2.1) fun g7 h7 => ⟨_, rfl, h7⟩
      · rw [if_neg (nI_ne0 (by omega) (by omega)), if_neg ck]
        exact pz_VV (s109Z (f := 6) hL h2'' (by omega)) fun g3 h3 => s126_50F hL ht h3
  · rw [if_neg (nI_nlt (by omega) (by omega)), if_neg c]
    exact pz_VV (s109Z (f := 2) hL h (by omega)) fun g1 h1 => s126_17F hL hR ht h1
/-! snow -/
theorem s127_35F {x : Int32} (h : wc_Z h0 L tp n g (.inl q)) : am_vn am_M 7 127 35 [some (.ref 1), some (.int x)] [] g = some (.inl none, g) := by
  rw [e127_35]
  split
  · rfl
  · split
    · rw [if_neg h.f0]
    · rfl
theorem s127_74F {x : Int32} (hL : pc_lo L) (hR : am_R h0 1 2 = some L) (ht : wc_tp h0 tp n) (h : wc_Z h0 L tp n g (.inl q)) : am_RV (am_vn am_M 7 127 74 [some (.ref 1), some (.int x)] [] g) (fun g' => wc_Z h0 L tp n g' (.inl q)) := by
  rw [e127_74, h.R hR, am_gr_n]
  refine pz_IV (s120Z hL ht h) fun x1 g1 h1 => ?_
  rw [pc_lch hL]
  refine pz_VV (s87F hL h1.1) fun g2 h2 => ?_
  rw [s127_35F h2]
  exact ⟨_, rfl, h2⟩
theorem s127_15F (hL : pc_lo L) (hR : am_R h0 1 2 = some L) (ht : wc_tp h0 tp n) (h : wc_Z h0 L tp n g (.inl q)) : am_RV (am_vn am_M 7 127 15 [some (.ref 1), none] [] g) (fun g' => wc_Z h0 L tp n g' (.inl q)) := by
  rw [e127_15]
  refine pz_VV (s110Z hL ht h) fun g0 h0' => ?_
  have h0'' : wc_Z h0 L tp n g0 (.inl q) := h0'
  rw [h0''.R hR, am_gr_n]
  refine pz_IV (s120Z hL ht h0'') fun x1 g1 h1 => ?_
  rw [pc_lch hL]
  refine pz_VV (s87F hL h1.1) fun g2 h2 => ?_
  rw [s127_35F h2]
  exact ⟨_, rfl, h2⟩
theorem s127_35 (hL : pc_lo L) (hR : am_R h0 1 2 = some L) (ht : wc_tp h0 tp n) : ∀ (f v s : Nat) (d : pw_L) (g : am_H), v + f = 700 → wc_Z h0 L tp n g (.inr (s, d)) → am_RV (am_vn am_M 7 127 35 [some (.ref 1), some (.int (nI v))] [] g) (fun g' => wc_Z h0 L tp n g' (wn_sl tp n f s d)) := by
  intro f
  induction f with
  | zero =>
    intro v s d g hv h
    rw [e127_35, if_pos (nI_le (show 700 ≤ v by omega) (by omega))]
    exact ⟨_, rfl, h⟩
  | succ f ih =>
    intro v s d g hv h
    have hkl := wl_k_le (tp := tp) (n := n) (s := s)
    have cn : am_I g L 15 = nI (pw_n d 4) := h.2.2.2.1.1 4 (by omega)
    have h4 := h.2.2.2.2.1.1.2.2.2.2
    rw [e127_35, if_neg (nI_ge (show v < 700 by omega) (by omega)), h.2.1.2.2.1, wn_sl]
    by_cases c : wl_k tp n s = 2
    · rw [if_pos (show nI (wl_k tp n s) = nI 2 by rw [c]), if_pos c, if_pos h.z0, h.R hR, am_gr_n, pc_lch hL, cn]
      by_cases c2 : pw_n d 4 < 10
      · rw [if_pos (nI_lt c2 (by omega)), if_pos c2, e127_74, h.R hR, am_gr_n]
        refine pz_IV (s120Z (lo := 0) (hi := 9) hL ht h) fun x1 g1 h1 => ?_
        obtain ⟨h1, hx1⟩ := h1
        have h1' : wc_Z h0 L tp n g1 (wn_vb (wn_nu tp n 0 9 s) (fun s' _ => .inr (s', d))) := h1
        have hx1' := hx1 s d rfl
        have hG1 := wn_nu_G (tp := tp) (lo := 0) (hi := 9) h.2.1.1
        rw [pc_lch hL]
        cases n1 : wn_nu tp n 0 9 s with
        | inl e =>
          rw [n1] at h1'
          refine pz_VV (s87F hL h1') fun g2 h2 => ?_
          rw [s127_35F h2]
          exact ⟨_, rfl, h2⟩
        | inr p =>
          obtain ⟨s1, u⟩ := p
          rw [n1] at h1' hG1
          have h1'' : wc_Z h0 L tp n g1 (.inr (s1, d)) := h1'
          rw [hx1' s1 u n1]
          refine pz_VV (s87Z hL h1'' c2 hG1.2.2.2.1) fun g2 h2 => ?_
          rw [pz_succ]
          exact ih (v + 1) s1 _ g2 (by omega) h2
      · rw [if_neg (nI_nlt (by omega) (by omega)), if_neg c2]
        exact pz_VV (s109Z (f := 2) hL h (by omega)) fun g1 h1 => s127_74F hL hR ht h1
    · rw [if_neg (fun e => c ((nI_eq (by omega) (by omega)).mp e)), if_neg c]
      exact ⟨_, rfl, h⟩
theorem s127Z (hL : pc_lo L) (hR : am_R h0 1 2 = some L) (ht : wc_tp h0 tp n) (h : wc_Z h0 L tp n g (.inr (s, d))) : am_RV (am_run am_M 127 [.ref 1] g) (fun g' => wc_Z h0 L tp n g' (wn_snow tp n s d)) := by
  have cn : am_I g L 15 = nI (pw_n d 4) := h.2.2.2.1.1 4 (by omega)
  have h4 := h.2.2.2.2.1.1.2.2.2.2
  have hxn := wl_x_le (tp := tp) h.2.1.1
  rw [e127, h.R hR, am_gr_n, pc_lch hL, cn]
  unfold wn_snow
  by_cases c : pw_n d 4 = 0
  · rw [if_pos (show nI (pw_n d 4) ≤ 0 by rw [c]; decide), if_pos c, e127_15]
    refine pz_VV (s110Z hL ht h) fun g0 h0' => ?_
    have h0'' : wc_Z h0 L tp n g0 (.inr (wl_x tp n s, d)) := h0'
    rw [h0''.R hR, am_gr_n]
    refine pz_IV (s120Z (lo := 0) (hi := 9) hL ht h0'') fun x1 g1 h1 => ?_
    obtain ⟨h1, hx1⟩ := h1
    have h1' : wc_Z h0 L tp n g1 (wn_vb (wn_nu tp n 0 9 (wl_x tp n s)) (fun s' _ => .inr (s', d))) := h1
    have hx1' := hx1 (wl_x tp n s) d rfl
    have hG1 := wn_nu_G (tp := tp) (lo := 0) (hi := 9) hxn
    rw [pc_lch hL]
    cases n1 : wn_nu tp n 0 9 (wl_x tp n s) with
    | inl e =>
      rw [n1] at h1'
      refine pz_VV (s87F hL h1') fun g2 h2 => ?_
      rw [s127_35F h2]
      exact ⟨_, rfl, h2⟩
    | inr p =>
      obtain ⟨s1, u⟩ := p
      rw [n1] at h1' hG1
      have h1'' : wc_Z h0 L tp n g1 (.inr (s1, d)) := h1'
      rw [hx1' s1 u n1]
      refine pz_VV (s87Z hL h1'' (by omega) hG1.2.2.2.1) fun g2 h2 => ?_
      exact s127_35 hL hR ht 700 0 s1 _ g2 rfl h2
  · rw [if_neg (show ¬ nI (pw_n d 4) ≤ 0 from nI_ge (show 0 < pw_n d 4 by omega) (by omega)), if_neg c]
    exact pz_VV (s109Z (f := 5) hL h (by omega)) fun g1 h1 => s127_15F hL hR ht h1
/-! deeds -/
theorem wz_EM {M : Nat} (h : wc_Z h0 L tp n g (.inl q)) : wc_E g M tp n g (.inl q) := by
  obtain ⟨f, p⟩ := q
  exact ⟨am_kp.refl _ _, h.2.1, h.2.2.1, h.2.2.2.1, h.2.2.2.2.1⟩
theorem s128_12F {M j : Nat} (hL : pc_lo L) (hM : M = L + 9 ∧ j = 0 ∨ M = L + 12 ∧ j = 1) (ht : wc_tp h0 tp n) (h : wc_Z h0 L tp n g (.inl q)) : am_RV (am_vn am_M 72 128 12 [some (.ref 1), some (.ref M)] [] g) (fun g' => wc_Z h0 L tp n g' (.inl q)) := by
  rw [e128_12]
  refine pz_VV (s110Z hL ht h) fun g1 h1 => ?_
  have h1' : wc_Z h0 L tp n g1 (.inl q) := h1
  exact pz_VV (s129F (w := 0) (by omega) g1 q (wz_EM h1')) fun g2 h2 => ⟨_, rfl, wz_l hL (by omega) h1' h2⟩
theorem s128Z {M j : Nat} (hL : pc_lo L) (hM : M = L + 9 ∧ j = 0 ∨ M = L + 12 ∧ j = 1) (ht : wc_tp h0 tp n) (h : wc_Z h0 L tp n g (.inr (s, d))) : am_RV (am_run am_M 128 [.ref 1, .ref M] g) (fun g' => wc_Z h0 L tp n g' (wn_deed tp n j s d)) := by
  have hj : wc_dj M j := by unfold wc_dj; unfold pc_lo at hL; omega
  have hD := hj.do
  have hok := h.2.2.2.2.1.2.2.2.2.2
  have hl : pc_D g M (pw_d d j) ∧ (pw_d d j).length ≤ 700 := by
    rcases hM with ⟨rfl, rfl⟩ | ⟨rfl, rfl⟩
    · exact ⟨h.2.2.2.1.2.2.2.2.2.1, hok.1.1⟩
    · exact ⟨h.2.2.2.1.2.2.2.2.2.2.1, hok.2.1⟩
  have hxn := wl_x_le (tp := tp) h.2.1.1
  rw [e128, pc_dch hD, s77 hD (by omega) hl.1.1, am_bI_ok]
  unfold wn_deed
  by_cases c : pw_d d j = []
  · have c0 : (pw_d d j).length = 0 := by rw [c]; rfl
    rw [if_pos c0, if_pos (show nI 0 = 0 from rfl), if_pos c, e128_12]
    refine pz_VV (s110Z hL ht h) fun g1 h1 => ?_
    have h1' : wc_Z h0 L tp n g1 (.inr (wl_x tp n s, d)) := h1
    have hE : wc_E g1 M tp n g1 (.inr (wl_x tp n s, [])) := by
      refine ⟨am_kp.refl _ _, h1'.2.1, h1'.2.2.1, ?_⟩
      rw [← c]
      rcases hM with ⟨rfl, rfl⟩ | ⟨rfl, rfl⟩
      · exact h1'.2.2.2.1.2.2.2.2.2.1
      · exact h1'.2.2.2.1.2.2.2.2.2.2.1
    refine pz_VV (s129C hj (h1'.ty hL ht) 6 0 rfl g1 _ [] hE (Nat.zero_le _)) fun g2 h2 => ⟨_, rfl, ?_⟩
    cases hr : wp_ex tp n j 6 (wl_x tp n s) [] with
    | inl e =>
      rw [hr] at h2
      obtain ⟨f, p⟩ := e
      exact wz_l hL (by omega) h1' h2
    | inr p =>
      obtain ⟨s1, l⟩ := p
      rw [hr] at h2
      exact wz_d hL hM h1' (wn_ex_ok ht.1 hxn hr).2.2.2.1 h2
  · have c0 : (pw_d d j).length ≠ 0 := fun e => c (List.eq_nil_of_length_eq_zero e)
    rw [if_neg c0, if_neg (show ¬ nI 1 = 0 by decide), if_neg c]
    exact pz_VV (s109Z (f := 5) hL h (by omega)) fun g1 h1 => s128_12F hL hM ht h1
/-! a line -/
theorem s122Z (hL : pc_lo L) (hR : am_R h0 1 2 = some L) (ht : wc_tp h0 tp n) (h : wc_Z h0 L tp n g (.inr (s, d))) : am_RV (am_run am_M 122 [.ref 1] g) (fun g' => wc_Z h0 L tp n g' (wn_line tp n s d)) := by
  have e' : am_run am_M 116 [.ref 1, .ref 1004] g = _ := s116 (k := 4) (ws := wl_LN) (by omega) wl_str4 (by decide) (by decide) (h.ty hL ht) h.2.1
  have hle := wl_ix_le wl_LN (wl_w tp n s)
  have h13 : wl_LN.length = 13 := rfl
  unfold wn_line
  rw [e122, e', am_bI_ok]
  unfold wl_cx
  rw [h13] at hle ⊢
  have fin : ∀ (g1 : am_H) (r : wn_Q), wc_Z h0 L tp n g1 r → am_RV (am_bV [] (am_run am_M 118 [(.ref 1), (.int (nI 59))] g1) fun g4 => some (.inl none, g4)) (fun g' => wc_Z h0 L tp n g' (wn_bd r (wn_end tp n))) := fun g1 r h1 => pz_VV (s118Z hL ht h1) fun g2 h2 => ⟨_, rfl, h2⟩
  generalize wl_ix wl_LN (wl_w tp n s) = x at hle ⊢
  unfold wn_body
  by_cases c13 : x < 13
  · rw [if_pos c13, if_neg (pz_neg1 (by omega))]
    by_cases c0 : x = 0
    · rw [if_pos (show nI x = 0 by rw [c0]; rfl), if_pos c0]
      exact pz_VV (s123Z hL hR ht h) fun g1 h1 => fin g1 _ h1
    · rw [if_neg (nI_ne0 (by omega) (by omega)), if_neg c0]
      by_cases c4 : x ≤ 4
      · rw [if_neg (nI_nlt c4 (by omega)), if_pos c4, pk_sub (by omega)]
        exact pz_VV (s124Z (k := x - 1) (by omega) hL hR ht h) fun g1 h1 => fin g1 _ h1
      · rw [if_pos (nI_lt (by omega) (by omega)), if_neg c4]
        by_cases c5 : x = 5
        · rw [if_pos (show nI x = nI 5 by rw [c5]), if_pos c5]
          exact pz_VV (s125Z hL hR ht h) fun g1 h1 => fin g1 _ h1
        · rw [if_neg (fun e => c5 ((nI_eq (by omega) (by omega)).mp e)), if_neg c5]
          by_cases c9 : x ≤ 9
          · rw [if_neg (nI_nlt c9 (by omega)), if_pos c9, pk_sub (by omega)]
            exact pz_VV (s126Z (k := x - 6) (by omega) hL hR ht h) fun g1 h1 => fin g1 _ h1
          · rw [if_pos (nI_lt (by omega) (by omega)), if_neg c9]
            by_cases c10 : x = 10
            · rw [if_pos (show nI x = nI 10 by rw [c10]), if_pos c10]
              exact pz_VV (s127Z hL hR ht h) fun g1 h1 => fin g1 _ h1
            · rw [if_neg (fun e => c10 ((nI_eq (by omega) (by omega)).mp e)), if_neg c10]
              by_cases c11 : x = 11
              · rw [if_pos (show nI x = nI 11 by rw [c11]), if_pos c11, h.R hR, am_gr_n, pc_lch hL, pc_lg8 hL]
                exact pz_VV (s128Z hL (Or.inl ⟨rfl, rfl⟩) ht h) fun g1 h1 => fin g1 _ h1
              · rw [if_neg (fun e => c11 ((nI_eq (by omega) (by omega)).mp e)), if_neg c11, if_pos (by omega), h.R hR, am_gr_n, pc_lch hL, pc_lg9 hL]
                exact pz_VV (s128Z hL (Or.inr ⟨rfl, rfl⟩) ht h) fun g1 h1 => fin g1 _ h1
  · rw [if_neg c13, if_pos rfl, if_neg (by omega), if_neg (by omega), if_neg (by omega), if_neg (by omega), if_neg (by omega), if_neg (by omega), if_neg (by omega)]
    exact pz_VV (s109Z (f := 1) hL h (by omega)) fun g1 h1 => fin g1 _ h1
/-! the whole text -/
def wc_R (L : Nat) (g : am_H) (u : Int32) : wn_Q → Prop
  | .inl (f, p) => u = nI f ∧ am_I g 1 3 = nI p
  | .inr (_, d) => u = nI 0 ∧ am_I g 1 3 = (-1 : Int32) ∧ pc_L g L d ∧ ∀ i, i < 49 → am_I g (L + 16) i = nI (wn_S d i)
def wf_R (L i k : Nat) : Bool := decide (i = 1 ∧ (k = 1 ∨ k = 3 ∨ k = 4 ∨ k = 5 ∨ k = 6 ∨ k = 7 ∨ k = 8) ∨ L ≤ i ∧ i ≤ L + 16)
theorem wf_R_t {i k : Nat} (h : i = 1 ∧ (k = 1 ∨ k = 3 ∨ k = 4 ∨ k = 5 ∨ k = 6 ∨ k = 7 ∨ k = 8) ∨ L ≤ i ∧ i ≤ L + 16) : wf_R L i k = true := decide_eq_true h
theorem wf_R_f {i k : Nat} (h : ¬ (i = 1 ∧ (k = 1 ∨ k = 3 ∨ k = 4 ∨ k = 5 ∨ k = 6 ∨ k = 7 ∨ k = 8) ∨ L ≤ i ∧ i ≤ L + 16)) : wf_R L i k = false := decide_eq_false h
theorem wf_RL {i k : Nat} (h : wf_R L i k = false) : wf_L L i k = false := wf_L_f (fun c => by have := of_decide_eq_false h; omega)
theorem wf_R7 {i k : Nat} (h : wf_R L i k = false) : wf_7 L i k = false := wf_7_f (fun c => by have := of_decide_eq_false h; omega)
def wc_fin (r : wn_Q) (h0 : am_H) (L : Nat) (g : am_H) (u : Int32) : Prop := am_kp (wf_R L) h0 g ∧ am_I g 1 1 = am_I h0 1 1 ∧ match r with
  | .inl (f, p) => u = nI f ∧ am_I g 1 3 = nI p
  | .inr (_, d) => u = nI 0 ∧ am_I g 1 3 = am_I h0 1 3 ∧ pc_L g L d ∧ ∀ i, i < 49 → am_I g (L + 16) i = nI (wn_S d i)
theorem s108_end {r : wn_Q} (hL : pc_lo L) (hR : am_R h0 1 2 = some L) (h : wc_Z h0 L tp n g r) : am_RI (am_gr none (am_R g 1 2) fun q9 => am_ch 100 q9 2 (am_bV [] (am_run am_M 88 [(.ref q9)] g) fun g10 => some (.inl (some (.int (am_I g10 1 4))), g10))) (fun u g' => wc_fin r h0 L g' u) := by
  have hl := hL
  unfold pc_lo at hl
  rw [h.R hR, am_gr_n, pc_lch hL]
  have up : ∀ g', am_kp (wf_7 L) g g' → am_kp (wf_R L) h0 g' := fun g' k => (h.kp.up fun i k => wf_RL).trans (k.up fun i k => wf_R7)
  have e1 : ∀ g' k, am_kp (wf_7 L) g g' → am_I g' 1 k = am_I g 1 k := fun g' k kk => kk.get 1 k (wf_7_f (by omega))
  match r, h with
  | .inl (f, p), h =>
    obtain ⟨kp, _, h4, hf, h3, d, d1, d2, d3⟩ := h
    exact pz_VI (s88 hL d1 d2 d3) fun g1 h1 => ⟨_, _, rfl, up g1 h1.1, (e1 g1 1 h1.1).trans (kp.get 1 1 (wf_L_f (by omega))), (e1 g1 4 h1.1).trans h4, (e1 g1 3 h1.1).trans h3⟩
  | .inr (s, d), h =>
    obtain ⟨kp, _, h4, ⟨c1, c2, c3, c4, c5, c6, c7, c8⟩, hok⟩ := h
    refine pz_VI (s88 hL hok.1 (c1 1 (by omega)) c5) fun g1 h1 => ⟨_, _, rfl, up g1 h1.1, (e1 g1 1 h1.1).trans (kp.get 1 1 (wf_H_f (by omega))), (e1 g1 4 h1.1).trans h4, (e1 g1 3 h1.1).trans (kp.get 1 3 (wf_H_f (by omega))), ?_, fun i hi => ?_⟩
    · obtain ⟨k, w⟩ := h1
      have e : ∀ i k', i ≠ L + 7 → am_I g1 i k' = am_I g i k' := fun i k' hi => k.get i k' (wf_7_f hi)
      refine ⟨fun i hi => ?_, fun i hi => ?_, fun i hi => ?_, fun i hi => ?_, fun i hi => ?_, w, c6.fr (e _ _ (by omega)) (fun i => e _ _ (by omega)), c7.fr (e _ _ (by omega)) (fun i => e _ _ (by omega))⟩
      · rw [e _ _ (by omega)]; exact c1 i hi
      · rw [e _ _ (by omega), e _ _ (by omega)]; exact c2 i hi
      · rw [e _ _ (by omega), e _ _ (by omega)]; exact c3 i hi
      · rw [e _ _ (by omega)]; exact c4 i hi
      · rw [e _ _ (by omega)]; exact c5 i hi
    · rw [h1.1.get _ _ (wf_7_f (by omega))]; exact c8 i hi
theorem s108_38 (hL : pc_lo L) (hR : am_R h0 1 2 = some L) (ht : wc_tp h0 tp n) : ∀ (f v s : Nat) (d : pw_L) (g : am_H), v + f = 700 → wc_Z h0 L tp n g (.inr (s, d)) → am_RI (am_vn am_M 74 108 38 [some (.ref 1), none, some (.int (nI v))] [] g) (fun u g' => wc_fin (wn_lines tp n f s d) h0 L g' u) := by
  intro f
  induction f with
  | zero =>
    intro v s d g hv h
    rw [e108_38, if_pos (nI_le (show 700 ≤ v by omega) (by omega))]
    exact s108_end hL hR h
  | succ f ih =>
    intro v s d g hv h
    have hkl := wl_k_le (tp := tp) (n := n) (s := s)
    rw [e108_38, if_neg (nI_ge (show v < 700 by omega) (by omega)), h.2.1.2.2.1, wn_lines]
    by_cases c : wl_k tp n s = 0
    · rw [if_pos (show nI (wl_k tp n s) = 0 by rw [c]; rfl), if_pos c]
      exact s108_end hL hR h
    · rw [if_neg (nI_ne0 (by omega) (by omega)), if_neg c, if_pos h.z0]
      refine pz_VI (s122Z hL hR ht h) fun g1 h1 => ?_
      rw [pz_succ]
      cases hr : wn_line tp n s d with
      | inl e =>
        rw [hr] at h1
        rw [e108_38]
        have fin := s108_end hL hR h1
        show am_RI _ (fun u g' => wc_fin (.inl e) h0 L g' u)
        split
        · exact fin
        · split
          · exact fin
          · rw [if_neg h1.f0]; exact fin
      | inr p =>
        obtain ⟨s1, d1⟩ := p
        rw [hr] at h1
        exact ih (v + 1) s1 d1 g1 (by omega) h1
theorem s108 {h : am_H} (hL : pc_lo L) (hR : am_R h 1 2 = some L) (ht : wc_tp h tp n) : am_RI (am_run am_M 108 [.ref 1, .int (nI n)] h) (fun u g => am_kp (wf_R L) h g ∧ am_I g 1 1 = nI 0 ∧ wc_R L g u (wn_all tp n)) := by
  have hl := hL
  unfold pc_lo at hl
  rw [e108]
  dsimp only
  have k0 : am_kp (wf_R L) h (am_sI (am_sI (am_sI (am_sI (am_sI h 1 1 (nI 0)) 1 5 (nI n)) 1 8 (nI 0)) 1 4 (nI 0)) 1 3 (-1 : Int32)) := (((((am_kp.refl _ h).sI _ (wf_R_t (by omega))).sI _ (wf_R_t (by omega))).sI _ (wf_R_t (by omega))).sI _ (wf_R_t (by omega))).sI _ (wf_R_t (by omega))
  have v1 : am_I (am_sI (am_sI (am_sI (am_sI (am_sI h 1 1 (nI 0)) 1 5 (nI n)) 1 8 (nI 0)) 1 4 (nI 0)) 1 3 (-1 : Int32)) 1 1 = nI 0 := by
    rw [am_I_s2 _ _ _ _ (by omega), am_I_s2 _ _ _ _ (by omega), am_I_s2 _ _ _ _ (by omega), am_I_s2 _ _ _ _ (by omega), am_I_s]
  have v5 : am_I (am_sI (am_sI (am_sI (am_sI (am_sI h 1 1 (nI 0)) 1 5 (nI n)) 1 8 (nI 0)) 1 4 (nI 0)) 1 3 (-1 : Int32)) 1 5 = nI n := by
    rw [am_I_s2 _ _ _ _ (by omega), am_I_s2 _ _ _ _ (by omega), am_I_s2 _ _ _ _ (by omega), am_I_s]
  have v8 : am_I (am_sI (am_sI (am_sI (am_sI (am_sI h 1 1 (nI 0)) 1 5 (nI n)) 1 8 (nI 0)) 1 4 (nI 0)) 1 3 (-1 : Int32)) 1 8 = nI 0 := by
    rw [am_I_s2 _ _ _ _ (by omega), am_I_s2 _ _ _ _ (by omega), am_I_s]
  have v4 : am_I (am_sI (am_sI (am_sI (am_sI (am_sI h 1 1 (nI 0)) 1 5 (nI n)) 1 8 (nI 0)) 1 4 (nI 0)) 1 3 (-1 : Int32)) 1 4 = nI 0 := by
    rw [am_I_s2 _ _ _ _ (by omega), am_I_s]
  have v3 : am_I (am_sI (am_sI (am_sI (am_sI (am_sI h 1 1 (nI 0)) 1 5 (nI n)) 1 8 (nI 0)) 1 4 (nI 0)) 1 3 (-1 : Int32)) 1 3 = (-1 : Int32) := am_I_s _ _ _ _
  generalize am_sI (am_sI (am_sI (am_sI (am_sI h 1 1 (nI 0)) 1 5 (nI n)) 1 8 (nI 0)) 1 4 (nI 0)) 1 3 (-1 : Int32) = h1 at k0 v1 v5 v8 v4 v3 ⊢
  have hR1 : am_R h1 1 2 = some L := by rw [k0.R]; exact hR
  have ht1 : wc_tp h1 tp n := ht.kp k0 (fun k => wf_R_f (by omega))
  rw [hR1, am_gr_n, pc_lch hL]
  refine pz_VI (s82 hL) fun g2 h2 => ?_
  obtain ⟨k2, e2, l2⟩ := h2
  have ht2 : wc_tp g2 tp n := ht1.kp k2 (fun k => wf_H_f (by omega))
  refine pz_VI (s110 (b := 0) ht2 (Nat.zero_le _) ((e2 _).trans v5) ((e2 _).trans v8)) fun g3 h3 => ?_
  obtain ⟨k3, x3⟩ := h3
  have e : ∀ i k, i ≠ 1 → am_I g3 i k = am_I g2 i k := fun i k hi => k3.get i k (wf_x_f (by omega))
  obtain ⟨c1, c2, c3, c4, c5, c6, c7, c8⟩ := l2
  have hz : wc_Z h1 L tp n g3 (.inr (wl_e wl_bl tp n 0, wn_0)) := by
    refine ⟨k2.trans (k3.up fun i k hi => wf_x_f (fun c => by have := of_decide_eq_false hi; omega)), x3, ?_, ⟨fun i hi => ?_, fun a ha => absurd ha (Nat.not_lt_zero a), fun a ha => absurd ha (Nat.not_lt_zero a), fun a ha => absurd ha (Nat.not_lt_zero a), fun j hj => ?_, c6.fr (e _ _ (by omega)) (fun i => e _ _ (by omega)), c7.fr (e _ _ (by omega)) (fun i => e _ _ (by omega)), fun i hi => ?_⟩, wn_0_ok⟩
    · rw [k3.get 1 4 (wf_x_f (by omega)), e2, v4]
    · rw [e _ _ (by omega)]; exact c1 i hi
    · rw [e _ _ (by omega)]; exact c5 j hj
    · rw [e _ _ (by omega)]; exact c8 i hi
  refine (s108_38 hL hR1 ht1 700 0 _ _ g3 rfl hz).mono fun u g4 h4 => ?_
  obtain ⟨a1, a2, a3⟩ := h4
  refine ⟨k0.trans a1, a2.trans v1, ?_⟩
  unfold wn_all
  match wn_lines tp n 700 (wl_e wl_bl tp n 0) wn_0, a3 with
  | .inl (f, p), a3 => exact a3
  | .inr (s, d), a3 => exact ⟨a3.1, a3.2.1.trans v3, a3.2.2.1, a3.2.2.2⟩
end
