section
/-! THE LAW: further cases -/
section
variable {h : am_H} {L v : Nat} {w : pw_W}
theorem law_1805 (hv : v + 5 < L) (hL : L ≤ 3072) (hs : lx_S L w h) : lx_R L v h (am_vn am_M 77 299 1805 [some (.ref 2000), some (.ref 0), some (.ref 60), some (.ref 99), some (.int (nI v)), none, none] [] h) := by
  have hl := hs.2.2.2
  obtain ⟨x, g, g', w', h1, hl2, h2, h3, h7, h8⟩ := law_0 (call_lasts hs.1) hs
  have h1' : am_run am_M 24 [.ref 0] h = some (.inl (some (.int x)), g) := h1
  have h3' : am_run am_M 266 [.ref 60] g = some (.inl (some (.int x)), g') := h3
  rw [e299_1805, h1', am_bI_ok, h3', am_bI_ok, if_pos rfl]
  exact ⟨g', w', rfl, h7, h8⟩
theorem law_1818 (hv : v + 5 < L) (hL : L ≤ 3072) (hs : lx_S L w h) : lx_R L v h (am_vn am_M 77 299 1818 [some (.ref 2000), some (.ref 0), some (.ref 60), some (.ref 99), some (.int (nI v)), none, none] [] h) := by
  have hl := hs.2.2.2
  rw [e299_1818, law_il hl (k := 1) (by omega) hL, e319]
  obtain ⟨e, x, y, g, g', w', h0, h1, hl2, h2, h3, h4, h5, h6, h7, h8⟩ := law_w Int32.toInt64 (call_fairest hs.1 (am_I h 2000 (v + 1))) (by omega) lx_h2 (fun _ _ => rfl) hs
  have h3' : am_run am_M 268 [.ref 60, .int (am_I h 2000 (v + 1))] g = some (.inl (some (.int y)), g') := h3
  refine Eq.mpr (congrArg (lx_R L v h) (congrArg (fun o => am_bI [] o _) h1)) ?_
  rw [am_bI_ok, law_il hl2 (k := 1) (by omega) hL, h2, h3', am_bI_ok, e178, am_bI_ok, h5, if_pos rfl]
  by_cases c0 : e = 0
  · rw [if_pos (show nI e = 0 by rw [c0]; rfl), law_ll, h6 c0, h4 c0, if_pos (law_cmp _)]; exact ⟨g', w', rfl, h7, h8⟩
  · rw [if_neg (nI_ne0 (by omega) (by omega))]; exact ⟨g', w', rfl, h7, h8⟩
theorem law_1874 (hv : v + 5 < L) (hL : L ≤ 3072) (hs : lx_S L w h) : lx_R L v h (am_vn am_M 77 299 1874 [some (.ref 2000), some (.ref 0), some (.ref 60), some (.ref 99), some (.int (nI v)), none, none] [] h) := by
  have hl := hs.2.2.2
  rw [e299_1874, law_il hl (k := 1) (by omega) hL, e320]
  obtain ⟨e, x, y, g, g', w', h0, h1, hl2, h2, h3, h4, h5, h6, h7, h8⟩ := law_w Int32.toInt64 (call_needed hs.1 (am_I h 2000 (v + 1))) (by omega) lx_h2 (fun _ _ => rfl) hs
  have h3' : am_run am_M 270 [.ref 60, .int (am_I h 2000 (v + 1))] g = some (.inl (some (.int y)), g') := h3
  refine Eq.mpr (congrArg (lx_R L v h) (congrArg (fun o => am_bI [] o _) h1)) ?_
  rw [am_bI_ok, law_il hl2 (k := 1) (by omega) hL, h2, h3', am_bI_ok, e178, am_bI_ok, h5, if_pos rfl]
  by_cases c0 : e = 0
  · rw [if_pos (show nI e = 0 by rw [c0]; rfl), law_ll, h6 c0, h4 c0, if_pos (law_cmp _)]; exact ⟨g', w', rfl, h7, h8⟩
  · rw [if_neg (nI_ne0 (by omega) (by omega))]; exact ⟨g', w', rfl, h7, h8⟩
theorem law_1930 (hv : v + 5 < L) (hL : L ≤ 3072) (hs : lx_S L w h) : lx_R L v h (am_vn am_M 77 299 1930 [some (.ref 2000), some (.ref 0), some (.ref 60), some (.ref 99), some (.int (nI v)), none, none] [] h) := by
  have hl := hs.2.2.2
  rw [e299_1930, law_il hl (k := 1) (by omega) hL, law_il hl (k := 2) (by omega) hL, e321]
  obtain ⟨e, x, y, g, g', w', h0, h1, hl2, h2, h3, h4, h5, h6, h7, h8⟩ := law_w Int32.toInt64 (call_wood hs.1 (am_I h 2000 (v + 1)) (am_I h 2000 (v + 2))) (by omega) lx_h3 (fun _ _ => rfl) hs
  have h3' : am_run am_M 271 [.ref 60, .int (am_I h 2000 (v + 1)), .int (am_I h 2000 (v + 2))] g = some (.inl (some (.int y)), g') := h3
  refine Eq.mpr (congrArg (lx_R L v h) (congrArg (fun o => am_bI [] o _) h1)) ?_
  rw [am_bI_ok, law_il hl2 (k := 1) (by omega) hL, law_il hl2 (k := 2) (by omega) hL, h2, h3', am_bI_ok, e178, am_bI_ok, h5, if_pos rfl]
  by_cases c0 : e = 0
  · rw [if_pos (show nI e = 0 by rw [c0]; rfl), law_ll, h6 c0, h4 c0, if_pos (law_cmp _)]; exact ⟨g', w', rfl, h7, h8⟩
  · rw [if_neg (nI_ne0 (by omega) (by omega))]; exact ⟨g', w', rfl, h7, h8⟩
theorem law_1998 (hv : v + 5 < L) (hL : L ≤ 3072) (hs : lx_S L w h) : lx_R L v h (am_vn am_M 77 299 1998 [some (.ref 2000), some (.ref 0), some (.ref 60), some (.ref 99), some (.int (nI v)), none, none] [] h) := by
  have hl := hs.2.2.2
  rw [e299_1998, law_il hl (k := 1) (by omega) hL, law_il hl (k := 2) (by omega) hL, e322]
  obtain ⟨e, x, y, g, g', w', h0, h1, hl2, h2, h3, h4, h5, h6, h7, h8⟩ := law_w Int32.toInt64 (call_edge hs.1 (am_I h 2000 (v + 1)) (am_I h 2000 (v + 2))) (by omega) lx_h3 (fun _ _ => rfl) hs
  have h3' : am_run am_M 261 [.ref 60, .int (am_I h 2000 (v + 1)), .int (am_I h 2000 (v + 2))] g = some (.inl (some (.int y)), g') := h3
  refine Eq.mpr (congrArg (lx_R L v h) (congrArg (fun o => am_bI [] o _) h1)) ?_
  rw [am_bI_ok, law_il hl2 (k := 1) (by omega) hL, law_il hl2 (k := 2) (by omega) hL, h2, h3', am_bI_ok, e178, am_bI_ok, h5, if_pos rfl]
  by_cases c0 : e = 0
  · rw [if_pos (show nI e = 0 by rw [c0]; rfl), law_ll, h6 c0, h4 c0, if_pos (law_cmp _)]; exact ⟨g', w', rfl, h7, h8⟩
  · rw [if_neg (nI_ne0 (by omega) (by omega))]; exact ⟨g', w', rfl, h7, h8⟩
theorem law_2066 (hv : v + 5 < L) (hL : L ≤ 3072) (hs : lx_S L w h) : lx_R L v h (am_vn am_M 77 299 2066 [some (.ref 2000), some (.ref 0), some (.ref 60), some (.ref 99), some (.int (nI v)), none, none] [] h) := by
  have hl := hs.2.2.2
  rw [e299_2066, law_il hl (k := 1) (by omega) hL, law_il hl (k := 2) (by omega) hL, e323]
  obtain ⟨e, x, y, g, g', w', h0, h1, hl2, h2, h3, h4, h5, h6, h7, h8⟩ := law_w Int32.toInt64 (call_track hs.1 (am_I h 2000 (v + 1)) (am_I h 2000 (v + 2))) (by omega) lx_h1 (fun _ _ => rfl) hs
  have h3' : am_run am_M 283 [.ref 60, .int (am_I h 2000 (v + 1)), .int (am_I h 2000 (v + 2))] g = some (.inl (some (.int y)), g') := h3
  refine Eq.mpr (congrArg (lx_R L v h) (congrArg (fun o => am_bI [] o _) h1)) ?_
  rw [am_bI_ok, law_il hl2 (k := 1) (by omega) hL, law_il hl2 (k := 2) (by omega) hL, h2, h3', am_bI_ok, e178, am_bI_ok, h5, if_pos rfl]
  by_cases c0 : e = 0
  · rw [if_pos (show nI e = 0 by rw [c0]; rfl), law_ll, h6 c0, h4 c0, if_pos (law_cmp _)]; exact ⟨g', w', rfl, h7, h8⟩
  · rw [if_neg (nI_ne0 (by omega) (by omega))]; exact ⟨g', w', rfl, h7, h8⟩
theorem law_2134 (hv : v + 5 < L) (hL : L ≤ 3072) (hs : lx_S L w h) : lx_R L v h (am_vn am_M 77 299 2134 [some (.ref 2000), some (.ref 0), some (.ref 60), some (.ref 99), some (.int (nI v)), none, none] [] h) := by
  have hl := hs.2.2.2
  obtain ⟨g, g', w', h1, h3, h7, h8⟩ := law_V (call_forget hs.1) hs
  have h1' : am_run am_M 30 [.ref 0] h = some (.inl none, g) := h1
  have h3' : am_run am_M 284 [.ref 60] g = some (.inl none, g') := h3
  rw [e299_2134, h1', am_bV_ok, h3', am_bV_ok]
  exact ⟨g', w', rfl, h7, h8⟩
theorem law_2145 (hv : v + 5 < L) (hL : L ≤ 3072) (hs : lx_S L w h) : lx_R L v h (am_vn am_M 77 299 2145 [some (.ref 2000), some (.ref 0), some (.ref 60), some (.ref 99), some (.int (nI v)), none, none] [] h) := by
  have hl := hs.2.2.2
  obtain ⟨x, g, g', w', h1, hl2, h2, h3, h7, h8⟩ := law_0 (call_suspects hs.1) hs
  have h1' : am_run am_M 31 [.ref 0] h = some (.inl (some (.int x)), g) := h1
  have h3' : am_run am_M 288 [.ref 60] g = some (.inl (some (.int x)), g') := h3
  rw [e299_2145, h1', am_bI_ok, h3', am_bI_ok, if_pos rfl]
  exact ⟨g', w', rfl, h7, h8⟩
theorem law_2158 (hv : v + 5 < L) (hL : L ≤ 3072) (hs : lx_S L w h) : lx_R L v h (am_vn am_M 77 299 2158 [some (.ref 2000), some (.ref 0), some (.ref 60), some (.ref 99), some (.int (nI v)), none, none] [] h) := by
  have hl := hs.2.2.2
  rw [e299_2158, law_il hl (k := 1) (by omega) hL, e324]
  obtain ⟨e, x, y, g, g', w', h0, h1, hl2, h2, h3, h4, h5, h6, h7, h8⟩ := law_w Int32.toInt64 (call_alibi hs.1 (am_I h 2000 (v + 1))) (by omega) lx_h1 (fun _ _ => rfl) hs
  have h3' : am_run am_M 289 [.ref 60, .int (am_I h 2000 (v + 1))] g = some (.inl (some (.int y)), g') := h3
  refine Eq.mpr (congrArg (lx_R L v h) (congrArg (fun o => am_bI [] o _) h1)) ?_
  rw [am_bI_ok, law_il hl2 (k := 1) (by omega) hL, h2, h3', am_bI_ok, e178, am_bI_ok, h5, if_pos rfl]
  by_cases c0 : e = 0
  · rw [if_pos (show nI e = 0 by rw [c0]; rfl), law_ll, h6 c0, h4 c0, if_pos (law_cmp _)]; exact ⟨g', w', rfl, h7, h8⟩
  · rw [if_neg (nI_ne0 (by omega) (by omega))]; exact ⟨g', w', rfl, h7, h8⟩
theorem law_2214 (hv : v + 5 < L) (hL : L ≤ 3072) (hs : lx_S L w h) : lx_R L v h (am_vn am_M 77 299 2214 [some (.ref 2000), some (.ref 0), some (.ref 60), some (.ref 99), some (.int (nI v)), none, none] [] h) := by
  have hl := hs.2.2.2
  rw [e299_2214, law_il hl (k := 1) (by omega) hL, e325]
  obtain ⟨e, x, y, g, g', w', h0, h1, hl2, h2, h3, h4, h5, h6, h7, h8⟩ := law_w Int32.toInt64 (call_look hs.1 (am_I h 2000 (v + 1))) (by omega) lx_h2 (fun _ _ => rfl) hs
  have h3' : am_run am_M 290 [.ref 60, .int (am_I h 2000 (v + 1))] g = some (.inl (some (.int y)), g') := h3
  refine Eq.mpr (congrArg (lx_R L v h) (congrArg (fun o => am_bI [] o _) h1)) ?_
  rw [am_bI_ok, law_il hl2 (k := 1) (by omega) hL, h2, h3', am_bI_ok, e178, am_bI_ok, h5, if_pos rfl]
  by_cases c0 : e = 0
  · rw [if_pos (show nI e = 0 by rw [c0]; rfl), law_ll, h6 c0, h4 c0, if_pos (law_cmp _)]; exact ⟨g', w', rfl, h7, h8⟩
  · rw [if_neg (nI_ne0 (by omega) (by omega))]; exact ⟨g', w', rfl, h7, h8⟩
theorem law_2270 (hv : v + 5 < L) (hL : L ≤ 3072) (hs : lx_S L w h) : lx_R L v h (am_vn am_M 77 299 2270 [some (.ref 2000), some (.ref 0), some (.ref 60), some (.ref 99), some (.int (nI v)), none, none] [] h) := by
  have hl := hs.2.2.2
  rw [e299_2270, law_il hl (k := 1) (by omega) hL, law_il hl (k := 2) (by omega) hL, law_il hl (k := 3) (by omega) hL, law_il hl (k := 4) (by omega) hL, e326]
  obtain ⟨e, x, y, g, g', w', h0, h1, hl2, h2, h3, h4, h5, h6, h7, h8⟩ := law_w Int32.toInt64 (call_bargain hs.1 (am_I h 2000 (v + 1)) (am_I h 2000 (v + 2)) (am_I h 2000 (v + 3)) (am_I h 2000 (v + 4))) (by omega) lx_h3 (fun _ _ => rfl) hs
  have h3' : am_run am_M 293 [.ref 60, .int (am_I h 2000 (v + 1)), .int (am_I h 2000 (v + 2)), .int (am_I h 2000 (v + 3)), .int (am_I h 2000 (v + 4))] g = some (.inl (some (.int y)), g') := h3
  refine Eq.mpr (congrArg (lx_R L v h) (congrArg (fun o => am_bI [] o _) h1)) ?_
  rw [am_bI_ok, law_il hl2 (k := 1) (by omega) hL, law_il hl2 (k := 2) (by omega) hL, law_il hl2 (k := 3) (by omega) hL, law_il hl2 (k := 4) (by omega) hL, h2, h3', am_bI_ok, e178, am_bI_ok, h5, if_pos rfl]
  by_cases c0 : e = 0
  · rw [if_pos (show nI e = 0 by rw [c0]; rfl), law_ll, h6 c0, h4 c0, if_pos (law_cmp _)]; exact ⟨g', w', rfl, h7, h8⟩
  · rw [if_neg (nI_ne0 (by omega) (by omega))]; exact ⟨g', w', rfl, h7, h8⟩
theorem law_2362 (hv : v + 5 < L) (hL : L ≤ 3072) (hs : lx_S L w h) : lx_R L v h (am_vn am_M 77 299 2362 [some (.ref 2000), some (.ref 0), some (.ref 60), some (.ref 99), some (.int (nI v)), none, none] [] h) := by
  have hl := hs.2.2.2
  rw [e299_2362, law_il hl (k := 1) (by omega) hL, law_il hl (k := 2) (by omega) hL, law_il hl (k := 3) (by omega) hL, law_il hl (k := 4) (by omega) hL, e327]
  obtain ⟨e, x, y, g, g', w', h0, h1, hl2, h2, h3, h4, h5, h6, h7, h8⟩ := law_w Int32.toInt64 (call_frosts hs.1 (am_I h 2000 (v + 1)) (am_I h 2000 (v + 2)) (am_I h 2000 (v + 3)) (am_I h 2000 (v + 4))) (by omega) lx_h3 (fun _ _ => rfl) hs
  have h3' : am_run am_M 294 [.ref 60, .int (am_I h 2000 (v + 1)), .int (am_I h 2000 (v + 2)), .int (am_I h 2000 (v + 3)), .int (am_I h 2000 (v + 4))] g = some (.inl (some (.int y)), g') := h3
  refine Eq.mpr (congrArg (lx_R L v h) (congrArg (fun o => am_bI [] o _) h1)) ?_
  rw [am_bI_ok, law_il hl2 (k := 1) (by omega) hL, law_il hl2 (k := 2) (by omega) hL, law_il hl2 (k := 3) (by omega) hL, law_il hl2 (k := 4) (by omega) hL, h2, h3', am_bI_ok, e178, am_bI_ok, h5, if_pos rfl]
  by_cases c0 : e = 0
  · rw [if_pos (show nI e = 0 by rw [c0]; rfl), law_ll, h6 c0, h4 c0, if_pos (law_cmp _)]; exact ⟨g', w', rfl, h7, h8⟩
  · rw [if_neg (nI_ne0 (by omega) (by omega))]; exact ⟨g', w', rfl, h7, h8⟩
theorem law_2454 (hv : v + 5 < L) (hL : L ≤ 3072) (hs : lx_S L w h) : lx_R L v h (am_vn am_M 77 299 2454 [some (.ref 2000), some (.ref 0), some (.ref 60), some (.ref 99), some (.int (nI v)), none, none] [] h) := by
  have hl := hs.2.2.2
  rw [e299_2454, law_il hl (k := 1) (by omega) hL, law_il hl (k := 2) (by omega) hL, law_il hl (k := 3) (by omega) hL, e328]
  obtain ⟨e, x, y, g, g', w', h0, h1, hl2, h2, h3, h4, h5, h6, h7, h8⟩ := law_w Int32.toInt64 (call_winters hs.1 (am_I h 2000 (v + 1)) (am_I h 2000 (v + 2)) (am_I h 2000 (v + 3))) (by omega) lx_h3 (fun _ _ => rfl) hs
  have h3' : am_run am_M 296 [.ref 60, .int (am_I h 2000 (v + 1)), .int (am_I h 2000 (v + 2)), .int (am_I h 2000 (v + 3))] g = some (.inl (some (.int y)), g') := h3
  refine Eq.mpr (congrArg (lx_R L v h) (congrArg (fun o => am_bI [] o _) h1)) ?_
  rw [am_bI_ok, law_il hl2 (k := 1) (by omega) hL, law_il hl2 (k := 2) (by omega) hL, law_il hl2 (k := 3) (by omega) hL, h2, h3', am_bI_ok, e178, am_bI_ok, h5, if_pos rfl]
  by_cases c0 : e = 0
  · rw [if_pos (show nI e = 0 by rw [c0]; rfl), law_ll, h6 c0, h4 c0, if_pos (law_cmp _)]; exact ⟨g', w', rfl, h7, h8⟩
  · rw [if_neg (nI_ne0 (by omega) (by omega))]; exact ⟨g', w', rfl, h7, h8⟩
theorem law_2534 (hv : v + 5 < L) (hL : L ≤ 3072) (hs : lx_S L w h) : lx_R L v h (am_vn am_M 77 299 2534 [some (.ref 2000), some (.ref 0), some (.ref 60), some (.ref 99), some (.int (nI v)), none, none] [] h) := by
  have hl := hs.2.2.2
  rw [e299_2534, law_il hl (k := 1) (by omega) hL, law_il hl (k := 2) (by omega) hL, e329]
  obtain ⟨e, x, y, g, g', w', h0, h1, hl2, h2, h3, h4, h5, h6, h7, h8⟩ := law_w Int32.toInt64 (call_open hs.1 (am_I h 2000 (v + 1)) (am_I h 2000 (v + 2))) (by omega) lx_h1 (fun _ _ => rfl) hs
  have h3' : am_run am_M 273 [.ref 60, .int (am_I h 2000 (v + 1)), .int (am_I h 2000 (v + 2))] g = some (.inl (some (.int y)), g') := h3
  refine Eq.mpr (congrArg (lx_R L v h) (congrArg (fun o => am_bI [] o _) h1)) ?_
  rw [am_bI_ok, law_il hl2 (k := 1) (by omega) hL, law_il hl2 (k := 2) (by omega) hL, h2, h3', am_bI_ok, e178, am_bI_ok, h5, if_pos rfl]
  by_cases c0 : e = 0
  · rw [if_pos (show nI e = 0 by rw [c0]; rfl), law_ll, h6 c0, h4 c0, if_pos (law_cmp _)]; exact ⟨g', w', rfl, h7, h8⟩
  · rw [if_neg (nI_ne0 (by omega) (by omega))]; exact ⟨g', w', rfl, h7, h8⟩
theorem law_2602 (hv : v + 5 < L) (hL : L ≤ 3072) (hs : lx_S L w h) : lx_R L v h (am_vn am_M 77 299 2602 [some (.ref 2000), some (.ref 0), some (.ref 60), some (.ref 99), some (.int (nI v)), none, none] [] h) := by
  have hl := hs.2.2.2
  obtain ⟨x, g, g', w', h1, hl2, h2, h3, h7, h8⟩ := law_0 (call_closed hs.1) hs
  have h1' : am_run am_M 38 [.ref 0] h = some (.inl (some (.int x)), g) := h1
  have h3' : am_run am_M 274 [.ref 60] g = some (.inl (some (.int x)), g') := h3
  rw [e299_2602, h1', am_bI_ok, h3', am_bI_ok, if_pos rfl]
  exact ⟨g', w', rfl, h7, h8⟩
theorem law_2615 (hv : v + 5 < L) (hL : L ≤ 3072) (hs : lx_S L w h) : lx_R L v h (am_vn am_M 77 299 2615 [some (.ref 2000), some (.ref 0), some (.ref 60), some (.ref 99), some (.int (nI v)), none, none] [] h) := by
  have hl := hs.2.2.2
  rw [e299_2615, law_il hl (k := 1) (by omega) hL, law_il hl (k := 2) (by omega) hL, law_il hl (k := 3) (by omega) hL, e330]
  obtain ⟨e, x, y, g, g', w', h0, h1, hl2, h2, h3, h4, h5, h6, h7, h8⟩ := law_w Int32.toInt64 (call_breach hs.1 (am_I h 2000 (v + 1)) (am_I h 2000 (v + 2)) (am_I h 2000 (v + 3))) (by omega) lx_h3 (fun _ _ => rfl) hs
  have h3' : am_run am_M 275 [.ref 60, .int (am_I h 2000 (v + 1)), .int (am_I h 2000 (v + 2)), .int (am_I h 2000 (v + 3))] g = some (.inl (some (.int y)), g') := h3
  refine Eq.mpr (congrArg (lx_R L v h) (congrArg (fun o => am_bI [] o _) h1)) ?_
  rw [am_bI_ok, law_il hl2 (k := 1) (by omega) hL, law_il hl2 (k := 2) (by omega) hL, law_il hl2 (k := 3) (by omega) hL, h2, h3', am_bI_ok, e178, am_bI_ok, h5, if_pos rfl]
  by_cases c0 : e = 0
  · rw [if_pos (show nI e = 0 by rw [c0]; rfl), law_ll, h6 c0, h4 c0, if_pos (law_cmp _)]; exact ⟨g', w', rfl, h7, h8⟩
  · rw [if_neg (nI_ne0 (by omega) (by omega))]; exact ⟨g', w', rfl, h7, h8⟩
theorem law_2695 (hv : v + 5 < L) (hL : L ≤ 3072) (hs : lx_S L w h) : lx_R L v h (am_vn am_M 77 299 2695 [some (.ref 2000), some (.ref 0), some (.ref 60), some (.ref 99), some (.int (nI v)), none, none] [] h) := by
  have hl := hs.2.2.2
  rw [e299_2695, law_il hl (k := 1) (by omega) hL, e331]
  obtain ⟨e, x, y, g, g', w', h0, h1, hl2, h2, h3, h4, h5, h6, h7, h8⟩ := law_w Int32.toInt64 (call_firstCold hs.1 (am_I h 2000 (v + 1))) (by omega) lx_h1 (fun _ _ => rfl) hs
  have h3' : am_run am_M 278 [.ref 60, .int (am_I h 2000 (v + 1))] g = some (.inl (some (.int y)), g') := h3
  refine Eq.mpr (congrArg (lx_R L v h) (congrArg (fun o => am_bI [] o _) h1)) ?_
  rw [am_bI_ok, law_il hl2 (k := 1) (by omega) hL, h2, h3', am_bI_ok, e178, am_bI_ok, h5, if_pos rfl]
  by_cases c0 : e = 0
  · rw [if_pos (show nI e = 0 by rw [c0]; rfl), law_ll, h6 c0, h4 c0, if_pos (law_cmp _)]; exact ⟨g', w', rfl, h7, h8⟩
  · rw [if_neg (nI_ne0 (by omega) (by omega))]; exact ⟨g', w', rfl, h7, h8⟩
theorem law_2751 (hv : v + 5 < L) (hL : L ≤ 3072) (hs : lx_S L w h) : lx_R L v h (am_vn am_M 77 299 2751 [some (.ref 2000), some (.ref 0), some (.ref 60), some (.ref 99), some (.int (nI v)), none, none] [] h) := by
  have hl := hs.2.2.2
  rw [e299_2751, law_il hl (k := 1) (by omega) hL, e332]
  obtain ⟨e, x, y, g, g', w', h0, h1, hl2, h2, h3, h4, h5, h6, h7, h8⟩ := law_w Int32.toInt64 (call_firstThin hs.1 (am_I h 2000 (v + 1))) (by omega) lx_h1 (fun _ _ => rfl) hs
  have h3' : am_run am_M 279 [.ref 60, .int (am_I h 2000 (v + 1))] g = some (.inl (some (.int y)), g') := h3
  refine Eq.mpr (congrArg (lx_R L v h) (congrArg (fun o => am_bI [] o _) h1)) ?_
  rw [am_bI_ok, law_il hl2 (k := 1) (by omega) hL, h2, h3', am_bI_ok, e178, am_bI_ok, h5, if_pos rfl]
  by_cases c0 : e = 0
  · rw [if_pos (show nI e = 0 by rw [c0]; rfl), law_ll, h6 c0, h4 c0, if_pos (law_cmp _)]; exact ⟨g', w', rfl, h7, h8⟩
  · rw [if_neg (nI_ne0 (by omega) (by omega))]; exact ⟨g', w', rfl, h7, h8⟩
theorem law_2807 (hv : v + 5 < L) (hL : L ≤ 3072) (hs : lx_S L w h) : lx_R L v h (am_vn am_M 77 299 2807 [some (.ref 2000), some (.ref 0), some (.ref 60), some (.ref 99), some (.int (nI v)), none, none] [] h) := by
  have hl := hs.2.2.2
  rw [e299_2807, law_il hl (k := 1) (by omega) hL, e333]
  obtain ⟨e, x, y, g, g', w', h0, h1, hl2, h2, h3, h4, h5, h6, h7, h8⟩ := law_w Int32.toInt64 (call_paid hs.1 (am_I h 2000 (v + 1))) (by omega) lx_h2 (fun _ _ => rfl) hs
  have h3' : am_run am_M 280 [.ref 60, .int (am_I h 2000 (v + 1))] g = some (.inl (some (.int y)), g') := h3
  refine Eq.mpr (congrArg (lx_R L v h) (congrArg (fun o => am_bI [] o _) h1)) ?_
  rw [am_bI_ok, law_il hl2 (k := 1) (by omega) hL, h2, h3', am_bI_ok, e178, am_bI_ok, h5, if_pos rfl]
  by_cases c0 : e = 0
  · rw [if_pos (show nI e = 0 by rw [c0]; rfl), law_ll, h6 c0, h4 c0, if_pos (law_cmp _)]; exact ⟨g', w', rfl, h7, h8⟩
  · rw [if_neg (nI_ne0 (by omega) (by omega))]; exact ⟨g', w', rfl, h7, h8⟩
theorem law_2863 (hv : v + 5 < L) (hL : L ≤ 3072) (hs : lx_S L w h) : lx_R L v h (am_vn am_M 77 299 2863 [some (.ref 2000), some (.ref 0), some (.ref 60), some (.ref 99), some (.int (nI v)), none, none] [] h) := by
  have hl := hs.2.2.2
  obtain ⟨x, g, g', w', h1, hl2, h2, h3, h7, h8⟩ := law_0 (call_debtor hs.1) hs
  have h1' : am_run am_M 43 [.ref 0] h = some (.inl (some (.int x)), g) := h1
  have h3' : am_run am_M 281 [.ref 60] g = some (.inl (some (.int x)), g') := h3
  rw [e299_2863, h1', am_bI_ok, h3', am_bI_ok, if_pos rfl]
  exact ⟨g', w', rfl, h7, h8⟩
theorem law_2876 (hv : v + 5 < L) (hL : L ≤ 3072) (hs : lx_S L w h) : lx_R L v h (am_vn am_M 77 299 2876 [some (.ref 2000), some (.ref 0), some (.ref 60), some (.ref 99), some (.int (nI v)), none, none] [] h) := by
  have hl := hs.2.2.2
  rw [e299_2876, law_il hl (k := 1) (by omega) hL, e334]
  obtain ⟨e, x, y, g, g', w', h0, h1, hl2, h2, h3, h4, h5, h6, h7, h8⟩ := law_w Int32.toInt64 (call_neighbour hs.1 (am_I h 2000 (v + 1))) (by omega) lx_h1 (fun _ _ => rfl) hs
  have h3' : am_run am_M 282 [.ref 60, .int (am_I h 2000 (v + 1))] g = some (.inl (some (.int y)), g') := h3
  refine Eq.mpr (congrArg (lx_R L v h) (congrArg (fun o => am_bI [] o _) h1)) ?_
  rw [am_bI_ok, law_il hl2 (k := 1) (by omega) hL, h2, h3', am_bI_ok, e178, am_bI_ok, h5, if_pos rfl]
  by_cases c0 : e = 0
  · rw [if_pos (show nI e = 0 by rw [c0]; rfl), law_ll, h6 c0, h4 c0, if_pos (law_cmp _)]; exact ⟨g', w', rfl, h7, h8⟩
  · rw [if_neg (nI_ne0 (by omega) (by omega))]; exact ⟨g', w', rfl, h7, h8⟩
theorem law_2932 (hv : v + 5 < L) (hL : L ≤ 3072) (hs : lx_S L w h) : lx_R L v h (am_vn am_M 77 299 2932 [some (.ref 2000), some (.ref 0), some (.ref 60), some (.ref 99), some (.int (nI v)), none, none] [] h) := by
  have hl := hs.2.2.2
  obtain ⟨g, g', w', h1, h3, h7, h8⟩ := law_V (call_image hs.1) hs
  have h1' : am_run am_M 45 [.ref 0] h = some (.inl none, g) := h1
  have h3' : am_run am_M 297 [.ref 60] g = some (.inl none, g') := h3
  rw [e299_2932, h1', am_bV_ok, h3', am_bV_ok]
  exact ⟨g', w', rfl, h7, h8⟩
theorem law_2943 (hv : v + 5 < L) (hL : L ≤ 3072) (hs : lx_S L w h) : lx_R L v h (am_vn am_M 77 299 2943 [some (.ref 2000), some (.ref 0), some (.ref 60), some (.ref 99), some (.int (nI v)), none, none] [] h) := by
  have hl := hs.2.2.2
  obtain ⟨x, g, g', w', h1, hl2, h2, h3, h7, h8⟩ := law_0 (call_restore hs.1) hs
  have h1' : am_run am_M 46 [.ref 0] h = some (.inl (some (.int x)), g) := h1
  have h3' : am_run am_M 298 [.ref 60] g = some (.inl (some (.int x)), g') := h3
  rw [e299_2943, h1', am_bI_ok, h3', am_bI_ok, if_pos rfl]
  exact ⟨g', w', rfl, h7, h8⟩
end
end
