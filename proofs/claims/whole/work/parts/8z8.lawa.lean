section
/-! THE LAW -/
def lx_S (L : Nat) (w : pw_W) (h : am_H) : Prop := pw_wf w ∧ pI_c h w ∧ pI_m h w ∧ am_I h 2001 0 = nI L
def lx_f (h g : am_H) : Prop := g.2.1 ≤ h.2.1 + 1 ∧ g.2.2.1 ≤ h.2.2.1 + 6
def lx_R (L v : Nat) (h : am_H) (o : Option am_Q) : Prop := ∃ g w, o = am_vn am_M 77 299 2956 [some (.ref 2000), some (.ref 0), some (.ref 60), some (.ref 99), some (.int (nI v)), none, none] [] g ∧ lx_S L w g ∧ lx_f h g
section
variable {h : am_H} {L v : Nat} {w : pw_W}
theorem law_il {g : am_H} (hl : am_I g 2001 0 = nI L) {k : Nat} (hv : v + k < L) (hL : L ≤ 3072) (f : Int32 → Option am_Q) : am_il 100 2000 (nI v + nI k) g f = f (am_I g 2000 (v + k)) := by
  rw [nI_add]
  show (if nI (v + k) < 0 ∨ am_I g 2001 0 ≤ nI (v + k) then none else f (am_I g 2000 (nI (v + k)).toNatClampNeg)) = _
  rw [hl, if_neg (fun c => c.elim (nI_pos (by omega)) (nI_ge hv (by omega))), nI_clamp (by omega)]
theorem law_il0 {g : am_H} (hl : am_I g 2001 0 = nI L) (hv : v < L) (hL : L ≤ 3072) (f : Int32 → Option am_Q) : am_il 100 2000 (nI v) g f = f (am_I g 2000 v) := by
  show (if nI v < 0 ∨ am_I g 2001 0 ≤ nI v then none else f (am_I g 2000 (nI v).toNatClampNeg)) = _
  rw [hl, if_neg (fun c => c.elim (nI_pos (by omega)) (nI_ge hv (by omega))), nI_clamp (by omega)]
theorem law_ls (x : Int64) (g : am_H) (f : am_H → Option am_Q) : am_ls 100 99 (nI 0) x g f = f (am_sJ g 99 0 x) := rfl
theorem law_ll (g : am_H) (f : Int64 → Option am_Q) : am_ll 100 99 (nI 0) g f = f (am_J g 99 0) := rfl
theorem law_cmp (x : Int64) : lg_cmp x x = 0 := (lg_cmp_eq x x).mpr rfl
theorem pI_m.J2 {h : am_H} {w : pw_W} (a : pI_m h w) (i k : Nat) (v : Int64) : pI_m (am_sJ h i k v) w := a.J i k v
/-- a call that throws nothing -/
theorem law_0 {q : Nat → Nat} {C M : am_H → Option am_Q} (hA : am_AG 0 q w C M) (hs : lx_S L w h) : ∃ x g g' w', C h = some (.inl (some (.int x)), g) ∧ am_I g 2001 0 = nI L ∧ am_I g 2000 = am_I h 2000 ∧ M g = some (.inl (some (.int x)), g') ∧ lx_S L w' g' ∧ lx_f h g' := by
  obtain ⟨s1, s2, s3, s4⟩ := hs
  obtain ⟨e, x, w', a1, ⟨a2, -⟩, a4, a5⟩ := hA
  have e0 : e = 0 := by omega
  subst e0
  have c := a4 h s2
  unfold am_CO at c
  rw [if_pos rfl] at c
  obtain ⟨g, c1, c2, c3⟩ := c
  obtain ⟨u, g', b1, b2, b3, b4, b5⟩ := a5 g (s3.fc c3)
  have f1 := c3.2.2.2.2
  have f2 := b5.2.2.2.2.2
  refine ⟨x, g, g', w', c1, by rw [f1 2001 (by omega)]; exact s4, f1 2000 (by omega), by rw [b1, b2 rfl], ⟨a1, c2.fm b5, b4, ?_⟩, ?_, ?_⟩
  · rw [f2 2001 (by omega), f1 2001 (by omega)]; exact s4
  · rw [b5.2.1, c3.2.1]; omega
  · rw [b5.2.2.1, c3.2.2.1]; omega
/-- a call that answers nothing -/
theorem law_V {C M : am_H → Option am_Q} (hA : am_AV w C M) (hs : lx_S L w h) : ∃ g g' w', C h = some (.inl none, g) ∧ M g = some (.inl none, g') ∧ lx_S L w' g' ∧ lx_f h g' := by
  obtain ⟨s1, s2, s3, s4⟩ := hs
  obtain ⟨w', a1, a4, a5⟩ := hA
  obtain ⟨g, c1, c2, c3⟩ := a4 h s2
  obtain ⟨g', b1, b3, b4, b5⟩ := a5 g (s3.fc c3)
  have f1 := c3.2.2.2.2
  have f2 := b5.2.2.2.2.2
  refine ⟨g, g', w', c1, b1, ⟨a1, c2.fm b5, b4, ?_⟩, ?_, ?_⟩
  · rw [f2 2001 (by omega), f1 2001 (by omega)]; exact s4
  · rw [b5.2.1, c3.2.1]; omega
  · rw [b5.2.2.1, c3.2.2.1]; omega
/-- a call that may throw, caught -/
theorem law_w {m : Nat} {q : Nat → Nat} {C M : am_H → Option am_Q} {hd : List (Nat × Int32)} {W : Int32 → am_H → Option am_Q} (T : Int32 → Int64) (hA : am_AG m q w C M) (hm : m ≤ 2) (hhd : ∀ (e : Nat) (g : am_H), 1 ≤ e → e ≤ m → am_th (q e) g hd = some (.inl (some (.int (nI e))), g)) (hW : ∀ x g, W x g = some (.inl (some (.int (nI 0))), am_sJ g 99 0 (T x))) (hs : lx_S L w h) : ∃ e x y g g' w', e ≤ 2 ∧ am_bI hd (C h) W = some (.inl (some (.int (nI e))), g) ∧ am_I g 2001 0 = nI L ∧ am_I g 2000 = am_I h 2000 ∧ M g = some (.inl (some (.int y)), g') ∧ (e = 0 → y = x) ∧ am_I g' 60 0 = nI e ∧ (e = 0 → am_J g' 99 0 = T x) ∧ lx_S L w' g' ∧ lx_f h g' := by
  obtain ⟨s1, s2, s3, s4⟩ := hs
  obtain ⟨e, x, w', a1, ⟨a2, a3⟩, a4, a5⟩ := hA
  have c := a4 h s2
  unfold am_CO at c
  by_cases e0 : e = 0
  · subst e0
    rw [if_pos rfl] at c
    obtain ⟨g, c1, c2, c3⟩ := c
    have m0 : pI_m (am_sJ g 99 0 (T x)) w := (s3.fc c3).J _ _ _
    obtain ⟨u, g', b1, b2, b3, b4, b5⟩ := a5 _ m0
    have f1 := c3.2.2.2.2
    have f2 := b5.2.2.2.2.2
    refine ⟨0, x, u, am_sJ g 99 0 (T x), g', w', by omega, by rw [c1, am_bI_ok, hW], ?_, f1 2000 (by omega), b1, b2, b3, fun _ => ?_, ⟨a1, (c2.J 99 0 (T x)).fm b5, b4, ?_⟩, ?_, ?_⟩
    · show am_I g 2001 0 = _
      rw [f1 2001 (by omega)]; exact s4
    · rw [b5.2.2.2.2.1 99 (by omega)]; exact am_J_sJ _ _ _ _
    · rw [f2 2001 (by omega)]
      show am_I g 2001 0 = _
      rw [f1 2001 (by omega)]; exact s4
    · rw [b5.2.1]
      show g.2.1 ≤ _
      rw [c3.2.1]; omega
    · rw [b5.2.2.1]
      show g.2.2.1 ≤ _
      rw [c3.2.2.1]; omega
  · rw [if_neg e0] at c
    rw [a3 e0] at a5
    obtain ⟨u, g', b1, b2, b3, b4, b5⟩ := a5 _ (pI_m.ex s3)
    have f2 := b5.2.2.2.2.2
    refine ⟨e, x, u, am_ex h, g', w, by omega, by rw [c]; exact hhd e _ (by omega) a2, s4, rfl, b1, fun c0 => absurd c0 e0, b3, fun c0 => absurd c0 e0, ⟨s1, (pI_c.ex s2).fm b5, b4, ?_⟩, ?_, ?_⟩
    · rw [f2 2001 (by omega)]; exact s4
    · rw [b5.2.1]; exact Nat.le_refl _
    · rw [b5.2.2.1]; exact Nat.le_refl _
def lx_b (x : Int32) : Int64 := if x = 0 then Int64.ofNat 0 else Int64.ofNat 1
theorem lx_h1 (e : Nat) (g : am_H) (h1 : 1 ≤ e) (h2 : e ≤ 1) : am_th ((fun e => e) e) g [(1, 1)] = some (.inl (some (.int (nI e))), g) := by
  have : e = 1 := by omega
  subst this
  rfl
theorem lx_h2 (e : Nat) (g : am_H) (h1 : 1 ≤ e) (h2 : e ≤ 1) : am_th ((fun _ => 2) e) g [(2, 1)] = some (.inl (some (.int (nI e))), g) := by
  have : e = 1 := by omega
  subst this
  rfl
theorem lx_h3 (e : Nat) (g : am_H) (h1 : 1 ≤ e) (h2 : e ≤ 2) : am_th ((fun e => e) e) g [(1, 1), (2, 2)] = some (.inl (some (.int (nI e))), g) := by
  have : e = 1 ∨ e = 2 := by omega
  rcases this with rfl | rfl
  · rfl
  · rfl
theorem lx_Wb (x : Int32) (g : am_H) : (if x = 0 then am_ls 100 99 (nI 0) (Int64.ofNat 0) g fun g3 => some (.inl (some (.int (nI 0))), g3) else am_ls 100 99 (nI 0) (Int64.ofNat 1) g fun g4 => some (.inl (some (.int (nI 0))), g4)) = (some (.inl (some (.int (nI 0))), am_sJ g 99 0 (lx_b x)) : Option am_Q) := by
  unfold lx_b
  by_cases c : x = 0
  · rw [if_pos c, if_pos c]; rfl
  · rw [if_neg c, if_neg c]; rfl
theorem law_240 (hv : v + 5 < L) (hL : L ≤ 3072) (hs : lx_S L w h) : lx_R L v h (am_vn am_M 77 299 240 [some (.ref 2000), some (.ref 0), some (.ref 60), some (.ref 99), some (.int (nI v)), none, none] [] h) := by
  have hl := hs.2.2.2
  obtain ⟨x, g, g', w', h1, hl2, h2, h3, h7, h8⟩ := law_0 (call_feed hs.1 (am_I h 2000 (v + 1)) (am_I h 2000 (v + 2)) (am_I h 2000 (v + 3)) (am_I h 2000 (v + 4)) (am_I h 2000 (v + 5))) hs
  have h1' : am_run am_M 1 [.ref 0, .int (am_I h 2000 (v + 1)), .int (am_I h 2000 (v + 2)), .int (am_I h 2000 (v + 3)), .int (am_I h 2000 (v + 4)), .int (am_I h 2000 (v + 5))] h = some (.inl (some (.int x)), g) := h1
  have h3' : am_run am_M 185 [.ref 60, .int (am_I h 2000 (v + 1)), .int (am_I h 2000 (v + 2)), .int (am_I h 2000 (v + 3)), .int (am_I h 2000 (v + 4)), .int (am_I h 2000 (v + 5))] g = some (.inl (some (.int x)), g') := h3
  rw [e299_240, law_il hl (k := 1) (by omega) hL, law_il hl (k := 2) (by omega) hL, law_il hl (k := 3) (by omega) hL, law_il hl (k := 4) (by omega) hL, law_il hl (k := 5) (by omega) hL, h1', am_bI_ok, law_il hl2 (k := 1) (by omega) hL, law_il hl2 (k := 2) (by omega) hL, law_il hl2 (k := 3) (by omega) hL, law_il hl2 (k := 4) (by omega) hL, law_il hl2 (k := 5) (by omega) hL, h2, h3', am_bI_ok, if_pos rfl]
  exact ⟨g', w', rfl, h7, h8⟩
theorem law_313 (hv : v + 5 < L) (hL : L ≤ 3072) (hs : lx_S L w h) : lx_R L v h (am_vn am_M 77 299 313 [some (.ref 2000), some (.ref 0), some (.ref 60), some (.ref 99), some (.int (nI v)), none, none] [] h) := by
  have hl := hs.2.2.2
  rw [e299_313, law_il hl (k := 1) (by omega) hL, e300]
  obtain ⟨e, x, y, g, g', w', h0, h1, hl2, h2, h3, h4, h5, h6, h7, h8⟩ := law_w Int32.toInt64 (call_winter hs.1 (am_I h 2000 (v + 1))) (by omega) lx_h2 (fun _ _ => rfl) hs
  have h3' : am_run am_M 219 [.ref 60, .int (am_I h 2000 (v + 1))] g = some (.inl (some (.int y)), g') := h3
  refine Eq.mpr (congrArg (lx_R L v h) (congrArg (fun o => am_bI [] o _) h1)) ?_
  rw [am_bI_ok, law_il hl2 (k := 1) (by omega) hL, h2, h3', am_bI_ok, e178, am_bI_ok, h5, if_pos rfl]
  by_cases c0 : e = 0
  · rw [if_pos (show nI e = 0 by rw [c0]; rfl), law_ll, h6 c0, h4 c0, if_pos (law_cmp _)]; exact ⟨g', w', rfl, h7, h8⟩
  · rw [if_neg (nI_ne0 (by omega) (by omega))]; exact ⟨g', w', rfl, h7, h8⟩
theorem law_369 (hv : v + 5 < L) (hL : L ≤ 3072) (hs : lx_S L w h) : lx_R L v h (am_vn am_M 77 299 369 [some (.ref 2000), some (.ref 0), some (.ref 60), some (.ref 99), some (.int (nI v)), none, none] [] h) := by
  have hl := hs.2.2.2
  obtain ⟨x, g, g', w', h1, hl2, h2, h3, h7, h8⟩ := law_0 (call_fault hs.1) hs
  have h1' : am_run am_M 3 [.ref 0] h = some (.inl (some (.int x)), g) := h1
  have h3' : am_run am_M 220 [.ref 60] g = some (.inl (some (.int x)), g') := h3
  rw [e299_369, h1', am_bI_ok, h3', am_bI_ok, if_pos rfl]
  exact ⟨g', w', rfl, h7, h8⟩
theorem law_382 (hv : v + 5 < L) (hL : L ≤ 3072) (hs : lx_S L w h) : lx_R L v h (am_vn am_M 77 299 382 [some (.ref 2000), some (.ref 0), some (.ref 60), some (.ref 99), some (.int (nI v)), none, none] [] h) := by
  have hl := hs.2.2.2
  rw [e299_382, law_il hl (k := 1) (by omega) hL, e301]
  obtain ⟨e, x, y, g, g', w', h0, h1, hl2, h2, h3, h4, h5, h6, h7, h8⟩ := law_w Int32.toInt64 (call_count hs.1 (am_I h 2000 (v + 1))) (by omega) lx_h1 (fun _ _ => rfl) hs
  have h3' : am_run am_M 233 [.ref 60, .int (am_I h 2000 (v + 1))] g = some (.inl (some (.int y)), g') := h3
  refine Eq.mpr (congrArg (lx_R L v h) (congrArg (fun o => am_bI [] o _) h1)) ?_
  rw [am_bI_ok, law_il hl2 (k := 1) (by omega) hL, h2, h3', am_bI_ok, e178, am_bI_ok, h5, if_pos rfl]
  by_cases c0 : e = 0
  · rw [if_pos (show nI e = 0 by rw [c0]; rfl), law_ll, h6 c0, h4 c0, if_pos (law_cmp _)]; exact ⟨g', w', rfl, h7, h8⟩
  · rw [if_neg (nI_ne0 (by omega) (by omega))]; exact ⟨g', w', rfl, h7, h8⟩
theorem law_438 (hv : v + 5 < L) (hL : L ≤ 3072) (hs : lx_S L w h) : lx_R L v h (am_vn am_M 77 299 438 [some (.ref 2000), some (.ref 0), some (.ref 60), some (.ref 99), some (.int (nI v)), none, none] [] h) := by
  have hl := hs.2.2.2
  rw [e299_438, law_il hl (k := 1) (by omega) hL, law_il hl (k := 2) (by omega) hL, e302]
  obtain ⟨e, x, y, g, g', w', h0, h1, hl2, h2, h3, h4, h5, h6, h7, h8⟩ := law_w Int32.toInt64 (call_pack hs.1 (am_I h 2000 (v + 1)) (am_I h 2000 (v + 2))) (by omega) lx_h1 (fun _ _ => rfl) hs
  have h3' : am_run am_M 238 [.ref 60, .int (am_I h 2000 (v + 1)), .int (am_I h 2000 (v + 2))] g = some (.inl (some (.int y)), g') := h3
  refine Eq.mpr (congrArg (lx_R L v h) (congrArg (fun o => am_bI [] o _) h1)) ?_
  rw [am_bI_ok, law_il hl2 (k := 1) (by omega) hL, law_il hl2 (k := 2) (by omega) hL, h2, h3', am_bI_ok, e178, am_bI_ok, h5, if_pos rfl]
  by_cases c0 : e = 0
  · rw [if_pos (show nI e = 0 by rw [c0]; rfl), law_ll, h6 c0, h4 c0, if_pos (law_cmp _)]; exact ⟨g', w', rfl, h7, h8⟩
  · rw [if_neg (nI_ne0 (by omega) (by omega))]; exact ⟨g', w', rfl, h7, h8⟩
theorem law_506 (hv : v + 5 < L) (hL : L ≤ 3072) (hs : lx_S L w h) : lx_R L v h (am_vn am_M 77 299 506 [some (.ref 2000), some (.ref 0), some (.ref 60), some (.ref 99), some (.int (nI v)), none, none] [] h) := by
  have hl := hs.2.2.2
  rw [e299_506, law_il hl (k := 1) (by omega) hL, law_il hl (k := 2) (by omega) hL, e303]
  obtain ⟨e, x, y, g, g', w', h0, h1, hl2, h2, h3, h4, h5, h6, h7, h8⟩ := law_w Int32.toInt64 (call_place hs.1 (am_I h 2000 (v + 1)) (am_I h 2000 (v + 2))) (by omega) lx_h1 (fun _ _ => rfl) hs
  have h3' : am_run am_M 239 [.ref 60, .int (am_I h 2000 (v + 1)), .int (am_I h 2000 (v + 2))] g = some (.inl (some (.int y)), g') := h3
  refine Eq.mpr (congrArg (lx_R L v h) (congrArg (fun o => am_bI [] o _) h1)) ?_
  rw [am_bI_ok, law_il hl2 (k := 1) (by omega) hL, law_il hl2 (k := 2) (by omega) hL, h2, h3', am_bI_ok, e178, am_bI_ok, h5, if_pos rfl]
  by_cases c0 : e = 0
  · rw [if_pos (show nI e = 0 by rw [c0]; rfl), law_ll, h6 c0, h4 c0, if_pos (law_cmp _)]; exact ⟨g', w', rfl, h7, h8⟩
  · rw [if_neg (nI_ne0 (by omega) (by omega))]; exact ⟨g', w', rfl, h7, h8⟩
theorem law_574 (hv : v + 5 < L) (hL : L ≤ 3072) (hs : lx_S L w h) : lx_R L v h (am_vn am_M 77 299 574 [some (.ref 2000), some (.ref 0), some (.ref 60), some (.ref 99), some (.int (nI v)), none, none] [] h) := by
  have hl := hs.2.2.2
  rw [e299_574, law_il hl (k := 1) (by omega) hL, law_il hl (k := 2) (by omega) hL, e304]
  obtain ⟨e, x, y, g, g', w', h0, h1, hl2, h2, h3, h4, h5, h6, h7, h8⟩ := law_w Int32.toInt64 (call_person hs.1 (am_I h 2000 (v + 1)) (am_I h 2000 (v + 2))) (by omega) lx_h1 (fun _ _ => rfl) hs
  have h3' : am_run am_M 240 [.ref 60, .int (am_I h 2000 (v + 1)), .int (am_I h 2000 (v + 2))] g = some (.inl (some (.int y)), g') := h3
  refine Eq.mpr (congrArg (lx_R L v h) (congrArg (fun o => am_bI [] o _) h1)) ?_
  rw [am_bI_ok, law_il hl2 (k := 1) (by omega) hL, law_il hl2 (k := 2) (by omega) hL, h2, h3', am_bI_ok, e178, am_bI_ok, h5, if_pos rfl]
  by_cases c0 : e = 0
  · rw [if_pos (show nI e = 0 by rw [c0]; rfl), law_ll, h6 c0, h4 c0, if_pos (law_cmp _)]; exact ⟨g', w', rfl, h7, h8⟩
  · rw [if_neg (nI_ne0 (by omega) (by omega))]; exact ⟨g', w', rfl, h7, h8⟩
theorem law_642 (hv : v + 5 < L) (hL : L ≤ 3072) (hs : lx_S L w h) : lx_R L v h (am_vn am_M 77 299 642 [some (.ref 2000), some (.ref 0), some (.ref 60), some (.ref 99), some (.int (nI v)), none, none] [] h) := by
  have hl := hs.2.2.2
  rw [e299_642, law_il hl (k := 1) (by omega) hL, law_il hl (k := 2) (by omega) hL, e305]
  obtain ⟨e, x, y, g, g', w', h0, h1, hl2, h2, h3, h4, h5, h6, h7, h8⟩ := law_w Int32.toInt64 (call_far hs.1 (am_I h 2000 (v + 1)) (am_I h 2000 (v + 2))) (by omega) lx_h1 (fun _ _ => rfl) hs
  have h3' : am_run am_M 241 [.ref 60, .int (am_I h 2000 (v + 1)), .int (am_I h 2000 (v + 2))] g = some (.inl (some (.int y)), g') := h3
  refine Eq.mpr (congrArg (lx_R L v h) (congrArg (fun o => am_bI [] o _) h1)) ?_
  rw [am_bI_ok, law_il hl2 (k := 1) (by omega) hL, law_il hl2 (k := 2) (by omega) hL, h2, h3', am_bI_ok, e178, am_bI_ok, h5, if_pos rfl]
  by_cases c0 : e = 0
  · rw [if_pos (show nI e = 0 by rw [c0]; rfl), law_ll, h6 c0, h4 c0, if_pos (law_cmp _)]; exact ⟨g', w', rfl, h7, h8⟩
  · rw [if_neg (nI_ne0 (by omega) (by omega))]; exact ⟨g', w', rfl, h7, h8⟩
theorem law_710 (hv : v + 5 < L) (hL : L ≤ 3072) (hs : lx_S L w h) : lx_R L v h (am_vn am_M 77 299 710 [some (.ref 2000), some (.ref 0), some (.ref 60), some (.ref 99), some (.int (nI v)), none, none] [] h) := by
  have hl := hs.2.2.2
  rw [e299_710, law_il hl (k := 1) (by omega) hL, law_il hl (k := 2) (by omega) hL, law_il hl (k := 3) (by omega) hL, e306]
  obtain ⟨e, x, y, g, g', w', h0, h1, hl2, h2, h3, h4, h5, h6, h7, h8⟩ := law_w lx_b (call_right hs.1 (am_I h 2000 (v + 1)) (am_I h 2000 (v + 2)) (am_I h 2000 (v + 3))) (by omega) lx_h1 lx_Wb hs
  have h3' : am_run am_M 243 [.ref 60, .int (am_I h 2000 (v + 1)), .int (am_I h 2000 (v + 2)), .int (am_I h 2000 (v + 3))] g = some (.inl (some (.int y)), g') := h3
  refine Eq.mpr (congrArg (lx_R L v h) (congrArg (fun o => am_bI [] o _) h1)) ?_
  rw [am_bI_ok, law_il hl2 (k := 1) (by omega) hL, law_il hl2 (k := 2) (by omega) hL, law_il hl2 (k := 3) (by omega) hL, h2, h3', am_bI_ok, e178, am_bI_ok, h5, if_pos rfl]
  by_cases c0 : e = 0
  · rw [if_pos (show nI e = 0 by rw [c0]; rfl), law_ll, h6 c0, h4 c0]
    unfold lx_b
    by_cases c1 : x = 0
    · rw [if_pos c1, if_pos c1, e299_788, if_pos (law_cmp _)]; exact ⟨g', w', rfl, h7, h8⟩
    · rw [if_neg c1, if_neg c1, e299_788, if_pos (law_cmp _)]; exact ⟨g', w', rfl, h7, h8⟩
  · rw [if_neg (nI_ne0 (by omega) (by omega))]; exact ⟨g', w', rfl, h7, h8⟩
theorem law_797 (hv : v + 5 < L) (hL : L ≤ 3072) (hs : lx_S L w h) : lx_R L v h (am_vn am_M 77 299 797 [some (.ref 2000), some (.ref 0), some (.ref 60), some (.ref 99), some (.int (nI v)), none, none] [] h) := by
  have hl := hs.2.2.2
  obtain ⟨x, g, g', w', h1, hl2, h2, h3, h7, h8⟩ := law_0 (call_days hs.1 (am_I h 2000 (v + 1))) hs
  have h1' : am_run am_M 10 [.ref 0, .int (am_I h 2000 (v + 1))] h = some (.inl (some (.int x)), g) := h1
  have h3' : am_run am_M 244 [.ref 60, .int (am_I h 2000 (v + 1))] g = some (.inl (some (.int x)), g') := h3
  rw [e299_797, law_il hl (k := 1) (by omega) hL, h1', am_bI_ok, law_il hl2 (k := 1) (by omega) hL, h2, h3', am_bI_ok, if_pos rfl]
  exact ⟨g', w', rfl, h7, h8⟩
theorem law_822 (hv : v + 5 < L) (hL : L ≤ 3072) (hs : lx_S L w h) : lx_R L v h (am_vn am_M 77 299 822 [some (.ref 2000), some (.ref 0), some (.ref 60), some (.ref 99), some (.int (nI v)), none, none] [] h) := by
  have hl := hs.2.2.2
  rw [e299_822, law_il hl (k := 1) (by omega) hL, law_il hl (k := 2) (by omega) hL, law_il hl (k := 3) (by omega) hL, e307]
  obtain ⟨e, x, y, g, g', w', h0, h1, hl2, h2, h3, h4, h5, h6, h7, h8⟩ := law_w Int32.toInt64 (call_pay hs.1 (am_I h 2000 (v + 1)) (am_I h 2000 (v + 2)) (am_I h 2000 (v + 3))) (by omega) lx_h1 (fun _ _ => rfl) hs
  have h3' : am_run am_M 245 [.ref 60, .int (am_I h 2000 (v + 1)), .int (am_I h 2000 (v + 2)), .int (am_I h 2000 (v + 3))] g = some (.inl (some (.int y)), g') := h3
  refine Eq.mpr (congrArg (lx_R L v h) (congrArg (fun o => am_bI [] o _) h1)) ?_
  rw [am_bI_ok, law_il hl2 (k := 1) (by omega) hL, law_il hl2 (k := 2) (by omega) hL, law_il hl2 (k := 3) (by omega) hL, h2, h3', am_bI_ok, e178, am_bI_ok, h5, if_pos rfl]
  by_cases c0 : e = 0
  · rw [if_pos (show nI e = 0 by rw [c0]; rfl), law_ll, h6 c0, h4 c0, if_pos (law_cmp _)]; exact ⟨g', w', rfl, h7, h8⟩
  · rw [if_neg (nI_ne0 (by omega) (by omega))]; exact ⟨g', w', rfl, h7, h8⟩
theorem law_902 (hv : v + 5 < L) (hL : L ≤ 3072) (hs : lx_S L w h) : lx_R L v h (am_vn am_M 77 299 902 [some (.ref 2000), some (.ref 0), some (.ref 60), some (.ref 99), some (.int (nI v)), none, none] [] h) := by
  have hl := hs.2.2.2
  rw [e299_902, law_il hl (k := 1) (by omega) hL, law_il hl (k := 2) (by omega) hL, e308]
  obtain ⟨e, x, y, g, g', w', h0, h1, hl2, h2, h3, h4, h5, h6, h7, h8⟩ := law_w Int32.toInt64 (call_gather hs.1 (am_I h 2000 (v + 1)) (am_I h 2000 (v + 2))) (by omega) lx_h1 (fun _ _ => rfl) hs
  have h3' : am_run am_M 246 [.ref 60, .int (am_I h 2000 (v + 1)), .int (am_I h 2000 (v + 2))] g = some (.inl (some (.int y)), g') := h3
  refine Eq.mpr (congrArg (lx_R L v h) (congrArg (fun o => am_bI [] o _) h1)) ?_
  rw [am_bI_ok, law_il hl2 (k := 1) (by omega) hL, law_il hl2 (k := 2) (by omega) hL, h2, h3', am_bI_ok, e178, am_bI_ok, h5, if_pos rfl]
  by_cases c0 : e = 0
  · rw [if_pos (show nI e = 0 by rw [c0]; rfl), law_ll, h6 c0, h4 c0, if_pos (law_cmp _)]; exact ⟨g', w', rfl, h7, h8⟩
  · rw [if_neg (nI_ne0 (by omega) (by omega))]; exact ⟨g', w', rfl, h7, h8⟩
theorem law_970 (hv : v + 5 < L) (hL : L ≤ 3072) (hs : lx_S L w h) : lx_R L v h (am_vn am_M 77 299 970 [some (.ref 2000), some (.ref 0), some (.ref 60), some (.ref 99), some (.int (nI v)), none, none] [] h) := by
  have hl := hs.2.2.2
  rw [e299_970, law_il hl (k := 1) (by omega) hL, law_il hl (k := 2) (by omega) hL]
  by_cases c : am_I h 2000 (v + 2) = 0
  · rw [if_pos c, e299_991, e309]
    obtain ⟨e, x, y, g, g', w', h0, h1, hl2, h2, h3, h4, h5, h6, h7, h8⟩ := law_w lx_b (call_lamp hs.1 (am_I h 2000 (v + 1)) (nI 0)) (by omega) lx_h1 lx_Wb hs
    have h3' : am_run am_M 248 [.ref 60, .int (am_I h 2000 (v + 1)), .int (nI 0)] g = some (.inl (some (.int y)), g') := h3
    refine Eq.mpr (congrArg (lx_R L v h) (congrArg (fun o => am_bI [] o _) h1)) ?_
    rw [am_bI_ok, law_il hl2 (k := 1) (by omega) hL, law_il hl2 (k := 2) (by omega) hL, h2, if_pos c, e299_1018, h3', am_bI_ok, e178, am_bI_ok, h5, if_pos rfl]
    by_cases c0 : e = 0
    · rw [if_pos (show nI e = 0 by rw [c0]; rfl), law_ll, h6 c0, h4 c0]
      unfold lx_b
      by_cases c1 : x = 0
      · rw [if_pos c1, if_pos c1, e299_1052, if_pos (law_cmp _)]; exact ⟨g', w', rfl, h7, h8⟩
      · rw [if_neg c1, if_neg c1, e299_1052, if_pos (law_cmp _)]; exact ⟨g', w', rfl, h7, h8⟩
    · rw [if_neg (nI_ne0 (by omega) (by omega))]; exact ⟨g', w', rfl, h7, h8⟩
  · rw [if_neg c, e299_991, e309]
    obtain ⟨e, x, y, g, g', w', h0, h1, hl2, h2, h3, h4, h5, h6, h7, h8⟩ := law_w lx_b (call_lamp hs.1 (am_I h 2000 (v + 1)) (nI 1)) (by omega) lx_h1 lx_Wb hs
    have h3' : am_run am_M 248 [.ref 60, .int (am_I h 2000 (v + 1)), .int (nI 1)] g = some (.inl (some (.int y)), g') := h3
    refine Eq.mpr (congrArg (lx_R L v h) (congrArg (fun o => am_bI [] o _) h1)) ?_
    rw [am_bI_ok, law_il hl2 (k := 1) (by omega) hL, law_il hl2 (k := 2) (by omega) hL, h2, if_neg c, e299_1018, h3', am_bI_ok, e178, am_bI_ok, h5, if_pos rfl]
    by_cases c0 : e = 0
    · rw [if_pos (show nI e = 0 by rw [c0]; rfl), law_ll, h6 c0, h4 c0]
      unfold lx_b
      by_cases c1 : x = 0
      · rw [if_pos c1, if_pos c1, e299_1052, if_pos (law_cmp _)]; exact ⟨g', w', rfl, h7, h8⟩
      · rw [if_neg c1, if_neg c1, e299_1052, if_pos (law_cmp _)]; exact ⟨g', w', rfl, h7, h8⟩
    · rw [if_neg (nI_ne0 (by omega) (by omega))]; exact ⟨g', w', rfl, h7, h8⟩
theorem law_1061 (hv : v + 5 < L) (hL : L ≤ 3072) (hs : lx_S L w h) : lx_R L v h (am_vn am_M 77 299 1061 [some (.ref 2000), some (.ref 0), some (.ref 60), some (.ref 99), some (.int (nI v)), none, none] [] h) := by
  have hl := hs.2.2.2
  rw [e299_1061, law_il hl (k := 1) (by omega) hL, law_il hl (k := 2) (by omega) hL, law_il hl (k := 3) (by omega) hL]
  by_cases c : am_I h 2000 (v + 3) = 0
  · rw [if_pos c, e299_1088, e310]
    obtain ⟨e, x, y, g, g', w', h0, h1, hl2, h2, h3, h4, h5, h6, h7, h8⟩ := law_w lx_b (call_favour hs.1 (am_I h 2000 (v + 1)) (am_I h 2000 (v + 2)) (nI 0)) (by omega) lx_h1 lx_Wb hs
    have h3' : am_run am_M 249 [.ref 60, .int (am_I h 2000 (v + 1)), .int (am_I h 2000 (v + 2)), .int (nI 0)] g = some (.inl (some (.int y)), g') := h3
    refine Eq.mpr (congrArg (lx_R L v h) (congrArg (fun o => am_bI [] o _) h1)) ?_
    rw [am_bI_ok, law_il hl2 (k := 1) (by omega) hL, law_il hl2 (k := 2) (by omega) hL, law_il hl2 (k := 3) (by omega) hL, h2, if_pos c, e299_1121, h3', am_bI_ok, e178, am_bI_ok, h5, if_pos rfl]
    by_cases c0 : e = 0
    · rw [if_pos (show nI e = 0 by rw [c0]; rfl), law_ll, h6 c0, h4 c0]
      unfold lx_b
      by_cases c1 : x = 0
      · rw [if_pos c1, if_pos c1, e299_1155, if_pos (law_cmp _)]; exact ⟨g', w', rfl, h7, h8⟩
      · rw [if_neg c1, if_neg c1, e299_1155, if_pos (law_cmp _)]; exact ⟨g', w', rfl, h7, h8⟩
    · rw [if_neg (nI_ne0 (by omega) (by omega))]; exact ⟨g', w', rfl, h7, h8⟩
  · rw [if_neg c, e299_1088, e310]
    obtain ⟨e, x, y, g, g', w', h0, h1, hl2, h2, h3, h4, h5, h6, h7, h8⟩ := law_w lx_b (call_favour hs.1 (am_I h 2000 (v + 1)) (am_I h 2000 (v + 2)) (nI 1)) (by omega) lx_h1 lx_Wb hs
    have h3' : am_run am_M 249 [.ref 60, .int (am_I h 2000 (v + 1)), .int (am_I h 2000 (v + 2)), .int (nI 1)] g = some (.inl (some (.int y)), g') := h3
    refine Eq.mpr (congrArg (lx_R L v h) (congrArg (fun o => am_bI [] o _) h1)) ?_
    rw [am_bI_ok, law_il hl2 (k := 1) (by omega) hL, law_il hl2 (k := 2) (by omega) hL, law_il hl2 (k := 3) (by omega) hL, h2, if_neg c, e299_1121, h3', am_bI_ok, e178, am_bI_ok, h5, if_pos rfl]
    by_cases c0 : e = 0
    · rw [if_pos (show nI e = 0 by rw [c0]; rfl), law_ll, h6 c0, h4 c0]
      unfold lx_b
      by_cases c1 : x = 0
      · rw [if_pos c1, if_pos c1, e299_1155, if_pos (law_cmp _)]; exact ⟨g', w', rfl, h7, h8⟩
      · rw [if_neg c1, if_neg c1, e299_1155, if_pos (law_cmp _)]; exact ⟨g', w', rfl, h7, h8⟩
    · rw [if_neg (nI_ne0 (by omega) (by omega))]; exact ⟨g', w', rfl, h7, h8⟩
theorem law_1164 (hv : v + 5 < L) (hL : L ≤ 3072) (hs : lx_S L w h) : lx_R L v h (am_vn am_M 77 299 1164 [some (.ref 2000), some (.ref 0), some (.ref 60), some (.ref 99), some (.int (nI v)), none, none] [] h) := by
  have hl := hs.2.2.2
  obtain ⟨x, g, g', w', h1, hl2, h2, h3, h7, h8⟩ := law_0 (call_undo hs.1) hs
  have h1' : am_run am_M 15 [.ref 0] h = some (.inl (some (.int x)), g) := h1
  have h3' : am_run am_M 223 [.ref 60] g = some (.inl (some (.int x)), g') := h3
  rw [e299_1164, h1', am_bI_ok, h3', am_bI_ok, if_pos rfl]
  exact ⟨g', w', rfl, h7, h8⟩
theorem law_1177 (hv : v + 5 < L) (hL : L ≤ 3072) (hs : lx_S L w h) : lx_R L v h (am_vn am_M 77 299 1177 [some (.ref 2000), some (.ref 0), some (.ref 60), some (.ref 99), some (.int (nI v)), none, none] [] h) := by
  have hl := hs.2.2.2
  rw [e299_1177, law_il hl (k := 1) (by omega) hL, law_il hl (k := 2) (by omega) hL, law_il hl (k := 3) (by omega) hL, e311]
  obtain ⟨e, x, y, g, g', w', h0, h1, hl2, h2, h3, h4, h5, h6, h7, h8⟩ := law_w Int32.toInt64 (call_way hs.1 (am_I h 2000 (v + 1)) (am_I h 2000 (v + 2)) (am_I h 2000 (v + 3))) (by omega) lx_h3 (fun _ _ => rfl) hs
  have h3' : am_run am_M 254 [.ref 60, .int (am_I h 2000 (v + 1)), .int (am_I h 2000 (v + 2)), .int (am_I h 2000 (v + 3))] g = some (.inl (some (.int y)), g') := h3
  refine Eq.mpr (congrArg (lx_R L v h) (congrArg (fun o => am_bI [] o _) h1)) ?_
  rw [am_bI_ok, law_il hl2 (k := 1) (by omega) hL, law_il hl2 (k := 2) (by omega) hL, law_il hl2 (k := 3) (by omega) hL, h2, h3', am_bI_ok, e178, am_bI_ok, h5, if_pos rfl]
  by_cases c0 : e = 0
  · rw [if_pos (show nI e = 0 by rw [c0]; rfl), law_ll, h6 c0, h4 c0, if_pos (law_cmp _)]; exact ⟨g', w', rfl, h7, h8⟩
  · rw [if_neg (nI_ne0 (by omega) (by omega))]; exact ⟨g', w', rfl, h7, h8⟩
theorem law_1257 (hv : v + 5 < L) (hL : L ≤ 3072) (hs : lx_S L w h) : lx_R L v h (am_vn am_M 77 299 1257 [some (.ref 2000), some (.ref 0), some (.ref 60), some (.ref 99), some (.int (nI v)), none, none] [] h) := by
  have hl := hs.2.2.2
  rw [e299_1257, law_il hl (k := 1) (by omega) hL, law_il hl (k := 2) (by omega) hL, law_il hl (k := 3) (by omega) hL, e312]
  obtain ⟨e, x, y, g, g', w', h0, h1, hl2, h2, h3, h4, h5, h6, h7, h8⟩ := law_w Int32.toInt64 (call_errands hs.1 (am_I h 2000 (v + 1)) (am_I h 2000 (v + 2)) (am_I h 2000 (v + 3))) (by omega) lx_h3 (fun _ _ => rfl) hs
  have h3' : am_run am_M 255 [.ref 60, .int (am_I h 2000 (v + 1)), .int (am_I h 2000 (v + 2)), .int (am_I h 2000 (v + 3))] g = some (.inl (some (.int y)), g') := h3
  refine Eq.mpr (congrArg (lx_R L v h) (congrArg (fun o => am_bI [] o _) h1)) ?_
  rw [am_bI_ok, law_il hl2 (k := 1) (by omega) hL, law_il hl2 (k := 2) (by omega) hL, law_il hl2 (k := 3) (by omega) hL, h2, h3', am_bI_ok, e178, am_bI_ok, h5, if_pos rfl]
  by_cases c0 : e = 0
  · rw [if_pos (show nI e = 0 by rw [c0]; rfl), law_ll, h6 c0, h4 c0, if_pos (law_cmp _)]; exact ⟨g', w', rfl, h7, h8⟩
  · rw [if_neg (nI_ne0 (by omega) (by omega))]; exact ⟨g', w', rfl, h7, h8⟩
theorem law_1337 (hv : v + 5 < L) (hL : L ≤ 3072) (hs : lx_S L w h) : lx_R L v h (am_vn am_M 77 299 1337 [some (.ref 2000), some (.ref 0), some (.ref 60), some (.ref 99), some (.int (nI v)), none, none] [] h) := by
  have hl := hs.2.2.2
  rw [e299_1337, law_il hl (k := 1) (by omega) hL, law_il hl (k := 2) (by omega) hL, law_il hl (k := 3) (by omega) hL, e313]
  obtain ⟨e, x, y, g, g', w', h0, h1, hl2, h2, h3, h4, h5, h6, h7, h8⟩ := law_w Int32.toInt64 (call_reach hs.1 (am_I h 2000 (v + 1)) (am_I h 2000 (v + 2)) (am_I h 2000 (v + 3))) (by omega) lx_h3 (fun _ _ => rfl) hs
  have h3' : am_run am_M 257 [.ref 60, .int (am_I h 2000 (v + 1)), .int (am_I h 2000 (v + 2)), .int (am_I h 2000 (v + 3))] g = some (.inl (some (.int y)), g') := h3
  refine Eq.mpr (congrArg (lx_R L v h) (congrArg (fun o => am_bI [] o _) h1)) ?_
  rw [am_bI_ok, law_il hl2 (k := 1) (by omega) hL, law_il hl2 (k := 2) (by omega) hL, law_il hl2 (k := 3) (by omega) hL, h2, h3', am_bI_ok, e178, am_bI_ok, h5, if_pos rfl]
  by_cases c0 : e = 0
  · rw [if_pos (show nI e = 0 by rw [c0]; rfl), law_ll, h6 c0, h4 c0, if_pos (law_cmp _)]; exact ⟨g', w', rfl, h7, h8⟩
  · rw [if_neg (nI_ne0 (by omega) (by omega))]; exact ⟨g', w', rfl, h7, h8⟩
theorem law_1417 (hv : v + 5 < L) (hL : L ≤ 3072) (hs : lx_S L w h) : lx_R L v h (am_vn am_M 77 299 1417 [some (.ref 2000), some (.ref 0), some (.ref 60), some (.ref 99), some (.int (nI v)), none, none] [] h) := by
  have hl := hs.2.2.2
  rw [e299_1417, law_il hl (k := 1) (by omega) hL, law_il hl (k := 2) (by omega) hL, law_il hl (k := 3) (by omega) hL, law_il hl (k := 4) (by omega) hL, e314]
  obtain ⟨e, x, y, g, g', w', h0, h1, hl2, h2, h3, h4, h5, h6, h7, h8⟩ := law_w Int32.toInt64 (call_meeting hs.1 (am_I h 2000 (v + 1)) (am_I h 2000 (v + 2)) (am_I h 2000 (v + 3)) (am_I h 2000 (v + 4))) (by omega) lx_h3 (fun _ _ => rfl) hs
  have h3' : am_run am_M 258 [.ref 60, .int (am_I h 2000 (v + 1)), .int (am_I h 2000 (v + 2)), .int (am_I h 2000 (v + 3)), .int (am_I h 2000 (v + 4))] g = some (.inl (some (.int y)), g') := h3
  refine Eq.mpr (congrArg (lx_R L v h) (congrArg (fun o => am_bI [] o _) h1)) ?_
  rw [am_bI_ok, law_il hl2 (k := 1) (by omega) hL, law_il hl2 (k := 2) (by omega) hL, law_il hl2 (k := 3) (by omega) hL, law_il hl2 (k := 4) (by omega) hL, h2, h3', am_bI_ok, e178, am_bI_ok, h5, if_pos rfl]
  by_cases c0 : e = 0
  · rw [if_pos (show nI e = 0 by rw [c0]; rfl), law_ll, h6 c0, h4 c0, if_pos (law_cmp _)]; exact ⟨g', w', rfl, h7, h8⟩
  · rw [if_neg (nI_ne0 (by omega) (by omega))]; exact ⟨g', w', rfl, h7, h8⟩
theorem law_1509 (hv : v + 5 < L) (hL : L ≤ 3072) (hs : lx_S L w h) : lx_R L v h (am_vn am_M 77 299 1509 [some (.ref 2000), some (.ref 0), some (.ref 60), some (.ref 99), some (.int (nI v)), none, none] [] h) := by
  have hl := hs.2.2.2
  rw [e299_1509, law_il hl (k := 1) (by omega) hL, law_il hl (k := 2) (by omega) hL, law_il hl (k := 3) (by omega) hL, e315]
  obtain ⟨e, x, y, g, g', w', h0, h1, hl2, h2, h3, h4, h5, h6, h7, h8⟩ := law_w Int32.toInt64 (call_asked hs.1 (am_I h 2000 (v + 1)) (am_I h 2000 (v + 2)) (am_I h 2000 (v + 3))) (by omega) lx_h1 (fun _ _ => rfl) hs
  have h3' : am_run am_M 259 [.ref 60, .int (am_I h 2000 (v + 1)), .int (am_I h 2000 (v + 2)), .int (am_I h 2000 (v + 3))] g = some (.inl (some (.int y)), g') := h3
  refine Eq.mpr (congrArg (lx_R L v h) (congrArg (fun o => am_bI [] o _) h1)) ?_
  rw [am_bI_ok, law_il hl2 (k := 1) (by omega) hL, law_il hl2 (k := 2) (by omega) hL, law_il hl2 (k := 3) (by omega) hL, h2, h3', am_bI_ok, e178, am_bI_ok, h5, if_pos rfl]
  by_cases c0 : e = 0
  · rw [if_pos (show nI e = 0 by rw [c0]; rfl), law_ll, h6 c0, h4 c0, if_pos (law_cmp _)]; exact ⟨g', w', rfl, h7, h8⟩
  · rw [if_neg (nI_ne0 (by omega) (by omega))]; exact ⟨g', w', rfl, h7, h8⟩
theorem law_1589 (hv : v + 5 < L) (hL : L ≤ 3072) (hs : lx_S L w h) : lx_R L v h (am_vn am_M 77 299 1589 [some (.ref 2000), some (.ref 0), some (.ref 60), some (.ref 99), some (.int (nI v)), none, none] [] h) := by
  have hl := hs.2.2.2
  rw [e299_1589, law_il hl (k := 1) (by omega) hL, e316]
  obtain ⟨e, x, y, g, g', w', h0, h1, hl2, h2, h3, h4, h5, h6, h7, h8⟩ := law_w Int32.toInt64 (call_lodged hs.1 (am_I h 2000 (v + 1))) (by omega) lx_h1 (fun _ _ => rfl) hs
  have h3' : am_run am_M 260 [.ref 60, .int (am_I h 2000 (v + 1))] g = some (.inl (some (.int y)), g') := h3
  refine Eq.mpr (congrArg (lx_R L v h) (congrArg (fun o => am_bI [] o _) h1)) ?_
  rw [am_bI_ok, law_il hl2 (k := 1) (by omega) hL, h2, h3', am_bI_ok, e178, am_bI_ok, h5, if_pos rfl]
  by_cases c0 : e = 0
  · rw [if_pos (show nI e = 0 by rw [c0]; rfl), law_ll, h6 c0, h4 c0, if_pos (law_cmp _)]; exact ⟨g', w', rfl, h7, h8⟩
  · rw [if_neg (nI_ne0 (by omega) (by omega))]; exact ⟨g', w', rfl, h7, h8⟩
theorem law_1645 (hv : v + 5 < L) (hL : L ≤ 3072) (hs : lx_S L w h) : lx_R L v h (am_vn am_M 77 299 1645 [some (.ref 2000), some (.ref 0), some (.ref 60), some (.ref 99), some (.int (nI v)), none, none] [] h) := by
  have hl := hs.2.2.2
  rw [e299_1645, law_il hl (k := 1) (by omega) hL, law_il hl (k := 2) (by omega) hL, law_il hl (k := 3) (by omega) hL, e317]
  obtain ⟨e, x, y, g, g', w', h0, h1, hl2, h2, h3, h4, h5, h6, h7, h8⟩ := law_w Int32.toInt64 (call_then hs.1 (am_I h 2000 (v + 1)) (am_I h 2000 (v + 2)) (am_I h 2000 (v + 3))) (by omega) lx_h3 (fun _ _ => rfl) hs
  have h3' : am_run am_M 263 [.ref 60, .int (am_I h 2000 (v + 1)), .int (am_I h 2000 (v + 2)), .int (am_I h 2000 (v + 3))] g = some (.inl (some (.int y)), g') := h3
  refine Eq.mpr (congrArg (lx_R L v h) (congrArg (fun o => am_bI [] o _) h1)) ?_
  rw [am_bI_ok, law_il hl2 (k := 1) (by omega) hL, law_il hl2 (k := 2) (by omega) hL, law_il hl2 (k := 3) (by omega) hL, h2, h3', am_bI_ok, e178, am_bI_ok, h5, if_pos rfl]
  by_cases c0 : e = 0
  · rw [if_pos (show nI e = 0 by rw [c0]; rfl), law_ll, h6 c0, h4 c0, if_pos (law_cmp _)]; exact ⟨g', w', rfl, h7, h8⟩
  · rw [if_neg (nI_ne0 (by omega) (by omega))]; exact ⟨g', w', rfl, h7, h8⟩
theorem law_1725 (hv : v + 5 < L) (hL : L ≤ 3072) (hs : lx_S L w h) : lx_R L v h (am_vn am_M 77 299 1725 [some (.ref 2000), some (.ref 0), some (.ref 60), some (.ref 99), some (.int (nI v)), none, none] [] h) := by
  have hl := hs.2.2.2
  rw [e299_1725, law_il hl (k := 1) (by omega) hL, law_il hl (k := 2) (by omega) hL, law_il hl (k := 3) (by omega) hL, e318]
  obtain ⟨e, x, y, g, g', w', h0, h1, hl2, h2, h3, h4, h5, h6, h7, h8⟩ := law_w Int32.toInt64 (call_packThen hs.1 (am_I h 2000 (v + 1)) (am_I h 2000 (v + 2)) (am_I h 2000 (v + 3))) (by omega) lx_h3 (fun _ _ => rfl) hs
  have h3' : am_run am_M 264 [.ref 60, .int (am_I h 2000 (v + 1)), .int (am_I h 2000 (v + 2)), .int (am_I h 2000 (v + 3))] g = some (.inl (some (.int y)), g') := h3
  refine Eq.mpr (congrArg (lx_R L v h) (congrArg (fun o => am_bI [] o _) h1)) ?_
  rw [am_bI_ok, law_il hl2 (k := 1) (by omega) hL, law_il hl2 (k := 2) (by omega) hL, law_il hl2 (k := 3) (by omega) hL, h2, h3', am_bI_ok, e178, am_bI_ok, h5, if_pos rfl]
  by_cases c0 : e = 0
  · rw [if_pos (show nI e = 0 by rw [c0]; rfl), law_ll, h6 c0, h4 c0, if_pos (law_cmp _)]; exact ⟨g', w', rfl, h7, h8⟩
  · rw [if_neg (nI_ne0 (by omega) (by omega))]; exact ⟨g', w', rfl, h7, h8⟩
end
end
