/-! WINTER: the model reads an expression -/
def wm_C (h0 : am_H) (tp : Nat → Nat) (n j a e1 e2 : Nat) (g : am_H) (s : Nat) (o B : List Nat) (dp : Nat) (T : Nat → Nat) : Prop :=
  wm_k (wg_G a) h0 g ∧ wm_X g tp n s ∧ wm_O g j a o ∧ wm_B g B ∧ (am_I g 60 41 = nI dp ∧ dp ≤ 6) ∧ (∀ i, 1 ≤ i → i ≤ dp → am_I g 84 i = nI (T i)) ∧ wm_va B ∧ a + (wm_cd j o).length + B.length + 8 ≤ 2 * s + e1 ∧ B.length ≤ s + e2
def wm_F (h0 : am_H) (a k : Nat) (g : am_H) (f p : Nat) : Prop := wm_k (wg_E a) h0 g ∧ am_I g 60 19 = nI f ∧ (1 ≤ f ∧ f ≤ 6) ∧ am_I g 60 20 = nI p ∧ ∃ B t, wm_B g B ∧ wm_va B ∧ am_I g 60 37 = nI t ∧ t + B.length + 1 + k ≤ 1400 ∧ B.length ≤ 900 ∧ a ≤ t
/-- what the reading of expressions takes for granted -/
def wm_H (h0 : am_H) (tp : Nat → Nat) (n j : Nat) : Prop := wm_tp h0 tp n ∧ am_I h0 60 19 = nI 0 ∧ am_I h0 60 38 = nI (3 * j) ∧ am_I h0 60 39 = nI (3 * j + 6) ∧ j < 2
theorem wl_k_sg {tp : Nat → Nat} {n s : Nat} (h : 4 ≤ wl_k tp n s) : s < n ∧ tp s = wl_k tp n s ∧ wl_q (wl_k tp n s) = 3 := by
  have hs := wl_k_lt (tp := tp) (n := n) (s := s) (by omega)
  refine ⟨hs, ?_, by unfold wl_q; rw [if_neg (by omega), if_neg (by omega)]⟩
  have e : wl_k tp n s = if n ≤ s then 0 else if wl_lt (tp s) = true then 1 else if wl_dg (tp s) = true then 2 else if wl_sg (tp s) = true then tp s else 3 := rfl
  rw [if_neg (by omega)] at e
  split at e
  · omega
  · split at e
    · omega
    · split at e
      · exact e.symm
      · omega
theorem s195G {g : am_H} (h : am_I g 60 19 = nI 0) : am_run am_M 195 [.ref 60] g = some (.inl (some (.int (nI 1))), g) := by
  rw [e195, if_pos (by rw [h]; rfl), if_pos (by decide)]
theorem s195F {g : am_H} {f : Nat} (h : am_I g 60 19 = nI f) (hf : 1 ≤ f ∧ f ≤ 6) : am_run am_M 195 [.ref 60] g = some (.inl (some (.int (nI 0))), g) := by
  rw [e195, if_neg (by rw [h]; exact nI_ne0 hf.1 (by omega)), if_pos (by decide)]
theorem s196G {g : am_H} {tp : Nat → Nat} {n s c : Nat} (ht : ∀ j, tp j < 256) (hX : wm_X g tp n s) (hc : 4 ≤ c ∧ c < 256) : am_run am_M 196 [.ref 60, .int (nI c)] g = some (.inl (some (.int (nI (if wl_k tp n s = c then 1 else 0)))), g) := by
  have hk61 := wl_k_le (tp := tp) (n := n) (s := s)
  rw [e196, hX.2.2.1, hX.2.2.2.2.2.2.1]
  by_cases c4 : 4 ≤ wl_k tp n s
  · obtain ⟨hs, hk, hq⟩ := wl_k_sg c4
    rw [hq, if_pos rfl, if_pos hs, hk]
    by_cases cc : wl_k tp n s = c
    · rw [if_pos (show nI (wl_k tp n s) = nI c by rw [cc]), if_pos (by decide), if_pos cc]
    · rw [if_neg (fun e => cc ((nI_eq (by omega) (by omega)).mp e)), if_pos (by decide), if_neg cc]
  · have hq : wl_q (wl_k tp n s) ≠ 3 ∧ wl_q (wl_k tp n s) ≤ 4 := by unfold wl_q; split <;> (try split) <;> omega
    rw [if_neg (fun e => hq.1 ((nI_eq (by omega) (by omega)).mp e)), if_pos (by decide), if_neg (by omega)]
theorem wm_w_eq {w c : Nat} (hw : w ≤ 25) (hc : c < 25) : wm_w w = nI c ↔ w = c := by
  unfold wm_w
  by_cases h : w < 25
  · rw [if_pos h]; exact nI_eq (by omega) (by omega)
  · rw [if_neg h]
    exact ⟨fun e => absurd e.symm (pz_neg1 (by omega)), fun e => by omega⟩
theorem wm_cd_q {j : Nat} : ∀ (Q : List Nat), (∀ c, c ∈ Q → 20000 ≤ c) → (wm_cd j Q).length = Q.length
  | [], _ => rfl
  | c :: Q, h => by
    rw [wm_cd, wm_wd_op (h c List.mem_cons_self), List.length_append, wm_cd_q Q (fun x hx => h x (List.mem_cons_of_mem _ hx)), List.length_cons]
    show 1 + Q.length = Q.length + 1
    omega
noncomputable abbrev wm_TO (g : am_H) : Option am_Q := am_vn am_M 5 211 39 [some (.ref 60), none, none, some (.int (nI 1)), none] [] g
noncomputable abbrev wm_T75 (v : Nat) (g : am_H) : Option am_Q := am_bV [] (am_vn am_M 4 208 75 [some (.ref 60), none, some (.int (nI v)), none, none] [] g) (fun g' => wm_TO g')
noncomputable abbrev wm_T18 (c : Nat) (g : am_H) : Option am_Q := am_bV [] (am_vn am_M 4 208 18 [some (.ref 60), none, some (.int (nI 1)), none, some (.int (nI c))] [] g) (fun g' => wm_TO g')
noncomputable abbrev wm_T4 (v : Nat) (g : am_H) : Option am_Q := am_bV [] (am_vn am_M 4 208 4 [some (.ref 60), none, some (.int (nI v)), some (.int (nI 1)), none] [] g) (fun g' => wm_TO g')
def wm_W (h0 : am_H) (tp : Nat → Nat) (n j a m : Nat) (EF : Nat → Nat → Prop) (B : List Nat) (dp : Nat) (T : Nat → Nat) (x : Option am_Q) : wp_Q → Prop
  | .inl (f, p) => ∃ g', x = wm_TO g' ∧ wm_F h0 a 0 g' f p
  | .inr (s', l') => ∃ g' o Q t, x = wm_TO g' ∧ o ++ Q = l' ∧ wm_q m Q ∧ wm_C h0 tp n j a 0 0 g' s' o (B ++ Q.reverse) dp (wm_u T dp t) ∧ EF s' t ∧ t ≤ 1
section
variable {h0 : am_H} {tp : Nat → Nat} {n j a e1 e2 s dp : Nat} {g : am_H} {o B : List Nat} {T : Nat → Nat}
theorem wm_C.ty (h : wm_C h0 tp n j a e1 e2 g s o B dp T) (hH : wm_H h0 tp n j) : wm_tp g tp n := hH.1.kp h.1 (wg_G_f (by omega)) (fun k => wg_G_f (by omega))
theorem wm_C.f0 (h : wm_C h0 tp n j a e1 e2 g s o B dp T) (hH : wm_H h0 tp n j) : am_I g 60 19 = nI 0 := (h.1.get _ _ (wg_G_f (by omega))).trans hH.2.1
theorem wm_C.go (h : wm_C h0 tp n j a e1 e2 g s o B dp T) (hH : wm_H h0 tp n j) (hs : s < n) (he : e1 ≤ 2 ∧ e2 ≤ 1) : ∃ g', am_run am_M 190 [.ref 60] g = some (.inl none, g') ∧ wm_C h0 tp n j a 0 0 g' (wl_x tp n s) o B dp T := by
  have hx := wl_x_gt (tp := tp) hs
  obtain ⟨g', e, k, hX⟩ := s190X (h.ty hH) h.2.1
  obtain ⟨a1, a2, a3, a4, a5, a6, a7, a8, a9⟩ := h
  refine ⟨g', e, a1.trans (k.up fun i k => wg_xG), hX, a3.fr (k.get _ _ (wg_x_f (by omega))) (fun i _ => k.get _ _ (wg_x_f (by omega))), a4.fr (k.get _ _ (wg_x_f (by omega))) (fun i _ => k.get _ _ (wg_x_f (by omega))), ⟨(k.get _ _ (wg_x_f (by omega))).trans a5.1, a5.2⟩, fun i h1 h2 => (k.get _ _ (wg_x_f (by omega))).trans (a6 i h1 h2), a7, by omega, by omega⟩
theorem wm_C.pu {c : Nat} (h : wm_C h0 tp n j a e1 e2 g s o B dp T) (hc : 20000 ≤ c ∧ c ≤ 20008 ∨ c = 20011) (hl : B.length < 950) : ∃ g', am_run am_M 205 [.ref 60, .int (nI (pm_op c))] g = some (.inl none, g') ∧ wm_C h0 tp n j a (e1 + 1) (e2 + 1) g' s o (B ++ [c]) dp T := by
  obtain ⟨a1, a2, a3, a4, a5, a6, a7, a8, a9⟩ := h
  refine ⟨_, s205 a4.1 hl _, (a1.sI _ (wg_G_t (by omega))).sI _ (wg_G_t (by omega)), a2.fr (fun k h1 h2 => by rw [am_I_s2 _ _ _ _ (by omega), am_I_s1 _ _ _ _ (by omega)]) rfl, a3.fr (by rw [am_I_s2 _ _ _ _ (by omega), am_I_s1 _ _ _ _ (by omega)]) (fun i _ => by rw [am_I_s1 _ _ _ _ (by omega), am_I_s1 _ _ _ _ (by omega)]), a4.push, ⟨by rw [am_I_s2 _ _ _ _ (by omega), am_I_s1 _ _ _ _ (by omega)]; exact a5.1, a5.2⟩, fun i h1 h2 => by rw [am_I_s1 _ _ _ _ (by omega), am_I_s1 _ _ _ _ (by omega)]; exact a6 i h1 h2, a7.ap hc, by rw [wp_l1]; omega, by rw [wp_l1]; omega⟩
theorem wm_C.ts {t : Nat} {v : Int32} (h : wm_C h0 tp n j a e1 e2 g s o B dp T) (hv : v = nI t) : wm_C h0 tp n j a e1 e2 (am_sI g 84 dp v) s o B dp (wm_u T dp t) := by
  obtain ⟨a1, a2, a3, a4, a5, a6, a7, a8, a9⟩ := h
  refine ⟨a1.sI _ (wg_G_t (by omega)), a2.fr (fun k h1 h2 => by rw [am_I_s1 _ _ _ _ (by omega)]) rfl, a3.fr (by rw [am_I_s1 _ _ _ _ (by omega)]) (fun i _ => by rw [am_I_s1 _ _ _ _ (by omega)]), a4.fr (by rw [am_I_s1 _ _ _ _ (by omega)]) (fun i _ => by rw [am_I_s1 _ _ _ _ (by omega)]), ⟨by rw [am_I_s1 _ _ _ _ (by omega)]; exact a5.1, a5.2⟩, fun i h1 h2 => ?_, a7, a8, a9⟩
  unfold wm_u
  by_cases c : i = dp
  · rw [if_pos c, c, am_I_s, hv]
  · rw [if_neg c, am_I_s2 _ _ _ _ c]; exact a6 i h1 h2
theorem wm_C.dr {m : Nat} {Q : List Nat} (h : wm_C h0 tp n j a e1 e2 g s o (B ++ Q.reverse) dp T) (hn : n ≤ 700) (he : e1 ≤ 4 ∧ e2 ≤ 2) (hb : wm_b m B) (hq : wm_q m Q) (hm : m < 1000) : ∃ g', am_run am_M 204 [.ref 60, .int (nI m)] g = some (.inl none, g') ∧ wm_C h0 tp n j a e1 e2 g' s (o ++ Q) B dp T := by
  obtain ⟨a1, a2, a3, a4, a5, a6, a7, a8, a9⟩ := h
  have hs := a2.1
  rw [List.length_append, List.length_reverse] at a8 a9
  obtain ⟨g', e, k, b1, b2⟩ := s204_0 (g := g) hm hb Q g o (am_kp.refl _ _) a3 a4 hq (by omega) (by omega)
  have eq : (wm_cd j (o ++ Q)).length = (wm_cd j o).length + Q.length := by
    rw [wm_cd_ap, List.length_append, wm_cd_q Q (fun c hc => (hq c hc).1.1)]
  have kk : wm_k (wg_G a) g g' := ⟨k.1, k.2.1, k.2.2.1, k.R, fun i _ => by rw [k.J], fun i k' hi => k.get i k' (wg_d_f (fun c => by have := of_decide_eq_false hi; omega))⟩
  refine ⟨g', by rw [e204]; exact e, a1.trans kk, a2.fr (fun i h1 h2 => k.get _ _ (wg_d_f (by omega))) (by rw [k.J]), b1, b2, ⟨(k.get _ _ (wg_d_f (by omega))).trans a5.1, a5.2⟩, fun i h1 h2 => (k.get _ _ (wg_d_f (by omega))).trans (a6 i h1 h2), fun x hx => a7 x (List.mem_append_left _ hx), by rw [eq]; omega, by omega⟩
theorem wm_C.wr {f : Nat} (h : wm_C h0 tp n j a e1 e2 g s o B dp T) (hH : wm_H h0 tp n j) (he : e1 ≤ 4 ∧ e2 ≤ 2) (hf : 1 ≤ f ∧ f ≤ 6) : ∃ g', am_run am_M 194 [.ref 60, .int (nI f)] g = some (.inl none, g') ∧ wm_F h0 a 2 g' f s ∧ (∀ k, 23 ≤ k → am_I g' 60 k = am_I g 60 k) := by
  have hn := hH.1.1
  have hz := h.f0 hH
  obtain ⟨a1, a2, a3, a4, a5, a6, a7, a8, a9⟩ := h
  have hs := a2.1
  rw [e194, if_pos (by rw [hz]; rfl)]
  dsimp only
  refine ⟨_, rfl, ⟨((a1.up fun _ _ => wg_GE).sI _ (wg_E_t (by omega))).sI _ (wg_E_t (by omega)), by rw [am_I_s2 _ _ _ _ (by omega), am_I_s], hf, by rw [am_I_s, am_I_s2 _ _ _ _ (by omega)]; exact a2.2.2.2.1, B, a + (wm_cd j o).length, a4.fr (by rw [am_I_s2 _ _ _ _ (by omega), am_I_s2 _ _ _ _ (by omega)]) (fun i _ => by rw [am_I_s1 _ _ _ _ (by omega), am_I_s1 _ _ _ _ (by omega)]), a7, by rw [am_I_s2 _ _ _ _ (by omega), am_I_s2 _ _ _ _ (by omega)]; exact a3.1, by omega, by omega, by omega⟩, fun k hk => by rw [am_I_s2 _ _ _ _ (by omega), am_I_s2 _ _ _ _ (by omega)]⟩
theorem wm_F.pu {k f p : Nat} (h : wm_F h0 a (k + 1) g f p) (v : Int32) : ∃ g', am_run am_M 201 [.ref 60, .int v] g = some (.inl none, g') ∧ wm_F h0 a k g' f p ∧ am_I g' 60 27 = am_I g 60 27 := by
  obtain ⟨a1, a2, a3, a4, B, t, b1, b2, b3, b4, b5, b6⟩ := h
  refine ⟨_, s201 b3 (by omega) v, ⟨(a1.sI _ (wg_E_t (by omega))).sI _ (wg_E_t (by omega)), by rw [am_I_s2 _ _ _ _ (by omega), am_I_s1 _ _ _ _ (by omega)]; exact a2, a3, by rw [am_I_s2 _ _ _ _ (by omega), am_I_s1 _ _ _ _ (by omega)]; exact a4, B, t + 1, b1.fr (by rw [am_I_s2 _ _ _ _ (by omega), am_I_s1 _ _ _ _ (by omega)]) (fun i _ => by rw [am_I_s1 _ _ _ _ (by omega), am_I_s1 _ _ _ _ (by omega)]), b2, am_I_s _ _ _ _, by omega, b5, by omega⟩, by rw [am_I_s2 _ _ _ _ (by omega), am_I_s1 _ _ _ _ (by omega)]⟩
theorem wm_F.le {k k' f p : Nat} (h : wm_F h0 a k g f p) (hk : k' ≤ k) : wm_F h0 a k' g f p := by
  obtain ⟨a1, a2, a3, a4, B, t, b1, b2, b3, b4, b5, b6⟩ := h
  exact ⟨a1, a2, a3, a4, B, t, b1, b2, b3, by omega, b5, b6⟩
/-! in a fault -/
theorem s206F {k f p : Nat} (h : wm_F h0 a k g f p) : am_run am_M 206 [.ref 60] g = some (.inl none, g) := by
  rw [e206, s195F h.2.1 h.2.2.1, am_bI_ok, if_pos (by decide)]
theorem wm_T75F {k f p v : Nat} (h : wm_F h0 a k g f p) : wm_T75 v g = wm_TO g := by
  show am_bV [] (am_vn am_M 4 208 75 [some (.ref 60), none, some (.int (nI v)), none, none] [] g) _ = _
  rw [e208_75, s195F h.2.1 h.2.2.1, am_bI_ok, if_pos (show nI 0 = 0 from rfl), e208_96, if_pos (show nI 0 = 0 from rfl), e208_4, if_pos (show nI 0 = 0 from rfl), s206F h, am_bV_ok, am_bV_ok]
theorem wm_T4F {k f p v : Nat} (h : wm_F h0 a k g f p) : wm_T4 v g = wm_TO g := by
  show am_bV [] (am_vn am_M 4 208 4 [some (.ref 60), none, some (.int (nI v)), some (.int (nI 1)), none] [] g) _ = _
  rw [e208_4, if_neg (show ¬ nI 1 = 0 by decide), s195F h.2.1 h.2.2.1, am_bI_ok, if_pos (show nI 0 = 0 from rfl), s206F h, am_bV_ok, am_bV_ok]
theorem wm_TOF {k f p : Nat} (h : wm_F h0 a k g f p) : wm_TO g = am_vn am_M 5 211 360 [some (.ref 60), none, none, none, none] [] g := by
  show am_vn am_M 5 211 39 [some (.ref 60), none, none, some (.int (nI 1)), none] [] g = _
  rw [e211_39, if_neg (show ¬ nI 1 = 0 by decide), s195F h.2.1 h.2.2.1, am_bI_ok, if_pos (show nI 0 = 0 from rfl), e211_340, s195F h.2.1 h.2.2.1, am_bI_ok, if_pos (show nI 0 = 0 from rfl)]
/-! in none -/
theorem wm_T4_0 (hg : am_I g 60 19 = nI 0) : wm_T4 0 g = wm_T75 0 g := by
  show am_bV [] (am_vn am_M 4 208 4 [some (.ref 60), none, some (.int (nI 0)), some (.int (nI 1)), none] [] g) _ = _
  rw [e208_4, if_neg (show ¬ nI 1 = 0 by decide), s195G hg, am_bI_ok, if_neg (show ¬ nI 1 = 0 by decide), e208_18, s195G hg, am_bI_ok, if_neg (show ¬ nI 1 = 0 by decide), if_pos (show nI 0 = 0 from rfl)]
theorem wm_T4_1 (hg : am_I g 60 19 = nI 0) : wm_T4 1 g = wm_T18 0 g := by
  show am_bV [] (am_vn am_M 4 208 4 [some (.ref 60), none, some (.int (nI 1)), some (.int (nI 1)), none] [] g) _ = _
  rw [e208_4, if_neg (show ¬ nI 1 = 0 by decide), s195G hg, am_bI_ok, if_neg (show ¬ nI 1 = 0 by decide)]
theorem wm_op_om : wp_om tp n s = 0 ↔ wl_k tp n s ≠ 42 ∧ wl_k tp n s ≠ 47 := by
  unfold wp_om
  split
  · rename_i c; exact ⟨fun h => absurd h (by omega), fun h => absurd c h.1⟩
  · split
    · rename_i c; exact ⟨fun h => absurd h (by omega), fun h => absurd c h.2⟩
    · rename_i c1 c2; exact ⟨fun _ => ⟨c1, c2⟩, fun _ => rfl⟩
theorem wm_op_oa : wp_oa tp n s = 0 ↔ wl_k tp n s ≠ 43 ∧ wl_k tp n s ≠ 45 := by
  unfold wp_oa
  split
  · rename_i c; exact ⟨fun h => absurd h (by omega), fun h => absurd c h.1⟩
  · split
    · rename_i c; exact ⟨fun h => absurd h (by omega), fun h => absurd c h.2⟩
    · rename_i c1 c2; exact ⟨fun _ => ⟨c1, c2⟩, fun _ => rfl⟩
theorem wm_op_oc : wp_oc tp n s = 0 ↔ wl_k tp n s ≠ 60 ∧ wl_k tp n s ≠ 61 := by
  unfold wp_oc
  split
  · rename_i c; exact ⟨fun h => absurd h (by omega), fun h => absurd c h.1⟩
  · split
    · rename_i c; exact ⟨fun h => absurd h (by omega), fun h => absurd c h.2⟩
    · rename_i c1 c2; exact ⟨fun _ => ⟨c1, c2⟩, fun _ => rfl⟩
theorem wm_op_od : wp_od tp n s = 0 ↔ wl_w tp n s ≠ 22 := by
  unfold wp_od
  split
  · rename_i c; exact ⟨fun h => absurd h (by omega), fun h => absurd c h⟩
  · rename_i c; exact ⟨fun _ => c, fun _ => rfl⟩
theorem wm_op_oo : wp_oo tp n s = 0 ↔ wl_w tp n s ≠ 23 := by
  unfold wp_oo
  split
  · rename_i c; exact ⟨fun h => absurd h (by omega), fun h => absurd c h⟩
  · rename_i c; exact ⟨fun _ => c, fun _ => rfl⟩
/-- to the arithmetic signs -/
theorem wm_TO201 (h : wm_C h0 tp n j a e1 e2 g s o B dp T) (hH : wm_H h0 tp n j) (w1 : wl_w tp n s ≠ 22) (w2 : wl_w tp n s ≠ 23) (hd : 1 ≤ dp) (hT : wl_k tp n s = 60 ∨ wl_k tp n s = 61 → T dp = 1) : wm_TO g = am_vn am_M 5 211 201 [some (.ref 60), none, none, some (.int (nI 1)), none] [] g := by
  have hz := h.f0 hH
  have hw := wl_w_le (tp := tp) (n := n) (s := s)
  show am_vn am_M 5 211 39 [some (.ref 60), none, none, some (.int (nI 1)), none] [] g = _
  rw [e211_39, if_neg (show ¬ nI 1 = 0 by decide), s195G hz, am_bI_ok, if_neg (show ¬ nI 1 = 0 by decide), s193 (h.ty hH) h.2.1, am_bI_ok, if_neg (fun e => w1 ((wm_w_eq hw (by omega)).mp e)), if_neg (fun e => w2 ((wm_w_eq hw (by omega)).mp e)), s196G hH.1.2.1 h.2.1 (by omega), am_bI_ok]
  have h142 : T dp = 1 → am_vn am_M 5 211 142 [some (.ref 60), none, none, some (.int (nI 1)), none] [] g = am_vn am_M 5 211 201 [some (.ref 60), none, none, some (.int (nI 1)), none] [] g := fun ht => by
    rw [e211_142, h.2.2.2.2.1.1, am_bl84 (by have := h.2.2.2.2.1.2; omega), h.2.2.2.2.2.1 dp hd (Nat.le_refl _), ht, if_neg (show ¬ nI 1 = 0 by decide)]
  by_cases c60 : wl_k tp n s = 60
  · rw [if_pos c60, if_neg (show ¬ nI 1 = 0 by decide)]
    exact h142 (hT (Or.inl c60))
  · rw [if_neg c60, if_pos (show nI 0 = 0 from rfl), s196G hH.1.2.1 h.2.1 (by omega), am_bI_ok]
    by_cases c61 : wl_k tp n s = 61
    · rw [if_pos c61, if_neg (show ¬ nI 1 = 0 by decide)]
      exact h142 (hT (Or.inr c61))
    · rw [if_neg c61, if_pos (show nI 0 = 0 from rfl)]
theorem wl_w_k (h : wl_k tp n s ≠ 1) : wl_w tp n s = 25 := if_neg h
/-- a sign of products -/
theorem wm_s6 {Q : List Nat} (h : wm_C h0 tp n j a 0 0 g s o (B ++ Q.reverse) dp T) (hH : wm_H h0 tp n j) (hd : 1 ≤ dp) (hq : wm_q 6 Q) (hb : wm_b 6 B) (ho : wp_om tp n s ≠ 0) : ∃ g', wm_TO g = wm_T75 0 g' ∧ wm_C h0 tp n j a 0 0 g' (wl_x tp n s) (o ++ Q) (B ++ [wp_om tp n s]) dp T := by
  have hn := hH.1.1
  have hk : wl_k tp n s = 42 ∨ wl_k tp n s = 47 := by
    have := mt wm_op_om.mpr ho
    omega
  have hs := wl_k_lt (tp := tp) (n := n) (s := s) (by omega)
  have w := wl_w_k (tp := tp) (n := n) (s := s) (by omega)
  have hX := h.2.1
  have ht := hH.1.2.1
  rw [wm_TO201 h hH (by omega) (by omega) hd (fun c => by omega), e211_201, s196G ht hX (by omega), am_bI_ok, if_neg (show ¬ wl_k tp n s = 43 by omega), if_pos (show nI 0 = 0 from rfl), s196G ht hX (by omega), am_bI_ok, if_neg (show ¬ wl_k tp n s = 45 by omega), if_pos (show nI 0 = 0 from rfl), s196G ht hX (by omega), am_bI_ok]
  obtain ⟨g1, r1, c1⟩ := h.dr hn (by omega) hb hq (by omega)
  have hB1 : B.length ≤ n := by have := c1.2.2.2.2.2.2.2.2; have := c1.2.1.1; omega
  have go : ∀ v c, wp_om tp n s = c → (20000 ≤ c ∧ c ≤ 20008) → v = nI (pm_op c) → ∃ g', am_vn am_M 5 211 297 [some (.ref 60), none, none, some (.int (nI 1)), none] [(.int v), (.ref 60)] g1 = wm_T75 0 g' ∧ wm_C h0 tp n j a 0 0 g' (wl_x tp n s) (o ++ Q) (B ++ [wp_om tp n s]) dp T := fun v c hc1 hc2 hv => by
    obtain ⟨g2, r2, c2⟩ := c1.pu (c := c) (Or.inl hc2) (by omega)
    obtain ⟨g3, r3, c3⟩ := c2.go hH hs (by omega)
    refine ⟨g3, ?_, by rw [hc1]; exact c3⟩
    rw [e211_297, hv, r2, am_bV_ok, r3, am_bV_ok, e208]
    exact wm_T4_0 (c3.f0 hH)
  have h274 : ∃ g', am_vn am_M 5 211 274 [some (.ref 60), none, none, some (.int (nI 1)), none] [] g = wm_T75 0 g' ∧ wm_C h0 tp n j a 0 0 g' (wl_x tp n s) (o ++ Q) (B ++ [wp_om tp n s]) dp T := by
    rw [e211_274, r1, am_bV_ok, s196G ht c1.2.1 (by omega), am_bI_ok]
    rcases hk with c | c
    · rw [if_pos c, if_neg (show ¬ nI 1 = 0 by decide)]
      exact go (nI 10) 20007 (by unfold wp_om; rw [if_pos c]) (by omega) rfl
    · rw [if_neg (show ¬ wl_k tp n s = 42 by omega), if_pos (show nI 0 = 0 from rfl)]
      exact go (nI 11) 20008 (by unfold wp_om; rw [if_neg (by omega), if_pos c]) (by omega) rfl
  rcases hk with c | c
  · rw [if_pos c, if_neg (show ¬ nI 1 = 0 by decide)]
    exact h274
  · rw [if_neg (show ¬ wl_k tp n s = 42 by omega), if_pos (show nI 0 = 0 from rfl), s196G ht hX (by omega), am_bI_ok, if_pos c, if_neg (show ¬ nI 1 = 0 by decide)]
    exact h274
/-- a sign of sums -/
theorem wm_s5 {Q : List Nat} (h : wm_C h0 tp n j a 0 0 g s o (B ++ Q.reverse) dp T) (hH : wm_H h0 tp n j) (hd : 1 ≤ dp) (hq : wm_q 5 Q) (hb : wm_b 5 B) (ho : wp_oa tp n s ≠ 0) : ∃ g', wm_TO g = wm_T75 0 g' ∧ wm_C h0 tp n j a 0 0 g' (wl_x tp n s) (o ++ Q) (B ++ [wp_oa tp n s]) dp T := by
  have hn := hH.1.1
  have hk : wl_k tp n s = 43 ∨ wl_k tp n s = 45 := by
    have := mt wm_op_oa.mpr ho
    omega
  have hs := wl_k_lt (tp := tp) (n := n) (s := s) (by omega)
  have w := wl_w_k (tp := tp) (n := n) (s := s) (by omega)
  have hX := h.2.1
  have ht := hH.1.2.1
  rw [wm_TO201 h hH (by omega) (by omega) hd (fun c => by omega), e211_201, s196G ht hX (by omega), am_bI_ok]
  obtain ⟨g1, r1, c1⟩ := h.dr hn (by omega) hb hq (by omega)
  have hB1 : B.length ≤ n := by have := c1.2.2.2.2.2.2.2.2; have := c1.2.1.1; omega
  have go : ∀ v c, wp_oa tp n s = c → (20000 ≤ c ∧ c ≤ 20008) → v = nI (pm_op c) → ∃ g', am_vn am_M 5 211 241 [some (.ref 60), none, none, some (.int (nI 1)), none] [(.int v), (.ref 60)] g1 = wm_T75 0 g' ∧ wm_C h0 tp n j a 0 0 g' (wl_x tp n s) (o ++ Q) (B ++ [wp_oa tp n s]) dp T := fun v c hc1 hc2 hv => by
    obtain ⟨g2, r2, c2⟩ := c1.pu (c := c) (Or.inl hc2) (by omega)
    obtain ⟨g3, r3, c3⟩ := c2.go hH hs (by omega)
    refine ⟨g3, ?_, by rw [hc1]; exact c3⟩
    rw [e211_241, hv, r2, am_bV_ok, r3, am_bV_ok, e208]
    exact wm_T4_0 (c3.f0 hH)
  have h219 : ∃ g', am_vn am_M 5 211 219 [some (.ref 60), none, none, some (.int (nI 1)), none] [] g = wm_T75 0 g' ∧ wm_C h0 tp n j a 0 0 g' (wl_x tp n s) (o ++ Q) (B ++ [wp_oa tp n s]) dp T := by
    rw [e211_219, r1, am_bV_ok, s196G ht c1.2.1 (by omega), am_bI_ok]
    rcases hk with c | c
    · rw [if_pos c, if_neg (show ¬ nI 1 = 0 by decide)]
      exact go (nI 8) 20005 (by unfold wp_oa; rw [if_pos c]) (by omega) rfl
    · rw [if_neg (show ¬ wl_k tp n s = 43 by omega), if_pos (show nI 0 = 0 from rfl)]
      exact go (nI 9) 20006 (by unfold wp_oa; rw [if_neg (by omega), if_pos c]) (by omega) rfl
  rcases hk with c | c
  · rw [if_pos c, if_neg (show ¬ nI 1 = 0 by decide)]
    exact h219
  · rw [if_neg (show ¬ wl_k tp n s = 43 by omega), if_pos (show nI 0 = 0 from rfl), s196G ht hX (by omega), am_bI_ok, if_pos c, if_neg (show ¬ nI 1 = 0 by decide)]
    exact h219
/-- a sign of tests -/
theorem wm_s4 {Q : List Nat} (h : wm_C h0 tp n j a 0 0 g s o (B ++ Q.reverse) dp T) (hH : wm_H h0 tp n j) (hd : 1 ≤ dp) (hT : T dp = 0) (hq : wm_q 4 Q) (hb : wm_b 4 B) (ho : wp_oc tp n s ≠ 0) : ∃ g', wm_TO g = wm_T75 0 g' ∧ wm_C h0 tp n j a 0 0 g' (wl_x tp n s) (o ++ Q) (B ++ [wp_oc tp n s]) dp (wm_u T dp 1) := by
  have hn := hH.1.1
  have hk : wl_k tp n s = 60 ∨ wl_k tp n s = 61 := by
    have := mt wm_op_oc.mpr ho
    omega
  have hs := wl_k_lt (tp := tp) (n := n) (s := s) (by omega)
  have w := wl_w_k (tp := tp) (n := n) (s := s) (by omega)
  have hX := h.2.1
  have ht := hH.1.2.1
  have hz := h.f0 hH
  have hw := wl_w_le (tp := tp) (n := n) (s := s)
  have hdp := h.2.2.2.2.1.2
  obtain ⟨g1, r1, c1⟩ := h.dr hn (by omega) hb hq (by omega)
  have hB1 : B.length ≤ n := by have := c1.2.2.2.2.2.2.2.2; have := c1.2.1.1; omega
  have go : ∀ v c, wp_oc tp n s = c → (20000 ≤ c ∧ c ≤ 20008) → v = nI (pm_op c) → ∃ g', am_vn am_M 5 211 176 [some (.ref 60), none, none, some (.int (nI 1)), none] [(.int v), (.ref 60)] g1 = wm_T75 0 g' ∧ wm_C h0 tp n j a 0 0 g' (wl_x tp n s) (o ++ Q) (B ++ [wp_oc tp n s]) dp (wm_u T dp 1) := fun v c hc1 hc2 hv => by
    obtain ⟨g2, r2, c2⟩ := c1.pu (c := c) (Or.inl hc2) (by omega)
    have c2' := c2.ts (t := 1) (v := nI 1 &&& 1) (by decide)
    obtain ⟨g3, r3, c3⟩ := c2'.go hH hs (by omega)
    refine ⟨g3, ?_, by rw [hc1]; exact c3⟩
    rw [e211_176, hv, r2, am_bV_ok, c2.2.2.2.2.1.1, am_is17 (by omega), r3, am_bV_ok, e208]
    exact wm_T4_0 (c3.f0 hH)
  have h142 : ∃ g', am_vn am_M 5 211 142 [some (.ref 60), none, none, some (.int (nI 1)), none] [] g = wm_T75 0 g' ∧ wm_C h0 tp n j a 0 0 g' (wl_x tp n s) (o ++ Q) (B ++ [wp_oc tp n s]) dp (wm_u T dp 1) := by
    rw [e211_142, h.2.2.2.2.1.1, am_bl84 (by omega), h.2.2.2.2.2.1 dp hd (Nat.le_refl _), hT, if_pos (show nI 0 = 0 from rfl), r1, am_bV_ok, s196G ht c1.2.1 (by omega), am_bI_ok]
    rcases hk with c | c
    · rw [if_pos c, if_neg (show ¬ nI 1 = 0 by decide)]
      exact go (nI 6) 20003 (by unfold wp_oc; rw [if_pos c]) (by omega) rfl
    · rw [if_neg (show ¬ wl_k tp n s = 60 by omega), if_pos (show nI 0 = 0 from rfl)]
      exact go (nI 7) 20004 (by unfold wp_oc; rw [if_neg (by omega), if_pos c]) (by omega) rfl
  show ∃ g', am_vn am_M 5 211 39 [some (.ref 60), none, none, some (.int (nI 1)), none] [] g = _ ∧ _
  rw [e211_39, if_neg (show ¬ nI 1 = 0 by decide), s195G hz, am_bI_ok, if_neg (show ¬ nI 1 = 0 by decide), s193 (h.ty hH) h.2.1, am_bI_ok, if_neg (fun e => by have := (wm_w_eq hw (by omega)).mp e; omega), if_neg (fun e => by have := (wm_w_eq hw (by omega)).mp e; omega), s196G ht hX (by omega), am_bI_ok]
  rcases hk with c | c
  · rw [if_pos c, if_neg (show ¬ nI 1 = 0 by decide)]
    exact h142
  · rw [if_neg (show ¬ wl_k tp n s = 60 by omega), if_pos (show nI 0 = 0 from rfl), s196G ht hX (by omega), am_bI_ok, if_pos c, if_neg (show ¬ nI 1 = 0 by decide)]
    exact h142
/-- and, or -/
theorem wm_s2 {Q : List Nat} (h : wm_C h0 tp n j a 0 0 g s o (B ++ Q.reverse) dp T) (hH : wm_H h0 tp n j) (hq : wm_q 2 Q) (hb : wm_b 2 B) (ho : wp_od tp n s ≠ 0) : ∃ g', wm_TO g = wm_T18 0 g' ∧ wm_C h0 tp n j a 0 0 g' (wl_x tp n s) (o ++ Q) (B ++ [wp_od tp n s]) dp (wm_u T dp 0) := by
  have hn := hH.1.1
  have w : wl_w tp n s = 22 := by
    have := mt wm_op_od.mpr ho
    omega
  have hs := wl_w_lt (tp := tp) (n := n) (s := s) (by omega)
  have ht := hH.1.2.1
  have hz := h.f0 hH
  have hdp := h.2.2.2.2.1.2
  obtain ⟨g1, r1, c1⟩ := h.dr hn (by omega) hb hq (by omega)
  have hB1 : B.length ≤ n := by have := c1.2.2.2.2.2.2.2.2; have := c1.2.1.1; omega
  have hod : wp_od tp n s = 20001 := by unfold wp_od; rw [if_pos w]
  obtain ⟨g2, r2, c2⟩ := c1.pu (c := 20001) (Or.inl (by omega)) (by omega)
  have c2' := c2.ts (t := 0) (v := nI 0 &&& 1) (by decide)
  obtain ⟨g3, r3, c3⟩ := c2'.go hH hs (by omega)
  refine ⟨g3, ?_, by rw [hod]; exact c3⟩
  show am_vn am_M 5 211 39 [some (.ref 60), none, none, some (.int (nI 1)), none] [] g = _
  have r2' : am_run am_M 205 [.ref 60, .int (nI 4)] g1 = some (.inl none, g2) := r2
  rw [e211_39, if_neg (show ¬ nI 1 = 0 by decide), s195G hz, am_bI_ok, if_neg (show ¬ nI 1 = 0 by decide), s193 (h.ty hH) h.2.1, am_bI_ok, w, show wm_w 22 = nI 22 from rfl, if_pos rfl, e211_70, if_pos rfl, e211_83, r1, am_bV_ok, if_pos rfl, e211_99, r2', am_bV_ok, c2.2.2.2.2.1.1, am_is17 (by omega), r3, am_bV_ok, e208]
  exact wm_T4_1 (c3.f0 hH)
theorem wm_s1 {Q : List Nat} (h : wm_C h0 tp n j a 0 0 g s o (B ++ Q.reverse) dp T) (hH : wm_H h0 tp n j) (hq : wm_q 1 Q) (hb : wm_b 1 B) (ho : wp_oo tp n s ≠ 0) : ∃ g', wm_TO g = wm_T18 0 g' ∧ wm_C h0 tp n j a 0 0 g' (wl_x tp n s) (o ++ Q) (B ++ [wp_oo tp n s]) dp (wm_u T dp 0) := by
  have hn := hH.1.1
  have w : wl_w tp n s = 23 := by
    have := mt wm_op_oo.mpr ho
    omega
  have hs := wl_w_lt (tp := tp) (n := n) (s := s) (by omega)
  have ht := hH.1.2.1
  have hz := h.f0 hH
  have hdp := h.2.2.2.2.1.2
  obtain ⟨g1, r1, c1⟩ := h.dr hn (by omega) hb hq (by omega)
  have hB1 : B.length ≤ n := by have := c1.2.2.2.2.2.2.2.2; have := c1.2.1.1; omega
  have hod : wp_oo tp n s = 20000 := by unfold wp_oo; rw [if_pos w]
  obtain ⟨g2, r2, c2⟩ := c1.pu (c := 20000) (Or.inl (by omega)) (by omega)
  have c2' := c2.ts (t := 0) (v := nI 0 &&& 1) (by decide)
  obtain ⟨g3, r3, c3⟩ := c2'.go hH hs (by omega)
  refine ⟨g3, ?_, by rw [hod]; exact c3⟩
  show am_vn am_M 5 211 39 [some (.ref 60), none, none, some (.int (nI 1)), none] [] g = _
  have r2' : am_run am_M 205 [.ref 60, .int (nI 5)] g1 = some (.inl none, g2) := r2
  rw [e211_39, if_neg (show ¬ nI 1 = 0 by decide), s195G hz, am_bI_ok, if_neg (show ¬ nI 1 = 0 by decide), s193 (h.ty hH) h.2.1, am_bI_ok, w, show wm_w 23 = nI 23 from rfl, if_neg (show ¬ nI 23 = nI 22 by decide), if_pos rfl, e211_70, if_neg (show ¬ nI 23 = nI 22 by decide), e211_83, r1, am_bV_ok, if_neg (show ¬ nI 23 = nI 22 by decide), e211_99, r2', am_bV_ok, c2.2.2.2.2.1.1, am_is17 (by omega), r3, am_bV_ok, e208]
  exact wm_T4_1 (c3.f0 hH)
/-! what follows: many signs of one strength -/
theorem wm_b_up {m m' : Nat} (h : wm_b m B) (hm : m ≤ m') : wm_b m' B := by
  rcases h with h | ⟨B', c, e, hc⟩
  · exact Or.inl h
  · exact Or.inr ⟨B', c, e, hc.imp id fun h => ⟨h.1, by omega⟩⟩
theorem wm_q_up {m m' : Nat} {Q : List Nat} (h : wm_q m' Q) (hm : m ≤ m') : wm_q m Q := fun c hc => ⟨(h c hc).1, Nat.le_trans hm (h c hc).2⟩
theorem wm_lp {m D : Nat} {op : Nat → Nat} {sub : Nat → List Nat → wp_Q} {EFs : Nat → Nat → Prop} {CT : Nat → Prop} {tgt : am_H → Option am_Q}
    (hH : wm_H h0 tp n j) (hO : wp_O n op) (hG : wp_SG D n sub) (hm : ∀ s, op s ≠ 0 → wm_st (op s) = m)
    (hstep : ∀ g s o Q B T, wm_C h0 tp n j a 0 0 g s o (B ++ Q.reverse) dp T → wm_q m Q → wm_b m B → op s ≠ 0 → EFs s (T dp) → ∃ g' t', wm_TO g = tgt g' ∧ wm_C h0 tp n j a 0 0 g' (wl_x tp n s) (o ++ Q) (B ++ [op s]) dp (wm_u T dp t') ∧ CT t')
    (hsub : ∀ g s l B T, wm_C h0 tp n j a 0 0 g s l B dp T → wm_b (m + 1) B → CT (T dp) → wm_W h0 tp n j a (m + 1) EFs B dp T (tgt g) (sub s l)) :
    ∀ (f s : Nat) (g : am_H) (o Q B : List Nat) (T : Nat → Nat), wm_C h0 tp n j a 0 0 g s o (B ++ Q.reverse) dp T → wm_q m Q → wm_b m B → EFs s (T dp) → T dp ≤ 1 → n ≤ s + f → wm_W h0 tp n j a m (fun s t => EFs s t ∧ op s = 0) B dp T (wm_TO g) (wp_lp tp n op sub f s (o ++ Q)) := by
  intro f
  induction f with
  | zero =>
    intro s g o Q B T h hq hb hE hT hn
    have h0' : op s = 0 := by
      rcases hO s with c | c
      · exact c
      · omega
    exact ⟨g, o, Q, T dp, rfl, rfl, hq, by rw [wm_u_i]; exact h, ⟨hE, h0'⟩, hT⟩
  | succ f ih =>
    intro s g o Q B T h hq hb hE hT hn
    rw [wp_lp]
    by_cases c0 : op s = 0
    · rw [if_pos c0]
      exact ⟨g, o, Q, T dp, rfl, rfl, hq, by rw [wm_u_i]; exact h, ⟨hE, c0⟩, hT⟩
    · have hOs := (hO s).resolve_left c0
      rw [if_neg c0]
      obtain ⟨g1, t1, e1, c1, ct⟩ := hstep g s o Q B T h hq hb c0 hE
      have hb1 : wm_b (m + 1) (B ++ [op s]) := Or.inr ⟨B, op s, rfl, Or.inr ⟨⟨hOs.1, hOs.2.1⟩, by rw [hm s c0]; omega⟩⟩
      have w := hsub g1 _ _ _ _ c1 hb1 (by rw [wm_u_s]; exact ct)
      have hx := wl_x_gt (tp := tp) hOs.2.2.2
      have gg := hG (wl_x tp n s) (o ++ Q) (wl_x_le (Nat.le_of_lt hOs.2.2.2))
      cases hr : sub (wl_x tp n s) (o ++ Q) with
      | inl q =>
        obtain ⟨f2, p2⟩ := q
        rw [hr] at w
        obtain ⟨g2, e2, c2⟩ := w
        exact ⟨g2, e1.trans e2, c2⟩
      | inr q =>
        obtain ⟨s2, l2⟩ := q
        rw [hr] at w gg
        obtain ⟨g2, o2, Q2, t2, e2, el, q2, c2, E2, t2'⟩ := w
        have er : B ++ (Q2 ++ [op s]).reverse = B ++ [op s] ++ Q2.reverse := by rw [List.reverse_append, List.append_assoc]; rfl
        have el2 : l2 ++ [op s] = o2 ++ (Q2 ++ [op s]) := by rw [← el, List.append_assoc]
        have q3 : wm_q m (Q2 ++ [op s]) := fun c hc => by
          rcases List.mem_append.mp hc with hc | hc
          · exact wm_q_up q2 (Nat.le_succ m) c hc
          · rw [List.mem_singleton.mp hc]; exact ⟨⟨hOs.1, hOs.2.1⟩, by rw [hm s c0]; exact Nat.le_refl _⟩
        rw [wm_u_u] at c2
        have w3 := ih s2 g2 o2 (Q2 ++ [op s]) B (wm_u T dp t2) (by rw [er]; exact c2) q3 hb (by rw [wm_u_s]; exact E2) (by rw [wm_u_s]; exact t2') (by have := gg.1; omega)
        show wm_W h0 tp n j a m (fun s t => EFs s t ∧ op s = 0) B dp T (wm_TO g) (wp_lp tp n op sub f s2 (l2 ++ [op s]))
        rw [el2]
        cases hr3 : wp_lp tp n op sub f s2 (o2 ++ (Q2 ++ [op s])) with
        | inl q =>
          obtain ⟨f3, p3⟩ := q
          rw [hr3] at w3
          obtain ⟨g3, e3, c3⟩ := w3
          exact ⟨g3, (e1.trans e2).trans e3, c3⟩
        | inr q =>
          obtain ⟨s3, l3⟩ := q
          rw [hr3] at w3
          obtain ⟨g3, o3, Q3, t3, e3, el3, q3, c3, E3, t3'⟩ := w3
          rw [wm_u_u] at c3
          exact ⟨g3, o3, Q3, t3, (e1.trans e2).trans e3, el3, q3, c3, E3, t3'⟩
theorem wm_cn {m D : Nat} {op : Nat → Nat} {sub : Nat → List Nat → wp_Q} {EFs : Nat → Nat → Prop} {CT : Nat → Prop} {tgt : am_H → Option am_Q}
    (hH : wm_H h0 tp n j) (hO : wp_O n op) (hG : wp_SG D n sub) (hm : ∀ s, op s ≠ 0 → wm_st (op s) = m)
    (hstep : ∀ g s o Q B T, wm_C h0 tp n j a 0 0 g s o (B ++ Q.reverse) dp T → wm_q m Q → wm_b m B → op s ≠ 0 → EFs s (T dp) → ∃ g' t', wm_TO g = tgt g' ∧ wm_C h0 tp n j a 0 0 g' (wl_x tp n s) (o ++ Q) (B ++ [op s]) dp (wm_u T dp t') ∧ CT t')
    (hsub : ∀ g s l B T, wm_C h0 tp n j a 0 0 g s l B dp T → wm_b (m + 1) B → CT (T dp) → wm_W h0 tp n j a (m + 1) EFs B dp T (tgt g) (sub s l))
    {x : Option am_Q} {s : Nat} {l : List Nat} {B : List Nat} {T : Nat → Nat} (hb : wm_b m B) (hw : wm_W h0 tp n j a (m + 1) EFs B dp T x (sub s l)) : wm_W h0 tp n j a m (fun s t => EFs s t ∧ op s = 0) B dp T x (wp_cn tp n op sub s l) := by
  have hn := hH.1.1
  unfold wp_cn
  cases hr : sub s l with
  | inl q =>
    obtain ⟨f2, p2⟩ := q
    rw [hr] at hw
    exact hw
  | inr q =>
    obtain ⟨s2, l2⟩ := q
    rw [hr] at hw
    obtain ⟨g2, o2, Q2, t2, e2, el, q2, c2, E2, t2'⟩ := hw
    have w3 := wm_lp hH hO hG hm hstep hsub 700 s2 g2 o2 Q2 B (wm_u T dp t2) c2 (wm_q_up q2 (Nat.le_succ m)) hb (by rw [wm_u_s]; exact E2) (by rw [wm_u_s]; exact t2') (by omega)
    rw [el] at w3
    show wm_W h0 tp n j a m (fun s t => EFs s t ∧ op s = 0) B dp T x (wp_lp tp n op sub 700 s2 l2)
    cases hr3 : wp_lp tp n op sub 700 s2 l2 with
    | inl q =>
      obtain ⟨f3, p3⟩ := q
      rw [hr3] at w3
      obtain ⟨g3, e3, c3⟩ := w3
      exact ⟨g3, e2.trans e3, c3⟩
    | inr q =>
      obtain ⟨s3, l3⟩ := q
      rw [hr3] at w3
      obtain ⟨g3, o3, Q3, t3, e3, el3, q3, c3, E3, t3'⟩ := w3
      rw [wm_u_u] at c3
      exact ⟨g3, o3, Q3, t3, e2.trans e3, el3, q3, c3, E3, t3'⟩
end
