/-! WINTER: the class reads an expression -/
def wf_y (D i k : Nat) : Bool := decide (i = 1 ∧ (k = 3 ∨ k = 4 ∨ k = 6 ∨ k = 7 ∨ k = 8) ∨ i = D ∧ k = 3 ∨ i = D + 1)
theorem wf_y_t {D i k : Nat} (h : i = 1 ∧ (k = 3 ∨ k = 4 ∨ k = 6 ∨ k = 7 ∨ k = 8) ∨ i = D ∧ k = 3 ∨ i = D + 1) : wf_y D i k = true := decide_eq_true h
theorem wf_y_f {D i k : Nat} (h : ¬ (i = 1 ∧ (k = 3 ∨ k = 4 ∨ k = 6 ∨ k = 7 ∨ k = 8) ∨ i = D ∧ k = 3 ∨ i = D + 1)) : wf_y D i k = false := decide_eq_false h
theorem wf_xy {D i k : Nat} (h : wf_y D i k = false) : wf_x i k = false := wf_x_f (fun c => by have := of_decide_eq_false h; omega)
def wf_g (D i k : Nat) : Bool := decide (i = 1 ∧ (k = 6 ∨ k = 7 ∨ k = 8) ∨ i = D ∧ k = 3 ∨ i = D + 1)
theorem wf_g_t {D i k : Nat} (h : i = 1 ∧ (k = 6 ∨ k = 7 ∨ k = 8) ∨ i = D ∧ k = 3 ∨ i = D + 1) : wf_g D i k = true := decide_eq_true h
theorem wf_g_f {D i k : Nat} (h : ¬ (i = 1 ∧ (k = 6 ∨ k = 7 ∨ k = 8) ∨ i = D ∧ k = 3 ∨ i = D + 1)) : wf_g D i k = false := decide_eq_false h
theorem wf_xg {D i k : Nat} (h : wf_g D i k = false) : wf_x i k = false := wf_x_f (fun c => by have := of_decide_eq_false h; omega)
theorem wf_gy {D i k : Nat} (h : wf_y D i k = false) : wf_g D i k = false := wf_g_f (fun c => by have := of_decide_eq_false h; omega)
def wc_dj (D j : Nat) : Prop := (D = 12 ∨ D = 52) ∧ j = 0 ∨ (D = 15 ∨ D = 55) ∧ j = 1
theorem wc_dj.do {D j : Nat} (h : wc_dj D j) : pc_do D := by unfold wc_dj at h; unfold pc_do; omega
theorem wc_dg0 {α : Type} {D j : Nat} (h : wc_dj D j) (x : Option Nat) (f : Nat → Option α) : am_gr (am_rs1 D 0) x f = f (1000 + j) := by
  rcases h with ⟨rfl | rfl, rfl⟩ | ⟨rfl | rfl, rfl⟩ <;> rfl
theorem wc_dS {D j : Nat} (h : wc_dj D j) : j < 17 ∧ am_str j = (wl_S (wl_V j)).map nI ∧ (0 < (wl_S (wl_V j)).length ∧ (wl_S (wl_V j)).length < 1000) ∧ (wl_V j).length = 7 ∧ ∀ a, a ∈ wl_V j → a < 25 := by
  rcases h with ⟨_, rfl⟩ | ⟨_, rfl⟩
  · exact ⟨by omega, wl_str0, by decide, by decide, by decide⟩
  · exact ⟨by omega, wl_str1, by decide, by decide, by decide⟩
def wc_E (h0 : am_H) (D : Nat) (tp : Nat → Nat) (n : Nat) (g : am_H) : wp_Q → Prop
  | .inl (f, p) => am_kp (wf_y D) h0 g ∧ (∃ s, wc_X g tp n s) ∧ am_I g 1 4 = nI f ∧ (1 ≤ f ∧ f ≤ 6) ∧ am_I g 1 3 = nI p
  | .inr (s, l) => am_kp (wf_g D) h0 g ∧ wc_X g tp n s ∧ am_I g 1 4 = nI 0 ∧ pc_D g D l
theorem wc_X.fr {g g' : am_H} {tp : Nat → Nat} {n s : Nat} (h : wc_X g tp n s) (e : ∀ k, k = 5 ∨ k = 6 ∨ k = 7 ∨ k = 8 → am_I g' 1 k = am_I g 1 k) : wc_X g' tp n s := by
  obtain ⟨a, b, c, d, f⟩ := h
  exact ⟨a, (e _ (by omega)).trans b, (e _ (by omega)).trans c, (e _ (by omega)).trans d, (e _ (by omega)).trans f⟩
theorem pc_D.fr {g g' : am_H} {D : Nat} {l : List Nat} (h : pc_D g D l) (e1 : am_I g' D 3 = am_I g D 3) (e2 : ∀ i, am_I g' (D + 1) i = am_I g (D + 1) i) : pc_D g' D l := ⟨e1.trans h.1, fun i hi => (e2 i).trans (h.2 i hi)⟩
/-! ranks -/
theorem wr_1 {a ρ : Nat} (h : a ≤ 7) (h2 : 7 < ρ) : (Nat.blt a ρ && true) = true := by rw [pz_bl (by omega)]; rfl
theorem wr_2 {a ρ : Nat} (h : a < ρ) : (Nat.blt a ρ && true) = true := by rw [pz_bl h]; rfl
theorem wr_78 (a : List Value) : am_rk 78 a ≤ 7 := show am_rs 78 ≤ 7 by decide
theorem wr_109 (a : List Value) : am_rk 109 a ≤ 7 := show am_rs 109 ≤ 7 by decide
theorem wr_110 (a : List Value) : am_rk 110 a ≤ 7 := show am_rs 110 ≤ 7 by decide
theorem wr_116 (a : List Value) : am_rk 116 a ≤ 7 := show am_rs 116 ≤ 7 by decide
theorem wr_118 (a : List Value) : am_rk 118 a ≤ 7 := show am_rs 118 ≤ 7 by decide
theorem wr_119 (a : List Value) : am_rk 119 a ≤ 7 := show am_rs 119 ≤ 7 by decide
theorem wr_129 {D w : Nat} (hw : w < 1000) : am_rk 129 [.ref 1, .ref D, .int (nI w)] = 7 + 8 * (7 - w) + 7 := by
  show 7 + 8 * (7 - (nI w).toNatClampNeg) + 7 = _
  rw [nI_clamp (by omega)]
theorem wr_130 {D w : Nat} (hw : w < 1000) : am_rk 130 [.ref 1, .ref D, .int (nI w)] = 7 + 8 * (7 - w) + 6 := by
  show 7 + 8 * (7 - (nI w).toNatClampNeg) + 6 = _
  rw [nI_clamp (by omega)]
theorem wr_131 {D w : Nat} (hw : w < 1000) : am_rk 131 [.ref 1, .ref D, .int (nI w)] = 7 + 8 * (7 - w) + 5 := by
  show 7 + 8 * (7 - (nI w).toNatClampNeg) + 5 = _
  rw [nI_clamp (by omega)]
theorem wr_132 {D w : Nat} (hw : w < 1000) : am_rk 132 [.ref 1, .ref D, .int (nI w)] = 7 + 8 * (7 - w) + 4 := by
  show 7 + 8 * (7 - (nI w).toNatClampNeg) + 4 = _
  rw [nI_clamp (by omega)]
theorem wr_133 {D w : Nat} (hw : w < 1000) : am_rk 133 [.ref 1, .ref D, .int (nI w)] = 7 + 8 * (7 - w) + 3 := by
  show 7 + 8 * (7 - (nI w).toNatClampNeg) + 3 = _
  rw [nI_clamp (by omega)]
theorem wr_134 {D w : Nat} (hw : w < 1000) : am_rk 134 [.ref 1, .ref D, .int (nI w)] = 7 + 8 * (7 - w) + 2 := by
  show 7 + 8 * (7 - (nI w).toNatClampNeg) + 2 = _
  rw [nI_clamp (by omega)]
theorem wr_135 {D w : Nat} (hw : w < 1000) : am_rk 135 [.ref 1, .ref D, .int (nI w)] = 7 + 8 * (7 - w) + 1 := by
  show 7 + 8 * (7 - (nI w).toNatClampNeg) + 1 = _
  rw [nI_clamp (by omega)]
section
variable {h0 : am_H} {D n j w : Nat} {tp : Nat → Nat}
theorem wc_E.kp {g : am_H} {r : wp_Q} (h : wc_E h0 D tp n g r) : am_kp (wf_y D) h0 g := by
  match r, h with
  | .inl _, h => exact h.1
  | .inr _, h => exact h.1.up fun _ _ => wf_gy
theorem wc_E.X {g : am_H} {r : wp_Q} (h : wc_E h0 D tp n g r) : ∃ s, wc_X g tp n s := by
  match r, h with
  | .inl _, h => exact h.2.1
  | .inr (s, _), h => exact ⟨s, h.2.1⟩
theorem wc_E.ty {g : am_H} {r : wp_Q} (h : wc_E h0 D tp n g r) (hD : pc_do D) (ht : wc_tp h0 tp n) : wc_tp g tp n := ht.kp h.kp (fun k => wf_y_f (by unfold pc_do at hD; omega))
theorem wc_E.f0 {g : am_H} {f p : Nat} (h : wc_E h0 D tp n g (.inl (f, p))) : ¬ am_I g 1 4 = 0 := by
  rw [h.2.2.1]; exact nI_ne0 h.2.2.2.1.1 (by have := h.2.2.2.1.2; omega)
theorem s109E {g : am_H} {r : wp_Q} {f : Nat} (h : wc_E h0 D tp n g r) (hf : 1 ≤ f ∧ f ≤ 6) : am_RV (am_run am_M 109 [.ref 1, .int (nI f)] g) (fun g' => wc_E h0 D tp n g' (wp_bd r (fun s _ => .inl (f, s)))) := by
  match r, h with
  | .inl (f, p), h => rw [e109, if_neg h.f0]; exact ⟨g, rfl, h⟩
  | .inr (s, l), h =>
    obtain ⟨kp, hX, h4, hl⟩ := h
    rw [e109, if_pos (by rw [h4]; rfl)]
    dsimp only
    refine ⟨_, rfl, ((kp.up fun _ _ => wf_gy).sI _ (wf_y_t (by omega))).sI _ (wf_y_t (by omega)), ⟨s, hX.fr fun k hk => ?_⟩, ?_, hf, ?_⟩
    · rw [am_I_s2 _ _ _ _ (by omega), am_I_s2 _ _ _ _ (by omega)]
    · rw [am_I_s2 _ _ _ _ (by omega), am_I_s]
    · rw [am_I_s, am_I_s2 _ _ _ _ (by omega)]; exact hX.2.2.2.1
theorem s110E {g : am_H} {r : wp_Q} (hD : pc_do D) (ht : wc_tp h0 tp n) (h : wc_E h0 D tp n g r) : am_RV (am_run am_M 110 [.ref 1] g) (fun g' => wc_E h0 D tp n g' (wp_bd r (fun s l => .inr (wl_x tp n s, l)))) := by
  have htg := h.ty hD ht
  match r, h with
  | .inl (f, p), h =>
    obtain ⟨kp, ⟨s, hX⟩, h4, hf, h3⟩ := h
    refine (s110X htg hX).mono fun g' hg => ?_
    obtain ⟨k, hX'⟩ := hg
    exact ⟨kp.trans (k.up fun i k => wf_xy), ⟨_, hX'⟩, (k.get 1 4 (wf_x_f (by omega))).trans h4, hf, (k.get 1 3 (wf_x_f (by omega))).trans h3⟩
  | .inr (s, l), h =>
    obtain ⟨kp, hX, h4, hl⟩ := h
    refine (s110X htg hX).mono fun g' hg => ?_
    obtain ⟨k, hX'⟩ := hg
    have h1 : D ≠ 1 := by unfold pc_do at hD; omega
    exact ⟨kp.trans (k.up fun i k => wf_xg), hX', (k.get 1 4 (wf_x_f (by omega))).trans h4, hl.fr (k.get _ _ (wf_x_f (by omega))) (fun i => k.get _ _ (wf_x_f (by unfold pc_do at hD; omega)))⟩
theorem put_any {r m : Nat} (ht : am_ty r = (16, m)) (hr : r < 100) (hm : m < 2 ^ 31) (a v : Int32) (h : am_H) : am_run am_M 67 [.ref r, .int a, .int v] h = some (.inl none, h) ∨ ∃ k, am_run am_M 67 [.ref r, .int a, .int v] h = some (.inl none, am_sI h r k v) := by
  rcases pk_ix a hm with c | c | ⟨k, hk, rfl⟩
  · exact Or.inl (put_no ht hr (Or.inl c) v h)
  · exact Or.inl (put_no ht hr (Or.inr c) v h)
  · exact Or.inr ⟨k, put_ok ht hr hm hk v h⟩
theorem s78E {g : am_H} {r : wp_Q} {c : Nat} {v : Int32} (hD : pc_do D) (h : wc_E h0 D tp n g r) (hl : ∀ s l, r = .inr (s, l) → l.length < 700 ∧ v = nI c) : am_RV (am_run am_M 78 [.ref D, .int v] g) (fun g' => wc_E h0 D tp n g' (wp_bd r (fun s l => .inr (s, l ++ [c])))) := by
  have hlt := pc_dlt hD
  have h1 : D ≠ 1 ∧ D + 1 ≠ 1 := by unfold pc_do at hD; omega
  rw [e78, pc_dch hD, pc_dg1 hD, pc_dch hD]
  match r, h, hl with
  | .inl (f, p), h, _ =>
    obtain ⟨kp, ⟨s, hX⟩, h4, hf, h3⟩ := h
    have key : ∀ g1, am_kp (wf_y D) g g1 → (∀ k, am_I g1 1 k = am_I g 1 k) → am_RV (am_ch 100 D 1 (am_ch 100 D 1 ((fun g3 => some (.inl none, g3)) (am_sI g1 D 3 ((am_I g1 D 3) + (nI 1)))))) (fun g' => wc_E h0 D tp n g' (.inl (f, p))) := fun g1 k1 e1 => by
      rw [pc_dch hD, pc_dch hD]
      refine ⟨_, rfl, (kp.trans k1).sI _ (wf_y_t (by omega)), ⟨s, hX.fr fun k hk => ?_⟩, ?_, hf, ?_⟩
      · rw [am_I_s1 _ _ _ _ (by omega)]; exact e1 k
      · rw [am_I_s1 _ _ _ _ (by omega), e1]; exact h4
      · rw [am_I_s1 _ _ _ _ (by omega), e1]; exact h3
    rcases put_any (pc_d1 hD) (by omega) (by omega) (am_I g D 3) v g with e | ⟨k, e⟩
    · rw [e, am_bV_ok]; exact key g (am_kp.refl _ _) (fun _ => rfl)
    · rw [e, am_bV_ok]; exact key _ ((am_kp.refl _ _).sI _ (wf_y_t (by omega))) (fun k2 => by rw [am_I_s1 _ _ _ _ (by omega)])
  | .inr (s, l), h, hl =>
    obtain ⟨kp, hX, h4, hd⟩ := h
    obtain ⟨hl7, rfl⟩ := hl s l rfl
    rw [hd.1, put_ok (pc_d1 hD) (by omega) (by omega) hl7, am_bV_ok, pc_dch hD, pc_dch hD]
    refine ⟨_, rfl, (kp.sI _ (wf_g_t (by omega))).sI _ (wf_g_t (by omega)), hX.fr fun k hk => ?_, ?_, ?_, fun i hi => ?_⟩
    · rw [am_I_s1 _ _ _ _ (by omega), am_I_s1 _ _ _ _ (by omega)]
    · rw [am_I_s1 _ _ _ _ (by omega), am_I_s1 _ _ _ _ (by omega)]; exact h4
    · rw [am_I_s, am_I_s1 _ _ _ _ (by omega), hd.1, nI_add, wp_l1]
    · rw [wp_l1] at hi
      rw [am_I_s1 _ _ _ _ (by omega)]
      by_cases e : i = l.length
      · rw [e, am_I_s, List.getD_eq_getElem?_getD, List.getElem?_append_right (Nat.le_refl _), Nat.sub_self]; rfl
      · rw [am_I_s2 _ _ _ _ e, hd.2 i (by omega), List.getD_eq_getElem?_getD, List.getD_eq_getElem?_getD, List.getElem?_append_left (by omega)]
theorem s116E {g : am_H} {r : wp_Q} {k : Nat} {ws : List Nat} (hk : k < 17) (hs : am_str k = (wl_S ws).map nI) (hl : 0 < (wl_S ws).length ∧ (wl_S ws).length < 1000) (hws : ∀ a, a ∈ ws → a < 25) (hD : pc_do D) (ht : wc_tp h0 tp n) (h : wc_E h0 D tp n g r) : ∃ s, wc_X g tp n s ∧ am_run am_M 116 [.ref 1, .ref (1000 + k)] g = some (.inl (some (.int (wl_cx ws (wl_w tp n s)))), g) ∧ ∀ s' l', r = .inr (s', l') → s' = s := by
  have htg := h.ty hD ht
  match r, h with
  | .inl (f, p), h =>
    obtain ⟨s, hX⟩ := h.X
    exact ⟨s, hX, s116 hk hs hl hws htg hX, fun _ _ e => absurd e (by simp)⟩
  | .inr (s, l), h => exact ⟨s, h.2.1, s116 hk hs hl hws htg h.2.1, fun s' l' e => (Prod.mk.inj (Sum.inr.inj e)).1.symm⟩
/-- a number where it stands -/
def wp_nh (tp : Nat → Nat) (n s : Nat) (l : List Nat) : wp_Q := if wl_k tp n s = 2 then (if wl_z tp n s - s ≤ 4 then .inr (s, l) else .inl (2, s)) else .inl (1, s)
theorem s119_42 {g : am_H} {s : Nat} (ht : wc_tp g tp n) (hX : wc_X g tp n s) (h2 : wl_k tp n s = 2) (h4 : wl_z tp n s - s ≤ 4) : am_vn am_M 1 119 42 [some (.ref 1), some (.int (nI 0)), some (.int (nI s))] [] g = some (.inl (some (.int (nI (wl_v tp n s)))), g) := by
  have hn := ht.1
  obtain ⟨a1, a2, a3⟩ := wl_k_2.mp h2
  have hzs := wl_z_gt (tp := tp) a1
  have hzn := wl_z_le (tp := tp) hX.1
  have hz : wl_z tp n s = wl_e wl_dg tp n s := by
    unfold wl_z; rw [if_neg (by omega), if_neg (by rw [a2]; decide), if_pos a3]
  have hd : ∀ i, s + i < wl_z tp n s → 48 ≤ tp (s + i) ∧ tp (s + i) ≤ 57 := fun i hi => of_decide_eq_true (wl_e_in wl_dg tp n _ s (s + i) rfl (by omega) (by rw [← hz]; exact hi))
  obtain ⟨g2, e, hg⟩ := am_for0 (fun i (g' : am_H) => am_vn am_M 1 119 42 [some (.ref 1), some (.int (nI (wl_n tp s i))), some (.int (nI (s + i)))] [] g') (fun _ g' => g' = g) (wl_z tp n s - s) g rfl (fun i g' hi hg => by
    subst hg
    have hdi := hd i (by omega)
    refine ⟨g', ?_, rfl⟩
    rw [e119_42, hX.2.2.2.2, if_neg (nI_ge (by omega) (by omega)), at_ok (r := 2) (n := 700) rfl (by omega) (by omega) (by omega), am_bI_ok, ht.2.2 _ (by omega), pk_mul, nI_add, pk_sub (by omega), pz_succ, wl_n, show 10 * wl_n tp s i + (tp (s + i) - 48) = wl_n tp s i * 10 + tp (s + i) - 48 by omega]
    rfl)
  subst hg
  refine Eq.trans e ?_
  rw [e119_42, hX.2.2.2.2, if_pos (nI_le (by omega) (by omega))]
  unfold wl_v
  rw [Nat.min_eq_right h4]
theorem s119E {g : am_H} {r : wp_Q} (hD : pc_do D) (ht : wc_tp h0 tp n) (h : wc_E h0 D tp n g r) : am_RI (am_run am_M 119 [.ref 1] g) (fun x g' => wc_E h0 D tp n g' (wp_bd r (wp_nh tp n)) ∧ ∀ s l, r = .inr (s, l) → wl_k tp n s = 2 → wl_z tp n s - s ≤ 4 → x = nI (wl_v tp n s)) := by
  have htg := h.ty hD ht
  have hn := htg.1
  have ref : ∀ f, 1 ≤ f ∧ f ≤ 6 → am_RI (am_bV [] (am_run am_M 109 [(.ref 1), (.int (nI f))] g) fun g1 => some (.inl (some (.int (nI 0))), g1)) (fun x g' => x = nI 0 ∧ wc_E h0 D tp n g' (wp_bd r (fun s _ => .inl (f, s)))) := fun f hf => pz_VI (s109E h hf) fun g' hg => ⟨_, _, rfl, rfl, hg⟩
  match r, h with
  | .inl (f, p), h =>
    obtain ⟨s, hX⟩ := h.X
    have hkl := wl_k_le (tp := tp) (n := n) (s := s)
    have hzs := wl_z_ge (tp := tp) hX.1
    have hzn := wl_z_le (tp := tp) hX.1
    rw [e119, hX.2.2.1, hX.2.2.2.1, hX.2.2.2.2, pk_sub hzs]
    by_cases c : wl_k tp n s = 2
    · rw [if_pos (by rw [c])]
      by_cases c2 : wl_z tp n s - s ≤ 4
      · rw [if_pos (nI_le c2 (by omega)), s119_42 htg hX c c2]
        exact ⟨_, _, rfl, h, fun _ _ e => absurd e (by simp)⟩
      · rw [if_neg (nI_ge (by omega) (by omega))]
        exact (ref 2 (by omega)).mono fun v g' hg => ⟨hg.2, fun _ _ e => absurd e (by simp)⟩
    · rw [if_neg (fun e => c ((nI_eq (by omega) (by omega)).mp e))]
      exact (ref 1 (by omega)).mono fun v g' hg => ⟨hg.2, fun _ _ e => absurd e (by simp)⟩
  | .inr (s, l), h =>
    have hX := h.2.1
    have hkl := wl_k_le (tp := tp) (n := n) (s := s)
    have hzs := wl_z_ge (tp := tp) hX.1
    have hzn := wl_z_le (tp := tp) hX.1
    rw [e119, hX.2.2.1, hX.2.2.2.1, hX.2.2.2.2, pk_sub hzs]
    show am_RI _ (fun x g' => wc_E h0 D tp n g' (wp_nh tp n s l) ∧ _)
    unfold wp_nh
    by_cases c : wl_k tp n s = 2
    · rw [if_pos (show nI (wl_k tp n s) = nI 2 by rw [c]), if_pos c]
      by_cases c2 : wl_z tp n s - s ≤ 4
      · rw [if_pos (nI_le c2 (by omega)), if_pos c2, s119_42 htg hX c c2]
        exact ⟨_, _, rfl, h, fun s' l' e _ _ => by rw [(Prod.mk.inj (Sum.inr.inj e)).1]⟩
      · rw [if_neg (nI_ge (by omega) (by omega)), if_neg c2]
        exact (ref 2 (by omega)).mono fun v g' hg => ⟨hg.2, fun s' l' e _ h4 => absurd h4 (by rw [← (Prod.mk.inj (Sum.inr.inj e)).1]; exact c2)⟩
    · rw [if_neg (fun e => c ((nI_eq (by omega) (by omega)).mp e)), if_neg c]
      exact (ref 1 (by omega)).mono fun v g' hg => ⟨hg.2, fun s' l' e h2 _ => absurd h2 (by rw [← (Prod.mk.inj (Sum.inr.inj e)).1]; exact c)⟩
theorem s118E {g : am_H} {r : wp_Q} {c : Nat} (hD : pc_do D) (ht : wc_tp h0 tp n) (h : wc_E h0 D tp n g r) (hc : c < 1000) : am_RV (am_run am_M 118 [.ref 1, .int (nI c)] g) (fun g' => wc_E h0 D tp n g' (wp_bd r (fun s l => if wl_k tp n s = c then .inr (wl_x tp n s, l) else .inl (1, s)))) := by
  obtain ⟨s, hX⟩ := h.X
  have hkl := wl_k_le (tp := tp) (n := n) (s := s)
  have ha : am_RV (am_bV [] (am_run am_M 110 [(.ref 1)] g) fun g1 => some (.inl none, g1)) (fun g' => wc_E h0 D tp n g' (wp_bd r (fun s l => .inr (wl_x tp n s, l)))) := pz_VV (s110E hD ht h) fun g' hg => ⟨_, rfl, hg⟩
  have hb : am_RV (am_bV [] (am_run am_M 109 [(.ref 1), (.int (nI 1))] g) fun g2 => am_bV [] (am_run am_M 110 [(.ref 1)] g2) fun g3 => some (.inl none, g3)) (fun g' => wc_E h0 D tp n g' (wp_bd r (fun s l => .inl (1, s)))) := pz_VV (s109E h (by omega)) fun g' hg => pz_VV (s110E hD ht hg) fun g2 hg2 => ⟨_, rfl, by
    match r, hg2 with
    | .inl _, hg2 => exact hg2
    | .inr _, hg2 => exact hg2⟩
  rw [e118]
  match r, h with
  | .inl (f, p), h =>
    split
    · exact ha
    · exact hb
  | .inr (s2, l), h =>
    show am_RV _ (fun g' => wc_E h0 D tp n g' (if wl_k tp n s2 = c then .inr (wl_x tp n s2, l) else .inl (1, s2)))
    have hkl2 := wl_k_le (tp := tp) (n := n) (s := s2)
    rw [h.2.1.2.2.1]
    by_cases cc : wl_k tp n s2 = c
    · rw [if_pos (show nI (wl_k tp n s2) = nI c by rw [cc]), if_pos cc]; exact ha
    · rw [if_neg (fun e => cc ((nI_eq (by omega) (by omega)).mp e)), if_neg cc]; exact hb
def wc_C (h0 : am_H) (D : Nat) (tp : Nat → Nat) (n w m : Nat) (sub : Nat → List Nat → wp_Q) : Prop := ∀ g s l, wc_E h0 D tp n g (.inr (s, l)) → l.length ≤ s → am_RV (am_run am_M m [.ref 1, .ref D, .int (nI w)] g) (fun g' => wc_E h0 D tp n g' (sub s l))
def wc_F (h0 : am_H) (D : Nat) (tp : Nat → Nat) (n w m : Nat) : Prop := ∀ g e, wc_E h0 D tp n g (.inl e) → am_RV (am_run am_M m [.ref 1, .ref D, .int (nI w)] g) (fun g' => wc_E h0 D tp n g' (.inl e))
theorem wc_CF {m : Nat} {sub : Nat → List Nat → wp_Q} (hC : wc_C h0 D tp n w m sub) (hF : wc_F h0 D tp n w m) {g : am_H} {r : wp_Q} (h : wc_E h0 D tp n g r) (hl : ∀ s l, r = .inr (s, l) → l.length ≤ s) : am_RV (am_run am_M m [.ref 1, .ref D, .int (nI w)] g) (fun g' => wc_E h0 D tp n g' (wp_bd r sub)) := by
  match r, h, hl with
  | .inl e, h, _ => exact hF g e h
  | .inr (s, l), h, hl => exact hC g s l h (hl s l rfl)
theorem wl_cx1 {a x : Nat} : wl_cx [a] x = if a = x then nI 0 else (-1 : Int32) := by
  unfold wl_cx wl_ix
  by_cases c : a = x
  · rw [if_pos c, if_pos c]; rfl
  · rw [if_neg c, if_neg c]; rfl
theorem wl_m1 : ¬ ((-1 : Int32) = 0) := by decide
/-! in a fault -/
theorem s129F (hw : w ≤ 7) : wc_F h0 D tp n w 129 := by
  rintro g ⟨f, p⟩ h
  have hk := wr_129 (D := D) (show w < 1000 by omega)
  have fin : ∀ g, wc_E h0 D tp n g (.inl (f, p)) → am_RV (am_vn am_M (am_rk 129 [.ref 1, .ref D, .int (nI w)]) 129 36 [some (.ref 1), some (.ref D), some (.int (nI w)), none] [] g) (fun g' => wc_E h0 D tp n g' (.inl (f, p))) := fun g h => by
    rw [e129_36, if_neg h.f0]; exact ⟨g, rfl, h⟩
  rw [e129]
  have hr : (Nat.blt (am_rk 109 [(.ref 1), (.int (nI 2))]) (am_rk 129 [.ref 1, .ref D, .int (nI w)]) && true) = true := wr_1 (wr_109 _) (by omega)
  rw [hr, am_cd_t]
  have two : am_RV (am_bV [] (am_run am_M 109 [(.ref 1), (.int (nI 2))] g) fun g1 => am_vn am_M (am_rk 129 [.ref 1, .ref D, .int (nI w)]) 129 36 [some (.ref 1), some (.ref D), some (.int (nI w)), none] [] g1) (fun g' => wc_E h0 D tp n g' (.inl (f, p))) := pz_VV (s109E h (by omega)) fun g' hg => fin g' hg
  split
  · exact fin g h
  · split
    · exact two
    · split
      · exact two
      · split
        · exact two
        · exact fin g h
theorem s135_57F {ρ : Nat} {x : Int32} (hD : pc_do D) (ht : wc_tp h0 tp n) (hρ : 7 < ρ) {g : am_H} {f p : Nat} (h : wc_E h0 D tp n g (.inl (f, p))) : am_RV (am_vn am_M ρ 135 57 [some (.ref 1), some (.ref D), none, some (.int x)] [] g) (fun g' => wc_E h0 D tp n g' (.inl (f, p))) := by
  rw [e135_57, pc_dch hD, wr_1 (wr_78 _) hρ, am_cd_t]
  refine pz_VV (s78E (c := 0) hD h (fun _ _ e => absurd e (by simp))) fun g' hg => ?_
  rw [wr_1 (wr_110 _) hρ, am_cd_t]
  exact pz_VV (s110E hD ht hg) fun g2 hg2 => ⟨_, rfl, hg2⟩
theorem s135F (hj : wc_dj D j) (ht : wc_tp h0 tp n) (hw : w ≤ 6) : wc_F h0 D tp n w 135 := by
  rintro g ⟨f, p⟩ h
  have hD := hj.do
  obtain ⟨j1, j2, j3, j4, j5⟩ := wc_dS hj
  have hk := wr_135 (D := D) (show w < 1000 by omega)
  have hk9 := wr_129 (D := D) (show w + 1 < 1000 by omega)
  have h7 : 7 < am_rk 135 [.ref 1, .ref D, .int (nI w)] := by omega
  rw [e135]
  split
  · rw [wr_1 (wr_110 _) h7, am_cd_t]
    refine pz_VV (s110E hD ht h) fun g1 hg1 => ?_
    rw [nI_add, wr_2 (show am_rk 129 [.ref 1, .ref D, .int (nI (w + 1))] < am_rk 135 [.ref 1, .ref D, .int (nI w)] by omega), am_cd_t]
    refine pz_VV (s129F (w := w + 1) (by omega) g1 (f, p) hg1) fun g2 hg2 => ?_
    rw [wr_1 (wr_118 _) h7, am_cd_t]
    exact pz_VV (s118E (c := 41) hD ht hg2 (by omega)) fun g3 hg3 => ⟨_, rfl, hg3⟩
  · split
    · rw [pc_dch hD, wc_dg0 hj, wr_1 (wr_116 _) h7, am_cd_t]
      obtain ⟨s, hX, e, _⟩ := s116E j1 j2 j3 j5 hD ht h
      rw [e, am_bI_ok]
      split
      · rw [wr_1 (wr_109 _) h7, am_cd_t]
        exact pz_VV (s109E h (by omega)) fun g1 hg1 => s135_57F hD ht h7 hg1
      · exact s135_57F hD ht h7 h
    · rw [wr_1 (wr_119 _) h7, am_cd_t]
      refine pz_IV (s119E hD ht h) fun x g1 hg1 => ?_
      rw [pc_dch hD, wr_1 (wr_78 _) h7, am_cd_t]
      refine pz_VV (s78E (c := 0) hD hg1.1 (fun _ _ e => absurd e (by simp [wp_bd]))) fun g2 hg2 => ?_
      rw [wr_1 (wr_110 _) h7, am_cd_t]
      exact pz_VV (s110E hD ht hg2) fun g3 hg3 => ⟨_, rfl, hg3⟩
theorem s134_8F {ρ : Nat} {v : Int32} {g : am_H} {f p : Nat} (h : wc_E h0 D tp n g (.inl (f, p))) : am_vn am_M ρ 134 8 [some (.ref 1), some (.ref D), some (.int (nI w)), some (.int v), none] [] g = some (.inl none, g) := by
  rw [e134_8]
  split
  · rfl
  · split
    · rw [e134_33, if_neg h.f0]
    · split
      · rw [e134_33, if_neg h.f0]
      · rfl
theorem s134e (hw : w ≤ 6) {g : am_H} {f p : Nat} (hsub : am_RV (am_run am_M 135 [.ref 1, .ref D, .int (nI w)] g) (fun g' => wc_E h0 D tp n g' (.inl (f, p)))) : am_RV (am_run am_M 134 [.ref 1, .ref D, .int (nI w)] g) (fun g' => wc_E h0 D tp n g' (.inl (f, p))) := by
  have hk := wr_134 (D := D) (show w < 1000 by omega)
  have hs := wr_135 (D := D) (show w < 1000 by omega)
  rw [e134, wr_2 (show am_rk 135 [.ref 1, .ref D, .int (nI w)] < am_rk 134 [.ref 1, .ref D, .int (nI w)] by omega), am_cd_t]
  refine pz_VV hsub fun g1 hg1 => ?_
  rw [s134_8F hg1]
  exact ⟨_, rfl, hg1⟩
theorem s134F (hj : wc_dj D j) (ht : wc_tp h0 tp n) (hw : w ≤ 6) : wc_F h0 D tp n w 134 := by
  rintro g ⟨f, p⟩ h
  exact s134e hw (s135F hj ht hw g (f, p) h)
theorem s134_8 {ρ N : Nat} {sub : Nat → List Nat → wp_Q} (hD : pc_do D) (ht : wc_tp h0 tp n) (hw : w ≤ 6) (hρ : ρ = 7 + 8 * (7 - w) + 2) (hC : wc_C h0 D tp n w 135 sub) (hG : wp_SG N n sub) : ∀ (f v s : Nat) (l : List Nat) (g : am_H), v + f = 700 → wc_E h0 D tp n g (.inr (s, l)) → l.length ≤ s → am_RV (am_vn am_M ρ 134 8 [some (.ref 1), some (.ref D), some (.int (nI w)), some (.int (nI v)), none] [] g) (fun g' => wc_E h0 D tp n g' (wp_lp tp n (wp_om tp n) sub f s l)) := by
  have hn := ht.1
  intro f
  induction f with
  | zero =>
    intro v s l g hv h hl
    rw [e134_8, if_pos (nI_le (show 700 ≤ v by omega) (by omega))]
    exact ⟨g, rfl, h⟩
  | succ f ih =>
    intro v s l g hv h hl
    have hX := h.2.1
    have hkl := wl_k_le (tp := tp) (n := n) (s := s)
    have hO := wp_omO (tp := tp) (n := n) s
    -- a sign
    have go : ∀ c, c < 30000 → wp_om tp n s = c → 20000 ≤ c → am_RV (am_vn am_M ρ 134 58 [some (.ref 1), some (.ref D), some (.int (nI w)), some (.int (nI v)), none] [(.int (nI c))] g) (fun g' => wc_E h0 D tp n g' (wp_lp tp n (wp_om tp n) sub (f + 1) s l)) := fun c hc e hc2 => by
      rw [wp_lp, if_neg (by omega)]
      have hsn : s < n := by rcases hO with a | a <;> omega
      have hx := wl_x_gt (tp := tp) hsn
      have hxn := wl_x_le (tp := tp) hX.1
      have gg := hG (wl_x tp n s) l hxn
      rw [e134_58, wr_1 (wr_110 _) (by omega), am_cd_t]
      refine pz_VV (s110E hD ht h) fun g1 hg1 => ?_
      have hs := wr_135 (D := D) (show w < 1000 by omega)
      rw [wr_2 (show am_rk 135 [.ref 1, .ref D, .int (nI w)] < ρ by omega), am_cd_t]
      refine pz_VV (hC g1 _ l hg1 (by omega)) fun g2 hg2 => ?_
      rw [pc_dch hD, wr_1 (wr_78 _) (by omega), am_cd_t]
      cases hr : sub (wl_x tp n s) l with
      | inl q =>
        obtain ⟨f2, p2⟩ := q
        rw [hr] at hg2
        refine pz_VV (s78E (c := c) hD hg2 (fun _ _ e => absurd e (by simp))) fun g3 hg3 => ?_
        rw [s134_8F hg3]
        exact ⟨_, rfl, hg3⟩
      | inr q =>
        obtain ⟨s2, l2⟩ := q
        rw [hr] at hg2 gg
        have g1' := gg.1
        have g2' := gg.2.1
        have g3' := gg.2.2.1
        refine pz_VV (s78E (c := c) hD hg2 (fun s' l' e => by
          obtain ⟨_, rfl⟩ := Prod.mk.inj (Sum.inr.inj e)
          exact ⟨by omega, rfl⟩)) fun g3 hg3 => ?_
        rw [pz_succ, e]
        exact ih (v + 1) s2 (l2 ++ [c]) g3 (by omega) hg3 (by rw [wp_l1]; omega)
    rw [e134_8, if_neg (nI_ge (show v < 700 by omega) (by omega)), hX.2.2.1]
    by_cases k1 : wl_k tp n s = 42
    · rw [if_pos (by rw [k1]), e134_33, if_pos (by rw [h.2.2.1]; rfl), hX.2.2.1, if_pos (by rw [k1])]
      exact go 20007 (by omega) (by unfold wp_om; rw [if_pos k1]) (by omega)
    · rw [if_neg (fun e => k1 ((nI_eq (by omega) (by omega)).mp e))]
      by_cases k2 : wl_k tp n s = 47
      · rw [if_pos (by rw [k2]), e134_33, if_pos (by rw [h.2.2.1]; rfl), hX.2.2.1, if_neg (fun e => k1 ((nI_eq (by omega) (by omega)).mp e))]
        exact go 20008 (by omega) (by unfold wp_om; rw [if_neg k1, if_pos k2]) (by omega)
      · rw [if_neg (fun e => k2 ((nI_eq (by omega) (by omega)).mp e)), wp_lp, if_pos (by unfold wp_om; rw [if_neg k1, if_neg k2])]
        exact ⟨g, rfl, h⟩
theorem s134C {N : Nat} {sub : Nat → List Nat → wp_Q} (hD : pc_do D) (ht : wc_tp h0 tp n) (hw : w ≤ 6) (hC : wc_C h0 D tp n w 135 sub) (hG : wp_SG N n sub) : wc_C h0 D tp n w 134 (wp_cn tp n (wp_om tp n) sub) := by
  intro g s l h hl
  have hk := wr_134 (D := D) (show w < 1000 by omega)
  have hs := wr_135 (D := D) (show w < 1000 by omega)
  have gg := hG s l h.2.1.1
  rw [e134, wr_2 (show am_rk 135 [.ref 1, .ref D, .int (nI w)] < am_rk 134 [.ref 1, .ref D, .int (nI w)] by omega), am_cd_t]
  refine pz_VV (hC g s l h hl) fun g1 hg1 => ?_
  unfold wp_cn
  cases hr : sub s l with
  | inl q =>
    obtain ⟨f2, p2⟩ := q
    rw [hr] at hg1
    rw [s134_8F hg1]
    exact ⟨_, rfl, hg1⟩
  | inr q =>
    obtain ⟨s2, l2⟩ := q
    rw [hr] at hg1 gg
    have g3' := gg.2.2.1
    have g1' := gg.1
    exact s134_8 hD ht hw hk hC hG 700 0 s2 l2 g1 rfl hg1 (by omega)
theorem s133_8F {ρ : Nat} {v : Int32} {g : am_H} {f p : Nat} (h : wc_E h0 D tp n g (.inl (f, p))) : am_vn am_M ρ 133 8 [some (.ref 1), some (.ref D), some (.int (nI w)), some (.int v), none] [] g = some (.inl none, g) := by
  rw [e133_8]
  split
  · rfl
  · split
    · rw [e133_33, if_neg h.f0]
    · split
      · rw [e133_33, if_neg h.f0]
      · rfl
theorem s133e (hw : w ≤ 6) {g : am_H} {f p : Nat} (hsub : am_RV (am_run am_M 134 [.ref 1, .ref D, .int (nI w)] g) (fun g' => wc_E h0 D tp n g' (.inl (f, p)))) : am_RV (am_run am_M 133 [.ref 1, .ref D, .int (nI w)] g) (fun g' => wc_E h0 D tp n g' (.inl (f, p))) := by
  have hk := wr_133 (D := D) (show w < 1000 by omega)
  have hs := wr_134 (D := D) (show w < 1000 by omega)
  rw [e133, wr_2 (show am_rk 134 [.ref 1, .ref D, .int (nI w)] < am_rk 133 [.ref 1, .ref D, .int (nI w)] by omega), am_cd_t]
  refine pz_VV hsub fun g1 hg1 => ?_
  rw [s133_8F hg1]
  exact ⟨_, rfl, hg1⟩
theorem s133F (hj : wc_dj D j) (ht : wc_tp h0 tp n) (hw : w ≤ 6) : wc_F h0 D tp n w 133 := by
  rintro g ⟨f, p⟩ h
  exact s133e hw (s134F hj ht hw g (f, p) h)
theorem s133_8 {ρ N : Nat} {sub : Nat → List Nat → wp_Q} (hD : pc_do D) (ht : wc_tp h0 tp n) (hw : w ≤ 6) (hρ : ρ = 7 + 8 * (7 - w) + 3) (hC : wc_C h0 D tp n w 134 sub) (hG : wp_SG N n sub) : ∀ (f v s : Nat) (l : List Nat) (g : am_H), v + f = 700 → wc_E h0 D tp n g (.inr (s, l)) → l.length ≤ s → am_RV (am_vn am_M ρ 133 8 [some (.ref 1), some (.ref D), some (.int (nI w)), some (.int (nI v)), none] [] g) (fun g' => wc_E h0 D tp n g' (wp_lp tp n (wp_oa tp n) sub f s l)) := by
  have hn := ht.1
  intro f
  induction f with
  | zero =>
    intro v s l g hv h hl
    rw [e133_8, if_pos (nI_le (show 700 ≤ v by omega) (by omega))]
    exact ⟨g, rfl, h⟩
  | succ f ih =>
    intro v s l g hv h hl
    have hX := h.2.1
    have hkl := wl_k_le (tp := tp) (n := n) (s := s)
    have hO := wp_oaO (tp := tp) (n := n) s
    -- a sign
    have go : ∀ c, c < 30000 → wp_oa tp n s = c → 20000 ≤ c → am_RV (am_vn am_M ρ 133 58 [some (.ref 1), some (.ref D), some (.int (nI w)), some (.int (nI v)), none] [(.int (nI c))] g) (fun g' => wc_E h0 D tp n g' (wp_lp tp n (wp_oa tp n) sub (f + 1) s l)) := fun c hc e hc2 => by
      rw [wp_lp, if_neg (by omega)]
      have hsn : s < n := by rcases hO with a | a <;> omega
      have hx := wl_x_gt (tp := tp) hsn
      have hxn := wl_x_le (tp := tp) hX.1
      have gg := hG (wl_x tp n s) l hxn
      rw [e133_58, wr_1 (wr_110 _) (by omega), am_cd_t]
      refine pz_VV (s110E hD ht h) fun g1 hg1 => ?_
      have hs := wr_134 (D := D) (show w < 1000 by omega)
      rw [wr_2 (show am_rk 134 [.ref 1, .ref D, .int (nI w)] < ρ by omega), am_cd_t]
      refine pz_VV (hC g1 _ l hg1 (by omega)) fun g2 hg2 => ?_
      rw [pc_dch hD, wr_1 (wr_78 _) (by omega), am_cd_t]
      cases hr : sub (wl_x tp n s) l with
      | inl q =>
        obtain ⟨f2, p2⟩ := q
        rw [hr] at hg2
        refine pz_VV (s78E (c := c) hD hg2 (fun _ _ e => absurd e (by simp))) fun g3 hg3 => ?_
        rw [s133_8F hg3]
        exact ⟨_, rfl, hg3⟩
      | inr q =>
        obtain ⟨s2, l2⟩ := q
        rw [hr] at hg2 gg
        have g1' := gg.1
        have g2' := gg.2.1
        have g3' := gg.2.2.1
        refine pz_VV (s78E (c := c) hD hg2 (fun s' l' e => by
          obtain ⟨_, rfl⟩ := Prod.mk.inj (Sum.inr.inj e)
          exact ⟨by omega, rfl⟩)) fun g3 hg3 => ?_
        rw [pz_succ, e]
        exact ih (v + 1) s2 (l2 ++ [c]) g3 (by omega) hg3 (by rw [wp_l1]; omega)
    rw [e133_8, if_neg (nI_ge (show v < 700 by omega) (by omega)), hX.2.2.1]
    by_cases k1 : wl_k tp n s = 43
    · rw [if_pos (by rw [k1]), e133_33, if_pos (by rw [h.2.2.1]; rfl), hX.2.2.1, if_pos (by rw [k1])]
      exact go 20005 (by omega) (by unfold wp_oa; rw [if_pos k1]) (by omega)
    · rw [if_neg (fun e => k1 ((nI_eq (by omega) (by omega)).mp e))]
      by_cases k2 : wl_k tp n s = 45
      · rw [if_pos (by rw [k2]), e133_33, if_pos (by rw [h.2.2.1]; rfl), hX.2.2.1, if_neg (fun e => k1 ((nI_eq (by omega) (by omega)).mp e))]
        exact go 20006 (by omega) (by unfold wp_oa; rw [if_neg k1, if_pos k2]) (by omega)
      · rw [if_neg (fun e => k2 ((nI_eq (by omega) (by omega)).mp e)), wp_lp, if_pos (by unfold wp_oa; rw [if_neg k1, if_neg k2])]
        exact ⟨g, rfl, h⟩
theorem s133C {N : Nat} {sub : Nat → List Nat → wp_Q} (hD : pc_do D) (ht : wc_tp h0 tp n) (hw : w ≤ 6) (hC : wc_C h0 D tp n w 134 sub) (hG : wp_SG N n sub) : wc_C h0 D tp n w 133 (wp_cn tp n (wp_oa tp n) sub) := by
  intro g s l h hl
  have hk := wr_133 (D := D) (show w < 1000 by omega)
  have hs := wr_134 (D := D) (show w < 1000 by omega)
  have gg := hG s l h.2.1.1
  rw [e133, wr_2 (show am_rk 134 [.ref 1, .ref D, .int (nI w)] < am_rk 133 [.ref 1, .ref D, .int (nI w)] by omega), am_cd_t]
  refine pz_VV (hC g s l h hl) fun g1 hg1 => ?_
  unfold wp_cn
  cases hr : sub s l with
  | inl q =>
    obtain ⟨f2, p2⟩ := q
    rw [hr] at hg1
    rw [s133_8F hg1]
    exact ⟨_, rfl, hg1⟩
  | inr q =>
    obtain ⟨s2, l2⟩ := q
    rw [hr] at hg1 gg
    have g3' := gg.2.2.1
    have g1' := gg.1
    exact s133_8 hD ht hw hk hC hG 700 0 s2 l2 g1 rfl hg1 (by omega)
end
