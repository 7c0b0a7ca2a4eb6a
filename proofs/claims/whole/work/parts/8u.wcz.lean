/-! WINTER: the class's lines; its land while it is read -/
def wn_S (d : pw_L) (i : Nat) : Nat := if 1 ≤ i ∧ i < 1 + pw_n d 3 then pw_t d 8 (i - 1) else if 7 ≤ i ∧ i < 7 + pw_n d 3 then pw_t d 9 (i - 7) else if 37 ≤ i ∧ i < 37 + pw_n d 0 then pw_t d 7 (i - 37) else if 45 ≤ i ∧ i < 45 + pw_n d 0 then pw_t d 6 (i - 45) else 0
def wc_L (g : am_H) (L : Nat) (d : pw_L) : Prop :=
  (∀ i, i < 5 → am_I g L (11 + i) = nI (pw_n d i))
  ∧ (∀ a, a < pw_n d 1 → am_I g (L + 1) a = nI (pw_t d 0 a) ∧ am_I g (L + 2) a = nI (pw_t d 1 a))
  ∧ (∀ p, p < pw_n d 3 → am_I g (L + 3) p = nI (pw_t d 2 p) ∧ am_I g (L + 4) p = nI (pw_t d 3 p))
  ∧ (∀ i, i < pw_n d 4 → am_I g (L + 5) i = nI (pw_t d 4 i))
  ∧ (∀ j, j < 81 → am_I g (L + 6) j = nI (pw_t d 5 j))
  ∧ pc_D g (L + 9) (pw_d d 0) ∧ pc_D g (L + 12) (pw_d d 1)
  ∧ ∀ i, i < 49 → am_I g (L + 16) i = nI (wn_S d i)
def wf_L (L i k : Nat) : Bool := decide (i = 1 ∧ (k = 3 ∨ k = 4 ∨ k = 6 ∨ k = 7 ∨ k = 8) ∨ L ≤ i ∧ i ≤ L + 16)
theorem wf_L_t {L i k : Nat} (h : i = 1 ∧ (k = 3 ∨ k = 4 ∨ k = 6 ∨ k = 7 ∨ k = 8) ∨ L ≤ i ∧ i ≤ L + 16) : wf_L L i k = true := decide_eq_true h
theorem wf_L_f {L i k : Nat} (h : ¬ (i = 1 ∧ (k = 3 ∨ k = 4 ∨ k = 6 ∨ k = 7 ∨ k = 8) ∨ L ≤ i ∧ i ≤ L + 16)) : wf_L L i k = false := decide_eq_false h
def wf_H (L i k : Nat) : Bool := decide (i = 1 ∧ (k = 6 ∨ k = 7 ∨ k = 8) ∨ L ≤ i ∧ i ≤ L + 16)
theorem wf_H_t {L i k : Nat} (h : i = 1 ∧ (k = 6 ∨ k = 7 ∨ k = 8) ∨ L ≤ i ∧ i ≤ L + 16) : wf_H L i k = true := decide_eq_true h
theorem wf_H_f {L i k : Nat} (h : ¬ (i = 1 ∧ (k = 6 ∨ k = 7 ∨ k = 8) ∨ L ≤ i ∧ i ≤ L + 16)) : wf_H L i k = false := decide_eq_false h
theorem wf_HL {L i k : Nat} (h : wf_L L i k = false) : wf_H L i k = false := wf_H_f (fun c => by have := of_decide_eq_false h; omega)
def wc_Z (h0 : am_H) (L : Nat) (tp : Nat → Nat) (n : Nat) (g : am_H) : wn_Q → Prop
  | .inl (f, p) => am_kp (wf_L L) h0 g ∧ (∃ s, wc_X g tp n s) ∧ am_I g 1 4 = nI f ∧ (1 ≤ f ∧ f ≤ 6) ∧ am_I g 1 3 = nI p ∧ ∃ d, pw_ok d ∧ am_I g L 12 = nI (pw_n d 1) ∧ ∀ j, j < 81 → am_I g (L + 6) j = nI (pw_t d 5 j)
  | .inr (s, d) => am_kp (wf_H L) h0 g ∧ wc_X g tp n s ∧ am_I g 1 4 = nI 0 ∧ wc_L g L d ∧ wn_ok d
def wz_r : wn_Q → wp_Q
  | .inl e => .inl e
  | .inr (s, d) => .inr (s, pw_d d 0)
section
variable {h0 : am_H} {L n : Nat} {tp : Nat → Nat}
theorem wc_Z.kp {g : am_H} {r : wn_Q} (h : wc_Z h0 L tp n g r) : am_kp (wf_L L) h0 g := by
  match r, h with
  | .inl _, h => exact h.1
  | .inr _, h => exact h.1.up fun _ _ => wf_HL
theorem wc_Z.X {g : am_H} {r : wn_Q} (h : wc_Z h0 L tp n g r) : ∃ s, wc_X g tp n s := by
  match r, h with
  | .inl _, h => exact h.2.1
  | .inr (s, _), h => exact ⟨s, h.2.1⟩
theorem wc_Z.ty {g : am_H} {r : wn_Q} (h : wc_Z h0 L tp n g r) (hL : pc_lo L) (ht : wc_tp h0 tp n) : wc_tp g tp n := ht.kp h.kp (fun k => wf_L_f (by unfold pc_lo at hL; omega))
theorem wc_Z.f0 {g : am_H} {e : Nat × Nat} (h : wc_Z h0 L tp n g (.inl e)) : ¬ am_I g 1 4 = 0 := by
  obtain ⟨f, p⟩ := e
  rw [h.2.2.1]; exact nI_ne0 h.2.2.2.1.1 (by have := h.2.2.2.1.2; omega)
theorem wc_Z.z0 {g : am_H} {s : Nat} {d : pw_L} (h : wc_Z h0 L tp n g (.inr (s, d))) : am_I g 1 4 = 0 := by rw [h.2.2.1]; rfl
theorem wc_Z.R {g : am_H} {r : wn_Q} (h : wc_Z h0 L tp n g r) (hR : am_R h0 1 2 = some L) : am_R g 1 2 = some L := by rw [h.kp.R]; exact hR
theorem wz_E {g : am_H} {r : wn_Q} (h : wc_Z h0 L tp n g r) : wc_E g (L + 9) tp n g (wz_r r) := by
  match r, h with
  | .inl (f, p), h => exact ⟨am_kp.refl _ _, h.2.1, h.2.2.1, h.2.2.2.1, h.2.2.2.2.1⟩
  | .inr (s, d), h => exact ⟨am_kp.refl _ _, h.2.1, h.2.2.1, h.2.2.2.1.2.2.2.2.2.1⟩
theorem wf_LM {M : Nat} (hM : M = L + 9 ∨ M = L + 12) {i k : Nat} (h : wf_L L i k = false) : wf_y M i k = false := wf_y_f (fun c => by have := of_decide_eq_false h; omega)
theorem wf_HM {M : Nat} (hM : M = L + 9 ∨ M = L + 12) {i k : Nat} (h : wf_H L i k = false) : wf_g M i k = false := wf_g_f (fun c => by have := of_decide_eq_false h; omega)
/-- a fault, from either side -/
theorem wz_l {g g' : am_H} {r : wn_Q} {M f p : Nat} (hL : pc_lo L) (hM : M = L + 9 ∨ M = L + 12) (h : wc_Z h0 L tp n g r) (h' : wc_E g M tp n g' (.inl (f, p))) : wc_Z h0 L tp n g' (.inl (f, p)) := by
  obtain ⟨k, x, a, b, c⟩ := h'
  have kk := h.kp.trans (k.up fun i k hi => wf_LM hM hi)
  have e1 : ∀ i, am_I g' L i = am_I g L i := fun i => k.get _ _ (wf_y_f (by unfold pc_lo at hL; omega))
  have e6 : ∀ i, am_I g' (L + 6) i = am_I g (L + 6) i := fun i => k.get _ _ (wf_y_f (by unfold pc_lo at hL; omega))
  refine ⟨kk, x, a, b, c, ?_⟩
  match r, h with
  | .inl _, h =>
    obtain ⟨d, d1, d2, d3⟩ := h.2.2.2.2.2
    exact ⟨d, d1, (e1 _).trans d2, fun j hj => (e6 _).trans (d3 j hj)⟩
  | .inr (s, d), h => exact ⟨d, h.2.2.2.2.1, (e1 _).trans (h.2.2.2.1.1 1 (by omega)), fun j hj => (e6 _).trans (h.2.2.2.1.2.2.2.2.1 j hj)⟩
/-- a deed's steps have changed -/
theorem wz_d {g g' : am_H} {s s' M j : Nat} {d : pw_L} {l : List Nat} (hL : pc_lo L) (hM : M = L + 9 ∧ j = 0 ∨ M = L + 12 ∧ j = 1) (h : wc_Z h0 L tp n g (.inr (s, d))) (hl : pd_ok l) (h' : wc_E g M tp n g' (.inr (s', l))) : wc_Z h0 L tp n g' (.inr (s', wn_de d j l)) := by
  obtain ⟨k, x, a, b⟩ := h'
  obtain ⟨h1, h2, h3, ⟨c1, c2, c3, c4, c5, c6, c7, c8⟩, h5⟩ := h
  have hMM : M = L + 9 ∨ M = L + 12 := by omega
  have e : ∀ i k', ¬ (i = 1 ∨ i = M ∨ i = M + 1) → am_I g' i k' = am_I g i k' := fun i k' hi => k.get _ _ (wf_g_f (by omega))
  refine ⟨h1.trans (k.up fun i k hi => wf_HM hMM hi), x, a, ⟨fun i hi => ?_, fun i hi => ?_, fun i hi => ?_, fun i hi => ?_, fun i hi => ?_, ?_, ?_, fun i hi => ?_⟩, wn_de_ok h5 hl⟩
  · rw [e _ _ (by unfold pc_lo at hL; omega)]; exact c1 i hi
  · rw [e _ _ (by unfold pc_lo at hL; omega), e _ _ (by unfold pc_lo at hL; omega)]; exact c2 i hi
  · rw [e _ _ (by unfold pc_lo at hL; omega), e _ _ (by unfold pc_lo at hL; omega)]; exact c3 i hi
  · rw [e _ _ (by unfold pc_lo at hL; omega)]; exact c4 i hi
  · rw [e _ _ (by unfold pc_lo at hL; omega)]; exact c5 i hi
  · rcases hM with ⟨rfl, rfl⟩ | ⟨rfl, rfl⟩
    · exact b
    · exact c6.fr (e _ _ (by unfold pc_lo at hL; omega)) (fun i => e _ _ (by unfold pc_lo at hL; omega))
  · rcases hM with ⟨rfl, rfl⟩ | ⟨rfl, rfl⟩
    · exact c7.fr (e _ _ (by unfold pc_lo at hL; omega)) (fun i => e _ _ (by unfold pc_lo at hL; omega))
    · exact b
  · rw [e _ _ (by unfold pc_lo at hL; omega)]; exact c8 i hi
theorem wn_de_id {g : am_H} {s : Nat} {d : pw_L} (h : wc_Z h0 L tp n g (.inr (s, wn_de d 0 (pw_d d 0)))) (hd : wn_ok d) : wc_Z h0 L tp n g (.inr (s, d)) := by
  obtain ⟨h1, h2, h3, ⟨c1, c2, c3, c4, c5, c6, c7, c8⟩, h5⟩ := h
  exact ⟨h1, h2, h3, ⟨c1, c2, c3, c4, c5, c6, c7, c8⟩, hd⟩
def wz_FG (r : wn_Q) (F : Nat → List Nat → wp_Q) (G : Nat → pw_L → wn_Q) : Prop := ∀ s d, r = .inr (s, d) → (∃ e, G s d = .inl e ∧ F s (pw_d d 0) = .inl e) ∨ ∃ s', G s d = .inr (s', d) ∧ F s (pw_d d 0) = .inr (s', pw_d d 0)
theorem wz_go {g g' : am_H} {r : wn_Q} {F : Nat → List Nat → wp_Q} {G : Nat → pw_L → wn_Q} (hL : pc_lo L) (hFG : wz_FG r F G) (h : wc_Z h0 L tp n g r) (h' : wc_E g (L + 9) tp n g' (wp_bd (wz_r r) F)) : wc_Z h0 L tp n g' (wn_bd r G) := by
  match r, h, hFG, h' with
  | .inl (f, p), h, _, h' => exact wz_l hL (Or.inl rfl) h h'
  | .inr (s, d), h, hFG, h' =>
    have h'' : wc_E g (L + 9) tp n g' (F s (pw_d d 0)) := h'
    show wc_Z h0 L tp n g' (G s d)
    rcases hFG s d rfl with ⟨⟨f, p⟩, e1, e2⟩ | ⟨s', e1, e2⟩
    · rw [e2] at h''
      rw [e1]
      exact wz_l hL (Or.inl rfl) h h''
    · rw [e2] at h''
      rw [e1]
      exact wn_de_id (wz_d (j := 0) hL (Or.inl ⟨rfl, rfl⟩) h h.2.2.2.2.1.2.2.2.2.2.1 h'') h.2.2.2.2
theorem s109Z {g : am_H} {r : wn_Q} {f : Nat} (hL : pc_lo L) (h : wc_Z h0 L tp n g r) (hf : 1 ≤ f ∧ f ≤ 6) : am_RV (am_run am_M 109 [.ref 1, .int (nI f)] g) (fun g' => wc_Z h0 L tp n g' (wn_bd r (fun s _ => .inl (f, s)))) :=
  (s109E (wz_E h) hf).mono fun g' hg => wz_go hL (fun s d _ => Or.inl ⟨_, rfl, rfl⟩) h hg
theorem s110Z {g : am_H} {r : wn_Q} (hL : pc_lo L) (ht : wc_tp h0 tp n) (h : wc_Z h0 L tp n g r) : am_RV (am_run am_M 110 [.ref 1] g) (fun g' => wc_Z h0 L tp n g' (wn_bd r (fun s d => .inr (wl_x tp n s, d)))) :=
  (s110E (pc_ld1 hL) (h.ty hL ht) (wz_E h)).mono fun g' hg => wz_go hL (fun s d _ => Or.inr ⟨_, rfl, rfl⟩) h hg
theorem s118Z {g : am_H} {r : wn_Q} (hL : pc_lo L) (ht : wc_tp h0 tp n) (h : wc_Z h0 L tp n g r) : am_RV (am_run am_M 118 [.ref 1, .int (nI 59)] g) (fun g' => wc_Z h0 L tp n g' (wn_bd r (wn_end tp n))) :=
  (s118E (c := 59) (pc_ld1 hL) (h.ty hL ht) (wz_E h) (by omega)).mono fun g' hg => wz_go hL (fun s d _ => by
    unfold wn_end
    by_cases c : wl_k tp n s = 59
    · exact Or.inr ⟨_, if_pos c, if_pos c⟩
    · exact Or.inl ⟨_, if_neg c, if_neg c⟩) h hg
/-! numbers -/
def wp_vb (r : wn_V) (l : List Nat) : wp_Q := match r with
  | .inl e => .inl e
  | .inr (s, _) => .inr (s, l)
theorem s120E {M lo hi : Nat} {g : am_H} {r : wp_Q} (hD : pc_do M) (ht : wc_tp h0 tp n) (hlo : lo < 1000) (hhi : hi < 1000) (h : wc_E h0 M tp n g r) : am_RI (am_run am_M 120 [.ref 1, .int (nI lo), .int (nI hi)] g) (fun x g' => wc_E h0 M tp n g' (wp_bd r (fun s l => wp_vb (wn_nu tp n lo hi s) l)) ∧ ∀ s l, r = .inr (s, l) → ∀ s' v, wn_nu tp n lo hi s = .inr (s', v) → x = nI v) := by
  rw [e120]
  have fin : ∀ (x : Int32) g1 (q : wp_Q), wc_E h0 M tp n g1 q → am_RI (am_vn am_M 6 120 15 [some (.ref 1), none, none, some (.int x)] [] g1) (fun x' g' => x' = x ∧ wc_E h0 M tp n g' (wp_bd q (fun s _ => .inl (2, s)))) := fun x g1 q hq => by
    rw [e120_15]
    refine pz_VI (s109E hq (f := 2) (by omega)) fun g2 hg2 => pz_VI (s110E hD ht hg2) fun g3 hg3 => ⟨_, _, rfl, rfl, ?_⟩
    match q, hg3 with
    | .inl _, hg3 => exact hg3
    | .inr _, hg3 => exact hg3
  have fl : ∀ (x : Int32) g1 e, wc_E h0 M tp n g1 (.inl e) → am_RI (if x < nI lo then am_vn am_M 6 120 15 [some (.ref 1), none, none, some (.int x)] [] g1 else (if x ≤ nI hi then am_bV [] (am_run am_M 110 [(.ref 1)] g1) fun g3 => some (.inl (some (.int x)), g3) else am_vn am_M 6 120 15 [some (.ref 1), none, none, some (.int x)] [] g1)) (fun x' g' => wc_E h0 M tp n g' (.inl e)) := fun x g1 e he => by
    split
    · exact (fin x g1 _ he).mono fun _ _ h => h.2
    · split
      · exact pz_VI (s110E hD ht he) fun g2 hg2 => ⟨_, _, rfl, hg2⟩
      · exact (fin x g1 _ he).mono fun _ _ h => h.2
  refine pz_II (s119E hD ht h) fun x g1 hg1 => ?_
  obtain ⟨hg1, hx⟩ := hg1
  match r, h, hg1, hx with
  | .inl e, h, hg1, _ => exact (fl x g1 e hg1).mono fun _ _ h => ⟨h, fun _ _ e => absurd e (by simp)⟩
  | .inr (s, l), h, hg1, hx =>
    have hg1' : wc_E h0 M tp n g1 (wp_nh tp n s l) := hg1
    show am_RI _ (fun x g' => wc_E h0 M tp n g' (wp_vb (wn_nu tp n lo hi s) l) ∧ _)
    have hs : ∀ (x : Int32), (∀ s' v, wn_nu tp n lo hi s = .inr (s', v) → x = nI v) → ∀ s2 l2, (.inr (s, l) : wp_Q) = .inr (s2, l2) → ∀ s' v, wn_nu tp n lo hi s2 = .inr (s', v) → x = nI v := fun x hh s2 l2 e => by
      rw [← (Prod.mk.inj (Sum.inr.inj e)).1]; exact hh
    by_cases c : wl_k tp n s = 2
    · by_cases c2 : wl_z tp n s - s ≤ 4
      · have hx0 := hx s l rfl c c2
        have hv := wl_v_lt c
        have e1 : wp_nh tp n s l = .inr (s, l) := by unfold wp_nh; rw [if_pos c, if_pos c2]
        rw [e1] at hg1'
        subst hx0
        have nu : wn_nu tp n lo hi s = if lo ≤ wl_v tp n s ∧ wl_v tp n s ≤ hi then .inr (wl_x tp n s, wl_v tp n s) else .inl (2, s) := by unfold wn_nu; rw [if_pos c, if_pos c2]
        by_cases c3 : wl_v tp n s < lo
        · rw [if_pos (nI_lt c3 (by omega))]
          rw [if_neg (by omega)] at nu
          refine (fin _ g1 _ hg1').mono fun x' g' hh => ⟨by rw [nu]; exact hh.2, hs _ (fun s' v e => by rw [nu] at e; exact absurd e (by simp))⟩
        · rw [if_neg (nI_nlt (by omega) (by omega))]
          by_cases c4 : wl_v tp n s ≤ hi
          · rw [if_pos (nI_le c4 (by omega))]
            rw [if_pos ⟨by omega, c4⟩] at nu
            refine pz_VI (s110E hD ht hg1') fun g2 hg2 => ⟨_, _, rfl, by rw [nu]; exact hg2, hs _ (fun s' v e => by rw [nu] at e; rw [(Prod.mk.inj (Sum.inr.inj e)).2])⟩
          · rw [if_neg (nI_ge (by omega) (by omega))]
            rw [if_neg (by omega)] at nu
            refine (fin _ g1 _ hg1').mono fun x' g' hh => ⟨by rw [nu]; exact hh.2, hs _ (fun s' v e => by rw [nu] at e; exact absurd e (by simp))⟩
      · have e1 : wp_nh tp n s l = .inl (2, s) := by unfold wp_nh; rw [if_pos c, if_neg c2]
        have nu : wn_nu tp n lo hi s = .inl (2, s) := by unfold wn_nu; rw [if_pos c, if_neg c2]
        rw [e1] at hg1'
        exact (fl x g1 _ hg1').mono fun _ _ h => ⟨by rw [nu]; exact h, hs _ (fun s' v e => by rw [nu] at e; exact absurd e (by simp))⟩
    · have e1 : wp_nh tp n s l = .inl (1, s) := by unfold wp_nh; rw [if_neg c]
      have nu : wn_nu tp n lo hi s = .inl (1, s) := by unfold wn_nu; rw [if_neg c]
      rw [e1] at hg1'
      exact (fl x g1 _ hg1').mono fun _ _ h => ⟨by rw [nu]; exact h, hs _ (fun s' v e => by rw [nu] at e; exact absurd e (by simp))⟩
theorem s121E {M m : Nat} {a : Int32} {g : am_H} {r : wp_Q} (hD : pc_do M) (ht : wc_tp h0 tp n) (hm : m < 1000) (h : wc_E h0 M tp n g r) (ha : ∀ s l, r = .inr (s, l) → a = nI m) : am_RI (am_run am_M 121 [.ref 1, .int a] g) (fun x g' => wc_E h0 M tp n g' (wp_bd r (fun s l => wp_vb (wn_to tp n m s) l)) ∧ ∀ s l, r = .inr (s, l) → ∀ s' v, wn_to tp n m s = .inr (s', v) → x = nI v) := by
  rw [e121]
  refine pz_II (s119E hD ht h) fun x g1 hg1 => ?_
  obtain ⟨hg1, hx⟩ := hg1
  have fl : ∀ (x : Int32) g1 e, wc_E h0 M tp n g1 (.inl e) → am_RI (if x < a then some (.inl (some (.int x)), g1) else am_bV [] (am_run am_M 109 [(.ref 1), (.int (nI 3))] g1) fun g3 => some (.inl (some (.int x)), g3)) (fun x' g' => wc_E h0 M tp n g' (.inl e)) := fun x g1 e he => by
    split
    · exact ⟨_, _, rfl, he⟩
    · exact pz_VI (s109E he (f := 3) (by omega)) fun g2 hg2 => ⟨_, _, rfl, hg2⟩
  match r, h, hg1, hx, ha with
  | .inl e, h, hg1, _, _ => exact (fl x g1 e hg1).mono fun _ _ h => ⟨h, fun _ _ e => absurd e (by simp)⟩
  | .inr (s, l), h, hg1, hx, ha =>
    have hg1' : wc_E h0 M tp n g1 (wp_nh tp n s l) := hg1
    show am_RI _ (fun x g' => wc_E h0 M tp n g' (wp_vb (wn_to tp n m s) l) ∧ _)
    have hs : ∀ (x : Int32), (∀ s' v, wn_to tp n m s = .inr (s', v) → x = nI v) → ∀ s2 l2, (.inr (s, l) : wp_Q) = .inr (s2, l2) → ∀ s' v, wn_to tp n m s2 = .inr (s', v) → x = nI v := fun x hh s2 l2 e => by
      rw [← (Prod.mk.inj (Sum.inr.inj e)).1]; exact hh
    by_cases c : wl_k tp n s = 2
    · by_cases c2 : wl_z tp n s - s ≤ 4
      · have hx0 := hx s l rfl c c2
        have hv := wl_v_lt c
        have e1 : wp_nh tp n s l = .inr (s, l) := by unfold wp_nh; rw [if_pos c, if_pos c2]
        rw [e1] at hg1'
        subst hx0
        have nu : wn_to tp n m s = if wl_v tp n s < m then .inr (s, wl_v tp n s) else .inl (3, s) := by unfold wn_to; rw [if_pos c, if_pos c2]
        rw [ha s l rfl]
        by_cases c3 : wl_v tp n s < m
        · rw [if_pos (nI_lt c3 (by omega))]
          rw [if_pos c3] at nu
          exact ⟨_, _, rfl, by rw [nu]; exact hg1', hs _ (fun s' v e => by rw [nu] at e; rw [(Prod.mk.inj (Sum.inr.inj e)).2])⟩
        · rw [if_neg (nI_nlt (by omega) (by omega))]
          rw [if_neg c3] at nu
          exact pz_VI (s109E hg1' (f := 3) (by omega)) fun g2 hg2 => ⟨_, _, rfl, by rw [nu]; exact hg2, hs _ (fun s' v e => by rw [nu] at e; exact absurd e (by simp))⟩
      · have e1 : wp_nh tp n s l = .inl (2, s) := by unfold wp_nh; rw [if_pos c, if_neg c2]
        have nu : wn_to tp n m s = .inl (2, s) := by unfold wn_to; rw [if_pos c, if_neg c2]
        rw [e1] at hg1'
        exact (fl x g1 _ hg1').mono fun _ _ h => ⟨by rw [nu]; exact h, hs _ (fun s' v e => by rw [nu] at e; exact absurd e (by simp))⟩
    · have e1 : wp_nh tp n s l = .inl (1, s) := by unfold wp_nh; rw [if_neg c]
      have nu : wn_to tp n m s = .inl (1, s) := by unfold wn_to; rw [if_neg c]
      rw [e1] at hg1'
      exact (fl x g1 _ hg1').mono fun _ _ h => ⟨by rw [nu]; exact h, hs _ (fun s' v e => by rw [nu] at e; exact absurd e (by simp))⟩
theorem wz_FGv (r : wn_Q) (V : Nat → wn_V) : wz_FG r (fun s l => wp_vb (V s) l) (fun s d => wn_vb (V s) (fun s' _ => .inr (s', d))) := fun s d _ => by
  cases h : V s with
  | inl e => exact Or.inl ⟨e, by dsimp only; rw [h]; rfl, by dsimp only; rw [h]; rfl⟩
  | inr p => exact Or.inr ⟨p.1, by dsimp only; rw [h]; rfl, by dsimp only; rw [h]; rfl⟩
theorem s120Z {lo hi : Nat} {g : am_H} {r : wn_Q} (hL : pc_lo L) (ht : wc_tp h0 tp n) (h : wc_Z h0 L tp n g r) (hlo : lo < 1000 := by omega) (hhi : hi < 1000 := by omega) : am_RI (am_run am_M 120 [.ref 1, .int (nI lo), .int (nI hi)] g) (fun x g' => wc_Z h0 L tp n g' (wn_bd r (fun s d => wn_vb (wn_nu tp n lo hi s) (fun s' _ => .inr (s', d)))) ∧ ∀ s d, r = .inr (s, d) → ∀ s' v, wn_nu tp n lo hi s = .inr (s', v) → x = nI v) :=
  (s120E (pc_ld1 hL) (h.ty hL ht) hlo hhi (wz_E h)).mono fun x g' hg => ⟨wz_go hL (wz_FGv r _) h hg.1, fun s d e => hg.2 s (pw_d d 0) (by rw [e]; rfl)⟩
theorem s121Z {m : Nat} {a : Int32} {g : am_H} {r : wn_Q} (hL : pc_lo L) (ht : wc_tp h0 tp n) (hm : m < 1000) (h : wc_Z h0 L tp n g r) (ha : ∀ s d, r = .inr (s, d) → a = nI m) : am_RI (am_run am_M 121 [.ref 1, .int a] g) (fun x g' => wc_Z h0 L tp n g' (wn_bd r (fun s d => wn_vb (wn_to tp n m s) (fun s' _ => .inr (s', d)))) ∧ ∀ s d, r = .inr (s, d) → ∀ s' v, wn_to tp n m s = .inr (s', v) → x = nI v) :=
  (s121E (pc_ld1 hL) (h.ty hL ht) hm (wz_E h) (fun s l e => by
    match r, e, ha with
    | .inr (s2, d), e, ha => exact ha s2 d rfl)).mono fun x g' hg => ⟨wz_go hL (wz_FGv r _) h hg.1, fun s d e => hg.2 s (pw_d d 0) (by rw [e]; rfl)⟩
end
