/-! WINTER: the model's lines -/
def wg_n (i k : Nat) : Bool := decide (i = 60 ∧ (k = 19 ∨ k = 20 ∨ 23 ≤ k ∧ k ≤ 28))
theorem wg_n_t {i k : Nat} (h : i = 60 ∧ (k = 19 ∨ k = 20 ∨ 23 ≤ k ∧ k ≤ 28)) : wg_n i k = true := decide_eq_true h
theorem wg_n_f {i k : Nat} (h : ¬ (i = 60 ∧ (k = 19 ∨ k = 20 ∨ 23 ≤ k ∧ k ≤ 28))) : wg_n i k = false := decide_eq_false h
theorem wg_xn {i k : Nat} (h : wg_n i k = false) : wg_x i k = false := wg_x_f (fun c => by have := of_decide_eq_false h; omega)
def wm_ft (g : am_H) (f p : Nat) : Prop := am_I g 60 19 = nI f ∧ (1 ≤ f ∧ f ≤ 6) ∧ am_I g 60 20 = nI p
theorem s196any (g : am_H) (c : Int32) : ∃ x, am_run am_M 196 [.ref 60, .int c] g = some (.inl (some (.int x)), g) := by
  rw [e196]
  split
  · split
    · exact ⟨_, if_pos (by decide)⟩
    · exact ⟨_, if_pos (by decide)⟩
  · exact ⟨_, if_pos (by decide)⟩
section
variable {g : am_H} {tp : Nat → Nat} {n s : Nat}
theorem s194R {f : Nat} (hz : am_I g 60 19 = nI 0) (hX : wm_X g tp n s) (hf : 1 ≤ f ∧ f ≤ 6) : ∃ g', am_run am_M 194 [.ref 60, .int (nI f)] g = some (.inl none, g') ∧ wm_k wg_n g g' ∧ wm_ft g' f s ∧ ∀ k, 23 ≤ k → am_I g' 60 k = am_I g 60 k := by
  rw [e194, if_pos (by rw [hz]; rfl)]
  dsimp only
  exact ⟨_, rfl, ((wm_k.refl _ g).sI _ (wg_n_t (by omega))).sI _ (wg_n_t (by omega)), ⟨by rw [am_I_s2 _ _ _ _ (by omega), am_I_s], hf, by rw [am_I_s, am_I_s2 _ _ _ _ (by omega)]; exact hX.2.2.2.1⟩, fun k hk => by rw [am_I_s2 _ _ _ _ (by omega), am_I_s2 _ _ _ _ (by omega)]⟩
theorem s195f {f p : Nat} (h : wm_ft g f p) : am_run am_M 195 [.ref 60] g = some (.inl (some (.int (nI 0))), g) := s195F h.1 h.2.1
def wm_R8 (tp : Nat → Nat) (n : Nat) (g g' : am_H) (x : Int32) : wn_V → Prop
  | .inl (f, p) => wm_k wg_n g g' ∧ wm_ft g' f p
  | .inr (s', v) => x = nI v ∧ wm_k wg_x g g' ∧ wm_X g' tp n s'
theorem s198R {lo hi : Nat} (ht : wm_tp g tp n) (hz : am_I g 60 19 = nI 0) (hX : wm_X g tp n s) (hlo : lo < 1000) (hhi : hi < 1000) : am_RI (am_run am_M 198 [.ref 60, .int (nI lo), .int (nI hi)] g) (fun x g' => wm_R8 tp n g g' x (wn_nu tp n lo hi s)) := by
  have hn := ht.1
  have hk61 := wl_k_le (tp := tp) (n := n) (s := s)
  have hzs := wl_z_ge (tp := tp) hX.1
  have hzn := wl_z_le (tp := tp) hX.1
  have bad : ∀ f, 1 ≤ f ∧ f ≤ 6 → am_RI (am_bV [] (am_run am_M 194 [(.ref 60), (.int (nI f))] g) fun g3 => am_vn am_M 2 198 54 [some (.ref 60), none, none, none] [] g3) (fun x g' => wm_R8 tp n g g' x (.inl (f, s))) := fun f hf => by
    obtain ⟨g1, e1, k1, f1, _⟩ := s194R (f := f) hz hX hf
    rw [e1, am_bV_ok, e198_54, s195f f1, am_bI_ok, if_pos (show nI 0 = 0 from rfl)]
    exact ⟨_, _, rfl, k1, f1⟩
  unfold wn_nu
  rw [e198, s195G hz, am_bI_ok, if_neg (show ¬ nI 1 = 0 by decide), hX.2.2.1, hX.2.2.2.2.1]
  by_cases c : wl_k tp n s = 2
  · have hv := wl_v_lt c
    rw [if_pos c, c, show wl_q 2 = 2 from rfl, if_pos rfl, hX.2.2.2.2.2.1 c]
    by_cases c2 : wl_z tp n s - s ≤ 4
    · rw [if_pos c2, if_neg (nI_nlt c2 (by omega))]
      by_cases c3 : wl_v tp n s < lo
      · rw [if_pos (nI_lt c3 (by omega)), if_neg (by omega)]; exact bad 2 (by omega)
      · rw [if_neg (nI_nlt (by omega) (by omega))]
        by_cases c4 : wl_v tp n s ≤ hi
        · rw [if_pos (nI_le c4 (by omega)), if_pos ⟨by omega, c4⟩, e198_54, s195G hz, am_bI_ok, if_neg (show ¬ nI 1 = 0 by decide)]
          refine pz_VI (s190X ht hX) fun g1 h1 => ⟨_, _, rfl, hX.2.2.2.2.2.1 c, h1⟩
        · rw [if_neg (nI_ge (by omega) (by omega)), if_neg (by omega)]; exact bad 2 (by omega)
    · rw [if_neg c2, if_pos (nI_lt (by omega) (by omega))]; exact bad 2 (by omega)
  · have hq2 : wl_q (wl_k tp n s) ≠ 2 ∧ wl_q (wl_k tp n s) ≤ 4 := by unfold wl_q; split <;> (try split) <;> omega
    rw [if_neg c, if_neg (fun e => hq2.1 ((nI_eq (by omega) (by omega)).mp e))]; exact bad 1 (by omega)
theorem s198f {f p : Nat} {x y : Int32} (h : wm_ft g f p) : am_run am_M 198 [.ref 60, .int x, .int y] g = some (.inl (some (.int (nI 0))), g) := by
  rw [e198, s195f h, am_bI_ok, if_pos (show nI 0 = 0 from rfl)]
/-- among, standing here -/
def wm_R9 (tp : Nat → Nat) (n : Nat) (g g' : am_H) (x : Int32) : wn_V → Prop
  | .inl (f, p) => x = nI 0 ∧ wm_k wg_n g g' ∧ wm_ft g' f p
  | .inr (_, v) => x = nI 1 ∧ g' = g ∧ am_I g 60 27 = nI v
theorem s199R {m : Nat} (ht : wm_tp g tp n) (hz : am_I g 60 19 = nI 0) (hX : wm_X g tp n s) (hm : m < 1000) : am_RI (am_run am_M 199 [.ref 60, .int (nI m)] g) (fun x g' => wm_R9 tp n g g' x (wn_to tp n m s)) := by
  have hn := ht.1
  have hk61 := wl_k_le (tp := tp) (n := n) (s := s)
  have hzs := wl_z_ge (tp := tp) hX.1
  have hzn := wl_z_le (tp := tp) hX.1
  have bad : ∀ f, 1 ≤ f ∧ f ≤ 6 → am_RI (am_bV [] (am_run am_M 194 [(.ref 60), (.int (nI f))] g) fun g5 => am_bI [] (am_run am_M 195 [(.ref 60)] g5) fun x7 g6 => (if x7 &&& 1 = x7 then some (.inl (some (.int x7)), g6) else none)) (fun x g' => wm_R9 tp n g g' x (.inl (f, s))) := fun f hf => by
    obtain ⟨g1, e1, k1, f1, _⟩ := s194R (f := f) hz hX hf
    rw [e1, am_bV_ok, s195f f1, am_bI_ok, if_pos (by decide)]
    exact ⟨_, _, rfl, rfl, k1, f1⟩
  unfold wn_to
  rw [e199, s195G hz, am_bI_ok, if_neg (show ¬ nI 1 = 0 by decide), hX.2.2.1, hX.2.2.2.2.1]
  by_cases c : wl_k tp n s = 2
  · have hv := wl_v_lt c
    rw [if_pos c, c, show wl_q 2 = 2 from rfl, if_pos rfl]
    by_cases c2 : wl_z tp n s - s ≤ 4
    · rw [if_pos c2, if_pos (nI_le c2 (by omega)), hX.2.2.2.2.2.1 c]
      by_cases c3 : wl_v tp n s < m
      · rw [if_pos (nI_lt c3 (by omega)), if_pos c3, s195G hz, am_bI_ok, if_pos (by decide)]
        exact ⟨_, _, rfl, rfl, rfl, hX.2.2.2.2.2.1 c⟩
      · rw [if_neg (nI_nlt (by omega) (by omega)), if_neg c3]; exact bad 3 (by omega)
    · rw [if_neg c2, if_neg (nI_ge (by omega) (by omega))]; exact bad 2 (by omega)
  · have hq2 : wl_q (wl_k tp n s) ≠ 2 ∧ wl_q (wl_k tp n s) ≤ 4 := by unfold wl_q; split <;> (try split) <;> omega
    rw [if_neg c, if_neg (fun e => hq2.1 ((nI_eq (by omega) (by omega)).mp e))]; exact bad 1 (by omega)
/-- among, and on -/
def wm_Ra (tp : Nat → Nat) (n : Nat) (g g' : am_H) (x : Int32) : wn_V → Prop
  | .inl (f, p) => wm_k wg_n g g' ∧ wm_ft g' f p
  | .inr (s', v) => x = nI v ∧ wm_k wg_x g g' ∧ wm_X g' tp n (wl_x tp n s')
theorem s200R {m : Nat} (ht : wm_tp g tp n) (hz : am_I g 60 19 = nI 0) (hX : wm_X g tp n s) (hm : m < 1000) : am_RI (am_run am_M 200 [.ref 60, .int (nI m)] g) (fun x g' => wm_Ra tp n g g' x (wn_to tp n m s)) := by
  rw [e200]
  have gt := wn_to_G (tp := tp) (m := m) hX.1
  refine pz_II (s199R ht hz hX hm) fun x g1 h1 => ?_
  cases hr : wn_to tp n m s with
  | inl q =>
    obtain ⟨f, p⟩ := q
    rw [hr] at h1
    obtain ⟨rfl, k1, f1⟩ := h1
    rw [if_pos (show nI 0 = 0 from rfl), e200_16, s195f f1, am_bI_ok, if_pos (show nI 0 = 0 from rfl)]
    exact ⟨_, _, rfl, k1, f1⟩
  | inr q =>
    obtain ⟨s', v⟩ := q
    rw [hr] at h1 gt
    obtain ⟨rfl, rfl, h27⟩ := h1
    obtain ⟨rfl, _⟩ := gt
    rw [if_neg (show ¬ nI 1 = 0 by decide), h27, e200_16, s195G hz, am_bI_ok, if_neg (show ¬ nI 1 = 0 by decide)]
    exact pz_VI (s190X ht hX) fun g2 h2 => ⟨_, _, rfl, rfl, h2⟩
end
/-! the land that is read -/
def wm_D (g : am_H) (t j : Nat) (l : List Nat) : Prop := if l = [] then am_I g 60 (35 + j) = (-1 : Int32) else ∃ a, am_I g 60 (35 + j) = nI a ∧ a + (pm_code j l).length ≤ t ∧ ∀ i, i < (pm_code j l).length → am_I g 82 (a + i) = nI ((pm_code j l).getD i 0)
def wm_N (g : am_H) (t : Nat) (d : pw_L) : Prop :=
  (∀ i, i < 5 → am_I g 60 (30 + i) = nI (pw_n d i))
  ∧ (∀ k, k < pw_n d 0 → am_I g 72 k = nI (pw_t d 6 k) ∧ am_I g 73 k = nI (pw_t d 7 k))
  ∧ (∀ a, a < pw_n d 1 → am_I g 74 a = nI (pw_t d 0 a) ∧ am_I g 75 a = nI (pw_t d 1 a))
  ∧ (∀ j, j < 81 → am_I g 76 j = nI (pw_t d 5 j))
  ∧ (∀ p, p < pw_n d 3 → (am_I g 77 p = nI (pw_t d 2 p) ∧ am_I g 78 p = nI (pw_t d 3 p)) ∧ am_I g 79 p = nI (pw_t d 8 p) ∧ am_I g 80 p = nI (pw_t d 9 p))
  ∧ (∀ i, i < pw_n d 4 → am_I g 81 i = nI (pw_t d 4 i))
  ∧ am_I g 60 37 = nI t ∧ wm_D g t 0 (pw_d d 0) ∧ wm_D g t 1 (pw_d d 1)
def wg_L (i k : Nat) : Bool := decide (i = 60 ∧ (k = 19 ∨ k = 20 ∨ 23 ≤ k ∧ k ≤ 41) ∨ 72 ≤ i ∧ i ≤ 84)
theorem wg_L_t {i k : Nat} (h : i = 60 ∧ (k = 19 ∨ k = 20 ∨ 23 ≤ k ∧ k ≤ 41) ∨ 72 ≤ i ∧ i ≤ 84) : wg_L i k = true := decide_eq_true h
theorem wg_L_f {i k : Nat} (h : ¬ (i = 60 ∧ (k = 19 ∨ k = 20 ∨ 23 ≤ k ∧ k ≤ 41) ∨ 72 ≤ i ∧ i ≤ 84)) : wg_L i k = false := decide_eq_false h
def wg_M (i k : Nat) : Bool := decide (i = 60 ∧ 23 ≤ k ∧ k ≤ 41 ∨ 72 ≤ i ∧ i ≤ 84)
theorem wg_M_t {i k : Nat} (h : i = 60 ∧ 23 ≤ k ∧ k ≤ 41 ∨ 72 ≤ i ∧ i ≤ 84) : wg_M i k = true := decide_eq_true h
theorem wg_M_f {i k : Nat} (h : ¬ (i = 60 ∧ 23 ≤ k ∧ k ≤ 41 ∨ 72 ≤ i ∧ i ≤ 84)) : wg_M i k = false := decide_eq_false h
theorem wg_ML {i k : Nat} (h : wg_L i k = false) : wg_M i k = false := wg_M_f (fun c => by have := of_decide_eq_false h; omega)
theorem wg_nL {i k : Nat} (h : wg_L i k = false) : wg_n i k = false := wg_n_f (fun c => by have := of_decide_eq_false h; omega)
theorem wg_xM {i k : Nat} (h : wg_M i k = false) : wg_x i k = false := wg_x_f (fun c => by have := of_decide_eq_false h; omega)
theorem wg_EL {a i k : Nat} (h : wg_L i k = false) : wg_E a i k = false := wg_E_f (fun c => by have := of_decide_eq_false h; omega)
theorem wg_GM {a i k : Nat} (h : wg_M i k = false) : wg_G a i k = false := wg_G_f (fun c => by have := of_decide_eq_false h; omega)
def wm_Z (h0 : am_H) (tp : Nat → Nat) (n : Nat) (g : am_H) : wn_Q → Prop
  | .inl (f, p) => wm_k wg_L h0 g ∧ wm_ft g f p
  | .inr (s, d) => wm_k wg_M h0 g ∧ wm_X g tp n s ∧ (∃ t, t ≤ 2 * s ∧ wm_N g t d) ∧ wn_ok d
theorem wm_D.fr {g g' : am_H} {t j : Nat} {l : List Nat} (h : wm_D g t j l) (e1 : am_I g' 60 (35 + j) = am_I g 60 (35 + j)) (e2 : ∀ i, i < t → am_I g' 82 i = am_I g 82 i) : wm_D g' t j l := by
  unfold wm_D at h ⊢
  by_cases c : l = []
  · rw [if_pos c] at h ⊢; exact e1.trans h
  · rw [if_neg c] at h ⊢
    obtain ⟨a, h1, h2, h3⟩ := h
    exact ⟨a, e1.trans h1, h2, fun i hi => (e2 _ (by omega)).trans (h3 i hi)⟩
theorem wm_D.up {g : am_H} {t t' j : Nat} {l : List Nat} (h : wm_D g t j l) (ht : t ≤ t') : wm_D g t' j l := by
  unfold wm_D at h ⊢
  by_cases c : l = []
  · rw [if_pos c] at h ⊢; exact h
  · rw [if_neg c] at h ⊢
    obtain ⟨a, h1, h2, h3⟩ := h
    exact ⟨a, h1, by omega, h3⟩
/-- the picture stays where its cells do -/
theorem wm_N.fr {g g' : am_H} {t : Nat} {d : pw_L} (h : wm_N g t d) (e0 : ∀ k, 30 ≤ k → k ≤ 37 → am_I g' 60 k = am_I g 60 k) (e : ∀ i k, 72 ≤ i → i ≤ 81 → (i = 72 ∨ i = 73 → k < pw_n d 0) → (i = 74 ∨ i = 75 → k < pw_n d 1) → (77 ≤ i ∧ i ≤ 80 → k < pw_n d 3) → (i = 81 → k < pw_n d 4) → am_I g' i k = am_I g i k) (e82 : ∀ i, i < t → am_I g' 82 i = am_I g 82 i) : wm_N g' t d := by
  obtain ⟨c1, c2, c3, c4, c5, c6, c7, c8, c9⟩ := h
  refine ⟨fun i hi => (e0 _ (by omega) (by omega)).trans (c1 i hi), fun k hk => ⟨?_, ?_⟩, fun k hk => ⟨?_, ?_⟩, fun k hk => ?_, fun k hk => ⟨⟨?_, ?_⟩, ?_, ?_⟩, fun k hk => ?_, (e0 _ (by omega) (by omega)).trans c7, c8.fr (e0 _ (by omega) (by omega)) e82, c9.fr (e0 _ (by omega) (by omega)) e82⟩
  · rw [e 72 k (by omega) (by omega) (fun _ => hk) (by omega) (by omega) (by omega)]; exact (c2 k hk).1
  · rw [e 73 k (by omega) (by omega) (fun _ => hk) (by omega) (by omega) (by omega)]; exact (c2 k hk).2
  · rw [e 74 k (by omega) (by omega) (by omega) (fun _ => hk) (by omega) (by omega)]; exact (c3 k hk).1
  · rw [e 75 k (by omega) (by omega) (by omega) (fun _ => hk) (by omega) (by omega)]; exact (c3 k hk).2
  · rw [e 76 k (by omega) (by omega) (by omega) (by omega) (by omega) (by omega)]; exact c4 k hk
  · rw [e 77 k (by omega) (by omega) (by omega) (by omega) (fun _ => hk) (by omega)]; exact (c5 k hk).1.1
  · rw [e 78 k (by omega) (by omega) (by omega) (by omega) (fun _ => hk) (by omega)]; exact (c5 k hk).1.2
  · rw [e 79 k (by omega) (by omega) (by omega) (by omega) (fun _ => hk) (by omega)]; exact (c5 k hk).2.1
  · rw [e 80 k (by omega) (by omega) (by omega) (by omega) (fun _ => hk) (by omega)]; exact (c5 k hk).2.2
  · rw [e 81 k (by omega) (by omega) (by omega) (by omega) (by omega) (fun _ => hk)]; exact c6 k hk
section
variable {h0 : am_H} {tp : Nat → Nat} {n s : Nat} {g : am_H} {d : pw_L}
/-- taken for granted -/
def wm_J (h0 : am_H) (tp : Nat → Nat) (n : Nat) : Prop := wm_tp h0 tp n ∧ am_I h0 60 19 = nI 0
theorem wm_Z.ty (h : wm_Z h0 tp n g (.inr (s, d))) (hJ : wm_J h0 tp n) : wm_tp g tp n := hJ.1.kp h.1 (wg_M_f (by omega)) (fun k => wg_M_f (by omega))
theorem wm_Z.z0 (h : wm_Z h0 tp n g (.inr (s, d))) (hJ : wm_J h0 tp n) : am_I g 60 19 = nI 0 := (h.1.get _ _ (wg_M_f (by omega))).trans hJ.2
theorem wm_Z.nx {g' : am_H} {s' : Nat} (h : wm_Z h0 tp n g (.inr (s, d))) (k : wm_k wg_x g g') (hX : wm_X g' tp n s') (hs : s ≤ s') : wm_Z h0 tp n g' (.inr (s', d)) := by
  obtain ⟨h1, h2, ⟨t, h3, h4⟩, h5⟩ := h
  exact ⟨h1.trans (k.up fun i k => wg_xM), hX, ⟨t, by omega, h4.fr (fun i a b => k.get _ _ (wg_x_f (by omega))) (fun i k' _ _ _ _ _ _ => k.get _ _ (wg_x_f (by omega))) (fun i _ => k.get _ _ (wg_x_f (by omega)))⟩, h5⟩
theorem wm_Z.nf {g' : am_H} {f p : Nat} (h : wm_Z h0 tp n g (.inr (s, d))) (k : wm_k wg_n g g') (hf : wm_ft g' f p) : wm_Z h0 tp n g' (.inl (f, p)) := ⟨(h.1.up fun _ _ => wg_ML).trans (k.up fun _ _ => wg_nL), hf⟩
theorem wm_Z.go (h : wm_Z h0 tp n g (.inr (s, d))) (hJ : wm_J h0 tp n) : ∃ g', am_run am_M 190 [.ref 60] g = some (.inl none, g') ∧ wm_k wg_x g g' ∧ wm_Z h0 tp n g' (.inr (wl_x tp n s, d)) := by
  obtain ⟨g', e, k, hX⟩ := s190X (h.ty hJ) h.2.1
  have h1 := wl_z_ge (tp := tp) h.2.1.1
  have h2 := wl_e_ge wl_bl tp n (wl_z tp n s)
  exact ⟨g', e, k, h.nx k hX (Nat.le_trans h1 h2)⟩
theorem wm_Z.wr {f : Nat} (h : wm_Z h0 tp n g (.inr (s, d))) (hJ : wm_J h0 tp n) (hf : 1 ≤ f ∧ f ≤ 6) : ∃ g', am_run am_M 194 [.ref 60, .int (nI f)] g = some (.inl none, g') ∧ wm_Z h0 tp n g' (.inl (f, s)) ∧ wm_ft g' f s := by
  obtain ⟨g', e, k, f1, _⟩ := s194R (h.z0 hJ) h.2.1 hf
  exact ⟨g', e, h.nf k f1, f1⟩
/-- a cell beyond the counts -/
theorem wm_Z.sI {i k : Nat} (v : Int32) (h : wm_Z h0 tp n g (.inr (s, d))) (hi : (i = 72 ∨ i = 73) ∧ k = pw_n d 0 ∨ (i = 74 ∨ i = 75) ∧ k = pw_n d 1 ∨ (77 ≤ i ∧ i ≤ 80) ∧ k = pw_n d 3 ∨ i = 81 ∧ k = pw_n d 4) : wm_Z h0 tp n (am_sI g i k v) (.inr (s, d)) := by
  obtain ⟨h1, h2, ⟨t, h3, h4⟩, h5⟩ := h
  exact ⟨h1.sI _ (wg_M_t (by omega)), h2.fr (fun k a b => by rw [am_I_s1 _ _ _ _ (by omega)]) rfl, ⟨t, h3, h4.fr (fun k a b => by rw [am_I_s1 _ _ _ _ (by omega)]) (fun i' k' a b x1 x2 x3 x4 => by
    rw [am_I_sc, if_neg (fun c => by obtain ⟨rfl, rfl⟩ := c; omega)]) (fun i' _ => by rw [am_I_s1 _ _ _ _ (by omega)])⟩, h5⟩
theorem wm_up {g : am_H} {a : Nat} {c : Nat → Nat} (h : ∀ i, i < 5 → am_I g 60 (30 + i) = nI (c i)) : ∀ i, i < 5 → am_I (am_sI g 60 (30 + a) (nI (c a + 1))) 60 (30 + i) = nI (wn_up c a i) := fun i hi => by
  by_cases e : i = a
  · rw [e, am_I_s, wn_up_s]
  · rw [am_I_s2 _ _ _ _ (by omega), wn_up_n _ e]; exact h i hi
theorem wm_tab {f : Nat → Int32} {m v : Nat} {t : Nat → Nat} (h : ∀ a, a < m → f a = nI (t a)) (hm : f m = nI v) : ∀ a, a < m + 1 → f a = nI (if a = m then v else t a) := fun a ha => by
  by_cases e : a = m
  · rw [e, if_pos rfl]; exact hm
  · rw [if_neg e]; exact h a (by omega)
theorem s212 (h : wm_Z h0 tp n g (.inr (s, d))) (hJ : wm_J h0 tp n) : am_RV (am_run am_M 212 [.ref 60] g) (fun g' => wm_Z h0 tp n g' (wn_pack tp n s d)) := by
  have hn := hJ.1.1
  obtain ⟨_, _, ⟨_, _, hN⟩, hok⟩ := id h
  have h4 := hok.1.1.1
  have cn : am_I g 60 30 = nI (pw_n d 0) := hN.1 0 (by omega)
  rw [e212, cn]
  unfold wn_pack
  by_cases c : pw_n d 0 < 4
  · rw [if_neg (fun e => by have := (nI_eq (by omega) (by omega)).mp e; omega), if_pos c, e212_13, s195G (h.z0 hJ), am_bI_ok, if_neg (show ¬ nI 1 = 0 by decide)]
    obtain ⟨g1, r1, _, z1⟩ := h.go hJ
    obtain ⟨_, X1, ⟨_, _, N1⟩, _⟩ := id z1
    rw [r1, am_bV_ok, show am_I g1 60 30 = nI (pw_n d 0) from N1.1 0 (by omega)]
    refine pz_IV (s198R (lo := 0) (hi := 20) (z1.ty hJ) (z1.z0 hJ) X1 (by omega) (by omega)) fun x g2 h2 => ?_
    rw [am_is_ok (r := 72) (n := 4) rfl (by omega) (by omega) (by omega)]
    cases n1 : wn_nu tp n 0 20 (wl_x tp n s) with
    | inl q =>
      obtain ⟨f, p⟩ := q
      rw [n1] at h2
      obtain ⟨k2, f2⟩ := h2
      have f3 : wm_ft (am_sI g2 72 (pw_n d 0) x) f p := ⟨by rw [am_I_s1 _ _ _ _ (by omega)]; exact f2.1, f2.2.1, by rw [am_I_s1 _ _ _ _ (by omega)]; exact f2.2.2⟩
      have c30 : am_I (am_sI g2 72 (pw_n d 0) x) 60 30 = nI (pw_n d 0) := by rw [am_I_s1 _ _ _ _ (by omega), k2.get _ _ (wg_n_f (by omega))]; exact N1.1 0 (by omega)
      have f4 : wm_ft (am_sI (am_sI g2 72 (pw_n d 0) x) 73 (pw_n d 0) (nI 0)) f p := ⟨by rw [am_I_s1 _ _ _ _ (by omega)]; exact f3.1, f3.2.1, by rw [am_I_s1 _ _ _ _ (by omega)]; exact f3.2.2⟩
      rw [s198f f3, am_bI_ok, c30, am_is_ok (r := 73) (n := 4) rfl (by omega) (by omega) (by omega), s195f f4, am_bI_ok, if_pos (show nI 0 = 0 from rfl)]
      exact ⟨_, rfl, (((z1.nf k2 f2).1.sI _ (wg_L_t (by omega))).sI _ (wg_L_t (by omega))), f4⟩
    | inr q =>
      obtain ⟨s1, hu⟩ := q
      have G1 := wn_nu_G (tp := tp) (lo := 0) (hi := 20) X1.1
      rw [n1] at h2 G1
      obtain ⟨rfl, k2, X2⟩ := h2
      have z2 := (z1.nx k2 X2 (Nat.le_of_lt G1.1)).sI (i := 72) (k := pw_n d 0) (nI hu) (Or.inl ⟨Or.inl rfl, rfl⟩)
      obtain ⟨_, X2', ⟨_, _, N2⟩, _⟩ := id z2
      have v72 : am_I (am_sI g2 72 (pw_n d 0) (nI hu)) 72 (pw_n d 0) = nI hu := am_I_s _ _ _ _
      generalize am_sI g2 72 (pw_n d 0) (nI hu) = g3 at z2 X2' N2 v72 ⊢
      rw [show am_I g3 60 30 = nI (pw_n d 0) from N2.1 0 (by omega)]
      refine pz_IV (s198R (lo := 0) (hi := 99) (z2.ty hJ) (z2.z0 hJ) X2' (by omega) (by omega)) fun y g4 h4' => ?_
      rw [am_is_ok (r := 73) (n := 4) rfl (by omega) (by omega) (by omega)]
      show am_RV _ (fun g' => wm_Z h0 tp n g' (wn_vb (wn_nu tp n 0 99 s1) (fun s2 st => .inr (s2, wn_pk d hu st))))
      cases n2 : wn_nu tp n 0 99 s1 with
      | inl q =>
        obtain ⟨f, p⟩ := q
        rw [n2] at h4'
        obtain ⟨k4, f4⟩ := h4'
        have f5 : wm_ft (am_sI g4 73 (pw_n d 0) y) f p := ⟨by rw [am_I_s1 _ _ _ _ (by omega)]; exact f4.1, f4.2.1, by rw [am_I_s1 _ _ _ _ (by omega)]; exact f4.2.2⟩
        rw [s195f f5, am_bI_ok, if_pos (show nI 0 = 0 from rfl)]
        exact ⟨_, rfl, (z2.nf k4 f4).1.sI _ (wg_L_t (by omega)), f5⟩
      | inr q =>
        obtain ⟨s2, st⟩ := q
        have G2 := wn_nu_G (tp := tp) (lo := 0) (hi := 99) X2'.1
        rw [n2] at h4' G2
        obtain ⟨rfl, k4, X4⟩ := h4'
        have z4 := (z2.nx k4 X4 (Nat.le_of_lt G2.1)).sI (i := 73) (k := pw_n d 0) (nI st) (Or.inl ⟨Or.inr rfl, rfl⟩)
        have v72' : am_I (am_sI g4 73 (pw_n d 0) (nI st)) 72 (pw_n d 0) = nI hu := by rw [am_I_s1 _ _ _ _ (by omega), k4.get _ _ (wg_x_f (by omega))]; exact v72
        have v73 : am_I (am_sI g4 73 (pw_n d 0) (nI st)) 73 (pw_n d 0) = nI st := am_I_s _ _ _ _
        generalize am_sI g4 73 (pw_n d 0) (nI st) = g5 at z4 v72' v73 ⊢
        rw [s195G (z4.z0 hJ), am_bI_ok, if_neg (show ¬ nI 1 = 0 by decide)]
        obtain ⟨a1, a2, ⟨t, a3, c1, c2, c3, c4, c5, c6, c7, c8, c9⟩, a5⟩ := z4
        rw [show am_I g5 60 30 = nI (pw_n d 0) from c1 0 (by omega), nI_add]
        have e0 : ∀ i k, i ≠ 60 → am_I (am_sI g5 60 30 (nI (pw_n d 0 + 1))) i k = am_I g5 i k := fun i k hi => by rw [am_I_s1 _ _ _ _ hi]
        refine ⟨_, rfl, a1.sI _ (wg_M_t (by omega)), a2.fr (fun k x y => by rw [am_I_s2 _ _ _ _ (by omega)]) rfl, ⟨t, a3, wm_up (a := 0) (c := d.1) c1, fun k hk => ?_, fun k hk => ?_, fun k hk => ?_, fun k hk => ?_, fun k hk => ?_, by rw [am_I_s2 _ _ _ _ (by omega)]; exact c7, c8.fr (by rw [am_I_s2 _ _ _ _ (by omega)]) (fun i _ => e0 _ _ (by omega)), c9.fr (by rw [am_I_s2 _ _ _ _ (by omega)]) (fun i _ => e0 _ _ (by omega))⟩, wn_pk_ok a5 c G1.2.2.2.1 G2.2.2.2.1⟩
        · have t7 : pw_t (wn_pk d hu st) 7 k = if k = pw_n d 0 then st else pw_t d 7 k := by
            show wn_st (wn_st d.2.1 6 (d.1 0) hu) 7 (d.1 0) st 7 k = _
            rw [wn_st_c, wn_st_o _ (by omega)]; rfl
          have t6 : pw_t (wn_pk d hu st) 6 k = if k = pw_n d 0 then hu else pw_t d 6 k := by
            show wn_st (wn_st d.2.1 6 (d.1 0) hu) 7 (d.1 0) st 6 k = _
            rw [wn_st_o _ (by omega), wn_st_c]; rfl
          have hk' : k < pw_n d 0 + 1 := hk
          rw [e0 _ _ (by omega), e0 _ _ (by omega), t6, t7]
          exact ⟨wm_tab (fun a ha => (c2 a ha).1) v72' k hk', wm_tab (fun a ha => (c2 a ha).2) v73 k hk'⟩
        · rw [e0 _ _ (by omega), e0 _ _ (by omega)]; exact c3 k hk
        · rw [e0 _ _ (by omega)]; exact c4 k hk
        · rw [e0 _ _ (by omega), e0 _ _ (by omega), e0 _ _ (by omega), e0 _ _ (by omega)]; exact c5 k hk
        · rw [e0 _ _ (by omega)]; exact c6 k hk
  · obtain ⟨g1, r1, z1, f1⟩ := h.wr (f := 2) hJ (by omega)
    rw [if_pos (show nI (pw_n d 0) = nI 4 by rw [show pw_n d 0 = 4 by omega]), if_neg c, r1, am_bV_ok, e212_13, s195f f1, am_bI_ok, if_pos (show nI 0 = 0 from rfl)]
    exact ⟨_, rfl, z1⟩
theorem s213 {kk : Nat} (hk3 : kk ≤ 3) (h : wm_Z h0 tp n g (.inr (s, d))) (hJ : wm_J h0 tp n) : am_RV (am_run am_M 213 [.ref 60, .int (nI kk)] g) (fun g' => wm_Z h0 tp n g' (wn_place tp n kk s d)) := by
  have hn := hJ.1.1
  obtain ⟨_, _, ⟨_, _, hN⟩, hok⟩ := id h
  have h4 := hok.1.1
  have cn : am_I g 60 31 = nI (pw_n d 1) := hN.1 1 (by omega)
  rw [e213, cn]
  unfold wn_place
  by_cases c : pw_n d 1 < 9
  · rw [if_neg (fun e => by have := (nI_eq (by omega) (by omega)).mp e; omega), if_pos c, e213_14, s195G (h.z0 hJ), am_bI_ok, if_neg (show ¬ nI 1 = 0 by decide)]
    obtain ⟨g1, r1, _, z1⟩ := h.go hJ
    obtain ⟨_, X1, ⟨_, _, N1⟩, _⟩ := id z1
    rw [r1, am_bV_ok, show am_I g1 60 31 = nI (pw_n d 1) from N1.1 1 (by omega), am_is_ok (r := 74) (n := 9) rfl (by omega) (by omega) (by omega)]
    have z2 := z1.sI (i := 74) (k := pw_n d 1) (nI kk) (Or.inr (Or.inl ⟨Or.inl rfl, rfl⟩))
    have v74 : am_I (am_sI g1 74 (pw_n d 1) (nI kk)) 74 (pw_n d 1) = nI kk := am_I_s _ _ _ _
    generalize am_sI g1 74 (pw_n d 1) (nI kk) = g2 at z2 v74 ⊢
    obtain ⟨_, X2, ⟨_, _, N2⟩, _⟩ := id z2
    rw [show am_I g2 60 30 = nI (pw_n d 0) from N2.1 0 (by omega), show am_I g2 60 31 = nI (pw_n d 1) from N2.1 1 (by omega)]
    refine pz_IV (s200R (m := pw_n d 0) (z2.ty hJ) (z2.z0 hJ) X2 (by omega)) fun x g3 h3 => ?_
    rw [am_is_ok (r := 75) (n := 9) rfl (by omega) (by omega) (by omega)]
    cases n1 : wn_to tp n (pw_n d 0) (wl_x tp n s) with
    | inl q =>
      obtain ⟨f, p⟩ := q
      rw [n1] at h3
      obtain ⟨k3, f3⟩ := h3
      have f4 : wm_ft (am_sI g3 75 (pw_n d 1) x) f p := ⟨by rw [am_I_s1 _ _ _ _ (by omega)]; exact f3.1, f3.2.1, by rw [am_I_s1 _ _ _ _ (by omega)]; exact f3.2.2⟩
      rw [s195f f4, am_bI_ok, if_pos (show nI 0 = 0 from rfl)]
      exact ⟨_, rfl, (z2.nf k3 f3).1.sI _ (wg_L_t (by omega)), f4⟩
    | inr q =>
      obtain ⟨s1, v⟩ := q
      have G1 := wn_to_G (tp := tp) (m := pw_n d 0) X2.1
      rw [n1] at h3 G1
      obtain ⟨rfl, k3, X3⟩ := h3
      obtain ⟨rfl, hs1, hv, _⟩ := G1
      have z3 := (z2.nx k3 X3 (Nat.le_of_lt (wl_x_gt hs1))).sI (i := 75) (k := pw_n d 1) (nI v) (Or.inr (Or.inl ⟨Or.inr rfl, rfl⟩))
      have v74' : am_I (am_sI g3 75 (pw_n d 1) (nI v)) 74 (pw_n d 1) = nI kk := by rw [am_I_s1 _ _ _ _ (by omega), k3.get _ _ (wg_x_f (by omega))]; exact v74
      have v75 : am_I (am_sI g3 75 (pw_n d 1) (nI v)) 75 (pw_n d 1) = nI v := am_I_s _ _ _ _
      generalize am_sI g3 75 (pw_n d 1) (nI v) = g5 at z3 v74' v75 ⊢
      rw [s195G (z3.z0 hJ), am_bI_ok, if_neg (show ¬ nI 1 = 0 by decide)]
      obtain ⟨a1, a2, ⟨t, a3, c1, c2, c3, c4, c5, c6, c7, c8, c9⟩, a5⟩ := z3
      rw [show am_I g5 60 31 = nI (pw_n d 1) from c1 1 (by omega), nI_add]
      have e0 : ∀ i k, i ≠ 60 → am_I (am_sI g5 60 31 (nI (pw_n d 1 + 1))) i k = am_I g5 i k := fun i k hi => by rw [am_I_s1 _ _ _ _ hi]
      refine ⟨_, rfl, a1.sI _ (wg_M_t (by omega)), a2.fr (fun k x y => by rw [am_I_s2 _ _ _ _ (by omega)]) rfl, ⟨t, a3, wm_up (a := 1) (c := d.1) c1, fun k hk => ?_, fun k hk => ?_, fun k hk => ?_, fun k hk => ?_, fun k hk => ?_, by rw [am_I_s2 _ _ _ _ (by omega)]; exact c7, c8.fr (by rw [am_I_s2 _ _ _ _ (by omega)]) (fun i _ => e0 _ _ (by omega)), c9.fr (by rw [am_I_s2 _ _ _ _ (by omega)]) (fun i _ => e0 _ _ (by omega))⟩, wn_pl_ok a5 c hk3 hv⟩
      · rw [e0 _ _ (by omega), e0 _ _ (by omega)]; exact c2 k hk
      · have t0 : pw_t (wn_pl d kk v) 0 k = if k = pw_n d 1 then kk else pw_t d 0 k := by
          show wn_st (wn_st d.2.1 0 (d.1 1) kk) 1 (d.1 1) v 0 k = _
          rw [wn_st_o _ (by omega), wn_st_c]; rfl
        have t1 : pw_t (wn_pl d kk v) 1 k = if k = pw_n d 1 then v else pw_t d 1 k := by
          show wn_st (wn_st d.2.1 0 (d.1 1) kk) 1 (d.1 1) v 1 k = _
          rw [wn_st_c, wn_st_o _ (by omega)]; rfl
        have hk' : k < pw_n d 1 + 1 := hk
        rw [e0 _ _ (by omega), e0 _ _ (by omega), t0, t1]
        exact ⟨wm_tab (fun a ha => (c3 a ha).1) v74' k hk', wm_tab (fun a ha => (c3 a ha).2) v75 k hk'⟩
      · rw [e0 _ _ (by omega)]; exact c4 k hk
      · rw [e0 _ _ (by omega), e0 _ _ (by omega), e0 _ _ (by omega), e0 _ _ (by omega)]; exact c5 k hk
      · rw [e0 _ _ (by omega)]; exact c6 k hk
  · obtain ⟨g1, r1, z1, f1⟩ := h.wr (f := 2) hJ (by omega)
    rw [if_pos (show nI (pw_n d 1) = nI 9 by rw [show pw_n d 1 = 9 by omega]), if_neg c, r1, am_bV_ok, e213_14, s195f f1, am_bI_ok, if_pos (show nI 0 = 0 from rfl)]
    exact ⟨_, rfl, z1⟩
end
