/-! WINTER: the model's lines, on -/
def wg_11 (a i k : Nat) : Bool := decide (i = 60 ∧ (k = 19 ∨ k = 20 ∨ 23 ≤ k ∧ k ≤ 28 ∨ 37 ≤ k ∧ k ≤ 41) ∨ i = 82 ∧ a ≤ k ∨ i = 83 ∨ i = 84)
theorem wg_11_f {a i k : Nat} (h : ¬ (i = 60 ∧ (k = 19 ∨ k = 20 ∨ 23 ≤ k ∧ k ≤ 28 ∨ 37 ≤ k ∧ k ≤ 41) ∨ i = 82 ∧ a ≤ k ∨ i = 83 ∨ i = 84)) : wg_11 a i k = false := decide_eq_false h
theorem wg_11_t {a i k : Nat} (h : i = 60 ∧ (k = 19 ∨ k = 20 ∨ 23 ≤ k ∧ k ≤ 28 ∨ 37 ≤ k ∧ k ≤ 41) ∨ i = 82 ∧ a ≤ k ∨ i = 83 ∨ i = 84) : wg_11 a i k = true := decide_eq_true h
def wg_12 (a i k : Nat) : Bool := decide (i = 60 ∧ (23 ≤ k ∧ k ≤ 28 ∨ 37 ≤ k ∧ k ≤ 41) ∨ i = 82 ∧ a ≤ k ∨ i = 83 ∨ i = 84)
theorem wg_12_f {a i k : Nat} (h : ¬ (i = 60 ∧ (23 ≤ k ∧ k ≤ 28 ∨ 37 ≤ k ∧ k ≤ 41) ∨ i = 82 ∧ a ≤ k ∨ i = 83 ∨ i = 84)) : wg_12 a i k = false := decide_eq_false h
theorem wg_12_t {a i k : Nat} (h : i = 60 ∧ (23 ≤ k ∧ k ≤ 28 ∨ 37 ≤ k ∧ k ≤ 41) ∨ i = 82 ∧ a ≤ k ∨ i = 83 ∨ i = 84) : wg_12 a i k = true := decide_eq_true h
def wm_R11 (tp : Nat → Nat) (n j a : Nat) (g g' : am_H) : wp_Q → Prop
  | .inl (f, p) => wm_k (wg_11 a) g g' ∧ wm_ft g' f p
  | .inr (s', l') => wm_k (wg_12 a) g g' ∧ wm_X g' tp n s' ∧ am_I g' 60 37 = nI (a + (pm_code j l').length) ∧ (∀ i, i < (pm_code j l').length → am_I g' 82 (a + i) = nI ((pm_code j l').getD i 0)) ∧ a + (pm_code j l').length ≤ 2 * s'
theorem s211 {tp : Nat → Nat} {n j a s : Nat} {g : am_H} (ht : wm_tp g tp n) (hz : am_I g 60 19 = nI 0) (hX : wm_X g tp n s) (h37 : am_I g 60 37 = nI a) (ha : a + 8 ≤ 2 * s) (hj : j < 2) : am_RV (am_run am_M 211 [.ref 60, .int (nI (3 * j)), .int (nI (3 * j + 6))] g) (fun g' => wm_R11 tp n j a g g' (wp_ex tp n j 6 s [])) := by
  have hn := ht.1
  have hs := hX.1
  rw [e211, s195G hz, am_bI_ok, if_neg (show ¬ nI 1 = 0 by decide)]
  dsimp only
  have k0 : wm_k (wg_12 a) g (am_sI (am_sI (am_sI (am_sI g 60 38 (nI (3 * j))) 60 39 (nI (3 * j + 6))) 60 40 (nI 0)) 60 41 (nI 0)) := ((((wm_k.refl _ g).sI _ (wg_12_t (by omega))).sI _ (wg_12_t (by omega))).sI _ (wg_12_t (by omega))).sI _ (wg_12_t (by omega))
  have v38 : am_I (am_sI (am_sI (am_sI (am_sI g 60 38 (nI (3 * j))) 60 39 (nI (3 * j + 6))) 60 40 (nI 0)) 60 41 (nI 0)) 60 38 = nI (3 * j) := by rw [am_I_s2 _ _ _ _ (by omega), am_I_s2 _ _ _ _ (by omega), am_I_s2 _ _ _ _ (by omega), am_I_s]
  have v39 : am_I (am_sI (am_sI (am_sI (am_sI g 60 38 (nI (3 * j))) 60 39 (nI (3 * j + 6))) 60 40 (nI 0)) 60 41 (nI 0)) 60 39 = nI (3 * j + 6) := by rw [am_I_s2 _ _ _ _ (by omega), am_I_s2 _ _ _ _ (by omega), am_I_s]
  have v40 : am_I (am_sI (am_sI (am_sI (am_sI g 60 38 (nI (3 * j))) 60 39 (nI (3 * j + 6))) 60 40 (nI 0)) 60 41 (nI 0)) 60 40 = nI 0 := by rw [am_I_s2 _ _ _ _ (by omega), am_I_s]
  have v41 : am_I (am_sI (am_sI (am_sI (am_sI g 60 38 (nI (3 * j))) 60 39 (nI (3 * j + 6))) 60 40 (nI 0)) 60 41 (nI 0)) 60 41 = nI 0 := am_I_s _ _ _ _
  have X0 : wm_X (am_sI (am_sI (am_sI (am_sI g 60 38 (nI (3 * j))) 60 39 (nI (3 * j + 6))) 60 40 (nI 0)) 60 41 (nI 0)) tp n s := hX.fr (fun k h1 h2 => by rw [am_I_s2 _ _ _ _ (by omega), am_I_s2 _ _ _ _ (by omega), am_I_s2 _ _ _ _ (by omega), am_I_s2 _ _ _ _ (by omega)]) rfl
  have v37 : am_I (am_sI (am_sI (am_sI (am_sI g 60 38 (nI (3 * j))) 60 39 (nI (3 * j + 6))) 60 40 (nI 0)) 60 41 (nI 0)) 60 37 = nI a := by rw [am_I_s2 _ _ _ _ (by omega), am_I_s2 _ _ _ _ (by omega), am_I_s2 _ _ _ _ (by omega), am_I_s2 _ _ _ _ (by omega)]; exact h37
  have v19 : am_I (am_sI (am_sI (am_sI (am_sI g 60 38 (nI (3 * j))) 60 39 (nI (3 * j + 6))) 60 40 (nI 0)) 60 41 (nI 0)) 60 19 = nI 0 := by rw [am_I_s2 _ _ _ _ (by omega), am_I_s2 _ _ _ _ (by omega), am_I_s2 _ _ _ _ (by omega), am_I_s2 _ _ _ _ (by omega)]; exact hz
  generalize am_sI (am_sI (am_sI (am_sI g 60 38 (nI (3 * j))) 60 39 (nI (3 * j + 6))) 60 40 (nI 0)) 60 41 (nI 0) = g0 at k0 v38 v39 v40 v41 X0 v37 v19 ⊢
  have hH : wm_H g0 tp n j := ⟨ht.kp k0 (wg_12_f (by omega)) (fun k => wg_12_f (by omega)), v19, v38, v39, hj⟩
  have c0 : wm_C g0 tp n j a 0 0 g0 s [] [] 0 (fun _ => 0) := ⟨wm_k.refl _ _, X0, ⟨v37, fun i hi => absurd hi (Nat.not_lt_zero i)⟩, ⟨v40, fun i hi => absurd hi (Nat.not_lt_zero i)⟩, ⟨v41, by omega⟩, fun i h1 h2 => by omega, fun c hc => absurd hc List.not_mem_nil, by show a + 0 + 0 + 8 ≤ 2 * s + 0; omega, Nat.zero_le _⟩
  have w := wm_ex (a := a) hH 6 0 rfl g0 s [] [] _ c0 (Or.inl rfl)
  have hd : wm_k (wg_E a) g0 = wm_k (wg_E a) g0 := rfl
  -- both ends
  have e : (am_bV [] (am_run am_M 207 [(.ref 60)] g0) fun g7 => am_bV [] (am_run am_M 208 [(.ref 60), (.int (nI 1))] g7) fun g8 => am_vn am_M 5 211 39 [some (.ref 60), none, none, some (.int (nI 1)), none] [] g8) = am_bV [] (am_bV [] (am_run am_M 207 [.ref 60] g0) fun g20 => am_vn am_M 4 208 4 [some (.ref 60), none, some (.int (nI 1)), some (.int (nI 1)), none] [] g20) (fun g' => wm_TO g') := by
    cases hr : am_run am_M 207 [.ref 60] g0 with
    | none => rfl
    | some q =>
      obtain ⟨q, g1⟩ := q
      match q with
      | .inl none => rw [am_bV_ok, am_bV_ok, e208]
      | .inl (some _) => rfl
      | .inr _ => rfl
  rw [e]
  have up11 : ∀ g', wm_k (wg_E a) g0 g' → wm_k (wg_11 a) g g' := fun g' k => (k0.up fun i k hi => wg_12_f (fun c => by have := of_decide_eq_false hi; omega)).trans (k.up fun i k hi => wg_E_f (fun c => by have := of_decide_eq_false hi; omega))
  cases hr : wp_ex tp n j 6 s [] with
  | inl q =>
    obtain ⟨f, p⟩ := q
    rw [hr] at w
    obtain ⟨g1, e1, F1⟩ := w
    rw [e1, wm_TOF F1]
    obtain ⟨a1, a2, a3, a4, B, t, b1, b2, b3, b4, b5, b6⟩ := F1
    obtain ⟨g2, t2, r2, k2, h2, hb, ha2⟩ := s204_F (g := g1) (a := a) b2 B.length g1 B t rfl b1 b2 b3 (by omega) b5 b6 (am_kp.refl _ _)
    have r2' : am_run am_M 204 [.ref 60, .int (nI 0)] g1 = some (.inl none, g2) := by rw [e204]; exact r2
    rw [e211_360, r2', am_bV_ok, s201 h2 (by omega), am_bV_ok]
    have kk : wm_k (wg_E a) g1 g2 := ⟨k2.1, k2.2.1, k2.2.2.1, k2.R, fun i _ => by rw [k2.J], fun i k' hi => k2.get i k' (wg_d_f (fun c => by have := of_decide_eq_false hi; omega))⟩
    refine ⟨_, rfl, up11 _ (((a1.trans kk).sI _ (wg_E_t (by omega))).sI _ (wg_E_t (by omega))), ?_, a3, ?_⟩
    · rw [am_I_s2 _ _ _ _ (by omega), am_I_s1 _ _ _ _ (by omega), k2.get _ _ (wg_d_f (by omega))]; exact a2
    · rw [am_I_s2 _ _ _ _ (by omega), am_I_s1 _ _ _ _ (by omega), k2.get _ _ (wg_d_f (by omega))]; exact a4
  | inr q =>
    obtain ⟨s', l'⟩ := q
    rw [hr] at w
    obtain ⟨g1, o, Q, T', e1, el, hq, c1, _, m1, m2, m3, m4, m5⟩ := w
    have e4 := wm_TO41 c1 hH (by omega) m1 m2 m3 m4 m5
    have hnm : 20011 ∉ ([] : List Nat) ++ Q.reverse := fun hm => by
      rw [List.nil_append, List.mem_reverse] at hm
      have := (hq _ hm).1
      omega
    have e5 : wm_TO g1 = am_vn am_M 5 211 360 [some (.ref 60), none, none, none, none] [] g1 := by
      have hlen : (([] : List Nat) ++ Q.reverse).length ≤ 900 := by have := c1.2.2.2.2.2.2.2.2; have := c1.2.1.1; omega
      have e6 : am_vn am_M 5 211 39 [some (.ref 60), none, none, some (.int (nI 0)), none] [] g1 = am_vn am_M 5 211 360 [some (.ref 60), none, none, none, none] [] g1 := by
        rw [wm_more0 (c1.f0 hH), e211_340, s195G (c1.f0 hH), am_bI_ok, if_neg (show ¬ nI 1 = 0 by decide), c1.2.2.2.2.1.1, if_pos (nI_le (by omega) (by omega))]
      rw [s196G ht.2.1 c1.2.1 (by omega), am_bI_ok] at e4
      by_cases c41 : wl_k tp n s' = 41
      · rw [if_pos c41, if_neg (show ¬ nI 1 = 0 by decide), s209 c1.2.2.2.1 c1.2.2.2.2.2.2.1 hlen, am_bI_ok, if_neg hnm, if_pos (show nI 0 = 0 from rfl)] at e4
        exact e4.trans e6
      · rw [if_neg c41, if_pos (show nI 0 = 0 from rfl)] at e4
        exact e4.trans e6
    obtain ⟨g2, r2, c2⟩ := c1.dr hn (by omega) (Or.inl rfl) (wm_q_up hq (by omega)) (m := 0) (by omega)
    rw [el] at c2
    obtain ⟨b1, b2, b3, b4, b5, b6, b7, b8, b9⟩ := c2
    have hs' := b2.1
    have hcl : (pm_code j l').length = (wm_cd j l').length + 1 := by rw [pm_code_cd, List.length_append]; rfl
    have b8' : a + (wm_cd j l').length + 0 + 8 ≤ 2 * s' + 0 := b8
    rw [e1, e5, e211_360, r2, am_bV_ok, s201 b3.1 (by omega), am_bV_ok]
    have kk : wm_k (wg_12 a) g g2 := k0.trans (b1.up fun i k hi => wg_G_f (fun c => by have := of_decide_eq_false hi; omega))
    refine ⟨_, rfl, (kk.sI _ (wg_12_t (by omega))).sI _ (wg_12_t (by omega)), b2.fr (fun k h1 h2 => by rw [am_I_s2 _ _ _ _ (by omega), am_I_s1 _ _ _ _ (by omega)]) rfl, by rw [am_I_s, hcl, Nat.add_assoc], fun i hi => ?_, by omega⟩
    rw [am_I_s1 _ _ _ _ (by omega), pm_code_cd]
    rw [hcl] at hi
    by_cases ci : i = (wm_cd j l').length
    · rw [ci, am_I_s, wm_g0]
    · rw [am_I_s2 _ _ _ _ (by omega), wm_gd _ _ (by omega)]; exact b3.2 i (by omega)
section
variable {h0 : am_H} {tp : Nat → Nat} {n s : Nat} {g : am_H} {d : pw_L}
theorem s199f {f p : Nat} {x : Int32} (h : wm_ft g f p) : am_run am_M 199 [.ref 60, .int x] g = some (.inl (some (.int (nI 0))), g) := by
  rw [e199, s195f h, am_bI_ok, if_pos (show nI 0 = 0 from rfl), if_pos (by decide)]
theorem s214_76f {f p : Nat} {x y : Int32} (h : wm_ft g f p) : am_vn am_M 3 214 76 [some (.ref 60), some (.int x), some (.int y), none] [] g = some (.inl none, g) := by
  rw [e214_76, s195f h, am_bI_ok, if_pos (show nI 0 = 0 from rfl)]
theorem s214 (h : wm_Z h0 tp n g (.inr (s, d))) (hJ : wm_J h0 tp n) : am_RV (am_run am_M 214 [.ref 60] g) (fun g' => wm_Z h0 tp n g' (wn_path tp n s d)) := by
  have hn := hJ.1.1
  obtain ⟨_, _, ⟨_, _, hN⟩, hok⟩ := id h
  have h4 := hok.1.1
  have hW := hok.1.2.2.2.2.1
  have cn : am_I g 60 32 = nI (pw_n d 2) := hN.1 2 (by omega)
  rw [e214, cn]
  unfold wn_path
  by_cases c : pw_n d 2 < 14
  · rw [if_neg (fun e => by have := (nI_eq (by omega) (by omega)).mp e; omega), if_pos c, e214_14, s195G (h.z0 hJ), am_bI_ok, if_neg (show ¬ nI 1 = 0 by decide)]
    obtain ⟨g1, r1, _, z1⟩ := h.go hJ
    obtain ⟨_, X1, ⟨_, _, N1⟩, _⟩ := id z1
    rw [r1, am_bV_ok, show am_I g1 60 31 = nI (pw_n d 1) from N1.1 1 (by omega)]
    refine pz_IV (s200R (m := pw_n d 1) (z1.ty hJ) (z1.z0 hJ) X1 (by omega)) fun x g2 h2 => ?_
    cases n1 : wn_to tp n (pw_n d 1) (wl_x tp n s) with
    | inl q =>
      obtain ⟨f, p⟩ := q
      rw [n1] at h2
      obtain ⟨k2, f2⟩ := h2
      rw [s199f f2, am_bI_ok, if_pos (show nI 0 = 0 from rfl)]
      exact ⟨_, rfl, z1.nf k2 f2⟩
    | inr q =>
      obtain ⟨s1, va⟩ := q
      have G1 := wn_to_G (tp := tp) (m := pw_n d 1) X1.1
      rw [n1] at h2 G1
      obtain ⟨rfl, k2, X2⟩ := h2
      obtain ⟨rfl, hs1, hva, _⟩ := G1
      have z2 := z1.nx k2 X2 (Nat.le_of_lt (wl_x_gt hs1))
      obtain ⟨_, _, ⟨_, _, N2⟩, _⟩ := id z2
      rw [show am_I g2 60 31 = nI (pw_n d 1) from N2.1 1 (by omega)]
      refine pz_IV (s199R (m := pw_n d 1) (z2.ty hJ) (z2.z0 hJ) X2 (by omega)) fun y g3 h3 => ?_
      show am_RV _ (fun g' => wm_Z h0 tp n g' (wn_vb (wn_to tp n (pw_n d 1) (wl_x tp n (wl_x tp n s))) (fun s2 b => if b = va ∨ 0 < pw_t d 5 (va * 9 + b) then .inl (4, s2) else wn_vb (wn_nu tp n 1 9 (wl_x tp n s2)) (fun s3 v => .inr (s3, wn_pa d va b v)))))
      cases n2 : wn_to tp n (pw_n d 1) (wl_x tp n (wl_x tp n s)) with
      | inl q =>
        obtain ⟨f, p⟩ := q
        rw [n2] at h3
        obtain ⟨rfl, k3, f3⟩ := h3
        rw [if_pos (show nI 0 = 0 from rfl)]
        exact ⟨_, rfl, z2.nf k3 f3⟩
      | inr q =>
        obtain ⟨s2, vb⟩ := q
        have G2 := wn_to_G (tp := tp) (m := pw_n d 1) X2.1
        rw [n2] at h3 G2
        obtain ⟨rfl, rfl, h27⟩ := h3
        obtain ⟨rfl, hs2, hvb, _⟩ := G2
        have t9 := (hW va vb (by omega) (by omega)).1
        obtain ⟨_, _, _, c4, _⟩ := N2
        rw [if_neg (show ¬ nI 1 = 0 by decide), h27]
        show am_RV _ (fun g' => wm_Z h0 tp n g' (if vb = va ∨ 0 < pw_t d 5 (va * 9 + vb) then .inl (4, wl_x tp n (wl_x tp n s)) else wn_vb (wn_nu tp n 1 9 (wl_x tp n (wl_x tp n (wl_x tp n s)))) (fun s3 v => .inr (s3, wn_pa d va vb v))))
        have bad : am_RV (am_bV [] (am_run am_M 194 [(.ref 60), (.int (nI 4))] g3) fun g9 => am_vn am_M 3 214 76 [some (.ref 60), some (.int (nI va)), some (.int (nI vb)), none] [] g9) (fun g' => wm_Z h0 tp n g' (.inl (4, wl_x tp n (wl_x tp n s)))) := by
          obtain ⟨g4, r4, z4, f4⟩ := z2.wr (f := 4) hJ (by omega)
          rw [r4, am_bV_ok, s214_76f f4]
          exact ⟨_, rfl, z4⟩
        by_cases cb : vb = va
        · rw [if_pos (show nI va = nI vb by rw [cb]), if_pos (Or.inl cb)]; exact bad
        · rw [if_neg (show ¬ nI va = nI vb from fun e => cb ((nI_eq (by omega) (by omega)).mp e).symm), pk_mul, nI_add, Nat.mul_comm 9 va, ml_76 (by omega), c4 _ (by omega)]
          by_cases ct : 0 < pw_t d 5 (va * 9 + vb)
          · rw [if_neg (show ¬ nI (pw_t d 5 (va * 9 + vb)) ≤ 0 from nI_ge ct (by omega)), if_pos (Or.inr ct)]; exact bad
          · rw [if_pos (show nI (pw_t d 5 (va * 9 + vb)) ≤ 0 by rw [show pw_t d 5 (va * 9 + vb) = 0 by omega]; decide), if_neg (fun h => by rcases h with h | h <;> omega), e214_76, s195G (z2.z0 hJ), am_bI_ok, if_neg (show ¬ nI 1 = 0 by decide)]
            obtain ⟨g4, r4, _, z4⟩ := z2.go hJ
            obtain ⟨_, X4, _, _⟩ := id z4
            rw [r4, am_bV_ok]
            refine pz_IV (s198R (lo := 1) (hi := 9) (z4.ty hJ) (z4.z0 hJ) X4 (by omega) (by omega)) fun w g5 h5 => ?_
            cases n3 : wn_nu tp n 1 9 (wl_x tp n (wl_x tp n (wl_x tp n s))) with
            | inl q =>
              obtain ⟨f, p⟩ := q
              rw [n3] at h5
              obtain ⟨k5, f5⟩ := h5
              rw [s195f f5, am_bI_ok, if_pos (show nI 0 = 0 from rfl)]
              exact ⟨_, rfl, z4.nf k5 f5⟩
            | inr q =>
              obtain ⟨s3, v⟩ := q
              have G3 := wn_nu_G (tp := tp) (lo := 1) (hi := 9) X4.1
              rw [n3] at h5 G3
              obtain ⟨rfl, k5, X5⟩ := h5
              have z5 := z4.nx k5 X5 (Nat.le_of_lt G3.1)
              rw [s195G (z5.z0 hJ), am_bI_ok, if_neg (show ¬ nI 1 = 0 by decide), pk_mul, nI_add, Nat.mul_comm 9 va, ms_76 (by omega), pk_mul, nI_add, Nat.mul_comm 9 vb, ms_76 (by omega), am_I_s1 _ _ _ _ (show 60 ≠ 76 by omega), am_I_s1 _ _ _ _ (show 60 ≠ 76 by omega)]
              obtain ⟨a1, a2, ⟨t, a3, c1, c2, c3, c4, c5, c6, c7, c8, c9⟩, a5⟩ := z5
              rw [show am_I g5 60 32 = nI (pw_n d 2) from c1 2 (by omega), nI_add]
              have e0 : ∀ i k, i ≠ 60 → i ≠ 76 → am_I (am_sI (am_sI (am_sI g5 76 (va * 9 + vb) (nI v)) 76 (vb * 9 + va) (nI v)) 60 32 (nI (pw_n d 2 + 1))) i k = am_I g5 i k := fun i k hi hj => by rw [am_I_s1 _ _ _ _ hi, am_I_s1 _ _ _ _ hj, am_I_s1 _ _ _ _ hj]
              have e6 : ∀ k, k ≠ 32 → am_I (am_sI (am_sI (am_sI g5 76 (va * 9 + vb) (nI v)) 76 (vb * 9 + va) (nI v)) 60 32 (nI (pw_n d 2 + 1))) 60 k = am_I g5 60 k := fun k hk => by rw [am_I_s2 _ _ _ _ hk, am_I_s1 _ _ _ _ (by omega), am_I_s1 _ _ _ _ (by omega)]
              refine ⟨_, rfl, ((a1.sI _ (wg_M_t (by omega))).sI _ (wg_M_t (by omega))).sI _ (wg_M_t (by omega)), a2.fr (fun k x y => e6 _ (by omega)) rfl, ⟨t, a3, wm_up (a := 2) (c := d.1) (fun i hi => by rw [am_I_s1 _ _ _ _ (by omega), am_I_s1 _ _ _ _ (by omega)]; exact c1 i hi), fun k hk => ?_, fun k hk => ?_, fun k hk => ?_, fun k hk => ?_, fun k hk => ?_, (e6 _ (by omega)).trans c7, c8.fr (e6 _ (by omega)) (fun i _ => e0 _ _ (by omega) (by omega)), c9.fr (e6 _ (by omega)) (fun i _ => e0 _ _ (by omega) (by omega))⟩, wn_pa_ok a5 c hva hvb cb G3.2.2.2.1⟩
              · rw [e0 _ _ (by omega) (by omega), e0 _ _ (by omega) (by omega)]; exact c2 k hk
              · rw [e0 _ _ (by omega) (by omega), e0 _ _ (by omega) (by omega)]; exact c3 k hk
              · have t5 : pw_t (wn_pa d va vb v) 5 k = if k = vb * 9 + va then v else if k = va * 9 + vb then v else pw_t d 5 k := by
                  show wn_st (wn_st d.2.1 5 (va * 9 + vb) v) 5 (vb * 9 + va) v 5 k = _
                  rw [wn_st_c, wn_st_c]; rfl
                rw [t5, am_I_s1 _ _ _ _ (by omega)]
                by_cases y1 : k = vb * 9 + va
                · rw [if_pos y1, y1, am_I_s]
                · rw [if_neg y1, am_I_s2 _ _ _ _ y1]
                  by_cases y2 : k = va * 9 + vb
                  · rw [if_pos y2, y2, am_I_s]
                  · rw [if_neg y2, am_I_s2 _ _ _ _ y2]; exact c4 k hk
              · rw [e0 _ _ (by omega) (by omega), e0 _ _ (by omega) (by omega), e0 _ _ (by omega) (by omega), e0 _ _ (by omega) (by omega)]; exact c5 k hk
              · rw [e0 _ _ (by omega) (by omega)]; exact c6 k hk
  · obtain ⟨g1, r1, z1, f1⟩ := h.wr (f := 2) hJ (by omega)
    rw [if_pos (show nI (pw_n d 2) = nI 14 by rw [show pw_n d 2 = 14 by omega]), if_neg c, r1, am_bV_ok, e214_14, s195f f1, am_bI_ok, if_pos (show nI 0 = 0 from rfl)]
    exact ⟨_, rfl, z1⟩
theorem s215_78f {f p : Nat} {x : Int32} (h : wm_ft g f p) : am_vn am_M 3 215 78 [some (.ref 60), none, some (.int x)] [] g = some (.inl none, g) := by
  rw [e215_78, s195f h, am_bI_ok, if_pos (show nI 0 = 0 from rfl)]
theorem s215 {kk : Nat} (hk3 : kk ≤ 3) (h : wm_Z h0 tp n g (.inr (s, d))) (hJ : wm_J h0 tp n) : am_RV (am_run am_M 215 [.ref 60, .int (nI kk)] g) (fun g' => wm_Z h0 tp n g' (wn_person tp n kk s d)) := by
  have hn := hJ.1.1
  obtain ⟨_, _, ⟨_, _, hN⟩, hok⟩ := id h
  have h4 := hok.1.1
  have hP := hok.1.2.1
  have cn : am_I g 60 33 = nI (pw_n d 3) := hN.1 3 (by omega)
  rw [e215, cn]
  unfold wn_person
  by_cases c : pw_n d 3 < 6
  · rw [if_neg (fun e => by have := (nI_eq (by omega) (by omega)).mp e; omega), if_pos c, e215_14, s195G (h.z0 hJ), am_bI_ok, if_neg (show ¬ nI 1 = 0 by decide)]
    obtain ⟨g1, r1, _, z1⟩ := h.go hJ
    obtain ⟨_, X1, ⟨_, _, N1⟩, _⟩ := id z1
    rw [r1, am_bV_ok, show am_I g1 60 33 = nI (pw_n d 3) from N1.1 3 (by omega), ms_77 (by omega)]
    have z2 := z1.sI (i := 77) (k := pw_n d 3) (nI kk) (Or.inr (Or.inr (Or.inl ⟨by omega, rfl⟩)))
    have v77 : am_I (am_sI g1 77 (pw_n d 3) (nI kk)) 77 (pw_n d 3) = nI kk := am_I_s _ _ _ _
    generalize am_sI g1 77 (pw_n d 3) (nI kk) = g2 at z2 v77 ⊢
    obtain ⟨_, X2, ⟨_, _, N2⟩, _⟩ := id z2
    rw [show am_I g2 60 31 = nI (pw_n d 1) from N2.1 1 (by omega)]
    refine pz_IV (s199R (m := pw_n d 1) (z2.ty hJ) (z2.z0 hJ) X2 (by omega)) fun x g3 h3 => ?_
    cases n1 : wn_to tp n (pw_n d 1) (wl_x tp n s) with
    | inl q =>
      obtain ⟨f, p⟩ := q
      rw [n1] at h3
      obtain ⟨rfl, k3, f3⟩ := h3
      rw [if_pos (show nI 0 = 0 from rfl)]
      exact ⟨_, rfl, z2.nf k3 f3⟩
    | inr q =>
      obtain ⟨s1, m⟩ := q
      have G1 := wn_to_G (tp := tp) (m := pw_n d 1) X2.1
      rw [n1] at h3 G1
      obtain ⟨rfl, rfl, h27⟩ := h3
      obtain ⟨rfl, hs1, hm, _⟩ := G1
      have hk0 := (hP m hm).1
      rw [if_neg (show ¬ nI 1 = 0 by decide), h27, ms_78 (by omega), am_I_s1 _ _ _ _ (show 60 ≠ 78 by omega), h27, ml_74 (by omega), am_I_s1 _ _ _ _ (show 74 ≠ 78 by omega), (N2.2.2.1 m hm).1]
      have z3 := z2.sI (i := 78) (k := pw_n d 3) (nI m) (Or.inr (Or.inr (Or.inl ⟨by omega, rfl⟩)))
      have w77 : am_I (am_sI g3 78 (pw_n d 3) (nI m)) 77 (pw_n d 3) = nI kk := by rw [am_I_s1 _ _ _ _ (by omega)]; exact v77
      have w78 : am_I (am_sI g3 78 (pw_n d 3) (nI m)) 78 (pw_n d 3) = nI m := am_I_s _ _ _ _
      generalize am_sI g3 78 (pw_n d 3) (nI m) = g4 at z3 w77 w78 ⊢
      obtain ⟨_, X3, _, _⟩ := id z3
      show am_RV _ (fun g' => wm_Z h0 tp n g' (if pw_t d 0 m = 0 then wn_vb (wn_nu tp n 0 99 (wl_x tp n (wl_x tp n s))) (fun s2 la => wn_vb (wn_nu tp n 0 99 s2) (fun s3 wo => .inr (s3, wn_pe d kk m la wo))) else .inl (6, wl_x tp n s)))
      by_cases ck : pw_t d 0 m = 0
      · rw [if_pos (show nI (pw_t d 0 m) = 0 by rw [ck]; rfl), if_pos ck, e215_78, s195G (z3.z0 hJ), am_bI_ok, if_neg (show ¬ nI 1 = 0 by decide)]
        obtain ⟨g5, r5, kx, z5⟩ := z3.go hJ
        obtain ⟨_, X5, _, _⟩ := id z5
        rw [r5, am_bV_ok]
        have u77 : am_I g5 77 (pw_n d 3) = nI kk := (kx.get _ _ (wg_x_f (by omega))).trans w77
        have u78 : am_I g5 78 (pw_n d 3) = nI m := (kx.get _ _ (wg_x_f (by omega))).trans w78
        refine pz_IV (s198R (lo := 0) (hi := 99) (z5.ty hJ) (z5.z0 hJ) X5 (by omega) (by omega)) fun y g6 h6 => ?_
        rw [ms_79 (by omega)]
        cases n2 : wn_nu tp n 0 99 (wl_x tp n (wl_x tp n s)) with
        | inl q =>
          obtain ⟨f, p⟩ := q
          rw [n2] at h6
          obtain ⟨k6, f6⟩ := h6
          have f7 : wm_ft (am_sI g6 79 (pw_n d 3) y) f p := ⟨by rw [am_I_s1 _ _ _ _ (by omega)]; exact f6.1, f6.2.1, by rw [am_I_s1 _ _ _ _ (by omega)]; exact f6.2.2⟩
          have f8 : wm_ft (am_sI (am_sI g6 79 (pw_n d 3) y) 80 (pw_n d 3) (nI 0)) f p := ⟨by rw [am_I_s1 _ _ _ _ (by omega)]; exact f7.1, f7.2.1, by rw [am_I_s1 _ _ _ _ (by omega)]; exact f7.2.2⟩
          rw [s198f f7, am_bI_ok, ms_80 (by omega), s195f f8, am_bI_ok, if_pos (show nI 0 = 0 from rfl)]
          exact ⟨_, rfl, ((z5.nf k6 f6).1.sI _ (wg_L_t (by omega))).sI _ (wg_L_t (by omega)), f8⟩
        | inr q =>
          obtain ⟨s2, la⟩ := q
          have G2 := wn_nu_G (tp := tp) (lo := 0) (hi := 99) X5.1
          rw [n2] at h6 G2
          obtain ⟨rfl, k6, X6⟩ := h6
          have z6 := (z5.nx k6 X6 (Nat.le_of_lt G2.1)).sI (i := 79) (k := pw_n d 3) (nI la) (Or.inr (Or.inr (Or.inl ⟨by omega, rfl⟩)))
          have y77 : am_I (am_sI g6 79 (pw_n d 3) (nI la)) 77 (pw_n d 3) = nI kk := by rw [am_I_s1 _ _ _ _ (by omega), k6.get _ _ (wg_x_f (by omega))]; exact u77
          have y78 : am_I (am_sI g6 79 (pw_n d 3) (nI la)) 78 (pw_n d 3) = nI m := by rw [am_I_s1 _ _ _ _ (by omega), k6.get _ _ (wg_x_f (by omega))]; exact u78
          have y79 : am_I (am_sI g6 79 (pw_n d 3) (nI la)) 79 (pw_n d 3) = nI la := am_I_s _ _ _ _
          generalize am_sI g6 79 (pw_n d 3) (nI la) = g7 at z6 y77 y78 y79 ⊢
          obtain ⟨_, X7, _, _⟩ := id z6
          refine pz_IV (s198R (lo := 0) (hi := 99) (z6.ty hJ) (z6.z0 hJ) X7 (by omega) (by omega)) fun w g8 h8 => ?_
          rw [ms_80 (by omega)]
          show am_RV _ (fun g' => wm_Z h0 tp n g' (wn_vb (wn_nu tp n 0 99 s2) (fun s3 wo => .inr (s3, wn_pe d kk m la wo))))
          cases n3 : wn_nu tp n 0 99 s2 with
          | inl q =>
            obtain ⟨f, p⟩ := q
            rw [n3] at h8
            obtain ⟨k8, f8⟩ := h8
            have f9 : wm_ft (am_sI g8 80 (pw_n d 3) w) f p := ⟨by rw [am_I_s1 _ _ _ _ (by omega)]; exact f8.1, f8.2.1, by rw [am_I_s1 _ _ _ _ (by omega)]; exact f8.2.2⟩
            rw [s195f f9, am_bI_ok, if_pos (show nI 0 = 0 from rfl)]
            exact ⟨_, rfl, (z6.nf k8 f8).1.sI _ (wg_L_t (by omega)), f9⟩
          | inr q =>
            obtain ⟨s3, wo⟩ := q
            have G3 := wn_nu_G (tp := tp) (lo := 0) (hi := 99) X7.1
            rw [n3] at h8 G3
            obtain ⟨rfl, k8, X8⟩ := h8
            have z8 := (z6.nx k8 X8 (Nat.le_of_lt G3.1)).sI (i := 80) (k := pw_n d 3) (nI wo) (Or.inr (Or.inr (Or.inl ⟨by omega, rfl⟩)))
            have q77 : am_I (am_sI g8 80 (pw_n d 3) (nI wo)) 77 (pw_n d 3) = nI kk := by rw [am_I_s1 _ _ _ _ (by omega), k8.get _ _ (wg_x_f (by omega))]; exact y77
            have q78 : am_I (am_sI g8 80 (pw_n d 3) (nI wo)) 78 (pw_n d 3) = nI m := by rw [am_I_s1 _ _ _ _ (by omega), k8.get _ _ (wg_x_f (by omega))]; exact y78
            have q79 : am_I (am_sI g8 80 (pw_n d 3) (nI wo)) 79 (pw_n d 3) = nI la := by rw [am_I_s1 _ _ _ _ (by omega), k8.get _ _ (wg_x_f (by omega))]; exact y79
            have q80 : am_I (am_sI g8 80 (pw_n d 3) (nI wo)) 80 (pw_n d 3) = nI wo := am_I_s _ _ _ _
            generalize am_sI g8 80 (pw_n d 3) (nI wo) = g9 at z8 q77 q78 q79 q80 ⊢
            rw [s195G (z8.z0 hJ), am_bI_ok, if_neg (show ¬ nI 1 = 0 by decide)]
            obtain ⟨a1, a2, ⟨t, a3, c1, c2, c3, c4, c5, c6, c7, c8, c9⟩, a5⟩ := z8
            rw [show am_I g9 60 33 = nI (pw_n d 3) from c1 3 (by omega), nI_add]
            have e0 : ∀ i k, i ≠ 60 → am_I (am_sI g9 60 33 (nI (pw_n d 3 + 1))) i k = am_I g9 i k := fun i k hi => by rw [am_I_s1 _ _ _ _ hi]
            refine ⟨_, rfl, a1.sI _ (wg_M_t (by omega)), a2.fr (fun k x y => by rw [am_I_s2 _ _ _ _ (by omega)]) rfl, ⟨t, a3, wm_up (a := 3) (c := d.1) c1, fun k hk => ?_, fun k hk => ?_, fun k hk => ?_, fun k hk => ?_, fun k hk => ?_, by rw [am_I_s2 _ _ _ _ (by omega)]; exact c7, c8.fr (by rw [am_I_s2 _ _ _ _ (by omega)]) (fun i _ => e0 _ _ (by omega)), c9.fr (by rw [am_I_s2 _ _ _ _ (by omega)]) (fun i _ => e0 _ _ (by omega))⟩, wn_pe_ok a5 c hk3 hm G2.2.2.2.1 G3.2.2.2.1⟩
            · rw [e0 _ _ (by omega), e0 _ _ (by omega)]; exact c2 k hk
            · rw [e0 _ _ (by omega), e0 _ _ (by omega)]; exact c3 k hk
            · rw [e0 _ _ (by omega)]; exact c4 k hk
            · have t2 : pw_t (wn_pe d kk m la wo) 2 k = if k = pw_n d 3 then kk else pw_t d 2 k := by
                show wn_st (wn_st (wn_st (wn_st d.2.1 2 (d.1 3) kk) 3 (d.1 3) m) 8 (d.1 3) la) 9 (d.1 3) wo 2 k = _
                rw [wn_st_o _ (by omega), wn_st_o _ (by omega), wn_st_o _ (by omega), wn_st_c]; rfl
              have t3 : pw_t (wn_pe d kk m la wo) 3 k = if k = pw_n d 3 then m else pw_t d 3 k := by
                show wn_st (wn_st (wn_st (wn_st d.2.1 2 (d.1 3) kk) 3 (d.1 3) m) 8 (d.1 3) la) 9 (d.1 3) wo 3 k = _
                rw [wn_st_o _ (by omega), wn_st_o _ (by omega), wn_st_c, wn_st_o _ (by omega)]; rfl
              have t8 : pw_t (wn_pe d kk m la wo) 8 k = if k = pw_n d 3 then la else pw_t d 8 k := by
                show wn_st (wn_st (wn_st (wn_st d.2.1 2 (d.1 3) kk) 3 (d.1 3) m) 8 (d.1 3) la) 9 (d.1 3) wo 8 k = _
                rw [wn_st_o _ (by omega), wn_st_c, wn_st_o _ (by omega), wn_st_o _ (by omega)]; rfl
              have t9 : pw_t (wn_pe d kk m la wo) 9 k = if k = pw_n d 3 then wo else pw_t d 9 k := by
                show wn_st (wn_st (wn_st (wn_st d.2.1 2 (d.1 3) kk) 3 (d.1 3) m) 8 (d.1 3) la) 9 (d.1 3) wo 9 k = _
                rw [wn_st_c, wn_st_o _ (by omega), wn_st_o _ (by omega), wn_st_o _ (by omega)]; rfl
              have hk' : k < pw_n d 3 + 1 := hk
              rw [e0 _ _ (by omega), e0 _ _ (by omega), e0 _ _ (by omega), e0 _ _ (by omega), t2, t3, t8, t9]
              exact ⟨⟨wm_tab (fun a ha => (c5 a ha).1.1) q77 k hk', wm_tab (fun a ha => (c5 a ha).1.2) q78 k hk'⟩, wm_tab (fun a ha => (c5 a ha).2.1) q79 k hk', wm_tab (fun a ha => (c5 a ha).2.2) q80 k hk'⟩
            · rw [e0 _ _ (by omega)]; exact c6 k hk
      · rw [if_neg (nI_ne0 (by omega) (by omega)), if_neg ck]
        obtain ⟨g5, r5, z5, f5⟩ := z3.wr (f := 6) hJ (by omega)
        rw [r5, am_bV_ok, s215_78f f5]
        exact ⟨_, rfl, z5⟩
  · obtain ⟨g1, r1, z1, f1⟩ := h.wr (f := 2) hJ (by omega)
    rw [if_pos (show nI (pw_n d 3) = nI 6 by rw [show pw_n d 3 = 6 by omega]), if_neg c, r1, am_bV_ok, e215_14, s195f f1, am_bI_ok, if_pos (show nI 0 = 0 from rfl)]
    exact ⟨_, rfl, z1⟩
/-! snow -/
theorem s216_59 (hJ : wm_J h0 tp n) : ∀ (f : Nat) (g : am_H) (s : Nat) (d : pw_L), 11 ≤ f + pw_n d 4 → pw_n d 4 < 10 → wm_Z h0 tp n g (.inr (s, d)) → am_RV (am_vn am_M 3 216 59 [some (.ref 60), none, none] [] g) (fun g' => wm_Z h0 tp n g' (wn_vb (wn_nu tp n 0 9 s) (fun s1 v => wn_sl tp n f s1 (wn_sn d v)))) := by
  have hn := hJ.1.1
  intro f
  induction f with
  | zero => intro g s d h1 h2; omega
  | succ f ih =>
    intro g s d hf h10 h
    obtain ⟨_, X0, _, _⟩ := id h
    rw [e216_59]
    refine pz_IV (s198R (lo := 0) (hi := 9) (h.ty hJ) (h.z0 hJ) X0 (by omega) (by omega)) fun x g1 h1 => ?_
    cases n1 : wn_nu tp n 0 9 s with
    | inl q =>
      obtain ⟨f, p⟩ := q
      rw [n1] at h1
      obtain ⟨k1, f1⟩ := h1
      rw [s195f f1, am_bI_ok, if_pos (show nI 0 = 0 from rfl)]
      exact ⟨_, rfl, h.nf k1 f1⟩
    | inr q =>
      obtain ⟨s1, v⟩ := q
      have G1 := wn_nu_G (tp := tp) (lo := 0) (hi := 9) X0.1
      rw [n1] at h1 G1
      obtain ⟨rfl, k1, X1⟩ := h1
      have z1 := h.nx k1 X1 (Nat.le_of_lt G1.1)
      obtain ⟨a1, a2, ⟨t, a3, c1, c2, c3, c4, c5, c6, c7, c8, c9⟩, a5⟩ := id z1
      have hk61 := wl_k_le (tp := tp) (n := n) (s := s1)
      rw [s195G (z1.z0 hJ), am_bI_ok, if_neg (show ¬ nI 1 = 0 by decide), show am_I g1 60 34 = nI (pw_n d 4) from c1 4 (by omega), ms_81 (by omega)]
      dsimp only
      rw [am_I_s1 _ _ _ _ (show 60 ≠ 81 by omega), show am_I g1 60 34 = nI (pw_n d 4) from c1 4 (by omega), nI_add, am_I_s2 _ _ _ _ (show 24 ≠ 34 by omega), am_I_s1 _ _ _ _ (show 60 ≠ 81 by omega), a2.2.2.1]
      have e0 : ∀ i k, i ≠ 60 → i ≠ 81 → am_I (am_sI (am_sI g1 81 (pw_n d 4) (nI v)) 60 34 (nI (pw_n d 4 + 1))) i k = am_I g1 i k := fun i k hi hj => by rw [am_I_s1 _ _ _ _ hi, am_I_s1 _ _ _ _ hj]
      have e6 : ∀ k, k ≠ 34 → am_I (am_sI (am_sI g1 81 (pw_n d 4) (nI v)) 60 34 (nI (pw_n d 4 + 1))) 60 k = am_I g1 60 k := fun k hk => by rw [am_I_s2 _ _ _ _ hk, am_I_s1 _ _ _ _ (by omega)]
      have z2 : wm_Z h0 tp n (am_sI (am_sI g1 81 (pw_n d 4) (nI v)) 60 34 (nI (pw_n d 4 + 1))) (.inr (s1, wn_sn d v)) := by
        refine ⟨(a1.sI _ (wg_M_t (by omega))).sI _ (wg_M_t (by omega)), a2.fr (fun k x y => e6 _ (by omega)) rfl, ⟨t, a3, wm_up (a := 4) (c := d.1) (fun i hi => by rw [am_I_s1 _ _ _ _ (by omega)]; exact c1 i hi), fun k hk => ?_, fun k hk => ?_, fun k hk => ?_, fun k hk => ?_, fun k hk => ?_, (e6 _ (by omega)).trans c7, c8.fr (e6 _ (by omega)) (fun i _ => e0 _ _ (by omega) (by omega)), c9.fr (e6 _ (by omega)) (fun i _ => e0 _ _ (by omega) (by omega))⟩, wn_sn_ok a5 h10 G1.2.2.2.1⟩
        · rw [e0 _ _ (by omega) (by omega), e0 _ _ (by omega) (by omega)]; exact c2 k hk
        · rw [e0 _ _ (by omega) (by omega), e0 _ _ (by omega) (by omega)]; exact c3 k hk
        · rw [e0 _ _ (by omega) (by omega)]; exact c4 k hk
        · rw [e0 _ _ (by omega) (by omega), e0 _ _ (by omega) (by omega), e0 _ _ (by omega) (by omega), e0 _ _ (by omega) (by omega)]; exact c5 k hk
        · have t4 : pw_t (wn_sn d v) 4 k = if k = pw_n d 4 then v else pw_t d 4 k := wn_st_c _
          have hk' : k < pw_n d 4 + 1 := hk
          rw [t4, am_I_s1 _ _ _ _ (by omega)]
          exact wc_tab c6 k hk'
      generalize am_sI (am_sI g1 81 (pw_n d 4) (nI v)) 60 34 (nI (pw_n d 4 + 1)) = g2 at z2 ⊢
      have n4 : pw_n (wn_sn d v) 4 = pw_n d 4 + 1 := rfl
      show am_RV _ (fun g' => wm_Z h0 tp n g' (wn_sl tp n (f + 1) s1 (wn_sn d v)))
      rw [wn_sl]
      by_cases c : wl_k tp n s1 = 2
      · obtain ⟨_, X2, ⟨_, _, N2⟩, _⟩ := id z2
        rw [c, show wl_q 2 = 2 from rfl, if_pos rfl, if_pos rfl, e216_26, if_neg (show ¬ nI 1 = 0 by decide), s195G (z2.z0 hJ), am_bI_ok, if_neg (show ¬ nI 1 = 0 by decide), show am_I g2 60 34 = nI (pw_n d 4 + 1) from N2.1 4 (by omega), n4, X2.2.2.1, c, show wl_q 2 = 2 from rfl]
        by_cases c10 : pw_n d 4 + 1 < 10
        · rw [if_pos c10, if_neg (fun e => by have := (nI_eq (by omega) (by omega)).mp e; omega)]
          exact ih g2 s1 (wn_sn d v) (by rw [n4]; omega) (by rw [n4]; exact c10) z2
        · obtain ⟨g3, r3, z3, f3⟩ := z2.wr (f := 2) hJ (by omega)
          rw [if_neg c10, if_pos (show nI (pw_n d 4 + 1) = nI 10 by rw [show pw_n d 4 + 1 = 10 by omega]), if_pos rfl, r3, am_bV_ok, e216_59, s198f f3, am_bI_ok, s195f f3, am_bI_ok, if_pos (show nI 0 = 0 from rfl)]
          exact ⟨_, rfl, z3⟩
      · have hq : wl_q (wl_k tp n s1) ≠ 2 ∧ wl_q (wl_k tp n s1) ≤ 4 := by unfold wl_q; split <;> (try split) <;> omega
        rw [if_neg (fun e => hq.1 ((nI_eq (by omega) (by omega)).mp e)), if_neg c, e216_26, if_pos (show nI 0 = 0 from rfl)]
        exact ⟨_, rfl, z2⟩
theorem s216 (h : wm_Z h0 tp n g (.inr (s, d))) (hJ : wm_J h0 tp n) : am_RV (am_run am_M 216 [.ref 60] g) (fun g' => wm_Z h0 tp n g' (wn_snow tp n s d)) := by
  have hn := hJ.1.1
  obtain ⟨_, _, ⟨_, _, hN⟩, hok⟩ := id h
  have h4 := hok.1.1
  have cn : am_I g 60 34 = nI (pw_n d 4) := hN.1 4 (by omega)
  rw [e216, cn]
  unfold wn_snow
  by_cases c : pw_n d 4 = 0
  · rw [if_pos (show nI (pw_n d 4) ≤ 0 by rw [c]; decide), if_pos c, e216_12, s195G (h.z0 hJ), am_bI_ok, if_neg (show ¬ nI 1 = 0 by decide)]
    obtain ⟨g1, r1, _, z1⟩ := h.go hJ
    obtain ⟨_, X1, ⟨_, _, N1⟩, _⟩ := id z1
    rw [r1, am_bV_ok, e216_26, if_neg (show ¬ nI 1 = 0 by decide), s195G (z1.z0 hJ), am_bI_ok, if_neg (show ¬ nI 1 = 0 by decide), show am_I g1 60 34 = nI (pw_n d 4) from N1.1 4 (by omega), if_neg (fun e => by have := (nI_eq (by omega) (by omega)).mp e; omega)]
    exact s216_59 hJ 700 g1 _ d (by omega) (by omega) z1
  · obtain ⟨g1, r1, z1, f1⟩ := h.wr (f := 5) hJ (by omega)
    rw [if_neg (show ¬ nI (pw_n d 4) ≤ 0 from nI_ge (show 0 < pw_n d 4 by omega) (by omega)), if_neg c, r1, am_bV_ok, e216_12, s195f f1, am_bI_ok, if_pos (show nI 0 = 0 from rfl)]
    exact ⟨_, rfl, z1⟩
end
