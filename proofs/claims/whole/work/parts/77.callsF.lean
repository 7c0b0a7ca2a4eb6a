/-! CALLS: feed -/
def pf_b (v : Int32) (k : Nat) : Nat := v.toBitVec.toNat / 2 ^ k % 256
theorem pf_b_lt (v : Int32) (k : Nat) : pf_b v k < 256 := Nat.mod_lt _ (by decide)
theorem pf_nI (v : Int32) : v = nI v.toBitVec.toNat := by
  apply Int32.toBitVec_inj.mp
  show _ = BitVec.ofNat 32 _
  rw [BitVec.ofNat_toNat, BitVec.setWidth_eq]
theorem pf_and (n : Nat) : nI n &&& nI 255 = nI (n % 256) := by
  rw [pz_and, show (255 : Nat) = 2 ^ 8 - 1 from rfl, Nat.and_two_pow_sub_one_eq_mod]
theorem pf_c (v : Int32) {k : Nat} (hk : k ≤ 24) : ((v.toUInt32 >>> ((nI k).toUInt32 &&& Int32.toUInt32 31)).toInt32 &&& nI 255) = nI (pf_b v k) := by
  conv => lhs; rw [pf_nI v]
  rw [bc_u _ k (by omega) v.toBitVec.isLt, pf_and]; rfl
theorem pf_m (v : Int32) {k : Nat} (hk : k ≤ 24) : ((v >>> (nI k &&& 31)) &&& nI 255) = nI (pf_b v k) := by
  apply Int32.toBitVec_inj.mp
  rw [Int32.toBitVec_and, Int32.toBitVec_shiftRight, BitVec.sshiftRight_eq', pz_sm k (by omega)]
  apply BitVec.eq_of_getLsbD_eq
  intro i hi
  rw [BitVec.getLsbD_and, BitVec.getLsbD_sshiftRight]
  have e1 : (nI 255).toBitVec.getLsbD i = decide (i < 8) := by
    show (BitVec.ofNat 32 255).getLsbD i = _
    rw [BitVec.getLsbD_ofNat, show (255 : Nat) = 2 ^ 8 - 1 from rfl, Nat.testBit_two_pow_sub_one, decide_eq_true hi, Bool.true_and]
  have e2 : (nI (pf_b v k)).toBitVec.getLsbD i = (decide (i < 8) && v.toBitVec.getLsbD (k + i)) := by
    show (BitVec.ofNat 32 (v.toBitVec.toNat / 2 ^ k % 2 ^ 8)).getLsbD i = _
    rw [BitVec.getLsbD_ofNat, Nat.testBit_mod_two_pow, Nat.testBit_div_two_pow, decide_eq_true hi, Bool.true_and, Nat.add_comm]; rfl
  rw [e1, e2]
  by_cases h8 : i < 8
  · rw [decide_eq_true h8, decide_eq_false (show ¬ 32 ≤ i by omega), if_pos (show k + i < 32 by omega), Bool.and_true]; rfl
  · rw [decide_eq_false h8, Bool.and_false, Bool.false_and]
def pf_t (v : Int32) (n : Nat) (t : Nat → Nat) : Nat → Nat := pu (pu (pu (pu t n (pf_b v 24)) (n + 1) (pf_b v 16)) (n + 2) (pf_b v 8)) (n + 3) (pf_b v 0)
theorem pf_t_lt {v : Int32} {n : Nat} {t : Nat → Nat} (h : ∀ j, t j < 256) (j : Nat) : pf_t v n t j < 256 := by
  unfold pf_t pu
  have := h j
  have := pf_b_lt v 24; have := pf_b_lt v 16; have := pf_b_lt v 8; have := pf_b_lt v 0
  repeat' split
  all_goals omega
def ps_F (r f a : Nat) (i k : Nat) : Bool := decide (i = r ∨ i = f ∧ k = a)
section
variable {h : am_H} {v : Int32} {nb : Nat} {tp : Nat → Nat}
/-- row r holds the bytes, cell a of f their number -/
def pf_P (r f a : Nat) (h : am_H) (nb : Nat) (tp : Nat → Nat) : Prop := am_I h f a = nI nb ∧ ∀ j, j < nb → am_I h r j = nI (tp j)
theorem pf_P.step {r f a : Nat} (p : pf_P r f a h nb tp) (hrf : r ≠ f) (x : Nat) : pf_P r f a (am_sI (am_sI h r nb (nI x)) f a (am_I (am_sI h r nb (nI x)) f a + nI 1)) (nb + 1) (pu tp nb x) := by
  refine ⟨?_, fun j hj => ?_⟩
  · rw [am_I_s, am_I_s1 _ _ _ _ (fun e => hrf e.symm), p.1, pz_succ]
  · rw [am_I_s1 _ _ _ _ hrf, am_I_sc]
    unfold pu
    by_cases e : j = nb
    · rw [if_pos ⟨rfl, e⟩, if_pos e]
    · rw [if_neg (fun h => e h.2), if_neg e]; exact p.2 j (by omega)
theorem pf_kp {r f a : Nat} {g : am_H} (p : am_kp (ps_F r f a) h g) (k : Nat) (x y : Int32) : am_kp (ps_F r f a) h (am_sI (am_sI g r k x) f a y) := (p.sI _ (decide_eq_true (Or.inl rfl))).sI _ (decide_eq_true (Or.inr ⟨rfl, rfl⟩))
theorem s107_1 (p : pf_P 2 1 1 h nb tp) (hn : nb < 700) {k : Nat} (hk : k ≤ 24) : am_vn am_M 1 107 3 [some (.ref 1), some (.int v), some (.int (nI k))] [] h = am_vn am_M 1 107 3 [some (.ref 1), some (.int v), some (.int (nI k + (-8 : Int32)))] [] (am_sI (am_sI h 2 nb (nI (pf_b v k))) 1 1 (am_I (am_sI h 2 nb (nI (pf_b v k))) 1 1 + nI 1)) := by
  rw [e107_3, if_neg (show ¬ nI k < 0 from nI_nlt (Nat.zero_le k) (by omega)), p.1, put_ok (r := 2) (n := 700) rfl (by omega) (by omega) hn, am_bV_ok, pf_c v hk]
theorem s107 (p : pf_P 2 1 1 h nb tp) (hn : nb + 4 ≤ 700) : am_RV (am_run am_M 107 [.ref 1, .int v] h) (fun g => pf_P 2 1 1 g (nb + 4) (pf_t v nb tp) ∧ am_kp (ps_F 2 1 1) h g) := by
  have p1 := p.step (by decide) (pf_b v 24)
  have p2 := p1.step (by decide) (pf_b v 16)
  have p3 := p2.step (by decide) (pf_b v 8)
  have p4 := p3.step (by decide) (pf_b v 0)
  rw [e107, s107_1 p (by omega) (by omega), show nI 24 + (-8 : Int32) = nI 16 from rfl, s107_1 p1 (by omega) (by omega), show nI 16 + (-8 : Int32) = nI 8 from rfl, s107_1 p2 (by omega) (by omega), show nI 8 + (-8 : Int32) = nI 0 from rfl, s107_1 p3 (by omega) (by omega), e107_3, if_pos (by decide)]
  exact ⟨_, rfl, p4, pf_kp (pf_kp (pf_kp (pf_kp (am_kp.refl _ _) _ _ _) _ _ _) _ _ _) _ _ _⟩
theorem s186_1 (p : pf_P 70 60 18 h nb tp) (hn : nb < 700) {k : Nat} (hk : k ≤ 24) : am_vn am_M 0 186 3 [some (.ref 60), some (.int v), some (.int (nI k))] [] h = am_vn am_M 0 186 3 [some (.ref 60), some (.int v), some (.int (nI k + (-8 : Int32)))] [] (am_sI (am_sI h 70 nb (nI (pf_b v k))) 60 18 (am_I (am_sI h 70 nb (nI (pf_b v k))) 60 18 + nI 1)) := by
  rw [e186_3, if_neg (show ¬ nI k < 0 from nI_nlt (Nat.zero_le k) (by omega)), p.1, ms_70 hn, pf_m v hk]
theorem s186 (p : pf_P 70 60 18 h nb tp) (hn : nb + 4 ≤ 700) : am_RV (am_run am_M 186 [.ref 60, .int v] h) (fun g => pf_P 70 60 18 g (nb + 4) (pf_t v nb tp) ∧ am_kp (ps_F 70 60 18) h g) := by
  have p1 := p.step (by decide) (pf_b v 24)
  have p2 := p1.step (by decide) (pf_b v 16)
  have p3 := p2.step (by decide) (pf_b v 8)
  have p4 := p3.step (by decide) (pf_b v 0)
  rw [e186, s186_1 p (by omega) (by omega), show nI 24 + (-8 : Int32) = nI 16 from rfl, s186_1 p1 (by omega) (by omega), show nI 16 + (-8 : Int32) = nI 8 from rfl, s186_1 p2 (by omega) (by omega), show nI 8 + (-8 : Int32) = nI 0 from rfl, s186_1 p3 (by omega) (by omega), e186_3, if_pos (by decide)]
  exact ⟨_, rfl, p4, pf_kp (pf_kp (pf_kp (pf_kp (am_kp.refl _ _) _ _ _) _ _ _) _ _ _) _ _ _⟩
end
def pf_5 (a b c x y : Int32) (n : Nat) (t : Nat → Nat) : Nat → Nat := pf_t y (n + 4 + 4 + 4 + 4) (pf_t x (n + 4 + 4 + 4) (pf_t c (n + 4 + 4) (pf_t b (n + 4) (pf_t a n t))))
theorem call_feed {w : pw_W} (hw : pw_wf w) (x1 x2 x3 x4 x5 : Int32) : am_AG 0 (fun e => e) w (fun h => am_run am_M 1 [.ref 0, .int x1, .int x2, .int x3, .int x4, .int x5] h) (fun h => am_run am_M 185 [.ref 60, .int x1, .int x2, .int x3, .int x4, .int x5] h) := by
  obtain ⟨d, S, l, t, im, tp, nb, fp, rf⟩ := w
  have hw0 := hw
  obtain ⟨ho, hS, ha, ht, hi, hnb, htp⟩ := hw
  by_cases c : nb + 20 ≤ 700
  · refine ⟨0, nI (nb + 4 + 4 + 4 + 4 + 4), (d, S, l, t, im, pf_5 x1 x2 x3 x4 x5 nb tp, nb + 4 + 4 + 4 + 4 + 4, fp, rf), ⟨ho, hS, ha, ht, hi, by omega, ?_⟩, ⟨by omega, fun hh => by first | exact absurd rfl hh | rfl⟩, fun h hc => ?_, fun h hm => ?_⟩
    · exact pf_t_lt (pf_t_lt (pf_t_lt (pf_t_lt (pf_t_lt htp))))
    · have hc0 := hc
      obtain ⟨⟨L, hL, r1, r2, c1⟩, c2, c3, c4, c5, c6, c7, c8, c9⟩ := hc
      refine am_CO_0 ?_
      show am_RI (am_run am_M 1 [.ref 0, .int x1, .int x2, .int x3, .int x4, .int x5] h) _
      have p : pf_P 2 1 1 h nb tp := ⟨c6, c7⟩
      rw [e1, c6, nI_add, if_pos (nI_le c (by omega))]
      refine pz_VI (s107 p (by omega)) fun g1 h1 => ?_
      refine pz_VI (s107 h1.1 (by omega)) fun g2 h2 => ?_
      refine pz_VI (s107 h2.1 (by omega)) fun g3 h3 => ?_
      refine pz_VI (s107 h3.1 (by omega)) fun g4 h4 => ?_
      refine pz_VI (s107 h4.1 (by omega)) fun g5 h5 => ?_
      have kk := (((h1.2.trans h2.2).trans h3.2).trans h4.2).trans h5.2
      have ee : ∀ i, ¬ (i = 1 ∨ i = 2) → am_I g5 i = am_I h i := fun i hi => funext fun k => kk.get i k (decide_eq_false (by omega))
      refine ⟨_, _, rfl, h5.1.1, hc0.upd kk.R (fun i h1 h2 => ee i (by omega)) (by rw [ee _ (by omega)]) (c2.fr (ee _ (by omega))) (c3.fr (ee _ (by omega)) (ee _ (by omega))) (c4.fr (ee _ (by omega)) (ee _ (by omega)) (ee _ (by omega))) (c5.fr (by rw [ee _ (by omega)]) (fun j h1 h2 => ee j (by omega))) h5.1.1 h5.1.2 (fun j hj => ?_), kk.fc fun i k hi => decide_eq_false (by omega)⟩
      rw [ee _ (by omega)]; exact c9 j hj
    · show am_RI (am_run am_M 185 [.ref 60, .int x1, .int x2, .int x3, .int x4, .int x5] h) _
      obtain ⟨hm0, ht0, hf0⟩ := m_start hm
      rw [e185]
      generalize am_sI h 60 0 (nI 0) = g at hm0 ht0 hf0 ⊢
      dsimp only
      have hm1 := hm0
      obtain ⟨m1, m2, m3, m4, m5, m6, m7, m8, m9, m10, m11, m12⟩ := hm1
      have p : pf_P 70 60 18 g nb tp := ⟨m6, m7⟩
      rw [m6, nI_add, if_pos (nI_le c (by omega))]
      refine pz_VI (s186 p (by omega)) fun g1 h1 => ?_
      refine pz_VI (s186 h1.1 (by omega)) fun g2 h2 => ?_
      refine pz_VI (s186 h2.1 (by omega)) fun g3 h3 => ?_
      refine pz_VI (s186 h3.1 (by omega)) fun g4 h4 => ?_
      refine pz_VI (s186 h4.1 (by omega)) fun g5 h5 => ?_
      have kk := (((h1.2.trans h2.2).trans h3.2).trans h4.2).trans h5.2
      have ee : ∀ i, ¬ (i = 60 ∨ i = 70) → am_I g5 i = am_I g i := fun i hi => funext fun k => kk.get i k (decide_eq_false (by omega))
      have e6 : ∀ k, k ≠ 18 → am_I g5 60 k = am_I g 60 k := fun k hk => kk.get 60 k (decide_eq_false (by omega))
      refine ⟨_, _, rfl, fun _ => h5.1.1, (e6 0 (by omega)).trans ht0, hm0.upd (fun k _ _ => e6 k (by omega)) (fun i h1 h2 => ee i (by omega)) (fun k _ => e6 k (by omega)) (m2.fr (ee _ (by omega))) (m3.fr (e6 _ (by omega)) (ee _ (by omega))) ⟨(e6 _ (by omega)).trans m4.1, by rw [ee _ (by omega)]; exact m4.2⟩ (m5.fr (fun k _ => e6 k (by omega)) (fun j h1 h2 => ee j (by omega))) h5.1.1 h5.1.2 (fun j hj => ?_), hf0.trans (kk.fm fun i k hi => decide_eq_false (by omega))⟩
      rw [ee _ (by omega)]; exact m9 j hj
  · refine ⟨0, (-1 : Int32), (d, S, l, t, im, tp, nb, fp, rf), hw0, ⟨by omega, fun hh => by first | exact absurd rfl hh | rfl⟩, fun h hc => ?_, fun h hm => ?_⟩
    · have hc0 := hc
      obtain ⟨⟨L, hL, r1, r2, c1⟩, c2, c3, c4, c5, c6, c7, c8, c9⟩ := hc
      refine am_CO_0 ?_
      show am_RI (am_run am_M 1 [.ref 0, .int x1, .int x2, .int x3, .int x4, .int x5] h) _
      rw [e1, c6, nI_add, if_neg (nI_ge (show 700 < nb + 20 by omega) (by omega))]
      exact ⟨_, _, rfl, rfl, hc0, am_fc.refl _⟩
    · show am_RI (am_run am_M 185 [.ref 60, .int x1, .int x2, .int x3, .int x4, .int x5] h) _
      obtain ⟨hm0, ht0, hf0⟩ := m_start hm
      rw [e185]
      generalize am_sI h 60 0 (nI 0) = g at hm0 ht0 hf0 ⊢
      dsimp only
      have hm1 := hm0
      obtain ⟨m1, m2, m3, m4, m5, m6, m7, m8, m9, m10, m11, m12⟩ := hm1
      rw [m6, nI_add, if_neg (nI_ge (show 700 < nb + 20 by omega) (by omega))]
      exact ⟨_, _, rfl, am_fin_m hf0 hm0 (am_kp.refl _ _) ht0 (fun _ => rfl)⟩
