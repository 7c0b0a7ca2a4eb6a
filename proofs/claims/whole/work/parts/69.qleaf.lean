/-! QUESTIONS: loops that gather bits or count -/
section
variable {L s k p a : Nat} {h : am_H} {d : pw_L} {S : Nat → Nat}
theorem s98 (hL : pc_lo L) (hd : pc_L h L d) (ho : pw_ok d) (hk : k < 100) : am_run am_M 98 [.ref L, .int (nI k)] h = some (.inl (some (.int (nI (pb (fun a => decide (pw_t d 1 a = k)) (pw_n d 1))))), h) := by
  have h9 := ho.1.2.1
  have h4 := ho.1.1
  have hn : am_I h L 12 = nI (pw_n d 1) := hd.1 1 (by omega)
  rw [e98]
  obtain ⟨g, e, hp⟩ := am_for0 (fun j (g : am_H) => am_vn am_M 2 98 4 [some (.ref L), some (.int (nI k)), some (.int (nI (pb (fun a => decide (pw_t d 1 a = k)) j))), some (.int (nI j))] [] g) (fun _ g => g = h) (pw_n d 1) h rfl (fun j g hj hg => by
    subst hg
    have ht := (ho.2.1 j hj).2
    refine ⟨g, ?_, rfl⟩
    rw [e98_4, pc_lch hL, hn, if_neg (nI_ge hj (by omega)), pc_lch hL, s91 hL (by omega), am_bI_ok, (hd.2.1 j hj).2, pz_succ j, ← pb_step (fun a => decide (pw_t d 1 a = k)) (show j < 31 by omega)]
    by_cases c : pw_t d 1 j = k
    · rw [if_pos (by rw [c]), decide_eq_true c, if_pos rfl]
    · rw [if_neg (fun e => c ((nI_eq (by omega) (by omega)).mp e)), decide_eq_false c, if_neg (by decide)])
  subst hp
  refine e.trans ?_
  rw [e98_4, pc_lch hL, hn, if_pos (nI_le (Nat.le_refl _) (by omega))]
theorem s99 (hL : pc_lo L) (hd : pc_L h L d) (ho : pw_ok d) (hk : k < 100) : am_run am_M 99 [.ref L, .int (nI k)] h = some (.inl (some (.int (nI (pb (fun p => decide (pw_t d 1 (pw_t d 3 p) = k)) (pw_n d 3))))), h) := by
  have h9 := ho.1.2.1
  have h4 := ho.1.1
  have h6 := ho.1.2.2.2.1
  have hn : am_I h L 14 = nI (pw_n d 3) := hd.1 3 (by omega)
  rw [e99]
  obtain ⟨g, e, hp⟩ := am_for0 (fun j (g : am_H) => am_vn am_M 2 99 4 [some (.ref L), some (.int (nI k)), some (.int (nI (pb (fun p => decide (pw_t d 1 (pw_t d 3 p) = k)) j))), some (.int (nI j))] [] g) (fun _ g => g = h) (pw_n d 3) h rfl (fun j g hj hg => by
    subst hg
    have hh := (ho.2.2.1 j hj).2
    have ht := (ho.2.1 _ hh).2
    refine ⟨g, ?_, rfl⟩
    rw [e99_4, pc_lch hL, hn, if_neg (nI_ge hj (by omega)), pc_lch hL, s94 hL (by omega) (show pw_t d 3 j < 9 by omega) (hd.2.2.1 j hj).2, am_bI_ok, (hd.2.1 _ hh).2, pz_succ j, ← pb_step (fun p => decide (pw_t d 1 (pw_t d 3 p) = k)) (show j < 31 by omega)]
    by_cases c : pw_t d 1 (pw_t d 3 j) = k
    · rw [if_pos (by rw [c]), decide_eq_true c, if_pos rfl]
    · rw [if_neg (fun e => c ((nI_eq (by omega) (by omega)).mp e)), decide_eq_false c, if_neg (by decide)])
  subst hp
  refine e.trans ?_
  rw [e99_4, pc_lch hL, hn, if_pos (nI_le (Nat.le_refl _) (by omega))]
theorem s100 (hL : pc_lo L) (hd : pc_L h L d) (ho : pw_ok d) (hk : k < 100) : am_run am_M 100 [.ref L, .int (nI k)] h = some (.inl (some (.int (nI (pb (fun p => decide (pw_t d 3 p = k)) (pw_n d 3))))), h) := by
  have h9 := ho.1.2.1
  have h6 := ho.1.2.2.2.1
  have hn : am_I h L 14 = nI (pw_n d 3) := hd.1 3 (by omega)
  rw [e100]
  obtain ⟨g, e, hp⟩ := am_for0 (fun j (g : am_H) => am_vn am_M 2 100 4 [some (.ref L), some (.int (nI k)), some (.int (nI (pb (fun p => decide (pw_t d 3 p = k)) j))), some (.int (nI j))] [] g) (fun _ g => g = h) (pw_n d 3) h rfl (fun j g hj hg => by
    subst hg
    have hh := (ho.2.2.1 j hj).2
    refine ⟨g, ?_, rfl⟩
    rw [e100_4, pc_lch hL, hn, if_neg (nI_ge hj (by omega)), pc_lch hL, s93 hL (by omega), am_bI_ok, (hd.2.2.1 j hj).2, pz_succ j, ← pb_step (fun p => decide (pw_t d 3 p = k)) (show j < 31 by omega)]
    by_cases c : pw_t d 3 j = k
    · rw [if_pos (by rw [c]), decide_eq_true c, if_pos rfl]
    · rw [if_neg (fun e => c ((nI_eq (by omega) (by omega)).mp e)), decide_eq_false c, if_neg (by decide)])
  subst hp
  refine e.trans ?_
  rw [e100_4, pc_lch hL, hn, if_pos (nI_le (Nat.le_refl _) (by omega))]
theorem s101 (hL : pc_lo L) (hd : pc_L h L d) (ho : pw_ok d) (hk : k < pw_n d 1) : am_run am_M 101 [.ref L, .int (nI k)] h = some (.inl (some (.int (nI (pz_cnt (fun b => decide (pw_t d 5 (k * 9 + b) ≠ 0)) (pw_n d 1))))), h) := by
  have h9 := ho.1.2.1
  have hn : am_I h L 12 = nI (pw_n d 1) := hd.1 1 (by omega)
  rw [e101]
  obtain ⟨g, e, hp⟩ := am_for0 (fun j (g : am_H) => am_vn am_M 2 101 4 [some (.ref L), some (.int (nI k)), some (.int (nI (pz_cnt (fun b => decide (pw_t d 5 (k * 9 + b) ≠ 0)) j))), some (.int (nI j))] [] g) (fun _ g => g = h) (pw_n d 1) h rfl (fun j g hj hg => by
    subst hg
    have hh := (ho.2.2.2.2.1 k j (by omega) (by omega)).1
    refine ⟨g, ?_, rfl⟩
    rw [e101_4, pc_lch hL, hn, if_neg (nI_ge hj (by omega)), pc_lch hL, s95 hL (by omega), am_bI_ok, hd.2.2.2.2.1 _ (by omega), pz_succ j, pz_cnt]
    by_cases c : pw_t d 5 (k * 9 + j) = 0
    · rw [if_pos (by rw [c]; decide), decide_eq_false (fun h => h c), if_neg (by decide), pz_addz]; rfl
    · rw [if_neg (nI_nle (by omega) (by omega)), decide_eq_true c, if_pos rfl, pz_succ])
  subst hp
  refine e.trans ?_
  rw [e101_4, pc_lch hL, hn, if_pos (nI_le (Nat.le_refl _) (by omega))]
/-- hours of the day in which a place is open, as bits -/
def pa_bits (d : pw_L) (S : Nat → Nat) (p a : Nat) : Nat := pb (fun hr => pa_ok d S p a hr) 24
theorem s104 (hL : pc_lo L) (hs : pc_so s) (hd : pc_L h L d) (ho : pw_ok d) (hS : pc_S h (s + 1) S) (hb : pw_S S) (h0 : S 0 < 100000) (hp : p < pw_n d 3) (ha : a < pw_n d 1) :
    am_RI (am_run am_M 104 [.ref L, .ref s, .int (nI p), .int (nI a)] h) (fun v g => v = nI (pa_bits d S p a) ∧ am_kp ps_0 h g) := by
  have hso : ∀ k, ps_0 (s + 1) k = false := fun k => ps_0_f (by unfold pc_so at hs; omega)
  rw [e104]
  obtain ⟨g, e, hpp⟩ := am_for0 (fun j (g : am_H) => am_vn am_M 3 104 6 [some (.ref L), some (.ref s), some (.int (nI p)), some (.int (nI a)), some (.int (nI (pb (fun hr => pa_ok d S p a hr) j))), some (.int (nI j))] [] g) (fun _ g => am_kp ps_0 h g) 24 h (am_kp.refl _ _) (fun j g hj hg => by
    obtain ⟨v, g2, e2, hv, k2⟩ := s103 hL hs (hd.kp hg (ps_0L hL)) ho (hS.kp hg hso) hb h0 hp ha hj
    refine ⟨g2, ?_, hg.trans k2⟩
    rw [e104_6, if_neg (nI_ge hj (by omega)), pc_lch hL, e2, am_bI_ok, hv, pz_succ j, ← pb_step (fun hr => pa_ok d S p a hr) (show j < 31 by omega)]
    cases pa_ok d S p a j with
    | true => rw [if_neg (by decide), if_pos rfl]
    | false => rw [if_pos (by decide), if_neg (by decide)])
  refine Eq.mpr (congrArg (fun o => am_RI o _) e) ?_
  rw [e104_6, if_pos (by decide)]
  exact ⟨_, _, rfl, rfl, hpp⟩
/-- the model counts hours -/
theorem s272 (hL : pm_L h d) (ho : pw_ok d) (hS : pm_S h 85 0 S) (hb : pw_S S) (h0 : S 0 < 100000) (hs : am_I h 60 61 = (-1 : Int32)) (hp : p < pw_n d 3) (ha : a < pw_n d 1) :
    am_RI (am_run am_M 272 [.ref 60, .int (nI p), .int (nI a)] h) (fun v g => v = nI (pz_cnt (fun hr => pa_ok d S p a hr) 24) ∧ am_kp ps_m h g) := by
  rw [e272]
  obtain ⟨g, e, hpp⟩ := am_for0 (fun j (g : am_H) => am_vn am_M 3 272 5 [some (.ref 60), some (.int (nI p)), some (.int (nI a)), some (.int (nI (pz_cnt (fun hr => pa_ok d S p a hr) j))), some (.int (nI j))] [] g) (fun _ g => am_kp ps_m h g) 24 h (am_kp.refl _ _) (fun j g hj hg => by
    obtain ⟨v, g2, e2, hv, k2⟩ := s242 (hL.kp hg (fun i k hi => ps_m_f (by omega))) ho (hS.kp hg (fun k => ps_m_f (by omega))) hb h0 (by rw [hg.get 60 61 (ps_m_f (by omega))]; exact hs) hp ha hj
    refine ⟨g2, ?_, hg.trans k2⟩
    rw [e272_5, if_neg (nI_ge hj (by omega)), e2, am_bI_ok, hv, pz_succ j, pz_cnt]
    cases pa_ok d S p a j with
    | true => rw [if_neg (by decide), if_pos rfl, pz_succ]
    | false => rw [if_pos (by decide), if_neg (by decide), pz_addz]; rfl)
  refine Eq.mpr (congrArg (fun o => am_RI o _) e) ?_
  rw [e272_5, if_pos (by decide)]
  exact ⟨_, _, rfl, rfl, hpp⟩
end
