/-! THE CLASS'S SEASON -/
/-- what a season writes -/
def ps_Y (i _ : Nat) : Bool := decide (i = 11 ∨ i = 14 ∨ i = 17 ∨ i = 51 ∨ i = 54 ∨ i = 57 ∨ i = 34 ∨ i = 36)
theorem ps_Y_t {i k : Nat} (h : i = 11 ∨ i = 14 ∨ i = 17 ∨ i = 51 ∨ i = 54 ∨ i = 57 ∨ i = 34 ∨ i = 36) : ps_Y i k = true := decide_eq_true h
theorem ps_Y_f {i k : Nat} (h : ¬ (i = 11 ∨ i = 14 ∨ i = 17 ∨ i = 51 ∨ i = 54 ∨ i = 57 ∨ i = 34 ∨ i = 36)) : ps_Y i k = false := decide_eq_false h
theorem ps_YC {i k : Nat} (h : ps_C i k = false) : ps_Y i k = false := by
  have := of_decide_eq_false h
  exact ps_Y_f (by omega)
theorem ps_0Y {i k : Nat} (h : ps_Y i k = false) : ps_0 i k = false := by
  have := of_decide_eq_false h
  exact ps_0_f (by omega)
theorem ps_YL {L : Nat} (hL : pc_lo L) (i k : Nat) (h : pc_rl L i) : ps_Y i k = false := by
  unfold pc_lo at hL
  unfold pc_rl at h
  exact ps_Y_f (by omega)
def pn_o (n m : Nat) : Int32 := if n ≤ m then nI n else (-1)
/-- the season: its state, what is due of all, who is spared, what was given, who was ever thin -/
def pc_Y (h : am_H) (S : Nat → Nat) (u q G E : Nat) : Prop := pc_S h 36 S ∧ am_I h 34 1 = pn_o u 20 ∧ am_I h 34 2 = pn_o q 5 ∧ am_I h 34 7 = nI G ∧ am_I h 34 6 = nI E
theorem pc_Y.kp0 {h g : am_H} {S : Nat → Nat} {u q G E : Nat} (a : pc_Y h S u q G E) (k : am_kp ps_0 h g) : pc_Y g S u q G E := by
  obtain ⟨a1, a2, a3, a4, a5⟩ := a
  have e := fun j => k.get 34 j (ps_0_f (by omega))
  refine ⟨a1.kp k (fun k => ps_0_f (by omega)), ?_, ?_, ?_, ?_⟩
  · rw [e]; exact a2
  · rw [e]; exact a3
  · rw [e]; exact a4
  · rw [e]; exact a5
theorem pc_so35 : pc_so 35 := Or.inr (Or.inr (Or.inl rfl))
theorem pc_so20 : pc_so 20 := Or.inl rfl
theorem pc_so27 : pc_so 27 := Or.inr (Or.inl rfl)
section
variable {L p due sn u q G E : Nat} {h : am_H} {d : pw_L} {S : Nat → Nat}
theorem s143 (hL : pc_lo L) (hd : pc_L h L d) (ho : pw_ok d) (hY : pc_Y h S u q G E) (hb : pw_S S) (hp : p < pw_n d 3) (hdue : due ≤ 99) :
    am_RV (am_run am_M 143 [.ref 34, .ref L, .int (nI p), .int (nI due)] h) (fun g => pc_Y g (py d p due S) u q (G + min due (S (1 + p))) E ∧ am_kp ps_Y h g ∧ am_I g 34 3 = am_I h 34 3) := by
  obtain ⟨⟨o0, o1, o2, o3, o4⟩, oP, oQ, oS, oW, oR, oT⟩ := ho
  obtain ⟨d1, d2, d3, d4, d5, d6, d7, d8⟩ := hd
  obtain ⟨y1, y2, y3, y4, y5⟩ := hY
  have hbp := hb.1 p (by omega)
  have hh3 := (oQ p hp).2
  have hpk := (oP _ hh3).2
  have hbk := hb.2 (pw_t d 1 (pw_t d 3 p)) (by omega)
  rw [e143, s151 pc_so35 (show 1 + 0 * 6 + p < 49 by omega), am_bI_ok, y1 _ (by omega), show 1 + 0 * 6 + p = 1 + p by omega, pc_lch hL, s94 hL (by omega) (show pw_t d 3 p < 9 by omega) (d3 p hp).2, am_bI_ok, (d2 _ hh3).2,
    s151 pc_so35 (show 1 + 2 * 6 + p < 49 by omega), am_bI_ok, y1 _ (by omega), show 1 + 2 * 6 + p = 13 + p by omega, pz_min (by omega) (by omega), pk_sub (Nat.min_le_right _ _), s152 pc_so35 (show 1 + 0 * 6 + p < 49 by omega), am_bV_ok, show 1 + 0 * 6 + p = 1 + p by omega]
  have z1 := y1.set (1 + p) (S (1 + p) - min due (S (1 + p)))
  rw [s153 pc_so35 (show 37 + 0 * 4 + pw_t d 1 (pw_t d 3 p) < 49 by omega), am_bI_ok, show 37 + 0 * 4 + pw_t d 1 (pw_t d 3 p) = 37 + pw_t d 1 (pw_t d 3 p) by omega, z1 _ (by omega), pu_n _ _ (show 37 + pw_t d 1 (pw_t d 3 p) ≠ 1 + p by omega), nI_add, pz_min (a := 9999) (by omega) (by omega), s154 pc_so35 (show 37 + 0 * 4 + pw_t d 1 (pw_t d 3 p) < 49 by omega), am_bV_ok, show 37 + 0 * 4 + pw_t d 1 (pw_t d 3 p) = 37 + pw_t d 1 (pw_t d 3 p) by omega]
  have z2 := z1.set (37 + pw_t d 1 (pw_t d 3 p)) (min 9999 (S (37 + pw_t d 1 (pw_t d 3 p)) + min due (S (1 + p))))
  rw [nI_add, pk_sub (by omega), pz_min (a := 9999) (by omega) (by omega), s152 pc_so35 (show 1 + 2 * 6 + p < 49 by omega), am_bV_ok, show 1 + 2 * 6 + p = 13 + p by omega]
  have z3 := z2.set (13 + p) (min 9999 (S (13 + p) + due - min due (S (1 + p))))
  rw [am_I_s1 _ _ _ _ (show 34 ≠ 36 by omega), am_I_s1 _ _ _ _ (show 34 ≠ 36 by omega), am_I_s1 _ _ _ _ (show 34 ≠ 36 by omega), y4, nI_add]
  refine ⟨_, rfl, ⟨z3.oth (by omega) _ _, ?_, ?_, am_I_s _ _ _ _, ?_⟩, ?_, ?_⟩
  · rw [am_I_s2 _ _ _ _ (by omega), am_I_s1 _ _ _ _ (show 34 ≠ 36 by omega), am_I_s1 _ _ _ _ (show 34 ≠ 36 by omega), am_I_s1 _ _ _ _ (show 34 ≠ 36 by omega)]; exact y2
  · rw [am_I_s2 _ _ _ _ (by omega), am_I_s1 _ _ _ _ (show 34 ≠ 36 by omega), am_I_s1 _ _ _ _ (show 34 ≠ 36 by omega), am_I_s1 _ _ _ _ (show 34 ≠ 36 by omega)]; exact y3
  · rw [am_I_s2 _ _ _ _ (by omega), am_I_s1 _ _ _ _ (show 34 ≠ 36 by omega), am_I_s1 _ _ _ _ (show 34 ≠ 36 by omega), am_I_s1 _ _ _ _ (show 34 ≠ 36 by omega)]; exact y5
  · exact ((((am_kp.refl _ _).sI _ (ps_Y_t (by omega))).sI _ (ps_Y_t (by omega))).sI _ (ps_Y_t (by omega))).sI _ (ps_Y_t (by omega))
  · rw [am_I_s2 _ _ _ _ (by omega), am_I_s1 _ _ _ _ (show 34 ≠ 36 by omega), am_I_s1 _ _ _ _ (show 34 ≠ 36 by omega), am_I_s1 _ _ _ _ (show 34 ≠ 36 by omega)]
/-- packs eat -/
theorem s144 (ho : pw_ok d) (hY : pc_Y h S u q G E) (hb : pw_T (S 0) S) (hE : E < 2 ^ 31) (h0 : S 0 < 100000) :
    am_RV (am_run am_M 144 [.ref 34, .int (nI (pw_n d 0))] h) (fun g => pc_Y g (am_it py_e (pw_n d 0) (S, 0)).1 u q G (E ||| (am_it py_e (pw_n d 0) (S, 0)).2) ∧ am_I g 34 5 = nI (am_it py_e (pw_n d 0) (S, 0)).2 ∧ am_kp ps_Y h g ∧ am_I g 34 3 = am_I h 34 3) := by
  have h4 := ho.1.1
  rw [e144]
  obtain ⟨g, e, hp⟩ := am_for0 (fun k (g : am_H) => am_vn am_M 2 144 7 [some (.ref 34), some (.int (nI (pw_n d 0))), some (.int (nI k)), none] [] g)
    (fun k g => pc_Y g (am_it py_e k (S, 0)).1 u q G E ∧ am_I g 34 5 = nI (am_it py_e k (S, 0)).2 ∧ am_kp ps_Y h g ∧ am_I g 34 3 = am_I h 34 3 ∧ (∀ j, j < 4 → (am_it py_e k (S, 0)).1 (37 + j) ≤ 9999 ∧ (am_it py_e k (S, 0)).1 (41 + j) ≤ S 0 + k ∧ (am_it py_e k (S, 0)).1 (45 + j) ≤ 20) ∧ (am_it py_e k (S, 0)).2 < 2 ^ k) (pw_n d 0) (am_sI h 34 5 (nI 0)) (by
      obtain ⟨y1, y2, y3, y4, y5⟩ := hY
      refine ⟨⟨y1.oth (by omega) _ _, ?_, ?_, ?_, ?_⟩, am_I_s _ _ _ _, (am_kp.refl _ _).sI _ (ps_Y_t (by omega)), am_I_s2 _ _ _ _ (by omega), fun j hj => by have := hb.2 j hj; exact ⟨this.1, Nat.le_trans this.2.1 (Nat.le_add_right _ _), this.2.2⟩, Nat.one_pos⟩
      · rw [am_I_s2 _ _ _ _ (by omega)]; exact y2
      · rw [am_I_s2 _ _ _ _ (by omega)]; exact y3
      · rw [am_I_s2 _ _ _ _ (by omega)]; exact y4
      · rw [am_I_s2 _ _ _ _ (by omega)]; exact y5) (fun k g hk hg => by
      obtain ⟨⟨y1, y2, y3, y4, y5⟩, t, kp, sd, bd, tl⟩ := hg
      have bk := bd k (by omega)
      generalize hX : am_it py_e k (S, 0) = X at *
      have hX' : am_it py_e (k + 1) (S, 0) = py_e k X := by rw [am_it, hX]
      try dsimp only
      rw [hX', e144_7, if_neg (nI_ge hk (by omega)), s153 pc_so35 (show 37 + 0 * 4 + k < 49 by omega), am_bI_ok, show 37 + 0 * 4 + k = 37 + k by omega, y1 _ (by omega), s153 pc_so35 (show 37 + 2 * 4 + k < 49 by omega), am_bI_ok, show 37 + 2 * 4 + k = 45 + k by omega, y1 _ (by omega), s154 pc_so35 (show 37 + 0 * 4 + k < 49 by omega), am_bV_ok, show 37 + 0 * 4 + k = 37 + k by omega]
      unfold py_e
      by_cases c : X.1 (37 + k) < X.1 (45 + k)
      · have hneg : nI (X.1 (37 + k)) - nI (X.1 (45 + k)) < 0 := pk_sneg (by omega) c
        rw [if_neg (show ¬ 0 ≤ nI (X.1 (37 + k)) - nI (X.1 (45 + k)) from fun h => by
          rw [Int32.lt_iff_toInt_lt] at hneg
          rw [Int32.le_iff_toInt_le] at h
          omega), if_neg (show ¬ nI 0 < nI (X.1 (37 + k)) - nI (X.1 (45 + k)) from fun h => by
          rw [Int32.lt_iff_toInt_lt] at hneg h
          have e1 : (0 : Int32).toInt = 0 := by decide
          have e2 : (nI 0).toInt = 0 := by decide
          omega)]
        have z1 := y1.set (37 + k) 0
        rw [s153 pc_so35 (show 37 + 1 * 4 + k < 49 by omega), am_bI_ok, show 37 + 1 * 4 + k = 41 + k by omega, z1 _ (by omega), pu_n _ _ (show 41 + k ≠ 37 + k by omega), pz_succ, s154 pc_so35 (show 37 + 1 * 4 + k < 49 by omega), am_bV_ok, show 37 + 1 * 4 + k = 41 + k by omega]
        have z2 := z1.set (41 + k) (X.1 (41 + k) + 1)
        rw [am_I_s1 _ _ _ _ (show 34 ≠ 36 by omega), am_I_s1 _ _ _ _ (show 34 ≠ 36 by omega), t, pb_1 (by omega), pz_or, pb_or tl, if_pos c, pz_succ]
        refine ⟨_, rfl, ⟨z2.oth (by omega) _ _, ?_, ?_, ?_, ?_⟩, am_I_s _ _ _ _, ((kp.sI _ (ps_Y_t (by omega))).sI _ (ps_Y_t (by omega))).sI _ (ps_Y_t (by omega)), ?_, fun j hj => ?_, ?_⟩
        · rw [am_I_s2 _ _ _ _ (by omega), am_I_s1 _ _ _ _ (show 34 ≠ 36 by omega), am_I_s1 _ _ _ _ (show 34 ≠ 36 by omega)]; exact y2
        · rw [am_I_s2 _ _ _ _ (by omega), am_I_s1 _ _ _ _ (show 34 ≠ 36 by omega), am_I_s1 _ _ _ _ (show 34 ≠ 36 by omega)]; exact y3
        · rw [am_I_s2 _ _ _ _ (by omega), am_I_s1 _ _ _ _ (show 34 ≠ 36 by omega), am_I_s1 _ _ _ _ (show 34 ≠ 36 by omega)]; exact y4
        · rw [am_I_s2 _ _ _ _ (by omega), am_I_s1 _ _ _ _ (show 34 ≠ 36 by omega), am_I_s1 _ _ _ _ (show 34 ≠ 36 by omega)]; exact y5
        · rw [am_I_s2 _ _ _ _ (by omega), am_I_s1 _ _ _ _ (show 34 ≠ 36 by omega), am_I_s1 _ _ _ _ (show 34 ≠ 36 by omega)]; exact sd
        · have := bd j hj
          show pu _ _ _ _ ≤ _ ∧ pu _ _ _ _ ≤ _ ∧ pu _ _ _ _ ≤ _
          unfold pu
          refine ⟨?_, ?_, ?_⟩ <;> (repeat' split) <;> omega
        · show X.2 + 2 ^ k < 2 ^ (k + 1)
          rw [Nat.pow_succ]; omega
      · rw [if_pos (show 0 ≤ nI (X.1 (37 + k)) - nI (X.1 (45 + k)) by rw [pk_sub (by omega)]; exact nI_pos' (by omega)), pk_sub (by omega), pz_max (a := 0) (by omega) (by omega), Nat.max_eq_right (Nat.zero_le _), if_neg c, pz_succ]
        have z1 := y1.set (37 + k) (X.1 (37 + k) - X.1 (45 + k))
        refine ⟨_, rfl, ⟨z1, ?_, ?_, ?_, ?_⟩, ?_, kp.sI _ (ps_Y_t (by omega)), ?_, fun j hj => ?_, ?_⟩
        · rw [am_I_s1 _ _ _ _ (show 34 ≠ 36 by omega)]; exact y2
        · rw [am_I_s1 _ _ _ _ (show 34 ≠ 36 by omega)]; exact y3
        · rw [am_I_s1 _ _ _ _ (show 34 ≠ 36 by omega)]; exact y4
        · rw [am_I_s1 _ _ _ _ (show 34 ≠ 36 by omega)]; exact y5
        · rw [am_I_s1 _ _ _ _ (show 34 ≠ 36 by omega)]; exact t
        · rw [am_I_s1 _ _ _ _ (show 34 ≠ 36 by omega)]; exact sd
        · have := bd j hj
          show pu _ _ _ _ ≤ _ ∧ pu _ _ _ _ ≤ _ ∧ pu _ _ _ _ ≤ _
          unfold pu
          refine ⟨?_, ?_, ?_⟩ <;> (repeat' split) <;> omega
        · show X.2 < 2 ^ (k + 1)
          rw [Nat.pow_succ]; omega)
  show am_RV (am_vn am_M 2 144 7 [some (.ref 34), some (.int (nI (pw_n d 0))), some (.int (nI 0)), none] [] (am_sI h 34 5 (nI 0))) _
  rw [e, e144_7, if_pos (nI_le (Nat.le_refl _) (by omega))]
  obtain ⟨⟨y1, y2, y3, y4, y5⟩, t, kp, sd, bd, tl⟩ := hp
  rw [y5, t, pz_or]
  refine ⟨_, rfl, ⟨y1.oth (by omega) _ _, ?_, ?_, ?_, am_I_s _ _ _ _⟩, ?_, kp.sI _ (ps_Y_t (by omega)), ?_⟩
  · rw [am_I_s2 _ _ _ _ (by omega)]; exact y2
  · rw [am_I_s2 _ _ _ _ (by omega)]; exact y3
  · rw [am_I_s2 _ _ _ _ (by omega)]; exact y4
  · rw [am_I_s2 _ _ _ _ (by omega)]; exact t
  · rw [am_I_s2 _ _ _ _ (by omega)]; exact sd
end
