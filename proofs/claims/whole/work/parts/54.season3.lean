/-! THE CLASS'S SEASON: burn, breed, a day -/
def ps_b (i k : Nat) : Bool := decide (i = 36 ∨ i = 34 ∧ k = 4)
theorem ps_b_t {i k : Nat} (h : i = 36 ∨ i = 34 ∧ k = 4) : ps_b i k = true := decide_eq_true h
theorem ps_b_f {i k : Nat} (h : ¬ (i = 36 ∨ i = 34 ∧ k = 4)) : ps_b i k = false := decide_eq_false h
theorem ps_bY {i k : Nat} (h : ps_Y i k = false) : ps_b i k = false := by
  have := of_decide_eq_false h
  exact ps_b_f (by omega)
def ps_r (i _ : Nat) : Bool := decide (i = 36)
theorem ps_r_t {i k : Nat} (h : i = 36) : ps_r i k = true := decide_eq_true h
theorem ps_r_f {i k : Nat} (h : ¬ (i = 36)) : ps_r i k = false := decide_eq_false h
theorem ps_rY {i k : Nat} (h : ps_Y i k = false) : ps_r i k = false := by
  have := of_decide_eq_false h
  exact ps_r_f (by omega)
theorem pc_Y.of {h g : am_H} {s : Nat → Nat → Bool} {S S' : Nat → Nat} {u q G E : Nat} (a : pc_Y h S u q G E) (b : pc_S g 36 S') (k : am_kp s h g) (hs : ∀ j, j ≠ 4 → j ≠ 5 → j ≠ 3 → s 34 j = false) : pc_Y g S' u q G E := by
  obtain ⟨a1, a2, a3, a4, a5⟩ := a
  refine ⟨b, ?_, ?_, ?_, ?_⟩
  · rw [k.get 34 1 (hs _ (by omega) (by omega) (by omega))]; exact a2
  · rw [k.get 34 2 (hs _ (by omega) (by omega) (by omega))]; exact a3
  · rw [k.get 34 7 (hs _ (by omega) (by omega) (by omega))]; exact a4
  · rw [k.get 34 6 (hs _ (by omega) (by omega) (by omega))]; exact a5
section
variable {L p due sn u q G E : Nat} {h : am_H} {d : pw_L} {S : Nat → Nat}
theorem s145 (ho : pw_ok d) (hS : pc_S h 36 S) (hb : ∀ p, p < 6 → S (7 + p) ≤ 99 ∧ S (19 + p) ≤ 100000) (h4 : am_I h 34 4 = nI 0) :
    am_RV (am_run am_M 145 [.ref 34, .int (nI (pw_n d 3))] h) (fun g => pc_S g 36 (am_it py_b (pw_n d 3) (S, 0)).1 ∧ am_I g 34 4 = nI (am_it py_b (pw_n d 3) (S, 0)).2 ∧ am_kp ps_b h g) := by
  have h6 := ho.1.2.2.2.1
  rw [e145]
  obtain ⟨g, e, hp⟩ := am_for0 (fun k (g : am_H) => am_vn am_M 2 145 2 [some (.ref 34), some (.int (nI (pw_n d 3))), some (.int (nI k)), none] [] g)
    (fun k g => pc_S g 36 (am_it py_b k (S, 0)).1 ∧ am_I g 34 4 = nI (am_it py_b k (S, 0)).2 ∧ am_kp ps_b h g ∧ (∀ p, p < 6 → (am_it py_b k (S, 0)).1 (7 + p) ≤ 99) ∧ (∀ p, k ≤ p → p < 6 → (am_it py_b k (S, 0)).1 (19 + p) ≤ 100000) ∧ (am_it py_b k (S, 0)).2 < 2 ^ k) (pw_n d 3) h
    ⟨hS, h4, am_kp.refl _ _, fun p hp => (hb p hp).1, fun p _ hp => (hb p hp).2, Nat.one_pos⟩ (fun k g hk hg => by
      obtain ⟨y1, t, kp, b1, b2, tl⟩ := hg
      have c1 := b1 k (by omega)
      have c2 := b2 k (Nat.le_refl k) (by omega)
      have hX' : am_it py_b (k + 1) (S, 0) = py_b k (am_it py_b k (S, 0)) := rfl
      rw [hX']
      generalize am_it py_b k (S, 0) = X at *
      rw [e145_2, if_neg (nI_ge hk (by omega)), s151 pc_so35 (show 1 + 1 * 6 + k < 49 by omega), am_bI_ok, show 1 + 1 * 6 + k = 7 + k by omega, y1 _ (by omega)]
      unfold py_b
      by_cases c : X.1 (7 + k) = 0
      · rw [if_pos (by rw [c]; decide), if_pos c, s151 pc_so35 (show 1 + 3 * 6 + k < 49 by omega), am_bI_ok, show 1 + 3 * 6 + k = 19 + k by omega, y1 _ (by omega), pz_succ, s152 pc_so35 (show 1 + 3 * 6 + k < 49 by omega), am_bV_ok, show 1 + 3 * 6 + k = 19 + k by omega,
          am_I_s1 _ _ _ _ (show 34 ≠ 36 by omega), t, pb_1 (by omega), pz_or, pb_or tl, pz_succ]
        refine ⟨_, rfl, (y1.set _ _).oth (by omega) _ _, am_I_s _ _ _ _, (kp.sI _ (ps_b_t (by omega))).sI _ (ps_b_t (by omega)), fun p hp => ?_, fun p hp hp6 => ?_, ?_⟩
        · show pu _ _ _ _ ≤ _
          rw [pu_n _ _ (by omega)]; exact b1 p hp
        · show pu _ _ _ _ ≤ _
          rw [pu_n _ _ (by omega)]; exact b2 p (by omega) hp6
        · show X.2 + 2 ^ k < 2 ^ (k + 1)
          rw [Nat.pow_succ]; omega
      · rw [if_neg (nI_nle (by omega) (by omega)), if_neg c, pk_sub (show 1 ≤ X.1 (7 + k) by omega), s152 pc_so35 (show 1 + 1 * 6 + k < 49 by omega), am_bV_ok, show 1 + 1 * 6 + k = 7 + k by omega, pz_succ]
        refine ⟨_, rfl, y1.set _ _, ?_, kp.sI _ (ps_b_t (by omega)), fun p hp => ?_, fun p hp hp6 => ?_, ?_⟩
        · rw [am_I_s1 _ _ _ _ (show 34 ≠ 36 by omega)]; exact t
        · show pu _ _ _ _ ≤ _
          unfold pu
          have := b1 p hp
          split <;> omega
        · show pu _ _ _ _ ≤ _
          rw [pu_n _ _ (by omega)]; exact b2 p (by omega) hp6
        · show X.2 < 2 ^ (k + 1)
          rw [Nat.pow_succ]; omega)
  show am_RV (am_vn am_M 2 145 2 [some (.ref 34), some (.int (nI (pw_n d 3))), some (.int (nI 0)), none] [] h) _
  rw [e, e145_2, if_pos (nI_le (Nat.le_refl _) (by omega))]
  exact ⟨_, rfl, hp.1, hp.2.1, hp.2.2.1⟩
theorem s146 (ho : pw_ok d) (hS : pc_S h 36 S) (hb : ∀ p, p < 6 → S (1 + p) ≤ 99) :
    am_RV (am_run am_M 146 [.ref 34, .int (nI (pw_n d 3))] h) (fun g => pc_S g 36 (am_it py_r (pw_n d 3) S) ∧ am_kp ps_r h g) := by
  have h6 := ho.1.2.2.2.1
  rw [e146]
  obtain ⟨g, e, hp⟩ := am_for0 (fun k (g : am_H) => am_vn am_M 2 146 2 [some (.ref 34), some (.int (nI (pw_n d 3))), some (.int (nI k)), none] [] g)
    (fun k g => pc_S g 36 (am_it py_r k S) ∧ am_kp ps_r h g ∧ (∀ p, p < 6 → (am_it py_r k S) (1 + p) ≤ 99)) (pw_n d 3) h
    ⟨hS, am_kp.refl _ _, hb⟩ (fun k g hk hg => by
      obtain ⟨y1, kp, b1⟩ := hg
      have c1 := b1 k (by omega)
      have hX' : am_it py_r (k + 1) S = py_r k (am_it py_r k S) := rfl
      rw [hX']
      generalize am_it py_r k S = X at *
      rw [e146_2, if_neg (nI_ge hk (by omega)), s151 pc_so35 (show 1 + 0 * 6 + k < 49 by omega), am_bI_ok, show 1 + 0 * 6 + k = 1 + k by omega, y1 _ (by omega), if_neg (by decide), pk_div (by omega) (by omega) (by omega), nI_add, pz_min (a := 99) (by omega) (by omega), s152 pc_so35 (show 1 + 0 * 6 + k < 49 by omega), am_bV_ok, show 1 + 0 * 6 + k = 1 + k by omega, pz_succ]
      refine ⟨_, rfl, y1.set _ _, kp.sI _ (ps_r_t rfl), fun p hp => ?_⟩
      unfold py_r pu
      have := b1 p hp
      split <;> omega)
  show am_RV (am_vn am_M 2 146 2 [some (.ref 34), some (.int (nI (pw_n d 3))), some (.int (nI 0)), none] [] h) _
  rw [e, e146_2, if_pos (nI_le (Nat.le_refl _) (by omega))]
  exact ⟨_, rfl, hp.1, hp.2.1⟩
theorem pn_o_neg {n m : Nat} (hm : m < 2 ^ 31) : pn_o n m = (-1 : Int32) ↔ m < n := by
  unfold pn_o
  by_cases c : n ≤ m
  · rw [if_pos c]
    exact ⟨fun e => absurd e (pz_neg1 (by omega)), fun h => absurd h (by omega)⟩
  · rw [if_neg c]
    exact ⟨fun _ => by omega, fun _ => rfl⟩
theorem pn_o_eq {n m k : Nat} (hm : m < 2 ^ 31) (hk : k ≤ m) : nI k = pn_o n m ↔ k = n := by
  unfold pn_o
  by_cases c : n ≤ m
  · rw [if_pos c]
    exact nI_eq (by omega) (by omega)
  · rw [if_neg c]
    exact ⟨fun e => absurd e (pz_neg1 (by omega)), fun h => by omega⟩
/-- what a day leaves in the season -/
theorem s142 (hL : pc_lo L) (hd : pc_L h L d) (ho : pw_ok d) (hY : pc_Y h S u q G E) (hb : pw_S S) (hE : E < 2 ^ 31) (h0 : S 0 < 10000) (hsn : sn < 100) :
    am_RV (am_run am_M 142 [.ref 34, .ref L, .int (nI sn)] h) (fun g => pc_Y g (py_S d sn u q S) u q (G + py_gave d sn u q S) (E ||| py_thin d sn u q S) ∧ am_I g 34 4 = nI (py_cold d sn u q S) ∧ am_I g 34 5 = nI (py_thin d sn u q S) ∧ am_kp ps_Y h g ∧ am_I g 34 3 = am_I h 34 3) := by
  have hlt := pc_llt hL
  have h4 := ho.1.1
  have h6 := ho.1.2.2.2.1
  rw [e142]
  obtain ⟨g, e, hp⟩ := am_for0 (fun k (g : am_H) => am_vn am_M 3 142 2 [some (.ref 34), some (.ref L), some (.int (nI sn)), some (.int (nI k))] [] g)
    (fun k g => pc_Y g (am_it (py_1 d sn u q) k (S, 0)).1 u q (G + (am_it (py_1 d sn u q) k (S, 0)).2) E ∧ pw_S (am_it (py_1 d sn u q) k (S, 0)).1 ∧ (am_it (py_1 d sn u q) k (S, 0)).1 0 = S 0 ∧ am_kp ps_Y h g ∧ am_I g 34 3 = am_I h 34 3) (pw_n d 3) h
    ⟨hY, hb, rfl, am_kp.refl _ _, rfl⟩ (fun k g hk hg => by
      obtain ⟨y, b1, b0, kp, sd⟩ := hg
      have hX' : am_it (py_1 d sn u q) (k + 1) (S, 0) = py_1 d sn u q k (am_it (py_1 d sn u q) k (S, 0)) := rfl
      rw [hX']
      generalize am_it (py_1 d sn u q) k (S, 0) = X at *
      have hdg := hd.kp kp (ps_YL hL)
      rw [e142_2, pc_lch hL, show am_I g L 14 = nI (pw_n d 3) from hdg.1 3 (by omega), if_neg (nI_ge hk (by omega)), y.2.2.1]
      unfold py_1
      by_cases c : k = q
      · rw [if_pos ((pn_o_eq (by omega) (by omega)).mpr c), if_pos c, pz_succ]
        exact ⟨g, rfl, y, b1, b0, kp, sd⟩
      · rw [if_neg (fun e => c ((pn_o_eq (by omega) (by omega)).mp e)), if_neg c, y.2.1]
        have hT := py_T ho (due := py_f d X.1 sn u k) (pw_ST b1) hk
        have fin : ∀ g1 g2 : am_H, am_kp ps_0 g g1 → (pc_Y g2 (py d k (py_f d X.1 sn u k) X.1) u q (G + X.2 + min (py_f d X.1 sn u k) (X.1 (1 + k))) E ∧ am_kp ps_Y g1 g2 ∧ am_I g2 34 3 = am_I g1 34 3) → pc_Y g2 (py d k (py_f d X.1 sn u k) X.1) u q (G + (X.2 + min (py_f d X.1 sn u k) (X.1 (1 + k)))) E ∧ pw_S (py d k (py_f d X.1 sn u k) X.1) ∧ (py d k (py_f d X.1 sn u k) X.1) 0 = S 0 ∧ am_kp ps_Y h g2 ∧ am_I g2 34 3 = am_I h 34 3 := by
          intro g1 g2 k1 hh
          refine ⟨?_, pw_TS hT.1 hT.2.1, hT.2.1.trans b0, (kp.trans (k1.up (fun i k => ps_0Y))).trans hh.2.1, hh.2.2.trans ((k1.get 34 3 (ps_0_f (by omega))).trans sd)⟩
          rw [← Nat.add_assoc]
          exact hh.1
        by_cases c2 : u ≤ 20
        · rw [if_neg (fun e => by have := (pn_o_neg (by omega)).mp e; omega)]
          have hf : py_f d X.1 sn u k = u := if_pos c2
          obtain ⟨g2, e2, hh⟩ := s143 (due := u) hL hdg ho y b1 hk (by omega)
          rw [show pn_o u 20 = nI u from if_pos c2, e2, am_bV_ok, pz_succ]
          rw [hf] at fin ⊢
          exact ⟨g2, rfl, fin g g2 (am_kp.refl _ _) hh⟩
        · rw [if_pos ((pn_o_neg (by omega)).mpr (by omega)), pc_lch hL]
          have hf : py_f d X.1 sn u k = pr_due d X.1 sn k := if_neg c2
          obtain ⟨v, g1, e1, hv, k1⟩ := s105 (sn := sn) (s := 35) hL pc_so35 hdg ho y.1 b1 (by omega) hk
          rw [e1, am_bI_ok, hv]
          obtain ⟨g2, e2, hh⟩ := s143 (due := pr_due d X.1 sn k) hL (hdg.kp k1 (ps_0L hL)) ho (y.kp0 k1) b1 hk (pr_due_le _ _ _ _)
          rw [e2, am_bV_ok, pz_succ]
          rw [hf] at fin ⊢
          exact ⟨g2, rfl, fin g1 g2 k1 hh⟩)
  show am_RV (am_vn am_M 3 142 2 [some (.ref 34), some (.ref L), some (.int (nI sn)), some (.int (nI 0))] [] h) _
  rw [e]
  clear e
  obtain ⟨y, b1, b0, kp, sd⟩ := hp
  have hA : am_it (py_1 d sn u q) (pw_n d 3) (S, 0) = py_A d sn u q S := rfl
  rw [hA] at y b1 b0
  have hdg := hd.kp kp (ps_YL hL)
  rw [e142_2, pc_lch hL, show am_I g L 14 = nI (pw_n d 3) from hdg.1 3 (by omega), if_pos (nI_le (Nat.le_refl _) (by omega)), pc_lch hL, show am_I g L 11 = nI (pw_n d 0) from hdg.1 0 (by omega)]
  have hBT := py_B_T ho (X := ((py_A d sn u q S).1, 0)) (pw_ST b1)
  refine pz_VV (s144 ho y (pw_ST b1) hE (by omega)) fun g1 hg1 => ?_
  obtain ⟨y1, t1, k1, sd1⟩ := hg1
  have hB : am_it py_e (pw_n d 0) ((py_A d sn u q S).1, 0) = py_B d sn u q S := rfl
  rw [hB] at y1 t1 hBT
  have kA := kp.trans k1
  have k2 : am_kp ps_Y h (am_sI g1 34 4 (nI 0)) := kA.sI _ (ps_Y_t (by omega))
  have hd2 := hd.kp k2 (ps_YL hL)
  have y2 : pc_S (am_sI g1 34 4 (nI 0)) 36 (py_B d sn u q S).1 := y1.1.oth (by omega) _ _
  have bB0 : (py_B d sn u q S).1 0 = S 0 := (hBT.2 0 (by omega)).trans b0
  have b19 : ∀ p, p < 6 → (py_B d sn u q S).1 (19 + p) ≤ (py_A d sn u q S).1 0 := fun p hp => by
    rw [hBT.2 (19 + p) (by omega)]; exact (b1.1 p hp).2.2.2.1
  -- the wood
  have stepC : am_RV (if nI sn = 0 then am_vn am_M 3 142 80 [some (.ref 34), some (.ref L), none, none] [] (am_sI g1 34 4 (nI 0)) else am_ch 100 L 2 (am_bV [] (am_run am_M 145 [(.ref 34), (.int (am_I (am_sI g1 34 4 (nI 0)) L 14))] (am_sI g1 34 4 (nI 0))) fun g3 => am_vn am_M 3 142 80 [some (.ref 34), some (.ref L), none, none] [] g3)) (fun g => pc_Y g (py_S d sn u q S) u q (G + py_gave d sn u q S) (E ||| py_thin d sn u q S) ∧ am_I g 34 4 = nI (py_cold d sn u q S) ∧ am_I g 34 5 = nI (py_thin d sn u q S) ∧ am_kp ps_Y h g ∧ am_I g 34 3 = am_I h 34 3) := by
    have rest : ∀ g3, pc_Y g3 (py_C d sn u q S).1 u q (G + (py_A d sn u q S).2) (E ||| (py_B d sn u q S).2) → am_I g3 34 4 = nI (py_C d sn u q S).2 → am_I g3 34 5 = nI (py_B d sn u q S).2 → am_kp ps_Y h g3 → am_I g3 34 3 = am_I h 34 3 → (py_C d sn u q S).1 0 = S 0 → (∀ p, p < 6 → (py_C d sn u q S).1 (1 + p) ≤ 99) →
        am_RV (am_vn am_M 3 142 80 [some (.ref 34), some (.ref L), none, none] [] g3) (fun g => pc_Y g (py_S d sn u q S) u q (G + py_gave d sn u q S) (E ||| py_thin d sn u q S) ∧ am_I g 34 4 = nI (py_cold d sn u q S) ∧ am_I g 34 5 = nI (py_thin d sn u q S) ∧ am_kp ps_Y h g ∧ am_I g 34 3 = am_I h 34 3) := by
      intro g3 y3 c3 t3 k3 sd3 z0 z1
      have last : ∀ g4, pc_Y g4 (py_D d sn u q S) u q (G + (py_A d sn u q S).2) (E ||| (py_B d sn u q S).2) → am_kp ps_r g3 g4 → py_D d sn u q S 0 = S 0 → am_RV (am_vn am_M 3 142 103 [some (.ref 34), none, none, none] [] g4) (fun g => pc_Y g (py_S d sn u q S) u q (G + py_gave d sn u q S) (E ||| py_thin d sn u q S) ∧ am_I g 34 4 = nI (py_cold d sn u q S) ∧ am_I g 34 5 = nI (py_thin d sn u q S) ∧ am_kp ps_Y h g ∧ am_I g 34 3 = am_I h 34 3) := by
        intro g4 y4 k4 w0
        rw [e142_103, s149 pc_so35, am_bI_ok, y4.1 0 (by omega), pz_succ, s150 pc_so35, am_bV_ok]
        have k5 : am_kp ps_r g3 (am_sI g4 36 0 (nI (py_D d sn u q S 0 + 1))) := k4.sI _ (ps_r_t rfl)
        refine ⟨_, rfl, y3.of (y4.1.set _ _) k5 (fun j _ _ _ => ps_r_f (by omega)), ?_, ?_, k3.trans (k5.up (fun i k => ps_rY)), ?_⟩
        · rw [k5.get 34 4 (ps_r_f (by omega))]; exact c3
        · rw [k5.get 34 5 (ps_r_f (by omega))]; exact t3
        · rw [k5.get 34 3 (ps_r_f (by omega))]; exact sd3
      have hd3 := hd.kp k3 (ps_YL hL)
      rw [e142_80, s149 pc_so35, am_bI_ok, y3.1 0 (by omega), z0, if_neg (by decide), pz_succ, pk_rem (by omega) (by omega) (by omega)]
      by_cases c7 : (S 0 + 1) % 7 = 0
      · rw [if_pos (by rw [c7]; rfl), pc_lch hL, show am_I g3 L 14 = nI (pw_n d 3) from hd3.1 3 (by omega)]
        refine pz_VV (s146 ho y3.1 z1) fun g4 hg4 => ?_
        have hDe : py_D d sn u q S = am_it py_r (pw_n d 3) (py_C d sn u q S).1 := by
          unfold py_D
          rw [z0, if_pos c7]
        have k34 := hg4.2
        refine last g4 (y3.of (by rw [hDe]; exact hg4.1) hg4.2 (fun j _ _ _ => ps_r_f (by omega))) hg4.2 ?_
        rw [hDe]
        have := am_it_ind (fun m (Y : Nat → Nat) => Y 0 = (py_C d sn u q S).1 0) (f := py_r) (n := pw_n d 3) (a := (py_C d sn u q S).1) (fun m Y hm hY => by
          unfold py_r
          rw [pu_n _ _ (by omega)]; exact hY) rfl
        exact this.trans z0
      · rw [if_neg (nI_ne0 (by omega) (by omega))]
        have hDe : py_D d sn u q S = (py_C d sn u q S).1 := by
          unfold py_D
          rw [z0, if_neg c7]
        exact last g3 (by rw [hDe]; exact y3) (am_kp.refl _ _) (by rw [hDe]; exact z0)
    by_cases c : sn = 0
    · rw [if_pos (by rw [c]; rfl)]
      have hCe : py_C d sn u q S = ((py_B d sn u q S).1, 0) := if_pos c
      refine rest _ ?_ ?_ ?_ k2 ?_ ?_ ?_
      · rw [hCe]
        exact y1.of y2 ((am_kp.refl ps_b g1).sI _ (ps_b_t (by omega))) (fun j _ _ _ => ps_b_f (by omega))
      · rw [hCe]; exact am_I_s _ _ _ _
      · rw [am_I_s2 _ _ _ _ (by omega)]; exact t1
      · rw [am_I_s2 _ _ _ _ (by omega)]; exact sd1.trans sd
      · rw [hCe]; exact bB0
      · intro p hp
        rw [hCe]; exact (hBT.1.1 p hp).1
    · rw [if_neg (nI_ne0 (by omega) (by omega)), pc_lch hL, show am_I (am_sI g1 34 4 (nI 0)) L 14 = nI (pw_n d 3) from hd2.1 3 (by omega)]
      have hCe : py_C d sn u q S = am_it py_b (pw_n d 3) ((py_B d sn u q S).1, 0) := if_neg c
      have hCT := py_C_T ho (X := ((py_B d sn u q S).1, 0)) hBT.1 b19
      refine pz_VV (s145 ho y2 (fun p hp => ⟨(hBT.1.1 p hp).2.1, by have := b19 p hp; omega⟩) (am_I_s _ _ _ _)) fun g3 hg3 => ?_
      obtain ⟨w1, w2, w3⟩ := hg3
      rw [← hCe] at w1 w2 hCT
      have k13 : am_kp ps_b g1 g3 := ((am_kp.refl ps_b g1).sI _ (ps_b_t (by omega))).trans w3
      refine rest _ (y1.of w1 k13 (fun j _ _ _ => ps_b_f (by omega))) w2 ?_ (kA.trans (k13.up (fun i k => ps_bY))) ?_ (hCT.2.1.trans bB0) (fun p hp => (hCT.1.1 p hp).1)
      · rw [k13.get 34 5 (ps_b_f (by omega))]; exact t1
      · rw [k13.get 34 3 (ps_b_f (by omega))]; exact sd1.trans sd
  exact stepC
end
