/-! WALKS in the class: one set, all sets -/
section
variable {h : am_H} {d : pw_L} {S : Nat → Nat} {p L tgt x0 s0 N : Nat}
/-- closed at the states of the set A -/
def wk_cA (d : pw_L) (S : Nat → Nat) (p tgt A : Nat) (f : Nat → Nat) : Prop := ∀ i j, i < pw_n d 1 → j < pw_n d 1 → f (A * 9 + i) < 96 → f (wk_to tgt A j) ≤ wk_s d S p i j (f (A * 9 + i))
def wk_pp (d : pw_L) (S : Nat → Nat) (p tgt x0 s0 N A U : Nat) (f0 f : Nat → Nat) : Prop := wk_ju (wk_e d S p tgt) N x0 s0 f ∧ f x0 ≤ s0 ∧ (∀ i j, i < pw_n d 1 → j < pw_n d 1 → U.testBit i = true → U.testBit j = false → f (A * 9 + i) ≤ f (A * 9 + j)) ∧ (∀ i j, i < pw_n d 1 → j < pw_n d 1 → U.testBit i = true → f (wk_to tgt A j) ≤ wk_s d S p i j (f (A * 9 + i))) ∧ (∀ v, v < A * 9 → f v = f0 v) ∧ ∀ v, f v ≤ f0 v
theorem s168_6 {f0 : Nat → Nat} {A : Nat} (hL : pc_lo L) (ho : pw_ok d) (hd : pc_L h L d) (hW : wk_W h d S p) (hA : A ||| tgt = tgt) (htg : tgt < 512) (hN : N = tgt * 9 + 9) :
    ∀ (k c U : Nat) (g : am_H) (f : Nat → Nat), c + k = pw_n d 1 → U < 512 → pz_cnt (fun i => U.testBit i) (pw_n d 1) = c → am_kp (fun i _ => decide (i = 39)) h g → wk_39 g N f → wk_pp d S p tgt x0 s0 N A U f0 f →
    am_RV (am_vn am_M 2 168 6 [some (.ref 37), some (.ref L), some (.int (nI tgt)), some (.int (nI A)), some (.int (nI U)), some (.int (nI c)), none, none, none, none] [] g) (fun g' => am_kp (fun i _ => decide (i = 39)) h g' ∧ ∃ f', wk_39 g' N f' ∧ wk_ju (wk_e d S p tgt) N x0 s0 f' ∧ f' x0 ≤ s0 ∧ wk_cA d S p tgt A f' ∧ (∀ v, v < A * 9 → f' v = f0 v) ∧ ∀ v, f' v ≤ f0 v) := by
  have h9 := ho.1.2.1
  have hAt : A ≤ tgt := by have h3 : A ≤ A ||| tgt := Nat.left_le_or; omega
  intro k
  induction k with
  | zero =>
    intro c U g f hc hU hcnt kp hf hP
    have hdg := hd.kp kp (fun i k hi => decide_eq_false (by unfold pc_rl at hi; unfold pc_lo at hL; omega))
    obtain ⟨q1, q2, q3, q4, q5, q6⟩ := hP
    rw [e168_6, pc_lch hL, show am_I g L 12 = nI (pw_n d 1) from hdg.1 1 (by omega), if_pos (nI_le (show pw_n d 1 ≤ c by omega) (by omega))]
    refine ⟨g, rfl, kp, f, hf, q1, q2, fun i j hi hj h6 => ?_, q5, q6⟩
    cases hu : U.testBit i with
    | true => exact q4 i j hi hj hu
    | false =>
      have := (br_cnt (f := fun i => U.testBit i) (g := fun _ => true) (n := pw_n d 1) (fun _ _ _ => rfl)).2 ⟨i, hi, hu, rfl⟩
      rw [pt_cnt_all (f := fun _ => true) (fun _ _ => rfl)] at this
      omega
  | succ k ih =>
    intro c U g f hc hU hcnt kp hf hP
    have hdg := hd.kp kp (fun i k hi => decide_eq_false (by unfold pc_rl at hi; unfold pc_lo at hL; omega))
    obtain ⟨q1, q2, q3, q4, q5, q6⟩ := hP
    have hmin := pz_arg_min (wk_F f A U) 96 (pw_n d 1)
    rw [e168_6, pc_lch hL, show am_I g L 12 = nI (pw_n d 1) from hdg.1 1 (by omega), if_neg (nI_ge (show c < pw_n d 1 by omega) (by omega)), pc_lch hL, s169 h9 (show A * 9 + 9 ≤ N by omega) (by omega) hU hf, am_bI_ok]
    rcases pz_arg_or (wk_F f A U) 96 (pw_n d 1) with e0 | ⟨o1, o2, o3⟩
    · rw [e0, if_pos (show pn_o (1000, 96).1 20 = (-1 : Int32) from rfl)]
      refine ⟨g, rfl, kp, f, hf, q1, q2, fun i j hi hj h6 => ?_, q5, q6⟩
      cases hu : U.testBit i with
      | true => exact q4 i j hi hj hu
      | false =>
        have := hmin i hi
        rw [e0] at this
        unfold wk_F at this
        rw [if_neg (by rw [hu]; decide)] at this
        exact absurd this (by show ¬ 96 ≤ _; omega)
    · generalize hx : (pz_arg (wk_F f A U) 96 (pw_n d 1)).1 = x at o1 o2
      generalize ht : (pz_arg (wk_F f A U) 96 (pw_n d 1)).2 = t at o2 o3 hmin
      have hux : U.testBit x = false := by
        cases hu : U.testBit x with
        | false => rfl
        | true => unfold wk_F at o2; rw [if_pos hu] at o2; omega
      have htx : t = f (A * 9 + x) := by rw [o2]; unfold wk_F; rw [if_neg (by rw [hux]; decide)]
      have hunv : ∀ i, i < pw_n d 1 → U.testBit i = false → t ≤ f (A * 9 + i) := fun i hi hu => by
        have := hmin i hi
        unfold wk_F at this
        rwa [if_neg (by rw [hu]; decide)] at this
      have hvis : ∀ i, i < pw_n d 1 → U.testBit i = true → f (A * 9 + i) ≤ t := fun i hi hu => by rw [htx]; exact q3 i x hi o1 hu hux
      rw [show pn_o x 20 = nI x from if_pos (by omega), if_neg (pz_neg1 (by omega)), pk_mul, nI_add, at_ok (r := 39) (n := 4608) rfl (by omega) (by omega) (show A * 9 + x < 4608 by omega), am_bI_ok, (hf (A * 9 + x) (by omega)).2, ← htx, pb_1 (by omega), pz_or]
      have hU2 : (U ||| 2 ^ x) < 512 := Nat.or_lt_two_pow (n := 9) hU (Nat.pow_lt_pow_right (by omega) (by omega))
      have hux2 : ∀ i, (U ||| 2 ^ x).testBit i = false → U.testBit i = false ∧ x ≠ i := fun i hi => by
        rw [pt_bit] at hi
        cases hu : U.testBit i with
        | true => rw [hu, Bool.true_or] at hi; exact absurd hi (by decide)
        | false => rw [hu, Bool.false_or] at hi; exact ⟨rfl, of_decide_eq_false hi⟩
      have hux3 : ∀ i, (U ||| 2 ^ x).testBit i = true → U.testBit i = true ∨ i = x := fun i hi => by
        rw [pt_bit, Bool.or_eq_true, decide_eq_true_iff] at hi
        rcases hi with h | h
        · exact Or.inl h
        · exact Or.inr h.symm
      have hgW : wk_W g d S p := hW.kp kp
      have hxx : (U ||| 2 ^ x).testBit x = true := by rw [pt_bit, decide_eq_true rfl, Bool.or_true]
      obtain ⟨g2, f2, e2, k2, r2, p1, p2, p3, p4, p5, p6, p7⟩ := s168_63 (h := g) (x0 := x0) (s0 := s0) (f1 := f) (A := A) (x := x) (t := t) (U := U ||| 2 ^ x) (c := c) hL ho hdg hgW hA htg hN o1 o3 htx (fun i hi hu => by
        rcases hux3 i hu with h | h
        · exact hvis i hi h
        · rw [h, ← htx]; exact Nat.le_refl _) (pw_n d 1) 0 g f (by omega) (am_kp.refl _ _) hf ⟨q1, q2, fun i hi _ => rfl, fun i hi hu => hunv i hi (hux2 i hu).1, fun k hk => absurd hk (Nat.not_lt_zero k), fun v _ => rfl, fun v => Nat.le_refl _⟩
      have e2' : am_vn am_M 2 168 63 [some (.ref 37), some (.ref L), some (.int (nI tgt)), some (.int (nI A)), some (.int (nI (U ||| 2 ^ x))), some (.int (nI c)), some (.int (nI x)), some (.int (nI t)), some (.int (nI 0)), none] [] g = _ := e2
      rw [e2']
      refine ih (c + 1) (U ||| 2 ^ x) g2 f2 (by omega) hU2 (by rw [pt_cnt_set o1 hux, hcnt]) (kp.trans k2) r2 ⟨p1, p2, fun i j hi hj hui huj => ?_, fun i j hi hj hui => ?_, fun v hv => (p6 v hv).trans (q5 v hv), fun v => Nat.le_trans (p7 v) (q6 v)⟩
      · have h1 := p3 i hi (hux3 i hui |>.elim (fun h => Or.inl hui) Or.inr)
        have h2 := p4 j hj huj
        have h3 : f (A * 9 + i) ≤ t := by
          rcases hux3 i hui with h | h
          · exact hvis i hi h
          · rw [h, ← htx]; exact Nat.le_refl _
        omega
      · have h1 := p3 i hi (Or.inl hui)
        rw [h1]
        rcases hux3 i hui with h | h
        · exact Nat.le_trans (p7 _) (q4 i j hi hj h)
        · rw [h, ← htx]; exact p5 j hj
theorem s168 {f : Nat → Nat} {A : Nat} (hL : pc_lo L) (ho : pw_ok d) (hd : pc_L h L d) (hW : wk_W h d S p) (hA : A ||| tgt = tgt) (htg : tgt < 512) (hN : N = tgt * 9 + 9) (hf : wk_39 h N f) (q1 : wk_ju (wk_e d S p tgt) N x0 s0 f) (q2 : f x0 ≤ s0) :
    am_RV (am_run am_M 168 [.ref 37, .ref L, .int (nI tgt), .int (nI A)] h) (fun g' => am_kp (fun i _ => decide (i = 39)) h g' ∧ ∃ f', wk_39 g' N f' ∧ wk_ju (wk_e d S p tgt) N x0 s0 f' ∧ f' x0 ≤ s0 ∧ wk_cA d S p tgt A f' ∧ (∀ v, v < A * 9 → f' v = f v) ∧ ∀ v, f' v ≤ f v) := by
  rw [e168]
  exact s168_6 hL ho hd hW hA htg hN (pw_n d 1) 0 0 h f (by omega) (by omega) (pz_cnt_zero (fun k _ => Nat.zero_testBit k)) (am_kp.refl _ _) hf ⟨q1, q2, fun i j _ _ hu => by rw [Nat.zero_testBit] at hu; exact absurd hu (by decide), fun i j _ _ hu => by rw [Nat.zero_testBit] at hu; exact absurd hu (by decide), fun v _ => rfl, fun v => Nat.le_refl _⟩
end
