/-! WALKS in the class: the nearest first, set by set -/
theorem pz_arg_min (F : Nat → Nat) (m : Nat) : ∀ (n j : Nat), j < n → (pz_arg F m n).2 ≤ F j
  | 0, j, h => absurd h (Nat.not_lt_zero j)
  | n + 1, j, h => by
    rw [pz_arg]
    by_cases e : j = n
    · subst e
      split
      · exact Nat.le_refl _
      · omega
    · have := pz_arg_min F m n j (by omega)
      split
      · rename_i c; show F n ≤ _; omega
      · exact this
def wk_F (f : Nat → Nat) (A U : Nat) (i : Nat) : Nat := if U.testBit i = true then 96 else f (A * 9 + i)
/-- where a step to place v leads in the set A -/
def wk_to (tgt A v : Nat) : Nat := (A ||| (tgt &&& 2 ^ v)) * 9 + v
def wk_e (d : pw_L) (S : Nat → Nat) (p tgt a v s : Nat) : Nat := if v = wk_to tgt (a / 9) (v % 9) ∧ a % 9 < pw_n d 1 ∧ v % 9 < pw_n d 1 then wk_s d S p (a % 9) (v % 9) s else 96
theorem wk_e_T (d : pw_L) (S : Nat → Nat) (p tgt : Nat) : wk_T (wk_e d S p tgt) := by
  have h := wk_s_T d S p
  refine ⟨fun a v s hs => ?_, fun a v s r hs => ?_⟩
  · unfold wk_e
    split
    · exact h.1 _ _ s hs
    · exact hs
  · unfold wk_e
    split
    · exact h.2 _ _ s r hs
    · exact Nat.le_refl _
theorem wk_to_ok {tgt A v : Nat} (hA : A ||| tgt = tgt) (hv : v < 9) : (A ||| (tgt &&& 2 ^ v)) ||| tgt = tgt ∧ A ≤ (A ||| (tgt &&& 2 ^ v)) ∧ (A ||| (tgt &&& 2 ^ v)) ≤ tgt := by
  have h1 : (A ||| (tgt &&& 2 ^ v)) ||| tgt = tgt := by
    apply Nat.eq_of_testBit_eq
    intro i
    have hi : (A ||| tgt).testBit i = tgt.testBit i := by rw [hA]
    rw [Nat.testBit_or] at hi
    rw [Nat.testBit_or, Nat.testBit_or, Nat.testBit_and]
    cases ha : A.testBit i <;> cases ht : tgt.testBit i <;> rw [ha, ht] at hi <;> simp_all
  have h3 : (A ||| (tgt &&& 2 ^ v)) ≤ (A ||| (tgt &&& 2 ^ v)) ||| tgt := Nat.left_le_or
  exact ⟨h1, Nat.left_le_or, by omega⟩
section
variable {h : am_H} {d : pw_L} {S : Nat → Nat} {p L tgt x0 s0 N : Nat}
theorem s169 {f : Nat → Nat} {A U n : Nat} (hn : n ≤ 9) (hA : A * 9 + 9 ≤ N) (hN : N ≤ 4608) (hU : U < 512) (h39 : wk_39 h N f) : am_run am_M 169 [.ref 37, .int (nI n), .int (nI A), .int (nI U)] h = some (.inl (some (.int (pn_o (pz_arg (wk_F f A U) 96 n).1 20))), h) := by
  rw [e169]
  obtain ⟨g, e, hp⟩ := am_for0 (fun k (g : am_H) => am_vn am_M 1 169 10 [some (.ref 37), some (.int (nI n)), some (.int (nI A)), some (.int (nI U)), some (.int (pn_o (pz_arg (wk_F f A U) 96 k).1 20)), some (.int (nI (pz_arg (wk_F f A U) 96 k).2)), some (.int (nI k)), none] [] g) (fun _ g => g = h) n h rfl (fun k g hk hg => by
    subst hg
    have hle := pz_arg_le (wk_F f A U) 96 k
    have fv := h39 (A * 9 + k) (by omega)
    refine ⟨g, ?_, rfl⟩
    rw [e169_10, if_neg (nI_ge hk (by omega)), pk_mul, nI_add, at_ok (r := 39) (n := 4608) rfl (by omega) (by omega) (show A * 9 + k < 4608 by omega), am_bI_ok, fv.2, pz_bit (by omega) (by omega), pz_arg]
    cases c : U.testBit k with
    | true =>
      have e1 : wk_F f A U k = 96 := by unfold wk_F; rw [if_pos c]
      rw [if_neg (show ¬ nI (if true = true then 1 else 0) = 0 by decide), pz_succ, e1, if_neg (by omega)]
    | false =>
      have e1 : wk_F f A U k = f (A * 9 + k) := by unfold wk_F; rw [if_neg (by rw [c]; decide)]
      rw [if_pos (show nI (if false = true then 1 else 0) = 0 by decide), e1]
      by_cases cl : f (A * 9 + k) < (pz_arg (wk_F f A U) 96 k).2
      · rw [if_neg (nI_ge cl (by omega)), if_pos cl, pz_succ, show pn_o (k, f (A * 9 + k)).1 20 = nI k from if_pos (by show k ≤ 20; omega)]
      · rw [if_pos (nI_le (by omega) (by omega)), if_neg cl, pz_succ])
  subst hp
  refine e.trans ?_
  rw [e169_10, if_pos (nI_le (Nat.le_refl _) (by omega))]
/-- waits of all places -/
def wk_W (g : am_H) (d : pw_L) (S : Nat → Nat) (p : Nat) : Prop := ∀ a, a < pw_n d 1 → wk_38 g (pa_ok d S p a) a
theorem wk_W.kp {g : am_H} (hW : wk_W h d S p) (k : am_kp (fun i _ => decide (i = 39)) h g) : wk_W g d S p := fun a ha hr hh => by rw [k.get _ _ (decide_eq_false (by omega))]; exact hW a ha hr hh
/-- while the steps from (A, x) at hour t are looked at, up to place j -/
def wk_rx (d : pw_L) (S : Nat → Nat) (p tgt x0 s0 N A x t U : Nat) (f1 f : Nat → Nat) (j : Nat) : Prop := wk_ju (wk_e d S p tgt) N x0 s0 f ∧ f x0 ≤ s0 ∧ (∀ i, i < pw_n d 1 → (U.testBit i = true ∨ i = x) → f (A * 9 + i) = f1 (A * 9 + i)) ∧ (∀ i, i < pw_n d 1 → U.testBit i = false → t ≤ f (A * 9 + i)) ∧ (∀ k, k < j → f (wk_to tgt A k) ≤ wk_s d S p x k t) ∧ (∀ v, v < A * 9 → f v = f1 v) ∧ ∀ v, f v ≤ f1 v
theorem s168_63 {f1 : Nat → Nat} {A x t U c : Nat} (hL : pc_lo L) (ho : pw_ok d) (hd : pc_L h L d) (hW : wk_W h d S p) (hA : A ||| tgt = tgt) (htg : tgt < 512) (hN : N = tgt * 9 + 9) (hx : x < pw_n d 1) (ht : t < 96) (htf : t = f1 (A * 9 + x)) (hvis : ∀ i, i < pw_n d 1 → U.testBit i = true → f1 (A * 9 + i) ≤ t) :
    ∀ (k j : Nat) (g : am_H) (f : Nat → Nat), j + k = pw_n d 1 → am_kp (fun i _ => decide (i = 39)) h g → wk_39 g N f → wk_rx d S p tgt x0 s0 N A x t U f1 f j →
    ∃ g' f', am_vn am_M 2 168 63 [some (.ref 37), some (.ref L), some (.int (nI tgt)), some (.int (nI A)), some (.int (nI U)), some (.int (nI c)), some (.int (nI x)), some (.int (nI t)), some (.int (nI j)), none] [] g = am_vn am_M 2 168 6 [some (.ref 37), some (.ref L), some (.int (nI tgt)), some (.int (nI A)), some (.int (nI U)), some (.int (nI (c + 1))), none, none, none, none] [] g' ∧ am_kp (fun i _ => decide (i = 39)) h g' ∧ wk_39 g' N f' ∧ wk_rx d S p tgt x0 s0 N A x t U f1 f' (pw_n d 1) := by
  have h9 := ho.1.2.1
  intro k
  induction k with
  | zero =>
    intro j g f hj kp hf hP
    have hdg := hd.kp kp (fun i k hi => decide_eq_false (by unfold pc_rl at hi; unfold pc_lo at hL; omega))
    rw [e168_63, pc_lch hL, show am_I g L 12 = nI (pw_n d 1) from hdg.1 1 (by omega), if_pos (nI_le (show pw_n d 1 ≤ j by omega) (by omega)), pz_succ]
    rw [show j = pw_n d 1 by omega] at hP
    exact ⟨g, f, rfl, kp, hf, hP⟩
  | succ k ih =>
    intro j g f hj kp hf hP
    have hdg := hd.kp kp (fun i k hi => decide_eq_false (by unfold pc_rl at hi; unfold pc_lo at hL; omega))
    have hjn : j < pw_n d 1 := by omega
    have t9 := (ho.2.2.2.2.1 x j (by omega) (by omega)).1
    obtain ⟨q1, q2, q3, q4, q5, q6, q7⟩ := hP
    have hto := wk_to_ok (v := j) hA (by omega)
    have hlt : wk_to tgt A j < N := by unfold wk_to; omega
    have hfv := hf _ hlt
    have hTx := (wk_s_T d S p).1 x j t ht
    rw [e168_63, pc_lch hL, show am_I g L 12 = nI (pw_n d 1) from hdg.1 1 (by omega), if_neg (nI_ge hjn (by omega)), pc_lch hL, s95 hL (show x * 9 + j < 81 by omega), am_bI_ok, hdg.2.2.2.2.1 _ (by omega)]
    by_cases t0 : pw_t d 5 (x * 9 + j) = 0
    · rw [if_pos (by rw [t0]; decide), pz_succ]
      have e0 : wk_s d S p x j t = 96 := by unfold wk_s; rw [if_pos t0]
      exact ih (j + 1) g f (by omega) kp hf ⟨q1, q2, q3, q4, fun i hi => by
        by_cases e : i = j
        · rw [e, e0]; exact hfv.1
        · exact q5 i (by omega), q6, q7⟩
    · have e0 : wk_s d S p x j t = wk_n (pa_ok d S p j) (t + pw_t d 5 (x * 9 + j)) := by unfold wk_s; rw [if_neg t0]
      obtain ⟨g2, e2, k2, f2⟩ := s170 (A := (A ||| (tgt &&& 2 ^ j))) (a := j) (r := t + pw_t d 5 (x * 9 + j)) (by omega) hlt (by omega) (by omega) (hW.kp kp j hjn) hf
      rw [← e0] at f2
      rw [if_neg (nI_nle (by omega) (by omega)), pb_1 (by omega), pz_and, pz_or, nI_add, e2, am_bV_ok, pz_succ]
      have f2' : wk_39 g2 N (if wk_s d S p x j t < f (wk_to tgt A j) then pu f (wk_to tgt A j) (wk_s d S p x j t) else f) := f2
      by_cases cl : wk_s d S p x j t < f (wk_to tgt A j)
      · rw [if_pos cl] at f2'
        have hA9 : (A * 9 + x) / 9 = A ∧ (A * 9 + x) % 9 = x ∧ wk_to tgt A j % 9 = j := by unfold wk_to; omega
        have hste : wk_e d S p tgt (A * 9 + x) (wk_to tgt A j) t = wk_s d S p x j t := by
          unfold wk_e
          rw [hA9.1, hA9.2.1, hA9.2.2, if_pos ⟨rfl, hx, hjn⟩]
        have hfx : f (A * 9 + x) = t := by rw [q3 x hx (Or.inr rfl), htf]
        have hAle : A ≤ tgt := by omega
        have nov : ∀ i, i < pw_n d 1 → (U.testBit i = true ∨ i = x) → A * 9 + i ≠ wk_to tgt A j := fun i hi hu e => by
          have h1 := q3 i hi hu
          have h2 : f1 (A * 9 + i) ≤ t := by
            rcases hu with hu | hu
            · exact hvis i hi hu
            · rw [hu, ← htf]; exact Nat.le_refl _
          rw [← e] at cl
          omega
        refine ih (j + 1) g2 _ (by omega) (kp.trans k2) f2' ⟨fun v hv h6 => ?_, ?_, fun i hi hu => ?_, fun i hi hu => ?_, fun i hi => ?_, fun v hv => ?_, fun v => ?_⟩
        · unfold pu at h6 ⊢
          by_cases e : v = wk_to tgt A j
          · rw [if_pos e] at h6 ⊢
            have hr := (q1 (A * 9 + x) (by omega) (by omega)).step (by omega) hlt (by omega)
            rw [hfx, hste] at hr
            rw [e]; exact hr
          · rw [if_neg e] at h6 ⊢; exact q1 v hv h6
        · unfold pu
          split
          · rename_i e; rw [e] at q2; omega
          · exact q2
        · rw [pu_n _ _ (nov i hi hu)]; exact q3 i hi hu
        · unfold pu
          split
          · omega
          · exact q4 i hi hu
        · unfold pu
          by_cases e : wk_to tgt A i = wk_to tgt A j
          · have hij : i = j := by
              have : wk_to tgt A i % 9 = i ∧ wk_to tgt A j % 9 = j := by unfold wk_to; omega
              omega
            rw [if_pos e, hij]; exact Nat.le_refl _
          · rw [if_neg e]
            by_cases e2 : i = j
            · exact absurd (by rw [e2]) e
            · exact q5 i (by omega)
        · rw [pu_n _ _ (by unfold wk_to; omega)]; exact q6 v hv
        · unfold pu
          split
          · rename_i e; rw [e]; have := q7 (wk_to tgt A j); omega
          · exact q7 v
      · rw [if_neg cl] at f2'
        exact ih (j + 1) g2 f (by omega) (kp.trans k2) f2' ⟨q1, q2, q3, q4, fun i hi => by
          by_cases e : i = j
          · rw [e]; omega
          · exact q5 i (by omega), q6, q7⟩
end
