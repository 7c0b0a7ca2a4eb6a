/-! WALKS in the model, with errands: one place's steps -/
section
variable {h : am_H} {d : pw_L} {S : Nat → Nat} {p tgt x0 s0 N : Nat}
def wk_93 (g : am_H) (N : Nat) (f : Nat → Nat) : Prop := ∀ v, v < N → f v ≤ 96 ∧ am_I g 93 v = nI (wk_9 (f v))
def wk_sA (f : Nat → Nat) (A : Nat) : Nat := wk_su (fun i => f (A * 9 + i)) 9
theorem wk_m.kp93 {g : am_H} (hm : wk_m h d S) (k : am_kp (ps_w 93) h g) : wk_m g d S := by
  refine ⟨hm.1.kp k (fun i k hi => ps_w_f (ps_m_f (by omega)) (by omega)), hm.2.1.kp k (fun k => ps_w_f (ps_m_f (by omega)) (by omega)), ?_⟩
  rw [k.get 60 61 (ps_w_f (ps_m_f (by omega)) (by omega))]; exact hm.2.2
def wk_q (d : pw_L) (S : Nat → Nat) (p tgt x0 s0 N A x : Nat) (f1 f : Nat → Nat) (c j : Nat) : Prop := wk_ju (wk_e d S p tgt) N x0 s0 f ∧ f x0 ≤ s0 ∧ (∀ v, v < A * 9 → f v = f1 v) ∧ (∀ v, f v ≤ f1 v) ∧ f (A * 9 + x) = f1 (A * 9 + x) ∧ (f1 (A * 9 + x) < 96 → ∀ k, k < j → f (wk_to tgt A k) ≤ wk_s d S p x k (f1 (A * 9 + x))) ∧ c ≤ 1 ∧ (c = 0 → ∀ i, i < 9 → f (A * 9 + i) = f1 (A * 9 + i)) ∧ (c = 1 → wk_sA f A < wk_sA f1 A) ∧ wk_sA f A ≤ wk_sA f1 A
theorem wk_c1 {c : Nat} (h : c ≤ 1) : nI c &&& 1 = nI c := by
  have : c = 0 ∨ c = 1 := by omega
  rcases this with rfl | rfl <;> decide
theorem s256_19 {f1 : Nat → Nat} {A x : Nat} (hm : wk_m h d S) (ho : pw_ok d) (hb : pw_S S) (h0 : S 0 < 100000) (hp : p < pw_n d 3) (hx : x < pw_n d 1) (hA : A ||| tgt = tgt) (htg : tgt < 512) (hN : N = tgt * 9 + 9) (h96 : f1 (A * 9 + x) ≤ 96) :
    ∀ (k j c : Nat) (g : am_H) (f : Nat → Nat), j + k = pw_n d 1 → am_kp (ps_w 93) h g → wk_93 g N f → wk_q d S p tgt x0 s0 N A x f1 f c j →
    am_RI (am_vn am_M 4 256 19 [some (.ref 60), some (.int (nI p)), some (.int (nI A)), some (.int (nI x)), some (.int (nI tgt)), some (.int (nI (wk_9 (f1 (A * 9 + x))))), some (.int (nI c)), some (.int (nI j)), none, none] [] g) (fun u g' => am_kp (ps_w 93) h g' ∧ ∃ c' f', u = nI c' ∧ wk_93 g' N f' ∧ wk_q d S p tgt x0 s0 N A x f1 f' c' (pw_n d 1)) := by
  have h9 := ho.1.2.1
  intro k
  induction k with
  | zero =>
    intro j c g f hj kp hf hP
    have hmg := hm.kp93 kp
    rw [e256_19, show am_I g 60 2 = nI (pw_n d 1) from hmg.1.1 1 (by omega), if_pos (nI_le (show pw_n d 1 ≤ j by omega) (by omega)), if_pos (wk_c1 hP.2.2.2.2.2.2.1)]
    rw [show j = pw_n d 1 by omega] at hP
    exact ⟨_, g, rfl, kp, c, f, rfl, hf, hP⟩
  | succ k ih =>
    intro j c g f hj kp hf hP
    have hmg := hm.kp93 kp
    have hjn : j < pw_n d 1 := by omega
    obtain ⟨q1, q2, q3, q4, q5, q6, q7, q8, q9, q10⟩ := hP
    have t9 := (ho.2.2.2.2.1 x j (by omega) (by omega)).1
    have hto := wk_to_ok (v := j) hA (by omega)
    have hlt : wk_to tgt A j < N := by unfold wk_to; omega
    have hAle : A ≤ tgt := by omega
    have hfv := hf _ hlt
    rw [e256_19, show am_I g 60 2 = nI (pw_n d 1) from hmg.1.1 1 (by omega), if_neg (nI_ge hjn (by omega))]
    by_cases c96 : f1 (A * 9 + x) < 96
    · generalize ht : f1 (A * 9 + x) = t at q5 q6 c96 h96
      have e9 : wk_9 t = t := if_pos c96
      have hTx := (wk_s_T d S p).1 x j t c96
      have step : ∀ (g2 : am_H), am_kp (ps_w 93) h g2 → wk_93 g2 N f → f (wk_to tgt A j) ≤ wk_s d S p x j t → am_RI (am_vn am_M 4 256 19 [some (.ref 60), some (.int (nI p)), some (.int (nI A)), some (.int (nI x)), some (.int (nI tgt)), some (.int (nI (wk_9 (f1 (A * 9 + x))))), some (.int (nI c)), some (.int (nI (j + 1))), none, none] [] g2) (fun u g' => am_kp (ps_w 93) h g' ∧ ∃ c' f', u = nI c' ∧ wk_93 g' N f' ∧ wk_q d S p tgt x0 s0 N A x f1 f' c' (pw_n d 1)) := fun g2 k2 f2 hle => by
        refine ih (j + 1) c g2 f (by omega) k2 f2 ⟨q1, q2, q3, q4, by rw [ht]; exact q5, fun _ i hi => ?_, q7, q8, q9, q10⟩
        rw [ht]
        by_cases e : i = j
        · rw [e]; exact hle
        · exact q6 c96 i (by omega)
      rw [ht] at step
      rw [e9] at step ⊢
      rw [if_neg (nI_ge (by omega) (by omega)), pk_mul, nI_add, Nat.mul_comm 9 x, ml_64 (show x * 9 + j < 81 by omega), hmg.1.2.2.2.2.1 _ (by omega)]
      by_cases t0 : pw_t d 5 (x * 9 + j) = 0
      · have e0 : wk_s d S p x j t = 96 := by unfold wk_s; rw [if_pos t0]
        rw [if_pos (by rw [t0]; rfl), pz_succ]
        exact step g kp hf (by rw [e0]; exact hfv.1)
      · have e0 : wk_s d S p x j t = wk_n (pa_ok d S p j) (t + pw_t d 5 (x * 9 + j)) := by unfold wk_s; rw [if_neg t0]
        obtain ⟨u, g2, e2, hu, k2⟩ := s250 (v := j) (s := t) (t := pw_t d 5 (x * 9 + j)) hmg ho hb h0 hp hjn (by omega)
        have kp2 : am_kp (ps_w 93) h g2 := kp.trans (k2.up fun i k hs => ps_wm 93 hs)
        have hf2 : wk_93 g2 N f := fun v hv => ⟨(hf v hv).1, by rw [k2.get 93 v (ps_m_f (by omega))]; exact (hf v hv).2⟩
        have hs96 := wk_s_96 d S p x j t
        have l9 := wk_9_le (wk_s d S p x j t)
        have l9v := wk_9_le (f (wk_to tgt A j))
        have hcell : 9 * (A ||| (tgt &&& 2 ^ j)) + j = wk_to tgt A j := by unfold wk_to; omega
        have hlt9 := wk_9_lt hs96 hfv.1
        rw [if_neg (nI_ne0 (by omega) (by omega)), ml_64 (show x * 9 + j < 81 by omega), hmg.1.2.2.2.2.1 _ (by omega), e2, am_bI_ok, hu, ← e0, pb_1 (by omega), pz_and, pz_or, pk_mul, nI_add, hcell, ml_93 (show wk_to tgt A j < 4608 by omega), (hf2 _ hlt).2]
        by_cases cl : wk_s d S p x j t < f (wk_to tgt A j)
        · rw [if_pos (nI_lt (hlt9.mpr cl) (by omega)), ms_93 (show wk_to tgt A j < 4608 by omega)]
          have hA9 : (A * 9 + x) / 9 = A ∧ (A * 9 + x) % 9 = x ∧ wk_to tgt A j % 9 = j := by unfold wk_to; omega
          have hste : wk_e d S p tgt (A * 9 + x) (wk_to tgt A j) t = wk_s d S p x j t := by
            unfold wk_e
            rw [hA9.1, hA9.2.1, hA9.2.2, if_pos ⟨rfl, hx, hjn⟩]
          have hxne : A * 9 + x ≠ wk_to tgt A j := fun e => by rw [← e] at cl; omega
          have k3 : am_kp (ps_w 93) h (am_sI g2 93 (wk_to tgt A j) (nI (wk_9 (wk_s d S p x j t)))) := kp2.sI _ (ps_w_r 93 _)
          have f3 : wk_93 (am_sI g2 93 (wk_to tgt A j) (nI (wk_9 (wk_s d S p x j t)))) N (pu f (wk_to tgt A j) (wk_s d S p x j t)) := fun v hv => by
            rw [am_I_sc]
            unfold pu
            by_cases e : v = wk_to tgt A j
            · rw [if_pos (show 93 = 93 ∧ v = wk_to tgt A j from ⟨rfl, e⟩), if_pos e]; exact ⟨hs96, rfl⟩
            · rw [if_neg (show ¬ (93 = 93 ∧ v = wk_to tgt A j) from fun h => e h.2), if_neg e]; exact hf2 v hv
          have r1 : wk_ju (wk_e d S p tgt) N x0 s0 (pu f (wk_to tgt A j) (wk_s d S p x j t)) := fun v hv h6 => by
            unfold pu at h6 ⊢
            by_cases e : v = wk_to tgt A j
            · rw [if_pos e] at h6 ⊢
              have hr := (q1 (A * 9 + x) (by omega) (by omega)).step (by omega) hlt (by omega)
              rw [q5, hste] at hr
              rw [e]; exact hr
            · rw [if_neg e] at h6 ⊢; exact q1 v hv h6
          have r2 : pu f (wk_to tgt A j) (wk_s d S p x j t) x0 ≤ s0 := by
            unfold pu
            split
            · rename_i e; rw [e] at q2; omega
            · exact q2
          have r3 : ∀ v, v < A * 9 → pu f (wk_to tgt A j) (wk_s d S p x j t) v = f1 v := fun v hv => by
            rw [pu_n _ _ (by unfold wk_to; omega)]; exact q3 v hv
          have r4 : ∀ v, pu f (wk_to tgt A j) (wk_s d S p x j t) v ≤ f1 v := fun v => by
            unfold pu
            split
            · rename_i e; rw [e]; have := q4 (wk_to tgt A j); omega
            · exact q4 v
          have r5 : pu f (wk_to tgt A j) (wk_s d S p x j t) (A * 9 + x) = f1 (A * 9 + x) := by rw [pu_n _ _ hxne, ht]; exact q5
          have r6 : f1 (A * 9 + x) < 96 → ∀ k, k < j + 1 → pu f (wk_to tgt A j) (wk_s d S p x j t) (wk_to tgt A k) ≤ wk_s d S p x k (f1 (A * 9 + x)) := fun _ i hi => by
            rw [ht]
            unfold pu
            by_cases e : wk_to tgt A i = wk_to tgt A j
            · have hij : i = j := by
                have : wk_to tgt A i % 9 = i ∧ wk_to tgt A j % 9 = j := by unfold wk_to; omega
                omega
              rw [if_pos e, hij]; exact Nat.le_refl _
            · rw [if_neg e]
              by_cases e2 : i = j
              · exact absurd (by rw [e2]) e
              · exact q6 c96 i (by omega)
          by_cases eB : (A ||| (tgt &&& 2 ^ j)) = A
          · have hcA : wk_to tgt A j = A * 9 + j := by unfold wk_to; rw [eB]
            have hsum : wk_sA (pu f (wk_to tgt A j) (wk_s d S p x j t)) A < wk_sA f A := by
              unfold wk_sA
              rw [hcA] at cl ⊢
              rw [wk_su_cong (g := pu (fun i => f (A * 9 + i)) j (wk_s d S p x j t)) (fun k _ => by
                unfold pu
                by_cases e : k = j
                · rw [if_pos (show A * 9 + k = A * 9 + j by omega), if_pos e]
                · rw [if_neg (show ¬ A * 9 + k = A * 9 + j by omega), if_neg e])]
              exact wk_su_pu (f := fun i => f (A * 9 + i)) cl (by omega)
            have nx := ih (j + 1) 1 _ _ (by omega) k3 f3 ⟨r1, r2, r3, r4, r5, r6, Nat.le_refl _, fun h => absurd h (by omega), fun _ => by omega, by omega⟩
            rw [ht, e9] at nx
            by_cases c0 : c = 0
            · rw [if_pos (show nI c = 0 by rw [c0]; rfl), if_pos (show nI (A ||| (tgt &&& 2 ^ j)) = nI A by rw [eB]), pz_succ]
              exact nx
            · rw [if_neg (nI_ne0 (by omega) (by omega)), pz_succ]
              exact nx
          · have hcell2 : ∀ i, i < 9 → pu f (wk_to tgt A j) (wk_s d S p x j t) (A * 9 + i) = f (A * 9 + i) := fun i hi => pu_n _ _ (fun e => eB (by unfold wk_to at e; omega))
            have hsum : wk_sA (pu f (wk_to tgt A j) (wk_s d S p x j t)) A = wk_sA f A := wk_su_cong (fun i hi => hcell2 i hi)
            have nx := ih (j + 1) c _ _ (by omega) k3 f3 ⟨r1, r2, r3, r4, r5, r6, q7, fun h i hi => by rw [hcell2 i hi]; exact q8 h i hi, fun h => by rw [hsum]; exact q9 h, by rw [hsum]; exact q10⟩
            rw [ht, e9] at nx
            by_cases c0 : c = 0
            · rw [if_pos (show nI c = 0 by rw [c0]; rfl), if_neg (fun e => eB ((nI_eq (by omega) (by omega)).mp e)), pz_succ]
              rw [c0] at nx
              exact nx
            · rw [if_neg (nI_ne0 (by omega) (by omega)), pz_succ]
              rw [show c = 1 by omega] at nx
              exact nx
        · rw [if_neg (nI_nlt (show wk_9 (f (wk_to tgt A j)) ≤ wk_9 (wk_s d S p x j t) by omega) (by omega)), pz_succ]
          exact step g2 kp2 hf2 (by omega)
    · have e9 : wk_9 (f1 (A * 9 + x)) = 9999 := if_neg c96
      rw [e9, if_pos (nI_le (Nat.le_refl _) (by omega)), if_pos (wk_c1 q7)]
      exact ⟨_, g, rfl, kp, c, f, rfl, hf, q1, q2, q3, q4, q5, fun h => absurd h c96, q7, q8, q9, q10⟩
end
