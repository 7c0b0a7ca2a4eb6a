/-! WALKS in the model, with errands: a set until nothing changes, all sets -/
section
variable {h : am_H} {d : pw_L} {S : Nat → Nat} {p tgt x0 s0 N : Nat}
theorem s256 {f : Nat → Nat} {A x : Nat} {g : am_H} (hm : wk_m h d S) (ho : pw_ok d) (hb : pw_S S) (h0 : S 0 < 100000) (hp : p < pw_n d 3) (hx : x < pw_n d 1) (hA : A ||| tgt = tgt) (htg : tgt < 512) (hN : N = tgt * 9 + 9) (kp : am_kp (ps_w 93) h g) (hf : wk_93 g N f) (q1 : wk_ju (wk_e d S p tgt) N x0 s0 f) (q2 : f x0 ≤ s0) :
    am_RI (am_run am_M 256 [.ref 60, .int (nI p), .int (nI A), .int (nI x), .int (nI tgt)] g) (fun u g' => am_kp (ps_w 93) h g' ∧ ∃ c' f', u = nI c' ∧ wk_93 g' N f' ∧ wk_q d S p tgt x0 s0 N A x f f' c' (pw_n d 1)) := by
  have h9 := ho.1.2.1
  have hAt : A ≤ tgt := by have h3 : A ≤ A ||| tgt := Nat.left_le_or; omega
  have fx := hf (A * 9 + x) (by omega)
  rw [e256, pk_mul, nI_add, Nat.mul_comm 9 A, ml_93 (show A * 9 + x < 4608 by omega), fx.2]
  exact s256_19 hm ho hb h0 hp hx hA htg hN fx.1 (pw_n d 1) 0 0 g f (by omega) kp hf ⟨q1, q2, fun _ _ => rfl, fun _ => Nat.le_refl _, rfl, fun _ k hk => absurd hk (Nat.not_lt_zero k), by omega, fun _ _ _ => rfl, fun h => absurd h (by omega), Nat.le_refl _⟩
def wk_z (d : pw_L) (S : Nat → Nat) (p tgt x0 s0 N A : Nat) (f0 f : Nat → Nat) (c x : Nat) : Prop := wk_ju (wk_e d S p tgt) N x0 s0 f ∧ f x0 ≤ s0 ∧ (∀ v, v < A * 9 → f v = f0 v) ∧ (∀ v, f v ≤ f0 v) ∧ c ≤ 1 ∧ (c = 0 → (∀ i, i < 9 → f (A * 9 + i) = f0 (A * 9 + i)) ∧ ∀ i j, i < x → j < pw_n d 1 → f (A * 9 + i) < 96 → f (wk_to tgt A j) ≤ wk_s d S p i j (f (A * 9 + i))) ∧ (c = 1 → wk_sA f A < wk_sA f0 A) ∧ wk_sA f A ≤ wk_sA f0 A
theorem s255_140 {f0 : Nat → Nat} {A : Nat} (hm : wk_m h d S) (ho : pw_ok d) (hb : pw_S S) (h0 : S 0 < 100000) (hp : p < pw_n d 3) (hA : A ||| tgt = tgt) (htg : tgt < 512) (hN : N = tgt * 9 + 9) :
    ∀ (k x c : Nat) (g : am_H) (f : Nat → Nat), x + k = pw_n d 1 → am_kp (ps_w 93) h g → wk_93 g N f → wk_z d S p tgt x0 s0 N A f0 f c x →
    ∃ g' f' c', am_vn am_M 5 255 140 [some (.ref 60), some (.int (nI p)), some (.int (nI tgt)), none, some (.int (nI A)), some (.int (nI c)), some (.int (nI x))] [] g = am_vn am_M 5 255 129 [some (.ref 60), some (.int (nI p)), some (.int (nI tgt)), none, some (.int (nI A)), some (.int (nI c')), none] [] g' ∧ am_kp (ps_w 93) h g' ∧ wk_93 g' N f' ∧ wk_z d S p tgt x0 s0 N A f0 f' c' (pw_n d 1) := by
  have h9 := ho.1.2.1
  intro k
  induction k with
  | zero =>
    intro x c g f hx kp hf hP
    have hmg := hm.kp93 kp
    rw [e255_140, show am_I g 60 2 = nI (pw_n d 1) from hmg.1.1 1 (by omega), if_pos (nI_le (show pw_n d 1 ≤ x by omega) (by omega))]
    rw [show x = pw_n d 1 by omega] at hP
    exact ⟨g, f, c, rfl, kp, hf, hP⟩
  | succ k ih =>
    intro x c g f hx kp hf hP
    have hmg := hm.kp93 kp
    have hxn : x < pw_n d 1 := by omega
    obtain ⟨q1, q2, q3, q4, q5, q6, q7, q8⟩ := hP
    obtain ⟨u, g2, e2, k2, c2, f2, rfl, r2, p1, p2, p3, p4, p5, p6, p7, p8, p9, p10⟩ := s256 hm ho hb h0 hp hxn hA htg hN kp hf q1 q2
    rw [e255_140, show am_I g 60 2 = nI (pw_n d 1) from hmg.1.1 1 (by omega), if_neg (nI_ge hxn (by omega)), e2, am_bI_ok]
    have b3 : ∀ v, v < A * 9 → f2 v = f0 v := fun v hv => (p3 v hv).trans (q3 v hv)
    have b4 : ∀ v, f2 v ≤ f0 v := fun v => Nat.le_trans (p4 v) (q4 v)
    by_cases c20 : c2 = 0
    · rw [if_pos (show nI c2 = 0 by rw [c20]; rfl)]
      have nx := ih (x + 1) c g2 f2 (by omega) k2 r2 ⟨p1, p2, b3, b4, q5, fun h => ⟨fun i hi => (p8 c20 i hi).trans ((q6 h).1 i hi), fun i j hi hj h6 => ?_⟩, fun h => by have := q7 h; omega, by omega⟩
      · by_cases c0 : c = 0
        · rw [if_pos (show nI c = 0 by rw [c0]; rfl), pz_succ]
          rw [c0] at nx
          exact nx
        · rw [if_neg (nI_ne0 (by omega) (by omega)), pz_succ]
          rw [show c = 1 by omega] at nx
          exact nx
      · by_cases e : i = x
        · rw [e] at h6 ⊢
          rw [p5] at h6 ⊢
          exact p6 h6 j hj
        · have e1 := p8 c20 i (by omega)
          rw [e1] at h6 ⊢
          exact Nat.le_trans (p4 _) ((q6 h).2 i j (by omega) hj h6)
    · rw [if_neg (nI_ne0 (by omega) (by omega)), pz_succ]
      have := p9 (by omega)
      exact ih (x + 1) 1 g2 f2 (by omega) k2 r2 ⟨p1, p2, b3, b4, Nat.le_refl _, fun h => absurd h (by omega), fun _ => by omega, by omega⟩
theorem s255_129 {A : Nat} (hm : wk_m h d S) (ho : pw_ok d) (hb : pw_S S) (h0 : S 0 < 100000) (hp : p < pw_n d 3) (hA : A ||| tgt = tgt) (htg : tgt < 512) (hN : N = tgt * 9 + 9) (f0 : Nat → Nat) :
    ∀ (m c : Nat) (g : am_H) (f : Nat → Nat), wk_sA f A + c < m → am_kp (ps_w 93) h g → wk_93 g N f → wk_ju (wk_e d S p tgt) N x0 s0 f → f x0 ≤ s0 → c ≤ 1 → (c = 0 → wk_cA d S p tgt A f) → (∀ v, v < A * 9 → f v = f0 v) → (∀ v, f v ≤ f0 v) →
    ∃ g' f', am_vn am_M 5 255 129 [some (.ref 60), some (.int (nI p)), some (.int (nI tgt)), none, some (.int (nI A)), some (.int (nI c)), none] [] g = am_vn am_M 5 255 108 [some (.ref 60), some (.int (nI p)), some (.int (nI tgt)), none, some (.int (nI (A + 1))), none, none] [] g' ∧ am_kp (ps_w 93) h g' ∧ wk_93 g' N f' ∧ wk_ju (wk_e d S p tgt) N x0 s0 f' ∧ f' x0 ≤ s0 ∧ wk_cA d S p tgt A f' ∧ (∀ v, v < A * 9 → f' v = f0 v) ∧ ∀ v, f' v ≤ f0 v := by
  intro m
  induction m with
  | zero => intro c g f hm; exact absurd hm (Nat.not_lt_zero _)
  | succ m ih =>
    intro c g f hlt kp hf q1 q2 q3 q4 q5 q6
    rw [e255_129]
    by_cases c0 : c = 0
    · rw [if_pos (show nI c = 0 by rw [c0]; rfl), pz_succ]
      exact ⟨g, f, rfl, kp, hf, q1, q2, q4 c0, q5, q6⟩
    · rw [if_neg (nI_ne0 (by omega) (by omega))]
      obtain ⟨g2, f2, c2, e2, k2, r2, p1, p2, p3, p4, p5, p6, p7, p8⟩ := s255_140 (x0 := x0) (s0 := s0) (f0 := f) hm ho hb h0 hp hA htg hN (pw_n d 1) 0 0 g f (by omega) kp hf ⟨q1, q2, fun _ _ => rfl, fun _ => Nat.le_refl _, by omega, fun _ => ⟨fun _ _ => rfl, fun i j hi => absurd hi (Nat.not_lt_zero i)⟩, fun h => absurd h (by omega), Nat.le_refl _⟩
      have e2' : am_vn am_M 5 255 140 [some (.ref 60), some (.int (nI p)), some (.int (nI tgt)), none, some (.int (nI A)), some (.int (nI 0)), some (.int (nI 0))] [] g = _ := e2
      rw [e2']
      refine ih c2 g2 f2 ?_ k2 r2 p1 p2 p5 (fun h i j hi hj h6 => (p6 h).2 i j hi hj h6) (fun v hv => (p3 v hv).trans (q5 v hv)) (fun v => Nat.le_trans (p4 v) (q6 v))
      have hc2 : c2 = 0 ∨ c2 = 1 := by omega
      rcases hc2 with h | h
      · omega
      · have := p7 h; omega
theorem s255_108 (hm : wk_m h d S) (ho : pw_ok d) (hb : pw_S S) (h0 : S 0 < 100000) (hp : p < pw_n d 3) (htg : tgt < 512) (hN : N = tgt * 9 + 9) :
    ∀ (k A : Nat) (g : am_H) (f : Nat → Nat), A + k = tgt + 1 → am_kp (ps_w 93) h g → wk_93 g N f → wk_ju (wk_e d S p tgt) N x0 s0 f → f x0 ≤ s0 → (∀ B, B < A → B ||| tgt = tgt → wk_cA d S p tgt B f) →
    ∃ g' f', am_vn am_M 5 255 108 [some (.ref 60), some (.int (nI p)), some (.int (nI tgt)), none, some (.int (nI A)), none, none] [] g = am_vn am_M 5 255 108 [some (.ref 60), some (.int (nI p)), some (.int (nI tgt)), none, some (.int (nI (tgt + 1))), none, none] [] g' ∧ am_kp (ps_w 93) h g' ∧ wk_93 g' N f' ∧ wk_ju (wk_e d S p tgt) N x0 s0 f' ∧ f' x0 ≤ s0 ∧ ∀ B, B ≤ tgt → B ||| tgt = tgt → wk_cA d S p tgt B f' := by
  have h9 := ho.1.2.1
  intro k
  induction k with
  | zero =>
    intro A g f hA kp hf q1 q2 q3
    rw [show A = tgt + 1 by omega]
    exact ⟨g, f, rfl, kp, hf, q1, q2, fun B hB => q3 B (by omega)⟩
  | succ k ih =>
    intro A g f hA kp hf q1 q2 q3
    have hws := wk_sub A tgt (by omega) htg
    rw [e255_108, if_neg (nI_nlt (show A ≤ tgt by omega) (by omega))]
    by_cases c : A ||| tgt = tgt
    · rw [if_pos (hws.mpr c)]
      obtain ⟨g2, f2, e2, k2, r2, p1, p2, p3, p4, p5⟩ := s255_129 (x0 := x0) (s0 := s0) hm ho hb h0 hp c htg hN f _ 1 g f (Nat.lt_succ_self _) kp hf q1 q2 (Nat.le_refl _) (fun h => absurd h (by omega)) (fun _ _ => rfl) (fun _ => Nat.le_refl _)
      rw [e2]
      refine ih (A + 1) g2 f2 (by omega) k2 r2 p1 p2 (fun B hB hBt => ?_)
      by_cases e : B = A
      · rw [e]; exact p3
      · intro i j hi hj h6
        have e1 := p4 (B * 9 + i) (by omega)
        rw [e1] at h6 ⊢
        exact Nat.le_trans (p5 _) (q3 B (by omega) hBt i j hi hj h6)
    · rw [if_neg (fun e => c (hws.mp e)), pz_succ]
      refine ih (A + 1) g f (by omega) kp hf q1 q2 (fun B hB hBt => ?_)
      by_cases e : B = A
      · rw [e] at hBt; exact absurd hBt c
      · exact q3 B (by omega) hBt
end
