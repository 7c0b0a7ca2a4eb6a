/-! WALKS in the class: all sets -/
def ps_V (i k : Nat) : Bool := ps_0 i k || decide (i = 38 ∨ i = 39)
theorem ps_V_f {i k : Nat} (h : ps_0 i k = false) (hi : ¬ (i = 38 ∨ i = 39)) : ps_V i k = false := by unfold ps_V; rw [h, decide_eq_false hi]; rfl
theorem ps_V_0 {i k : Nat} (h : ps_V i k = false) : ps_0 i k = false := by unfold ps_V at h; cases c : ps_0 i k <;> rw [c] at h <;> first | rfl | exact absurd h (by simp)
theorem ps_V_n {i k : Nat} (h : ps_V i k = false) : ¬ (i = 38 ∨ i = 39) := by
  intro c
  unfold ps_V at h
  rw [decide_eq_true c, Bool.or_true] at h
  exact absurd h (by decide)
theorem ps_VC {i k : Nat} (h : ps_C i k = false) : ps_V i k = false := ps_V_f (ps_0C h) (fun c => by unfold ps_C at h; have := of_decide_eq_false h; omega)
theorem wk_sub (A t : Nat) (hA : A < 512) (ht : t < 512) : (nI A &&& (nI t ^^^ (-1 : Int32)) = 0) ↔ A ||| t = t := by
  have e1 : nI A &&& (nI t ^^^ (-1 : Int32)) = nI (A &&& (t ^^^ 4294967295)) := by rw [show (-1 : Int32) = nI 4294967295 from rfl, pz_xor, pz_and]
  have l1 : (A &&& (t ^^^ 4294967295)) < 512 := Nat.lt_of_le_of_lt Nat.and_le_left hA
  have key : A &&& (t ^^^ 4294967295) = 0 ↔ A ||| t = t := by
    have hone : ∀ i, i < 9 → (4294967295 : Nat).testBit i = true := by decide
    constructor
    · intro h
      apply Nat.eq_of_testBit_eq
      intro i
      rcases Nat.lt_or_ge i 9 with hi | hi
      · have h2 : (A &&& (t ^^^ 4294967295)).testBit i = false := by rw [h, Nat.zero_testBit]
        rw [Nat.testBit_and, Nat.testBit_xor, hone i hi] at h2
        rw [Nat.testBit_or]
        cases ha : A.testBit i <;> cases hb : t.testBit i <;> rw [ha, hb] at h2 <;> simp_all
      · have ha : A.testBit i = false := Nat.testBit_lt_two_pow (Nat.lt_of_lt_of_le hA (Nat.pow_le_pow_right (n := 2) (i := 9) (by omega) hi))
        rw [Nat.testBit_or, ha, Bool.false_or]
    · intro h
      apply Nat.eq_of_testBit_eq
      intro i
      rw [Nat.zero_testBit, Nat.testBit_and, Nat.testBit_xor]
      rcases Nat.lt_or_ge i 9 with hi | hi
      · have h2 : (A ||| t).testBit i = t.testBit i := by rw [h]
        rw [Nat.testBit_or] at h2
        rw [hone i hi]
        cases ha : A.testBit i <;> cases hb : t.testBit i <;> rw [ha, hb] at h2 <;> simp_all
      · have ha : A.testBit i = false := Nat.testBit_lt_two_pow (Nat.lt_of_lt_of_le hA (Nat.pow_le_pow_right (n := 2) (i := 9) (by omega) hi))
        rw [ha, Bool.false_and]
  rw [e1]
  constructor
  · intro h
    refine key.mp ?_
    by_cases c : A &&& (t ^^^ 4294967295) = 0
    · exact c
    · exact absurd h (nI_ne0 (by omega) (by omega))
  · intro h
    rw [key.mpr h]; rfl
section
variable {h : am_H} {d : pw_L} {S : Nat → Nat} {p L tgt s N : Nat}
theorem wk_e_sub {x0 s0 v t : Nat} (hx : (x0 / 9) ||| tgt = tgt) (r : wk_R (wk_e d S p tgt) N x0 s0 v t) (ht : t < 96) : (v / 9) ||| tgt = tgt := by
  have : t < 96 → (v / 9) ||| tgt = tgt := r (fun v t => t < 96 → (v / 9) ||| tgt = tgt) (fun _ => hx) fun a v t ha hv h1 h2 h3 => by
    unfold wk_e at h3
    by_cases c : v = wk_to tgt (a / 9) (v % 9) ∧ a % 9 < pw_n d 1 ∧ v % 9 < pw_n d 1
    · have e : v / 9 = (a / 9 ||| (tgt &&& 2 ^ (v % 9))) := by have := c.1; unfold wk_to at this; omega
      rw [e]
      exact (wk_to_ok (h1 h2) (by omega)).1
    · rw [if_neg c] at h3; omega
  exact this ht
theorem s166_80 {x0 s0 : Nat} (hL : pc_lo L) (ho : pw_ok d) (hd : pc_L h L d) (hW : wk_W h d S p) (htg : tgt < 512) (hN : N = tgt * 9 + 9) :
    ∀ (k A : Nat) (g : am_H) (f : Nat → Nat), A + k = tgt + 1 → am_kp (fun i _ => decide (i = 39)) h g → wk_39 g N f → wk_ju (wk_e d S p tgt) N x0 s0 f → f x0 ≤ s0 → (∀ B, B < A → B ||| tgt = tgt → wk_cA d S p tgt B f) →
    am_RV (am_vn am_M 4 166 80 [some (.ref 37), some (.ref L), none, none, some (.int (nI tgt)), none, none, some (.int (nI A))] [] g) (fun g' => am_kp (fun i _ => decide (i = 39)) h g' ∧ ∃ f', wk_39 g' N f' ∧ wk_ju (wk_e d S p tgt) N x0 s0 f' ∧ f' x0 ≤ s0 ∧ ∀ B, B ≤ tgt → B ||| tgt = tgt → wk_cA d S p tgt B f') := by
  have h9 := ho.1.2.1
  intro k
  induction k with
  | zero =>
    intro A g f hA kp hf q1 q2 q3
    rw [e166_80, if_pos (nI_lt (show tgt < A by omega) (by omega))]
    exact ⟨g, rfl, kp, f, hf, q1, q2, fun B hB => q3 B (by omega)⟩
  | succ k ih =>
    intro A g f hA kp hf q1 q2 q3
    have hdg := hd.kp kp (fun i k hi => decide_eq_false (by unfold pc_rl at hi; unfold pc_lo at hL; omega))
    have hws := wk_sub A tgt (by omega) htg
    rw [e166_80, if_neg (nI_nlt (show A ≤ tgt by omega) (by omega))]
    by_cases c : A ||| tgt = tgt
    · rw [if_pos (hws.mpr c)]
      refine pz_VV (s168 hL ho hdg (hW.kp kp) c htg hN hf q1 q2) fun g2 hg2 => ?_
      obtain ⟨k2, f2, r2, p1, p2, p3, p4, p5⟩ := hg2
      rw [pz_succ]
      refine ih (A + 1) g2 f2 (by omega) (kp.trans k2) r2 p1 p2 (fun B hB hBt => ?_)
      by_cases e : B = A
      · rw [e]; exact p3
      · intro i j hi hj h6
        have e1 := p4 (B * 9 + i) (by omega)
        rw [e1] at h6 ⊢
        exact Nat.le_trans (p5 _) (q3 B (by omega) hBt i j hi hj h6)
    · rw [if_neg (fun e => c (hws.mp e)), pz_succ]
      refine ih (A + 1) g f (by omega) kp hf q1 q2 (fun B hB hBt => ?_)
      by_cases e : B = A
      · rw [e] at hBt; exact absurd hBt c
      · exact q3 B (by omega) hBt
theorem s166 (hL : pc_lo L) (hd : pc_L h L d) (ho : pw_ok d) (hS : pc_S h 21 S) (hb : pw_S S) (h0 : S 0 < 100000) (hp : p < pw_n d 3) (htg : tgt < 512) (hs : s < 24) (hN : N = tgt * 9 + 9) :
    am_RV (am_run am_M 166 [.ref 37, .ref L, .ref 20, .int (nI p), .int (nI tgt), .int (nI s)] h) (fun g => am_kp ps_V h g ∧ ∃ f, wk_39 g N f ∧ wk_ju (wk_e d S p tgt) N (wk_to tgt 0 (pw_t d 3 p)) s f ∧ f (wk_to tgt 0 (pw_t d 3 p)) ≤ s ∧ wk_cl (wk_e d S p tgt) N f) := by
  have h9 := ho.1.2.1
  have h6 := ho.1.2.2.2.1
  have hh := (ho.2.2.1 p hp).2
  rw [e166]
  obtain ⟨g, e, kp, hW⟩ := am_for0 (fun k (g : am_H) => am_vn am_M 4 166 3 [some (.ref 37), some (.ref L), some (.ref 20), some (.int (nI p)), some (.int (nI tgt)), some (.int (nI s)), some (.int (nI k)), none] [] g) (fun k g => am_kp ps_V h g ∧ ∀ a, a < k → wk_38 g (pa_ok d S p a) a) (pw_n d 1) h ⟨am_kp.refl _ _, fun a ha => absurd ha (Nat.not_lt_zero a)⟩ (fun k g hk hg => by
    obtain ⟨kp, hW⟩ := hg
    have hdg := hd.kp kp (fun i k hi => ps_V_f (ps_0L hL i k hi) (by unfold pc_rl at hi; unfold pc_lo at hL; omega))
    have hSg := hS.kp kp (fun k => ps_V_f (ps_0_f (by omega)) (by omega))
    obtain ⟨v, g2, e2, hv, k2⟩ := s104 hL pc_so20 hdg ho hSg hb h0 hp hk
    obtain ⟨g3, e3, k3, w3⟩ := s167 (h := g2) (q := pa_ok d S p k) (a := k) (by omega)
    have e3' : am_run am_M 167 [.ref 37, .int (nI k), .int (nI (pa_bits d S p k))] g2 = some (.inl none, g3) := e3
    refine ⟨g3, ?_, (kp.trans (k2.up fun i k h => ps_V_0 h)).trans (k3.up fun i k h => decide_eq_false (by have := ps_V_n h; omega)), fun a ha hr hh => ?_⟩
    · rw [e166_3, pc_lch hL, show am_I g L 12 = nI (pw_n d 1) from hdg.1 1 (by omega), if_neg (nI_ge hk (by omega)), pc_lch hL, e2, am_bI_ok, hv, e3', am_bV_ok, pz_succ]
    · by_cases c : a = k
      · rw [c]; exact w3 hr hh
      · rw [k3.get _ _ (decide_eq_false (by omega)), k2.get _ _ (ps_0_f (by omega))]
        exact hW a (by omega) hr hh)
  refine Eq.mpr (congrArg (fun o => am_RV o _) e) ?_
  have hdg := hd.kp kp (fun i k hi => ps_V_f (ps_0L hL i k hi) (by unfold pc_rl at hi; unfold pc_lo at hL; omega))
  have hto := wk_to_ok (tgt := tgt) (A := 0) (v := pw_t d 3 p) (Nat.zero_or _) (by omega)
  have h0t : (0 ||| (tgt &&& 2 ^ pw_t d 3 p)) = (tgt &&& 2 ^ pw_t d 3 p) := Nat.zero_or _
  have hxe : wk_to tgt 0 (pw_t d 3 p) = (tgt &&& 2 ^ pw_t d 3 p) * 9 + pw_t d 3 p := by unfold wk_to; rw [h0t]
  rw [h0t] at hto
  have hxN : wk_to tgt 0 (pw_t d 3 p) < N := by rw [hxe]; omega
  have hx9 : wk_to tgt 0 (pw_t d 3 p) / 9 = (tgt &&& 2 ^ pw_t d 3 p) := by rw [hxe]; omega
  rw [e166_3, pc_lch hL, show am_I g L 12 = nI (pw_n d 1) from hdg.1 1 (by omega), if_pos (nI_le (Nat.le_refl _) (by omega)), pz_succ, pk_mul, fill_ok (r := 39) (n := 4608) rfl (by omega) (by omega) (show (tgt + 1) * 9 ≤ 4608 by omega), am_bV_ok, pc_lch hL]
  have kw : am_kp (fun i _ => decide (i = 39)) g (pz_wr g 39 (fun b => if b < (tgt + 1) * 9 then nI 96 else am_I g 39 b)) := (am_kp.refl _ _).wr _ (fun k => decide_eq_true rfl)
  have hw : ∀ v, v < N → am_I (pz_wr g 39 (fun b => if b < (tgt + 1) * 9 then nI 96 else am_I g 39 b)) 39 v = nI 96 := fun v hv => by rw [am_I_w, if_pos (by omega)]
  generalize pz_wr g 39 (fun b => if b < (tgt + 1) * 9 then nI 96 else am_I g 39 b) = g1 at kw hw ⊢
  have hd1 := hdg.kp kw (fun i k hi => decide_eq_false (by unfold pc_rl at hi; unfold pc_lo at hL; omega))
  rw [s93 hL (by omega), am_bI_ok, (hd1.2.2.1 p hp).2, pb_1 (by omega), pz_and, pk_mul, nI_add, put_ok (r := 39) (n := 4608) rfl (by omega) (by omega) (show (tgt &&& 2 ^ pw_t d 3 p) * 9 + pw_t d 3 p < 4608 by omega), am_bV_ok, ← hxe]
  have k2 : am_kp (fun i _ => decide (i = 39)) g (am_sI g1 39 (wk_to tgt 0 (pw_t d 3 p)) (nI s)) := kw.sI _ (decide_eq_true rfl)
  have hf : wk_39 (am_sI g1 39 (wk_to tgt 0 (pw_t d 3 p)) (nI s)) N (fun v => if v = wk_to tgt 0 (pw_t d 3 p) then s else 96) := fun v hv => by
    dsimp only
    rw [am_I_sc]
    by_cases c : v = wk_to tgt 0 (pw_t d 3 p)
    · rw [if_pos (show 39 = 39 ∧ v = wk_to tgt 0 (pw_t d 3 p) from ⟨rfl, c⟩), if_pos c]; exact ⟨by omega, rfl⟩
    · rw [if_neg (show ¬ (39 = 39 ∧ v = wk_to tgt 0 (pw_t d 3 p)) from fun h => c h.2), if_neg c]; exact ⟨Nat.le_refl _, hw v hv⟩
  generalize am_sI g1 39 (wk_to tgt 0 (pw_t d 3 p)) (nI s) = g2 at k2 hf ⊢
  have hd2 := hdg.kp k2 (fun i k hi => decide_eq_false (by unfold pc_rl at hi; unfold pc_lo at hL; omega))
  have hW2 : wk_W g2 d S p := fun a ha hr hh => by rw [k2.get _ _ (decide_eq_false (by omega))]; exact hW a ha hr hh
  refine (s166_80 (x0 := wk_to tgt 0 (pw_t d 3 p)) (s0 := s) hL ho hd2 hW2 htg hN (tgt + 1) 0 g2 (fun v => if v = wk_to tgt 0 (pw_t d 3 p) then s else 96) (by omega) (am_kp.refl _ _) hf (fun v hv h6 => ?_) (by show (if _ then _ else _) ≤ s; rw [if_pos rfl]; exact Nat.le_refl _) (fun B hB => absurd hB (Nat.not_lt_zero B))).mono fun g3 hg3 => ?_
  · dsimp only at h6 ⊢
    by_cases c : v = wk_to tgt 0 (pw_t d 3 p)
    · rw [if_pos c, c]; exact wk_R.start _ _ _ _
    · rw [if_neg c] at h6; exact absurd h6 (by omega)
  · obtain ⟨k3, f, r3, p1, p2, p3⟩ := hg3
    refine ⟨kp.trans ((k2.trans k3).up fun i k h => decide_eq_false (by have := ps_V_n h; omega)), f, r3, p1, p2, fun a v ha hv h6 => ?_⟩
    unfold wk_e
    by_cases c : v = wk_to tgt (a / 9) (v % 9) ∧ a % 9 < pw_n d 1 ∧ v % 9 < pw_n d 1
    · rw [if_pos c]
      have hsub := wk_e_sub (by rw [hx9]; exact hto.1) (p1 a ha h6) h6
      have hle : a / 9 ≤ tgt := by omega
      have := p3 (a / 9) hle hsub (a % 9) (v % 9) c.2.1 c.2.2 (by rw [show a / 9 * 9 + a % 9 = a by omega]; exact h6)
      rw [← c.1, show a / 9 * 9 + a % 9 = a by omega] at this
      exact this
    · rw [if_neg c]; exact (r3 v hv).1
end
