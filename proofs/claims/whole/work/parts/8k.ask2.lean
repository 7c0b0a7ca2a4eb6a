/-! ASKED: the model -/
def ak_p (E : Nat → Nat → Bool) (c : Nat → Nat) (N x : Nat) (f0 f : Nat → Nat) (e a v : Nat) : Prop := (∀ v, v < N → f v < 9999 → ak_R E c N x v (f v)) ∧ f x = 0 ∧ e ≤ 1 ∧ (e = 0 → f = f0 ∧ ∀ i j, i < N → j < N → (i < a ∨ i = a ∧ j < v) → E i j = true → f j ≤ f i + c j) ∧ (e = 1 → wk_su f 9 < wk_su f0 9) ∧ wk_su f 9 ≤ wk_su f0 9
section
variable {h : am_H} {d : pw_L} {S : Nat → Nat} {p hr : Nat}
abbrev ak_P (d : pw_L) (S : Nat → Nat) (p hr : Nat) : (Nat → Nat) → (Nat → Nat) → Nat → Nat → Nat → Prop := ak_p (ak_E d) (ak_c d S p hr) (pw_n d 1) (pw_t d 3 p)
theorem s259_97 {f0 : Nat → Nat} {a to : Nat} (hm : wk_m h d S) (ho : pw_ok d) (hb : pw_S S) (h0 : S 0 < 100000) (hp : p < pw_n d 3) (hh : hr < 24) (ha : a < pw_n d 1) :
    ∀ (k v : Nat) (g : am_H) (f : Nat → Nat) (c : Nat), v + k = pw_n d 1 → am_kp (ps_w 91) h g → ak_r g 91 9999 f → ak_P d S p hr f0 f c a v →
    ∃ g' f' c', am_vn am_M 3 259 97 [some (.ref 60), some (.int (nI p)), some (.int (nI to)), some (.int (nI hr)), some (.int (nI c)), some (.int (nI a)), some (.int (nI v)), none] [] g = am_vn am_M 3 259 85 [some (.ref 60), some (.int (nI p)), some (.int (nI to)), some (.int (nI hr)), some (.int (nI c')), some (.int (nI (a + 1))), none, none] [] g' ∧ am_kp (ps_w 91) h g' ∧ ak_r g' 91 9999 f' ∧ ak_P d S p hr f0 f' c' (a + 1) 0 := by
  have h9 := ho.1.2.1
  intro k
  induction k with
  | zero =>
    intro v g f c hv kp hf hP
    have hmg := hm.kp (Or.inl rfl) kp
    rw [e259_97, show am_I g 60 2 = nI (pw_n d 1) from hmg.1.1 1 (by omega), if_pos (nI_le (show pw_n d 1 ≤ v by omega) (by omega)), pz_succ]
    obtain ⟨p1, p2, p3, p4, p5, p6⟩ := hP
    exact ⟨g, f, c, rfl, kp, hf, p1, p2, p3, fun hc => ⟨(p4 hc).1, fun i j hi hj hij => (p4 hc).2 i j hi hj (by omega)⟩, p5, p6⟩
  | succ k ih =>
    intro v g f c hv kp hf hP
    have hmg := hm.kp (Or.inl rfl) kp
    obtain ⟨p1, p2, p3, p4, p5, p6⟩ := hP
    have hvn : v < pw_n d 1 := by omega
    have fa := hf a (by omega)
    have fv := hf v (by omega)
    have t9 := (ho.2.2.2.2.1 a v (by omega) (by omega)).1
    have hc1 := ak_c_1 d S p hr v
    rw [e259_97, show am_I g 60 2 = nI (pw_n d 1) from hmg.1.1 1 (by omega), if_neg (nI_ge hvn (by omega)), pk_mul, nI_add, Nat.mul_comm 9 a, ml_64 (show a * 9 + v < 81 by omega), hmg.1.2.2.2.2.1 _ (by omega)]
    -- the end of a step
    have fin : ∀ (T : Nat) (g2 : am_H), am_kp ps_m g g2 → T ≤ 10000 → (T < 9999 → ak_E d a v = true ∧ T = f a + ak_c d S p hr v) → (ak_E d a v = true → T = f a + ak_c d S p hr v) → ∃ g' f' c', am_vn am_M 3 259 152 [some (.ref 60), some (.int (nI p)), some (.int (nI to)), some (.int (nI hr)), some (.int (nI c)), some (.int (nI a)), some (.int (nI v)), none] [(.int (nI T))] g2 = am_vn am_M 3 259 85 [some (.ref 60), some (.int (nI p)), some (.int (nI to)), some (.int (nI hr)), some (.int (nI c')), some (.int (nI (a + 1))), none, none] [] g' ∧ am_kp (ps_w 91) h g' ∧ ak_r g' 91 9999 f' ∧ ak_P d S p hr f0 f' c' (a + 1) 0 := by
      intro T g2 k2 hT hT1 hT2
      have kp2 : am_kp (ps_w 91) h g2 := kp.trans (k2.up fun i k hs => ps_wm 91 hs)
      have hf2 : ak_r g2 91 9999 f := fun u hu => ⟨(hf u hu).1, by rw [k2.get 91 u (ps_m_f (by omega))]; exact (hf u hu).2⟩
      rw [e259_152, ml_91 (by omega), (hf2 v (by omega)).2]
      by_cases cl : T < f v
      · rw [if_pos (nI_lt cl (by omega)), ms_91 (by omega), pz_succ]
        have hsu := wk_su_pu cl (show v < 9 by omega)
        have hTe := hT1 (by omega)
        refine ih (v + 1) _ (pu f v T) 1 (by omega) (kp2.sI _ (ps_w_r 91 v)) (fun u hu => ?_) ⟨fun u hu h6 => ?_, ?_, by omega, fun hc => absurd hc (by omega), fun _ => by omega, by omega⟩
        · rw [am_I_sc]
          unfold pu
          by_cases e : u = v
          · rw [if_pos (show 91 = 91 ∧ u = v from ⟨rfl, e⟩), if_pos e]; exact ⟨by omega, rfl⟩
          · rw [if_neg (show ¬ (91 = 91 ∧ u = v) from fun h => e h.2), if_neg e]; exact hf2 u hu
        · unfold pu at h6 ⊢
          by_cases e : u = v
          · rw [if_pos e] at h6 ⊢
            rw [e, hTe.2]
            exact (p1 a ha (by omega)).step ha hvn hTe.1
          · rw [if_neg e] at h6 ⊢; exact p1 u hu h6
        · unfold pu
          split
          · rename_i e; rw [e] at p2; omega
          · exact p2
      · rw [if_neg (nI_nlt (show f v ≤ T by omega) (by omega)), pz_succ]
        refine ih (v + 1) _ f c (by omega) kp2 hf2 ⟨p1, p2, p3, fun hc => ⟨(p4 hc).1, fun i j hi hj hij h6 => ?_⟩, p5, p6⟩
        by_cases e : i = a ∧ j = v
        · rw [e.1, e.2] at h6 ⊢
          have := hT2 h6
          omega
        · exact (p4 hc).2 i j hi hj (by omega) h6
    by_cases t0 : pw_t d 5 (a * 9 + v) = 0
    · have := fin 9999 g (am_kp.refl _ _) (by omega) (fun h => absurd h (by omega)) (fun h => absurd h (ak_E_f t0))
      rw [if_pos (by rw [t0]; rfl)]
      exact this
    · obtain ⟨u, g2, e2, hu, k2⟩ := s242 (hr := hr) hmg.1 ho hmg.2.1 hb h0 hmg.2.2 hp hvn hh
      have := fin (f a + ak_c d S p hr v) g2 k2 (by omega) (fun _ => ⟨ak_E_t t0, rfl⟩) (fun _ => rfl)
      rw [if_neg (nI_ne0 (by omega) (by omega)), ml_91 (by omega), fa.2, e2, am_bI_ok, hu]
      unfold ak_c at this
      by_cases cc : pa_ok d S p v hr = true
      · rw [if_pos cc] at this
        rw [if_pos cc, if_neg (show ¬ nI 1 = 0 by decide), nI_add]
        exact this
      · rw [if_neg cc] at this
        rw [if_neg cc, if_pos (show nI 0 = 0 from rfl), nI_add]
        exact this
theorem s259_85 {f0 : Nat → Nat} {to : Nat} (hm : wk_m h d S) (ho : pw_ok d) (hb : pw_S S) (h0 : S 0 < 100000) (hp : p < pw_n d 3) (hh : hr < 24) :
    ∀ (k a : Nat) (g : am_H) (f : Nat → Nat) (c : Nat), a + k = pw_n d 1 → am_kp (ps_w 91) h g → ak_r g 91 9999 f → ak_P d S p hr f0 f c a 0 →
    ∃ g' f' c', am_vn am_M 3 259 85 [some (.ref 60), some (.int (nI p)), some (.int (nI to)), some (.int (nI hr)), some (.int (nI c)), some (.int (nI a)), none, none] [] g = am_vn am_M 3 259 74 [some (.ref 60), some (.int (nI p)), some (.int (nI to)), some (.int (nI hr)), some (.int (nI c')), none, none, none] [] g' ∧ am_kp (ps_w 91) h g' ∧ ak_r g' 91 9999 f' ∧ ak_P d S p hr f0 f' c' (pw_n d 1) 0 := by
  have h9 := ho.1.2.1
  intro k
  induction k with
  | zero =>
    intro a g f c ha kp hf hP
    have hmg := hm.kp (Or.inl rfl) kp
    rw [e259_85, show am_I g 60 2 = nI (pw_n d 1) from hmg.1.1 1 (by omega), if_pos (nI_le (show pw_n d 1 ≤ a by omega) (by omega))]
    rw [show a = pw_n d 1 by omega] at hP
    exact ⟨g, f, c, rfl, kp, hf, hP⟩
  | succ k ih =>
    intro a g f c ha kp hf hP
    have hmg := hm.kp (Or.inl rfl) kp
    rw [e259_85, show am_I g 60 2 = nI (pw_n d 1) from hmg.1.1 1 (by omega), if_neg (nI_ge (show a < pw_n d 1 by omega) (by omega))]
    obtain ⟨g2, f2, c2, e2, k2, r2, p2⟩ := s259_97 (to := to) hm ho hb h0 hp hh (show a < pw_n d 1 by omega) (pw_n d 1) 0 g f c (by omega) kp hf hP
    have e2' : am_vn am_M 3 259 97 [some (.ref 60), some (.int (nI p)), some (.int (nI to)), some (.int (nI hr)), some (.int (nI c)), some (.int (nI a)), some (.int (nI 0)), none] [] g = _ := e2
    rw [e2']
    exact ih (a + 1) g2 f2 c2 (by omega) k2 r2 p2
theorem s259_74 {to : Nat} (hm : wk_m h d S) (ho : pw_ok d) (hb : pw_S S) (h0 : S 0 < 100000) (hp : p < pw_n d 3) (hh : hr < 24) :
    ∀ (m : Nat) (g : am_H) (f : Nat → Nat) (c : Nat), wk_su f 9 + c < m → am_kp (ps_w 91) h g → ak_r g 91 9999 f → (∀ v, v < pw_n d 1 → f v < 9999 → ak_R (ak_E d) (ak_c d S p hr) (pw_n d 1) (pw_t d 3 p) v (f v)) → f (pw_t d 3 p) = 0 → c ≤ 1 → (c = 0 → ak_cl (ak_E d) (ak_c d S p hr) (pw_n d 1) f) →
    ∃ g' f', am_vn am_M 3 259 74 [some (.ref 60), some (.int (nI p)), some (.int (nI to)), some (.int (nI hr)), some (.int (nI c)), none, none, none] [] g = am_vn am_M 3 259 74 [some (.ref 60), some (.int (nI p)), some (.int (nI to)), some (.int (nI hr)), some (.int (nI 0)), none, none, none] [] g' ∧ am_kp (ps_w 91) h g' ∧ ak_r g' 91 9999 f' ∧ (∀ v, v < pw_n d 1 → f' v < 9999 → ak_R (ak_E d) (ak_c d S p hr) (pw_n d 1) (pw_t d 3 p) v (f' v)) ∧ f' (pw_t d 3 p) = 0 ∧ ak_cl (ak_E d) (ak_c d S p hr) (pw_n d 1) f' := by
  intro m
  induction m with
  | zero => intro g f c hm; exact absurd hm (Nat.not_lt_zero _)
  | succ m ih =>
    intro g f c hlt kp hf q1 q2 q3 q4
    by_cases c0 : c = 0
    · rw [c0]
      exact ⟨g, f, rfl, kp, hf, q1, q2, q4 c0⟩
    · obtain ⟨g2, f2, c2, e2, k2, r2, p1, p2, p3, p4, p5, p6⟩ := s259_85 (to := to) (f0 := f) hm ho hb h0 hp hh (pw_n d 1) 0 g f 0 (by omega) kp hf ⟨q1, q2, by omega, fun _ => ⟨rfl, fun i j _ _ hij => absurd hij (by omega)⟩, fun h => absurd h (by omega), Nat.le_refl _⟩
      have e2' : am_vn am_M 3 259 85 [some (.ref 60), some (.int (nI p)), some (.int (nI to)), some (.int (nI hr)), some (.int (nI 0)), some (.int (nI 0)), none, none] [] g = _ := e2
      rw [e259_74, if_neg (nI_ne0 (by omega) (by omega)), e2']
      have hc2 : c2 = 0 ∨ c2 = 1 := by omega
      refine ih g2 f2 c2 ?_ k2 r2 p1 p2 p3 (fun h => fun i j hi hj h6 => (p4 h).2 i j hi hj (Or.inl hi) h6)
      rcases hc2 with h | h
      · have := (p4 h).1; rw [this, h]; omega
      · have := p5 h; omega
theorem s259_36 {to k : Nat} (hm : wk_m h d S) (ho : pw_ok d) (hb : pw_S S) (h0 : S 0 < 100000) (hp : p < pw_n d 3) (ht : to < pw_n d 1) (hh : hr < 24) (hk : k + 1 = pw_n d 1) :
    am_RI (am_vn am_M 3 259 36 [some (.ref 60), some (.int (nI p)), some (.int (nI to)), some (.int (nI hr)), some (.int (nI 0)), none, none, none] [] h) (fun u g' => u = pn_o (ak_b d S p hr k to) 999 ∧ am_kp (ps_w 91) h g') := by
  have h9 := ho.1.2.1
  have h6 := ho.1.2.2.2.1
  have hh3 := (ho.2.2.1 p hp).2
  obtain ⟨g, e, kp, hf⟩ := am_for0 (fun k (g : am_H) => am_vn am_M 3 259 36 [some (.ref 60), some (.int (nI p)), some (.int (nI to)), some (.int (nI hr)), some (.int (nI k)), none, none, none] [] g) (fun k g => am_kp (ps_w 91) h g ∧ ∀ v, v < k → am_I g 91 v = nI 9999) 9 h ⟨am_kp.refl _ _, fun v hv => absurd hv (Nat.not_lt_zero v)⟩ (fun k g hk hg => by
    rw [e259_36, if_neg (nI_ge hk (by omega)), ms_91 hk, pz_succ]
    refine ⟨_, rfl, hg.1.sI _ (ps_w_r 91 k), fun v hv => ?_⟩
    rw [am_I_sc]
    by_cases c : v = k
    · rw [if_pos ⟨rfl, c⟩]
    · rw [if_neg (fun h => c h.2)]; exact hg.2 v (by omega))
  refine Eq.mpr (congrArg (fun o => am_RI o _) e) ?_
  have hmg := hm.kp (Or.inl rfl) kp
  rw [e259_36, if_pos (nI_le (Nat.le_refl _) (by omega)), ml_67 (by omega), (hmg.1.2.2.1 p hp).2, ms_91 (by omega)]
  obtain ⟨g2, f, e2, k2, r2, q1, q2, q3⟩ := s259_74 (to := to) hm ho hb h0 hp hh _ (am_sI g 91 (pw_t d 3 p) (nI 0)) (fun v => if v = pw_t d 3 p then 0 else 9999) 1 (Nat.lt_succ_self _) (kp.sI _ (ps_w_r 91 _)) (fun v hv => by
    try dsimp only
    rw [am_I_sc]
    by_cases c : v = pw_t d 3 p
    · rw [if_pos (show 91 = 91 ∧ v = pw_t d 3 p from ⟨rfl, c⟩), if_pos c]; exact ⟨by omega, rfl⟩
    · rw [if_neg (show ¬ (91 = 91 ∧ v = pw_t d 3 p) from fun h => c h.2), if_neg c]
      exact ⟨Nat.le_refl _, hf v hv⟩) (fun v hv h6 => by
    try dsimp only at h6 ⊢
    by_cases c : v = pw_t d 3 p
    · rw [if_pos c, c]; exact ak_R.start _ _ _ _
    · rw [if_neg c] at h6; omega) (by show (if _ then _ else _) = 0; rw [if_pos rfl]) (Nat.le_refl _) (fun h => absurd h (by omega))
  refine Eq.mpr (congrArg (fun o => am_RI o _) e2) ?_
  have rv := r2 to (by omega)
  have ev := ak_eq_m (ak_c_1 d S p hr) hh3 h9 hk q3 q2 (fun v hv => (r2 v (by omega)).1) q1 ht
  have bl := ak_B_le (E := ak_E d) (c := ak_c d S p hr) (n := pw_n d 1) (x := pw_t d 3 p) k to
  rw [e259_74, if_pos (show nI 0 = 0 from rfl), ml_91 (by omega), rv.2, e252]
  unfold pn_o
  by_cases cc : ak_b d S p hr k to ≤ 999
  · have cc2 : ak_B (ak_E d) (ak_c d S p hr) (pw_n d 1) (pw_t d 3 p) k to ≤ 999 := cc
    rw [if_pos (show ak_B (ak_E d) (ak_c d S p hr) (pw_n d 1) (pw_t d 3 p) k to < 1000 by omega)] at ev
    rw [if_pos cc, ev, if_pos (nI_lt (by omega) (by omega)), am_bI_ok]
    exact ⟨_, _, rfl, rfl, k2⟩
  · have cc2 : ¬ ak_B (ak_E d) (ak_c d S p hr) (pw_n d 1) (pw_t d 3 p) k to ≤ 999 := cc
    rw [if_neg (show ¬ ak_B (ak_E d) (ak_c d S p hr) (pw_n d 1) (pw_t d 3 p) k to < 1000 by omega)] at ev
    rw [if_neg cc, ev, if_neg (nI_nlt (Nat.le_refl _) (by omega)), am_bI_ok]
    exact ⟨_, _, rfl, rfl, k2⟩
end
