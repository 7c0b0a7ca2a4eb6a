/-! WALKS in the model: until nothing changes -/
def wk_su (f : Nat → Nat) : Nat → Nat
  | 0 => 0
  | n + 1 => wk_su f n + f n
theorem wk_su_cong {f g : Nat → Nat} : ∀ {n : Nat}, (∀ k, k < n → f k = g k) → wk_su f n = wk_su g n
  | 0, _ => rfl
  | n + 1, h => by rw [wk_su, wk_su, wk_su_cong (fun k hk => h k (by omega)), h n (by omega)]
theorem wk_su_pu {f : Nat → Nat} {v x : Nat} (hx : x < f v) : ∀ {n : Nat}, v < n → wk_su (pu f v x) n < wk_su f n
  | n + 1, h => by
    rw [wk_su, wk_su]
    by_cases c : v = n
    · subst c
      rw [wk_su_cong (g := f) (fun k hk => pu_n _ _ (by omega)), pu_s]; omega
    · have := wk_su_pu hx (n := n) (by omega)
      rw [pu_n _ _ (show n ≠ v by omega)]; omega
theorem wk_9_lt {a b : Nat} (ha : a ≤ 96) (hb : b ≤ 96) : wk_9 a < wk_9 b ↔ a < b := by
  unfold wk_9
  split <;> split <;> omega
theorem wk_9_le (a : Nat) : wk_9 a ≤ 9999 := by unfold wk_9; split <;> omega
section
variable {h : am_H} {d : pw_L} {S : Nat → Nat} {p r x s : Nat}
def ps_w (r i k : Nat) : Bool := ps_m i k || decide (i = r)
theorem ps_wm (r : Nat) {i k : Nat} (h : ps_w r i k = false) : ps_m i k = false := by unfold ps_w at h; cases c : ps_m i k <;> rw [c] at h <;> first | rfl | exact absurd h (by simp)
theorem ps_w_r (r k : Nat) : ps_w r r k = true := by unfold ps_w; rw [decide_eq_true rfl, Bool.or_true]
theorem ps_w_f {r i k : Nat} (h : ps_m i k = false) (hi : i ≠ r) : ps_w r i k = false := by unfold ps_w; rw [h, decide_eq_false hi]; rfl
/-- row r holds the hours f -/
def wk_r (g : am_H) (r : Nat) (f : Nat → Nat) : Prop := ∀ v, v < 9 → f v ≤ 96 ∧ am_I g r v = nI (wk_9 (f v))
theorem wk_m.kp {g : am_H} (hm : wk_m h d S) (hr : r = 91 ∨ r = 92) (k : am_kp (ps_w r) h g) : wk_m g d S := by
  refine ⟨hm.1.kp k (fun i k hi => ps_w_f (ps_m_f (by omega)) (by omega)), hm.2.1.kp k (fun k => ps_w_f (ps_m_f (by omega)) (by omega)), ?_⟩
  rw [k.get 60 61 (ps_w_f (ps_m_f (by omega)) (by omega))]; exact hm.2.2
/-- in a pass over (a, v) from f0: what has been seen -/
def wk_p (T : Nat → Nat → Nat → Nat) (N x s : Nat) (f0 f : Nat → Nat) (c a v : Nat) : Prop := wk_ju T N x s f ∧ f x ≤ s ∧ c ≤ 1 ∧ (c = 0 → f = f0 ∧ ∀ i j, i < N → j < N → (i < a ∨ i = a ∧ j < v) → f i < 96 → f j ≤ T i j (f i)) ∧ (c = 1 → wk_su f 9 < wk_su f0 9) ∧ wk_su f 9 ≤ wk_su f0 9
theorem s251_58 {f0 : Nat → Nat} {a : Nat} (hr : r = 91 ∨ r = 92) (hm : wk_m h d S) (ho : pw_ok d) (hb : pw_S S) (h0 : S 0 < 100000) (hp : p < pw_n d 3) (ha : a < pw_n d 1) :
    ∀ (k v : Nat) (g : am_H) (f : Nat → Nat) (c : Nat), v + k = pw_n d 1 → am_kp (ps_w r) h g → wk_r g r f → wk_p (wk_s d S p) (pw_n d 1) x s f0 f c a v →
    ∃ g' f' c', am_vn am_M 4 251 58 [some (.ref 60), some (.int (nI p)), none, some (.ref r), some (.int (nI c)), some (.int (nI a)), some (.int (nI v)), none] [] g = am_vn am_M 4 251 46 [some (.ref 60), some (.int (nI p)), none, some (.ref r), some (.int (nI c')), some (.int (nI (a + 1))), none, none] [] g' ∧ am_kp (ps_w r) h g' ∧ wk_r g' r f' ∧ wk_p (wk_s d S p) (pw_n d 1) x s f0 f' c' (a + 1) 0 := by
  have h9 := ho.1.2.1
  have hil : ∀ (k : Nat), k < 9 → ∀ (g : am_H) (F : Int32 → Option am_Q), am_il 100 r (nI k) g F = F (am_I g r k) := fun k hk g F => by
    rcases hr with rfl | rfl
    · exact ml_91 hk F
    · exact ml_92 hk F
  have his : ∀ (k : Nat), k < 9 → ∀ (g : am_H) (u : Int32) (F : am_H → Option am_Q), am_is 100 r 16 (nI k) u g F = F (am_sI g r k u) := fun k hk g u F => by
    rcases hr with rfl | rfl
    · exact ms_91 hk u F
    · exact ms_92 hk u F
  intro k
  induction k with
  | zero =>
    intro v g f c hv kp hf hP
    have hmg := hm.kp hr kp
    rw [e251_58, show am_I g 60 2 = nI (pw_n d 1) from hmg.1.1 1 (by omega), if_pos (nI_le (show pw_n d 1 ≤ v by omega) (by omega)), pz_succ]
    obtain ⟨p1, p2, p3, p4, p5, p6⟩ := hP
    exact ⟨g, f, c, rfl, kp, hf, p1, p2, p3, fun hc => ⟨(p4 hc).1, fun i j hi hj hij => (p4 hc).2 i j hi hj (by omega)⟩, p5, p6⟩
  | succ k ih =>
    intro v g f c hv kp hf hP
    have hmg := hm.kp hr kp
    obtain ⟨p1, p2, p3, p4, p5, p6⟩ := hP
    have hvn : v < pw_n d 1 := by omega
    have fa := hf a (by omega)
    have fv := hf v (by omega)
    rw [e251_58, show am_I g 60 2 = nI (pw_n d 1) from hmg.1.1 1 (by omega), if_neg (nI_ge hvn (by omega)), hil a (by omega), fa.2]
    by_cases c96 : f a < 96
    · have e9 : wk_9 (f a) = f a := by unfold wk_9; rw [if_pos c96]
      have t9 := (ho.2.2.2.2.1 a v (by omega) (by omega)).1
      rw [e9, if_neg (nI_ge (by omega) (by omega)), pk_mul, nI_add, Nat.mul_comm 9 a, ml_64 (show a * 9 + v < 81 by omega), hmg.1.2.2.2.2.1 _ (by omega)]
      -- the end of a step
      have fin : ∀ (g2 : am_H), am_kp ps_m g g2 → ∃ g' f' c', am_vn am_M 4 251 123 [some (.ref 60), some (.int (nI p)), none, some (.ref r), some (.int (nI c)), some (.int (nI a)), some (.int (nI v)), none] [(.int (nI (wk_9 (wk_s d S p a v (f a)))))] g2 = am_vn am_M 4 251 46 [some (.ref 60), some (.int (nI p)), none, some (.ref r), some (.int (nI c')), some (.int (nI (a + 1))), none, none] [] g' ∧ am_kp (ps_w r) h g' ∧ wk_r g' r f' ∧ wk_p (wk_s d S p) (pw_n d 1) x s f0 f' c' (a + 1) 0 := by
        intro g2 k2
        have kp2 : am_kp (ps_w r) h g2 := kp.trans (k2.up fun i k hs => ps_wm r hs)
        have hf2 : wk_r g2 r f := fun u hu => ⟨(hf u hu).1, by rw [k2.get r u (ps_m_f (by omega))]; exact (hf u hu).2⟩
        have h96 := wk_s_96 d S p a v (f a)
        have l9 := wk_9_le (wk_s d S p a v (f a))
        have l9v := wk_9_le (f v)
        rw [e251_123, hil v (by omega), (hf2 v (by omega)).2]
        by_cases cl : wk_s d S p a v (f a) < f v
        · rw [if_pos (nI_lt ((wk_9_lt h96 fv.1).mpr cl) (by omega)), his v (by omega), pz_succ]
          have hsu := wk_su_pu cl (show v < 9 by omega)
          refine ih (v + 1) _ (pu f v (wk_s d S p a v (f a))) 1 (by omega) (kp2.sI _ (ps_w_r r v)) (fun u hu => ?_) ⟨fun u hu h6 => ?_, ?_, by omega, fun hc => absurd hc (by omega), fun _ => by omega, by omega⟩
          · rw [am_I_sc]
            unfold pu
            by_cases e : u = v
            · rw [if_pos (show r = r ∧ u = v from ⟨rfl, e⟩), if_pos e]; exact ⟨h96, rfl⟩
            · rw [if_neg (show ¬ (r = r ∧ u = v) from fun h => e h.2), if_neg e]; exact hf2 u hu
          · unfold pu at h6 ⊢
            by_cases e : u = v
            · rw [if_pos e] at h6 ⊢
              rw [e]
              exact (p1 a ha c96).step ha hvn c96
            · rw [if_neg e] at h6 ⊢; exact p1 u hu h6
          · unfold pu
            split
            · rename_i e; rw [e] at p2; omega
            · exact p2
        · rw [if_neg (nI_nlt (show wk_9 (f v) ≤ wk_9 (wk_s d S p a v (f a)) by have := (wk_9_lt h96 fv.1 (a := wk_s d S p a v (f a)) (b := f v)); omega) (by omega)), pz_succ]
          refine ih (v + 1) _ f c (by omega) kp2 hf2 ⟨p1, p2, p3, fun hc => ⟨(p4 hc).1, fun i j hi hj hij h6 => ?_⟩, p5, p6⟩
          by_cases e : i = a ∧ j = v
          · rw [e.1, e.2]; omega
          · exact (p4 hc).2 i j hi hj (by omega) h6
      by_cases t0 : pw_t d 5 (a * 9 + v) = 0
      · have e0 : wk_s d S p a v (f a) = 96 := by unfold wk_s; rw [if_pos t0]
        have := fin g (am_kp.refl _ _)
        rw [e0] at this
        rw [if_pos (by rw [t0]; rfl)]
        exact this
      · have e0 : wk_s d S p a v (f a) = wk_n (pa_ok d S p v) (f a + pw_t d 5 (a * 9 + v)) := by unfold wk_s; rw [if_neg t0]
        obtain ⟨u, g2, e2, hu, k2⟩ := s250 (v := v) (s := f a) (t := pw_t d 5 (a * 9 + v)) hmg ho hb h0 hp hvn (by omega)
        have := fin g2 k2
        rw [e0] at this
        rw [if_neg (nI_ne0 (by omega) (by omega)), hil a (by omega), fa.2, e9, ml_64 (show a * 9 + v < 81 by omega), hmg.1.2.2.2.2.1 _ (by omega), e2, am_bI_ok, hu]
        exact this
    · have e9 : wk_9 (f a) = 9999 := by unfold wk_9; rw [if_neg c96]
      rw [e9, if_pos (nI_le (Nat.le_refl _) (by omega)), pz_succ]
      exact ⟨g, f, c, rfl, kp, hf, p1, p2, p3, fun hc => ⟨(p4 hc).1, fun i j hi hj hij h6 => by
        by_cases e : i = a
        · rw [e] at h6; exact absurd h6 c96
        · exact (p4 hc).2 i j hi hj (by omega) h6⟩, p5, p6⟩
theorem s251_46 {f0 : Nat → Nat} (hr : r = 91 ∨ r = 92) (hm : wk_m h d S) (ho : pw_ok d) (hb : pw_S S) (h0 : S 0 < 100000) (hp : p < pw_n d 3) :
    ∀ (k a : Nat) (g : am_H) (f : Nat → Nat) (c : Nat), a + k = pw_n d 1 → am_kp (ps_w r) h g → wk_r g r f → wk_p (wk_s d S p) (pw_n d 1) x s f0 f c a 0 →
    ∃ g' f' c', am_vn am_M 4 251 46 [some (.ref 60), some (.int (nI p)), none, some (.ref r), some (.int (nI c)), some (.int (nI a)), none, none] [] g = am_vn am_M 4 251 35 [some (.ref 60), some (.int (nI p)), none, some (.ref r), some (.int (nI c')), none, none, none] [] g' ∧ am_kp (ps_w r) h g' ∧ wk_r g' r f' ∧ wk_p (wk_s d S p) (pw_n d 1) x s f0 f' c' (pw_n d 1) 0 := by
  have h9 := ho.1.2.1
  intro k
  induction k with
  | zero =>
    intro a g f c ha kp hf hP
    have hmg := hm.kp hr kp
    rw [e251_46, show am_I g 60 2 = nI (pw_n d 1) from hmg.1.1 1 (by omega), if_pos (nI_le (show pw_n d 1 ≤ a by omega) (by omega))]
    rw [show a = pw_n d 1 by omega] at hP
    exact ⟨g, f, c, rfl, kp, hf, hP⟩
  | succ k ih =>
    intro a g f c ha kp hf hP
    have hmg := hm.kp hr kp
    rw [e251_46, show am_I g 60 2 = nI (pw_n d 1) from hmg.1.1 1 (by omega), if_neg (nI_ge (show a < pw_n d 1 by omega) (by omega))]
    obtain ⟨g2, f2, c2, e2, k2, r2, p2⟩ := s251_58 hr hm ho hb h0 hp (show a < pw_n d 1 by omega) (pw_n d 1) 0 g f c (by omega) kp hf hP
    have e2' : am_vn am_M 4 251 58 [some (.ref 60), some (.int (nI p)), none, some (.ref r), some (.int (nI c)), some (.int (nI a)), some (.int (nI 0)), none] [] g = _ := e2
    rw [e2']
    exact ih (a + 1) g2 f2 c2 (by omega) k2 r2 p2
theorem s251_35 (hr : r = 91 ∨ r = 92) (hm : wk_m h d S) (ho : pw_ok d) (hb : pw_S S) (h0 : S 0 < 100000) (hp : p < pw_n d 3) :
    ∀ (m : Nat) (g : am_H) (f : Nat → Nat) (c : Nat), wk_su f 9 + c < m → am_kp (ps_w r) h g → wk_r g r f → wk_ju (wk_s d S p) (pw_n d 1) x s f → f x ≤ s → c ≤ 1 → (c = 0 → wk_cl (wk_s d S p) (pw_n d 1) f) →
    am_RV (am_vn am_M 4 251 35 [some (.ref 60), some (.int (nI p)), none, some (.ref r), some (.int (nI c)), none, none, none] [] g) (fun g' => am_kp (ps_w r) h g' ∧ ∃ f', wk_r g' r f' ∧ wk_ju (wk_s d S p) (pw_n d 1) x s f' ∧ f' x ≤ s ∧ wk_cl (wk_s d S p) (pw_n d 1) f') := by
  intro m
  induction m with
  | zero => intro g f c hm; exact absurd hm (Nat.not_lt_zero _)
  | succ m ih =>
    intro g f c hlt kp hf q1 q2 q3 q4
    rw [e251_35]
    by_cases c0 : c = 0
    · rw [if_pos (by rw [c0]; rfl)]
      exact ⟨g, rfl, kp, f, hf, q1, q2, q4 c0⟩
    · rw [if_neg (nI_ne0 (by omega) (by omega))]
      obtain ⟨g2, f2, c2, e2, k2, r2, p1, p2, p3, p4, p5, p6⟩ := s251_46 (x := x) (s := s) (f0 := f) hr hm ho hb h0 hp (pw_n d 1) 0 g f 0 (by omega) kp hf ⟨q1, q2, by omega, fun _ => ⟨rfl, fun i j _ _ hij => absurd hij (by omega)⟩, fun h => absurd h (by omega), Nat.le_refl _⟩
      have e2' : am_vn am_M 4 251 46 [some (.ref 60), some (.int (nI p)), none, some (.ref r), some (.int (nI 0)), some (.int (nI 0)), none, none] [] g = _ := e2
      rw [e2']
      have hc2 : c2 = 0 ∨ c2 = 1 := by omega
      refine ih g2 f2 c2 ?_ k2 r2 p1 p2 p3 (fun h => fun i j hi hj h6 => (p4 h).2 i j hi hj (Or.inl hi) h6)
      rcases hc2 with h | h
      · have := (p4 h).1; rw [this, h]; omega
      · have := p5 h; omega
theorem s251 (hr : r = 91 ∨ r = 92) (hm : wk_m h d S) (ho : pw_ok d) (hb : pw_S S) (h0 : S 0 < 100000) (hp : p < pw_n d 3) (hs : s < 24) :
    am_RV (am_run am_M 251 [.ref 60, .int (nI p), .int (nI s), .ref r] h) (fun g' => am_kp (ps_w r) h g' ∧ ∃ f', wk_r g' r f' ∧ wk_ju (wk_s d S p) (pw_n d 1) (pw_t d 3 p) s f' ∧ f' (pw_t d 3 p) ≤ s ∧ wk_cl (wk_s d S p) (pw_n d 1) f') := by
  have h9 := ho.1.2.1
  have h6 := ho.1.2.2.2.1
  have hh := (ho.2.2.1 p hp).2
  have his : ∀ (k : Nat), k < 9 → ∀ (g : am_H) (u : Int32) (F : am_H → Option am_Q), am_is 100 r 16 (nI k) u g F = F (am_sI g r k u) := fun k hk g u F => by
    rcases hr with rfl | rfl
    · exact ms_91 hk u F
    · exact ms_92 hk u F
  rw [e251]
  obtain ⟨g, e, kp, hf⟩ := am_for0 (fun k (g : am_H) => am_vn am_M 4 251 3 [some (.ref 60), some (.int (nI p)), some (.int (nI s)), some (.ref r), some (.int (nI k)), none, none, none] [] g) (fun k g => am_kp (ps_w r) h g ∧ ∀ v, v < k → am_I g r v = nI 9999) 9 h ⟨am_kp.refl _ _, fun v hv => absurd hv (Nat.not_lt_zero v)⟩ (fun k g hk hg => by
    rw [e251_3, if_neg (nI_ge hk (by omega)), his k hk, pz_succ]
    refine ⟨_, rfl, hg.1.sI _ (ps_w_r r k), fun v hv => ?_⟩
    rw [am_I_sc]
    by_cases c : v = k
    · rw [if_pos ⟨rfl, c⟩]
    · rw [if_neg (fun h => c h.2)]; exact hg.2 v (by omega))
  refine Eq.mpr (congrArg (fun o => am_RV o _) e) ?_
  have hmg := hm.kp hr kp
  rw [e251_3, if_pos (nI_le (Nat.le_refl _) (by omega)), ml_67 (by omega), (hmg.1.2.2.1 p hp).2, his _ (by omega)]
  refine s251_35 hr hm ho hb h0 hp _ _ (fun v => if v = pw_t d 3 p then s else 96) 1 (Nat.lt_succ_self _) (kp.sI _ (ps_w_r r _)) (fun v hv => ?_) (fun v hv h6 => ?_) (by show (if _ then _ else _) ≤ s; rw [if_pos rfl]; exact Nat.le_refl _) (Nat.le_refl _) (fun h => absurd h (by omega))
  · dsimp only
    rw [am_I_sc]
    by_cases c : v = pw_t d 3 p
    · rw [if_pos (show r = r ∧ v = pw_t d 3 p from ⟨rfl, c⟩), if_pos c]
      refine ⟨by omega, ?_⟩
      unfold wk_9; rw [if_pos (by omega)]
    · rw [if_neg (show ¬ (r = r ∧ v = pw_t d 3 p) from fun h => c h.2), if_neg c]
      exact ⟨Nat.le_refl _, hf v hv⟩
  · dsimp only at h6 ⊢
    by_cases c : v = pw_t d 3 p
    · rw [if_pos c, c]; exact wk_R.start _ _ _ _
    · rw [if_neg c] at h6; exact absurd h6 (by omega)
end
