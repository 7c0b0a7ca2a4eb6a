/-! WALKS: when a walker comes; the least hours, closed and justified -/
/-- the first hour from s on at which q allows, below 96; 96: none -/
def wk_c (q : Nat → Bool) : Nat → Nat → Nat
  | 0, _ => 96
  | f + 1, s => if q (s % 24) = true then s else wk_c q f (s + 1)
def wk_n (q : Nat → Bool) (s : Nat) : Nat := wk_c q (96 - s) s
theorem wk_n_no (q : Nat → Bool) {s : Nat} (h : 96 ≤ s) : wk_n q s = 96 := by
  unfold wk_n
  rw [show 96 - s = 0 by omega]; rfl
theorem wk_n_step (q : Nat → Bool) {s : Nat} (h : s < 96) : wk_n q s = if q (s % 24) = true then s else wk_n q (s + 1) := by
  unfold wk_n
  rw [show 96 - s = 96 - (s + 1) + 1 by omega]; rfl
theorem wk_n_le (q : Nat → Bool) : ∀ (k s : Nat), s + k = 96 → s ≤ wk_n q s ∧ wk_n q s ≤ 96
  | 0, s, h => by rw [wk_n_no q (by omega)]; omega
  | k + 1, s, h => by
    have ih := wk_n_le q k (s + 1) (by omega)
    rw [wk_n_step q (by omega)]
    split <;> omega
theorem wk_n_ge (q : Nat → Bool) {s : Nat} (h : s ≤ 96) : s ≤ wk_n q s := (wk_n_le q (96 - s) s (by omega)).1
theorem wk_n_96 (q : Nat → Bool) (s : Nat) : wk_n q s ≤ 96 := by
  rcases Nat.lt_or_ge s 96 with h | h
  · exact (wk_n_le q (96 - s) s (by omega)).2
  · rw [wk_n_no q h]; exact Nat.le_refl _
theorem wk_n_up1 (q : Nat → Bool) (s : Nat) : wk_n q s ≤ wk_n q (s + 1) := by
  rcases Nat.lt_or_ge s 96 with h | h
  · rw [wk_n_step q h]
    split
    · have := wk_n_ge q (show s + 1 ≤ 96 by omega); omega
    · exact Nat.le_refl _
  · rw [wk_n_no q h, wk_n_no q (by omega)]; exact Nat.le_refl _
theorem wk_n_up (q : Nat → Bool) {s : Nat} : ∀ {r : Nat}, s ≤ r → wk_n q s ≤ wk_n q r := by
  intro r
  induction r with
  | zero => intro h; rw [show s = 0 by omega]; exact Nat.le_refl _
  | succ r ih =>
    intro h
    rcases Nat.lt_or_ge r s with c | c
    · rw [show s = r + 1 by omega]; exact Nat.le_refl _
    · exact Nat.le_trans (ih c) (wk_n_up1 q r)
/-- closed: no step makes it less; justified: each is come to by steps -/
def wk_cl (T : Nat → Nat → Nat → Nat) (N : Nat) (f : Nat → Nat) : Prop := ∀ a v, a < N → v < N → f a < 96 → f v ≤ T a v (f a)
/-- place v is come to at hour t by some steps from x at s -/
def wk_R (T : Nat → Nat → Nat → Nat) (N x s v t : Nat) : Prop := ∀ P : Nat → Nat → Prop, P x s → (∀ a v t, a < N → v < N → P a t → t < 96 → P v (T a v t)) → P v t
theorem wk_R.start (T : Nat → Nat → Nat → Nat) (N x s : Nat) : wk_R T N x s x s := fun _ h _ => h
theorem wk_R.step {T : Nat → Nat → Nat → Nat} {N x s a t : Nat} (r : wk_R T N x s a t) (ha : a < N) {v : Nat} (hv : v < N) (ht : t < 96) : wk_R T N x s v (T a v t) := fun P h0 h1 => h1 a v t ha hv (r P h0 h1) ht
def wk_ju (T : Nat → Nat → Nat → Nat) (N x s : Nat) (f : Nat → Nat) : Prop := ∀ v, v < N → f v < 96 → wk_R T N x s v (f v)
def wk_T (T : Nat → Nat → Nat → Nat) : Prop := (∀ a v s, s < 96 → s < T a v s) ∧ ∀ a v s r, s ≤ r → T a v s ≤ T a v r
theorem wk_low {T : Nat → Nat → Nat → Nat} {N x s : Nat} {g : Nat → Nat} (hT : wk_T T) (hg : wk_cl T N g) (hx : g x ≤ s) {v t : Nat} (r : wk_R T N x s v t) : g v ≤ t :=
  r (fun v t => g v ≤ t) hx fun a v t ha hv h ht => Nat.le_trans (hg a v ha hv (by omega)) (hT.2 a v _ _ h)
theorem wk_one {T : Nat → Nat → Nat → Nat} {N x s : Nat} {f g : Nat → Nat} (hT : wk_T T) (hf : wk_ju T N x s f) (hg : wk_ju T N x s g) (cf : wk_cl T N f) (cg : wk_cl T N g) (xf : f x ≤ s) (xg : g x ≤ s) {v : Nat} (hv : v < N) : min (f v) 96 = min (g v) 96 := by
  rcases Nat.lt_or_ge (f v) 96 with h | h
  · have h1 := wk_low hT cg xg (hf v hv h)
    have h2 := wk_low hT cf xf (hg v hv (by omega))
    omega
  · rcases Nat.lt_or_ge (g v) 96 with h' | h'
    · have h2 := wk_low hT cf xf (hg v hv h')
      omega
    · omega
/-- a step from place a to place v at hour s -/
def wk_s (d : pw_L) (S : Nat → Nat) (p a v s : Nat) : Nat := if pw_t d 5 (a * 9 + v) = 0 then 96 else wk_n (pa_ok d S p v) (s + pw_t d 5 (a * 9 + v))
theorem wk_s_T (d : pw_L) (S : Nat → Nat) (p : Nat) : wk_T (wk_s d S p) := by
  refine ⟨fun a v s h => ?_, fun a v s r h => ?_⟩
  · unfold wk_s
    split
    · exact h
    · rcases Nat.lt_or_ge 96 (s + pw_t d 5 (a * 9 + v)) with c | c
      · rw [wk_n_no _ (by omega)]; exact h
      · have := wk_n_ge (pa_ok d S p v) c; omega
  · unfold wk_s
    split
    · exact Nat.le_refl _
    · exact wk_n_up _ (by omega)
theorem wk_s_96 (d : pw_L) (S : Nat → Nat) (p a v s : Nat) : wk_s d S p a v s ≤ 96 := by
  unfold wk_s
  split
  · exact Nat.le_refl _
  · exact wk_n_96 _ _
/-! the model -/
def wk_9 (n : Nat) : Nat := if n < 96 then n else 9999
section
variable {h : am_H} {d : pw_L} {S : Nat → Nat} {p : Nat}
/-- what the model needs to walk -/
def wk_m (h : am_H) (d : pw_L) (S : Nat → Nat) : Prop := pm_L h d ∧ pm_S h 85 0 S ∧ am_I h 60 61 = (-1 : Int32)
theorem s250 {v s t : Nat} (hm : wk_m h d S) (ho : pw_ok d) (hb : pw_S S) (h0 : S 0 < 100000) (hp : p < pw_n d 3) (hv : v < pw_n d 1) (hs : s + t < 1000) :
    am_RI (am_run am_M 250 [.ref 60, .int (nI p), .int (nI v), .int (nI s), .int (nI t)] h) (fun u g => u = nI (wk_9 (wk_n (pa_ok d S p v) (s + t))) ∧ am_kp ps_m h g) := by
  rw [e250, nI_add]
  obtain ⟨m1, m2, m3⟩ := hm
  have key : ∀ (k r : Nat) (g : am_H), r < 1000 → 96 - r = k → am_kp ps_m h g → am_RI (am_vn am_M 3 250 6 [some (.ref 60), some (.int (nI p)), some (.int (nI v)), none, none, some (.int (nI r))] [] g) (fun u g => u = nI (wk_9 (wk_n (pa_ok d S p v) r)) ∧ am_kp ps_m h g) := by
    intro k
    induction k with
    | zero =>
      intro r g hr hk kp
      rw [e250_6, if_pos (nI_lt (by omega) (by omega)), wk_n_no _ (by omega)]
      exact ⟨_, _, rfl, rfl, kp⟩
    | succ k ih =>
      intro r g hr hk kp
      obtain ⟨x, g2, e2, hx, k2⟩ := s242 (hr := r % 24) (m1.kp kp (fun i k hi => ps_m_f (by omega))) ho (m2.kp kp (fun k => ps_m_f (by omega))) hb h0 (by rw [kp.get 60 61 (ps_m_f (by omega))]; exact m3) hp hv (by omega)
      have k3 := kp.trans k2
      rw [e250_6, if_neg (nI_nlt (show r ≤ 95 by omega) (by omega)), if_neg (show ¬ nI 24 = 0 by decide), pk_rem (by omega) (by omega) (by omega), e2, am_bI_ok, hx, wk_n_step _ (show r < 96 by omega)]
      by_cases c : pa_ok d S p v (r % 24) = true
      · rw [if_pos c, if_neg (show ¬ nI 1 = 0 by decide), if_pos c]
        exact ⟨_, _, rfl, by unfold wk_9; rw [if_pos (by omega)], k3⟩
      · rw [if_neg c, if_pos (show nI 0 = 0 from rfl), if_neg c, pz_succ]
        exact ih (r + 1) g2 (by omega) (by omega) k3
  exact key _ (s + t) h hs rfl (am_kp.refl _ _)
end
