/-! ASKED: the fewest favours; least costs by passes -/
def ak_R (E : Nat → Nat → Bool) (c : Nat → Nat) (n x v t : Nat) : Prop := ∀ P : Nat → Nat → Prop, P x 0 → (∀ a v t, a < n → v < n → E a v = true → P a t → P v (t + c v)) → P v t
theorem ak_R.start (E : Nat → Nat → Bool) (c : Nat → Nat) (n x : Nat) : ak_R E c n x x 0 := fun _ h _ => h
theorem ak_R.step {E : Nat → Nat → Bool} {c : Nat → Nat} {n x a t : Nat} (r : ak_R E c n x a t) (ha : a < n) {v : Nat} (hv : v < n) (he : E a v = true) : ak_R E c n x v (t + c v) := fun P h0 h1 => h1 a v t ha hv he (r P h0 h1)
def ak_cl (E : Nat → Nat → Bool) (c : Nat → Nat) (n : Nat) (f : Nat → Nat) : Prop := ∀ a v, a < n → v < n → E a v = true → f v ≤ f a + c v
theorem ak_low {E : Nat → Nat → Bool} {c : Nat → Nat} {n x v t : Nat} {f : Nat → Nat} (hf : ak_cl E c n f) (hx : f x = 0) (r : ak_R E c n x v t) : f v ≤ t :=
  r (fun v t => f v ≤ t) (by rw [hx]; exact Nat.le_refl _) fun a v t ha hv he h => by have := hf a v ha hv he; omega
/-- the fewest of those next to v, below k; 1000 without -/
def ak_m (E : Nat → Nat → Bool) (f : Nat → Nat) (v : Nat) : Nat → Nat
  | 0 => 1000
  | k + 1 => if E k v = true then min (ak_m E f v k) (f k) else ak_m E f v k
theorem ak_m_1000 (E : Nat → Nat → Bool) (f : Nat → Nat) (v : Nat) : ∀ k, ak_m E f v k ≤ 1000
  | 0 => Nat.le_refl _
  | k + 1 => by
    have := ak_m_1000 E f v k
    rw [ak_m]
    split <;> omega
theorem ak_m_le {E : Nat → Nat → Bool} {f : Nat → Nat} {v a : Nat} (he : E a v = true) : ∀ k, a < k → ak_m E f v k ≤ f a
  | k + 1, h => by
    rw [ak_m]
    by_cases c : a = k
    · subst c
      rw [if_pos he]; omega
    · have := ak_m_le he (f := f) k (by omega)
      split <;> omega
theorem ak_m_or (E : Nat → Nat → Bool) (f : Nat → Nat) (v : Nat) : ∀ k, ak_m E f v k = 1000 ∨ ∃ a, a < k ∧ E a v = true ∧ ak_m E f v k = f a
  | 0 => Or.inl rfl
  | k + 1 => by
    rw [ak_m]
    have ih := ak_m_or E f v k
    by_cases he : E k v = true
    · rw [if_pos he]
      rcases Nat.lt_or_ge (f k) (ak_m E f v k) with h | h
      · exact Or.inr ⟨k, by omega, he, by omega⟩
      · rcases ih with e | ⟨a, ha, hea, e⟩
        · exact Or.inl (by omega)
        · exact Or.inr ⟨a, by omega, hea, by omega⟩
    · rw [if_neg he]
      rcases ih with e | ⟨a, ha, hea, e⟩
      · exact Or.inl e
      · exact Or.inr ⟨a, by omega, hea, e⟩
theorem ak_m_mono {E : Nat → Nat → Bool} {f g : Nat → Nat} {v : Nat} : ∀ k, (∀ a, a < k → f a ≤ g a) → ak_m E f v k ≤ ak_m E g v k
  | 0, _ => Nat.le_refl _
  | k + 1, h => by
    rw [ak_m, ak_m]
    have ih := ak_m_mono (E := E) (v := v) k (fun a ha => h a (by omega))
    have hk := h k (by omega)
    split <;> omega
/-- least costs by at most so many steps -/
def ak_B (E : Nat → Nat → Bool) (c : Nat → Nat) (n x : Nat) : Nat → Nat → Nat
  | 0, v => if v = x then 0 else 1000
  | r + 1, v => min (ak_B E c n x r v) (c v + ak_m E (ak_B E c n x r) v n)
section
variable {E : Nat → Nat → Bool} {c : Nat → Nat} {n x : Nat}
theorem ak_B_le : ∀ r v, ak_B E c n x r v ≤ 1000
  | 0, v => by rw [ak_B]; split <;> omega
  | r + 1, v => by have := ak_B_le r v; rw [ak_B]; omega
theorem ak_B_x : ∀ r, ak_B E c n x r x = 0
  | 0 => by rw [ak_B, if_pos rfl]
  | r + 1 => by rw [ak_B, ak_B_x r]; omega
theorem ak_B_an (r v : Nat) : ak_B E c n x (r + 1) v ≤ ak_B E c n x r v := by rw [ak_B]; omega
theorem ak_B_r (hc : ∀ v, c v ≤ 1) : ∀ r v, ak_B E c n x r v < 1000 → ak_B E c n x r v ≤ r
  | 0, v, h => by
    rw [ak_B] at h ⊢
    split at h <;> first | omega | (rename_i e; rw [if_pos e]; exact Nat.le_refl _)
  | r + 1, v, h => by
    have ih := ak_B_r hc r
    have hv := hc v
    rw [ak_B] at h ⊢
    rcases ak_m_or E (ak_B E c n x r) v n with e | ⟨a, ha, hea, e⟩
    · have := ih v; omega
    · have h1 := ih v
      have h2 := ih a
      omega
theorem ak_B_ju (hx : x < n) : ∀ r v, v < n → ak_B E c n x r v < 1000 → ak_R E c n x v (ak_B E c n x r v)
  | 0, v, hv, h => by
    rw [ak_B] at h ⊢
    by_cases e : v = x
    · rw [if_pos e, e]; exact ak_R.start _ _ _ _
    · rw [if_neg e] at h; omega
  | r + 1, v, hv, h => by
    rw [ak_B] at h ⊢
    rcases Nat.lt_or_ge (c v + ak_m E (ak_B E c n x r) v n) (ak_B E c n x r v) with l | l
    · rw [Nat.min_eq_right (by omega)] at h ⊢
      rcases ak_m_or E (ak_B E c n x r) v n with e | ⟨a, ha, hea, e⟩
      · omega
      · rw [e] at h ⊢
        rw [Nat.add_comm]
        exact (ak_B_ju hx r a ha (by omega)).step ha hv hea
    · rw [Nat.min_eq_left l] at h ⊢
      exact ak_B_ju hx r v hv h
def ak_ct (U : Nat → Bool) : Nat → Nat
  | 0 => 0
  | k + 1 => ak_ct U k + (if U k = true then 1 else 0)
theorem ak_ct_le (U : Nat → Bool) : ∀ k, ak_ct U k ≤ k
  | 0 => Nat.le_refl _
  | k + 1 => by have := ak_ct_le U k; rw [ak_ct]; split <;> omega
theorem ak_ct_cong {U V : Nat → Bool} : ∀ k, (∀ i, i < k → U i = V i) → ak_ct U k = ak_ct V k
  | 0, _ => rfl
  | k + 1, h => by rw [ak_ct, ak_ct, ak_ct_cong k (fun i hi => h i (by omega)), h k (by omega)]
theorem ak_ct_up {U : Nat → Bool} {v : Nat} (hU : U v = false) : ∀ k, v < k → ak_ct (fun i => U i || decide (i = v)) k = ak_ct U k + 1
  | k + 1, h => by
    rw [ak_ct, ak_ct]
    by_cases e : v = k
    · subst e
      rw [ak_ct_cong (V := U) v (fun i hi => by show (U i || decide (i = v)) = U i; rw [decide_eq_false (by omega), Bool.or_false]), hU, decide_eq_true rfl]
      rfl
    · rw [ak_ct_up hU k (by omega), decide_eq_false (show ¬ k = v by omega), Bool.or_false]
      omega
/-- new in pass r -/
def ak_N (E : Nat → Nat → Bool) (c : Nat → Nat) (n x : Nat) : Nat → Nat → Prop
  | 0, v => v = x
  | r + 1, v => ak_B E c n x (r + 1) v < ak_B E c n x r v
theorem ak_new (hx : x < n) : ∀ r v, v < n → ak_N E c n x r v → ∃ U : Nat → Bool, r + 1 ≤ ak_ct U n ∧ ∀ u, U u = true → ak_B E c n x r u ≤ ak_B E c n x r v
  | 0, v, hv, h => by
    refine ⟨fun i => false || decide (i = x), ?_, fun u hu => ?_⟩
    · rw [ak_ct_up (U := fun _ => false) rfl n hx]; omega
    · have e : u = x := of_decide_eq_true hu
      rw [e, show v = x from h]; exact Nat.le_refl _
  | r + 1, v, hv, h => by
    have h1 : ak_B E c n x (r + 1) v < ak_B E c n x r v := h
    have hB : ak_B E c n x (r + 1) v = min (ak_B E c n x r v) (c v + ak_m E (ak_B E c n x r) v n) := rfl
    have hl := ak_B_le (E := E) (c := c) (n := n) (x := x) r v
    rcases ak_m_or E (ak_B E c n x r) v n with e | ⟨a, ha, hea, e⟩
    · omega
    · have hN : ak_N E c n x r a := by
        match r, h1, hB, hl, e with
        | 0, h1, hB, hl, e =>
          show a = x
          have e0 : ak_B E c n x 0 a = if a = x then 0 else 1000 := rfl
          by_cases ea : a = x
          · exact ea
          · rw [if_neg ea] at e0; omega
        | r + 1, h1, hB, hl, e =>
          show ak_B E c n x (r + 1) a < ak_B E c n x r a
          rcases Nat.lt_or_ge (ak_B E c n x (r + 1) a) (ak_B E c n x r a) with l | l
          · exact l
          · have hB2 : ak_B E c n x (r + 1) v = min (ak_B E c n x r v) (c v + ak_m E (ak_B E c n x r) v n) := rfl
            have hm := ak_m_le (f := ak_B E c n x r) hea n ha
            omega
      obtain ⟨U, hU, hu⟩ := ak_new hx r a ha hN
      have hvU : U v = false := by
        cases cU : U v with
        | false => rfl
        | true => have := hu v cU; omega
      refine ⟨fun i => U i || decide (i = v), ?_, fun u h2 => ?_⟩
      · rw [ak_ct_up hvU n hv]; omega
      · by_cases eu : u = v
        · rw [eu]; exact Nat.le_refl _
        · have h3 : U u = true := by
            have h4 : (U u || decide (u = v)) = true := h2
            rw [decide_eq_false eu, Bool.or_false] at h4; exact h4
          have := hu u h3
          have h5 := ak_B_an (E := E) (c := c) (n := n) (x := x) r u
          omega
theorem ak_B_cl (hx : x < n) {k : Nat} (hk : k + 1 = n) : ak_cl E c n (ak_B E c n x k) := by
  intro a v ha hv he
  rcases Nat.lt_or_ge (ak_B E c n x k a + c v) (ak_B E c n x k v) with l | l
  · have hB : ak_B E c n x (k + 1) v = min (ak_B E c n x k v) (c v + ak_m E (ak_B E c n x k) v n) := rfl
    have hm := ak_m_le (f := ak_B E c n x k) he n ha
    obtain ⟨U, hU, _⟩ := ak_new hx (k + 1) v hv (show ak_B E c n x (k + 1) v < ak_B E c n x k v by omega)
    have := ak_ct_le U n
    omega
  · exact l
theorem ak_eq_c (hx : x < n) {k : Nat} (hk : k + 1 = n) {f : Nat → Nat} (hb : ∀ v, v < n → f v ≤ ak_B E c n x k v) (hj : ∀ v, v < n → f v < 1000 → ak_R E c n x v (f v)) {v : Nat} (hv : v < n) : f v = ak_B E c n x k v := by
  have h1 := hb v hv
  rcases Nat.lt_or_ge (f v) 1000 with l | l
  · have := ak_low (ak_B_cl hx hk) (ak_B_x k) (hj v hv l); omega
  · have := ak_B_le (E := E) (c := c) (n := n) (x := x) k v; omega
theorem ak_eq_m (hc : ∀ v, c v ≤ 1) (hx : x < n) (h9 : n ≤ 9) {k : Nat} (hk : k + 1 = n) {f : Nat → Nat} (hf : ak_cl E c n f) (f0 : f x = 0) (h99 : ∀ v, v < n → f v ≤ 9999) (hj : ∀ v, v < n → f v < 9999 → ak_R E c n x v (f v)) {v : Nat} (hv : v < n) : f v = if ak_B E c n x k v < 1000 then ak_B E c n x k v else 9999 := by
  have h1 := h99 v hv
  have hcl : ak_cl E c n (ak_B E c n x k) := ak_B_cl hx hk
  by_cases cc : ak_B E c n x k v < 1000
  · rw [if_pos cc]
    have h2 := ak_low hf f0 (ak_B_ju hx k v hv cc)
    have h3 := ak_low hcl (ak_B_x k) (hj v hv (by omega))
    omega
  · rw [if_neg cc]
    rcases Nat.lt_or_ge (f v) 9999 with l | l
    · have h4 : ak_B E c n x k v ≤ 8 := hj v hv l (fun v _ => ak_B E c n x k v ≤ 8) (by show ak_B E c n x k x ≤ 8; rw [ak_B_x]; omega) fun a v t ha hv he h => by
        have h5 := hcl a v ha hv he
        have h6 := hc v
        have h7 := ak_B_r (E := E) (n := n) (x := x) hc k v (by omega)
        show ak_B E c n x k v ≤ 8
        omega
      omega
    · omega
end
/-! the class -/
def ak_E (d : pw_L) (a v : Nat) : Bool := decide (0 < pw_t d 5 (a * 9 + v))
def ak_c (d : pw_L) (S : Nat → Nat) (p hr v : Nat) : Nat := if pa_ok d S p v hr = true then 0 else 1
theorem ak_c_1 (d : pw_L) (S : Nat → Nat) (p hr v : Nat) : ak_c d S p hr v ≤ 1 := by unfold ak_c; split <;> omega
def ak_r (g : am_H) (r b : Nat) (f : Nat → Nat) : Prop := ∀ v, v < 9 → f v ≤ b ∧ am_I g r v = nI (f v)
def ak_ju (d : pw_L) (S : Nat → Nat) (p hr b : Nat) (f : Nat → Nat) : Prop := ∀ v, v < pw_n d 1 → f v < b → ak_R (ak_E d) (ak_c d S p hr) (pw_n d 1) (pw_t d 3 p) v (f v)
abbrev ak_b (d : pw_L) (S : Nat → Nat) (p hr : Nat) : Nat → Nat → Nat := ak_B (ak_E d) (ak_c d S p hr) (pw_n d 1) (pw_t d 3 p)
theorem ak_E_t {d : pw_L} {a v : Nat} (h : ¬ pw_t d 5 (a * 9 + v) = 0) : ak_E d a v = true := decide_eq_true (by omega)
theorem ak_E_f {d : pw_L} {a v : Nat} (h : pw_t d 5 (a * 9 + v) = 0) : ¬ ak_E d a v = true := by unfold ak_E; rw [decide_eq_false (by omega)]; decide
section
variable {L p hr : Nat} {h : am_H} {d : pw_L} {S : Nat → Nat}
theorem s176 {v : Nat} {f : Nat → Nat} (hL : pc_lo L) (hd : pc_L h L d) (ho : pw_ok d) (hf : ak_r h 41 1000 f) (hv : v < pw_n d 1) : am_run am_M 176 [.ref 37, .ref L, .int (nI v)] h = some (.inl (some (.int (nI (ak_m (ak_E d) f v (pw_n d 1))))), h) := by
  have h9 := ho.1.2.1
  rw [e176]
  obtain ⟨g2, e, hp⟩ := am_for0 (fun k (g' : am_H) => am_vn am_M 2 176 7 [some (.ref 37), some (.ref L), some (.int (nI v)), some (.int (nI (ak_m (ak_E d) f v k))), some (.int (nI k))] [] g') (fun _ g' => g' = h) (pw_n d 1) h rfl (fun q g' hq hg => by
    subst hg
    have t9 := (ho.2.2.2.2.1 q v (by omega) (by omega)).1
    have hm := ak_m_1000 (ak_E d) f v q
    have fq := hf q (by omega)
    refine ⟨g', ?_, rfl⟩
    rw [e176_7, pc_lch hL, show am_I g' L 12 = nI (pw_n d 1) from hd.1 1 (by omega), if_neg (nI_ge hq (by omega)), pc_lch hL, s95 hL (show q * 9 + v < 81 by omega), am_bI_ok, hd.2.2.2.2.1 _ (by omega), pz_succ]
    show _ = am_vn am_M 2 176 7 [some (.ref 37), some (.ref L), some (.int (nI v)), some (.int (nI (if ak_E d q v = true then min (ak_m (ak_E d) f v q) (f q) else ak_m (ak_E d) f v q))), some (.int (nI (q + 1)))] [] g'
    by_cases t0 : pw_t d 5 (q * 9 + v) = 0
    · rw [if_pos (show nI (pw_t d 5 (q * 9 + v)) ≤ 0 by rw [t0]; decide), if_neg (ak_E_f t0)]
    · rw [if_neg (show ¬ nI (pw_t d 5 (q * 9 + v)) ≤ 0 from nI_ge (show 0 < pw_t d 5 (q * 9 + v) by omega) (by omega)), if_pos (ak_E_t t0), at_ok (r := 41) (n := 9) rfl (by omega) (by omega) (by omega), am_bI_ok, fq.2, pz_min (by omega) (by omega)])
  subst hp
  refine Eq.trans e ?_
  rw [e176_7, pc_lch hL, show am_I g2 L 12 = nI (pw_n d 1) from hd.1 1 (by omega), if_pos (nI_le (Nat.le_refl _) (by omega))]
theorem ak_low_c {d : pw_L} {f : Nat → Nat} {j : Nat} (ho : pw_ok d) (hp : p < pw_n d 3) (hb : ∀ v, v < pw_n d 1 → f v ≤ ak_b d S p hr j v) (q : Nat) : ak_c d S p hr q + ak_m (ak_E d) f q (pw_n d 1) ≤ ak_c d S p hr q + ak_m (ak_E d) (ak_b d S p hr j) q (pw_n d 1) := Nat.add_le_add_left (ak_m_mono _ hb) _
theorem s175_40 {j v6 : Nat} (hL : pc_lo L) (hd : pc_L h L d) (ho : pw_ok d) (hS : pc_S h 21 S) (hb : pw_S S) (h0 : S 0 < 100000) (hp : p < pw_n d 3) (hh : hr < 24) {to : Nat} {g : am_H} {f : Nat → Nat} (kp : am_kp ps_C h g) (hf : ak_r g 41 1000 f) (hj : ak_ju d S p hr 1000 f) (hB : ∀ v, v < pw_n d 1 → f v ≤ ak_b d S p hr j v) :
    ∃ g', am_vn am_M 3 175 40 [some (.ref 37), some (.ref L), some (.ref 20), some (.int (nI p)), some (.int (nI to)), some (.int (nI hr)), some (.int (nI v6)), some (.int (nI 0)), none] [] g = am_vn am_M 3 175 28 [some (.ref 37), some (.ref L), some (.ref 20), some (.int (nI p)), some (.int (nI to)), some (.int (nI hr)), some (.int (nI (v6 + 1))), none, none] [] g' ∧ am_kp ps_C h g' ∧ ∃ f', ak_r g' 41 1000 f' ∧ ak_ju d S p hr 1000 f' ∧ ∀ v, v < pw_n d 1 → f' v ≤ ak_b d S p hr (j + 1) v := by
  have h9 := ho.1.2.1
  obtain ⟨g2, e, kp2, f2, hf2, hj2, hA2, hB2⟩ := am_for0 (fun k (g' : am_H) => am_vn am_M 3 175 40 [some (.ref 37), some (.ref L), some (.ref 20), some (.int (nI p)), some (.int (nI to)), some (.int (nI hr)), some (.int (nI v6)), some (.int (nI k)), none] [] g') (fun k g' => am_kp ps_C h g' ∧ ∃ f', ak_r g' 41 1000 f' ∧ ak_ju d S p hr 1000 f' ∧ (∀ v, v < pw_n d 1 → f' v ≤ ak_b d S p hr j v) ∧ ∀ v, v < k → f' v ≤ ak_b d S p hr (j + 1) v) (pw_n d 1) g ⟨kp, f, hf, hj, hB, fun v hv => absurd hv (Nat.not_lt_zero v)⟩ (fun q g' hq hg => by
    obtain ⟨k1, f1, r1, j1, a1, b1⟩ := hg
    have hd1 := hd.kp k1 (fun i k hi => ps_CL hL i k hi)
    obtain ⟨v, g2, e2, hv, k2⟩ := s103 (a := q) hL pc_so20 hd1 ho (hS.kp k1 (fun k => ps_C_f (by omega))) hb h0 hp hq hh
    have k3 : am_kp ps_C h g2 := k1.trans (k2.up fun i k => ps_0C)
    have r2 : ak_r g2 41 1000 f1 := fun v hv => ⟨(r1 v hv).1, by rw [k2.get 41 v (ps_0_f (by omega))]; exact (r1 v hv).2⟩
    have hd2 := hd.kp k3 (fun i k hi => ps_CL hL i k hi)
    have hm := ak_m_1000 (ak_E d) f1 q (pw_n d 1)
    have hc1 := ak_c_1 d S p hr q
    have fq := r2 q (by omega)
    have hlow := ak_low_c (S := S) (hr := hr) (j := j) ho hp a1 q
    have hBq : ak_b d S p hr (j + 1) q = min (ak_b d S p hr j q) (ak_c d S p hr q + ak_m (ak_E d) (ak_b d S p hr j) q (pw_n d 1)) := rfl
    have haq := a1 q hq
    have fin : am_vn am_M 3 175 67 [some (.ref 37), some (.ref L), some (.ref 20), some (.int (nI p)), some (.int (nI to)), some (.int (nI hr)), some (.int (nI v6)), some (.int (nI q)), none] [(.int (nI (ak_c d S p hr q)))] g2 = am_vn am_M 3 175 40 [some (.ref 37), some (.ref L), some (.ref 20), some (.int (nI p)), some (.int (nI to)), some (.int (nI hr)), some (.int (nI v6)), some (.int (nI (q + 1))), none] [] (am_sI g2 41 q (nI (min (f1 q) (ak_c d S p hr q + ak_m (ak_E d) f1 q (pw_n d 1))))) := by
      rw [e175_67, at_ok (r := 41) (n := 9) rfl (by omega) (by omega) (show q < 9 by omega), am_bI_ok, s176 hL hd2 ho r2 hq, am_bI_ok, fq.2, nI_add, pz_min (by omega) (by omega), put_ok (r := 41) (n := 9) rfl (by omega) (by omega) (show q < 9 by omega), am_bV_ok, pz_succ]
    refine ⟨am_sI g2 41 q (nI (min (f1 q) (ak_c d S p hr q + ak_m (ak_E d) f1 q (pw_n d 1)))), ?_, k3.sI _ (ps_C_t (by omega)), pu f1 q (min (f1 q) (ak_c d S p hr q + ak_m (ak_E d) f1 q (pw_n d 1))), fun v hv => ?_, fun v hv h6 => ?_, fun v hv => ?_, fun v hv => ?_⟩
    · rw [e175_40, pc_lch hL, show am_I g' L 12 = nI (pw_n d 1) from hd1.1 1 (by omega), if_neg (nI_ge hq (by omega)), pc_lch hL, e2, am_bI_ok, hv]
      refine Eq.trans ?_ fin
      unfold ak_c
      by_cases cc : pa_ok d S p q hr = true
      · rw [if_pos cc, if_neg (show ¬ nI 1 = 0 by decide), if_pos cc]
      · rw [if_neg cc, if_pos (show nI 0 = 0 from rfl), if_neg cc]
    · rw [am_I_sc]
      unfold pu
      by_cases e : v = q
      · rw [if_pos (show 41 = 41 ∧ v = q from ⟨rfl, e⟩), if_pos e]; exact ⟨by omega, rfl⟩
      · rw [if_neg (show ¬ (41 = 41 ∧ v = q) from fun h => e h.2), if_neg e]; exact r2 v hv
    · unfold pu at h6 ⊢
      by_cases e : v = q
      · rw [if_pos e] at h6 ⊢
        rw [e]
        rcases Nat.lt_or_ge (ak_c d S p hr q + ak_m (ak_E d) f1 q (pw_n d 1)) (f1 q) with l | l
        · rw [Nat.min_eq_right (by omega)] at h6 ⊢
          rcases ak_m_or (ak_E d) f1 q (pw_n d 1) with em | ⟨a, ha, hea, em⟩
          · omega
          · rw [em] at h6 ⊢
            rw [Nat.add_comm]
            exact (j1 a ha (by omega)).step ha hq hea
        · rw [Nat.min_eq_left l] at h6 ⊢
          exact j1 q hq h6
      · rw [if_neg e] at h6 ⊢; exact j1 v hv h6
    · unfold pu
      by_cases e : v = q
      · rw [if_pos e, e]; omega
      · rw [if_neg e]; exact a1 v hv
    · unfold pu
      by_cases e : v = q
      · rw [if_pos e, e]; omega
      · rw [if_neg e]; exact b1 v (by omega))
  refine ⟨g2, ?_, kp2, f2, hf2, hj2, hB2⟩
  have hd2 := hd.kp kp2 (fun i k hi => ps_CL hL i k hi)
  refine Eq.trans e ?_
  rw [e175_40, pc_lch hL, show am_I g2 L 12 = nI (pw_n d 1) from hd2.1 1 (by omega), if_pos (nI_le (Nat.le_refl _) (by omega)), pz_succ]
theorem s175 {to k : Nat} (hL : pc_lo L) (hd : pc_L h L d) (ho : pw_ok d) (hS : pc_S h 21 S) (hb : pw_S S) (h0 : S 0 < 100000) (hp : p < pw_n d 3) (ht : to < pw_n d 1) (hh : hr < 24) (hk : k + 1 = pw_n d 1) :
    am_RI (am_run am_M 175 [.ref 37, .ref L, .ref 20, .int (nI p), .int (nI to), .int (nI hr)] h) (fun u g => u = pn_o (ak_b d S p hr k to) 999 ∧ am_kp ps_C h g) := by
  have h9 := ho.1.2.1
  have h6 := ho.1.2.2.2.1
  have hh3 := (ho.2.2.1 p hp).2
  have hlt := pc_llt hL
  rw [e175, fill_ok (r := 41) (n := 9) (m := 9) rfl (by omega) (by omega) (by omega), am_bV_ok, pc_lch hL, s93 hL (by omega), am_bI_ok, am_I_w1 _ _ _ (show L + 4 ≠ 41 by unfold pc_lo at hL; omega), (hd.2.2.1 p hp).2, put_ok (r := 41) (n := 9) rfl (by omega) (by omega) (show pw_t d 3 p < 9 by omega), am_bV_ok, pz_sI_wr]
  have k1 : am_kp ps_C h (pz_wr h 41 (fun b => if b = pw_t d 3 p then nI 0 else if b < 9 then nI 1000 else am_I h 41 b)) := (am_kp.refl ps_C h).wr _ (fun k => ps_C_t (by omega))
  have r1 : ak_r (pz_wr h 41 (fun b => if b = pw_t d 3 p then nI 0 else if b < 9 then nI 1000 else am_I h 41 b)) 41 1000 (fun v => if v = pw_t d 3 p then 0 else 1000) := fun v hv => by
    rw [am_I_w]
    by_cases e : v = pw_t d 3 p
    · dsimp only
      rw [if_pos e, if_pos e]; exact ⟨by omega, rfl⟩
    · dsimp only
      rw [if_neg e, if_neg e, if_pos hv]; exact ⟨Nat.le_refl _, rfl⟩
  generalize pz_wr h 41 (fun b => if b = pw_t d 3 p then nI 0 else if b < 9 then nI 1000 else am_I h 41 b) = g1 at k1 r1 ⊢
  obtain ⟨g2, e, kp2, f2, hf2, hj2, hB2⟩ := am_for0 (fun k (g' : am_H) => am_vn am_M 3 175 28 [some (.ref 37), some (.ref L), some (.ref 20), some (.int (nI p)), some (.int (nI to)), some (.int (nI hr)), some (.int (nI (k + 1))), none, none] [] g') (fun k g' => am_kp ps_C h g' ∧ ∃ f', ak_r g' 41 1000 f' ∧ ak_ju d S p hr 1000 f' ∧ ∀ v, v < pw_n d 1 → f' v ≤ ak_b d S p hr k v) k g1 ⟨k1, _, r1, fun v hv h6 => by
      dsimp only at h6 ⊢
      by_cases e : v = pw_t d 3 p
      · rw [if_pos e, e]; exact ak_R.start _ _ _ _
      · rw [if_neg e] at h6; omega, fun v hv => Nat.le_refl _⟩ (fun q g' hq hg => by
    obtain ⟨k1, f1, r1, j1, b1⟩ := hg
    have hd1 := hd.kp k1 (fun i k hi => ps_CL hL i k hi)
    obtain ⟨g2, e2, rest⟩ := s175_40 (j := q) (v6 := q + 1) (to := to) hL hd ho hS hb h0 hp hh k1 r1 j1 b1
    refine ⟨g2, ?_, rest⟩
    rw [e175_28, pc_lch hL, show am_I g' L 12 = nI (pw_n d 1) from hd1.1 1 (by omega), if_neg (nI_ge (show q + 1 < pw_n d 1 by omega) (by omega))]
    exact e2)
  have hd2 := hd.kp kp2 (fun i k hi => ps_CL hL i k hi)
  have ft := hf2 to (by omega)
  have ev : f2 to = ak_b d S p hr k to := ak_eq_c hh3 hk hB2 hj2 ht
  refine Eq.mpr (congrArg (fun o => am_RI o _) (show am_vn am_M 3 175 28 [some (.ref 37), some (.ref L), some (.ref 20), some (.int (nI p)), some (.int (nI to)), some (.int (nI hr)), some (.int (nI 1)), none, none] [] g1 = _ from e)) ?_
  rw [e175_28, pc_lch hL, show am_I g2 L 12 = nI (pw_n d 1) from hd2.1 1 (by omega), if_pos (nI_le (by omega) (by omega)), at_ok (r := 41) (n := 9) rfl (by omega) (by omega) (show to < 9 by omega), am_bI_ok, ft.2]
  by_cases cc : f2 to ≤ 999
  · rw [if_neg (nI_ge (by omega) (by omega)), at_ok (r := 41) (n := 9) rfl (by omega) (by omega) (show to < 9 by omega), am_bI_ok, ft.2]
    refine ⟨_, _, rfl, ?_, kp2⟩
    unfold pn_o
    rw [← ev, if_pos cc]
  · rw [if_pos (nI_le (by omega) (by omega))]
    refine ⟨_, _, rfl, ?_, kp2⟩
    unfold pn_o
    rw [← ev, if_neg cc]
end
