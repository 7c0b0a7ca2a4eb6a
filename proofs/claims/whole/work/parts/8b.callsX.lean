/-! CALLS: walks -/
def wk_is (T : Nat → Nat → Nat → Nat) (N x s : Nat) (F : Nat → Nat) : Prop := ∀ v, F v ≤ 96 ∧ (∀ t, wk_R T N x s v t → F v ≤ t) ∧ (F v < 96 → wk_R T N x s v (F v))
theorem wk_least (T : Nat → Nat → Nat → Nat) (N x s : Nat) : ∃ F, wk_is T N x s F := by
  have one : ∀ v, ∃ m, m ≤ 96 ∧ (∀ t, wk_R T N x s v t → m ≤ t) ∧ (m < 96 → wk_R T N x s v m) := by
    intro v
    have key : ∀ k, k ≤ 96 → (∃ m, m < k ∧ (∀ t, wk_R T N x s v t → m ≤ t) ∧ wk_R T N x s v m) ∨ ∀ t, wk_R T N x s v t → k ≤ t := by
      intro k
      induction k with
      | zero => intro _; exact Or.inr (fun _ _ => Nat.zero_le _)
      | succ k ih =>
        intro hk
        rcases ih (by omega) with ⟨m, hm, a, b⟩ | a
        · exact Or.inl ⟨m, by omega, a, b⟩
        · rcases Classical.em (wk_R T N x s v k) with c | c
          · exact Or.inl ⟨k, by omega, a, c⟩
          · refine Or.inr (fun t ht => ?_)
            have := a t ht
            rcases Nat.lt_or_ge k t with h | h
            · exact h
            · rw [show t = k by omega] at ht; exact absurd ht c
    rcases key 96 (Nat.le_refl _) with ⟨m, hm, a, b⟩ | a
    · exact ⟨m, by omega, a, fun _ => b⟩
    · exact ⟨96, Nat.le_refl _, a, fun h => absurd h (by omega)⟩
  exact ⟨fun v => Classical.choose (one v), fun v => Classical.choose_spec (one v)⟩
theorem wk_is.eq {T : Nat → Nat → Nat → Nat} {N x s : Nat} {F g : Nat → Nat} (hT : wk_T T) (hF : wk_is T N x s F) (hj : wk_ju T N x s g) (hc : wk_cl T N g) (hx : g x ≤ s) {v : Nat} (hv : v < N) (h96 : g v ≤ 96) : g v = F v := by
  obtain ⟨a, b, c⟩ := hF v
  have h1 : F v ≤ g v := by
    rcases Nat.lt_or_ge (g v) 96 with h | h
    · exact b _ (hj v hv h)
    · omega
  have h2 : g v ≤ F v := by
    rcases Nat.lt_or_ge (F v) 96 with h | h
    · exact wk_low hT hc hx (c h)
    · omega
  omega
theorem wk_to0 (A v : Nat) (hA : A = 0) : wk_to 0 A v = v := by
  unfold wk_to
  rw [hA, Nat.zero_and, Nat.or_zero, Nat.zero_mul, Nat.zero_add]
theorem wk_e0 {d : pw_L} {S : Nat → Nat} {p a v s : Nat} (ha : a < pw_n d 1) (hv : v < pw_n d 1) (h9 : pw_n d 1 ≤ 9) : wk_e d S p 0 a v s = wk_s d S p a v s := by
  unfold wk_e
  rw [show a / 9 = 0 by omega, show a % 9 = a by omega, show v % 9 = v by omega, wk_to0 0 v rfl, if_pos ⟨rfl, ha, hv⟩]
theorem wk_R0 {d : pw_L} {S : Nat → Nat} {p x s v t : Nat} (h9 : pw_n d 1 ≤ 9) (hx : x < pw_n d 1) (r : wk_R (wk_e d S p 0) 9 x s v t) (ht : t < 96) : wk_R (wk_s d S p) (pw_n d 1) x s v t := by
  have : t < 96 → v < pw_n d 1 ∧ wk_R (wk_s d S p) (pw_n d 1) x s v t := r (fun v t => t < 96 → v < pw_n d 1 ∧ wk_R (wk_s d S p) (pw_n d 1) x s v t) (fun _ => ⟨hx, wk_R.start _ _ _ _⟩) fun a v t ha hv h1 h2 h3 => by
    have hh := h1 h2
    have hvn : v < pw_n d 1 := by
      unfold wk_e at h3
      by_cases c : v = wk_to 0 (a / 9) (v % 9) ∧ a % 9 < pw_n d 1 ∧ v % 9 < pw_n d 1
      · have := c.2.2; omega
      · rw [if_neg c] at h3; omega
    rw [wk_e0 hh.1 hvn h9]
    exact ⟨hvn, hh.2.step hh.1 hvn h2⟩
  exact (this ht).2
section
variable {h : am_H} {d : pw_L} {S : Nat → Nat} {p L s r : Nat} {F : Nat → Nat}
theorem s165 (hL : pc_lo L) (hd : pc_L h L d) (ho : pw_ok d) (hS : pc_S h 21 S) (hb : pw_S S) (h0 : S 0 < 100000) (hp : p < pw_n d 3) (hs : s < 24) (hF : wk_is (wk_s d S p) (pw_n d 1) (pw_t d 3 p) s F) :
    am_RV (am_run am_M 165 [.ref 37, .ref L, .ref 20, .int (nI p), .int (nI s)] h) (fun g => am_kp ps_V h g ∧ ∀ v, v < pw_n d 1 → am_I g 39 v = nI (F v)) := by
  have h9 := ho.1.2.1
  have hh := (ho.2.2.1 p hp).2
  rw [e165]
  refine pz_VV (s166 (tgt := 0) (N := 9) hL hd ho hS hb h0 hp (by omega) hs rfl) fun g hg => ?_
  obtain ⟨k, f, r, p1, p2, p3⟩ := hg
  rw [wk_to0 0 _ rfl] at p1 p2
  refine ⟨g, rfl, k, fun v hv => ?_⟩
  have rv := r v (by omega)
  rw [rv.2, wk_is.eq (wk_s_T d S p) hF (fun v hv h6 => wk_R0 h9 hh (p1 v (by omega) h6) h6) (fun a v ha hv h6 => by rw [← wk_e0 ha hv h9]; exact p3 a v (by omega) (by omega) h6) p2 hv rv.1]
theorem s171 {v : Nat} (hv : v < 9) (e : am_I h 39 v = nI (F v)) (h96 : F v ≤ 96) : am_run am_M 171 [.ref 37, .int (nI v)] h = some (.inl (some (.int (pn_o (F v) 95))), h) := by
  rw [e171, e172, pk_mul, nI_add, show 0 * 9 + v = v by omega, at_ok (r := 39) (n := 4608) rfl (by omega) (by omega) (show v < 4608 by omega), am_bI_ok, e]
  unfold pn_o
  by_cases c : F v ≤ 95
  · rw [if_neg (nI_ge (by omega) (by omega)), if_pos c]; rfl
  · rw [if_pos (nI_le (by omega) (by omega)), if_neg c]; rfl
theorem s251F (hr : r = 91 ∨ r = 92) (hm : wk_m h d S) (ho : pw_ok d) (hb : pw_S S) (h0 : S 0 < 100000) (hp : p < pw_n d 3) (hs : s < 24) (hF : wk_is (wk_s d S p) (pw_n d 1) (pw_t d 3 p) s F) :
    am_RV (am_run am_M 251 [.ref 60, .int (nI p), .int (nI s), .ref r] h) (fun g => am_kp (ps_w r) h g ∧ ∀ v, v < pw_n d 1 → am_I g r v = nI (wk_9 (F v))) := by
  have h9 := ho.1.2.1
  refine (s251 hr hm ho hb h0 hp hs).mono fun g hg => ?_
  obtain ⟨k, f, r, p1, p2, p3⟩ := hg
  refine ⟨k, fun v hv => ?_⟩
  have rv := r v (by omega)
  rw [rv.2, wk_is.eq (wk_s_T d S p) hF p1 p3 p2 hv rv.1]
theorem s252 {n : Nat} (h96 : n ≤ 96) : am_run am_M 252 [.int (nI (wk_9 n))] h = some (.inl (some (.int (pn_o n 95))), h) := by
  rw [e252]
  unfold wk_9 pn_o
  by_cases c : n < 96
  · rw [if_pos c, if_pos (nI_lt (by omega) (by omega)), if_pos (by omega)]
  · rw [if_neg c, if_neg (nI_nlt (Nat.le_refl _) (by omega)), if_neg (by omega)]
theorem ps_wM {i k : Nat} (hr : r = 91 ∨ r = 92) (h : ps_M i k = false) : ps_w r i k = false := by
  have := of_decide_eq_false h
  exact ps_w_f (ps_m_f (by omega)) (by omega)
end
theorem call_way {w : pw_W} (hw : pw_wf w) (x y zz : Int32) : am_AG 2 (fun e => e) w (fun h => am_run am_M 16 [.ref 0, .int x, .int y, .int zz] h) (fun h => am_run am_M 254 [.ref 60, .int x, .int y, .int zz] h) := by
  obtain ⟨d, S, l, t, im, tp, nb, fp, rf⟩ := w
  have hw0 := hw
  obtain ⟨ho, hS, ha, ht, hi, hnb, htp⟩ := hw
  rcases Classical.em (pz_b x (pw_n d 3)) with hx | hx
  rotate_left
  · refine ⟨1, 0, (d, S, l, t, im, tp, nb, fp, rf), hw0, ⟨by omega, fun hh => by first | exact absurd rfl hh | rfl⟩, fun h hc => ?_, fun h hm => ?_⟩
    · have hc0 := hc
      obtain ⟨⟨L, hL, r1, r2, c1⟩, c2, c3, c4, c5, c6, c7, c8, c9⟩ := hc
      refine am_CO_x (by decide) ?_
      show am_run am_M 16 [.ref 0, .int x, .int y, .int zz] h = _
      rw [e16, c62_f hL r1 c1 ho hx]
      try rfl
    · show am_RI (am_run am_M 254 [.ref 60, .int x, .int y, .int zz] h) _
      obtain ⟨hm0, ht0, hf0⟩ := m_start hm
      rw [e254]
      generalize am_sI h 60 0 (nI 0) = g at hm0 ht0 hf0 ⊢
      dsimp only
      have hm1 := hm0
      obtain ⟨m1, m2, m3, m4, m5, m6, m7, m8, m9, m10, m11, m12⟩ := hm1
      rw [s236_f m1 ho ht0 hx, am_bI_ok, if_pos (by decide)]
      exact ⟨_, _, rfl, am_fin_x hf0 hm0 (by decide)⟩
  obtain ⟨i, hx, rfl⟩ := hx
  rcases Classical.em (pz_b y (pw_n d 1)) with hy | hy
  rotate_left
  · refine ⟨1, 0, (d, S, l, t, im, tp, nb, fp, rf), hw0, ⟨by omega, fun hh => by first | exact absurd rfl hh | rfl⟩, fun h hc => ?_, fun h hm => ?_⟩
    · have hc0 := hc
      obtain ⟨⟨L, hL, r1, r2, c1⟩, c2, c3, c4, c5, c6, c7, c8, c9⟩ := hc
      refine am_CO_x (by decide) ?_
      show am_run am_M 16 [.ref 0, .int (nI i), .int y, .int zz] h = _
      rw [e16, c62_t hL r1 c1 ho hx, am_bV_ok, c61_f hL r1 c1 ho hy]
      try rfl
    · show am_RI (am_run am_M 254 [.ref 60, .int (nI i), .int y, .int zz] h) _
      obtain ⟨hm0, ht0, hf0⟩ := m_start hm
      rw [e254]
      generalize am_sI h 60 0 (nI 0) = g at hm0 ht0 hf0 ⊢
      dsimp only
      have hm1 := hm0
      obtain ⟨m1, m2, m3, m4, m5, m6, m7, m8, m9, m10, m11, m12⟩ := hm1
      rw [s236_t m1 ho ht0 hx, am_bI_ok, if_neg (by decide), s235_f m1 ho ht0 hy, am_bI_ok, if_pos (by decide)]
      exact ⟨_, _, rfl, am_fin_x hf0 hm0 (by decide)⟩
  obtain ⟨j, hy, rfl⟩ := hy
  rcases Classical.em (pz_b zz 24) with hzz | hzz
  rotate_left
  · refine ⟨2, 0, (d, S, l, t, im, tp, nb, fp, rf), hw0, ⟨by omega, fun hh => by first | exact absurd rfl hh | rfl⟩, fun h hc => ?_, fun h hm => ?_⟩
    · have hc0 := hc
      obtain ⟨⟨L, hL, r1, r2, c1⟩, c2, c3, c4, c5, c6, c7, c8, c9⟩ := hc
      refine am_CO_x (by decide) ?_
      show am_run am_M 16 [.ref 0, .int (nI i), .int (nI j), .int zz] h = _
      rw [e16, c62_t hL r1 c1 ho hx, am_bV_ok, c61_t hL r1 c1 ho hy, am_bV_ok, c65_f (m := 23) (by omega) hzz]
      try rfl
    · show am_RI (am_run am_M 254 [.ref 60, .int (nI i), .int (nI j), .int zz] h) _
      obtain ⟨hm0, ht0, hf0⟩ := m_start hm
      rw [e254]
      generalize am_sI h 60 0 (nI 0) = g at hm0 ht0 hf0 ⊢
      dsimp only
      have hm1 := hm0
      obtain ⟨m1, m2, m3, m4, m5, m6, m7, m8, m9, m10, m11, m12⟩ := hm1
      rw [s236_t m1 ho ht0 hx, am_bI_ok, if_neg (by decide), s235_t m1 ho ht0 hy, am_bI_ok, if_neg (by decide), s253_f ht0 hzz, am_bI_ok, if_pos (by decide)]
      exact ⟨_, _, rfl, am_fin_x hf0 hm0 (by decide)⟩
  obtain ⟨n, hzz, rfl⟩ := hzz
  have h6 := ho.1.2.2.2.1
  have h4 := ho.1.1
  have hd9 := hS.2.1
  have h9 := ho.1.2.1
  obtain ⟨F, hF⟩ := wk_least (wk_s d S i) (pw_n d 1) (pw_t d 3 i) n
  have F96 : ∀ v, F v ≤ 96 := fun v => (hF v).1
  refine ⟨0, (pn_o (F j) 95), (d, S, l, t, im, tp, nb, fp, rf), hw0, ⟨by omega, fun hh => by first | exact absurd rfl hh | rfl⟩, fun h hc => ?_, fun h hm => ?_⟩
  · have hc0 := hc
    obtain ⟨⟨L, hL, r1, r2, c1⟩, c2, c3, c4, c5, c6, c7, c8, c9⟩ := hc
    refine am_CO_0 ?_
    show am_RI (am_run am_M 16 [.ref 0, .int (nI i), .int (nI j), .int (nI n)] h) _
    rw [e16, c62_t hL r1 c1 ho hx, am_bV_ok, c61_t hL r1 c1 ho hy, am_bV_ok, c65_t (m := 23) (by omega) hzz, am_bV_ok]
    rw [r1, am_gr_n]
    refine pz_VI (s165 hL c1 ho c2 hS.1 (by omega) hx hzz hF) fun g hg => ?_
    obtain ⟨k, hf⟩ := hg
    have fin := am_fin_c hc0 (k.up fun i k => ps_VC)
    rw [s171 (F := F) (by omega) (hf j hy) (F96 j), am_bI_ok]
    exact ⟨_, _, rfl, rfl, fin⟩
  · show am_RI (am_run am_M 254 [.ref 60, .int (nI i), .int (nI j), .int (nI n)] h) _
    obtain ⟨hm0, ht0, hf0⟩ := m_start hm
    rw [e254]
    generalize am_sI h 60 0 (nI 0) = g at hm0 ht0 hf0 ⊢
    dsimp only
    have hm1 := hm0
    obtain ⟨m1, m2, m3, m4, m5, m6, m7, m8, m9, m10, m11, m12⟩ := hm1
    rw [s236_t m1 ho ht0 hx, am_bI_ok, if_neg (by decide), s235_t m1 ho ht0 hy, am_bI_ok, if_neg (by decide), s253_t ht0 hzz, am_bI_ok, if_neg (by decide)]
    have hwm : wk_m g d S := ⟨m1, m2, m10⟩
    refine pz_VI (s251F (r := 91) (Or.inl rfl) hwm ho hS.1 (by omega) hx hzz hF) fun g2 hg => ?_
    obtain ⟨k, hf⟩ := hg
    have kM : am_kp ps_M g g2 := k.up fun i k h => ps_wM (Or.inl rfl) h
    have ht2 : am_I g2 60 0 = nI 0 := (k.get 60 0 (ps_w_f (ps_m_f (by omega)) (by omega))).trans ht0
    rw [ml_91 (by omega), hf j hy, s252 (F96 j), am_bI_ok]
    exact ⟨_, _, rfl, am_fin_m hf0 hm0 kM ht2 (fun _ => rfl)⟩
theorem call_edge {w : pw_W} (hw : pw_wf w) (x zz : Int32) : am_AG 2 (fun e => e) w (fun h => am_run am_M 28 [.ref 0, .int x, .int zz] h) (fun h => am_run am_M 261 [.ref 60, .int x, .int zz] h) := by
  obtain ⟨d, S, l, t, im, tp, nb, fp, rf⟩ := w
  have hw0 := hw
  obtain ⟨ho, hS, ha, ht, hi, hnb, htp⟩ := hw
  rcases Classical.em (pz_b x (pw_n d 3)) with hx | hx
  rotate_left
  · refine ⟨1, 0, (d, S, l, t, im, tp, nb, fp, rf), hw0, ⟨by omega, fun hh => by first | exact absurd rfl hh | rfl⟩, fun h hc => ?_, fun h hm => ?_⟩
    · have hc0 := hc
      obtain ⟨⟨L, hL, r1, r2, c1⟩, c2, c3, c4, c5, c6, c7, c8, c9⟩ := hc
      refine am_CO_x (by decide) ?_
      show am_run am_M 28 [.ref 0, .int x, .int zz] h = _
      rw [e28, c62_f hL r1 c1 ho hx]
      try rfl
    · show am_RI (am_run am_M 261 [.ref 60, .int x, .int zz] h) _
      obtain ⟨hm0, ht0, hf0⟩ := m_start hm
      rw [e261]
      generalize am_sI h 60 0 (nI 0) = g at hm0 ht0 hf0 ⊢
      dsimp only
      have hm1 := hm0
      obtain ⟨m1, m2, m3, m4, m5, m6, m7, m8, m9, m10, m11, m12⟩ := hm1
      rw [s236_f m1 ho ht0 hx, am_bI_ok, if_pos (by decide)]
      exact ⟨_, _, rfl, am_fin_x hf0 hm0 (by decide)⟩
  obtain ⟨i, hx, rfl⟩ := hx
  rcases Classical.em (pz_b zz 24) with hzz | hzz
  rotate_left
  · refine ⟨2, 0, (d, S, l, t, im, tp, nb, fp, rf), hw0, ⟨by omega, fun hh => by first | exact absurd rfl hh | rfl⟩, fun h hc => ?_, fun h hm => ?_⟩
    · have hc0 := hc
      obtain ⟨⟨L, hL, r1, r2, c1⟩, c2, c3, c4, c5, c6, c7, c8, c9⟩ := hc
      refine am_CO_x (by decide) ?_
      show am_run am_M 28 [.ref 0, .int (nI i), .int zz] h = _
      rw [e28, c62_t hL r1 c1 ho hx, am_bV_ok, c65_f (m := 23) (by omega) hzz]
      try rfl
    · show am_RI (am_run am_M 261 [.ref 60, .int (nI i), .int zz] h) _
      obtain ⟨hm0, ht0, hf0⟩ := m_start hm
      rw [e261]
      generalize am_sI h 60 0 (nI 0) = g at hm0 ht0 hf0 ⊢
      dsimp only
      have hm1 := hm0
      obtain ⟨m1, m2, m3, m4, m5, m6, m7, m8, m9, m10, m11, m12⟩ := hm1
      rw [s236_t m1 ho ht0 hx, am_bI_ok, if_neg (by decide), s253_f ht0 hzz, am_bI_ok, if_pos (by decide)]
      exact ⟨_, _, rfl, am_fin_x hf0 hm0 (by decide)⟩
  obtain ⟨n, hzz, rfl⟩ := hzz
  have h6 := ho.1.2.2.2.1
  have h4 := ho.1.1
  have hd9 := hS.2.1
  have h9 := ho.1.2.1
  obtain ⟨F, hF⟩ := wk_least (wk_s d S i) (pw_n d 1) (pw_t d 3 i) n
  have F96 : ∀ v, F v ≤ 96 := fun v => (hF v).1
  refine ⟨0, (pn_o (pz_arg (fun v => if pw_t d 0 v = 2 then F v else 96) 96 (pw_n d 1)).1 20), (d, S, l, t, im, tp, nb, fp, rf), hw0, ⟨by omega, fun hh => by first | exact absurd rfl hh | rfl⟩, fun h hc => ?_, fun h hm => ?_⟩
  · have hc0 := hc
    obtain ⟨⟨L, hL, r1, r2, c1⟩, c2, c3, c4, c5, c6, c7, c8, c9⟩ := hc
    refine am_CO_0 ?_
    show am_RI (am_run am_M 28 [.ref 0, .int (nI i), .int (nI n)] h) _
    rw [e28, c62_t hL r1 c1 ho hx, am_bV_ok, c65_t (m := 23) (by omega) hzz, am_bV_ok]
    rw [r1, am_gr_n]
    refine pz_VI (s165 hL c1 ho c2 hS.1 (by omega) hx hzz hF) fun g hg => ?_
    obtain ⟨k, hf⟩ := hg
    have fin := am_fin_c hc0 (k.up fun i k => ps_VC)
    have hd := c1.kp k (fun i k hi => ps_V_f (ps_0L hL i k hi) (by unfold pc_rl at hi; unfold pc_lo at hL; omega))
    obtain ⟨g2, e, hp⟩ := am_for0 (fun k (g' : am_H) => am_vn am_M 6 28 33 [some (.ref 0), none, none, some (.int (pn_o (pz_arg (fun v => if pw_t d 0 v = 2 then F v else 96) 96 k).1 20)), some (.int (nI k)), none] [] g') (fun _ g' => g' = g) (pw_n d 1) g rfl (fun q g' hq hg => by
      subst hg
      have hkd := (ho.2.1 q hq).1
      have fq := F96 q
      have hor := pz_arg_or (fun v => if pw_t d 0 v = 2 then F v else 96) 96 q
      have hal := pz_arg_le (fun v => if pw_t d 0 v = 2 then F v else 96) 96 q
      refine ⟨g', ?_, rfl⟩
      rw [e28_33, k.R, r1, am_gr_n, pc_lch hL, show am_I g' L 12 = nI (pw_n d 1) from hd.1 1 (by omega), if_neg (nI_ge hq (by omega)), s171 (F := F) (by omega) (hf q hq) fq, am_bI_ok, k.R, r1, am_gr_n, pc_lch hL, s90 hL (by omega), am_bI_ok, (hd.2.1 q hq).1, pz_arg]
      by_cases ck : pw_t d 0 q = 2
      · rw [if_pos (by rw [ck]), if_pos ck]
        by_cases c9 : F q ≤ 95
        · rw [show pn_o (F q) 95 = nI (F q) from if_pos c9, if_neg (pz_neg1 (by omega))]
          rcases hor with e0 | ⟨o1, o2, o3⟩
          · rw [e0, if_pos (show pn_o (1000, 96).1 20 = (-1 : Int32) from rfl), if_pos (show F q < (1000, 96).2 from by show _ < 96; omega), pz_succ, show pn_o (q, F q).1 20 = nI q from if_pos (by show q ≤ 20; omega)]
          · have hfb : (pz_arg (fun v => if pw_t d 0 v = 2 then F v else 96) 96 q).2 = F (pz_arg (fun v => if pw_t d 0 v = 2 then F v else 96) 96 q).1 := by
              rw [o2] at o3 ⊢
              try dsimp only at o3 ⊢
              split at o3
              · rename_i z; rw [if_pos z]
              · omega
            rw [show pn_o (pz_arg (fun v => if pw_t d 0 v = 2 then F v else 96) 96 q).1 20 = nI (pz_arg (fun v => if pw_t d 0 v = 2 then F v else 96) 96 q).1 from if_pos (by omega), if_neg (pz_neg1 (by omega)), s171 (F := F) (by omega) (hf _ (show (pz_arg (fun v => if pw_t d 0 v = 2 then F v else 96) 96 q).1 < pw_n d 1 by omega)) (F96 _), am_bI_ok, ← hfb, show pn_o (pz_arg (fun v => if pw_t d 0 v = 2 then F v else 96) 96 q).2 95 = nI (pz_arg (fun v => if pw_t d 0 v = 2 then F v else 96) 96 q).2 from if_pos (by omega)]
            by_cases cl : F q < (pz_arg (fun v => if pw_t d 0 v = 2 then F v else 96) 96 q).2
            · rw [if_neg (nI_ge cl (by omega)), if_pos cl, pz_succ, show pn_o (q, F q).1 20 = nI q from if_pos (by show q ≤ 20; omega)]
            · rw [if_pos (nI_le (by omega) (by omega)), if_neg cl, pz_succ, show pn_o (pz_arg (fun v => if pw_t d 0 v = 2 then F v else 96) 96 q).1 20 = nI (pz_arg (fun v => if pw_t d 0 v = 2 then F v else 96) 96 q).1 from if_pos (by omega)]
        · rw [show pn_o (F q) 95 = (-1 : Int32) from if_neg c9, if_pos rfl, if_neg (show ¬ F q < (pz_arg (fun v => if pw_t d 0 v = 2 then F v else 96) 96 q).2 by omega), pz_succ]
      · rw [if_neg (fun e => ck ((nI_eq (by omega) (by omega)).mp e)), if_neg ck, if_neg (show ¬ 96 < (pz_arg (fun v => if pw_t d 0 v = 2 then F v else 96) 96 q).2 by omega), pz_succ])
    subst hp
    refine Eq.mpr (congrArg (fun o => am_RI o _) e) ?_
    rw [e28_33, k.R, r1, am_gr_n, pc_lch hL, show am_I g2 L 12 = nI (pw_n d 1) from hd.1 1 (by omega), if_pos (nI_le (Nat.le_refl _) (by omega))]
    exact ⟨_, _, rfl, rfl, fin⟩
  · show am_RI (am_run am_M 261 [.ref 60, .int (nI i), .int (nI n)] h) _
    obtain ⟨hm0, ht0, hf0⟩ := m_start hm
    rw [e261]
    generalize am_sI h 60 0 (nI 0) = g at hm0 ht0 hf0 ⊢
    dsimp only
    have hm1 := hm0
    obtain ⟨m1, m2, m3, m4, m5, m6, m7, m8, m9, m10, m11, m12⟩ := hm1
    rw [s236_t m1 ho ht0 hx, am_bI_ok, if_neg (by decide), s253_t ht0 hzz, am_bI_ok, if_neg (by decide)]
    have hwm : wk_m g d S := ⟨m1, m2, m10⟩
    refine pz_VI (s251F (r := 91) (Or.inl rfl) hwm ho hS.1 (by omega) hx hzz hF) fun g2 hg => ?_
    obtain ⟨k, hf⟩ := hg
    have kM : am_kp ps_M g g2 := k.up fun i k h => ps_wM (Or.inl rfl) h
    have ht2 : am_I g2 60 0 = nI 0 := (k.get 60 0 (ps_w_f (ps_m_f (by omega)) (by omega))).trans ht0
    have hd := m1.kp k (fun i k hi => ps_w_f (ps_m_f (by omega)) (by omega))
    obtain ⟨g3, e, hp⟩ := am_for0 (fun k (g' : am_H) => am_vn am_M 5 261 38 [some (.ref 60), none, none, some (.int (pn_o (pz_arg (fun v => if pw_t d 0 v = 2 then F v else 96) 96 k).1 20)), some (.int (nI k))] [] g') (fun _ g' => g' = g2) (pw_n d 1) g2 rfl (fun q g' hq hg => by
      subst hg
      have hkd := (ho.2.1 q hq).1
      have fq := F96 q
      have hor := pz_arg_or (fun v => if pw_t d 0 v = 2 then F v else 96) 96 q
      have hal := pz_arg_le (fun v => if pw_t d 0 v = 2 then F v else 96) 96 q
      have hq9 := wk_9_le (F q)
      refine ⟨g', ?_, rfl⟩
      rw [e261_38, show am_I g' 60 2 = nI (pw_n d 1) from hd.1 1 (by omega), if_neg (nI_ge hq (by omega)), ml_62 (by omega), (hd.2.1 q hq).1, pz_arg]
      by_cases ck : pw_t d 0 q = 2
      · rw [if_pos (by rw [ck]), if_pos ck, ml_91 (by omega), hf q hq]
        by_cases c9 : F q < 96
        · have e9 : wk_9 (F q) = F q := if_pos c9
          rw [e9, if_neg (nI_ge (by omega) (by omega))]
          rcases hor with e0 | ⟨o1, o2, o3⟩
          · rw [e0, if_pos (show pn_o (1000, 96).1 20 = (-1 : Int32) from rfl), if_pos (show F q < (1000, 96).2 from by show _ < 96; omega), pz_succ, show pn_o (q, F q).1 20 = nI q from if_pos (by show q ≤ 20; omega)]
          · have hfb : (pz_arg (fun v => if pw_t d 0 v = 2 then F v else 96) 96 q).2 = F (pz_arg (fun v => if pw_t d 0 v = 2 then F v else 96) 96 q).1 := by
              rw [o2] at o3 ⊢
              try dsimp only at o3 ⊢
              split at o3
              · rename_i z; rw [if_pos z]
              · omega
            have e9b : wk_9 (F (pz_arg (fun v => if pw_t d 0 v = 2 then F v else 96) 96 q).1) = (pz_arg (fun v => if pw_t d 0 v = 2 then F v else 96) 96 q).2 := by rw [← hfb]; exact if_pos (by omega)
            rw [show pn_o (pz_arg (fun v => if pw_t d 0 v = 2 then F v else 96) 96 q).1 20 = nI (pz_arg (fun v => if pw_t d 0 v = 2 then F v else 96) 96 q).1 from if_pos (by omega), if_neg (pz_neg1 (by omega)), ml_91 (by omega), hf q hq, e9, ml_91 (by omega), hf _ (show (pz_arg (fun v => if pw_t d 0 v = 2 then F v else 96) 96 q).1 < pw_n d 1 by omega), e9b]
            by_cases cl : F q < (pz_arg (fun v => if pw_t d 0 v = 2 then F v else 96) 96 q).2
            · rw [if_neg (nI_ge cl (by omega)), if_pos cl, pz_succ, show pn_o (q, F q).1 20 = nI q from if_pos (by show q ≤ 20; omega)]
            · rw [if_pos (nI_le (by omega) (by omega)), if_neg cl, pz_succ, show pn_o (pz_arg (fun v => if pw_t d 0 v = 2 then F v else 96) 96 q).1 20 = nI (pz_arg (fun v => if pw_t d 0 v = 2 then F v else 96) 96 q).1 from if_pos (by omega)]
        · have e9 : wk_9 (F q) = 9999 := if_neg c9
          rw [e9, if_pos (nI_le (Nat.le_refl _) (by omega)), if_neg (show ¬ F q < (pz_arg (fun v => if pw_t d 0 v = 2 then F v else 96) 96 q).2 by omega), pz_succ]
      · rw [if_neg (fun e => ck ((nI_eq (by omega) (by omega)).mp e)), if_neg ck, if_neg (show ¬ 96 < (pz_arg (fun v => if pw_t d 0 v = 2 then F v else 96) 96 q).2 by omega), pz_succ])
    subst hp
    refine Eq.mpr (congrArg (fun o => am_RI o _) e) ?_
    rw [e261_38, show am_I g3 60 2 = nI (pw_n d 1) from hd.1 1 (by omega), if_pos (nI_le (Nat.le_refl _) (by omega))]
    exact ⟨_, _, rfl, am_fin_m hf0 hm0 kM ht2 (fun _ => rfl)⟩
