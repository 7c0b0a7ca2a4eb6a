/-! CALLS: bargain -/
def bg_5 (a b z v : Nat) : Bool := if a = 1 ∨ v ≠ 0 then !decide (nI 10 * nI b - nI z * nI a < nI 10 * nI b - nI z * (nI 1 - nI a)) else true
def bg_x (s z a : Nat) (b : Int32) : Int32 := if s = 0 then nI z * nI a * nI 1 - nI 4 * b else nI z * nI a * nI 2 - nI 4 * b
def bg_6 (a b z s : Nat) : Bool := !decide (bg_x s z a (nI b) < bg_x s z a (nI 1 - nI b))
def bg_c (a b z v s : Nat) : Bool := (decide (a = 0) || decide (v ≠ 0)) && (bg_5 a b z v && bg_6 a b z s)
def bg_y (s z a : Nat) (b : Int32) : Int32 := if s = 0 then nI a * nI z * nI 1 - nI 4 * b else nI a * nI z * nI 2 - nI 4 * b
def bg_m5 (a b z v : Nat) : Bool := if v = 1 then decide (nI 10 * nI b - (nI 1 - nI a) * nI z ≤ nI 10 * nI b - nI a * nI z) else true
def bg_m6 (a b z s : Nat) : Bool := decide (bg_y s z a (nI 1 - nI b) ≤ bg_y s z a (nI b))
def bg_m (a b z v s : Nat) : Bool := decide (a ≤ v) && (bg_m5 a b z v && bg_m6 a b z s)
theorem bg_eq : ∀ z, z < 100 → ∀ v, v < 2 → ∀ s, s < 2 → ∀ a, a < 2 → ∀ b, b < 2 → bg_c a b z v s = bg_m a b z v s := by decide +kernel
theorem bg_d : ∀ k, k < 4 → nI k / nI 2 = nI (k / 2) ∧ nI k - nI (k / 2) * nI 2 = nI (k % 2) := by decide
def bg_st (z v s : Nat) : Nat → Nat × Nat
  | 0 => (0, 1000)
  | k + 1 => if bg_c (k / 2) (k % 2) z v s = true then ((bg_st z v s k).1 + 1, if (bg_st z v s k).1 = 0 then 10 * (k / 2) + k % 2 else (bg_st z v s k).2) else bg_st z v s k
theorem bg_st_ok (z v s : Nat) : ∀ k, k ≤ 4 → (bg_st z v s k).1 ≤ k ∧ ((bg_st z v s k).1 = 0 ∧ (bg_st z v s k).2 = 1000 ∨ (bg_st z v s k).1 ≠ 0 ∧ (bg_st z v s k).2 ≤ 11)
  | 0, _ => ⟨Nat.le_refl _, Or.inl ⟨rfl, rfl⟩⟩
  | k + 1, h => by
    have ih := bg_st_ok z v s k (by omega)
    rw [bg_st]
    split
    · refine ⟨by show _ + 1 ≤ _; omega, Or.inr ⟨by show _ + 1 ≠ 0; omega, ?_⟩⟩
      have hk : 10 * (k / 2) + k % 2 ≤ 11 := by omega
      show (if _ then _ else _) ≤ 11
      split
      · exact hk
      · omega
    · exact ⟨by omega, ih.2⟩
theorem s53 {a b z v : Nat} {h : am_H} (ha : a < 2) (hv : v < 2) : am_run am_M 53 [.int (nI a), .int (nI b), .int (nI z), .int (nI v)] h = some (.inl (some (.int (nI (if bg_5 a b z v = true then 1 else 0)))), h) := by
  have go : (a = 1 ∨ v ≠ 0) → am_vn am_M 1 53 14 [some (.int (nI a)), some (.int (nI b)), some (.int (nI z)), none, none] [(.int (nI 1))] h = some (.inl (some (.int (nI (if bg_5 a b z v = true then 1 else 0)))), h) := fun c => by
    rw [e53_14, if_neg (show ¬ nI 1 = 0 by decide), e55, am_bI_ok, e55, am_bI_ok]
    unfold bg_5
    rw [if_pos c]
    by_cases cl : nI 10 * nI b - nI z * nI a < nI 10 * nI b - nI z * (nI 1 - nI a)
    · rw [if_pos cl, decide_eq_true cl]; rfl
    · rw [if_neg cl, decide_eq_false cl]; rfl
  rw [e53]
  by_cases c1 : a = 1
  · rw [if_pos (by rw [c1]), go (Or.inl c1)]
  · rw [if_neg (fun e => c1 ((nI_eq (by omega) (by omega)).mp e))]
    by_cases c2 : v = 0
    · rw [if_pos (by rw [c2]; rfl), e53_14, if_pos (by decide), if_pos (by decide)]
      unfold bg_5
      rw [if_neg (show ¬ (a = 1 ∨ v ≠ 0) by omega)]; rfl
    · rw [if_neg (nI_ne0 (by omega) (by omega)), go (Or.inr c2)]
theorem s56 {a z s : Nat} {b : Int32} {h : am_H} (hs : s < 2) : am_run am_M 56 [.int (nI a), .int b, .int (nI z), .int (nI s)] h = some (.inl (some (.int (bg_x s z a b))), h) := by
  rw [e56]
  unfold bg_x
  by_cases c : s = 0
  · rw [if_pos (by rw [c]; rfl), if_pos c]
  · rw [if_neg (nI_ne0 (by omega) (by omega)), if_neg c]
theorem s54 {a b z s : Nat} {h : am_H} (hs : s < 2) : am_run am_M 54 [.int (nI a), .int (nI b), .int (nI z), .int (nI s)] h = some (.inl (some (.int (nI (if bg_6 a b z s = true then 1 else 0)))), h) := by
  rw [e54, s56 hs, am_bI_ok, s56 hs, am_bI_ok]
  unfold bg_6
  by_cases cl : bg_x s z a (nI b) < bg_x s z a (nI 1 - nI b)
  · rw [if_pos cl, decide_eq_true cl]; rfl
  · rw [if_neg cl, decide_eq_false cl]; rfl
theorem s34_95 {z v s f : Nat} (hv : v < 2) (hs : s < 2) (hf : f < 2) (h : am_H) : am_vn am_M 2 34 95 [none, none, none, some (.int (nI z)), some (.int (nI f)), some (.int (nI v)), some (.int (nI s)), some (.int (nI 0)), some (.int (-1 : Int32)), some (.int (nI 0)), none, none] [] h = some (.inl (some (.int (if f = 0 then nI (bg_st z v s 4).1 else pn_o (bg_st z v s 4).2 100))), h) := by
  obtain ⟨g, e, hp⟩ := am_for0 (fun k (g : am_H) => am_vn am_M 2 34 95 [none, none, none, some (.int (nI z)), some (.int (nI f)), some (.int (nI v)), some (.int (nI s)), some (.int (nI (bg_st z v s k).1)), some (.int (pn_o (bg_st z v s k).2 100)), some (.int (nI k)), none, none] [] g) (fun _ g => g = h) 4 h rfl (fun k g hk hg => by
    subst hg
    refine ⟨g, ?_, rfl⟩
    have hst := bg_st_ok z v s k (by omega)
    have hd := bg_d k hk
    have h123 : (k / 2 = 0 ∨ v ≠ 0) → am_vn am_M 2 34 123 [none, none, none, some (.int (nI z)), some (.int (nI f)), some (.int (nI v)), some (.int (nI s)), some (.int (nI (bg_st z v s k).1)), some (.int (pn_o (bg_st z v s k).2 100)), some (.int (nI k)), some (.int (nI (k / 2))), some (.int (nI (k % 2)))] [] g = am_vn am_M 2 34 95 [none, none, none, some (.int (nI z)), some (.int (nI f)), some (.int (nI v)), some (.int (nI s)), some (.int (nI (bg_st z v s (k + 1)).1)), some (.int (pn_o (bg_st z v s (k + 1)).2 100)), some (.int (nI (k + 1))), none, none] [] g := fun c => by
      have e1 : (decide (k / 2 = 0) || decide (v ≠ 0)) = true := by rcases c with c | c <;> simp [c]
      rw [e34_123, s53 (by omega) hv, am_bI_ok, bg_st]
      unfold bg_c
      rw [e1, Bool.true_and]
      cases c5 : bg_5 (k / 2) (k % 2) z v with
      | false => rw [if_pos (show nI (if false = true then 1 else 0) = 0 by decide), pz_succ, Bool.false_and, if_neg (show ¬ false = true by decide)]
      | true =>
        rw [if_neg (show ¬ nI (if true = true then 1 else 0) = 0 by decide), s54 hs, am_bI_ok, Bool.true_and]
        cases c6 : bg_6 (k / 2) (k % 2) z s with
        | false => rw [if_pos (show nI (if false = true then 1 else 0) = 0 by decide), pz_succ, if_neg (show ¬ false = true by decide)]
        | true =>
          rw [if_neg (show ¬ nI (if true = true then 1 else 0) = 0 by decide), if_pos (show true = true from rfl), pz_succ, pz_succ, pk_mul, nI_add]
          rcases hst.2 with ⟨q1, q2⟩ | ⟨q1, q2⟩
          · rw [if_pos (show nI (bg_st z v s k).1 = 0 by rw [q1]; rfl), if_pos q1, show pn_o (10 * (k / 2) + k % 2) 100 = nI (10 * (k / 2) + k % 2) from if_pos (by omega)]
          · rw [if_neg (nI_ne0 (by omega) (by omega)), if_neg q1]
    rw [e34_95, if_neg (nI_ge hk (by omega)), if_neg (show ¬ nI 2 = 0 by decide), if_neg (show ¬ nI 2 = 0 by decide), hd.1, hd.2]
    by_cases c1 : k / 2 = 0
    · rw [if_pos (show nI (k / 2) = 0 by rw [c1]; rfl), h123 (Or.inl c1)]
    · rw [if_neg (nI_ne0 (by omega) (by omega))]
      by_cases c2 : v = 0
      · rw [if_pos (show nI v = 0 by rw [c2]; rfl), pz_succ, bg_st]
        unfold bg_c
        rw [decide_eq_false c1, decide_eq_false (show ¬ v ≠ 0 by omega), Bool.false_or, Bool.false_and, if_neg (by decide)]
      · rw [if_neg (nI_ne0 (by omega) (by omega)), h123 (Or.inr c2)])
  subst hp
  refine e.trans ?_
  rw [e34_95, if_pos (show nI 4 ≤ nI 4 by decide)]
  by_cases c : f = 0
  · rw [if_pos (show nI f = 0 by rw [c]; rfl), if_pos c]
  · rw [if_neg (nI_ne0 (by omega) (by omega)), if_neg c]
theorem s292 {d : pw_L} {S : Nat → Nat} {h : am_H} {j a z : Nat} {b : Int32} (m1 : pm_L h d) (m2 : pm_S h 85 0 S) (ho : pw_ok d) (hS : pw_SL d S) (hj : j < pw_n d 0) : am_run am_M 292 [.ref 60, .int (nI j), .int (nI a), .int b, .int (nI z)] h = some (.inl (some (.int (bg_y (if S (45 + j) ≤ S (37 + j) then 0 else 1) z a b))), h) := by
  have h4 := ho.1.1
  have hb := hS.1.2 j (by omega)
  have e1 := (m2.2.2.2 j (by omega)).1
  rw [Nat.zero_add] at e1
  have e2 := m1.2.2.2.2.2.2.1 j hj
  rw [← hS.2.2 j hj] at e2
  rw [e292, nI_add, ml_85 (by omega), ml_61 (by omega), e1, e2]
  unfold bg_y
  by_cases c : S (45 + j) ≤ S (37 + j)
  · rw [if_pos (nI_le c (by omega)), if_pos c, if_pos rfl]
  · rw [if_neg (nI_ge (by omega) (by omega)), if_neg c, if_neg (by decide)]
theorem s293_76 {d : pw_L} {S : Nat → Nat} {h : am_H} {j z v f s : Nat} (m1 : pm_L h d) (m2 : pm_S h 85 0 S) (ho : pw_ok d) (hS : pw_SL d S) (hj : j < pw_n d 0) (hs : s = if S (45 + j) ≤ S (37 + j) then 0 else 1) (hz : z < 100) (hv : v < 2) (hf : f < 2) : am_vn am_M 2 293 76 [some (.ref 60), none, some (.int (nI j)), some (.int (nI z)), some (.int (nI f)), some (.int (nI v)), some (.int (nI 0)), some (.int (-1 : Int32)), some (.int (nI 0)), none, none, none] [] h = some (.inl (some (.int (if f = 0 then nI (bg_st z v s 4).1 else pn_o (bg_st z v s 4).2 100))), h) := by
  have hs2 : s < 2 := by rw [hs]; split <;> omega
  obtain ⟨g, e, hp⟩ := am_for0 (fun k (g : am_H) => am_vn am_M 2 293 76 [some (.ref 60), none, some (.int (nI j)), some (.int (nI z)), some (.int (nI f)), some (.int (nI v)), some (.int (nI (bg_st z v s k).1)), some (.int (pn_o (bg_st z v s k).2 100)), some (.int (nI k)), none, none, none] [] g) (fun _ g => g = h) 4 h rfl (fun k g hk hg => by
    subst hg
    refine ⟨g, ?_, rfl⟩
    have hst := bg_st_ok z v s k (by omega)
    have hd := bg_d k hk
    have he := bg_eq z hz v hv s hs2 (k / 2) (by omega) (k % 2) (by omega)
    have h136 : ∀ x : Nat, x < 2 → bg_m (k / 2) (k % 2) z v s = (decide (x = 0) && bg_m6 (k / 2) (k % 2) z s) → am_vn am_M 2 293 136 [some (.ref 60), none, some (.int (nI j)), some (.int (nI z)), some (.int (nI f)), some (.int (nI v)), some (.int (nI (bg_st z v s k).1)), some (.int (pn_o (bg_st z v s k).2 100)), some (.int (nI k)), some (.int (nI (k / 2))), some (.int (nI (k % 2))), none] [(.int (nI x))] g = am_vn am_M 2 293 76 [some (.ref 60), none, some (.int (nI j)), some (.int (nI z)), some (.int (nI f)), some (.int (nI v)), some (.int (nI (bg_st z v s (k + 1)).1)), some (.int (pn_o (bg_st z v s (k + 1)).2 100)), some (.int (nI (k + 1))), none, none, none] [] g := fun x hx em => by
      rw [e293_136, bg_st, he, em]
      by_cases cx : x = 0
      · rw [if_pos (show nI x = 0 by rw [cx]; rfl), s292 m1 m2 ho hS hj, am_bI_ok, s292 m1 m2 ho hS hj, am_bI_ok, ← hs, decide_eq_true cx, Bool.true_and]
        unfold bg_m6
        by_cases cl : bg_y s z (k / 2) (nI 1 - nI (k % 2)) ≤ bg_y s z (k / 2) (nI (k % 2))
        · rw [if_pos cl, if_pos (decide_eq_true cl), pz_succ, pz_succ, pk_mul, nI_add]
          rcases hst.2 with ⟨q1, q2⟩ | ⟨q1, q2⟩
          · rw [q2, if_pos (show pn_o 1000 100 = (-1 : Int32) from rfl), if_pos q1, show pn_o (10 * (k / 2) + k % 2) 100 = nI (10 * (k / 2) + k % 2) from if_pos (by omega)]
          · rw [show pn_o (bg_st z v s k).2 100 = nI (bg_st z v s k).2 from if_pos (by omega), if_neg (pz_neg1 (by omega)), if_neg q1]
            rw [show pn_o (bg_st z v s k).2 100 = nI (bg_st z v s k).2 from if_pos (by omega)]
        · rw [if_neg cl, if_neg (show ¬ decide (bg_y s z (k / 2) (nI 1 - nI (k % 2)) ≤ bg_y s z (k / 2) (nI (k % 2))) = true by rw [decide_eq_false cl]; decide), pz_succ]
      · rw [if_neg (nI_ne0 (by omega) (by omega)), decide_eq_false cx, Bool.false_and, if_neg (by decide), pz_succ]
    rw [e293_76, if_neg (nI_ge hk (by omega)), if_neg (show ¬ nI 2 = 0 by decide), if_neg (show ¬ nI 2 = 0 by decide), hd.1, hd.2]
    by_cases c1 : k / 2 ≤ v
    · rw [if_pos (nI_le c1 (by omega))]
      have ec : bg_m (k / 2) (k % 2) z v s = (bg_m5 (k / 2) (k % 2) z v && bg_m6 (k / 2) (k % 2) z s) := by unfold bg_m; rw [decide_eq_true c1, Bool.true_and]
      unfold bg_m5 at ec
      by_cases c2 : v = 1
      · rw [if_pos c2] at ec
        rw [if_pos (show nI v = nI 1 by rw [c2]), e291, am_bI_ok, e291, am_bI_ok]
        by_cases cl : nI 10 * nI (k % 2) - (nI 1 - nI (k / 2)) * nI z ≤ nI 10 * nI (k % 2) - nI (k / 2) * nI z
        · rw [decide_eq_true cl] at ec
          rw [if_pos cl, h136 0 (by omega) (by rw [ec]; rfl)]
        · rw [decide_eq_false cl] at ec
          rw [if_neg cl, h136 1 (by omega) (by rw [ec]; rfl)]
      · rw [if_neg c2] at ec
        rw [if_neg (fun e => c2 ((nI_eq (by omega) (by omega)).mp e)), h136 0 (by omega) (by rw [ec]; rfl)]
    · rw [if_neg (nI_ge (by omega) (by omega)), pz_succ, bg_st, he]
      unfold bg_m
      rw [decide_eq_false c1, Bool.false_and, if_neg (by decide)])
  subst hp
  refine e.trans ?_
  rw [e293_76, if_pos (show nI 4 ≤ nI 4 by decide)]
  by_cases c : f = 0
  · rw [if_pos (show nI f = 0 by rw [c]; rfl), if_pos c]
  · rw [if_neg (nI_ne0 (by omega) (by omega)), if_neg c]
theorem call_bargain {w : pw_W} (hw : pw_wf w) (x y z b : Int32) : am_AG 2 (fun e => e) w (fun h => am_run am_M 34 [.ref 0, .int x, .int y, .int z, .int b] h) (fun h => am_run am_M 293 [.ref 60, .int x, .int y, .int z, .int b] h) := by
  obtain ⟨d, S, l, t, im, tp, nb, fp, rf⟩ := w
  have hw0 := hw
  obtain ⟨ho, hS, ha, ht, hi, hnb, htp⟩ := hw
  rcases Classical.em (pz_b x (pw_n d 3)) with hx | hx
  rotate_left
  · refine ⟨1, 0, (d, S, l, t, im, tp, nb, fp, rf), hw0, ⟨by omega, fun hh => by first | exact absurd rfl hh | rfl⟩, fun h hc => ?_, fun h hm => ?_⟩
    · have hc0 := hc
      obtain ⟨⟨L, hL, r1, r2, c1⟩, c2, c3, c4, c5, c6, c7, c8, c9⟩ := hc
      refine am_CO_x (by decide) ?_
      show am_run am_M 34 [.ref 0, .int x, .int y, .int z, .int b] h = _
      rw [e34, c62_f hL r1 c1 ho hx]
      try rfl
    · show am_RI (am_run am_M 293 [.ref 60, .int x, .int y, .int z, .int b] h) _
      obtain ⟨hm0, ht0, hf0⟩ := m_start hm
      rw [e293]
      generalize am_sI h 60 0 (nI 0) = g at hm0 ht0 hf0 ⊢
      dsimp only
      have hm1 := hm0
      obtain ⟨m1, m2, m3, m4, m5, m6, m7, m8, m9, m10, m11, m12⟩ := hm1
      rw [s236_f m1 ho ht0 hx, am_bI_ok, if_pos (by decide)]
      exact ⟨_, _, rfl, am_fin_x hf0 hm0 (by decide)⟩
  obtain ⟨i, hx, rfl⟩ := hx
  rcases Classical.em (pz_b y (pw_n d 0)) with hy | hy
  rotate_left
  · refine ⟨1, 0, (d, S, l, t, im, tp, nb, fp, rf), hw0, ⟨by omega, fun hh => by first | exact absurd rfl hh | rfl⟩, fun h hc => ?_, fun h hm => ?_⟩
    · have hc0 := hc
      obtain ⟨⟨L, hL, r1, r2, c1⟩, c2, c3, c4, c5, c6, c7, c8, c9⟩ := hc
      refine am_CO_x (by decide) ?_
      show am_run am_M 34 [.ref 0, .int (nI i), .int y, .int z, .int b] h = _
      rw [e34, c62_t hL r1 c1 ho hx, am_bV_ok, c60_f hL r1 c1 ho hy]
      try rfl
    · show am_RI (am_run am_M 293 [.ref 60, .int (nI i), .int y, .int z, .int b] h) _
      obtain ⟨hm0, ht0, hf0⟩ := m_start hm
      rw [e293]
      generalize am_sI h 60 0 (nI 0) = g at hm0 ht0 hf0 ⊢
      dsimp only
      have hm1 := hm0
      obtain ⟨m1, m2, m3, m4, m5, m6, m7, m8, m9, m10, m11, m12⟩ := hm1
      rw [s236_t m1 ho ht0 hx, am_bI_ok, if_neg (by decide), s234_f m1 ho ht0 hy, am_bI_ok, if_pos (by decide)]
      exact ⟨_, _, rfl, am_fin_x hf0 hm0 (by decide)⟩
  obtain ⟨j, hy, rfl⟩ := hy
  rcases Classical.em (pz_b b (1 + 1)) with hb | hb
  rotate_left
  · refine ⟨1, 0, (d, S, l, t, im, tp, nb, fp, rf), hw0, ⟨by omega, fun hh => by first | exact absurd rfl hh | rfl⟩, fun h hc => ?_, fun h hm => ?_⟩
    · have hc0 := hc
      obtain ⟨⟨L, hL, r1, r2, c1⟩, c2, c3, c4, c5, c6, c7, c8, c9⟩ := hc
      refine am_CO_x (by decide) ?_
      show am_run am_M 34 [.ref 0, .int (nI i), .int (nI j), .int z, .int b] h = _
      rw [e34, c62_t hL r1 c1 ho hx, am_bV_ok, c60_t hL r1 c1 ho hy, am_bV_ok, c64_f (by omega) hb]
      try rfl
    · show am_RI (am_run am_M 293 [.ref 60, .int (nI i), .int (nI j), .int z, .int b] h) _
      obtain ⟨hm0, ht0, hf0⟩ := m_start hm
      rw [e293]
      generalize am_sI h 60 0 (nI 0) = g at hm0 ht0 hf0 ⊢
      dsimp only
      have hm1 := hm0
      obtain ⟨m1, m2, m3, m4, m5, m6, m7, m8, m9, m10, m11, m12⟩ := hm1
      rw [s236_t m1 ho ht0 hx, am_bI_ok, if_neg (by decide), s234_t m1 ho ht0 hy, am_bI_ok, if_neg (by decide), s237_f ht0 hb (by omega), am_bI_ok, if_pos (by decide)]
      exact ⟨_, _, rfl, am_fin_x hf0 hm0 (by decide)⟩
  obtain ⟨f, hb, rfl⟩ := hb
  have h6 := ho.1.2.2.2.1
  have h4 := ho.1.1
  have hd9 := hS.2.1
  have h9 := ho.1.2.1
  have hbi := hS.1.1 i (by omega)
  have hbj := hS.1.2 j (by omega)
  rcases Classical.em (pz_w z 1 99) with hz | hz
  rotate_left
  · refine ⟨2, 0, (d, S, l, t, im, tp, nb, fp, rf), hw0, ⟨by omega, fun hh => by first | exact absurd rfl hh | rfl⟩, fun h hc => ?_, fun h hm => ?_⟩
    · have hc0 := hc
      obtain ⟨⟨L, hL, r1, r2, c1⟩, c2, c3, c4, c5, c6, c7, c8, c9⟩ := hc
      refine am_CO_x (by decide) ?_
      show am_run am_M 34 [.ref 0, .int (nI i), .int (nI j), .int z, .int (nI f)] h = _
      rw [e34, c62_t hL r1 c1 ho hx, am_bV_ok, c60_t hL r1 c1 ho hy, am_bV_ok, c64_t (by omega) hb, am_bV_ok]
      rcases pz_w_n (by omega) (by omega) hz with c | c
      · rw [if_pos c]
      · by_cases c0 : z < nI 1
        · rw [if_pos c0]
        · rw [if_neg c0, if_neg (show ¬ z ≤ nI 99 from fun h => by rw [Int32.le_iff_toInt_le] at h; rw [Int32.lt_iff_toInt_lt] at c; omega)]
    · show am_RI (am_run am_M 293 [.ref 60, .int (nI i), .int (nI j), .int z, .int (nI f)] h) _
      obtain ⟨hm0, ht0, hf0⟩ := m_start hm
      rw [e293]
      generalize am_sI h 60 0 (nI 0) = g at hm0 ht0 hf0 ⊢
      dsimp only
      have hm1 := hm0
      obtain ⟨m1, m2, m3, m4, m5, m6, m7, m8, m9, m10, m11, m12⟩ := hm1
      rw [s236_t m1 ho ht0 hx, am_bI_ok, if_neg (by decide), s234_t m1 ho ht0 hy, am_bI_ok, if_neg (by decide), s237_t ht0 hb (by omega), am_bI_ok, if_neg (by decide)]
      rw [s180_f z hz (by omega) (by omega), am_bI_ok, s179_f ht0 (e := 2) (by omega), am_bI_ok, if_pos (by decide)]
      exact ⟨_, _, rfl, am_fin_x hf0 hm0 (by decide)⟩
  obtain ⟨v, hv1, hv2, rfl⟩ := hz
  have hv9 : (if S (1 + i) < v then 0 else 1) < 2 := by split <;> omega
  have hs9 : (if S (45 + j) ≤ S (37 + j) then 0 else 1) < 2 := by split <;> omega
  refine ⟨0, (if f = 0 then nI (bg_st v (if S (1 + i) < v then 0 else 1) (if S (45 + j) ≤ S (37 + j) then 0 else 1) 4).1 else pn_o (bg_st v (if S (1 + i) < v then 0 else 1) (if S (45 + j) ≤ S (37 + j) then 0 else 1) 4).2 100), (d, S, l, t, im, tp, nb, fp, rf), hw0, ⟨by omega, fun hh => by first | exact absurd rfl hh | rfl⟩, fun h hc => ?_, fun h hm => ?_⟩
  · have hc0 := hc
    obtain ⟨⟨L, hL, r1, r2, c1⟩, c2, c3, c4, c5, c6, c7, c8, c9⟩ := hc
    refine am_CO_0 ?_
    show am_RI (am_run am_M 34 [.ref 0, .int (nI i), .int (nI j), .int (nI v), .int (nI f)] h) _
    rw [e34, c62_t hL r1 c1 ho hx, am_bV_ok, c60_t hL r1 c1 ho hy, am_bV_ok, c64_t (by omega) hb, am_bV_ok]
    rw [if_neg (nI_nlt hv1 (by omega)), if_pos (nI_le hv2 (by omega)), s151 pc_so20 (show 1 + 0 * 6 + i < 49 by omega), am_bI_ok, show 1 + 0 * 6 + i = 1 + i by omega, c2 _ (by omega)]
    have h56 : ∀ q : Nat, q < 2 → am_vn am_M 2 34 56 [some (.ref 0), none, some (.int (nI j)), some (.int (nI v)), some (.int (nI f)), none, none, none, none, none, none, none] [(.int (nI q))] h = some (.inl (some (.int (if f = 0 then nI (bg_st v q (if S (45 + j) ≤ S (37 + j) then 0 else 1) 4).1 else pn_o (bg_st v q (if S (45 + j) ≤ S (37 + j) then 0 else 1) 4).2 100))), h) := fun q hq => by
      rw [e34_56, s153 pc_so20 (show 37 + 0 * 4 + j < 49 by omega), am_bI_ok, s153 pc_so20 (show 37 + 2 * 4 + j < 49 by omega), am_bI_ok, show 37 + 0 * 4 + j = 37 + j by omega, show 37 + 2 * 4 + j = 45 + j by omega, c2 _ (by omega), c2 _ (by omega)]
      by_cases cs : S (45 + j) ≤ S (37 + j)
      · rw [if_pos (nI_le cs (by omega)), e34_84, s34_95 hq (by omega) (by omega), if_pos cs]
      · rw [if_neg (nI_ge (by omega) (by omega)), e34_84, s34_95 hq (by omega) (by omega), if_neg cs]
    by_cases cv : S (1 + i) < v
    · rw [if_pos (nI_lt cv (by omega)), h56 0 (by omega), if_pos cv]
      exact ⟨_, _, rfl, rfl, hc0, am_fc.refl _⟩
    · rw [if_neg (nI_nlt (by omega) (by omega)), h56 1 (by omega), if_neg cv]
      exact ⟨_, _, rfl, rfl, hc0, am_fc.refl _⟩
  · show am_RI (am_run am_M 293 [.ref 60, .int (nI i), .int (nI j), .int (nI v), .int (nI f)] h) _
    obtain ⟨hm0, ht0, hf0⟩ := m_start hm
    rw [e293]
    generalize am_sI h 60 0 (nI 0) = g at hm0 ht0 hf0 ⊢
    dsimp only
    have hm1 := hm0
    obtain ⟨m1, m2, m3, m4, m5, m6, m7, m8, m9, m10, m11, m12⟩ := hm1
    rw [s236_t m1 ho ht0 hx, am_bI_ok, if_neg (by decide), s234_t m1 ho ht0 hy, am_bI_ok, if_neg (by decide), s237_t ht0 hb (by omega), am_bI_ok, if_neg (by decide)]
    rw [s180_t hv1 hv2 (by omega), am_bI_ok, s179_t ht0, am_bI_ok, if_neg (by decide), nI_add, ml_85 (by omega), m2.i0 (by omega)]
    by_cases cv : S (1 + i) < v
    · rw [if_pos (nI_lt cv (by omega)), e293_65, s293_76 m1 m2 ho hS hy rfl (by omega) (by omega) (by omega), if_pos cv]
      exact ⟨_, _, rfl, am_fin_m hf0 hm0 (am_kp.refl _ _) ht0 (fun _ => rfl)⟩
    · rw [if_neg (nI_nlt (by omega) (by omega)), e293_65, s293_76 m1 m2 ho hS hy rfl (by omega) (by omega) (by omega), if_neg cv]
      exact ⟨_, _, rfl, am_fin_m hf0 hm0 (am_kp.refl _ _) ht0 (fun _ => rfl)⟩
