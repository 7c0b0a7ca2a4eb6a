/-! THE MODEL: a day goes by -/
theorem pz_or256 (a b : Nat) : (256 * a) ||| (256 * b) = 256 * (a ||| b) := by
  apply Nat.eq_of_testBit_eq
  intro i
  rw [show 256 = 2 ^ 8 from rfl, Nat.testBit_or, Nat.testBit_two_pow_mul, Nat.testBit_two_pow_mul, Nat.testBit_two_pow_mul, Nat.testBit_or]
  cases decide (i ≥ 8) <;> simp
theorem pz_or256c {t c k : Nat} (hc : c < 2 ^ k) (hk : k < 8) : (256 * t + c) ||| 2 ^ k = 256 * t + (c + 2 ^ k) := by
  have h8 : 2 ^ (k + 1) ≤ 2 ^ 8 := Nat.pow_le_pow_right (by omega) (by omega)
  rw [Nat.pow_succ] at h8
  have e1 := Nat.two_pow_add_eq_or_of_lt (i := 8) (show c < 2 ^ 8 by omega) t
  have e2 := Nat.two_pow_add_eq_or_of_lt (i := 8) (show c + 2 ^ k < 2 ^ 8 by omega) t
  rw [show (2 : Nat) ^ 8 = 256 from rfl] at e1 e2
  rw [e1, e2, Nat.or_assoc, pb_or hc]
section
variable {h : am_H} {d : pw_L} {S : Nat → Nat} {u q sn r G : Nat}
theorem s230_34 (hr : r = 85 ∨ r = 86) (ho : pw_ok d) (hL : pm_L h d) (hY : pm_Y h d r S u q) (hb : pw_T (S 0) S) (h0 : S 0 < 100000) :
    ∃ g, am_vn am_M 4 230 34 [some (.ref 60), some (.ref r), some (.int (nI 0)), some (.int (nI 0)), none] [] h = am_vn am_M 4 230 107 [some (.ref 60), some (.ref r), some (.int (nI (256 * (am_it py_e (pw_n d 0) (S, 0)).2))), some (.int (nI 0)), none] [] g ∧ pm_S g r 0 (am_it py_e (pw_n d 0) (S, 0)).1 ∧ am_kp (ps_d r) h g ∧ am_I g 60 69 = am_I h 60 69 := by
  have h4 := ho.1.1
  have htr : am_ty r = (16, 40) := by rcases hr with rfl | rfl <;> rfl
  have hr1 : r < 100 := by omega
  obtain ⟨g, e, hp⟩ := am_for0 (fun k (g : am_H) => am_vn am_M 4 230 34 [some (.ref 60), some (.ref r), some (.int (nI (256 * (am_it py_e k (S, 0)).2))), some (.int (nI k)), none] [] g)
    (fun k g => pm_Y g d r (am_it py_e k (S, 0)).1 u q ∧ am_kp (ps_d r) h g ∧ am_I g 60 69 = am_I h 60 69 ∧ (∀ j, j < 4 → (am_it py_e k (S, 0)).1 (37 + j) ≤ 9999 ∧ (am_it py_e k (S, 0)).1 (41 + j) ≤ S 0 + k ∧ (am_it py_e k (S, 0)).1 (45 + j) ≤ 20) ∧ (am_it py_e k (S, 0)).2 < 2 ^ k ∧ ∀ j, 45 ≤ j → (am_it py_e k (S, 0)).1 j = S j) (pw_n d 0) h
    ⟨hY, am_kp.refl _ _, rfl, fun j hj => by have := hb.2 j hj; exact ⟨this.1, Nat.le_trans this.2.1 (Nat.le_add_right _ _), this.2.2⟩, Nat.one_pos, fun _ _ => rfl⟩ (fun k g hk hg => by
      obtain ⟨y, kp, pd, bd, tl, x45⟩ := hg
      have bk := bd k (by omega)
      have hX' : am_it py_e (k + 1) (S, 0) = py_e k (am_it py_e k (S, 0)) := rfl
      rw [hX']
      generalize am_it py_e k (S, 0) = X at *
      have hLg := hL.kd hr kp
      rw [e230_34, show am_I g 60 1 = nI (pw_n d 0) from hLg.1 0 (by omega), if_neg (nI_ge hk (by omega)), ml_90 (by omega), y.2.1 k hk, nI_add, am_il_ok htr hr1 (show 32 + k < 40 by omega) (by omega), y.1.is (by omega), s182 (by omega) (by omega), am_bI_ok, ml_90 (by omega), y.2.1 k hk]
      unfold py_e
      by_cases c : X.1 (37 + k) < X.1 (45 + k)
      · rw [if_pos c, Nat.min_eq_right (by omega), if_neg (nI_ge c (by omega)), nI_add, am_il_ok htr hr1 (show 36 + k < 40 by omega) (by omega), y.1.it (by omega), pz_succ, am_is_ok htr hr1 (show 36 + k < 40 by omega) (by omega)]
        have z1 := y.1.set3 (show k < 4 by omega) (X.1 (41 + k) + 1)
        have hp2 : 2 ^ k ≤ 8 := by
          have := Nat.pow_le_pow_right (n := 2) (by omega) (show k ≤ 3 by omega)
          exact this
        rw [pz_shl (show k < 32 by omega) (show 256 * 2 ^ k < 2 ^ 32 by omega), pz_or, pz_or256, pb_or tl, e230_88, nI_add, am_il_ok htr hr1 (show 32 + k < 40 by omega) (by omega), z1.is (by omega), pu_n _ _ (show 37 + k ≠ 41 + k by omega), pk_sub (Nat.le_refl _), Nat.sub_self, am_is_ok htr hr1 (show 32 + k < 40 by omega) (by omega), pz_succ]
        have z2 := z1.set2 (show k < 4 by omega) 0
        have hcom : pu (pu X.1 (41 + k) (X.1 (41 + k) + 1)) (37 + k) 0 = pu (pu X.1 (37 + k) 0) (41 + k) (X.1 (41 + k) + 1) := by
          funext j
          unfold pu
          by_cases a1 : j = 37 + k
          · rw [if_pos a1, if_neg (by omega), if_pos a1]
          · rw [if_neg a1, if_neg a1]
        rw [hcom] at z2
        have kk := (kp.sI (i := r) (k := 36 + k) (nI (X.1 (41 + k) + 1)) (ps_d_t (by omega))).sI (i := r) (k := 32 + k) (nI 0) (ps_d_t (by omega))
        refine ⟨_, rfl, hY.kd hr kk z2 (fun j hj => ?_), kk, ?_, fun j hj => ?_, ?_, fun j hj => ?_⟩
        · show pu _ _ _ j = _
          rw [pu_n _ _ (by omega), pu_n _ _ (by omega)]; exact x45 j hj
        · rw [am_I_s1 _ _ _ _ (show 60 ≠ r by omega), am_I_s1 _ _ _ _ (show 60 ≠ r by omega)]; exact pd
        · have := bd j hj
          show pu _ _ _ _ ≤ _ ∧ pu _ _ _ _ ≤ _ ∧ pu _ _ _ _ ≤ _
          unfold pu
          refine ⟨?_, ?_, ?_⟩ <;> (repeat' split) <;> omega
        · show X.2 + 2 ^ k < 2 ^ (k + 1)
          rw [Nat.pow_succ]; omega
        · show pu _ _ _ j = _
          rw [pu_n _ _ (by omega), pu_n _ _ (by omega)]; exact x45 j hj
      · rw [if_neg c, Nat.min_eq_left (by omega), if_pos (nI_le (Nat.le_refl _) (by omega)), e230_88, nI_add, am_il_ok htr hr1 (show 32 + k < 40 by omega) (by omega), y.1.is (by omega), pk_sub (by omega), am_is_ok htr hr1 (show 32 + k < 40 by omega) (by omega), pz_succ]
        have z1 := y.1.set2 (show k < 4 by omega) (X.1 (37 + k) - X.1 (45 + k))
        have kk := kp.sI (i := r) (k := 32 + k) (nI (X.1 (37 + k) - X.1 (45 + k))) (ps_d_t (by omega))
        refine ⟨_, rfl, hY.kd hr kk z1 (fun j hj => ?_), kk, ?_, fun j hj => ?_, ?_, fun j hj => ?_⟩
        · show pu _ _ _ j = _
          rw [pu_n _ _ (by omega)]; exact x45 j hj
        · rw [am_I_s1 _ _ _ _ (show 60 ≠ r by omega)]; exact pd
        · have := bd j hj
          show pu _ _ _ _ ≤ _ ∧ pu _ _ _ _ ≤ _ ∧ pu _ _ _ _ ≤ _
          unfold pu
          refine ⟨?_, ?_, ?_⟩ <;> (repeat' split) <;> omega
        · show X.2 < 2 ^ (k + 1)
          rw [Nat.pow_succ]; omega
        · show pu _ _ _ j = _
          rw [pu_n _ _ (by omega)]; exact x45 j hj)
  have hLg := hL.kd hr hp.2.1
  refine ⟨g, e.trans ?_, hp.1.1, hp.2.1, hp.2.2.1⟩
  rw [e230_34, show am_I g 60 1 = nI (pw_n d 0) from hLg.1 0 (by omega), if_pos (nI_le (Nat.le_refl _) (by omega))]
theorem s230_107 {t : Nat} (hr : r = 85 ∨ r = 86) (ho : pw_ok d) (hL : pm_L h d) (hS : pm_S h r 0 S) (hs : pm_sn h d (S 0) sn) (hb : ∀ p, p < 6 → S (7 + p) ≤ 99 ∧ S (19 + p) ≤ 100000) (h0 : S 0 < 100000) (hsn : sn < 100) (ht : t < 16) :
    ∃ g, am_vn am_M 4 230 107 [some (.ref 60), some (.ref r), some (.int (nI (256 * t))), some (.int (nI 0)), none] [] h = am_vn am_M 4 230 169 [some (.ref 60), some (.ref r), some (.int (nI (256 * t + (if sn = 0 then ((S, 0) : (Nat → Nat) × Nat) else am_it py_b (pw_n d 3) (S, 0)).2))), none, none] [] g ∧ pm_S g r 0 (if sn = 0 then ((S, 0) : (Nat → Nat) × Nat) else am_it py_b (pw_n d 3) (S, 0)).1 ∧ am_kp (ps_d r) h g ∧ am_I g 60 69 = am_I h 60 69 := by
  have h6 := ho.1.2.2.2.1
  have htr : am_ty r = (16, 40) := by rcases hr with rfl | rfl <;> rfl
  have hr1 : r < 100 := by omega
  by_cases c : sn = 0
  · rw [if_pos c]
    refine ⟨h, ?_, hS, am_kp.refl _ _, rfl⟩
    rw [e230_107, show am_I h 60 4 = nI (pw_n d 3) from hL.1 3 (by omega)]
    by_cases c2 : pw_n d 3 = 0
    · rw [c2, if_pos (by decide)]; rfl
    · rw [if_neg (nI_ge (by omega) (by omega)), am_il_ok htr hr1 (show 0 < 40 by omega) (by omega), hS.i0 (by omega), s226 hL ho hs (by omega), am_bI_ok, c, if_pos (by decide)]; rfl
  · rw [if_neg c]
    obtain ⟨g, e, hp⟩ := am_for0 (fun k (g : am_H) => am_vn am_M 4 230 107 [some (.ref 60), some (.ref r), some (.int (nI (256 * t + (am_it py_b k (S, 0)).2))), some (.int (nI k)), none] [] g)
      (fun k g => pm_S g r 0 (am_it py_b k (S, 0)).1 ∧ am_kp (ps_d r) h g ∧ am_I g 60 69 = am_I h 60 69 ∧ (am_it py_b k (S, 0)).1 0 = S 0 ∧ (∀ p, p < 6 → (am_it py_b k (S, 0)).1 (7 + p) ≤ 99) ∧ (∀ p, k ≤ p → p < 6 → (am_it py_b k (S, 0)).1 (19 + p) ≤ 100000) ∧ (am_it py_b k (S, 0)).2 < 2 ^ k) (pw_n d 3) h
      ⟨hS, am_kp.refl _ _, rfl, rfl, fun p hp => (hb p hp).1, fun p _ hp => (hb p hp).2, Nat.one_pos⟩ (fun k g hk hg => by
        obtain ⟨y, kp, pd, x0, b1, b2, tl⟩ := hg
        have c1 := b1 k (by omega)
        have c2 := b2 k (Nat.le_refl k) (by omega)
        have hX' : am_it py_b (k + 1) (S, 0) = py_b k (am_it py_b k (S, 0)) := rfl
        rw [hX']
        generalize am_it py_b k (S, 0) = X at *
        have hLg := hL.kd hr kp
        have hsg := hs.kd hr kp
        have hp2 : 2 ^ k ≤ 32 := Nat.pow_le_pow_right (n := 2) (by omega) (show k ≤ 5 by omega)
        rw [e230_107, show am_I g 60 4 = nI (pw_n d 3) from hLg.1 3 (by omega), if_neg (nI_ge hk (by omega)), am_il_ok htr hr1 (show 0 < 40 by omega) (by omega), y.i0 (by omega), x0, s226 hLg ho hsg (by omega), am_bI_ok, if_neg (nI_ne0 (by omega) (by omega)), nI_add 7 k, am_il_ok htr hr1 (show 7 + k < 40 by omega) (by omega), y.i0 (by omega)]
        unfold py_b
        by_cases cc : X.1 (7 + k) = 0
        · rw [if_pos (by rw [cc]; decide), if_pos cc, nI_add 19 k, am_il_ok htr hr1 (show 19 + k < 40 by omega) (by omega), y.i0 (by omega), pz_succ (X.1 (19 + k)), am_is_ok htr hr1 (show 19 + k < 40 by omega) (by omega), pb_1 (by omega), pz_or, pz_or256c tl (by omega), pz_succ]
          refine ⟨_, rfl, y.set1 (by omega) _, kp.sI _ (ps_d_t (by omega)), ?_, ?_, fun p hp => ?_, fun p hp hp6 => ?_, ?_⟩
          · rw [am_I_s1 _ _ _ _ (show 60 ≠ r by omega)]; exact pd
          · show pu _ _ _ 0 = _
            rw [pu_n _ _ (by omega)]; exact x0
          · show pu _ _ _ _ ≤ _
            rw [pu_n _ _ (by omega)]; exact b1 p hp
          · show pu _ _ _ _ ≤ _
            rw [pu_n _ _ (by omega)]; exact b2 p (by omega) hp6
          · show X.2 + 2 ^ k < 2 ^ (k + 1)
            rw [Nat.pow_succ]; omega
        · rw [if_neg (nI_nle (by omega) (by omega)), if_neg cc, am_il_ok htr hr1 (show 7 + k < 40 by omega) (by omega), y.i0 (by omega), pk_sub (show 1 ≤ X.1 (7 + k) by omega), am_is_ok htr hr1 (show 7 + k < 40 by omega) (by omega), pz_succ]
          refine ⟨_, rfl, y.set1 (by omega) _, kp.sI _ (ps_d_t (by omega)), ?_, ?_, fun p hp => ?_, fun p hp hp6 => ?_, ?_⟩
          · rw [am_I_s1 _ _ _ _ (show 60 ≠ r by omega)]; exact pd
          · show pu _ _ _ 0 = _
            rw [pu_n _ _ (by omega)]; exact x0
          · show pu _ _ _ _ ≤ _
            unfold pu
            have := b1 p hp
            split <;> omega
          · show pu _ _ _ _ ≤ _
            rw [pu_n _ _ (by omega)]; exact b2 p (by omega) hp6
          · show X.2 < 2 ^ (k + 1)
            rw [Nat.pow_succ]; omega)
    have hLg := hL.kd hr hp.2.1
    refine ⟨g, e.trans ?_, hp.1, hp.2.1, hp.2.2.1⟩
    rw [e230_107, show am_I g 60 4 = nI (pw_n d 3) from hLg.1 3 (by omega), if_pos (nI_le (Nat.le_refl _) (by omega))]
theorem s230_178 {v : Int32} (hr : r = 85 ∨ r = 86) (ho : pw_ok d) (hL : pm_L h d) (hS : pm_S h r 0 S) (hb : ∀ p, p < 6 → S (1 + p) ≤ 99) (h0 : S 0 < 100000) :
    ∃ g, am_vn am_M 4 230 178 [some (.ref 60), some (.ref r), some (.int v), some (.int (nI 0)), none] [] h = some (.inl (some (.int v)), g) ∧ pm_S g r 0 (if S 0 % 7 = 0 then am_it py_r (pw_n d 3) S else S) ∧ am_kp (ps_d r) h g ∧ am_I g 60 69 = am_I h 60 69 := by
  have h6 := ho.1.2.2.2.1
  have htr : am_ty r = (16, 40) := by rcases hr with rfl | rfl <;> rfl
  have hr1 : r < 100 := by omega
  by_cases c : S 0 % 7 = 0
  · rw [if_pos c]
    obtain ⟨g, e, hp⟩ := am_for0 (fun k (g : am_H) => am_vn am_M 4 230 178 [some (.ref 60), some (.ref r), some (.int v), some (.int (nI k)), none] [] g)
      (fun k g => pm_S g r 0 (am_it py_r k S) ∧ am_kp (ps_d r) h g ∧ am_I g 60 69 = am_I h 60 69 ∧ (am_it py_r k S) 0 = S 0 ∧ (∀ p, p < 6 → (am_it py_r k S) (1 + p) ≤ 99)) (pw_n d 3) h
      ⟨hS, am_kp.refl _ _, rfl, rfl, hb⟩ (fun k g hk hg => by
        obtain ⟨y, kp, pd, x0, b1⟩ := hg
        have c1 := b1 k (by omega)
        have hX' : am_it py_r (k + 1) S = py_r k (am_it py_r k S) := rfl
        rw [hX']
        generalize am_it py_r k S = X at *
        have hLg := hL.kd hr kp
        rw [e230_178, show am_I g 60 4 = nI (pw_n d 3) from hLg.1 3 (by omega), if_neg (nI_ge hk (by omega)), am_il_ok htr hr1 (show 0 < 40 by omega) (by omega), y.i0 (by omega), x0, if_neg (by decide), pk_rem (by omega) (by omega) (by omega), c, if_pos (by decide), nI_add 1 k, am_il_ok htr hr1 (show 1 + k < 40 by omega) (by omega), am_il_ok htr hr1 (show 1 + k < 40 by omega) (by omega), y.i0 (by omega), if_neg (by decide), pk_div (by omega) (by omega) (by omega), nI_add (X (1 + k)), s182 (by omega) (by omega), am_bI_ok, am_is_ok htr hr1 (show 1 + k < 40 by omega) (by omega), pz_succ]
        refine ⟨_, rfl, y.set1 (by omega) _, kp.sI _ (ps_d_t (by omega)), ?_, ?_, fun p hp => ?_⟩
        · rw [am_I_s1 _ _ _ _ (show 60 ≠ r by omega)]; exact pd
        · unfold py_r
          rw [pu_n _ _ (by omega)]; exact x0
        · unfold py_r pu
          have := b1 p hp
          split <;> omega)
    have hLg := hL.kd hr hp.2.1
    refine ⟨g, e.trans ?_, hp.1, hp.2.1, hp.2.2.1⟩
    rw [e230_178, show am_I g 60 4 = nI (pw_n d 3) from hLg.1 3 (by omega), if_pos (nI_le (Nat.le_refl _) (by omega))]
  · rw [if_neg c]
    refine ⟨h, ?_, hS, am_kp.refl _ _, rfl⟩
    rw [e230_178, show am_I h 60 4 = nI (pw_n d 3) from hL.1 3 (by omega)]
    by_cases c2 : pw_n d 3 = 0
    · rw [c2, if_pos (by decide)]
    · rw [if_neg (nI_ge (by omega) (by omega)), am_il_ok htr hr1 (show 0 < 40 by omega) (by omega), hS.i0 (by omega), if_neg (by decide), pk_rem (by omega) (by omega) (by omega), if_neg (nI_ne0 (by omega) (by omega))]
/-- a day of the model is the day of the class -/
theorem s230 (hr : r = 85 ∨ r = 86) (ho : pw_ok d) (hL : pm_L h d) (hY : pm_Y h d r S u q) (hs : pm_sn h d (S 0) sn) (hb : pw_S S) (h0 : S 0 < 10000) (hsn : sn < 100) (hG : am_I h 60 69 = nI G) :
    am_RI (am_run am_M 230 [.ref 60, .ref r] h) (fun v g => v = nI (256 * py_thin d sn u q S + py_cold d sn u q S) ∧ pm_Y g d r (py_S d sn u q S) u q ∧ am_I g 60 69 = nI (G + py_gave d sn u q S) ∧ am_kp (ps_d r) h g) := by
  have h6 := ho.1.2.2.2.1
  have htr : am_ty r = (16, 40) := by rcases hr with rfl | rfl <;> rfl
  have hr1 : r < 100 := by omega
  rw [e230]
  obtain ⟨g, e, hp⟩ := am_for0 (fun k (g : am_H) => am_vn am_M 4 230 4 [some (.ref 60), some (.ref r), some (.int (nI 0)), some (.int (nI k)), none] [] g)
    (fun k g => pm_Y g d r (am_it (py_1 d sn u q) k (S, 0)).1 u q ∧ am_I g 60 69 = nI (G + (am_it (py_1 d sn u q) k (S, 0)).2) ∧ pw_S (am_it (py_1 d sn u q) k (S, 0)).1 ∧ (am_it (py_1 d sn u q) k (S, 0)).1 0 = S 0 ∧ am_kp (ps_d r) h g) (pw_n d 3) h
    ⟨hY, hG, hb, rfl, am_kp.refl _ _⟩ (fun k g hk hg => by
      obtain ⟨y, yg, b1, b0, kp⟩ := hg
      have hX' : am_it (py_1 d sn u q) (k + 1) (S, 0) = py_1 d sn u q k (am_it (py_1 d sn u q) k (S, 0)) := rfl
      rw [hX']
      generalize am_it (py_1 d sn u q) k (S, 0) = X at *
      have hLg := hL.kd hr kp
      have hsg := hs.kd hr kp
      rw [e230_4, show am_I g 60 4 = nI (pw_n d 3) from hLg.1 3 (by omega), if_neg (nI_ge hk (by omega)), y.2.2.2]
      unfold py_1
      by_cases c : k = q
      · rw [if_pos ((pn_o_eq (by omega) (by omega)).mpr c), if_pos c, pz_succ]
        exact ⟨g, rfl, y, yg, b1, b0, kp⟩
      · rw [if_neg (fun e => c ((pn_o_eq (by omega) (by omega)).mp e)), if_neg c]
        have hT := py_T ho (due := py_f d X.1 sn u k) (pw_ST b1) hk
        obtain ⟨g1, e1, z1, z2, z3⟩ := s229 hr hLg ho y (by rw [b0]; exact hsg) b1 (by omega) hk yg
        rw [e1, am_bV_ok, pz_succ]
        refine ⟨g1, rfl, y.kd hr z3 z1 (fun j hj => hT.2.2.1 j (by omega)), ?_, pw_TS hT.1 hT.2.1, hT.2.1.trans b0, kp.trans z3⟩
        rw [z2, Nat.add_assoc])
  show am_RI (am_vn am_M 4 230 4 [some (.ref 60), some (.ref r), some (.int (nI 0)), some (.int (nI 0)), none] [] h) _
  rw [e]
  clear e
  obtain ⟨y, yg, b1, b0, kp⟩ := hp
  have hA : am_it (py_1 d sn u q) (pw_n d 3) (S, 0) = py_A d sn u q S := rfl
  rw [hA] at y yg b1 b0
  have hLg := hL.kd hr kp
  have hsg := hs.kd hr kp
  rw [e230_4, show am_I g 60 4 = nI (pw_n d 3) from hLg.1 3 (by omega), if_pos (nI_le (Nat.le_refl _) (by omega))]
  have hBT := py_B_T ho (X := ((py_A d sn u q S).1, 0)) (pw_ST b1)
  obtain ⟨g1, e1, y1, k1, p1⟩ := s230_34 hr ho hLg y (pw_ST b1) (by omega)
  have hB : am_it py_e (pw_n d 0) ((py_A d sn u q S).1, 0) = py_B d sn u q S := rfl
  rw [hB] at e1 y1 hBT
  rw [e1]
  have kA := kp.trans k1
  have bB0 : (py_B d sn u q S).1 0 = S 0 := (hBT.2 0 (by omega)).trans b0
  have b19 : ∀ p, p < 6 → (py_B d sn u q S).1 (19 + p) ≤ (py_A d sn u q S).1 0 := fun p hp => by
    rw [hBT.2 (19 + p) (by omega)]; exact (b1.1 p hp).2.2.2.1
  have htl : (py_B d sn u q S).2 < 16 := py_thin_lt ho sn u q S
  obtain ⟨g2, e2, y2, k2, p2⟩ := s230_107 (t := (py_B d sn u q S).2) (sn := sn) hr ho (hL.kd hr kA) y1 (by rw [bB0]; exact hs.kd hr kA) (fun p hp => ⟨(hBT.1.1 p hp).2.1, by have := b19 p hp; omega⟩) (by omega) hsn htl
  have hC : (if sn = 0 then (((py_B d sn u q S).1, 0) : (Nat → Nat) × Nat) else am_it py_b (pw_n d 3) ((py_B d sn u q S).1, 0)) = py_C d sn u q S := rfl
  rw [hC] at e2 y2
  rw [e2]
  have hCT : pw_T ((py_A d sn u q S).1 0 + 1) (py_C d sn u q S).1 ∧ (py_C d sn u q S).1 0 = S 0 := by
    unfold py_C
    split
    · exact ⟨hBT.1, bB0⟩
    · have := py_C_T ho (X := ((py_B d sn u q S).1, 0)) hBT.1 b19
      exact ⟨this.1, this.2.1.trans bB0⟩
  have kB := kA.trans k2
  rw [e230_169, am_il_ok htr hr1 (show 0 < 40 by omega) (by omega), y2.i0 (by omega), hCT.2, pz_succ, am_is_ok htr hr1 (show 0 < 40 by omega) (by omega)]
  have y3 := y2.set1 (show 0 < 25 by omega) (S 0 + 1)
  have kC : am_kp (ps_d r) h (am_sI g2 r 0 (nI (S 0 + 1))) := kB.sI _ (ps_d_t (by omega))
  obtain ⟨g3, e3, y4, k4, p4⟩ := s230_178 (v := nI (256 * (py_B d sn u q S).2 + (py_C d sn u q S).2)) hr ho (hL.kd hr kC) y3 (fun p hp => by rw [pu_n _ _ (by omega)]; exact (hCT.1.1 p hp).1) (by rw [pu_s]; omega)
  have hfin : (if pu (py_C d sn u q S).1 0 (S 0 + 1) 0 % 7 = 0 then am_it py_r (pw_n d 3) (pu (py_C d sn u q S).1 0 (S 0 + 1)) else pu (py_C d sn u q S).1 0 (S 0 + 1)) = py_S d sn u q S := by
    unfold py_S py_D
    rw [pu_s, hCT.2]
    by_cases c : (S 0 + 1) % 7 = 0
    · rw [if_pos c, if_pos c]
      have : ∀ n, am_it py_r n (pu (py_C d sn u q S).1 0 (S 0 + 1)) = pu (am_it py_r n (py_C d sn u q S).1) 0 (S 0 + 1) := by
        intro n
        induction n with
        | zero => rfl
        | succ n ih =>
          rw [am_it, ih, am_it]
          unfold py_r
          rw [pu_n _ _ (show 1 + n ≠ 0 by omega)]
          funext j
          unfold pu
          by_cases a1 : j = 1 + n
          · rw [if_pos a1, if_neg (by omega), if_pos a1]
          · rw [if_neg a1, if_neg a1]
      rw [this]
      have h00 : am_it py_r (pw_n d 3) (py_C d sn u q S).1 0 = S 0 := by
        have := am_it_ind (fun m (Y : Nat → Nat) => Y 0 = (py_C d sn u q S).1 0) (f := py_r) (n := pw_n d 3) (a := (py_C d sn u q S).1) (fun m Y hm hY => by
          unfold py_r
          rw [pu_n _ _ (by omega)]; exact hY) rfl
        exact this.trans hCT.2
      rw [h00]
    · rw [if_neg c, if_neg c, hCT.2]
  rw [hfin] at y4
  have kD := kC.trans k4
  refine ⟨_, g3, e3, rfl, hY.kd hr kD y4 (py_S_T ho sn u q hb).2.2.1, ?_, kD⟩
  rw [p4, am_I_s1 _ _ _ _ (show 60 ≠ r by omega), p2, p1, yg]
  rfl
theorem s231 (hr : pm_S h 85 0 S) (hL : pm_L h d) (hH : ∀ k, k < pw_n d 0 → S (45 + k) = pw_t d 6 k) (ho : pw_ok d) (hu : am_I h 60 62 = pn_o u 20) (hq : am_I h 60 63 = pn_o q 5) : am_RV (am_run am_M 231 [.ref 60] h) (fun g => pm_Y g d 86 S u q ∧ am_kp (fun i _ => decide (i = 86 ∨ i = 90)) h g) := by
  have h4 := ho.1.1
  rw [e231, s183 (r := 85) (q := 86) (n := 40) (m := 40) rfl (by omega) rfl (by omega) (by omega) (by omega) (by omega), am_bV_ok, s183 (r := 61) (q := 90) (n := 4) (m := 4) rfl (by omega) rfl (by omega) (by omega) (by omega) (by omega), am_bV_ok]
  refine ⟨_, rfl, ⟨?_, fun k hk => ?_, ?_, ?_⟩, ((am_kp.refl _ h).wr _ (fun k => by decide)).wr _ (fun k => by decide)⟩
  · have e : ∀ j, j < 40 → am_I (pz_wr (pz_wr h 86 fun j => if j < 40 then am_I h 85 j else am_I h 86 j) 90 fun j => if j < 4 then am_I (pz_wr h 86 fun j => if j < 40 then am_I h 85 j else am_I h 86 j) 61 j else am_I (pz_wr h 86 fun j => if j < 40 then am_I h 85 j else am_I h 86 j) 90 j) 86 j = am_I h 85 j := fun j hj => by
      rw [am_I_w1 _ _ _ (show 86 ≠ 90 by omega), am_I_w]
      exact if_pos hj
    obtain ⟨a1, a2, a3, a4⟩ := hr
    exact ⟨fun i hi => (e _ (by omega)).trans (a1 i hi), fun p hp => (e _ (by omega)).trans (a2 p hp), (e _ (by omega)).trans a3, fun k hk => ⟨(e _ (by omega)).trans (a4 k hk).1, (e _ (by omega)).trans (a4 k hk).2⟩⟩
  · rw [am_I_w]
    show (if k < 4 then _ else _) = _
    rw [if_pos (by omega), am_I_w1 _ _ _ (show 61 ≠ 86 by omega), hL.2.2.2.2.2.2.1 k hk, hH k hk]
  · rw [am_I_w1 _ _ _ (show 60 ≠ 90 by omega), am_I_w1 _ _ _ (show 60 ≠ 86 by omega)]; exact hu
  · rw [am_I_w1 _ _ _ (show 60 ≠ 90 by omega), am_I_w1 _ _ _ (show 60 ≠ 86 by omega)]; exact hq
end
