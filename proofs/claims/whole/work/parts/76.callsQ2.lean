/-! CALLS: the nearest, the most; what is open; counts -/
/-- the first of the least, below a limit -/
def pz_arg (f : Nat → Nat) (m : Nat) : Nat → Nat × Nat
  | 0 => (1000, m)
  | n + 1 => if f n < (pz_arg f m n).2 then (n, f n) else pz_arg f m n
theorem pz_arg_or (f : Nat → Nat) (m : Nat) : ∀ n, pz_arg f m n = (1000, m) ∨ ((pz_arg f m n).1 < n ∧ (pz_arg f m n).2 = f (pz_arg f m n).1 ∧ (pz_arg f m n).2 < m)
  | 0 => Or.inl rfl
  | n + 1 => by
    rw [pz_arg]
    have ih := pz_arg_or f m n
    split
    · rename_i h
      refine Or.inr ⟨Nat.lt_succ_self n, rfl, ?_⟩
      rcases ih with e | ⟨a, b, c⟩
      · rw [e] at h; exact h
      · exact Nat.lt_trans h c
    · rcases ih with e | ⟨a, b, c⟩
      · exact Or.inl e
      · exact Or.inr ⟨by omega, b, c⟩
theorem pz_arg_le (f : Nat → Nat) (m n : Nat) : (pz_arg f m n).2 ≤ m := by
  rcases pz_arg_or f m n with e | ⟨a, b, c⟩
  · rw [e]; exact Nat.le_refl _
  · omega
/-- the first of the most -/
def pz_mx (f : Nat → Nat) : Nat → Nat × Nat
  | 0 => (1000, 0)
  | n + 1 => if (pz_mx f n).2 < f n then (n, f n) else pz_mx f n
theorem pz_mx_le (f : Nat → Nat) {b : Nat} : ∀ {n : Nat}, (∀ k, k < n → f k ≤ b) → (pz_mx f n).2 ≤ b
  | 0, _ => Nat.zero_le _
  | n + 1, h => by
    rw [pz_mx]
    split
    · exact h n (by omega)
    · exact pz_mx_le f (fun k hk => h k (by omega))
def pa_any (d : pw_L) (S : Nat → Nat) (a : Nat) : Nat → Bool
  | 0 => false
  | n + 1 => pa_any d S a n || decide (pa_bits d S n a ≠ 0)
theorem pz_cnt_z {f : Nat → Bool} : ∀ {n : Nat}, pz_cnt f n = 0 ↔ pb f n = 0
  | 0 => ⟨fun _ => rfl, fun _ => rfl⟩
  | n + 1 => by
    rw [pz_cnt, pb]
    have ih := pz_cnt_z (f := f) (n := n)
    have hp : 0 < 2 ^ n := Nat.pow_pos (by omega)
    cases f n with
    | true => rw [if_pos rfl, if_pos rfl]; omega
    | false => rw [if_neg (by decide), if_neg (by decide)]; omega
theorem pa_bits_lt (d : pw_L) (S : Nat → Nat) (p a : Nat) : pa_bits d S p a < 2 ^ 24 := pb_lt _ 24
section
variable {L a : Nat} {h : am_H} {d : pw_L} {S : Nat → Nat}
theorem s50 (hL : pc_lo L) (hR : am_R h 0 10 = some L) (hd : pc_L h L d) (ho : pw_ok d) (hS : pc_S h 21 S) (hb : pw_S S) (h0 : S 0 < 100000) (ha : a < pw_n d 1) : am_RI (am_run am_M 50 [.ref 0, .int (nI a)] h) (fun v g => v = nI (if pa_any d S a (pw_n d 3) then 1 else 0) ∧ am_kp ps_0 h g) := by
  have h6 := ho.1.2.2.2.1
  rw [e50]
  refine am_forx0 (fun k (g : am_H) => am_vn am_M 4 50 2 [some (.ref 0), some (.int (nI a)), some (.int (nI k))] [] g) (fun k g => am_kp ps_0 h g ∧ pa_any d S a k = false) (fun o => am_RI o (fun v g => v = nI (if pa_any d S a (pw_n d 3) then 1 else 0) ∧ am_kp ps_0 h g)) (pw_n d 3) h ⟨am_kp.refl _ _, rfl⟩ (fun g hg => ?_) (fun k g hk hg => ?_)
  · rw [e50_2, hg.1.R, hR, am_gr_n, pc_lch hL, show am_I g L 14 = nI (pw_n d 3) from (hd.kp hg.1 (ps_0L hL)).1 3 (by omega), if_pos (nI_le (Nat.le_refl _) (by omega)), if_pos (by decide), hg.2]
    exact ⟨_, _, rfl, rfl, hg.1⟩
  · have hdg := hd.kp hg.1 (ps_0L hL)
    obtain ⟨v, g2, e2, hv, k2⟩ := s104 hL pc_so20 hdg ho (hS.kp hg.1 (fun k => ps_0_f (by omega))) hb h0 hk ha
    have kk := hg.1.trans k2
    have hbl := pa_bits_lt d S k a
    rw [e50_2, hg.1.R, hR, am_gr_n, pc_lch hL, show am_I g L 14 = nI (pw_n d 3) from hdg.1 3 (by omega), if_neg (nI_ge hk (by omega)), am_gr_n, pc_lch hL, e2, am_bI_ok, hv]
    by_cases c : pa_bits d S k a = 0
    · refine Or.inl ⟨g2, ?_, kk, ?_⟩
      · rw [if_pos (by rw [c]; rfl), pz_succ]
      · rw [pa_any, hg.2, decide_eq_false (fun h => h c)]; rfl
    · refine Or.inr ?_
      have : ∀ n, k < n → pa_any d S a n = true := by
        intro n
        induction n with
        | zero => intro h; exact absurd h (Nat.not_lt_zero k)
        | succ n ih =>
          intro hn
          rw [pa_any]
          by_cases e : k = n
          · subst e; rw [decide_eq_true c, Bool.or_true]
          · rw [ih (by omega), Bool.true_or]
      rw [if_neg (nI_ne0 (by omega) (by omega)), if_pos (by decide), this _ hk]
      exact ⟨_, _, rfl, rfl, kk⟩
end
theorem call_lodged {w : pw_W} (hw : pw_wf w) (x : Int32) : am_AG 1 (fun e => e) w (fun h => am_run am_M 21 [.ref 0, .int x] h) (fun h => am_run am_M 260 [.ref 60, .int x] h) := by
  obtain ⟨d, S, l, t, im, tp, nb, fp, rf⟩ := w
  have hw0 := hw
  obtain ⟨ho, hS, ha, ht, hi, hnb, htp⟩ := hw
  rcases Classical.em (pz_b x (pw_n d 1)) with hx | hx
  rotate_left
  · refine ⟨1, 0, (d, S, l, t, im, tp, nb, fp, rf), hw0, ⟨by omega, fun hh => by first | exact absurd rfl hh | rfl⟩, fun h hc => ?_, fun h hm => ?_⟩
    · have hc0 := hc
      obtain ⟨⟨L, hL, r1, r2, c1⟩, c2, c3, c4, c5, c6, c7, c8, c9⟩ := hc
      refine am_CO_x (by decide) ?_
      show am_run am_M 21 [.ref 0, .int x] h = _
      rw [e21, c61_f hL r1 c1 ho hx]
      try rfl
    · show am_RI (am_run am_M 260 [.ref 60, .int x] h) _
      obtain ⟨hm0, ht0, hf0⟩ := m_start hm
      rw [e260]
      generalize am_sI h 60 0 (nI 0) = g at hm0 ht0 hf0 ⊢
      dsimp only
      have hm1 := hm0
      obtain ⟨m1, m2, m3, m4, m5, m6, m7, m8, m9, m10, m11, m12⟩ := hm1
      rw [s235_f m1 ho ht0 hx, am_bI_ok, if_pos (by decide)]
      exact ⟨_, _, rfl, am_fin_x hf0 hm0 (by decide)⟩
  obtain ⟨i, hx, rfl⟩ := hx
  have h6 := ho.1.2.2.2.1
  have h4 := ho.1.1
  have hd9 := hS.2.1
  have h9 := ho.1.2.1
  refine ⟨0, (pn_o (pz_arg (fun b => if pw_t d 0 b = 0 then pw_far d i b else 1000) 1000 (pw_n d 1)).1 20), (d, S, l, t, im, tp, nb, fp, rf), hw0, ⟨by omega, fun hh => by first | exact absurd rfl hh | rfl⟩, fun h hc => ?_, fun h hm => ?_⟩
  · have hc0 := hc
    obtain ⟨⟨L, hL, r1, r2, c1⟩, c2, c3, c4, c5, c6, c7, c8, c9⟩ := hc
    refine am_CO_0 ?_
    show am_RI (am_run am_M 21 [.ref 0, .int (nI i)] h) _
    rw [e21, c61_t hL r1 c1 ho hx, am_bV_ok]
    obtain ⟨g, e, hp⟩ := am_for0 (fun k (g : am_H) => am_vn am_M 2 21 14 [some (.ref 0), some (.int (nI i)), some (.int (pn_o (pz_arg (fun b => if pw_t d 0 b = 0 then pw_far d i b else 1000) 1000 k).1 20)), some (.int (nI (pz_arg (fun b => if pw_t d 0 b = 0 then pw_far d i b else 1000) 1000 k).2)), some (.int (nI k))] [] g) (fun _ g => g = h) (pw_n d 1) h rfl (fun k g hk hg => by
      subst hg
      have hkd := (ho.2.1 k hk).1
      have tw := pw_far_two ho hx hk
      have hal := pz_arg_le (fun b => if pw_t d 0 b = 0 then pw_far d i b else 1000) 1000 k
      have hw : pw_w d 1000 (pw_n d 1) i k = pw_far d i k := rfl
      refine ⟨g, ?_, rfl⟩
      rw [e21_14, r1, am_gr_n, pc_lch hL, show am_I g L 12 = nI (pw_n d 1) from c1.1 1 (by omega), if_neg (nI_ge hk (by omega)), am_gr_n, pc_lch hL, s90 hL (by omega), am_bI_ok, (c1.2.1 k hk).1, pz_arg]
      by_cases ck : pw_t d 0 k = 0
      · rw [if_pos (by rw [ck]; rfl), r1, am_gr_n, pc_lch hL, s96 hL (show i * 9 + k < 81 by omega), am_bI_ok, c1.2.2.2.2.2.1 i k hx hk, hw, if_pos ck]
        by_cases cl : pw_far d i k < (pz_arg (fun b => if pw_t d 0 b = 0 then pw_far d i b else 1000) 1000 k).2
        · rw [if_neg (nI_ge cl (by omega)), r1, am_gr_n, pc_lch hL, s96 hL (show i * 9 + k < 81 by omega), am_bI_ok, c1.2.2.2.2.2.1 i k hx hk, hw, if_pos cl, pz_succ, show pn_o (k, pw_far d i k).1 20 = nI k from if_pos (by show k ≤ 20; omega)]
        · rw [if_pos (nI_le (by omega) (by omega)), if_neg cl, pz_succ]
      · rw [if_neg (nI_ne0 (by omega) (by omega)), if_neg ck, if_neg (by omega), pz_succ])
    subst hp
    refine Eq.mpr (congrArg (fun o => am_RI o _) e) ?_
    rw [e21_14, r1, am_gr_n, pc_lch hL, show am_I g L 12 = nI (pw_n d 1) from c1.1 1 (by omega), if_pos (nI_le (Nat.le_refl _) (by omega))]
    exact ⟨_, _, rfl, rfl, hc0, am_fc.refl _⟩
  · show am_RI (am_run am_M 260 [.ref 60, .int (nI i)] h) _
    obtain ⟨hm0, ht0, hf0⟩ := m_start hm
    rw [e260]
    generalize am_sI h 60 0 (nI 0) = g at hm0 ht0 hf0 ⊢
    dsimp only
    have hm1 := hm0
    obtain ⟨m1, m2, m3, m4, m5, m6, m7, m8, m9, m10, m11, m12⟩ := hm1
    rw [s235_t m1 ho ht0 hx, am_bI_ok, if_neg (by decide)]
    obtain ⟨g2, e, hp⟩ := am_for0 (fun k (g' : am_H) => am_vn am_M 2 260 19 [some (.ref 60), some (.int (nI i)), some (.int (pn_o (pz_arg (fun b => if pw_t d 0 b = 0 then pw_far d i b else 1000) 1000 k).1 20)), some (.int (nI k))] [] g') (fun _ g' => g' = g) (pw_n d 1) g rfl (fun k g' hk hg => by
      subst hg
      have hkd := (ho.2.1 k hk).1
      have tw := pw_far_two ho hx hk
      have hor := pz_arg_or (fun b => if pw_t d 0 b = 0 then pw_far d i b else 1000) 1000 k
      have hw : pw_w d 9999 (pw_n d 1) i k = pw_fam d i k := rfl
      refine ⟨g', ?_, rfl⟩
      rw [e260_19, show am_I g' 60 2 = nI (pw_n d 1) from m1.1 1 (by omega), if_neg (nI_ge hk (by omega)), ml_62 (by omega), (m1.2.1 k hk).1, pz_arg]
      by_cases ck : pw_t d 0 k = 0
      · rw [if_pos (by rw [ck]; rfl), pk_mul, nI_add, Nat.mul_comm 9 i, ml_65 (show i * 9 + k < 81 by omega), m1.2.2.2.2.2.1 i k hx hk, hw, if_pos ck]
        rcases tw with ⟨t1, t2⟩ | ⟨t1, t2⟩
        · rw [if_neg (nI_ge (by omega) (by omega))]
          rcases hor with e0 | ⟨o1, o2, o3⟩
          · rw [e0, if_pos (show pn_o (1000, 1000).1 20 = (-1 : Int32) from rfl), if_pos (show pw_far d i k < 1000 by omega), pz_succ, show pn_o (k, pw_far d i k).1 20 = nI k from if_pos (by show k ≤ 20; omega)]
          · have tb := pw_far_two ho hx (show (pz_arg (fun b => if pw_t d 0 b = 0 then pw_far d i b else 1000) 1000 k).1 < pw_n d 1 by omega)
            have hfb : (pz_arg (fun b => if pw_t d 0 b = 0 then pw_far d i b else 1000) 1000 k).2 = pw_far d i (pz_arg (fun b => if pw_t d 0 b = 0 then pw_far d i b else 1000) 1000 k).1 := by
              rw [o2] at o3 ⊢
              split at o3
              · rename_i q; rw [if_pos q]
              · omega
            have hwb : pw_w d 9999 (pw_n d 1) i (pz_arg (fun b => if pw_t d 0 b = 0 then pw_far d i b else 1000) 1000 k).1 = pw_fam d i (pz_arg (fun b => if pw_t d 0 b = 0 then pw_far d i b else 1000) 1000 k).1 := rfl
            rw [show pn_o (pz_arg (fun b => if pw_t d 0 b = 0 then pw_far d i b else 1000) 1000 k).1 20 = nI (pz_arg (fun b => if pw_t d 0 b = 0 then pw_far d i b else 1000) 1000 k).1 from if_pos (by omega), if_neg (pz_neg1 (by omega)), ml_65 (show i * 9 + k < 81 by omega), m1.2.2.2.2.2.1 i k hx hk, hw, nI_add, ml_65 (show i * 9 + (pz_arg (fun b => if pw_t d 0 b = 0 then pw_far d i b else 1000) 1000 k).1 < 81 by omega), m1.2.2.2.2.2.1 i _ hx (by omega), hwb]
            by_cases cl : pw_far d i k < (pz_arg (fun b => if pw_t d 0 b = 0 then pw_far d i b else 1000) 1000 k).2
            · rw [if_neg (nI_ge (by omega) (by omega)), if_pos cl, pz_succ, show pn_o (k, pw_far d i k).1 20 = nI k from if_pos (by show k ≤ 20; omega)]
            · rw [if_pos (nI_le (by omega) (by omega)), if_neg cl, pz_succ, show pn_o (pz_arg (fun b => if pw_t d 0 b = 0 then pw_far d i b else 1000) 1000 k).1 20 = nI (pz_arg (fun b => if pw_t d 0 b = 0 then pw_far d i b else 1000) 1000 k).1 from if_pos (by omega)]
        · have hal := pz_arg_le (fun b => if pw_t d 0 b = 0 then pw_far d i b else 1000) 1000 k
          rw [if_pos (nI_le (by omega) (by omega)), if_neg (by omega), pz_succ]
      · have hal := pz_arg_le (fun b => if pw_t d 0 b = 0 then pw_far d i b else 1000) 1000 k
        rw [if_neg (nI_ne0 (by omega) (by omega)), if_neg ck, if_neg (by omega), pz_succ])
    subst hp
    refine Eq.mpr (congrArg (fun o => am_RI o _) e) ?_
    rw [e260_19, show am_I g2 60 2 = nI (pw_n d 1) from m1.1 1 (by omega), if_pos (nI_le (Nat.le_refl _) (by omega))]
    exact ⟨_, _, rfl, am_fin_m hf0 hm0 (am_kp.refl _ _) ht0 (fun _ => rfl)⟩
theorem call_neighbour {w : pw_W} (hw : pw_wf w) (x : Int32) : am_AG 1 (fun e => e) w (fun h => am_run am_M 44 [.ref 0, .int x] h) (fun h => am_run am_M 282 [.ref 60, .int x] h) := by
  obtain ⟨d, S, l, t, im, tp, nb, fp, rf⟩ := w
  have hw0 := hw
  obtain ⟨ho, hS, ha, ht, hi, hnb, htp⟩ := hw
  rcases Classical.em (pz_b x (pw_n d 3)) with hx | hx
  rotate_left
  · refine ⟨1, 0, (d, S, l, t, im, tp, nb, fp, rf), hw0, ⟨by omega, fun hh => by first | exact absurd rfl hh | rfl⟩, fun h hc => ?_, fun h hm => ?_⟩
    · have hc0 := hc
      obtain ⟨⟨L, hL, r1, r2, c1⟩, c2, c3, c4, c5, c6, c7, c8, c9⟩ := hc
      refine am_CO_x (by decide) ?_
      show am_run am_M 44 [.ref 0, .int x] h = _
      rw [e44, c62_f hL r1 c1 ho hx]
      try rfl
    · show am_RI (am_run am_M 282 [.ref 60, .int x] h) _
      obtain ⟨hm0, ht0, hf0⟩ := m_start hm
      rw [e282]
      generalize am_sI h 60 0 (nI 0) = g at hm0 ht0 hf0 ⊢
      dsimp only
      have hm1 := hm0
      obtain ⟨m1, m2, m3, m4, m5, m6, m7, m8, m9, m10, m11, m12⟩ := hm1
      rw [s236_f m1 ho ht0 hx, am_bI_ok, if_pos (by decide)]
      exact ⟨_, _, rfl, am_fin_x hf0 hm0 (by decide)⟩
  obtain ⟨i, hx, rfl⟩ := hx
  have h6 := ho.1.2.2.2.1
  have h4 := ho.1.1
  have hd9 := hS.2.1
  have h9 := ho.1.2.1
  refine ⟨0, (pn_o (pz_arg (fun k => if k = i then 1000 else pw_far d (pw_t d 3 i) (pw_t d 3 k)) 1000 (pw_n d 3)).1 20), (d, S, l, t, im, tp, nb, fp, rf), hw0, ⟨by omega, fun hh => by first | exact absurd rfl hh | rfl⟩, fun h hc => ?_, fun h hm => ?_⟩
  · have hc0 := hc
    obtain ⟨⟨L, hL, r1, r2, c1⟩, c2, c3, c4, c5, c6, c7, c8, c9⟩ := hc
    refine am_CO_0 ?_
    show am_RI (am_run am_M 44 [.ref 0, .int (nI i)] h) _
    rw [e44, c62_t hL r1 c1 ho hx, am_bV_ok]
    have hhi := (ho.2.2.1 i hx).2
    obtain ⟨g, e, hp⟩ := am_for0 (fun k (g : am_H) => am_vn am_M 2 44 14 [some (.ref 0), some (.int (nI i)), some (.int (pn_o (pz_arg (fun k => if k = i then 1000 else pw_far d (pw_t d 3 i) (pw_t d 3 k)) 1000 k).1 20)), some (.int (nI (pz_arg (fun k => if k = i then 1000 else pw_far d (pw_t d 3 i) (pw_t d 3 k)) 1000 k).2)), some (.int (nI k)), none] [] g) (fun _ g => g = h) (pw_n d 3) h rfl (fun k g hk hg => by
      subst hg
      have hhk := (ho.2.2.1 k hk).2
      have tw := pw_far_two ho hhi hhk
      have hal := pz_arg_le (fun k => if k = i then 1000 else pw_far d (pw_t d 3 i) (pw_t d 3 k)) 1000 k
      have hw : pw_w d 1000 (pw_n d 1) (pw_t d 3 i) (pw_t d 3 k) = pw_far d (pw_t d 3 i) (pw_t d 3 k) := rfl
      refine ⟨g, ?_, rfl⟩
      rw [e44_14, r1, am_gr_n, pc_lch hL, show am_I g L 14 = nI (pw_n d 3) from c1.1 3 (by omega), if_neg (nI_ge hk (by omega)), am_gr_n, am_gr_n, pc_lch hL, s93 hL (by omega), am_bI_ok, (c1.2.2.1 i hx).2, r1, am_gr_n, pc_lch hL, s93 hL (by omega), am_bI_ok, (c1.2.2.1 k hk).2, pc_lch hL, s96 hL (show pw_t d 3 i * 9 + pw_t d 3 k < 81 by omega), am_bI_ok, c1.2.2.2.2.2.1 _ _ hhi hhk, hw, pz_arg]
      by_cases ck : k = i
      · rw [if_pos (by rw [ck]), if_pos ck, if_neg (by omega), pz_succ]
      · rw [if_neg (fun e => ck ((nI_eq (by omega) (by omega)).mp e)), if_neg ck]
        by_cases cl : pw_far d (pw_t d 3 i) (pw_t d 3 k) < (pz_arg (fun k => if k = i then 1000 else pw_far d (pw_t d 3 i) (pw_t d 3 k)) 1000 k).2
        · rw [if_neg (nI_ge cl (by omega)), if_pos cl, pz_succ, show pn_o (k, pw_far d (pw_t d 3 i) (pw_t d 3 k)).1 20 = nI k from if_pos (by show k ≤ 20; omega)]
        · rw [if_pos (nI_le (by omega) (by omega)), if_neg cl, pz_succ])
    subst hp
    refine Eq.mpr (congrArg (fun o => am_RI o _) e) ?_
    rw [e44_14, r1, am_gr_n, pc_lch hL, show am_I g L 14 = nI (pw_n d 3) from c1.1 3 (by omega), if_pos (nI_le (Nat.le_refl _) (by omega))]
    exact ⟨_, _, rfl, rfl, hc0, am_fc.refl _⟩
  · show am_RI (am_run am_M 282 [.ref 60, .int (nI i)] h) _
    obtain ⟨hm0, ht0, hf0⟩ := m_start hm
    rw [e282]
    generalize am_sI h 60 0 (nI 0) = g at hm0 ht0 hf0 ⊢
    dsimp only
    have hm1 := hm0
    obtain ⟨m1, m2, m3, m4, m5, m6, m7, m8, m9, m10, m11, m12⟩ := hm1
    rw [s236_t m1 ho ht0 hx, am_bI_ok, if_neg (by decide)]
    have hhi := (ho.2.2.1 i hx).2
    obtain ⟨g2, e, hp⟩ := am_for0 (fun k (g' : am_H) => am_vn am_M 2 282 24 [some (.ref 60), some (.int (nI i)), some (.int (pn_o (pz_arg (fun k => if k = i then 1000 else pw_far d (pw_t d 3 i) (pw_t d 3 k)) 1000 k).1 20)), some (.int (nI (if (pz_arg (fun k => if k = i then 1000 else pw_far d (pw_t d 3 i) (pw_t d 3 k)) 1000 k).1 = 1000 then 9999 else (pz_arg (fun k => if k = i then 1000 else pw_far d (pw_t d 3 i) (pw_t d 3 k)) 1000 k).2))), some (.int (nI k)), none] [] g') (fun _ g' => g' = g) (pw_n d 3) g rfl (fun k g' hk hg => by
      subst hg
      have hhk := (ho.2.2.1 k hk).2
      have tw := pw_far_two ho hhi hhk
      have hor := pz_arg_or (fun k => if k = i then 1000 else pw_far d (pw_t d 3 i) (pw_t d 3 k)) 1000 k
      have hw : pw_w d 9999 (pw_n d 1) (pw_t d 3 i) (pw_t d 3 k) = pw_fam d (pw_t d 3 i) (pw_t d 3 k) := rfl
      refine ⟨g', ?_, rfl⟩
      rw [e282_24, show am_I g' 60 4 = nI (pw_n d 3) from m1.1 3 (by omega), if_neg (nI_ge hk (by omega)), ml_67 (by omega), (m1.2.2.1 i hx).2, ml_67 (by omega), (m1.2.2.1 k hk).2, pk_mul, nI_add, Nat.mul_comm 9 (pw_t d 3 i), ml_65 (show pw_t d 3 i * 9 + pw_t d 3 k < 81 by omega), m1.2.2.2.2.2.1 _ _ hhi hhk, hw, pz_arg]
      by_cases ck : k = i
      · have hal := pz_arg_le (fun k => if k = i then 1000 else pw_far d (pw_t d 3 i) (pw_t d 3 k)) 1000 k
        rw [if_pos (by rw [ck]), if_pos ck, if_neg (show ¬ 1000 < (pz_arg (fun k => if k = i then 1000 else pw_far d (pw_t d 3 i) (pw_t d 3 k)) 1000 k).2 by omega), pz_succ]
      · rw [if_neg (fun e => ck ((nI_eq (by omega) (by omega)).mp e)), if_neg ck]
        have hv : pw_fam d (pw_t d 3 i) (pw_t d 3 k) < (if (pz_arg (fun k => if k = i then 1000 else pw_far d (pw_t d 3 i) (pw_t d 3 k)) 1000 k).1 = 1000 then 9999 else (pz_arg (fun k => if k = i then 1000 else pw_far d (pw_t d 3 i) (pw_t d 3 k)) 1000 k).2) ↔ pw_far d (pw_t d 3 i) (pw_t d 3 k) < (pz_arg (fun k => if k = i then 1000 else pw_far d (pw_t d 3 i) (pw_t d 3 k)) 1000 k).2 := by
          rcases hor with e0 | ⟨o1, o2, o3⟩
          · rw [e0, if_pos rfl]; show _ ↔ _ < 1000; omega
          · rw [if_neg (by omega)]; omega
        have hlt : (if (pz_arg (fun k => if k = i then 1000 else pw_far d (pw_t d 3 i) (pw_t d 3 k)) 1000 k).1 = 1000 then 9999 else (pz_arg (fun k => if k = i then 1000 else pw_far d (pw_t d 3 i) (pw_t d 3 k)) 1000 k).2) < 2 ^ 31 := by
          have hal := pz_arg_le (fun k => if k = i then 1000 else pw_far d (pw_t d 3 i) (pw_t d 3 k)) 1000 k
          split <;> omega
        by_cases cl : pw_far d (pw_t d 3 i) (pw_t d 3 k) < (pz_arg (fun k => if k = i then 1000 else pw_far d (pw_t d 3 i) (pw_t d 3 k)) 1000 k).2
        · have hk9 : k ≠ 1000 := by omega
          have hal := pz_arg_le (fun k => if k = i then 1000 else pw_far d (pw_t d 3 i) (pw_t d 3 k)) 1000 k
          rw [if_pos (nI_lt (hv.mpr cl) hlt), if_pos cl, pz_succ, show pn_o (k, pw_far d (pw_t d 3 i) (pw_t d 3 k)).1 20 = nI k from if_pos (by show k ≤ 20; omega)]
          show _ = am_vn am_M 2 282 24 [some (.ref 60), some (.int (nI i)), some (.int (nI k)), some (.int (nI (if k = 1000 then 9999 else pw_far d (pw_t d 3 i) (pw_t d 3 k)))), some (.int (nI (k + 1))), none] [] g'
          rw [if_neg hk9, show pw_fam d (pw_t d 3 i) (pw_t d 3 k) = pw_far d (pw_t d 3 i) (pw_t d 3 k) by omega]
        · rw [if_neg (nI_nlt (Nat.le_of_not_lt (fun h => cl (hv.mp h))) (by omega)), if_neg cl, pz_succ])
    subst hp
    refine Eq.mpr (congrArg (fun o => am_RI o _) e) ?_
    rw [e282_24, show am_I g2 60 4 = nI (pw_n d 3) from m1.1 3 (by omega), if_pos (nI_le (Nat.le_refl _) (by omega))]
    exact ⟨_, _, rfl, am_fin_m hf0 hm0 (am_kp.refl _ _) ht0 (fun _ => rfl)⟩
theorem call_debtor {w : pw_W} (hw : pw_wf w) : am_AG 0 (fun e => e) w (fun h => am_run am_M 43 [.ref 0] h) (fun h => am_run am_M 281 [.ref 60] h) := by
  obtain ⟨d, S, l, t, im, tp, nb, fp, rf⟩ := w
  have hw0 := hw
  obtain ⟨ho, hS, ha, ht, hi, hnb, htp⟩ := hw
  have h6 := ho.1.2.2.2.1
  have h4 := ho.1.1
  have hd9 := hS.2.1
  have h9 := ho.1.2.1
  refine ⟨0, (pn_o (pz_mx (fun k => S (13 + k)) (pw_n d 3)).1 20), (d, S, l, t, im, tp, nb, fp, rf), hw0, ⟨by omega, fun hh => by first | exact absurd rfl hh | rfl⟩, fun h hc => ?_, fun h hm => ?_⟩
  · have hc0 := hc
    obtain ⟨⟨L, hL, r1, r2, c1⟩, c2, c3, c4, c5, c6, c7, c8, c9⟩ := hc
    refine am_CO_0 ?_
    show am_RI (am_run am_M 43 [.ref 0] h) _
    rw [e43]
    obtain ⟨g, e, hp⟩ := am_for0 (fun k (g : am_H) => am_vn am_M 2 43 6 [some (.ref 0), some (.int (nI (pz_mx (fun k => S (13 + k)) k).2)), some (.int (pn_o (pz_mx (fun k => S (13 + k)) k).1 20)), some (.int (nI k))] [] g) (fun _ g => g = h) (pw_n d 3) h rfl (fun k g hk hg => by
      subst hg
      have hal : (pz_mx (fun k => S (13 + k)) k).2 ≤ 9999 := pz_mx_le (fun k => S (13 + k)) (fun j hj => (hS.1.1 j (by omega)).2.2.1)
      have hbk := (hS.1.1 k (by omega)).2.2.1
      refine ⟨g, ?_, rfl⟩
      rw [e43_6, r1, am_gr_n, pc_lch hL, show am_I g L 14 = nI (pw_n d 3) from c1.1 3 (by omega), if_neg (nI_ge hk (by omega)), s151 pc_so20 (show 1 + 2 * 6 + k < 49 by omega), am_bI_ok, show 1 + 2 * 6 + k = 13 + k by omega, c2 _ (by omega), pz_mx]
      by_cases cl : (pz_mx (fun k => S (13 + k)) k).2 < S (13 + k)
      · rw [if_neg (nI_ge cl (by omega)), s151 pc_so20 (show 1 + 2 * 6 + k < 49 by omega), am_bI_ok, show 1 + 2 * 6 + k = 13 + k by omega, c2 _ (by omega), if_pos cl, pz_succ, show pn_o (k, S (13 + k)).1 20 = nI k from if_pos (by show k ≤ 20; omega)]
      · rw [if_pos (nI_le (by omega) (by omega)), if_neg cl, pz_succ])
    subst hp
    refine Eq.mpr (congrArg (fun o => am_RI o _) e) ?_
    rw [e43_6, r1, am_gr_n, pc_lch hL, show am_I g L 14 = nI (pw_n d 3) from c1.1 3 (by omega), if_pos (nI_le (Nat.le_refl _) (by omega))]
    exact ⟨_, _, rfl, rfl, hc0, am_fc.refl _⟩
  · show am_RI (am_run am_M 281 [.ref 60] h) _
    obtain ⟨hm0, ht0, hf0⟩ := m_start hm
    rw [e281]
    generalize am_sI h 60 0 (nI 0) = g at hm0 ht0 hf0 ⊢
    dsimp only
    have hm1 := hm0
    obtain ⟨m1, m2, m3, m4, m5, m6, m7, m8, m9, m10, m11, m12⟩ := hm1
    obtain ⟨g2, e, hp⟩ := am_for0 (fun k (g' : am_H) => am_vn am_M 0 281 11 [some (.ref 60), some (.int (pn_o (pz_mx (fun k => S (13 + k)) k).1 20)), some (.int (nI (pz_mx (fun k => S (13 + k)) k).2)), some (.int (nI k))] [] g') (fun _ g' => g' = g) (pw_n d 3) g rfl (fun k g' hk hg => by
      subst hg
      have hal : (pz_mx (fun k => S (13 + k)) k).2 ≤ 9999 := pz_mx_le (fun k => S (13 + k)) (fun j hj => (hS.1.1 j (by omega)).2.2.1)
      have hbk := (hS.1.1 k (by omega)).2.2.1
      refine ⟨g', ?_, rfl⟩
      rw [e281_11, show am_I g' 60 4 = nI (pw_n d 3) from m1.1 3 (by omega), if_neg (nI_ge hk (by omega)), nI_add 13 k, ml_85 (by omega), m2.i0 (by omega), pz_mx]
      by_cases cl : (pz_mx (fun k => S (13 + k)) k).2 < S (13 + k)
      · rw [if_pos (nI_lt cl (by omega)), ml_85 (by omega), m2.i0 (by omega), if_pos cl, pz_succ, show pn_o (k, S (13 + k)).1 20 = nI k from if_pos (by show k ≤ 20; omega)]
      · rw [if_neg (nI_nlt (by omega) (by omega)), if_neg cl, pz_succ])
    subst hp
    refine Eq.mpr (congrArg (fun o => am_RI o _) e) ?_
    rw [e281_11, show am_I g2 60 4 = nI (pw_n d 3) from m1.1 3 (by omega), if_pos (nI_le (Nat.le_refl _) (by omega))]
    exact ⟨_, _, rfl, am_fin_m hf0 hm0 (am_kp.refl _ _) ht0 (fun _ => rfl)⟩
theorem call_open {w : pw_W} (hw : pw_wf w) (x y : Int32) : am_AG 1 (fun e => e) w (fun h => am_run am_M 37 [.ref 0, .int x, .int y] h) (fun h => am_run am_M 273 [.ref 60, .int x, .int y] h) := by
  obtain ⟨d, S, l, t, im, tp, nb, fp, rf⟩ := w
  have hw0 := hw
  obtain ⟨ho, hS, ha, ht, hi, hnb, htp⟩ := hw
  rcases Classical.em (pz_b x (pw_n d 3)) with hx | hx
  rotate_left
  · refine ⟨1, 0, (d, S, l, t, im, tp, nb, fp, rf), hw0, ⟨by omega, fun hh => by first | exact absurd rfl hh | rfl⟩, fun h hc => ?_, fun h hm => ?_⟩
    · have hc0 := hc
      obtain ⟨⟨L, hL, r1, r2, c1⟩, c2, c3, c4, c5, c6, c7, c8, c9⟩ := hc
      refine am_CO_x (by decide) ?_
      show am_run am_M 37 [.ref 0, .int x, .int y] h = _
      rw [e37, c62_f hL r1 c1 ho hx]
      try rfl
    · show am_RI (am_run am_M 273 [.ref 60, .int x, .int y] h) _
      obtain ⟨hm0, ht0, hf0⟩ := m_start hm
      rw [e273]
      generalize am_sI h 60 0 (nI 0) = g at hm0 ht0 hf0 ⊢
      dsimp only
      have hm1 := hm0
      obtain ⟨m1, m2, m3, m4, m5, m6, m7, m8, m9, m10, m11, m12⟩ := hm1
      rw [s236_f m1 ho ht0 hx, am_bI_ok, if_pos (by decide)]
      exact ⟨_, _, rfl, am_fin_x hf0 hm0 (by decide)⟩
  obtain ⟨i, hx, rfl⟩ := hx
  rcases Classical.em (pz_b y (pw_n d 1)) with hy | hy
  rotate_left
  · refine ⟨1, 0, (d, S, l, t, im, tp, nb, fp, rf), hw0, ⟨by omega, fun hh => by first | exact absurd rfl hh | rfl⟩, fun h hc => ?_, fun h hm => ?_⟩
    · have hc0 := hc
      obtain ⟨⟨L, hL, r1, r2, c1⟩, c2, c3, c4, c5, c6, c7, c8, c9⟩ := hc
      refine am_CO_x (by decide) ?_
      show am_run am_M 37 [.ref 0, .int (nI i), .int y] h = _
      rw [e37, c62_t hL r1 c1 ho hx, am_bV_ok, c61_f hL r1 c1 ho hy]
      try rfl
    · show am_RI (am_run am_M 273 [.ref 60, .int (nI i), .int y] h) _
      obtain ⟨hm0, ht0, hf0⟩ := m_start hm
      rw [e273]
      generalize am_sI h 60 0 (nI 0) = g at hm0 ht0 hf0 ⊢
      dsimp only
      have hm1 := hm0
      obtain ⟨m1, m2, m3, m4, m5, m6, m7, m8, m9, m10, m11, m12⟩ := hm1
      rw [s236_t m1 ho ht0 hx, am_bI_ok, if_neg (by decide), s235_f m1 ho ht0 hy, am_bI_ok, if_pos (by decide)]
      exact ⟨_, _, rfl, am_fin_x hf0 hm0 (by decide)⟩
  obtain ⟨j, hy, rfl⟩ := hy
  have h6 := ho.1.2.2.2.1
  have h4 := ho.1.1
  have hd9 := hS.2.1
  have h9 := ho.1.2.1
  refine ⟨0, (nI (pz_cnt (fun hr => pa_ok d S i j hr) 24)), (d, S, l, t, im, tp, nb, fp, rf), hw0, ⟨by omega, fun hh => by first | exact absurd rfl hh | rfl⟩, fun h hc => ?_, fun h hm => ?_⟩
  · have hc0 := hc
    obtain ⟨⟨L, hL, r1, r2, c1⟩, c2, c3, c4, c5, c6, c7, c8, c9⟩ := hc
    refine am_CO_0 ?_
    show am_RI (am_run am_M 37 [.ref 0, .int (nI i), .int (nI j)] h) _
    rw [e37, c62_t hL r1 c1 ho hx, am_bV_ok, c61_t hL r1 c1 ho hy, am_bV_ok]
    rw [r1, am_gr_n, pc_lch hL]
    refine pz_II (s104 hL pc_so20 c1 ho c2 hS.1 (by omega) hx hy) fun v g hv => ?_
    obtain ⟨rfl, k⟩ := hv
    rw [s338 (pa_bits_lt d S i j), am_bI_ok]
    unfold pa_bits
    rw [pz_cnt_pb _ (Nat.le_refl 24)]
    exact ⟨_, _, rfl, rfl, am_fin_c hc0 (k.up fun i k => ps_0C)⟩
  · show am_RI (am_run am_M 273 [.ref 60, .int (nI i), .int (nI j)] h) _
    obtain ⟨hm0, ht0, hf0⟩ := m_start hm
    rw [e273]
    generalize am_sI h 60 0 (nI 0) = g at hm0 ht0 hf0 ⊢
    dsimp only
    have hm1 := hm0
    obtain ⟨m1, m2, m3, m4, m5, m6, m7, m8, m9, m10, m11, m12⟩ := hm1
    rw [s236_t m1 ho ht0 hx, am_bI_ok, if_neg (by decide), s235_t m1 ho ht0 hy, am_bI_ok, if_neg (by decide)]
    refine pz_II (s272 m1 ho m2 hS.1 (by omega) m10 hx hy) fun v g2 hv => ?_
    obtain ⟨rfl, k⟩ := hv
    have kM : am_kp ps_M g g2 := k.up fun i k h => by have := of_decide_eq_false h; exact ps_m_f (by omega)
    have ht2 : am_I g2 60 0 = nI 0 := (k.get 60 0 (ps_m_f (by omega))).trans ht0
    exact ⟨_, _, rfl, am_fin_m hf0 hm0 kM ht2 (fun _ => rfl)⟩
theorem call_closed {w : pw_W} (hw : pw_wf w) : am_AG 0 (fun e => e) w (fun h => am_run am_M 38 [.ref 0] h) (fun h => am_run am_M 274 [.ref 60] h) := by
  obtain ⟨d, S, l, t, im, tp, nb, fp, rf⟩ := w
  have hw0 := hw
  obtain ⟨ho, hS, ha, ht, hi, hnb, htp⟩ := hw
  have h6 := ho.1.2.2.2.1
  have h4 := ho.1.1
  have hd9 := hS.2.1
  have h9 := ho.1.2.1
  refine ⟨0, (nI (pb (fun a => !pa_any d S a (pw_n d 3)) (pw_n d 1))), (d, S, l, t, im, tp, nb, fp, rf), hw0, ⟨by omega, fun hh => by first | exact absurd rfl hh | rfl⟩, fun h hc => ?_, fun h hm => ?_⟩
  · have hc0 := hc
    obtain ⟨⟨L, hL, r1, r2, c1⟩, c2, c3, c4, c5, c6, c7, c8, c9⟩ := hc
    refine am_CO_0 ?_
    show am_RI (am_run am_M 38 [.ref 0] h) _
    rw [e38]
    obtain ⟨g, e, hp⟩ := am_for0 (fun k (g : am_H) => am_vn am_M 5 38 4 [some (.ref 0), some (.int (nI (pb (fun a => !pa_any d S a (pw_n d 3)) k))), some (.int (nI k))] [] g) (fun _ g => am_kp ps_0 h g) (pw_n d 1) h (am_kp.refl _ _) (fun k g hk hg => by
      have d1 := c1.kp hg (ps_0L hL)
      obtain ⟨v, g2, e2, hv, k2⟩ := s50 hL (by rw [hg.R]; exact r1) d1 ho (c2.kp hg (fun k => ps_0_f (by omega))) hS.1 (by omega) hk
      refine ⟨g2, ?_, hg.trans k2⟩
      rw [e38_4, hg.R, r1, am_gr_n, pc_lch hL, show am_I g L 12 = nI (pw_n d 1) from d1.1 1 (by omega), if_neg (nI_ge hk (by omega)), e2, am_bI_ok, hv, pz_succ, ← pb_step (fun a => !pa_any d S a (pw_n d 3)) (show k < 31 by omega)]
      cases pa_any d S k (pw_n d 3) with
      | true => rw [if_neg (by decide), if_neg (by decide), pz_or, Nat.or_zero]
      | false => rw [if_pos (by decide), if_pos (by decide)])
    refine Eq.mpr (congrArg (fun o => am_RI o _) e) ?_
    rw [e38_4, hp.R, r1, am_gr_n, pc_lch hL, show am_I g L 12 = nI (pw_n d 1) from (c1.kp hp (ps_0L hL)).1 1 (by omega), if_pos (nI_le (Nat.le_refl _) (by omega))]
    exact ⟨_, _, rfl, rfl, am_fin_c hc0 (hp.up fun i k => ps_0C)⟩
  · show am_RI (am_run am_M 274 [.ref 60] h) _
    obtain ⟨hm0, ht0, hf0⟩ := m_start hm
    rw [e274]
    generalize am_sI h 60 0 (nI 0) = g at hm0 ht0 hf0 ⊢
    dsimp only
    have hm1 := hm0
    obtain ⟨m1, m2, m3, m4, m5, m6, m7, m8, m9, m10, m11, m12⟩ := hm1
    obtain ⟨g2, e, hp⟩ := am_for0 (fun k (g' : am_H) => am_vn am_M 4 274 9 [some (.ref 60), some (.int (nI (pb (fun a => !pa_any d S a (pw_n d 3)) k))), some (.int (nI k)), none, none] [] g') (fun _ g' => am_kp ps_m g g') (pw_n d 1) g (am_kp.refl _ _) (fun k g' hk hg => by
      have hn2 : am_I g' 60 2 = nI (pw_n d 1) := by rw [hg.get 60 2 (ps_m_f (by omega))]; exact m1.1 1 (by omega)
      obtain ⟨g3, e3, hp3⟩ := am_for0 (fun p (g' : am_H) => am_vn am_M 4 274 22 [some (.ref 60), some (.int (nI (pb (fun a => !pa_any d S a (pw_n d 3)) k))), some (.int (nI k)), some (.int (nI (if pa_any d S k p then 1 else 0))), some (.int (nI p))] [] g') (fun _ g' => am_kp ps_m g g') (pw_n d 3) g' hg (fun p g' hp hg => by
        have hn4 : am_I g' 60 4 = nI (pw_n d 3) := by rw [hg.get 60 4 (ps_m_f (by omega))]; exact m1.1 3 (by omega)
        rw [e274_22, hn4, if_neg (nI_ge hp (by omega)), pa_any]
        cases pa_any d S k p with
        | true =>
          rw [if_neg (by decide), pz_succ]
          exact ⟨g', rfl, hg⟩
        | false =>
          obtain ⟨v, g4, e4, hv, k4⟩ := s272 (m1.kp hg (fun i k hi => ps_m_f (by omega))) ho (m2.kp hg (fun k => ps_m_f (by omega))) hS.1 (by omega) (by rw [hg.get 60 61 (ps_m_f (by omega))]; exact m10) hp hk
          refine ⟨g4, ?_, hg.trans k4⟩
          have hz := pz_cnt_z (f := fun hr => pa_ok d S p k hr) (n := 24)
          have hcl := pz_cnt_le (fun hr => pa_ok d S p k hr) 24
          rw [if_pos (by decide), e4, am_bI_ok, hv, pz_succ, Bool.false_or]
          by_cases c : pa_bits d S p k = 0
          · rw [if_pos (by rw [hz.mpr c]; decide), decide_eq_false (fun h => h c)]; rfl
          · have : pz_cnt (fun hr => pa_ok d S p k hr) 24 ≠ 0 := fun e => c (hz.mp e)
            rw [if_neg (nI_nle (by omega) (by omega)), decide_eq_true c]; rfl)
      have hn4 : am_I g3 60 4 = nI (pw_n d 3) := by rw [hp3.get 60 4 (ps_m_f (by omega))]; exact m1.1 3 (by omega)
      refine ⟨g3, ?_, hp3⟩
      have e3' : am_vn am_M 4 274 22 [some (.ref 60), some (.int (nI (pb (fun a => !pa_any d S a (pw_n d 3)) k))), some (.int (nI k)), some (.int (nI 0)), some (.int (nI 0))] [] g' = _ := e3
      rw [e274_9, hn2, if_neg (nI_ge hk (by omega)), e3', e274_22, hn4, if_pos (nI_le (Nat.le_refl _) (by omega)), pz_succ, ← pb_step (fun a => !pa_any d S a (pw_n d 3)) (show k < 31 by omega)]
      cases pa_any d S k (pw_n d 3) with
      | true => rw [if_neg (by decide), if_neg (by decide)]
      | false => rw [if_pos (by decide), if_pos (by decide)])
    refine Eq.mpr (congrArg (fun o => am_RI o _) e) ?_
    have k := hp
    have kM : am_kp ps_M g g2 := k.up fun i k h => by have := of_decide_eq_false h; exact ps_m_f (by omega)
    have ht2 : am_I g2 60 0 = nI 0 := (k.get 60 0 (ps_m_f (by omega))).trans ht0
    rw [e274_9, show am_I g2 60 2 = nI (pw_n d 1) by rw [hp.get 60 2 (ps_m_f (by omega))]; exact m1.1 1 (by omega), if_pos (nI_le (Nat.le_refl _) (by omega))]
    exact ⟨_, _, rfl, am_fin_m hf0 hm0 kM ht2 (fun _ => rfl)⟩
theorem call_count {w : pw_W} (hw : pw_wf w) (zz : Int32) : am_AG 1 (fun e => e) w (fun h => am_run am_M 4 [.ref 0, .int zz] h) (fun h => am_run am_M 233 [.ref 60, .int zz] h) := by
  obtain ⟨d, S, l, t, im, tp, nb, fp, rf⟩ := w
  have hw0 := hw
  obtain ⟨ho, hS, ha, ht, hi, hnb, htp⟩ := hw
  rcases Classical.em (pz_b zz (12 + 1)) with hzz | hzz
  rotate_left
  · refine ⟨1, 0, (d, S, l, t, im, tp, nb, fp, rf), hw0, ⟨by omega, fun hh => by first | exact absurd rfl hh | rfl⟩, fun h hc => ?_, fun h hm => ?_⟩
    · have hc0 := hc
      obtain ⟨⟨L, hL, r1, r2, c1⟩, c2, c3, c4, c5, c6, c7, c8, c9⟩ := hc
      refine am_CO_x (by decide) ?_
      show am_run am_M 4 [.ref 0, .int zz] h = _
      rw [e4, if_neg (fun e => hzz ⟨0, by omega, e⟩), if_neg (fun e => hzz ⟨1, by omega, e⟩), if_neg (fun e => hzz ⟨2, by omega, e⟩), if_neg (fun e => hzz ⟨3, by omega, e⟩), if_neg (fun e => hzz ⟨4, by omega, e⟩), if_neg (fun e => hzz ⟨5, by omega, e⟩), if_neg (fun e => hzz ⟨6, by omega, e⟩), if_neg (fun e => hzz ⟨7, by omega, e⟩), if_neg (fun e => hzz ⟨8, by omega, e⟩), if_neg (fun e => hzz ⟨9, by omega, e⟩), if_neg (fun e => hzz ⟨10, by omega, e⟩), if_neg (fun e => hzz ⟨11, by omega, e⟩), if_neg (fun e => hzz ⟨12, by omega, e⟩)]
      try rfl
    · show am_RI (am_run am_M 233 [.ref 60, .int zz] h) _
      obtain ⟨hm0, ht0, hf0⟩ := m_start hm
      rw [e233]
      generalize am_sI h 60 0 (nI 0) = g at hm0 ht0 hf0 ⊢
      dsimp only
      have hm1 := hm0
      obtain ⟨m1, m2, m3, m4, m5, m6, m7, m8, m9, m10, m11, m12⟩ := hm1
      rw [s180_f zz (fun h => hzz (pz_bw.mp h)) (by omega) (by omega), am_bI_ok, s179_f ht0 (e := 1) (by omega), am_bI_ok, if_pos (by decide)]
      exact ⟨_, _, rfl, am_fin_x hf0 hm0 (by decide)⟩
  obtain ⟨z, hzz, rfl⟩ := hzz
  have h6 := ho.1.2.2.2.1
  have h4 := ho.1.1
  have hd9 := hS.2.1
  have h9 := ho.1.2.1
  refine ⟨0, (if z = 0 then nI (pw_n d 0) else if z = 1 then nI (pw_n d 1) else if z = 2 then nI (pw_n d 2) else if z = 3 then nI (pw_n d 3) else if z = 4 then nI (S 0) else if z = 5 then nI (pw_sn d (S 0)) else if z = 6 then nI (py_sum S (pw_n d 3)) else if z = 7 then nI l.length else if z = 8 then nI t.length else if z = 9 then nI nb else nI (rf (z - 10))), (d, S, l, t, im, tp, nb, fp, rf), hw0, ⟨by omega, fun hh => by first | exact absurd rfl hh | rfl⟩, fun h hc => ?_, fun h hm => ?_⟩
  · have hc0 := hc
    obtain ⟨⟨L, hL, r1, r2, c1⟩, c2, c3, c4, c5, c6, c7, c8, c9⟩ := hc
    refine am_CO_0 ?_
    show am_RI (am_run am_M 4 [.ref 0, .int (nI z)] h) _
    rw [e4]
    have hz : z = 0 ∨ z = 1 ∨ z = 2 ∨ z = 3 ∨ z = 4 ∨ z = 5 ∨ z = 6 ∨ z = 7 ∨ z = 8 ∨ z = 9 ∨ z = 10 ∨ z = 11 ∨ z = 12 := by omega
    rcases hz with rfl | rfl | rfl | rfl | rfl | rfl | rfl | rfl | rfl | rfl | rfl | rfl | rfl
    · rw [if_pos (by decide), r1, am_gr_n, pc_lch hL, show am_I h L 11 = nI (pw_n d 0) from c1.1 0 (by omega)]
      exact ⟨_, _, rfl, rfl, hc0, am_fc.refl _⟩
    · rw [if_neg (by decide), if_pos (by decide), r1, am_gr_n, pc_lch hL, show am_I h L 12 = nI (pw_n d 1) from c1.1 1 (by omega)]
      exact ⟨_, _, rfl, rfl, hc0, am_fc.refl _⟩
    · rw [if_neg (by decide), if_neg (by decide), if_pos (by decide), r1, am_gr_n, pc_lch hL, show am_I h L 13 = nI (pw_n d 2) from c1.1 2 (by omega)]
      exact ⟨_, _, rfl, rfl, hc0, am_fc.refl _⟩
    · rw [if_neg (by decide), if_neg (by decide), if_neg (by decide), if_pos (by decide), r1, am_gr_n, pc_lch hL, show am_I h L 14 = nI (pw_n d 3) from c1.1 3 (by omega)]
      exact ⟨_, _, rfl, rfl, hc0, am_fc.refl _⟩
    · rw [if_neg (by decide), if_neg (by decide), if_neg (by decide), if_neg (by decide), if_pos (by decide), s149 pc_so20, am_bI_ok, c2 0 (by omega)]
      exact ⟨_, _, rfl, rfl, hc0, am_fc.refl _⟩
    · rw [if_neg (by decide), if_neg (by decide), if_neg (by decide), if_neg (by decide), if_neg (by decide), if_pos (by decide), r1, am_gr_n, s149 pc_so20, am_bI_ok, c2 0 (by omega), pc_lch hL, s97d hL c1 ho (by omega), am_bI_ok]
      exact ⟨_, _, rfl, rfl, hc0, am_fc.refl _⟩
    · rw [if_neg (by decide), if_neg (by decide), if_neg (by decide), if_neg (by decide), if_neg (by decide), if_neg (by decide), if_pos (by decide), s49 hL r1 c1 ho pc_so20 c2, am_bI_ok]
      exact ⟨_, _, rfl, rfl, hc0, am_fc.refl _⟩
    · obtain ⟨x, hx, b1, b2, b3⟩ := c3
      rw [if_neg (by decide), if_neg (by decide), if_neg (by decide), if_neg (by decide), if_neg (by decide), if_neg (by decide), if_neg (by decide), if_pos (by decide), b2]
      exact ⟨_, _, rfl, rfl, hc0, am_fc.refl _⟩
    · rw [if_neg (by decide), if_neg (by decide), if_neg (by decide), if_neg (by decide), if_neg (by decide), if_neg (by decide), if_neg (by decide), if_neg (by decide), if_pos (by decide), c4.1]
      exact ⟨_, _, rfl, rfl, hc0, am_fc.refl _⟩
    · rw [if_neg (by decide), if_neg (by decide), if_neg (by decide), if_neg (by decide), if_neg (by decide), if_neg (by decide), if_neg (by decide), if_neg (by decide), if_neg (by decide), if_pos (by decide), c6]
      exact ⟨_, _, rfl, rfl, hc0, am_fc.refl _⟩
    · rw [if_neg (by decide), if_neg (by decide), if_neg (by decide), if_neg (by decide), if_neg (by decide), if_neg (by decide), if_neg (by decide), if_neg (by decide), if_neg (by decide), if_neg (by decide), if_pos (by decide), at_ok (r := 42) (n := 3) rfl (by omega) (by omega) (show 0 < 3 by omega), am_bI_ok, c9 0 (by omega)]
      exact ⟨_, _, rfl, rfl, hc0, am_fc.refl _⟩
    · rw [if_neg (by decide), if_neg (by decide), if_neg (by decide), if_neg (by decide), if_neg (by decide), if_neg (by decide), if_neg (by decide), if_neg (by decide), if_neg (by decide), if_neg (by decide), if_neg (by decide), if_pos (by decide), at_ok (r := 42) (n := 3) rfl (by omega) (by omega) (show 1 < 3 by omega), am_bI_ok, c9 1 (by omega)]
      exact ⟨_, _, rfl, rfl, hc0, am_fc.refl _⟩
    · rw [if_neg (by decide), if_neg (by decide), if_neg (by decide), if_neg (by decide), if_neg (by decide), if_neg (by decide), if_neg (by decide), if_neg (by decide), if_neg (by decide), if_neg (by decide), if_neg (by decide), if_neg (by decide), if_pos (by decide), at_ok (r := 42) (n := 3) rfl (by omega) (by omega) (show 2 < 3 by omega), am_bI_ok, c9 2 (by omega)]
      exact ⟨_, _, rfl, rfl, hc0, am_fc.refl _⟩
  · show am_RI (am_run am_M 233 [.ref 60, .int (nI z)] h) _
    obtain ⟨hm0, ht0, hf0⟩ := m_start hm
    rw [e233]
    generalize am_sI h 60 0 (nI 0) = g at hm0 ht0 hf0 ⊢
    dsimp only
    have hm1 := hm0
    obtain ⟨m1, m2, m3, m4, m5, m6, m7, m8, m9, m10, m11, m12⟩ := hm1
    rw [s180 (by omega) (by omega) (by omega), am_bI_ok, if_pos (by omega), s179_t ht0, am_bI_ok, if_neg (by decide)]
    have hz : z = 0 ∨ z = 1 ∨ z = 2 ∨ z = 3 ∨ z = 4 ∨ z = 5 ∨ z = 6 ∨ z = 7 ∨ z = 8 ∨ z = 9 ∨ z = 10 ∨ z = 11 ∨ z = 12 := by omega
    rcases hz with rfl | rfl | rfl | rfl | rfl | rfl | rfl | rfl | rfl | rfl | rfl | rfl | rfl
    · rw [if_pos (by decide), show am_I g 60 1 = nI (pw_n d 0) from m1.1 0 (by omega)]
      exact ⟨_, _, rfl, am_fin_m hf0 hm0 (am_kp.refl _ _) ht0 (fun _ => rfl)⟩
    · rw [if_neg (by decide), if_pos (by decide), show am_I g 60 2 = nI (pw_n d 1) from m1.1 1 (by omega)]
      exact ⟨_, _, rfl, am_fin_m hf0 hm0 (am_kp.refl _ _) ht0 (fun _ => rfl)⟩
    · rw [if_neg (by decide), if_neg (by decide), if_pos (by decide), show am_I g 60 3 = nI (pw_n d 2) from m1.1 2 (by omega)]
      exact ⟨_, _, rfl, am_fin_m hf0 hm0 (am_kp.refl _ _) ht0 (fun _ => rfl)⟩
    · rw [if_neg (by decide), if_neg (by decide), if_neg (by decide), if_pos (by decide), show am_I g 60 4 = nI (pw_n d 3) from m1.1 3 (by omega)]
      exact ⟨_, _, rfl, am_fin_m hf0 hm0 (am_kp.refl _ _) ht0 (fun _ => rfl)⟩
    · rw [if_neg (by decide), if_neg (by decide), if_neg (by decide), if_neg (by decide), if_pos (by decide), ml_85 (by omega), m2.i0 (by omega)]
      exact ⟨_, _, rfl, am_fin_m hf0 hm0 (am_kp.refl _ _) ht0 (fun _ => rfl)⟩
    · rw [if_neg (by decide), if_neg (by decide), if_neg (by decide), if_neg (by decide), if_neg (by decide), if_pos (by decide), ml_85 (by omega), m2.i0 (by omega), s226 m1 ho (Or.inl ⟨m10, rfl⟩) (by omega), am_bI_ok]
      exact ⟨_, _, rfl, am_fin_m hf0 hm0 (am_kp.refl _ _) ht0 (fun _ => rfl)⟩
    · rw [if_neg (by decide), if_neg (by decide), if_neg (by decide), if_neg (by decide), if_neg (by decide), if_neg (by decide), if_pos (by decide), s232 (Or.inl rfl) m1 ho m2, am_bI_ok]
      exact ⟨_, _, rfl, am_fin_m hf0 hm0 (am_kp.refl _ _) ht0 (fun _ => rfl)⟩
    · rw [if_neg (by decide), if_neg (by decide), if_neg (by decide), if_neg (by decide), if_neg (by decide), if_neg (by decide), if_neg (by decide), if_pos (by decide), m3.1]
      exact ⟨_, _, rfl, am_fin_m hf0 hm0 (am_kp.refl _ _) ht0 (fun _ => rfl)⟩
    · rw [if_neg (by decide), if_neg (by decide), if_neg (by decide), if_neg (by decide), if_neg (by decide), if_neg (by decide), if_neg (by decide), if_neg (by decide), if_pos (by decide), m4.1]
      exact ⟨_, _, rfl, am_fin_m hf0 hm0 (am_kp.refl _ _) ht0 (fun _ => rfl)⟩
    · rw [if_neg (by decide), if_neg (by decide), if_neg (by decide), if_neg (by decide), if_neg (by decide), if_neg (by decide), if_neg (by decide), if_neg (by decide), if_neg (by decide), if_pos (by decide), m6]
      exact ⟨_, _, rfl, am_fin_m hf0 hm0 (am_kp.refl _ _) ht0 (fun _ => rfl)⟩
    · rw [if_neg (by decide), if_neg (by decide), if_neg (by decide), if_neg (by decide), if_neg (by decide), if_neg (by decide), if_neg (by decide), if_neg (by decide), if_neg (by decide), if_neg (by decide), pk_sub (by omega), ml_71 (by omega), m9 0 (by omega)]
      exact ⟨_, _, rfl, am_fin_m hf0 hm0 (am_kp.refl _ _) ht0 (fun _ => rfl)⟩
    · rw [if_neg (by decide), if_neg (by decide), if_neg (by decide), if_neg (by decide), if_neg (by decide), if_neg (by decide), if_neg (by decide), if_neg (by decide), if_neg (by decide), if_neg (by decide), pk_sub (by omega), ml_71 (by omega), m9 1 (by omega)]
      exact ⟨_, _, rfl, am_fin_m hf0 hm0 (am_kp.refl _ _) ht0 (fun _ => rfl)⟩
    · rw [if_neg (by decide), if_neg (by decide), if_neg (by decide), if_neg (by decide), if_neg (by decide), if_neg (by decide), if_neg (by decide), if_neg (by decide), if_neg (by decide), if_neg (by decide), pk_sub (by omega), ml_71 (by omega), m9 2 (by omega)]
      exact ⟨_, _, rfl, am_fin_m hf0 hm0 (am_kp.refl _ _) ht0 (fun _ => rfl)⟩
