/-! DRAWS: winters by a seed -/
def pz_cnt (f : Nat → Bool) : Nat → Nat
  | 0 => 0
  | n + 1 => pz_cnt f n + if f n then 1 else 0
theorem pz_cnt_le (f : Nat → Bool) : ∀ n, pz_cnt f n ≤ n
  | 0 => Nat.le_refl 0
  | n + 1 => by
    have := pz_cnt_le f n
    rw [pz_cnt]
    split <;> omega
theorem pg_m (x : Int32) : ((x >>> (nI 16 &&& 31)) &&& nI 32767) = nI (pg_bits x) := by
  rw [pk_and _ 15 (by decide)]
  unfold pg_bits
  congr 1
  have h1 := pk_shr x (nI 16 &&& 31) 16 (by decide)
  rw [Int.shiftRight_eq_div_pow] at h1
  have e1 : ∀ y : Int32, y.toInt = if 2 * y.toBitVec.toNat < 2 ^ 32 then (y.toBitVec.toNat : Int) else (y.toBitVec.toNat : Int) - 2 ^ 32 := fun y => BitVec.toInt_eq_toNat_cond y.toBitVec
  rw [e1, e1] at h1
  have l1 : x.toBitVec.toNat < 2 ^ 32 := x.toBitVec.isLt
  have l2 : (x >>> (nI 16 &&& 31)).toBitVec.toNat < 2 ^ 32 := (x >>> (nI 16 &&& 31)).toBitVec.isLt
  generalize x.toBitVec.toNat = a at *
  generalize (x >>> (nI 16 &&& 31)).toBitVec.toNat = b at *
  split at h1 <;> split at h1 <;> omega
/-- ahead of a drawn day: the state, the seed, the snow -/
def pg_1 (d : pw_L) (S : Nat → Nat) (x : Int32) : (Nat → Nat) × Int32 × Nat :=
  if pw_n d 0 = 0 then (S, pg_next x, pg_bits (pg_next x) % 10)
  else ((if pg_bits (pg_next (pg_next (pg_next x))) % 3 = 0 then pu S (45 + pg_bits (pg_next (pg_next x)) % pw_n d 0) (min 20 (S (45 + pg_bits (pg_next (pg_next x)) % pw_n d 0) + 1))
    else if pg_bits (pg_next (pg_next (pg_next x))) % 3 = 1 then pu S (45 + pg_bits (pg_next (pg_next x)) % pw_n d 0) (S (45 + pg_bits (pg_next (pg_next x)) % pw_n d 0) - 1) else S), pg_next (pg_next (pg_next x)), pg_bits (pg_next x) % 10)
def pg_day (d : pw_L) (X : (Nat → Nat) × Int32) : (Nat → Nat) × Int32 := (py_S d (pg_1 d X.1 X.2).2.2 1000 1000 (pg_1 d X.1 X.2).1, (pg_1 d X.1 X.2).2.1)
def pg_n (d : pw_L) (S : Nat → Nat) (x : Int32) : Nat → (Nat → Nat) × Int32
  | 0 => (S, x)
  | k + 1 => pg_day d (pg_n d S x k)
def pg_th (d : pw_L) (X : (Nat → Nat) × Int32) : Nat := py_thin d (pg_1 d X.1 X.2).2.2 1000 1000 (pg_1 d X.1 X.2).1
def pg_co (d : pw_L) (X : (Nat → Nat) × Int32) : Nat := py_cold d (pg_1 d X.1 X.2).2.2 1000 1000 (pg_1 d X.1 X.2).1
theorem pg_1_T {d : pw_L} {S : Nat → Nat} (h : pw_S S) (x : Int32) : pw_S (pg_1 d S x).1 ∧ (pg_1 d S x).1 0 = S 0 ∧ (pg_1 d S x).2.2 < 10 := by
  have hp : ∀ j v, 45 ≤ j → v ≤ 20 → pw_S (pu S j v) ∧ pu S j v 0 = S 0 := by
    intro j v hj hv
    have e0 : pu S j v 0 = S 0 := pu_n _ _ (by omega)
    refine ⟨⟨fun p hp => ?_, fun k hk => ?_⟩, e0⟩
    · rw [e0, pu_n _ _ (by omega), pu_n _ _ (by omega), pu_n _ _ (by omega), pu_n _ _ (by omega), pu_n _ _ (by omega), pu_n _ _ (by omega)]
      exact h.1 p hp
    · rw [e0, pu_n _ _ (by omega), pu_n _ _ (by omega)]
      have := h.2 k hk
      refine ⟨this.1, this.2.1, ?_⟩
      unfold pu
      split
      · exact hv
      · exact this.2.2
  unfold pg_1
  split
  · exact ⟨h, rfl, Nat.mod_lt _ (by omega)⟩
  · rename_i h0
    refine ⟨?_, ?_, Nat.mod_lt _ (by omega)⟩
    · show pw_S (if _ then _ else _)
      split
      · exact (hp _ _ (by omega) (Nat.min_le_left _ _)).1
      · split
        · rename_i h1 h2
          by_cases c : pg_bits (pg_next (pg_next x)) % pw_n d 0 < 4
          · exact (hp _ _ (by omega) (by have := (h.2 _ c).2.2; omega)).1
          · have e0 : pu S (45 + pg_bits (pg_next (pg_next x)) % pw_n d 0) (S (45 + pg_bits (pg_next (pg_next x)) % pw_n d 0) - 1) 0 = S 0 := pu_n _ _ (by omega)
            refine ⟨fun p hp => ?_, fun k hk => ?_⟩
            · rw [e0, pu_n _ _ (by omega), pu_n _ _ (by omega), pu_n _ _ (by omega), pu_n _ _ (by omega), pu_n _ _ (by omega), pu_n _ _ (by omega)]
              exact h.1 p hp
            · rw [e0, pu_n _ _ (by omega), pu_n _ _ (by omega), pu_n _ _ (by omega)]
              exact h.2 k hk
        · exact h
    · show (if _ then _ else _ : Nat → Nat) 0 = _
      split
      · exact pu_n _ _ (by omega)
      · split
        · exact pu_n _ _ (by omega)
        · rfl
theorem pg_n_T {d : pw_L} (ho : pw_ok d) {S : Nat → Nat} (h : pw_S S) (x : Int32) : ∀ k, pw_S (pg_n d S x k).1 ∧ (pg_n d S x k).1 0 = S 0 + k
  | 0 => ⟨h, rfl⟩
  | k + 1 => by
    have ih := pg_n_T ho h x k
    have h1 := pg_1_T (d := d) ih.1 (pg_n d S x k).2
    have h2 := py_S_T ho (pg_1 d (pg_n d S x k).1 (pg_n d S x k).2).2.2 1000 1000 h1.1
    exact ⟨h2.1, by show py_S _ _ _ _ _ 0 = _; rw [h2.2.1, h1.2.1, ih.2]; omega⟩
section
variable {L E G : Nat} {h : am_H} {d : pw_L} {S : Nat → Nat} {x : Int32} {u q : Nat}
theorem pc_Y.s3 (a : pc_Y h S u q G E) (v : Int32) : pc_Y (am_sI h 34 3 v) S u q G E := by
  obtain ⟨a1, a2, a3, a4, a5⟩ := a
  refine ⟨a1.oth (by omega) _ _, ?_, ?_, ?_, ?_⟩
  · rw [am_I_s2 _ _ _ _ (by omega)]; exact a2
  · rw [am_I_s2 _ _ _ _ (by omega)]; exact a3
  · rw [am_I_s2 _ _ _ _ (by omega)]; exact a4
  · rw [am_I_s2 _ _ _ _ (by omega)]; exact a5
theorem pc_Y.s36 (a : pc_Y h S u q G E) (i v : Nat) : pc_Y (am_sI h 36 i (nI v)) (pu S i v) u q G E := by
  obtain ⟨a1, a2, a3, a4, a5⟩ := a
  refine ⟨a1.set _ _, ?_, ?_, ?_, ?_⟩
  · rw [am_I_s1 _ _ _ _ (show 34 ≠ 36 by omega)]; exact a2
  · rw [am_I_s1 _ _ _ _ (show 34 ≠ 36 by omega)]; exact a3
  · rw [am_I_s1 _ _ _ _ (show 34 ≠ 36 by omega)]; exact a4
  · rw [am_I_s1 _ _ _ _ (show 34 ≠ 36 by omega)]; exact a5
theorem s140 (hL : pc_lo L) (hd : pc_L h L d) (ho : pw_ok d) (hY : pc_Y h S 1000 1000 G E) (hx : am_I h 34 3 = x) (hb : pw_S S) (hE : E < 2 ^ 4) (h0 : S 0 < 5000) :
    am_RV (am_run am_M 140 [.ref 34, .ref L] h) (fun g => (∃ G' E', pc_Y g (pg_day d (S, x)).1 1000 1000 G' E' ∧ E' < 2 ^ 4) ∧ am_I g 34 4 = nI (pg_co d (S, x)) ∧ am_I g 34 5 = nI (pg_th d (S, x)) ∧ am_I g 34 3 = (pg_day d (S, x)).2 ∧ am_kp ps_Y h g) := by
  have hlt := pc_llt hL
  have h4 := ho.1.1
  have hT := pg_1_T (d := d) hb x
  have fin : ∀ g, pc_Y g (pg_1 d S x).1 1000 1000 G E → am_I g 34 3 = (pg_1 d S x).2.1 → am_kp ps_Y h g → am_RV (am_bV [] (am_run am_M 142 [.ref 34, .ref L, .int (nI (pg_1 d S x).2.2)] g) fun g3 => some (.inl none, g3)) (fun g => (∃ G' E', pc_Y g (pg_day d (S, x)).1 1000 1000 G' E' ∧ E' < 2 ^ 4) ∧ am_I g 34 4 = nI (pg_co d (S, x)) ∧ am_I g 34 5 = nI (pg_th d (S, x)) ∧ am_I g 34 3 = (pg_day d (S, x)).2 ∧ am_kp ps_Y h g) := by
    intro g y sd kp
    refine pz_VV (s142 (sn := (pg_1 d S x).2.2) hL (hd.kp kp (ps_YL hL)) ho y hT.1 (by omega) (by omega) (by omega)) fun g2 hg2 => ?_
    obtain ⟨z1, z2, z3, z4, z5⟩ := hg2
    exact ⟨_, rfl, ⟨_, _, z1, Nat.or_lt_two_pow hE (py_thin_lt ho _ _ _ _)⟩, z2, z3, z5.trans sd, kp.trans z4⟩
  rw [e140, s141 (by omega) (by omega), am_bI_ok, hx, pc_lch hL]
  have kp1 : am_kp ps_Y h (am_sI h 34 3 (pg_next x)) := (am_kp.refl _ _).sI _ (ps_Y_t (by omega))
  have hd1 := hd.kp kp1 (ps_YL hL)
  rw [show am_I (am_sI h 34 3 (pg_next x)) L 11 = nI (pw_n d 0) from hd1.1 0 (by omega)]
  by_cases c : pw_n d 0 = 0
  · rw [c, if_pos (by decide)]
    have e1 : pg_1 d S x = (S, pg_next x, pg_bits (pg_next x) % 10) := if_pos c
    rw [e1] at fin
    exact fin _ (hY.s3 _) (am_I_s _ _ _ _) kp1
  · rw [if_neg (nI_nle (by omega) (by omega)), pc_lch hL, s141 (by omega) (by omega), am_bI_ok, am_I_s, s141 (by omega) (by omega), am_bI_ok, am_I_s]
    have hm : pg_bits (pg_next (pg_next x)) % pw_n d 0 < pw_n d 0 := Nat.mod_lt _ (by omega)
    have kp3 : am_kp ps_Y h (am_sI (am_sI (am_sI h 34 3 (pg_next x)) 34 3 (pg_next (pg_next x))) 34 3 (pg_next (pg_next (pg_next x)))) := (kp1.sI _ (ps_Y_t (by omega))).sI _ (ps_Y_t (by omega))
    have y3 := ((hY.s3 (pg_next x)).s3 (pg_next (pg_next x))).s3 (pg_next (pg_next (pg_next x)))
    have sd3 : am_I (am_sI (am_sI (am_sI h 34 3 (pg_next x)) 34 3 (pg_next (pg_next x))) 34 3 (pg_next (pg_next (pg_next x)))) 34 3 = pg_next (pg_next (pg_next x)) := am_I_s _ _ _ _
    generalize am_sI (am_sI (am_sI h 34 3 (pg_next x)) 34 3 (pg_next (pg_next x))) 34 3 (pg_next (pg_next (pg_next x))) = g3 at *
    have b20 := (hb.2 _ (show pg_bits (pg_next (pg_next x)) % pw_n d 0 < 4 by omega)).2.2
    rw [s153 pc_so35 (show 37 + 2 * 4 + pg_bits (pg_next (pg_next x)) % pw_n d 0 < 49 by omega), am_bI_ok, show 37 + 2 * 4 + pg_bits (pg_next (pg_next x)) % pw_n d 0 = 45 + pg_bits (pg_next (pg_next x)) % pw_n d 0 by omega, y3.1 _ (by omega)]
    have hm3 : pg_bits (pg_next (pg_next (pg_next x))) % 3 < 3 := Nat.mod_lt _ (by omega)
    have e1 : pg_1 d S x = _ := if_neg c
    by_cases t0 : pg_bits (pg_next (pg_next (pg_next x))) % 3 = 0
    · rw [if_pos t0] at e1
      rw [if_pos (by rw [t0]; rfl), pz_succ, pz_min (a := 20) (by omega) (by omega), s154 pc_so35 (show 37 + 2 * 4 + pg_bits (pg_next (pg_next x)) % pw_n d 0 < 49 by omega), am_bV_ok, show 37 + 2 * 4 + pg_bits (pg_next (pg_next x)) % pw_n d 0 = 45 + pg_bits (pg_next (pg_next x)) % pw_n d 0 by omega]
      rw [e1] at fin
      exact fin _ (y3.s36 _ _) (by rw [am_I_s1 _ _ _ _ (show 34 ≠ 36 by omega)]; exact sd3) (kp3.sI _ (ps_Y_t (by omega)))
    · rw [if_neg t0] at e1
      rw [if_neg (nI_ne0 (by omega) (by omega))]
      by_cases t1 : pg_bits (pg_next (pg_next (pg_next x))) % 3 = 1
      · rw [if_pos t1] at e1
        rw [e1] at fin
        have hsub : (if nI 0 < nI (S (45 + pg_bits (pg_next (pg_next x)) % pw_n d 0)) - nI 1 then nI (S (45 + pg_bits (pg_next (pg_next x)) % pw_n d 0)) - nI 1 else nI 0) = nI (S (45 + pg_bits (pg_next (pg_next x)) % pw_n d 0) - 1) := by
          by_cases z : S (45 + pg_bits (pg_next (pg_next x)) % pw_n d 0) = 0
          · rw [z]; decide
          · rw [pk_sub (by omega), pz_max (a := 0) (by omega) (by omega), Nat.max_eq_right (Nat.zero_le _)]
        rw [if_pos (by rw [t1]), hsub, s154 pc_so35 (show 37 + 2 * 4 + pg_bits (pg_next (pg_next x)) % pw_n d 0 < 49 by omega), am_bV_ok, show 37 + 2 * 4 + pg_bits (pg_next (pg_next x)) % pw_n d 0 = 45 + pg_bits (pg_next (pg_next x)) % pw_n d 0 by omega]
        exact fin _ (y3.s36 _ _) (by rw [am_I_s1 _ _ _ _ (show 34 ≠ 36 by omega)]; exact sd3) (kp3.sI _ (ps_Y_t (by omega)))
      · rw [if_neg t1] at e1
        rw [e1] at fin
        rw [if_neg (fun e => by have := (nI_eq (by omega) (by omega)).mp e; omega)]
        exact fin _ y3 sd3 kp3
theorem s295 {n : Nat} (h0 : 0 < n) (hn : n < 2 ^ 31) (hx : am_I h 60 73 = x) : am_run am_M 295 [.ref 60, .int (nI n)] h = some (.inl (some (.int (nI (pg_bits (pg_next x) % n)))), am_sI h 60 73 (pg_next x)) := by
  have hb : pg_bits (pg_next x) < 32768 := Nat.mod_lt _ (by omega)
  rw [e295, hx]
  dsimp only
  rw [if_neg (nI_ne0 h0 hn), am_I_s, show (x * nI 1103515245 + nI 12345) = pg_next x from rfl, pg_m, pk_rem (by omega) h0 hn]
/-- the sum of all lambs -/
def py_sum (S : Nat → Nat) : Nat → Nat
  | 0 => 0
  | n + 1 => py_sum S n + S (1 + n)
theorem s49 {s : Nat} (hL : pc_lo L) (hR : am_R h 0 10 = some L) (hd : pc_L h L d) (ho : pw_ok d) (hs : pc_so s) (hS : pc_S h (s + 1) S) : am_run am_M 49 [.ref 0, .ref s] h = some (.inl (some (.int (nI (py_sum S (pw_n d 3))))), h) := by
  have h6 := ho.1.2.2.2.1
  have hl : am_I h L 14 = nI (pw_n d 3) := hd.1 3 (by omega)
  rw [e49]
  obtain ⟨g, e, hp⟩ := am_for0 (fun k (g : am_H) => am_vn am_M 2 49 4 [some (.ref 0), some (.ref s), some (.int (nI (py_sum S k))), some (.int (nI k))] [] g) (fun k g => g = h) (pw_n d 3) h rfl (fun k g hk hg => by
    subst hg
    refine ⟨g, ?_, rfl⟩
    rw [e49_4, hR, am_gr_n, pc_lch hL, hl, if_neg (nI_ge hk (by omega)), pc_sch hs, s151 hs (show 1 + 0 * 6 + k < 49 by omega), am_bI_ok, show 1 + 0 * 6 + k = 1 + k by omega, hS _ (by omega), nI_add, pz_succ]; rfl)
  rw [hp] at e
  refine e.trans ?_
  rw [e49_4, hR, am_gr_n, pc_lch hL, hl, if_pos (nI_le (Nat.le_refl _) (by omega))]
theorem s232 {r : Nat} (hr : r = 85 ∨ r = 86) (hL : pm_L h d) (ho : pw_ok d) (hS : pm_S h r 0 S) : am_run am_M 232 [.ref 60, .ref r] h = some (.inl (some (.int (nI (py_sum S (pw_n d 3))))), h) := by
  have h6 := ho.1.2.2.2.1
  have hl : am_I h 60 4 = nI (pw_n d 3) := hL.1 3 (by omega)
  have htr : am_ty r = (16, 40) := by rcases hr with rfl | rfl <;> rfl
  rw [e232]
  obtain ⟨g, e, hp⟩ := am_for0 (fun k (g : am_H) => am_vn am_M 0 232 4 [some (.ref 60), some (.ref r), some (.int (nI (py_sum S k))), some (.int (nI k))] [] g) (fun k g => g = h) (pw_n d 3) h rfl (fun k g hk hg => by
    subst hg
    refine ⟨g, ?_, rfl⟩
    rw [e232_4, hl, if_neg (nI_ge hk (by omega)), nI_add 1 k, am_il_ok htr (by omega) (show 1 + k < 40 by omega) (by omega), hS.i0 (by omega), nI_add, pz_succ]; rfl)
  rw [hp] at e
  refine e.trans ?_
  rw [e232_4, hl, if_pos (nI_le (Nat.le_refl _) (by omega))]
end
