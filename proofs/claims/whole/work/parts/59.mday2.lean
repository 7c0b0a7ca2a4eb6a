/-! THE MODEL: rights, a day -/
theorem pm_lamps_bit (S : Nat → Nat) {p : Nat} (hp : p < 6) : (pm_lamps S).testBit p = decide (S (25 + p) = 1) := by
  unfold pm_lamps
  rw [pb_bit, decide_eq_true hp, Bool.true_and]
theorem pm_lamps_lt (S : Nat → Nat) : pm_lamps S < 64 := pb_lt _ 6
theorem pm_lamps_cong {S T : Nat → Nat} (e : ∀ j, 25 ≤ j → j < 31 → S j = T j) : pm_lamps S = pm_lamps T := pb_cong fun p hp => by rw [e _ (by omega) (by omega)]
theorem pm_S.set1 {h : am_H} {r : Nat} {S : Nat → Nat} (a : pm_S h r 0 S) {i : Nat} (hi : i < 25) (v : Nat) : pm_S (am_sI h r i (nI v)) r 0 (pu S i v) := by
  obtain ⟨a1, a2, a3, a4⟩ := a
  refine ⟨fun j hj => ?_, fun p hp => ?_, ?_, fun k hk => ⟨?_, ?_⟩⟩
  · rw [am_I_sc]
    unfold pu
    by_cases e : j = i
    · rw [if_pos ⟨rfl, by omega⟩, if_pos e]
    · rw [if_neg (by omega), if_neg e]; exact a1 j hj
  · rw [am_I_sc, if_neg (by omega), pu_n _ _ (by omega)]; exact a2 p hp
  · rw [am_I_sc, if_neg (by omega), a3, pm_lamps_cong fun j h1 h2 => (pu_n S v (show j ≠ i by omega)).symm]
  · rw [am_I_sc, if_neg (by omega), pu_n _ _ (by omega)]; exact (a4 k hk).1
  · rw [am_I_sc, if_neg (by omega), pu_n _ _ (by omega)]; exact (a4 k hk).2
theorem pm_S.set2 {h : am_H} {r : Nat} {S : Nat → Nat} (a : pm_S h r 0 S) {i : Nat} (hi : i < 4) (v : Nat) : pm_S (am_sI h r (32 + i) (nI v)) r 0 (pu S (37 + i) v) := by
  obtain ⟨a1, a2, a3, a4⟩ := a
  refine ⟨fun j hj => ?_, fun p hp => ?_, ?_, fun k hk => ⟨?_, ?_⟩⟩
  · rw [am_I_sc, if_neg (by omega), pu_n _ _ (by omega)]; exact a1 j hj
  · rw [am_I_sc, if_neg (by omega), pu_n _ _ (by omega)]; exact a2 p hp
  · rw [am_I_sc, if_neg (by omega), a3, pm_lamps_cong fun j h1 h2 => (pu_n S v (show j ≠ 37 + i by omega)).symm]
  · rw [am_I_sc]
    unfold pu
    by_cases e : k = i
    · rw [if_pos ⟨rfl, by omega⟩, if_pos (by omega)]
    · rw [if_neg (by omega), if_neg (by omega)]; exact (a4 k hk).1
  · rw [am_I_sc, if_neg (by omega), pu_n _ _ (by omega)]; exact (a4 k hk).2
theorem pm_S.set3 {h : am_H} {r : Nat} {S : Nat → Nat} (a : pm_S h r 0 S) {i : Nat} (hi : i < 4) (v : Nat) : pm_S (am_sI h r (36 + i) (nI v)) r 0 (pu S (41 + i) v) := by
  obtain ⟨a1, a2, a3, a4⟩ := a
  refine ⟨fun j hj => ?_, fun p hp => ?_, ?_, fun k hk => ⟨?_, ?_⟩⟩
  · rw [am_I_sc, if_neg (by omega), pu_n _ _ (by omega)]; exact a1 j hj
  · rw [am_I_sc, if_neg (by omega), pu_n _ _ (by omega)]; exact a2 p hp
  · rw [am_I_sc, if_neg (by omega), a3, pm_lamps_cong fun j h1 h2 => (pu_n S v (show j ≠ 41 + i by omega)).symm]
  · rw [am_I_sc, if_neg (by omega), pu_n _ _ (by omega)]; exact (a4 k hk).1
  · rw [am_I_sc]
    unfold pu
    by_cases e : k = i
    · rw [if_pos ⟨rfl, by omega⟩, if_pos (by omega)]
    · rw [if_neg (by omega), if_neg (by omega)]; exact (a4 k hk).2
theorem pm_S.oth {h : am_H} {r o : Nat} {S : Nat → Nat} (a : pm_S h r o S) {i : Nat} (hi : r ≠ i) (k : Nat) (v : Int32) : pm_S (am_sI h i k v) r o S := a.fr (am_I_s1 _ _ _ _ hi)
theorem pm_S.i0 {h : am_H} {r : Nat} {S : Nat → Nat} (a : pm_S h r 0 S) {i : Nat} (hi : i < 25) : am_I h r i = nI (S i) := by have := a.1 i hi; rw [Nat.zero_add] at this; exact this
theorem pm_S.if_ {h : am_H} {r : Nat} {S : Nat → Nat} (a : pm_S h r 0 S) {p : Nat} (hp : p < 6) : am_I h r (25 + p) = nI (S (31 + p)) := by have := a.2.1 p hp; rw [Nat.zero_add] at this; exact this
theorem pm_S.il {h : am_H} {r : Nat} {S : Nat → Nat} (a : pm_S h r 0 S) : am_I h r 31 = nI (pm_lamps S) := by have := a.2.2.1; rw [Nat.zero_add] at this; exact this
theorem pm_S.is {h : am_H} {r : Nat} {S : Nat → Nat} (a : pm_S h r 0 S) {k : Nat} (hk : k < 4) : am_I h r (32 + k) = nI (S (37 + k)) := by have := (a.2.2.2 k hk).1; rw [Nat.zero_add] at this; exact this
theorem pm_S.it {h : am_H} {r : Nat} {S : Nat → Nat} (a : pm_S h r 0 S) {k : Nat} (hk : k < 4) : am_I h r (36 + k) = nI (S (41 + k)) := by have := (a.2.2.2 k hk).2; rw [Nat.zero_add] at this; exact this
section
variable {h : am_H} {d : pw_L} {S : Nat → Nat} {p a hr u q sn r : Nat}
theorem s242 (hL : pm_L h d) (ho : pw_ok d) (hS : pm_S h 85 0 S) (hb : pw_S S) (h0 : S 0 < 100000) (hs : am_I h 60 61 = (-1 : Int32)) (hp : p < pw_n d 3) (ha : a < pw_n d 1) (hh : hr < 24) :
    am_RI (am_run am_M 242 [.ref 60, .int (nI p), .int (nI a), .int (nI hr)] h) (fun v g => v = nI (if pa_ok d S p a hr then 1 else 0) ∧ am_kp ps_m h g) := by
  have hL0 := hL
  obtain ⟨l1, l2, l3, l4, l5, l6, l7, l8, l9⟩ := hL
  have h6 := ho.1.2.2.2.1
  have h9 := ho.1.2.1
  have hhm := (ho.2.2.1 p hp).2
  have hbp := hb.1 p (by omega)
  rw [e242, ml_67 (by omega), (l3 p hp).2]
  by_cases c1 : pw_t d 3 p = a
  · rw [if_pos (by rw [c1]), if_pos (by decide)]
    refine ⟨_, _, rfl, ?_, am_kp.refl _ _⟩
    unfold pa_ok
    rw [c1, decide_eq_true rfl, Bool.or_true]; rfl
  · rw [if_neg (fun e => c1 ((nI_eq (by omega) (by omega)).mp e)), nI_add, ml_85 (by omega), hS.if_ (by omega), pz_bit (by omega) (by omega)]
    cases hf : (S (31 + p)).testBit a with
    | true =>
      rw [if_pos (by decide), if_pos (by decide)]
      refine ⟨_, _, rfl, ?_, am_kp.refl _ _⟩
      unfold pa_ok
      rw [hf]; rfl
    | false =>
      rw [if_neg (by decide)]
      have hpa : pa_ok d S p a hr = (if pw_d d 0 = [] then decide (6 ≤ hr ∧ hr ≤ 17) else decide (¬ pd_val (pa_g d S p a hr) (pw_d d 0) ≤ 0)) := by
        unfold pa_ok
        rw [hf, decide_eq_false c1]; rfl
      rw [hpa]
      unfold pm_D at l8
      by_cases hd0 : pw_d d 0 = []
      · rw [if_pos hd0] at l8 ⊢
        rw [if_pos l8, s180 (by omega) (by omega) (by omega), am_bI_ok]
        by_cases c2 : 6 ≤ hr ∧ hr ≤ 17
        · rw [if_pos c2, if_pos (by decide), decide_eq_true c2]
          exact ⟨_, _, rfl, rfl, am_kp.refl _ _⟩
        · rw [if_neg c2, if_pos (by decide), decide_eq_false c2]
          exact ⟨_, _, rfl, rfl, am_kp.refl _ _⟩
      · rw [if_neg hd0] at l8 ⊢
        obtain ⟨x, x1, x2, x3⟩ := l8
        have hLF : ∀ F, pm_L (pz_wr h 88 F) d := fun F => hL0.fr (fun k _ _ => by rw [am_I_w1 _ _ _ (show 60 ≠ 88 by omega)]) (fun i _ _ => by rw [am_I_w1 _ _ _ (show i ≠ 88 by omega)])
        have hsn : ∀ F, pm_sn (pz_wr h 88 F) d (S 0) (pw_sn d (S 0)) := fun F => Or.inl ⟨by rw [am_I_w1 _ _ _ (show 60 ≠ 88 by omega)]; exact hs, rfl⟩
        have hlv : nI (if (pm_lamps S).testBit p then 1 else 0) = nI (S (25 + p)) := by
          rw [pm_lamps_bit S (by omega)]
          by_cases c : S (25 + p) = 1
          · rw [decide_eq_true c, c]; rfl
          · rw [decide_eq_false c, show S (25 + p) = 0 by omega]; rfl
        rw [x1, if_neg (pz_neg1 (by omega)), ml_66 (by omega), (l3 p hp).1, ms_88 (by omega), pz_sI_w,
          ml_62 (by omega), am_I_w1 _ _ _ (show 62 ≠ 88 by omega), (l2 a ha).1, ms_88 (by omega), pz_sI_wr,
          ms_88 (by omega), pz_sI_wr,
          ml_85 (by omega), am_I_w1 _ _ _ (show 85 ≠ 88 by omega), hS.i0 (by omega), s226 (hLF _) ho (hsn _) (by omega), am_bI_ok, ms_88 (by omega), pz_sI_wr,
          ml_85 (by omega), am_I_w1 _ _ _ (show 85 ≠ 88 by omega), hS.il, pz_bit (by omega) (by have := pm_lamps_lt S; omega), hlv, ms_88 (by omega), pz_sI_wr,
          nI_add, ml_85 (by omega), am_I_w1 _ _ _ (show 85 ≠ 88 by omega), hS.i0 (by omega), ms_88 (by omega), pz_sI_wr,
          ml_85 (by omega), am_I_w1 _ _ _ (show 85 ≠ 88 by omega), hS.i0 (by omega), ms_88 (by omega), pz_sI_wr, am_I_w1 _ _ _ (show 60 ≠ 88 by omega), x1]
        have key := fun (F : Nat → Int32) (hF : ∀ v, v < 7 → F (pm_v 0 v) = pa_g d S p a hr v) => s225 (h := pz_wr h 88 F) (j := 0) (g0 := pa_g d S p a hr) ho.2.2.2.2.2.1 hd0 (fun v hv => by rw [am_I_w]; exact hF v hv) x2 (fun i hi => by rw [am_I_w1 _ _ _ (show 69 ≠ 88 by omega)]; exact x3 i hi)
        refine pz_II (key _ (lt7 rfl rfl rfl rfl rfl rfl rfl)) fun v g hv => ?_
        obtain ⟨rfl, f', hg⟩ := hv
        have hk : am_kp ps_m h g := by
          rw [hg]
          exact ((am_kp.refl ps_m h).wr _ (fun k => ps_m_t (by omega))).wr _ (fun k => ps_m_t (by omega))
        generalize pd_val (pa_g d S p a hr) (pw_d d 0) = v
        by_cases c : v ≤ 0
        · rw [if_pos c, if_pos (by decide), decide_eq_false (fun h => h c)]
          exact ⟨_, _, rfl, rfl, hk⟩
        · rw [if_neg c, if_pos (by decide), decide_eq_true c]
          exact ⟨_, _, rfl, rfl, hk⟩
/-- what a model's day writes on row r: the row, told, pile, paidSum -/
def ps_d (r i k : Nat) : Bool := decide (i = 88 ∨ i = 89 ∨ i = r ∨ i = 60 ∧ k = 69)
theorem ps_d_t {r i k : Nat} (h : i = 88 ∨ i = 89 ∨ i = r ∨ i = 60 ∧ k = 69) : ps_d r i k = true := decide_eq_true h
theorem ps_d_f {r i k : Nat} (h : ¬ (i = 88 ∨ i = 89 ∨ i = r ∨ i = 60 ∧ k = 69)) : ps_d r i k = false := decide_eq_false h
theorem ps_md {r i k : Nat} (h : ps_d r i k = false) : ps_m i k = false := by
  have := of_decide_eq_false h
  exact ps_m_f (by omega)
theorem pm_L.kd {g : am_H} (a : pm_L h d) (hr : r = 85 ∨ r = 86) (k : am_kp (ps_d r) h g) : pm_L g d := a.kp k fun i j hi => ps_d_f (by omega)
theorem pm_sn.kd {g : am_H} {day : Nat} (a : pm_sn h d day sn) (hr : r = 85 ∨ r = 86) (k : am_kp (ps_d r) h g) : pm_sn g d day sn := by
  unfold pm_sn
  rw [k.get 60 61 (ps_d_f (by omega))]
  exact a
theorem pm_Y.kd {g : am_H} {S' : Nat → Nat} (a : pm_Y h d r S u q) (hr : r = 85 ∨ r = 86) (k : am_kp (ps_d r) h g) (b : pm_S g r 0 S') (e : ∀ j, 45 ≤ j → S' j = S j) : pm_Y g d r S' u q := by
  refine ⟨b, fun j hj => ?_, ?_, ?_⟩
  · rw [k.get 90 j (ps_d_f (by omega)), e _ (by omega)]; exact a.2.1 j hj
  · rw [k.get 60 62 (ps_d_f (by omega))]; exact a.2.2.1
  · rw [k.get 60 63 (ps_d_f (by omega))]; exact a.2.2.2
theorem s229 {G : Nat} (hr : r = 85 ∨ r = 86) (hL : pm_L h d) (ho : pw_ok d) (hY : pm_Y h d r S u q) (hs : pm_sn h d (S 0) sn) (hb : pw_S S) (h0 : S 0 < 100000) (hp : p < pw_n d 3) (hG : am_I h 60 69 = nI G) :
    am_RV (am_run am_M 229 [.ref 60, .ref r, .int (nI p)] h) (fun g => pm_S g r 0 (py d p (py_f d S sn u p) S) ∧ am_I g 60 69 = nI (G + min (py_f d S sn u p) (S (1 + p))) ∧ am_kp (ps_d r) h g) := by
  have h6 := ho.1.2.2.2.1
  have h9 := ho.1.2.1
  have h4 := ho.1.1
  have hh := (ho.2.2.1 p hp).2
  have hpk := (ho.2.1 _ hh).2
  have hbp := hb.1 p (by omega)
  have hbk := hb.2 (pw_t d 1 (pw_t d 3 p)) (by omega)
  have htr : am_ty r = (16, 40) := by rcases hr with rfl | rfl <;> rfl
  have hr1 : r < 100 := by omega
  have hdue : py_f d S sn u p ≤ 99 := by
    unfold py_f
    split
    · omega
    · exact pr_due_le _ _ _ _
  rw [e229]
  refine pz_IV (s228 hr hL ho hY hs hb h0 hp) fun v g1 hv => ?_
  obtain ⟨rfl, k1⟩ := hv
  have k1' : am_kp (ps_d r) h g1 := k1.up fun i k => ps_md
  have y1 : pm_S g1 r 0 S := hY.1.kp k1 fun k => ps_m_f (by omega)
  have L1 := hL.kd hr k1'
  generalize py_f d S sn u p = due at *
  rw [nI_add 1 p, am_il_ok htr hr1 (show 1 + p < 40 by omega) (by omega), y1.i0 (by omega), s182 (by omega) (by omega), am_bI_ok, am_il_ok htr hr1 (show 1 + p < 40 by omega) (by omega), y1.i0 (by omega), pk_sub (Nat.min_le_right _ _), am_is_ok htr hr1 (show 1 + p < 40 by omega) (by omega)]
  have z1 := y1.set1 (show 1 + p < 25 by omega) (S (1 + p) - min due (S (1 + p)))
  rw [am_I_s1 _ _ _ _ (show 60 ≠ r by omega), k1.get 60 69 (ps_m_f (by omega)), hG, nI_add G]
  dsimp only
  have z2 : pm_S (am_sI (am_sI g1 r (1 + p) (nI (S (1 + p) - min due (S (1 + p))))) 60 69 (nI (G + min due (S (1 + p))))) r 0 (pu S (1 + p) (S (1 + p) - min due (S (1 + p)))) := z1.oth (by omega) _ _
  have k2 : am_kp (ps_d r) h (am_sI (am_sI g1 r (1 + p) (nI (S (1 + p) - min due (S (1 + p))))) 60 69 (nI (G + min due (S (1 + p))))) := (k1'.sI _ (ps_d_t (by omega))).sI _ (ps_d_t (by omega))
  have L2 := hL.kd hr k2
  have e2 : am_I (am_sI (am_sI g1 r (1 + p) (nI (S (1 + p) - min due (S (1 + p))))) 60 69 (nI (G + min due (S (1 + p))))) 60 69 = nI (G + min due (S (1 + p))) := am_I_s _ _ _ _
  generalize am_sI (am_sI g1 r (1 + p) (nI (S (1 + p) - min due (S (1 + p))))) 60 69 (nI (G + min due (S (1 + p)))) = g2 at *
  rw [s227 L2 ho hp, am_bI_ok, s227 L2 ho hp, am_bI_ok, nI_add 32, am_il_ok htr hr1 (show 32 + pw_t d 1 (pw_t d 3 p) < 40 by omega) (by omega), z2.is (by omega), pu_n _ _ (show 37 + pw_t d 1 (pw_t d 3 p) ≠ 1 + p by omega), nI_add (S (37 + pw_t d 1 (pw_t d 3 p))), s182 (by omega) (by omega), am_bI_ok, am_is_ok htr hr1 (show 32 + pw_t d 1 (pw_t d 3 p) < 40 by omega) (by omega)]
  have z3 := z2.set2 (show pw_t d 1 (pw_t d 3 p) < 4 by omega) (min 9999 (S (37 + pw_t d 1 (pw_t d 3 p)) + min due (S (1 + p))))
  rw [nI_add 13 p, am_il_ok htr hr1 (show 13 + p < 40 by omega) (by omega), z3.i0 (by omega), pu_n _ _ (show 13 + p ≠ 37 + pw_t d 1 (pw_t d 3 p) by omega), pu_n _ _ (show 13 + p ≠ 1 + p by omega), nI_add (S (13 + p)) due, pk_sub (by omega), s182 (by omega) (by omega), am_bI_ok, am_is_ok htr hr1 (show 13 + p < 40 by omega) (by omega)]
  refine ⟨_, rfl, z3.set1 (show 13 + p < 25 by omega) _, ?_, (k2.sI _ (ps_d_t (by omega))).sI _ (ps_d_t (by omega))⟩
  rw [am_I_s1 _ _ _ _ (show 60 ≠ r by omega), am_I_s1 _ _ _ _ (show 60 ≠ r by omega)]
  exact e2
end
