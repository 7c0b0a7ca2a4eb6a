/-! THE MODEL: what a deed gives, what is due, rights -/
theorem pm_v_lt {j v : Nat} (hv : v < 7) : pm_v j v < 10 := by
  unfold pm_v
  repeat' split
  all_goals omega
section
variable {h : am_H} {d : pw_L} {S : Nat → Nat} {g0 : Nat → Int32} {j c : Nat}
theorem s225_4 (hg : ∀ v, v < 7 → am_I h 88 (pm_v j v) = g0 v) (hC : c ≤ 1400) : ∀ (l : List Nat) (k : Nat) (st : List Int32) (f : Nat → Int32), (∀ i, i < (pm_code j l).length → am_I h 69 (k + i) = nI ((pm_code j l).getD i 0)) → k + (pm_code j l).length ≤ c →
    (∀ s ∈ l, s < 10007 ∨ 20000 ≤ s ∧ s ≤ 20008) → pd_dp l st.length = some 1 → pd_sk f st → st.length ≤ 40 →
    am_RI (am_vn am_M 1 225 4 [some (.ref 60), none, some (.int (nI st.length)), some (.int (nI k)), none] [] (pz_wr h 89 f)) (fun v g => v = (pd_ev g0 l st).headD 0 ∧ ∃ f', g = pz_wr h 89 f')
  | [], k, st, f, hc, hk, _, hd, hs, _ => by
    have h1 : st.length = 1 := Option.some.inj hd
    have h0 : am_I h 69 k = nI 0 := hc 0 (by show 0 < 1; omega)
    have hk : k + 1 ≤ c := hk
    rw [e225_4, ml_69 (by omega), am_I_w1 _ _ _ (by omega), h0, if_pos (by decide), ml_89 (by omega), am_I_w]
    refine ⟨_, _, rfl, ?_, f, rfl⟩
    match st, h1, hs with
    | [x], _, hs => exact (pd_sk_pop hs).2
  | s :: l, k, st, f, hc, hk, hm, hd, hs, hle => by
    have hm' : ∀ s ∈ l, s < 10007 ∨ 20000 ≤ s ∧ s ≤ 20008 := fun s h => hm s (List.mem_cons_of_mem _ h)
    have hs0 := hm s List.mem_cons_self
    unfold pd_dp at hd
    unfold pd_ev pd_st
    by_cases c1 : s < 10000
    · rw [if_pos (by omega)] at hd
      rw [if_pos c1]
      have hcode : pm_code j (s :: l) = 1 :: s :: pm_code j l := if_pos c1
      rw [hcode] at hc hk
      simp only [List.length_cons] at hc hk
      have h0 : am_I h 69 k = nI 1 := hc 0 (by omega)
      have h1 : am_I h 69 (k + 1) = nI s := hc 1 (by omega)
      have hc' : ∀ i, i < (pm_code j l).length → am_I h 69 (k + 1 + 1 + i) = nI ((pm_code j l).getD i 0) := fun i hi => by
        have := hc (i + 2) (by omega)
        rw [show k + 1 + 1 + i = k + (i + 2) by omega]
        exact this
      by_cases c4 : st.length < 40
      · rw [if_pos c4] at hd
        rw [e225_4, ml_69 (by omega), am_I_w1 _ _ _ (by omega), h0, if_neg (by decide), ml_69 (by omega), am_I_w1 _ _ _ (by omega), h0, if_pos (by decide), pz_succ, e225_36, if_pos (by decide), ml_69 (by omega), am_I_w1 _ _ _ (by omega), h1, ms_89 (by omega), pz_succ, pz_succ, pz_sI_wr]
        exact s225_4 hg hC l (k + 1 + 1) (nI s :: st) _ hc' (by omega) hm' hd (pd_sk_push hs (nI s)) c4
      · rw [if_neg c4] at hd; cases hd
    · rw [if_neg c1]
      by_cases c2 : s < 20000
      · rw [if_pos c2] at hd
        rw [if_pos c2]
        have hcode : pm_code j (s :: l) = 2 :: pm_v j (s - 10000) :: pm_code j l := by
          show (if s < 10000 then _ else if s < 20000 then _ else _) = _
          rw [if_neg c1, if_pos c2]
        rw [hcode] at hc hk
        simp only [List.length_cons] at hc hk
        have h0 : am_I h 69 k = nI 2 := hc 0 (by omega)
        have h1 : am_I h 69 (k + 1) = nI (pm_v j (s - 10000)) := hc 1 (by omega)
        have hc' : ∀ i, i < (pm_code j l).length → am_I h 69 (k + 1 + 1 + i) = nI ((pm_code j l).getD i 0) := fun i hi => by
          have := hc (i + 2) (by omega)
          rw [show k + 1 + 1 + i = k + (i + 2) by omega]
          exact this
        by_cases c4 : st.length < 40
        · rw [if_pos c4] at hd
          have hv7 : s - 10000 < 7 := by omega
          rw [e225_4, ml_69 (by omega), am_I_w1 _ _ _ (by omega), h0, if_neg (by decide), ml_69 (by omega), am_I_w1 _ _ _ (by omega), h0, if_neg (by decide), if_pos (by decide), pz_succ, e225_36, if_neg (by decide), ml_69 (by omega), am_I_w1 _ _ _ (by omega), h1, ml_88 (pm_v_lt hv7), am_I_w1 _ _ _ (by omega), hg _ hv7, ms_89 (by omega), pz_succ, pz_succ, pz_sI_wr]
          exact s225_4 hg hC l (k + 1 + 1) (g0 (s - 10000) :: st) _ hc' (by omega) hm' hd (pd_sk_push hs _) c4
        · rw [if_neg c4] at hd; cases hd
      · rw [if_neg c2] at hd
        rw [if_neg c2]
        have hcode : pm_code j (s :: l) = pm_op s :: pm_code j l := by
          show (if s < 10000 then _ else if s < 20000 then _ else _) = _
          rw [if_neg c1, if_neg c2]
        rw [hcode] at hc hk
        simp only [List.length_cons] at hc hk
        have h0 : am_I h 69 k = nI (pm_op s) := hc 0 (by omega)
        have hc' : ∀ i, i < (pm_code j l).length → am_I h 69 (k + 1 + i) = nI ((pm_code j l).getD i 0) := fun i hi => by
          have := hc (i + 1) (by omega)
          rw [show k + 1 + i = k + (i + 1) by omega]
          exact this
        by_cases c3 : s = 20002
        · rw [if_pos c3] at hd
          rw [if_pos c3]
          have hop : pm_op s = 3 := by rw [c3]; rfl
          rw [hop] at h0
          match st, hs, hd, hle with
          | [], _, hd, _ => rw [if_neg (by decide)] at hd; cases hd
          | x :: r, hs, hd, hle =>
            rw [if_pos (by simp only [List.length_cons]; omega)] at hd
            have hp := pd_sk_pop hs
            have hr : r.length + 1 ≤ 40 := hle
            simp only [List.length_cons] at hd ⊢
            rw [e225_4, ml_69 (by omega), am_I_w1 _ _ _ (by omega), h0, if_neg (by decide), ml_69 (by omega), am_I_w1 _ _ _ (by omega), h0, if_neg (by decide), if_neg (by decide), if_pos (by decide), pz_succ, e225_83, pk_sub (by omega), Nat.add_sub_cancel, ml_89 (by omega), am_I_w, hp.2]
            by_cases hx : x = 0
            · rw [if_pos hx, if_pos hx, ms_89 (by omega), pz_sI_wr]
              exact s225_4 hg hC l (k + 1) (nI 1 :: r) _ hc' (by omega) hm' hd (pd_sk_push hp.1 (nI 1)) hr
            · rw [if_neg hx, if_neg hx, ms_89 (by omega), pz_sI_wr]
              exact s225_4 hg hC l (k + 1) (nI 0 :: r) _ hc' (by omega) hm' hd (pd_sk_push hp.1 (nI 0)) hr
        · rw [if_neg c3] at hd
          rw [if_neg c3]
          have ho : 4 ≤ pm_op s ∧ pm_op s ≤ 11 := by
            unfold pm_op
            repeat' split
            all_goals omega
          match st, hs, hd, hle with
          | [], _, hd, _ => rw [if_neg (by decide)] at hd; cases hd
          | [_], _, hd, _ => rw [if_neg (by simp only [List.length_cons, List.length_nil]; omega)] at hd; cases hd
          | y :: x :: r, hs, hd, hle =>
            rw [if_pos (by simp only [List.length_cons]; omega)] at hd
            have hp := pd_sk_pop hs
            have hp2 := pd_sk_pop hp.1
            have hr : r.length + 1 + 1 ≤ 40 := hle
            have hy : f (r.length + 1) = y := hp.2
            simp only [List.length_cons] at hd ⊢
            rw [e225_4, ml_69 (by omega), am_I_w1 _ _ _ (by omega), h0, if_neg (nI_ne0 (by omega) (by omega)), ml_69 (by omega), am_I_w1 _ _ _ (by omega), h0, if_neg (fun e => by have := (nI_eq (by omega) (by omega)).mp e; omega), if_neg (fun e => by have := (nI_eq (by omega) (by omega)).mp e; omega), if_neg (fun e => by have := (nI_eq (by omega) (by omega)).mp e; omega), pz_succ, e225_110, pk_m1, pk_sub (by omega), Nat.add_sub_cancel, e225_120, pk_sub (by omega), Nat.add_sub_cancel,
              ml_89 (by omega), am_I_w, hp2.2, ml_89 (by omega), am_I_w, hy, s224 s (by omega) (by omega) c3, am_bI_ok, ms_89 (by omega), pz_sI_wr]
            exact s225_4 hg hC l (k + 1) (pd_jo s x y :: r) _ hc' (by omega) hm' hd (pd_sk_push hp2.1 (pd_jo s x y)) (by simp only [List.length_cons]; omega)
theorem s225 {l : List Nat} {a : Nat} (hl : pd_ok l) (hne : l ≠ []) (hg : ∀ v, v < 7 → am_I h 88 (pm_v j v) = g0 v) (ha : a + (pm_code j l).length ≤ 1400) (hc : ∀ i, i < (pm_code j l).length → am_I h 69 (a + i) = nI ((pm_code j l).getD i 0)) :
    am_RI (am_run am_M 225 [.ref 60, .int (nI a)] h) (fun v g => v = pd_val g0 l ∧ ∃ f', g = pz_wr h 89 f') := by
  rw [e225]
  have := s225_4 hg (c := 1400) (by omega) l a [] (am_I h 89) hc ha hl.2.1 (hl.2.2.resolve_left hne) (fun i hi => absurd hi (Nat.not_lt_zero i)) (by decide)
  rw [pz_wr_id] at this
  exact this
/-- the snow that is told, or the day's -/
def pm_sn (h : am_H) (d : pw_L) (day sn : Nat) : Prop := am_I h 60 61 = (-1 : Int32) ∧ sn = pw_sn d day ∨ am_I h 60 61 = nI sn ∧ sn < 100
theorem s226 {day sn : Nat} (hL : pm_L h d) (ho : pw_ok d) (hs : pm_sn h d day sn) (hday : day < 2 ^ 31) : am_run am_M 226 [.ref 60, .int (nI day)] h = some (.inl (some (.int (nI sn))), h) := by
  have h4 := ho.1.2.2.2.2
  have e5 : am_I h 60 5 = nI (pw_n d 4) := hL.1 4 (by omega)
  rw [e226]
  rcases hs with ⟨e, rfl⟩ | ⟨e, he⟩
  · rw [if_pos e, e5]
    unfold pw_sn
    by_cases c : pw_n d 4 = 0
    · rw [c, if_pos (by decide), if_pos rfl]
    · have hm : day % pw_n d 4 < pw_n d 4 := Nat.mod_lt _ (by omega)
      rw [if_neg (nI_ne0 (by omega) (by omega)), if_neg (nI_ne0 (by omega) (by omega)), if_neg c, pk_rem hday (by omega) (by omega), ml_68 (by omega), hL.2.2.2.1 _ hm]
  · rw [e, if_neg (pz_neg1 (by omega))]
theorem s227 {p : Nat} (hL : pm_L h d) (ho : pw_ok d) (hp : p < pw_n d 3) : am_run am_M 227 [.ref 60, .int (nI p)] h = some (.inl (some (.int (nI (pw_t d 1 (pw_t d 3 p))))), h) := by
  have h6 := ho.1.2.2.2.1
  have h9 := ho.1.2.1
  have hh := (ho.2.2.1 p hp).2
  rw [e227, ml_67 (by omega), (hL.2.2.1 p hp).2, ml_63 (by omega), (hL.2.1 _ hh).2]
/-- what the model's dueOf and mayBe write -/
def ps_m (i _ : Nat) : Bool := decide (i = 88 ∨ i = 89)
theorem ps_m_t {i k : Nat} (h : i = 88 ∨ i = 89) : ps_m i k = true := decide_eq_true h
theorem ps_m_f {i k : Nat} (h : ¬ (i = 88 ∨ i = 89)) : ps_m i k = false := decide_eq_false h
theorem pm_L.kp {s : Nat → Nat → Bool} {g : am_H} (a : pm_L h d) (k : am_kp s h g) (hs : ∀ i k, (i = 60 ∧ 1 ≤ k ∧ k ≤ 7 ∨ 61 ≤ i ∧ i ≤ 69) → s i k = false) : pm_L g d :=
  a.fr (fun j h1 h2 => k.get 60 j (hs _ _ (Or.inl ⟨rfl, h1, h2⟩))) (fun i h1 h2 => funext fun j => k.get i j (hs _ _ (Or.inr ⟨h1, h2⟩)))
theorem pm_S.kp {s : Nat → Nat → Bool} {g : am_H} {r o : Nat} (a : pm_S h r o S) (k : am_kp s h g) (hs : ∀ k, s r k = false) : pm_S g r o S := a.fr (funext fun j => k.get r j (hs j))
/-- what the model knows of a season on row r -/
def pm_Y (h : am_H) (d : pw_L) (r : Nat) (S : Nat → Nat) (u q : Nat) : Prop := pm_S h r 0 S ∧ (∀ k, k < pw_n d 0 → am_I h 90 k = nI (S (45 + k))) ∧ am_I h 60 62 = pn_o u 20 ∧ am_I h 60 63 = pn_o q 5
theorem s228 {r p u q sn : Nat} (hr : r = 85 ∨ r = 86) (hL : pm_L h d) (ho : pw_ok d) (hY : pm_Y h d r S u q) (hs : pm_sn h d (S 0) sn) (hb : pw_S S) (h0 : S 0 < 100000) (hp : p < pw_n d 3) :
    am_RI (am_run am_M 228 [.ref 60, .ref r, .int (nI p)] h) (fun v g => v = nI (py_f d S sn u p) ∧ am_kp ps_m h g) := by
  obtain ⟨⟨y1, y2, y3, y4⟩, yh, yu, yq⟩ := hY
  have hL0 := hL
  obtain ⟨l1, l2, l3, l4, l5, l6, l7, l8, l9⟩ := hL
  have h6 := ho.1.2.2.2.1
  have h9 := ho.1.2.1
  have h4 := ho.1.1
  have hh := (ho.2.2.1 p hp).2
  have hpk := (ho.2.1 _ hh).2
  have htr : am_ty r = (16, 40) := by rcases hr with rfl | rfl <;> rfl
  have hr1 : r < 100 := by omega
  rw [e228, yu]
  unfold py_f
  by_cases cu : u ≤ 20
  · rw [if_neg (fun e => by have := (pn_o_neg (by omega)).mp e; omega), if_pos cu, show pn_o u 20 = nI u from if_pos cu]
    exact ⟨_, _, rfl, rfl, am_kp.refl _ _⟩
  · rw [if_pos ((pn_o_neg (by omega)).mpr (by omega)), if_neg cu]
    unfold pr_due
    unfold pm_D at l9
    by_cases hd1 : pw_d d 1 = []
    · rw [if_pos hd1] at l9 ⊢
      rw [l9, if_pos rfl]
      exact ⟨_, _, rfl, rfl, am_kp.refl _ _⟩
    · rw [if_neg hd1] at l9 ⊢
      obtain ⟨a, a1, a2, a3⟩ := l9
      have hsn : ∀ F, pm_sn (pz_wr h 88 F) d (S 0) sn := fun F => by
        unfold pm_sn
        rw [am_I_w1 _ _ _ (show 60 ≠ 88 by omega)]
        exact hs
      have hLF : ∀ F, pm_L (pz_wr h 88 F) d := fun F => hL0.fr (fun k _ _ => by rw [am_I_w1 _ _ _ (show 60 ≠ 88 by omega)]) (fun i _ _ => by rw [am_I_w1 _ _ _ (show i ≠ 88 by omega)])
      have y1' : ∀ i, i < 25 → am_I h r i = nI (S i) := fun i hi => by have := y1 i hi; rw [Nat.zero_add] at this; exact this
      have y4' : ∀ k, k < 4 → am_I h r (32 + k) = nI (S (37 + k)) := fun k hk => by have := (y4 k hk).1; rw [Nat.zero_add] at this; exact this
      rw [a1, if_neg (pz_neg1 (by omega)), nI_add, am_il_ok htr hr1 (show 1 + p < 40 by omega) (by omega), y1' _ (by omega), ms_88 (by omega), pz_sI_w,
        ml_66 (by omega), am_I_w1 _ _ _ (show 66 ≠ 88 by omega), (l3 p hp).1, ms_88 (by omega), pz_sI_wr,
        s227 (hLF _) ho hp, am_bI_ok, ml_90 (by omega), am_I_w1 _ _ _ (show 90 ≠ 88 by omega), yh _ hpk, ms_88 (by omega), pz_sI_wr,
        s227 (hLF _) ho hp, am_bI_ok, nI_add, am_il_ok htr hr1 (show 32 + pw_t d 1 (pw_t d 3 p) < 40 by omega) (by omega), am_I_w1 _ _ _ (show r ≠ 88 by omega), y4' _ (by omega), ms_88 (by omega), pz_sI_wr,
        am_il_ok htr hr1 (show 0 < 40 by omega) (by omega), am_I_w1 _ _ _ (show r ≠ 88 by omega), y1' _ (by omega), s226 (hLF _) ho (hsn _) (by omega), am_bI_ok, ms_88 (by omega), pz_sI_wr,
        am_il_ok htr hr1 (show 0 < 40 by omega) (by omega), am_I_w1 _ _ _ (show r ≠ 88 by omega), y1' _ (by omega), ms_88 (by omega), pz_sI_wr,
        nI_add, am_il_ok htr hr1 (show 13 + p < 40 by omega) (by omega), am_I_w1 _ _ _ (show r ≠ 88 by omega), y1' _ (by omega), ms_88 (by omega), pz_sI_wr, am_I_w1 _ _ _ (show 60 ≠ 88 by omega), a1]
      have key := fun (F : Nat → Int32) (hF : ∀ v, v < 7 → F (pm_v 1 v) = pr_g d S sn p v) => s225 (h := pz_wr h 88 F) (j := 1) (g0 := pr_g d S sn p) ho.2.2.2.2.2.2 hd1 (fun v hv => by rw [am_I_w]; exact hF v hv) a2 (fun i hi => by rw [am_I_w1 _ _ _ (show 69 ≠ 88 by omega)]; exact a3 i hi)
      refine pz_II (key _ (lt7 rfl rfl rfl rfl rfl rfl rfl)) fun v g hv => ?_
      obtain ⟨rfl, f', hg⟩ := hv
      have hk : am_kp ps_m h g := by
        rw [hg]
        exact ((am_kp.refl ps_m h).wr _ (fun k => ps_m_t (by omega))).wr _ (fun k => ps_m_t (by omega))
      unfold pr_cl
      generalize pd_val (pr_g d S sn p) (pw_d d 1) = v
      by_cases c0 : v < 0
      · rw [if_neg (show ¬ 0 ≤ v from fun hh => by rw [Int32.le_iff_toInt_le] at hh; rw [Int32.lt_iff_toInt_lt] at c0; omega), if_pos c0]
        exact ⟨_, _, rfl, rfl, hk⟩
      · rw [if_neg c0]
        obtain ⟨x, hx, rfl⟩ := nI_of c0
        rw [if_pos (nI_pos' hx), nI_clamp hx]
        by_cases c9 : x ≤ 99
        · rw [if_pos (nI_le c9 (by omega)), if_neg (show ¬ (99 : Int32) < nI x from nI_nlt (a := 99) c9 (by omega))]
          exact ⟨_, _, rfl, rfl, hk⟩
        · rw [if_neg (nI_ge (by omega) hx), if_pos (show (99 : Int32) < nI x from nI_lt (a := 99) (by omega) hx)]
          exact ⟨_, _, rfl, rfl, hk⟩
end
