/-! TRACKS in the model: put in order, walked -/
def pt_O (o : Nat → Nat) (t : Nat → Nat × Nat) (n : Nat) : Prop := (∀ k, k < n → o k < n) ∧ (∀ j k, j < k → k < n → pt_lt t (o j) (o k)) ∧ ∀ j, j < n → ∃ k, k < n ∧ o k = j
def pt_ins (o : Nat → Nat) (i v k : Nat) : Nat := if k < v then o k else if k = v then i else o (k - 1)
theorem pt_lt_tr {t : Nat → Nat × Nat} {i j k : Nat} (a : pt_lt t i j) (b : pt_lt t j k) : pt_lt t i k := by unfold pt_lt at *; omega
theorem pt_O_ins {o : Nat → Nat} {t : Nat → Nat × Nat} {i v : Nat} (h : pt_O o t i) (hv : v ≤ i) (h1 : v = 0 ∨ (t (o (v - 1))).2 ≤ (t i).2) (h2 : ∀ k, v ≤ k → k < i → (t i).2 < (t (o k)).2) : pt_O (pt_ins o i v) t (i + 1) := by
  obtain ⟨a, b, c⟩ := h
  refine ⟨fun k hk => ?_, fun j k hjk hk => ?_, fun j hj => ?_⟩
  · unfold pt_ins
    split
    · have := a k (by omega); omega
    · split
      · omega
      · have := a (k - 1) (by omega); omega
  · unfold pt_ins
    by_cases e1 : k < v
    · rw [if_pos e1, if_pos (by omega)]; exact b j k hjk (by omega)
    · by_cases e2 : k = v
      · rw [if_neg e1, if_pos e2, if_pos (by omega)]
        have hj := a j (by omega)
        have h3 : (t (o (v - 1))).2 ≤ (t i).2 := by rcases h1 with h | h; · omega
                                                    · exact h
        by_cases e3 : j = v - 1
        · rw [e3] at hj ⊢; unfold pt_lt; omega
        · have := b j (v - 1) (by omega) (by omega)
          unfold pt_lt at this ⊢; omega
      · rw [if_neg e1, if_neg e2]
        by_cases e3 : j < v
        · rw [if_pos e3]; exact b j (k - 1) (by omega) (by omega)
        · by_cases e4 : j = v
          · rw [if_neg e3, if_pos e4]
            have := h2 (k - 1) (by omega) (by omega)
            unfold pt_lt; omega
          · rw [if_neg e3, if_neg e4]; exact b (j - 1) (k - 1) (by omega) (by omega)
  · by_cases e : j = i
    · exact ⟨v, by omega, by unfold pt_ins; rw [if_neg (by omega), if_pos rfl, e]⟩
    · obtain ⟨k, hk, ek⟩ := c j (by omega)
      by_cases e1 : k < v
      · exact ⟨k, by omega, by unfold pt_ins; rw [if_pos e1, ek]⟩
      · exact ⟨k + 1, by omega, by unfold pt_ins; rw [if_neg (by omega), if_neg (by omega)]; exact ek⟩
def pt_M (h : am_H) (n : Nat) (t : Nat → Nat × Nat) : Prop := am_I h 60 70 = nI n ∧ ∀ j, j < n → am_I h 94 (2 * j) = nI (t j).1 ∧ am_I h 94 (2 * j + 1) = nI (t j).2
def ps_95 (i _k : Nat) : Bool := decide (i = 95)
theorem pt_M.kp {h g : am_H} {n : Nat} {t : Nat → Nat × Nat} (a : pt_M h n t) (k : am_kp ps_95 h g) : pt_M g n t := ⟨(k.get _ _ (decide_eq_false (by omega))).trans a.1, fun j hj => ⟨(k.get _ _ (decide_eq_false (by omega))).trans (a.2 j hj).1, (k.get _ _ (decide_eq_false (by omega))).trans (a.2 j hj).2⟩⟩
theorem pk_pred (n : Nat) : nI (n + 1) + (-1 : Int32) = nI n := by
  rw [← pz_succ, Int32.add_assoc, show nI 1 + (-1 : Int32) = 0 from rfl, Int32.add_zero]
section
variable {h : am_H} {d : pw_L} {t : Nat → Nat × Nat} {n : Nat}
theorem s285_66 {o : Nat → Nat} {i v : Nat} (hn : n ≤ 7) (hi : i < n) (hv : v ≤ i) (r1 : ∀ k, k < v → am_I h 95 k = nI (o k)) (r2 : ∀ k, v < k → k ≤ i → am_I h 95 k = nI (o (k - 1))) :
    ∃ g, am_vn am_M 0 285 66 [some (.ref 60), some (.int (nI i)), some (.int (nI v))] [] h = am_vn am_M 0 285 2 [some (.ref 60), some (.int (nI (i + 1))), none] [] g ∧ am_kp ps_95 h g ∧ ∀ k, k < i + 1 → am_I g 95 k = nI (pt_ins o i v k) := by
  rw [e285_66, ms_95 (by omega), pz_succ]
  refine ⟨_, rfl, (am_kp.refl _ _).sI _ (decide_eq_true rfl), fun k hk => ?_⟩
  rw [am_I_sc]
  unfold pt_ins
  by_cases e : k = v
  · rw [if_pos ⟨rfl, e⟩, if_neg (by omega), if_pos e]
  · rw [if_neg (fun h => e h.2), if_neg e]
    by_cases e1 : k < v
    · rw [if_pos e1, r1 k e1]
    · rw [if_neg e1, r2 k (by omega) (by omega)]
theorem s285_12 {o : Nat → Nat} {i : Nat} (hT : pt_M h n t) (ho : pt_ok d n t) (hi : i < n) (hO : pt_O o t i) : ∀ (v : Nat) (g : am_H), v ≤ i → am_kp ps_95 h g → (∀ k, k < v → am_I g 95 k = nI (o k)) → (∀ k, v < k → k ≤ i → am_I g 95 k = nI (o (k - 1))) → (∀ k, v ≤ k → k < i → (t i).2 < (t (o k)).2) →
    ∃ g', am_vn am_M 0 285 12 [some (.ref 60), some (.int (nI i)), some (.int (nI v))] [] g = am_vn am_M 0 285 2 [some (.ref 60), some (.int (nI (i + 1))), none] [] g' ∧ am_kp ps_95 h g' ∧ ∃ o', pt_O o' t (i + 1) ∧ ∀ k, k < i + 1 → am_I g' 95 k = nI (o' k)
  | 0, g, hv, kp, r1, r2, r3 => by
    obtain ⟨g', e, k2, r⟩ := s285_66 (h := g) (o := o) ho.1 hi hv r1 r2
    rw [e285_12, if_pos (show nI 0 ≤ 0 by decide), e]
    exact ⟨g', rfl, kp.trans k2, _, pt_O_ins hO hv (Or.inl rfl) r3, r⟩
  | v + 1, g, hv, kp, r1, r2, r3 => by
    have hn := ho.1
    have hT2 := hT.kp kp
    have hov := hO.1 v (by omega)
    have t1 := (ho.2 _ (show o v < n by omega)).2
    have t2 := (ho.2 i hi).2
    rw [e285_12, if_neg (nI_nle (by omega) (by omega)), pk_sub (show 1 ≤ v + 1 by omega), Nat.add_sub_cancel, ml_95 (by omega), r1 v (by omega), pk_mul, nI_add, ml_94 (by omega), (hT2.2 _ (show o v < n by omega)).2, pk_mul, nI_add, ml_94 (by omega), (hT2.2 i hi).2]
    by_cases c : (t (o v)).2 ≤ (t i).2
    · obtain ⟨g', e, k2, r⟩ := s285_66 (h := g) (o := o) hn hi hv r1 r2
      rw [if_pos (nI_le c (by omega)), e]
      exact ⟨g', rfl, kp.trans k2, _, pt_O_ins hO hv (Or.inr c) r3, r⟩
    · rw [if_neg (nI_ge (by omega) (by omega)), ml_95 (by omega), r1 v (by omega), ms_95 (by omega), pk_pred]
      refine s285_12 hT ho hi hO v _ (by omega) (kp.sI _ (decide_eq_true rfl)) (fun k hk => ?_) (fun k h1 h2 => ?_) (fun k h1 h2 => ?_)
      · rw [am_I_s2 _ _ _ _ (by omega)]; exact r1 k (by omega)
      · rw [am_I_sc]
        by_cases e : k = v + 1
        · rw [if_pos ⟨rfl, e⟩, e]; rfl
        · rw [if_neg (fun h => e h.2)]; exact r2 k (by omega) h2
      · by_cases e : k = v
        · rw [e]; omega
        · exact r3 k (by omega) h2
theorem s285 (hT : pt_M h n t) (ho : pt_ok d n t) : am_RV (am_run am_M 285 [.ref 60] h) (fun g => am_kp ps_95 h g ∧ ∃ o, pt_O o t n ∧ ∀ k, k < n → am_I g 95 k = nI (o k)) := by
  rw [e285]
  obtain ⟨g, e, k, hp⟩ := am_for0 (fun i (g : am_H) => am_vn am_M 0 285 2 [some (.ref 60), some (.int (nI i)), none] [] g) (fun i g => am_kp ps_95 h g ∧ ∃ o, pt_O o t i ∧ ∀ k, k < i → am_I g 95 k = nI (o k)) n h ⟨am_kp.refl _ _, id, ⟨fun k hk => absurd hk (Nat.not_lt_zero k), fun j k _ hk => absurd hk (Nat.not_lt_zero k), fun k hk => absurd hk (Nat.not_lt_zero k)⟩, fun k hk => absurd hk (Nat.not_lt_zero k)⟩ (fun i g hi hg => by
    obtain ⟨kp, o, hO, hr⟩ := hg
    have hn := ho.1
    rw [e285_2, (hT.kp kp).1, if_neg (nI_ge hi (by omega))]
    exact s285_12 hT ho hi hO i g (Nat.le_refl _) kp hr (fun k h1 h2 => by omega) (fun k h1 h2 => by omega))
  refine Eq.mpr (congrArg (fun o => am_RV o _) e) ?_
  have hn := ho.1
  rw [e285_2, (hT.kp k).1, if_pos (nI_le (Nat.le_refl _) (by omega))]
  exact ⟨g, rfl, k, hp⟩
/-- the next is the next in order -/
theorem pt_nx_O {o : Nat → Nat} {U k : Nat} (hn : n ≤ 7) (hO : pt_O o t n) (hk : k < n) (hU : ∀ j, j < n → (U.testBit j = true ↔ ∃ m, m < k ∧ o m = j)) : pt_nx t U n = o k := by
  have inj : ∀ i j, i < n → j < n → o i = o j → i = j := fun i j hi hj e => by
    rcases Nat.lt_trichotomy i j with c | c | c
    · have := hO.2.1 i j c hj; rw [e] at this; unfold pt_lt at this; omega
    · exact c
    · have := hO.2.1 j i c hi; rw [e] at this; unfold pt_lt at this; omega
  have hok := hO.1 k hk
  have hu : U.testBit (o k) = false := by
    cases c : U.testBit (o k) with
    | false => rfl
    | true => obtain ⟨m, hm, e⟩ := (hU _ hok).mp c; have := inj m k (by omega) hk e; omega
  rcases pt_nx_or t U n hn with ⟨_, b⟩ | ⟨a, b, c⟩
  · have := b _ hok; rw [hu] at this; exact absurd this (by decide)
  · obtain ⟨m, hm, em⟩ := hO.2.2 _ a
    have hmk : k ≤ m := by
      rcases Nat.lt_or_ge m k with h | h
      · have := (hU _ a).mpr ⟨m, h, em⟩; rw [b] at this; exact absurd this (by decide)
      · exact h
    rcases c _ hok hu with e | e
    · exact e.symm
    · rw [← em] at e ⊢
      by_cases ek : m = k
      · rw [ek]
      · have := hO.2.1 k m (by omega) hm
        unfold pt_lt at this e; omega
theorem s286 {o : Nat → Nat} {p : Nat} (hd : pm_L h d) (hw : pw_ok d) (hT : pt_M h n t) (ho : pt_ok d n t) (hO : pt_O o t n) (hr : ∀ k, k < n → am_I h 95 k = nI (o k)) (hp : p < pw_n d 3) : am_run am_M 286 [.ref 60, .int (nI p)] h = some (.inl (some (.int (pt_al d t n p))), h) := by
  have h6 := hw.1.2.2.2.1
  have h9 := hw.1.2.1
  have hhp := (hw.2.2.1 p hp).2
  have hn := ho.1
  rw [e286, ml_67 (by omega), (hd.2.2.1 p hp).2]
  refine am_forx0 (fun k (s : Nat × Nat × Nat) => am_vn am_M 0 286 12 [some (.ref 60), none, some (.int (nI s.2.1)), some (.int (nI s.2.2)), some (.int (nI k)), none] [] h) (fun k s => s.2.1 < pw_n d 1 ∧ s.2.2 ≤ 71 ∧ (∀ j, j < n → (s.1.testBit j = true ↔ ∃ m, m < k ∧ o m = j)) ∧ (k < n → s.2.2 ≤ (t (o k)).2) ∧ pt_w d t n (n - k) s.1 s.2.1 s.2.2 = pt_al d t n p) (fun q => q = some (.inl (some (.int (pt_al d t n p))), h)) n (0, pw_t d 3 p, 0) ⟨hhp, Nat.zero_le _, fun j _ => ⟨fun e => by rw [Nat.zero_testBit] at e; exact absurd e (by decide), fun ⟨m, hm, _⟩ => absurd hm (Nat.not_lt_zero m)⟩, fun _ => Nat.zero_le _, rfl⟩ (fun s hs => ?_) (fun k s hk hs => ?_)
  · obtain ⟨s1, s2, s3, s4, s5⟩ := hs
    rw [Nat.sub_self] at s5
    rw [e286_12, hT.1, if_pos (nI_le (Nat.le_refl _) (by omega)), ← s5]; rfl
  · obtain ⟨U, a, s⟩ := s
    obtain ⟨s1, s2, s3, s4, s5⟩ := hs
    dsimp only at s1 s2 s3 s4 s5 ⊢
    have em := s4 hk
    rw [show n - k = n - (k + 1) + 1 by omega, pt_w, pt_nx_O hn hO hk s3] at s5
    have hx := hO.1 k hk
    have ex := ho.2 _ hx
    have tw := pw_far_two hw s1 ex.1
    have hw2 : pw_w d 9999 (pw_n d 1) a (t (o k)).1 = pw_fam d a (t (o k)).1 := rfl
    rw [e286_12, hT.1, if_neg (nI_ge hk (by omega)), ml_95 (by omega), hr k hk, pk_mul, ml_94 (by omega), (hT.2 _ hx).1, pk_mul, nI_add, Nat.mul_comm 9 a, ml_65 (show a * 9 + (t (o k)).1 < 81 by omega), hd.2.2.2.2.2.1 a _ s1 ex.1, hw2, nI_add, ml_94 (by omega), (hT.2 _ hx).2, pk_sub em]
    by_cases c : pw_far d a (t (o k)).1 + s ≤ (t (o k)).2
    · rw [if_pos (nI_le (show pw_fam d a (t (o k)).1 ≤ (t (o k)).2 - s by omega) (by omega)), ml_94 (by omega), (hT.2 _ hx).1, ml_94 (by omega), (hT.2 _ hx).2, pz_succ]
      rw [if_pos c] at s5
      refine Or.inl ⟨(U ||| 2 ^ o k, (t (o k)).1, (t (o k)).2), rfl, ex.1, ex.2, fun j hj => ?_, fun hk1 => ?_, s5⟩
      · show (U ||| 2 ^ o k).testBit j = true ↔ _
        rw [pt_bit, Bool.or_eq_true, s3 j hj, decide_eq_true_iff]
        constructor
        · rintro (⟨m, hm, e⟩ | e)
          · exact ⟨m, by omega, e⟩
          · exact ⟨k, by omega, e⟩
        · rintro ⟨m, hm, e⟩
          by_cases ek : m = k
          · rw [ek] at e; exact Or.inr e
          · exact Or.inl ⟨m, by omega, e⟩
      · have := hO.2.1 k (k + 1) (by omega) hk1
        unfold pt_lt at this; show (t (o k)).2 ≤ _; omega
    · rw [if_neg (nI_ge (show (t (o k)).2 - s < pw_fam d a (t (o k)).1 by omega) (by omega))]
      rw [if_neg c] at s5
      exact Or.inr (by rw [← s5])
theorem s287 (hd : pm_L h d) (hw : pw_ok d) (hT : pt_M h n t) (ho : pt_ok d n t) : am_RI (am_run am_M 287 [.ref 60] h) (fun v g => v = nI (pb (pt_su d t n) (pw_n d 3)) ∧ am_kp ps_95 h g) := by
  have h6 := hw.1.2.2.2.1
  rw [e287]
  refine pz_VI (s285 hT ho) fun g1 hg1 => ?_
  obtain ⟨k1, o, hO, hr⟩ := hg1
  have e9 : ∀ i, i ≠ 95 → am_I g1 i = am_I h i := fun i hi => funext fun k => k1.get i k (decide_eq_false hi)
  have hd1 : pm_L g1 d := hd.fr (fun k _ _ => by rw [e9 _ (by omega)]) (fun i h1 h2 => e9 i (by omega))
  have hT1 := hT.kp k1
  obtain ⟨g, e, hp⟩ := am_for0 (fun k (g : am_H) => am_vn am_M 1 287 8 [some (.ref 60), some (.int (nI (pb (pt_su d t n) k))), some (.int (nI k))] [] g) (fun _ g => g = g1) (pw_n d 3) g1 rfl (fun k g hk hg => by
    subst hg
    refine ⟨g, ?_, rfl⟩
    rw [e287_8, show am_I g 60 4 = nI (pw_n d 3) from hd1.1 3 (by omega), if_neg (nI_ge hk (by omega)), s286 hd1 hw hT1 ho hO hr hk, am_bI_ok, pz_succ, ← pb_step (pt_su d t n) (show k < 31 by omega)]
    unfold pt_su
    by_cases c : pt_al d t n k = -1
    · rw [if_pos c, decide_eq_true c, if_pos rfl]
    · rw [if_neg c, decide_eq_false c, if_neg (by decide)])
  subst hp
  refine Eq.mpr (congrArg (fun o => am_RI o _) e) ?_
  rw [e287_8, show am_I g 60 4 = nI (pw_n d 3) from hd1.1 3 (by omega), if_pos (nI_le (Nat.le_refl _) (by omega))]
  exact ⟨_, _, rfl, rfl, k1⟩
end
