/-! CALLS: breach -/
theorem br_first {f : Nat → Bool} : ∀ {n : Nat}, (∃ v, v < n ∧ f v = true) → pz_fst f n < n ∧ f (pz_fst f n) = true ∧ ∀ j, j < pz_fst f n → f j = false
  | 0, h => by obtain ⟨v, hv, _⟩ := h; exact absurd hv (Nat.not_lt_zero v)
  | n + 1, h => by
    rcases Classical.em (∃ v, v < n ∧ f v = true) with c | c
    · have ih := br_first c
      rw [pz_fst, if_pos ih.1]
      exact ⟨by omega, ih.2⟩
    · have no : ∀ j, j < n → f j = false := fun j hj => by
        cases e : f j with
        | false => rfl
        | true => exact absurd ⟨j, hj, e⟩ c
      obtain ⟨v, hv, ev⟩ := h
      have hvn : v = n := by
        rcases Nat.lt_or_ge v n with h1 | h1
        · exact absurd ⟨v, h1, ev⟩ c
        · omega
      subst hvn
      rw [pz_fst, pz_fst_no no, if_neg (Nat.lt_irrefl _), if_pos ev]
      exact ⟨by omega, ev, no⟩
theorem br_cnt {f g : Nat → Bool} : ∀ {n : Nat}, (∀ x, x < n → f x = true → g x = true) → pz_cnt f n ≤ pz_cnt g n ∧ ((∃ v, v < n ∧ f v = false ∧ g v = true) → pz_cnt f n < pz_cnt g n)
  | 0, _ => ⟨Nat.le_refl _, fun ⟨v, hv, _⟩ => absurd hv (Nat.not_lt_zero v)⟩
  | n + 1, h => by
    have ih := br_cnt (f := f) (g := g) (n := n) (fun x hx => h x (by omega))
    have hn := h n (Nat.lt_succ_self n)
    rw [pz_cnt, pz_cnt]
    refine ⟨?_, fun ⟨v, hv, e1, e2⟩ => ?_⟩
    · cases ef : f n with
      | false => have := ih.1; cases g n <;> simp <;> omega
      | true => rw [hn ef]; have := ih.1; simp; omega
    · by_cases c : v = n
      · subst c; rw [e1, e2]; have := ih.1; simp; omega
      · have := ih.2 ⟨v, by omega, e1, e2⟩
        cases ef : f n with
        | false => cases g n <;> simp <;> omega
        | true => rw [hn ef]; simp; omega
def br_ok (d : pw_L) (c b v : Nat) : Bool := decide (pw_t d 5 (c * 9 + v) ≠ 0) && decide (pw_t d 5 (c * 9 + v) + pw_fam d v b = pw_fam d c b)
def br_nx (d : pw_L) (c b : Nat) : Nat := pz_fst (br_ok d c b) (pw_n d 1)
def br_mu (d : pw_L) (c b : Nat) : Nat := pz_cnt (fun x => decide (pw_fam d x b < pw_fam d c b)) (pw_n d 1)
theorem br_ex0 {d : pw_L} (ho : pw_ok d) {b : Nat} (hb : b < pw_n d 1) : ∀ (l : List Nat) (c : Nat), (∀ x ∈ l, x < pw_n d 1) → c < pw_n d 1 → pl_W (pw_e d 9999) c l b = pw_fam d c b → pw_fam d c b ≤ 90 → c ≠ b → ∃ v, v < pw_n d 1 ∧ br_ok d c b v = true
  | [], c, _, hc, e, h9, hcb => by
    have e1 : pw_e d 9999 c b = pw_fam d c b := e
    unfold pw_e at e1
    rw [if_neg hcb] at e1
    have hbb : pw_fam d b b = 0 := by
      have : pw_fam d b b ≤ pw_e d 9999 b b := by unfold pw_fam; rw [pw_w_D]; exact pl_le _ _ [] (fun x hx => absurd hx (by simp)) b b
      unfold pw_e at this; rw [if_pos rfl] at this; omega
    by_cases t0 : pw_t d 5 (c * 9 + b) = 0
    · rw [if_pos t0] at e1; omega
    · rw [if_neg t0] at e1
      refine ⟨b, hb, ?_⟩
      unfold br_ok
      rw [decide_eq_true t0, decide_eq_true (by rw [hbb]; omega)]; rfl
  | x :: l, c, hl, hc, e, h9, hcb => by
    have hx := hl x (by simp)
    have hl' : ∀ y ∈ l, y < pw_n d 1 := fun y hy => hl y (by simp [hy])
    have e1 : pw_e d 9999 c x + pl_W (pw_e d 9999) x l b = pw_fam d c b := e
    by_cases cx : c = x
    · subst cx
      have : pw_e d 9999 c c = 0 := if_pos rfl
      rw [this, Nat.zero_add] at e1
      exact br_ex0 ho hb l c hl' hc e1 h9 hcb
    · have l1 : pw_fam d x b ≤ pl_W (pw_e d 9999) x l b := by unfold pw_fam; rw [pw_w_D]; exact pl_le _ _ l hl' x b
      have l2 : pw_fam d c x ≤ pw_e d 9999 c x := by unfold pw_fam; rw [pw_w_D]; exact pl_le _ _ [] (fun x hx => absurd hx (by simp)) c x
      have l3 : pw_fam d c b ≤ pw_fam d c x + pw_fam d x b := by unfold pw_fam; rw [pw_w_D, pw_w_D, pw_w_D]; exact pl_tri _ _ c x b hx
      have e2 : pw_e d 9999 c x = if pw_t d 5 (c * 9 + x) = 0 then 9999 else pw_t d 5 (c * 9 + x) := by unfold pw_e; rw [if_neg cx]
      by_cases t0 : pw_t d 5 (c * 9 + x) = 0
      · rw [if_pos t0] at e2; omega
      · rw [if_neg t0] at e2
        refine ⟨x, hx, ?_⟩
        unfold br_ok
        rw [decide_eq_true t0, decide_eq_true (by omega)]; rfl
theorem br_go {d : pw_L} (ho : pw_ok d) {b c : Nat} (hb : b < pw_n d 1) (hc : c < pw_n d 1) (h9 : pw_fam d c b ≤ 90) (hcb : c ≠ b) :
    br_nx d c b < pw_n d 1 ∧ pw_t d 5 (c * 9 + br_nx d c b) ≠ 0 ∧ pw_t d 5 (c * 9 + br_nx d c b) + pw_fam d (br_nx d c b) b = pw_fam d c b ∧ (∀ j, j < br_nx d c b → br_ok d c b j = false) ∧ br_mu d (br_nx d c b) b < br_mu d c b := by
  have hex : ∃ v, v < pw_n d 1 ∧ br_ok d c b v = true := by
    obtain ⟨l, _, hl, e⟩ := pl_ex (pw_e d 9999) (pw_n d 1) c b
    exact br_ex0 ho hb l c hl hc (by unfold pw_fam; rw [pw_w_D]; exact e) h9 hcb
  have hf := br_first hex
  have hok : br_ok d c b (br_nx d c b) = true := hf.2.1
  unfold br_ok at hok
  rw [Bool.and_eq_true, decide_eq_true_iff, decide_eq_true_iff] at hok
  refine ⟨hf.1, hok.1, hok.2, hf.2.2, ?_⟩
  refine (br_cnt fun x _ hx => ?_).2 ⟨br_nx d c b, hf.1, decide_eq_false (Nat.lt_irrefl _), decide_eq_true (by omega)⟩
  have := of_decide_eq_true hx
  exact decide_eq_true (by omega)
theorem br_mu_8 {d : pw_L} (ho : pw_ok d) {b c : Nat} (hc : c < pw_n d 1) : br_mu d c b ≤ 8 := by
  have h9 := ho.1.2.1
  have := (br_cnt (f := fun x => decide (pw_fam d x b < pw_fam d c b)) (g := fun _ => true) (n := pw_n d 1) (fun _ _ _ => rfl)).2 ⟨c, hc, decide_eq_false (Nat.lt_irrefl _), rfl⟩
  rw [pt_cnt_all (f := fun _ => true) (fun _ _ => rfl)] at this
  unfold br_mu; omega
def br_w (d : pw_L) (S : Nat → Nat) (p b : Nat) : Nat → Nat → Nat → Int32
  | 0, _, _ => -1
  | f + 1, c, s => if c = b then -1 else if pa_ok d S p (br_nx d c b) ((s + pw_t d 5 (c * 9 + br_nx d c b)) % 24) = true then br_w d S p b f (br_nx d c b) (s + pw_t d 5 (c * 9 + br_nx d c b)) else nI (br_nx d c b)
theorem s102 {L : Nat} {d : pw_L} {h : am_H} {b c : Nat} (hL : pc_lo L) (hd : pc_L h L d) (ho : pw_ok d) (hb : b < pw_n d 1) (hc : c < pw_n d 1) (h9 : pw_fam d c b ≤ 90) (hcb : c ≠ b) : am_run am_M 102 [.ref L, .int (nI c), .int (nI b)] h = some (.inl (some (.int (nI (br_nx d c b)))), h) := by
  have hn := ho.1.2.1
  obtain ⟨n1, n2, n3, n4, -⟩ := br_go ho hb hc h9 hcb
  have tc := pw_far_two ho hc hb
  rw [e102]
  have wf : ∀ a b, pw_w d 1000 (pw_n d 1) a b = pw_far d a b := fun _ _ => rfl
  refine am_forx0 (fun k (_ : Unit) => am_vn am_M 2 102 2 [some (.ref L), some (.int (nI c)), some (.int (nI b)), some (.int (nI k)), none] [] h) (fun _ _ => True) (fun o => o = some (.inl (some (.int (nI (br_nx d c b)))), h)) (br_nx d c b) () trivial (fun _ _ => ?_) (fun k _ hk _ => ?_)
  · have tv := pw_far_two ho n1 hb
    have t9 := (ho.2.2.2.2.1 c (br_nx d c b) (by omega) (by omega)).1
    rw [e102_2, pc_lch hL, show am_I h L 12 = nI (pw_n d 1) from hd.1 1 (by omega), if_neg (nI_ge n1 (by omega)), pc_lch hL, s95 hL (show c * 9 + br_nx d c b < 81 by omega), am_bI_ok, hd.2.2.2.2.1 _ (by omega), if_neg (nI_nle (by omega) (by omega)), pc_lch hL, s96 hL (show br_nx d c b * 9 + b < 81 by omega), am_bI_ok, pc_lch hL, s96 hL (show c * 9 + b < 81 by omega), am_bI_ok, hd.2.2.2.2.2.1 _ _ n1 hb, hd.2.2.2.2.2.1 _ _ hc hb, wf, wf, nI_add, if_pos (show nI (pw_t d 5 (c * 9 + br_nx d c b) + pw_far d (br_nx d c b) b) = nI (pw_far d c b) by rw [show pw_t d 5 (c * 9 + br_nx d c b) + pw_far d (br_nx d c b) b = pw_far d c b by omega])]
  · have hkn : k < pw_n d 1 := by omega
    have tv := pw_far_two ho hkn hb
    have t9 := (ho.2.2.2.2.1 c k (by omega) (by omega)).1
    have no := n4 k hk
    unfold br_ok at no
    refine Or.inl ⟨(), ?_, trivial⟩
    rw [e102_2, pc_lch hL, show am_I h L 12 = nI (pw_n d 1) from hd.1 1 (by omega), if_neg (nI_ge hkn (by omega)), pc_lch hL, s95 hL (show c * 9 + k < 81 by omega), am_bI_ok, hd.2.2.2.2.1 _ (by omega)]
    by_cases t0 : pw_t d 5 (c * 9 + k) = 0
    · rw [if_pos (by rw [t0]; decide), pz_succ]
    · rw [decide_eq_true t0, Bool.true_and] at no
      have ne := of_decide_eq_false no
      rw [if_neg (nI_nle (by omega) (by omega)), pc_lch hL, s96 hL (show k * 9 + b < 81 by omega), am_bI_ok, pc_lch hL, s96 hL (show c * 9 + b < 81 by omega), am_bI_ok, hd.2.2.2.2.2.1 _ _ hkn hb, hd.2.2.2.2.2.1 _ _ hc hb, wf, wf, nI_add, if_neg (fun e => by have := (nI_eq (by omega) (by omega)).mp e; omega), pz_succ]
/-- the model's step -/
theorem s275_72 {d : pw_L} {h : am_H} {p b c s : Nat} (hd : pm_L h d) (ho : pw_ok d) (hb : b < pw_n d 1) (hc : c < pw_n d 1) (h9 : pw_fam d c b ≤ 90) (hcb : c ≠ b) (hs : s < 1000) : am_vn am_M 3 275 72 [some (.ref 60), some (.int (nI p)), some (.int (nI b)), none, some (.int (nI c)), some (.int (nI s)), some (.int (nI 0))] [] h = am_bI [] (am_run am_M 242 [.ref 60, .int (nI p), .int (nI (br_nx d c b)), .int (nI ((s + pw_t d 5 (c * 9 + br_nx d c b)) % 24))] h) fun x g => (if x = 0 then some (.inl (some (.int (nI (br_nx d c b)))), g) else am_vn am_M 3 275 63 [some (.ref 60), some (.int (nI p)), some (.int (nI b)), none, some (.int (nI (br_nx d c b))), some (.int (nI (s + pw_t d 5 (c * 9 + br_nx d c b)))), none] [] g) := by
  have hn := ho.1.2.1
  obtain ⟨n1, n2, n3, n4, -⟩ := br_go ho hb hc h9 hcb
  have wf : ∀ a b, pw_w d 9999 (pw_n d 1) a b = pw_fam d a b := fun _ _ => rfl
  have t9 := (ho.2.2.2.2.1 c (br_nx d c b) (by omega) (by omega)).1
  obtain ⟨_, e, _⟩ := am_for0 (fun k (_ : Unit) => am_vn am_M 3 275 72 [some (.ref 60), some (.int (nI p)), some (.int (nI b)), none, some (.int (nI c)), some (.int (nI s)), some (.int (nI k))] [] h) (fun _ _ => True) (br_nx d c b) () trivial (fun k _ hk _ => by
    have hkn : k < pw_n d 1 := by omega
    have tv := pw_far_two ho hkn hb
    have t9 := (ho.2.2.2.2.1 c k (by omega) (by omega)).1
    have no := n4 k hk
    unfold br_ok at no
    refine ⟨(), ?_, trivial⟩
    rw [e275_72, pk_mul, nI_add, Nat.mul_comm 9 c, ml_64 (show c * 9 + k < 81 by omega), hd.2.2.2.2.1 _ (by omega)]
    by_cases t0 : pw_t d 5 (c * 9 + k) = 0
    · rw [if_pos (by rw [t0]; rfl), pz_succ]
    · rw [decide_eq_true t0, Bool.true_and] at no
      have ne := of_decide_eq_false no
      rw [if_neg (nI_ne0 (by omega) (by omega)), ml_64 (show c * 9 + k < 81 by omega), hd.2.2.2.2.1 _ (by omega), pk_mul, nI_add, Nat.mul_comm 9 k, ml_65 (show k * 9 + b < 81 by omega), nI_add, ml_65 (show c * 9 + b < 81 by omega), hd.2.2.2.2.2.1 _ _ hkn hb, hd.2.2.2.2.2.1 _ _ hc hb, wf, wf, nI_add, if_neg (fun e => by have := (nI_eq (by omega) (by omega)).mp e; omega), pz_succ])
  refine e.trans ?_
  have hk81 : c * 9 + br_nx d c b < 81 := by omega
  rw [e275_72, pk_mul, nI_add, Nat.mul_comm 9 c, ml_64 hk81, hd.2.2.2.2.1 _ (by omega), if_neg (nI_ne0 (by omega) (by omega)), ml_64 hk81, hd.2.2.2.2.1 _ (by omega), pk_mul, nI_add, Nat.mul_comm 9 (br_nx d c b), ml_65 (show br_nx d c b * 9 + b < 81 by omega), nI_add, ml_65 (show c * 9 + b < 81 by omega), hd.2.2.2.2.2.1 _ _ n1 hb, hd.2.2.2.2.2.1 _ _ hc hb, wf, wf, nI_add, if_pos (by rw [n3]), ml_64 hk81, hd.2.2.2.2.1 _ (by omega), if_neg (show ¬ nI 24 = 0 by decide), nI_add, pk_rem (by omega) (by omega) (by omega)]
theorem call_breach {w : pw_W} (hw : pw_wf w) (x y zz : Int32) : am_AG 2 (fun e => e) w (fun h => am_run am_M 39 [.ref 0, .int x, .int y, .int zz] h) (fun h => am_run am_M 275 [.ref 60, .int x, .int y, .int zz] h) := by
  obtain ⟨d, S, l, t, im, tp, nb, fp, rf⟩ := w
  have hw0 := hw
  obtain ⟨ho, hS, ha, ht, hi, hnb, htp⟩ := hw
  rcases Classical.em (pz_b x (pw_n d 3)) with hx | hx
  rotate_left
  · refine ⟨1, 0, (d, S, l, t, im, tp, nb, fp, rf), hw0, ⟨by omega, fun hh => by first | exact absurd rfl hh | rfl⟩, fun h hc => ?_, fun h hm => ?_⟩
    · have hc0 := hc
      obtain ⟨⟨L, hL, r1, r2, c1⟩, c2, c3, c4, c5, c6, c7, c8, c9⟩ := hc
      refine am_CO_x (by decide) ?_
      show am_run am_M 39 [.ref 0, .int x, .int y, .int zz] h = _
      rw [e39, c62_f hL r1 c1 ho hx]
      try rfl
    · show am_RI (am_run am_M 275 [.ref 60, .int x, .int y, .int zz] h) _
      obtain ⟨hm0, ht0, hf0⟩ := m_start hm
      rw [e275]
      generalize am_sI h 60 0 (nI 0) = g at hm0 ht0 hf0 ⊢
      dsimp only
      have hm1 := hm0
      obtain ⟨m1, m2, m3, m4, m5, m6, m7, m8, m9, m10, m11, m12⟩ := hm1
      rw [s236_f m1 ho ht0 hx, am_bI_ok, if_pos (by decide)]
      exact ⟨_, _, rfl, am_fin_x hf0 hm0 (by decide)⟩
  obtain ⟨i, hx, rfl⟩ := hx
  rcases Classical.em (pz_b y (pw_n d 1)) with hy | hy
  rotate_left
  · refine ⟨1, 0, (d, S, l, t, im, tp, nb, fp, rf), hw0, ⟨by omega, fun hh => by first | exact absurd rfl hh | rfl⟩, fun h hc => ?_, fun h hm => ?_⟩
    · have hc0 := hc
      obtain ⟨⟨L, hL, r1, r2, c1⟩, c2, c3, c4, c5, c6, c7, c8, c9⟩ := hc
      refine am_CO_x (by decide) ?_
      show am_run am_M 39 [.ref 0, .int (nI i), .int y, .int zz] h = _
      rw [e39, c62_t hL r1 c1 ho hx, am_bV_ok, c61_f hL r1 c1 ho hy]
      try rfl
    · show am_RI (am_run am_M 275 [.ref 60, .int (nI i), .int y, .int zz] h) _
      obtain ⟨hm0, ht0, hf0⟩ := m_start hm
      rw [e275]
      generalize am_sI h 60 0 (nI 0) = g at hm0 ht0 hf0 ⊢
      dsimp only
      have hm1 := hm0
      obtain ⟨m1, m2, m3, m4, m5, m6, m7, m8, m9, m10, m11, m12⟩ := hm1
      rw [s236_t m1 ho ht0 hx, am_bI_ok, if_neg (by decide), s235_f m1 ho ht0 hy, am_bI_ok, if_pos (by decide)]
      exact ⟨_, _, rfl, am_fin_x hf0 hm0 (by decide)⟩
  obtain ⟨j, hy, rfl⟩ := hy
  rcases Classical.em (pz_b zz 24) with hzz | hzz
  rotate_left
  · refine ⟨2, 0, (d, S, l, t, im, tp, nb, fp, rf), hw0, ⟨by omega, fun hh => by first | exact absurd rfl hh | rfl⟩, fun h hc => ?_, fun h hm => ?_⟩
    · have hc0 := hc
      obtain ⟨⟨L, hL, r1, r2, c1⟩, c2, c3, c4, c5, c6, c7, c8, c9⟩ := hc
      refine am_CO_x (by decide) ?_
      show am_run am_M 39 [.ref 0, .int (nI i), .int (nI j), .int zz] h = _
      rw [e39, c62_t hL r1 c1 ho hx, am_bV_ok, c61_t hL r1 c1 ho hy, am_bV_ok, c65_f (m := 23) (by omega) hzz]
      try rfl
    · show am_RI (am_run am_M 275 [.ref 60, .int (nI i), .int (nI j), .int zz] h) _
      obtain ⟨hm0, ht0, hf0⟩ := m_start hm
      rw [e275]
      generalize am_sI h 60 0 (nI 0) = g at hm0 ht0 hf0 ⊢
      dsimp only
      have hm1 := hm0
      obtain ⟨m1, m2, m3, m4, m5, m6, m7, m8, m9, m10, m11, m12⟩ := hm1
      rw [s236_t m1 ho ht0 hx, am_bI_ok, if_neg (by decide), s235_t m1 ho ht0 hy, am_bI_ok, if_neg (by decide), s253_f ht0 hzz, am_bI_ok, if_pos (by decide)]
      exact ⟨_, _, rfl, am_fin_x hf0 hm0 (by decide)⟩
  obtain ⟨n, hzz, rfl⟩ := hzz
  have h6 := ho.1.2.2.2.1
  have h4 := ho.1.1
  have hd9 := hS.2.1
  have h9 := ho.1.2.1
  have hhp := (ho.2.2.1 i hx).2
  have tw := pw_far_two ho hhp hy
  refine ⟨0, (if pw_far d (pw_t d 3 i) j < 1000 then br_w d S i j 9 (pw_t d 3 i) n else (-2 : Int32)), (d, S, l, t, im, tp, nb, fp, rf), hw0, ⟨by omega, fun hh => by first | exact absurd rfl hh | rfl⟩, fun h hc => ?_, fun h hm => ?_⟩
  · have hc0 := hc
    obtain ⟨⟨L, hL, r1, r2, c1⟩, c2, c3, c4, c5, c6, c7, c8, c9⟩ := hc
    refine am_CO_0 ?_
    show am_RI (am_run am_M 39 [.ref 0, .int (nI i), .int (nI j), .int (nI n)] h) _
    rw [e39, c62_t hL r1 c1 ho hx, am_bV_ok, c61_t hL r1 c1 ho hy, am_bV_ok, c65_t (m := 23) (by omega) hzz, am_bV_ok]
    have hw2 : pw_w d 1000 (pw_n d 1) (pw_t d 3 i) j = pw_far d (pw_t d 3 i) j := rfl
    rw [r1, am_gr_n, pc_lch hL, s93 hL (by omega), am_bI_ok, (c1.2.2.1 i hx).2, r1, am_gr_n, pc_lch hL, s96 hL (show pw_t d 3 i * 9 + j < 81 by omega), am_bI_ok, c1.2.2.2.2.2.1 _ _ hhp hy, hw2]
    by_cases cf : pw_far d (pw_t d 3 i) j < 1000
    · rw [if_pos (nI_lt cf (by omega)), if_pos cf]
      refine am_forx0 (fun k (s : Nat × Nat × am_H) => am_vn am_M 3 39 51 [some (.ref 0), some (.int (nI i)), some (.int (nI j)), none, some (.int (nI s.1)), some (.int (nI s.2.1)), some (.int (nI k)), none] [] s.2.2) (fun k s => s.1 < pw_n d 1 ∧ pw_fam d s.1 j ≤ 90 ∧ br_mu d s.1 j + k ≤ 8 ∧ s.2.1 ≤ 23 + 9 * k ∧ am_kp ps_0 h s.2.2 ∧ br_w d S i j (9 - k) s.1 s.2.1 = br_w d S i j 9 (pw_t d 3 i) n) (fun o => am_RI o (fun u g => u = br_w d S i j 9 (pw_t d 3 i) n ∧ pI_c g (d, S, l, t, im, tp, nb, fp, rf) ∧ am_fc h g)) 9 (pw_t d 3 i, n, h) ⟨hhp, show pw_fam d (pw_t d 3 i) j ≤ 90 by omega, by have := br_mu_8 ho (b := j) hhp; show br_mu d (pw_t d 3 i) j + 0 ≤ 8; omega, show n ≤ 23 + 9 * 0 by omega, am_kp.refl _ _, rfl⟩ (fun s hs => by obtain ⟨q1, q2, q3, q4, q5, q6⟩ := hs; omega) (fun k s hk hs => ?_)
      obtain ⟨c, s, g⟩ := s
      obtain ⟨q1, q2, q3, q4, q5, q6⟩ := hs
      dsimp only at q1 q2 q3 q4 q5 q6 ⊢
      rw [show 9 - k = 9 - (k + 1) + 1 by omega, br_w] at q6
      rw [e39_51, if_neg (nI_ge hk (by omega))]
      by_cases cb : c = j
      · refine Or.inr ?_
        rw [if_pos cb] at q6
        rw [if_pos (by rw [cb]), ← q6]
        exact ⟨_, _, rfl, rfl, am_fin_c hc0 (q5.up fun i k => ps_0C)⟩
      · rw [if_neg cb] at q6
        obtain ⟨n1, n2, n3, n4, n5⟩ := br_go ho hy q1 q2 cb
        have t9 := (ho.2.2.2.2.1 c (br_nx d c j) (by omega) (by omega)).1
        have hdg := c1.kp q5 (ps_0L hL)
        obtain ⟨v, g2, e2, hv, k2⟩ := s103 (hr := (s + pw_t d 5 (c * 9 + br_nx d c j)) % 24) hL pc_so20 hdg ho (c2.kp q5 (fun k => ps_0_f (by omega))) hS.1 (by omega) hx n1 (by omega)
        have k3 := q5.trans k2
        rw [if_neg (fun e => cb ((nI_eq (by omega) (by omega)).mp e)), q5.R, r1, am_gr_n, pc_lch hL, s102 hL hdg ho hy q1 q2 cb, am_bI_ok, q5.R, r1, am_gr_n, pc_lch hL, s95 hL (show c * 9 + br_nx d c j < 81 by omega), am_bI_ok, hdg.2.2.2.2.1 _ (by omega), q5.R, r1, am_gr_n, if_neg (show ¬ nI 24 = 0 by decide), pc_lch hL, nI_add, pk_rem (by omega) (by omega) (by omega), e2, am_bI_ok, hv]
        by_cases ca : pa_ok d S i (br_nx d c j) ((s + pw_t d 5 (c * 9 + br_nx d c j)) % 24) = true
        · rw [if_pos ca] at q6
          refine Or.inl ⟨(br_nx d c j, s + pw_t d 5 (c * 9 + br_nx d c j), g2), ?_, n1, by show pw_fam d (br_nx d c j) j ≤ 90; omega, by show br_mu d (br_nx d c j) j + (k + 1) ≤ 8; omega, by show s + _ ≤ _; omega, k3, q6⟩
          rw [ca, if_neg (show ¬ nI (if true = true then 1 else 0) = 0 by decide), pz_succ]
        · rw [if_neg ca] at q6
          refine Or.inr ?_
          rw [if_neg ca, if_pos (show nI 0 = 0 from rfl), ← q6]
          exact ⟨_, _, rfl, rfl, am_fin_c hc0 (k3.up fun i k => ps_0C)⟩
    · rw [if_neg (nI_nlt (by omega) (by omega)), if_neg cf]
      exact ⟨_, _, rfl, rfl, hc0, am_fc.refl _⟩
  · show am_RI (am_run am_M 275 [.ref 60, .int (nI i), .int (nI j), .int (nI n)] h) _
    obtain ⟨hm0, ht0, hf0⟩ := m_start hm
    rw [e275]
    generalize am_sI h 60 0 (nI 0) = g at hm0 ht0 hf0 ⊢
    dsimp only
    have hm1 := hm0
    obtain ⟨m1, m2, m3, m4, m5, m6, m7, m8, m9, m10, m11, m12⟩ := hm1
    rw [s236_t m1 ho ht0 hx, am_bI_ok, if_neg (by decide), s235_t m1 ho ht0 hy, am_bI_ok, if_neg (by decide), s253_t ht0 hzz, am_bI_ok, if_neg (by decide)]
    have hw2 : pw_w d 9999 (pw_n d 1) (pw_t d 3 i) j = pw_fam d (pw_t d 3 i) j := rfl
    rw [ml_67 (by omega), (m1.2.2.1 i hx).2, pk_mul, nI_add, Nat.mul_comm 9 (pw_t d 3 i), ml_65 (show pw_t d 3 i * 9 + j < 81 by omega), m1.2.2.2.2.2.1 _ _ hhp hy, hw2]
    by_cases cf : pw_far d (pw_t d 3 i) j < 1000
    · rw [if_pos (nI_lt (show pw_fam d (pw_t d 3 i) j < 9999 by omega) (by omega)), if_pos cf]
      refine am_forx0 (fun k (s : Nat × Nat × am_H) => am_vn am_M 3 275 63 [some (.ref 60), some (.int (nI i)), some (.int (nI j)), none, some (.int (nI s.1)), some (.int (nI s.2.1)), none] [] s.2.2) (fun k s => s.1 < pw_n d 1 ∧ pw_fam d s.1 j ≤ 90 ∧ br_mu d s.1 j + k ≤ 8 ∧ s.2.1 ≤ 23 + 9 * k ∧ am_kp ps_m g s.2.2 ∧ br_w d S i j (9 - k) s.1 s.2.1 = br_w d S i j 9 (pw_t d 3 i) n) (fun o => am_RI o (fun u g => (0 = 0 → u = br_w d S i j 9 (pw_t d 3 i) n) ∧ am_I g 60 0 = nI 0 ∧ pI_m g (d, S, l, t, im, tp, nb, fp, rf) ∧ am_fm h g)) 9 (pw_t d 3 i, n, g) ⟨hhp, show pw_fam d (pw_t d 3 i) j ≤ 90 by omega, by have := br_mu_8 ho (b := j) hhp; show br_mu d (pw_t d 3 i) j + 0 ≤ 8; omega, show n ≤ 23 + 9 * 0 by omega, am_kp.refl _ _, rfl⟩ (fun s hs => by obtain ⟨q1, q2, q3, q4, q5, q6⟩ := hs; omega) (fun k s hk hs => ?_)
      obtain ⟨c, s, g2⟩ := s
      obtain ⟨q1, q2, q3, q4, q5, q6⟩ := hs
      dsimp only at q1 q2 q3 q4 q5 q6 ⊢
      have fin : ∀ (g3 : am_H), am_kp ps_m g g3 → am_kp ps_M g g3 ∧ am_I g3 60 0 = nI 0 := fun g3 k => ⟨k.up fun i k h => by have := of_decide_eq_false h; exact ps_m_f (by omega), (k.get 60 0 (ps_m_f (by omega))).trans ht0⟩
      rw [show 9 - k = 9 - (k + 1) + 1 by omega, br_w] at q6
      rw [e275_63]
      by_cases cb : c = j
      · refine Or.inr ?_
        rw [if_pos cb] at q6
        rw [if_pos (by rw [cb])]
        exact ⟨_, _, rfl, am_fin_m hf0 hm0 (fin _ q5).1 (fin _ q5).2 (fun _ => q6)⟩
      · rw [if_neg cb] at q6
        obtain ⟨n1, n2, n3, n4, n5⟩ := br_go ho hy q1 q2 cb
        have t9 := (ho.2.2.2.2.1 c (br_nx d c j) (by omega) (by omega)).1
        have hdg := m1.kp q5 (fun i k hi => ps_m_f (by omega))
        obtain ⟨v, g3, e3, hv, k3⟩ := s242 (hr := (s + pw_t d 5 (c * 9 + br_nx d c j)) % 24) hdg ho (m2.kp q5 (fun k => ps_m_f (by omega))) hS.1 (by omega) (by rw [q5.get 60 61 (ps_m_f (by omega))]; exact m10) hx n1 (by omega)
        have k4 := q5.trans k3
        rw [if_neg (fun e => cb ((nI_eq (by omega) (by omega)).mp e)), s275_72 hdg ho hy q1 q2 cb (by omega), e3, am_bI_ok, hv]
        by_cases ca : pa_ok d S i (br_nx d c j) ((s + pw_t d 5 (c * 9 + br_nx d c j)) % 24) = true
        · rw [if_pos ca] at q6
          refine Or.inl ⟨(br_nx d c j, s + pw_t d 5 (c * 9 + br_nx d c j), g3), ?_, n1, by show pw_fam d (br_nx d c j) j ≤ 90; omega, by show br_mu d (br_nx d c j) j + (k + 1) ≤ 8; omega, by show s + _ ≤ _; omega, k4, q6⟩
          rw [ca, if_neg (show ¬ nI (if true = true then 1 else 0) = 0 by decide)]
        · rw [if_neg ca] at q6
          refine Or.inr ?_
          rw [if_neg ca, if_pos (show nI 0 = 0 from rfl)]
          exact ⟨_, _, rfl, am_fin_m hf0 hm0 (fin _ k4).1 (fin _ k4).2 (fun _ => q6)⟩
    · rw [if_neg (nI_nlt (by omega) (by omega)), if_neg cf]
      exact ⟨_, _, rfl, am_fin_m hf0 hm0 (am_kp.refl _ _) ht0 (fun _ => rfl)⟩
