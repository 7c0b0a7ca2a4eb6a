/-! switches; making objects -/
theorem am_u1_t {α : Type} {st : List Value} {f : Int32 → List Value → Option α} {z : α} (h : am_u1 st f = some z) : ∃ (v : Int32) (q : List Value), st = .int v :: q ∧ f v q = some z := by
  unfold am_u1 at h
  split at h
  · exact ⟨_, _, rfl, h⟩
  · cases h
theorem st_tableswitch {l : Launch} {g : am_D} {B : am_B} {ρ mi pc n a : Nat} {x : Int32} {ls : am_L} {st : List Value} {h : am_H} {r : am_Q} {k : am_K} {d0 lo hi : Int} {offs : Array Int} (hf : am_f mi pc = some (.tableswitch d0 lo hi offs, n, x, a)) (hk : am_PK l g B ρ mi k)
    (e : am_u1 st (fun p q => am_sw p (fun t => k t ls q h) a (am_swt mi pc)) = some r) : am_P l g B ρ mi pc ls st h r := by
  obtain ⟨d, o, hmi, -⟩ := am_okf hf
  simp only [am_okx, Bool.and_eq_true, decide_eq_true_eq] at o
  obtain ⟨⟨⟨⟨⟨o1, o2⟩, o3⟩, o4⟩, o5⟩, o6⟩ := o
  obtain ⟨v, q, rfl, e⟩ := am_u1_t e
  have key : ∀ j, j < offs.size → ∃ t : Int32 × Nat, (am_swt mi pc)[j]? = some t ∧ t.1.toInt = lo + (j : Int) ∧ (t.2 : Int) = (pc : Int) + offs.getD j 0 := by
    intro j hj
    have := congrArg (fun l : List (Int × Int) => l[j]?) o6
    simp only [List.getElem?_map, List.getElem?_range hj, Option.map_some] at this
    cases ht : (am_swt mi pc)[j]? with
    | none => rw [ht] at this; cases this
    | some t =>
      rw [ht] at this
      simp only [Option.map_some, Option.some.injEq, Prod.mk.injEq] at this
      exact ⟨t, rfl, this.1.symm, this.2.symm⟩
  have hlen : (am_swt mi pc).length = offs.size := by
    have := congrArg List.length o6
    simpa using this.symm
  rcases am_sw_t _ e with ⟨j, t, h1, h2, h3⟩ | ⟨h1, h2⟩
  · have hj : j < offs.size := by rw [← hlen]; exact (List.getElem?_eq_some_iff.mp h1).1
    obtain ⟨t', q1, q2, q3⟩ := key j hj
    cases Option.some.inj (h1.symm.trans q1)
    dsimp only at q2 q3
    refine (hk _ _ _ _ _ h3).go fun p e R s m args below meth c A ad H locs lsm cells slots Q F Wd Ev S hl kk => ?_
    refine lv_tableIn F.1 F.2.1 d (off := offs.getD j 0) (by omega) (by omega) ?_ q3.symm (kk lsm hl)
    rw [show (v.toInt - lo).toNat = j by omega]
    simp [Array.getD, hj]
  · refine (hk _ _ _ _ _ h2).go fun p e R s m args below meth c A ad H locs lsm cells slots Q F Wd Ev S hl kk => ?_
    refine lv_tableOut F.1 F.2.1 d ?_ o1 (kk lsm hl)
    by_cases c1 : v.toInt < lo
    · exact Or.inl c1
    · by_cases c2 : hi < v.toInt
      · exact Or.inr c2
      · obtain ⟨t', q1, q2, q3⟩ := key (v.toInt - lo).toNat (by omega)
        exact absurd (Int32.toInt_inj.mp (by omega)) (h1 t' (List.mem_of_getElem? q1))
theorem am_lk_off : ∀ (ps : List (Int × Int)) (d y : Int), (∃ (j : Nat) (p : Int × Int), ps[j]? = some p ∧ p.1 = y ∧ (∀ i, i < j → ∀ q, ps[i]? = some q → q.1 ≠ y) ∧ Op.lookupswitch.offset ps d y = p.2) ∨ ((∀ q ∈ ps, q.1 ≠ y) ∧ Op.lookupswitch.offset ps d y = d)
  | [], d, y => Or.inr ⟨fun q hq => (by cases hq), by simp [Op.lookupswitch.offset]⟩
  | p :: ps, d, y => by
    by_cases hp : p.1 = y
    · exact Or.inl ⟨0, p, rfl, hp, fun i hi => absurd hi (Nat.not_lt_zero i), by simp [Op.lookupswitch.offset, hp]⟩
    · rcases am_lk_off ps d y with ⟨j, q, h1, h2, h3, h4⟩ | ⟨h1, h2⟩
      · refine Or.inl ⟨j + 1, q, by simpa using h1, h2, fun i hi z hz => ?_, by simpa [Op.lookupswitch.offset, hp] using h4⟩
        cases i with
        | zero =>
          simp only [List.getElem?_cons_zero, Option.some.injEq] at hz
          subst hz; exact hp
        | succ i => exact h3 i (by omega) z (by simpa using hz)
      · refine Or.inr ⟨fun q hq => ?_, by simpa [Op.lookupswitch.offset, hp] using h2⟩
        rcases List.mem_cons.mp hq with rfl | hq
        · exact hp
        · exact h1 q hq
theorem st_lookupswitch {l : Launch} {g : am_D} {B : am_B} {ρ mi pc n a : Nat} {x : Int32} {ls : am_L} {st : List Value} {h : am_H} {r : am_Q} {k : am_K} {d0 : Int} {ps : Array (Int × Int)} (hf : am_f mi pc = some (.lookupswitch d0 ps, n, x, a)) (hk : am_PK l g B ρ mi k)
    (e : am_u1 st (fun p q => am_sw p (fun t => k t ls q h) a (am_swt mi pc)) = some r) : am_P l g B ρ mi pc ls st h r := by
  obtain ⟨d, o, hmi, -⟩ := am_okf hf
  simp only [am_okx, Bool.and_eq_true, decide_eq_true_eq] at o
  obtain ⟨⟨o1, o2⟩, o6⟩ := o
  obtain ⟨v, q, rfl, e⟩ := am_u1_t e
  have key : ∀ (j : Nat) (p : Int × Int), ps.toList[j]? = some p → ∃ t : Int32 × Nat, (am_swt mi pc)[j]? = some t ∧ t.1.toInt = p.1 ∧ (t.2 : Int) = (pc : Int) + p.2 := by
    intro j p hp
    have := congrArg (fun l : List (Int × Int) => l[j]?) o6
    simp only [List.getElem?_map, hp, Option.map_some] at this
    cases ht : (am_swt mi pc)[j]? with
    | none => rw [ht] at this; cases this
    | some t =>
      rw [ht] at this
      simp only [Option.map_some, Option.some.injEq, Prod.mk.injEq] at this
      exact ⟨t, rfl, this.1.symm, this.2.symm⟩
  have key2 : ∀ (j : Nat) (t : Int32 × Nat), (am_swt mi pc)[j]? = some t → ∃ p : Int × Int, ps.toList[j]? = some p ∧ t.1.toInt = p.1 ∧ (t.2 : Int) = (pc : Int) + p.2 := by
    intro j t ht
    have := congrArg (fun l : List (Int × Int) => l[j]?) o6
    simp only [List.getElem?_map, ht, Option.map_some] at this
    cases hp : ps.toList[j]? with
    | none => rw [hp] at this; cases this
    | some p =>
      rw [hp] at this
      simp only [Option.map_some, Option.some.injEq, Prod.mk.injEq] at this
      exact ⟨p, rfl, this.1.symm, this.2.symm⟩
  rcases am_sw_t _ e with ⟨j, t, h1, h2, h3⟩ | ⟨h1, h2⟩
  · obtain ⟨pp, q1, q2, q3⟩ := key2 j _ h1
    refine (hk _ _ _ _ _ h3).go fun p e R s m args below meth c A ad H locs lsm cells slots Q F Wd Ev S hl kk => ?_
    refine lv_lookup F.1 F.2.1 d o2 (off := pp.2) ?_ q3.symm (kk lsm hl)
    rcases am_lk_off ps.toList d0 v.toInt with ⟨i, p2, w1, w2, w3, w4⟩ | ⟨w1, w2⟩
    · have hij : i = j := by
        rcases Nat.lt_trichotomy i j with c1 | c1 | c1
        · obtain ⟨t2, z1, z2, z3⟩ := key i p2 w1
          exact absurd (Int32.toInt_inj.mp (by rw [z2, w2])) (h2 i c1 t2 z1)
        · exact c1
        · exact absurd q2.symm (w3 j c1 pp q1)
      subst hij
      cases Option.some.inj (w1.symm.trans q1)
      exact w4
    · exact absurd q2.symm (w1 pp (List.mem_of_getElem? q1))
  · refine (hk _ _ _ _ _ h2).go fun p e R s m args below meth c A ad H locs lsm cells slots Q F Wd Ev S hl kk => ?_
    refine lv_lookup F.1 F.2.1 d o2 (off := d0) ?_ o1 (kk lsm hl)
    rcases am_lk_off ps.toList d0 v.toInt with ⟨i, p2, w1, w2, w3, w4⟩ | ⟨w1, w2⟩
    · obtain ⟨t2, z1, z2, z3⟩ := key i p2 w1
      exact absurd (Int32.toInt_inj.mp (by rw [z2, w2])) (h1 t2 (List.mem_of_getElem? z1))
    · exact w2
/-- a mode: its bound counts the objects, and either nothing is known of references or nothing is made -/
def am_md (B : am_B) : Prop := (∀ h h' : am_H, h'.1 = h.1 → B.1 h' = B.1 h) ∧ (((∀ i k, B.2.1 i k = none) ∧ B.2.2 = true) ∨ ∀ h h' : am_H, B.1 h' = B.1 h)
theorem am_Ev.ad {g : am_D} {ad ad' : Nat → Nat} {A : Nat → Prop} {s : State} (E : am_Ev g ad A s) (hd : ∀ i, 1000 ≤ i → ad' i = ad i) : am_Ev g ad' A s := by
  obtain ⟨e1, e2, e3, e4, e5, e6, e7, e8, e9, e10, e11, e12, e13, e14⟩ := E
  have f1 : (fun i => ad' (1000 + i)) = fun i => ad (1000 + i) := funext fun i => hd _ (by omega)
  have f2 : (fun i => ad' (1100 + i)) = fun i => ad (1100 + i) := funext fun i => hd _ (by omega)
  refine ⟨e1, by rw [f1, f2]; exact e2, fun k hk => by rw [hd _ (by omega)]; exact e3 k hk, e4, e5, e6, e7, e8, e9, e10, e11, e12, by rw [hd _ (by omega)]; exact e13, e14⟩
theorem am_sok_map {n : Nat} {g : am_D} {ad ad' : Nat → Nat} (hd : ∀ i, (i < n ∨ 999 < i) → ad' i = ad i) : ∀ {st : List Value}, am_sok n st = true → st.map (am_tv g ad') = st.map (am_tv g ad)
  | [], _ => rfl
  | v :: l, h => by
    have hl : am_sok n l = true := by
      cases v <;> first | exact h | (unfold am_sok at h; rw [Bool.and_eq_true] at h; exact h.2)
    rw [List.map_cons, List.map_cons, am_sok_map hd hl]
    cases v with
    | ref r =>
      unfold am_sok at h
      rw [Bool.and_eq_true, Bool.or_eq_true] at h
      show Value.ref (ad' r) :: _ = Value.ref (ad r) :: _
      rw [hd r (h.1.elim (fun q => Or.inl (Nat.le_of_ble_eq_true q)) (fun q => Or.inr (Nat.le_of_ble_eq_true q)))]
    | _ => rfl
theorem am_lok_nth {n : Nat} : ∀ {ls : am_L}, am_lok n ls = true → ∀ k r, am_nth ls k = some (some (.ref r)) → r < n ∨ 999 < r
  | [], _, _, _, h => by cases h
  | v :: l, h, k, r, hk => by
    have hl : am_lok n l = true := by
      rcases v with _ | v
      · exact h
      · cases v <;> first | exact h | (unfold am_lok at h; rw [Bool.and_eq_true] at h; exact h.2)
    cases k with
    | zero =>
      cases hk
      unfold am_lok at h
      rw [Bool.and_eq_true, Bool.or_eq_true] at h
      exact h.1.elim (fun q => Or.inl (Nat.le_of_ble_eq_true q)) (fun q => Or.inr (Nat.le_of_ble_eq_true q))
    | succ k => exact am_lok_nth hl k r hk
theorem am_lr.ad {n : Nat} {g : am_D} {ad ad' : Nat → Nat} {lsm : Array Slot} {nL : Nat} {ls : am_L} (h : am_lr g ad lsm nL ls) (hd : ∀ i, (i < n ∨ 999 < i) → ad' i = ad i) (ho : am_lok n ls = true) : am_lr g ad' lsm nL ls := by
  refine ⟨h.1, h.2.1, h.2.2.1, fun k v hk => ?_⟩
  rw [h.2.2.2 k v hk]
  cases v with
  | ref r =>
    show some (Slot.val (.ref (ad r))) = some (Slot.val (.ref (ad' r)))
    rw [hd r (am_lok_nth ho k r hk)]
  | _ => rfl
theorem am_nf_all : ((List.range 100).all fun j => Nat.blt (am_nf (am_ty j).1) 128) = true := by decide +kernel
/-- the old objects, at the new addresses -/
theorem am_en_old {g : am_D} {ad ad' : Nat → Nat} {h h' : am_H} {j : Nat} (hj : j < h.1) (hm : h.1 ≤ 100) (ho : ∀ i k q, i < h.1 → am_R h i k = some q → q < h.1 ∨ 999 < q) (hd : ∀ i, i ≠ h.1 → ad' i = ad i) (hI : am_I h' j = am_I h j) (hJ : am_J h' j = am_J h j) (hR : am_R h' j = am_R h j) : am_en g ad' h' j = am_en g ad h j := by
  have h1 : am_fs ad' h' j (am_ty j).1 = am_fs ad h j (am_ty j).1 := by
    unfold am_fs
    refine List.map_congr_left fun k hk => ?_
    have hk := List.mem_range.mp hk
    have hnf : am_nf (am_ty j).1 < 128 := Nat.le_of_ble_eq_true (List.all_eq_true.mp am_nf_all j (List.mem_range.mpr (by omega)))
    unfold am_f1
    rw [am_mod128 _ _ (by omega)]
    split
    · rw [hI]
    · rw [hJ]
    · rename_i h2
      rw [hR]
      cases hq : am_R h j k with
      | none => rfl
      | some q =>
        have h5 := ho j k q hj hq
        have hne : q ≠ h.1 := by omega
        show va_rf (some (ad' q)) = va_rf (some (ad q))
        rw [hd q hne]
    · rw [hI]
  unfold am_en
  rw [hI, hJ, h1]
theorem am_new_I (h : am_H) (n : Nat) {j : Nat} (hj : j ≠ h.1) : am_I (am_new h n) j = am_I h j := by simp [am_I, am_new, am_row, hj]
theorem am_new_J (h : am_H) (n : Nat) {j : Nat} (hj : j ≠ h.1) : am_J (am_new h n) j = am_J h j := by simp [am_J, am_new, am_row, hj]
theorem am_new_R (h : am_H) (n : Nat) {j : Nat} (hj : j ≠ h.1) : am_R (am_new h n) j = am_R h j := by simp [am_R, am_new, am_row, hj]
theorem am_new_I0 (h : am_H) (n : Nat) : am_I (am_new h n) h.1 = fun _ => 0 := by simp [am_I, am_new, am_row]
theorem am_new_J0 (h : am_H) (n : Nat) : am_J (am_new h n) h.1 = fun _ => 0 := by simp [am_J, am_new, am_row]
theorem am_new_R0 (h : am_H) (n : Nat) : am_R (am_new h n) h.1 = fun _ => none := by simp [am_R, am_new, am_row]
/-- an object more -/
theorem am_P.more {l : Launch} {g : am_D} {B : am_B} {ρ mi pc pc' N : Nat} {ls : am_L} {st q : List Value} {h : am_H} {r : am_Q} (hmd : am_md B) (k : am_P l g B ρ mi pc' ls (.ref h.1 :: q) (am_new h N) r)
    (hal : am_al9 B (am_new h N) = true) (hlok : am_lok h.1 ls = true) (hsok : am_sok h.1 q = true) (hlt : h.1 < 100)
    (step : ∀ (p : Program) (e : Env) (R : Room) (s : State) (m : MethodId) (args : Array Value) (below : List Frame) (meth : Method) (c : Code) (A : Nat → Prop) (ad : Nat → Nat) (H : Heap) (locs : List Loc) (lsm : Array Slot) (cells slots : Nat) (Q : State → Prop),
      am_Fx l ρ mi p R s m args meth c A → am_Wd g B ad h A H → am_Ev g ad A s → va_S A s.heap H locs → cells + 1 ≤ R.cells → slots + N ≤ R.slots →
      (∀ (a : Nat) (e0 : va_E) H' locs', am_en g (fun i => if i = h.1 then a else ad i) (am_new h N) h.1 = e0 → va_P g.1 vwCl (am_ws g ad h ++ [(a, e0)]) H' → va_D A (am_ws g ad h ++ [(a, e0)]) → va_S A s.heap H' locs' → W p l e R s m args below meth c H' locs' (cells + 1) (slots + N) Q (F0 m pc' lsm (.ref a :: q.map (am_tv g ad)))) →
      W p l e R s m args below meth c H locs cells slots Q (F0 m pc lsm (st.map (am_tv g ad)))) : am_P l g B ρ mi pc ls st h r := by
  obtain ⟨⟨k1, k2, k3⟩, kk⟩ := k
  have n1 : (am_new h N).1 = h.1 + 1 := rfl
  have n2 : (am_new h N).2.1 = h.2.1 + 1 := rfl
  have n3 : (am_new h N).2.2.1 = h.2.2.1 + N := rfl
  refine ⟨⟨by omega, by omega, by omega⟩, fun p e R s m args below meth c A ad H locs lsm cells slots n0 ad0 tc ts Q F Wd Ev S hl hn hg hc hs h1 h2 hq => ?_⟩
  refine step p e R s m args below meth c A ad H locs lsm cells slots Q F Wd Ev S (by omega) (by omega) fun a e0 H' locs' he0 hP hD hS => ?_
  have hd : ∀ i, i ≠ h.1 → (fun i => if i = h.1 then a else ad i) i = ad i := fun i hi => if_neg hi
  have hws := am_ws_push g ad (fun i => if i = h.1 then a else ad i) h (am_new h N) n1 (fun j hj => ⟨hd j (by omega), am_en_old hj (by omega) Wd.2.2.2.1.2 hd (am_new_I h N (by omega)) (am_new_J h N (by omega)) (am_new_R h N (by omega))⟩) (q := a) (if_pos rfl) he0
  rw [hws] at hP hD
  have hB1 : B.1 (am_new h N) = (am_new h N).1 := Nat.eq_of_beq_eq_true hal
  have Wd' : am_Wd g B (fun i => if i = h.1 then a else ad i) (am_new h N) A H' := by
    refine ⟨hP, hD, hB1, ⟨fun i k q hS hi => ?_, fun i k q hi hq => ?_⟩, by omega, ?_, ?_⟩
    · rcases hmd.2 with z | z
      · rw [z.1] at hS; cases hS
      · have := z h (am_new h N)
        have := Wd.2.2.1
        omega
    · by_cases hi2 : i = h.1
      · rw [hi2, am_new_R0] at hq; cases hq
      · rw [am_new_R h N hi2] at hq
        have := Wd.2.2.2.1.2 i k q (by omega) hq
        omega
    · rw [am_new_I h N (by omega)]; exact Wd.2.2.2.2.2.1
    · rw [am_new_I h N (by omega)]; exact Wd.2.2.2.2.2.2
  have hd2 : ∀ i, (i < h.1 ∨ 999 < i) → (fun i => if i = h.1 then a else ad i) i = ad i := fun i hi => hd i (by omega)
  have := kk p e R s m args below meth c A (fun i => if i = h.1 then a else ad i) H' locs' lsm (cells + 1) (slots + N) n0 ad0 tc ts Q F Wd' (Ev.ad fun i hi => hd i (by omega)) hS (hl.ad hd2 hlok) (by omega)
    (fun i hi => by
      have hi2 : i ≠ h.1 := by omega
      rw [hd i hi2]
      exact hg i (by omega)) (by omega) (by omega) h1 h2 hq
  rw [List.map_cons, am_sok_map hd2 hsok] at this
  have ha : am_tv g (fun i => if i = h.1 then a else ad i) (.ref h.1) = .ref a := by show Value.ref (if h.1 = h.1 then a else ad h.1) = _; rw [if_pos rfl]
  rw [ha] at this
  exact this
theorem am_dv (t : FieldType) (a : Nat) (h : am_okt a (some t) = true) (ad : Nat → Nat) (h' : am_H) (id : Nat) (h1 : am_I h' id = fun _ => 0) (h2 : am_J h' id = fun _ => 0) (h3 : am_R h' id = fun _ => none) : defaultValue t = am_f1 ad h' id a := by
  unfold am_f1
  split
  · rename_i e; rw [am_okt_0 h e, h1]; rfl
  · rename_i e; rw [am_okt_1 h e, h2]; rfl
  · rename_i e
    rw [h3]
    unfold am_okt at h
    rw [e] at h
    cases t <;> first | rfl | cases h
  · rename_i e0 e1 e2
    rw [am_okt_3 h e0 e1 e2, h1]; rfl
theorem st_newarray {l : Launch} {g : am_D} {B : am_B} {ρ mi pc n a : Nat} {x : Int32} {ls : am_L} {st : List Value} {h : am_H} {r : am_Q} {k : am_K} {t : ArrayType} (hmd : am_md B) (hf : am_f mi pc = some (.newarray t, n, x, a)) (hk : am_PK l g B ρ mi k)
    (e : am_u1 st (fun v q => am_cd (am_lok h.1 ls && am_sok h.1 q) (am_na (am_al9 B) h t v fun g => k (pc + n) ls (.ref h.1 :: q) g) none) = some r) : am_P l g B ρ mi pc ls st h r := by
  obtain ⟨d, o, hmi, -⟩ := am_okf hf
  simp only [am_okx, Bool.and_eq_true] at o
  obtain ⟨⟨on, o1⟩, o2⟩ := o
  obtain rfl : n = 2 := Nat.eq_of_beq_eq_true on
  obtain ⟨v, q, hst, e9⟩ := am_u1_t e
  clear e
  subst hst
  obtain ⟨hlk, e9⟩ := am_cdT e9 rfl
  rw [Bool.and_eq_true] at hlk
  unfold am_na at e9
  obtain ⟨hb, e9⟩ := am_cdT e9 rfl
  simp only [Bool.and_eq_true, decide_eq_true_eq] at hb
  obtain ⟨⟨⟨⟨⟨b2, b3⟩, b4⟩, b5⟩, b6⟩, b7⟩ := hb
  have hty := Nat.eq_of_beq_eq_true b3
  have hlen : (am_ty h.1).2 < 10000 := Nat.le_of_ble_eq_true b6
  refine am_P.more hmd (hk _ _ _ _ _ e9) b7 hlk.1 hlk.2 (Nat.le_of_ble_eq_true b2) fun p e R s m args below meth c A ad H locs lsm cells slots Q F Wd Ev S hc1 hc2 kk => ?_
  have harr := F.2.2.2.2.1 _ (am_gw_in o1)
  have hneg : ¬ v < 0 := by rw [← b5]; exact nI_pos (by omega)
  have hcl : v.toNatClampNeg = (am_ty h.1).2 := by rw [← b5]; exact nI_clamp (by omega)
  have hfin : ∀ (ty : FieldType) (cI : ClassId) (t0 : Nat) (a0 : vp_A), Op.newarray.typeOf t = ty → (am_tys g)[t0]? = some (cI, ty) → (ty = .int ∨ ty = .boolean ∨ ty = .long) → (∀ cA : ClassId, vp_cell cA a0 = arrV cA (am_ty h.1).2 (fun _ => defaultValue ty)) → (∀ ad', am_en g ad' (am_new h (am_ty h.1).2) h.1 = .inl (cI, a0)) →
      W p l e R s m args below meth c H locs cells slots Q (F0 m pc lsm ((Value.int v :: q).map (am_tv g ad))) := by
    intro ty cI t0 a0 hty2 ht0 h3 ha hen
    refine va_newa (atype := t) F.1 F.2.1 harr hty2 Ev.1 Wd.1 Wd.2.1 S F.2.2.2.2.2.2.2.2.2.1 ha hneg hcl ?_ hc1 hc2 d fun a1 cA H1 hK hP hD hS => ?_
    · rcases h3 with rfl | rfl | rfl <;> (simp only [componentBytes]; omega)
    · have hcA : cA = cI := by
        have q1 := (hK.2 3 (cA, ty) rfl).2
        have q2 := (Ev.1.2 t0 _ ht0).2
        rcases h3 with rfl | rfl | rfl <;> exact Option.some.inj (q1.symm.trans q2)
      subst hcA
      exact kk a1 _ H1 locs (hen _) hP hD hS
  cases t with
  | int => exact hfin .int g.2.1.1 0 (_, .inl fun _ => 0) rfl rfl (Or.inl rfl) (fun cA => rfl) (fun ad' => by rw [am_en_i g ad' _ hty, am_new_I0])
  | boolean => exact hfin .boolean g.2.1.2.1 1 (_, .inl fun _ => 0) rfl rfl (Or.inr (Or.inl rfl)) (fun cA => rfl) (fun ad' => by rw [am_en_z g ad' _ hty, am_new_I0])
  | long => exact hfin .long g.2.1.2.2 2 (_, .inr (.inl fun _ => 0)) rfl rfl (Or.inr (Or.inr rfl)) (fun cA => rfl) (fun ad' => by rw [am_en_l g ad' _ hty, am_new_J0])
  | _ => exact absurd (Nat.le_of_ble_eq_true o2) (by decide)
theorem st_new {l : Launch} {g : am_D} {B : am_B} {ρ mi pc n a : Nat} {x : Int32} {ls : am_L} {st : List Value} {h : am_H} {r : am_Q} {k : am_K} {idx : Nat} (hmd : am_md B) (hf : am_f mi pc = some (.new idx, n, x, a)) (hk : am_PK l g B ρ mi k)
    (e : am_cd (Nat.blt a 16) (am_cd (am_lok h.1 ls && am_sok h.1 st) (am_no (am_al9 B) h a fun g => k (pc + n) ls (.ref h.1 :: st) g) none) (match st with
      | [] => some (.inr (a - 16), am_ex h)
      | _ => none) = some r) : am_P l g B ρ mi pc ls st h r := by
  obtain ⟨d, o, hmi, -⟩ := am_okf hf
  simp only [am_okx, Bool.and_eq_true] at o
  obtain ⟨on, o⟩ := o
  obtain rfl : n = 3 := Nat.eq_of_beq_eq_true on
  cases ha : Nat.blt a 16 with
  | true =>
    rw [ha] at e o
    have e9 : am_cd (am_lok h.1 ls && am_sok h.1 st) (am_no (am_al9 B) h a fun g => k (pc + 3) ls (.ref h.1 :: st) g) none = some r := e
    obtain ⟨hlk, e9⟩ := am_cdT e9 rfl
    rw [Bool.and_eq_true] at hlk
    unfold am_no at e9
    obtain ⟨hb, e9⟩ := am_cdT e9 rfl
    simp only [Bool.and_eq_true, decide_eq_true_eq] at hb
    obtain ⟨⟨⟨b2, b3⟩, b4⟩, b5⟩ := hb
    have hty := Nat.eq_of_beq_eq_true b3
    dsimp only [cond_true] at o
    split at o
    · rename_i C T N hcl
      simp only [Bool.and_eq_true] at o
      obtain ⟨⟨o1, o2⟩, o3⟩ := o
      obtain ⟨c1, c2, c3, c4, c5, c6, c7, c8⟩ := am_clsF hcl
      refine am_P.more hmd (hk _ _ _ _ _ e9) b5 hlk.1 hlk.2 (Nat.le_of_ble_eq_true b2) fun p e R s m args below meth c A ad H locs lsm cells slots Q F Wd Ev S hc1 hc2 kk => ?_
      rw [← c3] at kk hc2
      refine va_new F.1 F.2.1 F.2.2.2.2.1 c5 (fun k => (parseFieldDescriptor (T k).2.2.1).getD .int) c7 F.2.2.2.1 (F.2.2.2.2.1 _ (am_gw_in o1)) (F.2.2.2.2.1 _ (am_gw_in o2)) (F.2.2.2.2.1 _ (am_gw_in o3)) Ev.1 Wd.1 Wd.2.1 S F.2.2.2.2.2.2.2.2.2.1 c2 (fs := am_fs ad (am_new h N) h.1 a) (fun j hj => ?_) hc1 hc2 d fun a1 H1 hP hD hS => ?_
      · unfold vp_V
        rw [List.getD_eq_getElem?_getD, am_fs_get _ _ _ _ (by rw [← c3]; exact hj)]
        have h6 := (c6 j hj).1
        rw [c7 j hj] at h6
        exact am_dv _ _ h6 ad _ _ (am_new_I0 h N) (am_new_J0 h N) (am_new_R0 h N)
      · refine kk a1 _ H1 locs ?_ hP hD hS
        rw [am_en_obj g _ _ hty (by omega)]
        congr 2
        unfold am_fs
        refine List.map_congr_left fun k hk => ?_
        unfold am_f1
        rw [am_new_R0]
        rfl
    · cases o
  | false =>
    rw [ha] at e
    rcases st with _ | ⟨s0, st⟩
    · have e9 : some ((.inr (a - 16), am_ex h) : am_Q) = some r := e
      cases e9
      have ha2 : a = 16 + (a - 16) := by
        have : ¬ a < 16 := fun q => by
          have h9 : Nat.blt a 16 = true := Nat.ble_eq_true_of_le q
          rw [ha] at h9; cases h9
        omega
      refine ⟨⟨Nat.le_refl _, Nat.le_succ _, Nat.le_add_right _ _⟩, fun p e R s m args below meth c A ad H locs lsm cells slots n0 ad0 tc ts Q F Wd Ev S hl hn hg hc hs h1 h2 hq => ?_⟩
      have m2 : (am_ex h).2.1 = h.2.1 + 1 := rfl
      have m3 : (am_ex h).2.2.1 = h.2.2.1 + 6 := rfl
      dsimp only at hc hs
      have Wd' : am_Wd g B ad (am_ex h) A H := ⟨Wd.1, Wd.2.1, (hmd.1 h (am_ex h) rfl).trans Wd.2.2.1, Wd.2.2.2⟩
      exact hq.2.2 (a - 16) ad H locs pc lsm cells slots idx 3 x rfl hg Wd' S (by rw [← ha2]; exact hf) hl.1 (by omega) (by omega)
    · cases e
