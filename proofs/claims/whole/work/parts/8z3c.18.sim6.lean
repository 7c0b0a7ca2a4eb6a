/-- an array's place is set -/
theorem am_arrset {l : Launch} {g : am_D} {B : am_B} {ρ mi pc r0 : Nat} {h h' : am_H} {A : Nat → Prop} {ad : Nat → Nat} {H H1 : Heap} {s : State} {e2 : va_E} (Wd : am_Wd g B ad h A H) (hr1 : r0 < h.1) (hn : h'.1 = h.1) (hB : B.1 h' = B.1 h) (ho : ∀ j, j ≠ r0 → am_en g ad h' j = am_en g ad h j) (he : am_en g ad h' r0 = e2)
    (hR : am_S4 B h.1 (am_R h')) (hI : ∀ i, i ≠ r0 → am_I h' i = am_I h i)
    (hP : va_P g.1 vwCl ((am_ws g ad h).set r0 (ad r0, e2)) H1) (hD : va_D A ((am_ws g ad h).set r0 (ad r0, e2))) : am_Wd g B ad h' A H1 := by
  rw [am_ws_set g ad h h' hn ho he] at hP hD
  have h1000 : r0 < 1000 := Nat.lt_of_lt_of_le hr1 (Nat.le_trans Wd.2.2.2.2.1 (by decide))
  exact am_Wd_upd Wd (by rw [hB, hn]; exact Wd.2.2.1) hn hP hD hR (fun i hi => hI i (by omega))
theorem st_iaload {l : Launch} {g : am_D} {B : am_B} {ρ mi pc n a : Nat} {x : Int32} {ls : am_L} {st : List Value} {h : am_H} {r : am_Q} {k : am_K} (hf : am_f mi pc = some (.iaload, n, x, a)) (hk : am_PK l g B ρ mi k)
    (e : (match st with
      | .int j :: .ref r0 :: q => am_il (B.1 h) r0 j h fun v => k (pc + n) ls (.int v :: q) h
      | _ => none) = some r) : am_P l g B ρ mi pc ls st h r := by
  obtain ⟨d, o, hmi, -⟩ := am_okf hf
  obtain rfl : n = 1 := Nat.eq_of_beq_eq_true o
  obtain ⟨j, r0, q, rfl, e9⟩ : ∃ (j : Int32) (r0 : Nat) (q : List Value), st = .int j :: .ref r0 :: q ∧ am_il (B.1 h) r0 j h (fun v => k (pc + 1) ls (.int v :: q) h) = some r := by
    split at e
    · exact ⟨_, _, _, rfl, e⟩
    · cases e
  clear e
  unfold am_il at e9
  cases h2 : Nat.beq r0 2000 with
  | true =>
    rw [h2] at e9
    obtain rfl : r0 = 2000 := Nat.eq_of_beq_eq_true h2
    have e9 : (if j < 0 ∨ am_I h 2001 0 ≤ j then none else k (pc + 1) ls (.int (am_I h 2000 j.toNatClampNeg) :: q) h) = some r := e9
    split at e9
    · cases e9
    · rename_i hj
      refine (hk _ _ _ _ _ e9).go fun p e R s m args below meth c A ad H locs lsm cells slots Q F Wd Ev S hl kk => ?_
      obtain ⟨-, -, -, -, -, -, -, -, -, -, f1, f2, f3, f4⟩ := Ev
      have hI := Wd.2.2.2.2.2
      have hin : vp_in j g.2.2.2.2.1 := by
        rw [hI.2] at hj
        rcases pk_ix j f4 with q | q | ⟨i, hi, rfl⟩
        · exact absurd (Or.inl q) hj
        · exact absurd (Or.inr q) hj
        · exact vp_in_nI hi f4
      have hbl : g.2.2.2.1 < s.heap.size := by
        obtain ⟨scr, h1, -⟩ := f1
        exact (Array.getElem?_eq_some_iff.mp h1).1
      have := va_sld F.1 F.2.1 f1 hbl f2 S hin d (by rw [← hI.1]; exact kk lsm hl)
      rw [← f3] at this
      exact this
  | false =>
    rw [h2] at e9
    obtain ⟨hr1, hr2, e9⟩ := am_ret_ch (show am_ch _ _ _ _ = some r from e9)
    obtain ⟨hb, e9⟩ := am_bd_t e9
    refine (hk _ _ _ _ _ e9).go fun p e R s m args below meth c A ad H locs lsm cells slots Q F Wd Ev S hl kk => ?_
    have he := am_ws_get g ad h (id := r0) (by rw [← Wd.2.2.1]; exact hr1)
    rw [am_en_i g ad h hr2] at he
    exact va_iald F.1 F.2.1 Ev.1 Wd.1 r0 0 he rfl hb d (kk lsm hl)
theorem st_baload {l : Launch} {g : am_D} {B : am_B} {ρ mi pc n a : Nat} {x : Int32} {ls : am_L} {st : List Value} {h : am_H} {r : am_Q} {k : am_K} (hf : am_f mi pc = some (.baload, n, x, a)) (hk : am_PK l g B ρ mi k)
    (e : (match st with
      | .int j :: .ref r0 :: q => am_bl (B.1 h) r0 j h fun v => k (pc + n) ls (.int v :: q) h
      | _ => none) = some r) : am_P l g B ρ mi pc ls st h r := by
  obtain ⟨d, o, hmi, -⟩ := am_okf hf
  obtain rfl : n = 1 := Nat.eq_of_beq_eq_true o
  obtain ⟨j, r0, q, rfl, e9⟩ : ∃ (j : Int32) (r0 : Nat) (q : List Value), st = .int j :: .ref r0 :: q ∧ am_bl (B.1 h) r0 j h (fun v => k (pc + 1) ls (.int v :: q) h) = some r := by
    split at e
    · exact ⟨_, _, _, rfl, e⟩
    · cases e
  clear e
  unfold am_bl at e9
  cases h2 : (Nat.blt 1099 r0 && Nat.blt r0 (1100 + am_nstr)) with
  | true =>
    rw [h2] at e9
    rw [Bool.and_eq_true] at h2
    have b1 : 1099 < r0 := Nat.le_of_ble_eq_true h2.1
    have b2 : r0 < 1100 + am_nstr := Nat.le_of_ble_eq_true h2.2
    obtain ⟨hb, e9⟩ := am_bd_t (show am_bd _ _ _ = some r from e9)
    refine (hk _ _ _ _ _ e9).go fun p e R s m args below meth c A ad H locs lsm cells slots Q F Wd Ev S hl kk => ?_
    have hS := (Ev.2.1.1 (r0 - 1100) (by omega)).2.2.2
    obtain ⟨q1, q2⟩ := am_str_ok (r0 - 1100) (by omega)
    dsimp only at hS
    rw [show 1100 + (r0 - 1100) = r0 by omega, q1] at hS
    exact va_tb F.1 F.2.1 hS S hb (by rw [q2]; rfl) d (kk lsm hl)
  | false =>
    rw [h2] at e9
    obtain ⟨hr1, hr2, e9⟩ := am_ret_ch (show am_ch _ _ _ _ = some r from e9)
    obtain ⟨hb, e9⟩ := am_bd_t e9
    refine (hk _ _ _ _ _ e9).go fun p e R s m args below meth c A ad H locs lsm cells slots Q F Wd Ev S hl kk => ?_
    have he := am_ws_get g ad h (id := r0) (by rw [← Wd.2.2.1]; exact hr1)
    rw [am_en_z g ad h hr2] at he
    exact va_zald F.1 F.2.1 Ev.1 Wd.1 r0 1 he rfl hb d (kk lsm hl)
theorem st_laload {l : Launch} {g : am_D} {B : am_B} {ρ mi pc n a : Nat} {x : Int32} {ls : am_L} {st : List Value} {h : am_H} {r : am_Q} {k : am_K} (hf : am_f mi pc = some (.laload, n, x, a)) (hk : am_PK l g B ρ mi k)
    (e : (match st with
      | .int j :: .ref r0 :: q => am_ll (B.1 h) r0 j h fun v => k (pc + n) ls (.long v :: q) h
      | _ => none) = some r) : am_P l g B ρ mi pc ls st h r := by
  obtain ⟨d, o, hmi, -⟩ := am_okf hf
  obtain rfl : n = 1 := Nat.eq_of_beq_eq_true o
  obtain ⟨j, r0, q, rfl, e9⟩ : ∃ (j : Int32) (r0 : Nat) (q : List Value), st = .int j :: .ref r0 :: q ∧ am_ll (B.1 h) r0 j h (fun v => k (pc + 1) ls (.long v :: q) h) = some r := by
    split at e
    · exact ⟨_, _, _, rfl, e⟩
    · cases e
  clear e
  unfold am_ll at e9
  obtain ⟨hr1, hr2, e9⟩ := am_ret_ch e9
  obtain ⟨hb, e9⟩ := am_bd_t e9
  refine (hk _ _ _ _ _ e9).go fun p e R s m args below meth c A ad H locs lsm cells slots Q F Wd Ev S hl kk => ?_
  have he := am_ws_get g ad h (id := r0) (by rw [← Wd.2.2.1]; exact hr1)
  rw [am_en_l g ad h hr2] at he
  exact va_lald F.1 F.2.1 Ev.1 Wd.1 r0 2 he rfl hb d (kk lsm hl)
theorem st_iastore {l : Launch} {g : am_D} {B : am_B} {ρ mi pc n a : Nat} {x : Int32} {ls : am_L} {st : List Value} {h : am_H} {r : am_Q} {k : am_K} (hBs : ∀ h h' : am_H, h'.1 = h.1 → B.1 h' = B.1 h) (hf : am_f mi pc = some (.iastore, n, x, a)) (hk : am_PK l g B ρ mi k)
    (e : (match st with
      | .int v :: .int j :: .ref r0 :: q => am_is (B.1 h) r0 16 j v h fun g => k (pc + n) ls q g
      | _ => none) = some r) : am_P l g B ρ mi pc ls st h r := by
  obtain ⟨d, o, hmi, -⟩ := am_okf hf
  obtain rfl : n = 1 := Nat.eq_of_beq_eq_true o
  obtain ⟨v, j, r0, q, rfl, e9⟩ : ∃ (v j : Int32) (r0 : Nat) (q : List Value), st = .int v :: .int j :: .ref r0 :: q ∧ am_is (B.1 h) r0 16 j v h (fun g => k (pc + 1) ls q g) = some r := by
    split at e
    · exact ⟨_, _, _, _, rfl, e⟩
    · cases e
  clear e
  unfold am_is at e9
  obtain ⟨hr1, hr2, e9⟩ := am_ret_ch e9
  obtain ⟨hb, e9⟩ := am_bd_t e9
  refine (hk _ _ _ _ _ e9).goH rfl rfl rfl fun p e R s m args below meth c A ad H locs lsm cells slots Q F Wd Ev S hl kk => ?_
  have hr0 : r0 < h.1 := by rw [← Wd.2.2.1]; exact hr1
  have he := am_ws_get g ad h hr0
  rw [am_en_i g ad h hr2] at he
  refine va_iast F.1 F.2.1 Ev.1 Wd.1 Wd.2.1 S r0 0 he rfl hb d fun H1 locs1 hP hD hS => ?_
  refine kk H1 locs1 (am_arrset (l := l) (ρ := ρ) (mi := mi) (pc := pc) (s := s) Wd hr0 rfl (hBs _ _ rfl) (fun i hi => am_en_sI g ad h r0 _ v hi) ?_ Wd.2.2.2.1 (fun i hi => am_sI_I' h r0 _ v hi) hP hD) hS
  rw [am_en_i g ad _ hr2, am_sI_I]
theorem st_bastore {l : Launch} {g : am_D} {B : am_B} {ρ mi pc n a : Nat} {x : Int32} {ls : am_L} {st : List Value} {h : am_H} {r : am_Q} {k : am_K} (hBs : ∀ h h' : am_H, h'.1 = h.1 → B.1 h' = B.1 h) (hf : am_f mi pc = some (.bastore, n, x, a)) (hk : am_PK l g B ρ mi k)
    (e : (match st with
      | .int v :: .int j :: .ref r0 :: q => am_is (B.1 h) r0 17 j (v &&& 1) h fun g => k (pc + n) ls q g
      | _ => none) = some r) : am_P l g B ρ mi pc ls st h r := by
  obtain ⟨d, o, hmi, -⟩ := am_okf hf
  obtain rfl : n = 1 := Nat.eq_of_beq_eq_true o
  obtain ⟨v, j, r0, q, rfl, e9⟩ : ∃ (v j : Int32) (r0 : Nat) (q : List Value), st = .int v :: .int j :: .ref r0 :: q ∧ am_is (B.1 h) r0 17 j (v &&& 1) h (fun g => k (pc + 1) ls q g) = some r := by
    split at e
    · exact ⟨_, _, _, _, rfl, e⟩
    · cases e
  clear e
  unfold am_is at e9
  obtain ⟨hr1, hr2, e9⟩ := am_ret_ch e9
  obtain ⟨hb, e9⟩ := am_bd_t e9
  refine (hk _ _ _ _ _ e9).goH rfl rfl rfl fun p e R s m args below meth c A ad H locs lsm cells slots Q F Wd Ev S hl kk => ?_
  have hr0 : r0 < h.1 := by rw [← Wd.2.2.1]; exact hr1
  have he := am_ws_get g ad h hr0
  rw [am_en_z g ad h hr2] at he
  refine va_zast F.1 F.2.1 Ev.1 Wd.1 Wd.2.1 S r0 1 he rfl hb d fun H1 locs1 hP hD hS => ?_
  refine kk H1 locs1 (am_arrset (l := l) (ρ := ρ) (mi := mi) (pc := pc) (s := s) Wd hr0 rfl (hBs _ _ rfl) (fun i hi => am_en_sI g ad h r0 _ _ hi) ?_ Wd.2.2.2.1 (fun i hi => am_sI_I' h r0 _ _ hi) hP hD) hS
  rw [am_en_z g ad _ hr2, am_sI_I]; rfl
theorem st_lastore {l : Launch} {g : am_D} {B : am_B} {ρ mi pc n a : Nat} {x : Int32} {ls : am_L} {st : List Value} {h : am_H} {r : am_Q} {k : am_K} (hBs : ∀ h h' : am_H, h'.1 = h.1 → B.1 h' = B.1 h) (hf : am_f mi pc = some (.lastore, n, x, a)) (hk : am_PK l g B ρ mi k)
    (e : (match st with
      | .long v :: .int j :: .ref r0 :: q => am_ls (B.1 h) r0 j v h fun g => k (pc + n) ls q g
      | _ => none) = some r) : am_P l g B ρ mi pc ls st h r := by
  obtain ⟨d, o, hmi, -⟩ := am_okf hf
  obtain rfl : n = 1 := Nat.eq_of_beq_eq_true o
  obtain ⟨v, j, r0, q, rfl, e9⟩ : ∃ (v : Int64) (j : Int32) (r0 : Nat) (q : List Value), st = .long v :: .int j :: .ref r0 :: q ∧ am_ls (B.1 h) r0 j v h (fun g => k (pc + 1) ls q g) = some r := by
    split at e
    · exact ⟨_, _, _, _, rfl, e⟩
    · cases e
  clear e
  unfold am_ls at e9
  obtain ⟨hr1, hr2, e9⟩ := am_ret_ch e9
  obtain ⟨hb, e9⟩ := am_bd_t e9
  refine (hk _ _ _ _ _ e9).goH rfl rfl rfl fun p e R s m args below meth c A ad H locs lsm cells slots Q F Wd Ev S hl kk => ?_
  have hr0 : r0 < h.1 := by rw [← Wd.2.2.1]; exact hr1
  have he := am_ws_get g ad h hr0
  rw [am_en_l g ad h hr2] at he
  refine va_last F.1 F.2.1 Ev.1 Wd.1 Wd.2.1 S r0 2 he rfl hb d fun H1 locs1 hP hD hS => ?_
  refine kk H1 locs1 (am_arrset (l := l) (ρ := ρ) (mi := mi) (pc := pc) (s := s) Wd hr0 rfl (hBs _ _ rfl) (fun i hi => am_en_sJ g ad h r0 _ _ hi) ?_ Wd.2.2.2.1 (fun i hi => rfl) hP hD) hS
  rw [am_en_l g ad _ hr2, am_sJ_J]
theorem st_arraylength {l : Launch} {g : am_D} {B : am_B} {ρ mi pc n a : Nat} {x : Int32} {ls : am_L} {st : List Value} {h : am_H} {r : am_Q} {k : am_K} (hf : am_f mi pc = some (.arraylength, n, x, a)) (hk : am_PK l g B ρ mi k)
    (e : am_r1 st (fun r0 q => am_al (B.1 h) r0 h fun v => k (pc + n) ls (.int v :: q) h) = some r) : am_P l g B ρ mi pc ls st h r := by
  obtain ⟨d, o, hmi, -⟩ := am_okf hf
  obtain rfl : n = 1 := Nat.eq_of_beq_eq_true o
  obtain ⟨r0, q, hst, e9⟩ := am_r1_t e
  clear e
  subst hst
  have e := e9
  clear e9
  unfold am_al at e
  cases h2 : Nat.beq r0 2000 with
  | true =>
    rw [h2] at e
    obtain rfl : r0 = 2000 := Nat.eq_of_beq_eq_true h2
    have e : k (pc + 1) ls (.int (am_I h 2001 0) :: q) h = some r := e
    refine (hk _ _ _ _ _ e).go fun p e R s m args below meth c A ad H locs lsm cells slots Q F Wd Ev S hl kk => ?_
    obtain ⟨-, -, -, -, -, -, -, -, -, -, f1, f2, f3, f4⟩ := Ev
    have hI := Wd.2.2.2.2.2
    have hbl : g.2.2.2.1 < s.heap.size := by
      obtain ⟨scr, h1, -⟩ := f1
      exact (Array.getElem?_eq_some_iff.mp h1).1
    have k1 := kk lsm hl
    rw [hI.2] at k1
    have := va_slen F.1 F.2.1 f1 hbl f2 S d k1
    rw [← f3] at this
    exact this
  | false =>
    rw [h2] at e
    cases h3 : (Nat.blt 1099 r0 && Nat.blt r0 (1100 + am_nstr)) with
    | true =>
      rw [h3] at e
      rw [Bool.and_eq_true] at h3
      have b1 : 1099 < r0 := Nat.le_of_ble_eq_true h3.1
      have b2 : r0 < 1100 + am_nstr := Nat.le_of_ble_eq_true h3.2
      have e : k (pc + 1) ls (.int (Int32.ofNat (am_str (r0 - 1100)).length) :: q) h = some r := e
      refine (hk _ _ _ _ _ e).go fun p e R s m args below meth c A ad H locs lsm cells slots Q F Wd Ev S hl kk => ?_
      have hS := (Ev.2.1.1 (r0 - 1100) (by omega)).2.2.2
      obtain ⟨q1, q2⟩ := am_str_ok (r0 - 1100) (by omega)
      dsimp only at hS
      rw [show 1100 + (r0 - 1100) = r0 by omega, q1] at hS
      exact va_tlen F.1 F.2.1 hS S rfl d (kk lsm hl)
    | false =>
      rw [h3] at e
      obtain ⟨hr, e⟩ := am_cdT (show am_cd _ _ none = some r from e) rfl
      rw [Bool.and_eq_true] at hr
      have hr1 : r0 < B.1 h := Nat.le_of_ble_eq_true hr.1
      have hr2 : 15 < (am_ty r0).1 := Nat.le_of_ble_eq_true hr.2
      refine (hk _ _ _ _ _ e).go fun p e R s m args below meth c A ad H locs lsm cells slots Q F Wd Ev S hl kk => ?_
      have hr0 : r0 < h.1 := by rw [← Wd.2.2.1]; exact hr1
      have he := am_ws_get g ad h hr0
      by_cases t16 : (am_ty r0).1 = 16
      · rw [am_en_i g ad h t16] at he
        exact va_alen F.1 F.2.1 Ev.1 Wd.1 r0 0 he rfl rfl d (kk lsm hl)
      · by_cases t17 : (am_ty r0).1 = 17
        · rw [am_en_z g ad h t17] at he
          exact va_alen F.1 F.2.1 Ev.1 Wd.1 r0 1 he rfl rfl d (kk lsm hl)
        · by_cases t18 : (am_ty r0).1 = 18
          · rw [am_en_l g ad h t18] at he
            exact va_alen F.1 F.2.1 Ev.1 Wd.1 r0 2 he rfl rfl d (kk lsm hl)
          · have he2 : am_en g ad h r0 = .inr ((am_ty r0).1, am_fs ad h r0 (am_ty r0).1) := by
              unfold am_en; rw [if_neg t16, if_neg t17, if_neg t18]
            rw [he2] at he
            obtain ⟨q, h1, -⟩ := Wd.1 r0 _ he
            have : (am_ty r0).1 < vwCl.length := (List.getElem?_eq_some_iff.mp h1).1
            have h10 : vwCl.length = 10 := rfl
            omega
theorem st_getstatic {l : Launch} {g : am_D} {B : am_B} {ρ mi pc n a : Nat} {x : Int32} {ls : am_L} {st : List Value} {h : am_H} {r : am_Q} {k : am_K} {idx : Nat} (hf : am_f mi pc = some (.getstatic idx, n, x, a)) (hk : am_PK l g B ρ mi k)
    (e : am_cd (Nat.beq a 1) (k (pc + n) ls (.int 1 :: st) h) (k (pc + n) ls (.retAddr 0 :: st) h) = some r) : am_P l g B ρ mi pc ls st h r := by
  obtain ⟨d, o, hmi, -⟩ := am_okf hf
  simp only [am_okx, Bool.and_eq_true] at o
  obtain ⟨on, o⟩ := o
  obtain rfl : n = 3 := Nat.eq_of_beq_eq_true on
  cases ha : Nat.beq a 1 with
  | true =>
    rw [ha] at e o
    refine (hk _ _ _ _ _ e).go fun p e R s m args below meth c A ad H locs lsm cells slots Q F Wd Ev S hl kk => ?_
    exact va_gets F.1 F.2.1 Ev.2.2.2.1 S F.2.2.2.1 (F.2.2.2.2.1 _ (am_gw_in o)) (fun _ z => z) d (kk lsm hl)
  | false =>
    rw [ha] at e o
    refine (hk _ _ _ _ _ e).go fun p e R s m args below meth c A ad H locs lsm cells slots Q F Wd Ev S hl kk => ?_
    exact va_gets F.1 F.2.1 Ev.2.2.2.2.1 S F.2.2.2.1 (F.2.2.2.2.1 _ (am_gw_in o)) (fun _ z => z) d (kk lsm hl)
/-- the ends -/
theorem am_P.ret {l : Launch} {g : am_D} {B : am_B} {ρ mi pc : Nat} {ls : am_L} {st : List Value} {h : am_H} {r : am_Q} {v : Option Value} (e : r = (.inl v, h)) (hv : st = v.toList) (ht : am_Rt mi pc v) : am_P l g B ρ mi pc ls st h r := by
  subst e
  refine ⟨am_Le.rf _, fun p e R s m args below meth c A ad H locs lsm cells slots n0 ad0 tc ts Q F Wd Ev S hl hn hg hc hs h1 h2 hq => ?_⟩
  have hc' : cells = tc := by have := hc; dsimp only at this; omega
  have hs' : slots = ts := by have := hs; dsimp only at this; omega
  subst hc'; subst hs'; subst hv
  have := hq.1 v ad H locs pc lsm rfl hg Wd S ht
  cases v <;> exact this
theorem st_ireturn {l : Launch} {g : am_D} {B : am_B} {ρ mi pc n a : Nat} {x : Int32} {ls : am_L} {st : List Value} {h : am_H} {r : am_Q} (hf : am_f mi pc = some (.ireturn, n, x, a))
    (e : (match st with
      | [.int v] => am_rT (am_rt mi) v (some ((.inl (some (.int v)), h) : am_Q))
      | _ => none) = some r) : am_P l g B ρ mi pc ls st h r := by
  obtain ⟨d, o, hmi, -⟩ := am_okf hf
  obtain rfl : n = 1 := Nat.eq_of_beq_eq_true o
  split at e
  · rename_i v
    unfold am_rT at e
    split at e
    · rename_i ht
      exact am_P.ret (Option.some.inj e).symm rfl ⟨d, _, ht, rfl⟩
    · rename_i ht
      split at e
      · rename_i hx
        exact am_P.ret (Option.some.inj e).symm rfl ⟨d, _, ht, by show Value.int _ = _; rw [hx]⟩
      · cases e
    · rename_i ht
      split at e
      · rename_i hx
        exact am_P.ret (Option.some.inj e).symm rfl ⟨d, _, ht, by show Value.int _ = _; rw [hx]⟩
      · cases e
    · rename_i ht
      split at e
      · rename_i hx
        exact am_P.ret (Option.some.inj e).symm rfl ⟨d, _, ht, by show Value.int _ = _; rw [hx]⟩
      · cases e
    · cases e
  · cases e
theorem st_lreturn {l : Launch} {g : am_D} {B : am_B} {ρ mi pc n a : Nat} {x : Int32} {ls : am_L} {st : List Value} {h : am_H} {r : am_Q} (hf : am_f mi pc = some (.lreturn, n, x, a)) 
    (e : (match st with
      | [.long v] => am_cd (decide (am_rt mi = some .long)) (some ((.inl (some (.long v)), h) : am_Q)) none
      | _ => none) = some r) : am_P l g B ρ mi pc ls st h r := by
  obtain ⟨d, o, hmi, -⟩ := am_okf hf
  obtain rfl : n = 1 := Nat.eq_of_beq_eq_true o
  split at e
  · rename_i v
    obtain ⟨hr, e⟩ := am_cdT e rfl
    exact am_P.ret (Option.some.inj e).symm rfl ⟨d, of_decide_eq_true hr⟩
  · cases e
theorem st_return_ {l : Launch} {g : am_D} {B : am_B} {ρ mi pc n a : Nat} {x : Int32} {ls : am_L} {st : List Value} {h : am_H} {r : am_Q} (hf : am_f mi pc = some (.return_, n, x, a)) 
    (e : (match st with
      | [] => am_cd (decide (am_rt mi = none)) (some ((.inl none, h) : am_Q)) none
      | _ => none) = some r) : am_P l g B ρ mi pc ls st h r := by
  obtain ⟨d, o, hmi, -⟩ := am_okf hf
  obtain rfl : n = 1 := Nat.eq_of_beq_eq_true o
  split at e
  · obtain ⟨hr, e⟩ := am_cdT e rfl
    exact am_P.ret (Option.some.inj e).symm rfl ⟨d, of_decide_eq_true hr⟩
  · cases e
/-- switches -/
theorem am_sw_t {α : Type} {x : Int32} {f : Nat → Option α} {d : Nat} {z : α} : ∀ (l : List (Int32 × Nat)), am_sw x f d l = some z → (∃ (j : Nat) (t : Nat), l[j]? = some (x, t) ∧ (∀ i, i < j → ∀ q, l[i]? = some q → q.1 ≠ x) ∧ f t = some z) ∨ ((∀ q ∈ l, q.1 ≠ x) ∧ f d = some z)
  | [], h => Or.inr ⟨fun q hq => (by cases hq), h⟩
  | (v, t) :: l, h => by
    simp only [am_sw] at h
    split at h
    · rename_i e
      subst e
      exact Or.inl ⟨0, t, rfl, fun i hi => absurd hi (Nat.not_lt_zero i), h⟩
    · rename_i e
      rcases am_sw_t l h with ⟨j, t2, h1, h2, h3⟩ | ⟨h1, h2⟩
      · refine Or.inl ⟨j + 1, t2, by simpa using h1, fun i hi q hq => ?_, h3⟩
        cases i with
        | zero =>
          simp only [List.getElem?_cons_zero, Option.some.injEq] at hq
          subst hq
          exact fun z => e z.symm
        | succ i => exact h2 i (by omega) q (by simpa using hq)
      · exact Or.inr ⟨fun q hq => by
          rcases List.mem_cons.mp hq with rfl | hq
          · exact fun z => e z.symm
          · exact h1 q hq, h2⟩
