theorem am_okf {mi pc n a : Nat} {i : Instr} {x : Int32} (h : am_f mi pc = some (i, n, x, a)) : decode (am_b mi) pc = .ok (i, n) ∧ am_okx mi pc i n x a = true ∧ mi < am_nm ∧ pc < am_len mi := by
  have h0 : mi < am_nm ∧ pc < am_len mi := by
    unfold am_f at h
    cases hb : (Nat.blt mi am_nm && Nat.blt pc (am_len mi)) with
    | false => rw [hb] at h; cases h
    | true =>
      rw [Bool.and_eq_true] at hb
      exact ⟨Nat.le_of_ble_eq_true hb.1, Nat.le_of_ble_eq_true hb.2⟩
  have h1 := am_ok_all mi pc h0.1 h0.2
  unfold am_ok at h1
  rw [h] at h1
  dsimp only at h1
  rw [Bool.and_eq_true] at h1
  refine ⟨?_, h1.2, h0⟩
  have h2 := h1.1
  split at h2
  · rename_i j m hd
    rw [Bool.and_eq_true] at h2
    rw [hd, am_ieq_ok h2.1, Nat.eq_of_beq_eq_true h2.2]
  · cases h2
theorem am_cdT {α : Type} {c : Bool} {x y : Option α} {z : α} (h : am_cd c x y = some z) (hy : y = none) : c = true ∧ x = some z := by
  cases c
  · rw [hy] at h; cases h
  · exact ⟨rfl, h⟩
theorem st_iconst {l : Launch} {g : am_D} {B : am_B} {ρ mi pc n a : Nat} {x : Int32} {ls : am_L} {st : List Value} {h : am_H} {r : am_Q} {k : am_K} {v : Int} (hf : am_f mi pc = some (.iconst v, n, x, a)) (hk : am_PK l g B ρ mi k) (e : (k (pc + n) ls (.int x :: st) h) = some r) : am_P l g B ρ mi pc ls st h r := by
  obtain ⟨d, o, hmi, -⟩ := am_okf hf
  simp only [am_okx, Bool.and_eq_true, decide_eq_true_eq] at o
  obtain ⟨on, o⟩ := o
  obtain rfl : n = 1 := Nat.eq_of_beq_eq_true on
  refine (hk _ _ _ _ _ e).go fun p e R s m args below meth c A ad H locs lsm cells slots Q F Wd Ev S hl kk => ?_
  exact lv_iconst F.1 F.2.1 d o (kk lsm hl)
theorem st_bipush {l : Launch} {g : am_D} {B : am_B} {ρ mi pc n a : Nat} {x : Int32} {ls : am_L} {st : List Value} {h : am_H} {r : am_Q} {k : am_K} {v : Int} (hf : am_f mi pc = some (.bipush v, n, x, a)) (hk : am_PK l g B ρ mi k) (e : (k (pc + n) ls (.int x :: st) h) = some r) : am_P l g B ρ mi pc ls st h r := by
  obtain ⟨d, o, hmi, -⟩ := am_okf hf
  simp only [am_okx, Bool.and_eq_true, decide_eq_true_eq] at o
  obtain ⟨on, o⟩ := o
  obtain rfl : n = 2 := Nat.eq_of_beq_eq_true on
  refine (hk _ _ _ _ _ e).go fun p e R s m args below meth c A ad H locs lsm cells slots Q F Wd Ev S hl kk => ?_
  exact lv_bipush F.1 F.2.1 d o (kk lsm hl)
theorem st_sipush {l : Launch} {g : am_D} {B : am_B} {ρ mi pc n a : Nat} {x : Int32} {ls : am_L} {st : List Value} {h : am_H} {r : am_Q} {k : am_K} {v : Int} (hf : am_f mi pc = some (.sipush v, n, x, a)) (hk : am_PK l g B ρ mi k) (e : (k (pc + n) ls (.int x :: st) h) = some r) : am_P l g B ρ mi pc ls st h r := by
  obtain ⟨d, o, hmi, -⟩ := am_okf hf
  simp only [am_okx, Bool.and_eq_true, decide_eq_true_eq] at o
  obtain ⟨on, o⟩ := o
  obtain rfl : n = 3 := Nat.eq_of_beq_eq_true on
  refine (hk _ _ _ _ _ e).go fun p e R s m args below meth c A ad H locs lsm cells slots Q F Wd Ev S hl kk => ?_
  exact lv_sipush F.1 F.2.1 d o (kk lsm hl)
theorem st_lconst {l : Launch} {g : am_D} {B : am_B} {ρ mi pc n a : Nat} {x : Int32} {ls : am_L} {st : List Value} {h : am_H} {r : am_Q} {k : am_K} {v : Fin 2} (hf : am_f mi pc = some (.lconst v, n, x, a)) (hk : am_PK l g B ρ mi k) (e : (k (pc + n) ls (.long (Int64.ofNat a) :: st) h) = some r) : am_P l g B ρ mi pc ls st h r := by
  obtain ⟨d, o, hmi, -⟩ := am_okf hf
  simp only [am_okx, Bool.and_eq_true, decide_eq_true_eq] at o
  obtain ⟨on, o⟩ := o
  obtain rfl : n = 1 := Nat.eq_of_beq_eq_true on
  refine (hk _ _ _ _ _ e).go fun p e R s m args below meth c A ad H locs lsm cells slots Q F Wd Ev S hl kk => ?_
  exact lv_lconst F.1 F.2.1 d (by rw [Nat.eq_of_beq_eq_true o]) (kk lsm hl)
theorem st_ldc {l : Launch} {g : am_D} {B : am_B} {ρ mi pc n a : Nat} {x : Int32} {ls : am_L} {st : List Value} {h : am_H} {r : am_Q} {k : am_K} {v : Nat} (hf : am_f mi pc = some (.ldc v, n, x, a)) (hk : am_PK l g B ρ mi k) (e : (am_cd (Nat.beq a 0) (k (pc + n) ls (.int x :: st) h) (k (pc + n) ls (.ref a :: st) h)) = some r) : am_P l g B ρ mi pc ls st h r := by
  obtain ⟨d, o, hmi, -⟩ := am_okf hf
  simp only [am_okx, Bool.and_eq_true] at o
  obtain ⟨on, o⟩ := o
  obtain rfl : n = 2 := Nat.eq_of_beq_eq_true on
  cases ha : Nat.beq a 0 with
  | true =>
    rw [ha] at e o
    refine (hk _ _ _ _ _ e).go fun p e R s m args below meth c A ad H locs lsm cells slots Q F Wd Ev S hl kk => ?_
    exact lv_ldc F.1 F.2.1 F.2.2.2.1 (F.2.2.2.2.1 _ (am_gw_in o)) d (kk lsm hl)
  | false =>
    rw [ha] at e o
    simp only [cond_false, Bool.and_eq_true, decide_eq_true_eq] at o
    obtain ⟨⟨⟨o1, o2⟩, o3⟩, o4⟩ := o
    have b1 : 999 < a := Nat.le_of_ble_eq_true o1
    have b2 : a < 1000 + am_nstr := Nat.le_of_ble_eq_true o2
    refine (hk _ _ _ _ _ e).go fun p e R s m args below meth c A ad H locs lsm cells slots Q F Wd Ev S hl kk => ?_
    have hR := Ev.2.2.1 (a - 1000) (by omega)
    rw [o3, o4, show 1000 + (a - 1000) = a by omega] at hR
    refine va_ldcS F.1 F.2.1 F.2.2.2.1 hR d ?_
    exact kk lsm hl
theorem st_ldc_w {l : Launch} {g : am_D} {B : am_B} {ρ mi pc n a : Nat} {x : Int32} {ls : am_L} {st : List Value} {h : am_H} {r : am_Q} {k : am_K} {v : Nat} (hf : am_f mi pc = some (.ldc_w v, n, x, a)) (hk : am_PK l g B ρ mi k) (e : (k (pc + n) ls (.int x :: st) h) = some r) : am_P l g B ρ mi pc ls st h r := by
  obtain ⟨d, o, hmi, -⟩ := am_okf hf
  simp only [am_okx, Bool.and_eq_true] at o
  obtain ⟨on, o⟩ := o
  obtain rfl : n = 3 := Nat.eq_of_beq_eq_true on
  refine (hk _ _ _ _ _ e).go fun p e R s m args below meth c A ad H locs lsm cells slots Q F Wd Ev S hl kk => ?_
  exact lv_ldcw F.1 F.2.1 F.2.2.2.1 (F.2.2.2.2.1 _ (am_gw_in o)) d (kk lsm hl)
theorem st_ldc2_w {l : Launch} {g : am_D} {B : am_B} {ρ mi pc n a : Nat} {x : Int32} {ls : am_L} {st : List Value} {h : am_H} {r : am_Q} {k : am_K} {v : Nat} (hf : am_f mi pc = some (.ldc2_w v, n, x, a)) (hk : am_PK l g B ρ mi k) (e : (k (pc + n) ls (.long (Int64.ofNat a) :: st) h) = some r) : am_P l g B ρ mi pc ls st h r := by
  obtain ⟨d, o, hmi, -⟩ := am_okf hf
  simp only [am_okx, Bool.and_eq_true] at o
  obtain ⟨on, o⟩ := o
  obtain rfl : n = 3 := Nat.eq_of_beq_eq_true on
  refine (hk _ _ _ _ _ e).go fun p e R s m args below meth c A ad H locs lsm cells slots Q F Wd Ev S hl kk => ?_
  exact lv_ldc2 F.1 F.2.1 F.2.2.2.1 (F.2.2.2.2.1 _ (am_gw_in o)) d (kk lsm hl)
theorem st_iload {l : Launch} {g : am_D} {B : am_B} {ρ mi pc n a : Nat} {x : Int32} {ls : am_L} {st : List Value} {h : am_H} {r : am_Q} {k : am_K} {j : Nat} (hf : am_f mi pc = some (.iload j, n, x, a)) (hk : am_PK l g B ρ mi k) (e : (am_ldi ls j fun v => k (pc + n) ls (.int v :: st) h) = some r) : am_P l g B ρ mi pc ls st h r := by
  obtain ⟨d, o, hmi, -⟩ := am_okf hf
  obtain rfl : n = 2 := Nat.eq_of_beq_eq_true o
  unfold am_ldi at e
  split at e
  · rename_i v hv
    refine (hk _ _ _ _ _ e).go fun p e R s m args below meth c A ad H locs lsm cells slots Q F Wd Ev S hl kk => ?_
    exact lv_iload F.1 F.2.1 d (hl.2.2.2 _ _ hv) (kk lsm hl)
  · cases e
theorem st_iload_n {l : Launch} {g : am_D} {B : am_B} {ρ mi pc n a : Nat} {x : Int32} {ls : am_L} {st : List Value} {h : am_H} {r : am_Q} {k : am_K} {j : Fin 4} (hf : am_f mi pc = some (.iload_n j, n, x, a)) (hk : am_PK l g B ρ mi k) (e : (am_ldi ls j.val fun v => k (pc + n) ls (.int v :: st) h) = some r) : am_P l g B ρ mi pc ls st h r := by
  obtain ⟨d, o, hmi, -⟩ := am_okf hf
  obtain rfl : n = 1 := Nat.eq_of_beq_eq_true o
  unfold am_ldi at e
  split at e
  · rename_i v hv
    refine (hk _ _ _ _ _ e).go fun p e R s m args below meth c A ad H locs lsm cells slots Q F Wd Ev S hl kk => ?_
    exact lv_iload_n F.1 F.2.1 d rfl (hl.2.2.2 _ _ hv) (kk lsm hl)
  · cases e
theorem st_lload {l : Launch} {g : am_D} {B : am_B} {ρ mi pc n a : Nat} {x : Int32} {ls : am_L} {st : List Value} {h : am_H} {r : am_Q} {k : am_K} {j : Nat} (hf : am_f mi pc = some (.lload j, n, x, a)) (hk : am_PK l g B ρ mi k) (e : (am_ldl ls j fun v => k (pc + n) ls (.long v :: st) h) = some r) : am_P l g B ρ mi pc ls st h r := by
  obtain ⟨d, o, hmi, -⟩ := am_okf hf
  obtain rfl : n = 2 := Nat.eq_of_beq_eq_true o
  unfold am_ldl at e
  split at e
  · rename_i v hv
    refine (hk _ _ _ _ _ e).go fun p e R s m args below meth c A ad H locs lsm cells slots Q F Wd Ev S hl kk => ?_
    exact lv_lload F.1 F.2.1 d (hl.2.2.2 _ _ hv) (kk lsm hl)
  · cases e
theorem st_lload_n {l : Launch} {g : am_D} {B : am_B} {ρ mi pc n a : Nat} {x : Int32} {ls : am_L} {st : List Value} {h : am_H} {r : am_Q} {k : am_K} {j : Fin 4} (hf : am_f mi pc = some (.lload_n j, n, x, a)) (hk : am_PK l g B ρ mi k) (e : (am_ldl ls j.val fun v => k (pc + n) ls (.long v :: st) h) = some r) : am_P l g B ρ mi pc ls st h r := by
  obtain ⟨d, o, hmi, -⟩ := am_okf hf
  obtain rfl : n = 1 := Nat.eq_of_beq_eq_true o
  unfold am_ldl at e
  split at e
  · rename_i v hv
    refine (hk _ _ _ _ _ e).go fun p e R s m args below meth c A ad H locs lsm cells slots Q F Wd Ev S hl kk => ?_
    exact lv_lload_n F.1 F.2.1 d rfl (hl.2.2.2 _ _ hv) (kk lsm hl)
  · cases e
theorem st_aload {l : Launch} {g : am_D} {B : am_B} {ρ mi pc n a : Nat} {x : Int32} {ls : am_L} {st : List Value} {h : am_H} {r : am_Q} {k : am_K} {j : Nat} (hf : am_f mi pc = some (.aload j, n, x, a)) (hk : am_PK l g B ρ mi k) (e : (am_lda ls j fun v => k (pc + n) ls (.ref v :: st) h) = some r) : am_P l g B ρ mi pc ls st h r := by
  obtain ⟨d, o, hmi, -⟩ := am_okf hf
  obtain rfl : n = 2 := Nat.eq_of_beq_eq_true o
  unfold am_lda at e
  split at e
  · rename_i v hv
    refine (hk _ _ _ _ _ e).go fun p e R s m args below meth c A ad H locs lsm cells slots Q F Wd Ev S hl kk => ?_
    exact lv_aload F.1 F.2.1 d (hl.2.2.2 _ _ hv) (kk lsm hl)
  · cases e
theorem st_aload_n {l : Launch} {g : am_D} {B : am_B} {ρ mi pc n a : Nat} {x : Int32} {ls : am_L} {st : List Value} {h : am_H} {r : am_Q} {k : am_K} {j : Fin 4} (hf : am_f mi pc = some (.aload_n j, n, x, a)) (hk : am_PK l g B ρ mi k) (e : (am_lda ls j.val fun v => k (pc + n) ls (.ref v :: st) h) = some r) : am_P l g B ρ mi pc ls st h r := by
  obtain ⟨d, o, hmi, -⟩ := am_okf hf
  obtain rfl : n = 1 := Nat.eq_of_beq_eq_true o
  unfold am_lda at e
  split at e
  · rename_i v hv
    refine (hk _ _ _ _ _ e).go fun p e R s m args below meth c A ad H locs lsm cells slots Q F Wd Ev S hl kk => ?_
    exact lv_aload_n F.1 F.2.1 d rfl (hl.2.2.2 _ _ hv) (kk lsm hl)
  · cases e
theorem st_istore {l : Launch} {g : am_D} {B : am_B} {ρ mi pc n a : Nat} {x : Int32} {ls : am_L} {st : List Value} {h : am_H} {r : am_Q} {k : am_K} {j : Nat} (hf : am_f mi pc = some (.istore j, n, x, a)) (hk : am_PK l g B ρ mi k) (e : (am_u1 st fun v t => am_cd (Nat.blt j ls.length) (k (pc + n) (am_p1 ls j (.int v)) t h) none) = some r) : am_P l g B ρ mi pc ls st h r := by
  obtain ⟨d, o, hmi, -⟩ := am_okf hf
  obtain rfl : n = 2 := Nat.eq_of_beq_eq_true o
  unfold am_u1 at e
  split at e
  · rename_i v t
    obtain ⟨hb, e⟩ := am_cdT e rfl
    have hb : j < ls.length := Nat.le_of_ble_eq_true hb
    refine (hk _ _ _ _ _ e).go fun p e R s m args below meth c A ad H locs lsm cells slots Q F Wd Ev S hl kk => ?_
    exact lv_istore F.1 F.2.1 d hl.has (Nat.lt_of_lt_of_le hb hl.2.2.1) rfl (fun ls' hl' => kk ls' (am_lr.p1 Ev.2.2.2.2.2.1 hl.2.2.1 hb hl'))
  · cases e
theorem st_istore_n {l : Launch} {g : am_D} {B : am_B} {ρ mi pc n a : Nat} {x : Int32} {ls : am_L} {st : List Value} {h : am_H} {r : am_Q} {k : am_K} {j : Fin 4} (hf : am_f mi pc = some (.istore_n j, n, x, a)) (hk : am_PK l g B ρ mi k) (e : (am_u1 st fun v t => am_cd (Nat.blt j.val ls.length) (k (pc + n) (am_p1 ls j.val (.int v)) t h) none) = some r) : am_P l g B ρ mi pc ls st h r := by
  obtain ⟨d, o, hmi, -⟩ := am_okf hf
  obtain rfl : n = 1 := Nat.eq_of_beq_eq_true o
  unfold am_u1 at e
  split at e
  · rename_i v t
    obtain ⟨hb, e⟩ := am_cdT e rfl
    have hb : j.val < ls.length := Nat.le_of_ble_eq_true hb
    refine (hk _ _ _ _ _ e).go fun p e R s m args below meth c A ad H locs lsm cells slots Q F Wd Ev S hl kk => ?_
    exact lv_istore_n F.1 F.2.1 d rfl hl.has (Nat.lt_of_lt_of_le hb hl.2.2.1) rfl (fun ls' hl' => kk ls' (am_lr.p1 Ev.2.2.2.2.2.1 hl.2.2.1 hb hl'))
  · cases e
theorem st_astore {l : Launch} {g : am_D} {B : am_B} {ρ mi pc n a : Nat} {x : Int32} {ls : am_L} {st : List Value} {h : am_H} {r : am_Q} {k : am_K} {j : Nat} (hf : am_f mi pc = some (.astore j, n, x, a)) (hk : am_PK l g B ρ mi k) (e : (am_r1 st fun v t => am_cd (Nat.blt j ls.length) (k (pc + n) (am_p1 ls j (.ref v)) t h) none) = some r) : am_P l g B ρ mi pc ls st h r := by
  obtain ⟨d, o, hmi, -⟩ := am_okf hf
  obtain rfl : n = 2 := Nat.eq_of_beq_eq_true o
  unfold am_r1 at e
  split at e
  · rename_i v t
    obtain ⟨hb, e⟩ := am_cdT e rfl
    have hb : j < ls.length := Nat.le_of_ble_eq_true hb
    refine (hk _ _ _ _ _ e).go fun p e R s m args below meth c A ad H locs lsm cells slots Q F Wd Ev S hl kk => ?_
    exact lv_astore F.1 F.2.1 d hl.has (Nat.lt_of_lt_of_le hb hl.2.2.1) rfl (fun ls' hl' => kk ls' (am_lr.p1 Ev.2.2.2.2.2.1 hl.2.2.1 hb hl'))
  · cases e
theorem st_astore_n {l : Launch} {g : am_D} {B : am_B} {ρ mi pc n a : Nat} {x : Int32} {ls : am_L} {st : List Value} {h : am_H} {r : am_Q} {k : am_K} {j : Fin 4} (hf : am_f mi pc = some (.astore_n j, n, x, a)) (hk : am_PK l g B ρ mi k) (e : (am_r1 st fun v t => am_cd (Nat.blt j.val ls.length) (k (pc + n) (am_p1 ls j.val (.ref v)) t h) none) = some r) : am_P l g B ρ mi pc ls st h r := by
  obtain ⟨d, o, hmi, -⟩ := am_okf hf
  obtain rfl : n = 1 := Nat.eq_of_beq_eq_true o
  unfold am_r1 at e
  split at e
  · rename_i v t
    obtain ⟨hb, e⟩ := am_cdT e rfl
    have hb : j.val < ls.length := Nat.le_of_ble_eq_true hb
    refine (hk _ _ _ _ _ e).go fun p e R s m args below meth c A ad H locs lsm cells slots Q F Wd Ev S hl kk => ?_
    exact lv_astore_n F.1 F.2.1 d rfl hl.has (Nat.lt_of_lt_of_le hb hl.2.2.1) rfl (fun ls' hl' => kk ls' (am_lr.p1 Ev.2.2.2.2.2.1 hl.2.2.1 hb hl'))
  · cases e
theorem st_lstore {l : Launch} {g : am_D} {B : am_B} {ρ mi pc n a : Nat} {x : Int32} {ls : am_L} {st : List Value} {h : am_H} {r : am_Q} {k : am_K} {j : Nat} (hf : am_f mi pc = some (.lstore j, n, x, a)) (hk : am_PK l g B ρ mi k) (e : (am_l1 st fun v t => am_cd (Nat.blt (j + 1) ls.length) (k (pc + n) (am_p2 ls j (.long v)) t h) none) = some r) : am_P l g B ρ mi pc ls st h r := by
  obtain ⟨d, o, hmi, -⟩ := am_okf hf
  obtain rfl : n = 2 := Nat.eq_of_beq_eq_true o
  unfold am_l1 at e
  split at e
  · rename_i v t
    obtain ⟨hb, e⟩ := am_cdT e rfl
    have hb : j + 1 < ls.length := Nat.le_of_ble_eq_true hb
    refine (hk _ _ _ _ _ e).go fun p e R s m args below meth c A ad H locs lsm cells slots Q F Wd Ev S hl kk => ?_
    exact lv_lstore F.1 F.2.1 d hl.has (Nat.lt_of_lt_of_le hb hl.2.2.1) rfl (fun ls' hl' => kk ls' (am_lr.p2 Ev.2.2.2.2.2.1 hl.2.2.1 hb hl'))
  · cases e
theorem st_lstore_n {l : Launch} {g : am_D} {B : am_B} {ρ mi pc n a : Nat} {x : Int32} {ls : am_L} {st : List Value} {h : am_H} {r : am_Q} {k : am_K} {j : Fin 4} (hf : am_f mi pc = some (.lstore_n j, n, x, a)) (hk : am_PK l g B ρ mi k) (e : (am_l1 st fun v t => am_cd (Nat.blt (j.val + 1) ls.length) (k (pc + n) (am_p2 ls j.val (.long v)) t h) none) = some r) : am_P l g B ρ mi pc ls st h r := by
  obtain ⟨d, o, hmi, -⟩ := am_okf hf
  obtain rfl : n = 1 := Nat.eq_of_beq_eq_true o
  unfold am_l1 at e
  split at e
  · rename_i v t
    obtain ⟨hb, e⟩ := am_cdT e rfl
    have hb : j.val + 1 < ls.length := Nat.le_of_ble_eq_true hb
    refine (hk _ _ _ _ _ e).go fun p e R s m args below meth c A ad H locs lsm cells slots Q F Wd Ev S hl kk => ?_
    exact lv_lstore_n F.1 F.2.1 d rfl hl.has (Nat.lt_of_lt_of_le hb hl.2.2.1) rfl (fun ls' hl' => kk ls' (am_lr.p2 Ev.2.2.2.2.2.1 hl.2.2.1 hb hl'))
  · cases e
theorem st_iinc {l : Launch} {g : am_D} {B : am_B} {ρ mi pc n a : Nat} {x : Int32} {ls : am_L} {st : List Value} {h : am_H} {r : am_Q} {k : am_K} {j : Nat} {c0 : Int} (hf : am_f mi pc = some (.iinc j c0, n, x, a)) (hk : am_PK l g B ρ mi k) (e : (am_ldi ls j fun v => am_cd (Nat.blt j ls.length) (k (pc + n) (am_p1 ls j (.int (v + x))) st h) none) = some r) : am_P l g B ρ mi pc ls st h r := by
  obtain ⟨d, o, hmi, -⟩ := am_okf hf
  simp only [am_okx, Bool.and_eq_true, decide_eq_true_eq] at o
  obtain ⟨on, o⟩ := o
  obtain rfl : n = 3 := Nat.eq_of_beq_eq_true on
  unfold am_ldi at e
  split at e
  · rename_i v hv
    obtain ⟨hb, e⟩ := am_cdT e rfl
    have hb : j < ls.length := Nat.le_of_ble_eq_true hb
    refine (hk _ _ _ _ _ e).go fun p e R s m args below meth c A ad H locs lsm cells slots Q F Wd Ev S hl kk => ?_
    obtain ⟨q, hq⟩ := List.mem_iff_getElem?.mp (am_lv_mem (g := g) (ad := ad) hv)
    exact lv_iinc F.1 F.2.1 d hl.has hq (by rw [o]) (Nat.lt_of_lt_of_le hb hl.2.2.1) rfl (fun ls' hl' => kk ls' (am_lr.p1 Ev.2.2.2.2.2.1 hl.2.2.1 hb hl'))
  · cases e
theorem am_c1_t {α : Type} {v : Value} {x : Option α} {z : α} (h : am_c1 v x = some z) : v.category = 1 ∧ x = some z := by
  cases v <;> first | exact ⟨rfl, h⟩ | cases h
theorem st_pop {l : Launch} {g : am_D} {B : am_B} {ρ mi pc n a : Nat} {x : Int32} {ls : am_L} {st : List Value} {h : am_H} {r : am_Q} {k : am_K} (hf : am_f mi pc = some (.pop, n, x, a)) (hk : am_PK l g B ρ mi k) (e : ((match st with
    | v :: t => am_c1 v (k (pc + n) ls t h)
    | _ => none)) = some r) : am_P l g B ρ mi pc ls st h r := by
  obtain ⟨d, o, hmi, -⟩ := am_okf hf
  obtain rfl : n = 1 := Nat.eq_of_beq_eq_true o
  split at e
  · rename_i v t
    obtain ⟨hv, e⟩ := am_c1_t e
    refine (hk _ _ _ _ _ e).go fun p e R s m args below meth c A ad H locs lsm cells slots Q F Wd Ev S hl kk => ?_
    exact lv_pop F.1 F.2.1 d (by rw [am_tv_cat Ev.2.2.2.2.2.1]; exact hv) (kk lsm hl)
  · cases e
theorem st_dup {l : Launch} {g : am_D} {B : am_B} {ρ mi pc n a : Nat} {x : Int32} {ls : am_L} {st : List Value} {h : am_H} {r : am_Q} {k : am_K} (hf : am_f mi pc = some (.dup, n, x, a)) (hk : am_PK l g B ρ mi k) (e : ((match st with
    | v :: t => am_c1 v (k (pc + n) ls (v :: v :: t) h)
    | _ => none)) = some r) : am_P l g B ρ mi pc ls st h r := by
  obtain ⟨d, o, hmi, -⟩ := am_okf hf
  obtain rfl : n = 1 := Nat.eq_of_beq_eq_true o
  split at e
  · rename_i v t
    obtain ⟨hv, e⟩ := am_c1_t e
    refine (hk _ _ _ _ _ e).go fun p e R s m args below meth c A ad H locs lsm cells slots Q F Wd Ev S hl kk => ?_
    exact lv_dup F.1 F.2.1 d (by rw [am_tv_cat Ev.2.2.2.2.2.1]; exact hv) (kk lsm hl)
  · cases e
theorem st_dup2 {l : Launch} {g : am_D} {B : am_B} {ρ mi pc n a : Nat} {x : Int32} {ls : am_L} {st : List Value} {h : am_H} {r : am_Q} {k : am_K} (hf : am_f mi pc = some (.dup2, n, x, a)) (hk : am_PK l g B ρ mi k) (e : ((match st with
    | v :: w :: t => am_c1 v (am_c1 w (k (pc + n) ls (v :: w :: v :: w :: t) h))
    | _ => none)) = some r) : am_P l g B ρ mi pc ls st h r := by
  obtain ⟨d, o, hmi, -⟩ := am_okf hf
  obtain rfl : n = 1 := Nat.eq_of_beq_eq_true o
  split at e
  · rename_i v w t
    obtain ⟨hv, e⟩ := am_c1_t e
    obtain ⟨hw, e⟩ := am_c1_t e
    refine (hk _ _ _ _ _ e).go fun p e R s m args below meth c A ad H locs lsm cells slots Q F Wd Ev S hl kk => ?_
    exact lv_dup2_11 F.1 F.2.1 d (by rw [am_tv_cat Ev.2.2.2.2.2.1]; exact hv) (by rw [am_tv_cat Ev.2.2.2.2.2.1]; exact hw) (kk lsm hl)
  · cases e
theorem st_iadd {l : Launch} {g : am_D} {B : am_B} {ρ mi pc n a : Nat} {x : Int32} {ls : am_L} {st : List Value} {h : am_H} {r : am_Q} {k : am_K} (hf : am_f mi pc = some (.iadd, n, x, a)) (hk : am_PK l g B ρ mi k) (e : (am_b2 st fun p q t => k (pc + n) ls (.int (p + q) :: t) h) = some r) : am_P l g B ρ mi pc ls st h r := by
  obtain ⟨d, o, hmi, -⟩ := am_okf hf
  obtain rfl : n = 1 := Nat.eq_of_beq_eq_true o
  unfold am_b2 at e
  split at e
  · refine (hk _ _ _ _ _ e).go fun p e R s m args below meth c A ad H locs lsm cells slots Q F Wd Ev S hl kk => ?_
    exact lv_iadd F.1 F.2.1 d (kk lsm hl)
  · cases e
theorem st_isub {l : Launch} {g : am_D} {B : am_B} {ρ mi pc n a : Nat} {x : Int32} {ls : am_L} {st : List Value} {h : am_H} {r : am_Q} {k : am_K} (hf : am_f mi pc = some (.isub, n, x, a)) (hk : am_PK l g B ρ mi k) (e : (am_b2 st fun p q t => k (pc + n) ls (.int (p - q) :: t) h) = some r) : am_P l g B ρ mi pc ls st h r := by
  obtain ⟨d, o, hmi, -⟩ := am_okf hf
  obtain rfl : n = 1 := Nat.eq_of_beq_eq_true o
  unfold am_b2 at e
  split at e
  · refine (hk _ _ _ _ _ e).go fun p e R s m args below meth c A ad H locs lsm cells slots Q F Wd Ev S hl kk => ?_
    exact lv_isub F.1 F.2.1 d (kk lsm hl)
  · cases e
theorem st_imul {l : Launch} {g : am_D} {B : am_B} {ρ mi pc n a : Nat} {x : Int32} {ls : am_L} {st : List Value} {h : am_H} {r : am_Q} {k : am_K} (hf : am_f mi pc = some (.imul, n, x, a)) (hk : am_PK l g B ρ mi k) (e : (am_b2 st fun p q t => k (pc + n) ls (.int (p * q) :: t) h) = some r) : am_P l g B ρ mi pc ls st h r := by
  obtain ⟨d, o, hmi, -⟩ := am_okf hf
  obtain rfl : n = 1 := Nat.eq_of_beq_eq_true o
  unfold am_b2 at e
  split at e
  · refine (hk _ _ _ _ _ e).go fun p e R s m args below meth c A ad H locs lsm cells slots Q F Wd Ev S hl kk => ?_
    exact lv_imul F.1 F.2.1 d (kk lsm hl)
  · cases e
theorem st_iand {l : Launch} {g : am_D} {B : am_B} {ρ mi pc n a : Nat} {x : Int32} {ls : am_L} {st : List Value} {h : am_H} {r : am_Q} {k : am_K} (hf : am_f mi pc = some (.iand, n, x, a)) (hk : am_PK l g B ρ mi k) (e : (am_b2 st fun p q t => k (pc + n) ls (.int (p &&& q) :: t) h) = some r) : am_P l g B ρ mi pc ls st h r := by
  obtain ⟨d, o, hmi, -⟩ := am_okf hf
  obtain rfl : n = 1 := Nat.eq_of_beq_eq_true o
  unfold am_b2 at e
  split at e
  · refine (hk _ _ _ _ _ e).go fun p e R s m args below meth c A ad H locs lsm cells slots Q F Wd Ev S hl kk => ?_
    exact lv_iand F.1 F.2.1 d (kk lsm hl)
  · cases e
theorem st_ior {l : Launch} {g : am_D} {B : am_B} {ρ mi pc n a : Nat} {x : Int32} {ls : am_L} {st : List Value} {h : am_H} {r : am_Q} {k : am_K} (hf : am_f mi pc = some (.ior, n, x, a)) (hk : am_PK l g B ρ mi k) (e : (am_b2 st fun p q t => k (pc + n) ls (.int (p ||| q) :: t) h) = some r) : am_P l g B ρ mi pc ls st h r := by
  obtain ⟨d, o, hmi, -⟩ := am_okf hf
  obtain rfl : n = 1 := Nat.eq_of_beq_eq_true o
  unfold am_b2 at e
  split at e
  · refine (hk _ _ _ _ _ e).go fun p e R s m args below meth c A ad H locs lsm cells slots Q F Wd Ev S hl kk => ?_
    exact lv_ior F.1 F.2.1 d (kk lsm hl)
  · cases e
theorem st_ixor {l : Launch} {g : am_D} {B : am_B} {ρ mi pc n a : Nat} {x : Int32} {ls : am_L} {st : List Value} {h : am_H} {r : am_Q} {k : am_K} (hf : am_f mi pc = some (.ixor, n, x, a)) (hk : am_PK l g B ρ mi k) (e : (am_b2 st fun p q t => k (pc + n) ls (.int (p ^^^ q) :: t) h) = some r) : am_P l g B ρ mi pc ls st h r := by
  obtain ⟨d, o, hmi, -⟩ := am_okf hf
  obtain rfl : n = 1 := Nat.eq_of_beq_eq_true o
  unfold am_b2 at e
  split at e
  · refine (hk _ _ _ _ _ e).go fun p e R s m args below meth c A ad H locs lsm cells slots Q F Wd Ev S hl kk => ?_
    exact lv_ixor F.1 F.2.1 d (kk lsm hl)
  · cases e
theorem st_ishl {l : Launch} {g : am_D} {B : am_B} {ρ mi pc n a : Nat} {x : Int32} {ls : am_L} {st : List Value} {h : am_H} {r : am_Q} {k : am_K} (hf : am_f mi pc = some (.ishl, n, x, a)) (hk : am_PK l g B ρ mi k) (e : (am_b2 st fun p q t => k (pc + n) ls (.int (p <<< (q &&& 31)) :: t) h) = some r) : am_P l g B ρ mi pc ls st h r := by
  obtain ⟨d, o, hmi, -⟩ := am_okf hf
  obtain rfl : n = 1 := Nat.eq_of_beq_eq_true o
  unfold am_b2 at e
  split at e
  · refine (hk _ _ _ _ _ e).go fun p e R s m args below meth c A ad H locs lsm cells slots Q F Wd Ev S hl kk => ?_
    exact lv_ishl F.1 F.2.1 d (kk lsm hl)
  · cases e
theorem st_ishr {l : Launch} {g : am_D} {B : am_B} {ρ mi pc n a : Nat} {x : Int32} {ls : am_L} {st : List Value} {h : am_H} {r : am_Q} {k : am_K} (hf : am_f mi pc = some (.ishr, n, x, a)) (hk : am_PK l g B ρ mi k) (e : (am_b2 st fun p q t => k (pc + n) ls (.int (p >>> (q &&& 31)) :: t) h) = some r) : am_P l g B ρ mi pc ls st h r := by
  obtain ⟨d, o, hmi, -⟩ := am_okf hf
  obtain rfl : n = 1 := Nat.eq_of_beq_eq_true o
  unfold am_b2 at e
  split at e
  · refine (hk _ _ _ _ _ e).go fun p e R s m args below meth c A ad H locs lsm cells slots Q F Wd Ev S hl kk => ?_
    exact lv_ishr F.1 F.2.1 d (kk lsm hl)
  · cases e
theorem st_iushr {l : Launch} {g : am_D} {B : am_B} {ρ mi pc n a : Nat} {x : Int32} {ls : am_L} {st : List Value} {h : am_H} {r : am_Q} {k : am_K} (hf : am_f mi pc = some (.iushr, n, x, a)) (hk : am_PK l g B ρ mi k) (e : (am_b2 st fun p q t => k (pc + n) ls (.int ((p.toUInt32 >>> (q.toUInt32 &&& Int32.toUInt32 31)).toInt32) :: t) h) = some r) : am_P l g B ρ mi pc ls st h r := by
  obtain ⟨d, o, hmi, -⟩ := am_okf hf
  obtain rfl : n = 1 := Nat.eq_of_beq_eq_true o
  unfold am_b2 at e
  split at e
  · refine (hk _ _ _ _ _ e).go fun p e R s m args below meth c A ad H locs lsm cells slots Q F Wd Ev S hl kk => ?_
    exact lv_iushr F.1 F.2.1 d rfl (kk lsm hl)
  · cases e
theorem st_ladd {l : Launch} {g : am_D} {B : am_B} {ρ mi pc n a : Nat} {x : Int32} {ls : am_L} {st : List Value} {h : am_H} {r : am_Q} {k : am_K} (hf : am_f mi pc = some (.ladd, n, x, a)) (hk : am_PK l g B ρ mi k) (e : (am_l2 st fun p q t => k (pc + n) ls (.long (p + q) :: t) h) = some r) : am_P l g B ρ mi pc ls st h r := by
  obtain ⟨d, o, hmi, -⟩ := am_okf hf
  obtain rfl : n = 1 := Nat.eq_of_beq_eq_true o
  unfold am_l2 at e
  split at e
  · refine (hk _ _ _ _ _ e).go fun p e R s m args below meth c A ad H locs lsm cells slots Q F Wd Ev S hl kk => ?_
    exact lv_ladd F.1 F.2.1 d (kk lsm hl)
  · cases e
theorem st_lsub {l : Launch} {g : am_D} {B : am_B} {ρ mi pc n a : Nat} {x : Int32} {ls : am_L} {st : List Value} {h : am_H} {r : am_Q} {k : am_K} (hf : am_f mi pc = some (.lsub, n, x, a)) (hk : am_PK l g B ρ mi k) (e : (am_l2 st fun p q t => k (pc + n) ls (.long (p - q) :: t) h) = some r) : am_P l g B ρ mi pc ls st h r := by
  obtain ⟨d, o, hmi, -⟩ := am_okf hf
  obtain rfl : n = 1 := Nat.eq_of_beq_eq_true o
  unfold am_l2 at e
  split at e
  · refine (hk _ _ _ _ _ e).go fun p e R s m args below meth c A ad H locs lsm cells slots Q F Wd Ev S hl kk => ?_
    exact lv_lsub F.1 F.2.1 d (kk lsm hl)
  · cases e
theorem st_lmul {l : Launch} {g : am_D} {B : am_B} {ρ mi pc n a : Nat} {x : Int32} {ls : am_L} {st : List Value} {h : am_H} {r : am_Q} {k : am_K} (hf : am_f mi pc = some (.lmul, n, x, a)) (hk : am_PK l g B ρ mi k) (e : (am_l2 st fun p q t => k (pc + n) ls (.long (p * q) :: t) h) = some r) : am_P l g B ρ mi pc ls st h r := by
  obtain ⟨d, o, hmi, -⟩ := am_okf hf
  obtain rfl : n = 1 := Nat.eq_of_beq_eq_true o
  unfold am_l2 at e
  split at e
  · refine (hk _ _ _ _ _ e).go fun p e R s m args below meth c A ad H locs lsm cells slots Q F Wd Ev S hl kk => ?_
    exact lv_lmul F.1 F.2.1 d (kk lsm hl)
  · cases e
theorem st_lor {l : Launch} {g : am_D} {B : am_B} {ρ mi pc n a : Nat} {x : Int32} {ls : am_L} {st : List Value} {h : am_H} {r : am_Q} {k : am_K} (hf : am_f mi pc = some (.lor, n, x, a)) (hk : am_PK l g B ρ mi k) (e : (am_l2 st fun p q t => k (pc + n) ls (.long (p ||| q) :: t) h) = some r) : am_P l g B ρ mi pc ls st h r := by
  obtain ⟨d, o, hmi, -⟩ := am_okf hf
  obtain rfl : n = 1 := Nat.eq_of_beq_eq_true o
  unfold am_l2 at e
  split at e
  · refine (hk _ _ _ _ _ e).go fun p e R s m args below meth c A ad H locs lsm cells slots Q F Wd Ev S hl kk => ?_
    exact lv_lor F.1 F.2.1 d (kk lsm hl)
  · cases e
theorem st_lcmp {l : Launch} {g : am_D} {B : am_B} {ρ mi pc n a : Nat} {x : Int32} {ls : am_L} {st : List Value} {h : am_H} {r : am_Q} {k : am_K} (hf : am_f mi pc = some (.lcmp, n, x, a)) (hk : am_PK l g B ρ mi k) (e : (am_l2 st fun p q t => k (pc + n) ls (.int (lg_cmp p q) :: t) h) = some r) : am_P l g B ρ mi pc ls st h r := by
  obtain ⟨d, o, hmi, -⟩ := am_okf hf
  obtain rfl : n = 1 := Nat.eq_of_beq_eq_true o
  unfold am_l2 at e
  split at e
  · refine (hk _ _ _ _ _ e).go fun p e R s m args below meth c A ad H locs lsm cells slots Q F Wd Ev S hl kk => ?_
    exact W.lcmp F.1 F.2.1 d (kk lsm hl)
  · cases e
theorem st_ineg {l : Launch} {g : am_D} {B : am_B} {ρ mi pc n a : Nat} {x : Int32} {ls : am_L} {st : List Value} {h : am_H} {r : am_Q} {k : am_K} (hf : am_f mi pc = some (.ineg, n, x, a)) (hk : am_PK l g B ρ mi k) (e : (am_u1 st fun p t => k (pc + n) ls (.int (-p) :: t) h) = some r) : am_P l g B ρ mi pc ls st h r := by
  obtain ⟨d, o, hmi, -⟩ := am_okf hf
  obtain rfl : n = 1 := Nat.eq_of_beq_eq_true o
  unfold am_u1 at e
  split at e
  · refine (hk _ _ _ _ _ e).go fun p e R s m args below meth c A ad H locs lsm cells slots Q F Wd Ev S hl kk => ?_
    exact lv_ineg F.1 F.2.1 d (kk lsm hl)
  · cases e
theorem st_i2l {l : Launch} {g : am_D} {B : am_B} {ρ mi pc n a : Nat} {x : Int32} {ls : am_L} {st : List Value} {h : am_H} {r : am_Q} {k : am_K} (hf : am_f mi pc = some (.i2l, n, x, a)) (hk : am_PK l g B ρ mi k) (e : (am_u1 st fun p t => k (pc + n) ls (.long (p.toInt64) :: t) h) = some r) : am_P l g B ρ mi pc ls st h r := by
  obtain ⟨d, o, hmi, -⟩ := am_okf hf
  obtain rfl : n = 1 := Nat.eq_of_beq_eq_true o
  unfold am_u1 at e
  split at e
  · refine (hk _ _ _ _ _ e).go fun p e R s m args below meth c A ad H locs lsm cells slots Q F Wd Ev S hl kk => ?_
    exact lv_i2l F.1 F.2.1 d rfl (kk lsm hl)
  · cases e
theorem st_i2c {l : Launch} {g : am_D} {B : am_B} {ρ mi pc n a : Nat} {x : Int32} {ls : am_L} {st : List Value} {h : am_H} {r : am_Q} {k : am_K} (hf : am_f mi pc = some (.i2c, n, x, a)) (hk : am_PK l g B ρ mi k) (e : (am_u1 st fun p t => k (pc + n) ls (.int ((p.toUInt32 % 65536).toInt32) :: t) h) = some r) : am_P l g B ρ mi pc ls st h r := by
  obtain ⟨d, o, hmi, -⟩ := am_okf hf
  obtain rfl : n = 1 := Nat.eq_of_beq_eq_true o
  unfold am_u1 at e
  split at e
  · refine (hk _ _ _ _ _ e).go fun p e R s m args below meth c A ad H locs lsm cells slots Q F Wd Ev S hl kk => ?_
    exact lv_i2c F.1 F.2.1 d rfl (kk lsm hl)
  · cases e
theorem st_i2b {l : Launch} {g : am_D} {B : am_B} {ρ mi pc n a : Nat} {x : Int32} {ls : am_L} {st : List Value} {h : am_H} {r : am_Q} {k : am_K} (hf : am_f mi pc = some (.i2b, n, x, a)) (hk : am_PK l g B ρ mi k) (e : (am_u1 st fun p t => k (pc + n) ls (.int (p.toInt8.toInt32) :: t) h) = some r) : am_P l g B ρ mi pc ls st h r := by
  obtain ⟨d, o, hmi, -⟩ := am_okf hf
  obtain rfl : n = 1 := Nat.eq_of_beq_eq_true o
  unfold am_u1 at e
  split at e
  · refine (hk _ _ _ _ _ e).go fun p e R s m args below meth c A ad H locs lsm cells slots Q F Wd Ev S hl kk => ?_
    exact lv_i2b F.1 F.2.1 d rfl (kk lsm hl)
  · cases e
theorem st_l2i {l : Launch} {g : am_D} {B : am_B} {ρ mi pc n a : Nat} {x : Int32} {ls : am_L} {st : List Value} {h : am_H} {r : am_Q} {k : am_K} (hf : am_f mi pc = some (.l2i, n, x, a)) (hk : am_PK l g B ρ mi k) (e : (am_l1 st fun p t => k (pc + n) ls (.int (p.toInt32) :: t) h) = some r) : am_P l g B ρ mi pc ls st h r := by
  obtain ⟨d, o, hmi, -⟩ := am_okf hf
  obtain rfl : n = 1 := Nat.eq_of_beq_eq_true o
  unfold am_l1 at e
  split at e
  · refine (hk _ _ _ _ _ e).go fun p e R s m args below meth c A ad H locs lsm cells slots Q F Wd Ev S hl kk => ?_
    exact lv_l2i F.1 F.2.1 d rfl (kk lsm hl)
  · cases e
theorem st_idiv {l : Launch} {g : am_D} {B : am_B} {ρ mi pc n a : Nat} {x : Int32} {ls : am_L} {st : List Value} {h : am_H} {r : am_Q} {k : am_K} (hf : am_f mi pc = some (.idiv, n, x, a)) (hk : am_PK l g B ρ mi k) (e : (am_b2 st fun p q t => if q = 0 then none else k (pc + n) ls (.int (p / q) :: t) h) = some r) : am_P l g B ρ mi pc ls st h r := by
  obtain ⟨d, o, hmi, -⟩ := am_okf hf
  obtain rfl : n = 1 := Nat.eq_of_beq_eq_true o
  unfold am_b2 at e
  split at e
  · dsimp only at e
    split at e
    · cases e
    · rename_i hne
      refine (hk _ _ _ _ _ e).go fun p e R s m args below meth c A ad H locs lsm cells slots Q F Wd Ev S hl kk => ?_
      exact lv_idiv F.1 F.2.1 d hne (kk lsm hl)
  · cases e
theorem st_irem {l : Launch} {g : am_D} {B : am_B} {ρ mi pc n a : Nat} {x : Int32} {ls : am_L} {st : List Value} {h : am_H} {r : am_Q} {k : am_K} (hf : am_f mi pc = some (.irem, n, x, a)) (hk : am_PK l g B ρ mi k) (e : (am_b2 st fun p q t => if q = 0 then none else k (pc + n) ls (.int (p - p / q * q) :: t) h) = some r) : am_P l g B ρ mi pc ls st h r := by
  obtain ⟨d, o, hmi, -⟩ := am_okf hf
  obtain rfl : n = 1 := Nat.eq_of_beq_eq_true o
  unfold am_b2 at e
  split at e
  · dsimp only at e
    split at e
    · cases e
    · rename_i hne
      refine (hk _ _ _ _ _ e).go fun p e R s m args below meth c A ad H locs lsm cells slots Q F Wd Ev S hl kk => ?_
      exact lv_irem F.1 F.2.1 d hne (kk lsm hl)
  · cases e
theorem st_ldiv {l : Launch} {g : am_D} {B : am_B} {ρ mi pc n a : Nat} {x : Int32} {ls : am_L} {st : List Value} {h : am_H} {r : am_Q} {k : am_K} (hf : am_f mi pc = some (.ldiv, n, x, a)) (hk : am_PK l g B ρ mi k) (e : (am_l2 st fun p q t => if q = 0 then none else k (pc + n) ls (.long (p / q) :: t) h) = some r) : am_P l g B ρ mi pc ls st h r := by
  obtain ⟨d, o, hmi, -⟩ := am_okf hf
  obtain rfl : n = 1 := Nat.eq_of_beq_eq_true o
  unfold am_l2 at e
  split at e
  · dsimp only at e
    split at e
    · cases e
    · rename_i hne
      refine (hk _ _ _ _ _ e).go fun p e R s m args below meth c A ad H locs lsm cells slots Q F Wd Ev S hl kk => ?_
      exact lv_ldiv F.1 F.2.1 d hne (kk lsm hl)
  · cases e
theorem st_lrem {l : Launch} {g : am_D} {B : am_B} {ρ mi pc n a : Nat} {x : Int32} {ls : am_L} {st : List Value} {h : am_H} {r : am_Q} {k : am_K} (hf : am_f mi pc = some (.lrem, n, x, a)) (hk : am_PK l g B ρ mi k) (e : (am_l2 st fun p q t => if q = 0 then none else k (pc + n) ls (.long (p - p / q * q) :: t) h) = some r) : am_P l g B ρ mi pc ls st h r := by
  obtain ⟨d, o, hmi, -⟩ := am_okf hf
  obtain rfl : n = 1 := Nat.eq_of_beq_eq_true o
  unfold am_l2 at e
  split at e
  · dsimp only at e
    split at e
    · cases e
    · rename_i hne
      refine (hk _ _ _ _ _ e).go fun p e R s m args below meth c A ad H locs lsm cells slots Q F Wd Ev S hl kk => ?_
      exact lv_lrem F.1 F.2.1 d hne (kk lsm hl)
  · cases e
theorem st_lshl {l : Launch} {g : am_D} {B : am_B} {ρ mi pc n a : Nat} {x : Int32} {ls : am_L} {st : List Value} {h : am_H} {r : am_Q} {k : am_K} (hf : am_f mi pc = some (.lshl, n, x, a)) (hk : am_PK l g B ρ mi k) (e : ((match st with
    | .int q :: .long p :: t => k (pc + n) ls (.long (p <<< (q.toInt64 &&& 63)) :: t) h
    | _ => none)) = some r) : am_P l g B ρ mi pc ls st h r := by
  obtain ⟨d, o, hmi, -⟩ := am_okf hf
  obtain rfl : n = 1 := Nat.eq_of_beq_eq_true o
  split at e
  · refine (hk _ _ _ _ _ e).go fun p e R s m args below meth c A ad H locs lsm cells slots Q F Wd Ev S hl kk => ?_
    exact lv_lshl F.1 F.2.1 d rfl (kk lsm hl)
  · cases e
/-- two ways on -/
theorem am_P.br {l : Launch} {g : am_D} {B : am_B} {ρ mi pc : Nat} {ls : am_L} {st : List Value} {h : am_H} {r : am_Q} {cnd : Prop} [Decidable cnd] {p1 p2 : Nat} {s1 s2 : List Value} {k : am_K} (hk : am_PK l g B ρ mi k) (e : (if cnd then k p1 ls s1 h else k p2 ls s2 h) = some r)
    (step : ∀ (p : Program) (e : Env) (R : Room) (s : State) (m : MethodId) (args : Array Value) (below : List Frame) (meth : Method) (c : Code) (A : Nat → Prop) (ad : Nat → Nat) (H : Heap) (locs : List Loc) (lsm : Array Slot) (cells slots : Nat) (Q : State → Prop),
      am_Fx l ρ mi p R s m args meth c A → (cnd → W p l e R s m args below meth c H locs cells slots Q (F0 m p1 lsm (s1.map (am_tv g ad)))) → (¬ cnd → W p l e R s m args below meth c H locs cells slots Q (F0 m p2 lsm (s2.map (am_tv g ad)))) →
      W p l e R s m args below meth c H locs cells slots Q (F0 m pc lsm (st.map (am_tv g ad)))) : am_P l g B ρ mi pc ls st h r := by
  split at e
  · rename_i hc
    refine (hk _ _ _ _ _ e).go fun p e R s m args below meth c A ad H locs lsm cells slots Q F Wd Ev S hl kk => ?_
    exact step p e R s m args below meth c A ad H locs lsm cells slots Q F (fun _ => kk lsm hl) (fun q => absurd hc q)
  · rename_i hc
    refine (hk _ _ _ _ _ e).go fun p e R s m args below meth c A ad H locs lsm cells slots Q F Wd Ev S hl kk => ?_
    exact step p e R s m args below meth c A ad H locs lsm cells slots Q F (fun q => absurd q hc) (fun _ => kk lsm hl)
theorem st_if_icmp {l : Launch} {g : am_D} {B : am_B} {ρ mi pc n a : Nat} {x : Int32} {ls : am_L} {st : List Value} {h : am_H} {r : am_Q} {k : am_K} {cnd : ClassFile.Cond} {off : Int} (hf : am_f mi pc = some (.if_icmp cnd off, n, x, a)) (hk : am_PK l g B ρ mi k) (e : (am_b2 st fun p q t => am_cm cnd p q (k a ls t h) (k (pc + n) ls t h)) = some r) : am_P l g B ρ mi pc ls st h r := by
  obtain ⟨d, o, hmi, -⟩ := am_okf hf
  simp only [am_okx, Bool.and_eq_true, decide_eq_true_eq] at o
  obtain ⟨on, o⟩ := o
  obtain rfl : n = 3 := Nat.eq_of_beq_eq_true on
  unfold am_b2 at e
  split at e
  · cases cnd with
    | eq => exact am_P.br hk e fun p e R s m args below meth c A ad H locs lsm cells slots Q F kt kf => lv_icmp_eq F.1 F.2.1 d o kt kf
    | ne => exact am_P.br hk e fun p e R s m args below meth c A ad H locs lsm cells slots Q F kt kf => lv_icmp_ne F.1 F.2.1 d o (fun q => kf q) (fun q => kt q)
    | lt => exact am_P.br hk e fun p e R s m args below meth c A ad H locs lsm cells slots Q F kt kf => lv_icmp_lt F.1 F.2.1 d o kt kf
    | ge => exact am_P.br hk e fun p e R s m args below meth c A ad H locs lsm cells slots Q F kt kf => lv_icmp_ge F.1 F.2.1 d o kt kf
    | gt => exact am_P.br hk e fun p e R s m args below meth c A ad H locs lsm cells slots Q F kt kf => lv_icmp_gt F.1 F.2.1 d o kt kf
    | le => exact am_P.br hk e fun p e R s m args below meth c A ad H locs lsm cells slots Q F kt kf => lv_icmp_le F.1 F.2.1 d o kt kf
  · cases e
theorem st_ifCond {l : Launch} {g : am_D} {B : am_B} {ρ mi pc n a : Nat} {x : Int32} {ls : am_L} {st : List Value} {h : am_H} {r : am_Q} {k : am_K} {cnd : ClassFile.Cond} {off : Int} (hf : am_f mi pc = some (.ifCond cnd off, n, x, a)) (hk : am_PK l g B ρ mi k) (e : (am_u1 st fun p t => am_cm cnd p 0 (k a ls t h) (k (pc + n) ls t h)) = some r) : am_P l g B ρ mi pc ls st h r := by
  obtain ⟨d, o, hmi, -⟩ := am_okf hf
  simp only [am_okx, Bool.and_eq_true, decide_eq_true_eq] at o
  obtain ⟨on, o⟩ := o
  obtain rfl : n = 3 := Nat.eq_of_beq_eq_true on
  unfold am_u1 at e
  split at e
  · cases cnd with
    | eq => exact am_P.br hk e fun p e R s m args below meth c A ad H locs lsm cells slots Q F kt kf => lv_if_eq F.1 F.2.1 d o kt kf
    | ne => exact am_P.br hk e fun p e R s m args below meth c A ad H locs lsm cells slots Q F kt kf => lv_if_ne F.1 F.2.1 d o (fun q => kf q) (fun q => kt q)
    | lt => exact am_P.br hk e fun p e R s m args below meth c A ad H locs lsm cells slots Q F kt kf => lv_if_lt F.1 F.2.1 d o kt kf
    | ge => exact am_P.br hk e fun p e R s m args below meth c A ad H locs lsm cells slots Q F kt kf => lv_if_ge F.1 F.2.1 d o kt kf
    | gt => exact am_P.br hk e fun p e R s m args below meth c A ad H locs lsm cells slots Q F kt kf => lv_if_gt F.1 F.2.1 d o kt kf
    | le => exact am_P.br hk e fun p e R s m args below meth c A ad H locs lsm cells slots Q F kt kf => lv_if_le F.1 F.2.1 d o kt kf
  · cases e
theorem st_goto {l : Launch} {g : am_D} {B : am_B} {ρ mi pc n a : Nat} {x : Int32} {ls : am_L} {st : List Value} {h : am_H} {r : am_Q} {k : am_K} {off : Int} (hf : am_f mi pc = some (.goto off, n, x, a)) (hk : am_PK l g B ρ mi k) (e : (k a ls st h) = some r) : am_P l g B ρ mi pc ls st h r := by
  obtain ⟨d, o, hmi, -⟩ := am_okf hf
  simp only [am_okx, Bool.and_eq_true, decide_eq_true_eq] at o
  obtain ⟨on, o⟩ := o
  obtain rfl : n = 3 := Nat.eq_of_beq_eq_true on
  refine (hk _ _ _ _ _ e).go fun p e R s m args below meth c A ad H locs lsm cells slots Q F Wd Ev S hl kk => ?_
  exact lv_goto F.1 F.2.1 d o (kk lsm hl)
