theorem am_b2_t {α : Type} {st : List Value} {f : Int32 → Int32 → List Value → Option α} {z : α} (h : am_b2 st f = some z) : ∃ (v w : Int32) (q : List Value), st = .int w :: .int v :: q ∧ f v w q = some z := by
  unfold am_b2 at h
  split at h
  · exact ⟨_, _, _, rfl, h⟩
  · cases h
theorem am_mi1 : Jvm.Cond.static (am_y 335) ∈ am_G ∧ Jvm.Cond.code (am_y 335) Lib.Math.min.code 2 (some .int) ∈ am_G := ⟨am_gw_in (k := 457) (by decide +kernel), am_gw_in (k := 458) (by decide +kernel)⟩
theorem am_mi2 : Jvm.Cond.static (am_y 336) ∈ am_G ∧ Jvm.Cond.code (am_y 336) Lib.Math.max.code 2 (some .int) ∈ am_G := ⟨am_gw_in (k := 523) (by decide +kernel), am_gw_in (k := 524) (by decide +kernel)⟩
theorem am_mi3 : Jvm.Cond.static (am_y 337) ∈ am_G ∧ Jvm.Cond.code (am_y 337) Lib.Math.abs.code 1 (some .int) ∈ am_G := ⟨am_gw_in (k := 1347) (by decide +kernel), am_gw_in (k := 1348) (by decide +kernel)⟩
theorem am_mi4 : Jvm.Cond.initialized "java/lang/Math" ∈ am_G := am_gw_in (k := 123) (by decide +kernel)
theorem st_invokestatic {l : Launch} {g : am_D} {B : am_B} {ρ mi pc n a : Nat} {x : Int32} {ls : am_L} {st : List Value} {h : am_H} {r : am_Q} {k : am_K} {call : am_C} {idx : Nat} (hmd : am_md B) (hf : am_f mi pc = some (.invokestatic idx, n, x, a)) (hk : am_PK l g B ρ mi k) (hC : am_PC l g B call)
    (e : am_cd (Nat.blt 334 a && Nat.blt a 338) (am_mth a st fun v r => k (pc + n) ls (.int v :: r) h) (am_cl (B.1 h) B.2.2 ρ call mi k ls st h pc n a) = some r) : am_P l g B ρ mi pc ls st h r := by
  obtain ⟨d, o, hmi, -⟩ := am_okf hf
  simp only [am_okx, Bool.and_eq_true] at o
  obtain ⟨on, o0⟩ := o
  obtain rfl : n = 3 := Nat.eq_of_beq_eq_true on
  cases hm : (Nat.blt 334 a && Nat.blt a 338) with
  | true =>
    rw [hm] at e o0
    have e : (am_mth a st fun v r => k (pc + 3) ls (.int v :: r) h) = some r := e
    have o0 : am_gw (am_hn (mi * 4096 + pc)) (.methodLink (am_own mi) idx (am_y a)) = true := o0
    rw [Bool.and_eq_true] at hm
    have ha : a = 335 ∨ a = 336 ∨ a = 337 := by
      have := Nat.le_of_ble_eq_true hm.1
      have := Nat.le_of_ble_eq_true hm.2
      omega
    rcases ha with rfl | rfl | rfl
    · obtain ⟨x1, y1, t, hst, e9⟩ := am_b2_t (show am_b2 st (fun x y r => am_cd (Nat.blt (am_sz r) 9) (k (pc + 3) ls (.int (if y < x then y else x) :: r) h) none) = some r from e)
      subst hst
      obtain ⟨hb, e9⟩ := am_cdT e9 rfl
      obtain ⟨k1, k2⟩ := hk _ _ _ _ _ e9
      refine ⟨k1, fun p e R s m args below meth c A ad H locs lsm cells slots n0 ad0 tc ts Q F Wd Ev S hl hn hg hc hs h1 h2 hq => ?_⟩
      have hG := F.2.2.2.2.1
      have hz := am_sz_tv Ev.2.2.2.2.2.1 ad t
      have hz2 : am_sz t ≤ 8 := Nat.le_of_lt_succ (Nat.le_of_ble_eq_true hb)
      exact va_mmin F.1 F.2.1 (F.2.2.1.trans hl.1.symm) F.2.2.2.1 (hG _ (am_gw_in o0)) (hG _ am_mi1.1) (hG _ am_mi4) (hG _ am_mi1.2) (by
        have := F.2.2.2.2.2.2.2.2.2.2.1; omega) (by
        have := F.2.2.2.2.2.2.2.2.2.2.2.1
        rw [hz]
        omega) (by omega) (by omega) d (k2 p e R s m args below meth c A ad H locs lsm cells slots n0 ad0 tc ts Q F Wd Ev S hl hn hg hc hs h1 h2 hq)
    · obtain ⟨x1, y1, t, hst, e9⟩ := am_b2_t (show am_b2 st (fun x y r => am_cd (Nat.blt (am_sz r) 9) (k (pc + 3) ls (.int (if x < y then y else x) :: r) h) none) = some r from e)
      subst hst
      obtain ⟨hb, e9⟩ := am_cdT e9 rfl
      obtain ⟨k1, k2⟩ := hk _ _ _ _ _ e9
      refine ⟨k1, fun p e R s m args below meth c A ad H locs lsm cells slots n0 ad0 tc ts Q F Wd Ev S hl hn hg hc hs h1 h2 hq => ?_⟩
      have hG := F.2.2.2.2.1
      have hz := am_sz_tv Ev.2.2.2.2.2.1 ad t
      have hz2 : am_sz t ≤ 8 := Nat.le_of_lt_succ (Nat.le_of_ble_eq_true hb)
      exact va_mmax F.1 F.2.1 (F.2.2.1.trans hl.1.symm) F.2.2.2.1 (hG _ (am_gw_in o0)) (hG _ am_mi2.1) (hG _ am_mi4) (hG _ am_mi2.2) (by
        have := F.2.2.2.2.2.2.2.2.2.2.1; omega) (by
        have := F.2.2.2.2.2.2.2.2.2.2.2.1
        rw [hz]
        omega) (by omega) (by omega) d (k2 p e R s m args below meth c A ad H locs lsm cells slots n0 ad0 tc ts Q F Wd Ev S hl hn hg hc hs h1 h2 hq)
    · obtain ⟨x1, t, hst, e9⟩ := am_u1_t (show am_u1 st (fun x r => am_cd (Nat.blt (am_sz r) 9) (k (pc + 3) ls (.int (if 0 ≤ x then x else 0 - x) :: r) h) none) = some r from e)
      subst hst
      obtain ⟨hb, e9⟩ := am_cdT e9 rfl
      obtain ⟨k1, k2⟩ := hk _ _ _ _ _ e9
      refine ⟨k1, fun p e R s m args below meth c A ad H locs lsm cells slots n0 ad0 tc ts Q F Wd Ev S hl hn hg hc hs h1 h2 hq => ?_⟩
      have hG := F.2.2.2.2.1
      have hz := am_sz_tv Ev.2.2.2.2.2.1 ad t
      have hz2 : am_sz t ≤ 8 := Nat.le_of_lt_succ (Nat.le_of_ble_eq_true hb)
      exact va_mabs F.1 F.2.1 (F.2.2.1.trans hl.1.symm) F.2.2.2.1 (hG _ (am_gw_in o0)) (hG _ am_mi3.1) (hG _ am_mi4) (hG _ am_mi3.2) (by
        have := F.2.2.2.2.2.2.2.2.2.2.1; omega) (by
        have := F.2.2.2.2.2.2.2.2.2.2.2.1
        rw [hz]
        omega) (by omega) (by omega) d (k2 p e R s m args below meth c A ad H locs lsm cells slots n0 ad0 tc ts Q F Wd Ev S hl hn hg hc hs h1 h2 hq)
  | false =>
  rw [hm] at e o0
  have e : am_cl (B.1 h) B.2.2 ρ call mi k ls st h pc 3 a = some r := e
  have o0 : (((Nat.beq (am_kd a) 0 && am_okC mi pc a idx) || (Nat.beq (am_kd a) 3 && am_gw (am_hn (mi * 4096 + pc)) (.methodLink (am_own mi) idx (am_y a)))) && am_cov mi pc) = true := o0
  simp only [Bool.and_eq_true, Bool.or_eq_true] at o0
  obtain ⟨o1, hcov⟩ := o0
  obtain ⟨As, rest, r', hst, hlen, hsz, ⟨hrk, hla⟩, hfl, hcall, -, -, hcont⟩ := am_cl_t e
  obtain ⟨ha1, hle, hcon0⟩ := hC a _ h r' hcall
  have ha2 : am_kd a ≠ 9 := by
    rcases o1 with z | z
    · rw [Nat.eq_of_beq_eq_true z.1]; decide
    · rw [Nat.eq_of_beq_eq_true z.1]; decide
  have hcon := hcon0 ha2
  obtain ⟨f1, f2, f3, f4, f5, f6, f7, f8, f9, f10, f11, f12, f13⟩ := am_mF ha1 ha2
  have hk03 : am_kd a = 0 ∨ am_kd a = 3 := o1.elim (fun z => Or.inl (Nat.eq_of_beq_eq_true z.1)) (fun z => Or.inr (Nat.eq_of_beq_eq_true z.1))
  refine am_P.call hmd hmi hk hle hcont hfl hcov fun p e R s m args below meth c A ad H locs lsm cells slots F Wd Ev S hsize hc1 hc2 => ?_
  have hG := F.2.2.2.2.1
  have hM := hcon hla ad H.size
  rw [if_pos hk03] at f2
  rw [if_neg (show ¬ (am_kd a = 1 ∨ am_kd a = 2) by omega)] at f8
  have hn : (As.map (am_tv g ad)).length = am_np a := by
    rw [List.length_map]
    exact hlen
  have hpre := am_pre (As.map (am_tv g ad)) Wd Ev S F.2.2.2.2.2.2.2.2.2.1
  have hstk : st.map (am_tv g ad) = (As.map (am_tv g ad)).reverse ++ rest.map (am_tv g ad) := by
    rw [hst]; simp
  have hparse : ∀ sig, parseMethodDescriptor (am_y a).desc = some sig → am_np a = sig.parameters.length := fun sig hs => by
    rw [hs] at f8; exact (Option.some.inj f8).symm
  have hroom := am_room (mc := r'.2.2.1 - h.2.1) (ms := r'.2.2.2.1 - h.2.2.1) F hrk f11
  refine ⟨(As.map (am_tv g ad)).toArray, ?_⟩
  rw [hstk]
  rcases o1 with ⟨z0, hl⟩ | ⟨z3, hl⟩
  · have hk0 := Nat.eq_of_beq_eq_true z0
    have hcode : Jvm.Cond.code (am_y a) (am_b a) (am_ml a) (am_rt a) ∈ am_w a := by rw [← am_cw_code (by omega)]; exact List.mem_cons_self
    have hcodeB := hG _ f1
    rw [am_cw_code (by omega)] at hcodeB
    rcases am_okC_t hl with hl | hl
    · exact vx_runS (own := am_own mi) (index := idx) (y := am_y a) (bytes := am_b a) (maxL := am_ml a) (ret := am_rt a) (ws := am_w a) (n := am_np a) (Ts := am_G) (cc := am_b mi) (nL := am_ml mi) ⟨F.1, F.2.1, F.2.2.1, F.2.2.2.1, hG⟩ hM
        ⟨⟨rfl, rfl, hroom.1, hroom.2, pay_in hG (am_w_good f1), hcode, hcodeB, hG _ f4, f6, hparse, hG _ hl⟩, hG _ f2⟩ hpre rfl hn hsize rfl (lv_room (by rw [am_sz_tv Ev.2.2.2.2.2.1]; exact hsz)) d ⟨hc1, hc2⟩
    · exact vx_runSN (own := am_own mi) (host := "WolfDeeds") (index := idx) (y := am_y a) (bytes := am_b a) (maxL := am_ml a) (ret := am_rt a) (ws := am_w a) (n := am_np a) (Ts := am_G) (cc := am_b mi) (nL := am_ml mi) ⟨F.1, F.2.1, F.2.2.1, F.2.2.2.1, hG⟩ hM
        ⟨⟨⟨rfl, rfl, hroom.1, hroom.2, pay_in hG (am_w_good f1), hcode⟩, hcodeB, hG _ f4, f6, hparse, va_Nw.use rfl (Ev.2.2.2.2.2.2.2.2.2.1 _ hl)⟩, hG _ f2, trivial⟩ hpre rfl hn hsize rfl (lv_room (by rw [am_sz_tv Ev.2.2.2.2.2.1]; exact hsz)) d ⟨hc1, hc2⟩
  · have hk3 := Nat.eq_of_beq_eq_true z3
    have hcode : Jvm.Cond.codeWith (am_y a) (am_b a) (am_ml a) (am_rt a) (am_hh a) ∈ am_w a := by rw [← am_cw_with hk3]; exact List.mem_cons_self
    have hcodeB := hG _ f1
    rw [am_cw_with hk3] at hcodeB
    exact vx_runSX (own := am_own mi) (index := idx) (y := am_y a) (bytes := am_b a) (maxL := am_ml a) (ret := am_rt a) (hh := am_hh a) (ws := am_w a) (n := am_np a) (Ts := am_G) (cc := am_b mi) (nL := am_ml mi) ⟨F.1, F.2.1, F.2.2.1, F.2.2.2.1, hG⟩ hM
      ⟨⟨rfl, rfl, hroom.1, hroom.2, pay_in hG (am_w_good f1), hcode⟩, hcodeB, hG _ f4, f6, hparse, hG _ (am_gw_in hl), hG _ f2⟩ hpre rfl hn hsize rfl (lv_room (by rw [am_sz_tv Ev.2.2.2.2.2.1]; exact hsz)) d ⟨hc1, hc2⟩
theorem am_obj1 : Jvm.Cond.instanceMethod Jvm.Lib.objectInit ∈ am_G := am_gw_in (k := 135) (by decide +kernel)
theorem am_obj2 : Jvm.Cond.code Jvm.Lib.objectInit ⟨#[0xb1]⟩ 1 none ∈ am_G := am_gw_in (k := 136) (by decide +kernel)
theorem st_invokespecial {l : Launch} {g : am_D} {B : am_B} {ρ mi pc n a : Nat} {x : Int32} {ls : am_L} {st : List Value} {h : am_H} {r : am_Q} {k : am_K} {call : am_C} {idx : Nat} (hmd : am_md B) (hf : am_f mi pc = some (.invokespecial idx, n, x, a)) (hk : am_PK l g B ρ mi k) (hC : am_PC l g B call)
    (e : am_cd (Nat.beq a 999) (am_r1 st fun r q => am_cd (Nat.blt r (B.1 h) && Nat.blt (am_ty r).1 10 && Nat.blt (am_sz q) 9) (k (pc + n) ls q h) none) (am_cl (B.1 h) B.2.2 ρ call mi k ls st h pc n a) = some r) : am_P l g B ρ mi pc ls st h r := by
  obtain ⟨d, o, hmi, -⟩ := am_okf hf
  simp only [am_okx, Bool.and_eq_true] at o
  obtain ⟨on, o1⟩ := o
  obtain rfl : n = 3 := Nat.eq_of_beq_eq_true on
  cases h9 : Nat.beq a 999 with
  | true =>
    rw [h9] at e o1
    have e : (am_r1 st fun r q => am_cd (Nat.blt r (B.1 h) && Nat.blt (am_ty r).1 10 && Nat.blt (am_sz q) 9) (k (pc + 3) ls q h) none) = some r := e
    have o1 : am_gw (am_hn (mi * 4096 + pc)) (.methodLink (am_own mi) idx objectInit) = true := o1
    unfold am_r1 at e
    split at e
    · rename_i q rest e0
      clear e0
      obtain ⟨hb, e⟩ := am_cdT e rfl
      simp only [Bool.and_eq_true] at hb
      refine am_P.go (hk _ _ _ _ _ e) fun p e R s m args below meth c A ad H locs lsm cells slots Q F Wd Ev S hl kk => ?_
      have hG := F.2.2.2.2.1
      have hz := am_sz_tv Ev.2.2.2.2.2.1 ad rest
      have hz2 : am_sz rest ≤ 8 := Nat.le_of_lt_succ (Nat.le_of_ble_eq_true hb.2)
      exact W.objInit (own := am_own mi) (idx := idx) (a := ad q) (rest := rest.map (am_tv g ad)) F.1 F.2.1 F.2.2.2.1 (hG _ (am_gw_in o1)) (hG _ am_obj1) (hG _ am_obj2) rfl (hl.1.trans F.2.2.1.symm) rfl d (by
        have := F.2.2.2.2.2.2.2.2.2.2.1; omega) (by
        have := F.2.2.2.2.2.2.2.2.2.2.2.1
        rw [hz]
        show 2 * 0 + am_sz rest + 12 ≤ R.locals
        omega) (kk lsm hl)
    · cases e
  | false =>
    rw [h9] at e o1
    have e : am_cl (B.1 h) B.2.2 ρ call mi k ls st h pc 3 a = some r := e
    have o1 : (am_okC mi pc a idx && Nat.beq (am_kd a) 2 && am_cov mi pc) = true := o1
    simp only [Bool.and_eq_true] at o1
    obtain ⟨⟨o1, o2⟩, hcov⟩ := o1
    have hkd := Nat.eq_of_beq_eq_true o2
    obtain ⟨As, rest, r', hst, hlen, hsz, ⟨hrk, hla⟩, hfl, hcall, -, q2, hcont⟩ := am_cl_t e
    obtain ⟨r0, As', rfl, hrecv⟩ := q2 hkd
    obtain ⟨ha1, hle, hcon0⟩ := hC a _ h r' hcall
    have ha2 : am_kd a ≠ 9 := by omega
    have hcon := hcon0 ha2
    obtain ⟨f1, f2, f3, f4, f5, f6, f7, f8, f9, f10, f11, f12, f13⟩ := am_mF ha1 ha2
    refine am_P.call hmd hmi hk hle hcont hfl hcov fun p e R s m args below meth c A ad H locs lsm cells slots F Wd Ev S hsize hc1 hc2 => ?_
    have hG := F.2.2.2.2.1
    have hM := hcon hla ad H.size
    rw [if_neg (show ¬ (am_kd a = 0 ∨ am_kd a = 3) by omega)] at f2
    rw [if_pos (show am_kd a = 1 ∨ am_kd a = 2 by omega)] at f8
    have hn : (As'.map (am_tv g ad)).length = am_np a - 1 := by
      rw [List.length_map]
      simp only [List.length_cons] at hlen
      omega
    have hpre := am_pre ((Value.ref r0 :: As').map (am_tv g ad)) Wd Ev S F.2.2.2.2.2.2.2.2.2.1
    have hstk : st.map (am_tv g ad) = (As'.map (am_tv g ad)).reverse ++ Value.ref (ad r0) :: rest.map (am_tv g ad) := by
      rw [hst]; simp [am_tv]
    have hparse : ∀ sig, parseMethodDescriptor (am_y a).desc = some sig → am_np a - 1 = sig.parameters.length := fun sig hs => by
      rw [hs] at f8; exact (Option.some.inj f8).symm
    have hroom := am_room (mc := r'.2.2.1 - h.2.1) (ms := r'.2.2.2.1 - h.2.2.1) F hrk f11
    have hcode : Jvm.Cond.code (am_y a) (am_b a) (am_ml a) none ∈ am_w a := by rw [← (f10 hkd).2, ← am_cw_code (by omega)]; exact List.mem_cons_self
    have hcodeB := hG _ f1
    rw [am_cw_code (by omega), (f10 hkd).2] at hcodeB
    refine ⟨(Value.ref (ad r0) :: As'.map (am_tv g ad)).toArray, ?_⟩
    rw [hstk]
    rcases am_okC_t o1 with hl | hl
    · exact vx_runI (own := am_own mi) (index := idx) (y := am_y a) (bytes := am_b a) (maxL := am_ml a) (ws := am_w a) (n := am_np a - 1) (Ts := am_G) (cc := am_b mi) (nL := am_ml mi) ⟨F.1, F.2.1, F.2.2.1, F.2.2.2.1, hG⟩ hM
        ⟨⟨rfl, rfl, hroom.1, hroom.2, pay_in hG (am_w_good f1), hcode, hcodeB, hG _ f4, f6, hparse, hG _ hl⟩, (f10 hkd).1, hG _ f2⟩ hpre rfl hn hsize rfl (lv_room (by rw [am_sz_tv Ev.2.2.2.2.2.1]; exact hsz)) d ⟨hc1, hc2⟩
    · exact vx_runIN (own := am_own mi) (host := "WolfDeeds") (index := idx) (y := am_y a) (bytes := am_b a) (maxL := am_ml a) (ws := am_w a) (n := am_np a - 1) (Ts := am_G) (cc := am_b mi) (nL := am_ml mi) ⟨F.1, F.2.1, F.2.2.1, F.2.2.2.1, hG⟩ hM
        ⟨⟨⟨rfl, rfl, hroom.1, hroom.2, pay_in hG (am_w_good f1), hcode⟩, hcodeB, hG _ f4, f6, hparse, va_Nw.use rfl (Ev.2.2.2.2.2.2.2.2.2.1 _ hl)⟩, (f10 hkd).1, hG _ f2⟩ hpre rfl hn hsize rfl (lv_room (by rw [am_sz_tv Ev.2.2.2.2.2.1]; exact hsz)) d ⟨hc1, hc2⟩
