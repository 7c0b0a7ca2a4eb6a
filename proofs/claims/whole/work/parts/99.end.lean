/-! THE CLAIM OUT OF ONE WALK OF THE LAW'S BODY. Your part is whole_start (and what it stands on); all else here is the same for every law, but numbers. -/
def R_law : String := "WolfDeedsLaw"
def lw_P (b : Addr) (xs : List Int32) (args : Array Value) (s : State) : Prop := args = #[.ref b] ∧ s.IntsAt b xs ∧ xs.length ≤ 3072 ∧ (Jvm.Cond.and given_1 narrow_1).before args s = true
def lw_Q (_ : Array Value) (s : State) (o : Outcome) (t : State) : Prop := o = .returned (some (.int 1)) ∧ Framed s o t [] 601024 7293034
def lw_Z (below : List Frame) (a : Array Value) (s : State) : State → Prop := fun t => ∃ o, t.status = .running ∧ Ended t below o ∧ lw_Q a s o t
/-- the law's own end, with 1 on the stack, nothing written that was there before, its room as the claim has it -/
theorem lw_ret {p : Program} {l : Launch} {e : Env} {s : State} {m : MethodId} {below : List Frame} {meth : Method} {c : Code} {b : Nat} (hx : p.tables.exec = Jvm.exec) (hb : c.code = code) (hr : meth.sig.returnType = ret) (hlocks : meth.locks = false) {pc : Nat} {H : Heap} {ls : Array Slot} (hdg : decode code pc = .ok (.ireturn, 1)) : W p l e room_1 s m #[Value.ref b] below meth c H [] 601024 7293034 (lw_Z below #[Value.ref b] s) (F0 m pc ls [.int 1]) := by
  intro T hT X
  obtain ⟨fs, hret, hrun, hended, hW, hframe⟩ := X.leave (v := some (.int 1)) (hlocks := hlocks) (fun h => by rw [hr] at h; cases h)
  have hmeth' : T.vm.method? m = some meth := X.method'
  refine ⟨T.setFrames fs, ?_, .returned (some (.int 1)), hrun, hended, rfl, ⟨_, rfl⟩, hW, hframe⟩
  jvm_step X.here [X.here.top, hx, hb, hdg, hmeth', hr, ret, narrow_b1]
  (try refine ⟨rfl, ?_⟩); (try refine ⟨rfl, ?_⟩)
  first | (intro acts; rw [hret _ acts rfl rfl rfl]) | rw [hret _ _ rfl rfl rfl]
  exact Steps.refl _
/-- what holds at the law's entry: the machine, the code, the tables' words (any of lw_tbl by 'hts w (by decide +kernel)'), the script of L ints xs at the cell b, what the Statement gives of the start (any of its parts by flat_of_before) -/
def lw_At (p : Program) (s : State) (m : MethodId) (meth : Method) (c : Code) (b L : Nat) (xs : Nat → Int32) : Prop :=
  p.tables.exec = Jvm.exec ∧ c.code = code ∧ meth.sig.returnType = ret ∧ c.maxLocals = 7 ∧ s.vm.findClass R_law = some m.cls ∧ (∀ w ∈ lw_tbl, w.before #[Value.ref b] s = true) ∧ va_X b L xs s s.heap ∧ b < s.heap.size ∧ meth.locks = false ∧ (Jvm.Cond.and given_1 narrow_1).before #[Value.ref b] s = true
-- ===== YOUR PART BEGINS =====
theorem am_arr {s : State} {args : Array Value} {ty : FieldType} (hne : ∀ C, ty ≠ .object C) (h : (Jvm.Cond.arrayClass ty).before args s = true) : ∃ cA : ClassId, ArrOfT s cA ty ∧ va_RA s cA ty := by
  obtain ⟨cA, kA, comp, f1, f2, f3⟩ := Cond.arrayClass_spec h
  refine ⟨cA, fun N z => ⟨(fun k h => by cases h), kA, f2, comp, f3⟩, ?_⟩
  cases ty with
  | object C => exact absurd rfl (hne C)
  | _ => exact f1
/-- YOUR PART: from the entry, for every script of at most 3072 ints, the law comes to its end with true ('hflags': the launch's flags, for a law that throws: no stack traces) -/
theorem whole_start {p : Program} {e : Env} {s : State} {m : MethodId} {below : List Frame} {meth : Method} {c : Code} (l : Launch) (hflags : l.flags = flags0) {b L : Nat} {xs : Nat → Int32} (hL : L ≤ 3072) (C0 : lw_At p s m meth c b L xs) : W p l e room_1 s m #[Value.ref b] below meth c s.heap [] 0 0 (lw_Z below #[Value.ref b] s) (entryFrame m ([Value.ref b] : List Value).toArray 7) := by
  obtain ⟨hx, hb, hr, hml, hown, hts, hX, hbl, hlocks, hgv⟩ := id C0
  have hst : l.stackTraces = false := by
    unfold Launch.stackTraces
    rw [hflags]
    decide +kernel
  have hA : ∀ q : Nat, s.heap.size ≤ q → (fun q : Nat => s.heap.size ≤ q) q := fun _ h => h
  have hnA : ∀ a : Nat, a < s.heap.size → ¬ (fun q : Nat => s.heap.size ≤ q) a := fun a h => Nat.not_le.mpr h
  -- classes
  have hcls : ∀ k : Nat, ∃ d : ClassId × (Nat → Nat), ∀ q : vw_C, vwCl[k]? = some q → u_Kn s q.1 q.2.1 q.2.2 d.1 d.2 := by
    intro k
    by_cases hk : k < 10
    · have h6 := List.all_eq_true.mp am_c6_all k (List.mem_range.mpr hk)
      have hkc := List.all_eq_true.mp ok_c k (List.mem_range.mpr hk)
      unfold am_okcl at hkc
      split at h6
      · rename_i q hq
        rw [hq] at hkc
        obtain ⟨C, T, N⟩ := q
        simp only [Bool.and_eq_true] at hkc
        obtain ⟨cC, iS, hKn⟩ := u_known (ws := lw_tbl) (C := C) (T := T) (N := N) (n := (am_ik.getD k (0, 0)).2) hts (fun w hw => by
          obtain ⟨j, hj, rfl⟩ := List.mem_map.mp hw
          have := List.all_eq_true.mp hkc.1.2 j hj
          simp only [Bool.and_eq_true] at this
          exact (List.mem_filter.mp (am_gw_in this.1.1)).1) (hts _ (am_wk_t h6))
        refine ⟨(cC, iS), fun q hq2 => ?_⟩
        rw [← am_nth_get, hq] at hq2
        cases hq2
        exact hKn
      · cases h6
    · refine ⟨(0, fun _ => 0), fun q hq => ?_⟩
      have := (List.getElem?_eq_some_iff.mp hq).1
      exact absurd this hk
  obtain ⟨dd, hdd⟩ := Classical.axiomOfChoice hcls
  obtain ⟨cI, hI⟩ := am_arr (s := s) (ty := .int) (fun C h => by cases h) (hts _ (am_wk_t am_q8))
  obtain ⟨cZ, hZ⟩ := am_arr (s := s) (ty := .boolean) (fun C h => by cases h) (hts _ (am_wk_t am_q9))
  obtain ⟨cJ, hJ⟩ := am_arr (s := s) (ty := .long) (fun C h => by cases h) (hts _ (am_wk_t am_q10))
  -- strings
  have h9 : ∀ i : Nat, i < am_nstr → am_c9 i = true := fun i hi => List.all_eq_true.mp am_c9_all i (List.mem_range.mpr hi)
  obtain ⟨adK, adV, hS, hSe⟩ := vk_Sof (N := am_nstr) (tm := am_tm) (len := am_sl) (byt := am_sb) (A := fun q : Nat => s.heap.size ≤ q) (args := #[Value.ref b]) (s := s)
    (fun i hi => by
      have := List.all_eq_true.mp am_c7_all i (List.mem_range.mpr hi)
      simp only [Bool.and_eq_true, decide_eq_true_eq] at this
      omega)
    (fun i hi => by have := h9 i hi; unfold am_c9 at this; simp only [Bool.and_eq_true] at this; exact am_fis_t this.1.1.1.1 hgv)
    (fun i hi => by have := h9 i hi; unfold am_c9 at this; simp only [Bool.and_eq_true] at this; exact am_fis_t this.1.1.1.2 hgv)
    (fun i hi => by have := h9 i hi; unfold am_c9 at this; simp only [Bool.and_eq_true] at this; exact am_fis_t this.1.1.2 hgv)
    (fun i hi => by have := h9 i hi; unfold am_c9 at this; simp only [Bool.and_eq_true] at this; exact am_fis_t this.1.2 hgv)
    (fun i hi j hj => by have := h9 i hi; unfold am_c9 at this; simp only [Bool.and_eq_true] at this; exact am_fis_t (List.all_eq_true.mp this.2 j (List.mem_range.mpr hj)) hgv)
    (fun i j hi hj hij => by
      have := List.all_eq_true.mp (List.all_eq_true.mp am_c8_all i (List.mem_range.mpr hi)) j (List.mem_range.mpr hj)
      unfold am_c8 at this
      rw [Bool.or_eq_true] at this
      rcases this with z | z
      · exact absurd (Nat.eq_of_beq_eq_true z) hij
      · cases hc : Nat.beq ((am_pr.getD i []).getD j 0 % 2) 0 with
        | true => rw [hc] at z; exact Or.inl (am_fis_t z hgv)
        | false => rw [hc] at z; exact Or.inr (am_fis_t z hgv)) hnA
  -- statics
  obtain ⟨V0, hV0, hV1⟩ := Cond.isRef_spec (am_fis_t am_g2 hgv)
  have hVc : V0.category = 1 := by
    cases V0 <;> first | rfl | (simp [Value.isRef] at hV1)
  obtain ⟨ad, had⟩ : ∃ ad : Nat → Nat, ad = fun i => if i = 2000 then b else if i < 1100 then adK (i - 1000) else adV (i - 1100) := ⟨_, rfl⟩
  obtain ⟨g, hg⟩ : ∃ g : am_D, g = (((fun k => (dd k).1), (fun k => (dd k).2)), (cI, cZ, cJ), V0, (b, L, xs)) := ⟨_, rfl⟩
  have hK : va_K g.1 vwCl (am_tys g) s := by
    rw [hg]
    refine ⟨fun k q hq => hdd k q hq, fun k q hk => ?_⟩
    match k, hk with
    | 0, hk => cases hk; exact hI
    | 1, hk => cases hk; exact hZ
    | 2, hk => cases hk; exact hJ
  have had1 : ∀ i, i < 100 → ad (1000 + i) = adK i := fun i hi => by
    rw [had]
    show (if 1000 + i = 2000 then b else if 1000 + i < 1100 then adK (1000 + i - 1000) else adV (1000 + i - 1100)) = _
    rw [if_neg (by omega), if_pos (by omega), show 1000 + i - 1000 = i by omega]
  have had2 : ∀ i, i < 100 → ad (1100 + i) = adV i := fun i hi => by
    rw [had]
    show (if 1100 + i = 2000 then b else if 1100 + i < 1100 then adK (1100 + i - 1000) else adV (1100 + i - 1100)) = _
    rw [if_neg (by omega), if_neg (by omega), show 1100 + i - 1100 = i by omega]
  have hns : am_nstr < 100 := by decide +kernel
  have Ev : am_Ev g ad (fun q : Nat => s.heap.size ≤ q) s := by
    refine ⟨hK, ?_, fun k hk => ?_, va_Zof (hts _ (am_wk_t am_q1)) (hts _ (am_wk_t am_q2)) (va_eqt (am_fis_t am_g1 hgv)) hnA, ?_, ?_, vx_Zqof (hts _ (am_wk_t am_q5)) (hts _ (am_wk_t am_q7)) (am_fis_t am_g3 hgv) hnA, vx_Zqof (hts _ (am_wk_t am_q6)) (hts _ (am_wk_t am_q7)) (am_fis_t am_g4 hgv) hnA, va_Nc.of (am_fis_t am_g5 hgv), fun w hw => ?_, ?_, ?_, ?_, ?_⟩
    · refine ⟨fun i hi => ?_, fun i j hi hj e => ?_⟩
      · have := hS.1 i hi
        rw [← had1 i (by omega), ← had2 i (by omega)] at this
        exact this
      · dsimp only at e
        rw [had1 i (by omega), had1 j (by omega)] at e
        exact hS.2 i j hi hj e
    · have := List.all_eq_true.mp am_c7_all k (List.mem_range.mpr hk)
      simp only [Bool.and_eq_true] at this
      rw [had1 k (by omega)]
      exact vk_R.of (hts _ (am_wk_t this.1)) (hSe k hk)
    · rw [hg]
      exact va_Zof (hts _ (am_wk_t am_q3)) (hts _ (am_wk_t am_q4)) hV0 hnA
    · rw [hg]; exact hVc
    · have h1 := hts w (List.mem_filter.mp hw).1
      have h2 := (List.mem_filter.mp hw).2
      cases w <;> first | (cases h2; done) | exact va_Nw.of rfl h1
    · rw [hg]; exact hX
    · rw [hg]; exact Nat.not_le.mpr hbl
    · rw [hg, had]; rfl
    · rw [hg]; show L < 2 ^ 31; omega
  have Wd : am_Wd g am_B0 ad (am_h9 L xs) (fun q : Nat => s.heap.size ≤ q) s.heap := by
    refine ⟨fun k q hk => ?_, ⟨fun i j p q hi => ?_, fun k q hk => ?_⟩, rfl, ⟨fun i k q hq => (nomatch hq), fun i k q hi => absurd hi (Nat.not_lt_zero _)⟩, Nat.zero_le _, ?_, ?_⟩
    · cases hk
    · cases hi
    · cases hk
    · rw [hg]; rfl
    · rw [hg]; rfl
  obtain ⟨lsm, hls, hlr⟩ := am_start (g := g) (by rw [hg]; exact hVc) ad m [.ref 2000] 7 (by decide)
  have had3 : ad 2000 = b := by rw [had]; rfl
  have hls : entryFrame m ([Value.ref b] : List Value).toArray 7 = F0 m 0 lsm [] := by
    rw [← had3]; exact hls
  rw [hls]
  obtain ⟨r, hr1, hr2, hr3, hr4⟩ := am_main hL xs
  have hP : am_P l g am_B0 (am_rs 299) 299 0 am_ls9 [] (am_h9 L xs) r := by
    refine am_el_sound (stop := 23) (K := am_KM (am_rs 299) 299) hst (am_KM_P hst _ _) 600 0 am_ls9 [] (am_h9 L xs) r ?_
    rw [am_begin]
    unfold am_KM
    rw [(am_h1_n L xs).1, am_h1_rs]
    exact hr1
  have Fx : am_Fx l (am_rs 299) 299 p room_1 s m #[Value.ref b] meth c (fun q : Nat => s.heap.size ≤ q) := by
    refine ⟨hx, hb, hml, hown, fun w hw => hts w (List.mem_filter.mp hw).1, hr, hlocks, fun h => absurd rfl h, hst, hA, ?_, ?_, fun h => absurd rfl h⟩
    · exact Nat.le_of_ble_eq_true (by decide +kernel)
    · exact Nat.le_of_ble_eq_true (by decide +kernel)
  refine hP.2 p e room_1 s m #[Value.ref b] below meth c (fun q : Nat => s.heap.size ≤ q) ad s.heap [] lsm 0 0 0 ad r.2.2.1 r.2.2.2.1 (lw_Z below #[Value.ref b] s) Fx Wd Ev va_S.rf hlr (Nat.le_refl _) (fun i _ => rfl) (Nat.zero_add _) (Nat.zero_add _) hr3 hr4 ⟨?_, ?_, ?_⟩
  · intro v ad1 H1 locs1 pc1 lsm1 hv hag Wd1 S1 hR
    rw [hr2] at hv
    cases hv
    refine va_forget (fun q hq => S1.2.2 q hq) ?_
    refine W.widen (k := 601024) (n := 7293034) hr3 hr4 ?_
    exact lw_ret hx hb hr hlocks hR.1
  · intro e0 ad1 H1 locs1 pc1 lsm1 rest q ce hv
    rw [hr2] at hv
    cases hv
  · intro e0 ad1 H1 locs1 pc1 lsm1 cells slots idx n x hv
    rw [hr2] at hv
    cases hv
-- ===== YOUR PART ENDS =====
set_option maxHeartbeats 4000000 in
theorem lw_walk (l : Launch) (hflags : l.flags = flags0) (b : Addr) (xs : List Int32) : MetFree l x (headSpec (Jvm.Cond.code x code maxLocals ret :: tables_1) room_1) (lw_P b xs) (fun _ _ _ _ _ => True) lw_Q := by
  refine MetFree.of_bodyS (code := code) (maxLocals := maxLocals) (ret := ret) (by decide) ?_ ?_
  · intro args s m h hn
    obtain ⟨meth, c, h1, h2, h3, h4, h5, h6, -, -⟩ := Cond.code_spec hn (atoms_spec (ws := Jvm.Cond.code x code maxLocals ret :: tables_1) h _ List.mem_cons_self)
    exact ⟨meth, c, h1, h2, h3, h4, h5, h6⟩
  · intro p e s m args below meth c s₁ B hml0 hP _
    obtain ⟨rfl, hx, hbd, hgv⟩ := hP
    obtain ⟨scr, harrAt, hlist, hof, hsmall⟩ := hx
    obtain ⟨hcb, hkn, -, -⟩ := State.arrayAt?_spec harrAt
    have hown : s.vm.findClass R_law = some m.cls := findClass_of_methodNamed B.named
    have hts0 : ∀ c ∈ (Jvm.Cond.code x code maxLocals ret :: tables_1), c.before #[Value.ref b] s = true := atoms_spec (ws := Jvm.Cond.code x code maxLocals ret :: tables_1) B.pre
    have hts : ∀ w ∈ lw_tbl, w.before #[Value.ref b] s = true := k2_hts_sels lw_privs (fun w hw => hts0 w (List.mem_cons_of_mem _ hw)) lw_privs_ok
    have hml : c.maxLocals = 7 := B.maxLocals_eq (hts0 _ List.mem_cons_self)
    have X₀ : Stand p l e room_1 s m #[Value.ref b] below meth c s₁ [] 0 0 := Stand.of_body B
    have hh0 : s₁.heap = s.heap := by rw [B.state]; rfl
    have hsz : scr.slots.size = xs.length := by rw [← Array.length_toList, hlist, List.length_map]
    have hval : ∀ j : Nat, j < xs.length → scr.slots[j]? = some (.int (xs.getD j 0)) := fun j hj => by
      rw [← Array.getElem?_toList, hlist]
      simp [hj]
    have hbl : b < s.heap.size := (Array.getElem?_eq_some_iff.mp hcb).1
    have hX : va_X b xs.length (fun j => xs.getD j 0) s s.heap := ⟨scr, hcb, hof, hkn, hsz, hval⟩
    have K : W p l e room_1 s m #[Value.ref b] below meth c s₁.heap [] 0 0 (lw_Z below #[Value.ref b] s) (entryFrame m ([Value.ref b] : List Value).toArray 7) := by
      rw [hh0]
      exact whole_start l hflags hbd ⟨B.exec, B.bytes, B.returns, hml, hown, hts, hX, hbl, B.notSynchronized, hgv⟩
    obtain ⟨t, a1, o, b1, b2, b3⟩ := K s₁ rfl X₀
    exact ⟨t, o, a1, b1, b2, b3⟩
theorem lw_pre_spec {args : Array Value} {s : State} (h : (Jvm.Cond.and given_1 narrow_1).before args s = true) (hr : rest_1_c.before args s = true) : ∃ (b : Addr) (xs : List Int32), lw_P b xs args s := by
  have hs := flat_of_before _ h
  have hq := flat_of_before _ hr
  have hc : (Cond.count 1).before args s = true := hs _ (by decide +kernel)
  have harr : (Cond.arrayOf (.arg 0) .int).before args s = true := hs _ (by decide +kernel)
  have hle : (Cond.le (.length (.arg 0)) (.int 3072)).before args s = true := hs _ (by decide +kernel)
  have hlen : (Cond.isInt (.length (.arg 0))).before args s = true := hq _ (by decide +kernel)
  have hall : (Cond.all (.arg 0) (.isInt (.elem (.arg 0) (.index 0)))).before args s = true := hq _ (by decide +kernel)
  obtain ⟨b, xs, hb, hx⟩ := State.ints_of_pre rfl harr hlen hall
  have hsm : xs.length < 2 ^ 31 := hx.choose_spec.2.2.2
  have hev : (Term.length (.arg 0)).eval args s none [] s = some (.int xs.length.toInt32) := hx.length_eval hb
  have hv := Cond.le_ints hev (show (Term.int 3072).eval args s none [] s = some (.int 3072) from rfl)
  have hd : xs.length.toInt32 ≤ 3072 := by
    simpa [Cond.before, Cond.holds, hv] using hle
  have hN : xs.length ≤ 3072 := (Int32.ofNat_le_ofNat hsm (by decide)).mp (show Int32.ofNat xs.length ≤ Int32.ofNat 3072 from hd)
  exact ⟨b, xs, Cond.one_arg hc (show args[0]? = some (.ref b) from hb), hx, hN, h⟩
theorem lw_comes (l : Launch) (hflags : l.flags = flags0) : Comes l x (Jvm.Cond.code x code maxLocals ret :: tables_1) room_1 (fun tb e args s => Calls_1 tb e args s ∧ rest_1 tb e args s ∧ Pre_1 tb e args s)
    (fun _ _ args s o t => lw_Q args s o t) := by
  intro p e ha hc hk s m args below hf hfit hheap happ hpre
  obtain ⟨b, xs, hP⟩ := lw_pre_spec hpre.2.2 hpre.2.1
  obtain ⟨k, o, h1, h2, h3, hQ⟩ := lw_walk l hflags b xs p e ha hc hk s m args below hf ((Spec.applies_iff_loose hf).mp happ).1 hP trivial
  exact ⟨k, o, h1, h2, h3, hQ⟩
theorem lw_frame {s t : State} {o : Outcome} {args : Array Value} (h : Framed s o t [] 601024 7293034) :
    Framed s o t (fieldLocs frame_1_writes args s ++ arrayLocs frame_1_arrays args s ++ staticLocs frame_1_statics s) 601024 7293034 := h
theorem lw_limb (L : Cond) (hL : ∀ (args : Array Value) (s t : State), L.after args s (.returned (some (.int 1))) t = true) :
    ArmFor flags0 classFile x code maxLocals ret World_1 tables_1 room_1 Calls_1 rest_1 Pre_1
      (fun tb e a s o t => postC L tb e a s o t ∧ Framed s o t (fieldLocs frame_1_writes a s ++ arrayLocs frame_1_arrays a s ++ staticLocs frame_1_statics s) 601024 7293034) := by
  intro l hflags _ _ p e ha hc hk s m args below hf hfit hheap happ hpre
  obtain ⟨k, o, h1, h2, h3, rfl, hF⟩ := lw_comes l hflags p e ha hc hk s m args below hf hfit hheap happ hpre
  exact ⟨k, _, h1, h2, h3, hL args s _, lw_frame hF⟩
theorem i_vc : Claimed_1_1 ∧ Claimed_1_2 := ⟨lw_limb limb_1_1 (fun args s t => by simp [limb_1_1, Cond.after, Cond.holds, Cond.value]), lw_limb limb_1_2 (fun args s t => Cond.after_iff.mpr (by
  first | (rw [show limb_1_2 = Cond.eq .result (.int 1) from rfl, Cond.eq_ints (x := 1) (y := 1) rfl rfl]; simp; done) | (simp [limb_1_2, Cond.value, Term.eval]; done)))⟩
