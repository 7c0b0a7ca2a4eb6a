theorem am_tin_t {args : Array Value} {s : State} {l : List Jvm.Cond} (h : l.all am_tin = true) (hG : ∀ w ∈ am_G, w.before args s = true) (hN : ∀ w ∈ am_Gn, va_Nw w s) : (∀ w ∈ l, w.before args s = true) ∧ ∀ w ∈ l, vx_ot w = true := by
  have key : ∀ w ∈ l, (w ∈ am_G ∨ w ∈ am_Gn) ∧ vx_ot w = true := fun w hw => by
    have h1 := List.all_eq_true.mp h w hw
    unfold am_tin at h1
    simp only [Bool.and_eq_true, Bool.or_eq_true] at h1
    obtain ⟨⟨h1, h2⟩, h3⟩ := h1
    obtain ⟨v, hv, hw9⟩ := List.any_eq_true.mp h1
    obtain rfl := am_weq_ok hw9
    exact ⟨h2.elim (fun z => Or.inl (List.mem_filter.mpr ⟨hv, z⟩)) (fun z => Or.inr (List.mem_filter.mpr ⟨hv, z⟩)), h3⟩
  refine ⟨fun w hw => ?_, fun w hw => (key w hw).2⟩
  rcases (key w hw).1 with z | z
  · exact hG w z
  · have h1 := hN w z
    have h2 := (List.mem_filter.mp z).2
    cases w <;> first | (cases h2; done) | exact va_Nw.use rfl h1
theorem am_ot_good {w : Jvm.Cond} (h : w ∈ am_G) : vx_ot w = true := by
  unfold vx_ot
  rw [(List.mem_filter.mp h).2, Bool.or_true]
theorem am_ini_1 : Jvm.Cond.initialized "java/util/NoSuchElementException" ∈ am_G := am_gw_in (k := 127) (by decide +kernel)
theorem am_ini_2 : Jvm.Cond.initialized "java/lang/IllegalArgumentException" ∈ am_G := am_gw_in (k := 120) (by decide +kernel)
/-- what the tables say of an exception's kind -/
theorem am_exk {e : Nat} (h : e = 1 ∨ e = 2) : (am_atS "WolfDeeds" (am_xc e) (am_xn e) (am_rix e) (am_rx e) am_ns9).all am_tin = true ∧ (decode (am_rx e) 0 = .ok (.aload_n 0, 1) ∧ decode (am_rx e) 1 = .ok (.aload_n 1, 1) ∧ decode (am_rx e) 2 = .ok (.invokespecial (am_rix e), 3) ∧ decode (am_rx e) 5 = .ok (.return_, 1))
    ∧ Bundle.fit (am_xn e) = true ∧ Jvm.Cond.initialized (am_xn e) ∈ am_G := by
  have h5 := am_ok_x5
  simp only [Bool.and_eq_true] at h5
  rcases h with rfl | rfl
  · exact ⟨am_ok_x1, am_ok_x3, h5.1.1, am_ini_1⟩
  · exact ⟨am_ok_x2, am_ok_x4, h5.1.2, am_ini_2⟩
/-- an exception is made, and thrown out -/
theorem am_thrown {l : Launch} {g : am_D} {ρ mi : Nat} {p : Program} {e : Env} {R : Room} {s : State} {m : MethodId} {args : Array Value} {below : List Frame} {meth : Method} {c : Code} {A free : Nat → Prop} {ad : Nat → Nat} {H : Heap} {locs : List Loc} {lsm : Array Slot} {cells slots tc ts pc idx n : Nat} {x : Int32} {e0 : Nat} {Qc : Array Value → State → Outcome → State → Prop} {XC : String → State → State → Prop}
    (F : am_Fx l ρ mi p R s m args meth c A) (Ev : am_Ev g ad A s) (S : va_S A s.heap H locs) (hf : am_f mi pc = some (.new idx, n, x, 16 + e0)) (hsz : lsm.size = am_ml mi) (hc : cells + 1 = tc) (hs : slots + 6 = ts) (htc : tc ≤ R.cells) (hts : ts ≤ R.slots)
    (hfree : ∀ q, A q → free q) (hX : ∀ t : State, s.vm.Alike t.vm → H.size ≤ t.heap.size → (∀ q : Nat, q < H.size → t.heap[q]? = H[q]?) → XC (am_xn e0) s t) :
    W p l e R s m args below meth c H locs cells slots (vx_MQ below Qc XC args s tc ts free) (F0 m pc lsm []) := by
  obtain ⟨d, o, hmi, -⟩ := am_okf hf
  simp only [am_okx, Bool.and_eq_true] at o
  obtain ⟨on, o⟩ := o
  obtain rfl : n = 3 := Nat.eq_of_beq_eq_true on
  have hb16 : Nat.blt (16 + e0) 16 = false := Bool.eq_false_iff.mpr fun z => by
    have := Nat.le_of_ble_eq_true z
    omega
  rw [hb16] at o
  have o : (decide (am_own mi = "WolfDeeds") && am_gw (am_hn (mi * 4096 + pc)) (.classLink (am_own mi) idx (am_xn (16 + e0 - 16)))
        && decide (decode (am_b mi) (pc + 3) = .ok (.dup, 1)) && (match decode (am_b mi) (pc + 4) with
          | .ok (.ldc s, 2) => decide (decode (am_b mi) (pc + 6) = .ok (.invokespecial (am_xc (16 + e0 - 16)), 3)) && decide (decode (am_b mi) (pc + 9) = .ok (.athrow, 1)) && am_xs s
          | .ok (.ldc_w s, 3) => decide (decode (am_b mi) (pc + 7) = .ok (.invokespecial (am_xc (16 + e0 - 16)), 3)) && decide (decode (am_b mi) (pc + 10) = .ok (.athrow, 1)) && am_xs s
          | _ => false) && (am_hh mi).isEmpty && (Nat.beq (16 + e0) 17 || Nat.beq (16 + e0) 18)) = true := o
  rw [show 16 + e0 - 16 = e0 by omega] at o
  simp only [Bool.and_eq_true, decide_eq_true_eq, Bool.or_eq_true] at o
  obtain ⟨⟨⟨⟨⟨o1, o2⟩, o3⟩, o4⟩, o5⟩, o6⟩ := o
  have he0 : e0 = 1 ∨ e0 = 2 := o6.elim (fun z => Or.inl (by have := Nat.eq_of_beq_eq_true z; omega)) (fun z => Or.inr (by have := Nat.eq_of_beq_eq_true z; omega))
  obtain ⟨k1, ⟨x0, x1, x2, x5⟩, k3, k4⟩ := am_exk he0
  have hG := F.2.2.2.2.1
  obtain ⟨hat, hot⟩ := am_tin_t (args := args) k1 hG Ev.2.2.2.2.2.2.2.2.2.1
  have hE : c.exceptionTable.toList = tableOf (am_hh mi) := F.2.2.2.2.2.2.2.1 (fun e => by rw [e] at o1; exact absurd o1 (by decide +kernel))
  have hcl := am_gw_in o2
  have hgood : ∀ w ∈ Jvm.Cond.classLink "WolfDeeds" idx (am_xn e0) :: Jvm.Cond.initialized (am_xn e0) :: am_atS "WolfDeeds" (am_xc e0) (am_xn e0) (am_rix e0) (am_rx e0) am_ns9, vx_ot w = true := by
    intro w hw
    rcases List.mem_cons.mp hw with rfl | hw
    · rw [o1] at hcl
      exact am_ot_good hcl
    · rcases List.mem_cons.mp hw with rfl | hw
      · exact am_ot_good k4
      · exact hot w hw
  have hfr : ∀ (q : Nat × Nat × Nat × Nat), ∀ x ∈ c.exceptionTable.toList, False := fun _ x hx => by
    rw [hE, List.isEmpty_iff.mp o5] at hx
    cases hx
  have hns : ∀ n ∈ am_ns9, Bundle.fit n = true := by
    have h5 := am_ok_x5
    simp only [Bool.and_eq_true] at h5
    exact List.all_eq_true.mp h5.2
  have r1 := F.2.2.2.2.2.2.2.2.2.2.1
  have r2 := F.2.2.2.2.2.2.2.2.2.2.2.1
  have hstrs : ∀ si, am_xs si = true → ∃ text sa, vk_R "WolfDeeds" si text sa s := fun si hx => by
    obtain ⟨k, hk, hx⟩ := List.any_eq_true.mp hx
    rw [Bool.and_eq_true, decide_eq_true_eq] at hx
    have := Ev.2.2.1 k (List.mem_range.mp hk)
    rw [hx.1, Nat.eq_of_beq_eq_true hx.2] at this
    exact ⟨_, _, this⟩
  rw [o1] at hcl
  have hown := F.2.2.2.1
  rw [o1] at hown
  split at o4
  · rename_i si hd
    simp only [Bool.and_eq_true, decide_eq_true_eq] at o4
    obtain ⟨⟨q1, q2⟩, q3⟩ := o4
    obtain ⟨text, sa, hstr⟩ := hstrs si q3
    exact am_throwS F.1 F.2.1 F.2.2.2.2.2.2.2.2.1 x0 x1 x2 x5 hown k3 hns (hG _ hcl) (hG _ k4) hstr hat hgood Ev.2.2.2.2.2.2.1 Ev.2.2.2.2.2.2.2.1 S (hsz.trans F.2.2.1.symm) d o3 hd q1 q2 (fun x hx => absurd hx (hfr (0, 0, 0, 0) x)) (by
      show 2 + 3 < R.frames
      omega) (by
      show 0 + (13 * (2 + 1) + 43) ≤ R.locals
      omega) (by omega) (by omega) F.2.2.2.2.2.2.1 hX (fun z hz => hfree _ (S.2.2 z hz)) (by omega) (by omega)
  · rename_i si hd
    simp only [Bool.and_eq_true, decide_eq_true_eq] at o4
    obtain ⟨⟨q1, q2⟩, q3⟩ := o4
    obtain ⟨text, sa, hstr⟩ := hstrs si q3
    exact am_throwSW F.1 F.2.1 F.2.2.2.2.2.2.2.2.1 x0 x1 x2 x5 hown k3 hns (hG _ hcl) (hG _ k4) hstr hat hgood Ev.2.2.2.2.2.2.1 Ev.2.2.2.2.2.2.2.1 S (hsz.trans F.2.2.1.symm) d o3 hd q1 q2 (fun x hx => absurd hx (hfr (0, 0, 0, 0) x)) (by
      show 2 + 3 < R.frames
      omega) (by
      show 0 + (13 * (2 + 1) + 43) ≤ R.locals
      omega) (by omega) (by omega) F.2.2.2.2.2.2.1 hX (fun z hz => hfree _ (S.2.2 z hz)) (by omega) (by omega)
  · cases o4
/-- a method's contract, out of its body -/
theorem am_con {l : Launch} {g : am_D} {B : am_B} {mj : Nat} {args : List Value} {h : am_H} {r : am_Q} (hst : l.stackTraces = false) (h1 : mj < am_nm) (h2 : am_kd mj ≠ 9) (hP : am_P l g B (am_rk mj args) mj 0 (am_pad (am_ml mj) (am_la args)) [] h r) : am_Con l g B mj args h r := by
  intro hla ad sz
  obtain ⟨f1, f2, f3, f4, f5, f6, f7, f8, f9, f10, f11, f12, f13⟩ := am_mF h1 h2
  have body : ∀ p e s m args' below meth c s₁, BodyLoose p l (am_y mj) (headSpec (am_w mj) (am_rm (am_rk mj args) (r.2.2.1 - h.2.1) (r.2.2.2.1 - h.2.2.1))) (am_b mj) (am_ml mj) (am_rt mj) e s m args' below meth c s₁ → c.maxLocals = am_ml mj → c.exceptionTable.toList = tableOf (am_hh mj) → va_Pc (args.map (am_tv g ad)) (am_Pr g B ad h sz) args' s →
      W p l e (headSpec (am_w mj) (am_rm (am_rk mj args) (r.2.2.1 - h.2.1) (r.2.2.2.1 - h.2.2.1))).room s m args' below meth c s.heap [] 0 0 (vx_MQ below (am_Qc g B ad h sz r) (am_Xc g B ad h sz r) args' s (r.2.2.1 - h.2.1) (r.2.2.2.1 - h.2.2.1) (va_A (am_ws g ad h) sz)) (entryFrame m args' (am_ml mj)) := by
    rintro p e s m args' below meth c s₁ Bd hml hE ⟨rfl, hsz, Wd, Ev⟩
    have hts := atoms_spec (ws := am_w mj) Bd.pre
    have hown : s.vm.findClass (am_own mj) = some m.cls := findClass_of_methodNamed Bd.named
    have hname : meth.name = (am_y mj).name := (name_of_methodNamed Bd.named Bd.method).1
    obtain ⟨lsm, hls, hlr⟩ := am_start Ev.2.2.2.2.2.1 ad m args (am_ml mj) hla
    rw [hls]
    have hSf : va_S (va_A (am_ws g ad h) sz) s.heap s.heap [] := va_S.rf
    have Fx : am_Fx l (am_rk mj args) mj p (headSpec (am_w mj) (am_rm (am_rk mj args) (r.2.2.1 - h.2.1) (r.2.2.2.1 - h.2.2.1))).room s m (args.map (am_tv g ad)).toArray meth c (va_A (am_ws g ad h) sz) :=
      ⟨Bd.exec, Bd.bytes, hml, hown, fun w hw => hts w (List.mem_cons_of_mem _ hw), Bd.returns, Bd.notSynchronized, fun _ => hE, hst, fun q hq => Or.inr (by rw [← hsz]; exact hq), Nat.le_refl _, Nat.le_refl _, fun _ => hname⟩
    refine hP.2 p e _ s m _ below meth c (va_A (am_ws g ad h) sz) ad s.heap [] lsm 0 0 h.1 ad (r.2.2.1 - h.2.1) (r.2.2.2.1 - h.2.2.1) _ Fx Wd Ev hSf hlr (Nat.le_refl _) (fun i _ => rfl) (Nat.zero_add _) (Nat.zero_add _) (Nat.le_refl _) (Nat.le_refl _) ⟨?_, ?_, ?_⟩
    · intro v ad1 H1 locs1 pc1 lsm1 hv hag Wd1 S1 hR
      have hq : ∀ t : State, t.heap = H1 → s.WarmedH t.vm → am_Qc g B ad h sz r (args.map (am_tv g ad)).toArray s (.returned (v.map (am_tv g ad1))) t := fun t ht hW =>
        ⟨⟨v, ad1, hv, rfl, hag, by rw [ht]; exact Wd1⟩, S1.F ht⟩
      refine vx_ret ?_
      match v, hR, hq with
      | none, hR, hq => exact W.vret Bd.exec Bd.bytes (Bd.returns.trans hR.2) hq S1.2.2 hR.1
      | some (.int x), hR, hq =>
        obtain ⟨hd, ty, hty, hnw⟩ := hR
        exact W.zret Bd.exec Bd.bytes (Bd.returns.trans hty) hnw hq S1.2.2 hd
      | some (.long x), hR, hq => exact W.lret Bd.exec Bd.bytes (Bd.returns.trans hR.2) hq S1.2.2 hR.1
    · intro e0 ad1 H1 locs1 pc1 lsm1 rest q ce hv hag Wd1 S1 hce hcv hcl hhd
      have hhh : am_hh mj = [] := by
        unfold am_hok at f13
        rw [hhd] at f13
        split at f13
        · assumption
        · rename_i z; cases z
        · rename_i z; cases z
        · cases f13
      refine vx_out (fun x hx => ?_) Bd.notSynchronized hce hcv hcl (fun t ht hA => ⟨⟨e0, ad1, hv, rfl, hag, by rw [ht]; exact Wd1⟩, S1.F ht⟩) S1.2.2 (Nat.le_refl _) (Nat.le_refl _)
      rw [hE, hhh] at hx
      cases hx
    · intro e0 ad1 H1 locs1 pc1 lsm1 cells slots idx n x hv hag Wd1 S1 hf hsz1 hc1 hs1
      refine am_thrown Fx (Ev.ad fun i hi => hag i (Or.inr ?_)) S1 hf hsz1 hc1 hs1 (Nat.le_refl _) (Nat.le_refl _) (fun q hq => hq) fun t hA hsz2 hq => ⟨⟨e0, ad1, hv, rfl, hag, Wd1.grow hq⟩, Nat.le_trans S1.1 hsz2, fun q q1 q2 => ?_⟩
      · have := Wd1.2.2.2.2.1
        omega
      · rw [hq q (Nat.lt_of_lt_of_le q1 S1.1)]
        exact S1.2.1 q q1 q2
  by_cases hk : am_kd mj = 3
  · refine vx_ofWH (hh := am_hh mj) (cc := am_b mj) (maxL := am_ml mj) (ret := am_rt mj) (ws' := am_G) f7 (by unfold am_w; rw [am_cw_with hk]) (fun p e s m args' below meth c s₁ Bd hml hp => body p e s m args' below meth c s₁ Bd hml ?_ hp)
    exact vx_table (x := am_y mj) Bd (atoms_spec (ws := am_w mj) Bd.pre (.codeWith (am_y mj) (am_b mj) (am_ml mj) (am_rt mj) (am_hh mj)) (by unfold am_w; rw [am_cw_with hk]; exact List.mem_cons_self))
  · refine vx_ofW (cc := am_b mj) (maxL := am_ml mj) (ret := am_rt mj) (ws' := am_G) f7 (by unfold am_w; rw [am_cw_code hk]) (fun p e s m args' below meth c s₁ Bd hml ht hp => body p e s m args' below meth c s₁ Bd hml ?_ hp)
    rw [f12 hk]
    exact List.eq_nil_iff_forall_not_mem.mpr ht
/-- the mask forgets locals only -/
theorem am_P.ms {l : Launch} {g : am_D} {B : am_B} {ρ mi pc : Nat} {ls : am_L} {st : List Value} {h : am_H} {r : am_Q} {m : Option (List Bool)} (k : am_P l g B ρ mi pc (am_ms m ls) st h r) : am_P l g B ρ mi pc ls st h r :=
  ⟨k.1, fun p e R s m args below meth c A ad H locs lsm cells slots n0 ad0 tc ts Q F Wd Ev S hl => k.2 p e R s m args below meth c A ad H locs lsm cells slots n0 ad0 tc ts Q F Wd Ev S (hl.ms _)⟩
theorem am_ev_nm {B : am_B} {f ρ mi pc : Nat} {ls : am_L} {st : List Value} {h : am_H} {r : am_Q} (e : am_ev B f ρ mi pc ls st h = some r) : mi < am_nm := by
  cases f with
  | zero => cases e
  | succ f =>
    rw [am_ev] at e
    unfold am_s1 at e
    split at e
    · cases e
    · rename_i hf
      exact (am_okf hf).2.2.1
/-- THE MACHINE FOLLOWS -/
theorem am_sound {l : Launch} {g : am_D} {B : am_B} (hmd : am_md B) (hst : l.stackTraces = false) : ∀ (f ρ mi pc : Nat) (ls : am_L) (st : List Value) (h : am_H) (r : am_Q), am_ev B f ρ mi pc ls st h = some r → am_P l g B ρ mi pc ls st h r
  | 0, _, _, _, _, _, _, _, e => by cases e
  | f + 1, ρ, mi, pc, ls, st, h, r, e => by
    rw [am_ev] at e
    refine am_P.ms (m := am_mt mi pc) (am_step hmd (k := fun pc' ls' st' g => am_ev B f ρ mi pc' ls' st' g) (call := fun mj args g => am_ev B f (am_rk mj args) mj 0 (am_pad (am_ml mj) (am_la args)) [] g) (fun pc ls st h r e => am_sound hmd hst f _ _ _ _ _ _ _ e) (fun mj args h r e => ?_) e)
    have hP := am_sound (g := g) hmd hst f _ _ _ _ _ _ _ e
    refine ⟨?_, hP.1, fun h2 => ?_⟩
    · exact am_ev_nm e
    · exact am_con hst (am_ev_nm e) h2 hP
