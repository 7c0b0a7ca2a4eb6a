/-- a call and what follows it -/
theorem am_P.call {l : Launch} {g : am_D} {B : am_B} {ρ mi pc : Nat} {ls : am_L} {st rest : List Value} {h : am_H} {r r' : am_Q} {k : am_K} (hmd : am_md B) (hmi : mi < am_nm) (hk : am_PK l g B ρ mi k) (hle : am_Le h r'.2)
    (hcont : (∃ e0, r'.1 = .inr e0 ∧ am_th e0 r'.2 (am_hd mi) = some r) ∨ ∃ v : Option Value, r'.1 = .inl v ∧ (∀ (g : am_D) (ad : Nat → Nat), (v.map (am_tv g ad)).toList = v.toList.map (am_tv g ad)) ∧ k (pc + 3) ls (v.toList ++ rest) r'.2 = some r)
    (hfl : (!B.2.2 || (am_lok h.1 ls && am_sok h.1 rest)) = true) (hcov : am_cov mi pc = true)
    (run : ∀ (p : Program) (e : Env) (R : Room) (s : State) (m : MethodId) (args : Array Value) (below : List Frame) (meth : Method) (c : Code) (A : Nat → Prop) (ad : Nat → Nat) (H : Heap) (locs : List Loc) (lsm : Array Slot) (cells slots : Nat),
      am_Fx l ρ mi p R s m args meth c A → am_Wd g B ad h A H → am_Ev g ad A s → va_S A s.heap H locs → lsm.size = am_ml mi → cells + (r'.2.2.1 - h.2.1) ≤ R.cells → slots + (r'.2.2.2.1 - h.2.2.1) ≤ R.slots →
      ∃ a9, vx_Run p l e R s m args below meth c H locs cells slots (r'.2.2.1 - h.2.1) (r'.2.2.2.1 - h.2.2.1) (F0 m pc lsm (st.map (am_tv g ad))) (rest.map (am_tv g ad)) (am_Qc g B ad h H.size r' a9) (am_Xc g B ad h H.size r') (va_A (am_ws g ad h) H.size)) : am_P l g B ρ mi pc ls st h r := by
  have hle2 : am_Le r'.2 r.2 := by
    rcases hcont with ⟨e0, -, ht⟩ | ⟨v, -, -, e⟩
    · unfold am_th at ht
      split at ht
      · cases ht; exact am_Le.rf _
      · have key : ∀ (l : List (Nat × Int32)), am_t2 e0 r'.2 l = some r → r.2 = r'.2 := by
          intro l
          induction l with
          | nil => intro z; cases z
          | cons d l ih =>
            intro z
            unfold am_t2 at z
            cases hb : Nat.beq e0 d.1 with
            | true =>
              rw [hb] at z
              have z : ((.inl (some (.int d.2)), r'.2) : am_Q) = r := Option.some.inj z
              rw [← z]
            | false => rw [hb] at z; exact ih z
        rw [key _ ht]
        exact am_Le.rf _
    · exact (hk _ _ _ _ _ e).1
  refine ⟨hle.tr hle2, fun p e R s m args below meth c A ad H locs lsm cells slots n0 ad0 tc ts Q F Wd Ev S hl hn hg hc hs h1 h2 hq => ?_⟩
  obtain ⟨l1, l2, l3⟩ := hle
  obtain ⟨m1, m2, m3⟩ := hle2
  have hA := am_wsA Wd S F.2.2.2.2.2.2.2.2.2.1
  obtain ⟨a9, hrun⟩ := run p e R s m args below meth c A ad H locs lsm cells slots F Wd Ev S hl.1 (by omega) (by omega)
  have hagree : ∀ ad1, am_Ag h.1 ad r'.2.1 ad1 → am_Ag n0 ad0 r'.2.1 ad1 := fun ad1 z i hi => by
    rw [z i (by omega)]
    exact hg i (by omega)
  refine am_callW hrun S hA hA (fun v ad1 H1 locs1 hv hag Wd1 S1 => ?_) (fun e0 ad1 H1 locs1 q ce hv hag Wd1 S1 hce hcv hcl => ?_)
  · rcases hcont with ⟨e0, hv2, -⟩ | ⟨v2, hv2, hmap, ek⟩
    · rw [hv] at hv2; cases hv2
    · rw [hv] at hv2
      cases hv2
      have hsame : ls = ls ∧ (rest.map (am_tv g ad1) = rest.map (am_tv g ad)) ∧ am_lr g ad1 lsm (am_ml mi) ls := by
        cases hb : B.2.2 with
        | true =>
          rw [hb] at hfl
          have hfl : (am_lok h.1 ls && am_sok h.1 rest) = true := hfl
          rw [Bool.and_eq_true] at hfl
          have hd : ∀ i, (i < h.1 ∨ 999 < i) → ad1 i = ad i := fun i hi => hag i (by
            have := Wd1.2.2.2.2.1
            omega)
          exact ⟨rfl, am_sok_map hd hfl.2, hl.ad hd hfl.1⟩
        | false =>
          have hmd2 := hmd.2
          rw [hb] at hmd2
          rcases hmd2 with ⟨-, z⟩ | z
          · cases z
          · have e1 : r'.2.1 = h.1 := by rw [← Wd1.2.2.1, ← Wd.2.2.1]; exact z _ _
            have e2 : ad1 = ad := funext fun i => hag i (by omega)
            rw [e2]
            exact ⟨rfl, rfl, hl⟩
      have hkk := (hk _ _ _ _ _ ek).2 p e R s m args below meth c A ad1 H1 locs1 lsm (cells + (r'.2.2.1 - h.2.1)) (slots + (r'.2.2.2.1 - h.2.2.1)) n0 ad0 tc ts Q F (Wd1.weaken hA)
        (Ev.ad fun i hi => hag i (by
          have := Wd1.2.2.2.2.1
          omega)) S1 hsame.2.2 (by omega) (hagree _ hag) (by omega) (by omega) h1 h2 hq
      rw [List.map_append, hsame.2.1, ← hmap] at hkk
      exact hkk
  · rcases hcont with ⟨e2, hv2, ht⟩ | ⟨v2, hv2, -⟩
    · rw [hv] at hv2
      cases hv2
      have hrr : r.2 = r'.2 := by
        have key : ∀ (l : List (Nat × Int32)), am_t2 e0 r'.2 l = some r → r.2 = r'.2 := by
          intro l
          induction l with
          | nil => intro z; cases z
          | cons d l ih =>
            intro z
            unfold am_t2 at z
            cases hb : Nat.beq e0 d.1 with
            | true =>
              rw [hb] at z
              have z : ((.inl (some (.int d.2)), r'.2) : am_Q) = r := Option.some.inj z
              rw [← z]
            | false => rw [hb] at z; exact ih z
        unfold am_th at ht
        split at ht
        · cases ht; rfl
        · exact key _ ht
      have t1 : cells + (r'.2.2.1 - h.2.1) = tc := by rw [← hc, hrr]
      have t2 : slots + (r'.2.2.2.1 - h.2.2.1) = ts := by rw [← hs, hrr]
      rw [t1, t2]
      refine am_exc hmi F ?_ hq hv ht (hagree _ hag) (Wd1.weaken hA) S1 ⟨hl.1, hl.2.1⟩ hce hcv hcl hcov
      exact Ev.ad fun i hi => (hg i (by
        have := Wd.2.2.2.2.1
        omega)).symm
    · rw [hv] at hv2; cases hv2
theorem am_rc_t {α : Type} {b mj : Nat} {As : List Value} {x : Option α} {z : α} (h : am_rc b mj As x = some z) : x = some z ∧ (am_kd mj = 1 → ∃ (r0 : Nat) (As' : List Value), As = .ref r0 :: As' ∧ ((am_cj mj = 30 ∧ 999 < r0 ∧ r0 < 1000 + am_nstr) ∨ (am_cj mj ≠ 30 ∧ r0 < b ∧ (am_ty r0).1 = am_cj mj)))
    ∧ (am_kd mj = 2 → ∃ (r0 : Nat) (As' : List Value), As = .ref r0 :: As' ∧ r0 < b ∧ (am_ty r0).1 = am_cj mj) := by
  unfold am_rc at h
  split at h
  · rename_i hk
    split at h
    · rename_i r0 As'
      cases hc : Nat.beq (am_cj mj) 30 with
      | true =>
        rw [hc] at h
        obtain ⟨h1, h2⟩ := am_cdT (show am_cd _ x none = some z from h) rfl
        rw [Bool.and_eq_true] at h1
        exact ⟨h2, fun _ => ⟨_, _, rfl, Or.inl ⟨Nat.eq_of_beq_eq_true hc, Nat.le_of_ble_eq_true h1.1, Nat.le_of_ble_eq_true h1.2⟩⟩, fun e => (by rw [hk] at e; cases e)⟩
      | false =>
        rw [hc] at h
        obtain ⟨h1, h2, h3⟩ := am_ret_ch (show am_ch _ _ _ x = some z from h)
        exact ⟨h3, fun _ => ⟨_, _, rfl, Or.inr ⟨fun e => (by rw [e] at hc; cases hc), h1, h2⟩⟩, fun e => (by rw [hk] at e; cases e)⟩
    · cases h
  · rename_i hk
    split at h
    · obtain ⟨h1, h2, h3⟩ := am_ret_ch h
      exact ⟨h3, fun e => (by rw [hk] at e; cases e), fun _ => ⟨_, _, rfl, h1, h2⟩⟩
    · cases h
  · rename_i h1 h2
    exact ⟨h, fun e => absurd e h1, fun e => absurd e h2⟩
theorem am_okC_t {mi pc a idx : Nat} (h : am_okC mi pc a idx = true) : Jvm.Cond.methodLink (am_own mi) idx (am_y a) ∈ am_G ∨ Jvm.Cond.methodLinkNest (am_own mi) idx (am_y a) "WolfDeeds" ∈ am_Gn := by
  unfold am_okC at h
  rw [Bool.or_eq_true] at h
  exact h.elim (fun z => Or.inl (am_gw_in z)) (fun z => Or.inr (am_gn_in z))
theorem am_cw_code {mj : Nat} (h : am_kd mj ≠ 3) : am_cw mj = .code (am_y mj) (am_b mj) (am_ml mj) (am_rt mj) := by
  unfold am_cw
  rw [show Nat.beq (am_kd mj) 3 = false from Bool.eq_false_iff.mpr fun e => h (Nat.eq_of_beq_eq_true e)]
  rfl
theorem am_cw_with {mj : Nat} (h : am_kd mj = 3) : am_cw mj = .codeWith (am_y mj) (am_b mj) (am_ml mj) (am_rt mj) (am_hh mj) := by
  unfold am_cw
  rw [h]
  rfl
/-- a call, by its parts -/
theorem am_cl_t {b : Nat} {fl : Bool} {ρ : Nat} {call : am_C} {mi : Nat} {k : am_K} {ls : am_L} {st : List Value} {h : am_H} {pc a : Nat} {r : am_Q} (e : am_cl b fl ρ call mi k ls st h pc 3 a = some r) :
    ∃ (As rest : List Value) (r' : am_Q), st = As.reverse ++ rest ∧ As.length = am_np a ∧ am_sz rest ≤ 8 ∧ (am_rk a As < ρ ∧ (am_la As).length ≤ am_ml a) ∧ (!fl || (am_lok h.1 ls && am_sok h.1 rest)) = true ∧ call a As h = some r'
      ∧ (am_kd a = 1 → ∃ (r0 : Nat) (As' : List Value), As = .ref r0 :: As' ∧ ((am_cj a = 30 ∧ 999 < r0 ∧ r0 < 1000 + am_nstr) ∨ (am_cj a ≠ 30 ∧ r0 < b ∧ (am_ty r0).1 = am_cj a)))
      ∧ (am_kd a = 2 → ∃ (r0 : Nat) (As' : List Value), As = .ref r0 :: As' ∧ r0 < b ∧ (am_ty r0).1 = am_cj a)
      ∧ ((∃ e0, r'.1 = .inr e0 ∧ am_th e0 r'.2 (am_hd mi) = some r) ∨ ∃ v : Option Value, r'.1 = .inl v ∧ (∀ (g : am_D) (ad : Nat → Nat), (v.map (am_tv g ad)).toList = v.toList.map (am_tv g ad)) ∧ k (pc + 3) ls (v.toList ++ rest) r'.2 = some r) := by
  unfold am_cl at e
  obtain ⟨e, q1, q2⟩ := am_rc_t e
  obtain ⟨hb, e⟩ := am_cdT e rfl
  simp only [Bool.and_eq_true] at hb
  obtain ⟨⟨⟨⟨b1, b2⟩, b3⟩, b4⟩, b5⟩ := hb
  obtain ⟨r', hr', hc⟩ := am_aft (mi := mi) e
  refine ⟨_, _, r', am_st_split (am_np a) st, Nat.eq_of_beq_eq_true b2, Nat.le_of_lt_succ (Nat.le_of_ble_eq_true b3), ⟨Nat.le_of_ble_eq_true b4, Nat.le_of_ble_eq_true b5⟩, ?_, hr', q1, q2, hc⟩
  rw [Bool.or_eq_true] at b1 ⊢
  rcases b1 with z | z
  · exact Or.inl z
  · rw [Bool.and_eq_true] at z ⊢
    refine Or.inr ⟨z.1, am_sok_app _ _ _ (?_ : am_sok h.1 ((am_rv (am_tk (am_np a) st) []).reverse ++ am_dr (am_np a) st) = true)⟩
    rw [← am_st_split]
    exact z.2
/-- room for the callee -/
theorem am_room {l : Launch} {ρ ρ' mi n mc ms : Nat} {p : Program} {R : Room} {s : State} {m : MethodId} {args : Array Value} {meth : Method} {c : Code} {A : Nat → Prop} (F : am_Fx l ρ mi p R s m args meth c A) (hρ : ρ' < ρ) (hn : n < 21) : (am_rm ρ' mc ms).frames + 1 ≤ R.frames ∧ 8 + (n + 11) + (am_rm ρ' mc ms).locals ≤ R.locals := by
  have h1 := F.2.2.2.2.2.2.2.2.2.2.1
  have h2 := F.2.2.2.2.2.2.2.2.2.2.2.1
  simp only [am_rm]
  omega
theorem st_invokevirtual {l : Launch} {g : am_D} {B : am_B} {ρ mi pc n a : Nat} {x : Int32} {ls : am_L} {st : List Value} {h : am_H} {r : am_Q} {k : am_K} {call : am_C} {idx : Nat} (hmd : am_md B) (hf : am_f mi pc = some (.invokevirtual idx, n, x, a)) (hk : am_PK l g B ρ mi k) (hC : am_PC l g B call)
    (e : am_cl (B.1 h) B.2.2 ρ call mi k ls st h pc n a = some r) : am_P l g B ρ mi pc ls st h r := by
  obtain ⟨d, o, hmi, -⟩ := am_okf hf
  simp only [am_okx, Bool.and_eq_true] at o
  obtain ⟨⟨⟨on, o1⟩, o2⟩, hcov⟩ := o
  obtain rfl : n = 3 := Nat.eq_of_beq_eq_true on
  have hkd := Nat.eq_of_beq_eq_true o2
  obtain ⟨As, rest, r', hst, hlen, hsz, ⟨hrk, hla⟩, hfl, hcall, q1, -, hcont⟩ := am_cl_t e
  obtain ⟨r0, As', rfl, hrecv⟩ := q1 hkd
  obtain ⟨ha1, hle, hcon0⟩ := hC a _ h r' hcall
  have ha2 : am_kd a ≠ 9 := by omega
  have hcon := hcon0 ha2
  obtain ⟨f1, f2, f3, f4, f5, f6, f7, f8, f9, f10, f11, f12, f13⟩ := am_mF ha1 ha2
  refine am_P.call hmd hmi hk hle hcont hfl hcov fun p e R s m args below meth c A ad H locs lsm cells slots F Wd Ev S hsize hc1 hc2 => ?_
  have hG := F.2.2.2.2.1
  have hM := hcon hla ad H.size
  rw [hkd] at f8
  simp only [true_or, if_true] at f8
  rw [hkd] at f2
  simp only [show ¬ ((1 : Nat) = 0 ∨ (1 : Nat) = 3) by omega, if_false] at f2
  have hn : (As'.map (am_tv g ad)).length = am_np a - 1 := by
    rw [List.length_map]
    simp only [List.length_cons] at hlen
    omega
  have hpre := am_pre ((Value.ref r0 :: As').map (am_tv g ad)) Wd Ev S F.2.2.2.2.2.2.2.2.2.1
  have hcell : ∃ cellB : Cell, H[ad r0]? = some cellB ∧ cellB.vm.isStatics = false ∧ s.vm.findClass (am_own a) = some cellB.cls := by
    rcases hrecv with ⟨c1, c2, c3⟩ | ⟨c1, c2, c3⟩
    · rcases (f9 (Or.inl hkd)).2 with ⟨-, -, hs⟩ | ⟨hlt, -⟩
      · have := vk_recv Ev.2.1 (i := r0 - 1000) (by omega) S
        rw [hs]
        simpa only [show 1000 + (r0 - 1000) = r0 by omega] using this
      · omega
    · rcases (f9 (Or.inl hkd)).2 with ⟨-, hs, -⟩ | ⟨hlt, -, T, N, hcl⟩
      · exact absurd hs c1
      · have he := am_ws_get g ad h (id := r0) (by rw [← Wd.2.2.1]; exact c2)
        rw [am_en_obj g ad h c3 (by omega)] at he
        exact va_recv Ev.1 Wd.1 (ci := am_cj a) hcl he
  have hstk : st.map (am_tv g ad) = (As'.map (am_tv g ad)).reverse ++ Value.ref (ad r0) :: rest.map (am_tv g ad) := by
    rw [hst]; simp [am_tv]
  have hparse : ∀ sig, parseMethodDescriptor (am_y a).desc = some sig → am_np a - 1 = sig.parameters.length := fun sig hs => by
    rw [hs] at f8; exact (Option.some.inj f8).symm
  have hroom := am_room (mc := r'.2.2.1 - h.2.1) (ms := r'.2.2.2.1 - h.2.2.1) F hrk f11
  have hcode : Jvm.Cond.code (am_y a) (am_b a) (am_ml a) (am_rt a) ∈ am_w a := by rw [← am_cw_code (by omega)]; exact List.mem_cons_self
  have hcodeB := hG _ f1
  rw [am_cw_code (by omega)] at hcodeB
  refine ⟨(Value.ref (ad r0) :: As'.map (am_tv g ad)).toArray, ?_⟩
  rw [hstk]
  rcases am_okC_t o1 with hl | hl
  · exact vx_runV (own := am_own mi) (C := am_own a) (index := idx) (y := am_y a) (bytes := am_b a) (maxL := am_ml a) (ret := am_rt a) (ws := am_w a) (n := am_np a - 1) (Ts := am_G) (cc := am_b mi) (nL := am_ml mi) ⟨F.1, F.2.1, F.2.2.1, F.2.2.2.1, hG⟩ hM
      ⟨⟨rfl, rfl, hroom.1, hroom.2, pay_in hG (am_w_good f1), hcode, hcodeB, hG _ f4, f6, hparse, hG _ hl⟩, hG _ f2, hG _ (f3 hkd)⟩ ⟨hpre.1, hcell, hpre.2⟩ rfl hn hsize rfl (lv_room (by rw [am_sz_tv Ev.2.2.2.2.2.1]; exact hsz)) d ⟨hc1, hc2⟩
  · exact vx_runVN (own := am_own mi) (C := am_own a) (host := "WolfDeeds") (index := idx) (y := am_y a) (bytes := am_b a) (maxL := am_ml a) (ret := am_rt a) (ws := am_w a) (n := am_np a - 1) (Ts := am_G) (cc := am_b mi) (nL := am_ml mi) ⟨F.1, F.2.1, F.2.2.1, F.2.2.2.1, hG⟩ hM
      ⟨⟨⟨rfl, rfl, hroom.1, hroom.2, pay_in hG (am_w_good f1), hcode⟩, hcodeB, hG _ f4, f6, hparse, va_Nw.use rfl (Ev.2.2.2.2.2.2.2.2.2.1 _ hl)⟩, hG _ f2, hG _ (f3 hkd)⟩ ⟨hpre.1, hcell, hpre.2⟩ rfl hn hsize rfl (lv_room (by rw [am_sz_tv Ev.2.2.2.2.2.1]; exact hsz)) d ⟨hc1, hc2⟩
