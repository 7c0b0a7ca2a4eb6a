/-! contracts, and what a place in a body owes -/
def am_rm (ρ mc ms : Nat) : Room := { frames := 2 * ρ + 20, cells := mc, slots := ms, locals := 60 * ρ + 200 }
def am_cw (mj : Nat) : Jvm.Cond := cond (Nat.beq (am_kd mj) 3) (.codeWith (am_y mj) (am_b mj) (am_ml mj) (am_rt mj) (am_hh mj)) (.code (am_y mj) (am_b mj) (am_ml mj) (am_rt mj))
def am_w (mj : Nat) : List Jvm.Cond := am_cw mj :: am_G
def am_Pr (g : am_D) (B : am_B) (ad : Nat → Nat) (h : am_H) (sz : Nat) (U : State) : Prop := U.heap.size = sz ∧ am_Wd g B ad h (va_A (am_ws g ad h) sz) U.heap ∧ am_Ev g ad (va_A (am_ws g ad h) sz) U
def am_Ag (n0 : Nat) (ad0 : Nat → Nat) (n1 : Nat) (ad : Nat → Nat) : Prop := ∀ i, (i < n0 ∨ n1 ≤ i) → ad i = ad0 i
def am_Qc (g : am_D) (B : am_B) (ad0 : Nat → Nat) (h : am_H) (sz : Nat) (r : am_Q) : Array Value → State → Outcome → State → Prop := fun _ st o t =>
  (∃ v ad, r.1 = .inl v ∧ o = .returned (v.map (am_tv g ad)) ∧ am_Ag h.1 ad0 r.2.1 ad ∧ am_Wd g B ad r.2 (va_A (am_ws g ad0 h) sz) t.heap) ∧ va_F (va_A (am_ws g ad0 h) sz) st t
def am_Xc (g : am_D) (B : am_B) (ad0 : Nat → Nat) (h : am_H) (sz : Nat) (r : am_Q) : String → State → State → Prop := fun E st t =>
  (∃ e ad, r.1 = .inr e ∧ E = am_xn e ∧ am_Ag h.1 ad0 r.2.1 ad ∧ am_Wd g B ad r.2 (va_A (am_ws g ad0 h) sz) t.heap) ∧ va_F (va_A (am_ws g ad0 h) sz) st t
/-- a method's contract: from a heap h it comes to r -/
def am_Con (l : Launch) (g : am_D) (B : am_B) (mj : Nat) (args : List Value) (h : am_H) (r : am_Q) : Prop :=
  (am_la args).length ≤ am_ml mj → ∀ (ad : Nat → Nat) (sz : Nat), vx_Met l (am_y mj) (am_w mj) (am_rm (am_rk mj args) (r.2.2.1 - h.2.1) (r.2.2.2.1 - h.2.2.1)) (va_Pc (args.map (am_tv g ad)) (am_Pr g B ad h sz)) (am_Qc g B ad h sz r) (am_Xc g B ad h sz r) (r.2.2.1 - h.2.1) (r.2.2.2.1 - h.2.2.1) (va_A (am_ws g ad h) sz)
def am_Le (h h' : am_H) : Prop := h.1 ≤ h'.1 ∧ h.2.1 ≤ h'.2.1 ∧ h.2.2.1 ≤ h'.2.2.1
theorem am_Le.rf (h : am_H) : am_Le h h := ⟨Nat.le_refl _, Nat.le_refl _, Nat.le_refl _⟩
theorem am_Le.tr {a b c : am_H} (h : am_Le a b) (k : am_Le b c) : am_Le a c := ⟨Nat.le_trans h.1 k.1, Nat.le_trans h.2.1 k.2.1, Nat.le_trans h.2.2 k.2.2⟩
/-- what holds throughout a body of method mi of rank ρ -/
def am_Fx (l : Launch) (ρ mi : Nat) (p : Program) (R : Room) (s : State) (m : MethodId) (args : Array Value) (meth : Method) (c : Code) (A : Nat → Prop) : Prop :=
  p.tables.exec = Jvm.exec ∧ c.code = am_b mi ∧ c.maxLocals = am_ml mi ∧ s.vm.findClass (am_own mi) = some m.cls ∧ (∀ w ∈ am_G, w.before args s = true) ∧ meth.sig.returnType = am_rt mi ∧ meth.locks = false
  ∧ (mi ≠ am_law → c.exceptionTable.toList = tableOf (am_hh mi)) ∧ l.stackTraces = false ∧ (∀ q, s.heap.size ≤ q → A q) ∧ 2 * ρ + 20 ≤ R.frames ∧ 60 * ρ + 200 ≤ R.locals ∧ (mi ≠ am_law → meth.name = (am_y mi).name)
/-- an end of a body: the instruction that returns v -/
def am_Rt (mi pc : Nat) : Option Value → Prop
  | some (.int x) => decode (am_b mi) pc = .ok (.ireturn, 1) ∧ ∃ ty, am_rt mi = some ty ∧ narrow ty (.int x) = .int x
  | some (.long _) => decode (am_b mi) pc = .ok (.lreturn, 1) ∧ am_rt mi = some .long
  | none => decode (am_b mi) pc = .ok (.return_, 1) ∧ am_rt mi = none
  | _ => False
/-- what is said of a body's ends (n0, ad0: as it began; tc, ts: its cells and slots at the end) -/
def am_HQ (l : Launch) (g : am_D) (B : am_B) (mi : Nat) (r : am_Q) (p : Program) (e : Env) (R : Room) (s : State) (m : MethodId) (args : Array Value) (below : List Frame) (meth : Method) (c : Code) (A : Nat → Prop) (n0 : Nat) (ad0 : Nat → Nat) (tc ts : Nat) (Q : State → Prop) : Prop :=
  (∀ (v : Option Value) (ad : Nat → Nat) (H : Heap) (locs : List Loc) (pc : Nat) (lsm : Array Slot), r.1 = .inl v → am_Ag n0 ad0 r.2.1 ad → am_Wd g B ad r.2 A H → va_S A s.heap H locs → am_Rt mi pc v →
    W p l e R s m args below meth c H locs tc ts Q (F0 m pc lsm (v.map (am_tv g ad)).toList)) ∧
  (∀ (e0 : Nat) (ad : Nat → Nat) (H : Heap) (locs : List Loc) (pc : Nat) (lsm : Array Slot) (rest : List Value) (q : Addr) (ce : Cell), r.1 = .inr e0 → am_Ag n0 ad0 r.2.1 ad → am_Wd g B ad r.2 A H → va_S A s.heap H locs → H[q]? = some ce → ce.vm = .none → s.vm.findClass (am_xn e0) = some ce.cls → am_hd mi = [] →
    vx_W p l e R s m args below meth c H locs tc ts Q (F0 m pc lsm rest) q) ∧
  (∀ (e0 : Nat) (ad : Nat → Nat) (H : Heap) (locs : List Loc) (pc : Nat) (lsm : Array Slot) (cells slots idx n : Nat) (x : Int32), r.1 = .inr e0 → am_Ag n0 ad0 r.2.1 ad → am_Wd g B ad r.2 A H → va_S A s.heap H locs → am_f mi pc = some (.new idx, n, x, 16 + e0) → lsm.size = am_ml mi → cells + 1 = tc → slots + 6 = ts →
    W p l e R s m args below meth c H locs cells slots Q (F0 m pc lsm []))
/-- what a place in a body owes: from there it comes to r -/
def am_P (l : Launch) (g : am_D) (B : am_B) (ρ mi pc : Nat) (ls : am_L) (st : List Value) (h : am_H) (r : am_Q) : Prop := am_Le h r.2 ∧
  ∀ (p : Program) (e : Env) (R : Room) (s : State) (m : MethodId) (args : Array Value) (below : List Frame) (meth : Method) (c : Code) (A : Nat → Prop) (ad : Nat → Nat) (H : Heap) (locs : List Loc) (lsm : Array Slot) (cells slots : Nat) (n0 : Nat) (ad0 : Nat → Nat) (tc ts : Nat) (Q : State → Prop),
    am_Fx l ρ mi p R s m args meth c A → am_Wd g B ad h A H → am_Ev g ad A s → va_S A s.heap H locs → am_lr g ad lsm (am_ml mi) ls → n0 ≤ h.1 → am_Ag n0 ad0 h.1 ad →
    cells + (r.2.2.1 - h.2.1) = tc → slots + (r.2.2.2.1 - h.2.2.1) = ts → tc ≤ R.cells → ts ≤ R.slots →
    am_HQ l g B mi r p e R s m args below meth c A n0 ad0 tc ts Q → W p l e R s m args below meth c H locs cells slots Q (F0 m pc lsm (st.map (am_tv g ad)))
def am_PK (l : Launch) (g : am_D) (B : am_B) (ρ mi : Nat) (k : am_K) : Prop := ∀ pc ls st h r, k pc ls st h = some r → am_P l g B ρ mi pc ls st h r
def am_PC (l : Launch) (g : am_D) (B : am_B) (c : am_C) : Prop := ∀ mj args h r, c mj args h = some r → mj < am_nm ∧ am_Le h r.2 ∧ (am_kd mj ≠ 9 → am_Con l g B mj args h r)
/-- one instruction that goes on: the same heap, other locals and stack -/
theorem am_P.go {l : Launch} {g : am_D} {B : am_B} {ρ mi pc pc' : Nat} {ls ls' : am_L} {st st' : List Value} {h : am_H} {r : am_Q} (k : am_P l g B ρ mi pc' ls' st' h r)
    (step : ∀ (p : Program) (e : Env) (R : Room) (s : State) (m : MethodId) (args : Array Value) (below : List Frame) (meth : Method) (c : Code) (A : Nat → Prop) (ad : Nat → Nat) (H : Heap) (locs : List Loc) (lsm : Array Slot) (cells slots : Nat) (Q : State → Prop),
      am_Fx l ρ mi p R s m args meth c A → am_Wd g B ad h A H → am_Ev g ad A s → va_S A s.heap H locs → am_lr g ad lsm (am_ml mi) ls →
      (∀ lsm', am_lr g ad lsm' (am_ml mi) ls' → W p l e R s m args below meth c H locs cells slots Q (F0 m pc' lsm' (st'.map (am_tv g ad)))) →
      W p l e R s m args below meth c H locs cells slots Q (F0 m pc lsm (st.map (am_tv g ad)))) : am_P l g B ρ mi pc ls st h r :=
  ⟨k.1, fun p e R s m args below meth c A ad H locs lsm cells slots n0 ad0 tc ts Q F Wd Ev S hl hn hg hc hs h1 h2 hq =>
    step p e R s m args below meth c A ad H locs lsm cells slots Q F Wd Ev S hl fun lsm' hl' => k.2 p e R s m args below meth c A ad H locs lsm' cells slots n0 ad0 tc ts Q F Wd Ev S hl' hn hg hc hs h1 h2 hq⟩
/-- another heap, as many objects -/
theorem am_P.goH {l : Launch} {g : am_D} {B : am_B} {ρ mi pc pc' : Nat} {ls : am_L} {st st' : List Value} {h h' : am_H} {r : am_Q} (k : am_P l g B ρ mi pc' ls st' h' r) (e1 : h'.1 = h.1) (e2 : h'.2.1 = h.2.1) (e3 : h'.2.2.1 = h.2.2.1)
    (step : ∀ (p : Program) (e : Env) (R : Room) (s : State) (m : MethodId) (args : Array Value) (below : List Frame) (meth : Method) (c : Code) (A : Nat → Prop) (ad : Nat → Nat) (H : Heap) (locs : List Loc) (lsm : Array Slot) (cells slots : Nat) (Q : State → Prop),
      am_Fx l ρ mi p R s m args meth c A → am_Wd g B ad h A H → am_Ev g ad A s → va_S A s.heap H locs → am_lr g ad lsm (am_ml mi) ls →
      (∀ H' locs', am_Wd g B ad h' A H' → va_S A s.heap H' locs' → W p l e R s m args below meth c H' locs' cells slots Q (F0 m pc' lsm (st'.map (am_tv g ad)))) →
      W p l e R s m args below meth c H locs cells slots Q (F0 m pc lsm (st.map (am_tv g ad)))) : am_P l g B ρ mi pc ls st h r := by
  obtain ⟨⟨k1, k2, k3⟩, kk⟩ := k
  refine ⟨⟨by rw [← e1]; exact k1, by rw [← e2]; exact k2, by rw [← e3]; exact k3⟩, fun p e R s m args below meth c A ad H locs lsm cells slots n0 ad0 tc ts Q F Wd Ev S hl hn hg hc hs h1 h2 hq =>
    step p e R s m args below meth c A ad H locs lsm cells slots Q F Wd Ev S hl fun H' locs' Wd' S' => ?_⟩
  exact kk p e R s m args below meth c A ad H' locs' lsm cells slots n0 ad0 tc ts Q F Wd' Ev S' hl (by rw [e1]; exact hn) (by rw [e1]; exact hg) (by rw [e2]; exact hc) (by rw [e3]; exact hs) h1 h2 hq
