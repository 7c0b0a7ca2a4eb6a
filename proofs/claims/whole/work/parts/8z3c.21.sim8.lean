/-! calls -/
theorem am_tk_take {α : Type} : ∀ (n : Nat) (l : List α), am_tk n l = l.take n
  | 0, _ => by simp [am_tk]
  | n + 1, [] => by simp [am_tk]
  | n + 1, a :: l => by simp [am_tk, am_tk_take n l]
theorem am_dr_drop {α : Type} : ∀ (n : Nat) (l : List α), am_dr n l = l.drop n
  | 0, _ => by simp [am_dr]
  | n + 1, [] => by simp [am_dr]
  | n + 1, a :: l => by simp [am_dr, am_dr_drop n l]
theorem am_rv_rev {α : Type} : ∀ (l r : List α), am_rv l r = l.reverse ++ r
  | [], r => by simp [am_rv]
  | a :: l, r => by simp [am_rv, am_rv_rev l (a :: r)]
theorem am_st_split (n : Nat) (st : List Value) : st = (am_rv (am_tk n st) []).reverse ++ am_dr n st := by
  rw [am_rv_rev, am_tk_take, am_dr_drop]; simp
theorem am_sz_sum : ∀ l : List Value, am_sz l = (l.map fun v => v.category).sum
  | [] => rfl
  | v :: l => by
    rw [List.map_cons, List.sum_cons, ← am_sz_sum l]
    cases v <;> simp [am_sz, Value.category]
theorem am_sz_tv {g : am_D} (hg : g.2.2.1.category = 1) (ad : Nat → Nat) (l : List Value) : (((l.map (am_tv g ad)).map fun v => v.category)).sum = am_sz l := by
  rw [am_sz_sum]
  congr 1
  rw [List.map_map]
  exact List.map_congr_left fun v _ => am_tv_cat hg ad v
theorem am_G_good {w : Jvm.Cond} (h : w ∈ am_G) : (w.onTables && w.keeps) = true ∨ ∃ ty, w = .arrayClass ty := good_of_word (List.mem_filter.mp h).2
theorem am_w_good {mj : Nat} (h : am_cw mj ∈ am_G) : GoodIn am_G (am_w mj) := fun w hw => by
  rcases List.mem_cons.mp hw with rfl | hw
  · exact ⟨h, am_G_good h⟩
  · exact ⟨hw, am_G_good hw⟩
/-- what the tables say of a method -/
theorem am_mF {mj : Nat} (h1 : mj < am_nm) (h2 : am_kd mj ≠ 9) : am_cw mj ∈ am_G ∧ (if am_kd mj = 0 ∨ am_kd mj = 3 then .static (am_y mj) else .instanceMethod (am_y mj)) ∈ am_G ∧ (am_kd mj = 1 → Jvm.Cond.selects (am_own mj) (am_y mj) (am_y mj) ∈ am_G) ∧ Jvm.Cond.initialized (am_own mj) ∈ am_G ∧ am_kd mj < 4
    ∧ (am_own mj ≠ "java/lang/invoke/MethodHandle" ∧ am_own mj ≠ "java/lang/invoke/VarHandle") ∧ plainName (am_own mj) = true
    ∧ (parseMethodDescriptor (am_y mj).desc).map (fun d => d.parameters.length) = some (if am_kd mj = 1 ∨ am_kd mj = 2 then am_np mj - 1 else am_np mj)
    ∧ ((am_kd mj = 1 ∨ am_kd mj = 2) → 0 < am_np mj ∧ ((am_kd mj = 1 ∧ am_cj mj = 30 ∧ am_own mj = "java/lang/String") ∨ (am_cj mj < 10 ∧ (am_cj mj = 30 → am_kd mj ≠ 1) ∧ ∃ T N, vwCl[am_cj mj]? = some (am_own mj, T, N))))
    ∧ (am_kd mj = 2 → (am_y mj).name = "<init>" ∧ am_rt mj = none) ∧ am_ml mj < 21 ∧ (am_kd mj ≠ 3 → am_hh mj = []) ∧ am_hok mj = true := by
  have hk := List.all_eq_true.mp ok_m mj (List.mem_range.mpr h1)
  rw [Bool.or_eq_true] at hk
  have hk : am_mok mj = true ∧ am_hok mj = true := by
    rcases hk with e | e
    · exact absurd (Nat.eq_of_beq_eq_true e) h2
    · exact (Bool.and_eq_true _ _ ▸ e : _ ∧ _)
  obtain ⟨hk, ho⟩ := hk
  unfold am_mok at hk
  simp only [Bool.and_eq_true, decide_eq_true_eq] at hk
  obtain ⟨⟨⟨⟨⟨⟨⟨⟨⟨⟨⟨k1, k2⟩, k3⟩, k4⟩, k5⟩, k6⟩, k7⟩, k8⟩, k9⟩, k10⟩, k11⟩, k12⟩ := hk
  have hb0 : Nat.beq mj am_law = false := Bool.eq_false_iff.mpr fun e => h2 (by rw [Nat.eq_of_beq_eq_true e]; decide +kernel)
  have hcode : am_cw mj ∈ am_G ∧ (am_kd mj ≠ 3 → am_hh mj = []) := by
    unfold am_cwd at k1
    split at k1
    · rename_i y b n r hw
      simp only [Bool.and_eq_true, decide_eq_true_eq] at k1
      obtain ⟨⟨⟨⟨q1, q2⟩, q3⟩, q4⟩, q5⟩ := k1
      have hb : am_b mj = b := by unfold am_b; rw [hb0, hw]; rfl
      have q4 : Nat.beq (am_kd mj) 3 = false := by simpa using q4
      refine ⟨?_, fun _ => List.isEmpty_iff.mp q5⟩
      unfold am_cw
      rw [q4, hb, ← am_meq_ok q1, ← Nat.eq_of_beq_eq_true q2, ← q3]
      exact List.mem_filter.mpr ⟨am_nth_mem _ _ hw, rfl⟩
    · rename_i y b n r q hw
      simp only [Bool.and_eq_true, decide_eq_true_eq] at k1
      obtain ⟨⟨⟨⟨q1, q2⟩, q3⟩, q4⟩, q5⟩ := k1
      have hb : am_b mj = b := by unfold am_b; rw [hb0, hw]; rfl
      refine ⟨?_, fun h => absurd (Nat.eq_of_beq_eq_true q4) h⟩
      unfold am_cw
      rw [q4, hb, ← am_meq_ok q1, ← Nat.eq_of_beq_eq_true q2, ← q3, ← q5]
      exact List.mem_filter.mpr ⟨am_nth_mem _ _ hw, rfl⟩
    · cases k1
  have hkd : am_kd mj < 4 := Nat.le_of_ble_eq_true k5
  refine ⟨hcode.1, ?_, ?_, am_gw_in k4, hkd, ⟨k6, k7⟩, k8, ?_, ?_, ?_, Nat.le_of_ble_eq_true k12, hcode.2, ho⟩
  · rcases (show am_kd mj = 0 ∨ am_kd mj = 1 ∨ am_kd mj = 2 ∨ am_kd mj = 3 by omega) with e | e | e | e <;> (rw [e] at k2 ⊢; exact am_gw_in k2)
  · intro e
    rw [e] at k3
    exact am_gw_in k3
  · rcases (show am_kd mj = 0 ∨ am_kd mj = 1 ∨ am_kd mj = 2 ∨ am_kd mj = 3 by omega) with e | e | e | e <;> (rw [e] at k9 ⊢; exact k9)
  · intro e
    have q : (Nat.blt 0 (am_np mj) && cond (Nat.beq (am_kd mj) 1 && Nat.beq (am_cj mj) 30) (decide (am_own mj = "java/lang/String")) (Nat.blt (am_cj mj) 10 && (match am_nth vwCl (am_cj mj) with
      | some (C, _, _) => decide (am_own mj = C)
      | none => false))) = true := by
      rcases e with e | e <;> (rw [e] at k10 ⊢; exact k10)
    rw [Bool.and_eq_true] at q
    refine ⟨Nat.le_of_ble_eq_true q.1, ?_⟩
    have q2 := q.2
    cases hc : (Nat.beq (am_kd mj) 1 && Nat.beq (am_cj mj) 30) with
    | true =>
      rw [hc] at q2
      rw [Bool.and_eq_true] at hc
      exact Or.inl ⟨Nat.eq_of_beq_eq_true hc.1, Nat.eq_of_beq_eq_true hc.2, of_decide_eq_true q2⟩
    | false =>
      rw [hc] at q2
      have q2 : (Nat.blt (am_cj mj) 10 && (match am_nth vwCl (am_cj mj) with
        | some (C, _, _) => decide (am_own mj = C)
        | none => false)) = true := q2
      rw [Bool.and_eq_true] at q2
      have hlt : am_cj mj < 10 := Nat.le_of_ble_eq_true q2.1
      refine Or.inr ⟨hlt, fun z => by omega, ?_⟩
      have q3 := q2.2
      split at q3
      · rename_i C T N hcl
        exact ⟨T, N, by rw [← am_nth_get, hcl, of_decide_eq_true q3]⟩
      · cases q3
  · intro e
    rw [e] at k11
    have k11 : (decide ((am_y mj).name = "<init>") && decide (am_rt mj = none)) = true := k11
    rw [Bool.and_eq_true] at k11
    exact ⟨of_decide_eq_true k11.1, of_decide_eq_true k11.2⟩
/-- what a run of a callee leads to -/
theorem am_callW {p : Program} {l : Launch} {e : Env} {R : Room} {s : State} {m : MethodId} {args : Array Value} {below : List Frame} {meth : Method} {c : Code} {H : Heap} {locs : List Loc} {cells slots mc ms : Nat} {Q : State → Prop} {g : am_D} {B : am_B} {ad : Nat → Nat} {h : am_H} {r : am_Q} {A free : Nat → Prop} {pc : Nat} {lsm : Array Slot} {st0 rest : List Value} {a9 : Array Value}
    (hr : vx_Run p l e R s m args below meth c H locs cells slots mc ms (F0 m pc lsm st0) rest (am_Qc g B ad h H.size r a9) (am_Xc g B ad h H.size r) free) (hS : va_S A s.heap H locs) (hA : ∀ q, va_A (am_ws g ad h) H.size q → A q) (hf : ∀ q, free q → A q)
    (kk : ∀ (v : Option Value) (ad1 : Nat → Nat) (H1 : Heap) (locs1 : List Loc), r.1 = .inl v → am_Ag h.1 ad r.2.1 ad1 → am_Wd g B ad1 r.2 (va_A (am_ws g ad h) H.size) H1 → va_S A s.heap H1 locs1 → W p l e R s m args below meth c H1 locs1 (cells + mc) (slots + ms) Q (F0 m (pc + 3) lsm ((v.map (am_tv g ad1)).toList ++ rest)))
    (kx : ∀ (e0 : Nat) (ad1 : Nat → Nat) (H1 : Heap) (locs1 : List Loc) (q : Addr) (ce : Cell), r.1 = .inr e0 → am_Ag h.1 ad r.2.1 ad1 → am_Wd g B ad1 r.2 (va_A (am_ws g ad h) H.size) H1 → va_S A s.heap H1 locs1 → H1[q]? = some ce → ce.vm = .none → s.vm.findClass (am_xn e0) = some ce.cls → vx_W p l e R s m args below meth c H1 locs1 (cells + mc) (slots + ms) Q (F0 m pc lsm rest) q) :
    W p l e R s m args below meth c H locs cells slots Q (F0 m pc lsm st0) := by
  intro T hT X
  rcases hr T hT X with ⟨v, st₀, t, T', L, h0, X', hL, e1, e2, ⟨⟨v', ad1, hv, ho, hag, hW⟩, hF⟩, st⟩ | ⟨q, st₀, t, T', L, E, ce, h0, X', hL, e1, e2, ⟨⟨e0, ad1, hv, ho, hag, hW⟩, hF⟩, hce, hcv, hcl, st⟩
  · obtain ⟨k1, k2, k3⟩ := vx_keep h0 e1 hS (fun q _ z => hA q z) hf hL hF
    have ho' : v = v'.map (am_tv g ad1) := by simpa using ho
    subst ho'
    rw [← e1] at hW
    obtain ⟨t2, a1, b1⟩ := kk v' ad1 T'.heap (locs ++ L) hv hag hW k3 T' rfl X'
    exact ⟨t2, st t2 a1, b1⟩
  · obtain ⟨k1, k2, k3⟩ := vx_keep h0 e1 hS (fun q _ z => hA q z) hf hL hF
    rw [← e1] at hW hce
    subst ho
    obtain ⟨t2, a1, b1⟩ := kx e0 ad1 T'.heap (locs ++ L) q ce hv hag hW k3 hce hcv hcl T' rfl X'
    exact ⟨t2, st.trans a1, b1⟩
theorem am_wsA {g : am_D} {B : am_B} {ad : Nat → Nat} {h : am_H} {A : Nat → Prop} {H : Heap} {s : State} {locs : List Loc} (Wd : am_Wd g B ad h A H) (S : va_S A s.heap H locs) (hA : ∀ q, s.heap.size ≤ q → A q) : ∀ q, va_A (am_ws g ad h) H.size q → A q := by
  rintro q (⟨k, e0, hk⟩ | hq)
  · exact Wd.2.1.2 k _ hk
  · exact hA q (Nat.le_trans S.1 hq)
/-- the callee's start -/
theorem am_pre {g : am_D} {B : am_B} {ad : Nat → Nat} {h : am_H} {A : Nat → Prop} {H : Heap} {s : State} {locs : List Loc} (As : List Value) (Wd : am_Wd g B ad h A H) (Ev : am_Ev g ad A s) (S : va_S A s.heap H locs) (hA : ∀ q, s.heap.size ≤ q → A q) :
    FrameBlind (va_Pc As (am_Pr g B ad h H.size)) ∧ ∀ U : State, U.heap = H → s.WarmedH U.vm → va_Pc As (am_Pr g B ad h H.size) As.toArray U := by
  refine ⟨fun a U f mk q => ?_, fun U hU hW => ⟨rfl, by rw [hU], ?_, ?_⟩⟩
  · obtain ⟨q0, q1, q2, q3⟩ := q
    exact ⟨q0, q1, q2, q3.blind rfl rfl⟩
  · rw [hU]
    refine ⟨Wd.1, ⟨Wd.2.1.1, fun k q hk => Or.inl ⟨k, q.2, hk⟩⟩, Wd.2.2⟩
  · exact Ev.next S (am_wsA Wd S hA) hU hW (fun _ _ => rfl)

theorem am_aft {mi a pc n : Nat} {hd : List (Nat × Int32)} {o : Option am_Q} {k : am_K} {ls : am_L} {rest : List Value} {r : am_Q} (e : (match am_rt a with
      | none => am_bV hd o fun g => k (pc + n) ls rest g
      | some .long => am_bL hd o fun x g => k (pc + n) ls (.long x :: rest) g
      | some _ => am_bI hd o fun x g => k (pc + n) ls (.int x :: rest) g) = some r) :
    ∃ r' : am_Q, o = some r' ∧ ((∃ e0, r'.1 = .inr e0 ∧ am_th e0 r'.2 hd = some r) ∨ ∃ v : Option Value, r'.1 = .inl v ∧ (∀ (g : am_D) (ad : Nat → Nat), (v.map (am_tv g ad)).toList = v.toList.map (am_tv g ad)) ∧ k (pc + n) ls (v.toList ++ rest) r'.2 = some r) := by
  split at e
  · unfold am_bV at e
    split at e
    · exact ⟨_, rfl, Or.inr ⟨none, rfl, fun _ _ => rfl, e⟩⟩
    · exact ⟨_, rfl, Or.inl ⟨_, rfl, e⟩⟩
    · cases e
  · unfold am_bL at e
    split at e
    · exact ⟨_, rfl, Or.inr ⟨some _, rfl, fun _ _ => rfl, e⟩⟩
    · exact ⟨_, rfl, Or.inl ⟨_, rfl, e⟩⟩
    · cases e
  · unfold am_bI at e
    split at e
    · exact ⟨_, rfl, Or.inr ⟨some _, rfl, fun _ _ => rfl, e⟩⟩
    · exact ⟨_, rfl, Or.inl ⟨_, rfl, e⟩⟩
    · cases e
theorem am_sok_app (n : Nat) : ∀ (a b : List Value), am_sok n (a ++ b) = true → am_sok n b = true
  | [], b, h => h
  | v :: a, b, h => am_sok_app n a b (by
    cases v <;> first | exact h | (rw [List.cons_append] at h; unfold am_sok at h; rw [Bool.and_eq_true] at h; exact h.2))
theorem am_Wd.weaken {g : am_D} {B : am_B} {ad : Nat → Nat} {h : am_H} {A A' : Nat → Prop} {H : Heap} (W : am_Wd g B ad h A' H) (hA : ∀ q, A' q → A q) : am_Wd g B ad h A H := ⟨W.1, ⟨W.2.1.1, fun k q hk => hA _ (W.2.1.2 k q hk)⟩, W.2.2⟩
/-- a handler's code: the exception is put away, a number answered -/
theorem am_hand {l : Launch} {g : am_D} {B : am_B} {ρ mi : Nat} {r : am_Q} {p : Program} {e : Env} {R : Room} {s : State} {m : MethodId} {args : Array Value} {below : List Frame} {meth : Method} {c : Code} {A : Nat → Prop} {n0 : Nat} {ad0 : Nat → Nat} {tc ts : Nat} {Q : State → Prop} {ad : Nat → Nat} {H : Heap} {locs : List Loc} {lsm : Array Slot} {q9 : Nat} {v : Int32} {k9 : Nat} {qq : Nat × Nat × Nat × Nat} {ec : Nat}
    (F : am_Fx l ρ mi p R s m args meth c A) (hq : am_HQ l g B mi r p e R s m args below meth c A n0 ad0 tc ts Q) (hr : r.1 = .inl (some (.int v))) (hag : am_Ag n0 ad0 r.2.1 ad) (Wd : am_Wd g B ad r.2 A H) (S : va_S A s.heap H locs) (hl : lsm.size = am_ml mi ∧ lv_wf lsm)
    (ho : am_hc1 mi qq (ec, v) k9 = true) (hrt : am_rt mi = some .int) : W p l e R s m args below meth c H locs tc ts Q (F0 m qq.2.2.1 lsm [.ref q9]) := by
  unfold am_hc1 at ho
  simp only [Bool.and_eq_true] at ho
  obtain ⟨-, ho⟩ := ho
  have hlv : lv_has lsm (am_ml mi) [] := ⟨hl.1, hl.2, fun q hq => (by cases hq)⟩
  have fin : ∀ (pc : Nat) (lsm' : Array Slot), am_hc2 mi pc v = true → W p l e R s m args below meth c H locs tc ts Q (F0 m pc lsm' []) := by
    intro pc lsm' h2
    unfold am_hc2 at h2
    rw [Bool.and_eq_true] at h2
    obtain ⟨h2, h3⟩ := h2
    split at h2
    · rename_i c0 hd
      exact lv_iconst F.1 F.2.1 hd (of_decide_eq_true h2) (hq.1 _ ad H locs _ lsm' hr hag Wd S ⟨of_decide_eq_true h3, _, hrt, rfl⟩)
    · cases h2
  split at ho
  · rename_i k hd
    rw [Bool.and_eq_true] at ho
    exact lv_astore_n F.1 F.2.1 hd rfl hlv (of_decide_eq_true ho.1) rfl fun ls' _ => fin _ ls' ho.2
  · rename_i k hd
    rw [Bool.and_eq_true] at ho
    exact lv_astore F.1 F.2.1 hd hlv (of_decide_eq_true ho.1) rfl fun ls' _ => fin _ ls' ho.2
  · cases ho
theorem am_cov_t {mi pc : Nat} (h : am_cov mi pc = true) {q : Nat × Nat × Nat × Nat} (hq : q ∈ am_hh mi) : covers ⟨q.1, q.2.1, q.2.2.1, q.2.2.2⟩ pc = true := by
  have := List.all_eq_true.mp h q hq
  rw [Bool.and_eq_true] at this
  have h1 := of_decide_eq_true this.1
  have h2 := of_decide_eq_true this.2
  simp [covers, h1, h2]
theorem am_hd_all : ((List.range am_nm).all fun m => !(Nat.beq (am_kd m) 9) || (am_hd m).isEmpty) = true := by decide +kernel
theorem am_cast_1 : Jvm.Cond.castable "java/util/NoSuchElementException" "java/util/NoSuchElementException" ∈ am_Gn := am_gn_in (k := 1019) (by decide +kernel)
theorem am_cast_2 : Jvm.Cond.castable "java/lang/IllegalArgumentException" "java/lang/IllegalArgumentException" ∈ am_Gn := am_gn_in (k := 661) (by decide +kernel)
theorem am_castx {e : Nat} (h : e = 1 ∨ e = 2) : Jvm.Cond.castable (am_xn e) (am_xn e) ∈ am_Gn := by
  rcases h with rfl | rfl
  · exact am_cast_1
  · exact am_cast_2
/-- an exception out of a callee: through, or caught -/
theorem am_exc {l : Launch} {g : am_D} {B : am_B} {ρ mi pc : Nat} {r r' : am_Q} {p : Program} {e : Env} {R : Room} {s : State} {m : MethodId} {args : Array Value} {below : List Frame} {meth : Method} {c : Code} {A : Nat → Prop} {n0 : Nat} {ad0 : Nat → Nat} {tc ts : Nat} {Q : State → Prop} {ad : Nat → Nat} {H : Heap} {locs : List Loc} {lsm : Array Slot} {q9 : Nat} {ce : Cell} {e0 : Nat} {rest : List Value}
    (hmi : mi < am_nm) (F : am_Fx l ρ mi p R s m args meth c A) (Ev : am_Ev g ad0 A s) (hq : am_HQ l g B mi r p e R s m args below meth c A n0 ad0 tc ts Q) (hr' : r'.1 = .inr e0) (ht : am_th e0 r'.2 (am_hd mi) = some r) (hag : am_Ag n0 ad0 r'.2.1 ad) (Wd : am_Wd g B ad r'.2 A H) (S : va_S A s.heap H locs) (hl : lsm.size = am_ml mi ∧ lv_wf lsm)
    (hce : H[q9]? = some ce) (hcv : ce.vm = .none) (hcl : s.vm.findClass (am_xn e0) = some ce.cls) (hcov : am_cov mi pc = true) : vx_W p l e R s m args below meth c H locs tc ts Q (F0 m pc lsm rest) q9 := by
  unfold am_th at ht
  split at ht
  · rename_i hd
    cases ht
    exact hq.2.1 e0 ad H locs pc lsm rest q9 ce rfl hag Wd S hce hcv hcl hd
  · rename_i d0 dl hd
    have hkd9 : am_kd mi ≠ 9 := fun z => by
      have := List.all_eq_true.mp am_hd_all mi (List.mem_range.mpr hmi)
      rw [z, hd] at this
      exact absurd this (by simp)
    have hlaw : mi ≠ am_law := fun z => hkd9 (by rw [z]; decide +kernel)
    obtain ⟨-, -, -, -, -, -, -, -, -, -, -, -, hok⟩ := am_mF hmi hkd9
    have hE : c.exceptionTable.toList = tableOf (am_hh mi) := F.2.2.2.2.2.2.2.1 hlaw
    have hG := F.2.2.2.2.1
    -- caught by a row
    have castN : ∀ w ∈ am_Gn, w.before args s = true := fun w hw => by
      have h1 := Ev.2.2.2.2.2.2.2.2.2.1 w hw
      have h2 := (List.mem_filter.mp hw).2
      cases w <;> first | (cases h2; done) | exact va_Nw.use rfl h1
    unfold am_hok at hok
    split at hok
    · rename_i h1 h2; rw [h2] at hd; cases hd
    · rename_i q d h1 h2
      simp only [Bool.and_eq_true, decide_eq_true_eq] at hok
      obtain ⟨⟨o1, o2⟩, o3⟩ := hok
      rw [h2] at hd ht
      cases hd
      unfold am_t2 at ht
      obtain ⟨hb, ht⟩ := am_cdT ht rfl
      have he0 := Nat.eq_of_beq_eq_true hb
      have hrr := Option.some.inj ht
      subst hrr
      have o1' := o1
      unfold am_hc1 at o1'
      simp only [Bool.and_eq_true, Bool.not_eq_true'] at o1'
      refine vx_catch F.2.2.2.1 [] ⟨q.1, q.2.1, q.2.2.1, q.2.2.2⟩ [] (by rw [hE, h1]; rfl) (fun z hz => (by cases hz)) (am_cov_t hcov (by rw [h1]; exact List.mem_cons_self)) (fun z => (by have := o1'.1.2; rw [show q.2.2.2 = 0 from z] at this; cases this)) (hG _ (am_gw_in o1'.1.1)) (castN _ (am_castx (by rw [he0] at *; rw [Bool.or_eq_true] at o2; exact o2.elim (fun z => Or.inl (Nat.eq_of_beq_eq_true z)) (fun z => Or.inr (Nat.eq_of_beq_eq_true z))))) hce hcv (by rw [← he0]; exact hcl) ?_
      exact am_hand F hq rfl hag Wd S hl o1 o3
    · rename_i q q2 d d2 h1 h2
      simp only [Bool.and_eq_true, decide_eq_true_eq] at hok
      obtain ⟨⟨⟨⟨o1, o2⟩, o3⟩, o4⟩, o5⟩ := hok
      rw [h2] at hd ht
      cases hd
      have hd1 := Nat.eq_of_beq_eq_true o3
      have hd2 := Nat.eq_of_beq_eq_true o4
      have o1' := o1
      unfold am_hc1 at o1'
      simp only [Bool.and_eq_true, Bool.not_eq_true'] at o1'
      have o2' := o2
      unfold am_hc1 at o2'
      simp only [Bool.and_eq_true, Bool.not_eq_true'] at o2'
      unfold am_t2 at ht
      cases hb : Nat.beq e0 d0.1 with
      | true =>
        rw [hb] at ht
        have hrr : ((.inl (some (.int d0.2)), r'.2) : am_Q) = r := Option.some.inj ht
        have he0 := Nat.eq_of_beq_eq_true hb
        subst hrr
        refine vx_catch F.2.2.2.1 [] ⟨q.1, q.2.1, q.2.2.1, q.2.2.2⟩ [⟨q2.1, q2.2.1, q2.2.2.1, q2.2.2.2⟩] (by rw [hE, h1]; rfl) (fun z hz => (by cases hz)) (am_cov_t hcov (by rw [h1]; exact List.mem_cons_self)) (fun z => (by have := o1'.1.2; rw [show q.2.2.2 = 0 from z] at this; cases this)) (hG _ (am_gw_in o1'.1.1)) (castN _ (am_castx (Or.inl hd1))) hce hcv (by rw [← he0]; exact hcl) ?_
        exact am_hand F hq rfl hag Wd S hl o1 o5
      | false =>
        rw [hb] at ht
        have ht : am_t2 e0 r'.2 [d2] = some r := ht
        unfold am_t2 at ht
        obtain ⟨hb2, ht⟩ := am_cdT ht rfl
        have he0 := Nat.eq_of_beq_eq_true hb2
        have hrr := Option.some.inj ht
        subst hrr
        refine vx_catch F.2.2.2.1 [⟨q.1, q.2.1, q.2.2.1, q.2.2.2⟩] ⟨q2.1, q2.2.1, q2.2.2.1, q2.2.2.2⟩ [] (by rw [hE, h1]; rfl) (fun z hz => ?_) (am_cov_t hcov (by rw [h1]; exact List.mem_cons_of_mem _ List.mem_cons_self)) (fun z => (by have := o2'.1.2; rw [show q2.2.2.2 = 0 from z] at this; cases this)) (hG _ (am_gw_in o2'.1.1)) (castN _ (am_castx (Or.inr hd2))) hce hcv (by rw [← he0]; exact hcl) ?_
        · rcases List.mem_cons.mp hz with rfl | hz
          · refine Or.inr ⟨fun z => (by have := o1'.1.2; rw [show q.2.2.2 = 0 from z] at this; cases this), _, hG _ (am_gw_in o1'.1.1), ?_⟩
            rw [hd1, hd2]
            exact Ev.2.2.2.2.2.2.2.2.1
          · cases hz
        · exact am_hand F hq rfl hag Wd S hl o2 o5
    · cases hok
