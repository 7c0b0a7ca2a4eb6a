/-! switches, heap instructions -/
theorem am_ret_ch {α : Type} {b r q : Nat} {x : Option α} {z : α} (h : am_ch b r q x = some z) : r < b ∧ (am_ty r).1 = q ∧ x = some z := by
  unfold am_ch at h
  split at h
  · rename_i e
    rw [Bool.and_eq_true] at e
    exact ⟨Nat.le_of_ble_eq_true e.1, Nat.eq_of_beq_eq_true e.2, h⟩
  · cases h
theorem am_bd_t {α : Type} {i : Int32} {n : Nat} {x : Option α} {z : α} (h : am_bd i n x = some z) : vp_in i n ∧ x = some z := by
  unfold am_bd at h
  split at h
  · cases h
  · rename_i e
    exact ⟨e, h⟩
theorem am_r1_t {α : Type} {st : List Value} {f : Nat → List Value → Option α} {z : α} (h : am_r1 st f = some z) : ∃ (r : Nat) (q : List Value), st = .ref r :: q ∧ f r q = some z := by
  unfold am_r1 at h
  split at h
  · exact ⟨_, _, rfl, h⟩
  · cases h
theorem am_nth_get {α : Type} : ∀ (l : List α) (k : Nat), am_nth l k = l[k]?
  | [], _ => by simp [am_nth]
  | _ :: l, 0 => by simp [am_nth]
  | _ :: l, k + 1 => by simp [am_nth, am_nth_get l k]
/-- what the tables say of class ci -/
theorem am_clsF {ci : Nat} {C : String} {T : u_T} {N : Nat} (h : am_nth vwCl ci = some (C, T, N)) : ci < 10 ∧ vwCl[ci]? = some (C, T, N) ∧ N = am_nf ci ∧ N < 128 ∧ (∀ w ∈ u_ws C T N, w ∈ am_G) ∧ (∀ k, k < N → am_okt (128 * ci + k) (parseFieldDescriptor (T k).2.2.1) = true ∧ am_ft (128 * ci + k) < 4)
    ∧ (∀ k, k < N → parseFieldDescriptor (T k).2.2.1 = some ((parseFieldDescriptor (T k).2.2.1).getD .int)) ∧ (∀ a, a < N → ∀ b, b < N → a ≠ b → (T a).2.1 ≠ (T b).2.1) := by
  have hi : ci < 10 := am_nth_lt _ _ h
  have hk := List.all_eq_true.mp ok_c ci (List.mem_range.mpr hi)
  unfold am_okcl at hk
  rw [h] at hk
  dsimp only at hk
  simp only [Bool.and_eq_true] at hk
  obtain ⟨⟨⟨h1, h2⟩, h3⟩, h4⟩ := hk
  have h3' := fun k (hk : k < N) => List.all_eq_true.mp h3 k (List.mem_range.mpr hk)
  refine ⟨hi, by rw [← am_nth_get]; exact h, Nat.eq_of_beq_eq_true h1, Nat.le_of_ble_eq_true h2, ?_, ?_, ?_, ?_⟩
  · intro w hw
    obtain ⟨k, hk, rfl⟩ := List.mem_map.mp hw
    have := h3' k (List.mem_range.mp hk)
    simp only [Bool.and_eq_true] at this
    exact am_gw_in this.1.1
  · intro k hk
    have := h3' k hk
    simp only [Bool.and_eq_true] at this
    exact ⟨this.1.2, Nat.le_of_ble_eq_true this.2⟩
  · intro k hk
    have := h3' k hk
    simp only [Bool.and_eq_true] at this
    have h5 := this.1.2
    unfold am_okt at h5
    split at h5 <;> first | (rename_i e; rw [e]; rfl) | (rename_i e1 e2; rw [e2]; rfl) | cases h5
  · intro a ha b hb hab
    have := List.all_eq_true.mp (List.all_eq_true.mp h4 a (List.mem_range.mpr ha)) b (List.mem_range.mpr hb)
    rw [Bool.or_eq_true] at this
    rcases this with e | e
    · exact absurd (Nat.eq_of_beq_eq_true e) hab
    · exact of_decide_eq_true e
/-- an object's entry in the world -/
theorem am_en_obj (g : am_D) (ad : Nat → Nat) (h : am_H) {r c : Nat} (hc : (am_ty r).1 = c) (hl : c < 16) : am_en g ad h r = .inr (c, am_fs ad h r c) := by
  unfold am_en
  rw [hc, if_neg (by omega), if_neg (by omega), if_neg (by omega)]
theorem am_en_i (g : am_D) (ad : Nat → Nat) (h : am_H) {r : Nat} (hc : (am_ty r).1 = 16) : am_en g ad h r = .inl (g.2.1.1, (am_ty r).2, .inl (am_I h r)) := by
  unfold am_en; rw [if_pos hc]
theorem am_en_z (g : am_D) (ad : Nat → Nat) (h : am_H) {r : Nat} (hc : (am_ty r).1 = 17) : am_en g ad h r = .inl (g.2.1.2.1, (am_ty r).2, .inl (am_I h r)) := by
  unfold am_en; rw [if_neg (by omega), if_pos hc]
theorem am_en_l (g : am_D) (ad : Nat → Nat) (h : am_H) {r : Nat} (hc : (am_ty r).1 = 18) : am_en g ad h r = .inl (g.2.1.2.2, (am_ty r).2, .inr (.inl (am_J h r))) := by
  unfold am_en; rw [if_neg (by omega), if_neg (by omega), if_pos hc]
theorem am_dm (a : Nat) : 128 * (a / 128) + a % 128 = a := Nat.div_add_mod a 128
theorem st_getfield {l : Launch} {g : am_D} {B : am_B} {ρ mi pc n a : Nat} {x : Int32} {ls : am_L} {st : List Value} {h : am_H} {r : am_Q} {k : am_K} {idx : Nat} (hf : am_f mi pc = some (.getfield idx, n, x, a)) (hk : am_PK l g B ρ mi k)
    (e : am_r1 st (fun r0 q => am_gf (B.1 h) B.2.1 r0 a h fun v => k (pc + n) ls (v :: q) h) = some r) : am_P l g B ρ mi pc ls st h r := by
  obtain ⟨d, o, hmi, -⟩ := am_okf hf
  simp only [am_okx, Bool.and_eq_true] at o
  obtain ⟨on, o⟩ := o
  obtain rfl : n = 3 := Nat.eq_of_beq_eq_true on
  obtain ⟨r0, q, rfl, e⟩ := am_r1_t e
  · unfold am_gf at e
    cases h30 : Nat.beq (a / 128) 30 with
    | true =>
      rw [h30] at e o
      obtain ⟨hr, e⟩ := am_cdT (show am_cd _ _ none = some r from e) rfl
      rw [Bool.and_eq_true] at hr
      have b1 : 999 < r0 := Nat.le_of_ble_eq_true hr.1
      have b2 : r0 < 1000 + am_nstr := Nat.le_of_ble_eq_true hr.2
      cases h0 : Nat.beq (a % 128) 0 with
      | true =>
        rw [h0] at e o
        have e : k (pc + 3) ls (.ref (r0 + 100) :: q) h = some r := e
        refine (hk _ _ _ _ _ e).go fun p e R s m args below meth c A ad H locs lsm cells slots Q F Wd Ev S hl kk => ?_
        have hS := (Ev.2.1.1 (r0 - 1000) (by omega)).2.2.1
        dsimp only at hS
        rw [show 1000 + (r0 - 1000) = r0 by omega, show 1100 + (r0 - 1000) = r0 + 100 by omega] at hS
        exact vk_getf F.1 F.2.1 hS S F.2.2.2.1 (F.2.2.2.2.1 _ (am_gw_in o)) (fun _ z => z) d (kk lsm hl)
      | false =>
        rw [h0] at e o
        have e : k (pc + 3) ls (.int 0 :: q) h = some r := e
        refine (hk _ _ _ _ _ e).go fun p e R s m args below meth c A ad H locs lsm cells slots Q F Wd Ev S hl kk => ?_
        have hS := (Ev.2.1.1 (r0 - 1000) (by omega)).2.1
        dsimp only at hS
        rw [show 1000 + (r0 - 1000) = r0 by omega] at hS
        exact vk_getf F.1 F.2.1 hS S F.2.2.2.1 (F.2.2.2.2.1 _ (am_gw_in o)) (fun _ z => z) d (kk lsm hl)
    | false =>
      rw [h30] at e o
      obtain ⟨hr1, hr2, e⟩ := am_ret_ch (show am_ch _ _ _ _ = some r from e)
      have o : am_okF mi pc a idx false = true := o
      unfold am_okF at o
      split at o
      · rename_i C T N hcl
        simp only [Bool.and_eq_true, decide_eq_true_eq] at o
        obtain ⟨⟨o1, o2⟩, -⟩ := o
        obtain ⟨c1, c2, c3, c4, c5, c6, c7, c8⟩ := am_clsF hcl
        -- the value
        obtain ⟨v, hv, e⟩ : ∃ v, (∀ (ad : Nat → Nat) (A : Nat → Prop) (H : Heap), am_Wd g B ad h A H → am_f1 ad h r0 a = am_tv g ad v) ∧ k (pc + 3) ls (v :: q) h = some r := by
          split at e
          · rename_i h0; exact ⟨_, fun ad A H W => by unfold am_f1; rw [h0]; rfl, e⟩
          · rename_i h0; exact ⟨_, fun ad A H W => by unfold am_f1; rw [h0]; rfl, e⟩
          · rename_i h0
            unfold am_gr at e
            split at e
            · rename_i q1 hq
              refine ⟨_, fun ad A H W => ?_, e⟩
              have hR := W.2.2.2.1.1 _ _ _ hq (by rw [← W.2.2.1]; exact hr1)
              unfold am_f1; rw [h0]; show va_rf ((am_R h r0 (a % 128)).map ad) = _; rw [hR]; rfl
            · split at e
              · rename_i q1 hq
                refine ⟨_, fun ad A H W => ?_, e⟩
                unfold am_f1; rw [h0]; show va_rf ((am_R h r0 (a % 128)).map ad) = _; rw [hq]; rfl
              · cases e
          · rename_i h0 h1 h2
            refine ⟨_, fun ad A H W => ?_, e⟩
            unfold am_f1
            split
            · exact absurd (by assumption) h0
            · exact absurd (by assumption) h1
            · exact absurd (by assumption) h2
            · rfl
        refine (hk _ _ _ _ _ e).go fun p e R s m args below meth c A ad H locs lsm cells slots Q F Wd Ev S hl kk => ?_
        have hr0 : r0 < h.1 := by rw [← Wd.2.2.1]; exact hr1
        have he := am_ws_get g ad h hr0
        rw [am_en_obj g ad h hr2 (by omega)] at he
        have hfs := am_fs_get ad h r0 (a / 128) (k := a % 128) (by rw [← c3]; exact o1)
        rw [am_dm, hv ad A H Wd] at hfs
        exact va_get F.1 F.2.1 F.2.2.2.2.1 c5 F.2.2.2.1 Ev.1 Wd.1 r0 he c2 (a % 128) o1 (F.2.2.2.2.1 _ (am_gw_in o2)) (fun _ z => z) hfs d (kk lsm hl)
      · cases o

theorem am_law_init {mi : Nat} (h : (am_y mi).name = "<init>") : mi ≠ am_law := fun e => by rw [e] at h; exact absurd h (by decide +kernel)
/-- a heap with one place changed -/
theorem am_Wd_upd {g : am_D} {B : am_B} {ad : Nat → Nat} {h h' : am_H} {A : Nat → Prop} {H H1 : Heap} (W : am_Wd g B ad h A H) (hB : B.1 h' = h'.1) (hn : h'.1 = h.1) (hP : va_P g.1 vwCl (am_ws g ad h') H1) (hD : va_D A (am_ws g ad h')) (hR : am_S4 B h.1 (am_R h')) (hI : ∀ i, 1000 ≤ i → am_I h' i = am_I h i) : am_Wd g B ad h' A H1 :=
  ⟨hP, hD, hB, by rw [hn]; exact hR, by rw [hn]; exact W.2.2.2.2.1, by rw [hI 2000 (by omega)]; exact W.2.2.2.2.2.1, by rw [hI 2001 (by omega)]; exact W.2.2.2.2.2.2⟩
theorem am_f1_int (ad : Nat → Nat) (h : am_H) (id a : Nat) (h1 : am_ft a ≠ 1) (h2 : am_ft a ≠ 2) : am_f1 ad h id a = .int (am_I h id (a % 128)) := by
  unfold am_f1
  split
  · rfl
  · exact absurd (by assumption) h1
  · exact absurd (by assumption) h2
  · rfl
theorem am_f1_eq (ad : Nat → Nat) (h h' : am_H) (id a : Nat) (h1 : am_I h' id (a % 128) = am_I h id (a % 128)) (h2 : am_J h' id (a % 128) = am_J h id (a % 128)) (h3 : am_R h' id (a % 128) = am_R h id (a % 128)) : am_f1 ad h' id a = am_f1 ad h id a := by
  unfold am_f1; rw [h1, h2, h3]
theorem am_mod128 (c j : Nat) (hj : j < 128) : (128 * c + j) % 128 = j := by omega
/-- putfield at the machine -/
theorem am_putf {l : Launch} {g : am_D} {B : am_B} {ρ mi pc a idx r0 : Nat} {h h' : am_H} {v : Value} (o : am_okF mi pc a idx true = true) (d : decode (am_b mi) pc = .ok (.putfield idx, 3)) (hr1 : r0 < B.1 h) (hr2 : (am_ty r0).1 = a / 128)
    (hn : h'.1 = h.1) (hB : B.1 h' = B.1 h) (ho : ∀ (ad : Nat → Nat) j, j ≠ r0 → am_en g ad h' j = am_en g ad h j) (hj : ∀ (ad : Nat → Nat) j, j ≠ a % 128 → j < 128 → am_f1 ad h' r0 (128 * (a / 128) + j) = am_f1 ad h r0 (128 * (a / 128) + j)) (hv : ∀ ad : Nat → Nat, am_f1 ad h' r0 a = am_tv g ad v)
    (hR : B.1 h = h.1 → am_S4 B h.1 (am_R h) → am_S4 B h.1 (am_R h')) (hI : ∀ i, 1000 ≤ i → i ≠ r0 → am_I h' i = am_I h i)
    (hty : ∀ (ad : Nat → Nat) ty, am_okt a (some ty) = true → narrow ty (am_tv g ad v) = am_tv g ad v ∧ fits ty (am_tv g ad v) = true)
    {p : Program} {e : Env} {R : Room} {s : State} {m : MethodId} {args : Array Value} {below : List Frame} {meth : Method} {c : Code} {A : Nat → Prop} {ad : Nat → Nat} {H : Heap} {locs : List Loc} {lsm : Array Slot} {cells slots : Nat} {Q : State → Prop} {rest : List Value}
    (F : am_Fx l ρ mi p R s m args meth c A) (Wd : am_Wd g B ad h A H) (Ev : am_Ev g ad A s) (S : va_S A s.heap H locs)
    (kk : ∀ H' locs', am_Wd g B ad h' A H' → va_S A s.heap H' locs' → W p l e R s m args below meth c H' locs' cells slots Q (F0 m (pc + 3) lsm rest)) :
    W p l e R s m args below meth c H locs cells slots Q (F0 m pc lsm (am_tv g ad v :: .ref (ad r0) :: rest)) := by
  unfold am_okF at o
  split at o
  · rename_i C T N hcl
    simp only [Bool.and_eq_true, decide_eq_true_eq] at o
    obtain ⟨⟨o1, o2⟩, o3⟩ := o
    obtain ⟨c1, c2, c3, c4, c5, c6, c7, c8⟩ := am_clsF hcl
    have hr0 : r0 < h.1 := by rw [← Wd.2.2.1]; exact hr1
    have he := am_ws_get g ad h hr0
    rw [am_en_obj g ad h hr2 (by omega)] at he
    have hlen : a % 128 < (am_fs ad h r0 (a / 128)).length := by simp [am_fs, ← c3, o1]
    have hpd := c7 _ o1
    obtain ⟨t1, t2⟩ := hty ad _ (by rw [← hpd]; have := (c6 _ o1).1; rwa [am_dm] at this)
    have hset := am_fs_set ad h h' r0 (a / 128) (a % 128) (v := am_tv g ad v) (by rw [am_dm]; exact hv ad) (fun j => hj ad j) (by omega)
    have hws := am_ws_set g ad h h' (id := r0) hn (ho ad) (e := .inr (a / 128, am_fs ad h' r0 (a / 128))) (am_en_obj g ad h' hr2 (by omega))
    have hk0 : ∀ (H1 : Heap) (locs1 : List Loc), va_P g.1 vwCl ((am_ws g ad h).set r0 (ad r0, .inr (a / 128, (am_fs ad h r0 (a / 128)).set (a % 128) (am_tv g ad v)))) H1 → va_D A ((am_ws g ad h).set r0 (ad r0, .inr (a / 128, (am_fs ad h r0 (a / 128)).set (a % 128) (am_tv g ad v)))) → va_S A s.heap H1 locs1 → W p l e R s m args below meth c H1 locs1 cells slots Q (F0 m (pc + 3) lsm rest) := by
      intro H1 locs1 hP hD hS
      rw [hset, hws] at hP hD
      have h1000 : r0 < 1000 := Nat.lt_of_lt_of_le hr0 (Nat.le_trans Wd.2.2.2.2.1 (by decide))
      exact kk H1 locs1 (am_Wd_upd Wd (by rw [hB, hn]; exact Wd.2.2.1) hn hP hD (hR Wd.2.2.1 Wd.2.2.2.1) (fun i hi => hI i hi (by omega))) hS
    cases hfin : (T (a % 128)).2.2.2 with
    | false => exact va_put F.1 F.2.1 F.2.2.2.2.1 c5 (fun k => (parseFieldDescriptor (T k).2.2.1).getD .int) c7 c8 F.2.2.2.1 Ev.1 Wd.1 Wd.2.1 S r0 he c2 (a % 128) o1 (F.2.2.2.2.1 _ (am_gw_in o2)) (fun _ z => z) hfin hpd t1 t2 hlen d hk0
    | true =>
      rw [hfin] at o3
      simp only [Bool.not_true, Bool.false_or, Bool.and_eq_true, decide_eq_true_eq] at o3
      exact va_putF F.1 F.2.1 F.2.2.2.2.1 c5 (fun k => (parseFieldDescriptor (T k).2.2.1).getD .int) c7 c8 F.2.2.2.1 Ev.1 Wd.1 Wd.2.1 S r0 he c2 (a % 128) o1 (F.2.2.2.2.1 _ (am_gw_in o2)) (fun _ z => z) hfin ((F.2.2.2.2.2.2.2.2.2.2.2.2 (am_law_init o3.1)).trans o3.1) o3.2.symm hpd t1 t2 hlen d hk0
  · cases o
