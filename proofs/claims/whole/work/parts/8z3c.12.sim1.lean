/-! THE MACHINE FOLLOWS THE ABSTRACT MACHINE: the relation -/
/-- classes and fields; the array classes of int, boolean, long; a static whose value isn't known; the script -/
abbrev am_D : Type := va_G × (ClassId × ClassId × ClassId) × Value × (Nat × Nat × (Nat → Int32))
def am_tys (g : am_D) : List (ClassId × FieldType) := [(g.2.1.1, .int), (g.2.1.2.1, .boolean), (g.2.1.2.2, .long)]
def am_tv (g : am_D) (ad : Nat → Nat) (v : Value) : Value := match v with
  | .ref r => .ref (ad r)
  | .retAddr _ => g.2.2.1
  | v => v
def am_f1 (ad : Nat → Nat) (h : am_H) (id a : Nat) : Value := match am_ft a with
  | 0 => .int (am_I h id (a % 128))
  | 1 => .long (am_J h id (a % 128))
  | 2 => va_rf ((am_R h id (a % 128)).map ad)
  | _ => .int (am_I h id (a % 128))
def am_fs (ad : Nat → Nat) (h : am_H) (id c : Nat) : List Value := (List.range (am_nf c)).map fun k => am_f1 ad h id (128 * c + k)
def am_en (g : am_D) (ad : Nat → Nat) (h : am_H) (id : Nat) : va_E :=
  if (am_ty id).1 = 16 then .inl (g.2.1.1, (am_ty id).2, .inl (am_I h id))
  else if (am_ty id).1 = 17 then .inl (g.2.1.2.1, (am_ty id).2, .inl (am_I h id))
  else if (am_ty id).1 = 18 then .inl (g.2.1.2.2, (am_ty id).2, .inr (.inl (am_J h id)))
  else .inr ((am_ty id).1, am_fs ad h id (am_ty id).1)
def am_ws (g : am_D) (ad : Nat → Nat) (h : am_H) : va_W := (List.range h.1).map fun id => (ad id, am_en g ad h id)
theorem am_ws_get (g : am_D) (ad : Nat → Nat) (h : am_H) {id : Nat} (hi : id < h.1) : (am_ws g ad h)[id]? = some (ad id, am_en g ad h id) := by
  simp [am_ws, hi]
theorem am_ws_set (g : am_D) (ad : Nat → Nat) (h h' : am_H) {id : Nat} (hn : h'.1 = h.1) (ho : ∀ j, j ≠ id → am_en g ad h' j = am_en g ad h j) {e : va_E} (he : am_en g ad h' id = e) : (am_ws g ad h).set id (ad id, e) = am_ws g ad h' := by
  refine List.ext_getElem? fun k => ?_
  rw [List.getElem?_set]
  by_cases hk : id = k
  · subst hk
    by_cases hl : id < h.1
    · simp [am_ws, hn, hl, he]
    · simp [am_ws, hn, hl]
  · simp only [hk, if_false]
    by_cases hl : k < h.1
    · simp [am_ws, hn, hl, ho k (fun e => hk e.symm)]
    · simp [am_ws, hn, hl]
theorem am_ws_push (g : am_D) (ad ad' : Nat → Nat) (h h' : am_H) (hn : h'.1 = h.1 + 1) (hp : ∀ j, j < h.1 → ad' j = ad j ∧ am_en g ad' h' j = am_en g ad h j) {q : Nat} {e : va_E} (hq : ad' h.1 = q) (he : am_en g ad' h' h.1 = e) : am_ws g ad h ++ [(q, e)] = am_ws g ad' h' := by
  refine List.ext_getElem? fun k => ?_
  have hlen : (am_ws g ad h).length = h.1 := by simp [am_ws]
  by_cases hk : k < h.1
  · rw [List.getElem?_append_left (by rw [hlen]; exact hk), am_ws_get g ad h hk, am_ws_get g ad' h' (by rw [hn]; omega), (hp k hk).1, (hp k hk).2]
  · rw [List.getElem?_append_right (by rw [hlen]; omega), hlen]
    by_cases hk2 : k = h.1
    · subst hk2
      rw [am_ws_get g ad' h' (by rw [hn]; omega), hq, he]
      simp
    · rw [List.getElem?_eq_none (show [(q, e)].length ≤ k - h.1 by simp; omega), List.getElem?_eq_none (by simp [am_ws, hn]; omega)]
theorem am_sI_I (h : am_H) (i k : Nat) (v : Int32) : am_I (am_sI h i k v) i = upd (am_I h i) k v := by
  funext b; simp [am_I, am_sI, am_u, upd]
theorem am_sI_I' (h : am_H) (i k : Nat) (v : Int32) {j : Nat} (hj : j ≠ i) : am_I (am_sI h i k v) j = am_I h j := by simp [am_I, am_sI, am_u, hj]
theorem am_sJ_J (h : am_H) (i k : Nat) (v : Int64) : am_J (am_sJ h i k v) i = vp_updL (am_J h i) k v := by
  funext b; simp [am_J, am_sJ, am_u, vp_updL]
theorem am_sJ_J' (h : am_H) (i k : Nat) (v : Int64) {j : Nat} (hj : j ≠ i) : am_J (am_sJ h i k v) j = am_J h j := by simp [am_J, am_sJ, am_u, hj]
theorem am_sR_R (h : am_H) (i k : Nat) (v : Option Nat) : am_R (am_sR h i k v) i = fun b => if b = k then v else am_R h i b := by
  funext b; simp [am_R, am_sR, am_u]
theorem am_sR_R' (h : am_H) (i k : Nat) (v : Option Nat) {j : Nat} (hj : j ≠ i) : am_R (am_sR h i k v) j = am_R h j := by simp [am_R, am_sR, am_u, hj]
theorem am_en_sI (g : am_D) (ad : Nat → Nat) (h : am_H) (i k : Nat) (v : Int32) {j : Nat} (hj : j ≠ i) : am_en g ad (am_sI h i k v) j = am_en g ad h j := by
  have h1 : am_fs ad (am_sI h i k v) j = am_fs ad h j := by
    funext c; unfold am_fs; congr 1; funext k1; unfold am_f1; rw [am_sI_I' h i k v hj]; rfl
  unfold am_en; rw [am_sI_I' h i k v hj, h1]; rfl
theorem am_en_sJ (g : am_D) (ad : Nat → Nat) (h : am_H) (i k : Nat) (v : Int64) {j : Nat} (hj : j ≠ i) : am_en g ad (am_sJ h i k v) j = am_en g ad h j := by
  have h1 : am_fs ad (am_sJ h i k v) j = am_fs ad h j := by
    funext c; unfold am_fs; congr 1; funext k1; unfold am_f1; rw [am_sJ_J' h i k v hj]; rfl
  unfold am_en; rw [am_sJ_J' h i k v hj, h1]; rfl
theorem am_en_sR (g : am_D) (ad : Nat → Nat) (h : am_H) (i k : Nat) (v : Option Nat) {j : Nat} (hj : j ≠ i) : am_en g ad (am_sR h i k v) j = am_en g ad h j := by
  have h1 : am_fs ad (am_sR h i k v) j = am_fs ad h j := by
    funext c; unfold am_fs; congr 1; funext k1; unfold am_f1; rw [am_sR_R' h i k v hj]; rfl
  unfold am_en; rw [h1]; rfl
theorem am_fs_get (ad : Nat → Nat) (h : am_H) (id c : Nat) {k : Nat} (hk : k < am_nf c) : (am_fs ad h id c)[k]? = some (am_f1 ad h id (128 * c + k)) := by
  simp [am_fs, hk]
/-- a field is set -/
theorem am_fs_set (ad : Nat → Nat) (h h' : am_H) (id c k : Nat) {v : Value} (hv : am_f1 ad h' id (128 * c + k) = v) (ho : ∀ j, j ≠ k → j < 128 → am_f1 ad h' id (128 * c + j) = am_f1 ad h id (128 * c + j)) (hn : am_nf c ≤ 128) :
    (am_fs ad h id c).set k v = am_fs ad h' id c := by
  refine List.ext_getElem? fun j => ?_
  rw [List.getElem?_set]
  by_cases hj : k = j
  · subst hj
    by_cases hl : k < am_nf c
    · simp [am_fs, hl, hv]
    · simp [am_fs, hl]
  · simp only [hj, if_false]
    by_cases hl : j < am_nf c
    · rw [am_fs_get _ _ _ _ hl, am_fs_get _ _ _ _ hl, ho j (fun e => hj e.symm) (by omega)]
    · simp [am_fs, hl]
/-- references: those that never change; and each leads to what is there -/
def am_S4 (B : am_B) (n : Nat) (R : Nat → Nat → Option Nat) : Prop := (∀ i k q, B.2.1 i k = some q → i < n → R i k = some q) ∧ ∀ i k q, i < n → R i k = some q → q < n ∨ 999 < q
/-- the heap holds h's objects at ad -/
def am_Wd (g : am_D) (B : am_B) (ad : Nat → Nat) (h : am_H) (A : Nat → Prop) (H : Heap) : Prop :=
  va_P g.1 vwCl (am_ws g ad h) H ∧ va_D A (am_ws g ad h) ∧ B.1 h = h.1 ∧ am_S4 B h.1 (am_R h) ∧ h.1 ≤ 100 ∧ am_I h 2000 = g.2.2.2.2.2 ∧ am_I h 2001 0 = nI g.2.2.2.2.1
/-- what stays -/
def am_Ev (g : am_D) (ad : Nat → Nat) (A : Nat → Prop) (U : State) : Prop :=
  va_K g.1 vwCl (am_tys g) U ∧ vk_S am_nstr am_sl am_sb (fun i => ad (1000 + i)) (fun i => ad (1100 + i)) A U U.heap
  ∧ (∀ k, k < am_nstr → vk_R (am_so k).1 (am_so k).2.1 (am_so k).2.2 (ad (1000 + k)) U)
  ∧ va_Z "java/lang/String" "COMPACT_STRINGS" "Z" (.int 1) A U U.heap ∧ va_Z "jdk/internal/util/Preconditions" "SIOOBE_FORMATTER" "Ljava/util/function/BiFunction;" g.2.2.1 A U U.heap ∧ g.2.2.1.category = 1
  ∧ vx_Zq Bundle.tN "UNASSIGNED_STACK" Bundle.steD A U U.heap ∧ vx_Zq Bundle.tN "SUPPRESSED_SENTINEL" Bundle.listD A U U.heap ∧ va_Nc "java/lang/IllegalArgumentException" "java/util/NoSuchElementException" U
  ∧ (∀ w ∈ am_Gn, va_Nw w U) ∧ va_X g.2.2.2.1 g.2.2.2.2.1 g.2.2.2.2.2 U U.heap ∧ ¬ A g.2.2.2.1 ∧ ad 2000 = g.2.2.2.1 ∧ g.2.2.2.2.1 < 2 ^ 31
theorem am_Nw_warm {w : Jvm.Cond} (hw : w ∈ am_Gn) {s U : State} (hW : s.WarmedH U.vm) (h : va_Nw w s) : va_Nw w U := by
  have h1 := (List.mem_filter.mp hw).2
  cases w <;> first | (cases h1; done) | exact va_Nw.warmM hW h | exact va_Nw.warmC hW h | exact va_Nw.warmD hW h
theorem am_Nw_same {w : Jvm.Cond} (hw : w ∈ am_Gn) {u U : State} (e : u.vm = U.vm) (h : va_Nw w u) : va_Nw w U := by
  have h1 := (List.mem_filter.mp hw).2
  cases w <;> first | (cases h1; done) | exact va_Nw.same rfl e h
theorem am_Ev.next {g : am_D} {ad ad' : Nat → Nat} {A A' : Nat → Prop} {s U : State} {H : Heap} {locs : List Loc} (E : am_Ev g ad A s) (hS : va_S A s.heap H locs) (hA : ∀ q, A' q → A q) (hU : U.heap = H) (hW : s.WarmedH U.vm) (hd : ∀ i, 1000 ≤ i → ad' i = ad i) : am_Ev g ad' A' U := by
  obtain ⟨e1, e2, e3, e4, e5, e6, e7, e8, e9, e10, e11, e12, e13, e14⟩ := E
  have hm := hW.alike
  have hk : ∀ a : Nat, a < s.heap.size → ¬ A a → U.heap[a]? = s.heap[a]? := fun a h1 h2 => by rw [hU]; exact hS.2.1 a h1 h2
  have f1 : (fun i => ad' (1000 + i)) = fun i => ad (1000 + i) := funext fun i => hd _ (by omega)
  have f2 : (fun i => ad' (1100 + i)) = fun i => ad (1100 + i) := funext fun i => hd _ (by omega)
  refine ⟨va_K.moved hm e1, ?_, fun k hk' => ?_, ((e4.moved hm).kept hk).narrow hA, ((e5.moved hm).kept hk).narrow hA, e6, ((e7.moved hm).kept hk).narrow hA, ((e8.moved hm).kept hk).narrow hA, e9.moved hm, fun w hw => am_Nw_warm hw hW (e10 w hw), (e11.moved hm).kept ?_, fun q => e12 (hA _ q), ?_, e14⟩
  · rw [f1, f2]
    exact ((e2.moved hm).kept hk).narrow hA
  · rw [hd _ (by omega)]
    exact vk_R.warm hW (e3 k hk')
  · refine hk _ ?_ e12
    obtain ⟨scr, h1, -⟩ := e11
    exact (Array.getElem?_eq_some_iff.mp h1).1
  · rw [hd _ (by omega), e13]
theorem am_Ev.blind {g : am_D} {ad : Nat → Nat} {A : Nat → Prop} {s U : State} (E : am_Ev g ad A s) (hh : U.heap = s.heap) (hv : U.vm = s.vm) : am_Ev g ad A U := by
  obtain ⟨e1, e2, e3, e4, e5, e6, e7, e8, e9, e10, e11, e12, e13, e14⟩ := E
  have hm : s.vm.Alike U.vm := by rw [hv]; exact Vm.Alike.refl _
  have hk : ∀ a : Nat, a < s.heap.size → ¬ A a → U.heap[a]? = s.heap[a]? := fun a h1 h2 => by rw [hh]
  refine ⟨va_K.moved hm e1, (e2.moved hm).kept hk, fun k hk' => vk_R.same hv (e3 k hk'), (e4.moved hm).kept hk, (e5.moved hm).kept hk, e6, (e7.moved hm).kept hk, (e8.moved hm).kept hk, e9.moved hm, fun w hw => am_Nw_same hw hv.symm (e10 w hw), (e11.moved hm).kept (by rw [hh]), e12, e13, e14⟩
/-- the locals -/
def am_lr (g : am_D) (ad : Nat → Nat) (lsm : Array Slot) (n : Nat) (ls : am_L) : Prop := lsm.size = n ∧ lv_wf lsm ∧ ls.length ≤ n ∧ ∀ k v, am_nth ls k = some (some v) → lsm[k]? = some (.val (am_tv g ad v))
def am_lv (g : am_D) (ad : Nat → Nat) (ls : am_L) : List (Nat × Value) := (List.range ls.length).filterMap fun k => match am_nth ls k with
  | some (some v) => some (k, am_tv g ad v)
  | _ => none
theorem am_nth_lt {α : Type} : ∀ (l : List α) (k : Nat) {a : α}, am_nth l k = some a → k < l.length
  | [], _, _, h => by cases h
  | _ :: l, 0, _, _ => Nat.zero_lt_succ _
  | _ :: l, k + 1, _, h => Nat.succ_lt_succ (am_nth_lt l k h)
theorem am_lv_mem {g : am_D} {ad : Nat → Nat} {ls : am_L} {k : Nat} {v : Value} (h : am_nth ls k = some (some v)) : (k, am_tv g ad v) ∈ am_lv g ad ls := by
  refine List.mem_filterMap.mpr ⟨k, List.mem_range.mpr (am_nth_lt _ _ h), ?_⟩
  rw [h]
theorem am_lr.has {g : am_D} {ad : Nat → Nat} {lsm : Array Slot} {n : Nat} {ls : am_L} (h : am_lr g ad lsm n ls) : lv_has lsm n (am_lv g ad ls) := by
  refine ⟨h.1, h.2.1, fun q hq => ?_⟩
  obtain ⟨k, -, hk⟩ := List.mem_filterMap.mp hq
  split at hk
  · rename_i v hv
    cases hk
    exact h.2.2.2 _ _ hv
  · cases hk
theorem am_set_nth {α : Type} : ∀ (l : List α) (i k : Nat) (v : α), am_nth (am_set l i v) k = if k = i ∧ i < l.length then some v else am_nth l k
  | [], i, k, v => by simp [am_set, am_nth]
  | a :: l, 0, 0, v => by simp [am_set, am_nth]
  | a :: l, 0, k + 1, v => by simp [am_set, am_nth]
  | a :: l, i + 1, 0, v => by simp [am_set, am_nth]
  | a :: l, i + 1, k + 1, v => by simp [am_set, am_nth, am_set_nth l i k v]
theorem am_set_len {α : Type} : ∀ (l : List α) (i : Nat) (v : α), (am_set l i v).length = l.length
  | [], _, _ => rfl
  | _ :: _, 0, _ => rfl
  | _ :: l, i + 1, v => by simp [am_set, am_set_len l i v]
theorem am_cut_len (ls : am_L) : ∀ i, (am_cut ls i).length = ls.length
  | 0 => rfl
  | i + 1 => by simp only [am_cut]; split <;> simp [am_set_len]
/-- what a cut leaves: no category-2 value just below -/
theorem am_cut_nth (ls : am_L) : ∀ (i k : Nat) (v : Value), am_nth (am_cut ls i) k = some (some v) → am_nth ls k = some (some v) ∧ ¬ (k + 1 = i ∧ v.category = 2)
  | 0, k, v, h => ⟨h, fun e => by omega⟩
  | i + 1, k, v, h => by
    simp only [am_cut] at h
    split at h
    · rename_i x hx
      rw [am_set_nth] at h
      split at h
      · cases h
      · rename_i hn
        refine ⟨h, fun e => hn ⟨by omega, am_nth_lt _ _ hx⟩⟩
    · rename_i x hx
      rw [am_set_nth] at h
      split at h
      · cases h
      · rename_i hn
        refine ⟨h, fun e => hn ⟨by omega, am_nth_lt _ _ hx⟩⟩
    · rename_i h1 h2
      refine ⟨h, fun e => ?_⟩
      obtain ⟨e1, e2⟩ := e
      have : k = i := by omega
      subst this
      cases v with
      | long x => exact h1 x h
      | double x => exact h2 x h
      | _ => simp [Value.category] at e2
theorem am_tv_cat {g : am_D} (hg : g.2.2.1.category = 1) (ad : Nat → Nat) (v : Value) : (am_tv g ad v).category = v.category := by
  cases v with
  | retAddr r => exact hg
  | _ => rfl
theorem am_lr.p1 {g : am_D} (hg : g.2.2.1.category = 1) {ad : Nat → Nat} {lsm : Array Slot} {n : Nat} {ls : am_L} {i : Nat} {v : Value} (hl : ls.length ≤ n) (hi : i < ls.length)
    (h : lv_has lsm n ((i, am_tv g ad v) :: (am_lv g ad ls).filter (fun q => !(q.1 == i) && !(q.1 + 1 == i && q.2.category == 2)))) : am_lr g ad lsm n (am_p1 ls i v) := by
  refine ⟨h.1, h.2.1, by rw [am_p1, am_set_len, am_cut_len]; exact hl, fun k w hk => ?_⟩
  unfold am_p1 at hk
  rw [am_set_nth] at hk
  split at hk
  · rename_i e
    cases hk
    rw [e.1]
    exact h.2.2 _ List.mem_cons_self
  · rename_i e
    rw [am_cut_len] at e
    obtain ⟨h1, h2⟩ := am_cut_nth _ _ _ _ hk
    refine h.2.2 (k, am_tv g ad w) (List.mem_cons_of_mem _ (List.mem_filter.mpr ⟨am_lv_mem h1, ?_⟩))
    have e1 : ¬ k = i := fun q => e ⟨q, hi⟩
    rw [← am_tv_cat hg ad w] at h2
    simp only [Bool.and_eq_true, Bool.not_eq_true', beq_eq_false_iff_ne, ne_eq, Bool.and_eq_false_iff]
    refine ⟨e1, ?_⟩
    by_cases e2 : k + 1 = i
    · exact Or.inr fun q => h2 ⟨e2, q⟩
    · exact Or.inl e2
theorem am_lr.p2 {g : am_D} (hg : g.2.2.1.category = 1) {ad : Nat → Nat} {lsm : Array Slot} {n : Nat} {ls : am_L} {i : Nat} {v : Value} (hl : ls.length ≤ n) (hi : i + 1 < ls.length)
    (h : lv_has lsm n ((i, am_tv g ad v) :: (am_lv g ad ls).filter (fun q => !(q.1 == i) && (!(q.1 == i + 1) && !(q.1 + 1 == i && q.2.category == 2))))) : am_lr g ad lsm n (am_p2 ls i v) := by
  refine ⟨h.1, h.2.1, by rw [am_p2, am_set_len, am_set_len, am_cut_len]; exact hl, fun k w hk => ?_⟩
  unfold am_p2 at hk
  rw [am_set_nth, am_set_len, am_cut_len] at hk
  split at hk
  · cases hk
  · rename_i e0
    rw [am_set_nth, am_cut_len] at hk
    split at hk
    · rename_i e
      cases hk
      rw [e.1]
      exact h.2.2 _ List.mem_cons_self
    · rename_i e
      obtain ⟨h1, h2⟩ := am_cut_nth _ _ _ _ hk
      refine h.2.2 (k, am_tv g ad w) (List.mem_cons_of_mem _ (List.mem_filter.mpr ⟨am_lv_mem h1, ?_⟩))
      have e1 : ¬ k = i := fun q => e ⟨q, by omega⟩
      have e3 : ¬ k = i + 1 := fun q => e0 ⟨q, by omega⟩
      rw [← am_tv_cat hg ad w] at h2
      simp only [Bool.and_eq_true, Bool.not_eq_true', beq_eq_false_iff_ne, ne_eq, Bool.and_eq_false_iff]
      refine ⟨e1, e3, ?_⟩
      by_cases e2 : k + 1 = i
      · exact Or.inr fun q => h2 ⟨e2, q⟩
      · exact Or.inl e2
theorem am_mk_nth : ∀ (m : List Bool) (l : am_L) (k : Nat) (v : Value), am_nth (am_mk m l) k = some (some v) → am_nth l k = some (some v)
  | true :: m, a :: l, 0, v, h => by simpa [am_mk, am_nth] using h
  | true :: m, a :: l, k + 1, v, h => by
    simp only [am_mk, am_nth] at h ⊢
    exact am_mk_nth m l k v h
  | false :: m, a :: l, 0, v, h => by simp [am_mk, am_nth] at h
  | false :: m, a :: l, k + 1, v, h => by
    simp only [am_mk, am_nth] at h ⊢
    exact am_mk_nth m l k v h
  | [], l, k, v, h => by simpa [am_mk] using h
  | true :: m, [], k, v, h => by simp [am_mk, am_nth] at h
  | false :: m, [], k, v, h => by simp [am_mk, am_nth] at h
theorem am_mk_len : ∀ (m : List Bool) (l : am_L), (am_mk m l).length ≤ l.length
  | true :: m, a :: l => by simpa [am_mk] using am_mk_len m l
  | false :: m, a :: l => by simpa [am_mk] using am_mk_len m l
  | [], l => by simp [am_mk]
  | true :: m, [] => by simp [am_mk]
  | false :: m, [] => by simp [am_mk]
theorem am_lr.ms {g : am_D} {ad : Nat → Nat} {lsm : Array Slot} {n : Nat} {ls : am_L} (h : am_lr g ad lsm n ls) (m : Option (List Bool)) : am_lr g ad lsm n (am_ms m ls) := by
  cases m with
  | none => exact h
  | some m => exact ⟨h.1, h.2.1, Nat.le_trans (am_mk_len m ls) h.2.2.1, fun k v hk => h.2.2.2 k v (am_mk_nth m ls k v hk)⟩
