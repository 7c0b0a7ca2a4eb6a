/-! WINTER: the model's expressions: rows that it fills -/
def wm_wd (j s : Nat) : List Nat := if s < 10000 then [1, s] else if s < 20000 then [2, pm_v j (s - 10000)] else [pm_op s]
def wm_cd (j : Nat) : List Nat → List Nat
  | [] => []
  | s :: l => wm_wd j s ++ wm_cd j l
theorem wm_cd_ap (j : Nat) (r : List Nat) : ∀ l, wm_cd j (l ++ r) = wm_cd j l ++ wm_cd j r
  | [] => rfl
  | s :: l => by rw [List.cons_append, wm_cd, wm_cd, wm_cd_ap j r l, List.append_assoc]
theorem wm_cd_1 (j c : Nat) : wm_cd j [c] = wm_wd j c := by rw [wm_cd, wm_cd, List.append_nil]
theorem pm_code_cd (j : Nat) : ∀ l, pm_code j l = wm_cd j l ++ [0]
  | [] => rfl
  | s :: l => by
    rw [pm_code, wm_cd, pm_code_cd j l]
    unfold wm_wd
    split
    · rfl
    · split <;> rfl
def wm_O (g : am_H) (j a : Nat) (o : List Nat) : Prop := am_I g 60 37 = nI (a + (wm_cd j o).length) ∧ ∀ i, i < (wm_cd j o).length → am_I g 82 (a + i) = nI ((wm_cd j o).getD i 0)
def wm_B (g : am_H) (B : List Nat) : Prop := am_I g 60 40 = nI B.length ∧ ∀ i, i < B.length → am_I g 83 i = nI (pm_op (B.getD i 0))
def wm_va (B : List Nat) : Prop := ∀ c, c ∈ B → 20000 ≤ c ∧ c ≤ 20008 ∨ c = 20011
def wm_st (c : Nat) : Nat := if c = 20000 then 1 else if c = 20001 then 2 else if c = 20002 then 3 else if c ≤ 20004 then 4 else if c ≤ 20006 then 5 else 6
def wm_u (T : Nat → Nat) (i t : Nat) : Nat → Nat := fun k => if k = i then t else T k
theorem wm_u_u (T : Nat → Nat) (i t u : Nat) : wm_u (wm_u T i t) i u = wm_u T i u := by
  funext k
  unfold wm_u
  by_cases c : k = i
  · rw [if_pos c, if_pos c]
  · rw [if_neg c, if_neg c, if_neg c]
theorem wm_u_i (T : Nat → Nat) (i : Nat) : wm_u T i (T i) = T := by
  funext k
  unfold wm_u
  by_cases c : k = i
  · rw [if_pos c, c]
  · rw [if_neg c]
theorem wm_u_s (T : Nat → Nat) (i t : Nat) : wm_u T i t i = t := if_pos rfl
def wg_G (a i k : Nat) : Bool := decide (i = 60 ∧ (23 ≤ k ∧ k ≤ 28 ∨ k = 37 ∨ k = 40 ∨ k = 41) ∨ i = 82 ∧ a ≤ k ∨ i = 83 ∨ i = 84)
theorem wg_G_t {a i k : Nat} (h : i = 60 ∧ (23 ≤ k ∧ k ≤ 28 ∨ k = 37 ∨ k = 40 ∨ k = 41) ∨ i = 82 ∧ a ≤ k ∨ i = 83 ∨ i = 84) : wg_G a i k = true := decide_eq_true h
theorem wg_G_f {a i k : Nat} (h : ¬ (i = 60 ∧ (23 ≤ k ∧ k ≤ 28 ∨ k = 37 ∨ k = 40 ∨ k = 41) ∨ i = 82 ∧ a ≤ k ∨ i = 83 ∨ i = 84)) : wg_G a i k = false := decide_eq_false h
def wg_E (a i k : Nat) : Bool := decide (i = 60 ∧ (k = 19 ∨ k = 20 ∨ 23 ≤ k ∧ k ≤ 28 ∨ k = 37 ∨ k = 40 ∨ k = 41) ∨ i = 82 ∧ a ≤ k ∨ i = 83 ∨ i = 84)
theorem wg_E_t {a i k : Nat} (h : i = 60 ∧ (k = 19 ∨ k = 20 ∨ 23 ≤ k ∧ k ≤ 28 ∨ k = 37 ∨ k = 40 ∨ k = 41) ∨ i = 82 ∧ a ≤ k ∨ i = 83 ∨ i = 84) : wg_E a i k = true := decide_eq_true h
theorem wg_E_f {a i k : Nat} (h : ¬ (i = 60 ∧ (k = 19 ∨ k = 20 ∨ 23 ≤ k ∧ k ≤ 28 ∨ k = 37 ∨ k = 40 ∨ k = 41) ∨ i = 82 ∧ a ≤ k ∨ i = 83 ∨ i = 84)) : wg_E a i k = false := decide_eq_false h
theorem wg_GE {a i k : Nat} (h : wg_E a i k = false) : wg_G a i k = false := wg_G_f (fun c => by have := of_decide_eq_false h; omega)
theorem wg_xG {a i k : Nat} (h : wg_G a i k = false) : wg_x i k = false := wg_x_f (fun c => by have := of_decide_eq_false h; omega)
theorem wm_X.fr {g g' : am_H} {tp : Nat → Nat} {n s : Nat} (h : wm_X g tp n s) (e : ∀ k, 23 ≤ k → k ≤ 28 → am_I g' 60 k = am_I g 60 k) (eJ : am_J g' 60 29 = am_J g 60 29) : wm_X g' tp n s := by
  obtain ⟨a, b, c, d, f, i, j, k⟩ := h
  exact ⟨a, (e _ (by omega) (by omega)).trans b, (e _ (by omega) (by omega)).trans c, (e _ (by omega) (by omega)).trans d, (e _ (by omega) (by omega)).trans f, fun h => (e _ (by omega) (by omega)).trans (i h), (e _ (by omega) (by omega)).trans j, fun h => eJ.trans (k h)⟩
theorem wm_O.fr {g g' : am_H} {j a : Nat} {o : List Nat} (h : wm_O g j a o) (e1 : am_I g' 60 37 = am_I g 60 37) (e2 : ∀ i, i < (wm_cd j o).length → am_I g' 82 (a + i) = am_I g 82 (a + i)) : wm_O g' j a o := ⟨e1.trans h.1, fun i hi => (e2 i hi).trans (h.2 i hi)⟩
theorem wm_B.fr {g g' : am_H} {B : List Nat} (h : wm_B g B) (e1 : am_I g' 60 40 = am_I g 60 40) (e2 : ∀ i, i < B.length → am_I g' 83 i = am_I g 83 i) : wm_B g' B := ⟨e1.trans h.1, fun i hi => (e2 i hi).trans (h.2 i hi)⟩
theorem wm_gd (l r : List Nat) {i : Nat} (h : i < l.length) : (l ++ r).getD i 0 = l.getD i 0 := by
  rw [List.getD_eq_getElem?_getD, List.getD_eq_getElem?_getD, List.getElem?_append_left h]
theorem wm_ge (l r : List Nat) (i : Nat) : (l ++ r).getD (l.length + i) 0 = r.getD i 0 := by
  rw [List.getD_eq_getElem?_getD, List.getD_eq_getElem?_getD, List.getElem?_append_right (by omega), show l.length + i - l.length = i by omega]
theorem wm_g0 (l : List Nat) (c : Nat) : (l ++ [c]).getD l.length 0 = c := by
  have := wm_ge l [c] 0
  rw [Nat.add_zero] at this
  rw [this]; rfl
theorem am_is17 {α : Type} {i : Nat} (hi : i < 9) (v : Int32) (h : am_H) (f : am_H → Option α) : am_is 100 84 17 (nI i) v h f = f (am_sI h 84 i v) := by
  have ht : am_ty 84 = (17, 9) := rfl
  unfold am_is
  rw [am_ch_ok ht (by omega), ht, am_bd_ok hi (by omega), nI_clamp (by omega)]
theorem am_bl84 {α : Type} {i : Nat} (hi : i < 9) (h : am_H) (f : Int32 → Option α) : am_bl 100 84 (nI i) h f = f (am_I h 84 i) := by
  have ht : am_ty 84 = (17, 9) := rfl
  unfold am_bl
  rw [show (Nat.blt 1099 84 && Nat.blt 84 (1100 + am_nstr)) = false from rfl, am_cd_f, am_ch_ok ht (by omega), ht, am_bd_ok hi (by omega), nI_clamp (by omega)]
section
variable {g : am_H} {j a : Nat} {o B : List Nat}
/-- puts -/
theorem s201 {t : Nat} (h : am_I g 60 37 = nI t) (ht : t < 1400) (v : Int32) : am_run am_M 201 [.ref 60, .int v] g = some (.inl none, am_sI (am_sI g 82 t v) 60 37 (nI (t + 1))) := by
  rw [e201, h, am_is_ok (r := 82) (n := 1400) rfl (by omega) ht (by omega)]
  dsimp only
  rw [am_I_s1 _ _ _ _ (by omega), h, nI_add]
/-- waits for -/
theorem s205 {t : Nat} (h : am_I g 60 40 = nI t) (ht : t < 950) (v : Int32) : am_run am_M 205 [.ref 60, .int v] g = some (.inl none, am_sI (am_sI g 83 t v) 60 40 (nI (t + 1))) := by
  rw [e205, h, am_is_ok (r := 83) (n := 950) rfl (by omega) ht (by omega)]
  dsimp only
  rw [am_I_s1 _ _ _ _ (by omega), h, nI_add]
theorem wm_wd_op {c : Nat} (h : 20000 ≤ c) : wm_wd j c = [pm_op c] := by
  unfold wm_wd
  rw [if_neg (by omega), if_neg (by omega)]
theorem wm_O.op {c : Nat} (h : wm_O g j a o) (hc : 20000 ≤ c) : wm_O (am_sI (am_sI g 82 (a + (wm_cd j o).length) (nI (pm_op c))) 60 37 (nI (a + (wm_cd j o).length + 1))) j a (o ++ [c]) := by
  have e : wm_cd j (o ++ [c]) = wm_cd j o ++ [pm_op c] := by rw [wm_cd_ap, wm_cd_1, wm_wd_op hc]
  unfold wm_O
  rw [e, List.length_append]
  refine ⟨am_I_s _ _ _ _, fun i hi => ?_⟩
  have hi' : i < (wm_cd j o).length + 1 := hi
  rw [am_I_s1 _ _ _ _ (by omega)]
  by_cases c1 : i = (wm_cd j o).length
  · rw [c1, am_I_s, wm_g0]
  · rw [am_I_s2 _ _ _ _ (by omega), wm_gd _ _ (by omega)]; exact h.2 i (by omega)
theorem wm_O.two {c x y : Nat} (h : wm_O g j a o) (hc : wm_wd j c = [x, y]) : wm_O (am_sI (am_sI (am_sI (am_sI g 82 (a + (wm_cd j o).length) (nI x)) 60 37 (nI (a + (wm_cd j o).length + 1))) 82 (a + (wm_cd j o).length + 1) (nI y)) 60 37 (nI (a + (wm_cd j o).length + 1 + 1))) j a (o ++ [c]) := by
  have e : wm_cd j (o ++ [c]) = wm_cd j o ++ [x, y] := by rw [wm_cd_ap, wm_cd_1, hc]
  unfold wm_O
  rw [e, List.length_append]
  refine ⟨am_I_s _ _ _ _, fun i hi => ?_⟩
  have hi' : i < (wm_cd j o).length + 2 := hi
  rw [am_I_s1 _ _ _ _ (by omega)]
  by_cases c2 : i = (wm_cd j o).length + 1
  · rw [c2, show a + ((wm_cd j o).length + 1) = a + (wm_cd j o).length + 1 by omega, am_I_s, wm_ge]; rfl
  · rw [am_I_s2 _ _ _ _ (by omega), am_I_s1 _ _ _ _ (by omega)]
    by_cases c1 : i = (wm_cd j o).length
    · rw [c1, am_I_s]
      have := wm_ge (wm_cd j o) [x, y] 0
      rw [Nat.add_zero] at this
      rw [this]; rfl
    · rw [am_I_s2 _ _ _ _ (by omega), wm_gd _ _ (by omega)]; exact h.2 i (by omega)
theorem wm_B.push {c : Nat} (h : wm_B g B) : wm_B (am_sI (am_sI g 83 B.length (nI (pm_op c))) 60 40 (nI (B.length + 1))) (B ++ [c]) := by
  unfold wm_B
  rw [wp_l1]
  refine ⟨am_I_s _ _ _ _, fun i hi => ?_⟩
  rw [am_I_s1 _ _ _ _ (by omega)]
  by_cases c1 : i = B.length
  · rw [c1, am_I_s, wm_g0]
  · rw [am_I_s2 _ _ _ _ c1, wm_gd _ _ (by omega)]; exact h.2 i (by omega)
theorem wm_B.pop {c : Nat} (h : wm_B g (B ++ [c])) : wm_B (am_sI g 60 40 (nI B.length)) B := ⟨am_I_s _ _ _ _, fun i hi => by
  rw [am_I_s1 _ _ _ _ (by omega), h.2 i (by rw [wp_l1]; omega), wm_gd _ _ hi]⟩
theorem wm_va.ap {c : Nat} (h : wm_va B) (hc : 20000 ≤ c ∧ c ≤ 20008 ∨ c = 20011) : wm_va (B ++ [c]) := fun x hx => by
  rcases List.mem_append.mp hx with a | a
  · exact h x a
  · rw [List.mem_singleton.mp a]; exact hc
theorem s202 {c : Nat} (h : 20000 ≤ c ∧ c ≤ 20008 ∨ c = 20011) : am_run am_M 202 [.int (nI (pm_op c))] g = some (.inl (some (.int (nI (if c = 20011 then 1 else 0)))), g) := by
  have hp : pm_op c = if c = 20000 then 5 else if c = 20001 then 4 else if c = 20002 then 3 else c - 19997 := rfl
  rw [e202]
  by_cases c1 : c = 20011
  · rw [if_neg (nI_nlt (by rw [c1]; decide) (by rw [c1]; decide)), if_pos (by decide), if_pos c1]
  · have : pm_op c < 14 := by rw [hp]; split <;> (try split) <;> (try split) <;> omega
    rw [if_pos (nI_lt this (by omega)), if_pos (by decide), if_neg c1]
theorem s203 {c : Nat} (h : 20000 ≤ c ∧ c ≤ 20008) : am_run am_M 203 [.int (nI (pm_op c))] g = some (.inl (some (.int (nI (wm_st c)))), g) := by
  have hc : c = 20000 ∨ c = 20001 ∨ c = 20002 ∨ c = 20003 ∨ c = 20004 ∨ c = 20005 ∨ c = 20006 ∨ c = 20007 ∨ c = 20008 := by omega
  rcases hc with rfl | rfl | rfl | rfl | rfl | rfl | rfl | rfl | rfl
  · rw [e203, if_pos (by decide)]; rfl
  · rw [e203, if_neg (by decide), if_pos (by decide)]; rfl
  · rw [e203, if_neg (by decide), if_neg (by decide), if_pos (by decide)]; rfl
  · rw [e203, if_neg (by decide), if_neg (by decide), if_neg (by decide), if_pos (by decide)]; rfl
  · rw [e203, if_neg (by decide), if_neg (by decide), if_neg (by decide), if_neg (by decide), if_pos (by decide)]; rfl
  · rw [e203, if_neg (by decide), if_neg (by decide), if_neg (by decide), if_neg (by decide), if_neg (by decide), if_pos (by decide)]; rfl
  · rw [e203, if_neg (by decide), if_neg (by decide), if_neg (by decide), if_neg (by decide), if_neg (by decide), if_neg (by decide), if_pos (by decide)]; rfl
  · rw [e203, if_neg (by decide), if_neg (by decide), if_neg (by decide), if_neg (by decide), if_neg (by decide), if_neg (by decide), if_neg (by decide)]; rfl
  · rw [e203, if_neg (by decide), if_neg (by decide), if_neg (by decide), if_neg (by decide), if_neg (by decide), if_neg (by decide), if_neg (by decide)]; rfl
/-- drops -/
def wg_d (a i k : Nat) : Bool := decide (i = 60 ∧ (k = 37 ∨ k = 40) ∨ i = 82 ∧ a ≤ k)
theorem wg_d_t {i k : Nat} (h : i = 60 ∧ (k = 37 ∨ k = 40) ∨ i = 82 ∧ a ≤ k) : wg_d a i k = true := decide_eq_true h
theorem wg_d_f {i k : Nat} (h : ¬ (i = 60 ∧ (k = 37 ∨ k = 40) ∨ i = 82 ∧ a ≤ k)) : wg_d a i k = false := decide_eq_false h
def wm_b (m : Nat) (B : List Nat) : Prop := B = [] ∨ ∃ B' c, B = B' ++ [c] ∧ (c = 20011 ∨ (20000 ≤ c ∧ c ≤ 20008) ∧ wm_st c < m)
def wm_q (m : Nat) (Q : List Nat) : Prop := ∀ c, c ∈ Q → (20000 ≤ c ∧ c ≤ 20008) ∧ m ≤ wm_st c
theorem s204_0 {m : Nat} (hm : m < 1000) (hb : wm_b m B) : ∀ (Q : List Nat) (g1 : am_H) (o : List Nat), am_kp (wg_d a) g g1 → wm_O g1 j a o → wm_B g1 (B ++ Q.reverse) → wm_q m Q → a + (wm_cd j o).length + Q.length ≤ 1400 → B.length + Q.length ≤ 950 → ∃ g', am_vn am_M 1 204 0 [some (.ref 60), some (.int (nI m))] [] g1 = some (.inl none, g') ∧ am_kp (wg_d a) g g' ∧ wm_O g' j a (o ++ Q) ∧ wm_B g' B
  | [], g1, o, kp, hO, hB, hQ, h1, h2 => by
    rw [List.reverse_nil, List.append_nil] at hB
    rw [List.append_nil]
    refine ⟨g1, ?_, kp, hO, hB⟩
    rw [e204_0, hB.1]
    rcases hb with rfl | ⟨B', c, rfl, hc⟩
    · rw [if_pos (by decide)]
    · have hl : (B' ++ [c]).length = B'.length + 1 := wp_l1 _ _
      rw [hl] at h2
      have hv := hB.2 B'.length (by rw [hl]; omega)
      rw [wm_g0] at hv
      rw [hl, if_neg (show ¬ nI (B'.length + 1) ≤ 0 from nI_ge (show 0 < B'.length + 1 by omega) (by omega)), pk_sub (by omega), show B'.length + 1 - 1 = B'.length by omega, am_il_ok (r := 83) (n := 950) rfl (by omega) (by omega) (by omega), hv, s202 (by omega), am_bI_ok]
      by_cases c1 : c = 20011
      · rw [if_pos c1, if_neg (by decide)]
      · have hc2 := hc.resolve_left c1
        have hst : wm_st c ≤ 6 := by unfold wm_st; split <;> (try split) <;> (try split) <;> (try split) <;> (try split) <;> omega
        rw [if_neg c1, if_pos (by decide), hB.1, hl, pk_sub (by omega), show B'.length + 1 - 1 = B'.length by omega, am_il_ok (r := 83) (n := 950) rfl (by omega) (by omega) (by omega), hv, s203 hc2.1, am_bI_ok, if_pos (nI_lt hc2.2 (by omega))]
  | c :: Q, g1, o, kp, hO, hB, hQ, h1, h2 => by
    have hc := hQ c List.mem_cons_self
    rw [List.reverse_cons, ← List.append_assoc] at hB
    rw [List.length_cons] at h1 h2
    have hl : (B ++ Q.reverse ++ [c]).length = (B ++ Q.reverse).length + 1 := wp_l1 _ _
    have hl2 : (B ++ Q.reverse).length = B.length + Q.length := by rw [List.length_append, List.length_reverse]
    have hv := hB.2 (B ++ Q.reverse).length (by rw [hl]; omega)
    rw [wm_g0] at hv
    have hst : wm_st c ≤ 6 := by unfold wm_st; split <;> (try split) <;> (try split) <;> (try split) <;> (try split) <;> omega
    rw [e204_0, hB.1, hl, if_neg (show ¬ nI ((B ++ Q.reverse).length + 1) ≤ 0 from nI_ge (show 0 < (B ++ Q.reverse).length + 1 by omega) (by omega)), pk_sub (by omega), show (B ++ Q.reverse).length + 1 - 1 = (B ++ Q.reverse).length by omega, am_il_ok (r := 83) (n := 950) rfl (by omega) (by omega) (by omega), hv, s202 (Or.inl hc.1), am_bI_ok, if_neg (show ¬ c = 20011 by omega), if_pos (by decide), hB.1, hl, pk_sub (by omega), show (B ++ Q.reverse).length + 1 - 1 = (B ++ Q.reverse).length by omega, am_il_ok (r := 83) (n := 950) rfl (by omega) (by omega) (by omega), hv, s203 hc.1, am_bI_ok, if_neg (nI_nlt hc.2 (by omega))]
    dsimp only
    rw [am_I_s, hB.1, hl, pk_sub (by omega), show (B ++ Q.reverse).length + 1 - 1 = (B ++ Q.reverse).length by omega, am_il_ok (r := 83) (n := 950) rfl (by omega) (by omega) (by omega), am_I_s1 _ _ _ _ (show 83 ≠ 60 by omega), hv, s201 (t := a + (wm_cd j o).length) (by rw [am_I_s2 _ _ _ _ (by omega)]; exact hO.1) (by omega), am_bV_ok]
    have hO1 : wm_O (am_sI g1 60 40 (nI (B ++ Q.reverse).length)) j a o := hO.fr (am_I_s2 _ _ _ _ (by omega)) (fun i _ => by rw [am_I_s1 _ _ _ _ (by omega)])
    have hcl : (wm_cd j (o ++ [c])).length = (wm_cd j o).length + 1 := by
      rw [wm_cd_ap, wm_cd_1, wm_wd_op hc.1.1, List.length_append]; rfl
    obtain ⟨g', e, k', a1, a2⟩ := s204_0 hm hb Q _ (o ++ [c]) (((kp.sI _ (wg_d_t (by omega))).sI _ (wg_d_t (by omega))).sI _ (wg_d_t (by omega))) (hO1.op hc.1.1) (hB.pop.fr (by rw [am_I_s2 _ _ _ _ (by omega), am_I_s1 _ _ _ _ (by omega)]) (fun i _ => by rw [am_I_s1 _ _ _ _ (by omega), am_I_s1 _ _ _ _ (by omega)])) (fun x hx => hQ x (List.mem_cons_of_mem _ hx)) (by rw [hcl]; omega) (by omega)
    refine ⟨g', e, k', ?_, a2⟩
    rw [List.append_assoc] at a1
    exact a1
theorem wm_last : ∀ (l : List Nat), l ≠ [] → ∃ l' c, l = l' ++ [c]
  | [], h => absurd rfl h
  | [a], _ => ⟨[], a, rfl⟩
  | a :: b :: l, _ => by
    obtain ⟨l', c, e⟩ := wm_last (b :: l) (by simp)
    exact ⟨a :: l', c, by rw [e]; rfl⟩
/-- drops, after a fault: no matter what -/
def wg_D (i _k : Nat) : Bool := decide (i = 60 ∧ (_k = 37 ∨ _k = 40) ∨ i = 82)
theorem s204_F (hva : wm_va B) : ∀ (k : Nat) (g1 : am_H) (B1 : List Nat) (t : Nat), B1.length = k → wm_B g1 B1 → wm_va B1 → am_I g1 60 37 = nI t → t + k ≤ 1400 → k ≤ 900 → a ≤ t → am_kp (wg_d a) g g1 → ∃ g' t', am_vn am_M 1 204 0 [some (.ref 60), some (.int (nI 0))] [] g1 = some (.inl none, g') ∧ am_kp (wg_d a) g g' ∧ am_I g' 60 37 = nI t' ∧ t' ≤ t + k ∧ a ≤ t'
  | 0, g1, B1, t, hk, hB, hv, h37, h1, h2, h3, kp => by
    refine ⟨g1, t, ?_, kp, h37, by omega, h3⟩
    rw [e204_0, hB.1, hk, if_pos (by decide)]
  | k + 1, g1, B1, t, hk, hB, hv, h37, h1, h2, h3, kp => by
    have hne : B1 ≠ [] := fun e => by rw [e] at hk; exact absurd hk (by simp)
    obtain ⟨B', c, rfl⟩ : ∃ B' c, B1 = B' ++ [c] := wm_last B1 hne
    rw [wp_l1] at hk
    have hc := hv c (List.mem_append_right _ (List.mem_singleton.mpr rfl))
    have hvv := hB.2 B'.length (by rw [wp_l1]; omega)
    rw [wm_g0] at hvv
    rw [e204_0, hB.1, wp_l1, if_neg (show ¬ nI (B'.length + 1) ≤ 0 from nI_ge (show 0 < B'.length + 1 by omega) (by omega)), pk_sub (by omega), show B'.length + 1 - 1 = B'.length by omega, am_il_ok (r := 83) (n := 950) rfl (by omega) (by omega) (by omega), hvv, s202 hc, am_bI_ok]
    by_cases c1 : c = 20011
    · rw [if_pos c1, if_neg (by decide)]
      exact ⟨g1, t, rfl, kp, h37, by omega, h3⟩
    · have hc2 := hc.resolve_right c1
      have hst : wm_st c ≤ 6 := by unfold wm_st; split <;> (try split) <;> (try split) <;> (try split) <;> (try split) <;> omega
      rw [if_neg c1, if_pos (by decide), hB.1, wp_l1, pk_sub (by omega), show B'.length + 1 - 1 = B'.length by omega, am_il_ok (r := 83) (n := 950) rfl (by omega) (by omega) (by omega), hvv, s203 hc2, am_bI_ok, if_neg (nI_nlt (Nat.zero_le (wm_st c)) (by omega))]
      dsimp only
      rw [am_I_s, hB.1, wp_l1, pk_sub (by omega), show B'.length + 1 - 1 = B'.length by omega, am_il_ok (r := 83) (n := 950) rfl (by omega) (by omega) (by omega), am_I_s1 _ _ _ _ (show 83 ≠ 60 by omega), hvv, s201 (t := t) (by rw [am_I_s2 _ _ _ _ (by omega)]; exact h37) (by omega), am_bV_ok]
      obtain ⟨g', t', e, b1, b2, b3, b4⟩ := s204_F hva k (am_sI (am_sI (am_sI g1 60 40 (nI B'.length)) 82 t (nI (pm_op c))) 60 37 (nI (t + 1))) B' (t + 1) (by omega) (hB.pop.fr (by rw [am_I_s2 _ _ _ _ (by omega), am_I_s1 _ _ _ _ (by omega)]) (fun i _ => by rw [am_I_s1 _ _ _ _ (by omega), am_I_s1 _ _ _ _ (by omega)])) (fun x hx => hv x (List.mem_append_left _ hx)) (am_I_s _ _ _ _) (by omega) (by omega) (by omega) (((kp.sI _ (wg_d_t (by omega))).sI _ (wg_d_t (by omega))).sI _ (wg_d_t (by omega)))
      exact ⟨g', t', e, b1, b2, by omega, b4⟩
/-- is there an open parenthesis -/
theorem s209 (hB : wm_B g B) (hv : wm_va B) (hl : B.length ≤ 900) : am_run am_M 209 [.ref 60] g = some (.inl (some (.int (nI (if 20011 ∈ B then 1 else 0)))), g) := by
  rw [e209, hB.1]
  have key : ∀ k, k ≤ B.length → (∀ i, k ≤ i → i < B.length → B.getD i 0 ≠ 20011) → am_vn am_M 1 209 7 [some (.ref 60), some (.int (pd_tp k))] [] g = some (.inl (some (.int (nI (if 20011 ∈ B then 1 else 0)))), g) := by
    intro k
    induction k with
    | zero =>
      intro _ hno
      have hn : 20011 ∉ B := fun hm => by
        obtain ⟨i, hi, e⟩ := List.getElem_of_mem hm
        exact hno i (Nat.zero_le _) hi (by rw [List.getD_eq_getElem?_getD, List.getElem?_eq_getElem hi, e]; rfl)
      rw [e209_7, show pd_tp 0 = (-1 : Int32) from rfl, if_pos (by decide), e209_29, if_pos (by decide), if_pos (by decide), if_neg hn]
    | succ k ih =>
      intro hk hno
      have hvk : B.getD k 0 ∈ B := by
        rw [List.getD_eq_getElem?_getD, List.getElem?_eq_getElem (by omega)]
        exact List.getElem_mem _
      rw [e209_7, pd_tp_p (by omega), show k + 1 - 1 = k by omega, if_neg (nI_pos (by omega)), am_il_ok (r := 83) (n := 950) rfl (by omega) (by omega) (by omega), hB.2 k (by omega), s202 (hv _ hvk), am_bI_ok]
      by_cases c : B.getD k 0 = 20011
      · rw [if_pos c, if_neg (by decide), e209_29, if_neg (nI_pos (by omega)), if_pos (by decide), if_pos (by rw [← c]; exact hvk)]
      · have := pd_tp_m (d := k + 1) (by omega)
        rw [pd_tp_p (by omega), show k + 1 - 1 = k by omega] at this
        rw [if_neg c, if_pos (by decide), this]
        exact ih (by omega) (fun i h1 h2 => by
          by_cases e : i = k
          · rw [e]; exact c
          · exact hno i (by omega) h2)
  have := key B.length (Nat.le_refl _) (fun i h1 h2 => by omega)
  by_cases c : B.length = 0
  · rw [c] at this ⊢
    exact this
  · rw [pd_tp_p (by omega)] at this
    rw [pk_sub (by omega)]
    exact this
end
