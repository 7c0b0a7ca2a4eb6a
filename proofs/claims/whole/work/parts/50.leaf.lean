/-! LEAVES OF THE CLASS: its objects, their cells -/
theorem pz_II {o : Option am_Q} {hd : List (Nat × Int32)} {f : Int32 → am_H → Option am_Q} {P Q : Int32 → am_H → Prop} (a : am_RI o P) (b : ∀ v g, P v g → am_RI (f v g) Q) : am_RI (am_bI hd o f) Q := by
  obtain ⟨v, g, rfl, h⟩ := a
  exact b v g h
theorem pz_IV {o : Option am_Q} {hd : List (Nat × Int32)} {f : Int32 → am_H → Option am_Q} {P : Int32 → am_H → Prop} {Q : am_H → Prop} (a : am_RI o P) (b : ∀ v g, P v g → am_RV (f v g) Q) : am_RV (am_bI hd o f) Q := by
  obtain ⟨v, g, rfl, h⟩ := a
  exact b v g h
theorem pz_VI {o : Option am_Q} {hd : List (Nat × Int32)} {f : am_H → Option am_Q} {P : am_H → Prop} {Q : Int32 → am_H → Prop} (a : am_RV o P) (b : ∀ g, P g → am_RI (f g) Q) : am_RI (am_bV hd o f) Q := by
  obtain ⟨g, rfl, h⟩ := a
  exact b g h
theorem pz_VV {o : Option am_Q} {hd : List (Nat × Int32)} {f : am_H → Option am_Q} {P Q : am_H → Prop} (a : am_RV o P) (b : ∀ g, P g → am_RV (f g) Q) : am_RV (am_bV hd o f) Q := by
  obtain ⟨g, rfl, h⟩ := a
  exact b g h
def pc_lo (L : Nat) : Prop := L = 3 ∨ L = 43
def pc_so (s : Nat) : Prop := s = 20 ∨ s = 27 ∨ s = 35 ∨ s = 18 ∨ s = 58
def pc_do (D : Nat) : Prop := D = 12 ∨ D = 15 ∨ D = 52 ∨ D = 55
def pc_ao (A : Nat) : Prop := A = 22 ∨ A = 29
def pc_to (T : Nat) : Prop := T = 24 ∨ T = 31
section
variable {α : Type} {L s D A T : Nat}
theorem pc_lch (hL : pc_lo L) (a : Option α) : am_ch 100 L 2 a = a := by rcases hL with rfl | rfl <;> rfl
theorem pc_lg0 (hL : pc_lo L) (x : Option Nat) (f : Nat → Option α) : am_gr (am_rs1 L 0) x f = f (L + 1) := by rcases hL with rfl | rfl <;> rfl
theorem pc_lg1 (hL : pc_lo L) (x : Option Nat) (f : Nat → Option α) : am_gr (am_rs1 L 1) x f = f (L + 2) := by rcases hL with rfl | rfl <;> rfl
theorem pc_lg2 (hL : pc_lo L) (x : Option Nat) (f : Nat → Option α) : am_gr (am_rs1 L 2) x f = f (L + 3) := by rcases hL with rfl | rfl <;> rfl
theorem pc_lg3 (hL : pc_lo L) (x : Option Nat) (f : Nat → Option α) : am_gr (am_rs1 L 3) x f = f (L + 4) := by rcases hL with rfl | rfl <;> rfl
theorem pc_lg4 (hL : pc_lo L) (x : Option Nat) (f : Nat → Option α) : am_gr (am_rs1 L 4) x f = f (L + 5) := by rcases hL with rfl | rfl <;> rfl
theorem pc_lg5 (hL : pc_lo L) (x : Option Nat) (f : Nat → Option α) : am_gr (am_rs1 L 5) x f = f (L + 6) := by rcases hL with rfl | rfl <;> rfl
theorem pc_lg6 (hL : pc_lo L) (x : Option Nat) (f : Nat → Option α) : am_gr (am_rs1 L 6) x f = f (L + 7) := by rcases hL with rfl | rfl <;> rfl
theorem pc_lg7 (hL : pc_lo L) (x : Option Nat) (f : Nat → Option α) : am_gr (am_rs1 L 7) x f = f (L + 8) := by rcases hL with rfl | rfl <;> rfl
theorem pc_lg8 (hL : pc_lo L) (x : Option Nat) (f : Nat → Option α) : am_gr (am_rs1 L 8) x f = f (L + 9) := by rcases hL with rfl | rfl <;> rfl
theorem pc_lg9 (hL : pc_lo L) (x : Option Nat) (f : Nat → Option α) : am_gr (am_rs1 L 9) x f = f (L + 12) := by rcases hL with rfl | rfl <;> rfl
theorem pc_lg10 (hL : pc_lo L) (x : Option Nat) (f : Nat → Option α) : am_gr (am_rs1 L 10) x f = f (L + 15) := by rcases hL with rfl | rfl <;> rfl
theorem pc_l1 (hL : pc_lo L) : am_ty (L + 1) = (16, 9) := by rcases hL with rfl | rfl <;> rfl
theorem pc_l2 (hL : pc_lo L) : am_ty (L + 2) = (16, 9) := by rcases hL with rfl | rfl <;> rfl
theorem pc_l3 (hL : pc_lo L) : am_ty (L + 3) = (16, 6) := by rcases hL with rfl | rfl <;> rfl
theorem pc_l4 (hL : pc_lo L) : am_ty (L + 4) = (16, 6) := by rcases hL with rfl | rfl <;> rfl
theorem pc_l5 (hL : pc_lo L) : am_ty (L + 5) = (16, 10) := by rcases hL with rfl | rfl <;> rfl
theorem pc_l6 (hL : pc_lo L) : am_ty (L + 6) = (16, 81) := by rcases hL with rfl | rfl <;> rfl
theorem pc_l7 (hL : pc_lo L) : am_ty (L + 7) = (16, 81) := by rcases hL with rfl | rfl <;> rfl
theorem pc_l8 (hL : pc_lo L) : am_ty (L + 8) = (16, 7) := by rcases hL with rfl | rfl <;> rfl
theorem pc_llt (hL : pc_lo L) : L < 44 := by rcases hL with rfl | rfl <;> decide
theorem pc_ld1 (hL : pc_lo L) : pc_do (L + 9) := by rcases hL with rfl | rfl <;> simp [pc_do]
theorem pc_ld2 (hL : pc_lo L) : pc_do (L + 12) := by rcases hL with rfl | rfl <;> simp [pc_do]
theorem pc_ls1 (hL : pc_lo L) : pc_so (L + 15) := by rcases hL with rfl | rfl <;> simp [pc_so]
theorem pc_sch (hs : pc_so s) (a : Option α) : am_ch 100 s 5 a = a := by rcases hs with rfl | rfl | rfl | rfl | rfl <;> rfl
theorem pc_sg0 (hs : pc_so s) (x : Option Nat) (f : Nat → Option α) : am_gr (am_rs1 s 0) x f = f (s + 1) := by rcases hs with rfl | rfl | rfl | rfl | rfl <;> rfl
theorem pc_s1 (hs : pc_so s) : am_ty (s + 1) = (16, 49) := by rcases hs with rfl | rfl | rfl | rfl | rfl <;> rfl
theorem pc_slt (hs : pc_so s) : s + 1 < 100 := by rcases hs with rfl | rfl | rfl | rfl | rfl <;> decide
theorem pc_dch (hD : pc_do D) (a : Option α) : am_ch 100 D 1 a = a := by rcases hD with rfl | rfl | rfl | rfl <;> rfl
theorem pc_dg1 (hD : pc_do D) (x : Option Nat) (f : Nat → Option α) : am_gr (am_rs1 D 1) x f = f (D + 1) := by rcases hD with rfl | rfl | rfl | rfl <;> rfl
theorem pc_dg2 (hD : pc_do D) (x : Option Nat) (f : Nat → Option α) : am_gr (am_rs1 D 2) x f = f (D + 2) := by rcases hD with rfl | rfl | rfl | rfl <;> rfl
theorem pc_d1 (hD : pc_do D) : am_ty (D + 1) = (16, 700) := by rcases hD with rfl | rfl | rfl | rfl <;> rfl
theorem pc_d2 (hD : pc_do D) : am_ty (D + 2) = (16, 40) := by rcases hD with rfl | rfl | rfl | rfl <;> rfl
theorem pc_dlt (hD : pc_do D) : D + 2 < 100 := by rcases hD with rfl | rfl | rfl | rfl <;> decide
theorem pc_ach (hA : pc_ao A) (a : Option α) : am_ch 100 A 0 a = a := by rcases hA with rfl | rfl <;> rfl
theorem pc_ag0 (hA : pc_ao A) (x : Option Nat) (f : Nat → Option α) : am_gr (am_rs1 A 0) x f = f (A + 1) := by rcases hA with rfl | rfl <;> rfl
theorem pc_a1 (hA : pc_ao A) : am_ty (A + 1) = (16, 1960) := by rcases hA with rfl | rfl <;> rfl
theorem pc_tch (hT : pc_to T) (a : Option α) : am_ch 100 T 6 a = a := by rcases hT with rfl | rfl <;> rfl
theorem pc_tg0 (hT : pc_to T) (x : Option Nat) (f : Nat → Option α) : am_gr (am_rs1 T 0) x f = f (T + 1) := by rcases hT with rfl | rfl <;> rfl
theorem pc_tg1 (hT : pc_to T) (x : Option Nat) (f : Nat → Option α) : am_gr (am_rs1 T 1) x f = f (T + 2) := by rcases hT with rfl | rfl <;> rfl
theorem pc_t1 (hT : pc_to T) : am_ty (T + 1) = (16, 7) := by rcases hT with rfl | rfl <;> rfl
theorem pc_t2 (hT : pc_to T) : am_ty (T + 2) = (16, 7) := by rcases hT with rfl | rfl <;> rfl
end
section
variable {L s D k j q : Nat} {h : am_H}
theorem s149 (hs : pc_so s) : am_run am_M 149 [.ref s] h = some (.inl (some (.int (am_I h (s + 1) 0))), h) := by
  rw [e149, pc_sch hs, pc_sg0 hs, at_ok (pc_s1 hs) (pc_slt hs) (by omega) (by omega)]; rfl
theorem s150 (hs : pc_so s) (v : Int32) : am_run am_M 150 [.ref s, .int v] h = some (.inl none, am_sI h (s + 1) 0 v) := by
  rw [e150, pc_sch hs, pc_sg0 hs, put_ok (pc_s1 hs) (pc_slt hs) (by omega) (by omega)]; rfl
theorem s151 (hs : pc_so s) (hk : 1 + j * 6 + k < 49) : am_run am_M 151 [.ref s, .int (nI j), .int (nI k)] h = some (.inl (some (.int (am_I h (s + 1) (1 + j * 6 + k)))), h) := by
  rw [e151, pc_sch hs, pc_sg0 hs, pk_mul, nI_add, nI_add, at_ok (pc_s1 hs) (pc_slt hs) (by omega) hk]; rfl
theorem s152 (hs : pc_so s) (hk : 1 + j * 6 + k < 49) (v : Int32) : am_run am_M 152 [.ref s, .int (nI j), .int (nI k), .int v] h = some (.inl none, am_sI h (s + 1) (1 + j * 6 + k) v) := by
  rw [e152, pc_sch hs, pc_sg0 hs, pk_mul, nI_add, nI_add, put_ok (pc_s1 hs) (pc_slt hs) (by omega) hk]; rfl
theorem s153 (hs : pc_so s) (hk : 37 + j * 4 + k < 49) : am_run am_M 153 [.ref s, .int (nI j), .int (nI k)] h = some (.inl (some (.int (am_I h (s + 1) (37 + j * 4 + k)))), h) := by
  rw [e153, pc_sch hs, pc_sg0 hs, pk_mul, nI_add, nI_add, at_ok (pc_s1 hs) (pc_slt hs) (by omega) hk]; rfl
theorem s154 (hs : pc_so s) (hk : 37 + j * 4 + k < 49) (v : Int32) : am_run am_M 154 [.ref s, .int (nI j), .int (nI k), .int v] h = some (.inl none, am_sI h (s + 1) (37 + j * 4 + k) v) := by
  rw [e154, pc_sch hs, pc_sg0 hs, pk_mul, nI_add, nI_add, put_ok (pc_s1 hs) (pc_slt hs) (by omega) hk]; rfl
theorem s155 (hs : pc_so s) : am_run am_M 155 [.ref s] h = some (.inl none, pz_wr h (s + 1) (fun b => if b < 49 then nI 0 else am_I h (s + 1) b)) := by
  rw [e155, pc_sch hs, pc_sg0 hs, fill_ok (pc_s1 hs) (pc_slt hs) (by omega) (by omega)]; rfl
theorem s156 {t : Nat} (hs : pc_so s) (ht : pc_so t) (hst : t ≠ s) : am_run am_M 156 [.ref s, .ref t] h = some (.inl none, pz_wr h (s + 1) (fun b => if 0 ≤ b ∧ b < 0 + 49 then am_I h (t + 1) (0 + (b - 0)) else am_I h (s + 1) b)) := by
  rw [e156, pc_sch ht, pc_sg0 ht, pc_sch hs, pc_sg0 hs, copyRow_ok (pc_s1 ht) (pc_slt ht) (by omega) (pc_s1 hs) (pc_slt hs) (by omega) (by omega) (by omega) (by omega)]; rfl
theorem s90 (hL : pc_lo L) (hk : k < 9) : am_run am_M 90 [.ref L, .int (nI k)] h = some (.inl (some (.int (am_I h (L + 1) k))), h) := by
  have := pc_llt hL
  rw [e90, pc_lch hL, pc_lg0 hL, at_ok (pc_l1 hL) (by omega) (by omega) hk]; rfl
theorem s91 (hL : pc_lo L) (hk : k < 9) : am_run am_M 91 [.ref L, .int (nI k)] h = some (.inl (some (.int (am_I h (L + 2) k))), h) := by
  have := pc_llt hL
  rw [e91, pc_lch hL, pc_lg1 hL, at_ok (pc_l2 hL) (by omega) (by omega) hk]; rfl
theorem s92 (hL : pc_lo L) (hk : k < 6) : am_run am_M 92 [.ref L, .int (nI k)] h = some (.inl (some (.int (am_I h (L + 3) k))), h) := by
  have := pc_llt hL
  rw [e92, pc_lch hL, pc_lg2 hL, at_ok (pc_l3 hL) (by omega) (by omega) hk]; rfl
theorem s93 (hL : pc_lo L) (hk : k < 6) : am_run am_M 93 [.ref L, .int (nI k)] h = some (.inl (some (.int (am_I h (L + 4) k))), h) := by
  have := pc_llt hL
  rw [e93, pc_lch hL, pc_lg3 hL, at_ok (pc_l4 hL) (by omega) (by omega) hk]; rfl
theorem s94 (hL : pc_lo L) (hk : k < 6) (hj : j < 9) (e : am_I h (L + 4) k = nI j) : am_run am_M 94 [.ref L, .int (nI k)] h = some (.inl (some (.int (am_I h (L + 2) j))), h) := by
  have := pc_llt hL
  rw [e94, pc_lch hL, pc_lg1 hL, pc_lch hL, pc_lg3 hL, at_ok (pc_l4 hL) (by omega) (by omega) hk, am_bI_ok, e, at_ok (pc_l2 hL) (by omega) (by omega) hj]; rfl
theorem s95 (hL : pc_lo L) (hk : j * 9 + k < 81) : am_run am_M 95 [.ref L, .int (nI j), .int (nI k)] h = some (.inl (some (.int (am_I h (L + 6) (j * 9 + k)))), h) := by
  have := pc_llt hL
  rw [e95, pc_lch hL, pc_lg5 hL, pk_mul, nI_add, at_ok (pc_l6 hL) (by omega) (by omega) hk]; rfl
theorem s96 (hL : pc_lo L) (hk : j * 9 + k < 81) : am_run am_M 96 [.ref L, .int (nI j), .int (nI k)] h = some (.inl (some (.int (am_I h (L + 7) (j * 9 + k)))), h) := by
  have := pc_llt hL
  rw [e96, pc_lch hL, pc_lg6 hL, pk_mul, nI_add, at_ok (pc_l7 hL) (by omega) (by omega) hk]; rfl
theorem s97 {n : Nat} (hL : pc_lo L) (e : am_I h L 15 = nI n) (hn : n ≤ 10) (hk : k < 2 ^ 31) : am_run am_M 97 [.ref L, .int (nI k)] h = some (.inl (some (.int (if n = 0 then nI 1 else am_I h (L + 5) (k % n)))), h) := by
  have := pc_llt hL
  rw [e97, pc_lch hL, e]
  by_cases h0 : n = 0
  · subst h0
    rw [if_pos (by decide), if_pos rfl]
  · rw [if_neg (nI_nle (by omega) (by omega)), if_neg (nI_pos hk), pc_lch hL, pc_lg4 hL, pc_lch hL, if_neg (nI_ne0 (by omega) (by omega)), pk_rem hk (by omega) (by omega), at_ok (pc_l5 hL) (by omega) (by omega) (by have := Nat.mod_lt k (show 0 < n by omega); omega), if_neg h0]; rfl
theorem s76 (hD : pc_do D) : am_run am_M 76 [.ref D] h = some (.inl none, am_sI h D 3 (nI 0)) := by rw [e76, pc_dch hD]
theorem s77 (hD : pc_do D) (hn : k < 2 ^ 31) (e : am_I h D 3 = nI k) : am_run am_M 77 [.ref D] h = some (.inl (some (.int (nI (if k = 0 then 0 else 1)))), h) := by
  rw [e77, pc_dch hD, e]
  by_cases h0 : k = 0
  · subst h0
    rw [if_pos (by decide), if_pos (by decide)]; rfl
  · rw [if_neg (nI_nle (by omega) hn), if_pos (by decide), if_neg h0]
end
/-! WHAT A DEED GIVES -/
def pd_jo (s : Nat) (x y : Int32) : Int32 :=
  if s = 20000 then (if x = 0 then (if y = 0 then 0 else 1) else 1)
  else if s = 20001 then (if x = 0 then 0 else (if y = 0 then 0 else 1))
  else if s = 20003 then (if y ≤ x then 0 else 1)
  else if s = 20004 then (if x = y then 1 else 0)
  else if s = 20005 then x + y
  else if s = 20006 then x - y
  else if s = 20007 then x * y
  else (if y = 0 then 0 else x / y)
def pd_st (g : Nat → Int32) (s : Nat) (st : List Int32) : List Int32 :=
  if s < 10000 then nI s :: st
  else if s < 20000 then g (s - 10000) :: st
  else if s = 20002 then (match st with
    | x :: r => (if x = 0 then nI 1 else nI 0) :: r
    | [] => [])
  else (match st with
    | y :: x :: r => pd_jo s x y :: r
    | _ => [])
def pd_ev (g : Nat → Int32) : List Nat → List Int32 → List Int32
  | [], st => st
  | s :: l, st => pd_ev g l (pd_st g s st)
def pd_val (g : Nat → Int32) (l : List Nat) : Int32 := (pd_ev g l []).headD 0
/-- the depth of the stack: never above forty, never too small -/
def pd_dp : List Nat → Nat → Option Nat
  | [], n => some n
  | s :: l, n => if s < 20000 then (if n < 40 then pd_dp l (n + 1) else none) else if s = 20002 then (if 0 < n then pd_dp l n else none) else (if 1 < n then pd_dp l (n - 1) else none)
def pd_ok (l : List Nat) : Prop := l.length ≤ 700 ∧ (∀ s ∈ l, s < 10007 ∨ 20000 ≤ s ∧ s ≤ 20008) ∧ (l = [] ∨ pd_dp l 0 = some 1)
theorem s80 (s : Nat) (h1 : 20000 ≤ s) (h2 : s ≤ 20008) (h3 : s ≠ 20002) (x y : Int32) (h : am_H) : am_run am_M 80 [.int (nI s), .int x, .int y] h = some (.inl (some (.int (pd_jo s x y))), h) := by
  rw [e80]
  unfold pd_jo
  have hq : ∀ n, n < 2 ^ 31 → (nI s = nI n ↔ s = n) := fun n hn => nI_eq (by omega) hn
  simp only [hq 20000 (by omega), hq 20001 (by omega), hq 20002 (by omega), hq 20003 (by omega), hq 20004 (by omega), hq 20005 (by omega), hq 20006 (by omega), hq 20007 (by omega), h3, if_false]
  repeat' split
  all_goals first
    | rfl
    | (exfalso; omega)
def pd_tp (d : Nat) : Int32 := if d = 0 then (-1) else nI (d - 1)
theorem pd_tp_s (d : Nat) : pd_tp d + nI 1 = nI d := by
  unfold pd_tp
  by_cases h : d = 0
  · subst h; rfl
  · rw [if_neg h, nI_add, show d - 1 + 1 = d by omega]
theorem pd_tp_p {d : Nat} (h : 0 < d) : pd_tp d = nI (d - 1) := if_neg (by omega)
theorem pd_tp_m {d : Nat} (h : 0 < d) : pd_tp d + (-1 : Int32) = pd_tp (d - 1) := by
  rw [pd_tp_p h]
  unfold pd_tp
  by_cases h1 : d - 1 = 0
  · rw [h1]; rfl
  · rw [if_neg h1, show d - 1 = d - 1 - 1 + 1 by omega, pk_m1]; rfl
def pd_sk (f : Nat → Int32) (st : List Int32) : Prop := ∀ i, i < st.length → f i = st.getD (st.length - 1 - i) 0
theorem pd_sk_push {f : Nat → Int32} {st : List Int32} (h : pd_sk f st) (x : Int32) : pd_sk (fun b => if b = st.length then x else f b) (x :: st) := by
  intro i hi
  show (if i = st.length then x else f i) = _
  simp only [List.length_cons] at hi ⊢
  by_cases e : i = st.length
  · subst e
    rw [if_pos rfl, show st.length + 1 - 1 - st.length = 0 by omega]; rfl
  · rw [if_neg e, h i (by omega), show st.length + 1 - 1 - i = (st.length - 1 - i) + 1 by omega]; rfl
theorem pd_sk_pop {f : Nat → Int32} {x : Int32} {st : List Int32} (h : pd_sk f (x :: st)) : pd_sk f st ∧ f st.length = x := by
  refine ⟨fun i hi => ?_, ?_⟩
  · rw [h i (by simp only [List.length_cons]; omega)]
    simp only [List.length_cons]
    rw [show st.length + 1 - 1 - i = (st.length - 1 - i) + 1 by omega]; rfl
  · rw [h st.length (by simp only [List.length_cons]; omega)]
    simp only [List.length_cons]
    rw [show st.length + 1 - 1 - st.length = 0 by omega]; rfl
theorem pd_sk_set {f : Nat → Int32} {st : List Int32} (h : pd_sk f st) {j : Nat} (hj : st.length ≤ j) (v : Int32) : pd_sk (fun b => if b = j then v else f b) st := by
  intro i hi
  show (if i = j then v else f i) = _
  rw [if_neg (by omega)]
  exact h i hi
section
variable {D q n : Nat} {h : am_H}
theorem s79_4 (hD : pc_do D) (hq1 : am_ty q = (16, 7)) (hq : q < 100) (hqD : q ≠ D + 2) (hlen : am_I h D 3 = nI n) (hn : n ≤ 700) : ∀ (l : List Nat) (k : Nat) (st : List Int32) (f : Nat → Int32), (∀ i, i < l.length → am_I h (D + 1) (k + i) = nI (l.getD i 0)) → k + l.length = n →
    (∀ s ∈ l, s < 10007 ∨ 20000 ≤ s ∧ s ≤ 20008) → pd_dp l st.length = some 1 → pd_sk f st → st.length ≤ 40 →
    am_RI (am_vn am_M 1 79 4 [some (.ref D), some (.ref q), some (.int (pd_tp st.length)), some (.int (nI k)), none] [] (pz_wr h (D + 2) f)) (fun v g => v = (pd_ev (am_I h q) l st).headD 0 ∧ ∃ f', g = pz_wr h (D + 2) f')
  | [], k, st, f, _, hk, _, hd, hs, _ => by
    have hdl := pc_dlt hD
    have hk : k = n := hk
    rw [e79_4, pc_dch hD, am_I_w1 _ _ _ (by omega), hlen, if_pos (nI_le (by omega) (by omega)), pc_dch hD, pc_dg2 hD, at_ok (pc_d2 hD) (by omega) (by omega) (show 0 < 40 by omega), am_bI_ok, am_I_w]
    have h1 : st.length = 1 := Option.some.inj hd
    refine ⟨_, _, rfl, ?_, f, rfl⟩
    match st, h1, hs with
    | [x], _, hs =>
      exact (pd_sk_pop hs).2
  | s :: l, k, st, f, hc, hk, hm, hd, hs, hle => by
    have hdl := pc_dlt hD
    simp only [List.length_cons] at hk
    have ih := s79_4 hD hq1 hq hqD hlen hn l (k + 1)
    have hc' : ∀ i, i < l.length → am_I h (D + 1) (k + 1 + i) = nI (l.getD i 0) := fun i hi => by
      have := hc (i + 1) (by simp only [List.length_cons]; omega)
      rw [show k + 1 + i = k + (i + 1) by omega]
      exact this
    have hm' : ∀ s ∈ l, s < 10007 ∨ 20000 ≤ s ∧ s ≤ 20008 := fun s h => hm s (List.mem_cons_of_mem _ h)
    have hs0 := hm s List.mem_cons_self
    have h0 : am_I h (D + 1) k = nI s := hc 0 (by simp only [List.length_cons]; omega)
    rw [e79_4, pc_dch hD, am_I_w1 _ _ _ (by omega), hlen, if_neg (nI_ge (by omega) (by omega)), pc_dch hD, pc_dg1 hD, at_ok (pc_d1 hD) (by omega) (by omega) (show k < 700 by omega), am_bI_ok, am_I_w1 _ _ _ (by omega), h0]
    unfold pd_dp at hd
    unfold pd_ev pd_st
    by_cases c1 : s < 10000
    · rw [if_pos (by omega)] at hd
      by_cases c4 : st.length < 40
      · rw [if_pos c4] at hd
        rw [if_neg (nI_ge c1 (by omega)), pc_dch hD, pc_dg2 hD, pd_tp_s, put_ok (pc_d2 hD) (by omega) (by omega) c4, am_bV_ok, pz_succ, pz_sI_wr, if_pos c1]
        have := ih (nI s :: st) _ hc' (by omega) hm' hd (pd_sk_push hs (nI s)) c4
        rw [List.length_cons, pd_tp_p (by omega), Nat.add_sub_cancel] at this
        exact this
      · rw [if_neg c4] at hd; cases hd
    · rw [if_pos (nI_le (by omega) (by omega)), if_neg c1]
      by_cases c2 : s < 20000
      · rw [if_pos c2] at hd
        by_cases c4 : st.length < 40
        · rw [if_pos c4] at hd
          rw [if_neg (nI_ge c2 (by omega)), pc_dch hD, pc_dg2 hD, pk_sub (by omega), at_ok hq1 hq (by omega) (show s - 10000 < 7 by omega), am_bI_ok, pd_tp_s, put_ok (pc_d2 hD) (by omega) (by omega) c4, am_bV_ok, pz_succ, pz_sI_wr, if_pos c2, am_I_w1 _ _ _ hqD]
          have := ih (am_I h q (s - 10000) :: st) _ hc' (by omega) hm' hd (pd_sk_push hs _) c4
          rw [List.length_cons, pd_tp_p (by omega), Nat.add_sub_cancel] at this
          exact this
        · rw [if_neg c4] at hd; cases hd
      · rw [if_neg c2] at hd
        rw [if_pos (nI_le (by omega) (by omega)), if_neg c2]
        by_cases c3 : s = 20002
        · rw [if_pos c3] at hd
          rw [if_pos c3, if_pos (by rw [c3])]
          match st, hs, hd, hle with
          | [], _, hd, _ => rw [if_neg (by decide)] at hd; cases hd
          | x :: r, hs, hd, hle =>
            rw [if_pos (by simp only [List.length_cons]; omega)] at hd
            have hp := pd_sk_pop hs
            have hr : r.length + 1 ≤ 40 := hle
            simp only [List.length_cons]
            rw [pd_tp_p (by omega), Nat.add_sub_cancel, pc_dch hD, pc_dg2 hD, pc_dch hD, pc_dg2 hD, at_ok (pc_d2 hD) (by omega) (by omega) (show r.length < 40 by omega), am_bI_ok, am_I_w, hp.2]
            by_cases hx : x = 0
            · rw [if_pos hx, if_pos hx, put_ok (pc_d2 hD) (by omega) (by omega) (show r.length < 40 by omega), am_bV_ok, pz_succ, pz_sI_wr]
              have := ih (nI 1 :: r) _ hc' (by omega) hm' hd (pd_sk_push hp.1 (nI 1)) hr
              rw [List.length_cons, pd_tp_p (by omega), Nat.add_sub_cancel] at this
              exact this
            · rw [if_neg hx, if_neg hx, put_ok (pc_d2 hD) (by omega) (by omega) (show r.length < 40 by omega), am_bV_ok, pz_succ, pz_sI_wr]
              have := ih (nI 0 :: r) _ hc' (by omega) hm' hd (pd_sk_push hp.1 (nI 0)) hr
              rw [List.length_cons, pd_tp_p (by omega), Nat.add_sub_cancel] at this
              exact this
        · rw [if_neg c3] at hd
          rw [if_neg c3, if_neg (fun e => c3 ((nI_eq (by omega) (by omega)).mp e))]
          match st, hs, hd, hle with
          | [], _, hd, _ => rw [if_neg (by decide)] at hd; cases hd
          | [_], _, hd, _ => rw [if_neg (by simp only [List.length_cons, List.length_nil]; omega)] at hd; cases hd
          | y :: x :: r, hs, hd, hle =>
            rw [if_pos (by simp only [List.length_cons]; omega)] at hd
            have hp := pd_sk_pop hs
            have hp2 := pd_sk_pop hp.1
            have hr : r.length + 1 + 1 ≤ 40 := hle
            have hy : f (r.length + 1) = y := hp.2
            simp only [List.length_cons] at hd ⊢
            rw [pd_tp_m (by omega), Nat.add_sub_cancel, pd_tp_s, pd_tp_p (show 0 < r.length + 1 by omega), Nat.add_sub_cancel, pc_dch hD, pc_dg2 hD, pc_dch hD, pc_dg2 hD, at_ok (pc_d2 hD) (by omega) (by omega) (show r.length < 40 by omega), am_bI_ok, am_I_w, hp2.2, pc_dch hD, pc_dg2 hD,
              at_ok (pc_d2 hD) (by omega) (by omega) (show r.length + 1 < 40 by omega), am_bI_ok, am_I_w, hy, s80 s (by omega) (by omega) c3, am_bI_ok, put_ok (pc_d2 hD) (by omega) (by omega) (show r.length < 40 by omega), am_bV_ok, pz_succ, pz_sI_wr]
            have := ih (pd_jo s x y :: r) _ hc' (by omega) hm' hd (pd_sk_push hp2.1 (pd_jo s x y)) (by simp only [List.length_cons]; omega)
            rw [List.length_cons, pd_tp_p (by omega), Nat.add_sub_cancel] at this
            exact this
/-- the worth of a deed: its stack row is scratch -/
theorem s79 {l : List Nat} (hD : pc_do D) (hq1 : am_ty q = (16, 7)) (hq : q < 100) (hqD : q ≠ D + 2) (hl : pd_ok l) (hne : l ≠ []) (hlen : am_I h D 3 = nI l.length) (hc : ∀ i, i < l.length → am_I h (D + 1) i = nI (l.getD i 0)) :
    am_RI (am_run am_M 79 [.ref D, .ref q] h) (fun v g => v = pd_val (am_I h q) l ∧ ∃ f', g = pz_wr h (D + 2) f') := by
  rw [e79]
  have := s79_4 hD hq1 hq hqD hlen hl.1 l 0 [] (am_I h (D + 2)) (fun i hi => by rw [Nat.zero_add]; exact hc i hi) (Nat.zero_add _) hl.2.1 (hl.2.2.resolve_left hne) (fun i hi => absurd hi (Nat.not_lt_zero i)) (by decide)
  rw [pz_wr_id] at this
  exact this
end
