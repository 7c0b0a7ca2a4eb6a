/-! THE PICTURE: a land (counts: 0 packs, 1 places, 2 paths, 3 people, 4 snows; tables: 0 kinds of places, 1 whose they are, 2 kinds of people, 3 homes, 4 snow, 5 hours of paths; deeds: 0 right, 1 rent), a state (the class's own row of 49) -/
abbrev pw_L : Type := (Nat → Nat) × (Nat → Nat → Nat) × (Nat → List Nat)
def pw_n (d : pw_L) (i : Nat) : Nat := d.1 i
def pw_t (d : pw_L) (i k : Nat) : Nat := d.2.1 i k
def pw_d (d : pw_L) (i : Nat) : List Nat := d.2.2 i
def pw_ok (d : pw_L) : Prop :=
  (pw_n d 0 ≤ 4 ∧ pw_n d 1 ≤ 9 ∧ pw_n d 2 ≤ 14 ∧ pw_n d 3 ≤ 6 ∧ pw_n d 4 ≤ 10)
  ∧ (∀ a, a < pw_n d 1 → pw_t d 0 a ≤ 3 ∧ pw_t d 1 a < pw_n d 0)
  ∧ (∀ p, p < pw_n d 3 → pw_t d 2 p ≤ 3 ∧ pw_t d 3 p < pw_n d 1)
  ∧ (∀ i, i < pw_n d 4 → pw_t d 4 i ≤ 9)
  ∧ (∀ a b, a < 9 → b < 9 → pw_t d 5 (a * 9 + b) ≤ 9 ∧ pw_t d 5 (a * 9 + b) = pw_t d 5 (b * 9 + a) ∧ (pw_n d 1 ≤ a ∨ a = b → pw_t d 5 (a * 9 + b) = 0))
  ∧ pd_ok (pw_d d 0) ∧ pd_ok (pw_d d 1)
/-- shortest ways through places below k; i stands for none -/
def pw_w (d : pw_L) (i : Nat) : Nat → Nat → Nat → Nat
  | 0, a, b => if a = b then 0 else if pw_t d 5 (a * 9 + b) = 0 then i else pw_t d 5 (a * 9 + b)
  | k + 1, a, b => min (pw_w d i k a b) (pw_w d i k a k + pw_w d i k k b)
def pc_D (h : am_H) (D : Nat) (l : List Nat) : Prop := am_I h D 3 = nI l.length ∧ ∀ i, i < l.length → am_I h (D + 1) i = nI (l.getD i 0)
def pc_L (h : am_H) (L : Nat) (d : pw_L) : Prop :=
  (∀ i, i < 5 → am_I h L (11 + i) = nI (pw_n d i))
  ∧ (∀ a, a < pw_n d 1 → am_I h (L + 1) a = nI (pw_t d 0 a) ∧ am_I h (L + 2) a = nI (pw_t d 1 a))
  ∧ (∀ p, p < pw_n d 3 → am_I h (L + 3) p = nI (pw_t d 2 p) ∧ am_I h (L + 4) p = nI (pw_t d 3 p))
  ∧ (∀ i, i < pw_n d 4 → am_I h (L + 5) i = nI (pw_t d 4 i))
  ∧ (∀ j, j < 81 → am_I h (L + 6) j = nI (pw_t d 5 j))
  ∧ (∀ a b, a < pw_n d 1 → b < pw_n d 1 → am_I h (L + 7) (a * 9 + b) = nI (pw_w d 1000 (pw_n d 1) a b))
  ∧ pc_D h (L + 9) (pw_d d 0) ∧ pc_D h (L + 12) (pw_d d 1)
def pc_rl (L i : Nat) : Prop := L ≤ i ∧ i ≤ L + 7 ∨ i = L + 9 ∨ i = L + 10 ∨ i = L + 12 ∨ i = L + 13
theorem pc_L.kp {s : Nat → Nat → Bool} {h g : am_H} {L : Nat} {d : pw_L} (a : pc_L h L d) (k : am_kp s h g) (hs : ∀ i k, pc_rl L i → s i k = false) : pc_L g L d := by
  obtain ⟨a1, a2, a3, a4, a5, a6, a7, a8⟩ := a
  have e : ∀ i j, pc_rl L i → am_I g i j = am_I h i j := fun i j hi => k.get i j (hs i j hi)
  unfold pc_rl at e
  refine ⟨fun i hi => ?_, fun i hi => ?_, fun i hi => ?_, fun i hi => ?_, fun i hi => ?_, fun i j hi hj => ?_, ⟨?_, fun i hi => ?_⟩, ⟨?_, fun i hi => ?_⟩⟩
  · rw [e _ _ (by omega)]; exact a1 i hi
  · rw [e _ _ (by omega), e _ _ (by omega)]; exact a2 i hi
  · rw [e _ _ (by omega), e _ _ (by omega)]; exact a3 i hi
  · rw [e _ _ (by omega)]; exact a4 i hi
  · rw [e _ _ (by omega)]; exact a5 i hi
  · rw [e _ _ (by omega)]; exact a6 i j hi hj
  · rw [e _ _ (by omega)]; exact a7.1
  · rw [e _ _ (by omega)]; exact a7.2 i hi
  · rw [e _ _ (by omega)]; exact a8.1
  · rw [e _ _ (by omega)]; exact a8.2 i hi
/-- what allows and rentOf write: rows of values, stacks -/
def ps_0 (i _ : Nat) : Bool := decide (i = 11 ∨ i = 14 ∨ i = 17 ∨ i = 51 ∨ i = 54 ∨ i = 57)
/-- the class's scratch -/
def ps_C (i _ : Nat) : Bool := decide (i = 11 ∨ i = 14 ∨ i = 17 ∨ i = 51 ∨ i = 54 ∨ i = 57 ∨ i = 34 ∨ i = 36 ∨ i = 38 ∨ i = 39 ∨ i = 40 ∨ i = 41)
theorem ps_0_t {i k : Nat} (h : i = 11 ∨ i = 14 ∨ i = 17 ∨ i = 51 ∨ i = 54 ∨ i = 57) : ps_0 i k = true := decide_eq_true h
theorem ps_0_f {i k : Nat} (h : ¬ (i = 11 ∨ i = 14 ∨ i = 17 ∨ i = 51 ∨ i = 54 ∨ i = 57)) : ps_0 i k = false := decide_eq_false h
theorem ps_C_t {i k : Nat} (h : i = 11 ∨ i = 14 ∨ i = 17 ∨ i = 51 ∨ i = 54 ∨ i = 57 ∨ i = 34 ∨ i = 36 ∨ i = 38 ∨ i = 39 ∨ i = 40 ∨ i = 41) : ps_C i k = true := decide_eq_true h
theorem ps_C_f {i k : Nat} (h : ¬ (i = 11 ∨ i = 14 ∨ i = 17 ∨ i = 51 ∨ i = 54 ∨ i = 57 ∨ i = 34 ∨ i = 36 ∨ i = 38 ∨ i = 39 ∨ i = 40 ∨ i = 41)) : ps_C i k = false := decide_eq_false h
theorem ps_0C {i k : Nat} (h : ps_C i k = false) : ps_0 i k = false := by
  have := of_decide_eq_false h
  exact ps_0_f (by omega)
theorem ps_0L {L : Nat} (hL : pc_lo L) (i k : Nat) (h : pc_rl L i) : ps_0 i k = false := by
  unfold pc_lo at hL
  unfold pc_rl at h
  exact ps_0_f (by omega)
theorem ps_CL {L : Nat} (hL : pc_lo L) (i k : Nat) (h : pc_rl L i) : ps_C i k = false := by
  unfold pc_lo at hL
  unfold pc_rl at h
  exact ps_C_f (by omega)
def pc_S (h : am_H) (r : Nat) (S : Nat → Nat) : Prop := ∀ i, i < 49 → am_I h r i = nI (S i)
theorem pc_S.kp {s : Nat → Nat → Bool} {h g : am_H} {r : Nat} {S : Nat → Nat} (a : pc_S h r S) (k : am_kp s h g) (hs : ∀ k, s r k = false) : pc_S g r S := fun i hi => (k.get r i (hs i)).trans (a i hi)
def pw_S (S : Nat → Nat) : Prop := (∀ p, p < 6 → S (1 + p) ≤ 99 ∧ S (7 + p) ≤ 99 ∧ S (13 + p) ≤ 9999 ∧ S (19 + p) ≤ S 0 ∧ S (25 + p) ≤ 1 ∧ S (31 + p) < 512) ∧ (∀ k, k < 4 → S (37 + k) ≤ 9999 ∧ S (41 + k) ≤ S 0 ∧ S (45 + k) ≤ 20)
def pw_sn (d : pw_L) (day : Nat) : Nat := if pw_n d 4 = 0 then 1 else pw_t d 4 (day % pw_n d 4)
theorem pw_sn_le {d : pw_L} (h : pw_ok d) (day : Nat) : pw_sn d day ≤ 9 := by
  unfold pw_sn
  split
  · omega
  · exact h.2.2.2.1 _ (Nat.mod_lt _ (by omega))
/-- has a person a right -/
def pa_g (d : pw_L) (S : Nat → Nat) (p a hr : Nat) : Nat → Int32 := fun i => if i = 0 then nI (pw_t d 2 p) else if i = 1 then nI (pw_t d 0 a) else if i = 2 then nI hr else if i = 3 then nI (pw_sn d (S 0)) else if i = 4 then nI (S (25 + p)) else if i = 5 then nI (S (13 + p)) else nI (S 0)
def pa_ok (d : pw_L) (S : Nat → Nat) (p a hr : Nat) : Bool :=
  (S (31 + p)).testBit a || decide (pw_t d 3 p = a) || (if pw_d d 0 = [] then decide (6 ≤ hr ∧ hr ≤ 17) else decide (¬ pd_val (pa_g d S p a hr) (pw_d d 0) ≤ 0))
/-- what is due by rent -/
def pr_g (d : pw_L) (S : Nat → Nat) (sn p : Nat) : Nat → Int32 := fun i => if i = 0 then nI (S (1 + p)) else if i = 1 then nI (pw_t d 2 p) else if i = 2 then nI (S (45 + pw_t d 1 (pw_t d 3 p))) else if i = 3 then nI (S (37 + pw_t d 1 (pw_t d 3 p))) else if i = 4 then nI sn else if i = 5 then nI (S 0) else nI (S (13 + p))
def pr_cl (v : Int32) : Nat := if v < 0 then 0 else if 99 < v then 99 else v.toNatClampNeg
def pr_due (d : pw_L) (S : Nat → Nat) (sn p : Nat) : Nat := if pw_d d 1 = [] then 1 else pr_cl (pd_val (pr_g d S sn p) (pw_d d 1))
theorem pr_cl_le (v : Int32) : pr_cl v ≤ 99 := by
  unfold pr_cl
  split
  · omega
  · split
    · omega
    · rename_i h1 h2
      obtain ⟨j, hj, rfl⟩ := nI_of h1
      rw [nI_clamp hj]
      rw [show (99 : Int32) = nI 99 from rfl, nI_ltI (by omega) hj] at h2
      omega
theorem pr_cl_eq (v : Int32) : (if (nI 0) < (if v < (nI 99) then v else (nI 99)) then (if v < (nI 99) then v else (nI 99)) else (nI 0)) = nI (pr_cl v) := by
  unfold pr_cl
  by_cases h1 : v < 0
  · rw [if_pos h1]
    have h2 : v < nI 99 := by
      have : (nI 99).toInt = 99 := by decide
      rw [Int32.lt_iff_toInt_lt] at h1 ⊢
      rw [this]
      have : (0 : Int32).toInt = 0 := by decide
      omega
    rw [if_pos h2, if_neg]
    intro h3
    rw [Int32.lt_iff_toInt_lt] at h1 h3
    have e1 : (0 : Int32).toInt = 0 := by decide
    have e2 : (nI 0).toInt = 0 := by decide
    omega
  · rw [if_neg h1]
    obtain ⟨j, hj, rfl⟩ := nI_of h1
    have e : (99 : Int32) = nI 99 := rfl
    rw [e, nI_clamp hj]
    simp only [nI_ltI hj (show 99 < 2 ^ 31 by omega), nI_ltI (show 99 < 2 ^ 31 by omega) hj]
    by_cases h2 : j < 99
    · rw [if_pos h2, if_neg (show ¬ 99 < j by omega)]
      by_cases h3 : 0 < j
      · rw [if_pos (nI_lt h3 hj)]
      · rw [if_neg (nI_nlt (by omega) (by omega)), show j = 0 by omega]
    · rw [if_neg h2, if_pos (nI_lt (by omega) (by omega))]
      by_cases h3 : 99 < j
      · rw [if_pos h3]
      · rw [if_neg h3, show j = 99 by omega]
theorem pr_due_le (d : pw_L) (S : Nat → Nat) (sn p : Nat) : pr_due d S sn p ≤ 99 := by
  unfold pr_due
  split
  · omega
  · exact pr_cl_le _
/-- values beyond the seventh aren't asked for -/
theorem pd_ev_cong {g g' : Nat → Int32} (e : ∀ i, i < 7 → g i = g' i) : ∀ (l : List Nat), (∀ s ∈ l, s < 10007 ∨ 20000 ≤ s ∧ s ≤ 20008) → ∀ st, pd_ev g l st = pd_ev g' l st
  | [], _, _ => rfl
  | s :: l, h, st => by
    unfold pd_ev
    have h0 := h s List.mem_cons_self
    have : pd_st g s st = pd_st g' s st := by
      unfold pd_st
      by_cases c1 : s < 10000
      · rw [if_pos c1, if_pos c1]
      · rw [if_neg c1, if_neg c1]
        by_cases c2 : s < 20000
        · rw [if_pos c2, if_pos c2, e _ (by omega)]
        · rw [if_neg c2, if_neg c2]
    rw [this]
    exact pd_ev_cong e l (fun s hs => h s (List.mem_cons_of_mem _ hs)) _
theorem pd_val_cong {g g' : Nat → Int32} {l : List Nat} (hl : pd_ok l) (e : ∀ i, i < 7 → g i = g' i) : pd_val g l = pd_val g' l := by
  unfold pd_val
  rw [pd_ev_cong e l hl.2.1]
theorem lt7 {P : Nat → Prop} (h0 : P 0) (h1 : P 1) (h2 : P 2) (h3 : P 3) (h4 : P 4) (h5 : P 5) (h6 : P 6) : ∀ i, i < 7 → P i := by
  intro i hi
  match i, hi with
  | 0, _ => exact h0
  | 1, _ => exact h1
  | 2, _ => exact h2
  | 3, _ => exact h3
  | 4, _ => exact h4
  | 5, _ => exact h5
  | 6, _ => exact h6
section
variable {L s p a hr sn : Nat} {h : am_H} {d : pw_L} {S : Nat → Nat}
theorem s103 (hL : pc_lo L) (hs : pc_so s) (hd : pc_L h L d) (ho : pw_ok d) (hS : pc_S h (s + 1) S) (hb : pw_S S) (h0 : S 0 < 100000) (hp : p < pw_n d 3) (ha : a < pw_n d 1) (hh : hr < 24) :
    am_RI (am_run am_M 103 [.ref L, .ref s, .int (nI p), .int (nI a), .int (nI hr)] h) (fun v g => v = nI (if pa_ok d S p a hr then 1 else 0) ∧ am_kp ps_0 h g) := by
  have hlt := pc_llt hL
  obtain ⟨⟨o0, o1, o2, o3, o4⟩, oP, oQ, oS, oW, oR, oT⟩ := ho
  obtain ⟨d1, d2, d3, d4, d5, d6, d7, d8⟩ := hd
  have hbp := hb.1 p (by omega)
  rw [e103, pc_sch hs, s151 hs (show 1 + 5 * 6 + p < 49 by omega), am_bI_ok, hS _ (by omega), show 1 + 5 * 6 + p = 31 + p by omega, pz_bit (by omega) (by omega)]
  cases hf : (S (31 + p)).testBit a with
  | true =>
    rw [if_pos (by decide), e103_19, if_neg (by decide), if_pos (by decide)]
    refine ⟨_, _, rfl, ?_, am_kp.refl _ _⟩
    unfold pa_ok
    rw [hf]; rfl
  | false =>
    rw [if_neg (by decide), e103_19, if_pos (by decide), pc_lch hL, s93 hL (by omega), am_bI_ok, (d3 p hp).2]
    by_cases hhm : pw_t d 3 p = a
    · rw [if_pos (by rw [hhm]), if_pos (by decide)]
      refine ⟨_, _, rfl, ?_, am_kp.refl _ _⟩
      unfold pa_ok
      rw [hhm, decide_eq_true rfl, Bool.or_true]; rfl
    · have hpa : pa_ok d S p a hr = (if pw_d d 0 = [] then decide (6 ≤ hr ∧ hr ≤ 17) else decide (¬ pd_val (pa_g d S p a hr) (pw_d d 0) ≤ 0)) := by
        unfold pa_ok
        rw [hf, decide_eq_false hhm]; rfl
      rw [hpa]
      have hh3 := (oQ p hp).2
      rw [if_neg (fun e => hhm ((nI_eq (by omega) (by omega)).mp e)), pc_lch hL, pc_lg8 hL, pc_dch (pc_ld1 hL), s77 (pc_ld1 hL) (by have := oR.1; omega) d7.1, am_bI_ok]
      by_cases hr0 : pw_d d 0 = []
      · rw [if_pos (by rw [hr0]; rfl), if_pos hr0]
        by_cases c1 : hr < 6
        · rw [if_pos (nI_lt c1 (by omega)), if_pos (by decide), decide_eq_false (by omega)]
          exact ⟨_, _, rfl, rfl, am_kp.refl _ _⟩
        · rw [if_neg (nI_nlt (by omega) (by omega))]
          by_cases c2 : 17 < hr
          · rw [if_pos (nI_lt c2 (by omega)), if_pos (by decide), decide_eq_false (by omega)]
            exact ⟨_, _, rfl, rfl, am_kp.refl _ _⟩
          · rw [if_neg (nI_nlt (by omega) (by omega)), if_pos (by decide), decide_eq_true (by omega)]
            exact ⟨_, _, rfl, rfl, am_kp.refl _ _⟩
      · have hne : (pw_d d 0).length ≠ 0 := fun e => hr0 (List.eq_nil_of_length_eq_zero e)
        have hso : s + 1 ≠ L + 8 := by
          unfold pc_lo at hL; unfold pc_so at hs; omega
        have hsn := d1 4 (by omega)
        have hsv : (if pw_n d 4 = 0 then nI 1 else am_I h (L + 5) (S 0 % pw_n d 4)) = nI (pw_sn d (S 0)) := by
          unfold pw_sn
          by_cases c : pw_n d 4 = 0
          · rw [if_pos c, if_pos c]
          · rw [if_neg c, if_neg c, d4 _ (Nat.mod_lt _ (by omega))]
        rw [if_neg (by rw [if_neg hne]; decide), if_neg hr0,
          pc_lch hL, pc_lg7 hL, pc_lch hL, s92 hL (by omega), am_bI_ok, (d3 p hp).1, put_ok (pc_l8 hL) (by omega) (by omega) (show 0 < 7 by omega), am_bV_ok, pz_sI_w,
          pc_lch hL, pc_lg7 hL, pc_lch hL, s90 hL (by omega), am_bI_ok, am_I_w1 _ _ _ (show L + 1 ≠ L + 8 by omega), (d2 a ha).1, put_ok (pc_l8 hL) (by omega) (by omega) (show 1 < 7 by omega), am_bV_ok, pz_sI_wr,
          pc_lch hL, pc_lg7 hL, put_ok (pc_l8 hL) (by omega) (by omega) (show 2 < 7 by omega), am_bV_ok, pz_sI_wr,
          pc_lch hL, pc_lg7 hL, pc_sch hs, s149 hs, am_bI_ok, am_I_w1 _ _ _ hso, hS 0 (by omega), pc_lch hL, s97 hL (by rw [am_I_w1 _ _ _ (show L ≠ L + 8 by omega)]; exact hsn) o4 (by omega), am_bI_ok, am_I_w1 _ _ _ (show L + 5 ≠ L + 8 by omega), hsv, put_ok (pc_l8 hL) (by omega) (by omega) (show 3 < 7 by omega), am_bV_ok, pz_sI_wr,
          pc_lch hL, pc_lg7 hL, pc_sch hs, s151 hs (show 1 + 4 * 6 + p < 49 by omega), am_bI_ok, am_I_w1 _ _ _ hso, hS _ (by omega), show 1 + 4 * 6 + p = 25 + p by omega, put_ok (pc_l8 hL) (by omega) (by omega) (show 4 < 7 by omega), am_bV_ok, pz_sI_wr,
          pc_lch hL, pc_lg7 hL, pc_sch hs, s151 hs (show 1 + 2 * 6 + p < 49 by omega), am_bI_ok, am_I_w1 _ _ _ hso, hS _ (by omega), show 1 + 2 * 6 + p = 13 + p by omega, put_ok (pc_l8 hL) (by omega) (by omega) (show 5 < 7 by omega), am_bV_ok, pz_sI_wr,
          pc_lch hL, pc_lg7 hL, pc_sch hs, s149 hs, am_bI_ok, am_I_w1 _ _ _ hso, hS 0 (by omega), put_ok (pc_l8 hL) (by omega) (by omega) (show 6 < 7 by omega), am_bV_ok, pz_sI_wr,
          pc_lch hL, pc_lg8 hL, pc_lch hL, pc_lg7 hL, pc_dch (pc_ld1 hL)]
        have key := fun F => s79 (pc_ld1 hL) (q := L + 8) (pc_l8 hL) (by omega) (by omega) oR hr0 (h := pz_wr h (L + 8) F) (by rw [am_I_w1 _ _ _ (show L + 9 ≠ L + 8 by omega)]; exact d7.1) (fun i hi => by rw [am_I_w1 _ _ _ (show L + 9 + 1 ≠ L + 8 by omega)]; exact d7.2 i hi)
        refine pz_II (key _) fun v g hv => ?_
        obtain ⟨hv, f', hg⟩ := hv
        rw [am_I_w] at hv
        replace hv := hv.trans (pd_val_cong (g' := pa_g d S p a hr) oR (lt7 rfl rfl rfl rfl rfl rfl rfl))
        have hk : am_kp ps_0 h g := by
          rw [hg]
          unfold pc_lo at hL
          exact ((am_kp.refl ps_0 h).wr _ (fun k => ps_0_t (by omega))).wr _ (fun k => ps_0_t (by omega))
        rw [← hv]
        by_cases c : v ≤ 0
        · rw [if_pos c, if_pos (by decide), decide_eq_false (fun h => h c)]
          exact ⟨_, _, rfl, rfl, hk⟩
        · rw [if_neg c, if_pos (by decide), decide_eq_true c]
          exact ⟨_, _, rfl, rfl, hk⟩
theorem s105 (hL : pc_lo L) (hs : pc_so s) (hd : pc_L h L d) (ho : pw_ok d) (hS : pc_S h (s + 1) S) (hb : pw_S S) (h0 : S 0 < 100000) (hp : p < pw_n d 3) :
    am_RI (am_run am_M 105 [.ref L, .ref s, .int (nI p), .int (nI sn)] h) (fun v g => v = nI (pr_due d S sn p) ∧ am_kp ps_0 h g) := by
  have hlt := pc_llt hL
  obtain ⟨⟨o0, o1, o2, o3, o4⟩, oP, oQ, oS, oW, oR, oT⟩ := ho
  obtain ⟨d1, d2, d3, d4, d5, d6, d7, d8⟩ := hd
  have hbp := hb.1 p (by omega)
  have hh3 := (oQ p hp).2
  have hpk := (oP _ hh3).2
  rw [e105, pc_lch hL, pc_lg9 hL, pc_dch (pc_ld2 hL), s77 (pc_ld2 hL) (by have := oT.1; omega) d8.1, am_bI_ok]
  unfold pr_due
  by_cases hr0 : pw_d d 1 = []
  · rw [if_pos (by rw [hr0]; rfl), if_pos hr0]
    exact ⟨_, _, rfl, rfl, am_kp.refl _ _⟩
  · have hne : (pw_d d 1).length ≠ 0 := fun e => hr0 (List.eq_nil_of_length_eq_zero e)
    have hso : s + 1 ≠ L + 8 := by
      unfold pc_lo at hL; unfold pc_so at hs; omega
    rw [if_neg (by rw [if_neg hne]; decide), if_neg hr0, pc_lch hL, s94 hL (by omega) (show pw_t d 3 p < 9 by omega) (d3 p hp).2, am_bI_ok, (d2 _ hh3).2,
      pc_lch hL, pc_lg7 hL, pc_sch hs, s151 hs (show 1 + 0 * 6 + p < 49 by omega), am_bI_ok, hS _ (by omega), show 1 + 0 * 6 + p = 1 + p by omega, put_ok (pc_l8 hL) (by omega) (by omega) (show 0 < 7 by omega), am_bV_ok, pz_sI_w,
      pc_lch hL, pc_lg7 hL, pc_lch hL, s92 hL (by omega), am_bI_ok, am_I_w1 _ _ _ (show L + 3 ≠ L + 8 by omega), (d3 p hp).1, put_ok (pc_l8 hL) (by omega) (by omega) (show 1 < 7 by omega), am_bV_ok, pz_sI_wr,
      pc_lch hL, pc_lg7 hL, pc_sch hs, s153 hs (show 37 + 2 * 4 + pw_t d 1 (pw_t d 3 p) < 49 by omega), am_bI_ok, am_I_w1 _ _ _ hso, hS _ (by omega), show 37 + 2 * 4 + pw_t d 1 (pw_t d 3 p) = 45 + pw_t d 1 (pw_t d 3 p) by omega, put_ok (pc_l8 hL) (by omega) (by omega) (show 2 < 7 by omega), am_bV_ok, pz_sI_wr,
      pc_lch hL, pc_lg7 hL, pc_sch hs, s153 hs (show 37 + 0 * 4 + pw_t d 1 (pw_t d 3 p) < 49 by omega), am_bI_ok, am_I_w1 _ _ _ hso, hS _ (by omega), show 37 + 0 * 4 + pw_t d 1 (pw_t d 3 p) = 37 + pw_t d 1 (pw_t d 3 p) by omega, put_ok (pc_l8 hL) (by omega) (by omega) (show 3 < 7 by omega), am_bV_ok, pz_sI_wr,
      pc_lch hL, pc_lg7 hL, put_ok (pc_l8 hL) (by omega) (by omega) (show 4 < 7 by omega), am_bV_ok, pz_sI_wr,
      pc_lch hL, pc_lg7 hL, pc_sch hs, s149 hs, am_bI_ok, am_I_w1 _ _ _ hso, hS 0 (by omega), put_ok (pc_l8 hL) (by omega) (by omega) (show 5 < 7 by omega), am_bV_ok, pz_sI_wr,
      pc_lch hL, pc_lg7 hL, pc_sch hs, s151 hs (show 1 + 2 * 6 + p < 49 by omega), am_bI_ok, am_I_w1 _ _ _ hso, hS _ (by omega), show 1 + 2 * 6 + p = 13 + p by omega, put_ok (pc_l8 hL) (by omega) (by omega) (show 6 < 7 by omega), am_bV_ok, pz_sI_wr,
      pc_lch hL, pc_lg9 hL, pc_lch hL, pc_lg7 hL, pc_dch (pc_ld2 hL)]
    have key := fun F => s79 (pc_ld2 hL) (q := L + 8) (pc_l8 hL) (by omega) (by omega) oT hr0 (h := pz_wr h (L + 8) F) (by rw [am_I_w1 _ _ _ (show L + 12 ≠ L + 8 by omega)]; exact d8.1) (fun i hi => by rw [am_I_w1 _ _ _ (show L + 12 + 1 ≠ L + 8 by omega)]; exact d8.2 i hi)
    refine pz_II (key _) fun v g hv => ?_
    obtain ⟨hv, f', hg⟩ := hv
    rw [am_I_w] at hv
    replace hv := hv.trans (pd_val_cong (g' := pr_g d S sn p) oT (lt7 rfl rfl rfl rfl rfl rfl rfl))
    have hk : am_kp ps_0 h g := by
      rw [hg]
      unfold pc_lo at hL
      exact ((am_kp.refl ps_0 h).wr _ (fun k => ps_0_t (by omega))).wr _ (fun k => ps_0_t (by omega))
    rw [← hv]
    exact ⟨_, _, rfl, pr_cl_eq v, hk⟩
end
