/-! TRACKS: one more -/
def pt_ext (n : Nat) (t : Nat → Nat × Nat) (x : Nat × Nat) (j : Nat) : Nat × Nat := if j = n then x else t j
def pt_g (l : List (Nat × Nat)) (j : Nat) : Nat × Nat := l.getD j (0, 0)
theorem pt_g_app (l : List (Nat × Nat)) (x : Nat × Nat) {j : Nat} (hj : j < l.length + 1) : (l ++ [x]).getD j (0, 0) = pt_ext l.length (pt_g l) x j := by
  unfold pt_ext pt_g
  by_cases e : j = l.length
  · subst e; rw [if_pos rfl, List.getD_eq_getElem?_getD, List.getElem?_append_right (Nat.le_refl _), Nat.sub_self]; rfl
  · rw [if_neg e, List.getD_eq_getElem?_getD, List.getElem?_append_left (by omega), ← List.getD_eq_getElem?_getD]
theorem pt_ok_g {d : pw_L} {l : List (Nat × Nat)} (h : pw_tok d l) : pt_ok d l.length (pt_g l) := by
  refine ⟨by have := h.1; omega, fun j hj => ?_⟩
  unfold pt_g
  rw [List.getD_eq_getElem?_getD, List.getElem?_eq_getElem hj, Option.getD_some]
  exact h.2 _ (List.getElem_mem hj)
theorem pt_ok_ext {d : pw_L} {n : Nat} {t : Nat → Nat × Nat} (h : pt_ok d n t) (hn : n < 7) {x : Nat × Nat} (hx : x.1 < pw_n d 1 ∧ x.2 ≤ 71) : pt_ok d (n + 1) (pt_ext n t x) := by
  refine ⟨by omega, fun j hj => ?_⟩
  unfold pt_ext
  by_cases e : j = n
  · rw [if_pos e]; exact hx
  · rw [if_neg e]; exact h.2 j (by omega)
def pt_ab (a b : Nat) : Nat := if a ≤ 2 * b then 2 * b - a else a - 2 * b
theorem pt_ab_c : ∀ a, a < 7 → ∀ b, b < 7 → (if (0 : Int32) ≤ nI b - (nI a - nI b) then nI b - (nI a - nI b) else 0 - (nI b - (nI a - nI b))) = nI (pt_ab a b) := by decide
theorem pt_ab_m : ∀ a, a < 7 → ∀ b, b < 7 → (if nI a - nI b ≤ nI b then nI b - (nI a - nI b) else nI a - nI b - nI b) = nI (pt_ab a b) := by decide
theorem pt_ab_le {a b : Nat} (ha : a < 7) (hb : b < 7) : pt_ab a b < 13 := by unfold pt_ab; split <;> omega
def ps_T (n i k : Nat) : Bool := decide (i = 24 ∧ k = 2 ∨ (i = 25 ∨ i = 26) ∧ k = n)
def ps_U (n i k : Nat) : Bool := decide (i = 60 ∧ k = 70 ∨ i = 94 ∧ (k = 2 * n ∨ k = 2 * n + 1) ∨ i = 95)
/-- how evenly a look at place k at hour v parts them -/
def pt_f (d : pw_L) (t : Nat → Nat × Nat) (n v k : Nat) : Nat := pt_ab (pz_cnt (pt_su d t n) (pw_n d 3)) (pz_cnt (pt_su d (pt_ext n t (k, v)) (n + 1)) (pw_n d 3))
section
variable {h : am_H} {d : pw_L} {t : Nat → Nat × Nat} {n L : Nat}
theorem s159 {x y : Int32} (e : am_I h 24 2 = nI n) (hn : n < 7) : am_run am_M 159 [.ref 24, .int x, .int y] h = some (.inl none, am_sI (am_sI (am_sI h 25 n x) 26 n y) 24 2 (nI (n + 1))) := by
  have e2 : am_I (am_sI h 25 n x) 24 2 = nI n := by rw [am_I_s1 _ _ _ _ (by omega)]; exact e
  have e3 : am_I (am_sI (am_sI h 25 n x) 26 n y) 24 2 = nI n := by rw [am_I_s1 _ _ _ _ (by omega)]; exact e2
  rw [e159, pc_tch (T := 24) (Or.inl rfl), pc_tg0 (T := 24) (Or.inl rfl), pc_tch (T := 24) (Or.inl rfl), e, put_ok (r := 25) (n := 7) rfl (by omega) (by omega) hn, am_bV_ok, pc_tch (T := 24) (Or.inl rfl), pc_tg1 (T := 24) (Or.inl rfl), pc_tch (T := 24) (Or.inl rfl), e2, put_ok (r := 26) (n := 7) rfl (by omega) (by omega) hn, am_bV_ok, pc_tch (T := 24) (Or.inl rfl), pc_tch (T := 24) (Or.inl rfl), e3, pz_succ]
theorem s160 (e : am_I h 24 2 = nI (n + 1)) (hn : n < 7) : am_run am_M 160 [.ref 24] h = some (.inl none, am_sI h 24 2 (nI n)) := by
  rw [e160, pc_tch (T := 24) (Or.inl rfl), pc_tch (T := 24) (Or.inl rfl), e, pk_sub (show 1 ≤ n + 1 by omega), Nat.add_sub_cancel]
  by_cases c : n = 0
  · subst c; rfl
  · rw [if_pos (nI_lt (by omega) (by omega))]
theorem pt_C.ext (hT : pt_C h 24 n t) (x : Nat × Nat) : pt_C (am_sI (am_sI (am_sI h 25 n (nI x.1)) 26 n (nI x.2)) 24 2 (nI (n + 1))) 24 (n + 1) (pt_ext n t x) := by
  refine ⟨am_I_s _ _ _ _, fun j hj => ?_⟩
  unfold pt_ext
  constructor
  · show am_I _ 25 j = _
    rw [am_I_s1 _ _ _ _ (by omega), am_I_s1 _ _ _ _ (by omega), am_I_sc]
    by_cases e : j = n
    · rw [if_pos ⟨rfl, e⟩, if_pos e]
    · rw [if_neg (fun h => e h.2), if_neg e]; exact (hT.2 j (by omega)).1
  · show am_I _ 26 j = _
    rw [am_I_s1 _ _ _ _ (by omega), am_I_sc]
    by_cases e : j = n
    · rw [if_pos ⟨rfl, e⟩, if_pos e]
    · rw [if_neg (fun h => e h.2), if_neg e, am_I_s1 _ _ _ _ (by omega)]; exact (hT.2 j (by omega)).2
theorem pt_T_kp (h : am_H) (n : Nat) (x y z : Int32) : am_kp (ps_T n) h (am_sI (am_sI (am_sI h 25 n x) 26 n y) 24 2 z) := (((am_kp.refl _ _).sI _ (decide_eq_true (by omega))).sI _ (decide_eq_true (by omega))).sI _ (decide_eq_true (by omega))
theorem s51 {k v : Nat} (hL : pc_lo L) (hR : am_R h 0 10 = some L) (hd : pc_L h L d) (hw : pw_ok d) (hT : pt_C h 24 n t) (ho : pt_ok d n t) (hn : n < 7) (hk : k < pw_n d 1) (hv : v ≤ 71) :
    am_RI (am_run am_M 51 [.ref 0, .int (nI k), .int (nI v)] h) (fun u g => u = nI (pt_f d t n v k) ∧ am_kp (ps_T n) h g ∧ am_I g 24 2 = nI n) := by
  have h6 := hw.1.2.2.2.1
  have pl : ∀ f : Nat → Bool, pb f (pw_n d 3) < 2 ^ 24 := fun f => Nat.lt_of_lt_of_le (pb_lt f _) (Nat.pow_le_pow_right (by omega) (by omega))
  have kp := pt_T_kp h n (nI k) (nI v) (nI (n + 1))
  have hT2 := hT.ext (k, v)
  dsimp only at hT2
  rw [e51, s31 hL hR hd hw hT ho, am_bI_ok, s338 (pl _), am_bI_ok, pz_cnt_pb _ (show pw_n d 3 ≤ 24 by omega), s159 hT.1 hn, am_bV_ok]
  generalize am_sI (am_sI (am_sI h 25 n (nI k)) 26 n (nI v)) 24 2 (nI (n + 1)) = g at kp hT2 ⊢
  have hd2 : pc_L g L d := hd.fr fun i hi => funext fun j => kp.get i j (decide_eq_false (by unfold pc_rl at hi; unfold pc_lo at hL; omega))
  have l1 := pz_cnt_le (pt_su d t n) (pw_n d 3)
  have l2 := pz_cnt_le (pt_su d (pt_ext n t (k, v)) (n + 1)) (pw_n d 3)
  rw [s31 hL (by rw [kp.R]; exact hR) hd2 hw hT2 (pt_ok_ext ho hn ⟨hk, hv⟩), am_bI_ok, s338 (pl _), am_bI_ok, pz_cnt_pb _ (show pw_n d 3 ≤ 24 by omega), s160 hT2.1 hn, am_bV_ok]
  refine ⟨_, _, rfl, pt_ab_c _ (by omega) _ (by omega), kp.sI _ (decide_eq_true (by omega)), am_I_s _ _ _ _⟩
/-- in the model -/
theorem pt_M.ext (hT : pt_M h n t) (x : Nat × Nat) : pt_M (am_sI (am_sI (am_sI h 94 (2 * n) (nI x.1)) 94 (2 * n + 1) (nI x.2)) 60 70 (nI (n + 1))) (n + 1) (pt_ext n t x) := by
  refine ⟨am_I_s _ _ _ _, fun j hj => ?_⟩
  unfold pt_ext
  rw [am_I_s1 _ _ _ _ (by omega), am_I_sc, am_I_sc, am_I_sc, am_I_sc]
  by_cases e : j = n
  · rw [if_pos e, if_neg (by omega), if_pos (by omega), if_pos (by omega)]; exact ⟨rfl, rfl⟩
  · rw [if_neg e, if_neg (by omega), if_neg (by omega), if_neg (by omega), if_neg (by omega)]; exact hT.2 j (by omega)
theorem pt_M.kU {g : am_H} (hT : pt_M h n t) (k : am_kp (ps_U n) h g) (e : am_I g 60 70 = nI n) : pt_M g n t := ⟨e, fun j hj => ⟨(k.get _ _ (decide_eq_false (by omega))).trans (hT.2 j hj).1, (k.get _ _ (decide_eq_false (by omega))).trans (hT.2 j hj).2⟩⟩
theorem pm_L.kU {g : am_H} (hd : pm_L h d) (k : am_kp (ps_U n) h g) : pm_L g d := hd.fr (fun j h1 h2 => k.get _ _ (decide_eq_false (by omega))) (fun i h1 h2 => funext fun j => k.get _ _ (decide_eq_false (by omega)))
end
