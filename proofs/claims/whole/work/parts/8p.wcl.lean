/-! WINTER: the class's tokens -/
def wf_x (i k : Nat) : Bool := decide (i = 1 ∧ (k = 6 ∨ k = 7 ∨ k = 8))
theorem wf_x_t {i k : Nat} (h : i = 1 ∧ (k = 6 ∨ k = 7 ∨ k = 8)) : wf_x i k = true := decide_eq_true h
theorem wf_x_f {i k : Nat} (h : ¬ (i = 1 ∧ (k = 6 ∨ k = 7 ∨ k = 8))) : wf_x i k = false := decide_eq_false h
def wc_X (g : am_H) (tp : Nat → Nat) (n s : Nat) : Prop := s ≤ n ∧ am_I g 1 5 = nI n ∧ am_I g 1 6 = nI (wl_k tp n s) ∧ am_I g 1 7 = nI s ∧ am_I g 1 8 = nI (wl_z tp n s)
def wc_tp (h : am_H) (tp : Nat → Nat) (n : Nat) : Prop := n ≤ 700 ∧ (∀ j, tp j < 256) ∧ ∀ j, j < n → am_I h 2 j = nI (tp j)
theorem wc_tp.kp {s : Nat → Nat → Bool} {h g : am_H} {tp : Nat → Nat} {n : Nat} (a : wc_tp h tp n) (k : am_kp s h g) (hs : ∀ k, s 2 k = false) : wc_tp g tp n := ⟨a.1, a.2.1, fun j hj => by rw [k.get 2 j (hs j)]; exact a.2.2 j hj⟩
theorem wl_b1 : (if nI 1 &&& 1 = nI 1 then (some (.inl (some (.int (nI 1))), (0 : Nat)) : Option ((Option Value ⊕ Nat) × Nat)) else none) = some (.inl (some (.int (nI 1))), 0) := if_pos (by decide)
section
variable {h : am_H} {tp : Nat → Nat} {n s c : Nat}
theorem s112 (hc : c < 256) : am_run am_M 112 [.int (nI c)] h = some (.inl (some (.int (nI (if wl_bl c = true then 1 else 0)))), h) := by
  rw [e112]
  by_cases h1 : c = 32
  · rw [if_pos (by rw [h1]), if_pos (by decide), if_pos (show wl_bl c = true from decide_eq_true (Or.inl h1))]
  · rw [if_neg (fun e => h1 ((nI_eq (by omega) (by omega)).mp e))]
    by_cases h2 : c = 10
    · rw [if_pos (by rw [h2]), if_pos (by decide), if_pos (show wl_bl c = true from decide_eq_true (Or.inr h2))]
    · rw [if_neg (fun e => h2 ((nI_eq (by omega) (by omega)).mp e)), if_pos (by decide), if_neg (show ¬ wl_bl c = true from fun e => by have := of_decide_eq_true e; omega)]
theorem s113 (hc : c < 256) : am_run am_M 113 [.int (nI c)] h = some (.inl (some (.int (nI (if wl_lt c = true then 1 else 0)))), h) := by
  rw [e113]
  by_cases h1 : c < 97
  · rw [if_pos (nI_lt h1 (by omega)), if_pos (by decide), if_neg (show ¬ wl_lt c = true from fun e => by have := of_decide_eq_true e; omega)]
  · rw [if_neg (nI_nlt (by omega) (by omega))]
    by_cases h2 : 122 < c
    · rw [if_pos (nI_lt h2 (by omega)), if_pos (by decide), if_neg (show ¬ wl_lt c = true from fun e => by have := of_decide_eq_true e; omega)]
    · rw [if_neg (nI_nlt (by omega) (by omega)), if_pos (by decide), if_pos (show wl_lt c = true from decide_eq_true (by omega))]
theorem s114 (hc : c < 256) : am_run am_M 114 [.int (nI c)] h = some (.inl (some (.int (nI (if wl_dg c = true then 1 else 0)))), h) := by
  rw [e114]
  by_cases h1 : c < 48
  · rw [if_pos (nI_lt h1 (by omega)), if_pos (by decide), if_neg (show ¬ wl_dg c = true from fun e => by have := of_decide_eq_true e; omega)]
  · rw [if_neg (nI_nlt (by omega) (by omega))]
    by_cases h2 : 57 < c
    · rw [if_pos (nI_lt h2 (by omega)), if_pos (by decide), if_neg (show ¬ wl_dg c = true from fun e => by have := of_decide_eq_true e; omega)]
    · rw [if_neg (nI_nlt (by omega) (by omega)), if_pos (by decide), if_pos (show wl_dg c = true from decide_eq_true (by omega))]
/-! strings -/
theorem wl_cd {k : Nat} (hk : k < 17) : (Nat.blt 999 (1000 + k) && Nat.blt (1000 + k) (1000 + am_nstr)) = true := by
  rw [pz_bl (by omega), pz_bl (show 1000 + k < 1000 + am_nstr from Nat.add_lt_add_left hk 1000)]
  rfl
theorem am_cd_t {α : Type} (a b : Option α) : am_cd true a b = a := rfl
theorem am_cd_f {α : Type} (a b : Option α) : am_cd false a b = b := rfl
theorem wl_cd2 {k : Nat} (hk : k < 17) : (Nat.blt 1099 (1000 + k + 100) && Nat.blt (1000 + k + 100) (1100 + am_nstr)) = true := by
  rw [pz_bl (by omega), pz_bl (show 1000 + k + 100 < 1100 + am_nstr by show 1000 + k + 100 < 1100 + 17; omega)]
  rfl
theorem wl_al {k : Nat} (hk : k < 17) (f : Int32 → Option am_Q) : am_al 100 (1000 + k + 100) h f = f (nI (am_str k).length) := by
  unfold am_al
  rw [pz_nb (show 1000 + k + 100 ≠ 2000 by omega), am_cd_f, wl_cd2 hk, am_cd_t, show 1000 + k + 100 - 1100 = k by omega]
  rfl
theorem wl_abl {k i : Nat} (hk : k < 17) (hi : i < (am_str k).length) (hl : (am_str k).length < 2 ^ 31) (f : Int32 → Option am_Q) : am_bl 100 (1000 + k + 100) (nI i) h f = f ((am_str k).getD i 0) := by
  unfold am_bl
  rw [wl_cd2 hk, am_cd_t, show 1000 + k + 100 - 1100 = k by omega, am_bd_ok hi hl, nI_clamp (by omega)]
theorem s339 {k : Nat} (hk : k < 17) (hl : (am_str k).length < 2 ^ 31) : am_run am_M 339 [.ref (1000 + k)] h = some (.inl (some (.int (nI (am_str k).length))), h) := by
  rw [e339, wl_cd hk, am_cd_t, wl_al hk, am_cd_t, e340, if_neg (by decide), wl_cd hk, am_cd_t, if_pos (by decide), am_bI_ok, pz_shr (by omega) hl, Nat.pow_zero, Nat.div_one]
theorem wl_by : ∀ b, b < 128 → (((nI b &&& nI 255).toUInt32 % 65536).toInt32) = nI b ∧ (nI b).toUInt32.toUInt16.toUInt32.toInt32 = nI b := by decide +kernel
theorem s342 {k i b : Nat} (hk : k < 17) (hi : i < (am_str k).length) (hl : (am_str k).length < 2 ^ 31) (hb : b < 128) (e : (am_str k).getD i 0 = nI b) : am_run am_M 342 [.ref (1000 + k), .int (nI i)] h = some (.inl (some (.int (nI b))), h) := by
  have hw := wl_by b hb
  rw [e342, wl_cd hk, am_cd_t, e341, if_neg (by decide), wl_cd hk, am_cd_t, if_pos (by decide), if_pos (by decide), am_bI_ok, if_neg (by decide), am_cd_t, e346, wl_al hk, e343, e350, if_neg (nI_pos (by omega)), if_pos (nI_lt hi hl), am_bI_ok, am_bV_ok, wl_abl hk hi hl, e, hw.1, if_pos hw.2, am_bI_ok, if_pos hw.2]
/-! signs -/
def wl_g1 (x : Int32) : Int32 := if (59 : Int32) = x then nI 0 else if (40 : Int32) = x then nI 1 else if (41 : Int32) = x then nI 2 else if (43 : Int32) = x then nI 3 else if (45 : Int32) = x then nI 4 else if (42 : Int32) = x then nI 5 else if (47 : Int32) = x then nI 6 else if (60 : Int32) = x then nI 7 else if (61 : Int32) = x then nI 8 else (-1 : Int32)
theorem wl_g2 : ∀ c, c < 256 → (((nI c).toUInt32 % 65536).toInt32) = nI c ∧ (if wl_g1 (nI c).toInt8.toInt32 < 0 then nI 0 else nI 1) = nI (if wl_sg c = true then 1 else 0) := by decide +kernel
theorem wl_str3 : am_str 3 = [59, 40, 41, 43, 45, 42, 47, 60, 61] := by decide +kernel
theorem s349 (x : Int32) : am_vn am_M 0 349 7 [some (.ref 1103), none, none, some (.int (nI 9)), some (.int x), some (.int (nI 0))] [] h = some (.inl (some (.int (wl_g1 x))), h) := by
  have st : ∀ i, i < 9 → am_vn am_M 0 349 7 [some (.ref 1103), none, none, some (.int (nI 9)), some (.int x), some (.int (nI i))] [] h = if (am_str 3).getD i 0 = x then some (.inl (some (.int (nI i))), h) else am_vn am_M 0 349 7 [some (.ref 1103), none, none, some (.int (nI 9)), some (.int x), some (.int (nI (i + 1)))] [] h := fun i hi => by
    rw [e349_7, if_neg (nI_ge hi (by omega)), show (1103 : Nat) = 1000 + 3 + 100 from rfl, wl_abl (by omega) (by rw [wl_str3]; exact hi) (by rw [wl_str3]; decide), pz_succ]
  rw [st 0 (by omega), st 1 (by omega), st 2 (by omega), st 3 (by omega), st 4 (by omega), st 5 (by omega), st 6 (by omega), st 7 (by omega), st 8 (by omega), e349_7, if_pos (nI_le (Nat.le_refl 9) (by omega)), wl_str3]
  unfold wl_g1
  show (if (59 : Int32) = x then _ else if (40 : Int32) = x then _ else if (41 : Int32) = x then _ else if (43 : Int32) = x then _ else if (45 : Int32) = x then _ else if (42 : Int32) = x then _ else if (47 : Int32) = x then _ else if (60 : Int32) = x then _ else if (61 : Int32) = x then _ else _) = _
  repeat' split
  all_goals rfl
theorem s115 (hc : c < 256) : am_run am_M 115 [.int (nI c)] h = some (.inl (some (.int (nI (if wl_sg c = true then 1 else 0)))), h) := by
  have hg := wl_g2 c hc
  have hl : (am_str 3).length = 9 := by rw [wl_str3]; rfl
  have h9 := s339 (k := 3) (h := h) (by omega) (by rw [hl]; decide)
  rw [hl] at h9
  have e9 : am_run am_M 348 [.ref (1003 + 100), .int (nI c), .int (nI 0), .int (nI 9)] h = some (.inl (some (.int (wl_g1 (nI c).toInt8.toInt32))), h) := by
    have ha := fun f => wl_al (k := 3) (h := h) (show 3 < 17 by omega) f
    rw [e348, e347, if_neg (nI_pos (by omega)), if_neg (nI_nlt (by omega) (by omega)), if_pos (by decide), am_bI_ok, if_neg (by decide), show (1003 + 100 : Nat) = 1000 + 3 + 100 from rfl, ha, hl, if_pos (by decide), e349, if_neg (by decide), if_neg (by decide)]
    show am_bI [] (am_vn am_M 0 349 7 [some (.ref 1103), none, none, some (.int (nI 9)), some (.int (nI c).toInt8.toInt32), some (.int (nI 0))] [] h) _ = _
    rw [s349, am_bI_ok]
  have hcd : (Nat.blt 999 1003 && Nat.blt 1003 (1000 + am_nstr)) = true := rfl
  rw [e115, hg.1, e344, hcd, am_cd_t, e345, hcd, am_cd_t, e341, if_neg (by decide), hcd, am_cd_t, if_pos (by decide), if_pos (by decide), am_bI_ok, if_neg (by decide), am_cd_t, am_cd_t, h9, am_bI_ok, e9, am_bI_ok, am_bI_ok]
  rw [← hg.2]
  by_cases c0 : wl_g1 (nI c).toInt8.toInt32 < 0
  · rw [if_pos c0, am_bI_ok, if_pos c0, if_pos (by decide)]
  · rw [if_neg c0, am_bI_ok, if_neg c0, if_pos (by decide)]
/-! a row of letters, of digits -/
theorem s111_5l (ht : wc_tp h tp n) (h5 : am_I h 1 5 = nI n) : ∀ (f i : Nat), n - i = f → i ≤ n → am_vn am_M 1 111 5 [some (.ref 1), some (.int (nI 1)), some (.int (nI i))] [] h = some (.inl (some (.int (nI (wl_e wl_lt tp n i)))), h) := by
  have hn := ht.1
  intro f
  induction f with
  | zero =>
    intro i hf hi
    rw [e111_5, h5, if_pos (nI_le (show n ≤ i by omega) (by omega)), wl_e_0 (fun c => by omega)]
  | succ f ih =>
    intro i hf hi
    have hb := ht.2.1 i
    rw [e111_5, h5, if_neg (nI_ge (show i < n by omega) (by omega)), if_neg (by decide), at_ok (r := 2) (n := 700) rfl (by omega) (by omega) (by omega), am_bI_ok, ht.2.2 i (by omega), s113 hb, am_bI_ok]
    by_cases c : wl_lt (tp i) = true
    · rw [if_pos c, if_neg (by decide), pz_succ, ih (i + 1) (by omega) (by omega), wl_e_s (show i < n by omega) c]
    · rw [if_neg c, if_pos (by decide), wl_e_0 (fun h => c h.2)]
theorem s111_5d (ht : wc_tp h tp n) (h5 : am_I h 1 5 = nI n) : ∀ (f i : Nat), n - i = f → i ≤ n → am_vn am_M 1 111 5 [some (.ref 1), some (.int (nI 0)), some (.int (nI i))] [] h = some (.inl (some (.int (nI (wl_e wl_dg tp n i)))), h) := by
  have hn := ht.1
  intro f
  induction f with
  | zero =>
    intro i hf hi
    rw [e111_5, h5, if_pos (nI_le (show n ≤ i by omega) (by omega)), wl_e_0 (fun c => by omega)]
  | succ f ih =>
    intro i hf hi
    have hb := ht.2.1 i
    rw [e111_5, h5, if_neg (nI_ge (show i < n by omega) (by omega)), if_pos (by decide), at_ok (r := 2) (n := 700) rfl (by omega) (by omega) (by omega), am_bI_ok, ht.2.2 i (by omega), s114 hb, am_bI_ok]
    by_cases c : wl_dg (tp i) = true
    · rw [if_pos c, if_neg (by decide), pz_succ, ih (i + 1) (by omega) (by omega), wl_e_s (show i < n by omega) c]
    · rw [if_neg c, if_pos (by decide), wl_e_0 (fun h => c h.2)]
/-! the next token -/
theorem s110_49 {g : am_H} (ht : wc_tp h tp n) (hs : s ≤ n) (kp : am_kp wf_x h g) (h5 : am_I g 1 5 = nI n) (h7 : am_I g 1 7 = nI s) : am_RV (am_vn am_M 5 110 49 [some (.ref 1), none] [] g) (fun g' => am_kp wf_x h g' ∧ wc_X g' tp n s) := by
  have hn := ht.1
  have htg := ht.kp kp (fun k => wf_x_f (by omega))
  have hb := ht.2.1 s
  rw [e110_49, at_any (r := 2) (n := 700) rfl (by omega) (by omega), am_bI_ok]
  dsimp only
  have k1 : am_kp wf_x h (am_sI g 1 8 (am_I g 1 7 + nI 1)) := kp.sI _ (wf_x_t (by omega))
  have a5 : am_I (am_sI g 1 8 (am_I g 1 7 + nI 1)) 1 5 = nI n := by rw [am_I_s2 _ _ _ _ (by omega)]; exact h5
  have a7 : am_I (am_sI g 1 8 (am_I g 1 7 + nI 1)) 1 7 = nI s := by rw [am_I_s2 _ _ _ _ (by omega)]; exact h7
  have a8 : am_I (am_sI g 1 8 (am_I g 1 7 + nI 1)) 1 8 = nI (s + 1) := by rw [am_I_s, h7, nI_add]
  rw [a5, a7]
  rcases Nat.lt_or_ge s n with c | c
  · have hv : am_atv 700 (am_I g 2) (am_I g 1 7) = nI (tp s) := by
      unfold am_atv
      rw [h7, if_neg (nI_pos (by omega)), if_neg (nI_ge (by omega) (by omega)), nI_clamp (by omega), htg.2.2 s c]
    rw [hv, if_pos (nI_lt c (by omega)), s113 hb, am_bI_ok]
    generalize am_sI g 1 8 (am_I g 1 7 + nI 1) = g1 at k1 a5 a7 a8 ⊢
    by_cases c1 : wl_lt (tp s) = true
    · have k2 : am_kp wf_x h (am_sI g1 1 6 (nI 1)) := k1.sI _ (wf_x_t (by omega))
      have b5 : am_I (am_sI g1 1 6 (nI 1)) 1 5 = nI n := by rw [am_I_s2 _ _ _ _ (by omega)]; exact a5
      have b7 : am_I (am_sI g1 1 6 (nI 1)) 1 7 = nI s := by rw [am_I_s2 _ _ _ _ (by omega)]; exact a7
      rw [if_pos c1, if_neg (by decide), e111, b7, s111_5l (ht.kp k2 (fun k => wf_x_f (by omega))) b5 (n - s) s rfl hs, am_bI_ok]
      refine ⟨_, rfl, k2.sI _ (wf_x_t (by omega)), hs, ?_, ?_, ?_, ?_⟩
      · rw [am_I_s2 _ _ _ _ (by omega)]; exact b5
      · rw [am_I_s2 _ _ _ _ (by omega), am_I_s, wl_k_1.mpr ⟨c, c1⟩]
      · rw [am_I_s2 _ _ _ _ (by omega)]; exact b7
      · rw [am_I_s]; unfold wl_z; rw [if_neg (by omega), if_pos c1]
    · rw [if_neg c1, if_pos (by decide), s114 hb, am_bI_ok]
      by_cases c2 : wl_dg (tp s) = true
      · have k2 : am_kp wf_x h (am_sI g1 1 6 (nI 2)) := k1.sI _ (wf_x_t (by omega))
        have b5 : am_I (am_sI g1 1 6 (nI 2)) 1 5 = nI n := by rw [am_I_s2 _ _ _ _ (by omega)]; exact a5
        have b7 : am_I (am_sI g1 1 6 (nI 2)) 1 7 = nI s := by rw [am_I_s2 _ _ _ _ (by omega)]; exact a7
        rw [if_pos c2, if_neg (by decide), e111, b7, s111_5d (ht.kp k2 (fun k => wf_x_f (by omega))) b5 (n - s) s rfl hs, am_bI_ok]
        refine ⟨_, rfl, k2.sI _ (wf_x_t (by omega)), hs, ?_, ?_, ?_, ?_⟩
        · rw [am_I_s2 _ _ _ _ (by omega)]; exact b5
        · rw [am_I_s2 _ _ _ _ (by omega), am_I_s]; unfold wl_k; rw [if_neg (by omega), if_neg c1, if_pos c2]
        · rw [am_I_s2 _ _ _ _ (by omega)]; exact b7
        · rw [am_I_s]; unfold wl_z; rw [if_neg (by omega), if_neg c1, if_pos c2]
      · have hz : wl_z tp n s = s + 1 := by unfold wl_z; rw [if_neg (by omega), if_neg c1, if_neg c2]
        rw [if_neg c2, if_pos (by decide), s115 hb, am_bI_ok]
        by_cases c3 : wl_sg (tp s) = true
        · rw [if_pos c3, if_neg (by decide)]
          refine ⟨_, rfl, k1.sI _ (wf_x_t (by omega)), hs, ?_, ?_, ?_, ?_⟩
          · rw [am_I_s2 _ _ _ _ (by omega)]; exact a5
          · rw [am_I_s]; unfold wl_k; rw [if_neg (by omega), if_neg c1, if_neg c2, if_pos c3]
          · rw [am_I_s2 _ _ _ _ (by omega)]; exact a7
          · rw [am_I_s2 _ _ _ _ (by omega), hz]; exact a8
        · rw [if_neg c3, if_pos (by decide)]
          refine ⟨_, rfl, k1.sI _ (wf_x_t (by omega)), hs, ?_, ?_, ?_, ?_⟩
          · rw [am_I_s2 _ _ _ _ (by omega)]; exact a5
          · rw [am_I_s]; unfold wl_k; rw [if_neg (by omega), if_neg c1, if_neg c2, if_neg c3]
          · rw [am_I_s2 _ _ _ _ (by omega)]; exact a7
          · rw [am_I_s2 _ _ _ _ (by omega), hz]; exact a8
  · rw [if_neg (nI_nlt c (by omega))]
    generalize am_sI g 1 8 (am_I g 1 7 + nI 1) = g1 at k1 a5 a7 a8 ⊢
    refine ⟨_, rfl, (k1.sI _ (wf_x_t (by omega))).sI _ (wf_x_t (by omega)), hs, ?_, ?_, ?_, ?_⟩
    · rw [am_I_s2 _ _ _ _ (by omega), am_I_s2 _ _ _ _ (by omega)]; exact a5
    · rw [am_I_s2 _ _ _ _ (by omega), am_I_s]; unfold wl_k; rw [if_pos c]
    · rw [am_I_s2 _ _ _ _ (by omega), am_I_s2 _ _ _ _ (by omega)]; exact a7
    · rw [am_I_s, am_I_s2 _ _ _ _ (by omega), a5]; unfold wl_z; rw [if_pos c]
theorem s110_8 (ht : wc_tp h tp n) : ∀ (f i : Nat) (g : am_H), n - i = f → i ≤ n → am_kp wf_x h g → am_I g 1 5 = nI n → am_I g 1 7 = nI i → am_RV (am_vn am_M 5 110 8 [some (.ref 1), none] [] g) (fun g' => am_kp wf_x h g' ∧ wc_X g' tp n (wl_e wl_bl tp n i)) := by
  have hn := ht.1
  intro f
  induction f with
  | zero =>
    intro i g hf hi kp h5 h7
    rw [e110_8, h5, h7, if_pos (nI_le (show n ≤ i by omega) (by omega)), wl_e_0 (fun c => by omega)]
    exact s110_49 ht hi kp h5 h7
  | succ f ih =>
    intro i g hf hi kp h5 h7
    have htg := ht.kp kp (fun k => wf_x_f (by omega))
    have hb := ht.2.1 i
    rw [e110_8, h5, h7, if_neg (nI_ge (show i < n by omega) (by omega)), at_ok (r := 2) (n := 700) rfl (by omega) (by omega) (by omega), am_bI_ok, htg.2.2 i (by omega), s112 hb, am_bI_ok]
    by_cases c : wl_bl (tp i) = true
    · rw [if_pos c, if_neg (by decide)]
      dsimp only
      rw [h7, pz_succ, wl_e_s (show i < n by omega) c]
      exact ih (i + 1) _ (by omega) (by omega) (kp.sI _ (wf_x_t (by omega))) (by rw [am_I_s2 _ _ _ _ (by omega)]; exact h5) (am_I_s _ _ _ _)
    · rw [if_neg c, if_pos (by decide), wl_e_0 (fun h => c h.2)]
      exact s110_49 ht hi kp h5 h7
theorem s110 {b : Nat} (ht : wc_tp h tp n) (hb : b ≤ n) (h5 : am_I h 1 5 = nI n) (h8 : am_I h 1 8 = nI b) : am_RV (am_run am_M 110 [.ref 1] h) (fun g' => am_kp wf_x h g' ∧ wc_X g' tp n (wl_e wl_bl tp n b)) := by
  rw [e110]
  dsimp only
  rw [h8]
  exact s110_8 ht (n - b) b _ rfl hb ((am_kp.refl wf_x h).sI _ (wf_x_t (by omega))) (by rw [am_I_s2 _ _ _ _ (by omega)]; exact h5) (am_I_s _ _ _ _)
theorem s110X (ht : wc_tp h tp n) (hX : wc_X h tp n s) : am_RV (am_run am_M 110 [.ref 1] h) (fun g' => am_kp wf_x h g' ∧ wc_X g' tp n (wl_x tp n s)) :=
  s110 ht (wl_z_le hX.1) hX.2.1 hX.2.2.2.2
/-! a word among some -/
theorem s117_20 {k a e w : Nat} (hk : k < 17) (hl : (am_str k).length < 1000) (ht : wc_tp h tp n) (hX : wc_X h tp n s) (he : e < (am_str k).length) (hw : w < 25) (hae : a + (wl_W w).length = e) (hch : ∀ i, i < (wl_W w).length → (am_str k).getD (a + i) 0 = nI ((wl_W w).getD i 0)) (hz : wl_z tp n s - s = (wl_W w).length) :
    ∀ (f i : Nat), i + f = (wl_W w).length → (∀ j, j < i → tp (s + j) = (wl_W w).getD j 0) → am_vn am_M 4 117 20 [some (.ref 1), some (.ref (1000 + k)), some (.int (nI a)), some (.int (nI e)), some (.int (nI (a + i)))] [] h = some (.inl (some (.int (nI (if wl_iB tp s (wl_z tp n s) w = true then 1 else 0)))), h) := by
  have hn := ht.1
  have hzn := wl_z_le (tp := tp) hX.1
  have hWo := wl_W_ok w hw
  intro f
  induction f with
  | zero =>
    intro i hi hp
    rw [e117_20, if_neg (nI_pos (by omega)), if_pos (nI_le (by omega) (by omega)), if_pos (by decide), if_pos (wl_iB_is.mpr ⟨hz, fun j hj => hp j (by omega)⟩)]
  | succ f ih =>
    intro i hi hp
    have hc := hWo.2 i (by omega)
    have hb := ht.2.1 (s + i)
    rw [e117_20, if_neg (nI_pos (by omega)), if_neg (nI_ge (by omega) (by omega)), wl_cd hk, am_cd_t, s339 hk (by omega), am_bI_ok, if_neg (nI_ge (by omega) (by omega)), am_cd_t, s342 hk (by omega) (by omega) (by omega) (hch i (by omega)), am_bI_ok, hX.2.2.2.1, nI_add, pk_sub (by omega), show s + (a + i) - a = s + i by omega, at_ok (r := 2) (n := 700) rfl (by omega) (by omega) (by omega), am_bI_ok, ht.2.2 _ (by omega)]
    by_cases c : tp (s + i) = (wl_W w).getD i 0
    · rw [if_pos (by rw [c]), pz_succ]
      exact ih (i + 1) (by omega) (fun j hj => by
        by_cases e : j = i
        · rw [e]; exact c
        · exact hp j (by omega))
    · rw [if_neg (fun e => c ((nI_eq (by omega) (by omega)).mp e.symm)), if_pos (by decide), if_neg (show ¬ wl_iB tp s (wl_z tp n s) w = true from fun e => c ((wl_iB_is.mp e).2 i (by omega)))]
theorem s117 {k a e w : Nat} (hk : k < 17) (hl : (am_str k).length < 1000) (ht : wc_tp h tp n) (hX : wc_X h tp n s) (he : e < (am_str k).length) (hw : w < 25) (hae : a + (wl_W w).length = e) (hch : ∀ i, i < (wl_W w).length → (am_str k).getD (a + i) 0 = nI ((wl_W w).getD i 0)) :
    am_run am_M 117 [.ref 1, .ref (1000 + k), .int (nI a), .int (nI e)] h = some (.inl (some (.int (nI (if wl_iB tp s (wl_z tp n s) w = true then 1 else 0)))), h) := by
  have hn := ht.1
  have hzn := wl_z_le (tp := tp) hX.1
  have hzs := wl_z_ge (tp := tp) hX.1
  rw [e117, hX.2.2.2.1, hX.2.2.2.2, pk_sub hzs, pk_sub (show a ≤ e by omega)]
  by_cases c : wl_z tp n s - s = (wl_W w).length
  · rw [if_pos (show nI (wl_z tp n s - s) = nI (e - a) by rw [c, show e - a = (wl_W w).length by omega])]
    exact s117_20 hk hl ht hX he hw hae hch c _ 0 (Nat.zero_add _) (fun j hj => absurd hj (Nat.not_lt_zero j))
  · rw [if_neg (fun e => c (by have := (nI_eq (by omega) (by omega)).mp e; omega)), if_pos (by decide), if_neg (show ¬ wl_iB tp s (wl_z tp n s) w = true from fun e => c (wl_iB_is.mp e).1)]
theorem wl_ix_ap (pre : List Nat) (w x : Nat) (r : List Nat) (h : ∀ a, a ∈ pre → a ≠ x) : wl_ix (pre ++ w :: r) x = if w = x then pre.length else pre.length + 1 + wl_ix r x := by
  induction pre with
  | nil =>
    show wl_ix (w :: r) x = _
    rw [wl_ix]
    split
    · rfl
    · show wl_ix r x + 1 = 0 + 1 + wl_ix r x
      omega
  | cons a p ih =>
    rw [List.cons_append, wl_ix, if_neg (h a List.mem_cons_self), ih (fun b hb => h b (List.mem_cons_of_mem _ hb)), List.length_cons]
    split <;> omega
theorem wl_ix_no (l : List Nat) (x : Nat) (h : ∀ a, a ∈ l → a ≠ x) : wl_ix l x = l.length := by
  induction l with
  | nil => rfl
  | cons a p ih => rw [wl_ix, if_neg (h a List.mem_cons_self), ih (fun b hb => h b (List.mem_cons_of_mem _ hb)), List.length_cons]
theorem wl_S_ap (l r : List Nat) : wl_S (l ++ r) = wl_S l ++ wl_S r := List.flatMap_append
theorem wl_S_c (w : Nat) (r : List Nat) : wl_S (w :: r) = (wl_W w ++ [32]) ++ wl_S r := by
  unfold wl_S
  rw [List.flatMap_cons]
theorem wl_gm (l : List Nat) (i : Nat) : (l.map nI).getD i 0 = nI (l.getD i 0) := by
  rw [List.getD_eq_getElem?_getD, List.getD_eq_getElem?_getD, List.getElem?_map]
  cases l[i]? <;> rfl
theorem wl_gl (a m r : List Nat) {i : Nat} (hi : i < m.length) : (a ++ ((m ++ [32]) ++ r)).getD (a.length + i) 0 = m.getD i 0 := by
  rw [List.getD_eq_getElem?_getD, List.getD_eq_getElem?_getD, List.getElem?_append_right (by omega), show a.length + i - a.length = i by omega, List.getElem?_append_left (by rw [List.length_append]; exact Nat.lt_of_lt_of_le hi (Nat.le_add_right _ _)), List.getElem?_append_left hi]
theorem wl_gb (a m r : List Nat) : (a ++ ((m ++ [32]) ++ r)).getD (a.length + m.length) 0 = 32 := by
  rw [List.getD_eq_getElem?_getD, List.getElem?_append_right (by omega), show a.length + m.length - a.length = m.length by omega, List.getElem?_append_left (by rw [List.length_append]; show m.length < m.length + 1; omega), List.getElem?_append_right (Nat.le_refl _), Nat.sub_self]
  rfl
theorem s116_7 {k : Nat} {ws : List Nat} (hk : k < 17) (hs : am_str k = (wl_S ws).map nI) (hl : (wl_S ws).length < 1000) (hws : ∀ a, a ∈ ws → a < 25) (ht : wc_tp h tp n) (hX : wc_X h tp n s) (h1 : wl_k tp n s = 1) :
    ∀ (r pre : List Nat), ws = pre ++ r → (∀ a, a ∈ pre → a ≠ wl_w tp n s) → am_vn am_M 5 116 7 [some (.ref 1), some (.ref (1000 + k)), some (.int (nI pre.length)), some (.int (nI (wl_S pre).length)), some (.int (nI (wl_S pre).length))] [] h = some (.inl (some (.int (wl_cx ws (wl_w tp n s)))), h) := by
  have hlen : (am_str k).length = (wl_S ws).length := by rw [hs, List.length_map]
  intro r
  induction r with
  | nil =>
    intro pre e hp
    rw [List.append_nil] at e
    subst e
    rw [e116_7, wl_cd hk, am_cd_t, s339 hk (by omega), am_bI_ok, if_pos (nI_le (by omega) (by omega))]
    unfold wl_cx
    rw [wl_ix_no _ _ hp, if_neg (by omega)]
  | cons w r ih =>
    intro pre e hp
    have hw : w < 25 := hws w (by rw [e]; exact List.mem_append_right _ List.mem_cons_self)
    have hWo := wl_W_ok w hw
    have hS : wl_S ws = wl_S pre ++ ((wl_W w ++ [32]) ++ wl_S r) := by rw [e, wl_S_ap, wl_S_c]
    have hSl : (wl_S ws).length = (wl_S pre).length + ((wl_W w).length + 1 + (wl_S r).length) := by
      rw [hS, List.length_append, List.length_append, List.length_append]; rfl
    have hch : ∀ i, i < (wl_W w).length → (am_str k).getD ((wl_S pre).length + i) 0 = nI ((wl_W w).getD i 0) := fun i hi => by
      rw [hs, wl_gm, hS, wl_gl _ _ _ hi]
    have hbl : (am_str k).getD ((wl_S pre).length + (wl_W w).length) 0 = nI 32 := by rw [hs, wl_gm, hS, wl_gb]
    -- the letters
    obtain ⟨g, e1, hg⟩ := am_for0 (fun i (g : am_H) => am_vn am_M 5 116 7 [some (.ref 1), some (.ref (1000 + k)), some (.int (nI pre.length)), some (.int (nI (wl_S pre).length)), some (.int (nI ((wl_S pre).length + i)))] [] g) (fun _ g => g = h) (wl_W w).length h rfl (fun i g hi hg => by
      subst hg
      have hc := hWo.2 i hi
      refine ⟨g, ?_, rfl⟩
      rw [e116_7, wl_cd hk, am_cd_t, s339 hk (by omega), am_bI_ok, if_neg (nI_ge (by omega) (by omega)), hX.2.2.1, h1, if_pos rfl, am_cd_t, s342 hk (by omega) (by omega) (by omega) (hch i hi), am_bI_ok, if_neg (fun e => by have := (nI_eq (by omega) (by omega)).mp e; omega), pz_succ]
      rfl)
    subst hg
    refine Eq.trans e1 ?_
    rw [e116_7, wl_cd hk, am_cd_t, s339 hk (by omega), am_bI_ok, if_neg (nI_ge (by omega) (by omega)), hX.2.2.1, h1, if_pos rfl, am_cd_t, s342 hk (by omega) (by omega) (by omega) hbl, am_bI_ok, if_pos rfl, s117 hk (by omega) ht hX (by omega) hw rfl hch, am_bI_ok]
    by_cases c : wl_iB tp s (wl_z tp n s) w = true
    · have hww : wl_w tp n s = w := (wl_w_is h1 hw).mpr (wl_iB_is.mp c)
      rw [if_pos c, if_neg (by decide)]
      unfold wl_cx
      rw [e, wl_ix_ap _ _ _ _ hp, if_pos hww.symm, if_pos (by rw [List.length_append, List.length_cons]; omega)]
    · have hww : w ≠ wl_w tp n s := fun e => c (wl_iB_is.mpr ((wl_w_is h1 hw).mp e.symm))
      rw [if_neg c, if_pos (by decide), pz_succ, pz_succ]
      have nx := ih (pre ++ [w]) (by rw [e, List.append_assoc]; rfl) (fun a ha => by
        rcases List.mem_append.mp ha with h | h
        · exact hp a h
        · rw [List.mem_singleton.mp h]; exact hww)
      have e3 : (wl_S (pre ++ [w])).length = (wl_S pre).length + (wl_W w).length + 1 := by
        rw [wl_S_ap, wl_S_c, List.length_append, List.length_append, List.length_append]
        show _ + (_ + 1 + 0) = _
        omega
      rw [e3, List.length_append] at nx
      exact nx
theorem s116 {k : Nat} {ws : List Nat} (hk : k < 17) (hs : am_str k = (wl_S ws).map nI) (hl : 0 < (wl_S ws).length ∧ (wl_S ws).length < 1000) (hws : ∀ a, a ∈ ws → a < 25) (ht : wc_tp h tp n) (hX : wc_X h tp n s) : am_run am_M 116 [.ref 1, .ref (1000 + k)] h = some (.inl (some (.int (wl_cx ws (wl_w tp n s)))), h) := by
  have hlen : (am_str k).length = (wl_S ws).length := by rw [hs, List.length_map]
  have hkl := wl_k_le (tp := tp) (n := n) (s := s)
  rw [e116]
  by_cases h1 : wl_k tp n s = 1
  · exact s116_7 hk hs hl.2 hws ht hX h1 ws [] rfl (fun a ha => absurd ha List.not_mem_nil)
  · have hw : wl_w tp n s = 25 := if_neg h1
    rw [e116_7, wl_cd hk, am_cd_t, s339 hk (by omega), am_bI_ok, if_neg (nI_ge (by omega) (by omega)), hX.2.2.1, if_neg (fun e => h1 ((nI_eq (by omega) (by omega)).mp e))]
    unfold wl_cx
    rw [wl_ix_no _ _ (fun a ha => by have := hws a ha; omega), if_neg (by omega)]
end
