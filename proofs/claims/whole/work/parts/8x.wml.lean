/-! WINTER: the model's tokens -/
def wm_k (s : Nat → Nat → Bool) (h g : am_H) : Prop := g.1 = h.1 ∧ g.2.1 = h.2.1 ∧ g.2.2.1 = h.2.2.1 ∧ am_R g = am_R h ∧ (∀ i, i ≠ 60 → am_J g i = am_J h i) ∧ ∀ i k, s i k = false → am_I g i k = am_I h i k
theorem wm_k.refl (s : Nat → Nat → Bool) (h : am_H) : wm_k s h h := ⟨rfl, rfl, rfl, rfl, fun _ _ => rfl, fun _ _ _ => rfl⟩
theorem wm_k.trans {s : Nat → Nat → Bool} {h g k : am_H} (a : wm_k s h g) (b : wm_k s g k) : wm_k s h k := by
  obtain ⟨a1, a2, a3, a4, a5, a6⟩ := a
  obtain ⟨b1, b2, b3, b4, b5, b6⟩ := b
  exact ⟨b1.trans a1, b2.trans a2, b3.trans a3, b4.trans a4, fun i hi => (b5 i hi).trans (a5 i hi), fun i k hs => (b6 i k hs).trans (a6 i k hs)⟩
theorem wm_k.up {s s' : Nat → Nat → Bool} {h g : am_H} (a : wm_k s h g) (m : ∀ i k, s' i k = false → s i k = false) : wm_k s' h g := ⟨a.1, a.2.1, a.2.2.1, a.2.2.2.1, a.2.2.2.2.1, fun i k hs => a.2.2.2.2.2 i k (m i k hs)⟩
theorem wm_k.get {s : Nat → Nat → Bool} {h g : am_H} (a : wm_k s h g) (i k : Nat) (hs : s i k = false) : am_I g i k = am_I h i k := a.2.2.2.2.2 i k hs
theorem wm_k.sI {s : Nat → Nat → Bool} {h g : am_H} (a : wm_k s h g) {i k : Nat} (v : Int32) (hs : s i k = true) : wm_k s h (am_sI g i k v) := by
  refine ⟨a.1, a.2.1, a.2.2.1, a.2.2.2.1, a.2.2.2.2.1, fun j l hl => ?_⟩
  rw [am_I_sc]
  by_cases e : j = i ∧ l = k
  · obtain ⟨rfl, rfl⟩ := e
    rw [hs] at hl; cases hl
  · rw [if_neg e]; exact a.get j l hl
theorem am_J_sJ (h : am_H) (i k : Nat) (v : Int64) : am_J (am_sJ h i k v) i k = v := by
  show (if i = i then fun b => if b = k then v else am_J h i b else am_J h i) k = v
  rw [if_pos rfl]
  exact if_pos rfl
theorem am_J_sJ1 (h : am_H) (i k : Nat) (v : Int64) {a : Nat} (ha : a ≠ i) : am_J (am_sJ h i k v) a = am_J h a := by
  show (if a = i then fun b => if b = k then v else am_J h i b else am_J h a) = _
  exact if_neg ha
theorem am_I_sJ (h : am_H) (i k : Nat) (v : Int64) : am_I (am_sJ h i k v) = am_I h := rfl
theorem wm_k.sJ {s : Nat → Nat → Bool} {h g : am_H} (a : wm_k s h g) (k : Nat) (v : Int64) : wm_k s h (am_sJ g 60 k v) := ⟨a.1, a.2.1, a.2.2.1, a.2.2.2.1, fun i hi => by rw [am_J_sJ1 _ _ _ _ hi]; exact a.2.2.2.2.1 i hi, a.2.2.2.2.2⟩
def wg_x (i k : Nat) : Bool := decide (i = 60 ∧ 23 ≤ k ∧ k ≤ 28)
theorem wg_x_t {i k : Nat} (h : i = 60 ∧ 23 ≤ k ∧ k ≤ 28) : wg_x i k = true := decide_eq_true h
theorem wg_x_f {i k : Nat} (h : ¬ (i = 60 ∧ 23 ≤ k ∧ k ≤ 28)) : wg_x i k = false := decide_eq_false h
def wm_tp (h : am_H) (tp : Nat → Nat) (n : Nat) : Prop := n ≤ 700 ∧ (∀ j, tp j < 256) ∧ am_I h 60 22 = nI n ∧ ∀ j, j < n → am_I h 70 j = nI (tp j)
theorem wm_tp.kp {s : Nat → Nat → Bool} {h g : am_H} {tp : Nat → Nat} {n : Nat} (a : wm_tp h tp n) (k : wm_k s h g) (h1 : s 60 22 = false) (hs : ∀ k, s 70 k = false) : wm_tp g tp n := ⟨a.1, a.2.1, (k.get _ _ h1).trans a.2.2.1, fun j hj => by rw [k.get 70 j (hs j)]; exact a.2.2.2 j hj⟩
def wl_q (k : Nat) : Nat := if k < 3 then k else if k = 3 then 4 else 3
/-- the letters packed -/
def wl_p (tp : Nat → Nat) (s : Nat) : Nat → Nat
  | 0 => 0
  | m + 1 => 32 * wl_p tp s m + (tp (s + m) - 96)
def wm_X (g : am_H) (tp : Nat → Nat) (n s : Nat) : Prop := s ≤ n ∧ am_I g 60 23 = nI (wl_z tp n s) ∧ am_I g 60 24 = nI (wl_q (wl_k tp n s)) ∧ am_I g 60 25 = nI s ∧ am_I g 60 26 = nI (wl_z tp n s - s) ∧ (wl_k tp n s = 2 → am_I g 60 27 = nI (wl_v tp n s)) ∧ am_I g 60 28 = nI (if s < n then tp s else 0) ∧ (wl_k tp n s = 1 → am_J g 60 29 = nL (wl_p tp s (min 6 (wl_z tp n s - s))))
section
variable {h : am_H} {tp : Nat → Nat} {n s c : Nat}
theorem s187 {i : Nat} (ht : wm_tp h tp n) (hi : i < 2 ^ 31) : am_run am_M 187 [.ref 60, .int (nI i)] h = some (.inl (some (.int (nI (if i < n then tp i else 0)))), h) := by
  have hn := ht.1
  rw [e187, ht.2.2.1]
  by_cases c : i < n
  · rw [if_neg (nI_ge c (by omega)), if_pos c, am_il_ok (r := 70) (n := 700) rfl (by omega) (by omega) (by omega), ht.2.2.2 i c]
  · rw [if_pos (nI_le (by omega) (by omega)), if_neg c]
theorem s188 (hc : c < 256) : am_run am_M 188 [.int (nI c)] h = some (.inl (some (.int (nI (if wl_lt c = true then 1 else 0)))), h) := by
  rw [e188]
  by_cases h1 : c < 97
  · rw [if_pos (nI_lt h1 (by omega)), if_pos (by decide), if_neg (show ¬ wl_lt c = true from fun e => by have := of_decide_eq_true e; omega)]
  · rw [if_neg (nI_nlt (by omega) (by omega))]
    by_cases h2 : 122 < c
    · rw [if_pos (nI_lt h2 (by omega)), if_pos (by decide), if_neg (show ¬ wl_lt c = true from fun e => by have := of_decide_eq_true e; omega)]
    · rw [if_neg (nI_nlt (by omega) (by omega)), if_pos (by decide), if_pos (show wl_lt c = true from decide_eq_true (by omega))]
theorem s189 (hc : c < 256) : am_run am_M 189 [.int (nI c)] h = some (.inl (some (.int (nI (if wl_dg c = true then 1 else 0)))), h) := by
  rw [e189]
  by_cases h1 : c < 48
  · rw [if_pos (nI_lt h1 (by omega)), if_pos (by decide), if_neg (show ¬ wl_dg c = true from fun e => by have := of_decide_eq_true e; omega)]
  · rw [if_neg (nI_nlt (by omega) (by omega))]
    by_cases h2 : 57 < c
    · rw [if_pos (nI_lt h2 (by omega)), if_pos (by decide), if_neg (show ¬ wl_dg c = true from fun e => by have := of_decide_eq_true e; omega)]
    · rw [if_neg (nI_nlt (by omega) (by omega)), if_pos (by decide), if_pos (show wl_dg c = true from decide_eq_true (by omega))]
theorem wl_b0 (tp : Nat → Nat) (n i : Nat) (q : Nat → Bool) (h0 : q 0 = false) : q (if i < n then tp i else 0) = true ↔ i < n ∧ q (tp i) = true := by
  by_cases c : i < n
  · rw [if_pos c]; exact ⟨fun h => ⟨c, h⟩, fun h => h.2⟩
  · rw [if_neg c, h0]; exact ⟨fun h => absurd h (by decide), fun h => absurd h.1 c⟩
theorem wl_bt {tp : Nat → Nat} (ht : ∀ j, tp j < 256) (n i : Nat) : (if i < n then tp i else 0) < 256 := by
  split
  · exact ht i
  · omega
/-- one letter more -/
theorem wl_p1 {a c : Nat} (ha : a < 2 ^ 50) (h1 : 97 ≤ c) (h2 : c ≤ 122) : (nL a <<< ((nI 5).toInt64 &&& 63)) ||| (nI c - nI 96).toInt64 = nL (32 * a + (c - 96)) := by
  rw [pk_sub (by omega), nL_of (c - 96) (by omega)]
  apply Int64.toBitVec_inj.mp
  rw [Int64.toBitVec_or, Int64.toBitVec_shiftLeft]
  have e5 : (((nI 5).toInt64 &&& 63).toBitVec.smod 64) = 5#64 := by decide
  rw [e5]
  show (BitVec.ofNat 64 a <<< (5#64)) ||| BitVec.ofNat 64 (c - 96) = BitVec.ofNat 64 (32 * a + (c - 96))
  apply BitVec.eq_of_toNat_eq
  have e6 : (5#64).toNat = 5 := by decide
  have h3 : c - 96 < 2 ^ 5 := by omega
  rw [BitVec.toNat_or, BitVec.shiftLeft_eq', BitVec.toNat_shiftLeft, e6, BitVec.toNat_ofNat, BitVec.toNat_ofNat, BitVec.toNat_ofNat, Nat.mod_eq_of_lt (show a < 2 ^ 64 by omega), Nat.mod_eq_of_lt (show c - 96 < 2 ^ 64 by omega), Nat.mod_eq_of_lt (show 32 * a + (c - 96) < 2 ^ 64 by omega), Nat.shiftLeft_eq, Nat.mod_eq_of_lt (show a * 2 ^ 5 < 2 ^ 64 by omega), ← Nat.shiftLeft_eq, ← Nat.shiftLeft_add_eq_or_of_lt h3, Nat.shiftLeft_eq]
  omega
theorem wl_p_lt {tp : Nat → Nat} {s : Nat} : ∀ m, (∀ i, i < m → wl_lt (tp (s + i)) = true) → wl_p tp s m < 32 ^ m
  | 0, _ => by rw [wl_p]; omega
  | m + 1, h => by
    have ih := wl_p_lt m (fun i hi => h i (by omega))
    have h0 := of_decide_eq_true (h m (by omega))
    rw [wl_p, Nat.pow_succ]
    omega
theorem s190_331 {g : am_H} (hs : s ≤ n) (hn : n ≤ 700) (kp : wm_k wg_x h g) (h23 : am_I g 60 23 = nI (wl_z tp n s)) (h24 : am_I g 60 24 = nI (wl_q (wl_k tp n s))) (h25 : am_I g 60 25 = nI s) (h27 : wl_k tp n s = 2 → am_I g 60 27 = nI (wl_v tp n s)) (h28 : am_I g 60 28 = nI (if s < n then tp s else 0)) (hJ : wl_k tp n s = 1 → am_J g 60 29 = nL (wl_p tp s (min 6 (wl_z tp n s - s)))) : am_RV (am_vn am_M 1 190 331 [some (.ref 60), none] [] g) (fun g' => wm_k wg_x h g' ∧ wm_X g' tp n s) := by
  have hz := wl_z_ge (tp := tp) hs
  rw [e190_331, h23, h25, pk_sub hz]
  refine ⟨_, rfl, kp.sI _ (wg_x_t (by omega)), hs, ?_, ?_, ?_, am_I_s _ _ _ _, fun c => ?_, ?_, hJ⟩
  · rw [am_I_s2 _ _ _ _ (by omega)]; exact h23
  · rw [am_I_s2 _ _ _ _ (by omega)]; exact h24
  · rw [am_I_s2 _ _ _ _ (by omega)]; exact h25
  · rw [am_I_s2 _ _ _ _ (by omega)]; exact h27 c
  · rw [am_I_s2 _ _ _ _ (by omega)]; exact h28
/-- letters -/
theorem s190_108 (ht : wm_tp h tp n) (hs : s < n) (h1 : wl_k tp n s = 1) : ∀ (f i : Nat) (g : am_H), n - i = f → s ≤ i → i ≤ wl_z tp n s → wm_k wg_x h g → am_I g 60 23 = nI i → am_I g 60 25 = nI s → am_I g 60 28 = nI (if s < n then tp s else 0) → am_J g 60 29 = nL (wl_p tp s (min 6 (i - s))) → am_RV (am_vn am_M 1 190 108 [some (.ref 60), none] [] g) (fun g' => wm_k wg_x h g' ∧ wm_X g' tp n s) := by
  have hn := ht.1
  have hl := (wl_k_1.mp h1).2
  have hz : wl_z tp n s = wl_e wl_lt tp n s := by unfold wl_z; rw [if_neg (by omega), if_pos hl]
  have hzn := wl_z_le (tp := tp) (Nat.le_of_lt hs)
  have hin : ∀ i, s + i < wl_z tp n s → wl_lt (tp (s + i)) = true := fun i hi => wl_e_in wl_lt tp n _ s (s + i) rfl (by omega) (by rw [← hz]; exact hi)
  -- the end of the row
  have hend : ¬ (wl_z tp n s < n ∧ wl_lt (tp (wl_z tp n s)) = true) := by
    rw [hz]
    have key : ∀ f i, n - i = f → ¬ (wl_e wl_lt tp n i < n ∧ wl_lt (tp (wl_e wl_lt tp n i)) = true) := by
      intro f
      induction f with
      | zero => intro i hf c; have := wl_e_ge wl_lt tp n i; omega
      | succ f ih =>
        intro i hf
        by_cases c : i < n ∧ wl_lt (tp i) = true
        · rw [wl_e_s c.1 c.2]; exact ih (i + 1) (by omega)
        · rw [wl_e_0 c]; exact c
    exact key _ s rfl
  intro f
  induction f with
  | zero =>
    intro i g hf h1i h2i kp h23 h25 h28 hJ
    have htg := ht.kp kp (wg_x_f (by omega)) (fun k => wg_x_f (by omega))
    have hiz : i = wl_z tp n s := by omega
    rw [e190_108, h23, s187 htg (by omega), am_bI_ok, s188 (wl_bt ht.2.1 n i), am_bI_ok, if_neg (show ¬ wl_lt (if i < n then tp i else 0) = true from fun c => by have := (wl_b0 tp n i wl_lt rfl).mp c; omega), if_pos (show nI 0 = 0 from rfl)]
    refine s190_331 (Nat.le_of_lt hs) hn (kp.sI _ (wg_x_t (by omega))) ?_ ?_ ?_ (fun c => by omega) ?_ (fun _ => by rw [← hiz]; exact hJ)
    · rw [am_I_s2 _ _ _ _ (by omega), h23, hiz]
    · rw [am_I_s, h1]; rfl
    · rw [am_I_s2 _ _ _ _ (by omega)]; exact h25
    · rw [am_I_s2 _ _ _ _ (by omega)]; exact h28
  | succ f ih =>
    intro i g hf h1i h2i kp h23 h25 h28 hJ
    have htg := ht.kp kp (wg_x_f (by omega)) (fun k => wg_x_f (by omega))
    rw [e190_108, h23, s187 htg (by omega), am_bI_ok, s188 (wl_bt ht.2.1 n i), am_bI_ok]
    by_cases c : i = wl_z tp n s
    · rw [if_neg (show ¬ wl_lt (if i < n then tp i else 0) = true from fun cc => by have := (wl_b0 tp n i wl_lt rfl).mp cc; rw [c] at this; exact hend this), if_pos (show nI 0 = 0 from rfl)]
      refine s190_331 (Nat.le_of_lt hs) hn (kp.sI _ (wg_x_t (by omega))) ?_ ?_ ?_ (fun c => by omega) ?_ (fun _ => by rw [← c]; exact hJ)
      · rw [am_I_s2 _ _ _ _ (by omega), h23, c]
      · rw [am_I_s, h1]; rfl
      · rw [am_I_s2 _ _ _ _ (by omega)]; exact h25
      · rw [am_I_s2 _ _ _ _ (by omega)]; exact h28
    · have hli := hin (i - s) (by omega)
      rw [show s + (i - s) = i by omega] at hli
      have hc := of_decide_eq_true hli
      rw [if_pos (show wl_lt (if i < n then tp i else 0) = true from (wl_b0 tp n i wl_lt rfl).mpr ⟨by omega, hli⟩), if_neg (show ¬ nI 1 = 0 by decide), h23, h25, pk_sub h1i]
      have go : ∀ g1, wm_k wg_x h g1 → am_I g1 60 23 = nI i → am_I g1 60 25 = nI s → am_I g1 60 28 = nI (if s < n then tp s else 0) → am_J g1 60 29 = nL (wl_p tp s (min 6 (i + 1 - s))) → am_RV (am_vn am_M 1 190 159 [some (.ref 60), none] [] g1) (fun g' => wm_k wg_x h g' ∧ wm_X g' tp n s) := fun g1 k1 a23 a25 a28 aJ => by
        rw [e190_159]
        dsimp only
        rw [a23, pz_succ]
        exact ih (i + 1) _ (by omega) (by omega) (by omega) (k1.sI _ (wg_x_t (by omega))) (am_I_s _ _ _ _) (by rw [am_I_s2 _ _ _ _ (by omega)]; exact a25) (by rw [am_I_s2 _ _ _ _ (by omega)]; exact a28) aJ
      by_cases c6 : 6 ≤ i - s
      · rw [if_pos (nI_le c6 (by omega))]
        exact go g kp h23 h25 h28 (by rw [hJ, show min 6 (i - s) = 6 by omega, show min 6 (i + 1 - s) = 6 by omega])
      · rw [if_neg (nI_ge (by omega) (by omega)), s187 htg (by omega), am_bI_ok, if_pos (show i < n by omega), hJ, show min 6 (i - s) = i - s by omega]
        have hlt := wl_p_lt (tp := tp) (s := s) (i - s) (fun k hk => hin k (by omega))
        have h32 : 32 ^ (i - s) ≤ 32 ^ 6 := Nat.pow_le_pow_right (by omega) (by omega)
        rw [wl_p1 (by omega) hc.1 hc.2]
        refine go _ (kp.sJ _ _) h23 h25 h28 ?_
        rw [am_J_sJ, show min 6 (i + 1 - s) = (i - s) + 1 by omega, wl_p, show s + (i - s) = i by omega]
/-- digits -/
theorem s190_187 (ht : wm_tp h tp n) (hs : s < n) (h2 : wl_k tp n s = 2) : ∀ (f i : Nat) (g : am_H), n - i = f → s ≤ i → i ≤ wl_z tp n s → wm_k wg_x h g → am_I g 60 23 = nI i → am_I g 60 25 = nI s → am_I g 60 28 = nI (if s < n then tp s else 0) → am_I g 60 27 = nI (wl_n tp s (min 4 (i - s))) → am_RV (am_vn am_M 1 190 187 [some (.ref 60), none] [] g) (fun g' => wm_k wg_x h g' ∧ wm_X g' tp n s) := by
  have hn := ht.1
  obtain ⟨_, hl, hd⟩ := wl_k_2.mp h2
  have hz : wl_z tp n s = wl_e wl_dg tp n s := by unfold wl_z; rw [if_neg (by omega), if_neg (by rw [hl]; decide), if_pos hd]
  have hzn := wl_z_le (tp := tp) (Nat.le_of_lt hs)
  have hin : ∀ i, s + i < wl_z tp n s → wl_dg (tp (s + i)) = true := fun i hi => wl_e_in wl_dg tp n _ s (s + i) rfl (by omega) (by rw [← hz]; exact hi)
  have hend : ¬ (wl_z tp n s < n ∧ wl_dg (tp (wl_z tp n s)) = true) := by
    rw [hz]
    have key : ∀ f i, n - i = f → ¬ (wl_e wl_dg tp n i < n ∧ wl_dg (tp (wl_e wl_dg tp n i)) = true) := by
      intro f
      induction f with
      | zero => intro i hf c; have := wl_e_ge wl_dg tp n i; omega
      | succ f ih =>
        intro i hf
        by_cases c : i < n ∧ wl_dg (tp i) = true
        · rw [wl_e_s c.1 c.2]; exact ih (i + 1) (by omega)
        · rw [wl_e_0 c]; exact c
    exact key _ s rfl
  have stop : ∀ (g : am_H), wm_k wg_x h g → am_I g 60 23 = nI (wl_z tp n s) → am_I g 60 25 = nI s → am_I g 60 28 = nI (if s < n then tp s else 0) → am_I g 60 27 = nI (wl_n tp s (min 4 (wl_z tp n s - s))) → am_RV (am_vn am_M 1 190 331 [some (.ref 60), none] [] (am_sI g 60 24 (nI 2))) (fun g' => wm_k wg_x h g' ∧ wm_X g' tp n s) := fun g kp h23 h25 h28 h27 => by
    refine s190_331 (Nat.le_of_lt hs) hn (kp.sI _ (wg_x_t (by omega))) ?_ ?_ ?_ (fun c => ?_) ?_ (fun c => by omega)
    · rw [am_I_s2 _ _ _ _ (by omega), h23]
    · rw [am_I_s, h2]; rfl
    · rw [am_I_s2 _ _ _ _ (by omega)]; exact h25
    · rw [am_I_s2 _ _ _ _ (by omega)]; exact h27
    · rw [am_I_s2 _ _ _ _ (by omega)]; exact h28
  intro f
  induction f with
  | zero =>
    intro i g hf h1i h2i kp h23 h25 h28 h27
    have htg := ht.kp kp (wg_x_f (by omega)) (fun k => wg_x_f (by omega))
    have hiz : i = wl_z tp n s := by omega
    rw [e190_187, h23, s187 htg (by omega), am_bI_ok, s189 (wl_bt ht.2.1 n i), am_bI_ok, if_neg (show ¬ wl_dg (if i < n then tp i else 0) = true from fun c => by have := (wl_b0 tp n i wl_dg rfl).mp c; omega), if_pos (show nI 0 = 0 from rfl)]
    rw [hiz] at h23 h27
    exact stop g kp h23 h25 h28 h27
  | succ f ih =>
    intro i g hf h1i h2i kp h23 h25 h28 h27
    have htg := ht.kp kp (wg_x_f (by omega)) (fun k => wg_x_f (by omega))
    rw [e190_187, h23, s187 htg (by omega), am_bI_ok, s189 (wl_bt ht.2.1 n i), am_bI_ok]
    by_cases c : i = wl_z tp n s
    · rw [if_neg (show ¬ wl_dg (if i < n then tp i else 0) = true from fun cc => by have := (wl_b0 tp n i wl_dg rfl).mp cc; rw [c] at this; exact hend this), if_pos (show nI 0 = 0 from rfl)]
      rw [c] at h23 h27
      exact stop g kp h23 h25 h28 h27
    · have hli := hin (i - s) (by omega)
      rw [show s + (i - s) = i by omega] at hli
      have hc := of_decide_eq_true hli
      rw [if_pos (show wl_dg (if i < n then tp i else 0) = true from (wl_b0 tp n i wl_dg rfl).mpr ⟨by omega, hli⟩), if_neg (show ¬ nI 1 = 0 by decide), h23, h25, pk_sub h1i]
      have go : ∀ g1, wm_k wg_x h g1 → am_I g1 60 23 = nI i → am_I g1 60 25 = nI s → am_I g1 60 28 = nI (if s < n then tp s else 0) → am_I g1 60 27 = nI (wl_n tp s (min 4 (i + 1 - s))) → am_RV (am_vn am_M 1 190 237 [some (.ref 60), none] [] g1) (fun g' => wm_k wg_x h g' ∧ wm_X g' tp n s) := fun g1 k1 a23 a25 a28 a27 => by
        rw [e190_237]
        dsimp only
        rw [a23, pz_succ]
        exact ih (i + 1) _ (by omega) (by omega) (by omega) (k1.sI _ (wg_x_t (by omega))) (am_I_s _ _ _ _) (by rw [am_I_s2 _ _ _ _ (by omega)]; exact a25) (by rw [am_I_s2 _ _ _ _ (by omega)]; exact a28) (by rw [am_I_s2 _ _ _ _ (by omega)]; exact a27)
      by_cases c4 : 4 ≤ i - s
      · rw [if_pos (nI_le c4 (by omega))]
        exact go g kp h23 h25 h28 (by rw [h27, show min 4 (i - s) = 4 by omega, show min 4 (i + 1 - s) = 4 by omega])
      · rw [if_neg (nI_ge (by omega) (by omega)), s187 htg (by omega), am_bI_ok, if_pos (show i < n by omega), h27, show min 4 (i - s) = i - s by omega, pk_mul, nI_add, pk_sub (by omega)]
        refine go _ (kp.sI _ (wg_x_t (by omega))) (by rw [am_I_s2 _ _ _ _ (by omega)]; exact h23) (by rw [am_I_s2 _ _ _ _ (by omega)]; exact h25) (by rw [am_I_s2 _ _ _ _ (by omega)]; exact h28) ?_
        rw [am_I_s, show min 4 (i + 1 - s) = (i - s) + 1 by omega, wl_n, show s + (i - s) = i by omega, show 10 * wl_n tp s (i - s) + tp i - 48 = 10 * wl_n tp s (i - s) + (tp i - 48) by omega]
theorem s190_50 {g : am_H} (ht : wm_tp h tp n) (hs : s ≤ n) (kp : wm_k wg_x h g) (h23 : am_I g 60 23 = nI s) : am_RV (am_vn am_M 1 190 50 [some (.ref 60), none] [] g) (fun g' => wm_k wg_x h g' ∧ wm_X g' tp n s) := by
  have hn := ht.1
  rw [e190_50]
  dsimp only
  have k1 : wm_k wg_x h (am_sI (am_sJ (am_sI g 60 25 (am_I g 60 23)) 60 29 (Int64.ofNat 0)) 60 27 (nI 0)) := ((kp.sI _ (wg_x_t (by omega))).sJ _ _).sI _ (wg_x_t (by omega))
  have a23 : am_I (am_sI (am_sJ (am_sI g 60 25 (am_I g 60 23)) 60 29 (Int64.ofNat 0)) 60 27 (nI 0)) 60 23 = nI s := by rw [am_I_s2 _ _ _ _ (by omega), am_I_sJ, am_I_s2 _ _ _ _ (by omega)]; exact h23
  have a25 : am_I (am_sI (am_sJ (am_sI g 60 25 (am_I g 60 23)) 60 29 (Int64.ofNat 0)) 60 27 (nI 0)) 60 25 = nI s := by rw [am_I_s2 _ _ _ _ (by omega), am_I_sJ, am_I_s]; exact h23
  have a27 : am_I (am_sI (am_sJ (am_sI g 60 25 (am_I g 60 23)) 60 29 (Int64.ofNat 0)) 60 27 (nI 0)) 60 27 = nI 0 := am_I_s _ _ _ _
  have aJ : am_J (am_sI (am_sJ (am_sI g 60 25 (am_I g 60 23)) 60 29 (Int64.ofNat 0)) 60 27 (nI 0)) 60 29 = nL 0 := am_J_sJ _ _ _ _
  generalize am_sI (am_sJ (am_sI g 60 25 (am_I g 60 23)) 60 29 (Int64.ofNat 0)) 60 27 (nI 0) = g1 at k1 a23 a25 a27 aJ ⊢
  have ht1 := ht.kp k1 (wg_x_f (by omega)) (fun k => wg_x_f (by omega))
  have hb := wl_bt ht.2.1 n s
  rw [a23, s187 ht1 (by omega), am_bI_ok]
  have k2 : wm_k wg_x h (am_sI g1 60 28 (nI (if s < n then tp s else 0))) := k1.sI _ (wg_x_t (by omega))
  have b23 : am_I (am_sI g1 60 28 (nI (if s < n then tp s else 0))) 60 23 = nI s := by rw [am_I_s2 _ _ _ _ (by omega)]; exact a23
  have b25 : am_I (am_sI g1 60 28 (nI (if s < n then tp s else 0))) 60 25 = nI s := by rw [am_I_s2 _ _ _ _ (by omega)]; exact a25
  have b27 : am_I (am_sI g1 60 28 (nI (if s < n then tp s else 0))) 60 27 = nI 0 := by rw [am_I_s2 _ _ _ _ (by omega)]; exact a27
  have b28 : am_I (am_sI g1 60 28 (nI (if s < n then tp s else 0))) 60 28 = nI (if s < n then tp s else 0) := am_I_s _ _ _ _
  have b22 : am_I (am_sI g1 60 28 (nI (if s < n then tp s else 0))) 60 22 = nI n := by rw [am_I_s2 _ _ _ _ (by omega)]; exact ht1.2.2.1
  have bJ : am_J (am_sI g1 60 28 (nI (if s < n then tp s else 0))) 60 29 = nL 0 := aJ
  generalize am_sI g1 60 28 (nI (if s < n then tp s else 0)) = g2 at k2 b23 b25 b27 b28 b22 bJ ⊢
  try dsimp only
  rw [b23, b22]
  by_cases c : s < n
  · rw [if_pos (nI_lt c (by omega)), s188 hb, am_bI_ok]
    by_cases c1 : wl_lt (tp s) = true
    · rw [if_pos (show wl_lt (if s < n then tp s else 0) = true by rw [if_pos c]; exact c1), if_neg (show ¬ nI 1 = 0 by decide)]
      exact s190_108 ht c (wl_k_1.mpr ⟨c, c1⟩) _ s g2 rfl (Nat.le_refl _) (wl_z_ge hs) k2 b23 b25 b28 (by rw [Nat.sub_self]; exact bJ)
    · rw [if_neg (show ¬ wl_lt (if s < n then tp s else 0) = true by rw [if_pos c]; exact c1), if_pos (show nI 0 = 0 from rfl), s189 hb, am_bI_ok]
      have c1f : wl_lt (tp s) = false := by cases hh : wl_lt (tp s) with | false => rfl | true => exact absurd hh c1
      by_cases c2 : wl_dg (tp s) = true
      · rw [if_pos (show wl_dg (if s < n then tp s else 0) = true by rw [if_pos c]; exact c2), if_neg (show ¬ nI 1 = 0 by decide)]
        exact s190_187 ht c (wl_k_2.mpr ⟨c, c1f, c2⟩) _ s g2 rfl (Nat.le_refl _) (wl_z_ge hs) k2 b23 b25 b28 (by rw [Nat.sub_self]; exact b27)
      · rw [if_neg (show ¬ wl_dg (if s < n then tp s else 0) = true by rw [if_pos c]; exact c2), if_pos (show nI 0 = 0 from rfl)]
        have hz : wl_z tp n s = s + 1 := by unfold wl_z; rw [if_neg (by omega), if_neg c1, if_neg c2]
        have fin : ∀ v, wl_q (wl_k tp n s) = v → am_RV (am_vn am_M 1 190 331 [some (.ref 60), none] [] (am_sI (am_sI g2 60 23 (am_I g2 60 23 + nI 1)) 60 24 (nI v))) (fun g' => wm_k wg_x h g' ∧ wm_X g' tp n s) := fun v hv => by
          refine s190_331 hs hn ((k2.sI _ (wg_x_t (by omega))).sI _ (wg_x_t (by omega))) ?_ (by rw [am_I_s, hv]) ?_ (fun cc => absurd (wl_k_2.mp cc).2.2 c2) ?_ (fun cc => absurd (wl_k_1.mp cc).2 c1)
          · rw [am_I_s2 _ _ _ _ (by omega), am_I_s, b23, nI_add, hz]
          · rw [am_I_s2 _ _ _ _ (by omega), am_I_s2 _ _ _ _ (by omega)]; exact b25
          · rw [am_I_s2 _ _ _ _ (by omega), am_I_s2 _ _ _ _ (by omega)]; exact b28
        have hx : (if s < n then tp s else 0) = tp s := if_pos c
        rw [hx]
        rw [hx] at hb
        have sgn : wl_sg (tp s) = true → wl_q (wl_k tp n s) = 3 := fun c3 => by
          have := wl_sg_r c3
          have hk : wl_k tp n s = tp s := by unfold wl_k; rw [if_neg (by omega), if_neg c1, if_neg c2, if_pos c3]
          rw [hk]; unfold wl_q; rw [if_neg (by omega), if_neg (by omega)]
        have sg1 : ∀ b, b = 59 ∨ b = 40 ∨ b = 41 ∨ b = 43 ∨ b = 45 ∨ b = 42 ∨ b = 47 ∨ b = 60 ∨ b = 61 → tp s = b → wl_q (wl_k tp n s) = 3 := fun b hb2 e => sgn (decide_eq_true (by omega))
        by_cases d59 : tp s = 59
        · rw [if_pos (show nI (tp s) = nI 59 by rw [d59])]
          exact fin 3 (sg1 59 (by omega) d59)
        rw [if_neg (show ¬ nI (tp s) = nI 59 from fun e => d59 ((nI_eq (by omega) (by omega)).mp e))]
        by_cases d40 : tp s = 40
        · rw [if_pos (show nI (tp s) = nI 40 by rw [d40])]
          exact fin 3 (sg1 40 (by omega) d40)
        rw [if_neg (show ¬ nI (tp s) = nI 40 from fun e => d40 ((nI_eq (by omega) (by omega)).mp e))]
        by_cases d41 : tp s = 41
        · rw [if_pos (show nI (tp s) = nI 41 by rw [d41])]
          exact fin 3 (sg1 41 (by omega) d41)
        rw [if_neg (show ¬ nI (tp s) = nI 41 from fun e => d41 ((nI_eq (by omega) (by omega)).mp e))]
        by_cases d43 : tp s = 43
        · rw [if_pos (show nI (tp s) = nI 43 by rw [d43])]
          exact fin 3 (sg1 43 (by omega) d43)
        rw [if_neg (show ¬ nI (tp s) = nI 43 from fun e => d43 ((nI_eq (by omega) (by omega)).mp e))]
        by_cases d45 : tp s = 45
        · rw [if_pos (show nI (tp s) = nI 45 by rw [d45])]
          exact fin 3 (sg1 45 (by omega) d45)
        rw [if_neg (show ¬ nI (tp s) = nI 45 from fun e => d45 ((nI_eq (by omega) (by omega)).mp e))]
        by_cases d42 : tp s = 42
        · rw [if_pos (show nI (tp s) = nI 42 by rw [d42])]
          exact fin 3 (sg1 42 (by omega) d42)
        rw [if_neg (show ¬ nI (tp s) = nI 42 from fun e => d42 ((nI_eq (by omega) (by omega)).mp e))]
        by_cases d47 : tp s = 47
        · rw [if_pos (show nI (tp s) = nI 47 by rw [d47])]
          exact fin 3 (sg1 47 (by omega) d47)
        rw [if_neg (show ¬ nI (tp s) = nI 47 from fun e => d47 ((nI_eq (by omega) (by omega)).mp e))]
        by_cases d60 : tp s = 60
        · rw [if_pos (show nI (tp s) = nI 60 by rw [d60])]
          exact fin 3 (sg1 60 (by omega) d60)
        rw [if_neg (show ¬ nI (tp s) = nI 60 from fun e => d60 ((nI_eq (by omega) (by omega)).mp e))]
        by_cases d61 : tp s = 61
        · rw [if_pos (show nI (tp s) = nI 61 by rw [d61])]
          exact fin 3 (sg1 61 (by omega) d61)
        rw [if_neg (show ¬ nI (tp s) = nI 61 from fun e => d61 ((nI_eq (by omega) (by omega)).mp e))]
        refine fin 4 ?_
        have hk : wl_k tp n s = 3 := by
          unfold wl_k
          rw [if_neg (by omega), if_neg c1, if_neg c2, if_neg (fun e => by have := of_decide_eq_true e; omega)]
        rw [hk]; rfl
  · rw [if_neg (nI_nlt (by omega) (by omega))]
    have hk : wl_k tp n s = 0 := by unfold wl_k; rw [if_pos (by omega)]
    have hz : wl_z tp n s = s := by unfold wl_z; rw [if_pos (by omega)]; omega
    refine s190_331 hs hn (k2.sI _ (wg_x_t (by omega))) ?_ (by rw [am_I_s, hk]; rfl) ?_ (fun cc => by omega) ?_ (fun cc => by omega)
    · rw [am_I_s2 _ _ _ _ (by omega), b23, hz]
    · rw [am_I_s2 _ _ _ _ (by omega)]; exact b25
    · rw [am_I_s2 _ _ _ _ (by omega)]; exact b28
theorem s190 {b : Nat} (ht : wm_tp h tp n) (hb : b ≤ n) (h23 : am_I h 60 23 = nI b) : am_RV (am_run am_M 190 [.ref 60] h) (fun g' => wm_k wg_x h g' ∧ wm_X g' tp n (wl_e wl_bl tp n b)) := by
  have hn := ht.1
  rw [e190]
  have key : ∀ (f i : Nat) (g : am_H), n - i = f → i ≤ n → wm_k wg_x h g → am_I g 60 23 = nI i → am_RV (am_vn am_M 1 190 0 [some (.ref 60), none] [] g) (fun g' => wm_k wg_x h g' ∧ wm_X g' tp n (wl_e wl_bl tp n i)) := by
    intro f
    induction f with
    | zero =>
      intro i g hf hi kp hv
      have htg := ht.kp kp (wg_x_f (by omega)) (fun k => wg_x_f (by omega))
      rw [e190_0, htg.2.2.1, hv, if_pos (nI_le (show n ≤ i by omega) (by omega)), wl_e_0 (fun c => by omega)]
      exact s190_50 ht hi kp hv
    | succ f ih =>
      intro i g hf hi kp hv
      have htg := ht.kp kp (wg_x_f (by omega)) (fun k => wg_x_f (by omega))
      have hbi := ht.2.1 i
      have go : am_RV (am_vn am_M 1 190 37 [some (.ref 60), none] [] g) (fun g' => wm_k wg_x h g' ∧ wm_X g' tp n (wl_e wl_bl tp n (i + 1))) := by
        rw [e190_37, hv, pz_succ]
        exact ih (i + 1) _ (by omega) (by omega) (kp.sI _ (wg_x_t (by omega))) (am_I_s _ _ _ _)
      rw [e190_0, htg.2.2.1, hv, if_neg (nI_ge (show i < n by omega) (by omega)), s187 htg (by omega), am_bI_ok, if_pos (show i < n by omega)]
      by_cases c1 : tp i = 32
      · rw [if_pos (show nI (tp i) = nI 32 by rw [c1]), wl_e_s (show i < n by omega) (decide_eq_true (Or.inl c1))]
        exact go
      · rw [if_neg (fun e => c1 ((nI_eq (by omega) (by omega)).mp e)), hv, s187 htg (by omega), am_bI_ok, if_pos (show i < n by omega)]
        by_cases c2 : tp i = 10
        · rw [if_pos (show nI (tp i) = nI 10 by rw [c2]), wl_e_s (show i < n by omega) (decide_eq_true (Or.inr c2))]
          exact go
        · rw [if_neg (fun e => c2 ((nI_eq (by omega) (by omega)).mp e)), wl_e_0 (fun c => by have := of_decide_eq_true c.2; omega)]
          exact s190_50 ht hi kp hv
  exact key _ b h rfl hb (wm_k.refl _ _) h23
theorem s190X (ht : wm_tp h tp n) (hX : wm_X h tp n s) : am_RV (am_run am_M 190 [.ref 60] h) (fun g' => wm_k wg_x h g' ∧ wm_X g' tp n (wl_x tp n s)) :=
  s190 ht (wl_z_le hX.1) hX.2.1
end
/-! the model's words -/
def wl_pk : List Nat → Nat
  | [] => 0
  | a :: l => (a - 96) * 32 ^ l.length + wl_pk l
theorem s192_0 (h : am_H) : am_run am_M 192 [.int (nI 0)] h = some (.inl (some (.long (nL 17171557))), h) := by
  rw [e192, if_pos rfl, e191, if_neg (by decide), e191_32, if_neg (by decide), e191_48, if_neg (by decide), e191_66, if_pos (by decide), am_bL_ok]
  refine congrArg (fun x => (some (.inl (some (Value.long x)), h) : Option am_Q)) ?_
  decide +kernel
theorem s192_1 (h : am_H) : am_run am_M 192 [.int (nI 1)] h = some (.inl (some (.long (nL 278194))), h) := by
  rw [e192, if_neg (by decide), if_pos rfl, e191, if_neg (by decide), e191_32, if_neg (by decide), e191_48, if_pos (by decide), e191_66, if_pos (by decide), am_bL_ok]
  refine congrArg (fun x => (some (.inl (some (Value.long x)), h) : Option am_Q)) ?_
  decide +kernel
theorem s192_2 (h : am_H) : am_run am_M 192 [.int (nI 2)] h = some (.inl (some (.long (nL 394672))), h) := by
  rw [e192, if_neg (by decide), if_neg (by decide), if_pos rfl, e191, if_neg (by decide), e191_32, if_neg (by decide), e191_48, if_pos (by decide), e191_66, if_pos (by decide), am_bL_ok]
  refine congrArg (fun x => (some (.inl (some (Value.long x)), h) : Option am_Q)) ?_
  decide +kernel
theorem s192_3 (h : am_H) : am_run am_M 192 [.int (nI 3)] h = some (.inl (some (.long (nL 370116))), h) := by
  rw [e192, if_neg (by decide), if_neg (by decide), if_neg (by decide), if_pos rfl, e191, if_neg (by decide), e191_32, if_neg (by decide), e191_48, if_pos (by decide), e191_66, if_pos (by decide), am_bL_ok]
  refine congrArg (fun x => (some (.inl (some (Value.long x)), h) : Option am_Q)) ?_
  decide +kernel
theorem s192_4 (h : am_H) : am_run am_M 192 [.int (nI 4)] h = some (.inl (some (.long (nL 637431))), h) := by
  rw [e192, if_neg (by decide), if_neg (by decide), if_neg (by decide), if_neg (by decide), if_pos rfl, e191, if_neg (by decide), e191_32, if_neg (by decide), e191_48, if_pos (by decide), e191_66, if_pos (by decide), am_bL_ok]
  refine congrArg (fun x => (some (.inl (some (Value.long x)), h) : Option am_Q)) ?_
  decide +kernel
theorem s192_5 (h : am_H) : am_run am_M 192 [.int (nI 5)] h = some (.inl (some (.long (nL 4153))), h) := by
  rw [e192, if_neg (by decide), if_neg (by decide), if_neg (by decide), if_neg (by decide), if_neg (by decide), if_pos rfl, e191, if_neg (by decide), e191_32, if_pos (by decide), e191_48, if_pos (by decide), e191_66, if_pos (by decide), am_bL_ok]
  refine congrArg (fun x => (some (.inl (some (Value.long x)), h) : Option am_Q)) ?_
  decide +kernel
theorem s192_6 (h : am_H) : am_run am_M 192 [.int (nI 6)] h = some (.inl (some (.long (nL 515251))), h) := by
  rw [e192, if_neg (by decide), if_neg (by decide), if_neg (by decide), if_neg (by decide), if_neg (by decide), if_neg (by decide), if_pos rfl, e191, if_neg (by decide), e191_32, if_neg (by decide), e191_48, if_pos (by decide), e191_66, if_pos (by decide), am_bL_ok]
  refine congrArg (fun x => (some (.inl (some (Value.long x)), h) : Option am_Q)) ?_
  decide +kernel
theorem s192_7 (h : am_H) : am_run am_M 192 [.int (nI 7)] h = some (.inl (some (.long (nL 12629075))), h) := by
  rw [e192, if_neg (by decide), if_neg (by decide), if_neg (by decide), if_neg (by decide), if_neg (by decide), if_neg (by decide), if_neg (by decide), if_pos rfl, e191, if_neg (by decide), e191_32, if_neg (by decide), e191_48, if_neg (by decide), e191_66, if_pos (by decide), am_bL_ok]
  refine congrArg (fun x => (some (.inl (some (Value.long x)), h) : Option am_Q)) ?_
  decide +kernel
theorem s192_8 (h : am_H) : am_run am_M 192 [.int (nI 8)] h = some (.inl (some (.long (nL 290921650))), h) := by
  rw [e192, if_neg (by decide), if_neg (by decide), if_neg (by decide), if_neg (by decide), if_neg (by decide), if_neg (by decide), if_neg (by decide), if_neg (by decide), if_pos rfl, e191, if_neg (by decide), e191_32, if_neg (by decide), e191_48, if_neg (by decide), e191_66, if_neg (by decide), am_bL_ok]
  refine congrArg (fun x => (some (.inl (some (Value.long x)), h) : Option am_Q)) ?_
  decide +kernel
theorem s192_9 (h : am_H) : am_run am_M 192 [.int (nI 9)] h = some (.inl (some (.long (nL 20594245))), h) := by
  rw [e192, if_neg (by decide), if_neg (by decide), if_neg (by decide), if_neg (by decide), if_neg (by decide), if_neg (by decide), if_neg (by decide), if_neg (by decide), if_neg (by decide), if_pos rfl, e191, if_neg (by decide), e191_32, if_neg (by decide), e191_48, if_neg (by decide), e191_66, if_pos (by decide), am_bL_ok]
  refine congrArg (fun x => (some (.inl (some (Value.long x)), h) : Option am_Q)) ?_
  decide +kernel
theorem s192_10 (h : am_H) : am_run am_M 192 [.int (nI 10)] h = some (.inl (some (.long (nL 525419))), h) := by
  rw [e192, if_neg (by decide), if_neg (by decide), if_neg (by decide), if_neg (by decide), if_neg (by decide), if_neg (by decide), if_neg (by decide), if_neg (by decide), if_neg (by decide), if_neg (by decide), if_pos rfl, e191, if_neg (by decide), e191_32, if_neg (by decide), e191_48, if_pos (by decide), e191_66, if_pos (by decide), am_bL_ok]
  refine congrArg (fun x => (some (.inl (some (Value.long x)), h) : Option am_Q)) ?_
  decide +kernel
theorem s192_11 (h : am_H) : am_run am_M 192 [.int (nI 11)] h = some (.inl (some (.long (nL 8902245))), h) := by
  rw [e192, if_neg (by decide), if_neg (by decide), if_neg (by decide), if_neg (by decide), if_neg (by decide), if_neg (by decide), if_neg (by decide), if_neg (by decide), if_neg (by decide), if_neg (by decide), if_neg (by decide), if_pos rfl, e191, if_neg (by decide), e191_32, if_neg (by decide), e191_48, if_neg (by decide), e191_66, if_pos (by decide), am_bL_ok]
  refine congrArg (fun x => (some (.inl (some (Value.long x)), h) : Option am_Q)) ?_
  decide +kernel
theorem s192_12 (h : am_H) : am_run am_M 192 [.int (nI 12)] h = some (.inl (some (.long (nL 6591876))), h) := by
  rw [e192, if_neg (by decide), if_neg (by decide), if_neg (by decide), if_neg (by decide), if_neg (by decide), if_neg (by decide), if_neg (by decide), if_neg (by decide), if_neg (by decide), if_neg (by decide), if_neg (by decide), if_neg (by decide), if_pos rfl, e191, if_neg (by decide), e191_32, if_neg (by decide), e191_48, if_neg (by decide), e191_66, if_pos (by decide), am_bL_ok]
  refine congrArg (fun x => (some (.inl (some (Value.long x)), h) : Option am_Q)) ?_
  decide +kernel
theorem s192_13 (h : am_H) : am_run am_M 192 [.int (nI 13)] h = some (.inl (some (.long (nL 168165))), h) := by
  rw [e192, if_neg (by decide), if_neg (by decide), if_neg (by decide), if_neg (by decide), if_neg (by decide), if_neg (by decide), if_neg (by decide), if_neg (by decide), if_neg (by decide), if_neg (by decide), if_neg (by decide), if_neg (by decide), if_neg (by decide), if_pos rfl, e191, if_neg (by decide), e191_32, if_neg (by decide), e191_48, if_pos (by decide), e191_66, if_pos (by decide), am_bL_ok]
  refine congrArg (fun x => (some (.inl (some (Value.long x)), h) : Option am_Q)) ?_
  decide +kernel
theorem s192_14 (h : am_H) : am_run am_M 192 [.int (nI 14)] h = some (.inl (some (.long (nL 769508))), h) := by
  rw [e192, if_neg (by decide), if_neg (by decide), if_neg (by decide), if_neg (by decide), if_neg (by decide), if_neg (by decide), if_neg (by decide), if_neg (by decide), if_neg (by decide), if_neg (by decide), if_neg (by decide), if_neg (by decide), if_neg (by decide), if_neg (by decide), if_pos rfl, e191, if_neg (by decide), e191_32, if_neg (by decide), e191_48, if_pos (by decide), e191_66, if_pos (by decide), am_bL_ok]
  refine congrArg (fun x => (some (.inl (some (Value.long x)), h) : Option am_Q)) ?_
  decide +kernel
theorem s192_15 (h : am_H) : am_run am_M 192 [.int (nI 15)] h = some (.inl (some (.long (nL 525960))), h) := by
  rw [e192, if_neg (by decide), if_neg (by decide), if_neg (by decide), if_neg (by decide), if_neg (by decide), if_neg (by decide), if_neg (by decide), if_neg (by decide), if_neg (by decide), if_neg (by decide), if_neg (by decide), if_neg (by decide), if_neg (by decide), if_neg (by decide), if_neg (by decide), if_pos rfl, e191, if_neg (by decide), e191_32, if_neg (by decide), e191_48, if_pos (by decide), e191_66, if_pos (by decide), am_bL_ok]
  refine congrArg (fun x => (some (.inl (some (Value.long x)), h) : Option am_Q)) ?_
  decide +kernel
theorem s192_16 (h : am_H) : am_run am_M 192 [.int (nI 16)] h = some (.inl (some (.long (nL 656057925))), h) := by
  rw [e192, if_neg (by decide), if_neg (by decide), if_neg (by decide), if_neg (by decide), if_neg (by decide), if_neg (by decide), if_neg (by decide), if_neg (by decide), if_neg (by decide), if_neg (by decide), if_neg (by decide), if_neg (by decide), if_neg (by decide), if_neg (by decide), if_neg (by decide), if_neg (by decide), if_pos rfl, e191, if_neg (by decide), e191_32, if_neg (by decide), e191_48, if_neg (by decide), e191_66, if_neg (by decide), am_bL_ok]
  refine congrArg (fun x => (some (.inl (some (Value.long x)), h) : Option am_Q)) ?_
  decide +kernel
theorem s192_17 (h : am_H) : am_run am_M 192 [.int (nI 17)] h = some (.inl (some (.long (nL 150065650))), h) := by
  rw [e192, if_neg (by decide), if_neg (by decide), if_neg (by decide), if_neg (by decide), if_neg (by decide), if_neg (by decide), if_neg (by decide), if_neg (by decide), if_neg (by decide), if_neg (by decide), if_neg (by decide), if_neg (by decide), if_neg (by decide), if_neg (by decide), if_neg (by decide), if_neg (by decide), if_neg (by decide), if_pos rfl, e191, if_neg (by decide), e191_32, if_neg (by decide), e191_48, if_neg (by decide), e191_66, if_neg (by decide), am_bL_ok]
  refine congrArg (fun x => (some (.inl (some (Value.long x)), h) : Option am_Q)) ?_
  decide +kernel
theorem s192_18 (h : am_H) : am_run am_M 192 [.int (nI 18)] h = some (.inl (some (.long (nL 24416759))), h) := by
  rw [e192, if_neg (by decide), if_neg (by decide), if_neg (by decide), if_neg (by decide), if_neg (by decide), if_neg (by decide), if_neg (by decide), if_neg (by decide), if_neg (by decide), if_neg (by decide), if_neg (by decide), if_neg (by decide), if_neg (by decide), if_neg (by decide), if_neg (by decide), if_neg (by decide), if_neg (by decide), if_neg (by decide), if_pos rfl, e191, if_neg (by decide), e191_32, if_neg (by decide), e191_48, if_neg (by decide), e191_66, if_pos (by decide), am_bL_ok]
  refine congrArg (fun x => (some (.inl (some (Value.long x)), h) : Option am_Q)) ?_
  decide +kernel
theorem s192_19 (h : am_H) : am_run am_M 192 [.int (nI 19)] h = some (.inl (some (.long (nL 3417476))), h) := by
  rw [e192, if_neg (by decide), if_neg (by decide), if_neg (by decide), if_neg (by decide), if_neg (by decide), if_neg (by decide), if_neg (by decide), if_neg (by decide), if_neg (by decide), if_neg (by decide), if_neg (by decide), if_neg (by decide), if_neg (by decide), if_neg (by decide), if_neg (by decide), if_neg (by decide), if_neg (by decide), if_neg (by decide), if_neg (by decide), if_pos rfl, e191, if_neg (by decide), e191_32, if_neg (by decide), e191_48, if_neg (by decide), e191_66, if_pos (by decide), am_bL_ok]
  refine congrArg (fun x => (some (.inl (some (Value.long x)), h) : Option am_Q)) ?_
  decide +kernel
theorem s192_20 (h : am_H) : am_run am_M 192 [.int (nI 20)] h = some (.inl (some (.long (nL 19176724))), h) := by
  rw [e192, if_neg (by decide), if_neg (by decide), if_neg (by decide), if_neg (by decide), if_neg (by decide), if_neg (by decide), if_neg (by decide), if_neg (by decide), if_neg (by decide), if_neg (by decide), if_neg (by decide), if_neg (by decide), if_neg (by decide), if_neg (by decide), if_neg (by decide), if_neg (by decide), if_neg (by decide), if_neg (by decide), if_neg (by decide), if_neg (by decide), if_pos rfl, e191, if_neg (by decide), e191_32, if_neg (by decide), e191_48, if_neg (by decide), e191_66, if_pos (by decide), am_bL_ok]
  refine congrArg (fun x => (some (.inl (some (Value.long x)), h) : Option am_Q)) ?_
  decide +kernel
theorem s192_21 (h : am_H) : am_run am_M 192 [.int (nI 21)] h = some (.inl (some (.long (nL 595412))), h) := by
  rw [e192, if_neg (by decide), if_neg (by decide), if_neg (by decide), if_neg (by decide), if_neg (by decide), if_neg (by decide), if_neg (by decide), if_neg (by decide), if_neg (by decide), if_neg (by decide), if_neg (by decide), if_neg (by decide), if_neg (by decide), if_neg (by decide), if_neg (by decide), if_neg (by decide), if_neg (by decide), if_neg (by decide), if_neg (by decide), if_neg (by decide), if_neg (by decide), if_pos rfl, e191, if_neg (by decide), e191_32, if_neg (by decide), e191_48, if_pos (by decide), e191_66, if_pos (by decide), am_bL_ok]
  refine congrArg (fun x => (some (.inl (some (Value.long x)), h) : Option am_Q)) ?_
  decide +kernel
theorem s192_22 (h : am_H) : am_run am_M 192 [.int (nI 22)] h = some (.inl (some (.long (nL 1476))), h) := by
  rw [e192, if_neg (by decide), if_neg (by decide), if_neg (by decide), if_neg (by decide), if_neg (by decide), if_neg (by decide), if_neg (by decide), if_neg (by decide), if_neg (by decide), if_neg (by decide), if_neg (by decide), if_neg (by decide), if_neg (by decide), if_neg (by decide), if_neg (by decide), if_neg (by decide), if_neg (by decide), if_neg (by decide), if_neg (by decide), if_neg (by decide), if_neg (by decide), if_neg (by decide), if_pos rfl, e191, if_neg (by decide), e191_32, if_pos (by decide), e191_48, if_pos (by decide), e191_66, if_pos (by decide), am_bL_ok]
  refine congrArg (fun x => (some (.inl (some (Value.long x)), h) : Option am_Q)) ?_
  decide +kernel
theorem s192_23 (h : am_H) : am_run am_M 192 [.int (nI 23)] h = some (.inl (some (.long (nL 498))), h) := by
  rw [e192, if_neg (by decide), if_neg (by decide), if_neg (by decide), if_neg (by decide), if_neg (by decide), if_neg (by decide), if_neg (by decide), if_neg (by decide), if_neg (by decide), if_neg (by decide), if_neg (by decide), if_neg (by decide), if_neg (by decide), if_neg (by decide), if_neg (by decide), if_neg (by decide), if_neg (by decide), if_neg (by decide), if_neg (by decide), if_neg (by decide), if_neg (by decide), if_neg (by decide), if_neg (by decide), if_pos rfl, e191, if_pos (by decide), e191_32, if_pos (by decide), e191_48, if_pos (by decide), e191_66, if_pos (by decide), am_bL_ok]
  refine congrArg (fun x => (some (.inl (some (Value.long x)), h) : Option am_Q)) ?_
  decide +kernel
theorem s192_24 (h : am_H) : am_run am_M 192 [.int (nI 24)] h = some (.inl (some (.long (nL 14836))), h) := by
  rw [e192, if_neg (by decide), if_neg (by decide), if_neg (by decide), if_neg (by decide), if_neg (by decide), if_neg (by decide), if_neg (by decide), if_neg (by decide), if_neg (by decide), if_neg (by decide), if_neg (by decide), if_neg (by decide), if_neg (by decide), if_neg (by decide), if_neg (by decide), if_neg (by decide), if_neg (by decide), if_neg (by decide), if_neg (by decide), if_neg (by decide), if_neg (by decide), if_neg (by decide), if_neg (by decide), if_neg (by decide), e191, if_neg (by decide), e191_32, if_pos (by decide), e191_48, if_pos (by decide), e191_66, if_pos (by decide), am_bL_ok]
  refine congrArg (fun x => (some (.inl (some (Value.long x)), h) : Option am_Q)) ?_
  decide +kernel
def wl_pv (k : Nat) : Nat := [17171557, 278194, 394672, 370116, 637431, 4153, 515251, 12629075, 290921650, 20594245, 525419, 8902245, 6591876, 168165, 769508, 525960, 656057925, 150065650, 24416759, 3417476, 19176724, 595412, 1476, 498, 14836].getD k 0
theorem s192 (h : am_H) : ∀ k, k < 25 → am_run am_M 192 [.int (nI k)] h = some (.inl (some (.long (nL (wl_pv k)))), h) := by
  intro k hk
  match k, hk with
  | 0, _ => exact s192_0 h
  | 1, _ => exact s192_1 h
  | 2, _ => exact s192_2 h
  | 3, _ => exact s192_3 h
  | 4, _ => exact s192_4 h
  | 5, _ => exact s192_5 h
  | 6, _ => exact s192_6 h
  | 7, _ => exact s192_7 h
  | 8, _ => exact s192_8 h
  | 9, _ => exact s192_9 h
  | 10, _ => exact s192_10 h
  | 11, _ => exact s192_11 h
  | 12, _ => exact s192_12 h
  | 13, _ => exact s192_13 h
  | 14, _ => exact s192_14 h
  | 15, _ => exact s192_15 h
  | 16, _ => exact s192_16 h
  | 17, _ => exact s192_17 h
  | 18, _ => exact s192_18 h
  | 19, _ => exact s192_19 h
  | 20, _ => exact s192_20 h
  | 21, _ => exact s192_21 h
  | 22, _ => exact s192_22 h
  | 23, _ => exact s192_23 h
  | 24, _ => exact s192_24 h
  | k + 25, h => exact absurd h (by omega)
def wl_pf (f : Nat → Nat) : Nat → Nat
  | 0 => 0
  | m + 1 => 32 * wl_pf f m + (f m - 96)
theorem wl_pv_ok : ∀ k, k < 25 → wl_pv k = wl_pf (fun i => (wl_W k).getD i 0) (wl_W k).length ∧ wl_pv k < 2 ^ 31 := by decide +kernel
theorem wl_p_pf (tp : Nat → Nat) (s : Nat) : ∀ m, wl_p tp s m = wl_pf (fun i => tp (s + i)) m
  | 0 => rfl
  | m + 1 => by rw [wl_p, wl_pf, wl_p_pf tp s m]
theorem wl_pf_eq {f g : Nat → Nat} : ∀ m k, (∀ i, i < m → 97 ≤ f i ∧ f i ≤ 122) → (∀ i, i < k → 97 ≤ g i ∧ g i ≤ 122) → wl_pf f m = wl_pf g k → m = k ∧ ∀ i, i < m → f i = g i
  | 0, 0, _, _, _ => ⟨rfl, fun i hi => absurd hi (Nat.not_lt_zero i)⟩
  | 0, k + 1, _, hg, e => by
    have := hg k (by omega)
    rw [wl_pf, wl_pf] at e
    omega
  | m + 1, 0, hf, _, e => by
    have := hf m (by omega)
    rw [wl_pf, wl_pf] at e
    omega
  | m + 1, k + 1, hf, hg, e => by
    have h1 := hf m (by omega)
    have h2 := hg k (by omega)
    rw [wl_pf, wl_pf] at e
    obtain ⟨a, b⟩ := wl_pf_eq m k (fun i hi => hf i (by omega)) (fun i hi => hg i (by omega)) (by omega)
    refine ⟨by omega, fun i hi => ?_⟩
    by_cases c : i = m
    · subst a; rw [c]; omega
    · exact b i (by omega)
def wm_w (w : Nat) : Int32 := if w < 25 then nI w else (-1 : Int32)
theorem s193 {h : am_H} {tp : Nat → Nat} {n s : Nat} (ht : wm_tp h tp n) (hX : wm_X h tp n s) : am_run am_M 193 [.ref 60] h = some (.inl (some (.int (wm_w (wl_w tp n s)))), h) := by
  have hn := ht.1
  obtain ⟨x1, x2, x3, x4, x5, x6, x7, x8⟩ := hX
  have hzs := wl_z_ge (tp := tp) x1
  have hzn := wl_z_le (tp := tp) x1
  have hk61 := wl_k_le (tp := tp) (n := n) (s := s)
  rw [e193, x3, x5]
  by_cases c1 : wl_k tp n s = 1
  · obtain ⟨hs, hl⟩ := wl_k_1.mp c1
    have hz : wl_z tp n s = wl_e wl_lt tp n s := by unfold wl_z; rw [if_neg (by omega), if_pos hl]
    have hin : ∀ i, i < wl_z tp n s - s → 97 ≤ tp (s + i) ∧ tp (s + i) ≤ 122 := fun i hi => of_decide_eq_true (wl_e_in wl_lt tp n _ s (s + i) rfl (by omega) (by rw [← hz]; omega))
    rw [if_pos (show nI (wl_q (wl_k tp n s)) = nI 1 by rw [c1]; rfl)]
    by_cases c6 : wl_z tp n s - s ≤ 6
    · have hJ := x8 c1
      rw [show min 6 (wl_z tp n s - s) = wl_z tp n s - s by omega] at hJ
      have hpl := wl_p_lt (tp := tp) (s := s) (wl_z tp n s - s) (fun i hi => decide_eq_true (hin i hi))
      have h32 : 32 ^ (wl_z tp n s - s) ≤ 32 ^ 6 := Nat.pow_le_pow_right (by omega) c6
      have hcmp : ∀ k, k < 25 → (wl_pv k = wl_p tp s (wl_z tp n s - s) ↔ wl_w tp n s = k) := fun k hk => by
        have hv := wl_pv_ok k hk
        have hW := wl_W_ok k hk
        rw [wl_w_is c1 hk, hv.1, wl_p_pf]
        constructor
        · intro e
          obtain ⟨a, b⟩ := wl_pf_eq _ _ (fun i hi => hW.2 i hi) hin e
          exact ⟨a.symm, fun i hi => (b i hi).symm⟩
        · rintro ⟨a, b⟩
          rw [a]
          have : ∀ m, m ≤ (wl_W k).length → wl_pf (fun i => (wl_W k).getD i 0) m = wl_pf (fun i => tp (s + i)) m := by
            intro m
            induction m with
            | zero => intro _; rfl
            | succ m ih => intro hm; rw [wl_pf, wl_pf, ih (by omega), b m (by omega)]
          exact this _ (Nat.le_refl _)
      rw [if_pos (nI_le c6 (by omega))]
      have key : ∀ (f k : Nat), k + f = 25 → (∀ i, i < k → wl_w tp n s ≠ i) → am_vn am_M 2 193 21 [some (.ref 60), some (.int (nI k))] [] h = some (.inl (some (.int (wm_w (wl_w tp n s)))), h) := by
        intro f
        induction f with
        | zero =>
          intro k hk hno
          have hw := wl_w_le (tp := tp) (n := n) (s := s)
          rw [e193_21, if_pos (nI_le (show 25 ≤ k by omega) (by omega))]
          unfold wm_w
          rw [if_neg (fun c => hno (wl_w tp n s) (by omega) rfl)]
        | succ f ih =>
          intro k hk hno
          have hv := (wl_pv_ok k (by omega)).2
          rw [e193_21, if_neg (nI_ge (show k < 25 by omega) (by omega)), s192 h k (by omega), am_bL_ok, hJ]
          by_cases e : wl_pv k = wl_p tp s (wl_z tp n s - s)
          · have hw := (hcmp k (by omega)).mp e
            rw [if_pos (by rw [lg_cmp_eq, e]), hw]
            unfold wm_w
            rw [if_pos (by omega)]
          · rw [if_neg (fun c => e (by
              rw [lg_cmp_eq] at c
              have := congrArg Int64.toInt c
              rw [nL_toInt (by omega), nL_toInt (by omega)] at this
              omega)), pz_succ]
            exact ih (k + 1) (by omega) (fun i hi c => by
              by_cases e2 : i = k
              · rw [e2] at c; exact e ((hcmp k (by omega)).mpr c)
              · exact hno i (by omega) c)
      exact key 25 0 rfl (fun i hi => absurd hi (Nat.not_lt_zero i))
    · have hw : wl_w tp n s = 25 := by
        have hle := wl_w_le (tp := tp) (n := n) (s := s)
        rcases Nat.lt_or_ge (wl_w tp n s) 25 with c | c
        · have h1 := (wl_w_is c1 c).mp rfl
          have h2 := (wl_W_ok _ c).1.2
          have := h1.1
          omega
        · omega
      rw [if_neg (nI_ge (by omega) (by omega)), hw]; rfl
  · have hw : wl_w tp n s = 25 := if_neg c1
    have hq : wl_q (wl_k tp n s) ≠ 1 ∧ wl_q (wl_k tp n s) ≤ 4 := by unfold wl_q; split <;> (try split) <;> omega
    rw [if_neg (fun e => hq.1 ((nI_eq (by omega) (by omega)).mp e)), hw]; rfl
