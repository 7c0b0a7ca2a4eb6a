/-! THE PURE LAYER: results, frames, loops, numbers -/
def am_RI (o : Option am_Q) (P : Int32 → am_H → Prop) : Prop := ∃ v g, o = some (.inl (some (.int v)), g) ∧ P v g
def am_RL (o : Option am_Q) (P : Int64 → am_H → Prop) : Prop := ∃ v g, o = some (.inl (some (.long v)), g) ∧ P v g
def am_RV (o : Option am_Q) (P : am_H → Prop) : Prop := ∃ g, o = some (.inl none, g) ∧ P g
theorem am_RI.mono {o : Option am_Q} {P P' : Int32 → am_H → Prop} (h : am_RI o P) (hp : ∀ v g, P v g → P' v g) : am_RI o P' := by
  obtain ⟨v, g, e, h⟩ := h
  exact ⟨v, g, e, hp _ _ h⟩
theorem am_RV.mono {o : Option am_Q} {P P' : am_H → Prop} (h : am_RV o P) (hp : ∀ g, P g → P' g) : am_RV o P' := by
  obtain ⟨g, e, h⟩ := h
  exact ⟨g, e, hp _ h⟩
theorem am_bI_ok (hd : List (Nat × Int32)) (v : Int32) (g : am_H) (f : Int32 → am_H → Option am_Q) : am_bI hd (some (.inl (some (.int v)), g)) f = f v g := rfl
theorem am_bL_ok (hd : List (Nat × Int32)) (v : Int64) (g : am_H) (f : Int64 → am_H → Option am_Q) : am_bL hd (some (.inl (some (.long v)), g)) f = f v g := rfl
theorem am_bV_ok (hd : List (Nat × Int32)) (g : am_H) (f : am_H → Option am_Q) : am_bV hd (some (.inl none, g)) f = f g := rfl
theorem am_bI_ex (e : Nat) (g : am_H) (f : Int32 → am_H → Option am_Q) : am_bI [] (some (.inr e, g)) f = some (.inr e, g) := rfl
theorem am_bV_ex (e : Nat) (g : am_H) (f : am_H → Option am_Q) : am_bV [] (some (.inr e, g)) f = some (.inr e, g) := rfl
/-- heaps that differ in scratch cells alone -/
def am_kp (s : Nat → Nat → Bool) (h g : am_H) : Prop := g.1 = h.1 ∧ g.2.1 = h.2.1 ∧ g.2.2.1 = h.2.2.1 ∧ am_J g = am_J h ∧ am_R g = am_R h ∧ ∀ i k, s i k = false → am_I g i k = am_I h i k
theorem am_kp.refl (s : Nat → Nat → Bool) (h : am_H) : am_kp s h h := ⟨rfl, rfl, rfl, rfl, rfl, fun _ _ _ => rfl⟩
theorem am_kp.trans {s : Nat → Nat → Bool} {h g k : am_H} (a : am_kp s h g) (b : am_kp s g k) : am_kp s h k := by
  obtain ⟨a1, a2, a3, a4, a5, a6⟩ := a
  obtain ⟨b1, b2, b3, b4, b5, b6⟩ := b
  exact ⟨b1.trans a1, b2.trans a2, b3.trans a3, b4.trans a4, b5.trans a5, fun i k hs => (b6 i k hs).trans (a6 i k hs)⟩
theorem am_kp.up {s s' : Nat → Nat → Bool} {h g : am_H} (a : am_kp s h g) (m : ∀ i k, s' i k = false → s i k = false) : am_kp s' h g := ⟨a.1, a.2.1, a.2.2.1, a.2.2.2.1, a.2.2.2.2.1, fun i k hs => a.2.2.2.2.2 i k (m i k hs)⟩
theorem am_kp.get {s : Nat → Nat → Bool} {h g : am_H} (a : am_kp s h g) (i k : Nat) (hs : s i k = false) : am_I g i k = am_I h i k := a.2.2.2.2.2 i k hs
theorem am_kp.R {s : Nat → Nat → Bool} {h g : am_H} (a : am_kp s h g) : am_R g = am_R h := a.2.2.2.2.1
theorem am_kp.J {s : Nat → Nat → Bool} {h g : am_H} (a : am_kp s h g) : am_J g = am_J h := a.2.2.2.1
theorem am_I_s (h : am_H) (i k : Nat) (v : Int32) : am_I (am_sI h i k v) i k = v := by
  show (if i = i then fun b => if b = k then v else am_I h i b else am_I h i) k = v
  rw [if_pos rfl]
  exact if_pos rfl
theorem am_I_s2 (h : am_H) (i k : Nat) (v : Int32) {b : Nat} (hb : b ≠ k) : am_I (am_sI h i k v) i b = am_I h i b := by
  show (if i = i then fun b => if b = k then v else am_I h i b else am_I h i) b = _
  rw [if_pos rfl]
  exact if_neg hb
theorem am_I_s1 (h : am_H) (i k : Nat) (v : Int32) {a : Nat} (ha : a ≠ i) : am_I (am_sI h i k v) a = am_I h a := by
  show (if a = i then fun b => if b = k then v else am_I h i b else am_I h a) = _
  exact if_neg ha
theorem am_I_sc (h : am_H) (i k : Nat) (v : Int32) (a b : Nat) : am_I (am_sI h i k v) a b = if a = i ∧ b = k then v else am_I h a b := by
  by_cases ha : a = i
  · subst ha
    by_cases hb : b = k
    · subst hb; rw [am_I_s, if_pos ⟨rfl, rfl⟩]
    · rw [am_I_s2 _ _ _ _ hb, if_neg (fun h => hb h.2)]
  · rw [am_I_s1 _ _ _ _ ha, if_neg (fun h => ha h.1)]
theorem am_R_s (h : am_H) (i k : Nat) (v : Int32) : am_R (am_sI h i k v) = am_R h := rfl
theorem am_J_s (h : am_H) (i k : Nat) (v : Int32) : am_J (am_sI h i k v) = am_J h := rfl
theorem am_kp.sI {s : Nat → Nat → Bool} {h g : am_H} (a : am_kp s h g) {i k : Nat} (v : Int32) (hs : s i k = true) : am_kp s h (am_sI g i k v) := by
  refine ⟨a.1, a.2.1, a.2.2.1, a.2.2.2.1, a.2.2.2.2.1, fun j l hl => ?_⟩
  rw [am_I_sc]
  by_cases e : j = i ∧ l = k
  · obtain ⟨rfl, rfl⟩ := e
    rw [hs] at hl; cases hl
  · rw [if_neg e]; exact a.get j l hl
/-- a whole row of ints -/
def pz_wr (h : am_H) (r : Nat) (f : Nat → Int32) : am_H := (h.1, h.2.1, h.2.2.1, am_row h.2.2.2.1 r f, h.2.2.2.2.1, h.2.2.2.2.2)
theorem am_I_w (h : am_H) (r : Nat) (f : Nat → Int32) : am_I (pz_wr h r f) r = f := by
  show (if r = r then f else am_I h r) = f
  exact if_pos rfl
theorem am_I_w1 (h : am_H) (r : Nat) (f : Nat → Int32) {a : Nat} (ha : a ≠ r) : am_I (pz_wr h r f) a = am_I h a := by
  show (if a = r then f else am_I h a) = _
  exact if_neg ha
theorem am_R_w (h : am_H) (r : Nat) (f : Nat → Int32) : am_R (pz_wr h r f) = am_R h := rfl
theorem am_J_w (h : am_H) (r : Nat) (f : Nat → Int32) : am_J (pz_wr h r f) = am_J h := rfl
theorem am_kp.wr {s : Nat → Nat → Bool} {h g : am_H} (a : am_kp s h g) {r : Nat} (f : Nat → Int32) (hs : ∀ k, s r k = true) : am_kp s h (pz_wr g r f) := by
  refine ⟨a.1, a.2.1, a.2.2.1, a.2.2.2.1, a.2.2.2.2.1, fun j l hl => ?_⟩
  by_cases e : j = r
  · subst e
    rw [hs] at hl; cases hl
  · rw [am_I_w1 _ _ _ e]; exact a.get j l hl
theorem pz_sI_wr (h : am_H) (r : Nat) (f : Nat → Int32) (k : Nat) (v : Int32) : am_sI (pz_wr h r f) r k v = pz_wr h r (fun b => if b = k then v else f b) := by
  unfold am_sI pz_wr am_row am_u
  simp only [Prod.mk.injEq, true_and, and_true]
  funext a b
  by_cases ha : a = r <;> simp [ha]
theorem pz_sI_w (h : am_H) (r k : Nat) (v : Int32) : am_sI h r k v = pz_wr h r (fun b => if b = k then v else am_I h r b) := by
  unfold am_sI pz_wr am_row am_u am_I
  rfl
theorem pz_wr_wr (h : am_H) (r : Nat) (f g : Nat → Int32) : pz_wr (pz_wr h r f) r g = pz_wr h r g := by
  unfold pz_wr am_row
  simp only [Prod.mk.injEq, true_and, and_true]
  funext a
  by_cases ha : a = r <;> simp [ha]
theorem pz_wr_id (h : am_H) (r : Nat) : pz_wr h r (am_I h r) = h := by
  obtain ⟨n, c, s, I, J, R⟩ := h
  unfold pz_wr am_row am_I
  simp only [Prod.mk.injEq, true_and, and_true]
  funext a
  by_cases ha : a = r
  · rw [if_pos ha, ha]
  · rw [if_neg ha]
/-- loops -/
theorem am_for {σ α : Type} (W : Nat → σ → α) (P : Nat → σ → Prop) (n : Nat) (hs : ∀ k s, k < n → P k s → ∃ s', W k s = W (k + 1) s' ∧ P (k + 1) s') : ∀ (d k : Nat) (s : σ), k + d = n → P k s → ∃ s', W k s = W n s' ∧ P n s'
  | 0, k, s, e, h => by
    have e : k = n := e
    subst e
    exact ⟨s, rfl, h⟩
  | d + 1, k, s, e, h => by
    obtain ⟨s1, e1, h1⟩ := hs k s (by omega) h
    obtain ⟨s2, e2, h2⟩ := am_for W P n hs d (k + 1) s1 (by omega) h1
    exact ⟨s2, e1.trans e2, h2⟩
theorem am_for0 {σ α : Type} (W : Nat → σ → α) (P : Nat → σ → Prop) (n : Nat) (s : σ) (h0 : P 0 s) (hs : ∀ k s, k < n → P k s → ∃ s', W k s = W (k + 1) s' ∧ P (k + 1) s') : ∃ s', W 0 s = W n s' ∧ P n s' := am_for W P n hs n 0 s (Nat.zero_add n) h0
/-- loops that may be left early -/
theorem am_forx {σ α : Type} (W : Nat → σ → α) (P : Nat → σ → Prop) (Q : α → Prop) (n : Nat) (hn : ∀ s, P n s → Q (W n s)) (hs : ∀ k s, k < n → P k s → (∃ s', W k s = W (k + 1) s' ∧ P (k + 1) s') ∨ Q (W k s)) : ∀ (d k : Nat) (s : σ), k + d = n → P k s → Q (W k s)
  | 0, k, s, e, h => by
    have e : k = n := e
    subst e
    exact hn s h
  | d + 1, k, s, e, h => by
    rcases hs k s (by omega) h with ⟨s1, e1, h1⟩ | hq
    · rw [e1]; exact am_forx W P Q n hn hs d (k + 1) s1 (by omega) h1
    · exact hq
theorem am_forx0 {σ α : Type} (W : Nat → σ → α) (P : Nat → σ → Prop) (Q : α → Prop) (n : Nat) (s : σ) (h0 : P 0 s) (hn : ∀ s, P n s → Q (W n s)) (hs : ∀ k s, k < n → P k s → (∃ s', W k s = W (k + 1) s' ∧ P (k + 1) s') ∨ Q (W k s)) : Q (W 0 s) := am_forx W P Q n hn hs n 0 s (Nat.zero_add n) h0
/-- loops that end by a measure -/
theorem am_while {σ α : Type} (W : σ → α) (P : σ → Prop) (μ : σ → Nat) (Q : α → Prop) (hs : ∀ s, P s → (∃ s', W s = W s' ∧ P s' ∧ μ s' < μ s) ∨ Q (W s)) : ∀ (n : Nat) (s : σ), μ s < n → P s → Q (W s)
  | 0, _, h, _ => absurd h (Nat.not_lt_zero _)
  | n + 1, s, h, hp => by
    rcases hs s hp with ⟨s1, e1, h1, hm⟩ | hq
    · rw [e1]; exact am_while W P μ Q hs n s1 (by omega) h1
    · exact hq
/-- folds -/
def am_it {α : Type} (f : Nat → α → α) : Nat → α → α
  | 0, a => a
  | n + 1, a => f n (am_it f n a)
theorem am_it_cong {α : Type} {f g : Nat → α → α} : ∀ {n : Nat}, (∀ k a, k < n → f k a = g k a) → ∀ a, am_it f n a = am_it g n a
  | 0, _, _ => rfl
  | n + 1, h, a => by rw [am_it, am_it, am_it_cong (fun k a hk => h k a (by omega)) a, h n _ (by omega)]
/-- numbers -/
theorem pz_lit (n : Nat) : (OfNat.ofNat n : Int32) = nI n := rfl
theorem pz_0 : (0 : Int32) = nI 0 := rfl
theorem pz_1 : (1 : Int32) = nI 1 := rfl
theorem pz_succ (n : Nat) : nI n + nI 1 = nI (n + 1) := nI_add n 1
theorem pz_and (a b : Nat) : nI a &&& nI b = nI (a &&& b) := by
  unfold nI
  apply Int32.toBitVec_inj.mp
  rw [Int32.toBitVec_and]
  simp only [Int32.toBitVec_ofNat']
  apply BitVec.eq_of_toNat_eq
  rw [BitVec.toNat_and, BitVec.toNat_ofNat, BitVec.toNat_ofNat, BitVec.toNat_ofNat, Nat.and_mod_two_pow]
theorem pz_or (a b : Nat) : nI a ||| nI b = nI (a ||| b) := by
  unfold nI
  apply Int32.toBitVec_inj.mp
  rw [Int32.toBitVec_or]
  simp only [Int32.toBitVec_ofNat']
  apply BitVec.eq_of_toNat_eq
  rw [BitVec.toNat_or, BitVec.toNat_ofNat, BitVec.toNat_ofNat, BitVec.toNat_ofNat, Nat.or_mod_two_pow]
theorem pz_xor (a b : Nat) : nI a ^^^ nI b = nI (a ^^^ b) := by
  unfold nI
  apply Int32.toBitVec_inj.mp
  rw [Int32.toBitVec_xor]
  simp only [Int32.toBitVec_ofNat']
  apply BitVec.eq_of_toNat_eq
  rw [BitVec.toNat_xor, BitVec.toNat_ofNat, BitVec.toNat_ofNat, BitVec.toNat_ofNat, Nat.xor_mod_two_pow]
theorem pz_sm : ∀ k, k < 32 → ((nI k &&& 31).toBitVec.smod 32).toNat = k := by decide
theorem pz_um : ∀ k, k < 32 → (((nI k).toUInt32 &&& Int32.toUInt32 31).toBitVec % 32).toNat = k := by decide
theorem pz_shl {n k : Nat} (hk : k < 32) (h : n * 2 ^ k < 2 ^ 32) : nI n <<< (nI k &&& 31) = nI (n * 2 ^ k) := pk_shlN _ k (pz_sm k hk) h
theorem pz_shr {n k : Nat} (hk : k < 32) (h : n < 2 ^ 31) : nI n >>> (nI k &&& 31) = nI (n / 2 ^ k) := pk_shrN h _ k (pz_sm k hk)
theorem pz_mod2 (n : Nat) : nI n &&& nI 1 = nI (n % 2) := by rw [pz_and, Nat.and_one_is_mod]
theorem pz_bit {n k : Nat} (hk : k < 31) (h : n < 2 ^ 31) : (nI n >>> (nI k &&& 31)) &&& nI 1 = nI (if n.testBit k then 1 else 0) := by
  rw [pz_shr (by omega) h, pz_mod2]
  congr 1
  rw [Nat.testBit_eq_decide_div_mod_eq]
  have := Nat.mod_two_eq_zero_or_one (n / 2 ^ k)
  rcases this with e | e <;> simp [e]
theorem pz_min {a b : Nat} (ha : a < 2 ^ 31) (hb : b < 2 ^ 31) : (if nI b < nI a then nI b else nI a) = nI (min a b) := by
  simp only [nI_ltI hb ha]
  by_cases h : b < a
  · rw [if_pos h, Nat.min_eq_right (by omega)]
  · rw [if_neg h, Nat.min_eq_left (by omega)]
theorem pz_max {a b : Nat} (ha : a < 2 ^ 31) (hb : b < 2 ^ 31) : (if nI a < nI b then nI b else nI a) = nI (max a b) := by
  simp only [nI_ltI ha hb]
  by_cases h : a < b
  · rw [if_pos h, Nat.max_eq_right (by omega)]
  · rw [if_neg h, Nat.max_eq_left (by omega)]
theorem pz_neg1 {n : Nat} (h : n < 2 ^ 31) : nI n ≠ (-1 : Int32) := by
  intro e
  have h1 := congrArg Int32.toInt e
  rw [nI_toInt h] at h1
  have h2 : (-1 : Int32).toInt = -1 := by decide
  rw [h2] at h1
  omega
theorem pz_ib (b : Bool) : nI (if b then 1 else 0) &&& 1 = nI (if b then 1 else 0) := by cases b <;> rfl
/-- arrays of ints -/
theorem pz_nb {r n : Nat} (h : r ≠ n) : Nat.beq r n = false := by
  cases hb : Nat.beq r n with
  | false => rfl
  | true => exact absurd (Nat.eq_of_beq_eq_true hb) h
theorem pz_bl {r n : Nat} (h : r < n) : Nat.blt r n = true := Nat.ble_eq_true_of_le h
theorem pz_bn {r n : Nat} (h : n ≤ r) : Nat.blt r n = false := by
  cases hb : Nat.blt r n with
  | false => rfl
  | true => exact absurd (Nat.le_of_ble_eq_true hb) (by omega)
theorem am_ch_ok {α : Type} {r c n : Nat} (ht : am_ty r = (c, n)) (hr : r < 100) (a : Option α) : am_ch 100 r c a = a := by
  unfold am_ch
  rw [ht, pz_bl hr]
  show (match Nat.beq c c with | true => a | false => none) = a
  rw [show Nat.beq c c = true from Nat.beq_refl c]
theorem am_al_ok {α : Type} {r n : Nat} (ht : am_ty r = (16, n)) (hr : r < 100) (h : am_H) (f : Int32 → Option α) : am_al 100 r h f = f (nI n) := by
  unfold am_al
  rw [pz_nb (show r ≠ 2000 by omega), pz_bn (show r ≤ 1099 by omega), pz_bl hr, ht]
  rfl
theorem am_bd_ok {α : Type} {k n : Nat} (hk : k < n) (hn : n < 2 ^ 31) (a : Option α) : am_bd (nI k) n a = a := if_neg (nI_in hk hn)
theorem am_il_ok {α : Type} {r n k : Nat} (ht : am_ty r = (16, n)) (hr : r < 100) (hk : k < n) (hn : n < 2 ^ 31) (h : am_H) (f : Int32 → Option α) : am_il 100 r (nI k) h f = f (am_I h r k) := by
  unfold am_il
  rw [pz_nb (show r ≠ 2000 by omega), am_ch_ok ht hr, ht, am_bd_ok hk hn, nI_clamp (by omega)]
  rfl
theorem am_is_ok {α : Type} {r n k : Nat} (ht : am_ty r = (16, n)) (hr : r < 100) (hk : k < n) (hn : n < 2 ^ 31) (v : Int32) (h : am_H) (f : am_H → Option α) : am_is 100 r 16 (nI k) v h f = f (am_sI h r k v) := by
  unfold am_is
  rw [am_ch_ok ht hr, ht, am_bd_ok hk hn, nI_clamp (by omega)]
/-- at, put: any index -/
def am_atv (n : Nat) (f : Nat → Int32) (a : Int32) : Int32 := if a < 0 then nI 0 else if nI n ≤ a then nI 0 else f a.toNatClampNeg
theorem at_any {r n : Nat} (ht : am_ty r = (16, n)) (hr : r < 100) (hn : n < 2 ^ 31) (a : Int32) (h : am_H) : am_run am_M 66 [.ref r, .int a] h = some (.inl (some (.int (am_atv n (am_I h r) a))), h) := by
  rw [e66, am_al_ok ht hr]
  unfold am_atv
  by_cases h0 : a < 0
  · rw [if_pos h0, if_pos h0]
  · rw [if_neg h0, if_neg h0]
    by_cases h1 : nI n ≤ a
    · rw [if_pos h1, if_pos h1]
    · rw [if_neg h1, if_neg h1]
      obtain ⟨j, hj, rfl⟩ := nI_of h0
      rw [nI_leI hn hj] at h1
      rw [am_il_ok ht hr (by omega) hn, nI_clamp hj]
theorem at_ok {r n k : Nat} (ht : am_ty r = (16, n)) (hr : r < 100) (hn : n < 2 ^ 31) (hk : k < n) (h : am_H) : am_run am_M 66 [.ref r, .int (nI k)] h = some (.inl (some (.int (am_I h r k))), h) := by
  rw [at_any ht hr hn]
  unfold am_atv
  rw [if_neg (nI_pos (by omega)), if_neg (nI_ge hk hn), nI_clamp (by omega)]
theorem put_ok {r n k : Nat} (ht : am_ty r = (16, n)) (hr : r < 100) (hn : n < 2 ^ 31) (hk : k < n) (v : Int32) (h : am_H) : am_run am_M 67 [.ref r, .int (nI k), .int v] h = some (.inl none, am_sI h r k v) := by
  rw [e67, if_neg (nI_pos (by omega)), am_al_ok ht hr, if_neg (nI_ge hk hn), am_is_ok ht hr hk hn]
theorem put_no {r n : Nat} (ht : am_ty r = (16, n)) (hr : r < 100) {a : Int32} (ha : a < 0 ∨ nI n ≤ a) (v : Int32) (h : am_H) : am_run am_M 67 [.ref r, .int a, .int v] h = some (.inl none, h) := by
  rw [e67, am_al_ok ht hr]
  by_cases h0 : a < 0
  · rw [if_pos h0]
  · rw [if_neg h0, if_pos (ha.resolve_left h0)]
theorem fill_ok {r n m : Nat} (ht : am_ty r = (16, n)) (hr : r < 100) (hn : n < 2 ^ 31) (hm : m ≤ n) (v : Int32) (h : am_H) : am_run am_M 68 [.ref r, .int (nI m), .int v] h = some (.inl none, pz_wr h r (fun b => if b < m then v else am_I h r b)) := by
  rw [e68]
  obtain ⟨s, e, hp⟩ := am_for0 (fun k (g : am_H) => am_vn am_M 0 68 2 [some (.ref r), some (.int (nI m)), some (.int v), some (.int (nI k))] [] g)
    (fun k g => g = pz_wr h r (fun b => if b < k then v else am_I h r b)) m h (by
      show h = _
      simp only [Nat.not_lt_zero, if_false]
      exact (pz_wr_id h r).symm) (fun k g hk hg => by
      refine ⟨pz_wr h r (fun b => if b < k + 1 then v else am_I h r b), ?_, rfl⟩
      show am_vn am_M 0 68 2 [some (.ref r), some (.int (nI m)), some (.int v), some (.int (nI k))] [] g = _
      rw [e68_2, if_neg (nI_ge hk (by omega)), am_al_ok ht hr, if_neg (nI_ge (show k < n by omega) hn), am_is_ok ht hr (by omega) hn, pz_succ, hg, pz_sI_wr]
      congr 2
      funext b
      by_cases hb : b = k
      · rw [if_pos hb, if_pos (by omega)]
      · rw [if_neg hb]
        by_cases hb2 : b < k
        · rw [if_pos hb2, if_pos (by omega)]
        · rw [if_neg hb2, if_neg (by omega)])
  show am_vn am_M 0 68 2 [some (.ref r), some (.int (nI m)), some (.int v), some (.int (nI 0))] [] h = _
  rw [e, hp, e68_2, if_pos (nI_le (Nat.le_refl m) (by omega))]
theorem copyRow_ok {r n q m a b c : Nat} (hr1 : am_ty r = (16, n)) (hr : r < 100) (hn : n < 2 ^ 31) (hq1 : am_ty q = (16, m)) (hq : q < 100) (hm : m < 2 ^ 31) (hrq : r ≠ q) (ha : a + c ≤ n) (hb : b + c ≤ m) (h : am_H) :
    am_run am_M 69 [.ref r, .int (nI a), .ref q, .int (nI b), .int (nI c)] h = some (.inl none, pz_wr h q (fun j => if b ≤ j ∧ j < b + c then am_I h r (a + (j - b)) else am_I h q j)) := by
  rw [e69]
  obtain ⟨s, e, hp⟩ := am_for0 (fun k (g : am_H) => am_vn am_M 1 69 3 [some (.ref r), some (.int (nI a)), some (.ref q), some (.int (nI b)), some (.int (nI c)), some (.int (nI k))] [] g)
    (fun k g => g = pz_wr h q (fun j => if b ≤ j ∧ j < b + k then am_I h r (a + (j - b)) else am_I h q j)) c h (by
      show h = _
      have : (fun j => if b ≤ j ∧ j < b + 0 then am_I h r (a + (j - b)) else am_I h q j) = am_I h q := by
        funext j
        rw [if_neg (by omega)]
      rw [this]
      exact (pz_wr_id h q).symm) (fun k g hk hg => by
      refine ⟨pz_wr h q (fun j => if b ≤ j ∧ j < b + (k + 1) then am_I h r (a + (j - b)) else am_I h q j), ?_, rfl⟩
      show am_vn am_M 1 69 3 [some (.ref r), some (.int (nI a)), some (.ref q), some (.int (nI b)), some (.int (nI c)), some (.int (nI k))] [] g = _
      rw [e69_3, if_neg (nI_ge hk (by omega)), nI_add, nI_add, at_ok hr1 hr hn (show a + k < n by omega), am_bI_ok, put_ok hq1 hq hm (show b + k < m by omega), am_bV_ok, pz_succ, hg, pz_sI_wr, am_I_w1 _ _ _ hrq]
      congr 2
      funext j
      by_cases hj : j = b + k
      · rw [if_pos hj, if_pos (by omega), hj, show b + k - b = k by omega]
      · rw [if_neg hj]
        by_cases hj2 : b ≤ j ∧ j < b + k
        · rw [if_pos hj2, if_pos (by omega)]
        · rw [if_neg hj2, if_neg (by omega)])
  show am_vn am_M 1 69 3 [some (.ref r), some (.int (nI a)), some (.ref q), some (.int (nI b)), some (.int (nI c)), some (.int (nI 0))] [] h = _
  rw [e, hp, e69_3, if_pos (nI_le (Nat.le_refl c) (by omega))]
