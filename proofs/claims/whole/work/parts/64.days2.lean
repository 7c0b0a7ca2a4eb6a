/-! DAYS AHEAD: fair rents, bits, draws -/
def pf_bad (d : pw_L) (u : Nat) (S : Nat → Nat) (k : Nat) : Bool := decide (py_tn d u 1000 S k ≠ 0) || py_owe (py_days d u 1000 S (k + 1)) S
def pf_ok (d : pw_L) (S : Nat → Nat) (n u : Nat) : Bool := decide (py_et d u 1000 S n = 0) && !py_owe (py_days d u 1000 S n) S
theorem py_et_0 {d : pw_L} {u q : Nat} {S : Nat → Nat} : ∀ {n : Nat}, py_et d u q S n = 0 ↔ ∀ k, k < n → py_tn d u q S k = 0
  | 0 => ⟨fun _ _ h => absurd h (Nat.not_lt_zero _), fun _ => rfl⟩
  | n + 1 => by
    have ih := py_et_0 (d := d) (u := u) (q := q) (S := S) (n := n)
    rw [py_et, Nat.or_eq_zero_iff, ih]
    exact ⟨fun h k hk => if e : k = n then by subst e; exact h.2 else h.1 k (by omega), fun h => ⟨fun k hk => h k (by omega), h n (by omega)⟩⟩
theorem py_owe_self (S : Nat → Nat) : py_owe S S = false := py_owe_f fun p _ => Nat.lt_irrefl _
theorem py_owe_mono {S T U : Nat → Nat} (h : ∀ p, p < 6 → T (13 + p) ≤ U (13 + p)) (e : py_owe U S = false) : py_owe T S = false := by
  refine py_owe_f fun p hp c => ?_
  have := h p hp
  rw [py_owe_t hp (show S (13 + p) < U (13 + p) by omega)] at e
  cases e
theorem py_days_mono {d : pw_L} (ho : pw_ok d) (u q : Nat) {S : Nat → Nat} (h : pw_S S) {m : Nat} : ∀ {n : Nat}, m ≤ n → ∀ p, p < 6 → py_days d u q S m (13 + p) ≤ py_days d u q S n (13 + p)
  | 0, hm, p, _ => by rw [show m = 0 by omega]; exact Nat.le_refl _
  | n + 1, hm, p, hp => by
    by_cases e : m = n + 1
    · subst e; exact Nat.le_refl _
    · have := py_days_mono ho u q h (m := m) (n := n) (by omega) p hp
      exact Nat.le_trans this ((py_S_owe ho (pw_sn d (py_days d u q S n 0)) u q (py_days_T ho u q h n).1).2 p hp)
theorem pf_eq {d : pw_L} (ho : pw_ok d) {u n : Nat} {S : Nat → Nat} (h : pw_S S) : pf_ok d S n u = decide (pz_fst (pf_bad d u S) n = n) := by
  unfold pf_ok
  by_cases c : ∃ k, k < n ∧ pf_bad d u S k = true
  · obtain ⟨k, hk, hb, hl⟩ : ∃ k, k < n ∧ pf_bad d u S k = true ∧ ∀ j, j < k → pf_bad d u S j = false := by
      obtain ⟨k, ⟨hk, hb⟩, hl⟩ := pk_least (fun k => k < n ∧ pf_bad d u S k = true) c
      refine ⟨k, hk, hb, fun j hj => ?_⟩
      have := hl j hj
      cases e : pf_bad d u S j with
      | false => rfl
      | true => exact absurd ⟨by omega, e⟩ this
    rw [pz_fst_eq hk hl hb, decide_eq_false (show ¬ k = n by omega)]
    unfold pf_bad at hb
    rw [Bool.or_eq_true, decide_eq_true_iff] at hb
    rcases hb with hb | hb
    · rw [decide_eq_false (fun e => hb (py_et_0.mp e k hk))]; rfl
    · have : py_owe (py_days d u 1000 S n) S = true := by
        cases e : py_owe (py_days d u 1000 S n) S with
        | true => rfl
        | false =>
          rw [py_owe_mono (py_days_mono ho u 1000 h (show k + 1 ≤ n by omega)) e] at hb
          cases hb
      rw [this, Bool.not_true, Bool.and_false]
  · have hn : ∀ k, k < n → pf_bad d u S k = false := fun k hk => by
      cases e : pf_bad d u S k with
      | false => rfl
      | true => exact absurd ⟨k, hk, e⟩ c
    rw [pz_fst_no hn, decide_eq_true rfl]
    have h1 : py_et d u 1000 S n = 0 := py_et_0.mpr fun k hk => by
      have := hn k hk
      unfold pf_bad at this
      rw [Bool.or_eq_false_iff, decide_eq_false_iff_not, Classical.not_not] at this
      exact this.1
    have h2 : py_owe (py_days d u 1000 S n) S = false := by
      match n, hn with
      | 0, _ => exact py_owe_self S
      | n + 1, hn =>
        have := hn n (by omega)
        unfold pf_bad at this
        rw [Bool.or_eq_false_iff] at this
        exact this.2
    rw [h1, h2]; rfl
/-- the model's search from above -/
def pf_down (f : Nat → Bool) : Nat → Nat
  | 0 => 1000
  | k + 1 => if f (20 - k) then 20 - k else pf_down f k
theorem pf_down_eq (f : Nat → Bool) : pn_o (pf_down f 21) 20 = pn_o (pz_fst f 21) 20 := by
  have key : ∀ k, k ≤ 21 → (pf_down f k = 1000 ∧ ∀ j, 21 - k ≤ j → j ≤ 20 → f j = false) ∨ (21 - k ≤ pf_down f k ∧ pf_down f k ≤ 20 ∧ f (pf_down f k) = true ∧ ∀ j, 21 - k ≤ j → j < pf_down f k → f j = false) := by
    intro k
    induction k with
    | zero => intro _; exact Or.inl ⟨rfl, fun j h1 h2 => by omega⟩
    | succ k ih =>
      intro hk
      have ih := ih (by omega)
      rw [pf_down]
      cases c : f (20 - k) with
      | true => rw [if_pos rfl]; exact Or.inr ⟨by omega, by omega, c, fun j h1 h2 => by omega⟩
      | false =>
        rw [if_neg (by decide)]
        rcases ih with ⟨a, b⟩ | ⟨a, b, e, g⟩
        · refine Or.inl ⟨a, fun j h1 h2 => ?_⟩
          by_cases ej : j = 20 - k
          · subst ej; exact c
          · exact b j (by omega) h2
        · refine Or.inr ⟨by omega, b, e, fun j h1 h2 => ?_⟩
          by_cases ej : j = 20 - k
          · subst ej; exact c
          · exact g j (by omega) h2
  rcases key 21 (by omega) with ⟨a, b⟩ | ⟨a, b, e, g⟩
  · rw [a, pz_fst_no (fun j hj => b j (by omega) (by omega))]; rfl
  · rw [pz_fst_eq (k := pf_down f 21) (by omega) (fun j hj => g j (by omega) hj) e]
/-- the lowest bit -/
def pz_low (b : Nat) : Nat := pz_fst (fun i => b.testBit i) 8
theorem pz_low_n {b : Nat} (h0 : 0 < b) (hb : b < 256) (m : Nat) (hm : 8 ≤ m) : pz_fst (fun i => b.testBit i) m = pz_low b ∧ pz_low b < 8 := by
  have hex : ∃ i, b.testBit i = true := Nat.exists_testBit_of_ne_zero (by omega)
  obtain ⟨k, hk, hl⟩ := pk_least _ hex
  have hk8 : k < 8 := by
    rcases Nat.lt_or_ge k 8 with c | c
    · exact c
    · rw [Nat.testBit_lt_two_pow (Nat.lt_of_lt_of_le hb (Nat.pow_le_pow_right (n := 2) (by omega) c))] at hk
      cases hk
  have hl' : ∀ j, j < k → b.testBit j = false := fun j hj => by
    have := hl j hj
    cases e : b.testBit j with
    | false => rfl
    | true => exact absurd e this
  have e1 : pz_low b = k := pz_fst_eq hk8 hl' hk
  exact ⟨by rw [e1]; exact pz_fst_eq (by omega) hl' hk, by omega⟩
theorem pz_bit2 {n k : Nat} (hk : k < 32) (h : n < 2 ^ 31) : (nI n >>> (nI k &&& 31)) &&& nI 1 = nI (if n.testBit k then 1 else 0) := by
  rw [pz_shr hk h, pz_mod2]
  congr 1
  rw [Nat.testBit_eq_decide_div_mod_eq]
  have := Nat.mod_two_eq_zero_or_one (n / 2 ^ k)
  rcases this with e | e <;> simp [e]
theorem s52 {h : am_H} {b : Nat} (h0 : 0 < b) (hb : b < 256) : am_run am_M 52 [.int (nI b)] h = some (.inl (some (.int (nI (pz_low b)))), h) := by
  rw [e52, ← (pz_low_n h0 hb 32 (by omega)).1]
  have hlow := pz_low_n h0 hb 32 (by omega)
  refine pz_forf (fun k (_ : Unit) => am_vn am_M 0 52 2 [some (.int (nI b)), some (.int (nI k))] [] h) (fun _ _ => True) (fun i => b.testBit i) 32 (fun v o => v = pz_fst (fun i => b.testBit i) 32 → o = some (.inl (some (.int (nI v))), h)) () trivial (fun _ _ => ?_) (fun k _ hk _ => ⟨fun hf => ⟨(), ?_, trivial⟩, fun hf _ => ?_⟩) rfl
  · intro e
    rw [hlow.1] at e
    omega
  · rw [e52_2, if_neg (nI_ge hk (by omega)), pz_bit2 hk (by omega), hf, if_neg (by decide), pz_succ]
  · rw [e52_2, if_neg (nI_ge hk (by omega)), pz_bit2 hk (by omega), hf, if_pos (by decide)]
theorem s277 {h : am_H} {b : Nat} (h0 : 0 < b) (hb : b < 256) : am_run am_M 277 [.ref 60, .int (nI b)] h = some (.inl (some (.int (nI (pz_low b)))), h) := by
  rw [e277]
  have hlow := pz_low_n h0 hb 8 (by omega)
  refine pz_forf (fun k (_ : Unit) => am_vn am_M 0 277 2 [none, some (.int (nI b)), some (.int (nI k))] [] h) (fun _ _ => True) (fun i => b.testBit i) 8 (fun v o => v = pz_fst (fun i => b.testBit i) 8 → o = some (.inl (some (.int (nI v))), h)) () trivial (fun _ _ => ?_) (fun k _ hk _ => ⟨fun hf => ⟨(), ?_, trivial⟩, fun hf _ => ?_⟩) rfl
  · intro e
    rw [hlow.1] at e
    omega
  · rw [e277_2, if_neg (nI_ge hk (by omega)), pz_bit (by omega) (by omega), hf, if_neg (by decide), pz_succ]
  · rw [e277_2, if_neg (nI_ge hk (by omega)), pz_bit (by omega) (by omega), hf, if_pos (by decide)]
theorem pz_m255 {t c : Nat} (hc : c < 64) : nI (256 * t + c) &&& nI 255 = nI c := by
  rw [pz_and, show 255 = 2 ^ 8 - 1 from rfl, Nat.and_two_pow_sub_one_eq_mod]
  congr 1
  omega
theorem pz_m3840_ : ∀ t, t < 16 → ∀ c, c < 64 → (256 * t + c) &&& 3840 = 256 * t := by decide +kernel
theorem pz_m3840 {t c : Nat} (ht : t < 16) (hc : c < 64) : nI (256 * t + c) &&& nI 3840 = nI (256 * t) := by
  rw [pz_and, pz_m3840_ t ht c hc]
/-- a model's fair rent -/
theorem s267 {h : am_H} {d : pw_L} {S : Nat → Nat} {n u : Nat} {w : pw_W} (hwd : w.1 = d) (hwS : w.2.1 = S) (hm : pI_m (am_sI h 60 62 (-1)) w) (hw : pw_wf w) (hu : am_I h 60 62 = pn_o u 20) (hn : n < 100) :
    am_RI (am_run am_M 267 [.ref 60, .int (nI n)] h) (fun v g => v = nI (if pf_ok d S n u then 1 else 0) ∧ am_kp ps_N h g) := by
  obtain ⟨d, S, l, t, im, tp, nb, fp, rf⟩ := w
  subst hwd hwS
  obtain ⟨ho, hS, -⟩ := hw
  obtain ⟨m1, m2, m3, m4, m5, m6, m7, m8, m9, m10, m11, m12⟩ := hm
  have h4 := ho.1.1
  have hd9 := hS.2.1
  replace m1 : pm_L h d := m1.fr (fun k h1 h2 => (am_I_s2 _ _ _ _ (by omega)).symm) (fun i h1 h2 => (am_I_s1 _ _ _ _ (by omega)).symm)
  replace m2 : pm_S h 85 0 S := m2.fr (am_I_s1 _ _ _ _ (by omega)).symm
  rw [am_I_s2 _ _ _ _ (by omega)] at m10 m12
  obtain ⟨g1, e1, y1, k1⟩ := s231 (u := u) (q := 1000) m2 m1 hS.2.2 ho hu m12
  have b1 : pm_B g1 d S 0 u 1000 := ⟨m1.kp k1 (fun i k hi => decide_eq_false (by omega)), y1, by rw [k1.get 60 61 (by decide)]; exact m10, m2.kp k1 fun k => by decide⟩
  have k1N : am_kp ps_N h g1 := k1.up fun i k => ps_bN
  show am_RI _ (fun v g => v = nI (if pf_ok d S n u then 1 else 0) ∧ am_kp ps_N h g)
  rw [e267, e1, am_bV_ok, pf_eq ho hS.1]
  refine pz_forf (fun k g => am_vn am_M 5 267 6 [some (.ref 60), some (.int (nI n)), some (.int (nI k))] [] g) (fun k g => pm_B g d S k u 1000 ∧ am_kp ps_N h g) (pf_bad d u S) n (fun v o => am_RI o (fun u g => u = nI (if decide (v = n) then 1 else 0) ∧ am_kp ps_N h g)) g1 ⟨b1, k1N⟩ (fun g hg => ?_) (fun k g hk hg => ?_)
  · rw [e267_6, if_pos (nI_le (Nat.le_refl _) (by omega)), if_pos (by decide), decide_eq_true rfl]
    exact ⟨_, _, rfl, rfl, hg.2⟩
  · obtain ⟨b, kp⟩ := hg
    obtain ⟨v, g2, e2, hv, b2, -, kp2⟩ := s230n ho b hS.1 (by omega)
    have kk := kp.trans (kp2.up fun i k => ps_dN)
    have hT1 := py_days_T ho u 1000 hS.1 (k + 1)
    have cl := py_cold_lt ho (pw_sn d (py_days d u 1000 S k 0)) u 1000 (py_days d u 1000 S k)
    have tl := py_thin_lt ho (pw_sn d (py_days d u 1000 S k 0)) u 1000 (py_days d u 1000 S k)
    have hc : py_cd d u 1000 S k = py_cold d (pw_sn d (py_days d u 1000 S k 0)) u 1000 (py_days d u 1000 S k) := rfl
    have htn : py_tn d u 1000 S k = py_thin d (pw_sn d (py_days d u 1000 S k 0)) u 1000 (py_days d u 1000 S k) := rfl
    rw [← hc] at cl
    rw [← htn] at tl
    have ow := s265 ho b2.1 b2.2.1.1 b2.2.2.2 (fun p hp => ⟨(hT1.1.1 p hp).2.2.1, (hS.1.1 p hp).2.2.1⟩) (py_days_owe ho u 1000 hS.1 (k + 1)).1
    have ex := e267_6 (nI n) (nI k) g
    rw [if_neg (nI_ge hk (by omega)), e2, am_bI_ok, hv] at ex
    unfold pf_bad
    constructor
    · intro hf
      rw [Bool.or_eq_false_iff, decide_eq_false_iff_not, Classical.not_not] at hf
      rw [hf.1, if_neg (nI_ge (by omega) (by omega)), ow, am_bI_ok, hf.2, if_pos (by decide), pz_succ] at ex
      exact ⟨g2, ex, b2, kk⟩
    · intro hf
      rw [ex, decide_eq_false (show ¬ k = n by omega)]
      by_cases f0 : py_tn d u 1000 S k = 0
      · have f3 : py_owe (py_days d u 1000 S (k + 1)) S = true := by
          rw [f0] at hf; simpa using hf
        rw [f0, if_neg (nI_ge (by omega) (by omega)), ow, am_bI_ok, f3, if_neg (by decide), if_pos (by decide)]
        exact ⟨_, _, rfl, rfl, kk⟩
      · rw [if_pos (nI_le (by omega) (by omega)), if_pos (by decide)]
        exact ⟨_, _, rfl, rfl, kk⟩
/-- a model's thin packs -/
theorem s269 {h : am_H} {d : pw_L} {S : Nat → Nat} {n q : Nat} {w : pw_W} (hwd : w.1 = d) (hwS : w.2.1 = S) (hm : pI_m (am_sI h 60 63 (-1)) w) (hw : pw_wf w) (hq : am_I h 60 63 = pn_o q 5) (hn : n < 100) :
    am_RI (am_run am_M 269 [.ref 60, .int (nI n)] h) (fun v g => v = nI (py_et d 1000 q S n) ∧ am_kp ps_N h g) := by
  obtain ⟨d, S, l, t, im, tp, nb, fp, rf⟩ := w
  subst hwd hwS
  obtain ⟨ho, hS, -⟩ := hw
  obtain ⟨m1, m2, m3, m4, m5, m6, m7, m8, m9, m10, m11, m12⟩ := hm
  have h4 := ho.1.1
  have hd9 := hS.2.1
  replace m1 : pm_L h d := m1.fr (fun k h1 h2 => (am_I_s2 _ _ _ _ (by omega)).symm) (fun i h1 h2 => (am_I_s1 _ _ _ _ (by omega)).symm)
  replace m2 : pm_S h 85 0 S := m2.fr (am_I_s1 _ _ _ _ (by omega)).symm
  rw [am_I_s2 _ _ _ _ (by omega)] at m10 m11
  obtain ⟨g1, e1, y1, k1⟩ := s231 (u := 1000) (q := q) m2 m1 hS.2.2 ho m11 hq
  have b1 : pm_B g1 d S 0 1000 q := ⟨m1.kp k1 (fun i k hi => decide_eq_false (by omega)), y1, by rw [k1.get 60 61 (by decide)]; exact m10, m2.kp k1 fun k => by decide⟩
  have k1N : am_kp ps_N h g1 := k1.up fun i k => ps_bN
  show am_RI _ (fun v g => v = nI (py_et d 1000 q S n) ∧ am_kp ps_N h g)
  rw [e269, e1, am_bV_ok]
  obtain ⟨g, e, hp⟩ := am_for0 (fun k g => am_vn am_M 5 269 8 [some (.ref 60), some (.int (nI n)), some (.int (nI (py_et d 1000 q S k))), some (.int (nI k))] [] g) (fun k g => pm_B g d S k 1000 q ∧ am_kp ps_N h g) n g1 ⟨b1, k1N⟩ (fun k g hk hg => by
    obtain ⟨b, kp⟩ := hg
    obtain ⟨v, g2, e2, hv, b2, -, kp2⟩ := s230n ho b hS.1 (by omega)
    have kk := kp.trans (kp2.up fun i k => ps_dN)
    have cl : py_cd d 1000 q S k < 64 := py_cold_lt ho _ _ _ _
    have tl : py_tn d 1000 q S k < 16 := py_thin_lt ho _ _ _ _
    rw [e269_8, if_neg (nI_ge hk (by omega)), e2, am_bI_ok, hv, pz_shr (by omega) (by omega), show (256 * py_tn d 1000 q S k + py_cd d 1000 q S k) / 2 ^ 8 = py_tn d 1000 q S k by omega, pz_or, pz_succ]
    exact ⟨g2, rfl, b2, kk⟩)
  refine Eq.mpr (congrArg (fun o => am_RI o _) e) ?_
  rw [e269_8, if_pos (nI_le (Nat.le_refl _) (by omega))]
  exact ⟨_, _, rfl, rfl, hp.2⟩
