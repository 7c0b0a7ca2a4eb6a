/-! DAYS AHEAD: what both sides count -/
/-- what a model's season writes -/
def ps_N (i k : Nat) : Bool := decide (i = 86 ∨ i = 88 ∨ i = 89 ∨ i = 90 ∨ i = 60 ∧ (k = 68 ∨ k = 69))
theorem ps_N_t {i k : Nat} (h : i = 86 ∨ i = 88 ∨ i = 89 ∨ i = 90 ∨ i = 60 ∧ (k = 68 ∨ k = 69)) : ps_N i k = true := decide_eq_true h
theorem ps_N_f {i k : Nat} (h : ¬ (i = 86 ∨ i = 88 ∨ i = 89 ∨ i = 90 ∨ i = 60 ∧ (k = 68 ∨ k = 69))) : ps_N i k = false := decide_eq_false h
theorem ps_NM {i k : Nat} (h : ps_M i k = false) : ps_N i k = false := by
  have := of_decide_eq_false h
  exact ps_N_f (by omega)
theorem ps_dN {i k : Nat} (h : ps_N i k = false) : ps_d 86 i k = false := by
  have := of_decide_eq_false h
  exact ps_d_f (by omega)
theorem ps_bN {i k : Nat} (h : ps_N i k = false) : (fun i _ => decide (i = 86 ∨ i = 90) : Nat → Nat → Bool) i k = false := by
  have := of_decide_eq_false h
  exact decide_eq_false (by omega)
theorem am_fin_N {w : pw_W} {h g g' : am_H} {u v : Int32} (hf : am_fm h g) (hm : pI_m g w) (ht : am_I g 60 0 = nI 0) (k : am_kp ps_N g g') (hv : u = v) : (0 = 0 → u = v) ∧ am_I g' 60 0 = nI 0 ∧ pI_m g' w ∧ am_fm h g' :=
  am_fin_m hf hm (k.up fun i k => ps_NM) ((k.get 60 0 (ps_N_f (by omega))).trans ht) (fun _ => hv)
theorem m_loop {h : am_H} {d : pw_L} {S : Nat → Nat} {u q n : Nat} (W : Nat → am_H → Option am_Q) (ho : pw_ok d) (hB : pm_B h d S 0 u q) (hb : pw_S S) (h0 : S 0 + n < 9000) (hs : ∀ k g, k < n → W k g = am_bI [] (am_run am_M 230 [.ref 60, .ref 86] g) (fun _ g' => W (k + 1) g')) :
    ∃ g, W 0 h = W n g ∧ pm_B g d S n u q ∧ am_kp ps_N h g ∧ ∀ G, am_I h 60 69 = nI G → am_I g 60 69 = nI (G + py_ga d u q S n) := by
  obtain ⟨g, e, hp⟩ := am_for0 W (fun k g => pm_B g d S k u q ∧ am_kp ps_N h g ∧ ∀ G, am_I h 60 69 = nI G → am_I g 60 69 = nI (G + py_ga d u q S k)) n h ⟨hB, am_kp.refl _ _, fun G hG => hG⟩ (fun k g hk hg => by
    obtain ⟨b, kp, hG⟩ := hg
    obtain ⟨v, g', e', -, b', hG', kp'⟩ := s230n ho b hb (by omega)
    refine ⟨g', by rw [hs k g hk, e', am_bI_ok], b', kp.trans (kp'.up fun i k => ps_dN), fun G h1 => ?_⟩
    rw [hG' _ (hG G h1), Nat.add_assoc]; rfl)
  exact ⟨g, e, hp⟩
/-- the first that holds -/
def pz_fst (f : Nat → Bool) : Nat → Nat
  | 0 => 0
  | n + 1 => if pz_fst f n < n then pz_fst f n else if f n then n else n + 1
theorem pz_fst_no {f : Nat → Bool} : ∀ {n : Nat}, (∀ j, j < n → f j = false) → pz_fst f n = n
  | 0, _ => rfl
  | n + 1, h => by
    rw [pz_fst, pz_fst_no (fun j hj => h j (by omega)), if_neg (by omega), h n (by omega)]; rfl
theorem pz_fst_eq {f : Nat → Bool} {k : Nat} : ∀ {n : Nat}, k < n → (∀ j, j < k → f j = false) → f k = true → pz_fst f n = k
  | 0, hk, _, _ => absurd hk (Nat.not_lt_zero k)
  | n + 1, hk, h, h1 => by
    rw [pz_fst]
    by_cases c : k < n
    · rw [pz_fst_eq c h h1, if_pos c]
    · have e : k = n := by omega
      subst e
      rw [pz_fst_no h, if_neg (by omega), h1]; rfl
/-- a loop for the first: both sides -/
theorem pz_forf {σ : Type} (W : Nat → σ → Option am_Q) (P : Nat → σ → Prop) (f : Nat → Bool) (n : Nat) (Q : Nat → Option am_Q → Prop) (s : σ) (h0 : P 0 s) (hn : ∀ s, P n s → Q n (W n s))
    (hs : ∀ k s, k < n → P k s → (f k = false → ∃ s', W k s = W (k + 1) s' ∧ P (k + 1) s') ∧ (f k = true → Q k (W k s))) : Q (pz_fst f n) (W 0 s) := by
  refine am_forx0 W (fun k s => P k s ∧ ∀ j, j < k → f j = false) (Q (pz_fst f n)) n s ⟨h0, fun j hj => absurd hj (Nat.not_lt_zero j)⟩ (fun s hP => ?_) (fun k s hk hP => ?_)
  · rw [pz_fst_no hP.2]; exact hn s hP.1
  · have := hs k s hk hP.1
    cases c : f k with
    | false =>
      obtain ⟨s', e, p⟩ := this.1 c
      refine Or.inl ⟨s', e, p, fun j hj => ?_⟩
      by_cases e : j = k
      · subst e; exact c
      · exact hP.2 j (by omega)
    | true =>
      refine Or.inr ?_
      rw [pz_fst_eq hk hP.2 c]
      exact this.2 c
/-- who is no person owes as before; nobody owes less -/
theorem py_S_owe {d : pw_L} (ho : pw_ok d) (sn u q : Nat) {S : Nat → Nat} (h : pw_S S) : (∀ p, pw_n d 3 ≤ p → p < 6 → py_S d sn u q S (13 + p) = S (13 + p)) ∧ ∀ p, p < 6 → S (13 + p) ≤ py_S d sn u q S (13 + p) := by
  have h6 := ho.1.2.2.2.1
  have h4 := ho.1.1
  have hA : pw_T (S 0) (py_A d sn u q S).1 ∧ (∀ p, pw_n d 3 ≤ p → p < 6 → (py_A d sn u q S).1 (13 + p) = S (13 + p)) ∧ ∀ p, p < 6 → S (13 + p) ≤ (py_A d sn u q S).1 (13 + p) := by
    refine am_it_ind (fun _ (X : (Nat → Nat) × Nat) => pw_T (S 0) X.1 ∧ (∀ p, pw_n d 3 ≤ p → p < 6 → X.1 (13 + p) = S (13 + p)) ∧ ∀ p, p < 6 → S (13 + p) ≤ X.1 (13 + p)) (fun k X hk hX => ?_) ⟨pw_ST h, fun _ _ _ => rfl, fun _ _ => Nat.le_refl _⟩
    unfold py_1
    split
    · exact hX
    · obtain ⟨a1, a2, a3⟩ := hX
      have h3 := (ho.2.2.1 k hk).2
      have h1 := (ho.2.1 _ h3).2
      refine ⟨(py_T ho a1 hk).1, fun p hp hp6 => ?_, fun p hp => ?_⟩
      · show py d k _ X.1 (13 + p) = _
        unfold py pu
        rw [if_neg (by omega), if_neg (by omega), if_neg (by omega)]
        exact a2 p hp hp6
      · show _ ≤ py d k _ X.1 (13 + p)
        have := a3 p hp
        have b := (a1.1 p hp).2.2.1
        unfold py pu
        rw [if_neg (show ¬ 13 + p = 37 + pw_t d 1 (pw_t d 3 k) by omega), if_neg (show ¬ 13 + p = 1 + k by omega)]
        split
        · rename_i e
          have : p = k := by omega
          subst this
          omega
        · exact this
  have hB : ∀ j, j < 37 → (py_B d sn u q S).1 j = (py_A d sn u q S).1 j := (py_B_T ho (X := ((py_A d sn u q S).1, 0)) hA.1).2
  have hC : ∀ p, p < 6 → (py_C d sn u q S).1 (13 + p) = (py_B d sn u q S).1 (13 + p) := by
    intro p hp
    unfold py_C
    split
    · rfl
    · have := am_it_ind (fun m (Y : (Nat → Nat) × Nat) => ∀ p, p < 6 → Y.1 (13 + p) = (py_B d sn u q S).1 (13 + p)) (f := py_b) (n := pw_n d 3) (a := ((py_B d sn u q S).1, 0)) (fun m Y hm hY p hp => by
        unfold py_b
        split
        · show pu _ _ _ _ = _
          rw [pu_n _ _ (by omega)]; exact hY p hp
        · show pu _ _ _ _ = _
          rw [pu_n _ _ (by omega)]; exact hY p hp) (fun _ _ => rfl)
      exact this p hp
  have hD : ∀ p, p < 6 → py_D d sn u q S (13 + p) = (py_C d sn u q S).1 (13 + p) := by
    intro p hp
    unfold py_D
    split
    · have := am_it_ind (fun m (Y : Nat → Nat) => ∀ p, p < 6 → Y (13 + p) = (py_C d sn u q S).1 (13 + p)) (f := py_r) (n := pw_n d 3) (a := (py_C d sn u q S).1) (fun m Y hm hY p hp => by
        unfold py_r
        rw [pu_n _ _ (by omega)]; exact hY p hp) (fun _ _ => rfl)
      exact this p hp
    · rfl
  have e : ∀ p, p < 6 → py_S d sn u q S (13 + p) = (py_A d sn u q S).1 (13 + p) := fun p hp => by
    show pu _ _ _ _ = _
    rw [pu_n _ _ (by omega), hD p hp, hC p hp, hB _ (by omega)]
  exact ⟨fun p hp hp6 => (e p hp6).trans (hA.2.1 p hp hp6), fun p hp => by rw [e p hp]; exact hA.2.2 p hp⟩
theorem py_days_owe {d : pw_L} (ho : pw_ok d) (u q : Nat) {S : Nat → Nat} (h : pw_S S) : ∀ n, (∀ p, pw_n d 3 ≤ p → p < 6 → py_days d u q S n (13 + p) = S (13 + p)) ∧ ∀ p, p < 6 → S (13 + p) ≤ py_days d u q S n (13 + p)
  | 0 => ⟨fun _ _ _ => rfl, fun _ _ => Nat.le_refl _⟩
  | n + 1 => by
    have ih := py_days_owe ho u q h n
    have st := py_S_owe ho (pw_sn d (py_days d u q S n 0)) u q (py_days_T ho u q h n).1
    exact ⟨fun p hp hp6 => (st.1 p hp hp6).trans (ih.1 p hp hp6), fun p hp => Nat.le_trans (ih.2 p hp) (st.2 p hp)⟩
/-- the model asks people alone whether somebody owes more -/
theorem s265 {h : am_H} {d : pw_L} {S T : Nat → Nat} (ho : pw_ok d) (hL : pm_L h d) (hT : pm_S h 86 0 T) (hS : pm_S h 85 0 S) (hb : ∀ p, p < 6 → T (13 + p) ≤ 9999 ∧ S (13 + p) ≤ 9999) (he : ∀ p, pw_n d 3 ≤ p → p < 6 → T (13 + p) = S (13 + p)) :
    am_run am_M 265 [.ref 60] h = some (.inl (some (.int (nI (if py_owe T S then 1 else 0)))), h) := by
  have h6 := ho.1.2.2.2.1
  have hl : am_I h 60 4 = nI (pw_n d 3) := hL.1 3 (by omega)
  rw [e265]
  refine am_forx0 (fun k (_ : Unit) => am_vn am_M 0 265 2 [some (.ref 60), some (.int (nI k))] [] h) (fun k _ => ∀ p, p < k → ¬ S (13 + p) < T (13 + p)) (fun o => o = some (.inl (some (.int (nI (if py_owe T S then 1 else 0)))), h)) (pw_n d 3) () (fun p hp => absurd hp (Nat.not_lt_zero p)) (fun _ hP => ?_) (fun k _ hk hP => ?_)
  · rw [e265_2, hl, if_pos (nI_le (Nat.le_refl _) (by omega)), if_pos (by decide)]
    have : py_owe T S = false := py_owe_f fun p hp => by
      by_cases c : p < pw_n d 3
      · exact hP p c
      · rw [he p (by omega) hp]; omega
    rw [this]; rfl
  · have b := hb k (by omega)
    rw [e265_2, hl, if_neg (nI_ge hk (by omega)), nI_add 13 k, ml_86 (by omega), hT.i0 (by omega), ml_85 (by omega), hS.i0 (by omega)]
    by_cases c : S (13 + k) < T (13 + k)
    · refine Or.inr ?_
      rw [if_neg (nI_ge c (by omega)), if_pos (by decide)]
      have : py_owe T S = true := py_owe_t (by omega) c
      rw [this]; rfl
    · refine Or.inl ⟨(), ?_, fun p hp => ?_⟩
      · rw [if_pos (nI_le (by omega) (by omega)), pz_succ]
      · by_cases e : p = k
        · subst e; exact c
        · exact hP p (by omega)
