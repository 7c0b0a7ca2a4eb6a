/-! TRACKS: whose way they can be -/
def pt_lt (t : Nat → Nat × Nat) (i j : Nat) : Prop := (t i).2 < (t j).2 ∨ (t i).2 = (t j).2 ∧ i < j
/-- the first of the earliest not yet taken -/
def pt_nx (t : Nat → Nat × Nat) (U : Nat) : Nat → Nat
  | 0 => 1000
  | n + 1 => if U.testBit n = true then pt_nx t U n else if pt_nx t U n = 1000 then n else if (t (pt_nx t U n)).2 ≤ (t n).2 then pt_nx t U n else n
theorem pt_nx_or (t : Nat → Nat × Nat) (U : Nat) : ∀ n, n ≤ 7 → (pt_nx t U n = 1000 ∧ ∀ j, j < n → U.testBit j = true) ∨ (pt_nx t U n < n ∧ U.testBit (pt_nx t U n) = false ∧ ∀ j, j < n → U.testBit j = false → j = pt_nx t U n ∨ pt_lt t (pt_nx t U n) j)
  | 0, _ => Or.inl ⟨rfl, fun j hj => absurd hj (Nat.not_lt_zero j)⟩
  | n + 1, hn => by
    have ih := pt_nx_or t U n (by omega)
    rw [pt_nx]
    by_cases c : U.testBit n = true
    · rw [if_pos c]
      rcases ih with ⟨a, b⟩ | ⟨a, b, e⟩
      · refine Or.inl ⟨a, fun j hj => ?_⟩
        by_cases ej : j = n
        · rw [ej]; exact c
        · exact b j (by omega)
      · refine Or.inr ⟨by omega, b, fun j hj hu => ?_⟩
        by_cases ej : j = n
        · subst ej; rw [c] at hu; exact absurd hu (by decide)
        · exact e j (by omega) hu
    · have c' : U.testBit n = false := by cases h : U.testBit n with | true => exact absurd h c | false => rfl
      rw [if_neg c]
      rcases ih with ⟨a, b⟩ | ⟨a, b, e⟩
      · rw [if_pos a]
        refine Or.inr ⟨by omega, c', fun j hj hu => ?_⟩
        by_cases ej : j = n
        · exact Or.inl ej
        · have := b j (by omega); rw [hu] at this; exact absurd this (by decide)
      · rw [if_neg (by omega)]
        by_cases k : (t (pt_nx t U n)).2 ≤ (t n).2
        · rw [if_pos k]
          refine Or.inr ⟨by omega, b, fun j hj hu => ?_⟩
          by_cases ej : j = n
          · subst ej; refine Or.inr ?_; unfold pt_lt; omega
          · exact e j (by omega) hu
        · rw [if_neg k]
          refine Or.inr ⟨by omega, c', fun j hj hu => ?_⟩
          by_cases ej : j = n
          · exact Or.inl ej
          · refine Or.inr ?_
            rcases e j (by omega) hu with e1 | e1
            · subst e1; unfold pt_lt; omega
            · unfold pt_lt at e1 ⊢; omega
theorem pt_bit (U x j : Nat) : (U ||| 2 ^ x).testBit j = (U.testBit j || decide (x = j)) := by rw [Nat.testBit_or, Nat.testBit_two_pow]
theorem pt_cnt_set {U x : Nat} : ∀ {n : Nat}, x < n → U.testBit x = false → pz_cnt (fun j => (U ||| 2 ^ x).testBit j) n = pz_cnt (fun j => U.testBit j) n + 1
  | n + 1, hx, hu => by
    rw [pz_cnt, pz_cnt]
    by_cases e : x = n
    · subst e
      rw [pz_cnt_cong (g := fun j => U.testBit j) (fun k hk => by rw [pt_bit, decide_eq_false (by omega), Bool.or_false]), pt_bit, hu, decide_eq_true rfl]
      rfl
    · rw [pt_cnt_set (n := n) (by omega) hu, pt_bit, decide_eq_false e, Bool.or_false]
      cases U.testBit n <;> simp <;> omega
theorem pt_cnt_all {f : Nat → Bool} : ∀ {n : Nat}, (∀ j, j < n → f j = true) → pz_cnt f n = n
  | 0, _ => rfl
  | n + 1, h => by rw [pz_cnt, pt_cnt_all (fun k hk => h k (by omega)), h n (by omega)]; rfl
/-- the way along the tracks: from place a, at hour s; the track that can't be reached -/
def pt_w (d : pw_L) (t : Nat → Nat × Nat) (n : Nat) : Nat → Nat → Nat → Nat → Int32
  | 0, _, _, _ => -1
  | f + 1, U, a, s => if pw_far d a (t (pt_nx t U n)).1 + s ≤ (t (pt_nx t U n)).2 then pt_w d t n f (U ||| 2 ^ pt_nx t U n) (t (pt_nx t U n)).1 (t (pt_nx t U n)).2 else nI (pt_nx t U n)
def pt_al (d : pw_L) (t : Nat → Nat × Nat) (n p : Nat) : Int32 := pt_w d t n n 0 (pw_t d 3 p) 0
def pt_C (h : am_H) (T n : Nat) (t : Nat → Nat × Nat) : Prop := am_I h T 2 = nI n ∧ ∀ j, j < n → am_I h (T + 1) j = nI (t j).1 ∧ am_I h (T + 2) j = nI (t j).2
def pt_ok (d : pw_L) (n : Nat) (t : Nat → Nat × Nat) : Prop := n ≤ 7 ∧ ∀ j, j < n → (t j).1 < pw_n d 1 ∧ (t j).2 ≤ 71
section
variable {h : am_H} {d : pw_L} {t : Nat → Nat × Nat} {n L : Nat}
theorem s163 {U : Nat} (hT : pt_C h 24 n t) (ho : pt_ok d n t) (hU : U < 128) : am_run am_M 163 [.ref 24, .int (nI U)] h = some (.inl (some (.int (pn_o (pt_nx t U n) 20))), h) := by
  rw [e163]
  obtain ⟨g, e, hp⟩ := am_for0 (fun k (g : am_H) => am_vn am_M 1 163 4 [some (.ref 24), some (.int (nI U)), some (.int (pn_o (pt_nx t U k) 20)), some (.int (nI k)), none] [] g) (fun _ g => g = h) n h rfl (fun k g hk hg => by
    subst hg
    have hn := ho.1
    refine ⟨g, ?_, rfl⟩
    rw [e163_4, pc_tch (T := 24) (Or.inl rfl), hT.1, if_neg (nI_ge hk (by omega)), pz_bit (by omega) (by omega), pt_nx]
    cases c : U.testBit k with
    | true => rw [if_neg (show ¬ nI (if true = true then 1 else 0) = 0 by decide), e163_25, if_pos (by decide), pz_succ, if_pos rfl]
    | false =>
      rw [if_pos (show nI (if false = true then 1 else 0) = 0 by decide), e163_25, if_neg (show ¬ nI 1 = 0 by decide), if_neg (show ¬ false = true by decide)]
      rcases pt_nx_or t U k (by omega) with ⟨e, _⟩ | ⟨e, _⟩
      · rw [e, if_pos (show pn_o 1000 20 = (-1 : Int32) from rfl), if_pos rfl, pz_succ, show pn_o k 20 = nI k from if_pos (by omega)]
      · rw [show pn_o (pt_nx t U k) 20 = nI (pt_nx t U k) from if_pos (by omega), if_neg (pz_neg1 (by omega)), pc_tch (T := 24) (Or.inl rfl), pc_tg1 (T := 24) (Or.inl rfl), at_ok (r := 26) (n := 7) rfl (by omega) (by omega) (show k < 7 by omega), am_bI_ok, pc_tch (T := 24) (Or.inl rfl), pc_tg1 (T := 24) (Or.inl rfl), at_ok (r := 26) (n := 7) rfl (by omega) (by omega) (show pt_nx t U k < 7 by omega), am_bI_ok, (hT.2 k hk).2, (hT.2 _ (show pt_nx t U k < n by omega)).2, if_neg (show ¬ pt_nx t U k = 1000 by omega)]
        have h1 := (ho.2 k hk).2
        have h2 := (ho.2 _ (show pt_nx t U k < n by omega)).2
        by_cases c2 : (t (pt_nx t U k)).2 ≤ (t k).2
        · rw [if_pos (nI_le c2 (by omega)), if_pos c2, pz_succ, show pn_o (pt_nx t U k) 20 = nI (pt_nx t U k) from if_pos (by omega)]
        · rw [if_neg (nI_ge (by omega) (by omega)), if_neg c2, pz_succ, show pn_o k 20 = nI k from if_pos (by omega)])
  subst hp
  refine e.trans ?_
  rw [e163_4, pc_tch (T := 24) (Or.inl rfl), hT.1, if_pos (nI_le (Nat.le_refl _) (by have := ho.1; omega))]
theorem s162 {p : Nat} (hL : pc_lo L) (hd : pc_L h L d) (hw : pw_ok d) (hT : pt_C h 24 n t) (ho : pt_ok d n t) (hp : p < pw_n d 3) : am_run am_M 162 [.ref 24, .ref L, .int (nI p)] h = some (.inl (some (.int (pt_al d t n p))), h) := by
  have h6 := hw.1.2.2.2.1
  have h9 := hw.1.2.1
  have hhp := (hw.2.2.1 p hp).2
  rw [e162, pc_lch hL, s93 hL (by omega), am_bI_ok, (hd.2.2.1 p hp).2]
  refine am_forx0 (fun k (s : Nat × Nat × Nat) => am_vn am_M 2 162 15 [some (.ref 24), some (.ref L), none, some (.int (nI s.2.1)), some (.int (nI s.2.2)), some (.int (nI s.1)), some (.int (nI k)), none] [] h) (fun k s => s.1 < 128 ∧ s.2.1 < pw_n d 1 ∧ s.2.2 ≤ 71 ∧ pz_cnt (fun j => s.1.testBit j) n = k ∧ (∀ j, j < n → s.1.testBit j = false → s.2.2 ≤ (t j).2) ∧ pt_w d t n (n - k) s.1 s.2.1 s.2.2 = pt_al d t n p) (fun o => o = some (.inl (some (.int (pt_al d t n p))), h)) n (0, pw_t d 3 p, 0) ⟨(show (0 : Nat) < 128 by omega), hhp, Nat.zero_le _, pz_cnt_zero (fun k _ => Nat.zero_testBit k), fun j _ _ => Nat.zero_le _, rfl⟩ (fun s hs => ?_) (fun k s hk hs => ?_)
  · obtain ⟨s1, s2, s3, s4, s5, s6⟩ := hs
    rw [Nat.sub_self] at s6
    rw [e162_15, pc_tch (T := 24) (Or.inl rfl), hT.1, if_pos (nI_le (Nat.le_refl _) (by have := ho.1; omega)), ← s6]; rfl
  · obtain ⟨U, a, s⟩ := s
    obtain ⟨s1, s2, s3, s4, s5, s6⟩ := hs
    dsimp only at s1 s2 s3 s4 s5 s6 ⊢
    have hn := ho.1
    rw [e162_15, pc_tch (T := 24) (Or.inl rfl), hT.1, if_neg (nI_ge hk (by omega)), pc_tch (T := 24) (Or.inl rfl), s163 hT ho s1, am_bI_ok]
    rw [show n - k = n - (k + 1) + 1 by omega, pt_w] at s6
    rcases pt_nx_or t U n hn with ⟨e1, e2⟩ | ⟨e1, e2, e3⟩
    · have e9 := pt_cnt_all (f := fun j => U.testBit j) e2; rw [e9] at s4; omega
    · have ex := ho.2 _ e1
      have em : s ≤ (t (pt_nx t U n)).2 := s5 _ e1 e2
      have tw := pw_far_two hw s2 ex.1
      generalize hx : pt_nx t U n = x at e1 e2 e3 ex em tw s6 ⊢
      have hw2 : pw_w d 1000 (pw_n d 1) a (t x).1 = pw_far d a (t x).1 := rfl
      have r25 := at_ok (r := 25) (n := 7) rfl (by omega) (by omega) (show x < 7 by omega) h
      have r26 := at_ok (r := 26) (n := 7) rfl (by omega) (by omega) (show x < 7 by omega) h
      rw [show pn_o x 20 = nI x from if_pos (by omega), pc_tch (T := 24) (Or.inl rfl), pc_tg0 (T := 24) (Or.inl rfl), r25, am_bI_ok, pc_lch hL, (hT.2 x e1).1, s96 hL (show a * 9 + (t x).1 < 81 by omega), am_bI_ok, hd.2.2.2.2.2.1 a _ s2 ex.1, hw2, pc_tch (T := 24) (Or.inl rfl), pc_tg1 (T := 24) (Or.inl rfl), r26, am_bI_ok, (hT.2 x e1).2, pk_sub em]
      by_cases c : pw_far d a (t x).1 + s ≤ (t x).2
      · rw [if_pos (nI_le (show pw_far d a (t x).1 ≤ (t x).2 - s by omega) (by omega))]
        refine Or.inl ⟨(U ||| 2 ^ x, (t x).1, (t x).2), ?_, ?_⟩
        · rw [pc_tch (T := 24) (Or.inl rfl), pc_tg0 (T := 24) (Or.inl rfl), r25, am_bI_ok, pc_tch (T := 24) (Or.inl rfl), pc_tg1 (T := 24) (Or.inl rfl), r26, am_bI_ok, (hT.2 x e1).1, (hT.2 x e1).2, pb_1 (by omega), pz_or, pz_succ]
        · rw [if_pos c] at s6
          refine ⟨?_, ex.1, ex.2, ?_, fun j hj hu => ?_, s6⟩
          · exact Nat.or_lt_two_pow (n := 7) s1 (Nat.pow_lt_pow_right (by omega) (by omega))
          · show pz_cnt (fun j => (U ||| 2 ^ x).testBit j) n = k + 1
            rw [pt_cnt_set e1 e2, s4]
          · rw [pt_bit] at hu
            have hu1 : U.testBit j = false := by cases hh : U.testBit j with | true => rw [hh, Bool.true_or] at hu; exact absurd hu (by decide) | false => rfl
            rcases e3 j hj hu1 with e4 | e4
            · rw [e4]; exact Nat.le_refl _
            · unfold pt_lt at e4; show (t x).2 ≤ _; omega
      · rw [if_neg (nI_ge (show (t x).2 - s < pw_far d a (t x).1 by omega) (by omega))]
        rw [if_neg c] at s6
        exact Or.inr (by rw [← s6])
/-- who can't have been them -/
def pt_su (d : pw_L) (t : Nat → Nat × Nat) (n p : Nat) : Bool := decide (pt_al d t n p = -1)
theorem s31 (hL : pc_lo L) (hR : am_R h 0 10 = some L) (hd : pc_L h L d) (hw : pw_ok d) (hT : pt_C h 24 n t) (ho : pt_ok d n t) : am_run am_M 31 [.ref 0] h = some (.inl (some (.int (nI (pb (pt_su d t n) (pw_n d 3))))), h) := by
  have h6 := hw.1.2.2.2.1
  rw [e31]
  obtain ⟨g, e, hp⟩ := am_for0 (fun k (g : am_H) => am_vn am_M 3 31 4 [some (.ref 0), some (.int (nI (pb (pt_su d t n) k))), some (.int (nI k))] [] g) (fun _ g => g = h) (pw_n d 3) h rfl (fun k g hk hg => by
    subst hg
    refine ⟨g, ?_, rfl⟩
    rw [e31_4, hR, am_gr_n, pc_lch hL, show am_I g L 14 = nI (pw_n d 3) from hd.1 3 (by omega), if_neg (nI_ge hk (by omega)), am_gr_n, s162 hL hd hw hT ho hk, am_bI_ok, pz_succ, ← pb_step (pt_su d t n) (show k < 31 by omega)]
    unfold pt_su
    by_cases c : pt_al d t n k = -1
    · rw [if_pos c, decide_eq_true c, if_pos rfl]
    · rw [if_neg c, decide_eq_false c, if_neg (by decide), pz_or, Nat.or_zero])
  subst hp
  refine e.trans ?_
  rw [e31_4, hR, am_gr_n, pc_lch hL, show am_I g L 14 = nI (pw_n d 3) from hd.1 3 (by omega), if_pos (nI_le (Nat.le_refl _) (by omega))]
end
