/-! DAYS GO BY -/
def pu (S : Nat → Nat) (i v : Nat) : Nat → Nat := fun j => if j = i then v else S j
theorem pu_s (S : Nat → Nat) (i v : Nat) : pu S i v i = v := if_pos rfl
theorem pu_n (S : Nat → Nat) {i j : Nat} (v : Nat) (h : j ≠ i) : pu S i v j = S j := if_neg h
theorem pc_S.set {h : am_H} {r : Nat} {S : Nat → Nat} (a : pc_S h r S) (i v : Nat) : pc_S (am_sI h r i (nI v)) r (pu S i v) := by
  intro j hj
  rw [am_I_sc]
  unfold pu
  by_cases e : j = i
  · rw [if_pos ⟨rfl, e⟩, if_pos e]
  · rw [if_neg (fun h => e h.2), if_neg e]; exact a j hj
theorem pc_S.oth {h : am_H} {r : Nat} {S : Nat → Nat} (a : pc_S h r S) {i : Nat} (hi : r ≠ i) (k : Nat) (v : Int32) : pc_S (am_sI h i k v) r S := by
  intro j hj
  rw [am_I_s1 _ _ _ _ hi]
  exact a j hj
/-- sets of small numbers as bits -/
def pb (f : Nat → Bool) : Nat → Nat
  | 0 => 0
  | n + 1 => pb f n + if f n then 2 ^ n else 0
theorem pb_lt (f : Nat → Bool) : ∀ n, pb f n < 2 ^ n
  | 0 => Nat.one_pos
  | n + 1 => by
    have := pb_lt f n
    unfold pb
    rw [Nat.pow_succ]
    split <;> omega
theorem pb_or {x n : Nat} (h : x < 2 ^ n) : x ||| 2 ^ n = x + 2 ^ n := by
  rw [Nat.or_comm, Nat.add_comm]
  have := (Nat.two_pow_add_eq_or_of_lt h 1).symm
  rw [Nat.mul_one] at this
  exact this
theorem pb_1 {n : Nat} (h : n < 31) : nI 1 <<< (nI n &&& 31) = nI (2 ^ n) := by
  rw [pz_shl (by omega) (by rw [Nat.one_mul]; exact Nat.lt_of_lt_of_le (Nat.pow_lt_pow_right (by omega) h) (by decide)), Nat.one_mul]
theorem pb_step (f : Nat → Bool) {n : Nat} (h : n < 31) : nI (pb f n) ||| (if f n then nI 1 <<< (nI n &&& 31) else nI 0) = nI (pb f (n + 1)) := by
  rw [pb]
  cases f n with
  | true => rw [if_pos rfl, if_pos rfl, pb_1 h, pz_or, pb_or (pb_lt f n)]
  | false => rw [if_neg (by decide), if_neg (by decide), pz_or, Nat.or_zero]; rfl
theorem pb_cong {f g : Nat → Bool} : ∀ {n : Nat}, (∀ k, k < n → f k = g k) → pb f n = pb g n
  | 0, _ => rfl
  | n + 1, h => by rw [pb, pb, pb_cong (fun k hk => h k (by omega)), h n (by omega)]
theorem pb_bit (f : Nat → Bool) : ∀ (n i : Nat), (pb f n).testBit i = (decide (i < n) && f i)
  | 0, i => by rw [pb, Nat.zero_testBit, decide_eq_false (by omega)]; rfl
  | n + 1, i => by
    have ih := pb_bit f n
    rw [pb]
    by_cases hf : f n
    · rw [if_pos hf, ← pb_or (pb_lt f n), Nat.testBit_or, ih, Nat.testBit_two_pow]
      by_cases h1 : i < n
      · rw [decide_eq_true h1, decide_eq_true (show i < n + 1 by omega), decide_eq_false (show n ≠ i by omega), Bool.or_false]
      · rw [decide_eq_false h1]
        by_cases h2 : n = i
        · subst h2; rw [decide_eq_true (show n < n + 1 by omega), decide_eq_true rfl, hf]; rfl
        · rw [decide_eq_false h2, decide_eq_false (show ¬ i < n + 1 by omega)]; rfl
    · rw [if_neg hf, Nat.add_zero, ih]
      by_cases h1 : i < n
      · rw [decide_eq_true h1, decide_eq_true (show i < n + 1 by omega)]
      · rw [decide_eq_false h1]
        by_cases h2 : i = n
        · subst h2; rw [decide_eq_true (show i < i + 1 by omega)]; simp [hf]
        · rw [decide_eq_false (show ¬ i < n + 1 by omega)]
theorem pb_zero {f : Nat → Bool} {n : Nat} : pb f n = 0 ↔ ∀ k, k < n → f k = false := by
  constructor
  · intro h k hk
    have := pb_bit f n k
    rw [h, Nat.zero_testBit, decide_eq_true hk, Bool.true_and] at this
    exact this.symm
  · intro h
    induction n with
    | zero => rfl
    | succ n ih => rw [pb, ih (fun k hk => h k (by omega)), h n (by omega)]; rfl
/-- one pays -/
def py (d : pw_L) (p due : Nat) (S : Nat → Nat) : Nat → Nat :=
  pu (pu (pu S (1 + p) (S (1 + p) - min due (S (1 + p)))) (37 + pw_t d 1 (pw_t d 3 p)) (min 9999 (S (37 + pw_t d 1 (pw_t d 3 p)) + min due (S (1 + p))))) (13 + p) (min 9999 (S (13 + p) + due - min due (S (1 + p))))
/-- all pay: u what is due of all (from 21 on: by rent), q who doesn't pay -/
def py_f (d : pw_L) (S : Nat → Nat) (sn u p : Nat) : Nat := if u ≤ 20 then u else pr_due d S sn p
def py_1 (d : pw_L) (sn u q p : Nat) (X : (Nat → Nat) × Nat) : (Nat → Nat) × Nat :=
  if p = q then X else (py d p (py_f d X.1 sn u p) X.1, X.2 + min (py_f d X.1 sn u p) (X.1 (1 + p)))
def py_e (k : Nat) (X : (Nat → Nat) × Nat) : (Nat → Nat) × Nat :=
  if X.1 (37 + k) < X.1 (45 + k) then (pu (pu X.1 (37 + k) 0) (41 + k) (X.1 (41 + k) + 1), X.2 + 2 ^ k) else (pu X.1 (37 + k) (X.1 (37 + k) - X.1 (45 + k)), X.2)
def py_b (p : Nat) (X : (Nat → Nat) × Nat) : (Nat → Nat) × Nat :=
  if X.1 (7 + p) = 0 then (pu X.1 (19 + p) (X.1 (19 + p) + 1), X.2 + 2 ^ p) else (pu X.1 (7 + p) (X.1 (7 + p) - 1), X.2)
def py_r (p : Nat) (S : Nat → Nat) : Nat → Nat := pu S (1 + p) (min 99 (S (1 + p) + S (1 + p) / 4))
def py_A (d : pw_L) (sn u q : Nat) (S : Nat → Nat) : (Nat → Nat) × Nat := am_it (py_1 d sn u q) (pw_n d 3) (S, 0)
def py_B (d : pw_L) (sn u q : Nat) (S : Nat → Nat) : (Nat → Nat) × Nat := am_it py_e (pw_n d 0) ((py_A d sn u q S).1, 0)
def py_C (d : pw_L) (sn u q : Nat) (S : Nat → Nat) : (Nat → Nat) × Nat := if sn = 0 then ((py_B d sn u q S).1, 0) else am_it py_b (pw_n d 3) ((py_B d sn u q S).1, 0)
def py_D (d : pw_L) (sn u q : Nat) (S : Nat → Nat) : Nat → Nat := if ((py_C d sn u q S).1 0 + 1) % 7 = 0 then am_it py_r (pw_n d 3) (py_C d sn u q S).1 else (py_C d sn u q S).1
/-- the state behind a day -/
def py_S (d : pw_L) (sn u q : Nat) (S : Nat → Nat) : Nat → Nat := pu (py_D d sn u q S) 0 (py_D d sn u q S 0 + 1)
def py_thin (d : pw_L) (sn u q : Nat) (S : Nat → Nat) : Nat := (py_B d sn u q S).2
def py_cold (d : pw_L) (sn u q : Nat) (S : Nat → Nat) : Nat := (py_C d sn u q S).2
def py_gave (d : pw_L) (sn u q : Nat) (S : Nat → Nat) : Nat := (py_A d sn u q S).2
/-! bounds -/
theorem am_it_ind {α : Type} {f : Nat → α → α} (P : Nat → α → Prop) {n : Nat} (hs : ∀ k a, k < n → P k a → P (k + 1) (f k a)) {a : α} (h0 : P 0 a) : P n (am_it f n a) := by
  have : ∀ m, m ≤ n → P m (am_it f m a) := by
    intro m
    induction m with
    | zero => intro _; exact h0
    | succ m ih => intro h; exact hs m _ (by omega) (ih (by omega))
  exact this n (Nat.le_refl n)
/-- the bounds of a state: b stands for the day (what is counted by days is no more) -/
def pw_T (b : Nat) (S : Nat → Nat) : Prop := (∀ p, p < 6 → S (1 + p) ≤ 99 ∧ S (7 + p) ≤ 99 ∧ S (13 + p) ≤ 9999 ∧ S (19 + p) ≤ b ∧ S (25 + p) ≤ 1 ∧ S (31 + p) < 512) ∧ (∀ k, k < 4 → S (37 + k) ≤ 9999 ∧ S (41 + k) ≤ b ∧ S (45 + k) ≤ 20)
theorem pw_ST {S : Nat → Nat} (h : pw_S S) : pw_T (S 0) S := h
theorem pw_TS {b : Nat} {S : Nat → Nat} (h : pw_T b S) (e : S 0 = b) : pw_S S := by
  subst e
  exact h
theorem pw_T.up {b c : Nat} {S : Nat → Nat} (h : pw_T b S) (e : b ≤ c) : pw_T c S := ⟨fun p hp => by have := h.1 p hp; omega, fun k hk => by have := h.2 k hk; omega⟩
theorem py_T {d : pw_L} (ho : pw_ok d) {b p due : Nat} {S : Nat → Nat} (h : pw_T b S) (hp : p < pw_n d 3) : pw_T b (py d p due S) ∧ py d p due S 0 = S 0 ∧ (∀ j, 41 ≤ j → py d p due S j = S j) ∧ (∀ j, 19 ≤ j → j < 37 → py d p due S j = S j) := by
  have h3 := (ho.2.2.1 p hp).2
  have h1 := (ho.2.1 _ h3).2
  have h6 := ho.1.2.2.2.1
  have h4 := ho.1.1
  refine ⟨⟨fun r hr => ?_, fun k hk => ?_⟩, ?_, fun j hj => ?_, fun j hj hj2 => ?_⟩
  · have := h.1 r hr
    have := h.1 p (by omega)
    unfold py pu
    refine ⟨?_, ?_, ?_, ?_, ?_, ?_⟩ <;> (repeat' split) <;> omega
  · have := h.2 k hk
    unfold py pu
    refine ⟨?_, ?_, ?_⟩ <;> (repeat' split) <;> omega
  all_goals (unfold py pu; rw [if_neg (by omega), if_neg (by omega), if_neg (by omega)])
theorem py_A_T {d : pw_L} (ho : pw_ok d) {sn u q b : Nat} {S : Nat → Nat} (h : pw_T b S) : pw_T b (py_A d sn u q S).1 ∧ (py_A d sn u q S).1 0 = S 0 ∧ (∀ j, 41 ≤ j → (py_A d sn u q S).1 j = S j) ∧ (∀ j, 19 ≤ j → j < 37 → (py_A d sn u q S).1 j = S j) := by
  refine am_it_ind (fun _ (X : (Nat → Nat) × Nat) => pw_T b X.1 ∧ X.1 0 = S 0 ∧ (∀ j, 41 ≤ j → X.1 j = S j) ∧ (∀ j, 19 ≤ j → j < 37 → X.1 j = S j)) (fun k X hk hX => ?_) ⟨h, rfl, fun _ _ => rfl, fun _ _ _ => rfl⟩
  unfold py_1
  split
  · exact hX
  · obtain ⟨a1, a2, a3, a4⟩ := hX
    have := py_T ho (due := py_f d X.1 sn u k) a1 hk
    exact ⟨this.1, this.2.1.trans a2, fun j hj => (this.2.2.1 j hj).trans (a3 j hj), fun j hj hj2 => (this.2.2.2 j hj hj2).trans (a4 j hj hj2)⟩
theorem py_B_T {d : pw_L} (ho : pw_ok d) {b : Nat} {X : (Nat → Nat) × Nat} (h : pw_T b X.1) : pw_T (b + 1) (am_it py_e (pw_n d 0) X).1 ∧ (∀ j, j < 37 → (am_it py_e (pw_n d 0) X).1 j = X.1 j) := by
  have h4 := ho.1.1
  have := am_it_ind (fun m Y => (∀ k, k < 4 → Y.1 (37 + k) ≤ 9999 ∧ Y.1 (41 + k) ≤ (if k < m then b + 1 else b) ∧ Y.1 (45 + k) ≤ 20) ∧ (∀ j, j < 37 → Y.1 j = X.1 j)) (f := py_e) (n := pw_n d 0) (a := X) (fun m Y hm hY => by
    obtain ⟨a1, a2⟩ := hY
    have am := a1 m (by omega)
    rw [if_neg (Nat.lt_irrefl m)] at am
    unfold py_e
    split
    · refine ⟨fun k hk => ?_, fun j hj => ?_⟩
      · have := a1 k hk
        show pu _ _ _ _ ≤ _ ∧ pu _ _ _ _ ≤ _ ∧ pu _ _ _ _ ≤ _
        unfold pu
        by_cases e : k = m
        · subst e
          refine ⟨?_, ?_, ?_⟩ <;> (repeat' split) <;> omega
        · split at this <;> refine ⟨?_, ?_, ?_⟩ <;> (repeat' split) <;> omega
      · show pu _ _ _ j = _
        unfold pu
        rw [if_neg (by omega), if_neg (by omega)]; exact a2 j hj
    · refine ⟨fun k hk => ?_, fun j hj => ?_⟩
      · have := a1 k hk
        show pu _ _ _ _ ≤ _ ∧ pu _ _ _ _ ≤ _ ∧ pu _ _ _ _ ≤ _
        unfold pu
        by_cases e : k = m
        · subst e
          refine ⟨?_, ?_, ?_⟩ <;> (repeat' split) <;> omega
        · split at this <;> refine ⟨?_, ?_, ?_⟩ <;> (repeat' split) <;> omega
      · show pu _ _ _ j = _
        unfold pu
        rw [if_neg (by omega)]; exact a2 j hj) ⟨fun k hk => by rw [if_neg (Nat.not_lt_zero k)]; exact h.2 k hk, fun _ _ => rfl⟩
  have hthis := this
  refine ⟨⟨fun p hp => ?_, fun k hk => ?_⟩, this.2⟩
  · have := h.1 p hp
    have e := hthis.2
    rw [e _ (by omega), e _ (by omega), e _ (by omega), e _ (by omega), e _ (by omega), e _ (by omega)]
    omega
  · have := this.1 k hk
    refine ⟨this.1, ?_, this.2.2⟩
    have h1 := this.2.1
    split at h1 <;> omega
theorem py_C_T {d : pw_L} (ho : pw_ok d) {b : Nat} {X : (Nat → Nat) × Nat} (h : pw_T (b + 1) X.1) (h19 : ∀ p, p < 6 → X.1 (19 + p) ≤ b) : pw_T (b + 1) (am_it py_b (pw_n d 3) X).1 ∧ (am_it py_b (pw_n d 3) X).1 0 = X.1 0 ∧ (∀ j, 25 ≤ j → (am_it py_b (pw_n d 3) X).1 j = X.1 j) := by
  have h6 := ho.1.2.2.2.1
  have := am_it_ind (fun m Y => (∀ p, p < 6 → Y.1 (7 + p) ≤ 99 ∧ Y.1 (19 + p) ≤ (if p < m then b + 1 else b)) ∧ (∀ j, (j < 7 ∨ 13 ≤ j ∧ j < 19 ∨ 25 ≤ j) → Y.1 j = X.1 j)) (f := py_b) (n := pw_n d 3) (a := X) (fun m Y hm hY => by
    obtain ⟨a1, a2⟩ := hY
    have am := a1 m (by omega)
    rw [if_neg (Nat.lt_irrefl m)] at am
    unfold py_b
    split
    · refine ⟨fun k hk => ?_, fun j hj => ?_⟩
      · have := a1 k hk
        show pu _ _ _ _ ≤ _ ∧ pu _ _ _ _ ≤ _
        unfold pu
        by_cases e : k = m
        · subst e
          refine ⟨?_, ?_⟩ <;> (repeat' split) <;> omega
        · split at this <;> refine ⟨?_, ?_⟩ <;> (repeat' split) <;> omega
      · show pu _ _ _ j = _
        unfold pu
        rw [if_neg (by omega)]; exact a2 j hj
    · refine ⟨fun k hk => ?_, fun j hj => ?_⟩
      · have := a1 k hk
        show pu _ _ _ _ ≤ _ ∧ pu _ _ _ _ ≤ _
        unfold pu
        by_cases e : k = m
        · subst e
          refine ⟨?_, ?_⟩ <;> (repeat' split) <;> omega
        · split at this <;> refine ⟨?_, ?_⟩ <;> (repeat' split) <;> omega
      · show pu _ _ _ j = _
        unfold pu
        rw [if_neg (by omega)]; exact a2 j hj) ⟨fun p hp => by rw [if_neg (Nat.not_lt_zero p)]; exact ⟨(h.1 p hp).2.1, h19 p hp⟩, fun _ _ => rfl⟩
  obtain ⟨t1, t2⟩ := this
  refine ⟨⟨fun p hp => ?_, fun k hk => ?_⟩, t2 0 (by omega), fun j hj => t2 j (by omega)⟩
  · have h1 := h.1 p hp
    have h2 := t1 p hp
    rw [t2 (1 + p) (by omega), t2 (13 + p) (by omega), t2 (25 + p) (by omega), t2 (31 + p) (by omega)]
    have h3 := h2.2
    refine ⟨h1.1, h2.1, h1.2.2.1, ?_, h1.2.2.2.2.1, h1.2.2.2.2.2⟩
    split at h3 <;> omega
  · rw [t2 (37 + k) (by omega), t2 (41 + k) (by omega), t2 (45 + k) (by omega)]
    exact h.2 k hk
theorem py_r_T {d : pw_L} (ho : pw_ok d) {b : Nat} {S : Nat → Nat} (h : pw_T b S) : pw_T b (am_it py_r (pw_n d 3) S) ∧ (∀ j, (j = 0 ∨ 7 ≤ j) → am_it py_r (pw_n d 3) S j = S j) := by
  have h6 := ho.1.2.2.2.1
  have := am_it_ind (fun m Y => (∀ p, p < 6 → Y (1 + p) ≤ 99) ∧ (∀ j, (j = 0 ∨ 7 ≤ j) → Y j = S j)) (f := py_r) (n := pw_n d 3) (a := S) (fun m Y hm hY => by
    obtain ⟨a1, a2⟩ := hY
    unfold py_r
    refine ⟨fun k hk => ?_, fun j hj => ?_⟩
    · unfold pu
      split
      · omega
      · exact a1 k hk
    · unfold pu
      rw [if_neg (by omega)]; exact a2 j hj) ⟨fun p hp => (h.1 p hp).1, fun _ _ => rfl⟩
  obtain ⟨t1, t2⟩ := this
  refine ⟨⟨fun p hp => ?_, fun k hk => ?_⟩, t2⟩
  · have h1 := h.1 p hp
    rw [t2 (7 + p) (by omega), t2 (13 + p) (by omega), t2 (19 + p) (by omega), t2 (25 + p) (by omega), t2 (31 + p) (by omega)]
    exact ⟨t1 p hp, h1.2⟩
  · rw [t2 (37 + k) (by omega), t2 (41 + k) (by omega), t2 (45 + k) (by omega)]
    exact h.2 k hk
/-- a day keeps the bounds -/
theorem py_S_T {d : pw_L} (ho : pw_ok d) (sn u q : Nat) {S : Nat → Nat} (h : pw_S S) : pw_S (py_S d sn u q S) ∧ py_S d sn u q S 0 = S 0 + 1 ∧ (∀ j, 45 ≤ j → py_S d sn u q S j = S j) ∧ (∀ j, 25 ≤ j → j < 37 → py_S d sn u q S j = S j) := by
  have hA := py_A_T ho (sn := sn) (u := u) (q := q) (pw_ST h)
  have hB := py_B_T ho (X := ((py_A d sn u q S).1, 0)) hA.1
  have hBk : ∀ j, 45 ≤ j → (py_B d sn u q S).1 j = (py_A d sn u q S).1 j := by
    have := am_it_ind (fun m Y => (∀ j, 45 ≤ j → Y.1 j = (py_A d sn u q S).1 j)) (f := py_e) (n := pw_n d 0) (a := ((py_A d sn u q S).1, 0)) (fun m Y hm hY j hj => by
      have h4 := ho.1.1
      unfold py_e
      split
      · show pu _ _ _ j = _
        unfold pu
        rw [if_neg (by omega), if_neg (by omega)]; exact hY j hj
      · show pu _ _ _ j = _
        unfold pu
        rw [if_neg (by omega)]; exact hY j hj) (fun _ _ => rfl)
    exact this
  have hC : pw_T (S 0 + 1) (py_C d sn u q S).1 ∧ (py_C d sn u q S).1 0 = S 0 ∧ (∀ j, 25 ≤ j → (py_C d sn u q S).1 j = (py_B d sn u q S).1 j) := by
    unfold py_C
    split
    · exact ⟨hB.1, (hB.2 0 (by omega)).trans hA.2.1, fun _ _ => rfl⟩
    · have := py_C_T ho (X := ((py_B d sn u q S).1, 0)) hB.1 (fun p hp => by
        have := hA.1.1 p hp
        have e := hB.2 (19 + p) (by omega)
        show (am_it py_e (pw_n d 0) ((py_A d sn u q S).1, 0)).1 (19 + p) ≤ _
        rw [e]
        exact this.2.2.2.1)
      exact ⟨this.1, this.2.1.trans ((hB.2 0 (by omega)).trans hA.2.1), this.2.2⟩
  have hD : pw_T (S 0 + 1) (py_D d sn u q S) ∧ py_D d sn u q S 0 = S 0 ∧ (∀ j, 25 ≤ j → py_D d sn u q S j = (py_B d sn u q S).1 j) := by
    unfold py_D
    split
    · have := py_r_T ho hC.1
      exact ⟨this.1, (this.2 0 (by omega)).trans hC.2.1, fun j hj => (this.2 j (by omega)).trans (hC.2.2 j hj)⟩
    · exact hC
  have h0 : py_S d sn u q S 0 = S 0 + 1 := by
    unfold py_S
    rw [pu_s, hD.2.1]
  have hn : ∀ j, j ≠ 0 → py_S d sn u q S j = py_D d sn u q S j := fun j hj => pu_n _ _ hj
  refine ⟨pw_TS (b := S 0 + 1) ⟨fun p hp => ?_, fun k hk => ?_⟩ h0, h0, fun j hj => ?_, fun j hj hj2 => ?_⟩
  · rw [hn _ (by omega), hn _ (by omega), hn _ (by omega), hn _ (by omega), hn _ (by omega), hn _ (by omega)]
    exact hD.1.1 p hp
  · rw [hn _ (by omega), hn _ (by omega), hn _ (by omega)]
    exact hD.1.2 k hk
  · rw [hn j (by omega), hD.2.2 j (by omega), hBk j hj, hA.2.2.1 j (by omega)]
  · rw [hn j (by omega), hD.2.2 j (by omega)]
    have := hB.2 j hj2
    show (am_it py_e (pw_n d 0) ((py_A d sn u q S).1, 0)).1 j = _
    rw [this]
    exact hA.2.2.2 j (by omega) hj2
