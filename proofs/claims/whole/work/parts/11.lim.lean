/-! what a run comes to, with no count of steps -/
abbrev am_C : Type := Nat → List Value → am_H → Option am_Q
abbrev am_K : Type := Nat → am_L → List Value → am_H → Option am_Q
def am_Ct (F : am_C → am_K → Option am_Q) : Prop := ∀ (c : Nat → am_C) (k : Nat → am_K) (c' : am_C) (k' : am_K),
  (∀ n a x h r, c n a x h = some r → c (n + 1) a x h = some r) → (∀ n a x y h r, k n a x y h = some r → k (n + 1) a x y h = some r) →
  (∀ a x h r, c' a x h = some r ↔ ∃ n, c n a x h = some r) → (∀ a x y h r, k' a x y h = some r ↔ ∃ n, k n a x y h = some r) →
  ∀ r, F c' k' = some r ↔ ∃ n, F (c n) (k n) = some r
theorem ct_const (o : Option am_Q) : am_Ct (fun _ _ => o) := fun _ _ _ _ _ _ _ _ _ => ⟨fun h => ⟨0, h⟩, fun ⟨_, h⟩ => h⟩
theorem ct_k (a : Nat) (x : am_L) (y : List Value) (h : am_H) : am_Ct (fun _ k => k a x y h) := fun _ _ _ _ _ _ _ hk r => hk a x y h r
theorem ct_cd (p : Bool) {A B : am_C → am_K → Option am_Q} (ha : am_Ct A) (hb : am_Ct B) : am_Ct (fun c k => am_cd p (A c k) (B c k)) := by
  cases p
  · exact hb
  · exact ha
theorem ct_if (p : Prop) [Decidable p] {A B : am_C → am_K → Option am_Q} (ha : am_Ct A) (hb : am_Ct B) : am_Ct (fun c k => if p then A c k else B c k) := by
  by_cases hp : p
  · simp only [if_pos hp]; exact ha
  · simp only [if_neg hp]; exact hb
theorem ct_cm (o : ClassFile.Cond) (x y : Int32) {A B : am_C → am_K → Option am_Q} (ha : am_Ct A) (hb : am_Ct B) : am_Ct (fun c k => am_cm o x y (A c k) (B c k)) := by
  cases o <;> exact ct_if _ (by assumption) (by assumption)
theorem ct_ldi (ls : am_L) (j : Nat) {f : am_C → am_K → Int32 → Option am_Q} (h : ∀ v, am_Ct (fun c k => f c k v)) : am_Ct (fun c k => am_ldi ls j (f c k)) := by
  unfold am_ldi; split
  · exact h _
  · exact ct_const _
theorem ct_ldl (ls : am_L) (j : Nat) {f : am_C → am_K → Int64 → Option am_Q} (h : ∀ v, am_Ct (fun c k => f c k v)) : am_Ct (fun c k => am_ldl ls j (f c k)) := by
  unfold am_ldl; split
  · exact h _
  · exact ct_const _
theorem ct_lda (ls : am_L) (j : Nat) {f : am_C → am_K → Nat → Option am_Q} (h : ∀ v, am_Ct (fun c k => f c k v)) : am_Ct (fun c k => am_lda ls j (f c k)) := by
  unfold am_lda; split
  · exact h _
  · exact ct_const _
theorem ct_u1 (st : List Value) {f : am_C → am_K → Int32 → List Value → Option am_Q} (h : ∀ v r, am_Ct (fun c k => f c k v r)) : am_Ct (fun c k => am_u1 st (f c k)) := by
  unfold am_u1; split
  · exact h _ _
  · exact ct_const _
theorem ct_b2 (st : List Value) {f : am_C → am_K → Int32 → Int32 → List Value → Option am_Q} (h : ∀ v w r, am_Ct (fun c k => f c k v w r)) : am_Ct (fun c k => am_b2 st (f c k)) := by
  unfold am_b2; split
  · exact h _ _ _
  · exact ct_const _
theorem ct_l2 (st : List Value) {f : am_C → am_K → Int64 → Int64 → List Value → Option am_Q} (h : ∀ v w r, am_Ct (fun c k => f c k v w r)) : am_Ct (fun c k => am_l2 st (f c k)) := by
  unfold am_l2; split
  · exact h _ _ _
  · exact ct_const _
theorem ct_l1 (st : List Value) {f : am_C → am_K → Int64 → List Value → Option am_Q} (h : ∀ v r, am_Ct (fun c k => f c k v r)) : am_Ct (fun c k => am_l1 st (f c k)) := by
  unfold am_l1; split
  · exact h _ _
  · exact ct_const _
theorem ct_r1 (st : List Value) {f : am_C → am_K → Nat → List Value → Option am_Q} (h : ∀ v r, am_Ct (fun c k => f c k v r)) : am_Ct (fun c k => am_r1 st (f c k)) := by
  unfold am_r1; split
  · exact h _ _
  · exact ct_const _
theorem ct_c1 (v : Value) {A : am_C → am_K → Option am_Q} (h : am_Ct A) : am_Ct (fun c k => am_c1 v (A c k)) := by
  unfold am_c1; split
  · exact ct_const _
  · exact ct_const _
  · exact h
theorem ct_sw (x : Int32) {f : am_C → am_K → Nat → Option am_Q} (h : ∀ t, am_Ct (fun c k => f c k t)) (d : Nat) : ∀ l : List (Int32 × Nat), am_Ct (fun c k => am_sw x (f c k) d l)
  | [] => h d
  | (v, t) :: l => by
    simp only [am_sw]
    exact ct_if _ (h t) (ct_sw x h d l)
theorem ct_bd (i : Int32) (n : Nat) {A : am_C → am_K → Option am_Q} (h : am_Ct A) : am_Ct (fun c k => am_bd i n (A c k)) := ct_if _ (ct_const _) h
theorem ct_ch (b r q : Nat) {A : am_C → am_K → Option am_Q} (h : am_Ct A) : am_Ct (fun c k => am_ch b r q (A c k)) := by
  unfold am_ch; split
  · exact h
  · exact ct_const _
theorem ct_gr (S R : Option Nat) {f : am_C → am_K → Nat → Option am_Q} (h : ∀ v, am_Ct (fun c k => f c k v)) : am_Ct (fun c k => am_gr S R (f c k)) := by
  unfold am_gr; split
  · exact h _
  · split
    · exact h _
    · exact ct_const _
theorem ct_gf (b : Nat) (S : Nat → Nat → Option Nat) (r a : Nat) (g : am_H) {f : am_C → am_K → Value → Option am_Q} (h : ∀ v, am_Ct (fun c k => f c k v)) : am_Ct (fun c k => am_gf b S r a g (f c k)) := by
  unfold am_gf
  refine ct_cd _ (ct_cd _ (ct_cd _ (h _) (h _)) (ct_const _)) (ct_ch _ _ _ ?_)
  split
  · exact h _
  · exact h _
  · exact ct_gr _ _ fun v => h _
  · exact h _
theorem ct_pf (b : Nat) (S : Nat → Nat → Option Nat) (r a : Nat) (v : Value) (g : am_H) {f : am_C → am_K → am_H → Option am_Q} (h : ∀ v, am_Ct (fun c k => f c k v)) : am_Ct (fun c k => am_pf b S r a v g (f c k)) := by
  unfold am_pf
  refine ct_ch _ _ _ ?_
  split
  · split
    · exact h _
    · exact ct_const _
  · split
    · exact h _
    · exact ct_const _
  · split
    · split
      · exact ct_cd _ (h _) (ct_const _)
      · exact ct_const _
    · exact ct_const _
  · split
    · exact ct_if _ (h _) (ct_const _)
    · exact ct_const _
theorem ct_al (b r : Nat) (g : am_H) {f : am_C → am_K → Int32 → Option am_Q} (h : ∀ v, am_Ct (fun c k => f c k v)) : am_Ct (fun c k => am_al b r g (f c k)) := ct_cd _ (h _) (ct_cd _ (h _) (ct_cd _ (h _) (ct_const _)))
theorem ct_il (b r : Nat) (i : Int32) (g : am_H) {f : am_C → am_K → Int32 → Option am_Q} (h : ∀ v, am_Ct (fun c k => f c k v)) : am_Ct (fun c k => am_il b r i g (f c k)) := ct_cd _ (ct_if _ (ct_const _) (h _)) (ct_ch _ _ _ (ct_bd _ _ (h _)))
theorem ct_bl (b r : Nat) (i : Int32) (g : am_H) {f : am_C → am_K → Int32 → Option am_Q} (h : ∀ v, am_Ct (fun c k => f c k v)) : am_Ct (fun c k => am_bl b r i g (f c k)) := ct_cd _ (ct_bd _ _ (h _)) (ct_ch _ _ _ (ct_bd _ _ (h _)))
theorem ct_ll (b r : Nat) (i : Int32) (g : am_H) {f : am_C → am_K → Int64 → Option am_Q} (h : ∀ v, am_Ct (fun c k => f c k v)) : am_Ct (fun c k => am_ll b r i g (f c k)) := ct_ch _ _ _ (ct_bd _ _ (h _))
theorem ct_is (b r q : Nat) (i v : Int32) (g : am_H) {f : am_C → am_K → am_H → Option am_Q} (h : ∀ v, am_Ct (fun c k => f c k v)) : am_Ct (fun c k => am_is b r q i v g (f c k)) := ct_ch _ _ _ (ct_bd _ _ (h _))
theorem ct_ls (b r : Nat) (i : Int32) (v : Int64) (g : am_H) {f : am_C → am_K → am_H → Option am_Q} (h : ∀ v, am_Ct (fun c k => f c k v)) : am_Ct (fun c k => am_ls b r i v g (f c k)) := ct_ch _ _ _ (ct_bd _ _ (h _))
theorem ct_na (al : am_H → Bool) (g : am_H) (t : ArrayType) (x : Int32) {f : am_C → am_K → am_H → Option am_Q} (h : ∀ v, am_Ct (fun c k => f c k v)) : am_Ct (fun c k => am_na al g t x (f c k)) := ct_cd _ (h _) (ct_const _)
theorem ct_no (al : am_H → Bool) (g : am_H) (q : Nat) {f : am_C → am_K → am_H → Option am_Q} (h : ∀ v, am_Ct (fun c k => f c k v)) : am_Ct (fun c k => am_no al g q (f c k)) := ct_cd _ (h _) (ct_const _)
theorem ct_rc (b mj : Nat) (x : List Value) {A : am_C → am_K → Option am_Q} (h : am_Ct A) : am_Ct (fun c k => am_rc b mj x (A c k)) := by
  unfold am_rc; split
  · split
    · exact ct_cd _ (ct_cd _ h (ct_const _)) (ct_ch _ _ _ h)
    · exact ct_const _
  · split
    · exact ct_ch _ _ _ h
    · exact ct_const _
  · exact h
theorem ct_mono {α : Type} {c : Nat → α → Option am_Q} (h : ∀ n a r, c n a = some r → c (n + 1) a = some r) : ∀ (d n : Nat) (a : α) (r : am_Q), c n a = some r → c (n + d) a = some r
  | 0, _, _, _, e => e
  | d + 1, n, a, r, e => h (n + d) a r (ct_mono h d n a r e)
/-- a call, then what follows -/
theorem ct_call (a : Nat) (x : List Value) (g : am_H) {F : Option am_Q → am_K → Option am_Q} (h0 : ∀ k, F none k = none) (h : ∀ q, am_Ct (fun _ k => F (some q) k)) : am_Ct (fun c k => F (c a x g) k) := by
  intro c k c' k' hc hk hc' hk' r
  have hcm : ∀ (d n : Nat) (q : am_Q), c n a x g = some q → c (n + d) a x g = some q := fun d n q e => ct_mono (c := fun n (_ : Unit) => c n a x g) (fun n _ r e => hc n a x g r e) d n () q e
  show F (c' a x g) k' = some r ↔ ∃ n, F (c n a x g) (k n) = some r
  constructor
  · intro e
    cases hq : c' a x g with
    | none => rw [hq, h0] at e; cases e
    | some q =>
      rw [hq] at e
      obtain ⟨n, hn⟩ := (hc' a x g q).mp hq
      obtain ⟨m, hm⟩ := (h q c k c' k' hc hk hc' hk' r).mp e
      have h1 : F (some q) (k (m + n)) = some r := by
        have := (h q c (fun i => if i = 0 then k m else k (m + n)) c' (k (m + n)) hc (by
          intro i a1 x1 y1 g1 r1 e1
          by_cases hi : i = 0
          · subst hi
            exact ct_mono (c := fun n (z : Nat × am_L × List Value × am_H) => k n z.1 z.2.1 z.2.2.1 z.2.2.2) (fun n z r e => hk n _ _ _ _ r e) n m (a1, x1, y1, g1) r1 e1
          · simpa [hi] using e1) hc' (by
          intro a1 x1 y1 g1 r1
          constructor
          · intro e1; exact ⟨1, e1⟩
          · rintro ⟨i, e1⟩
            by_cases hi : i = 0
            · subst hi
              exact ct_mono (c := fun n (z : Nat × am_L × List Value × am_H) => k n z.1 z.2.1 z.2.2.1 z.2.2.2) (fun n z r e => hk n _ _ _ _ r e) n m (a1, x1, y1, g1) r1 e1
            · simpa [hi] using e1) r).mpr ⟨0, hm⟩
        exact this
      exact ⟨m + n, by rw [Nat.add_comm m n, hcm m n q hn, Nat.add_comm n m]; exact h1⟩
  · rintro ⟨n, e⟩
    cases hq : c n a x g with
    | none => rw [hq, h0] at e; cases e
    | some q =>
      rw [hq] at e
      rw [(hc' a x g q).mpr ⟨n, hq⟩]
      exact (h q c k c' k' hc hk hc' hk' r).mpr ⟨n, e⟩
theorem ct_bI (hd : List (Nat × Int32)) (a : Nat) (x : List Value) (g : am_H) {f : am_K → Int32 → am_H → Option am_Q} (h : ∀ v g, am_Ct (fun _ k => f k v g)) : am_Ct (fun c k => am_bI hd (c a x g) (f k)) := by
  refine ct_call a x g (F := fun o k => am_bI hd o (f k)) (fun k => rfl) fun q => ?_
  unfold am_bI
  split
  · exact h _ _
  · exact ct_const _
  · exact ct_const _
theorem ct_bL (hd : List (Nat × Int32)) (a : Nat) (x : List Value) (g : am_H) {f : am_K → Int64 → am_H → Option am_Q} (h : ∀ v g, am_Ct (fun _ k => f k v g)) : am_Ct (fun c k => am_bL hd (c a x g) (f k)) := by
  refine ct_call a x g (F := fun o k => am_bL hd o (f k)) (fun k => rfl) fun q => ?_
  unfold am_bL
  split
  · exact h _ _
  · exact ct_const _
  · exact ct_const _
theorem ct_bV (hd : List (Nat × Int32)) (a : Nat) (x : List Value) (g : am_H) {f : am_K → am_H → Option am_Q} (h : ∀ g, am_Ct (fun _ k => f k g)) : am_Ct (fun c k => am_bV hd (c a x g) (f k)) := by
  refine ct_call a x g (F := fun o k => am_bV hd o (f k)) (fun k => rfl) fun q => ?_
  unfold am_bV
  split
  · exact h _
  · exact ct_const _
  · exact ct_const _
theorem ct_mth (a : Nat) (st : List Value) {f : am_C → am_K → Int32 → List Value → Option am_Q} (h : ∀ v r, am_Ct (fun c k => f c k v r)) : am_Ct (fun c k => am_mth a st (f c k)) := by
  unfold am_mth
  split
  · exact ct_u1 _ fun v r => ct_cd _ (h _ _) (ct_const _)
  · exact ct_b2 _ fun v w r => ct_cd _ (h _ _) (ct_const _)
theorem ct_cl (b : Nat) (fl : Bool) (ρ : Nat) (mi : Nat) (ls : am_L) (st : List Value) (h : am_H) (pc n a : Nat) : am_Ct (fun c k => am_cl b fl ρ c mi k ls st h pc n a) := by
  unfold am_cl
  refine ct_rc _ _ _ (ct_cd _ ?_ (ct_const _))
  split
  · exact ct_bV _ _ _ _ fun g => ct_k _ _ _ _
  · exact ct_bL _ _ _ _ fun v g => ct_k _ _ _ _
  · exact ct_bI _ _ _ _ fun v g => ct_k _ _ _ _
set_option maxHeartbeats 4000000 in
theorem ct_st (b : Nat) (S : Nat → Nat → Option Nat) (fl : Bool) (ρ : Nat) (al : am_H → Bool) (mi pc : Nat) (ls : am_L) (st : List Value) (h : am_H) (i : Instr) (n : Nat) (x : Int32) (a : Nat) :
    am_Ct (fun c k => am_st b S fl ρ c al k mi pc ls st h i n x a) := by
  unfold am_st
  split
  all_goals (first
    | exact ct_const _
    | exact ct_k _ _ _ _
    | exact ct_cd _ (ct_k _ _ _ _) (ct_k _ _ _ _)
    | exact ct_ldi _ _ fun v => ct_k _ _ _ _
    | exact ct_lda _ _ fun v => ct_k _ _ _ _
    | exact ct_ldl _ _ fun v => ct_k _ _ _ _
    | exact ct_ldi _ _ fun v => ct_cd _ (ct_k _ _ _ _) (ct_const _)
    | exact ct_u1 _ fun v r => ct_k _ _ _ _
    | exact ct_u1 _ fun v r => ct_cd _ (ct_k _ _ _ _) (ct_const _)
    | exact ct_r1 _ fun v r => ct_cd _ (ct_k _ _ _ _) (ct_const _)
    | exact ct_l1 _ fun v r => ct_k _ _ _ _
    | exact ct_l1 _ fun v r => ct_cd _ (ct_k _ _ _ _) (ct_const _)
    | exact ct_b2 _ fun v w r => ct_k _ _ _ _
    | exact ct_b2 _ fun v w r => ct_if _ (ct_const _) (ct_k _ _ _ _)
    | exact ct_l2 _ fun v w r => ct_k _ _ _ _
    | exact ct_l2 _ fun v w r => ct_if _ (ct_const _) (ct_k _ _ _ _)
    | exact ct_b2 _ fun v w r => ct_cm _ _ _ (ct_k _ _ _ _) (ct_k _ _ _ _)
    | exact ct_u1 _ fun v r => ct_cm _ _ _ (ct_k _ _ _ _) (ct_k _ _ _ _)
    | exact ct_u1 _ fun v r => ct_sw _ (fun t => ct_k _ _ _ _) _ _
    | exact ct_r1 _ fun v r => ct_gf _ _ _ _ _ fun v => ct_k _ _ _ _
    | exact ct_r1 _ fun v r => ct_al _ _ _ fun v => ct_k _ _ _ _
    | exact ct_u1 _ fun v r => ct_cd _ (ct_na _ _ _ _ fun v => ct_k _ _ _ _) (ct_const _)
    | exact ct_cl _ _ _ _ _ _ _ _ _ _
    | exact ct_cd _ (ct_mth _ _ fun v r => ct_k _ _ _ _) (ct_cl _ _ _ _ _ _ _ _ _ _)
    | exact ct_cd _ (ct_r1 _ fun v r => ct_cd _ (ct_k _ _ _ _) (ct_const _)) (ct_cl _ _ _ _ _ _ _ _ _ _)
    | (refine ct_cd _ (ct_cd _ (ct_no _ _ _ fun v => ct_k _ _ _ _) (ct_const _)) ?_; split <;> exact ct_const _)
    | (split <;> first
        | exact ct_const _
        | exact ct_k _ _ _ _
        | exact ct_c1 _ (ct_k _ _ _ _)
        | exact ct_c1 _ (ct_c1 _ (ct_k _ _ _ _))
        | exact ct_pf _ _ _ _ _ _ fun v => ct_k _ _ _ _
        | exact ct_il _ _ _ _ fun v => ct_k _ _ _ _
        | exact ct_bl _ _ _ _ fun v => ct_k _ _ _ _
        | exact ct_ll _ _ _ _ fun v => ct_k _ _ _ _
        | exact ct_is _ _ _ _ _ _ fun v => ct_k _ _ _ _
        | exact ct_ls _ _ _ _ _ fun v => ct_k _ _ _ _))
theorem ct_s1 (b : Nat) (S : Nat → Nat → Option Nat) (fl : Bool) (ρ : Nat) (al : am_H → Bool) (mi pc : Nat) (ls : am_L) (st : List Value) (h : am_H) : am_Ct (fun c k => am_s1 b S fl ρ c al k mi pc ls st h) := by
  unfold am_s1
  split
  · exact ct_const _
  · exact ct_st _ _ _ _ _ _ _ _ _ _ _ _ _ _
theorem ct_le {F : am_C → am_K → Option am_Q} (hF : am_Ct F) {c c' : am_C} {k k' : am_K} (hc : ∀ a x h r, c a x h = some r → c' a x h = some r) (hk : ∀ a x y h r, k a x y h = some r → k' a x y h = some r) {r : am_Q} (e : F c k = some r) : F c' k' = some r := by
  refine (hF (fun n => if n = 0 then c else c') (fun n => if n = 0 then k else k') c' k' ?_ ?_ ?_ ?_ r).mpr ⟨0, e⟩
  · intro n a x h r e
    by_cases hn : n = 0
    · subst hn; exact hc _ _ _ _ e
    · simpa [hn] using e
  · intro n a x y h r e
    by_cases hn : n = 0
    · subst hn; exact hk _ _ _ _ _ e
    · simpa [hn] using e
  · intro a x h r
    refine ⟨fun e => ⟨1, e⟩, fun ⟨n, e⟩ => ?_⟩
    by_cases hn : n = 0
    · subst hn; exact hc _ _ _ _ e
    · simpa [hn] using e
  · intro a x y h r
    refine ⟨fun e => ⟨1, e⟩, fun ⟨n, e⟩ => ?_⟩
    by_cases hn : n = 0
    · subst hn; exact hk _ _ _ _ _ e
    · simpa [hn] using e
theorem am_ev_up (B : am_B) : ∀ (f ρ mi pc : Nat) (ls : am_L) (st : List Value) (h : am_H) (r : am_Q), am_ev B f ρ mi pc ls st h = some r → am_ev B (f + 1) ρ mi pc ls st h = some r
  | 0, _, _, _, _, _, _, _, e => by cases e
  | f + 1, ρ, mi, pc, ls, st, h, r, e => by
    rw [am_ev] at e ⊢
    exact ct_le (ct_s1 _ _ _ _ _ _ _ _ _ _) (fun a x g r e => am_ev_up B f _ _ _ _ _ _ _ e) (fun a x y g r e => am_ev_up B f _ _ _ _ _ _ _ e) e
theorem am_ev_le (B : am_B) (d : Nat) {f ρ mi pc : Nat} {ls : am_L} {st : List Value} {h : am_H} {r : am_Q} (e : am_ev B f ρ mi pc ls st h = some r) : am_ev B (f + d) ρ mi pc ls st h = some r :=
  ct_mono (c := fun n (_ : Unit) => am_ev B n ρ mi pc ls st h) (fun n _ r e => am_ev_up B n _ _ _ _ _ _ r e) d f () r e
/-- what a run comes to -/
noncomputable def am_vn (B : am_B) (ρ mi pc : Nat) (ls : am_L) (st : List Value) (h : am_H) : Option am_Q :=
  @dite (Option am_Q) (∃ (r : am_Q) (f : Nat), am_ev B f ρ mi pc ls st h = some r) (Classical.propDecidable _) (fun e => some e.choose) (fun _ => none)
theorem am_vn_iff {B : am_B} {ρ mi pc : Nat} {ls : am_L} {st : List Value} {h : am_H} {r : am_Q} : am_vn B ρ mi pc ls st h = some r ↔ ∃ f, am_ev B f ρ mi pc ls st h = some r := by
  unfold am_vn
  constructor
  · intro e
    split at e
    · rename_i e1
      cases e
      exact e1.choose_spec
    · cases e
  · rintro ⟨f, e⟩
    have e1 : ∃ (r : am_Q) (f : Nat), am_ev B f ρ mi pc ls st h = some r := ⟨r, f, e⟩
    rw [dif_pos e1]
    obtain ⟨g, e2⟩ := e1.choose_spec
    have h1 := am_ev_le B g e
    have h2 := am_ev_le B f e2
    rw [Nat.add_comm g f, h1] at h2
    rw [Option.some.inj h2]
noncomputable def am_run (B : am_B) (mj : Nat) (args : List Value) (h : am_H) : Option am_Q := am_vn B (am_rk mj args) mj 0 (am_pad (am_ml mj) (am_la args)) [] h
theorem am_fix (B : am_B) (ρ mi pc : Nat) (ls : am_L) (st : List Value) (h : am_H) : am_vn B ρ mi pc ls st h = am_s1 (B.1 h) B.2.1 B.2.2 ρ (am_run B) (am_al9 B) (am_vn B ρ mi) mi pc (am_ms (am_mt mi pc) ls) st h := by
  refine Option.ext fun r => ?_
  rw [am_vn_iff, ct_s1 (B.1 h) B.2.1 B.2.2 ρ (am_al9 B) mi pc (am_ms (am_mt mi pc) ls) st h (fun f mj args g => am_ev B f (am_rk mj args) mj 0 (am_pad (am_ml mj) (am_la args)) [] g) (fun f pc' ls' st' g => am_ev B f ρ mi pc' ls' st' g) (am_run B) (am_vn B ρ mi)
    (fun n a x h r e => am_ev_up B n _ _ _ _ _ _ r e) (fun n a x y h r e => am_ev_up B n _ _ _ _ _ _ r e) (fun a x h r => am_vn_iff) (fun a x y h r => am_vn_iff) r]
  constructor
  · rintro ⟨f, e⟩
    cases f with
    | zero => cases e
    | succ f => rw [am_ev] at e; exact ⟨f, e⟩
  · rintro ⟨f, e⟩
    exact ⟨f + 1, by rw [am_ev]; exact e⟩
/-- the mode of the runs: all hundred objects are there -/
def am_N : Nat := 100
abbrev am_M : am_B := (fun _ => 100, am_rs1, false)
/-- many instructions at once, up to marked places; what follows there: O -/
def am_go (ρ : Nat) (call : am_C) (O : am_K) (mi : Nat) : Nat → Nat → am_L → List Value → am_H → Option am_Q
  | 0, pc, ls, st, h => O pc ls st h
  | n + 1, pc, ls, st, h => am_s1 100 am_rs1 false ρ call (am_al9 am_M) (fun pc' ls' st' h' => match am_mt mi pc' with
    | some m => O pc' (am_mk m ls') st' h'
    | none => am_go ρ call O mi n pc' ls' st' h') mi pc ls st h
theorem am_mk_mk : ∀ (m : List Bool) (l : am_L), am_mk m (am_mk m l) = am_mk m l
  | true :: m, a :: l => by simp only [am_mk]; rw [am_mk_mk m l]
  | false :: m, _ :: l => by simp only [am_mk]; rw [am_mk_mk m l]
  | [], l => by simp [am_mk]
  | true :: m, [] => by simp [am_mk]
  | false :: m, [] => by simp [am_mk]
theorem am_go_eq (ρ mi : Nat) : ∀ (n pc : Nat) (ls : am_L) (st : List Value) (h : am_H), am_go ρ (am_run am_M) (am_vn am_M ρ mi) mi (n + 1) pc ls st h = am_s1 100 am_rs1 false ρ (am_run am_M) (am_al9 am_M) (am_vn am_M ρ mi) mi pc ls st h := by
  intro n
  induction n with
  | zero =>
    intro pc ls st h
    rw [am_go]
    congr 1
    funext pc' ls' st' h'
    split
    · rename_i m hm
      rw [am_fix am_M ρ mi pc' (am_mk m ls'), am_fix am_M ρ mi pc' ls', hm]
      simp only [am_ms]
      rw [am_mk_mk]
    · rfl
  | succ n ih =>
    intro pc ls st h
    rw [am_go]
    congr 1
    funext pc' ls' st' h'
    split
    · rename_i m hm
      rw [am_fix am_M ρ mi pc' (am_mk m ls'), am_fix am_M ρ mi pc' ls', hm]
      simp only [am_ms]
      rw [am_mk_mk]
    · rename_i hm
      rw [ih, am_fix am_M ρ mi pc' ls', hm]
      rfl
theorem am_E (n : Nat) {ρ mi pc : Nat} {ls : am_L} {st : List Value} {h : am_H} (hm : am_ms (am_mt mi pc) ls = ls) : am_vn am_M ρ mi pc ls st h = am_go ρ (am_run am_M) (am_vn am_M ρ mi) mi (n + 1) pc ls st h := by
  rw [am_go_eq, am_fix, hm]
