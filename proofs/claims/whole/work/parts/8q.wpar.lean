/-! WINTER: the language of deeds, read from the left -/
abbrev wp_Q : Type := (Nat × Nat) ⊕ (Nat × List Nat)
def wp_bd (r : wp_Q) (f : Nat → List Nat → wp_Q) : wp_Q := match r with
  | .inl e => .inl e
  | .inr (s, l) => f s l
def wp_lp (tp : Nat → Nat) (n : Nat) (op : Nat → Nat) (sub : Nat → List Nat → wp_Q) : Nat → Nat → List Nat → wp_Q
  | 0, s, l => .inr (s, l)
  | f + 1, s, l => if op s = 0 then .inr (s, l) else match sub (wl_x tp n s) l with
    | .inl e => .inl e
    | .inr (s', l') => wp_lp tp n op sub f s' (l' ++ [op s])
def wp_cn (tp : Nat → Nat) (n : Nat) (op : Nat → Nat) (sub : Nat → List Nat → wp_Q) (s : Nat) (l : List Nat) : wp_Q := wp_bd (sub s l) (wp_lp tp n op sub 700)
section
variable (tp : Nat → Nat) (n j : Nat) (ex : Nat → List Nat → wp_Q)
def wp_om (s : Nat) : Nat := if wl_k tp n s = 42 then 20007 else if wl_k tp n s = 47 then 20008 else 0
def wp_oa (s : Nat) : Nat := if wl_k tp n s = 43 then 20005 else if wl_k tp n s = 45 then 20006 else 0
def wp_oc (s : Nat) : Nat := if wl_k tp n s = 60 then 20003 else if wl_k tp n s = 61 then 20004 else 0
def wp_od (s : Nat) : Nat := if wl_w tp n s = 22 then 20001 else 0
def wp_oo (s : Nat) : Nat := if wl_w tp n s = 23 then 20000 else 0
def wp_nm (s : Nat) (l : List Nat) : wp_Q := if wl_k tp n s = 2 then (if wl_z tp n s - s ≤ 4 then .inr (wl_x tp n s, l ++ [wl_v tp n s]) else .inl (2, s)) else .inl (1, s)
def wp_pt (s : Nat) (l : List Nat) : wp_Q := if wl_k tp n s = 40 then wp_bd (ex (wl_x tp n s) l) (fun s' l' => if wl_k tp n s' = 41 then .inr (wl_x tp n s', l') else .inl (1, s')) else if wl_k tp n s = 1 then (if wl_ix (wl_V j) (wl_w tp n s) < 7 then .inr (wl_x tp n s, l ++ [10000 + wl_ix (wl_V j) (wl_w tp n s)]) else .inl (3, s)) else wp_nm tp n s l
def wp_pr : Nat → List Nat → wp_Q := wp_cn tp n (wp_om tp n) (wp_pt tp n j ex)
def wp_su : Nat → List Nat → wp_Q := wp_cn tp n (wp_oa tp n) (wp_pr tp n j ex)
def wp_te (s : Nat) (l : List Nat) : wp_Q := wp_bd (wp_su tp n j ex s l) (fun s' l' => if wp_oc tp n s' = 0 then .inr (s', l') else wp_bd (wp_su tp n j ex (wl_x tp n s') l') (fun s2 l2 => .inr (s2, l2 ++ [wp_oc tp n s'])))
def wp_no : Nat → Nat → List Nat → wp_Q
  | 0, s, l => if wl_w tp n s = 24 then .inl (2, s) else wp_te tp n j ex s l
  | r + 1, s, l => if wl_w tp n s = 24 then wp_bd (wp_no r (wl_x tp n s) l) (fun s' l' => .inr (s', l' ++ [20002])) else wp_te tp n j ex s l
def wp_an : Nat → List Nat → wp_Q := wp_cn tp n (wp_od tp n) (wp_no tp n j ex 6)
def wp_or : Nat → List Nat → wp_Q := wp_cn tp n (wp_oo tp n) (wp_an tp n j ex)
end
def wp_ex (tp : Nat → Nat) (n j : Nat) : Nat → Nat → List Nat → wp_Q
  | 0, s, _ => .inl (if wl_k tp n s = 2 ∨ wl_k tp n s = 1 ∨ wl_k tp n s = 40 then 2 else 1, s)
  | d + 1, s, l => wp_or tp n j (wp_ex tp n j d) s l
/-! what comes of it -/
def wp_v (l : List Nat) : Prop := ∀ s ∈ l, s < 10007 ∨ 20000 ≤ s ∧ s ≤ 20008
def wp_G (D n s : Nat) (l : List Nat) : wp_Q → Prop
  | .inl (f, _) => 1 ≤ f ∧ f ≤ 6
  | .inr (s', l') => s < s' ∧ s' ≤ n ∧ l'.length + s ≤ l.length + s' ∧ (wp_v l → wp_v l') ∧ ∀ m, pd_dp l 0 = some m → m + D ≤ 40 → pd_dp l' 0 = some (m + 1)
theorem wp_dp_ap (r : List Nat) : ∀ (l : List Nat) (a k : Nat), pd_dp l a = some k → pd_dp (l ++ r) a = pd_dp r k
  | [], a, k, h => by rw [show a = k from Option.some.inj h]; rfl
  | s :: l, a, k, h => by
    rw [List.cons_append]
    rw [pd_dp] at h ⊢
    split
    · rename_i c1
      rw [if_pos c1] at h
      split
      · rename_i c2
        rw [if_pos c2] at h
        exact wp_dp_ap r l _ _ h
      · rename_i c2
        rw [if_neg c2] at h
        exact absurd h (by simp)
    · rename_i c1
      rw [if_neg c1] at h
      split
      · rename_i c2
        rw [if_pos c2] at h
        split
        · rename_i c3
          rw [if_pos c3] at h
          exact wp_dp_ap r l _ _ h
        · rename_i c3
          rw [if_neg c3] at h
          exact absurd h (by simp)
      · rename_i c2
        rw [if_neg c2] at h
        split
        · rename_i c3
          rw [if_pos c3] at h
          exact wp_dp_ap r l _ _ h
        · rename_i c3
          rw [if_neg c3] at h
          exact absurd h (by simp)
theorem wp_dp_0 {l : List Nat} {m c : Nat} (h : pd_dp l 0 = some m) (hc : c < 20000) (hm : m < 40) : pd_dp (l ++ [c]) 0 = some (m + 1) := by
  rw [wp_dp_ap _ _ _ _ h]
  unfold pd_dp
  rw [if_pos hc, if_pos hm]
  rfl
theorem wp_dp_1 {l : List Nat} {m : Nat} (h : pd_dp l 0 = some m) (hm : 0 < m) : pd_dp (l ++ [20002]) 0 = some m := by
  rw [wp_dp_ap _ _ _ _ h]
  unfold pd_dp
  rw [if_neg (by omega), if_pos rfl, if_pos hm]
  rfl
theorem wp_dp_2 {l : List Nat} {m c : Nat} (h : pd_dp l 0 = some (m + 2)) (hc : 20000 ≤ c) (h2 : c ≠ 20002) : pd_dp (l ++ [c]) 0 = some (m + 1) := by
  rw [wp_dp_ap _ _ _ _ h]
  unfold pd_dp
  rw [if_neg (by omega), if_neg h2, if_pos (by omega)]
  rfl
theorem wp_v_ap {l : List Nat} {c : Nat} (h : wp_v l) (hc : c < 10007 ∨ 20000 ≤ c ∧ c ≤ 20008) : wp_v (l ++ [c]) := by
  intro s hs
  rcases List.mem_append.mp hs with a | a
  · exact h s a
  · rw [List.mem_singleton.mp a]; exact hc
theorem wp_l1 (l : List Nat) (c : Nat) : (l ++ [c]).length = l.length + 1 := List.length_append
/-- a joining sign -/
def wp_O (n : Nat) (op : Nat → Nat) : Prop := ∀ s, op s = 0 ∨ 20000 ≤ op s ∧ op s ≤ 20008 ∧ op s ≠ 20002 ∧ s < n
def wp_SG (D n : Nat) (sub : Nat → List Nat → wp_Q) : Prop := ∀ s l, s ≤ n → wp_G D n s l (sub s l)
section
variable {tp : Nat → Nat} {n j D : Nat} {op : Nat → Nat} {sub : Nat → List Nat → wp_Q}
theorem wp_lpG (hO : wp_O n op) (hs : wp_SG D n sub) {s0 : Nat} {l0 : List Nat} : ∀ (f s : Nat) (l : List Nat), wp_G (D + 1) n s0 l0 (.inr (s, l)) → wp_G (D + 1) n s0 l0 (wp_lp tp n op sub f s l)
  | 0, s, l, h => h
  | f + 1, s, l, h => by
    rw [wp_lp]
    rcases hO s with c | ⟨c1, c2, c3, c4⟩
    · rw [if_pos c]; exact h
    · rw [if_neg (by omega)]
      have hx := wl_x_gt (tp := tp) c4
      have g := hs (wl_x tp n s) l (wl_x_le (by omega))
      obtain ⟨h1, h2, h3, h4, h5⟩ := h
      cases hr : sub (wl_x tp n s) l with
      | inl e => rw [hr] at g; exact g
      | inr p =>
        obtain ⟨s', l'⟩ := p
        rw [hr] at g
        obtain ⟨g1, g2, g3, g4, g5⟩ := g
        refine wp_lpG hO hs f s' _ ⟨by omega, g2, by rw [wp_l1]; omega, fun hv => wp_v_ap (g4 (h4 hv)) (Or.inr ⟨c1, c2⟩), fun m hm hD => ?_⟩
        exact wp_dp_2 (g5 (m + 1) (h5 m hm hD) (by omega)) c1 c3
theorem wp_cnG (hO : wp_O n op) (hs : wp_SG D n sub) : wp_SG (D + 1) n (wp_cn tp n op sub) := by
  intro s l hn
  have g := hs s l hn
  unfold wp_cn
  cases hr : sub s l with
  | inl e => rw [hr] at g; exact g
  | inr p =>
    obtain ⟨s', l'⟩ := p
    rw [hr] at g
    obtain ⟨g1, g2, g3, g4, g5⟩ := g
    exact wp_lpG hO hs 700 s' l' ⟨g1, g2, g3, g4, fun m hm hD => g5 m hm (by omega)⟩
/-- a run of such signs ends at none -/
theorem wp_lp_end (hO : wp_O n op) (hs : wp_SG D n sub) : ∀ (f s : Nat) (l : List Nat), n ≤ s + f → s ≤ n → ∀ s' l', wp_lp tp n op sub f s l = .inr (s', l') → op s' = 0
  | 0, s, l, h, hn, s', l', e => by
    rw [wp_lp] at e
    obtain ⟨rfl, rfl⟩ := Prod.mk.inj (Sum.inr.inj e)
    rcases hO s with c | c
    · exact c
    · omega
  | f + 1, s, l, h, hn, s', l', e => by
    rw [wp_lp] at e
    rcases hO s with c | ⟨c1, c2, c3, c4⟩
    · rw [if_pos c] at e
      obtain ⟨rfl, rfl⟩ := Prod.mk.inj (Sum.inr.inj e)
      exact c
    · rw [if_neg (by omega)] at e
      have hx := wl_x_gt (tp := tp) c4
      have g := hs (wl_x tp n s) l (wl_x_le (by omega))
      cases hr : sub (wl_x tp n s) l with
      | inl e2 => rw [hr] at e; exact absurd e (by simp)
      | inr p =>
        obtain ⟨s2, l2⟩ := p
        rw [hr] at e g
        exact wp_lp_end hO hs f s2 _ (by have := g.1; omega) g.2.1 s' l' e
theorem wp_omO : wp_O n (wp_om tp n) := by
  intro s
  unfold wp_om
  split
  · rename_i c; exact Or.inr ⟨by omega, by omega, by omega, wl_k_lt (tp := tp) (n := n) (s := s) (by omega)⟩
  · split
    · rename_i c; exact Or.inr ⟨by omega, by omega, by omega, wl_k_lt (tp := tp) (n := n) (s := s) (by omega)⟩
    · exact Or.inl rfl
theorem wp_oaO : wp_O n (wp_oa tp n) := by
  intro s
  unfold wp_oa
  split
  · rename_i c; exact Or.inr ⟨by omega, by omega, by omega, wl_k_lt (tp := tp) (n := n) (s := s) (by omega)⟩
  · split
    · rename_i c; exact Or.inr ⟨by omega, by omega, by omega, wl_k_lt (tp := tp) (n := n) (s := s) (by omega)⟩
    · exact Or.inl rfl
theorem wp_ocO : wp_O n (wp_oc tp n) := by
  intro s
  unfold wp_oc
  split
  · rename_i c; exact Or.inr ⟨by omega, by omega, by omega, wl_k_lt (tp := tp) (n := n) (s := s) (by omega)⟩
  · split
    · rename_i c; exact Or.inr ⟨by omega, by omega, by omega, wl_k_lt (tp := tp) (n := n) (s := s) (by omega)⟩
    · exact Or.inl rfl
theorem wl_w_lt {s : Nat} (h : wl_w tp n s < 25) : s < n := wl_k_lt (by rw [wl_w_1 h]; omega)
theorem wp_odO : wp_O n (wp_od tp n) := by
  intro s
  unfold wp_od
  split
  · rename_i c; exact Or.inr ⟨by omega, by omega, by omega, wl_w_lt (tp := tp) (n := n) (s := s) (by omega)⟩
  · exact Or.inl rfl
theorem wp_ooO : wp_O n (wp_oo tp n) := by
  intro s
  unfold wp_oo
  split
  · rename_i c; exact Or.inr ⟨by omega, by omega, by omega, wl_w_lt (tp := tp) (n := n) (s := s) (by omega)⟩
  · exact Or.inl rfl
theorem wl_v_lt {s : Nat} (h : wl_k tp n s = 2) : wl_v tp n s < 10000 := by
  obtain ⟨h1, h2, h3⟩ := wl_k_2.mp h
  have hz : wl_z tp n s = wl_e wl_dg tp n s := by
    unfold wl_z; rw [if_neg (by omega), if_neg (by rw [h2]; decide), if_pos h3]
  have hl := wl_n_lt (tp := tp) (s := s) (min 4 (wl_z tp n s - s)) (fun i hi => wl_e_in wl_dg tp n _ s (s + i) rfl (by omega) (by rw [← hz]; omega))
  have : (10 : Nat) ^ (min 4 (wl_z tp n s - s)) ≤ 10 ^ 4 := Nat.pow_le_pow_right (by omega) (by omega)
  unfold wl_v
  omega
theorem wp_nmG {s : Nat} {l : List Nat} (hD : 1 ≤ D) (hn : s ≤ n) : wp_G D n s l (wp_nm tp n s l) := by
  unfold wp_nm
  by_cases c : wl_k tp n s = 2
  · rw [if_pos c]
    have hv := wl_v_lt c
    have hs := wl_k_lt (tp := tp) (n := n) (s := s) (by omega)
    have hx := wl_x_gt (tp := tp) hs
    by_cases c2 : wl_z tp n s - s ≤ 4
    · rw [if_pos c2]
      exact ⟨hx, wl_x_le hn, by rw [wp_l1]; omega, fun h => wp_v_ap h (Or.inl (by omega)), fun m hm h40 => wp_dp_0 hm (by omega) (by omega)⟩
    · rw [if_neg c2]; exact ⟨by omega, by omega⟩
  · rw [if_neg c]; exact ⟨by omega, by omega⟩
theorem wp_ptG {ex : Nat → List Nat → wp_Q} (hD : 1 ≤ D) (he : wp_SG D n ex) : wp_SG D n (wp_pt tp n j ex) := by
  intro s l hn
  unfold wp_pt
  by_cases c : wl_k tp n s = 40
  · rw [if_pos c]
    have hs := wl_k_lt (tp := tp) (n := n) (s := s) (by omega)
    have hx := wl_x_gt (tp := tp) hs
    have g := he (wl_x tp n s) l (wl_x_le hn)
    cases hr : ex (wl_x tp n s) l with
    | inl e => rw [hr] at g; exact g
    | inr p =>
      obtain ⟨s', l'⟩ := p
      rw [hr] at g
      obtain ⟨g1, g2, g3, g4, g5⟩ := g
      show wp_G D n s l (if wl_k tp n s' = 41 then .inr (wl_x tp n s', l') else .inl (1, s'))
      by_cases c2 : wl_k tp n s' = 41
      · have hs' := wl_k_lt (tp := tp) (n := n) (s := s') (by omega)
        have hx' := wl_x_gt (tp := tp) hs'
        rw [if_pos c2]
        exact ⟨by omega, wl_x_le g2, by omega, g4, g5⟩
      · rw [if_neg c2]; exact ⟨by omega, by omega⟩
  · rw [if_neg c]
    by_cases c1 : wl_k tp n s = 1
    · rw [if_pos c1]
      have hs := wl_k_lt (tp := tp) (n := n) (s := s) (by omega)
      have hx := wl_x_gt (tp := tp) hs
      by_cases c2 : wl_ix (wl_V j) (wl_w tp n s) < 7
      · rw [if_pos c2]
        exact ⟨hx, wl_x_le hn, by rw [wp_l1]; omega, fun h => wp_v_ap h (Or.inl (by omega)), fun m hm h40 => wp_dp_0 hm (by omega) (by omega)⟩
      · rw [if_neg c2]; exact ⟨by omega, by omega⟩
    · rw [if_neg c1]; exact wp_nmG hD hn
theorem wp_teG {ex : Nat → List Nat → wp_Q} (hs : wp_SG D n (wp_su tp n j ex)) : wp_SG (D + 1) n (wp_te tp n j ex) := by
  intro s l hn
  have g := hs s l hn
  unfold wp_te
  cases hr : wp_su tp n j ex s l with
  | inl e => rw [hr] at g; exact g
  | inr p =>
    obtain ⟨s', l'⟩ := p
    rw [hr] at g
    obtain ⟨g1, g2, g3, g4, g5⟩ := g
    show wp_G (D + 1) n s l (if wp_oc tp n s' = 0 then .inr (s', l') else wp_bd (wp_su tp n j ex (wl_x tp n s') l') (fun s2 l2 => .inr (s2, l2 ++ [wp_oc tp n s'])))
    rcases wp_ocO (tp := tp) (n := n) s' with c | ⟨c1, c2, c3, c4⟩
    · rw [if_pos c]; exact ⟨g1, g2, g3, g4, fun m hm hD => g5 m hm (by omega)⟩
    · rw [if_neg (by omega)]
      have hx := wl_x_gt (tp := tp) c4
      have g' := hs (wl_x tp n s') l' (wl_x_le (by omega))
      cases hr2 : wp_su tp n j ex (wl_x tp n s') l' with
      | inl e => rw [hr2] at g'; exact g'
      | inr p =>
        obtain ⟨s2, l2⟩ := p
        rw [hr2] at g'
        obtain ⟨k1, k2, k3, k4, k5⟩ := g'
        exact ⟨by omega, k2, by rw [wp_l1]; omega, fun hv => wp_v_ap (k4 (g4 hv)) (Or.inr ⟨c1, c2⟩), fun m hm hD => wp_dp_2 (k5 (m + 1) (g5 m hm (by omega)) (by omega)) c1 c3⟩
theorem wp_noG {ex : Nat → List Nat → wp_Q} (hs : wp_SG D n (wp_te tp n j ex)) : ∀ r, wp_SG D n (wp_no tp n j ex r)
  | 0, s, l, hn => by
    rw [wp_no]
    split
    · exact ⟨by omega, by omega⟩
    · exact hs s l hn
  | r + 1, s, l, hn => by
    rw [wp_no]
    by_cases c : wl_w tp n s = 24
    · rw [if_pos c]
      have hx := wl_x_gt (tp := tp) (wl_w_lt (tp := tp) (n := n) (s := s) (by omega))
      have g := wp_noG hs r (wl_x tp n s) l (wl_x_le hn)
      cases hr : wp_no tp n j ex r (wl_x tp n s) l with
      | inl e => rw [hr] at g; exact g
      | inr p =>
        obtain ⟨s', l'⟩ := p
        rw [hr] at g
        obtain ⟨g1, g2, g3, g4, g5⟩ := g
        exact ⟨by omega, g2, by rw [wp_l1]; omega, fun hv => wp_v_ap (g4 hv) (Or.inr ⟨by omega, by omega⟩), fun m hm hD => wp_dp_1 (g5 m hm hD) (by omega)⟩
    · rw [if_neg c]; exact hs s l hn
theorem wp_orG {ex : Nat → List Nat → wp_Q} (hD : 1 ≤ D) (he : wp_SG D n ex) : wp_SG (D + 1) n (wp_pr tp n j ex) ∧ wp_SG (D + 2) n (wp_su tp n j ex) ∧ wp_SG (D + 3) n (wp_te tp n j ex) ∧ (∀ r, wp_SG (D + 3) n (wp_no tp n j ex r)) ∧ wp_SG (D + 4) n (wp_an tp n j ex) ∧ wp_SG (D + 5) n (wp_or tp n j ex) := by
  have h1 : wp_SG (D + 1) n (wp_pr tp n j ex) := wp_cnG wp_omO (wp_ptG hD he)
  have h2 : wp_SG (D + 2) n (wp_su tp n j ex) := wp_cnG wp_oaO h1
  have h3 : wp_SG (D + 3) n (wp_te tp n j ex) := wp_teG h2
  have h4 := wp_noG h3
  have h5 : wp_SG (D + 4) n (wp_an tp n j ex) := wp_cnG wp_odO (h4 6)
  exact ⟨h1, h2, h3, h4, h5, wp_cnG wp_ooO h5⟩
theorem wp_exG : ∀ d, wp_SG (5 * d + 1) n (wp_ex tp n j d)
  | 0, s, l, hn => by
    show 1 ≤ (if _ then _ else _) ∧ (if _ then _ else _) ≤ 6
    split <;> omega
  | d + 1, s, l, hn => (wp_orG (j := j) (D := 5 * d + 1) (by omega) (wp_exG d)).2.2.2.2.2 s l hn
end
