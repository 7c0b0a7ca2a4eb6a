/-! WINTER: its lines -/
abbrev wn_Q : Type := (Nat × Nat) ⊕ (Nat × pw_L)
def wn_bd (r : wn_Q) (f : Nat → pw_L → wn_Q) : wn_Q := match r with
  | .inl e => .inl e
  | .inr (s, d) => f s d
abbrev wn_V : Type := (Nat × Nat) ⊕ (Nat × Nat)
def wn_vb (r : wn_V) (f : Nat → Nat → wn_Q) : wn_Q := match r with
  | .inl e => .inl e
  | .inr (s, v) => f s v
def wn_0 : pw_L := (fun _ => 0, fun _ _ => 0, fun _ => [])
def wn_up (c : Nat → Nat) (i : Nat) : Nat → Nat := fun k => if k = i then c i + 1 else c k
def wn_st (t : Nat → Nat → Nat) (i k v : Nat) : Nat → Nat → Nat := fun a b => if a = i ∧ b = k then v else t a b
def wn_pk (d : pw_L) (hu st : Nat) : pw_L := (wn_up d.1 0, wn_st (wn_st d.2.1 6 (d.1 0) hu) 7 (d.1 0) st, d.2.2)
def wn_pl (d : pw_L) (k p : Nat) : pw_L := (wn_up d.1 1, wn_st (wn_st d.2.1 0 (d.1 1) k) 1 (d.1 1) p, d.2.2)
def wn_pa (d : pw_L) (a b v : Nat) : pw_L := (wn_up d.1 2, wn_st (wn_st d.2.1 5 (a * 9 + b) v) 5 (b * 9 + a) v, d.2.2)
def wn_pe (d : pw_L) (k m la wo : Nat) : pw_L := (wn_up d.1 3, wn_st (wn_st (wn_st (wn_st d.2.1 2 (d.1 3) k) 3 (d.1 3) m) 8 (d.1 3) la) 9 (d.1 3) wo, d.2.2)
def wn_sn (d : pw_L) (v : Nat) : pw_L := (wn_up d.1 4, wn_st d.2.1 4 (d.1 4) v, d.2.2)
def wn_de (d : pw_L) (j : Nat) (l : List Nat) : pw_L := (d.1, d.2.1, fun a => if a = j then l else d.2.2 a)
section
variable (tp : Nat → Nat) (n : Nat)
def wn_nu (lo hi s : Nat) : wn_V := if wl_k tp n s = 2 then (if wl_z tp n s - s ≤ 4 then (if lo ≤ wl_v tp n s ∧ wl_v tp n s ≤ hi then .inr (wl_x tp n s, wl_v tp n s) else .inl (2, s)) else .inl (2, s)) else .inl (1, s)
def wn_to (m s : Nat) : wn_V := if wl_k tp n s = 2 then (if wl_z tp n s - s ≤ 4 then (if wl_v tp n s < m then .inr (s, wl_v tp n s) else .inl (3, s)) else .inl (2, s)) else .inl (1, s)
def wn_pack (s : Nat) (d : pw_L) : wn_Q := if pw_n d 0 < 4 then wn_vb (wn_nu tp n 0 20 (wl_x tp n s)) (fun s1 hu => wn_vb (wn_nu tp n 0 99 s1) (fun s2 st => .inr (s2, wn_pk d hu st))) else .inl (2, s)
def wn_place (k s : Nat) (d : pw_L) : wn_Q := if pw_n d 1 < 9 then wn_vb (wn_to tp n (pw_n d 0) (wl_x tp n s)) (fun s1 p => .inr (wl_x tp n s1, wn_pl d k p)) else .inl (2, s)
def wn_path (s : Nat) (d : pw_L) : wn_Q := if pw_n d 2 < 14 then wn_vb (wn_to tp n (pw_n d 1) (wl_x tp n s)) (fun s1 a => wn_vb (wn_to tp n (pw_n d 1) (wl_x tp n s1)) (fun s2 b => if b = a ∨ 0 < pw_t d 5 (a * 9 + b) then .inl (4, s2) else wn_vb (wn_nu tp n 1 9 (wl_x tp n s2)) (fun s3 v => .inr (s3, wn_pa d a b v)))) else .inl (2, s)
def wn_person (k s : Nat) (d : pw_L) : wn_Q := if pw_n d 3 < 6 then wn_vb (wn_to tp n (pw_n d 1) (wl_x tp n s)) (fun s1 m => if pw_t d 0 m = 0 then wn_vb (wn_nu tp n 0 99 (wl_x tp n s1)) (fun s2 la => wn_vb (wn_nu tp n 0 99 s2) (fun s3 wo => .inr (s3, wn_pe d k m la wo))) else .inl (6, s1)) else .inl (2, s)
def wn_sl : Nat → Nat → pw_L → wn_Q
  | 0, s, d => .inr (s, d)
  | f + 1, s, d => if wl_k tp n s = 2 then (if pw_n d 4 < 10 then wn_vb (wn_nu tp n 0 9 s) (fun s1 v => wn_sl f s1 (wn_sn d v)) else .inl (2, s)) else .inr (s, d)
def wn_snow (s : Nat) (d : pw_L) : wn_Q := if pw_n d 4 = 0 then wn_vb (wn_nu tp n 0 9 (wl_x tp n s)) (fun s1 v => wn_sl tp n 700 s1 (wn_sn d v)) else .inl (5, s)
def wn_deed (j s : Nat) (d : pw_L) : wn_Q := if pw_d d j = [] then (match wp_ex tp n j 6 (wl_x tp n s) [] with
  | .inl e => .inl e
  | .inr (s1, l) => .inr (s1, wn_de d j l)) else .inl (5, s)
def wn_body (x s : Nat) (d : pw_L) : wn_Q := if x = 0 then wn_pack tp n s d else if x ≤ 4 then wn_place tp n (x - 1) s d else if x = 5 then wn_path tp n s d else if x ≤ 9 then wn_person tp n (x - 6) s d else if x = 10 then wn_snow tp n s d else if x = 11 then wn_deed tp n 0 s d else if x = 12 then wn_deed tp n 1 s d else .inl (1, s)
def wn_end (s : Nat) (d : pw_L) : wn_Q := if wl_k tp n s = 59 then .inr (wl_x tp n s, d) else .inl (1, s)
def wn_line (s : Nat) (d : pw_L) : wn_Q := wn_bd (wn_body tp n (wl_ix wl_LN (wl_w tp n s)) s d) (wn_end tp n)
def wn_lines : Nat → Nat → pw_L → wn_Q
  | 0, s, d => .inr (s, d)
  | f + 1, s, d => if wl_k tp n s = 0 then .inr (s, d) else wn_bd (wn_line tp n s d) (wn_lines f)
def wn_all : wn_Q := wn_lines tp n 700 (wl_e wl_bl tp n 0) wn_0
end
/-! what comes of them -/
def wn_ok (d : pw_L) : Prop := pw_ok d ∧ (∀ k, k < pw_n d 0 → pw_t d 6 k ≤ 20 ∧ pw_t d 7 k ≤ 99) ∧ ∀ p, p < pw_n d 3 → pw_t d 8 p ≤ 99 ∧ pw_t d 9 p ≤ 99
theorem wn_0_ok : wn_ok wn_0 := by
  refine ⟨⟨⟨Nat.zero_le _, Nat.zero_le _, Nat.zero_le _, Nat.zero_le _, Nat.zero_le _⟩, fun a h => absurd h (Nat.not_lt_zero a), fun a h => absurd h (Nat.not_lt_zero a), fun a h => absurd h (Nat.not_lt_zero a), fun a b _ _ => ⟨Nat.zero_le _, rfl, fun _ => rfl⟩, ⟨Nat.zero_le _, fun s h => absurd h List.not_mem_nil, Or.inl rfl⟩, ⟨Nat.zero_le _, fun s h => absurd h List.not_mem_nil, Or.inl rfl⟩⟩, fun a h => absurd h (Nat.not_lt_zero a), fun a h => absurd h (Nat.not_lt_zero a)⟩
theorem wn_up_s (c : Nat → Nat) (i : Nat) : wn_up c i i = c i + 1 := if_pos rfl
theorem wn_up_n (c : Nat → Nat) {i k : Nat} (h : k ≠ i) : wn_up c i k = c k := if_neg h
theorem wn_st_s (t : Nat → Nat → Nat) (i k v : Nat) : wn_st t i k v i k = v := if_pos ⟨rfl, rfl⟩
theorem wn_st_n (t : Nat → Nat → Nat) {i k v a b : Nat} (h : ¬ (a = i ∧ b = k)) : wn_st t i k v a b = t a b := if_neg h
theorem wn_st_c (t : Nat → Nat → Nat) {i k v b : Nat} : wn_st t i k v i b = if b = k then v else t i b := by
  unfold wn_st
  by_cases c : b = k
  · rw [if_pos ⟨rfl, c⟩, if_pos c]
  · rw [if_neg (fun h => c h.2), if_neg c]
theorem wn_st_o (t : Nat → Nat → Nat) {i k v a b : Nat} (h : a ≠ i) : wn_st t i k v a b = t a b := if_neg (fun c => h c.1)
section
variable {d : pw_L}
theorem wn_pk_ok {hu st : Nat} (h : wn_ok d) (h0 : pw_n d 0 < 4) (h1 : hu ≤ 20) (h2 : st ≤ 99) : wn_ok (wn_pk d hu st) := by
  obtain ⟨⟨⟨a0, a1, a2, a3, a4⟩, b, c, e, f, g⟩, i, j⟩ := h
  have n0 : pw_n (wn_pk d hu st) 0 = pw_n d 0 + 1 := rfl
  have nn : ∀ k, k ≠ 0 → pw_n (wn_pk d hu st) k = pw_n d k := fun k hk => wn_up_n _ hk
  have tt : ∀ k b, k ≠ 6 → k ≠ 7 → pw_t (wn_pk d hu st) k b = pw_t d k b := fun k b h6 h7 => (wn_st_o _ h7).trans (wn_st_o _ h6)
  refine ⟨⟨⟨by rw [n0]; omega, by rw [nn 1 (by omega)]; exact a1, by rw [nn 2 (by omega)]; exact a2, by rw [nn 3 (by omega)]; exact a3, by rw [nn 4 (by omega)]; exact a4⟩, fun a ha => ?_, fun p hp => ?_, fun k hk => ?_, fun a b' ha hb => ?_, g⟩, fun k hk => ?_, fun p hp => ?_⟩
  · rw [nn 1 (by omega)] at ha
    rw [tt 0 _ (by omega) (by omega), tt 1 _ (by omega) (by omega), n0]
    have := b a ha
    omega
  · rw [nn 3 (by omega)] at hp
    rw [tt 2 _ (by omega) (by omega), tt 3 _ (by omega) (by omega), nn 1 (by omega)]
    exact c p hp
  · rw [nn 4 (by omega)] at hk
    rw [tt 4 _ (by omega) (by omega)]
    exact e k hk
  · rw [tt 5 _ (by omega) (by omega), tt 5 _ (by omega) (by omega), nn 1 (by omega)]
    exact f a b' ha hb
  · rw [n0] at hk
    have e6 : pw_t (wn_pk d hu st) 6 k = if k = pw_n d 0 then hu else pw_t d 6 k := by
      show wn_st (wn_st d.2.1 6 (d.1 0) hu) 7 (d.1 0) st 6 k = _
      rw [wn_st_o _ (by omega), wn_st_c]
      rfl
    have e7 : pw_t (wn_pk d hu st) 7 k = if k = pw_n d 0 then st else pw_t d 7 k := by
      show wn_st (wn_st d.2.1 6 (d.1 0) hu) 7 (d.1 0) st 7 k = _
      rw [wn_st_c, wn_st_o _ (by omega)]
      rfl
    rw [e6, e7]
    by_cases ck : k = pw_n d 0
    · rw [if_pos ck, if_pos ck]; exact ⟨h1, h2⟩
    · rw [if_neg ck, if_neg ck]; exact i k (by omega)
  · rw [nn 3 (by omega)] at hp
    rw [tt 8 _ (by omega) (by omega), tt 9 _ (by omega) (by omega)]
    exact j p hp
theorem wn_pl_ok {kk q : Nat} (h : wn_ok d) (h0 : pw_n d 1 < 9) (h1 : kk ≤ 3) (h2 : q < pw_n d 0) : wn_ok (wn_pl d kk q) := by
  obtain ⟨⟨⟨a0, a1, a2, a3, a4⟩, b, c, e, f, g⟩, i, j⟩ := h
  have n0 : pw_n (wn_pl d kk q) 1 = pw_n d 1 + 1 := rfl
  have nn : ∀ k, k ≠ 1 → pw_n (wn_pl d kk q) k = pw_n d k := fun k hk => wn_up_n _ hk
  have tt : ∀ k b, k ≠ 0 → k ≠ 1 → pw_t (wn_pl d kk q) k b = pw_t d k b := fun k b h6 h7 => (wn_st_o _ h7).trans (wn_st_o _ h6)
  refine ⟨⟨⟨by rw [nn 0 (by omega)]; exact a0, by rw [n0]; omega, by rw [nn 2 (by omega)]; exact a2, by rw [nn 3 (by omega)]; exact a3, by rw [nn 4 (by omega)]; exact a4⟩, fun a ha => ?_, fun p hp => ?_, fun k hk => ?_, fun a b' ha hb => ?_, g⟩, fun k hk => ?_, fun p hp => ?_⟩
  · rw [n0] at ha
    have e6 : pw_t (wn_pl d kk q) 0 a = if a = pw_n d 1 then kk else pw_t d 0 a := by
      show wn_st (wn_st d.2.1 0 (d.1 1) kk) 1 (d.1 1) q 0 a = _
      rw [wn_st_o _ (by omega), wn_st_c]
      rfl
    have e7 : pw_t (wn_pl d kk q) 1 a = if a = pw_n d 1 then q else pw_t d 1 a := by
      show wn_st (wn_st d.2.1 0 (d.1 1) kk) 1 (d.1 1) q 1 a = _
      rw [wn_st_c, wn_st_o _ (by omega)]
      rfl
    rw [e6, e7, nn 0 (by omega)]
    by_cases ck : a = pw_n d 1
    · rw [if_pos ck, if_pos ck]; exact ⟨h1, h2⟩
    · rw [if_neg ck, if_neg ck]; exact b a (by omega)
  · rw [nn 3 (by omega)] at hp
    rw [tt 2 _ (by omega) (by omega), tt 3 _ (by omega) (by omega), n0]
    have := c p hp
    omega
  · rw [nn 4 (by omega)] at hk
    rw [tt 4 _ (by omega) (by omega)]
    exact e k hk
  · rw [tt 5 _ (by omega) (by omega), tt 5 _ (by omega) (by omega), n0]
    have := f a b' ha hb
    exact ⟨this.1, this.2.1, fun hh => this.2.2 (by omega)⟩
  · rw [nn 0 (by omega)] at hk
    rw [tt 6 _ (by omega) (by omega), tt 7 _ (by omega) (by omega)]
    exact i k hk
  · rw [nn 3 (by omega)] at hp
    rw [tt 8 _ (by omega) (by omega), tt 9 _ (by omega) (by omega)]
    exact j p hp
theorem wn_pa_ok {x y v : Nat} (h : wn_ok d) (h0 : pw_n d 2 < 14) (hx : x < pw_n d 1) (hy : y < pw_n d 1) (hxy : y ≠ x) (hv : v ≤ 9) : wn_ok (wn_pa d x y v) := by
  obtain ⟨⟨⟨a0, a1, a2, a3, a4⟩, b, c, e, f, g⟩, i, j⟩ := h
  have n0 : pw_n (wn_pa d x y v) 2 = pw_n d 2 + 1 := rfl
  have nn : ∀ k, k ≠ 2 → pw_n (wn_pa d x y v) k = pw_n d k := fun k hk => wn_up_n _ hk
  have tt : ∀ k b, k ≠ 5 → pw_t (wn_pa d x y v) k b = pw_t d k b := fun k b h6 => (wn_st_o _ h6).trans (wn_st_o _ h6)
  refine ⟨⟨⟨by rw [nn 0 (by omega)]; exact a0, by rw [nn 1 (by omega)]; exact a1, by rw [n0]; omega, by rw [nn 3 (by omega)]; exact a3, by rw [nn 4 (by omega)]; exact a4⟩, fun a ha => ?_, fun p hp => ?_, fun k hk => ?_, fun a b' ha hb => ?_, g⟩, fun k hk => ?_, fun p hp => ?_⟩
  · rw [nn 1 (by omega)] at ha
    rw [tt 0 _ (by omega), tt 1 _ (by omega), nn 0 (by omega)]
    exact b a ha
  · rw [nn 3 (by omega)] at hp
    rw [tt 2 _ (by omega), tt 3 _ (by omega), nn 1 (by omega)]
    exact c p hp
  · rw [nn 4 (by omega)] at hk
    rw [tt 4 _ (by omega)]
    exact e k hk
  · have e5 : ∀ k, pw_t (wn_pa d x y v) 5 k = if k = y * 9 + x then v else if k = x * 9 + y then v else pw_t d 5 k := fun k => by
      show wn_st (wn_st d.2.1 5 (x * 9 + y) v) 5 (y * 9 + x) v 5 k = _
      rw [wn_st_c, wn_st_c]
      rfl
    rw [e5, e5, nn 1 (by omega)]
    have := f a b' ha hb
    refine ⟨?_, ?_, fun hh => ?_⟩
    · split
      · exact hv
      · split
        · exact hv
        · exact this.1
    · by_cases c1 : a = y ∧ b' = x
      · rw [if_pos (by omega), if_neg (by omega), if_pos (by omega)]
      · by_cases c2 : a = x ∧ b' = y
        · rw [if_neg (by omega), if_pos (by omega), if_pos (by omega)]
        · rw [if_neg (by omega), if_neg (by omega), if_neg (by omega), if_neg (by omega)]
          exact this.2.1
    · rw [if_neg (by omega), if_neg (by omega)]
      exact this.2.2 hh
  · rw [nn 0 (by omega)] at hk
    rw [tt 6 _ (by omega), tt 7 _ (by omega)]
    exact i k hk
  · rw [nn 3 (by omega)] at hp
    rw [tt 8 _ (by omega), tt 9 _ (by omega)]
    exact j p hp
theorem wn_pe_ok {kk m la wo : Nat} (h : wn_ok d) (h0 : pw_n d 3 < 6) (h1 : kk ≤ 3) (h2 : m < pw_n d 1) (h3 : la ≤ 99) (h4 : wo ≤ 99) : wn_ok (wn_pe d kk m la wo) := by
  obtain ⟨⟨⟨a0, a1, a2, a3, a4⟩, b, c, e, f, g⟩, i, j⟩ := h
  have n0 : pw_n (wn_pe d kk m la wo) 3 = pw_n d 3 + 1 := rfl
  have nn : ∀ k, k ≠ 3 → pw_n (wn_pe d kk m la wo) k = pw_n d k := fun k hk => wn_up_n _ hk
  have tt : ∀ k b, k ≠ 2 → k ≠ 3 → k ≠ 8 → k ≠ 9 → pw_t (wn_pe d kk m la wo) k b = pw_t d k b := fun k b x2 x3 x8 x9 => (wn_st_o _ x9).trans ((wn_st_o _ x8).trans ((wn_st_o _ x3).trans (wn_st_o _ x2)))
  refine ⟨⟨⟨by rw [nn 0 (by omega)]; exact a0, by rw [nn 1 (by omega)]; exact a1, by rw [nn 2 (by omega)]; exact a2, by rw [n0]; omega, by rw [nn 4 (by omega)]; exact a4⟩, fun a ha => ?_, fun p hp => ?_, fun k hk => ?_, fun a b' ha hb => ?_, g⟩, fun k hk => ?_, fun p hp => ?_⟩
  · rw [nn 1 (by omega)] at ha
    rw [tt 0 _ (by omega) (by omega) (by omega) (by omega), tt 1 _ (by omega) (by omega) (by omega) (by omega), nn 0 (by omega)]
    exact b a ha
  · rw [n0] at hp
    have e2 : pw_t (wn_pe d kk m la wo) 2 p = if p = pw_n d 3 then kk else pw_t d 2 p := by
      show wn_st (wn_st (wn_st (wn_st d.2.1 2 (d.1 3) kk) 3 (d.1 3) m) 8 (d.1 3) la) 9 (d.1 3) wo 2 p = _
      rw [wn_st_o _ (by omega), wn_st_o _ (by omega), wn_st_o _ (by omega), wn_st_c]
      rfl
    have e3 : pw_t (wn_pe d kk m la wo) 3 p = if p = pw_n d 3 then m else pw_t d 3 p := by
      show wn_st (wn_st (wn_st (wn_st d.2.1 2 (d.1 3) kk) 3 (d.1 3) m) 8 (d.1 3) la) 9 (d.1 3) wo 3 p = _
      rw [wn_st_o _ (by omega), wn_st_o _ (by omega), wn_st_c, wn_st_o _ (by omega)]
      rfl
    rw [e2, e3, nn 1 (by omega)]
    by_cases ck : p = pw_n d 3
    · rw [if_pos ck, if_pos ck]; exact ⟨h1, h2⟩
    · rw [if_neg ck, if_neg ck]; exact c p (by omega)
  · rw [nn 4 (by omega)] at hk
    rw [tt 4 _ (by omega) (by omega) (by omega) (by omega)]
    exact e k hk
  · rw [tt 5 _ (by omega) (by omega) (by omega) (by omega), tt 5 _ (by omega) (by omega) (by omega) (by omega), nn 1 (by omega)]
    exact f a b' ha hb
  · rw [nn 0 (by omega)] at hk
    rw [tt 6 _ (by omega) (by omega) (by omega) (by omega), tt 7 _ (by omega) (by omega) (by omega) (by omega)]
    exact i k hk
  · rw [n0] at hp
    have e8 : pw_t (wn_pe d kk m la wo) 8 p = if p = pw_n d 3 then la else pw_t d 8 p := by
      show wn_st (wn_st (wn_st (wn_st d.2.1 2 (d.1 3) kk) 3 (d.1 3) m) 8 (d.1 3) la) 9 (d.1 3) wo 8 p = _
      rw [wn_st_o _ (by omega), wn_st_c, wn_st_o _ (by omega), wn_st_o _ (by omega)]
      rfl
    have e9 : pw_t (wn_pe d kk m la wo) 9 p = if p = pw_n d 3 then wo else pw_t d 9 p := by
      show wn_st (wn_st (wn_st (wn_st d.2.1 2 (d.1 3) kk) 3 (d.1 3) m) 8 (d.1 3) la) 9 (d.1 3) wo 9 p = _
      rw [wn_st_c, wn_st_o _ (by omega), wn_st_o _ (by omega), wn_st_o _ (by omega)]
      rfl
    rw [e8, e9]
    by_cases ck : p = pw_n d 3
    · rw [if_pos ck, if_pos ck]; exact ⟨h3, h4⟩
    · rw [if_neg ck, if_neg ck]; exact j p (by omega)
theorem wn_sn_ok {v : Nat} (h : wn_ok d) (h0 : pw_n d 4 < 10) (h1 : v ≤ 9) : wn_ok (wn_sn d v) := by
  obtain ⟨⟨⟨a0, a1, a2, a3, a4⟩, b, c, e, f, g⟩, i, j⟩ := h
  have n0 : pw_n (wn_sn d v) 4 = pw_n d 4 + 1 := rfl
  have nn : ∀ k, k ≠ 4 → pw_n (wn_sn d v) k = pw_n d k := fun k hk => wn_up_n _ hk
  have tt : ∀ k b, k ≠ 4 → pw_t (wn_sn d v) k b = pw_t d k b := fun k b h6 => wn_st_o _ h6
  refine ⟨⟨⟨by rw [nn 0 (by omega)]; exact a0, by rw [nn 1 (by omega)]; exact a1, by rw [nn 2 (by omega)]; exact a2, by rw [nn 3 (by omega)]; exact a3, by rw [n0]; omega⟩, fun a ha => ?_, fun p hp => ?_, fun k hk => ?_, fun a b' ha hb => ?_, g⟩, fun k hk => ?_, fun p hp => ?_⟩
  · rw [nn 1 (by omega)] at ha
    rw [tt 0 _ (by omega), tt 1 _ (by omega), nn 0 (by omega)]
    exact b a ha
  · rw [nn 3 (by omega)] at hp
    rw [tt 2 _ (by omega), tt 3 _ (by omega), nn 1 (by omega)]
    exact c p hp
  · rw [n0] at hk
    have e4 : pw_t (wn_sn d v) 4 k = if k = pw_n d 4 then v else pw_t d 4 k := wn_st_c _
    rw [e4]
    by_cases ck : k = pw_n d 4
    · rw [if_pos ck]; exact h1
    · rw [if_neg ck]; exact e k (by omega)
  · rw [tt 5 _ (by omega), tt 5 _ (by omega), nn 1 (by omega)]
    exact f a b' ha hb
  · rw [nn 0 (by omega)] at hk
    rw [tt 6 _ (by omega), tt 7 _ (by omega)]
    exact i k hk
  · rw [nn 3 (by omega)] at hp
    rw [tt 8 _ (by omega), tt 9 _ (by omega)]
    exact j p hp
theorem wn_de_ok {j : Nat} {l : List Nat} (h : wn_ok d) (hl : pd_ok l) : wn_ok (wn_de d j l) := by
  obtain ⟨⟨a, b, c, e, f, g1, g2⟩, i, k⟩ := h
  refine ⟨⟨a, b, c, e, f, ?_, ?_⟩, i, k⟩
  · show pd_ok (if 0 = j then l else d.2.2 0)
    split
    · exact hl
    · exact g1
  · show pd_ok (if 1 = j then l else d.2.2 1)
    split
    · exact hl
    · exact g2
end
def wn_G (n s : Nat) : wn_Q → Prop
  | .inl (f, _) => 1 ≤ f ∧ f ≤ 6
  | .inr (s', d') => s < s' ∧ s' ≤ n ∧ wn_ok d'
section
variable {tp : Nat → Nat} {n s : Nat} {d : pw_L}
theorem wn_nu_G {lo hi : Nat} (hs : s ≤ n) : match wn_nu tp n lo hi s with
  | .inl (f, _) => 1 ≤ f ∧ f ≤ 6
  | .inr (s', v) => s < s' ∧ s' ≤ n ∧ lo ≤ v ∧ v ≤ hi ∧ wl_k tp n s = 2 ∧ wl_z tp n s - s ≤ 4 ∧ v = wl_v tp n s ∧ s' = wl_x tp n s := by
  unfold wn_nu
  by_cases c : wl_k tp n s = 2
  · rw [if_pos c]
    by_cases c2 : wl_z tp n s - s ≤ 4
    · rw [if_pos c2]
      by_cases c3 : lo ≤ wl_v tp n s ∧ wl_v tp n s ≤ hi
      · rw [if_pos c3]
        exact ⟨wl_x_gt (wl_k_lt (tp := tp) (by omega)), wl_x_le hs, c3.1, c3.2, c, c2, rfl, rfl⟩
      · rw [if_neg c3]; exact ⟨by omega, by omega⟩
    · rw [if_neg c2]; exact ⟨by omega, by omega⟩
  · rw [if_neg c]; exact ⟨by omega, by omega⟩
theorem wn_to_G {m : Nat} (hs : s ≤ n) : match wn_to tp n m s with
  | .inl (f, _) => 1 ≤ f ∧ f ≤ 6
  | .inr (s', v) => s' = s ∧ s < n ∧ v < m ∧ wl_k tp n s = 2 ∧ wl_z tp n s - s ≤ 4 ∧ v = wl_v tp n s := by
  unfold wn_to
  by_cases c : wl_k tp n s = 2
  · rw [if_pos c]
    by_cases c2 : wl_z tp n s - s ≤ 4
    · rw [if_pos c2]
      by_cases c3 : wl_v tp n s < m
      · rw [if_pos c3]
        exact ⟨rfl, wl_k_lt (tp := tp) (by omega), c3, c, c2, rfl⟩
      · rw [if_neg c3]; exact ⟨by omega, by omega⟩
    · rw [if_neg c2]; exact ⟨by omega, by omega⟩
  · rw [if_neg c]; exact ⟨by omega, by omega⟩
theorem wn_pack_G (hs : s < n) (hd : wn_ok d) : wn_G n s (wn_pack tp n s d) := by
  have hx := wl_x_gt (tp := tp) hs
  have hxn := wl_x_le (tp := tp) (Nat.le_of_lt hs)
  unfold wn_pack
  by_cases c : pw_n d 0 < 4
  · rw [if_pos c]
    have g1 := wn_nu_G (tp := tp) (lo := 0) (hi := 20) hxn
    cases h1 : wn_nu tp n 0 20 (wl_x tp n s) with
    | inl e => rw [h1] at g1; exact g1
    | inr p =>
      obtain ⟨s1, hu⟩ := p
      rw [h1] at g1
      have g2 := wn_nu_G (tp := tp) (lo := 0) (hi := 99) g1.2.1
      cases h2 : wn_nu tp n 0 99 s1 with
      | inl e => rw [h2] at g2; show wn_G n s (wn_vb (wn_nu tp n 0 99 s1) _); rw [h2]; exact g2
      | inr p =>
        obtain ⟨s2, st⟩ := p
        rw [h2] at g2
        show wn_G n s (wn_vb (wn_nu tp n 0 99 s1) _)
        rw [h2]
        exact ⟨by have := g1.1; have := g2.1; omega, g2.2.1, wn_pk_ok hd c g1.2.2.2.1 g2.2.2.2.1⟩
  · rw [if_neg c]; exact ⟨by omega, by omega⟩
theorem wn_place_G {k : Nat} (hk : k ≤ 3) (hs : s < n) (hd : wn_ok d) : wn_G n s (wn_place tp n k s d) := by
  have hx := wl_x_gt (tp := tp) hs
  have hxn := wl_x_le (tp := tp) (Nat.le_of_lt hs)
  unfold wn_place
  by_cases c : pw_n d 1 < 9
  · rw [if_pos c]
    have g1 := wn_to_G (tp := tp) (m := pw_n d 0) hxn
    cases h1 : wn_to tp n (pw_n d 0) (wl_x tp n s) with
    | inl e => rw [h1] at g1; exact g1
    | inr p =>
      obtain ⟨s1, q⟩ := p
      rw [h1] at g1
      obtain ⟨rfl, b, c3, _⟩ := g1
      exact ⟨by have := wl_x_gt (tp := tp) b; omega, wl_x_le hxn, wn_pl_ok hd c hk c3⟩
  · rw [if_neg c]; exact ⟨by omega, by omega⟩
theorem wn_path_G (hs : s < n) (hd : wn_ok d) : wn_G n s (wn_path tp n s d) := by
  have hx := wl_x_gt (tp := tp) hs
  have hxn := wl_x_le (tp := tp) (Nat.le_of_lt hs)
  unfold wn_path
  by_cases c : pw_n d 2 < 14
  · rw [if_pos c]
    have g1 := wn_to_G (tp := tp) (m := pw_n d 1) hxn
    cases h1 : wn_to tp n (pw_n d 1) (wl_x tp n s) with
    | inl e => rw [h1] at g1; exact g1
    | inr p =>
      obtain ⟨s1, a⟩ := p
      rw [h1] at g1
      obtain ⟨rfl, b1, c1, _⟩ := g1
      have hx2 := wl_x_gt (tp := tp) b1
      have hxn2 := wl_x_le (tp := tp) (Nat.le_of_lt b1)
      have g2 := wn_to_G (tp := tp) (m := pw_n d 1) hxn2
      show wn_G n s (wn_vb (wn_to tp n (pw_n d 1) (wl_x tp n (wl_x tp n s))) _)
      cases h2 : wn_to tp n (pw_n d 1) (wl_x tp n (wl_x tp n s)) with
      | inl e => rw [h2] at g2; exact g2
      | inr p =>
        obtain ⟨s2, b⟩ := p
        rw [h2] at g2
        obtain ⟨rfl, b2, c2, _⟩ := g2
        have hx3 := wl_x_gt (tp := tp) b2
        have hxn3 := wl_x_le (tp := tp) (Nat.le_of_lt b2)
        show wn_G n s (if b = a ∨ 0 < pw_t d 5 (a * 9 + b) then _ else _)
        by_cases c3 : b = a ∨ 0 < pw_t d 5 (a * 9 + b)
        · rw [if_pos c3]; exact ⟨by omega, by omega⟩
        · rw [if_neg c3]
          have g3 := wn_nu_G (tp := tp) (lo := 1) (hi := 9) hxn3
          cases h3 : wn_nu tp n 1 9 (wl_x tp n (wl_x tp n (wl_x tp n s))) with
          | inl e => rw [h3] at g3; exact g3
          | inr p =>
            obtain ⟨s3, v⟩ := p
            rw [h3] at g3
            exact ⟨by have := g3.1; omega, g3.2.1, wn_pa_ok hd c c1 c2 (fun e => c3 (Or.inl e)) g3.2.2.2.1⟩
  · rw [if_neg c]; exact ⟨by omega, by omega⟩
theorem wn_person_G {k : Nat} (hk : k ≤ 3) (hs : s < n) (hd : wn_ok d) : wn_G n s (wn_person tp n k s d) := by
  have hx := wl_x_gt (tp := tp) hs
  have hxn := wl_x_le (tp := tp) (Nat.le_of_lt hs)
  unfold wn_person
  by_cases c : pw_n d 3 < 6
  · rw [if_pos c]
    have g1 := wn_to_G (tp := tp) (m := pw_n d 1) hxn
    cases h1 : wn_to tp n (pw_n d 1) (wl_x tp n s) with
    | inl e => rw [h1] at g1; exact g1
    | inr p =>
      obtain ⟨s1, m⟩ := p
      rw [h1] at g1
      obtain ⟨rfl, b1, c1, _⟩ := g1
      have hx2 := wl_x_gt (tp := tp) b1
      have hxn2 := wl_x_le (tp := tp) (Nat.le_of_lt b1)
      show wn_G n s (if pw_t d 0 m = 0 then _ else _)
      by_cases c3 : pw_t d 0 m = 0
      · rw [if_pos c3]
        have g2 := wn_nu_G (tp := tp) (lo := 0) (hi := 99) hxn2
        cases h2 : wn_nu tp n 0 99 (wl_x tp n (wl_x tp n s)) with
        | inl e => rw [h2] at g2; exact g2
        | inr p =>
          obtain ⟨s2, la⟩ := p
          rw [h2] at g2
          have g3 := wn_nu_G (tp := tp) (lo := 0) (hi := 99) g2.2.1
          show wn_G n s (wn_vb (wn_nu tp n 0 99 s2) _)
          cases h3 : wn_nu tp n 0 99 s2 with
          | inl e => rw [h3] at g3; exact g3
          | inr p =>
            obtain ⟨s3, wo⟩ := p
            rw [h3] at g3
            exact ⟨by have := g2.1; have := g3.1; omega, g3.2.1, wn_pe_ok hd c hk c1 g2.2.2.2.1 g3.2.2.2.1⟩
      · rw [if_neg c3]; exact ⟨by omega, by omega⟩
  · rw [if_neg c]; exact ⟨by omega, by omega⟩
theorem wn_sl_G {s0 : Nat} : ∀ (f s : Nat) (d : pw_L), s0 < s → s ≤ n → wn_ok d → wn_G n s0 (wn_sl tp n f s d)
  | 0, s, d, h1, h2, h3 => ⟨h1, h2, h3⟩
  | f + 1, s, d, h1, h2, h3 => by
    rw [wn_sl]
    by_cases c : wl_k tp n s = 2
    · rw [if_pos c]
      by_cases c2 : pw_n d 4 < 10
      · rw [if_pos c2]
        have g1 := wn_nu_G (tp := tp) (lo := 0) (hi := 9) h2
        cases hn : wn_nu tp n 0 9 s with
        | inl e => rw [hn] at g1; exact g1
        | inr p =>
          obtain ⟨s1, v⟩ := p
          rw [hn] at g1
          exact wn_sl_G f s1 _ (by have := g1.1; omega) g1.2.1 (wn_sn_ok h3 c2 g1.2.2.2.1)
      · rw [if_neg c2]; exact ⟨by omega, by omega⟩
    · rw [if_neg c]; exact ⟨h1, h2, h3⟩
theorem wn_snow_G (hs : s < n) (hd : wn_ok d) : wn_G n s (wn_snow tp n s d) := by
  have hx := wl_x_gt (tp := tp) hs
  have hxn := wl_x_le (tp := tp) (Nat.le_of_lt hs)
  unfold wn_snow
  by_cases c : pw_n d 4 = 0
  · rw [if_pos c]
    have g1 := wn_nu_G (tp := tp) (lo := 0) (hi := 9) hxn
    cases h1 : wn_nu tp n 0 9 (wl_x tp n s) with
    | inl e => rw [h1] at g1; exact g1
    | inr p =>
      obtain ⟨s1, v⟩ := p
      rw [h1] at g1
      exact wn_sl_G 700 s1 _ (by have := g1.1; omega) g1.2.1 (wn_sn_ok hd (by omega) g1.2.2.2.1)
  · rw [if_neg c]; exact ⟨by omega, by omega⟩
theorem wn_ex_ok {j : Nat} (hn : n ≤ 700) (hs : s ≤ n) {s' : Nat} {l : List Nat} (e : wp_ex tp n j 6 s [] = .inr (s', l)) : s < s' ∧ s' ≤ n ∧ l.length ≤ s' ∧ pd_ok l ∧ l ≠ [] := by
  have g := wp_exG (tp := tp) (n := n) (j := j) 6 s [] hs
  rw [e] at g
  obtain ⟨g1, g2, g3, g4, g5⟩ := g
  have h0 : ([] : List Nat).length = 0 := rfl
  have h1 := g5 0 rfl (by omega)
  refine ⟨g1, g2, by omega, ⟨by omega, g4 (fun s h => absurd h List.not_mem_nil), Or.inr h1⟩, fun e => ?_⟩
  rw [e] at h1
  exact absurd h1 (by simp [pd_dp])
theorem wn_deed_G {j : Nat} (hn : n ≤ 700) (hs : s < n) (hd : wn_ok d) : wn_G n s (wn_deed tp n j s d) := by
  have hx := wl_x_gt (tp := tp) hs
  have hxn := wl_x_le (tp := tp) (Nat.le_of_lt hs)
  unfold wn_deed
  by_cases c : pw_d d j = []
  · rw [if_pos c]
    have g := wp_exG (tp := tp) (n := n) (j := j) 6 (wl_x tp n s) [] hxn
    cases h1 : wp_ex tp n j 6 (wl_x tp n s) [] with
    | inl e => rw [h1] at g; exact g
    | inr p =>
      obtain ⟨s1, l⟩ := p
      have k := wn_ex_ok hn hxn h1
      exact ⟨by omega, k.2.1, wn_de_ok hd k.2.2.2.1⟩
  · rw [if_neg c]; exact ⟨by omega, by omega⟩
theorem wn_body_G {x : Nat} (hn : n ≤ 700) (hs : s < n) (hd : wn_ok d) : wn_G n s (wn_body tp n x s d) := by
  unfold wn_body
  split
  · exact wn_pack_G hs hd
  · split
    · exact wn_place_G (by omega) hs hd
    · split
      · exact wn_path_G hs hd
      · split
        · exact wn_person_G (by omega) hs hd
        · split
          · exact wn_snow_G hs hd
          · split
            · exact wn_deed_G hn hs hd
            · split
              · exact wn_deed_G hn hs hd
              · exact ⟨by omega, by omega⟩
theorem wn_line_G (hn : n ≤ 700) (hs : s < n) (hd : wn_ok d) : wn_G n s (wn_line tp n s d) := by
  unfold wn_line
  have g := wn_body_G (tp := tp) (x := wl_ix wl_LN (wl_w tp n s)) hn hs hd
  cases h : wn_body tp n (wl_ix wl_LN (wl_w tp n s)) s d with
  | inl e => rw [h] at g; exact g
  | inr p =>
    obtain ⟨s1, d1⟩ := p
    rw [h] at g
    obtain ⟨g1, g2, g3⟩ := g
    show wn_G n s (wn_end tp n s1 d1)
    unfold wn_end
    by_cases c : wl_k tp n s1 = 59
    · rw [if_pos c]
      exact ⟨by have := wl_x_gt (tp := tp) (wl_k_lt (tp := tp) (n := n) (s := s1) (by omega)); omega, wl_x_le g2, g3⟩
    · rw [if_neg c]; exact ⟨by omega, by omega⟩
theorem wl_k_0 : wl_k tp n s = 0 ↔ n ≤ s := by
  unfold wl_k
  by_cases c : n ≤ s
  · rw [if_pos c]; omega
  · rw [if_neg c]
    split
    · omega
    · split
      · omega
      · split
        · rename_i c3; have := wl_sg_r c3; omega
        · omega
def wn_H (n : Nat) : wn_Q → Prop
  | .inl (f, _) => 1 ≤ f ∧ f ≤ 6
  | .inr (s', d') => s' = n ∧ wn_ok d'
theorem wn_lines_G (hn : n ≤ 700) : ∀ (f s : Nat) (d : pw_L), s ≤ n → n ≤ s + f → wn_ok d → wn_H n (wn_lines tp n f s d)
  | 0, s, d, h1, h2, h3 => ⟨by omega, h3⟩
  | f + 1, s, d, h1, h2, h3 => by
    rw [wn_lines]
    by_cases c : wl_k tp n s = 0
    · rw [if_pos c]; exact ⟨by have := wl_k_0.mp c; omega, h3⟩
    · rw [if_neg c]
      have hs := wl_k_lt c
      have g := wn_line_G (tp := tp) hn hs h3
      cases h : wn_line tp n s d with
      | inl e => rw [h] at g; exact g
      | inr p =>
        obtain ⟨s1, d1⟩ := p
        rw [h] at g
        exact wn_lines_G hn f s1 d1 g.2.1 (by have := g.1; omega) g.2.2
end
