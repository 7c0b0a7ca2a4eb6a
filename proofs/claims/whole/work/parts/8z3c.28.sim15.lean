/-! TWO MODES: objects are made first (nothing known of references), then all hundred are there -/
abbrev am_B0 : am_B := (fun h => h.1, fun _ _ => none, true)
theorem am_md0 : am_md am_B0 := ⟨fun _ _ e => e, Or.inl ⟨fun _ _ => rfl, rfl⟩⟩
theorem am_mdM : am_md am_M := ⟨fun _ _ _ => rfl, Or.inr fun _ _ => rfl⟩
def am_rsok (h : am_H) : Bool := (List.range 100).all fun i => (List.range 128).all fun k => match am_rs1 i k with
  | none => true
  | some q => decide (am_R h i k = some q)
theorem am_rsok_t {h : am_H} (e : am_rsok h = true) (i k q : Nat) (hi : i < 100) (hq : am_rs1 i k = some q) : am_R h i k = some q := by
  have hk : k < 128 := by
    unfold am_rs1 at hq
    cases hb : Nat.blt k 128 with
    | true => exact Nat.le_of_ble_eq_true hb
    | false => rw [hb] at hq; cases hq
  have := List.all_eq_true.mp (List.all_eq_true.mp e i (List.mem_range.mpr hi)) k (List.mem_range.mpr hk)
  rw [hq] at this
  exact of_decide_eq_true this
theorem am_Wd.M {g : am_D} {ad : Nat → Nat} {h : am_H} {A : Nat → Prop} {H : Heap} (W : am_Wd g am_B0 ad h A H) (h1 : h.1 = 100) (hR : am_rsok h = true) : am_Wd g am_M ad h A H :=
  ⟨W.1, W.2.1, h1.symm, ⟨fun i k q hq hi => am_rsok_t hR i k q (by rw [← h1]; exact hi) hq, W.2.2.2.1.2⟩, W.2.2.2.2⟩
theorem am_Wd.B0 {g : am_D} {B : am_B} {ad : Nat → Nat} {h : am_H} {A : Nat → Prop} {H : Heap} (W : am_Wd g B ad h A H) : am_Wd g am_B0 ad h A H :=
  ⟨W.1, W.2.1, rfl, ⟨fun _ _ _ hq => (nomatch hq), W.2.2.2.1.2⟩, W.2.2.2.2⟩
theorem am_P.mode {l : Launch} {g : am_D} {ρ mi pc : Nat} {ls : am_L} {st : List Value} {h : am_H} {r : am_Q} (k : am_P l g am_M ρ mi pc ls st h r) (h1 : h.1 = 100) (hR : am_rsok h = true) : am_P l g am_B0 ρ mi pc ls st h r :=
  ⟨k.1, fun p e R s m args below meth c A ad H locs lsm cells slots n0 ad0 tc ts Q F Wd Ev S hl hn hg hc hs h2 h3 hq =>
    k.2 p e R s m args below meth c A ad H locs lsm cells slots n0 ad0 tc ts Q F (Wd.M h1 hR) Ev S hl hn hg hc hs h2 h3
      ⟨fun v ad H locs pc lsm q1 q2 q3 => hq.1 v ad H locs pc lsm q1 q2 q3.B0, fun e0 ad H locs pc lsm rest q ce q1 q2 q3 => hq.2.1 e0 ad H locs pc lsm rest q ce q1 q2 q3.B0, fun e0 ad H locs pc lsm cells slots idx n x q1 q2 q3 => hq.2.2 e0 ad H locs pc lsm cells slots idx n x q1 q2 q3.B0⟩⟩
/-- a run up to a place, where K goes on -/
def am_el (stop : Nat) (K : am_K) : Nat → Nat → Nat → Nat → am_L → List Value → am_H → Option am_Q
  | 0, _, _, _, _, _, _ => none
  | f + 1, ρ, mi, pc, ls, st, h => am_s1 h.1 (fun _ _ => none) true ρ (fun mj args g => am_ev am_B0 f (am_rk mj args) mj 0 (am_pad (am_ml mj) (am_la args)) [] g) (am_al9 am_B0)
      (fun pc' ls' st' g => match Nat.beq pc' stop with
        | true => K pc' ls' st' g
        | false => am_el stop K f ρ mi pc' ls' st' g) mi pc (am_ms (am_mt mi pc) ls) st h
theorem am_el_sound {l : Launch} {g : am_D} (hst : l.stackTraces = false) {stop ρ mi : Nat} {K : am_K} (hK : am_PK l g am_B0 ρ mi K) : ∀ (f pc : Nat) (ls : am_L) (st : List Value) (h : am_H) (r : am_Q), am_el stop K f ρ mi pc ls st h = some r → am_P l g am_B0 ρ mi pc ls st h r
  | 0, _, _, _, _, _, e => by cases e
  | f + 1, pc, ls, st, h, r, e => by
    rw [am_el] at e
    refine am_P.ms (m := am_mt mi pc) (am_step (B := am_B0) am_md0 (k := fun pc' ls' st' g => match Nat.beq pc' stop with
        | true => K pc' ls' st' g
        | false => am_el stop K f ρ mi pc' ls' st' g) (call := fun mj args g => am_ev am_B0 f (am_rk mj args) mj 0 (am_pad (am_ml mj) (am_la args)) [] g) (fun pc ls st h r e => ?_) (fun mj args h r e => ?_) e)
    · dsimp only at e
      split at e
      · exact hK _ _ _ _ _ e
      · exact am_el_sound hst hK f _ _ _ _ _ e
    · have hP := am_sound (g := g) am_md0 hst f _ _ _ _ _ _ _ e
      exact ⟨am_ev_nm e, hP.1, fun h2 => am_con hst (am_ev_nm e) h2 hP⟩
/-- from a place on, all objects there -/
noncomputable def am_KM (ρ mi : Nat) : am_K := fun pc ls st h => am_cd (Nat.beq h.1 100 && am_rsok h) (am_vn am_M ρ mi pc ls st h) none
theorem am_KM_P {l : Launch} {g : am_D} (hst : l.stackTraces = false) (ρ mi : Nat) : am_PK l g am_B0 ρ mi (am_KM ρ mi) := fun pc ls st h r e => by
  obtain ⟨hb, e⟩ := am_cdT e rfl
  rw [Bool.and_eq_true] at hb
  obtain ⟨f, e⟩ := am_vn_iff.mp e
  exact (am_sound am_mdM hst f _ _ _ _ _ _ _ e).mode (Nat.eq_of_beq_eq_true hb.1) hb.2
