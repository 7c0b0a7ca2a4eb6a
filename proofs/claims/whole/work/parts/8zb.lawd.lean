section
/-! THE LAW: its beginning -/
def lx_w0 : pw_W := (wn_0, wn_S wn_0, [], [], none, fun _ => 0, 0, (-1 : Int32), fun _ => 0)
theorem lx_w0_wf : pw_wf lx_w0 := ⟨wn_0_ok.1, wn_S_SL wn_0_ok, ⟨Nat.zero_le _, fun x hx => absurd hx List.not_mem_nil⟩, ⟨Nat.zero_le _, fun x hx => absurd hx List.not_mem_nil⟩, trivial, Nat.zero_le _, fun _ => by show 0 < 256; omega⟩
theorem wn_S_00 (i : Nat) : wn_S wn_0 i = 0 := by
  have e0 : pw_n wn_0 0 = 0 := rfl
  have e3 : pw_n wn_0 3 = 0 := rfl
  unfold wn_S
  rw [e0, e3, if_neg (by omega), if_neg (by omega), if_neg (by omega), if_neg (by omega)]
theorem lx_hR : am_R am_h0 0 10 = some 43 ∧ am_R am_h0 1 2 = some 3 := by decide +kernel
theorem lx_hc : (∀ i, i < 5 → am_I am_h0 43 (11 + i) = nI 0) ∧ (∀ j, j < 81 → am_I am_h0 49 j = nI 0) ∧ am_I am_h0 52 3 = nI 0 ∧ am_I am_h0 55 3 = nI 0 ∧ (∀ i, i < 49 → am_I am_h0 21 i = nI 0) ∧ am_I am_h0 22 1 = nI 0 ∧ am_I am_h0 22 2 = nI 0 ∧ am_I am_h0 24 2 = nI 0 ∧ am_I am_h0 0 12 = nI 0 ∧ am_I am_h0 1 1 = nI 0 ∧ am_I am_h0 0 11 = (-1 : Int32) ∧ ∀ j, j < 3 → am_I am_h0 42 j = nI 0 := by decide +kernel
theorem lx_hm : (∀ i, i < 5 → am_I am_h0 60 (1 + i) = nI 0) ∧ (∀ j, j < 81 → am_I am_h0 64 j = nI 0) ∧ am_I am_h0 60 6 = (-1 : Int32) ∧ am_I am_h0 60 7 = (-1 : Int32) ∧ (∀ i, i < 40 → am_I am_h0 85 i = nI 0) ∧ am_I am_h0 60 58 = nI 0 ∧ am_I am_h0 60 70 = nI 0 ∧ am_I am_h0 60 74 = nI 0 ∧ am_I am_h0 60 18 = nI 0 ∧ am_I am_h0 60 20 = (-1 : Int32) ∧ (∀ j, j < 3 → am_I am_h0 71 j = nI 0) ∧ am_I am_h0 60 61 = (-1 : Int32) ∧ am_I am_h0 60 62 = (-1 : Int32) ∧ am_I am_h0 60 63 = (-1 : Int32) := by decide +kernel
theorem lx_start (L : Nat) (xs : Nat → Int32) : lx_S L lx_w0 (am_h1 L xs) := by
  obtain ⟨e1, e2, e3, e4, e5, e6⟩ := am_h1_eqv L xs
  have eI : ∀ i k, i < 2000 → am_I (am_h1 L xs) i k = am_I am_h0 i k := fun i k hi => congrFun (e6 i hi) k
  have eR : am_R (am_h1 L xs) = am_R am_h0 := e5
  refine ⟨lx_w0_wf, ?_, ?_, (am_h1_xs L xs).2⟩
  · obtain ⟨a1, a2, a3, a4, a5, a6, a7, a8, a9, a10, a11, a12⟩ := lx_hc
    refine ⟨⟨43, Or.inr rfl, by rw [eR]; exact lx_hR.1, by rw [eR]; exact lx_hR.2, ⟨fun i hi => ?_, fun a ha => absurd ha (Nat.not_lt_zero a), fun a ha => absurd ha (Nat.not_lt_zero a), fun a ha => absurd ha (Nat.not_lt_zero a), fun j hj => ?_, fun a b ha hb => absurd ha (Nat.not_lt_zero a), ⟨?_, fun i hi => absurd hi (Nat.not_lt_zero i)⟩, ⟨?_, fun i hi => absurd hi (Nat.not_lt_zero i)⟩⟩⟩, fun i hi => ?_, ⟨0, by omega, ?_, ?_, fun j hj => absurd hj (Nat.not_lt_zero j)⟩, ⟨?_, fun j hj => absurd hj (Nat.not_lt_zero j)⟩, ?_, ?_, fun j hj => absurd hj (Nat.not_lt_zero j), ?_, fun j hj => ?_⟩
    · rw [eI _ _ (by omega)]; exact a1 i hi
    · rw [eI _ _ (by omega)]; exact a2 j hj
    · rw [eI _ _ (by omega)]; exact a3
    · rw [eI _ _ (by omega)]; exact a4
    · rw [eI _ _ (by omega), wn_S_00]; exact a5 i hi
    · rw [eI _ _ (by omega)]; exact a6
    · rw [eI _ _ (by omega)]; exact a7
    · rw [eI _ _ (by omega)]; exact a8
    · show am_I (am_h1 L xs) 0 12 = nI 0
      rw [eI _ _ (by omega)]; exact a9
    · rw [eI _ _ (by omega)]; exact a10
    · rw [eI _ _ (by omega)]; exact a11
    · rw [eI _ _ (by omega)]; exact a12 j hj
  · obtain ⟨a1, a2, a3, a4, a5, a6, a7, a8, a9, a10, a11, a12, a13, a14⟩ := lx_hm
    refine ⟨⟨fun i hi => ?_, fun a ha => absurd ha (Nat.not_lt_zero a), fun a ha => absurd ha (Nat.not_lt_zero a), fun a ha => absurd ha (Nat.not_lt_zero a), fun j hj => ?_, fun a b ha hb => absurd ha (Nat.not_lt_zero a), fun a ha => absurd ha (Nat.not_lt_zero a), ?_, ?_⟩, ⟨fun i hi => ?_, fun p hp => ?_, ?_, fun k hk => ⟨?_, ?_⟩⟩, ⟨?_, fun j hj => absurd hj (Nat.not_lt_zero j)⟩, ⟨?_, fun j hj => absurd hj (Nat.not_lt_zero j)⟩, ?_, ?_, fun j hj => absurd hj (Nat.not_lt_zero j), ?_, fun j hj => ?_, ?_, ?_, ?_⟩
    · rw [eI _ _ (by omega)]; exact a1 i hi
    · rw [eI _ _ (by omega)]; exact a2 j hj
    · unfold pm_D
      rw [if_pos (show pw_d wn_0 0 = [] from rfl), eI _ _ (by omega)]; exact a3
    · unfold pm_D
      rw [if_pos (show pw_d wn_0 1 = [] from rfl), eI _ _ (by omega)]; exact a4
    · rw [eI _ _ (by omega), wn_S_00]; exact a5 _ (by omega)
    · rw [eI _ _ (by omega), wn_S_00]; exact a5 _ (by omega)
    · rw [eI _ _ (by omega), wn_S_lamps (Nat.zero_le _) (Nat.zero_le _)]; exact a5 _ (by omega)
    · rw [eI _ _ (by omega), wn_S_00]; exact a5 _ (by omega)
    · rw [eI _ _ (by omega), wn_S_00]; exact a5 _ (by omega)
    · rw [eI _ _ (by omega)]; exact a6
    · rw [eI _ _ (by omega)]; exact a7
    · show am_I (am_h1 L xs) 60 74 = nI 0
      rw [eI _ _ (by omega)]; exact a8
    · rw [eI _ _ (by omega)]; exact a9
    · rw [eI _ _ (by omega)]; exact a10
    · rw [eI _ _ (by omega)]; exact a11 j hj
    · rw [eI _ _ (by omega)]; exact a12
    · rw [eI _ _ (by omega)]; exact a13
    · rw [eI _ _ (by omega)]; exact a14
theorem am_main {L : Nat} (hL : L ≤ 3072) (xs : Nat → Int32) : ∃ r : am_Q, am_vn am_M (am_rs 299) 299 23 am_ls1 [] (am_h1 L xs) = some r ∧ r.1 = .inl (some (.int 1)) ∧ r.2.2.1 ≤ 601024 ∧ r.2.2.2.1 ≤ 7293034 := by
  have h := law_loop hL 512 0 (am_h1 L xs) lx_w0 (by omega) (by omega) (lx_start L xs) (by rw [(am_h1_n L xs).2.1]; omega) (by rw [(am_h1_n L xs).2.2]; omega)
  exact h
end
