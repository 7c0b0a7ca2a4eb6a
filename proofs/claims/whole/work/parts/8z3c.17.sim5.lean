theorem am_okt_0 {a : Nat} {ty : FieldType} (h : am_okt a (some ty) = true) (h0 : am_ft a = 0) : ty = .int := by
  unfold am_okt at h
  rw [h0] at h
  cases ty <;> first | rfl | cases h
theorem am_okt_1 {a : Nat} {ty : FieldType} (h : am_okt a (some ty) = true) (h0 : am_ft a = 1) : ty = .long := by
  unfold am_okt at h
  rw [h0] at h
  cases ty <;> first | rfl | cases h
theorem am_okt_2 {a : Nat} {ty : FieldType} (h : am_okt a (some ty) = true) (h0 : am_ft a = 2) (q : Nat) : narrow ty (.ref q) = .ref q ∧ fits ty (.ref q) = true := by
  unfold am_okt at h
  rw [h0] at h
  cases ty <;> first | exact ⟨rfl, rfl⟩ | cases h
theorem am_okt_3 {a : Nat} {ty : FieldType} (h : am_okt a (some ty) = true) (h0 : am_ft a ≠ 0) (h1 : am_ft a ≠ 1) (h2 : am_ft a ≠ 2) : ty = .boolean := by
  unfold am_okt at h
  split at h
  · exact absurd (by assumption) h0
  · exact absurd (by assumption) h1
  · rename_i e; exact (Option.some.inj e)
  · exact absurd (by assumption) h2
  · exact absurd (by assumption) h2
  · cases h
theorem am_bool01 {x : Int32} (h : x &&& 1 = x) : x = 0 ∨ x = 1 := by
  have h2 := congrArg (fun z : Int32 => z.toBitVec) h
  have h3 : (x &&& 1).toBitVec = x.toBitVec &&& 1#32 := rfl
  rw [h3] at h2
  have h4 : x.toBitVec.toNat % 2 = x.toBitVec.toNat := by
    have := congrArg BitVec.toNat h2
    rw [BitVec.toNat_and] at this
    simpa [Nat.and_one_is_mod] using this
  have h5 : x.toBitVec.toNat = 0 ∨ x.toBitVec.toNat = 1 := by omega
  rcases h5 with h5 | h5
  · exact Or.inl (Int32.toBitVec_inj.mp (BitVec.eq_of_toNat_eq h5))
  · exact Or.inr (Int32.toBitVec_inj.mp (BitVec.eq_of_toNat_eq h5))
theorem st_putfield {l : Launch} {g : am_D} {B : am_B} {ρ mi pc n a : Nat} {x : Int32} {ls : am_L} {st : List Value} {h : am_H} {r : am_Q} {k : am_K} {idx : Nat} (hBs : ∀ h h' : am_H, h'.1 = h.1 → B.1 h' = B.1 h) (hf : am_f mi pc = some (.putfield idx, n, x, a)) (hk : am_PK l g B ρ mi k)
    (e : (match st with
      | v :: .ref r0 :: q => am_pf (B.1 h) B.2.1 r0 a v h fun g => k (pc + n) ls q g
      | _ => none) = some r) : am_P l g B ρ mi pc ls st h r := by
  obtain ⟨d, o, hmi, -⟩ := am_okf hf
  simp only [am_okx, Bool.and_eq_true] at o
  obtain ⟨on, o⟩ := o
  obtain rfl : n = 3 := Nat.eq_of_beq_eq_true on
  obtain ⟨v, r0, q, rfl, e9⟩ : ∃ (v : Value) (r0 : Nat) (q : List Value), st = v :: .ref r0 :: q ∧ am_pf (B.1 h) B.2.1 r0 a v h (fun g => k (pc + 3) ls q g) = some r := by
    split at e
    · exact ⟨_, _, _, rfl, e⟩
    · cases e
  clear e
  unfold am_pf at e9
  obtain ⟨hr1, hr2, e⟩ := am_ret_ch e9
  clear e9
  have hint : ∀ (x : Int32) (h1 : am_ft a ≠ 1) (h2 : am_ft a ≠ 2), (∀ ty, am_okt a (some ty) = true → narrow ty (.int x) = .int x ∧ fits ty (.int x) = true) → k (pc + 3) ls q (am_sI h r0 (a % 128) x) = some r → am_P l g B ρ mi pc ls (.int x :: .ref r0 :: q) h r := by
    intro x h1 h2 ht e
    refine (hk _ _ _ _ _ e).goH rfl rfl rfl fun p e R s m args below meth c A ad H locs lsm cells slots Q F Wd Ev S hl kk => ?_
    refine am_putf (v := .int x) (h' := am_sI h r0 (a % 128) x) o d hr1 hr2 rfl (hBs _ _ rfl) (fun ad j hj => am_en_sI g ad h r0 _ x hj) (fun ad j hj hj2 => am_f1_eq ad _ _ _ _ ?_ rfl rfl) (fun ad => ?_) (fun _ z => z) (fun i hi hi2 => am_sI_I' h r0 _ x hi2) (fun ad ty h => ht ty h) F Wd Ev S kk
    · rw [am_mod128 _ _ hj2, am_sI_I, upd, if_neg hj]
    · rw [am_f1_int _ _ _ _ h1 h2, am_sI_I, upd, if_pos rfl]; rfl
  split at e
  · rename_i h0
    split at e
    · exact hint _ (by rw [h0]; decide) (by rw [h0]; decide) (fun ty ht => by rw [am_okt_0 ht h0]; exact ⟨rfl, rfl⟩) e
    · cases e
  · rename_i h0
    split at e
    · rename_i x
      refine (hk _ _ _ _ _ e).goH rfl rfl rfl fun p e R s m args below meth c A ad H locs lsm cells slots Q F Wd Ev S hl kk => ?_
      refine am_putf (v := .long x) (h' := am_sJ h r0 (a % 128) x) o d hr1 hr2 rfl (hBs _ _ rfl) (fun ad j hj => am_en_sJ g ad h r0 _ x hj) (fun ad j hj hj2 => am_f1_eq ad _ _ _ _ rfl ?_ rfl) (fun ad => ?_) (fun _ z => z) (fun i hi hi2 => rfl) (fun ad ty ht => by rw [am_okt_1 ht h0]; exact ⟨rfl, rfl⟩) F Wd Ev S kk
      · rw [am_mod128 _ _ hj2, am_sJ_J, vp_updL, if_neg hj]
      · unfold am_f1; rw [h0]; show Value.long (am_J _ r0 (a % 128)) = _; rw [am_sJ_J, vp_updL, if_pos rfl]; rfl
    · cases e
  · rename_i h0
    split at e
    · rename_i hS
      split at e
      · rename_i q0
        obtain ⟨hq0, e⟩ := am_cdT e rfl
        refine (hk _ _ _ _ _ e).goH rfl rfl rfl fun p e R s m args below meth c A ad H locs lsm cells slots Q F Wd Ev S hl kk => ?_
        refine am_putf (v := .ref q0) (h' := am_sR h r0 (a % 128) (some q0)) o d hr1 hr2 rfl (hBs _ _ rfl) (fun ad j hj => am_en_sR g ad h r0 _ _ hj) (fun ad j hj hj2 => am_f1_eq ad _ _ _ _ rfl rfl ?_) (fun ad => ?_) (fun hbn z => ⟨fun i k q e hi => ?_, fun i k q hi e => ?_⟩) (fun i hi hi2 => rfl) (fun ad ty ht => am_okt_2 ht h0 _) F Wd Ev S kk
        · rw [am_mod128 _ _ hj2, am_sR_R]; exact if_neg hj
        · unfold am_f1; rw [h0]; show va_rf ((am_R _ r0 (a % 128)).map ad) = _; rw [am_sR_R]; simp only [if_true]; rfl
        · by_cases hir : i = r0
          · subst hir
            rw [am_sR_R]
            by_cases hk : k = a % 128
            · subst hk; rw [hS] at e; cases e
            · simp only [hk, if_false]; exact z.1 _ _ _ (by assumption) hi
          · rw [am_sR_R' _ _ _ _ hir]; exact z.1 _ _ _ e hi
        · by_cases hir : i = r0
          · subst hir
            rw [am_sR_R] at e
            by_cases hk : k = a % 128
            · simp only [hk, if_true] at e
              cases e
              rw [Bool.or_eq_true, hbn] at hq0
              exact hq0.elim (fun y => Or.inl (Nat.le_of_ble_eq_true y)) (fun y => Or.inr (Nat.le_of_ble_eq_true y))
            · simp only [hk, if_false] at e; exact z.2 _ _ _ hi e
          · rw [am_sR_R' _ _ _ _ hir] at e; exact z.2 _ _ _ hi e
      · cases e
    · cases e
  · rename_i h0 h1 h2
    split at e
    · split at e
      · rename_i hx
        exact hint _ h1 h2 (fun ty ht => by
          rw [am_okt_3 ht h0 h1 h2]
          refine ⟨by show Value.int _ = _; rw [hx], ?_⟩
          rcases am_bool01 hx with rfl | rfl <;> rfl) e
      · cases e
    · cases e
