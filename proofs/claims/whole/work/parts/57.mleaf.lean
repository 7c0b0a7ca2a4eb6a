/-! LEAVES OF THE MODEL: its arrays -/
section
variable {α : Type} {k : Nat} {h : am_H}
theorem ml_61 (hk : k < 4) (f : Int32 → Option α) : am_il 100 61 (nI k) h f = f (am_I h 61 k) := am_il_ok (r := 61) (n := 4) rfl (by decide) hk (by decide) h f
theorem ms_61 (hk : k < 4) (v : Int32) (f : am_H → Option α) : am_is 100 61 16 (nI k) v h f = f (am_sI h 61 k v) := am_is_ok (r := 61) (n := 4) rfl (by decide) hk (by decide) v h f
theorem ml_62 (hk : k < 9) (f : Int32 → Option α) : am_il 100 62 (nI k) h f = f (am_I h 62 k) := am_il_ok (r := 62) (n := 9) rfl (by decide) hk (by decide) h f
theorem ms_62 (hk : k < 9) (v : Int32) (f : am_H → Option α) : am_is 100 62 16 (nI k) v h f = f (am_sI h 62 k v) := am_is_ok (r := 62) (n := 9) rfl (by decide) hk (by decide) v h f
theorem ml_63 (hk : k < 9) (f : Int32 → Option α) : am_il 100 63 (nI k) h f = f (am_I h 63 k) := am_il_ok (r := 63) (n := 9) rfl (by decide) hk (by decide) h f
theorem ms_63 (hk : k < 9) (v : Int32) (f : am_H → Option α) : am_is 100 63 16 (nI k) v h f = f (am_sI h 63 k v) := am_is_ok (r := 63) (n := 9) rfl (by decide) hk (by decide) v h f
theorem ml_64 (hk : k < 81) (f : Int32 → Option α) : am_il 100 64 (nI k) h f = f (am_I h 64 k) := am_il_ok (r := 64) (n := 81) rfl (by decide) hk (by decide) h f
theorem ms_64 (hk : k < 81) (v : Int32) (f : am_H → Option α) : am_is 100 64 16 (nI k) v h f = f (am_sI h 64 k v) := am_is_ok (r := 64) (n := 81) rfl (by decide) hk (by decide) v h f
theorem ml_65 (hk : k < 81) (f : Int32 → Option α) : am_il 100 65 (nI k) h f = f (am_I h 65 k) := am_il_ok (r := 65) (n := 81) rfl (by decide) hk (by decide) h f
theorem ms_65 (hk : k < 81) (v : Int32) (f : am_H → Option α) : am_is 100 65 16 (nI k) v h f = f (am_sI h 65 k v) := am_is_ok (r := 65) (n := 81) rfl (by decide) hk (by decide) v h f
theorem ml_66 (hk : k < 6) (f : Int32 → Option α) : am_il 100 66 (nI k) h f = f (am_I h 66 k) := am_il_ok (r := 66) (n := 6) rfl (by decide) hk (by decide) h f
theorem ms_66 (hk : k < 6) (v : Int32) (f : am_H → Option α) : am_is 100 66 16 (nI k) v h f = f (am_sI h 66 k v) := am_is_ok (r := 66) (n := 6) rfl (by decide) hk (by decide) v h f
theorem ml_67 (hk : k < 6) (f : Int32 → Option α) : am_il 100 67 (nI k) h f = f (am_I h 67 k) := am_il_ok (r := 67) (n := 6) rfl (by decide) hk (by decide) h f
theorem ms_67 (hk : k < 6) (v : Int32) (f : am_H → Option α) : am_is 100 67 16 (nI k) v h f = f (am_sI h 67 k v) := am_is_ok (r := 67) (n := 6) rfl (by decide) hk (by decide) v h f
theorem ml_68 (hk : k < 10) (f : Int32 → Option α) : am_il 100 68 (nI k) h f = f (am_I h 68 k) := am_il_ok (r := 68) (n := 10) rfl (by decide) hk (by decide) h f
theorem ms_68 (hk : k < 10) (v : Int32) (f : am_H → Option α) : am_is 100 68 16 (nI k) v h f = f (am_sI h 68 k v) := am_is_ok (r := 68) (n := 10) rfl (by decide) hk (by decide) v h f
theorem ml_69 (hk : k < 1400) (f : Int32 → Option α) : am_il 100 69 (nI k) h f = f (am_I h 69 k) := am_il_ok (r := 69) (n := 1400) rfl (by decide) hk (by decide) h f
theorem ms_69 (hk : k < 1400) (v : Int32) (f : am_H → Option α) : am_is 100 69 16 (nI k) v h f = f (am_sI h 69 k v) := am_is_ok (r := 69) (n := 1400) rfl (by decide) hk (by decide) v h f
theorem ml_70 (hk : k < 700) (f : Int32 → Option α) : am_il 100 70 (nI k) h f = f (am_I h 70 k) := am_il_ok (r := 70) (n := 700) rfl (by decide) hk (by decide) h f
theorem ms_70 (hk : k < 700) (v : Int32) (f : am_H → Option α) : am_is 100 70 16 (nI k) v h f = f (am_sI h 70 k v) := am_is_ok (r := 70) (n := 700) rfl (by decide) hk (by decide) v h f
theorem ml_71 (hk : k < 3) (f : Int32 → Option α) : am_il 100 71 (nI k) h f = f (am_I h 71 k) := am_il_ok (r := 71) (n := 3) rfl (by decide) hk (by decide) h f
theorem ms_71 (hk : k < 3) (v : Int32) (f : am_H → Option α) : am_is 100 71 16 (nI k) v h f = f (am_sI h 71 k v) := am_is_ok (r := 71) (n := 3) rfl (by decide) hk (by decide) v h f
theorem ml_72 (hk : k < 4) (f : Int32 → Option α) : am_il 100 72 (nI k) h f = f (am_I h 72 k) := am_il_ok (r := 72) (n := 4) rfl (by decide) hk (by decide) h f
theorem ms_72 (hk : k < 4) (v : Int32) (f : am_H → Option α) : am_is 100 72 16 (nI k) v h f = f (am_sI h 72 k v) := am_is_ok (r := 72) (n := 4) rfl (by decide) hk (by decide) v h f
theorem ml_73 (hk : k < 4) (f : Int32 → Option α) : am_il 100 73 (nI k) h f = f (am_I h 73 k) := am_il_ok (r := 73) (n := 4) rfl (by decide) hk (by decide) h f
theorem ms_73 (hk : k < 4) (v : Int32) (f : am_H → Option α) : am_is 100 73 16 (nI k) v h f = f (am_sI h 73 k v) := am_is_ok (r := 73) (n := 4) rfl (by decide) hk (by decide) v h f
theorem ml_74 (hk : k < 9) (f : Int32 → Option α) : am_il 100 74 (nI k) h f = f (am_I h 74 k) := am_il_ok (r := 74) (n := 9) rfl (by decide) hk (by decide) h f
theorem ms_74 (hk : k < 9) (v : Int32) (f : am_H → Option α) : am_is 100 74 16 (nI k) v h f = f (am_sI h 74 k v) := am_is_ok (r := 74) (n := 9) rfl (by decide) hk (by decide) v h f
theorem ml_75 (hk : k < 9) (f : Int32 → Option α) : am_il 100 75 (nI k) h f = f (am_I h 75 k) := am_il_ok (r := 75) (n := 9) rfl (by decide) hk (by decide) h f
theorem ms_75 (hk : k < 9) (v : Int32) (f : am_H → Option α) : am_is 100 75 16 (nI k) v h f = f (am_sI h 75 k v) := am_is_ok (r := 75) (n := 9) rfl (by decide) hk (by decide) v h f
theorem ml_76 (hk : k < 81) (f : Int32 → Option α) : am_il 100 76 (nI k) h f = f (am_I h 76 k) := am_il_ok (r := 76) (n := 81) rfl (by decide) hk (by decide) h f
theorem ms_76 (hk : k < 81) (v : Int32) (f : am_H → Option α) : am_is 100 76 16 (nI k) v h f = f (am_sI h 76 k v) := am_is_ok (r := 76) (n := 81) rfl (by decide) hk (by decide) v h f
theorem ml_77 (hk : k < 6) (f : Int32 → Option α) : am_il 100 77 (nI k) h f = f (am_I h 77 k) := am_il_ok (r := 77) (n := 6) rfl (by decide) hk (by decide) h f
theorem ms_77 (hk : k < 6) (v : Int32) (f : am_H → Option α) : am_is 100 77 16 (nI k) v h f = f (am_sI h 77 k v) := am_is_ok (r := 77) (n := 6) rfl (by decide) hk (by decide) v h f
theorem ml_78 (hk : k < 6) (f : Int32 → Option α) : am_il 100 78 (nI k) h f = f (am_I h 78 k) := am_il_ok (r := 78) (n := 6) rfl (by decide) hk (by decide) h f
theorem ms_78 (hk : k < 6) (v : Int32) (f : am_H → Option α) : am_is 100 78 16 (nI k) v h f = f (am_sI h 78 k v) := am_is_ok (r := 78) (n := 6) rfl (by decide) hk (by decide) v h f
theorem ml_79 (hk : k < 6) (f : Int32 → Option α) : am_il 100 79 (nI k) h f = f (am_I h 79 k) := am_il_ok (r := 79) (n := 6) rfl (by decide) hk (by decide) h f
theorem ms_79 (hk : k < 6) (v : Int32) (f : am_H → Option α) : am_is 100 79 16 (nI k) v h f = f (am_sI h 79 k v) := am_is_ok (r := 79) (n := 6) rfl (by decide) hk (by decide) v h f
theorem ml_80 (hk : k < 6) (f : Int32 → Option α) : am_il 100 80 (nI k) h f = f (am_I h 80 k) := am_il_ok (r := 80) (n := 6) rfl (by decide) hk (by decide) h f
theorem ms_80 (hk : k < 6) (v : Int32) (f : am_H → Option α) : am_is 100 80 16 (nI k) v h f = f (am_sI h 80 k v) := am_is_ok (r := 80) (n := 6) rfl (by decide) hk (by decide) v h f
theorem ml_81 (hk : k < 10) (f : Int32 → Option α) : am_il 100 81 (nI k) h f = f (am_I h 81 k) := am_il_ok (r := 81) (n := 10) rfl (by decide) hk (by decide) h f
theorem ms_81 (hk : k < 10) (v : Int32) (f : am_H → Option α) : am_is 100 81 16 (nI k) v h f = f (am_sI h 81 k v) := am_is_ok (r := 81) (n := 10) rfl (by decide) hk (by decide) v h f
theorem ml_82 (hk : k < 1400) (f : Int32 → Option α) : am_il 100 82 (nI k) h f = f (am_I h 82 k) := am_il_ok (r := 82) (n := 1400) rfl (by decide) hk (by decide) h f
theorem ms_82 (hk : k < 1400) (v : Int32) (f : am_H → Option α) : am_is 100 82 16 (nI k) v h f = f (am_sI h 82 k v) := am_is_ok (r := 82) (n := 1400) rfl (by decide) hk (by decide) v h f
theorem ml_83 (hk : k < 950) (f : Int32 → Option α) : am_il 100 83 (nI k) h f = f (am_I h 83 k) := am_il_ok (r := 83) (n := 950) rfl (by decide) hk (by decide) h f
theorem ms_83 (hk : k < 950) (v : Int32) (f : am_H → Option α) : am_is 100 83 16 (nI k) v h f = f (am_sI h 83 k v) := am_is_ok (r := 83) (n := 950) rfl (by decide) hk (by decide) v h f
theorem ml_85 (hk : k < 40) (f : Int32 → Option α) : am_il 100 85 (nI k) h f = f (am_I h 85 k) := am_il_ok (r := 85) (n := 40) rfl (by decide) hk (by decide) h f
theorem ms_85 (hk : k < 40) (v : Int32) (f : am_H → Option α) : am_is 100 85 16 (nI k) v h f = f (am_sI h 85 k v) := am_is_ok (r := 85) (n := 40) rfl (by decide) hk (by decide) v h f
theorem ml_86 (hk : k < 40) (f : Int32 → Option α) : am_il 100 86 (nI k) h f = f (am_I h 86 k) := am_il_ok (r := 86) (n := 40) rfl (by decide) hk (by decide) h f
theorem ms_86 (hk : k < 40) (v : Int32) (f : am_H → Option α) : am_is 100 86 16 (nI k) v h f = f (am_sI h 86 k v) := am_is_ok (r := 86) (n := 40) rfl (by decide) hk (by decide) v h f
theorem ml_87 (hk : k < 1600) (f : Int32 → Option α) : am_il 100 87 (nI k) h f = f (am_I h 87 k) := am_il_ok (r := 87) (n := 1600) rfl (by decide) hk (by decide) h f
theorem ms_87 (hk : k < 1600) (v : Int32) (f : am_H → Option α) : am_is 100 87 16 (nI k) v h f = f (am_sI h 87 k v) := am_is_ok (r := 87) (n := 1600) rfl (by decide) hk (by decide) v h f
theorem ml_88 (hk : k < 10) (f : Int32 → Option α) : am_il 100 88 (nI k) h f = f (am_I h 88 k) := am_il_ok (r := 88) (n := 10) rfl (by decide) hk (by decide) h f
theorem ms_88 (hk : k < 10) (v : Int32) (f : am_H → Option α) : am_is 100 88 16 (nI k) v h f = f (am_sI h 88 k v) := am_is_ok (r := 88) (n := 10) rfl (by decide) hk (by decide) v h f
theorem ml_89 (hk : k < 950) (f : Int32 → Option α) : am_il 100 89 (nI k) h f = f (am_I h 89 k) := am_il_ok (r := 89) (n := 950) rfl (by decide) hk (by decide) h f
theorem ms_89 (hk : k < 950) (v : Int32) (f : am_H → Option α) : am_is 100 89 16 (nI k) v h f = f (am_sI h 89 k v) := am_is_ok (r := 89) (n := 950) rfl (by decide) hk (by decide) v h f
theorem ml_90 (hk : k < 4) (f : Int32 → Option α) : am_il 100 90 (nI k) h f = f (am_I h 90 k) := am_il_ok (r := 90) (n := 4) rfl (by decide) hk (by decide) h f
theorem ms_90 (hk : k < 4) (v : Int32) (f : am_H → Option α) : am_is 100 90 16 (nI k) v h f = f (am_sI h 90 k v) := am_is_ok (r := 90) (n := 4) rfl (by decide) hk (by decide) v h f
theorem ml_91 (hk : k < 9) (f : Int32 → Option α) : am_il 100 91 (nI k) h f = f (am_I h 91 k) := am_il_ok (r := 91) (n := 9) rfl (by decide) hk (by decide) h f
theorem ms_91 (hk : k < 9) (v : Int32) (f : am_H → Option α) : am_is 100 91 16 (nI k) v h f = f (am_sI h 91 k v) := am_is_ok (r := 91) (n := 9) rfl (by decide) hk (by decide) v h f
theorem ml_92 (hk : k < 9) (f : Int32 → Option α) : am_il 100 92 (nI k) h f = f (am_I h 92 k) := am_il_ok (r := 92) (n := 9) rfl (by decide) hk (by decide) h f
theorem ms_92 (hk : k < 9) (v : Int32) (f : am_H → Option α) : am_is 100 92 16 (nI k) v h f = f (am_sI h 92 k v) := am_is_ok (r := 92) (n := 9) rfl (by decide) hk (by decide) v h f
theorem ml_93 (hk : k < 4608) (f : Int32 → Option α) : am_il 100 93 (nI k) h f = f (am_I h 93 k) := am_il_ok (r := 93) (n := 4608) rfl (by decide) hk (by decide) h f
theorem ms_93 (hk : k < 4608) (v : Int32) (f : am_H → Option α) : am_is 100 93 16 (nI k) v h f = f (am_sI h 93 k v) := am_is_ok (r := 93) (n := 4608) rfl (by decide) hk (by decide) v h f
theorem ml_94 (hk : k < 14) (f : Int32 → Option α) : am_il 100 94 (nI k) h f = f (am_I h 94 k) := am_il_ok (r := 94) (n := 14) rfl (by decide) hk (by decide) h f
theorem ms_94 (hk : k < 14) (v : Int32) (f : am_H → Option α) : am_is 100 94 16 (nI k) v h f = f (am_sI h 94 k v) := am_is_ok (r := 94) (n := 14) rfl (by decide) hk (by decide) v h f
theorem ml_95 (hk : k < 7) (f : Int32 → Option α) : am_il 100 95 (nI k) h f = f (am_I h 95 k) := am_il_ok (r := 95) (n := 7) rfl (by decide) hk (by decide) h f
theorem ms_95 (hk : k < 7) (v : Int32) (f : am_H → Option α) : am_is 100 95 16 (nI k) v h f = f (am_sI h 95 k v) := am_is_ok (r := 95) (n := 7) rfl (by decide) hk (by decide) v h f
theorem ml_96 (hk : k < 40) (f : Int32 → Option α) : am_il 100 96 (nI k) h f = f (am_I h 96 k) := am_il_ok (r := 96) (n := 40) rfl (by decide) hk (by decide) h f
theorem ms_96 (hk : k < 40) (v : Int32) (f : am_H → Option α) : am_is 100 96 16 (nI k) v h f = f (am_sI h 96 k v) := am_is_ok (r := 96) (n := 40) rfl (by decide) hk (by decide) v h f
theorem ml_97 (hk : k < 1600) (f : Int32 → Option α) : am_il 100 97 (nI k) h f = f (am_I h 97 k) := am_il_ok (r := 97) (n := 1600) rfl (by decide) hk (by decide) h f
theorem ms_97 (hk : k < 1600) (v : Int32) (f : am_H → Option α) : am_is 100 97 16 (nI k) v h f = f (am_sI h 97 k v) := am_is_ok (r := 97) (n := 1600) rfl (by decide) hk (by decide) v h f
theorem ml_98 (hk : k < 14) (f : Int32 → Option α) : am_il 100 98 (nI k) h f = f (am_I h 98 k) := am_il_ok (r := 98) (n := 14) rfl (by decide) hk (by decide) h f
theorem ms_98 (hk : k < 14) (v : Int32) (f : am_H → Option α) : am_is 100 98 16 (nI k) v h f = f (am_sI h 98 k v) := am_is_ok (r := 98) (n := 14) rfl (by decide) hk (by decide) v h f
end
/-! plain methods of the model -/
section
variable {k n e : Nat} {h : am_H} {d : pw_L} {S : Nat → Nat}
theorem s179_t (h0 : am_I h 60 0 = nI 0) (x : Int32) : am_run am_M 179 [.ref 60, .int (nI 1), .int x] h = some (.inl (some (.int (nI 1))), h) := by
  rw [e179, h0, if_pos (by decide), if_neg (by decide), e179_16, h0, if_pos (by decide), if_pos (by decide)]
theorem s179_f (h0 : am_I h 60 0 = nI 0) (he : 0 < e ∧ e < 1000) : am_run am_M 179 [.ref 60, .int (nI 0), .int (nI e)] h = some (.inl (some (.int (nI 0))), am_sI h 60 0 (nI e)) := by
  rw [e179, h0, if_pos (by decide), if_pos (by decide)]
  dsimp only
  rw [e179_16, am_I_s, if_neg (nI_ne0 he.1 (by omega)), if_pos (by decide)]
theorem s179_n (h0 : am_I h 60 0 ≠ 0) (x y : Int32) : am_run am_M 179 [.ref 60, .int x, .int y] h = some (.inl (some (.int (nI 0))), h) := by
  rw [e179, if_neg h0, e179_16, if_neg h0, if_pos (by decide)]
theorem s180 {a m : Nat} (hk : k < 2 ^ 31) (ha : a < 2 ^ 31) (hm : m < 2 ^ 31) : am_run am_M 180 [.int (nI k), .int (nI a), .int (nI m)] h = some (.inl (some (.int (nI (if a ≤ k ∧ k ≤ m then 1 else 0)))), h) := by
  rw [e180]
  by_cases c1 : k < a
  · rw [if_pos (nI_lt c1 ha), if_pos (by decide), if_neg (by omega)]
  · rw [if_neg (nI_nlt (by omega) hk)]
    by_cases c2 : m < k
    · rw [if_pos (nI_lt c2 hk), if_pos (by decide), if_neg (by omega)]
    · rw [if_neg (nI_nlt (by omega) hm), if_pos (by decide), if_pos (by omega)]
/-- any number within bounds -/
def pz_w (x : Int32) (a m : Nat) : Prop := ∃ k, a ≤ k ∧ k ≤ m ∧ x = nI k
theorem s180_f {a m : Nat} (x : Int32) (hx : ¬ pz_w x a m) (ha : a < 2 ^ 31) (hm : m < 2 ^ 31) : am_run am_M 180 [.int x, .int (nI a), .int (nI m)] h = some (.inl (some (.int (nI 0))), h) := by
  rw [e180]
  by_cases c0 : x < 0
  · have c1 : x < nI a := by
      rw [Int32.lt_iff_toInt_lt] at c0 ⊢
      rw [nI_toInt ha]
      have : (0 : Int32).toInt = 0 := by decide
      omega
    rw [if_pos c1, if_pos (by decide)]
  · obtain ⟨j, hj, rfl⟩ := nI_of c0
    by_cases c1 : j < a
    · rw [if_pos (nI_lt c1 ha), if_pos (by decide)]
    · rw [if_neg (nI_nlt (by omega) hj)]
      by_cases c2 : m < j
      · rw [if_pos (nI_lt c2 hj), if_pos (by decide)]
      · exact absurd ⟨j, by omega, by omega, rfl⟩ hx
theorem s182 {a b : Nat} (ha : a < 2 ^ 31) (hb : b < 2 ^ 31) : am_run am_M 182 [.int (nI a), .int (nI b)] h = some (.inl (some (.int (nI (min a b)))), h) := by
  rw [e182]
  by_cases c : b ≤ a
  · rw [if_pos (nI_le c ha), Nat.min_eq_right c]
  · rw [if_neg (nI_ge (by omega) hb), Nat.min_eq_left (by omega)]
/-- a whole row is copied -/
theorem s183 {r q n m : Nat} (hr1 : am_ty r = (16, n)) (hr : r < 100) (hq1 : am_ty q = (16, m)) (hq : q < 100) (hnm : n ≤ m) (hm : m < 2 ^ 31) (hrq : r ≠ q) : am_run am_M 183 [.ref 60, .ref r, .ref q] h = some (.inl none, pz_wr h q (fun j => if j < n then am_I h r j else am_I h q j)) := by
  rw [e183]
  obtain ⟨s, e, hp⟩ := am_for0 (fun k (g : am_H) => am_vn am_M 0 183 2 [none, some (.ref r), some (.ref q), some (.int (nI k))] [] g)
    (fun k g => g = pz_wr h q (fun j => if j < k then am_I h r j else am_I h q j)) n h (by
      simp only [Nat.not_lt_zero, if_false]
      exact (pz_wr_id h q).symm) (fun k g hk hg => by
      refine ⟨pz_wr h q (fun j => if j < k + 1 then am_I h r j else am_I h q j), ?_, rfl⟩
      rw [e183_2, am_al_ok hr1 hr, if_neg (nI_ge hk (by omega)), am_il_ok hr1 hr hk (by omega), am_is_ok hq1 hq (show k < m by omega) hm, pz_succ, hg, pz_sI_wr, am_I_w1 _ _ _ hrq]
      congr 2
      funext b
      by_cases hb : b = k
      · rw [if_pos hb, if_pos (by omega), hb]
      · rw [if_neg hb]
        by_cases hb2 : b < k
        · rw [if_pos hb2, if_pos (by omega)]
        · rw [if_neg hb2, if_neg (by omega)])
  show am_vn am_M 0 183 2 [none, some (.ref r), some (.ref q), some (.int (nI 0))] [] h = _
  rw [e, hp, e183_2, am_al_ok hr1 hr, if_pos (nI_le (Nat.le_refl n) (by omega))]
theorem s222 (hk : k < 3) : am_run am_M 222 [.ref 60, .int (nI k)] h = some (.inl (some (.int (-1 : Int32))), am_sI h 71 k (am_I h 71 k + nI 1)) := by
  rw [e222, ml_71 hk, ms_71 hk]
theorem s234_t (hL : pm_L h d) (ho : pw_ok d) (h0 : am_I h 60 0 = nI 0) (hk : k < pw_n d 0) : am_run am_M 234 [.ref 60, .int (nI k)] h = some (.inl (some (.int (nI 1))), h) := by
  have := ho.1.1
  rw [e234, if_neg (nI_pos (by omega)), show am_I h 60 1 = nI (pw_n d 0) from hL.1 0 (by omega), if_neg (nI_ge hk (by omega)), s179_t h0, am_bI_ok, if_pos (by decide)]
theorem s235_t (hL : pm_L h d) (ho : pw_ok d) (h0 : am_I h 60 0 = nI 0) (hk : k < pw_n d 1) : am_run am_M 235 [.ref 60, .int (nI k)] h = some (.inl (some (.int (nI 1))), h) := by
  have := ho.1.2.1
  rw [e235, if_neg (nI_pos (by omega)), show am_I h 60 2 = nI (pw_n d 1) from hL.1 1 (by omega), if_neg (nI_ge hk (by omega)), s179_t h0, am_bI_ok, if_pos (by decide)]
theorem s236_t (hL : pm_L h d) (ho : pw_ok d) (h0 : am_I h 60 0 = nI 0) (hk : k < pw_n d 3) : am_run am_M 236 [.ref 60, .int (nI k)] h = some (.inl (some (.int (nI 1))), h) := by
  have := ho.1.2.2.2.1
  rw [e236, if_neg (nI_pos (by omega)), show am_I h 60 4 = nI (pw_n d 3) from hL.1 3 (by omega), if_neg (nI_ge hk (by omega)), s179_t h0, am_bI_ok, if_pos (by decide)]
/-- a number below n -/
def pz_b (x : Int32) (n : Nat) : Prop := ∃ k, k < n ∧ x = nI k
theorem pz_b_or (x : Int32) (n : Nat) : pz_b x n ∨ ¬ pz_b x n := Classical.em _
theorem pz_b_n {x : Int32} {n : Nat} (hn : n < 2 ^ 31) (h : ¬ pz_b x n) : x < 0 ∨ nI n ≤ x := by
  rcases pk_ix x hn with a | a | ⟨j, hj, e⟩
  · exact Or.inl a
  · exact Or.inr a
  · exact absurd ⟨j, hj, e⟩ h
theorem s234_f {x : Int32} (hL : pm_L h d) (ho : pw_ok d) (h0 : am_I h 60 0 = nI 0) (hk : ¬ pz_b x (pw_n d 0)) : am_run am_M 234 [.ref 60, .int x] h = some (.inl (some (.int (nI 0))), am_sI h 60 0 (nI 1)) := by
  have := ho.1.1
  rw [e234, show am_I h 60 1 = nI (pw_n d 0) from hL.1 0 (by omega)]
  rcases pz_b_n (by omega) hk with c | c
  · rw [if_pos c, s179_f h0 (by omega), am_bI_ok, if_pos (by decide)]
  · by_cases c0 : x < 0
    · rw [if_pos c0, s179_f h0 (by omega), am_bI_ok, if_pos (by decide)]
    · rw [if_neg c0, if_pos c, s179_f h0 (by omega), am_bI_ok, if_pos (by decide)]
theorem s235_f {x : Int32} (hL : pm_L h d) (ho : pw_ok d) (h0 : am_I h 60 0 = nI 0) (hk : ¬ pz_b x (pw_n d 1)) : am_run am_M 235 [.ref 60, .int x] h = some (.inl (some (.int (nI 0))), am_sI h 60 0 (nI 1)) := by
  have := ho.1.2.1
  rw [e235, show am_I h 60 2 = nI (pw_n d 1) from hL.1 1 (by omega)]
  rcases pz_b_n (by omega) hk with c | c
  · rw [if_pos c, s179_f h0 (by omega), am_bI_ok, if_pos (by decide)]
  · by_cases c0 : x < 0
    · rw [if_pos c0, s179_f h0 (by omega), am_bI_ok, if_pos (by decide)]
    · rw [if_neg c0, if_pos c, s179_f h0 (by omega), am_bI_ok, if_pos (by decide)]
theorem s236_f {x : Int32} (hL : pm_L h d) (ho : pw_ok d) (h0 : am_I h 60 0 = nI 0) (hk : ¬ pz_b x (pw_n d 3)) : am_run am_M 236 [.ref 60, .int x] h = some (.inl (some (.int (nI 0))), am_sI h 60 0 (nI 1)) := by
  have := ho.1.2.2.2.1
  rw [e236, show am_I h 60 4 = nI (pw_n d 3) from hL.1 3 (by omega)]
  rcases pz_b_n (by omega) hk with c | c
  · rw [if_pos c, s179_f h0 (by omega), am_bI_ok, if_pos (by decide)]
  · by_cases c0 : x < 0
    · rw [if_pos c0, s179_f h0 (by omega), am_bI_ok, if_pos (by decide)]
    · rw [if_neg c0, if_pos c, s179_f h0 (by omega), am_bI_ok, if_pos (by decide)]
theorem pz_bw {x : Int32} {m : Nat} : pz_w x 0 m ↔ pz_b x (m + 1) := ⟨fun ⟨k, _, h, e⟩ => ⟨k, by omega, e⟩, fun ⟨k, h, e⟩ => ⟨k, by omega, by omega, e⟩⟩
theorem s237_t {m : Nat} (h0 : am_I h 60 0 = nI 0) (hk : k < m + 1) (hm : m < 1000) : am_run am_M 237 [.ref 60, .int (nI k), .int (nI m)] h = some (.inl (some (.int (nI 1))), h) := by
  rw [e237, s180 (by omega) (by omega) (by omega), am_bI_ok, if_pos (by omega), s179_t h0, am_bI_ok, if_pos (by decide)]
theorem s237_f {x : Int32} {m : Nat} (h0 : am_I h 60 0 = nI 0) (hk : ¬ pz_b x (m + 1)) (hm : m < 1000) : am_run am_M 237 [.ref 60, .int x, .int (nI m)] h = some (.inl (some (.int (nI 0))), am_sI h 60 0 (nI 1)) := by
  rw [e237, s180_f x (fun h => hk (pz_bw.mp h)) (by omega) (by omega), am_bI_ok, s179_f h0 (by omega), am_bI_ok, if_pos (by decide)]
theorem s224 (s : Nat) (h1 : 20000 ≤ s) (h2 : s ≤ 20008) (h3 : s ≠ 20002) (x y : Int32) : am_run am_M 224 [.int (nI (pm_op s)), .int x, .int y] h = some (.inl (some (.int (pd_jo s x y))), h) := by
  rw [e224]
  unfold pd_jo pm_op
  have hq : ∀ m n, m < 2 ^ 31 → n < 2 ^ 31 → (nI m = nI n ↔ m = n) := fun m n hm hn => nI_eq hm hn
  have hs : s = 20000 ∨ s = 20001 ∨ s = 20003 ∨ s = 20004 ∨ s = 20005 ∨ s = 20006 ∨ s = 20007 ∨ s = 20008 := by omega
  rcases hs with rfl | rfl | rfl | rfl | rfl | rfl | rfl | rfl <;> simp only [reduceIte, Nat.reduceSub, Nat.reduceEqDiff, hq 5 4 (by omega) (by omega), hq 5 5 (by omega) (by omega), hq 4 4 (by omega) (by omega), hq 6 4 (by omega) (by omega), hq 6 5 (by omega) (by omega), hq 6 6 (by omega) (by omega), hq 7 4 (by omega) (by omega), hq 7 5 (by omega) (by omega), hq 7 6 (by omega) (by omega), hq 7 7 (by omega) (by omega), hq 8 4 (by omega) (by omega), hq 8 5 (by omega) (by omega), hq 8 6 (by omega) (by omega), hq 8 7 (by omega) (by omega), hq 8 8 (by omega) (by omega), hq 9 4 (by omega) (by omega), hq 9 5 (by omega) (by omega), hq 9 6 (by omega) (by omega), hq 9 7 (by omega) (by omega), hq 9 8 (by omega) (by omega), hq 9 9 (by omega) (by omega), hq 10 4 (by omega) (by omega), hq 10 5 (by omega) (by omega), hq 10 6 (by omega) (by omega), hq 10 7 (by omega) (by omega), hq 10 8 (by omega) (by omega), hq 10 9 (by omega) (by omega), hq 10 10 (by omega) (by omega), hq 11 4 (by omega) (by omega), hq 11 5 (by omega) (by omega), hq 11 6 (by omega) (by omega), hq 11 7 (by omega) (by omega), hq 11 8 (by omega) (by omega), hq 11 9 (by omega) (by omega), hq 11 10 (by omega) (by omega)]
  all_goals (repeat' split)
  all_goals rfl
end
