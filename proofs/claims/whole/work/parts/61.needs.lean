/-! CALLS: what is asked of arguments -/
theorem am_gr_n {α : Type} (q : Nat) (f : Nat → Option α) : am_gr none (some q) f = f q := rfl
theorem am_CO_x {q : Nat → Nat} {o : Option am_Q} {h : am_H} {e : Nat} {v : Int32} {P : am_H → Prop} (he : e ≠ 0) (ho : o = some (.inr (q e), am_ex h)) : am_CO q o h e v P := by
  unfold am_CO
  rw [if_neg he]
  exact ho
theorem am_CO_0 {q : Nat → Nat} {o : Option am_Q} {h : am_H} {v : Int32} {P : am_H → Prop} (ho : am_RI o (fun u g => u = v ∧ P g)) : am_CO q o h 0 v P := by
  obtain ⟨u, g, e, rfl, hp⟩ := ho
  exact ⟨g, e, hp⟩
theorem am_fin_c {w : pw_W} {h g : am_H} (hc : pI_c h w) (k : am_kp ps_C h g) : pI_c g w ∧ am_fc h g := ⟨hc.kC k, kC_fc k⟩
theorem am_fin_m {w : pw_W} {h g g' : am_H} {e : Nat} {u v : Int32} (hf : am_fm h g) (hm : pI_m g w) (k : am_kp ps_M g g') (ht : am_I g' 60 0 = nI e) (hv : e = 0 → u = v) : (e = 0 → u = v) ∧ am_I g' 60 0 = nI e ∧ pI_m g' w ∧ am_fm h g' := ⟨hv, ht, hm.kM k, hf.trans (kM_fm k)⟩
theorem am_fin_x {w : pw_W} {h g : am_H} {e : Nat} {u v : Int32} (hf : am_fm h g) (hm : pI_m g w) (he : e ≠ 0) : (e = 0 → u = v) ∧ am_I (am_sI g 60 0 (nI e)) 60 0 = nI e ∧ pI_m (am_sI g 60 0 (nI e)) w ∧ am_fm h (am_sI g 60 0 (nI e)) :=
  am_fin_m hf hm ((am_kp.refl ps_M g).sI _ (ps_M_t (by omega))) (am_I_s _ _ _ _) (fun h => absurd h he)
theorem m_start {w : pw_W} {h : am_H} (hm : pI_m h w) : pI_m (am_sI h 60 0 (nI 0)) w ∧ am_I (am_sI h 60 0 (nI 0)) 60 0 = nI 0 ∧ am_fm h (am_sI h 60 0 (nI 0)) :=
  ⟨hm.kM ((am_kp.refl ps_M h).sI _ (ps_M_t (by omega))), am_I_s _ _ _ _, (am_fm.refl h).sI (by omega) _ _⟩
theorem pz_nlt_le {x : Int32} {n : Nat} (h : nI n ≤ x) : ¬ x < nI n := fun c => by
  rw [Int32.le_iff_toInt_le] at h
  rw [Int32.lt_iff_toInt_lt] at c
  omega
theorem pz_b_n2 {x : Int32} {m : Nat} (hm : m < 1000) (h : ¬ pz_b x (m + 1)) : x < 0 ∨ ¬ x ≤ nI m := by
  rcases pz_b_n (by omega) h with a | a
  · exact Or.inl a
  · refine Or.inr fun c => ?_
    rw [Int32.le_iff_toInt_le, nI_toInt (by omega)] at a c
    omega
section
variable {L k m e : Nat} {x : Int32} {h : am_H} {d : pw_L}
theorem c60_t (hL : pc_lo L) (hR : am_R h 0 10 = some L) (hd : pc_L h L d) (ho : pw_ok d) (hk : k < pw_n d 0) : am_run am_M 60 [.ref 0, .int (nI k)] h = some (.inl none, h) := by
  have := ho.1.1
  rw [e60, if_neg (nI_pos (by omega)), hR, am_gr_n, pc_lch hL, show am_I h L 11 = nI (pw_n d 0) from hd.1 0 (by omega), if_pos (nI_lt hk (by omega))]
theorem c61_t (hL : pc_lo L) (hR : am_R h 0 10 = some L) (hd : pc_L h L d) (ho : pw_ok d) (hk : k < pw_n d 1) : am_run am_M 61 [.ref 0, .int (nI k)] h = some (.inl none, h) := by
  have := ho.1.2.1
  rw [e61, if_neg (nI_pos (by omega)), hR, am_gr_n, pc_lch hL, show am_I h L 12 = nI (pw_n d 1) from hd.1 1 (by omega), if_pos (nI_lt hk (by omega))]
theorem c62_t (hL : pc_lo L) (hR : am_R h 0 10 = some L) (hd : pc_L h L d) (ho : pw_ok d) (hk : k < pw_n d 3) : am_run am_M 62 [.ref 0, .int (nI k)] h = some (.inl none, h) := by
  have := ho.1.2.2.2.1
  rw [e62, if_neg (nI_pos (by omega)), hR, am_gr_n, pc_lch hL, show am_I h L 14 = nI (pw_n d 3) from hd.1 3 (by omega), if_pos (nI_lt hk (by omega))]
theorem c60_f (hL : pc_lo L) (hR : am_R h 0 10 = some L) (hd : pc_L h L d) (ho : pw_ok d) (hk : ¬ pz_b x (pw_n d 0)) : am_run am_M 60 [.ref 0, .int x] h = some (.inr 1, am_ex h) := by
  have := ho.1.1
  rw [e60]
  by_cases c0 : x < 0
  · rw [if_pos c0]
  · rw [if_neg c0, hR, am_gr_n, pc_lch hL, show am_I h L 11 = nI (pw_n d 0) from hd.1 0 (by omega), if_neg (pz_nlt_le ((pz_b_n (by omega) hk).resolve_left c0))]
theorem c61_f (hL : pc_lo L) (hR : am_R h 0 10 = some L) (hd : pc_L h L d) (ho : pw_ok d) (hk : ¬ pz_b x (pw_n d 1)) : am_run am_M 61 [.ref 0, .int x] h = some (.inr 1, am_ex h) := by
  have := ho.1.2.1
  rw [e61]
  by_cases c0 : x < 0
  · rw [if_pos c0]
  · rw [if_neg c0, hR, am_gr_n, pc_lch hL, show am_I h L 12 = nI (pw_n d 1) from hd.1 1 (by omega), if_neg (pz_nlt_le ((pz_b_n (by omega) hk).resolve_left c0))]
theorem c62_f (hL : pc_lo L) (hR : am_R h 0 10 = some L) (hd : pc_L h L d) (ho : pw_ok d) (hk : ¬ pz_b x (pw_n d 3)) : am_run am_M 62 [.ref 0, .int x] h = some (.inr 1, am_ex h) := by
  have := ho.1.2.2.2.1
  rw [e62]
  by_cases c0 : x < 0
  · rw [if_pos c0]
  · rw [if_neg c0, hR, am_gr_n, pc_lch hL, show am_I h L 14 = nI (pw_n d 3) from hd.1 3 (by omega), if_neg (pz_nlt_le ((pz_b_n (by omega) hk).resolve_left c0))]
theorem c63_t (hk : k < 24) : am_run am_M 63 [.int (nI k)] h = some (.inl none, h) := by
  rw [e63, if_neg (nI_pos (by omega)), if_pos (nI_lt hk (by omega))]
theorem c63_f (hk : ¬ pz_b x 24) : am_run am_M 63 [.int x] h = some (.inr 1, am_ex h) := by
  rw [e63]
  by_cases c0 : x < 0
  · rw [if_pos c0]
  · rw [if_neg c0, if_neg (pz_nlt_le ((pz_b_n (by omega) hk).resolve_left c0))]
theorem c64_t (hm : m < 1000) (hk : k < m + 1) : am_run am_M 64 [.int (nI k), .int (nI m)] h = some (.inl none, h) := by
  rw [e64, if_neg (nI_pos (by omega)), if_pos (nI_le (by omega) (by omega))]
theorem c64_f (hm : m < 1000) (hk : ¬ pz_b x (m + 1)) : am_run am_M 64 [.int x, .int (nI m)] h = some (.inr 1, am_ex h) := by
  rw [e64]
  by_cases c0 : x < 0
  · rw [if_pos c0]
  · rw [if_neg c0, if_neg ((pz_b_n2 hm hk).resolve_left c0)]
theorem c65_t (hm : m < 1000) (hk : k < m + 1) : am_run am_M 65 [.int (nI k), .int (nI m)] h = some (.inl none, h) := by
  rw [e65, if_neg (nI_pos (by omega)), if_pos (nI_le (by omega) (by omega))]
theorem c65_f (hm : m < 1000) (hk : ¬ pz_b x (m + 1)) : am_run am_M 65 [.int x, .int (nI m)] h = some (.inr 2, am_ex h) := by
  rw [e65]
  by_cases c0 : x < 0
  · rw [if_pos c0]
  · rw [if_neg c0, if_neg ((pz_b_n2 hm hk).resolve_left c0)]
theorem s253_t (h0 : am_I h 60 0 = nI 0) (hk : k < 24) : am_run am_M 253 [.ref 60, .int (nI k)] h = some (.inl (some (.int (nI 1))), h) := by
  rw [e253, s180 (by omega) (by omega) (by omega), am_bI_ok, if_pos (by omega), s179_t h0, am_bI_ok, if_pos (by decide)]
theorem s253_f (h0 : am_I h 60 0 = nI 0) (hk : ¬ pz_b x 24) : am_run am_M 253 [.ref 60, .int x] h = some (.inl (some (.int (nI 0))), am_sI h 60 0 (nI 2)) := by
  rw [e253, s180_f x (fun h => hk (pz_bw.mp h)) (by omega) (by omega), am_bI_ok, s179_f h0 (by omega), am_bI_ok, if_pos (by decide)]
theorem s262_t (h0 : am_I h 60 0 = nI 0) (hk : k < 100) (y : Int32) : am_run am_M 262 [.ref 60, .int (nI k), .int y] h = some (.inl (some (.int (nI 1))), h) := by
  rw [e262, s180 (by omega) (by omega) (by omega), am_bI_ok, if_pos (by omega), s179_t h0, am_bI_ok, if_pos (by decide)]
theorem s262_f (h0 : am_I h 60 0 = nI 0) (hk : ¬ pz_b x 100) (he : 0 < e ∧ e < 1000) : am_run am_M 262 [.ref 60, .int x, .int (nI e)] h = some (.inl (some (.int (nI 0))), am_sI h 60 0 (nI e)) := by
  rw [e262, s180_f x (fun h => hk (pz_bw.mp h)) (by omega) (by omega), am_bI_ok, s179_f h0 he, am_bI_ok, if_pos (by decide)]
end
/-! model: days ahead -/
section
variable {h : am_H} {d : pw_L} {S : Nat → Nat} {u q k : Nat}
def pm_B (h : am_H) (d : pw_L) (S : Nat → Nat) (k u q : Nat) : Prop := pm_L h d ∧ pm_Y h d 86 (py_days d u q S k) u q ∧ am_I h 60 61 = (-1 : Int32) ∧ pm_S h 85 0 S
theorem pz_any (x : Int32) : ∃ n, x = nI n := ⟨x.toBitVec.toNat, by
  unfold nI
  apply Int32.toBitVec_inj.mp
  rw [Int32.toBitVec_ofNat']
  apply BitVec.eq_of_toNat_eq
  rw [BitVec.toNat_ofNat, Nat.mod_eq_of_lt x.toBitVec.isLt]⟩
theorem pm_B.kd {g : am_H} (a : pm_B h d S k u q) (kp : am_kp (ps_d 86) h g) {j : Nat} (y : pm_Y g d 86 (py_days d u q S j) u q) : pm_B g d S j u q := by
  refine ⟨a.1.kd (Or.inr rfl) kp, y, ?_, a.2.2.2.kp kp fun j => ps_d_f (by omega)⟩
  rw [kp.get 60 61 (ps_d_f (by omega))]
  exact a.2.2.1
theorem s230n (ho : pw_ok d) (hB : pm_B h d S k u q) (hb : pw_S S) (h0 : S 0 + k < 9000) : am_RI (am_run am_M 230 [.ref 60, .ref 86] h) (fun v g => v = nI (256 * py_tn d u q S k + py_cd d u q S k) ∧ pm_B g d S (k + 1) u q ∧ (∀ G, am_I h 60 69 = nI G → am_I g 60 69 = nI (G + py_gv d u q S k)) ∧ am_kp (ps_d 86) h g) := by
  obtain ⟨G, hG⟩ := pz_any (am_I h 60 69)
  have hT := py_days_T ho u q hb k
  obtain ⟨v, g, e, hv, y, hg, kp⟩ := s230 (sn := pw_sn d (py_days d u q S k 0)) (Or.inr rfl) ho hB.1 hB.2.1 (Or.inl ⟨hB.2.2.1, rfl⟩) hT.1 (by omega) (by have := pw_sn_le ho (py_days d u q S k 0); omega) hG
  refine ⟨v, g, e, hv, hB.kd kp y, fun G' hG' => ?_, kp⟩
  rw [hG'] at hG
  rw [hg]
  show nI (G + _) = nI (G' + _)
  rw [← nI_add, ← nI_add, hG]
  rfl
/-- a season begins, by the model -/
theorem s231b {w : pw_W} (hm : pI_m h w) (hw : pw_wf w) (hu : am_I h 60 62 = pn_o u 20) (hq : am_I h 60 63 = pn_o q 5) : am_RV (am_run am_M 231 [.ref 60] h) (fun g => pm_B g w.1 w.2.1 0 u q ∧ am_kp (fun i _ => decide (i = 86 ∨ i = 90)) h g) := by
  obtain ⟨d, S, l, t, im, tp, nb, fp, rf⟩ := w
  obtain ⟨ho, hS, -⟩ := hw
  obtain ⟨m1, m2, m3, m4, m5, m6, m7, m8, m9, m10, m11, m12⟩ := hm
  obtain ⟨g, e, y, kp⟩ := s231 m2 m1 hS.2.2 ho hu hq
  refine ⟨g, e, ⟨m1.kp kp (fun i k hi => decide_eq_false (by omega)), y, ?_, m2.kp kp fun k => by decide⟩, kp⟩
  rw [kp.get 60 61 (by decide)]
  exact m10
end
