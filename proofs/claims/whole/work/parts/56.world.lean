/-! THE WORLD: land, state, states ahead of the acts (the newest first), tracks, image, tape, bytes on it, place of the fault, refused calls -/
abbrev pw_I : Type := Option ((Nat → Nat) × List (Nat → Nat) × List (Nat × Nat))
abbrev pw_W : Type := pw_L × (Nat → Nat) × List (Nat → Nat) × List (Nat × Nat) × pw_I × (Nat → Nat) × Nat × Int32 × (Nat → Nat)
/-- a state of this land -/
def pw_SL (d : pw_L) (S : Nat → Nat) : Prop := pw_S S ∧ S 0 ≤ 999 ∧ ∀ k, k < pw_n d 0 → S (45 + k) = pw_t d 6 k
def pw_aok (d : pw_L) (l : List (Nat → Nat)) : Prop := l.length ≤ 40 ∧ ∀ S ∈ l, pw_SL d S
def pw_tok (d : pw_L) (l : List (Nat × Nat)) : Prop := l.length ≤ 6 ∧ ∀ t ∈ l, t.1 < pw_n d 1 ∧ t.2 ≤ 71
def pw_iok (d : pw_L) : pw_I → Prop
  | none => True
  | some (S, a, t) => pw_SL d S ∧ pw_aok d a ∧ pw_tok d t
def pw_wf : pw_W → Prop
  | (d, S, a, t, i, tp, nb, _, _) => pw_ok d ∧ pw_SL d S ∧ pw_aok d a ∧ pw_tok d t ∧ pw_iok d i ∧ nb ≤ 700 ∧ ∀ j, tp j < 256
/-! the class's heap -/
def pc_A (h : am_H) (A : Nat) (l : List (Nat → Nat)) : Prop := ∃ x, x < 40 ∧ am_I h A 1 = nI x ∧ am_I h A 2 = nI l.length ∧ ∀ j, j < l.length → ∀ i, i < 49 → am_I h (A + 1) ((x + 39 - j) % 40 * 49 + i) = nI ((l.getD j (fun _ => 0)) i)
def pc_T (h : am_H) (T : Nat) (l : List (Nat × Nat)) : Prop := am_I h T 2 = nI l.length ∧ ∀ j, j < l.length → am_I h (T + 1) j = nI (l.getD j (0, 0)).1 ∧ am_I h (T + 2) j = nI (l.getD j (0, 0)).2
def pc_im (h : am_H) : pw_I → Prop
  | none => am_I h 0 12 = nI 0
  | some (S, a, t) => am_I h 0 12 = nI 1 ∧ pc_S h 28 S ∧ pc_A h 29 a ∧ pc_T h 31 t
def pI_c (h : am_H) : pw_W → Prop
  | (d, S, a, t, i, tp, nb, fp, rf) => (∃ L, pc_lo L ∧ am_R h 0 10 = some L ∧ am_R h 1 2 = some (46 - L) ∧ pc_L h L d) ∧ pc_S h 21 S ∧ pc_A h 22 a ∧ pc_T h 24 t ∧ pc_im h i ∧ am_I h 1 1 = nI nb ∧ (∀ j, j < nb → am_I h 2 j = nI (tp j)) ∧ am_I h 0 11 = fp ∧ ∀ j, j < 3 → am_I h 42 j = nI (rf j)
/-- the class has run: rows of the model are as they were -/
def am_fc (h g : am_H) : Prop := g.1 = h.1 ∧ g.2.1 = h.2.1 ∧ g.2.2.1 = h.2.2.1 ∧ am_J g = am_J h ∧ ∀ i, 60 ≤ i → am_I g i = am_I h i
theorem am_fc.refl (h : am_H) : am_fc h h := ⟨rfl, rfl, rfl, rfl, fun _ _ => rfl⟩
theorem am_fc.trans {h g k : am_H} (a : am_fc h g) (b : am_fc g k) : am_fc h k := ⟨b.1.trans a.1, b.2.1.trans a.2.1, b.2.2.1.trans a.2.2.1, b.2.2.2.1.trans a.2.2.2.1, fun i hi => (b.2.2.2.2 i hi).trans (a.2.2.2.2 i hi)⟩
theorem am_kp.fc {s : Nat → Nat → Bool} {h g : am_H} (a : am_kp s h g) (hs : ∀ i k, 60 ≤ i → s i k = false) : am_fc h g := ⟨a.1, a.2.1, a.2.2.1, a.2.2.2.1, fun i hi => funext fun k => a.get i k (hs i k hi)⟩
theorem am_fc.sI {h g : am_H} (a : am_fc h g) {i : Nat} (hi : i < 60) (k : Nat) (v : Int32) : am_fc h (am_sI g i k v) := ⟨a.1, a.2.1, a.2.2.1, a.2.2.2.1, fun j hj => (am_I_s1 _ _ _ _ (by omega)).trans (a.2.2.2.2 j hj)⟩
theorem am_fc.wr {h g : am_H} (a : am_fc h g) {i : Nat} (hi : i < 60) (f : Nat → Int32) : am_fc h (pz_wr g i f) := ⟨a.1, a.2.1, a.2.2.1, a.2.2.2.1, fun j hj => (am_I_w1 _ _ _ (by omega)).trans (a.2.2.2.2 j hj)⟩
/-- the model has run: the class's rows are as they were -/
def am_fm (h g : am_H) : Prop := g.1 = h.1 ∧ g.2.1 = h.2.1 ∧ g.2.2.1 = h.2.2.1 ∧ am_R g = am_R h ∧ (∀ i, i ≠ 60 → am_J g i = am_J h i) ∧ ∀ i, i < 60 ∨ 99 ≤ i → am_I g i = am_I h i
theorem am_fm.refl (h : am_H) : am_fm h h := ⟨rfl, rfl, rfl, rfl, fun _ _ => rfl, fun _ _ => rfl⟩
theorem am_fm.trans {h g k : am_H} (a : am_fm h g) (b : am_fm g k) : am_fm h k := ⟨b.1.trans a.1, b.2.1.trans a.2.1, b.2.2.1.trans a.2.2.1, b.2.2.2.1.trans a.2.2.2.1, fun i hi => (b.2.2.2.2.1 i hi).trans (a.2.2.2.2.1 i hi), fun i hi => (b.2.2.2.2.2 i hi).trans (a.2.2.2.2.2 i hi)⟩
theorem am_kp.fm {s : Nat → Nat → Bool} {h g : am_H} (a : am_kp s h g) (hs : ∀ i k, i < 60 ∨ 99 ≤ i → s i k = false) : am_fm h g := ⟨a.1, a.2.1, a.2.2.1, a.2.2.2.2.1, fun i _ => by rw [a.J], fun i hi => funext fun k => a.get i k (hs i k hi)⟩
theorem am_fm.sI {h g : am_H} (a : am_fm h g) {i : Nat} (hi : 60 ≤ i ∧ i < 99) (k : Nat) (v : Int32) : am_fm h (am_sI g i k v) := ⟨a.1, a.2.1, a.2.2.1, a.2.2.2.1, a.2.2.2.2.1, fun j hj => (am_I_s1 _ _ _ _ (by omega)).trans (a.2.2.2.2.2 j hj)⟩
theorem am_fm.wr {h g : am_H} (a : am_fm h g) {i : Nat} (hi : 60 ≤ i ∧ i < 99) (f : Nat → Int32) : am_fm h (pz_wr g i f) := ⟨a.1, a.2.1, a.2.2.1, a.2.2.2.1, a.2.2.2.2.1, fun j hj => (am_I_w1 _ _ _ (by omega)).trans (a.2.2.2.2.2 j hj)⟩
theorem pc_L.fr {h g : am_H} {L : Nat} {d : pw_L} (a : pc_L h L d) (e : ∀ i, pc_rl L i → am_I g i = am_I h i) : pc_L g L d := by
  obtain ⟨a1, a2, a3, a4, a5, a6, a7, a8⟩ := a
  unfold pc_rl at e
  refine ⟨fun i hi => ?_, fun i hi => ?_, fun i hi => ?_, fun i hi => ?_, fun i hi => ?_, fun i j hi hj => ?_, ⟨?_, fun i hi => ?_⟩, ⟨?_, fun i hi => ?_⟩⟩
  · rw [e _ (by omega)]; exact a1 i hi
  · rw [e _ (by omega), e _ (by omega)]; exact a2 i hi
  · rw [e _ (by omega), e _ (by omega)]; exact a3 i hi
  · rw [e _ (by omega)]; exact a4 i hi
  · rw [e _ (by omega)]; exact a5 i hi
  · rw [e _ (by omega)]; exact a6 i j hi hj
  · rw [e _ (by omega)]; exact a7.1
  · rw [e _ (by omega)]; exact a7.2 i hi
  · rw [e _ (by omega)]; exact a8.1
  · rw [e _ (by omega)]; exact a8.2 i hi
theorem pc_S.fr {h g : am_H} {r : Nat} {S : Nat → Nat} (a : pc_S h r S) (e : am_I g r = am_I h r) : pc_S g r S := fun i hi => by rw [e]; exact a i hi
theorem pc_A.fr {h g : am_H} {A : Nat} {l : List (Nat → Nat)} (a : pc_A h A l) (e1 : am_I g A = am_I h A) (e2 : am_I g (A + 1) = am_I h (A + 1)) : pc_A g A l := by
  unfold pc_A
  rw [e1, e2]
  exact a
theorem pc_T.fr {h g : am_H} {T : Nat} {l : List (Nat × Nat)} (a : pc_T h T l) (e1 : am_I g T = am_I h T) (e2 : am_I g (T + 1) = am_I h (T + 1)) (e3 : am_I g (T + 2) = am_I h (T + 2)) : pc_T g T l := by
  unfold pc_T
  rw [e1, e2, e3]
  exact a
theorem pc_im.fr {h g : am_H} {i : pw_I} (a : pc_im h i) (e0 : am_I g 0 12 = am_I h 0 12) (e : ∀ j, 27 ≤ j → j < 34 → am_I g j = am_I h j) : pc_im g i := by
  match i, a with
  | none, a => exact e0.trans a
  | some (S, l, t), a =>
    obtain ⟨a1, a2, a3, a4⟩ := a
    exact ⟨e0.trans a1, a2.fr (e _ (by omega) (by omega)), a3.fr (e _ (by omega) (by omega)) (e _ (by omega) (by omega)), a4.fr (e _ (by omega) (by omega)) (e _ (by omega) (by omega)) (e _ (by omega) (by omega))⟩
/-- the class's picture stays where its own rows do -/
theorem pI_c.fr {h g : am_H} {w : pw_W} (a : pI_c h w) (r : am_R g = am_R h) (e : ∀ i k, i < 60 → ps_C i k = false → am_I g i k = am_I h i k) : pI_c g w := by
  obtain ⟨d, S, l, t, im, tp, nb, fp, rf⟩ := w
  obtain ⟨⟨L, hL, r1, r2, a1⟩, a2, a3, a4, a5, a6, a7, a8, a9⟩ := a
  have ee : ∀ i, i < 60 → (∀ k, ps_C i k = false) → am_I g i = am_I h i := fun i hi hs => funext fun k => e i k hi (hs k)
  have hlt := pc_llt hL
  have ex : ∀ i, i < 60 → ¬ (i = 11 ∨ i = 14 ∨ i = 17 ∨ i = 51 ∨ i = 54 ∨ i = 57 ∨ i = 34 ∨ i = 36 ∨ i = 38 ∨ i = 39 ∨ i = 40 ∨ i = 41) → am_I g i = am_I h i := fun i hi hn => ee i hi (fun k => ps_C_f hn)
  refine ⟨⟨L, hL, by rw [r]; exact r1, by rw [r]; exact r2, a1.fr fun i hi => ee i (by unfold pc_rl at hi; omega) (fun k => ps_CL hL i k hi)⟩, a2.fr (ex _ (by omega) (by omega)), a3.fr (ex _ (by omega) (by omega)) (ex _ (by omega) (by omega)), a4.fr (ex _ (by omega) (by omega)) (ex _ (by omega) (by omega)) (ex _ (by omega) (by omega)), a5.fr (by rw [ex _ (by omega) (by omega)]) (fun j h1 h2 => ex j (by omega) (by omega)), ?_, fun j hj => ?_, ?_, fun j hj => ?_⟩
  · rw [ex _ (by omega) (by omega)]; exact a6
  · rw [ex _ (by omega) (by omega)]; exact a7 j hj
  · rw [ex _ (by omega) (by omega)]; exact a8
  · rw [ex _ (by omega) (by omega)]; exact a9 j hj
theorem pI_c.fm {h g : am_H} {w : pw_W} (a : pI_c h w) (e : am_fm h g) : pI_c g w := a.fr e.2.2.2.1 fun i k hi _ => by rw [e.2.2.2.2.2 i (Or.inl hi)]
theorem pI_c.kC {h g : am_H} {w : pw_W} (a : pI_c h w) (e : am_kp ps_C h g) : pI_c g w := a.fr e.R fun i k _ hs => e.get i k hs
theorem kC_fc {h g : am_H} (e : am_kp ps_C h g) : am_fc h g := e.fc fun i k hi => ps_C_f (by omega)
theorem pI_c.J {h : am_H} {w : pw_W} (a : pI_c h w) (i k : Nat) (v : Int64) : pI_c (am_sJ h i k v) w := a.fr rfl fun _ _ _ _ => rfl
theorem pI_c.ex {h : am_H} {w : pw_W} (a : pI_c h w) : pI_c (am_ex h) w := a.fr rfl fun _ _ _ _ => rfl
/-! the model's heap -/
def pm_lamps (S : Nat → Nat) : Nat := pb (fun p => decide (S (25 + p) = 1)) 6
def pm_S (h : am_H) (r o : Nat) (S : Nat → Nat) : Prop := (∀ i, i < 25 → am_I h r (o + i) = nI (S i)) ∧ (∀ p, p < 6 → am_I h r (o + (25 + p)) = nI (S (31 + p))) ∧ am_I h r (o + 31) = nI (pm_lamps S) ∧ ∀ k, k < 4 → am_I h r (o + (32 + k)) = nI (S (37 + k)) ∧ am_I h r (o + (36 + k)) = nI (S (41 + k))
/-- a step of a deed in the model's words: values by the model's numbers -/
def pm_v (j v : Nat) : Nat := if j = 0 then (if v = 0 then 3 else if v = 1 then 0 else if v = 2 then 1 else if v = 3 then 4 else if v = 4 then 2 else if v = 5 then 6 else 5) else (if v = 0 then 7 else if v = 1 then 3 else if v = 2 then 8 else if v = 3 then 9 else if v = 4 then 4 else if v = 5 then 5 else 6)
def pm_op (s : Nat) : Nat := if s = 20000 then 5 else if s = 20001 then 4 else if s = 20002 then 3 else s - 19997
def pm_code (j : Nat) : List Nat → List Nat
  | [] => [0]
  | s :: l => if s < 10000 then 1 :: s :: pm_code j l else if s < 20000 then 2 :: pm_v j (s - 10000) :: pm_code j l else pm_op s :: pm_code j l
def pm_D (h : am_H) (c j : Nat) (l : List Nat) : Prop := if l = [] then am_I h 60 c = (-1 : Int32) else ∃ a, am_I h 60 c = nI a ∧ a + (pm_code j l).length ≤ 1400 ∧ ∀ i, i < (pm_code j l).length → am_I h 69 (a + i) = nI ((pm_code j l).getD i 0)
def pm_L (h : am_H) (d : pw_L) : Prop :=
  (∀ i, i < 5 → am_I h 60 (1 + i) = nI (pw_n d i))
  ∧ (∀ a, a < pw_n d 1 → am_I h 62 a = nI (pw_t d 0 a) ∧ am_I h 63 a = nI (pw_t d 1 a))
  ∧ (∀ p, p < pw_n d 3 → am_I h 66 p = nI (pw_t d 2 p) ∧ am_I h 67 p = nI (pw_t d 3 p))
  ∧ (∀ i, i < pw_n d 4 → am_I h 68 i = nI (pw_t d 4 i))
  ∧ (∀ j, j < 81 → am_I h 64 j = nI (pw_t d 5 j))
  ∧ (∀ a b, a < pw_n d 1 → b < pw_n d 1 → am_I h 65 (a * 9 + b) = nI (pw_w d 9999 (pw_n d 1) a b))
  ∧ (∀ k, k < pw_n d 0 → am_I h 61 k = nI (pw_t d 6 k))
  ∧ pm_D h 6 0 (pw_d d 0) ∧ pm_D h 7 1 (pw_d d 1)
def pm_A (h : am_H) (c r : Nat) (l : List (Nat → Nat)) : Prop := am_I h 60 c = nI l.length ∧ ∀ j, j < l.length → pm_S h r ((l.length - 1 - j) * 40) (l.getD j (fun _ => 0))
def pm_T (h : am_H) (c r : Nat) (l : List (Nat × Nat)) : Prop := am_I h 60 c = nI l.length ∧ ∀ j, j < l.length → am_I h r (2 * j) = nI (l.getD j (0, 0)).1 ∧ am_I h r (2 * j + 1) = nI (l.getD j (0, 0)).2
def pm_im (h : am_H) : pw_I → Prop
  | none => am_I h 60 74 = nI 0
  | some (S, a, t) => am_I h 60 74 = nI 1 ∧ pm_S h 96 0 S ∧ pm_A h 75 97 a ∧ pm_T h 76 98 t
def pI_m (h : am_H) : pw_W → Prop
  | (d, S, a, t, i, tp, nb, fp, rf) => pm_L h d ∧ pm_S h 85 0 S ∧ pm_A h 58 87 a ∧ pm_T h 70 94 t ∧ pm_im h i ∧ am_I h 60 18 = nI nb ∧ (∀ j, j < nb → am_I h 70 j = nI (tp j)) ∧ am_I h 60 20 = fp ∧ (∀ j, j < 3 → am_I h 71 j = nI (rf j)) ∧ am_I h 60 61 = (-1 : Int32) ∧ am_I h 60 62 = (-1 : Int32) ∧ am_I h 60 63 = (-1 : Int32)
theorem pm_S.fr {h g : am_H} {r o : Nat} {S : Nat → Nat} (a : pm_S h r o S) (e : am_I g r = am_I h r) : pm_S g r o S := by
  unfold pm_S
  rw [e]
  exact a
/-- the model's scratch: fields (thrown, and what only one call uses), rows -/
def ps_M (i k : Nat) : Bool := decide (i = 60 ∧ (k = 0 ∨ k = 68 ∨ k = 69 ∨ k = 73) ∨ i = 86 ∨ i = 88 ∨ i = 89 ∨ i = 90 ∨ i = 91 ∨ i = 92 ∨ i = 93 ∨ i = 95)
theorem ps_M_t {i k : Nat} (h : i = 60 ∧ (k = 0 ∨ k = 68 ∨ k = 69 ∨ k = 73) ∨ i = 86 ∨ i = 88 ∨ i = 89 ∨ i = 90 ∨ i = 91 ∨ i = 92 ∨ i = 93 ∨ i = 95) : ps_M i k = true := decide_eq_true h
theorem ps_M_f {i k : Nat} (h : ¬ (i = 60 ∧ (k = 0 ∨ k = 68 ∨ k = 69 ∨ k = 73) ∨ i = 86 ∨ i = 88 ∨ i = 89 ∨ i = 90 ∨ i = 91 ∨ i = 92 ∨ i = 93 ∨ i = 95)) : ps_M i k = false := decide_eq_false h
theorem pm_D.fr {h g : am_H} {c j : Nat} {l : List Nat} (a : pm_D h c j l) (e : am_I g 60 c = am_I h 60 c) (e2 : am_I g 69 = am_I h 69) : pm_D g c j l := by
  unfold pm_D
  rw [e, e2]
  exact a
theorem pm_L.fr {h g : am_H} {d : pw_L} (a : pm_L h d) (e0 : ∀ k, 1 ≤ k → k ≤ 7 → am_I g 60 k = am_I h 60 k) (e : ∀ i, 61 ≤ i → i ≤ 69 → am_I g i = am_I h i) : pm_L g d := by
  obtain ⟨a1, a2, a3, a4, a5, a6, a7, a8, a9⟩ := a
  refine ⟨fun i hi => ?_, fun i hi => ?_, fun i hi => ?_, fun i hi => ?_, fun i hi => ?_, fun i j hi hj => ?_, fun i hi => ?_, a8.fr (e0 _ (by omega) (by omega)) (e _ (by omega) (by omega)), a9.fr (e0 _ (by omega) (by omega)) (e _ (by omega) (by omega))⟩
  · rw [e0 _ (by omega) (by omega)]; exact a1 i hi
  · rw [e _ (by omega) (by omega), e _ (by omega) (by omega)]; exact a2 i hi
  · rw [e _ (by omega) (by omega), e _ (by omega) (by omega)]; exact a3 i hi
  · rw [e _ (by omega) (by omega)]; exact a4 i hi
  · rw [e _ (by omega) (by omega)]; exact a5 i hi
  · rw [e _ (by omega) (by omega)]; exact a6 i j hi hj
  · rw [e _ (by omega) (by omega)]; exact a7 i hi
theorem pm_A.fr {h g : am_H} {c r : Nat} {l : List (Nat → Nat)} (a : pm_A h c r l) (e : am_I g 60 c = am_I h 60 c) (e2 : am_I g r = am_I h r) : pm_A g c r l := by
  unfold pm_A
  rw [e]
  exact ⟨a.1, fun j hj => (a.2 j hj).fr e2⟩
theorem pm_T.fr {h g : am_H} {c r : Nat} {l : List (Nat × Nat)} (a : pm_T h c r l) (e : am_I g 60 c = am_I h 60 c) (e2 : am_I g r = am_I h r) : pm_T g c r l := by
  unfold pm_T
  rw [e, e2]
  exact a
theorem pI_m.fr {h g : am_H} {w : pw_W} (a : pI_m h w) (e : ∀ i k, 60 ≤ i → i < 99 → ps_M i k = false → am_I g i k = am_I h i k) : pI_m g w := by
  obtain ⟨d, S, l, t, im, tp, nb, fp, rf⟩ := w
  obtain ⟨a1, a2, a3, a4, a5, a6, a7, a8, a9, a10, a11, a12⟩ := a
  have ee : ∀ i, 60 < i → i < 99 → ¬ (i = 86 ∨ i = 88 ∨ i = 89 ∨ i = 90 ∨ i = 91 ∨ i = 92 ∨ i = 93 ∨ i = 95) → am_I g i = am_I h i := fun i h1 h2 hn => funext fun k => e i k (by omega) h2 (ps_M_f (by omega))
  have e0 : ∀ k, ¬ (k = 0 ∨ k = 68 ∨ k = 69 ∨ k = 73) → am_I g 60 k = am_I h 60 k := fun k hk => e 60 k (by omega) (by omega) (ps_M_f (by omega))
  refine ⟨a1.fr (fun k h1 h2 => e0 k (by omega)) (fun i h1 h2 => ee i (by omega) (by omega) (by omega)), a2.fr (ee _ (by omega) (by omega) (by omega)), a3.fr (e0 _ (by omega)) (ee _ (by omega) (by omega) (by omega)), a4.fr (e0 _ (by omega)) (ee _ (by omega) (by omega) (by omega)), ?_, ?_, fun j hj => ?_, ?_, fun j hj => ?_, ?_, ?_, ?_⟩
  · match im, a5 with
    | none, a5 => exact (e0 _ (by omega)).trans a5
    | some (S, l, t), a5 =>
      obtain ⟨b1, b2, b3, b4⟩ := a5
      exact ⟨(e0 _ (by omega)).trans b1, b2.fr (ee _ (by omega) (by omega) (by omega)), b3.fr (e0 _ (by omega)) (ee _ (by omega) (by omega) (by omega)), b4.fr (e0 _ (by omega)) (ee _ (by omega) (by omega) (by omega))⟩
  · rw [e0 _ (by omega)]; exact a6
  · rw [ee _ (by omega) (by omega) (by omega)]; exact a7 j hj
  · rw [e0 _ (by omega)]; exact a8
  · rw [ee _ (by omega) (by omega) (by omega)]; exact a9 j hj
  · rw [e0 _ (by omega)]; exact a10
  · rw [e0 _ (by omega)]; exact a11
  · rw [e0 _ (by omega)]; exact a12
theorem pI_m.fc {h g : am_H} {w : pw_W} (a : pI_m h w) (e : am_fc h g) : pI_m g w := a.fr fun i k hi _ _ => by rw [e.2.2.2.2 i hi]
theorem pI_m.kM {h g : am_H} {w : pw_W} (a : pI_m h w) (e : am_kp ps_M h g) : pI_m g w := a.fr fun i k _ _ hs => e.get i k hs
theorem kM_fm {h g : am_H} (e : am_kp ps_M h g) : am_fm h g := e.fm fun i k hi => ps_M_f (by omega)
theorem pI_m.J {h : am_H} {w : pw_W} (a : pI_m h w) (i k : Nat) (v : Int64) : pI_m (am_sJ h i k v) w := a.fr fun _ _ _ _ _ => rfl
theorem pI_m.ex {h : am_H} {w : pw_W} (a : pI_m h w) : pI_m (am_ex h) w := a.fr fun _ _ _ _ _ => rfl
/-- what a call comes to: e = 0 an answer, else an exception of kind q e -/
def am_CO (q : Nat → Nat) (o : Option am_Q) (h : am_H) (e : Nat) (v : Int32) (P : am_H → Prop) : Prop := if e = 0 then ∃ g, o = some (.inl (some (.int v)), g) ∧ P g else o = some (.inr (q e), am_ex h)
/-- class and model agree on a call -/
def am_AG (m : Nat) (q : Nat → Nat) (w : pw_W) (C M : am_H → Option am_Q) : Prop := ∃ (e : Nat) (v : Int32) (w' : pw_W), pw_wf w' ∧ (e ≤ m ∧ (e ≠ 0 → w' = w)) ∧ (∀ h, pI_c h w → am_CO q (C h) h e v (fun g => pI_c g w' ∧ am_fc h g)) ∧ ∀ h, pI_m h w → am_RI (M h) (fun u g => (e = 0 → u = v) ∧ am_I g 60 0 = nI e ∧ pI_m g w' ∧ am_fm h g)
