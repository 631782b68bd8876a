/-! tokens, told purely: kind (as the class numbers them), value, place, what stands behind -/
abbrev Tk : Type := Nat × Nat × Nat × Nat
def tk_sm (c : Nat) : Prop := 97 ≤ c ∧ c ≤ 122
def tk_dg (c : Nat) : Prop := 48 ≤ c ∧ c ≤ 57
def tk_ws (b : Nat → Nat) (n : Nat) : Nat → Nat → Nat
  | 0, a => a
  | f + 1, a => if b a = 10 ∨ b a = 32 then tk_ws b n f (a + 1) else a
def tk_we (b : Nat → Nat) : Nat → Nat → Nat
  | 0, a => a
  | f + 1, a => if 97 ≤ b a ∧ b a ≤ 122 then tk_we b f (a + 1) else a
def tk_nu (b : Nat → Nat) : Nat → Nat → Nat → Nat × Nat
  | 0, a, v => (v, a)
  | f + 1, a, v => if 48 ≤ b a ∧ b a ≤ 57 then tk_nu b f (a + 1) (if 99999 < v then v else 10 * v + (b a - 48)) else (v, a)
def tk_lt (b : Nat → Nat) (p : Nat) : Nat → Nat
  | 0 => 0
  | k + 1 => tk_lt b p k + (b (p + k) - 96) * 2 ^ (25 - 5 * k)
def tk_wd (v : Nat) : Nat → Nat → Nat → Nat
  | 0, _, k => k
  | f + 1, i, k => tk_wd v f (i + 1) (if ck_words i = nI v then 20 + i else k)
def tk_sg (c d : Nat) : Nat :=
  if c = 59 then 4 else if c = 40 then 5 else if c = 41 then 6 else if c = 43 then 7 else if c = 45 then 8 else if c = 42 then 9 else if c = 47 then 10
  else if c = 61 then 13 else if c = 60 then (if d = 61 then 12 else if d = 62 then 14 else 11) else if c = 62 then (if d = 61 then 15 else 16) else 1
def tk_sb (k : Nat) : Nat := if k = 12 ∨ k = 14 ∨ k = 15 then 2 else 1
def tk_at (b : Nat → Nat) (n p : Nat) : Tk :=
  if n ≤ p then (0, 0, p, p)
  else if 97 ≤ b p ∧ b p ≤ 122 then
    (if 6 < tk_we b (n - p) p - p then (1, 0, p, tk_we b (n - p) p) else (tk_wd (tk_lt b p (tk_we b (n - p) p - p)) 19 0 3, tk_lt b p (tk_we b (n - p) p - p), p, tk_we b (n - p) p))
  else if 48 ≤ b p ∧ b p ≤ 57 then (2, (tk_nu b (n - p) p 0).1, p, (tk_nu b (n - p) p 0).2)
  else (tk_sg (b p) (if p + 1 < n then b (p + 1) else 0), 0, p, p + tk_sb (tk_sg (b p) (if p + 1 < n then b (p + 1) else 0)))
def tk_A (b : Nat → Nat) (n a : Nat) : Tk := tk_at b n (tk_ws b n (n - a) a)
/-- the bytes and the size, as the class has them -/
def LX (b : Nat → Nat) (n : Nat) (h : ck_H) : Prop := n ≤ 700 ∧ h.1 3 2 = nI n ∧ (∀ i, i < n → b i < 256 ∧ h.1 1 i = sb_b (b i)) ∧ ∀ i, i < 19 → h.1 4 i = ck_words i
/-- the class's token -/
def CX (t : Tk) (h : ck_H) : Prop := h.1 3 4 = nI t.1 ∧ h.1 3 5 = nI t.2.2.1 ∧ h.1 3 3 = nI t.2.2.2 ∧ (t.1 = 2 → h.1 3 6 = nI t.2.1) ∧ (t.1 = 3 → h.1 3 7 = nI t.2.1)
/-- what scanning leaves as it was -/
def FS (h h' : ck_H) : Prop := (∀ a, a ≠ 3 → h'.1 a = h.1 a) ∧ h'.1 3 2 = h.1 3 2 ∧ h'.2 = h.2
theorem FS.rf (h : ck_H) : FS h h := ⟨fun _ _ => rfl, rfl, rfl⟩
theorem FS.tr {h h1 h2 : ck_H} (a : FS h h1) (b : FS h1 h2) : FS h h2 := ⟨fun x e => (b.1 x e).trans (a.1 x e), b.2.1.trans a.2.1, b.2.2.trans a.2.2⟩
theorem FS.set (h : ck_H) {i : Nat} (v : Int32) (hi : i ≠ 2) : FS h (ck_sI h 3 i v) := ⟨fun a ha => ck_sI_ne _ _ _ ha, ck_sI_nj _ _ (Ne.symm hi), rfl⟩
theorem LX.fs {b : Nat → Nat} {n : Nat} {h h' : ck_H} (L : LX b n h) (f : FS h h') : LX b n h' := by
  refine ⟨L.1, by rw [f.2.1]; exact L.2.1, ?_, ?_⟩
  · rw [f.1 1 (by decide)]; exact L.2.2.1
  · rw [f.1 4 (by decide)]; exact L.2.2.2
theorem by_ws : ∀ c, c < 256 → ((sb_b c = 10 ↔ c = 10) ∧ (sb_b c = 32 ↔ c = 32)) := by decide +kernel
theorem by_sm : ∀ c, c < 256 → ((¬ sb_b c < 97 ∧ ¬ (122 : Int32) < sb_b c) ↔ (97 ≤ c ∧ c ≤ 122)) := by decide +kernel
theorem by_dg : ∀ c, c < 256 → ((¬ sb_b c < 48 ∧ ¬ (57 : Int32) < sb_b c) ↔ (48 ≤ c ∧ c ≤ 57)) := by decide +kernel
theorem by_lo : ∀ c, c < 128 → sb_b c = nI c := by decide +kernel
theorem tk_ws_le {b : Nat → Nat} {n : Nat} : ∀ (f a : Nat), a ≤ tk_ws b n f a ∧ tk_ws b n f a ≤ a + f := by
  intro f
  induction f with
  | zero => exact fun a => ⟨Nat.le_refl _, Nat.le_refl _⟩
  | succ f ih =>
    intro a
    unfold tk_ws
    split
    · have := ih (a + 1); omega
    · omega
theorem tk_we_le {b : Nat → Nat} : ∀ (f a : Nat), a ≤ tk_we b f a ∧ tk_we b f a ≤ a + f := by
  intro f
  induction f with
  | zero => exact fun a => ⟨Nat.le_refl _, Nat.le_refl _⟩
  | succ f ih =>
    intro a
    unfold tk_we
    split
    · have := ih (a + 1); omega
    · omega
theorem tk_nu_le {b : Nat → Nat} : ∀ (f a v : Nat), a ≤ (tk_nu b f a v).2 ∧ (tk_nu b f a v).2 ≤ a + f := by
  intro f
  induction f with
  | zero => exact fun a v => ⟨Nat.le_refl _, Nat.le_refl _⟩
  | succ f ih =>
    intro a v
    unfold tk_nu
    split
    · have := ih (a + 1) (if 99999 < v then v else 10 * v + (b a - 48)); omega
    · exact ⟨Nat.le_refl _, by omega⟩
theorem tx_ws {b : Nat → Nat} {n : Nat} {Q K : ck_H → Prop} : ∀ (k a f : Nat) (h : ck_H), k < f → a + k = n → LX b n h → h.1 3 3 = nI a → (∀ h', FS h h' → h'.1 3 3 = nI (tk_ws b n k a) → K h') → wp_X8_next_0 Q K f h := by
  intro k
  induction k with
  | zero =>
    intro a f h hf ha L e q
    obtain ⟨f, rfl⟩ : ∃ g, f = g + 1 := ⟨f - 1, by omega⟩
    have hn := L.1
    unfold wp_X8_next_0
    exact pk_le n a (fun _ => q h (FS.rf h) e) (fun z => by omega) L.2.1 e (by omega) (by omega)
  | succ k ih =>
    intro a f h hf ha L e q
    obtain ⟨f, rfl⟩ : ∃ g, f = g + 1 := ⟨f - 1, by omega⟩
    have hn := L.1
    obtain ⟨b1, b2⟩ := L.2.2.1 a (by omega)
    have w := by_ws (b a) b1
    unfold wp_X8_next_0 wp_X8_next_39
    unfold tk_ws at q
    have go : (b a = 10 ∨ b a = 32) → ∀ h4, h4 = ck_sI h 3 3 (h.1 3 3 + 1) → wp_X8_next_0 Q K f h4 := by
      rintro c _ rfl
      rw [if_pos c] at q
      rw [e, nI_1]
      have fs : FS h (ck_sI h 3 3 (nI (a + 1))) := FS.set h _ (by decide)
      exact ih (a + 1) f _ (by omega) (by omega) (L.fs fs) (ck_sI_at ..) (fun h' f' e' => q h' (fs.tr f') e')
    have i700 : vp_in (h.1 3 3) 700 := by rw [e]; exact pu_in (by omega) (by decide)
    refine pk_le n a (fun z => by omega) (fun _ => ⟨i700, ?_⟩) L.2.1 e (by omega) (by omega)
    have ec : (h.1 3 3).toNatClampNeg = a := by rw [e]; exact nI_clamp (by omega)
    rw [ec, b2]
    refine ⟨fun c => go (Or.inl (w.1.mp c)), fun c => ⟨i700, fun c2 => ?_, fun c2 => go (Or.inr (w.2.mp c2))⟩⟩
    rw [if_neg (fun z => z.elim (fun y => c (w.1.mpr y)) (fun y => c2 (w.2.mpr y)))] at q
    exact q h (FS.rf h) e
theorem tk_lt_lt {b : Nat → Nat} {p : Nat} : ∀ (k : Nat), k ≤ 6 → (∀ j, j < k → 97 ≤ b (p + j) ∧ b (p + j) ≤ 122) → tk_lt b p k + 2 ^ (30 - 5 * k) ≤ 2 ^ 30 := by
  intro k
  induction k with
  | zero => exact fun _ _ => by show 0 + 2 ^ 30 ≤ 2 ^ 30; omega
  | succ k ih =>
    intro hk h
    have a := ih (by omega) (fun j hj => h j (by omega))
    have c := h k (by omega)
    show tk_lt b p k + (b (p + k) - 96) * 2 ^ (25 - 5 * k) + 2 ^ (30 - 5 * (k + 1)) ≤ 2 ^ 30
    have e1 : 2 ^ (30 - 5 * k) = 32 * 2 ^ (25 - 5 * k) := by
      rw [show 30 - 5 * k = 5 + (25 - 5 * k) by omega, Nat.pow_add]
    rw [show 30 - 5 * (k + 1) = 25 - 5 * k by omega]
    have m : (b (p + k) - 96) * 2 ^ (25 - 5 * k) ≤ 26 * 2 ^ (25 - 5 * k) := Nat.mul_le_mul_right _ (by omega)
    omega
