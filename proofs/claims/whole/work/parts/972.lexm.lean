/-! the model's tokens -/
def wm_c (i : Nat) : Nat := ([106, 117, 100, 103, 101, 32, 110, 117, 116, 32, 115, 117, 105, 116, 32, 108, 101, 118, 101, 114, 32, 114, 101, 115, 116, 32, 115, 101, 101, 100, 32, 108, 97, 119, 32, 102, 111, 114, 99, 101, 32, 115, 108, 97, 99, 107, 32, 119, 101, 97, 114, 32, 111, 114, 32, 97, 110, 100, 32, 110, 111, 116, 32, 106, 97, 119, 32, 116, 101, 101, 116, 104, 32, 104, 97, 114, 100, 32, 98, 105, 116, 116, 101, 114, 32, 108, 111, 97, 100, 32, 100, 97, 121, 32] : List Nat).getD i 0
def wm_s (n : Nat) : Nat := ([0, 6, 10, 15, 21, 26, 31, 35, 41, 47, 52, 55, 59, 63, 67, 73, 78, 85, 90, 94] : List Nat).getD n 0
def wm_l (n : Nat) : Nat := ([5, 3, 4, 5, 4, 4, 3, 5, 5, 4, 2, 3, 3, 3, 5, 4, 6, 4, 3] : List Nat).getD n 0
def wm_x (n : Nat) : Nat := ([0, 1, 2, 16, 3, 4, 5, 6, 7, 8, 9, 10, 11, 12, 13, 14, 15, 17, 18] : List Nat).getD n 0
theorem wm_ch : ∀ i, i < 94 → ck_chM (nI i) = nI (wm_c i) := by decide +kernel
theorem wm_ok : ∀ n, n < 19 → wm_s n + wm_l n < 94 ∧ wm_s (n + 1) = wm_s n + wm_l n + 1 ∧ wm_c (wm_s n + wm_l n) = 32 ∧ wm_l n ≤ 6 ∧ 1 ≤ wm_l n ∧ (∀ j, j < wm_l n → 97 ≤ wm_c (wm_s n + j) ∧ wm_c (wm_s n + j) ≤ 122) ∧ ck_words (wm_x n) = nI (tk_lt wm_c (wm_s n) (wm_l n)) ∧ wm_x n < 19 := by decide +kernel
theorem wx_inj : ∀ i, i < 19 → ∀ j, j < 19 → ck_words i = ck_words j → i = j := by decide +kernel
theorem wx_all : ∀ i, i < 19 → ∃ n, n < 19 ∧ wm_x n = i := by decide +kernel
def tk_srt (k : Nat) : Nat := if k = 0 then 4 else if k = 1 then 5 else if k = 2 then 2 else if k = 3 then 1 else if k < 17 then 3 else 0
def tk_cod (k : Nat) : Nat := ([0, 0, 0, 0, 59, 40, 41, 43, 45, 42, 47, 60, 256, 61, 257, 258, 62, 0, 0, 0, 0, 1, 2, 4, 5, 6, 7, 8, 9, 10, 11, 12, 13, 14, 15, 16, 3, 17, 18] : List Nat).getD k 0
theorem tk_codx : ∀ n, n < 19 → tk_cod (20 + wm_x n) = n := by decide +kernel
def LY (b : Nat → Nat) (n : Nat) (m : ck_H) : Prop := n ≤ 700 ∧ (m.1 0 21 = nI n ∧ (m.1 0 26 = 0 → m.1 0 27 = -1)) ∧ ∀ i, i < n → b i < 256 ∧ m.1 1 i = nI (b i)
def CM' (t : Tk) (m : ck_H) : Prop := m.1 0 24 = nI (tk_srt t.1) ∧ m.1 0 23 = nI t.2.2.1 ∧ m.1 0 22 = nI t.2.2.2 ∧ ((t.1 = 2 ∨ t.1 = 3) → m.1 0 25 = nI t.2.1) ∧ (4 ≤ t.1 → m.1 0 25 = nI (tk_cod t.1))
def FT (m m' : ck_H) : Prop := (∀ a, a ≠ 0 → m'.1 a = m.1 a) ∧ ∀ i, (i < 22 ∨ 25 < i) → m'.1 0 i = m.1 0 i
theorem FT.rf (m : ck_H) : FT m m := ⟨fun _ _ => rfl, fun _ _ => rfl⟩
theorem FT.tr {m m1 m2 : ck_H} (a : FT m m1) (b : FT m1 m2) : FT m m2 := ⟨fun x e => (b.1 x e).trans (a.1 x e), fun i e => (b.2 i e).trans (a.2 i e)⟩
theorem FT.set (m : ck_H) {i : Nat} (v : Int32) (hi : 22 ≤ i) (h2 : i ≤ 25) : FT m (ck_sI m 0 i v) := ⟨fun a ha => ck_sI_ne _ _ _ ha, fun j hj => ck_sI_nj _ _ (by omega)⟩
theorem LY.ft {b : Nat → Nat} {n : Nat} {m m' : ck_H} (L : LY b n m) (f : FT m m') : LY b n m' := by
  refine ⟨L.1, by rw [f.2 21 (by omega), f.2 26 (by omega), f.2 27 (by omega)]; exact L.2.1, ?_⟩
  rw [f.1 1 (by decide)]; exact L.2.2
theorem mm_here {b : Nat → Nat} {n a : Nat} {m : ck_H} {Q : Int32 → ck_H → Prop} (L : LY b n m) (e : m.1 0 22 = nI a) (ha : a ≤ 700) (q : Q (if a < n then nI (b a) else -1) m) : wp_X12_here m Q := by
  have hn := L.1
  unfold wp_X12_here
  rw [L.2.1.1, e, nI_clamp (n := a) (by omega)]
  refine pk_le n a (fun c => ?_) (fun c => ⟨pu_in (by omega) (by decide), ?_⟩)
  · rw [if_neg (by omega)] at q; exact q
  · rw [if_pos c] at q; rw [(L.2.2 a c).2]; exact q
theorem hr_eq {b : Nat → Nat} {n a x : Nat} (hx : x < 256) (hb : a < n → b a < 256) : (if a < n then nI (b a) else (-1 : Int32)) = nI x ↔ (a < n ∧ b a = x) := by
  by_cases c : a < n
  · have := hb c
    rw [if_pos c, nI_eq (by omega) (by omega)]
    exact ⟨fun z => ⟨c, z⟩, fun z => z.2⟩
  · rw [if_neg c]
    exact ⟨fun z => absurd z.symm (nI_nm1 (by omega)), fun z => absurd z.1 c⟩
theorem mm_ws {b : Nat → Nat} {n : Nat} {Q K : ck_H → Prop} : ∀ (k a f : Nat) (m : ck_H), k < f → a + k = n → LY b n m → m.1 0 22 = nI a → (∀ m', FT m m' → m'.1 0 22 = nI (tk_ws b n k a) → K m') → wp_X12_token_0 Q K f m := by
  intro k
  induction k with
  | zero =>
    intro a f m hf ha L e q
    obtain ⟨f, rfl⟩ : ∃ g, f = g + 1 := ⟨f - 1, by omega⟩
    have hn := L.1
    unfold wp_X12_token_0
    refine mm_here L e (by omega) ?_
    rw [if_neg (by omega)]
    refine br_n (by decide) (mm_here L e (by omega) ?_)
    rw [if_neg (by omega)]
    exact br_m (by decide) (q m (FT.rf m) e)
  | succ k ih =>
    intro a f m hf ha L e q
    obtain ⟨f, rfl⟩ : ∃ g, f = g + 1 := ⟨f - 1, by omega⟩
    have hn := L.1
    have hb : a < n → b a < 256 := fun c => (L.2.2 a c).1
    have i10 := hr_eq (x := 10) (by decide) hb
    have i32 := hr_eq (x := 32) (by decide) hb
    unfold wp_X12_token_0 wp_X12_token_18
    unfold tk_ws at q
    have go : (b a = 10 ∨ b a = 32) → ∀ h4, h4 = ck_sI m 0 22 (m.1 0 22 + 1) → wp_X12_token_0 Q K f h4 := by
      rintro c _ rfl
      rw [if_pos c] at q
      rw [e, nI_1]
      have fs : FT m (ck_sI m 0 22 (nI (a + 1))) := FT.set m _ (by decide) (by decide)
      exact ih (a + 1) f _ (by omega) (by omega) (L.ft fs) (ck_sI_at ..) (fun h' f' e' => q h' (fs.tr f') e')
    refine mm_here L e (by omega) ⟨fun c => go (Or.inl (i10.mp c).2), fun c => mm_here L e (by omega) ⟨fun c2 => ?_, fun c2 => go (Or.inr (i32.mp c2).2)⟩⟩
    rw [if_neg (fun z => z.elim (fun y => c (i10.mpr ⟨by omega, y⟩)) (fun y => c2 (i32.mpr ⟨by omega, y⟩)))] at q
    exact q m (FT.rf m) e
theorem mm_sm {c : Int32} {m : ck_H} {Q : Int32 → ck_H → Prop} (q1 : (¬ c < 97 ∧ ¬ (122 : Int32) < c) → Q 1 m) (q0 : ¬ (¬ c < 97 ∧ ¬ (122 : Int32) < c) → Q 0 m) : wp_X12_isSmall c m Q := ⟨fun z => q0 (fun y => y.1 z), fun z => ⟨fun y => q0 (fun w => w.2 y), fun y => q1 ⟨z, y⟩⟩⟩
theorem mm_dg {c : Int32} {m : ck_H} {Q : Int32 → ck_H → Prop} (q1 : (¬ c < 48 ∧ ¬ (57 : Int32) < c) → Q 1 m) (q0 : ¬ (¬ c < 48 ∧ ¬ (57 : Int32) < c) → Q 0 m) : wp_X12_isDigit c m Q := ⟨fun z => q0 (fun y => y.1 z), fun z => ⟨fun y => q0 (fun w => w.2 y), fun y => q1 ⟨z, y⟩⟩⟩
theorem hr_sm {b : Nat → Nat} {n a : Nat} (hb : a < n → b a < 256) : (¬ (if a < n then nI (b a) else (-1 : Int32)) < 97 ∧ ¬ (122 : Int32) < (if a < n then nI (b a) else (-1 : Int32))) ↔ (a < n ∧ 97 ≤ b a ∧ b a ≤ 122) := by
  by_cases c : a < n
  · have := hb c
    rw [if_pos c, show (97 : Int32) = nI 97 from rfl, show (122 : Int32) = nI 122 from rfl, nI_ltI (by omega) (by omega), nI_ltI (by omega) (by omega)]
    omega
  · rw [if_neg c]
    exact ⟨fun z => absurd (by decide) z.1, fun z => absurd z.1 c⟩
theorem hr_dg {b : Nat → Nat} {n a : Nat} (hb : a < n → b a < 256) : (¬ (if a < n then nI (b a) else (-1 : Int32)) < 48 ∧ ¬ (57 : Int32) < (if a < n then nI (b a) else (-1 : Int32))) ↔ (a < n ∧ 48 ≤ b a ∧ b a ≤ 57) := by
  by_cases c : a < n
  · have := hb c
    rw [if_pos c, show (48 : Int32) = nI 48 from rfl, show (57 : Int32) = nI 57 from rfl, nI_ltI (by omega) (by omega), nI_ltI (by omega) (by omega)]
    omega
  · rw [if_neg c]
    exact ⟨fun z => absurd (by decide) z.1, fun z => absurd z.1 c⟩
theorem mm_we {b : Nat → Nat} {n : Nat} {Q K : ck_H → Prop} : ∀ (k a f : Nat) (m : ck_H), k < f → a + k = n → LY b n m → m.1 0 22 = nI a → (∀ m', FT m m' → m'.1 0 22 = nI (tk_we b k a) → m'.1 0 23 = m.1 0 23 → K m') → wp_X12_token_64 Q K f m := by
  intro k
  induction k with
  | zero =>
    intro a f m hf ha L e q
    obtain ⟨f, rfl⟩ : ∃ g, f = g + 1 := ⟨f - 1, by omega⟩
    have hn := L.1
    unfold wp_X12_token_64
    refine mm_here L e (by omega) (mm_sm (fun c => ?_) (fun c => br_p rfl (q m (FT.rf m) e rfl)))
    have := (hr_sm (b := b) (fun c => (L.2.2 a c).1)).mp c
    omega
  | succ k ih =>
    intro a f m hf ha L e q
    obtain ⟨f, rfl⟩ : ∃ g, f = g + 1 := ⟨f - 1, by omega⟩
    have hn := L.1
    have hs := hr_sm (b := b) (n := n) (a := a) (fun c => (L.2.2 a c).1)
    unfold wp_X12_token_64
    unfold tk_we at q
    refine mm_here L e (by omega) (mm_sm (fun c => br_n (by decide) ?_) (fun c => br_p rfl ?_))
    · rw [if_pos (hs.mp c).2] at q
      rintro _ rfl
      rw [e, nI_1]
      have fs : FT m (ck_sI m 0 22 (nI (a + 1))) := FT.set m _ (by decide) (by decide)
      exact ih (a + 1) f _ (by omega) (by omega) (L.ft fs) (ck_sI_at ..) (fun h' f' e' e2 => q h' (fs.tr f') e' (by rw [e2, ck_sI_nj _ _ (by decide)]))
    · rw [if_neg (fun z => c (hs.mpr ⟨by omega, z⟩))] at q
      exact q m (FT.rf m) e rfl
theorem tk_we_sm {b : Nat → Nat} : ∀ (f a j : Nat), a ≤ j → j < tk_we b f a → 97 ≤ b j ∧ b j ≤ 122 := by
  intro f
  induction f with
  | zero => intro a j h1 h2; have h2 : j < a := h2; omega
  | succ f ih =>
    intro a j h1 h2
    unfold tk_we at h2
    split at h2
    · next c =>
      by_cases cj : j = a
      · subst cj; exact c
      · exact ih (a + 1) j (by omega) h2
    · omega
/-! words -/
def pk6 (f : Nat → Nat) : Nat := f 0 * 2 ^ 25 + f 1 * 2 ^ 20 + f 2 * 2 ^ 15 + f 3 * 2 ^ 10 + f 4 * 2 ^ 5 + f 5
theorem tk_lt6 {b : Nat → Nat} {p l : Nat} (hl : l ≤ 6) : tk_lt b p l = pk6 (fun j => if j < l then b (p + j) - 96 else 0) := by
  rcases (show l = 0 ∨ l = 1 ∨ l = 2 ∨ l = 3 ∨ l = 4 ∨ l = 5 ∨ l = 6 by omega) with rfl | rfl | rfl | rfl | rfl | rfl | rfl <;> simp [tk_lt, pk6]
theorem pk6_inj {f g : Nat → Nat} (hf : ∀ j, f j < 32) (hg : ∀ j, g j < 32) (e : pk6 f = pk6 g) : ∀ j, j < 6 → f j = g j := by
  have f0 := hf 0; have f1 := hf 1; have f2 := hf 2; have f3 := hf 3; have f4 := hf 4; have f5 := hf 5
  have g0 := hg 0; have g1 := hg 1; have g2 := hg 2; have g3 := hg 3; have g4 := hg 4; have g5 := hg 5
  unfold pk6 at e
  have a0 : f 0 = g 0 := by omega
  have a1 : f 1 = g 1 := by omega
  have a2 : f 2 = g 2 := by omega
  have a3 : f 3 = g 3 := by omega
  have a4 : f 4 = g 4 := by omega
  have a5 : f 5 = g 5 := by omega
  intro j hj
  rcases (show j = 0 ∨ j = 1 ∨ j = 2 ∨ j = 3 ∨ j = 4 ∨ j = 5 by omega) with rfl | rfl | rfl | rfl | rfl | rfl <;> assumption
theorem tk_lt_inj {b w : Nat → Nat} {p s l k : Nat} (hl : l ≤ 6) (hk : k ≤ 6) (hb : ∀ j, j < l → 97 ≤ b (p + j) ∧ b (p + j) ≤ 122) (hw : ∀ j, j < k → 97 ≤ w (s + j) ∧ w (s + j) ≤ 122) : tk_lt b p l = tk_lt w s k ↔ (l = k ∧ ∀ j, j < k → b (p + j) = w (s + j)) := by
  constructor
  · intro e
    rw [tk_lt6 hl, tk_lt6 hk] at e
    have i := pk6_inj (fun j => by
      by_cases c : j < l
      · rw [if_pos c]; have := hb j c; omega
      · rw [if_neg c]; omega) (fun j => by
      by_cases c : j < k
      · rw [if_pos c]; have := hw j c; omega
      · rw [if_neg c]; omega) e
    have lk : l = k := by
      rcases Nat.lt_trichotomy l k with c | c | c
      · have := i l (by omega)
        rw [if_neg (by omega), if_pos c] at this
        have := hw l c
        omega
      · exact c
      · have := i k (by omega)
        rw [if_pos c, if_neg (by omega)] at this
        have := hb k c
        omega
    subst lk
    refine ⟨rfl, fun j hj => ?_⟩
    have := i j (by omega)
    rw [if_pos hj, if_pos hj] at this
    have := hb j hj
    have := hw j hj
    omega
  · rintro ⟨rfl, e⟩
    have : ∀ k, k ≤ l → tk_lt b p k = tk_lt w s k := by
      intro k
      induction k with
      | zero => exact fun _ => rfl
      | succ k ih =>
        intro h
        show tk_lt b p k + (b (p + k) - 96) * _ = tk_lt w s k + (w (s + k) - 96) * _
        rw [ih (by omega), e k (by omega)]
    exact this l (Nat.le_refl _)
theorem tk_wd_sp {v : Nat} : ∀ (f i k : Nat), i + f ≤ 19 → (∃ j, i ≤ j ∧ j < i + f ∧ ck_words j = nI v ∧ tk_wd v f i k = 20 + j) ∨ ((∀ j, i ≤ j → j < i + f → ¬ ck_words j = nI v) ∧ tk_wd v f i k = k) := by
  intro f
  induction f with
  | zero => exact fun i k _ => Or.inr ⟨fun j h1 h2 => by omega, rfl⟩
  | succ f ih =>
    intro i k hi
    unfold tk_wd
    by_cases c : ck_words i = nI v
    · rw [if_pos c]
      rcases ih (i + 1) (20 + i) (by omega) with ⟨j, h1, h2, h3, h4⟩ | ⟨_, h2⟩
      · exact Or.inl ⟨j, by omega, by omega, h3, h4⟩
      · exact Or.inl ⟨i, by omega, by omega, c, h2⟩
    · rw [if_neg c]
      rcases ih (i + 1) k (by omega) with ⟨j, h1, h2, h3, h4⟩ | ⟨h1, h2⟩
      · exact Or.inl ⟨j, by omega, by omega, h3, h4⟩
      · refine Or.inr ⟨fun j a1 a2 => ?_, h2⟩
        by_cases cj : j = i
        · subst cj; exact c
        · exact h1 j (by omega) (by omega)
/-- a word of the text: of the model's words the n-th, or none of them -/
theorem wm_sp {b : Nat → Nat} {p l : Nat} (hl : l ≤ 6) (hb : ∀ j, j < l → 97 ≤ b (p + j) ∧ b (p + j) ≤ 122) : (∃ n, n < 19 ∧ (l = wm_l n ∧ ∀ j, j < wm_l n → b (p + j) = wm_c (wm_s n + j)) ∧ tk_wd (tk_lt b p l) 19 0 3 = 20 + wm_x n) ∨ ((∀ n, n < 19 → ¬ (l = wm_l n ∧ ∀ j, j < wm_l n → b (p + j) = wm_c (wm_s n + j))) ∧ tk_wd (tk_lt b p l) 19 0 3 = 3) := by
  have lt : tk_lt b p l ≤ 2 ^ 30 := Nat.le_trans (Nat.le_add_right _ _) (tk_lt_lt (b := b) (p := p) l hl hb)
  have eqv : ∀ n, n < 19 → (ck_words (wm_x n) = nI (tk_lt b p l) ↔ (l = wm_l n ∧ ∀ j, j < wm_l n → b (p + j) = wm_c (wm_s n + j))) := by
    intro n hn
    obtain ⟨o1, o2, o3, o4, o5, o6, o7, o8⟩ := wm_ok n hn
    have lt2 : tk_lt wm_c (wm_s n) (wm_l n) ≤ 2 ^ 30 := Nat.le_trans (Nat.le_add_right _ _) (tk_lt_lt (b := wm_c) (p := wm_s n) (wm_l n) o4 o6)
    rw [o7, nI_eq (by omega) (by omega), ← tk_lt_inj hl o4 hb o6]
    exact eq_comm
  rcases tk_wd_sp (v := tk_lt b p l) 19 0 3 (by omega) with ⟨i, h1, h2, h3, h4⟩ | ⟨h1, h2⟩
  · obtain ⟨n, hn, en⟩ := wx_all i (by omega)
    refine Or.inl ⟨n, hn, (eqv n hn).mp (by rw [en]; exact h3), by rw [h4, en]⟩
  · refine Or.inr ⟨fun n hn c => ?_, h2⟩
    exact h1 (wm_x n) (by omega) (by have := (wm_ok n hn).2.2.2.2.2.2.2; omega) ((eqv n hn).mpr c)
theorem mm_w97 {Q : Int32 → ck_H → Prop} {K : Int32 → Int32 → ck_H → Prop} {m : ck_H} {n : Nat} {x : Int32} (hn : n < 19) : ∀ (k i f : Nat), k < f → i + k = wm_l n → K x (nI (wm_s n + wm_l n)) m → wp_X12_word_97 Q K f x (nI (wm_s n + i)) m := by
  obtain ⟨o1, o2, o3, o4, o5, o6, o7, o8⟩ := wm_ok n hn
  intro k
  induction k with
  | zero =>
    intro i f hf hi q
    obtain ⟨f, rfl⟩ : ∃ g, f = g + 1 := ⟨f - 1, by omega⟩
    unfold wp_X12_word_97
    have ei : i = wm_l n := by omega
    subst ei
    rw [wm_ch _ o1, o3]
    exact ⟨pu_in o1 (by decide), br_p rfl q⟩
  | succ k ih =>
    intro i f hf hi q
    obtain ⟨f, rfl⟩ : ∃ g, f = g + 1 := ⟨f - 1, by omega⟩
    unfold wp_X12_word_97
    have c := o6 i (by omega)
    rw [wm_ch _ (show wm_s n + i < 94 by omega), nI_1]
    refine ⟨pu_in (by omega) (by decide), br_n (fun z => ?_) ?_⟩
    · rw [show (32 : Int32) = nI 32 from rfl, nI_eq (by omega) (by omega)] at z; omega
    · rintro _ rfl
      exact ih (i + 1) f (by omega) (by omega) q
theorem mm_w69 {Q : Int32 → ck_H → Prop} {Kc : Int32 → Int32 → ck_H → Prop} {m : ck_H} {n i p e : Nat} (hn : n < 19) (hi : i ≤ wm_l n) (e23 : m.1 0 23 = nI p) (e22 : m.1 0 22 = nI e) (hp : p + 6 < 2 ^ 30) (he : e < 2 ^ 30) (q1 : (i = wm_l n ∧ p + i = e) → Q (nI n) m) (q0 : ¬ (i = wm_l n ∧ p + i = e) → Kc (nI (n + 1)) (nI (wm_s (n + 1))) m) : wp_X12_word_69 Q Kc (nI n) (nI (wm_s n)) (nI i) m := by
  obtain ⟨o1, o2, o3, o4, o5, o6, o7, o8⟩ := wm_ok n hn
  unfold wp_X12_word_69
  rw [nI_add, wm_ch _ (show wm_s n + i < 94 by omega), e23, e22, nI_add]
  have sp : wm_c (wm_s n + i) = 32 ↔ i = wm_l n := by
    constructor
    · intro z
      rcases Nat.lt_or_ge i (wm_l n) with c | c
      · have := o6 i c; omega
      · omega
    · intro z; rw [z]; exact o3
  have hc : wm_c (wm_s n + i) < 2 ^ 31 := by
    rcases Nat.lt_or_ge i (wm_l n) with c | c
    · have := o6 i c; omega
    · rw [show i = wm_l n by omega, o3]; omega
  have i32 : nI (wm_c (wm_s n + i)) = (32 : Int32) ↔ i = wm_l n := by rw [show (32 : Int32) = nI 32 from rfl, nI_eq hc (by omega)]; exact sp
  have ie : nI (p + i) = nI e ↔ p + i = e := nI_eq (by omega) (by omega)
  have skip : ¬ (i = wm_l n ∧ p + i = e) → ∀ (K : Int32 → Int32 → ck_H → Prop), (∀ x y, K x y m = (∀ v21, v21 = y + 1 → ∀ v22, v22 = x + 1 → Kc v22 v21 m)) → wp_X12_word_97 Q K lpN (nI n) (nI (wm_s n)) m := by
    intro c K hK
    refine mm_w97 hn (wm_l n) 0 lpN (by unfold lpN; omega) (by omega) ?_
    rw [hK, nI_1, nI_1]
    rintro _ rfl _ rfl
    rw [← o2]
    exact q0 c
  refine ⟨pu_in (by omega) (by decide), fun c => skip (fun z => c (i32.mpr z.1)) _ (fun _ _ => rfl), fun c => ⟨fun c2 => skip (fun z => c2 (ie.mpr z.2)) _ (fun _ _ => rfl), fun c2 => q1 ⟨i32.mp c, ie.mp c2⟩⟩⟩
theorem mm_w15 {b : Nat → Nat} {nn n p e f0 : Nat} {Q : Int32 → ck_H → Prop} {m : ck_H} (L : LY b nn m) (hn : n < 19) (hpe : p ≤ e) (hen : e ≤ nn) (e23 : m.1 0 23 = nI p) (e22 : m.1 0 22 = nI e)
    (q1 : (e - p = wm_l n ∧ ∀ j, j < wm_l n → b (p + j) = wm_c (wm_s n + j)) → Q (nI n) m) (q0 : ¬ (e - p = wm_l n ∧ ∀ j, j < wm_l n → b (p + j) = wm_c (wm_s n + j)) → wp_X12_word_4 Q f0 (nI (n + 1)) (nI (wm_s (n + 1))) m) :
    ∀ (k i f : Nat), k < f → i + k = wm_l n → (∀ j, j < i → p + j < e ∧ b (p + j) = wm_c (wm_s n + j)) → wp_X12_word_15 Q (fun x10 x11 x12 h9 => wp_X12_word_69 Q (wp_X12_word_4 Q f0) x10 x11 x12 h9) f (nI n) (nI (wm_s n)) (nI i) m := by
  obtain ⟨o1, o2, o3, o4, o5, o6, o7, o8⟩ := wm_ok n hn
  have h7 := L.1
  intro k
  induction k with
  | zero =>
    intro i f hf hi hm
    obtain ⟨f, rfl⟩ : ∃ g, f = g + 1 := ⟨f - 1, by omega⟩
    unfold wp_X12_word_15
    have ei : i = wm_l n := by omega
    rw [nI_add, wm_ch _ (show wm_s n + i < 94 by omega), show wm_c (wm_s n + i) = 32 by rw [ei]; exact o3]
    refine ⟨pu_in (by omega) (by decide), br_p rfl ?_⟩
    exact mm_w69 hn (by omega) e23 e22 (by omega) (by omega) (fun c => q1 ⟨by omega, fun j hj => (hm j (by omega)).2⟩) (fun c => q0 (fun z => c ⟨ei, by omega⟩))
  | succ k ih =>
    intro i f hf hi hm
    obtain ⟨f, rfl⟩ : ∃ g, f = g + 1 := ⟨f - 1, by omega⟩
    unfold wp_X12_word_15
    have c6 := o6 i (by omega)
    rw [nI_add, wm_ch _ (show wm_s n + i < 94 by omega), e22, e23, nI_add, nI_1, nI_clamp (n := p + i) (by omega)]
    have no : ¬ (e - p = wm_l n ∧ ∀ j, j < wm_l n → b (p + j) = wm_c (wm_s n + j)) → wp_X12_word_69 Q (wp_X12_word_4 Q f0) (nI n) (nI (wm_s n)) (nI i) m := fun c => mm_w69 hn (by omega) e23 e22 (by omega) (by omega) (fun z => by omega) (fun _ => q0 c)
    have i94 : vp_in (nI (wm_s n + i)) 94 := pu_in (by omega) (by decide)
    refine ⟨i94, br_n (fun z => ?_) ?_⟩
    · rw [show (32 : Int32) = nI 32 from rfl, nI_eq (by omega) (by omega)] at z; omega
    · refine pk_le e (p + i) (fun c => no (fun z => by omega)) (fun c => ⟨pu_in (by omega) (by decide), i94, ?_⟩)
      obtain ⟨b1, b2⟩ := L.2.2 (p + i) (by omega)
      rw [b2]
      have ib : nI (b (p + i)) = nI (wm_c (wm_s n + i)) ↔ b (p + i) = wm_c (wm_s n + i) := nI_eq (by omega) (by omega)
      refine ⟨fun c2 => no (fun z => c2 (ib.mpr (z.2 i (by omega)))), fun c2 => ?_⟩
      rintro _ rfl
      refine ih (i + 1) f (by omega) (by omega) (fun j hj => ?_)
      by_cases cj : j = i
      · subst cj; exact ⟨c, ib.mp c2⟩
      · exact hm j (by omega)
theorem mm_w4 {b : Nat → Nat} {nn p e : Nat} {Q : Int32 → ck_H → Prop} {m : ck_H} (L : LY b nn m) (hpe : p ≤ e) (hen : e ≤ nn) (e23 : m.1 0 23 = nI p) (e22 : m.1 0 22 = nI e) (q1 : ∀ n, n < 19 → (e - p = wm_l n ∧ ∀ j, j < wm_l n → b (p + j) = wm_c (wm_s n + j)) → Q (nI n) m) (q0 : (∀ n, n < 19 → ¬ (e - p = wm_l n ∧ ∀ j, j < wm_l n → b (p + j) = wm_c (wm_s n + j))) → Q (-1) m) :
    ∀ (k n f : Nat), k < f → n + k = 19 → (∀ j, j < n → ¬ (e - p = wm_l j ∧ ∀ i, i < wm_l j → b (p + i) = wm_c (wm_s j + i))) → wp_X12_word_4 Q f (nI n) (nI (wm_s n)) m := by
  intro k
  induction k with
  | zero =>
    intro n f hf hn hno
    obtain ⟨f, rfl⟩ : ∃ g, f = g + 1 := ⟨f - 1, by omega⟩
    unfold wp_X12_word_4
    rw [show n = 19 by omega]
    exact br_p (by decide) (q0 (fun j hj => hno j (by omega)))
  | succ k ih =>
    intro n f hf hn hno
    obtain ⟨f, rfl⟩ : ∃ g, f = g + 1 := ⟨f - 1, by omega⟩
    unfold wp_X12_word_4
    obtain ⟨o1, o2, o3, o4, o5, o6, o7, o8⟩ := wm_ok n (by omega)
    refine br_n (nI_ge (a := wm_s n) (b := 94) (by omega) (by omega)) ?_
    refine mm_w15 L (by omega) hpe hen e23 e22 (q1 n (by omega)) (fun c => ?_) (wm_l n) 0 lpN (by unfold lpN; omega) (by omega) (fun j hj => by omega)
    refine ih (n + 1) f (by omega) (by omega) (fun j hj => ?_)
    by_cases cj : j = n
    · subst cj; exact c
    · exact hno j (by omega)
