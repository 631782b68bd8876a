/-! how a text's reading begins: the class -/
theorem tx_cl7 {Q : ck_H → Prop} : ∀ (k i f : Nat) (h : ck_H), k < f → i + k = 3 → (∀ h', (∀ a, a ≠ 71 → a ≠ 72 → h'.1 a = h.1 a) → h'.2 = h.2 → (∀ j, i ≤ j → j < 3 → h'.1 71 j = nI 0 ∧ h'.1 72 j = nI 0) → (∀ j, j < i → h'.1 71 j = h.1 71 j ∧ h'.1 72 j = h.1 72 j) → Q h') → wp_X4_clear_7 Q f (nI i) h := by
  intro k
  induction k with
  | zero =>
    intro i f h hf hs hq
    obtain ⟨f, rfl⟩ : ∃ g, f = g + 1 := ⟨f - 1, by omega⟩
    unfold wp_X4_clear_7
    refine pk_le 3 i (fun _ => hq h (fun _ _ _ => rfl) rfl (fun j h1 h2 => by omega) (fun _ _ => ⟨rfl, rfl⟩)) (fun z => by omega)
  | succ k ih =>
    intro i f h hf hs hq
    obtain ⟨f, rfl⟩ : ∃ g, f = g + 1 := ⟨f - 1, by omega⟩
    unfold wp_X4_clear_7
    have i3 : vp_in (nI i) 3 := pu_in (by omega) (by decide)
    refine pk_le 3 i (fun z => by omega) (fun z => ⟨i3, ?_⟩)
    rintro _ rfl
    refine ⟨i3, ?_⟩
    rintro _ rfl _ rfl
    rw [nI_1, nI_clamp (n := i) (by omega)]
    refine ih (i + 1) f _ (by omega) (by omega) (fun h' e1 e2 e3 e4 => hq h' (fun a a1 a2 => ?_) e2 (fun j h1 h2 => ?_) (fun j hj => ?_))
    · rw [e1 a a1 a2, ck_sI_ne _ _ _ a2, ck_sI_ne _ _ _ a1]
    · by_cases c : j = i
      · subst c
        rw [(e4 j (by omega)).1, (e4 j (by omega)).2, ck_sI_at, ck_sI_ne _ _ _ (show (71 : Nat) ≠ 72 by decide), ck_sI_at]
        exact ⟨rfl, rfl⟩
      · exact e3 j (by omega) h2
    · rw [(e4 j (by omega)).1, (e4 j (by omega)).2, ck_sI_nj _ _ (by omega), ck_sI_ne _ _ _ (show (71 : Nat) ≠ 72 by decide), ck_sI_nj _ _ (by omega), ck_sI_ne _ _ _ (show (72 : Nat) ≠ 71 by decide)]
      exact ⟨rfl, rfl⟩
/-- a draft that holds nothing yet -/
def rdZ (h : ck_H) : Prop := h.1 54 1 = nI 0 ∧ h.1 58 1 = nI 0 ∧ h.1 63 1 = nI 0 ∧ h.1 68 5 = nI 0 ∧ (∀ k, k < 3 → h.1 71 k = nI 0 ∧ h.1 72 k = nI 0) ∧ h.1 53 12 = nI 50 ∧ h.1 53 13 = nI 0 ∧ h.1 53 14 = 0 ∧ h.1 53 15 = 0 ∧ h.1 53 16 = 0 ∧ h.1 53 17 = 0
theorem rdZ.of {h h' : ck_H} (z : rdZ h) (e : ∀ a, 53 ≤ a → a ≤ 72 → h'.1 a = h.1 a) : rdZ h' := by
  unfold rdZ at *
  rw [e 53 (by omega) (by omega), e 54 (by omega) (by omega), e 58 (by omega) (by omega), e 63 (by omega) (by omega), e 68 (by omega) (by omega), e 71 (by omega) (by omega), e 72 (by omega) (by omega)]
  exact z
theorem rdZ.c {h : ck_H} (z : rdZ h) : rdC 0 0 0 [] h := ⟨⟨by omega, z.1⟩, ⟨by omega, z.2.1⟩, ⟨by omega, z.2.2.1⟩, ⟨z.2.2.2.1, fun i hi => absurd hi (Nat.not_lt_zero _)⟩, Nat.zero_le _, fun k hk => ⟨0, 0, (z.2.2.2.2.1 k hk).1, (z.2.2.2.2.1 k hk).2, Nat.le_refl _, Nat.zero_le _⟩⟩
theorem tx_clr {h : ck_H} {Q : ck_H → Prop} (q : ∀ h', (∀ a, (a < 53 ∨ 72 < a) → h'.1 a = h.1 a) → h'.2 = h.2 → rdZ h' → Q h') : wp_X7_clear h Q := by
  unfold wp_X7_clear
  rintro _ rfl _ rfl _ rfl
  unfold wp_X4_clear
  rintro _ rfl
  refine tx_cl7 3 0 lpN _ (by decide) rfl (fun h4 e1 e2 e3 _ => ?_)
  rintro _ rfl _ rfl _ rfl _ rfl _ rfl _ rfl
  refine q _ (fun a ha => ?_) e2 ⟨?_, ?_, ?_, ?_, fun k hk => ⟨?_, ?_⟩, ?_, ?_, ?_, ?_, ?_, ?_⟩
  · rw [ck_sI_ne _ _ _ (by omega), ck_sI_ne _ _ _ (by omega), ck_sI_ne _ _ _ (by omega), ck_sI_ne _ _ _ (by omega), ck_sI_ne _ _ _ (by omega), ck_sI_ne _ _ _ (by omega), e1 a (by omega) (by omega), ck_sI_ne _ _ _ (by omega), ck_sI_ne _ _ _ (by omega), ck_sI_ne _ _ _ (by omega), ck_sI_ne _ _ _ (by omega)]
  · rw [ck_sI_ne _ _ _ (by omega), ck_sI_ne _ _ _ (by omega), ck_sI_ne _ _ _ (by omega), ck_sI_ne _ _ _ (by omega), ck_sI_ne _ _ _ (by omega), ck_sI_ne _ _ _ (by omega), e1 54 (by omega) (by omega), ck_sI_ne _ _ _ (by omega), ck_sI_ne _ _ _ (by omega), ck_sI_ne _ _ _ (by omega), ck_sI_at]; rfl
  · rw [ck_sI_ne _ _ _ (by omega), ck_sI_ne _ _ _ (by omega), ck_sI_ne _ _ _ (by omega), ck_sI_ne _ _ _ (by omega), ck_sI_ne _ _ _ (by omega), ck_sI_ne _ _ _ (by omega), e1 58 (by omega) (by omega), ck_sI_ne _ _ _ (by omega), ck_sI_ne _ _ _ (by omega), ck_sI_at]; rfl
  · rw [ck_sI_ne _ _ _ (by omega), ck_sI_ne _ _ _ (by omega), ck_sI_ne _ _ _ (by omega), ck_sI_ne _ _ _ (by omega), ck_sI_ne _ _ _ (by omega), ck_sI_ne _ _ _ (by omega), e1 63 (by omega) (by omega), ck_sI_ne _ _ _ (by omega), ck_sI_at]; rfl
  · rw [ck_sI_ne _ _ _ (by omega), ck_sI_ne _ _ _ (by omega), ck_sI_ne _ _ _ (by omega), ck_sI_ne _ _ _ (by omega), ck_sI_ne _ _ _ (by omega), ck_sI_ne _ _ _ (by omega), e1 68 (by omega) (by omega), ck_sI_at]; rfl
  · rw [ck_sI_ne _ _ _ (by omega), ck_sI_ne _ _ _ (by omega), ck_sI_ne _ _ _ (by omega), ck_sI_ne _ _ _ (by omega), ck_sI_ne _ _ _ (by omega), ck_sI_ne _ _ _ (by omega)]; exact (e3 k (by omega) hk).1
  · rw [ck_sI_ne _ _ _ (by omega), ck_sI_ne _ _ _ (by omega), ck_sI_ne _ _ _ (by omega), ck_sI_ne _ _ _ (by omega), ck_sI_ne _ _ _ (by omega), ck_sI_ne _ _ _ (by omega)]; exact (e3 k (by omega) hk).2
  · rw [ck_sI_nj _ _ (by omega), ck_sI_nj _ _ (by omega), ck_sI_nj _ _ (by omega), ck_sI_nj _ _ (by omega), ck_sI_nj _ _ (by omega), ck_sI_at]; rfl
  · rw [ck_sI_nj _ _ (by omega), ck_sI_nj _ _ (by omega), ck_sI_nj _ _ (by omega), ck_sI_nj _ _ (by omega), ck_sI_at]; rfl
  · rw [ck_sI_nj _ _ (by omega), ck_sI_nj _ _ (by omega), ck_sI_nj _ _ (by omega), ck_sI_at]
  · rw [ck_sI_nj _ _ (by omega), ck_sI_nj _ _ (by omega), ck_sI_at]
  · rw [ck_sI_nj _ _ (by omega), ck_sI_at]
  · rw [ck_sI_at]
/-- what the reading of a text leaves, in the class -/
def fE (h h' : ck_H) : Prop := (∀ a, a ≠ 2 → a ≠ 3 → a ≠ 5 → a ≠ 6 → (a < 53 ∨ 72 < a) → h'.1 a = h.1 a) ∧ h'.2 = h.2
theorem tx_read {b : Nat → Nat} {n : Nat} {h : ck_H} {Q : Int32 → ck_H → Prop} (hn : n ≤ 700) (hb : ∀ i, i < n → b i < 256 ∧ h.1 1 i = sb_b (b i)) (hw : ∀ i, i < 19 → h.1 4 i = ck_words i)
    (q : ∀ h0 k g tt hF, rdZ h0 → k ≤ 700 → LR b n k (tk_A b n 0) h0 g tt hF → fE h hF → ((g = 0 ∧ CT b n tt hF) ∨ CFt g tt hF) → Q (nI g) hF) : wp_X9_readText (nI n) h Q := by
  have hb' : ∀ i, i < n → b i < 256 := fun i hi => (hb i hi).1
  unfold wp_X9_readText
  refine tx_clr (fun h1 e1 e2 z => ?_)
  rintro _ rfl
  have go : ∀ y, y = nI n → wp_X8_begin_19 (fun h3 => wp_X9_readText_19 Q lpN (0 : Int32) h3) y (ck_sI h1 2 2 0) := by
    rintro _ rfl
    unfold wp_X8_begin_19
    rintro _ rfl _ rfl
    have L : LX b n (ck_sI (ck_sI (ck_sI h1 2 2 0) 3 2 (nI n)) 3 3 0) := by
      refine ⟨hn, ?_, fun i hi => ⟨hb' i hi, ?_⟩, fun i hi => ?_⟩
      · rw [ck_sI_nj _ _ (by omega), ck_sI_at]
      · rw [ck_sI_ne _ _ _ (by omega), ck_sI_ne _ _ _ (by omega), ck_sI_ne _ _ _ (by omega), e1 1 (by omega)]; exact (hb i hi).2
      · rw [ck_sI_ne _ _ _ (by omega), ck_sI_ne _ _ _ (by omega), ck_sI_ne _ _ _ (by omega), e1 4 (by omega)]; exact hw i hi
    refine tx_next (a := 0) L (Nat.zero_le _) (ck_sI_at ..) (fun h' f c => ?_)
    have C : CT b n (tk_A b n 0) h' := by
      refine ⟨(FF.fs f).lx L, TV.nx (t := (0, 0, 0, 0)) hn hb' (Nat.zero_le _), (tk_A_le (b := b) hb' (Nat.zero_le _)).2.2.2.2.2.1, c, ?_⟩
      rw [f.1 2 (by omega), ck_sI_ne _ _ _ (by omega), ck_sI_ne _ _ _ (by omega), ck_sI_at]
    have Z : rdZ h' := z.of (fun a h1 h2 => by rw [f.1 a (by omega), ck_sI_ne _ _ _ (by omega), ck_sI_ne _ _ _ (by omega), ck_sI_ne _ _ _ (by omega)])
    refine tx_loopT lpN 0 (tk_A b n 0) h' 0 0 0 [] C Z.c (Nat.zero_le _) (by decide) (fun k g tt hF kj L' F E => q h' k g tt hF Z (by omega) L' ⟨fun a a2 a3 a5 a6 a7 => ?_, ?_⟩ E)
    · rw [F.1 a a2 a3 a5 a6 a7, f.1 a a3, ck_sI_ne _ _ _ a3, ck_sI_ne _ _ _ a3, ck_sI_ne _ _ _ a2, e1 a a7]
    · rw [F.2.2, f.2.2]; exact e2
  unfold wp_X8_begin
  refine ⟨fun c => go 700 ?_, fun _ => go _ rfl⟩
  have c : 700 ≤ n := (nI_leI (a := 700) (by omega) (by omega)).mp c
  rw [show n = 700 by omega]
  rfl
