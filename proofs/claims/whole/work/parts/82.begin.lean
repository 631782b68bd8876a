/-! a court as the text tells it -/
def T_bg (p : Nat → Nat → Int32) (l : Int32) (sd : Int64) : Tt := (fun i => if i = 6 then l else 0, p 4, p 12, p 14, fun _ => -1, fun _ => 0, sd)
theorem tx_bg69 {Q : ck_H → Prop} {o o1 : Nat} : ∀ (k i f : Nat) (h : ck_H), k < f → i + k = 10 → (∀ h', (∀ a, a ≠ o + 4 → h'.1 a = h.1 a) → h'.2 = h.2 → (∀ j, h'.1 (o + 4) j = if i ≤ j ∧ j < 10 then -1 else h.1 (o + 4) j) → Q h') → wp_X1_beginAsTold_69 Q o o1 f (nI i) h := by
  intro k
  induction k with
  | zero =>
    intro i f h hf hs hq
    obtain ⟨f, rfl⟩ : ∃ g, f = g + 1 := ⟨f - 1, by omega⟩
    unfold wp_X1_beginAsTold_69
    refine pk_le 10 i (fun _ => hq h (fun _ _ => rfl) rfl (fun j => by rw [if_neg (by omega)])) (fun z => by omega)
  | succ k ih =>
    intro i f h hf hs hq
    obtain ⟨f, rfl⟩ : ∃ g, f = g + 1 := ⟨f - 1, by omega⟩
    unfold wp_X1_beginAsTold_69
    refine pk_le 10 i (fun z => by omega) (fun z => ⟨pu_in (by omega) (by decide), ?_⟩)
    rintro _ rfl _ rfl
    rw [nI_1, nI_clamp (n := i) (by omega)]
    refine ih (i + 1) f _ (by omega) (by omega) (fun h' e1 e3 e2 => hq h' (fun a ha => ?_) (e3.trans (ck_sI_2 ..)) (fun j => ?_))
    · rw [e1 a ha, ck_sI_ne _ _ _ ha]
    · rw [e2 j]
      by_cases c : j = i
      · subst c; rw [if_neg (by omega), if_pos (by omega), ck_sI_at]
      · rw [ck_sI_nj _ _ c]
        by_cases c2 : i + 1 ≤ j ∧ j < 10
        · rw [if_pos c2, if_pos (by omega)]
        · rw [if_neg c2, if_neg (by omega)]
theorem tx_bg {Q : ck_H → Prop} {o o1 : Nat} {h : ck_H} (ho : o = 7 ∨ o = 17) (ho1 : 32 ≤ o1)
    (q : ∀ h', (∀ a, (a < o ∨ o + 4 < a) → h'.1 a = h.1 a) → h'.2 = h.2 → (h'.1 o 4 = 0 ∧ h'.1 o 5 = 0 ∧ h'.1 o 6 = h.1 o1 12 ∧ h'.1 o 7 = 0) → (∀ j, j < 4 → h'.1 (o + 1) j = h.1 (o1 + 4) j) → (∀ s, s < 10 → h'.1 (o + 2) s = h.1 (o1 + 12) s ∧ h'.1 (o + 3) s = h.1 (o1 + 14) s ∧ h'.1 (o + 4) s = -1) → Q h') : wp_X1_beginAsTold o o1 h Q := by
  have c0 : (0 : Int32).toNatClampNeg = 0 := by decide
  have c4 : (4 : Int32).toNatClampNeg = 4 := by decide
  have c10 : (10 : Int32).toNatClampNeg = 10 := by decide
  unfold wp_X1_beginAsTold
  intro h1 e1 h2 e2 h3 e3 h4 e4 h5 e5 h6 e6 h7 e7
  rw [c0, c4] at e5
  rw [c0, c10] at e6 e7
  have g2 : ∀ a, a ≠ o → h2.1 a = h.1 a := fun a ha => by rw [e2, ck_sI_ne _ _ _ ha, e1, ck_sI_ne _ _ _ ha]
  have g4 : ∀ a, a ≠ o → h4.1 a = h.1 a := fun a ha => by rw [e4, ck_sI_ne _ _ _ ha, e3, ck_sI_ne _ _ _ ha, g2 a ha]
  have g5 : ∀ a, a ≠ o + 1 → h5.1 a = h4.1 a := fun a ha => by rw [e5, ck_sR_ne _ _ ha]
  have g6 : ∀ a, a ≠ o + 2 → h6.1 a = h5.1 a := fun a ha => by rw [e6, ck_sR_ne _ _ ha]
  have g7 : ∀ a, a ≠ o + 3 → h7.1 a = h6.1 a := fun a ha => by rw [e7, ck_sR_ne _ _ ha]
  refine tx_bg69 10 0 lpN h7 (by decide) rfl (fun h8 x1 x2 x3 => q h8 (fun a ha => ?_) ?_ ⟨?_, ?_, ?_, ?_⟩ (fun j hj => ?_) (fun s hs => ⟨?_, ?_, ?_⟩))
  · rw [x1 a (by omega), g7 a (by omega), g6 a (by omega), g5 a (by omega), g4 a (by omega)]
  · rw [x2, e7, e6, e5, e4, e3, e2, e1]; rfl
  · rw [x1 o (by omega), g7 o (by omega), g6 o (by omega), g5 o (by omega), e4, ck_sI_nj _ _ (by decide), e3, ck_sI_nj _ _ (by decide), e2, ck_sI_nj _ _ (by decide), e1, ck_sI_at]
  · rw [x1 o (by omega), g7 o (by omega), g6 o (by omega), g5 o (by omega), e4, ck_sI_nj _ _ (by decide), e3, ck_sI_nj _ _ (by decide), e2, ck_sI_at]
  · rw [x1 o (by omega), g7 o (by omega), g6 o (by omega), g5 o (by omega), e4, ck_sI_nj _ _ (by decide), e3, ck_sI_at, g2 o1 (by omega)]
  · rw [x1 o (by omega), g7 o (by omega), g6 o (by omega), g5 o (by omega), e4, ck_sI_at]
  · rw [x1 (o + 1) (by omega), g7 (o + 1) (by omega), g6 (o + 1) (by omega), e5, ck_sR_at, sb_cpy0 hj, g4 (o1 + 4) (by omega)]
  · rw [x1 (o + 2) (by omega), g7 (o + 2) (by omega), e6, ck_sR_at, sb_cpy0 hs, g5 (o1 + 12) (by omega), g4 (o1 + 12) (by omega)]
  · rw [x1 (o + 3) (by omega), e7, ck_sR_at, sb_cpy0 hs, g6 (o1 + 14) (by omega), g5 (o1 + 14) (by omega), g4 (o1 + 14) (by omega)]
  · rw [x3 s, if_pos (by omega)]
theorem tx_bgT {h h' : ck_H} {o : Nat} (z : h'.2 = h.2) (a : h'.1 o 4 = 0 ∧ h'.1 o 5 = 0 ∧ h'.1 o 6 = h.1 32 12 ∧ h'.1 o 7 = 0) (b : ∀ j, j < 4 → h'.1 (o + 1) j = h.1 (32 + 4) j) (c : ∀ s, s < 10 → h'.1 (o + 2) s = h.1 (32 + 12) s ∧ h'.1 (o + 3) s = h.1 (32 + 14) s ∧ h'.1 (o + 4) s = -1) {J S : Nat} (hJ : J ≤ 4) (hS : S ≤ 10) : TQ J S (Tv h' o) (T_bg (pl h) (h.1 32 12) (h.2 74 11)) :=
  ⟨⟨a.1, a.2.1, a.2.2.1, a.2.2.2⟩, fun j hj => b j (by omega), fun s hs => c s (by omega), congrFun (congrFun z 74) 11⟩
theorem mm_st33 {Q : ck_H → Prop} {K : Int32 → ck_H → Prop} {b J : Nat} (hb : b < 23) (hJ : J ≤ 4) : ∀ (k i f : Nat) (m : ck_H), k < f → i + k = 4 → m.1 2 0 = nI J →
    (∀ m', (∀ a j, ¬ ((a = 24 ∨ a = 25) ∧ 4 * b + i ≤ j ∧ j < 4 * b + 4) → m'.1 a j = m.1 a j) → (∀ j, i ≤ j → j < 4 → (j < J → m'.1 24 (4 * b + j) = m.1 5 j) ∧ m'.1 25 (4 * b + j) = 0) → K (nI b) m') → wp_X12_starts_33 Q K f (nI b) (nI i) m := by
  intro k
  induction k with
  | zero =>
    intro i f m hf hs hm hq
    obtain ⟨f, rfl⟩ : ∃ g, f = g + 1 := ⟨f - 1, by omega⟩
    unfold wp_X12_starts_33
    refine pk_le 4 i (fun _ => hq m (fun _ _ _ => rfl) (fun j h1 h2 => by omega)) (fun z => by omega)
  | succ k ih =>
    intro i f m hf hs hm hq
    obtain ⟨f, rfl⟩ : ∃ g, f = g + 1 := ⟨f - 1, by omega⟩
    unfold wp_X12_starts_33
    refine pk_le 4 i (fun z => by omega) (fun z => ?_)
    rw [pu_ix4]
    have st : ∀ v, (i < J → v = m.1 5 i) → wp_X12_starts_67 Q K (wp_X12_starts_33 Q K f) (nI b) (nI i) (nI (4 * b + i)) v m := by
      intro v hv
      unfold wp_X12_starts_67
      rw [pu_ix4, nI_clamp (n := 4 * b + i) (by omega), nI_1]
      have i92 : vp_in (nI (4 * b + i)) 92 := pu_in (by omega) (by decide)
      refine ⟨i92, ?_⟩
      rintro _ rfl
      refine ⟨i92, ?_⟩
      rintro _ rfl _ rfl
      refine ih (i + 1) f _ (by omega) (by omega) ?_ (fun m' e1 e2 => hq m' (fun a j hn => ?_) (fun j h1 h2 => ?_))
      · rw [ck_sI_ne _ _ _ (by decide), ck_sI_ne _ _ _ (by decide)]; exact hm
      · rw [e1 a j (by omega)]
        by_cases c25 : a = 25
        · subst c25; rw [ck_sI_nj _ _ (by omega), ck_sI_ne _ _ _ (by decide)]
        · rw [ck_sI_ne _ _ _ c25]
          by_cases c24 : a = 24
          · subst c24; rw [ck_sI_nj _ _ (by omega)]
          · rw [ck_sI_ne _ _ _ c24]
      · by_cases c : j = i
        · subst c
          rw [e1 24 (4 * b + j) (by omega), e1 25 (4 * b + j) (by omega), ck_sI_at, ck_sI_ne _ _ _ (by decide), ck_sI_at]
          exact ⟨hv, rfl⟩
        · have := e2 j (by omega) h2
          rw [ck_sI_ne _ _ _ (show (5 : Nat) ≠ 25 by decide), ck_sI_ne _ _ _ (show (5 : Nat) ≠ 24 by decide)] at this
          exact this
    refine pk_le J i (fun z => st 0 (fun y => by omega)) (fun z => ⟨pu_in (by omega) (by decide), st _ (fun _ => by rw [nI_clamp (n := i) (by omega)])⟩) hm rfl (by omega) (by omega)
theorem mm_st87 {Q : ck_H → Prop} {b S : Nat} (hb : b < 23) (hS : S ≤ 10) : ∀ (k i f : Nat) (m : ck_H), k < f → i + k = 10 → m.1 2 2 = nI S →
    (∀ m', (∀ a j, ¬ ((a = 26 ∨ a = 27 ∨ a = 28) ∧ 10 * b + i ≤ j ∧ j < 10 * b + 10) → m'.1 a j = m.1 a j) → (∀ s, i ≤ s → s < 10 → (s < S → m'.1 26 (10 * b + s) = m.1 11 s ∧ m'.1 27 (10 * b + s) = m.1 13 s) ∧ m'.1 28 (10 * b + s) = -1) → Q m') → wp_X12_starts_87 Q f (nI b) (nI i) m := by
  intro k
  induction k with
  | zero =>
    intro i f m hf hs hm hq
    obtain ⟨f, rfl⟩ : ∃ g, f = g + 1 := ⟨f - 1, by omega⟩
    unfold wp_X12_starts_87
    refine pk_le 10 i (fun _ => hq m (fun _ _ _ => rfl) (fun j h1 h2 => by omega)) (fun z => by omega)
  | succ k ih =>
    intro i f m hf hs hm hq
    obtain ⟨f, rfl⟩ : ∃ g, f = g + 1 := ⟨f - 1, by omega⟩
    unfold wp_X12_starts_87
    refine pk_le 10 i (fun z => by omega) (fun z => ?_)
    have i230 : vp_in (nI (10 * b + i)) 230 := pu_in (by omega) (by decide)
    have st : ∀ v w, (i < S → v = m.1 11 i) → (i < S → w = m.1 13 i) → wp_X12_starts_158 Q (wp_X12_starts_87 Q f) (nI b) (nI i) (nI (10 * b + i)) w (ck_sI m 26 (10 * b + i) v) := by
      intro v w hv hw
      unfold wp_X12_starts_158
      rw [pu_ix10, nI_clamp (n := 10 * b + i) (by omega), nI_1]
      refine ⟨i230, ?_⟩
      rintro _ rfl
      refine ⟨i230, ?_⟩
      rintro _ rfl _ rfl
      refine ih (i + 1) f _ (by omega) (by omega) ?_ (fun m' e1 e2 => hq m' (fun a j hn => ?_) (fun j h1 h2 => ?_))
      · rw [ck_sI_ne _ _ _ (by decide), ck_sI_ne _ _ _ (by decide), ck_sI_ne _ _ _ (by decide)]; exact hm
      · rw [e1 a j (by omega)]
        by_cases c28 : a = 28
        · subst c28; rw [ck_sI_nj _ _ (by omega), ck_sI_ne _ _ _ (by decide), ck_sI_ne _ _ _ (by decide)]
        · rw [ck_sI_ne _ _ _ c28]
          by_cases c27 : a = 27
          · subst c27; rw [ck_sI_nj _ _ (by omega), ck_sI_ne _ _ _ (by decide)]
          · rw [ck_sI_ne _ _ _ c27]
            by_cases c26 : a = 26
            · subst c26; rw [ck_sI_nj _ _ (by omega)]
            · rw [ck_sI_ne _ _ _ c26]
      · by_cases c : j = i
        · subst c
          rw [e1 26 (10 * b + j) (by omega), e1 27 (10 * b + j) (by omega), e1 28 (10 * b + j) (by omega), ck_sI_at, ck_sI_ne _ _ _ (show (26 : Nat) ≠ 28 by decide), ck_sI_ne _ _ _ (show (26 : Nat) ≠ 27 by decide), ck_sI_at, ck_sI_ne _ _ _ (show (27 : Nat) ≠ 28 by decide), ck_sI_at]
          exact ⟨fun y => ⟨hv y, hw y⟩, rfl⟩
        · have := e2 j (by omega) h2
          rw [ck_sI_ne _ _ _ (show (11 : Nat) ≠ 28 by decide), ck_sI_ne _ _ _ (show (11 : Nat) ≠ 27 by decide), ck_sI_ne _ _ _ (show (11 : Nat) ≠ 26 by decide), ck_sI_ne _ _ _ (show (13 : Nat) ≠ 28 by decide), ck_sI_ne _ _ _ (show (13 : Nat) ≠ 27 by decide), ck_sI_ne _ _ _ (show (13 : Nat) ≠ 26 by decide)] at this
          exact this
    unfold wp_X12_starts_108 wp_X12_starts_133
    rw [pu_ix10, nI_clamp (n := 10 * b + i) (by omega), nI_clamp (n := i) (by omega)]
    refine pk_le S i (fun z => ⟨fun _ => ⟨i230, ?_⟩, fun y => absurd rfl y⟩) (fun z => ⟨fun y => absurd y (by decide), fun _ => ⟨pu_in (by omega) (by decide), i230, ?_⟩⟩) hm rfl (by omega) (by omega)
    · rintro _ rfl
      exact ⟨fun _ => st 0 0 (fun y => by omega) (fun y => by omega), fun y => absurd rfl y⟩
    · rintro _ rfl
      refine ⟨fun y => absurd y (by decide), fun _ => ⟨pu_in (by omega) (by decide), st _ _ (fun _ => rfl) (fun _ => ?_)⟩⟩
      rw [ck_sI_ne _ _ _ (by decide)]
theorem mm_st {Q : ck_H → Prop} {h m : ck_H} {b J N S : Nat} (P : PR h m J N S) (hb : b < 23)
    (q : ∀ m', (∀ a i, ¬ inB a b i → m'.1 a i = m.1 a i) → TQ J S (Mv m' b) (T_bg (pl h) (if m.1 0 48 = -1 then m.1 2 3 else m.1 0 48) (m.1 0 50).toInt64) → LZ J (Mv m' b) → Q m') : wp_X12_starts (nI b) m Q := by
  have hJ := P.hJ; have hS := P.hS
  have i23 : vp_in (nI b) 23 := pu_in hb (by decide)
  have fin : ∀ l, l = (if m.1 0 48 = -1 then m.1 2 3 else m.1 0 48) → ∀ h10, h10 = ck_sI (ck_sI (ck_sI (ck_sI m 20 b 0) 21 b l) 22 b 0) 23 b 0 → wp_X12_starts_33 Q (fun x20 h19 => wp_X12_starts_87 Q lpN x20 (0 : Int32) h19) lpN (nI b) (0 : Int32) h10 := by
    intro l hl h10 e10
    have g : ∀ a, a ≠ 20 → a ≠ 21 → a ≠ 22 → a ≠ 23 → h10.1 a = m.1 a := fun a a1 a2 a3 a4 => by rw [e10, ck_sI_ne _ _ _ a4, ck_sI_ne _ _ _ a3, ck_sI_ne _ _ _ a2, ck_sI_ne _ _ _ a1]
    have gj : ∀ a i, i ≠ b → h10.1 a i = m.1 a i := fun a i hi => by
      rw [e10]
      by_cases c3 : a = 23
      · subst c3; rw [ck_sI_nj _ _ hi, ck_sI_ne _ _ _ (by decide), ck_sI_ne _ _ _ (by decide), ck_sI_ne _ _ _ (by decide)]
      rw [ck_sI_ne _ _ _ c3]
      by_cases c2 : a = 22
      · subst c2; rw [ck_sI_nj _ _ hi, ck_sI_ne _ _ _ (by decide), ck_sI_ne _ _ _ (by decide)]
      rw [ck_sI_ne _ _ _ c2]
      by_cases c1 : a = 21
      · subst c1; rw [ck_sI_nj _ _ hi, ck_sI_ne _ _ _ (by decide)]
      rw [ck_sI_ne _ _ _ c1]
      by_cases c0 : a = 20
      · subst c0; rw [ck_sI_nj _ _ hi]
      rw [ck_sI_ne _ _ _ c0]
    have g23 : h10.1 23 b = 0 := by rw [e10, ck_sI_at]
    have g22 : h10.1 22 b = 0 := by rw [e10, ck_sI_ne _ _ _ (by decide), ck_sI_at]
    have g21 : h10.1 21 b = l := by rw [e10, ck_sI_ne _ _ _ (by decide), ck_sI_ne _ _ _ (by decide), ck_sI_at]
    have g20 : h10.1 20 b = 0 := by rw [e10, ck_sI_ne _ _ _ (by decide), ck_sI_ne _ _ _ (by decide), ck_sI_ne _ _ _ (by decide), ck_sI_at]
    refine mm_st33 hb hJ 4 0 lpN h10 (by decide) rfl (by rw [g 2 (by decide) (by decide) (by decide) (by decide)]; exact P.mJ) (fun m1 x1 x2 => ?_)
    refine mm_st87 hb hS 10 0 lpN m1 (by decide) rfl (by rw [x1 2 2 (by omega), g 2 (by decide) (by decide) (by decide) (by decide)]; exact P.mS) (fun m2 y1 y2 => ?_)
    refine q m2 (fun a i hn => ?_) ⟨⟨?_, ?_, ?_, ?_⟩, fun j hj => ?_, fun s hs => ⟨?_, ?_, ?_⟩, ?_⟩ (fun j hj => ?_)
    · unfold inB at hn
      rw [y1 a i (by omega), x1 a i (by omega)]
      by_cases c : i = b
      · rw [g a (by omega) (by omega) (by omega) (by omega)]
      · exact gj a i c
    · show m2.1 22 b = 0; rw [y1 22 b (by omega), x1 22 b (by omega), g22]
    · show m2.1 20 b = 0; rw [y1 20 b (by omega), x1 20 b (by omega), g20]
    · show m2.1 21 b = _; rw [y1 21 b (by omega), x1 21 b (by omega), g21, hl]; rfl
    · show m2.1 23 b = 0; rw [y1 23 b (by omega), x1 23 b (by omega), g23]
    · show m2.1 24 (4 * b + j) = h.1 36 j
      rw [y1 24 (4 * b + j) (by omega), (x2 j (by omega) (by omega)).1 hj, g 5 (by decide) (by decide) (by decide) (by decide)]
      exact P.tee j hj
    · show m2.1 26 (10 * b + s) = h.1 44 s
      rw [((y2 s (by omega) (by omega)).1 hs).1, x1 11 s (by omega), g 11 (by decide) (by decide) (by decide) (by decide)]
      exact P.ja s hs
    · show m2.1 27 (10 * b + s) = h.1 46 s
      rw [((y2 s (by omega) (by omega)).1 hs).2, x1 13 s (by omega), g 13 (by decide) (by decide) (by decide) (by decide)]
      exact P.da s hs
    · exact (y2 s (by omega) (by omega)).2
    · show (m2.1 0 50).toInt64 = (m.1 0 50).toInt64
      rw [y1 0 50 (by omega), x1 0 50 (by omega), g 0 (by decide) (by decide) (by decide) (by decide)]
    · show m2.1 25 (4 * b + j) = 0
      rw [y1 25 (4 * b + j) (by omega)]
      exact (x2 j (by omega) (by omega)).2
  unfold wp_X12_starts
  rw [nI_clamp (n := b) (by omega)]
  refine ⟨i23, ?_⟩
  rintro _ rfl
  unfold wp_X12_leverAs
  rw [ck_sI_ne m b 0 (show (0 : Nat) ≠ 20 by decide), ck_sI_ne m b 0 (show (2 : Nat) ≠ 20 by decide)]
  refine ⟨fun c => ⟨i23, ?_⟩, fun c => ⟨i23, ?_⟩⟩
  · rintro _ rfl
    refine ⟨i23, ?_⟩
    rintro _ rfl
    exact ⟨i23, fin _ (by rw [if_neg c])⟩
  · rintro _ rfl
    refine ⟨i23, ?_⟩
    rintro _ rfl
    exact ⟨i23, fin _ (by rw [if_pos c])⟩
theorem T_bg_Ok {h m : ck_H} {J N S l : Nat} {sd : Int64} (P : PR h m J N S) (h1 : 1 ≤ l) (h2 : l ≤ 99) : TOk 0 J S (T_bg (pl h) (nI l) sd) :=
  ⟨⟨0, Nat.le_refl _, rfl⟩, ⟨l, h1, h2, rfl⟩, P.rtee, P.rja, fun s hs => (P.rda s hs).le (by omega), fun _ _ => Or.inl rfl⟩
