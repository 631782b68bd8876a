/-! how a text's reading begins: the model -/
theorem mm_t47 {Q : Int32 → ck_H → Prop} {K : ck_H → Prop} : ∀ (k i f : Nat) (m : ck_H), k < f → i + k = 7 → (∀ m', (∀ a j, ¬ (a = 2 ∧ 7 + i ≤ j ∧ j < 14) → m'.1 a j = m.1 a j) → (∀ j, i ≤ j → j < 7 → m'.1 2 (7 + j) = if j = 3 then nI 50 else nI 0) → K m') → wp_X12_text_47 Q K f (nI i) m := by
  intro k
  induction k with
  | zero =>
    intro i f m hf hs hq
    obtain ⟨f, rfl⟩ : ∃ g, f = g + 1 := ⟨f - 1, by omega⟩
    unfold wp_X12_text_47
    refine pk_le 7 i (fun _ => hq m (fun _ _ _ => rfl) (fun j h1 h2 => by omega)) (fun z => by omega)
  | succ k ih =>
    intro i f m hf hs hq
    obtain ⟨f, rfl⟩ : ∃ g, f = g + 1 := ⟨f - 1, by omega⟩
    have st : ∀ v : Int32, v = (if i = 3 then nI 50 else nI 0) → wp_X12_text_66 Q K (wp_X12_text_47 Q K f) (nI i) (nI i) v m := by
      intro v hv
      unfold wp_X12_text_66
      refine mm_rd (i := i) (by omega) ?_
      rintro _ rfl
      rw [nI_1]
      refine ih (i + 1) f _ (by omega) (by omega) (fun m' e1 e2 => hq m' (fun a j hn => ?_) (fun j h1 h2 => ?_))
      · rw [e1 a j (by omega)]
        by_cases c : a = 2
        · subst c; exact ck_sI_nj _ _ (by omega)
        · rw [ck_sI_ne _ _ _ c]
      · by_cases c : j = i
        · subst c; rw [e1 2 (7 + j) (by omega), ck_sI_at]; exact hv
        · exact e2 j (by omega) h2
    have i3 : nI i = (3 : Int32) ↔ i = 3 := nI_eq (b := 3) (by omega) (by omega)
    unfold wp_X12_text_47
    refine pk_le 7 i (fun z => by omega) (fun z => ⟨fun c => st 0 ?_, fun c => st 50 ?_⟩)
    · rw [if_neg (fun y => c (i3.mpr y))]; rfl
    · rw [if_pos (i3.mp c)]; rfl
theorem mm_t77 {Q : Int32 → ck_H → Prop} {K : ck_H → Prop} : ∀ (k i f : Nat) (m : ck_H), k < f → i + k = 6 → (∀ m', (∀ a j, ¬ ((a = 14 ∨ a = 15) ∧ i ≤ j ∧ j < 6) → m'.1 a j = m.1 a j) → (∀ j, i ≤ j → j < 6 → m'.1 14 j = nI 0 ∧ m'.1 15 j = nI 0) → K m') → wp_X12_text_77 Q K f (nI i) m := by
  intro k
  induction k with
  | zero =>
    intro i f m hf hs hq
    obtain ⟨f, rfl⟩ : ∃ g, f = g + 1 := ⟨f - 1, by omega⟩
    unfold wp_X12_text_77
    refine pk_le 6 i (fun _ => hq m (fun _ _ _ => rfl) (fun j h1 h2 => by omega)) (fun z => by omega)
  | succ k ih =>
    intro i f m hf hs hq
    obtain ⟨f, rfl⟩ : ∃ g, f = g + 1 := ⟨f - 1, by omega⟩
    have i6 : vp_in (nI i) 6 := pu_in (by omega) (by decide)
    unfold wp_X12_text_77
    refine pk_le 6 i (fun z => by omega) (fun z => ⟨i6, ?_⟩)
    rintro _ rfl
    refine ⟨i6, ?_⟩
    rintro _ rfl _ rfl
    rw [nI_1, nI_clamp (n := i) (by omega)]
    refine ih (i + 1) f _ (by omega) (by omega) (fun m' e1 e2 => hq m' (fun a j hn => ?_) (fun j h1 h2 => ?_))
    · rw [e1 a j (by omega)]
      by_cases c : a = 15
      · subst c; rw [ck_sI_nj _ _ (by omega), ck_sI_ne _ _ _ (by decide)]
      · rw [ck_sI_ne _ _ _ c]
        by_cases c2 : a = 14
        · subst c2; exact ck_sI_nj _ _ (by omega)
        · rw [ck_sI_ne _ _ _ c2]
    · by_cases c : j = i
      · subst c
        rw [e1 14 j (by omega), e1 15 j (by omega), ck_sI_at, ck_sI_ne _ _ _ (by decide), ck_sI_at]
        exact ⟨rfl, rfl⟩
      · exact e2 j (by omega) h2
theorem mk0_t : ∀ k, k < 19 → ¬ (((0 : Int32) >>> (nI k &&& 31)) &&& 1) = 1 := by decide +kernel
theorem rdD0 {h m : ck_H} (z : rdZ h) (e2 : ∀ j, j < 7 → m.1 2 (7 + j) = if j = 3 then nI 50 else nI 0) (e14 : ∀ k, k < 3 → m.1 14 (3 + k) = nI 0 ∧ m.1 15 (3 + k) = nI 0) (e19 : m.1 0 19 = 0) (e20 : m.1 0 20 = 0) (e30 : m.1 0 30 = nI 0) (e31 : m.1 0 31 = nI 0) : rdD 0 0 0 [] h m := by
  have nm : ∀ k, k < 19 → ¬ mk k m := fun k hk => by unfold mk; rw [e19]; exact mk0_t k hk
  obtain ⟨z54, z58, z63, z68, zl, z12, z13, z14, z15, z16, z17⟩ := z
  refine ⟨⟨by omega, z54, e2 0 (by omega), fun j hj => absurd hj (Nat.not_lt_zero _)⟩, ⟨by omega, z58, e2 1 (by omega), fun j hj => absurd hj (Nat.not_lt_zero _)⟩, ⟨by omega, z63, e2 2 (by omega), fun j hj => absurd hj (Nat.not_lt_zero _)⟩, ⟨(e2 3 (by omega)).trans z12.symm, (e2 4 (by omega)).trans z13.symm, ⟨50, by omega, by omega, z12⟩, ⟨0, by omega, z13⟩, ?_, ?_, ?_⟩, ⟨⟨z68, fun i hi => absurd hi (Nat.not_lt_zero _)⟩, Nat.zero_le _, e2 6 (by omega), fun i hi => absurd hi (Nat.not_lt_zero _), e30, e31, fun k hk => ⟨0, 0, (zl k hk).1, (zl k hk).2, (e14 k hk).1, (e14 k hk).2, Nat.le_refl _, Nat.zero_le _, fun y => absurd y (Nat.lt_irrefl _), ⟨fun y => absurd y (nm _ (by omega)), fun y => absurd y (Nat.lt_irrefl _)⟩⟩⟩, z17.trans e20.symm⟩
  · exact ⟨fun y => absurd y (nm _ (by omega)), fun y => absurd z14 y⟩
  · exact ⟨fun y => absurd y (nm _ (by omega)), fun y => absurd z15 y⟩
  · exact ⟨fun y => absurd y (nm _ (by omega)), fun y => absurd z16 y⟩
/-- what the reading of a text leaves, in the model -/
def fG (m m' : ck_H) : Prop := ∀ a i, ¬ (a = 0 ∧ (i = 0 ∨ i = 2 ∨ (21 ≤ i ∧ i ≤ 27))) → ¬ alw a i → m'.1 a i = m.1 a i
theorem mm_bgn {b : Nat → Nat} {n : Nat} {m : ck_H} {Q : Int32 → ck_H → Prop} {K : ck_H → Prop} (hn : n ≤ 700) (hb : ∀ i, i < n → b i < 256 ∧ m.1 1 i = nI (b i))
    (q : ∀ m', fG m m' → m'.1 0 2 = 0 → (∀ h0, rdZ h0 → rdD 0 0 0 [] h0 m') → MT b n (tk_A b n 0) m' → wp_X12_text_127 Q K lpN m') :
    (∀ h4, h4 = ck_sI m 0 21 (nI n) → (∀ h5, h5 = ck_sI h4 0 2 (0 : Int32) → (∀ h6, h6 = ck_sI h5 0 22 (0 : Int32) → (∀ h7, h7 = ck_sI h6 0 26 (0 : Int32) → (∀ h8, h8 = ck_sI h7 0 27 (-1 : Int32) → wp_X12_text_47 Q (fun h13 => wp_X12_text_77 Q (fun h20 => (∀ h21, h21 = ck_sI h20 0 19 (0 : Int32) → (∀ h22, h22 = ck_sI h21 0 20 (0 : Int32) → (∀ h23, h23 = ck_sI h22 0 30 (0 : Int32) → (∀ h24, h24 = ck_sI h23 0 31 (0 : Int32) → (wp_X12_token h24 (fun h25 => wp_X12_text_127 Q K lpN h25))))))) lpN (3 : Int32) h13) lpN (0 : Int32) h8))))) := by
  intro h4 x4 h5 x5 h6 x6 h7 x7 h8 x8
  have g8 : ∀ a i, ¬ (a = 0 ∧ (i = 2 ∨ i = 21 ∨ i = 22 ∨ i = 26 ∨ i = 27)) → h8.1 a i = m.1 a i := fun a i z => by
    by_cases c : a = 0
    · subst c
      rw [x8, ck_sI_nj _ _ (by omega), x7, ck_sI_nj _ _ (by omega), x6, ck_sI_nj _ _ (by omega), x5, ck_sI_nj _ _ (by omega), x4, ck_sI_nj _ _ (by omega)]
    · rw [x8, ck_sI_ne _ _ _ c, x7, ck_sI_ne _ _ _ c, x6, ck_sI_ne _ _ _ c, x5, ck_sI_ne _ _ _ c, x4, ck_sI_ne _ _ _ c]
  have v27 : h8.1 0 27 = -1 := by rw [x8, ck_sI_at]
  have v26 : h8.1 0 26 = 0 := by rw [x8, ck_sI_nj _ _ (by omega), x7, ck_sI_at]
  have v22 : h8.1 0 22 = 0 := by rw [x8, ck_sI_nj _ _ (by omega), x7, ck_sI_nj _ _ (by omega), x6, ck_sI_at]
  have v2 : h8.1 0 2 = 0 := by rw [x8, ck_sI_nj _ _ (by omega), x7, ck_sI_nj _ _ (by omega), x6, ck_sI_nj _ _ (by omega), x5, ck_sI_at]
  have v21 : h8.1 0 21 = nI n := by rw [x8, ck_sI_nj _ _ (by omega), x7, ck_sI_nj _ _ (by omega), x6, ck_sI_nj _ _ (by omega), x5, ck_sI_nj _ _ (by omega), x4, ck_sI_at]
  refine mm_t47 7 0 lpN h8 (by decide) rfl (fun m1 e1 e2 => ?_)
  refine mm_t77 3 3 lpN m1 (by decide) rfl (fun m2 e3 e4 => ?_)
  intro h21 y1 h22 y2 h23 y3 h24 y4
  have gz : ∀ a i, ¬ (a = 0 ∧ (i = 19 ∨ i = 20 ∨ i = 30 ∨ i = 31)) → h24.1 a i = m2.1 a i := fun a i z => by
    by_cases c : a = 0
    · subst c
      rw [y4, ck_sI_nj _ _ (by omega), y3, ck_sI_nj _ _ (by omega), y2, ck_sI_nj _ _ (by omega), y1, ck_sI_nj _ _ (by omega)]
    · rw [y4, ck_sI_ne _ _ _ c, y3, ck_sI_ne _ _ _ c, y2, ck_sI_ne _ _ _ c, y1, ck_sI_ne _ _ _ c]
  have w31 : h24.1 0 31 = nI 0 := by rw [y4, ck_sI_at]; rfl
  have w30 : h24.1 0 30 = nI 0 := by rw [y4, ck_sI_nj _ _ (by omega), y3, ck_sI_at]; rfl
  have w20 : h24.1 0 20 = 0 := by rw [y4, ck_sI_nj _ _ (by omega), y3, ck_sI_nj _ _ (by omega), y2, ck_sI_at]
  have w19 : h24.1 0 19 = 0 := by rw [y4, ck_sI_nj _ _ (by omega), y3, ck_sI_nj _ _ (by omega), y2, ck_sI_nj _ _ (by omega), y1, ck_sI_at]
  have g0 : ∀ a i, ¬ (a = 0 ∧ (i = 19 ∨ i = 20 ∨ i = 30 ∨ i = 31)) → ¬ (a = 2 ∧ 7 ≤ i ∧ i < 14) → ¬ ((a = 14 ∨ a = 15) ∧ 3 ≤ i ∧ i < 6) → h24.1 a i = h8.1 a i := fun a i z1 z2 z3 => by
    rw [gz a i z1, e3 a i z3, e1 a i (by omega)]
  have L : LY b n h24 := by
    refine ⟨hn, ⟨?_, fun _ => ?_⟩, fun i hi => ⟨(hb i hi).1, ?_⟩⟩
    · rw [g0 0 21 (by omega) (by omega) (by omega)]; exact v21
    · rw [g0 0 27 (by omega) (by omega) (by omega)]; exact v27
    · rw [g0 1 i (by omega) (by omega) (by omega), g8 1 i (by omega)]; exact (hb i hi).2
  refine mm_token (a := 0) L (Nat.zero_le _) (by rw [g0 0 22 (by omega) (by omega) (by omega)]; exact v22) (fun m' f c => q m' (fun a i z1 z2 => ?_) ?_ (fun h0 Z => rdD0 Z (fun j hj => ?_) (fun k hk => ?_) ?_ ?_ ?_ ?_) ⟨L.ft f, TV.nx (t := (0, 0, 0, 0)) hn (fun i hi => (hb i hi).1) (Nat.zero_le _), c, ?_⟩)
  · have n1 : ¬ (a = 0 ∧ (i = 19 ∨ i = 20 ∨ i = 30 ∨ i = 31)) := fun y => z2 (Or.inl y)
    have n2 : ¬ (a = 2 ∧ 7 ≤ i ∧ i < 14) := fun y => z2 (by rw [y.1]; exact al (by omega) (by omega) (by show 7 ≤ i; omega))
    have n3 : ¬ ((a = 14 ∨ a = 15) ∧ 3 ≤ i ∧ i < 6) := fun y => z2 (by
      rcases y.1 with y1 | y1
      · rw [y1]; exact al (by omega) (by omega) (by show 3 ≤ i; omega)
      · rw [y1]; exact al (by omega) (by omega) (by show 3 ≤ i; omega))
    by_cases c0 : a = 0
    · subst c0
      rw [f.2 i (by omega), g0 0 i n1 n2 n3, g8 0 i (by omega)]
    · rw [f.1 a c0, g0 a i n1 n2 n3, g8 a i (by omega)]
  · rw [f.2 2 (by omega), g0 0 2 (by omega) (by omega) (by omega)]; exact v2
  · rw [f.1 2 (by omega), gz 2 _ (by omega), e3 2 _ (by omega)]; exact e2 j (by omega) hj
  · rw [f.1 14 (by omega), f.1 15 (by omega), gz 14 _ (by omega), gz 15 _ (by omega)]; exact e4 (3 + k) (by omega) (by omega)
  · rw [f.2 19 (by omega)]; exact w19
  · rw [f.2 20 (by omega)]; exact w20
  · rw [f.2 30 (by omega)]; exact w30
  · rw [f.2 31 (by omega)]; exact w31
  · rw [f.2 26 (by omega), g0 0 26 (by omega) (by omega) (by omega)]; exact v26
