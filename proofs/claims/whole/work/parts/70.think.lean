/-! as they are; a court made like another; a bench copied -/
def md0 (l : Int32) : Md := (false, false, false, -1, false, l)
theorem tx_as {Q : ck_H → Prop} {h : ck_H} (q : ∀ h', (∀ a, a ≠ 74 → a ≠ 76 → h'.1 a = h.1 a) → h'.2 = h.2 → mdX h' = md0 (h.1 32 12) → (h'.1 76 = fun j => if j < 4 then 0 else h.1 76 j) → Q h') : wp_X10_asTheyAre h Q := by
  unfold wp_X10_asTheyAre
  rintro _ rfl _ rfl _ rfl _ rfl _ rfl _ rfl
  refine tx_clear (fun h' e1 e2 e3 => q h' (fun a a1 a2 => ?_) e3 ?_ ?_)
  · rw [e1 a a2, ck_sI_ne _ _ _ a1, ck_sI_ne _ _ _ a1, ck_sI_ne _ _ _ a1, ck_sI_ne _ _ _ a1, ck_sI_ne _ _ _ a1, ck_sI_ne _ _ _ a1]
  · unfold mdX md0
    rw [e1 74 (by decide)]
    simp [ck_sI, upd]
  · rw [e2]
    simp [ck_sI]
theorem tx_like {Q : ck_H → Prop} {o o' : Nat} {h : ck_H} (ho : (o = 17 ∧ o' = 7) ∨ (o = 12 ∧ o' = 7) ∨ (o = 7 ∧ o' = 12))
    (q : ∀ h', (∀ a, (a < o ∨ o + 4 < a) → h'.1 a = h.1 a) → h'.2 = h.2 → (∀ J S, J ≤ 4 → S ≤ 10 → TQ J S (Tv h' o) (Tv h o')) → Q h') : wp_X1_becomeLike o o' h Q := by
  unfold wp_X1_becomeLike
  rintro _ rfl _ rfl _ rfl _ rfl _ rfl _ rfl _ rfl _ rfl
  refine q _ (fun a ha => ?_) ?_ (fun J S hJ hS => ⟨⟨?_, ?_, ?_, ?_⟩, fun j hj => ?_, fun s hs => ⟨?_, ?_, ?_⟩, ?_⟩)
  · have n0 : a ≠ o := by omega
    have n1 : a ≠ o + 1 := by omega
    have n2 : a ≠ o + 2 := by omega
    have n3 : a ≠ o + 3 := by omega
    have n4 : a ≠ o + 4 := by omega
    simp [ck_sI, ck_sR, n0, n1, n2, n3, n4]
  · rcases ho with ⟨rfl, rfl⟩ | ⟨rfl, rfl⟩ | ⟨rfl, rfl⟩ <;> simp [ck_sI, ck_sR]
  · rcases ho with ⟨rfl, rfl⟩ | ⟨rfl, rfl⟩ | ⟨rfl, rfl⟩ <;> simp [Tv, ck_sI, ck_sR, upd]
  · rcases ho with ⟨rfl, rfl⟩ | ⟨rfl, rfl⟩ | ⟨rfl, rfl⟩ <;> simp [Tv, ck_sI, ck_sR, upd]
  · rcases ho with ⟨rfl, rfl⟩ | ⟨rfl, rfl⟩ | ⟨rfl, rfl⟩ <;> simp [Tv, ck_sI, ck_sR, upd]
  · rcases ho with ⟨rfl, rfl⟩ | ⟨rfl, rfl⟩ | ⟨rfl, rfl⟩ <;> simp [Tv, ck_sI, ck_sR, upd]
  · have e4 : (4 : Int32).toNatClampNeg = 4 := by decide
    rcases ho with ⟨rfl, rfl⟩ | ⟨rfl, rfl⟩ | ⟨rfl, rfl⟩ <;> simp [Tv, ck_sI, ck_sR, va_cpy, e4] <;> omega
  · have e10 : (10 : Int32).toNatClampNeg = 10 := by decide
    rcases ho with ⟨rfl, rfl⟩ | ⟨rfl, rfl⟩ | ⟨rfl, rfl⟩ <;> simp [Tv, ck_sI, ck_sR, va_cpy, e10] <;> omega
  · have e10 : (10 : Int32).toNatClampNeg = 10 := by decide
    rcases ho with ⟨rfl, rfl⟩ | ⟨rfl, rfl⟩ | ⟨rfl, rfl⟩ <;> simp [Tv, ck_sI, ck_sR, va_cpy, e10] <;> omega
  · have e10 : (10 : Int32).toNatClampNeg = 10 := by decide
    rcases ho with ⟨rfl, rfl⟩ | ⟨rfl, rfl⟩ | ⟨rfl, rfl⟩ <;> simp [Tv, ck_sI, ck_sR, va_cpy, e10] <;> omega
  · rcases ho with ⟨rfl, rfl⟩ | ⟨rfl, rfl⟩ | ⟨rfl, rfl⟩ <;> simp [Tv, ck_sI, ck_sR]
theorem mm_cp50 {Q : ck_H → Prop} {K : Int32 → Int32 → ck_H → Prop} {t b : Nat} (ht : t < 23) (hb : b < 23) (hn : t ≠ b) : ∀ (k i f : Nat) (m : ck_H), k < f → i + k = 4 →
    (∀ m', (∀ a j, ¬ ((a = 24 ∨ a = 25) ∧ 4 * t + i ≤ j ∧ j < 4 * t + 4) → m'.1 a j = m.1 a j) → (∀ j, i ≤ j → j < 4 → m'.1 24 (4 * t + j) = m.1 24 (4 * b + j) ∧ m'.1 25 (4 * t + j) = m.1 25 (4 * b + j)) → K (nI t) (nI b) m') → wp_X12_copies_50 Q K f (nI t) (nI b) (nI i) m := by
  intro k
  induction k with
  | zero =>
    intro i f m hf hs hq
    obtain ⟨f, rfl⟩ : ∃ g, f = g + 1 := ⟨f - 1, by omega⟩
    unfold wp_X12_copies_50
    exact pk_le 4 i (fun _ => hq m (fun _ _ _ => rfl) (fun j h1 h2 => by omega)) (fun z => by omega)
  | succ k ih =>
    intro i f m hf hs hq
    obtain ⟨f, rfl⟩ : ∃ g, f = g + 1 := ⟨f - 1, by omega⟩
    unfold wp_X12_copies_50
    rw [pu_ix4, pu_ix4, nI_clamp (n := 4 * t + i) (by omega), nI_clamp (n := 4 * b + i) (by omega)]
    have it : vp_in (nI (4 * t + i)) 92 := pu_in (by omega) (by decide)
    have ib : vp_in (nI (4 * b + i)) 92 := pu_in (by omega) (by decide)
    refine pk_le 4 i (fun z => by omega) (fun _ => ⟨ib, it, ?_⟩)
    rintro _ rfl
    refine ⟨ib, it, ?_⟩
    rintro _ rfl _ rfl
    rw [nI_1]
    have g : ∀ a j, ¬ ((a = 24 ∨ a = 25) ∧ j = 4 * t + i) → (ck_sI (ck_sI m 24 (4 * t + i) (m.1 24 (4 * b + i))) 25 (4 * t + i) ((ck_sI m 24 (4 * t + i) (m.1 24 (4 * b + i))).1 25 (4 * b + i))).1 a j = m.1 a j := by
      intro a j hj
      by_cases e : a = 25
      · subst e; rw [ck_sI_nj _ _ (by omega), ck_sI_ne _ _ _ (by decide)]
      · rw [ck_sI_ne _ _ _ e]
        by_cases e2 : a = 24
        · subst e2; rw [ck_sI_nj _ _ (by omega)]
        · rw [ck_sI_ne _ _ _ e2]
    refine ih (i + 1) f _ (by omega) (by omega) (fun m' e1 e2 => hq m' (fun a j hj => ?_) (fun j h1 h2 => ?_))
    · rw [e1 a j (by omega), g a j (by omega)]
    · by_cases c : j = i
      · subst c
        rw [e1 24 _ (by omega), e1 25 _ (by omega), ck_sI_ne _ _ _ (by decide), ck_sI_at, ck_sI_at, ck_sI_ne _ _ _ (by decide)]
        exact ⟨rfl, rfl⟩
      · obtain ⟨u1, u2⟩ := e2 j (by omega) h2
        rw [u1, u2, g 24 _ (by omega), g 25 _ (by omega)]
        exact ⟨rfl, rfl⟩
theorem mm_cp103 {Q : ck_H → Prop} {t b : Nat} (ht : t < 23) (hb : b < 23) (hn : t ≠ b) : ∀ (k i f : Nat) (m : ck_H), k < f → i + k = 10 →
    (∀ m', (∀ a j, ¬ ((a = 26 ∨ a = 27 ∨ a = 28) ∧ 10 * t + i ≤ j ∧ j < 10 * t + 10) → m'.1 a j = m.1 a j) → (∀ j, i ≤ j → j < 10 → m'.1 26 (10 * t + j) = m.1 26 (10 * b + j) ∧ m'.1 27 (10 * t + j) = m.1 27 (10 * b + j) ∧ m'.1 28 (10 * t + j) = m.1 28 (10 * b + j)) → Q m') → wp_X12_copies_103 Q f (nI t) (nI b) (nI i) m := by
  intro k
  induction k with
  | zero =>
    intro i f m hf hs hq
    obtain ⟨f, rfl⟩ : ∃ g, f = g + 1 := ⟨f - 1, by omega⟩
    unfold wp_X12_copies_103
    exact pk_le 10 i (fun _ => hq m (fun _ _ _ => rfl) (fun j h1 h2 => by omega)) (fun z => by omega)
  | succ k ih =>
    intro i f m hf hs hq
    obtain ⟨f, rfl⟩ : ∃ g, f = g + 1 := ⟨f - 1, by omega⟩
    unfold wp_X12_copies_103
    rw [pu_ix10, pu_ix10, nI_clamp (n := 10 * t + i) (by omega), nI_clamp (n := 10 * b + i) (by omega)]
    have it : vp_in (nI (10 * t + i)) 230 := pu_in (by omega) (by decide)
    have ib : vp_in (nI (10 * b + i)) 230 := pu_in (by omega) (by decide)
    refine pk_le 10 i (fun z => by omega) (fun _ => ⟨ib, it, ?_⟩)
    rintro m1 hm1
    refine ⟨ib, it, ?_⟩
    rintro m2 hm2
    refine ⟨ib, it, ?_⟩
    rintro m3 hm3 _ rfl
    rw [nI_1]
    have g : ∀ a j, ¬ ((a = 26 ∨ a = 27 ∨ a = 28) ∧ j = 10 * t + i) → m3.1 a j = m.1 a j := by
      intro a j hj
      rw [hm3]
      by_cases e : a = 28
      · subst e; rw [ck_sI_nj _ _ (by omega), hm2, ck_sI_ne _ _ _ (by decide), hm1, ck_sI_ne _ _ _ (by decide)]
      · rw [ck_sI_ne _ _ _ e, hm2]
        by_cases e2 : a = 27
        · subst e2; rw [ck_sI_nj _ _ (by omega), hm1, ck_sI_ne _ _ _ (by decide)]
        · rw [ck_sI_ne _ _ _ e2, hm1]
          by_cases e3 : a = 26
          · subst e3; rw [ck_sI_nj _ _ (by omega)]
          · rw [ck_sI_ne _ _ _ e3]
    refine ih (i + 1) f _ (by omega) (by omega) (fun m' e1 e2 => hq m' (fun a j hj => ?_) (fun j h1 h2 => ?_))
    · rw [e1 a j (by omega), g a j (by omega)]
    · by_cases c : j = i
      · subst c
        refine ⟨?_, ?_, ?_⟩
        · rw [e1 26 _ (by omega), hm3, ck_sI_ne _ _ _ (by decide), hm2, ck_sI_ne _ _ _ (by decide), hm1, ck_sI_at]
        · rw [e1 27 _ (by omega), hm3, ck_sI_ne _ _ _ (by decide), hm2, ck_sI_at, hm1, ck_sI_ne _ _ _ (by decide)]
        · rw [e1 28 _ (by omega), hm3, ck_sI_at, hm2, ck_sI_ne _ _ _ (by decide), hm1, ck_sI_ne _ _ _ (by decide)]
      · obtain ⟨u1, u2, u3⟩ := e2 j (by omega) h2
        rw [u1, u2, u3, g 26 _ (by omega), g 27 _ (by omega), g 28 _ (by omega)]
        exact ⟨rfl, rfl, rfl⟩
theorem mm_copies {Q : ck_H → Prop} {t b : Nat} {m : ck_H} (ht : t < 23) (hb : b < 23) (hn : t ≠ b)
    (q : ∀ m', (∀ a i, ¬ inB a t i → m'.1 a i = m.1 a i) → (∀ J S, J ≤ 4 → S ≤ 10 → TQ J S (Mv m' t) (Mv m b) ∧ TL J (Mv m' t) (Mv m b)) → Q m') : wp_X12_copies (nI t) (nI b) m Q := by
  have it : vp_in (nI t) 23 := pu_in ht (by decide)
  have ib : vp_in (nI b) 23 := pu_in hb (by decide)
  unfold wp_X12_copies
  rw [nI_clamp (n := t) (by omega), nI_clamp (n := b) (by omega)]
  refine ⟨ib, it, ?_⟩
  intro m1 h1
  refine ⟨ib, it, ?_⟩
  intro m2 h2
  refine ⟨ib, it, ?_⟩
  intro m3 h3
  refine ⟨ib, it, ?_⟩
  intro m4 h4
  have g4 : ∀ a j, ¬ (20 ≤ a ∧ a ≤ 23 ∧ j = t) → m4.1 a j = m.1 a j := by
    intro a j hj
    rw [h4]
    by_cases e : a = 23
    · subst e; rw [ck_sI_nj _ _ (by omega), h3, ck_sI_ne _ _ _ (by decide), h2, ck_sI_ne _ _ _ (by decide), h1, ck_sI_ne _ _ _ (by decide)]
    · rw [ck_sI_ne _ _ _ e, h3]
      by_cases e : a = 22
      · subst e; rw [ck_sI_nj _ _ (by omega), h2, ck_sI_ne _ _ _ (by decide), h1, ck_sI_ne _ _ _ (by decide)]
      · rw [ck_sI_ne _ _ _ e, h2]
        by_cases e : a = 21
        · subst e; rw [ck_sI_nj _ _ (by omega), h1, ck_sI_ne _ _ _ (by decide)]
        · rw [ck_sI_ne _ _ _ e, h1]
          by_cases e : a = 20
          · subst e; rw [ck_sI_nj _ _ (by omega)]
          · rw [ck_sI_ne _ _ _ e]
  have v20 : m4.1 20 t = m.1 20 b := by rw [h4, ck_sI_ne _ _ _ (by decide), h3, ck_sI_ne _ _ _ (by decide), h2, ck_sI_ne _ _ _ (by decide), h1, ck_sI_at]
  have v21 : m4.1 21 t = m.1 21 b := by rw [h4, ck_sI_ne _ _ _ (by decide), h3, ck_sI_ne _ _ _ (by decide), h2, ck_sI_at, h1, ck_sI_ne _ _ _ (by decide)]
  have v22 : m4.1 22 t = m.1 22 b := by rw [h4, ck_sI_ne _ _ _ (by decide), h3, ck_sI_at, h2, ck_sI_ne _ _ _ (by decide), h1, ck_sI_ne _ _ _ (by decide)]
  have v23 : m4.1 23 t = m.1 23 b := by rw [h4, ck_sI_at, h3, ck_sI_ne _ _ _ (by decide), h2, ck_sI_ne _ _ _ (by decide), h1, ck_sI_ne _ _ _ (by decide)]
  refine mm_cp50 ht hb hn 4 0 lpN m4 (by decide) (by omega) (fun m5 e5 u5 => ?_)
  refine mm_cp103 ht hb hn 10 0 lpN m5 (by decide) (by omega) (fun m6 e6 u6 => q m6 (fun a i hi => ?_) (fun J S hJ hS => ⟨⟨⟨?_, ?_, ?_, ?_⟩, fun j hj => ?_, fun s hs => ⟨?_, ?_, ?_⟩, ?_⟩, fun j hj => ?_⟩))
  · unfold inB at hi
    rw [e6 a i (by omega), e5 a i (by omega), g4 a i (by omega)]
  · show m6.1 22 t = m.1 22 b; rw [e6 22 t (by omega), e5 22 t (by omega)]; exact v22
  · show m6.1 20 t = m.1 20 b; rw [e6 20 t (by omega), e5 20 t (by omega)]; exact v20
  · show m6.1 21 t = m.1 21 b; rw [e6 21 t (by omega), e5 21 t (by omega)]; exact v21
  · show m6.1 23 t = m.1 23 b; rw [e6 23 t (by omega), e5 23 t (by omega)]; exact v23
  · show m6.1 24 (4 * t + j) = m.1 24 (4 * b + j); rw [e6 24 _ (by omega), (u5 j (by omega) (by omega)).1, g4 24 _ (by omega)]
  · show m6.1 26 (10 * t + s) = m.1 26 (10 * b + s); rw [(u6 s (by omega) (by omega)).1, e5 26 _ (by omega), g4 26 _ (by omega)]
  · show m6.1 27 (10 * t + s) = m.1 27 (10 * b + s); rw [(u6 s (by omega) (by omega)).2.1, e5 27 _ (by omega), g4 27 _ (by omega)]
  · show m6.1 28 (10 * t + s) = m.1 28 (10 * b + s); rw [(u6 s (by omega) (by omega)).2.2, e5 28 _ (by omega), g4 28 _ (by omega)]
  · show (m6.1 0 50).toInt64 = (m.1 0 50).toInt64; rw [e6 0 50 (by omega), e5 0 50 (by omega), g4 0 50 (by omega)]
  · show m6.1 25 (4 * t + j) = m.1 25 (4 * b + j); rw [e6 25 _ (by omega), (u5 j (by omega) (by omega)).2, g4 25 _ (by omega)]
