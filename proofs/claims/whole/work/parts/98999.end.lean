/-! how a text's reading ends -/
theorem Mv_of {m m' : ck_H} (e : ∀ a, 20 ≤ a → a ≤ 28 → m'.1 a = m.1 a) (e50 : m'.1 0 50 = m.1 0 50) (b : Nat) : Mv m' b = Mv m b := by
  unfold Mv Mf
  rw [e 20 (by omega) (by omega), e 21 (by omega) (by omega), e 22 (by omega) (by omega), e 23 (by omega) (by omega), e 24 (by omega) (by omega), e 25 (by omega) (by omega), e 26 (by omega) (by omega), e 27 (by omega) (by omega), e 28 (by omega) (by omega), e50]
theorem Tv_of {h h' : ck_H} {o : Nat} (e : ∀ a, o ≤ a → a ≤ o + 4 → h'.1 a = h.1 a) (e76 : h'.1 76 = h.1 76) (e2 : h'.2 = h.2) : Tv h' o = Tv h o := by
  unfold Tv
  rw [e o (by omega) (by omega), e (o + 1) (by omega) (by omega), e (o + 2) (by omega) (by omega), e (o + 3) (by omega) (by omega), e (o + 4) (by omega) (by omega), e76, e2]
theorem TL.rf' (J : Nat) (t : Tt) : TL J t t := fun _ _ => rfl
theorem PR.low {h m h' m' : ck_H} {J N S : Nat} (H : PR h m J N S) (e : ∀ a, 32 ≤ a → a ≤ 52 → h'.1 a = h.1 a) (g : ∀ a i, 2 ≤ a → a ≤ 17 → i < hf a → m'.1 a i = m.1 a i) : PR h' m' J N S := by
  have H1 : PR h' m J N S := H.kept e (fun _ _ _ => rfl)
  have hJ := H.hJ; have hN := H.hN; have hS := H.hS
  obtain ⟨a1, a2, a3, a4, a5, a6, a7, a8, a9, a10, a11, a12, a13, a14, a15, a16, a17, a18, a19, a20, a21, a22, a23, a24, a25, a26, a27, a28, a29, a30, a31, a32, a33⟩ := H1
  refine ⟨a1, a2, a3, a4, a5, a6, ?_, ?_, ?_, ?_, ?_, a12, a13, ?_, fun j hj => ?_, fun j hj => ?_, a17, fun j hj => ?_, a19, fun j hj => ?_, fun j hj => ?_, a22, fun j hj => ?_, a24, fun j hj => ?_, fun j hj => ?_, fun j hj => ?_, a28, fun j hj => ?_, a30, fun j hj => ?_, a32, fun k hk => ?_⟩
  · rw [g 2 0 (by omega) (by omega) (by show 0 < 7; omega)]; exact a7
  · rw [g 2 1 (by omega) (by omega) (by show 1 < 7; omega)]; exact a8
  · rw [g 2 2 (by omega) (by omega) (by show 2 < 7; omega)]; exact a9
  · rw [g 2 3 (by omega) (by omega) (by show 3 < 7; omega)]; exact a10
  · rw [g 2 4 (by omega) (by omega) (by show 4 < 7; omega)]; exact a11
  · rw [g 2 6 (by omega) (by omega) (by show 6 < 7; omega)]; exact a14
  · rw [g 3 j (by omega) (by omega) (by show j < 4; omega)]; exact a15 j hj
  · rw [g 4 j (by omega) (by omega) (by show j < 4; omega)]; exact a16 j hj
  · rw [g 5 j (by omega) (by omega) (by show j < 4; omega)]; exact a18 j hj
  · rw [g 6 j (by omega) (by omega) (by show j < 6; omega)]; exact a20 j hj
  · rw [g 7 j (by omega) (by omega) (by show j < 6; omega)]; exact a21 j hj
  · rw [g 8 j (by omega) (by omega) (by show j < 6; omega)]; exact a23 j hj
  · rw [g 9 j (by omega) (by omega) (by show j < 6; omega)]; exact a25 j hj
  · rw [g 10 j (by omega) (by omega) (by show j < 10; omega)]; exact a26 j hj
  · rw [g 11 j (by omega) (by omega) (by show j < 10; omega)]; exact a27 j hj
  · rw [g 12 j (by omega) (by omega) (by show j < 10; omega)]; exact a29 j hj
  · rw [g 13 j (by omega) (by omega) (by show j < 10; omega)]; exact a31 j hj
  · obtain ⟨a, c, c1, c2, c3, c4, c5, c6⟩ := a33 k hk
    refine ⟨a, c, c1, c2, ?_, ?_, c5, fun j h1 h2 => ?_⟩
    · rw [g 14 k (by omega) (by omega) (by show k < 3; omega)]; exact c3
    · rw [g 15 k (by omega) (by omega) (by show k < 3; omega)]; exact c4
    · have := c5.2.1
      rw [g 16 j (by omega) (by omega) (by show j < 64; omega), g 17 j (by omega) (by omega) (by show j < 64; omega)]
      exact c6 j h1 h2
theorem SimP.txt {J N S : Nat} {h m h' m' : ck_H} (H : SimP J N S h m) (x : ∀ a, (a = 4 ∨ (7 ≤ a ∧ a ≤ 16) ∨ (22 ≤ a ∧ a ≤ 26) ∨ (28 ≤ a ∧ a ≤ 52) ∨ a = 76) → h'.1 a = h.1 a) (x14 : h'.1 0 14 = h.1 0 14) (x2 : h'.2 = h.2)
    (f : ∀ a i, 2 ≤ a → a ≤ 17 → i < hf a → m'.1 a i = m.1 a i) (fr : ∀ a, 20 ≤ a → a ≤ 38 → m'.1 a = m.1 a) (f0 : ∀ i, (44 ≤ i ∧ i ≤ 50) ∨ i = 62 ∨ i = 63 → m'.1 0 i = m.1 0 i) (tp : h'.1 0 11 = 0 ∧ m'.1 0 2 = 0) (fl : h'.1 0 12 = m'.1 0 28 ∧ h'.1 0 13 = m'.1 0 29) : SimP J N S h' m' := by
  have mv : ∀ b, Mv m' b = Mv m b := Mv_of (fun a h1 h2 => fr a h1 (by omega)) (f0 50 (by omega))
  have t7 : Tv h' 7 = Tv h 7 := Tv_of (fun a h1 h2 => x a (by omega)) (x 76 (by omega)) x2
  have t12 : Tv h' 12 = Tv h 12 := Tv_of (fun a h1 h2 => x a (by omega)) (x 76 (by omega)) x2
  refine ⟨H.pr.low (fun a h1 h2 => x a (by omega)) f, ?_, ?_, ?_, ?_, ?_, ?_, ⟨0, by omega, tp.1, tp.2, fun i hi => by omega⟩, fl, ?_, ?_, ?_⟩
  · rw [mv, t7]; exact H.now
  · rw [mv]; exact H.nz
  · rw [t7]; exact H.nok
  · rw [t7]; exact H.sd
  · exact H.img.kept x14 (f0 44 (by omega)) (by rw [mv]; exact TQ.rf ..) (by rw [mv]; exact TL.rf' _ _) (by rw [t12]; exact TQ.rf ..)
  · rw [f0 46 (by omega), f0 47 (by omega), f0 48 (by omega), f0 49 (by omega)]; exact H.mode
  · exact H.notes.kept (fun a h1 h2 => x a (by omega)) (fun a h1 h2 => fr a (by omega) (by omega)) (f0 62 (by omega)) (f0 63 (by omega))
  · exact H.deeds.kept (fun a h1 h2 => x a (by omega)) (f0 45 (by omega)) (fun i hi => by rw [mv]; exact ⟨TQ.rf .., TL.rf' _ _⟩) (by rw [mv]; exact TQ.rf ..)
  · rw [x 4 (by omega)]; exact H.words
/-! the upper halves become the lower ones -/
theorem mm_hf7 {Q : ck_H → Prop} {o d : Nat} (hl : ck_ln ck_shM o = 2 * d) (hd : d ≤ 64) : ∀ (k i f : Nat) (m : ck_H), k < f → i + k = d → (∀ m', (∀ a, a ≠ o → m'.1 a = m.1 a) → (∀ j, i ≤ j → j < d → m'.1 o j = m.1 o (d + j)) → (∀ j, (j < i ∨ d ≤ j) → m'.1 o j = m.1 o j) → Q m') → wp_X12_half_7 Q o f (nI d) (nI i) m := by
  intro k
  induction k with
  | zero =>
    intro i f m hf hs hq
    obtain ⟨f, rfl⟩ : ∃ g, f = g + 1 := ⟨f - 1, by omega⟩
    unfold wp_X12_half_7
    refine pk_le d i (fun _ => hq m (fun _ _ => rfl) (fun j h1 h2 => by omega) (fun _ _ => rfl)) (fun z => by omega) rfl rfl (by omega) (by omega)
  | succ k ih =>
    intro i f m hf hs hq
    obtain ⟨f, rfl⟩ : ∃ g, f = g + 1 := ⟨f - 1, by omega⟩
    unfold wp_X12_half_7
    rw [hl, nI_add, nI_clamp (n := i) (by omega), nI_clamp (n := d + i) (by omega), nI_1]
    refine pk_le d i (fun z => by omega) (fun z => ⟨pu_in (by omega) (by omega), pu_in (by omega) (by omega), ?_⟩) rfl rfl (by omega) (by omega)
    rintro _ rfl _ rfl
    refine ih (i + 1) f _ (by omega) (by omega) (fun m' e1 e2 e3 => hq m' (fun a ha => ?_) (fun j h1 h2 => ?_) (fun j hj => ?_))
    · rw [e1 a ha, ck_sI_ne _ _ _ ha]
    · by_cases c : j = i
      · subst c; rw [e3 j (by omega), ck_sI_at]
      · rw [e2 j (by omega) h2, ck_sI_nj _ _ (by omega)]
    · rw [e3 j (by omega), ck_sI_nj _ _ (by omega)]
theorem hf_tab : ∀ o, o < 18 → 2 ≤ o → ck_ln ck_shM o = 2 * hf o ∧ nI (ck_ln ck_shM o) / 2 = nI (hf o) ∧ hf o ≤ 64 := by decide +kernel
def HV (k : Nat) (m m' : ck_H) : Prop := (∀ a, ¬ (2 ≤ a ∧ a < k) → m'.1 a = m.1 a) ∧ ∀ a j, 2 ≤ a → a < k → j < hf a → m'.1 a j = m.1 a (hf a + j)
theorem HV.rf (m : ck_H) : HV 2 m m := ⟨fun _ _ => rfl, fun a j h1 h2 => by omega⟩
theorem HV.st {k : Nat} {m m1 : ck_H} {Q : ck_H → Prop} (H : HV k m m1) (h1 : 2 ≤ k) (h2 : k < 18) (q : ∀ m', HV (k + 1) m m' → Q m') : wp_X12_half k m1 Q := by
  have t := hf_tab k h2 h1
  unfold wp_X12_half
  rintro _ rfl
  rw [t.2.1]
  refine mm_hf7 t.1 t.2.2 (hf k) 0 lpN m1 (by have := t.2.2; unfold lpN; omega) (by omega) (fun m' e1 e2 _ => q m' ⟨fun a ha => ?_, fun a j a1 a2 hj => ?_⟩)
  · rw [e1 a (by omega), H.1 a (by omega)]
  · by_cases c : a = k
    · subst c; rw [e2 j (by omega) hj, H.1 a (by omega)]
    · rw [e1 a c]; exact H.2 a j a1 (by omega) hj
/-- plan and draft change places -/
def swI (a : Nat) : Nat := if 32 ≤ a ∧ a ≤ 52 then a + 21 else if 53 ≤ a ∧ a ≤ 73 then a - 21 else a
def swH (h : ck_H) : ck_H := (fun a => h.1 (swI a), fun a => h.2 (swI a))
theorem swI_p {a : Nat} (h : 32 ≤ a ∧ a ≤ 52) : swI a = a + 21 := if_pos h
theorem swI_o {a : Nat} (h : a < 32 ∨ 73 < a) : swI a = a := by
  unfold swI; rw [if_neg (by omega), if_neg (by omega)]
theorem swH_p {h : ck_H} {a : Nat} (e : 32 ≤ a ∧ a ≤ 52) : (swH h).1 a = h.1 (a + 21) := by
  show h.1 (swI a) = _; rw [swI_p e]
theorem swH_o {h : ck_H} {a : Nat} (e : a < 32 ∨ 73 < a) : (swH h).1 a = h.1 a := by
  show h.1 (swI a) = _; rw [swI_o e]
theorem rk_sg {k : Nat} (h : 0 < rk k) (n : ¬ k = 31) : ev_sign (nI k) := by
  rcases rk_k h with rfl | rfl | rfl | rfl | rfl | rfl | rfl | rfl | rfl | rfl | rfl | rfl | rfl
  · exact absurd rfl n
  all_goals (unfold ev_sign; decide)
theorem wfl_wf {kd : Nat → Int32} : ∀ (l : List (Nat × Nat)) (i ht : Nat), (∀ j, j < l.length → kd (i + j) = nI (l.getD j (0, 0)).1) → wfl l ht = some 1 → ht + l.length ≤ 64 → ev_wf kd l.length i ht := by
  intro l
  induction l with
  | nil =>
    intro i ht _ e _
    have e : some ht = some 1 := e
    show ht = 1
    exact Option.some.inj e
  | cons x l ih =>
    intro i ht hk e hl
    obtain ⟨k, v⟩ := x
    have hl : ht + (l.length + 1) ≤ 64 := hl
    have k0 : kd i = nI k := hk 0 (Nat.succ_pos _)
    have hk' : ∀ j, j < l.length → kd (i + 1 + j) = nI (l.getD j (0, 0)).1 := fun j hj => by
      have := hk (j + 1) (Nat.succ_lt_succ hj)
      rw [show i + 1 + j = i + (j + 1) by omega, this]
      rfl
    have e2 : (if k = 2 ∨ (32 ≤ k ∧ k ≤ 38) then wfl l (ht + 1) else if k = 31 then (if 1 ≤ ht then wfl l ht else none) else if 0 < rk k then (if 2 ≤ ht then wfl l (ht - 1) else none) else none) = some 1 := e
    show ht < 64 ∧ _
    refine ⟨by omega, ?_⟩
    rw [k0]
    by_cases c1 : k = 2 ∨ (32 ≤ k ∧ k ≤ 38)
    · rw [if_pos c1] at e2
      have w := ih (i + 1) (ht + 1) hk' e2 (by omega)
      rcases c1 with rfl | c1
      · exact Or.inl ⟨rfl, w⟩
      · exact Or.inr (Or.inr (Or.inr ⟨(nI_leI (a := 32) (by omega) (by omega)).mpr c1.1, (nI_leI (b := 38) (by omega) (by omega)).mpr c1.2, w⟩))
    · rw [if_neg c1] at e2
      by_cases c2 : k = 31
      · rw [if_pos c2] at e2
        by_cases c3 : 1 ≤ ht
        · rw [if_pos c3] at e2
          subst c2
          exact Or.inr (Or.inl ⟨rfl, c3, ih (i + 1) ht hk' e2 (by omega)⟩)
        · rw [if_neg c3] at e2; cases e2
      · rw [if_neg c2] at e2
        by_cases c3 : 0 < rk k
        · rw [if_pos c3] at e2
          by_cases c4 : 2 ≤ ht
          · rw [if_pos c4] at e2
            exact Or.inr (Or.inr (Or.inl ⟨rk_sg c3 c2, c4, ih (i + 1) (ht - 1) hk' e2 (by omega)⟩))
          · rw [if_neg c4] at e2; cases e2
        · rw [if_neg c3] at e2; cases e2
