/-! the model's fields of a line -/
def FW (m m' : ck_H) : Prop := (∀ a, a ≠ 0 → m'.1 a = m.1 a) ∧ (∀ i, (i < 22 ∨ 27 < i) → m'.1 0 i = m.1 0 i) ∧ Zk m m'
theorem FW.rf (m : ck_H) : FW m m := ⟨fun _ _ => rfl, fun _ _ => rfl, Zk.rf m⟩
theorem FW.tr {m m1 m2 : ck_H} (a : FW m m1) (c : FW m1 m2) : FW m m2 := ⟨fun x e => (c.1 x e).trans (a.1 x e), fun i e => (c.2.1 i e).trans (a.2.1 i e), a.2.2.tr c.2.2⟩
theorem FW.ft {m m' : ck_H} (f : FT m m') : FW m m' := ⟨f.1, fun i h => f.2 i (by omega), Zk.e (f.2 26 (by omega)) (f.2 27 (by omega))⟩
theorem FW.wr (m : ck_H) {v w : Int32} (hv : ¬ v = 0) : FW m (ck_sI (ck_sI m 0 26 v) 0 27 w) := ⟨fun a h0 => (ck_sI_ne _ _ _ h0).trans (ck_sI_ne _ _ _ h0), fun j hj => (ck_sI_nj _ _ (by omega)).trans (ck_sI_nj _ _ (by omega)), Zk.w (by rw [ck_sI_nj _ _ (by decide), ck_sI_at]; exact hv)⟩
theorem FW.ly {b : Nat → Nat} {n : Nat} {m m' : ck_H} (L : LY b n m) (f : FW m m') : LY b n m' := ⟨L.1, ⟨by rw [f.2.1 21 (by omega)]; exact L.2.1.1, fun z => (f.2.2 z).2.trans (L.2.1.2 (f.2.2 z).1)⟩, by rw [f.1 1 (by decide)]; exact L.2.2⟩
/-- the model holds a token, and no fault -/
def MT (b : Nat → Nat) (n : Nat) (t : Tk) (m : ck_H) : Prop := LY b n m ∧ TV n t ∧ CM' t m ∧ m.1 0 26 = 0
def MFt (f : Nat) (t : Tk) (m : ck_H) : Prop := 1 ≤ f ∧ f ≤ 4 ∧ m.1 0 26 = nI f ∧ m.1 0 27 = nI t.2.2.1
theorem MFt.n0 {f : Nat} {t : Tk} {m : ck_H} (a : MFt f t m) : ¬ m.1 0 26 = 0 := by
  rw [a.2.2.1]
  exact nI_ne0 (by have := a.1; omega) (by have := a.2.1; omega)
theorem MT.nx {b : Nat → Nat} {n : Nat} {t : Tk} {m : ck_H} {Q : ck_H → Prop} (C : MT b n t m) (q : ∀ m', FW m m' → MT b n (nxt b n t) m' → Q m') : wp_X12_token m Q := by
  obtain ⟨L, T, c, e⟩ := C
  exact mm_token L T.1 c.2.2.1 (fun m' f c' => q m' (FW.ft f) ⟨L.ft f, TV.nx L.1 (fun i hi => (L.2.2 i hi).1) T.1, c', by rw [f.2 26 (by omega)]; exact e⟩)
theorem MT.bad {b : Nat → Nat} {n f : Nat} {t : Tk} {m : ck_H} {Q : ck_H → Prop} (C : MT b n t m) (h1 : 1 ≤ f) (h4 : f ≤ 4) (q : ∀ m', FW m m' → MFt f t m' → Q m') : wp_X12_wrong (nI f) m Q := by
  unfold wp_X12_wrong
  refine br_p C.2.2.2 ?_
  rintro _ rfl _ rfl
  refine q _ (FW.wr m (nI_ne0 (by omega) (by omega))) ⟨h1, h4, ?_, ?_⟩
  · rw [ck_sI_nj _ _ (by decide), ck_sI_at]
  · rw [ck_sI_at, ck_sI_nj _ _ (by decide)]; exact C.2.2.1.2.1
theorem mm_wrongF {f : Int32} {m : ck_H} {Q : ck_H → Prop} (e : ¬ m.1 0 26 = 0) (q : Q m) : wp_X12_wrong f m Q := br_n e q
theorem st_tab : ∀ k, k < 39 → (tk_srt k = 2 ↔ k = 2) ∧ (tk_srt k = 1 ↔ k = 3) ∧ tk_srt k < 6 ∧ (tk_srt k = 4 ↔ k = 0) := by decide +kernel
theorem MT.k {b : Nat → Nat} {n : Nat} {t : Tk} {m : ck_H} (C : MT b n t m) : (m.1 0 24 = (2 : Int32) ↔ t.1 = 2) ∧ (m.1 0 24 = (1 : Int32) ↔ t.1 = 3) ∧ (m.1 0 24 = (4 : Int32) ↔ t.1 = 0) := by
  have tb := st_tab t.1 C.2.1.2.2.1
  rw [C.2.2.1.1]
  exact ⟨(nI_eq (b := 2) (by omega) (by omega)).trans tb.1, (nI_eq (b := 1) (by omega) (by omega)).trans tb.2.1, (nI_eq (b := 4) (by omega) (by omega)).trans tb.2.2.2⟩
theorem mm_numF {x1 x2 : Int32} {m : ck_H} {Q : Int32 → ck_H → Prop} (e : ¬ m.1 0 26 = 0) (q : ∀ v, Q v m) : wp_X12_numeral x1 x2 m Q := br_n e (q _)
theorem mm_num {b : Nat → Nat} {n lo hi : Nat} {t : Tk} {m : ck_H} {Q : Int32 → ck_H → Prop} (C : MT b n t m) (hlo : lo < 2 ^ 31) (hhi : hi < 2 ^ 31) (q0 : fNum lo hi t = 0 → ∀ m', FW m m' → MT b n (nxt b n t) m' → Q (nI t.2.1) m') (q1 : ¬ fNum lo hi t = 0 → ∀ v m', FW m m' → MFt (fNum lo hi t) t m' → Q v m') : wp_X12_numeral (nI lo) (nI hi) m Q := by
  have e := C.2.2.2
  have T := C.2.1
  have kk := C.k
  unfold wp_X12_numeral
  refine br_p e ?_
  by_cases c2 : t.1 = 2
  · refine br_p (kk.1.mpr c2) ?_
    have e25 : m.1 0 25 = nI t.2.1 := C.2.2.1.2.2.2.1 (Or.inl c2)
    have ef : fNum lo hi t = if t.2.1 < lo ∨ hi < t.2.1 then 2 else 0 := by unfold fNum; rw [if_neg (fun z => z c2)]
    rw [e25]
    have il : nI t.2.1 < nI lo ↔ t.2.1 < lo := nI_ltI T.2.2.2.1 hlo
    have ih : nI t.2.1 ≤ nI hi ↔ t.2.1 ≤ hi := nI_leI T.2.2.2.1 hhi
    have b2 : (t.2.1 < lo ∨ hi < t.2.1) → wp_X12_numeral_41 Q (nI lo) m := by
      intro z
      rw [if_pos z] at ef
      unfold wp_X12_numeral_41
      refine C.bad (f := 2) (by omega) (by omega) (fun m1 f1 B => ?_)
      unfold wp_X12_numeral_46
      exact br_n B.n0 (q1 (by omega) _ _ f1 (ef.symm ▸ B))
    refine ⟨fun z => b2 (Or.inl (il.mp z)), fun z1 => ⟨fun z => ?_, fun z => b2 (Or.inr ?_)⟩⟩
    · have a1 := ih.mp z
      have a2 : ¬ t.2.1 < lo := fun y => z1 (il.mpr y)
      rw [if_neg (by omega)] at ef
      unfold wp_X12_numeral_46
      refine br_p e ?_
      rintro _ rfl
      rw [e25]
      exact C.nx (fun m' f' c' => q0 ef m' f' c')
    · have : ¬ t.2.1 ≤ hi := fun y => z (ih.mpr y)
      omega
  · refine br_n (fun z => c2 (kk.1.mp z)) (C.bad (f := 1) (by omega) (by omega) (fun m1 f1 B => ?_))
    have ef : fNum lo hi t = 1 := by unfold fNum; rw [if_pos c2]
    unfold wp_X12_numeral_46
    exact br_n B.n0 (q1 (by omega) _ _ f1 (ef.symm ▸ B))
theorem mm_freshF {o : Nat} {x1 x2 : Int32} {m : ck_H} {Q : Int32 → ck_H → Prop} (e : ¬ m.1 0 26 = 0) (q : ∀ v, Q v m) : wp_X12_fresh o x1 x2 m Q := br_n e (q _)
theorem mm_fresh {b : Nat → Nat} {n o a c : Nat} {t : Tk} {m : ck_H} {Q : Int32 → ck_H → Prop} {g : Nat → Int32} (C : MT b n t m) (hl : a + c ≤ ck_ln ck_shM o) (h2 : ck_ln ck_shM o < 1000) (eg : ∀ j, j < c → g j = m.1 o (a + j)) (q0 : fNew g c t = 0 → ∀ m', FW m m' → MT b n (nxt b n t) m' → Q (nI t.2.1) m') (q1 : ¬ fNew g c t = 0 → ∀ v m', FW m m' → MFt (fNew g c t) t m' → Q v m') : wp_X12_fresh o (nI a) (nI c) m Q := by
  have e := C.2.2.2
  have kk := C.k
  unfold wp_X12_fresh
  refine br_p e ?_
  by_cases c3 : t.1 = 3
  · refine br_p (kk.2.1.mpr c3) ?_
    have e25 : m.1 0 25 = nI t.2.1 := C.2.2.1.2.2.2.1 (Or.inr c3)
    have ef : fNew g c t = if fi g (nI t.2.1) c 0 = -1 then 0 else 3 := by unfold fNew; rw [if_neg (fun z => z c3)]
    rw [e25]
    refine mm_found hl h2 ?_
    rw [← fi_eq (f := g) c 0 (fun j _ hj => eg j (by omega))]
    refine ⟨fun z => ?_, fun z => C.bad (f := 3) (by omega) (by omega) (fun m1 f1 B => ?_)⟩
    · rw [if_pos z] at ef
      unfold wp_X12_fresh_44
      refine br_p e ?_
      rintro _ rfl
      rw [e25]
      exact C.nx (fun m' f' c' => q0 ef m' f' c')
    · rw [if_neg z] at ef
      unfold wp_X12_fresh_44
      exact br_n B.n0 (q1 (by omega) _ _ f1 (ef.symm ▸ B))
  · refine br_n (fun z => c3 (kk.2.1.mp z)) (C.bad (f := 1) (by omega) (by omega) (fun m1 f1 B => ?_))
    have ef : fNew g c t = 1 := by unfold fNew; rw [if_pos c3]
    unfold wp_X12_fresh_44
    exact br_n B.n0 (q1 (by omega) _ _ f1 (ef.symm ▸ B))
theorem mm_toldF {o : Nat} {x1 x2 : Int32} {m : ck_H} {Q : Int32 → ck_H → Prop} (e : ¬ m.1 0 26 = 0) (q : ∀ v, Q v m) : wp_X12_toldAhead o x1 x2 m Q := br_n e (q _)
theorem mm_told {b : Nat → Nat} {n o a c : Nat} {t : Tk} {m : ck_H} {Q : Int32 → ck_H → Prop} {g : Nat → Int32} (C : MT b n t m) (hl : a + c ≤ ck_ln ck_shM o) (h2 : ck_ln ck_shM o < 1000) (eg : ∀ j, j < c → g j = m.1 o (a + j)) (q0 : fTold g c t = 0 → ∀ m', FW m m' → MT b n (nxt b n t) m' → Q (fi g (nI t.2.1) c 0) m') (q1 : ¬ fTold g c t = 0 → ∀ v m', FW m m' → MFt (fTold g c t) t m' → Q v m') : wp_X12_toldAhead o (nI a) (nI c) m Q := by
  have e := C.2.2.2
  have kk := C.k
  unfold wp_X12_toldAhead
  refine br_p e ?_
  have bad : ∀ f (y : Int32) m1, 1 ≤ f → f ≤ 4 → fTold g c t = f → FW m m1 → MFt f t m1 → wp_X12_toldAhead_63 Q o y m1 := by
    intro f y m1 h1 h4 ef f1 B
    unfold wp_X12_toldAhead_63
    exact mm_goOnF B.n0 (br_n B.n0 (q1 (by omega) _ _ f1 (ef.symm ▸ B)))
  by_cases c3 : t.1 = 3
  · refine br_p (kk.2.1.mpr c3) ?_
    have e25 : m.1 0 25 = nI t.2.1 := C.2.2.1.2.2.2.1 (Or.inr c3)
    have ef : fTold g c t = if fi g (nI t.2.1) c 0 = -1 then 4 else 0 := by unfold fTold; rw [if_neg (fun z => z c3)]
    unfold wp_X12_toldAhead_22
    rw [e25]
    refine br_q e (mm_found hl h2 ?_)
    rw [← fi_eq (f := g) c 0 (fun j _ hj => eg j (by omega))]
    unfold wp_X12_toldAhead_43
    refine br_q e ⟨fun z => ?_, fun z => C.bad (f := 4) (by omega) (by omega) (fun m1 f1 B => ?_)⟩
    · rw [if_neg z] at ef
      unfold wp_X12_toldAhead_63 wp_X12_goOn
      exact br_q e (C.nx (fun m' f' c' => br_p c'.2.2.2 (q0 ef m' f' c')))
    · rw [if_pos z] at ef
      exact bad 4 _ m1 (by omega) (by omega) ef f1 B
  · refine br_n (fun z => c3 (kk.2.1.mp z)) (C.bad (f := 1) (by omega) (by omega) (fun m1 f1 B => ?_))
    have ef : fTold g c t = 1 := by unfold fTold; rw [if_pos c3]
    unfold wp_X12_toldAhead_22
    refine br_m B.n0 ?_
    unfold wp_X12_toldAhead_43
    exact br_m B.n0 (bad 1 _ m1 (by omega) (by omega) ef f1 B)
