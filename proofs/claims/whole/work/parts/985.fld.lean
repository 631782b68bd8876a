/-! the fields of a line -/
def fNum (lo hi : Nat) (t : Tk) : Nat := if ¬ t.1 = 2 then 1 else if t.2.1 < lo ∨ hi < t.2.1 then 2 else 0
def fNew (g : Nat → Int32) (c : Nat) (t : Tk) : Nat := if ¬ t.1 = 3 then 1 else if fi g (nI t.2.1) c 0 = -1 then 0 else 3
def fTold (g : Nat → Int32) (c : Nat) (t : Tk) : Nat := if ¬ t.1 = 3 then 1 else if fi g (nI t.2.1) c 0 = -1 then 4 else 0
/-- the class holds a token, and no fault -/
def CT (b : Nat → Nat) (n : Nat) (t : Tk) (h : ck_H) : Prop := LX b n h ∧ TV n t ∧ (¬ t.1 = 0 → t.2.2.1 < t.2.2.2) ∧ CX t h ∧ h.1 2 2 = 0
def CFt (f : Nat) (t : Tk) (h : ck_H) : Prop := 1 ≤ f ∧ f ≤ 4 ∧ h.1 2 2 = nI f ∧ h.1 3 5 = nI t.2.2.1
theorem CFt.n0 {f : Nat} {t : Tk} {h : ck_H} (a : CFt f t h) : ¬ h.1 2 2 = 0 := by
  rw [a.2.2.1]
  exact nI_ne0 (by have := a.1; omega) (by have := a.2.1; omega)
def FF (h h' : ck_H) : Prop := (∀ a, a ≠ 2 → a ≠ 3 → h'.1 a = h.1 a) ∧ h'.1 3 2 = h.1 3 2 ∧ (∀ i, i ≠ 2 → h'.1 2 i = h.1 2 i) ∧ h'.2 = h.2
theorem FF.rf (h : ck_H) : FF h h := ⟨fun _ _ _ => rfl, rfl, fun _ _ => rfl, rfl⟩
theorem FF.tr {h h1 h2 : ck_H} (a : FF h h1) (c : FF h1 h2) : FF h h2 := ⟨fun x e1 e2 => (c.1 x e1 e2).trans (a.1 x e1 e2), c.2.1.trans a.2.1, fun i hi => (c.2.2.1 i hi).trans (a.2.2.1 i hi), c.2.2.2.trans a.2.2.2⟩
theorem FF.fs {h h' : ck_H} (f : FS h h') : FF h h' := ⟨fun a _ h3 => f.1 a h3, f.2.1, fun i _ => by rw [f.1 2 (by decide)], f.2.2⟩
theorem FF.s (h : ck_H) (v : Int32) : FF h (ck_sI h 2 2 v) := ⟨fun a h2 _ => ck_sI_ne _ _ _ h2, by rw [ck_sI_ne _ _ _ (by decide)], fun i hi => ck_sI_nj _ _ hi, rfl⟩
theorem FF.lx {b : Nat → Nat} {n : Nat} {h h' : ck_H} (L : LX b n h) (f : FF h h') : LX b n h' := ⟨L.1, by rw [f.2.1]; exact L.2.1, by rw [f.1 1 (by decide) (by decide)]; exact L.2.2.1, by rw [f.1 4 (by decide) (by decide)]; exact L.2.2.2⟩
theorem CT.nx {b : Nat → Nat} {n : Nat} {t : Tk} {h : ck_H} {Q : ck_H → Prop} (C : CT b n t h) (q : ∀ h', FF h h' → CT b n (nxt b n t) h' → Q h') : wp_X8_next h Q := by
  obtain ⟨L, T, hp, c, e⟩ := C
  have hb : ∀ i, i < n → b i < 256 := fun i hi => (L.2.2.1 i hi).1
  exact tx_next L T.1 c.2.2.1 (fun h' f c' => q h' (FF.fs f) ⟨(FF.fs f).lx L, TV.nx L.1 hb T.1, (tk_A_le (b := b) hb T.1).2.2.2.2.2.1, c', by rw [f.1 2 (by decide)]; exact e⟩)
theorem CT.bad {b : Nat → Nat} {n f : Nat} {t : Tk} {h : ck_H} (C : CT b n t h) (h1 : 1 ≤ f) (h4 : f ≤ 4) : CFt f t (ck_sI h 2 2 (nI f)) := ⟨h1, h4, ck_sI_at .., by rw [ck_sI_ne _ _ _ (by decide)]; exact C.2.2.2.1.2.1⟩
theorem tx_word {b : Nat → Nat} {n f : Nat} {t : Tk} {h : ck_H} {Q : ck_H → Prop} (C : CT b n t h) (h4 : f ≤ 4) (q0 : f = 0 → ∀ h', FF h h' → CT b n (nxt b n t) h' → Q h') (q1 : ¬ f = 0 → ∀ h', FF h h' → CFt f t h' → Q h') : wp_X9_takeWord (nI f) h Q := by
  unfold wp_X9_takeWord
  rintro _ rfl
  rw [ck_sI_at]
  by_cases c0 : f = 0
  · subst c0
    refine br_q rfl ?_
    have C' : CT b n t (ck_sI h 2 2 (nI 0)) := ⟨(FF.s h _).lx C.1, C.2.1, C.2.2.1, C.2.2.2.1.of (ck_sI_ne _ _ _ (by decide)), ck_sI_at ..⟩
    exact C'.nx (fun h' f' c' => q0 rfl h' ((FF.s h _).tr f') c')
  · exact br_m (nI_ne0 (by omega) (by omega)) (q1 c0 _ (FF.s h _) (C.bad (by omega) h4))
theorem tx_numF {x1 x2 : Int32} {h : ck_H} {Q : Int32 → ck_H → Prop} (e : ¬ h.1 2 2 = 0) (q : ∀ v, Q v h) : wp_X9_takeNumber x1 x2 h Q := by
  unfold wp_X9_takeNumber
  rintro _ rfl
  refine br_m e ?_
  unfold wp_X9_takeNumber_31
  refine br_m e ?_
  unfold wp_X9_takeNumber_53
  exact br_m e (q _)
theorem tx_num {b : Nat → Nat} {n lo hi : Nat} {t : Tk} {h : ck_H} {Q : Int32 → ck_H → Prop} (C : CT b n t h) (hlo : lo < 2 ^ 31) (hhi : hi < 2 ^ 31) (q0 : fNum lo hi t = 0 → t.2.1 ≤ hi → ∀ h', FF h h' → CT b n (nxt b n t) h' → Q (nI t.2.1) h') (q1 : ¬ fNum lo hi t = 0 → ∀ v h', FF h h' → CFt (fNum lo hi t) t h' → Q v h') : wp_X9_takeNumber (nI lo) (nI hi) h Q := by
  have e := C.2.2.2.2
  have T := C.2.1
  have e34 : h.1 3 4 = nI t.1 := C.2.2.2.1.1
  have i2 : nI t.1 = (2 : Int32) ↔ t.1 = 2 := nI_eq (b := 2) (by have := T.2.2.1; omega) (by omega)
  unfold wp_X9_takeNumber
  rintro _ rfl
  refine br_q e ?_
  rw [e34]
  have bad : ∀ f (v : Int32), 1 ≤ f → f ≤ 4 → fNum lo hi t = f → wp_X9_takeNumber_53 Q v (ck_sI h 2 2 (nI f)) := by
    intro f v h1 h4 ef
    have B := C.bad h1 h4
    unfold wp_X9_takeNumber_53
    exact br_m B.n0 (q1 (by omega) v _ (FF.s h _) (ef.symm ▸ B))
  by_cases c2 : t.1 = 2
  · refine br_p (i2.mpr c2) ?_
    have e36 : h.1 3 6 = nI t.2.1 := C.2.2.2.1.2.2.2.1 c2
    have ef : fNum lo hi t = if t.2.1 < lo ∨ hi < t.2.1 then 2 else 0 := by unfold fNum; rw [if_neg (fun z => z c2)]
    unfold wp_X9_takeNumber_31
    refine br_q e ?_
    rw [e36]
    have il : nI t.2.1 < nI lo ↔ t.2.1 < lo := nI_ltI T.2.2.2.1 hlo
    have ih : nI t.2.1 ≤ nI hi ↔ t.2.1 ≤ hi := nI_leI T.2.2.2.1 hhi
    have b2 : (t.2.1 < lo ∨ hi < t.2.1) → wp_X9_takeNumber_48 Q (nI t.2.1) h := by
      intro z
      rw [if_pos z] at ef
      unfold wp_X9_takeNumber_48
      rintro _ rfl
      exact bad 2 _ (by omega) (by omega) ef
    refine ⟨fun z => b2 (Or.inl (il.mp z)), fun z1 => ⟨fun z => ?_, fun z => b2 (Or.inr ?_)⟩⟩
    · have a1 := ih.mp z
      have a2 : ¬ t.2.1 < lo := fun y => z1 (il.mpr y)
      rw [if_neg (by omega)] at ef
      unfold wp_X9_takeNumber_53
      exact br_q e (C.nx (fun h' f' c' => q0 ef a1 h' f' c'))
    · have : ¬ t.2.1 ≤ hi := fun y => z (ih.mpr y)
      omega
  · refine br_n (fun z => c2 (i2.mp z)) ?_
    rintro _ rfl
    have ef : fNum lo hi t = 1 := by unfold fNum; rw [if_pos c2]
    have B := C.bad (f := 1) (by omega) (by omega)
    unfold wp_X9_takeNumber_31
    exact br_m B.n0 (bad 1 _ (by omega) (by omega) ef)
theorem tx_newF {o : Nat} {h : ck_H} {Q : Int32 → ck_H → Prop} (e : ¬ h.1 2 2 = 0) (q : ∀ v, Q v h) : wp_X9_takeNewName o h Q := by
  unfold wp_X9_takeNewName
  rintro _ rfl
  refine br_m e ?_
  unfold wp_X9_takeNewName_31
  refine br_m e ?_
  unfold wp_X9_takeNewName_52
  exact br_m e (q _)
theorem tx_new {b : Nat → Nat} {n o c : Nat} {t : Tk} {h : ck_H} {Q : Int32 → ck_H → Prop} (C : CT b n t h) (hl : c ≤ ck_ln ck_shX (o + 1)) (h2 : ck_ln ck_shX (o + 1) < 1000) (ec : h.1 o 1 = nI c) (q0 : fNew (h.1 (o + 1)) c t = 0 → ∀ h', FF h h' → CT b n (nxt b n t) h' → Q (nI t.2.1) h') (q1 : ¬ fNew (h.1 (o + 1)) c t = 0 → ∀ v h', FF h h' → CFt (fNew (h.1 (o + 1)) c t) t h' → Q v h') : wp_X9_takeNewName o h Q := by
  have e := C.2.2.2.2
  have T := C.2.1
  have e34 : h.1 3 4 = nI t.1 := C.2.2.2.1.1
  have i3 : nI t.1 = (3 : Int32) ↔ t.1 = 3 := nI_eq (b := 3) (by have := T.2.2.1; omega) (by omega)
  unfold wp_X9_takeNewName
  rintro _ rfl
  refine br_q e ?_
  rw [e34]
  have bad : ∀ f (v : Int32), 1 ≤ f → f ≤ 4 → fNew (h.1 (o + 1)) c t = f → wp_X9_takeNewName_52 Q o v (ck_sI h 2 2 (nI f)) := by
    intro f v h1 h4 ef
    have B := C.bad h1 h4
    unfold wp_X9_takeNewName_52
    exact br_m B.n0 (q1 (by omega) v _ (FF.s h _) (ef.symm ▸ B))
  by_cases c3 : t.1 = 3
  · refine br_p (i3.mpr c3) ?_
    have e37 : h.1 3 7 = nI t.2.1 := C.2.2.2.1.2.2.2.2 c3
    have ef : fNew (h.1 (o + 1)) c t = if fi (h.1 (o + 1)) (nI t.2.1) c 0 = -1 then 0 else 3 := by unfold fNew; rw [if_neg (fun z => z c3)]
    rw [e37]
    unfold wp_X9_takeNewName_31
    refine br_q e (tx_find hl h2 ec ⟨fun z => ?_, fun z => ?_⟩)
    · rw [if_pos z] at ef
      unfold wp_X9_takeNewName_52
      exact br_q e (C.nx (fun h' f' c' => q0 ef h' f' c'))
    · rw [if_neg z] at ef
      rintro _ rfl
      exact bad 3 _ (by omega) (by omega) ef
  · refine br_n (fun z => c3 (i3.mp z)) ?_
    rintro _ rfl
    have ef : fNew (h.1 (o + 1)) c t = 1 := by unfold fNew; rw [if_pos c3]
    have B := C.bad (f := 1) (by omega) (by omega)
    unfold wp_X9_takeNewName_31
    exact br_m B.n0 (bad 1 _ (by omega) (by omega) ef)
theorem tx_toldF {o c : Nat} {h : ck_H} {Q : Int32 → ck_H → Prop} (hl : c ≤ ck_ln ck_shX (o + 1)) (h2 : ck_ln ck_shX (o + 1) < 1000) (ec : h.1 o 1 = nI c) (e : ¬ h.1 2 2 = 0) (q : ∀ v, Q v h) : wp_X9_takeToldName o h Q := by
  unfold wp_X9_takeToldName
  refine tx_find hl h2 ec (br_m e ?_)
  unfold wp_X9_takeToldName_35
  refine br_m e ?_
  unfold wp_X9_takeToldName_52
  exact br_m e (q _)
theorem tx_told {b : Nat → Nat} {n o c : Nat} {t : Tk} {h : ck_H} {Q : Int32 → ck_H → Prop} (C : CT b n t h) (hl : c ≤ ck_ln ck_shX (o + 1)) (h2 : ck_ln ck_shX (o + 1) < 1000) (ec : h.1 o 1 = nI c) (q0 : fTold (h.1 (o + 1)) c t = 0 → ¬ fi (h.1 (o + 1)) (nI t.2.1) c 0 = -1 → ∀ h', FF h h' → CT b n (nxt b n t) h' → Q (fi (h.1 (o + 1)) (nI t.2.1) c 0) h') (q1 : ¬ fTold (h.1 (o + 1)) c t = 0 → ∀ v h', FF h h' → CFt (fTold (h.1 (o + 1)) c t) t h' → Q v h') : wp_X9_takeToldName o h Q := by
  have e := C.2.2.2.2
  have T := C.2.1
  have e34 : h.1 3 4 = nI t.1 := C.2.2.2.1.1
  have i3 : nI t.1 = (3 : Int32) ↔ t.1 = 3 := nI_eq (b := 3) (by have := T.2.2.1; omega) (by omega)
  have bad : ∀ f (v : Int32), 1 ≤ f → f ≤ 4 → fTold (h.1 (o + 1)) c t = f → wp_X9_takeToldName_52 Q o v (ck_sI h 2 2 (nI f)) := by
    intro f v h1 h4 ef
    have B := C.bad h1 h4
    unfold wp_X9_takeToldName_52
    exact br_m B.n0 (q1 (by omega) v _ (FF.s h _) (ef.symm ▸ B))
  unfold wp_X9_takeToldName
  refine tx_find hl h2 ec (br_q e ?_)
  rw [e34]
  by_cases c3 : t.1 = 3
  · refine br_p (i3.mpr c3) ?_
    have e37 : h.1 3 7 = nI t.2.1 := C.2.2.2.1.2.2.2.2 c3
    have ef : fTold (h.1 (o + 1)) c t = if fi (h.1 (o + 1)) (nI t.2.1) c 0 = -1 then 4 else 0 := by unfold fTold; rw [if_neg (fun z => z c3)]
    rw [e37]
    unfold wp_X9_takeToldName_35
    refine br_q e ⟨fun z => ?_, fun z => ?_⟩
    · rw [if_neg z] at ef
      unfold wp_X9_takeToldName_52
      exact br_q e (C.nx (fun h' f' c' => q0 ef z h' f' c'))
    · rw [if_pos z] at ef
      rintro _ rfl
      exact bad 4 _ (by omega) (by omega) ef
  · refine br_n (fun z => c3 (i3.mp z)) ?_
    rintro _ rfl
    have ef : fTold (h.1 (o + 1)) c t = 1 := by unfold fTold; rw [if_pos c3]
    have B := C.bad (f := 1) (by omega) (by omega)
    unfold wp_X9_takeToldName_35
    exact br_m B.n0 (bad 1 _ (by omega) (by omega) ef)
