/-! lines: the model -/
def lk : List (Nat × Nat × Int32) → Nat → Nat → Option Int32
  | [], _, _ => none
  | (a', i', v) :: l, a, i => if a = a' ∧ i = i' then some v else lk l a i
/-- what has been written, the token's own fields aside -/
def UPD (m m' : ck_H) (l : List (Nat × Nat × Int32)) : Prop := ∀ a i, ¬ (a = 0 ∧ 22 ≤ i ∧ i ≤ 27) → m'.1 a i = (lk l a i).getD (m.1 a i)
theorem UPD.rf (m : ck_H) : UPD m m [] := fun _ _ _ => rfl
theorem UPD.fw {m m1 m2 : ck_H} {l : List (Nat × Nat × Int32)} (u : UPD m m1 l) (f : FW m1 m2) : UPD m m2 l := fun a i h => by
  rw [← u a i h]
  by_cases c : a = 0
  · subst c; exact f.2.1 i (by omega)
  · rw [f.1 a c]
theorem UPD.set {m m1 : ck_H} {l : List (Nat × Nat × Int32)} {a i : Nat} {v : Int32} (u : UPD m m1 l) : UPD m (ck_sI m1 a i v) ((a, i, v) :: l) := fun a' i' h => by
  show _ = (if a' = a ∧ i' = i then some v else lk l a' i').getD _
  by_cases c : a' = a ∧ i' = i
  · rw [if_pos c, c.1, c.2, ck_sI_at]; rfl
  · rw [if_neg c, ← u a' i' h]
    by_cases ca : a' = a
    · subst ca
      exact ck_sI_nj _ _ (fun z => c ⟨rfl, z⟩)
    · rw [ck_sI_ne _ _ _ ca]
def hf (a : Nat) : Nat := if a = 2 then 7 else if a ≤ 5 then 4 else if a ≤ 9 then 6 else if a ≤ 13 then 10 else if a ≤ 15 then 3 else 64
def alw (a i : Nat) : Prop := (a = 0 ∧ (i = 19 ∨ i = 20 ∨ i = 30 ∨ i = 31)) ∨ (2 ≤ a ∧ a ≤ 17 ∧ hf a ≤ i)
/-- what a text that is being read leaves as it was -/
def FU (m m' : ck_H) : Prop := ∀ a i, ¬ (a = 0 ∧ 22 ≤ i ∧ i ≤ 27) → ¬ alw a i → m'.1 a i = m.1 a i
theorem FU.rf (m : ck_H) : FU m m := fun _ _ _ _ => rfl
theorem FU.tr {m m1 m2 : ck_H} (f : FU m m1) (g : FU m1 m2) : FU m m2 := fun a i h1 h2 => (g a i h1 h2).trans (f a i h1 h2)
theorem FU.fw {m m' : ck_H} (f : FW m m') : FU m m' := fun a i h _ => by
  by_cases c : a = 0
  · subst c; exact f.2.1 i (by omega)
  · rw [f.1 a c]
theorem FU.set (m : ck_H) {a i : Nat} (v : Int32) (h : alw a i) : FU m (ck_sI m a i v) := fun a' i' _ h2 => by
  by_cases ca : a' = a
  · subst ca
    exact ck_sI_nj _ _ (fun z => h2 (z ▸ h))
  · rw [ck_sI_ne _ _ _ ca]
theorem al {a i : Nat} (h1 : 2 ≤ a) (h2 : a ≤ 17) (h3 : hf a ≤ i) : alw a i := Or.inr ⟨h1, h2, h3⟩
theorem MT.set {b : Nat → Nat} {n a i : Nat} {v : Int32} {t : Tk} {m : ck_H} (C : MT b n t m) (h : alw a i) : MT b n t (ck_sI m a i v) := by
  obtain ⟨L, T, c, e⟩ := C
  have g : ∀ a' i', ¬ alw a' i' → (ck_sI m a i v).1 a' i' = m.1 a' i' := fun a' i' h2 => by
    by_cases ca : a' = a
    · subst ca
      exact ck_sI_nj _ _ (fun z => h2 (z ▸ h))
    · rw [ck_sI_ne _ _ _ ca]
  have g0 : ∀ i', ¬ (i' = 19 ∨ i' = 20 ∨ i' = 30 ∨ i' = 31) → ¬ alw 0 i' := fun i' z y => by
    unfold alw at y; omega
  refine ⟨⟨L.1, by rw [g 0 21 (g0 21 (by omega)), g 0 26 (g0 26 (by omega)), g 0 27 (g0 27 (by omega))]; exact L.2.1, fun j hj => ?_⟩, T, c.ft (fun j h1 h2 => g 0 j (g0 j (by omega))), by rw [g 0 26 (g0 26 (by omega))]; exact e⟩
  rw [g 1 j (by unfold alw; omega)]
  exact L.2.2 j hj
theorem MFt.set {f a i : Nat} {v : Int32} {t : Tk} {m : ck_H} (C : MFt f t m) (h : alw a i) : MFt f t (ck_sI m a i v) := by
  have g : ∀ i', 22 ≤ i' → i' ≤ 27 → (ck_sI m a i v).1 0 i' = m.1 0 i' := fun i' h1 h2 => by
    by_cases ca : a = 0
    · subst ca
      refine ck_sI_nj _ _ (fun z => ?_)
      unfold alw at h
      omega
    · exact congrFun (ck_sI_ne _ _ _ (fun z => ca z.symm)) i'
  exact ⟨C.1, C.2.1, by rw [g 26 (by omega) (by omega)]; exact C.2.2.1, by rw [g 27 (by omega) (by omega)]; exact C.2.2.2⟩
theorem ln438F {Q : ck_H → Prop} {m : ck_H} (e : ¬ m.1 0 26 = 0) (q : Q m) : wp_X12_line_438 Q m := br_n e q
/-- what follows a fault in a judge's line -/
theorem mm_judge {b : Nat → Nat} {n J : Nat} {t : Tk} {m : ck_H} {Q : ck_H → Prop} {g : Nat → Int32} (C : MT b n t m) (hJ : J < 4) (eJ : m.1 2 7 = nI J) (eg : ∀ j, j < J → g j = m.1 3 (4 + j))
    (q0 : (frun (nxt b n) [fNew g J, fNum 1 99, fNum 0 9] (nxt b n t)).1 = 0 → ∀ m', UPD m m' [(2, 7, nI (J + 1)), (5, 4 + J, nI (nxt b n (nxt b n (nxt b n t))).2.1), (4, 4 + J, nI (nxt b n (nxt b n t)).2.1), (3, 4 + J, nI (nxt b n t).2.1), (0, 19, m.1 0 19 ||| ((1 : Int32) <<< (nI 0 &&& 31)))] → MT b n (nxt b n (nxt b n (nxt b n (nxt b n t)))) m' → wp_X12_line_438 Q m')
    (q1 : ¬ (frun (nxt b n) [fNew g J, fNum 1 99, fNum 0 9] (nxt b n t)).1 = 0 → ∀ m', FU m m' → MFt (frun (nxt b n) [fNew g J, fNum 1 99, fNum 0 9] (nxt b n t)).1 (frun (nxt b n) [fNew g J, fNum 1 99, fNum 0 9] (nxt b n t)).2 m' → Q m') : wp_X12_line_70 Q (nI 0) m := by
  have in8 : vp_in (nI (4 + J)) 8 := pu_in (by omega) (by decide)
  have a19 : alw 0 19 := Or.inl ⟨rfl, Or.inl rfl⟩
  have a3 : alw 3 (4 + J) := al (by omega) (by omega) (by show 4 ≤ 4 + J; omega)
  have a4 : alw 4 (4 + J) := al (by omega) (by omega) (by show 4 ≤ 4 + J; omega)
  have a5 : alw 5 (4 + J) := al (by omega) (by omega) (by show 4 ≤ 4 + J; omega)
  have a27 : alw 2 7 := al (by omega) (by omega) (by show 7 ≤ 7; omega)
  have a4J : (4 : Int32) + nI J = nI (4 + J) := nI_add 4 J
  have c4J : (nI (4 + J)).toNatClampNeg = 4 + J := nI_clamp (n := 4 + J) (by omega)
  unfold wp_X12_line_70
  refine br_p C.2.2.2 ?_
  rintro _ rfl
  refine (C.set a19).nx (fun m1 f1 C1 => br_p rfl ?_)
  have U1 := ((UPD.rf m).set (a := 0) (i := 19) (v := m.1 0 19 ||| ((1 : Int32) <<< (nI 0 &&& 31)))).fw f1
  have F1 : FU m m1 := (FU.set m _ a19).tr (FU.fw f1)
  have e1 : m1.1 2 7 = nI J := (U1 2 7 (by omega)).trans eJ
  have tF3 : ∀ f tt, (∀ m', FU m m' → MFt f tt m' → Q m') → ∀ m3 v, FU m m3 → MFt f tt m3 → (vp_in (nI (4 + J)) 8 ∧ ∀ h29, h29 = ck_sI m3 5 (4 + J) v → wp_X12_fresher 0 h29 (fun r31 h30 => wp_X12_reads 0 (r31 + 1) h30 (fun h32 => wp_X12_line_438 Q h32))) := by
    intro f tt qf m3 v F B
    refine ⟨in8, ?_⟩
    rintro _ rfl
    refine mm_fr (i := 0) (by omega) (mm_rd (i := 0) (by omega) (ln438F ((B.set a5).set a27).n0 (qf _ ((F.tr (FU.set _ _ a5)).tr (FU.set _ _ a27)) ((B.set a5).set a27))))
  have tF2 : ∀ f tt, (∀ m', FU m m' → MFt f tt m' → Q m') → ∀ m3 v, FU m m3 → MFt f tt m3 → (vp_in (nI (4 + J)) 8 ∧ ∀ h25, h25 = ck_sI m3 4 (4 + J) v → wp_X12_numeral 0 9 h25 (fun r27 h26 => (vp_in (nI (4 + J)) 8 ∧ ∀ h29, h29 = ck_sI h26 5 (4 + J) r27 → wp_X12_fresher 0 h29 (fun r31 h30 => wp_X12_reads 0 (r31 + 1) h30 (fun h32 => wp_X12_line_438 Q h32))))) := by
    intro f tt qf m3 v F B
    refine ⟨in8, ?_⟩
    rintro _ rfl
    exact mm_numF (B.set a4).n0 (fun w => tF3 f tt qf _ w (F.tr (FU.set _ _ a4)) (B.set a4))
  refine mm_fr (i := 0) (by omega) ?_
  rw [show m1.1 2 (7 + 0) = nI J from e1, a4J]
  rintro _ rfl
  rw [c4J]
  refine mm_fr (i := 0) (by omega) ?_
  rw [show m1.1 2 (7 + 0) = nI J from e1]
  refine mm_fresh (o := 3) (a := 4) (c := J) (g := g) C1 (by show 4 + J ≤ 8; omega) (by show 8 < 1000; omega) (fun j hj => (eg j hj).trans (U1 3 (4 + j) (by omega)).symm) (fun z m2 f2 C2 => ?_) (fun z v m2 f2 B => ?_)
  · rw [frun_0 z] at q0 q1
    refine ⟨in8, ?_⟩
    rintro _ rfl
    have U2 := (U1.fw f2).set (a := 3) (i := 4 + J) (v := nI (nxt b n t).2.1)
    have F2 := F1.tr ((FU.fw f2).tr (FU.set m2 (nI (nxt b n t).2.1) a3))
    have C2' := C2.set (v := nI (nxt b n t).2.1) a3
    refine mm_num (lo := 1) (hi := 99) C2' (by omega) (by omega) (fun z m3 f3 C3 => ?_) (fun z v m3 f3 B => ?_)
    · rw [frun_0 z] at q0 q1
      refine ⟨in8, ?_⟩
      rintro _ rfl
      have U3 := (U2.fw f3).set (a := 4) (i := 4 + J) (v := nI (nxt b n (nxt b n t)).2.1)
      have F3 := F2.tr ((FU.fw f3).tr (FU.set m3 (nI (nxt b n (nxt b n t)).2.1) a4))
      have C3' := C3.set (v := nI (nxt b n (nxt b n t)).2.1) a4
      refine mm_num (lo := 0) (hi := 9) C3' (by omega) (by omega) (fun z m4 f4 C4 => ?_) (fun z v m4 f4 B => ?_)
      · rw [frun_0 z] at q0
        refine ⟨in8, ?_⟩
        rintro _ rfl
        have U4 := (U3.fw f4).set (a := 5) (i := 4 + J) (v := nI (nxt b n (nxt b n (nxt b n t))).2.1)
        have C4' := C4.set (v := nI (nxt b n (nxt b n (nxt b n t))).2.1) a5
        refine mm_fr (i := 0) (by omega) (mm_rd (i := 0) (by omega) ?_)
        have e4 : (ck_sI m4 5 (4 + J) (nI (nxt b n (nxt b n (nxt b n t))).2.1)).1 2 (7 + 0) = nI J := (U4 2 7 (by omega)).trans eJ
        rw [e4, nI_1]
        exact q0 rfl _ (U4.set (a := 2) (i := 7)) (C4'.set a27)
      · rw [frun_1 z] at q1
        exact tF3 _ _ (q1 z) m4 v (F3.tr (FU.fw f4)) B
    · rw [frun_1 z] at q1
      exact tF2 _ _ (q1 z) m3 v (F2.tr (FU.fw f3)) B
  · rw [frun_1 z] at q1
    refine ⟨in8, ?_⟩
    rintro _ rfl
    exact mm_numF (B.set a3).n0 (fun w => tF2 _ _ (q1 z) _ w ((F1.tr (FU.fw f2)).tr (FU.set m2 v a3)) (B.set a3))
