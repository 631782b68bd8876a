theorem mm_nut {b : Nat → Nat} {n J : Nat} {t : Tk} {m : ck_H} {Q : ck_H → Prop} {g : Nat → Int32} (C : MT b n t m) (hJ : J < 6) (eJ : m.1 2 8 = nI J) (eg : ∀ j, j < J → g j = m.1 6 (6 + j))
    (q0 : (frun (nxt b n) [fNew g J, fNum 0 99, fNum 0 99, fNum 0 9] (nxt b n t)).1 = 0 → ∀ m', UPD m m' [(2, 8, nI (J + 1)), (9, 6 + J, nI (nxt b n (nxt b n (nxt b n (nxt b n t)))).2.1), (8, 6 + J, nI (nxt b n (nxt b n (nxt b n t))).2.1), (7, 6 + J, nI (nxt b n (nxt b n t)).2.1), (6, 6 + J, nI (nxt b n t).2.1), (0, 19, m.1 0 19 ||| ((1 : Int32) <<< (nI 1 &&& 31)))] → MT b n (nxt b n (nxt b n (nxt b n (nxt b n (nxt b n t))))) m' → wp_X12_line_438 Q m')
    (q1 : ¬ (frun (nxt b n) [fNew g J, fNum 0 99, fNum 0 99, fNum 0 9] (nxt b n t)).1 = 0 → ∀ m', FU m m' → MFt (frun (nxt b n) [fNew g J, fNum 0 99, fNum 0 99, fNum 0 9] (nxt b n t)).1 (frun (nxt b n) [fNew g J, fNum 0 99, fNum 0 99, fNum 0 9] (nxt b n t)).2 m' → Q m') : wp_X12_line_70 Q (nI 1) m := by
  have in8 : vp_in (nI (6 + J)) 12 := pu_in (by omega) (by decide)
  have a19 : alw 0 19 := Or.inl ⟨rfl, Or.inl rfl⟩
  have a6 : alw 6 (6 + J) := al (by omega) (by omega) (by show 6 ≤ 6 + J; omega)
  have a7 : alw 7 (6 + J) := al (by omega) (by omega) (by show 6 ≤ 6 + J; omega)
  have a8 : alw 8 (6 + J) := al (by omega) (by omega) (by show 6 ≤ 6 + J; omega)
  have a9 : alw 9 (6 + J) := al (by omega) (by omega) (by show 6 ≤ 6 + J; omega)
  have a28 : alw 2 8 := al (by omega) (by omega) (by show 7 ≤ 8; omega)
  have a4J : (6 : Int32) + nI J = nI (6 + J) := nI_add 6 J
  have c4J : (nI (6 + J)).toNatClampNeg = 6 + J := nI_clamp (n := 6 + J) (by omega)
  unfold wp_X12_line_70
  refine br_p C.2.2.2 ?_
  rintro _ rfl
  refine (C.set a19).nx (fun m1 f1 C1 => br_n (by decide) (br_p rfl ?_))
  have U1 := ((UPD.rf m).set (a := 0) (i := 19) (v := m.1 0 19 ||| ((1 : Int32) <<< (nI 1 &&& 31)))).fw f1
  have F1 : FU m m1 := (FU.set m _ a19).tr (FU.fw f1)
  have e1 : m1.1 2 8 = nI J := (U1 2 8 (by omega)).trans eJ
  have tF4 : ∀ f tt, (∀ m', FU m m' → MFt f tt m' → Q m') → ∀ m3 v, FU m m3 → MFt f tt m3 → (vp_in (nI (6 + J)) 12 ∧ ∀ h29, h29 = ck_sI m3 9 (6 + J) v → wp_X12_fresher 1 h29 (fun r31 h30 => wp_X12_reads 1 (r31 + 1) h30 (fun h32 => wp_X12_line_438 Q h32))) := by
    intro f tt qf m3 v F B
    refine ⟨in8, ?_⟩
    rintro _ rfl
    refine mm_fr (i := 1) (by omega) (mm_rd (i := 1) (by omega) (ln438F ((B.set a9).set a28).n0 (qf _ ((F.tr (FU.set _ _ a9)).tr (FU.set _ _ a28)) ((B.set a9).set a28))))
  have tF3 : ∀ f tt, (∀ m', FU m m' → MFt f tt m' → Q m') → ∀ m3 v, FU m m3 → MFt f tt m3 → (vp_in (nI (6 + J)) 12 ∧ ∀ h25, h25 = ck_sI m3 8 (6 + J) v → wp_X12_numeral 0 9 h25 (fun r27 h26 => (vp_in (nI (6 + J)) 12 ∧ ∀ h29, h29 = ck_sI h26 9 (6 + J) r27 → wp_X12_fresher 1 h29 (fun r31 h30 => wp_X12_reads 1 (r31 + 1) h30 (fun h32 => wp_X12_line_438 Q h32))))) := by
    intro f tt qf m3 v F B
    refine ⟨in8, ?_⟩
    rintro _ rfl
    exact mm_numF (B.set a8).n0 (fun w => tF4 f tt qf _ w (F.tr (FU.set _ _ a8)) (B.set a8))
  have tF2 : ∀ f tt, (∀ m', FU m m' → MFt f tt m' → Q m') → ∀ m3 v, FU m m3 → MFt f tt m3 → (vp_in (nI (6 + J)) 12 ∧ ∀ h25, h25 = ck_sI m3 7 (6 + J) v → wp_X12_numeral 0 99 h25 (fun r27 h26 => (vp_in (nI (6 + J)) 12 ∧ ∀ h25, h25 = ck_sI h26 8 (6 + J) r27 → wp_X12_numeral 0 9 h25 (fun r27 h26 => (vp_in (nI (6 + J)) 12 ∧ ∀ h29, h29 = ck_sI h26 9 (6 + J) r27 → wp_X12_fresher 1 h29 (fun r31 h30 => wp_X12_reads 1 (r31 + 1) h30 (fun h32 => wp_X12_line_438 Q h32))))))) := by
    intro f tt qf m3 v F B
    refine ⟨in8, ?_⟩
    rintro _ rfl
    exact mm_numF (B.set a7).n0 (fun w => tF3 f tt qf _ w (F.tr (FU.set _ _ a7)) (B.set a7))
  refine mm_fr (i := 1) (by omega) ?_
  rw [show m1.1 2 (7 + 1) = nI J from e1, a4J]
  rintro _ rfl
  rw [c4J]
  refine mm_fr (i := 1) (by omega) ?_
  rw [show m1.1 2 (7 + 1) = nI J from e1]
  refine mm_fresh (o := 6) (a := 6) (c := J) (g := g) C1 (by show 6 + J ≤ 12; omega) (by show 12 < 1000; omega) (fun j hj => (eg j hj).trans (U1 6 (6 + j) (by omega)).symm) (fun z m2 f2 C2 => ?_) (fun z v m2 f2 B => ?_)
  · rw [frun_0 z] at q0 q1
    refine ⟨in8, ?_⟩
    rintro _ rfl
    have U2 := (U1.fw f2).set (a := 6) (i := 6 + J) (v := nI (nxt b n t).2.1)
    have F2 := F1.tr ((FU.fw f2).tr (FU.set m2 (nI (nxt b n t).2.1) a6))
    have C2' := C2.set (v := nI (nxt b n t).2.1) a6
    refine mm_num (lo := 0) (hi := 99) C2' (by omega) (by omega) (fun z m3 f3 C3 => ?_) (fun z v m3 f3 B => ?_)
    · rw [frun_0 z] at q0 q1
      refine ⟨in8, ?_⟩
      rintro _ rfl
      have U3 := (U2.fw f3).set (a := 7) (i := 6 + J) (v := nI (nxt b n (nxt b n t)).2.1)
      have F3 := F2.tr ((FU.fw f3).tr (FU.set m3 (nI (nxt b n (nxt b n t)).2.1) a7))
      have C3' := C3.set (v := nI (nxt b n (nxt b n t)).2.1) a7
      refine mm_num (lo := 0) (hi := 99) C3' (by omega) (by omega) (fun z m4 f4 C4 => ?_) (fun z v m4 f4 B => ?_)
      · rw [frun_0 z] at q0 q1
        refine ⟨in8, ?_⟩
        rintro _ rfl
        have U4 := (U3.fw f4).set (a := 8) (i := 6 + J) (v := nI (nxt b n (nxt b n (nxt b n t))).2.1)
        have F4 := F3.tr ((FU.fw f4).tr (FU.set m4 (nI (nxt b n (nxt b n (nxt b n t))).2.1) a8))
        have C4' := C4.set (v := nI (nxt b n (nxt b n (nxt b n t))).2.1) a8
        refine mm_num (lo := 0) (hi := 9) C4' (by omega) (by omega) (fun z m5 f5 C5 => ?_) (fun z v m5 f5 B => ?_)
        · rw [frun_0 z] at q0
          refine ⟨in8, ?_⟩
          rintro _ rfl
          have U5 := (U4.fw f5).set (a := 9) (i := 6 + J) (v := nI (nxt b n (nxt b n (nxt b n (nxt b n t)))).2.1)
          have C5' := C5.set (v := nI (nxt b n (nxt b n (nxt b n (nxt b n t)))).2.1) a9
          refine mm_fr (i := 1) (by omega) (mm_rd (i := 1) (by omega) ?_)
          have e4 : (ck_sI m5 9 (6 + J) (nI (nxt b n (nxt b n (nxt b n (nxt b n t)))).2.1)).1 2 (7 + 1) = nI J := (U5 2 8 (by omega)).trans eJ
          rw [e4, nI_1]
          exact q0 rfl _ (U5.set (a := 2) (i := 8)) (C5'.set a28)
        · rw [frun_1 z] at q1
          exact tF4 _ _ (q1 z) m5 v (F4.tr (FU.fw f5)) B
      · rw [frun_1 z] at q1
        exact tF3 _ _ (q1 z) m4 v (F3.tr (FU.fw f4)) B
    · rw [frun_1 z] at q1
      exact tF2 _ _ (q1 z) m3 v (F2.tr (FU.fw f3)) B
  · rw [frun_1 z] at q1
    refine ⟨in8, ?_⟩
    rintro _ rfl
    exact mm_numF (B.set a6).n0 (fun w => tF2 _ _ (q1 z) _ w ((F1.tr (FU.fw f2)).tr (FU.set m2 v a6)) (B.set a6))
theorem mm_suitL {b : Nat → Nat} {n S J N : Nat} {t : Tk} {m : ck_H} {Q : ck_H → Prop} {g gj gn : Nat → Int32} (C : MT b n t m) (hS : S < 10) (eS : m.1 2 9 = nI S) (eg : ∀ j, j < S → g j = m.1 10 (10 + j)) (hJ : J ≤ 4) (eJ : m.1 2 7 = nI J) (egj : ∀ j, j < J → gj j = m.1 3 (4 + j)) (hN : N ≤ 6) (eN : m.1 2 8 = nI N) (egn : ∀ j, j < N → gn j = m.1 6 (6 + j))
    (q0 : (frun (nxt b n) [fNew g S, fTold gj J, fTold gn N, fNum 0 99] (nxt b n t)).1 = 0 → ∀ m', UPD m m' [(2, 9, nI (S + 1)), (13, 10 + S, nI (nxt b n (nxt b n (nxt b n (nxt b n t)))).2.1), (12, 10 + S, fi gn (nI (nxt b n (nxt b n (nxt b n t))).2.1) N 0), (11, 10 + S, fi gj (nI (nxt b n (nxt b n t)).2.1) J 0), (10, 10 + S, nI (nxt b n t).2.1), (0, 19, m.1 0 19 ||| ((1 : Int32) <<< (nI 2 &&& 31)))] → MT b n (nxt b n (nxt b n (nxt b n (nxt b n (nxt b n t))))) m' → wp_X12_line_438 Q m')
    (q1 : ¬ (frun (nxt b n) [fNew g S, fTold gj J, fTold gn N, fNum 0 99] (nxt b n t)).1 = 0 → ∀ m', FU m m' → MFt (frun (nxt b n) [fNew g S, fTold gj J, fTold gn N, fNum 0 99] (nxt b n t)).1 (frun (nxt b n) [fNew g S, fTold gj J, fTold gn N, fNum 0 99] (nxt b n t)).2 m' → Q m') : wp_X12_line_70 Q (nI 2) m := by
  have in8 : vp_in (nI (10 + S)) 20 := pu_in (by omega) (by decide)
  have a19 : alw 0 19 := Or.inl ⟨rfl, Or.inl rfl⟩
  have a10 : alw 10 (10 + S) := al (by omega) (by omega) (by show 10 ≤ 10 + S; omega)
  have a11 : alw 11 (10 + S) := al (by omega) (by omega) (by show 10 ≤ 10 + S; omega)
  have a12 : alw 12 (10 + S) := al (by omega) (by omega) (by show 10 ≤ 10 + S; omega)
  have a13 : alw 13 (10 + S) := al (by omega) (by omega) (by show 10 ≤ 10 + S; omega)
  have a29 : alw 2 9 := al (by omega) (by omega) (by show 7 ≤ 9; omega)
  have a4J : (10 : Int32) + nI S = nI (10 + S) := nI_add 10 S
  have c4J : (nI (10 + S)).toNatClampNeg = 10 + S := nI_clamp (n := 10 + S) (by omega)
  unfold wp_X12_line_70
  refine br_p C.2.2.2 ?_
  rintro _ rfl
  refine (C.set a19).nx (fun m1 f1 C1 => br_n (by decide) (br_n (by decide) (br_p rfl ?_)))
  have U1 := ((UPD.rf m).set (a := 0) (i := 19) (v := m.1 0 19 ||| ((1 : Int32) <<< (nI 2 &&& 31)))).fw f1
  have F1 : FU m m1 := (FU.set m _ a19).tr (FU.fw f1)
  have e1 : m1.1 2 9 = nI S := (U1 2 9 (by omega)).trans eS
  have tF4 : ∀ f tt, (∀ m', FU m m' → MFt f tt m' → Q m') → ∀ m3 v, FU m m3 → MFt f tt m3 → (vp_in (nI (10 + S)) 20 ∧ ∀ h29, h29 = ck_sI m3 13 (10 + S) v → wp_X12_fresher 2 h29 (fun r31 h30 => wp_X12_reads 2 (r31 + 1) h30 (fun h32 => wp_X12_line_438 Q h32))) := by
    intro f tt qf m3 v F B
    refine ⟨in8, ?_⟩
    rintro _ rfl
    refine mm_fr (i := 2) (by omega) (mm_rd (i := 2) (by omega) (ln438F ((B.set a13).set a29).n0 (qf _ ((F.tr (FU.set _ _ a13)).tr (FU.set _ _ a29)) ((B.set a13).set a29))))
  have tF3 : ∀ f tt, (∀ m', FU m m' → MFt f tt m' → Q m') → ∀ m3 v, FU m m3 → MFt f tt m3 → (vp_in (nI (10 + S)) 20 ∧ ∀ h25, h25 = ck_sI m3 12 (10 + S) v → wp_X12_numeral 0 99 h25 (fun r27 h26 => (vp_in (nI (10 + S)) 20 ∧ ∀ h29, h29 = ck_sI h26 13 (10 + S) r27 → wp_X12_fresher 2 h29 (fun r31 h30 => wp_X12_reads 2 (r31 + 1) h30 (fun h32 => wp_X12_line_438 Q h32))))) := by
    intro f tt qf m3 v F B
    refine ⟨in8, ?_⟩
    rintro _ rfl
    exact mm_numF (B.set a12).n0 (fun w => tF4 f tt qf _ w (F.tr (FU.set _ _ a12)) (B.set a12))
  have tF2 : ∀ f tt, (∀ m', FU m m' → MFt f tt m' → Q m') → ∀ m3 v, FU m m3 → MFt f tt m3 → (vp_in (nI (10 + S)) 20 ∧ ∀ h80, h80 = ck_sI m3 11 (10 + S) v → wp_X12_fresher 1 h80 (fun r82 h81 => wp_X12_toldAhead 6 6 r82 h81 (fun r84 h83 => (vp_in (nI (10 + S)) 20 ∧ ∀ h25, h25 = ck_sI h83 12 (10 + S) r84 → wp_X12_numeral 0 99 h25 (fun r27 h26 => (vp_in (nI (10 + S)) 20 ∧ ∀ h29, h29 = ck_sI h26 13 (10 + S) r27 → wp_X12_fresher 2 h29 (fun r31 h30 => wp_X12_reads 2 (r31 + 1) h30 (fun h32 => wp_X12_line_438 Q h32)))))))) := by
    intro f tt qf m3 v F B
    refine ⟨in8, ?_⟩
    rintro _ rfl
    exact mm_fr (i := 1) (by omega) (mm_toldF (B.set a11).n0 (fun w => tF3 f tt qf _ w (F.tr (FU.set _ _ a11)) (B.set a11)))
  refine mm_fr (i := 2) (by omega) ?_
  rw [show m1.1 2 (7 + 2) = nI S from e1, a4J]
  rintro _ rfl
  rw [c4J]
  refine mm_fr (i := 2) (by omega) ?_
  rw [show m1.1 2 (7 + 2) = nI S from e1]
  refine mm_fresh (o := 10) (a := 10) (c := S) (g := g) C1 (by show 10 + S ≤ 20; omega) (by show 20 < 1000; omega) (fun j hj => (eg j hj).trans (U1 10 (10 + j) (by omega)).symm) (fun z m2 f2 C2 => ?_) (fun z v m2 f2 B => ?_)
  · rw [frun_0 z] at q0 q1
    refine ⟨in8, ?_⟩
    rintro _ rfl
    have U2 := (U1.fw f2).set (a := 10) (i := 10 + S) (v := nI (nxt b n t).2.1)
    have F2 := F1.tr ((FU.fw f2).tr (FU.set m2 (nI (nxt b n t).2.1) a10))
    have C2' := C2.set (v := nI (nxt b n t).2.1) a10
    refine mm_fr (i := 0) (by omega) ?_
    rw [show (ck_sI m2 10 (10 + S) (nI (nxt b n t).2.1)).1 2 (7 + 0) = nI J from (U2 2 7 (by omega)).trans eJ]
    refine mm_told (o := 3) (a := 4) (c := J) (g := gj) C2' (by show 4 + J ≤ 8; omega) (by show 8 < 1000; omega) (fun j hj => (egj j hj).trans (U2 3 (4 + j) (by omega)).symm) (fun z m3 f3 C3 => ?_) (fun z v m3 f3 B => ?_)
    · rw [frun_0 z] at q0 q1
      refine ⟨in8, ?_⟩
      rintro _ rfl
      have U3 := (U2.fw f3).set (a := 11) (i := 10 + S) (v := fi gj (nI (nxt b n (nxt b n t)).2.1) J 0)
      have F3 := F2.tr ((FU.fw f3).tr (FU.set m3 (fi gj (nI (nxt b n (nxt b n t)).2.1) J 0) a11))
      have C3' := C3.set (v := fi gj (nI (nxt b n (nxt b n t)).2.1) J 0) a11
      refine mm_fr (i := 1) (by omega) ?_
      rw [show (ck_sI m3 11 (10 + S) (fi gj (nI (nxt b n (nxt b n t)).2.1) J 0)).1 2 (7 + 1) = nI N from (U3 2 8 (by omega)).trans eN]
      refine mm_told (o := 6) (a := 6) (c := N) (g := gn) C3' (by show 6 + N ≤ 12; omega) (by show 12 < 1000; omega) (fun j hj => (egn j hj).trans (U3 6 (6 + j) (by omega)).symm) (fun z m4 f4 C4 => ?_) (fun z v m4 f4 B => ?_)
      · rw [frun_0 z] at q0 q1
        refine ⟨in8, ?_⟩
        rintro _ rfl
        have U4 := (U3.fw f4).set (a := 12) (i := 10 + S) (v := fi gn (nI (nxt b n (nxt b n (nxt b n t))).2.1) N 0)
        have F4 := F3.tr ((FU.fw f4).tr (FU.set m4 (fi gn (nI (nxt b n (nxt b n (nxt b n t))).2.1) N 0) a12))
        have C4' := C4.set (v := fi gn (nI (nxt b n (nxt b n (nxt b n t))).2.1) N 0) a12
        refine mm_num (lo := 0) (hi := 99) C4' (by omega) (by omega) (fun z m5 f5 C5 => ?_) (fun z v m5 f5 B => ?_)
        · rw [frun_0 z] at q0
          refine ⟨in8, ?_⟩
          rintro _ rfl
          have U5 := (U4.fw f5).set (a := 13) (i := 10 + S) (v := nI (nxt b n (nxt b n (nxt b n (nxt b n t)))).2.1)
          have C5' := C5.set (v := nI (nxt b n (nxt b n (nxt b n (nxt b n t)))).2.1) a13
          refine mm_fr (i := 2) (by omega) (mm_rd (i := 2) (by omega) ?_)
          have e4 : (ck_sI m5 13 (10 + S) (nI (nxt b n (nxt b n (nxt b n (nxt b n t)))).2.1)).1 2 (7 + 2) = nI S := (U5 2 9 (by omega)).trans eS
          rw [e4, nI_1]
          exact q0 rfl _ (U5.set (a := 2) (i := 9)) (C5'.set a29)
        · rw [frun_1 z] at q1
          exact tF4 _ _ (q1 z) m5 v (F4.tr (FU.fw f5)) B
      · rw [frun_1 z] at q1
        exact tF3 _ _ (q1 z) m4 v (F3.tr (FU.fw f4)) B
    · rw [frun_1 z] at q1
      exact tF2 _ _ (q1 z) m3 v (F2.tr (FU.fw f3)) B
  · rw [frun_1 z] at q1
    refine ⟨in8, ?_⟩
    rintro _ rfl
    exact mm_fr (i := 0) (by omega) (mm_toldF (B.set a10).n0 (fun w => tF2 _ _ (q1 z) _ w ((F1.tr (FU.fw f2)).tr (FU.set m2 v a10)) (B.set a10)))
