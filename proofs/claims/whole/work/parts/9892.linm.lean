theorem tbT : ∀ j, j < 19 → ∀ k, k < 19 → (((1 : Int32) <<< (nI j &&& 31)) >>> (nI k &&& 31)) &&& 1 = if k = j then 1 else 0 := by decide +kernel
/-- one mark more -/
theorem tbI (a : Int32) {j k : Nat} (hj : j < 19) (hk : k < 19) : (((a ||| ((1 : Int32) <<< (nI j &&& 31))) >>> (nI k &&& 31)) &&& 1) = 1 ↔ (k = j ∨ ((a >>> (nI k &&& 31)) &&& 1) = 1) := by
  have e : (((a ||| ((1 : Int32) <<< (nI j &&& 31))) >>> (nI k &&& 31)) &&& 1) = ((a >>> (nI k &&& 31)) &&& 1) ||| ((((1 : Int32) <<< (nI j &&& 31)) >>> (nI k &&& 31)) &&& 1) := by
    rw [Int32.shiftRight_or]
    apply Int32.toBitVec_inj.1
    rw [Int32.toBitVec_and, Int32.toBitVec_or, Int32.toBitVec_or, Int32.toBitVec_and, Int32.toBitVec_and]
    exact BitVec.and_or_distrib_right
  rw [e, tbT j hj k hk]
  by_cases c : k = j
  · rw [if_pos c]
    refine ⟨fun _ => Or.inl c, fun _ => ?_⟩
    rcases b01 a (nI k &&& 31) with z | z <;> rw [z] <;> decide
  · rw [if_neg c]
    rcases b01 a (nI k &&& 31) with z | z <;> rw [z]
    · refine ⟨fun y => absurd y (by decide), fun y => ?_⟩
      rcases y with y | y
      · exact absurd y c
      · exact absurd y (by decide)
    · exact ⟨fun _ => Or.inr rfl, fun _ => by decide⟩
theorem mm_opt {b : Nat → Nat} {n lo hi x : Nat} {t : Tk} {m : ck_H} {Q : ck_H → Prop} (C : MT b n t m) (hx : (x = 3 ∧ lo = 1 ∧ hi = 99) ∨ (x = 4 ∧ lo = 0 ∧ hi = 30) ∨ (x = 5 ∧ lo = 0 ∧ hi = 99999))
    (q0 : fNum lo hi (nxt b n t) = 0 → ∀ m', UPD m m' [(2, 7 + x, nI (nxt b n t).2.1), (0, 19, m.1 0 19 ||| ((1 : Int32) <<< (nI x &&& 31)))] → MT b n (nxt b n (nxt b n t)) m' → wp_X12_line_438 Q m')
    (q1 : ¬ fNum lo hi (nxt b n t) = 0 → ∀ m', FU m m' → MFt (fNum lo hi (nxt b n t)) (nxt b n t) m' → Q m') : wp_X12_line_70 Q (nI x) m := by
  have a19 : alw 0 19 := Or.inl ⟨rfl, Or.inl rfl⟩
  have a2 : alw 2 (7 + x) := al (by omega) (by omega) (by show 7 ≤ 7 + x; omega)
  unfold wp_X12_line_70
  refine br_p C.2.2.2 ?_
  rintro _ rfl
  refine (C.set a19).nx (fun m1 f1 C1 => ?_)
  have U1 := ((UPD.rf m).set (a := 0) (i := 19) (v := m.1 0 19 ||| ((1 : Int32) <<< (nI x &&& 31)))).fw f1
  have F1 : FU m m1 := (FU.set m _ a19).tr (FU.fw f1)
  have go : wp_X12_numeral (nI lo) (nI hi) m1 (fun r h => wp_X12_reads (nI x) r h (fun h' => wp_X12_line_438 Q h')) := by
    refine mm_num (lo := lo) (hi := hi) C1 (by omega) (by omega) (fun z m2 f2 C2 => ?_) (fun z v m2 f2 B => ?_)
    · exact mm_rd (i := x) (by omega) (q0 z _ ((U1.fw f2).set (a := 2) (i := 7 + x)) (C2.set a2))
    · exact mm_rd (i := x) (by omega) (ln438F (B.set a2).n0 (q1 z _ ((F1.tr (FU.fw f2)).tr (FU.set m2 v a2)) (B.set a2)))
  rcases hx with ⟨rfl, rfl, rfl⟩ | ⟨rfl, rfl, rfl⟩ | ⟨rfl, rfl, rfl⟩
  · exact br_n (by decide) (br_n (by decide) (br_n (by decide) (br_p rfl go)))
  · exact br_n (by decide) (br_n (by decide) (br_n (by decide) (br_n (by decide) (br_p rfl go))))
  · exact br_n (by decide) (br_n (by decide) (br_n (by decide) (br_n (by decide) (br_n (by decide) (br_p rfl go)))))
theorem lc_tab : ∀ k, k < 39 → (tk_srt k = 0 → 4 ≤ k) ∧ ((26 ≤ k ∧ k ≤ 28) → tk_srt k = 0 ∧ tk_cod k = k - 19) ∧ (tk_srt k = 0 → (7 ≤ tk_cod k ∧ tk_cod k ≤ 9) → (26 ≤ k ∧ k ≤ 28)) ∧ tk_cod k < 1000 ∧ tk_srt k < 6 := by decide +kernel
theorem mm_lawL {b : Nat → Nat} {n : Nat} {t : Tk} {m : ck_H} {Q : ck_H → Prop} {tl : Nat → Bool} (C : MT b n t m) (hk : ∀ k, k < 3 → (tl k = true ↔ ((m.1 0 19 >>> (nI (16 + k) &&& 31)) &&& 1) = 1))
    (q0 : fLaw tl (nxt b n t) = 0 → 26 ≤ (nxt b n t).1 → (nxt b n t).1 ≤ 28 → ∀ m2, UPD m m2 [(0, 19, (m.1 0 19 ||| ((1 : Int32) <<< (nI 6 &&& 31))) ||| ((1 : Int32) <<< (nI (16 + ((nxt b n t).1 - 26)) &&& 31))), (0, 19, m.1 0 19 ||| ((1 : Int32) <<< (nI 6 &&& 31)))] → MT b n (nxt b n (nxt b n t)) m2 → wp_X12_expression 11 (ck_sI m2 14 (3 + ((nxt b n t).1 - 26)) (m2.1 2 13)) (fun h12 => wp_X12_fresher 6 h12 (fun r14 h13 => vp_in (nI (3 + ((nxt b n t).1 - 26))) 6 ∧ ∀ h16, h16 = ck_sI h13 15 (3 + ((nxt b n t).1 - 26)) r14 → wp_X12_line_438 Q h16)))
    (q1 : ¬ fLaw tl (nxt b n t) = 0 → ∀ m', FU m m' → MFt (fLaw tl (nxt b n t)) (nxt b n t) m' → Q m') : wp_X12_line_70 Q (nI 6) m := by
  have a19 : alw 0 19 := Or.inl ⟨rfl, Or.inl rfl⟩
  unfold wp_X12_line_70
  refine br_p C.2.2.2 ?_
  rintro _ rfl
  refine (C.set a19).nx (fun m1 f1 C1 => br_n (by decide) (br_n (by decide) (br_n (by decide) (br_n (by decide) (br_n (by decide) (br_n (by decide) ?_))))))
  have U1 := ((UPD.rf m).set (a := 0) (i := 19) (v := m.1 0 19 ||| ((1 : Int32) <<< (nI 6 &&& 31)))).fw f1
  have F1 : FU m m1 := (FU.set m _ a19).tr (FU.fw f1)
  have e19 : m1.1 0 19 = m.1 0 19 ||| ((1 : Int32) <<< (nI 6 &&& 31)) := U1 0 19 (by omega)
  generalize nxt b n t = t1 at *
  have T := C1.2.1
  have tb := lc_tab t1.1 T.2.2.1
  have e24 := C1.2.2.1.1
  have i0 : nI (tk_srt t1.1) = (0 : Int32) ↔ tk_srt t1.1 = 0 := nI_eq (b := 0) (by omega) (by omega)
  have fl65 : ∀ (x : Int32) (m2 : ck_H) (f : Nat), FU m m2 → MFt f t1 m2 → f = fLaw tl t1 → ¬ f = 0 → wp_X12_lawLine_65 (fun h106 => wp_X12_line_438 Q h106) x m2 := by
    intro x m2 f F B ef f0
    unfold wp_X12_lawLine_65
    exact br_n B.n0 (ln438F B.n0 (q1 (ef ▸ f0) m2 F (ef ▸ B)))
  have bad1 : ¬ (26 ≤ t1.1 ∧ t1.1 ≤ 28) → wp_X12_lawLine_25 (fun h106 => wp_X12_line_438 Q h106) m1 := by
    intro z
    have ef : fLaw tl t1 = 1 := by unfold fLaw; rw [if_pos z]
    unfold wp_X12_lawLine_25
    refine C1.bad (f := 1) (by omega) (by omega) (fun m2 f2 B => ?_)
    unfold wp_X12_lawLine_30
    rintro _ rfl
    exact br_m B.n0 (fl65 _ m2 1 (F1.tr (FU.fw f2)) B ef.symm (by omega))
  unfold wp_X12_lawLine
  rw [e24]
  by_cases cl : 26 ≤ t1.1 ∧ t1.1 ≤ 28
  · have tt := tb.2.1 cl
    have e25 : m1.1 0 25 = nI (t1.1 - 19) := by rw [C1.2.2.1.2.2.2.2 (by omega), tt.2]
    refine br_q (i0.mpr tt.1) ?_
    rw [e25]
    refine br_n (nI_nlt (b := 7) (by omega) (by omega)) (br_p (nI_le (b := 9) (by omega) (by omega)) ?_)
    unfold wp_X12_lawLine_30
    rw [e25, show nI (t1.1 - 19) - (7 : Int32) = nI (t1.1 - 26) by
      rcases (show t1.1 = 26 ∨ t1.1 = 27 ∨ t1.1 = 28 by omega) with z | z | z <;> rw [z] <;> decide]
    rintro _ rfl
    rw [show (16 : Int32) + nI (t1.1 - 26) = nI (16 + (t1.1 - 26)) from nI_add 16 _]
    have ef : fLaw tl t1 = if tl (t1.1 - 26) = true then 3 else 0 := by unfold fLaw; rw [if_neg (fun z => z cl)]
    have hb : (((m1.1 0 19) >>> (nI (16 + (t1.1 - 26)) &&& 31)) &&& 1) = 1 ↔ tl (t1.1 - 26) = true := by
      rw [e19, tbI _ (by omega) (by omega), hk (t1.1 - 26) (by omega)]
      exact ⟨fun z => z.resolve_left (by omega), Or.inr⟩
    refine br_q C1.2.2.2 ?_
    by_cases ct : tl (t1.1 - 26) = true
    · rw [if_pos ct] at ef
      exact br_q (hb.mpr ct) (C1.bad (f := 3) (by omega) (by omega) (fun m2 f2 B => fl65 _ m2 3 (F1.tr (FU.fw f2)) B ef.symm (by omega)))
    · rw [if_neg ct] at ef
      refine br_m (fun z => ct (hb.mp z)) ?_
      unfold wp_X12_lawLine_65
      refine br_p C1.2.2.2 ?_
      rw [show (16 : Int32) + nI (t1.1 - 26) = nI (16 + (t1.1 - 26)) from nI_add 16 _, show (3 : Int32) + nI (t1.1 - 26) = nI (3 + (t1.1 - 26)) from nI_add 3 _, nI_clamp (n := 3 + (t1.1 - 26)) (by omega), e19]
      rintro _ rfl
      refine (C1.set a19).nx (fun m2 f2 C2 => ?_)
      refine mm_fr (i := 6) (by omega) ⟨pu_in (by omega) (by decide), ?_⟩
      rintro _ rfl
      exact q0 ef cl.1 cl.2 m2 ((U1.set (a := 0) (i := 19)).fw f2) C2
  · have bad1 := bad1 cl
    refine ⟨fun _ => bad1, fun z => ?_⟩
    have z := i0.mp z
    rw [C1.2.2.1.2.2.2.2 (tb.1 z)]
    have nn : ¬ (7 ≤ tk_cod t1.1 ∧ tk_cod t1.1 ≤ 9) := fun y => cl (tb.2.2.1 z y)
    refine ⟨fun _ => bad1, fun z1 => ⟨fun z2 => ?_, fun _ => bad1⟩⟩
    have a1 : ¬ tk_cod t1.1 < 7 := fun y => z1 (nI_lt (b := 7) y (by omega))
    have a2 := (nI_leI (b := 9) (show tk_cod t1.1 < 2 ^ 31 by omega) (by omega)).mp z2
    omega
