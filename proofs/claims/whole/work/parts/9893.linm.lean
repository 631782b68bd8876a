theorem ll_tab : ∀ k, k < 39 → (tk_srt k = 0 → 4 ≤ k) ∧ ((20 ≤ k ∧ k ≤ 25) ∨ k = 36 → tk_srt k = 0 ∧ tk_cod k ≤ 6) ∧ (tk_srt k = 0 → tk_cod k ≤ 6 → (17 ≤ k ∧ k ≤ 25) ∨ k = 36) ∧ tk_cod k < 1000 ∧ tk_srt k < 6 := by decide +kernel
theorem l70F {Q : ck_H → Prop} {x : Int32} {m : ck_H} (e : ¬ m.1 0 26 = 0) (q : Q m) : wp_X12_line_70 Q x m := br_n e q
def qFt (f : Nat) (t : Tk) (m : ck_H) (Q : ck_H → Prop) : Prop := ∀ m', FW m m' → MFt f t m' → Q m'
theorem mm_full {x J N S : Nat} {m : ck_H} {Q : Int32 → ck_H → Prop} (hx : x ≤ 6) (hJ : J ≤ 4) (eJ : m.1 2 7 = nI J) (hN : N ≤ 6) (eN : m.1 2 8 = nI N) (hS : S ≤ 10) (eS : m.1 2 9 = nI S) (q : Q (if (x = 0 ∧ J = 4) ∨ (x = 1 ∧ N = 6) ∨ (x = 2 ∧ S = 10) then 1 else 0) m) : wp_X12_isFull (nI x) m Q := by
  have ix : ∀ c, c < 1000 → (nI x = nI c ↔ x = c) := fun c hc => nI_eq (by omega) (by omega)
  have s28 : (¬ (x = 0 ∧ J = 4)) → (¬ (x = 1 ∧ N = 6)) → wp_X12_isFull_28 Q (nI x) m := by
    intro n1 n2
    unfold wp_X12_isFull_28
    refine ⟨fun z => ?_, fun z => ?_⟩
    · have z : ¬ x = 2 := fun y => z ((ix 2 (by omega)).mpr y)
      rw [if_neg (by omega)] at q; exact q
    · have z := (ix 2 (by omega)).mp z
      refine mm_fr (i := 2) (by omega) ?_
      rw [show m.1 2 (7 + 2) = nI S from eS]
      have is : nI S = (10 : Int32) ↔ S = 10 := nI_eq (b := 10) (by omega) (by omega)
      refine ⟨fun y => ?_, fun y => ?_⟩
      · have y : ¬ S = 10 := fun w => y (is.mpr w)
        rw [if_neg (by omega)] at q; exact q
      · have y := is.mp y
        rw [if_pos (by omega)] at q; exact q
  have s13 : (¬ (x = 0 ∧ J = 4)) → wp_X12_isFull_13 Q (nI x) m := by
    intro n1
    unfold wp_X12_isFull_13
    refine ⟨fun z => s28 n1 (fun y => z ((ix 1 (by omega)).mpr y.1)), fun z => ?_⟩
    have z := (ix 1 (by omega)).mp z
    refine mm_fr (i := 1) (by omega) ?_
    rw [show m.1 2 (7 + 1) = nI N from eN]
    have is : nI N = (6 : Int32) ↔ N = 6 := nI_eq (b := 6) (by omega) (by omega)
    refine ⟨fun y => ?_, fun y => s28 n1 (fun w => y (is.mpr w.2))⟩
    have y := is.mp y
    rw [if_pos (by omega)] at q; exact q
  unfold wp_X12_isFull
  refine ⟨fun z => s13 (fun y => z ((ix 0 (by omega)).mpr y.1)), fun z => ?_⟩
  have z := (ix 0 (by omega)).mp z
  refine mm_fr (i := 0) (by omega) ?_
  rw [show m.1 2 (7 + 0) = nI J from eJ]
  have is : nI J = (4 : Int32) ↔ J = 4 := nI_eq (b := 4) (by omega) (by omega)
  refine ⟨fun y => ?_, fun y => s13 (fun w => y (is.mpr w.2))⟩
  have y := is.mp y
  rw [if_pos (by omega)] at q; exact q
theorem mm_line {b : Nat → Nat} {n J N S : Nat} {t : Tk} {m : ck_H} {Q : ck_H → Prop} (C : MT b n t m) (hJ : J ≤ 4) (eJ : m.1 2 7 = nI J) (hN : N ≤ 6) (eN : m.1 2 8 = nI N) (hS : S ≤ 10) (eS : m.1 2 9 = nI S)
    (q20 : t.1 = 20 → (J < 4 → wp_X12_line_70 Q (nI 0) m) ∧ (¬ J < 4 → qFt 2 t m Q))
    (q21 : t.1 = 21 → (N < 6 → wp_X12_line_70 Q (nI 1) m) ∧ (¬ N < 6 → qFt 2 t m Q))
    (q22 : t.1 = 22 → (S < 10 → wp_X12_line_70 Q (nI 2) m) ∧ (¬ S < 10 → qFt 2 t m Q))
    (q36 : t.1 = 36 → (¬ ((m.1 0 19 >>> (nI 3 &&& 31)) &&& 1) = 1 → wp_X12_line_70 Q (nI 3) m) ∧ (((m.1 0 19 >>> (nI 3 &&& 31)) &&& 1) = 1 → qFt 3 t m Q))
    (q23 : t.1 = 23 → (¬ ((m.1 0 19 >>> (nI 4 &&& 31)) &&& 1) = 1 → wp_X12_line_70 Q (nI 4) m) ∧ (((m.1 0 19 >>> (nI 4 &&& 31)) &&& 1) = 1 → qFt 3 t m Q))
    (q24 : t.1 = 24 → (¬ ((m.1 0 19 >>> (nI 5 &&& 31)) &&& 1) = 1 → wp_X12_line_70 Q (nI 5) m) ∧ (((m.1 0 19 >>> (nI 5 &&& 31)) &&& 1) = 1 → qFt 3 t m Q))
    (q25 : t.1 = 25 → wp_X12_line_70 Q (nI 6) m)
    (qe : ¬ (20 ≤ t.1 ∧ t.1 ≤ 25) → ¬ t.1 = 36 → qFt 1 t m Q) : wp_X12_line m Q := by
  have T := C.2.1
  have tb := ll_tab t.1 T.2.2.1
  have e24 := C.2.2.1.1
  have i0 : nI (tk_srt t.1) = (0 : Int32) ↔ tk_srt t.1 = 0 := nI_eq (b := 0) (by omega) (by omega)
  have w1 : ¬ (20 ≤ t.1 ∧ t.1 ≤ 25) → ¬ t.1 = 36 → wp_X12_line_16 Q m := by
    intro a1 a2
    unfold wp_X12_line_16
    exact C.bad (f := 1) (by omega) (by omega) (fun m' f B => qe a1 a2 m' f B)
  unfold wp_X12_line
  rw [e24]
  by_cases ck : (20 ≤ t.1 ∧ t.1 ≤ 25) ∨ t.1 = 36
  · have tt := tb.2.1 ck
    rw [C.2.2.1.2.2.2.2 (by omega)]
    refine br_q (i0.mpr tt.1) (br_p (nI_le (b := 6) tt.2 (by omega)) ?_)
    rintro _ rfl
    have low : ∀ x c, tk_cod t.1 = x → x < 3 → (((x = 0 ∧ J = 4) ∨ (x = 1 ∧ N = 6) ∨ (x = 2 ∧ S = 10)) ↔ c) → (¬ c → wp_X12_line_70 Q (nI x) m) → (c → qFt 2 t m Q) → wp_X12_isFull (nI (tk_cod t.1)) m (fun r6 h5 => ((r6 = 0 → ((nI (tk_cod t.1) < (3 : Int32) → wp_X12_line_70 Q (nI (tk_cod t.1)) h5) ∧ (¬ nI (tk_cod t.1) < (3 : Int32) → (((5 : Int32) < nI (tk_cod t.1) → wp_X12_line_70 Q (nI (tk_cod t.1)) h5) ∧ (¬ (5 : Int32) < nI (tk_cod t.1) → ((¬ (((h5.1 0 19) >>> (nI (tk_cod t.1) &&& 31)) &&& (1 : Int32)) = (1 : Int32) → wp_X12_line_70 Q (nI (tk_cod t.1)) h5) ∧ ((((h5.1 0 19) >>> (nI (tk_cod t.1) &&& 31)) &&& (1 : Int32)) = (1 : Int32) → (wp_X12_wrong (3 : Int32) h5 (fun h109 => wp_X12_line_70 Q (nI (tk_cod t.1)) h109))))))))) ∧ (¬ r6 = 0 → (wp_X12_wrong (2 : Int32) h5 (fun h110 => wp_X12_line_70 Q (nI (tk_cod t.1)) h110))))) := by
      intro x c ex hx hc qa qb
      rw [ex]
      refine mm_full (by omega) hJ eJ hN eN hS eS ?_
      by_cases cc : (x = 0 ∧ J = 4) ∨ (x = 1 ∧ N = 6) ∨ (x = 2 ∧ S = 10)
      · rw [if_pos cc]
        exact br_n (by decide) (C.bad (f := 2) (by omega) (by omega) (fun m' f B => l70F B.n0 (qb (hc.mp cc) m' f B)))
      · rw [if_neg cc]
        exact br_p rfl (br_p (nI_lt (b := 3) hx (by omega)) (qa (fun z => cc (hc.mpr z))))
    have mid : ∀ x, tk_cod t.1 = x → 3 ≤ x → x ≤ 5 → (¬ ((m.1 0 19 >>> (nI x &&& 31)) &&& 1) = 1 → wp_X12_line_70 Q (nI x) m) → (((m.1 0 19 >>> (nI x &&& 31)) &&& 1) = 1 → qFt 3 t m Q) → wp_X12_isFull (nI (tk_cod t.1)) m (fun r6 h5 => ((r6 = 0 → ((nI (tk_cod t.1) < (3 : Int32) → wp_X12_line_70 Q (nI (tk_cod t.1)) h5) ∧ (¬ nI (tk_cod t.1) < (3 : Int32) → (((5 : Int32) < nI (tk_cod t.1) → wp_X12_line_70 Q (nI (tk_cod t.1)) h5) ∧ (¬ (5 : Int32) < nI (tk_cod t.1) → ((¬ (((h5.1 0 19) >>> (nI (tk_cod t.1) &&& 31)) &&& (1 : Int32)) = (1 : Int32) → wp_X12_line_70 Q (nI (tk_cod t.1)) h5) ∧ ((((h5.1 0 19) >>> (nI (tk_cod t.1) &&& 31)) &&& (1 : Int32)) = (1 : Int32) → (wp_X12_wrong (3 : Int32) h5 (fun h109 => wp_X12_line_70 Q (nI (tk_cod t.1)) h109))))))))) ∧ (¬ r6 = 0 → (wp_X12_wrong (2 : Int32) h5 (fun h110 => wp_X12_line_70 Q (nI (tk_cod t.1)) h110))))) := by
      intro x ex h3 h5 qa qb
      rw [ex]
      refine mm_full (by omega) hJ eJ hN eN hS eS ?_
      rw [if_neg (by omega)]
      exact br_p rfl (br_n (nI_nlt (b := 3) h3 (by omega)) (br_n (nI_nlt (a := 5) h5 (by omega)) ⟨qa, fun z => C.bad (f := 3) (by omega) (by omega) (fun m' f B => l70F B.n0 (qb z m' f B))⟩))
    rcases (show t.1 = 20 ∨ t.1 = 21 ∨ t.1 = 22 ∨ t.1 = 23 ∨ t.1 = 24 ∨ t.1 = 25 ∨ t.1 = 36 by omega) with z | z | z | z | z | z | z
    · exact low 0 (¬ J < 4) (by rw [z]; rfl) (by omega) (by omega) (fun y => (q20 z).1 (by omega)) (q20 z).2
    · exact low 1 (¬ N < 6) (by rw [z]; rfl) (by omega) (by omega) (fun y => (q21 z).1 (by omega)) (q21 z).2
    · exact low 2 (¬ S < 10) (by rw [z]; rfl) (by omega) (by omega) (fun y => (q22 z).1 (by omega)) (q22 z).2
    · exact mid 4 (by rw [z]; rfl) (by omega) (by omega) (q23 z).1 (q23 z).2
    · exact mid 5 (by rw [z]; rfl) (by omega) (by omega) (q24 z).1 (q24 z).2
    · have ex : tk_cod t.1 = 6 := by rw [z]; rfl
      rw [ex]
      refine mm_full (by omega) hJ eJ hN eN hS eS ?_
      rw [if_neg (by omega)]
      exact br_p rfl (br_n (nI_nlt (a := 6) (b := 3) (by omega) (by omega)) (br_p (nI_lt (a := 5) (b := 6) (by omega) (by omega)) (q25 z)))
    · exact mid 3 (by rw [z]; rfl) (by omega) (by omega) (q36 z).1 (q36 z).2
  · have w1 := w1 (by omega) (by omega)
    refine ⟨fun _ => w1, fun z => ?_⟩
    have z := i0.mp z
    rw [C.2.2.1.2.2.2.2 (tb.1 z)]
    refine br_n (fun y => ?_) w1
    have y := (nI_leI (b := 6) (show tk_cod t.1 < 2 ^ 31 by omega) (by omega)).mp y
    have := tb.2.2.1 z y
    have := T.2.2.2.2
    omega
/-- the end of a line -/
theorem mm_semi {b : Nat → Nat} {n : Nat} {t : Tk} {m : ck_H} {Q : ck_H → Prop} (C : MT b n t m) (q0 : t.1 = 4 → ∀ m', FW m m' → MT b n (nxt b n t) m' → Q (ck_sI m' 0 20 (m'.1 0 20 + 1))) (q1 : ¬ t.1 = 4 → ∀ m', FU m m' → MFt 1 t m' → Q m') : wp_X12_line_438 Q m := by
  unfold wp_X12_line_438
  refine br_p C.2.2.2 ?_
  rw [show (59 : Int32) = nI (tk_cod 4) by decide]
  refine mm_isSign (q := 4) C.2.1 C.2.2.1 C.2.2.2 (by omega) (by omega) (fun z => br_m (by decide) (C.nx (fun m' f' c' => ?_))) (fun z => br_q rfl (C.bad (f := 1) (by omega) (by omega) (fun m' f' B => ?_)))
  · unfold wp_X12_line_467
    rintro _ rfl
    exact q0 z m' f' c'
  · unfold wp_X12_line_467
    rintro _ rfl
    have a20 : alw 0 20 := Or.inl ⟨rfl, Or.inr (Or.inl rfl)⟩
    exact q1 z _ ((FU.fw f').tr (FU.set _ _ a20)) (B.set a20)
