/-! lines: the class -/
def frun (nx : Tk → Tk) : List (Tk → Nat) → Tk → Nat × Tk
  | [], t => (0, t)
  | g :: r, t => if g t = 0 then frun nx r (nx t) else (g t, t)
theorem frun_0 {nx : Tk → Tk} {g : Tk → Nat} {r : List (Tk → Nat)} {t : Tk} (h : g t = 0) : frun nx (g :: r) t = frun nx r (nx t) := by
  show (if g t = 0 then _ else _) = _
  rw [if_pos h]
theorem frun_1 {nx : Tk → Tk} {g : Tk → Nat} {r : List (Tk → Nat)} {t : Tk} (h : ¬ g t = 0) : frun nx (g :: r) t = (g t, t) := by
  show (if g t = 0 then _ else _) = _
  rw [if_neg h]
theorem tx_full {o J M : Nat} {h : ck_H} {Q : Int32 → ck_H → Prop} (e : h.1 o 1 = nI J) (hM : ck_ln ck_shX (o + 1) = M) (h4 : M < 1000) (hJ : J ≤ M) (q : Q (if J < M then 0 else 1) h) : wp_X5_isFull o h Q := by
  unfold wp_X5_isFull
  rw [e, hM]
  refine ⟨fun z => ?_, fun z => ?_⟩
  · rw [if_pos ((nI_ltI (by omega) (by omega)).mp z)] at q; exact q
  · rw [if_neg (fun y => z ((nI_ltI (by omega) (by omega)).mpr y))] at q; exact q
theorem tx_nadd {o J M : Nat} {x : Int32} {h : ck_H} {Q : ck_H → Prop} (e : h.1 o 1 = nI J) (hM : ck_ln ck_shX (o + 1) = M) (h4 : M < 1000) (hJ : J < M) (q : Q (ck_sI (ck_sI h (o + 1) J x) o 1 (nI (J + 1)))) : wp_X5_add o x h Q := by
  unfold wp_X5_add
  rw [e, hM, nI_clamp (by omega)]
  refine br_n (nI_ge hJ (by omega)) ⟨pu_in hJ (by omega), ?_⟩
  rintro _ rfl
  rw [ck_sI_ne _ _ _ (by omega), e, nI_1]
  rintro _ rfl
  exact q
def fCap (J M : Nat) (_ : Tk) : Nat := if J < M then 0 else 2
/-- the fields of a judge's line -/
def lJ (g : Nat → Int32) (J : Nat) : List (Tk → Nat) := [fCap J 4, fNew g J, fNum 1 99, fNum 0 9]
theorem tx_judge {b : Nat → Nat} {n J : Nat} {t : Tk} {h : ck_H} {Q : ck_H → Prop} (C : CT b n t h) (hJ : J ≤ 4) (eJ : h.1 54 1 = nI J)
    (q0 : (frun (nxt b n) (lJ (h.1 55) J) t).1 = 0 → J < 4 → (nxt b n (nxt b n t)).2.1 ≤ 99 → (nxt b n (nxt b n (nxt b n t))).2.1 ≤ 9 → ∀ h4, FF h h4 → CT b n (nxt b n (nxt b n (nxt b n (nxt b n t)))) h4 → Q (ck_sI (ck_sI (ck_sI (ck_sI h4 55 J (nI (nxt b n t).2.1)) 54 1 (nI (J + 1))) 56 J (nI (nxt b n (nxt b n t)).2.1)) 57 J (nI (nxt b n (nxt b n (nxt b n t))).2.1)))
    (q1 : ¬ (frun (nxt b n) (lJ (h.1 55) J) t).1 = 0 → ∀ h', FF h h' → CFt (frun (nxt b n) (lJ (h.1 55) J) t).1 (frun (nxt b n) (lJ (h.1 55) J) t).2 h' → Q h') : wp_X9_readJudge h Q := by
  have in4 : J < 4 → vp_in (nI J) 4 := fun hj => pu_in hj (by decide)
  unfold lJ at q0 q1
  unfold wp_X9_readJudge
  rintro _ rfl
  refine tx_full eJ (M := 4) rfl (by omega) hJ ?_
  have main : wp_X9_readJudge_24 Q (nI J) (nI (fCap J 4 t)) h := by
    unfold wp_X9_readJudge_24
    refine tx_word C (by unfold fCap; split <;> omega) (fun z h1 f1 C1 => ?_) (fun z h1 f1 B => ?_)
    · have hj : J < 4 := by
        unfold fCap at z
        by_cases c : J < 4
        · exact c
        · rw [if_neg c] at z; omega
      rw [frun_0 z] at q0 q1
      have e55 : h1.1 55 = h.1 55 := f1.1 55 (by decide) (by decide)
      refine tx_new (o := 54) (c := J) C1 (by show J ≤ 4; omega) (by show 4 < 1000; omega) (by rw [f1.1 54 (by decide) (by decide)]; exact eJ) (fun z h2 f2 C2 => ?_) (fun z v h2 f2 B => ?_)
      · rw [e55] at z
        rw [frun_0 z] at q0 q1
        refine tx_num (lo := 1) (hi := 99) C2 (by omega) (by omega) (fun z l2 h3 f3 C3 => ?_) (fun z v h3 f3 B => ?_)
        · rw [frun_0 z] at q0 q1
          refine tx_num (lo := 0) (hi := 9) C3 (by omega) (by omega) (fun z l3 h4 f4 C4 => ?_) (fun z v h4 f4 B => ?_)
          · rw [frun_0 z] at q0
            have ff := ((f1.tr f2).tr f3).tr f4
            refine br_q C4.2.2.2.2 (tx_nadd (o := 54) (J := J) (M := 4) (by rw [ff.1 54 (by decide) (by decide)]; exact eJ) rfl (by omega) hj ?_)
            rw [nI_clamp (n := J) (by omega)]
            refine ⟨in4 hj, ?_⟩
            rintro _ rfl
            refine ⟨in4 hj, ?_⟩
            rintro _ rfl
            exact q0 rfl hj l2 l3 h4 ff C4
          · rw [frun_1 z] at q1
            exact br_m B.n0 (q1 z h4 (((f1.tr f2).tr f3).tr f4) B)
        · rw [frun_1 z] at q1
          exact tx_numF B.n0 (fun v => br_m B.n0 (q1 z h3 ((f1.tr f2).tr f3) B))
      · rw [e55] at z B
        rw [frun_1 z] at q1
        exact tx_numF B.n0 (fun v => tx_numF B.n0 (fun v => br_m B.n0 (q1 z h2 (f1.tr f2) B)))
    · rw [frun_1 z] at q1
      exact tx_newF B.n0 (fun v => tx_numF B.n0 (fun v => tx_numF B.n0 (fun v => br_m B.n0 (q1 z h1 f1 B))))
  by_cases c : J < 4
  · rw [if_pos c]
    have e0 : fCap J 4 t = 0 := by unfold fCap; rw [if_pos c]
    rw [e0] at main
    rw [eJ]
    exact br_p rfl main
  · rw [if_neg c]
    have e0 : fCap J 4 t = 2 := by unfold fCap; rw [if_neg c]
    rw [e0] at main
    rw [eJ]
    exact br_n (by decide) main
/-- the fields of a nut's line -/
def lN' (g : Nat → Int32) (J : Nat) : List (Tk → Nat) := [fCap J 6, fNew g J, fNum 0 99, fNum 0 99, fNum 0 9]
theorem tx_nut {b : Nat → Nat} {n J : Nat} {t : Tk} {h : ck_H} {Q : ck_H → Prop} (C : CT b n t h) (hJ : J ≤ 6) (eJ : h.1 58 1 = nI J)
    (q0 : (frun (nxt b n) (lN' (h.1 59) J) t).1 = 0 → J < 6 → (nxt b n (nxt b n t)).2.1 ≤ 99 → (nxt b n (nxt b n (nxt b n t))).2.1 ≤ 99 → ∀ h4, FF h h4 → CT b n (nxt b n (nxt b n (nxt b n (nxt b n (nxt b n t))))) h4 → Q (ck_sI (ck_sI (ck_sI (ck_sI (ck_sI h4 59 J (nI (nxt b n t).2.1)) 58 1 (nI (J + 1))) 60 J (nI (nxt b n (nxt b n t)).2.1)) 61 J (nI (nxt b n (nxt b n (nxt b n t))).2.1)) 62 J (nI (nxt b n (nxt b n (nxt b n (nxt b n t)))).2.1)))
    (q1 : ¬ (frun (nxt b n) (lN' (h.1 59) J) t).1 = 0 → ∀ h', FF h h' → CFt (frun (nxt b n) (lN' (h.1 59) J) t).1 (frun (nxt b n) (lN' (h.1 59) J) t).2 h' → Q h') : wp_X9_readNut h Q := by
  have in4 : J < 6 → vp_in (nI J) 6 := fun hj => pu_in hj (by decide)
  unfold lN' at q0 q1
  unfold wp_X9_readNut
  rintro _ rfl
  refine tx_full eJ (M := 6) rfl (by omega) hJ ?_
  have main : wp_X9_readNut_24 Q (nI J) (nI (fCap J 6 t)) h := by
    unfold wp_X9_readNut_24
    refine tx_word C (by unfold fCap; split <;> omega) (fun z h1 f1 C1 => ?_) (fun z h1 f1 B => ?_)
    · have hj : J < 6 := by
        unfold fCap at z
        by_cases c : J < 6
        · exact c
        · rw [if_neg c] at z; omega
      rw [frun_0 z] at q0 q1
      have e55 : h1.1 59 = h.1 59 := f1.1 59 (by decide) (by decide)
      refine tx_new (o := 58) (c := J) C1 (by show J ≤ 6; omega) (by show 6 < 1000; omega) (by rw [f1.1 58 (by decide) (by decide)]; exact eJ) (fun z h2 f2 C2 => ?_) (fun z v h2 f2 B => ?_)
      · rw [e55] at z
        rw [frun_0 z] at q0 q1
        refine tx_num (lo := 0) (hi := 99) C2 (by omega) (by omega) (fun z l2 h3 f3 C3 => ?_) (fun z v h3 f3 B => ?_)
        · rw [frun_0 z] at q0 q1
          refine tx_num (lo := 0) (hi := 99) C3 (by omega) (by omega) (fun z l3 h4 f4 C4 => ?_) (fun z v h4 f4 B => ?_)
          · rw [frun_0 z] at q0 q1
            refine tx_num (lo := 0) (hi := 9) C4 (by omega) (by omega) (fun z l4 h5 f5 C5 => ?_) (fun z v h5 f5 B => ?_)
            · rw [frun_0 z] at q0
              have ff := (((f1.tr f2).tr f3).tr f4).tr f5
              refine br_q C5.2.2.2.2 (tx_nadd (o := 58) (J := J) (M := 6) (by rw [ff.1 58 (by decide) (by decide)]; exact eJ) rfl (by omega) hj ?_)
              rw [nI_clamp (n := J) (by omega)]
              refine ⟨in4 hj, ?_⟩
              rintro _ rfl
              refine ⟨in4 hj, ?_⟩
              rintro _ rfl
              refine ⟨in4 hj, ?_⟩
              rintro _ rfl
              exact q0 rfl hj l2 l3 h5 ff C5
            · rw [frun_1 z] at q1
              exact br_m B.n0 (q1 z h5 ((((f1.tr f2).tr f3).tr f4).tr f5) B)
          · rw [frun_1 z] at q1
            exact tx_numF B.n0 (fun v => br_m B.n0 (q1 z h4 (((f1.tr f2).tr f3).tr f4) B))
        · rw [frun_1 z] at q1
          exact tx_numF B.n0 (fun v => tx_numF B.n0 (fun v => br_m B.n0 (q1 z h3 ((f1.tr f2).tr f3) B)))
      · rw [e55] at z B
        rw [frun_1 z] at q1
        exact tx_numF B.n0 (fun v => tx_numF B.n0 (fun v => tx_numF B.n0 (fun v => br_m B.n0 (q1 z h2 (f1.tr f2) B))))
    · rw [frun_1 z] at q1
      exact tx_newF B.n0 (fun v => tx_numF B.n0 (fun v => tx_numF B.n0 (fun v => tx_numF B.n0 (fun v => br_m B.n0 (q1 z h1 f1 B)))))
  by_cases c : J < 6
  · rw [if_pos c]
    have e0 : fCap J 6 t = 0 := by unfold fCap; rw [if_pos c]
    rw [e0] at main
    rw [eJ]
    exact br_p rfl main
  · rw [if_neg c]
    have e0 : fCap J 6 t = 2 := by unfold fCap; rw [if_neg c]
    rw [e0] at main
    rw [eJ]
    exact br_n (by decide) main
/-- the fields of a suit's line -/
def lS (g gj gn : Nat → Int32) (S J N : Nat) : List (Tk → Nat) := [fCap S 10, fNew g S, fTold gj J, fTold gn N, fNum 0 99]
theorem tx_suit {b : Nat → Nat} {n S J N : Nat} {t : Tk} {h : ck_H} {Q : ck_H → Prop} (C : CT b n t h) (hS : S ≤ 10) (eS : h.1 63 1 = nI S) (hJ : J ≤ 4) (eJ : h.1 54 1 = nI J) (hN : N ≤ 6) (eN : h.1 58 1 = nI N)
    (q0 : (frun (nxt b n) (lS (h.1 64) (h.1 55) (h.1 59) S J N) t).1 = 0 → S < 10 → ¬ fi (h.1 55) (nI (nxt b n (nxt b n t)).2.1) J 0 = -1 → ¬ fi (h.1 59) (nI (nxt b n (nxt b n (nxt b n t))).2.1) N 0 = -1 → (nxt b n (nxt b n (nxt b n (nxt b n t)))).2.1 ≤ 99 → ∀ h4, FF h h4 → CT b n (nxt b n (nxt b n (nxt b n (nxt b n (nxt b n t))))) h4 → Q (ck_sI (ck_sI (ck_sI (ck_sI (ck_sI h4 64 S (nI (nxt b n t).2.1)) 63 1 (nI (S + 1))) 65 S (fi (h.1 55) (nI (nxt b n (nxt b n t)).2.1) J 0)) 66 S (fi (h.1 59) (nI (nxt b n (nxt b n (nxt b n t))).2.1) N 0)) 67 S (nI (nxt b n (nxt b n (nxt b n (nxt b n t)))).2.1)))
    (q1 : ¬ (frun (nxt b n) (lS (h.1 64) (h.1 55) (h.1 59) S J N) t).1 = 0 → ∀ h', FF h h' → CFt (frun (nxt b n) (lS (h.1 64) (h.1 55) (h.1 59) S J N) t).1 (frun (nxt b n) (lS (h.1 64) (h.1 55) (h.1 59) S J N) t).2 h' → Q h') : wp_X9_readSuit h Q := by
  have in4 : S < 10 → vp_in (nI S) 10 := fun hj => pu_in hj (by decide)
  have j4 : ∀ h1, FF h h1 → h1.1 54 1 = nI J := fun h1 f => by rw [f.1 54 (by decide) (by decide)]; exact eJ
  have n6 : ∀ h1, FF h h1 → h1.1 58 1 = nI N := fun h1 f => by rw [f.1 58 (by decide) (by decide)]; exact eN
  have tF1 : ∀ h1 (R : Int32 → ck_H → Prop), FF h h1 → ¬ h1.1 2 2 = 0 → (∀ v, R v h1) → wp_X9_takeToldName 54 h1 R := fun h1 R f e q => tx_toldF (o := 54) (c := J) (by show J ≤ 4; omega) (by show 4 < 1000; omega) (j4 h1 f) e q
  have tF2 : ∀ h1 (R : Int32 → ck_H → Prop), FF h h1 → ¬ h1.1 2 2 = 0 → (∀ v, R v h1) → wp_X9_takeToldName 58 h1 R := fun h1 R f e q => tx_toldF (o := 58) (c := N) (by show N ≤ 6; omega) (by show 6 < 1000; omega) (n6 h1 f) e q
  unfold lS at q0 q1
  unfold wp_X9_readSuit
  rintro _ rfl
  refine tx_full eS (M := 10) rfl (by omega) hS ?_
  have main : wp_X9_readSuit_24 Q (nI S) (nI (fCap S 10 t)) h := by
    unfold wp_X9_readSuit_24
    refine tx_word C (by unfold fCap; split <;> omega) (fun z h1 f1 C1 => ?_) (fun z h1 f1 B => ?_)
    · have hj : S < 10 := by
        unfold fCap at z
        by_cases c : S < 10
        · exact c
        · rw [if_neg c] at z; omega
      rw [frun_0 z] at q0 q1
      have e64 : h1.1 64 = h.1 64 := f1.1 64 (by decide) (by decide)
      refine tx_new (o := 63) (c := S) C1 (by show S ≤ 10; omega) (by show 10 < 1000; omega) (by rw [f1.1 63 (by decide) (by decide)]; exact eS) (fun z h2 f2 C2 => ?_) (fun z v h2 f2 B => ?_)
      · rw [e64] at z
        rw [frun_0 z] at q0 q1
        have g2 := f1.tr f2
        have e55 : h2.1 55 = h.1 55 := g2.1 55 (by decide) (by decide)
        refine tx_told (o := 54) (c := J) C2 (by show J ≤ 4; omega) (by show 4 < 1000; omega) (j4 h2 g2) (fun z y1 h3 f3 C3 => ?_) (fun z v h3 f3 B => ?_)
        · rw [e55] at z y1 ⊢
          rw [frun_0 z] at q0 q1
          have g3 := g2.tr f3
          have e59 : h3.1 59 = h.1 59 := g3.1 59 (by decide) (by decide)
          refine tx_told (o := 58) (c := N) C3 (by show N ≤ 6; omega) (by show 6 < 1000; omega) (n6 h3 g3) (fun z y2 h4 f4 C4 => ?_) (fun z v h4 f4 B => ?_)
          · rw [e59] at z y2 ⊢
            rw [frun_0 z] at q0 q1
            refine tx_num (lo := 0) (hi := 99) C4 (by omega) (by omega) (fun z l4 h5 f5 C5 => ?_) (fun z v h5 f5 B => ?_)
            · rw [frun_0 z] at q0
              have ff := (g3.tr f4).tr f5
              refine br_q C5.2.2.2.2 (tx_nadd (o := 63) (J := S) (M := 10) (by rw [ff.1 63 (by decide) (by decide)]; exact eS) rfl (by omega) hj ?_)
              rw [nI_clamp (n := S) (by omega)]
              refine ⟨in4 hj, ?_⟩
              rintro _ rfl
              refine ⟨in4 hj, ?_⟩
              rintro _ rfl
              refine ⟨in4 hj, ?_⟩
              rintro _ rfl
              exact q0 rfl hj y1 y2 l4 h5 ff C5
            · rw [frun_1 z] at q1
              exact br_m B.n0 (q1 z h5 ((g3.tr f4).tr f5) B)
          · rw [e59] at z B
            rw [frun_1 z] at q1
            exact tx_numF B.n0 (fun v => br_m B.n0 (q1 z h4 (g3.tr f4) B))
        · rw [e55] at z B
          rw [frun_1 z] at q1
          exact tF2 h3 _ (g2.tr f3) B.n0 (fun v => tx_numF B.n0 (fun v => br_m B.n0 (q1 z h3 (g2.tr f3) B)))
      · rw [e64] at z B
        rw [frun_1 z] at q1
        exact tF1 h2 _ (f1.tr f2) B.n0 (fun v => tF2 h2 _ (f1.tr f2) B.n0 (fun v => tx_numF B.n0 (fun v => br_m B.n0 (q1 z h2 (f1.tr f2) B))))
    · rw [frun_1 z] at q1
      exact tx_newF B.n0 (fun v => tF1 h1 _ f1 B.n0 (fun v => tF2 h1 _ f1 B.n0 (fun v => tx_numF B.n0 (fun v => br_m B.n0 (q1 z h1 f1 B)))))
  by_cases c : S < 10
  · rw [if_pos c]
    have e0 : fCap S 10 t = 0 := by unfold fCap; rw [if_pos c]
    rw [e0] at main
    rw [eS]
    exact br_p rfl main
  · rw [if_neg c]
    have e0 : fCap S 10 t = 2 := by unfold fCap; rw [if_neg c]
    rw [e0] at main
    rw [eS]
    exact br_n (by decide) main
