theorem fNum_0 {lo hi : Nat} {t : Tk} (h : fNum lo hi t = 0) : t.1 = 2 ∧ lo ≤ t.2.1 ∧ t.2.1 ≤ hi := by
  unfold fNum at h
  by_cases c : t.1 = 2
  · rw [if_neg (fun z => z c)] at h
    by_cases c2 : t.2.1 < lo ∨ hi < t.2.1
    · rw [if_pos c2] at h; omega
    · exact ⟨c, by omega, by omega⟩
  · rw [if_pos c] at h; omega
def fDup (d : Prop) [Decidable d] (_ : Tk) : Nat := if d then 3 else 0
theorem tx_lever {b : Nat → Nat} {n : Nat} {t : Tk} {h : ck_H} {Q : ck_H → Prop} (C : CT b n t h)
    (q0 : (frun (nxt b n) [fDup (¬ h.1 53 14 = 0), fNum 1 99] t).1 = 0 → 1 ≤ (nxt b n t).2.1 → (nxt b n t).2.1 ≤ 99 → ∀ h2, FF h h2 → CT b n (nxt b n (nxt b n t)) h2 → Q (ck_sI (ck_sI h2 53 12 (nI (nxt b n t).2.1)) 53 14 1))
    (q1 : ¬ (frun (nxt b n) [fDup (¬ h.1 53 14 = 0), fNum 1 99] t).1 = 0 → ∀ h2 v, FF h h2 → CFt (frun (nxt b n) [fDup (¬ h.1 53 14 = 0), fNum 1 99] t).1 (frun (nxt b n) [fDup (¬ h.1 53 14 = 0), fNum 1 99] t).2 h2 → Q (ck_sI (ck_sI h2 53 12 v) 53 14 1)) : wp_X9_readLever h Q := by
  unfold wp_X9_readLever
  have main : wp_X9_readLever_13 Q (nI (fDup (¬ h.1 53 14 = 0) t)) h := by
    unfold wp_X9_readLever_13
    refine tx_word C (by unfold fDup; split <;> omega) (fun z h1 f1 C1 => ?_) (fun z h1 f1 B => ?_)
    · rw [frun_0 z] at q0 q1
      refine tx_num (lo := 1) (hi := 99) C1 (by omega) (by omega) (fun z l2 h3 f3 C3 => ?_) (fun z v h3 f3 B => ?_)
      · rw [frun_0 z] at q0
        rintro _ rfl _ rfl
        exact q0 rfl (fNum_0 z).2.1 l2 h3 (f1.tr f3) C3
      · rw [frun_1 z] at q1
        rintro _ rfl _ rfl
        exact q1 z h3 v (f1.tr f3) B
    · rw [frun_1 z] at q1
      refine tx_numF B.n0 (fun v => ?_)
      rintro _ rfl _ rfl
      exact q1 z h1 v f1 B
  by_cases c : h.1 53 14 = 0
  · have e0 : fDup (¬ h.1 53 14 = 0) t = 0 := by unfold fDup; rw [if_neg (fun z => z c)]
    rw [e0] at main
    exact br_p c main
  · have e0 : fDup (¬ h.1 53 14 = 0) t = 3 := by unfold fDup; rw [if_pos c]
    rw [e0] at main
    exact br_n c main
theorem tx_vacation {b : Nat → Nat} {n : Nat} {t : Tk} {h : ck_H} {Q : ck_H → Prop} (C : CT b n t h)
    (q0 : (frun (nxt b n) [fDup (¬ h.1 53 15 = 0), fNum 0 30] t).1 = 0 → (nxt b n t).2.1 ≤ 30 → ∀ h2, FF h h2 → CT b n (nxt b n (nxt b n t)) h2 → Q (ck_sI (ck_sI h2 53 13 (nI (nxt b n t).2.1)) 53 15 1))
    (q1 : ¬ (frun (nxt b n) [fDup (¬ h.1 53 15 = 0), fNum 0 30] t).1 = 0 → ∀ h2 v, FF h h2 → CFt (frun (nxt b n) [fDup (¬ h.1 53 15 = 0), fNum 0 30] t).1 (frun (nxt b n) [fDup (¬ h.1 53 15 = 0), fNum 0 30] t).2 h2 → Q (ck_sI (ck_sI h2 53 13 v) 53 15 1)) : wp_X9_readVacation h Q := by
  unfold wp_X9_readVacation
  have main : wp_X9_readVacation_13 Q (nI (fDup (¬ h.1 53 15 = 0) t)) h := by
    unfold wp_X9_readVacation_13
    refine tx_word C (by unfold fDup; split <;> omega) (fun z h1 f1 C1 => ?_) (fun z h1 f1 B => ?_)
    · rw [frun_0 z] at q0 q1
      refine tx_num (lo := 0) (hi := 30) C1 (by omega) (by omega) (fun z l2 h3 f3 C3 => ?_) (fun z v h3 f3 B => ?_)
      · rw [frun_0 z] at q0
        rintro _ rfl _ rfl
        exact q0 rfl l2 h3 (f1.tr f3) C3
      · rw [frun_1 z] at q1
        rintro _ rfl _ rfl
        exact q1 z h3 v (f1.tr f3) B
    · rw [frun_1 z] at q1
      refine tx_numF B.n0 (fun v => ?_)
      rintro _ rfl _ rfl
      exact q1 z h1 v f1 B
  by_cases c : h.1 53 15 = 0
  · have e0 : fDup (¬ h.1 53 15 = 0) t = 0 := by unfold fDup; rw [if_neg (fun z => z c)]
    rw [e0] at main
    exact br_p c main
  · have e0 : fDup (¬ h.1 53 15 = 0) t = 3 := by unfold fDup; rw [if_pos c]
    rw [e0] at main
    exact br_n c main
theorem tx_seed {b : Nat → Nat} {n : Nat} {t : Tk} {h : ck_H} {Q : ck_H → Prop} (C : CT b n t h)
    (q0 : (frun (nxt b n) [fDup (¬ h.1 53 16 = 0), fNum 0 99999] t).1 = 0 → ∀ h2, FF h h2 → CT b n (nxt b n (nxt b n t)) h2 → Q (ck_sI h2 53 16 1))
    (q1 : ¬ (frun (nxt b n) [fDup (¬ h.1 53 16 = 0), fNum 0 99999] t).1 = 0 → ∀ h2, FF h h2 → CFt (frun (nxt b n) [fDup (¬ h.1 53 16 = 0), fNum 0 99999] t).1 (frun (nxt b n) [fDup (¬ h.1 53 16 = 0), fNum 0 99999] t).2 h2 → Q (ck_sI h2 53 16 1)) : wp_X9_readSeed h Q := by
  unfold wp_X9_readSeed
  have main : wp_X9_readSeed_13 Q (nI (fDup (¬ h.1 53 16 = 0) t)) h := by
    unfold wp_X9_readSeed_13
    refine tx_word C (by unfold fDup; split <;> omega) (fun z h1 f1 C1 => ?_) (fun z h1 f1 B => ?_)
    · rw [frun_0 z] at q0 q1
      refine tx_num (lo := 0) (hi := 99999) C1 (by omega) (by omega) (fun z l2 h3 f3 C3 => ?_) (fun z v h3 f3 B => ?_)
      · rw [frun_0 z] at q0
        rintro _ rfl
        exact q0 rfl h3 (f1.tr f3) C3
      · rw [frun_1 z] at q1
        rintro _ rfl
        exact q1 z h3 (f1.tr f3) B
    · rw [frun_1 z] at q1
      refine tx_numF B.n0 (fun v => ?_)
      rintro _ rfl
      exact q1 z h1 f1 B
  by_cases c : h.1 53 16 = 0
  · have e0 : fDup (¬ h.1 53 16 = 0) t = 0 := by unfold fDup; rw [if_neg (fun z => z c)]
    rw [e0] at main
    exact br_p c main
  · have e0 : fDup (¬ h.1 53 16 = 0) t = 3 := by unfold fDup; rw [if_pos c]
    rw [e0] at main
    exact br_n c main
/-- which law, and told already or not -/
def fLaw (tl : Nat → Bool) (t : Tk) : Nat := if ¬ (26 ≤ t.1 ∧ t.1 ≤ 28) then 1 else if tl (t.1 - 26) = true then 3 else 0
theorem lw_tab : ∀ k, k < 39 → (k < 26 → nI k - 26 < 0) ∧ (26 ≤ k → nI k - 26 = nI (k - 26)) := by decide +kernel
theorem tx_law {b : Nat → Nat} {n : Nat} {t : Tk} {h : ck_H} {Q : ck_H → Prop} {fr to : Nat → Nat} {tl : Nat → Bool} (C : CT b n t h) (hk : ∀ k, k < 3 → h.1 71 k = nI (fr k) ∧ h.1 72 k = nI (to k) ∧ fr k ≤ 64 ∧ to k ≤ 64 ∧ (tl k = true ↔ fr k < to k))
    (q0 : fLaw tl (nxt b n t) = 0 → 26 ≤ (nxt b n t).1 → (nxt b n t).1 ≤ 28 → ∀ h1, FF h h1 → CT b n (nxt b n (nxt b n t)) h1 → wp_X3_readInto (nI ((nxt b n t).1 - 26)) h1 (fun r12 h11 => ∀ h13, h13 = ck_sI h11 2 2 r12 → Q h13))
    (q1 : ¬ fLaw tl (nxt b n t) = 0 → ∀ h', FF h h' → CFt (fLaw tl (nxt b n t)) (nxt b n t) h' → Q h') : wp_X9_readLaw h Q := by
  unfold wp_X9_readLaw
  refine tx_word (f := 0) C (by omega) (fun _ h1 f1 C1 => ?_) (fun z => absurd rfl z)
  generalize nxt b n t = t1 at *
  rintro _ rfl
  have T := C1.2.1
  have t39 := T.2.2.1
  have tb := lw_tab t1.1 t39
  have bad1 : ¬ (26 ≤ t1.1 ∧ t1.1 ≤ 28) → wp_X9_readLaw_25 Q h1 := by
    intro z
    have ef : fLaw tl t1 = 1 := by unfold fLaw; rw [if_pos z]
    unfold wp_X9_readLaw_25
    rintro _ rfl
    exact q1 (by omega) _ (f1.tr (FF.s _ _)) (ef.symm ▸ C1.bad (f := 1) (by omega) (by omega))
  rw [C1.2.2.2.1.1]
  by_cases c26 : t1.1 < 26
  · exact br_p (tb.1 c26) (bad1 (by omega))
  · rw [tb.2 (by omega)]
    refine br_n (nI_pos (by omega)) ?_
    by_cases c3 : t1.1 - 26 < 3
    · refine br_p (nI_lt (b := 3) c3 (by omega)) ?_
      obtain ⟨k1, k2, k3, k4, k5⟩ := hk (t1.1 - 26) c3
      have ef : fLaw tl t1 = if tl (t1.1 - 26) = true then 3 else 0 := by unfold fLaw; rw [if_neg (by omega)]
      unfold wp_X4_isTold
      rw [nI_clamp (n := t1.1 - 26) (by omega), f1.1 71 (by decide) (by decide), f1.1 72 (by decide) (by decide), k1, k2]
      refine ⟨pu_in c3 (by decide), pu_in c3 (by decide), ?_⟩
      have ii : nI (to (t1.1 - 26)) ≤ nI (fr (t1.1 - 26)) ↔ to (t1.1 - 26) ≤ fr (t1.1 - 26) := nI_leI (by omega) (by omega)
      by_cases ct : tl (t1.1 - 26) = true
      · rw [if_pos ct] at ef
        have lt := k5.mp ct
        refine br_n (fun z => by have := ii.mp z; omega) (br_n (by decide) ?_)
        unfold wp_X9_readLaw_48
        refine tx_word (f := 3) C1 (by omega) (fun z => by omega) (fun _ h2 f2 B => br_m B.n0 (q1 (by omega) h2 (f1.tr f2) (ef.symm ▸ B)))
      · rw [if_neg ct] at ef
        refine br_p (ii.mpr ?_) (br_p rfl ?_)
        · have : ¬ fr (t1.1 - 26) < to (t1.1 - 26) := fun z => ct (k5.mpr z)
          omega
        · unfold wp_X9_readLaw_48
          refine tx_word (f := 0) C1 (by omega) (fun _ h2 f2 C2 => br_q C2.2.2.2.2 (q0 ef (by omega) (by omega) h2 (f1.tr f2) C2)) (fun z => absurd rfl z)
    · exact br_n (nI_nlt (b := 3) (by omega) (by omega)) (bad1 (by omega))
theorem tx_line {k : Nat} {h : ck_H} {Q : ck_H → Prop} (hk : k < 39) (e : h.1 3 4 = nI k) (q20 : k = 20 → wp_X9_readJudge h Q) (q21 : k = 21 → wp_X9_readNut h Q) (q22 : k = 22 → wp_X9_readSuit h Q) (q23 : k = 23 → wp_X9_readVacation h Q) (q24 : k = 24 → wp_X9_readSeed h Q) (q25 : k = 25 → wp_X9_readLaw h Q) (q36 : k = 36 → wp_X9_readLever h Q) (qe : ¬ (20 ≤ k ∧ k ≤ 25) → ¬ k = 36 → Q (ck_sI h 2 2 1)) : wp_X9_readLine h Q := by
  have w : ¬ (20 ≤ k ∧ k ≤ 25) → ¬ k = 36 → wp_X9_readLine_144 Q h := by
    intro a c
    unfold wp_X9_readLine_144
    rintro _ rfl
    exact qe a c
  unfold wp_X9_readLine
  rw [e]
  refine rk_br (c := 20) (by omega) (by omega) q20 (fun n20 => rk_br (c := 21) (by omega) (by omega) q21 (fun n21 => rk_br (c := 22) (by omega) (by omega) q22 (fun n22 => rk_br (c := 23) (by omega) (by omega) q23 (fun n23 => rk_br (c := 24) (by omega) (by omega) q24 (fun n24 => rk_br (c := 25) (by omega) (by omega) q25 (fun n25 => ?_))))))
  refine rk_br (c := 26) (by omega) (by omega) (fun z => w (by omega) (by omega)) (fun _ => rk_br (c := 27) (by omega) (by omega) (fun z => w (by omega) (by omega)) (fun _ => rk_br (c := 28) (by omega) (by omega) (fun z => w (by omega) (by omega)) (fun _ => rk_br (c := 29) (by omega) (by omega) (fun z => w (by omega) (by omega)) (fun _ => rk_br (c := 30) (by omega) (by omega) (fun z => w (by omega) (by omega)) (fun _ => ?_)))))
  refine rk_br (c := 31) (by omega) (by omega) (fun z => w (by omega) (by omega)) (fun _ => rk_br (c := 32) (by omega) (by omega) (fun z => w (by omega) (by omega)) (fun _ => rk_br (c := 33) (by omega) (by omega) (fun z => w (by omega) (by omega)) (fun _ => rk_br (c := 34) (by omega) (by omega) (fun z => w (by omega) (by omega)) (fun _ => rk_br (c := 35) (by omega) (by omega) (fun z => w (by omega) (by omega)) (fun _ => rk_br (c := 36) (by omega) (by omega) q36 (fun n36 => w (by omega) n36))))))
