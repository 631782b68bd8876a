theorem CT.set {b : Nat → Nat} {n a i : Nat} {v : Int32} {t : Tk} {h : ck_H} (C : CT b n t h) (ha : 53 ≤ a ∧ a ≤ 72) : CT b n t (ck_sI h a i v) := by
  refine ⟨⟨C.1.1, ?_, ?_, ?_⟩, C.2.1, C.2.2.1, C.2.2.2.1.of (ck_sI_ne _ _ _ (by omega)), ?_⟩
  · rw [ck_sI_ne _ _ _ (by omega)]; exact C.1.2.1
  · rw [ck_sI_ne _ _ _ (by omega)]; exact C.1.2.2.1
  · rw [ck_sI_ne _ _ _ (by omega)]; exact C.1.2.2.2
  · rw [ck_sI_ne _ _ _ (by omega)]; exact C.2.2.2.2
theorem CFt.setD {f a i : Nat} {v : Int32} {t : Tk} {h : ck_H} (C : CFt f t h) (ha : 53 ≤ a ∧ a ≤ 72) : CFt f t (ck_sI h a i v) :=
  ⟨C.1, C.2.1, by rw [ck_sI_ne _ _ _ (by omega)]; exact C.2.2.1, by rw [ck_sI_ne _ _ _ (by omega)]; exact C.2.2.2⟩
theorem tx_LG {b : Nat → Nat} {n J N S : Nat} {u : List (Nat × Nat)} {t : Tk} {h : ck_H} {Q : ck_H → Prop} (C : CT b n t h) (R : rdC J N S u h)
    (q0 : ∀ t1 h1, LG b n t h t1 h1 → FDr h h1 → CT b n t1 h1 → Q h1) (q1 : ∀ f tt h1, LB b n t h f tt → FDr h h1 → CFt f tt h1 → Q h1) : wp_X9_readLine h Q := by
  obtain ⟨⟨hJ, eJ⟩, ⟨hN, eN⟩, ⟨hS, eS⟩, O, hu, hl⟩ := R
  have T := C.2.1
  refine tx_line T.2.2.1 C.2.2.2.1.1 (fun z => ?_) (fun z => ?_) (fun z => ?_) (fun z => ?_) (fun z => ?_) (fun z => ?_) (fun z => ?_) (fun z1 z2 => ?_)
  · refine tx_judge C hJ eJ (fun a1 a2 a3 a4 h4 f4 C4 => q0 _ _ (Or.inl ⟨J, z, a2, eJ, a1, a3, a4, ?_, ?_, ?_, ?_, rfl⟩) ((FDr.ff f4).tr ((((FDr.set _ _ (by omega)).tr (FDr.set _ _ (by omega))).tr (FDr.set _ _ (by omega))).tr (FDr.set _ _ (by omega)))) ?_) (fun a1 h' f' B => q1 _ _ h' (Or.inl ⟨J, z, hJ, eJ, a1, rfl⟩) (FDr.ff f') B)
    · intro a n1 n2
      rw [ck_sI_ne _ _ _ (by omega), ck_sI_ne _ _ _ (by omega), ck_sI_ne _ _ _ (by omega), ck_sI_ne _ _ _ (by omega), f4.1 a (by omega) (by omega)]
    · rw [ck_sI_ne _ _ _ (by omega), ck_sI_ne _ _ _ (by omega), ck_sI_at]
    · intro j hj
      refine ⟨?_, ?_, ?_⟩
      · rw [ck_sI_ne _ _ _ (by omega), ck_sI_ne _ _ _ (by omega), ck_sI_ne _ _ _ (by omega), ck_sI_nj _ _ (by omega), f4.1 55 (by omega) (by omega)]
      · rw [ck_sI_ne _ _ _ (by omega), ck_sI_nj _ _ (by omega), ck_sI_ne _ _ _ (by omega), ck_sI_ne _ _ _ (by omega), f4.1 56 (by omega) (by omega)]
      · rw [ck_sI_nj _ _ (by omega), ck_sI_ne _ _ _ (by omega), ck_sI_ne _ _ _ (by omega), ck_sI_ne _ _ _ (by omega), f4.1 57 (by omega) (by omega)]
    · refine ⟨?_, ?_, ck_sI_at ..⟩
      · rw [ck_sI_ne _ _ _ (by omega), ck_sI_ne _ _ _ (by omega), ck_sI_ne _ _ _ (by omega), ck_sI_at]
      · rw [ck_sI_ne _ _ _ (by omega), ck_sI_at]
    · refine ⟨⟨C4.1.1, ?_, ?_, ?_⟩, C4.2.1, C4.2.2.1, C4.2.2.2.1.of ?_, ?_⟩
      · rw [ck_sI_ne _ _ _ (by omega), ck_sI_ne _ _ _ (by omega), ck_sI_ne _ _ _ (by omega), ck_sI_ne _ _ _ (by omega)]; exact C4.1.2.1
      · rw [ck_sI_ne _ _ _ (by omega), ck_sI_ne _ _ _ (by omega), ck_sI_ne _ _ _ (by omega), ck_sI_ne _ _ _ (by omega)]; exact C4.1.2.2.1
      · rw [ck_sI_ne _ _ _ (by omega), ck_sI_ne _ _ _ (by omega), ck_sI_ne _ _ _ (by omega), ck_sI_ne _ _ _ (by omega)]; exact C4.1.2.2.2
      · rw [ck_sI_ne _ _ _ (by omega), ck_sI_ne _ _ _ (by omega), ck_sI_ne _ _ _ (by omega), ck_sI_ne _ _ _ (by omega)]
      · rw [ck_sI_ne _ _ _ (by omega), ck_sI_ne _ _ _ (by omega), ck_sI_ne _ _ _ (by omega), ck_sI_ne _ _ _ (by omega)]; exact C4.2.2.2.2
  · refine tx_nut C hN eN (fun a1 a2 a3 a4 h4 f4 C4 => q0 _ _ (Or.inr (Or.inl ⟨N, z, a2, eN, a1, a3, a4, ?_, ?_, ?_, ?_, rfl⟩)) ((FDr.ff f4).tr (((((FDr.set _ _ (by omega)).tr (FDr.set _ _ (by omega))).tr (FDr.set _ _ (by omega))).tr (FDr.set _ _ (by omega))).tr (FDr.set _ _ (by omega)))) (((((C4.set (by omega)).set (by omega)).set (by omega)).set (by omega)).set (by omega))) (fun a1 h' f' B => q1 _ _ h' (Or.inr (Or.inl ⟨N, z, hN, eN, a1, rfl⟩)) (FDr.ff f') B)
    · intro a n1 n2
      rw [ck_sI_ne _ _ _ (by omega), ck_sI_ne _ _ _ (by omega), ck_sI_ne _ _ _ (by omega), ck_sI_ne _ _ _ (by omega), ck_sI_ne _ _ _ (by omega), f4.1 a (by omega) (by omega)]
    · rw [ck_sI_ne _ _ _ (by omega), ck_sI_ne _ _ _ (by omega), ck_sI_ne _ _ _ (by omega), ck_sI_at]
    · intro j hj
      refine ⟨?_, ?_, ?_, ?_⟩
      · rw [ck_sI_ne _ _ _ (by omega), ck_sI_ne _ _ _ (by omega), ck_sI_ne _ _ _ (by omega), ck_sI_ne _ _ _ (by omega), ck_sI_nj _ _ (by omega), f4.1 59 (by omega) (by omega)]
      · rw [ck_sI_ne _ _ _ (by omega), ck_sI_ne _ _ _ (by omega), ck_sI_nj _ _ (by omega), ck_sI_ne _ _ _ (by omega), ck_sI_ne _ _ _ (by omega), f4.1 60 (by omega) (by omega)]
      · rw [ck_sI_ne _ _ _ (by omega), ck_sI_nj _ _ (by omega), ck_sI_ne _ _ _ (by omega), ck_sI_ne _ _ _ (by omega), ck_sI_ne _ _ _ (by omega), f4.1 61 (by omega) (by omega)]
      · rw [ck_sI_nj _ _ (by omega), ck_sI_ne _ _ _ (by omega), ck_sI_ne _ _ _ (by omega), ck_sI_ne _ _ _ (by omega), ck_sI_ne _ _ _ (by omega), f4.1 62 (by omega) (by omega)]
    · refine ⟨?_, ?_, ?_, ck_sI_at ..⟩
      · rw [ck_sI_ne _ _ _ (by omega), ck_sI_ne _ _ _ (by omega), ck_sI_ne _ _ _ (by omega), ck_sI_ne _ _ _ (by omega), ck_sI_at]
      · rw [ck_sI_ne _ _ _ (by omega), ck_sI_ne _ _ _ (by omega), ck_sI_at]
      · rw [ck_sI_ne _ _ _ (by omega), ck_sI_at]
  · refine tx_suit C hS eS hJ eJ hN eN (fun a1 a2 y1 y2 a4 h4 f4 C4 => ?_) (fun a1 h' f' B => q1 _ _ h' (Or.inr (Or.inr (Or.inl ⟨S, J, N, z, hS, eS, eJ, eN, hJ, hN, a1, rfl⟩))) (FDr.ff f') B)
    obtain ⟨j0, _, j2, j3⟩ := fi_sp J 0 y1
    obtain ⟨n0, _, n2, n3⟩ := fi_sp N 0 y2
    rw [j3, n3]
    refine q0 _ _ (Or.inr (Or.inr (Or.inl ⟨J, N, S, j0, n0, z, a2, eS, eJ, eN, hJ, hN, a1, by omega, by omega, j3, n3, a4, ?_, ?_, ?_, ?_, rfl⟩))) ((FDr.ff f4).tr (((((FDr.set _ _ (by omega)).tr (FDr.set _ _ (by omega))).tr (FDr.set _ _ (by omega))).tr (FDr.set _ _ (by omega))).tr (FDr.set _ _ (by omega)))) (((((C4.set (by omega)).set (by omega)).set (by omega)).set (by omega)).set (by omega))
    · intro a n1 n2
      rw [ck_sI_ne _ _ _ (by omega), ck_sI_ne _ _ _ (by omega), ck_sI_ne _ _ _ (by omega), ck_sI_ne _ _ _ (by omega), ck_sI_ne _ _ _ (by omega), f4.1 a (by omega) (by omega)]
    · rw [ck_sI_ne _ _ _ (by omega), ck_sI_ne _ _ _ (by omega), ck_sI_ne _ _ _ (by omega), ck_sI_at]
    · intro j hj
      refine ⟨?_, ?_, ?_, ?_⟩
      · rw [ck_sI_ne _ _ _ (by omega), ck_sI_ne _ _ _ (by omega), ck_sI_ne _ _ _ (by omega), ck_sI_ne _ _ _ (by omega), ck_sI_nj _ _ (by omega), f4.1 64 (by omega) (by omega)]
      · rw [ck_sI_ne _ _ _ (by omega), ck_sI_ne _ _ _ (by omega), ck_sI_nj _ _ (by omega), ck_sI_ne _ _ _ (by omega), ck_sI_ne _ _ _ (by omega), f4.1 65 (by omega) (by omega)]
      · rw [ck_sI_ne _ _ _ (by omega), ck_sI_nj _ _ (by omega), ck_sI_ne _ _ _ (by omega), ck_sI_ne _ _ _ (by omega), ck_sI_ne _ _ _ (by omega), f4.1 66 (by omega) (by omega)]
      · rw [ck_sI_nj _ _ (by omega), ck_sI_ne _ _ _ (by omega), ck_sI_ne _ _ _ (by omega), ck_sI_ne _ _ _ (by omega), ck_sI_ne _ _ _ (by omega), f4.1 67 (by omega) (by omega)]
    · refine ⟨?_, ?_, ?_, ck_sI_at ..⟩
      · rw [ck_sI_ne _ _ _ (by omega), ck_sI_ne _ _ _ (by omega), ck_sI_ne _ _ _ (by omega), ck_sI_ne _ _ _ (by omega), ck_sI_at]
      · rw [ck_sI_ne _ _ _ (by omega), ck_sI_ne _ _ _ (by omega), ck_sI_at]
      · rw [ck_sI_ne _ _ _ (by omega), ck_sI_at]
  all_goals sorry
