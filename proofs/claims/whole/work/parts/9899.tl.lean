theorem tx_LG {b : Nat → Nat} {n J N S : Nat} {u : List (Nat × Nat)} {t : Tk} {h : ck_H} {Q : ck_H → Prop} (C : CT b n t h) (R : rdC J N S u h)
    (q0 : ∀ t1 h1, LG b n t h t1 h1 → FDr h h1 → CT b n t1 h1 → Q h1) (q1 : ∀ f tt h1, LB b n t h f tt → FDr h h1 → CFt f tt h1 → Q h1) : wp_X9_readLine h Q := by
  obtain ⟨⟨hJ, eJ⟩, ⟨hN, eN⟩, ⟨hS, eS⟩, O, hu, hl⟩ := R
  have T := C.2.1
  refine tx_line T.2.2.1 C.2.2.2.1.1 (fun z => ?_) (fun z => ?_) (fun z => ?_) (fun z => ?_) (fun z => ?_) (fun z => ?_) (fun z => ?_) (fun z1 z2 => ?_)
  · refine tx_judge C hJ eJ (fun a1 a2 a3 a4 h4 f4 C4 => q0 _ _ (Or.inl ⟨J, z, a2, eJ, a1, a3, a4, ?_, ?_, ?_, ?_, rfl⟩) ((FDr.ff f4).tr ((((FDr.set _ _ (by omega)).tr (FDr.set _ _ (by omega))).tr (FDr.set _ _ (by omega))).tr (FDr.set _ _ (by omega)))) ?_) (fun a1 h' f' B => q1 _ _ h' (Or.inl ⟨J, z, hJ, eJ, a1, rfl⟩) (FDr.ff f') B)
    · intro a n1 n2
      rw [ck_sI_ne _ _ _ (by omega), ck_sI_ne _ _ _ (by omega), ck_sI_ne _ _ _ (by omega), ck_sI_ne _ _ _ (by omega), f4.1 a (by omega) (by omega)]
    · rw [ck_sI_ne _ _ _ (by omega), ck_sI_ne _ _ _ (by omega), ck_sI_at]
    · intro j hj
      refine ⟨?_, ?_, ?_⟩
      · rw [ck_sI_ne _ _ _ (by omega), ck_sI_ne _ _ _ (by omega), ck_sI_ne _ _ _ (by omega), ck_sI_nj _ _ (by omega), f4.1 55 (by omega) (by omega)]
      · rw [ck_sI_ne _ _ _ (by omega), ck_sI_nj _ _ (by omega), ck_sI_ne _ _ _ (by omega), ck_sI_ne _ _ _ (by omega), f4.1 56 (by omega) (by omega)]
      · rw [ck_sI_nj _ _ (by omega), ck_sI_ne _ _ _ (by omega), ck_sI_ne _ _ _ (by omega), ck_sI_ne _ _ _ (by omega), f4.1 57 (by omega) (by omega)]
    · refine ⟨?_, ?_, ck_sI_at ..⟩
      · rw [ck_sI_ne _ _ _ (by omega), ck_sI_ne _ _ _ (by omega), ck_sI_ne _ _ _ (by omega), ck_sI_at]
      · rw [ck_sI_ne _ _ _ (by omega), ck_sI_at]
    · refine ⟨⟨C4.1.1, ?_, ?_, ?_⟩, C4.2.1, C4.2.2.1, C4.2.2.2.1.of ?_, ?_⟩
      · rw [ck_sI_ne _ _ _ (by omega), ck_sI_ne _ _ _ (by omega), ck_sI_ne _ _ _ (by omega), ck_sI_ne _ _ _ (by omega)]; exact C4.1.2.1
      · rw [ck_sI_ne _ _ _ (by omega), ck_sI_ne _ _ _ (by omega), ck_sI_ne _ _ _ (by omega), ck_sI_ne _ _ _ (by omega)]; exact C4.1.2.2.1
      · rw [ck_sI_ne _ _ _ (by omega), ck_sI_ne _ _ _ (by omega), ck_sI_ne _ _ _ (by omega), ck_sI_ne _ _ _ (by omega)]; exact C4.1.2.2.2
      · rw [ck_sI_ne _ _ _ (by omega), ck_sI_ne _ _ _ (by omega), ck_sI_ne _ _ _ (by omega), ck_sI_ne _ _ _ (by omega)]
      · rw [ck_sI_ne _ _ _ (by omega), ck_sI_ne _ _ _ (by omega), ck_sI_ne _ _ _ (by omega), ck_sI_ne _ _ _ (by omega)]; exact C4.2.2.2.2
  all_goals sorry
