theorem CT.set {b : Nat → Nat} {n a i : Nat} {v : Int32} {t : Tk} {h : ck_H} (C : CT b n t h) (ha : 53 ≤ a ∧ a ≤ 72) : CT b n t (ck_sI h a i v) := by
  refine ⟨⟨C.1.1, ?_, ?_, ?_⟩, C.2.1, C.2.2.1, C.2.2.2.1.of (ck_sI_ne _ _ _ (by omega)), ?_⟩
  · rw [ck_sI_ne _ _ _ (by omega)]; exact C.1.2.1
  · rw [ck_sI_ne _ _ _ (by omega)]; exact C.1.2.2.1
  · rw [ck_sI_ne _ _ _ (by omega)]; exact C.1.2.2.2
  · rw [ck_sI_ne _ _ _ (by omega)]; exact C.2.2.2.2
theorem CFt.setD {f a i : Nat} {v : Int32} {t : Tk} {h : ck_H} (C : CFt f t h) (ha : 53 ≤ a ∧ a ≤ 72) : CFt f t (ck_sI h a i v) :=
  ⟨C.1, C.2.1, by rw [ck_sI_ne _ _ _ (by omega)]; exact C.2.2.1, by rw [ck_sI_ne _ _ _ (by omega)]; exact C.2.2.2⟩
theorem fr2 {nx : Tk → Tk} {d : Int32} {lo hi : Nat} {t : Tk} (h : (frun nx [fDup (¬ d = 0), fNum lo hi] t).1 = 0) : d = 0 ∧ fNum lo hi (nx t) = 0 := by
  by_cases c : d = 0
  · have e0 : fDup (¬ d = 0) t = 0 := by unfold fDup; rw [if_neg (fun z => z c)]
    rw [frun_0 e0] at h
    by_cases c2 : fNum lo hi (nx t) = 0
    · exact ⟨c, c2⟩
    · rw [frun_1 c2] at h; exact absurd h c2
  · have e0 : ¬ fDup (¬ d = 0) t = 0 := by unfold fDup; rw [if_pos c]; omega
    rw [frun_1 e0] at h; exact absurd h e0
theorem tx_LG {b : Nat → Nat} {n J N S : Nat} {u : List (Nat × Nat)} {t : Tk} {h : ck_H} {Q : ck_H → Prop} (C : CT b n t h) (R : rdC J N S u h)
    (q0 : ∀ t1 h1, LG b n t h t1 h1 → FDr h h1 → CT b n t1 h1 → Q h1) (q1 : ∀ f tt h1, LB b n t h f tt → FDr h h1 → CFt f tt h1 → Q h1) : wp_X9_readLine h Q := by
  obtain ⟨⟨hJ, eJ⟩, ⟨hN, eN⟩, ⟨hS, eS⟩, O, hu, hl⟩ := R
  have T := C.2.1
  refine tx_line T.2.2.1 C.2.2.2.1.1 (fun z => ?_) (fun z => ?_) (fun z => ?_) (fun z => ?_) (fun z => ?_) (fun z => ?_) (fun z => ?_) (fun z1 z2 => ?_)
  · refine tx_judge C hJ eJ (fun a1 a2 a3 a4 h4 f4 C4 => q0 _ _ (Or.inl ⟨J, z, a2, eJ, a1, a3, a4, ?_, ?_, ?_, ?_, rfl⟩) ((FDr.ff f4).tr ((((FDr.set _ _ (by omega)).tr (FDr.set _ _ (by omega))).tr (FDr.set _ _ (by omega))).tr (FDr.set _ _ (by omega)))) ?_) (fun a1 h' f' B => q1 _ _ h' (Or.inl ⟨J, z, hJ, eJ, a1, rfl⟩) (FDr.ff f') B)
    · intro a n1 n2
      rw [ck_sI_ne _ _ _ (by omega), ck_sI_ne _ _ _ (by omega), ck_sI_ne _ _ _ (by omega), ck_sI_ne _ _ _ (by omega), f4.1 a (by omega) (by omega)]
    · rw [ck_sI_ne _ _ _ (by omega), ck_sI_ne _ _ _ (by omega), ck_sI_at]
    · intro j hj
      refine ⟨?_, ?_, ?_⟩
      · rw [ck_sI_ne _ _ _ (by omega), ck_sI_ne _ _ _ (by omega), ck_sI_ne _ _ _ (by omega), ck_sI_nj _ _ (by omega), f4.1 55 (by omega) (by omega)]
      · rw [ck_sI_ne _ _ _ (by omega), ck_sI_nj _ _ (by omega), ck_sI_ne _ _ _ (by omega), ck_sI_ne _ _ _ (by omega), f4.1 56 (by omega) (by omega)]
      · rw [ck_sI_nj _ _ (by omega), ck_sI_ne _ _ _ (by omega), ck_sI_ne _ _ _ (by omega), ck_sI_ne _ _ _ (by omega), f4.1 57 (by omega) (by omega)]
    · refine ⟨?_, ?_, ck_sI_at ..⟩
      · rw [ck_sI_ne _ _ _ (by omega), ck_sI_ne _ _ _ (by omega), ck_sI_ne _ _ _ (by omega), ck_sI_at]
      · rw [ck_sI_ne _ _ _ (by omega), ck_sI_at]
    · refine ⟨⟨C4.1.1, ?_, ?_, ?_⟩, C4.2.1, C4.2.2.1, C4.2.2.2.1.of ?_, ?_⟩
      · rw [ck_sI_ne _ _ _ (by omega), ck_sI_ne _ _ _ (by omega), ck_sI_ne _ _ _ (by omega), ck_sI_ne _ _ _ (by omega)]; exact C4.1.2.1
      · rw [ck_sI_ne _ _ _ (by omega), ck_sI_ne _ _ _ (by omega), ck_sI_ne _ _ _ (by omega), ck_sI_ne _ _ _ (by omega)]; exact C4.1.2.2.1
      · rw [ck_sI_ne _ _ _ (by omega), ck_sI_ne _ _ _ (by omega), ck_sI_ne _ _ _ (by omega), ck_sI_ne _ _ _ (by omega)]; exact C4.1.2.2.2
      · rw [ck_sI_ne _ _ _ (by omega), ck_sI_ne _ _ _ (by omega), ck_sI_ne _ _ _ (by omega), ck_sI_ne _ _ _ (by omega)]
      · rw [ck_sI_ne _ _ _ (by omega), ck_sI_ne _ _ _ (by omega), ck_sI_ne _ _ _ (by omega), ck_sI_ne _ _ _ (by omega)]; exact C4.2.2.2.2
  · refine tx_nut C hN eN (fun a1 a2 a3 a4 h4 f4 C4 => q0 _ _ (Or.inr (Or.inl ⟨N, z, a2, eN, a1, a3, a4, ?_, ?_, ?_, ?_, rfl⟩)) ((FDr.ff f4).tr (((((FDr.set _ _ (by omega)).tr (FDr.set _ _ (by omega))).tr (FDr.set _ _ (by omega))).tr (FDr.set _ _ (by omega))).tr (FDr.set _ _ (by omega)))) (((((C4.set (by omega)).set (by omega)).set (by omega)).set (by omega)).set (by omega))) (fun a1 h' f' B => q1 _ _ h' (Or.inr (Or.inl ⟨N, z, hN, eN, a1, rfl⟩)) (FDr.ff f') B)
    · intro a n1 n2
      rw [ck_sI_ne _ _ _ (by omega), ck_sI_ne _ _ _ (by omega), ck_sI_ne _ _ _ (by omega), ck_sI_ne _ _ _ (by omega), ck_sI_ne _ _ _ (by omega), f4.1 a (by omega) (by omega)]
    · rw [ck_sI_ne _ _ _ (by omega), ck_sI_ne _ _ _ (by omega), ck_sI_ne _ _ _ (by omega), ck_sI_at]
    · intro j hj
      refine ⟨?_, ?_, ?_, ?_⟩
      · rw [ck_sI_ne _ _ _ (by omega), ck_sI_ne _ _ _ (by omega), ck_sI_ne _ _ _ (by omega), ck_sI_ne _ _ _ (by omega), ck_sI_nj _ _ (by omega), f4.1 59 (by omega) (by omega)]
      · rw [ck_sI_ne _ _ _ (by omega), ck_sI_ne _ _ _ (by omega), ck_sI_nj _ _ (by omega), ck_sI_ne _ _ _ (by omega), ck_sI_ne _ _ _ (by omega), f4.1 60 (by omega) (by omega)]
      · rw [ck_sI_ne _ _ _ (by omega), ck_sI_nj _ _ (by omega), ck_sI_ne _ _ _ (by omega), ck_sI_ne _ _ _ (by omega), ck_sI_ne _ _ _ (by omega), f4.1 61 (by omega) (by omega)]
      · rw [ck_sI_nj _ _ (by omega), ck_sI_ne _ _ _ (by omega), ck_sI_ne _ _ _ (by omega), ck_sI_ne _ _ _ (by omega), ck_sI_ne _ _ _ (by omega), f4.1 62 (by omega) (by omega)]
    · refine ⟨?_, ?_, ?_, ck_sI_at ..⟩
      · rw [ck_sI_ne _ _ _ (by omega), ck_sI_ne _ _ _ (by omega), ck_sI_ne _ _ _ (by omega), ck_sI_ne _ _ _ (by omega), ck_sI_at]
      · rw [ck_sI_ne _ _ _ (by omega), ck_sI_ne _ _ _ (by omega), ck_sI_at]
      · rw [ck_sI_ne _ _ _ (by omega), ck_sI_at]
  · refine tx_suit C hS eS hJ eJ hN eN (fun a1 a2 y1 y2 a4 h4 f4 C4 => ?_) (fun a1 h' f' B => q1 _ _ h' (Or.inr (Or.inr (Or.inl ⟨S, J, N, z, hS, eS, eJ, eN, hJ, hN, a1, rfl⟩))) (FDr.ff f') B)
    obtain ⟨j0, _, j2, j3⟩ := fi_sp J 0 y1
    obtain ⟨n0, _, n2, n3⟩ := fi_sp N 0 y2
    rw [j3, n3]
    refine q0 _ _ (Or.inr (Or.inr (Or.inl ⟨J, N, S, j0, n0, z, a2, eS, eJ, eN, hJ, hN, a1, by omega, by omega, j3, n3, a4, ?_, ?_, ?_, ?_, rfl⟩))) ((FDr.ff f4).tr (((((FDr.set _ _ (by omega)).tr (FDr.set _ _ (by omega))).tr (FDr.set _ _ (by omega))).tr (FDr.set _ _ (by omega))).tr (FDr.set _ _ (by omega)))) (((((C4.set (by omega)).set (by omega)).set (by omega)).set (by omega)).set (by omega))
    · intro a n1 n2
      rw [ck_sI_ne _ _ _ (by omega), ck_sI_ne _ _ _ (by omega), ck_sI_ne _ _ _ (by omega), ck_sI_ne _ _ _ (by omega), ck_sI_ne _ _ _ (by omega), f4.1 a (by omega) (by omega)]
    · rw [ck_sI_ne _ _ _ (by omega), ck_sI_ne _ _ _ (by omega), ck_sI_ne _ _ _ (by omega), ck_sI_at]
    · intro j hj
      refine ⟨?_, ?_, ?_, ?_⟩
      · rw [ck_sI_ne _ _ _ (by omega), ck_sI_ne _ _ _ (by omega), ck_sI_ne _ _ _ (by omega), ck_sI_ne _ _ _ (by omega), ck_sI_nj _ _ (by omega), f4.1 64 (by omega) (by omega)]
      · rw [ck_sI_ne _ _ _ (by omega), ck_sI_ne _ _ _ (by omega), ck_sI_nj _ _ (by omega), ck_sI_ne _ _ _ (by omega), ck_sI_ne _ _ _ (by omega), f4.1 65 (by omega) (by omega)]
      · rw [ck_sI_ne _ _ _ (by omega), ck_sI_nj _ _ (by omega), ck_sI_ne _ _ _ (by omega), ck_sI_ne _ _ _ (by omega), ck_sI_ne _ _ _ (by omega), f4.1 66 (by omega) (by omega)]
      · rw [ck_sI_nj _ _ (by omega), ck_sI_ne _ _ _ (by omega), ck_sI_ne _ _ _ (by omega), ck_sI_ne _ _ _ (by omega), ck_sI_ne _ _ _ (by omega), f4.1 67 (by omega) (by omega)]
    · refine ⟨?_, ?_, ?_, ck_sI_at ..⟩
      · rw [ck_sI_ne _ _ _ (by omega), ck_sI_ne _ _ _ (by omega), ck_sI_ne _ _ _ (by omega), ck_sI_ne _ _ _ (by omega), ck_sI_at]
      · rw [ck_sI_ne _ _ _ (by omega), ck_sI_ne _ _ _ (by omega), ck_sI_at]
      · rw [ck_sI_ne _ _ _ (by omega), ck_sI_at]
  · refine tx_vacation C (fun a1 a2 h4 f4 C4 => q0 _ _ (Or.inr (Or.inr (Or.inr (Or.inl ⟨4, 0, 30, Or.inr (Or.inl ⟨z, rfl, rfl, rfl⟩), ?_, ?_, ?_, ?_, ?_, ?_, ?_, rfl⟩)))) ((FDr.ff f4).tr ((FDr.set _ _ (by omega)).tr (FDr.set _ _ (by omega)))) ((C4.set (by omega)).set (by omega))) (fun a1 h' v f' B => q1 _ _ _ (Or.inr (Or.inr (Or.inr (Or.inl ⟨4, 0, 30, Or.inr (Or.inl ⟨z, rfl, rfl, rfl⟩), a1, rfl⟩)))) ((FDr.ff f').tr ((FDr.set _ _ (by omega)).tr (FDr.set _ _ (by omega)))) ((B.setD (by omega)).setD (by omega)))
    · exact (fr2 a1).1
    · exact (fr2 a1).2
    · intro a ha
      rw [ck_sI_ne _ _ _ (by omega), ck_sI_ne _ _ _ (by omega), f4.1 a (by omega) (by omega)]
    · rw [ck_sI_nj _ _ (by omega), ck_sI_nj _ _ (by omega), f4.1 53 (by omega) (by omega)]
    · rw [ck_sI_nj _ _ (by omega), ck_sI_nj _ _ (by omega), f4.1 53 (by omega) (by omega), if_neg (by omega)]
    · rw [ck_sI_nj _ _ (by omega), ck_sI_at, if_pos rfl]
    · intro k h1 h2
      by_cases c : k = 4
      · subst c; rw [if_pos rfl]; exact ck_sI_at ..
      · rw [if_neg c, ck_sI_nj _ _ (by omega), ck_sI_nj _ _ (by omega), f4.1 53 (by omega) (by omega)]
  · refine tx_seed C (fun a1 h4 f4 C4 => q0 _ _ (Or.inr (Or.inr (Or.inr (Or.inl ⟨5, 0, 99999, Or.inr (Or.inr ⟨z, rfl, rfl, rfl⟩), ?_, ?_, ?_, ?_, ?_, ?_, ?_, rfl⟩)))) ((FDr.ff f4).tr (FDr.set _ _ (by omega))) (C4.set (by omega))) (fun a1 h' f' B => q1 _ _ _ (Or.inr (Or.inr (Or.inr (Or.inl ⟨5, 0, 99999, Or.inr (Or.inr ⟨z, rfl, rfl, rfl⟩), a1, rfl⟩)))) ((FDr.ff f').tr (FDr.set _ _ (by omega))) (B.setD (by omega)))
    · exact (fr2 a1).1
    · exact (fr2 a1).2
    · intro a ha
      rw [ck_sI_ne _ _ _ (by omega), f4.1 a (by omega) (by omega)]
    · rw [ck_sI_nj _ _ (by omega), f4.1 53 (by omega) (by omega)]
    · rw [ck_sI_nj _ _ (by omega), f4.1 53 (by omega) (by omega), if_neg (by omega)]
    · rw [ck_sI_nj _ _ (by omega), f4.1 53 (by omega) (by omega), if_neg (by omega)]
    · intro k h1 h2
      by_cases c : k = 5
      · subst c; rw [if_pos rfl]; exact ck_sI_at ..
      · rw [if_neg c, ck_sI_nj _ _ (by omega), f4.1 53 (by omega) (by omega)]
  · have hk : ∀ k, k < 3 → ∃ a e : Nat, h.1 71 k = nI a ∧ h.1 72 k = nI e ∧ a ≤ 64 ∧ e ≤ 64 ∧ (tlC h k = true ↔ a < e) := by
      intro k hk
      obtain ⟨a, e, b1, b2, b3, b4⟩ := hl k hk
      refine ⟨a, e, b1, b2, by omega, by omega, ?_⟩
      unfold tlC
      rw [decide_eq_true_iff, b1, b2]
      exact nI_ltI (by omega) (by omega)
    have hb : ∀ i, i < n → b i < 256 := fun i hi => (C.1.2.2.1 i hi).1
    refine tx_law (fr := fun k => (h.1 71 k).toNatClampNeg) (to := fun k => (h.1 72 k).toNatClampNeg) (tl := tlC h) C (fun k hk3 => ?_) (fun a1 a2 a3 h1 f1 C1 => ?_) (fun a1 h' f' B => q1 _ _ h' (Or.inr (Or.inr (Or.inr (Or.inr (Or.inl ⟨z, a1, rfl, rfl⟩))))) (FDr.ff f') B)
    · obtain ⟨a, e, b1, b2, b3, b4, b5⟩ := hk k hk3
      show h.1 71 k = nI (h.1 71 k).toNatClampNeg ∧ h.1 72 k = nI (h.1 72 k).toNatClampNeg ∧ (h.1 71 k).toNatClampNeg ≤ 64 ∧ (h.1 72 k).toNatClampNeg ≤ 64 ∧ (tlC h k = true ↔ (h.1 71 k).toNatClampNeg < (h.1 72 k).toNatClampNeg)
      rw [b1, b2, nI_clamp (n := a) (by omega), nI_clamp (n := e) (by omega)]
      exact ⟨rfl, rfl, b3, b4, b5⟩
    · have t0 : ¬ (nxt b n t).1 = 0 := by omega
      have p1 := tk_A_le (b := b) hb T.1
      have p2 := tk_A_le (b := b) hb p1.2.2.2.1
      have pl : 1 ≤ (nxt b n (nxt b n t)).2.2.1 := by
        have x1 : (nxt b n t).2.2.1 < (nxt b n t).2.2.2 := p1.2.2.2.2.2.1 t0
        have x2 : (nxt b n t).2.2.2 ≤ (nxt b n (nxt b n t)).2.2.1 := p2.1
        omega
      have O1 : OU u h1 := O.of (by rw [f1.1 68 (by omega) (by omega)]) (f1.1 69 (by omega) (by omega)) (f1.1 70 (by omega) (by omega))
      refine tx_into (x := (nxt b n t).1 - 26) (by omega) C1.1 C1.2.1 C1.2.2.2.1 O1 hu C1.2.2.1 pl (fun h' x3 c s' en fx cx tv res => ?_)
      rintro _ rfl
      have fd : FDr h (ck_sI h' 2 2 x3) := ((FDr.ff f1).tr (FDr.fxx fx)).tr (FDr.s2 _ _)
      rcases res with ⟨c9, o0, rfl, ou, l64, e71, e72⟩ | ⟨c9, o0, rfl⟩ | ⟨hc, rfl⟩
      · subst c9
        refine q0 s'.1 _ (Or.inr (Or.inr (Or.inr (Or.inr ⟨u, s', z, a1, a2, a3, O, hu, en, o0, l64, ?_, ?_, ?_, ?_, ?_, rfl⟩)))) fd ⟨(FF.s h' 0).lx ?_, tv.1, tv.2, cx.of (ck_sI_ne _ _ _ (by omega)), ck_sI_at ..⟩
        · intro a h53 h67
          rw [ck_sI_ne _ _ _ (by omega), fx.1 a (by omega) (by omega) (by omega) (by omega) (by omega) (by omega) (by omega) (by omega), f1.1 a (by omega) (by omega)]
        · exact ou.of (by rw [ck_sI_ne _ _ _ (by omega)]) (ck_sI_ne _ _ _ (by omega)) (ck_sI_ne _ _ _ (by omega))
        · rw [ck_sI_ne _ _ _ (by omega)]; exact e71
        · rw [ck_sI_ne _ _ _ (by omega)]; exact e72
        · intro i hi
          rw [ck_sI_ne _ _ _ (by omega), ck_sI_ne _ _ _ (by omega), (fx.2.2.2.1 i hi).1, (fx.2.2.2.1 i hi).2, f1.1 71 (by omega) (by omega), f1.1 72 (by omega) (by omega)]
          exact ⟨rfl, rfl⟩
        · exact ⟨C1.1.1, by rw [fx.2.1]; exact C1.1.2.1, by rw [fx.1 1 (by omega) (by omega) (by omega) (by omega) (by omega) (by omega) (by omega) (by omega)]; exact C1.1.2.2.1, by rw [fx.1 4 (by omega) (by omega) (by omega) (by omega) (by omega) (by omega) (by omega) (by omega)]; exact C1.1.2.2.2⟩
      · exact q1 1 s'.1 _ (Or.inr (Or.inr (Or.inr (Or.inr (Or.inr (Or.inl ⟨u, s', c, z, a1, a2, a3, O, hu, en, Or.inr ⟨c9, o0, rfl⟩, rfl⟩)))))) fd ⟨by omega, by omega, ck_sI_at .., by rw [ck_sI_ne _ _ _ (by omega)]; exact cx.2.1⟩
      · exact q1 c s'.1 _ (Or.inr (Or.inr (Or.inr (Or.inr (Or.inr (Or.inl ⟨u, s', c, z, a1, a2, a3, O, hu, en, Or.inl ⟨hc, rfl⟩, rfl⟩)))))) fd ⟨by omega, by omega, ck_sI_at .., by rw [ck_sI_ne _ _ _ (by omega)]; exact cx.2.1⟩
  · refine tx_lever C (fun a1 a2 a3 h4 f4 C4 => q0 _ _ (Or.inr (Or.inr (Or.inr (Or.inl ⟨3, 1, 99, Or.inl ⟨z, rfl, rfl, rfl⟩, ?_, ?_, ?_, ?_, ?_, ?_, ?_, rfl⟩)))) ((FDr.ff f4).tr ((FDr.set _ _ (by omega)).tr (FDr.set _ _ (by omega)))) ((C4.set (by omega)).set (by omega))) (fun a1 h' v f' B => q1 _ _ _ (Or.inr (Or.inr (Or.inr (Or.inl ⟨3, 1, 99, Or.inl ⟨z, rfl, rfl, rfl⟩, a1, rfl⟩)))) ((FDr.ff f').tr ((FDr.set _ _ (by omega)).tr (FDr.set _ _ (by omega)))) ((B.setD (by omega)).setD (by omega)))
    · exact (fr2 a1).1
    · exact (fr2 a1).2
    · intro a ha
      rw [ck_sI_ne _ _ _ (by omega), ck_sI_ne _ _ _ (by omega), f4.1 a (by omega) (by omega)]
    · rw [ck_sI_nj _ _ (by omega), ck_sI_nj _ _ (by omega), f4.1 53 (by omega) (by omega)]
    · rw [ck_sI_nj _ _ (by omega), ck_sI_at, if_pos rfl]
    · rw [ck_sI_nj _ _ (by omega), ck_sI_nj _ _ (by omega), f4.1 53 (by omega) (by omega), if_neg (by omega)]
    · intro k h1 h2
      by_cases c : k = 3
      · subst c; rw [if_pos rfl]; exact ck_sI_at ..
      · rw [if_neg c, ck_sI_nj _ _ (by omega), ck_sI_nj _ _ (by omega), f4.1 53 (by omega) (by omega)]
  · exact q1 1 t _ (Or.inr (Or.inr (Or.inr (Or.inr (Or.inr (Or.inr ⟨z1, z2, rfl, rfl⟩)))))) (FDr.s2 _ _) (C.bad (f := 1) (by omega) (by omega))
