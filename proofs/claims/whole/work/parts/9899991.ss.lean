theorem is_pp {n j : Nat} {A B : Prop} (hj : j < n) (hn : n < 2 ^ 31) (q : B) : (nI j < 0 → A) ∧ (¬ nI j < 0 → ((nI n ≤ nI j → A) ∧ (¬ nI n ≤ nI j → B))) := ⟨fun z => absurd z (nI_pos (by omega)), fun _ => ⟨fun z => absurd z (nI_ge hj hn), fun _ => q⟩⟩
theorem sim_suit {J N S : Nat} {h m : ck_H} {a b : Int32} (H : SimP J N S h m) : wpS a b h (fun r => wp_X12_suit a b m (fun r' m' => r = r' ∧ m'.1 0 0 = 0 ∧ Sim h m')) (wp_X12_suit a b m (fun _ m' => m'.1 0 0 = 1 ∧ Sim h m')) (wp_X12_suit a b m (fun _ m' => m'.1 0 0 = 2 ∧ Sim h m')) := by
  have P := H.pr
  have hS := P.hS
  have bad : ∀ (y : Int32), ¬ y = 0 → ∀ (Q : Int32 → ck_H → Prop), Q 0 (ck_sI m 0 0 y) → wp_X12_suit_27 Q a b y m := by
    intro y hy Q q
    unfold wp_X12_suit_27
    rintro _ rfl
    refine br_n ?_ q
    rw [ck_sI_at]; exact hy
  unfold wpS wp_X11_isSuit
  rw [P.xS]
  by_cases c : ∃ s, s < S ∧ a = nI s
  · obtain ⟨s, hs, rfl⟩ := c
    have in10 : vp_in (nI s) 10 := pu_in (by omega) (by decide)
    have in20 : vp_in (nI s) 20 := pu_in (by omega) (by decide)
    have in230 : vp_in (nI s) 230 := pu_in (by omega) (by decide)
    have cs : (nI s).toNatClampNeg = s := nI_clamp (by omega)
    have T := H.thr 0
    -- the model, where suit and number are right
    have ok : ∀ (k : Nat) (Q : Int32 → ck_H → Prop), k ≤ 5 → b = nI k → wp_X12_suit_27 Q (nI s) b 0 m → wp_X12_suit (nI s) b m Q := by
      intro k Q hk hb q
      unfold wp_X12_suit wp_X12_isSuit
      rw [P.mS]
      refine is_pp hs (by omega) (br_m (by decide) ?_)
      subst hb
      exact br_n (nI_pos (by omega)) (br_p (nI_le (b := 5) hk (by omega)) q)
    refine is_pp hs (by omega) ⟨rfl, fun z => absurd z (by decide), fun _ => ⟨fun z => ?_, fun z => ⟨in10, ?_⟩, fun z => ⟨in10, ?_⟩, fun z => ⟨in10, ?_⟩, fun z => ?_, fun z => ⟨in10, ?_⟩, fun z => ?_⟩⟩
    · unfold wp_X12_suit wp_X12_isSuit
      rw [P.mS]
      refine is_pp hs (by omega) (br_m (by decide) ?_)
      have b22 : wp_X12_suit_22 (fun _ m' => m'.1 0 0 = 2 ∧ Sim h m') (nI s) b m := by
        unfold wp_X12_suit_22
        exact bad 2 (by decide) _ ⟨ck_sI_at .., J, N, S, H.thr 2⟩
      have i5 : (5 : Int32).toInt = 5 := by decide
      have i0 : (0 : Int32).toInt = 0 := by decide
      refine ⟨fun _ => b22, fun w => ⟨fun w2 => ?_, fun _ => b22⟩⟩
      rw [Int32.lt_iff_toInt_lt] at w
      have w2 := Int32.le_iff_toInt_le.mp w2
      omega
    · refine ok 0 _ (by omega) z ?_
      unfold wp_X12_suit_27
      rintro _ rfl
      rw [ck_sI_at, cs]
      exact br_p rfl (br_p z ⟨in230, (T.ju hs).symm, ck_sI_at .., J, N, S, T⟩)
    · refine ok 1 _ (by omega) z ?_
      unfold wp_X12_suit_27
      rintro _ rfl
      rw [ck_sI_at, cs]
      subst z
      exact br_p rfl (br_n (by decide) (br_p rfl ⟨in20, (T.pr.no s hs).symm, ck_sI_at .., J, N, S, T⟩))
    · refine ok 2 _ (by omega) z ?_
      unfold wp_X12_suit_27
      rintro _ rfl
      rw [ck_sI_at, cs]
      subst z
      exact br_p rfl (br_n (by decide) (br_n (by decide) (br_p rfl ⟨in230, (T.da hs).symm, ck_sI_at .., J, N, S, T⟩)))
    · have st : (ck_sI m 0 0 0).1 22 0 = h.1 7 4 := T.sto
      have mo : ∀ r : Int32, r = ((h.1 7 4 >>> (nI s &&& 31)) &&& 1) → wp_X12_suit (nI s) b m (fun r' m' => r = r' ∧ m'.1 0 0 = 0 ∧ Sim h m') := by
        intro r hr
        refine ok 3 _ (by omega) z ?_
        unfold wp_X12_suit_27
        rintro _ rfl
        rw [ck_sI_at]
        subst z
        refine br_p rfl (br_n (by decide) (br_n (by decide) (br_n (by decide) (br_p rfl ⟨?_, ck_sI_at .., J, N, S, T⟩))))
        rw [st]; exact hr
      unfold wp_X1_hasStone
      refine ⟨fun w => ⟨rfl, fun _ => mo 0 ?_, fun w2 => absurd rfl w2⟩, fun w => ⟨rfl, fun w2 => absurd w2 (by decide), fun _ => mo 1 w.symm⟩⟩
      exact ((b01 (h.1 7 4) (nI s &&& 31)).resolve_right w).symm
    · refine ok 4 _ (by omega) z ?_
      unfold wp_X12_suit_27
      rintro _ rfl
      rw [ck_sI_at, cs]
      subst z
      exact br_p rfl (br_n (by decide) (br_n (by decide) (br_n (by decide) (br_n (by decide) (br_p rfl ⟨in230, (T.ve hs).symm, ck_sI_at .., J, N, S, T⟩)))))
    · refine tx_gainOf P hs ⟨rfl, ?_⟩
      refine ok 5 _ (by omega) z ?_
      unfold wp_X12_suit_27
      rintro _ rfl
      rw [ck_sI_at, cs]
      subst z
      refine br_p rfl (br_n (by decide) (br_n (by decide) (br_n (by decide) (br_n (by decide) (br_n (by decide) ⟨in230, ?_⟩)))))
      rw [T.ve hs]
      exact mm_gainOf T.pr hs ⟨rfl, ck_sI_at .., J, N, S, T⟩
  · refine is_n rfl (by omega) c ⟨rfl, fun _ => ?_, fun z => absurd rfl z⟩
    unfold wp_X12_suit wp_X12_isSuit
    rw [P.mS]
    exact is_n rfl (by omega) c (br_q rfl (bad 1 (by decide) _ ⟨ck_sI_at .., J, N, S, H.thr 1⟩))
