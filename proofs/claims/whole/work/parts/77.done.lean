/-! what is done by call -/
theorem Mv0_set26 (m : ck_H) (s : Nat) (v : Int32) : Mv (ck_sI m 26 s v) 0 = T_undo 0 s v (Mv m 0) := by
  have e := Mv_26 m 0 s v
  rw [show 10 * 0 + s = s by omega] at e
  rw [e]
  rfl
theorem Mv_27 (m : ck_H) (b j : Nat) (v : Int32) : Mv (ck_sI m 27 (10 * b + j) v) b = (Mf m b, (Mv m b).2.1, (Mv m b).2.2.1, upd (Mv m b).2.2.2.1 j v, (Mv m b).2.2.2.2) := by
  refine Prod.ext rfl (Prod.ext rfl (Prod.ext rfl (Prod.ext ?_ rfl)))
  funext i
  by_cases e : i = j
  · subst e; simp [Mv, ck_sI, upd]
  · simp [Mv, ck_sI, upd, e]
theorem Mv0_set27 (m : ck_H) (s : Nat) (v : Int32) : Mv (ck_sI m 27 s v) 0 = T_undo 2 s v (Mv m 0) := by
  have e := Mv_27 m 0 s v
  rw [show 10 * 0 + s = s by omega] at e
  rw [e]
  rfl
theorem Mv0_set22 (m : ck_H) (s : Nat) (v : Int32) : Mv (ck_sI m 22 0 v) 0 = T_undo 1 s v (Mv m 0) := by
  rw [Mv_22]
  rfl
theorem Mv0_set21 (m : ck_H) (s : Nat) (v : Int32) : Mv (ck_sI m 21 0 v) 0 = T_undo 3 s v (Mv m 0) := by
  rw [Mv_21]
  rfl
theorem g_set {m : ck_H} {a i : Nat} {v : Int32} (h : inB a 0 i) : ∀ a' i', ¬ inB a' 0 i' → (ck_sI m a i v).1 a' i' = m.1 a' i' := fun a' i' z => by
  by_cases e : a' = a
  · subst e
    exact ck_sI_nj _ _ (fun y => z (by rw [y]; exact h))
  · rw [ck_sI_ne _ _ _ e]
theorem sim_give {J N S : Nat} {h m : ck_H} {x y : Int32} (H : SimP J N S h m) : wp_X11_give x y h (fun r h' => wp_X12_give x y m (fun r' m' => r = r' ∧ Sim h' m')) := by
  have T := H.thr 0
  have P := T.pr
  have hJ := P.hJ; have hS := P.hS
  obtain ⟨c, c1, c2, c3, c4⟩ := T.deeds
  obtain ⟨d, r, D⟩ := dk_of c1
  unfold wp_X11_give
  by_cases cs : ∃ s, s < S ∧ x = nI s ∧ h.1 11 s = -1
  · obtain ⟨s, hs, rfl, e⟩ := cs
    have i10 : vp_in (nI s) 10 := pu_in (by omega) (by decide)
    have i230 : vp_in (nI s) 230 := pu_in (by omega) (by decide)
    refine xP_p P hs e (br_n (by decide) ?_)
    by_cases cj : ∃ j, j < J ∧ y = nI j
    · obtain ⟨j, hj, rfl⟩ := cj
      refine xJ_p P hj (br_n (by decide) ⟨i10, ?_⟩)
      rw [nI_clamp (n := s) (by omega)]
      have md : ∀ R : Int32 → ck_H → Prop, ((¬ h.1 9 s = nI j → wp_X12_keepNow (ck_sI m 0 0 0) (fun h13 => vp_in (nI s) 230 ∧ ∀ h15, h15 = ck_sI h13 26 s (nI j) → R 1 h15)) ∧ (h.1 9 s = nI j → R 0 (ck_sI m 0 0 0))) → wp_X12_give (nI s) (nI j) m R := by
        intro R hR
        unfold wp_X12_give
        rintro _ rfl
        refine mS_p P hs (br_n (by decide) (mJ_p P hj (br_n (by decide) (mm_isOpen (b := 0) (by decide) (by omega) (fun _ => br_n (by decide) ⟨i230, ?_⟩) (fun z => absurd (by rw [show 10 * 0 + s = s by omega]; exact (T.pend hs).mpr e) z)))))
        rw [nI_clamp (n := s) (by omega), T.ju hs]
        exact hR
      refine ⟨fun cc => ⟨i10, tx_dadd D c2 (fun h1 x1 x2 x3 x4 x5 => ⟨i10, ?_⟩)⟩, fun cc => md _ (br_q cc ⟨rfl, _, _, _, T⟩)⟩
      rintro _ rfl
      refine md _ (br_m cc (mm_kn hJ hS D c3 (fun m1 f1 f2 f3 f4 f5 f6 => ⟨i230, ?_⟩)))
      rintro _ rfl
      refine ⟨rfl, J, N, S, T.deed (kd := 0) (v := nI j) (s := s) D c2 c4 x1 x2 x3 x4 x5 f1 f2 f3 f4 f5 f6 (fun a ha => ck_sI_ne _ _ _ (by omega)) rfl (g_set (by unfold inB; omega)) (by omega) (by decide) (Mv0_set26 ..) ?_ (fun _ => ⟨j, hj, rfl⟩) (fun z => absurd z (by decide)) (fun z => absurd z (by decide))⟩
      simp [T_undo, Tv, ck_sI]
    · refine xJ_n P cj (br_p rfl ?_)
      unfold wp_X12_give
      rintro _ rfl
      exact mS_p P hs (br_n (by decide) (mJ_n P cj (br_p rfl ⟨rfl, _, _, _, T⟩)))
  · refine xP_n P cs (br_p rfl ?_)
    unfold wp_X12_give
    rintro _ rfl
    by_cases c' : ∃ j, j < S ∧ x = nI j
    · obtain ⟨s, hs, rfl⟩ := c'
      refine mS_p P hs (br_n (by decide) ?_)
      by_cases cj : ∃ j, j < J ∧ y = nI j
      · obtain ⟨j, hj, rfl⟩ := cj
        exact mJ_p P hj (br_n (by decide) (mm_isOpen (b := 0) (by decide) (by omega) (fun z => absurd ⟨s, hs, rfl, (T.pend hs).mp (by rw [show 10 * 0 + s = s by omega] at z; exact z)⟩ cs) (fun _ => br_p rfl ⟨rfl, _, _, _, T⟩)))
      · exact mJ_n P cj (br_p rfl ⟨rfl, _, _, _, T⟩)
    · exact mS_n P c' (br_p rfl ⟨rfl, _, _, _, T⟩)
theorem sim_put {J N S : Nat} {h m : ck_H} {x y : Int32} (H : SimP J N S h m) : wp_X11_put x y h (fun r h' => wp_X12_put x y m (fun r' m' => r = r' ∧ Sim h' m')) := by
  have T := H.thr 0
  have P := T.pr
  have hJ := P.hJ; have hS := P.hS
  obtain ⟨c, c1, c2, c3, c4⟩ := T.deeds
  obtain ⟨d, r, D⟩ := dk_of c1
  unfold wp_X11_put
  by_cases cs : ∃ s, s < S ∧ x = nI s ∧ h.1 11 s = -1
  · obtain ⟨s, hs, rfl, e⟩ := cs
    have i10 : vp_in (nI s) 10 := pu_in (by omega) (by decide)
    have i230 : vp_in (nI s) 230 := pu_in (by omega) (by decide)
    refine xP_p P hs e (br_n (by decide) ⟨fun k1 => ?_, fun k1 => ⟨fun k2 => ?_, fun k2 => ⟨i10, ?_⟩⟩⟩)
    · unfold wp_X12_put
      rintro _ rfl
      refine mS_p P hs (br_n (by decide) (br_p ?_ ⟨rfl, _, _, _, T⟩))
      rw [T.day]; exact k1
    · unfold wp_X12_put
      rintro _ rfl
      refine mS_p P hs (br_n (by decide) (br_n ?_ (br_p k2 ⟨rfl, _, _, _, T⟩)))
      rw [T.day]; exact k1
    rw [nI_clamp (n := s) (by omega)]
    have md : ∀ R : Int32 → ck_H → Prop, ((¬ h.1 10 s = y → wp_X12_keepNow (ck_sI m 0 0 0) (fun h13 => vp_in (nI s) 230 ∧ ∀ h15, h15 = ck_sI h13 27 s y → R 1 h15)) ∧ (h.1 10 s = y → R 0 (ck_sI m 0 0 0))) → wp_X12_put (nI s) y m R := by
      intro R hR
      unfold wp_X12_put
      rintro _ rfl
      refine mS_p P hs (br_n (by decide) (br_n (by rw [T.day]; exact k1) (br_n k2 (mm_isOpen (b := 0) (by decide) (by omega) (fun _ => br_n (by decide) ⟨i230, ?_⟩) (fun z => absurd (by rw [show 10 * 0 + s = s by omega]; exact (T.pend hs).mpr e) z)))))
      rw [nI_clamp (n := s) (by omega), T.da hs]
      exact hR
    refine ⟨fun cc => ⟨i10, tx_dadd D c2 (fun h1 x1 x2 x3 x4 x5 => ⟨i10, ?_⟩)⟩, fun cc => md _ (br_q cc ⟨rfl, _, _, _, T⟩)⟩
    rintro _ rfl
    refine md _ (br_m cc (mm_kn hJ hS D c3 (fun m1 f1 f2 f3 f4 f5 f6 => ⟨i230, ?_⟩)))
    rintro _ rfl
    have hy : rg y 9999 := by
      obtain ⟨dd, d1, d2⟩ := T.nok.1
      have d2 : h.1 7 5 = nI dd := d2
      rw [d2] at k1
      obtain ⟨n, hn, en⟩ := nI_of2 (x := y) (M := 9999) (n := 9999) (by decide) (fun z => k1 (Int32.lt_of_lt_of_le z (nI_pos' (by omega)))) (Int32.not_lt.mp k2)
      exact ⟨n, hn, en⟩
    refine ⟨rfl, J, N, S, T.deed (kd := 2) (v := y) (s := s) D c2 c4 x1 x2 x3 x4 x5 f1 f2 f3 f4 f5 f6 (fun a ha => ck_sI_ne _ _ _ (by omega)) rfl (g_set (by unfold inB; omega)) (by omega) (by decide) (Mv0_set27 ..) ?_ (fun z => absurd z (by decide)) (fun _ => hy) (fun z => absurd z (by decide))⟩
    simp [T_undo, Tv, ck_sI]
  · refine xP_n P cs (br_p rfl ?_)
    unfold wp_X12_put
    rintro _ rfl
    by_cases c' : ∃ j, j < S ∧ x = nI j
    · obtain ⟨s, hs, rfl⟩ := c'
      exact mS_p P hs (br_n (by decide) ⟨fun _ => ⟨rfl, _, _, _, T⟩, fun _ => ⟨fun _ => ⟨rfl, _, _, _, T⟩, fun _ => mm_isOpen (b := 0) (by decide) (by omega) (fun z => absurd ⟨s, hs, rfl, (T.pend hs).mp (by rw [show 10 * 0 + s = s by omega] at z; exact z)⟩ cs) (fun _ => br_p rfl ⟨rfl, _, _, _, T⟩)⟩⟩)
    · exact mS_n P c' (br_p rfl ⟨rfl, _, _, _, T⟩)
theorem sim_stone {J N S : Nat} {h m : ck_H} {x y : Int32} (H : SimP J N S h m) : wp_X11_stone x y h (fun r h' => wp_X12_stone x y m (fun r' m' => r = r' ∧ Sim h' m')) := by
  have T := H.thr 0
  have P := T.pr
  have hJ := P.hJ; have hS := P.hS
  obtain ⟨c, c1, c2, c3, c4⟩ := T.deeds
  obtain ⟨d, r, D⟩ := dk_of c1
  unfold wp_X11_stone
  by_cases cs : ∃ s, s < S ∧ x = nI s ∧ h.1 11 s = -1
  · obtain ⟨s, hs, rfl, e⟩ := cs
    refine xP_p P hs e (br_n (by decide) ?_)
    have md : ∀ R : Int32 → ck_H → Prop, ((¬ ((h.1 7 4 >>> (nI s &&& 31)) &&& 1) = 1 → wp_X12_stone_41 R (nI s) y 0 (ck_sI m 0 0 0)) ∧ (((h.1 7 4 >>> (nI s &&& 31)) &&& 1) = 1 → wp_X12_stone_41 R (nI s) y 1 (ck_sI m 0 0 0))) → wp_X12_stone (nI s) y m R := by
      intro R hR
      unfold wp_X12_stone
      rintro _ rfl
      refine mS_p P hs (br_n (by decide) (mm_isOpen (b := 0) (by decide) (by omega) (fun _ => br_n (by decide) ?_) (fun z => absurd (by rw [show 10 * 0 + s = s by omega]; exact (T.pend hs).mpr e) z)))
      rw [T.sto]
      exact hR
    have fin : ∀ b : Int32, (∀ R : Int32 → ck_H → Prop, wp_X12_stone_41 R (nI s) y b (ck_sI m 0 0 0) → wp_X12_stone (nI s) y m R) → ((¬ b = y → wp_X2_add 1 (nI s) (h.1 7 4) h (fun h7 => ∀ h8, h8 = ck_sI h7 7 4 (h7.1 7 4 ^^^ ((1 : Int32) <<< (nI s &&& 31))) → wp_X12_stone (nI s) y m (fun r' m' => 1 = r' ∧ Sim h8 m'))) ∧ (b = y → wp_X12_stone (nI s) y m (fun r' m' => 0 = r' ∧ Sim h m'))) := by
      intro b hb
      refine ⟨fun cc => tx_dadd D c2 (fun h1 x1 x2 x3 x4 x5 => ?_), fun cc => hb _ (br_q cc ⟨rfl, _, _, _, T⟩)⟩
      rintro _ rfl
      refine hb _ (br_m cc (mm_kn hJ hS D c3 (fun m1 f1 f2 f3 f4 f5 f6 => ?_)))
      rintro _ rfl
      have e22 : m1.1 22 0 = h1.1 7 4 := by
        rw [x1 7 (by omega), ← T.sto]
        exact (f4 0 (by omega)).1.1.1
      rw [e22]
      refine ⟨rfl, J, N, S, T.deed (kd := 1) (v := h1.1 7 4 ^^^ ((1 : Int32) <<< (nI s &&& 31))) (s := s) D c2 c4 x1 x2 x3 x4 x5 f1 f2 f3 f4 f5 f6 (fun a ha => ck_sI_ne _ _ _ (by omega)) rfl (g_set (by unfold inB; omega)) (by omega) (by decide) (Mv0_set22 ..) ?_ (fun z => absurd z (by decide)) (fun z => absurd z (by decide)) (fun z => absurd z (by decide))⟩
      simp [T_undo, Tv, ck_sI]
    unfold wp_X1_hasStone
    refine ⟨fun k => fin 0 (fun R hR => md R (br_m k hR)), fun k => fin 1 (fun R hR => md R (br_q k hR))⟩
  · refine xP_n P cs (br_p rfl ?_)
    unfold wp_X12_stone
    rintro _ rfl
    by_cases c' : ∃ j, j < S ∧ x = nI j
    · obtain ⟨s, hs, rfl⟩ := c'
      exact mS_p P hs (br_n (by decide) (mm_isOpen (b := 0) (by decide) (by omega) (fun z => absurd ⟨s, hs, rfl, (T.pend hs).mp (by rw [show 10 * 0 + s = s by omega] at z; exact z)⟩ cs) (fun _ => br_p rfl ⟨rfl, _, _, _, T⟩)))
    · exact mS_n P c' (br_p rfl ⟨rfl, _, _, _, T⟩)
theorem sim_oil {J N S : Nat} {h m : ck_H} {x : Int32} (H : SimP J N S h m) : wp_X11_oil x h (fun r h' => wp_X12_oil x m (fun r' m' => r = r' ∧ Sim h' m')) := by
  have T := H.thr 0
  have P := T.pr
  have hJ := P.hJ; have hS := P.hS
  obtain ⟨c, c1, c2, c3, c4⟩ := T.deeds
  obtain ⟨d, r, D⟩ := dk_of c1
  have e98 : (98 : Int32) < x ↔ (99 : Int32) ≤ x := by
    rw [Int32.lt_iff_toInt_lt, Int32.le_iff_toInt_le]
    have e3 : (98 : Int32).toInt = 98 := by decide
    have e4 : (99 : Int32).toInt = 99 := by decide
    omega
  unfold wp_X11_oil
  refine ⟨fun k => ?_, fun k => ⟨fun k2 => ?_, fun k2 => ⟨fun k3 => tx_dadd D c2 (fun h1 x1 x2 x3 x4 x5 => ?_), fun k3 => ?_⟩⟩⟩
  · unfold wp_X12_oil; rintro _ rfl; exact br_p k ⟨rfl, _, _, _, T⟩
  · unfold wp_X12_oil; rintro _ rfl; exact br_n k (br_p (e98.mpr k2) ⟨rfl, _, _, _, T⟩)
  · rintro _ rfl
    unfold wp_X12_oil
    rintro _ rfl
    refine br_n k (br_n (fun z => k2 (e98.mp z)) (br_p (by rw [T.lev]; exact k3) (mm_kn hJ hS D c3 (fun m1 f1 f2 f3 f4 f5 f6 => ?_))))
    have e21 : m1.1 21 0 = h1.1 7 6 := by
      rw [x1 7 (by omega), ← T.lev]
      exact (f4 0 (by omega)).1.1.2.2.1
    rw [e21]
    rintro _ rfl
    rw [ck_sI_at, ck_sI_at]
    have hv : ∃ a, 1 ≤ a ∧ a ≤ 99 ∧ h1.1 7 6 + x = nI a := by
      obtain ⟨a, a1, a2, a3⟩ := T.nok.2.1
      have a3 : h.1 7 6 = nI a := a3
      rw [a3] at k3
      obtain ⟨n, hn, en⟩ := nI_of2 (x := x) (M := 99) (n := 99) (by decide) (fun z => k (Int32.lt_of_lt_of_le z (by decide))) (by
        rw [Int32.not_le] at k2
        exact Int32.le_of_lt k2)
      subst en
      rw [nI_add, show (99 : Int32) = nI 99 from rfl, nI_leI (by omega) (by omega)] at k3
      exact ⟨a + n, by omega, by omega, by rw [x1 7 (by omega), a3, nI_add]⟩
    refine ⟨rfl, J, N, S, T.deed (kd := 3) (v := h1.1 7 6 + x) (s := 0) D c2 c4 x1 x2 x3 x4 x5 f1 f2 f3 f4 f5 f6 (fun a ha => ck_sI_ne _ _ _ (by omega)) rfl (g_set (by unfold inB; omega)) (by omega) (by decide) (Mv0_set21 ..) ?_ (fun z => absurd z (by decide)) (fun z => absurd z (by decide)) (fun _ => hv)⟩
    simp [T_undo, Tv, ck_sI]
  · unfold wp_X12_oil; rintro _ rfl; exact br_n k (br_n (fun z => k2 (e98.mp z)) (br_n (by rw [T.lev]; exact k3) ⟨rfl, _, _, _, T⟩))
