/-! what is measured of the day that is -/
def AS (h h1 : ck_H) : Prop := (∀ a, a ≠ 74 → a ≠ 76 → h1.1 a = h.1 a) ∧ h1.2 74 = h.2 74 ∧ mdX h1 = md0 (h.1 32 12) ∧ ∀ j, j < 4 → h1.1 76 j = 0
theorem AS.kX {h h1 : ck_H} (A : AS h h1) : kX h h1 := ⟨fun a ha => A.1 a (by omega) (by omega), by rw [A.2.1]⟩
theorem AS.fX {h h1 h2 : ck_H} (A : AS h h1) (f : ck_fX h1 h2) : AS h h2 := by
  refine ⟨fun a a1 a2 => (f.1 a a1).trans (A.1 a a1 a2), f.2.2.trans A.2.1, ?_, fun j hj => by rw [f.1 76 (by decide)]; exact A.2.2.2 j hj⟩
  rw [← A.2.2.1]
  unfold mdX
  rw [f.2.1 5 (by decide) (by decide), f.2.1 6 (by decide) (by decide), f.2.1 7 (by decide) (by decide), f.2.1 8 (by decide) (by decide), f.2.1 9 (by decide) (by decide), f.2.1 10 (by decide) (by decide)]
theorem AS.of {Q : ck_H → Prop} {h : ck_H} (q : ∀ h1, AS h h1 → Q h1) : wp_X10_asTheyAre h Q :=
  tx_as (fun h1 e1 e2 e3 e4 => q h1 ⟨e1, by rw [e2], e3, fun j hj => by rw [e4]; exact if_pos hj⟩)
theorem SimP.md {J N S : Nat} {h m : ck_H} (T : SimP J N S h m) : mdM m = md0 (h.1 32 12) := by
  obtain ⟨a, b, c, d⟩ := T.mode
  unfold mdM md0
  rw [a, c, d, T.pr.lev]
  simp
theorem AS.pl {h h1 : ck_H} (A : AS h h1) : pl h1 = pl h := pl_eq (fun a h1 h2 => A.1 a (by omega) (by omega))
theorem AS.tq {J N S : Nat} {h h1 m : ck_H} (A : AS h h1) (T : SimP J N S h m) : TQ J S (Tv h1 7) (Mv m 0) ∧ TL J (Tv h1 7) (Mv m 0) :=
  ⟨(Tv_kX A.kX (Or.inl rfl) J S).tr T.now.sy, fun j hj => by rw [T.nz j hj]; exact A.2.2.2 j (by have := T.pr.hJ; omega)⟩
theorem T_nm_Q {J S : Nat} {p : Nat → Nat → Int32} {t u : Tt} {j n : Nat} {hd : Int32} (hj : j < J) (h : TQ J S t u) (l : TL J t u) : T_nm p t j n hd = T_nm p u j n hd := by unfold T_nm; rw [h.2.1 j hj, h.1.2.2.1, l j hj, h.1.2.1]
theorem T_fo_Q {J S : Nat} {p : Nat → Nat → Int32} {md : Md} {t u : Tt} {j n : Nat} {hd : Int32} (hj : j < J) (h : TQ J S t u) (l : TL J t u) : T_fo p md t j n hd = T_fo p md u j n hd := by unfold T_fo; rw [T_nm_Q hj h l, h.2.1 j hj, h.1.2.2.1]
theorem T_sl_Q {J S : Nat} {p : Nat → Nat → Int32} {t u : Tt} {j n : Nat} {hd : Int32} (hj : j < J) (h : TQ J S t u) (l : TL J t u) : T_sl p t j n hd = T_sl p u j n hd := by unfold T_sl; rw [T_nm_Q hj h l]
theorem T_v_Q {J S : Nat} {p : Nat → Nat → Int32} {md : Md} {t u : Tt} {j n : Nat} {hd : Int32} (hj : j < J) (h : TQ J S t u) (l : TL J t u) : T_v p md t j n hd = T_v p md u j n hd := by unfold T_v; rw [T_fo_Q hj h l, T_sl_Q hj h l]
theorem as_meas {J N S j n : Nat} {h h1 m : ck_H} {hd : Int32} {Q : Int32 → ck_H → Prop} (T : SimP J N S h m) (A : AS h h1) (hj : j < J) (hn : n < N)
    (q : ∀ h', AS h h' → h'.1 74 3 = T_fo (pl h) (mdM m) (Mv m 0) j n hd → h'.1 74 4 = T_sl (pl h) (Mv m 0) j n hd → (∀ i, i < 7 → h'.2 75 i = T_nm (pl h) (Mv m 0) j n hd i) → Q (T_v (pl h) (mdM m) (Mv m 0) j n hd) h') : wp_X10_measured 7 (nI j) (nI n) hd h1 Q := by
  have P := T.pr
  have h4 := P.hJ; have h6 := P.hN
  have tq := A.tq T
  have hL : sp_OkL h1 := by
    have := P.lr.ok
    intro k hk
    rw [A.1 48 (by decide) (by decide), A.1 50 (by decide) (by decide), A.1 51 (by decide) (by decide)]
    exact this k hk
  refine me_X (by decide) (by omega) (by omega) hL (fun h' f e3 e4 e75 => ?_)
  have em : mdX h1 = mdM m := by rw [A.2.2.1, T.md]
  have d1 : sp_fX h1 7 j n hd = T_fo (pl h) (mdM m) (Mv m 0) j n hd := by rw [← T_fo_X, A.pl, em]; exact T_fo_Q hj tq.1 tq.2
  have d2 : sp_sX h1 7 j n hd = T_sl (pl h) (Mv m 0) j n hd := by rw [← T_sl_X, A.pl]; exact T_sl_Q hj tq.1 tq.2
  rw [d1, d2]
  refine q h' (A.fX f) (e3.trans d1) (e4.trans d2) (fun i hi => (e75 i hi).trans ?_)
  rw [← T_nm_Q (p := pl h) (n := n) (hd := hd) hj tq.1 tq.2, ← A.pl]
  rfl
theorem m_verd {J N S j n : Nat} {h m m1 : ck_H} {hd : Int32} {Q : Int32 → ck_H → Prop} (T : SimP J N S h m) (f : ck_fM m m1) (hj : j < J) (hn : n < N) (hhd : rg hd 999) (q : ∀ m', ck_fM m m' → Q (T_v (pl h) (mdM m) (Mv m 0) j n hd) m') : wp_X12_verdictAt 0 (nI j) (nI n) hd m1 Q := by
  have P := T.pr
  have h4 := P.hJ; have h6 := P.hN
  have P1 : PR h m1 J N S := FB.pr (FB.of (b := 0) f) P
  refine mm_verdict (h := h) (b := 0) (by decide) (by omega) (by omega) P1.lr (by rw [P1.jaw j hj]; exact P.rjaw j hj) ?_ hhd (fun m' f2 => ?_)
  · rw [f.1 21 (by decide), T.lev]
    obtain ⟨a, a1, a2, a3⟩ := T.nok.2.1
    exact ⟨a, a2, a3⟩
  · rw [T_fo_M P1 hj hn, T_sl_M P1 hj hn, mdM_fM f, Mv_fM f]
    exact q m' (f.tr f2)
theorem xvw_p {J N S j n : Nat} {h m : ck_H} {Q : Int32 → ck_H → Prop} (T : SimP J N S h m) (hj : j < J) (hn : n < N)
    (q : ∀ h', AS h h' → h'.1 74 3 = T_fo (pl h) (mdM m) (Mv m 0) j n (h.1 39 n) → h'.1 74 4 = T_sl (pl h) (Mv m 0) j n (h.1 39 n) → (∀ i, i < 7 → h'.2 75 i = T_nm (pl h) (Mv m 0) j n (h.1 39 n) i) → Q (T_v (pl h) (mdM m) (Mv m 0) j n (h.1 39 n)) h') : wp_X11_verdictWithoutStone (nI j) (nI n) h Q := by
  have P := T.pr
  have h4 := P.hJ; have h6 := P.hN
  unfold wp_X11_verdictWithoutStone
  refine xJ_p P hj (br_n (by decide) (xN_p P hn (br_m (by decide) (AS.of (fun h1 A => ⟨pu_in (by omega) (by decide), ?_⟩)))))
  rw [nI_clamp (n := n) (by omega), A.1 39 (by decide) (by decide)]
  exact as_meas T A hj hn q
theorem xvw_n {J N S : Nat} {h m : ck_H} {x y : Int32} {Q : Int32 → ck_H → Prop} (P : PR h m J N S) (z : ¬ ((∃ j, j < J ∧ x = nI j) ∧ ∃ n, n < N ∧ y = nI n)) (q : Q (-1) h) : wp_X11_verdictWithoutStone x y h Q := by
  unfold wp_X11_verdictWithoutStone
  by_cases c : ∃ j, j < J ∧ x = nI j
  · obtain ⟨j, hj, rfl⟩ := c
    exact xJ_p P hj (br_n (by decide) (xN_n P (fun y => z ⟨⟨j, hj, rfl⟩, y⟩) (br_q rfl q)))
  · exact xJ_n P c (br_p rfl q)
theorem vd_ne {p : Nat → Nat → Int32} {md : Md} {t : Tt} {j n : Nat} {hd : Int32} : ¬ T_v p md t j n hd = -1 := rg_nm1 (sp_verd_rg _ _ _) (by decide)
theorem sim_force {J N S : Nat} {h m : ck_H} {x y : Int32} (H : SimP J N S h m) : wp_X11_force x y h (fun r h' => wp_X12_force x y m (fun r' m' => r = r' ∧ Sim h' m')) := by
  have T := H.thr 0
  have P := T.pr
  have h4 := P.hJ; have h6 := P.hN
  unfold wp_X11_force wp_X12_force
  by_cases c : (∃ j, j < J ∧ x = nI j) ∧ ∃ n, n < N ∧ y = nI n
  · obtain ⟨⟨j, hj, rfl⟩, n, hn, rfl⟩ := c
    refine xvw_p T hj hn (fun h' A e3 e4 e75 => br_m vd_ne ?_)
    rintro _ rfl
    refine mJ_p P hj (br_n (by decide) (mN_p P hn (br_n (by decide) ⟨pu_in (by omega) (by decide), ?_⟩)))
    rw [nI_clamp (n := n) (by omega), P.hard n hn]
    refine mm_force (h := h) (b := 0) (by decide) (by omega) (by omega) P.lr (fun m' f => ⟨?_, _, _, _, T.keep A.kX (kM.fM f)⟩)
    rw [e3, ← T_fo_M P hj hn]
    rfl
  · refine xvw_n P c (br_q rfl ?_)
    rintro _ rfl
    by_cases c1 : ∃ j, j < J ∧ x = nI j
    · obtain ⟨j, hj, rfl⟩ := c1
      exact mJ_p P hj (br_n (by decide) (mN_n P (fun y => c ⟨⟨j, hj, rfl⟩, y⟩) (br_p rfl ⟨rfl, _, _, _, T⟩)))
    · exact mJ_n P c1 (br_p rfl ⟨rfl, _, _, _, T⟩)
theorem sim_slack {J N S : Nat} {h m : ck_H} {x y : Int32} (H : SimP J N S h m) : wp_X11_slack x y h (fun r h' => wp_X12_slack x y m (fun r' m' => r = r' ∧ Sim h' m')) := by
  have T := H.thr 0
  have P := T.pr
  have h4 := P.hJ; have h6 := P.hN
  unfold wp_X11_slack wp_X12_slack
  by_cases c : (∃ j, j < J ∧ x = nI j) ∧ ∃ n, n < N ∧ y = nI n
  · obtain ⟨⟨j, hj, rfl⟩, n, hn, rfl⟩ := c
    refine xvw_p T hj hn (fun h' A e3 e4 e75 => br_m vd_ne ?_)
    rintro _ rfl
    refine mJ_p P hj (br_n (by decide) (mN_p P hn (br_n (by decide) ⟨pu_in (by omega) (by decide), ?_⟩)))
    rw [nI_clamp (n := n) (by omega), P.hard n hn]
    refine mm_slack (h := h) (b := 0) (by decide) (by omega) (by omega) P.lr (fun m' f => ⟨?_, _, _, _, T.keep A.kX (kM.fM f)⟩)
    rw [e4, ← T_sl_M P hj hn]
    rfl
  · refine xvw_n P c (br_q rfl ?_)
    rintro _ rfl
    by_cases c1 : ∃ j, j < J ∧ x = nI j
    · obtain ⟨j, hj, rfl⟩ := c1
      exact mJ_p P hj (br_n (by decide) (mN_n P (fun y => c ⟨⟨j, hj, rfl⟩, y⟩) (br_p rfl ⟨rfl, _, _, _, T⟩)))
    · exact mJ_n P c1 (br_p rfl ⟨rfl, _, _, _, T⟩)
theorem sim_verdict {J N S : Nat} {h m : ck_H} {x y : Int32} (H : SimP J N S h m) : wp_X11_verdict x y h (fun r h' => wp_X12_verdict x y m (fun r' m' => r = r' ∧ Sim h' m')) := by
  have T := H.thr 0
  have P := T.pr
  have h4 := P.hJ; have h6 := P.hN
  unfold wp_X11_verdict wp_X12_verdict
  by_cases c : (∃ j, j < J ∧ x = nI j) ∧ ∃ n, n < N ∧ y = nI n
  · obtain ⟨⟨j, hj, rfl⟩, n, hn, rfl⟩ := c
    refine xvw_p T hj hn (fun h' A e3 e4 e75 => ?_)
    rintro _ rfl
    refine mJ_p P hj (br_n (by decide) (mN_p P hn (br_n (by decide) ⟨pu_in (by omega) (by decide), ?_⟩)))
    rw [nI_clamp (n := n) (by omega), P.hard n hn]
    exact m_verd T (ck_fM.rf _) hj hn ((P.rhard n hn).le (by decide)) (fun m' f => ⟨rfl, _, _, _, T.keep A.kX (kM.fM f)⟩)
  · refine xvw_n P c ?_
    rintro _ rfl
    by_cases c1 : ∃ j, j < J ∧ x = nI j
    · obtain ⟨j, hj, rfl⟩ := c1
      exact mJ_p P hj (br_n (by decide) (mN_n P (fun y => c ⟨⟨j, hj, rfl⟩, y⟩) (br_p rfl ⟨rfl, _, _, _, T⟩)))
    · exact mJ_n P c1 (br_p rfl ⟨rfl, _, _, _, T⟩)
theorem AS.s2 {h h1 : ck_H} (A : AS h h1) (st : Nat → Int64) : AS h (ck_s2 h1 52 st) := ⟨A.1, by rw [ck_s2_ne _ _ (by decide)]; exact A.2.1, A.2.2.1, A.2.2.2⟩
theorem sim_law {J N S : Nat} {h m : ck_H} {w x y : Int32} (H : SimP J N S h m) : wp_X11_law w x y h (fun r h' => wp_X12_law w x y m (fun r' m' => r = r' ∧ Sim h' m')) := by
  have T := H.thr 0
  have P := T.pr
  have h4 := P.hJ; have h6 := P.hN
  unfold wp_X11_law
  by_cases cw : ∃ k, k < 3 ∧ w = nI k
  · obtain ⟨k, hk, rfl⟩ := cw
    refine is_p (n := 3) rfl hk (by decide) ?_
    obtain ⟨a, b, l1, l2, l3, l4, hok, hkr⟩ := P.lr k hk
    have n1 : ¬ nI k < 0 := nI_pos (by omega)
    have n2 : ¬ (2 : Int32) < nI k := nI_nlt (a := 2) (by omega) (by decide)
    by_cases c : (∃ j, j < J ∧ x = nI j) ∧ ∃ n, n < N ∧ y = nI n
    · obtain ⟨⟨j, hj, rfl⟩, n, hn, rfl⟩ := c
      refine xvw_p T hj hn (fun h' A e3 e4 e75 => br_m vd_ne ?_)
      have hL : sp_OkL h' := by
        have := P.lr.ok
        intro k hk
        rw [A.1 48 (by decide) (by decide), A.1 50 (by decide) (by decide), A.1 51 (by decide) (by decide)]
        exact this k hk
      refine sp_worked hk hL e75 (fun st => ?_)
      have el : sp_law h' k (T_nm (pl h) (Mv (ck_sI m 0 0 0) 0) j n (h.1 39 n)) = ev_law (h.1 48) (h.1 49) (T_nm (pl h) (Mv (ck_sI m 0 0 0) 0) j n (h.1 39 n)) a b := by
        unfold sp_law
        rw [A.1 48 (by decide) (by decide), A.1 49 (by decide) (by decide), A.1 50 (by decide) (by decide), A.1 51 (by decide) (by decide), l1, l2, nI_clamp (by have := hok.1; have := hok.2.1; omega), nI_clamp (by have := hok.2.1; omega)]
      rw [el]
      have h64 := hok.2.1
      unfold wp_X12_law
      rintro _ rfl
      refine br_n n1 (br_n n2 ?_)
      unfold wp_X12_hasLaw
      rw [nI_clamp (n := k) (by omega), l3, l4]
      refine ⟨pu_in (by omega) (by decide), pu_in (by omega) (by decide), pk_le b a (fun c => ?_) (fun c => ?_) rfl rfl (by omega) (by have := hok.1; omega)⟩
      · refine br_p rfl ⟨?_, _, _, _, T.keep (A.s2 st).kX (kM.rf _)⟩
        unfold ev_law
        rw [if_pos c]
        rfl
      · refine br_n (by decide) (mJ_p P hj (br_n (by decide) (mN_p P hn (br_m (by decide) ⟨pu_in (by omega) (by decide), ?_⟩))))
        rw [nI_clamp (n := n) (by omega), P.hard n hn]
        refine mm_calls (b := 0) (by decide) (by omega) (by omega) (fun m1 f1 hnr => ?_)
        rw [T_nm_M P hj hn] at hnr
        have f1' : ck_fM (ck_sI m 0 0 0) m1 := ck_fM.of f1
        refine ev_goes (kd := h.1 48) (nb := h.1 49) hk c (by rw [f1]; exact l3) (by rw [f1]; exact l4) hok (by rw [f1]; exact hkr) hnr (fun z n st' => br_p rfl ⟨by rw [z]; rfl, _, _, _, T.keep (A.s2 st).kX (kM.fM (f1'.tr (ck_fM.m2 _ _ _)))⟩) (fun v z n st' e => br_n (by decide) ⟨by rw [z, ck_m2_s, e]; rfl, _, _, _, T.keep (A.s2 st).kX (kM.fM (f1'.tr (ck_fM.m2 _ _ _)))⟩)
    · refine xvw_n P c (br_q rfl ?_)
      unfold wp_X12_law
      rintro _ rfl
      refine br_n n1 (br_n n2 ?_)
      unfold wp_X12_hasLaw
      refine ⟨pu_in (by omega) (by decide), pu_in (by omega) (by decide), fun _ => br_p rfl ⟨rfl, _, _, _, T⟩, fun _ => br_n (by decide) ?_⟩
      by_cases c1 : ∃ j, j < J ∧ x = nI j
      · obtain ⟨j, hj, rfl⟩ := c1
        exact mJ_p P hj (br_n (by decide) (mN_n P (fun y => c ⟨⟨j, hj, rfl⟩, y⟩) (br_q rfl ⟨rfl, _, _, _, T⟩)))
      · exact mJ_n P c1 (br_p rfl ⟨rfl, _, _, _, T⟩)
  · have hm : wp_X12_law w x y m (fun r' m' => (-9223372036854775808 : Int64) = r' ∧ Sim h m') := by
      unfold wp_X12_law
      rintro _ rfl
      rcases pk_ix w (n := 3) (by decide) with c | c | c
      · exact br_p c ⟨rfl, _, _, _, T⟩
      · by_cases c0 : w < 0
        · exact br_p c0 ⟨rfl, _, _, _, T⟩
        · refine br_n c0 (br_p ?_ ⟨rfl, _, _, _, T⟩)
          have c : (3 : Int32) ≤ w := c
          rw [Int32.le_iff_toInt_le] at c
          rw [Int32.lt_iff_toInt_lt]
          have e3 : (3 : Int32).toInt = 3 := by decide
          have e2 : (2 : Int32).toInt = 2 := by decide
          omega
      · exact absurd c cw
    exact is_n (n := 3) rfl (by decide) cw hm
