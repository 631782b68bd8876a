/-! the least lever, and the judges by whom it comes whole -/
def en (V : Nat → Int32) : Nat → Nat → Int32
  | 0, _ => -2
  | k + 1, l => if V l = 1 then nI l else en V k (l + 1)
def tl (l : Nat) (t : Tt) : Tt := T_undo 3 0 (nI l) t
/-- a court thought of, but for its lever -/
def TH (J S : Nat) (h m h' : ck_H) : Prop := XF h h' ∧ h'.2 74 11 = h.2 74 11 ∧ mdX h' = mdM m ∧ (∀ j, j < 4 → h'.1 76 j = 0) ∧ ∀ l, TQ J S (tl l (Tv h' 17)) (tl l (Mv m 0))
theorem Tv_6 (h : ck_H) (v : Int32) : Tv (ck_sI h 17 6 v) 17 = T_undo 3 0 v (Tv h 17) := by simp [T_undo, Tv, ck_sI]
theorem tl_tl (l k : Nat) (t : Tt) : tl l (tl k t) = tl l t := by
  unfold tl T_undo
  simp only [if_neg (show ¬ (3 : Int32) = 0 by decide), if_neg (show ¬ (3 : Int32) = 1 by decide), if_neg (show ¬ (3 : Int32) = 2 by decide)]
  refine Prod.ext ?_ rfl
  funext i
  by_cases c : i = 6
  · subst c; simp [upd]
  · simp [upd, c]
theorem tx_en {J N S j n : Nat} {h m : ck_H} {Q : Int32 → ck_H → Prop} (T : SimP J N S h m) (hj : j < J) (hn : n < N) : ∀ (k l f : Nat) (h' : ck_H), k < f → l + k = 100 → TH J S h m h' →
    (∀ h2, kX h h2 → Q (en (fun l => T_v (pl h) (mdM m) (tl l (Mv m 0)) j n (h.1 39 n)) k l) h2) → wp_X11_enough_27 Q f (nI j) (nI n) (nI l) h' := by
  have h4 := T.pr.hJ; have h6 := T.pr.hN
  intro k
  induction k with
  | zero =>
    intro l f h' hf hl A q
    obtain ⟨f, rfl⟩ : ∃ g, f = g + 1 := ⟨f - 1, by omega⟩
    unfold wp_X11_enough_27
    exact pk_lt 99 l (fun _ => q h' (A.1.kX A.2.1)) (fun z => by omega)
  | succ k ih =>
    intro l f h' hf hl A q
    obtain ⟨f, rfl⟩ : ∃ g, f = g + 1 := ⟨f - 1, by omega⟩
    obtain ⟨a1, a2, a3, a4, a5⟩ := A
    unfold wp_X11_enough_27
    refine pk_lt 99 l (fun z => by omega) (fun _ => ?_)
    rintro _ rfl
    rw [nI_clamp (n := n) (by omega), ck_sI_ne _ _ _ (show (39 : Nat) ≠ 17 by decide), a1 39 (by omega) (by omega) (by omega)]
    refine ⟨pu_in (by omega) (by decide), ?_⟩
    have P1 : PR (ck_sI h' 17 6 (nI l)) m J N S := T.pr.kept (fun a b1 b2 => by rw [ck_sI_ne _ _ _ (by omega), a1 a (by omega) (by omega) (by omega)]) (fun _ _ _ => rfl)
    refine me_X (by decide) (by omega) (by omega) P1.lr.ok (fun h2 f2 _ _ _ => ?_)
    have em : mdX (ck_sI h' 17 6 (nI l)) = mdM m := by
      rw [← a3]
      unfold mdX
      rw [ck_sI_ne _ _ _ (by decide)]
    have ep : pl (ck_sI h' 17 6 (nI l)) = pl h := pl_eq (fun a b1 b2 => by rw [ck_sI_ne _ _ _ (by omega), a1 a (by omega) (by omega) (by omega)])
    have tv : T_v (pl (ck_sI h' 17 6 (nI l))) (mdX (ck_sI h' 17 6 (nI l))) (Tv (ck_sI h' 17 6 (nI l)) 17) j n (h.1 39 n) = T_v (pl h) (mdM m) (tl l (Mv m 0)) j n (h.1 39 n) := by
      rw [em, ep, Tv_6]
      refine T_v_Q hj (a5 l) (fun i hi => ?_)
      show h'.1 76 i = (Mv m 0).2.2.2.2.2.1 i
      rw [T.nz i hi]; exact a4 i (by omega)
    rw [← T_v_X, tv]
    have A2 : TH J S h m h2 := by
      refine ⟨fun a b1 b2 b3 => by rw [f2.1 a b2, ck_sI_ne _ _ _ (by omega), a1 a b1 b2 b3], ?_, ?_, fun i hi => ?_, fun k => ?_⟩
      · rw [f2.2.2]; exact a2
      · rw [← em]
        unfold mdX
        rw [f2.2.1 6 (by decide) (by decide), f2.2.1 7 (by decide) (by decide), f2.2.1 8 (by decide) (by decide), f2.2.1 9 (by decide) (by decide), f2.2.1 10 (by decide) (by decide), f2.2.1 5 (by decide) (by decide)]
      · rw [f2.1 76 (by decide), ck_sI_ne _ _ _ (by decide)]; exact a4 i hi
      · have e : TQ J S (Tv h2 17) (tl l (Tv h' 17)) := by
          have := Tv_same (h := ck_sI h' 17 6 (nI l)) (h' := h2) (o := 17) (fun a b1 b2 => f2.1 a (by omega)) (by rw [f2.2.2]) J S
          rw [Tv_6] at this
          exact this
        have e2 : TQ J S (tl k (Tv h2 17)) (tl k (tl l (Tv h' 17))) := T_undo_Q e
        rw [tl_tl] at e2
        exact e2.tr (a5 k)
    unfold en at q
    refine ⟨fun c => ?_, fun c => ?_⟩
    · rintro _ rfl
      rw [nI_1]
      rw [if_neg c] at q
      exact ih (l + 1) f h2 (by omega) (by omega) A2 q
    · rw [if_pos c] at q
      exact q h2 (A2.1.kX A2.2.1)
theorem mm_en {J N S j n : Nat} {h m : ck_H} {Q : Int32 → ck_H → Prop} (T : SimP J N S h m) (hj : j < J) (hn : n < N) : ∀ (k l f : Nat) (m' : ck_H), k < f → l + k = 100 → 1 ≤ l → FB 1 m m' → m'.1 0 50 = m.1 0 50 → (∀ i, i < J → m'.1 25 (4 + i) = 0) → (∀ l, TQ J S (tl l (Mv m' 1)) (tl l (Mv m 0))) →
    (∀ m2, kM m m2 → Q (en (fun l => T_v (pl h) (mdM m) (tl l (Mv m 0)) j n (h.1 39 n)) k l) m2) → wp_X12_enough_31 Q f (nI j) (nI n) (nI l) m' := by
  have h4 := T.pr.hJ; have h6 := T.pr.hN
  intro k
  induction k with
  | zero =>
    intro l f m' hf hl h1 fb e50 z0 tq q
    obtain ⟨f, rfl⟩ : ∃ g, f = g + 1 := ⟨f - 1, by omega⟩
    unfold wp_X12_enough_31
    exact pk_lt 99 l (fun _ => q m' (fb.kM (by rw [e50]))) (fun z => by omega)
  | succ k ih =>
    intro l f m' hf hl h1 fb e50 z0 tq q
    obtain ⟨f, rfl⟩ : ∃ g, f = g + 1 := ⟨f - 1, by omega⟩
    unfold wp_X12_enough_31
    refine pk_lt 99 l (fun z => by omega) (fun _ => ?_)
    rintro _ rfl
    have P1 : PR h (ck_sI m' 21 1 (nI l)) J N S := (fb.tr (FB.set m' (nI l) (show inB 21 1 1 by unfold inB; omega))).pr T.pr
    have eh : (ck_sI m' 21 1 (nI l)).1 7 n = h.1 39 n := P1.hard n hn
    rw [nI_clamp (n := n) (by omega), eh]
    refine ⟨pu_in (by omega) (by decide), ?_⟩
    refine mm_verdict (h := h) (b := 1) (by decide) (by omega) (by omega) P1.lr (by rw [P1.jaw j hj]; exact T.pr.rjaw j hj) ?_ ((T.pr.rhard n hn).le (by omega)) (fun m2 f2 => ?_)
    · rw [ck_sI_at]; exact ⟨l, by omega, rfl⟩
    have em : mdM (ck_sI m' 21 1 (nI l)) = mdM m := (fb.tr (FB.set m' (nI l) (show inB 21 1 1 by unfold inB; omega))).md
    have tv : T_v (pl h) (mdM (ck_sI m' 21 1 (nI l))) (Mv (ck_sI m' 21 1 (nI l)) 1) j n (h.1 39 n) = T_v (pl h) (mdM m) (tl l (Mv m 0)) j n (h.1 39 n) := by
      rw [em, Mv_21]
      refine T_v_Q hj (tq l) (fun i hi => ?_)
      show m'.1 25 (4 * 1 + i) = (Mv m 0).2.2.2.2.2.1 i
      rw [T.nz i hi]; exact z0 i hi
    rw [T_fo_M P1 hj hn, T_sl_M P1 hj hn]
    have tv' : sp_verd (T_fo (pl h) (mdM (ck_sI m' 21 1 (nI l))) (Mv (ck_sI m' 21 1 (nI l)) 1) j n (h.1 39 n)) (T_sl (pl h) (Mv (ck_sI m' 21 1 (nI l)) 1) j n (h.1 39 n)) (h.1 39 n) = T_v (pl h) (mdM m) (tl l (Mv m 0)) j n (h.1 39 n) := tv
    rw [tv']
    have fb2 : FB 1 m m2 := (fb.tr (FB.set m' (nI l) (show inB 21 1 1 by unfold inB; omega))).tr (FB.of f2)
    have e502 : m2.1 0 50 = m.1 0 50 := by rw [f2.2 50 (by decide), ck_sI_ne _ _ _ (by decide)]; exact e50
    unfold en at q
    refine ⟨fun c => ?_, fun c => ?_⟩
    · rintro _ rfl
      rw [nI_1]
      rw [if_neg c] at q
      refine ih (l + 1) f m2 (by omega) (by omega) (by omega) fb2 e502 (fun i hi => by rw [f2.1 25 (by decide), ck_sI_ne _ _ _ (by decide)]; exact z0 i hi) (fun k => ?_) q
      rw [Mv_fM f2, Mv_21]
      have e2 : tl k (upd (Mf m' 1) 6 (nI l), (Mv m' 1).2) = tl k (tl l (Mv m' 1)) := rfl
      rw [e2, tl_tl]
      exact tq k
    · rw [if_pos c] at q
      exact q m2 (fb2.kM (by rw [e502]))
theorem sim_enough {J N S : Nat} {h m : ck_H} {x y : Int32} (H : SimP J N S h m) : wp_X11_enough x y h (fun r h' => wp_X12_enough x y m (fun r' m' => r = r' ∧ Sim h' m')) := by
  have T := H.thr 0
  have P := T.pr
  have hJ := P.hJ; have hS := P.hS
  unfold wp_X11_enough wp_X12_enough
  by_cases cj : ∃ j, j < J ∧ x = nI j
  · obtain ⟨j, hj, rfl⟩ := cj
    refine xJ_p P hj (br_n (by decide) ?_)
    by_cases cn : ∃ n, n < N ∧ y = nI n
    · obtain ⟨n, hn, rfl⟩ := cn
      refine xN_p P hn (br_m (by decide) ?_)
      refine tx_think (fun h1 x1 e2 e3 e4 e5 => ?_)
      refine tx_en T hj hn 99 1 lpN h1 (by decide) (by omega) ⟨x1, by rw [e2], e3.trans T.md.symm, e4, fun l => T_undo_Q ((e5 J S hJ hS).tr T.now.sy)⟩ (fun h2 k2 => ?_)
      rintro _ rfl
      refine mJ_p P hj (br_n (by decide) (mN_p P hn (br_m (by decide) ?_)))
      refine mm_copies (t := 1) (b := 0) (by decide) (by decide) (by decide) (fun m1 f1 q1 => ?_)
      have q1 := q1 J S hJ hS
      exact mm_en T hj hn 99 1 lpN m1 (by decide) (by omega) (by omega) (fun a i a1 _ => f1 a i a1) (f1 0 50 (by unfold inB; omega)) (fun i hi => (q1.2 i hi).trans (T.nz i hi)) (fun l => T_undo_Q q1.1) (fun m2 km => ⟨rfl, _, _, _, T.keep k2 km⟩)
    · refine xN_n P cn (br_q rfl ?_)
      rintro _ rfl
      exact mJ_p P hj (br_n (by decide) (mN_n P cn (br_q rfl ⟨rfl, _, _, _, T⟩)))
  · refine xJ_n P cj (br_p rfl ?_)
    rintro _ rfl
    exact mJ_n P cj (br_p rfl ⟨rfl, _, _, _, T⟩)
theorem sim_wholeBy {J N S : Nat} {h m : ck_H} {x : Int32} (H : SimP J N S h m) : wp_X11_wholeBy x h (fun r h' => wp_X12_wholeBy x m (fun r' m' => r = r' ∧ Sim h' m')) := by
  have T := H.thr 0
  have P := T.pr
  have h10 := P.hS; have h6 := P.hN; have h4 := P.hJ
  unfold wp_X11_wholeBy
  by_cases c : ∃ s, s < S ∧ x = nI s ∧ h.1 11 s = -1
  · obtain ⟨s, hs, rfl, e⟩ := c
    obtain ⟨n, hn, en⟩ := P.rno s hs
    refine xP_p P hs e (br_m (by decide) (AS.of (fun h1 A1 => as_hard T A1 hs ?_)))
    generalize hF : (fun (z : Int32) (j : Nat) => if T_v (pl h) (mdM (ck_sI m 0 0 0)) (Mv (ck_sI m 0 0 0) 0) j n (T_hard (pl h) (mdM (ck_sI m 0 0 0)) (Mv (ck_sI m 0 0 0) 0) s) = 1 then z ||| ((1 : Int32) <<< (nI j &&& 31)) else z) = F
    refine lp_foH (fun f z j h' => wp_X11_wholeBy_35 (fun r h' => wp_X12_wholeBy (nI s) m (fun r' m' => r = r' ∧ Sim h' m')) f (nI s) (T_hard (pl h) (mdM (ck_sI m 0 0 0)) (Mv (ck_sI m 0 0 0) 0) s) z (nI j) h') (fun h' => AS h h') F J (fun z => z = fo F J 0 0) ?_ ?_ J 0 lpN 0 h1 A1 (by unfold lpN; omega) (by omega) rfl
    · rintro f z h' A rfl
      unfold wp_X11_wholeBy_35
      refine pk_le J J (fun _ => ?_) (fun z => by omega) (by rw [A.1 33 (by decide) (by decide)]; exact P.xJ) rfl (by omega) (by omega)
      unfold wp_X12_wholeBy
      rintro _ rfl
      refine mP_p P hs ((T.pend hs).mpr e) (br_m (by decide) ?_)
      refine lp_foH (fun f z j m' => wp_X12_wholeBy_19 (fun r' m' => fo F J 0 0 = r' ∧ Sim h' m') f (nI s) z (nI j) m') (fun m' => ck_fM (ck_sI m 0 0 0) m') F J (fun z => z = fo F J 0 0) ?_ ?_ J 0 lpN 0 _ (ck_fM.rf _) (by unfold lpN; omega) (by omega) rfl
      · rintro f z m1 f1 rfl
        unfold wp_X12_wholeBy_19
        refine pk_le J J (fun _ => ?_) (fun z => by omega) (by rw [f1.1 2 (by decide)]; exact P.mJ) rfl (by omega) (by omega)
        exact ⟨rfl, _, _, _, T.keep A.kX (kM.fM f1)⟩
      · intro f z j m1 f1 hj k
        unfold wp_X12_wholeBy_19
        refine pk_le J j (fun z => by omega) (fun _ => ⟨pu_in (by omega) (by decide), ?_⟩) (by rw [f1.1 2 (by decide)]; exact P.mJ) rfl (by omega) (by omega)
        refine m_hard T f1 hs ?_
        rw [nI_clamp (n := s) (by omega), f1.1 12 (by decide), P.no s hs, en]
        refine m_verd T f1 hj hn ((T.hd hs).le (by omega)) (fun m2 f2 => ?_)
        have k := k m2 f2
        rw [← hF] at k
        unfold wp_X12_wholeBy_59
        refine ⟨fun cv => ?_, fun cv => ?_⟩
        · rintro _ rfl _ rfl
          rw [nI_1]
          have k' := k
          simp only [if_neg cv] at k'
          rw [Int32.or_zero]
          rw [← hF]
          exact k'
        · rintro _ rfl _ rfl
          rw [nI_1]
          have k' := k
          simp only [if_pos cv] at k'
          rw [← hF]
          exact k'
    · intro f z j h' A hj k
      unfold wp_X11_wholeBy_35
      refine pk_le J j (fun z => by omega) (fun _ => ⟨pu_in (by omega) (by decide), ?_⟩) (by rw [A.1 33 (by decide) (by decide)]; exact P.xJ) rfl (by omega) (by omega)
      rw [nI_clamp (n := s) (by omega), A.1 45 (by decide) (by decide), en]
      refine as_meas T A hj hn (fun h2 A2 _ _ _ => ?_)
      have k := k h2 A2
      rw [← hF] at k
      unfold wp_X11_wholeBy_84
      refine ⟨fun cv => ?_, fun cv => ?_⟩
      · rintro _ rfl
        rw [nI_1]
        have k' := k
        simp only [if_neg cv] at k'
        exact k'
      · rintro _ rfl _ rfl
        rw [nI_1]
        have k' := k
        simp only [if_pos cv] at k'
        exact k'
  · refine xP_n P c (br_q rfl ?_)
    unfold wp_X12_wholeBy
    rintro _ rfl
    exact mP_n P (fun ⟨s, hs, e, k⟩ => c ⟨s, hs, e, (T.pend hs).mp k⟩) (br_q rfl ⟨rfl, _, _, _, T⟩)
