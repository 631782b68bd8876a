/-! tried otherwise -/
def tmd (x y l : Int32) : Md := (decide (x = 1), decide (x = 4), decide (x = 3), if x = 2 then y else -1, false, l)
def tst (x : Int32) (t : Tt) : Tt := if x = 5 then T_undo 3 0 99 t else t
theorem T_undo3_sd (v : Int32) (t : Tt) : (T_undo 3 0 v t).2.2.2.2.2.2 = t.2.2.2.2.2.2 := rfl
theorem tst_sd (x : Int32) (t : Tt) : (tst x t).2.2.2.2.2.2 = t.2.2.2.2.2.2 := by
  unfold tst
  split <;> rfl
theorem tst_Ok {B J S : Nat} {x : Int32} {t : Tt} (H : TOk B J S t) : TOk B J S (tst x t) := by
  unfold tst
  split
  · exact T_undo_Ok H (fun z => absurd z (by decide)) (fun z => absurd z (by decide)) (fun _ => ⟨99, by omega, by omega, rfl⟩) (by decide)
  · exact H
theorem tx_tr43 {J N S n : Nat} {h m : ck_H} {x y : Int32} {Q : Int32 → ck_H → Prop} (T : SimP J N S h m) (hn : n ≤ 1000)
    (q : ∀ h', XF h h' → kX h h' → Q (g_gain (pl h) (T_days (pl h) (tmd x y (h.1 32 12)) S n (tst x (Mv m 0))) S - g_gain (pl h) (Mv m 0) S) h') : wp_X11_tried_43 Q x y (nI n) h := by
  have hJ := T.pr.hJ; have hS := T.pr.hS
  unfold wp_X11_tried_43
  refine tx_think (fun h1 xf e2 e3 e4 e5 => ?_)
  have f132 : ∀ hh, XF h hh → mdX hh = tmd x y (h.1 32 12) → TQ J S (Tv hh 17) (tst x (Mv m 0)) → wp_X11_tried_132 Q (nI n) hh := by
    intro hh xh em qh
    unfold wp_X11_tried_132
    refine tx_run (m := m) T.pr xh (tst_Ok T.tok) qh em T.pr.rlev (by omega) (fun h' x' _ q' => tx_more T x' q' (q h' x' (x'.kX ?_)))
    have e : h'.2 74 11 = (T_days (pl h) (tmd x y (h.1 32 12)) S n (tst x (Mv m 0))).2.2.2.2.2.2 := q'.2.2.2
    rw [e, T_days_sd0 rfl, tst_sd]
    exact T.now.2.2.2
  have k5 : h1.1 74 5 = h.1 32 12 := congrArg (fun z : Md => z.2.2.2.2.2) e3
  have k10 : decide (¬ h1.1 74 10 = 0) = false := congrArg (fun z : Md => z.2.2.2.2.1) e3
  have F : ∀ b6 b9 b8 b7 : Int32, decide (¬ b6 = 0) = decide (x = 1) → (if x = 2 then y else -1) = b9 → decide (¬ b8 = 0) = decide (x = 3) → decide (¬ b7 = 0) = decide (x = 4) →
      ((¬ x = 5 → wp_X11_tried_132 Q (nI n) (ck_sI (ck_sI (ck_sI (ck_sI h1 74 6 b6) 74 9 b9) 74 8 b8) 74 7 b7)) ∧ (x = 5 → ∀ h23, h23 = ck_sI (ck_sI (ck_sI (ck_sI (ck_sI h1 74 6 b6) 74 9 b9) 74 8 b8) 74 7 b7) 17 6 99 → wp_X11_tried_132 Q (nI n) h23)) := by
    intro b6 b9 b8 b7 d6 d9 d8 d7
    generalize hH : ck_sI (ck_sI (ck_sI (ck_sI h1 74 6 b6) 74 9 b9) 74 8 b8) 74 7 b7 = H4
    have g : ∀ a, a ≠ 74 → H4.1 a = h1.1 a := fun a ha => by rw [← hH, ck_sI_ne _ _ _ ha, ck_sI_ne _ _ _ ha, ck_sI_ne _ _ _ ha, ck_sI_ne _ _ _ ha]
    have g2 : H4.2 = h1.2 := by rw [← hH]; rfl
    have xh : XF h H4 := fun a a1 a2 a3 => by rw [g a a2, xf a a1 a2 a3]
    have em : mdX H4 = tmd x y (h.1 32 12) := by
      have r6 : H4.1 74 6 = b6 := by rw [← hH]; simp [ck_sI, upd]
      have r9 : H4.1 74 9 = b9 := by rw [← hH]; simp [ck_sI, upd]
      have r8 : H4.1 74 8 = b8 := by rw [← hH]; simp [ck_sI, upd]
      have r7 : H4.1 74 7 = b7 := by rw [← hH]; simp [ck_sI, upd]
      have r10 : H4.1 74 10 = h1.1 74 10 := by rw [← hH]; simp [ck_sI, upd]
      have r5 : H4.1 74 5 = h1.1 74 5 := by rw [← hH]; simp [ck_sI, upd]
      unfold mdX tmd
      rw [r6, r7, r8, r9, r10, r5, d6, d7, d8, d9, k10, k5]
    have tq : TQ J S (Tv H4 17) (Mv m 0) := (Tv_same (fun a a1 a2 => g a (by omega)) (by rw [g2]) J S).tr ((e5 J S hJ hS).tr T.now.sy)
    refine ⟨fun c => f132 H4 xh em (by unfold tst; rw [if_neg c]; exact tq), fun c => ?_⟩
    rintro _ rfl
    refine f132 _ (fun a a1 a2 a3 => by rw [ck_sI_ne _ _ _ (by omega), xh a a1 a2 a3]) ?_ ?_
    · rw [← em]
      unfold mdX
      rw [ck_sI_ne _ _ _ (by decide)]
    · unfold tst
      rw [if_pos c]
      have e : Tv (ck_sI H4 17 6 99) 17 = T_undo 3 0 99 (Tv H4 17) := by simp [T_undo, Tv, ck_sI]
      rw [e]
      exact T_undo_Q tq
  unfold wp_X11_tried_64 wp_X11_tried_81 wp_X11_tried_98 wp_X11_tried_115
  refine ⟨fun c1 => ⟨Or.inl rfl, ?_⟩, fun c1 => ⟨Or.inr rfl, ?_⟩⟩ <;> rintro _ rfl <;> refine ⟨fun c2 => ?_, fun c2 => ?_⟩ <;> rintro _ rfl <;> refine ⟨fun c3 => ⟨Or.inl rfl, ?_⟩, fun c3 => ⟨Or.inr rfl, ?_⟩⟩ <;> rintro _ rfl <;> refine ⟨fun c4 => ⟨Or.inl rfl, ?_⟩, fun c4 => ⟨Or.inr rfl, ?_⟩⟩ <;> rintro _ rfl <;> exact F _ _ _ _ (by simp [c1]) (by simp [c2]) (by simp [c3]) (by simp [c4])
theorem mm_tr36 {J N S n : Nat} {h m : ck_H} {x y b : Int32} {Q : Int32 → ck_H → Prop} (T : SimP J N S h m) (hb : ¬ b = 0) (hn : n ≤ 99)
    (q : ∀ m', kM m m' → Q (g_gain (pl h) (T_days (pl h) (tmd x y (h.1 32 12)) S n (tst x (Mv m 0))) S - g_gain (pl h) (Mv m 0) S) m') : wp_X12_tried_36 Q x y (nI n) b m := by
  have hJ := T.pr.hJ; have hS := T.pr.hS
  unfold wp_X12_tried_36
  refine br_n hb (br_n (nI_pos (by omega)) (br_p (by rw [show (99 : Int32) = nI 99 from rfl, nI_leI (by omega) (by omega)]; exact hn) ?_))
  rintro _ rfl _ rfl
  generalize hM : ck_sI (ck_sI m 0 46 x) 0 47 y = M
  have g : ∀ a, a ≠ 0 → M.1 a = m.1 a := fun a a0 => by rw [← hM, ck_sI_ne _ _ _ a0, ck_sI_ne _ _ _ a0]
  have g0 : ∀ i, i ≠ 46 → i ≠ 47 → M.1 0 i = m.1 0 i := fun i h1 h2 => by rw [← hM, ck_sI_nj _ _ h2, ck_sI_nj _ _ h1]
  have g46 : M.1 0 46 = x := by rw [← hM, ck_sI_nj _ _ (by decide), ck_sI_at]
  have g47 : M.1 0 47 = y := by rw [← hM, ck_sI_at]
  have gM : TQ J S (Mv M 0) (Mv m 0) ∧ TL J (Mv M 0) (Mv m 0) := Mv_same hJ hS (fun a i hi => by rw [g a (by unfold inB at hi; omega)]) (g0 50 (by decide) (by decide))
  refine mm_copies (t := 1) (b := 0) (by decide) (by decide) (by decide) (fun m9 f9 q9 => ?_)
  have q9 := q9 J S hJ hS
  have f84 : ∀ mm, FB 1 m9 mm → TQ J S (Mv mm 1) (tst x (Mv m 0)) → LZ J (Mv mm 1) → (mm.1 0 50).toInt64 = (m.1 0 50).toInt64 → wp_X12_tried_84 Q (nI n) mm := by
    intro mm fm qm zm sm
    have P1 : PR h mm J N S := T.pr.kept (fun _ _ _ => rfl) (fun a h1 h2 => by
      rw [fm.row (by omega) (by omega), ← g a (by omega)]
      funext i
      exact f9 a i (by unfold inB; omega))
    have em : mdM mm = tmd x y (h.1 32 12) := by
      obtain ⟨a1, a2, a3, a4⟩ := T.mode
      unfold mdM tmd
      rw [fm.fl (i := 46) (by decide) (by decide), fm.fl (i := 47) (by decide) (by decide), fm.fl (i := 48) (by decide) (by decide), fm.fl (i := 49) (by decide) (by decide), f9 0 46 (by unfold inB; omega), f9 0 47 (by unfold inB; omega), f9 0 48 (by unfold inB; omega), f9 0 49 (by unfold inB; omega), g46, g47, g0 48 (by decide) (by decide), g0 49 (by decide) (by decide), a3, a4, if_pos rfl, P1.lev]
      simp
    unfold wp_X12_tried_84
    refine mm_run P1 (tst_Ok T.tok) ?_ qm zm em T.pr.rlev (by omega) (by omega) (fun m' q' z' f' => ?_)
    · obtain ⟨d, d1, d2⟩ := T.sd0
      exact ⟨d, d1, (tst_sd x _).trans d2⟩
    rintro _ rfl _ rfl
    have e50 : (m'.1 0 50).toInt64 = (m.1 0 50).toInt64 := by
      have e : (m'.1 0 50).toInt64 = (T_days (pl h) (tmd x y (h.1 32 12)) S n (tst x (Mv m 0))).2.2.2.2.2.2 := q'.2.2.2
      rw [e, T_days_sd0 rfl, tst_sd]
      rfl
    have km : kM m (ck_sI (ck_sI m' 0 46 0) 0 47 (-1)) := by
      obtain ⟨a1, a2, a3, a4⟩ := T.mode
      intro a i h1 h2 h3 h4
      by_cases c : a = 0
      · subst c
        have h4 := h4 rfl
        by_cases c47 : i = 47
        · subst c47; rw [ck_sI_at, a2]
        by_cases c46 : i = 46
        · subst c46; rw [ck_sI_nj _ _ (by decide), ck_sI_at, a1]
        rw [ck_sI_nj _ _ c47, ck_sI_nj _ _ c46]
        by_cases c50 : i = 50
        · subst c50
          rw [← i64_i32 (m'.1 0 50), e50, i64_i32]
        rw [f'.fl (by omega) c50, fm.fl (by omega) c50, f9 0 i (by unfold inB; omega), g0 i c46 c47]
      · rw [ck_sI_ne _ _ _ c, ck_sI_ne _ _ _ c, f' a i h1 (by omega), fm a i h1 (by omega), f9 a i h1, g a c]
    refine mm_more T km ?_ (q _ km)
    refine TQ.tr ?_ q'
    exact (Mv_same hJ hS (fun a i hi => by rw [ck_sI_ne _ _ _ (by unfold inB at hi; omega), ck_sI_ne _ _ _ (by unfold inB at hi; omega)]) (by rw [ck_sI_nj _ _ (by decide), ck_sI_nj _ _ (by decide)])).1
  have e9 : (m9.1 0 50).toInt64 = (m.1 0 50).toInt64 := by rw [f9 0 50 (by unfold inB; omega), g0 50 (by decide) (by decide)]
  have t9 : TQ J S (Mv m9 1) (Mv m 0) := q9.1.tr gM.1
  have z9 : LZ J (Mv m9 1) := (T.nz.l gM.2).l q9.2
  refine ⟨fun c => f84 m9 (FB.rf _ _) (by unfold tst; rw [if_neg c]; exact t9) z9 e9, fun c => ?_⟩
  rintro _ rfl
  refine f84 _ (FB.set _ _ (by unfold inB; omega)) ?_ ?_ e9
  · unfold tst
    rw [if_pos c, Mv_21]
    exact T_undo_Q (kd := 3) (s := 0) (v := 99) t9
  · rw [Mv_21]; exact z9
theorem sim_tried {J N S : Nat} {h m : ck_H} {x y z : Int32} (H : SimP J N S h m) : wp_X11_tried x y z h (fun r h' => wp_X12_tried x y z m (fun r' m' => r = r' ∧ Sim h' m')) := by
  have T := H.thr 0
  have hJ := T.pr.hJ
  have n36 : ∀ (b : Int32) (R : Int32 → ck_H → Prop), (b = 0 ∨ z < 0 ∨ ¬ z ≤ 99) → R (-1) (ck_sI m 0 0 0) → wp_X12_tried_36 R x y z b (ck_sI m 0 0 0) := by
    intro b R hb hR
    unfold wp_X12_tried_36
    refine ⟨fun _ => hR, fun b0 => ⟨fun _ => hR, fun z0 => ⟨fun z9 => ?_, fun _ => hR⟩⟩⟩
    rcases hb with q | q | q
    · exact absurd q b0
    · exact absurd q z0
    · exact absurd z9 q
  have bad : ∀ h' : ck_H, SimP J N S h' (ck_sI m 0 0 0) → (x < 0 ∨ 5 < x ∨ z < 0 ∨ ¬ z ≤ 99 ∨ (¬ x = 2 ∧ ¬ y = 0) ∨ (x = 2 ∧ ¬ ∃ j, j < J ∧ y = nI j)) → wp_X12_tried x y z m (fun r' m' => -1 = r' ∧ Sim h' m') := by
    intro h' T' hc
    have fin : (-1 : Int32) = -1 ∧ Sim h' (ck_sI m 0 0 0) := ⟨rfl, _, _, _, T'⟩
    unfold wp_X12_tried
    rintro _ rfl
    unfold wp_X12_tried_35
    refine ⟨fun c2 => ⟨fun _ => n36 _ _ (Or.inl rfl) fin, fun c3 => ⟨fun _ => n36 _ _ (Or.inl rfl) fin, fun c4 => ⟨fun _ => n36 _ _ (Or.inl rfl) fin, fun c5 => n36 _ _ ?_ fin⟩⟩⟩, fun c2 => ?_⟩
    · rcases hc with q | q | q | q | q | q
      · exact absurd q c3
      · exact absurd q c4
      · exact Or.inr (Or.inl q)
      · exact Or.inr (Or.inr q)
      · exact absurd c5 q.2
      · exact absurd q.1 c2
    · by_cases cj : ∃ j, j < J ∧ y = nI j
      · obtain ⟨j, hj, rfl⟩ := cj
        refine mJ_p T.pr hj (n36 _ _ ?_ fin)
        rcases hc with q | q | q | q | q | q
        · rw [c2] at q; exact absurd q (by decide)
        · rw [c2] at q; exact absurd q (by decide)
        · exact Or.inr (Or.inl q)
        · exact Or.inr (Or.inr q)
        · exact absurd c2 q.1
        · exact absurd ⟨j, hj, rfl⟩ q.2
      · exact mJ_n T.pr cj (n36 _ _ (Or.inl rfl) fin)
  unfold wp_X11_tried
  refine ⟨fun c => bad h T (Or.inl c), fun c => ⟨fun c2 => bad h T (Or.inr (Or.inl c2)), fun c2 => ⟨fun c3 => bad h T (Or.inr (Or.inr (Or.inl c3))), fun c3 => ⟨fun c4 => ⟨fun c5 => ⟨fun c6 => ?_, fun c6 => ?_⟩, fun c5 => ?_⟩, fun c4 => bad h T (Or.inr (Or.inr (Or.inr (Or.inl c4))))⟩⟩⟩⟩
  · obtain ⟨n, hn, rfl⟩ := nI_of2 (M := 99) (n := 99) (by decide) c3 c4
    refine tx_tr43 T (by omega) (fun h' x' k' => ?_)
    unfold wp_X12_tried
    rintro _ rfl
    exact br_m c5 (br_n c (br_n c2 (br_q c6 (mm_tr36 T (by decide) hn (fun m' km => ⟨rfl, _, _, _, T.keep k' km⟩)))))
  · exact bad h T (Or.inr (Or.inr (Or.inr (Or.inr (Or.inl ⟨c5, c6⟩)))))
  · by_cases cj : ∃ j, j < J ∧ y = nI j
    · obtain ⟨j, hj, rfl⟩ := cj
      refine xJ_p T.pr hj (br_m (by decide) ?_)
      obtain ⟨n, hn, rfl⟩ := nI_of2 (M := 99) (n := 99) (by decide) c3 c4
      refine tx_tr43 T (by omega) (fun h' x' k' => ?_)
      unfold wp_X12_tried
      rintro _ rfl
      exact br_q c5 (mJ_p T.pr hj (mm_tr36 T (by decide) hn (fun m' km => ⟨rfl, _, _, _, T.keep k' km⟩)))
    · exact xJ_n T.pr cj (br_q rfl (bad h T (Or.inr (Or.inr (Or.inr (Or.inr (Or.inr ⟨c5, cj⟩)))))))
