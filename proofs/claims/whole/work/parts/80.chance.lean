/-! harder nuts by chance -/
def TD (x : Int64) (t : Tt) : Tt := (t.1, t.2.1, t.2.2.1, t.2.2.2.1, t.2.2.2.2.1, t.2.2.2.2.2.1, x)
theorem TD_Q {J S : Nat} {x : Int64} {t u : Tt} (h : TQ J S t u) : TQ J S (TD x t) (TD x u) := ⟨h.1, h.2.1, h.2.2.1, rfl⟩
theorem TOk_TD {B J S : Nat} {x : Int64} {t : Tt} (h : TOk B J S t) : TOk B J S (TD x t) := h
theorem LZ_TD {J : Nat} {x : Int64} {t : Tt} (h : LZ J t) : LZ J (TD x t) := h
theorem g_gain_TD (p : Nat → Nat → Int32) (x : Int64) (t : Tt) (S : Nat) : g_gain p (TD x t) S = g_gain p t S := rfl
theorem T_undo_TD (kd : Int32) (s : Nat) (v : Int32) (x : Int64) (t : Tt) : T_undo kd s v (TD x t) = TD x (T_undo kd s v t) := by
  unfold T_undo
  split
  · rfl
  · split
    · rfl
    · split <;> rfl
theorem Mv_TD (m : ck_H) (w : Int32) (b : Nat) : Mv (ck_sI m 0 50 w) b = TD w.toInt64 (Mv m b) := Mv_50 m b w
theorem ck_bk_TD (m : ck_H) (w : Int32) (c i : Nat) : ck_bk (ck_sI m 0 50 w) c i = TD w.toInt64 (ck_bk m c i) := by
  unfold ck_bk
  split
  · exact Mv_TD ..
  · exact Mv_TD ..
theorem Tv_TD (h : ck_H) (v : Int64) (o : Nat) : Tv (ck_sL h 74 11 v) o = TD v (Tv h o) := by
  have e : (ck_sL h 74 11 v).2 74 11 = v := by rw [ck_sL_at, pk_uLs]
  unfold Tv TD
  rw [e, ck_sL_1]
theorem SimP.redraw {J N S : Nat} {h m : ck_H} (T : SimP J N S h m) (w : Int32) (sd : ∃ d, d < 2 ^ 31 ∧ w = nI d) : SimP J N S (ck_sL h 74 11 w.toInt64) (ck_sI m 0 50 w) := by
  refine T.to (fun a ha => rfl) (fun i hi => rfl) (fun a a0 ha => ck_sI_ne _ _ _ a0) (fun i hi => ck_sI_nj _ _ (by omega)) ?_ ?_ ?_ ?_ ?_ ?_
  · rw [Mv_TD, Tv_TD]; exact TD_Q T.now
  · rw [Mv_TD]; exact LZ_TD T.nz
  · rw [Tv_TD]; exact TOk_TD T.nok
  · rw [Tv_TD]
    obtain ⟨d, d1, d2⟩ := sd
    exact ⟨d, d1, by rw [← d2]; rfl⟩
  · refine ⟨?_, fun c => ?_⟩
    · rw [ck_sI_nj _ _ (by decide)]; exact T.img.1
    · have k := T.img.2 c
      rw [Mv_TD, Tv_TD]
      exact ⟨TD_Q k.1, LZ_TD k.2.1, TOk_TD k.2.2⟩
  · obtain ⟨c, c1, c2, c3, c4⟩ := T.deeds
    refine ⟨c, c1, c2, by rw [ck_sI_nj _ _ (by decide)]; exact c3, fun i hi => ?_⟩
    obtain ⟨⟨s, s1, s2, s3⟩, k2, k3, k4⟩ := c4 i hi
    rw [ck_bk_TD, Mv_TD]
    refine ⟨⟨s, s1, s2, ?_⟩, k2, LZ_TD k3, TOk_TD k4⟩
    rw [ck_sL_1, T_undo_TD]
    exact TD_Q s3
theorem T_days_Sd {p : Nat → Nat → Int32} {md : Md} {S : Nat} : ∀ (k : Nat) (t : Tt), SdOk t → SdOk (T_days p md S k t) := by
  intro k
  induction k with
  | zero => exact fun _ h => h
  | succ k ih => exact fun t h => ih _ (T_day_Sd h)
def chn (p : Nat → Nat → Int32) (md : Md) (S n : Nat) (t : Tt) (g0 gain : Int32) : Nat → Int64 → Int32 → Int32 × Int64
  | 0, sd, c => (c, sd)
  | k + 1, sd, c => chn p md S n t g0 gain k (T_days p md S n (TD sd t)).2.2.2.2.2.2 (if g_gain p (T_days p md S n (TD sd t)) S - g0 < gain then c else c + 1)
theorem chn_Sd {p : Nat → Nat → Int32} {md : Md} {S n : Nat} {t : Tt} {g0 gain : Int32} : ∀ (k : Nat) (sd : Int64) (c : Int32), (∃ d, d < 2 ^ 31 ∧ sd = (nI d).toInt64) → ∃ d, d < 2 ^ 31 ∧ (chn p md S n t g0 gain k sd c).2 = (nI d).toInt64 := by
  intro k
  induction k with
  | zero => exact fun _ _ h => h
  | succ k ih => exact fun sd c h => ih _ _ (T_days_Sd n (TD sd t) h)
def cmd (l : Int32) : Md := (false, false, false, -1, true, l)
theorem XF.td {J N S : Nat} {h h' m : ck_H} (T : SimP J N S h m) (x : XF h h') : TQ J S (Tv h' 7) (TD (h'.2 74 11) (Mv m 0)) := by
  have q := T.now.sy
  refine ⟨⟨?_, ?_, ?_, ?_⟩, fun j hj => ?_, fun s hs => ⟨?_, ?_, ?_⟩, rfl⟩
  · show h'.1 7 4 = _; rw [x 7 (by omega) (by omega) (by omega)]; exact q.1.1
  · show h'.1 7 5 = _; rw [x 7 (by omega) (by omega) (by omega)]; exact q.1.2.1
  · show h'.1 7 6 = _; rw [x 7 (by omega) (by omega) (by omega)]; exact q.1.2.2.1
  · show h'.1 7 7 = _; rw [x 7 (by omega) (by omega) (by omega)]; exact q.1.2.2.2
  · show h'.1 8 j = _; rw [x 8 (by omega) (by omega) (by omega)]; exact q.2.1 j hj
  · show h'.1 9 s = _; rw [x 9 (by omega) (by omega) (by omega)]; exact (q.2.2.1 s hs).1
  · show h'.1 10 s = _; rw [x 10 (by omega) (by omega) (by omega)]; exact (q.2.2.1 s hs).2.1
  · show h'.1 11 s = _; rw [x 11 (by omega) (by omega) (by omega)]; exact (q.2.2.1 s hs).2.2
theorem tx_ch {J N S n : Nat} {h m : ck_H} {gain : Int32} {Q : Int32 → ck_H → Prop} (T : SimP J N S h m) (hn : n ≤ 99) : ∀ (k i f : Nat) (c : Int32) (h' : ck_H), k < f → i + k = 10 → XF h h' → mdX h' = cmd (h.1 32 12) →
    (∀ h2, XF h h2 → h2.2 74 11 = (chn (pl h) (cmd (h.1 32 12)) S n (Mv m 0) (g_gain (pl h) (Mv m 0) S) gain k (h'.2 74 11) c).2 → Q (chn (pl h) (cmd (h.1 32 12)) S n (Mv m 0) (g_gain (pl h) (Mv m 0) S) gain k (h'.2 74 11) c).1 h2) → wp_X11_chance_58 Q f (nI n) gain c (nI i) h' := by
  have hJ := T.pr.hJ; have hS := T.pr.hS
  intro k
  induction k with
  | zero =>
    intro i f c h' hf hi x em q
    obtain ⟨f, rfl⟩ : ∃ g, f = g + 1 := ⟨f - 1, by omega⟩
    unfold wp_X11_chance_58
    exact pk_le 10 i (fun _ => q h' x rfl) (fun z => by omega)
  | succ k ih =>
    intro i f c h' hf hi x em q
    obtain ⟨f, rfl⟩ : ∃ g, f = g + 1 := ⟨f - 1, by omega⟩
    unfold wp_X11_chance_58
    refine pk_le 10 i (fun z => by omega) (fun _ => ?_)
    refine tx_like (Or.inl ⟨rfl, rfl⟩) (fun h1 g1 g2 g3 => ?_)
    have x1 : XF h h1 := fun a a1 a2 a3 => by rw [g1 a (by omega), x a a1 a2 a3]
    have em1 : mdX h1 = cmd (h.1 32 12) := by
      rw [← em]
      unfold mdX
      rw [g1 74 (by omega)]
    refine tx_run (m := m) (B := 9900) (t := TD (h'.2 74 11) (Mv m 0)) T.pr x1 (TOk_TD T.tok) ((g3 J S hJ hS).tr (x.td T)) em1 T.pr.rlev (by omega) (fun h2 x2 m2 q2 => ?_)
    refine tx_more T x2 q2 ?_
    have e11 : h2.2 74 11 = (T_days (pl h) (cmd (h.1 32 12)) S n (TD (h'.2 74 11) (Mv m 0))).2.2.2.2.2.2 := q2.2.2.2
    unfold chn at q
    rw [← e11] at q
    unfold wp_X11_chance_102
    refine ⟨fun cc => ?_, fun cc => ?_⟩
    · rintro _ rfl
      rw [nI_1]
      rw [if_pos cc] at q
      exact ih (i + 1) f c h2 (by omega) (by omega) x2 m2 q
    · rintro _ rfl _ rfl
      rw [nI_1]
      rw [if_neg cc] at q
      exact ih (i + 1) f (c + 1) h2 (by omega) (by omega) x2 m2 q
def CM (m m' : ck_H) : Prop := ∀ a i, ¬ inB a 1 i → ¬ (a = 0 ∧ (i = 34 ∨ i = 49 ∨ i = 50)) → m'.1 a i = m.1 a i
theorem CM.pr {h m m' : ck_H} {J N S : Nat} (f : CM m m') (P : PR h m J N S) : PR h m' J N S := P.kept (fun _ _ _ => rfl) (fun a h1 h2 => by funext i; exact f a i (by unfold inB; omega) (by omega))
theorem CM.td {J N S : Nat} {h m m' : ck_H} (T : SimP J N S h m) (f : CM m m') : TQ J S (Mv m' 0) (TD (m'.1 0 50).toInt64 (Mv m 0)) ∧ LZ J (Mv m' 0) := by
  have hJ := T.pr.hJ; have hS := T.pr.hS
  have e := Mv_same (m := ck_sI m 0 50 (m'.1 0 50)) (m' := m') (b := 0) hJ hS (fun a i hi => by rw [ck_sI_ne _ _ _ (by unfold inB at hi; omega)]; exact f a i (by unfold inB at hi ⊢; omega) (by unfold inB at hi; omega)) (ck_sI_at ..).symm
  rw [Mv_TD] at e
  exact ⟨e.1, (LZ_TD (x := (m'.1 0 50).toInt64) T.nz).l e.2⟩
theorem mm_ch {J N S n : Nat} {h m : ck_H} {gain : Int32} {Q K : Int32 → ck_H → Prop} (T : SimP J N S h m) (hn : n ≤ 99) : ∀ (k i f : Nat) (c : Int32) (m' : ck_H), k < f → i + k = 10 → CM m m' → m'.1 0 49 = 1 → (∃ d, d < 2 ^ 31 ∧ m'.1 0 50 = nI d) →
    (∀ m2, CM m m2 → (m2.1 0 50).toInt64 = (chn (pl h) (cmd (h.1 32 12)) S n (Mv m 0) (g_gain (pl h) (Mv m 0) S) gain k (m'.1 0 50).toInt64 c).2 → K (chn (pl h) (cmd (h.1 32 12)) S n (Mv m 0) (g_gain (pl h) (Mv m 0) S) gain k (m'.1 0 50).toInt64 c).1 m2) → wp_X12_chance_49 Q K f (nI n) gain c (nI i) m' := by
  have hJ := T.pr.hJ; have hS := T.pr.hS
  intro k
  induction k with
  | zero =>
    intro i f c m' hf hi x e49 sd q
    obtain ⟨f, rfl⟩ : ∃ g, f = g + 1 := ⟨f - 1, by omega⟩
    unfold wp_X12_chance_49
    exact pk_le 10 i (fun _ => q m' x rfl) (fun z => by omega)
  | succ k ih =>
    intro i f c m' hf hi x e49 sd q
    obtain ⟨f, rfl⟩ : ∃ g, f = g + 1 := ⟨f - 1, by omega⟩
    unfold wp_X12_chance_49
    refine pk_le 10 i (fun z => by omega) (fun _ => ?_)
    refine mm_copies (t := 1) (b := 0) (by decide) (by decide) (by decide) (fun m1 f1 q1 => ?_)
    have q1 := q1 J S hJ hS
    have td := CM.td T x
    have x1 : CM m m1 := fun a i h1 h2 => by rw [f1 a i h1]; exact x a i h1 h2
    have P1 := x1.pr T.pr
    have em1 : mdM m1 = cmd (h.1 32 12) := by
      obtain ⟨a1, a2, a3, a4⟩ := T.mode
      unfold mdM cmd
      rw [x1 0 46 (by unfold inB; omega) (by omega), x1 0 47 (by unfold inB; omega) (by omega), x1 0 48 (by unfold inB; omega) (by omega), f1 0 49 (by unfold inB; omega), e49, a1, a3, if_neg (by decide), if_pos rfl, P1.lev]
      rfl
    obtain ⟨d, d1, d2⟩ := sd
    have sdk : SdOk (TD (m'.1 0 50).toInt64 (Mv m 0)) := ⟨d, d1, by rw [d2]; rfl⟩
    refine mm_run (B := 9900) (t := TD (m'.1 0 50).toInt64 (Mv m 0)) P1 (TOk_TD T.tok) sdk (q1.1.tr td.1) (td.2.l q1.2) em1 T.pr.rlev (by omega) (by omega) (fun m2 q2 z2 f2 => ?_)
    have x2 : CM m m2 := fun a i h1 h2 => by rw [f2 a i h1 (by omega)]; exact x1 a i h1 h2
    have P2 := x2.pr T.pr
    have e11 : (m2.1 0 50).toInt64 = (T_days (pl h) (cmd (h.1 32 12)) S n (TD (m'.1 0 50).toInt64 (Mv m 0))).2.2.2.2.2.2 := q2.2.2.2
    have e0 : g_gain (pl h) (Mv m2 0) S = g_gain (pl h) (Mv m 0) S := (g_gain_Q (CM.td T x2).1 _).trans (g_gain_TD ..)
    refine mm_gain (b := 1) P2 (by decide) (mm_gain (b := 0) P2 (by decide) ?_)
    rw [g_gain_Q q2, e0]
    unfold chn at q
    rw [← e11] at q
    have sd2 : ∃ d, d < 2 ^ 31 ∧ m2.1 0 50 = nI d := SdOk.m (b := 1) ((T_days_Sd n _ sdk).q q2.sy)
    have e49' : m2.1 0 49 = 1 := by rw [f2.fl (by decide) (by decide), f1 0 49 (by unfold inB; omega)]; exact e49
    unfold wp_X12_chance_89
    refine ⟨fun cc => ?_, fun cc => ?_⟩
    · rintro _ rfl _ rfl
      rw [nI_1, Int32.add_zero]
      rw [if_pos cc] at q
      exact ih (i + 1) f c m2 (by omega) (by omega) x2 e49' sd2 q
    · rintro _ rfl _ rfl
      rw [nI_1]
      rw [if_neg cc] at q
      exact ih (i + 1) f (c + 1) m2 (by omega) (by omega) x2 e49' sd2 q
theorem ck_sL_sL (h : ck_H) (k j : Nat) (v : Int64) : ck_sL (ck_sL h k j v) k j (h.2 k j) = h := by
  refine Prod.ext rfl ?_
  funext a
  by_cases e : a = k
  · subst e
    rw [ck_sL_at, ck_sL_at]
    funext i
    by_cases c : i = j
    · subst c; rw [pk_uLs]
    · rw [pk_uLn c, pk_uLn c]
  · rw [ck_sL_ne _ _ _ e, ck_sL_ne _ _ _ e]
theorem ck_sI_sI (h : ck_H) (k j : Nat) (v : Int32) : ck_sI (ck_sI h k j v) k j (h.1 k j) = h := by
  refine Prod.ext ?_ rfl
  funext a
  by_cases e : a = k
  · subst e
    rw [ck_sI_row, ck_sI_row]
    funext i
    by_cases c : i = j
    · subst c; rw [pk_us]
    · rw [pk_un c, pk_un c]
  · rw [ck_sI_ne _ _ _ e, ck_sI_ne _ _ _ e]
theorem sim_chance {J N S : Nat} {h m : ck_H} {x y z : Int32} (H : SimP J N S h m) : wp_X11_chance x y z h (fun r h' => wp_X12_chance x y z m (fun r' m' => r = r' ∧ Sim h' m')) := by
  have T := H.thr 0
  have hJ := T.pr.hJ; have hS := T.pr.hS
  unfold wp_X11_chance
  refine ⟨fun c => ?_, fun c => ⟨fun c2 => ?_, fun c2 => ⟨fun c3 => ?_, fun c3 => ⟨fun c4 => ?_, fun c4 => ⟨fun c5 => ?_, fun c5 => ?_⟩⟩⟩⟩⟩
  · unfold wp_X12_chance; rintro _ rfl; exact br_p c ⟨rfl, _, _, _, T⟩
  · unfold wp_X12_chance; rintro _ rfl; exact br_n c (br_p c2 ⟨rfl, _, _, _, T⟩)
  · unfold wp_X12_chance; rintro _ rfl; exact br_n c (br_n c2 (br_p c3 ⟨rfl, _, _, _, T⟩))
  · unfold wp_X12_chance; rintro _ rfl; exact br_n c (br_n c2 (br_n c3 (br_p c4 ⟨rfl, _, _, _, T⟩)))
  · obtain ⟨n, hn, rfl⟩ := nI_of2 (x := y) (M := 99) (n := 99) (by decide) (fun w => c2 (Int32.lt_of_lt_of_le w (by decide))) (Int32.not_lt.mp c3)
    obtain ⟨sd, sd1, rfl⟩ := nI_of c
    refine tx_think (fun h6 x6 e2 e3 e4 e5 => ?_)
    rintro _ rfl _ rfl
    have k5 : h6.1 74 5 = h.1 32 12 := congrArg (fun z : Md => z.2.2.2.2.2) e3
    have k6 : decide (¬ h6.1 74 6 = 0) = false := congrArg (fun z : Md => z.1) e3
    have k7 : decide (¬ h6.1 74 7 = 0) = false := congrArg (fun z : Md => z.2.1) e3
    have k8 : decide (¬ h6.1 74 8 = 0) = false := congrArg (fun z : Md => z.2.2.1) e3
    have k9 : h6.1 74 9 = -1 := congrArg (fun z : Md => z.2.2.2.1) e3
    have em : mdX (ck_sL (ck_sI h6 74 10 1) 74 11 (nI sd).toInt64) = cmd (h.1 32 12) := by
      have r : ∀ i, i ≠ 10 → (ck_sL (ck_sI h6 74 10 1) 74 11 (nI sd).toInt64).1 74 i = h6.1 74 i := fun i hi => by rw [ck_sL_1, ck_sI_nj _ _ hi]
      have r10 : (ck_sL (ck_sI h6 74 10 1) 74 11 (nI sd).toInt64).1 74 10 = 1 := by rw [ck_sL_1, ck_sI_at]
      unfold mdX cmd
      rw [r 6 (by decide), r 7 (by decide), r 8 (by decide), r 9 (by decide), r 5 (by decide), r10, k5, k6, k7, k8, k9]
      rfl
    have x8 : XF h (ck_sL (ck_sI h6 74 10 1) 74 11 (nI sd).toInt64) := fun a a1 a2 a3 => by rw [ck_sL_1, ck_sI_ne _ _ _ a2, x6 a a1 a2 a3]
    have e11 : (ck_sL (ck_sI h6 74 10 1) 74 11 (nI sd).toInt64).2 74 11 = (nI sd).toInt64 := by rw [ck_sL_at, pk_uLs]
    refine tx_ch T hn 10 0 lpN 0 _ (by decide) (by omega) x8 em (fun h2 x2 d2 => ?_)
    rw [e11] at d2 ⊢
    unfold wp_X12_chance
    rintro _ rfl
    refine br_n c (br_n c2 (br_n c3 (br_n c4 (br_p c5 ?_))))
    rintro _ rfl _ rfl
    have xm : CM (ck_sI m 0 0 0) (ck_sI (ck_sI (ck_sI m 0 0 0) 0 50 (nI sd)) 0 49 1) := fun a i h1 h2 => by
      by_cases ca : a = 0
      · subst ca
        rw [ck_sI_nj _ _ (by omega), ck_sI_nj _ _ (by omega)]
      · rw [ck_sI_ne _ _ _ ca, ck_sI_ne _ _ _ ca]
    have e50 : (ck_sI (ck_sI (ck_sI m 0 0 0) 0 50 (nI sd)) 0 49 1).1 0 50 = nI sd := by rw [ck_sI_nj _ _ (by decide), ck_sI_at]
    refine mm_ch T hn 10 0 lpN 0 _ (by decide) (by omega) xm (ck_sI_at ..) ⟨sd, sd1, e50⟩ (fun m2 y2 dm => ?_)
    rw [e50] at dm ⊢
    rintro _ rfl
    refine ⟨rfl, J, N, S, ?_⟩
    obtain ⟨d, dd1, dd2⟩ := chn_Sd (p := pl h) (md := cmd (h.1 32 12)) (S := S) (n := n) (t := Mv (ck_sI m 0 0 0) 0) (g0 := g_gain (pl h) (Mv (ck_sI m 0 0 0) 0) S) (gain := z) 10 (nI sd).toInt64 0 ⟨sd, sd1, rfl⟩
    have m50 : m2.1 0 50 = nI d := by
      have e := dm.trans dd2
      rw [← i64_i32 (m2.1 0 50), e, i64_i32]
    have K : SimP J N S (ck_sL h2 74 11 (h.2 74 11)) (ck_sI (ck_sI m2 0 49 0) 0 50 ((ck_sI m 0 0 0).1 0 50)) := by
      refine T.keep ⟨fun a ha => x2 a (by omega) (by omega) (by omega), by rw [ck_sL_at, pk_uLs]⟩ (fun a i h1 h2 h3 h4 => ?_)
      by_cases ca : a = 0
      · subst ca
        have h4 := h4 rfl
        by_cases c50 : i = 50
        · subst c50; rw [ck_sI_at]
        · rw [ck_sI_nj _ _ c50]
          by_cases c49 : i = 49
          · subst c49; rw [ck_sI_at]; exact T.mode.2.2.2.symm
          · rw [ck_sI_nj _ _ c49]; exact y2 0 i (by unfold inB; omega) (by omega)
      · rw [ck_sI_ne _ _ _ ca, ck_sI_ne _ _ _ ca]; exact y2 a i h1 (by omega)
    have R := K.redraw (nI d) ⟨d, dd1, rfl⟩
    have r1 : ck_sL (ck_sL h2 74 11 (h.2 74 11)) 74 11 (nI d).toInt64 = h2 := by
      rw [← dd2, ← d2]; exact ck_sL_sL ..
    have r2 : ck_sI (ck_sI (ck_sI m2 0 49 0) 0 50 ((ck_sI m 0 0 0).1 0 50)) 0 50 (nI d) = ck_sI m2 0 49 0 := by
      have e : nI d = (ck_sI m2 0 49 0).1 0 50 := by rw [ck_sI_nj _ _ (by decide), m50]
      rw [e]; exact ck_sI_sI ..
    rw [r1, r2] at R
    exact R
  · unfold wp_X12_chance; rintro _ rfl; exact br_n c (br_n c2 (br_n c3 (br_n c4 (br_n c5 ⟨rfl, _, _, _, T⟩))))
