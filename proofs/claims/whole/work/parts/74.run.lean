/-! courts only thought of -/
def XF (h h' : ck_H) : Prop := ∀ a, (a < 17 ∨ 21 < a) → a ≠ 74 → a ≠ 76 → h'.1 a = h.1 a
theorem XF.rf (h : ck_H) : XF h h := fun _ _ _ _ => rfl
theorem XF.tr {h h1 h2 : ck_H} (a : XF h h1) (b : XF h1 h2) : XF h h2 := fun x e1 e2 e3 => (b x e1 e2 e3).trans (a x e1 e2 e3)
theorem XF.of {h h' : ck_H} (f : frT 17 h h') : XF h h' := fun a e1 e2 e3 => f.1 a (by omega) (by omega) (by omega) e2 e3
theorem XF.pl {h h' : ck_H} (x : XF h h') : pl h' = pl h := pl_eq (fun a h1 h2 => x a (by omega) (by omega) (by omega))
theorem XF.pr {h h' m : ck_H} {J N S : Nat} (x : XF h h') (P : PR h m J N S) : PR h' m J N S := P.kept (fun a h1 h2 => x a (by omega) (by omega) (by omega)) (fun _ _ _ => rfl)
theorem XF.kX {h h' : ck_H} (x : XF h h') (e : h'.2 74 11 = h.2 74 11) : kX h h' := ⟨fun a ha => x a (by omega) (by omega) (by omega), e⟩
theorem XF.now {h h' : ck_H} (x : XF h h') (e : h'.2 74 11 = h.2 74 11) (J S : Nat) : TQ J S (Tv h' 7) (Tv h 7) := Tv_kX (x.kX e) (Or.inl rfl) J S
theorem tx_think {Q : ck_H → Prop} {h : ck_H} (q : ∀ h', XF h h' → h'.2 = h.2 → mdX h' = md0 (h.1 32 12) → (∀ j, j < 4 → h'.1 76 j = 0) → (∀ J S, J ≤ 4 → S ≤ 10 → TQ J S (Tv h' 17) (Tv h 7)) → Q h') : wp_X0_think h Q := by
  unfold wp_X0_think
  refine tx_as (fun h1 e1 e2 e3 e4 => tx_like (Or.inl ⟨rfl, rfl⟩) (fun h2 g1 g2 g3 => q h2 (fun a a1 a2 a3 => ?_) (g2.trans e2) ?_ (fun j hj => ?_) (fun J S hJ hS => ?_)))
  · rw [g1 a (by omega), e1 a a2 a3]
  · rw [← e3]
    unfold mdX
    rw [g1 74 (by omega)]
  · rw [g1 76 (by omega), e4]
    exact if_pos hj
  · refine (g3 J S hJ hS).tr ?_
    refine Tv_kX ⟨fun a ha => e1 a (by omega) (by omega), by rw [e2]⟩ (Or.inl rfl) J S
theorem TOk.okT {h m : ck_H} {B J N S : Nat} (P : PR h m J N S) (H : TOk B J S (Tv h 17)) : OkT h 17 S := by
  refine ⟨P.hS, P.xS, P.lr.ok, fun s hs => ⟨?_, ?_⟩⟩
  · obtain ⟨j, hj, ej⟩ := H.2.2.2.1 s hs
    exact ⟨j, by have := P.hJ; omega, ej⟩
  · obtain ⟨n, hn, en⟩ := P.rno s hs
    exact ⟨n, by have := P.hN; omega, en⟩
theorem tx_run {h h1 m : ck_H} {B J N S n : Nat} {md : Md} {t : Tt} {Q : ck_H → Prop} (P : PR h m J N S) (x : XF h h1) (ok : TOk B J S t) (q0 : TQ J S (Tv h1 17) t) (em : mdX h1 = md) (hl : ∃ a, 1 ≤ a ∧ a ≤ 99 ∧ md.2.2.2.2.2 = nI a) (hB : B + n < 2 ^ 29)
    (q : ∀ h', XF h h' → mdX h' = md → TQ J S (Tv h' 17) (T_days (pl h) md S n t) → Q h') : wp_X10_pass 17 (nI n) h1 Q := by
  have P1 := x.pr P
  have ok1 : TOk B J S (Tv h1 17) := ok.q q0.sy
  refine tx_pass (Or.inr rfl) (TOk.okT P1 ok1) (fun h' e f => q h' (x.tr (XF.of f)) (by rw [f.md, em]) ?_)
  rw [e]
  obtain ⟨v, hv, ev⟩ := P1.rvac
  obtain ⟨d, hd, ed⟩ := ok1.1
  have := T_leap_11 (n := n) P.hJ P.hS (p := pl h1) (md := mdX h1) P1.rtee (by rw [em]; exact hl) ev hv ok1 ed hd hB
  refine this.tr ?_
  rw [x.pl, em]
  exact T_days_Q P.hJ P.rtee hl n B _ _ ok1 q0
theorem mm_run {h m1 : ck_H} {B J N S n : Nat} {md : Md} {t : Tt} {Q : ck_H → Prop} (P : PR h m1 J N S) (ok : TOk B J S t) (sd : SdOk t) (q0 : TQ J S (Mv m1 1) t) (z : LZ J (Mv m1 1)) (em : mdM m1 = md) (hl : ∃ a, 1 ≤ a ∧ a ≤ 99 ∧ md.2.2.2.2.2 = nI a) (hn : n ≤ 1000) (hB : B + n < 2 ^ 29)
    (q : ∀ m', TQ J S (Mv m' 1) (T_days (pl h) md S n t) → LZ J (Mv m' 1) → FB 1 m1 m' → Q m') : wp_X12_goesOn (nI n) m1 Q := by
  refine mm_goesOn (h := h) hn (by omega) P (ok.q q0.sy) (sd.q q0.sy) z (by rw [em]; exact hl) (fun m' q1 z1 f1 => q m' (q1.tr ?_) z1 f1)
  rw [em]
  exact T_days_Q P.hJ P.rtee hl n B _ _ (ok.q q0.sy) q0
theorem T_one_sd0 {p : Nat → Nat → Int32} {md : Md} {t : Tt} {s : Nat} (h : md.2.2.2.2.1 = false) : (T_one p md t s).2.2.2.2.2.2 = t.2.2.2.2.2.2 := by
  unfold T_one
  split
  · unfold T_try
    rw [T_out_sd1]
    unfold T_draw
    rw [if_neg (by rw [h]; decide)]
  · rfl
theorem T_from_sd0 {p : Nat → Nat → Int32} {md : Md} (h : md.2.2.2.2.1 = false) : ∀ (k s : Nat) (t : Tt), (T_from p md k s t).2.2.2.2.2.2 = t.2.2.2.2.2.2 := by
  intro k
  induction k with
  | zero => exact fun _ _ => rfl
  | succ k ih => exact fun s t => (ih (s + 1) _).trans (T_one_sd0 h)
theorem T_day_sd0 {p : Nat → Nat → Int32} {md : Md} {S : Nat} {t : Tt} (h : md.2.2.2.2.1 = false) : (T_day p md S t).2.2.2.2.2.2 = t.2.2.2.2.2.2 := by
  unfold T_day
  rw [T_mov_r]
  exact T_from_sd0 h S 0 _
theorem T_days_sd0 {p : Nat → Nat → Int32} {md : Md} {S : Nat} (h : md.2.2.2.2.1 = false) : ∀ (k : Nat) (t : Tt), (T_days p md S k t).2.2.2.2.2.2 = t.2.2.2.2.2.2 := by
  intro k
  induction k with
  | zero => exact fun _ => rfl
  | succ k ih => exact fun t => (ih _).trans (T_day_sd0 h)
theorem FB.kM {m m' : ck_H} (f : FB 1 m m') (e : (m'.1 0 50).toInt64 = (m.1 0 50).toInt64) : kM m m' := by
  intro a i h1 h2 h3 h4
  by_cases c : a = 0 ∧ (i = 34 ∨ i = 50)
  · obtain ⟨rfl, c⟩ := c
    have := h4 rfl
    have e50 : i = 50 := by omega
    subst e50
    rw [← i64_i32 (m'.1 0 50), e, i64_i32]
  · exact f a i h1 c
theorem SimP.hl {J N S : Nat} {h m : ck_H} (T : SimP J N S h m) : ∃ a, 1 ≤ a ∧ a ≤ 99 ∧ (mdM m).2.2.2.2.2 = nI a := by rw [T.md]; exact T.pr.rlev
theorem SimP.nch {J N S : Nat} {h m : ck_H} (T : SimP J N S h m) : (mdM m).2.2.2.2.1 = false := by rw [T.md]; rfl
theorem SimP.sd0 {J N S : Nat} {h m : ck_H} (T : SimP J N S h m) : SdOk (Mv m 0) := T.sd.q T.now.sy
theorem tx_trun {J N S n : Nat} {h m : ck_H} {Q : ck_H → Prop} (T : SimP J N S h m) (hn : n ≤ 1000) (q : ∀ h', XF h h' → kX h h' → TQ J S (Tv h' 17) (T_days (pl h) (mdM m) S n (Mv m 0)) → Q h') : wp_X0_think h (fun h1 => wp_X10_pass 17 (nI n) h1 Q) := by
  refine tx_think (fun h1 x e2 e3 e4 e5 => ?_)
  refine tx_run (m := m) T.pr x T.tok ((e5 J S T.pr.hJ T.pr.hS).tr T.now.sy) (e3.trans T.md.symm) T.hl (by omega) (fun h' x' _ q' => q h' x' (x'.kX ?_) q')
  have e : h'.2 74 11 = (T_days (pl h) (mdM m) S n (Mv m 0)).2.2.2.2.2.2 := q'.2.2.2
  rw [e, T_days_sd0 T.nch]
  exact T.now.2.2.2
theorem mm_trun {J N S n : Nat} {h m : ck_H} {Q : ck_H → Prop} (T : SimP J N S h m) (hn : n ≤ 1000) (q : ∀ m', kM m m' → TQ J S (Mv m' 1) (T_days (pl h) (mdM m) S n (Mv m 0)) → Q m') : wp_X12_copies 1 0 m (fun m1 => wp_X12_goesOn (nI n) m1 Q) := by
  refine mm_copies (t := 1) (b := 0) (by decide) (by decide) (by decide) (fun m1 e1 e2 => ?_)
  have e3 := e2 J S T.pr.hJ T.pr.hS
  have k1 : kM m m1 := fun a i h1 _ _ _ => e1 a i h1
  have P1 : PR h m1 J N S := T.pr.kept (fun _ _ _ => rfl) (fun a h1 h2 => k1.row (by omega) (by omega))
  have md1 : mdM m1 = mdM m := by
    unfold mdM
    rw [k1.fl (i := 46) (by omega), k1.fl (i := 47) (by omega), k1.fl (i := 48) (by omega), k1.fl (i := 49) (by omega), k1.row (a := 2) (by decide) (by decide)]
  refine mm_run P1 T.tok T.sd0 e3.1 (T.nz.l e3.2) md1 T.hl hn (by omega) (fun m2 q2 z2 f2 => q m2 (k1.tr (f2.kM ?_)) q2)
  have e : (m2.1 0 50).toInt64 = (T_days (pl h) (mdM m) S n (Mv m 0)).2.2.2.2.2.2 := q2.2.2.2
  rw [e, T_days_sd0 T.nch]
  exact e3.1.2.2.2.symm
theorem tx_more {J N S : Nat} {h h' m : ck_H} {t : Tt} {Q : Int32 → ck_H → Prop} (T : SimP J N S h m) (x : XF h h') (q1 : TQ J S (Tv h' 17) t) (q : Q (g_gain (pl h) t S - g_gain (pl h) (Mv m 0) S) h') : wp_X0_gainMore h' Q := by
  have P := x.pr T.pr
  unfold wp_X0_gainMore
  refine tx_gain P (tx_gain P ?_)
  have e7 : g_gain (pl h') (Tv h' 7) S = g_gain (pl h) (Mv m 0) S := by
    rw [x.pl, ← g_gain_Q T.now.sy]
    refine fo_eq S 0 0 (fun i y _ hi => ?_)
    show y + T_gain (pl h) i (h'.1 11 i) = y + T_gain (pl h) i (h.1 11 i)
    rw [x 11 (by omega) (by omega) (by omega)]
  rw [e7, x.pl, g_gain_Q q1]
  exact q
theorem mm_more {J N S : Nat} {h m m' : ck_H} {t : Tt} {Q : Int32 → ck_H → Prop} (T : SimP J N S h m) (k : kM m m') (q1 : TQ J S (Mv m' 1) t) (q : Q (g_gain (pl h) t S - g_gain (pl h) (Mv m 0) S) m') : wp_X12_gainAll 1 m' (fun r h1 => wp_X12_gainAll 0 h1 (fun r' h2 => Q (r - r') h2)) := by
  have P : PR h m' J N S := T.pr.kept (fun _ _ _ => rfl) (fun a h1 h2 => k.row (by omega) (by omega))
  refine mm_gain (b := 1) P (by decide) (mm_gain (b := 0) P (by decide) ?_)
  rw [g_gain_Q q1, g_gain_Q (k.mv T.pr.hJ T.pr.hS (by decide)).1]
  exact q
theorem sim_ahead {J N S : Nat} {h m : ck_H} {x y : Int32} (H : SimP J N S h m) : wp_X11_ahead x y h (fun r h' => wp_X12_ahead x y m (fun r' m' => r = r' ∧ Sim h' m')) := by
  have T := H.thr 0
  have hJ := T.pr.hJ; have hS := T.pr.hS
  unfold wp_X11_ahead
  refine ⟨fun c => ?_, fun c => ⟨fun c2 => ?_, fun c2 => ⟨fun c3 => ?_, fun c3 => ⟨fun c4 => ?_, fun c4 => ?_⟩⟩⟩⟩
  · unfold wp_X12_ahead; rintro _ rfl; exact br_p c ⟨rfl, _, _, _, T⟩
  · unfold wp_X12_ahead; rintro _ rfl; exact br_n c (br_p c2 ⟨rfl, _, _, _, T⟩)
  · unfold wp_X12_ahead; rintro _ rfl; exact br_n c (br_n c2 (br_p c3 ⟨rfl, _, _, _, T⟩))
  · obtain ⟨n, hn, rfl⟩ := nI_of2 (M := 99) (n := 99) (by decide) c (Int32.not_lt.mp c2)
    refine tx_trun T (by omega) (fun h' xf kx q1 => ?_)
    have P' := xf.pr T.pr
    have key : ∀ (r : Int32) (R : Int32 → ck_H → Prop), (∀ m', kM (ck_sI m 0 0 0) m' → TQ J S (Mv m' 1) (T_days (pl h) (mdM (ck_sI m 0 0 0)) S n (Mv (ck_sI m 0 0 0) 0)) → ((4 : Int32) ≤ y → ((¬ y = (4 : Int32) → ((¬ y = (5 : Int32) → (wp_X12_teethAll (1 : Int32) m' (fun r12 h11 => R r12 h11))) ∧ (y = (5 : Int32) → R (m'.1 21 1) m'))) ∧ (y = (4 : Int32) → (wp_X12_gainAll (1 : Int32) m' (fun r14 h13 => (wp_X12_gainAll (0 : Int32) h13 (fun r16 h15 => R (r14 - r16) h15))))))) ∧ (¬ (4 : Int32) ≤ y → (wp_X12_manyOf (1 : Int32) y m' (fun r18 h17 => (wp_X12_manyOf (0 : Int32) y h17 (fun r20 h19 => R (r18 - r20) h19)))))) → wp_X12_ahead (nI n) y m R := by
      intro r R hR
      unfold wp_X12_ahead
      rintro _ rfl
      exact br_n c (br_n c2 (br_n c3 (br_p c4 (mm_trun T (by omega) (fun m' k' q' => hR m' k' q')))))
    have mP : ∀ m', kM (ck_sI m 0 0 0) m' → PR h m' J N S := fun m' k => T.pr.kept (fun _ _ _ => rfl) (fun a h1 h2 => k.row (by omega) (by omega))
    have e43 : (3 : Int32) < y ↔ (4 : Int32) ≤ y := by
      rw [Int32.lt_iff_toInt_lt, Int32.le_iff_toInt_le]
      have e3 : (3 : Int32).toInt = 3 := by decide
      have e4 : (4 : Int32).toInt = 4 := by decide
      omega
    refine ⟨fun c5 => ⟨fun c6 => ⟨fun c7 => tx_teeth P' ?_, fun c7 => ?_⟩, fun c6 => tx_more T xf q1 ?_⟩, fun c5 => tx_many P' (tx_many P' ?_)⟩
    · refine key 0 _ (fun m' k' q' => br_p (e43.mp c5) (br_m c6 (br_m c7 (mm_teeth (b := 1) (mP m' k') (by decide) ⟨?_, _, _, _, T.keep kx k'⟩))))
      rw [g_teeth_Q q1, g_teeth_Q q']
    · refine key 0 _ (fun m' k' q' => br_p (e43.mp c5) (br_m c6 (br_q c7 ⟨?_, _, _, _, T.keep kx k'⟩)))
      exact q1.1.2.2.1.trans q'.1.2.2.1.symm
    · refine key 0 _ (fun m' k' q' => br_p (e43.mp c5) (br_q c6 (mm_more (Q := fun r' m' => g_gain (pl h) (T_days (pl h) (mdM (ck_sI m 0 0 0)) S n (Mv (ck_sI m 0 0 0) 0)) S - g_gain (pl h) (Mv (ck_sI m 0 0 0) 0) S = r' ∧ Sim h' m') T k' q' ⟨rfl, _, _, _, T.keep kx k'⟩)))
    · refine key 0 _ (fun m' k' q' => br_n (fun z => c5 (e43.mpr z)) (mm_many (b := 1) (mP m' k') (by decide) (mm_many (b := 0) (mP m' k') (by decide) ⟨?_, _, _, _, T.keep kx k'⟩)))
      rw [g_many_Q q1, g_many_Q q', g_many_Q ((Tv_kX kx (Or.inl rfl) J S).tr T.now.sy), g_many_Q (k'.mv hJ hS (by decide)).1]
  · unfold wp_X12_ahead; rintro _ rfl; exact br_n c (br_n c2 (br_n c3 (br_n c4 ⟨rfl, _, _, _, T⟩)))
