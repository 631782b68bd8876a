/-! deeds: taken back, and done -/
theorem tx_take {h : ck_H} {d s : Nat} {Q : ck_H → Prop} (hd : d < 20) (e : h.1 28 3 = nI (d + 1)) (hs : s < 10) (es : h.1 30 d = nI s)
    (q : ∀ h', (∀ a, a ≠ 28 → a ≠ 7 → a ≠ 9 → a ≠ 10 → h'.1 a = h.1 a) → h'.2 = h.2 → h'.1 28 3 = nI d → Tv h' 7 = T_undo (h.1 29 d) s (h.1 31 d) (Tv h 7) → Q h') : wp_X2_takeBackLatest h Q := by
  unfold wp_X2_takeBackLatest
  refine br_m (by rw [e]; exact nI_ne0 (by omega) (by omega)) ?_
  rintro _ rfl
  have e2 : (ck_sI h 28 3 (h.1 28 3 - 1)).1 28 3 = nI d := by rw [ck_sI_at, e, nI_pred]
  rw [e2, nI_clamp (n := d) (by omega), ck_sI_ne h 3 _ (show (30 : Nat) ≠ 28 by decide), ck_sI_ne h 3 _ (show (29 : Nat) ≠ 28 by decide), ck_sI_ne h 3 _ (show (31 : Nat) ≠ 28 by decide), es]
  have i20 : vp_in (nI d) 20 := pu_in hd (by decide)
  have i10 : vp_in (nI s) 10 := pu_in hs (by decide)
  refine ⟨i20, ?_⟩
  rintro _ rfl
  rw [nI_clamp (n := s) (by omega)]
  refine ⟨i20, fun k0 => ⟨i20, i10, ?_⟩, fun k0 => ⟨fun k1 => ⟨i20, ?_⟩, fun k1 => ⟨fun k2 => ⟨i20, i10, ?_⟩, fun k2 => ⟨i20, ?_⟩⟩⟩⟩
  · rintro _ rfl
    refine q _ (fun a a1 a2 a3 a4 => by rw [ck_sI_ne _ _ _ a3, ck_sI_ne _ _ _ a1]) rfl (by rw [ck_sI_ne _ _ _ (by decide)]; exact e2) ?_
    unfold T_undo
    rw [if_pos k0]
    simp [Tv, ck_sI]
  · rintro _ rfl
    refine q _ (fun a a1 a2 a3 a4 => by rw [ck_sI_ne _ _ _ a2, ck_sI_ne _ _ _ a1]) rfl (by rw [ck_sI_ne _ _ _ (by decide)]; exact e2) ?_
    unfold T_undo
    rw [if_neg k0, if_pos k1]
    simp [Tv, ck_sI]
  · rintro _ rfl
    refine q _ (fun a a1 a2 a3 a4 => by rw [ck_sI_ne _ _ _ a4, ck_sI_ne _ _ _ a1]) rfl (by rw [ck_sI_ne _ _ _ (by decide)]; exact e2) ?_
    unfold T_undo
    rw [if_neg k0, if_neg k1, if_pos k2]
    simp [Tv, ck_sI]
  · rintro _ rfl
    refine q _ (fun a a1 a2 a3 a4 => by rw [ck_sI_ne _ _ _ a2, ck_sI_ne _ _ _ a1]) rfl (by rw [ck_sI_ne _ _ _ (by decide)]; exact e2) ?_
    unfold T_undo
    rw [if_neg k0, if_neg k1, if_neg k2]
    simp [Tv, ck_sI]
theorem sim_undo {J N S : Nat} {h m : ck_H} (H : SimP J N S h m) : wp_X11_undo h (fun r h' => wp_X12_undo m (fun r' m' => r = r' ∧ Sim h' m')) := by
  have T := H.thr 0
  have hJ := T.pr.hJ; have hS := T.pr.hS
  obtain ⟨c, c1, c2, c3, c4⟩ := T.deeds
  unfold wp_X11_undo wp_X12_undo
  cases c with
  | zero =>
    refine br_q c2 ?_
    rintro _ rfl
    exact br_q c3 ⟨rfl, _, _, _, T⟩
  | succ d =>
    obtain ⟨⟨s, s1, s2, s3⟩, k2, k3, k4⟩ := c4 d (by omega)
    have eb : ck_bk (ck_sI m 0 0 0) (d + 1) (d + 1) = Mv (ck_sI m 0 0 0) 0 := by unfold ck_bk; rw [if_neg (by omega)]
    rw [eb] at s3
    refine br_m (by rw [c2]; exact nI_ne0 (by omega) (by omega)) (tx_take (by omega) c2 s1 s2 (fun h1 x1 x2 x3 x4 => ?_))
    rintro _ rfl
    refine br_m (by rw [c3]; exact nI_ne0 (by omega) (by omega)) ?_
    rintro _ rfl
    have e45 : (ck_sI (ck_sI m 0 0 0) 0 45 ((ck_sI m 0 0 0).1 0 45 - 1)).1 0 45 = nI d := by rw [ck_sI_at, c3, nI_pred]
    rw [e45, show (3 : Int32) + nI d = nI (3 + d) from nI_add 3 d]
    generalize hM : ck_sI (ck_sI m 0 0 0) 0 45 ((ck_sI m 0 0 0).1 0 45 - 1) = M at *
    have g : ∀ a, a ≠ 0 → M.1 a = (ck_sI m 0 0 0).1 a := fun a a0 => by rw [← hM, ck_sI_ne _ _ _ a0]
    have g0 : ∀ i, i ≠ 45 → M.1 0 i = (ck_sI m 0 0 0).1 0 i := fun i hi => by rw [← hM, ck_sI_nj _ _ hi]
    refine mm_copies (t := 0) (b := 3 + d) (by decide) (by omega) (by omega) (fun m1 f1 q2 => ?_)
    have q2 := q2 J S hJ hS
    have gM : ∀ b, TQ J S (Mv M b) (Mv (ck_sI m 0 0 0) b) ∧ TL J (Mv M b) (Mv (ck_sI m 0 0 0) b) := fun b => Mv_same hJ hS (fun a i hi => by rw [g a (by unfold inB at hi; omega)]) (g0 50 (by decide))
    have mv : ∀ b, b ≠ 0 → TQ J S (Mv m1 b) (Mv (ck_sI m 0 0 0) b) ∧ TL J (Mv m1 b) (Mv (ck_sI m 0 0 0) b) := fun b hb => Mv_same hJ hS (fun a i hi => by rw [f1 a i (by unfold inB at hi ⊢; omega), g a (by unfold inB at hi; omega)]) (by rw [f1 0 50 (by unfold inB; omega), g0 50 (by decide)])
    have f : ∀ a i, a ≠ 0 → ¬ inB a 0 i → m1.1 a i = (ck_sI m 0 0 0).1 a i := fun a i a0 a1 => by rw [f1 a i a1, g a a0]
    have f0 : ∀ i, i ≠ 45 → m1.1 0 i = (ck_sI m 0 0 0).1 0 i := fun i hi => by rw [f1 0 i (by unfold inB; omega), g0 i hi]
    have f45 : m1.1 0 45 = nI d := by rw [f1 0 45 (by unfold inB; omega)]; exact e45
    have q0 : TQ J S (Mv m1 0) (Mv (ck_sI m 0 0 0) (3 + d)) := q2.1.tr (gM _).1
    have nw : TQ J S (Mv m1 0) (Tv h1 7) := by
      rw [x4]
      exact q0.tr (s3.tr (T_undo_Q T.now))
    have x : ∀ a, (a < 7 ∨ 11 < a) → a ≠ 28 → h1.1 a = h.1 a := fun a a1 a2 => x1 a a2 (by omega) (by omega) (by omega)
    have e1 : (M.1 0 45) = nI d := e45
    refine ⟨by rw [x3, f45], J, N, S, T.to (fun a ha => x a (by omega) (by omega)) (fun i hi => by rw [x 0 (by omega) (by omega)]) (fun a a0 ha => by funext i; exact f a i a0 (by unfold inB; omega)) (fun i hi => f0 i (by omega)) nw ?_ ?_ ?_ ?_ ?_⟩
    · exact ((k3.l (gM _).2).l q2.2)
    · exact (k4.q q0.sy).q nw
    · obtain ⟨d', d1, d2⟩ := T.sd
      exact ⟨d', d1, (congrFun (congrFun x2 74) 11).trans d2⟩
    · exact T.img.kept (by rw [x 0 (by omega) (by omega)]) (f0 44 (by omega)) (mv 2 (by omega)).1 (mv 2 (by omega)).2 (Tv_same (fun a h1 h2 => x a (by omega) (by omega)) (by rw [x2]) J S)
    · refine ⟨d, by omega, x3, f45, fun i hi => ?_⟩
      obtain ⟨⟨s', s1', s2', s3'⟩, k2', k3', k4'⟩ := c4 i (by omega)
      rw [x 29 (by omega) (by omega), x 30 (by omega) (by omega), x 31 (by omega) (by omega)]
      refine ⟨⟨s', s1', s2', ((mv (3 + i) (by omega)).1.tr s3').tr (T_undo_Q ?_)⟩, k2', k3'.l (mv (3 + i) (by omega)).2, k4'.q (mv (3 + i) (by omega)).1.sy⟩
      unfold ck_bk
      rw [if_pos (by omega)]
      by_cases c : i + 1 < d
      · rw [if_pos c]; exact (mv (3 + (i + 1)) (by omega)).1.sy
      · rw [if_neg c, show i + 1 = d by omega]; exact q0.sy
/-- how many earlier deeds are kept, and how many go -/
def dk (c d r : Nat) : Prop := d + r = c ∧ d < 20 ∧ ((c < 20 ∧ r = 0) ∨ (c = 20 ∧ r = 1))
theorem dk_of {c : Nat} (h : c ≤ 20) : ∃ d r, dk c d r := by
  by_cases c20 : c = 20
  · exact ⟨19, 1, by unfold dk; omega⟩
  · exact ⟨c, 0, by unfold dk; omega⟩
theorem tx_dadd13 {h : ck_H} {d : Nat} {k s w : Int32} {Q : ck_H → Prop} (hd : d < 20) (e : h.1 28 3 = nI d)
    (q : ∀ h', (∀ a, (a < 28 ∨ 31 < a) → h'.1 a = h.1 a) → h'.2 = h.2 → h'.1 28 3 = nI (d + 1) → h'.1 29 = upd (h.1 29) d k → h'.1 30 = upd (h.1 30) d s → h'.1 31 = upd (h.1 31) d w → Q h') : wp_X2_add_13 Q k s w h := by
  have i20 : vp_in (nI d) 20 := pu_in hd (by decide)
  have ec : (nI d).toNatClampNeg = d := nI_clamp (by omega)
  unfold wp_X2_add_13
  rw [e, ec]
  refine ⟨i20, ?_⟩
  rintro _ rfl
  rw [ck_sI_ne h _ _ (show (28 : Nat) ≠ 29 by decide), e, ec]
  refine ⟨i20, ?_⟩
  rintro _ rfl
  have e3 : (ck_sI (ck_sI h 29 d k) 30 d s).1 28 3 = nI d := by rw [ck_sI_ne _ _ _ (by decide), ck_sI_ne _ _ _ (by decide), e]
  rw [e3, ec]
  refine ⟨i20, ?_⟩
  rintro _ rfl
  have e4 : (ck_sI (ck_sI (ck_sI h 29 d k) 30 d s) 31 d w).1 28 3 = nI d := by rw [ck_sI_ne _ _ _ (by decide), e3]
  rw [e4, nI_1]
  rintro _ rfl
  refine q _ (fun a ha => ?_) rfl (ck_sI_at ..) ?_ ?_ ?_
  · rw [ck_sI_ne _ _ _ (by omega), ck_sI_ne _ _ _ (by omega), ck_sI_ne _ _ _ (by omega), ck_sI_ne _ _ _ (by omega)]
  · rw [ck_sI_ne _ _ _ (by decide), ck_sI_ne _ _ _ (by decide), ck_sI_ne _ _ _ (by decide), ck_sI_row]
  · rw [ck_sI_ne _ _ _ (by decide), ck_sI_ne _ _ _ (by decide), ck_sI_row, ck_sI_ne _ _ _ (by decide)]
  · rw [ck_sI_ne _ _ _ (by decide), ck_sI_row, ck_sI_ne _ _ _ (by decide), ck_sI_ne _ _ _ (by decide)]
theorem ck_sR_at (h : ck_H) (k : Nat) (f : Nat → Int32) : (ck_sR h k f).1 k = f := by simp [ck_sR]
theorem ck_sR_ne (h : ck_H) {k a : Nat} (f : Nat → Int32) (e : a ≠ k) : (ck_sR h k f).1 a = h.1 a := by simp [ck_sR, e]
theorem tx_dadd {h : ck_H} {c d r : Nat} {k s w : Int32} {Q : ck_H → Prop} (D : dk c d r) (e : h.1 28 3 = nI c)
    (q : ∀ h', (∀ a, (a < 28 ∨ 31 < a) → h'.1 a = h.1 a) → h'.2 = h.2 → h'.1 28 3 = nI (d + 1) → (∀ i, i < d → h'.1 29 i = h.1 29 (i + r) ∧ h'.1 30 i = h.1 30 (i + r) ∧ h'.1 31 i = h.1 31 (i + r)) → (h'.1 29 d = k ∧ h'.1 30 d = s ∧ h'.1 31 d = w) → Q h') : wp_X2_add k s w h Q := by
  unfold wp_X2_add
  obtain ⟨d1, d2, ⟨d3, d4⟩ | ⟨d3, d4⟩⟩ := D
  · subst d4
    have ed : d = c := by omega
    subst ed
    refine br_m (by rw [e, show (20 : Int32) = nI 20 from rfl, nI_eq (by omega) (by omega)]; omega) ?_
    refine tx_dadd13 d2 e (fun h1 x1 x2 x3 x4 x5 x6 => q h1 x1 x2 x3 (fun i hi => ?_) ?_)
    · rw [x4, x5, x6, pk_un (by omega), pk_un (by omega), pk_un (by omega)]
      exact ⟨rfl, rfl, rfl⟩
    · rw [x4, x5, x6, pk_us, pk_us, pk_us]
      exact ⟨rfl, rfl, rfl⟩
  · subst d4
    subst d3
    have ed : d = 19 := by omega
    subst ed
    refine br_q e ?_
    unfold wp_X2_forgetFirst
    rintro _ rfl
    have e1 : (ck_sI h 28 3 (h.1 28 3 - 1)).1 28 3 = nI 19 := by rw [ck_sI_at, e]; rfl
    generalize hH : ck_sI h 28 3 (h.1 28 3 - 1) = H1 at *
    have g1 : ∀ a, a ≠ 28 → H1.1 a = h.1 a := fun a ha => by rw [← hH, ck_sI_ne _ _ _ ha]
    have g2 : H1.2 = h.2 := by rw [← hH]; rfl
    have lit : ¬ (1 : Int32) < 0 ∧ ¬ (0 : Int32) < 0 ∧ ¬ nI 19 < 0 ∧ (1 : Int32).toNatClampNeg + (nI 19).toNatClampNeg ≤ 20 ∧ (0 : Int32).toNatClampNeg + (nI 19).toNatClampNeg ≤ 20 := by decide
    have c1 : (1 : Int32).toNatClampNeg = 1 := by decide
    have c0 : (0 : Int32).toNatClampNeg = 0 := by decide
    have c19 : (nI 19).toNatClampNeg = 19 := by decide
    rw [e1]
    refine ⟨lit, ?_⟩
    rintro _ rfl
    rw [ck_sR_ne H1 _ (show (28 : Nat) ≠ 29 by decide), e1]
    refine ⟨lit, ?_⟩
    rintro _ rfl
    rw [ck_sR_ne (ck_sR H1 29 _) _ (show (28 : Nat) ≠ 30 by decide), ck_sR_ne H1 _ (show (28 : Nat) ≠ 29 by decide), e1]
    refine ⟨lit, ?_⟩
    rintro _ rfl
    rw [c1, c0, c19]
    generalize hH2 : ck_sR (ck_sR (ck_sR H1 29 _) 30 _) 31 _ = H2
    have y1 : ∀ a, a ≠ 29 → a ≠ 30 → a ≠ 31 → H2.1 a = H1.1 a := fun a a1 a2 a3 => by rw [← hH2, ck_sR_ne _ _ a3, ck_sR_ne _ _ a2, ck_sR_ne _ _ a1]
    have y29 : ∀ i, i < 19 → H2.1 29 i = h.1 29 (i + 1) := fun i hi => by
      rw [← hH2, ck_sR_ne _ _ (by decide), ck_sR_ne _ _ (by decide), ck_sR_at, pk_cpy_in (by omega) (by omega), g1 29 (by decide), show 1 + (i - 0) = i + 1 by omega]
    have y30 : ∀ i, i < 19 → H2.1 30 i = h.1 30 (i + 1) := fun i hi => by
      rw [← hH2, ck_sR_ne _ _ (by decide), ck_sR_at, pk_cpy_in (by omega) (by omega), ck_sR_ne _ _ (by decide), g1 30 (by decide), show 1 + (i - 0) = i + 1 by omega]
    have y31 : ∀ i, i < 19 → H2.1 31 i = h.1 31 (i + 1) := fun i hi => by
      rw [← hH2, ck_sR_at, pk_cpy_in (by omega) (by omega), ck_sR_ne _ _ (by decide), ck_sR_ne _ _ (by decide), g1 31 (by decide), show 1 + (i - 0) = i + 1 by omega]
    have y2 : H2.2 = h.2 := by rw [← hH2]; exact g2
    refine tx_dadd13 (d := 19) (by decide) (by rw [y1 28 (by decide) (by decide) (by decide)]; exact e1) (fun h1 x1 x2 x3 x4 x5 x6 => q h1 (fun a ha => ?_) (x2.trans y2) x3 (fun i hi => ?_) ?_)
    · rw [x1 a ha, y1 a (by omega) (by omega) (by omega), g1 a (by omega)]
    · rw [x4, x5, x6, pk_un (by omega), pk_un (by omega), pk_un (by omega)]
      exact ⟨y29 i hi, y30 i hi, y31 i hi⟩
    · rw [x4, x5, x6, pk_us, pk_us, pk_us]
      exact ⟨rfl, rfl, rfl⟩
/-- benches alike -/
def BQ (J S : Nat) (m' : ck_H) (b : Nat) (m : ck_H) (a : Nat) : Prop := TQ J S (Mv m' b) (Mv m a) ∧ TL J (Mv m' b) (Mv m a)
theorem BQ.tr {J S : Nat} {m1 m2 m3 : ck_H} {a b c : Nat} (h : BQ J S m1 a m2 b) (g : BQ J S m2 b m3 c) : BQ J S m1 a m3 c := ⟨h.1.tr g.1, fun j hj => (h.2 j hj).trans (g.2 j hj)⟩
theorem BQ.of {J S b : Nat} {m m' : ck_H} (hJ : J ≤ 4) (hS : S ≤ 10) (g : ∀ a i, inB a b i → m'.1 a i = m.1 a i) (e : m'.1 0 50 = m.1 0 50) : BQ J S m' b m b := Mv_same hJ hS g e
theorem mm_kn11 {J S : Nat} {Q K : ck_H → Prop} (hJ : J ≤ 4) (hS : S ≤ 10) : ∀ (k i f : Nat) (m : ck_H), k < f → i + k = 20 → 1 ≤ i →
    (∀ m', (∀ a, a ≠ 0 → (a < 20 ∨ 28 < a) → m'.1 a = m.1 a) → m'.1 0 = m.1 0 → (∀ b, b < 3 + (i - 1) → BQ J S m' b m b) → (∀ b, 3 + (i - 1) ≤ b → b < 22 → BQ J S m' b m (b + 1)) → K m') → wp_X12_keepNow_11 Q K f (nI i) m := by
  intro k
  induction k with
  | zero =>
    intro i f m hf hs h1 hq
    obtain ⟨f, rfl⟩ : ∃ g, f = g + 1 := ⟨f - 1, by omega⟩
    unfold wp_X12_keepNow_11
    refine pk_le 20 i (fun _ => hq m (fun _ _ _ => rfl) rfl (fun b _ => BQ.of hJ hS (fun _ _ _ => rfl) rfl) (fun b h1 h2 => by omega)) (fun z => by omega)
  | succ k ih =>
    intro i f m hf hs h1 hq
    obtain ⟨f, rfl⟩ : ∃ g, f = g + 1 := ⟨f - 1, by omega⟩
    unfold wp_X12_keepNow_11
    refine pk_le 20 i (fun z => by omega) (fun _ => ?_)
    rw [show (3 : Int32) + nI i = nI (3 + i) from nI_add 3 i, show nI (3 + i) - 1 = nI (2 + i) by rw [show 3 + i = (2 + i) + 1 by omega, nI_pred]]
    refine mm_copies (t := 2 + i) (b := 3 + i) (by omega) (by omega) (by omega) (fun m1 f1 q1 => ?_)
    rintro _ rfl
    rw [nI_1]
    have q1 : BQ J S m1 (2 + i) m (3 + i) := q1 J S hJ hS
    have o1 : ∀ b, b ≠ 2 + i → BQ J S m1 b m b := fun b hb => BQ.of hJ hS (fun a j hi => f1 a j (by unfold inB at hi ⊢; omega)) (f1 0 50 (by unfold inB; omega))
    refine ih (i + 1) f m1 (by omega) (by omega) (by omega) (fun m2 g1 g2 g3 g4 => hq m2 (fun a a0 ha => ?_) ?_ (fun b hb => ?_) (fun b hb hb2 => ?_))
    · rw [g1 a a0 ha]; funext j; exact f1 a j (by unfold inB; omega)
    · rw [g2]; funext j; exact f1 0 j (by unfold inB; omega)
    · exact (g3 b (by omega)).tr (o1 b (by omega))
    · by_cases c : b = 2 + i
      · subst c
        have := (g3 (2 + i) (by omega)).tr q1
        rw [show 2 + i + 1 = 3 + i by omega]
        exact this
      · exact (g4 b (by omega) hb2).tr (o1 (b + 1) (by omega))
theorem mm_kn45 {J S d : Nat} {m : ck_H} {Q : ck_H → Prop} (hJ : J ≤ 4) (hS : S ≤ 10) (hd : d < 20) (e : m.1 0 45 = nI d)
    (q : ∀ m', (∀ a, a ≠ 0 → (a < 20 ∨ 28 < a) → m'.1 a = m.1 a) → (∀ i, i ≠ 45 → m'.1 0 i = m.1 0 i) → m'.1 0 45 = nI (d + 1) → (∀ b, b ≠ 3 + d → BQ J S m' b m b) → BQ J S m' (3 + d) m 0 → Q m') : wp_X12_keepNow_45 Q m := by
  unfold wp_X12_keepNow_45
  rw [e, show (3 : Int32) + nI d = nI (3 + d) from nI_add 3 d]
  refine mm_copies (t := 3 + d) (b := 0) (by omega) (by omega) (by omega) (fun m1 f1 q1 => ?_)
  have q1 : BQ J S m1 (3 + d) m 0 := q1 J S hJ hS
  rw [f1 0 45 (by unfold inB; omega), e, nI_1]
  rintro _ rfl
  have o2 : ∀ b, BQ J S (ck_sI m1 0 45 (nI (d + 1))) b m1 b := fun b => BQ.of hJ hS (fun a j hi => by rw [ck_sI_ne _ _ _ (by unfold inB at hi; omega)]) (ck_sI_nj _ _ (by decide))
  refine q _ (fun a a0 ha => ?_) (fun i hi => ?_) (ck_sI_at ..) (fun b hb => (o2 b).tr (BQ.of hJ hS (fun a j hi => f1 a j (by unfold inB at hi ⊢; omega)) (f1 0 50 (by unfold inB; omega)))) ((o2 _).tr q1)
  · rw [ck_sI_ne _ _ _ a0]; funext j; exact f1 a j (by unfold inB; omega)
  · rw [ck_sI_nj _ _ hi]; exact f1 0 i (by unfold inB; omega)
theorem mm_kn {J S c d r : Nat} {m : ck_H} {Q : ck_H → Prop} (hJ : J ≤ 4) (hS : S ≤ 10) (D : dk c d r) (e : m.1 0 45 = nI c)
    (q : ∀ m', (∀ a, a ≠ 0 → (a < 20 ∨ 28 < a) → m'.1 a = m.1 a) → (∀ i, i ≠ 45 → m'.1 0 i = m.1 0 i) → m'.1 0 45 = nI (d + 1) → (∀ b, b < 3 → BQ J S m' b m b) → (∀ i, i < d → BQ J S m' (3 + i) m (3 + (i + r))) → BQ J S m' (3 + d) m 0 → Q m') : wp_X12_keepNow m Q := by
  unfold wp_X12_keepNow
  obtain ⟨d1, d2, ⟨d3, d4⟩ | ⟨d3, d4⟩⟩ := D
  · subst d4
    have ed : d = c := by omega
    subst ed
    refine br_m (by rw [e, show (20 : Int32) = nI 20 from rfl, nI_eq (by omega) (by omega)]; omega) ?_
    exact mm_kn45 hJ hS d2 e (fun m1 f1 f2 f3 f4 f5 => q m1 f1 f2 f3 (fun b hb => f4 b (by omega)) (fun i hi => f4 (3 + i) (by omega)) f5)
  · subst d4
    subst d3
    have ed : d = 19 := by omega
    subst ed
    refine br_q e (mm_kn11 hJ hS 19 1 lpN m (by decide) (by omega) (by omega) (fun m1 g1 g2 g3 g4 => ?_))
    rw [g2, e, show nI 20 - 1 = nI 19 from rfl]
    rintro _ rfl
    have o2 : ∀ b, BQ J S (ck_sI m1 0 45 (nI 19)) b m1 b := fun b => BQ.of hJ hS (fun a j hi => by rw [ck_sI_ne _ _ _ (by unfold inB at hi; omega)]) (ck_sI_nj _ _ (by decide))
    refine mm_kn45 hJ hS (by decide) (ck_sI_at ..) (fun m2 f1 f2 f3 f4 f5 => q m2 (fun a a0 ha => ?_) (fun i hi => ?_) f3 (fun b hb => ?_) (fun i hi => ?_) ?_)
    · rw [f1 a a0 ha, ck_sI_ne _ _ _ a0, g1 a a0 ha]
    · rw [f2 i hi, ck_sI_nj _ _ hi, g2]
    · exact ((f4 b (by omega)).tr (o2 b)).tr (g3 b (by omega))
    · exact ((f4 (3 + i) (by omega)).tr (o2 _)).tr (g4 (3 + i) (by omega) (by omega))
    · exact (f5.tr (o2 0)).tr (g3 0 (by omega))
theorem sim_deeds.push {h m h' m' : ck_H} {J S c d r s : Nat} {kd w : Int32} (D : dk c d r) (c2 : h.1 28 3 = nI c)
    (c4 : ∀ i, i < c → (∃ s, s < 10 ∧ h.1 30 i = nI s ∧ TQ J S (Mv m (3 + i)) (T_undo (h.1 29 i) s (h.1 31 i) (ck_bk m c (i + 1)))) ∧ (h.1 29 i = 0 ∨ h.1 29 i = 1 ∨ h.1 29 i = 2 ∨ h.1 29 i = 3) ∧ LZ J (Mv m (3 + i)) ∧ TOk 9900 J S (Mv m (3 + i)))
    (n1 : h'.1 28 3 = nI (d + 1)) (n2 : m'.1 0 45 = nI (d + 1)) (o : ∀ i, i < d → h'.1 29 i = h.1 29 (i + r) ∧ h'.1 30 i = h.1 30 (i + r) ∧ h'.1 31 i = h.1 31 (i + r)) (nw : h'.1 29 d = kd ∧ h'.1 30 d = nI s ∧ h'.1 31 d = w)
    (hs : s < 10) (hk : kd = 0 ∨ kd = 1 ∨ kd = 2 ∨ kd = 3) (b : ∀ i, i < d → BQ J S m' (3 + i) m (3 + (i + r))) (bd : BQ J S m' (3 + d) m 0) (un : TQ J S (Mv m 0) (T_undo kd s w (Mv m' 0))) (z : LZ J (Mv m 0)) (ok : TOk 9900 J S (Mv m 0)) : sim_deeds h' m' J S := by
  obtain ⟨D1, D2, D3⟩ := D
  refine ⟨d + 1, by omega, n1, n2, fun i hi => ?_⟩
  by_cases ci : i = d
  · subst ci
    rw [nw.1, nw.2.1, nw.2.2]
    refine ⟨⟨s, hs, rfl, ?_⟩, hk, z.l bd.2, ok.q bd.1.sy⟩
    have eb : ck_bk m' (i + 1) (i + 1) = Mv m' 0 := by unfold ck_bk; rw [if_neg (by omega)]
    rw [eb]
    exact bd.1.tr un
  · have hid : i < d := by omega
    obtain ⟨⟨s', s1', s2', s3'⟩, k2', k3', k4'⟩ := c4 (i + r) (by omega)
    rw [(o i hid).1, (o i hid).2.1, (o i hid).2.2]
    refine ⟨⟨s', s1', s2', ((b i hid).1.tr s3').tr (T_undo_Q ?_)⟩, k2', k3'.l (b i hid).2, k4'.q (b i hid).1.sy⟩
    unfold ck_bk
    rw [if_pos (show i + 1 < d + 1 by omega)]
    by_cases c3 : i + r + 1 < c
    · rw [if_pos c3]
      have := (b (i + 1) (by omega)).1.sy
      rw [show 3 + (i + 1 + r) = 3 + (i + r + 1) by omega] at this
      exact this
    · rw [if_neg c3, show i + 1 = d by omega]
      exact bd.1.sy
def T_get (kd : Int32) (s : Nat) (t : Tt) : Int32 := if kd = 0 then t.2.2.1 s else if kd = 1 then t.1 4 else if kd = 2 then t.2.2.2.1 s else t.1 6
theorem upd_b {f g x : Nat → Int32} {k : Nat} {v : Int32} {n : Nat} (h : ∀ i, i < n → f i = g i) (e : ∀ i, i < n → f i = x i) : ∀ i, i < n → f i = upd (upd g k v) k (x k) i := by
  intro i hi
  by_cases c : i = k
  · subst c; rw [pk_us]; exact e i hi
  · rw [pk_un c, pk_un c]; exact h i hi
theorem T_undo_back {J S s : Nat} {kd v : Int32} {t u x : Tt} (h : TQ J S t u) (g : TQ J S t x) : TQ J S t (T_undo kd s (T_get kd s x) (T_undo kd s v u)) := by
  unfold T_undo T_get
  by_cases k0 : kd = 0
  · rw [if_pos k0, if_pos k0, if_pos k0]
    exact ⟨h.1, h.2.1, fun i hi => ⟨upd_b (fun k hk => (h.2.2.1 k hk).1) (fun k hk => (g.2.2.1 k hk).1) i hi, (h.2.2.1 i hi).2⟩, h.2.2.2⟩
  · rw [if_neg k0, if_neg k0, if_neg k0]
    by_cases k1 : kd = 1
    · rw [if_pos k1, if_pos k1, if_pos k1]
      exact ⟨⟨by simp [upd, g.1.1], by simp [upd, h.1.2.1], by simp [upd, h.1.2.2.1], by simp [upd, h.1.2.2.2]⟩, h.2⟩
    · rw [if_neg k1, if_neg k1, if_neg k1]
      by_cases k2 : kd = 2
      · rw [if_pos k2, if_pos k2, if_pos k2]
        exact ⟨h.1, h.2.1, fun i hi => ⟨(h.2.2.1 i hi).1, upd_b (fun k hk => (h.2.2.1 k hk).2.1) (fun k hk => (g.2.2.1 k hk).2.1) i hi, (h.2.2.1 i hi).2.2⟩, h.2.2.2⟩
      · rw [if_neg k2, if_neg k2, if_neg k2]
        exact ⟨⟨by simp [upd, h.1.1], by simp [upd, h.1.2.1], by simp [upd, g.1.2.2.1], by simp [upd, h.1.2.2.2]⟩, h.2⟩
theorem T_undo_ld (kd : Int32) (s : Nat) (v : Int32) (t : Tt) : (T_undo kd s v t).2.2.2.2.2 = t.2.2.2.2.2 := by
  unfold T_undo
  split
  · rfl
  · split
    · rfl
    · split <;> rfl
theorem T_undo_Ok {B J S s : Nat} {kd v : Int32} {t : Tt} (H : TOk B J S t) (h0 : kd = 0 → ∃ j, j < J ∧ v = nI j) (h2 : kd = 2 → rg v 9999) (h3 : kd = 3 → ∃ a, 1 ≤ a ∧ a ≤ 99 ∧ v = nI a) (hk : kd = 0 ∨ kd = 1 ∨ kd = 2 ∨ kd = 3) : TOk B J S (T_undo kd s v t) := by
  unfold T_undo
  by_cases k0 : kd = 0
  · rw [if_pos k0]
    exact ⟨H.1, H.2.1, H.2.2.1, upd_all (P := fun x => ∃ j, j < J ∧ x = nI j) H.2.2.2.1 (h0 k0), H.2.2.2.2⟩
  · rw [if_neg k0]
    by_cases k1 : kd = 1
    · rw [if_pos k1]
      exact ⟨by simpa [upd] using H.1, by simpa [upd] using H.2.1, H.2.2⟩
    · rw [if_neg k1]
      by_cases k2 : kd = 2
      · rw [if_pos k2]
        exact ⟨H.1, H.2.1, H.2.2.1, H.2.2.2.1, upd_all (P := fun x => rg x 9999) H.2.2.2.2.1 (h2 k2), H.2.2.2.2.2⟩
      · rw [if_neg k2]
        have k3 : kd = 3 := by rcases hk with z | z | z | z; exact absurd z k0; exact absurd z k1; exact absurd z k2; exact z
        exact ⟨by simpa [upd] using H.1, by simpa [upd] using h3 k3, H.2.2⟩
theorem SimP.deed {J N S c d r s : Nat} {h m h1 m1 h2 m2 : ck_H} {kd v : Int32} (T : SimP J N S h m) (D : dk c d r) (c2 : h.1 28 3 = nI c)
    (c4 : ∀ i, i < c → (∃ s, s < 10 ∧ h.1 30 i = nI s ∧ TQ J S (Mv m (3 + i)) (T_undo (h.1 29 i) s (h.1 31 i) (ck_bk m c (i + 1)))) ∧ (h.1 29 i = 0 ∨ h.1 29 i = 1 ∨ h.1 29 i = 2 ∨ h.1 29 i = 3) ∧ LZ J (Mv m (3 + i)) ∧ TOk 9900 J S (Mv m (3 + i)))
    (x1 : ∀ a, (a < 28 ∨ 31 < a) → h1.1 a = h.1 a) (x2 : h1.2 = h.2) (x3 : h1.1 28 3 = nI (d + 1)) (x4 : ∀ i, i < d → h1.1 29 i = h.1 29 (i + r) ∧ h1.1 30 i = h.1 30 (i + r) ∧ h1.1 31 i = h.1 31 (i + r)) (x5 : h1.1 29 d = kd ∧ h1.1 30 d = nI s ∧ h1.1 31 d = T_get kd s (Tv h 7))
    (f1 : ∀ a, a ≠ 0 → (a < 20 ∨ 28 < a) → m1.1 a = m.1 a) (f2 : ∀ i, i ≠ 45 → m1.1 0 i = m.1 0 i) (f3 : m1.1 0 45 = nI (d + 1)) (f4 : ∀ b, b < 3 → BQ J S m1 b m b) (f5 : ∀ i, i < d → BQ J S m1 (3 + i) m (3 + (i + r))) (f6 : BQ J S m1 (3 + d) m 0)
    (y1 : ∀ a, (a < 7 ∨ 11 < a) → h2.1 a = h1.1 a) (y2 : h2.2 = h1.2) (g : ∀ a i, ¬ inB a 0 i → m2.1 a i = m1.1 a i) (hs : s < 10) (hk : kd = 0 ∨ kd = 1 ∨ kd = 2 ∨ kd = 3)
    (eM : Mv m2 0 = T_undo kd s v (Mv m1 0)) (eT : Tv h2 7 = T_undo kd s v (Tv h1 7)) (h0 : kd = 0 → ∃ j, j < J ∧ v = nI j) (hd2 : kd = 2 → rg v 9999) (hd3 : kd = 3 → ∃ a, 1 ≤ a ∧ a ≤ 99 ∧ v = nI a) : SimP J N S h2 m2 := by
  have hJ := T.pr.hJ; have hS := T.pr.hS
  have tn : TQ J S (Tv h1 7) (Tv h 7) := Tv_same (fun a h1 h2 => x1 a (by omega)) (by rw [x2]) J S
  have nw : TQ J S (Mv m2 0) (Tv h2 7) := by
    rw [eM, eT]
    exact T_undo_Q ((f4 0 (by omega)).1.tr (T.now.tr tn.sy))
  have bq : ∀ b, b ≠ 0 → BQ J S m2 b m1 b := fun b hb => BQ.of hJ hS (fun a i hi => g a i (by unfold inB at hi ⊢; omega)) (g 0 50 (by unfold inB; omega))
  have z0 : LZ J (Mv m2 0) := fun j hj => by rw [eM, T_undo_ld]; exact (T.nz.l (f4 0 (by omega)).2) j hj
  have xx : ∀ a, (a < 7 ∨ 11 < a) → (a < 28 ∨ 31 < a) → h2.1 a = h.1 a := fun a a1 a2 => by rw [y1 a a1, x1 a a2]
  have e50 : m2.1 0 50 = m1.1 0 50 := g 0 50 (by unfold inB; omega)
  refine T.to (fun a ha => xx a (by omega) (by omega)) (fun i hi => by rw [xx 0 (by omega) (by omega)]) (fun a a0 ha => ?_) (fun i hi => ?_) nw z0 ?_ ?_ ?_ ?_
  · rw [← f1 a a0 (by omega)]; funext i; exact g a i (by unfold inB; omega)
  · rw [g 0 i (by unfold inB; omega), f2 i (by omega)]
  · rw [eT]; exact T_undo_Ok (T.nok.q tn.sy) h0 hd2 hd3 hk
  · obtain ⟨d', d1, d2⟩ := T.sd
    exact ⟨d', d1, (congrFun (congrFun (y2.trans x2) 74) 11).trans d2⟩
  · have b2 := (bq 2 (by omega)).tr (f4 2 (by omega))
    exact T.img.kept (by rw [xx 0 (by omega) (by omega)]) (by rw [g 0 44 (by unfold inB; omega), f2 44 (by omega)]) b2.1 b2.2 (Tv_same (fun a h1 h2 => xx a (by omega) (by omega)) (by rw [y2, x2]) J S)
  · refine sim_deeds.push (kd := kd) (s := s) (w := T_get kd s (Tv h 7)) D c2 c4 (by rw [y1 28 (by omega)]; exact x3) (by rw [g 0 45 (by unfold inB; omega)]; exact f3) (fun i hi => by rw [y1 29 (by omega), y1 30 (by omega), y1 31 (by omega)]; exact x4 i hi) (by rw [y1 29 (by omega), y1 30 (by omega), y1 31 (by omega)]; exact x5) hs hk (fun i hi => (bq (3 + i) (by omega)).tr (f5 i hi)) ((bq (3 + d) (by omega)).tr f6) ?_ T.nz T.tok
    rw [eM]
    exact T_undo_back (f4 0 (by omega)).1.sy T.now
