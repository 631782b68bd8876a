/-! images and deeds taken back -/
theorem Mv_same {m m' : ck_H} {J S b : Nat} (hJ : J ≤ 4) (hS : S ≤ 10) (g : ∀ a i, inB a b i → m'.1 a i = m.1 a i) (e : m'.1 0 50 = m.1 0 50) : TQ J S (Mv m' b) (Mv m b) ∧ TL J (Mv m' b) (Mv m b) := by
  refine ⟨⟨⟨?_, ?_, ?_, ?_⟩, fun j hj => ?_, fun s hs => ⟨?_, ?_, ?_⟩, ?_⟩, fun j hj => ?_⟩
  · exact g 22 b (by unfold inB; omega)
  · exact g 20 b (by unfold inB; omega)
  · exact g 21 b (by unfold inB; omega)
  · exact g 23 b (by unfold inB; omega)
  · exact g 24 (4 * b + j) (by unfold inB; omega)
  · exact g 26 (10 * b + s) (by unfold inB; omega)
  · exact g 27 (10 * b + s) (by unfold inB; omega)
  · exact g 28 (10 * b + s) (by unfold inB; omega)
  · show (m'.1 0 50).toInt64 = (m.1 0 50).toInt64
    rw [e]
  · exact g 25 (4 * b + j) (by unfold inB; omega)
theorem Tv_same {h h' : ck_H} {o : Nat} (x : ∀ a, o ≤ a → a ≤ o + 4 → h'.1 a = h.1 a) (e : h'.2 74 11 = h.2 74 11) (J S : Nat) : TQ J S (Tv h' o) (Tv h o) := by
  refine ⟨⟨?_, ?_, ?_, ?_⟩, fun j hj => ?_, fun s hs => ⟨?_, ?_, ?_⟩, e⟩
  · show h'.1 o 4 = h.1 o 4; rw [x o (by omega) (by omega)]
  · show h'.1 o 5 = h.1 o 5; rw [x o (by omega) (by omega)]
  · show h'.1 o 6 = h.1 o 6; rw [x o (by omega) (by omega)]
  · show h'.1 o 7 = h.1 o 7; rw [x o (by omega) (by omega)]
  · show h'.1 (o + 1) j = h.1 (o + 1) j; rw [x (o + 1) (by omega) (by omega)]
  · show h'.1 (o + 2) s = h.1 (o + 2) s; rw [x (o + 2) (by omega) (by omega)]
  · show h'.1 (o + 3) s = h.1 (o + 3) s; rw [x (o + 3) (by omega) (by omega)]
  · show h'.1 (o + 4) s = h.1 (o + 4) s; rw [x (o + 4) (by omega) (by omega)]
theorem SimP.to {J N S : Nat} {h m h' m' : ck_H} (H : SimP J N S h m)
    (x : ∀ a, (a = 1 ∨ a = 4 ∨ (22 ≤ a ∧ a ≤ 26) ∨ (32 ≤ a ∧ a ≤ 52)) → h'.1 a = h.1 a) (x0 : ∀ i, (i = 11 ∨ i = 12 ∨ i = 13) → h'.1 0 i = h.1 0 i)
    (f : ∀ a, a ≠ 0 → (a < 20 ∨ (35 ≤ a ∧ a ≤ 38)) → m'.1 a = m.1 a) (f0 : ∀ i, (i = 2 ∨ i = 28 ∨ i = 29 ∨ (46 ≤ i ∧ i ≤ 49) ∨ i = 62 ∨ i = 63) → m'.1 0 i = m.1 0 i)
    (now : TQ J S (Mv m' 0) (Tv h' 7)) (nz : LZ J (Mv m' 0)) (ok : TOk 9900 J S (Tv h' 7)) (sd : SdOk (Tv h' 7)) (img : sim_img h' m' J S) (de : sim_deeds h' m' J S) : SimP J N S h' m' := by
  refine ⟨H.pr.kept (fun a h1 h2 => x a (by omega)) (fun a h1 h2 => f a (by omega) (by omega)), now, nz, ok, sd, img, ?_, ?_, ?_, ?_, de, ?_⟩
  · rw [f0 46 (by omega), f0 47 (by omega), f0 48 (by omega), f0 49 (by omega)]; exact H.mode
  · exact H.tape.kept (x0 11 (by omega)) (x 1 (by omega)) (f0 2 (by omega)) (f 1 (by omega) (by omega))
  · rw [x0 12 (by omega), x0 13 (by omega), f0 28 (by omega), f0 29 (by omega)]; exact H.flt
  · exact H.notes.kept (fun a h1 h2 => x a (by omega)) (fun a h1 h2 => f a (by omega) (by omega)) (f0 62 (by omega)) (f0 63 (by omega))
  · rw [x 4 (by omega)]; exact H.words
theorem sim_keep {J N S : Nat} {h m : ck_H} (H : SimP J N S h m) : wp_X11_keep h (fun r h' => wp_X12_keep m (fun r' m' => r = r' ∧ Sim h' m')) := by
  have T := H.thr 0
  have hJ := T.pr.hJ; have hS := T.pr.hS
  unfold wp_X11_keep wp_X12_keep
  refine tx_like (Or.inr (Or.inl ⟨rfl, rfl⟩)) (fun h1 x1 x2 q1 => ?_)
  rintro _ rfl _ rfl
  refine mm_copies (t := 2) (b := 0) (by decide) (by decide) (by decide) (fun m1 f1 q2 => ?_)
  rintro _ rfl
  have x : ∀ a, a ≠ 0 → (a < 12 ∨ 16 < a) → (ck_sI h1 0 14 1).1 a = h.1 a := fun a a0 a1 => by rw [ck_sI_ne _ _ _ a0, x1 a (by omega)]
  have x0 : ∀ i, i ≠ 14 → (ck_sI h1 0 14 1).1 0 i = h.1 0 i := fun i hi => by rw [ck_sI_nj _ _ hi, x1 0 (by omega)]
  have f : ∀ a i, a ≠ 0 → ¬ inB a 2 i → (ck_sI m1 0 44 1).1 a i = (ck_sI m 0 0 0).1 a i := fun a i a0 a1 => by rw [ck_sI_ne _ _ _ a0, f1 a i a1]
  have f0 : ∀ i, i ≠ 44 → (ck_sI m1 0 44 1).1 0 i = (ck_sI m 0 0 0).1 0 i := fun i hi => by rw [ck_sI_nj _ _ hi, f1 0 i (by unfold inB; omega)]
  have tn : TQ J S (Tv (ck_sI h1 0 14 1) 7) (Tv h 7) := Tv_same (fun a h1 h2 => x a (by omega) (by omega)) (by rw [ck_sI_2, x2]) J S
  have mv : ∀ b, b ≠ 2 → TQ J S (Mv (ck_sI m1 0 44 1) b) (Mv (ck_sI m 0 0 0) b) ∧ TL J (Mv (ck_sI m1 0 44 1) b) (Mv (ck_sI m 0 0 0) b) := fun b hb => Mv_same hJ hS (fun a i hi => f a i (by unfold inB at hi; omega) (by unfold inB at hi ⊢; omega)) (f0 50 (by decide))
  have q2 := q2 J S hJ hS
  have mv2 : TQ J S (Mv (ck_sI m1 0 44 1) 2) (Mv m1 2) ∧ TL J (Mv (ck_sI m1 0 44 1) 2) (Mv m1 2) := Mv_same hJ hS (fun a i hi => by rw [ck_sI_ne _ _ _ (by unfold inB at hi; omega)]) (by rw [ck_sI_nj _ _ (by decide)])
  have ti : TQ J S (Tv (ck_sI h1 0 14 1) 12) (Tv h 7) := (Tv_same (fun a h1 h2 => by rw [ck_sI_ne _ _ _ (by omega)]) rfl J S).tr (q1 J S hJ hS)
  refine ⟨?_, J, N, S, T.to (fun a ha => x a (by omega) (by omega)) (fun i hi => x0 i (by omega)) (fun a a0 ha => by funext i; exact f a i a0 (by unfold inB; omega)) (fun i hi => f0 i (by omega)) ?_ ?_ ?_ ?_ ?_ ?_⟩
  · rw [x 7 (by omega) (by omega), f 20 0 (by omega) (by unfold inB; omega)]
    exact T.day.symm
  · exact (mv 0 (by omega)).1.tr (T.now.tr tn.sy)
  · exact T.nz.l (mv 0 (by omega)).2
  · exact T.nok.q tn.sy
  · exact T.sd.q tn.sy
  · refine ⟨by rw [ck_sI_at, ck_sI_at], fun _ => ⟨mv2.1.tr (q2.1.tr (T.now.tr ti.sy)), ?_, T.nok.q ti.sy⟩⟩
    exact (T.nz.l q2.2).l mv2.2
  · exact T.deeds.kept (fun a h1 h2 => x a (by omega) (by omega)) (f0 45 (by omega)) (fun i hi => mv (3 + i) (by omega)) (mv 0 (by omega)).1
theorem sim_back {J N S : Nat} {h m : ck_H} (H : SimP J N S h m) : wp_X11_back h (fun r h' => wp_X12_back m (fun r' m' => r = r' ∧ Sim h' m')) := by
  have T := H.thr 0
  have hJ := T.pr.hJ; have hS := T.pr.hS
  have im := T.img
  unfold wp_X11_back wp_X12_back wp_X2_clear
  refine ⟨fun c => ?_, fun c => ?_⟩
  · have im2 := im.2 c
    refine tx_like (Or.inr (Or.inr ⟨rfl, rfl⟩)) (fun h1 x1 x2 q1 => ?_)
    rintro _ rfl _ rfl
    refine br_m (by rw [← im.1]; exact c) ?_
    refine mm_copies (t := 0) (b := 2) (by decide) (by decide) (by decide) (fun m1 f1 q2 => ?_)
    rintro _ rfl
    have x : ∀ a, a ≠ 28 → (a < 7 ∨ 11 < a) → (ck_sI h1 28 3 0).1 a = h.1 a := fun a a0 a1 => by rw [ck_sI_ne _ _ _ a0, x1 a (by omega)]
    have f : ∀ a i, a ≠ 0 → ¬ inB a 0 i → (ck_sI m1 0 45 0).1 a i = (ck_sI m 0 0 0).1 a i := fun a i a0 a1 => by rw [ck_sI_ne _ _ _ a0, f1 a i a1]
    have f0 : ∀ i, i ≠ 45 → (ck_sI m1 0 45 0).1 0 i = (ck_sI m 0 0 0).1 0 i := fun i hi => by rw [ck_sI_nj _ _ hi, f1 0 i (by unfold inB; omega)]
    have tn : TQ J S (Tv (ck_sI h1 28 3 0) 7) (Tv h 12) := (Tv_same (fun a h1 h2 => by rw [ck_sI_ne _ _ _ (by omega)]) rfl J S).tr (q1 J S hJ hS)
    have ti : TQ J S (Tv (ck_sI h1 28 3 0) 12) (Tv h 12) := Tv_same (fun a h1 h2 => x a (by omega) (by omega)) (by rw [ck_sI_2, x2]) J S
    have q2 := q2 J S hJ hS
    have mv2 : TQ J S (Mv (ck_sI m1 0 45 0) 2) (Mv (ck_sI m 0 0 0) 2) ∧ TL J (Mv (ck_sI m1 0 45 0) 2) (Mv (ck_sI m 0 0 0) 2) := Mv_same hJ hS (fun a i hi => f a i (by unfold inB at hi; omega) (by unfold inB at hi ⊢; omega)) (f0 50 (by decide))
    have mv0 : TQ J S (Mv (ck_sI m1 0 45 0) 0) (Mv m1 0) ∧ TL J (Mv (ck_sI m1 0 45 0) 0) (Mv m1 0) := Mv_same hJ hS (fun a i hi => by rw [ck_sI_ne _ _ _ (by unfold inB at hi; omega)]) (by rw [ck_sI_nj _ _ (by decide)])
    have nw : TQ J S (Mv (ck_sI m1 0 45 0) 0) (Tv (ck_sI h1 28 3 0) 7) := mv0.1.tr (q2.1.tr (im2.1.tr tn.sy))
    refine ⟨nw.1.2.1.symm, J, N, S, T.to (fun a ha => x a (by omega) (by omega)) (fun i hi => by rw [x 0 (by omega) (by omega)]) (fun a a0 ha => by funext i; exact f a i a0 (by unfold inB; omega)) (fun i hi => f0 i (by omega)) nw ?_ ?_ ?_ ?_ ?_⟩
    · exact (im2.2.1.l q2.2).l mv0.2
    · exact im2.2.2.q tn.sy
    · obtain ⟨d, d1, d2⟩ := T.sd
      exact ⟨d, d1, (congrFun (congrFun x2 74) 11).trans d2⟩
    · exact im.kept (by rw [x 0 (by omega) (by omega)]) (f0 44 (by omega)) mv2.1 mv2.2 ti
    · exact sim_deeds.zero (ck_sI_at ..) (ck_sI_at ..)
  · rintro _ rfl
    exact br_q (by rw [← im.1]; exact c) ⟨rfl, _, _, _, T⟩
