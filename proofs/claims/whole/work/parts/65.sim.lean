/-- the class's words, packed -/
def ck_words : Nat → Int32 := fun i => match i with
  | 0 => 357702816
  | 1 => 492437504
  | 2 => 659869696
  | 3 => 609865728
  | 4 => 642945024
  | 5 => 404455424
  | 6 => 217648288
  | 7 => 650153312
  | 8 => 777046016
  | 9 => 522190848
  | 10 => 48365568
  | 11 => 486146048
  | 12 => 337346560
  | 13 => 676516096
  | 14 => 270077952
  | 15 => 77222066
  | 16 => 408622656
  | 17 => 418418688
  | 18 => 136085504
  | _ => 0
/-! the relation between the class's heap and the model's -/
def T_undo (kd : Int32) (s : Nat) (v : Int32) (t : Tt) : Tt :=
  if kd = 0 then (t.1, t.2.1, upd t.2.2.1 s v, t.2.2.2)
  else if kd = 1 then (upd t.1 4 v, t.2)
  else if kd = 2 then (t.1, t.2.1, t.2.2.1, upd t.2.2.2.1 s v, t.2.2.2.2)
  else (upd t.1 6 v, t.2)
def ck_bk (m : ck_H) (c i : Nat) : Tt := if i < c then Mv m (3 + i) else Mv m 0
def sim_deeds (h m : ck_H) (J S : Nat) : Prop := ∃ c, c ≤ 20 ∧ h.1 28 3 = nI c ∧ m.1 0 45 = nI c ∧ ∀ i, i < c → (∃ s, s < 10 ∧ h.1 30 i = nI s ∧ TQ J S (Mv m (3 + i)) (T_undo (h.1 29 i) s (h.1 31 i) (ck_bk m c (i + 1)))) ∧ (h.1 29 i = 0 ∨ h.1 29 i = 1 ∨ h.1 29 i = 2 ∨ h.1 29 i = 3) ∧ LZ J (Mv m (3 + i)) ∧ TOk 9900 J S (Mv m (3 + i))
def sim_notes (h m : ck_H) (S : Nat) : Prop := ∃ c, c ≤ 24 ∧ h.1 22 5 = nI c ∧ m.1 0 62 = nI c ∧ h.1 22 6 = m.1 0 63 ∧ (h.1 22 6 = -1 ∨ rg (h.1 22 6) c) ∧
  ∀ i, i < c → m.1 38 i = h.1 26 i ∧ ((h.1 26 i = -1 ∧ m.1 35 i = h.1 23 i ∧ (∃ s, s < S ∧ h.1 23 i = nI s) ∧ m.1 36 i = h.1 24 i ∧ m.1 37 i = h.1 25 i) ∨ ∃ k, k < i ∧ h.1 26 i = nI k)
def sim_tape (h m : ck_H) : Prop := ∃ k, k ≤ 35 ∧ h.1 0 11 = nI (20 * k) ∧ m.1 0 2 = nI (20 * k) ∧ ∀ i, i < 20 * k → ∃ c, c < 256 ∧ h.1 1 i = sb_b c ∧ m.1 1 i = nI c
def sim_img (h m : ck_H) (J S : Nat) : Prop := h.1 0 14 = m.1 0 44 ∧ (¬ h.1 0 14 = 0 → TQ J S (Mv m 2) (Tv h 12) ∧ LZ J (Mv m 2) ∧ TOk 9900 J S (Tv h 12))
/-- class and model stand alike -/
def SimP (J N S : Nat) (h m : ck_H) : Prop :=
  (PR h m J N S) ∧
  (TQ J S (Mv m 0) (Tv h 7)) ∧
  (LZ J (Mv m 0)) ∧
  (TOk 9900 J S (Tv h 7)) ∧
  (SdOk (Tv h 7)) ∧
  (sim_img h m J S) ∧
  (m.1 0 46 = 0 ∧ m.1 0 47 = -1 ∧ m.1 0 48 = -1 ∧ m.1 0 49 = 0) ∧
  (sim_tape h m) ∧
  (h.1 0 12 = m.1 0 28 ∧ h.1 0 13 = m.1 0 29) ∧
  (sim_notes h m S) ∧
  (sim_deeds h m J S) ∧
  (∀ i, i < 19 → h.1 4 i = ck_words i)
theorem SimP.pr {J N S : Nat} {h m : ck_H} (H : SimP J N S h m) : PR h m J N S := H.1
theorem SimP.now {J N S : Nat} {h m : ck_H} (H : SimP J N S h m) : TQ J S (Mv m 0) (Tv h 7) := H.2.1
theorem SimP.nz {J N S : Nat} {h m : ck_H} (H : SimP J N S h m) : LZ J (Mv m 0) := H.2.2.1
theorem SimP.nok {J N S : Nat} {h m : ck_H} (H : SimP J N S h m) : TOk 9900 J S (Tv h 7) := H.2.2.2.1
theorem SimP.sd {J N S : Nat} {h m : ck_H} (H : SimP J N S h m) : SdOk (Tv h 7) := H.2.2.2.2.1
theorem SimP.img {J N S : Nat} {h m : ck_H} (H : SimP J N S h m) : sim_img h m J S := H.2.2.2.2.2.1
theorem SimP.mode {J N S : Nat} {h m : ck_H} (H : SimP J N S h m) : m.1 0 46 = 0 ∧ m.1 0 47 = -1 ∧ m.1 0 48 = -1 ∧ m.1 0 49 = 0 := H.2.2.2.2.2.2.1
theorem SimP.tape {J N S : Nat} {h m : ck_H} (H : SimP J N S h m) : sim_tape h m := H.2.2.2.2.2.2.2.1
theorem SimP.flt {J N S : Nat} {h m : ck_H} (H : SimP J N S h m) : h.1 0 12 = m.1 0 28 ∧ h.1 0 13 = m.1 0 29 := H.2.2.2.2.2.2.2.2.1
theorem SimP.notes {J N S : Nat} {h m : ck_H} (H : SimP J N S h m) : sim_notes h m S := H.2.2.2.2.2.2.2.2.2.1
theorem SimP.deeds {J N S : Nat} {h m : ck_H} (H : SimP J N S h m) : sim_deeds h m J S := H.2.2.2.2.2.2.2.2.2.2.1
theorem SimP.words {J N S : Nat} {h m : ck_H} (H : SimP J N S h m) : ∀ i, i < 19 → h.1 4 i = ck_words i := H.2.2.2.2.2.2.2.2.2.2.2
def Sim (h m : ck_H) : Prop := ∃ J N S, SimP J N S h m
/-- what queries leave as it was, in the class -/
def kX (h h' : ck_H) : Prop := (∀ a, (a ≤ 1 ∨ a = 4 ∨ (7 ≤ a ∧ a ≤ 16) ∨ (22 ≤ a ∧ a ≤ 26) ∨ (28 ≤ a ∧ a ≤ 52)) → h'.1 a = h.1 a) ∧ h'.2 74 11 = h.2 74 11
def kM (m m' : ck_H) : Prop := ∀ a i, ¬ inB a 1 i → ¬ (29 ≤ a ∧ a ≤ 34) → a ≠ 39 → (a = 0 → i = 2 ∨ i = 28 ∨ i = 29 ∨ (44 ≤ i ∧ i ≤ 50) ∨ i = 62 ∨ i = 63) → m'.1 a i = m.1 a i
theorem kX.rf (h : ck_H) : kX h h := ⟨fun _ _ => rfl, rfl⟩
theorem kX.tr {h h1 h2 : ck_H} (a : kX h h1) (b : kX h1 h2) : kX h h2 := ⟨fun x e => (b.1 x e).trans (a.1 x e), b.2.trans a.2⟩
theorem kM.rf (m : ck_H) : kM m m := fun _ _ _ _ _ _ => rfl
theorem kM.tr {m m1 m2 : ck_H} (f : kM m m1) (g : kM m1 m2) : kM m m2 := fun a i h1 h2 h3 h4 => (g a i h1 h2 h3 h4).trans (f a i h1 h2 h3 h4)
theorem kM.row {m m' : ck_H} (f : kM m m') {a : Nat} (h0 : a ≠ 0) (h1 : a < 20 ∨ (35 ≤ a ∧ a ≤ 38)) : m'.1 a = m.1 a := by
  funext i
  exact f a i (by unfold inB; omega) (by omega) (by omega) (by omega)
theorem kM.fl {m m' : ck_H} (f : kM m m') {i : Nat} (h : i = 2 ∨ i = 28 ∨ i = 29 ∨ (44 ≤ i ∧ i ≤ 50) ∨ i = 62 ∨ i = 63) : m'.1 0 i = m.1 0 i := f 0 i (by unfold inB; omega) (by omega) (by omega) (fun _ => h)
theorem kM.thr (m : ck_H) (i : Nat) (v : Int32) (h : ¬ (i = 2 ∨ i = 28 ∨ i = 29 ∨ (44 ≤ i ∧ i ≤ 50) ∨ i = 62 ∨ i = 63)) : kM m (ck_sI m 0 i v) := fun a k _ _ _ h4 => by
  by_cases e : a = 0
  · subst e
    exact ck_sI_nj _ _ (fun z => h (z ▸ h4 rfl))
  · rw [ck_sI_ne _ _ _ e]
theorem kM.sR {m : ck_H} {a i : Nat} {v : Int32} (h : inB a 1 i ∨ (29 ≤ a ∧ a ≤ 34) ∨ a = 39) : kM m (ck_sI m a i v) := fun a' k h1 h2 h3 _ => by
  by_cases e : a' = a
  · subst e
    by_cases e2 : k = i
    · subst e2
      rcases h with h | h | h
      · exact absurd h h1
      · exact absurd h h2
      · exact absurd h h3
    · exact ck_sI_nj _ _ e2
  · rw [ck_sI_ne _ _ _ e]
theorem kM.fM {m m' : ck_H} (f : ck_fM m m') : kM m m' := fun a i _ _ _ h4 => by
  by_cases e : a = 0
  · subst e
    exact f.2 i (by have := h4 rfl; omega)
  · rw [f.1 a e]
theorem kM.mv {m m' : ck_H} {J S b : Nat} (f : kM m m') (hJ : J ≤ 4) (hS : S ≤ 10) (hb : b ≠ 1) : TQ J S (Mv m' b) (Mv m b) ∧ TL J (Mv m' b) (Mv m b) := by
  have g : ∀ a i, 20 ≤ a → a ≤ 28 → ¬ inB a 1 i → m'.1 a i = m.1 a i := fun a i h1 h2 h3 => f a i h3 (by omega) (by omega) (by omega)
  refine ⟨⟨⟨?_, ?_, ?_, ?_⟩, fun j hj => ?_, fun s hs => ⟨?_, ?_, ?_⟩, ?_⟩, fun j hj => ?_⟩
  · exact g 22 b (by omega) (by omega) (by unfold inB; omega)
  · exact g 20 b (by omega) (by omega) (by unfold inB; omega)
  · exact g 21 b (by omega) (by omega) (by unfold inB; omega)
  · exact g 23 b (by omega) (by omega) (by unfold inB; omega)
  · exact g 24 (4 * b + j) (by omega) (by omega) (by unfold inB; omega)
  · exact g 26 (10 * b + s) (by omega) (by omega) (by unfold inB; omega)
  · exact g 27 (10 * b + s) (by omega) (by omega) (by unfold inB; omega)
  · exact g 28 (10 * b + s) (by omega) (by omega) (by unfold inB; omega)
  · show (m'.1 0 50).toInt64 = (m.1 0 50).toInt64
    rw [f.fl (by omega)]
  · exact g 25 (4 * b + j) (by omega) (by omega) (by unfold inB; omega)
theorem LZ.l {J : Nat} {t u : Tt} (h : LZ J t) (l : TL J u t) : LZ J u := fun j hj => (l j hj).trans (h j hj)
theorem Tv_kX {h h' : ck_H} (f : kX h h') {o : Nat} (ho : o = 7 ∨ o = 12) (J S : Nat) : TQ J S (Tv h' o) (Tv h o) := by
  refine ⟨⟨?_, ?_, ?_, ?_⟩, fun j hj => ?_, fun s hs => ⟨?_, ?_, ?_⟩, f.2⟩
  · show h'.1 o 4 = h.1 o 4; rw [f.1 o (by omega)]
  · show h'.1 o 5 = h.1 o 5; rw [f.1 o (by omega)]
  · show h'.1 o 6 = h.1 o 6; rw [f.1 o (by omega)]
  · show h'.1 o 7 = h.1 o 7; rw [f.1 o (by omega)]
  · show h'.1 (o + 1) j = h.1 (o + 1) j; rw [f.1 (o + 1) (by omega)]
  · show h'.1 (o + 2) s = h.1 (o + 2) s; rw [f.1 (o + 2) (by omega)]
  · show h'.1 (o + 3) s = h.1 (o + 3) s; rw [f.1 (o + 3) (by omega)]
  · show h'.1 (o + 4) s = h.1 (o + 4) s; rw [f.1 (o + 4) (by omega)]
theorem T_undo_Q {J S s : Nat} {kd v : Int32} {t u : Tt} (h : TQ J S t u) : TQ J S (T_undo kd s v t) (T_undo kd s v u) := by
  unfold T_undo
  split
  · exact ⟨h.1, h.2.1, fun i hi => ⟨upd_q (fun k hk => (h.2.2.1 k hk).1) rfl i hi, (h.2.2.1 i hi).2⟩, h.2.2.2⟩
  · split
    · exact ⟨⟨by simp [upd], by simp [upd, h.1.2.1], by simp [upd, h.1.2.2.1], by simp [upd, h.1.2.2.2]⟩, h.2⟩
    · split
      · exact ⟨h.1, h.2.1, fun i hi => ⟨(h.2.2.1 i hi).1, upd_q (fun k hk => (h.2.2.1 k hk).2.1) rfl i hi, (h.2.2.1 i hi).2.2⟩, h.2.2.2⟩
      · exact ⟨⟨by simp [upd, h.1.1], by simp [upd, h.1.2.1], by simp [upd], by simp [upd, h.1.2.2.2]⟩, h.2⟩
theorem ck_bk_kM {m m' : ck_H} {J S c i : Nat} (f : kM m m') (hJ : J ≤ 4) (hS : S ≤ 10) : TQ J S (ck_bk m' c i) (ck_bk m c i) := by
  unfold ck_bk
  split
  · exact (f.mv hJ hS (by omega)).1
  · exact (f.mv hJ hS (by omega)).1
theorem sim_notes.kept {h m h' m' : ck_H} {S : Nat} (H : sim_notes h m S) (x : ∀ a, 22 ≤ a → a ≤ 26 → h'.1 a = h.1 a) (f : ∀ a, 35 ≤ a → a ≤ 38 → m'.1 a = m.1 a) (f2 : m'.1 0 62 = m.1 0 62) (f3 : m'.1 0 63 = m.1 0 63) : sim_notes h' m' S := by
  unfold sim_notes
  rw [x 22 (by omega) (by omega), x 23 (by omega) (by omega), x 24 (by omega) (by omega), x 25 (by omega) (by omega), x 26 (by omega) (by omega), f2, f3, f 35 (by omega) (by omega), f 36 (by omega) (by omega), f 37 (by omega) (by omega), f 38 (by omega) (by omega)]
  exact H
theorem sim_tape.kept {h m h' m' : ck_H} (H : sim_tape h m) (x1 : h'.1 0 11 = h.1 0 11) (x2 : h'.1 1 = h.1 1) (f1 : m'.1 0 2 = m.1 0 2) (f2 : m'.1 1 = m.1 1) : sim_tape h' m' := by
  unfold sim_tape
  rw [x1, x2, f1, f2]
  exact H
theorem sim_img.kept {h m h' m' : ck_H} {J S : Nat} (H : sim_img h m J S) (x1 : h'.1 0 14 = h.1 0 14) (f1 : m'.1 0 44 = m.1 0 44) (e : TQ J S (Mv m' 2) (Mv m 2)) (l : TL J (Mv m' 2) (Mv m 2)) (g : TQ J S (Tv h' 12) (Tv h 12)) : sim_img h' m' J S := by
  refine ⟨by rw [x1, f1]; exact H.1, fun c => ?_⟩
  rw [x1] at c
  have k := H.2 c
  exact ⟨(e.tr k.1).tr g.sy, k.2.1.l l, k.2.2.q g.sy⟩
theorem sim_deeds.kept {h m h' m' : ck_H} {J S : Nat} (H : sim_deeds h m J S) (x : ∀ a, 28 ≤ a → a ≤ 31 → h'.1 a = h.1 a) (f : m'.1 0 45 = m.1 0 45) (e : ∀ i, i < 20 → TQ J S (Mv m' (3 + i)) (Mv m (3 + i)) ∧ TL J (Mv m' (3 + i)) (Mv m (3 + i))) (e0 : TQ J S (Mv m' 0) (Mv m 0)) : sim_deeds h' m' J S := by
  obtain ⟨c, c1, c2, c3, c4⟩ := H
  refine ⟨c, c1, ?_, ?_, fun i hi => ?_⟩
  · rw [x 28 (by omega) (by omega)]; exact c2
  · rw [f]; exact c3
  · rw [x 29 (by omega) (by omega), x 30 (by omega) (by omega), x 31 (by omega) (by omega)]
    obtain ⟨⟨s, s1, s2, s3⟩, k2, k3, k4⟩ := c4 i hi
    have e1 := e i (by omega)
    have eb : TQ J S (ck_bk m' c (i + 1)) (ck_bk m c (i + 1)) := by
      unfold ck_bk
      split
      · exact (e (i + 1) (by omega)).1
      · exact e0
    exact ⟨⟨s, s1, s2, (e1.1.tr s3).tr (T_undo_Q eb.sy)⟩, k2, k3.l e1.2, k4.q e1.1.sy⟩
theorem sim_deeds.zero {h m : ck_H} {J S : Nat} (x : h.1 28 3 = 0) (f : m.1 0 45 = 0) : sim_deeds h m J S := ⟨0, by omega, x, f, fun i hi => by omega⟩
theorem SimP.keep {J N S : Nat} {h m h' m' : ck_H} (H : SimP J N S h m) (x : kX h h') (f : kM m m') : SimP J N S h' m' := by
  have hJ := H.pr.hJ; have hS := H.pr.hS
  refine ⟨H.pr.kept (fun a h1 h2 => x.1 a (by omega)) (fun a h1 h2 => f.row (by omega) (by omega)), ?_, ?_, ?_, ?_, ?_, ?_, ?_, ?_, ?_, ?_, ?_⟩
  · exact ((f.mv hJ hS (by omega)).1.tr H.now).tr (Tv_kX x (Or.inl rfl) J S).sy
  · exact H.nz.l (f.mv (S := S) hJ hS (by omega)).2
  · exact H.nok.q (Tv_kX x (Or.inl rfl) J S).sy
  · exact H.sd.q (Tv_kX x (Or.inl rfl) J S).sy
  · exact H.img.kept (by rw [x.1 0 (by omega)]) (f.fl (by omega)) (f.mv hJ hS (by omega)).1 (f.mv (S := S) hJ hS (by omega)).2 (Tv_kX x (Or.inr rfl) J S)
  · rw [f.fl (by omega), f.fl (by omega), f.fl (by omega), f.fl (by omega)]; exact H.mode
  · exact H.tape.kept (by rw [x.1 0 (by omega)]) (x.1 1 (by omega)) (f.fl (by omega)) (f.row (by omega) (by omega))
  · rw [x.1 0 (by omega), f.fl (by omega), f.fl (by omega)]; exact H.flt
  · exact H.notes.kept (fun a h1 h2 => x.1 a (by omega)) (fun a h1 h2 => f.row (by omega) (by omega)) (f.fl (by omega)) (f.fl (by omega))
  · exact H.deeds.kept (fun a h1 h2 => x.1 a (by omega)) (f.fl (by omega)) (fun i hi => f.mv hJ hS (by omega)) (f.mv hJ hS (by omega)).1
  · rw [x.1 4 (by omega)]; exact H.words
theorem SimP.thr {J N S : Nat} {h m : ck_H} (H : SimP J N S h m) (v : Int32) : SimP J N S h (ck_sI m 0 0 v) := H.keep (kX.rf h) (kM.thr m 0 v (by omega))
theorem SimP.day {J N S : Nat} {h m : ck_H} (H : SimP J N S h m) : m.1 20 0 = h.1 7 5 := H.now.1.2.1
theorem SimP.lev {J N S : Nat} {h m : ck_H} (H : SimP J N S h m) : m.1 21 0 = h.1 7 6 := H.now.1.2.2.1
theorem SimP.sto {J N S : Nat} {h m : ck_H} (H : SimP J N S h m) : m.1 22 0 = h.1 7 4 := H.now.1.1
theorem SimP.los {J N S : Nat} {h m : ck_H} (H : SimP J N S h m) : m.1 23 0 = h.1 7 7 := H.now.1.2.2.2
theorem SimP.te {J N S : Nat} {h m : ck_H} (H : SimP J N S h m) {j : Nat} (hj : j < J) : m.1 24 j = h.1 8 j := by
  have e : (Mv m 0).2.1 j = h.1 8 j := H.now.2.1 j hj
  rw [show (Mv m 0).2.1 j = m.1 24 (4 * 0 + j) from rfl, show 4 * 0 + j = j by omega] at e
  exact e
theorem SimP.ju {J N S : Nat} {h m : ck_H} (H : SimP J N S h m) {s : Nat} (hs : s < S) : m.1 26 s = h.1 9 s := by
  have e : (Mv m 0).2.2.1 s = h.1 9 s := (H.now.2.2.1 s hs).1
  rw [show (Mv m 0).2.2.1 s = m.1 26 (10 * 0 + s) from rfl, show 10 * 0 + s = s by omega] at e
  exact e
theorem SimP.da {J N S : Nat} {h m : ck_H} (H : SimP J N S h m) {s : Nat} (hs : s < S) : m.1 27 s = h.1 10 s := by
  have e : (Mv m 0).2.2.2.1 s = h.1 10 s := (H.now.2.2.1 s hs).2.1
  rw [show (Mv m 0).2.2.2.1 s = m.1 27 (10 * 0 + s) from rfl, show 10 * 0 + s = s by omega] at e
  exact e
theorem SimP.ve {J N S : Nat} {h m : ck_H} (H : SimP J N S h m) {s : Nat} (hs : s < S) : m.1 28 s = h.1 11 s := by
  have e : (Mv m 0).2.2.2.2.1 s = h.1 11 s := (H.now.2.2.1 s hs).2.2
  rw [show (Mv m 0).2.2.2.2.1 s = m.1 28 (10 * 0 + s) from rfl, show 10 * 0 + s = s by omega] at e
  exact e
/-! loops that fold -/
def fo (F : Int32 → Nat → Int32) : Nat → Nat → Int32 → Int32
  | 0, _, x => x
  | k + 1, s, x => fo F k (s + 1) (F x s)
theorem fo_eq {F G : Int32 → Nat → Int32} : ∀ (k s : Nat) (x : Int32), (∀ i y, s ≤ i → i < s + k → F y i = G y i) → fo F k s x = fo G k s x := by
  intro k
  induction k with
  | zero => exact fun _ _ _ => rfl
  | succ k ih =>
    intro s x h
    unfold fo
    rw [h s x (by omega) (by omega)]
    exact ih (s + 1) _ (fun i y a b => h i y (by omega) (by omega))
theorem lp_fo (W : Nat → Int32 → Nat → Prop) (F : Int32 → Nat → Int32) (S : Nat) (R : Int32 → Prop) (he : ∀ f x, R x → W (f + 1) x S) (hs : ∀ f x s, s < S → W f (F x s) (s + 1) → W (f + 1) x s) : ∀ (k s f : Nat) (x : Int32), k < f → s + k = S → R (fo F k s x) → W f x s := by
  intro k
  induction k with
  | zero =>
    intro s f x hf e hr
    obtain ⟨f, rfl⟩ : ∃ g, f = g + 1 := ⟨f - 1, by omega⟩
    rw [show s = S by omega]
    exact he f x hr
  | succ k ih =>
    intro s f x hf e hr
    obtain ⟨f, rfl⟩ : ∃ g, f = g + 1 := ⟨f - 1, by omega⟩
    exact hs f x s (by omega) (ih (s + 1) f _ (by omega) (by omega) hr)
