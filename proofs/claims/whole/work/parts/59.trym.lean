/-! the model's trial, told purely -/
def Mf (m : ck_H) (b : Nat) : Nat → Int32 := fun i => if i = 4 then m.1 22 b else if i = 5 then m.1 20 b else if i = 6 then m.1 21 b else if i = 7 then m.1 23 b else 0
def Mv (m : ck_H) (b : Nat) : Tt := (Mf m b, fun j => m.1 24 (4 * b + j), fun s => m.1 26 (10 * b + s), fun s => m.1 27 (10 * b + s), fun s => m.1 28 (10 * b + s), fun j => m.1 25 (4 * b + j), (m.1 0 50).toInt64)
def mdM (m : ck_H) : Md := (decide (m.1 0 46 = 1), decide (m.1 0 46 = 4), decide (m.1 0 46 = 3), if m.1 0 46 = 2 then m.1 0 47 else -1, decide (¬ m.1 0 49 = 0), if m.1 0 48 = -1 then m.1 2 3 else m.1 0 48)
theorem Mv_20 (m : ck_H) (b : Nat) (v : Int32) : Mv (ck_sI m 20 b v) b = (upd (Mf m b) 5 v, (Mv m b).2) := by
  refine Prod.ext ?_ rfl
  funext i
  by_cases e : i = 5
  · subst e; simp [Mv, Mf, ck_sI, upd]
  · simp [Mv, Mf, ck_sI, upd, e]
theorem Mv_21 (m : ck_H) (b : Nat) (v : Int32) : Mv (ck_sI m 21 b v) b = (upd (Mf m b) 6 v, (Mv m b).2) := by
  refine Prod.ext ?_ rfl
  funext i
  by_cases e : i = 6
  · subst e; simp [Mv, Mf, ck_sI, upd]
  · simp [Mv, Mf, ck_sI, upd, e]
theorem Mv_22 (m : ck_H) (b : Nat) (v : Int32) : Mv (ck_sI m 22 b v) b = (upd (Mf m b) 4 v, (Mv m b).2) := by
  refine Prod.ext ?_ rfl
  funext i
  by_cases e : i = 4
  · subst e; simp [Mv, Mf, ck_sI, upd]
  · simp [Mv, Mf, ck_sI, upd, e]
theorem Mv_23 (m : ck_H) (b : Nat) (v : Int32) : Mv (ck_sI m 23 b v) b = (upd (Mf m b) 7 v, (Mv m b).2) := by
  refine Prod.ext ?_ rfl
  funext i
  by_cases e : i = 7
  · subst e; simp [Mv, Mf, ck_sI, upd]
  · simp [Mv, Mf, ck_sI, upd, e]
theorem Mv_24 (m : ck_H) (b j : Nat) (v : Int32) : Mv (ck_sI m 24 (4 * b + j) v) b = (Mf m b, upd (Mv m b).2.1 j v, (Mv m b).2.2) := by
  refine Prod.ext rfl (Prod.ext ?_ rfl)
  funext i
  by_cases e : i = j
  · subst e; simp [Mv, ck_sI, upd]
  · simp [Mv, ck_sI, upd, e]
theorem Mv_26 (m : ck_H) (b j : Nat) (v : Int32) : Mv (ck_sI m 26 (10 * b + j) v) b = (Mf m b, (Mv m b).2.1, upd (Mv m b).2.2.1 j v, (Mv m b).2.2.2) := by
  refine Prod.ext rfl (Prod.ext rfl (Prod.ext ?_ rfl))
  funext i
  by_cases e : i = j
  · subst e; simp [Mv, ck_sI, upd]
  · simp [Mv, ck_sI, upd, e]
theorem Mv_28 (m : ck_H) (b j : Nat) (v : Int32) : Mv (ck_sI m 28 (10 * b + j) v) b = (Mf m b, (Mv m b).2.1, (Mv m b).2.2.1, (Mv m b).2.2.2.1, upd (Mv m b).2.2.2.2.1 j v, (Mv m b).2.2.2.2.2) := by
  refine Prod.ext rfl (Prod.ext rfl (Prod.ext rfl (Prod.ext rfl (Prod.ext ?_ rfl))))
  funext i
  by_cases e : i = j
  · subst e; simp [Mv, ck_sI, upd]
  · simp [Mv, ck_sI, upd, e]
theorem Mv_25 (m : ck_H) (b j : Nat) (v : Int32) : Mv (ck_sI m 25 (4 * b + j) v) b = (Mf m b, (Mv m b).2.1, (Mv m b).2.2.1, (Mv m b).2.2.2.1, (Mv m b).2.2.2.2.1, upd (Mv m b).2.2.2.2.2.1 j v, (Mv m b).2.2.2.2.2.2) := by
  refine Prod.ext rfl (Prod.ext rfl (Prod.ext rfl (Prod.ext rfl (Prod.ext rfl (Prod.ext ?_ rfl)))))
  funext i
  by_cases e : i = j
  · subst e; simp [Mv, ck_sI, upd]
  · simp [Mv, ck_sI, upd, e]
theorem Mv_50 (m : ck_H) (b : Nat) (v : Int32) : Mv (ck_sI m 0 50 v) b = (Mf m b, (Mv m b).2.1, (Mv m b).2.2.1, (Mv m b).2.2.2.1, (Mv m b).2.2.2.2.1, (Mv m b).2.2.2.2.2.1, v.toInt64) := by
  refine Prod.ext rfl (Prod.ext rfl (Prod.ext rfl (Prod.ext rfl (Prod.ext rfl (Prod.ext rfl ?_)))))
  simp [Mv, ck_sI, upd]
theorem Mv_fM {m m' : ck_H} (f : ck_fM m m') (b : Nat) : Mv m' b = Mv m b := by
  unfold Mv Mf
  rw [f.1 22 (by decide), f.1 20 (by decide), f.1 21 (by decide), f.1 23 (by decide), f.1 24 (by decide), f.1 25 (by decide), f.1 26 (by decide), f.1 27 (by decide), f.1 28 (by decide), f.2 50 (by decide)]
theorem mdM_fM {m m' : ck_H} (f : ck_fM m m') : mdM m' = mdM m := by
  unfold mdM
  rw [f.1 2 (by decide), f.2 46 (by decide), f.2 47 (by decide), f.2 48 (by decide), f.2 49 (by decide)]
/-- what a bench's day leaves as it was -/
def inB (a b i : Nat) : Prop := (20 ≤ a ∧ a ≤ 23 ∧ i = b) ∨ (24 ≤ a ∧ a ≤ 25 ∧ 4 * b ≤ i ∧ i < 4 * b + 4) ∨ (26 ≤ a ∧ a ≤ 28 ∧ 10 * b ≤ i ∧ i < 10 * b + 10)
def FB (b : Nat) (m m' : ck_H) : Prop := ∀ a i, ¬ inB a b i → ¬ (a = 0 ∧ (i = 34 ∨ i = 50)) → m'.1 a i = m.1 a i
theorem FB.rf (b : Nat) (m : ck_H) : FB b m m := fun _ _ _ _ => rfl
theorem FB.tr {b : Nat} {m m1 m2 : ck_H} (f : FB b m m1) (g : FB b m1 m2) : FB b m m2 := fun a i h1 h2 => (g a i h1 h2).trans (f a i h1 h2)
theorem FB.of {b : Nat} {m m' : ck_H} (f : ck_fM m m') : FB b m m' := fun a i _ h2 => by
  by_cases e : a = 0
  · subst e; exact f.2 i (fun z => h2 ⟨rfl, Or.inl z⟩)
  · rw [f.1 a e]
theorem FB.set {b : Nat} (m : ck_H) {a i : Nat} (v : Int32) (h : inB a b i) : FB b m (ck_sI m a i v) := fun a' i' h1 _ => by
  by_cases e : a' = a
  · subst e
    by_cases e2 : i' = i
    · subst e2; exact absurd h h1
    · exact ck_sI_nj _ _ e2
  · rw [ck_sI_ne _ _ _ e]
theorem FB.set50 {b : Nat} (m : ck_H) (v : Int32) : FB b m (ck_sI m 0 50 v) := fun a' i' _ h2 => by
  by_cases e : a' = 0
  · subst e
    exact ck_sI_nj _ _ (fun z => h2 ⟨rfl, Or.inr z⟩)
  · rw [ck_sI_ne _ _ _ e]
theorem FB.row {b : Nat} {m m' : ck_H} (f : FB b m m') {a : Nat} (h0 : a ≠ 0) (h : a < 20 ∨ 28 < a) : m'.1 a = m.1 a := by
  funext i
  exact f a i (by unfold inB; omega) (by omega)
theorem FB.fl {b : Nat} {m m' : ck_H} (f : FB b m m') {i : Nat} (h : i ≠ 34) (h2 : i ≠ 50) : m'.1 0 i = m.1 0 i := f 0 i (by unfold inB; omega) (by omega)
theorem FB.md {b : Nat} {m m' : ck_H} (f : FB b m m') : mdM m' = mdM m := by
  unfold mdM
  rw [f.row (a := 2) (by decide) (by decide), f.fl (i := 46) (by decide) (by decide), f.fl (i := 47) (by decide) (by decide), f.fl (i := 48) (by decide) (by decide), f.fl (i := 49) (by decide) (by decide)]
/-- the class's plan and the model's rows -/
def PR (h m : ck_H) (J N S : Nat) : Prop :=
  (J ≤ 4) ∧
  (N ≤ 6) ∧
  (S ≤ 10) ∧
  (h.1 33 1 = nI J) ∧
  (h.1 37 1 = nI N) ∧
  (h.1 42 1 = nI S) ∧
  (m.1 2 0 = nI J) ∧
  (m.1 2 1 = nI N) ∧
  (m.1 2 2 = nI S) ∧
  (m.1 2 3 = h.1 32 12) ∧
  (m.1 2 4 = h.1 32 13) ∧
  (∃ a, 1 ≤ a ∧ a ≤ 99 ∧ h.1 32 12 = nI a) ∧
  (rg (h.1 32 13) 30) ∧
  (m.1 2 6 = h.1 47 5) ∧
  (∀ j, j < J → m.1 3 j = h.1 34 j) ∧
  (∀ j, j < J → m.1 4 j = h.1 35 j) ∧
  (∀ j, j < J → rg (h.1 35 j) 99) ∧
  (∀ j, j < J → m.1 5 j = h.1 36 j) ∧
  (∀ j, j < J → rg (h.1 36 j) 9) ∧
  (∀ n, n < N → m.1 6 n = h.1 38 n) ∧
  (∀ n, n < N → m.1 7 n = h.1 39 n) ∧
  (∀ n, n < N → rg (h.1 39 n) 99) ∧
  (∀ n, n < N → m.1 8 n = h.1 40 n) ∧
  (∀ n, n < N → rg (h.1 40 n) 99) ∧
  (∀ n, n < N → m.1 9 n = h.1 41 n) ∧
  (∀ s, s < S → m.1 10 s = h.1 43 s) ∧
  (∀ s, s < S → m.1 11 s = h.1 44 s) ∧
  (∀ s, s < S → ∃ j, j < J ∧ h.1 44 s = nI j) ∧
  (∀ s, s < S → m.1 12 s = h.1 45 s) ∧
  (∀ s, s < S → ∃ n, n < N ∧ h.1 45 s = nI n) ∧
  (∀ s, s < S → m.1 13 s = h.1 46 s) ∧
  (∀ s, s < S → rg (h.1 46 s) 99) ∧
  (sp_LR h m)
theorem PR.hJ {h m : ck_H} {J N S : Nat} (H : PR h m J N S) : J ≤ 4 := H.1
theorem PR.hN {h m : ck_H} {J N S : Nat} (H : PR h m J N S) : N ≤ 6 := H.2.1
theorem PR.hS {h m : ck_H} {J N S : Nat} (H : PR h m J N S) : S ≤ 10 := H.2.2.1
theorem PR.xJ {h m : ck_H} {J N S : Nat} (H : PR h m J N S) : h.1 33 1 = nI J := H.2.2.2.1
theorem PR.xN {h m : ck_H} {J N S : Nat} (H : PR h m J N S) : h.1 37 1 = nI N := H.2.2.2.2.1
theorem PR.xS {h m : ck_H} {J N S : Nat} (H : PR h m J N S) : h.1 42 1 = nI S := H.2.2.2.2.2.1
theorem PR.mJ {h m : ck_H} {J N S : Nat} (H : PR h m J N S) : m.1 2 0 = nI J := H.2.2.2.2.2.2.1
theorem PR.mN {h m : ck_H} {J N S : Nat} (H : PR h m J N S) : m.1 2 1 = nI N := H.2.2.2.2.2.2.2.1
theorem PR.mS {h m : ck_H} {J N S : Nat} (H : PR h m J N S) : m.1 2 2 = nI S := H.2.2.2.2.2.2.2.2.1
theorem PR.lev {h m : ck_H} {J N S : Nat} (H : PR h m J N S) : m.1 2 3 = h.1 32 12 := H.2.2.2.2.2.2.2.2.2.1
theorem PR.vac {h m : ck_H} {J N S : Nat} (H : PR h m J N S) : m.1 2 4 = h.1 32 13 := H.2.2.2.2.2.2.2.2.2.2.1
theorem PR.rlev {h m : ck_H} {J N S : Nat} (H : PR h m J N S) : ∃ a, 1 ≤ a ∧ a ≤ 99 ∧ h.1 32 12 = nI a := H.2.2.2.2.2.2.2.2.2.2.2.1
theorem PR.rvac {h m : ck_H} {J N S : Nat} (H : PR h m J N S) : rg (h.1 32 13) 30 := H.2.2.2.2.2.2.2.2.2.2.2.2.1
theorem PR.kn {h m : ck_H} {J N S : Nat} (H : PR h m J N S) : m.1 2 6 = h.1 47 5 := H.2.2.2.2.2.2.2.2.2.2.2.2.2.1
theorem PR.jn {h m : ck_H} {J N S : Nat} (H : PR h m J N S) : ∀ j, j < J → m.1 3 j = h.1 34 j := H.2.2.2.2.2.2.2.2.2.2.2.2.2.2.1
theorem PR.jaw {h m : ck_H} {J N S : Nat} (H : PR h m J N S) : ∀ j, j < J → m.1 4 j = h.1 35 j := H.2.2.2.2.2.2.2.2.2.2.2.2.2.2.2.1
theorem PR.rjaw {h m : ck_H} {J N S : Nat} (H : PR h m J N S) : ∀ j, j < J → rg (h.1 35 j) 99 := H.2.2.2.2.2.2.2.2.2.2.2.2.2.2.2.2.1
theorem PR.tee {h m : ck_H} {J N S : Nat} (H : PR h m J N S) : ∀ j, j < J → m.1 5 j = h.1 36 j := H.2.2.2.2.2.2.2.2.2.2.2.2.2.2.2.2.2.1
theorem PR.rtee {h m : ck_H} {J N S : Nat} (H : PR h m J N S) : ∀ j, j < J → rg (h.1 36 j) 9 := H.2.2.2.2.2.2.2.2.2.2.2.2.2.2.2.2.2.2.1
theorem PR.nn {h m : ck_H} {J N S : Nat} (H : PR h m J N S) : ∀ n, n < N → m.1 6 n = h.1 38 n := H.2.2.2.2.2.2.2.2.2.2.2.2.2.2.2.2.2.2.2.1
theorem PR.hard {h m : ck_H} {J N S : Nat} (H : PR h m J N S) : ∀ n, n < N → m.1 7 n = h.1 39 n := H.2.2.2.2.2.2.2.2.2.2.2.2.2.2.2.2.2.2.2.2.1
theorem PR.rhard {h m : ck_H} {J N S : Nat} (H : PR h m J N S) : ∀ n, n < N → rg (h.1 39 n) 99 := H.2.2.2.2.2.2.2.2.2.2.2.2.2.2.2.2.2.2.2.2.2.1
theorem PR.wor {h m : ck_H} {J N S : Nat} (H : PR h m J N S) : ∀ n, n < N → m.1 8 n = h.1 40 n := H.2.2.2.2.2.2.2.2.2.2.2.2.2.2.2.2.2.2.2.2.2.2.1
theorem PR.rwor {h m : ck_H} {J N S : Nat} (H : PR h m J N S) : ∀ n, n < N → rg (h.1 40 n) 99 := H.2.2.2.2.2.2.2.2.2.2.2.2.2.2.2.2.2.2.2.2.2.2.2.1
theorem PR.bit {h m : ck_H} {J N S : Nat} (H : PR h m J N S) : ∀ n, n < N → m.1 9 n = h.1 41 n := H.2.2.2.2.2.2.2.2.2.2.2.2.2.2.2.2.2.2.2.2.2.2.2.2.1
theorem PR.sn {h m : ck_H} {J N S : Nat} (H : PR h m J N S) : ∀ s, s < S → m.1 10 s = h.1 43 s := H.2.2.2.2.2.2.2.2.2.2.2.2.2.2.2.2.2.2.2.2.2.2.2.2.2.1
theorem PR.ja {h m : ck_H} {J N S : Nat} (H : PR h m J N S) : ∀ s, s < S → m.1 11 s = h.1 44 s := H.2.2.2.2.2.2.2.2.2.2.2.2.2.2.2.2.2.2.2.2.2.2.2.2.2.2.1
theorem PR.rja {h m : ck_H} {J N S : Nat} (H : PR h m J N S) : ∀ s, s < S → ∃ j, j < J ∧ h.1 44 s = nI j := H.2.2.2.2.2.2.2.2.2.2.2.2.2.2.2.2.2.2.2.2.2.2.2.2.2.2.2.1
theorem PR.no {h m : ck_H} {J N S : Nat} (H : PR h m J N S) : ∀ s, s < S → m.1 12 s = h.1 45 s := H.2.2.2.2.2.2.2.2.2.2.2.2.2.2.2.2.2.2.2.2.2.2.2.2.2.2.2.2.1
theorem PR.rno {h m : ck_H} {J N S : Nat} (H : PR h m J N S) : ∀ s, s < S → ∃ n, n < N ∧ h.1 45 s = nI n := H.2.2.2.2.2.2.2.2.2.2.2.2.2.2.2.2.2.2.2.2.2.2.2.2.2.2.2.2.2.1
theorem PR.da {h m : ck_H} {J N S : Nat} (H : PR h m J N S) : ∀ s, s < S → m.1 13 s = h.1 46 s := H.2.2.2.2.2.2.2.2.2.2.2.2.2.2.2.2.2.2.2.2.2.2.2.2.2.2.2.2.2.2.1
theorem PR.rda {h m : ck_H} {J N S : Nat} (H : PR h m J N S) : ∀ s, s < S → rg (h.1 46 s) 99 := H.2.2.2.2.2.2.2.2.2.2.2.2.2.2.2.2.2.2.2.2.2.2.2.2.2.2.2.2.2.2.2.1
theorem PR.lr {h m : ck_H} {J N S : Nat} (H : PR h m J N S) : sp_LR h m := H.2.2.2.2.2.2.2.2.2.2.2.2.2.2.2.2.2.2.2.2.2.2.2.2.2.2.2.2.2.2.2.2
theorem PR.kept {h m h' m' : ck_H} {J N S : Nat} (H : PR h m J N S) (e : ∀ a, 32 ≤ a → a ≤ 52 → h'.1 a = h.1 a) (g : ∀ a, 2 ≤ a → a ≤ 17 → m'.1 a = m.1 a) : PR h' m' J N S := by
  have q32 := e 32 (by decide) (by decide); have q33 := e 33 (by decide) (by decide); have q34 := e 34 (by decide) (by decide); have q35 := e 35 (by decide) (by decide)
  have q36 := e 36 (by decide) (by decide); have q37 := e 37 (by decide) (by decide); have q38 := e 38 (by decide) (by decide); have q39 := e 39 (by decide) (by decide)
  have q40 := e 40 (by decide) (by decide); have q41 := e 41 (by decide) (by decide); have q42 := e 42 (by decide) (by decide); have q43 := e 43 (by decide) (by decide)
  have q44 := e 44 (by decide) (by decide); have q45 := e 45 (by decide) (by decide); have q46 := e 46 (by decide) (by decide); have q47 := e 47 (by decide) (by decide)
  have q48 := e 48 (by decide) (by decide); have q49 := e 49 (by decide) (by decide); have q50 := e 50 (by decide) (by decide); have q51 := e 51 (by decide) (by decide)
  have w2 := g 2 (by decide) (by decide); have w3 := g 3 (by decide) (by decide); have w4 := g 4 (by decide) (by decide); have w5 := g 5 (by decide) (by decide)
  have w6 := g 6 (by decide) (by decide); have w7 := g 7 (by decide) (by decide); have w8 := g 8 (by decide) (by decide); have w9 := g 9 (by decide) (by decide)
  have w10 := g 10 (by decide) (by decide); have w11 := g 11 (by decide) (by decide); have w12 := g 12 (by decide) (by decide); have w13 := g 13 (by decide) (by decide)
  have w14 := g 14 (by decide) (by decide); have w15 := g 15 (by decide) (by decide); have w16 := g 16 (by decide) (by decide); have w17 := g 17 (by decide) (by decide)
  unfold PR sp_LR at *
  simp only [q32, q33, q34, q35, q36, q37, q38, q39, q40, q41, q42, q43, q44, q45, q46, q47, q48, q49, q50, q51, w2, w3, w4, w5, w6, w7, w8, w9, w10, w11, w12, w13, w14, w15, w16, w17]
  exact H
theorem FB.pr {b : Nat} {h m m' : ck_H} {J N S : Nat} (f : FB b m m') (H : PR h m J N S) : PR h m' J N S := H.kept (fun _ _ _ => rfl) (fun a h1 h2 => f.row (by omega) (by omega))
