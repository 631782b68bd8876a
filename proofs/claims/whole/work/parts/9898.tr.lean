/-! the trace of a text, by the class's heaps -/
def FDr (h h' : ck_H) : Prop := (∀ a, a ≠ 2 → a ≠ 3 → a ≠ 5 → a ≠ 6 → (a < 53 ∨ 72 < a) → h'.1 a = h.1 a) ∧ h'.1 3 2 = h.1 3 2 ∧ h'.2 = h.2
theorem FDr.rf (h : ck_H) : FDr h h := ⟨fun _ _ _ _ _ _ => rfl, rfl, rfl⟩
theorem FDr.tr {h h1 h2 : ck_H} (a : FDr h h1) (c : FDr h1 h2) : FDr h h2 := ⟨fun x e1 e2 e3 e4 e5 => (c.1 x e1 e2 e3 e4 e5).trans (a.1 x e1 e2 e3 e4 e5), c.2.1.trans a.2.1, c.2.2.trans a.2.2⟩
theorem FDr.ff {h h' : ck_H} (f : FF h h') : FDr h h' := ⟨fun a h2 h3 _ _ _ => f.1 a h2 h3, f.2.1, f.2.2.2⟩
theorem FDr.set (h : ck_H) {a i : Nat} (v : Int32) (ha : 53 ≤ a ∧ a ≤ 72) : FDr h (ck_sI h a i v) := ⟨fun x _ _ _ _ h5 => ck_sI_ne _ _ _ (by omega), by rw [ck_sI_ne _ _ _ (by omega)], rfl⟩
theorem FDr.s2 (h : ck_H) (v : Int32) : FDr h (ck_sI h 2 2 v) := FDr.ff (FF.s h v)
theorem FDr.fxx {x : Nat} {h h' : ck_H} (f : FXX x h h') : FDr h h' := ⟨fun a _ h3 h5 h6 h7 => f.1 a h3 h5 h6 (by omega) (by omega) (by omega) (by omega) (by omega), f.2.1, f.2.2.2.2⟩
/-- the class's own counts, while a text is read -/
def rdC (J N S : Nat) (u : List (Nat × Nat)) (h : ck_H) : Prop := (J ≤ 4 ∧ h.1 54 1 = nI J) ∧ (N ≤ 6 ∧ h.1 58 1 = nI N) ∧ (S ≤ 10 ∧ h.1 63 1 = nI S) ∧ OU u h ∧ u.length ≤ 64 ∧ ∀ k, k < 3 → ∃ a e, h.1 71 k = nI a ∧ h.1 72 k = nI e ∧ a ≤ e ∧ e ≤ u.length
theorem rdD.c {J N S : Nat} {u : List (Nat × Nat)} {h m : ck_H} (R : rdD J N S u h m) : rdC J N S u h := by
  obtain ⟨rj, rn, rs, _, rl, _⟩ := R
  refine ⟨⟨rj.1, rj.2.1⟩, ⟨rn.1, rn.2.1⟩, ⟨rs.1, rs.2.1⟩, rl.1, rl.2.1, fun k hk => ?_⟩
  obtain ⟨a, e, b1, b2, _, _, b5, b6, _⟩ := rl.2.2.2.2.2.2 k hk
  exact ⟨a, e, b1, b2, b5, b6⟩
/-- which laws the class has been told -/
def tlC (h : ck_H) (k : Nat) : Bool := decide (h.1 71 k < h.1 72 k)
/-- a good line, up to its last token: a judge's -/
def lgJ (b : Nat → Nat) (n : Nat) (t : Tk) (h : ck_H) (t1 : Tk) (h1 : ck_H) : Prop := ∃ J, t.1 = 20 ∧ J < 4 ∧ h.1 54 1 = nI J ∧ (frun (nxt b n) (lJ (h.1 55) J) t).1 = 0 ∧ (nxt b n (nxt b n t)).2.1 ≤ 99 ∧ (nxt b n (nxt b n (nxt b n t))).2.1 ≤ 9 ∧
  (∀ a, ¬ (54 ≤ a ∧ a ≤ 57) → 53 ≤ a → h1.1 a = h.1 a) ∧ h1.1 54 1 = nI (J + 1) ∧ (∀ j, j < J → h1.1 55 j = h.1 55 j ∧ h1.1 56 j = h.1 56 j ∧ h1.1 57 j = h.1 57 j) ∧ (h1.1 55 J = nI (nxt b n t).2.1 ∧ h1.1 56 J = nI (nxt b n (nxt b n t)).2.1 ∧ h1.1 57 J = nI (nxt b n (nxt b n (nxt b n t))).2.1) ∧
  t1 = nxt b n (nxt b n (nxt b n (nxt b n t)))
def lgN (b : Nat → Nat) (n : Nat) (t : Tk) (h : ck_H) (t1 : Tk) (h1 : ck_H) : Prop := ∃ J, t.1 = 21 ∧ J < 6 ∧ h.1 58 1 = nI J ∧ (frun (nxt b n) (lN' (h.1 59) J) t).1 = 0 ∧ (nxt b n (nxt b n t)).2.1 ≤ 99 ∧ (nxt b n (nxt b n (nxt b n t))).2.1 ≤ 99 ∧
  (∀ a, ¬ (58 ≤ a ∧ a ≤ 62) → 53 ≤ a → h1.1 a = h.1 a) ∧ h1.1 58 1 = nI (J + 1) ∧ (∀ j, j < J → h1.1 59 j = h.1 59 j ∧ h1.1 60 j = h.1 60 j ∧ h1.1 61 j = h.1 61 j ∧ h1.1 62 j = h.1 62 j) ∧ (h1.1 59 J = nI (nxt b n t).2.1 ∧ h1.1 60 J = nI (nxt b n (nxt b n t)).2.1 ∧ h1.1 61 J = nI (nxt b n (nxt b n (nxt b n t))).2.1 ∧ h1.1 62 J = nI (nxt b n (nxt b n (nxt b n (nxt b n t)))).2.1) ∧
  t1 = nxt b n (nxt b n (nxt b n (nxt b n (nxt b n t))))
def lgS (b : Nat → Nat) (n : Nat) (t : Tk) (h : ck_H) (t1 : Tk) (h1 : ck_H) : Prop := ∃ J N S j0 n0, t.1 = 22 ∧ S < 10 ∧ h.1 63 1 = nI S ∧ h.1 54 1 = nI J ∧ h.1 58 1 = nI N ∧ J ≤ 4 ∧ N ≤ 6 ∧ (frun (nxt b n) (lS (h.1 64) (h.1 55) (h.1 59) S J N) t).1 = 0 ∧ j0 < J ∧ n0 < N ∧ fi (h.1 55) (nI (nxt b n (nxt b n t)).2.1) J 0 = nI j0 ∧ fi (h.1 59) (nI (nxt b n (nxt b n (nxt b n t))).2.1) N 0 = nI n0 ∧ (nxt b n (nxt b n (nxt b n (nxt b n t)))).2.1 ≤ 99 ∧
  (∀ a, ¬ (63 ≤ a ∧ a ≤ 67) → 53 ≤ a → h1.1 a = h.1 a) ∧ h1.1 63 1 = nI (S + 1) ∧ (∀ j, j < S → h1.1 64 j = h.1 64 j ∧ h1.1 65 j = h.1 65 j ∧ h1.1 66 j = h.1 66 j ∧ h1.1 67 j = h.1 67 j) ∧ (h1.1 64 S = nI (nxt b n t).2.1 ∧ h1.1 65 S = nI j0 ∧ h1.1 66 S = nI n0 ∧ h1.1 67 S = nI (nxt b n (nxt b n (nxt b n (nxt b n t)))).2.1) ∧
  t1 = nxt b n (nxt b n (nxt b n (nxt b n (nxt b n t))))
def oK (t : Tk) (x lo hi : Nat) : Prop := (t.1 = 36 ∧ x = 3 ∧ lo = 1 ∧ hi = 99) ∨ (t.1 = 23 ∧ x = 4 ∧ lo = 0 ∧ hi = 30) ∨ (t.1 = 24 ∧ x = 5 ∧ lo = 0 ∧ hi = 99999)
def lgO (b : Nat → Nat) (n : Nat) (t : Tk) (h : ck_H) (t1 : Tk) (h1 : ck_H) : Prop := ∃ x lo hi, oK t x lo hi ∧ h.1 53 (11 + x) = 0 ∧ fNum lo hi (nxt b n t) = 0 ∧
  (∀ a, 54 ≤ a → h1.1 a = h.1 a) ∧ h1.1 53 17 = h.1 53 17 ∧ h1.1 53 12 = (if x = 3 then nI (nxt b n t).2.1 else h.1 53 12) ∧ h1.1 53 13 = (if x = 4 then nI (nxt b n t).2.1 else h.1 53 13) ∧ (∀ k, 3 ≤ k → k ≤ 5 → h1.1 53 (11 + k) = if k = x then 1 else h.1 53 (11 + k)) ∧
  t1 = nxt b n (nxt b n t)
def lgL (b : Nat → Nat) (n : Nat) (t : Tk) (h : ck_H) (t1 : Tk) (h1 : ck_H) : Prop := ∃ (u : List (Nat × Nat)) (s' : St), t.1 = 25 ∧ fLaw (tlC h) (nxt b n t) = 0 ∧ 26 ≤ (nxt b n t).1 ∧ (nxt b n t).1 ≤ 28 ∧ OU u h ∧ u.length ≤ 64 ∧ nEnd (nxt b n) (nxt b n (nxt b n t), true, [], 0, u.length, u) 9 s' ∧ s'.2.2.2.1 = 0 ∧ (rl 1 s'.2.2.1 s'.2.2.2.2.2).2.length ≤ 64 ∧
  (∀ a, 53 ≤ a → a ≤ 67 → h1.1 a = h.1 a) ∧ OU (rl 1 s'.2.2.1 s'.2.2.2.2.2).2 h1 ∧ h1.1 71 ((nxt b n t).1 - 26) = nI u.length ∧ h1.1 72 ((nxt b n t).1 - 26) = nI (rl 1 s'.2.2.1 s'.2.2.2.2.2).2.length ∧ (∀ i, i ≠ (nxt b n t).1 - 26 → h1.1 71 i = h.1 71 i ∧ h1.1 72 i = h.1 72 i) ∧
  t1 = s'.1
def LG (b : Nat → Nat) (n : Nat) (t : Tk) (h : ck_H) (t1 : Tk) (h1 : ck_H) : Prop := lgJ b n t h t1 h1 ∨ lgN b n t h t1 h1 ∨ lgS b n t h t1 h1 ∨ lgO b n t h t1 h1 ∨ lgL b n t h t1 h1
/-- a line that fails before its end: how, and where -/
def LB (b : Nat → Nat) (n : Nat) (t : Tk) (h : ck_H) (f : Nat) (tt : Tk) : Prop :=
  (∃ J, t.1 = 20 ∧ J ≤ 4 ∧ h.1 54 1 = nI J ∧ ¬ (frun (nxt b n) (lJ (h.1 55) J) t).1 = 0 ∧ (f, tt) = frun (nxt b n) (lJ (h.1 55) J) t) ∨
  (∃ J, t.1 = 21 ∧ J ≤ 6 ∧ h.1 58 1 = nI J ∧ ¬ (frun (nxt b n) (lN' (h.1 59) J) t).1 = 0 ∧ (f, tt) = frun (nxt b n) (lN' (h.1 59) J) t) ∨
  (∃ S J N, t.1 = 22 ∧ S ≤ 10 ∧ h.1 63 1 = nI S ∧ h.1 54 1 = nI J ∧ h.1 58 1 = nI N ∧ J ≤ 4 ∧ N ≤ 6 ∧ ¬ (frun (nxt b n) (lS (h.1 64) (h.1 55) (h.1 59) S J N) t).1 = 0 ∧ (f, tt) = frun (nxt b n) (lS (h.1 64) (h.1 55) (h.1 59) S J N) t) ∨
  (∃ x lo hi, oK t x lo hi ∧ ¬ (frun (nxt b n) [fDup (¬ h.1 53 (11 + x) = 0), fNum lo hi] t).1 = 0 ∧ (f, tt) = frun (nxt b n) [fDup (¬ h.1 53 (11 + x) = 0), fNum lo hi] t) ∨
  (t.1 = 25 ∧ ¬ fLaw (tlC h) (nxt b n t) = 0 ∧ f = fLaw (tlC h) (nxt b n t) ∧ tt = nxt b n t) ∨
  (∃ (u : List (Nat × Nat)) (s' : St) (c : Nat), t.1 = 25 ∧ fLaw (tlC h) (nxt b n t) = 0 ∧ 26 ≤ (nxt b n t).1 ∧ (nxt b n t).1 ≤ 28 ∧ OU u h ∧ u.length ≤ 64 ∧ nEnd (nxt b n) (nxt b n (nxt b n t), true, [], 0, u.length, u) c s' ∧ (((c = 1 ∨ c = 2) ∧ f = c) ∨ (c = 9 ∧ 0 < s'.2.2.2.1 ∧ f = 1)) ∧ tt = s'.1) ∨
  (¬ (20 ≤ t.1 ∧ t.1 ≤ 25) ∧ ¬ t.1 = 36 ∧ f = 1 ∧ tt = t)
