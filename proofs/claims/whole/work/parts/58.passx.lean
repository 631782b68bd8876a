/-! the class's pass, told purely -/
theorem frT.rf (o : Nat) (h : ck_H) : frT o h h := ⟨fun _ _ _ _ _ _ => rfl, fun _ _ _ => rfl⟩
theorem frT.tr {o : Nat} {h h1 h2 : ck_H} (a : frT o h h1) (b : frT o h1 h2) : frT o h h2 :=
  ⟨fun x e1 e2 e3 e4 e5 => (b.1 x e1 e2 e3 e4 e5).trans (a.1 x e1 e2 e3 e4 e5), fun i e1 e2 => (b.2 i e1 e2).trans (a.2 i e1 e2)⟩
theorem frT.pl {o : Nat} {h h1 : ck_H} (ho : o = 7 ∨ o = 17) (a : frT o h h1) : pl h1 = pl h := pl_eq (fun x e1 e2 => a.1 x (by omega) (by omega) (by omega) (by omega) (by omega))
theorem frT.md {o : Nat} {h h1 : ck_H} (a : frT o h h1) : mdX h1 = mdX h := by
  unfold mdX
  rw [a.2 6 (by decide) (by decide), a.2 7 (by decide) (by decide), a.2 8 (by decide) (by decide), a.2 9 (by decide) (by decide), a.2 10 (by decide) (by decide), a.2 5 (by decide) (by decide)]
theorem frT.okL {o : Nat} {h h1 : ck_H} (ho : o = 7 ∨ o = 17) (a : frT o h h1) (hL : sp_OkL h) : sp_OkL h1 := by
  intro k hk
  rw [a.1 48 (by omega) (by omega) (by omega) (by omega) (by omega), a.1 50 (by omega) (by omega) (by omega) (by omega) (by omega), a.1 51 (by omega) (by omega) (by omega) (by omega) (by omega)]
  exact hL k hk
theorem T_out_sd (p md s j n hd sd) (a : Nat → Int32) (b : Nat → Int32) (c : Nat → Int32) (d : Nat → Int32) (e : Nat → Int32) (f : Nat → Int32) (x y : Int64) : T_out p md (a, b, c, d, e, f, x) s j n hd sd = T_out p md (a, b, c, d, e, f, y) s j n hd sd := rfl
set_option maxHeartbeats 2000000 in
theorem tx_try {Q : ck_H → Prop} {o s j n : Nat} {h : ck_H} (ho : o = 7 ∨ o = 17) (hs : s < 10) (hj : j < 4) (hn : n < 6) (ej : h.1 (o + 2) s = nI j) (en : h.1 45 s = nI n) (hL : sp_OkL h)
    (hq : ∀ h', Tv h' o = T_try (pl h) (mdX h) (Tv h o) s → frT o h h' → Q h') : wp_X10_tryOne o (nI s) h Q := by
  have es : (nI s).toNatClampNeg = s := nI_clamp (by omega)
  have e1 : (Tv h o).2.2.1 s = nI j := ej
  have e2 : pl h 13 s = nI n := en
  unfold T_try at hq
  rw [e1, e2, nI_clamp (n := j) (by omega), nI_clamp (n := n) (by omega)] at hq
  unfold wp_X10_tryOne
  rw [es, ej]
  refine ⟨pu_in hs (by decide), ?_⟩
  rintro _ rfl
  refine tx_hard hs hn en ?_
  refine ⟨fun c => ?_, fun c => ?_⟩
  · have c' : ¬ (mdX h).2.2.2.2.1 = true := by show ¬ decide (¬ h.1 74 10 = 0) = true; simp [c]
    refine tx_31 ho hs hj hn en hL (fun h' e f => hq h' ?_ f)
    rw [e]
    unfold T_hd T_draw
    rw [if_neg c', if_neg c']
    rfl
  · have c' : (mdX h).2.2.2.2.1 = true := by show decide (¬ h.1 74 10 = 0) = true; simp [c]
    unfold wp_X10_drawn
    unfold T_hd T_draw at hq
    rw [if_pos c', if_pos c'] at hq
    change ∀ h', Tv h' o = T_out (pl h) (mdX h) (Tv h o) s j n (T_hard (pl h) (mdX h) (Tv h o) s + ck_rem (((h.2 74 11 * 1103515245 + 12345) &&& 2147483647) / 65536).toInt32 10) ((h.2 74 11 * 1103515245 + 12345) &&& 2147483647) → frT o h h' → Q h' at hq
    generalize (h.2 74 11 * 1103515245 + 12345) &&& 2147483647 = v at hq ⊢
    rintro _ rfl
    rw [ck_sL_at, pk_uLs]
    refine tx_31 (H := ck_sL h 74 11 v) ho hs hj hn en hL (fun h' e f => hq h' ?_ ⟨fun a => f.1 a, fun i => f.2 i⟩)
    rw [e, ck_sL_at, pk_uLs]
    exact T_out_sd ..
abbrev T_due (md : Md) (t : Tt) (s : Nat) : Prop := t.2.2.2.1 s = t.1 5 ∧ t.2.2.2.2.1 s = -1 ∧ ¬ t.2.2.1 s = md.2.2.2.1
def T_one (p : Nat → Nat → Int32) (md : Md) (t : Tt) (s : Nat) : Tt := if T_due md t s then T_try p md t s else t
def T_from (p : Nat → Nat → Int32) (md : Md) : Nat → Nat → Tt → Tt
  | 0, _, t => t
  | k + 1, s, t => T_from p md k (s + 1) (T_one p md t s)
def T_clr (t : Tt) : Tt := (t.1, t.2.1, t.2.2.1, t.2.2.2.1, t.2.2.2.2.1, fun j => if j < 4 then 0 else t.2.2.2.2.2.1 j, t.2.2.2.2.2.2)
def T_mov (p : Nat → Nat → Int32) (md : Md) (t : Tt) (d : Int32) : Tt :=
  if ¬ p 0 13 ≤ 0 ∧ ¬ d / p 0 13 ≤ t.1 5 / p 0 13 then (upd (upd t.1 6 md.2.2.2.2.2) 5 d, va_cpy (p 4) t.2.1 0 0 4, t.2.2.1, t.2.2.2.1, t.2.2.2.2.1, t.2.2.2.2.2.1, t.2.2.2.2.2.2)
  else (upd t.1 5 d, t.2.1, t.2.2.1, t.2.2.2.1, t.2.2.2.2.1, t.2.2.2.2.2.1, t.2.2.2.2.2.2)
def T_nx (md : Md) (t : Tt) : Nat → Nat → Int32 → Int32
  | 0, _, x => x
  | k + 1, s, x => T_nx md t k (s + 1) (if ¬ t.2.2.2.1 s < t.1 5 ∧ ¬ x ≤ t.2.2.2.1 s ∧ t.2.2.2.2.1 s = -1 ∧ ¬ t.2.2.1 s = md.2.2.2.1 then t.2.2.2.1 s else x)
def T_leap (p : Nat → Nat → Int32) (md : Md) (S : Nat) : Nat → Int32 → Tt → Tt
  | 0, _, t => t
  | k + 1, e, t => if e ≤ t.1 5 then t else
    if e ≤ (T_mov p md t (T_nx md t S 0 e)).1 5 then T_leap p md S k e (T_mov p md t (T_nx md t S 0 e))
    else T_leap p md S k e (T_mov p md (T_from p md S 0 (T_clr (T_mov p md t (T_nx md t S 0 e)))) ((T_from p md S 0 (T_clr (T_mov p md t (T_nx md t S 0 e)))).1 5 + 1))
theorem T_out_5 (p md t s j n hd sd) : (T_out p md t s j n hd sd).1 5 = t.1 5 ∧ (T_out p md t s j n hd sd).1 4 = t.1 4 ∧ (T_out p md t s j n hd sd).2.2.1 = t.2.2.1 ∧ (T_out p md t s j n hd sd).2.2.2.1 = t.2.2.2.1 := by
  unfold T_out
  split
  · split <;> exact ⟨by simp [upd], by simp [upd], rfl, rfl⟩
  · split <;> exact ⟨by simp [upd], by simp [upd], rfl, rfl⟩
theorem T_one_5 (p md t s) : (T_one p md t s).1 5 = t.1 5 ∧ (T_one p md t s).1 4 = t.1 4 ∧ (T_one p md t s).2.2.1 = t.2.2.1 ∧ (T_one p md t s).2.2.2.1 = t.2.2.2.1 := by
  unfold T_one
  split
  · exact T_out_5 ..
  · exact ⟨rfl, rfl, rfl, rfl⟩
theorem T_from_5 (p md) : ∀ k s t, (T_from p md k s t).1 5 = t.1 5 ∧ (T_from p md k s t).1 4 = t.1 4 ∧ (T_from p md k s t).2.2.1 = t.2.2.1 ∧ (T_from p md k s t).2.2.2.1 = t.2.2.2.1 := by
  intro k
  induction k with
  | zero => exact fun s t => ⟨rfl, rfl, rfl, rfl⟩
  | succ k ih =>
    intro s t
    have a := ih (s + 1) (T_one p md t s)
    have b := T_one_5 p md t s
    exact ⟨a.1.trans b.1, a.2.1.trans b.2.1, a.2.2.1.trans b.2.2.1, a.2.2.2.trans b.2.2.2⟩
/-- what a trial needs of the class's heap -/
def OkT (h : ck_H) (o S : Nat) : Prop := S ≤ 10 ∧ h.1 42 1 = nI S ∧ sp_OkL h ∧ ∀ s, s < S → (∃ j, j < 4 ∧ h.1 (o + 2) s = nI j) ∧ ∃ n, n < 6 ∧ h.1 45 s = nI n
theorem OkT.fr {h h' : ck_H} {o S : Nat} (ho : o = 7 ∨ o = 17) (H : OkT h o S) (f : frT o h h') : OkT h' o S := by
  refine ⟨H.1, ?_, f.okL ho H.2.2.1, fun s hs => ?_⟩
  · rw [f.1 42 (by omega) (by omega) (by omega) (by omega) (by omega)]; exact H.2.1
  · rw [f.1 (o + 2) (by omega) (by omega) (by omega) (by omega) (by omega), f.1 45 (by omega) (by omega) (by omega) (by omega) (by omega)]
    exact H.2.2.2 s hs
theorem tx_isOpen {Q : Int32 → ck_H → Prop} {o s : Nat} {h : ck_H} (hs : s < 10) (h1 : (h.1 (o + 4) s = -1 ∧ ¬ h.1 (o + 2) s = h.1 74 9) → Q 1 h) (h0 : ¬ (h.1 (o + 4) s = -1 ∧ ¬ h.1 (o + 2) s = h.1 74 9) → Q 0 h) : wp_X10_isOpen o (nI s) h Q := by
  unfold wp_X10_isOpen
  rw [nI_clamp (n := s) (by omega)]
  exact ⟨pu_in hs (by decide), fun c => h0 (fun z => c z.1), fun c => ⟨pu_in hs (by decide), fun c2 => h0 (fun z => z.2 c2), fun c2 => h1 ⟨c, c2⟩⟩⟩
theorem tx_from {Q : ck_H → Prop} {K : Int32 → Int32 → ck_H → Prop} {o S : Nat} {x3 x4 : Int32} (ho : o = 7 ∨ o = 17) : ∀ (k s f : Nat) (h : ck_H), k < f → s + k = S → OkT h o S →
    (∀ h', Tv h' o = T_from (pl h) (mdX h) k s (Tv h o) → frT o h h' → K x3 x4 h') → wp_X10_pass_51 Q o K f x3 x4 (nI s) h := by
  intro k
  induction k with
  | zero =>
    intro s f h hf hs hk hq
    obtain ⟨f, rfl⟩ : ∃ g, f = g + 1 := ⟨f - 1, by omega⟩
    unfold wp_X10_pass_51
    refine pk_le S s (fun _ => hq h rfl (frT.rf o h)) (fun z => by omega) hk.2.1 rfl (by have := hk.1; omega) (by have := hk.1; omega)
  | succ k ih =>
    intro s f h hf hs hk hq
    obtain ⟨f, rfl⟩ : ∃ g, f = g + 1 := ⟨f - 1, by omega⟩
    unfold wp_X10_pass_51
    have h10 := hk.1
    refine pk_le S s (fun z => by omega) (fun z => ?_) hk.2.1 rfl (by omega) (by omega)
    rw [nI_clamp (n := s) (by omega)]
    have hgo : ∀ h', Tv h' o = T_one (pl h) (mdX h) (Tv h o) s → frT o h h' → wp_X10_pass_97 Q o K (wp_X10_pass_51 Q o K f) x3 x4 (nI s) h' := by
      intro h' e fr
      unfold wp_X10_pass_97
      rintro _ rfl
      rw [nI_1]
      refine ih (s + 1) f h' (by omega) (by omega) (hk.fr ho fr) (fun h2 e2 f2 => hq h2 ?_ (fr.tr f2))
      rw [e2, fr.pl ho, fr.md, e]
      rfl
    have hno : ¬ T_due (mdX h) (Tv h o) s → wp_X10_pass_97 Q o K (wp_X10_pass_51 Q o K f) x3 x4 (nI s) h := fun c => hgo h (by unfold T_one; rw [if_neg c]) (frT.rf o h)
    refine ⟨pu_in (by omega) (by decide), fun c => hno (fun z => c z.1), fun c => tx_isOpen (by omega) (fun c2 => ⟨fun z => absurd z (by decide), fun _ => ?_⟩) (fun c2 => ⟨fun _ => hno (fun z => c2 z.2), fun z => absurd rfl z⟩)⟩
    obtain ⟨⟨j, hj, ej⟩, n, hn, en⟩ := hk.2.2.2 s (by omega)
    refine tx_try ho (by omega) hj hn ej en hk.2.2.1 (fun h' e fr => hgo h' ?_ fr)
    unfold T_one
    rw [if_pos ⟨c, c2⟩]
    exact e
theorem tx_clear_2 {Q : ck_H → Prop} : ∀ (k i f : Nat) (h : ck_H), k < f → i + k = 4 → (∀ h', (∀ a, a ≠ 76 → h'.1 a = h.1 a) → (∀ j, h'.1 76 j = if i ≤ j ∧ j < 4 then 0 else h.1 76 j) → h'.2 = h.2 → Q h') → wp_X10_clearLoad_2 Q f (nI i) h := by
  intro k
  induction k with
  | zero =>
    intro i f h hf hs hq
    obtain ⟨f, rfl⟩ : ∃ g, f = g + 1 := ⟨f - 1, by omega⟩
    unfold wp_X10_clearLoad_2
    refine pk_le 4 i (fun _ => hq h (fun _ _ => rfl) (fun j => by rw [if_neg (by omega)]) rfl) (fun z => by omega)
  | succ k ih =>
    intro i f h hf hs hq
    obtain ⟨f, rfl⟩ : ∃ g, f = g + 1 := ⟨f - 1, by omega⟩
    unfold wp_X10_clearLoad_2
    refine pk_le 4 i (fun z => by omega) (fun z => ⟨pu_in (by omega) (by decide), ?_⟩)
    rintro _ rfl _ rfl
    rw [nI_1, nI_clamp (n := i) (by omega)]
    refine ih (i + 1) f _ (by omega) (by omega) (fun h' e1 e2 e3 => hq h' (fun a ha => ?_) (fun j => ?_) (e3.trans (ck_sI_2 ..)))
    · rw [e1 a ha, ck_sI_ne _ _ _ ha]
    · rw [e2 j]
      by_cases c : j = i
      · subst c; rw [if_neg (by omega), if_pos (by omega), ck_sI_at]
      · rw [ck_sI_nj _ _ c]
        by_cases c2 : i + 1 ≤ j ∧ j < 4
        · rw [if_pos c2, if_pos (by omega)]
        · rw [if_neg c2, if_neg (by omega)]
theorem tx_clear {Q : ck_H → Prop} {h : ck_H} (hq : ∀ h', (∀ a, a ≠ 76 → h'.1 a = h.1 a) → (h'.1 76 = fun j => if j < 4 then 0 else h.1 76 j) → h'.2 = h.2 → Q h') : wp_X10_clearLoad h Q :=
  tx_clear_2 4 0 lpN h (by decide) rfl (fun h' e1 e2 e3 => hq h' e1 (by funext j; rw [e2 j]; simp) e3)
theorem tx_mov {Q : ck_H → Prop} {o : Nat} {d : Int32} {h : ck_H} (ho : o = 7 ∨ o = 17) (hq : ∀ h', Tv h' o = T_mov (pl h) (mdX h) (Tv h o) d → frT o h h' → Q h') : wp_X10_moveTo o d h Q := by
  unfold wp_X10_moveTo
  have e13 : pl h 0 13 = h.1 32 13 := rfl
  have hno : ¬ (¬ pl h 0 13 ≤ 0 ∧ ¬ d / pl h 0 13 ≤ (Tv h o).1 5 / pl h 0 13) → wp_X10_moveTo_59 Q o d h := by
    intro c
    unfold wp_X10_moveTo_59
    rintro _ rfl
    refine hq _ ?_ ⟨fun a a1 a2 a3 a4 a5 => ck_sI_ne _ _ _ a1, fun i _ _ => by rw [ck_sI_ne _ _ _ (by omega)]⟩
    unfold T_mov
    rw [if_neg c]
    rcases ho with rfl | rfl <;> simp [Tv, ck_sI]
  refine ⟨fun c => hno (fun z => z.1 c), fun c => ?_⟩
  have c0 : ¬ h.1 32 13 = 0 := fun z => c (by rw [z]; decide)
  refine ⟨c0, c0, fun c2 => hno (fun z => z.2 c2), fun c2 => ?_⟩
  rintro _ rfl _ rfl
  unfold wp_X10_moveTo_59
  rintro _ rfl
  refine hq _ ?_ ⟨fun a a1 a2 a3 a4 a5 => ?_, fun i _ _ => ?_⟩
  · unfold T_mov
    rw [if_pos ⟨c, c2⟩]
    rcases ho with rfl | rfl <;> (simp [Tv, ck_sI, ck_sR, mdX]; rfl)
  · rw [ck_sI_ne _ _ _ a1]; simp [ck_sR, a2]; exact ck_sI_ne _ _ _ a1
  · rcases ho with rfl | rfl <;> simp [ck_sI, ck_sR]
theorem tx_nx {Q : Int32 → ck_H → Prop} {o S : Nat} {h : ck_H} (ho : o = 7 ∨ o = 17) (hS : S ≤ 10) (eS : h.1 42 1 = nI S) : ∀ (k s f : Nat) (x : Int32), k < f → s + k = S → Q (T_nx (mdX h) (Tv h o) k s x) h → wp_X10_nextDayWithSuits_5 Q o f x (nI s) h := by
  intro k
  induction k with
  | zero =>
    intro s f x hf hs hq
    obtain ⟨f, rfl⟩ : ∃ g, f = g + 1 := ⟨f - 1, by omega⟩
    unfold wp_X10_nextDayWithSuits_5
    exact pk_le S s (fun _ => hq) (fun z => by omega) eS rfl (by omega) (by omega)
  | succ k ih =>
    intro s f x hf hs hq
    obtain ⟨f, rfl⟩ : ∃ g, f = g + 1 := ⟨f - 1, by omega⟩
    unfold wp_X10_nextDayWithSuits_5
    refine pk_le S s (fun z => by omega) (fun z => ⟨pu_in (by omega) (by decide), ?_⟩) eS rfl (by omega) (by omega)
    rw [nI_clamp (n := s) (by omega)]
    rintro _ rfl
    unfold T_nx at hq
    have e57 : ∀ y, Q (T_nx (mdX h) (Tv h o) k (s + 1) y) h → wp_X10_nextDayWithSuits_57 Q o (wp_X10_nextDayWithSuits_5 Q o f) y (nI s) h := by
      intro y hy
      unfold wp_X10_nextDayWithSuits_57
      rintro _ rfl
      rw [nI_1]
      exact ih (s + 1) f y (by omega) (by omega) hy
    have hno : ¬ (¬ (Tv h o).2.2.2.1 s < (Tv h o).1 5 ∧ ¬ x ≤ (Tv h o).2.2.2.1 s ∧ (Tv h o).2.2.2.2.1 s = -1 ∧ ¬ (Tv h o).2.2.1 s = (mdX h).2.2.2.1) → wp_X10_nextDayWithSuits_57 Q o (wp_X10_nextDayWithSuits_5 Q o f) x (nI s) h := by
      intro c
      rw [if_neg c] at hq
      exact e57 _ hq
    refine ⟨fun c => hno (fun z => z.1 c), fun c => ⟨fun c2 => hno (fun z => z.2.1 c2), fun c2 => tx_isOpen (by omega) (fun c3 => ⟨fun z => absurd z (by decide), fun _ => ?_⟩) (fun c3 => ⟨fun _ => hno (fun z => c3 z.2.2), fun z => absurd rfl z⟩)⟩⟩
    have cc : (¬ (Tv h o).2.2.2.1 s < (Tv h o).1 5 ∧ ¬ x ≤ (Tv h o).2.2.2.1 s ∧ (Tv h o).2.2.2.2.1 s = -1 ∧ ¬ (Tv h o).2.2.1 s = (mdX h).2.2.2.1) := ⟨c, c2, c3⟩
    rw [if_pos cc] at hq
    exact e57 _ hq
theorem tx_leap {Q : ck_H → Prop} {o S : Nat} {e : Int32} (ho : o = 7 ∨ o = 17) : ∀ (k i f : Nat) (h : ck_H), k < f → i + k = 11 → OkT h o S → (∀ h', Tv h' o = T_leap (pl h) (mdX h) S k e (Tv h o) → frT o h h' → Q h') → wp_X10_pass_10 Q o f e (nI i) h := by
  intro k
  induction k with
  | zero =>
    intro i f h hf hs hk hq
    obtain ⟨f, rfl⟩ : ∃ g, f = g + 1 := ⟨f - 1, by omega⟩
    unfold wp_X10_pass_10
    exact pk_lt 10 i (fun _ => hq h rfl (frT.rf o h)) (fun z => by omega)
  | succ k ih =>
    intro i f h hf hs hk hq
    obtain ⟨f, rfl⟩ : ∃ g, f = g + 1 := ⟨f - 1, by omega⟩
    unfold wp_X10_pass_10
    have h10 := hk.1
    refine pk_lt 10 i (fun z => by omega) (fun z => ⟨fun c => hq h (by unfold T_leap; rw [if_pos (show e ≤ (Tv h o).1 5 from c)]) (frT.rf o h), fun c => ?_⟩)
    unfold T_leap at hq
    rw [if_neg (show ¬ e ≤ (Tv h o).1 5 from c)] at hq
    refine tx_nx ho hk.1 hk.2.1 S 0 lpN e (by unfold lpN; omega) (by omega) ?_
    refine tx_mov ho (fun h1 e1 f1 => ?_)
    rw [← e1] at hq
    refine ⟨fun c2 => ?_, fun c2 => ?_⟩
    · rw [if_pos (show e ≤ (Tv h1 o).1 5 from c2)] at hq
      unfold wp_X10_pass_114
      rintro _ rfl
      rw [nI_1]
      refine ih (i + 1) f h1 (by omega) (by omega) (hk.fr ho f1) (fun h' e2 f2 => hq h' ?_ (f1.tr f2))
      rw [e2, f1.pl ho, f1.md]
    · rw [if_neg (show ¬ e ≤ (Tv h1 o).1 5 from c2)] at hq
      refine tx_clear (fun h2 g1 g2 g3 => ?_)
      have ec : Tv h2 o = T_clr (Tv h1 o) := by
        unfold Tv T_clr
        rw [g1 o (by omega), g1 (o + 1) (by omega), g1 (o + 2) (by omega), g1 (o + 3) (by omega), g1 (o + 4) (by omega), g2, g3]
      have f2 : frT o h1 h2 := ⟨fun a _ _ _ _ a5 => g1 a a5, fun i _ _ => by rw [g1 74 (by decide)]⟩
      have f12 := f1.tr f2
      rw [← ec] at hq
      refine tx_from ho S 0 lpN h2 (by unfold lpN; omega) (by omega) (hk.fr ho f12) (fun h3 e3 f3 => ?_)
      rw [f12.pl ho, f12.md] at e3
      rw [← e3] at hq
      have f13 := f12.tr f3
      refine tx_mov ho (fun h4 e4 f4 => ?_)
      rw [f13.pl ho, f13.md] at e4
      have e4' : Tv h4 o = T_mov (pl h) (mdX h) (Tv h3 o) ((Tv h3 o).1 5 + 1) := e4
      rw [← e4'] at hq
      unfold wp_X10_pass_114
      rintro _ rfl
      rw [nI_1]
      have f14 := f13.tr f4
      refine ih (i + 1) f h4 (by omega) (by omega) (hk.fr ho f14) (fun h' e5 f5 => hq h' ?_ (f14.tr f5))
      rw [e5, f14.pl ho, f14.md]
theorem tx_pass {Q : ck_H → Prop} {o S : Nat} {n : Int32} {h : ck_H} (ho : o = 7 ∨ o = 17) (hk : OkT h o S) (hq : ∀ h', Tv h' o = T_leap (pl h) (mdX h) S 11 (h.1 o 5 + n) (Tv h o) → frT o h h' → Q h') : wp_X10_pass o n h Q := by
  unfold wp_X10_pass
  rintro _ rfl
  exact tx_leap ho 11 0 lpN h (by decide) rfl hk hq
