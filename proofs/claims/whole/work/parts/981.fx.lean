/-! the class's reading of an E -/
theorem rk_br {k c : Nat} {A B : Prop} (hk : k < 1000) (hc : c < 1000) (a : k = c → A) (d : ¬ k = c → B) : (nI k = nI c → A) ∧ (¬ nI k = nI c → B) := ⟨fun z => a ((nI_eq (by omega) (by omega)).mp z), fun z => d (fun y => z (by rw [y]))⟩
theorem tx_rank {k : Nat} {h : ck_H} {Q : Int32 → ck_H → Prop} (hk : k < 39) (q : Q (nI (rk k)) h) : wp_X3_rankOf (nI k) h Q := by
  unfold wp_X3_rankOf
  refine rk_br (c := 7) (by omega) (by omega) (fun e => by subst e; rw [show nI (rk 7) = (5 : Int32) by decide] at q; exact q) (fun n7 => ?_)
  refine rk_br (c := 8) (by omega) (by omega) (fun e => by subst e; rw [show nI (rk 8) = (5 : Int32) by decide] at q; exact q) (fun n8 => ?_)
  refine rk_br (c := 9) (by omega) (by omega) (fun e => by subst e; rw [show nI (rk 9) = (6 : Int32) by decide] at q; exact q) (fun n9 => ?_)
  refine rk_br (c := 10) (by omega) (by omega) (fun e => by subst e; rw [show nI (rk 10) = (6 : Int32) by decide] at q; exact q) (fun n10 => ?_)
  refine rk_br (c := 11) (by omega) (by omega) (fun e => by subst e; rw [show nI (rk 11) = (4 : Int32) by decide] at q; exact q) (fun n11 => ?_)
  refine rk_br (c := 12) (by omega) (by omega) (fun e => by subst e; rw [show nI (rk 12) = (4 : Int32) by decide] at q; exact q) (fun n12 => ?_)
  refine rk_br (c := 13) (by omega) (by omega) (fun e => by subst e; rw [show nI (rk 13) = (4 : Int32) by decide] at q; exact q) (fun n13 => ?_)
  refine rk_br (c := 14) (by omega) (by omega) (fun e => by subst e; rw [show nI (rk 14) = (4 : Int32) by decide] at q; exact q) (fun n14 => ?_)
  refine rk_br (c := 15) (by omega) (by omega) (fun e => by subst e; rw [show nI (rk 15) = (4 : Int32) by decide] at q; exact q) (fun n15 => ?_)
  refine rk_br (c := 16) (by omega) (by omega) (fun e => by subst e; rw [show nI (rk 16) = (4 : Int32) by decide] at q; exact q) (fun n16 => ?_)
  refine rk_br (c := 17) (by omega) (by omega) (fun e => by subst e; rw [show nI (rk 17) = (0 : Int32) by decide] at q; exact q) (fun n17 => ?_)
  refine rk_br (c := 18) (by omega) (by omega) (fun e => by subst e; rw [show nI (rk 18) = (0 : Int32) by decide] at q; exact q) (fun n18 => ?_)
  refine rk_br (c := 19) (by omega) (by omega) (fun e => by subst e; rw [show nI (rk 19) = (0 : Int32) by decide] at q; exact q) (fun n19 => ?_)
  refine rk_br (c := 20) (by omega) (by omega) (fun e => by subst e; rw [show nI (rk 20) = (0 : Int32) by decide] at q; exact q) (fun n20 => ?_)
  refine rk_br (c := 21) (by omega) (by omega) (fun e => by subst e; rw [show nI (rk 21) = (0 : Int32) by decide] at q; exact q) (fun n21 => ?_)
  refine rk_br (c := 22) (by omega) (by omega) (fun e => by subst e; rw [show nI (rk 22) = (0 : Int32) by decide] at q; exact q) (fun n22 => ?_)
  refine rk_br (c := 23) (by omega) (by omega) (fun e => by subst e; rw [show nI (rk 23) = (0 : Int32) by decide] at q; exact q) (fun n23 => ?_)
  refine rk_br (c := 24) (by omega) (by omega) (fun e => by subst e; rw [show nI (rk 24) = (0 : Int32) by decide] at q; exact q) (fun n24 => ?_)
  refine rk_br (c := 25) (by omega) (by omega) (fun e => by subst e; rw [show nI (rk 25) = (0 : Int32) by decide] at q; exact q) (fun n25 => ?_)
  refine rk_br (c := 26) (by omega) (by omega) (fun e => by subst e; rw [show nI (rk 26) = (0 : Int32) by decide] at q; exact q) (fun n26 => ?_)
  refine rk_br (c := 27) (by omega) (by omega) (fun e => by subst e; rw [show nI (rk 27) = (0 : Int32) by decide] at q; exact q) (fun n27 => ?_)
  refine rk_br (c := 28) (by omega) (by omega) (fun e => by subst e; rw [show nI (rk 28) = (0 : Int32) by decide] at q; exact q) (fun n28 => ?_)
  refine rk_br (c := 29) (by omega) (by omega) (fun e => by subst e; rw [show nI (rk 29) = (1 : Int32) by decide] at q; exact q) (fun n29 => ?_)
  refine rk_br (c := 30) (by omega) (by omega) (fun e => by subst e; rw [show nI (rk 30) = (2 : Int32) by decide] at q; exact q) (fun n30 => ?_)
  refine rk_br (c := 31) (by omega) (by omega) (fun e => by subst e; rw [show nI (rk 31) = (3 : Int32) by decide] at q; exact q) (fun n31 => ?_)
  have : rk k = 0 := by
    unfold rk
    rw [if_neg n29, if_neg n30, if_neg n31, if_neg (by omega), if_neg (by omega), if_neg (by omega)]
  rw [this] at q
  exact q
/-- signs that wait, the top one first -/
def SK : List Nat → ck_H → Prop
  | [], _ => True
  | x :: l, h => h.1 6 l.length = nI x ∧ SK l h
theorem SK.of : ∀ {W : List Nat} {h h' : ck_H}, SK W h → (∀ i, i < W.length → h'.1 6 i = h.1 6 i) → SK W h' := by
  intro W
  induction W with
  | nil => intro _ _ _ _; trivial
  | cons x l ih => intro h h' a e; exact ⟨by rw [e l.length (Nat.lt_succ_self _)]; exact a.1, ih a.2 (fun i hi => e i (Nat.lt_succ_of_lt hi))⟩
def OU (u : List (Nat × Nat)) (h : ck_H) : Prop := h.1 68 5 = nI u.length ∧ ∀ i, i < u.length → h.1 69 i = nI (u.getD i (0, 0)).1 ∧ h.1 70 i = nI (u.getD i (0, 0)).2
theorem OU.of {u : List (Nat × Nat)} {h h' : ck_H} (a : OU u h) (e1 : h'.1 68 5 = h.1 68 5) (e2 : h'.1 69 = h.1 69) (e3 : h'.1 70 = h.1 70) : OU u h' := ⟨e1.trans a.1, by rw [e2, e3]; exact a.2⟩
/-- what reading an E leaves as it was -/
def FX (h h' : ck_H) : Prop := (∀ a, a ≠ 3 → a ≠ 5 → a ≠ 6 → a ≠ 68 → a ≠ 69 → a ≠ 70 → h'.1 a = h.1 a) ∧ h'.1 3 2 = h.1 3 2 ∧ (∀ i, i ≠ 5 → h'.1 68 i = h.1 68 i) ∧ h'.2 = h.2
theorem FX.rf (h : ck_H) : FX h h := ⟨fun _ _ _ _ _ _ _ => rfl, rfl, fun _ _ => rfl, rfl⟩
theorem FX.tr {h h1 h2 : ck_H} (a : FX h h1) (c : FX h1 h2) : FX h h2 := ⟨fun x e1 e2 e3 e4 e5 e6 => (c.1 x e1 e2 e3 e4 e5 e6).trans (a.1 x e1 e2 e3 e4 e5 e6), c.2.1.trans a.2.1, fun i hi => (c.2.2.1 i hi).trans (a.2.2.1 i hi), c.2.2.2.trans a.2.2.2⟩
theorem FX.fs {h h' : ck_H} (f : FS h h') : FX h h' := ⟨fun a h3 _ _ _ _ _ => f.1 a h3, f.2.1, fun i _ => by rw [f.1 68 (by decide)], f.2.2⟩
theorem FX.s {h : ck_H} {a : Nat} (i : Nat) (v : Int32) (ha : a = 5 ∨ a = 6 ∨ a = 69 ∨ a = 70) : FX h (ck_sI h a i v) := ⟨fun x e1 e2 e3 e4 e5 e6 => ck_sI_ne _ _ _ (by omega), by rw [ck_sI_ne _ _ _ (by omega)], fun j _ => by rw [ck_sI_ne _ _ _ (by omega)], rfl⟩
theorem FX.s68 {h : ck_H} (v : Int32) : FX h (ck_sI h 68 5 v) := ⟨fun x e1 e2 e3 e4 e5 e6 => ck_sI_ne _ _ _ e4, by rw [ck_sI_ne _ _ _ (by decide)], fun j hj => ck_sI_nj _ _ hj, rfl⟩
theorem FX.lx {b : Nat → Nat} {n : Nat} {h h' : ck_H} (L : LX b n h) (f : FX h h') : LX b n h' := ⟨L.1, by rw [f.2.1]; exact L.2.1, by rw [f.1 1 (by decide) (by decide) (by decide) (by decide) (by decide) (by decide)]; exact L.2.2.1, by rw [f.1 4 (by decide) (by decide) (by decide) (by decide) (by decide) (by decide)]; exact L.2.2.2⟩
def XS (s : St) (h : ck_H) : Prop := CX s.1 h ∧ h.1 5 2 = nI s.2.2.1.length ∧ h.1 5 3 = nI s.2.2.2.1 ∧ h.1 5 4 = nI s.2.2.2.2.1 ∧ h.1 5 5 = (if s.2.1 = true then 1 else 0) ∧ SK s.2.2.1 h ∧ OU s.2.2.2.2.2 h
def fv : List Nat → Nat
  | [] => 0
  | x :: l => (if x = 5 then 1 else 0) + fv l
theorem fv_np (W : List Nat) : fv W + nops W = W.length := by
  induction W with
  | nil => rfl
  | cons x l ih =>
    show (if x = 5 then 1 else 0) + fv l + ((if x = 5 then 0 else 1) + nops l) = l.length + 1
    by_cases c : x = 5
    · rw [if_pos c, if_pos c]; omega
    · rw [if_neg c, if_neg c]; omega
def nIV (n : Nat) (s : St) : Prop := TV n s.1 ∧ (∀ x, x ∈ s.2.2.1 → x = 5 ∨ 0 < rk x) ∧ fv s.2.2.1 = s.2.2.2.1 ∧ s.2.2.2.1 ≤ 8 ∧ s.2.2.2.2.2.length + nops s.2.2.1 = s.2.2.2.2.1 ∧ s.2.2.2.2.1 ≤ 64
theorem rk_lt {k : Nat} (h : 0 < rk k) : k < 39 ∧ ¬ k = 5 ∧ rk k ≤ 6 := by
  have := rk_k h
  refine ⟨by omega, by omega, ?_⟩
  rcases this with rfl | rfl | rfl | rfl | rfl | rfl | rfl | rfl | rfl | rfl | rfl | rfl | rfl <;> decide
theorem tx_kadd {k v : Nat} {u : List (Nat × Nat)} {h : ck_H} {Q : ck_H → Prop} (O : OU u h) (hu : u.length < 64) (q : ∀ h', FX h h' → h'.1 3 = h.1 3 → h'.1 5 = h.1 5 → h'.1 6 = h.1 6 → OU (u ++ [(k, v)]) h' → Q h') : wp_X4_add (nI k) (nI v) h Q := by
  obtain ⟨e5, eu⟩ := O
  unfold wp_X4_add
  have in64 : vp_in (nI u.length) 64 := pu_in (by omega) (by decide)
  refine br_n (by rw [e5]; exact nI_ge (b := 64) (by omega) (by omega)) ⟨by rw [e5]; exact in64, ?_⟩
  rintro _ rfl
  rw [ck_sI_ne _ _ _ (show (68 : Nat) ≠ 69 by decide), e5, nI_clamp (by omega)]
  refine ⟨in64, ?_⟩
  rintro _ rfl
  rw [ck_sI_ne _ _ _ (show (68 : Nat) ≠ 70 by decide), ck_sI_ne _ _ _ (show (68 : Nat) ≠ 69 by decide), e5, nI_1]
  rintro _ rfl
  have g := getD_app (u := u) (x := (k, v))
  refine q _ (((FX.s _ _ (by omega)).tr (FX.s _ _ (by omega))).tr (FX.s68 _)) ?_ ?_ ?_ ⟨?_, fun i hi => ?_⟩
  · rw [ck_sI_ne _ _ _ (by decide), ck_sI_ne _ _ _ (by decide), ck_sI_ne _ _ _ (by decide)]
  · rw [ck_sI_ne _ _ _ (by decide), ck_sI_ne _ _ _ (by decide), ck_sI_ne _ _ _ (by decide)]
  · rw [ck_sI_ne _ _ _ (by decide), ck_sI_ne _ _ _ (by decide), ck_sI_ne _ _ _ (by decide)]
  · rw [ck_sI_at, List.length_append]; rfl
  · rw [List.length_append] at hi
    have hi : i < u.length + 1 := hi
    rw [ck_sI_ne _ _ _ (show (69 : Nat) ≠ 68 by decide), ck_sI_ne _ _ _ (show (69 : Nat) ≠ 70 by decide), ck_sI_ne _ _ _ (show (70 : Nat) ≠ 68 by decide)]
    by_cases ci : i = u.length
    · subst ci
      rw [ck_sI_at, ck_sI_at, g.2]; exact ⟨rfl, rfl⟩
    · rw [ck_sI_nj _ _ ci, ck_sI_nj _ _ ci, ck_sI_ne _ _ _ (show (70 : Nat) ≠ 69 by decide), g.1 i (by omega)]
      exact eu i (by omega)
theorem CX.of {t : Tk} {h h' : ck_H} (c : CX t h) (e : h'.1 3 = h.1 3) : CX t h' := by
  unfold CX
  rw [e]
  exact c
theorem tx_rel {t : Tk} {w : Bool} {op kn lo n : Nat} {Q : ck_H → Prop} (hlo : 1 ≤ lo) (hlo2 : lo < 100) : ∀ (f : Nat) (W : List Nat) (u : List (Nat × Nat)) (h : ck_H), W.length < f → XS (t, w, W, op, kn, u) h → (∀ x, x ∈ W → x = 5 ∨ 0 < rk x) → u.length + nops W ≤ 64 → W.length ≤ 72 → (∀ h', FX h h' → XS (t, w, (rl lo W u).1, op, kn, (rl lo W u).2) h' → Q h') → wp_X3_release_0 Q f (nI lo) h := by
  intro f
  induction f with
  | zero => intro W u h hf; omega
  | succ f ih =>
    intro W u h hf X hx hn h72 q
    obtain ⟨c, e2, e3, e4, e5, sk, ou⟩ := X
    unfold wp_X3_release_0
    cases W with
    | nil => exact br_p (by rw [e2]; exact nI_le (b := 0) (Nat.le_refl _) (by omega)) (q h (FX.rf h) ⟨c, e2, e3, e4, e5, sk, ou⟩)
    | cons x l =>
      have e2 : h.1 5 2 = nI (l.length + 1) := e2
      have h72 : l.length + 1 ≤ 72 := h72
      have hf : l.length + 1 < f + 1 := hf
      have ep : nI (l.length + 1) - 1 = nI l.length := nI_pred _
      refine br_n (by rw [e2]; exact nI_nle (by omega) (by omega)) ?_
      rw [e2, ep, nI_clamp (by omega), sk.1]
      have in72 : vp_in (nI l.length) 72 := pu_in (by omega) (by decide)
      have hx0 := hx x (List.mem_cons_self ..)
      have x39 : x < 39 := by
        rcases hx0 with rfl | h0
        · omega
        · exact (rk_lt h0).1
      refine ⟨in72, tx_rank x39 ?_⟩
      have rx : rk x ≤ 6 := by
        rcases hx0 with rfl | h0
        · decide
        · exact (rk_lt h0).2.2
      have er : rl lo (x :: l) u = if lo ≤ rk x then rl lo l (u ++ [(x, 0)]) else (x :: l, u) := rfl
      by_cases cl : lo ≤ rk x
      · rw [if_pos cl] at er
        rw [er] at q
        refine br_n (nI_nlt cl (by omega)) ?_
        have n5 : ¬ x = 5 := (rk_lt (by omega)).2.1
        have np : nops (x :: l) = 1 + nops l := by show (if x = 5 then 0 else 1) + nops l = _; rw [if_neg n5]
        rw [e2, ep]
        rintro _ rfl
        rw [ck_sI_at, nI_clamp (by omega), ck_sI_ne _ _ _ (show (6 : Nat) ≠ 5 by decide), sk.1]
        refine ⟨in72, tx_kadd (v := 0) (u := u) (ou.of (by rw [ck_sI_ne _ _ _ (by decide)]) (by rw [ck_sI_ne _ _ _ (by decide)]) (by rw [ck_sI_ne _ _ _ (by decide)])) (by omega) (fun h1 f1 a3 a5 a6 o1 => ?_)⟩
        have e35 : h1.1 3 = h.1 3 := by rw [a3, ck_sI_ne _ _ _ (by decide)]
        have e66 : h1.1 6 = h.1 6 := by rw [a6, ck_sI_ne _ _ _ (by decide)]
        refine ih l (u ++ [(x, 0)]) h1 (by omega) ⟨c.of e35, by rw [a5, ck_sI_at], by rw [a5, ck_sI_nj _ _ (by decide)]; exact e3, by rw [a5, ck_sI_nj _ _ (by decide)]; exact e4, by rw [a5, ck_sI_nj _ _ (by decide)]; exact e5, sk.2.of (fun i _ => by rw [e66]), o1⟩ (fun y hy => hx y (List.mem_cons_of_mem _ hy)) (by rw [List.length_append]; show u.length + 1 + nops l ≤ 64; omega) (by omega) (fun h' f' X' => q h' (((FX.s _ _ (by omega)).tr f1).tr f') X')
      · rw [if_neg cl] at er
        rw [er] at q
        exact br_p (nI_lt (by omega) (by omega)) (q h (FX.rf h) ⟨c, e2, e3, e4, e5, sk, ou⟩)
theorem rl_iv {lo : Nat} (hlo : 1 ≤ lo) : ∀ (W : List Nat) (u : List (Nat × Nat)), (∀ x, x ∈ W → x = 5 ∨ 0 < rk x) → (∀ x, x ∈ (rl lo W u).1 → x = 5 ∨ 0 < rk x) ∧ fv (rl lo W u).1 = fv W ∧ (rl lo W u).2.length + nops (rl lo W u).1 = u.length + nops W ∧ ((rl lo W u).1 = [] ∨ ∃ x l, (rl lo W u).1 = x :: l ∧ rk x < lo) := by
  intro W
  induction W with
  | nil => intro u h; exact ⟨h, rfl, rfl, Or.inl rfl⟩
  | cons x l ih =>
    intro u h
    have er : rl lo (x :: l) u = if lo ≤ rk x then rl lo l (u ++ [(x, 0)]) else (x :: l, u) := rfl
    by_cases cl : lo ≤ rk x
    · rw [if_pos cl] at er
      have n5 : ¬ x = 5 := (rk_lt (by omega)).2.1
      have a := ih (u ++ [(x, 0)]) (fun y hy => h y (List.mem_cons_of_mem _ hy))
      rw [er]
      have e1 : fv (x :: l) = 0 + fv l := by show (if x = 5 then 1 else 0) + fv l = _; rw [if_neg n5]
      have e2 : nops (x :: l) = 1 + nops l := by show (if x = 5 then 0 else 1) + nops l = _; rw [if_neg n5]
      have e3 : (u ++ [(x, 0)]).length = u.length + 1 := by rw [List.length_append]; rfl
      exact ⟨a.1, by omega, by omega, a.2.2.2⟩
    · rw [if_neg cl] at er
      rw [er]
      exact ⟨h, rfl, rfl, Or.inr ⟨x, l, rfl, by omega⟩⟩
