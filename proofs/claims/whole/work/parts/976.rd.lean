/-! the model's reading of an E -/
def nxt (b : Nat → Nat) (n : Nat) (t : Tk) : Tk := tk_A b n t.2.2.2
def TV (n : Nat) (t : Tk) : Prop := t.2.2.2 ≤ n ∧ t.2.2.1 ≤ n ∧ t.1 < 39 ∧ t.2.1 < 2 ^ 31 ∧ ¬ (17 ≤ t.1 ∧ t.1 ≤ 19)
theorem tk_A_k {b : Nat → Nat} {n a : Nat} : ¬ (17 ≤ (tk_A b n a).1 ∧ (tk_A b n a).1 ≤ 19) := by
  unfold tk_A tk_at
  generalize tk_ws b n (n - a) a = p
  split
  · show ¬ (17 ≤ 0 ∧ 0 ≤ 19); omega
  · split
    · split
      · show ¬ (17 ≤ 1 ∧ 1 ≤ 19); omega
      · show ¬ (17 ≤ tk_wd _ 19 0 3 ∧ tk_wd _ 19 0 3 ≤ 19)
        rcases tk_wd_sp (v := tk_lt b p (tk_we b (n - p) p - p)) 19 0 3 (by omega) with ⟨i, h1, h2, h3, h4⟩ | ⟨h1, h2⟩
        · omega
        · omega
    · split
      · show ¬ (17 ≤ 2 ∧ 2 ≤ 19); omega
      · have := (tk_sg_lt (b p) (if p + 1 < n then b (p + 1) else 0)).1
        show ¬ (17 ≤ tk_sg _ _ ∧ tk_sg _ _ ≤ 19)
        omega
theorem TV.nx {b : Nat → Nat} {n : Nat} {t : Tk} (hn : n ≤ 700) (hb : ∀ i, i < n → b i < 256) (h : t.2.2.2 ≤ n) : TV n (nxt b n t) := by
  have a := tk_A_le (b := b) hb h
  exact ⟨a.2.2.2.1, a.2.1, a.2.2.2.2.1, by have := a.2.2.2.2.2.2; unfold nxt; omega, tk_A_k⟩
def vlc (k : Nat) : Nat := if k = 29 then 262 else if k = 30 then 261 else if k = 31 then 260 else tk_cod k
theorem rk_k {k : Nat} (h : 0 < rk k) : k = 31 ∨ k = 7 ∨ k = 8 ∨ k = 9 ∨ k = 10 ∨ k = 11 ∨ k = 12 ∨ k = 13 ∨ k = 14 ∨ k = 15 ∨ k = 16 ∨ k = 29 ∨ k = 30 := by
  unfold rk at h
  by_cases c : (k = 31 ∨ k = 29 ∨ k = 30) ∨ (7 ≤ k ∧ k ≤ 16)
  · omega
  · rw [if_neg (by omega), if_neg (by omega), if_neg (by omega), if_neg (by omega), if_neg (by omega), if_neg (by omega)] at h
    omega
theorem vlc_kr {k : Nat} (h : 0 < rk k) : ev_kr (nI k) 0 2 (nI (vlc k)) := by
  rcases rk_k h with rfl | h
  · exact Or.inr (Or.inl ⟨by decide, rfl, by decide⟩)
  · refine Or.inr (Or.inr (Or.inl ⟨rfl, ?_⟩))
    rcases h with rfl | rfl | rfl | rfl | rfl | rfl | rfl | rfl | rfl | rfl | rfl | rfl <;> (repeat (first | exact ⟨by decide, by decide⟩ | exact Or.inl ⟨by decide, by decide⟩ | refine Or.inr ?_))
theorem wd_tab1 : ∀ k, k < 39 → ∀ q, q < 39 → (q < 20 ∨ (17 ≤ k ∧ k ≤ 19) ∨ ¬ (tk_srt k = 0 ∧ tk_cod k = tk_cod q) ∨ k = q) ∧ (q < 20 ∨ (tk_srt q = 0)) := by decide +kernel
theorem wd_tab (k : Nat) (hk : k < 39) (q : Nat) (hq : q < 39) (h1 : 20 ≤ q) (h2 : ¬ (17 ≤ k ∧ k ≤ 19)) : (tk_srt k = 0 ∧ tk_cod k = tk_cod q) ↔ k = q := by
  have a := wd_tab1 k hk q hq
  refine ⟨fun z => ?_, fun z => ?_⟩
  · rcases a.1 with y | y | y | y
    · omega
    · exact absurd y h2
    · exact absurd z y
    · exact y
  · subst z
    exact ⟨by omega, rfl⟩
theorem sn_tab : ∀ k, k < 39 → ∀ q, q < 17 → 4 ≤ q → ((tk_srt k = 3 ∧ tk_cod k = tk_cod q) ↔ k = q) := by decide +kernel
theorem srt_lt : ∀ k, k < 39 → tk_srt k < 6 ∧ tk_cod k < 300 ∧ ((tk_srt k = 0 ∨ tk_srt k = 3) → ¬ (17 ≤ k ∧ k ≤ 19) → 4 ≤ k) := by decide +kernel
def SM (t : Tk) (op kn : Nat) (u : List (Nat × Nat)) (m : ck_H) : Prop := CM' t m ∧ m.1 0 26 = 0 ∧ m.1 0 30 = nI op ∧ m.1 0 31 = nI kn ∧ m.1 2 13 = nI u.length ∧ ∀ i, i < u.length → ev_kr (nI (u.getD i (0, 0)).1) (nI (u.getD i (0, 0)).2) (m.1 16 (64 + i)) (m.1 17 (64 + i))
/-- a fault stays; where there is none, the place told stays -/
def Zk (m m' : ck_H) : Prop := m'.1 0 26 = 0 → m.1 0 26 = 0 ∧ m'.1 0 27 = m.1 0 27
theorem Zk.rf (m : ck_H) : Zk m m := fun h => ⟨h, rfl⟩
theorem Zk.tr {m m1 m2 : ck_H} (a : Zk m m1) (c : Zk m1 m2) : Zk m m2 := fun h => ⟨(a (c h).1).1, (c h).2.trans (a (c h).1).2⟩
theorem Zk.e {m m' : ck_H} (h1 : m'.1 0 26 = m.1 0 26) (h2 : m'.1 0 27 = m.1 0 27) : Zk m m' := fun h => ⟨h1.symm.trans h, h2⟩
theorem Zk.w {m m' : ck_H} (h : ¬ m'.1 0 26 = 0) : Zk m m' := fun z => absurd z h
/-- what reading an E leaves as it was -/
def FM (m m' : ck_H) : Prop := (∀ a, a ≠ 0 → a ≠ 2 → a ≠ 16 → a ≠ 17 → m'.1 a = m.1 a) ∧ (∀ i, i ≠ 13 → m'.1 2 i = m.1 2 i) ∧ (∀ i, i < 64 → m'.1 16 i = m.1 16 i ∧ m'.1 17 i = m.1 17 i) ∧ (∀ i, (i < 22 ∨ 27 < i) → i ≠ 30 → i ≠ 31 → m'.1 0 i = m.1 0 i) ∧ Zk m m'
theorem FM.rf (m : ck_H) : FM m m := ⟨fun _ _ _ _ _ => rfl, fun _ _ => rfl, fun _ _ => ⟨rfl, rfl⟩, fun _ _ _ _ => rfl, Zk.rf m⟩
theorem FM.tr {m m1 m2 : ck_H} (a : FM m m1) (c : FM m1 m2) : FM m m2 := ⟨fun x e1 e2 e3 e4 => (c.1 x e1 e2 e3 e4).trans (a.1 x e1 e2 e3 e4), fun i h => (c.2.1 i h).trans (a.2.1 i h), fun i h => ⟨(c.2.2.1 i h).1.trans (a.2.2.1 i h).1, (c.2.2.1 i h).2.trans (a.2.2.1 i h).2⟩, fun i h1 h2 h3 => (c.2.2.2.1 i h1 h2 h3).trans (a.2.2.2.1 i h1 h2 h3), a.2.2.2.2.tr c.2.2.2.2⟩
theorem FM.of {m m' : ck_H} (f : FT m m') : FM m m' := ⟨fun a h0 _ _ _ => f.1 a h0, fun i _ => by rw [f.1 2 (by decide)], fun i _ => by rw [f.1 16 (by decide), f.1 17 (by decide)]; exact ⟨rfl, rfl⟩, fun i h1 _ _ => f.2 i (by omega), Zk.e (f.2 26 (by omega)) (f.2 27 (by omega))⟩
theorem FM.s0 (m : ck_H) {i : Nat} (v : Int32) (h : (22 ≤ i ∧ i ≤ 25) ∨ i = 30 ∨ i = 31) : FM m (ck_sI m 0 i v) := ⟨fun a h0 _ _ _ => ck_sI_ne _ _ _ h0, fun j _ => by rw [ck_sI_ne _ _ _ (by decide)], fun j _ => by rw [ck_sI_ne _ _ _ (by decide), ck_sI_ne _ _ _ (by decide)]; exact ⟨rfl, rfl⟩, fun j h1 h2 h3 => ck_sI_nj _ _ (by omega), Zk.e (ck_sI_nj _ _ (by omega)) (ck_sI_nj _ _ (by omega))⟩
theorem FM.wr (m : ck_H) {v w : Int32} (hv : ¬ v = 0) : FM m (ck_sI (ck_sI m 0 26 v) 0 27 w) := ⟨fun a h0 _ _ _ => (ck_sI_ne _ _ _ h0).trans (ck_sI_ne _ _ _ h0), fun j _ => by rw [ck_sI_ne _ _ _ (by decide), ck_sI_ne _ _ _ (by decide)], fun j _ => by rw [ck_sI_ne _ _ _ (by decide), ck_sI_ne _ _ _ (by decide), ck_sI_ne _ _ _ (by decide), ck_sI_ne _ _ _ (by decide)]; exact ⟨rfl, rfl⟩, fun j h1 h2 h3 => (ck_sI_nj _ _ (by omega)).trans (ck_sI_nj _ _ (by omega)), Zk.w (by rw [ck_sI_nj _ _ (by decide), ck_sI_at]; exact hv)⟩
theorem FM.ly {b : Nat → Nat} {n : Nat} {m m' : ck_H} (L : LY b n m) (f : FM m m') : LY b n m' := ⟨L.1, ⟨by rw [f.2.2.2.1 21 (by omega) (by omega) (by omega)]; exact L.2.1.1, fun z => (f.2.2.2.2 z).2.trans (L.2.1.2 (f.2.2.2.2 z).1)⟩, by rw [f.1 1 (by decide) (by decide) (by decide) (by decide)]; exact L.2.2⟩
theorem CM'.ft {t : Tk} {m m' : ck_H} (h : CM' t m) (e : ∀ i, 22 ≤ i → i ≤ 25 → m'.1 0 i = m.1 0 i) : CM' t m' := ⟨by rw [e 24 (by omega) (by omega)]; exact h.1, by rw [e 23 (by omega) (by omega)]; exact h.2.1, by rw [e 22 (by omega) (by omega)]; exact h.2.2.1, by rw [e 25 (by omega) (by omega)]; exact h.2.2.2.1, by rw [e 25 (by omega) (by omega)]; exact h.2.2.2.2⟩
theorem mm_isWord {n q : Nat} {t : Tk} {m : ck_H} {Q : Int32 → ck_H → Prop} (T : TV n t) (c : CM' t m) (e : m.1 0 26 = 0) (hq : 20 ≤ q) (hq2 : q < 39) (q1 : t.1 = q → Q 1 m) (q0 : ¬ t.1 = q → Q 0 m) : wp_X12_isWord (nI (tk_cod q)) m Q := by
  have tb := wd_tab t.1 T.2.2.1 q hq2 hq T.2.2.2.2
  have sl := srt_lt t.1 T.2.2.1
  have sq := srt_lt q hq2
  unfold wp_X12_isWord
  rw [c.1, show (0 : Int32) = nI 0 from rfl]
  have i0 : nI (tk_srt t.1) = nI 0 ↔ tk_srt t.1 = 0 := nI_eq (by omega) (by omega)
  refine br_q e ⟨fun z => q0 (fun y => z (i0.mpr (tb.mpr y).1)), fun z => ?_⟩
  have z := i0.mp z
  rw [c.2.2.2.2 (sl.2.2 (Or.inl z) T.2.2.2.2)]
  have i1 : nI (tk_cod t.1) = nI (tk_cod q) ↔ tk_cod t.1 = tk_cod q := nI_eq (by omega) (by omega)
  exact ⟨fun y => q0 (fun w => y (i1.mpr (tb.mpr w).2)), fun y => q1 (tb.mp ⟨z, i1.mp y⟩)⟩
theorem mm_isSign {n q : Nat} {t : Tk} {m : ck_H} {Q : Int32 → ck_H → Prop} (T : TV n t) (c : CM' t m) (e : m.1 0 26 = 0) (hq : 4 ≤ q) (hq2 : q < 17) (q1 : t.1 = q → Q 1 m) (q0 : ¬ t.1 = q → Q 0 m) : wp_X12_isSign (nI (tk_cod q)) m Q := by
  have tb := sn_tab t.1 T.2.2.1 q hq2 hq
  have sl := srt_lt t.1 T.2.2.1
  have sq := srt_lt q (by omega)
  unfold wp_X12_isSign
  rw [c.1]
  have i0 : nI (tk_srt t.1) = (3 : Int32) ↔ tk_srt t.1 = 3 := nI_eq (b := 3) (by omega) (by omega)
  refine br_q e ⟨fun z => q0 (fun y => z (i0.mpr (tb.mpr y).1)), fun z => ?_⟩
  have z := i0.mp z
  rw [c.2.2.2.2 (sl.2.2 (Or.inr z) T.2.2.2.2)]
  have i1 : nI (tk_cod t.1) = nI (tk_cod q) ↔ tk_cod t.1 = tk_cod q := nI_eq (by omega) (by omega)
  exact ⟨fun y => q0 (fun w => y (i1.mpr (tb.mpr w).2)), fun y => q1 (tb.mp ⟨z, i1.mp y⟩)⟩
theorem mm_isWordF {w : Int32} {m : ck_H} {Q : Int32 → ck_H → Prop} (e : ¬ m.1 0 26 = 0) (q : Q 0 m) : wp_X12_isWord w m Q := br_m e q
theorem mm_isSignF {w : Int32} {m : ck_H} {Q : Int32 → ck_H → Prop} (e : ¬ m.1 0 26 = 0) (q : Q 0 m) : wp_X12_isSign w m Q := br_m e q
/-- a fault has been told -/
def FA (f p : Nat) (m m' : ck_H) : Prop := FM m m' ∧ (f = 1 ∨ f = 2) ∧ m'.1 0 26 = nI f ∧ m'.1 0 27 = nI p
theorem FA.n0 {f p : Nat} {m m' : ck_H} (h : FA f p m m') : ¬ m'.1 0 26 = 0 := by
  rw [h.2.2.1]
  rcases h.2.1 with rfl | rfl <;> decide
theorem mm_wrong {f : Nat} {t : Tk} {m : ck_H} {Q : ck_H → Prop} (c : CM' t m) (e : m.1 0 26 = 0) (hf : f = 1 ∨ f = 2) (q : ∀ m', FA f t.2.2.1 m m' → Q m') : wp_X12_wrong (nI f) m Q := by
  unfold wp_X12_wrong
  refine br_p e ?_
  rintro _ rfl _ rfl
  refine q _ ⟨FM.wr m (nI_ne0 (by omega) (by omega)), hf, ?_, ?_⟩
  · rw [ck_sI_nj _ _ (by decide), ck_sI_at]
  · rw [ck_sI_at, ck_sI_nj _ _ (by decide)]; exact c.2.1
theorem mm_knot {t : Tk} {op kn : Nat} {u : List (Nat × Nat)} {m : ck_H} {Q : ck_H → Prop} (S0 : SM t op kn u m) (hk : kn ≤ 64) (q1 : kn < 64 → ∀ m', FM m m' → SM t op (kn + 1) u m' → Q m') (q0 : kn = 64 → ∀ m', FA 2 t.2.2.1 m m' → Q m') : wp_X12_knot m Q := by
  obtain ⟨c, e26, e30, e31, e13, eu⟩ := S0
  unfold wp_X12_knot
  refine br_p e26 ?_
  rw [e31]
  have i64 : nI kn = (64 : Int32) ↔ kn = 64 := nI_eq (b := 64) (by omega) (by omega)
  refine ⟨fun z => ?_, fun z => ?_⟩
  · rw [nI_1]
    rintro _ rfl
    have : ¬ kn = 64 := fun y => z (i64.mpr y)
    refine q1 (by omega) _ (FM.s0 m _ (by omega)) ⟨c.ft (fun i h1 h2 => ck_sI_nj _ _ (by omega)), by rw [ck_sI_nj _ _ (by decide)]; exact e26, by rw [ck_sI_nj _ _ (by decide)]; exact e30, ck_sI_at .., by rw [ck_sI_ne _ _ _ (by decide)]; exact e13, by rw [ck_sI_ne _ _ _ (by decide), ck_sI_ne _ _ _ (by decide)]; exact eu⟩
  · exact mm_wrong (f := 2) c e26 (Or.inr rfl) (fun m' h => q0 (i64.mp z) m' h)
theorem mm_knotF {m : ck_H} {Q : ck_H → Prop} (e : ¬ m.1 0 26 = 0) (q : Q m) : wp_X12_knot m Q := br_n e q
theorem mm_goOnF {m : ck_H} {Q : ck_H → Prop} (e : ¬ m.1 0 26 = 0) (q : Q m) : wp_X12_goOn m Q := br_m e q
theorem mm_putsF {x y : Int32} {m : ck_H} {Q : ck_H → Prop} (e : ¬ m.1 0 26 = 0) (q : Q m) : wp_X12_puts x y m Q := br_n e q
theorem SM.ft {b : Nat → Nat} {n : Nat} {t t' : Tk} {op kn : Nat} {u : List (Nat × Nat)} {m m' : ck_H} (S0 : SM t op kn u m) (f : FT m m') (c : CM' t' m') : SM t' op kn u m' := by
  obtain ⟨_, e26, e30, e31, e13, eu⟩ := S0
  exact ⟨c, by rw [f.2 26 (by omega)]; exact e26, by rw [f.2 30 (by omega)]; exact e30, by rw [f.2 31 (by omega)]; exact e31, by rw [f.1 2 (by decide)]; exact e13, by rw [f.1 16 (by decide), f.1 17 (by decide)]; exact eu⟩
theorem mm_tok {b : Nat → Nat} {n : Nat} {t : Tk} {op kn : Nat} {u : List (Nat × Nat)} {m : ck_H} {Q : ck_H → Prop} (L : LY b n m) (T : TV n t) (S0 : SM t op kn u m) (q : ∀ m', FM m m' → LY b n m' → TV n (nxt b n t) → SM (nxt b n t) op kn u m' → Q m') : wp_X12_token m Q :=
  mm_token L T.1 S0.1.2.2.1 (fun m' f c => q m' (FM.of f) (L.ft f) (TV.nx L.1 (fun i hi => (L.2.2 i hi).1) T.1) (SM.ft (b := b) (n := n) S0 f c))
theorem mm_goOn {b : Nat → Nat} {n : Nat} {t : Tk} {op kn : Nat} {u : List (Nat × Nat)} {m : ck_H} {Q : ck_H → Prop} (L : LY b n m) (T : TV n t) (S0 : SM t op kn u m) (q : ∀ m', FM m m' → LY b n m' → TV n (nxt b n t) → SM (nxt b n t) op kn u m' → Q m') : wp_X12_goOn m Q := by
  unfold wp_X12_goOn
  exact br_q S0.2.1 (mm_tok L T S0 q)
theorem getD_app {u : List (Nat × Nat)} {x : Nat × Nat} : (∀ i, i < u.length → (u ++ [x]).getD i (0, 0) = u.getD i (0, 0)) ∧ (u ++ [x]).getD u.length (0, 0) = x := by
  refine ⟨fun i h => ?_, ?_⟩
  · rw [List.getD_eq_getElem?_getD, List.getD_eq_getElem?_getD, List.getElem?_append_left h]
  · rw [List.getD_eq_getElem?_getD, List.getElem?_append_right (Nat.le_refl _), Nat.sub_self]; rfl
theorem mm_fr {i : Nat} {m : ck_H} {Q : Int32 → ck_H → Prop} (hi : i < 7) (q : Q (m.1 2 (7 + i)) m) : wp_X12_fresher (nI i) m Q := by
  unfold wp_X12_fresher
  rw [show (7 : Int32) + nI i = nI (7 + i) from nI_add 7 i, nI_clamp (n := 7 + i) (by omega)]
  exact ⟨pu_in (by omega) (by decide), q⟩
theorem mm_rd {i : Nat} {x : Int32} {m : ck_H} {Q : ck_H → Prop} (hi : i < 7) (q : Q (ck_sI m 2 (7 + i) x)) : wp_X12_reads (nI i) x m Q := by
  unfold wp_X12_reads
  rw [show (7 : Int32) + nI i = nI (7 + i) from nI_add 7 i, nI_clamp (n := 7 + i) (by omega)]
  refine ⟨pu_in (by omega) (by decide), ?_⟩
  rintro _ rfl
  exact q
theorem mm_puts {t : Tk} {op kn k v : Nat} {u : List (Nat × Nat)} {m : ck_H} {x y : Int32} {Q : ck_H → Prop} (S0 : SM t op kn u m) (hu : u.length < 64) (hk : ev_kr (nI k) (nI v) x y) (q : ∀ m', FM m m' → SM t op kn (u ++ [(k, v)]) m' → Q m') : wp_X12_puts x y m Q := by
  obtain ⟨c, e26, e30, e31, e13, eu⟩ := S0
  unfold wp_X12_puts
  have i128 : vp_in (nI (64 + u.length)) 128 := pu_in (by omega) (by decide)
  have a64 : (64 : Int32) + nI u.length = nI (64 + u.length) := nI_add 64 _
  have c64 : (nI (64 + u.length)).toNatClampNeg = 64 + u.length := nI_clamp (n := 64 + u.length) (by omega)
  refine br_p e26 (mm_fr (i := 6) (by omega) ?_)
  rw [e13, a64, c64]
  refine ⟨i128, ?_⟩
  rintro _ rfl
  refine mm_fr (i := 6) (by omega) ?_
  rw [ck_sI_ne m _ _ (show (2 : Nat) ≠ 16 by decide), e13, a64, c64]
  refine ⟨i128, ?_⟩
  rintro _ rfl
  refine mm_fr (i := 6) (by omega) (mm_rd (i := 6) (by omega) ?_)
  rw [ck_sI_ne _ _ _ (show (2 : Nat) ≠ 17 by decide), ck_sI_ne m _ _ (show (2 : Nat) ≠ 16 by decide), e13, nI_1]
  have g := getD_app (u := u) (x := (k, v))
  refine q _ ⟨fun a h0 h2 h16 h17 => ?_, fun i hi => ?_, fun i hi => ?_, fun i _ _ _ => ?_, Zk.e ?_ ?_⟩ ⟨c.ft (fun i _ _ => ?_), ?_, ?_, ?_, ?_, fun i hi => ?_⟩
  · rw [ck_sI_ne _ _ _ h2, ck_sI_ne _ _ _ h17, ck_sI_ne _ _ _ h16]
  · rw [ck_sI_nj _ _ hi, ck_sI_ne _ _ _ (by decide), ck_sI_ne _ _ _ (by decide)]
  · rw [ck_sI_ne _ _ _ (by decide), ck_sI_ne _ _ _ (by decide), ck_sI_nj _ _ (by omega), ck_sI_ne _ _ _ (by decide), ck_sI_nj _ _ (by omega), ck_sI_ne _ _ _ (by decide)]
    exact ⟨rfl, rfl⟩
  · rw [ck_sI_ne _ _ _ (by decide), ck_sI_ne _ _ _ (by decide), ck_sI_ne _ _ _ (by decide)]
  · rw [ck_sI_ne _ _ _ (by decide), ck_sI_ne _ _ _ (by decide), ck_sI_ne _ _ _ (by decide)]
  · rw [ck_sI_ne _ _ _ (by decide), ck_sI_ne _ _ _ (by decide), ck_sI_ne _ _ _ (by decide)]
  · rw [ck_sI_ne _ _ _ (by decide), ck_sI_ne _ _ _ (by decide), ck_sI_ne _ _ _ (by decide)]
  · rw [ck_sI_ne _ _ _ (by decide), ck_sI_ne _ _ _ (by decide), ck_sI_ne _ _ _ (by decide)]; exact e26
  · rw [ck_sI_ne _ _ _ (by decide), ck_sI_ne _ _ _ (by decide), ck_sI_ne _ _ _ (by decide)]; exact e30
  · rw [ck_sI_ne _ _ _ (by decide), ck_sI_ne _ _ _ (by decide), ck_sI_ne _ _ _ (by decide)]; exact e31
  · rw [ck_sI_at, List.length_append]; rfl
  · rw [List.length_append] at hi
    have hi : i < u.length + 1 := hi
    rw [ck_sI_ne _ _ _ (show (16 : Nat) ≠ 2 by decide), ck_sI_ne _ _ _ (show (16 : Nat) ≠ 17 by decide), ck_sI_ne _ _ _ (show (17 : Nat) ≠ 2 by decide)]
    by_cases ci : i = u.length
    · subst ci
      rw [ck_sI_at, ck_sI_at, g.2]; exact hk
    · rw [ck_sI_nj _ _ (by omega), ck_sI_nj _ _ (by omega), ck_sI_ne _ _ _ (show (17 : Nat) ≠ 16 by decide), g.1 i (by omega)]
      exact eu i (by omega)
