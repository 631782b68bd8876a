/-- a text, line by line: how it ends (f = 0: well), at which token, with which heap -/
def LR (b : Nat → Nat) (n : Nat) : Nat → Tk → ck_H → Nat → Tk → ck_H → Prop
  | 0, t, h, f, tt, hF => (t.1 = 0 ∧ f = 0 ∧ tt = t ∧ hF = h) ∨ (¬ t.1 = 0 ∧ LB b n t h f tt) ∨ (¬ t.1 = 0 ∧ ∃ h1, LG b n t h tt h1 ∧ ¬ tt.1 = 4 ∧ f = 1)
  | k + 1, t, h, f, tt, hF => ¬ t.1 = 0 ∧ ∃ t1 h1 h2, LG b n t h t1 h1 ∧ t1.1 = 4 ∧ (∀ a, 54 ≤ a → h2.1 a = h1.1 a) ∧ (∀ i, i ≠ 17 → h2.1 53 i = h1.1 53 i) ∧ h2.1 53 17 = h1.1 53 17 + 1 ∧ LR b n k (nxt b n t1) h2 f tt hF
theorem tx_rt95 {Q : Int32 → ck_H → Prop} {Kc : Int32 → ck_H → Prop} {j : Nat} {h : ck_H} (q : Kc (nI (j + 1)) h) : wp_X9_readText_95 Q Kc (nI j) h := by
  unfold wp_X9_readText_95
  rintro _ rfl
  rw [nI_1]
  exact q
def tPO (n p : Nat) (t : Tk) : Prop := p ≤ t.2.2.1 ∧ t.2.2.1 ≤ t.2.2.2 ∧ t.2.2.2 ≤ n
theorem tPO.nx {b : Nat → Nat} {n p : Nat} {t : Tk} (hb : ∀ i, i < n → b i < 256) (P : tPO n p t) : tPO n p (nxt b n t) := by
  have a := tk_A_le (b := b) hb P.2.2
  have e1 := P.1
  have e2 := P.2.1
  unfold tPO nxt
  omega
theorem sst_PO {b : Nat → Nat} {n p : Nat} (hb : ∀ i, i < n → b i < 256) (s : St) (P : tPO n p s.1) : tPO n p (sst (nxt b n) s).2.1 := by
  obtain ⟨t, w, W, op, kn, u⟩ := s
  have P : tPO n p t := P
  have P1 := P.nx hb
  unfold sst
  dsimp only
  repeat' split
  all_goals first | exact P | exact P1
theorem syr_PO {b : Nat → Nat} {n p : Nat} (hb : ∀ i, i < n → b i < 256) : ∀ (k : Nat) (s : St), tPO n p s.1 → tPO n p (syr (nxt b n) k s).2.1 := by
  intro k
  induction k with
  | zero => intro s P; exact P
  | succ k ih =>
    intro s P
    show tPO n p (if (sst (nxt b n) s).1 = 0 then syr (nxt b n) k (sst (nxt b n) s).2 else sst (nxt b n) s).2.1
    by_cases c : (sst (nxt b n) s).1 = 0
    · rw [if_pos c]; exact ih _ (sst_PO hb s P)
    · rw [if_neg c]; exact sst_PO hb s P
theorem nEnd.po {b : Nat → Nat} {n p : Nat} {s s' : St} {c : Nat} (hb : ∀ i, i < n → b i < 256) (h : nEnd (nxt b n) s c s') (P : tPO n p s.1) : tPO n p s'.1 := by
  obtain ⟨i, hi⟩ := h
  have := syr_PO hb (i + 0) s P
  rw [hi 0] at this
  exact this
theorem LG.po {b : Nat → Nat} {n p : Nat} {t t1 : Tk} {h h1 : ck_H} (hb : ∀ i, i < n → b i < 256) (G : LG b n t h t1 h1) (P : tPO n p t) : tPO n p t1 := by
  have P1 := P.nx hb
  have P2 := P1.nx hb
  have P3 := P2.nx hb
  have P4 := P3.nx hb
  have P5 := P4.nx hb
  rcases G with ⟨_, _, _, _, _, _, _, _, _, _, _, rfl⟩ | ⟨_, _, _, _, _, _, _, _, _, _, _, rfl⟩ | ⟨_, _, _, _, _, _, _, _, _, _, _, _, _, _, _, _, _, _, _, _, _, _, rfl⟩ | ⟨_, _, _, _, _, _, _, _, _, _, _, rfl⟩ | ⟨_, s', _, _, _, _, _, _, en, _, _, _, _, _, _, _, rfl⟩
  · exact P4
  · exact P5
  · exact P5
  · exact P2
  · exact en.po hb P2
theorem tx_loopT {b : Nat → Nat} {n : Nat} {Q : Int32 → ck_H → Prop} : ∀ (f j : Nat) (t : Tk) (h : ck_H) (J N S : Nat) (u : List (Nat × Nat)), CT b n t h → rdC J N S u h → j ≤ t.2.2.1 → 703 ≤ f + j →
    (∀ k g tt hF, k + j ≤ 700 → LR b n k t h g tt hF → FDr h hF → ((g = 0 ∧ CT b n tt hF) ∨ CFt g tt hF) → Q (nI g) hF) → wp_X9_readText_19 Q f (nI j) h := by
  intro f
  induction f with
  | zero =>
    intro j t h J N S u C R hj hf
    have := C.2.1.2.1
    have := C.1.1
    omega
  | succ f ih =>
    intro j t h J N S u C R hj hf q
    have hn := C.1.1
    have tp := C.2.1.2.1
    have tb := C.2.1.1
    have e22 := C.2.2.2.2
    have t39 := C.2.1.2.2.1
    have e34 := C.2.2.2.1.1
    have hb : ∀ i, i < n → b i < 256 := fun i hi => (C.1.2.2.1 i hi).1
    have i0 : nI t.1 = (0 : Int32) ↔ t.1 = 0 := nI_eq (b := 0) (by omega) (by omega)
    have i7 : (700 : Int32) ≤ nI j ↔ 700 ≤ j := nI_leI (a := 700) (by omega) (by omega)
    -- what comes behind a bad line
    have bad : ∀ (h1 : ck_H) (g : Nat) (tt : Tk), LR b n 0 t h g tt h1 → FDr h h1 → CFt g tt h1 → wp_X9_readText_71 Q (wp_X9_readText_19 Q f) (nI j) h1 := by
      intro h1 g tt L F B
      unfold wp_X9_readText_71
      refine br_m B.n0 (tx_rt95 ?_)
      have hf0 : f ≠ 0 := by omega
      obtain ⟨f', rfl⟩ : ∃ f', f = f' + 1 := ⟨f - 1, by omega⟩
      have qq := q 0 g tt h1 (by omega) L F (Or.inr B)
      unfold wp_X9_readText_19
      rw [B.2.2.1]
      have B0 := B.n0
      rw [B.2.2.1] at B0
      exact ⟨fun _ => qq, fun _ => br_m B0 qq⟩
    have end0 : t.1 = 0 → Q (h.1 2 2) h := fun z => by
      rw [e22]
      exact q 0 0 t h (by omega) (Or.inl ⟨z, rfl, rfl, rfl⟩) (FDr.rf h) (Or.inl ⟨rfl, C⟩)
    unfold wp_X9_readText_19
    by_cases c0 : t.1 = 0
    · refine ⟨fun _ => end0 c0, fun _ => br_q e22 (br_p (by rw [e34]; exact i0.mpr c0) (end0 c0))⟩
    · have pb := C.2.2.1 c0
      refine br_n (fun z => by have := i7.mp z; omega) (br_q e22 (br_n (by rw [e34]; exact fun z => c0 (i0.mp z)) ?_))
      refine tx_LG C R (fun t1 h1 G F C1 => ?_) (fun g tt h1 L F B => br_m B.n0 (bad h1 g tt (Or.inr (Or.inl ⟨c0, L⟩)) F B))
      have i4 : nI t1.1 = (4 : Int32) ↔ t1.1 = 4 := nI_eq (b := 4) (by have := C1.2.1.2.2.1; omega) (by omega)
      refine br_q C1.2.2.2.2 ?_
      rw [C1.2.2.2.1.1]
      by_cases c4 : t1.1 = 4
      · refine br_p (i4.mpr c4) ?_
        unfold wp_X9_readText_71
        refine br_q C1.2.2.2.2 ?_
        rintro _ rfl
        have C2 : CT b n t1 (ck_sI h1 53 17 (h1.1 53 17 + 1)) := C1.set (by omega)
        refine C2.nx (fun h3 f3 C3 => tx_rt95 ?_)
        obtain ⟨J', N', S', u', R'⟩ := G.c R
        have e3 : ∀ a, 53 ≤ a → h3.1 a = (ck_sI h1 53 17 (h1.1 53 17 + 1)).1 a := fun a ha => f3.1 a (by omega) (by omega)
        have po := G.po hb (p := t.2.2.1) ⟨Nat.le_refl _, by omega, tb⟩
        have pb1 := C1.2.2.1 (by omega)
        have al := (tk_A_le (b := b) hb po.2.2).1
        have F3 : FDr h h3 := (F.tr (FDr.set h1 (a := 53) (i := 17) _ (by omega))).tr (FDr.ff f3)
        refine ih (j + 1) (nxt b n t1) h3 J' N' S' u' C3 (R'.of (fun a h54 _ => ?_)) ?_ (by omega) (fun k g tt hF kj L F' E => q (k + 1) g tt hF (by omega) ⟨c0, t1, h1, h3, G, c4, fun a ha => ?_, fun i hi => ?_, ?_, L⟩ (F3.tr F') E)
        · rw [e3 a (by omega), ck_sI_ne _ _ _ (by omega)]
        · have := po.1
          show j + 1 ≤ (tk_A b n t1.2.2.2).2.2.1
          omega
        · rw [e3 a (by omega), ck_sI_ne _ _ _ (by omega)]
        · rw [e3 53 (by omega), ck_sI_nj _ _ hi]
        · rw [e3 53 (by omega), ck_sI_at]
      · refine br_n (fun z => c4 (i4.mp z)) ?_
        rintro _ rfl
        have B := C1.bad (f := 1) (by omega) (by omega)
        refine bad _ 1 t1 (Or.inr (Or.inr ⟨c0, h1, G, c4, rfl⟩)) (F.tr (FDr.s2 _ _)) B
