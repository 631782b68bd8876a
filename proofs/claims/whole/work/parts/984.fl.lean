/-- where the run ends -/
def nEnd (nx : Tk → Tk) (s : St) (c : Nat) (s' : St) : Prop := ∃ i, ∀ k, syr nx (i + k) s = (c, s')
theorem nEnd.un {nx : Tk → Tk} {s s1 s2 : St} {c d : Nat} (a : nEnd nx s c s1) (b : nEnd nx s d s2) : c = d ∧ s1 = s2 := by
  obtain ⟨i, hi⟩ := a
  obtain ⟨j, hj⟩ := b
  have x := hi j
  have y := hj i
  rw [Nat.add_comm] at y
  rw [x] at y
  exact ⟨congrArg Prod.fst y, congrArg Prod.snd y⟩
theorem nEnd.one {nx : Tk → Tk} {s s' : St} {c : Nat} (h : sst nx s = (c, s')) (hc : ¬ c = 0) : nEnd nx s c s' := ⟨1, fun k => by
  rw [Nat.add_comm]
  show (if (sst nx s).1 = 0 then syr nx k (sst nx s).2 else sst nx s) = _
  rw [h, if_neg hc]⟩
theorem nEnd.step {nx : Tk → Tk} {s s1 s' : St} {c : Nat} (a : SyS nx s s1) (b : nEnd nx s1 c s') : nEnd nx s c s' := by
  obtain ⟨i, hi⟩ := a
  obtain ⟨j, hj⟩ := b
  exact ⟨i + j, fun k => by rw [Nat.add_assoc, hi, hj]⟩
theorem tx_loop {b : Nat → Nat} {n : Nat} {Q : Int32 → ck_H → Prop} {K : Int32 → Int32 → ck_H → Prop} {x2 : Int32} : ∀ (f j : Nat) (s : St) (h : ck_H), LX b n h → XS s h → nIV n s → (¬ s.1.1 = 0 → s.1.2.2.1 < s.1.2.2.2) → j + 1 ≤ s.1.2.2.1 → 702 ≤ f + j →
    (∀ h' x3 c s' s1, nEnd (nxt b n) s c s' → FX h h' → XS s1 h' → nIV n s1 → s1.1 = s'.1 → (¬ s'.1.1 = 0 → s'.1.2.2.1 < s'.1.2.2.2) → ((c = 9 ∧ x3 = 0 ∧ s1 = s') ∨ ((c = 1 ∨ c = 2) ∧ x3 = nI c)) → K x2 x3 h') → wp_X3_readInto_38 Q K f x2 0 (nI j) h := by
  intro f
  induction f with
  | zero =>
    intro j s h L X I _ hj hf
    have : s.1.2.2.1 ≤ n := I.1.2.1
    have := L.1
    omega
  | succ f ih =>
    intro j s h L X I hp hj hf q
    obtain ⟨t, w, W, op, kn, u⟩ := s
    have T : TV n t := I.1
    have hn := L.1
    have tp : t.2.2.1 ≤ n := T.2.1
    have hj : j + 1 ≤ t.2.2.1 := hj
    have hb : ∀ i, i < n → b i < 256 := fun i hi => (L.2.2.1 i hi).1
    have e55 : h.1 5 5 = (if w = true then 1 else 0) := X.2.2.2.2.1
    unfold wp_X3_readInto_38
    refine br_n (nI_ge (b := 700) (by omega) (by omega)) (br_q rfl ?_)
    have c0 : ∀ h' w' W' op' kn' u', FX h h' → sst (nxt b n) (t, w, W, op, kn, u) = (0, (nxt b n t, w', W', op', kn', u')) → XS (t, w', W', op', kn', u') h' → nIV n (t, w', W', op', kn', u') → ¬ t.1 = 0 → wp_X3_readInto_84 Q K (wp_X3_readInto_38 Q K f) x2 (nI j) 0 h' := by
      intro h' w' W' op' kn' u' f' ss X' I' t0
      unfold wp_X3_readInto_84
      refine br_q rfl (tx_next (f'.lx L) T.1 X'.1.2.2.1 (fun h2 f2 c2 => ?_))
      unfold wp_X3_readInto_96
      rintro _ rfl
      have X2 : XS (nxt b n t, w', W', op', kn', u') h2 := ⟨c2, by rw [f2.1 5 (by decide)]; exact X'.2.1, by rw [f2.1 5 (by decide)]; exact X'.2.2.1, by rw [f2.1 5 (by decide)]; exact X'.2.2.2.1, by rw [f2.1 5 (by decide)]; exact X'.2.2.2.2.1, X'.2.2.2.2.2.1.of (fun i _ => by rw [f2.1 6 (by decide)]), X'.2.2.2.2.2.2.of (by rw [f2.1 68 (by decide)]) (f2.1 69 (by decide)) (f2.1 70 (by decide))⟩
      have ta := tk_A_le (b := b) hb T.1
      rw [nI_1]
      refine ih (j + 1) _ h2 ((f'.tr (FX.fs f2)).lx L) X2 ⟨TV.nx L.1 hb T.1, I'.2⟩ ta.2.2.2.2.2.1 ?_ (by omega) (fun h3 x3 c s' s1 e3 f3 a1 a2 a3 a4 a5 => q h3 x3 c s' s1 (nEnd.step (SyS.one ss) e3) ((f'.tr (FX.fs f2)).tr f3) a1 a2 a3 a4 a5)
      show j + 1 + 1 ≤ (tk_A b n t.2.2.2).2.2.1
      have tb : t.2.2.1 < t.2.2.2 := hp t0
      omega
    have c1 : ∀ h' g s1, (g = 1 ∨ g = 2) → FX h h' → sst (nxt b n) (t, w, W, op, kn, u) = (g, (t, w, W, op, kn, u)) → XS s1 h' → nIV n s1 → s1.1 = t → wp_X3_readInto_84 Q K (wp_X3_readInto_38 Q K f) x2 (nI j) (nI g) h' := by
      intro h' g s1 hg f' ss X' I' e'
      have g0 : ¬ nI g = 0 := by rcases hg with rfl | rfl <;> decide
      have fin := q h' (nI g) g _ s1 (nEnd.one ss (by omega)) f' X' I' e' hp (Or.inr ⟨hg, rfl⟩)
      unfold wp_X3_readInto_84
      refine br_m g0 ?_
      unfold wp_X3_readInto_96
      rintro _ rfl
      cases f with
      | zero => omega
      | succ f =>
        unfold wp_X3_readInto_38
        exact ⟨fun _ => fin, fun _ => br_m g0 fin⟩
    cases w with
    | true =>
      refine br_m (by rw [e55]; decide) ?_
      unfold wp_X3_readInto_64
      exact br_n (by rw [e55]; decide) (tx_side X I c0 c1)
    | false =>
      refine br_q (by rw [e55]; decide) ?_
      have e34 : h.1 3 4 = nI t.1 := X.1.1
      have e53 : h.1 5 3 = nI op := X.2.2.1
      have i8 : op ≤ 8 := I.2.2.2.1
      have t39 : t.1 < 39 := T.2.2.1
      have i6 : nI t.1 = (6 : Int32) ↔ t.1 = 6 := nI_eq (b := 6) (by omega) (by omega)
      have i31 : nI t.1 = (31 : Int32) ↔ t.1 = 31 := nI_eq (b := 31) (by omega) (by omega)
      have stop : sst (nxt b n) (t, false, W, op, kn, u) = (9, (t, false, W, op, kn, u)) → K x2 0 h := fun ss => q h 0 9 _ _ (nEnd.one ss (by omega)) (FX.rf h) X I rfl hp (Or.inl ⟨rfl, rfl, rfl⟩)
      have more : ((t.1 = 6 ∧ 0 < op) ∨ 0 < bop t.1) → wp_X3_readInto_64 Q K (wp_X3_readInto_38 Q K f) x2 (nI j) h := by
        intro hk
        unfold wp_X3_readInto_64
        exact br_p (by rw [e55]; decide) (tx_sign X I hk c0 c1)
      unfold wp_X3_goesOn
      rw [e34, e53]
      by_cases c6 : t.1 = 6
      · refine br_q (i6.mpr c6) ?_
        by_cases co : op = 0
        · subst co
          refine br_p (nI_le (b := 0) (Nat.le_refl _) (by omega)) (br_p rfl (stop ?_))
          show (if false = true then _ else (if t.1 = 6 then (if 0 = 0 then _ else _) else _)) = _
          rw [if_neg (by decide), if_pos c6, if_pos rfl]
        · exact br_n (nI_nle (by omega) (by omega)) (br_n (by decide) (more (Or.inl ⟨c6, by omega⟩)))
      · refine br_m (fun z => c6 (i6.mp z)) ?_
        by_cases c31 : t.1 = 31
        · exact br_p (i31.mpr c31) (br_p rfl (stop (sst_end c6 (by rw [c31]; decide))))
        · refine br_n (fun z => c31 (i31.mp z)) (tx_rank t39 ?_)
          have eb : bop t.1 = rk t.1 := by unfold bop; rw [if_neg c31]
          by_cases c0' : rk t.1 = 0
          · rw [c0']
            exact br_p (nI_le (b := 0) (Nat.le_refl _) (by omega)) (br_p rfl (stop (sst_end c6 (by omega))))
          · have := (bop_k t.1).2.2.2.2.2.1
            exact br_n (nI_nle (by omega) (by omega)) (br_n (by decide) (more (Or.inr (by omega))))
/-- what reading an E into place x of a law leaves as it was -/
def FXX (x : Nat) (h h' : ck_H) : Prop := (∀ a, a ≠ 3 → a ≠ 5 → a ≠ 6 → a ≠ 68 → a ≠ 69 → a ≠ 70 → a ≠ 71 → a ≠ 72 → h'.1 a = h.1 a) ∧ h'.1 3 2 = h.1 3 2 ∧ (∀ i, i ≠ 5 → h'.1 68 i = h.1 68 i) ∧ (∀ i, i ≠ x → h'.1 71 i = h.1 71 i ∧ h'.1 72 i = h.1 72 i) ∧ h'.2 = h.2
theorem FXX.of {x : Nat} {h h' : ck_H} (f : FX h h') : FXX x h h' := ⟨fun a e1 e2 e3 e4 e5 e6 _ _ => f.1 a e1 e2 e3 e4 e5 e6, f.2.1, f.2.2.1, fun i _ => by rw [f.1 71 (by decide) (by decide) (by decide) (by decide) (by decide) (by decide), f.1 72 (by decide) (by decide) (by decide) (by decide) (by decide) (by decide)]; exact ⟨rfl, rfl⟩, f.2.2.2⟩
theorem FXX.tr {x : Nat} {h h1 h2 : ck_H} (a : FXX x h h1) (c : FXX x h1 h2) : FXX x h h2 := ⟨fun y e1 e2 e3 e4 e5 e6 e7 e8 => (c.1 y e1 e2 e3 e4 e5 e6 e7 e8).trans (a.1 y e1 e2 e3 e4 e5 e6 e7 e8), c.2.1.trans a.2.1, fun i hi => (c.2.2.1 i hi).trans (a.2.2.1 i hi), fun i hi => ⟨(c.2.2.2.1 i hi).1.trans (a.2.2.2.1 i hi).1, (c.2.2.2.1 i hi).2.trans (a.2.2.2.1 i hi).2⟩, c.2.2.2.2.trans a.2.2.2.2⟩
theorem FXX.s {x a : Nat} (h : ck_H) (v : Int32) (ha : a = 71 ∨ a = 72) : FXX x h (ck_sI h a x v) := by
  refine ⟨fun y _ _ _ _ _ _ e7 e8 => ck_sI_ne _ _ _ (by omega), by rw [ck_sI_ne _ _ _ (by omega)], fun i _ => by rw [ck_sI_ne _ _ _ (by omega)], fun i hi => ?_, rfl⟩
  rcases ha with rfl | rfl
  · rw [ck_sI_nj _ _ hi, ck_sI_ne _ _ _ (show (72 : Nat) ≠ 71 by decide)]; exact ⟨rfl, rfl⟩
  · rw [ck_sI_nj _ _ hi, ck_sI_ne _ _ _ (show (71 : Nat) ≠ 72 by decide)]; exact ⟨rfl, rfl⟩
theorem XS.of {s : St} {h h' : ck_H} (X : XS s h) (e : ∀ a, a = 3 ∨ a = 5 ∨ a = 6 ∨ a = 68 ∨ a = 69 ∨ a = 70 → h'.1 a = h.1 a) : XS s h' := by
  obtain ⟨c, e2, e3, e4, e5, sk, ou⟩ := X
  exact ⟨c.of (e 3 (by omega)), by rw [e 5 (by omega)]; exact e2, by rw [e 5 (by omega)]; exact e3, by rw [e 5 (by omega)]; exact e4, by rw [e 5 (by omega)]; exact e5, sk.of (fun i _ => by rw [e 6 (by omega)]), ou.of (by rw [e 68 (by omega)]) (e 69 (by omega)) (e 70 (by omega))⟩
theorem tx_into {b : Nat → Nat} {n x : Nat} {t : Tk} {u : List (Nat × Nat)} {h : ck_H} {Q : Int32 → ck_H → Prop} (hx : x < 3) (L : LX b n h) (T : TV n t) (C : CX t h) (O : OU u h) (hu : u.length ≤ 64) (hp : ¬ t.1 = 0 → t.2.2.1 < t.2.2.2) (h1 : 1 ≤ t.2.2.1)
    (q : ∀ h' x3 c s', nEnd (nxt b n) (t, true, [], 0, u.length, u) c s' → FXX x h h' → CX s'.1 h' → (TV n s'.1 ∧ (¬ s'.1.1 = 0 → s'.1.2.2.1 < s'.1.2.2.2)) → ((c = 9 ∧ s'.2.2.2.1 = 0 ∧ x3 = 0 ∧ OU (rl 1 s'.2.2.1 s'.2.2.2.2.2).2 h' ∧ (rl 1 s'.2.2.1 s'.2.2.2.2.2).2.length ≤ 64 ∧ h'.1 71 x = nI u.length ∧ h'.1 72 x = nI (rl 1 s'.2.2.1 s'.2.2.2.2.2).2.length) ∨ (c = 9 ∧ 0 < s'.2.2.2.1 ∧ x3 = 1) ∨ ((c = 1 ∨ c = 2) ∧ x3 = nI c)) → Q x3 h') : wp_X3_readInto (nI x) h Q := by
  unfold wp_X3_readInto
  rintro _ rfl _ rfl _ rfl _ rfl
  have e5 : (ck_sI (ck_sI h 5 2 0) 5 3 0).1 68 5 = nI u.length := by rw [ck_sI_ne _ _ _ (by decide), ck_sI_ne _ _ _ (by decide)]; exact O.1
  rw [e5, nI_clamp (n := x) (by omega)]
  refine ⟨pu_in hx (by decide), ?_⟩
  have e5' : (ck_sI (ck_sI (ck_sI (ck_sI h 5 2 0) 5 3 0) 5 4 (nI u.length)) 5 5 1).1 68 5 = nI u.length := by rw [ck_sI_ne _ _ _ (by decide), ck_sI_ne _ _ _ (by decide)]; exact e5
  rw [e5']
  rintro _ rfl
  have fA : FX h (ck_sI (ck_sI (ck_sI (ck_sI h 5 2 0) 5 3 0) 5 4 (nI u.length)) 5 5 1) := (((FX.s _ _ (by omega)).tr (FX.s _ _ (by omega))).tr (FX.s _ _ (by omega))).tr (FX.s _ _ (by omega))
  have XA : XS (t, true, [], 0, u.length, u) (ck_sI (ck_sI (ck_sI (ck_sI h 5 2 0) 5 3 0) 5 4 (nI u.length)) 5 5 1) := by
    refine ⟨C.of ?_, ?_, ?_, ?_, ?_, trivial, O.of ?_ ?_ ?_⟩
    · rw [ck_sI_ne _ _ _ (by decide), ck_sI_ne _ _ _ (by decide), ck_sI_ne _ _ _ (by decide), ck_sI_ne _ _ _ (by decide)]
    · rw [ck_sI_nj _ _ (by decide), ck_sI_nj _ _ (by decide), ck_sI_nj _ _ (by decide), ck_sI_at]; rfl
    · rw [ck_sI_nj _ _ (by decide), ck_sI_nj _ _ (by decide), ck_sI_at]; rfl
    · rw [ck_sI_nj _ _ (by decide), ck_sI_at]
    · rw [ck_sI_at]; rfl
    · rw [ck_sI_ne _ _ _ (by decide), ck_sI_ne _ _ _ (by decide), ck_sI_ne _ _ _ (by decide), ck_sI_ne _ _ _ (by decide)]
    · rw [ck_sI_ne _ _ _ (by decide), ck_sI_ne _ _ _ (by decide), ck_sI_ne _ _ _ (by decide), ck_sI_ne _ _ _ (by decide)]
    · rw [ck_sI_ne _ _ _ (by decide), ck_sI_ne _ _ _ (by decide), ck_sI_ne _ _ _ (by decide), ck_sI_ne _ _ _ (by decide)]
  revert fA XA
  generalize ck_sI (ck_sI (ck_sI (ck_sI h 5 2 0) 5 3 0) 5 4 (nI u.length)) 5 5 1 = hA
  intro fA XA
  have fB : FXX x hA (ck_sI hA 71 x (nI u.length)) := FXX.s _ _ (Or.inl rfl)
  have XB : XS (t, true, [], 0, u.length, u) (ck_sI hA 71 x (nI u.length)) := XA.of (fun a ha => ck_sI_ne _ _ _ (by omega))
  have LB : LX b n (ck_sI hA 71 x (nI u.length)) := by
    have LA := fA.lx L
    exact ⟨LA.1, by rw [ck_sI_ne _ _ _ (by decide)]; exact LA.2.1, by rw [ck_sI_ne _ _ _ (by decide)]; exact LA.2.2.1, by rw [ck_sI_ne _ _ _ (by decide)]; exact LA.2.2.2⟩
  have a71 : (ck_sI hA 71 x (nI u.length)).1 71 x = nI u.length := ck_sI_at ..
  revert fB XB LB a71
  generalize ck_sI hA 71 x (nI u.length) = hB
  intro fB XB LB a71
  refine tx_loop lpN 0 _ hB LB XB ⟨T, (fun y hy => by cases hy), rfl, by show 0 ≤ 8; omega, by show u.length + 0 = u.length; omega, hu⟩ hp (by show 0 + 1 ≤ t.2.2.1; omega) (by unfold lpN; omega) (fun h1 x3 c s' s1 en f1 X1 I1 e1 hps res => ?_)
  have fin : ∀ x3', ((c = 9 ∧ s'.2.2.2.1 = 0 ∧ x3' = 0 ∧ s1 = s') ∨ (c = 9 ∧ 0 < s'.2.2.2.1 ∧ x3' = 1) ∨ ((c = 1 ∨ c = 2) ∧ x3' = nI c)) → wp_X3_readInto_115 Q (nI x) x3' h1 := by
    intro x3' hx3
    obtain ⟨t1, w1, W1, op1, kn1, u1⟩ := s1
    have ix : ∀ y, y ∈ W1 → y = 5 ∨ 0 < rk y := I1.2.1
    have iv : u1.length + nops W1 = kn1 := I1.2.2.2.2.1
    have ik : kn1 ≤ 64 := I1.2.2.2.2.2
    have io : fv W1 = op1 := I1.2.2.1
    have i8 : op1 ≤ 8 := I1.2.2.2.1
    have fn := fv_np W1
    have rv := rl_iv (lo := 1) (by omega) W1 u1 ix
    unfold wp_X3_readInto_115
    refine tx_rank (k := 29) (by omega) ?_
    unfold wp_X3_release
    refine tx_rel (lo := 1) (n := n) (by omega) (by omega) lpN W1 u1 h1 (by unfold lpN; omega) X1 ix (by omega) (by omega) (fun h2 f2 X2 => ?_)
    rw [nI_clamp (n := x) (by omega)]
    refine ⟨pu_in hx (by decide), ?_⟩
    rintro _ rfl
    have e1 : t1 = s'.1 := e1
    refine q _ x3' c s' en (((FXX.of fA).tr fB).tr (((FXX.of f1).tr (FXX.of f2)).tr (FXX.s _ _ (Or.inr rfl)))) ?_ ?_ ?_
    · rw [← e1]
      exact (X2.of (fun a ha => ck_sI_ne _ _ _ (by omega))).1
    · refine ⟨?_, hps⟩
      rw [← e1]
      exact I1.1
    · rcases hx3 with ⟨c9, o0, z, es⟩ | z | z
      · subst es
        refine Or.inl ⟨c9, o0, z, (X2.of (fun a ha => ck_sI_ne _ _ _ (by omega))).2.2.2.2.2.2, ?_, ?_, ?_⟩
        · show (rl 1 W1 u1).2.length ≤ 64; omega
        · rw [ck_sI_ne _ _ _ (by decide), f2.1 71 (by decide) (by decide) (by decide) (by decide) (by decide) (by decide), f1.1 71 (by decide) (by decide) (by decide) (by decide) (by decide) (by decide)]; exact a71
        · rw [ck_sI_at]; exact X2.2.2.2.2.2.2.1
      · exact Or.inr (Or.inl z)
      · exact Or.inr (Or.inr z)
  unfold wp_X3_readInto_102
  rcases res with ⟨c9, rfl, es⟩ | ⟨hc, rfl⟩
  · refine br_q rfl ?_
    subst es
    rw [X1.2.2.1]
    have i8 : s1.2.2.2.1 ≤ 8 := I1.2.2.2.1
    by_cases co : s1.2.2.2.1 = 0
    · rw [co]
      exact br_p (nI_le (b := 0) (Nat.le_refl _) (by omega)) (fin 0 (Or.inl ⟨c9, co, rfl, rfl⟩))
    · exact br_n (nI_nle (by omega) (by omega)) (fin 1 (Or.inr (Or.inl ⟨c9, by omega, rfl⟩)))
  · exact br_m (by rcases hc with rfl | rfl <;> decide) (fin _ (Or.inr (Or.inr ⟨hc, rfl⟩)))
