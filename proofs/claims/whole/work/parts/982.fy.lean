/-! the class's loop over an E -/
theorem XS.s3 {t : Tk} {w : Bool} {W : List Nat} {op op' kn : Nat} {u : List (Nat × Nat)} {h : ck_H} (X : XS (t, w, W, op, kn, u) h) : XS (t, w, W, op', kn, u) (ck_sI h 5 3 (nI op')) := by
  obtain ⟨c, e2, e3, e4, e5, sk, ou⟩ := X
  exact ⟨c.of (ck_sI_ne _ _ _ (by decide)), by rw [ck_sI_nj _ _ (by decide)]; exact e2, ck_sI_at .., by rw [ck_sI_nj _ _ (by decide)]; exact e4, by rw [ck_sI_nj _ _ (by decide)]; exact e5, sk.of (fun i _ => by rw [ck_sI_ne _ _ _ (by decide)]), ou.of (by rw [ck_sI_ne _ _ _ (by decide)]) (ck_sI_ne _ _ _ (by decide)) (ck_sI_ne _ _ _ (by decide))⟩
theorem XS.s4 {t : Tk} {w : Bool} {W : List Nat} {op kn kn' : Nat} {u : List (Nat × Nat)} {h : ck_H} (X : XS (t, w, W, op, kn, u) h) : XS (t, w, W, op, kn', u) (ck_sI h 5 4 (nI kn')) := by
  obtain ⟨c, e2, e3, e4, e5, sk, ou⟩ := X
  exact ⟨c.of (ck_sI_ne _ _ _ (by decide)), by rw [ck_sI_nj _ _ (by decide)]; exact e2, by rw [ck_sI_nj _ _ (by decide)]; exact e3, ck_sI_at .., by rw [ck_sI_nj _ _ (by decide)]; exact e5, sk.of (fun i _ => by rw [ck_sI_ne _ _ _ (by decide)]), ou.of (by rw [ck_sI_ne _ _ _ (by decide)]) (ck_sI_ne _ _ _ (by decide)) (ck_sI_ne _ _ _ (by decide))⟩
theorem XS.s5 {t : Tk} {w w' : Bool} {W : List Nat} {op kn : Nat} {u : List (Nat × Nat)} {h : ck_H} (X : XS (t, w, W, op, kn, u) h) : XS (t, w', W, op, kn, u) (ck_sI h 5 5 (if w' = true then 1 else 0)) := by
  obtain ⟨c, e2, e3, e4, e5, sk, ou⟩ := X
  exact ⟨c.of (ck_sI_ne _ _ _ (by decide)), by rw [ck_sI_nj _ _ (by decide)]; exact e2, by rw [ck_sI_nj _ _ (by decide)]; exact e3, by rw [ck_sI_nj _ _ (by decide)]; exact e4, ck_sI_at .., sk.of (fun i _ => by rw [ck_sI_ne _ _ _ (by decide)]), ou.of (by rw [ck_sI_ne _ _ _ (by decide)]) (ck_sI_ne _ _ _ (by decide)) (ck_sI_ne _ _ _ (by decide))⟩
theorem tx_hold {t : Tk} {w : Bool} {x : Nat} {W : List Nat} {op kn : Nat} {u : List (Nat × Nat)} {h : ck_H} {Q : ck_H → Prop} (X : XS (t, w, W, op, kn, u) h) (hW : W.length < 72) (q : ∀ h', FX h h' → XS (t, w, x :: W, op, kn, u) h' → Q h') : wp_X3_hold (nI x) h Q := by
  obtain ⟨c, e2, e3, e4, e5, sk, ou⟩ := X
  have e2 : h.1 5 2 = nI W.length := e2
  unfold wp_X3_hold
  rw [e2, nI_clamp (by omega)]
  refine br_n (nI_ge (b := 72) hW (by omega)) ⟨pu_in hW (by decide), ?_⟩
  rintro _ rfl
  rw [ck_sI_ne _ _ _ (show (5 : Nat) ≠ 6 by decide), e2, nI_1]
  rintro _ rfl
  refine q _ ((FX.s _ _ (by omega)).tr (FX.s _ _ (by omega))) ⟨c.of (by rw [ck_sI_ne _ _ _ (by decide), ck_sI_ne _ _ _ (by decide)]), ck_sI_at .., by rw [ck_sI_nj _ _ (by decide), ck_sI_ne _ _ _ (by decide)]; exact e3, by rw [ck_sI_nj _ _ (by decide), ck_sI_ne _ _ _ (by decide)]; exact e4, by rw [ck_sI_nj _ _ (by decide), ck_sI_ne _ _ _ (by decide)]; exact e5, ⟨by rw [ck_sI_ne _ _ _ (by decide), ck_sI_at], sk.of (fun i hi => by rw [ck_sI_ne _ _ _ (by decide), ck_sI_nj _ _ (by have hi : i < W.length := hi; omega)])⟩, ou.of (by rw [ck_sI_ne _ _ _ (by decide), ck_sI_ne _ _ _ (by decide)]) (by rw [ck_sI_ne _ _ _ (by decide), ck_sI_ne _ _ _ (by decide)]) (by rw [ck_sI_ne _ _ _ (by decide), ck_sI_ne _ _ _ (by decide)])⟩
theorem ts119 {t : Tk} {n op kn : Nat} {W : List Nat} {u : List (Nat × Nat)} {h : ck_H} {Q : Int32 → ck_H → Prop} {nx : Tk → Tk} (X : XS (t, true, W, op, kn, u) h) (I : nIV n (t, true, W, op, kn, u)) (hk : t.1 = 31 ∨ t.1 = 2 ∨ (32 ≤ t.1 ∧ t.1 ≤ 38)) (h3 : t.1 = 31 → ¬ 3 < tpr W) (k64 : kn < 64) (h9 : t.1 = 2 → t.2.1 ≤ 9999)
    (q0 : ∀ h' w' W' op' kn' u', FX h h' → sst nx (t, true, W, op, kn, u) = (0, (nx t, w', W', op', kn', u')) → XS (t, w', W', op', kn', u') h' → nIV n (t, w', W', op', kn', u') → ¬ t.1 = 0 → Q 0 h') : wp_X3_takeSide_119 Q (nI t.1) h := by
  obtain ⟨T, ix, ifv, i8, inv, ik⟩ := I
  have T : TV n t := T
  have ix : ∀ x, x ∈ W → x = 5 ∨ 0 < rk x := ix
  have ifv : fv W = op := ifv
  have i8 : op ≤ 8 := i8
  have inv : u.length + nops W = kn := inv
  have fn := fv_np W
  unfold wp_X3_takeSide_119
  rw [X.2.2.2.1, nI_1]
  rintro _ rfl
  have X1 := X.s4 (kn' := kn + 1)
  have f1 : FX h (ck_sI h 5 4 (nI (kn + 1))) := FX.s _ _ (by omega)
  have i31 : nI t.1 = (31 : Int32) ↔ t.1 = 31 := nI_eq (b := 31) (by have := T.2.2.1; omega) (by omega)
  have i2 : nI t.1 = (2 : Int32) ↔ t.1 = 2 := nI_eq (b := 2) (by have := T.2.2.1; omega) (by omega)
  by_cases c31 : t.1 = 31
  · refine br_q (i31.mpr c31) ?_
    have ss := sst_not (nx := nx) (op := op) (kn := kn) (W := W) (u := u) c31 (by have := h3 c31; omega)
    rw [if_neg (by omega)] at ss
    refine tx_hold (x := 31) X1 (by omega) (fun h2 f2 X2 => q0 h2 _ _ _ _ _ (f1.tr f2) ss X2 ⟨T, ?_, ?_, i8, ?_, ?_⟩ (by omega))
    · intro x hx
      rcases List.mem_cons.mp hx with rfl | hx
      · exact Or.inr (by decide)
      · exact ix x hx
    · show (if (31 : Nat) = 5 then 1 else 0) + fv W = op
      rw [if_neg (by decide)]; omega
    · show u.length + ((if (31 : Nat) = 5 then 0 else 1) + nops W) = kn + 1
      rw [if_neg (by decide)]; omega
    · show kn + 1 ≤ 64; omega
  · refine br_m (fun z => c31 (i31.mp z)) ?_
    have ss := sst_leaf (nx := nx) (op := op) (kn := kn) (W := W) (u := u) (show (t.1 = 2 ∧ t.2.1 ≤ 9999) ∨ (32 ≤ t.1 ∧ t.1 ≤ 38) by omega)
    rw [if_neg (by omega)] at ss
    have fin : ∀ v, v = (if t.1 = 2 then t.2.1 else 0) → wp_X3_takeSide_162 Q (nI t.1) (nI v) (ck_sI h 5 4 (nI (kn + 1))) := by
      intro v hv
      rw [← hv] at ss
      unfold wp_X3_takeSide_162
      refine tx_kadd X1.2.2.2.2.2.2 (by show u.length < 64; omega) (fun h2 f2 a3 a5 a6 o2 => ?_)
      rintro _ rfl
      have X2 : XS (t, true, W, op, kn + 1, u ++ [(t.1, v)]) h2 := ⟨X1.1.of a3, by rw [a5]; exact X1.2.1, by rw [a5]; exact X1.2.2.1, by rw [a5]; exact X1.2.2.2.1, by rw [a5]; exact X1.2.2.2.2.1, X1.2.2.2.2.2.1.of (fun i _ => by rw [a6]), o2⟩
      refine q0 _ false _ _ _ _ ((f1.tr f2).tr (FX.s _ _ (by omega))) ss (X2.s5 (w' := false)) ⟨T, ix, ifv, i8, ?_, ?_⟩ (by omega)
      · show (u ++ [(t.1, v)]).length + nops W = kn + 1
        rw [List.length_append]; show u.length + 1 + nops W = kn + 1; omega
      · show kn + 1 ≤ 64; omega
    by_cases c2 : t.1 = 2
    · refine br_q (i2.mpr c2) ?_
      rw [X1.1.2.2.2.1 c2]
      exact fin _ (by rw [if_pos c2])
    · exact br_m (fun z => c2 (i2.mp z)) (fin 0 (by rw [if_neg c2]))
theorem tx_side {t : Tk} {n op kn : Nat} {W : List Nat} {u : List (Nat × Nat)} {h : ck_H} {Q : Int32 → ck_H → Prop} {nx : Tk → Tk} (X : XS (t, true, W, op, kn, u) h) (I : nIV n (t, true, W, op, kn, u))
    (q0 : ∀ h' w' W' op' kn' u', FX h h' → sst nx (t, true, W, op, kn, u) = (0, (nx t, w', W', op', kn', u')) → XS (t, w', W', op', kn', u') h' → nIV n (t, w', W', op', kn', u') → ¬ t.1 = 0 → Q 0 h')
    (q1 : ∀ h' f s1, (f = 1 ∨ f = 2) → FX h h' → sst nx (t, true, W, op, kn, u) = (f, (t, true, W, op, kn, u)) → XS s1 h' → nIV n s1 → s1.1 = t → Q (nI f) h') : wp_X3_takeSide h Q := by
  have I0 := I
  obtain ⟨T, ix, ifv, i8, inv, ik⟩ := I
  have T : TV n t := T
  have ix : ∀ x, x ∈ W → x = 5 ∨ 0 < rk x := ix
  have ifv : fv W = op := ifv
  have i8 : op ≤ 8 := i8
  have inv : u.length + nops W = kn := inv
  have ik : kn ≤ 64 := ik
  have fn := fv_np W
  have T : TV n t := T
  have t39 : t.1 < 39 := T.2.2.1
  have bad : ∀ f, (f = 1 ∨ f = 2) → sst nx (t, true, W, op, kn, u) = (f, (t, true, W, op, kn, u)) → Q (nI f) h := fun f hf ss => q1 h f _ hf (FX.rf h) ss X I0 rfl
  unfold wp_X3_takeSide
  rintro _ rfl
  rw [X.1.1]
  show (¬ nI t.1 = 5 → _) ∧ _
  have i31 : nI t.1 = (31 : Int32) ↔ t.1 = 31 := nI_eq (b := 31) (by omega) (by omega)
  have i5 : nI t.1 = (5 : Int32) ↔ t.1 = 5 := nI_eq (b := 5) (by omega) (by omega)
  have i2 : nI t.1 = (2 : Int32) ↔ t.1 = 2 := nI_eq (b := 2) (by omega) (by omega)
  by_cases c5 : t.1 = 5
  · refine br_q (i5.mpr c5) ?_
    have so := sst_open (nx := nx) (op := op) (kn := kn) (W := W) (u := u) c5
    unfold wp_X3_takeOpen
    rw [X.2.2.1]
    by_cases c8 : 8 ≤ op
    · rw [if_pos c8] at so
      exact br_n (nI_nlt (b := 8) c8 (by show op < 2 ^ 31; omega)) (bad 2 (Or.inr rfl) so)
    · rw [if_neg c8] at so
      refine br_p (nI_lt (b := 8) (by show op < 8; omega) (by omega)) ?_
      show ∀ h2, h2 = ck_sI h 5 3 (nI op + 1) → _
      rw [nI_1]
      rintro _ rfl
      refine tx_hold (x := 5) (X.s3 (op' := op + 1)) (by omega) (fun h2 f2 X2 => q0 h2 _ _ _ _ _ ((FX.s _ _ (by omega)).tr f2) so X2 ⟨T, ?_, ?_, ?_, ?_, ik⟩ (by omega))
      · intro x hx
        rcases List.mem_cons.mp hx with rfl | hx
        · exact Or.inl rfl
        · exact ix x hx
      · show (if (5 : Nat) = 5 then 1 else 0) + fv W = op + 1
        rw [if_pos rfl]; omega
      · show op + 1 ≤ 8; omega
      · show u.length + ((if (5 : Nat) = 5 then 0 else 1) + nops W) = kn
        rw [if_pos rfl]; omega
  · refine br_m (fun z => c5 (i5.mp z)) ?_
    have s90 : (t.1 = 31 ∨ t.1 = 2 ∨ (32 ≤ t.1 ∧ t.1 ≤ 38)) → (t.1 = 31 → ¬ 3 < tpr W) → wp_X3_takeSide_90 Q (nI t.1) h := by
      intro hk h3
      unfold wp_X3_takeSide_90
      rw [X.2.2.2.1]
      by_cases c64 : 64 ≤ kn
      · refine br_p (nI_le (a := 64) c64 (by show kn < 2 ^ 31; omega)) (bad 2 (Or.inr rfl) ?_)
        by_cases c31 : t.1 = 31
        · rw [sst_not c31 (by have := h3 c31; omega), if_pos c64]
        · by_cases c9 : t.1 = 2 ∧ 9999 < t.2.1
          · exact sst_big c9
          · rw [sst_leaf (by omega), if_pos c64]
      · refine br_n (nI_ge (b := 64) (by show kn < 64; omega) (by omega)) ?_
        by_cases c2 : t.1 = 2
        · refine br_q (i2.mpr c2) ?_
          rw [X.1.2.2.2.1 c2]
          have i9 : nI t.2.1 ≤ (9999 : Int32) ↔ t.2.1 ≤ 9999 := nI_leI (b := 9999) T.2.2.2.1 (by omega)
          by_cases c9 : t.2.1 ≤ 9999
          · exact br_p (i9.mpr c9) (ts119 X I0 hk h3 (by omega) (fun _ => c9) q0)
          · exact br_n (fun z => c9 (i9.mp z)) (bad 2 (Or.inr rfl) (sst_big ⟨c2, by omega⟩))
        · exact br_m (fun z => c2 (i2.mp z)) (ts119 X I0 hk h3 (by omega) (fun z => absurd z c2) q0)
    have s53 : (t.1 = 31 ∨ t.1 = 2 ∨ (32 ≤ t.1 ∧ t.1 ≤ 38)) → wp_X3_takeSide_53 Q (nI t.1) h := by
      intro hk
      unfold wp_X3_takeSide_53
      by_cases c31 : t.1 = 31
      · refine br_q (i31.mpr c31) ?_
        cases W with
        | nil =>
          rw [X.2.1]
          exact br_p (nI_le (b := 0) (Nat.le_refl _) (by omega)) (s90 hk (fun _ => by show ¬ 3 < 0; omega))
        | cons x l =>
          have e2 : h.1 5 2 = nI (l.length + 1) := X.2.1
          have ln : (x :: l).length = l.length + 1 := rfl
          have sk : h.1 6 l.length = nI x := X.2.2.2.2.2.1.1
          have hx0 := ix x (List.mem_cons_self ..)
          have x39 : x < 39 ∧ rk x ≤ 6 := by
            rcases hx0 with rfl | h0
            · decide
            · exact ⟨(rk_lt h0).1, (rk_lt h0).2.2⟩
          rw [e2, show nI (l.length + 1) - 1 = nI l.length from nI_pred _, nI_clamp (by omega), sk]
          refine br_n (nI_nle (by omega) (by omega)) ⟨pu_in (by omega) (by decide), tx_rank x39.1 (tx_rank (k := 31) (by omega) ?_)⟩
          by_cases c3 : rk x ≤ 3
          · exact br_p (nI_le (b := rk 31) c3 (by decide)) (s90 hk (fun _ => by show ¬ 3 < rk x; omega))
          · exact br_n (nI_ge (a := rk 31) (b := rk x) (by show 3 < rk x; omega) (by omega)) (bad 1 (Or.inl rfl) (sst_none c5 (by omega) (by omega) (fun _ => by show 3 < rk x; omega)))
      · exact br_m (fun z => c31 (i31.mp z)) (s90 hk (fun z => absurd z c31))
    have s35 : ∀ y0 : Int32, (y0 = 0 ∧ ¬ (32 ≤ t.1 ∧ t.1 ≤ 38)) ∨ (¬ y0 = 0 ∧ (32 ≤ t.1 ∧ t.1 ≤ 38)) → wp_X3_takeSide_35 Q (nI t.1) y0 h := by
      intro y0 hy
      unfold wp_X3_takeSide_35
      refine ⟨fun z => s53 (Or.inl (i31.mp z)), fun z1 => ⟨fun z => s53 (Or.inr (Or.inl (i2.mp z))), fun z2 => ⟨fun z => ?_, fun z => ?_⟩⟩⟩
      · rcases hy with ⟨y, _⟩ | ⟨_, y⟩
        · exact absurd y z
        · exact s53 (Or.inr (Or.inr y))
      · rcases hy with ⟨_, y⟩ | ⟨y, _⟩
        · exact bad 1 (Or.inl rfl) (sst_none c5 (fun e => z2 (i2.mpr e)) y (fun e => absurd (i31.mpr e) z1))
        · exact absurd z y
    have il : nI t.1 < (32 : Int32) ↔ t.1 < 32 := nI_ltI (b := 32) (by omega) (by omega)
    have ig : (38 : Int32) < nI t.1 ↔ 38 < t.1 := nI_ltI (a := 38) (by omega) (by omega)
    refine ⟨fun z => s35 0 (Or.inl ⟨rfl, by have := il.mp z; omega⟩), fun z1 => ⟨fun z => s35 0 (Or.inl ⟨rfl, by have := ig.mp z; omega⟩), fun z2 => s35 1 (Or.inr ⟨by decide, ?_⟩)⟩⟩
    have a1 : ¬ t.1 < 32 := fun z => z1 (il.mpr z)
    have a2 : ¬ 38 < t.1 := fun z => z2 (ig.mpr z)
    omega
