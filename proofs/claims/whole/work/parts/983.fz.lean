theorem sst_sign {nx : Tk → Tk} {t : Tk} {op kn : Nat} {W : List Nat} {u : List (Nat × Nat)} (hb : 0 < bop t.1) : sst nx (t, false, W, op, kn, u) = if bop t.1 = 4 ∧ tpr (rl 5 W u).1 = 4 then (1, (t, false, W, op, kn, u)) else if 64 ≤ kn then (2, (t, false, W, op, kn, u)) else (0, (nx t, true, t.1 :: (rl (if bop t.1 = 4 then 5 else bop t.1) W u).1, op, kn + 1, (rl (if bop t.1 = 4 then 5 else bop t.1) W u).2)) := by
  have n6 : ¬ t.1 = 6 := fun z => by rw [z] at hb; exact absurd hb (by decide)
  show (if false = true then _ else (if t.1 = 6 then _ else if bop t.1 = 0 then _ else _)) = _
  rw [if_neg (by decide), if_neg n6, if_neg (by omega)]
theorem tx_sign {t : Tk} {n op kn : Nat} {W : List Nat} {u : List (Nat × Nat)} {h : ck_H} {Q : Int32 → ck_H → Prop} {nx : Tk → Tk} (X : XS (t, false, W, op, kn, u) h) (I : nIV n (t, false, W, op, kn, u)) (hk : (t.1 = 6 ∧ 0 < op) ∨ 0 < bop t.1)
    (q0 : ∀ h' w' W' op' kn' u', FX h h' → sst nx (t, false, W, op, kn, u) = (0, (nx t, w', W', op', kn', u')) → XS (t, w', W', op', kn', u') h' → nIV n (t, w', W', op', kn', u') → ¬ t.1 = 0 → Q 0 h')
    (q1 : ∀ h' f s1, (f = 1 ∨ f = 2) → FX h h' → sst nx (t, false, W, op, kn, u) = (f, (t, false, W, op, kn, u)) → XS s1 h' → nIV n s1 → s1.1 = t → Q (nI f) h') : wp_X3_takeSign h Q := by
  obtain ⟨T, ix, ifv, i8, inv, ik⟩ := I
  have T : TV n t := T
  have ix : ∀ x, x ∈ W → x = 5 ∨ 0 < rk x := ix
  have ifv : fv W = op := ifv
  have i8 : op ≤ 8 := i8
  have inv : u.length + nops W = kn := inv
  have ik : kn ≤ 64 := ik
  have fn := fv_np W
  have t39 : t.1 < 39 := T.2.2.1
  have e34 : h.1 3 4 = nI t.1 := X.1.1
  unfold wp_X3_takeSign
  rintro _ rfl
  rw [e34]
  have i6 : nI t.1 = (6 : Int32) ↔ t.1 = 6 := nI_eq (b := 6) (by omega) (by omega)
  by_cases c6 : t.1 = 6
  · have hop : 0 < op := by
      rcases hk with ⟨_, z⟩ | z
      · exact z
      · rw [c6] at z; exact absurd z (by decide)
    have ss := sst_close (nx := nx) (op := op) (kn := kn) (W := W) (u := u) c6 hop
    have rv := rl_iv (lo := 1) (by omega) W u ix
    refine br_q (i6.mpr c6) (tx_rank (k := 29) (by omega) ?_)
    unfold wp_X3_release
    refine tx_rel (lo := 1) (n := n) (by omega) (by omega) lpN W u h (by unfold lpN; omega) X ix (by omega) (by omega) (fun h1 f1 X1 => ?_)
    generalize rl 1 W u = r at ss rv X1
    obtain ⟨W', u'⟩ := r
    have rv1 : ∀ x, x ∈ W' → x = 5 ∨ 0 < rk x := rv.1
    have rv2 : fv W' = fv W := rv.2.1
    have rv3 : u'.length + nops W' = u.length + nops W := rv.2.2.1
    have X1 : XS (t, false, W', op, kn, u') h1 := X1
    rcases rv.2.2.2 with z | ⟨x, l, z, hx⟩
    · have z : W' = [] := z
      rw [z] at rv2
      have : fv ([] : List Nat) = 0 := rfl
      omega
    · have z : W' = x :: l := z
      subst z
      have x5 : x = 5 := by
        rcases rv1 x (List.mem_cons_self ..) with y | y
        · exact y
        · omega
      subst x5
      have ss : sst nx (t, false, W, op, kn, u) = (0, (nx t, false, l, op - 1, kn, u')) := ss
      have rv2 : (if (5 : Nat) = 5 then 1 else 0) + fv l = fv W := rv2
      rw [if_pos rfl] at rv2
      have rv3 : u'.length + ((if (5 : Nat) = 5 then 0 else 1) + nops l) = u.length + nops W := rv3
      rw [if_pos rfl] at rv3
      obtain ⟨c, e2, e3, e4, e5, sk, ou⟩ := X1
      have e2 : h1.1 5 2 = nI (l.length + 1) := e2
      have e3 : h1.1 5 3 = nI op := e3
      have fl := fv_np l
      unfold wp_X3_dropOpen
      refine br_n (by rw [e2]; exact nI_nle (by omega) (by omega)) ?_
      rw [e2, show nI (l.length + 1) - 1 = nI l.length from nI_pred _]
      rintro _ rfl
      unfold wp_X3_dropOpen_17
      rw [ck_sI_nj _ _ (show (3 : Nat) ≠ 2 by decide), e3, show nI op - 1 = nI (op - 1) by
        have := nI_pred (op - 1)
        rw [show op - 1 + 1 = op by omega] at this
        exact this]
      rintro _ rfl
      have X2 : XS (t, false, l, op, kn, u') (ck_sI h1 5 2 (nI l.length)) := ⟨c.of (ck_sI_ne _ _ _ (by decide)), ck_sI_at .., by rw [ck_sI_nj _ _ (by decide)]; exact e3, by rw [ck_sI_nj _ _ (by decide)]; exact e4, by rw [ck_sI_nj _ _ (by decide)]; exact e5, sk.2.of (fun i _ => by rw [ck_sI_ne _ _ _ (by decide)]), ou.of (by rw [ck_sI_ne _ _ _ (by decide)]) (ck_sI_ne _ _ _ (by decide)) (ck_sI_ne _ _ _ (by decide))⟩
      refine q0 _ _ _ _ _ _ ((f1.tr (FX.s _ _ (by omega))).tr (FX.s _ _ (by omega))) ss (X2.s3 (op' := op - 1)) ⟨T, fun y hy => rv1 y (List.mem_cons_of_mem _ hy), ?_, ?_, ?_, ik⟩ (by omega)
      · show fv l = op - 1; omega
      · show op - 1 ≤ 8; omega
      · show u'.length + nops l = kn; omega
  · have hb : 0 < bop t.1 := by
      rcases hk with ⟨z, _⟩ | z
      · exact absurd z c6
      · exact z
    have bk := bop_k t.1
    have rb := (bk.2.2.2.2.2.2.2 hb).1
    have ss := sst_sign (nx := nx) (op := op) (kn := kn) (W := W) (u := u) hb
    refine br_m (fun z => c6 (i6.mp z)) (tx_rank t39 (tx_rank (k := 11) (by omega) ?_))
    have s100 : ∀ (W' : List Nat) (u' : List (Nat × Nat)) (h1 : ck_H), FX h h1 → XS (t, false, W', op, kn, u') h1 → (∀ x, x ∈ W' → x = 5 ∨ 0 < rk x) → fv W' = op → u'.length + nops W' = kn → sst nx (t, false, W, op, kn, u) = (if 64 ≤ kn then (2, (t, false, W, op, kn, u)) else (0, (nx t, true, t.1 :: W', op, kn + 1, u'))) → wp_X3_takeSign_100 Q (nI t.1) h1 := by
      intro W' u' h1 f1 X1 a1 a2 a3 ss
      have fl := fv_np W'
      unfold wp_X3_takeSign_100
      rw [X1.2.2.2.1]
      show (nI kn < 64 → ∀ h12, h12 = ck_sI h1 5 4 (nI kn + 1) → _) ∧ _
      by_cases c64 : 64 ≤ kn
      · rw [if_pos c64] at ss
        exact br_n (nI_nlt (b := 64) c64 (by omega)) (q1 h1 2 _ (Or.inr rfl) f1 ss X1 ⟨T, a1, a2, i8, a3, ik⟩ rfl)
      · rw [if_neg c64] at ss
        refine br_p (nI_lt (b := 64) (by omega) (by omega)) ?_
        rw [nI_1]
        rintro _ rfl
        refine tx_hold (X1.s4 (kn' := kn + 1)) (by omega) (fun h2 f2 X2 => ?_)
        rintro _ rfl
        have n5 : ¬ t.1 = 5 := fun z => by rw [z] at hb; exact absurd hb (by decide)
        refine q0 _ true _ _ _ _ ((f1.tr (FX.s _ _ (by omega))).tr (f2.tr (FX.s _ _ (by omega)))) ss (X2.s5 (w' := true)) ⟨T, ?_, ?_, i8, ?_, ?_⟩ (fun z => by rw [z] at hb; exact absurd hb (by decide))
        · intro x hx
          rcases List.mem_cons.mp hx with rfl | hx
          · exact Or.inr (by omega)
          · exact a1 x hx
        · show (if t.1 = 5 then 1 else 0) + fv W' = op
          rw [if_neg n5]; omega
        · show u'.length + ((if t.1 = 5 then 0 else 1) + nops W') = kn + 1
          rw [if_neg n5]; omega
        · show kn + 1 ≤ 64; omega
    by_cases c4 : bop t.1 = 4
    · rw [if_pos c4] at ss
      have rv := rl_iv (lo := 5) (by omega) W u ix
      refine br_q (by rw [rb, c4]; decide) ?_
      unfold wp_X3_takeSign_49
      refine br_n (by decide) ?_
      unfold wp_X3_takeSign_65 wp_X3_release
      rw [show nI (rk t.1) + 1 = nI 5 by rw [rb, c4]; decide]
      refine tx_rel (lo := 5) (n := n) (by omega) (by omega) lpN W u h (by unfold lpN; omega) X ix (by omega) (by omega) (fun h1 f1 X1 => br_n (by decide) ?_)
      generalize rl 5 W u = r at ss rv X1
      obtain ⟨W', u'⟩ := r
      have rv1 : ∀ x, x ∈ W' → x = 5 ∨ 0 < rk x := rv.1
      have rv2 : fv W' = fv W := rv.2.1
      have rv3 : u'.length + nops W' = u.length + nops W := rv.2.2.1
      have X1 : XS (t, false, W', op, kn, u') h1 := X1
      have ss : sst nx (t, false, W, op, kn, u) = if bop t.1 = 4 ∧ tpr W' = 4 then (1, (t, false, W, op, kn, u)) else if 64 ≤ kn then (2, (t, false, W, op, kn, u)) else (0, (nx t, true, t.1 :: W', op, kn + 1, u')) := ss
      have fl := fv_np W'
      cases W' with
      | nil =>
        rw [X1.2.1]
        rw [if_neg (by show ¬ (bop t.1 = 4 ∧ 0 = 4); omega)] at ss
        exact br_p (nI_le (b := 0) (Nat.le_refl _) (by omega)) (s100 _ _ h1 f1 X1 rv1 (by omega) (by omega) ss)
      | cons x l =>
        have e2 : h1.1 5 2 = nI (l.length + 1) := X1.2.1
        have ln : (x :: l).length = l.length + 1 := rfl
        have sk : h1.1 6 l.length = nI x := X1.2.2.2.2.2.1.1
        have hx0 := rv1 x (List.mem_cons_self ..)
        have x39 : x < 39 ∧ rk x ≤ 6 := by
          rcases hx0 with rfl | h0
          · decide
          · exact ⟨(rk_lt h0).1, (rk_lt h0).2.2⟩
        rw [e2, show nI (l.length + 1) - 1 = nI l.length from nI_pred _, nI_clamp (by omega), sk]
        refine br_n (nI_nle (by omega) (by omega)) ⟨pu_in (by omega) (by decide), tx_rank x39.1 ?_⟩
        have ir : nI (rk x) = nI (rk t.1) ↔ rk x = rk t.1 := nI_eq (by omega) (by omega)
        by_cases cr : rk x = 4
        · rw [if_pos ⟨c4, cr⟩] at ss
          exact br_q (ir.mpr (by omega)) (q1 h1 1 _ (Or.inl rfl) f1 ss X1 ⟨T, rv1, by show fv (x :: l) = op; omega, i8, by show u'.length + nops (x :: l) = kn; omega, ik⟩ rfl)
        · rw [if_neg (fun z => cr z.2)] at ss
          exact br_m (fun z => cr (by have := ir.mp z; omega)) (s100 _ _ h1 f1 X1 rv1 (by omega) (by omega) ss)
    · rw [if_neg (fun z => c4 z.1), if_neg c4] at ss
      have rv := rl_iv (lo := bop t.1) (by omega) W u ix
      have ir : nI (rk t.1) = nI (rk 11) ↔ rk t.1 = 4 := nI_eq (a := rk t.1) (b := 4) (by omega) (by omega)
      refine br_m (fun z => c4 (by have := ir.mp z; omega)) ?_
      unfold wp_X3_takeSign_49
      refine br_p rfl ?_
      unfold wp_X3_takeSign_65 wp_X3_release
      rw [rb]
      refine tx_rel (lo := bop t.1) (n := n) (by omega) (by omega) lpN W u h (by unfold lpN; omega) X ix (by omega) (by omega) (fun h1 f1 X1 => br_p rfl ?_)
      exact s100 _ _ h1 f1 X1 rv.1 (by omega) (by omega) ss
