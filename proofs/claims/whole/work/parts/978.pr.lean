/-! a side, read -/
theorem sst_open {nx : Tk → Tk} {t : Tk} {op kn : Nat} {W : List Nat} {u : List (Nat × Nat)} (h5 : t.1 = 5) : sst nx (t, true, W, op, kn, u) = if 8 ≤ op then (2, (t, true, W, op, kn, u)) else (0, (nx t, true, 5 :: W, op + 1, kn, u)) := by
  show (if true = true then (if t.1 = 5 then _ else _) else _) = _
  rw [if_pos rfl, if_pos h5]
theorem sst_leaf {nx : Tk → Tk} {t : Tk} {op kn : Nat} {W : List Nat} {u : List (Nat × Nat)} (h : (t.1 = 2 ∧ t.2.1 ≤ 9999) ∨ (32 ≤ t.1 ∧ t.1 ≤ 38)) : sst nx (t, true, W, op, kn, u) = if 64 ≤ kn then (2, (t, true, W, op, kn, u)) else (0, (nx t, false, W, op, kn + 1, u ++ [(t.1, if t.1 = 2 then t.2.1 else 0)])) := by
  show (if true = true then (if t.1 = 5 then _ else if ¬ t.1 = 31 ∧ ¬ t.1 = 2 ∧ ¬ (32 ≤ t.1 ∧ t.1 ≤ 38) then _ else if t.1 = 31 ∧ 3 < tpr W then _ else if 64 ≤ kn ∨ (t.1 = 2 ∧ 9999 < t.2.1) then _ else if t.1 = 31 then _ else _) else _) = _
  rw [if_pos rfl, if_neg (by omega), if_neg (by omega), if_neg (by omega), if_neg (show ¬ t.1 = 31 by omega)]
  by_cases c : 64 ≤ kn
  · rw [if_pos (Or.inl c), if_pos c]
  · rw [if_neg (by omega), if_neg c]
theorem sst_big {nx : Tk → Tk} {t : Tk} {op kn : Nat} {W : List Nat} {u : List (Nat × Nat)} (h : t.1 = 2 ∧ 9999 < t.2.1) : sst nx (t, true, W, op, kn, u) = (2, (t, true, W, op, kn, u)) := by
  show (if true = true then (if t.1 = 5 then _ else if ¬ t.1 = 31 ∧ ¬ t.1 = 2 ∧ ¬ (32 ≤ t.1 ∧ t.1 ≤ 38) then _ else if t.1 = 31 ∧ 3 < tpr W then _ else if 64 ≤ kn ∨ (t.1 = 2 ∧ 9999 < t.2.1) then _ else if t.1 = 31 then _ else _) else _) = _
  rw [if_pos rfl, if_neg (by omega), if_neg (by omega), if_neg (by omega), if_pos (Or.inr h)]
theorem sst_none {nx : Tk → Tk} {t : Tk} {op kn : Nat} {W : List Nat} {u : List (Nat × Nat)} (h5 : ¬ t.1 = 5) (h2 : ¬ t.1 = 2) (h3 : ¬ (32 ≤ t.1 ∧ t.1 ≤ 38)) (h31 : t.1 = 31 → 3 < tpr W) : sst nx (t, true, W, op, kn, u) = (1, (t, true, W, op, kn, u)) := by
  show (if true = true then (if t.1 = 5 then _ else if ¬ t.1 = 31 ∧ ¬ t.1 = 2 ∧ ¬ (32 ≤ t.1 ∧ t.1 ≤ 38) then _ else if t.1 = 31 ∧ 3 < tpr W then _ else if 64 ≤ kn ∨ (t.1 = 2 ∧ 9999 < t.2.1) then _ else if t.1 = 31 then _ else _) else _) = _
  rw [if_pos rfl, if_neg h5]
  by_cases c : t.1 = 31
  · rw [if_neg (by omega), if_pos ⟨c, h31 c⟩]
  · rw [if_pos ⟨c, h2, h3⟩]
theorem sst_not {nx : Tk → Tk} {t : Tk} {op kn : Nat} {W : List Nat} {u : List (Nat × Nat)} (h : t.1 = 31) (hW : tpr W < 4) : sst nx (t, true, W, op, kn, u) = if 64 ≤ kn then (2, (t, true, W, op, kn, u)) else (0, (nx t, true, 31 :: W, op, kn + 1, u)) := by
  show (if true = true then (if t.1 = 5 then _ else if ¬ t.1 = 31 ∧ ¬ t.1 = 2 ∧ ¬ (32 ≤ t.1 ∧ t.1 ≤ 38) then _ else if t.1 = 31 ∧ 3 < tpr W then _ else if 64 ≤ kn ∨ (t.1 = 2 ∧ 9999 < t.2.1) then _ else if t.1 = 31 then _ else _) else _) = _
  rw [if_pos rfl, if_neg (by omega), if_neg (by omega), if_neg (by omega), if_pos h]
  by_cases c : 64 ≤ kn
  · rw [if_pos (Or.inl c), if_pos c]
  · rw [if_neg (by omega), if_neg c]
theorem sst_end {nx : Tk → Tk} {t : Tk} {op kn : Nat} {W : List Nat} {u : List (Nat × Nat)} (h6 : ¬ t.1 = 6) (h0 : bop t.1 = 0) : sst nx (t, false, W, op, kn, u) = (9, (t, false, W, op, kn, u)) := by
  show (if false = true then _ else (if t.1 = 6 then _ else if bop t.1 = 0 then _ else _)) = _
  rw [if_neg (by decide), if_neg h6, if_pos h0]
theorem sst_close {nx : Tk → Tk} {t : Tk} {op kn : Nat} {W : List Nat} {u : List (Nat × Nat)} (h6 : t.1 = 6) (h0 : 0 < op) : sst nx (t, false, W, op, kn, u) = (0, (nx t, false, (rl 1 W u).1.tail, op - 1, kn, (rl 1 W u).2)) := by
  show (if false = true then _ else (if t.1 = 6 then (if op = 0 then _ else _) else _)) = _
  rw [if_neg (by decide), if_pos h6, if_neg (by omega)]
theorem SM.op {t : Tk} {op op' kn : Nat} {u : List (Nat × Nat)} {m : ck_H} {v : Int32} (S0 : SM t op kn u m) (hv : v = nI op') : FM m (ck_sI m 0 30 v) ∧ SM t op' kn u (ck_sI m 0 30 v) := by
  obtain ⟨c, e26, e30, e31, e13, eu⟩ := S0
  refine ⟨FM.s0 m _ (by omega), c.ft (fun i h1 h2 => ck_sI_nj _ _ (by omega)), by rw [ck_sI_nj _ _ (by decide)]; exact e26, by rw [ck_sI_at]; exact hv, by rw [ck_sI_nj _ _ (by decide)]; exact e31, by rw [ck_sI_ne _ _ _ (by decide)]; exact e13, by rw [ck_sI_ne _ _ _ (by decide), ck_sI_ne _ _ _ (by decide)]; exact eu⟩
theorem pr215F {Q : ck_H → Prop} {E : ck_H → (ck_H → Prop) → Prop} {y1 y2 : Int32} {m : ck_H} (e : ¬ m.1 0 26 = 0) (q : Q m) : wp_X12_primary_215 Q E y1 y2 m := by
  unfold wp_X12_primary_215
  exact mm_putsF e (mm_goOnF e q)
theorem pr184F {Q : ck_H → Prop} {E : ck_H → (ck_H → Prop) → Prop} {x1 y1 : Int32} {m : ck_H} (e : ¬ m.1 0 26 = 0) (q : Q m) : wp_X12_primary_184 Q E x1 y1 m :=
  ⟨fun _ => ⟨fun _ => pr215F e q, fun _ => pr215F e q⟩, fun _ => pr215F e q⟩
theorem pr170F {Q : ck_H → Prop} {E : ck_H → (ck_H → Prop) → Prop} {x1 : Int32} {m : ck_H} (e : ¬ m.1 0 26 = 0) (q : Q m) : wp_X12_primary_170 Q E x1 m := by
  unfold wp_X12_primary_170
  exact mm_knotF e ⟨fun _ => pr184F e q, fun _ => pr184F e q⟩
theorem nm_tab : ∀ k, k < 39 → (32 ≤ k → tk_srt k = 0 ∧ (k = 36 → tk_cod k = 3) ∧ (¬ k = 36 → 13 ≤ tk_cod k ∧ tk_cod k ≤ 18)) ∧ (tk_srt k = 0 → (13 ≤ tk_cod k ∨ tk_cod k = 3) → 32 ≤ k) ∧ (tk_srt k = 0 → 4 ≤ k) ∧ (¬ k = 2 → ¬ tk_srt k = 2) := by decide +kernel
theorem nm_kr {k : Nat} (h1 : 32 ≤ k) (h2 : k ≤ 38) : ev_kr (nI k) (nI 0) 1 (if k = 36 then 6 else nI (tk_cod k) - 13) := by
  refine Or.inr (Or.inr (Or.inr ⟨rfl, ?_⟩))
  have : k = 32 ∨ k = 33 ∨ k = 34 ∨ k = 35 ∨ k = 36 ∨ k = 37 ∨ k = 38 := by omega
  rcases this with rfl | rfl | rfl | rfl | rfl | rfl | rfl <;> (repeat (first | exact ⟨by decide, by decide⟩ | exact Or.inl ⟨by decide, by decide⟩ | refine Or.inr ?_))
/-- a number or a name, taken -/
theorem pr170 {b : Nat → Nat} {n o : Nat} {t : Tk} {W : List Nat} {op kn : Nat} {u : List (Nat × Nat)} {m : ck_H} {Q : ck_H → Prop} {E : ck_H → (ck_H → Prop) → Prop} {x1 : Int32} (L : LY b n m) (T : TV n t) (S0 : SM t op kn u m) (k64 : kn ≤ 64) (inv : u.length + nops W = kn) (hx : (t.1 = 2 ∧ t.2.1 ≤ 9999 ∧ x1 = 1) ∨ (32 ≤ t.1 ∧ t.1 ≤ 38 ∧ x1 = 0))
    (q : ∀ m', nOT b n 7 7 kn t W op kn u m m' → Q m') : wp_X12_primary_170 Q E x1 m := by
  have ss := sst_leaf (nx := nxt b n) (op := op) (kn := kn) (W := W) (u := u) (show (t.1 = 2 ∧ t.2.1 ≤ 9999) ∨ (32 ≤ t.1 ∧ t.1 ≤ 38) by omega)
  unfold wp_X12_primary_170
  refine mm_knot S0 k64 (fun klt m1 f1 s1 => ?_) (fun ke m1 fa => ?_)
  · rw [if_neg (by omega)] at ss
    have fin : ∀ y1 y2 v, v = (if t.1 = 2 then t.2.1 else 0) → ev_kr (nI t.1) (nI v) y1 y2 → wp_X12_primary_215 Q E y1 y2 m1 := by
      intro y1 y2 v hv hk
      rw [← hv] at ss
      unfold wp_X12_primary_215
      refine mm_puts s1 (by omega) hk (fun m2 f2 s2 => mm_goOn ((f1.tr f2).ly L) T s2 (fun m3 f3 L3 T3 s3 => q m3 ⟨f1.tr (f2.tr f3), Or.inl ⟨nxt b n t, kn + 1, [(t.1, v)], [], u ++ [(t.1, v)], T3, s3, by omega, ?_, by omega, up1_one (by omega), ?_, fun x hx => ?_, ?_, SyS.one ss, fun z => ?_⟩⟩))
      · rw [List.length_append]; show _ + 1 + _ = _; omega
      · have := (bop_k (nxt b n t).1).2.2.2.2.2.1; omega
      · cases hx
      · exact List.append_nil _
      · omega
    rcases hx with ⟨h2, h9, rfl⟩ | ⟨h1, h2, rfl⟩
    · refine br_n (by decide) ?_
      refine br_n (by decide) (fin _ _ _ rfl ?_)
      rw [s1.1.2.2.2.1 (Or.inl h2), if_pos h2, h2]
      exact Or.inl ⟨by decide, rfl, rfl⟩
    · refine br_p rfl ?_
      refine br_p rfl ?_
      have nt := (nm_tab t.1 T.2.2.1).1 h1
      have e25 := s1.1.2.2.2.2 (by omega)
      have kr := nm_kr h1 h2
      have ne2 : 0 = (if t.1 = 2 then t.2.1 else 0) := by rw [if_neg (by omega)]
      by_cases c : t.1 = 36
      · rw [if_pos c] at kr
        exact br_q (by rw [e25, nt.2.1 c]; decide) (fin _ _ _ ne2 kr)
      · rw [if_neg c, ← e25] at kr
        refine br_m (fun z => ?_) (fin _ _ _ ne2 kr)
        rw [e25] at z
        have := nt.2.2 c
        have := (nI_eq (a := tk_cod t.1) (b := 3) (by omega) (by omega)).mp z
        omega
  · rw [if_pos (by omega)] at ss
    have w : Q m1 := q m1 ⟨fa.1, Or.inr (Or.inr ⟨2, t.2.2.1, Or.inr rfl, fa.2.2.1, fa.2.2.2, SyB.one ss (Or.inr rfl)⟩)⟩
    exact ⟨fun _ => pr184F fa.n0 w, fun _ => pr184F fa.n0 w⟩
theorem nt_primary {b : Nat → Nat} {n o : Nat} {E : ck_H → (ck_H → Prop) → Prop} (hE : nNT b n 1 1 (o + 1) 0 E) : nNT b n 7 7 o 0 (wp_X12_primary E) := by
  intro t W op kn u m Q L T S0 k64 op8 ho _ inv hW h31 q
  have e26 := S0.2.1
  have e30 := S0.2.2.1
  unfold wp_X12_primary
  refine br_p e26 ?_
  rw [show (40 : Int32) = nI (tk_cod 5) by decide]
  refine mm_isSign (q := 5) T S0.1 e26 (by omega) (by omega) (fun t5 => br_n (by decide) ?_) (fun t5 => br_p rfl ?_)
  · have so := sst_open (nx := nxt b n) (op := op) (kn := kn) (W := W) (u := u) t5
    have i8 : nI op = (8 : Int32) ↔ op = 8 := nI_eq (b := 8) (by omega) (by omega)
    by_cases c8 : op = 8
    · rw [if_pos (by omega)] at so
      refine br_q (by rw [e30]; exact i8.mpr c8) (mm_wrong (f := 2) S0.1 e26 (Or.inr rfl) (fun m1 fa => ?_))
      unfold wp_X12_primary_31
      exact br_n fa.n0 (q m1 ⟨fa.1, Or.inr (Or.inr ⟨2, t.2.2.1, Or.inr rfl, fa.2.2.1, fa.2.2.2, SyB.one so (Or.inr rfl)⟩)⟩)
    · rw [if_neg (by omega)] at so
      have so := SyS.one so
      refine br_m (fun z => c8 (i8.mp (by rw [e30] at z; exact z))) ?_
      unfold wp_X12_primary_31
      refine br_p e26 ?_
      rintro _ rfl
      have S1 := S0.op (op' := op + 1) (v := m.1 0 30 + 1) (by rw [e30, nI_1])
      refine mm_tok (S1.1.ly L) T S1.2 (fun m2 f2 L2 T2 S2 => ?_)
      have np : nops (5 :: W) = nops W := by show (if (5 : Nat) = 5 then 0 else 1) + nops W = _; rw [if_pos rfl, Nat.zero_add]
      refine hE (nxt b n t) (5 :: W) (op + 1) kn u m2 _ L2 T2 S2 k64 (by omega) (by omega) (by omega) (by rw [np]; exact inv) (by show rk 5 < 1; decide) (fun z => by omega) (fun m3 o3 => ?_)
      obtain ⟨f3, ⟨t', kn', e', P', u1', T', S', k', i', c', up', b', hP', hu', sy', _⟩ | ⟨_, t', kn', e', T', S', k', i', b', sb'⟩ | bd3⟩ := o3
      · rw [np] at i'
        refine br_q S'.2.1 ?_
        rw [show (41 : Int32) = nI (tk_cod 6) by decide]
        refine mm_isSign (q := 6) T' S'.1 S'.2.1 (by omega) (by omega) (fun t6 => br_m (by decide) ?_) (fun t6 => br_q rfl ?_)
        · unfold wp_X12_primary_78
          refine br_p S'.2.1 ?_
          rintro _ rfl
          have S5 := S'.op (op' := op) (v := m3.1 0 30 - 1) (by rw [S'.2.2.1]; exact nI_pred op)
          have sc := sst_close (nx := nxt b n) (op := op + 1) (kn := kn') (W := P' ++ 5 :: W) (u := u1') t6 (by omega)
          rw [rl_all P' (5 :: W) u1' hP' (by show rk 5 < 1; decide), hu'] at sc
          refine mm_tok (((S1.1.tr (f2.tr f3)).tr S5.1).ly L) T' S5.2 (fun m6 f6 L6 T6 S6 => q m6 ⟨((S1.1.tr (f2.tr f3)).tr S5.1).tr f6, Or.inl ⟨nxt b n t', kn', e', [], u ++ e', T6, S6, k', i', c', up', ?_, fun x hx => ?_, List.append_nil _, so.tr (sy'.tr (SyS.one sc)), fun z => ?_⟩⟩)
          · have := (bop_k (nxt b n t').1).2.2.2.2.2.1; omega
          · cases hx
          · omega
        · refine mm_wrong (f := 1) S'.1 S'.2.1 (Or.inl rfl) (fun m4 fa => ?_)
          unfold wp_X12_primary_78
          exact br_n fa.n0 (q m4 ⟨(S1.1.tr (f2.tr f3)).tr fa.1, Or.inr (Or.inr ⟨1, t'.2.2.1, Or.inl rfl, fa.2.2.1, fa.2.2.2, so.bad (sy'.bad (SyB.end9 (sst_end t6 (by omega)) (Nat.succ_pos _)))⟩)⟩)
      · refine br_q S'.2.1 ?_
        rw [show (41 : Int32) = nI (tk_cod 6) by decide]
        have t4 := (bop_k t'.1).2.2.1.mp b'
        refine mm_isSign (q := 6) T' S'.1 S'.2.1 (by omega) (by omega) (fun t6 => by omega) (fun t6 => br_q rfl ?_)
        refine mm_wrong (f := 1) S'.1 S'.2.1 (Or.inl rfl) (fun m4 fa => ?_)
        unfold wp_X12_primary_78
        exact br_n fa.n0 (q m4 ⟨(S1.1.tr (f2.tr f3)).tr fa.1, Or.inr (Or.inr ⟨1, t'.2.2.1, Or.inl rfl, fa.2.2.1, fa.2.2.2, so.bad sb'⟩)⟩)
      · refine br_m bd3.n0 ?_
        unfold wp_X12_primary_78
        refine br_n bd3.n0 (q m3 ⟨S1.1.tr (f2.tr f3), Or.inr (Or.inr ?_)⟩)
        obtain ⟨f, p, hf', e1, e2, sb⟩ := bd3
        exact ⟨f, p, hf', e1, e2, so.bad sb⟩
  · have e24 := S0.1.1
    have tb := nm_tab t.1 T.2.2.1
    have sl := srt_lt t.1 T.2.2.1
    by_cases c2 : t.1 = 2
    · refine br_q (by rw [e24, c2]; decide) ?_
      have e25 := S0.1.2.2.2.1 (Or.inl c2)
      unfold wp_X12_primary_114
      refine br_n (by decide) ?_
      have i9 : nI t.2.1 ≤ (9999 : Int32) ↔ t.2.1 ≤ 9999 := nI_leI (b := 9999) T.2.2.2.1 (by omega)
      by_cases c9 : t.2.1 ≤ 9999
      · refine br_p (by rw [e25]; exact i9.mpr c9) ?_
        unfold wp_X12_primary_137
        exact br_m (by decide) (pr170 (o := o) L T S0 k64 inv (Or.inl ⟨c2, c9, rfl⟩) q)
      · refine br_n (fun z => c9 (i9.mp (by rw [e25] at z; exact z))) (mm_wrong (f := 2) S0.1 e26 (Or.inr rfl) (fun m1 fa => pr170F fa.n0 (q m1 ⟨fa.1, Or.inr (Or.inr ⟨2, t.2.2.1, Or.inr rfl, fa.2.2.1, fa.2.2.2, SyB.one (sst_big ⟨c2, by omega⟩) (Or.inr rfl)⟩)⟩)))
    · have i2 : ¬ nI (tk_srt t.1) = (2 : Int32) := fun z => tb.2.2.2 c2 ((nI_eq (b := 2) (by omega) (by omega)).mp z)
      refine br_m (by rw [e24]; exact i2) ?_
      unfold wp_X12_primary_114
      refine br_p rfl ?_
      unfold wp_X12_primary_137
      refine br_q rfl ?_
      have i0 : nI (tk_srt t.1) = (0 : Int32) ↔ tk_srt t.1 = 0 := nI_eq (b := 0) (by omega) (by omega)
      by_cases cw : 32 ≤ t.1 ∧ t.1 ≤ 38
      · have nt := tb.1 cw.1
        have e25 := S0.1.2.2.2.2 (by omega)
        refine br_q (by rw [e24]; exact i0.mpr nt.1) ?_
        rw [e25]
        have go := pr170 (o := o) (E := E) (x1 := 0) L T S0 k64 inv (Or.inr ⟨cw.1, cw.2, rfl⟩) q
        by_cases c : t.1 = 36
        · rw [nt.2.1 c]
          exact br_n (by decide) (br_p (by decide) go)
        · exact br_p (nI_le (a := 13) (nt.2.2 c).1 (by have := nt.2.2 c; omega)) go
      · have w : wp_X12_primary_165 Q E 0 m := by
          unfold wp_X12_primary_165
          exact mm_wrong (f := 1) S0.1 e26 (Or.inl rfl) (fun m1 fa => pr170F fa.n0 (q m1 ⟨fa.1, Or.inr (Or.inr ⟨1, t.2.2.1, Or.inl rfl, fa.2.2.1, fa.2.2.2, SyB.one (sst_none t5 c2 cw (h31 (by omega))) (Or.inl rfl)⟩)⟩))
        refine ⟨fun _ => w, fun z => ?_⟩
        have z := i0.mp (by rw [e24] at z; exact z)
        have e25 := S0.1.2.2.2.2 (tb.2.2.1 z)
        have n32 : ¬ (13 ≤ tk_cod t.1 ∨ tk_cod t.1 = 3) := fun y => cw ⟨tb.2.1 z y, by have := T.2.2.1; omega⟩
        rw [e25]
        refine br_n (nI_ge (b := 13) (by omega) (by omega)) (br_n (fun y => ?_) w)
        have := (nI_eq (b := 3) (by omega) (by omega)).mp y
        omega
