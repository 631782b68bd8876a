/-! products, sums, sides that are weighed, AND, OR -/
theorem ab_primary {E : ck_H → (ck_H → Prop) → Prop} : nAB (wp_X12_primary E) := fun m Q e q => br_n e q
theorem nGD.w {b : Nat → Nat} {n l bd bd' c c' : Nat} {t : Tk} {W : List Nat} {op kn : Nat} {u : List (Nat × Nat)} {m' : ck_H} {t' : Tk} {kn' : Nat} {e : List (Nat × Nat)} {P : List Nat} {u1 : List (Nat × Nat)} (h : nGD b n l bd c t W op kn u m' t' kn' e P u1) (hb : bop t'.1 < bd') (hc : c' ≤ kn') : nGD b n l bd' c' t W op kn u m' t' kn' e P u1 := by
  obtain ⟨a1, a2, a3, a4, _, a6, _, a8⟩ := h
  exact ⟨a1, a2, a3, a4, hc, a6, hb, a8⟩
theorem nGD.up {b : Nat → Nat} {n l l' bd c : Nat} {t : Tk} {W : List Nat} {op kn : Nat} {u : List (Nat × Nat)} {m' : ck_H} {t' : Tk} {kn' : Nat} {e : List (Nat × Nat)} {P : List Nat} {u1 : List (Nat × Nat)} (h : nGD b n l bd c t W op kn u m' t' kn' e P u1) (hl : l' ≤ l) (h4 : ¬ l' = 4) : nGD b n l' bd c t W op kn u m' t' kn' e P u1 := by
  obtain ⟨a1, a2, a3, a4, a5, a6, a7, a8, a9, a10, _⟩ := h
  exact ⟨a1, a2, a3, a4, a5, a6, a7, fun x hx => by have := a8 x hx; omega, a9, a10, fun z => absurd z h4⟩
theorem nOT.up {b : Nat → Nat} {n l l' bd bd' c : Nat} {t : Tk} {W : List Nat} {op kn : Nat} {u : List (Nat × Nat)} {m m' : ck_H} (h : nOT b n l bd c t W op kn u m m') (hl : l' ≤ l) (h4 : ¬ l' = 4) (hb : bd ≤ bd') : nOT b n l' bd' c t W op kn u m m' := by
  obtain ⟨f, ⟨t', kn', e, P, u1, g⟩ | ⟨h3, d⟩ | z⟩ := h
  · exact ⟨f, Or.inl ⟨t', kn', e, P, u1, (g.up hl h4).w (by have := g.2.2.2.2.2.2.1; omega) g.2.2.2.2.1⟩⟩
  · exact ⟨f, Or.inr (Or.inl ⟨by omega, d⟩)⟩
  · exact ⟨f, Or.inr (Or.inr z)⟩
theorem lp_product {b : Nat → Nat} {n o : Nat} {E : ck_H → (ck_H → Prop) → Prop} {t0 : Tk} {W : List Nat} {op kn0 : Nat} {u0 : List (Nat × Nat)} {m0 : ck_H} {Q : ck_H → Prop} (hY : nNT b n 7 7 o 0 (wp_X12_primary E)) (L : LY b n m0) (op8 : op ≤ 8) (ho : o ≤ op) (hW : tpr W < 6) (q : ∀ m', nOT b n 6 6 kn0 t0 W op kn0 u0 m0 m' → Q m') :
    ∀ (f c : Nat) (m : ck_H), nOT b n 6 7 c t0 W op kn0 u0 m0 m → kn0 ≤ c → 1 ≤ f → 66 ≤ f + c → wp_X12_product_4 Q E f m := by
  intro f
  induction f with
  | zero => intro c m _ _ h _; omega
  | succ f ih =>
    intro c m o1 hc0 _ hf
    unfold wp_X12_product_4
    rw [show (42 : Int32) = nI (tk_cod 9) by decide, show (47 : Int32) = nI (tk_cod 10) by decide]
    obtain ⟨f1, ⟨t, kn, e, P, u1, g⟩ | ⟨h3, d⟩ | z⟩ := o1
    · have T := g.1
      have S0 := g.2.1
      have k64 := g.2.2.1
      have hc := g.2.2.2.2.1
      have bk := bop_k t.1
      have go : bop t.1 = 6 → wp_X12_product_22 Q E (wp_X12_product_4 Q E f) m := by
        intro hb
        unfold wp_X12_product_22
        rintro _ rfl
        refine bin_step (Or.inr (Or.inr (Or.inr (Or.inr rfl)))) (Or.inr ⟨by omega, rfl⟩) (by omega) hY ab_primary (f1.ly L) op8 ho hW f1 g hb ?_ (fun m' o' => ih (kn + 1) m' o' (by omega) (by omega) (by omega))
        rw [S0.1.2.2.2.2 (by omega), vlc_cod (by omega)]
      refine mm_isSign (q := 9) T S0.1 S0.2.1 (by omega) (by omega) (fun t9 => br_m (by decide) (go (bk.1.mpr (Or.inl t9)))) (fun t9 => br_q rfl ?_)
      refine mm_isSign (q := 10) T S0.1 S0.2.1 (by omega) (by omega) (fun t10 => br_n (by decide) (go (bk.1.mpr (Or.inr t10)))) (fun t10 => br_p rfl (q m ⟨f1, Or.inl ⟨t, kn, e, P, u1, g.w ?_ (by omega)⟩⟩))
      have := g.2.2.2.2.2.2.1
      omega
    · omega
    · exact mm_isSignF z.n0 (br_q rfl (mm_isSignF z.n0 (br_p rfl (q m ⟨f1, Or.inr (Or.inr z)⟩))))
theorem nt_product {b : Nat → Nat} {n o : Nat} {E : ck_H → (ck_H → Prop) → Prop} (hY : nNT b n 7 7 o 0 (wp_X12_primary E)) : nNT b n 6 6 o 0 (wp_X12_product E) := by
  intro t W op kn u m Q L T S0 k64 op8 ho hc inv hW h31 q
  unfold wp_X12_product
  refine hY t W op kn u m _ L T S0 k64 op8 ho hc inv (by omega) (fun _ => h31 (by omega)) (fun m1 o1 => ?_)
  exact lp_product hY L op8 ho hW q lpN kn m1 (o1.up (by omega) (by omega) (by omega)) (by omega) (by unfold lpN; omega) (by unfold lpN; omega)
theorem ab_product {E : ck_H → (ck_H → Prop) → Prop} : nAB (wp_X12_product E) := fun m Q e q => by
  unfold wp_X12_product
  refine ab_primary m _ e ?_
  show wp_X12_product_4 Q E (3999 + 1) m
  unfold wp_X12_product_4
  exact mm_isSignF e (br_q rfl (mm_isSignF e (br_p rfl q)))
theorem lp_sum {b : Nat → Nat} {n o : Nat} {E : ck_H → (ck_H → Prop) → Prop} {t0 : Tk} {W : List Nat} {op kn0 : Nat} {u0 : List (Nat × Nat)} {m0 : ck_H} {Q : ck_H → Prop} (hY : nNT b n 6 6 o 0 (wp_X12_product E)) (L : LY b n m0) (op8 : op ≤ 8) (ho : o ≤ op) (hW : tpr W < 5) (q : ∀ m', nOT b n 5 5 kn0 t0 W op kn0 u0 m0 m' → Q m') :
    ∀ (f c : Nat) (m : ck_H), nOT b n 5 6 c t0 W op kn0 u0 m0 m → kn0 ≤ c → 1 ≤ f → 66 ≤ f + c → wp_X12_sum_4 Q E f m := by
  intro f
  induction f with
  | zero => intro c m _ _ h _; omega
  | succ f ih =>
    intro c m o1 hc0 _ hf
    unfold wp_X12_sum_4
    rw [show (43 : Int32) = nI (tk_cod 7) by decide, show (45 : Int32) = nI (tk_cod 8) by decide]
    obtain ⟨f1, ⟨t, kn, e, P, u1, g⟩ | ⟨h3, d⟩ | z⟩ := o1
    · have T := g.1
      have S0 := g.2.1
      have k64 := g.2.2.1
      have hc := g.2.2.2.2.1
      have bk := bop_k t.1
      have go : bop t.1 = 5 → wp_X12_sum_22 Q E (wp_X12_sum_4 Q E f) m := by
        intro hb
        unfold wp_X12_sum_22
        rintro _ rfl
        refine bin_step (Or.inr (Or.inr (Or.inr (Or.inl rfl)))) (Or.inr ⟨by omega, rfl⟩) (by omega) hY ab_product (f1.ly L) op8 ho hW f1 g hb ?_ (fun m' o' => ih (kn + 1) m' o' (by omega) (by omega) (by omega))
        rw [S0.1.2.2.2.2 (by omega), vlc_cod (by omega)]
      refine mm_isSign (q := 7) T S0.1 S0.2.1 (by omega) (by omega) (fun t9 => br_m (by decide) (go (bk.2.1.mpr (Or.inl t9)))) (fun t9 => br_q rfl ?_)
      refine mm_isSign (q := 8) T S0.1 S0.2.1 (by omega) (by omega) (fun t10 => br_n (by decide) (go (bk.2.1.mpr (Or.inr t10)))) (fun t10 => br_p rfl (q m ⟨f1, Or.inl ⟨t, kn, e, P, u1, g.w ?_ (by omega)⟩⟩))
      have := g.2.2.2.2.2.2.1
      omega
    · omega
    · exact mm_isSignF z.n0 (br_q rfl (mm_isSignF z.n0 (br_p rfl (q m ⟨f1, Or.inr (Or.inr z)⟩))))
theorem nt_sum {b : Nat → Nat} {n o : Nat} {E : ck_H → (ck_H → Prop) → Prop} (hY : nNT b n 6 6 o 0 (wp_X12_product E)) : nNT b n 5 5 o 0 (wp_X12_sum E) := by
  intro t W op kn u m Q L T S0 k64 op8 ho hc inv hW h31 q
  unfold wp_X12_sum
  refine hY t W op kn u m _ L T S0 k64 op8 ho hc inv (by omega) (fun _ => h31 (by omega)) (fun m1 o1 => ?_)
  exact lp_sum hY L op8 ho hW q lpN kn m1 (o1.up (by omega) (by omega) (by omega)) (by omega) (by unfold lpN; omega) (by unfold lpN; omega)
theorem ab_sum {E : ck_H → (ck_H → Prop) → Prop} : nAB (wp_X12_sum E) := fun m Q e q => by
  unfold wp_X12_sum
  refine ab_product m _ e ?_
  show wp_X12_sum_4 Q E (3999 + 1) m
  unfold wp_X12_sum_4
  exact mm_isSignF e (br_q rfl (mm_isSignF e (br_p rfl q)))
theorem cm_tab : ∀ k, k < 39 → (tk_srt k = 3 → 4 ≤ k) ∧ ((11 ≤ k ∧ k ≤ 16) → tk_srt k = 3 ∧ (tk_cod k = 60 ∨ tk_cod k = 62 ∨ tk_cod k = 61 ∨ 256 ≤ tk_cod k)) ∧ (tk_srt k = 3 → (tk_cod k = 60 ∨ tk_cod k = 62 ∨ tk_cod k = 61 ∨ 256 ≤ tk_cod k) → (11 ≤ k ∧ k ≤ 16)) := by decide +kernel
theorem ab_negation {E : ck_H → (ck_H → Prop) → Prop} : ∀ k, nAB (wp_X12_negation E (k + 1)) := fun k m Q e q => by
  show wp_X12_negationB E (wp_X12_negation E k) m Q
  unfold wp_X12_negationB
  exact mm_isWordF e (br_p rfl (ab_sum m _ e (br_m e q)))
theorem nt_negation {b : Nat → Nat} {n o : Nat} {E : ck_H → (ck_H → Prop) → Prop} (hY : nNT b n 5 5 o 0 (wp_X12_sum E)) : ∀ k, 1 ≤ k → nNT b n 3 4 o (66 - k) (wp_X12_negation E k) := by
  intro k
  induction k with
  | zero => intro h; omega
  | succ k ih =>
    intro _ t W op kn u m Q L T S0 k64 op8 ho hc inv hW h31 q
    show wp_X12_negationB E (wp_X12_negation E k) m Q
    unfold wp_X12_negationB
    rw [show (12 : Int32) = nI (tk_cod 31) by decide]
    refine mm_isWord (q := 31) T S0.1 S0.2.1 (by omega) (by omega) (fun t31 => br_n (by decide) ?_) (fun t31 => br_p rfl ?_)
    · have ss := sst_not (nx := nxt b n) (op := op) (kn := kn) (W := W) (u := u) t31 hW
      refine mm_knot S0 k64 (fun klt m1 f1 s1 => ?_) (fun ke m1 fa => ?_)
      · rw [if_neg (by omega)] at ss
        have ss := SyS.one ss
        have hk : ev_kr (nI 31) (nI 0) 2 260 := vlc_kr (k := 31) (by decide)
        have np : nops (31 :: W) = 1 + nops W := by show (if (31 : Nat) = 5 then 0 else 1) + nops W = _; rw [if_neg (by decide)]
        refine mm_goOn (f1.ly L) T s1 (fun m2 f2 L2 T2 S2 => ?_)
        refine ih (by omega) (nxt b n t) (31 :: W) op (kn + 1) u m2 _ L2 T2 S2 (by omega) op8 ho (by omega) (by rw [np]; omega) (by show rk 31 < 4; decide) (fun z => by omega) (fun m3 o3 => ?_)
        obtain ⟨f3, ⟨t', kn', e', P', u1', T', S', k', i', c', up', b', hP', hu', sy', _⟩ | ⟨_, t', kn', e', T', S', k', i', b', sb'⟩ | bd3⟩ := o3
        · rw [np] at i'
          refine mm_puts S' (by omega) hk (fun m4 f4 S4 => q m4 ⟨f1.tr (f2.tr (f3.tr f4)), Or.inl ⟨t', kn', e' ++ [(31, 0)], P' ++ [31], u1', T', ?_, k', ?_, by omega, up1_not up', b', fun x hx => ?_, ?_, ?_, fun z => by omega⟩⟩)
          · rw [← List.append_assoc]; exact S4
          · rw [← List.append_assoc, List.length_append (bs := [(31, 0)])]
            show _ + 1 + _ = _
            omega
          · rcases List.mem_append.mp hx with hx | hx
            · exact hP' x hx
            · rw [List.mem_singleton.mp hx]; decide
          · rw [ops_app, ← List.append_assoc, hu', ← List.append_assoc]
          · rw [List.append_assoc]; exact ss.tr sy'
        · rw [np] at i'
          refine mm_puts S' (by omega) hk (fun m4 f4 S4 => q m4 ⟨f1.tr (f2.tr (f3.tr f4)), Or.inr (Or.inl ⟨by omega, t', kn', e' ++ [(31, 0)], T', ?_, k', ?_, b', ss.bad sb'⟩)⟩)
          · rw [← List.append_assoc]; exact S4
          · rw [← List.append_assoc, List.length_append (bs := [(31, 0)])]
            show _ + 1 + _ = _
            omega
        · refine mm_putsF bd3.n0 (q m3 ⟨f1.tr (f2.tr f3), Or.inr (Or.inr ?_)⟩)
          obtain ⟨f, p, hf', e1, e2, sb⟩ := bd3
          exact ⟨f, p, hf', e1, e2, ss.bad sb⟩
      · rw [if_pos (by omega)] at ss
        have w : Q m1 := q m1 ⟨fa.1, Or.inr (Or.inr ⟨2, t.2.2.1, Or.inr rfl, fa.2.2.1, fa.2.2.2, SyB.one ss (Or.inr rfl)⟩)⟩
        refine mm_goOnF fa.n0 ?_
        have : 1 ≤ k := by omega
        obtain ⟨j, rfl⟩ : ∃ j, k = j + 1 := ⟨k - 1, by omega⟩
        exact ab_negation j _ _ fa.n0 (mm_putsF fa.n0 w)
    · refine hY t W op kn u m _ L T S0 k64 op8 ho (by omega) inv (by omega) (fun _ z => absurd z t31) (fun m1 o1 => ?_)
      obtain ⟨f1, ⟨t1, kn1, e, P, u1, g⟩ | ⟨h3, d⟩ | z⟩ := o1
      · have T1 := g.1
        have S1 := g.2.1
        have k1 := g.2.2.1
        have hc1 := g.2.2.2.2.1
        have hb1 := g.2.2.2.2.2.2.1
        have bk := bop_k t1.1
        have tb := cm_tab t1.1 T1.2.2.1
        have sl := srt_lt t1.1 T1.2.2.1
        refine br_q S1.2.1 ?_
        have i3 : nI (tk_srt t1.1) = (3 : Int32) ↔ tk_srt t1.1 = 3 := nI_eq (b := 3) (by omega) (by omega)
        have out : ¬ bop t1.1 = 4 → Q m1 := fun n4 => q m1 ⟨f1, Or.inl ⟨t1, kn1, e, P, u1, (g.up (by omega) (by omega)).w (by omega) hc1⟩⟩
        have go : bop t1.1 = 4 → wp_X12_negation_87 Q E (wp_X12_negation E k) m1 := by
          intro hb
          have hk4 := bk.2.2.1.mp hb
          unfold wp_X12_negation_87
          rintro _ rfl
          refine bin_step (Or.inr (Or.inr (Or.inl rfl))) (Or.inl ⟨rfl, rfl⟩) (by omega) hY ab_sum (f1.ly L) op8 ho hW f1 g hb ?_ (fun m2 o2 => ?_)
          · rw [S1.1.2.2.2.2 (by omega), vlc_cod (by omega)]
          · obtain ⟨f2, ⟨t2, kn2, e2, P2, u2, T2, S2, k2, i2, c2, up2, b2, hP2, hu2, sy2, h42⟩ | ⟨h3, d⟩ | z⟩ := o2
            · by_cases hb2 : bop t2.1 = 4
              · refine q m2 ⟨f2, Or.inr (Or.inl ⟨by omega, t2, kn2, e2, T2, S2, k2, i2, hb2, sy2.bad ?_⟩)⟩
                refine SyB.one (s' := (t2, false, P2 ++ W, op, kn2, u2)) ?_ (Or.inl rfl)
                have n6 : ¬ t2.1 = 6 := by have := (bop_k t2.1).2.2.1.mp hb2; omega
                show (if false = true then _ else (if t2.1 = 6 then _ else if bop t2.1 = 0 then _ else if bop t2.1 = 4 ∧ tpr (rl 5 (P2 ++ W) u2).1 = 4 then _ else _)) = _
                rw [if_neg (by decide), if_neg n6, if_neg (by omega), if_pos ⟨hb2, h42 rfl⟩]
              · have n3 := (bop_k t2.1).2.2.2.2.2.2.1
                exact q m2 ⟨f2, Or.inl ⟨t2, kn2, e2, P2, u2, T2, S2, k2, i2, by omega, up2, by omega, fun x hx => by have := hP2 x hx; omega, hu2, sy2, fun z => by omega⟩⟩
            · omega
            · exact q m2 ⟨f2, Or.inr (Or.inr z)⟩
        by_cases c4 : bop t1.1 = 4
        · have hk4 := bk.2.2.1.mp c4
          have tt := tb.2.1 hk4
          have go := go c4
          refine br_q (by rw [S1.1.1]; exact i3.mpr tt.1) ?_
          rw [S1.1.2.2.2.2 (by omega)]
          refine ⟨fun _ => go, fun a1 => ⟨fun _ => go, fun a2 => ⟨fun _ => go, fun a3 => ⟨fun _ => go, fun a4 => ?_⟩⟩⟩⟩
          exfalso
          rcases tt.2 with h | h | h | h
          · exact a1 (by rw [h]; decide)
          · exact a2 (by rw [h]; decide)
          · exact a3 (by rw [h]; decide)
          · exact a4 (nI_le (a := 256) h (by omega))
        · have out := out c4
          refine ⟨fun _ => out, fun s3 => ?_⟩
          have s3 := i3.mp (by rw [S1.1.1] at s3; exact s3)
          rw [S1.1.2.2.2.2 (tb.1 s3)]
          have nn : ¬ (tk_cod t1.1 = 60 ∨ tk_cod t1.1 = 62 ∨ tk_cod t1.1 = 61 ∨ 256 ≤ tk_cod t1.1) := fun z => c4 (bk.2.2.1.mpr (tb.2.2 s3 z))
          have ne : ∀ v, v < 1000 → ¬ tk_cod t1.1 = v → ¬ nI (tk_cod t1.1) = nI v := fun v hv z y => z ((nI_eq (by omega) (by omega)).mp y)
          exact br_n (ne 60 (by omega) (by omega)) (br_n (ne 62 (by omega) (by omega)) (br_n (ne 61 (by omega) (by omega)) (br_n (nI_ge (b := 256) (by omega) (by omega)) out)))
      · omega
      · exact br_m z.n0 (q m1 ⟨f1, Or.inr (Or.inr z)⟩)
