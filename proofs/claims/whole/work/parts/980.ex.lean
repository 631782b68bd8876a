/-! AND, OR, a whole E -/
theorem lp_conj {b : Nat → Nat} {n o : Nat} {E : ck_H → (ck_H → Prop) → Prop} {t0 : Tk} {W : List Nat} {op kn0 : Nat} {u0 : List (Nat × Nat)} {m0 : ck_H} {Q : ck_H → Prop} (hY : nNT b n 3 4 o 0 (wp_X12_negation E 70)) (L : LY b n m0) (op8 : op ≤ 8) (ho : o ≤ op) (hW : tpr W < 2) (q : ∀ m', nOT b n 2 2 kn0 t0 W op kn0 u0 m0 m' → Q m') :
    ∀ (f c : Nat) (m : ck_H), nOT b n 2 3 c t0 W op kn0 u0 m0 m → kn0 ≤ c → 1 ≤ f → 66 ≤ f + c → wp_X12_conjunction_4 Q E f m := by
  intro f
  induction f with
  | zero => intro c m _ _ h _; omega
  | succ f ih =>
    intro c m o1 hc0 _ hf
    unfold wp_X12_conjunction_4
    rw [show (11 : Int32) = nI (tk_cod 30) by decide]
    obtain ⟨f1, ⟨t, kn, e, P, u1, g⟩ | ⟨h3, d⟩ | z⟩ := o1
    · have T := g.1
      have S0 := g.2.1
      have k64 := g.2.2.1
      have hc := g.2.2.2.2.1
      have bk := bop_k t.1
      refine mm_isWord (q := 30) T S0.1 S0.2.1 (by omega) (by omega) (fun t9 => br_n (by decide) ?_) (fun t9 => br_p rfl (q m ⟨f1, Or.inl ⟨t, kn, e, P, u1, g.w ?_ (by omega)⟩⟩))
      · refine bin_step (Or.inr (Or.inl rfl)) (Or.inr ⟨by omega, rfl⟩) (by omega) hY (ab_negation 69) (f1.ly L) op8 ho hW f1 g (bk.2.2.2.1.mpr t9) ?_ (fun m' o' => ih (kn + 1) m' o' (by omega) (by omega) (by omega))
        rw [t9]; decide
      · have := g.2.2.2.2.2.2.1
        omega
    · obtain ⟨t', kn', e', T', S', k', i', b', sb'⟩ := d
      have t4 := (bop_k t'.1).2.2.1.mp b'
      exact mm_isWord (q := 30) T' S'.1 S'.2.1 (by omega) (by omega) (fun t9 => by omega) (fun t9 => br_p rfl (q m ⟨f1, Or.inr (Or.inl ⟨by omega, t', kn', e', T', S', k', i', b', sb'⟩)⟩))
    · exact mm_isWordF z.n0 (br_p rfl (q m ⟨f1, Or.inr (Or.inr z)⟩))
theorem nt_conj {b : Nat → Nat} {n o : Nat} {E : ck_H → (ck_H → Prop) → Prop} (hY : nNT b n 3 4 o 0 (wp_X12_negation E 70)) : nNT b n 2 2 o 0 (wp_X12_conjunction E) := by
  intro t W op kn u m Q L T S0 k64 op8 ho hc inv hW h31 q
  unfold wp_X12_conjunction
  refine hY t W op kn u m _ L T S0 k64 op8 ho hc inv (by omega) (fun z => by omega) (fun m1 o1 => ?_)
  exact lp_conj hY L op8 ho hW q lpN kn m1 (o1.up (by omega) (by omega) (by omega)) (by omega) (by unfold lpN; omega) (by unfold lpN; omega)
theorem ab_conj {E : ck_H → (ck_H → Prop) → Prop} : nAB (wp_X12_conjunction E) := fun m Q e q => by
  unfold wp_X12_conjunction
  refine ab_negation 69 m _ e ?_
  show wp_X12_conjunction_4 Q E (3999 + 1) m
  unfold wp_X12_conjunction_4
  exact mm_isWordF e (br_p rfl q)
theorem lp_expr {b : Nat → Nat} {n o : Nat} {E : ck_H → (ck_H → Prop) → Prop} {t0 : Tk} {W : List Nat} {op kn0 : Nat} {u0 : List (Nat × Nat)} {m0 : ck_H} {Q : ck_H → Prop} (hY : nNT b n 2 2 o 0 (wp_X12_conjunction E)) (L : LY b n m0) (op8 : op ≤ 8) (ho : o ≤ op) (hW : tpr W < 1) (q : ∀ m', nOT b n 1 1 kn0 t0 W op kn0 u0 m0 m' → Q m') :
    ∀ (f c : Nat) (m : ck_H), nOT b n 1 2 c t0 W op kn0 u0 m0 m → kn0 ≤ c → 1 ≤ f → 66 ≤ f + c → wp_X12_expression_4 Q E f m := by
  intro f
  induction f with
  | zero => intro c m _ _ h _; omega
  | succ f ih =>
    intro c m o1 hc0 _ hf
    unfold wp_X12_expression_4
    rw [show (10 : Int32) = nI (tk_cod 29) by decide]
    obtain ⟨f1, ⟨t, kn, e, P, u1, g⟩ | ⟨h3, d⟩ | z⟩ := o1
    · have T := g.1
      have S0 := g.2.1
      have k64 := g.2.2.1
      have hc := g.2.2.2.2.1
      have bk := bop_k t.1
      refine mm_isWord (q := 29) T S0.1 S0.2.1 (by omega) (by omega) (fun t9 => br_n (by decide) ?_) (fun t9 => br_p rfl (q m ⟨f1, Or.inl ⟨t, kn, e, P, u1, g.w ?_ (by omega)⟩⟩))
      · refine bin_step (Or.inl rfl) (Or.inr ⟨by omega, rfl⟩) (by omega) hY ab_conj (f1.ly L) op8 ho hW f1 g (bk.2.2.2.2.1.mpr t9) ?_ (fun m' o' => ih (kn + 1) m' o' (by omega) (by omega) (by omega))
        rw [t9]; decide
      · have := g.2.2.2.2.2.2.1
        omega
    · obtain ⟨t', kn', e', T', S', k', i', b', sb'⟩ := d
      have t4 := (bop_k t'.1).2.2.1.mp b'
      exact mm_isWord (q := 29) T' S'.1 S'.2.1 (by omega) (by omega) (fun t9 => by omega) (fun t9 => br_p rfl (q m ⟨f1, Or.inr (Or.inl ⟨by omega, t', kn', e', T', S', k', i', b', sb'⟩)⟩))
    · exact mm_isWordF z.n0 (br_p rfl (q m ⟨f1, Or.inr (Or.inr z)⟩))
theorem nt_expr {b : Nat → Nat} {n : Nat} : ∀ k, nNT b n 1 1 (9 - k) 0 (wp_X12_expression k) := by
  intro k
  induction k with
  | zero => intro t W op kn u m Q L T S0 k64 op8 ho _; omega
  | succ k ih =>
    have hE : nNT b n 1 1 ((9 - (k + 1)) + 1) 0 (wp_X12_expression k) := by
      intro t W op kn u m Q L T S0 k64 op8 ho
      exact ih t W op kn u m Q L T S0 k64 op8 (by omega)
    have h3 := nt_negation (nt_sum (nt_product (nt_primary hE))) 70 (by omega)
    have hY := nt_conj h3
    intro t W op kn u m Q L T S0 k64 op8 ho hc inv hW h31 q
    show wp_X12_expressionB (wp_X12_expression k) m Q
    unfold wp_X12_expressionB
    refine hY t W op kn u m _ L T S0 k64 op8 ho hc inv (by omega) (fun z => by omega) (fun m1 o1 => ?_)
    exact lp_expr hY L op8 ho hW q lpN kn m1 (o1.up (by omega) (by omega) (by omega)) (by omega) (by unfold lpN; omega) (by unfold lpN; omega)
theorem ab_expr {k : Nat} : nAB (wp_X12_expression (k + 1)) := fun m Q e q => by
  show wp_X12_expressionB (wp_X12_expression k) m Q
  unfold wp_X12_expressionB
  refine ab_conj m _ e ?_
  show wp_X12_expression_4 Q _ (3999 + 1) m
  unfold wp_X12_expression_4
  exact mm_isWordF e (br_p rfl q)
