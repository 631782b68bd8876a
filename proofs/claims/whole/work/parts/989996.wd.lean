/-! worlds side by side -/
def ap (w1 w2 : va_W) : Prop := ∀ (i j : Nat) (p q : Nat × va_E), w1[i]? = some p → w2[j]? = some q → p.1 ≠ q.1
theorem ap.sy {w1 w2 : va_W} (h : ap w1 w2) : ap w2 w1 := fun i j p q hp hq e => h j i q p hq hp e.symm
theorem app_at {w1 w2 : va_W} {k : Nat} {q : Nat × va_E} (hk : (w1 ++ w2)[k]? = some q) : (∃ i : Nat, w1[i]? = some q) ∨ ∃ i : Nat, w2[i]? = some q := by
  rcases List.mem_append.mp (List.mem_of_getElem? hk) with h | h
  · exact Or.inl (List.getElem?_of_mem h)
  · exact Or.inr (List.getElem?_of_mem h)
theorem app_l {w1 w2 : va_W} {k : Nat} {q : Nat × va_E} (hk : w1[k]? = some q) : (w1 ++ w2)[k]? = some q := by
  rw [List.getElem?_append_left (List.getElem?_eq_some_iff.mp hk).1]; exact hk
theorem app_r {w1 w2 : va_W} {k : Nat} {q : Nat × va_E} (hk : w2[k]? = some q) : (w1 ++ w2)[w1.length + k]? = some q := by
  rw [List.getElem?_append_right (by omega), Nat.add_sub_cancel_left]; exact hk
theorem ap.app {w1 w2 w3 : va_W} (h2 : ap w1 w2) (h3 : ap w1 w3) : ap w1 (w2 ++ w3) := fun i j p q hp hq => by
  rcases app_at hq with ⟨k, hk⟩ | ⟨k, hk⟩
  · exact h2 i k p q hp hk
  · exact h3 i k p q hp hk
theorem ap.l {w1 w2 w3 : va_W} (h : ap w1 (w2 ++ w3)) : ap w1 w2 := fun i j p q hp hq => h i j p q hp (app_l hq)
theorem ap.r {w1 w2 w3 : va_W} (h : ap w1 (w2 ++ w3)) : ap w1 w3 := fun i j p q hp hq => h i _ p q hp (app_r hq)
theorem P_l {D : va_G} {w1 w2 : va_W} {H : Heap} (h : va_P D vwCl (w1 ++ w2) H) : va_P D vwCl w1 H := fun k q hk => h k q (app_l hk)
theorem P_r {D : va_G} {w1 w2 : va_W} {H : Heap} (h : va_P D vwCl (w1 ++ w2) H) : va_P D vwCl w2 H := fun k q hk => h _ q (app_r hk)
theorem D_l {A : Nat → Prop} {w1 w2 : va_W} (h : va_D A (w1 ++ w2)) : va_D A w1 := ⟨fun i j p q hi hj e => h.1 i j p q (app_l hi) (app_l hj) e, fun k q hk => h.2 k q (app_l hk)⟩
theorem D_r {A : Nat → Prop} {w1 w2 : va_W} (h : va_D A (w1 ++ w2)) : va_D A w2 := ⟨fun i j p q hi hj e => by
  have := h.1 _ _ p q (app_r hi) (app_r hj) e
  omega, fun k q hk => h.2 _ q (app_r hk)⟩
theorem D_x {A : Nat → Prop} {w1 w2 : va_W} (h : va_D A (w1 ++ w2)) : ap w1 w2 := fun i j p q hp hq e => by
  have a := h.1 i (w1.length + j) p q (app_l hp) (app_r hq) e
  have b := (List.getElem?_eq_some_iff.mp hp).1
  omega
def nLS (A : Nat → Prop) (D : va_G) (w1 w2 : va_W) (H : Heap) : Prop := va_P D vwCl w1 H ∧ va_P D vwCl w2 H ∧ va_D A w1 ∧ va_D A w2 ∧ ap w1 w2
theorem nLS.foc {A : Nat → Prop} {D : va_G} {w1 w2 w3 : va_W} {H : Heap} (h : nLS A D w1 (w2 ++ w3) H) : nLS A D w2 (w1 ++ w3) H := by
  obtain ⟨a, b, c, d, e⟩ := h
  exact ⟨P_l b, va_P.app a (P_r b), D_l d, va_D.app c (D_r d) e.r, (e.l.sy).app (D_x d)⟩
theorem nLS.grp {A : Nat → Prop} {D : va_G} {w1 w2 w3 : va_W} {H : Heap} (h : nLS A D w1 (w2 ++ w3) H) : nLS A D (w1 ++ w3) w2 H := by
  obtain ⟨a, b, c, d, e⟩ := h
  exact ⟨va_P.app a (P_r b), P_l b, va_D.app c (D_r d) e.r, D_l d, ((e.l.sy).app (D_x d)).sy⟩
theorem nLS.ung {A : Nat → Prop} {D : va_G} {w1 w2 w3 : va_W} {H : Heap} (h : nLS A D (w1 ++ w3) w2 H) : nLS A D w1 (w2 ++ w3) H := by
  obtain ⟨a, b, c, d, e⟩ := h
  have e1 := e.sy.l.sy
  have e3 := e.sy.r.sy
  exact ⟨P_l a, va_P.app b (P_r a), D_l c, va_D.app d (D_r c) e3.sy, e1.app (D_x c)⟩
theorem nLS.call {A : Nat → Prop} {D : va_G} {w1 w2 w1' : va_W} {H H1 : Heap} (L : nLS A D w1 w2 H) (hk : ∀ q : Nat, q < H.size → ¬ va_A w1 H.size q → H1[q]? = H[q]?) (P1 : va_P D vwCl w1' H1) (D1 : va_D (va_A w1 H.size) w1') (hF : ∀ q, va_A w1 H.size q → A q) : nLS A D w1' w2 H1 := by
  obtain ⟨a, b, c, d, e⟩ := L
  have out : ∀ (k : Nat) (q : Nat × va_E), w2[k]? = some q → q.1 < H.size ∧ ¬ va_A w1 H.size q.1 := by
    intro k q hq
    have hl := (b k q hq).lt
    refine ⟨hl, fun h => ?_⟩
    rcases h with ⟨k2, e9, h⟩ | h
    · exact e k2 k (q.1, e9) q h hq rfl
    · omega
  refine ⟨P1, b.kept (fun k q hq => hk q.1 (out k q hq).1 (out k q hq).2), D1.weaken (fun k q _ h => hF q.1 h), d, fun i j x y hx hy hxy => ?_⟩
  exact (out j y hy).2 (by rw [← hxy]; exact D1.2 i x hx)
/-- which cells a callee may change lie in A -/
theorem nLS.fr {A : Nat → Prop} {D : va_G} {w1 w2 : va_W} {H H0 : Heap} {locs : List Loc} (L : nLS A D w1 w2 H) (hS : va_S A H0 H locs) (hA : ∀ q, H0.size ≤ q → A q) : ∀ q, va_A w1 H.size q → A q := fun q z => by
  rcases z with ⟨k9, e9, z⟩ | z
  · exact L.2.2.1.2 k9 _ z
  · exact hA q (Nat.le_trans hS.1 z)
theorem ck_S.ads {ad ad' : Nat → Nat} {A : Nat → Prop} {U : State} {H : Heap} (e : ∀ k, 1000 ≤ k → ad' k = ad k) (h : ck_S ad A U H) : ck_S ad' A U H := by
  unfold ck_S at *
  rw [e 1020 (by omega), e 1000 (by omega), e 1001 (by omega)]
  refine ⟨fun i hi => ?_, h.2⟩
  rw [e (1000 + i) (by omega), e (1010 + i) (by omega)]
  exact h.1 i hi
/-! plan and draft change places: the same cells under other numbers -/
def renC (c : ck_C) : ck_C := match c with
  | .inl o => .inl (o.1, o.2.map (fun d => (d.1, d.2.map swI)))
  | .inr a => .inr a
theorem sw_tab : ∀ k, k < 81 → ck_shX3[swI k]? = (ck_shX[k]?).map renC := by
  intro k hk
  match k, hk with
  | 0, _ => rfl
  | 1, _ => rfl
  | 2, _ => rfl
  | 3, _ => rfl
  | 4, _ => rfl
  | 5, _ => rfl
  | 6, _ => rfl
  | 7, _ => rfl
  | 8, _ => rfl
  | 9, _ => rfl
  | 10, _ => rfl
  | 11, _ => rfl
  | 12, _ => rfl
  | 13, _ => rfl
  | 14, _ => rfl
  | 15, _ => rfl
  | 16, _ => rfl
  | 17, _ => rfl
  | 18, _ => rfl
  | 19, _ => rfl
  | 20, _ => rfl
  | 21, _ => rfl
  | 22, _ => rfl
  | 23, _ => rfl
  | 24, _ => rfl
  | 25, _ => rfl
  | 26, _ => rfl
  | 27, _ => rfl
  | 28, _ => rfl
  | 29, _ => rfl
  | 30, _ => rfl
  | 31, _ => rfl
  | 32, _ => rfl
  | 33, _ => rfl
  | 34, _ => rfl
  | 35, _ => rfl
  | 36, _ => rfl
  | 37, _ => rfl
  | 38, _ => rfl
  | 39, _ => rfl
  | 40, _ => rfl
  | 41, _ => rfl
  | 42, _ => rfl
  | 43, _ => rfl
  | 44, _ => rfl
  | 45, _ => rfl
  | 46, _ => rfl
  | 47, _ => rfl
  | 48, _ => rfl
  | 49, _ => rfl
  | 50, _ => rfl
  | 51, _ => rfl
  | 52, _ => rfl
  | 53, _ => rfl
  | 54, _ => rfl
  | 55, _ => rfl
  | 56, _ => rfl
  | 57, _ => rfl
  | 58, _ => rfl
  | 59, _ => rfl
  | 60, _ => rfl
  | 61, _ => rfl
  | 62, _ => rfl
  | 63, _ => rfl
  | 64, _ => rfl
  | 65, _ => rfl
  | 66, _ => rfl
  | 67, _ => rfl
  | 68, _ => rfl
  | 69, _ => rfl
  | 70, _ => rfl
  | 71, _ => rfl
  | 72, _ => rfl
  | 73, _ => rfl
  | 74, _ => rfl
  | 75, _ => rfl
  | 76, _ => rfl
  | 77, _ => rfl
  | 78, _ => rfl
  | 79, _ => rfl
  | 80, _ => rfl
  | k + 81, hk => omega
theorem shX_len : ck_shX.length = 81 := by decide +kernel
theorem swI_swI (k : Nat) : swI (swI k) = k := by
  unfold swI
  by_cases c1 : 32 ≤ k ∧ k ≤ 52
  · rw [if_pos c1, if_neg (by omega), if_pos (by omega)]; omega
  · rw [if_neg c1]
    by_cases c2 : 53 ≤ k ∧ k ≤ 73
    · rw [if_pos c2, if_pos (by omega)]; omega
    · rw [if_neg c2, if_neg c1, if_neg c2]
theorem ren_cv {ad : Nat → Nat} {cA : Nat → ClassId} {h : ck_H} {k : Nat} (c : ck_C) : ck_cv ad cA h (swI k) (renC c) = ck_cv (fun k => ad (swI k)) cA (swH h) k c := by
  cases c with
  | inl o =>
    show Sum.inr (o.1, ck_fs ad h (swI k) (o.2.map (fun d => (d.1, d.2.map swI)))) = Sum.inr (o.1, ck_fs (fun k => ad (swI k)) (swH h) k o.2)
    congr 2
    apply List.ext_getElem?
    intro i
    simp only [ck_fs, List.getElem?_mapIdx, List.getElem?_map]
    cases o.2[i]? with
    | none => rfl
    | some d =>
      simp only [Option.map_some, ck_fv]
      congr 1
      by_cases c0 : d.1 = 0
      · rw [if_pos c0, if_pos c0]; rfl
      · rw [if_neg c0, if_neg c0]
        by_cases c1 : d.1 = 1
        · rw [if_pos c1, if_pos c1]; rfl
        · rw [if_neg c1, if_neg c1]
          cases d.2 with
          | none => rfl
          | some x => rfl
  | inr a => rfl
theorem wd_get {ad : Nat → Nat} {cA : Nat → ClassId} {h : ck_H} {sh : List ck_C} {k : Nat} : (ck_wd ad cA h sh)[k]? = (sh[k]?).map (fun c => (ad k, ck_cv ad cA h k c)) := by
  simp only [ck_wd, List.getElem?_mapIdx]
theorem sw_get {ad : Nat → Nat} {cA : Nat → ClassId} {h : ck_H} {k : Nat} {q : Nat × va_E} (hq : (ck_wd (fun k => ad (swI k)) cA (swH h) ck_shX)[k]? = some q) : (ck_wd ad cA h ck_shX3)[swI k]? = some q := by
  have hk : k < 81 := by
    have := (List.getElem?_eq_some_iff.mp hq).1
    simp only [ck_wd, List.length_mapIdx, shX_len] at this
    exact this
  rw [wd_get] at hq ⊢
  rw [sw_tab k hk]
  cases hc : ck_shX[k]? with
  | none => rw [hc] at hq; cases hq
  | some c =>
    rw [hc] at hq
    rw [Option.map_some, Option.map_some, ren_cv]
    exact hq
theorem nLS.sw {A : Nat → Prop} {D : va_G} {ad : Nat → Nat} {cA : Nat → ClassId} {h : ck_H} {w2 : va_W} {H : Heap} (L : nLS A D (ck_wd ad cA h ck_shX3) w2 H) : nLS A D (ck_wd (fun k => ad (swI k)) cA (swH h) ck_shX) w2 H := by
  obtain ⟨a, b, c, d, e⟩ := L
  refine ⟨fun k q hq => a _ q (sw_get hq), b, ⟨fun i j x y hi hj hxy => ?_, fun k q hq => c.2 _ q (sw_get hq)⟩, d, fun i j x y hx hy => e _ j x y (sw_get hx) hy⟩
  have := c.1 _ _ x y (sw_get hi) (sw_get hj) hxy
  rw [← swI_swI i, this, swI_swI]
