/-! what the constructors leave -/
def zH : ck_H := (fun _ _ => 0, fun _ _ => 0)
theorem zz_st {h : ck_H} {k : Nat} {P : ck_H → Prop} (z1 : h.1 k = fun _ => 0) (z2 : h.2 = fun _ _ => 0) (q : P h) : ∀ h', h' = ck_z h k → P h' := by
  rintro _ rfl
  have e : ck_z h k = h := by
    unfold ck_z
    refine Prod.ext ?_ ?_
    · funext a
      show (if a = k then fun _ => 0 else h.1 a) = h.1 a
      by_cases c : a = k
      · rw [if_pos c, c, z1]
      · rw [if_neg c]
    · funext a
      show (if a = k then fun _ => 0 else h.2 a) = h.2 a
      by_cases c : a = k
      · rw [if_pos c, z2]
      · rw [if_neg c]
  rw [e]
  exact q
theorem si_st {h : ck_H} {k i : Nat} {v : Int32} {P : ck_H → Prop} (z1 : h.1 k i = v) (q : P h) : ∀ h', h' = ck_sI h k i v → P h' := by
  rintro _ rfl
  have e : ck_sI h k i v = h := by
    unfold ck_sI
    refine Prod.ext ?_ rfl
    funext a
    show (if a = k then upd (h.1 a) i v else h.1 a) = h.1 a
    by_cases c : a = k
    · rw [if_pos c, c]
      funext j
      unfold upd
      by_cases d : j = i
      · rw [if_pos d, d, z1]
      · rw [if_neg d]
    · rw [if_neg c]
  rw [e]
  exact q
/-- the words, read off their text -/
def ww : Nat → Nat → Int32 → Nat → List Int32 → List Int32
  | 0, _, _, _, l => l
  | k + 1, w, x3, i, l => if 19 ≤ w then l else if ck_chX (nI i) = 32 then ww k (w + 1) 25 (i + 1) l else ww k w (x3 + (-5)) (i + 1) (l.set w ((l.getD w 0) ||| (((ck_chX (nI i) - 97) + 1) <<< (x3 &&& 31))))
theorem ww_all : ww 94 0 25 0 (List.replicate 19 0) = [357702816, 492437504, 659869696, 609865728, 642945024, 404455424, 217648288, 650153312, 777046016, 522190848, 48365568, 486146048, 337346560, 676516096, 270077952, 77222066, 408622656, 418418688, 136085504] := by decide +kernel
theorem ww_w : ∀ i, i < 19 → ([357702816, 492437504, 659869696, 609865728, 642945024, 404455424, 217648288, 650153312, 777046016, 522190848, 48365568, 486146048, 337346560, 676516096, 270077952, 77222066, 408622656, 418418688, 136085504] : List Int32).getD i 0 = ck_words i := by decide +kernel
theorem ww_set {l : List Int32} {w : Nat} {v : Int32} (h : w < l.length) : (fun j => (l.set w v).getD j 0) = upd (fun j => l.getD j 0) w v := by
  funext j
  unfold upd
  show (l.set w v).getD j 0 = if j = w then v else l.getD j 0
  rw [List.getD_eq_getElem?_getD, List.getD_eq_getElem?_getD]
  by_cases c : j = w
  · subst c
    rw [if_pos rfl, List.getElem?_set_self h]
    rfl
  · rw [if_neg c, List.getElem?_set_ne (fun z => c z.symm)]
theorem tx_ww {Q : ck_H → Prop} : ∀ (k w : Nat) (x3 : Int32) (i f : Nat) (h : ck_H) (l : List Int32), k < f → i + k = 94 → w ≤ i → l.length = 19 → (h.1 4 = fun j => l.getD j 0) → (∀ h', (∀ a, a ≠ 4 → h'.1 a = h.1 a) → h'.2 = h.2 → (h'.1 4 = fun j => (ww k w x3 i l).getD j 0) → Q h') → wp_X8_init_i2_25 Q f (nI w) x3 (nI i) h := by
  intro k
  induction k with
  | zero =>
    intro w x3 i f h l hf hs hw hl e4 hq
    obtain ⟨f, rfl⟩ : ∃ g, f = g + 1 := ⟨f - 1, by omega⟩
    have i94 : (94 : Int32) ≤ nI i := nI_le (a := 94) (by omega) (by omega)
    unfold wp_X8_init_i2_25
    exact br_p i94 (hq h (fun _ _ => rfl) rfl e4)
  | succ k ih =>
    intro w x3 i f h l hf hs hw hl e4 hq
    obtain ⟨f, rfl⟩ : ∃ g, f = g + 1 := ⟨f - 1, by omega⟩
    have i94 : ¬ (94 : Int32) ≤ nI i := nI_ge (b := 94) (by omega) (by omega)
    have ew : ww (k + 1) w x3 i l = if 19 ≤ w then l else if ck_chX (nI i) = 32 then ww k (w + 1) 25 (i + 1) l else ww k w (x3 + (-5)) (i + 1) (l.set w ((l.getD w 0) ||| (((ck_chX (nI i) - 97) + 1) <<< (x3 &&& 31)))) := rfl
    unfold wp_X8_init_i2_25
    refine br_n i94 ?_
    by_cases c19 : 19 ≤ w
    · rw [if_pos c19] at ew
      exact br_p (nI_le (a := 19) c19 (by omega)) (hq h (fun _ _ => rfl) rfl (by rw [ew]; exact e4))
    · rw [if_neg c19] at ew
      refine br_n (nI_ge (b := 19) (by omega) (by omega)) ⟨pu_in (by omega) (by decide), ?_⟩
      rintro _ rfl
      by_cases c32 : ck_chX (nI i) = 32
      · rw [if_pos c32] at ew
        refine br_q c32 ?_
        rintro _ rfl
        unfold wp_X8_init_i2_87
        rintro _ rfl
        rw [nI_1, nI_1]
        exact ih (w + 1) 25 (i + 1) f h l (by omega) (by omega) (by omega) hl e4 (fun h' e1 e2 e3 => hq h' e1 e2 (by rw [ew]; exact e3))
      · rw [if_neg c32] at ew
        refine br_m c32 ⟨pu_in (by omega) (by decide), pu_in (by omega) (by decide), ?_⟩
        rw [nI_clamp (n := w) (by omega)]
        rintro _ rfl _ rfl
        unfold wp_X8_init_i2_87
        rintro _ rfl
        rw [nI_1]
        have g4 : h.1 4 w = l.getD w 0 := by rw [e4]
        refine ih w (x3 + (-5)) (i + 1) f _ (l.set w ((l.getD w 0) ||| (((ck_chX (nI i) - 97) + 1) <<< (x3 &&& 31)))) (by omega) (by omega) (by omega) (by rw [List.length_set]; exact hl) ?_ (fun h' e1 e2 e3 => hq h' (fun a ha => by rw [e1 a ha, ck_sI_ne _ _ _ ha]) e2 (by rw [ew]; exact e3))
        rw [ww_set (w := w) (by omega), g4, ← e4]
        show (if 4 = 4 then upd (h.1 4) w _ else h.1 4) = _
        rw [if_pos rfl]

def iX (h : ck_H) : Prop := (∀ a, a ≠ 0 → a ≠ 4 → a ≠ 7 → a ≠ 8 → a ≠ 9 → a ≠ 10 → a ≠ 11 → a ≠ 22 → a ≠ 32 → a ≠ 53 → h.1 a = fun _ => 0) ∧ (h.2 = fun _ _ => 0) ∧ (∀ i, i < 19 → h.1 4 i = ck_words i) ∧ (∀ i, i ≠ 13 → h.1 0 i = 0) ∧ h.1 0 13 = -1 ∧ (∀ i, i ≠ 6 → h.1 22 i = 0) ∧ h.1 22 6 = -1 ∧ (∀ i, i ≠ 12 → h.1 32 i = 0) ∧ h.1 32 12 = 50 ∧ (h.1 7 4 = 0 ∧ h.1 7 5 = 0 ∧ h.1 7 6 = 50 ∧ h.1 7 7 = 0)
theorem tx_init : wp_X11_init_i0 zH iX := by
  have g : ∀ a : Nat, zH.1 a = fun _ => 0 := fun a => rfl
  have g2 : zH.2 = fun _ _ => 0 := rfl
  generalize zH = h at g g2
  unfold wp_X11_init_i0
  refine zz_st (g 1) g2 ?_
  refine zz_st (g 2) g2 ?_
  unfold wp_X9_init_i1
  refine zz_st (g 3) g2 ?_
  unfold wp_X8_init_i2
  refine zz_st (g 4) g2 ?_
  refine tx_ww 94 0 25 0 lpN _ (List.replicate 19 0) (by decide) rfl (Nat.le_refl _) rfl (by rw [g 4]; funext j; rw [List.getD_eq_getElem?_getD, List.getElem?_replicate]; by_cases c : j < 19 <;> simp [c]) (fun h w1 w2 w3 => ?_)
  rw [ww_all] at w3
  have w4 : ∀ i, i < 19 → h.1 4 i = ck_words i := fun i hi => by rw [w3]; exact ww_w i hi
  clear w3
  have g : ∀ a, a ≠ 4 → h.1 a = fun _ => 0 := fun a n4 => by rw [w1 a n4]; exact g a
  have g2 : h.2 = fun _ _ => 0 := by rw [w2]; exact g2
  refine zz_st (g 5 (by decide)) g2 ?_
  unfold wp_X3_init_i3
  refine zz_st (g 6 (by decide)) g2 ?_
  refine zz_st (g 7 (by decide)) g2 ?_
  unfold wp_X1_init_i4
  refine zz_st (g 8 (by decide)) g2 ?_
  refine zz_st (g 9 (by decide)) g2 ?_
  refine zz_st (g 10 (by decide)) g2 ?_
  refine zz_st (g 11 (by decide)) g2 ?_
  refine zz_st (g 12 (by decide)) g2 ?_
  unfold wp_X1_init_i5
  refine zz_st (g 13 (by decide)) g2 ?_
  refine zz_st (g 14 (by decide)) g2 ?_
  refine zz_st (g 15 (by decide)) g2 ?_
  refine zz_st (g 16 (by decide)) g2 ?_
  refine zz_st (g 17 (by decide)) g2 ?_
  unfold wp_X1_init_i6
  refine zz_st (g 18 (by decide)) g2 ?_
  refine zz_st (g 19 (by decide)) g2 ?_
  refine zz_st (g 20 (by decide)) g2 ?_
  refine zz_st (g 21 (by decide)) g2 ?_
  refine zz_st (g 22 (by decide)) g2 ?_
  unfold wp_X6_init_i7
  refine zz_st (g 23 (by decide)) g2 ?_
  refine zz_st (g 24 (by decide)) g2 ?_
  refine zz_st (g 25 (by decide)) g2 ?_
  refine zz_st (g 26 (by decide)) g2 ?_
  refine zz_st (g 27 (by decide)) g2 ?_
  have z22 : ∀ i, h.1 22 i = 0 := fun i => by rw [g 22 (by decide)]
  intro h1 e1
  have f1 : ∀ a, a ≠ 22 → h1.1 a = h.1 a := fun a ha => by rw [e1, ck_sI_ne _ _ _ ha]
  have v1 : h1.1 22 6 = -1 := by rw [e1, ck_sI_at]
  have o1 : ∀ i, i ≠ 6 → h1.1 22 i = h.1 22 i := fun i hi => by rw [e1, ck_sI_nj _ _ hi]
  have g : ∀ a, a ≠ 4 → a ≠ 22 → h1.1 a = fun _ => 0 := fun a n4 n22 => by rw [f1 a n22]; exact g a n4
  have g2 : h1.2 = fun _ _ => 0 := by rw [e1]; exact g2
  refine zz_st (g 28 (by decide) (by decide)) g2 ?_
  unfold wp_X2_init_i8
  refine zz_st (g 29 (by decide) (by decide)) g2 ?_
  refine zz_st (g 30 (by decide) (by decide)) g2 ?_
  refine zz_st (g 31 (by decide) (by decide)) g2 ?_
  refine zz_st (g 32 (by decide) (by decide)) g2 ?_
  unfold wp_X7_init_i9
  refine zz_st (g 33 (by decide) (by decide)) g2 ?_
  unfold wp_X5_init_i10
  refine zz_st (g 34 (by decide) (by decide)) g2 ?_
  refine zz_st (g 35 (by decide) (by decide)) g2 ?_
  refine zz_st (g 36 (by decide) (by decide)) g2 ?_
  refine zz_st (g 37 (by decide) (by decide)) g2 ?_
  unfold wp_X5_init_i11
  refine zz_st (g 38 (by decide) (by decide)) g2 ?_
  refine zz_st (g 39 (by decide) (by decide)) g2 ?_
  refine zz_st (g 40 (by decide) (by decide)) g2 ?_
  refine zz_st (g 41 (by decide) (by decide)) g2 ?_
  refine zz_st (g 42 (by decide) (by decide)) g2 ?_
  unfold wp_X5_init_i12
  refine zz_st (g 43 (by decide) (by decide)) g2 ?_
  refine zz_st (g 44 (by decide) (by decide)) g2 ?_
  refine zz_st (g 45 (by decide) (by decide)) g2 ?_
  refine zz_st (g 46 (by decide) (by decide)) g2 ?_
  refine zz_st (g 47 (by decide) (by decide)) g2 ?_
  unfold wp_X4_init_i13
  refine zz_st (g 48 (by decide) (by decide)) g2 ?_
  refine zz_st (g 49 (by decide) (by decide)) g2 ?_
  refine zz_st (g 50 (by decide) (by decide)) g2 ?_
  refine zz_st (g 51 (by decide) (by decide)) g2 ?_
  refine zz_st (g 52 (by decide) (by decide)) g2 ?_
  have z32 : ∀ i, h1.1 32 i = 0 := fun i => by rw [g 32 (by decide) (by decide)]
  intro h2 e2
  have f2 : ∀ a, a ≠ 32 → h2.1 a = h1.1 a := fun a ha => by rw [e2, ck_sI_ne _ _ _ ha]
  have v2 : h2.1 32 12 = 50 := by rw [e2, ck_sI_at]
  have o2 : ∀ i, i ≠ 12 → h2.1 32 i = h1.1 32 i := fun i hi => by rw [e2, ck_sI_nj _ _ hi]
  have g : ∀ a, a ≠ 4 → a ≠ 22 → a ≠ 32 → h2.1 a = fun _ => 0 := fun a n4 n22 n32 => by rw [f2 a n32]; exact g a n4 n22
  have g2 : h2.2 = fun _ _ => 0 := by rw [e2]; exact g2
  refine zz_st (g 53 (by decide) (by decide) (by decide)) g2 ?_
  unfold wp_X7_init_i14
  refine zz_st (g 54 (by decide) (by decide) (by decide)) g2 ?_
  unfold wp_X5_init_i15
  refine zz_st (g 55 (by decide) (by decide) (by decide)) g2 ?_
  refine zz_st (g 56 (by decide) (by decide) (by decide)) g2 ?_
  refine zz_st (g 57 (by decide) (by decide) (by decide)) g2 ?_
  refine zz_st (g 58 (by decide) (by decide) (by decide)) g2 ?_
  unfold wp_X5_init_i16
  refine zz_st (g 59 (by decide) (by decide) (by decide)) g2 ?_
  refine zz_st (g 60 (by decide) (by decide) (by decide)) g2 ?_
  refine zz_st (g 61 (by decide) (by decide) (by decide)) g2 ?_
  refine zz_st (g 62 (by decide) (by decide) (by decide)) g2 ?_
  refine zz_st (g 63 (by decide) (by decide) (by decide)) g2 ?_
  unfold wp_X5_init_i17
  refine zz_st (g 64 (by decide) (by decide) (by decide)) g2 ?_
  refine zz_st (g 65 (by decide) (by decide) (by decide)) g2 ?_
  refine zz_st (g 66 (by decide) (by decide) (by decide)) g2 ?_
  refine zz_st (g 67 (by decide) (by decide) (by decide)) g2 ?_
  refine zz_st (g 68 (by decide) (by decide) (by decide)) g2 ?_
  unfold wp_X4_init_i18
  refine zz_st (g 69 (by decide) (by decide) (by decide)) g2 ?_
  refine zz_st (g 70 (by decide) (by decide) (by decide)) g2 ?_
  refine zz_st (g 71 (by decide) (by decide) (by decide)) g2 ?_
  refine zz_st (g 72 (by decide) (by decide) (by decide)) g2 ?_
  refine zz_st (g 73 (by decide) (by decide) (by decide)) g2 ?_
  intro h3 e3
  have f3 : ∀ a, a ≠ 53 → h3.1 a = h2.1 a := fun a ha => by rw [e3, ck_sI_ne _ _ _ ha]
  have v3 : h3.1 53 12 = 50 := by rw [e3, ck_sI_at]
  have o3 : ∀ i, i ≠ 12 → h3.1 53 i = h2.1 53 i := fun i hi => by rw [e3, ck_sI_nj _ _ hi]
  have g : ∀ a, a ≠ 4 → a ≠ 22 → a ≠ 32 → a ≠ 53 → h3.1 a = fun _ => 0 := fun a n4 n22 n32 n53 => by rw [f3 a n53]; exact g a n4 n22 n32
  have g2 : h3.2 = fun _ _ => 0 := by rw [e3]; exact g2
  have z0 : ∀ i, h3.1 0 i = 0 := fun i => by rw [g 0 (by decide) (by decide) (by decide) (by decide)]
  intro h4 e4
  have f4 : ∀ a, a ≠ 0 → h4.1 a = h3.1 a := fun a ha => by rw [e4, ck_sI_ne _ _ _ ha]
  have v4 : h4.1 0 13 = -1 := by rw [e4, ck_sI_at]
  have o4 : ∀ i, i ≠ 13 → h4.1 0 i = h3.1 0 i := fun i hi => by rw [e4, ck_sI_nj _ _ hi]
  have g : ∀ a, a ≠ 0 → a ≠ 4 → a ≠ 22 → a ≠ 32 → a ≠ 53 → h4.1 a = fun _ => 0 := fun a n0 n4 n22 n32 n53 => by rw [f4 a n0]; exact g a n4 n22 n32 n53
  have g2 : h4.2 = fun _ _ => 0 := by rw [e4]; exact g2
  refine zz_st (g 74 (by decide) (by decide) (by decide) (by decide) (by decide)) g2 ?_
  unfold wp_X10_init_i19
  refine zz_st (g 75 (by decide) (by decide) (by decide) (by decide) (by decide)) g2 ?_
  refine zz_st (g 76 (by decide) (by decide) (by decide) (by decide) (by decide)) g2 ?_
  refine zz_st (g 77 (by decide) (by decide) (by decide) (by decide) (by decide)) g2 ?_
  unfold wp_X0_init_i20
  refine zz_st (g 78 (by decide) (by decide) (by decide) (by decide) (by decide)) g2 ?_
  refine zz_st (g 79 (by decide) (by decide) (by decide) (by decide) (by decide)) g2 ?_
  refine zz_st (g 80 (by decide) (by decide) (by decide) (by decide) (by decide)) g2 ?_
  refine tx_bg (o := 7) (o1 := 32) (Or.inl rfl) (by omega) (fun hF k1 k2 k3 k4 k5 => ?_)
  have q22 : h4.1 22 = h1.1 22 := by rw [f4 22 (by decide), f3 22 (by decide), f2 22 (by decide)]
  have q32 : h4.1 32 = h2.1 32 := by rw [f4 32 (by decide), f3 32 (by decide)]
  have q0 : h4.1 0 = h4.1 0 := by rfl
  have q4 : h4.1 4 = h.1 4 := by rw [f4 4 (by decide), f3 4 (by decide), f2 4 (by decide), f1 4 (by decide)]
  refine ⟨fun a n0 n4 n7 n8 n9 n10 n11 n22 n32 n53 => ?_, by rw [k2]; exact g2, fun i hi => ?_, fun i hi => ?_, ?_, fun i hi => ?_, ?_, fun i hi => ?_, ?_, ?_⟩
  · rw [k1 a (by omega)]; exact g a n0 n4 n22 n32 n53
  · rw [k1 4 (by omega), q4]; exact w4 i hi
  · rw [k1 0 (by omega), q0, o4 i hi]; exact z0 i
  · rw [k1 0 (by omega), q0]; exact v4
  · rw [k1 22 (by omega), q22, o1 i hi]; exact z22 i
  · rw [k1 22 (by omega), q22]; exact v1
  · rw [k1 32 (by omega), q32, o2 i hi]; exact z32 i
  · rw [k1 32 (by omega), q32]; exact v2
  · rw [← v2, ← q32]; exact k3
