theorem iX_ex : ∃ H, iX H := by
  refine ⟨(fun a i => if a = 4 then ck_words i else if a = 0 ∧ i = 13 then -1 else if a = 22 ∧ i = 6 then -1 else if a = 32 ∧ i = 12 then 50 else if a = 7 ∧ i = 6 then 50 else 0, fun _ _ => 0), ?_⟩
  refine ⟨fun a n0 n4 n7 n8 n9 n10 n11 n22 n32 n53 => ?_, rfl, fun i hi => rfl, fun i hi => ?_, rfl, fun i hi => ?_, rfl, fun i hi => ?_, rfl, ⟨rfl, rfl, rfl, rfl⟩⟩
  · funext i; dsimp only; rw [if_neg n4, if_neg (fun z => n0 z.1), if_neg (fun z => n22 z.1), if_neg (fun z => n32 z.1), if_neg (fun z => n7 z.1)]
  · dsimp only; rw [if_neg (by decide), if_neg (fun z => hi z.2), if_neg (by omega), if_neg (by omega), if_neg (by omega)]
  · dsimp only; rw [if_neg (by decide), if_neg (by omega), if_neg (fun z => hi z.2), if_neg (by omega), if_neg (by omega)]
  · dsimp only; rw [if_neg (by decide), if_neg (by omega), if_neg (by omega), if_neg (fun z => hi z.2), if_neg (by omega)]
theorem mm_init : wp_X12_init_i21 zH (fun m => ∀ h, iX h → Sim h m) := by
  have g : ∀ a : Nat, zH.1 a = fun _ => 0 := fun a => rfl
  have g2 : zH.2 = fun _ _ => 0 := rfl
  generalize zH = h at g g2
  unfold wp_X12_init_i21
  refine zz_st (g 1) g2 ?_
  refine zz_st (g 2) g2 ?_
  refine si_st (by rw [g 2]) ?_
  refine si_st (by rw [g 2]) ?_
  refine si_st (by rw [g 2]) ?_
  have z2 : ∀ i, h.1 2 i = 0 := fun i => by rw [g 2]
  intro h1 e1
  have f1 : ∀ a, a ≠ 2 → h1.1 a = h.1 a := fun a ha => by rw [e1, ck_sI_ne _ _ _ ha]
  have v1 : h1.1 2 3 = 50 := by rw [e1, ck_sI_at]
  have o1 : ∀ i, i ≠ 3 → h1.1 2 i = h.1 2 i := fun i hi => by rw [e1, ck_sI_nj _ _ hi]
  have g : ∀ a, a ≠ 2 → h1.1 a = fun _ => 0 := fun a n2 => by rw [f1 a n2]; exact g a
  have g2 : h1.2 = fun _ _ => 0 := by rw [e1]; exact g2
  refine si_st (by rw [o1 4 (by decide)]; exact z2 4) ?_
  refine si_st (by rw [o1 5 (by decide)]; exact z2 5) ?_
  refine si_st (by rw [o1 6 (by decide)]; exact z2 6) ?_
  refine si_st (by rw [o1 7 (by decide)]; exact z2 7) ?_
  refine si_st (by rw [o1 8 (by decide)]; exact z2 8) ?_
  refine si_st (by rw [o1 9 (by decide)]; exact z2 9) ?_
  intro h2 e2
  have f2 : ∀ a, a ≠ 2 → h2.1 a = h1.1 a := fun a ha => by rw [e2, ck_sI_ne _ _ _ ha]
  have v2 : h2.1 2 10 = 50 := by rw [e2, ck_sI_at]
  have o2 : ∀ i, i ≠ 10 → h2.1 2 i = h1.1 2 i := fun i hi => by rw [e2, ck_sI_nj _ _ hi]
  have g : ∀ a, a ≠ 2 → h2.1 a = fun _ => 0 := fun a n2 => by rw [f2 a n2]; exact g a n2
  have g2 : h2.2 = fun _ _ => 0 := by rw [e2]; exact g2
  refine si_st (by rw [o2 11 (by decide), o1 11 (by decide)]; exact z2 11) ?_
  refine si_st (by rw [o2 12 (by decide), o1 12 (by decide)]; exact z2 12) ?_
  refine si_st (by rw [o2 13 (by decide), o1 13 (by decide)]; exact z2 13) ?_
  refine zz_st (g 3 (by decide)) g2 ?_
  refine zz_st (g 4 (by decide)) g2 ?_
  refine zz_st (g 5 (by decide)) g2 ?_
  refine zz_st (g 6 (by decide)) g2 ?_
  refine zz_st (g 7 (by decide)) g2 ?_
  refine zz_st (g 8 (by decide)) g2 ?_
  refine zz_st (g 9 (by decide)) g2 ?_
  refine zz_st (g 10 (by decide)) g2 ?_
  refine zz_st (g 11 (by decide)) g2 ?_
  refine zz_st (g 12 (by decide)) g2 ?_
  refine zz_st (g 13 (by decide)) g2 ?_
  refine zz_st (g 14 (by decide)) g2 ?_
  refine zz_st (g 15 (by decide)) g2 ?_
  refine zz_st (g 16 (by decide)) g2 ?_
  refine zz_st (g 17 (by decide)) g2 ?_
  have z0 : ∀ i, h2.1 0 i = 0 := fun i => by rw [g 0 (by decide)]
  intro h3 e3
  have f3 : ∀ a, a ≠ 0 → h3.1 a = h2.1 a := fun a ha => by rw [e3, ck_sI_ne _ _ _ ha]
  have v3 : h3.1 0 29 = -1 := by rw [e3, ck_sI_at]
  have o3 : ∀ i, i ≠ 29 → h3.1 0 i = h2.1 0 i := fun i hi => by rw [e3, ck_sI_nj _ _ hi]
  have g : ∀ a, a ≠ 0 → a ≠ 2 → h3.1 a = fun _ => 0 := fun a n0 n2 => by rw [f3 a n0]; exact g a n2
  have g2 : h3.2 = fun _ _ => 0 := by rw [e3]; exact g2
  refine zz_st (g 18 (by decide) (by decide)) g2 ?_
  refine zz_st (g 19 (by decide) (by decide)) g2 ?_
  refine zz_st (g 20 (by decide) (by decide)) g2 ?_
  refine zz_st (g 21 (by decide) (by decide)) g2 ?_
  refine zz_st (g 22 (by decide) (by decide)) g2 ?_
  refine zz_st (g 23 (by decide) (by decide)) g2 ?_
  refine zz_st (g 24 (by decide) (by decide)) g2 ?_
  refine zz_st (g 25 (by decide) (by decide)) g2 ?_
  refine zz_st (g 26 (by decide) (by decide)) g2 ?_
  refine zz_st (g 27 (by decide) (by decide)) g2 ?_
  refine zz_st (g 28 (by decide) (by decide)) g2 ?_
  intro h4 e4
  have f4 : ∀ a, a ≠ 0 → h4.1 a = h3.1 a := fun a ha => by rw [e4, ck_sI_ne _ _ _ ha]
  have v4 : h4.1 0 47 = -1 := by rw [e4, ck_sI_at]
  have o4 : ∀ i, i ≠ 47 → h4.1 0 i = h3.1 0 i := fun i hi => by rw [e4, ck_sI_nj _ _ hi]
  have g : ∀ a, a ≠ 0 → a ≠ 2 → h4.1 a = fun _ => 0 := fun a n0 n2 => by rw [f4 a n0]; exact g a n0 n2
  have g2 : h4.2 = fun _ _ => 0 := by rw [e4]; exact g2
  intro h5 e5
  have f5 : ∀ a, a ≠ 0 → h5.1 a = h4.1 a := fun a ha => by rw [e5, ck_sI_ne _ _ _ ha]
  have v5 : h5.1 0 48 = -1 := by rw [e5, ck_sI_at]
  have o5 : ∀ i, i ≠ 48 → h5.1 0 i = h4.1 0 i := fun i hi => by rw [e5, ck_sI_nj _ _ hi]
  have g : ∀ a, a ≠ 0 → a ≠ 2 → h5.1 a = fun _ => 0 := fun a n0 n2 => by rw [f5 a n0]; exact g a n0 n2
  have g2 : h5.2 = fun _ _ => 0 := by rw [e5]; exact g2
  refine zz_st (g 29 (by decide) (by decide)) g2 ?_
  refine zz_st (g 30 (by decide) (by decide)) g2 ?_
  refine zz_st (g 31 (by decide) (by decide)) g2 ?_
  refine zz_st (g 32 (by decide) (by decide)) g2 ?_
  refine zz_st (g 33 (by decide) (by decide)) g2 ?_
  refine zz_st (g 34 (by decide) (by decide)) g2 ?_
  intro h6 e6
  have f6 : ∀ a, a ≠ 0 → h6.1 a = h5.1 a := fun a ha => by rw [e6, ck_sI_ne _ _ _ ha]
  have v6 : h6.1 0 63 = -1 := by rw [e6, ck_sI_at]
  have o6 : ∀ i, i ≠ 63 → h6.1 0 i = h5.1 0 i := fun i hi => by rw [e6, ck_sI_nj _ _ hi]
  have g : ∀ a, a ≠ 0 → a ≠ 2 → h6.1 a = fun _ => 0 := fun a n0 n2 => by rw [f6 a n0]; exact g a n0 n2
  have g2 : h6.2 = fun _ _ => 0 := by rw [e6]; exact g2
  refine zz_st (g 35 (by decide) (by decide)) g2 ?_
  refine zz_st (g 36 (by decide) (by decide)) g2 ?_
  refine zz_st (g 37 (by decide) (by decide)) g2 ?_
  refine zz_st (g 38 (by decide) (by decide)) g2 ?_
  refine zz_st (g 39 (by decide) (by decide)) g2 ?_
  have c0_2 : h6.1 0 2 = 0 := by rw [o6 2 (by decide), o5 2 (by decide), o4 2 (by decide), o3 2 (by decide)]; exact z0 2
  have c0_28 : h6.1 0 28 = 0 := by rw [o6 28 (by decide), o5 28 (by decide), o4 28 (by decide), o3 28 (by decide)]; exact z0 28
  have c0_29 : h6.1 0 29 = -1 := by rw [o6 29 (by decide), o5 29 (by decide), o4 29 (by decide)]; exact v3
  have c0_44 : h6.1 0 44 = 0 := by rw [o6 44 (by decide), o5 44 (by decide), o4 44 (by decide), o3 44 (by decide)]; exact z0 44
  have c0_45 : h6.1 0 45 = 0 := by rw [o6 45 (by decide), o5 45 (by decide), o4 45 (by decide), o3 45 (by decide)]; exact z0 45
  have c0_46 : h6.1 0 46 = 0 := by rw [o6 46 (by decide), o5 46 (by decide), o4 46 (by decide), o3 46 (by decide)]; exact z0 46
  have c0_47 : h6.1 0 47 = -1 := by rw [o6 47 (by decide), o5 47 (by decide)]; exact v4
  have c0_48 : h6.1 0 48 = -1 := by rw [o6 48 (by decide)]; exact v5
  have c0_49 : h6.1 0 49 = 0 := by rw [o6 49 (by decide), o5 49 (by decide), o4 49 (by decide), o3 49 (by decide)]; exact z0 49
  have c0_50 : h6.1 0 50 = 0 := by rw [o6 50 (by decide), o5 50 (by decide), o4 50 (by decide), o3 50 (by decide)]; exact z0 50
  have c0_62 : h6.1 0 62 = 0 := by rw [o6 62 (by decide), o5 62 (by decide), o4 62 (by decide), o3 62 (by decide)]; exact z0 62
  have c0_63 : h6.1 0 63 = -1 := v6
  have c2_0 : h6.1 2 0 = 0 := by rw [f6 2 (by decide), f5 2 (by decide), f4 2 (by decide), f3 2 (by decide), o2 0 (by decide), o1 0 (by decide)]; exact z2 0
  have c2_1 : h6.1 2 1 = 0 := by rw [f6 2 (by decide), f5 2 (by decide), f4 2 (by decide), f3 2 (by decide), o2 1 (by decide), o1 1 (by decide)]; exact z2 1
  have c2_2 : h6.1 2 2 = 0 := by rw [f6 2 (by decide), f5 2 (by decide), f4 2 (by decide), f3 2 (by decide), o2 2 (by decide), o1 2 (by decide)]; exact z2 2
  have c2_3 : h6.1 2 3 = 50 := by rw [f6 2 (by decide), f5 2 (by decide), f4 2 (by decide), f3 2 (by decide), o2 3 (by decide)]; exact v1
  have c2_4 : h6.1 2 4 = 0 := by rw [f6 2 (by decide), f5 2 (by decide), f4 2 (by decide), f3 2 (by decide), o2 4 (by decide), o1 4 (by decide)]; exact z2 4
  have c2_6 : h6.1 2 6 = 0 := by rw [f6 2 (by decide), f5 2 (by decide), f4 2 (by decide), f3 2 (by decide), o2 6 (by decide), o1 6 (by decide)]; exact z2 6
  clear v6 o6 f6 e6 v5 o5 f5 e5 v4 o4 f4 e4 v3 o3 f3 e3 v2 o2 f2 e2 v1 o1 f1 e1 z0 z2
  have P : ∀ H, iX H → PR H h6 0 0 0 := by
    intro H x
    obtain ⟨x0, _, x4, y0, y13, y22, y226, y32, y3212, y7⟩ := x
    refine ⟨by omega, by omega, by omega, ?_, ?_, ?_, c2_0, c2_1, c2_2, c2_3.trans y3212.symm, ?_, ⟨50, by omega, by omega, y3212⟩, ⟨0, by omega, y32 13 (by decide)⟩, ?_, fun j hj => absurd hj (Nat.not_lt_zero _), fun j hj => absurd hj (Nat.not_lt_zero _), fun j hj => absurd hj (Nat.not_lt_zero _), fun j hj => absurd hj (Nat.not_lt_zero _), fun j hj => absurd hj (Nat.not_lt_zero _), fun j hj => absurd hj (Nat.not_lt_zero _), fun j hj => absurd hj (Nat.not_lt_zero _), fun j hj => absurd hj (Nat.not_lt_zero _), fun j hj => absurd hj (Nat.not_lt_zero _), fun j hj => absurd hj (Nat.not_lt_zero _), fun j hj => absurd hj (Nat.not_lt_zero _), fun j hj => absurd hj (Nat.not_lt_zero _), fun j hj => absurd hj (Nat.not_lt_zero _), fun j hj => absurd hj (Nat.not_lt_zero _), fun j hj => absurd hj (Nat.not_lt_zero _), fun j hj => absurd hj (Nat.not_lt_zero _), fun j hj => absurd hj (Nat.not_lt_zero _), fun j hj => absurd hj (Nat.not_lt_zero _), fun k hk => ⟨0, 0, ?_, ?_, ?_, ?_, ⟨Nat.le_refl _, by omega, fun z => absurd z (Nat.lt_irrefl _)⟩, fun j h1 h2 => absurd h2 (Nat.not_lt_zero _)⟩⟩
    · rw [x0 33 (by decide) (by decide) (by decide) (by decide) (by decide) (by decide) (by decide) (by decide) (by decide) (by decide)]; rfl
    · rw [x0 37 (by decide) (by decide) (by decide) (by decide) (by decide) (by decide) (by decide) (by decide) (by decide) (by decide)]; rfl
    · rw [x0 42 (by decide) (by decide) (by decide) (by decide) (by decide) (by decide) (by decide) (by decide) (by decide) (by decide)]; rfl
    · rw [c2_4, y32 13 (by decide)]
    · rw [c2_6, x0 47 (by decide) (by decide) (by decide) (by decide) (by decide) (by decide) (by decide) (by decide) (by decide) (by decide)]
    · rw [x0 50 (by decide) (by decide) (by decide) (by decide) (by decide) (by decide) (by decide) (by decide) (by decide) (by decide)]; rfl
    · rw [x0 51 (by decide) (by decide) (by decide) (by decide) (by decide) (by decide) (by decide) (by decide) (by decide) (by decide)]; rfl
    · rw [g 14 (by decide) (by decide)]; rfl
    · rw [g 15 (by decide) (by decide)]; rfl
  obtain ⟨H0, x00⟩ := iX_ex
  unfold wp_X12_begins
  refine mm_st (b := 0) (P H0 x00) (by omega) (fun m' f T Z H x => ?_)
  have f0 : ∀ i, m'.1 0 i = h6.1 0 i := fun i => f 0 i (by unfold inB; omega)
  have rows : ∀ a, a < 20 ∨ 28 < a → m'.1 a = h6.1 a := fun a z => funext (fun i => f a i (by unfold inB; omega))
  have P' : PR H m' 0 0 0 := (P H x).kept (fun _ _ _ => rfl) (fun a h1 h2 => rows a (by omega))
  obtain ⟨x0, xL, x4, y0, y13, y22, y226, y32, y3212, y7⟩ := id x
  have sd : H.2 74 11 = (nI 0).toInt64 := by rw [xL]; rfl
  have t1 : m'.1 22 0 = 0 := T.1.1
  have t2 : m'.1 20 0 = 0 := T.1.2.1
  have t3 : m'.1 21 0 = 50 := by
    have z : m'.1 21 0 = (if h6.1 0 48 = -1 then h6.1 2 3 else h6.1 0 48) := T.1.2.2.1
    rw [z, if_pos c0_48]; exact c2_3
  have t4 : m'.1 23 0 = 0 := T.1.2.2.2
  have TX : TQ 0 0 (Mv m' 0) (Tv H 7) := by
    refine ⟨⟨t1.trans y7.1.symm, t2.trans y7.2.1.symm, t3.trans y7.2.2.1.symm, t4.trans y7.2.2.2.symm⟩, fun j hj => absurd hj (Nat.not_lt_zero _), fun j hj => absurd hj (Nat.not_lt_zero _), ?_⟩
    show (m'.1 0 50).toInt64 = H.2 74 11
    rw [f0, c0_50, sd]; rfl
  refine ⟨0, 0, 0, P', TX, Z, ⟨⟨0, by omega, y7.2.1⟩, ⟨50, by omega, by omega, y7.2.2.1⟩, fun j hj => absurd hj (Nat.not_lt_zero _), fun j hj => absurd hj (Nat.not_lt_zero _), fun j hj => absurd hj (Nat.not_lt_zero _), fun j hj => absurd hj (Nat.not_lt_zero _)⟩, ⟨0, by omega, sd⟩, ⟨?_, fun z => absurd (y0 14 (by decide)) z⟩, ?_, ⟨0, by omega, y0 11 (by decide), ?_, fun i hi => absurd hi (by omega)⟩, ⟨?_, ?_⟩, ⟨0, by omega, y22 5 (by decide), ?_, ?_, Or.inl y226, fun i hi => absurd hi (Nat.not_lt_zero _)⟩, sim_deeds.zero ?_ ?_, x4⟩
  · rw [f0, c0_44, y0 14 (by decide)]
  · rw [f0, f0, f0, f0]; exact ⟨c0_46, c0_47, c0_48, c0_49⟩
  · rw [f0]; exact c0_2
  · rw [f0, c0_28, y0 12 (by decide)]
  · rw [f0, c0_29, y13]
  · rw [f0]; exact c0_62
  · rw [f0, c0_63, y226]
  · rw [x0 28 (by decide) (by decide) (by decide) (by decide) (by decide) (by decide) (by decide) (by decide) (by decide) (by decide)]
  · rw [f0]; exact c0_45
