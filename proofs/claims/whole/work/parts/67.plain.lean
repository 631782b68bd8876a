theorem sim_fault {J N S : Nat} {h m : ck_H} {x : Int32} (H : SimP J N S h m) : wp_X11_fault x h (fun r h' => wp_X12_fault x m (fun r' m' => r = r' ∧ Sim h' m')) := by
  have T := H.thr 0
  have f1 := H.flt
  unfold wp_X11_fault wp_X12_fault
  refine ⟨fun c => ⟨fun c2 => ?_, fun c2 => ?_⟩, fun c => ?_⟩
  · rintro _ rfl; exact br_m c (br_m c2 ⟨rfl, _, _, _, T⟩)
  · rintro _ rfl; exact br_m c (br_q c2 ⟨by rw [ck_sI_nj _ _ (by decide)]; exact f1.2, _, _, _, T⟩)
  · rintro _ rfl; exact br_q c ⟨by rw [ck_sI_nj _ _ (by decide)]; exact f1.1, _, _, _, T⟩
def fi (f : Nat → Int32) (x : Int32) : Nat → Nat → Int32
  | 0, _ => -1
  | k + 1, i => if f i = x then nI i else fi f x k (i + 1)
theorem fi_eq {f g : Nat → Int32} {x : Int32} : ∀ (k i : Nat), (∀ j, i ≤ j → j < i + k → f j = g j) → fi f x k i = fi g x k i := by
  intro k
  induction k with
  | zero => exact fun _ _ => rfl
  | succ k ih =>
    intro i h
    unfold fi
    rw [h i (by omega) (by omega), ih (i + 1) (fun j a b => h j (by omega) (by omega))]
theorem tx_find2 {Q : Int32 → ck_H → Prop} {o n : Nat} {x : Int32} {h : ck_H} (hl : n ≤ ck_ln ck_shX (o + 1)) (h2 : ck_ln ck_shX (o + 1) < 1000) (e : h.1 o 1 = nI n) : ∀ (k i f : Nat), k < f → i + k = n → Q (fi (h.1 (o + 1)) x k i) h → wp_X5_find_2 Q o f x (nI i) h := by
  intro k
  induction k with
  | zero =>
    intro i f hf hi q
    obtain ⟨f, rfl⟩ : ∃ g, f = g + 1 := ⟨f - 1, by omega⟩
    unfold wp_X5_find_2
    exact pk_le n i (fun _ => q) (fun z => by omega) e rfl (by omega) (by omega)
  | succ k ih =>
    intro i f hf hi q
    obtain ⟨f, rfl⟩ : ∃ g, f = g + 1 := ⟨f - 1, by omega⟩
    unfold wp_X5_find_2
    refine pk_le n i (fun z => by omega) (fun _ => ⟨pu_in (by omega) (by omega), ?_⟩) e rfl (by omega) (by omega)
    rw [nI_clamp (n := i) (by omega), nI_1]
    unfold fi at q
    refine ⟨fun c => ?_, fun c => ?_⟩
    · rintro _ rfl
      rw [if_neg c] at q
      exact ih (i + 1) f (by omega) (by omega) q
    · rw [if_pos c] at q
      exact q
theorem tx_find {Q : Int32 → ck_H → Prop} {o n : Nat} {x : Int32} {h : ck_H} (hl : n ≤ ck_ln ck_shX (o + 1)) (h2 : ck_ln ck_shX (o + 1) < 1000) (e : h.1 o 1 = nI n) (q : Q (fi (h.1 (o + 1)) x n 0) h) : wp_X5_find o x h Q :=
  tx_find2 hl h2 e n 0 lpN (by unfold lpN; omega) (by omega) q
theorem mm_found3 {Q : Int32 → ck_H → Prop} {o n a : Nat} {x : Int32} {m : ck_H} (hl : a + n ≤ ck_ln ck_shM o) (h2 : ck_ln ck_shM o < 1000) : ∀ (k i f : Nat), k < f → i + k = n → Q (fi (fun j => m.1 o (a + j)) x k i) m → wp_X12_found_3 Q o f (nI a) (nI n) x (nI i) m := by
  intro k
  induction k with
  | zero =>
    intro i f hf hi q
    obtain ⟨f, rfl⟩ : ∃ g, f = g + 1 := ⟨f - 1, by omega⟩
    unfold wp_X12_found_3
    exact pk_le n i (fun _ => q) (fun z => by omega) rfl rfl (by omega) (by omega)
  | succ k ih =>
    intro i f hf hi q
    obtain ⟨f, rfl⟩ : ∃ g, f = g + 1 := ⟨f - 1, by omega⟩
    unfold wp_X12_found_3
    rw [nI_add, nI_clamp (n := a + i) (by omega)]
    refine pk_le n i (fun z => by omega) (fun _ => ⟨pu_in (by omega) (by omega), ?_⟩) rfl rfl (by omega) (by omega)
    rw [nI_1]
    unfold fi at q
    refine ⟨fun c => ?_, fun c => ?_⟩
    · rintro _ rfl
      rw [if_neg c] at q
      exact ih (i + 1) f (by omega) (by omega) q
    · rw [if_pos c] at q
      exact q
theorem mm_found {Q : Int32 → ck_H → Prop} {o n a : Nat} {x : Int32} {m : ck_H} (hl : a + n ≤ ck_ln ck_shM o) (h2 : ck_ln ck_shM o < 1000) (q : Q (fi (fun j => m.1 o (a + j)) x n 0) m) : wp_X12_found o (nI a) (nI n) x m Q :=
  mm_found3 hl h2 n 0 lpN (by unfold lpN; omega) (by omega) q
theorem sim_named {J N S : Nat} {h m : ck_H} {x y : Int32} (H : SimP J N S h m) : wp_X11_named x y h (fun r h' => wp_X12_named x y m (fun r' m' => r = r' ∧ Sim h' m')) := by
  have T := H.thr 0
  have P := T.pr
  have a1 := P.hJ; have a2 := P.hN; have a3 := P.hS
  unfold wp_X11_named wp_X12_named
  refine ⟨fun c => tx_find a1 (by decide) P.xJ ?_, fun c => ⟨fun c2 => tx_find a2 (by decide) P.xN ?_, fun c2 => ⟨fun c3 => tx_find a3 (by decide) P.xS ?_, fun c3 => ?_⟩⟩⟩
  · rintro _ rfl
    refine br_p c ?_
    rw [P.mJ]
    refine mm_found (a := 0) (by rw [Nat.zero_add]; exact Nat.le_trans a1 (by decide)) (by decide) ⟨?_, _, _, _, T⟩
    exact fi_eq _ _ (fun j _ hj => by rw [Nat.zero_add]; exact (P.jn j (by omega)).symm)
  · rintro _ rfl
    refine br_n c (br_p c2 ?_)
    rw [P.mN]
    refine mm_found (a := 0) (by rw [Nat.zero_add]; exact Nat.le_trans a2 (by decide)) (by decide) ⟨?_, _, _, _, T⟩
    exact fi_eq _ _ (fun j _ hj => by rw [Nat.zero_add]; exact (P.nn j (by omega)).symm)
  · rintro _ rfl
    refine br_n c (br_n c2 (br_p c3 ?_))
    rw [P.mS]
    refine mm_found (a := 0) (by rw [Nat.zero_add]; exact Nat.le_trans a3 (by decide)) (by decide) ⟨?_, _, _, _, T⟩
    exact fi_eq _ _ (fun j _ hj => by rw [Nat.zero_add]; exact (P.sn j (by omega)).symm)
  · rintro _ rfl
    exact br_n c (br_n c2 (br_n c3 ⟨rfl, _, _, _, T⟩))
theorem g_by_tried {t : Tt} {j : Int32} {S : Nat} : g_by t j (fun v => decide (¬ v = -1 ∧ ((-1 : Int32) = -1 ∨ v = -1))) S = g_by t j (fun v => decide (¬ v = -1)) S := fo_eq S 0 0 (fun i y _ _ => by simp)
theorem g_by_whole {t : Tt} {j : Int32} {S : Nat} : g_by t j (fun v => decide (¬ v = -1 ∧ ((1 : Int32) = -1 ∨ v = 1))) S = g_by t j (fun v => decide (v = 1)) S := by
  refine fo_eq S 0 0 (fun i y _ _ => ?_)
  have e : decide (¬ t.2.2.2.2.1 i = -1 ∧ ((1 : Int32) = -1 ∨ t.2.2.2.2.1 i = 1)) = decide (t.2.2.2.2.1 i = 1) := by
    refine decide_eq_decide.mpr ⟨fun z => ?_, fun z => ⟨by rw [z]; decide, Or.inr z⟩⟩
    rcases z.2 with q | q
    · exact absurd q (by decide)
    · exact q
  show (if t.2.2.1 i = j ∧ decide (¬ t.2.2.2.2.1 i = -1 ∧ ((1 : Int32) = -1 ∨ t.2.2.2.2.1 i = 1)) = true then y + 1 else y) = _
  rw [e]
theorem sim_judge {J N S : Nat} {h m : ck_H} {x y : Int32} (H : SimP J N S h m) : wp_X11_judge x y h (fun r h' => wp_X12_judge x y m (fun r' m' => r = r' ∧ Sim h' m')) := by
  have T := H.thr 0
  have P := T.pr
  have a1 := P.hJ; have a2 := P.hN; have a3 := P.hS
  unfold wp_X11_judge wp_X12_judge
  by_cases hj : ∃ j, j < J ∧ x = nI j
  · obtain ⟨j, hj, rfl⟩ := hj
    refine xJ_p P hj (br_m (by decide) ?_)
    rw [nI_clamp (n := j) (by omega)]
    refine ⟨fun c => ⟨pu_in (by omega) (by decide), ?_⟩, fun c => ⟨fun c2 => ⟨pu_in (by omega) (by decide), ?_⟩, fun c2 => ⟨fun c3 => tx_tried P ?_, fun c3 => ⟨fun c4 => tx_whole P ?_, fun c4 => ?_⟩⟩⟩⟩
    · rintro _ rfl; exact mJ_p P hj (br_m (by decide) (br_p c ⟨pu_in (by omega) (by decide), (P.jaw j hj).symm, _, _, _, T⟩))
    · rintro _ rfl; exact mJ_p P hj (br_m (by decide) (br_n c (br_p c2 ⟨pu_in (by omega) (by decide), (T.te hj).symm, _, _, _, T⟩)))
    · rintro _ rfl; exact mJ_p P hj (br_m (by decide) (br_n c (br_n c2 (br_p c3 (mm_tried P ⟨by rw [g_by_tried]; exact (g_by_Q T.now _ _).symm, _, _, _, T⟩)))))
    · rintro _ rfl; exact mJ_p P hj (br_m (by decide) (br_n c (br_n c2 (br_n c3 (br_p c4 (mm_tried P ⟨by rw [g_by_whole]; exact (g_by_Q T.now _ _).symm, _, _, _, T⟩))))))
    · rintro _ rfl; exact mJ_p P hj (br_m (by decide) (br_n c (br_n c2 (br_n c3 (br_n c4 ⟨rfl, _, _, _, T⟩)))))
  · refine xJ_n P hj (br_q rfl ?_)
    rintro _ rfl
    exact mJ_n P hj (br_q rfl ⟨rfl, _, _, _, T⟩)
theorem sim_nut {J N S : Nat} {h m : ck_H} {x y : Int32} (H : SimP J N S h m) : wp_X11_nut x y h (fun r h' => wp_X12_nut x y m (fun r' m' => r = r' ∧ Sim h' m')) := by
  have T := H.thr 0
  have P := T.pr
  have a1 := P.hJ; have a2 := P.hN; have a3 := P.hS
  unfold wp_X11_nut wp_X12_nut
  by_cases hj : ∃ j, j < N ∧ x = nI j
  · obtain ⟨j, hj, rfl⟩ := hj
    refine xN_p P hj (br_m (by decide) ?_)
    rw [nI_clamp (n := j) (by omega)]
    refine ⟨fun c => ⟨pu_in (by omega) (by decide), ?_⟩, fun c => ⟨fun c2 => ⟨pu_in (by omega) (by decide), ?_⟩, fun c2 => ⟨fun c3 => ⟨pu_in (by omega) (by decide), ?_⟩, fun c3 => ?_⟩⟩⟩
    · rintro _ rfl; exact mN_p P hj (br_m (by decide) (br_q c ⟨pu_in (by omega) (by decide), (P.hard j hj).symm, _, _, _, T⟩))
    · rintro _ rfl; exact mN_p P hj (br_m (by decide) (br_m c (br_q c2 ⟨pu_in (by omega) (by decide), (P.wor j hj).symm, _, _, _, T⟩)))
    · rintro _ rfl; exact mN_p P hj (br_m (by decide) (br_m c (br_m c2 (br_q c3 ⟨pu_in (by omega) (by decide), (P.bit j hj).symm, _, _, _, T⟩))))
    · rintro _ rfl; exact mN_p P hj (br_m (by decide) (br_m c (br_m c2 (br_m c3 ⟨rfl, _, _, _, T⟩))))
  · refine xN_n P hj (br_q rfl ?_)
    rintro _ rfl
    exact mN_n P hj (br_q rfl ⟨rfl, _, _, _, T⟩)
theorem sim_count {J N S : Nat} {h m : ck_H} {x : Int32} (H : SimP J N S h m) : wp_X11_count x h (fun r h' => wp_X12_count x m (fun r' m' => r = r' ∧ Sim h' m')) := by
  have T := H.thr 0
  have P := T.pr
  obtain ⟨nc, n1, n2, n3, n4, n5⟩ := T.notes
  obtain ⟨dc, d1, d2, d3, d4⟩ := T.deeds
  have z : (0 : Int32) = nI 0 := rfl
  have em : ∀ v, g_many (Tv h 7) v S = g_many (Mv (ck_sI m 0 0 0) 0) v S := fun v => (g_many_Q T.now v).symm
  unfold wp_X11_count wp_X12_count
  refine ⟨fun c0 => ?_, fun c0 => ⟨fun c1 => ?_, fun c1 => ⟨fun c2 => ?_, fun c2 => ⟨fun c3 => ?_, fun c3 => ⟨fun c4 => ?_, fun c4 => ⟨fun c5 => ?_, fun c5 => ⟨fun c6 => tx_many P ?_, fun c6 => ⟨fun c7 => tx_many P ?_, fun c7 => ⟨fun c8 => tx_many P ?_, fun c8 => ⟨fun c9 => tx_many P ?_, fun c9 => ⟨fun c10 => tx_gain P ?_, fun c10 => ⟨fun c11 => tx_mouse P ?_, fun c11 => ⟨fun c12 => ?_, fun c12 => ⟨fun c13 => ?_, fun c13 => ⟨fun c14 => ⟨fun c => ?_, fun c => ?_⟩, fun c14 => ⟨fun c15 => ?_, fun c15 => ?_⟩⟩⟩⟩⟩⟩⟩⟩⟩⟩⟩⟩⟩⟩⟩⟩
  · rintro _ rfl; exact br_p c0 ⟨by rw [P.xJ, P.mJ], _, _, _, T⟩
  · rintro _ rfl; exact br_n c0 (br_p c1 ⟨by rw [P.xN, P.mN], _, _, _, T⟩)
  · rintro _ rfl; exact br_n c0 (br_n c1 (br_p c2 ⟨by rw [P.xS, P.mS], _, _, _, T⟩))
  · rintro _ rfl; exact br_n c0 (br_n c1 (br_n c2 (br_p c3 ⟨P.kn.symm, _, _, _, T⟩)))
  · rintro _ rfl; exact br_n c0 (br_n c1 (br_n c2 (br_n c3 (br_p c4 ⟨T.day.symm, _, _, _, T⟩))))
  · rintro _ rfl; exact br_n c0 (br_n c1 (br_n c2 (br_n c3 (br_n c4 (br_p c5 ⟨T.lev.symm, _, _, _, T⟩)))))
  · rintro _ rfl; exact br_n c0 (br_n c1 (br_n c2 (br_n c3 (br_n c4 (br_n c5 (br_p c6 (mm_many (b := 0) P (by decide) ⟨em _, _, _, _, T⟩)))))))
  · rintro _ rfl; exact br_n c0 (br_n c1 (br_n c2 (br_n c3 (br_n c4 (br_n c5 (br_n c6 (br_p c7 (mm_many (b := 0) P (by decide) ⟨em _, _, _, _, T⟩))))))))
  · rintro _ rfl; exact br_n c0 (br_n c1 (br_n c2 (br_n c3 (br_n c4 (br_n c5 (br_n c6 (br_n c7 (br_p c8 (mm_many (b := 0) P (by decide) ⟨em _, _, _, _, T⟩)))))))))
  · rintro _ rfl; exact br_n c0 (br_n c1 (br_n c2 (br_n c3 (br_n c4 (br_n c5 (br_n c6 (br_n c7 (br_n c8 (br_p c9 (mm_many (b := 0) P (by decide) ⟨em _, _, _, _, T⟩))))))))))
  · rintro _ rfl; exact br_n c0 (br_n c1 (br_n c2 (br_n c3 (br_n c4 (br_n c5 (br_n c6 (br_n c7 (br_n c8 (br_n c9 (br_p c10 (mm_gain (b := 0) P (by decide) ⟨(g_gain_Q T.now _).symm, _, _, _, T⟩)))))))))))
  · rintro _ rfl; exact br_n c0 (br_n c1 (br_n c2 (br_n c3 (br_n c4 (br_n c5 (br_n c6 (br_n c7 (br_n c8 (br_n c9 (br_n c10 (br_p c11 (mm_mouse P ⟨(g_mouse_Q T.now _).symm, _, _, _, T⟩))))))))))))
  · rintro _ rfl; exact br_n c0 (br_n c1 (br_n c2 (br_n c3 (br_n c4 (br_n c5 (br_n c6 (br_n c7 (br_n c8 (br_n c9 (br_n c10 (br_n c11 (br_p c12 ⟨T.los.symm, _, _, _, T⟩))))))))))))
  · rintro _ rfl; exact br_n c0 (br_n c1 (br_n c2 (br_n c3 (br_n c4 (br_n c5 (br_n c6 (br_n c7 (br_n c8 (br_n c9 (br_n c10 (br_n c11 (br_n c12 (br_p c13 ⟨by rw [n2, n3], _, _, _, T⟩)))))))))))))
  · rintro _ rfl; exact br_n c0 (br_n c1 (br_n c2 (br_n c3 (br_n c4 (br_n c5 (br_n c6 (br_n c7 (br_n c8 (br_n c9 (br_n c10 (br_n c11 (br_n c12 (br_n c13 (br_p c14 (br_m (by rw [← n4]; exact c) ⟨n4, _, _, _, T⟩)))))))))))))))
  · rintro _ rfl; exact br_n c0 (br_n c1 (br_n c2 (br_n c3 (br_n c4 (br_n c5 (br_n c6 (br_n c7 (br_n c8 (br_n c9 (br_n c10 (br_n c11 (br_n c12 (br_n c13 (br_p c14 (br_q (by rw [← n4]; exact c) ⟨by rw [n2, n3], _, _, _, T⟩)))))))))))))))
  · rintro _ rfl; exact br_n c0 (br_n c1 (br_n c2 (br_n c3 (br_n c4 (br_n c5 (br_n c6 (br_n c7 (br_n c8 (br_n c9 (br_n c10 (br_n c11 (br_n c12 (br_n c13 (br_n c14 (br_p c15 ⟨by rw [d2, d3], _, _, _, T⟩)))))))))))))))
  · rintro _ rfl; exact br_n c0 (br_n c1 (br_n c2 (br_n c3 (br_n c4 (br_n c5 (br_n c6 (br_n c7 (br_n c8 (br_n c9 (br_n c10 (br_n c11 (br_n c12 (br_n c13 (br_n c14 (br_n c15 ⟨rfl, _, _, _, T⟩)))))))))))))))
