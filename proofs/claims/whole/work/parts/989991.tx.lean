/-! behind a good text -/
theorem rd_PR {J N S : Nat} {u : List (Nat × Nat)} {h m H m' : ck_H} (R : rdD J N S u h m) (e : ∀ a, 53 ≤ a → a ≤ 72 → H.1 a = h.1 a) (V : ∀ a j, 2 ≤ a → a ≤ 17 → j < hf a → m'.1 a j = m.1 a (hf a + j)) : PR (swH H) m' J N S := by
  obtain ⟨rj, rn, rs, ro, rL, r20⟩ := R
  have s : ∀ a, 32 ≤ a → a ≤ 51 → (swH H).1 a = h.1 (a + 21) := fun a h1 h2 => by rw [swH_p ⟨h1, by omega⟩, e _ (by omega) (by omega)]
  have hJ := rj.1; have hN := rn.1; have hS := rs.1
  refine ⟨hJ, hN, hS, ?_, ?_, ?_, ?_, ?_, ?_, ?_, ?_, ?_, ?_, ?_, fun j hj => ?_, fun j hj => ?_, fun j hj => ?_, fun j hj => ?_, fun j hj => ?_, fun j hj => ?_, fun j hj => ?_, fun j hj => ?_, fun j hj => ?_, fun j hj => ?_, fun j hj => ?_, fun j hj => ?_, fun j hj => ?_, fun j hj => ?_, fun j hj => ?_, fun j hj => ?_, fun j hj => ?_, fun j hj => ?_, fun k hk => ?_⟩
  · rw [s 33 (by omega) (by omega)]; exact rj.2.1
  · rw [s 37 (by omega) (by omega)]; exact rn.2.1
  · rw [s 42 (by omega) (by omega)]; exact rs.2.1
  · rw [V 2 0 (by omega) (by omega) (by show 0 < 7; omega)]; exact rj.2.2.1
  · rw [V 2 1 (by omega) (by omega) (by show 1 < 7; omega)]; exact rn.2.2.1
  · rw [V 2 2 (by omega) (by omega) (by show 2 < 7; omega)]; exact rs.2.2.1
  · rw [V 2 3 (by omega) (by omega) (by show 3 < 7; omega), s 32 (by omega) (by omega)]; exact ro.1
  · rw [V 2 4 (by omega) (by omega) (by show 4 < 7; omega), s 32 (by omega) (by omega)]; exact ro.2.1
  · rw [s 32 (by omega) (by omega)]; exact ro.2.2.1
  · rw [s 32 (by omega) (by omega)]; exact ro.2.2.2.1
  · rw [V 2 6 (by omega) (by omega) (by show 6 < 7; omega), s 47 (by omega) (by omega)]; exact rL.2.2.1.trans rL.1.1.symm
  · rw [V 3 j (by omega) (by omega) (by show j < 4; omega), s 34 (by omega) (by omega)]; exact (rj.2.2.2 j hj).1
  · rw [V 4 j (by omega) (by omega) (by show j < 4; omega), s 35 (by omega) (by omega)]; exact (rj.2.2.2 j hj).2.1
  · rw [s 35 (by omega) (by omega)]; exact (rj.2.2.2 j hj).2.2.1
  · rw [V 5 j (by omega) (by omega) (by show j < 4; omega), s 36 (by omega) (by omega)]; exact (rj.2.2.2 j hj).2.2.2.1
  · rw [s 36 (by omega) (by omega)]; exact (rj.2.2.2 j hj).2.2.2.2
  · rw [V 6 j (by omega) (by omega) (by show j < 6; omega), s 38 (by omega) (by omega)]; exact (rn.2.2.2 j hj).1
  · rw [V 7 j (by omega) (by omega) (by show j < 6; omega), s 39 (by omega) (by omega)]; exact (rn.2.2.2 j hj).2.1
  · rw [s 39 (by omega) (by omega)]; exact (rn.2.2.2 j hj).2.2.1
  · rw [V 8 j (by omega) (by omega) (by show j < 6; omega), s 40 (by omega) (by omega)]; exact (rn.2.2.2 j hj).2.2.2.1
  · rw [s 40 (by omega) (by omega)]; exact (rn.2.2.2 j hj).2.2.2.2.1
  · rw [V 9 j (by omega) (by omega) (by show j < 6; omega), s 41 (by omega) (by omega)]; exact (rn.2.2.2 j hj).2.2.2.2.2
  · rw [V 10 j (by omega) (by omega) (by show j < 10; omega), s 43 (by omega) (by omega)]; exact (rs.2.2.2 j hj).1
  · rw [V 11 j (by omega) (by omega) (by show j < 10; omega), s 44 (by omega) (by omega)]; exact (rs.2.2.2 j hj).2.1
  · rw [s 44 (by omega) (by omega)]; exact (rs.2.2.2 j hj).2.2.1
  · rw [V 12 j (by omega) (by omega) (by show j < 10; omega), s 45 (by omega) (by omega)]; exact (rs.2.2.2 j hj).2.2.2.1
  · rw [s 45 (by omega) (by omega)]; exact (rs.2.2.2 j hj).2.2.2.2.1
  · rw [V 13 j (by omega) (by omega) (by show j < 10; omega), s 46 (by omega) (by omega)]; exact (rs.2.2.2 j hj).2.2.2.2.2.1
  · rw [s 46 (by omega) (by omega)]; exact (rs.2.2.2 j hj).2.2.2.2.2.2
  · obtain ⟨a, c, b1, b2, b3, b4, b5, b6, b7, b8⟩ := rL.2.2.2.2.2.2 k hk
    have u64 := rL.2.1
    have O := rL.1
    have kd : ∀ i, i < u.length → h.1 69 i = nI (u.getD i (0, 0)).1 := fun i hi => (O.2 i hi).1
    have nb : ∀ i, i < u.length → h.1 70 i = nI (u.getD i (0, 0)).2 := fun i hi => (O.2 i hi).2
    refine ⟨a, c, ?_, ?_, ?_, ?_, ⟨b5, by omega, fun z => ?_⟩, fun j h1 h2 => ?_⟩
    · rw [s 50 (by omega) (by omega)]; exact b1
    · rw [s 51 (by omega) (by omega)]; exact b2
    · rw [V 14 k (by omega) (by omega) (by show k < 3; omega)]; exact b3
    · rw [V 15 k (by omega) (by omega) (by show k < 3; omega)]; exact b4
    · rw [s 48 (by omega) (by omega)]
      have up := b7 z 0
      have len : ((u.drop a).take (c - a)).length = c - a := by rw [List.length_take, List.length_drop]; omega
      have w := wfl_wf (kd := h.1 69) ((u.drop a).take (c - a)) a 0 (fun j hj => ?_) up (by rw [len]; omega)
      · rw [len] at w; exact w
      · rw [len] at hj
        rw [kd (a + j) (by omega), List.getD_eq_getElem?_getD, List.getD_eq_getElem?_getD, List.getElem?_take_of_lt hj, List.getElem?_drop]
    · rw [s 48 (by omega) (by omega), s 49 (by omega) (by omega), V 16 j (by omega) (by omega) (by show j < 64; omega), V 17 j (by omega) (by omega) (by show j < 64; omega), kd j (by omega), nb j (by omega)]
      exact rL.2.2.2.1 j (by omega)
/-- class and model behind a good text -/
theorem SimP.new {J N S : Nat} {H m : ck_H} {Q : ck_H → Prop} (P : PR (swH H) m J N S)
    (c7 : H.1 7 4 = 0 ∧ H.1 7 5 = 0 ∧ H.1 7 6 = H.1 53 12 ∧ H.1 7 7 = 0) (c8 : ∀ j, j < 4 → H.1 8 j = H.1 57 j) (c9 : ∀ s, s < 10 → H.1 9 s = H.1 65 s ∧ H.1 10 s = H.1 67 s ∧ H.1 11 s = -1)
    (sd : ∃ d, d < 2 ^ 31 ∧ m.1 0 50 = nI d ∧ H.2 74 11 = (nI d).toInt64) (im : H.1 0 14 = 0 ∧ m.1 0 44 = 0) (md : m.1 0 46 = 0 ∧ m.1 0 47 = -1 ∧ m.1 0 48 = -1 ∧ m.1 0 49 = 0) (tp : H.1 0 11 = 0 ∧ m.1 0 2 = 0) (fl : H.1 0 12 = m.1 0 28 ∧ H.1 0 13 = m.1 0 29)
    (nt : H.1 22 5 = 0 ∧ H.1 22 6 = -1 ∧ m.1 0 62 = 0 ∧ m.1 0 63 = -1) (dd : H.1 28 3 = 0 ∧ m.1 0 45 = 0) (wd : ∀ i, i < 19 → H.1 4 i = ck_words i)
    (q : ∀ m', m'.1 0 20 = m.1 0 20 → SimP J N S (swH H) m' → Q m') : wp_X12_begins m Q := by
  unfold wp_X12_begins
  have hJ := P.hJ; have hS := P.hS
  obtain ⟨d, d1, d2, d3⟩ := sd
  have p57 : (swH H).1 36 = H.1 57 := swH_p ⟨by omega, by omega⟩
  have p65 : (swH H).1 44 = H.1 65 := swH_p ⟨by omega, by omega⟩
  have p67 : (swH H).1 46 = H.1 67 := swH_p ⟨by omega, by omega⟩
  have p53 : (swH H).1 32 = H.1 53 := swH_p ⟨by omega, by omega⟩
  have o : ∀ a, a < 32 ∨ 73 < a → (swH H).1 a = H.1 a := fun a z => swH_o z
  have L2 : (swH H).2 74 11 = (nI d).toInt64 := by show H.2 (swI 74) 11 = _; rw [swI_o (by omega)]; exact d3
  refine mm_st (b := 0) P (by omega) (fun m' f T Z => q m' ?_ ?_)
  · exact f 0 20 (by unfold inB; omega)
  · have f0 : ∀ i, m'.1 0 i = m.1 0 i := fun i => f 0 i (by unfold inB; omega)
    have rows : ∀ a, a < 20 ∨ 28 < a → m'.1 a = m.1 a := fun a z => funext (fun i => f a i (by unfold inB; omega))
    have P' : PR (swH H) m' J N S := P.kept (fun _ _ _ => rfl) (fun a h1 h2 => rows a (by omega))
    have l48 : (if m.1 0 48 = -1 then m.1 2 3 else m.1 0 48) = (swH H).1 32 12 := by rw [if_pos md.2.2.1]; exact P.lev
    rw [l48, d2, ← L2] at T
    have TX : TQ J S (Tv (swH H) 7) (T_bg (pl (swH H)) ((swH H).1 32 12) ((swH H).2 74 11)) := by
      refine tx_bgT rfl ?_ (fun j hj => ?_) (fun s hs => ?_) hJ hS
      · rw [o 7 (by omega), p53]; exact c7
      · show (swH H).1 8 j = (swH H).1 36 j
        rw [o 8 (by omega), p57]; exact c8 j hj
      · show (swH H).1 9 s = (swH H).1 44 s ∧ (swH H).1 10 s = (swH H).1 46 s ∧ (swH H).1 11 s = -1
        rw [o 9 (by omega), o 10 (by omega), o 11 (by omega), p65, p67]; exact c9 s hs
    obtain ⟨l, l1, l2, l3⟩ : ∃ a, 1 ≤ a ∧ a ≤ 99 ∧ (swH H).1 32 12 = nI a := P.2.2.2.2.2.2.2.2.2.2.2.1
    have ok0 : TOk 0 J S (T_bg (pl (swH H)) ((swH H).1 32 12) ((swH H).2 74 11)) := by rw [l3]; exact T_bg_Ok P l1 l2
    refine ⟨P', T.tr TX.sy, Z, (ok0.le (by omega)).q TX.sy, ⟨d, d1, L2⟩, ⟨?_, fun c => ?_⟩, ?_, ⟨0, by omega, ?_, ?_, fun i hi => by omega⟩, ?_, ⟨0, by omega, ?_, ?_, ?_, ?_, fun i hi => by omega⟩, sim_deeds.zero ?_ ?_, fun i hi => ?_⟩
    · rw [o 0 (by omega), f0]; exact im.1.trans im.2.symm
    · rw [o 0 (by omega)] at c; exact absurd im.1 c
    · rw [f0, f0, f0, f0]; exact md
    · rw [o 0 (by omega)]; exact tp.1
    · rw [f0]; exact tp.2
    · rw [o 0 (by omega), f0, f0]; exact fl
    · rw [o 22 (by omega)]; exact nt.1
    · rw [f0]; exact nt.2.2.1
    · rw [o 22 (by omega), f0]; exact nt.2.1.trans nt.2.2.2.symm
    · rw [o 22 (by omega)]; exact Or.inl nt.2.1
    · rw [o 28 (by omega)]; exact dd.1
    · rw [f0]; exact dd.2
    · rw [o 4 (by omega)]; exact wd i hi
