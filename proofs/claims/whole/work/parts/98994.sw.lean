/-! what has come before is carried along, untouched -/
theorem rl_sw (lo : Nat) : ∀ W : List Nat, ∃ W' d, ∀ u, rl lo W u = (W', u ++ d) := by
  intro W
  induction W with
  | nil => exact ⟨[], [], fun u => by rw [List.append_nil]; rfl⟩
  | cons x l ih =>
    by_cases c : lo ≤ rk x
    · obtain ⟨W', d, e⟩ := ih
      refine ⟨W', (x, 0) :: d, fun u => ?_⟩
      show (if lo ≤ rk x then rl lo l (u ++ [(x, 0)]) else (x :: l, u)) = _
      rw [if_pos c, e, List.append_assoc]
      rfl
    · refine ⟨x :: l, [], fun u => ?_⟩
      show (if lo ≤ rk x then rl lo l (u ++ [(x, 0)]) else (x :: l, u)) = _
      rw [if_neg c, List.append_nil]
theorem sst_sw (nx : Tk → Tk) (t : Tk) (w : Bool) (W : List Nat) (op kn : Nat) : ∃ c t' w' W' op' kn' d, ∀ u, sst nx (t, w, W, op, kn, u) = (c, (t', w', W', op', kn', u ++ d)) := by
  obtain ⟨W1, d1, e1⟩ := rl_sw 1 W
  obtain ⟨W5, d5, e5⟩ := rl_sw 5 W
  obtain ⟨Wb, db, eb⟩ := rl_sw (if bop t.1 = 4 then 5 else bop t.1) W
  unfold sst
  dsimp only
  simp only [e1, e5, eb]
  have z : ∀ u : List (Nat × Nat), u = u ++ [] := fun u => (List.append_nil u).symm
  by_cases cw : w = true
  · simp only [if_pos cw]
    by_cases c5 : t.1 = 5
    · simp only [if_pos c5]
      by_cases c8 : 8 ≤ op
      · simp only [if_pos c8]; exact ⟨_, _, _, _, _, _, [], fun u => by rw [List.append_nil]⟩
      · simp only [if_neg c8]; exact ⟨_, _, _, _, _, _, [], fun u => by rw [List.append_nil]⟩
    · simp only [if_neg c5]
      by_cases ca : ¬ t.1 = 31 ∧ ¬ t.1 = 2 ∧ ¬ (32 ≤ t.1 ∧ t.1 ≤ 38)
      · simp only [if_pos ca]; exact ⟨_, _, _, _, _, _, [], fun u => by rw [List.append_nil]⟩
      · simp only [if_neg ca]
        by_cases cb : t.1 = 31 ∧ 3 < tpr W
        · simp only [if_pos cb]; exact ⟨_, _, _, _, _, _, [], fun u => by rw [List.append_nil]⟩
        · simp only [if_neg cb]
          by_cases cc : 64 ≤ kn ∨ (t.1 = 2 ∧ 9999 < t.2.1)
          · simp only [if_pos cc]; exact ⟨_, _, _, _, _, _, [], fun u => by rw [List.append_nil]⟩
          · simp only [if_neg cc]
            by_cases cd : t.1 = 31
            · simp only [if_pos cd]; exact ⟨_, _, _, _, _, _, [], fun u => by rw [List.append_nil]⟩
            · simp only [if_neg cd]; exact ⟨_, _, _, _, _, _, [(t.1, if t.1 = 2 then t.2.1 else 0)], fun u => rfl⟩
  · simp only [if_neg cw]
    by_cases c6 : t.1 = 6
    · simp only [if_pos c6]
      by_cases c0 : op = 0
      · simp only [if_pos c0]; exact ⟨_, _, _, _, _, _, [], fun u => by rw [List.append_nil]⟩
      · simp only [if_neg c0]; exact ⟨_, _, _, _, _, _, _, fun u => rfl⟩
    · simp only [if_neg c6]
      by_cases c0 : bop t.1 = 0
      · simp only [if_pos c0]; exact ⟨_, _, _, _, _, _, [], fun u => by rw [List.append_nil]⟩
      · simp only [if_neg c0]
        by_cases c4 : bop t.1 = 4 ∧ tpr W5 = 4
        · simp only [if_pos c4]; exact ⟨_, _, _, _, _, _, [], fun u => by rw [List.append_nil]⟩
        · simp only [if_neg c4]
          by_cases c64 : 64 ≤ kn
          · simp only [if_pos c64]; exact ⟨_, _, _, _, _, _, [], fun u => by rw [List.append_nil]⟩
          · simp only [if_neg c64]; exact ⟨_, _, _, _, _, _, _, fun u => rfl⟩
theorem syr_sw (nx : Tk → Tk) : ∀ (k : Nat) (t : Tk) (w : Bool) (W : List Nat) (op kn : Nat), ∃ c t' w' W' op' kn' d, ∀ u, syr nx k (t, w, W, op, kn, u) = (c, (t', w', W', op', kn', u ++ d)) := by
  intro k
  induction k with
  | zero => intro t w W op kn; exact ⟨7, t, w, W, op, kn, [], fun u => by rw [List.append_nil]; rfl⟩
  | succ k ih =>
    intro t w W op kn
    obtain ⟨c, t1, w1, W1, op1, kn1, d1, e1⟩ := sst_sw nx t w W op kn
    by_cases c0 : c = 0
    · obtain ⟨c', t2, w2, W2, op2, kn2, d2, e2⟩ := ih t1 w1 W1 op1 kn1
      refine ⟨c', t2, w2, W2, op2, kn2, d1 ++ d2, fun u => ?_⟩
      show (if (sst nx (t, w, W, op, kn, u)).1 = 0 then syr nx k (sst nx (t, w, W, op, kn, u)).2 else sst nx (t, w, W, op, kn, u)) = _
      rw [e1, if_pos c0, ← List.append_assoc]
      exact e2 (u ++ d1)
    · refine ⟨c, t1, w1, W1, op1, kn1, d1, fun u => ?_⟩
      show (if (sst nx (t, w, W, op, kn, u)).1 = 0 then syr nx k (sst nx (t, w, W, op, kn, u)).2 else sst nx (t, w, W, op, kn, u)) = _
      rw [e1, if_neg c0]
theorem nEnd.sw {nx : Tk → Tk} {t : Tk} {w : Bool} {W : List Nat} {op kn c : Nat} {v : List (Nat × Nat)} {s' : St} (h : nEnd nx (t, w, W, op, kn, v) c s') : ∃ d, s'.2.2.2.2.2 = v ++ d ∧ ∀ u, nEnd nx (t, w, W, op, kn, u) c (s'.1, s'.2.1, s'.2.2.1, s'.2.2.2.1, s'.2.2.2.2.1, u ++ d) := by
  obtain ⟨i, hi⟩ := h
  obtain ⟨c0, t0, w0, W0, op0, kn0, d, e0⟩ := syr_sw nx (i + 0) t w W op kn
  have x0 := (e0 v).symm.trans (hi 0)
  cases x0
  refine ⟨d, rfl, fun u => ⟨i, fun k => ?_⟩⟩
  obtain ⟨c1, t1, w1, W1, op1, kn1, d1, e1⟩ := syr_sw nx (i + k) t w W op kn
  have x1 := (e1 v).symm.trans (hi k)
  injection x1 with a1 x1
  injection x1 with a2 x1
  injection x1 with a3 x1
  injection x1 with a4 x1
  injection x1 with a5 x1
  injection x1 with a6 x1
  have y1 : d1 = d := List.append_cancel_left x1
  rw [e1 u, y1, a1, a2, a3, a4, a5, a6]
theorem rl_pre {lo : Nat} {W : List Nat} {d : List (Nat × Nat)} : ∃ e, (∀ u, (rl lo W (u ++ d)).2 = u ++ e) := by
  obtain ⟨W', d', e⟩ := rl_sw lo W
  exact ⟨d ++ d', fun u => by rw [e, List.append_assoc]⟩
/-- two lists told by the same cells -/
theorem OU.sw {u v e : List (Nat × Nat)} {h h1 : ck_H} (Ou : OU u h) (Ov : OU v h) (hu : u.length ≤ 64) (hv : v.length ≤ 64) (O1 : OU (v ++ e) h1) : OU (u ++ e) h1 := by
  have l := Ou.un Ov hu hv
  refine ⟨by rw [O1.1, List.length_append, List.length_append, l], fun i hi => ?_⟩
  have l2 : (v ++ e).length = (u ++ e).length := by rw [List.length_append, List.length_append, l]
  have o1 := O1.2 i (by omega)
  by_cases c : i < u.length
  · have gu : (u ++ e).getD i (0, 0) = u.getD i (0, 0) := by rw [List.getD_eq_getElem?_getD, List.getD_eq_getElem?_getD, List.getElem?_append_left c]
    have gv : (v ++ e).getD i (0, 0) = v.getD i (0, 0) := by rw [List.getD_eq_getElem?_getD, List.getD_eq_getElem?_getD, List.getElem?_append_left (by omega)]
    rw [gv] at o1
    rw [gu, o1.1, o1.2, ← (Ov.2 i (by omega)).1, ← (Ov.2 i (by omega)).2]
    exact Ou.2 i c
  · have gu : (u ++ e).getD i (0, 0) = (v ++ e).getD i (0, 0) := by rw [List.getD_eq_getElem?_getD, List.getD_eq_getElem?_getD, List.getElem?_append_right (by omega), List.getElem?_append_right (by omega), l]
    rw [gu]
    exact o1
