theorem rdC.of {J N S : Nat} {u : List (Nat × Nat)} {h h' : ck_H} (R : rdC J N S u h) (e : ∀ a, 54 ≤ a → a ≤ 72 → h'.1 a = h.1 a) : rdC J N S u h' := by
  obtain ⟨⟨hJ, eJ⟩, ⟨hN, eN⟩, ⟨hS, eS⟩, O, hu, hl⟩ := R
  refine ⟨⟨hJ, by rw [e 54 (by omega) (by omega)]; exact eJ⟩, ⟨hN, by rw [e 58 (by omega) (by omega)]; exact eN⟩, ⟨hS, by rw [e 63 (by omega) (by omega)]; exact eS⟩, O.of (by rw [e 68 (by omega) (by omega)]) (e 69 (by omega) (by omega)) (e 70 (by omega) (by omega)), hu, fun k hk => ?_⟩
  rw [e 71 (by omega) (by omega), e 72 (by omega) (by omega)]
  exact hl k hk
theorem OU.un {u v : List (Nat × Nat)} {h : ck_H} (a : OU u h) (c : OU v h) (hu : u.length ≤ 64) (hv : v.length ≤ 64) : u.length = v.length := (nI_eq (by omega) (by omega)).mp (a.1.symm.trans c.1)
theorem rl_len {lo : Nat} : ∀ (W : List Nat) (u : List (Nat × Nat)), u.length ≤ (rl lo W u).2.length := by
  intro W
  induction W with
  | nil => intro u; exact Nat.le_refl _
  | cons x l ih =>
    intro u
    show u.length ≤ (if lo ≤ rk x then rl lo l (u ++ [(x, 0)]) else (x :: l, u)).2.length
    by_cases c : lo ≤ rk x
    · rw [if_pos c]
      have := ih (u ++ [(x, 0)])
      rw [List.length_append] at this
      have : u.length + 1 ≤ (rl lo l (u ++ [(x, 0)])).2.length := this
      omega
    · rw [if_neg c]; exact Nat.le_refl _
