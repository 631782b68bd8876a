/-! an E, both ways -/
theorem nE_good {b : Nat → Nat} {n c0 c kn kn' : Nat} {t t' : Tk} {u u1 e : List (Nat × Nat)} {P : List Nat} {m' : ck_H} {s' : St} (G : nGD b n 1 1 c0 t [] 0 kn u m' t' kn' e P u1) (en : nEnd (nxt b n) (t, true, [], 0, kn, u) c s') : c = 9 ∧ s' = (t', false, P ++ [], 0, kn', u1) ∧ rl 1 (P ++ []) u1 = ([], u ++ e) := by
  obtain ⟨_, _, _, _, _, _, hb, hP, hu, sy, _⟩ := G
  have ss : sst (nxt b n) (t', false, P ++ [], 0, kn', u1) = (9, (t', false, P ++ [], 0, kn', u1)) := by
    by_cases c6 : t'.1 = 6
    · show (if false = true then _ else (if t'.1 = 6 then (if 0 = 0 then _ else _) else _)) = _
      rw [if_neg (by decide), if_pos c6, if_pos rfl]
    · exact sst_end c6 (by omega)
  have un := en.un (nEnd.step sy (nEnd.one ss (by omega)))
  refine ⟨un.1, un.2, ?_⟩
  rw [rl_all P [] u1 hP (by show 0 < 1; omega), hu]
theorem nE_bad {b : Nat → Nat} {n c f p : Nat} {s s' : St} (B : SyB (nxt b n) s f p) (en : nEnd (nxt b n) s c s') : s'.1.2.2.1 = p ∧ (((c = 1 ∨ c = 2) ∧ f = c) ∨ (c = 9 ∧ 0 < s'.2.2.2.1 ∧ f = 1)) := by
  obtain ⟨j, c', s'', hj, hp, hf⟩ := B
  have un := en.un ⟨j, hj⟩
  obtain ⟨rfl, rfl⟩ := un
  exact ⟨hp, hf⟩
/-- what the class answers to an E is what the run says -/
theorem nE_x3 {c f : Nat} {s' : St} {x3 : Int32} {A : Prop} (hf : ((c = 1 ∨ c = 2) ∧ f = c) ∨ (c = 9 ∧ 0 < s'.2.2.2.1 ∧ f = 1)) (hx : (c = 9 ∧ s'.2.2.2.1 = 0 ∧ x3 = 0 ∧ A) ∨ (c = 9 ∧ 0 < s'.2.2.2.1 ∧ x3 = 1) ∨ ((c = 1 ∨ c = 2) ∧ x3 = nI c)) : x3 = nI f ∧ 1 ≤ f ∧ f ≤ 4 := by
  rcases hf with ⟨h1, rfl⟩ | ⟨h1, h2, rfl⟩
  · rcases hx with ⟨z, _⟩ | ⟨z, _⟩ | ⟨_, z⟩
    · omega
    · omega
    · exact ⟨z, by omega, by omega⟩
  · rcases hx with ⟨_, z, _⟩ | ⟨_, _, z⟩ | ⟨z, _⟩
    · omega
    · exact ⟨z, by omega, by omega⟩
    · omega
theorem up1_ne {e : List (Nat × Nat)} (h : up1 e) : 0 < e.length := by
  cases e with
  | nil =>
    have z := h 0
    have z : some 0 = some (0 + 1) := z
    cases z
  | cons x l => exact Nat.succ_pos _
theorem take_app {u e : List (Nat × Nat)} {a k : Nat} (h : a + k ≤ u.length) : ((u ++ e).drop a).take k = (u.drop a).take k := by
  rw [List.drop_append_of_le_length (by omega), List.take_append_of_le_length (by rw [List.length_drop]; omega)]
theorem take_end {u e : List (Nat × Nat)} : ((u ++ e).drop u.length).take ((u ++ e).length - u.length) = e := by
  rw [List.drop_left, List.length_append, Nat.add_sub_cancel_left, List.take_length]
