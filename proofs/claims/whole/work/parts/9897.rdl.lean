theorem rd_law {J N S x : Nat} {u e : List (Nat × Nat)} {h h' m m' : ck_H} (R : rdD J N S u h m) (hx : x < 3) (up : up1 e) (l64 : (u ++ e).length ≤ 64)
    (eA : ∀ a, 53 ≤ a → a ≤ 67 → h'.1 a = h.1 a) (O : OU (u ++ e) h') (f1 : h'.1 71 x = nI u.length) (f2 : h'.1 72 x = nI (u ++ e).length) (fo : ∀ i, i ≠ x → h'.1 71 i = h.1 71 i ∧ h'.1 72 i = h.1 72 i)
    (mA : ∀ a i, (a = 2 ∧ i ≠ 13) ∨ (3 ≤ a ∧ a ≤ 13) ∨ (a = 0 ∧ i = 20) → m'.1 a i = m.1 a i) (m13 : m'.1 2 13 = nI (u ++ e).length) (mk16 : ∀ i, i < (u ++ e).length → ev_kr (nI ((u ++ e).getD i (0, 0)).1) (nI ((u ++ e).getD i (0, 0)).2) (m'.1 16 (64 + i)) (m'.1 17 (64 + i))) (m30 : m'.1 0 30 = nI 0) (m31 : m'.1 0 31 = nI (u ++ e).length)
    (g1 : m'.1 14 (3 + x) = nI u.length) (g2 : m'.1 15 (3 + x) = nI (u ++ e).length) (go : ∀ i, i ≠ 3 + x → m'.1 14 i = m.1 14 i ∧ m'.1 15 i = m.1 15 i)
    (e19 : m'.1 0 19 = (m.1 0 19 ||| ((1 : Int32) <<< (nI 6 &&& 31))) ||| ((1 : Int32) <<< (nI (16 + x) &&& 31))) : rdD J N S (u ++ e) h' m' := by
  obtain ⟨rj, rn, rs, ro, rl, r20⟩ := R
  have mg : ∀ k, k < 19 → (mk k m' ↔ (k = 16 + x ∨ k = 6 ∨ mk k m)) := by
    intro k hk
    unfold mk
    rw [e19, tbI _ (by omega) hk, tbI _ (by omega) hk]
  have ne := up1_ne up
  have lu : (u ++ e).length = u.length + e.length := List.length_append
  refine ⟨rj.of (fun a h1 h2 => eA a (by omega) (by omega)) (fun a i z => mA a i (by omega)), rn.of (fun a h1 h2 => eA a (by omega) (by omega)) (fun a i z => mA a i (by omega)), rs.of (Nat.le_refl _) (Nat.le_refl _) (fun a h1 h2 => eA a (by omega) (by omega)) (fun a i z => mA a i (by omega)), ro.of (fun i _ _ => by rw [eA 53 (by omega) (by omega)]) ⟨mA 2 10 (by omega), mA 2 11 (by omega)⟩ (fun k h1 h2 => (mg k (by omega)).trans ⟨fun z => (z.resolve_left (by omega)).resolve_left (by omega), fun z => Or.inr (Or.inr z)⟩), ⟨O, l64, m13, mk16, m30, m31, fun k hk => ?_⟩, by rw [eA 53 (by omega) (by omega), mA 0 20 (by omega)]; exact r20⟩
  by_cases ck : k = x
  · subst ck
    refine ⟨u.length, (u ++ e).length, f1, f2, g1, g2, by omega, Nat.le_refl _, fun _ => ?_, ?_⟩
    · rw [take_end]; exact up
    · exact ⟨fun _ => by omega, fun _ => (mg _ (by omega)).mpr (Or.inl rfl)⟩
  · obtain ⟨a, e', b1, b2, b3, b4, b5, b6, b7, b8⟩ := rl.2.2.2.2.2.2 k hk
    refine ⟨a, e', (fo k ck).1.trans b1, (fo k ck).2.trans b2, (go (3 + k) (by omega)).1.trans b3, (go (3 + k) (by omega)).2.trans b4, b5, by omega, fun z => ?_, ?_⟩
    · rw [take_app (by omega)]; exact b7 z
    · exact (mg _ (by omega)).trans ⟨fun z => b8.mp ((z.resolve_left (by omega)).resolve_left (by omega)), fun z => Or.inr (Or.inr (b8.mpr z))⟩
/-- a name that is told -/
theorem fi_sp {g : Nat → Int32} {x : Int32} : ∀ (k i : Nat), ¬ fi g x k i = -1 → ∃ j, i ≤ j ∧ j < i + k ∧ fi g x k i = nI j := by
  intro k
  induction k with
  | zero => intro i h; exact absurd rfl h
  | succ k ih =>
    intro i h
    unfold fi at h ⊢
    by_cases c : g i = x
    · rw [if_pos c]; exact ⟨i, Nat.le_refl _, by omega, rfl⟩
    · rw [if_neg c] at h ⊢
      obtain ⟨j, h1, h2, h3⟩ := ih (i + 1) h
      exact ⟨j, by omega, by omega, h3⟩
