theorem rd_nut {J N S : Nat} {u : List (Nat × Nat)} {h h' m m' : ck_H} {v1 v2 v3 v4 : Nat} (R : rdD J N S u h m) (hN : N < 6) (l2 : v2 ≤ 99) (l3 : v3 ≤ 99) (e : ∀ a, ¬ (58 ≤ a ∧ a ≤ 62) → 53 ≤ a → h'.1 a = h.1 a) (e58 : h'.1 58 1 = nI (N + 1))
    (eo : ∀ j, j < N → h'.1 59 j = h.1 59 j ∧ h'.1 60 j = h.1 60 j ∧ h'.1 61 j = h.1 61 j ∧ h'.1 62 j = h.1 62 j) (ev : h'.1 59 N = nI v1 ∧ h'.1 60 N = nI v2 ∧ h'.1 61 N = nI v3 ∧ h'.1 62 N = nI v4)
    (U : UPD m m' [(2, 8, nI (N + 1)), (9, 6 + N, nI v4), (8, 6 + N, nI v3), (7, 6 + N, nI v2), (6, 6 + N, nI v1), (0, 19, m.1 0 19 ||| ((1 : Int32) <<< (nI 1 &&& 31)))]) : rdD J (N + 1) S u h' m' := by
  obtain ⟨rj, rn, rs, ro, rl, r20⟩ := R
  have lkE : ∀ a i, lk [(2, 8, nI (N + 1)), (9, 6 + N, nI v4), (8, 6 + N, nI v3), (7, 6 + N, nI v2), (6, 6 + N, nI v1), (0, 19, m.1 0 19 ||| ((1 : Int32) <<< (nI 1 &&& 31)))] a i = if a = 2 ∧ i = 8 then some (nI (N + 1)) else if a = 9 ∧ i = 6 + N then some (nI v4) else if a = 8 ∧ i = 6 + N then some (nI v3) else if a = 7 ∧ i = 6 + N then some (nI v2) else if a = 6 ∧ i = 6 + N then some (nI v1) else if a = 0 ∧ i = 19 then some (m.1 0 19 ||| ((1 : Int32) <<< (nI 1 &&& 31))) else none := fun _ _ => rfl
  have nb : ∀ a i, ¬ (a = 0 ∧ 22 ≤ i ∧ i ≤ 27) → ¬ (a = 2 ∧ i = 8) → ¬ (6 ≤ a ∧ a ≤ 9 ∧ i = 6 + N) → ¬ (a = 0 ∧ i = 19) → m'.1 a i = m.1 a i := fun a i z0 z1 z2 z3 => by
    rw [U a i z0, lkE, if_neg z1, if_neg (by omega), if_neg (by omega), if_neg (by omega), if_neg (by omega), if_neg z3]
    rfl
  have e19 : m'.1 0 19 = m.1 0 19 ||| ((1 : Int32) <<< (nI 1 &&& 31)) := U 0 19 (by omega)
  have mg : ∀ k, 3 ≤ k → k < 19 → (mk k m' ↔ mk k m) := fun k h1 h2 => (mk_set e19 (by omega) h2).trans ⟨fun z => z.resolve_left (by omega), Or.inr⟩
  have w6 : m'.1 6 (6 + N) = nI v1 := by
    rw [U 6 (6 + N) (by omega), lkE, if_neg (by omega), if_neg (by omega), if_neg (by omega), if_neg (by omega), if_pos ⟨rfl, rfl⟩]
    rfl
  have w7 : m'.1 7 (6 + N) = nI v2 := by
    rw [U 7 (6 + N) (by omega), lkE, if_neg (by omega), if_neg (by omega), if_neg (by omega), if_pos ⟨rfl, rfl⟩]
    rfl
  have w8 : m'.1 8 (6 + N) = nI v3 := by
    rw [U 8 (6 + N) (by omega), lkE, if_neg (by omega), if_neg (by omega), if_pos ⟨rfl, rfl⟩]
    rfl
  have w9 : m'.1 9 (6 + N) = nI v4 := by
    rw [U 9 (6 + N) (by omega), lkE, if_neg (by omega), if_pos ⟨rfl, rfl⟩]
    rfl
  refine ⟨rj.of (fun a h1 h2 => e a (by omega) (by omega)) (fun a i z => nb a i (by omega) (by omega) (by omega) (by omega)), ⟨by omega, e58, U 2 8 (by omega), fun j hj => ?_⟩, rs.of (Nat.le_refl _) (by omega) (fun a h1 h2 => e a (by omega) (by omega)) (fun a i z => nb a i (by omega) (by omega) (by omega) (by omega)), ro.of (fun i _ _ => by rw [e 53 (by omega) (by omega)]) ⟨nb 2 10 (by omega) (by omega) (by omega) (by omega), nb 2 11 (by omega) (by omega) (by omega) (by omega)⟩ (fun k h1 h2 => mg k h1 (by omega)), rl.of (fun a h1 h2 => e a (by omega) (by omega)) (fun a i z => nb a i (by omega) (by omega) (by omega) (by omega)) (fun k h1 h2 => mg k (by omega) (by omega)), by rw [e 53 (by omega) (by omega), nb 0 20 (by omega) (by omega) (by omega) (by omega)]; exact r20⟩
  by_cases cj : j = N
  · subst cj
    rw [w6, w7, w8, w9, ev.1, ev.2.1, ev.2.2.1, ev.2.2.2]
    exact ⟨rfl, rfl, ⟨v2, l2, rfl⟩, rfl, ⟨v3, l3, rfl⟩, rfl⟩
  · rw [nb 6 _ (by omega) (by omega) (by omega) (by omega), nb 7 _ (by omega) (by omega) (by omega) (by omega), nb 8 _ (by omega) (by omega) (by omega) (by omega), nb 9 _ (by omega) (by omega) (by omega) (by omega), (eo j (by omega)).1, (eo j (by omega)).2.1, (eo j (by omega)).2.2.1, (eo j (by omega)).2.2.2]
    exact rn.2.2.2 j (by omega)
theorem rd_suit {J N S j0 n0 : Nat} {u : List (Nat × Nat)} {h h' m m' : ck_H} {v1 v4 : Nat} (R : rdD J N S u h m) (hS : S < 10) (hj0 : j0 < J) (hn0 : n0 < N) (l4 : v4 ≤ 99) (e : ∀ a, ¬ (63 ≤ a ∧ a ≤ 67) → 53 ≤ a → h'.1 a = h.1 a) (e63 : h'.1 63 1 = nI (S + 1))
    (eo : ∀ j, j < S → h'.1 64 j = h.1 64 j ∧ h'.1 65 j = h.1 65 j ∧ h'.1 66 j = h.1 66 j ∧ h'.1 67 j = h.1 67 j) (ev : h'.1 64 S = nI v1 ∧ h'.1 65 S = nI j0 ∧ h'.1 66 S = nI n0 ∧ h'.1 67 S = nI v4)
    (U : UPD m m' [(2, 9, nI (S + 1)), (13, 10 + S, nI v4), (12, 10 + S, nI n0), (11, 10 + S, nI j0), (10, 10 + S, nI v1), (0, 19, m.1 0 19 ||| ((1 : Int32) <<< (nI 2 &&& 31)))]) : rdD J N (S + 1) u h' m' := by
  obtain ⟨rj, rn, rs, ro, rl, r20⟩ := R
  have lkE : ∀ a i, lk [(2, 9, nI (S + 1)), (13, 10 + S, nI v4), (12, 10 + S, nI n0), (11, 10 + S, nI j0), (10, 10 + S, nI v1), (0, 19, m.1 0 19 ||| ((1 : Int32) <<< (nI 2 &&& 31)))] a i = if a = 2 ∧ i = 9 then some (nI (S + 1)) else if a = 13 ∧ i = 10 + S then some (nI v4) else if a = 12 ∧ i = 10 + S then some (nI n0) else if a = 11 ∧ i = 10 + S then some (nI j0) else if a = 10 ∧ i = 10 + S then some (nI v1) else if a = 0 ∧ i = 19 then some (m.1 0 19 ||| ((1 : Int32) <<< (nI 2 &&& 31))) else none := fun _ _ => rfl
  have nb : ∀ a i, ¬ (a = 0 ∧ 22 ≤ i ∧ i ≤ 27) → ¬ (a = 2 ∧ i = 9) → ¬ (10 ≤ a ∧ a ≤ 13 ∧ i = 10 + S) → ¬ (a = 0 ∧ i = 19) → m'.1 a i = m.1 a i := fun a i z0 z1 z2 z3 => by
    rw [U a i z0, lkE, if_neg z1, if_neg (by omega), if_neg (by omega), if_neg (by omega), if_neg (by omega), if_neg z3]
    rfl
  have e19 : m'.1 0 19 = m.1 0 19 ||| ((1 : Int32) <<< (nI 2 &&& 31)) := U 0 19 (by omega)
  have mg : ∀ k, 3 ≤ k → k < 19 → (mk k m' ↔ mk k m) := fun k h1 h2 => (mk_set e19 (by omega) h2).trans ⟨fun z => z.resolve_left (by omega), Or.inr⟩
  have w6 : m'.1 10 (10 + S) = nI v1 := by
    rw [U 10 (10 + S) (by omega), lkE, if_neg (by omega), if_neg (by omega), if_neg (by omega), if_neg (by omega), if_pos ⟨rfl, rfl⟩]
    rfl
  have w7 : m'.1 11 (10 + S) = nI j0 := by
    rw [U 11 (10 + S) (by omega), lkE, if_neg (by omega), if_neg (by omega), if_neg (by omega), if_pos ⟨rfl, rfl⟩]
    rfl
  have w8 : m'.1 12 (10 + S) = nI n0 := by
    rw [U 12 (10 + S) (by omega), lkE, if_neg (by omega), if_neg (by omega), if_pos ⟨rfl, rfl⟩]
    rfl
  have w9 : m'.1 13 (10 + S) = nI v4 := by
    rw [U 13 (10 + S) (by omega), lkE, if_neg (by omega), if_pos ⟨rfl, rfl⟩]
    rfl
  refine ⟨rj.of (fun a h1 h2 => e a (by omega) (by omega)) (fun a i z => nb a i (by omega) (by omega) (by omega) (by omega)), rn.of (fun a h1 h2 => e a (by omega) (by omega)) (fun a i z => nb a i (by omega) (by omega) (by omega) (by omega)), ⟨by omega, e63, U 2 9 (by omega), fun j hj => ?_⟩, ro.of (fun i _ _ => by rw [e 53 (by omega) (by omega)]) ⟨nb 2 10 (by omega) (by omega) (by omega) (by omega), nb 2 11 (by omega) (by omega) (by omega) (by omega)⟩ (fun k h1 h2 => mg k h1 (by omega)), rl.of (fun a h1 h2 => e a (by omega) (by omega)) (fun a i z => nb a i (by omega) (by omega) (by omega) (by omega)) (fun k h1 h2 => mg k (by omega) (by omega)), by rw [e 53 (by omega) (by omega), nb 0 20 (by omega) (by omega) (by omega) (by omega)]; exact r20⟩
  by_cases cj : j = S
  · subst cj
    rw [w6, w7, w8, w9, ev.1, ev.2.1, ev.2.2.1, ev.2.2.2]
    exact ⟨rfl, rfl, ⟨j0, hj0, rfl⟩, rfl, ⟨n0, hn0, rfl⟩, rfl, ⟨v4, l4, rfl⟩⟩
  · rw [nb 10 _ (by omega) (by omega) (by omega) (by omega), nb 11 _ (by omega) (by omega) (by omega) (by omega), nb 12 _ (by omega) (by omega) (by omega) (by omega), nb 13 _ (by omega) (by omega) (by omega) (by omega), (eo j (by omega)).1, (eo j (by omega)).2.1, (eo j (by omega)).2.2.1, (eo j (by omega)).2.2.2]
    exact rs.2.2.2 j (by omega)
theorem rd_opt {J N S x v : Nat} {u : List (Nat × Nat)} {h h' m m' : ck_H} (R : rdD J N S u h m) (hx : (x = 3 ∧ 1 ≤ v ∧ v ≤ 99) ∨ (x = 4 ∧ v ≤ 30) ∨ x = 5) (e : ∀ a, 54 ≤ a → h'.1 a = h.1 a) (e17 : h'.1 53 17 = h.1 53 17)
    (e12 : h'.1 53 12 = if x = 3 then nI v else h.1 53 12) (e13 : h'.1 53 13 = if x = 4 then nI v else h.1 53 13) (ed : ∀ k, 3 ≤ k → k ≤ 5 → h'.1 53 (11 + k) = if k = x then 1 else h.1 53 (11 + k))
    (U : UPD m m' [(2, 7 + x, nI v), (0, 19, m.1 0 19 ||| ((1 : Int32) <<< (nI x &&& 31)))]) : rdD J N S u h' m' := by
  obtain ⟨rj, rn, rs, ro, rl, r20⟩ := R
  have lkE : ∀ a i, lk [(2, 7 + x, nI v), (0, 19, m.1 0 19 ||| ((1 : Int32) <<< (nI x &&& 31)))] a i = if a = 2 ∧ i = 7 + x then some (nI v) else if a = 0 ∧ i = 19 then some (m.1 0 19 ||| ((1 : Int32) <<< (nI x &&& 31))) else none := fun _ _ => rfl
  have nb : ∀ a i, ¬ (a = 0 ∧ 22 ≤ i ∧ i ≤ 27) → ¬ (a = 2 ∧ i = 7 + x) → ¬ (a = 0 ∧ i = 19) → m'.1 a i = m.1 a i := fun a i z0 z1 z3 => by
    rw [U a i z0, lkE, if_neg z1, if_neg z3]
    rfl
  have e19 : m'.1 0 19 = m.1 0 19 ||| ((1 : Int32) <<< (nI x &&& 31)) := by
    rw [U 0 19 (by omega), lkE, if_neg (by omega), if_pos ⟨rfl, rfl⟩]; rfl
  have e2 : m'.1 2 (7 + x) = nI v := by
    rw [U 2 (7 + x) (by omega), lkE, if_pos ⟨rfl, rfl⟩]; rfl
  have mg : ∀ k, k < 19 → (mk k m' ↔ (k = x ∨ mk k m)) := fun k h2 => mk_set e19 (by omega) h2
  refine ⟨rj.of (fun a h1 h2 => e a (by omega)) (fun a i z => nb a i (by omega) (by omega) (by omega)), rn.of (fun a h1 h2 => e a (by omega)) (fun a i z => nb a i (by omega) (by omega) (by omega)), rs.of (Nat.le_refl _) (Nat.le_refl _) (fun a h1 h2 => e a (by omega)) (fun a i z => nb a i (by omega) (by omega) (by omega)), ?_, rl.of (fun a h1 h2 => e a (by omega)) (fun a i z => nb a i (by omega) (by omega) (by omega)) (fun k h1 h2 => (mg k (by omega)).trans ⟨fun z => z.resolve_left (by omega), Or.inr⟩), by rw [e17, nb 0 20 (by omega) (by omega) (by omega)]; exact r20⟩
  obtain ⟨r1, r2, r3, r4, r5, r6, r7⟩ := ro
  have mark : ∀ k, 3 ≤ k → k ≤ 5 → (mk k m ↔ ¬ h.1 53 (11 + k) = 0) → (mk k m' ↔ ¬ h'.1 53 (11 + k) = 0) := by
    intro k h1 h2 z
    rw [mg k (by omega), ed k h1 h2]
    by_cases c : k = x
    · rw [if_pos c]; exact ⟨fun _ => by decide, fun _ => Or.inl c⟩
    · rw [if_neg c, ← z]; exact ⟨fun y => y.resolve_left c, Or.inr⟩
  refine ⟨?_, ?_, ?_, ?_, mark 3 (by omega) (by omega) r5, mark 4 (by omega) (by omega) r6, mark 5 (by omega) (by omega) r7⟩
  · rw [e12]
    by_cases c : x = 3
    · rw [if_pos c]; subst c; exact e2
    · rw [if_neg c, nb 2 10 (by omega) (by omega) (by omega)]; exact r1
  · rw [e13]
    by_cases c : x = 4
    · rw [if_pos c]; subst c; exact e2
    · rw [if_neg c, nb 2 11 (by omega) (by omega) (by omega)]; exact r2
  · rw [e12]
    by_cases c : x = 3
    · rw [if_pos c]; exact ⟨v, by omega, by omega, rfl⟩
    · rw [if_neg c]; exact r3
  · rw [e13]
    by_cases c : x = 4
    · rw [if_pos c]; exact ⟨v, by omega, rfl⟩
    · rw [if_neg c]; exact r4
