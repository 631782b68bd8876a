/-! class and model, while a text is being read -/
def mk (k : Nat) (m : ck_H) : Prop := ((m.1 0 19 >>> (nI k &&& 31)) &&& 1) = 1
def rdJ (J : Nat) (h m : ck_H) : Prop := J ≤ 4 ∧ h.1 54 1 = nI J ∧ m.1 2 7 = nI J ∧ ∀ j, j < J → m.1 3 (4 + j) = h.1 55 j ∧ m.1 4 (4 + j) = h.1 56 j ∧ rg (h.1 56 j) 99 ∧ m.1 5 (4 + j) = h.1 57 j ∧ rg (h.1 57 j) 9
def rdN (N : Nat) (h m : ck_H) : Prop := N ≤ 6 ∧ h.1 58 1 = nI N ∧ m.1 2 8 = nI N ∧ ∀ j, j < N → m.1 6 (6 + j) = h.1 59 j ∧ m.1 7 (6 + j) = h.1 60 j ∧ rg (h.1 60 j) 99 ∧ m.1 8 (6 + j) = h.1 61 j ∧ rg (h.1 61 j) 99 ∧ m.1 9 (6 + j) = h.1 62 j
def rdS (J N S : Nat) (h m : ck_H) : Prop := S ≤ 10 ∧ h.1 63 1 = nI S ∧ m.1 2 9 = nI S ∧ ∀ s, s < S → m.1 10 (10 + s) = h.1 64 s ∧ m.1 11 (10 + s) = h.1 65 s ∧ (∃ j, j < J ∧ h.1 65 s = nI j) ∧ m.1 12 (10 + s) = h.1 66 s ∧ (∃ j, j < N ∧ h.1 66 s = nI j) ∧ m.1 13 (10 + s) = h.1 67 s ∧ rg (h.1 67 s) 99
def rdO (h m : ck_H) : Prop := m.1 2 10 = h.1 53 12 ∧ m.1 2 11 = h.1 53 13 ∧ (∃ a, 1 ≤ a ∧ a ≤ 99 ∧ h.1 53 12 = nI a) ∧ rg (h.1 53 13) 30 ∧ (mk 3 m ↔ ¬ h.1 53 14 = 0) ∧ (mk 4 m ↔ ¬ h.1 53 15 = 0) ∧ (mk 5 m ↔ ¬ h.1 53 16 = 0)
def rdL (u : List (Nat × Nat)) (h m : ck_H) : Prop := OU u h ∧ u.length ≤ 64 ∧ m.1 2 13 = nI u.length ∧ (∀ i, i < u.length → ev_kr (nI (u.getD i (0, 0)).1) (nI (u.getD i (0, 0)).2) (m.1 16 (64 + i)) (m.1 17 (64 + i))) ∧ m.1 0 30 = nI 0 ∧ m.1 0 31 = nI u.length ∧
  ∀ k, k < 3 → ∃ a e, h.1 71 k = nI a ∧ h.1 72 k = nI e ∧ m.1 14 (3 + k) = nI a ∧ m.1 15 (3 + k) = nI e ∧ a ≤ e ∧ e ≤ u.length ∧ (a < e → up1 ((u.drop a).take (e - a))) ∧ (mk (16 + k) m ↔ a < e)
def rdD (J N S : Nat) (u : List (Nat × Nat)) (h m : ck_H) : Prop := rdJ J h m ∧ rdN N h m ∧ rdS J N S h m ∧ rdO h m ∧ rdL u h m ∧ h.1 53 17 = m.1 0 20
/-- a line's end: the next line may come -/
theorem rdJ.of {J : Nat} {h h' m m' : ck_H} (r : rdJ J h m) (e : ∀ a, 54 ≤ a → a ≤ 57 → h'.1 a = h.1 a) (f : ∀ a i, (a = 2 ∧ i = 7) ∨ (3 ≤ a ∧ a ≤ 5) → m'.1 a i = m.1 a i) : rdJ J h' m' := by
  obtain ⟨r1, r2, r3, r4⟩ := r
  refine ⟨r1, by rw [e 54 (by omega) (by omega)]; exact r2, by rw [f 2 7 (by omega)]; exact r3, fun j hj => ?_⟩
  rw [f 3 _ (by omega), f 4 _ (by omega), f 5 _ (by omega), e 55 (by omega) (by omega), e 56 (by omega) (by omega), e 57 (by omega) (by omega)]
  exact r4 j hj
theorem rdN.of {N : Nat} {h h' m m' : ck_H} (r : rdN N h m) (e : ∀ a, 58 ≤ a → a ≤ 62 → h'.1 a = h.1 a) (f : ∀ a i, (a = 2 ∧ i = 8) ∨ (6 ≤ a ∧ a ≤ 9) → m'.1 a i = m.1 a i) : rdN N h' m' := by
  obtain ⟨r1, r2, r3, r4⟩ := r
  refine ⟨r1, by rw [e 58 (by omega) (by omega)]; exact r2, by rw [f 2 8 (by omega)]; exact r3, fun j hj => ?_⟩
  rw [f 6 _ (by omega), f 7 _ (by omega), f 8 _ (by omega), f 9 _ (by omega), e 59 (by omega) (by omega), e 60 (by omega) (by omega), e 61 (by omega) (by omega), e 62 (by omega) (by omega)]
  exact r4 j hj
theorem rdS.of {J N S J' N' : Nat} {h h' m m' : ck_H} (r : rdS J N S h m) (hj : J ≤ J') (hn : N ≤ N') (e : ∀ a, 63 ≤ a → a ≤ 67 → h'.1 a = h.1 a) (f : ∀ a i, (a = 2 ∧ i = 9) ∨ (10 ≤ a ∧ a ≤ 13) → m'.1 a i = m.1 a i) : rdS J' N' S h' m' := by
  obtain ⟨r1, r2, r3, r4⟩ := r
  refine ⟨r1, by rw [e 63 (by omega) (by omega)]; exact r2, by rw [f 2 9 (by omega)]; exact r3, fun s hs => ?_⟩
  rw [f 10 _ (by omega), f 11 _ (by omega), f 12 _ (by omega), f 13 _ (by omega), e 64 (by omega) (by omega), e 65 (by omega) (by omega), e 66 (by omega) (by omega), e 67 (by omega) (by omega)]
  obtain ⟨b1, b2, ⟨j, b3, b4⟩, b5, ⟨j', b6, b7⟩, b8⟩ := r4 s hs
  exact ⟨b1, b2, ⟨j, by omega, b4⟩, b5, ⟨j', by omega, b7⟩, b8⟩
theorem rdO.of {h h' m m' : ck_H} (r : rdO h m) (e : ∀ i, 12 ≤ i → i ≤ 16 → h'.1 53 i = h.1 53 i) (f : m'.1 2 10 = m.1 2 10 ∧ m'.1 2 11 = m.1 2 11) (g : ∀ k, 3 ≤ k → k ≤ 5 → (mk k m' ↔ mk k m)) : rdO h' m' := by
  obtain ⟨r1, r2, r3, r4, r5, r6, r7⟩ := r
  unfold rdO
  rw [e 12 (by omega) (by omega), e 13 (by omega) (by omega), e 14 (by omega) (by omega), e 15 (by omega) (by omega), e 16 (by omega) (by omega), f.1, f.2]
  exact ⟨r1, r2, r3, r4, (g 3 (by omega) (by omega)).trans r5, (g 4 (by omega) (by omega)).trans r6, (g 5 (by omega) (by omega)).trans r7⟩
theorem rdL.of {u : List (Nat × Nat)} {h h' m m' : ck_H} (r : rdL u h m) (e : ∀ a, 68 ≤ a → a ≤ 72 → h'.1 a = h.1 a) (f : ∀ a i, (a = 2 ∧ i = 13) ∨ (14 ≤ a ∧ a ≤ 17) ∨ (a = 0 ∧ (i = 30 ∨ i = 31)) → m'.1 a i = m.1 a i) (g : ∀ k, 16 ≤ k → k ≤ 18 → (mk k m' ↔ mk k m)) : rdL u h' m' := by
  obtain ⟨r1, r2, r3, r4, r5, r6, r7⟩ := r
  refine ⟨r1.of (by rw [e 68 (by omega) (by omega)]) (e 69 (by omega) (by omega)) (e 70 (by omega) (by omega)), r2, by rw [f 2 13 (by omega)]; exact r3, fun i hi => by rw [f 16 _ (by omega), f 17 _ (by omega)]; exact r4 i hi, by rw [f 0 30 (by omega)]; exact r5, by rw [f 0 31 (by omega)]; exact r6, fun k hk => ?_⟩
  obtain ⟨a, e', b1, b2, b3, b4, b5, b6, b7, b8⟩ := r7 k hk
  exact ⟨a, e', by rw [e 71 (by omega) (by omega)]; exact b1, by rw [e 72 (by omega) (by omega)]; exact b2, by rw [f 14 _ (by omega)]; exact b3, by rw [f 15 _ (by omega)]; exact b4, b5, b6, b7, (g _ (by omega) (by omega)).trans b8⟩
/-- a mark more, and what stays marked as it was -/
theorem mk_set {m m' : ck_H} {j k : Nat} (e : m'.1 0 19 = m.1 0 19 ||| ((1 : Int32) <<< (nI j &&& 31))) (hj : j < 19) (hk : k < 19) : mk k m' ↔ (k = j ∨ mk k m) := by
  unfold mk
  rw [e]
  exact tbI _ hj hk
theorem rd_judge {J N S : Nat} {u : List (Nat × Nat)} {h h' m m' : ck_H} {v1 v2 v3 : Nat} (R : rdD J N S u h m) (hJ : J < 4) (l2 : v2 ≤ 99) (l3 : v3 ≤ 9) (e : ∀ a, ¬ (54 ≤ a ∧ a ≤ 57) → 53 ≤ a → h'.1 a = h.1 a) (e54 : h'.1 54 1 = nI (J + 1))
    (eo : ∀ j, j < J → h'.1 55 j = h.1 55 j ∧ h'.1 56 j = h.1 56 j ∧ h'.1 57 j = h.1 57 j) (ev : h'.1 55 J = nI v1 ∧ h'.1 56 J = nI v2 ∧ h'.1 57 J = nI v3)
    (U : UPD m m' [(2, 7, nI (J + 1)), (5, 4 + J, nI v3), (4, 4 + J, nI v2), (3, 4 + J, nI v1), (0, 19, m.1 0 19 ||| ((1 : Int32) <<< (nI 0 &&& 31)))]) : rdD (J + 1) N S u h' m' := by
  obtain ⟨rj, rn, rs, ro, rl, r20⟩ := R
  have nb : ∀ a i, ¬ (a = 0 ∧ 22 ≤ i ∧ i ≤ 27) → ¬ (a = 2 ∧ i = 7) → ¬ (3 ≤ a ∧ a ≤ 5) → ¬ (a = 0 ∧ i = 19) → m'.1 a i = m.1 a i := fun a i z0 z1 z2 z3 => by
    rw [U a i z0]
    show (if a = 2 ∧ i = 7 then _ else if a = 5 ∧ i = 4 + J then _ else if a = 4 ∧ i = 4 + J then _ else if a = 3 ∧ i = 4 + J then _ else if a = 0 ∧ i = 19 then _ else none).getD _ = _
    rw [if_neg z1, if_neg (by omega), if_neg (by omega), if_neg (by omega), if_neg z3]
    rfl
  have e19 : m'.1 0 19 = m.1 0 19 ||| ((1 : Int32) <<< (nI 0 &&& 31)) := U 0 19 (by omega)
  have mg : ∀ k, 3 ≤ k → k < 19 → (mk k m' ↔ mk k m) := fun k h1 h2 => (mk_set e19 (by omega) h2).trans ⟨fun z => z.resolve_left (by omega), Or.inr⟩
  have c3 : ∀ a i, 3 ≤ a → a ≤ 5 → ¬ i = 4 + J → m'.1 a i = m.1 a i := fun a i h1 h2 h3 => by
    rw [U a i (by omega)]
    show (if a = 2 ∧ i = 7 then _ else if a = 5 ∧ i = 4 + J then _ else if a = 4 ∧ i = 4 + J then _ else if a = 3 ∧ i = 4 + J then _ else if a = 0 ∧ i = 19 then _ else none).getD _ = _
    rw [if_neg (by omega), if_neg (by omega), if_neg (by omega), if_neg (by omega), if_neg (by omega)]
    rfl
  have w3 : m'.1 3 (4 + J) = nI v1 := by
    rw [U 3 (4 + J) (by omega)]
    show (if 3 = 2 ∧ 4 + J = 7 then _ else if 3 = 5 ∧ 4 + J = 4 + J then _ else if 3 = 4 ∧ 4 + J = 4 + J then _ else if 3 = 3 ∧ 4 + J = 4 + J then some (nI v1) else _ : Option Int32).getD _ = _
    rw [if_neg (by omega), if_neg (by omega), if_neg (by omega), if_pos ⟨rfl, rfl⟩]
    rfl
  have w4 : m'.1 4 (4 + J) = nI v2 := by
    rw [U 4 (4 + J) (by omega)]
    show (if 4 = 2 ∧ 4 + J = 7 then _ else if 4 = 5 ∧ 4 + J = 4 + J then _ else if 4 = 4 ∧ 4 + J = 4 + J then some (nI v2) else _ : Option Int32).getD _ = _
    rw [if_neg (by omega), if_neg (by omega), if_pos ⟨rfl, rfl⟩]
    rfl
  have w5 : m'.1 5 (4 + J) = nI v3 := by
    rw [U 5 (4 + J) (by omega)]
    show (if 5 = 2 ∧ 4 + J = 7 then _ else if 5 = 5 ∧ 4 + J = 4 + J then some (nI v3) else _ : Option Int32).getD _ = _
    rw [if_neg (by omega), if_pos ⟨rfl, rfl⟩]
    rfl
  refine ⟨⟨by omega, e54, U 2 7 (by omega), fun j hj => ?_⟩, rn.of (fun a h1 h2 => e a (by omega) (by omega)) (fun a i z => nb a i (by omega) (by omega) (by omega) (by omega)), rs.of (by omega) (Nat.le_refl _) (fun a h1 h2 => e a (by omega) (by omega)) (fun a i z => nb a i (by omega) (by omega) (by omega) (by omega)), ro.of (fun i _ _ => by rw [e 53 (by omega) (by omega)]) ⟨nb 2 10 (by omega) (by omega) (by omega) (by omega), nb 2 11 (by omega) (by omega) (by omega) (by omega)⟩ (fun k h1 h2 => mg k h1 (by omega)), rl.of (fun a h1 h2 => e a (by omega) (by omega)) (fun a i z => nb a i (by omega) (by omega) (by omega) (by omega)) (fun k h1 h2 => mg k (by omega) (by omega)), by rw [e 53 (by omega) (by omega), nb 0 20 (by omega) (by omega) (by omega) (by omega)]; exact r20⟩
  by_cases cj : j = J
  · subst cj
    rw [w3, w4, w5, ev.1, ev.2.1, ev.2.2]
    exact ⟨rfl, rfl, ⟨v2, l2, rfl⟩, rfl, ⟨v3, l3, rfl⟩⟩
  · rw [c3 3 _ (by omega) (by omega) (by omega), c3 4 _ (by omega) (by omega) (by omega), c3 5 _ (by omega) (by omega) (by omega), (eo j (by omega)).1, (eo j (by omega)).2.1, (eo j (by omega)).2.2]
    exact rj.2.2.2 j (by omega)
