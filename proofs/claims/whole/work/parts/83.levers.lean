/-! what lever there was -/
theorem nb0 : vp_nar .boolean (0 : Int32) = 0 := by decide
theorem nb1 : vp_nar .boolean (1 : Int32) = 1 := by decide
def sk (st : Nat → Int32) : Nat → (Nat → Int32) → Nat → Int32
  | 0, z => z
  | k + 1, z => sk st k (if z k = 0 ∧ ¬ st k = -1 then upd z (st k).toNatClampNeg 1 else z)
theorem sk_congr {st st' : Nat → Int32} {n : Nat} (hs : ∀ i, i < n → st i = st' i) : ∀ (k : Nat) (z z' : Nat → Int32), k ≤ n → (∀ i, i < n → z i = z' i) → ∀ i, i < n → sk st k z i = sk st' k z' i := by
  intro k
  induction k with
  | zero => exact fun _ _ _ h => h
  | succ k ih =>
    intro z z' hk h
    unfold sk
    refine ih _ _ (by omega) ?_
    rw [h k (by omega), hs k (by omega)]
    split
    · exact upd_q h rfl
    · exact h
def la (Z st : Nat → Int32) (dd : Nat → Nat) : Nat → Nat → Nat → Nat
  | 0, _, n => n
  | k + 1, i, n => la Z st dd k (i + 1) (if Z i = 0 ∧ st i = -1 then (if n ≤ dd i then dd i + 1 else n) else n)
theorem la_ge {Z st : Nat → Int32} {dd : Nat → Nat} : ∀ (k i n : Nat), n ≤ la Z st dd k i n := by
  intro k
  induction k with
  | zero => exact fun _ _ => Nat.le_refl _
  | succ k ih =>
    intro i n
    unfold la
    refine Nat.le_trans ?_ (ih (i + 1) _)
    split
    · split <;> omega
    · exact Nat.le_refl _
theorem la_le {Z st : Nat → Int32} {dd : Nat → Nat} : ∀ (k i n : Nat), n ≤ 100 → (∀ j, i ≤ j → j < i + k → Z j = 0 → st j = -1 → dd j ≤ 99) → la Z st dd k i n ≤ 100 := by
  intro k
  induction k with
  | zero => exact fun _ _ h _ => h
  | succ k ih =>
    intro i n hn hd
    unfold la
    refine ih (i + 1) _ ?_ (fun j h1 h2 => hd j (by omega) (by omega))
    split
    · next c =>
      have := hd i (by omega) (by omega) c.1 c.2
      split <;> omega
    · exact hn
theorem la_lt {Z st : Nat → Int32} {dd : Nat → Nat} : ∀ (k i n j : Nat), i ≤ j → j < i + k → Z j = 0 → st j = -1 → dd j < la Z st dd k i n := by
  intro k
  induction k with
  | zero => exact fun _ _ _ h1 h2 => by omega
  | succ k ih =>
    intro i n j h1 h2 hz hs
    unfold la
    by_cases c : j = i
    · subst c
      rw [if_pos ⟨hz, hs⟩]
      refine Nat.lt_of_lt_of_le ?_ (la_ge k (j + 1) _)
      split <;> omega
    · exact ih (i + 1) _ j (by omega) (by omega) hz hs
def ag (Z st su v b : Nat → Int32) (vd : Nat → Int32) : Nat → Nat → Int32
  | 0, _ => 1
  | k + 1, i => if Z i = 0 ∧ st i = -1 ∧ ¬ (if vd (su i).toNatClampNeg = v i then (1 : Int32) else 0) = b i then 0 else ag Z st su v b vd k (i + 1)
theorem ag_congr {Z st su v b vd Z' st' su' v' b' vd' : Nat → Int32} : ∀ (k i : Nat), (∀ j, i ≤ j → j < i + k → Z j = Z' j ∧ st j = st' j ∧ (Z j = 0 → st j = -1 → su j = su' j ∧ v j = v' j ∧ b j = b' j ∧ vd (su j).toNatClampNeg = vd' (su j).toNatClampNeg)) → ag Z st su v b vd k i = ag Z' st' su' v' b' vd' k i := by
  intro k
  induction k with
  | zero => exact fun _ _ => rfl
  | succ k ih =>
    intro i h
    unfold ag
    rw [ih (i + 1) (fun j h1 h2 => h j (by omega) (by omega))]
    obtain ⟨h1, h2, h3⟩ := h i (by omega) (by omega)
    by_cases c1 : Z i = 0
    · by_cases c2 : st i = -1
      · obtain ⟨a1, a2, a3, a4⟩ := h3 c1 c2
        rw [a4, a1, a2, a3, h1, h2]
      · rw [if_neg (fun z => c2 z.2.1), if_neg (fun z => c2 (h2.trans z.2.1))]
    · rw [if_neg (fun z => c1 z.1), if_neg (fun z => c1 (h1.trans z.1))]
theorem s1a (x : Int32) : x + (-1) = x - 1 := (Int32.sub_eq_add_neg x 1).symm
theorem tx_fs2 {Q K : ck_H → Prop} : ∀ (k i f : Nat) (h : ck_H), k < f → i + k = 24 → (∀ h', (∀ a, a ≠ 27 → h'.1 a = h.1 a) → h'.2 = h.2 → (∀ j, h'.1 27 j = if i ≤ j ∧ j < 24 then 0 else h.1 27 j) → K h') → wp_X6_findStruck_2 Q K f (nI i) h := by
  intro k
  induction k with
  | zero =>
    intro i f h hf hs hq
    obtain ⟨f, rfl⟩ : ∃ g, f = g + 1 := ⟨f - 1, by omega⟩
    unfold wp_X6_findStruck_2
    refine pk_le 24 i (fun _ => hq h (fun _ _ => rfl) rfl (fun j => by rw [if_neg (by omega)])) (fun z => by omega)
  | succ k ih =>
    intro i f h hf hs hq
    obtain ⟨f, rfl⟩ : ∃ g, f = g + 1 := ⟨f - 1, by omega⟩
    unfold wp_X6_findStruck_2
    refine pk_le 24 i (fun z => by omega) (fun z => ⟨pu_in (by omega) (by decide), ?_⟩)
    rintro _ rfl _ rfl
    rw [nI_1, nI_clamp (n := i) (by omega), nb0]
    refine ih (i + 1) f _ (by omega) (by omega) (fun h' e1 e3 e2 => hq h' (fun a ha => ?_) (e3.trans (ck_sI_2 ..)) (fun j => ?_))
    · rw [e1 a ha, ck_sI_ne _ _ _ ha]
    · rw [e2 j]
      by_cases c : j = i
      · subst c; rw [if_neg (by omega), if_pos (by omega), ck_sI_at]
      · rw [ck_sI_nj _ _ c]
        by_cases c2 : i + 1 ≤ j ∧ j < 24
        · rw [if_pos c2, if_pos (by omega)]
        · rw [if_neg c2, if_neg (by omega)]
theorem tx_fs28 {Q : ck_H → Prop} : ∀ (k f : Nat) (h : ck_H), k < f → k ≤ 24 → (∀ i, i < k → h.1 26 i = -1 ∨ ∃ j, j < i ∧ h.1 26 i = nI j) → (∀ h', (∀ a, a ≠ 27 → h'.1 a = h.1 a) → h'.2 = h.2 → h'.1 27 = sk (h.1 26) k (h.1 27) → Q h') → wp_X6_findStruck_28 Q f (nI k - 1) h := by
  intro k
  induction k with
  | zero =>
    intro f h hf hk hs hq
    obtain ⟨f, rfl⟩ : ∃ g, f = g + 1 := ⟨f - 1, by omega⟩
    unfold wp_X6_findStruck_28
    exact br_p (by decide) (hq h (fun _ _ => rfl) rfl rfl)
  | succ k ih =>
    intro f h hf hk hs hq
    obtain ⟨f, rfl⟩ : ∃ g, f = g + 1 := ⟨f - 1, by omega⟩
    unfold wp_X6_findStruck_28
    rw [nI_pred, nI_clamp (n := k) (by omega)]
    have i24 : vp_in (nI k) 24 := pu_in (by omega) (by decide)
    unfold sk at hq
    have no : ¬ (h.1 27 k = 0 ∧ ¬ h.1 26 k = -1) → wp_X6_findStruck_63 Q (wp_X6_findStruck_28 Q f) (nI k) h := by
      intro c
      rw [if_neg c] at hq
      unfold wp_X6_findStruck_63
      rintro _ rfl
      rw [s1a]
      exact ih f h (by omega) (by omega) (fun i hi => hs i (by omega)) hq
    refine br_n (nI_pos (by omega)) ⟨i24, fun c => no (fun z => c z.1), fun c => ⟨i24, fun c2 => no (fun z => z.2 c2), fun c2 => ⟨i24, ?_⟩⟩⟩
    rcases hs k (by omega) with z | ⟨j, hj, ej⟩
    · exact absurd z c2
    rw [ej, nI_clamp (n := j) (by omega), nb1]
    refine ⟨pu_in (by omega) (by decide), ?_⟩
    rintro _ rfl
    unfold wp_X6_findStruck_63
    rintro _ rfl
    rw [s1a]
    rw [if_pos ⟨c, c2⟩, ej, nI_clamp (n := j) (by omega)] at hq
    refine ih f _ (by omega) (by omega) (fun i hi => by rw [ck_sI_ne _ _ _ (by decide)]; exact hs i (by omega)) (fun h' e1 e2 e3 => hq h' (fun a ha => by rw [e1 a ha, ck_sI_ne _ _ _ ha]) (e2.trans (ck_sI_2 ..)) ?_)
    rw [e3, ck_sI_row, ck_sI_ne _ _ _ (by decide)]
theorem tx_cc {h : ck_H} {K : Nat} {Q : Int32 → ck_H → Prop} (e : (if h.1 22 6 = -1 then h.1 22 5 else h.1 22 6) = nI K) (q : Q (nI K) h) : wp_X6_countConsidered h Q := by
  unfold wp_X6_countConsidered
  refine ⟨fun c => ?_, fun c => ?_⟩
  · rw [if_neg c] at e; rw [e]; exact q
  · rw [if_pos c] at e; rw [e]; exact q
theorem mm_cc {m : ck_H} {K : Nat} {Q : Int32 → ck_H → Prop} (e : (if m.1 0 63 = -1 then m.1 0 62 else m.1 0 63) = nI K) (q : Q (nI K) m) : wp_X12_knownMany m Q := by
  unfold wp_X12_knownMany
  refine ⟨fun c => ?_, fun c => ?_⟩
  · rw [if_neg c] at e; rw [e]; exact q
  · rw [if_pos c] at e; rw [e]; exact q
theorem tx_fs {h : ck_H} {K : Nat} {Q : ck_H → Prop} (hK : K ≤ 24) (e : (if h.1 22 6 = -1 then h.1 22 5 else h.1 22 6) = nI K) (hs : ∀ i, i < K → h.1 26 i = -1 ∨ ∃ j, j < i ∧ h.1 26 i = nI j)
    (q : ∀ h', (∀ a, a ≠ 27 → h'.1 a = h.1 a) → h'.2 = h.2 → (∀ i, i < K → h'.1 27 i = sk (h.1 26) K (fun _ => 0) i) → Q h') : wp_X6_findStruck h Q := by
  unfold wp_X6_findStruck
  refine tx_fs2 24 0 lpN h (by decide) rfl (fun h1 x1 x2 x3 => tx_cc (K := K) (by rw [x1 22 (by decide)]; exact e) ?_)
  rintro _ rfl
  refine tx_fs28 K lpN h1 (by unfold lpN; omega) hK (fun i hi => by rw [x1 26 (by decide)]; exact hs i hi) (fun h2 y1 y2 y3 => q h2 (fun a ha => by rw [y1 a ha, x1 a ha]) (y2.trans x2) (fun i hi => ?_))
  rw [y3, x1 26 (by decide)]
  exact sk_congr (n := 24) (fun _ _ => rfl) K _ _ hK (fun j hj => by rw [x3 j, if_pos (by omega)]) i (by omega)
theorem mm_lv9 {Q : Int32 → ck_H → Prop} {K : Int32 → ck_H → Prop} {n : Nat} {x : Int32} (hn : n ≤ 24) : ∀ (k i f : Nat) (m : ck_H), k < f → i + k = n → (if m.1 0 63 = -1 then m.1 0 62 else m.1 0 63) = nI n → (∀ m', (∀ a, a ≠ 39 → m'.1 a = m.1 a) → (∀ j, m'.1 39 j = if i ≤ j ∧ j < n then 0 else m.1 39 j) → K x m') → wp_X12_levers_9 Q K f x (nI i) m := by
  intro k
  induction k with
  | zero =>
    intro i f m hf hs he hq
    obtain ⟨f, rfl⟩ : ∃ g, f = g + 1 := ⟨f - 1, by omega⟩
    unfold wp_X12_levers_9
    refine mm_cc he (pk_le n i (fun _ => hq m (fun _ _ => rfl) (fun j => by rw [if_neg (by omega)])) (fun z => by omega))
  | succ k ih =>
    intro i f m hf hs he hq
    obtain ⟨f, rfl⟩ : ∃ g, f = g + 1 := ⟨f - 1, by omega⟩
    unfold wp_X12_levers_9
    refine mm_cc he (pk_le n i (fun z => by omega) (fun z => ⟨pu_in (by omega) (by decide), ?_⟩))
    rintro _ rfl _ rfl
    rw [nI_1, nI_clamp (n := i) (by omega), nb0]
    refine ih (i + 1) f _ (by omega) (by omega) (by rw [ck_sI_ne _ _ _ (by decide)]; exact he) (fun h' e1 e2 => hq h' (fun a ha => ?_) (fun j => ?_))
    · rw [e1 a ha, ck_sI_ne _ _ _ ha]
    · rw [e2 j]
      by_cases c : j = i
      · subst c; rw [if_neg (by omega), if_pos (by omega), ck_sI_at]
      · rw [ck_sI_nj _ _ c]
        by_cases c2 : i + 1 ≤ j ∧ j < n
        · rw [if_pos c2, if_pos (by omega)]
        · rw [if_neg c2, if_neg (by omega)]
theorem mm_lv37 {Q : Int32 → ck_H → Prop} {K : Int32 → ck_H → Prop} {x : Int32} : ∀ (k f : Nat) (m : ck_H), k < f → k ≤ 24 → (∀ i, i < k → m.1 38 i = -1 ∨ ∃ j, j < i ∧ m.1 38 i = nI j) → (∀ m', (∀ a, a ≠ 39 → m'.1 a = m.1 a) → m'.1 39 = sk (m.1 38) k (m.1 39) → K x m') → wp_X12_levers_37 Q K f x (nI k - 1) m := by
  intro k
  induction k with
  | zero =>
    intro f m hf hk hs hq
    obtain ⟨f, rfl⟩ : ∃ g, f = g + 1 := ⟨f - 1, by omega⟩
    unfold wp_X12_levers_37
    exact br_p (by decide) (hq m (fun _ _ => rfl) rfl)
  | succ k ih =>
    intro f m hf hk hs hq
    obtain ⟨f, rfl⟩ : ∃ g, f = g + 1 := ⟨f - 1, by omega⟩
    unfold wp_X12_levers_37
    rw [nI_pred, nI_clamp (n := k) (by omega)]
    have i24 : vp_in (nI k) 24 := pu_in (by omega) (by decide)
    unfold sk at hq
    have no : ¬ (m.1 39 k = 0 ∧ ¬ m.1 38 k = -1) → wp_X12_levers_72 Q K (wp_X12_levers_37 Q K f) x (nI k) m := by
      intro c
      rw [if_neg c] at hq
      unfold wp_X12_levers_72
      rintro _ rfl
      rw [s1a]
      exact ih f m (by omega) (by omega) (fun i hi => hs i (by omega)) hq
    refine br_n (nI_pos (by omega)) ⟨i24, fun c => no (fun z => c z.1), fun c => ⟨i24, fun c2 => no (fun z => z.2 c2), fun c2 => ⟨i24, ?_⟩⟩⟩
    rcases hs k (by omega) with z | ⟨j, hj, ej⟩
    · exact absurd z c2
    rw [ej, nI_clamp (n := j) (by omega), nb1]
    refine ⟨pu_in (by omega) (by decide), ?_⟩
    rintro _ rfl
    unfold wp_X12_levers_72
    rintro _ rfl
    rw [s1a]
    rw [if_pos ⟨c, c2⟩, ej, nI_clamp (n := j) (by omega)] at hq
    refine ih f _ (by omega) (by omega) (fun i hi => by rw [ck_sI_ne _ _ _ (by decide)]; exact hs i (by omega)) (fun h' e1 e3 => hq h' (fun a ha => by rw [e1 a ha, ck_sI_ne _ _ _ ha]) ?_)
    rw [e3, ck_sI_row, ck_sI_ne _ _ _ (by decide)]
theorem m1_lt {n d : Nat} (hn : n < 2 ^ 30) (hd : d < 2 ^ 30) : nI n - 1 < nI d ↔ n ≤ d := by
  rw [Int32.lt_iff_toInt_lt, show nI n - 1 = nI n - nI 1 from rfl, pk_sub_toInt hn (by omega), nI_toInt (by omega)]
  omega
theorem mm_lv80 {Q : Int32 → ck_H → Prop} {K : Int32 → ck_H → Prop} {m : ck_H} {N : Nat} (hN : N ≤ 24) (he : (if m.1 0 63 = -1 then m.1 0 62 else m.1 0 63) = nI N)
    (hs : ∀ i, i < N → m.1 38 i = -1 → ∃ s q, s < 10 ∧ q ≤ 99 ∧ m.1 35 i = nI s ∧ m.1 13 s = nI q) : ∀ (k i f n : Nat), k < f → i + k = N → n ≤ 100 → K (nI (la (m.1 39) (m.1 38) (fun i => (m.1 13 (m.1 35 i).toNatClampNeg).toNatClampNeg) k i n) - 1) m → wp_X12_levers_80 Q K f (nI n - 1) (nI i) m := by
  intro k
  induction k with
  | zero =>
    intro i f n hf hi hn hq
    obtain ⟨f, rfl⟩ : ∃ g, f = g + 1 := ⟨f - 1, by omega⟩
    unfold wp_X12_levers_80
    exact mm_cc he (pk_le N i (fun _ => hq) (fun z => by omega))
  | succ k ih =>
    intro i f n hf hi hn hq
    obtain ⟨f, rfl⟩ : ∃ g, f = g + 1 := ⟨f - 1, by omega⟩
    unfold wp_X12_levers_80
    have i24 : vp_in (nI i) 24 := pu_in (by omega) (by decide)
    have e123 : ∀ n', n' ≤ 100 → K (nI (la (m.1 39) (m.1 38) (fun i => (m.1 13 (m.1 35 i).toNatClampNeg).toNatClampNeg) k (i + 1) n') - 1) m → wp_X12_levers_123 Q K (wp_X12_levers_80 Q K f) (nI n' - 1) (nI i) m := by
      intro n' h' hK
      unfold wp_X12_levers_123
      rintro _ rfl
      rw [nI_1]
      exact ih (i + 1) f n' (by omega) (by omega) h' hK
    unfold la at hq
    refine mm_cc he (pk_le N i (fun z => by omega) (fun z => ⟨i24, ?_⟩))
    rw [nI_clamp (n := i) (by omega)]
    refine ⟨fun c => ?_, fun c => ⟨i24, fun c2 => ?_, fun c2 => ⟨i24, ?_⟩⟩⟩
    · rw [if_neg (fun z => c z.1)] at hq; exact e123 n hn hq
    · rw [if_neg (fun z => c2 z.2)] at hq; exact e123 n hn hq
    · obtain ⟨s, q, h1, h2, h3, h4⟩ := hs i (by omega) c2
      rw [if_pos ⟨c, c2⟩, h3, nI_clamp (n := s) (by omega), h4, nI_clamp (n := q) (by omega)] at hq
      rw [h3, nI_clamp (n := s) (by omega), h4]
      refine ⟨pu_in (by omega) (by decide), ?_⟩
      by_cases cq : n ≤ q
      · rw [if_pos cq] at hq
        rw [if_pos ((m1_lt (by omega) (by omega)).mpr cq)]
        rintro _ rfl
        have := e123 (q + 1) (by omega) hq
        rw [nI_pred] at this
        exact this
      · rw [if_neg cq] at hq
        rw [if_neg (fun z => cq ((m1_lt (by omega) (by omega)).mp z))]
        rintro _ rfl
        exact e123 n hn hq
