/-! the next row of the same numbers -/
def rs (f : Nat → Nat) : Nat → Option Nat
  | 0 => none
  | k + 1 => if f k ≤ f (k + 1) then some k else rs f k
def hg (f : Nat → Nat) (i : Nat) : Nat → Nat
  | 0 => 0
  | k + 1 => if k + 1 ≤ i + 1 then k + 1 else if f i ≤ f (k + 1) then k + 1 else hg f i k
def sw (f : Nat → Nat) (a b : Nat) : Nat → Nat := uN (uN f a (f b)) b (f a)
def rv : Nat → (Nat → Nat) → Nat → Nat → Nat → Nat
  | 0, f, _, _ => f
  | n + 1, f, a, b => if b ≤ a then f else rv n (sw f a b) (a + 1) (b - 1)
def np (r : Nat) (f : Nat → Nat) : Option (Nat → Nat) := match rs f (r - 1) with
  | none => none
  | some i => some (rv 5 (sw f i (hg f i (r - 1))) (i + 1) (r - 1))
def lf (l : List Nat) : Nat → Nat := fun i => l.getD i 0
def npl (l : List Nat) : Option (List Nat) := (np l.length (lf l)).map (fun g => (List.range l.length).map g)
def glist (g : Nat → List (List Nat)) : Nat → Nat → List (List Nat)
  | 0, _ => []
  | c + 1, i => g i ++ glist g c (i + 1)
def gen (r : Nat) : Nat → List Nat → List (List Nat)
  | 0, pre => [pre]
  | f + 1, pre => glist (fun i => if pre.contains i then [] else gen r f (pre ++ [i])) r 0
def chk : List (List Nat) → Bool
  | [] => true
  | [a] => (npl a).isNone
  | a :: b :: l => (npl a == some b) && chk (b :: l)
def lenok (r : Nat) (L : List (List Nat)) : Bool := L.all (fun l => l.length == r && l.all (fun i => decide (i < r)))
theorem gen_ok : ∀ r, r < 6 → chk (gen r r []) = true ∧ lenok r (gen r r []) = true ∧ (gen r r []).length ≤ 120 ∧ (gen r r []).head? = some (List.range r) := by decide +kernel
theorem rs_lt {f : Nat → Nat} : ∀ (k i : Nat), rs f k = some i → i < k := by
  intro k
  induction k with
  | zero => intro i h; cases h
  | succ k ih =>
    intro i h
    unfold rs at h
    split at h
    · cases h; omega
    · have := ih i h; omega
theorem hg_le {f : Nat → Nat} {i : Nat} : ∀ (k : Nat), hg f i k ≤ k := by
  intro k
  induction k with
  | zero => exact Nat.le_refl _
  | succ k ih =>
    unfold hg
    split
    · exact Nat.le_refl _
    · split
      · exact Nat.le_refl _
      · omega
def inc (r : Nat) (d : Nat → Nat) : Prop := ∀ j k, j < k → k < r → d j < d k
theorem inc.le {r a b : Nat} {d : Nat → Nat} (h : inc r d) (hd : ∀ j, j < r → d j < 10) (ha : a < r) (hb : b < r) : nI (d a) ≤ nI (d b) ↔ a ≤ b := by
  have := hd a ha; have := hd b hb
  rw [nI_leI (by omega) (by omega)]
  constructor
  · intro z
    refine Nat.not_lt.mp (fun y => ?_)
    have := h b a y ha
    omega
  · intro z
    by_cases c : a = b
    · subst c; exact Nat.le_refl _
    · have := h a b (by omega) hb
      omega
/-- the row at hand -/
def rw79 (r : Nat) (d f : Nat → Nat) (h : ck_H) : Prop := ∀ j, j < r → f j < r ∧ h.1 79 j = nI (d (f j))
theorem tx_sw {r a b : Nat} {d f : Nat → Nat} {h : ck_H} {Q : ck_H → Prop} (hr : r ≤ 5) (ha : a < r) (hb : b < r) (H : rw79 r d f h) (q : ∀ h', (∀ a, a ≠ 79 → h'.1 a = h.1 a) → h'.2 = h.2 → rw79 r d (sw f a b) h' → Q h') : wp_X0_swap (nI a) (nI b) h Q := by
  have ia : vp_in (nI a) 5 := pu_in (by omega) (by decide)
  have ib : vp_in (nI b) 5 := pu_in (by omega) (by decide)
  unfold wp_X0_swap
  rw [nI_clamp (n := a) (by omega), nI_clamp (n := b) (by omega), (H a ha).2, (H b hb).2]
  refine ⟨ia, ?_⟩
  rintro _ rfl
  refine ⟨ib, ia, ?_⟩
  rintro _ rfl
  refine ⟨ib, ?_⟩
  rintro _ rfl
  refine q _ (fun c hc => by rw [ck_sI_ne _ _ _ hc, ck_sI_ne _ _ _ hc]) rfl (fun j hj => ?_)
  unfold sw
  by_cases cb : j = b
  · subst cb; rw [ck_sI_at, uN_s]; exact ⟨(H a ha).1, rfl⟩
  · rw [ck_sI_nj _ _ cb, uN_n cb]
    by_cases ca : j = a
    · subst ca; rw [ck_sI_at, uN_s]; exact ⟨(H b hb).1, rfl⟩
    · rw [ck_sI_nj _ _ ca, uN_n ca]; exact H j hj
theorem tx_rv {r : Nat} {d : Nat → Nat} {Q : Int32 → ck_H → Prop} (hr : r ≤ 5) : ∀ (n a b f : Nat) (g : Nat → Nat) (h : ck_H), n < f → b < a + n → (b < r ∨ b ≤ a) → rw79 r d g h → (∀ h', (∀ a, a ≠ 79 → h'.1 a = h.1 a) → h'.2 = h.2 → rw79 r d (rv n g a b) h' → Q 1 h') → a < 100 → wp_X0_nextOrder_93 Q f (nI a) (nI b) h := by
  intro n
  induction n with
  | zero =>
    intro a b f g h hf hab hb H q ha
    obtain ⟨f, rfl⟩ : ∃ g, f = g + 1 := ⟨f - 1, by omega⟩
    unfold wp_X0_nextOrder_93
    exact pk_le b a (fun _ => q h (fun _ _ => rfl) rfl H) (fun z => by omega)
  | succ n ih =>
    intro a b f g h hf hab hb H q ha
    obtain ⟨f, rfl⟩ : ∃ g, f = g + 1 := ⟨f - 1, by omega⟩
    unfold wp_X0_nextOrder_93
    unfold rv at q
    by_cases c : b ≤ a
    · rw [if_pos c] at q
      exact br_p (nI_le c (by omega)) (q h (fun _ _ => rfl) rfl H)
    · rw [if_neg c] at q
      refine br_n (nI_ge (by omega) (by omega)) (tx_sw hr (by omega) (by omega) H (fun h1 x1 x2 x3 => ?_))
      rintro _ rfl _ rfl
      rw [nI_1, sb_m1 (by omega)]
      refine ih (a + 1) (b - 1) f _ h1 (by omega) (by omega) (by omega) x3 (fun h2 y1 y2 y3 => q h2 (fun a ha => by rw [y1 a ha, x1 a ha]) (y2.trans x2) y3) (by omega)
theorem tx_no7 {r : Nat} {d g : Nat → Nat} {h : ck_H} {Q : Int32 → ck_H → Prop} {K : Int32 → ck_H → Prop} (hr : r ≤ 5) (hd : ∀ j, j < r → d j < 10) (hi : inc r d) (H : rw79 r d g h) : ∀ (k f : Nat), k < f → k + 1 ≤ r → (rs g k = none → K (-1) h) → (∀ i, rs g k = some i → K (nI i) h) → wp_X0_nextOrder_7 Q K f (nI k - 1) h := by
  intro k
  induction k with
  | zero =>
    intro f hf hk q0 q1
    obtain ⟨f, rfl⟩ : ∃ g, f = g + 1 := ⟨f - 1, by omega⟩
    unfold wp_X0_nextOrder_7
    exact br_p (by decide) (q0 rfl)
  | succ k ih =>
    intro f hf hk q0 q1
    obtain ⟨f, rfl⟩ : ∃ g, f = g + 1 := ⟨f - 1, by omega⟩
    unfold wp_X0_nextOrder_7
    unfold rs at q0 q1
    rw [nI_pred, nI_1, nI_clamp (n := k) (by omega), nI_clamp (n := k + 1) (by omega), (H k (by omega)).2, (H (k + 1) (by omega)).2]
    have ci := hi.le hd (H k (by omega)).1 (H (k + 1) (by omega)).1
    refine br_n (nI_pos (by omega)) ⟨pu_in (by omega) (by decide), pu_in (by omega) (by decide), fun c => ?_, fun c => ?_⟩
    · have c := ci.mp c
      rw [if_pos c] at q1
      exact q1 k rfl
    · have c := fun z => c (ci.mpr z)
      rw [if_neg c] at q0 q1
      rintro _ rfl
      rw [s1a]
      exact ih f (by omega) (by omega) q0 q1
theorem tx_no47 {r i : Nat} {d g : Nat → Nat} {h : ck_H} {Q : Int32 → ck_H → Prop} {K : Int32 → Int32 → ck_H → Prop} (hr : r ≤ 5) (hd : ∀ j, j < r → d j < 10) (hin : inc r d) (H : rw79 r d g h) (hir : i < r) : ∀ (k f : Nat), k < f → k < r → i < k → K (nI i) (nI (hg g i k)) h → wp_X0_nextOrder_47 Q K f (nI i) (nI k) h := by
  intro k
  induction k with
  | zero => exact fun f _ _ h1 => by omega
  | succ k ih =>
    intro f hf hk hik q
    obtain ⟨f, rfl⟩ : ∃ g, f = g + 1 := ⟨f - 1, by omega⟩
    unfold wp_X0_nextOrder_47
    unfold hg at q
    rw [nI_1, nI_clamp (n := k + 1) (by omega), nI_clamp (n := i) (by omega), (H i hir).2, (H (k + 1) (by omega)).2]
    have ci := hin.le hd (H i hir).1 (H (k + 1) (by omega)).1
    refine pk_le (k + 1) (i + 1) (fun c => ?_) (fun c => ⟨pu_in (by omega) (by decide), pu_in (by omega) (by decide), fun c2 => ?_, fun c2 => ?_⟩)
    · rw [if_pos c] at q; exact q
    · have c2 := ci.mp c2
      rw [if_neg (by omega), if_pos c2] at q; exact q
    · have c2 := fun z => c2 (ci.mpr z)
      rw [if_neg (by omega), if_neg c2] at q
      rintro _ rfl
      rw [pk_m1]
      exact ih f (by omega) (by omega) (by omega) q
theorem tx_no {r : Nat} {d g : Nat → Nat} {h : ck_H} {Q : Int32 → ck_H → Prop} (hr : r ≤ 5) (hd : ∀ j, j < r → d j < 10) (hi : inc r d) (e6 : h.1 77 6 = nI r) (H : rw79 r d g h) (q0 : np r g = none → Q 0 h) (q1 : ∀ g', np r g = some g' → ∀ h', (∀ a, a ≠ 79 → h'.1 a = h.1 a) → h'.2 = h.2 → rw79 r d g' h' → Q 1 h') : wp_X0_nextOrder h Q := by
  unfold wp_X0_nextOrder
  rw [e6]
  rintro _ rfl
  unfold np at q0 q1
  have h34n : rs g (r - 1) = none → wp_X0_nextOrder_34 Q (-1) h := by
    intro z
    rw [z] at q0
    unfold wp_X0_nextOrder_34
    exact br_n (by decide) (q0 rfl)
  cases r with
  | zero =>
    show wp_X0_nextOrder_7 Q _ (3999 + 1) (nI 0 - 2) h
    unfold wp_X0_nextOrder_7
    refine br_p (by decide) ?_
    unfold wp_X0_nextOrder_34
    exact br_n (by decide) (q0 rfl)
  | succ r =>
    rw [show nI (r + 1) - 2 = nI r - 1 by rw [nI_succ, Int32.sub_eq_add_neg, Int32.sub_eq_add_neg, Int32.add_assoc]; rfl]
    rw [Nat.add_sub_cancel] at h34n q0 q1
    refine tx_no7 hr hd hi H r lpN (by unfold lpN; omega) (Nat.le_refl _) h34n (fun i ei => ?_)
    have hir := rs_lt r i ei
    unfold wp_X0_nextOrder_34
    rw [e6, nI_pred]
    refine br_p (nI_pos' (by omega)) ?_
    rintro _ rfl
    refine tx_no47 hr hd hi H (by omega) r lpN (by unfold lpN; omega) (by omega) hir ?_
    have hh : hg g i r < r + 1 := by have := hg_le (f := g) (i := i) r; omega
    unfold wp_X0_nextOrder_75
    refine tx_sw hr (by omega) hh H (fun h1 x1 x2 x3 => ?_)
    rw [x1 77 (by decide), e6, nI_pred, nI_1]
    rintro _ rfl _ rfl
    rw [ei] at q1
    exact tx_rv hr 5 (i + 1) r lpN _ h1 (by decide) (by omega) (by omega) x3 (fun h2 y1 y2 y3 => q1 _ rfl h2 (fun a ha => by rw [y1 a ha, x1 a ha]) (y2.trans x2) y3) (by omega)
