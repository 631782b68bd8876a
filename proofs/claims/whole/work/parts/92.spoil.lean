/-! sets of suits as numbers -/
def sg (f : Nat → Nat) : Nat → Nat
  | 0 => 0
  | k + 1 => sg f k + f k
def bt (x s : Nat) : Nat := x / 2 ^ s % 2
theorem bt_lt (x s : Nat) : bt x s < 2 := Nat.mod_lt _ (by omega)
theorem sg_c {f g : Nat → Nat} : ∀ (k : Nat), (∀ s, s < k → f s = g s) → sg f k = sg g k := by
  intro k
  induction k with
  | zero => exact fun _ => rfl
  | succ k ih =>
    intro h
    show sg f k + f k = sg g k + g k
    rw [ih (fun s hs => h s (by omega)), h k (by omega)]
theorem sg_le {f g : Nat → Nat} : ∀ (k : Nat), (∀ s, s < k → f s ≤ g s) → sg f k ≤ sg g k ∧ (sg f k = sg g k → ∀ s, s < k → f s = g s) := by
  intro k
  induction k with
  | zero => exact fun _ => ⟨Nat.le_refl _, fun _ s hs => by omega⟩
  | succ k ih =>
    intro h
    have a := ih (fun s hs => h s (by omega))
    have b := h k (by omega)
    refine ⟨Nat.add_le_add a.1 b, fun e s hs => ?_⟩
    have e : sg f k + f k = sg g k + g k := e
    have a1 := a.1
    by_cases c : s = k
    · subst c; omega
    · exact a.2 (by omega) s (by omega)
theorem sg_bt (x : Nat) : ∀ (k : Nat), sg (fun s => bt x s * 2 ^ s) k = x % 2 ^ k := by
  intro k
  induction k with
  | zero => rw [Nat.pow_zero, Nat.mod_one]; rfl
  | succ k ih =>
    show sg (fun s => bt x s * 2 ^ s) k + bt x k * 2 ^ k = _
    rw [ih, Nat.mod_pow_succ, Nat.mul_comm]
    rfl
def pop (x : Nat) : Nat := sg (bt x) 10
theorem bt_hi {x s r : Nat} (h : x < 2 ^ r) (hs : r ≤ s) : bt x s = 0 := by
  unfold bt
  rw [Nat.div_eq_of_lt (Nat.lt_of_lt_of_le h (Nat.pow_le_pow_right (by omega) hs))]
theorem sg_hi {f : Nat → Nat} {r : Nat} : ∀ (k : Nat), r ≤ k → (∀ s, r ≤ s → f s = 0) → sg f k = sg f r := by
  intro k
  induction k with
  | zero => intro h _; rw [show r = 0 by omega]
  | succ k ih =>
    intro h hz
    by_cases c : r = k + 1
    · rw [c]
    · show sg f k + f k = _
      rw [ih (by omega) hz, hz k (by omega), Nat.add_zero]
theorem bt_add {y e c s : Nat} (hy : y < 2 ^ e) (hc : c < 2) : bt (y + c * 2 ^ e) s = if s = e then c else bt y s := by
  unfold bt
  have hp : 0 < 2 ^ s := Nat.pow_pos (by omega)
  by_cases h1 : s = e
  · subst h1
    rw [if_pos rfl, Nat.add_mul_div_right _ _ hp, Nat.div_eq_of_lt hy, Nat.zero_add]
    exact Nat.mod_eq_of_lt hc
  · rw [if_neg h1]
    by_cases h2 : s < e
    · have e1 : 2 ^ e = 2 * 2 ^ (e - s - 1) * 2 ^ s := by
        rw [Nat.mul_comm 2, ← Nat.pow_succ, ← Nat.pow_add]
        congr 1
        omega
      have e2 : c * 2 ^ e = (c * 2 ^ (e - s - 1) * 2) * 2 ^ s := by
        rw [e1]
        rw [Nat.mul_comm 2 (2 ^ (e - s - 1)), ← Nat.mul_assoc, ← Nat.mul_assoc]
      rw [e2, Nat.add_mul_div_right _ _ hp, Nat.add_mul_mod_self_right]
    · have h3 : e + 1 ≤ s := by omega
      have h4 : 2 ^ (e + 1) ≤ 2 ^ s := Nat.pow_le_pow_right (by omega) h3
      rw [Nat.pow_succ] at h4
      have h5 : c * 2 ^ e ≤ 1 * 2 ^ e := Nat.mul_le_mul_right _ (by omega)
      rw [Nat.div_eq_of_lt (by omega), Nat.div_eq_of_lt (by omega)]
/-- the set of the chosen ones -/
def Ex (d : Nat → Nat) (c : Nat) : Nat → Nat := sg (fun j => bt c j * 2 ^ d j)
theorem Ex_lt {d : Nat → Nat} {c B : Nat} : ∀ (k : Nat), (∀ i j, i < j → j < k → d i < d j) → (∀ j, j < k → d j < B) → Ex d c k < 2 ^ B := by
  intro k
  induction k with
  | zero => exact fun _ _ => Nat.pow_pos (by omega)
  | succ k ih =>
    intro hi hB
    have a : Ex d c k < 2 ^ d k := by
      have : ∀ (k' : Nat) (B' : Nat), (∀ i j, i < j → j < k' → d i < d j) → (∀ j, j < k' → d j < B') → Ex d c k' < 2 ^ B' := by
        intro k'
        induction k' with
        | zero => exact fun _ _ _ => Nat.pow_pos (by omega)
        | succ k' ih' =>
          intro B' hi' hB'
          have a := ih' (d k') (fun i j h1 h2 => hi' i j h1 (by omega)) (fun j hj => hi' j k' hj (by omega))
          have b := bt_lt c k'
          have c1 : bt c k' * 2 ^ d k' ≤ 1 * 2 ^ d k' := Nat.mul_le_mul_right _ (by omega)
          have c2 : 2 ^ (d k' + 1) ≤ 2 ^ B' := Nat.pow_le_pow_right (by omega) (hB' k' (by omega))
          rw [Nat.pow_succ] at c2
          show Ex d c k' + bt c k' * 2 ^ d k' < 2 ^ B'
          omega
      exact this k (d k) (fun i j h1 h2 => hi i j h1 (by omega)) (fun j hj => hi j k hj (by omega))
    have b := bt_lt c k
    have c1 : bt c k * 2 ^ d k ≤ 1 * 2 ^ d k := Nat.mul_le_mul_right _ (by omega)
    have c2 : 2 ^ (d k + 1) ≤ 2 ^ B := Nat.pow_le_pow_right (by omega) (hB k (by omega))
    rw [Nat.pow_succ] at c2
    show Ex d c k + bt c k * 2 ^ d k < 2 ^ B
    omega
theorem Ex_bt {d : Nat → Nat} {c s : Nat} : ∀ (k : Nat), inc k d → ((∀ j, j < k → bt (Ex d c k) (d j) = bt c j) ∧ ((∀ j, j < k → s ≠ d j) → bt (Ex d c k) s = 0)) := by
  intro k
  induction k with
  | zero => exact fun _ => ⟨fun j hj => by omega, fun _ => by show 0 / 2 ^ s % 2 = 0; rw [Nat.zero_div]⟩
  | succ k ih =>
    intro hi
    have hi' : inc k d := fun i j h1 h2 => hi i j h1 (by omega)
    have a := ih hi'
    have l : Ex d c k < 2 ^ d k := Ex_lt k hi' (fun j hj => hi j k hj (by omega))
    have e : ∀ s, bt (Ex d c (k + 1)) s = if s = d k then bt c k else bt (Ex d c k) s := fun s => bt_add l (bt_lt c k)
    refine ⟨fun j hj => ?_, fun h => ?_⟩
    · rw [e]
      by_cases cj : j = k
      · subst cj; rw [if_pos rfl]
      · have := hi j k (by omega) (by omega)
        rw [if_neg (by omega)]
        exact a.1 j (by omega)
    · rw [e, if_neg (h k (by omega))]
      exact a.2 (fun j hj => h j (by omega))
theorem Ex_mono {d : Nat → Nat} : ∀ (k c c' : Nat), inc k d → c < 2 ^ k → c' < 2 ^ k → c < c' → Ex d c k < Ex d c' k := by
  intro k
  induction k with
  | zero => exact fun c c' _ h1 h2 h3 => by rw [Nat.pow_zero] at h1 h2; omega
  | succ k ih =>
    intro c c' hi h1 h2 h3
    have hi' : inc k d := fun i j h1 h2 => hi i j h1 (by omega)
    have lc : ∀ c, Ex d c k < 2 ^ d k := fun c => Ex_lt k hi' (fun j hj => hi j k hj (by omega))
    have md : ∀ c, Ex d c k = Ex d (c % 2 ^ k) k := fun c => sg_c k (fun j hj => by
      have : bt (c % 2 ^ k) j = bt c j := by
        unfold bt
        have e1 : 2 ^ k = 2 ^ j * 2 ^ (k - j) := by rw [← Nat.pow_add, show j + (k - j) = k by omega]
        rw [e1, Nat.mod_mul_right_div_self]
        exact Nat.mod_mod_of_dvd _ ⟨2 ^ (k - j - 1), by rw [← Nat.pow_succ', show (k - j - 1).succ = k - j by omega]⟩
      rw [this])
    have sp : ∀ c, c < 2 ^ (k + 1) → c = 2 ^ k * bt c k + c % 2 ^ k := fun c hc => by
      have hd : c / 2 ^ k < 2 := by
        rw [Nat.div_lt_iff_lt_mul (Nat.pow_pos (by omega)), Nat.mul_comm, ← Nat.pow_succ]; exact hc
      have : bt c k = c / 2 ^ k := Nat.mod_eq_of_lt hd
      rw [this]
      exact (Nat.div_add_mod c _).symm
    show Ex d c k + bt c k * 2 ^ d k < Ex d c' k + bt c' k * 2 ^ d k
    have s1 := sp c h1
    have s2 := sp c' h2
    have b1 := bt_lt c k
    have b2 := bt_lt c' k
    have m1 : c % 2 ^ k < 2 ^ k := Nat.mod_lt _ (Nat.pow_pos (by omega))
    have m2 : c' % 2 ^ k < 2 ^ k := Nat.mod_lt _ (Nat.pow_pos (by omega))
    have l1 := lc c
    rcases (show bt c k = 0 ∨ bt c k = 1 by omega) with z1 | z1 <;> rcases (show bt c' k = 0 ∨ bt c' k = 1 by omega) with z2 | z2
    · rw [z1] at s1; rw [z2] at s2; rw [z1, z2, md c, md c']
      have := ih (c % 2 ^ k) (c' % 2 ^ k) hi' m1 m2 (by omega)
      omega
    · rw [z1, z2]; omega
    · rw [z1] at s1; rw [z2] at s2; omega
    · rw [z1] at s1; rw [z2] at s2; rw [z1, z2, md c, md c']
      have := ih (c % 2 ^ k) (c' % 2 ^ k) hi' m1 m2 (by omega)
      omega
theorem ga_sum {C : Nat → Bool} {L : Nat} {f : Nat → Nat} : ∀ (k i : Nat) (d : Nat → Nat) (c : Nat), c + k ≤ L → sg (fun j => f (d j)) c = sg (fun s => if C s = true then f s else 0) i → sg (fun j => f ((ga C L k i d c).1 j)) (ga C L k i d c).2 = sg (fun s => if C s = true then f s else 0) (i + k) := by
  intro k
  induction k with
  | zero => exact fun _ _ _ _ h => h
  | succ k ih =>
    intro i d c hL h
    unfold ga
    rw [if_neg (by omega), show i + (k + 1) = i + 1 + k by omega]
    split
    · next cc =>
      refine ih (i + 1) (uN d c i) (c + 1) (by omega) ?_
      show sg (fun j => f (uN d c i j)) c + f (uN d c i c) = sg (fun s => if C s = true then f s else 0) i + (if C i = true then f i else 0)
      rw [if_pos cc, uN_s, ← h]
      congr 1
      exact sg_c c (fun j hj => by rw [uN_n (by omega)])
    · next cc =>
      refine ih (i + 1) d c (by omega) ?_
      show _ = sg (fun s => if C s = true then f s else 0) i + (if C i = true then f i else 0)
      rw [if_neg cc, Nat.add_zero]
      exact h
/-- which of the chosen ones a set has -/
def chx (d : Nat → Nat) (r x : Nat) : Nat := sg (fun j => bt x (d j) * 2 ^ j) r
theorem sg_2 {f : Nat → Nat} (hf : ∀ j, f j < 2) : ∀ (r : Nat), sg (fun j => f j * 2 ^ j) r < 2 ^ r ∧ ∀ i, i < r → bt (sg (fun j => f j * 2 ^ j) r) i = f i := by
  intro r
  induction r with
  | zero => exact ⟨Nat.one_pos, fun i hi => by omega⟩
  | succ r ih =>
    have e : ∀ s, bt (sg (fun j => f j * 2 ^ j) (r + 1)) s = if s = r then f r else bt (sg (fun j => f j * 2 ^ j) r) s := fun s => bt_add ih.1 (hf r)
    refine ⟨?_, fun i hi => ?_⟩
    · show sg (fun j => f j * 2 ^ j) r + f r * 2 ^ r < 2 ^ (r + 1)
      have a := ih.1
      have b : f r * 2 ^ r ≤ 1 * 2 ^ r := Nat.mul_le_mul_right _ (by have := hf r; omega)
      rw [Nat.pow_succ]
      omega
    · rw [e]
      by_cases c : i = r
      · subst c; rw [if_pos rfl]
      · rw [if_neg c]; exact ih.2 i (by omega)
theorem chx_lt (d : Nat → Nat) (r x : Nat) : chx d r x < 2 ^ r := (sg_2 (f := fun j => bt x (d j)) (fun j => bt_lt _ _) r).1
theorem chx_bt {d : Nat → Nat} {r x i : Nat} (hi : i < r) : bt (chx d r x) i = bt x (d i) := (sg_2 (f := fun j => bt x (d j)) (fun j => bt_lt _ _) r).2 i hi
theorem chx_Ex {d : Nat → Nat} {r c : Nat} (hi : inc r d) (hc : c < 2 ^ r) : chx d r (Ex d c r) = c := by
  unfold chx
  rw [sg_c (g := fun j => bt c j * 2 ^ j) r (fun j hj => by rw [(Ex_bt (s := 0) r hi).1 j hj]), sg_bt, Nat.mod_eq_of_lt hc]
theorem pop_r {r c : Nat} (hr : r ≤ 10) (hc : c < 2 ^ r) : pop c = sg (bt c) r := sg_hi 10 hr (fun s hs => bt_hi hc hs)
/-! the fewest, then the lowest -/
def ltp (x y : Nat) : Prop := pop x < pop y ∨ (pop x = pop y ∧ x ≤ y)
def si (gd : Nat → Bool) (st : Nat) : Nat → Nat → Option Nat
  | 0, _ => none
  | k + 1, c => if pop c = st ∧ gd c = true then some c else si gd st k (c + 1)
def so (gd : Nat → Bool) (n : Nat) : Nat → Nat → Option Nat
  | 0, _ => none
  | k + 1, st => match si gd st n 0 with
    | some c => some c
    | none => so gd n k (st + 1)
theorem si_sp {gd : Nat → Bool} {st : Nat} : ∀ (k c : Nat), match si gd st k c with
    | none => ∀ x, c ≤ x → x < c + k → pop x = st → gd x = false
    | some y => c ≤ y ∧ y < c + k ∧ pop y = st ∧ gd y = true ∧ ∀ x, c ≤ x → x < y → pop x = st → gd x = false := by
  intro k
  induction k with
  | zero => exact fun c x h1 h2 => by omega
  | succ k ih =>
    intro c
    unfold si
    by_cases h : pop c = st ∧ gd c = true
    · rw [if_pos h]
      exact ⟨Nat.le_refl _, by omega, h.1, h.2, fun x h1 h2 => by omega⟩
    · rw [if_neg h]
      have a := ih (c + 1)
      have hc : pop c = st → gd c = false := fun z => by
        cases e : gd c with
        | false => rfl
        | true => exact absurd ⟨z, e⟩ h
      cases e : si gd st k (c + 1) with
      | none =>
        rw [e] at a
        intro x h1 h2 h3
        by_cases cx : x = c
        · subst cx; exact hc h3
        · exact a x (by omega) (by omega) h3
      | some y =>
        rw [e] at a
        refine ⟨by have := a.1; omega, by have := a.2.1; omega, a.2.2.1, a.2.2.2.1, fun x h1 h2 h3 => ?_⟩
        by_cases cx : x = c
        · subst cx; exact hc h3
        · exact a.2.2.2.2 x (by omega) h2 h3
theorem so_sp {gd : Nat → Bool} {n : Nat} : ∀ (k st : Nat), (∀ x, x < n → pop x < st → gd x = false) → match so gd n k st with
    | none => ∀ x, x < n → pop x < st + k → gd x = false
    | some y => y < n ∧ gd y = true ∧ ∀ x, x < n → gd x = true → ltp y x := by
  intro k
  induction k with
  | zero => exact fun st h x hx hp => h x hx hp
  | succ k ih =>
    intro st h
    unfold so
    have a := si_sp (gd := gd) (st := st) n 0
    cases e : si gd st n 0 with
    | some y =>
      rw [e] at a
      refine ⟨by have := a.2.1; omega, a.2.2.2.1, fun x hx hg => ?_⟩
      unfold ltp
      rw [a.2.2.1]
      by_cases c1 : pop x < st
      · rw [h x hx c1] at hg; cases hg
      · by_cases c2 : pop x = st
        · refine Or.inr ⟨c2.symm, Nat.not_lt.mp (fun z => ?_)⟩
          rw [a.2.2.2.2 x (by omega) z c2] at hg
          cases hg
        · exact Or.inl (by omega)
    | none =>
      rw [e] at a
      have b := ih (st + 1) (fun x hx hp => by
        by_cases c : pop x = st
        · exact a x (by omega) (by omega) c
        · exact h x hx (by omega))
      rw [show st + (k + 1) = st + 1 + k by omega]
      exact b
def lsb (c : Nat) : Option Nat → Bool
  | none => true
  | some y => decide (pop c < pop y)
def bm (sb gd : Nat → Bool) : Nat → Nat → Option Nat → Option Nat
  | 0, _, b => b
  | k + 1, c, b => bm sb gd k (c + 1) (if sb c = true ∧ lsb c b = true ∧ gd c = true then some c else b)
def bmi (sb gd : Nat → Bool) (c : Nat) (b : Option Nat) : Prop := match b with
  | none => ∀ x, x < c → sb x = true → gd x = false
  | some y => y < c ∧ sb y = true ∧ gd y = true ∧ ∀ x, x < c → sb x = true → gd x = true → ltp y x
theorem bm_sp {sb gd : Nat → Bool} : ∀ (k c : Nat) (b : Option Nat), bmi sb gd c b → bmi sb gd (c + k) (bm sb gd k c b) := by
  intro k
  induction k with
  | zero => exact fun _ _ h => h
  | succ k ih =>
    intro c b h
    rw [show c + (k + 1) = c + 1 + k by omega]
    refine ih (c + 1) _ ?_
    split
    · next cc =>
      refine ⟨by omega, cc.1, cc.2.2, fun x hx hs hg => ?_⟩
      by_cases cx : x = c
      · subst cx; exact Or.inr ⟨rfl, Nat.le_refl _⟩
      · cases b with
        | none =>
          rw [h x (by omega) hs] at hg
          cases hg
        | some y =>
          have l := h.2.2.2 x (by omega) hs hg
          have l2 : pop c < pop y := of_decide_eq_true cc.2.1
          unfold ltp at l
          exact Or.inl (by omega)
    · next cc =>
      cases b with
      | none =>
        intro x hx hs
        by_cases cx : x = c
        · subst cx
          cases e : gd x with
          | false => rfl
          | true => exact absurd ⟨hs, rfl, e⟩ cc
        · exact h x (by omega) hs
      | some y =>
        refine ⟨by have := h.1; omega, h.2.1, h.2.2.1, fun x hx hs hg => ?_⟩
        by_cases cx : x = c
        · subst cx
          have np : ¬ pop x < pop y := fun z => cc ⟨hs, decide_eq_true z, hg⟩
          have := h.1
          unfold ltp
          omega
        · exact h.2.2.2 x (by omega) hs hg
/-- both ways find the same set -/
theorem spoil_eq {d : Nat → Nat} {r n : Nat} {sb gd : Nat → Bool} (hr : r ≤ 10) (hi : inc r d) (hd : ∀ j, j < r → d j < 10) (hsum : ∀ x, x < n → sb x = true → Ex d (chx d r x) r ≤ x ∧ pop (chx d r x) ≤ pop x ∧ (pop (chx d r x) = pop x → Ex d (chx d r x) r = x)) (hpop : ∀ c, c < 2 ^ r → pop (Ex d c r) = pop c)
    (hsb : ∀ c, c < 2 ^ r → sb (Ex d c r) = true ∧ Ex d c r < n) (hgd : ∀ x, x < n → sb x = true → gd (Ex d (chx d r x) r) = gd x) (hpr : ∀ c, c < 2 ^ r → pop c < r + 1) :
    (so (fun c => gd (Ex d c r)) (2 ^ r) (r + 1) 0).map (fun c => Ex d c r) = bm sb gd n 0 none := by
  have a := so_sp (gd := fun c => gd (Ex d c r)) (n := 2 ^ r) (r + 1) 0 (fun x _ h => by omega)
  have b := bm_sp (sb := sb) (gd := gd) n 0 none (fun x h => by omega)
  rw [Nat.zero_add] at b
  cases e : so (fun c => gd (Ex d c r)) (2 ^ r) (r + 1) 0 with
  | none =>
    rw [e] at a
    cases e2 : bm sb gd n 0 none with
    | none => rfl
    | some y =>
      rw [e2] at b
      have c := a (chx d r y) (chx_lt d r y) (by have := hpr _ (chx_lt d r y); omega)
      rw [hgd y b.1 b.2.1, b.2.2.1] at c
      cases c
  | some ch =>
    rw [e] at a
    have a1 := hsb ch a.1
    cases e2 : bm sb gd n 0 none with
    | none =>
      rw [e2] at b
      have c := b (Ex d ch r) a1.2 a1.1
      rw [a.2.1] at c
      cases c
    | some y =>
      rw [e2] at b
      have s := hsum y b.1 b.2.1
      have cl := chx_lt d r y
      have g1 : gd (Ex d (chx d r y) r) = true := by rw [hgd y b.1 b.2.1]; exact b.2.2.1
      have k1 := hsb _ cl
      have l1 := b.2.2.2 _ k1.2 k1.1 g1
      have p1 := hpop _ cl
      have ey : Ex d (chx d r y) r = y := s.2.2 (by unfold ltp at l1; omega)
      have l2 := a.2.2 (chx d r y) cl g1
      have l3 := b.2.2.2 _ a1.2 a1.1 a.2.1
      have p2 := hpop _ a.1
      unfold ltp at l2 l3
      have pe : pop ch = pop (chx d r y) := by rw [ey] at p1; omega
      have o1 : ch ≤ chx d r y := by omega
      have o2 : y ≤ Ex d ch r := by rw [ey] at p1; omega
      have : ch = chx d r y := by
        rcases Nat.lt_or_ge ch (chx d r y) with z | z
        · have := Ex_mono r ch (chx d r y) hi a.1 cl z
          omega
        · omega
      show some (Ex d ch r) = some y
      rw [this, ey]
