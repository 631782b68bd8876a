/-! rows of digits, told in order; the first best one -/
def uN (f : Nat → Nat) (k v : Nat) : Nat → Nat := fun i => if i = k then v else f i
theorem uN_s {f : Nat → Nat} {k v : Nat} : uN f k v k = v := if_pos rfl
theorem uN_n {f : Nat → Nat} {k v i : Nat} (h : i ≠ k) : uN f k v i = f i := if_neg h
theorem uN_uN (f : Nat → Nat) (k v w : Nat) : uN (uN f k v) k w = uN f k w := by
  funext i
  by_cases c : i = k
  · subst c; rw [uN_s, uN_s]
  · rw [uN_n c, uN_n c, uN_n c]
def wt (R : Nat → Nat) : Nat → Nat → Nat
  | 0, _ => 1
  | l + 1, k => R k * wt R l (k + 1)
def dgs (R : Nat → Nat) : Nat → Nat → (Nat → Nat) → Nat → Nat → Nat
  | 0, _, f, _ => f
  | l + 1, k, f, c => dgs R l (k + 1) (uN f k (c / wt R l (k + 1))) (c % wt R l (k + 1))
abbrev Bs : Type := Int32 × (Nat → Nat)
def bu (G : (Nat → Nat) → Int32) (st : Bs) (f : Nat → Nat) : Bs := if G f ≤ st.1 then st else (G f, f)
def lit {A : Type} (f : A → Nat → A) : Nat → Nat → A → A
  | 0, _, st => st
  | n + 1, d, st => lit f n (d + 1) (f st d)
def lx (G : (Nat → Nat) → Int32) (R : Nat → Nat) : Nat → Nat → Bs → (Nat → Nat) → Bs
  | 0, _, st, f => bu G st f
  | l + 1, k, st, f => lit (fun st d => lx G R l (k + 1) st (uN f k d)) (R k) 0 st
theorem lit_add {A : Type} {f : A → Nat → A} : ∀ (a b c : Nat) (st : A), lit f (a + b) c st = lit f b (c + a) (lit f a c st) := by
  intro a
  induction a with
  | zero => intro b c st; rw [Nat.zero_add]; rfl
  | succ a ih =>
    intro b c st
    rw [show a + 1 + b = (a + b) + 1 by omega, show c + (a + 1) = c + 1 + a by omega]
    exact ih b (c + 1) _
theorem lit_congr {A : Type} {f g : A → Nat → A} : ∀ (n c : Nat) (st : A), (∀ i x, c ≤ i → i < c + n → f x i = g x i) → lit f n c st = lit g n c st := by
  intro n
  induction n with
  | zero => exact fun _ _ _ => rfl
  | succ n ih =>
    intro c st h
    unfold lit
    rw [h c st (by omega) (by omega)]
    exact ih (c + 1) _ (fun i x a b => h i x (by omega) (by omega))
theorem lit_shift {A : Type} {f : A → Nat → A} : ∀ (n c k : Nat) (st : A), lit f n (k + c) st = lit (fun st i => f st (k + i)) n c st := by
  intro n
  induction n with
  | zero => exact fun _ _ _ => rfl
  | succ n ih =>
    intro c k st
    unfold lit
    rw [show k + c + 1 = k + (c + 1) by omega]
    exact ih (c + 1) k _
theorem lit_block {A : Type} {f : A → Nat → A} (w : Nat) : ∀ (a d : Nat) (st : A), lit f (a * w) (d * w) st = lit (fun st d => lit (fun st c => f st (d * w + c)) w 0 st) a d st := by
  intro a
  induction a with
  | zero => intro d st; rw [Nat.zero_mul]; rfl
  | succ a ih =>
    intro d st
    rw [show (a + 1) * w = w + a * w by rw [Nat.succ_mul]; omega, lit_add, show d * w + w = (d + 1) * w by rw [Nat.succ_mul], ih]
    conv => rhs; unfold lit
    rw [show lit f w (d * w) st = lit (fun st c => f st (d * w + c)) w 0 st from lit_shift w 0 (d * w) st]
theorem wt_pos {R : Nat → Nat} (hR : ∀ k, 0 < R k) : ∀ l k, 0 < wt R l k := by
  intro l
  induction l with
  | zero => exact fun _ => Nat.one_pos
  | succ l ih => exact fun k => Nat.mul_pos (hR k) (ih (k + 1))
theorem lx_code {G : (Nat → Nat) → Int32} {R : Nat → Nat} (hR : ∀ k, 0 < R k) : ∀ (l k : Nat) (st : Bs) (f : Nat → Nat), lit (fun st c => bu G st (dgs R l k f c)) (wt R l k) 0 st = lx G R l k st f := by
  intro l
  induction l with
  | zero => exact fun _ _ _ => rfl
  | succ l ih =>
    intro k st f
    have hw := wt_pos hR l (k + 1)
    have e := lit_block (f := fun st c => bu G st (dgs R (l + 1) k f c)) (wt R l (k + 1)) (R k) 0 st
    rw [Nat.zero_mul] at e
    refine e.trans ?_
    refine lit_congr _ _ _ (fun d x _ _ => ?_)
    rw [← ih (k + 1) x (uN f k d)]
    refine lit_congr _ _ _ (fun c y _ hc => ?_)
    have e1 : (d * wt R l (k + 1) + c) / wt R l (k + 1) = d := by
      rw [Nat.mul_comm, Nat.mul_add_div hw, Nat.div_eq_of_lt (by omega), Nat.add_zero]
    have e2 : (d * wt R l (k + 1) + c) % wt R l (k + 1) = c := by
      rw [Nat.mul_comm, Nat.mul_add_mod, Nat.mod_eq_of_lt (by omega)]
    show bu G y (dgs R l (k + 1) (uN f k ((d * wt R l (k + 1) + c) / wt R l (k + 1))) ((d * wt R l (k + 1) + c) % wt R l (k + 1))) = _
    rw [e1, e2]
def cpl (R : Nat → Nat) (l k : Nat) (f g : Nat → Nat) : Prop := (∀ j, (j < k ∨ k + l ≤ j) → g j = f j) ∧ ∀ j, k ≤ j → j < k + l → g j < R j
theorem bu_ge {G : (Nat → Nat) → Int32} {st : Bs} {f : Nat → Nat} : st.1 ≤ (bu G st f).1 ∧ G f ≤ (bu G st f).1 := by
  unfold bu
  split
  · next c => exact ⟨Int32.le_refl _, c⟩
  · next c => exact ⟨Int32.le_of_lt (Int32.not_le.mp c), Int32.le_refl _⟩
theorem lit_ge {f : Bs → Nat → Bs} (h : ∀ st d, st.1 ≤ (f st d).1) : ∀ (n d : Nat) (st : Bs), st.1 ≤ (lit f n d st).1 := by
  intro n
  induction n with
  | zero => exact fun _ _ => Int32.le_refl _
  | succ n ih => exact fun d st => Int32.le_trans (h st d) (ih (d + 1) _)
theorem lx_ge {G : (Nat → Nat) → Int32} {R : Nat → Nat} : ∀ (l k : Nat) (st : Bs) (f : Nat → Nat), st.1 ≤ (lx G R l k st f).1 := by
  intro l
  induction l with
  | zero => exact fun _ _ _ => bu_ge.1
  | succ l ih => exact fun k st f => lit_ge (fun st d => ih (k + 1) st _) _ _ _
theorem lit_hit {f : Bs → Nat → Bs} {x : Int32} (h : ∀ st d, st.1 ≤ (f st d).1) : ∀ (n c d : Nat) (st : Bs), c ≤ d → d < c + n → (∀ st, x ≤ (f st d).1) → x ≤ (lit f n c st).1 := by
  intro n
  induction n with
  | zero => exact fun _ _ _ h1 h2 => by omega
  | succ n ih =>
    intro c d st h1 h2 hx
    unfold lit
    by_cases e : d = c
    · subst e
      exact Int32.le_trans (hx st) (lit_ge h _ _ _)
    · exact ih (c + 1) d _ (by omega) (by omega) hx
theorem lx_all {G : (Nat → Nat) → Int32} {R : Nat → Nat} : ∀ (l k : Nat) (st : Bs) (f g : Nat → Nat), cpl R l k f g → G g ≤ (lx G R l k st f).1 := by
  intro l
  induction l with
  | zero =>
    intro k st f g h
    have e : g = f := by funext j; exact h.1 j (by omega)
    rw [e]
    exact bu_ge.2
  | succ l ih =>
    intro k st f g h
    refine lit_hit (fun st d => lx_ge l (k + 1) st _) (R k) 0 (g k) st (by omega) (by have := h.2 k (by omega) (by omega); omega) (fun st => ih (k + 1) st _ g ⟨fun j hj => ?_, fun j h1 h2 => h.2 j (by omega) (by omega)⟩)
    by_cases c : j = k
    · subst c; rw [uN_s]
    · rw [uN_n c]; exact h.1 j (by omega)
theorem lit_id {f : Bs → Nat → Bs} {st : Bs} : ∀ (n c : Nat), (∀ d, c ≤ d → d < c + n → f st d = st) → lit f n c st = st := by
  intro n
  induction n with
  | zero => exact fun _ _ => rfl
  | succ n ih =>
    intro c h
    unfold lit
    rw [h c (by omega) (by omega)]
    exact ih (c + 1) (fun d a b => h d (by omega) (by omega))
theorem lx_none {G : (Nat → Nat) → Int32} {R : Nat → Nat} : ∀ (l k : Nat) (st : Bs) (f : Nat → Nat), (∀ g, cpl R l k f g → G g ≤ st.1) → lx G R l k st f = st := by
  intro l
  induction l with
  | zero =>
    intro k st f h
    show bu G st f = st
    unfold bu
    rw [if_pos (h f ⟨fun _ _ => rfl, fun j h1 h2 => by omega⟩)]
  | succ l ih =>
    intro k st f h
    refine lit_id (R k) 0 (fun d _ hd => ih (k + 1) st _ (fun g hg => h g ⟨fun j hj => ?_, fun j h1 h2 => ?_⟩))
    · have := hg.1 j (by omega)
      rw [uN_n (by omega)] at this
      exact this
    · by_cases c : j = k
      · subst c
        have := hg.1 j (by omega)
        rw [uN_s] at this
        omega
      · exact hg.2 j (by omega) (by omega)
theorem lx_rel {G : (Nat → Nat) → Int32} {J : Nat} {rel : Nat → Prop} [DecidablePred rel] (hJ : 1 ≤ J) (hG : ∀ f k v, ¬ rel k → G (uN f k v) = G f) : ∀ (l k : Nat) (st : Bs) (f : Nat → Nat), lx G (fun _ => J) l k st f = lx G (fun k => if rel k then J else 1) l k st f := by
  intro l
  induction l with
  | zero => exact fun _ _ _ => rfl
  | succ l ih =>
    intro k st f
    unfold lx
    by_cases c : rel k
    · rw [if_pos c]
      exact lit_congr _ _ _ (fun d x _ _ => ih (k + 1) x _)
    · rw [if_neg c]
      conv => lhs; rw [show J = 1 + (J - 1) by omega]
      rw [lit_add]
      have e1 : lit (fun st d => lx G (fun _ => J) l (k + 1) st (uN f k d)) 1 0 st = lx G (fun _ => J) l (k + 1) st (uN f k 0) := rfl
      have e2 : lit (fun st d => lx G (fun k => if rel k then J else 1) l (k + 1) st (uN f k d)) 1 0 st = lx G (fun k => if rel k then J else 1) l (k + 1) st (uN f k 0) := rfl
      rw [show 1 + (J - 1) = J by omega, e1, e2, ← ih]
      refine lit_id _ _ (fun d _ _ => lx_none l (k + 1) _ _ (fun g hg => ?_))
      have e3 : G g = G (uN g k 0) := (hG g k 0 c).symm
      rw [e3]
      refine lx_all l (k + 1) st (uN f k 0) _ ⟨fun j hj => ?_, fun j h1 h2 => ?_⟩
      · by_cases cj : j = k
        · subst cj; rw [uN_s, uN_s]
        · rw [uN_n cj, uN_n cj]
          have := hg.1 j hj
          rw [uN_n cj] at this
          exact this
      · rw [uN_n (by omega)]
        exact hg.2 j h1 h2
/-! digits and their value -/
def val (R : Nat → Nat) : Nat → Nat → (Nat → Nat) → Nat
  | 0, _, _ => 0
  | l + 1, k, f => f k * wt R l (k + 1) + val R l (k + 1) f
theorem val_lt {R : Nat → Nat} : ∀ (l k : Nat) (f : Nat → Nat), (∀ j, k ≤ j → j < k + l → f j < R j) → val R l k f < wt R l k := by
  intro l
  induction l with
  | zero => exact fun _ _ _ => Nat.one_pos
  | succ l ih =>
    intro k f h
    have a := ih (k + 1) f (fun j h1 h2 => h j (by omega) (by omega))
    have b := h k (by omega) (by omega)
    show f k * wt R l (k + 1) + val R l (k + 1) f < R k * wt R l (k + 1)
    have : (f k + 1) * wt R l (k + 1) ≤ R k * wt R l (k + 1) := Nat.mul_le_mul_right _ b
    rw [Nat.succ_mul] at this
    omega
theorem dgs_out {R : Nat → Nat} : ∀ (l k c : Nat) (f : Nat → Nat) (j : Nat), (j < k ∨ k + l ≤ j) → dgs R l k f c j = f j := by
  intro l
  induction l with
  | zero => exact fun _ _ _ _ _ => rfl
  | succ l ih =>
    intro k c f j h
    unfold dgs
    rw [ih (k + 1) _ _ j (by omega), uN_n (by omega)]
theorem dgs_val {R : Nat → Nat} : ∀ (l k : Nat) (f g : Nat → Nat), (∀ j, k ≤ j → j < k + l → g j < R j) → ∀ j, k ≤ j → j < k + l → dgs R l k f (val R l k g) j = g j := by
  intro l
  induction l with
  | zero => exact fun _ _ _ _ _ h1 h2 => by omega
  | succ l ih =>
    intro k f g h j h1 h2
    have a := val_lt (R := R) l (k + 1) g (fun j h1 h2 => h j (by omega) (by omega))
    unfold dgs val
    have e1 : (g k * wt R l (k + 1) + val R l (k + 1) g) / wt R l (k + 1) = g k := by
      rw [Nat.mul_comm, Nat.mul_add_div (by omega), Nat.div_eq_of_lt a, Nat.add_zero]
    have e2 : (g k * wt R l (k + 1) + val R l (k + 1) g) % wt R l (k + 1) = val R l (k + 1) g := by
      rw [Nat.mul_comm, Nat.mul_add_mod, Nat.mod_eq_of_lt a]
    rw [e1, e2]
    by_cases c : j = k
    · subst c
      rw [dgs_out l (j + 1) _ _ j (by omega), uN_s]
    · exact ih (k + 1) _ g (fun j h1 h2 => h j (by omega) (by omega)) j (by omega) (by omega)
theorem val_congr {R : Nat → Nat} : ∀ (l k : Nat) (f g : Nat → Nat), (∀ j, k ≤ j → j < k + l → f j = g j) → val R l k f = val R l k g := by
  intro l
  induction l with
  | zero => exact fun _ _ _ _ => rfl
  | succ l ih =>
    intro k f g h
    unfold val
    rw [h k (by omega) (by omega), ih (k + 1) f g (fun j h1 h2 => h j (by omega) (by omega))]
theorem val_u {R : Nat → Nat} {k v : Nat} : ∀ (l i : Nat) (f : Nat → Nat), i ≤ k → k < i + l → val R l i (uN f k v) + f k * wt R (i + l - 1 - k) (k + 1) = val R l i f + v * wt R (i + l - 1 - k) (k + 1) := by
  intro l
  induction l with
  | zero => exact fun _ _ h1 h2 => by omega
  | succ l ih =>
    intro i f h1 h2
    unfold val
    by_cases c : i = k
    · subst c
      rw [uN_s, val_congr l (i + 1) (uN f i v) f (fun j a b => uN_n (by omega)), show i + (l + 1) - 1 - i = l by omega]
      omega
    · have := ih (i + 1) f (by omega) (by omega)
      rw [uN_n (by omega), show i + (l + 1) - 1 - k = i + 1 + l - 1 - k by omega]
      omega
theorem wt_c {J : Nat} : ∀ (l k : Nat), wt (fun _ => J) l k = J ^ l := by
  intro l
  induction l with
  | zero => exact fun _ => rfl
  | succ l ih => intro k; unfold wt; rw [ih (k + 1), Nat.pow_succ, Nat.mul_comm]
theorem dgs_c {J : Nat} (hJ : 0 < J) : ∀ (l k : Nat) (f : Nat → Nat) (c : Nat), c < J ^ l → ∀ j, k ≤ j → j < k + l → dgs (fun _ => J) l k f c j = c / J ^ (k + l - 1 - j) % J := by
  intro l
  induction l with
  | zero => exact fun _ _ _ _ _ h1 h2 => by omega
  | succ l ih =>
    intro k f c hc j h1 h2
    unfold dgs
    rw [wt_c]
    have hp : 0 < J ^ l := Nat.pow_pos hJ
    by_cases e : j = k
    · subst e
      rw [dgs_out l (j + 1) _ _ j (by omega), uN_s, show j + (l + 1) - 1 - j = l by omega]
      rw [Nat.pow_succ, Nat.mul_comm] at hc
      rw [Nat.mod_eq_of_lt]
      exact (Nat.div_lt_iff_lt_mul hp).mpr hc
    · rw [ih (k + 1) _ _ (Nat.mod_lt _ hp) j (by omega) (by omega), show k + 1 + l - 1 - j = k + (l + 1) - 1 - j by omega]
      generalize hb : k + (l + 1) - 1 - j = b
      have hbl : b < l := by omega
      have e1 : J ^ l = J ^ b * J ^ (l - b) := by rw [← Nat.pow_add, show b + (l - b) = l by omega]
      rw [e1, Nat.mod_mul_right_div_self]
      refine Nat.mod_mod_of_dvd _ ?_
      exact ⟨J ^ (l - b - 1), by rw [← Nat.pow_succ', show (l - b - 1).succ = l - b by omega]⟩
