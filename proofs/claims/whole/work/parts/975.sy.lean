/-! an E, read as the class reads it: signs wait -/
def rk (k : Nat) : Nat := if k = 29 then 1 else if k = 30 then 2 else if k = 31 then 3 else if 11 ≤ k ∧ k ≤ 16 then 4 else if k = 7 ∨ k = 8 then 5 else if k = 9 ∨ k = 10 then 6 else 0
def bop (k : Nat) : Nat := if k = 31 then 0 else rk k
/-- the token at hand, whether a side is wanted, signs that wait (the last one first), how many are open, how many knots, what has come -/
abbrev St : Type := Tk × Bool × List Nat × Nat × Nat × List (Nat × Nat)
def rl (lo : Nat) : List Nat → List (Nat × Nat) → List Nat × List (Nat × Nat)
  | [], u => ([], u)
  | x :: l, u => if lo ≤ rk x then rl lo l (u ++ [(x, 0)]) else (x :: l, u)
def tpr : List Nat → Nat
  | [] => 0
  | x :: _ => rk x
def sst (nx : Tk → Tk) (s : St) : Nat × St :=
  if s.2.1 = true then
    (if s.1.1 = 5 then (if 8 ≤ s.2.2.2.1 then (2, s) else (0, (nx s.1, true, 5 :: s.2.2.1, s.2.2.2.1 + 1, s.2.2.2.2.1, s.2.2.2.2.2)))
     else if ¬ s.1.1 = 31 ∧ ¬ s.1.1 = 2 ∧ ¬ (32 ≤ s.1.1 ∧ s.1.1 ≤ 38) then (1, s)
     else if s.1.1 = 31 ∧ 3 < tpr s.2.2.1 then (1, s)
     else if 64 ≤ s.2.2.2.2.1 ∨ (s.1.1 = 2 ∧ 9999 < s.1.2.1) then (2, s)
     else if s.1.1 = 31 then (0, (nx s.1, true, 31 :: s.2.2.1, s.2.2.2.1, s.2.2.2.2.1 + 1, s.2.2.2.2.2))
     else (0, (nx s.1, false, s.2.2.1, s.2.2.2.1, s.2.2.2.2.1 + 1, s.2.2.2.2.2 ++ [(s.1.1, if s.1.1 = 2 then s.1.2.1 else 0)])))
  else
    (if s.1.1 = 6 then (if s.2.2.2.1 = 0 then (9, s) else (0, (nx s.1, false, (rl 1 s.2.2.1 s.2.2.2.2.2).1.tail, s.2.2.2.1 - 1, s.2.2.2.2.1, (rl 1 s.2.2.1 s.2.2.2.2.2).2)))
     else if bop s.1.1 = 0 then (9, s)
     else if bop s.1.1 = 4 ∧ tpr (rl 5 s.2.2.1 s.2.2.2.2.2).1 = 4 then (1, s)
     else if 64 ≤ s.2.2.2.2.1 then (2, s)
     else (0, (nx s.1, true, s.1.1 :: (rl (if bop s.1.1 = 4 then 5 else bop s.1.1) s.2.2.1 s.2.2.2.2.2).1, s.2.2.2.1, s.2.2.2.2.1 + 1, (rl (if bop s.1.1 = 4 then 5 else bop s.1.1) s.2.2.1 s.2.2.2.2.2).2)))
def syr (nx : Tk → Tk) : Nat → St → Nat × St
  | 0, s => (7, s)
  | k + 1, s => if (sst nx s).1 = 0 then syr nx k (sst nx s).2 else sst nx s
def SyS (nx : Tk → Tk) (s s' : St) : Prop := ∃ j, ∀ k, syr nx (j + k) s = syr nx k s'
/-- the run ends with a fault, of this kind at this place -/
def SyB (nx : Tk → Tk) (s : St) (f p : Nat) : Prop := ∃ j c s', (∀ k, syr nx (j + k) s = (c, s')) ∧ s'.1.2.2.1 = p ∧ (((c = 1 ∨ c = 2) ∧ f = c) ∨ (c = 9 ∧ 0 < s'.2.2.2.1 ∧ f = 1))
theorem SyS.rf {nx : Tk → Tk} (s : St) : SyS nx s s := ⟨0, fun k => by rw [Nat.zero_add]⟩
theorem SyS.tr {nx : Tk → Tk} {s s1 s2 : St} (a : SyS nx s s1) (b : SyS nx s1 s2) : SyS nx s s2 := by
  obtain ⟨i, hi⟩ := a
  obtain ⟨j, hj⟩ := b
  exact ⟨i + j, fun k => by rw [Nat.add_assoc, hi, hj]⟩
theorem SyS.bad {nx : Tk → Tk} {s s1 : St} {f p : Nat} (a : SyS nx s s1) (b : SyB nx s1 f p) : SyB nx s f p := by
  obtain ⟨i, hi⟩ := a
  obtain ⟨j, c, s', hj, h2⟩ := b
  exact ⟨i + j, c, s', fun k => by rw [Nat.add_assoc, hi, hj], h2⟩
theorem SyS.one {nx : Tk → Tk} {s s' : St} (h : sst nx s = (0, s')) : SyS nx s s' := ⟨1, fun k => by
  rw [Nat.add_comm]
  show (if (sst nx s).1 = 0 then syr nx k (sst nx s).2 else sst nx s) = _
  rw [h]
  rfl⟩
theorem SyB.one {nx : Tk → Tk} {s s' : St} {f : Nat} (h : sst nx s = (f, s')) (hf : f = 1 ∨ f = 2) : SyB nx s f s'.1.2.2.1 := ⟨1, f, s', fun k => by
  rw [Nat.add_comm]
  show (if (sst nx s).1 = 0 then syr nx k (sst nx s).2 else sst nx s) = _
  rw [h, if_neg (by show ¬ f = 0; omega)], rfl, Or.inl ⟨hf, rfl⟩⟩
theorem SyB.end9 {nx : Tk → Tk} {s s' : St} (h : sst nx s = (9, s')) (ho : 0 < s'.2.2.2.1) : SyB nx s 1 s'.1.2.2.1 := ⟨1, 9, s', fun k => by
  rw [Nat.add_comm]
  show (if (sst nx s).1 = 0 then syr nx k (sst nx s).2 else sst nx s) = _
  rw [h]
  rfl, rfl, Or.inr ⟨rfl, ho, rfl⟩⟩
def ops (P : List Nat) : List (Nat × Nat) := P.map (fun x => (x, 0))
theorem rl_all {lo : Nat} : ∀ (P W : List Nat) (u : List (Nat × Nat)), (∀ x, x ∈ P → lo ≤ rk x) → tpr W < lo → rl lo (P ++ W) u = (W, u ++ ops P) := by
  intro P
  induction P with
  | nil =>
    intro W u _ h
    cases W with
    | nil => show ([], u) = ([], u ++ []); rw [List.append_nil]
    | cons x l =>
      show (if lo ≤ rk x then _ else _) = _
      rw [if_neg (by have h : rk x < lo := h; omega)]
      show (x :: l, u) = (x :: l, u ++ [])
      rw [List.append_nil]
  | cons x P ih =>
    intro W u h hW
    show (if lo ≤ rk x then rl lo (P ++ W) (u ++ [(x, 0)]) else _) = _
    rw [if_pos (h x (List.mem_cons_self ..)), ih W _ (fun y hy => h y (List.mem_cons_of_mem _ hy)) hW]
    show (W, u ++ [(x, 0)] ++ ops P) = (W, u ++ ((x, 0) :: ops P))
    rw [List.append_assoc]
    rfl
/-- heights: what a row of knots makes of so many values -/
def wfl : List (Nat × Nat) → Nat → Option Nat
  | [], h => some h
  | (k, _) :: l, h => if k = 2 ∨ (32 ≤ k ∧ k ≤ 38) then wfl l (h + 1) else if k = 31 then (if 1 ≤ h then wfl l h else none) else if 0 < rk k then (if 2 ≤ h then wfl l (h - 1) else none) else none
theorem wfl_app : ∀ (a b : List (Nat × Nat)) (h h' : Nat), wfl a h = some h' → wfl (a ++ b) h = wfl b h' := by
  intro a
  induction a with
  | nil => intro b h h' e; cases e; rfl
  | cons x a ih =>
    intro b h h' e
    obtain ⟨k, v⟩ := x
    have e : (if k = 2 ∨ (32 ≤ k ∧ k ≤ 38) then wfl a (h + 1) else if k = 31 then (if 1 ≤ h then wfl a h else none) else if 0 < rk k then (if 2 ≤ h then wfl a (h - 1) else none) else none) = some h' := e
    show (if k = 2 ∨ (32 ≤ k ∧ k ≤ 38) then wfl (a ++ b) (h + 1) else if k = 31 then (if 1 ≤ h then wfl (a ++ b) h else none) else if 0 < rk k then (if 2 ≤ h then wfl (a ++ b) (h - 1) else none) else none) = wfl b h'
    by_cases c1 : k = 2 ∨ (32 ≤ k ∧ k ≤ 38)
    · rw [if_pos c1] at e ⊢; exact ih b _ _ e
    · rw [if_neg c1] at e ⊢
      by_cases c2 : k = 31
      · rw [if_pos c2] at e ⊢
        by_cases c3 : 1 ≤ h
        · rw [if_pos c3] at e ⊢; exact ih b _ _ e
        · rw [if_neg c3] at e; cases e
      · rw [if_neg c2] at e ⊢
        by_cases c3 : 0 < rk k
        · rw [if_pos c3] at e ⊢
          by_cases c4 : 2 ≤ h
          · rw [if_pos c4] at e ⊢; exact ih b _ _ e
          · rw [if_neg c4] at e; cases e
        · rw [if_neg c3] at e; cases e
/-- one value more -/
def up1 (e : List (Nat × Nat)) : Prop := ∀ h, wfl e h = some (h + 1)
theorem up1_one {k v : Nat} (h : k = 2 ∨ (32 ≤ k ∧ k ≤ 38)) : up1 [(k, v)] := fun x => by
  show (if k = 2 ∨ (32 ≤ k ∧ k ≤ 38) then some (x + 1) else _) = _
  rw [if_pos h]
theorem up1_not {e : List (Nat × Nat)} (h : up1 e) : up1 (e ++ [(31, 0)]) := fun x => by
  rw [wfl_app e _ x _ (h x)]
  show (if (31 : Nat) = 2 ∨ (32 ≤ 31 ∧ 31 ≤ 38) then _ else if (31 : Nat) = 31 then (if 1 ≤ x + 1 then some (x + 1) else none) else _) = _
  rw [if_neg (by decide), if_pos rfl, if_pos (by omega)]
theorem up1_bin {e f : List (Nat × Nat)} {k : Nat} (h : up1 e) (g : up1 f) (hk : 0 < bop k) : up1 (e ++ (f ++ [(k, 0)])) := fun x => by
  rw [wfl_app e _ x _ (h x), wfl_app f _ (x + 1) _ (g (x + 1))]
  show (if k = 2 ∨ (32 ≤ k ∧ k ≤ 38) then _ else if k = 31 then _ else if 0 < rk k then (if 2 ≤ x + 1 + 1 then some (x + 1 + 1 - 1) else none) else none) = _
  have n31 : ¬ k = 31 := fun z => by rw [z] at hk; exact absurd hk (by decide)
  have hk2 : 0 < rk k := by unfold bop at hk; rw [if_neg n31] at hk; exact hk
  have n2 : ¬ (k = 2 ∨ (32 ≤ k ∧ k ≤ 38)) := fun z => by
    unfold rk at hk2
    rcases z with rfl | z
    · exact absurd hk2 (by decide)
    · rw [if_neg (by omega), if_neg (by omega), if_neg (by omega), if_neg (by omega), if_neg (by omega), if_neg (by omega)] at hk2
      omega
  rw [if_neg n2, if_neg n31, if_pos hk2, if_pos (by omega)]
  rfl
