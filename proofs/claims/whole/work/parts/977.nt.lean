/-! the model's ranks, against the signs that wait -/
theorem bop_k (k : Nat) : (bop k = 6 ↔ (k = 9 ∨ k = 10)) ∧ (bop k = 5 ↔ (k = 7 ∨ k = 8)) ∧ (bop k = 4 ↔ (11 ≤ k ∧ k ≤ 16)) ∧ (bop k = 2 ↔ k = 30) ∧ (bop k = 1 ↔ k = 29) ∧ bop k ≤ 6 ∧ ¬ bop k = 3 ∧ (0 < bop k → rk k = bop k ∧ ¬ k = 31) := by
  unfold bop rk
  by_cases h31 : k = 31
  · subst h31; decide
  rw [if_neg h31]
  by_cases h29 : k = 29
  · subst h29; decide
  rw [if_neg h29]
  by_cases h30 : k = 30
  · subst h30; decide
  rw [if_neg h30, if_neg h31]
  by_cases c4 : 11 ≤ k ∧ k ≤ 16
  · rw [if_pos c4]; omega
  rw [if_neg c4]
  by_cases c5 : k = 7 ∨ k = 8
  · rw [if_pos c5]; omega
  rw [if_neg c5]
  by_cases c6 : k = 9 ∨ k = 10
  · rw [if_pos c6]; omega
  rw [if_neg c6]; omega
def nops : List Nat → Nat
  | [] => 0
  | x :: l => (if x = 5 then 0 else 1) + nops l
def nGD (b : Nat → Nat) (n l bd c : Nat) (t : Tk) (W : List Nat) (op kn : Nat) (u : List (Nat × Nat)) (m' : ck_H) (t' : Tk) (kn' : Nat) (e : List (Nat × Nat)) (P : List Nat) (u1 : List (Nat × Nat)) : Prop :=
  TV n t' ∧ SM t' op kn' (u ++ e) m' ∧ kn' ≤ 64 ∧ (u ++ e).length + nops W = kn' ∧ c ≤ kn' ∧ up1 e ∧ bop t'.1 < bd ∧ (∀ x, x ∈ P → l ≤ rk x) ∧ u1 ++ ops P = u ++ e ∧ SyS (nxt b n) (t, true, W, op, kn, u) (t', false, P ++ W, op, kn', u1) ∧ (l = 4 → tpr (rl 5 (P ++ W) u1).1 = 4)
def nDM (b : Nat → Nat) (n : Nat) (t : Tk) (W : List Nat) (op kn : Nat) (u : List (Nat × Nat)) (m' : ck_H) : Prop :=
  ∃ t' kn' e, TV n t' ∧ SM t' op kn' (u ++ e) m' ∧ kn' ≤ 64 ∧ (u ++ e).length + nops W = kn' ∧ bop t'.1 = 4 ∧ SyB (nxt b n) (t, true, W, op, kn, u) 1 t'.2.2.1
def nBD (b : Nat → Nat) (n : Nat) (t : Tk) (W : List Nat) (op kn : Nat) (u : List (Nat × Nat)) (m' : ck_H) : Prop :=
  ∃ f p, (f = 1 ∨ f = 2) ∧ m'.1 0 26 = nI f ∧ m'.1 0 27 = nI p ∧ SyB (nxt b n) (t, true, W, op, kn, u) f p
def nOT (b : Nat → Nat) (n l bd c : Nat) (t : Tk) (W : List Nat) (op kn : Nat) (u : List (Nat × Nat)) (m m' : ck_H) : Prop :=
  FM m m' ∧ ((∃ t' kn' e P u1, nGD b n l bd c t W op kn u m' t' kn' e P u1) ∨ (l ≤ 3 ∧ nDM b n t W op kn u m') ∨ nBD b n t W op kn u m')
def nNT (b : Nat → Nat) (n l top o c : Nat) (F : ck_H → (ck_H → Prop) → Prop) : Prop :=
  ∀ (t : Tk) (W : List Nat) (op kn : Nat) (u : List (Nat × Nat)) (m : ck_H) (Q : ck_H → Prop), LY b n m → TV n t → SM t op kn u m → kn ≤ 64 → op ≤ 8 → o ≤ op → c ≤ kn → u.length + nops W = kn → tpr W < top → (5 ≤ l → t.1 = 31 → 3 < tpr W) → (∀ m', nOT b n l l kn t W op kn u m m' → Q m') → F m Q
def nAB (F : ck_H → (ck_H → Prop) → Prop) : Prop := ∀ (m : ck_H) (Q : ck_H → Prop), ¬ m.1 0 26 = 0 → Q m → F m Q
theorem nBD.n0 {b : Nat → Nat} {n : Nat} {t : Tk} {W : List Nat} {op kn : Nat} {u : List (Nat × Nat)} {m' : ck_H} (h : nBD b n t W op kn u m') : ¬ m'.1 0 26 = 0 := by
  obtain ⟨f, p, hf, e, _⟩ := h
  rw [e]
  rcases hf with rfl | rfl <;> decide
theorem sst_bin {nx : Tk → Tk} {t : Tk} {l lo op kn : Nat} {P W : List Nat} {u1 w : List (Nat × Nat)} (hb : bop t.1 = l) (hl : 0 < l) (hlo : (l = 4 ∧ lo = 5) ∨ (¬ l = 4 ∧ lo = l)) (hP : ∀ x, x ∈ P → lo ≤ rk x) (hW : tpr W < l) (hu : u1 ++ ops P = w) :
    sst nx (t, false, P ++ W, op, kn, u1) = if 64 ≤ kn then (2, (t, false, P ++ W, op, kn, u1)) else (0, (nx t, true, t.1 :: W, op, kn + 1, w)) := by
  have n6 : ¬ t.1 = 6 := fun z => by rw [z] at hb; have : bop 6 = 0 := by decide
                                     omega
  have r : rl lo (P ++ W) u1 = (W, w) := by rw [rl_all P W u1 hP (by omega), hu]
  have elo : (if bop t.1 = 4 then 5 else bop t.1) = lo := by
    rw [hb]
    rcases hlo with ⟨h, h'⟩ | ⟨h, h'⟩
    · rw [if_pos h, h']
    · rw [if_neg h, h']
  show (if false = true then _ else (if t.1 = 6 then _ else if bop t.1 = 0 then _ else if bop t.1 = 4 ∧ tpr (rl 5 (P ++ W) u1).1 = 4 then _ else if 64 ≤ kn then _ else (0, (nx t, true, t.1 :: (rl (if bop t.1 = 4 then 5 else bop t.1) (P ++ W) u1).1, op, kn + 1, (rl (if bop t.1 = 4 then 5 else bop t.1) (P ++ W) u1).2)))) = _
  have n4 : ¬ (bop t.1 = 4 ∧ tpr (rl 5 (P ++ W) u1).1 = 4) := fun z => by
    rcases hlo with ⟨h, h'⟩ | ⟨h, h'⟩
    · rw [h'] at r
      have z2 := z.2
      rw [r] at z2
      have z2 : tpr W = 4 := z2
      omega
    · exact h (hb ▸ z.1)
  rw [if_neg (by decide), if_neg n6, if_neg (by omega), if_neg n4, elo, r]
theorem vlc_cod {k : Nat} (h : ¬ (29 ≤ k ∧ k ≤ 31)) : vlc k = tk_cod k := by
  unfold vlc
  rw [if_neg (by omega), if_neg (by omega), if_neg (by omega)]
theorem ops_app (P : List Nat) (k : Nat) : ops (P ++ [k]) = ops P ++ [(k, 0)] := by
  unfold ops
  rw [List.map_append]
  rfl
theorem bin_step {b : Nat → Nat} {n l lo bd c0 top o : Nat} {t0 t : Tk} {W P : List Nat} {op kn0 kn : Nat} {u0 e u1 : List (Nat × Nat)} {m0 m : ck_H} {Y : ck_H → (ck_H → Prop) → Prop} {v : Int32} {Kc : ck_H → Prop}
    (hl : l = 1 ∨ l = 2 ∨ l = 4 ∨ l = 5 ∨ l = 6) (hlo : (l = 4 ∧ lo = 5) ∨ (¬ l = 4 ∧ lo = l)) (htop : l < top) (hY : nNT b n (l + 1) top o 0 Y) (aY : nAB Y) (L : LY b n m) (op8 : op ≤ 8) (ho : o ≤ op) (hW : tpr W < l) (hf : FM m0 m)
    (G : nGD b n lo bd c0 t0 W op kn0 u0 m t kn e P u1) (hb : bop t.1 = l) (hv : v = nI (vlc t.1)) (q : ∀ m', nOT b n l (l + 1) (kn + 1) t0 W op kn0 u0 m0 m' → Kc m') :
    wp_X12_knot m (fun h6 => wp_X12_goOn h6 (fun h7 => Y h7 (fun h8 => wp_X12_puts (2 : Int32) v h8 Kc))) := by
  obtain ⟨T, S0, k64, inv, _, up, hbd, hP, hu, sy, _⟩ := G
  have bk := (bop_k t.1).2.2.2.2.2.2.2 (by omega)
  have n5 : ¬ t.1 = 5 := fun z => by rw [z] at hb; have : bop 5 = 0 := by decide
                                     omega
  have ss := sst_bin (nx := nxt b n) (op := op) (kn := kn) hb (by omega) hlo hP hW hu
  have hk : ev_kr (nI t.1) (nI 0) 2 v := by rw [hv]; exact vlc_kr (by omega)
  have np : nops (t.1 :: W) = 1 + nops W := by show (if t.1 = 5 then 0 else 1) + nops W = _; rw [if_neg n5]
  refine mm_knot S0 k64 (fun klt m1 f1 s1 => ?_) (fun ke m1 fa => ?_)
  · rw [if_neg (by omega)] at ss
    have sy1 := sy.tr (SyS.one ss)
    refine mm_goOn (f1.ly L) T s1 (fun m2 f2 L2 T2 S2 => ?_)
    refine hY (nxt b n t) (t.1 :: W) op (kn + 1) (u0 ++ e) m2 _ L2 T2 S2 (by omega) op8 ho (by omega) (by rw [np]; omega) (by show rk t.1 < top; omega) (fun _ _ => by show 3 < rk t.1; omega) (fun m3 o3 => ?_)
    obtain ⟨f3, ⟨t', kn', e', P', u1', T', S', k', i', c', up', b', hP', hu', sy', _⟩ | ⟨_, t', kn', e', T', S', k', i', b', sb'⟩ | bd3⟩ := o3
    · rw [np] at i'
      refine mm_puts S' (by omega) hk (fun m4 f4 S4 => q m4 ⟨(hf.tr f1).tr (f2.tr (f3.tr f4)), Or.inl ⟨t', kn', e ++ (e' ++ [(t.1, 0)]), P' ++ [t.1], u1', T', ?_, k', ?_, c', up1_bin up up' (by omega), b', fun x hx => ?_, ?_, ?_, fun h4 => ?_⟩⟩)
      · rw [← List.append_assoc, ← List.append_assoc]; exact S4
      · rw [← List.append_assoc, ← List.append_assoc, List.length_append (bs := [(t.1, 0)])]
        show _ + 1 + _ = _
        omega
      · rcases List.mem_append.mp hx with hx | hx
        · have := hP' x hx; omega
        · rw [List.mem_singleton.mp hx]; omega
      · rw [ops_app, ← List.append_assoc, hu', ← List.append_assoc, ← List.append_assoc]
      · rw [List.append_assoc]; exact sy1.tr sy'
      · rw [List.append_assoc]
        have : rl 5 (P' ++ ([t.1] ++ W)) u1' = ([t.1] ++ W, u1' ++ ops P') := rl_all P' _ u1' (fun x hx => by have := hP' x hx; omega) (by show rk t.1 < 5; omega)
        rw [this]
        show rk t.1 = 4
        omega
    · rw [np] at i'
      refine mm_puts S' (by omega) hk (fun m4 f4 S4 => q m4 ⟨(hf.tr f1).tr (f2.tr (f3.tr f4)), Or.inr (Or.inl ⟨by omega, t', kn', e ++ (e' ++ [(t.1, 0)]), T', ?_, k', ?_, b', sy1.bad sb'⟩)⟩)
      · rw [← List.append_assoc, ← List.append_assoc]; exact S4
      · rw [← List.append_assoc, ← List.append_assoc, List.length_append (bs := [(t.1, 0)])]
        show _ + 1 + _ = _
        omega
    · refine mm_putsF bd3.n0 (q m3 ⟨(hf.tr f1).tr (f2.tr f3), Or.inr (Or.inr ?_)⟩)
      obtain ⟨f, p, hf', e1, e2, sb⟩ := bd3
      exact ⟨f, p, hf', e1, e2, sy1.bad sb⟩
  · rw [if_pos (by omega)] at ss
    refine mm_goOnF fa.n0 (aY _ _ fa.n0 (mm_putsF fa.n0 (q m1 ⟨hf.tr fa.1, Or.inr (Or.inr ⟨2, t.2.2.1, Or.inr rfl, fa.2.2.1, fa.2.2.2, sy.bad ?_⟩)⟩)))
    exact SyB.one ss (Or.inr rfl)
