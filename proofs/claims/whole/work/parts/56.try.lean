/-! trials, told purely: a plan p (rows by number, as the class has them from its plan's cell on), a mode, a state -/
def pl (h : ck_H) : Nat → Nat → Int32 := fun a => if a ≤ 20 then h.1 (32 + a) else fun _ => 0
theorem pl_eq {h h' : ck_H} (e : ∀ a, 32 ≤ a → a ≤ 52 → h'.1 a = h.1 a) : pl h' = pl h := by
  funext a
  unfold pl
  by_cases c : a ≤ 20
  · rw [if_pos c, if_pos c, e _ (by omega) (by omega)]
  · rw [if_neg c, if_neg c]
/-- fields, teeth, judges, days, verdicts, loads, the number drawn last -/
abbrev Tt : Type := (Nat → Int32) × (Nat → Int32) × (Nat → Int32) × (Nat → Int32) × (Nat → Int32) × (Nat → Int32) × Int64
/-- not worn, not halved, no stones, a judge whose suits aren't tried, by chance, the lever behind a vacation -/
abbrev Md : Type := Bool × Bool × Bool × Int32 × Bool × Int32
def T_law (p : Nat → Nat → Int32) (k : Nat) (nm : Nat → Int64) : Option Int64 := ev_law (p 16) (p 17) nm (p 18 k).toNatClampNeg (p 19 k).toNatClampNeg
def T_hard (p : Nat → Nat → Int32) (md : Md) (t : Tt) (s : Nat) : Int32 :=
  if ((t.1 4 >>> (nI s &&& 31)) &&& 1) = 1 ∧ md.2.2.1 = false then p 7 (p 13 s).toNatClampNeg + 30 else p 7 (p 13 s).toNatClampNeg
def T_draw (md : Md) (sd : Int64) : Int64 := if md.2.2.2.2.1 = true then (sd * 1103515245 + 12345) &&& 2147483647 else sd
def T_hd (p : Nat → Nat → Int32) (md : Md) (t : Tt) (s : Nat) : Int32 := T_hard p md t s + (if md.2.2.2.2.1 = true then ck_rem (T_draw md t.2.2.2.2.2.2 / 65536).toInt32 10 else 0)
def T_nm (p : Nat → Nat → Int32) (t : Tt) (j n : Nat) (hd : Int32) : Nat → Int64 := sp_nm (p 3 j) (t.2.1 j) hd (p 9 n) (t.1 6) (t.2.2.2.2.2.1 j) (t.1 5)
def T_nm1 (p : Nat → Nat → Int32) (t : Tt) (j n : Nat) (hd : Int32) : Nat → Int64 := sp_nm (p 3 j) (t.2.1 j) hd (p 9 n) (t.1 6) (t.2.2.2.2.2.1 j + 1) (t.1 5)
def T_fo (p : Nat → Nat → Int32) (md : Md) (t : Tt) (j n : Nat) (hd : Int32) : Int32 := sp_force (T_law p 0 (T_nm p t j n hd)) (p 3 j) (t.1 6) (t.2.1 j) (md.2.1 = true)
def T_sl (p : Nat → Nat → Int32) (t : Tt) (j n : Nat) (hd : Int32) : Int32 := sp_by (T_law p 1 (T_nm p t j n hd)) 1 99 10
def T_v (p : Nat → Nat → Int32) (md : Md) (t : Tt) (j n : Nat) (hd : Int32) : Int32 := sp_verd (T_fo p md t j n hd) (T_sl p t j n hd) hd
def T_out (p : Nat → Nat → Int32) (md : Md) (t : Tt) (s j n : Nat) (hd : Int32) (sd : Int64) : Tt :=
  if T_v p md t j n hd = 0 then
    (if ¬ (hd - T_fo p md t j n hd < 2 * T_sl p t j n hd) ∧ ¬ t.2.1 j ≤ 0 then (upd t.1 7 (t.1 7 + 1), upd t.2.1 j (t.2.1 j - 1), t.2.2.1, t.2.2.2.1, upd t.2.2.2.2.1 s (T_v p md t j n hd), upd t.2.2.2.2.2.1 j (t.2.2.2.2.2.1 j + 1), sd)
     else (t.1, t.2.1, t.2.2.1, t.2.2.2.1, upd t.2.2.2.2.1 s (T_v p md t j n hd), upd t.2.2.2.2.2.1 j (t.2.2.2.2.2.1 j + 1), sd))
  else if md.1 = true then (t.1, t.2.1, t.2.2.1, t.2.2.2.1, upd t.2.2.2.2.1 s (T_v p md t j n hd), upd t.2.2.2.2.2.1 j (t.2.2.2.2.2.1 j + 1), sd)
  else (upd t.1 6 (if 1 ≤ t.1 6 - sp_by (T_law p 2 (T_nm1 p t j n hd)) 0 9 1 then t.1 6 - sp_by (T_law p 2 (T_nm1 p t j n hd)) 0 9 1 else 1), t.2.1, t.2.2.1, t.2.2.2.1, upd t.2.2.2.2.1 s (T_v p md t j n hd), upd t.2.2.2.2.2.1 j (t.2.2.2.2.2.1 j + 1), sd)
def T_try (p : Nat → Nat → Int32) (md : Md) (t : Tt) (s : Nat) : Tt := T_out p md t s (t.2.2.1 s).toNatClampNeg (p 13 s).toNatClampNeg (T_hd p md t s) (T_draw md t.2.2.2.2.2.2)
/-- the class's view -/
def Tv (h : ck_H) (o : Nat) : Tt := (h.1 o, h.1 (o + 1), h.1 (o + 2), h.1 (o + 3), h.1 (o + 4), h.1 76, h.2 74 11)
def mdX (h : ck_H) : Md := (decide (¬ h.1 74 6 = 0), decide (¬ h.1 74 7 = 0), decide (¬ h.1 74 8 = 0), h.1 74 9, decide (¬ h.1 74 10 = 0), h.1 74 5)
/-- what a trial leaves as it was -/
def frT (o : Nat) (h h' : ck_H) : Prop := (∀ a, a ≠ o → a ≠ o + 1 → a ≠ o + 4 → a ≠ 74 → a ≠ 76 → h'.1 a = h.1 a) ∧ (∀ i, i ≠ 3 → i ≠ 4 → h'.1 74 i = h.1 74 i)
theorem tx_hard {Q : Int32 → ck_H → Prop} {o s n : Nat} {h : ck_H} (hs : s < 10) (hn : n < 6) (en : h.1 45 s = nI n) (hq : Q (T_hard (pl h) (mdX h) (Tv h o) s) h) : wp_X10_hardnessOf o (nI s) h Q := by
  have es : (nI s).toNatClampNeg = s := nI_clamp (by omega)
  unfold wp_X10_hardnessOf wp_X1_hasStone
  rw [es, en, nI_clamp (n := n) (by omega)]
  refine ⟨pu_in hs (by decide), pu_in hn (by decide), ?_⟩
  rintro _ rfl
  have e1 : pl h 7 = h.1 39 := rfl
  have e2 : pl h 13 = h.1 45 := rfl
  unfold T_hard at hq
  rw [e1, e2, en, nI_clamp (n := n) (by omega)] at hq
  refine ⟨fun c => ⟨fun _ => ?_, fun z => absurd rfl z⟩, fun c => ⟨fun z => absurd z (by decide), fun _ => ⟨fun c2 => ?_, fun c2 => ?_⟩⟩⟩
  · rw [if_neg (fun z => c z.1)] at hq; exact hq
  · rw [if_neg (fun z => by have z2 : decide (¬ h.1 74 8 = 0) = false := z.2; simp [c2] at z2)] at hq; exact hq
  · rw [if_pos ⟨c, by show decide (¬ h.1 74 8 = 0) = false; simp [c2]⟩] at hq; exact hq
