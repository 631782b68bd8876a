theorem ev_name_lt {k : Int32} (h1 : 32 ≤ k) (h2 : k ≤ 38) : (k - 32).toNatClampNeg < 7 := Nat.not_le.mp fun q => ev_name_in h1 h2 (Or.inr q)
theorem ev_run_nm {kd nb : Nat → Int32} {nm nm' : Nat → Int64} (hn : ∀ i, i < 7 → nm i = nm' i) : ∀ (r i ht : Nat) (st : Nat → Int64), ev_wf kd r i ht → ev_run kd nb nm r i ht st = ev_run kd nb nm' r i ht st := by
  intro r
  induction r with
  | zero => intro i ht st hw; rfl
  | succ r ih =>
    intro i ht st hw
    obtain ⟨-, hw⟩ := hw
    rcases hw with ⟨e, hw⟩ | ⟨e, h1, hw⟩ | ⟨e, h2, hw⟩ | ⟨e, e2, hw⟩
    · rw [ev_run, ev_run, if_pos e, if_pos e]
      exact ih _ _ _ hw
    · have n2 : ¬ kd i = 2 := by rw [e]; decide
      rw [ev_run, ev_run, if_neg n2, if_neg n2, if_pos e, if_pos e]
      exact ih _ _ _ hw
    · obtain ⟨n2, n31, l32⟩ := ev_sign_lt e
      rw [ev_run_sg n2 n31 l32, ev_run_sg n2 n31 l32, ih _ _ _ hw]
    · have n32 : ¬ kd i < 32 := Int32.not_lt.mpr e
      have n2 : ¬ kd i = 2 := fun z => by rw [z] at e; exact absurd e (by decide)
      have n31 : ¬ kd i = 31 := fun z => by rw [z] at e; exact absurd e (by decide)
      rw [ev_run, ev_run, if_neg n2, if_neg n2, if_neg n31, if_neg n31, if_neg n32, if_neg n32, hn _ (ev_name_lt e e2)]
      exact ih _ _ _ hw
theorem ev_law_nm {kd nb : Nat → Int32} {nm nm' : Nat → Int64} {a b : Nat} (hok : ev_lawOk kd a b) (hn : ∀ i, i < 7 → nm i = nm' i) : ev_law kd nb nm a b = ev_law kd nb nm' a b := by
  unfold ev_law
  by_cases h : b ≤ a
  · rw [if_pos h, if_pos h]
  · rw [if_neg h, if_neg h]
    exact ev_run_nm hn _ _ _ _ (hok.2.2 (by omega))
theorem ev_run_ne {kd nb : Nat → Int32} {nm : Nat → Int64} (hn : ∀ i, i < 7 → ¬ nm i = ev_err) : ∀ (r i ht : Nat) (st : Nat → Int64), ev_wf kd r i ht → (∀ j, j < ht → ¬ st j = ev_err) → ¬ ev_run kd nb nm r i ht st = some ev_err := by
  intro r
  induction r with
  | zero =>
    intro i ht st hw hs z
    have e : ht = 1 := hw
    rw [ev_run] at z
    exact hs 0 (by omega) (Option.some.inj z)
  | succ r ih =>
    intro i ht st hw hs
    obtain ⟨-, hw⟩ := hw
    have up : ∀ (j : Nat) (v : Int64) (ht' : Nat), ¬ v = ev_err → (∀ k, k < ht' → k ≠ j → k < ht) → ∀ k, k < ht' → ¬ vp_updL st j v k = ev_err := by
      intro j v ht' hv hk k hk'
      unfold vp_updL
      by_cases e : k = j
      · rw [if_pos e]; exact hv
      · rw [if_neg e]; exact hs k (hk k hk' e)
    have i64 : ∀ x : Int32, ¬ x.toInt64 = ev_err := by
      intro x z
      have := congrArg Int64.toInt z
      rw [Int32.toInt_toInt64] at this
      have b1 := Int32.le_toInt x
      have : (ev_err).toInt = -9223372036854775808 := by decide
      omega
    rcases hw with ⟨e, hw⟩ | ⟨e, h1, hw⟩ | ⟨e, h2, hw⟩ | ⟨e, e2, hw⟩
    · rw [ev_run, if_pos e]
      exact ih _ _ _ hw (up _ _ _ (i64 _) (fun k a b => by omega))
    · have n2 : ¬ kd i = 2 := by rw [e]; decide
      rw [ev_run, if_neg n2, if_pos e]
      exact ih _ _ _ hw (up _ _ _ (by unfold ev_b; split <;> decide) (fun k a b => by omega))
    · obtain ⟨n2, n31, l32⟩ := ev_sign_lt e
      rw [ev_run_sg n2 n31 l32]
      split
      · intro z; cases z
      · next c =>
        exact ih _ _ _ hw (up _ _ _ (fun z => c (by rw [z]; exact ev_bad_err)) (fun k a b => by omega))
    · have n32 : ¬ kd i < 32 := Int32.not_lt.mpr e
      have n2 : ¬ kd i = 2 := fun z => by rw [z] at e; exact absurd e (by decide)
      have n31 : ¬ kd i = 31 := fun z => by rw [z] at e; exact absurd e (by decide)
      rw [ev_run, if_neg n2, if_neg n31, if_neg n32]
      exact ih _ _ _ hw (up _ _ _ (hn _ (ev_name_lt e e2)) (fun k a b => by omega))
theorem ev_i64 (x : Int32) : ¬ x.toInt64 = ev_err := by
  intro z
  have := congrArg Int64.toInt z
  rw [Int32.toInt_toInt64] at this
  have b1 := Int32.le_toInt x
  have : (ev_err).toInt = -9223372036854775808 := by decide
  omega
theorem ev_law_ne {kd nb : Nat → Int32} {nm : Nat → Int64} {a b : Nat} (hok : ev_lawOk kd a b) (hn : ∀ i, i < 7 → ¬ nm i = ev_err) : ¬ ev_law kd nb nm a b = some ev_err := by
  unfold ev_law
  by_cases h : b ≤ a
  · rw [if_pos h]; intro z; cases z
  · rw [if_neg h]
    exact ev_run_ne hn _ _ _ _ (hok.2.2 (by omega)) (fun j hj => absurd hj (Nat.not_lt_zero _))
/-- the names of an E -/
def sp_nm (jaw teeth hd bit lev ld day : Int32) : Nat → Int64 := fun i =>
  if i = 0 then jaw.toInt64 else if i = 1 then teeth.toInt64 else if i = 2 then hd.toInt64 else if i = 3 then bit.toInt64 else if i = 4 then lev.toInt64 else if i = 5 then ld.toInt64 else day.toInt64
theorem sp_nm_ne {jaw teeth hd bit lev ld day : Int32} (i : Nat) : ¬ sp_nm jaw teeth hd bit lev ld day i = ev_err := by
  unfold sp_nm
  repeat' split
  all_goals exact ev_i64 _
def sp_clamp (v : Int64) (lo hi : Int32) : Int32 := if v < lo.toInt64 then lo else if hi.toInt64 < v then hi else v.toInt32
theorem sp_within {v : Int64} {lo hi : Int32} {h : ck_H} {Q : Int32 → ck_H → Prop} (hq : Q (sp_clamp v lo hi) h) : wp_X10_within v lo hi h Q := by
  unfold wp_X10_within
  unfold sp_clamp at hq
  simp only [lg_cmp_ge, lg_cmp_le]
  refine ⟨fun c => ⟨fun c2 => ?_, fun c2 => ?_⟩, fun c => ?_⟩
  · rw [if_neg (Int64.not_lt.mpr c), if_neg (Int64.not_lt.mpr c2)] at hq; exact hq
  · rw [if_neg (Int64.not_lt.mpr c), if_pos (Int64.not_le.mp c2)] at hq; exact hq
  · rw [if_pos (Int64.not_le.mp c)] at hq; exact hq
/-- a law's own value, or what holds without it -/
def sp_by (o : Option Int64) (lo hi pl : Int32) : Int32 := match o with
  | none => pl
  | some v => sp_clamp v lo hi
def sp_force (o : Option Int64) (jaw lev teeth : Int32) (uh : Prop) [Decidable uh] : Int32 := if teeth = 0 ∧ ¬ uh then sp_by o 0 999 (jaw * lev / 50) / 2 else sp_by o 0 999 (jaw * lev / 50)
def sp_verd (f sl hd : Int32) : Int32 := if f < hd then 0 else if f - hd < sl then 1 else if f - hd < 2 * sl then 2 else 3
