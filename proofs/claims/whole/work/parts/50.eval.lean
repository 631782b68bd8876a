theorem pu_s1 {n : Nat} (h : 1 ≤ n) : nI n - 1 = nI (n - 1) := pk_sub (b := 1) h
theorem pu_s2 {n : Nat} (h : 2 ≤ n) : nI n - 2 = nI (n - 2) := pk_sub (b := 2) h
theorem pu_m1 {n : Nat} (h : 1 ≤ n) : nI n + (-1) = nI (n - 1) := sb_m1 h
theorem pu_in {n N : Nat} (h : n < N) (hN : N < 2 ^ 31) : vp_in (nI n) N := vp_in_nI h hN
/-- the value of a sign between two values, as the class joins them -/
def ev_abs (x : Int64) : Int64 := if x < 0 then -x else x
def ev_err : Int64 := -9223372036854775808
def ev_b (c : Prop) [Decidable c] : Int64 := if c then 1 else 0
def ev_pre (k : Int32) (x y : Int64) : Int64 :=
  if k = 7 then x + y else if k = 8 then x - y
  else if k = 9 then (if ¬ ev_abs x = 0 ∧ (1000000000000 : Int64) / ev_abs x < ev_abs y then ev_err else x * y)
  else if k = 10 then (if y = 0 then ev_err else x / y)
  else if k = 11 then ev_b (x < y) else if k = 12 then ev_b (x ≤ y) else if k = 13 then ev_b (x = y) else if k = 14 then ev_b (¬ x = y)
  else if k = 15 then ev_b (y ≤ x) else if k = 16 then ev_b (y < x)
  else if k = 29 then ev_b (¬ x = 0 ∨ ¬ y = 0) else if k = 30 then ev_b (¬ x = 0 ∧ ¬ y = 0) else ev_err
theorem ev_product {x y : Int64} {h : ck_H} {Q : Int64 → ck_H → Prop} (hq : Q (if ¬ ev_abs x = 0 ∧ (1000000000000 : Int64) / ev_abs x < ev_abs y then ev_err else x * y) h) : wp_X4_product x y h Q := by
  unfold wp_X4_product wp_X4_product_12 wp_X4_product_26
  simp only [lg_cmp_ge, lg_cmp_le, lg_cmp_eq, Int64.not_le]
  have key : ∀ (a b : Int64), ev_abs x = a → ev_abs y = b → ((a = 0 → Q (x * y) h) ∧ (¬ a = 0 → ¬ a = 0 ∧ ((b ≤ 1000000000000 / a → Q (x * y) h) ∧ (1000000000000 / a < b → Q (-9223372036854775808) h)))) := by
    intro a b ha hb
    rw [ha, hb] at hq
    refine ⟨fun e => ?_, fun e => ⟨e, fun c => ?_, fun c => ?_⟩⟩
    · rw [if_neg (by simp [e])] at hq
      exact hq
    · rw [if_neg (by rintro ⟨-, z⟩; exact Int64.not_lt.mpr c z)] at hq
      exact hq
    · rw [if_pos ⟨e, c⟩] at hq
      exact hq
  refine ⟨fun c1 => ⟨fun c2 => ?_, fun c2 => ?_⟩, fun c1 => ⟨fun c2 => ?_, fun c2 => ?_⟩⟩
  · exact key x y (by simp [ev_abs, Int64.not_lt.mpr c1]) (by simp [ev_abs, Int64.not_lt.mpr c2])
  · exact key x (-y) (by simp [ev_abs, Int64.not_lt.mpr c1]) (by simp [ev_abs, c2])
  · exact key (-x) y (by simp [ev_abs, c1]) (by simp [ev_abs, Int64.not_lt.mpr c2])
  · exact key (-x) (-y) (by simp [ev_abs, c1]) (by simp [ev_abs, c2])
theorem ev_bq {c d : Prop} [Decidable c] {Q : Int64 → ck_H → Prop} {h : ck_H} (hd : d ↔ ¬ c) (hq : Q (ev_b c) h) : (d → Q 0 h) ∧ (¬ d → Q 1 h) := by
  unfold ev_b at hq
  by_cases hc : c
  · rw [if_pos hc] at hq
    exact ⟨fun z => absurd hc (hd.mp z), fun _ => hq⟩
  · rw [if_neg hc] at hq
    exact ⟨fun _ => hq, fun z => absurd (hd.mpr hc) z⟩
theorem ev_bq' {c d : Prop} [Decidable c] {Q : Int64 → ck_H → Prop} {h : ck_H} (hd : d ↔ c) (hq : Q (ev_b c) h) : (¬ d → Q 0 h) ∧ (d → Q 1 h) := by
  unfold ev_b at hq
  by_cases hc : c
  · rw [if_pos hc] at hq
    exact ⟨fun z => absurd (hd.mpr hc) z, fun _ => hq⟩
  · rw [if_neg hc] at hq
    exact ⟨fun _ => hq, fun z => absurd (hd.mp z) hc⟩
theorem ev_joined {k : Int32} {x y : Int64} {h : ck_H} {Q : Int64 → ck_H → Prop} (hq : Q (ev_pre k x y) h) : wp_X4_joined k x y h Q := by
  unfold wp_X4_joined wp_X4_joined_244
  refine ⟨fun e => ?_, fun e7 => ?_⟩
  · subst e
    change Q (ev_pre 7 x y) h at hq
    rw [show ev_pre 7 x y = x + y from rfl] at hq
    exact hq
  refine ⟨fun e => ?_, fun e8 => ?_⟩
  · subst e
    change Q (ev_pre 8 x y) h at hq
    rw [show ev_pre 8 x y = x - y from rfl] at hq
    exact hq
  refine ⟨fun e => ?_, fun e9 => ?_⟩
  · subst e
    change Q (ev_pre 9 x y) h at hq
    rw [show ev_pre 9 x y = (if ¬ ev_abs x = 0 ∧ (1000000000000 : Int64) / ev_abs x < ev_abs y then ev_err else x * y) from rfl] at hq
    exact ev_product hq
  refine ⟨fun e => ?_, fun e10 => ?_⟩
  · subst e
    change Q (ev_pre 10 x y) h at hq
    rw [show ev_pre 10 x y = (if y = 0 then ev_err else x / y) from rfl] at hq
    refine ⟨fun c => ?_, fun c => ?_⟩
    · have c := fun z => c ((lg_cmp_eq _ _).mpr z)
      rw [if_neg c] at hq
      exact ⟨c, hq⟩
    · rw [if_pos ((lg_cmp_eq _ _).mp c)] at hq
      exact hq
  refine ⟨fun e => ?_, fun e11 => ?_⟩
  · subst e
    change Q (ev_pre 11 x y) h at hq
    rw [show ev_pre 11 x y = ev_b (x < y) from rfl] at hq
    exact ev_bq ((lg_cmp_ge _ _).trans Int64.not_lt.symm) hq
  refine ⟨fun e => ?_, fun e12 => ?_⟩
  · subst e
    change Q (ev_pre 12 x y) h at hq
    rw [show ev_pre 12 x y = ev_b (x ≤ y) from rfl] at hq
    exact ev_bq ((lg_cmp_gt _ _).trans Int64.not_le.symm) hq
  refine ⟨fun e => ?_, fun e13 => ?_⟩
  · subst e
    change Q (ev_pre 13 x y) h at hq
    rw [show ev_pre 13 x y = ev_b (x = y) from rfl] at hq
    exact ev_bq' (lg_cmp_eq _ _) hq
  refine ⟨fun e => ?_, fun e14 => ?_⟩
  · subst e
    change Q (ev_pre 14 x y) h at hq
    rw [show ev_pre 14 x y = ev_b (¬ x = y) from rfl] at hq
    exact ev_bq ((lg_cmp_eq _ _).trans Decidable.not_not.symm) hq
  refine ⟨fun e => ?_, fun e15 => ?_⟩
  · subst e
    change Q (ev_pre 15 x y) h at hq
    rw [show ev_pre 15 x y = ev_b (y ≤ x) from rfl] at hq
    exact ev_bq ((lg_cmp_lt _ _).trans Int64.not_le.symm) hq
  refine ⟨fun e => ?_, fun e16 => ?_⟩
  · subst e
    change Q (ev_pre 16 x y) h at hq
    rw [show ev_pre 16 x y = ev_b (y < x) from rfl] at hq
    exact ev_bq ((lg_cmp_le _ _).trans Int64.not_lt.symm) hq
  refine ⟨fun e => ?_, fun e17 => ?_⟩
  · subst e
    exact hq
  refine ⟨fun e => ?_, fun e18 => ?_⟩
  · subst e
    exact hq
  refine ⟨fun e => ?_, fun e19 => ?_⟩
  · subst e
    exact hq
  refine ⟨fun e => ?_, fun e20 => ?_⟩
  · subst e
    exact hq
  refine ⟨fun e => ?_, fun e21 => ?_⟩
  · subst e
    exact hq
  refine ⟨fun e => ?_, fun e22 => ?_⟩
  · subst e
    exact hq
  refine ⟨fun e => ?_, fun e23 => ?_⟩
  · subst e
    exact hq
  refine ⟨fun e => ?_, fun e24 => ?_⟩
  · subst e
    exact hq
  refine ⟨fun e => ?_, fun e25 => ?_⟩
  · subst e
    exact hq
  refine ⟨fun e => ?_, fun e26 => ?_⟩
  · subst e
    exact hq
  refine ⟨fun e => ?_, fun e27 => ?_⟩
  · subst e
    exact hq
  refine ⟨fun e => ?_, fun e28 => ?_⟩
  · subst e
    exact hq
  refine ⟨fun e => ?_, fun e29 => ?_⟩
  · subst e
    rw [show ev_pre 29 x y = ev_b (¬ x = 0 ∨ ¬ y = 0) from rfl] at hq
    simp only [lg_cmp_eq]
    by_cases c1 : x = 0 <;> by_cases c2 : y = 0 <;> simp [ev_b, c1, c2] at hq ⊢ <;> exact hq
  refine ⟨fun e => ?_, fun e30 => ?_⟩
  · subst e
    rw [show ev_pre 30 x y = ev_b (¬ x = 0 ∧ ¬ y = 0) from rfl] at hq
    simp only [lg_cmp_eq]
    by_cases c1 : x = 0 <;> by_cases c2 : y = 0 <;> simp [ev_b, c1, c2] at hq ⊢ <;> exact hq
  have hq : Q ev_err h := by simpa [ev_pre, e7, e8, e9, e10, e11, e12, e13, e14, e15, e16, e29, e30] using hq
  exact hq
/-- the row of longs at a cell -/
def ck_s2 (h : ck_H) (k : Nat) (f : Nat → Int64) : ck_H := (h.1, fun a => if a = k then f else h.2 a)
theorem ck_s2_self (h : ck_H) (k : Nat) : ck_s2 h k (h.2 k) = h := by
  unfold ck_s2
  refine Prod.ext rfl ?_
  funext a
  by_cases e : a = k
  · subst e; simp
  · simp [e]
theorem ck_s2_L (h : ck_H) (k j : Nat) (v : Int64) (f : Nat → Int64) : ck_s2 (ck_sL h k j v) k f = ck_s2 h k f := by
  unfold ck_s2 ck_sL
  refine Prod.ext rfl ?_
  funext a
  by_cases e : a = k
  · simp [e]
  · simp [e]
theorem ck_sL_at (h : ck_H) (k j : Nat) (v : Int64) : (ck_sL h k j v).2 k = vp_updL (h.2 k) j v := by simp [ck_sL]
theorem ck_sL_ne (h : ck_H) {k a : Nat} (j : Nat) (v : Int64) (e : a ≠ k) : (ck_sL h k j v).2 a = h.2 a := by simp [ck_sL, e]
/-- the knots of a law, worked through -/
def ev_run (kd nb : Nat → Int32) (nm : Nat → Int64) : Nat → Nat → Nat → (Nat → Int64) → Option Int64
  | 0, _, _, st => some (st 0)
  | r + 1, i, ht, st =>
    if kd i = 2 then ev_run kd nb nm r (i + 1) (ht + 1) (vp_updL st ht (nb i).toInt64)
    else if kd i = 31 then ev_run kd nb nm r (i + 1) ht (vp_updL st (ht - 1) (ev_b (st (ht - 1) = 0)))
    else if kd i < 32 then
      (if 1000000000000 < ev_pre (kd i) (st (ht - 2)) (st (ht - 1)) ∨ ev_pre (kd i) (st (ht - 2)) (st (ht - 1)) < -1000000000000 then none
       else ev_run kd nb nm r (i + 1) (ht - 1) (vp_updL st (ht - 2) (ev_pre (kd i) (st (ht - 2)) (st (ht - 1)))))
    else ev_run kd nb nm r (i + 1) (ht + 1) (vp_updL st ht (nm (kd i - 32).toNatClampNeg))
def ev_sign (k : Int32) : Prop := k = 7 ∨ k = 8 ∨ k = 9 ∨ k = 10 ∨ k = 11 ∨ k = 12 ∨ k = 13 ∨ k = 14 ∨ k = 15 ∨ k = 16 ∨ k = 29 ∨ k = 30
def ev_wf (kd : Nat → Int32) : Nat → Nat → Nat → Prop
  | 0, _, ht => ht = 1
  | r + 1, i, ht => ht < 64 ∧ ((kd i = 2 ∧ ev_wf kd r (i + 1) (ht + 1)) ∨ (kd i = 31 ∧ 1 ≤ ht ∧ ev_wf kd r (i + 1) ht) ∨ (ev_sign (kd i) ∧ 2 ≤ ht ∧ ev_wf kd r (i + 1) (ht - 1)) ∨ (32 ≤ kd i ∧ kd i ≤ 38 ∧ ev_wf kd r (i + 1) (ht + 1)))
theorem ev_sign_lt {k : Int32} (h : ev_sign k) : ¬ k = 2 ∧ ¬ k = 31 ∧ k < 32 := by
  rcases h with rfl | rfl | rfl | rfl | rfl | rfl | rfl | rfl | rfl | rfl | rfl | rfl <;> decide
theorem ev_sides {k : Int32} {h : ck_H} {Q : Int32 → ck_H → Prop} (hq : Q (if k = 2 ∨ ¬ k < 32 then 0 else if k = 31 then 1 else 2) h) : wp_X4_sidesOf k h Q := by
  unfold wp_X4_sidesOf wp_X4_sidesOf_11
  refine ⟨fun c1 => ?_, fun c1 => ⟨fun c2 => ⟨fun c3 => ?_, fun c3 => ?_⟩, fun c2 => ?_⟩⟩
  · rw [if_pos (Or.inl c1)] at hq; exact hq
  · rw [if_neg (by rintro (z | z); exact c1 z; exact z c2), if_neg c3] at hq; exact hq
  · rw [if_neg (by rintro (z | z); exact c1 z; exact z c2), if_pos c3] at hq; exact hq
  · rw [if_pos (Or.inr c2)] at hq; exact hq
theorem ev_run_sg {kd nb : Nat → Int32} {nm : Nat → Int64} {r i ht : Nat} {st : Nat → Int64} (n2 : ¬ kd i = 2) (n31 : ¬ kd i = 31) (l32 : kd i < 32) : ev_run kd nb nm (r + 1) i ht st = (if 1000000000000 < ev_pre (kd i) (st (ht - 2)) (st (ht - 1)) ∨ ev_pre (kd i) (st (ht - 2)) (st (ht - 1)) < -1000000000000 then none
       else ev_run kd nb nm r (i + 1) (ht - 1) (vp_updL st (ht - 2) (ev_pre (kd i) (st (ht - 2)) (st (ht - 1))))) := by
  rw [ev_run, if_neg n2, if_neg n31, if_pos l32]
theorem ev_name_in {k : Int32} (h1 : 32 ≤ k) (h2 : k ≤ 38) : vp_in (k - 32) 7 := by
  rw [Int32.le_iff_toInt_le] at h1 h2
  have e1 : (32 : Int32).toInt = 32 := by decide
  have e2 : (38 : Int32).toInt = 38 := by decide
  have e3 : (k - 32).toInt = k.toInt - 32 := by
    rw [Int32.toInt_sub]
    have : (32 : Int32).toInt = 32 := by decide
    rw [this]
    apply Int.bmod_eq_of_le <;> omega
  rw [vp_in_iff, e3]
  omega
theorem ev_workedL {Q : Int64 → ck_H → Prop} {K : Int32 → ck_H → Prop} {k : Nat} (hk : k < 3) : ∀ (n r i ht : Nat) (h : ck_H), r < n → i + r ≤ 64 → ev_wf (h.1 48) r i ht → h.1 51 k = nI (i + r) →
    (ev_run (h.1 48) (h.1 49) (h.2 75) r i ht (h.2 52) = none → ∀ st, Q ev_err (ck_s2 h 52 st)) → (∀ v, ev_run (h.1 48) (h.1 49) (h.2 75) r i ht (h.2 52) = some v → ∀ st : Nat → Int64, st 0 = v → K 1 (ck_s2 h 52 st)) → wp_X4_worked_10 Q K n (nI k) (nI ht) (nI i) h := by
  intro n
  induction n with
  | zero => intro r i ht h hr; exact absurd hr (Nat.not_lt_zero _)
  | succ n ih =>
    intro r i ht h hr hi hwf hto hN hS
    have ek : (nI k).toNatClampNeg = k := nI_clamp (by omega)
    unfold wp_X4_worked_10
    rw [ek, hto]
    refine ⟨pu_in hk (by omega), ?_⟩
    cases r with
    | zero =>
      refine ⟨fun _ => ?_, fun c => absurd (nI_le (Nat.le_refl _) (by omega)) c⟩
      have e1 : ht = 1 := hwf
      subst e1
      have := hS _ rfl (h.2 52) rfl
      rw [ck_s2_self] at this
      exact this
    | succ r =>
      refine ⟨fun c => absurd c (nI_ge (by omega) (by omega)), fun _ => ?_⟩
      have ei : (nI i).toNatClampNeg = i := nI_clamp (by omega)
      rw [ei]
      refine ⟨pu_in (by omega) (by omega), ?_⟩
      rintro _ rfl
      obtain ⟨hht, hw⟩ := hwf
      have eht : (nI ht).toNatClampNeg = ht := nI_clamp (by omega)
      have go : ∀ (ht' j : Nat) (v : Int64), ev_wf (h.1 48) r (i + 1) ht' → ev_run (h.1 48) (h.1 49) (h.2 75) (r + 1) i ht (h.2 52) = ev_run (h.1 48) (h.1 49) (h.2 75) r (i + 1) ht' (vp_updL (h.2 52) j v) → wp_X4_worked_187 Q K (wp_X4_worked_10 Q K n) (nI k) (nI ht') (nI i) (ck_sL h 52 j v) := by
        intro ht' j v hw' he
        unfold wp_X4_worked_187
        rintro _ rfl
        rw [nI_1]
        refine ih r (i + 1) ht' _ (by omega) (by omega) hw' (by rw [show i + 1 + r = i + (r + 1) by omega]; exact hto) (fun hn st => ?_) (fun v' hv st hst => ?_)
        · rw [ck_s2_L]
          rw [ck_sL_at, ck_sL_ne h j v (by decide)] at hn
          exact hN (he.trans hn) st
        · rw [ck_s2_L]
          rw [ck_sL_at, ck_sL_ne h j v (by decide)] at hv
          exact hS v' (he.trans hv) st hst
      refine ev_sides ?_
      rcases hw with ⟨e, hw⟩ | ⟨e, h1, hw⟩ | ⟨e, h2, hw⟩ | ⟨e, e2, hw⟩
      · rw [e, if_pos (Or.inl rfl)]
        refine ⟨fun _ => ⟨fun c => absurd rfl c, fun _ => ⟨pu_in (by omega) (by omega), pu_in hht (by omega), ?_⟩⟩, fun c => absurd (nI_pos' (by omega)) c⟩
        rintro _ rfl _ rfl
        rw [eht, nI_1]
        exact go (ht + 1) ht _ hw (by rw [ev_run, if_pos e])
      · rw [e]
        refine ⟨fun _ => ⟨fun _ => ⟨fun _ => ⟨fun c => absurd rfl c, fun _ => ?_⟩, fun c => absurd (by decide) c⟩, fun c => absurd c (by decide)⟩, fun c => absurd (nI_le (a := 1) h1 (by omega)) c⟩
        rw [pu_s1 h1]
        have ep : (nI (ht - 1)).toNatClampNeg = ht - 1 := nI_clamp (by omega)
        rw [ep]
        refine ⟨pu_in (by omega) (by omega), ?_⟩
        have st : ∀ v, v = ev_b (h.2 52 (ht - 1) = 0) → wp_X4_worked_127 Q K (wp_X4_worked_10 Q K n) (nI k) (nI ht) (nI i) (nI (ht - 1)) v h := by
          rintro _ rfl
          unfold wp_X4_worked_127
          refine ⟨pu_in (by omega) (by omega), ?_⟩
          rintro _ rfl
          rw [ep]
          exact go ht (ht - 1) _ hw (by rw [ev_run, if_neg (by rw [e]; decide), if_pos e])
        refine ⟨fun c => st _ ?_, fun c => st _ ?_⟩
        · rw [ev_b, if_neg (fun z => c ((lg_cmp_eq _ _).mpr z))]
        · rw [ev_b, if_pos ((lg_cmp_eq _ _).mp c)]
      · obtain ⟨n2, n31, l32⟩ := ev_sign_lt e
        rw [if_neg (by rintro (z | z); exact n2 z; exact z l32), if_neg n31]
        refine ⟨fun _ => ⟨fun _ => ⟨fun _ => ⟨fun _ => ?_, fun c => absurd c n31⟩, fun c => absurd l32 c⟩, fun c => absurd c n2⟩, fun c => absurd (nI_le (a := 2) h2 (by omega)) c⟩
        rintro _ rfl
        rw [pu_m1 (by omega), pu_s1 (by omega), show ht - 1 - 1 = ht - 2 by omega]
        have ep : (nI (ht - 1)).toNatClampNeg = ht - 1 := nI_clamp (by omega)
        have eq2 : (nI (ht - 2)).toNatClampNeg = ht - 2 := nI_clamp (by omega)
        rw [ep, eq2]
        refine ⟨pu_in (by omega) (by omega), pu_in (by omega) (by omega), ?_⟩
        refine ev_joined ?_
        have hs := ev_run_sg (kd := h.1 48) (nb := h.1 49) (nm := h.2 75) (r := r) (i := i) (ht := ht) (st := h.2 52) n2 n31 l32
        refine ⟨fun c => ?_, fun c => ⟨fun c2 => ⟨pu_in (by omega) (by omega), ?_⟩, fun c2 => ?_⟩⟩
        · rw [lg_cmp_gt] at c
          have := hN (by rw [hs, if_pos (Or.inl c)]) (h.2 52)
          rw [ck_s2_self] at this
          exact this
        · rw [lg_cmp_gt] at c
          rw [lg_cmp_ge] at c2
          rintro _ rfl
          exact go (ht - 1) (ht - 2) _ hw (by rw [hs, if_neg (by rintro (z | z); exact c z; exact Int64.not_lt.mpr c2 z)])
        · rw [lg_cmp_ge, Int64.not_le] at c2
          have := hN (by rw [hs, if_pos (Or.inr c2)]) (h.2 52)
          rw [ck_s2_self] at this
          exact this
      · have n32 : ¬ h.1 48 i < 32 := Int32.not_lt.mpr e
        have n2 : ¬ h.1 48 i = 2 := fun z => by rw [z] at e; exact absurd e (by decide)
        have n31 : ¬ h.1 48 i = 31 := fun z => by rw [z] at e; exact absurd e (by decide)
        rw [if_pos (Or.inr n32)]
        refine ⟨fun _ => ⟨fun _ => ⟨fun c => absurd c n32, fun _ => ⟨?_, pu_in hht (by omega), ?_⟩⟩, fun c => absurd c n2⟩, fun c => absurd (nI_pos' (by omega)) c⟩
        · exact ev_name_in e e2
        · rintro _ rfl _ rfl
          rw [eht, nI_1]
          exact go (ht + 1) ht _ hw (by rw [ev_run, if_neg n2, if_neg n31, if_neg n32])
/-- a law of the class, worked out: an ERROR where there is none -/
def ev_law (kd nb : Nat → Int32) (nm : Nat → Int64) (a b : Nat) : Option Int64 := if b ≤ a then none else ev_run kd nb nm (b - a) a 0 (fun _ => 0)
theorem ev_run_congr {kd nb : Nat → Int32} {nm : Nat → Int64} : ∀ (r i ht : Nat) (st st' : Nat → Int64), ev_wf kd r i ht → (∀ j, j < ht → st j = st' j) → ev_run kd nb nm r i ht st = ev_run kd nb nm r i ht st' := by
  intro r
  induction r with
  | zero =>
    intro i ht st st' hw hs
    have e : ht = 1 := hw
    rw [ev_run, ev_run, hs 0 (by omega)]
  | succ r ih =>
    intro i ht st st' hw hs
    obtain ⟨-, hw⟩ := hw
    have up : ∀ (j : Nat) (v : Int64) (ht' : Nat), (∀ k, k < ht' → k ≠ j → k < ht) → ∀ k, k < ht' → vp_updL st j v k = vp_updL st' j v k := by
      intro j v ht' hk k hk'
      unfold vp_updL
      by_cases e : k = j
      · simp [e]
      · simp [e, hs k (hk k hk' e)]
    rcases hw with ⟨e, hw⟩ | ⟨e, h1, hw⟩ | ⟨e, h2, hw⟩ | ⟨e, e2, hw⟩
    · rw [ev_run, ev_run, if_pos e, if_pos e]
      exact ih _ _ _ _ hw (up _ _ _ (fun k a b => by omega))
    · have n2 : ¬ kd i = 2 := by rw [e]; decide
      rw [ev_run, ev_run, if_neg n2, if_neg n2, if_pos e, if_pos e, hs (ht - 1) (by omega)]
      exact ih _ _ _ _ hw (up _ _ _ (fun k a b => by omega))
    · obtain ⟨n2, n31, l32⟩ := ev_sign_lt e
      rw [ev_run, ev_run, if_neg n2, if_neg n2, if_neg n31, if_neg n31, if_pos l32, if_pos l32, hs (ht - 1) (by omega), hs (ht - 2) (by omega)]
      rw [ih _ _ _ (vp_updL st' (ht - 2) (ev_pre (kd i) (st' (ht - 2)) (st' (ht - 1)))) hw (up _ _ _ (fun k a b => by omega))]
    · have n32 : ¬ kd i < 32 := Int32.not_lt.mpr e
      have n2 : ¬ kd i = 2 := fun z => by rw [z] at e; exact absurd e (by decide)
      have n31 : ¬ kd i = 31 := fun z => by rw [z] at e; exact absurd e (by decide)
      rw [ev_run, ev_run, if_neg n2, if_neg n2, if_neg n31, if_neg n31, if_neg n32, if_neg n32]
      exact ih _ _ _ _ hw (up _ _ _ (fun k a b => by omega))
def ev_lawOk (kd : Nat → Int32) (a b : Nat) : Prop := a ≤ b ∧ b ≤ 64 ∧ (a < b → ev_wf kd (b - a) a 0)
theorem ev_worked {k a b : Nat} {h : ck_H} {Q : Int64 → ck_H → Prop} (hk : k < 3) (ha : h.1 50 k = nI a) (hb : h.1 51 k = nI b) (hok : ev_lawOk (h.1 48) a b) (hq : ∀ st, Q ((ev_law (h.1 48) (h.1 49) (h.2 75) a b).getD ev_err) (ck_s2 h 52 st)) : wp_X4_worked (nI k) h Q := by
  have ek : (nI k).toNatClampNeg = k := nI_clamp (by omega)
  obtain ⟨h1, h2, hwf⟩ := hok
  unfold wp_X4_worked
  rw [ek, ha]
  refine ⟨pu_in hk (by omega), ?_⟩
  rintro _ rfl
  by_cases hab : a < b
  · have hl : ev_law (h.1 48) (h.1 49) (h.2 75) a b = ev_run (h.1 48) (h.1 49) (h.2 75) (b - a) a 0 (h.2 52) := by
      rw [ev_law, if_neg (by omega)]
      exact ev_run_congr _ _ _ _ _ (hwf hab) (fun j hj => absurd hj (Nat.not_lt_zero _))
    refine ev_workedL hk lpN (b - a) a 0 h (by unfold lpN; omega) (by omega) (hwf hab) (by rw [hb]; congr 1; omega) (fun hn st => ?_) (fun v hv st hst => ?_)
    · have := hq st
      rw [hl, hn] at this
      exact this
    · refine ⟨fun c => absurd rfl c, fun _ => ?_⟩
      have := hq st
      rw [hl, hv] at this
      show Q ((ck_s2 h 52 st).2 52 0) _
      rw [show (ck_s2 h 52 st).2 52 = st by simp [ck_s2], hst]
      exact this
  · have e : a = b := by omega
    subst e
    show wp_X4_worked_10 Q _ (3999 + 1) _ _ _ _
    unfold wp_X4_worked_10
    rw [ek, hb]
    refine ⟨pu_in hk (by omega), fun _ => ⟨fun _ => ?_, fun c => absurd c (by decide)⟩, fun c => absurd (nI_le (Nat.le_refl _) (by omega)) c⟩
    have := hq (h.2 52)
    rw [ck_s2_self, ev_law, if_pos (Nat.le_refl _)] at this
    exact this
/-! the model's side -/
def ck_m2 (h : ck_H) (n : Int32) (st : Nat → Int64) : ck_H := ck_s2 (ck_sI h 0 34 n) 19 st
theorem ck_m2_n (h : ck_H) (n : Int32) (st : Nat → Int64) : (ck_m2 h n st).1 0 34 = n := by simp [ck_m2, ck_s2, ck_sI, upd]
theorem ck_m2_1 (h : ck_H) (n : Int32) (st : Nat → Int64) {a : Nat} (e : a ≠ 0) : (ck_m2 h n st).1 a = h.1 a := by simp [ck_m2, ck_s2, ck_sI, e]
theorem ck_m2_s (h : ck_H) (n : Int32) (st : Nat → Int64) : (ck_m2 h n st).2 19 = st := by simp [ck_m2, ck_s2]
theorem ck_m2_2 (h : ck_H) (n : Int32) (st : Nat → Int64) {a : Nat} (e : a ≠ 19) : (ck_m2 h n st).2 a = h.2 a := by simp [ck_m2, ck_s2, ck_sI, e]
theorem ck_m2_I (h : ck_H) (n n' : Int32) (st : Nat → Int64) : ck_sI (ck_m2 h n st) 0 34 n' = ck_m2 h n' st := by
  unfold ck_m2 ck_s2 ck_sI
  refine Prod.ext ?_ rfl
  funext a
  by_cases e : a = 0
  · subst e
    funext j
    by_cases ej : j = 34 <;> simp [upd, ej]
  · simp [e]
theorem ck_m2_L (h : ck_H) (n : Int32) (st : Nat → Int64) (j : Nat) (v : Int64) : ck_sL (ck_m2 h n st) 19 j v = ck_m2 h n (vp_updL st j v) := by
  unfold ck_m2 ck_s2 ck_sL
  refine Prod.ext rfl ?_
  funext a
  by_cases e : a = 19 <;> simp [e]
/-- a knot of the class and one of the model -/
def ev_kr (kd nb s v : Int32) : Prop :=
  (kd = 2 ∧ s = 0 ∧ v = nb) ∨ (kd = 31 ∧ s = 2 ∧ v = 260) ∨
  (s = 2 ∧ ((kd = 7 ∧ v = 43) ∨ (kd = 8 ∧ v = 45) ∨ (kd = 9 ∧ v = 42) ∨ (kd = 10 ∧ v = 47) ∨ (kd = 11 ∧ v = 60) ∨ (kd = 12 ∧ v = 256) ∨ (kd = 13 ∧ v = 61) ∨ (kd = 14 ∧ v = 257) ∨ (kd = 15 ∧ v = 258) ∨ (kd = 16 ∧ v = 62) ∨ (kd = 29 ∧ v = 262) ∨ (kd = 30 ∧ v = 261))) ∨
  (s = 1 ∧ ((kd = 32 ∧ v = 0) ∨ (kd = 33 ∧ v = 1) ∨ (kd = 34 ∧ v = 2) ∨ (kd = 35 ∧ v = 3) ∨ (kd = 36 ∧ v = 6) ∨ (kd = 37 ∧ v = 4) ∨ (kd = 38 ∧ v = 5)))
def ev_nr (nm f : Nat → Int64) : Prop := nm 0 = f 0 ∧ nm 1 = f 1 ∧ nm 2 = f 2 ∧ nm 3 = f 3 ∧ nm 4 = f 6 ∧ nm 5 = f 4 ∧ nm 6 = f 5
theorem ev_abs2 (x : Int64) : (if 0 < x then x else -x) = ev_abs x := by
  unfold ev_abs
  by_cases h : x < 0
  · rw [if_pos h, if_neg (fun z => Int64.lt_irrefl (Int64.lt_trans h z))]
  · rw [if_neg h]
    by_cases h0 : 0 < x
    · rw [if_pos h0]
    · have e : x = 0 := Int64.le_antisymm (Int64.not_lt.mp h0) (Int64.not_lt.mp h)
      subst e
      decide
