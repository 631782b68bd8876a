def ev_bad (v : Int64) : Prop := 1000000000000 < v ∨ v < -1000000000000
theorem ev_is {y : Int32} {h : ck_H} {Q : Int64 → ck_H → Prop} (hq : Q (if y = 0 then 0 else 1) h) : wp_X12_is y h Q := by
  unfold wp_X12_is
  refine ⟨fun c => ?_, fun c => ?_⟩
  · rw [if_pos c] at hq; exact hq
  · rw [if_neg c] at hq; exact hq
theorem ev_works407 {h : ck_H} {st : Nat → Int64} {ht : Nat} {v w : Int64} {Q : Int32 → ck_H → Prop} (h2 : 2 ≤ ht) (h64 : ht ≤ 64) (hw : w = v) (hN : ev_bad v → ∀ n st, Q 0 (ck_m2 h n st)) (hS : ¬ ev_bad v → Q 1 (ck_m2 h (nI (ht - 1)) (vp_updL st (ht - 2) v))) : wp_X12_works_407 Q w (ck_m2 h (nI (ht - 1)) st) := by
  subst hw
  unfold wp_X12_works_407
  rw [ck_m2_n, pu_s1 (by omega), show ht - 1 - 1 = ht - 2 by omega]
  refine ⟨pu_in (by omega) (by omega), ?_⟩
  rintro _ rfl
  rw [nI_clamp (by omega), ck_m2_L]
  simp only [lg_cmp_gt, lg_cmp_lt]
  refine ⟨fun c => hN (Or.inl c) _ _, fun c => ⟨fun c2 => hN (Or.inr c2) _ _, fun c2 => hS ?_⟩⟩
  rintro (z | z)
  · exact c z
  · exact c2 z
theorem ev_bad_err : ev_bad ev_err := by unfold ev_bad ev_err; decide
theorem ev_b1 {c : Prop} [Decidable c] (y : Int32) (hy : y = 0 ↔ ¬ c) : (if y = 0 then (0 : Int64) else 1) = ev_b c := by
  unfold ev_b
  by_cases hc : c
  · rw [if_pos hc, if_neg (fun z => (hy.mp z) hc)]
  · rw [if_neg hc, if_pos (hy.mpr hc)]
theorem ev_abs0 (x : Int64) : ev_abs x = 0 ↔ x = 0 := by
  unfold ev_abs
  by_cases h : x < 0
  · rw [if_pos h]
    constructor
    · intro z
      have := congrArg (fun t => -t) z
      simpa using this
    · rintro rfl; exact absurd h (by decide)
  · rw [if_neg h]
theorem ev_works {h : ck_H} {st : Nat → Int64} {ht : Nat} {kd s : Int32} {Q : Int32 → ck_H → Prop} (h2 : 2 ≤ ht) (h64 : ht ≤ 64) (hp : (kd = 7 ∧ s = 43) ∨ (kd = 8 ∧ s = 45) ∨ (kd = 9 ∧ s = 42) ∨ (kd = 10 ∧ s = 47) ∨ (kd = 11 ∧ s = 60) ∨ (kd = 12 ∧ s = 256) ∨ (kd = 13 ∧ s = 61) ∨ (kd = 14 ∧ s = 257) ∨ (kd = 15 ∧ s = 258) ∨ (kd = 16 ∧ s = 62) ∨ (kd = 29 ∧ s = 262) ∨ (kd = 30 ∧ s = 261))
    (hN : ev_bad (ev_pre kd (st (ht - 2)) (st (ht - 1))) → ∀ n st, Q 0 (ck_m2 h n st)) (hS : ¬ ev_bad (ev_pre kd (st (ht - 2)) (st (ht - 1))) → Q 1 (ck_m2 h (nI (ht - 1)) (vp_updL st (ht - 2) (ev_pre kd (st (ht - 2)) (st (ht - 1)))))) : wp_X12_works s (ck_m2 h (nI ht) st) Q := by
  unfold wp_X12_works
  rw [ck_m2_n, pu_s1 (by omega), pu_s2 h2, ck_m2_s, nI_clamp (n := ht - 1) (by omega), nI_clamp (n := ht - 2) (by omega)]
  refine ⟨pu_in (by omega) (by omega), ?_⟩
  rintro _ rfl
  have ns : ¬ s = 260 := by rcases hp with ⟨rfl, rfl⟩ | ⟨rfl, rfl⟩ | ⟨rfl, rfl⟩ | ⟨rfl, rfl⟩ | ⟨rfl, rfl⟩ | ⟨rfl, rfl⟩ | ⟨rfl, rfl⟩ | ⟨rfl, rfl⟩ | ⟨rfl, rfl⟩ | ⟨rfl, rfl⟩ | ⟨rfl, rfl⟩ | ⟨rfl, rfl⟩ <;> decide
  refine ⟨fun _ => ⟨pu_in (by omega) (by omega), ?_⟩, fun c => absurd c ns⟩
  rintro _ rfl _ rfl
  rw [ck_m2_I]
  rcases hp with ⟨rfl, rfl⟩ | ⟨rfl, rfl⟩ | ⟨rfl, rfl⟩ | ⟨rfl, rfl⟩ | ⟨rfl, rfl⟩ | ⟨rfl, rfl⟩ | ⟨rfl, rfl⟩ | ⟨rfl, rfl⟩ | ⟨rfl, rfl⟩ | ⟨rfl, rfl⟩ | ⟨rfl, rfl⟩ | ⟨rfl, rfl⟩
  · refine ⟨fun c => absurd c (by decide), fun _ => ?_⟩
    refine ⟨fun _ => ?_, fun c => absurd rfl c⟩
    rintro _ rfl
    exact ev_works407 h2 h64 rfl hN hS
  · refine ⟨fun c => absurd c (by decide), fun _ => ?_⟩
    refine ⟨fun c => absurd c (by decide), fun _ => ?_⟩
    refine ⟨fun _ => ?_, fun c => absurd rfl c⟩
    rintro _ rfl
    exact ev_works407 h2 h64 rfl hN hS
  · refine ⟨fun _ => ?_, fun c => absurd rfl c⟩
    simp only [lg_cmp_le, lg_cmp_eq, ev_abs2]
    have e0 : ev_abs (st (ht - 2)) = 0 ↔ st (ht - 2) = 0 := ev_abs0 _
    rw [show ev_pre 9 (st (ht - 2)) (st (ht - 1)) = (if ¬ ev_abs (st (ht - 2)) = 0 ∧ (1000000000000 : Int64) / ev_abs (st (ht - 2)) < ev_abs (st (ht - 1)) then ev_err else st (ht - 2) * st (ht - 1)) from rfl] at hN hS
    have ok : ¬ (¬ ev_abs (st (ht - 2)) = 0 ∧ (1000000000000 : Int64) / ev_abs (st (ht - 2)) < ev_abs (st (ht - 1))) → wp_X12_works_212 Q (st (ht - 1)) (st (ht - 2)) (ck_m2 h (nI (ht - 1)) st) := fun c => by
      unfold wp_X12_works_212
      rintro _ rfl
      rw [if_neg c] at hN hS
      exact ev_works407 h2 h64 rfl hN hS
    refine ⟨fun c => ok (fun z => z.1 (e0.mpr c)), fun c => ⟨fun z => c (e0.mp z), fun c2 => ok (fun z => Int64.not_lt.mpr c2 z.2), fun c2 => ?_⟩⟩
    rw [if_pos ⟨fun z => c (e0.mp z), Int64.not_le.mp c2⟩] at hN
    exact hN ev_bad_err _ _
  · refine ⟨fun c => absurd c (by decide), fun _ => ?_⟩
    refine ⟨fun c => absurd c (by decide), fun _ => ?_⟩
    refine ⟨fun c => absurd c (by decide), fun _ => ?_⟩
    refine ⟨fun _ => ?_, fun c => absurd rfl c⟩
    simp only [lg_cmp_eq]
    rw [show ev_pre 10 (st (ht - 2)) (st (ht - 1)) = (if st (ht - 1) = 0 then ev_err else st (ht - 2) / st (ht - 1)) from rfl] at hN hS
    refine ⟨fun c => ⟨c, ?_⟩, fun c => ?_⟩
    · rintro _ rfl
      rw [if_neg c] at hN hS
      exact ev_works407 h2 h64 rfl hN hS
    · rw [if_pos c] at hN
      exact hN ev_bad_err _ _
  · refine ⟨fun c => absurd c (by decide), fun _ => ?_⟩
    refine ⟨fun c => absurd c (by decide), fun _ => ?_⟩
    refine ⟨fun c => absurd c (by decide), fun _ => ?_⟩
    refine ⟨fun c => absurd c (by decide), fun _ => ?_⟩
    refine ⟨fun _ => ?_, fun c => absurd rfl c⟩
    simp only [lg_cmp_ge, lg_cmp_le, lg_cmp_gt, lg_cmp_lt, lg_cmp_eq]
    have key : ∀ y : Int32, (y = 0 ↔ ¬ (st (ht - 2) < st (ht - 1))) → wp_X12_works_250 Q y (ck_m2 h (nI (ht - 1)) st) := fun y hy => by
      unfold wp_X12_works_250
      exact ev_is (ev_works407 h2 h64 (ev_b1 y hy) hN hS)
    refine ⟨fun c => key _ ?_, fun c => key _ ?_⟩
    · simpa using c
    · simpa using c
  · refine ⟨fun c => absurd c (by decide), fun _ => ?_⟩
    refine ⟨fun c => absurd c (by decide), fun _ => ?_⟩
    refine ⟨fun c => absurd c (by decide), fun _ => ?_⟩
    refine ⟨fun c => absurd c (by decide), fun _ => ?_⟩
    refine ⟨fun c => absurd c (by decide), fun _ => ?_⟩
    refine ⟨fun c => absurd c (by decide), fun _ => ?_⟩
    refine ⟨fun c => absurd c (by decide), fun _ => ?_⟩
    refine ⟨fun _ => ?_, fun c => absurd rfl c⟩
    simp only [lg_cmp_ge, lg_cmp_le, lg_cmp_gt, lg_cmp_lt, lg_cmp_eq]
    have key : ∀ y : Int32, (y = 0 ↔ ¬ (st (ht - 2) ≤ st (ht - 1))) → wp_X12_works_310 Q y (ck_m2 h (nI (ht - 1)) st) := fun y hy => by
      unfold wp_X12_works_310
      exact ev_is (ev_works407 h2 h64 (ev_b1 y hy) hN hS)
    refine ⟨fun c => key _ ?_, fun c => key _ ?_⟩
    · simpa using c
    · simpa using c
  · refine ⟨fun c => absurd c (by decide), fun _ => ?_⟩
    refine ⟨fun c => absurd c (by decide), fun _ => ?_⟩
    refine ⟨fun c => absurd c (by decide), fun _ => ?_⟩
    refine ⟨fun c => absurd c (by decide), fun _ => ?_⟩
    refine ⟨fun c => absurd c (by decide), fun _ => ?_⟩
    refine ⟨fun _ => ?_, fun c => absurd rfl c⟩
    simp only [lg_cmp_ge, lg_cmp_le, lg_cmp_gt, lg_cmp_lt, lg_cmp_eq]
    have key : ∀ y : Int32, (y = 0 ↔ ¬ (st (ht - 2) = st (ht - 1))) → wp_X12_works_290 Q y (ck_m2 h (nI (ht - 1)) st) := fun y hy => by
      unfold wp_X12_works_290
      exact ev_is (ev_works407 h2 h64 (ev_b1 y hy) hN hS)
    refine ⟨fun c => key _ ?_, fun c => key _ ?_⟩
    · simpa using c
    · simpa using c
  · refine ⟨fun c => absurd c (by decide), fun _ => ?_⟩
    refine ⟨fun c => absurd c (by decide), fun _ => ?_⟩
    refine ⟨fun c => absurd c (by decide), fun _ => ?_⟩
    refine ⟨fun c => absurd c (by decide), fun _ => ?_⟩
    refine ⟨fun c => absurd c (by decide), fun _ => ?_⟩
    refine ⟨fun c => absurd c (by decide), fun _ => ?_⟩
    refine ⟨fun c => absurd c (by decide), fun _ => ?_⟩
    refine ⟨fun c => absurd c (by decide), fun _ => ?_⟩
    refine ⟨fun _ => ?_, fun c => absurd rfl c⟩
    simp only [lg_cmp_ge, lg_cmp_le, lg_cmp_gt, lg_cmp_lt, lg_cmp_eq]
    have key : ∀ y : Int32, (y = 0 ↔ ¬ (¬ st (ht - 2) = st (ht - 1))) → wp_X12_works_350 Q y (ck_m2 h (nI (ht - 1)) st) := fun y hy => by
      unfold wp_X12_works_350
      exact ev_is (ev_works407 h2 h64 (ev_b1 y hy) hN hS)
    refine ⟨fun c => key _ ?_, fun c => key _ ?_⟩
    · simpa using c
    · simpa using c
  · refine ⟨fun c => absurd c (by decide), fun _ => ?_⟩
    refine ⟨fun c => absurd c (by decide), fun _ => ?_⟩
    refine ⟨fun c => absurd c (by decide), fun _ => ?_⟩
    refine ⟨fun c => absurd c (by decide), fun _ => ?_⟩
    refine ⟨fun c => absurd c (by decide), fun _ => ?_⟩
    refine ⟨fun c => absurd c (by decide), fun _ => ?_⟩
    refine ⟨fun c => absurd c (by decide), fun _ => ?_⟩
    refine ⟨fun c => absurd c (by decide), fun _ => ?_⟩
    refine ⟨fun c => absurd c (by decide), fun _ => ?_⟩
    refine ⟨fun _ => ?_, fun c => absurd rfl c⟩
    simp only [lg_cmp_ge, lg_cmp_le, lg_cmp_gt, lg_cmp_lt, lg_cmp_eq]
    have key : ∀ y : Int32, (y = 0 ↔ ¬ (st (ht - 1) ≤ st (ht - 2))) → wp_X12_works_330 Q y (ck_m2 h (nI (ht - 1)) st) := fun y hy => by
      unfold wp_X12_works_330
      exact ev_is (ev_works407 h2 h64 (ev_b1 y hy) hN hS)
    refine ⟨fun c => key _ ?_, fun c => key _ ?_⟩
    · simpa using c
    · simpa using c
  · refine ⟨fun c => absurd c (by decide), fun _ => ?_⟩
    refine ⟨fun c => absurd c (by decide), fun _ => ?_⟩
    refine ⟨fun c => absurd c (by decide), fun _ => ?_⟩
    refine ⟨fun c => absurd c (by decide), fun _ => ?_⟩
    refine ⟨fun c => absurd c (by decide), fun _ => ?_⟩
    refine ⟨fun c => absurd c (by decide), fun _ => ?_⟩
    refine ⟨fun _ => ?_, fun c => absurd rfl c⟩
    simp only [lg_cmp_ge, lg_cmp_le, lg_cmp_gt, lg_cmp_lt, lg_cmp_eq]
    have key : ∀ y : Int32, (y = 0 ↔ ¬ (st (ht - 1) < st (ht - 2))) → wp_X12_works_270 Q y (ck_m2 h (nI (ht - 1)) st) := fun y hy => by
      unfold wp_X12_works_270
      exact ev_is (ev_works407 h2 h64 (ev_b1 y hy) hN hS)
    refine ⟨fun c => key _ ?_, fun c => key _ ?_⟩
    · simpa using c
    · simpa using c
  · refine ⟨fun c => absurd c (by decide), fun _ => ?_⟩
    refine ⟨fun c => absurd c (by decide), fun _ => ?_⟩
    refine ⟨fun c => absurd c (by decide), fun _ => ?_⟩
    refine ⟨fun c => absurd c (by decide), fun _ => ?_⟩
    refine ⟨fun c => absurd c (by decide), fun _ => ?_⟩
    refine ⟨fun c => absurd c (by decide), fun _ => ?_⟩
    refine ⟨fun c => absurd c (by decide), fun _ => ?_⟩
    refine ⟨fun c => absurd c (by decide), fun _ => ?_⟩
    refine ⟨fun c => absurd c (by decide), fun _ => ?_⟩
    refine ⟨fun c => absurd c (by decide), fun _ => ?_⟩
    refine ⟨fun c => absurd c (by decide), fun _ => ?_⟩
    simp only [lg_cmp_ge, lg_cmp_le, lg_cmp_gt, lg_cmp_lt, lg_cmp_eq]
    have key : ∀ y : Int32, (y = 0 ↔ ¬ (¬ st (ht - 2) = 0 ∨ ¬ st (ht - 1) = 0)) → wp_X12_works_402 Q y (ck_m2 h (nI (ht - 1)) st) := fun y hy => by
      unfold wp_X12_works_402
      exact ev_is (ev_works407 h2 h64 (ev_b1 y hy) hN hS)
    unfold wp_X12_works_397
    refine ⟨fun c => key _ (by simp [c]), fun c => ⟨fun c2 => key _ (by simp [c, c2]), fun c2 => key _ (by simp [c, c2])⟩⟩
  · refine ⟨fun c => absurd c (by decide), fun _ => ?_⟩
    refine ⟨fun c => absurd c (by decide), fun _ => ?_⟩
    refine ⟨fun c => absurd c (by decide), fun _ => ?_⟩
    refine ⟨fun c => absurd c (by decide), fun _ => ?_⟩
    refine ⟨fun c => absurd c (by decide), fun _ => ?_⟩
    refine ⟨fun c => absurd c (by decide), fun _ => ?_⟩
    refine ⟨fun c => absurd c (by decide), fun _ => ?_⟩
    refine ⟨fun c => absurd c (by decide), fun _ => ?_⟩
    refine ⟨fun c => absurd c (by decide), fun _ => ?_⟩
    refine ⟨fun c => absurd c (by decide), fun _ => ?_⟩
    refine ⟨fun _ => ?_, fun c => absurd rfl c⟩
    simp only [lg_cmp_ge, lg_cmp_le, lg_cmp_gt, lg_cmp_lt, lg_cmp_eq]
    have key : ∀ y : Int32, (y = 0 ↔ ¬ (¬ st (ht - 2) = 0 ∧ ¬ st (ht - 1) = 0)) → wp_X12_works_376 Q y (ck_m2 h (nI (ht - 1)) st) := fun y hy => by
      unfold wp_X12_works_376
      exact ev_is (ev_works407 h2 h64 (ev_b1 y hy) hN hS)
    unfold wp_X12_works_375
    refine ⟨fun c => key _ (by simp [c]), fun c => ⟨fun c2 => key _ (by simp [c2]), fun c2 => key _ (by simp [c, c2])⟩⟩
theorem ev_goesL {Q : Int32 → ck_H → Prop} {h : ck_H} {kd nb : Nat → Int32} {nm : Nat → Int64} {k : Nat} (hk : k < 3) (hnr : ev_nr nm (h.2 18)) : ∀ (n r i ht : Nat) (st : Nat → Int64), r < n → i + r ≤ 64 → ev_wf kd r i ht → (∀ j, i ≤ j → j < i + r → ev_kr (kd j) (nb j) (h.1 16 j) (h.1 17 j)) → h.1 15 k = nI (i + r) →
    (ev_run kd nb nm r i ht st = none → ∀ n st, Q 0 (ck_m2 h n st)) → (∀ v, ev_run kd nb nm r i ht st = some v → ∀ (n : Int32) (st : Nat → Int64), st 0 = v → Q 1 (ck_m2 h n st)) → wp_X12_goes_12 Q n (nI k) (nI i) (ck_m2 h (nI ht) st) := by
  intro n
  induction n with
  | zero => intro r i ht st hr; exact absurd hr (Nat.not_lt_zero _)
  | succ n ih =>
    intro r i ht st hr hi hwf hkr hto hN hS
    have ek : (nI k).toNatClampNeg = k := nI_clamp (by omega)
    unfold wp_X12_goes_12
    rw [ek, ck_m2_1 _ _ _ (by decide), ck_m2_1 _ _ _ (by decide), ck_m2_1 _ _ _ (by decide), hto]
    refine ⟨pu_in (by omega) (by omega), ?_⟩
    cases r with
    | zero => exact ⟨fun _ => hS _ rfl _ _ (by have e : ht = 1 := hwf; rfl), fun c => absurd (nI_le (Nat.le_refl _) (by omega)) c⟩
    | succ r =>
      refine ⟨fun c => absurd c (nI_ge (by omega) (by omega)), fun _ => ?_⟩
      have ei : (nI i).toNatClampNeg = i := nI_clamp (by omega)
      rw [ei]
      have hin : vp_in (nI i) 128 := pu_in (by omega) (by omega)
      refine ⟨hin, ?_⟩
      obtain ⟨hht, hw⟩ := hwf
      have hkri := hkr i (Nat.le_refl _) (by omega)
      have go : ∀ (ht' : Nat) (st' : Nat → Int64), ev_wf kd r (i + 1) ht' → ev_run kd nb nm (r + 1) i ht st = ev_run kd nb nm r (i + 1) ht' st' → wp_X12_goes_96 Q (wp_X12_goes_12 Q n) (nI k) (nI i) (ck_m2 h (nI ht') st') := by
        intro ht' st' hw' he
        unfold wp_X12_goes_96
        rintro _ rfl
        rw [nI_1]
        exact ih r (i + 1) ht' st' (by omega) (by omega) hw' (fun j a b => hkr j (by omega) (by omega)) (by rw [show i + 1 + r = i + (r + 1) by omega]; exact hto) (fun hn => hN (he.trans hn)) (fun v hv => hS v (he.trans hv))
      have push : ∀ v : Int64, ev_wf kd r (i + 1) (ht + 1) → ev_run kd nb nm (r + 1) i ht st = ev_run kd nb nm r (i + 1) (ht + 1) (vp_updL st ht v) → wp_X12_goes_85 Q (wp_X12_goes_12 Q n) (nI k) (nI i) ((ck_m2 h (nI ht) st).1 0 34) v (ck_m2 h (nI ht) st) := by
        intro v hw' he
        unfold wp_X12_goes_85
        rw [ck_m2_n]
        refine ⟨pu_in hht (by omega), ?_⟩
        rintro _ rfl
        rw [nI_clamp (by omega), ck_m2_L]
        rintro _ rfl
        rw [ck_m2_n, ck_m2_I, nI_1]
        exact go _ _ hw' he
      rcases hkri with ⟨e, es, ev⟩ | ⟨e, es, ev⟩ | ⟨es, hp⟩ | ⟨es, hp⟩
      · rw [es, ev]
        refine ⟨fun _ => ⟨hin, fun c => absurd rfl c, fun _ => ⟨hin, ?_⟩⟩, fun c => absurd c (by decide)⟩
        rcases hw with ⟨-, hw⟩ | ⟨e9, -⟩ | ⟨e9, -⟩ | ⟨e9, -⟩
        · exact push _ hw (by rw [ev_run, if_pos e])
        · rw [e] at e9; exact absurd e9 (by decide)
        · exact absurd e (ev_sign_lt e9).1
        · rw [e] at e9; exact absurd e9 (by decide)
      · rw [es, ev]
        refine ⟨fun c => absurd rfl c, fun _ => ⟨hin, ?_⟩⟩
        rcases hw with ⟨e9, -⟩ | ⟨-, h1, hw⟩ | ⟨e9, -⟩ | ⟨e9, -⟩
        · rw [e] at e9; exact absurd e9 (by decide)
        · unfold wp_X12_works
          rw [ck_m2_n, pu_s1 h1, ck_m2_s, nI_clamp (n := ht - 1) (by omega)]
          refine ⟨pu_in (by omega) (by omega), ?_⟩
          rintro _ rfl
          refine ⟨fun c => absurd rfl c, fun _ => ?_⟩
          have key : ∀ y : Int32, (y = 0 ↔ ¬ st (ht - 1) = 0) → wp_X12_works_40 (fun r19 h18 => ((¬ r19 = 0 → wp_X12_goes_96 Q (wp_X12_goes_12 Q n) (nI k) (nI i) h18) ∧ (r19 = 0 → Q (0 : Int32) h18))) (nI (ht - 1)) y (ck_m2 h (nI ht) st) := by
            intro y hy
            unfold wp_X12_works_40
            refine ev_is ?_
            rw [ev_b1 y hy]
            refine ⟨pu_in (by omega) (by omega), ?_⟩
            rintro _ rfl
            rw [nI_clamp (by omega), ck_m2_L]
            refine ⟨fun _ => ?_, fun c => absurd c (by decide)⟩
            exact go _ _ hw (by rw [ev_run, if_neg (by rw [e]; decide), if_pos e])
          simp only [lg_cmp_eq]
          exact ⟨fun c => key _ (by simpa using c), fun c => key _ (by simpa using c)⟩
        · exact absurd e (ev_sign_lt e9).2.1
        · rw [e] at e9; exact absurd e9 (by decide)
      · rw [es]
        refine ⟨fun c => absurd rfl c, fun _ => ⟨hin, ?_⟩⟩
        have hsg : ev_sign (kd i) := by
          unfold ev_sign
          rcases hp with ⟨e9, -⟩ | ⟨e9, -⟩ | ⟨e9, -⟩ | ⟨e9, -⟩ | ⟨e9, -⟩ | ⟨e9, -⟩ | ⟨e9, -⟩ | ⟨e9, -⟩ | ⟨e9, -⟩ | ⟨e9, -⟩ | ⟨e9, -⟩ | ⟨e9, -⟩ <;> simp [e9]
        obtain ⟨n2, n31, l32⟩ := ev_sign_lt hsg
        have hs := ev_run_sg (kd := kd) (nb := nb) (nm := nm) (r := r) (i := i) (ht := ht) (st := st) n2 n31 l32
        rcases hw with ⟨e9, -⟩ | ⟨e9, -⟩ | ⟨-, h2, hw⟩ | ⟨e9, -⟩
        · exact absurd e9 n2
        · exact absurd e9 n31
        · refine ev_works h2 (by omega) hp (fun c n st' => ?_) (fun c => ?_)
          · exact ⟨fun z => absurd rfl z, fun _ => hN (by rw [hs]; exact if_pos c) n st'⟩
          · exact ⟨fun _ => go _ _ hw (by rw [hs]; exact if_neg c), fun z => absurd z (by decide)⟩
        · exact absurd l32 (Int32.not_lt.mpr e9)
      · rw [es]
        refine ⟨fun _ => ⟨hin, fun _ => ⟨hin, ?_⟩, fun c => absurd c (by decide)⟩, fun c => absurd c (by decide)⟩
        have hnm : 32 ≤ kd i ∧ nm (kd i - 32).toNatClampNeg = h.2 18 (h.1 17 i).toNatClampNeg ∧ vp_in (h.1 17 i) 7 := by
          obtain ⟨q0, q1, q2, q3, q4, q5, q6⟩ := hnr
          rcases hp with ⟨e9, e8⟩ | ⟨e9, e8⟩ | ⟨e9, e8⟩ | ⟨e9, e8⟩ | ⟨e9, e8⟩ | ⟨e9, e8⟩ | ⟨e9, e8⟩ <;> rw [e9, e8] <;> refine ⟨by decide, ?_, ck_inL (by decide)⟩
          · exact q0
          · exact q1
          · exact q2
          · exact q3
          · exact q4
          · exact q5
          · exact q6
        obtain ⟨g1, g2, g3⟩ := hnm
        have n32 : ¬ kd i < 32 := Int32.not_lt.mpr g1
        have n2 : ¬ kd i = 2 := fun z => by rw [z] at g1; exact absurd g1 (by decide)
        have n31 : ¬ kd i = 31 := fun z => by rw [z] at g1; exact absurd g1 (by decide)
        refine ⟨g3, ?_⟩
        rw [ck_m2_2 _ _ _ (by decide), ← g2]
        rcases hw with ⟨e9, -⟩ | ⟨e9, -⟩ | ⟨e9, -⟩ | ⟨-, -, hw⟩
        · exact absurd e9 n2
        · exact absurd e9 n31
        · exact absurd (ev_sign_lt e9).2.2 n32
        · exact push _ hw (by rw [ev_run, if_neg n2, if_neg n31, if_neg n32])
theorem ck_m2_self (h : ck_H) (n : Int32) : ck_sI h 0 34 n = ck_m2 h n (h.2 19) := by
  unfold ck_m2
  exact (ck_s2_self (ck_sI h 0 34 n) 19).symm
/-- the model's way through a law's knots: whether it goes, and what comes out -/
theorem ev_goes {k a b : Nat} {h : ck_H} {kd nb : Nat → Int32} {nm : Nat → Int64} {Q : Int32 → ck_H → Prop} (hk : k < 3) (hab : a < b) (ha : h.1 14 k = nI a) (hb : h.1 15 k = nI b) (hok : ev_lawOk kd a b) (hkr : ∀ j, a ≤ j → j < b → ev_kr (kd j) (nb j) (h.1 16 j) (h.1 17 j)) (hnr : ev_nr nm (h.2 18))
    (hN : ev_law kd nb nm a b = none → ∀ n st, Q 0 (ck_m2 h n st)) (hS : ∀ v, ev_law kd nb nm a b = some v → ∀ (n : Int32) (st : Nat → Int64), st 0 = v → Q 1 (ck_m2 h n st)) : wp_X12_goes (nI k) h Q := by
  have ek : (nI k).toNatClampNeg = k := nI_clamp (by omega)
  obtain ⟨h1, h2, hwf⟩ := hok
  have hl : ev_law kd nb nm a b = ev_run kd nb nm (b - a) a 0 (h.2 19) := by
    rw [ev_law, if_neg (by omega)]
    exact ev_run_congr _ _ _ _ _ (hwf hab) (fun j hj => absurd hj (Nat.not_lt_zero _))
  unfold wp_X12_goes
  rintro _ rfl
  rw [ek, ck_m2_self]
  refine ⟨pu_in (by omega) (by omega), ?_⟩
  rw [ck_m2_1 _ _ _ (by decide), ha]
  rintro _ rfl
  rw [hl] at hN hS
  exact ev_goesL (kd := kd) (nb := nb) (nm := nm) hk hnr lpN (b - a) a 0 (h.2 19) (by unfold lpN; omega) (by omega) (hwf hab) (fun j x y => hkr j x (by omega)) (by rw [hb]; congr 1; omega) hN hS
