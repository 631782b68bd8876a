theorem T_skip {J S v : Nat} {p : Nat → Nat → Int32} {md : Md} (hJ : J ≤ 4) (hp : ∀ j, j < J → rg (p 4 j) 9) (hl : ∃ a, 1 ≤ a ∧ a ≤ 99 ∧ md.2.2.2.2.2 = nI a) (ev : p 0 13 = nI v) (hv : v ≤ 30) :
    ∀ (m B d : Nat) (t : Tt), TOk B J S t → t.1 5 = nI d → d ≤ B → B + m < 2 ^ 29 → (∀ i q, i < S → T_op md t i → t.2.2.2.1 i = nI q → q < 2 ^ 30 → d ≤ q → d + m ≤ q) → TQ J S (T_mov p md t (nI (d + m))) (T_days p md S m t) := by
  intro m
  induction m with
  | zero =>
    intro B d t H ed hd hB hn
    unfold T_days T_mov
    rw [ed, if_neg (fun z => z.2 (Int32.le_refl _))]
    exact ⟨⟨by simp [upd], by simp [upd, ed], by simp [upd], by simp [upd]⟩, fun _ _ => rfl, fun _ _ => ⟨rfl, rfl, rfl⟩, rfl⟩
  | succ m ih =>
    intro B d t H ed hd hB hn
    have hno : T_from p md S 0 (T_clr t) = T_clr t := by
      refine T_from_no S 0 _ (fun i _ hi z => ?_)
      obtain ⟨q, hq, eq⟩ := H.2.2.2.2.1 i (by omega)
      have z1 : t.2.2.2.1 i = t.1 5 := z.1
      rw [eq, ed, nI_eq (by omega) (by omega)] at z1
      have := hn i q (by omega) z.2 eq (by omega) (by omega)
      omega
    have eD : T_day p md S t = T_mov p md (T_clr t) (nI (d + 1)) := by unfold T_day; rw [hno, ed, nI_1]
    have q1 : TQ J S (T_mov p md t (nI (d + 1))) (T_day p md S t) := by rw [eD]; exact T_mov_Q hJ (T_clr_Q J S t).sy
    have H1 : TOk (B + 1) J S (T_mov p md t (nI (d + 1))) := T_mov_Ok hJ hp hl (by omega) (H.le (by omega))
    have q2 := ih (B + 1) (d + 1) _ H1 T_mov_5 (by omega) (by omega) (fun i q hi o e hq l => by
      have o' : T_op md t i := by unfold T_op at o ⊢; rw [T_mov_r] at o; exact o
      have e' : t.2.2.2.1 i = nI q := by rw [T_mov_r] at e; exact e
      have := hn i q hi o' e' hq (by omega)
      omega)
    rw [show d + 1 + m = d + (m + 1) by omega] at q2
    have q3 : TQ J S (T_mov p md (T_mov p md t (nI (d + 1))) (nI (d + (m + 1)))) (T_mov p md t (nI (d + (m + 1)))) := T_mov_2 hJ ev hv ed (by omega) (by omega) (by omega)
    exact q3.sy.tr (q2.tr (T_days_Q hJ hp hl m (B + 1) _ _ H1 q1))
theorem T_days_add {p : Nat → Nat → Int32} {md : Md} {S : Nat} : ∀ (a b : Nat) (t : Tt), T_days p md S (a + b) t = T_days p md S b (T_days p md S a t) := by
  intro a
  induction a with
  | zero => intro b t; rw [Nat.zero_add]; rfl
  | succ a ih => intro b t; rw [show a + 1 + b = (a + b) + 1 by omega]; exact ih b _
/-- open suits -/
def T_cnt (t : Tt) : Nat → Nat
  | 0 => 0
  | n + 1 => T_cnt t n + if t.2.2.2.2.1 n = -1 then 1 else 0
theorem T_cnt_le (t : Tt) : ∀ n, T_cnt t n ≤ n := by
  intro n
  induction n with
  | zero => exact Nat.le_refl _
  | succ n ih => unfold T_cnt; split <;> omega
theorem T_cnt_mono {t u : Tt} : ∀ n, (∀ s, s < n → u.2.2.2.2.1 s = -1 → t.2.2.2.2.1 s = -1) → T_cnt u n ≤ T_cnt t n := by
  intro n
  induction n with
  | zero => exact fun _ => Nat.le_refl _
  | succ n ih =>
    intro h
    have a := ih (fun s hs => h s (by omega))
    unfold T_cnt
    by_cases c : u.2.2.2.2.1 n = -1
    · rw [if_pos c, if_pos (h n (by omega) c)]; omega
    · rw [if_neg c]; omega
theorem T_cnt_lt {t u : Tt} {k : Nat} (k1 : t.2.2.2.2.1 k = -1) (k2 : ¬ u.2.2.2.2.1 k = -1) : ∀ n, k < n → (∀ s, s < n → u.2.2.2.2.1 s = -1 → t.2.2.2.2.1 s = -1) → T_cnt u n < T_cnt t n := by
  intro n
  induction n with
  | zero => exact fun h => by omega
  | succ n ih =>
    intro hk h
    unfold T_cnt
    by_cases e : k = n
    · subst e
      rw [if_pos k1, if_neg k2]
      have := T_cnt_mono (t := t) (u := u) k (fun s hs => h s (by omega))
      omega
    · have a := ih (by omega) (fun s hs => h s (by omega))
      by_cases c : u.2.2.2.2.1 n = -1
      · rw [if_pos c, if_pos (h n (by omega) c)]; omega
      · rw [if_neg c]; omega
theorem rg_nm1 {x : Int32} {n : Nat} (h : rg x n) (hn : n < 2 ^ 31) : ¬ x = -1 := by
  obtain ⟨a, h1, rfl⟩ := h
  exact nI_nm1 (by omega)
theorem T_out_vd (p md t s j n hd sd) : (T_out p md t s j n hd sd).2.2.2.2.1 = upd t.2.2.2.2.1 s (T_v p md t j n hd) := by
  unfold T_out
  split
  · split <;> rfl
  · split <;> rfl
theorem T_one_vd {p : Nat → Nat → Int32} {md : Md} {t : Tt} {s i : Nat} : ((T_one p md t s).2.2.2.2.1 i = -1 → t.2.2.2.2.1 i = -1) ∧ (i ≠ s → (T_one p md t s).2.2.2.2.1 i = t.2.2.2.2.1 i) ∧ (T_due md t s → ¬ (T_one p md t s).2.2.2.2.1 s = -1) := by
  unfold T_one
  by_cases c : T_due md t s
  · rw [if_pos c]
    unfold T_try
    rw [T_out_vd]
    have hv : ¬ T_v p md t (t.2.2.1 s).toNatClampNeg (p 13 s).toNatClampNeg (T_hd p md t s) = -1 := rg_nm1 (sp_verd_rg _ _ _) (by decide)
    refine ⟨fun z => ?_, fun e => pk_un e, fun _ => by rw [pk_us]; exact hv⟩
    by_cases e : i = s
    · subst e; rw [pk_us] at z; exact absurd z hv
    · rwa [pk_un e] at z
  · rw [if_neg c]
    exact ⟨fun z => z, fun _ => rfl, fun z => absurd z c⟩
theorem T_from_vd {p : Nat → Nat → Int32} {md : Md} : ∀ (k s : Nat) (t : Tt), (∀ i, (T_from p md k s t).2.2.2.2.1 i = -1 → t.2.2.2.2.1 i = -1) ∧ (∀ i, s ≤ i → i < s + k → T_due md t i → ¬ (T_from p md k s t).2.2.2.2.1 i = -1) := by
  intro k
  induction k with
  | zero => exact fun s t => ⟨fun _ z => z, fun i a b => by omega⟩
  | succ k ih =>
    intro s t
    have a := ih (s + 1) (T_one p md t s)
    refine ⟨fun i z => T_one_vd.1 (a.1 i z), fun i h1 h2 hd z => ?_⟩
    by_cases e : i = s
    · subst e
      exact (T_one_vd (i := i)).2.2 hd (a.1 i z)
    · refine a.2 i (by omega) (by omega) ?_ z
      have b := T_one_5 p md t s
      unfold T_due at hd ⊢
      rw [b.2.2.2, b.1, b.2.2.1, T_one_vd.2.1 e]
      exact hd
theorem T_leap_days {J S v : Nat} {p : Nat → Nat → Int32} {md : Md} (hJ : J ≤ 4) (hp : ∀ j, j < J → rg (p 4 j) 9) (hl : ∃ a, 1 ≤ a ∧ a ≤ 99 ∧ md.2.2.2.2.2 = nI a) (ev : p 0 13 = nI v) (hv : v ≤ 30) :
    ∀ (k n B d : Nat) (t : Tt), TOk B J S t → t.1 5 = nI d → d ≤ B → B + n < 2 ^ 29 → T_cnt t S < k → TQ J S (T_leap p md S k (nI (d + n)) t) (T_days p md S n t) := by
  intro k
  induction k with
  | zero => exact fun n B d t H ed hd hB hc => by omega
  | succ k ih =>
    intro n B d t H ed hd hB hc
    unfold T_leap
    rw [ed]
    have i1 : nI (d + n) ≤ nI d ↔ d + n ≤ d := nI_leI (by omega) (by omega)
    by_cases c : d + n ≤ d
    · rw [if_pos (i1.mpr c), show n = 0 by omega]
      exact TQ.rf _ _ _
    · rw [if_neg (fun z => c (i1.mp z))]
      obtain ⟨r, r1, r2, r3, r4, r5⟩ := T_nx_spec (md := md) H (by omega) ed hd S 0 (d + n) (by omega) (by omega) (by omega)
      rw [r1, T_mov_5]
      obtain ⟨m, rfl⟩ : ∃ m, r = d + m := ⟨r - d, by omega⟩
      have q1 : TQ J S (T_mov p md t (nI (d + m))) (T_days p md S m t) := T_skip hJ hp hl ev hv m B d t H ed hd (by omega) (fun i q hi o e hq l => r4 i q (by omega) (by omega) o e hq l)
      have H1 : TOk (B + m) J S (T_mov p md t (nI (d + m))) := T_mov_Ok hJ hp hl (by omega) (H.le (by omega))
      have i2 : nI (d + n) ≤ nI (d + m) ↔ d + n ≤ d + m := nI_leI (by omega) (by omega)
      by_cases c2 : d + n ≤ d + m
      · have e2 : n = m := by omega
        subst e2
        rw [if_pos (i2.mpr c2)]
        cases k with
        | zero => exact q1
        | succ k =>
          unfold T_leap
          rw [T_mov_5, if_pos (Int32.le_refl _)]
          exact q1
      · rw [if_neg (fun z => c2 (i2.mp z))]
        rcases r5 with r5 | ⟨i, _, hi, o, e⟩
        · omega
        have e5 : (T_from p md S 0 (T_clr (T_mov p md t (nI (d + m))))).1 5 = nI (d + m) := by rw [(T_from_5 _ _ _ _ _).1]; exact T_mov_5
        have eD : T_mov p md (T_from p md S 0 (T_clr (T_mov p md t (nI (d + m))))) (nI (d + m) + 1) = T_day p md S (T_mov p md t (nI (d + m))) := by
          unfold T_day
          rw [T_mov_5]
        rw [e5, eD]
        have H2 : TOk (B + m + 1) J S (T_day p md S (T_mov p md t (nI (d + m)))) := T_day_Ok hJ hp hl H1
        have e6 : (T_day p md S (T_mov p md t (nI (d + m)))).1 5 = nI (d + m + 1) := by rw [← eD, T_mov_5, nI_1]
        have hcnt : T_cnt (T_day p md S (T_mov p md t (nI (d + m)))) S < T_cnt t S := by
          have ef := T_from_vd (p := p) (md := md) S 0 (T_clr (T_mov p md t (nI (d + m))))
          have ev2 : (T_day p md S (T_mov p md t (nI (d + m)))).2.2.2.2.1 = (T_from p md S 0 (T_clr (T_mov p md t (nI (d + m))))).2.2.2.2.1 := by rw [← eD, T_mov_r]
          have ev3 : (T_clr (T_mov p md t (nI (d + m)))).2.2.2.2.1 = t.2.2.2.2.1 := by show (T_mov p md t (nI (d + m))).2.2.2.2.1 = _; rw [T_mov_r]
          refine T_cnt_lt (k := i) o.1 ?_ S (by omega) (fun s _ z => ?_)
          · rw [ev2]
            refine ef.2 i (by omega) (by omega) ⟨?_, ?_, ?_⟩
            · show (T_mov p md t (nI (d + m))).2.2.2.1 i = (T_mov p md t (nI (d + m))).1 5
              rw [T_mov_r, T_mov_5]; exact e
            · rw [ev3]; exact o.1
            · show ¬ (T_mov p md t (nI (d + m))).2.2.1 i = _
              rw [T_mov_r]; exact o.2
          · rw [ev2] at z
            have := ef.1 s z
            rwa [ev3] at this
        have q3 := ih (n - m - 1) (B + m + 1) (d + m + 1) _ H2 e6 (by omega) (by omega) (by omega)
        rw [show d + m + 1 + (n - m - 1) = d + n by omega] at q3
        refine q3.tr ?_
        have e7 : T_days p md S n t = T_days p md S (n - m - 1) (T_day p md S (T_days p md S m t)) := by
          rw [show n = m + (1 + (n - m - 1)) by omega, T_days_add, T_days_add, show m + (1 + (n - m - 1)) - m - 1 = n - m - 1 by omega]
          rfl
        rw [e7]
        exact T_days_Q hJ hp hl (n - m - 1) (B + m + 1) _ _ H2 (T_day_Q hJ H1 q1)
theorem T_leap_11 {J S v n B d : Nat} {p : Nat → Nat → Int32} {md : Md} {t : Tt} (hJ : J ≤ 4) (hS : S ≤ 10) (hp : ∀ j, j < J → rg (p 4 j) 9) (hl : ∃ a, 1 ≤ a ∧ a ≤ 99 ∧ md.2.2.2.2.2 = nI a) (ev : p 0 13 = nI v) (hv : v ≤ 30)
    (H : TOk B J S t) (ed : t.1 5 = nI d) (hd : d ≤ B) (hB : B + n < 2 ^ 29) : TQ J S (T_leap p md S 11 (t.1 5 + nI n) t) (T_days p md S n t) := by
  rw [ed, nI_add]
  exact T_leap_days hJ hp hl ev hv 11 n B d t H ed hd hB (by have := T_cnt_le t S; omega)
