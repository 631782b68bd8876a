theorem mm_passes {Q : ck_H → Prop} {h m : ck_H} {B J N S b : Nat} (hP : PR h m J N S) (hb : b < 23) (hB : B < 2 ^ 30) (hT : TOk B J S (Mv m b)) (hd : SdOk (Mv m b)) (hz : LZ J (Mv m b))
    (hq : ∀ m', TQ J S (Mv m' b) (T_day (pl h) (mdM m) S (Mv m b)) → LZ J (Mv m' b) → FB b m m' → Q m') : wp_X12_passes (nI b) m Q := by
  unfold wp_X12_passes wp_X12_triesAll
  refine mm_from hb S 0 lpN m (by unfold lpN; have := hP.hS; omega) (by omega) hP hT hd (fun m1 e1 f1 => ?_)
  have hT1 : TOk B J S (Mv m1 b) := by rw [e1]; exact T_from_Ok hP.hJ S 0 _ (by omega) hT
  refine mm_ends (f1.pr hP) hb hB hT1 (fun m2 q2 z2 f2 => hq m2 (q2.tr ?_) z2 (f1.tr f2))
  rw [f1.md, e1, (T_from_5 _ _ _ _ _).1]
  refine T_mov_Q hP.hJ (T_from_Q hP.hJ S 0 (Mv m b) (T_clr (Mv m b)) (by omega) hT (TQ.rf J S _) (fun j hj => ?_)).1
  rw [hz j hj]
  show (0 : Int32) = if j < 4 then 0 else _
  rw [if_pos (by have := hP.hJ; omega)]
theorem mm_goesOn_2 {Q : ck_H → Prop} {h : ck_H} {J N S n : Nat} (hn : n ≤ 1000) : ∀ (k i f B : Nat) (m : ck_H), k < f → i + k = n → B + k < 2 ^ 30 → PR h m J N S → TOk B J S (Mv m 1) → SdOk (Mv m 1) → LZ J (Mv m 1) → (∃ a, 1 ≤ a ∧ a ≤ 99 ∧ (mdM m).2.2.2.2.2 = nI a) →
    (∀ m', TQ J S (Mv m' 1) (T_days (pl h) (mdM m) S k (Mv m 1)) → LZ J (Mv m' 1) → FB 1 m m' → Q m') → wp_X12_goesOn_2 Q f (nI n) (nI i) m := by
  intro k
  induction k with
  | zero =>
    intro i f B m hf hs hB hP hT hd hz hl hq
    obtain ⟨f, rfl⟩ : ∃ g, f = g + 1 := ⟨f - 1, by omega⟩
    unfold wp_X12_goesOn_2
    exact pk_le n i (fun _ => hq m (TQ.rf _ _ _) hz (FB.rf 1 m)) (fun z => by omega)
  | succ k ih =>
    intro i f B m hf hs hB hP hT hd hz hl hq
    obtain ⟨f, rfl⟩ : ∃ g, f = g + 1 := ⟨f - 1, by omega⟩
    unfold wp_X12_goesOn_2
    refine pk_le n i (fun z => by omega) (fun _ => ?_)
    refine mm_passes (b := 1) hP (by decide) (by omega) hT hd hz (fun m1 q1 z1 f1 => ?_)
    rintro _ rfl
    rw [nI_1]
    have hT1 : TOk (B + 1) J S (T_day (pl h) (mdM m) S (Mv m 1)) := T_day_Ok hP.hJ hP.rtee hl hT
    refine ih (i + 1) f (B + 1) m1 (by omega) (by omega) (by omega) (f1.pr hP) (hT1.q q1.sy) ((T_day_Sd hd).q q1.sy) z1 (by rw [f1.md]; exact hl) (fun m2 q2 z2 f2 => hq m2 (q2.tr ?_) z2 (f1.tr f2))
    rw [f1.md]
    exact T_days_Q hP.hJ hP.rtee hl k (B + 1) _ _ (hT1.q q1.sy) q1
theorem mm_goesOn {Q : ck_H → Prop} {h m : ck_H} {B J N S n : Nat} (hn : n ≤ 1000) (hB : B + n < 2 ^ 30) (hP : PR h m J N S) (hT : TOk B J S (Mv m 1)) (hd : SdOk (Mv m 1)) (hz : LZ J (Mv m 1)) (hl : ∃ a, 1 ≤ a ∧ a ≤ 99 ∧ (mdM m).2.2.2.2.2 = nI a)
    (hq : ∀ m', TQ J S (Mv m' 1) (T_days (pl h) (mdM m) S n (Mv m 1)) → LZ J (Mv m' 1) → FB 1 m m' → Q m') : wp_X12_goesOn (nI n) m Q :=
  mm_goesOn_2 hn n 0 lpN B m (by unfold lpN; omega) (by omega) hB hP hT hd hz hl hq
/-! leaps come to the same as days -/
abbrev T_op (md : Md) (t : Tt) (s : Nat) : Prop := t.2.2.2.2.1 s = -1 ∧ ¬ t.2.2.1 s = md.2.2.2.1
theorem T_nx_spec {B J S d : Nat} {md : Md} {t : Tt} (H : TOk B J S t) (hB : B < 2 ^ 30) (ed : t.1 5 = nI d) (hdB : d ≤ B) : ∀ (k s x : Nat), s + k ≤ S → d ≤ x → x < 2 ^ 30 →
    ∃ r, T_nx md t k s (nI x) = nI r ∧ d ≤ r ∧ r ≤ x ∧ (∀ i q, s ≤ i → i < s + k → T_op md t i → t.2.2.2.1 i = nI q → q < 2 ^ 30 → d ≤ q → r ≤ q) ∧ (r = x ∨ ∃ i, s ≤ i ∧ i < s + k ∧ T_op md t i ∧ t.2.2.2.1 i = nI r) := by
  intro k
  induction k with
  | zero => exact fun s x _ h1 _ => ⟨x, rfl, h1, Nat.le_refl _, fun i q a b => by omega, Or.inl rfl⟩
  | succ k ih =>
    intro s x hs h1 h2
    obtain ⟨y, hy, ey⟩ := H.2.2.2.2.1 s (by omega)
    unfold T_nx
    rw [ey, ed]
    by_cases c : ¬ nI y < nI d ∧ ¬ nI x ≤ nI y ∧ t.2.2.2.2.1 s = -1 ∧ ¬ t.2.2.1 s = md.2.2.2.1
    · rw [if_pos c]
      have c1 : d ≤ y := by have := c.1; rw [nI_ltI (by omega) (by omega)] at this; omega
      have c2 : y < x := by have := c.2.1; rw [nI_leI (by omega) (by omega)] at this; omega
      obtain ⟨r, r1, r2, r3, r4, r5⟩ := ih (s + 1) y (by omega) c1 (by omega)
      refine ⟨r, r1, r2, by omega, fun i q a b o e hq l => ?_, Or.inr ?_⟩
      · by_cases g : i = s
        · subst g
          rw [ey, nI_eq (by omega) (by omega)] at e
          omega
        · exact r4 i q (by omega) (by omega) o e hq l
      · rcases r5 with r5 | ⟨i, a, b, o, e⟩
        · exact ⟨s, by omega, by omega, c.2.2, by rw [ey, r5]⟩
        · exact ⟨i, by omega, by omega, o, e⟩
    · rw [if_neg c]
      obtain ⟨r, r1, r2, r3, r4, r5⟩ := ih (s + 1) x (by omega) h1 h2
      refine ⟨r, r1, r2, r3, fun i q a b o e hq l => ?_, r5.imp_right (fun ⟨i, a, b, o, e⟩ => ⟨i, by omega, by omega, o, e⟩)⟩
      by_cases g : i = s
      · subst g
        rw [ey, nI_eq (by omega) (by omega)] at e
        refine Nat.not_lt.mp (fun z => c ⟨?_, ?_, o⟩)
        · rw [nI_ltI (by omega) (by omega)]; omega
        · rw [nI_leI (by omega) (by omega)]; omega
      · exact r4 i q (by omega) (by omega) o e hq l
theorem T_from_no {p : Nat → Nat → Int32} {md : Md} : ∀ (k s : Nat) (t : Tt), (∀ i, s ≤ i → i < s + k → ¬ T_due md t i) → T_from p md k s t = t := by
  intro k
  induction k with
  | zero => exact fun _ _ _ => rfl
  | succ k ih =>
    intro s t h
    unfold T_from T_one
    rw [if_neg (h s (by omega) (by omega))]
    exact ih (s + 1) t (fun i a b => h i (by omega) (by omega))
theorem T_mov_5 {p : Nat → Nat → Int32} {md : Md} {t : Tt} {d : Int32} : (T_mov p md t d).1 5 = d := by
  unfold T_mov
  split <;> simp [upd]
theorem T_mov_r {p : Nat → Nat → Int32} {md : Md} {t : Tt} {d : Int32} : (T_mov p md t d).2.2 = t.2.2 := by
  unfold T_mov
  split <;> rfl
theorem T_mov_2 {J S v d e f : Nat} {p : Nat → Nat → Int32} {md : Md} {t : Tt} (hJ : J ≤ 4) (ev : p 0 13 = nI v) (hv : v ≤ 30) (ed : t.1 5 = nI d) (h1 : d ≤ e) (h2 : e ≤ f) (hf : f < 2 ^ 30) : TQ J S (T_mov p md (T_mov p md t (nI e)) (nI f)) (T_mov p md t (nI f)) := by
  by_cases v0 : v = 0
  · subst v0
    unfold T_mov
    rw [ev, if_neg (fun z => z.1 (Int32.le_refl _)), if_neg (fun z => z.1 (Int32.le_refl _)), if_neg (fun z => z.1 (Int32.le_refl _))]
    exact ⟨⟨by simp [upd], by simp [upd], by simp [upd], by simp [upd]⟩, fun _ _ => rfl, fun _ _ => ⟨rfl, rfl, rfl⟩, rfl⟩
  · have e5 : (T_mov p md t (nI e)).1 5 = nI e := T_mov_5
    have cv : ∀ a b : Nat, a < 2 ^ 30 → b < 2 ^ 30 → ((¬ nI v ≤ 0 ∧ ¬ nI a / nI v ≤ nI b / nI v) ↔ b / v < a / v) := by
      intro a b ha hb
      have l1 : a / v ≤ a := Nat.div_le_self _ _
      have l2 : b / v ≤ b := Nat.div_le_self _ _
      rw [pk_div (by omega) (by omega) (by omega), pk_div (by omega) (by omega) (by omega), nI_leI (by omega) (by omega), show (0 : Int32) = nI 0 from rfl, nI_leI (by omega) (by omega)]
      omega
    have m1 : d / v ≤ e / v := Nat.div_le_div_right h1
    have m2 : e / v ≤ f / v := Nat.div_le_div_right h2
    have k1 := cv f e hf (by omega)
    have k2 := cv f d hf (by omega)
    have k3 := cv e d (by omega) (by omega)
    have t1 : T_mov p md t (nI e) = if d / v < e / v then (upd (upd t.1 6 md.2.2.2.2.2) 5 (nI e), va_cpy (p 4) t.2.1 0 0 4, t.2.2) else (upd t.1 5 (nI e), t.2) := by
      unfold T_mov
      rw [ev, ed]
      by_cases c : d / v < e / v
      · rw [if_pos (k3.mpr c), if_pos c]
      · rw [if_neg (fun z => c (k3.mp z)), if_neg c]
    have t2 : T_mov p md t (nI f) = if d / v < f / v then (upd (upd t.1 6 md.2.2.2.2.2) 5 (nI f), va_cpy (p 4) t.2.1 0 0 4, t.2.2) else (upd t.1 5 (nI f), t.2) := by
      unfold T_mov
      rw [ev, ed]
      by_cases c : d / v < f / v
      · rw [if_pos (k2.mpr c), if_pos c]
      · rw [if_neg (fun z => c (k2.mp z)), if_neg c]
    have t3 : ∀ u : Tt, u.1 5 = nI e → T_mov p md u (nI f) = if e / v < f / v then (upd (upd u.1 6 md.2.2.2.2.2) 5 (nI f), va_cpy (p 4) u.2.1 0 0 4, u.2.2) else (upd u.1 5 (nI f), u.2) := by
      intro u eu
      unfold T_mov
      rw [ev, eu]
      by_cases c : e / v < f / v
      · rw [if_pos (k1.mpr c), if_pos c]
      · rw [if_neg (fun z => c (k1.mp z)), if_neg c]
    rw [t3 _ e5, t1, t2]
    by_cases c1 : d / v < e / v
    · rw [if_pos c1, if_pos (show d / v < f / v by omega)]
      by_cases c2 : e / v < f / v
      · rw [if_pos c2]
        refine ⟨⟨by simp [upd], by simp [upd], by simp [upd], by simp [upd]⟩, fun j hj => ?_, fun _ _ => ⟨rfl, rfl, rfl⟩, rfl⟩
        show va_cpy (p 4) _ 0 0 4 j = va_cpy (p 4) _ 0 0 4 j
        rw [sb_cpy0 (by omega), sb_cpy0 (by omega)]
      · rw [if_neg c2]
        exact ⟨⟨by simp [upd], by simp [upd], by simp [upd], by simp [upd]⟩, fun j hj => rfl, fun _ _ => ⟨rfl, rfl, rfl⟩, rfl⟩
    · rw [if_neg c1]
      by_cases c2 : e / v < f / v
      · rw [if_pos c2, if_pos (show d / v < f / v by omega)]
        exact ⟨⟨by simp [upd], by simp [upd], by simp [upd], by simp [upd]⟩, fun j hj => rfl, fun _ _ => ⟨rfl, rfl, rfl⟩, rfl⟩
      · rw [if_neg c2, if_neg (show ¬ d / v < f / v by omega)]
        exact ⟨⟨by simp [upd], by simp [upd], by simp [upd], by simp [upd]⟩, fun j hj => rfl, fun _ _ => ⟨rfl, rfl, rfl⟩, rfl⟩
