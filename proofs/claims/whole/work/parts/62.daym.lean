/-! the model's day -/
def SdOk (t : Tt) : Prop := ∃ d, d < 2 ^ 31 ∧ t.2.2.2.2.2.2 = (nI d).toInt64
theorem SdOk.m {m : ck_H} {b : Nat} (h : SdOk (Mv m b)) : ∃ d, d < 2 ^ 31 ∧ m.1 0 50 = nI d := by
  obtain ⟨d, h1, h2⟩ := h
  refine ⟨d, h1, ?_⟩
  have h3 : (m.1 0 50).toInt64 = (nI d).toInt64 := h2
  rw [← i64_i32 (m.1 0 50), h3, i64_i32]
theorem T_out_sd1 (p md t s j n hd sd) : (T_out p md t s j n hd sd).2.2.2.2.2.2 = sd := by
  unfold T_out
  split
  · split <;> rfl
  · split <;> rfl
theorem T_one_Sd {p : Nat → Nat → Int32} {md : Md} {t : Tt} {s : Nat} (h : SdOk t) : SdOk (T_one p md t s) := by
  unfold T_one
  split
  · obtain ⟨d, h1, h2⟩ := h
    unfold T_try SdOk
    rw [T_out_sd1]
    unfold T_draw
    split
    · rw [h2, lcg_L h1]
      exact ⟨_, Nat.mod_lt _ (by decide), rfl⟩
    · exact ⟨d, h1, h2⟩
  · exact h
theorem T_from_Sd {p : Nat → Nat → Int32} {md : Md} : ∀ (k s : Nat) (t : Tt), SdOk t → SdOk (T_from p md k s t) := by
  intro k
  induction k with
  | zero => exact fun _ _ h => h
  | succ k ih => exact fun s t h => ih (s + 1) _ (T_one_Sd h)
theorem T_mov_Sd {p : Nat → Nat → Int32} {md : Md} {t : Tt} {d : Int32} (h : SdOk t) : SdOk (T_mov p md t d) := by
  unfold T_mov
  split <;> exact h
theorem T_day_Sd {p : Nat → Nat → Int32} {md : Md} {S : Nat} {t : Tt} (h : SdOk t) : SdOk (T_day p md S t) := T_mov_Sd (T_from_Sd S 0 _ h)
theorem SdOk.q {J S : Nat} {t u : Tt} (h : SdOk t) (q : TQ J S t u) : SdOk u := by
  obtain ⟨d, h1, h2⟩ := h
  exact ⟨d, h1, q.2.2.2 ▸ h2⟩
theorem nI_nm1 {j : Nat} (h : j < 2 ^ 31) : ¬ nI j = -1 := fun z => by
  have := congrArg Int32.toInt z
  rw [nI_toInt h] at this
  have e : (-1 : Int32).toInt = -1 := by decide
  omega
theorem mm_isOpen {Q : Int32 → ck_H → Prop} {m : ck_H} {b s : Nat} (hb : b < 23) (hs : s < 10) (h1 : m.1 28 (10 * b + s) = -1 → Q 1 m) (h0 : ¬ m.1 28 (10 * b + s) = -1 → Q 0 m) : wp_X12_isOpen (nI b) (nI s) m Q := by
  unfold wp_X12_isOpen
  rw [pu_ix10, nI_clamp (n := 10 * b + s) (by omega)]
  exact ⟨pu_in (by omega) (by decide), h0, h1⟩
theorem mm_isDue {Q : Int32 → ck_H → Prop} {h m : ck_H} {B J N S b s : Nat} (hP : PR h m J N S) (hb : b < 23) (hs : s < S) (hT : TOk B J S (Mv m b)) (h1 : T_due (mdM m) (Mv m b) s → Q 1 m) (h0 : ¬ T_due (mdM m) (Mv m b) s → Q 0 m) : wp_X12_isDue (nI b) (nI s) m Q := by
  have h4 := hP.hJ; have h10 := hP.hS
  obtain ⟨j, hj, ej⟩ := hT.2.2.2.1 s hs
  have ej' : m.1 26 (10 * b + s) = nI j := ej
  have i230 : vp_in (nI (10 * b + s)) 230 := pu_in (by omega) (by decide)
  have nj : ¬ nI j = -1 := nI_nm1 (by omega)
  unfold wp_X12_isDue wp_X12_isDue_55
  rw [pu_ix10, nI_clamp (n := 10 * b + s) (by omega), nI_clamp (n := b) (by omega)]
  have e4 : (mdM m).2.2.2.1 = if m.1 0 46 = 2 then m.1 0 47 else -1 := rfl
  refine mm_isOpen hb (by omega) (fun c => ⟨fun z => absurd z (by decide), fun _ => ⟨i230, pu_in hb (by decide), fun c2 => h0 (fun z => c2 z.1), fun c2 => ⟨fun c3 => h1 ⟨c2, c, ?_⟩, fun c3 => ⟨i230, fun c4 => h0 (fun z => z.2.2 ?_), fun c4 => h1 ⟨c2, c, ?_⟩⟩⟩⟩⟩) (fun c => ⟨fun _ => h0 (fun z => c z.2.1), fun z => absurd rfl z⟩)
  · rw [ej, e4, if_neg c3]; exact nj
  · rw [ej, e4, if_pos c3, ← c4, ej']
  · rw [ej, e4, if_pos c3, ← ej']; exact c4
theorem mm_from {Q : ck_H → Prop} {h : ck_H} {B J N S b : Nat} (hb : b < 23) : ∀ (k s f : Nat) (m : ck_H), k < f → s + k = S → PR h m J N S → TOk B J S (Mv m b) → SdOk (Mv m b) →
    (∀ m', Mv m' b = T_from (pl h) (mdM m) k s (Mv m b) → FB b m m' → Q m') → wp_X12_triesAll_2 Q f (nI b) (nI s) m := by
  intro k
  induction k with
  | zero =>
    intro s f m hf hs hP hT hd hq
    obtain ⟨f, rfl⟩ : ∃ g, f = g + 1 := ⟨f - 1, by omega⟩
    unfold wp_X12_triesAll_2
    exact pk_le S s (fun _ => hq m rfl (FB.rf b m)) (fun z => by omega) hP.mS rfl (by have := hP.hS; omega) (by have := hP.hS; omega)
  | succ k ih =>
    intro s f m hf hs hP hT hd hq
    obtain ⟨f, rfl⟩ : ∃ g, f = g + 1 := ⟨f - 1, by omega⟩
    have h10 := hP.hS
    unfold wp_X12_triesAll_2
    have hgo : ∀ m', Mv m' b = T_one (pl h) (mdM m) (Mv m b) s → FB b m m' → wp_X12_triesAll_27 Q (wp_X12_triesAll_2 Q f) (nI b) (nI s) m' := by
      intro m' e fr
      unfold wp_X12_triesAll_27
      rintro _ rfl
      rw [nI_1]
      refine ih (s + 1) f m' (by omega) (by omega) (fr.pr hP) (by rw [e]; exact T_one_Ok hP.hJ (by omega) hT) (by rw [e]; exact T_one_Sd hd) (fun m2 e2 f2 => hq m2 ?_ (fr.tr f2))
      rw [e2, fr.md, e]
      rfl
    refine pk_le S s (fun z => by omega) (fun _ => mm_isDue hP hb (by omega) hT (fun c => ⟨fun z => absurd z (by decide), fun _ => ?_⟩) (fun c => ⟨fun _ => hgo m (by unfold T_one; rw [if_neg c]) (FB.rf b m), fun z => absurd rfl z⟩)) hP.mS rfl (by omega) (by omega)
    refine mm_tries hP hb (by omega) hT hd.m (fun m' e fr => hgo m' ?_ fr)
    unfold T_one
    rw [if_pos c]
    exact e
theorem mm_ends12 {Q : ck_H → Prop} {K : Int32 → ck_H → Prop} {J b : Nat} (hb : b < 23) (hJ : J ≤ 4) : ∀ (k i f : Nat) (m : ck_H), k < f → i + k = J → m.1 2 0 = nI J →
    (∀ m', (∀ a j, ¬ (a = 25 ∧ 4 * b + i ≤ j ∧ j < 4 * b + J) → m'.1 a j = m.1 a j) → (∀ j, i ≤ j → j < J → m'.1 25 (4 * b + j) = 0) → K (nI b) m') → wp_X12_ends_12 Q K f (nI b) (nI i) m := by
  intro k
  induction k with
  | zero =>
    intro i f m hf hs hm hq
    obtain ⟨f, rfl⟩ : ∃ g, f = g + 1 := ⟨f - 1, by omega⟩
    unfold wp_X12_ends_12
    exact pk_le J i (fun _ => hq m (fun _ _ _ => rfl) (fun j h1 h2 => by omega)) (fun z => by omega) hm rfl (by omega) (by omega)
  | succ k ih =>
    intro i f m hf hs hm hq
    obtain ⟨f, rfl⟩ : ∃ g, f = g + 1 := ⟨f - 1, by omega⟩
    unfold wp_X12_ends_12
    rw [pu_ix4, nI_clamp (n := 4 * b + i) (by omega)]
    refine pk_le J i (fun z => by omega) (fun _ => ⟨pu_in (by omega) (by decide), ?_⟩) hm rfl (by omega) (by omega)
    rintro _ rfl _ rfl
    rw [nI_1]
    refine ih (i + 1) f _ (by omega) (by omega) (by rw [ck_sI_ne _ _ _ (by decide)]; exact hm) (fun m' e1 e2 => hq m' (fun a j hn => ?_) (fun j h1 h2 => ?_))
    · rw [e1 a j (by omega)]
      by_cases c : a = 25
      · subst c; rw [ck_sI_nj _ _ (by omega)]
      · rw [ck_sI_ne _ _ _ c]
    · by_cases c : j = i
      · subst c; rw [e1 _ _ (by omega), ck_sI_at]
      · exact e2 j (by omega) h2
theorem mm_ends77 {Q : ck_H → Prop} {J b : Nat} (hb : b < 23) (hJ : J ≤ 4) : ∀ (k i f : Nat) (m : ck_H), k < f → i + k = J → m.1 2 0 = nI J →
    (∀ m', (∀ a j, ¬ (a = 24 ∧ 4 * b + i ≤ j ∧ j < 4 * b + J) → m'.1 a j = m.1 a j) → (∀ j, i ≤ j → j < J → m'.1 24 (4 * b + j) = m.1 5 j) → Q m') → wp_X12_ends_77 Q f (nI b) (nI i) m := by
  intro k
  induction k with
  | zero =>
    intro i f m hf hs hm hq
    obtain ⟨f, rfl⟩ : ∃ g, f = g + 1 := ⟨f - 1, by omega⟩
    unfold wp_X12_ends_77
    exact pk_le J i (fun _ => hq m (fun _ _ _ => rfl) (fun j h1 h2 => by omega)) (fun z => by omega) hm rfl (by omega) (by omega)
  | succ k ih =>
    intro i f m hf hs hm hq
    obtain ⟨f, rfl⟩ : ∃ g, f = g + 1 := ⟨f - 1, by omega⟩
    unfold wp_X12_ends_77
    rw [pu_ix4, nI_clamp (n := 4 * b + i) (by omega), nI_clamp (n := i) (by omega)]
    refine pk_le J i (fun z => by omega) (fun _ => ⟨pu_in (by omega) (by decide), pu_in (by omega) (by decide), ?_⟩) hm rfl (by omega) (by omega)
    rintro _ rfl _ rfl
    rw [nI_1]
    refine ih (i + 1) f _ (by omega) (by omega) (by rw [ck_sI_ne _ _ _ (by decide)]; exact hm) (fun m' e1 e2 => hq m' (fun a j hn => ?_) (fun j h1 h2 => ?_))
    · rw [e1 a j (by omega)]
      by_cases c : a = 24
      · subst c; rw [ck_sI_nj _ _ (by omega)]
      · rw [ck_sI_ne _ _ _ c]
    · by_cases c : j = i
      · subst c; rw [e1 _ _ (by omega), ck_sI_at]
      · rw [e2 j (by omega) h2, ck_sI_ne _ _ _ (by decide)]
def LZ (J : Nat) (t : Tt) : Prop := ∀ j, j < J → t.2.2.2.2.2.1 j = 0
theorem day_div {d v : Nat} (hd : d < 2 ^ 30) (hv : v ≤ 30) : (¬ nI v ≤ 0 ∧ ¬ (nI d + 1) / nI v ≤ nI d / nI v) ↔ (¬ nI v = 0 ∧ ck_rem (nI d + 1) (nI v) = 0) := by
  by_cases c : v = 0
  · subst c
    exact ⟨fun z => absurd (Int32.le_refl _) z.1, fun z => absurd rfl z.1⟩
  · unfold ck_rem
    rw [nI_1, pk_div (a := d + 1) (by omega) (by omega) (by omega), pk_div (by omega) (by omega) (by omega), ← pk_div (a := d + 1) (by omega) (by omega) (by omega), pk_rem (a := d + 1) (by omega) (by omega) (by omega)]
    rw [pk_div (a := d + 1) (by omega) (by omega) (by omega)]
    have l1 : (d + 1) / v ≤ d + 1 := Nat.div_le_self _ _
    have l2 : d / v ≤ d := Nat.div_le_self _ _
    have l3 : (d + 1) % v < v := Nat.mod_lt _ (by omega)
    rw [nI_leI (by omega) (by omega), show (0 : Int32) = nI 0 from rfl, nI_leI (by omega) (by omega), nI_eq (by omega) (by omega), nI_eq (by omega) (by omega), Nat.succ_div]
    have hdv : v ∣ d + 1 ↔ (d + 1) % v = 0 := Nat.dvd_iff_mod_eq_zero
    by_cases q : v ∣ d + 1
    · rw [if_pos q]; have := hdv.mp q; omega
    · rw [if_neg q]
      refine ⟨fun z => absurd z.2 (by omega), fun z => absurd (hdv.mpr z.2) q⟩
theorem mm_ends {Q : ck_H → Prop} {h m : ck_H} {B J N S b : Nat} (hP : PR h m J N S) (hb : b < 23) (hB : B < 2 ^ 30) (hT : TOk B J S (Mv m b))
    (hq : ∀ m', TQ J S (Mv m' b) (T_mov (pl h) (mdM m) (Mv m b) ((Mv m b).1 5 + 1)) → LZ J (Mv m' b) → FB b m m' → Q m') : wp_X12_ends (nI b) m Q := by
  have h4 := hP.hJ
  obtain ⟨d, hd, ed⟩ := hT.1
  obtain ⟨v, hv, ev⟩ := hP.rvac
  have ed' : m.1 20 b = nI d := ed
  have i23 : vp_in (nI b) 23 := pu_in hb (by decide)
  unfold wp_X12_ends
  rw [nI_clamp (n := b) (by omega)]
  refine ⟨i23, i23, ?_⟩
  rintro _ rfl
  refine mm_ends12 hb hP.hJ J 0 lpN _ (by unfold lpN; omega) (by omega) (by rw [ck_sI_ne _ _ _ (by decide)]; exact hP.mJ) (fun m1 e1 e2 => ?_)
  have g1 : ∀ a j, ¬ (a = 25 ∧ 4 * b ≤ j ∧ j < 4 * b + J) → ¬ (a = 20 ∧ j = b) → m1.1 a j = m.1 a j := by
    intro a j n1 n2
    rw [e1 a j (by omega)]
    by_cases c : a = 20
    · subst c; rw [ck_sI_nj _ _ (by omega)]
    · rw [ck_sI_ne _ _ _ c]
  have g20 : m1.1 20 b = nI d + 1 := by rw [e1 20 b (by omega), ck_sI_at, ed']
  have f1 : FB b m m1 := fun a j n1 n2 => g1 a j (by unfold inB at n1; omega) (by unfold inB at n1; omega)
  have hz : LZ J (Mv m1 b) := fun j hj => e2 j (by omega) hj
  have e24 : m1.1 2 4 = nI v := by rw [g1 _ _ (by omega) (by omega), hP.vac, ev]
  rw [nI_clamp (n := b) (by omega)]
  have hk := day_div (d := d) (v := v) (by omega) hv
  have e13 : pl h 0 13 = nI v := ev
  have hT' : (Mv m b).1 5 = nI d := ed
  have stay : ¬ (¬ nI v = 0 ∧ ck_rem (nI d + 1) (nI v) = 0) → Q m1 := by
    intro c
    refine hq m1 ?_ hz f1
    unfold T_mov
    rw [e13, hT', if_neg (fun z => c (hk.mp z))]
    refine ⟨⟨?_, ?_, ?_, ?_⟩, fun j hj => ?_, fun s hs => ⟨?_, ?_, ?_⟩, ?_⟩
    · show m1.1 22 b = upd (Mv m b).1 5 (nI d + 1) 4; rw [pk_un (by decide)]; exact g1 _ _ (by omega) (by omega)
    · show m1.1 20 b = upd (Mv m b).1 5 (nI d + 1) 5; rw [pk_us]; exact g20
    · show m1.1 21 b = upd (Mv m b).1 5 (nI d + 1) 6; rw [pk_un (by decide)]; exact g1 _ _ (by omega) (by omega)
    · show m1.1 23 b = upd (Mv m b).1 5 (nI d + 1) 7; rw [pk_un (by decide)]; exact g1 _ _ (by omega) (by omega)
    · exact g1 _ _ (by omega) (by omega)
    · exact g1 _ _ (by omega) (by omega)
    · exact g1 _ _ (by omega) (by omega)
    · exact g1 _ _ (by omega) (by omega)
    · show (m1.1 0 50).toInt64 = (m.1 0 50).toInt64; rw [g1 _ _ (by omega) (by omega)]
  rw [e24, g20]
  refine ⟨fun c => stay (fun z => z.1 c), fun c => ⟨i23, c, fun c2 => ?_, fun c2 => stay (fun z => c2 z.2)⟩⟩
  have hlv : wp_X12_leverAs m1 (fun r15 h14 => (vp_in (nI b) 23 ∧ (∀ h17, h17 = ck_sI h14 21 b r15 → wp_X12_ends_77 Q lpN (nI b) (0 : Int32) h17))) := by
    have hgo : vp_in (nI b) 23 ∧ (∀ h17, h17 = ck_sI m1 21 b (mdM m).2.2.2.2.2 → wp_X12_ends_77 Q lpN (nI b) (0 : Int32) h17) := by
      refine ⟨i23, ?_⟩
      rintro _ rfl
      refine mm_ends77 hb hP.hJ J 0 lpN _ (by unfold lpN; omega) (by omega) (by rw [ck_sI_ne _ _ _ (by decide), g1 _ _ (by omega) (by omega)]; exact hP.mJ) (fun m2 u1 u2 => ?_)
      have w1 : ∀ a j, ¬ (a = 24 ∧ 4 * b ≤ j ∧ j < 4 * b + J) → ¬ (a = 21 ∧ j = b) → m2.1 a j = m1.1 a j := by
        intro a j n1 n2
        rw [u1 a j (by omega)]
        by_cases c : a = 21
        · subst c; rw [ck_sI_nj _ _ (by omega)]
        · rw [ck_sI_ne _ _ _ c]
      have w21 : m2.1 21 b = (mdM m).2.2.2.2.2 := by rw [u1 21 b (by omega), ck_sI_at]
      have f2 : FB b m1 m2 := fun a j n1 n2 => w1 a j (by unfold inB at n1; omega) (by unfold inB at n1; omega)
      refine hq m2 ?_ (fun j hj => ?_) (f1.tr f2)
      · unfold T_mov
        rw [e13, hT', if_pos (hk.mpr ⟨c, c2⟩)]
        refine ⟨⟨?_, ?_, ?_, ?_⟩, fun j hj => ?_, fun s hs => ⟨?_, ?_, ?_⟩, ?_⟩
        · show m2.1 22 b = upd (upd (Mv m b).1 6 (mdM m).2.2.2.2.2) 5 (nI d + 1) 4; rw [pk_un (by decide), pk_un (by decide), w1 _ _ (by omega) (by omega)]; exact g1 _ _ (by omega) (by omega)
        · show m2.1 20 b = upd (upd (Mv m b).1 6 (mdM m).2.2.2.2.2) 5 (nI d + 1) 5; rw [pk_us, w1 _ _ (by omega) (by omega)]; exact g20
        · show m2.1 21 b = upd (upd (Mv m b).1 6 (mdM m).2.2.2.2.2) 5 (nI d + 1) 6; rw [pk_un (by decide), pk_us]; exact w21
        · show m2.1 23 b = upd (upd (Mv m b).1 6 (mdM m).2.2.2.2.2) 5 (nI d + 1) 7; rw [pk_un (by decide), pk_un (by decide), w1 _ _ (by omega) (by omega)]; exact g1 _ _ (by omega) (by omega)
        · show m2.1 24 (4 * b + j) = va_cpy (pl h 4) (Mv m b).2.1 0 0 4 j
          rw [sb_cpy0 (by omega), u2 j (by omega) hj, ck_sI_ne _ _ _ (by decide), g1 _ _ (by omega) (by omega), hP.tee j hj]
          rfl
        · show m2.1 26 (10 * b + s) = m.1 26 (10 * b + s); rw [w1 _ _ (by omega) (by omega)]; exact g1 _ _ (by omega) (by omega)
        · show m2.1 27 (10 * b + s) = m.1 27 (10 * b + s); rw [w1 _ _ (by omega) (by omega)]; exact g1 _ _ (by omega) (by omega)
        · show m2.1 28 (10 * b + s) = m.1 28 (10 * b + s); rw [w1 _ _ (by omega) (by omega)]; exact g1 _ _ (by omega) (by omega)
        · show (m2.1 0 50).toInt64 = (m.1 0 50).toInt64; rw [w1 _ _ (by omega) (by omega), g1 _ _ (by omega) (by omega)]
      · show m2.1 25 (4 * b + j) = 0
        rw [w1 _ _ (by omega) (by omega)]
        exact hz j hj
    have e1' : (mdM m).2.2.2.2.2 = if m1.1 0 48 = -1 then m1.1 2 3 else m1.1 0 48 := by
      rw [g1 0 48 (by omega) (by omega), g1 2 3 (by omega) (by omega)]; rfl
    unfold wp_X12_leverAs
    rw [e1'] at hgo
    refine ⟨fun c3 => ?_, fun c3 => ?_⟩
    · rw [if_neg c3] at hgo; exact hgo
    · rw [if_pos c3] at hgo; exact hgo
  exact hlv
