def g_tw (p : Nat → Nat → Int32) (t : Tt) (S : Nat) : Int32 := fo (fun x a => fo (fun y b => if p 13 a = p 13 b ∧ ¬ t.2.2.2.2.1 a = -1 ∧ ¬ t.2.2.2.2.1 b = -1 ∧ ¬ t.2.2.2.2.1 a = t.2.2.2.2.1 b then y + 1 else y) (S - (a + 1)) (a + 1) x) S 0 0
theorem g_tw_Q {J S : Nat} {t u : Tt} (h : TQ J S t u) (p : Nat → Nat → Int32) : g_tw p t S = g_tw p u S :=
  fo_eq S 0 0 (fun i y _ hi => fo_eq _ _ _ (fun k z _ hk => by rw [(h.2.2.1 i (by omega)).2.2, (h.2.2.1 k (by omega)).2.2]))
theorem tx_tw {J N S : Nat} {h m : ck_H} {Q : Int32 → ck_H → Prop} (P : PR h m J N S) (q : Q (g_tw (pl h) (Tv h 7) S) h) : wp_X11_twins h Q := by
  have h10 := P.hS
  unfold wp_X11_twins
  refine lp_fo (fun f x s => wp_X11_twins_4 Q f x (nI s) h) (fun x a => fo (fun y b => if pl h 13 a = pl h 13 b ∧ ¬ (Tv h 7).2.2.2.2.1 a = -1 ∧ ¬ (Tv h 7).2.2.2.2.1 b = -1 ∧ ¬ (Tv h 7).2.2.2.2.1 a = (Tv h 7).2.2.2.2.1 b then y + 1 else y) (S - (a + 1)) (a + 1) x) S (fun x => Q x h) ?_ ?_ S 0 lpN 0 (by unfold lpN; omega) (by omega) q
  · intro f x hr
    unfold wp_X11_twins_4
    exact pk_le S S (fun _ => hr) (fun z => by omega) P.xS rfl (by omega) (by omega)
  · intro f x a ha k
    unfold wp_X11_twins_4
    refine pk_le S a (fun z => by omega) (fun _ => ?_) P.xS rfl (by omega) (by omega)
    rintro _ rfl
    rw [nI_1]
    refine lp_fo (fun f' x' s => wp_X11_twins_22 Q (fun x10 x11 h9 => (∀ v12, v12 = x11 + 1 → (wp_X11_twins_4 Q f) x10 v12 h9)) f' x' (nI a) (nI s) h) (fun y b => if pl h 13 a = pl h 13 b ∧ ¬ (Tv h 7).2.2.2.2.1 a = -1 ∧ ¬ (Tv h 7).2.2.2.2.1 b = -1 ∧ ¬ (Tv h 7).2.2.2.2.1 a = (Tv h 7).2.2.2.2.1 b then y + 1 else y) S (fun x' => wp_X11_twins_4 Q f x' (nI (a + 1)) h) ?_ ?_ (S - (a + 1)) (a + 1) lpN x (by unfold lpN; omega) (by omega) k
    · intro f' x' hr
      unfold wp_X11_twins_22
      refine pk_le S S (fun _ => ?_) (fun z => by omega) P.xS rfl (by omega) (by omega)
      rintro _ rfl
      rw [nI_1]
      exact hr
    · intro f' x' b hb k
      unfold wp_X11_twins_22
      refine pk_le S b (fun z => by omega) (fun _ => ?_) P.xS rfl (by omega) (by omega)
      have k48 : ∀ y, wp_X11_twins_22 Q (fun x10 x11 h9 => (∀ v12, v12 = x11 + 1 → (wp_X11_twins_4 Q f) x10 v12 h9)) f' y (nI a) (nI (b + 1)) h → wp_X11_twins_48 Q (fun x10 x11 h9 => (∀ v12, v12 = x11 + 1 → (wp_X11_twins_4 Q f) x10 v12 h9)) (wp_X11_twins_22 Q (fun x10 x11 h9 => (∀ v12, v12 = x11 + 1 → (wp_X11_twins_4 Q f) x10 v12 h9)) f') y (nI a) (nI b) h := by
        intro y k
        unfold wp_X11_twins_48
        rintro _ rfl
        rw [nI_1]
        exact k
      have i1 : vp_in (nI a) 10 := pu_in (by omega) (by decide)
      have i2 : vp_in (nI b) 10 := pu_in (by omega) (by decide)
      unfold wp_X11_areTwins
      rw [nI_clamp (n := a) (by omega), nI_clamp (n := b) (by omega)]
      have k : wp_X11_twins_22 Q (fun x10 x11 h9 => (∀ v12, v12 = x11 + 1 → (wp_X11_twins_4 Q f) x10 v12 h9)) f' (if h.1 45 a = h.1 45 b ∧ ¬ h.1 11 a = -1 ∧ ¬ h.1 11 b = -1 ∧ ¬ h.1 11 a = h.1 11 b then x' + 1 else x') (nI a) (nI (b + 1)) h := k
      refine ⟨i1, i2, fun c => ?_, fun c => ⟨i1, fun c2 => ?_, fun c2 => ⟨i2, fun c3 => ?_, fun c3 => ⟨i1, i2, fun c4 => ?_, fun c4 => ?_⟩⟩⟩⟩
      · rw [if_neg (fun z => c z.1)] at k; exact br_p rfl (k48 _ k)
      · rw [if_neg (fun z => z.2.1 c2)] at k; exact br_p rfl (k48 _ k)
      · rw [if_neg (fun z => z.2.2.1 c3)] at k; exact br_p rfl (k48 _ k)
      · rw [if_neg (fun z => z.2.2.2 c4)] at k; exact br_p rfl (k48 _ k)
      · rw [if_pos ⟨c, c2, c3, c4⟩] at k
        refine br_n (by decide) ?_
        rintro _ rfl
        exact k48 _ k
theorem mm_tw {J N S : Nat} {h m : ck_H} {Q : Int32 → ck_H → Prop} (P : PR h m J N S) (q : Q (g_tw (pl h) (Mv m 0) S) m) : wp_X12_twins_9 Q lpN 0 0 m := by
  have h10 := P.hS
  refine lp_fo (fun f x s => wp_X12_twins_9 Q f x (nI s) m) (fun x a => fo (fun y b => if pl h 13 a = pl h 13 b ∧ ¬ (Mv m 0).2.2.2.2.1 a = -1 ∧ ¬ (Mv m 0).2.2.2.2.1 b = -1 ∧ ¬ (Mv m 0).2.2.2.2.1 a = (Mv m 0).2.2.2.2.1 b then y + 1 else y) (S - (a + 1)) (a + 1) x) S (fun x => Q x m) ?_ ?_ S 0 lpN 0 (by unfold lpN; omega) (by omega) q
  · intro f x hr
    unfold wp_X12_twins_9
    exact pk_le S S (fun _ => hr) (fun z => by omega) P.mS rfl (by omega) (by omega)
  · intro f x a ha k
    unfold wp_X12_twins_9
    refine pk_le S a (fun z => by omega) (fun _ => ?_) P.mS rfl (by omega) (by omega)
    rintro _ rfl
    rw [nI_1]
    refine lp_fo (fun f' x' s => wp_X12_twins_23 Q (fun x20 x21 h19 => (∀ v22, v22 = x21 + 1 → (wp_X12_twins_9 Q f) x20 v22 h19)) f' x' (nI a) (nI s) m) (fun y b => if pl h 13 a = pl h 13 b ∧ ¬ (Mv m 0).2.2.2.2.1 a = -1 ∧ ¬ (Mv m 0).2.2.2.2.1 b = -1 ∧ ¬ (Mv m 0).2.2.2.2.1 a = (Mv m 0).2.2.2.2.1 b then y + 1 else y) S (fun x' => wp_X12_twins_9 Q f x' (nI (a + 1)) m) ?_ ?_ (S - (a + 1)) (a + 1) lpN x (by unfold lpN; omega) (by omega) k
    · intro f' x' hr
      unfold wp_X12_twins_23
      refine pk_le S S (fun _ => ?_) (fun z => by omega) P.mS rfl (by omega) (by omega)
      rintro _ rfl
      rw [nI_1]
      exact hr
    · intro f' x' b hb k
      unfold wp_X12_twins_23
      rw [nI_clamp (n := a) (by omega), nI_clamp (n := b) (by omega), P.no a ha, P.no b hb]
      refine pk_le S b (fun z => by omega) (fun _ => ?_) P.mS rfl (by omega) (by omega)
      rw [Mv0_28, Mv0_28] at k
      have k : wp_X12_twins_23 Q (fun x20 x21 h19 => (∀ v22, v22 = x21 + 1 → (wp_X12_twins_9 Q f) x20 v22 h19)) f' (if h.1 45 a = h.1 45 b ∧ ¬ m.1 28 a = -1 ∧ ¬ m.1 28 b = -1 ∧ ¬ m.1 28 a = m.1 28 b then x' + 1 else x') (nI a) (nI (b + 1)) m := k
      have k86 : ¬ (h.1 45 a = h.1 45 b ∧ ¬ m.1 28 a = -1 ∧ ¬ m.1 28 b = -1 ∧ ¬ m.1 28 a = m.1 28 b) → wp_X12_twins_86 Q (fun x20 x21 h19 => (∀ v22, v22 = x21 + 1 → (wp_X12_twins_9 Q f) x20 v22 h19)) (wp_X12_twins_23 Q (fun x20 x21 h19 => (∀ v22, v22 = x21 + 1 → (wp_X12_twins_9 Q f) x20 v22 h19)) f') (nI a) (nI b) x' m := by
        intro c
        rw [if_neg c] at k
        unfold wp_X12_twins_86 wp_X12_twins_87
        rintro _ rfl _ rfl
        rw [nI_1, Int32.add_zero]
        exact k
      refine ⟨pu_in (by omega) (by decide), pu_in (by omega) (by decide), fun c => k86 (fun z => c z.1), fun c => ?_⟩
      refine mm_isOpen (b := 0) (by decide) (by omega) (fun c2 => ?_) (fun c2 => br_q rfl ?_)
      · rw [show 10 * 0 + a = a by omega] at c2
        exact br_m (by decide) (k86 (fun z => z.2.1 c2))
      · rw [show 10 * 0 + a = a by omega] at c2
        refine mm_isOpen (b := 0) (by decide) (by omega) (fun c3 => ?_) (fun c3 => br_q rfl ?_)
        · rw [show 10 * 0 + b = b by omega] at c3
          exact br_m (by decide) (k86 (fun z => z.2.2.1 c3))
        · rw [show 10 * 0 + b = b by omega] at c3
          refine ⟨pu_in (by omega) (by decide), pu_in (by omega) (by decide), fun c4 => k86 (fun z => z.2.2.2 c4), fun c4 => ?_⟩
          rw [if_pos ⟨c, c2, c3, c4⟩] at k
          unfold wp_X12_twins_87
          rintro _ rfl _ rfl
          rw [nI_1]
          exact k
theorem sim_twins {J N S : Nat} {h m : ck_H} (H : SimP J N S h m) : wp_X11_twins h (fun r h' => wp_X12_twins m (fun r' m' => r = r' ∧ Sim h' m')) := by
  have T := H.thr 0
  refine tx_tw T.pr ?_
  unfold wp_X12_twins
  rintro _ rfl
  exact mm_tw T.pr ⟨(g_tw_Q T.now _).symm, _, _, _, T⟩
def g_dk (t : Tt) (x : Int32) (S : Nat) : Int32 := fo (fun y s => if t.2.2.2.2.1 s = -1 ∧ t.2.2.2.1 s = x then y ||| ((1 : Int32) <<< (nI s &&& 31)) else y) S 0 0
theorem sim_docket {J N S : Nat} {h m : ck_H} {x : Int32} (H : SimP J N S h m) : wp_X11_docket x h (fun r h' => wp_X12_docket x m (fun r' m' => r = r' ∧ Sim h' m')) := by
  have T := H.thr 0
  have P := T.pr
  have h10 := P.hS
  unfold wp_X11_docket
  refine ⟨fun c => ?_, fun c => ⟨fun c2 => ?_, fun c2 => ?_⟩⟩
  · unfold wp_X12_docket
    rintro _ rfl
    exact br_p c ⟨rfl, _, _, _, T⟩
  · have hx : wp_X12_docket x m (fun r' m' => g_dk (Tv h 7) x S = r' ∧ Sim h m') := by
      unfold wp_X12_docket
      rintro _ rfl
      refine br_n c (br_p c2 ?_)
      have e : g_dk (Tv h 7) x S = g_dk (Mv (ck_sI m 0 0 0) 0) x S := fo_eq S 0 0 (fun i y _ hi => by rw [(T.now.2.2.1 i (by omega)).2.2, (T.now.2.2.1 i (by omega)).2.1])
      rw [e]
      refine lp_fo (fun f y s => wp_X12_docket_22 (fun r' m' => g_dk (Mv (ck_sI m 0 0 0) 0) x S = r' ∧ Sim h m') f x y (nI s) (ck_sI m 0 0 0)) (fun y s => if (Mv (ck_sI m 0 0 0) 0).2.2.2.2.1 s = -1 ∧ (Mv (ck_sI m 0 0 0) 0).2.2.2.1 s = x then y ||| ((1 : Int32) <<< (nI s &&& 31)) else y) S (fun y => g_dk (Mv (ck_sI m 0 0 0) 0) x S = y ∧ Sim h (ck_sI m 0 0 0)) ?_ ?_ S 0 lpN 0 (by unfold lpN; omega) (by omega) ⟨rfl, _, _, _, T⟩
      · intro f y hr
        unfold wp_X12_docket_22
        exact pk_le S S (fun _ => hr) (fun z => by omega) P.mS rfl (by omega) (by omega)
      · intro f y s hs k
        unfold wp_X12_docket_22
        refine pk_le S s (fun z => by omega) (fun _ => ?_) P.mS rfl (by omega) (by omega)
        rw [Mv0_28, Mv0_27] at k
        have k58 : ¬ ((ck_sI m 0 0 0).1 28 s = -1 ∧ (ck_sI m 0 0 0).1 27 s = x) → wp_X12_docket_58 (fun r' m' => g_dk (Mv (ck_sI m 0 0 0) 0) x S = r' ∧ Sim h m') (wp_X12_docket_22 (fun r' m' => g_dk (Mv (ck_sI m 0 0 0) 0) x S = r' ∧ Sim h m') f) x (nI s) y (ck_sI m 0 0 0) := by
          intro c
          rw [if_neg c] at k
          unfold wp_X12_docket_58 wp_X12_docket_59
          rintro _ rfl _ rfl
          rw [nI_1, Int32.or_zero]
          exact k
        refine mm_isOpen (b := 0) (by decide) (by omega) (fun c2 => br_n (by decide) ⟨pu_in (by omega) (by decide), ?_⟩) (fun c2 => br_p rfl ?_)
        · rw [show 10 * 0 + s = s by omega] at c2
          rw [nI_clamp (n := s) (by omega)]
          refine ⟨fun c3 => k58 (fun z => c3 z.2), fun c3 => ?_⟩
          rw [if_pos ⟨c2, c3⟩] at k
          unfold wp_X12_docket_59
          rintro _ rfl _ rfl
          rw [nI_1]
          exact k
        · rw [show 10 * 0 + s = s by omega] at c2
          exact k58 (fun z => c2 z.1)
    refine lp_fo (fun f y s => wp_X11_docket_17 (fun r h' => wp_X12_docket x m (fun r' m' => r = r' ∧ Sim h' m')) f x y (nI s) h) (fun y s => if (Tv h 7).2.2.2.2.1 s = -1 ∧ (Tv h 7).2.2.2.1 s = x then y ||| ((1 : Int32) <<< (nI s &&& 31)) else y) S (fun y => wp_X12_docket x m (fun r' m' => y = r' ∧ Sim h m')) ?_ ?_ S 0 lpN 0 (by unfold lpN; omega) (by omega) hx
    · intro f y hr
      unfold wp_X11_docket_17
      exact pk_le S S (fun _ => hr) (fun z => by omega) P.xS rfl (by omega) (by omega)
    · intro f y s hs k
      have k : wp_X11_docket_17 (fun r h' => wp_X12_docket x m (fun r' m' => r = r' ∧ Sim h' m')) f x (if h.1 11 s = -1 ∧ h.1 10 s = x then y ||| ((1 : Int32) <<< (nI s &&& 31)) else y) (nI (s + 1)) h := k
      unfold wp_X11_docket_17 wp_X11_docket_58
      refine pk_le S s (fun z => by omega) (fun _ => ?_) P.xS rfl (by omega) (by omega)
      by_cases c2 : h.1 11 s = -1
      · refine xP_p P hs c2 (br_n (by decide) ⟨pu_in (by omega) (by decide), ?_⟩)
        rw [nI_clamp (n := s) (by omega)]
        refine ⟨fun c3 => ?_, fun c3 => ?_⟩
        · rintro _ rfl; rw [if_neg (fun z => c3 z.2)] at k; rw [nI_1]; exact k
        · rintro _ rfl _ rfl; rw [if_pos ⟨c2, c3⟩] at k; rw [nI_1]; exact k
      · refine xP_n P (fun ⟨i, i1, i2, i3⟩ => c2 (by rw [nI_eq (by omega) (by omega)] at i2; rw [i2]; exact i3)) (br_p rfl ?_)
        rintro _ rfl; rw [if_neg (fun z => c2 z.1)] at k; rw [nI_1]; exact k
  · unfold wp_X12_docket
    rintro _ rfl
    exact br_n c (br_n c2 ⟨rfl, _, _, _, T⟩)
/-! crown -/
def crX (W : Nat → Int32) : Nat → Nat → Int32 → Int32 → Int32
  | 0, _, b, _ => b
  | k + 1, j, b, w => if W j ≤ w then crX W k (j + 1) b w else crX W k (j + 1) (nI j) (W j)
def crM (W : Nat → Int32) : Nat → Nat → Int32 → Int32
  | 0, _, b => b
  | k + 1, j, b => if b = -1 then crM W k (j + 1) (nI j) else if W j ≤ W b.toNatClampNeg then crM W k (j + 1) b else crM W k (j + 1) (nI j)
theorem cr_eq {W : Nat → Int32} : ∀ (k j b : Nat), j + k < 100 → b < 100 → crX W k j (nI b) (W b) = crM W k j (nI b) := by
  intro k
  induction k with
  | zero => exact fun _ _ _ _ => rfl
  | succ k ih =>
    intro j b hj hb
    unfold crX crM
    rw [if_neg (nI_nm1 (by omega)), nI_clamp (n := b) (by omega), ih (j + 1) b (by omega) hb, ih (j + 1) j (by omega) (by omega)]
theorem fo_cnt {P : Nat → Prop} [DecidablePred P] : ∀ (k s a : Nat), ∃ c, c ≤ a + k ∧ fo (fun x i => if P i then x + 1 else x) k s (nI a) = nI c := by
  intro k
  induction k with
  | zero => exact fun s a => ⟨a, by omega, rfl⟩
  | succ k ih =>
    intro s a
    unfold fo
    by_cases c : P s
    · rw [if_pos c, nI_1]
      obtain ⟨d, h1, h2⟩ := ih (s + 1) (a + 1)
      exact ⟨d, by omega, h2⟩
    · rw [if_neg c]
      obtain ⟨d, h1, h2⟩ := ih (s + 1) a
      exact ⟨d, by omega, h2⟩
theorem g_by_rg {t : Tt} {j : Int32} {v : Int32 → Bool} {S : Nat} : rg (g_by t j v S) S := by
  obtain ⟨c, h1, h2⟩ := fo_cnt (P := fun s => t.2.2.1 s = j ∧ v (t.2.2.2.2.1 s) = true) S 0 0
  exact ⟨c, by omega, h2⟩
theorem tx_crown {J N S : Nat} {h m : ck_H} {Q : Int32 → ck_H → Prop} (P : PR h m J N S) : ∀ (k j f : Nat) (b w : Int32), k < f → j + k = J → Q (crX (fun j => g_by (Tv h 7) (nI j) (fun v => decide (v = 1)) S) k j b w) h → wp_X11_crown_6 Q f b w (nI j) h := by
  have h4 := P.hJ
  intro k
  induction k with
  | zero =>
    intro j f b w hf hj q
    obtain ⟨f, rfl⟩ : ∃ g, f = g + 1 := ⟨f - 1, by omega⟩
    unfold wp_X11_crown_6
    exact pk_le J j (fun _ => q) (fun z => by omega) P.xJ rfl (by omega) (by omega)
  | succ k ih =>
    intro j f b w hf hj q
    obtain ⟨f, rfl⟩ : ∃ g, f = g + 1 := ⟨f - 1, by omega⟩
    unfold crX at q
    unfold wp_X11_crown_6 wp_X11_crown_38
    refine pk_le J j (fun z => by omega) (fun _ => tx_whole P ⟨fun c => ?_, fun c => ?_⟩) P.xJ rfl (by omega) (by omega)
    · rintro _ rfl; rw [if_pos c] at q; rw [nI_1]; exact ih (j + 1) f _ _ (by omega) (by omega) q
    · rintro _ rfl; rw [if_neg c] at q; rw [nI_1]; exact ih (j + 1) f _ _ (by omega) (by omega) q
theorem mm_crown {J N S : Nat} {h m : ck_H} {Q : Int32 → ck_H → Prop} (P : PR h m J N S) : ∀ (k j f : Nat) (b : Int32), k < f → j + k = J → (b = -1 ∨ ∃ i, i < J ∧ b = nI i) → Q (crM (fun j => g_by (Mv m 0) (nI j) (fun v => decide (v = 1)) S) k j b) m → wp_X12_crown_9 Q f b (nI j) m := by
  have h4 := P.hJ
  intro k
  induction k with
  | zero =>
    intro j f b hf hj hb q
    obtain ⟨f, rfl⟩ : ∃ g, f = g + 1 := ⟨f - 1, by omega⟩
    unfold wp_X12_crown_9
    exact pk_le J j (fun _ => q) (fun z => by omega) P.mJ rfl (by omega) (by omega)
  | succ k ih =>
    intro j f b hf hj hb q
    obtain ⟨f, rfl⟩ : ∃ g, f = g + 1 := ⟨f - 1, by omega⟩
    unfold crM at q
    unfold wp_X12_crown_9 wp_X12_crown_39 wp_X12_crown_41
    refine pk_le J j (fun z => by omega) (fun _ => ⟨fun c => ?_, fun c => ?_⟩) P.mJ rfl (by omega) (by omega)
    · rintro _ rfl; rw [if_pos c] at q; rw [nI_1]; exact ih (j + 1) f _ (by omega) (by omega) (Or.inr ⟨j, by omega, rfl⟩) q
    · rw [if_neg c] at q
      rcases hb with hb | ⟨i, hi, rfl⟩
      · exact absurd hb c
      rw [nI_clamp (n := i) (by omega)] at q
      refine mm_tried P (mm_tried P ?_)
      rw [g_by_whole, g_by_whole]
      refine ⟨fun c2 => ?_, fun c2 => ?_⟩
      · rintro _ rfl; rw [if_pos c2] at q; rw [nI_1]; exact ih (j + 1) f _ (by omega) (by omega) (Or.inr ⟨i, hi, rfl⟩) q
      · rintro _ rfl; rw [if_neg c2] at q; rw [nI_1]; exact ih (j + 1) f _ (by omega) (by omega) (Or.inr ⟨j, by omega, rfl⟩) q
theorem sim_crown {J N S : Nat} {h m : ck_H} (H : SimP J N S h m) : wp_X11_crown h (fun r h' => wp_X12_crown m (fun r' m' => r = r' ∧ Sim h' m')) := by
  have T := H.thr 0
  have P := T.pr
  have h4 := P.hJ; have h10 := P.hS
  refine tx_crown P J 0 lpN _ _ (by unfold lpN; omega) (by omega) ?_
  unfold wp_X12_crown
  rintro _ rfl
  refine mm_crown P J 0 lpN _ (by unfold lpN; omega) (by omega) (Or.inl rfl) ⟨?_, _, _, _, T⟩
  have e : (fun j => g_by (Mv (ck_sI m 0 0 0) 0) (nI j) (fun v => decide (v = 1)) S) = (fun j => g_by (Tv h 7) (nI j) (fun v => decide (v = 1)) S) := by
    funext j
    exact g_by_Q T.now _ _
  rw [e]
  cases J with
  | zero => rfl
  | succ k =>
    unfold crX crM
    rw [if_pos rfl, if_neg]
    · exact cr_eq k 1 0 (by omega) (by omega)
    · intro z
      obtain ⟨a, h1, h2⟩ := g_by_rg (t := Tv h 7) (j := nI 0) (v := fun v => decide (v = 1)) (S := S)
      rw [h2] at z
      rw [Int32.le_iff_toInt_le, nI_toInt (by omega)] at z
      have : (-1 : Int32).toInt = -1 := by decide
      omega
