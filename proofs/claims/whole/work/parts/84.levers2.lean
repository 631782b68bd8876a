theorem tx_ag {h : ck_H} {N : Nat} {Q : Int32 → ck_H → Prop} (hN : N ≤ 24) (he : (if h.1 22 6 = -1 then h.1 22 5 else h.1 22 6) = nI N) (hs : ∀ i, i < N → h.1 26 i = -1 → ∃ s, s < 10 ∧ h.1 23 i = nI s) :
    ∀ (k i f : Nat), k < f → i + k = N → Q (ag (h.1 27) (h.1 26) (h.1 23) (h.1 24) (h.1 25) (h.1 21) k i) h → wp_X6_agreeWith_2 Q f (nI i) h := by
  intro k
  induction k with
  | zero =>
    intro i f hf hi hq
    obtain ⟨f, rfl⟩ : ∃ g, f = g + 1 := ⟨f - 1, by omega⟩
    unfold wp_X6_agreeWith_2
    exact tx_cc he (pk_le N i (fun _ => hq) (fun z => by omega))
  | succ k ih =>
    intro i f hf hi hq
    obtain ⟨f, rfl⟩ : ∃ g, f = g + 1 := ⟨f - 1, by omega⟩
    unfold wp_X6_agreeWith_2 wp_X6_agreeWith_33 wp_X6_agreeWith_34
    have i24 : vp_in (nI i) 24 := pu_in (by omega) (by decide)
    have e75 : Q (ag (h.1 27) (h.1 26) (h.1 23) (h.1 24) (h.1 25) (h.1 21) k (i + 1)) h → wp_X6_agreeWith_75 Q (wp_X6_agreeWith_2 Q f) (nI i) h := by
      intro hK
      unfold wp_X6_agreeWith_75
      rintro _ rfl
      rw [nI_1]
      exact ih (i + 1) f (by omega) (by omega) hK
    unfold ag at hq
    refine tx_cc he (pk_le N i (fun z => by omega) (fun z => ⟨i24, ?_⟩))
    rw [nI_clamp (n := i) (by omega)]
    refine ⟨fun c => ⟨fun _ => ?_, fun z => absurd rfl z⟩, fun c => ⟨i24, fun c2 => ⟨fun _ => ?_, fun z => absurd rfl z⟩, fun c2 => ⟨fun z => absurd z (by decide), fun _ => ⟨i24, ?_⟩⟩⟩⟩
    · rw [if_neg (fun z => c z.1)] at hq; exact e75 hq
    · rw [if_neg (fun z => c2 z.2.1)] at hq; exact e75 hq
    · obtain ⟨s, h1, h2⟩ := hs i (by omega) c2
      rw [h2, nI_clamp (n := s) (by omega)] at hq ⊢
      refine ⟨pu_in h1 (by decide), i24, ?_⟩
      have e64 : ∀ y, (if h.1 21 s = h.1 24 i then (1 : Int32) else 0) = y → wp_X6_agreeWith_64 Q (wp_X6_agreeWith_2 Q f) (nI i) y h := by
        intro y hy
        unfold wp_X6_agreeWith_64
        rw [nI_clamp (n := i) (by omega)]
        rw [hy] at hq
        refine ⟨i24, fun c3 => ?_, fun c3 => ?_⟩
        · rw [if_neg (fun z => z.2.2 c3)] at hq; exact e75 hq
        · rw [if_pos ⟨c, c2, c3⟩] at hq; exact hq
      exact ⟨fun c3 => e64 0 (by rw [if_neg c3]), fun c3 => e64 1 (by rw [if_pos c3])⟩
theorem mm_ag {m : ck_H} {N : Nat} {Q : Int32 → ck_H → Prop} (hN : N ≤ 24) (he : (if m.1 0 63 = -1 then m.1 0 62 else m.1 0 63) = nI N) (hs : ∀ i, i < N → m.1 38 i = -1 → ∃ s, s < 10 ∧ m.1 35 i = nI s) :
    ∀ (k i f : Nat), k < f → i + k = N → Q (ag (m.1 39) (m.1 38) (m.1 35) (m.1 36) (m.1 37) (fun s => m.1 28 (10 + s)) k i) m → wp_X12_fitsLever_14 Q f (nI i) m := by
  intro k
  induction k with
  | zero =>
    intro i f hf hi hq
    obtain ⟨f, rfl⟩ : ∃ g, f = g + 1 := ⟨f - 1, by omega⟩
    unfold wp_X12_fitsLever_14
    exact mm_cc he (pk_le N i (fun _ => hq) (fun z => by omega))
  | succ k ih =>
    intro i f hf hi hq
    obtain ⟨f, rfl⟩ : ∃ g, f = g + 1 := ⟨f - 1, by omega⟩
    unfold wp_X12_fitsLever_14
    have i24 : vp_in (nI i) 24 := pu_in (by omega) (by decide)
    have e83 : Q (ag (m.1 39) (m.1 38) (m.1 35) (m.1 36) (m.1 37) (fun s => m.1 28 (10 + s)) k (i + 1)) m → wp_X12_fitsLever_83 Q (wp_X12_fitsLever_14 Q f) (nI i) m := by
      intro hK
      unfold wp_X12_fitsLever_83
      rintro _ rfl
      rw [nI_1]
      exact ih (i + 1) f (by omega) (by omega) hK
    unfold ag at hq
    refine mm_cc he (pk_le N i (fun z => by omega) (fun z => ⟨i24, ?_⟩))
    rw [nI_clamp (n := i) (by omega)]
    refine ⟨fun c => ?_, fun c => ⟨i24, fun c2 => ⟨i24, ?_⟩, fun c2 => ?_⟩⟩
    · rw [if_neg (fun z => c z.1)] at hq; exact e83 hq
    · obtain ⟨s, h1, h2⟩ := hs i (by omega) c2
      rw [h2, show (10 : Int32) + nI s = nI (10 + s) from nI_add 10 s, nI_clamp (n := 10 + s) (by omega)]
      rw [h2, nI_clamp (n := s) (by omega)] at hq
      refine ⟨pu_in (by omega) (by decide), i24, ?_⟩
      have e72 : ∀ y, (if m.1 28 (10 + s) = m.1 36 i then (1 : Int32) else 0) = y → wp_X12_fitsLever_72 Q (wp_X12_fitsLever_14 Q f) (nI i) y m := by
        intro y hy
        unfold wp_X12_fitsLever_72
        rw [nI_clamp (n := i) (by omega)]
        rw [hy] at hq
        refine ⟨i24, fun c3 => ?_, fun c3 => ?_⟩
        · rw [if_neg (fun z => z.2.2 c3)] at hq; exact e83 hq
        · rw [if_pos ⟨c, c2, c3⟩] at hq; exact hq
      exact ⟨fun c3 => e72 0 (by rw [if_neg c3]), fun c3 => e72 1 (by rw [if_pos c3])⟩
    · rw [if_neg (fun z => c2 z.2.1)] at hq; exact e83 hq
/-! a verdict stays -/
theorem T_from_keep {p : Nat → Nat → Int32} {md : Md} {s : Nat} : ∀ (k s0 : Nat) (t : Tt), ¬ t.2.2.2.1 s = t.1 5 → (T_from p md k s0 t).2.2.2.2.1 s = t.2.2.2.2.1 s := by
  intro k
  induction k with
  | zero => exact fun _ _ _ => rfl
  | succ k ih =>
    intro s0 t h
    have b := T_one_5 p md t s0
    unfold T_from
    rw [ih (s0 + 1) (T_one p md t s0) (by rw [b.2.2.2, b.1]; exact h)]
    by_cases c : s = s0
    · subst c
      unfold T_one
      rw [if_neg (fun z => h z.1)]
    · exact T_one_vd.2.1 c
theorem T_day_5 {p : Nat → Nat → Int32} {md : Md} {S : Nat} {t : Tt} : (T_day p md S t).1 5 = t.1 5 + 1 ∧ (T_day p md S t).2.2.1 = t.2.2.1 ∧ (T_day p md S t).2.2.2.1 = t.2.2.2.1 := by
  unfold T_day
  have f := T_from_5 p md S 0 (T_clr t)
  refine ⟨T_mov_5, ?_, ?_⟩
  · rw [T_mov_r]; exact f.2.2.1
  · rw [T_mov_r]; exact f.2.2.2
theorem T_days_5 {p : Nat → Nat → Int32} {md : Md} {S : Nat} : ∀ (k d : Nat) (t : Tt), t.1 5 = nI d → (T_days p md S k t).1 5 = nI (d + k) ∧ (T_days p md S k t).2.2.1 = t.2.2.1 ∧ (T_days p md S k t).2.2.2.1 = t.2.2.2.1 := by
  intro k
  induction k with
  | zero => exact fun _ _ h => ⟨h, rfl, rfl⟩
  | succ k ih =>
    intro d t h
    have a := T_day_5 (p := p) (md := md) (S := S) (t := t)
    have b := ih (d + 1) (T_day p md S t) (by rw [a.1, h, nI_1])
    rw [show d + (k + 1) = d + 1 + k by omega]
    exact ⟨b.1, b.2.1.trans a.2.1, b.2.2.trans a.2.2⟩
theorem T_days_keep {p : Nat → Nat → Int32} {md : Md} {S s q : Nat} : ∀ (k D : Nat) (t : Tt), t.1 5 = nI D → D + k < 2 ^ 30 → t.2.2.2.1 s = nI q → q < D → (T_days p md S k t).2.2.2.2.1 s = t.2.2.2.2.1 s := by
  intro k
  induction k with
  | zero => exact fun _ _ _ _ _ _ => rfl
  | succ k ih =>
    intro D t h hD hs hq
    have a := T_day_5 (p := p) (md := md) (S := S) (t := t)
    have b := ih (D + 1) (T_day p md S t) (by rw [a.1, h, nI_1]) (by omega) (by rw [a.2.2]; exact hs) (by omega)
    refine b.trans ?_
    unfold T_day
    rw [T_mov_r]
    refine T_from_keep S 0 (T_clr t) ?_
    show ¬ t.2.2.2.1 s = t.1 5
    rw [hs, h, nI_eq (by omega) (by omega)]
    omega
theorem tx_ft {J N S l : Nat} {h m : ck_H} {Q : ck_H → Prop} (P : PR h m J N S) (q : ∀ h2, XF h h2 → h2.2 = h.2 → mdX h2 = md0 (nI l) → TQ J S (Tv h2 17) (T_bg (pl h) (nI l) (h.2 74 11)) → Q h2) : wp_X0_thinkFromTextWith (nI l) h Q := by
  have hJ := P.hJ; have hS := P.hS
  unfold wp_X0_thinkFromTextWith
  refine tx_as (fun h1 a1 a2 a3 a4 => ?_)
  intro h2 e2
  have g2 : ∀ a, a ≠ 74 → a ≠ 76 → h2.1 a = h.1 a := fun a b1 b2 => by rw [e2, ck_sI_ne _ _ _ b1, a1 a b1 b2]
  have z2 : h2.2 = h.2 := by rw [e2]; exact a2
  have em2 : mdX h2 = md0 (nI l) := by
    have k6 : decide (¬ h1.1 74 6 = 0) = false := congrArg (fun z : Md => z.1) a3
    have k7 : decide (¬ h1.1 74 7 = 0) = false := congrArg (fun z : Md => z.2.1) a3
    have k8 : decide (¬ h1.1 74 8 = 0) = false := congrArg (fun z : Md => z.2.2.1) a3
    have k9 : h1.1 74 9 = -1 := congrArg (fun z : Md => z.2.2.2.1) a3
    have k10 : decide (¬ h1.1 74 10 = 0) = false := congrArg (fun z : Md => z.2.2.2.2.1) a3
    have r : ∀ i, i ≠ 5 → h2.1 74 i = h1.1 74 i := fun i hi => by rw [e2, ck_sI_nj _ _ hi]
    have r5 : h2.1 74 5 = nI l := by rw [e2, ck_sI_at]
    unfold mdX md0
    rw [r 6 (by decide), r 7 (by decide), r 8 (by decide), r 9 (by decide), r 10 (by decide), r5, k6, k7, k8, k9, k10]
  refine tx_bg (Or.inr rfl) (by omega) (fun h3 x1 x2 x3 x4 x5 => ?_)
  rintro _ rfl
  have tq := tx_bgT x2 x3 x4 x5 hJ hS
  rw [pl_eq (fun a b1 b2 => g2 a (by omega) (by omega)), z2] at tq
  refine q _ (fun a b1 b2 b3 => ?_) ?_ ?_ ?_
  · rw [ck_sI_ne _ _ _ (by omega), x1 a (by omega), g2 a b2 b3]
  · rw [ck_sI_2, x2, z2]
  · rw [← em2]
    unfold mdX
    rw [ck_sI_ne _ _ _ (by decide), x1 74 (by omega)]
  · rw [Tv_6]
    refine (T_undo_Q tq).tr ⟨⟨?_, ?_, ?_, ?_⟩, fun _ _ => rfl, fun _ _ => ⟨rfl, rfl, rfl⟩, rfl⟩
    · simp [T_undo, T_bg, upd]
    · simp [T_undo, T_bg, upd]
    · simp [T_undo, T_bg, upd]
    · simp [T_undo, T_bg, upd]
def LM (m m' : ck_H) : Prop := (∀ a i, ¬ inB a 1 i → ¬ (a = 0 ∧ (i = 34 ∨ i = 48 ∨ i = 50)) → m'.1 a i = m.1 a i) ∧ m'.1 0 50 = m.1 0 50
theorem mm_fits {J N S K l n : Nat} {h m m' : ck_H} {Q : Int32 → ck_H → Prop} (T : SimP J N S h m) (hm : LM m m') (e48 : m'.1 0 48 = nI l) (h1 : 1 ≤ l) (h2 : l ≤ 99) (hn : n ≤ 100) (hK : K ≤ 24) (he : (if m.1 0 63 = -1 then m.1 0 62 else m.1 0 63) = nI K) (hs : ∀ i, i < K → m.1 38 i = -1 → ∃ s, s < S ∧ m.1 35 i = nI s)
    (q : ∀ m2, LM m m2 → Q (ag (m.1 39) (m.1 38) (m.1 35) (m.1 36) (m.1 37) (T_days (pl h) (md0 (nI l)) S n (T_bg (pl h) (nI l) (m.1 0 50).toInt64)).2.2.2.2.1 K 0) m2) : wp_X12_fitsLever (nI n - 1) m' Q := by
  have hJ := T.pr.hJ; have hS := T.pr.hS
  obtain ⟨k1, k2⟩ := hm
  have row : ∀ a, a ≠ 0 → (a < 20 ∨ 28 < a) → m'.1 a = m.1 a := fun a a0 ha => by funext i; exact k1 a i (by unfold inB; omega) (by omega)
  have P' : PR h m' J N S := T.pr.kept (fun _ _ _ => rfl) (fun a b1 b2 => row a (by omega) (by omega))
  unfold wp_X12_fitsLever
  rw [Int32.sub_add_cancel]
  refine mm_st (b := 1) P' (by decide) (fun m1 f1 q1 z1 => ?_)
  rw [e48, if_neg (nI_nm1 (by omega)), k2] at q1
  have P1 : PR h m1 J N S := P'.kept (fun _ _ _ => rfl) (fun a b1 b2 => by funext i; exact f1 a i (by unfold inB; omega))
  have em1 : mdM m1 = md0 (nI l) := by
    obtain ⟨a1, a2, a3, a4⟩ := T.mode
    unfold mdM md0
    rw [f1 0 46 (by unfold inB; omega), f1 0 47 (by unfold inB; omega), f1 0 48 (by unfold inB; omega), f1 0 49 (by unfold inB; omega), k1 0 46 (by unfold inB; omega) (by omega), k1 0 47 (by unfold inB; omega) (by omega), k1 0 49 (by unfold inB; omega) (by omega), e48, a1, a4, if_neg (by decide), if_neg (nI_nm1 (by omega))]
    rfl
  have sd : SdOk (T_bg (pl h) (nI l) (m.1 0 50).toInt64) := by
    obtain ⟨d, d1, d2⟩ := T.sd0
    exact ⟨d, d1, d2⟩
  refine mm_run P1 (T_bg_Ok P1 h1 h2) sd q1 z1 em1 ⟨l, h1, h2, rfl⟩ (by omega) (by omega) (fun m2 q2 z2 f2 => ?_)
  have e50 : m2.1 0 50 = m.1 0 50 := by
    have e : (m2.1 0 50).toInt64 = (T_days (pl h) (md0 (nI l)) S n (T_bg (pl h) (nI l) (m.1 0 50).toInt64)).2.2.2.2.2.2 := q2.2.2.2
    rw [T_days_sd0 rfl] at e
    have e : (m2.1 0 50).toInt64 = (m.1 0 50).toInt64 := e
    rw [← i64_i32 (m2.1 0 50), e, i64_i32]
  have lm : LM m m2 := ⟨fun a i b1 b2 => by rw [f2 a i b1 (by omega), f1 a i b1]; exact k1 a i b1 b2, e50⟩
  have row2 : ∀ a, a ≠ 0 → (a < 20 ∨ 28 < a) → m2.1 a = m.1 a := fun a a0 ha => by funext i; exact lm.1 a i (by unfold inB; omega) (by omega)
  refine mm_ag hK (by rw [lm.1 0 63 (by unfold inB; omega) (by omega), lm.1 0 62 (by unfold inB; omega) (by omega)]; exact he) (fun i hi c => ?_) K 0 lpN (by unfold lpN; omega) (by omega) ?_
  · rw [row2 38 (by omega) (by omega)] at c
    obtain ⟨s, s1, s2⟩ := hs i hi c
    exact ⟨s, by omega, by rw [row2 35 (by omega) (by omega)]; exact s2⟩
  · have e := q m2 lm
    have ea : ag (m2.1 39) (m2.1 38) (m2.1 35) (m2.1 36) (m2.1 37) (fun s => m2.1 28 (10 + s)) K 0 = ag (m.1 39) (m.1 38) (m.1 35) (m.1 36) (m.1 37) (T_days (pl h) (md0 (nI l)) S n (T_bg (pl h) (nI l) (m.1 0 50).toInt64)).2.2.2.2.1 K 0 := by
      refine ag_congr K 0 (fun j _ hj => ?_)
      rw [row2 39 (by omega) (by omega), row2 38 (by omega) (by omega), row2 35 (by omega) (by omega), row2 36 (by omega) (by omega), row2 37 (by omega) (by omega)]
      refine ⟨rfl, rfl, fun _ c => ⟨rfl, rfl, rfl, ?_⟩⟩
      obtain ⟨s, s1, s2⟩ := hs j (by omega) c
      rw [s2, nI_clamp (n := s) (by omega)]
      exact (q2.2.2.1 s s1).2.2
    rw [ea]
    exact e
theorem sim_levers {J N S : Nat} {h m : ck_H} (H : SimP J N S h m) : wp_X11_levers h (fun r h' => wp_X12_levers m (fun r' m' => r = r' ∧ Sim h' m')) := by
  have T := H.thr 0
  have P := T.pr
  have hJ := P.hJ; have hS := P.hS
  generalize hM : ck_sI m 0 0 0 = M at T P
  obtain ⟨c, n1, n2, n3, n4, n5, n6⟩ := T.notes
  obtain ⟨K, hK, eK⟩ : ∃ K, K ≤ c ∧ (if h.1 22 6 = -1 then h.1 22 5 else h.1 22 6) = nI K := by
    rcases n5 with z | ⟨a, a1, a2⟩
    · exact ⟨c, Nat.le_refl _, by rw [if_pos z]; exact n2⟩
    · exact ⟨a, a1, by rw [if_neg (by rw [a2]; exact nI_nm1 (by omega))]; exact a2⟩
  have eKm : (if M.1 0 63 = -1 then M.1 0 62 else M.1 0 63) = nI K := by rw [← n4, n3, ← n2]; exact eK
  have hst : ∀ i, i < K → h.1 26 i = -1 ∨ ∃ j, j < i ∧ h.1 26 i = nI j := fun i hi => by
    rcases (n6 i (by omega)).2 with z | z
    · exact Or.inl z.1
    · exact Or.inr z
  have hsu : ∀ i, i < K → h.1 26 i = -1 → (M.1 35 i = h.1 23 i ∧ (∃ s, s < S ∧ h.1 23 i = nI s) ∧ M.1 36 i = h.1 24 i ∧ M.1 37 i = h.1 25 i) := fun i hi e => by
    rcases (n6 i (by omega)).2 with z | ⟨k, _, ek⟩
    · exact z.2
    · rw [ek] at e; exact absurd e (nI_nm1 (by omega))
  unfold wp_X11_levers
  refine tx_fs (K := K) (by omega) eK hst (fun h1 x1 x2 x3 => ?_)
  have T1 : SimP J N S h1 M := T.keep ⟨fun a ha => x1 a (by omega), by rw [x2]⟩ (kM.rf M)
  generalize hG : (fun l n => ag (sk (h.1 26) K (fun _ => 0)) (h.1 26) (h.1 23) (h.1 24) (h.1 25) (T_days (pl h) (md0 (nI l)) S n (T_bg (pl h) (nI l) (h.2 74 11))).2.2.2.2.1 K 0 : Nat → Nat → Int32) = G
  have tx : ∀ (F : Int32 → Nat → Int32), F = (fun z i => if G (10 * i + 5) 100 = 0 then z else z ||| ((1 : Int32) <<< (nI i &&& 31))) → (∀ h', kX h h' → wp_X12_levers m (fun r' m' => fo F 10 0 0 = r' ∧ Sim h' m')) → wp_X11_levers_11 (fun r h' => wp_X12_levers m (fun r' m' => r = r' ∧ Sim h' m')) lpN 0 0 h1 := by
    intro F hF fin
    refine lp_foH (fun f z i h' => wp_X11_levers_11 (fun r h' => wp_X12_levers m (fun r' m' => r = r' ∧ Sim h' m')) f z (nI i) h') (fun h' => XF h1 h' ∧ h'.2 74 11 = h.2 74 11) F 10 (fun z => z = fo F 10 0 0) ?_ ?_ 10 0 lpN 0 h1 ⟨XF.rf _, by rw [x2]⟩ (by decide) (by omega) rfl
    · rintro f z h' ⟨A, A2⟩ rfl
      unfold wp_X11_levers_11
      refine pk_le 10 10 (fun _ => fin h' ⟨fun a ha => ?_, A2⟩) (fun z => by omega)
      rw [A a (by omega) (by omega) (by omega), x1 a (by omega)]
    · rintro f z i h' ⟨A, A2⟩ hi k
      unfold wp_X11_levers_11
      refine pk_le 10 i (fun z => by omega) (fun _ => ?_)
      rw [show (10 : Int32) * nI i + 5 = nI (10 * i + 5) by rw [show (10 : Int32) = nI 10 from rfl, show (5 : Int32) = nI 5 from rfl, pk_mul, nI_add]]
      have P' : PR h' M J N S := A.pr T1.pr
      refine tx_ft P' (fun h2 y1 y2 y3 y4 => ?_)
      rw [A.pl, A2] at y4
      have xf : XF h1 h2 := A.tr y1
      refine tx_run (m := M) (n := 100) (B := 0) (md := md0 (nI (10 * i + 5))) T1.pr xf (T_bg_Ok T1.pr (by omega) (by omega)) y4 y3 ⟨10 * i + 5, by omega, by omega, rfl⟩ (by omega) (fun h3 w1 w2 w3 => ?_)
      have ep : pl h1 = pl h := pl_eq (fun a b1 b2 => x1 a (by omega))
      rw [ep] at w3
      have rw3 : ∀ a, 22 ≤ a → a ≤ 26 → h3.1 a = h.1 a := fun a b1 b2 => by rw [w1 a (by omega) (by omega) (by omega), x1 a (by omega)]
      have r27 : ∀ j, j < K → h3.1 27 j = sk (h.1 26) K (fun _ => 0) j := fun j hj => by rw [w1 27 (by omega) (by omega) (by omega)]; exact x3 j hj
      have d3 : h3.2 74 11 = h.2 74 11 := by
        have e : h3.2 74 11 = (T_days (pl h) (md0 (nI (10 * i + 5))) S 100 (T_bg (pl h) (nI (10 * i + 5)) (h.2 74 11))).2.2.2.2.2.2 := w3.2.2.2
        rw [e, T_days_sd0 rfl]
        rfl
      unfold wp_X6_agreeWith
      refine tx_ag (N := K) (by omega) (by rw [rw3 22 (by omega) (by omega)]; exact eK) (fun j hj e => ?_) K 0 lpN (by unfold lpN; omega) (by omega) ?_
      · rw [rw3 26 (by omega) (by omega)] at e
        obtain ⟨_, ⟨s, s1, s2⟩, _⟩ := hsu j hj e
        exact ⟨s, by omega, by rw [rw3 23 (by omega) (by omega)]; exact s2⟩
      · have ea : ag (h3.1 27) (h3.1 26) (h3.1 23) (h3.1 24) (h3.1 25) (h3.1 21) K 0 = G (10 * i + 5) 100 := by
          rw [← hG]
          refine ag_congr K 0 (fun j _ hj => ?_)
          rw [rw3 26 (by omega) (by omega), rw3 23 (by omega) (by omega), rw3 24 (by omega) (by omega), rw3 25 (by omega) (by omega)]
          refine ⟨r27 j (by omega), rfl, fun _ c => ⟨rfl, rfl, rfl, ?_⟩⟩
          obtain ⟨_, ⟨s, s1, s2⟩, _⟩ := hsu j (by omega) c
          rw [s2, nI_clamp (n := s) (by omega)]
          exact (w3.2.2.1 s s1).2.2
        rw [ea]
        have k := k h3 ⟨w1, d3⟩
        rw [hF] at k
        unfold wp_X11_levers_63
        refine ⟨fun cc => ?_, fun cc => ?_⟩
        · rintro _ rfl
          rw [nI_1]
          have k' := k
          simp only [if_pos cc] at k'
          exact k'
        · rintro _ rfl _ rfl
          rw [nI_1]
          have k' := k
          simp only [if_neg cc] at k'
          exact k'
  refine tx _ rfl (fun h2 k2 => ?_)
  unfold wp_X12_levers
  rw [hM]
  intro m0 e0
  rw [e0]
  refine mm_lv9 (n := K) (by omega) K 0 lpN M (by unfold lpN; omega) (by omega) eKm (fun m1 a1 a2 => ?_)
  refine mm_cc (K := K) (by rw [a1 0 (by decide)]; exact eKm) ?_
  rintro _ rfl
  have e38 : ∀ i, i < K → M.1 38 i = h.1 26 i := fun i hi => (n6 i (by omega)).1
  refine mm_lv37 K lpN m1 (by unfold lpN; omega) (by omega) (fun i hi => by rw [a1 38 (by decide), e38 i hi]; exact hst i hi) (fun m2 b1 b2 => ?_)
  have r2 : ∀ a, a ≠ 39 → m2.1 a = M.1 a := fun a ha => by rw [b1 a ha, a1 a ha]
  have k1 : kM M m2 := fun a i _ _ h3 _ => by rw [r2 a h3]
  have T2 : SimP J N S h m2 := T.keep (kX.rf h) k1
  have z39 : ∀ i, i < K → m2.1 39 i = sk (h.1 26) K (fun _ => 0) i := fun i hi => by
    rw [b2]
    refine sk_congr (n := K) (fun j hj => by rw [a1 38 (by decide)]; exact e38 j hj) K _ _ (Nat.le_refl _) (fun j hj => ?_) i hi
    rw [a2 j, if_pos (by omega)]
  have hs80 : ∀ i, i < K → m2.1 38 i = -1 → ∃ s q, s < 10 ∧ q ≤ 99 ∧ m2.1 35 i = nI s ∧ m2.1 13 s = nI q := fun i hi e => by
    rw [r2 38 (by decide), e38 i hi] at e
    obtain ⟨u1, ⟨s, s1, s2⟩, _⟩ := hsu i hi e
    obtain ⟨q, q1, q2⟩ := P.rda s s1
    exact ⟨s, q, by omega, q1, by rw [r2 35 (by decide), u1]; exact s2, by rw [r2 13 (by decide), P.da s s1]; exact q2⟩
  have e2K : (if m2.1 0 63 = -1 then m2.1 0 62 else m2.1 0 63) = nI K := by rw [r2 0 (by decide)]; exact eKm
  refine mm_lv80 (m := m2) (N := K) (by omega) e2K hs80 K 0 lpN 0 (by unfold lpN; omega) (by omega) (by omega) ?_
  generalize hdd : (fun i => (m2.1 13 (m2.1 35 i).toNatClampNeg).toNatClampNeg) = dd
  have hn100 : la (m2.1 39) (m2.1 38) dd K 0 0 ≤ 100 := la_le K 0 0 (by omega) (fun j _ hj _ e => by
    obtain ⟨s, q, s1, q1, u1, u2⟩ := hs80 j (by omega) e
    rw [← hdd]
    dsimp only
    rw [u1, nI_clamp (n := s) (by omega), u2, nI_clamp (n := q) (by omega)]
    exact q1)
  have hlt : ∀ j, j < K → m2.1 39 j = 0 → m2.1 38 j = -1 → dd j < la (m2.1 39) (m2.1 38) dd K 0 0 := fun j hj e1 e2 => la_lt K 0 0 j (by omega) (by omega) e1 e2
  generalize la (m2.1 39) (m2.1 38) dd K 0 0 = n at hn100 hlt
  have sde : (m2.1 0 50).toInt64 = h.2 74 11 := T2.now.2.2.2
  have agE : ∀ l, ag (m2.1 39) (m2.1 38) (m2.1 35) (m2.1 36) (m2.1 37) (T_days (pl h) (md0 (nI l)) S n (T_bg (pl h) (nI l) (m2.1 0 50).toInt64)).2.2.2.2.1 K 0 = G l 100 := by
    intro l
    rw [← hG, sde]
    refine ag_congr K 0 (fun j _ hj => ?_)
    rw [r2 38 (by decide), r2 35 (by decide), r2 36 (by decide), r2 37 (by decide), e38 j (by omega)]
    refine ⟨z39 j (by omega), rfl, fun e1 e2 => ?_⟩
    obtain ⟨u1, ⟨s, s1, s2⟩, u3, u4⟩ := hsu j (by omega) e2
    refine ⟨u1, u3, u4, ?_⟩
    rw [u1, s2, nI_clamp (n := s) (by omega)]
    obtain ⟨q, q1, q2⟩ := P.rda s s1
    have hq : q < n := by
      have := hlt j (by omega) e1 (by rw [r2 38 (by decide), e38 j (by omega)]; exact e2)
      rw [← hdd] at this
      dsimp only at this
      rw [r2 35 (by decide), u1, s2, nI_clamp (n := s) (by omega), r2 13 (by decide), P.da s s1, q2, nI_clamp (n := q) (by omega)] at this
      exact this
    have d5 := T_days_5 (p := pl h) (md := md0 (nI l)) (S := S) n 0 (T_bg (pl h) (nI l) (h.2 74 11)) rfl
    have e100 : T_days (pl h) (md0 (nI l)) S 100 (T_bg (pl h) (nI l) (h.2 74 11)) = T_days (pl h) (md0 (nI l)) S (100 - n) (T_days (pl h) (md0 (nI l)) S n (T_bg (pl h) (nI l) (h.2 74 11))) := by
      rw [← T_days_add, show n + (100 - n) = 100 by omega]
    rw [e100]
    refine (T_days_keep (100 - n) n _ ?_ (by omega) (q := q) ?_ hq).symm
    · rw [d5.1, show 0 + n = n by omega]
    · rw [d5.2.2]; exact q2
  generalize hF : (fun (z : Int32) (i : Nat) => if G (10 * i + 5) 100 = 0 then z else z ||| ((1 : Int32) <<< (nI i &&& 31))) = F
  refine lp_foH (fun f z i m' => wp_X12_levers_133 (fun r' m' => fo F 10 0 0 = r' ∧ Sim h2 m') (fun x45 h44 => (∀ h46, h46 = ck_sI h44 0 48 (-1 : Int32) → fo F 10 0 0 = x45 ∧ Sim h2 h46)) f (nI n - 1) z (nI i) m') (fun m' => LM m2 m') F 10 (fun z => z = fo F 10 0 0) ?_ ?_ 10 0 lpN 0 m2 ⟨fun _ _ _ _ => rfl, rfl⟩ (by decide) (by omega) rfl
  · rintro f z m3 lm rfl
    unfold wp_X12_levers_133
    refine pk_le 10 10 (fun _ => ?_) (fun z => by omega)
    rintro _ rfl
    refine ⟨rfl, J, N, S, T.keep k2 (k1.tr (fun a i b1 b2 b3 b4 => ?_))⟩
    by_cases ca : a = 0
    · subst ca
      have b4 := b4 rfl
      by_cases c48 : i = 48
      · subst c48; rw [ck_sI_at]; exact T2.mode.2.2.1.symm
      · rw [ck_sI_nj _ _ c48]
        by_cases c50 : i = 50
        · subst c50; exact lm.2
        · exact lm.1 0 i b1 (by omega)
    · rw [ck_sI_ne _ _ _ ca]; exact lm.1 a i b1 (by omega)
  · rintro f z i m3 lm hi k
    unfold wp_X12_levers_133
    refine pk_le 10 i (fun z => by omega) (fun _ => ?_)
    rw [show (10 : Int32) * nI i + 5 = nI (10 * i + 5) by rw [show (10 : Int32) = nI 10 from rfl, show (5 : Int32) = nI 5 from rfl, pk_mul, nI_add]]
    rintro _ rfl
    have lm4 : LM m2 (ck_sI m3 0 48 (nI (10 * i + 5))) := by
      refine ⟨fun a j b1 b2 => ?_, by rw [ck_sI_nj _ _ (by decide)]; exact lm.2⟩
      by_cases ca : a = 0
      · subst ca; rw [ck_sI_nj _ _ (by omega)]; exact lm.1 0 j b1 b2
      · rw [ck_sI_ne _ _ _ ca]; exact lm.1 a j b1 b2
    refine mm_fits (K := K) T2 lm4 (ck_sI_at ..) (by omega) (by omega) hn100 (by omega) e2K (fun j hj e => ?_) (fun m5 lm5 => ?_)
    · rw [r2 38 (by decide), e38 j hj] at e
      obtain ⟨u1, ⟨s, s1, s2⟩, _⟩ := hsu j hj e
      exact ⟨s, s1, by rw [r2 35 (by decide), u1]; exact s2⟩
    · rw [agE]
      have k := k m5 lm5
      unfold wp_X12_levers_165
      refine ⟨fun cc => ?_, fun cc => ?_⟩
      · rintro _ rfl _ rfl
        rw [nI_1, Int32.or_zero]
        have e : F z i = z := by rw [← hF]; exact if_pos cc
        rw [e] at k
        exact k
      · rintro _ rfl _ rfl
        rw [nI_1]
        have e : F z i = z ||| ((1 : Int32) <<< (nI i &&& 31)) := by rw [← hF]; exact if_neg cc
        rw [e] at k
        exact k
