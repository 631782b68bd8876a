/-! days that go by -/
theorem AS.fr {h h0 h1 h' : ck_H} (A : AS h0 h1) (f : frT 7 h1 h') (e : ∀ a, a ≠ 28 → h0.1 a = h.1 a) : ∀ a, (a < 7 ∨ 11 < a) → a ≠ 28 → a ≠ 74 → a ≠ 76 → h'.1 a = h.1 a := fun a a1 a2 a3 a4 => by
  rw [f.1 a (by omega) (by omega) (by omega) a3 a4, A.1 a a3 a4, e a a2]
theorem tx_go38 {J N S n : Nat} {h m : ck_H} {Q : Int32 → ck_H → Prop} (T : SimP J N S h m) (hn : n ≤ 1000) (q : ∀ h', (∀ a, (a < 7 ∨ 11 < a) → a ≠ 74 → a ≠ 76 → h'.1 a = h.1 a) → TQ J S (Tv h' 7) (T_days (pl h) (mdM m) S n (Mv m 0)) → Q (h'.1 7 5) h') : wp_X11_go_38 Q (nI n) h := by
  have P := T.pr
  unfold wp_X11_go_38
  refine AS.of (fun h1 A => ?_)
  have P1 : PR h1 m J N S := P.kept (fun a a1 a2 => A.1 a (by omega) (by omega)) (fun _ _ _ => rfl)
  have ok1 : TOk 9900 J S (Tv h1 7) := T.tok.q (A.tq T).1.sy
  have okT : OkT h1 7 S := by
    refine ⟨P1.hS, P1.xS, P1.lr.ok, fun s hs => ⟨?_, ?_⟩⟩
    · obtain ⟨j, hj, ej⟩ := ok1.2.2.2.1 s hs
      exact ⟨j, by have := P.hJ; omega, ej⟩
    · obtain ⟨k, hk, ek⟩ := P1.rno s hs
      exact ⟨k, by have := P.hN; omega, ek⟩
  refine tx_pass (Or.inl rfl) okT (fun h' e f => q h' (fun a a1 a2 a3 => ?_) ?_)
  · rw [f.1 a (by omega) (by omega) (by omega) a2 a3, A.1 a a2 a3]
  · rw [e]
    obtain ⟨v, hv, ev⟩ := P1.rvac
    obtain ⟨d, hd, ed⟩ := ok1.1
    have hl : ∃ a, 1 ≤ a ∧ a ≤ 99 ∧ (mdX h1).2.2.2.2.2 = nI a := by rw [A.2.2.1]; exact P.rlev
    have := T_leap_11 (n := n) P.hJ P.hS (p := pl h1) (md := mdX h1) P1.rtee hl ev hv ok1 ed hd (by omega)
    refine this.tr ?_
    rw [A.pl, A.2.2.1, ← T.md]
    exact T_days_Q P.hJ P.rtee T.hl n 9900 _ _ ok1 (A.tq T).1
theorem mm_go42 {Q : Int32 → ck_H → Prop} {h : ck_H} {J N S n : Nat} (hn : n ≤ 1000) : ∀ (k i f B : Nat) (m : ck_H), k < f → i + k = n → B + k < 2 ^ 30 → PR h m J N S → TOk B J S (Mv m 0) → SdOk (Mv m 0) → LZ J (Mv m 0) → (∃ a, 1 ≤ a ∧ a ≤ 99 ∧ (mdM m).2.2.2.2.2 = nI a) →
    (∀ m', TQ J S (Mv m' 0) (T_days (pl h) (mdM m) S k (Mv m 0)) → LZ J (Mv m' 0) → FB 0 m m' → Q (m'.1 20 0) m') → wp_X12_go_42 Q f (nI n) (nI i) m := by
  intro k
  induction k with
  | zero =>
    intro i f B m hf hs hB hP hT hd hz hl hq
    obtain ⟨f, rfl⟩ : ∃ g, f = g + 1 := ⟨f - 1, by omega⟩
    unfold wp_X12_go_42
    exact pk_le n i (fun _ => hq m (TQ.rf _ _ _) hz (FB.rf 0 m)) (fun z => by omega)
  | succ k ih =>
    intro i f B m hf hs hB hP hT hd hz hl hq
    obtain ⟨f, rfl⟩ : ∃ g, f = g + 1 := ⟨f - 1, by omega⟩
    unfold wp_X12_go_42
    refine pk_le n i (fun z => by omega) (fun _ => ?_)
    refine mm_passes (b := 0) hP (by decide) (by omega) hT hd hz (fun m1 q1 z1 f1 => ?_)
    rintro _ rfl
    rw [nI_1]
    have hT1 : TOk (B + 1) J S (T_day (pl h) (mdM m) S (Mv m 0)) := T_day_Ok hP.hJ hP.rtee hl hT
    refine ih (i + 1) f (B + 1) m1 (by omega) (by omega) (by omega) (f1.pr hP) (hT1.q q1.sy) ((T_day_Sd hd).q q1.sy) z1 (by rw [f1.md]; exact hl) (fun m2 q2 z2 f2 => hq m2 (q2.tr ?_) z2 (f1.tr f2))
    rw [f1.md]
    exact T_days_Q hP.hJ hP.rtee hl k (B + 1) _ _ (hT1.q q1.sy) q1
theorem SimP.went {J N S n d : Nat} {h m h' m' : ck_H} (T : SimP J N S h m) (ed : h.1 7 5 = nI d) (hd : d + n ≤ 9900) (hz : n = 0 ∨ (h.1 28 3 = 0 ∧ m.1 0 45 = 0))
    (x : ∀ a, (a < 7 ∨ 11 < a) → a ≠ 74 → a ≠ 76 → h'.1 a = h.1 a) (qx : TQ J S (Tv h' 7) (T_days (pl h) (mdM m) S n (Mv m 0))) (qm : TQ J S (Mv m' 0) (T_days (pl h) (mdM m) S n (Mv m 0))) (z : LZ J (Mv m' 0)) (f : FB 0 m m') : SimP J N S h' m' := by
  have P := T.pr
  have hJ := P.hJ; have hS := P.hS
  have sd : (T_days (pl h) (mdM m) S n (Mv m 0)).2.2.2.2.2.2 = (Mv m 0).2.2.2.2.2.2 := T_days_sd0 T.nch n _
  have e50 : m'.1 0 50 = m.1 0 50 := by
    have e : (m'.1 0 50).toInt64 = (m.1 0 50).toInt64 := qm.2.2.2.trans sd
    rw [← i64_i32 (m'.1 0 50), e, i64_i32]
  have e11 : h'.2 74 11 = h.2 74 11 := (qx.2.2.2.trans sd).trans T.now.2.2.2
  have tok : TOk d J S (Mv m 0) := ⟨⟨d, Nat.le_refl _, by rw [T.now.1.2.1]; exact ed⟩, T.tok.2⟩
  have ok : TOk 9900 J S (T_days (pl h) (mdM m) S n (Mv m 0)) := (T_days_Ok hJ P.rtee T.hl n d _ tok).le hd
  have bq : ∀ b, b ≠ 0 → TQ J S (Mv m' b) (Mv m b) ∧ TL J (Mv m' b) (Mv m b) := fun b hb => Mv_same hJ hS (fun a i hi => f a i (by unfold inB at hi ⊢; omega) (by unfold inB at hi; omega)) e50
  refine T.to (fun a ha => x a (by omega) (by omega) (by omega)) (fun i hi => by rw [x 0 (by omega) (by omega) (by omega)]) (fun a a0 ha => f.row a0 (by omega)) (fun i hi => f.fl (by omega) (by omega)) (qm.tr qx.sy) z (ok.q qx.sy) ?_ ?_ ?_
  · obtain ⟨d', d1, d2⟩ := T.sd
    exact ⟨d', d1, e11.trans d2⟩
  · exact T.img.kept (by rw [x 0 (by omega) (by omega) (by omega)]) (f.fl (by omega) (by omega)) (bq 2 (by omega)).1 (bq 2 (by omega)).2 (Tv_same (fun a a1 a2 => x a (by omega) (by omega) (by omega)) e11 J S)
  · rcases hz with hz | hz
    · subst hz
      exact T.deeds.kept (fun a a1 a2 => x a (by omega) (by omega) (by omega)) (f.fl (by omega) (by omega)) (fun i hi => bq (3 + i) (by omega)) qm
    · exact sim_deeds.zero (by rw [x 28 (by omega) (by omega) (by omega)]; exact hz.1) (by rw [f.fl (by omega) (by omega)]; exact hz.2)
theorem SimP.clr {J N S : Nat} {h m : ck_H} (T : SimP J N S h m) : SimP J N S (ck_sI h 28 3 0) (ck_sI m 0 45 0) := by
  have hJ := T.pr.hJ; have hS := T.pr.hS
  have tn : TQ J S (Tv (ck_sI h 28 3 0) 7) (Tv h 7) := Tv_same (fun a a1 a2 => ck_sI_ne _ _ _ (by omega)) rfl J S
  have bq : ∀ b, TQ J S (Mv (ck_sI m 0 45 0) b) (Mv m b) ∧ TL J (Mv (ck_sI m 0 45 0) b) (Mv m b) := fun b => Mv_same hJ hS (fun a i hi => by rw [ck_sI_ne _ _ _ (by unfold inB at hi; omega)]) (ck_sI_nj _ _ (by decide))
  refine T.to (fun a ha => ck_sI_ne _ _ _ (by omega)) (fun i hi => by rw [ck_sI_ne _ _ _ (by omega)]) (fun a a0 ha => ck_sI_ne _ _ _ a0) (fun i hi => ck_sI_nj _ _ (by omega)) ((bq 0).1.tr (T.now.tr tn.sy)) (T.nz.l (bq 0).2) (T.nok.q tn.sy) (T.sd.q tn.sy) ?_ (sim_deeds.zero (ck_sI_at ..) (ck_sI_at ..))
  exact T.img.kept (by rw [ck_sI_ne _ _ _ (by omega)]) (ck_sI_nj _ _ (by omega)) (bq 2).1 (bq 2).2 (Tv_same (fun a a1 a2 => ck_sI_ne _ _ _ (by omega)) rfl J S)
theorem sim_go {J N S : Nat} {h m : ck_H} {x : Int32} (H : SimP J N S h m) : wp_X11_go x h (fun r h' => wp_X12_go x m (fun r' m' => r = r' ∧ Sim h' m')) := by
  have T := H.thr 0
  have hJ := T.pr.hJ; have hS := T.pr.hS
  unfold wp_X11_go
  refine ⟨fun c => ?_, fun c => ⟨fun c2 => ?_, fun c2 => ⟨fun c3 => ?_, fun c3 => ?_⟩⟩⟩
  · unfold wp_X12_go; rintro _ rfl; exact br_p c ⟨rfl, _, _, _, T⟩
  · unfold wp_X12_go; rintro _ rfl; exact br_n c (br_p c2 ⟨rfl, _, _, _, T⟩)
  · obtain ⟨n, hn, rfl⟩ := nI_of2 (M := 99) (n := 99) (by decide) c (Int32.not_lt.mp c2)
    obtain ⟨d, hd, ed⟩ := T.nok.1
    have ed : h.1 7 5 = nI d := ed
    have hdn : d + n ≤ 9900 := by
      have c3 := c3
      rw [ed, nI_add, show (9900 : Int32) = nI 9900 from rfl, nI_leI (by omega) (by omega)] at c3
      exact c3
    have i0 : nI n ≤ 0 ↔ n = 0 := by rw [show (0 : Int32) = nI 0 from rfl, nI_leI (by omega) (by omega)]; omega
    have md : ∀ R : Int32 → ck_H → Prop, ((nI n ≤ 0 → wp_X12_go_40 R (nI n) (ck_sI m 0 0 0)) ∧ (¬ nI n ≤ 0 → wp_X12_go_40 R (nI n) (ck_sI (ck_sI m 0 0 0) 0 45 0))) → wp_X12_go (nI n) m R := by
      intro R hR
      unfold wp_X12_go
      rintro _ rfl
      refine br_n c (br_n c2 (br_p (by rw [T.day]; exact c3) ⟨hR.1, fun z => ?_⟩))
      rintro _ rfl
      exact hR.2 z
    have fin : ∀ (h0 m0 : ck_H), SimP J N S h0 m0 → h0.1 7 5 = nI d → (n = 0 ∨ (h0.1 28 3 = 0 ∧ m0.1 0 45 = 0)) → (∀ R : Int32 → ck_H → Prop, wp_X12_go_40 R (nI n) m0 → wp_X12_go (nI n) m R) → wp_X11_go_38 (fun r h' => wp_X12_go (nI n) m (fun r' m' => r = r' ∧ Sim h' m')) (nI n) h0 := by
      intro h0 m0 T0 e0 z0 hR
      refine tx_go38 T0 (by omega) (fun h' x' qx => hR _ ?_)
      unfold wp_X12_go_40
      refine mm_go42 (h := h0) (J := J) (N := N) (S := S) (by omega) n 0 lpN 9900 m0 (by unfold lpN; omega) (by omega) (by omega) T0.pr T0.tok T0.sd0 T0.nz T0.hl (fun m' qm z' f' => ⟨?_, J, N, S, T0.went e0 hdn z0 x' qx qm z' f'⟩)
      exact qx.1.2.1.trans qm.1.2.1.symm
    refine ⟨fun c4 => fin h _ T ed (Or.inl (i0.mp c4)) (fun R hR => md R (br_p c4 hR)), fun c4 => ?_⟩
    unfold wp_X2_clear
    rintro _ rfl
    exact fin _ _ T.clr (by rw [ck_sI_ne _ _ _ (by decide)]; exact ed) (Or.inr ⟨ck_sI_at .., ck_sI_at ..⟩) (fun R hR => md R (br_n c4 hR))
  · unfold wp_X12_go; rintro _ rfl; exact br_n c (br_n c2 (br_n (by rw [T.day]; exact c3) ⟨rfl, _, _, _, T⟩))
/-! the next tooth -/
def nt (p : Nat → Nat → Int32) (md : Md) (S : Nat) (L : Int32) : Nat → Nat → Tt → Int32
  | 0, _, _ => -2
  | k + 1, i, t => if (T_day p md S t).1 7 ≤ L then nt p md S L k (i + 1) (T_day p md S t) else nI i
theorem tx_nt {J N S : Nat} {h m : ck_H} {Q : Int32 → ck_H → Prop} (T : SimP J N S h m) : ∀ (k i f B : Nat) (h' : ck_H) (t : Tt), k < f → i + k = 100 → XF h h' → TQ J S (Tv h' 17) t → TOk B J S t → B + k < 2 ^ 29 → mdX h' = mdM m → t.2.2.2.2.2.2 = h.2 74 11 →
    (∀ h2, XF h h2 → kX h h2 → Q (nt (pl h) (mdM m) S (h.1 7 7) k i t) h2) → wp_X11_nextTooth_9 Q f (nI i) h' := by
  intro k
  induction k with
  | zero =>
    intro i f B h' t hf hi x q0 ok hB em es q
    obtain ⟨f, rfl⟩ : ∃ g, f = g + 1 := ⟨f - 1, by omega⟩
    unfold wp_X11_nextTooth_9
    exact pk_lt 99 i (fun _ => q h' x (x.kX (q0.2.2.2.trans es))) (fun z => by omega)
  | succ k ih =>
    intro i f B h' t hf hi x q0 ok hB em es q
    obtain ⟨f, rfl⟩ : ∃ g, f = g + 1 := ⟨f - 1, by omega⟩
    unfold wp_X11_nextTooth_9
    refine pk_lt 99 i (fun z => by omega) (fun _ => ?_)
    refine tx_run (n := 1) (B := B) T.pr x ok q0 em T.hl (by omega) (fun h2 x2 m2 q2 => ?_)
    have q2 : TQ J S (Tv h2 17) (T_day (pl h) (mdM m) S t) := q2
    have es2 : (T_day (pl h) (mdM m) S t).2.2.2.2.2.2 = h.2 74 11 := (T_day_sd0 T.nch).trans es
    have e17 : h2.1 17 7 = (T_day (pl h) (mdM m) S t).1 7 := q2.1.2.2.2
    rw [e17, x2 7 (by omega) (by omega) (by omega)]
    unfold nt at q
    refine ⟨fun c => ?_, fun c => ?_⟩
    · rintro _ rfl
      rw [nI_1]
      rw [if_pos c] at q
      exact ih (i + 1) f (B + 1) h2 _ (by omega) (by omega) x2 q2 (T_day_Ok T.pr.hJ T.pr.rtee T.hl ok) (by omega) m2 es2 q
    · rw [if_neg c] at q
      exact q h2 x2 (x2.kX (q2.2.2.2.trans es2))
theorem mm_nt {J N S : Nat} {h m : ck_H} {Q : Int32 → ck_H → Prop} (T : SimP J N S h m) : ∀ (k i f B : Nat) (m' : ck_H) (t : Tt), k < f → i + k = 100 → PR h m' J N S → kM m m' → TQ J S (Mv m' 1) t → LZ J (Mv m' 1) → TOk B J S t → SdOk t → B + k < 2 ^ 29 → mdM m' = mdM m → t.2.2.2.2.2.2 = (m.1 0 50).toInt64 →
    (∀ m2, kM m m2 → Q (nt (pl h) (mdM m) S (h.1 7 7) k i t) m2) → wp_X12_nextTooth_13 Q f (nI i) m' := by
  intro k
  induction k with
  | zero =>
    intro i f B m' t hf hi P' km q0 z0 ok sd hB em es q
    obtain ⟨f, rfl⟩ : ∃ g, f = g + 1 := ⟨f - 1, by omega⟩
    unfold wp_X12_nextTooth_13
    exact pk_lt 99 i (fun _ => q m' km) (fun z => by omega)
  | succ k ih =>
    intro i f B m' t hf hi P' km q0 z0 ok sd hB em es q
    obtain ⟨f, rfl⟩ : ∃ g, f = g + 1 := ⟨f - 1, by omega⟩
    unfold wp_X12_nextTooth_13
    refine pk_lt 99 i (fun z => by omega) (fun _ => ?_)
    refine mm_passes (b := 1) P' (by decide) (B := B) (by omega) (ok.q q0.sy) (sd.q q0.sy) z0 (fun m2 q2 z2 f2 => ?_)
    have q2 : TQ J S (Mv m2 1) (T_day (pl h) (mdM m) S t) := by
      rw [em] at q2
      exact q2.tr (T_day_Q T.pr.hJ (ok.q q0.sy) q0)
    have es2 : (T_day (pl h) (mdM m) S t).2.2.2.2.2.2 = (m.1 0 50).toInt64 := (T_day_sd0 T.nch).trans es
    have e50 : (m2.1 0 50).toInt64 = (m'.1 0 50).toInt64 := by
      have a : (m2.1 0 50).toInt64 = _ := q2.2.2.2.trans es2
      have b : (m'.1 0 50).toInt64 = _ := q0.2.2.2.trans es
      rw [a, b]
    have k2 := km.tr (f2.kM e50)
    have e23 : m2.1 23 1 = (T_day (pl h) (mdM m) S t).1 7 := q2.1.2.2.2
    have e0 : m2.1 23 0 = h.1 7 7 := by
      rw [← T.los]
      exact (k2.mv T.pr.hJ T.pr.hS (b := 0) (by decide)).1.1.2.2.2
    rw [e23, e0]
    unfold nt at q
    refine ⟨fun c => ?_, fun c => ?_⟩
    · rintro _ rfl
      rw [nI_1]
      rw [if_pos c] at q
      exact ih (i + 1) f (B + 1) m2 _ (by omega) (by omega) (f2.pr P') k2 q2 z2 (T_day_Ok T.pr.hJ T.pr.rtee T.hl ok) (T_day_Sd sd) (by omega) (by rw [f2.md, em]) es2 q
    · rw [if_neg c] at q
      exact q m2 k2
theorem sim_nextTooth {J N S : Nat} {h m : ck_H} (H : SimP J N S h m) : wp_X11_nextTooth h (fun r h' => wp_X12_nextTooth m (fun r' m' => r = r' ∧ Sim h' m')) := by
  have T := H.thr 0
  have hJ := T.pr.hJ; have hS := T.pr.hS
  unfold wp_X11_nextTooth
  refine tx_think (fun h1 x e2 e3 e4 e5 => ?_)
  refine tx_nt T 99 1 lpN 9900 h1 (Mv (ck_sI m 0 0 0) 0) (by decide) (by omega) x ((e5 J S hJ hS).tr T.now.sy) T.tok (by omega) (e3.trans T.md.symm) T.now.2.2.2 (fun h2 x2 k2 => ?_)
  unfold wp_X12_nextTooth
  rintro _ rfl
  refine mm_copies (t := 1) (b := 0) (by decide) (by decide) (by decide) (fun m1 e1 e2 => ?_)
  have e3 := e2 J S hJ hS
  have k1 : kM (ck_sI m 0 0 0) m1 := fun a i h1 _ _ _ => e1 a i h1
  have P1 : PR h m1 J N S := T.pr.kept (fun _ _ _ => rfl) (fun a h1 h2 => k1.row (by omega) (by omega))
  have md1 : mdM m1 = mdM (ck_sI m 0 0 0) := by
    unfold mdM
    rw [k1.fl (i := 46) (by omega), k1.fl (i := 47) (by omega), k1.fl (i := 48) (by omega), k1.fl (i := 49) (by omega), k1.row (a := 2) (by decide) (by decide)]
  exact mm_nt T 99 1 lpN 9900 m1 (Mv (ck_sI m 0 0 0) 0) (by decide) (by omega) P1 k1 e3.1 (T.nz.l e3.2) T.tok T.sd0 (by omega) md1 rfl (fun m2 km => ⟨rfl, _, _, _, T.keep k2 km⟩)
