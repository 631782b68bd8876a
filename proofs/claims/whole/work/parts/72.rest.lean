theorem lp_foH (W : Nat → Int32 → Nat → ck_H → Prop) (I : ck_H → Prop) (F : Int32 → Nat → Int32) (S : Nat) (R : Int32 → Prop) (he : ∀ f x h, I h → R x → W (f + 1) x S h) (hs : ∀ f x s h, I h → s < S → (∀ h', I h' → W f (F x s) (s + 1) h') → W (f + 1) x s h) : ∀ (k s f : Nat) (x : Int32) (h : ck_H), I h → k < f → s + k = S → R (fo F k s x) → W f x s h := by
  intro k
  induction k with
  | zero =>
    intro s f x h hI hf e hr
    obtain ⟨f, rfl⟩ : ∃ g, f = g + 1 := ⟨f - 1, by omega⟩
    rw [show s = S by omega]
    exact he f x h hI hr
  | succ k ih =>
    intro s f x h hI hf e hr
    obtain ⟨f, rfl⟩ : ∃ g, f = g + 1 := ⟨f - 1, by omega⟩
    exact hs f x s h hI (by omega) (fun h' hI' => ih (s + 1) f _ h' hI' (by omega) (by omega) hr)
theorem as_hard {J N S s : Nat} {h h1 m : ck_H} {Q : Int32 → ck_H → Prop} (T : SimP J N S h m) (A : AS h h1) (hs : s < S) (q : Q (T_hard (pl h) (mdM m) (Mv m 0) s) h1) : wp_X10_hardnessOf 7 (nI s) h1 Q := by
  have P := T.pr
  have h6 := P.hN; have h10 := P.hS
  obtain ⟨n, hn, en⟩ := P.rno s hs
  refine tx_hard (n := n) (by omega) (by omega) (by rw [A.1 45 (by decide) (by decide)]; exact en) ?_
  have e : T_hard (pl h1) (mdX h1) (Tv h1 7) s = T_hard (pl h) (mdM m) (Mv m 0) s := by
    unfold T_hard
    rw [A.pl, A.2.2.1, ← T.md, (A.tq T).1.1.1]
  rw [e]
  exact q
theorem m_hard {J N S s : Nat} {h m m1 : ck_H} {Q : Int32 → ck_H → Prop} (T : SimP J N S h m) (f : ck_fM m m1) (hs : s < S) (q : Q (T_hard (pl h) (mdM m) (Mv m 0) s) m1) : wp_X12_hardness 0 (nI s) m1 Q := by
  have P1 : PR h m1 J N S := FB.pr (FB.of (b := 0) f) T.pr
  refine tm_hard (b := 0) P1 (by decide) hs ?_
  rw [mdM_fM f, Mv_fM f]
  exact q
theorem SimP.hd {J N S s : Nat} {h m : ck_H} (T : SimP J N S h m) (hs : s < S) : rg (T_hard (pl h) (mdM m) (Mv m 0) s) 129 := by
  have P := T.pr
  have h6 := P.hN
  obtain ⟨n, hn, en⟩ := P.rno s hs
  refine T_hard_rg ?_
  rw [show pl h 13 s = nI n from en, nI_clamp (n := n) (by omega)]
  exact P.rhard n hn
theorem SimP.pend {J N S s : Nat} {h m : ck_H} (T : SimP J N S h m) (hs : s < S) : m.1 28 s = -1 ↔ h.1 11 s = -1 := by rw [T.ve hs]
/-! settling -/
def s1 (a b v w : Int32) : Int32 := if a = 0 ∧ b = 0 then w / 2 else (if v = 1 then w else if v = 2 then w / 2 else 0) - 5 * a
def s2 (a b v w : Int32) : Int32 := if a = 0 ∧ b = 0 then w / 2 else (if v = 2 then w / 2 else 0) - 5 * b
theorem tx_s1 {a b v w : Int32} {h : ck_H} {Q : Int32 → ck_H → Prop} (q : Q (s1 a b v w) h) : wp_X11_shareOfFirst a b v w h Q := by
  unfold s1 at q
  have k : ¬ (a = 0 ∧ b = 0) → wp_X11_shareOfFirst_12 Q a v w h := by
    intro c
    rw [if_neg c] at q
    unfold wp_X11_shareOfFirst_12 wp_X11_shareOfFirst_33
    refine ⟨fun c1 => ⟨fun c2 => ?_, fun c2 => ?_⟩, fun c1 => ?_⟩
    · rw [if_neg c1, if_neg c2] at q; exact q
    · rw [if_neg c1, if_pos c2] at q; exact q
    · rw [if_pos c1] at q; exact q
  unfold wp_X11_shareOfFirst
  refine ⟨fun c => k (fun z => c z.1), fun c => ⟨fun c2 => k (fun z => c2 z.2), fun c2 => ?_⟩⟩
  rw [if_pos ⟨c, c2⟩] at q
  exact q
theorem tx_s2 {a b v w : Int32} {h : ck_H} {Q : Int32 → ck_H → Prop} (q : Q (s2 a b v w) h) : wp_X11_shareOfSecond a b v w h Q := by
  unfold s2 at q
  have k : ¬ (a = 0 ∧ b = 0) → wp_X11_shareOfSecond_12 Q b v w h := by
    intro c
    rw [if_neg c] at q
    unfold wp_X11_shareOfSecond_12
    refine ⟨fun c2 => ?_, fun c2 => ?_⟩
    · rw [if_neg c2] at q; exact q
    · rw [if_pos c2] at q; exact q
  unfold wp_X11_shareOfSecond
  refine ⟨fun c => k (fun z => c z.1), fun c => ⟨fun c2 => k (fun z => c2 z.2), fun c2 => ?_⟩⟩
  rw [if_pos ⟨c, c2⟩] at q
  exact q
abbrev RR (v w : Int32) (i : Nat) : Prop := ¬ (s1 (nI i / 2) (ck_rem (nI i) 2) v w < s1 (1 - nI i / 2) (ck_rem (nI i) 2) v w) ∧ ¬ (s2 (nI i / 2) (ck_rem (nI i) 2) v w < s2 (nI i / 2) (1 - ck_rem (nI i) 2) v w)
theorem tx_isRest {i : Nat} {v w : Int32} {h : ck_H} {Q : Int32 → ck_H → Prop} (q1 : RR v w i → Q 1 h) (q0 : ¬ RR v w i → Q 0 h) : wp_X11_isRest (nI i / 2) (ck_rem (nI i) 2) v w h Q := by
  unfold wp_X11_isRest
  exact tx_s1 (tx_s1 ⟨fun c => q0 (fun z => z.1 c), fun c => tx_s2 (tx_s2 ⟨fun c2 => q0 (fun z => z.2 c2), fun c2 => q1 ⟨c, c2⟩⟩)⟩)
theorem mm_isRest {i : Nat} {v w : Int32} {m : ck_H} {Q : Int32 → ck_H → Prop} (hi : i < 4) (h33 : ∀ j, j < 4 → m.1 33 j = s1 (nI j / 2) (ck_rem (nI j) 2) v w) (h34 : ∀ j, j < 4 → m.1 34 j = s2 (nI j / 2) (ck_rem (nI j) 2) v w) (q1 : RR v w i → Q 1 m) (q0 : ¬ RR v w i → Q 0 m) : wp_X12_isRest (nI i) m Q := by
  unfold wp_X12_isRest
  rw [nI_clamp (n := i) (by omega)]
  have key : ∃ a b : Nat, a < 4 ∧ b < 4 ∧ ck_rem (nI i + 2) 4 = nI a ∧ ((nI i / 2) * 2 + 1) - ck_rem (nI i) 2 = nI b ∧ nI a / 2 = 1 - nI i / 2 ∧ ck_rem (nI a) 2 = ck_rem (nI i) 2 ∧ nI b / 2 = nI i / 2 ∧ ck_rem (nI b) 2 = 1 - ck_rem (nI i) 2 := by
    rcases (show i = 0 ∨ i = 1 ∨ i = 2 ∨ i = 3 by omega) with rfl | rfl | rfl | rfl
    · exact ⟨2, 1, by decide⟩
    · exact ⟨3, 0, by decide⟩
    · exact ⟨0, 3, by decide⟩
    · exact ⟨1, 2, by decide⟩
  obtain ⟨a, b, ha, hb, ea, eb, e1, e2, e3, e4⟩ := key
  rw [ea, eb, nI_clamp (n := a) (by omega), nI_clamp (n := b) (by omega), h33 i hi, h33 a ha, h34 i hi, h34 b hb, e1, e2, e3, e4]
  exact ⟨pu_in ha (by decide), pu_in hi (by decide), fun c => q0 (fun z => z.1 c), fun c => ⟨pu_in hb (by decide), pu_in hi (by decide), fun c2 => q0 (fun z => z.2 c2), fun c2 => q1 ⟨c, c2⟩⟩⟩
theorem mm_lay39 {Q : ck_H → Prop} {v w : Int32} : ∀ (k i f : Nat) (m : ck_H), k < f → i + k = 4 → (∀ j, j < i → m.1 33 j = s1 (nI j / 2) (ck_rem (nI j) 2) v w ∧ m.1 34 j = s2 (nI j / 2) (ck_rem (nI j) 2) v w) →
    (∀ m', (∀ a, a ≠ 33 → a ≠ 34 → m'.1 a = m.1 a) → (∀ j, j < 4 → m'.1 33 j = s1 (nI j / 2) (ck_rem (nI j) 2) v w ∧ m'.1 34 j = s2 (nI j / 2) (ck_rem (nI j) 2) v w) → Q m') → wp_X12_laySettle_39 Q f w v (nI i) m := by
  intro k
  induction k with
  | zero =>
    intro i f m hf hi hm hq
    obtain ⟨f, rfl⟩ : ∃ g, f = g + 1 := ⟨f - 1, by omega⟩
    unfold wp_X12_laySettle_39
    exact pk_le 4 i (fun _ => hq m (fun _ _ _ => rfl) (fun j hj => hm j (by omega))) (fun z => by omega)
  | succ k ih =>
    intro i f m hf hi hm hq
    obtain ⟨f, rfl⟩ : ∃ g, f = g + 1 := ⟨f - 1, by omega⟩
    unfold wp_X12_laySettle_39
    have i4 : vp_in (nI i) 4 := pu_in (by omega) (by decide)
    have z0 : nI i = 0 ↔ (nI i / 2 = 0 ∧ ck_rem (nI i) 2 = 0) := by
      rcases (show i = 0 ∨ i = 1 ∨ i = 2 ∨ i = 3 by omega) with rfl | rfl | rfl | rfl <;> decide
    have fin : ∀ a b, a = s1 (nI i / 2) (ck_rem (nI i) 2) v w → b = s2 (nI i / 2) (ck_rem (nI i) 2) v w → wp_X12_laySettle_39 Q f w v (nI (i + 1)) (ck_sI (ck_sI m 33 i a) 34 i b) := by
      rintro a b ha hb
      refine ih (i + 1) f _ (by omega) (by omega) (fun j hj => ?_) (fun m' g1 g2 => hq m' (fun a a1 a2 => ?_) g2)
      · by_cases e : j = i
        · subst e
          rw [ck_sI_ne _ _ _ (by decide), ck_sI_at, ck_sI_at]
          exact ⟨ha, hb⟩
        · rw [ck_sI_ne _ _ _ (by decide), ck_sI_nj _ _ e, ck_sI_nj _ _ e, ck_sI_ne _ _ _ (by decide)]
          exact hm j (by omega)
      · rw [g1 a a1 a2, ck_sI_ne _ _ _ a2, ck_sI_ne _ _ _ a1]
    have k66 : ∀ o, o = (if v = 1 then w else if v = 2 then w / 2 else 0) → wp_X12_laySettle_66 Q (wp_X12_laySettle_39 Q f) w v (nI i) o m := by
      intro o ho
      have k80 : ∀ t, t = (if v = 2 then w / 2 else 0) → wp_X12_laySettle_80 Q (wp_X12_laySettle_39 Q f) w v (nI i) o t m := by
        intro t ht
        unfold wp_X12_laySettle_80 wp_X12_laySettle_108 wp_X12_laySettle_135
        rw [nI_clamp (n := i) (by omega)]
        refine ⟨fun c => ⟨i4, ?_⟩, fun c => ⟨i4, ?_⟩⟩
        · rintro _ rfl
          refine br_m c ⟨i4, ?_⟩
          rintro _ rfl _ rfl
          rw [nI_1]
          refine fin _ _ ?_ ?_
          · unfold s1; rw [if_neg (fun z => c (z0.mpr z)), ho]
          · unfold s2; rw [if_neg (fun z => c (z0.mpr z)), ht]
        · rintro _ rfl
          refine br_q c ⟨i4, ?_⟩
          rintro _ rfl _ rfl
          rw [nI_1]
          refine fin _ _ ?_ ?_
          · unfold s1; rw [if_pos (z0.mp c)]
          · unfold s2; rw [if_pos (z0.mp c)]
      unfold wp_X12_laySettle_66
      exact ⟨fun c => k80 _ (by rw [if_neg c]), fun c => k80 _ (by rw [if_pos c])⟩
    refine pk_le 4 i (fun z => by omega) (fun _ => ⟨fun c => ⟨fun c2 => k66 _ (by rw [if_neg c, if_neg c2]), fun c2 => k66 _ (by rw [if_neg c, if_pos c2])⟩, fun c => k66 _ (by rw [if_pos c])⟩)
def rsp (v w K : Int32) : Nat → Nat → Int32 → Int32
  | 0, _, n => if K = -1 then n else -2
  | k + 1, i, n => if RR v w i then (if n = K then 10 * (nI i / 2) + ck_rem (nI i) 2 else rsp v w K k (i + 1) (n + 1)) else rsp v w K k (i + 1) n
theorem mm_rsp {v w K : Int32} {m : ck_H} {Q : Int32 → ck_H → Prop} (h33 : ∀ j, j < 4 → m.1 33 j = s1 (nI j / 2) (ck_rem (nI j) 2) v w ∧ m.1 34 j = s2 (nI j / 2) (ck_rem (nI j) 2) v w) : ∀ (k i f : Nat) (n : Int32), k < f → i + k = 4 → Q (rsp v w K k i n) m →
    wp_X12_restOf_4 Q (fun x9 h8 => Q (((10 : Int32) * (x9 / (2 : Int32))) + (ck_rem x9 (2 : Int32))) h8) (fun x11 x12 h10 => ((¬ x11 = (-1 : Int32) → Q (-2 : Int32) h10) ∧ (x11 = (-1 : Int32) → Q x12 h10))) f K n (nI i) m := by
  intro k
  induction k with
  | zero =>
    intro i f n hf hi q
    obtain ⟨f, rfl⟩ : ∃ g, f = g + 1 := ⟨f - 1, by omega⟩
    unfold wp_X12_restOf_4
    unfold rsp at q
    refine pk_le 4 i (fun _ => ⟨fun c => ?_, fun c => ?_⟩) (fun z => by omega)
    · rw [if_neg c] at q; exact q
    · rw [if_pos c] at q; exact q
  | succ k ih =>
    intro i f n hf hi q
    obtain ⟨f, rfl⟩ : ∃ g, f = g + 1 := ⟨f - 1, by omega⟩
    unfold wp_X12_restOf_4 wp_X12_restOf_39
    unfold rsp at q
    refine pk_le 4 i (fun z => by omega) (fun _ => mm_isRest (v := v) (w := w) (by omega) (fun j hj => (h33 j hj).1) (fun j hj => (h33 j hj).2) (fun c => ?_) (fun c => ?_))
    · rw [if_pos c] at q
      refine br_m (by decide) ⟨fun c2 => ?_, fun c2 => ?_⟩
      · rw [if_neg c2] at q
        rintro _ rfl _ rfl
        rw [nI_1]
        exact ih (i + 1) f _ (by omega) (by omega) q
      · rw [if_pos c2] at q; exact q
    · rw [if_neg c] at q
      refine br_q rfl ?_
      rintro _ rfl
      rw [nI_1]
      exact ih (i + 1) f _ (by omega) (by omega) q
theorem tx_rests40 {v w : Int32} {h : ck_H} {Q : Int32 → ck_H → Prop} : ∀ (k i f n : Nat), k < f → i + k = 4 → n ≤ i → Q (rsp v w (-1) k i (nI n)) h → wp_X11_rests_40 Q f v w (nI n) (nI i) h := by
  intro k
  induction k with
  | zero =>
    intro i f n hf hi hn q
    obtain ⟨f, rfl⟩ : ∃ g, f = g + 1 := ⟨f - 1, by omega⟩
    unfold wp_X11_rests_40
    exact pk_le 4 i (fun _ => q) (fun z => by omega)
  | succ k ih =>
    intro i f n hf hi hn q
    obtain ⟨f, rfl⟩ : ∃ g, f = g + 1 := ⟨f - 1, by omega⟩
    unfold wp_X11_rests_40 wp_X11_rests_65
    unfold rsp at q
    refine pk_le 4 i (fun z => by omega) (fun _ => tx_isRest (fun c => ?_) (fun c => ?_))
    · rw [if_pos c, if_neg (nI_nm1 (by omega))] at q
      refine br_n (by decide) ?_
      rintro _ rfl _ rfl
      rw [nI_1, nI_1]
      rw [nI_1] at q
      exact ih (i + 1) f (n + 1) (by omega) (by omega) (by omega) q
    · rw [if_neg c] at q
      refine br_p rfl ?_
      rintro _ rfl
      rw [nI_1]
      exact ih (i + 1) f n (by omega) (by omega) (by omega) q
theorem tx_rest45 {v w K : Int32} {h : ck_H} {Q : Int32 → ck_H → Prop} (hK : ¬ K = -1) : ∀ (k i f : Nat) (n : Int32), k < f → i + k = 4 → Q (rsp v w K k i n) h → wp_X11_rest_45 Q (fun x18 h17 => Q (((10 : Int32) * (x18 / (2 : Int32))) + (ck_rem x18 (2 : Int32))) h17) f K v w n (nI i) h := by
  intro k
  induction k with
  | zero =>
    intro i f n hf hi q
    obtain ⟨f, rfl⟩ : ∃ g, f = g + 1 := ⟨f - 1, by omega⟩
    unfold wp_X11_rest_45
    unfold rsp at q
    rw [if_neg hK] at q
    exact pk_le 4 i (fun _ => q) (fun z => by omega)
  | succ k ih =>
    intro i f n hf hi q
    obtain ⟨f, rfl⟩ : ∃ g, f = g + 1 := ⟨f - 1, by omega⟩
    unfold wp_X11_rest_45 wp_X11_rest_90
    unfold rsp at q
    refine pk_le 4 i (fun z => by omega) (fun _ => tx_isRest (fun c => ?_) (fun c => ?_))
    · rw [if_pos c] at q
      refine br_n (by decide) ⟨fun c2 => ?_, fun c2 => ?_⟩
      · rw [if_neg c2] at q
        rintro _ rfl _ rfl
        rw [nI_1]
        exact ih (i + 1) f _ (by omega) (by omega) q
      · rw [if_pos c2] at q; exact q
    · rw [if_neg c] at q
      refine br_p rfl ?_
      rintro _ rfl
      rw [nI_1]
      exact ih (i + 1) f _ (by omega) (by omega) q
theorem xvn {J N S s j n : Nat} {h m : ck_H} {Q : Int32 → ck_H → Prop} (T : SimP J N S h m) (hs : s < S) (hj : j < J) (hn : n < N) (ej : h.1 9 s = nI j) (en : h.1 45 s = nI n)
    (q : ∀ h', AS h h' → Q (T_v (pl h) (mdM m) (Mv m 0) j n (T_hard (pl h) (mdM m) (Mv m 0) s)) h') : wp_X11_verdictNow (nI s) h Q := by
  have h10 := T.pr.hS
  unfold wp_X11_verdictNow
  refine AS.of (fun h1 A => ⟨pu_in (by omega) (by decide), pu_in (by omega) (by decide), ?_⟩)
  refine as_hard T A hs ?_
  rw [nI_clamp (n := s) (by omega), A.1 9 (by decide) (by decide), A.1 45 (by decide) (by decide), ej, en]
  exact as_meas T A hj hn (fun h' A' _ _ _ => q h' A')
theorem mm_lay {J N S s j n : Nat} {h m : ck_H} {Q : ck_H → Prop} (T : SimP J N S h m) (hs : s < S) (hj : j < J) (hn : n < N) (ej : h.1 9 s = nI j) (en : h.1 45 s = nI n)
    (q : ∀ m', kM m m' → (∀ i, i < 4 → m'.1 33 i = s1 (nI i / 2) (ck_rem (nI i) 2) (T_v (pl h) (mdM m) (Mv m 0) j n (T_hard (pl h) (mdM m) (Mv m 0) s)) (h.1 40 n) ∧ m'.1 34 i = s2 (nI i / 2) (ck_rem (nI i) 2) (T_v (pl h) (mdM m) (Mv m 0) j n (T_hard (pl h) (mdM m) (Mv m 0) s)) (h.1 40 n)) → Q m') : wp_X12_laySettle (nI s) m Q := by
  have P := T.pr
  have h10 := P.hS; have h6 := P.hN
  unfold wp_X12_laySettle
  rw [nI_clamp (n := s) (by omega), P.no s hs, en, nI_clamp (n := n) (by omega), P.wor n hn, T.ju hs, ej]
  refine ⟨pu_in (by omega) (by decide), pu_in (by omega) (by decide), ?_⟩
  rintro _ rfl
  refine ⟨pu_in (by omega) (by decide), pu_in (by omega) (by decide), ?_⟩
  refine m_hard T (ck_fM.rf m) hs (m_verd T (ck_fM.rf m) hj hn ((T.hd hs).le (by decide)) (fun m1 f1 => ?_))
  refine mm_lay39 4 0 lpN m1 (by decide) (by omega) (fun j hj => by omega) (fun m2 g1 g2 => q m2 ((kM.fM f1).tr (fun a i _ h2 _ _ => by rw [g1 a (by omega) (by omega)])) g2)
theorem sim_rests {J N S : Nat} {h m : ck_H} {x : Int32} (H : SimP J N S h m) : wp_X11_rests x h (fun r h' => wp_X12_rests x m (fun r' m' => r = r' ∧ Sim h' m')) := by
  have T := H.thr 0
  have P := T.pr
  have h10 := P.hS; have h6 := P.hN
  unfold wp_X11_rests wp_X12_rests
  by_cases c : ∃ s, s < S ∧ x = nI s ∧ h.1 11 s = -1
  · obtain ⟨s, hs, rfl, e⟩ := c
    obtain ⟨j, hj, ej⟩ := T.nok.2.2.2.1 s hs
    obtain ⟨n, hn, en⟩ := P.rno s hs
    refine xP_p P hs e (br_m (by decide) (xvn T hs hj hn ej en (fun h' A => ?_)))
    rw [nI_clamp (n := s) (by omega), A.1 45 (by decide) (by decide), A.1 40 (by decide) (by decide), en, nI_clamp (n := n) (by omega)]
    refine ⟨pu_in (by omega) (by decide), pu_in (by omega) (by decide), ?_⟩
    rintro _ rfl
    refine tx_rests40 4 0 lpN 0 (by decide) (by omega) (by omega) ?_
    rintro _ rfl
    refine mP_p P hs ((T.pend hs).mpr e) (br_m (by decide) (mm_lay T hs hj hn ej en (fun m' f g => ?_)))
    exact mm_rsp g 4 0 lpN 0 (by decide) (by omega) ⟨rfl, _, _, _, T.keep A.kX f⟩
  · refine xP_n P c (br_q rfl ?_)
    rintro _ rfl
    exact mP_n P (fun ⟨s, hs, e, k⟩ => c ⟨s, hs, e, (T.pend hs).mp k⟩) (br_q rfl ⟨rfl, _, _, _, T⟩)
theorem sim_rest {J N S : Nat} {h m : ck_H} {x y : Int32} (H : SimP J N S h m) : wp_X11_rest x y h (fun r h' => wp_X12_rest x y m (fun r' m' => r = r' ∧ Sim h' m')) := by
  have T := H.thr 0
  have P := T.pr
  have h10 := P.hS; have h6 := P.hN
  unfold wp_X11_rest wp_X12_rest
  by_cases c : ∃ s, s < S ∧ x = nI s ∧ h.1 11 s = -1
  · obtain ⟨s, hs, rfl, e⟩ := c
    obtain ⟨j, hj, ej⟩ := T.nok.2.2.2.1 s hs
    obtain ⟨n, hn, en⟩ := P.rno s hs
    refine xP_p P hs e (br_n (by decide) ⟨fun c2 => xvn T hs hj hn ej en (fun h' A => ?_), fun c2 => ?_⟩)
    · rw [nI_clamp (n := s) (by omega), A.1 45 (by decide) (by decide), A.1 40 (by decide) (by decide), en, nI_clamp (n := n) (by omega)]
      refine ⟨pu_in (by omega) (by decide), pu_in (by omega) (by decide), ?_⟩
      rintro _ rfl
      refine tx_rest45 (fun z => by rw [z] at c2; exact absurd c2 (by decide)) 4 0 lpN 0 (by decide) (by omega) ?_
      rintro _ rfl
      refine mP_p P hs ((T.pend hs).mpr e) (br_n (by decide) (br_p c2 (mm_lay T hs hj hn ej en (fun m' f g => ?_))))
      exact mm_rsp g 4 0 lpN 0 (by decide) (by omega) ⟨rfl, _, _, _, T.keep A.kX f⟩
    · rintro _ rfl
      exact mP_p P hs ((T.pend hs).mpr e) (br_n (by decide) (br_n c2 ⟨rfl, _, _, _, T⟩))
  · refine xP_n P c (br_p rfl ?_)
    rintro _ rfl
    exact mP_n P (fun ⟨s, hs, e, k⟩ => c ⟨s, hs, e, (T.pend hs).mp k⟩) (br_p rfl ⟨rfl, _, _, _, T⟩)
