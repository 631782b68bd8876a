theorem mm_gaO {J N S : Nat} {h m : ck_H} {Q : Int32 → ck_H → Prop} {K : Int32 → ck_H → Prop} {x : Int32} (T : SimP J N S h m) : ∀ (k i f c : Nat) (d : Nat → Nat) (m' : ck_H), k < f → i + k = S → c ≤ 5 → kM m m' → m'.1 0 58 = nI c → (∀ j, j < c → m'.1 30 j = nI (d j)) →
    (∀ m2, kM m m2 → m2.1 0 58 = nI (ga (fun s => decide (h.1 11 s = -1 ∧ h.1 10 s = h.1 7 5)) 5 k i d c).2 → (∀ j, j < (ga (fun s => decide (h.1 11 s = -1 ∧ h.1 10 s = h.1 7 5)) 5 k i d c).2 → m2.1 30 j = nI ((ga (fun s => decide (h.1 11 s = -1 ∧ h.1 10 s = h.1 7 5)) 5 k i d c).1 j)) → K x m2) → wp_X12_order_23 Q K f x (nI i) m' := by
  have P := T.pr
  have hS := P.hS; have hJ := P.hJ
  intro k
  induction k with
  | zero =>
    intro i f c d m' hf hi hc km e6 ed q
    obtain ⟨f, rfl⟩ : ∃ g, f = g + 1 := ⟨f - 1, by omega⟩
    unfold wp_X12_order_23
    exact pk_le S i (fun _ => q m' km e6 ed) (fun z => by omega) (by rw [km.row (by omega) (by omega)]; exact P.mS) rfl (by omega) (by omega)
  | succ k ih =>
    intro i f c d m' hf hi hc km e6 ed q
    obtain ⟨f, rfl⟩ : ∃ g, f = g + 1 := ⟨f - 1, by omega⟩
    unfold wp_X12_order_23 wp_X12_order_73
    unfold ga at q
    have P' : PR h m' J N S := P.kept (fun _ _ _ => rfl) (fun a h1 h2 => km.row (by omega) (by omega))
    have T' : SimP J N S h m' := T.keep (kX.rf h) km
    have due : T_due (mdM m') (Mv m' 0) i ↔ (h.1 11 i = -1 ∧ h.1 10 i = h.1 7 5) := by
      have e := T'.now
      obtain ⟨j, hj, ej⟩ := T'.tok.2.2.2.1 i (by omega)
      unfold T_due
      rw [(e.2.2.1 i (by omega)).2.1, e.1.2.1, (e.2.2.1 i (by omega)).2.2, ej, T'.md]
      constructor
      · exact fun z => ⟨z.2.1, z.1⟩
      · exact fun z => ⟨z.2, z.1, nI_nm1 (by omega)⟩
    refine pk_le S i (fun z => by omega) (fun _ => ?_) (by rw [km.row (by omega) (by omega)]; exact P.mS) rfl (by omega) (by omega)
    refine pk_le 5 c (fun z => ?_) (fun z => mm_isDue (b := 0) P' (by decide) (by omega) T'.tok (fun c2 => br_m (by decide) ⟨by rw [e6]; exact pu_in (by omega) (by decide), ?_⟩) (fun c2 => br_q rfl ?_)) rfl e6 (by omega) (by omega)
    · rw [if_pos (by omega)] at q
      exact q m' km e6 ed
    · have c2 := due.mp c2
      rw [if_neg (by omega), if_pos (by simpa using c2)] at q
      rw [e6, nI_clamp (n := c) (by omega)]
      rintro _ rfl
      rw [ck_sI_ne _ _ _ (show (0 : Nat) ≠ 30 by decide), e6, nI_1]
      rintro _ rfl _ rfl
      rw [nI_1]
      refine ih (i + 1) f (c + 1) (uN d c i) _ (by omega) (by omega) (by omega) (km.tr ((kM.set (by omega)).tr (kM.thr _ 58 _ (by omega)))) (ck_sI_at ..) (fun j hj => ?_) q
      rw [ck_sI_ne _ _ _ (show (30 : Nat) ≠ 0 by decide)]
      by_cases cj : j = c
      · subst cj; rw [ck_sI_at, uN_s]
      · rw [ck_sI_nj _ _ cj, uN_n cj]
        exact ed j (by omega)
    · have c2 := fun z => c2 (due.mpr z)
      rw [if_neg (by omega), if_neg (by simpa using c2)] at q
      rintro _ rfl
      rw [nI_1]
      exact ih (i + 1) f c d m' (by omega) (by omega) hc km e6 ed q
theorem mm_69 {B J N S r : Nat} {h : ck_H} {row : Nat → Nat} {Q K : ck_H → Prop} {O : Int32 → Int32 → ck_H → (ck_H → Prop) → Prop} (hr : r ≤ 5) (hrow : ∀ j, j < r → row j < S) : ∀ (k i f : Nat) (m' : ck_H), k < f → i + k = r → PR h m' J N S → TOk B J S (Mv m' 1) → SdOk (Mv m' 1) → (mdM m').2.2.2.2.1 = false → m'.1 0 58 = nI r → (∀ j, j < r → m'.1 31 j = nI (row j)) →
    (∀ m2, Mv m2 1 = tO (pl h) (mdM m') row k i (Mv m' 1) → FB 1 m' m2 → K m2) → wp_X12_orders_69 Q O K f (nI i) m' := by
  intro k
  induction k with
  | zero =>
    intro i f m' hf hi P ok sd nc e6 e31 q
    obtain ⟨f, rfl⟩ : ∃ g, f = g + 1 := ⟨f - 1, by omega⟩
    unfold wp_X12_orders_69
    exact pk_le r i (fun _ => q m' rfl (FB.rf 1 m')) (fun z => by omega) e6 rfl (by omega) (by omega)
  | succ k ih =>
    intro i f m' hf hi P ok sd nc e6 e31 q
    obtain ⟨f, rfl⟩ : ∃ g, f = g + 1 := ⟨f - 1, by omega⟩
    unfold wp_X12_orders_69
    have hs := hrow i (by omega)
    rw [nI_clamp (n := i) (by omega), e31 i (by omega), nI_1]
    refine pk_le r i (fun z => by omega) (fun _ => ⟨pu_in (by omega) (by decide), ?_⟩) e6 rfl (by omega) (by omega)
    refine mm_tries (b := 1) P (by decide) hs ok sd.m (fun m1 e1 f1 => ?_)
    rintro _ rfl
    refine ih (i + 1) f m1 (by omega) (by omega) (f1.pr P) (by rw [e1]; exact T_try_Ok P.hJ hs ok) ?_ (by rw [f1.md]; exact nc) (by rw [f1.fl (by decide) (by decide)]; exact e6) (fun j hj => by rw [f1.row (by decide) (by omega)]; exact e31 j hj) (fun m2 e2 f2 => q m2 ?_ (f1.tr f2))
    · obtain ⟨a, a1, a2⟩ := sd
      refine ⟨a, a1, ?_⟩
      rw [e1, T_try_sd0 nc]
      exact a2
    · rw [e2, f1.md, e1]
      rfl
theorem mm_128 {r : Nat} {Q : ck_H → Prop} {O : Int32 → Int32 → ck_H → (ck_H → Prop) → Prop} (hr : r ≤ 5) : ∀ (k i f : Nat) (m' : ck_H), k < f → i + k = r → m'.1 0 58 = nI r → (∀ m2, (∀ a, a ≠ 32 → m2.1 a = m'.1 a) → (∀ j, m2.1 32 j = if i ≤ j ∧ j < r then m'.1 31 j else m'.1 32 j) → Q m2) → wp_X12_orders_128 Q O f (nI i) m' := by
  intro k
  induction k with
  | zero =>
    intro i f m' hf hi e6 q
    obtain ⟨f, rfl⟩ : ∃ g, f = g + 1 := ⟨f - 1, by omega⟩
    unfold wp_X12_orders_128
    exact pk_le r i (fun _ => q m' (fun _ _ => rfl) (fun j => by rw [if_neg (by omega)])) (fun z => by omega) e6 rfl (by omega) (by omega)
  | succ k ih =>
    intro i f m' hf hi e6 q
    obtain ⟨f, rfl⟩ : ∃ g, f = g + 1 := ⟨f - 1, by omega⟩
    unfold wp_X12_orders_128
    rw [nI_clamp (n := i) (by omega), nI_1]
    have i5 : vp_in (nI i) 5 := pu_in (by omega) (by decide)
    refine pk_le r i (fun z => by omega) (fun _ => ⟨i5, i5, ?_⟩) e6 rfl (by omega) (by omega)
    rintro _ rfl _ rfl
    refine ih (i + 1) f _ (by omega) (by omega) (by rw [ck_sI_ne _ _ _ (by decide)]; exact e6) (fun m2 y1 y2 => q m2 (fun a ha => by rw [y1 a ha, ck_sI_ne _ _ _ ha]) (fun j => ?_))
    rw [y2 j]
    by_cases c : j = i
    · subst c; rw [if_neg (by omega), if_pos (by omega), ck_sI_at]
    · rw [ck_sI_nj _ _ c, ck_sI_ne _ _ _ (show (31 : Nat) ≠ 32 by decide)]
      by_cases c2 : i + 1 ≤ j ∧ j < r
      · rw [if_pos c2, if_pos (by omega)]
      · rw [if_neg c2, if_neg (by omega)]
def OM (r : Nat) (d : Nat → Nat) (m m' : ck_H) (st : Bs) : Prop := kM m m' ∧ m'.1 0 58 = nI r ∧ (∀ j, j < r → m'.1 30 j = nI (d j)) ∧ m'.1 0 59 = st.1 ∧ (st.1 = -1 ∨ ∀ j, j < r → m'.1 32 j = nI (st.2 j))
theorem mm_leaf {J N S r F : Nat} {h m m' : ck_H} {d row : Nat → Nat} {st : Bs} {u : Int32} {Q : ck_H → Prop} (T : SimP J N S h m) (hr : r ≤ 5) (hrow : ∀ j, j < r → row j < S) (hX : OM r d m m' st) (e31 : ∀ j, j < r → m'.1 31 j = nI (row j))
    (q : ∀ m2, OM r d m m2 (bu (GO (pl h) (mdM m) S r (Mv m 0)) st row) → (∀ j, m2.1 31 j = m'.1 31 j) → Q m2) : wp_X12_orders (F + 1) (nI r) u m' Q := by
  have hJ := T.pr.hJ; have hS := T.pr.hS
  obtain ⟨km, e58, e30, e59, e32⟩ := hX
  have T' : SimP J N S h m' := T.keep (kX.rf h) km
  have mv0 := km.mv hJ hS (b := 0) (by decide)
  have em' : mdM m' = mdM m := by rw [T'.md, T.md]
  unfold wp_X12_orders wp_X12_ordersB
  refine br_p (by rw [e58]; exact Int32.le_refl _) ?_
  refine mm_copies (t := 1) (b := 0) (by decide) (by decide) (by decide) (fun m1 f1 q1 => ?_)
  have q1 := q1 J S hJ hS
  have fb1 : FB 1 m' m1 := fun a i h1 _ => f1 a i h1
  have km1 : kM m m1 := km.tr (fun a i h1 _ _ _ => f1 a i h1)
  have P1 : PR h m1 J N S := fb1.pr T'.pr
  have em1 : mdM m1 = mdM m := by rw [fb1.md, em']
  have ok1 : TOk 9900 J S (Mv m1 1) := T'.tok.q q1.1.sy
  have t1 : TQ J S (Mv m1 1) (Mv m 0) := q1.1.tr mv0.1
  have l1 : TL J (Mv m1 1) (Mv m 0) := fun j hj => (q1.2 j hj).trans (mv0.2 j hj)
  refine mm_69 (row := row) (B := 9900) hr hrow r 0 lpN m1 (by unfold lpN; omega) (by omega) P1 ok1 (T'.sd0.q q1.1.sy) (by rw [em1]; exact T.nch) (by rw [fb1.fl (by decide) (by decide)]; exact e58) (fun j hj => by rw [fb1.row (by decide) (by omega)]; exact e31 j hj) (fun m2 a2 f2 => ?_)
  have ok2 : TOk 9900 J S (Mv m2 1) := by rw [a2]; exact tO_Ok hJ r 0 _ (fun j _ hj => hrow j (by omega)) ok1
  have sd2 : SdOk (Mv m2 1) := by
    obtain ⟨a, b1, b2⟩ := T'.sd0.q q1.1.sy
    refine ⟨a, b1, ?_⟩
    rw [a2, tO_sd0 (by rw [em1]; exact T.nch)]
    exact b2
  unfold wp_X12_triesAll
  refine mm_from (b := 1) (h := h) (J := J) (N := N) (S := S) (B := 9900) (by decide) S 0 lpN m2 (by unfold lpN; omega) (by omega) (f2.pr P1) ok2 sd2 (fun m3 a3 f3 => ?_)
  rw [f2.md, em1, a2, em1] at a3
  have qO := tO_Q (p := pl h) (md := mdM m) (row := row) hJ r 0 (Mv m1 1) (Mv m 0) (fun j _ hj => hrow j (by omega)) ok1 t1 l1
  have okO : TOk 9900 J S (tO (pl h) (mdM m) row r 0 (Mv m1 1)) := tO_Ok hJ r 0 _ (fun j _ hj => hrow j (by omega)) ok1
  have q3 : TQ J S (Mv m3 1) (T_from (pl h) (mdM m) S 0 (tO (pl h) (mdM m) row r 0 (Mv m 0))) := by
    rw [a3]
    exact (T_from_Q hJ S 0 _ _ (by omega) okO qO.1 qO.2).1
  have fb3 : FB 1 m' m3 := fb1.tr (f2.tr f3)
  have km3 : kM m m3 := km.tr (fb3.kM (by
    have e : (m3.1 0 50).toInt64 = (T_from (pl h) (mdM m) S 0 (tO (pl h) (mdM m) row r 0 (Mv m 0))).2.2.2.2.2.2 := q3.2.2.2
    rw [e, T_from_sd0 T.nch, tO_sd0 T.nch]
    exact mv0.1.2.2.2.symm))
  refine mm_more (Q := fun rr m'' => ∀ v13, v13 = rr → (((m''.1 0 59) < v13 → (∀ h15, h15 = ck_sI m'' 0 59 v13 → wp_X12_orders_128 Q (wp_X12_orders F) lpN (0 : Int32) h15)) ∧ (¬ (m''.1 0 59) < v13 → Q m''))) T km3 q3 ?_
  have eG : g_gain (pl h) (T_from (pl h) (mdM m) S 0 (tO (pl h) (mdM m) row r 0 (Mv m 0))) S - g_gain (pl h) (Mv m 0) S = GO (pl h) (mdM m) S r (Mv m 0) row := rfl
  rw [eG, fb3.fl (by decide) (by decide), e59]
  rintro _ rfl
  unfold bu at q
  refine ⟨fun cc => ?_, fun cc => ?_⟩
  · rintro _ rfl
    rw [if_neg (Int32.not_le.mpr cc)] at q
    refine mm_128 hr r 0 lpN _ (by unfold lpN; omega) (by omega) (by rw [ck_sI_nj _ _ (by decide), fb3.fl (by decide) (by decide)]; exact e58) (fun m4 y1 y2 => q m4 ⟨km3.tr ((kM.thr _ 59 _ (by omega)).tr (fun a i _ h2 _ _ => by rw [y1 a (by omega)])), ?_, fun j hj => ?_, ?_, Or.inr (fun j hj => ?_)⟩ (fun j => ?_))
    · rw [y1 0 (by decide), ck_sI_nj _ _ (by decide), fb3.fl (by decide) (by decide)]; exact e58
    · rw [y1 30 (by decide), ck_sI_ne _ _ _ (by decide), fb3.row (by decide) (by omega)]; exact e30 j hj
    · rw [y1 0 (by decide), ck_sI_at]
    · rw [y2 j, if_pos (by omega), ck_sI_ne _ _ _ (by decide), fb3.row (by decide) (by omega)]; exact e31 j hj
    · rw [y1 31 (by decide), ck_sI_ne _ _ _ (by decide), fb3.row (by decide) (by omega)]
  · rw [if_pos (Int32.not_lt.mp cc)] at q
    refine q m3 ⟨km3, by rw [fb3.fl (by decide) (by decide)]; exact e58, fun j hj => by rw [fb3.row (by decide) (by omega)]; exact e30 j hj, by rw [fb3.fl (by decide) (by decide)]; exact e59, by rw [fb3.row (by decide) (by omega)]; exact e32⟩ (fun j => by rw [fb3.row (by decide) (by omega)])
theorem ub1 : ∀ u, u < 32 → ∀ i, i < 5 → ((nI u >>> (nI i &&& 31)) &&& 1 = 1 ↔ u / 2 ^ i % 2 = 1) := by decide +kernel
theorem ub2 : ∀ u, u < 32 → ∀ i, i < 5 → ¬ u / 2 ^ i % 2 = 1 → (nI u ||| ((1 : Int32) <<< (nI i &&& 31)) = nI (u + 2 ^ i) ∧ u + 2 ^ i < 32) := by decide +kernel
theorem ub3 : ∀ u, u < 32 → ∀ i, i < 5 → ¬ u / 2 ^ i % 2 = 1 → ∀ j, j < 5 → ((u + 2 ^ i) / 2 ^ j % 2 = 1 ↔ (u / 2 ^ j % 2 = 1 ∨ j = i)) := by decide +kernel
theorem lf_app {l : List Nat} {i j : Nat} : (j < l.length → lf (l ++ [i]) j = lf l j) ∧ lf (l ++ [i]) l.length = i := by
  unfold lf
  refine ⟨fun h => ?_, ?_⟩
  · rw [List.getD_eq_getElem?_getD, List.getD_eq_getElem?_getD, List.getElem?_append_left h]
  · rw [List.getD_eq_getElem?_getD, List.getElem?_append_right (Nat.le_refl _), Nat.sub_self]; rfl
theorem ofl_app {G : (Nat → Nat) → Int32} {d : Nat → Nat} {st : Bs} {a b : List (List Nat)} : ofl G d st (a ++ b) = ofl G d (ofl G d st a) b := List.foldl_append
theorem mm_or {J N S r : Nat} {h m : ck_H} {d : Nat → Nat} (T : SimP J N S h m) (hr : r ≤ 5) (hd : ∀ j, j < r → d j < S) : ∀ (f F : Nat) (pre : List Nat) (u : Nat) (m' : ck_H) (st : Bs) (Q : ck_H → Prop), f < F → pre.length + f = r → (∀ i, i ∈ pre → i < r) → u < 32 → (∀ i, i < 5 → (u / 2 ^ i % 2 = 1 ↔ i ∈ pre)) → OM r d m m' st → (∀ j, j < pre.length → m'.1 31 j = nI (d (lf pre j))) →
    (∀ m2, OM r d m m2 (ofl (GO (pl h) (mdM m) S r (Mv m 0)) d st (gen r f pre)) → (∀ j, j < pre.length → m2.1 31 j = m'.1 31 j) → Q m2) → wp_X12_orders F (nI pre.length) (nI u) m' Q := by
  intro f
  induction f with
  | zero =>
    intro F pre u m' st Q hF hl hp hu hb hX e31 q
    obtain ⟨F, rfl⟩ : ∃ g, F = g + 1 := ⟨F - 1, by omega⟩
    have el : pre.length = r := by omega
    rw [el] at e31 q ⊢
    refine mm_leaf (row := fun j => d (lf pre j)) T hr (fun j hj => hd _ (hp _ ?_)) hX e31 (fun m2 hX2 h31 => q m2 hX2 (fun j _ => h31 j))
    unfold lf
    rw [List.getD_eq_getElem?_getD, List.getElem?_eq_getElem (by omega)]
    exact List.getElem_mem _
  | succ f ih =>
    intro F pre u m' st Q hF hl hp hu hb hX e31 q
    obtain ⟨F, rfl⟩ : ∃ g, F = g + 1 := ⟨F - 1, by omega⟩
    unfold wp_X12_orders wp_X12_ordersB
    refine br_n (by rw [hX.2.1]; exact nI_ge (by omega) (by omega)) ?_
    have inner : ∀ (c i ff : Nat) (m'' : ck_H) (st'' : Bs), c < ff → i + c = r → OM r d m m'' st'' → (∀ j, j < pre.length → m''.1 31 j = m'.1 31 j) → (∀ m2, OM r d m m2 (ofl (GO (pl h) (mdM m) S r (Mv m 0)) d st'' (glist (fun i => if pre.contains i then [] else gen r f (pre ++ [i])) c i)) → (∀ j, j < pre.length → m2.1 31 j = m'.1 31 j) → Q m2) → wp_X12_orders_10 Q (wp_X12_orders F) ff (nI pre.length) (nI u) (nI i) m'' := by
      intro c
      induction c with
      | zero =>
        intro i ff m'' st'' hff hi hX2 h31 q
        obtain ⟨ff, rfl⟩ : ∃ g, ff = g + 1 := ⟨ff - 1, by omega⟩
        unfold wp_X12_orders_10
        exact pk_le r i (fun _ => q m'' hX2 h31) (fun z => by omega) hX2.2.1 rfl (by omega) (by omega)
      | succ c ihc =>
        intro i ff m'' st'' hff hi hX2 h31 q
        obtain ⟨ff, rfl⟩ : ∃ g, ff = g + 1 := ⟨ff - 1, by omega⟩
        unfold wp_X12_orders_10 wp_X12_orders_54
        unfold glist at q
        rw [nI_1]
        have b1 := ub1 u hu i (by omega)
        have b2 := hb i (by omega)
        refine pk_le r i (fun z => by omega) (fun _ => ⟨fun cc => ⟨pu_in (by omega) (by decide), pu_in (by omega) (by decide), ?_⟩, fun cc => ?_⟩) hX2.2.1 rfl (by omega) (by omega)
        · have nb : ¬ u / 2 ^ i % 2 = 1 := fun z => cc (b1.mpr z)
          have ni : ¬ i ∈ pre := fun z => nb (b2.mpr z)
          have nc : pre.contains i = false := by rw [← Bool.not_eq_true, List.contains_iff_mem]; exact ni
          rw [nc, if_neg (by decide), ofl_app] at q
          rw [nI_clamp (n := pre.length) (by omega), nI_clamp (n := i) (by omega), (ub2 u hu i (by omega) nb).1, nI_1, hX2.2.2.1 i (by omega)]
          rintro _ rfl
          have ln : (pre ++ [i]).length = pre.length + 1 := by simp
          have e := ih F (pre ++ [i]) (u + 2 ^ i) (ck_sI m'' 31 pre.length (nI (d i))) st'' (fun h26 => ∀ v27, v27 = nI (i + 1) → wp_X12_orders_10 Q (wp_X12_orders F) ff (nI pre.length) (nI u) v27 h26) (by omega) (by omega) (fun k hk => ?_) (ub2 u hu i (by omega) nb).2 (fun k hk => ?_) ⟨hX2.1.tr (kM.set (by omega)), by rw [ck_sI_ne _ _ _ (by decide)]; exact hX2.2.1, fun j hj => by rw [ck_sI_ne _ _ _ (by decide)]; exact hX2.2.2.1 j hj, by rw [ck_sI_ne _ _ _ (by decide)]; exact hX2.2.2.2.1, by rw [ck_sI_ne _ _ _ (by decide)]; exact hX2.2.2.2.2⟩ (fun j hj => ?_) (fun m3 hX3 h3 => ?_)
          · rw [ln] at e; exact e
          · rcases List.mem_append.mp hk with z | z
            · exact hp k z
            · rw [List.mem_singleton.mp z]; omega
          · rw [ub3 u hu i (by omega) nb k hk, hb k hk, List.mem_append, List.mem_singleton]
          · rw [ln] at hj
            by_cases cj : j = pre.length
            · subst cj; rw [ck_sI_at, (lf_app (j := 0)).2]
            · rw [ck_sI_nj _ _ cj, lf_app.1 (by omega), h31 j (by omega)]; exact e31 j (by omega)
          · rintro _ rfl
            refine ihc (i + 1) ff m3 _ (by omega) (by omega) hX3 (fun j hj => ?_) q
            rw [h3 j (by rw [ln]; omega), ck_sI_nj _ _ (by omega)]
            exact h31 j hj
        · have ni : i ∈ pre := b2.mp (b1.mp cc)
          have nc : pre.contains i = true := by rw [List.contains_iff_mem]; exact ni
          rw [nc, if_pos rfl] at q
          rintro _ rfl
          rw [nI_1]
          exact ihc (i + 1) ff m'' st'' (by omega) (by omega) hX2 h31 q
    exact inner r 0 lpN m' st (by unfold lpN; omega) (by omega) hX (fun _ _ => rfl) q
theorem bu_any {G : (Nat → Nat) → Int32} {d : Nat → Nat} : ∀ (L : List (List Nat)) (st : Bs), st.1 ≤ (ofl G d st L).1 := by
  intro L
  induction L with
  | nil => exact fun _ => Int32.le_refl _
  | cons a L ih => exact fun st => Int32.le_trans bu_ge.1 (ih _)
theorem sim_order {J N S : Nat} {h m : ck_H} {x : Int32} (H : SimP J N S h m) : wp_X11_order x h (fun r h' => wp_X12_order x m (fun r' m' => r = r' ∧ Sim h' m')) := by
  have T := H.thr 0
  have P := T.pr
  have hJ := P.hJ; have hS := P.hS
  unfold wp_X11_order
  refine ⟨fun c => ?_, fun c => ⟨fun c2 => ?_, fun c2 => ?_⟩⟩
  · unfold wp_X12_order; rintro _ rfl; exact br_p c ⟨rfl, _, _, _, T⟩
  · obtain ⟨w, hw, rfl⟩ := nI_of2 (x := x) (M := 5) (n := 5) (by decide) c c2
    generalize hg : ga (fun s => decide (h.1 11 s = -1 ∧ h.1 10 s = h.1 7 5)) 5 S 0 (fun _ => 0) 0 = gr
    have gk := ga_ok (C := fun s => decide (h.1 11 s = -1 ∧ h.1 10 s = h.1 7 5)) (L := 5) S 0 (fun _ => 0) 0 ⟨fun j hj => by omega, fun j k _ hk => by omega⟩ (by omega)
    rw [hg] at gk
    obtain ⟨d, r⟩ := gr
    obtain ⟨⟨gk1, gk2⟩, hr⟩ := gk
    have hr : r ≤ 5 := hr
    have gk2 : inc r d := gk2
    have gk1 : ∀ j, j < r → d j < 0 + S ∧ decide (h.1 11 (d j) = -1 ∧ h.1 10 (d j) = h.1 7 5) = true := gk1
    have hd : ∀ j, j < r → d j < S := fun j hj => by have q := (gk1 j hj).1; omega
    obtain ⟨ok1, ok2, ok3, ok4⟩ := gen_ok r (by omega)
    obtain ⟨a, L, eL⟩ : ∃ a L, gen r r [] = a :: L := by
      cases e : gen r r [] with
      | nil => rw [e] at ok4; cases ok4
      | cons a L => exact ⟨a, L, rfl⟩
    rw [eL] at ok1 ok2 ok3 ok4
    have ea : a = List.range r := by simpa using ok4
    generalize hMm : ck_sI m 0 0 0 = Mm at T P
    generalize hst : ofl (GO (pl h) (mdM Mm) S r (Mv Mm 0)) d (-1, fun _ => 0) (a :: L) = st
    have hpos : ¬ st.1 = -1 := by
      have la := lenok_in ok2 (List.mem_cons_self ..)
      obtain ⟨g, g1, g2⟩ := GO_ge (md := mdM Mm) (t := Mv Mm 0) (row := fun j => d (lf a j)) (r := r) P (fun j hj => by
        have e := (gk1 (lf a j) (la.2 j hj)).2
        have e : h.1 11 (d (lf a j)) = -1 ∧ h.1 10 (d (lf a j)) = h.1 7 5 := by simpa using e
        rw [(T.now.2.2.1 _ (hd _ (la.2 j hj))).2.2]
        exact e.1)
      have b : GO (pl h) (mdM Mm) S r (Mv Mm 0) (fun j => d (lf a j)) ≤ st.1 := by
        rw [← hst]
        exact Int32.le_trans bu_ge.2 (bu_any L _)
      rw [g2] at b
      intro z
      rw [z] at b
      exact absurd (Int32.le_trans (nI_pos' (n := g) (by omega)) b) (by decide)
    have md : ∀ Rr : Int32 → ck_H → Prop, (∀ m2, kM Mm m2 → Rr (if w = 5 then st.1 else if r ≤ w then -2 else nI (st.2 w)) m2) → wp_X12_order (nI w) m Rr := by
      intro Rr hR
      unfold wp_X12_order
      rw [hMm]
      intro m0 e0
      rw [e0]
      refine br_n c (br_p c2 ?_)
      rintro _ rfl
      refine mm_gaO T S 0 lpN 0 (fun _ => 0) _ (by unfold lpN; omega) (by omega) (by omega) (kM.thr _ 58 _ (by omega)) (ck_sI_at ..) (fun j hj => by omega) (fun m2 k2 e58 e30 => ?_)
      rw [hg] at e58 e30
      unfold wp_X12_order_79
      rintro _ rfl
      refine mm_or (d := d) T hr hd r 7 [] 0 _ (-1, fun _ => 0) _ (by omega) (by simp) (fun i hi => by cases hi) (by omega) (fun i _ => by simp) ⟨k2.tr (kM.thr _ 59 _ (by omega)), by rw [ck_sI_nj _ _ (by decide)]; exact e58, fun j hj => by rw [ck_sI_ne _ _ _ (by decide)]; exact e30 j hj, ck_sI_at .., Or.inl rfl⟩ (fun j hj => by cases hj) (fun m3 hX _ => ?_)
      rw [eL, hst] at hX
      obtain ⟨km, a58, a30, a59, a32⟩ := hX
      have hR := hR m3 km
      rw [nI_clamp (n := w) (by omega)]
      by_cases w5 : w = 5
      · subst w5
        rw [if_pos rfl] at hR
        refine br_q rfl ?_
        rw [a59]; exact hR
      · rw [if_neg w5] at hR
        refine br_m (fun z => w5 ?_) ?_
        · rw [show (5 : Int32) = nI 5 from rfl, nI_eq (by omega) (by omega)] at z; exact z
        · rw [a58]
          refine pk_le r w (fun z => ?_) (fun z => ⟨pu_in (by omega) (by decide), ?_⟩)
          · rw [if_pos z] at hR; exact hR
          · rw [if_neg (by omega)] at hR
            rcases a32 with y | y
            · exact absurd y hpos
            · rw [y w z]; exact hR
    unfold wp_X0_seekOrder
    rintro _ rfl
    refine tx_gaO P S 0 lpN 0 (fun _ => 0) _ (by unfold lpN; omega) (by omega) (by omega) (kX.set (by omega)) (ck_sI_at ..) (fun j hj => by omega) (fun h2 k2 e6 e79 => ?_)
    rw [hg] at e6 e79
    unfold wp_X0_seekOrder_90
    rintro _ rfl
    have lL : L.length + 1 ≤ 120 := ok3
    refine tx_ol (d := d) T hr hd gk2 L a 0 lpN (-1, fun _ => 0) _ 1 (by unfold lpN; omega) (by omega) ok1 ok2 (by decide) ⟨k2.tr (kX.set (by omega)), by rw [ck_sI_nj _ _ (by decide)]; exact e6, fun j hj => ?_, ck_sI_at .., Or.inl rfl⟩ (fun h3 hX => ?_)
    · show (ck_sI h2 77 7 (-1)).1 79 j = nI (d (lf a j))
      have el : lf a j = j := by
        rw [ea]
        have := lf_map (r := r) (g := fun i => i) hj
        simpa using this
      rw [ck_sI_ne _ _ _ (by decide), el]; exact e79 j hj
    rw [hst] at hX
    obtain ⟨kx, b6, b7, b80⟩ := hX
    have b80 : ∀ j, j < r → h3.1 80 j = nI (st.2 j) := by
      rcases b80 with z | z
      · exact absurd z hpos
      · exact z
    rw [nI_clamp (n := w) (by omega)]
    by_cases w5 : w = 5
    · subst w5
      refine br_q rfl (md _ (fun m2 km => ⟨?_, _, _, _, T.keep kx km⟩))
      rw [if_pos rfl, b7]
    · refine br_m (fun z => w5 ?_) ?_
      · rw [show (5 : Int32) = nI 5 from rfl, nI_eq (by omega) (by omega)] at z; exact z
      · refine pk_le r w (fun z => md _ (fun m2 km => ⟨?_, _, _, _, T.keep kx km⟩)) (fun z => ⟨pu_in (by omega) (by decide), md _ (fun m2 km => ⟨?_, _, _, _, T.keep kx km⟩)⟩) b6 rfl (by omega) (by omega)
        · rw [if_neg w5, if_pos z]
        · rw [if_neg w5, if_neg (by omega), b80 w z]
  · unfold wp_X12_order; rintro _ rfl; exact br_n c (br_n c2 ⟨rfl, _, _, _, T⟩)
