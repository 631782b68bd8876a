/-! feeding -/
def sh8 (j : Nat) : Int32 := 24 - 8 * nI j
theorem sh8_n : ∀ j, j < 4 → ¬ sh8 j < 0 ∧ sh8 j + (-8) = sh8 (j + 1) := by decide
theorem sh8_r : ∀ k, k < 20 → (24 : Int32) - 8 * ck_rem (nI k) 4 = sh8 (k % 4) := by decide
def bvl (x : Int32) (j : Nat) : Nat := (x >>> (sh8 j &&& 31)).toBitVec.toNat % 256
theorem bvl_lt (x : Int32) (j : Nat) : bvl x j < 256 := Nat.mod_lt _ (by decide)
theorem bvl_m (x : Int32) (j : Nat) : (x >>> (sh8 j &&& 31)) &&& 255 = nI (bvl x j) := pk_and _ 8 (by decide)
theorem bvl_x (x : Int32) (j : Nat) : vp_nar .byte (x >>> (sh8 j &&& 31)).toInt8.toInt32 = sb_b (bvl x j) := by
  rw [pk_vb]
  unfold sb_b
  rw [← bvl_m, Int32.toInt8_and, show (255 : Int32).toInt8 = -1 by decide, Int8.and_neg_one]
theorem tx_f4 {x : Int32} {Q : ck_H → Prop} : ∀ (k j f p : Nat) (h : ck_H), k < f → j + k = 4 → h.1 0 11 = nI p → p + k ≤ 700 → (∀ h', (∀ a, a ≠ 0 → a ≠ 1 → h'.1 a = h.1 a) → (∀ i, i ≠ 11 → h'.1 0 i = h.1 0 i) → h'.2 = h.2 → h'.1 0 11 = nI (p + k) → (∀ i, h'.1 1 i = if p ≤ i ∧ i < p + k then sb_b (bvl x (j + (i - p))) else h.1 1 i) → Q h') → wp_X11_feedFour_3 Q f x (sh8 j) h := by
  intro k
  induction k with
  | zero =>
    intro j f p h hf hj hp hpk q
    obtain ⟨f, rfl⟩ : ∃ g, f = g + 1 := ⟨f - 1, by omega⟩
    unfold wp_X11_feedFour_3
    rw [show j = 4 by omega]
    exact br_p (by decide) (q h (fun _ _ _ => rfl) (fun _ _ => rfl) rfl hp (fun i => by rw [if_neg (by omega)]))
  | succ k ih =>
    intro j f p h hf hj hp hpk q
    obtain ⟨f, rfl⟩ : ∃ g, f = g + 1 := ⟨f - 1, by omega⟩
    unfold wp_X11_feedFour_3
    have s := sh8_n j (by omega)
    rw [hp, nI_clamp (n := p) (by omega), bvl_x]
    refine br_n s.1 (br_n (nI_ge (a := p) (b := 700) (by omega) (by omega)) ⟨pu_in (by omega) (by decide), ?_⟩)
    rintro _ rfl
    rw [ck_sI_ne _ _ _ (show (0 : Nat) ≠ 1 by decide), hp, nI_1, s.2]
    rintro _ rfl _ rfl
    refine ih (j + 1) f (p + 1) _ (by omega) (by omega) (ck_sI_at ..) (by omega) (fun h' a1 a2 a3 a4 a5 => q h' (fun a b1 b2 => ?_) (fun i hi => ?_) a3 (by rw [a4]; congr 1; omega) (fun i => ?_))
    · rw [a1 a b1 b2, ck_sI_ne _ _ _ b1, ck_sI_ne _ _ _ b2]
    · rw [a2 i hi, ck_sI_nj _ _ hi, ck_sI_ne _ _ _ (by decide)]
    · rw [a5 i]
      by_cases c : i = p
      · subst c
        rw [if_neg (by omega), if_pos (by omega), ck_sI_ne _ _ _ (by decide), ck_sI_at, Nat.sub_self, Nat.add_zero]
      · by_cases c2 : p + 1 ≤ i ∧ i < p + 1 + k
        · rw [if_pos c2, if_pos (by omega), show j + 1 + (i - (p + 1)) = j + (i - p) by omega]
        · rw [if_neg c2, if_neg (by omega), ck_sI_ne _ _ _ (by decide), ck_sI_nj _ _ c]
theorem tx_four {x : Int32} {p : Nat} {h : ck_H} {Q : ck_H → Prop} (hp : h.1 0 11 = nI p) (hpk : p + 4 ≤ 700) (q : ∀ h', (∀ a, a ≠ 0 → a ≠ 1 → h'.1 a = h.1 a) → (∀ i, i ≠ 11 → h'.1 0 i = h.1 0 i) → h'.2 = h.2 → h'.1 0 11 = nI (p + 4) → (∀ i, i < p → h'.1 1 i = h.1 1 i) → (∀ j, j < 4 → h'.1 1 (p + j) = sb_b (bvl x j)) → Q h') : wp_X11_feedFour x h Q := by
  unfold wp_X11_feedFour
  refine tx_f4 4 0 lpN p h (by decide) rfl hp hpk (fun h' a1 a2 a3 a4 a5 => q h' a1 a2 a3 a4 (fun i hi => by rw [a5 i, if_neg (by omega)]) (fun j hj => ?_))
  rw [a5 (p + j), if_pos (by omega)]
  congr 2
  omega
def sel (a b c d e : Int32) (j : Nat) : Int32 := if j < 4 then a else if j < 8 then b else if j < 12 then c else if j < 16 then d else e
theorem mm_f20 {a b c d e : Int32} {p : Nat} {Q : Int32 → ck_H → Prop} {K : ck_H → Prop} (hp : p + 20 ≤ 700) : ∀ (k i f : Nat) (m : ck_H), k < f → i + k = 20 → m.1 0 2 = nI p → (∀ m', (∀ a, a ≠ 1 → m'.1 a = m.1 a) → (∀ j, j < p + i → m'.1 1 j = m.1 1 j) → (∀ j, i ≤ j → j < 20 → m'.1 1 (p + j) = nI (bvl (sel a b c d e j) (j % 4))) → K m') → wp_X12_feed_20 Q K f a b c d e (nI i) m := by
  intro k
  induction k with
  | zero =>
    intro i f m hf hi hm q
    obtain ⟨f, rfl⟩ : ∃ g, f = g + 1 := ⟨f - 1, by omega⟩
    unfold wp_X12_feed_20
    exact pk_le 20 i (fun _ => q m (fun _ _ => rfl) (fun _ _ => rfl) (fun j h1 h2 => by omega)) (fun z => by omega)
  | succ k ih =>
    intro i f m hf hi hm q
    obtain ⟨f, rfl⟩ : ∃ g, f = g + 1 := ⟨f - 1, by omega⟩
    unfold wp_X12_feed_20
    have st : ∀ v, v = sel a b c d e i → wp_X12_feed_73 Q K (wp_X12_feed_20 Q K f) a b c d e (nI i) v m := by
      rintro _ rfl
      unfold wp_X12_feed_73
      rw [hm, nI_add, nI_clamp (n := p + i) (by omega), sh8_r i (by omega), bvl_m, nI_1]
      refine ⟨pu_in (by omega) (by decide), ?_⟩
      rintro _ rfl _ rfl
      refine ih (i + 1) f _ (by omega) (by omega) (by rw [ck_sI_ne _ _ _ (by decide)]; exact hm) (fun m' b1 b2 b3 => q m' (fun a ha => by rw [b1 a ha, ck_sI_ne _ _ _ ha]) (fun j hj => by rw [b2 j (by omega), ck_sI_nj _ _ (by omega)]) (fun j h1 h2 => ?_))
      by_cases cj : j = i
      · subst cj; rw [b2 (p + j) (by omega), ck_sI_at]
      · exact b3 j (by omega) h2
    unfold sel at st
    refine pk_le 20 i (fun z => by omega) (fun _ => ?_)
    refine pk_le 4 i (fun z4 => pk_le 8 i (fun z8 => pk_le 12 i (fun z12 => pk_le 16 i (fun z16 => st _ ?_) (fun z16 => st _ ?_)) (fun z12 => st _ ?_)) (fun z8 => st _ ?_)) (fun z4 => st _ ?_)
    · rw [if_neg (by omega), if_neg (by omega), if_neg (by omega), if_neg (by omega)]
    · rw [if_neg (by omega), if_neg (by omega), if_neg (by omega), if_pos (by omega)]
    · rw [if_neg (by omega), if_neg (by omega), if_pos (by omega)]
    · rw [if_neg (by omega), if_pos (by omega)]
    · rw [if_pos (by omega)]
theorem SimP.taped {J N S : Nat} {h m h' m' : ck_H} (T : SimP J N S h m) (x : ∀ a, a ≠ 0 → a ≠ 1 → h'.1 a = h.1 a) (x0 : ∀ i, i ≠ 11 → h'.1 0 i = h.1 0 i) (x2 : h'.2 = h.2) (f : ∀ a, a ≠ 0 → a ≠ 1 → m'.1 a = m.1 a) (f0 : ∀ i, i ≠ 2 → m'.1 0 i = m.1 0 i) (tp : sim_tape h' m') : SimP J N S h' m' := by
  have hJ := T.pr.hJ; have hS := T.pr.hS
  have tv : ∀ o, o = 7 ∨ o = 12 → TQ J S (Tv h' o) (Tv h o) := fun o ho => Tv_same (fun a a1 a2 => x a (by omega) (by omega)) (by rw [x2]) J S
  have mv : ∀ b, TQ J S (Mv m' b) (Mv m b) ∧ TL J (Mv m' b) (Mv m b) := fun b => Mv_same hJ hS (fun a i hi => by rw [f a (by unfold inB at hi; omega) (by unfold inB at hi; omega)]) (f0 50 (by decide))
  refine ⟨T.pr.kept (fun a h1 h2 => x a (by omega) (by omega)) (fun a h1 h2 => f a (by omega) (by omega)), ?_, ?_, ?_, ?_, ?_, ?_, tp, ?_, ?_, ?_, ?_⟩
  · exact ((mv 0).1.tr T.now).tr (tv 7 (Or.inl rfl)).sy
  · exact T.nz.l (mv 0).2
  · exact T.nok.q (tv 7 (Or.inl rfl)).sy
  · exact T.sd.q (tv 7 (Or.inl rfl)).sy
  · exact T.img.kept (x0 14 (by decide)) (f0 44 (by decide)) (mv 2).1 (mv 2).2 (tv 12 (Or.inr rfl))
  · rw [f0 46 (by decide), f0 47 (by decide), f0 48 (by decide), f0 49 (by decide)]; exact T.mode
  · rw [x0 12 (by decide), x0 13 (by decide), f0 28 (by decide), f0 29 (by decide)]; exact T.flt
  · exact T.notes.kept (fun a h1 h2 => x a (by omega) (by omega)) (fun a h1 h2 => f a (by omega) (by omega)) (f0 62 (by decide)) (f0 63 (by decide))
  · exact T.deeds.kept (fun a h1 h2 => x a (by omega) (by omega)) (f0 45 (by decide)) (fun i hi => mv (3 + i)) (mv 0).1
  · rw [x 4 (by decide) (by decide)]; exact T.words
theorem sim_feed {J N S : Nat} {h m : ck_H} {a b c d e : Int32} (H : SimP J N S h m) : wp_X11_feed a b c d e h (fun r h' => wp_X12_feed a b c d e m (fun r' m' => r = r' ∧ Sim h' m')) := by
  have T := H.thr 0
  obtain ⟨k, k1, k2, k3, k4⟩ := T.tape
  have i1 : (h.1 0 11 + 20 ≤ (700 : Int32)) ↔ k + 1 ≤ 35 := by
    rw [k2, show (20 : Int32) = nI 20 from rfl, nI_add, show (700 : Int32) = nI 700 from rfl, nI_leI (by omega) (by omega)]; omega
  have i2 : ((ck_sI m 0 0 0).1 0 2 ≤ (680 : Int32)) ↔ k + 1 ≤ 35 := by
    rw [k3, show (680 : Int32) = nI 680 from rfl, nI_leI (by omega) (by omega)]; omega
  unfold wp_X11_feed
  refine ⟨fun c1 => ?_, fun c1 => ?_⟩
  · have hk := i1.mp c1
    refine tx_four k2 (by omega) (fun h1 x1 y1 z1 p1 o1 w1 => tx_four p1 (by omega) (fun h2 x2 y2 z2 p2 o2 w2 => tx_four p2 (by omega) (fun h3 x3 y3 z3 p3 o3 w3 => tx_four p3 (by omega) (fun h4 x4 y4 z4 p4 o4 w4 => tx_four p4 (by omega) (fun h5 x5 y5 z5 p5 o5 w5 => ?_)))))
    unfold wp_X12_feed
    rintro _ rfl
    refine br_p (i2.mpr hk) (mm_f20 (p := 20 * k) (by omega) 20 0 lpN _ (by decide) (by omega) k3 (fun m1 f1 f2 f3 => ?_))
    rw [f1 0 (by decide), k3, show (20 : Int32) = nI 20 from rfl, nI_add]
    rintro _ rfl
    rw [ck_sI_at, p5]
    have e20 : 20 * k + 4 + 4 + 4 + 4 + 4 = 20 * (k + 1) := by omega
    refine ⟨by rw [show 20 * k + 4 + 4 + 4 + 4 + 4 = 20 * k + 20 by omega], J, N, S, T.taped (fun a a1 a2 => ?_) (fun i hi => ?_) ?_ (fun a a1 a2 => ?_) (fun i hi => ?_) ⟨k + 1, hk, by rw [p5, e20], ?_, fun i hi => ?_⟩⟩
    · rw [x5 a a1 a2, x4 a a1 a2, x3 a a1 a2, x2 a a1 a2, x1 a a1 a2]
    · rw [y5 i hi, y4 i hi, y3 i hi, y2 i hi, y1 i hi]
    · rw [z5, z4, z3, z2, z1]
    · rw [ck_sI_ne _ _ _ a1, f1 a a2]
    · rw [ck_sI_nj _ _ hi, f1 0 (by decide)]
    · rw [ck_sI_at, show 20 * k + 20 = 20 * (k + 1) by omega]
    · rw [ck_sI_ne _ _ _ (show (1 : Nat) ≠ 0 by decide)]
      by_cases cI : i < 20 * k
      · obtain ⟨v, v1, v2, v3⟩ := k4 i cI
        refine ⟨v, v1, ?_, ?_⟩
        · rw [o5 i (by omega), o4 i (by omega), o3 i (by omega), o2 i (by omega), o1 i (by omega)]; exact v2
        · rw [f2 i (by omega)]; exact v3
      · obtain ⟨j, rfl⟩ : ∃ j, i = 20 * k + j := ⟨i - 20 * k, by omega⟩
        have fj := f3 j (by omega) (by omega)
        refine ⟨bvl (sel a b c d e j) (j % 4), bvl_lt _ _, ?_, fj⟩
        unfold sel
        by_cases c4 : j < 4
        · rw [if_pos c4, o5 _ (by omega), o4 _ (by omega), o3 _ (by omega), o2 _ (by omega), w1 j c4, Nat.mod_eq_of_lt c4]
        · rw [if_neg c4]
          by_cases c8 : j < 8
          · have := w2 (j - 4) (by omega)
            rw [if_pos c8, o5 _ (by omega), o4 _ (by omega), o3 _ (by omega), show 20 * k + j = 20 * k + 4 + (j - 4) by omega, this, show j % 4 = j - 4 by omega]
          · rw [if_neg c8]
            by_cases c12 : j < 12
            · have := w3 (j - 8) (by omega)
              rw [if_pos c12, o5 _ (by omega), o4 _ (by omega), show 20 * k + j = 20 * k + 4 + 4 + (j - 8) by omega, this, show j % 4 = j - 8 by omega]
            · rw [if_neg c12]
              by_cases c16 : j < 16
              · have := w4 (j - 12) (by omega)
                rw [if_pos c16, o5 _ (by omega), show 20 * k + j = 20 * k + 4 + 4 + 4 + (j - 12) by omega, this, show j % 4 = j - 12 by omega]
              · have := w5 (j - 16) (by omega)
                rw [if_neg c16, show 20 * k + j = 20 * k + 4 + 4 + 4 + 4 + (j - 16) by omega, this, show j % 4 = j - 16 by omega]
  · unfold wp_X12_feed
    rintro _ rfl
    exact br_n (fun z => c1 (i1.mpr (i2.mp z))) ⟨rfl, _, _, _, T⟩
