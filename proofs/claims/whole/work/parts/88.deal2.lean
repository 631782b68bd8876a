theorem tx_nd {r J E : Nat} {d R : Nat → Nat} {Q : Int32 → ck_H → Prop} (hr : r ≤ 4) (hJ : J ≤ 4) (hE : E < 2 ^ 30) : ∀ (k f : Nat) (h' : ck_H) (g : Nat → Nat), k < f → k ≤ r → (∀ j, j < r → h'.1 79 j = nI (g j)) → (∀ j, j < r → g j < R j) → (∀ j, k ≤ j → j < r → g j = 0) → (∀ j, j < r → d j < 10 ∧ h'.1 78 j = nI (d j) ∧ ∃ q, q ≤ 9999 ∧ h'.1 10 (d j) = nI q ∧ R j = if q < E then J else 1) →
    (∀ h2 g', (∀ a, a ≠ 79 → h2.1 a = h'.1 a) → h2.2 = h'.2 → (∀ j, j < r → h2.1 79 j = nI (g' j)) → (∀ j, j < r → g' j < R j) → val R r 0 g' = val R r 0 g + wt R (r - k) k → Q 1 h2) → (∀ h2, (∀ a, a ≠ 79 → h2.1 a = h'.1 a) → h2.2 = h'.2 → val R r 0 g + wt R (r - k) k = wt R r 0 → Q 0 h2) → wp_X0_nextDeal_7 Q f (nI J) (nI E) (nI k - 1) h' := by
  intro k
  induction k with
  | zero =>
    intro f h' g hf hk e79 hg hz hd q1 q0
    obtain ⟨f, rfl⟩ : ∃ g, f = g + 1 := ⟨f - 1, by omega⟩
    unfold wp_X0_nextDeal_7
    refine br_p (by decide) (q0 h' (fun _ _ => rfl) rfl ?_)
    have e : val R r 0 g = val R r 0 (fun _ => 0) := val_congr r 0 _ _ (fun j _ hj => hz j (by omega) (by omega))
    have z : ∀ l k, val R l k (fun _ => 0) = 0 := by
      intro l
      induction l with
      | zero => exact fun _ => rfl
      | succ l ih => intro k; show 0 * _ + _ = 0; rw [ih (k + 1), Nat.zero_mul]
    rw [e, z, Nat.zero_add, Nat.sub_zero]
  | succ k ih =>
    intro f h' g hf hk e79 hg hz hd q1 q0
    obtain ⟨f, rfl⟩ : ∃ g, f = g + 1 := ⟨f - 1, by omega⟩
    obtain ⟨d1, d2, q, hq, eq, eR⟩ := hd k (by omega)
    have ew : wt R (r - k) k = R k * wt R (r - (k + 1)) (k + 1) := by rw [show r - k = (r - (k + 1)) + 1 by omega]; rfl
    have hgk := hg k (by omega)
    unfold wp_X0_nextDeal_7 wp_X0_nextDeal_58
    rw [nI_pred, nI_clamp (n := k) (by omega), d2, nI_clamp (n := d k) (by omega), eq, e79 k (by omega)]
    refine br_n (nI_pos (by omega)) ⟨pu_in (by omega) (by decide), pu_in d1 (by decide), ?_⟩
    have i5 : vp_in (nI k) 5 := pu_in (by omega) (by decide)
    refine pk_le E q (fun c => ?_) (fun c => ⟨i5, i5, ?_⟩)
    · rintro _ rfl
      rw [s1a]
      rw [if_neg (by omega)] at eR
      have e1 : wt R (r - k) k = wt R (r - (k + 1)) (k + 1) := by rw [ew, eR, Nat.one_mul]
      rw [← e1] at q1 q0
      refine ih f h' g (by omega) (by omega) e79 hg (fun j h1 h2 => ?_) hd q1 q0
      by_cases cj : j = k
      · subst cj; omega
      · exact hz j (by omega) h2
    · rw [if_pos (by omega)] at eR
      rw [nI_1]
      rintro _ rfl
      rw [ck_sI_at]
      refine ⟨i5, ?_⟩
      have vu := val_u (R := R) (k := k) (v := g k + 1) r 0 g (by omega) (by omega)
      rw [show 0 + r - 1 - k = r - (k + 1) by omega, Nat.succ_mul] at vu
      refine pk_le J (g k + 1) (fun c2 => ⟨i5, ?_⟩) (fun c2 => ?_)
      · rintro _ rfl
        rintro _ rfl
        rw [s1a]
        have vz := val_u (R := R) (k := k) (v := 0) r 0 g (by omega) (by omega)
        rw [show 0 + r - 1 - k = r - (k + 1) by omega, Nat.zero_mul] at vz
        have eJ : g k + 1 = R k := by omega
        have es : R k * wt R (r - (k + 1)) (k + 1) = g k * wt R (r - (k + 1)) (k + 1) + wt R (r - (k + 1)) (k + 1) := by rw [← eJ, Nat.succ_mul]
        have row : ∀ j, j < r → (ck_sI (ck_sI h' 79 k (nI (g k + 1))) 79 k 0).1 79 j = nI (uN g k 0 j) := fun j hj => by
          by_cases cj : j = k
          · subst cj; rw [ck_sI_at, uN_s]; rfl
          · rw [ck_sI_nj _ _ cj, ck_sI_nj _ _ cj, uN_n cj]; exact e79 j hj
        refine ih f _ (uN g k 0) (by omega) (by omega) row (fun j hj => ?_) (fun j h1 h2 => ?_) (fun j hj => ?_) (fun h2 g' y1 y2 y3 y4 y5 => q1 h2 g' (fun a ha => ?_) ?_ y3 y4 ?_) (fun h2 y1 y2 y3 => q0 h2 (fun a ha => ?_) ?_ ?_)
        · by_cases cj : j = k
          · subst cj; rw [uN_s]; omega
          · rw [uN_n cj]; exact hg j hj
        · by_cases cj : j = k
          · subst cj; rw [uN_s]
          · rw [uN_n cj]; exact hz j (by omega) h2
        · rw [ck_sI_ne _ _ _ (show (78 : Nat) ≠ 79 by decide), ck_sI_ne _ _ _ (show (78 : Nat) ≠ 79 by decide), ck_sI_ne _ _ _ (show (10 : Nat) ≠ 79 by decide), ck_sI_ne _ _ _ (show (10 : Nat) ≠ 79 by decide)]
          exact hd j hj
        · rw [y1 a ha, ck_sI_ne _ _ _ ha, ck_sI_ne _ _ _ ha]
        · rw [y2, ck_sI_2, ck_sI_2]
        · rw [y5, ew]; omega
        · rw [y1 a ha, ck_sI_ne _ _ _ ha, ck_sI_ne _ _ _ ha]
        · rw [y2, ck_sI_2, ck_sI_2]
        · rw [← y3, ew]; omega
      · refine q1 _ (uN g k (g k + 1)) (fun a ha => ck_sI_ne _ _ _ ha) (ck_sI_2 ..) (fun j hj => ?_) (fun j hj => ?_) (by omega)
        · by_cases cj : j = k
          · subst cj; rw [ck_sI_at, uN_s]
          · rw [ck_sI_nj _ _ cj, uN_n cj]; exact e79 j hj
        · by_cases cj : j = k
          · subst cj; rw [uN_s]; omega
          · rw [uN_n cj]; exact hg j hj
theorem tx_as124 {r : Nat} {d e : Nat → Nat} {x y z : Int32} {Q : ck_H → Prop} {K : Int32 → Int32 → Int32 → ck_H → Prop} (hr : r ≤ 4) : ∀ (k i f : Nat) (h' : ck_H), k < f → i + k = r → h'.1 77 6 = nI r → (∀ j, j < r → d j < 10 ∧ h'.1 78 j = nI (d j) ∧ h'.1 79 j = nI (e j)) →
    (∀ h2, (∀ a, a ≠ 19 → h2.1 a = h'.1 a) → h2.2 = h'.2 → h2.1 19 = ab d e k i (h'.1 19) → K x y z h2) → wp_X0_seekDeal_124 Q K f x y z (nI i) h' := by
  intro k
  induction k with
  | zero =>
    intro i f h' hf hi e6 hd q
    obtain ⟨f, rfl⟩ : ∃ g, f = g + 1 := ⟨f - 1, by omega⟩
    unfold wp_X0_seekDeal_124
    exact pk_le r i (fun _ => q h' (fun _ _ => rfl) rfl rfl) (fun z => by omega) e6 rfl (by omega) (by omega)
  | succ k ih =>
    intro i f h' hf hi e6 hd q
    obtain ⟨f, rfl⟩ : ∃ g, f = g + 1 := ⟨f - 1, by omega⟩
    obtain ⟨d1, d2, d3⟩ := hd i (by omega)
    unfold wp_X0_seekDeal_124
    rw [nI_clamp (n := i) (by omega), d2, d3, nI_clamp (n := d i) (by omega), nI_1]
    refine pk_le r i (fun z => by omega) (fun _ => ⟨pu_in (by omega) (by decide), pu_in (by omega) (by decide), pu_in d1 (by decide), ?_⟩) e6 rfl (by omega) (by omega)
    rintro _ rfl _ rfl
    refine ih (i + 1) f _ (by omega) (by omega) (by rw [ck_sI_ne _ _ _ (by decide)]; exact e6) (fun j hj => by rw [ck_sI_ne _ _ _ (show (78 : Nat) ≠ 19 by decide), ck_sI_ne _ _ _ (show (79 : Nat) ≠ 19 by decide)]; exact hd j hj) (fun h2 y1 y2 y3 => q h2 (fun a ha => by rw [y1 a ha, ck_sI_ne _ _ _ ha]) (y2.trans (ck_sI_2 ..)) ?_)
    rw [y3, ck_sI_row]
    rfl
/-- what is sought, in the class -/
def DX (r : Nat) (d : Nat → Nat) (h hc : ck_H) (st : Bs) (row : Nat → Nat) : Prop := kX h hc ∧ hc.1 77 6 = nI r ∧ (∀ j, j < r → hc.1 78 j = nI (d j)) ∧ (∀ j, j < r → hc.1 79 j = nI (row j)) ∧ hc.1 77 7 = st.1 ∧ (st.1 = -1 ∨ ∀ j, j < r → hc.1 80 j = nI (st.2 j))
def DF (r : Nat) (h hc : ck_H) (st : Bs) : Prop := kX h hc ∧ hc.1 77 6 = nI r ∧ hc.1 77 7 = st.1 ∧ (st.1 = -1 ∨ ∀ j, j < r → hc.1 80 j = nI (st.2 j))
theorem DX.f {r : Nat} {d row : Nat → Nat} {h hc : ck_H} {st : Bs} (H : DX r d h hc st row) : DF r h hc st := ⟨H.1, H.2.1, H.2.2.2.2.1, H.2.2.2.2.2⟩
theorem tx_kb {J N S r : Nat} {h h' hc m : ck_H} {st : Bs} {d row : Nat → Nat} {t : Tt} {G : (Nat → Nat) → Int32} {Q : ck_H → Prop} (T : SimP J N S hc m) (hr : r ≤ 5) (x : XF hc h') (q1 : TQ J S (Tv h' 17) t) (hG : G row = g_gain (pl hc) t S - g_gain (pl hc) (Mv m 0) S) (hD : DX r d h hc st row) (e11 : h'.2 74 11 = hc.2 74 11)
    (q : ∀ h2, DX r d h h2 (bu G st row) row → Q h2) : wp_X0_keepIfBetter h' Q := by
  obtain ⟨k1, k2, k3, k4, k5, k6⟩ := hD
  have xr : ∀ a, 77 ≤ a → h'.1 a = hc.1 a := fun a ha => x a (by omega) (by omega) (by omega)
  have kx : kX h h' := k1.tr (x.kX e11)
  unfold wp_X0_keepIfBetter
  refine tx_more T x q1 ?_
  rw [← hG, xr 77 (by omega), k5]
  unfold bu at q
  refine ⟨fun c => ?_, fun c => ?_⟩
  · rw [if_pos c] at q
    exact q h' ⟨kx, by rw [xr 77 (by omega)]; exact k2, fun j hj => by rw [xr 78 (by omega)]; exact k3 j hj, fun j hj => by rw [xr 79 (by omega)]; exact k4 j hj, by rw [xr 77 (by omega)]; exact k5, by rw [xr 80 (by omega)]; exact k6⟩
  · rw [if_neg c] at q
    rintro _ rfl
    have e6 : (ck_sI h' 77 7 (G row)).1 77 6 = nI r := by rw [ck_sI_nj _ _ (by decide), xr 77 (by omega)]; exact k2
    rw [e6]
    have c0 : (0 : Int32).toNatClampNeg = 0 := by decide
    refine ⟨⟨by decide, by decide, nI_pos (by omega), by rw [c0, nI_clamp (n := r) (by omega)]; omega, by rw [c0, nI_clamp (n := r) (by omega)]; omega⟩, ?_⟩
    rintro _ rfl
    refine q _ ⟨kx.tr ⟨fun a ha => by rw [ck_sR_ne _ _ (by omega), ck_sI_ne _ _ _ (by omega)], rfl⟩, ?_, fun j hj => ?_, fun j hj => ?_, ?_, Or.inr (fun j hj => ?_)⟩
    · rw [ck_sR_ne _ _ (by decide)]; exact e6
    · rw [ck_sR_ne _ _ (by decide), ck_sI_ne _ _ _ (by decide), xr 78 (by omega)]; exact k3 j hj
    · rw [ck_sR_ne _ _ (by decide), ck_sI_ne _ _ _ (by decide), xr 79 (by omega)]; exact k4 j hj
    · rw [ck_sR_ne _ _ (by decide), ck_sI_at]
    · rw [ck_sR_at, c0, nI_clamp (n := r) (by omega), sb_cpy0 hj, ck_sI_ne _ _ _ (by decide), xr 79 (by omega)]; exact k4 j hj
theorem tx_dl {J N S r D n : Nat} {h m : ck_H} {d R : Nat → Nat} {Q : ck_H → Prop} (T : SimP J N S h m) (hJ0 : 0 < J) (hn : n ≤ 60) (hr : r ≤ 4) (eD : h.1 7 5 = nI D) (hD9 : D ≤ 9900) (hd : ∀ j, j < r → d j < S) (eR : R = fun k => if k < r ∧ ((Mv m 0).2.2.2.1 (d k)).toNatClampNeg < D + n then J else 1) (hN : wt R r 0 ≤ 256) :
    ∀ (k i f : Nat) (st : Bs) (hc : ck_H) (x3 : Int32), k < f → i + k = wt R r 0 → (k = 0 → x3 = 0) → (0 < k → ¬ x3 = 0) → DX r d h hc st (dgs R r 0 (fun _ => 0) i) →
    (∀ h2, DF r h h2 (lit (fun st c => bu (GD (pl h) (mdM m) J S n r d (Mv m 0)) st (dgs R r 0 (fun _ => 0) c)) k i st) → Q h2) → wp_X0_seekDeal_105 Q f (nI n) (nI J) x3 (nI i) hc := by
  have hJ := T.pr.hJ; have hS := T.pr.hS
  intro k
  induction k with
  | zero =>
    intro i f st hc x3 hf hi hx0 hx1 hX q
    obtain ⟨f, rfl⟩ : ∃ g, f = g + 1 := ⟨f - 1, by omega⟩
    unfold wp_X0_seekDeal_105
    exact ⟨fun _ => q hc hX.f, fun _ => br_p (hx0 rfl) (q hc hX.f)⟩
  | succ k ih =>
    intro i f st hc x3 hf hi hx0 hx1 hX q
    obtain ⟨f, rfl⟩ : ∃ g, f = g + 1 := ⟨f - 1, by omega⟩
    unfold wp_X0_seekDeal_105
    refine pk_le 256 i (fun z => by omega) (fun _ => br_n (hx1 (by omega)) ?_)
    have hX' := hX
    obtain ⟨k1, k2, k3, k4, k5, k6⟩ := hX
    have Tc : SimP J N S hc m := T.keep k1 (kM.rf m)
    have RJ : ∀ j, R j ≤ J := fun j => by rw [eR]; dsimp only; split <;> omega
    have dl : ∀ j, j < r → dgs R r 0 (fun _ => 0) i j < R j := fun j hj => dgs_lt r 0 _ i (by omega) j (by omega) (by omega)
    refine tx_think (fun h1 x1 e2 e3 e4 e5 => ?_)
    have r1 : ∀ a, 77 ≤ a → h1.1 a = hc.1 a := fun a ha => x1 a (by omega) (by omega) (by omega)
    refine tx_as124 (d := d) (e := dgs R r 0 (fun _ => 0) i) hr r 0 lpN h1 (by unfold lpN; omega) (by omega) (by rw [r1 77 (by omega)]; exact k2) (fun j hj => ⟨by have := hd j hj; omega, by rw [r1 78 (by omega)]; exact k3 j hj, by rw [r1 79 (by omega)]; exact k4 j hj⟩) (fun h2 y1 y2 y3 => ?_)
    have x2 : XF hc h2 := fun a a1 a2 a3 => by rw [y1 a (by omega), x1 a a1 a2 a3]
    have em2 : mdX h2 = mdM m := by
      rw [Tc.md, ← e3]
      unfold mdX
      rw [y1 74 (by decide)]
    have ev : ab d (dgs R r 0 (fun _ => 0) i) r 0 = ab d (clp J (dgs R r 0 (fun _ => 0) i)) r 0 := by
      funext f
      refine ab_e r 0 f (fun j _ hj => ?_)
      unfold clp
      rw [if_pos (Nat.lt_of_lt_of_le (dl j (by omega)) (RJ j))]
    have tq2 : TQ J S (Tv h2 17) (T_jd r d (clp J (dgs R r 0 (fun _ => 0) i)) (Mv m 0)) := by
      have b := T_jd_Q (r := r) (d := d) (e := clp J (dgs R r 0 (fun _ => 0) i)) ((e5 J S hJ hS).tr Tc.now.sy)
      refine TQ.tr ?_ b
      refine ⟨⟨?_, ?_, ?_, ?_⟩, fun j hj => ?_, fun s hs => ⟨?_, ?_, ?_⟩, ?_⟩
      · show h2.1 17 4 = h1.1 17 4; rw [y1 17 (by decide)]
      · show h2.1 17 5 = h1.1 17 5; rw [y1 17 (by decide)]
      · show h2.1 17 6 = h1.1 17 6; rw [y1 17 (by decide)]
      · show h2.1 17 7 = h1.1 17 7; rw [y1 17 (by decide)]
      · show h2.1 18 j = h1.1 18 j; rw [y1 18 (by decide)]
      · show h2.1 19 s = ab d (clp J (dgs R r 0 (fun _ => 0) i)) r 0 (h1.1 19) s; rw [y3, ev]
      · show h2.1 20 s = h1.1 20 s; rw [y1 20 (by decide)]
      · show h2.1 21 s = h1.1 21 s; rw [y1 21 (by decide)]
      · show h2.2 74 11 = h1.2 74 11; rw [y2]
    refine tx_run (m := m) (B := 9900) Tc.pr x2 (T_jd_Ok (clp_lt hJ0) T.tok) tq2 em2 T.hl (by omega) (fun h3 x3' m3 q3 => ?_)
    have e11 : h3.2 74 11 = hc.2 74 11 := by
      have e : h3.2 74 11 = (T_days (pl hc) (mdM m) S n (T_jd r d (clp J (dgs R r 0 (fun _ => 0) i)) (Mv m 0))).2.2.2.2.2.2 := q3.2.2.2
      rw [e, T_days_sd0 T.nch]
      exact Tc.now.2.2.2
    refine tx_kb (G := GD (pl h) (mdM m) J S n r d (Mv m 0)) Tc (by omega) x3' q3 (by unfold GD; rw [k1.pl]) hX' e11 (fun h4 hX4 => ?_)
    have hX4' := hX4
    obtain ⟨w1, w2, w3, w4, w5, w6⟩ := hX4
    unfold wp_X0_nextDeal
    rw [w1.1 7 (by omega), eD, nI_add, w2]
    rintro _ rfl
    refine tx_nd (d := d) (R := R) hr hJ (by omega) r lpN h4 (dgs R r 0 (fun _ => 0) i) (by unfold lpN; omega) (Nat.le_refl _) w4 dl (fun j h1 h2 => by omega) (fun j hj => ⟨by have := hd j hj; omega, w3 j hj, ?_⟩) (fun h5 g' z1 z2 z3 z4 z5 => ?_) (fun h5 z1 z2 z3 => ?_)
    · obtain ⟨q', hq, eq⟩ := T.tok.2.2.2.2.1 (d j) (hd j hj)
      refine ⟨q', hq, ?_, ?_⟩
      · rw [w1.1 10 (by omega), ← eq]
        exact (T.now.2.2.1 (d j) (hd j hj)).2.1.symm
      · rw [eR]
        dsimp only
        rw [eq, nI_clamp (n := q') (by omega)]
        by_cases cq : q' < D + n
        · rw [if_pos ⟨hj, cq⟩, if_pos cq]
        · rw [if_neg (fun z => cq z.2), if_neg cq]
    · rintro _ rfl
      rw [nI_1]
      have vd : val R r 0 (dgs R r 0 (fun _ => 0) i) = i := val_dgs r 0 _ i (by omega)
      rw [vd, Nat.sub_self] at z5
      have z5 : val R r 0 g' = i + 1 := z5
      have vl : val R r 0 g' < wt R r 0 := val_lt r 0 g' (fun j _ hj => z4 j (by omega))
      refine ih (i + 1) f _ h5 1 (by omega) (by omega) (fun z => by omega) (fun _ => by decide) ⟨w1.tr ⟨fun a ha => z1 a (by omega), by rw [z2]⟩, by rw [z1 77 (by decide)]; exact w2, fun j hj => by rw [z1 78 (by decide)]; exact w3 j hj, fun j hj => ?_, by rw [z1 77 (by decide)]; exact w5, by rw [z1 80 (by decide)]; exact w6⟩ q
      rw [z3 j hj, ← z5, dgs_val r 0 _ g' (fun j _ hj => z4 j (by omega)) j (by omega) (by omega)]
    · rintro _ rfl
      rw [nI_1]
      have vd : val R r 0 (dgs R r 0 (fun _ => 0) i) = i := val_dgs r 0 _ i (by omega)
      rw [vd, Nat.sub_self] at z3
      have z3 : i + 1 = wt R r 0 := z3
      have ek : k = 0 := by omega
      subst ek
      obtain ⟨f, rfl⟩ : ∃ g, f = g + 1 := ⟨f - 1, by omega⟩
      unfold wp_X0_seekDeal_105
      have fin : Q h5 := q h5 ⟨w1.tr ⟨fun a ha => z1 a (by omega), by rw [z2]⟩, by rw [z1 77 (by decide)]; exact w2, by rw [z1 77 (by decide)]; exact w5, by rw [z1 80 (by decide)]; exact w6⟩
      exact ⟨fun _ => fin, fun _ => br_p rfl fin⟩
theorem mm_pw {a b : Nat} {m : ck_H} {Q : Int32 → ck_H → Prop} (hb : b ≤ 100) : ∀ (k i f p : Nat), k < f → i + k = b → Q (nI (p * a ^ k)) m → wp_X12_power_4 Q f (nI a) (nI b) (nI p) (nI i) m := by
  intro k
  induction k with
  | zero =>
    intro i f p hf hi q
    obtain ⟨f, rfl⟩ : ∃ g, f = g + 1 := ⟨f - 1, by omega⟩
    unfold wp_X12_power_4
    rw [Nat.pow_zero, Nat.mul_one] at q
    exact pk_le b i (fun _ => q) (fun z => by omega)
  | succ k ih =>
    intro i f p hf hi q
    obtain ⟨f, rfl⟩ : ∃ g, f = g + 1 := ⟨f - 1, by omega⟩
    unfold wp_X12_power_4
    rw [pk_mul, nI_1]
    refine pk_le b i (fun z => by omega) (fun _ => ?_)
    rintro _ rfl _ rfl
    refine ih (i + 1) f (p * a) (by omega) (by omega) ?_
    rw [Nat.mul_assoc, ← Nat.pow_succ']
    exact q
theorem mm_power {a b : Nat} {m : ck_H} {Q : Int32 → ck_H → Prop} (hb : b ≤ 100) (q : Q (nI (a ^ b)) m) : wp_X12_power (nI a) (nI b) m Q := by
  unfold wp_X12_power
  refine mm_pw (p := 1) hb b 0 lpN (by unfold lpN; omega) (by omega) ?_
  rw [Nat.one_mul]; exact q
theorem p4_le {a b : Nat} (ha : a ≤ 4) (hb : b ≤ 4) : a ^ b ≤ 256 := Nat.le_trans (Nat.pow_le_pow_left ha b) (Nat.le_trans (Nat.pow_le_pow_right (by omega) hb) (by decide))
theorem mm_as95 {J r c : Nat} {d : Nat → Nat} {x : Int32} {Q : ck_H → Prop} {K : Int32 → Int32 → ck_H → Prop} (hr : r ≤ 4) (hJ : J ≤ 4) (hJ0 : 0 < J) (hc : c < 2 ^ 30) : ∀ (k i f : Nat) (m' : ck_H), k < f → i + k = r → m'.1 0 52 = nI r → m'.1 2 0 = nI J → (∀ j, j < r → d j < 10 ∧ m'.1 29 j = nI (d j)) →
    (∀ m2, (∀ a j, ¬ (a = 26 ∧ 10 ≤ j ∧ j < 20) → m2.1 a j = m'.1 a j) → (∀ s, m2.1 26 (10 + s) = ab d (fun j => c / J ^ (r - 1 - j) % J) k i (fun s => m'.1 26 (10 + s)) s) → K x (nI c) m2) → wp_X12_layDeal_95 Q K f x (nI c) (nI i) m' := by
  intro k
  induction k with
  | zero =>
    intro i f m' hf hi e6 eJ hd q
    obtain ⟨f, rfl⟩ : ∃ g, f = g + 1 := ⟨f - 1, by omega⟩
    unfold wp_X12_layDeal_95
    exact pk_le r i (fun _ => q m' (fun _ _ _ => rfl) (fun _ => rfl)) (fun z => by omega) e6 rfl (by omega) (by omega)
  | succ k ih =>
    intro i f m' hf hi e6 eJ hd q
    obtain ⟨f, rfl⟩ : ∃ g, f = g + 1 := ⟨f - 1, by omega⟩
    obtain ⟨d1, d2⟩ := hd i (by omega)
    unfold wp_X12_layDeal_95
    rw [nI_clamp (n := i) (by omega), d2, e6, eJ, nI_1, show (10 : Int32) + nI (d i) = nI (10 + d i) from nI_add 10 _, nI_clamp (n := 10 + d i) (by omega), show nI r - 1 = nI (r - 1) from pu_s1 (by omega), pk_sub (show i ≤ r - 1 by omega)]
    refine pk_le r i (fun z => by omega) (fun _ => ⟨pu_in (by omega) (by decide), mm_power (by omega) ?_⟩)
    have hp : 0 < J ^ (r - 1 - i) := Nat.pow_pos hJ0
    have hp2 : J ^ (r - 1 - i) ≤ 256 := p4_le hJ (by omega)
    have hcd : c / J ^ (r - 1 - i) ≤ c := Nat.div_le_self _ _
    rw [eJ, pk_div (by omega) hp (by omega), rem_N (by omega) hJ0 (by omega)]
    refine ⟨nI_ne0 hp (by omega), nI_ne0 hJ0 (by omega), pu_in (by omega) (by decide), ?_⟩
    rintro _ rfl _ rfl
    refine ih (i + 1) f _ (by omega) (by omega) (by rw [ck_sI_ne _ _ _ (by decide)]; exact e6) (by rw [ck_sI_ne _ _ _ (by decide)]; exact eJ) (fun j hj => by rw [ck_sI_ne _ _ _ (show (29 : Nat) ≠ 26 by decide)]; exact hd j hj) (fun m2 y1 y2 => q m2 (fun a j hn => ?_) (fun s => ?_))
    · rw [y1 a j hn]
      by_cases ca : a = 26
      · subst ca; exact ck_sI_nj _ _ (by omega)
      · rw [ck_sI_ne _ _ _ ca]
    · rw [y2 s]
      have ef : (fun s => (ck_sI m' 26 (10 + d i) (nI (c / J ^ (r - 1 - i) % J))).1 26 (10 + s)) = upd (fun s => m'.1 26 (10 + s)) (d i) (nI (c / J ^ (r - 1 - i) % J)) := by
        funext s
        by_cases cs : s = d i
        · subst cs; rw [ck_sI_at, pk_us]
        · rw [ck_sI_nj _ _ (by omega), pk_un cs]
      rw [ef]
      rfl
def DM (J r : Nat) (d : Nat → Nat) (m m' : ck_H) (st : Bs) : Prop := kM m m' ∧ m'.1 0 52 = nI r ∧ (∀ j, j < r → m'.1 29 j = nI (d j)) ∧ m'.1 0 53 = st.1 ∧ (st.1 = -1 ∨ ∃ cb, cb < J ^ r ∧ m'.1 0 54 = nI cb ∧ st.2 = dgs (fun _ => J) r 0 (fun _ => 0) cb)
theorem mm_dl {J N S r n : Nat} {h m : ck_H} {d : Nat → Nat} {Q : ck_H → Prop} (T : SimP J N S h m) (hJ0 : 0 < J) (hn : n ≤ 60) (hr : r ≤ 4) (hd : ∀ j, j < r → d j < S) :
    ∀ (k c f : Nat) (st : Bs) (m' : ck_H), k < f → c + k = J ^ r → DM J r d m m' st →
    (∀ m2, DM J r d m m2 (lit (fun st c => bu (GD (pl h) (mdM m) J S n r d (Mv m 0)) st (dgs (fun _ => J) r 0 (fun _ => 0) c)) k c st) → Q m2) → wp_X12_layDeal_70 Q f (nI n) (nI c) m' := by
  have hJ := T.pr.hJ; have hS := T.pr.hS
  have hJr : J ^ r ≤ 256 := p4_le hJ hr
  intro k
  induction k with
  | zero =>
    intro c f st m' hf hc hX q
    obtain ⟨f, rfl⟩ : ∃ g, f = g + 1 := ⟨f - 1, by omega⟩
    have eJ : m'.1 2 0 = nI J := by rw [hX.1.row (by omega) (by omega)]; exact T.pr.mJ
    unfold wp_X12_layDeal_70
    rw [eJ, hX.2.1]
    exact mm_power (by omega) (pk_le (J ^ r) c (fun _ => q m' hX) (fun z => by omega))
  | succ k ih =>
    intro c f st m' hf hc hX q
    obtain ⟨f, rfl⟩ : ∃ g, f = g + 1 := ⟨f - 1, by omega⟩
    obtain ⟨km, e52, e29, e53, e54⟩ := hX
    have eJ : m'.1 2 0 = nI J := by rw [km.row (by omega) (by omega)]; exact T.pr.mJ
    unfold wp_X12_layDeal_70
    rw [eJ, e52]
    refine mm_power (by omega) (pk_le (J ^ r) c (fun z => by omega) (fun _ => ?_))
    refine mm_copies (t := 1) (b := 0) (by decide) (by decide) (by decide) (fun m1 f1 q1 => ?_)
    have q1 := q1 J S hJ hS
    have km1 : kM m m1 := km.tr (fun a i h1 _ _ _ => f1 a i h1)
    have mv0 := km.mv hJ hS (b := 0) (by decide)
    have tq1 : TQ J S (Mv m1 1) (Mv m 0) := q1.1.tr mv0.1
    have z1 : LZ J (Mv m1 1) := (T.nz.l mv0.2).l q1.2
    refine mm_as95 (d := d) hr hJ hJ0 (by omega) r 0 lpN m1 (by unfold lpN; omega) (by omega) (by rw [f1 0 52 (by unfold inB; omega)]; exact e52) (by rw [f1 2 0 (by unfold inB; omega)]; exact eJ) (fun j hj => ⟨by have := hd j hj; omega, by rw [f1 29 j (by unfold inB; omega)]; exact e29 j hj⟩) (fun m2 y1 y2 => ?_)
    have km2 : kM m m2 := km1.tr (fun a i h1 _ _ _ => y1 a i (by unfold inB at h1; omega))
    have P2 : PR h m2 J N S := T.pr.kept (fun _ _ _ => rfl) (fun a h1 h2 => km2.row (by omega) (by omega))
    have em2 : mdM m2 = mdM m := by
      unfold mdM
      rw [km2.fl (i := 46) (by omega), km2.fl (i := 47) (by omega), km2.fl (i := 48) (by omega), km2.fl (i := 49) (by omega), km2.row (a := 2) (by decide) (by decide)]
    have ee : ab d (fun j => c / J ^ (r - 1 - j) % J) r 0 = ab d (clp J (dgs (fun _ => J) r 0 (fun _ => 0) c)) r 0 := by
      funext f
      refine ab_e r 0 f (fun j _ hj => ?_)
      have e := dgs_c hJ0 r 0 (fun _ => 0) c (by omega) j (by omega) (by omega)
      unfold clp
      rw [e, show 0 + r - 1 - j = r - 1 - j by omega, if_pos (Nat.mod_lt _ hJ0)]
    have tq2 : TQ J S (Mv m2 1) (T_jd r d (clp J (dgs (fun _ => J) r 0 (fun _ => 0) c)) (Mv m 0)) := by
      refine TQ.tr ?_ (T_jd_Q (r := r) (d := d) (e := clp J (dgs (fun _ => J) r 0 (fun _ => 0) c)) tq1)
      refine ⟨⟨?_, ?_, ?_, ?_⟩, fun j hj => ?_, fun s hs => ⟨?_, ?_, ?_⟩, ?_⟩
      · show m2.1 22 1 = m1.1 22 1; exact y1 22 1 (by omega)
      · show m2.1 20 1 = m1.1 20 1; exact y1 20 1 (by omega)
      · show m2.1 21 1 = m1.1 21 1; exact y1 21 1 (by omega)
      · show m2.1 23 1 = m1.1 23 1; exact y1 23 1 (by omega)
      · show m2.1 24 (4 * 1 + j) = m1.1 24 (4 * 1 + j); exact y1 24 _ (by omega)
      · show m2.1 26 (10 + s) = ab d (clp J (dgs (fun _ => J) r 0 (fun _ => 0) c)) r 0 (fun s => m1.1 26 (10 + s)) s; rw [y2 s, ee]
      · show m2.1 27 (10 * 1 + s) = m1.1 27 (10 * 1 + s); exact y1 27 _ (by omega)
      · show m2.1 28 (10 * 1 + s) = m1.1 28 (10 * 1 + s); exact y1 28 _ (by omega)
      · show (m2.1 0 50).toInt64 = (m1.1 0 50).toInt64; rw [y1 0 50 (by omega)]
    have z2 : LZ J (Mv m2 1) := fun j hj => (y1 25 (4 * 1 + j) (by omega)).trans (z1 j hj)
    have sd2 : SdOk (T_jd r d (clp J (dgs (fun _ => J) r 0 (fun _ => 0) c)) (Mv m 0)) := by
      obtain ⟨a, a1, a2⟩ := T.sd0
      exact ⟨a, a1, a2⟩
    refine mm_run P2 (T_jd_Ok (clp_lt hJ0) T.tok) sd2 tq2 z2 em2 T.hl (by omega) (by omega) (fun m3 q3 z3 f3 => ?_)
    have km3 : kM m m3 := km2.tr (f3.kM (by
      have e : (m3.1 0 50).toInt64 = (T_days (pl h) (mdM m) S n (T_jd r d (clp J (dgs (fun _ => J) r 0 (fun _ => 0) c)) (Mv m 0))).2.2.2.2.2.2 := q3.2.2.2
      rw [e, T_days_sd0 T.nch, km2.fl (i := 50) (by omega)]
      rfl))
    have o3 : ∀ a i, (a = 0 ∧ i ≠ 34 ∧ i ≠ 50) ∨ a = 29 → m3.1 a i = m'.1 a i := fun a i ha => by
      rw [f3 a i (by unfold inB; omega) (by omega), y1 a i (by omega), f1 a i (by unfold inB; omega)]
    refine mm_more (Q := fun r m'' => ∀ v35, v35 = r → (((m''.1 0 53) < v35 → (∀ h37, h37 = ck_sI m'' 0 53 v35 → (∀ h38, h38 = ck_sI h37 0 54 (nI c) → wp_X12_layDeal_187 Q (wp_X12_layDeal_70 Q f) (nI n) (nI c) h38))) ∧ (¬ (m''.1 0 53) < v35 → wp_X12_layDeal_187 Q (wp_X12_layDeal_70 Q f) (nI n) (nI c) m''))) T km3 q3 ?_
    have eG : g_gain (pl h) (T_days (pl h) (mdM m) S n (T_jd r d (clp J (dgs (fun _ => J) r 0 (fun _ => 0) c)) (Mv m 0))) S - g_gain (pl h) (Mv m 0) S = GD (pl h) (mdM m) J S n r d (Mv m 0) (dgs (fun _ => J) r 0 (fun _ => 0) c) := rfl
    rw [eG, o3 0 53 (by omega), e53]
    rintro _ rfl
    unfold wp_X12_layDeal_187
    have q' : ∀ m2, DM J r d m m2 (lit (fun st c => bu (GD (pl h) (mdM m) J S n r d (Mv m 0)) st (dgs (fun _ => J) r 0 (fun _ => 0) c)) k (c + 1) (bu (GD (pl h) (mdM m) J S n r d (Mv m 0)) st (dgs (fun _ => J) r 0 (fun _ => 0) c))) → Q m2 := q
    unfold bu at q'
    refine ⟨fun cc => ?_, fun cc => ?_⟩
    · rintro _ rfl _ rfl _ rfl
      rw [nI_1]
      rw [if_neg (Int32.not_le.mpr cc)] at q'
      refine ih (c + 1) f _ _ (by omega) (by omega) ⟨km3.tr ((kM.thr _ 53 _ (by omega)).tr (kM.thr _ 54 _ (by omega))), ?_, fun j hj => ?_, ?_, Or.inr ⟨c, by omega, ck_sI_at .., rfl⟩⟩ q'
      · rw [ck_sI_nj _ _ (by decide), ck_sI_nj _ _ (by decide), o3 0 52 (by omega)]; exact e52
      · rw [ck_sI_ne _ _ _ (by decide), ck_sI_ne _ _ _ (by decide), o3 29 j (by omega)]; exact e29 j hj
      · rw [ck_sI_nj _ _ (by decide), ck_sI_at]
    · rintro _ rfl
      rw [nI_1]
      rw [if_pos (Int32.not_lt.mp cc)] at q'
      refine ih (c + 1) f _ _ (by omega) (by omega) ⟨km3, by rw [o3 0 52 (by omega)]; exact e52, fun j hj => by rw [o3 29 j (by omega)]; exact e29 j hj, by rw [o3 0 53 (by omega)]; exact e53, ?_⟩ q'
      rw [o3 0 54 (by omega)]; exact e54
theorem wt_le {R : Nat → Nat} {J : Nat} (h : ∀ k, R k ≤ J) : ∀ l k, wt R l k ≤ J ^ l := by
  intro l
  induction l with
  | zero => exact fun _ => Nat.le_refl _
  | succ l ih =>
    intro k
    show R k * wt R l (k + 1) ≤ J ^ (l + 1)
    rw [Nat.pow_succ, Nat.mul_comm (J ^ l)]
    exact Nat.mul_le_mul (h k) (ih (k + 1))
theorem sim_deal {J N S : Nat} {h m : ck_H} {x y : Int32} (H : SimP J N S h m) : wp_X11_deal x y h (fun r h' => wp_X12_deal x y m (fun r' m' => r = r' ∧ Sim h' m')) := by
  have T := H.thr 0
  have P := T.pr
  have hJ := P.hJ; have hS := P.hS
  unfold wp_X11_deal
  refine ⟨fun c => ?_, fun c => ⟨fun c2 => ?_, fun c2 => ⟨fun c3 => ?_, fun c3 => ⟨fun c4 => ?_, fun c4 => ⟨fun c5 => ?_, fun c5 => ?_⟩⟩⟩⟩⟩
  · unfold wp_X12_deal; rintro _ rfl; exact br_p c ⟨rfl, _, _, _, T⟩
  · unfold wp_X12_deal; rintro _ rfl; exact br_n c (br_p c2 ⟨rfl, _, _, _, T⟩)
  · unfold wp_X12_deal; rintro _ rfl; exact br_n c (br_n c2 (br_p c3 ⟨rfl, _, _, _, T⟩))
  · unfold wp_X12_deal; rintro _ rfl; exact br_n c (br_n c2 (br_n c3 (br_p c4 ⟨rfl, _, _, _, T⟩)))
  · obtain ⟨n, hn, rfl⟩ := nI_of2 (x := x) (M := 60) (n := 60) (by decide) (fun w => c (Int32.lt_of_lt_of_le w (by decide))) (Int32.not_lt.mp c2)
    obtain ⟨w, hw, rfl⟩ := nI_of2 (x := y) (M := 4) (n := 4) (by decide) c3 (Int32.not_lt.mp c4)
    have hJ0 : 0 < J := by
      rcases Nat.eq_zero_or_pos J with z | z
      · rw [P.xJ, z] at c5; exact absurd rfl c5
      · exact z
    obtain ⟨D, hD9, eD⟩ := T.nok.1
    have eD : h.1 7 5 = nI D := eD
    generalize hg : ga (fun s => decide (h.1 11 s = -1)) 4 S 0 (fun _ => 0) 0 = gr
    have gk := ga_ok (C := fun s => decide (h.1 11 s = -1)) (L := 4) S 0 (fun _ => 0) 0 ⟨fun j hj => by omega, fun j k _ hk => by omega⟩ (by omega)
    rw [hg] at gk
    obtain ⟨d, r⟩ := gr
    obtain ⟨⟨gk1, gk2⟩, hr⟩ := gk
    have hr : r ≤ 4 := hr
    have hd : ∀ j, j < r → d j < S := fun j hj => by have q : d j < 0 + S := (gk1 j hj).1; omega
    generalize hMm : ck_sI m 0 0 0 = Mm at T P
    generalize eR : (fun k => if k < r ∧ ((Mv Mm 0).2.2.2.1 (d k)).toNatClampNeg < D + n then J else 1 : Nat → Nat) = R
    have RJ : ∀ j, R j ≤ J := fun j => by rw [← eR]; dsimp only; split <;> omega
    have R0 : ∀ j, 0 < R j := fun j => by rw [← eR]; dsimp only; split <;> omega
    have hN : wt R r 0 ≤ 256 := Nat.le_trans (wt_le RJ r 0) (p4_le hJ hr)
    have ed0 : (Mv Mm 0).1 5 = nI D := by rw [T.now.1.2.1]; exact eD
    have key : lit (fun st c => bu (GD (pl h) (mdM Mm) J S n r d (Mv Mm 0)) st (dgs R r 0 (fun _ => 0) c)) (wt R r 0) 0 (-1, fun _ => 0) = lit (fun st c => bu (GD (pl h) (mdM Mm) J S n r d (Mv Mm 0)) st (dgs (fun _ => J) r 0 (fun _ => 0) c)) (J ^ r) 0 (-1, fun _ => 0) := by
      rw [lx_code R0, ← wt_c (J := J) r 0, lx_code (R := fun _ => J) (fun _ => hJ0), ← eR]
      exact (lx_rel (rel := fun k => k < r ∧ ((Mv Mm 0).2.2.2.1 (d k)).toNatClampNeg < D + n) (by omega) (fun f k v hk => GD_u hJ hJ0 P.rtee T.hl T.tok ed0 (by omega) k v f hk) r 0 _ _).symm
    generalize hst : lit (fun st c => bu (GD (pl h) (mdM Mm) J S n r d (Mv Mm 0)) st (dgs R r 0 (fun _ => 0) c)) (wt R r 0) 0 (-1, fun _ => 0) = st at key
    have hpos : ¬ st.1 = -1 := by
      obtain ⟨g, g1, g2⟩ := GD_ge (md := mdM Mm) (n := n) (r := r) (d := d) (t := Mv Mm 0) P (fun _ => 0)
      have a := lx_all (G := GD (pl h) (mdM Mm) J S n r d (Mv Mm 0)) (R := R) r 0 (-1, fun _ => 0) (fun _ => 0) (fun _ => 0) ⟨fun _ _ => rfl, fun j _ _ => R0 j⟩
      rw [← lx_code R0, hst, g2] at a
      intro z
      rw [z] at a
      exact absurd (Int32.le_trans (nI_pos' (n := g) (by omega)) a) (by decide)
    have md : ∀ Rr : Int32 → ck_H → Prop, (∀ m2, kM Mm m2 → Rr (if w = 4 then st.1 else if r ≤ w then -2 else nI (st.2 w)) m2) → wp_X12_deal (nI n) (nI w) m Rr := by
      intro Rr hR
      unfold wp_X12_deal
      rw [hMm]
      intro m0 e0
      rw [e0]
      refine br_n c (br_n c2 (br_n c3 (br_n c4 (br_m (by rw [P.mJ, ← P.xJ]; exact c5) ?_))))
      unfold wp_X12_layDeal
      rintro _ rfl
      refine mm_gaD T S 0 lpN 0 (fun _ => 0) _ (by unfold lpN; omega) (by omega) (by omega) (kM.thr _ 52 _ (by omega)) (ck_sI_at ..) (fun j hj => by omega) (fun m2 k2 e52 e29 => ?_)
      rw [hg] at e52 e29
      unfold wp_X12_layDeal_63
      rintro _ rfl
      refine mm_dl (d := d) T hJ0 hn hr hd (J ^ r) 0 lpN (-1, fun _ => 0) _ (by have := p4_le hJ hr; unfold lpN; omega) (by omega) ⟨k2.tr (kM.thr _ 53 _ (by omega)), by rw [ck_sI_nj _ _ (by decide)]; exact e52, fun j hj => by rw [ck_sI_ne _ _ _ (by decide)]; exact e29 j hj, ck_sI_at .., Or.inl rfl⟩ (fun m3 hX => ?_)
      rw [← key] at hX
      obtain ⟨km, a52, a29, a53, a54⟩ := hX
      have hR := hR m3 km
      by_cases w4 : w = 4
      · subst w4
        rw [if_pos rfl] at hR
        refine br_q rfl ?_
        rw [a53]; exact hR
      · rw [if_neg w4] at hR
        refine br_m (fun z => w4 ?_) ?_
        · rw [show (4 : Int32) = nI 4 from rfl, nI_eq (by omega) (by omega)] at z; exact z
        · rw [a52]
          refine pk_le r w (fun z => ?_) (fun z => ?_)
          · rw [if_pos z] at hR; exact hR
          · rw [if_neg (by omega)] at hR
            obtain ⟨cb, cb1, cb2, cb3⟩ : ∃ cb, cb < J ^ r ∧ m3.1 0 54 = nI cb ∧ st.2 = dgs (fun _ => J) r 0 (fun _ => 0) cb := by
              rcases a54 with z | z
              · exact absurd z hpos
              · exact z
            have eJ : m3.1 2 0 = nI J := by rw [km.row (by omega) (by omega)]; exact P.mJ
            have hJr : J ^ r ≤ 256 := p4_le hJ hr
            rw [eJ, show nI r - 1 = nI (r - 1) from pu_s1 (by omega), pk_sub (show w ≤ r - 1 by omega)]
            refine mm_power (by omega) ?_
            have hp : 0 < J ^ (r - 1 - w) := Nat.pow_pos hJ0
            have hp2 : J ^ (r - 1 - w) ≤ 256 := p4_le hJ (by omega)
            have hcd : cb / J ^ (r - 1 - w) ≤ cb := Nat.div_le_self _ _
            rw [eJ, cb2, pk_div (by omega) hp (by omega), rem_N (by omega) hJ0 (by omega)]
            refine ⟨nI_ne0 hp (by omega), nI_ne0 hJ0 (by omega), ?_⟩
            rw [cb3, dgs_c hJ0 r 0 _ cb cb1 w (by omega) (by omega), show 0 + r - 1 - w = r - 1 - w by omega] at hR
            exact hR
    unfold wp_X0_seekDeal
    rw [P.xJ]
    rintro _ rfl _ rfl
    refine tx_gaD P S 0 lpN 0 (fun _ => 0) _ (by unfold lpN; omega) (by omega) (by omega) (kX.set (by omega)) (ck_sI_at ..) (fun j hj => by omega) (fun h2 k2 e6 e78 => ?_)
    rw [hg] at e6 e78
    unfold wp_X0_seekDeal_95
    rintro _ rfl
    have z0 : ∀ j, dgs R r 0 (fun _ => 0) 0 j = 0 := by
      have : ∀ l k (f : Nat → Nat), (∀ j, f j = 0) → ∀ j, dgs R l k f 0 j = 0 := by
        intro l
        induction l with
        | zero => exact fun _ _ h => h
        | succ l ih =>
          intro k f h j
          show dgs R l (k + 1) (uN f k (0 / wt R l (k + 1))) (0 % wt R l (k + 1)) j = 0
          rw [Nat.zero_div, Nat.zero_mod]
          refine ih (k + 1) _ (fun i => ?_) j
          by_cases ci : i = k
          · subst ci; rw [uN_s]
          · rw [uN_n ci]; exact h i
      exact this r 0 _ (fun _ => rfl)
    refine tx_dl (d := d) (R := R) T hJ0 hn hr eD hD9 hd eR.symm hN (wt R r 0) 0 lpN (-1, fun _ => 0) _ 1 (by unfold lpN; omega) (by omega) (fun z => by have := wt_pos R0 r 0; omega) (fun _ => by decide) ⟨k2.tr (kX.set (by omega)), by rw [ck_sI_nj _ _ (by decide)]; exact e6, fun j hj => by rw [ck_sI_ne _ _ _ (by decide)]; exact (e78 j hj).1, fun j hj => by rw [ck_sI_ne _ _ _ (by decide), (e78 j hj).2, z0 j]; rfl, ck_sI_at .., Or.inl rfl⟩ (fun h3 hX => ?_)
    rw [hst] at hX
    obtain ⟨kx, b6, b7, b80⟩ := hX
    have b80 : ∀ j, j < r → h3.1 80 j = nI (st.2 j) := by
      rcases b80 with z | z
      · exact absurd z hpos
      · exact z
    rw [nI_clamp (n := w) (by omega)]
    by_cases w4 : w = 4
    · subst w4
      refine br_q rfl (md _ (fun m2 km => ⟨?_, _, _, _, T.keep kx km⟩))
      rw [if_pos rfl, b7]
    · refine br_m (fun z => w4 ?_) ?_
      · rw [show (4 : Int32) = nI 4 from rfl, nI_eq (by omega) (by omega)] at z; exact z
      · refine pk_le r w (fun z => md _ (fun m2 km => ⟨?_, _, _, _, T.keep kx km⟩)) (fun z => ⟨pu_in (by omega) (by decide), md _ (fun m2 km => ⟨?_, _, _, _, T.keep kx km⟩)⟩) b6 rfl (by omega) (by omega)
        · rw [if_neg w4, if_pos z]
        · rw [if_neg w4, if_neg (by omega), b80 w z]
  · unfold wp_X12_deal; rintro _ rfl; exact br_n c (br_n c2 (br_n c3 (br_n c4 (br_q (by rw [P.mJ, ← P.xJ]; exact c5) ⟨rfl, _, _, _, T⟩))))
