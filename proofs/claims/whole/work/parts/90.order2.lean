def tO (p : Nat → Nat → Int32) (md : Md) (row : Nat → Nat) : Nat → Nat → Tt → Tt
  | 0, _, t => t
  | k + 1, i, t => tO p md row k (i + 1) (T_try p md t (row i))
theorem T_try_Ok {B J S s : Nat} {p : Nat → Nat → Int32} {md : Md} {t : Tt} (hJ : J ≤ 4) (hs : s < S) (H : TOk B J S t) : TOk B J S (T_try p md t s) := by
  obtain ⟨j, hj, ej⟩ := H.2.2.2.1 s hs
  unfold T_try
  rw [ej, nI_clamp (n := j) (by omega)]
  exact T_out_Ok hj H
theorem T_try_5 (p : Nat → Nat → Int32) (md : Md) (t : Tt) (s : Nat) : (T_try p md t s).1 5 = t.1 5 ∧ (T_try p md t s).2.2.1 = t.2.2.1 ∧ (T_try p md t s).2.2.2.1 = t.2.2.2.1 := by
  have a := T_out_5 p md t s (t.2.2.1 s).toNatClampNeg (p 13 s).toNatClampNeg (T_hd p md t s) (T_draw md t.2.2.2.2.2.2)
  exact ⟨a.1, a.2.2.1, a.2.2.2⟩
theorem T_try_sd0 {p : Nat → Nat → Int32} {md : Md} {t : Tt} {s : Nat} (h : md.2.2.2.2.1 = false) : (T_try p md t s).2.2.2.2.2.2 = t.2.2.2.2.2.2 := by
  unfold T_try
  rw [T_out_sd1]
  unfold T_draw
  rw [if_neg (by rw [h]; decide)]
theorem T_try_vd (p : Nat → Nat → Int32) (md : Md) (t : Tt) (s i : Nat) (h : i ≠ s) : (T_try p md t s).2.2.2.2.1 i = t.2.2.2.2.1 i := by
  unfold T_try
  rw [T_out_vd, pk_un h]
theorem tO_Ok {B J S : Nat} {p : Nat → Nat → Int32} {md : Md} {row : Nat → Nat} (hJ : J ≤ 4) : ∀ (k i : Nat) (t : Tt), (∀ j, i ≤ j → j < i + k → row j < S) → TOk B J S t → TOk B J S (tO p md row k i t) := by
  intro k
  induction k with
  | zero => exact fun _ _ _ H => H
  | succ k ih => exact fun i t h H => ih (i + 1) _ (fun j a b => h j (by omega) (by omega)) (T_try_Ok hJ (h i (by omega) (by omega)) H)
theorem tO_5 {p : Nat → Nat → Int32} {md : Md} {row : Nat → Nat} : ∀ (k i : Nat) (t : Tt), (tO p md row k i t).1 5 = t.1 5 ∧ (tO p md row k i t).2.2.1 = t.2.2.1 := by
  intro k
  induction k with
  | zero => exact fun _ _ => ⟨rfl, rfl⟩
  | succ k ih =>
    intro i t
    have a := ih (i + 1) (T_try p md t (row i))
    have b := T_try_5 p md t (row i)
    exact ⟨a.1.trans b.1, a.2.trans b.2.1⟩
theorem tO_sd0 {p : Nat → Nat → Int32} {md : Md} {row : Nat → Nat} (h : md.2.2.2.2.1 = false) : ∀ (k i : Nat) (t : Tt), (tO p md row k i t).2.2.2.2.2.2 = t.2.2.2.2.2.2 := by
  intro k
  induction k with
  | zero => exact fun _ _ => rfl
  | succ k ih => exact fun i t => (ih (i + 1) _).trans (T_try_sd0 h)
theorem tO_vd {p : Nat → Nat → Int32} {md : Md} {row : Nat → Nat} {s : Nat} : ∀ (k i : Nat) (t : Tt), (∀ j, i ≤ j → j < i + k → row j ≠ s) → (tO p md row k i t).2.2.2.2.1 s = t.2.2.2.2.1 s := by
  intro k
  induction k with
  | zero => exact fun _ _ _ => rfl
  | succ k ih =>
    intro i t h
    refine (ih (i + 1) _ (fun j a b => h j (by omega) (by omega))).trans ?_
    exact T_try_vd p md t (row i) s (fun z => h i (by omega) (by omega) z.symm)
theorem tO_Q {B J S : Nat} {p : Nat → Nat → Int32} {md : Md} {row : Nat → Nat} (hJ : J ≤ 4) : ∀ (k i : Nat) (t u : Tt), (∀ j, i ≤ j → j < i + k → row j < S) → TOk B J S t → TQ J S t u → TL J t u → TQ J S (tO p md row k i t) (tO p md row k i u) ∧ TL J (tO p md row k i t) (tO p md row k i u) := by
  intro k
  induction k with
  | zero => exact fun _ _ _ _ _ h l => ⟨h, l⟩
  | succ k ih =>
    intro i t u h H q l
    have a := T_try_Q (p := p) (md := md) hJ (h i (by omega) (by omega)) H q l
    exact ih (i + 1) _ _ (fun j a b => h j (by omega) (by omega)) (T_try_Ok hJ (h i (by omega) (by omega)) H) a.1 a.2
theorem tO_c {p : Nat → Nat → Int32} {md : Md} {row row' : Nat → Nat} : ∀ (k i : Nat) (t : Tt), (∀ j, i ≤ j → j < i + k → row j = row' j) → tO p md row k i t = tO p md row' k i t := by
  intro k
  induction k with
  | zero => exact fun _ _ _ => rfl
  | succ k ih =>
    intro i t h
    unfold tO
    rw [h i (by omega) (by omega)]
    exact ih (i + 1) _ (fun j a b => h j (by omega) (by omega))
def GO (p : Nat → Nat → Int32) (md : Md) (S r : Nat) (t : Tt) (row : Nat → Nat) : Int32 := g_gain p (T_from p md S 0 (tO p md row r 0 t)) S - g_gain p t S
theorem GO_ge {h m : ck_H} {J N S r : Nat} {md : Md} {t : Tt} {row : Nat → Nat} (P : PR h m J N S) (hv : ∀ j, j < r → t.2.2.2.2.1 (row j) = -1) : ∃ g, g ≤ 990 ∧ GO (pl h) md S r t row = nI g := by
  unfold GO
  refine g_more P (fun s hs => ?_)
  by_cases c : t.2.2.2.2.1 s = -1
  · exact Or.inl c
  · have e : (tO (pl h) md row r 0 t).2.2.2.2.1 s = t.2.2.2.2.1 s := tO_vd r 0 t (fun j _ hj z => c (by rw [← z]; exact hv j (by omega)))
    exact Or.inr ((T_from_vk S 0 _ (by rw [e]; exact c)).trans e)
theorem tx_115 {S r : Nat} {row : Nat → Nat} {x : Int32} {Q : ck_H → Prop} {K : Int32 → ck_H → Prop} (hr : r ≤ 5) (hrow : ∀ j, j < r → row j < S) : ∀ (k i f : Nat) (h' : ck_H), k < f → i + k = r → h'.1 77 6 = nI r → (∀ j, j < r → h'.1 79 j = nI (row j)) → OkT h' 17 S →
    (∀ h2, Tv h2 17 = tO (pl h') (mdX h') row k i (Tv h' 17) → frT 17 h' h2 → K x h2) → wp_X0_seekOrder_115 Q K f x (nI i) h' := by
  intro k
  induction k with
  | zero =>
    intro i f h' hf hi e6 e79 ok q
    obtain ⟨f, rfl⟩ : ∃ g, f = g + 1 := ⟨f - 1, by omega⟩
    unfold wp_X0_seekOrder_115
    exact pk_le r i (fun _ => q h' rfl (frT.rf 17 h')) (fun z => by omega) e6 rfl (by omega) (by omega)
  | succ k ih =>
    intro i f h' hf hi e6 e79 ok q
    obtain ⟨f, rfl⟩ : ∃ g, f = g + 1 := ⟨f - 1, by omega⟩
    unfold wp_X0_seekOrder_115
    have hS := ok.1
    have hs := hrow i (by omega)
    rw [nI_clamp (n := i) (by omega), e79 i (by omega), nI_1]
    refine pk_le r i (fun z => by omega) (fun _ => ⟨pu_in (by omega) (by decide), ?_⟩) e6 rfl (by omega) (by omega)
    obtain ⟨⟨j, hj, ej⟩, n, hn, en⟩ := ok.2.2.2 (row i) hs
    refine tx_try (Or.inr rfl) (by omega) hj hn ej en ok.2.2.1 (fun h1 e1 f1 => ?_)
    rintro _ rfl
    have g : ∀ a, 77 ≤ a → h1.1 a = h'.1 a := fun a ha => f1.1 a (by omega) (by omega) (by omega) (by omega) (by omega)
    refine ih (i + 1) f h1 (by omega) (by omega) (by rw [g 77 (by omega)]; exact e6) (fun j hj => by rw [g 79 (by omega)]; exact e79 j hj) (ok.fr (Or.inr rfl) f1) (fun h2 e2 f2 => q h2 ?_ (f1.tr f2))
    rw [e2, f1.pl (Or.inr rfl), f1.md, e1]
    rfl
theorem tx_148 {S : Nat} {x : Int32} {Q : ck_H → Prop} {K : Int32 → ck_H → Prop} : ∀ (k s f : Nat) (h' : ck_H), k < f → s + k = S → OkT h' 17 S → h'.1 17 5 = h'.1 7 5 → h'.1 74 9 = -1 →
    (∀ h2, Tv h2 17 = T_from (pl h') (mdX h') k s (Tv h' 17) → frT 17 h' h2 → K x h2) → wp_X0_seekOrder_148 Q K f x (nI s) h' := by
  intro k
  induction k with
  | zero =>
    intro s f h' hf hs ok ed eb q
    obtain ⟨f, rfl⟩ : ∃ g, f = g + 1 := ⟨f - 1, by omega⟩
    have hS := ok.1
    unfold wp_X0_seekOrder_148
    exact pk_le S s (fun _ => q h' rfl (frT.rf 17 h')) (fun z => by omega) ok.2.1 rfl (by omega) (by omega)
  | succ k ih =>
    intro s f h' hf hs ok ed eb q
    obtain ⟨f, rfl⟩ : ∃ g, f = g + 1 := ⟨f - 1, by omega⟩
    have hS := ok.1
    unfold wp_X0_seekOrder_148 wp_X0_seekOrder_209
    obtain ⟨⟨j, hj, ej⟩, n, hn, en⟩ := ok.2.2.2 s (by omega)
    rw [nI_clamp (n := s) (by omega)]
    have i10 : vp_in (nI s) 10 := pu_in (by omega) (by decide)
    have hgo : ∀ h1, Tv h1 17 = T_one (pl h') (mdX h') (Tv h' 17) s → frT 17 h' h1 → ∀ v26, v26 = nI s + 1 → wp_X0_seekOrder_148 Q K f x v26 h1 := by
      rintro h1 e1 f1 _ rfl
      rw [nI_1]
      refine ih (s + 1) f h1 (by omega) (by omega) (ok.fr (Or.inr rfl) f1) ?_ (by rw [f1.2 9 (by decide) (by decide)]; exact eb) (fun h2 e2 f2 => q h2 ?_ (f1.tr f2))
      · have a : h1.1 17 5 = h'.1 17 5 := by
          have := (T_one_5 (pl h') (mdX h') (Tv h' 17) s).1
          rw [← e1] at this
          exact this
        rw [a, ed, f1.1 7 (by omega) (by omega) (by omega) (by omega) (by omega)]
      · rw [e2, f1.pl (Or.inr rfl), f1.md, e1]
        rfl
    have hno : ¬ T_due (mdX h') (Tv h' 17) s → ∀ v26, v26 = nI s + 1 → wp_X0_seekOrder_148 Q K f x v26 h' := fun c => hgo h' (by unfold T_one; rw [if_neg c]) (frT.rf 17 h')
    refine pk_le S s (fun z => by omega) (fun _ => ⟨i10, fun c => hno (fun z => c z.2.1), fun c => ⟨i10, fun c2 => hno (fun z => c2 (z.1.trans ed)), fun c2 => ?_⟩⟩) ok.2.1 rfl (by omega) (by omega)
    refine tx_try (Or.inr rfl) (by omega) hj hn ej en ok.2.2.1 (fun h1 e1 f1 => hgo h1 ?_ f1)
    unfold T_one
    have dd : T_due (mdX h') (Tv h' 17) s := ⟨c2.trans ed.symm, c, by
      show ¬ h'.1 19 s = h'.1 74 9
      rw [show h'.1 19 s = nI j from ej, eb]; exact nI_nm1 (by omega)⟩
    rw [if_pos dd]
    exact e1
def OX (r : Nat) (h hc : ck_H) (st : Bs) (row : Nat → Nat) : Prop := kX h hc ∧ hc.1 77 6 = nI r ∧ (∀ j, j < r → hc.1 79 j = nI (row j)) ∧ hc.1 77 7 = st.1 ∧ (st.1 = -1 ∨ ∀ j, j < r → hc.1 80 j = nI (st.2 j))
theorem tx_kb2 {J N S r : Nat} {h h' hc m : ck_H} {st : Bs} {row : Nat → Nat} {t : Tt} {G : (Nat → Nat) → Int32} {Q : ck_H → Prop} (T : SimP J N S hc m) (hr : r ≤ 5) (x : XF hc h') (q1 : TQ J S (Tv h' 17) t) (hG : G row = g_gain (pl hc) t S - g_gain (pl hc) (Mv m 0) S) (hD : OX r h hc st row) (e11 : h'.2 74 11 = hc.2 74 11)
    (q : ∀ h2, OX r h h2 (bu G st row) row → Q h2) : wp_X0_keepIfBetter h' Q := by
  obtain ⟨k1, k2, k4, k5, k6⟩ := hD
  have xr : ∀ a, 77 ≤ a → h'.1 a = hc.1 a := fun a ha => x a (by omega) (by omega) (by omega)
  have kx : kX h h' := k1.tr (x.kX e11)
  unfold wp_X0_keepIfBetter
  refine tx_more T x q1 ?_
  rw [← hG, xr 77 (by omega), k5]
  unfold bu at q
  refine ⟨fun c => ?_, fun c => ?_⟩
  · rw [if_pos c] at q
    exact q h' ⟨kx, by rw [xr 77 (by omega)]; exact k2, fun j hj => by rw [xr 79 (by omega)]; exact k4 j hj, by rw [xr 77 (by omega)]; exact k5, by rw [xr 80 (by omega)]; exact k6⟩
  · rw [if_neg c] at q
    rintro _ rfl
    have e6 : (ck_sI h' 77 7 (G row)).1 77 6 = nI r := by rw [ck_sI_nj _ _ (by decide), xr 77 (by omega)]; exact k2
    rw [e6]
    have c0 : (0 : Int32).toNatClampNeg = 0 := by decide
    refine ⟨⟨by decide, by decide, nI_pos (by omega), by rw [c0, nI_clamp (n := r) (by omega)]; omega, by rw [c0, nI_clamp (n := r) (by omega)]; omega⟩, ?_⟩
    rintro _ rfl
    refine q _ ⟨kx.tr ⟨fun a ha => by rw [ck_sR_ne _ _ (by omega), ck_sI_ne _ _ _ (by omega)], rfl⟩, ?_, fun j hj => ?_, ?_, Or.inr (fun j hj => ?_)⟩
    · rw [ck_sR_ne _ _ (by decide)]; exact e6
    · rw [ck_sR_ne _ _ (by decide), ck_sI_ne _ _ _ (by decide), xr 79 (by omega)]; exact k4 j hj
    · rw [ck_sR_ne _ _ (by decide), ck_sI_at]
    · rw [ck_sR_at, c0, nI_clamp (n := r) (by omega), sb_cpy0 hj, ck_sI_ne _ _ _ (by decide), xr 79 (by omega)]; exact k4 j hj
def ofl (G : (Nat → Nat) → Int32) (d : Nat → Nat) (st : Bs) (L : List (List Nat)) : Bs := L.foldl (fun st l => bu G st (fun j => d (lf l j))) st
theorem lf_map {r : Nat} {g : Nat → Nat} {j : Nat} (hj : j < r) : lf ((List.range r).map g) j = g j := by
  unfold lf
  rw [List.getD_eq_getElem?_getD, List.getElem?_map, List.getElem?_range hj]
  rfl
theorem lenok_in {r : Nat} {L : List (List Nat)} (h : lenok r L = true) {l : List Nat} (hl : l ∈ L) : l.length = r ∧ ∀ j, j < r → lf l j < r := by
  unfold lenok at h
  have a := List.all_eq_true.mp h l hl
  rw [Bool.and_eq_true] at a
  have e : l.length = r := by simpa using a.1
  refine ⟨e, fun j hj => ?_⟩
  have b := List.all_eq_true.mp a.2
  have hj' : j < l.length := by omega
  have m : l[j] ∈ l := List.getElem_mem hj'
  have c := b _ m
  unfold lf
  rw [List.getD_eq_getElem?_getD, List.getElem?_eq_getElem hj']
  simpa using c
theorem tx_o1 {J N S r i f : Nat} {h m hc : ck_H} {row : Nat → Nat} {st : Bs} {x1 : Int32} {Q : ck_H → Prop} (T : SimP J N S h m) (hr : r ≤ 5) (hrow : ∀ j, j < r → row j < S) (hi120 : i < 120) (hx : ¬ x1 = 0) (hX : OX r h hc st row)
    (q : ∀ h4, OX r h h4 (bu (GO (pl h) (mdM m) S r (Mv m 0)) st row) row → wp_X0_nextOrder h4 (fun r34 h33 => ∀ v35, v35 = nI i + 1 → wp_X0_seekOrder_99 Q f r34 v35 h33)) : wp_X0_seekOrder_99 Q (f + 1) x1 (nI i) hc := by
  have hJ := T.pr.hJ; have hS := T.pr.hS
  have hX' := hX
  obtain ⟨k1, k2, k4, k5, k6⟩ := hX
  have Tc : SimP J N S hc m := T.keep k1 (kM.rf m)
  unfold wp_X0_seekOrder_99
  refine pk_le 120 i (fun z => by omega) (fun _ => br_n hx ?_)
  refine tx_think (fun h1 x1 e2 e3 e4 e5 => ?_)
  have r1 : ∀ a, 77 ≤ a → h1.1 a = hc.1 a := fun a ha => x1 a (by omega) (by omega) (by omega)
  have P1 := x1.pr Tc.pr
  have t1 : TQ J S (Tv h1 17) (Mv m 0) := (e5 J S hJ hS).tr Tc.now.sy
  have l1 : TL J (Tv h1 17) (Mv m 0) := fun j hj => by rw [T.nz j hj]; exact e4 j (by omega)
  have ok1 : TOk 9900 J S (Tv h1 17) := T.tok.q t1.sy
  have okT1 := TOk.okT P1 ok1
  have em1 : mdX h1 = mdM m := e3.trans Tc.md.symm
  have ep1 : pl h1 = pl h := by rw [x1.pl, k1.pl]
  refine tx_115 (row := row) hr hrow r 0 lpN h1 (by unfold lpN; omega) (by omega) (by rw [r1 77 (by omega)]; exact k2) (fun j hj => by rw [r1 79 (by omega)]; exact k4 j hj) okT1 (fun h2 a1 f1 => ?_)
  have ed2 : h2.1 17 5 = h2.1 7 5 := by
    have a : h2.1 17 5 = h1.1 17 5 := by
      have := (tO_5 (p := pl h1) (md := mdX h1) (row := row) r 0 (Tv h1 17)).1
      rw [← a1] at this
      exact this
    have b : h1.1 17 5 = h1.1 7 5 := by
      have c : h1.1 17 5 = hc.1 7 5 := (e5 J S hJ hS).1.2.1
      rw [c, x1 7 (by omega) (by omega) (by omega)]
    rw [a, b, f1.1 7 (by omega) (by omega) (by omega) (by omega) (by omega)]
  have eb2 : h2.1 74 9 = -1 := by
    rw [f1.2 9 (by decide) (by decide)]
    exact congrArg (fun z : Md => z.2.2.2.1) e3
  refine tx_148 S 0 lpN h2 (by unfold lpN; omega) (by omega) (okT1.fr (Or.inr rfl) f1) ed2 eb2 (fun h3 a2 f2 => ?_)
  rw [f1.pl (Or.inr rfl), f1.md, a1, ep1, em1] at a2
  have x3 : XF hc h3 := x1.tr (XF.of (f1.tr f2))
  have qO := tO_Q (p := pl h) (md := mdM m) (row := row) hJ r 0 (Tv h1 17) (Mv m 0) (fun j _ hj => hrow j (by omega)) ok1 t1 l1
  have okO : TOk 9900 J S (tO (pl h) (mdM m) row r 0 (Tv h1 17)) := tO_Ok hJ r 0 _ (fun j _ hj => hrow j (by omega)) ok1
  have q3 : TQ J S (Tv h3 17) (T_from (pl h) (mdM m) S 0 (tO (pl h) (mdM m) row r 0 (Mv m 0))) := by
    rw [a2]
    exact (T_from_Q hJ S 0 _ _ (by omega) okO qO.1 qO.2).1
  have e11 : h3.2 74 11 = hc.2 74 11 := by
    have e : h3.2 74 11 = (T_from (pl h) (mdM m) S 0 (tO (pl h) (mdM m) row r 0 (Mv m 0))).2.2.2.2.2.2 := q3.2.2.2
    rw [e, T_from_sd0 T.nch, tO_sd0 T.nch]
    exact Tc.now.2.2.2
  exact tx_kb2 (G := GO (pl h) (mdM m) S r (Mv m 0)) Tc hr x3 q3 (by unfold GO; rw [k1.pl]) hX' e11 (fun h4 hX4 => q h4 hX4)
theorem tx_ol {J N S r : Nat} {h m : ck_H} {d : Nat → Nat} {Q : ck_H → Prop} (T : SimP J N S h m) (hr : r ≤ 5) (hd : ∀ j, j < r → d j < S) (hi : inc r d) :
    ∀ (L : List (List Nat)) (a : List Nat) (i f : Nat) (st : Bs) (hc : ck_H) (x1 : Int32), L.length + 1 < f → i + L.length + 1 ≤ 120 → chk (a :: L) = true → lenok r (a :: L) = true → ¬ x1 = 0 → OX r h hc st (fun j => d (lf a j)) →
    (∀ h2, DF r h h2 (ofl (GO (pl h) (mdM m) S r (Mv m 0)) d st (a :: L)) → Q h2) → wp_X0_seekOrder_99 Q f x1 (nI i) hc := by
  have hJ := T.pr.hJ; have hS := T.pr.hS
  have hd10 : ∀ j, j < r → d j < 10 := fun j hj => by have := hd j hj; omega
  intro L
  induction L with
  | nil =>
    intro a i f st hc x1 hf hi120 hch hln hx hX q
    obtain ⟨f, rfl⟩ : ∃ g, f = g + 1 := ⟨f - 1, by omega⟩
    have la := lenok_in hln (List.mem_cons_self ..)
    have hi120 : i + 0 + 1 ≤ 120 := hi120
    refine tx_o1 (row := fun j => d (lf a j)) T hr (fun j hj => hd _ (la.2 j hj)) (by omega) hx hX (fun h4 hX4 => ?_)
    have nn : np r (lf a) = none := by
      have c : (npl a).isNone = true := hch
      unfold npl at c
      rw [la.1] at c
      simpa using c
    refine tx_no (g := lf a) hr hd10 hi hX4.2.1 (fun j hj => ⟨la.2 j hj, hX4.2.2.1 j hj⟩) (fun _ => ?_) (fun g' e => by rw [nn] at e; cases e)
    rintro _ rfl
    have hf' : 0 + 1 < f + 1 := hf
    obtain ⟨f, rfl⟩ : ∃ g, f = g + 1 := ⟨f - 1, by omega⟩
    unfold wp_X0_seekOrder_99
    have fin : Q h4 := q h4 ⟨hX4.1, hX4.2.1, hX4.2.2.2.1, hX4.2.2.2.2⟩
    exact ⟨fun _ => fin, fun _ => br_p rfl fin⟩
  | cons b L ih =>
    intro a i f st hc x1 hf hi120 hch hln hx hX q
    obtain ⟨f, rfl⟩ : ∃ g, f = g + 1 := ⟨f - 1, by omega⟩
    have la := lenok_in hln (List.mem_cons_self ..)
    have hi120 : i + (L.length + 1) + 1 ≤ 120 := hi120
    have hf : L.length + 1 + 1 < f + 1 := hf
    have c : ((npl a == some b) && chk (b :: L)) = true := hch
    rw [Bool.and_eq_true] at c
    have c1 : npl a = some b := by simpa using c.1
    have hln2 : lenok r (b :: L) = true := by
      unfold lenok at hln ⊢
      rw [List.all_cons, Bool.and_eq_true] at hln
      exact hln.2
    obtain ⟨g', e1, e2⟩ : ∃ g', np r (lf a) = some g' ∧ (List.range r).map g' = b := by
      unfold npl at c1
      rw [la.1] at c1
      simpa using c1
    refine tx_o1 (row := fun j => d (lf a j)) T hr (fun j hj => hd _ (la.2 j hj)) (by omega) hx hX (fun h4 hX4 => ?_)
    refine tx_no (g := lf a) hr hd10 hi hX4.2.1 (fun j hj => ⟨la.2 j hj, hX4.2.2.1 j hj⟩) (fun e => by rw [e1] at e; cases e) (fun g'' e h5 y1 y2 y3 => ?_)
    rw [e1] at e
    cases e
    rintro _ rfl
    rw [nI_1]
    refine ih b (i + 1) f _ h5 1 (by omega) (by omega) c.2 hln2 (by decide) ⟨hX4.1.tr ⟨fun a ha => y1 a (by omega), by rw [y2]⟩, by rw [y1 77 (by decide)]; exact hX4.2.1, fun j hj => ?_, by rw [y1 77 (by decide)]; exact hX4.2.2.2.1, by rw [y1 80 (by decide)]; exact hX4.2.2.2.2⟩ q
    show h5.1 79 j = nI (d (lf b j))
    rw [(y3 j hj).2, ← e2, lf_map hj]
theorem tx_gaO {J N S : Nat} {h m : ck_H} {Q K : ck_H → Prop} (P : PR h m J N S) : ∀ (k i f c : Nat) (d : Nat → Nat) (h' : ck_H), k < f → i + k = S → c ≤ 5 → kX h h' → h'.1 77 6 = nI c → (∀ j, j < c → h'.1 79 j = nI (d j)) →
    (∀ h2, kX h h2 → h2.1 77 6 = nI (ga (fun s => decide (h.1 11 s = -1 ∧ h.1 10 s = h.1 7 5)) 5 k i d c).2 → (∀ j, j < (ga (fun s => decide (h.1 11 s = -1 ∧ h.1 10 s = h.1 7 5)) 5 k i d c).2 → h2.1 79 j = nI ((ga (fun s => decide (h.1 11 s = -1 ∧ h.1 10 s = h.1 7 5)) 5 k i d c).1 j)) → K h2) → wp_X0_seekOrder_7 Q K f (nI i) h' := by
  have hS := P.hS
  intro k
  induction k with
  | zero =>
    intro i f c d h' hf hi hc kx e6 ed q
    obtain ⟨f, rfl⟩ : ∃ g, f = g + 1 := ⟨f - 1, by omega⟩
    unfold wp_X0_seekOrder_7
    exact pk_le S i (fun _ => q h' kx e6 ed) (fun z => by omega) (by rw [kx.1 42 (by omega)]; exact P.xS) rfl (by omega) (by omega)
  | succ k ih =>
    intro i f c d h' hf hi hc kx e6 ed q
    obtain ⟨f, rfl⟩ : ∃ g, f = g + 1 := ⟨f - 1, by omega⟩
    unfold wp_X0_seekOrder_7
    unfold ga at q
    refine pk_le S i (fun z => by omega) (fun _ => ?_) (by rw [kx.1 42 (by omega)]; exact P.xS) rfl (by omega) (by omega)
    refine pk_le 5 c (fun z => ?_) (fun z => ⟨pu_in (by omega) (by decide), ?_⟩) rfl e6 (by omega) (by omega)
    · rw [if_pos (by omega)] at q
      exact q h' kx e6 ed
    · rw [if_neg (by omega)] at q
      rw [nI_clamp (n := i) (by omega), kx.1 11 (by omega), kx.1 10 (by omega), kx.1 7 (by omega)]
      unfold wp_X0_seekOrder_84
      have no : ¬ (h.1 11 i = -1 ∧ h.1 10 i = h.1 7 5) → ∀ v6, v6 = nI i + 1 → wp_X0_seekOrder_7 Q K f v6 h' := by
        rintro cc _ rfl
        rw [if_neg (by simpa using cc)] at q
        rw [nI_1]
        exact ih (i + 1) f c d h' (by omega) (by omega) hc kx e6 ed q
      refine ⟨fun c2 => no (fun z => c2 z.1), fun c2 => ⟨pu_in (by omega) (by decide), fun c3 => no (fun z => c3 z.2), fun c3 => ⟨by rw [e6]; exact pu_in (by omega) (by decide), ?_⟩⟩⟩
      rw [if_pos (by simp [c2, c3])] at q
      rw [e6, nI_clamp (n := c) (by omega)]
      rintro _ rfl
      rw [ck_sI_ne _ _ _ (show (77 : Nat) ≠ 79 by decide), e6, nI_1]
      rintro _ rfl _ rfl
      rw [nI_1]
      refine ih (i + 1) f (c + 1) (uN d c i) _ (by omega) (by omega) (by omega) (kx.tr ((kX.set (by omega)).tr (kX.set (by omega)))) (ck_sI_at ..) (fun j hj => ?_) q
      rw [ck_sI_ne _ _ _ (show (79 : Nat) ≠ 77 by decide)]
      by_cases cj : j = c
      · subst cj; rw [ck_sI_at, uN_s]
      · rw [ck_sI_nj _ _ cj, uN_n cj]
        exact ed j (by omega)
