theorem dgs_lt {R : Nat → Nat} : ∀ (l k : Nat) (f : Nat → Nat) (c : Nat), c < wt R l k → ∀ j, k ≤ j → j < k + l → dgs R l k f c j < R j := by
  intro l
  induction l with
  | zero => exact fun _ _ _ _ _ h1 h2 => by omega
  | succ l ih =>
    intro k f c hc j h1 h2
    have hc : c < R k * wt R l (k + 1) := hc
    have hw : 0 < wt R l (k + 1) := by
      rcases Nat.eq_zero_or_pos (wt R l (k + 1)) with z | z
      · rw [z] at hc; omega
      · exact z
    show dgs R l (k + 1) (uN f k (c / wt R l (k + 1))) (c % wt R l (k + 1)) j < R j
    by_cases e : j = k
    · subst e
      rw [dgs_out l (j + 1) _ _ j (by omega), uN_s]
      exact (Nat.div_lt_iff_lt_mul hw).mpr hc
    · exact ih (k + 1) _ _ (Nat.mod_lt _ hw) j (by omega) (by omega)
theorem val_dgs {R : Nat → Nat} : ∀ (l k : Nat) (f : Nat → Nat) (c : Nat), c < wt R l k → val R l k (dgs R l k f c) = c := by
  intro l
  induction l with
  | zero =>
    intro k f c hc
    have hc : c < 1 := hc
    show 0 = c
    omega
  | succ l ih =>
    intro k f c hc
    have hc : c < R k * wt R l (k + 1) := hc
    have hw : 0 < wt R l (k + 1) := by
      rcases Nat.eq_zero_or_pos (wt R l (k + 1)) with z | z
      · rw [z] at hc; omega
      · exact z
    have e := ih (k + 1) (uN f k (c / wt R l (k + 1))) (c % wt R l (k + 1)) (Nat.mod_lt _ hw)
    show dgs R l (k + 1) (uN f k (c / wt R l (k + 1))) (c % wt R l (k + 1)) k * wt R l (k + 1) + val R l (k + 1) (dgs R l (k + 1) (uN f k (c / wt R l (k + 1))) (c % wt R l (k + 1))) = c
    rw [e, dgs_out l (k + 1) _ _ k (by omega), uN_s, Nat.mul_comm]
    exact Nat.div_add_mod c _
/-! the first suits that are as wanted -/
def ga (C : Nat → Bool) (L : Nat) : Nat → Nat → (Nat → Nat) → Nat → (Nat → Nat) × Nat
  | 0, _, d, c => (d, c)
  | k + 1, i, d, c => if L ≤ c then (d, c) else if C i = true then ga C L k (i + 1) (uN d c i) (c + 1) else ga C L k (i + 1) d c
def gaok (C : Nat → Bool) (i : Nat) (d : Nat → Nat) (c : Nat) : Prop := (∀ j, j < c → d j < i ∧ C (d j) = true) ∧ ∀ j k, j < k → k < c → d j < d k
theorem gaok.add {C : Nat → Bool} {i c : Nat} {d : Nat → Nat} (h : gaok C i d c) (hi : C i = true) : gaok C (i + 1) (uN d c i) (c + 1) := by
  refine ⟨fun j hj => ?_, fun j k h1 h2 => ?_⟩
  · by_cases e : j = c
    · subst e; rw [uN_s]; exact ⟨by omega, hi⟩
    · rw [uN_n e]
      have := h.1 j (by omega)
      exact ⟨by omega, this.2⟩
  · by_cases e : k = c
    · subst e; rw [uN_s, uN_n (by omega)]; exact (h.1 j (by omega)).1
    · rw [uN_n e, uN_n (by omega)]; exact h.2 j k h1 (by omega)
theorem ga_ok {C : Nat → Bool} {L : Nat} : ∀ (k i : Nat) (d : Nat → Nat) (c : Nat), gaok C i d c → c ≤ L → (gaok C (i + k) (ga C L k i d c).1 (ga C L k i d c).2 ∧ (ga C L k i d c).2 ≤ L) := by
  intro k
  induction k with
  | zero => exact fun _ _ _ h h2 => ⟨h, h2⟩
  | succ k ih =>
    intro i d c h hL
    have up : gaok C (i + (k + 1)) d c := ⟨fun j hj => ⟨by have := (h.1 j hj).1; omega, (h.1 j hj).2⟩, h.2⟩
    have up1 : gaok C (i + 1) d c := ⟨fun j hj => ⟨by have := (h.1 j hj).1; omega, (h.1 j hj).2⟩, h.2⟩
    unfold ga
    split
    · exact ⟨up, hL⟩
    · next c1 =>
      rw [show i + (k + 1) = i + 1 + k by omega]
      split
      · next c2 => exact ih (i + 1) _ _ (h.add c2) (by omega)
      · exact ih (i + 1) _ _ up1 hL
theorem kX.pl {h h' : ck_H} (x : kX h h') : pl h' = pl h := pl_eq (fun a h1 h2 => x.1 a (by omega))
theorem kX.set {h : ck_H} {a i : Nat} {v : Int32} (ha : 77 ≤ a) : kX h (ck_sI h a i v) := ⟨fun b hb => ck_sI_ne _ _ _ (by omega), rfl⟩
theorem tx_gaD {J N S : Nat} {h m : ck_H} {Q : ck_H → Prop} {K : Int32 → Int32 → ck_H → Prop} {x y : Int32} (P : PR h m J N S) : ∀ (k i f c : Nat) (d : Nat → Nat) (h' : ck_H), k < f → i + k = S → c ≤ 4 → kX h h' → h'.1 77 6 = nI c → (∀ j, j < c → h'.1 78 j = nI (d j) ∧ h'.1 79 j = 0) →
    (∀ h2, kX h h2 → h2.1 77 6 = nI (ga (fun s => decide (h.1 11 s = -1)) 4 k i d c).2 → (∀ j, j < (ga (fun s => decide (h.1 11 s = -1)) 4 k i d c).2 → h2.1 78 j = nI ((ga (fun s => decide (h.1 11 s = -1)) 4 k i d c).1 j) ∧ h2.1 79 j = 0) → K x y h2) → wp_X0_seekDeal_21 Q K f x y (nI i) h' := by
  have hS := P.hS
  intro k
  induction k with
  | zero =>
    intro i f c d h' hf hi hc kx e6 ed q
    obtain ⟨f, rfl⟩ : ∃ g, f = g + 1 := ⟨f - 1, by omega⟩
    unfold wp_X0_seekDeal_21
    exact pk_le S i (fun _ => q h' kx e6 ed) (fun z => by omega) (by rw [kx.1 42 (by omega)]; exact P.xS) rfl (by omega) (by omega)
  | succ k ih =>
    intro i f c d h' hf hi hc kx e6 ed q
    obtain ⟨f, rfl⟩ : ∃ g, f = g + 1 := ⟨f - 1, by omega⟩
    unfold wp_X0_seekDeal_21
    unfold ga at q
    refine pk_le S i (fun z => by omega) (fun _ => ?_) (by rw [kx.1 42 (by omega)]; exact P.xS) rfl (by omega) (by omega)
    refine pk_le 4 c (fun z => ?_) (fun z => ⟨pu_in (by omega) (by decide), ?_⟩) rfl e6 (by omega) (by omega)
    · rw [if_pos (by omega)] at q
      exact q h' kx e6 ed
    · rw [if_neg (by omega)] at q
      rw [nI_clamp (n := i) (by omega), kx.1 11 (by omega)]
      unfold wp_X0_seekDeal_89
      refine ⟨fun c2 => ?_, fun c2 => ⟨by rw [e6]; exact pu_in (by omega) (by decide), ?_⟩⟩
      · rw [if_neg (by simp [c2])] at q
        rintro _ rfl
        rw [nI_1]
        exact ih (i + 1) f c d h' (by omega) (by omega) hc kx e6 ed q
      · rw [if_pos (by simp [c2])] at q
        rw [e6, nI_clamp (n := c) (by omega)]
        rintro _ rfl
        rw [ck_sI_ne _ _ _ (show (77 : Nat) ≠ 78 by decide), e6, nI_clamp (n := c) (by omega)]
        refine ⟨pu_in (by omega) (by decide), ?_⟩
        rintro _ rfl
        rw [ck_sI_ne _ _ _ (show (77 : Nat) ≠ 79 by decide), ck_sI_ne _ _ _ (show (77 : Nat) ≠ 78 by decide), e6, nI_1]
        rintro _ rfl _ rfl
        rw [nI_1]
        refine ih (i + 1) f (c + 1) (uN d c i) _ (by omega) (by omega) (by omega) (kx.tr ((kX.set (by omega)).tr ((kX.set (by omega)).tr (kX.set (by omega))))) (ck_sI_at ..) (fun j hj => ?_) q
        rw [ck_sI_ne _ _ _ (show (78 : Nat) ≠ 77 by decide), ck_sI_ne _ _ _ (show (78 : Nat) ≠ 79 by decide), ck_sI_ne _ _ _ (show (79 : Nat) ≠ 77 by decide)]
        by_cases cj : j = c
        · subst cj; rw [ck_sI_at, ck_sI_at, uN_s]; exact ⟨rfl, rfl⟩
        · rw [ck_sI_nj _ _ cj, ck_sI_nj _ _ cj, uN_n cj, ck_sI_ne _ _ _ (show (79 : Nat) ≠ 78 by decide)]
          exact ed j (by omega)
theorem kM.set {m : ck_H} {a i : Nat} {v : Int32} (h : 29 ≤ a ∧ a ≤ 34) : kM m (ck_sI m a i v) := kM.sR (Or.inr (Or.inl h))
theorem mm_gaD {J N S : Nat} {h m : ck_H} {Q : ck_H → Prop} {K : Int32 → ck_H → Prop} {x : Int32} (T : SimP J N S h m) : ∀ (k i f c : Nat) (d : Nat → Nat) (m' : ck_H), k < f → i + k = S → c ≤ 4 → kM m m' → m'.1 0 52 = nI c → (∀ j, j < c → m'.1 29 j = nI (d j)) →
    (∀ m2, kM m m2 → m2.1 0 52 = nI (ga (fun s => decide (h.1 11 s = -1)) 4 k i d c).2 → (∀ j, j < (ga (fun s => decide (h.1 11 s = -1)) 4 k i d c).2 → m2.1 29 j = nI ((ga (fun s => decide (h.1 11 s = -1)) 4 k i d c).1 j)) → K x m2) → wp_X12_layDeal_7 Q K f x (nI i) m' := by
  have P := T.pr
  have hS := P.hS
  intro k
  induction k with
  | zero =>
    intro i f c d m' hf hi hc km e6 ed q
    obtain ⟨f, rfl⟩ : ∃ g, f = g + 1 := ⟨f - 1, by omega⟩
    unfold wp_X12_layDeal_7
    exact pk_le S i (fun _ => q m' km e6 ed) (fun z => by omega) (by rw [km.row (by omega) (by omega)]; exact P.mS) rfl (by omega) (by omega)
  | succ k ih =>
    intro i f c d m' hf hi hc km e6 ed q
    obtain ⟨f, rfl⟩ : ∃ g, f = g + 1 := ⟨f - 1, by omega⟩
    unfold wp_X12_layDeal_7 wp_X12_layDeal_57
    unfold ga at q
    refine pk_le S i (fun z => by omega) (fun _ => ?_) (by rw [km.row (by omega) (by omega)]; exact P.mS) rfl (by omega) (by omega)
    have ev : m'.1 28 (10 * 0 + i) = h.1 11 i := by
      rw [km 28 (10 * 0 + i) (by unfold inB; omega) (by omega) (by omega) (by omega), show 10 * 0 + i = i by omega]
      exact T.ve (by omega)
    refine pk_le 4 c (fun z => ?_) (fun z => mm_isOpen (b := 0) (by decide) (by omega) (fun c2 => br_m (by decide) ⟨by rw [e6]; exact pu_in (by omega) (by decide), ?_⟩) (fun c2 => br_q rfl ?_)) rfl e6 (by omega) (by omega)
    · rw [if_pos (by omega)] at q
      exact q m' km e6 ed
    · rw [ev] at c2
      rw [if_neg (by omega), if_pos (by simp [c2])] at q
      rw [e6, nI_clamp (n := c) (by omega)]
      rintro _ rfl
      rw [ck_sI_ne _ _ _ (show (0 : Nat) ≠ 29 by decide), e6, nI_1]
      rintro _ rfl _ rfl
      rw [nI_1]
      refine ih (i + 1) f (c + 1) (uN d c i) _ (by omega) (by omega) (by omega) (km.tr ((kM.set (by omega)).tr (kM.thr _ 52 _ (by omega)))) (ck_sI_at ..) (fun j hj => ?_) q
      rw [ck_sI_ne _ _ _ (show (29 : Nat) ≠ 0 by decide)]
      by_cases cj : j = c
      · subst cj; rw [ck_sI_at, uN_s]
      · rw [ck_sI_nj _ _ cj, uN_n cj]
        exact ed j (by omega)
    · rw [ev] at c2
      rw [if_neg (by omega), if_neg (by simp [c2])] at q
      rintro _ rfl
      rw [nI_1]
      exact ih (i + 1) f c d m' (by omega) (by omega) hc km e6 ed q
/-! suits given to judges -/
def ab (d e : Nat → Nat) : Nat → Nat → (Nat → Int32) → Nat → Int32
  | 0, _, f => f
  | k + 1, i, f => ab d e k (i + 1) (upd f (d i) (nI (e i)))
theorem ab_q {d e : Nat → Nat} {n : Nat} : ∀ (k i : Nat) (f g : Nat → Int32), (∀ s, s < n → f s = g s) → ∀ s, s < n → ab d e k i f s = ab d e k i g s := by
  intro k
  induction k with
  | zero => exact fun _ _ _ h => h
  | succ k ih => exact fun i f g h => ih (i + 1) _ _ (upd_q h rfl)
theorem ab_e {d e e' : Nat → Nat} : ∀ (k i : Nat) (f : Nat → Int32), (∀ j, i ≤ j → j < i + k → e j = e' j) → ab d e k i f = ab d e' k i f := by
  intro k
  induction k with
  | zero => exact fun _ _ _ => rfl
  | succ k ih =>
    intro i f h
    unfold ab
    rw [h i (by omega) (by omega)]
    exact ih (i + 1) _ (fun j a b => h j (by omega) (by omega))
theorem ab_ne {d e e' : Nat → Nat} {k0 s : Nat} (he : ∀ j, j ≠ k0 → e j = e' j) (hs : d k0 ≠ s) : ∀ (k i : Nat) (f g : Nat → Int32), f s = g s → ab d e k i f s = ab d e' k i g s := by
  intro k
  induction k with
  | zero => exact fun _ _ _ h => h
  | succ k ih =>
    intro i f g h
    unfold ab
    refine ih (i + 1) _ _ ?_
    by_cases c : s = d i
    · by_cases c2 : i = k0
      · subst c2; exact absurd c.symm hs
      · subst c; rw [pk_us, pk_us, he i c2]
    · rw [pk_un c, pk_un c, h]
theorem ab_P {Pr : Int32 → Prop} {d e : Nat → Nat} {n : Nat} (he : ∀ j, Pr (nI (e j))) : ∀ (k i : Nat) (f : Nat → Int32), (∀ s, s < n → Pr (f s)) → ∀ s, s < n → Pr (ab d e k i f s) := by
  intro k
  induction k with
  | zero => exact fun _ _ h => h
  | succ k ih => exact fun i f h => ih (i + 1) _ (upd_all h (he i))
def T_jd (r : Nat) (d e : Nat → Nat) (t : Tt) : Tt := (t.1, t.2.1, ab d e r 0 t.2.2.1, t.2.2.2.1, t.2.2.2.2.1, t.2.2.2.2.2.1, t.2.2.2.2.2.2)
def clp (J : Nat) (f : Nat → Nat) : Nat → Nat := fun j => if f j < J then f j else 0
theorem T_jd_Q {J S r : Nat} {d e : Nat → Nat} {t u : Tt} (h : TQ J S t u) : TQ J S (T_jd r d e t) (T_jd r d e u) := ⟨h.1, h.2.1, fun s hs => ⟨ab_q r 0 _ _ (fun i hi => (h.2.2.1 i hi).1) s hs, (h.2.2.1 s hs).2⟩, h.2.2.2⟩
theorem T_jd_Ok {B J S r : Nat} {d e : Nat → Nat} {t : Tt} (he : ∀ j, e j < J) (H : TOk B J S t) : TOk B J S (T_jd r d e t) := ⟨H.1, H.2.1, H.2.2.1, ab_P (Pr := fun x => ∃ j, j < J ∧ x = nI j) (fun j => ⟨e j, he j, rfl⟩) r 0 _ H.2.2.2.1, H.2.2.2.2⟩
def GD (p : Nat → Nat → Int32) (md : Md) (J S n r : Nat) (d : Nat → Nat) (t : Tt) (f : Nat → Nat) : Int32 := g_gain p (T_days p md S n (T_jd r d (clp J f) t)) S - g_gain p t S
theorem clp_lt {J : Nat} {f : Nat → Nat} (hJ : 0 < J) (j : Nat) : clp J f j < J := by
  unfold clp
  split <;> omega
theorem GD_u {B J S n r D : Nat} {p : Nat → Nat → Int32} {md : Md} {d : Nat → Nat} {t : Tt} (hJ : J ≤ 4) (hJ0 : 0 < J) (hp : ∀ j, j < J → rg (p 4 j) 9) (hl : ∃ a, 1 ≤ a ∧ a ≤ 99 ∧ md.2.2.2.2.2 = nI a) (H : TOk B J S t) (ed : t.1 5 = nI D) (hD : D + n < 2 ^ 30) (k v : Nat) (f : Nat → Nat) (hk : ¬ (k < r ∧ (t.2.2.2.1 (d k)).toNatClampNeg < D + n)) : GD p md J S n r d t (uN f k v) = GD p md J S n r d t f := by
  have he : ∀ j, j ≠ k → clp J (uN f k v) j = clp J f j := fun j hj => by unfold clp; rw [uN_n hj]
  unfold GD
  congr 1
  by_cases c : k < r
  · refine g_gain_I (E := D + n) (J := J) (S := S) ?_ p
    refine T_days_I hJ hp hl n B D _ _ (T_jd_Ok (clp_lt hJ0) H) ed (by omega) ⟨⟨rfl, rfl, rfl⟩, fun _ _ => rfl, fun _ _ => ⟨rfl, rfl⟩, fun s q hs eq hq => ⟨?_, rfl⟩, rfl⟩
    refine ab_ne he (fun z => hk ⟨c, ?_⟩) r 0 _ _ rfl
    have eq : t.2.2.2.1 s = nI q := eq
    rw [z, eq, nI_clamp (n := q) (by omega)]
    exact hq
  · have e : T_jd r d (clp J (uN f k v)) t = T_jd r d (clp J f) t := by
      unfold T_jd
      rw [ab_e r 0 _ (fun j _ hj => he j (by omega))]
    rw [e]
theorem GD_ge {h m : ck_H} {J N S n r : Nat} {md : Md} {d : Nat → Nat} {t : Tt} (P : PR h m J N S) (f : Nat → Nat) : ∃ g, g ≤ 990 ∧ GD (pl h) md J S n r d t f = nI g := by
  unfold GD
  exact g_more P (fun s hs => by
    by_cases c : t.2.2.2.2.1 s = -1
    · exact Or.inl c
    · exact Or.inr (T_days_vk n _ c))
theorem GD_c {J S n r : Nat} {p : Nat → Nat → Int32} {md : Md} {d : Nat → Nat} {t : Tt} {f g : Nat → Nat} (h : ∀ j, j < r → f j = g j) : GD p md J S n r d t f = GD p md J S n r d t g := by
  have e0 : ab d (clp J f) r 0 t.2.2.1 = ab d (clp J g) r 0 t.2.2.1 := ab_e r 0 _ (fun j _ hj => by unfold clp; rw [h j (by omega)])
  have e : T_jd r d (clp J f) t = T_jd r d (clp J g) t := by
    unfold T_jd
    rw [e0]
  unfold GD
  rw [e]
