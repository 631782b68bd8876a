theorem b01 (w c : Int32) : ((w >>> c) &&& 1) = 0 ∨ ((w >>> c) &&& 1) = 1 := by
  rw [pk_and (w >>> c) (m := 1) 1 (by decide)]
  have := Nat.mod_lt (w >>> c).toBitVec.toNat (show 0 < 2 ^ 1 by decide)
  rcases (show (w >>> c).toBitVec.toNat % 2 ^ 1 = 0 ∨ (w >>> c).toBitVec.toNat % 2 ^ 1 = 1 by omega) with z | z
  · rw [z]; exact Or.inl rfl
  · rw [z]; exact Or.inr rfl
def T_st (y : Nat) (t : Tt) : Tt := T_undo 1 0 (t.1 4 ||| nI y) t
def GS (p : Nat → Nat → Int32) (md : Md) (S n : Nat) (t : Tt) (y : Nat) : Int32 := g_gain p (T_days p md S n (T_st y t)) S - g_gain p t S
theorem T_st_Q {J S y : Nat} {t u : Tt} (h : TQ J S t u) : TQ J S (T_st y t) (T_st y u) := by
  unfold T_st
  rw [h.1.1]
  exact T_undo_Q h
theorem T_st_Ok {B J S y : Nat} {t : Tt} (H : TOk B J S t) : TOk B J S (T_st y t) := T_undo_Ok H (fun z => absurd z (by decide)) (fun z => absurd z (by decide)) (fun z => absurd z (by decide)) (by decide)
theorem T_st_sd (y : Nat) (t : Tt) : (T_st y t).2.2.2.2.2.2 = t.2.2.2.2.2.2 := rfl
def mayB (h : ck_H) (S s : Nat) : Bool := decide (s < S ∧ h.1 11 s = -1 ∧ ((h.1 7 4 >>> (nI s &&& 31)) &&& 1) = 0)
def relB (h : ck_H) (S E s : Nat) : Bool := mayB h S s && decide (¬ nI E ≤ h.1 10 s)
theorem tx_gaS {J N S D n : Nat} {h m : ck_H} {x : Int32} {Q : Int32 → ck_H → Prop} {K : Int32 → Int32 → Int32 → ck_H → Prop} (P : PR h m J N S) (eD : h.1 7 5 = nI D) : ∀ (k i f c : Nat) (d : Nat → Nat) (h' : ck_H), k < f → i + k = S → c ≤ i → kX h h' → (∀ j, j < c → h'.1 78 j = nI (d j)) →
    (∀ h2, kX h h2 → (∀ j, j < (ga (relB h S (D + n)) 10 k i d c).2 → h2.1 78 j = nI ((ga (relB h S (D + n)) 10 k i d c).1 j)) → K (nI n) x (nI (ga (relB h S (D + n)) 10 k i d c).2) h2) → wp_X0_fewestStones_5 Q K f (nI n) x (nI c) (nI i) h' := by
  have hS := P.hS
  intro k
  induction k with
  | zero =>
    intro i f c d h' hf hi hc kx ed q
    obtain ⟨f, rfl⟩ : ∃ g, f = g + 1 := ⟨f - 1, by omega⟩
    unfold wp_X0_fewestStones_5
    exact pk_le S i (fun _ => q h' kx ed) (fun z => by omega) (by rw [kx.1 42 (by omega)]; exact P.xS) rfl (by omega) (by omega)
  | succ k ih =>
    intro i f c d h' hf hi hc kx ed q
    obtain ⟨f, rfl⟩ : ∃ g, f = g + 1 := ⟨f - 1, by omega⟩
    unfold wp_X0_fewestStones_5 wp_X0_fewestStones_53
    unfold ga at q
    rw [if_neg (by omega)] at q
    have i10 : vp_in (nI i) 10 := pu_in (by omega) (by decide)
    have no : ¬ relB h S (D + n) i = true → wp_X0_fewestStones_94 Q K (wp_X0_fewestStones_5 Q K f) (nI n) x (nI c) (nI i) h' := by
      intro cc
      rw [if_neg cc] at q
      unfold wp_X0_fewestStones_94
      rintro _ rfl
      rw [nI_1]
      exact ih (i + 1) f c d h' (by omega) (by omega) (by omega) kx ed q
    have iff1 : relB h S (D + n) i = true ↔ (h.1 11 i = -1 ∧ ((h.1 7 4 >>> (nI i &&& 31)) &&& 1) = 0 ∧ ¬ nI (D + n) ≤ h.1 10 i) := by
      unfold relB mayB
      rw [Bool.and_eq_true, decide_eq_true_eq, decide_eq_true_eq]
      constructor
      · exact fun z => ⟨z.1.2.1, z.1.2.2, z.2⟩
      · exact fun z => ⟨⟨by omega, z.1, z.2.1⟩, z.2.2⟩
    have e53 : ¬ relB h S (D + n) i = true → wp_X0_fewestStones_54 Q K (wp_X0_fewestStones_5 Q K f) (nI n) x (nI c) (nI i) 0 h' := fun cc => by
      unfold wp_X0_fewestStones_54
      exact br_p rfl (no cc)
    refine pk_le S i (fun z => by omega) (fun _ => ⟨i10, ?_⟩) (by rw [kx.1 42 (by omega)]; exact P.xS) rfl (by omega) (by omega)
    unfold wp_X1_hasStone
    rw [nI_clamp (n := i) (by omega), kx.1 11 (by omega), kx.1 7 (by omega)]
    refine ⟨fun c1 => e53 (fun z => c1 (iff1.mp z).1), fun c1 => ⟨fun c2 => br_q rfl ?_, fun c2 => br_m (by decide) (e53 (fun z => ?_))⟩⟩
    · unfold wp_X0_fewestStones_54
      refine br_n (by decide) ⟨i10, ?_⟩
      rw [nI_clamp (n := i) (by omega), kx.1 10 (by omega), kx.1 7 (by omega), eD, nI_add]
      refine ⟨fun c3 => no (fun z => (iff1.mp z).2.2 c3), fun c3 => ⟨pu_in (by omega) (by decide), ?_⟩⟩
      have hb : ((h.1 7 4 >>> (nI i &&& 31)) &&& 1) = 0 := by
        rcases b01 (h.1 7 4) (nI i &&& 31) with z | z
        · exact z
        · exact absurd z c2
      rw [if_pos (iff1.mpr ⟨c1, hb, c3⟩)] at q
      rw [nI_clamp (n := c) (by omega), nI_1]
      rintro _ rfl _ rfl
      unfold wp_X0_fewestStones_94
      rintro _ rfl
      rw [nI_1]
      refine ih (i + 1) f (c + 1) (uN d c i) _ (by omega) (by omega) (by omega) (kx.tr (kX.set (by omega))) (fun j hj => ?_) q
      by_cases cj : j = c
      · subst cj; rw [ck_sI_at, uN_s]
      · rw [ck_sI_nj _ _ cj, uN_n cj]
        exact ed j (by omega)
    · have := (iff1.mp z).2.1
      rw [this] at c2
      exact absurd c2 (by decide)
theorem tx_bs5 {r ch : Nat} {d : Nat → Nat} {h : ck_H} {Q : Int32 → ck_H → Prop} (hr : r ≤ 10) (hch : ch < 2 ^ 31) (hi : inc r d) (hd : ∀ j, j < r → d j < 10 ∧ h.1 78 j = nI (d j)) : ∀ (k i f : Nat), k < f → i + k = r → Q (nI (Ex d ch r)) h → wp_X0_bitsOfSuits_5 Q f (nI ch) (nI r) (nI (Ex d ch i)) (nI i) h := by
  intro k
  induction k with
  | zero =>
    intro i f hf hir q
    obtain ⟨f, rfl⟩ : ∃ g, f = g + 1 := ⟨f - 1, by omega⟩
    unfold wp_X0_bitsOfSuits_5
    refine pk_le r i (fun _ => ?_) (fun z => by omega)
    rw [show i = r by omega]; exact q
  | succ k ih =>
    intro i f hf hir q
    obtain ⟨f, rfl⟩ : ∃ g, f = g + 1 := ⟨f - 1, by omega⟩
    unfold wp_X0_bitsOfSuits_5 wp_X0_bitsOfSuits_33
    obtain ⟨d1, d2⟩ := hd i (by omega)
    have b := bI1 (n := ch) (k := i) hch (by omega)
    have e : Ex d ch (i + 1) = Ex d ch i + bt ch i * 2 ^ d i := rfl
    have hb := bt_lt ch i
    have hlt : Ex d ch i < 2 ^ d i := Ex_lt i (fun a b h1 h2 => hi a b h1 (by omega)) (fun j hj => hi j i hj (by omega))
    refine pk_le r i (fun z => by omega) (fun _ => ⟨fun c => ?_, fun c => ⟨pu_in (by omega) (by decide), ?_⟩⟩)
    · have c0 : bt ch i = 0 := by
        have : ¬ bt ch i = 1 := fun z => c (b.mpr z)
        omega
      rintro _ rfl
      rw [nI_1]
      have := ih (i + 1) f (by omega) (by omega) q
      rw [e, c0, Nat.zero_mul, Nat.add_zero] at this
      exact this
    · have c1 := b.mp c
      rw [nI_clamp (n := i) (by omega), d2, shI (d i) (by omega), orI (d i) d1 _ hlt, nI_1]
      rintro _ rfl _ rfl
      have := ih (i + 1) f (by omega) (by omega) q
      rw [e, c1, Nat.one_mul] at this
      exact this
theorem tx_bs {r ch : Nat} {d : Nat → Nat} {h : ck_H} {Q : Int32 → ck_H → Prop} (hr : r ≤ 10) (hch : ch < 2 ^ 31) (hi : inc r d) (hd : ∀ j, j < r → d j < 10 ∧ h.1 78 j = nI (d j)) (q : Q (nI (Ex d ch r)) h) : wp_X0_bitsOfSuits (nI ch) (nI r) h Q := by
  unfold wp_X0_bitsOfSuits
  exact tx_bs5 hr hch hi hd r 0 lpN (by unfold lpN; omega) (by omega) q
theorem p2_le {r : Nat} (hr : r ≤ 10) : 2 ^ r ≤ 1024 := Nat.le_trans (Nat.pow_le_pow_right (by omega) hr) (by decide)
theorem tx_112 {J N S r n st : Nat} {h m : ck_H} {d : Nat → Nat} {x : Int32} {Q : Int32 → ck_H → Prop} {K173 : Int32 → Int32 → ck_H → Prop} {K187 : Int32 → Int32 → Int32 → Int32 → ck_H → Prop} (T : SimP J N S h m) (hn : n ≤ 60) (hr : r ≤ 10) (hi : inc r d) (hd : ∀ j, j < r → d j < 10) (hst : st < 2 ^ 31) :
    ∀ (k c f : Nat) (hc : ck_H), k < f → c + k = 2 ^ r → kX h hc → (∀ j, j < r → hc.1 78 j = nI (d j)) →
    (si (fun c => decide (¬ x < GS (pl h) (mdM m) S n (Mv m 0) (Ex d c r))) st k c = none → ∀ h2, kX h h2 → (∀ j, j < r → h2.1 78 j = nI (d j)) → K187 (nI n) x (nI r) (nI st) h2) →
    (∀ y, si (fun c => decide (¬ x < GS (pl h) (mdM m) S n (Mv m 0) (Ex d c r))) st k c = some y → ∀ h2, kX h h2 → (∀ j, j < r → h2.1 78 j = nI (d j)) → K173 (nI r) (nI y) h2) → wp_X0_fewestStones_112 Q K173 K187 f (nI n) x (nI r) (nI st) (nI c) hc := by
  have hJ := T.pr.hJ; have hS := T.pr.hS
  have h1024 := p2_le hr
  intro k
  induction k with
  | zero =>
    intro c f hc hf hck kx e78 q0 q1
    obtain ⟨f, rfl⟩ : ∃ g, f = g + 1 := ⟨f - 1, by omega⟩
    unfold wp_X0_fewestStones_112
    rw [shI r (by omega)]
    exact pk_le (2 ^ r) c (fun _ => q0 rfl hc kx e78) (fun z => by omega)
  | succ k ih =>
    intro c f hc hf hck kx e78 q0 q1
    obtain ⟨f, rfl⟩ : ∃ g, f = g + 1 := ⟨f - 1, by omega⟩
    unfold wp_X0_fewestStones_112
    rw [shI r (by omega)]
    unfold si at q0 q1
    have pc : pop c ≤ 10 := by
      have a := (sg_le (f := bt c) (g := fun _ => 1) 10 (fun s _ => by have := bt_lt c s; omega)).1
      have b : sg (fun _ => 1) 10 = 10 := by decide
      unfold pop
      omega
    have nx : ∀ h2, kX h h2 → (∀ j, j < r → h2.1 78 j = nI (d j)) → ¬ (pop c = st ∧ decide (¬ x < GS (pl h) (mdM m) S n (Mv m 0) (Ex d c r)) = true) → wp_X0_fewestStones_181 Q K173 K187 (wp_X0_fewestStones_112 Q K173 K187 f) (nI n) x (nI r) (nI st) (nI c) h2 := by
      intro h2 k2 e2 cc
      rw [if_neg cc] at q0 q1
      unfold wp_X0_fewestStones_181
      rintro _ rfl
      rw [nI_1]
      exact ih (c + 1) f h2 (by omega) (by omega) k2 e2 q0 q1
    refine pk_le (2 ^ r) c (fun z => by omega) (fun _ => tx_bc (by omega) ?_)
    have i1 : nI (pop c) = nI st ↔ pop c = st := nI_eq (by omega) hst
    refine ⟨fun c1 => nx hc kx e78 (fun z => c1 (i1.mpr z.1)), fun c1 => ?_⟩
    have Tc : SimP J N S hc m := T.keep kx (kM.rf m)
    refine tx_think (fun h1 x1 e2 e3 e4 e5 => ?_)
    have r1 : ∀ j, j < r → d j < 10 ∧ h1.1 78 j = nI (d j) := fun j hj => ⟨hd j hj, by rw [x1 78 (by omega) (by omega) (by omega)]; exact e78 j hj⟩
    refine tx_bs hr (by omega) hi r1 ?_
    rintro _ rfl
    have t1 : TQ J S (Tv h1 17) (Mv m 0) := (e5 J S hJ hS).tr Tc.now.sy
    have eT : Tv (ck_sI h1 17 4 (h1.1 17 4 ||| nI (Ex d c r))) 17 = T_st (Ex d c r) (Tv h1 17) := by
      unfold T_st
      simp [T_undo, Tv, ck_sI]
    have x2 : XF hc (ck_sI h1 17 4 (h1.1 17 4 ||| nI (Ex d c r))) := fun a a1 a2 a3 => by rw [ck_sI_ne _ _ _ (by omega), x1 a a1 a2 a3]
    have em2 : mdX (ck_sI h1 17 4 (h1.1 17 4 ||| nI (Ex d c r))) = mdM m := by
      rw [Tc.md, ← e3]
      unfold mdX
      rw [ck_sI_ne _ _ _ (by decide)]
    refine tx_run (m := m) (B := 9900) (t := T_st (Ex d c r) (Mv m 0)) Tc.pr x2 (T_st_Ok T.tok) (by rw [eT]; exact T_st_Q t1) em2 T.hl (by omega) (fun h3 x3 m3 q3 => ?_)
    rw [kx.pl] at q3
    have q3' : TQ J S (Tv h3 17) (T_days (pl hc) (mdM m) S n (T_st (Ex d c r) (Mv m 0))) := by rw [kx.pl]; exact q3
    refine tx_more Tc x3 q3 ?_
    have eG : g_gain (pl hc) (T_days (pl h) (mdM m) S n (T_st (Ex d c r) (Mv m 0))) S - g_gain (pl hc) (Mv m 0) S = GS (pl h) (mdM m) S n (Mv m 0) (Ex d c r) := by rw [kx.pl]; rfl
    rw [eG]
    have k3 : kX h h3 := kx.tr (x3.kX (by
      have e : h3.2 74 11 = (T_days (pl h) (mdM m) S n (T_st (Ex d c r) (Mv m 0))).2.2.2.2.2.2 := q3.2.2.2
      rw [e, T_days_sd0 T.nch, T_st_sd]
      exact Tc.now.2.2.2))
    have e3' : ∀ j, j < r → h3.1 78 j = nI (d j) := fun j hj => by rw [x3 78 (by omega) (by omega) (by omega)]; exact e78 j hj
    refine ⟨fun c2 => nx h3 k3 e3' (fun z => (of_decide_eq_true z.2) c2), fun c2 => ?_⟩
    exact q1 c (by rw [if_pos ⟨i1.mp c1, decide_eq_true c2⟩]) h3 k3 e3'
theorem tx_103 {J N S r n : Nat} {h m : ck_H} {d : Nat → Nat} {x : Int32} {Q : Int32 → ck_H → Prop} {K173 : Int32 → Int32 → ck_H → Prop} (T : SimP J N S h m) (hn : n ≤ 60) (hr : r ≤ 10) (hi : inc r d) (hd : ∀ j, j < r → d j < 10) :
    ∀ (k st f : Nat) (hc : ck_H), k < f → st + k = r + 1 → kX h hc → (∀ j, j < r → hc.1 78 j = nI (d j)) →
    (so (fun c => decide (¬ x < GS (pl h) (mdM m) S n (Mv m 0) (Ex d c r))) (2 ^ r) k st = none → ∀ h2, kX h h2 → Q (-2) h2) →
    (∀ y, so (fun c => decide (¬ x < GS (pl h) (mdM m) S n (Mv m 0) (Ex d c r))) (2 ^ r) k st = some y → ∀ h2, kX h h2 → (∀ j, j < r → h2.1 78 j = nI (d j)) → K173 (nI r) (nI y) h2) → wp_X0_fewestStones_103 Q K173 f (nI n) x (nI r) (nI st) hc := by
  have h1024 := p2_le hr
  intro k
  induction k with
  | zero =>
    intro st f hc hf hk kx e78 q0 q1
    obtain ⟨f, rfl⟩ : ∃ g, f = g + 1 := ⟨f - 1, by omega⟩
    unfold wp_X0_fewestStones_103
    exact pk_lt r st (fun _ => q0 rfl hc kx) (fun z => by omega)
  | succ k ih =>
    intro st f hc hf hk kx e78 q0 q1
    obtain ⟨f, rfl⟩ : ∃ g, f = g + 1 := ⟨f - 1, by omega⟩
    unfold wp_X0_fewestStones_103
    unfold so at q0 q1
    refine pk_lt r st (fun z => by omega) (fun _ => ?_)
    refine tx_112 T hn hr hi hd (by omega) (2 ^ r) 0 lpN hc (by unfold lpN; omega) (by omega) kx e78 (fun e h2 k2 e2 => ?_) (fun y e h2 k2 e2 => ?_)
    · rw [e] at q0 q1
      rintro _ rfl
      rw [nI_1]
      exact ih (st + 1) f h2 (by omega) (by omega) k2 e2 q0 q1
    · rw [e] at q1
      exact q1 y rfl h2 k2 e2
/-! the model's way -/
def msk (h : ck_H) (S : Nat) : Nat → Nat := sg (fun j => (if mayB h S j = true then 1 else 0) * 2 ^ j)
theorem msk_lt (h : ck_H) (S k : Nat) : msk h S k < 2 ^ k := (sg_2 (f := fun j => if mayB h S j = true then 1 else 0) (fun j => by split <;> omega) k).1
theorem msk_bt {h : ck_H} {S k i : Nat} (hi : i < k) : bt (msk h S k) i = if mayB h S i = true then 1 else 0 := (sg_2 (f := fun j => if mayB h S j = true then 1 else 0) (fun j => by split <;> omega) k).2 i hi
theorem mm_34 {J N S : Nat} {h m : ck_H} {x y : Int32} {Q : Int32 → ck_H → Prop} {K : Int32 → Int32 → Int32 → ck_H → Prop} (T : SimP J N S h m) : ∀ (k i f : Nat), k < f → i + k = S → K x y (nI (msk h S S)) m → wp_X12_spoil_34 Q K f x y (nI (msk h S i)) (nI i) m := by
  have hS := T.pr.hS
  intro k
  induction k with
  | zero =>
    intro i f hf hi q
    obtain ⟨f, rfl⟩ : ∃ g, f = g + 1 := ⟨f - 1, by omega⟩
    unfold wp_X12_spoil_34
    refine pk_le S i (fun _ => ?_) (fun z => by omega) T.pr.mS rfl (by omega) (by omega)
    rw [show i = S by omega]; exact q
  | succ k ih =>
    intro i f hf hi q
    obtain ⟨f, rfl⟩ : ∃ g, f = g + 1 := ⟨f - 1, by omega⟩
    unfold wp_X12_spoil_34 wp_X12_spoil_77 wp_X12_spoil_78
    have e : msk h S (i + 1) = msk h S i + (if mayB h S i = true then 1 else 0) * 2 ^ i := rfl
    have rcc := ih (i + 1) f (by omega) (by omega) q
    have iff1 : mayB h S i = true ↔ (h.1 11 i = -1 ∧ ((h.1 7 4 >>> (nI i &&& 31)) &&& 1) = 0) := by
      unfold mayB
      rw [decide_eq_true_eq]
      constructor
      · exact fun z => z.2
      · exact fun z => ⟨by omega, z⟩
    have no : ¬ mayB h S i = true → ∀ v10, v10 = nI (msk h S i) ||| 0 → ∀ v11, v11 = nI i + 1 → wp_X12_spoil_34 Q K f x y v10 v11 m := by
      rintro cc _ rfl _ rfl
      rw [nI_1, Int32.or_zero]
      rw [e, if_neg cc, Nat.zero_mul, Nat.add_zero] at rcc
      exact rcc
    refine pk_le S i (fun z => by omega) (fun _ => mm_isOpen (b := 0) (by decide) (by omega) (fun c => br_n (by decide) ?_) (fun c => br_p rfl (no (fun z => c ?_)))) T.pr.mS rfl (by omega) (by omega)
    · rw [show 10 * 0 + i = i by omega, T.ve (by omega)] at c
      rw [T.sto]
      refine ⟨fun c2 => no (fun z => c2 (iff1.mp z).2), fun c2 => ?_⟩
      rintro _ rfl _ rfl
      rw [e, if_pos (iff1.mpr ⟨c, c2⟩), Nat.one_mul] at rcc
      rw [nI_1, shI i (by omega), orI i (by omega) _ (msk_lt h S i)]
      exact rcc
    · rw [show 10 * 0 + i = i by omega, T.ve (by omega)]
      exact (iff1.mp z).1
theorem mm_bo4 {x : Nat} {m : ck_H} {Q : Int32 → ck_H → Prop} (hx : x < 2 ^ 31) : ∀ (k i f : Nat), k < f → i + k = 10 → Q (nI (pop x)) m → wp_X12_bitsOf_4 Q f (nI x) (nI (sg (bt x) i)) (nI i) m := by
  intro k
  induction k with
  | zero =>
    intro i f hf hi q
    obtain ⟨f, rfl⟩ : ∃ g, f = g + 1 := ⟨f - 1, by omega⟩
    unfold wp_X12_bitsOf_4
    refine pk_le 10 i (fun _ => ?_) (fun z => by omega)
    rw [show i = 10 by omega]; exact q
  | succ k ih =>
    intro i f hf hi q
    obtain ⟨f, rfl⟩ : ∃ g, f = g + 1 := ⟨f - 1, by omega⟩
    unfold wp_X12_bitsOf_4
    rw [bI hx (by omega), nI_add, nI_1]
    refine pk_le 10 i (fun z => by omega) (fun _ => ?_)
    rintro _ rfl _ rfl
    exact ih (i + 1) f (by omega) (by omega) q
theorem mm_bo {x : Nat} {m : ck_H} {Q : Int32 → ck_H → Prop} (hx : x < 2 ^ 31) (q : Q (nI (pop x)) m) : wp_X12_bitsOf (nI x) m Q := by
  unfold wp_X12_bitsOf
  exact mm_bo4 hx 10 0 lpN (by decide) (by omega) q
def oI (b : Option Nat) : Int32 := match b with
  | none => -2
  | some y => nI y
theorem pop_le (x : Nat) : pop x ≤ 10 := by
  have a := (sg_le (f := bt x) (g := fun _ => 1) 10 (fun s _ => by have := bt_lt x s; omega)).1
  have b : sg (fun _ => 1) 10 = 10 := by decide
  unfold pop
  omega
theorem mm_93 {J N S n mx : Nat} {h m : ck_H} {x : Int32} {Q : Int32 → ck_H → Prop} (T : SimP J N S h m) (hn : n ≤ 60) (hmx : mx < 1024) :
    ∀ (k c f : Nat) (b : Option Nat) (m' : ck_H), k < f → c + k = mx + 1 → (∀ y, b = some y → y < 1024) → kM m m' →
    (∀ m2, kM m m2 → Q (oI (bm (fun c => decide (nI c &&& (nI mx ^^^ (-1 : Int32)) = 0)) (fun y => decide (¬ x < GS (pl h) (mdM m) S n (Mv m 0) y)) k c b)) m2) → wp_X12_spoil_93 Q f (nI n) x (nI mx) (oI b) (nI c) m' := by
  have hJ := T.pr.hJ; have hS := T.pr.hS
  intro k
  induction k with
  | zero =>
    intro c f b m' hf hc hb km q
    obtain ⟨f, rfl⟩ : ∃ g, f = g + 1 := ⟨f - 1, by omega⟩
    unfold wp_X12_spoil_93
    exact pk_lt mx c (fun _ => q m' km) (fun z => by omega)
  | succ k ih =>
    intro c f b m' hf hc hb km q
    obtain ⟨f, rfl⟩ : ∃ g, f = g + 1 := ⟨f - 1, by omega⟩
    unfold wp_X12_spoil_93
    unfold bm at q
    have nx : ∀ m2, kM m m2 → ¬ (decide (nI c &&& (nI mx ^^^ (-1 : Int32)) = 0) = true ∧ lsb c b = true ∧ decide (¬ x < GS (pl h) (mdM m) S n (Mv m 0) c) = true) → wp_X12_spoil_170 Q (wp_X12_spoil_93 Q f) (nI n) x (nI mx) (oI b) (nI c) m2 := by
      intro m2 k2 cc
      rw [if_neg cc] at q
      unfold wp_X12_spoil_170
      rintro _ rfl
      rw [nI_1]
      exact ih (c + 1) f b m2 (by omega) (by omega) hb k2 q
    refine pk_lt mx c (fun z => by omega) (fun _ => ⟨fun c1 => nx m' km (fun z => c1 (of_decide_eq_true z.1)), fun c1 => ?_⟩)
    have tr : ∀ m2, kM m m2 → lsb c b = true → wp_X12_spoil_129 Q (wp_X12_spoil_93 Q f) (nI n) x (nI mx) (oI b) (nI c) m2 := by
      intro m2 k2 cl
      unfold wp_X12_spoil_129
      refine mm_copies (t := 1) (b := 0) (by decide) (by decide) (by decide) (fun m3 f3 q3 => ?_)
      have q3 := q3 J S hJ hS
      rintro _ rfl
      have k3 : kM m m3 := k2.tr (fun a i h1 _ _ _ => f3 a i h1)
      have mv0 := k2.mv hJ hS (b := 0) (by decide)
      have t3 : TQ J S (Mv m3 1) (Mv m 0) := q3.1.tr mv0.1
      have z3 : LZ J (Mv m3 1) := (T.nz.l mv0.2).l q3.2
      have fb4 : FB 1 m3 (ck_sI m3 22 1 (m3.1 22 1 ||| nI c)) := FB.set _ _ (by unfold inB; omega)
      have P3 : PR h m3 J N S := T.pr.kept (fun _ _ _ => rfl) (fun a h1 h2 => k3.row (by omega) (by omega))
      have em3 : mdM m3 = mdM m := by rw [(T.keep (kX.rf h) k3).md, T.md]
      have eT : Mv (ck_sI m3 22 1 (m3.1 22 1 ||| nI c)) 1 = T_st c (Mv m3 1) := by rw [Mv_22]; rfl
      refine mm_run (t := T_st c (Mv m 0)) (B := 9900) (fb4.pr P3) (T_st_Ok T.tok) ?_ (by rw [eT]; exact T_st_Q t3) (by rw [eT]; exact z3) (by rw [fb4.md, em3]) T.hl (by omega) (by omega) (fun m5 q5 z5 f5 => ?_)
      · obtain ⟨a, a1, a2⟩ := T.sd0
        exact ⟨a, a1, (T_st_sd c _).trans a2⟩
      have k5 : kM m m5 := k3.tr ((fb4.tr f5).kM (by
        have e : (m5.1 0 50).toInt64 = (T_days (pl h) (mdM m) S n (T_st c (Mv m 0))).2.2.2.2.2.2 := q5.2.2.2
        rw [e, T_days_sd0 T.nch, T_st_sd]
        exact t3.2.2.2.symm))
      refine mm_more (Q := fun rr m'' => ((x < rr → wp_X12_spoil_170 Q (wp_X12_spoil_93 Q f) (nI n) x (nI mx) (oI b) (nI c) m'') ∧ (¬ x < rr → wp_X12_spoil_170 Q (wp_X12_spoil_93 Q f) (nI n) x (nI mx) (nI c) (nI c) m''))) T k5 q5 ?_
      have eG : g_gain (pl h) (T_days (pl h) (mdM m) S n (T_st c (Mv m 0))) S - g_gain (pl h) (Mv m 0) S = GS (pl h) (mdM m) S n (Mv m 0) c := rfl
      rw [eG]
      refine ⟨fun c2 => nx m5 k5 (fun z => (of_decide_eq_true z.2.2) c2), fun c2 => ?_⟩
      rw [if_pos ⟨decide_eq_true c1, cl, decide_eq_true c2⟩] at q
      unfold wp_X12_spoil_170
      rintro _ rfl
      rw [nI_1]
      exact ih (c + 1) f (some c) m5 (by omega) (by omega) (fun y e => by cases e; omega) k5 q
    cases b with
    | none => exact br_p (by decide) (tr m' km rfl)
    | some y =>
      have hy := hb y rfl
      have p1 := pop_le c
      have p2 := pop_le y
      refine br_n (nI_pos (by omega)) (mm_bo (by omega) (mm_bo (by omega) ?_))
      have i1 : nI (pop c) < nI (pop y) ↔ pop c < pop y := nI_ltI (by omega) (by omega)
      exact ⟨fun c2 => tr m' km (decide_eq_true (i1.mp c2)), fun c2 => nx m' km (fun z => c2 (i1.mpr (of_decide_eq_true z.2.1)))⟩
