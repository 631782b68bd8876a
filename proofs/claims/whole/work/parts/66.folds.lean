/-! branches -/
theorem br_p {c A B : Prop} (z : c) (a : A) : (c → A) ∧ (¬ c → B) := ⟨fun _ => a, fun y => absurd z y⟩
theorem br_n {c A B : Prop} (z : ¬ c) (b : B) : (c → A) ∧ (¬ c → B) := ⟨fun y => absurd y z, fun _ => b⟩
theorem br_q {c A B : Prop} (z : c) (b : B) : (¬ c → A) ∧ (c → B) := ⟨fun y => absurd z y, fun _ => b⟩
theorem br_m {c A B : Prop} (z : ¬ c) (a : A) : (¬ c → A) ∧ (c → B) := ⟨fun _ => a, fun y => absurd y z⟩
theorem is_p {n j : Nat} {y : Int32} {A B : Prop} (e : y = nI n) (hj : j < n) (hn : n < 2 ^ 31) (q : B) : (nI j < 0 → A) ∧ (¬ nI j < 0 → ((y ≤ nI j → A) ∧ (¬ y ≤ nI j → B))) :=
  br_n (nI_pos (by omega)) (br_n (by rw [e]; exact nI_ge hj hn) q)
theorem is_n {n : Nat} {x y : Int32} {A B : Prop} (e : y = nI n) (hn : n < 2 ^ 31) (z : ¬ ∃ j, j < n ∧ x = nI j) (q : A) : (x < 0 → A) ∧ (¬ x < 0 → ((y ≤ x → A) ∧ (¬ y ≤ x → B))) := by
  subst e
  rcases pk_ix x hn with c | c | c
  · exact br_p c q
  · exact ⟨fun _ => q, fun _ => br_p c q⟩
  · exact absurd c z
theorem xJ_p {J N S j : Nat} {h m : ck_H} {Q : Int32 → ck_H → Prop} (P : PR h m J N S) (hj : j < J) (q : Q 1 h) : wp_X11_isJudge (nI j) h Q := is_p P.xJ hj (by have := P.hJ; omega) q
theorem xJ_n {J N S : Nat} {h m : ck_H} {x : Int32} {Q : Int32 → ck_H → Prop} (P : PR h m J N S) (z : ¬ ∃ j, j < J ∧ x = nI j) (q : Q 0 h) : wp_X11_isJudge x h Q := is_n P.xJ (by have := P.hJ; omega) z q
theorem xN_p {J N S j : Nat} {h m : ck_H} {Q : Int32 → ck_H → Prop} (P : PR h m J N S) (hj : j < N) (q : Q 1 h) : wp_X11_isNut (nI j) h Q := is_p P.xN hj (by have := P.hN; omega) q
theorem xN_n {J N S : Nat} {h m : ck_H} {x : Int32} {Q : Int32 → ck_H → Prop} (P : PR h m J N S) (z : ¬ ∃ j, j < N ∧ x = nI j) (q : Q 0 h) : wp_X11_isNut x h Q := is_n P.xN (by have := P.hN; omega) z q
theorem xS_p {J N S j : Nat} {h m : ck_H} {Q : Int32 → ck_H → Prop} (P : PR h m J N S) (hj : j < S) (q : Q 1 h) : wp_X11_isSuit (nI j) h Q := is_p P.xS hj (by have := P.hS; omega) q
theorem xS_n {J N S : Nat} {h m : ck_H} {x : Int32} {Q : Int32 → ck_H → Prop} (P : PR h m J N S) (z : ¬ ∃ j, j < S ∧ x = nI j) (q : Q 0 h) : wp_X11_isSuit x h Q := is_n P.xS (by have := P.hS; omega) z q
theorem mJ_p {J N S j : Nat} {h m : ck_H} {Q : Int32 → ck_H → Prop} (P : PR h m J N S) (hj : j < J) (q : Q 1 m) : wp_X12_isJudge (nI j) m Q := is_p P.mJ hj (by have := P.hJ; omega) q
theorem mJ_n {J N S : Nat} {h m : ck_H} {x : Int32} {Q : Int32 → ck_H → Prop} (P : PR h m J N S) (z : ¬ ∃ j, j < J ∧ x = nI j) (q : Q 0 m) : wp_X12_isJudge x m Q := is_n P.mJ (by have := P.hJ; omega) z q
theorem mN_p {J N S j : Nat} {h m : ck_H} {Q : Int32 → ck_H → Prop} (P : PR h m J N S) (hj : j < N) (q : Q 1 m) : wp_X12_isNut (nI j) m Q := is_p P.mN hj (by have := P.hN; omega) q
theorem mN_n {J N S : Nat} {h m : ck_H} {x : Int32} {Q : Int32 → ck_H → Prop} (P : PR h m J N S) (z : ¬ ∃ j, j < N ∧ x = nI j) (q : Q 0 m) : wp_X12_isNut x m Q := is_n P.mN (by have := P.hN; omega) z q
theorem mS_p {J N S j : Nat} {h m : ck_H} {Q : Int32 → ck_H → Prop} (P : PR h m J N S) (hj : j < S) (q : Q 1 m) : wp_X12_isSuit (nI j) m Q := is_p P.mS hj (by have := P.hS; omega) q
theorem mS_n {J N S : Nat} {h m : ck_H} {x : Int32} {Q : Int32 → ck_H → Prop} (P : PR h m J N S) (z : ¬ ∃ j, j < S ∧ x = nI j) (q : Q 0 m) : wp_X12_isSuit x m Q := is_n P.mS (by have := P.hS; omega) z q
theorem xP_p {J N S s : Nat} {h m : ck_H} {Q : Int32 → ck_H → Prop} (P : PR h m J N S) (hs : s < S) (e : h.1 11 s = -1) (q : Q 1 h) : wp_X11_isPending (nI s) h Q := by
  have := P.hS
  unfold wp_X11_isPending
  refine xS_p P hs (br_n (by decide) ⟨pu_in (by omega) (by decide), ?_⟩)
  rw [nI_clamp (n := s) (by omega)]
  exact br_q e q
theorem xP_n {J N S : Nat} {h m : ck_H} {x : Int32} {Q : Int32 → ck_H → Prop} (P : PR h m J N S) (z : ¬ ∃ s, s < S ∧ x = nI s ∧ h.1 11 s = -1) (q : Q 0 h) : wp_X11_isPending x h Q := by
  have := P.hS
  unfold wp_X11_isPending
  by_cases c : ∃ j, j < S ∧ x = nI j
  · obtain ⟨s, hs, rfl⟩ := c
    refine xS_p P hs (br_n (by decide) ⟨pu_in (by omega) (by decide), ?_⟩)
    rw [nI_clamp (n := s) (by omega)]
    exact br_m (fun y => z ⟨s, hs, rfl, y⟩) q
  · exact xS_n P c (br_p rfl q)
theorem mP_p {J N S s : Nat} {h m : ck_H} {Q : Int32 → ck_H → Prop} (P : PR h m J N S) (hs : s < S) (e : m.1 28 s = -1) (q : Q 1 m) : wp_X12_isOpenSuit (nI s) m Q := by
  have := P.hS
  unfold wp_X12_isOpenSuit
  refine mS_p P hs (br_n (by decide) ?_)
  refine mm_isOpen (b := 0) (by decide) (by omega) (fun _ => ?_) (fun c => absurd (by rw [show 10 * 0 + s = s by omega]; exact e) c)
  exact br_n (by decide) q
theorem mP_n {J N S : Nat} {h m : ck_H} {x : Int32} {Q : Int32 → ck_H → Prop} (P : PR h m J N S) (z : ¬ ∃ s, s < S ∧ x = nI s ∧ m.1 28 s = -1) (q : Q 0 m) : wp_X12_isOpenSuit x m Q := by
  have := P.hS
  unfold wp_X12_isOpenSuit
  by_cases c : ∃ j, j < S ∧ x = nI j
  · obtain ⟨s, hs, rfl⟩ := c
    refine mS_p P hs (br_n (by decide) ?_)
    refine mm_isOpen (b := 0) (by decide) (by omega) (fun y => absurd ⟨s, hs, rfl, by rw [show 10 * 0 + s = s by omega] at y; exact y⟩ z) (fun c => br_p rfl q)
  · exact mS_n P c (br_p rfl q)
/-! what is counted of a court -/
def g_many (t : Tt) (v : Int32) (S : Nat) : Int32 := fo (fun x s => if t.2.2.2.2.1 s = v then x + 1 else x) S 0 0
def T_gain (p : Nat → Nat → Int32) (s : Nat) (v : Int32) : Int32 := if v = 1 then p 8 (p 13 s).toNatClampNeg else if v = 2 then p 8 (p 13 s).toNatClampNeg / 2 else 0
def g_gain (p : Nat → Nat → Int32) (t : Tt) (S : Nat) : Int32 := fo (fun x s => x + T_gain p s (t.2.2.2.2.1 s)) S 0 0
def g_teeth (t : Tt) (J : Nat) : Int32 := fo (fun x j => x + t.2.1 j) J 0 0
def g_mouse (p : Nat → Nat → Int32) (t : Tt) (S : Nat) : Int32 := fo (fun x s => if t.2.2.2.2.1 s = 3 then x + p 8 (p 13 s).toNatClampNeg else x) S 0 0
def g_by (t : Tt) (j : Int32) (v : Int32 → Bool) (S : Nat) : Int32 := fo (fun x s => if t.2.2.1 s = j ∧ v (t.2.2.2.2.1 s) = true then x + 1 else x) S 0 0
theorem g_many_Q {J S : Nat} {t u : Tt} (h : TQ J S t u) (v : Int32) : g_many t v S = g_many u v S := fo_eq S 0 0 (fun i y _ hi => by rw [(h.2.2.1 i (by omega)).2.2])
theorem g_gain_Q {J S : Nat} {t u : Tt} (h : TQ J S t u) (p : Nat → Nat → Int32) : g_gain p t S = g_gain p u S := fo_eq S 0 0 (fun i y _ hi => by rw [(h.2.2.1 i (by omega)).2.2])
theorem g_teeth_Q {J S : Nat} {t u : Tt} (h : TQ J S t u) : g_teeth t J = g_teeth u J := fo_eq J 0 0 (fun i y _ hi => by rw [h.2.1 i (by omega)])
theorem g_mouse_Q {J S : Nat} {t u : Tt} (h : TQ J S t u) (p : Nat → Nat → Int32) : g_mouse p t S = g_mouse p u S := fo_eq S 0 0 (fun i y _ hi => by rw [(h.2.2.1 i (by omega)).2.2])
theorem g_by_Q {J S : Nat} {t u : Tt} (h : TQ J S t u) (j : Int32) (v : Int32 → Bool) : g_by t j v S = g_by u j v S := fo_eq S 0 0 (fun i y _ hi => by rw [(h.2.2.1 i (by omega)).2.2, (h.2.2.1 i (by omega)).1])
theorem tx_many {J N S o : Nat} {h m : ck_H} {v : Int32} {Q : Int32 → ck_H → Prop} (P : PR h m J N S) (q : Q (g_many (Tv h o) v S) h) : wp_X11_verdictsOf o v h Q := by
  have h10 := P.hS
  unfold wp_X11_verdictsOf
  refine lp_fo (fun f x s => wp_X11_verdictsOf_5 Q o f v x (nI s) h) (fun x s => if (Tv h o).2.2.2.2.1 s = v then x + 1 else x) S (fun x => Q x h) ?_ ?_ S 0 lpN 0 (by unfold lpN; omega) (by omega) q
  · intro f x hr
    unfold wp_X11_verdictsOf_5
    exact pk_le S S (fun _ => hr) (fun z => by omega) P.xS rfl (by omega) (by omega)
  · intro f x s hs k
    unfold wp_X11_verdictsOf_5 wp_X11_verdictsOf_34
    rw [nI_clamp (n := s) (by omega)]
    refine pk_le S s (fun z => by omega) (fun _ => ⟨pu_in (by omega) (by decide), ?_⟩) P.xS rfl (by omega) (by omega)
    rw [nI_1]
    by_cases c : h.1 (o + 4) s = v
    · refine br_q c ?_
      rintro _ rfl _ rfl
      rw [if_pos (show (Tv h o).2.2.2.2.1 s = v from c)] at k
      exact k
    · refine br_m c ?_
      rintro _ rfl
      rw [if_neg (show ¬ (Tv h o).2.2.2.2.1 s = v from c)] at k
      exact k
theorem mm_many {J N S b : Nat} {h m : ck_H} {v : Int32} {Q : Int32 → ck_H → Prop} (P : PR h m J N S) (hb : b < 23) (q : Q (g_many (Mv m b) v S) m) : wp_X12_manyOf (nI b) v m Q := by
  have h10 := P.hS
  unfold wp_X12_manyOf
  refine lp_fo (fun f x s => wp_X12_manyOf_5 Q f (nI b) v x (nI s) m) (fun x s => if (Mv m b).2.2.2.2.1 s = v then x + 1 else x) S (fun x => Q x m) ?_ ?_ S 0 lpN 0 (by unfold lpN; omega) (by omega) q
  · intro f x hr
    unfold wp_X12_manyOf_5
    exact pk_le S S (fun _ => hr) (fun z => by omega) P.mS rfl (by omega) (by omega)
  · intro f x s hs k
    unfold wp_X12_manyOf_5 wp_X12_manyOf_38
    rw [pu_ix10, nI_clamp (n := 10 * b + s) (by omega)]
    refine pk_le S s (fun z => by omega) (fun _ => ⟨pu_in (by omega) (by decide), ?_⟩) P.mS rfl (by omega) (by omega)
    rw [nI_1]
    by_cases c : m.1 28 (10 * b + s) = v
    · refine br_q c ?_
      rintro _ rfl _ rfl
      rw [if_pos (show (Mv m b).2.2.2.2.1 s = v from c)] at k
      exact k
    · refine br_m c ?_
      rintro _ rfl _ rfl
      rw [if_neg (show ¬ (Mv m b).2.2.2.2.1 s = v from c)] at k
      rw [Int32.add_zero]
      exact k
theorem tx_gainOf {J N S o s : Nat} {h m : ck_H} {Q : Int32 → ck_H → Prop} (P : PR h m J N S) (hs : s < S) (q : Q (T_gain (pl h) s (h.1 (o + 4) s)) h) : wp_X10_gainOf o (nI s) h Q := by
  have h10 := P.hS; have h6 := P.hN
  obtain ⟨n, hn, en⟩ := P.rno s hs
  unfold wp_X10_gainOf
  rw [nI_clamp (n := s) (by omega), en, nI_clamp (n := n) (by omega)]
  refine ⟨pu_in (by omega) (by decide), pu_in (by omega) (by decide), ?_⟩
  rintro _ rfl
  refine ⟨pu_in (by omega) (by decide), ?_⟩
  rintro _ rfl
  unfold T_gain at q
  rw [show pl h 13 s = nI n from en, nI_clamp (n := n) (by omega)] at q
  refine ⟨fun c => ⟨fun c2 => ?_, fun c2 => ?_⟩, fun c => ?_⟩
  · rw [if_neg c, if_neg c2] at q; exact q
  · rw [if_neg c, if_pos c2] at q; exact q
  · rw [if_pos c] at q; exact q
theorem mm_gainOf {J N S s : Nat} {h m : ck_H} {v : Int32} {Q : Int32 → ck_H → Prop} (P : PR h m J N S) (hs : s < S) (q : Q (T_gain (pl h) s v) m) : wp_X12_gainOf (nI s) v m Q := by
  have h10 := P.hS; have h6 := P.hN
  obtain ⟨n, hn, en⟩ := P.rno s hs
  unfold wp_X12_gainOf
  rw [nI_clamp (n := s) (by omega), P.no s hs, en, nI_clamp (n := n) (by omega), P.wor n hn]
  refine ⟨pu_in (by omega) (by decide), pu_in (by omega) (by decide), ?_⟩
  rintro _ rfl
  unfold T_gain at q
  rw [show pl h 13 s = nI n from en, nI_clamp (n := n) (by omega)] at q
  refine ⟨fun c => ⟨fun c2 => ?_, fun c2 => ?_⟩, fun c => ?_⟩
  · rw [if_neg c, if_neg c2] at q; exact q
  · rw [if_neg c, if_pos c2] at q; exact q
  · rw [if_pos c] at q; exact q
theorem tx_gain {J N S o : Nat} {h m : ck_H} {Q : Int32 → ck_H → Prop} (P : PR h m J N S) (q : Q (g_gain (pl h) (Tv h o) S) h) : wp_X10_gained o h Q := by
  have h10 := P.hS
  unfold wp_X10_gained
  refine lp_fo (fun f x s => wp_X10_gained_4 Q o f x (nI s) h) (fun x s => x + T_gain (pl h) s ((Tv h o).2.2.2.2.1 s)) S (fun x => Q x h) ?_ ?_ S 0 lpN 0 (by unfold lpN; omega) (by omega) q
  · intro f x hr
    unfold wp_X10_gained_4
    exact pk_le S S (fun _ => hr) (fun z => by omega) P.xS rfl (by omega) (by omega)
  · intro f x s hs k
    unfold wp_X10_gained_4
    refine pk_le S s (fun z => by omega) (fun _ => tx_gainOf P hs ?_) P.xS rfl (by omega) (by omega)
    rw [nI_1]
    rintro _ rfl _ rfl
    exact k
theorem mm_gain {J N S b : Nat} {h m : ck_H} {Q : Int32 → ck_H → Prop} (P : PR h m J N S) (hb : b < 23) (q : Q (g_gain (pl h) (Mv m b) S) m) : wp_X12_gainAll (nI b) m Q := by
  have h10 := P.hS
  unfold wp_X12_gainAll
  refine lp_fo (fun f x s => wp_X12_gainAll_4 Q f (nI b) x (nI s) m) (fun x s => x + T_gain (pl h) s ((Mv m b).2.2.2.2.1 s)) S (fun x => Q x m) ?_ ?_ S 0 lpN 0 (by unfold lpN; omega) (by omega) q
  · intro f x hr
    unfold wp_X12_gainAll_4
    exact pk_le S S (fun _ => hr) (fun z => by omega) P.mS rfl (by omega) (by omega)
  · intro f x s hs k
    unfold wp_X12_gainAll_4
    rw [pu_ix10, nI_clamp (n := 10 * b + s) (by omega)]
    refine pk_le S s (fun z => by omega) (fun _ => ⟨pu_in (by omega) (by decide), mm_gainOf P hs ?_⟩) P.mS rfl (by omega) (by omega)
    rw [nI_1]
    rintro _ rfl _ rfl
    exact k
theorem tx_teeth {J N S : Nat} {h m : ck_H} {Q : Int32 → ck_H → Prop} (P : PR h m J N S) (q : Q (g_teeth (Tv h 17) J) h) : wp_X11_teethOf h Q := by
  have h4 := P.hJ
  unfold wp_X11_teethOf
  refine lp_fo (fun f x s => wp_X11_teethOf_4 Q f x (nI s) h) (fun x j => x + (Tv h 17).2.1 j) J (fun x => Q x h) ?_ ?_ J 0 lpN 0 (by unfold lpN; omega) (by omega) q
  · intro f x hr
    unfold wp_X11_teethOf_4
    exact pk_le J J (fun _ => hr) (fun z => by omega) P.xJ rfl (by omega) (by omega)
  · intro f x s hs k
    unfold wp_X11_teethOf_4
    rw [nI_clamp (n := s) (by omega)]
    refine pk_le J s (fun z => by omega) (fun _ => ⟨pu_in (by omega) (by decide), ?_⟩) P.xJ rfl (by omega) (by omega)
    rw [nI_1]
    rintro _ rfl _ rfl
    exact k
theorem mm_teeth {J N S b : Nat} {h m : ck_H} {Q : Int32 → ck_H → Prop} (P : PR h m J N S) (hb : b < 23) (q : Q (g_teeth (Mv m b) J) m) : wp_X12_teethAll (nI b) m Q := by
  have h4 := P.hJ
  unfold wp_X12_teethAll
  refine lp_fo (fun f x s => wp_X12_teethAll_4 Q f (nI b) x (nI s) m) (fun x j => x + (Mv m b).2.1 j) J (fun x => Q x m) ?_ ?_ J 0 lpN 0 (by unfold lpN; omega) (by omega) q
  · intro f x hr
    unfold wp_X12_teethAll_4
    exact pk_le J J (fun _ => hr) (fun z => by omega) P.mJ rfl (by omega) (by omega)
  · intro f x s hs k
    unfold wp_X12_teethAll_4
    rw [pu_ix4, nI_clamp (n := 4 * b + s) (by omega)]
    refine pk_le J s (fun z => by omega) (fun _ => ⟨pu_in (by omega) (by decide), ?_⟩) P.mJ rfl (by omega) (by omega)
    rw [nI_1]
    rintro _ rfl _ rfl
    exact k
theorem tx_mouse {J N S : Nat} {h m : ck_H} {Q : Int32 → ck_H → Prop} (P : PR h m J N S) (q : Q (g_mouse (pl h) (Tv h 7) S) h) : wp_X11_worthOfCrumbs h Q := by
  have h10 := P.hS; have h6 := P.hN
  unfold wp_X11_worthOfCrumbs
  refine lp_fo (fun f x s => wp_X11_worthOfCrumbs_4 Q f x (nI s) h) (fun x s => if (Tv h 7).2.2.2.2.1 s = 3 then x + pl h 8 (pl h 13 s).toNatClampNeg else x) S (fun x => Q x h) ?_ ?_ S 0 lpN 0 (by unfold lpN; omega) (by omega) q
  · intro f x hr
    unfold wp_X11_worthOfCrumbs_4
    exact pk_le S S (fun _ => hr) (fun z => by omega) P.xS rfl (by omega) (by omega)
  · intro f x s hs k
    obtain ⟨n, hn, en⟩ := P.rno s hs
    unfold wp_X11_worthOfCrumbs_4 wp_X11_worthOfCrumbs_51
    rw [nI_clamp (n := s) (by omega), en, nI_clamp (n := n) (by omega)]
    rw [show pl h 13 s = nI n from en, nI_clamp (n := n) (by omega)] at k
    refine pk_le S s (fun z => by omega) (fun _ => ⟨pu_in (by omega) (by decide), ?_⟩) P.xS rfl (by omega) (by omega)
    rw [nI_1]
    by_cases c : h.1 11 s = 3
    · refine br_q c ⟨pu_in (by omega) (by decide), pu_in (by omega) (by decide), ?_⟩
      rintro _ rfl _ rfl
      rw [if_pos (show (Tv h 7).2.2.2.2.1 s = 3 from c)] at k
      exact k
    · refine br_m c ?_
      rintro _ rfl
      rw [if_neg (show ¬ (Tv h 7).2.2.2.2.1 s = 3 from c)] at k
      exact k
theorem Mv0_26 (m : ck_H) (s : Nat) : (Mv m 0).2.2.1 s = m.1 26 s := by show m.1 26 (10 * 0 + s) = _; rw [show 10 * 0 + s = s by omega]
theorem Mv0_27 (m : ck_H) (s : Nat) : (Mv m 0).2.2.2.1 s = m.1 27 s := by show m.1 27 (10 * 0 + s) = _; rw [show 10 * 0 + s = s by omega]
theorem Mv0_28 (m : ck_H) (s : Nat) : (Mv m 0).2.2.2.2.1 s = m.1 28 s := by show m.1 28 (10 * 0 + s) = _; rw [show 10 * 0 + s = s by omega]
theorem mm_mouse {J N S : Nat} {h m : ck_H} {Q : Int32 → ck_H → Prop} (P : PR h m J N S) (q : Q (g_mouse (pl h) (Mv m 0) S) m) : wp_X12_mouseAll m Q := by
  have h10 := P.hS; have h6 := P.hN
  unfold wp_X12_mouseAll
  refine lp_fo (fun f x s => wp_X12_mouseAll_4 Q f x (nI s) m) (fun x s => if (Mv m 0).2.2.2.2.1 s = 3 then x + pl h 8 (pl h 13 s).toNatClampNeg else x) S (fun x => Q x m) ?_ ?_ S 0 lpN 0 (by unfold lpN; omega) (by omega) q
  · intro f x hr
    unfold wp_X12_mouseAll_4
    exact pk_le S S (fun _ => hr) (fun z => by omega) P.mS rfl (by omega) (by omega)
  · intro f x s hs k
    obtain ⟨n, hn, en⟩ := P.rno s hs
    unfold wp_X12_mouseAll_4 wp_X12_mouseAll_40
    rw [nI_clamp (n := s) (by omega), P.no s hs, en, nI_clamp (n := n) (by omega), P.wor n hn]
    rw [show pl h 13 s = nI n from en, nI_clamp (n := n) (by omega), Mv0_28] at k
    refine pk_le S s (fun z => by omega) (fun _ => ⟨pu_in (by omega) (by decide), ?_⟩) P.mS rfl (by omega) (by omega)
    rw [nI_1]
    by_cases c : m.1 28 s = 3
    · refine br_q c ⟨pu_in (by omega) (by decide), pu_in (by omega) (by decide), ?_⟩
      rintro _ rfl _ rfl
      rw [if_pos c] at k
      exact k
    · refine br_m c ?_
      rintro _ rfl _ rfl
      rw [if_neg c] at k
      rw [Int32.add_zero]
      exact k
theorem tx_tried {J N S : Nat} {h m : ck_H} {j : Int32} {Q : Int32 → ck_H → Prop} (P : PR h m J N S) (q : Q (g_by (Tv h 7) j (fun v => decide (¬ v = -1)) S) h) : wp_X11_triedBy j h Q := by
  have h10 := P.hS
  unfold wp_X11_triedBy
  refine lp_fo (fun f x s => wp_X11_triedBy_4 Q f j x (nI s) h) (fun x s => if (Tv h 7).2.2.1 s = j ∧ (fun v : Int32 => decide (¬ v = -1)) ((Tv h 7).2.2.2.2.1 s) = true then x + 1 else x) S (fun x => Q x h) ?_ ?_ S 0 lpN 0 (by unfold lpN; omega) (by omega) q
  · intro f x hr
    unfold wp_X11_triedBy_4
    exact pk_le S S (fun _ => hr) (fun z => by omega) P.xS rfl (by omega) (by omega)
  · intro f x s hs k
    have k : wp_X11_triedBy_4 Q f j (if h.1 9 s = j ∧ decide (¬ h.1 11 s = -1) = true then x + 1 else x) (nI (s + 1)) h := k
    unfold wp_X11_triedBy_4 wp_X11_triedBy_47
    rw [nI_clamp (n := s) (by omega)]
    refine pk_le S s (fun z => by omega) (fun _ => ⟨pu_in (by omega) (by decide), ?_⟩) P.xS rfl (by omega) (by omega)
    rw [nI_1]
    refine ⟨fun c => ?_, fun c => ⟨pu_in (by omega) (by decide), fun c2 => ?_, fun c2 => ?_⟩⟩
    · rintro _ rfl; rw [if_neg (fun z => c z.1)] at k; exact k
    · rintro _ rfl; rw [if_neg (fun z => by simp [c2] at z)] at k; exact k
    · rintro _ rfl _ rfl; rw [if_pos ⟨c, by simp [c2]⟩] at k; exact k
theorem tx_whole {J N S : Nat} {h m : ck_H} {j : Int32} {Q : Int32 → ck_H → Prop} (P : PR h m J N S) (q : Q (g_by (Tv h 7) j (fun v => decide (v = 1)) S) h) : wp_X11_wholeOnesBy j h Q := by
  have h10 := P.hS
  unfold wp_X11_wholeOnesBy
  refine lp_fo (fun f x s => wp_X11_wholeOnesBy_4 Q f j x (nI s) h) (fun x s => if (Tv h 7).2.2.1 s = j ∧ (fun v : Int32 => decide (v = 1)) ((Tv h 7).2.2.2.2.1 s) = true then x + 1 else x) S (fun x => Q x h) ?_ ?_ S 0 lpN 0 (by unfold lpN; omega) (by omega) q
  · intro f x hr
    unfold wp_X11_wholeOnesBy_4
    exact pk_le S S (fun _ => hr) (fun z => by omega) P.xS rfl (by omega) (by omega)
  · intro f x s hs k
    have k : wp_X11_wholeOnesBy_4 Q f j (if h.1 9 s = j ∧ decide (h.1 11 s = 1) = true then x + 1 else x) (nI (s + 1)) h := k
    unfold wp_X11_wholeOnesBy_4 wp_X11_wholeOnesBy_47
    rw [nI_clamp (n := s) (by omega)]
    refine pk_le S s (fun z => by omega) (fun _ => ⟨pu_in (by omega) (by decide), ?_⟩) P.xS rfl (by omega) (by omega)
    rw [nI_1]
    refine ⟨fun c => ?_, fun c => ⟨pu_in (by omega) (by decide), fun c2 => ?_, fun c2 => ?_⟩⟩
    · rintro _ rfl; rw [if_neg (fun z => c z.1)] at k; exact k
    · rintro _ rfl; rw [if_neg (fun z => by simp [c2] at z)] at k; exact k
    · rintro _ rfl _ rfl; rw [if_pos ⟨c, by simp [c2]⟩] at k; exact k
theorem mm_tried {J N S : Nat} {h m : ck_H} {j w : Int32} {Q : Int32 → ck_H → Prop} (P : PR h m J N S) (q : Q (g_by (Mv m 0) j (fun v => decide (¬ v = -1 ∧ (w = -1 ∨ v = w))) S) m) : wp_X12_triedBy j w m Q := by
  have h10 := P.hS
  unfold wp_X12_triedBy
  refine lp_fo (fun f x s => wp_X12_triedBy_5 Q f j w x (nI s) m) (fun x s => if (Mv m 0).2.2.1 s = j ∧ (fun v : Int32 => decide (¬ v = -1 ∧ (w = -1 ∨ v = w))) ((Mv m 0).2.2.2.2.1 s) = true then x + 1 else x) S (fun x => Q x m) ?_ ?_ S 0 lpN 0 (by unfold lpN; omega) (by omega) q
  · intro f x hr
    unfold wp_X12_triedBy_5
    exact pk_le S S (fun _ => hr) (fun z => by omega) P.mS rfl (by omega) (by omega)
  · intro f x s hs k
    rw [Mv0_26, Mv0_28] at k
    have k : wp_X12_triedBy_5 Q f j w (if m.1 26 s = j ∧ decide (¬ m.1 28 s = -1 ∧ (w = -1 ∨ m.1 28 s = w)) = true then x + 1 else x) (nI (s + 1)) m := k
    unfold wp_X12_triedBy_5
    rw [nI_clamp (n := s) (by omega)]
    have k57 : ¬ (m.1 26 s = j ∧ decide (¬ m.1 28 s = -1 ∧ (w = -1 ∨ m.1 28 s = w)) = true) → wp_X12_triedBy_57 Q (wp_X12_triedBy_5 Q f) j w x (nI s) m := by
      intro c
      rw [if_neg c] at k
      unfold wp_X12_triedBy_57 wp_X12_triedBy_58 wp_X12_triedBy_71
      refine br_p rfl ?_
      rintro _ rfl _ rfl
      rw [nI_1, Int32.add_zero]
      exact k
    have k53 : (m.1 26 s = j ∧ decide (¬ m.1 28 s = -1 ∧ (w = -1 ∨ m.1 28 s = w)) = true) → wp_X12_triedBy_53 Q (wp_X12_triedBy_5 Q f) j w x (nI s) m := by
      intro c
      rw [if_pos c] at k
      unfold wp_X12_triedBy_53 wp_X12_triedBy_58 wp_X12_triedBy_71
      refine br_n (by decide) ?_
      rintro _ rfl _ rfl
      rw [nI_1]
      exact k
    refine pk_le S s (fun z => by omega) (fun _ => ⟨pu_in (by omega) (by decide), ?_⟩) P.mS rfl (by omega) (by omega)
    refine ⟨fun c => k57 (fun z => c z.1), fun c => mm_isOpen (b := 0) (by decide) (by omega) (fun c2 => ?_) (fun c2 => ?_)⟩
    · rw [show 10 * 0 + s = s by omega] at c2
      exact br_m (by decide) (k57 (fun z => by simp [c2] at z))
    · rw [show 10 * 0 + s = s by omega] at c2
      refine br_q rfl ⟨fun c3 => k53 ⟨c, by simp [c2, c3]⟩, fun c3 => ⟨pu_in (by omega) (by decide), fun c4 => k57 (fun z => by simp [c3, c4] at z), fun c4 => k53 ⟨c, by rw [decide_eq_true_eq]; exact ⟨c2, Or.inr c4⟩⟩⟩⟩
