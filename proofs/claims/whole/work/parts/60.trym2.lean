theorem T_fo_M {h m : ck_H} {J N S b j n : Nat} {hd : Int32} (hP : PR h m J N S) (hj : j < J) (hn : n < N) : sp_fM h m b j n hd = T_fo (pl h) (mdM m) (Mv m b) j n hd := by
  have e1 : sp_nmM m b j n hd = T_nm (pl h) (Mv m b) j n hd := by
    unfold sp_nmM
    rw [hP.jaw j hj, hP.bit n hn]
    rfl
  unfold sp_fM T_fo
  rw [e1, hP.jaw j hj]
  refine sp_force_iff ?_
  show _ ↔ decide (m.1 0 46 = 4) = true
  simp
theorem T_nm_M {h m : ck_H} {J N S b j n : Nat} {hd : Int32} (hP : PR h m J N S) (hj : j < J) (hn : n < N) : sp_nmM m b j n hd = T_nm (pl h) (Mv m b) j n hd := by
  unfold sp_nmM
  rw [hP.jaw j hj, hP.bit n hn]
  rfl
theorem T_sl_M {h m : ck_H} {J N S b j n : Nat} {hd : Int32} (hP : PR h m J N S) (hj : j < J) (hn : n < N) : sp_sM h m b j n hd = T_sl (pl h) (Mv m b) j n hd := by
  unfold sp_sM T_sl
  rw [T_nm_M hP hj hn]
  rfl
theorem tm_max (x : Int32) : (if (1 : Int32) < x then x else 1) = if 1 ≤ x then x else 1 := by
  by_cases c : (1 : Int32) < x
  · rw [if_pos c, if_pos (Int32.le_of_lt c)]
  · rw [if_neg c]
    by_cases c2 : (1 : Int32) ≤ x
    · rw [if_pos c2]
      exact Int32.le_antisymm c2 (Int32.not_lt.mp c)
    · rw [if_neg c2]
theorem rg_le0 {x : Int32} {n : Nat} (h : rg x n) (hn : n < 2 ^ 31) : x ≤ 0 ↔ x = 0 := by
  obtain ⟨a, h1, rfl⟩ := h
  rw [show (0 : Int32) = nI 0 from rfl, nI_leI (by omega) (by omega), nI_eq (by omega) (by omega)]
  omega
set_option maxHeartbeats 2000000 in
theorem mm_70 {h m : ck_H} {J N S b s j n : Nat} {hd : Int32} {Q : ck_H → Prop} (hP : PR h m J N S) (hb : b < 23) (hs : s < S) (hj : j < J) (hn : n < N) (hlv : rg (m.1 21 b) 99) (hte : rg (m.1 24 (4 * b + j)) 9) (hhd : rg hd 999)
    (hq : ∀ m', Mv m' b = T_out (pl h) (mdM m) (Mv m b) s j n hd (m.1 0 50).toInt64 → FB b m m' → Q m') : wp_X12_tries_70 Q (nI b) (nI s) (nI j) (nI n) hd m := by
  have h4 := hP.hJ; have h6 := hP.hN; have h10 := hP.hS
  have eb : (nI b).toNatClampNeg = b := nI_clamp (by omega)
  have hjw : rg (m.1 4 j) 99 := by rw [hP.jaw j hj]; exact hP.rjaw j hj
  unfold wp_X12_tries_70
  refine mm_force (h := h) hb (by omega) (by omega) hP.lr (fun m1 f1 => ?_)
  refine mm_slack (h := h) hb (by omega) (by omega) (hP.lr.kept f1) (fun m2 f2 => ?_)
  have f12 := f1.tr f2
  have gg : ∀ {a i : Nat}, a ≠ 0 → m2.1 a i = m.1 a i := fun h0 => by rw [f12.1 _ h0]
  refine mm_verdict (h := h) hb (by omega) (by omega) (hP.lr.kept f12) (by rw [gg (by decide)]; exact hjw) (by rw [gg (by decide)]; exact hlv) hhd (fun m3 f3 => ?_)
  have f13 := f12.tr f3
  have hP2 : PR h m2 J N S := FB.pr (FB.of (b := b) f12) hP
  have hP3 : PR h m3 J N S := FB.pr (FB.of (b := b) f13) hP
  rw [T_fo_M hP2 hj hn, T_sl_M hP2 hj hn, mdM_fM f12, Mv_fM f12, sp_nmM_kept f1, show sp_force (sp_law h 0 (sp_nmM m b j n hd)) (m.1 4 j) (m.1 21 b) (m.1 24 (4 * b + j)) (m.1 0 46 = 4) = sp_fM h m b j n hd from rfl, show sp_by (sp_law h 1 (sp_nmM m b j n hd)) 1 99 10 = sp_sM h m b j n hd from rfl, T_fo_M hP hj hn, T_sl_M hP hj hn]
  unfold T_out at hq
  unfold T_v at hq
  generalize hfo : T_fo (pl h) (mdM m) (Mv m b) j n hd = fo at *
  generalize hsl : T_sl (pl h) (Mv m b) j n hd = sl at *
  generalize hv : sp_verd fo sl hd = v at *
  rintro _ rfl
  rw [pu_ix4, pu_ix10, eb, nI_clamp (n := 4 * b + j) (by omega), nI_clamp (n := 10 * b + s) (by omega)]
  have i92 : vp_in (nI (4 * b + j)) 92 := pu_in (by omega) (by decide)
  have i23 : vp_in (nI b) 23 := pu_in (by omega) (by decide)
  refine ⟨pu_in (by omega) (by decide), ?_⟩
  rintro _ rfl
  refine ⟨i92, i92, ?_⟩
  rintro _ rfl
  generalize hm5 : ck_sI (ck_sI m3 28 (10 * b + s) v) 25 (4 * b + j) ((ck_sI m3 28 (10 * b + s) v).1 25 (4 * b + j) + 1) = m5
  have b28 : inB 28 b (10 * b + s) := by unfold inB; omega
  have b25 : inB 25 b (4 * b + j) := by unfold inB; omega
  have b24 : inB 24 b (4 * b + j) := by unfold inB; omega
  have b23 : inB 23 b b := by unfold inB; omega
  have b21 : inB 21 b b := by unfold inB; omega
  have f5 : FB b m m5 := by
    rw [← hm5]
    exact ((FB.of f13).tr (FB.set _ _ b28)).tr (FB.set _ _ b25)
  have e25 : (ck_sI m3 28 (10 * b + s) v).1 25 (4 * b + j) = (Mv m b).2.2.2.2.2.1 j := by
    rw [ck_sI_ne _ _ _ (by decide), f13.1 25 (by decide)]; rfl
  have v5 : Mv m5 b = ((Mv m b).1, (Mv m b).2.1, (Mv m b).2.2.1, (Mv m b).2.2.2.1, upd (Mv m b).2.2.2.2.1 s v, upd (Mv m b).2.2.2.2.2.1 j ((Mv m b).2.2.2.2.2.1 j + 1), (m.1 0 50).toInt64) := by
    rw [← hm5, e25, Mv_25, Mv_28, show Mf (ck_sI m3 28 (10 * b + s) v) b = Mf m3 b from rfl, show Mf m3 b = (Mv m3 b).1 from rfl, Mv_fM f13]
    rfl
  have te5 : m5.1 24 (4 * b + j) = (Mv m b).2.1 j := by
    rw [← hm5, ck_sI_ne _ _ _ (by decide), ck_sI_ne _ _ _ (by decide), f13.1 24 (by decide)]; rfl
  have z46 : m5.1 0 46 = m.1 0 46 := f5.fl (by decide) (by decide)
  have hte' : (Mv m b).2.1 j ≤ 0 ↔ (Mv m b).2.1 j = 0 := rg_le0 hte (by decide)
  refine ⟨fun c => ?_, fun c => ?_⟩
  · rw [if_neg c] at hq
    refine ⟨fun c2 => ?_, fun c2 => hq m5 ?_ f5⟩
    · rw [if_neg (show ¬ (mdM m).1 = true by show ¬ decide (m.1 0 46 = 1) = true; rw [← z46]; simp [c2])] at hq
      have hP5 : PR h m5 J N S := f5.pr hP
      refine mm_calls hb (by omega) (by omega) (fun m6 e6 hnr => ⟨i23, ?_⟩)
      have f6 : ck_fM m5 m6 := ck_fM.of e6
      have en : sp_nmM m5 b j n hd = T_nm1 (pl h) (Mv m b) j n hd := by
        rw [T_nm_M hP5 hj hn]
        unfold T_nm T_nm1
        rw [v5]
        simp [upd]
      rw [en] at hnr
      refine mm_within (h := h) (k := 2) (by decide) (by decide) (hP5.lr.kept f6) hnr (fun m7 f7 => ⟨i23, ?_⟩)
      rintro _ rfl
      rw [tm_max]
      have lv : m6.1 21 b = (Mv m b).1 6 := by
        rw [e6, ← hm5, ck_sI_ne _ _ _ (by decide), ck_sI_ne _ _ _ (by decide), f13.1 21 (by decide)]; rfl
      rw [lv]
      have f57 := f6.tr f7
      refine hq _ ?_ ((f5.tr (FB.of f57)).tr (FB.set _ _ b21))
      rw [Mv_21, show Mf m7 b = (Mv m7 b).1 from rfl, Mv_fM f57, v5]
      rfl
    · rw [if_pos (show (mdM m).1 = true by show decide (m.1 0 46 = 1) = true; rw [← z46]; simp [c2])]
      exact v5
  · rw [if_pos c] at hq
    have stay : ¬ (¬ (hd - fo < 2 * sl) ∧ ¬ (Mv m b).2.1 j ≤ 0) → Q m5 := fun cc => hq m5 (by rw [if_neg cc]; exact v5) f5
    refine ⟨fun c2 => stay (fun z => z.1 c2), fun c2 => ⟨i92, fun c3 => ?_, fun c3 => stay (fun z => z.2 (hte'.mpr (by rw [← te5]; exact c3)))⟩⟩
    rw [te5] at c3 ⊢
    refine ⟨i92, i92, ?_⟩
    rintro _ rfl
    refine ⟨i23, i23, ?_⟩
    rintro _ rfl
    refine hq _ ?_ ((f5.tr (FB.set _ _ b24)).tr (FB.set _ _ b23))
    rw [if_pos ⟨c2, fun z => c3 (hte'.mp z)⟩, Mv_23, show Mf (ck_sI m5 24 (4 * b + j) ((Mv m b).2.1 j - 1)) b = (Mv m5 b).1 from rfl, Mv_24, v5]
    have l5 : (ck_sI m5 24 (4 * b + j) ((Mv m b).2.1 j - 1)).1 23 b = (Mv m b).1 7 := by
      rw [ck_sI_ne _ _ _ (by decide), ← hm5, ck_sI_ne _ _ _ (by decide), ck_sI_ne _ _ _ (by decide), f13.1 23 (by decide)]; rfl
    rw [l5]
theorem tm_hard {Q : Int32 → ck_H → Prop} {h m : ck_H} {J N S b s : Nat} (hP : PR h m J N S) (hb : b < 23) (hs : s < S) (hq : Q (T_hard (pl h) (mdM m) (Mv m b) s) m) : wp_X12_hardness (nI b) (nI s) m Q := by
  have h4 := hP.hJ; have h6 := hP.hN; have h10 := hP.hS
  obtain ⟨n, hn, en⟩ := hP.rno s hs
  have es : (nI s).toNatClampNeg = s := nI_clamp (by omega)
  have eb : (nI b).toNatClampNeg = b := nI_clamp (by omega)
  have ep : pl h 13 s = nI n := en
  have e7 : pl h 7 n = m.1 7 n := (hP.hard n hn).symm
  unfold T_hard at hq
  rw [ep, nI_clamp (n := n) (by omega), e7, show (Mv m b).1 4 = m.1 22 b from rfl, show (mdM m).2.2.1 = decide (m.1 0 46 = 3) from rfl] at hq
  unfold wp_X12_hardness
  rw [es, eb, hP.no s hs, en, nI_clamp (n := n) (by omega)]
  refine ⟨pu_in (by omega) (by decide), pu_in (by omega) (by decide), pu_in hb (by decide), fun c => ?_, fun c => ⟨fun c2 => ?_, fun c2 => ?_⟩⟩
  · rw [if_neg (fun z => c z.1)] at hq; rw [Int32.add_zero]; exact hq
  · rw [if_neg (fun z => by simp [c2] at z)] at hq; rw [Int32.add_zero]; exact hq
  · rw [if_pos ⟨c, by simp [c2]⟩] at hq; exact hq
theorem lcg_N {d : Nat} (h : d < 2 ^ 31) : (nI d * (1103515245 : Int32) + 12345) &&& 2147483647 = nI ((d * 1103515245 + 12345) % 2 ^ 31) := by
  rw [show (1103515245 : Int32) = nI 1103515245 from rfl, show (12345 : Int32) = nI 12345 from rfl, pk_mul, nI_add, pk_and _ 31 (by decide)]
  refine congrArg nI ?_
  generalize d * 1103515245 + 12345 = x
  show (BitVec.ofNat 32 x).toNat % 2 ^ 31 = x % 2 ^ 31
  rw [BitVec.toNat_ofNat]
  exact Nat.mod_mod_of_dvd _ ⟨2, by decide⟩
theorem lcg_L {d : Nat} (h : d < 2 ^ 31) : ((nI d).toInt64 * (1103515245 : Int64) + 12345) &&& 2147483647 = (nI ((d * 1103515245 + 12345) % 2 ^ 31)).toInt64 := by
  have hm : (d * 1103515245 + 12345) % 2 ^ 31 < 2 ^ 31 := Nat.mod_lt _ (by decide)
  rw [nI_l h, nI_l hm]
  have e : lN d * (1103515245 : Int64) + 12345 = lN (d * 1103515245 + 12345) := by
    rw [show (1103515245 : Int64) = lN 1103515245 from rfl, show (12345 : Int64) = lN 12345 from rfl, lN_mul, lN_add]
  rw [e]
  apply Int64.toBitVec_inj.mp
  apply BitVec.eq_of_toNat_eq
  rw [Int64.toBitVec_and, BitVec.toNat_and, show (2147483647 : Int64).toBitVec.toNat = 2 ^ 31 - 1 from by decide, Nat.and_two_pow_sub_one_eq_mod]
  generalize d * 1103515245 + 12345 = x at *
  show (BitVec.ofNat 64 x).toNat % 2 ^ 31 = (BitVec.ofNat 64 (x % 2 ^ 31)).toNat
  rw [BitVec.toNat_ofNat, BitVec.toNat_ofNat, Nat.mod_mod_of_dvd x (show 2 ^ 31 ∣ 2 ^ 64 from ⟨2 ^ 33, by decide⟩)]
  omega
theorem lcg_D {d : Nat} (h : d < 2 ^ 31) : ((nI d).toInt64 / (65536 : Int64)).toInt32 = nI d >>> ((16 : Int32) &&& 31) := by
  rw [nI_l h, show (65536 : Int64) = lN 65536 from rfl, pk_lDiv (by omega) (by decide) (by decide), ← nI_l (n := d / 65536) (by omega), i64_i32, pk_shrN h _ 16 (by decide)]
theorem rg_add {x y : Int32} {a b : Nat} (h1 : rg x a) (h2 : rg y b) : rg (x + y) (a + b) := by
  obtain ⟨u, hu, rfl⟩ := h1
  obtain ⟨v, hv, rfl⟩ := h2
  exact ⟨u + v, by omega, nI_add u v⟩
theorem T_hard_rg {p : Nat → Nat → Int32} {md : Md} {t : Tt} {s : Nat} (h : rg (p 7 (p 13 s).toNatClampNeg) 99) : rg (T_hard p md t s) 129 := by
  unfold T_hard
  split
  · exact rg_add (b := 30) h ⟨30, by decide, rfl⟩
  · exact h.le (by decide)
/-- a court in order -/
def TOk (B J S : Nat) (t : Tt) : Prop := (∃ d, d ≤ B ∧ t.1 5 = nI d) ∧ (∃ a, 1 ≤ a ∧ a ≤ 99 ∧ t.1 6 = nI a) ∧ (∀ j, j < J → rg (t.2.1 j) 9) ∧ (∀ s, s < S → ∃ j, j < J ∧ t.2.2.1 s = nI j) ∧ (∀ s, s < S → rg (t.2.2.2.1 s) 9999) ∧ ∀ s, s < S → t.2.2.2.2.1 s = -1 ∨ rg (t.2.2.2.2.1 s) 3
theorem mm_tries {h m : ck_H} {B J N S b s : Nat} {Q : ck_H → Prop} (hP : PR h m J N S) (hb : b < 23) (hs : s < S) (hT : TOk B J S (Mv m b)) (hd : ∃ d, d < 2 ^ 31 ∧ m.1 0 50 = nI d)
    (hq : ∀ m', Mv m' b = T_try (pl h) (mdM m) (Mv m b) s → FB b m m' → Q m') : wp_X12_tries (nI b) (nI s) m Q := by
  have h4 := hP.hJ; have h6 := hP.hN; have h10 := hP.hS
  obtain ⟨j, hj, ej⟩ := hT.2.2.2.1 s hs
  obtain ⟨n, hn, en⟩ := hP.rno s hs
  obtain ⟨d, hd, ed⟩ := hd
  have ej' : m.1 26 (10 * b + s) = nI j := ej
  have ep : pl h 13 s = nI n := en
  have rh : rg (T_hard (pl h) (mdM m) (Mv m b) s) 129 := T_hard_rg (by rw [ep, nI_clamp (n := n) (by omega)]; exact hP.rhard n hn)
  have hlv : rg (m.1 21 b) 99 := by obtain ⟨a, h1, h2, h3⟩ := hT.2.1; exact ⟨a, h2, h3⟩
  have hte : rg (m.1 24 (4 * b + j)) 9 := hT.2.2.1 j hj
  unfold T_try at hq
  rw [ej, ep, nI_clamp (n := j) (by omega), nI_clamp (n := n) (by omega)] at hq
  unfold wp_X12_tries
  rw [pu_ix10, nI_clamp (n := 10 * b + s) (by omega), nI_clamp (n := s) (by omega), ej', hP.no s hs, en]
  refine ⟨pu_in (by omega) (by decide), ?_⟩
  rintro _ rfl
  refine ⟨pu_in (by omega) (by decide), ?_⟩
  rintro _ rfl
  refine tm_hard hP hb hs ⟨fun c => ?_, fun c => ?_⟩
  · have c' : ¬ (mdM m).2.2.2.2.1 = true := by show ¬ decide (¬ m.1 0 49 = 0) = true; simp [c]
    refine mm_70 hP hb hs hj hn hlv hte (rh.le (by decide)) (fun m' e f => hq m' ?_ f)
    rw [e]
    unfold T_hd T_draw
    rw [if_neg c', if_neg c', Int32.add_zero]
    rfl
  · have c' : (mdM m).2.2.2.2.1 = true := by show decide (¬ m.1 0 49 = 0) = true; simp [c]
    unfold T_hd T_draw at hq
    rw [if_pos c', if_pos c', show (Mv m b).2.2.2.2.2.2 = (m.1 0 50).toInt64 from rfl, ed, lcg_L hd, lcg_D (Nat.mod_lt _ (by decide))] at hq
    rw [ed, lcg_N hd]
    have hm : (d * 1103515245 + 12345) % 2 ^ 31 < 2 ^ 31 := Nat.mod_lt _ (by decide)
    generalize (d * 1103515245 + 12345) % 2 ^ 31 = d' at hq hm
    rintro _ rfl
    rw [ck_sI_at]
    rintro _ rfl
    have rr : rg (ck_rem (nI d' >>> ((16 : Int32) &&& 31)) 10) 9 := by
      rw [pk_shrN hm _ 16 (by decide)]
      unfold ck_rem
      rw [show (10 : Int32) = nI 10 from rfl, pk_rem (by omega) (by decide) (by decide)]
      exact ⟨_, by omega, rfl⟩
    refine mm_70 (m := ck_sI m 0 50 (nI d')) ((FB.set50 (b := b) m _).pr hP) hb hs hj hn hlv hte ((rg_add rh rr).le (by decide)) (fun m' e f => hq m' ?_ ((FB.set50 m _).tr f))
    rw [e, ck_sI_at, (FB.set50 (b := b) m (nI d')).md, Mv_50]
    exact T_out_sd ..
