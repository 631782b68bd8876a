def cmX (c : Nat) : Nat → Nat
  | 0 => 1
  | k + 1 => if k + 1 ≤ 1 then 1 else if c % (k + 1) = 0 ∧ 10 % (k + 1) = 0 then k + 1 else cmX c k
def cmM : Nat → Nat → Nat → Nat
  | 0, a, _ => a
  | f + 1, a, b => if b = 0 then a else cmM f b (a % b)
theorem cmn_eq : ∀ c, c ≤ 10 → cmX c 10 = cmM 20 c 10 ∧ 0 < cmX c 10 := by decide
theorem rem_N {a b : Nat} (ha : a < 2 ^ 31) (h0 : 0 < b) (hb : b < 2 ^ 31) : ck_rem (nI a) (nI b) = nI (a % b) := pk_rem ha h0 hb
theorem tx_cm {c : Nat} {h : ck_H} {Q : Int32 → ck_H → Prop} (hc : c ≤ 10) : ∀ (k f : Nat), k < f → k ≤ 10 → Q (nI (cmX c k)) h → wp_X11_commonWithTen_3 Q f (nI c) (nI k) h := by
  intro k
  induction k with
  | zero =>
    intro f hf hk q
    obtain ⟨f, rfl⟩ : ∃ g, f = g + 1 := ⟨f - 1, by omega⟩
    unfold wp_X11_commonWithTen_3
    exact pk_le 0 1 (fun _ => q) (fun z => by omega)
  | succ k ih =>
    intro f hf hk q
    obtain ⟨f, rfl⟩ : ∃ g, f = g + 1 := ⟨f - 1, by omega⟩
    unfold wp_X11_commonWithTen_3 wp_X11_commonWithTen_23
    unfold cmX at q
    rw [show (10 : Int32) = nI 10 from rfl, rem_N (a := c) (by omega) (by omega) (by omega), rem_N (a := 10) (by omega) (by omega) (by omega)]
    have l1 := Nat.mod_lt c (show 0 < k + 1 by omega)
    have l2 := Nat.mod_lt 10 (show 0 < k + 1 by omega)
    have z0 : ¬ nI (k + 1) = 0 := nI_ne0 (by omega) (by omega)
    refine pk_le (k + 1) 1 (fun z => ?_) (fun z => ⟨z0, ?_, ?_⟩)
    · rw [if_pos z] at q; exact q
    · intro c1
      rintro _ rfl
      rw [if_neg (by omega), if_neg (fun y => c1 (by rw [y.1]; rfl))] at q
      rw [pu_m1 (by omega)]
      exact ih f (by omega) (by omega) q
    · intro c1
      refine ⟨z0, fun c2 => ?_, fun c2 => ?_⟩
      · rintro _ rfl
        rw [if_neg (by omega), if_neg (fun y => c2 (by rw [y.2]; rfl))] at q
        rw [pu_m1 (by omega)]
        exact ih f (by omega) (by omega) q
      · rw [show (0 : Int32) = nI 0 from rfl, nI_eq (by omega) (by omega)] at c1 c2
        rw [if_neg (by omega), if_pos ⟨c1, c2⟩] at q
        exact q
theorem mm_cm {m : ck_H} {Q : Int32 → ck_H → Prop} : ∀ (f a b g : Nat), b < f → f ≤ g → a < 100 → b < 100 → Q (nI (cmM f a b)) m → wp_X12_common_4 Q g (nI a) (nI b) m := by
  intro f
  induction f with
  | zero => exact fun a b g h1 _ _ _ _ => by omega
  | succ f ih =>
    intro a b g h1 h2 h3 h4 q
    obtain ⟨g, rfl⟩ : ∃ k, g = k + 1 := ⟨g - 1, by omega⟩
    unfold wp_X12_common_4
    unfold cmM at q
    refine pk_eq b 0 (fun z => ?_) (fun z => ⟨nI_ne0 (by omega) (by omega), ?_⟩)
    · rw [if_pos z] at q; exact q
    · rintro _ rfl
      rw [rem_N (by omega) (by omega) (by omega)]
      rw [if_neg z] at q
      have l1 := Nat.mod_lt a (show 0 < b by omega)
      exact ih b (a % b) g (by omega) (by omega) (by omega) (by omega) q
theorem sim_likely {J N S : Nat} {h m : ck_H} {x y : Int32} (H : SimP J N S h m) : wp_X11_likely x y h (fun r h' => wp_X12_likely x y m (fun r' m' => r = r' ∧ Sim h' m')) := by
  have T := H.thr 0
  have P := T.pr
  have h10 := P.hS; have h6 := P.hN
  unfold wp_X11_likely
  by_cases c : ∃ s, s < S ∧ x = nI s ∧ h.1 11 s = -1
  · obtain ⟨s, hs, rfl, e⟩ := c
    obtain ⟨j, hj, ej⟩ := T.nok.2.2.2.1 s hs
    have ej : h.1 9 s = nI j := ej
    obtain ⟨n, hn, en⟩ := P.rno s hs
    refine xP_p P hs e (br_n (by decide) ⟨fun c2 => ?_, fun c2 => ⟨fun c3 => AS.of (fun h1 A1 => as_hard T A1 hs ?_), fun c3 => ?_⟩⟩)
    · unfold wp_X12_likely
      rintro _ rfl
      exact mP_p P hs ((T.pend hs).mpr e) (br_n (by decide) (br_p c2 ⟨rfl, _, _, _, T⟩))
    · generalize hF : (fun (z : Int32) (i : Nat) => if T_v (pl h) (mdM (ck_sI m 0 0 0)) (Mv (ck_sI m 0 0 0) 0) j n (T_hard (pl h) (mdM (ck_sI m 0 0 0)) (Mv (ck_sI m 0 0 0) 0) s + nI i) = 1 then z + 1 else z) = F
      have hc : ∃ c, c ≤ 10 ∧ fo F 10 0 0 = nI c := by
        rw [← hF]
        obtain ⟨c, c1, c2⟩ := fo_cnt (P := fun i => T_v (pl h) (mdM (ck_sI m 0 0 0)) (Mv (ck_sI m 0 0 0) 0) j n (T_hard (pl h) (mdM (ck_sI m 0 0 0)) (Mv (ck_sI m 0 0 0) 0) s + nI i) = 1) 10 0 0
        exact ⟨c, by omega, c2⟩
      obtain ⟨c, c10, ec⟩ := hc
      have cm := cmn_eq c c10
      refine lp_foH (fun f z i h' => wp_X11_likely_45 (fun r h' => wp_X12_likely (nI s) y m (fun r' m' => r = r' ∧ Sim h' m')) (fun x18 x19 h17 => (wp_X11_commonWithTen x19 h17 (fun r21 h20 => ((¬ x18 = 0 → (¬ r21 = 0 ∧ wp_X12_likely (nI s) y m (fun r' m' => (10 : Int32) / r21 = r' ∧ Sim h20 m'))) ∧ (x18 = 0 → (¬ r21 = 0 ∧ wp_X12_likely (nI s) y m (fun r' m' => x19 / r21 = r' ∧ Sim h20 m'))))))) f (nI s) y (T_hard (pl h) (mdM (ck_sI m 0 0 0)) (Mv (ck_sI m 0 0 0) 0) s) z (nI i) h') (fun h' => AS h h') F 10 (fun z => z = nI c) ?_ ?_ 10 0 lpN 0 h1 A1 (by decide) (by omega) ec
      · rintro f z h' A rfl
        unfold wp_X11_likely_45
        refine pk_le 10 10 (fun _ => ?_) (fun z => by omega)
        refine tx_cm c10 10 lpN (by decide) (by omega) ?_
        have z0 : ¬ nI (cmX c 10) = 0 := by
          refine nI_ne0 cm.2 ?_
          have : ∀ c, c ≤ 10 → cmX c 10 < 100 := by decide
          have := this c c10
          omega
        have mod : ∀ R : Int32 → ck_H → Prop, (∀ m', kM (ck_sI m 0 0 0) m' → R (if y = 0 then nI c / nI (cmX c 10) else 10 / nI (cmX c 10)) m') → wp_X12_likely (nI s) y m R := by
          intro R hR
          unfold wp_X12_likely
          rintro _ rfl
          refine mP_p P hs ((T.pend hs).mpr e) (br_n (by decide) (br_n c2 (br_p c3 ?_)))
          refine lp_foH (fun f z i m' => wp_X12_likely_29 R (fun x18 x19 h17 => (wp_X12_common x19 (10 : Int32) h17 (fun r21 h20 => ((¬ x18 = 0 → (¬ r21 = 0 ∧ R ((10 : Int32) / r21) h20)) ∧ (x18 = 0 → (¬ r21 = 0 ∧ R (x19 / r21) h20)))))) f (nI s) y z (nI i) m') (fun m' => ck_fM (ck_sI m 0 0 0) m') F 10 (fun z => z = nI c) ?_ ?_ 10 0 lpN 0 _ (ck_fM.rf _) (by decide) (by omega) ec
          · rintro f z m1 f1 rfl
            unfold wp_X12_likely_29
            refine pk_le 10 10 (fun _ => ?_) (fun z => by omega)
            refine mm_cm 20 c 10 lpN (by decide) (by decide) (by omega) (by omega) ?_
            rw [← cm.1]
            have r := hR m1 (kM.fM f1)
            refine ⟨fun cy => ⟨z0, ?_⟩, fun cy => ⟨z0, ?_⟩⟩
            · rw [if_neg cy] at r; exact r
            · rw [if_pos cy] at r; exact r
          · intro f z i m1 f1 hi k
            unfold wp_X12_likely_29 wp_X12_likely_72
            have g1 : m1.1 26 = (ck_sI m 0 0 0).1 26 := f1.1 26 (by decide)
            have g2 : m1.1 12 = (ck_sI m 0 0 0).1 12 := f1.1 12 (by decide)
            refine pk_le 10 i (fun z => by omega) (fun _ => ⟨pu_in (by omega) (by decide), pu_in (by omega) (by decide), ?_⟩)
            refine m_hard T f1 hs ?_
            rw [nI_clamp (n := s) (by omega), g1, g2, T.ju hs, P.no s hs, ej, en]
            refine m_verd T f1 hj hn ((rg_add (T.hd hs) (⟨i, Nat.le_refl _, rfl⟩ : rg (nI i) i)).le (by omega)) (fun m2 f2 => ?_)
            have k := k m2 f2
            rw [← hF] at k
            refine ⟨fun cv => ?_, fun cv => ?_⟩
            · rintro _ rfl _ rfl
              rw [nI_1, Int32.add_zero]
              have k' := k
              simp only [if_neg cv] at k'
              exact k'
            · rintro _ rfl _ rfl
              rw [nI_1]
              have k' := k
              simp only [if_pos cv] at k'
              exact k'
        refine ⟨fun cy => ⟨z0, mod _ (fun m' f => ⟨?_, _, _, _, T.keep A.kX f⟩)⟩, fun cy => ⟨z0, mod _ (fun m' f => ⟨?_, _, _, _, T.keep A.kX f⟩)⟩⟩
        · rw [if_neg cy]
        · rw [if_pos cy]
      · intro f z i h' A hi k
        unfold wp_X11_likely_45 wp_X11_likely_92
        refine pk_le 10 i (fun z => by omega) (fun _ => ⟨pu_in (by omega) (by decide), pu_in (by omega) (by decide), ?_⟩)
        rw [nI_clamp (n := s) (by omega), A.1 9 (by decide) (by decide), A.1 45 (by decide) (by decide), ej, en]
        refine as_meas T A hj hn (fun h2 A2 _ _ _ => ?_)
        have k := k h2 A2
        rw [← hF] at k
        refine ⟨fun cv => ?_, fun cv => ?_⟩
        · rintro _ rfl
          rw [nI_1]
          have k' := k
          simp only [if_neg cv] at k'
          exact k'
        · rintro _ rfl _ rfl
          rw [nI_1]
          have k' := k
          simp only [if_pos cv] at k'
          exact k'
    · unfold wp_X12_likely
      rintro _ rfl
      exact mP_p P hs ((T.pend hs).mpr e) (br_n (by decide) (br_n c2 (br_n c3 ⟨rfl, _, _, _, T⟩)))
  · refine xP_n P c (br_p rfl ?_)
    unfold wp_X12_likely
    rintro _ rfl
    exact mP_n P (fun ⟨s, hs, e, k⟩ => c ⟨s, hs, e, (T.pend hs).mp k⟩) (br_p rfl ⟨rfl, _, _, _, T⟩)
