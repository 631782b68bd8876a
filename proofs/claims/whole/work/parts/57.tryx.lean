theorem sp_force_iff {o : Option Int64} {jaw lev teeth : Int32} {u v : Prop} [Decidable u] [Decidable v] (e : u ↔ v) : sp_force o jaw lev teeth u = sp_force o jaw lev teeth v := by
  unfold sp_force
  by_cases c : teeth = 0 ∧ ¬ u
  · rw [if_pos c, if_pos ⟨c.1, fun z => c.2 (e.mpr z)⟩]
  · rw [if_neg c, if_neg (fun z => c ⟨z.1, fun y => z.2 (e.mp y)⟩)]
theorem T_fo_X (h : ck_H) (o j n : Nat) (hd : Int32) : T_fo (pl h) (mdX h) (Tv h o) j n hd = sp_fX h o j n hd := by
  unfold T_fo sp_fX
  refine sp_force_iff ?_
  show decide (¬ h.1 74 7 = 0) = true ↔ _
  simp
theorem T_sl_X (h : ck_H) (o j n : Nat) (hd : Int32) : T_sl (pl h) (Tv h o) j n hd = sp_sX h o j n hd := rfl
theorem T_v_X (h : ck_H) (o j n : Nat) (hd : Int32) : T_v (pl h) (mdX h) (Tv h o) j n hd = sp_verd (sp_fX h o j n hd) (sp_sX h o j n hd) hd := by
  unfold T_v
  rw [T_fo_X, T_sl_X]
theorem tx_wear61 {Q : ck_H → Prop} {o : Nat} {l w : Int32} {H : ck_H} (hq : Q (ck_sI H o 6 (if 1 ≤ l - w then l - w else 1))) : wp_X10_wear_61 Q o l w H := by
  unfold wp_X10_wear_61
  rintro _ rfl
  rw [ck_sI_at]
  refine ⟨fun c => ?_, fun c => ?_⟩
  · rw [if_pos c] at hq; exact hq
  · rintro _ rfl
    rw [if_neg c] at hq
    have e : ck_sI (ck_sI H o 6 (l - w)) o 6 1 = ck_sI H o 6 1 := by
      unfold ck_sI
      refine Prod.ext ?_ rfl
      funext a
      by_cases ea : a = o
      · subst ea
        funext i
        by_cases ei : i = 6 <;> simp [upd, ei]
      · simp [ea]
    rw [e]
    exact hq
theorem tx_wear {Q : ck_H → Prop} {o j : Nat} {nm : Nat → Int64} {H : ck_H} (hj : j < 4) (hL : sp_OkL H) (hn : ∀ i, i < 7 → (if i = 5 then (H.1 76 j).toInt64 else H.2 75 i) = nm i) (hne : ∀ i, i < 7 → ¬ nm i = ev_err) (ho : o ≠ 74)
    (hu : ¬ H.1 74 6 = 0 → Q H) (hq : H.1 74 6 = 0 → ∀ H2 : ck_H, H2.1 = H.1 → H2.2 74 = H.2 74 → Q (ck_sI H2 o 6 (if 1 ≤ H.1 o 6 - sp_by (sp_law H 2 nm) 0 9 1 then H.1 o 6 - sp_by (sp_law H 2 nm) 0 9 1 else 1))) : wp_X10_wear o (nI j) H Q := by
  unfold wp_X10_wear
  rw [nI_clamp (n := j) (by omega)]
  refine ⟨fun c => ⟨pu_in hj (by decide), ?_⟩, hu⟩
  rintro _ rfl
  have hq := hq c
  have hL' : sp_OkL (ck_sL H 75 5 (H.1 76 j).toInt64) := hL
  have hn' : ∀ i, i < 7 → (ck_sL H 75 5 (H.1 76 j).toInt64).2 75 i = nm i := fun i hi => by rw [ck_sL_at]; exact hn i hi
  have hlaw : ∀ k nm, sp_law (ck_sL H 75 5 (H.1 76 j).toInt64) k nm = sp_law H k nm := fun _ _ => rfl
  refine sp_worked (k := 2) (by decide) hL' hn' (fun st => ?_)
  have h9 := sp_law_ne (k := 2) (nm := nm) (by decide) hL' hne
  rw [hlaw] at h9 ⊢
  have hq := hq (ck_s2 (ck_sL H 75 5 (H.1 76 j).toInt64) 52 st) rfl (by rw [ck_s2_ne _ _ (by decide), ck_sL_ne _ _ _ (by decide)])
  cases e : sp_law H 2 nm with
  | none =>
    rw [e] at hq
    exact ⟨fun c => absurd ((lg_cmp_eq _ _).mpr rfl) c, fun _ => tx_wear61 hq⟩
  | some v =>
    rw [e] at hq h9
    exact ⟨fun _ => sp_within (tx_wear61 hq), fun c => absurd (by rw [show v = ev_err from (lg_cmp_eq _ _).mp c]) h9⟩
set_option maxHeartbeats 2000000 in
theorem tx_31 {Q : ck_H → Prop} {o s j n : Nat} {y0 y1 : Int32} {H : ck_H} (ho : o = 7 ∨ o = 17) (hs : s < 10) (hj : j < 4) (hn : n < 6) (en : H.1 45 s = nI n) (hL : sp_OkL H)
    (hq : ∀ h', Tv h' o = T_out (pl H) (mdX H) (Tv H o) s j n (y0 + y1) (H.2 74 11) → frT o H h' → Q h') : wp_X10_tryOne_31 Q o (nI s) (nI j) y0 y1 H := by
  have es : (nI s).toNatClampNeg = s := nI_clamp (by omega)
  have ej : (nI j).toNatClampNeg = j := nI_clamp (by omega)
  unfold wp_X10_tryOne_31
  rintro _ rfl
  rw [es, ej, en]
  refine ⟨pu_in hs (by decide), ?_⟩
  refine me_X (by omega) hj hn hL (fun h8 hf e3 e4 e75 => ?_)
  have hj' : vp_in (nI j) 4 := pu_in hj (by decide)
  refine ⟨pu_in hs (by decide), ?_⟩
  rintro _ rfl
  refine ⟨hj', hj', ?_⟩
  rintro _ rfl
  generalize hhd : y0 + y1 = hd at *
  unfold T_out at hq
  rw [T_v_X, T_fo_X, T_sl_X] at hq
  generalize hfo : sp_fX H o j n hd = fo at *
  generalize hsl : sp_sX H o j n hd = sl at *
  generalize hv : sp_verd fo sl hd = v at *
  have q7 := hf.1 7 (by decide); have q8 := hf.1 8 (by decide); have q9 := hf.1 9 (by decide); have q10 := hf.1 10 (by decide); have q11 := hf.1 11 (by decide)
  have q17 := hf.1 17 (by decide); have q18 := hf.1 18 (by decide); have q19 := hf.1 19 (by decide); have q20 := hf.1 20 (by decide); have q21 := hf.1 21 (by decide)
  have q76 := hf.1 76 (by decide)
  have q74 := hf.2.2
  have q6 : h8.1 74 6 = H.1 74 6 := hf.2.1 6 (by decide) (by decide)
  refine ⟨fun c => ?_, fun c => ?_⟩
  · rw [if_pos c] at hq
    have e3' : (ck_sI (ck_sI h8 (o + 4) s v) 76 j ((ck_sI h8 (o + 4) s v).1 76 j + 1)).1 74 3 = fo := by rcases ho with rfl | rfl <;> simp [ck_sI, e3]
    have e4' : (ck_sI (ck_sI h8 (o + 4) s v) 76 j ((ck_sI h8 (o + 4) s v).1 76 j + 1)).1 74 4 = sl := by rcases ho with rfl | rfl <;> simp [ck_sI, e4]
    have et : (ck_sI (ck_sI h8 (o + 4) s v) 76 j ((ck_sI h8 (o + 4) s v).1 76 j + 1)).1 (o + 1) j = H.1 (o + 1) j := by rcases ho with rfl | rfl <;> simp [ck_sI, q8, q18]
    rw [e3', e4', et]
    have stay : (¬ (¬ (hd - fo < 2 * sl) ∧ ¬ H.1 (o + 1) j ≤ 0)) → Q (ck_sI (ck_sI h8 (o + 4) s v) 76 j ((ck_sI h8 (o + 4) s v).1 76 j + 1)) := by
      intro cc
      refine hq _ ?_ ⟨fun a a1 a2 a3 a4 a5 => ?_, fun i i3 i4 => ?_⟩
      · have cc' : ¬ (¬ (hd - fo < 2 * sl) ∧ ¬ (Tv H o).2.1 j ≤ 0) := cc
        rw [if_neg cc']
        rcases ho with rfl | rfl <;> simp [Tv, ck_sI, q7, q8, q9, q10, q11, q17, q18, q19, q20, q21, q76, q74]
      · rw [ck_sI_ne _ _ _ a5, ck_sI_ne _ _ _ a3, hf.1 a a4]
      · rcases ho with rfl | rfl <;> simp [ck_sI, hf.2.1 i i3 i4]
    refine ⟨fun c2 => stay (fun z => z.1 c2), fun c2 => ⟨hj', fun c3 => stay (fun z => z.2 c3), fun c3 => ⟨hj', hj', ?_⟩⟩⟩
    rintro _ rfl _ rfl
    refine hq _ ?_ ⟨fun a a1 a2 a3 a4 a5 => ?_, fun i i3 i4 => ?_⟩
    · have cc : ¬ (hd - fo < 2 * sl) ∧ ¬ (Tv H o).2.1 j ≤ 0 := ⟨c2, c3⟩
      rw [if_pos cc]
      rcases ho with rfl | rfl <;> simp [Tv, ck_sI, q7, q8, q9, q10, q11, q17, q18, q19, q20, q21, q76, q74]
    · rw [ck_sI_ne _ _ _ a1, ck_sI_ne _ _ _ a2, ck_sI_ne _ _ _ a5, ck_sI_ne _ _ _ a3, hf.1 a a4]
    · rcases ho with rfl | rfl <;> simp [ck_sI, hf.2.1 i i3 i4]
  · rw [if_neg c] at hq
    have hrow : ∀ a, a ≠ 74 → a ≠ 76 → a ≠ o + 4 → (ck_sI (ck_sI h8 (o + 4) s v) 76 j ((ck_sI h8 (o + 4) s v).1 76 j + 1)).1 a = H.1 a := fun a a1 a2 a3 => by rw [ck_sI_ne _ _ _ a2, ck_sI_ne _ _ _ a3, hf.1 a a1]
    have q6' : (ck_sI (ck_sI h8 (o + 4) s v) 76 j ((ck_sI h8 (o + 4) s v).1 76 j + 1)).1 74 6 = H.1 74 6 := by rcases ho with rfl | rfl <;> simp [ck_sI, q6]
    have hld : (ck_sI (ck_sI h8 (o + 4) s v) 76 j ((ck_sI h8 (o + 4) s v).1 76 j + 1)).1 76 j = H.1 76 j + 1 := by rcases ho with rfl | rfl <;> simp [ck_sI, upd, q76]
    refine tx_wear (nm := T_nm1 (pl H) (Tv H o) j n hd) hj ?_ ?_ (fun i _ => sp_nm_ne i) (by omega) ?_ ?_
    · intro k hk
      rw [hrow 48 (by decide) (by decide) (by omega), hrow 50 (by decide) (by decide) (by omega), hrow 51 (by decide) (by decide) (by omega)]
      exact hL k hk
    · intro i hi
      rw [hld]
      rw [show (ck_sI (ck_sI h8 (o + 4) s v) 76 j ((ck_sI h8 (o + 4) s v).1 76 j + 1)).2 = h8.2 from rfl, e75 i hi]
      rcases (show i = 0 ∨ i = 1 ∨ i = 2 ∨ i = 3 ∨ i = 4 ∨ i = 5 ∨ i = 6 by omega) with rfl | rfl | rfl | rfl | rfl | rfl | rfl <;> simp [sp_nmX, T_nm1, sp_nm, pl, Tv]
    · intro c2
      rw [q6'] at c2
      refine hq _ ?_ ⟨fun a a1 a2 a3 a4 a5 => hrow a a4 a5 a3, fun i i3 i4 => ?_⟩
      · rw [if_pos (show (mdX H).1 = true by show decide (¬ H.1 74 6 = 0) = true; simp [c2])]
        rcases ho with rfl | rfl <;> simp [Tv, ck_sI, q7, q8, q9, q10, q11, q17, q18, q19, q20, q21, q76, q74]
      · rcases ho with rfl | rfl <;> simp [ck_sI, hf.2.1 i i3 i4]
    · intro c2 H2 e1 e2
      rw [q6'] at c2
      have hlw : sp_law (ck_sI (ck_sI h8 (o + 4) s v) 76 j ((ck_sI h8 (o + 4) s v).1 76 j + 1)) 2 (T_nm1 (pl H) (Tv H o) j n hd) = T_law (pl H) 2 (T_nm1 (pl H) (Tv H o) j n hd) := by
        unfold sp_law
        rw [hrow 48 (by decide) (by decide) (by omega), hrow 49 (by decide) (by decide) (by omega), hrow 50 (by decide) (by decide) (by omega), hrow 51 (by decide) (by decide) (by omega)]
        rfl
      rw [hlw, hrow o (by omega) (by omega) (by omega)]
      refine hq _ ?_ ⟨fun a a1 a2 a3 a4 a5 => ?_, fun i i3 i4 => ?_⟩
      · rw [if_neg (show ¬ (mdX H).1 = true by show ¬ decide (¬ H.1 74 6 = 0) = true; simp [c2])]
        have e2' : H2.2 74 = H.2 74 := e2.trans q74
        rcases ho with rfl | rfl <;> (simp [Tv, ck_sI, e1, e2', q7, q8, q9, q10, q11, q17, q18, q19, q20, q21, q76]; rfl)
      · rw [ck_sI_ne _ _ _ a1, e1, hrow a a4 a5 a3]
      · rw [ck_sI_ne _ _ _ (by omega), e1]
        rcases ho with rfl | rfl <;> simp [ck_sI, hf.2.1 i i3 i4]
