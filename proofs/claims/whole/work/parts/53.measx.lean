theorem ck_sL_1 (h : ck_H) (k j : Nat) (v : Int64) : (ck_sL h k j v).1 = h.1 := rfl
theorem ck_s2_1 (h : ck_H) (k : Nat) (f : Nat → Int64) : (ck_s2 h k f).1 = h.1 := rfl
theorem ck_s2_at (h : ck_H) (k : Nat) (f : Nat → Int64) : (ck_s2 h k f).2 k = f := by simp [ck_s2]
theorem ck_s2_ne (h : ck_H) {k a : Nat} (f : Nat → Int64) (e : a ≠ k) : (ck_s2 h k f).2 a = h.2 a := by simp [ck_s2, e]
theorem ck_sI_at (h : ck_H) (k j : Nat) (v : Int32) : (ck_sI h k j v).1 k j = v := by simp [ck_sI, upd]
theorem ck_sI_row (h : ck_H) (k j : Nat) (v : Int32) : (ck_sI h k j v).1 k = upd (h.1 k) j v := by simp [ck_sI]
theorem ck_sI_nj (h : ck_H) {k j i : Nat} (v : Int32) (e : i ≠ j) : (ck_sI h k j v).1 k i = h.1 k i := by simp [ck_sI, upd, e]
theorem ck_sI_ne (h : ck_H) {k a : Nat} (j : Nat) (v : Int32) (e : a ≠ k) : (ck_sI h k j v).1 a = h.1 a := by simp [ck_sI, e]
theorem ck_sI_2 (h : ck_H) (k j : Nat) (v : Int32) : (ck_sI h k j v).2 = h.2 := rfl
/-- the class's laws are well made -/
def sp_OkL (h : ck_H) : Prop := ∀ k, k < 3 → ∃ a b : Nat, h.1 50 k = nI a ∧ h.1 51 k = nI b ∧ ev_lawOk (h.1 48) a b
def sp_law (h : ck_H) (k : Nat) (nm : Nat → Int64) : Option Int64 := ev_law (h.1 48) (h.1 49) nm (h.1 50 k).toNatClampNeg (h.1 51 k).toNatClampNeg
theorem sp_worked {h : ck_H} {k : Nat} {nm : Nat → Int64} {Q : Int64 → ck_H → Prop} (hk : k < 3) (hL : sp_OkL h) (hn : ∀ i, i < 7 → h.2 75 i = nm i) (hq : ∀ st, Q ((sp_law h k nm).getD ev_err) (ck_s2 h 52 st)) : wp_X4_worked (nI k) h Q := by
  obtain ⟨a, b, ha, hb, hok⟩ := hL k hk
  have e : sp_law h k nm = ev_law (h.1 48) (h.1 49) (h.2 75) a b := by
    unfold sp_law
    rw [ha, hb, nI_clamp (by have := hok.1; have := hok.2.1; omega), nI_clamp (by have := hok.2.1; omega)]
    exact (ev_law_nm hok hn).symm
  exact ev_worked hk ha hb hok (fun st => by rw [← e]; exact hq st)
theorem sp_law_ne {h : ck_H} {k : Nat} {nm : Nat → Int64} (hk : k < 3) (hL : sp_OkL h) (hn : ∀ i, i < 7 → ¬ nm i = ev_err) : ¬ sp_law h k nm = some ev_err := by
  obtain ⟨a, b, ha, hb, hok⟩ := hL k hk
  unfold sp_law
  rw [ha, hb, nI_clamp (by have := hok.1; have := hok.2.1; omega), nI_clamp (by have := hok.2.1; omega)]
  exact ev_law_ne hok hn
/-- the branch behind worked: a law's value, or not -/
theorem sp_got {o : Option Int64} {h : ck_H} {lo hi pl : Int32} {A B : Prop} {Q : Int32 → ck_H → Prop} (hne : ¬ o = some ev_err) (hq : Q (sp_by o lo hi pl) h) (hA : ∀ v, Q (sp_clamp v lo hi) h → o = some v → A) (hB : Q pl h → B) :
    (¬ (lg_cmp (o.getD ev_err) (-9223372036854775808 : Int64)) = 0 → ((∀ v, o = some v → A) → A)) ∧ ((lg_cmp (o.getD ev_err) (-9223372036854775808 : Int64)) = 0 → o = none) := by
  cases o with
  | none => exact ⟨fun c => absurd ((lg_cmp_eq _ _).mpr rfl) c, fun _ => rfl⟩
  | some v =>
    refine ⟨fun _ k => k v rfl, fun c => ?_⟩
    have e : v = ev_err := (lg_cmp_eq _ _).mp c
    exact absurd (by rw [e]) hne
theorem me_215 {Q : Int32 → ck_H → Prop} {o : Nat} {hd sl : Int32} {H : ck_H} (hq : Q (sp_verd (H.1 74 3) sl hd) (ck_sI H 74 4 sl)) : wp_X10_measured_215 Q o hd sl H := by
  unfold wp_X10_measured_215
  rintro _ rfl
  rw [ck_sI_at, ck_sI_nj H sl (by decide)]
  unfold sp_verd at hq
  refine ⟨fun c => ?_, fun c => ?_⟩
  · rintro _ rfl
    rw [if_neg (Int32.not_lt.mpr c)] at hq
    refine ⟨fun c2 => ⟨fun c3 => ?_, fun c3 => ?_⟩, fun c2 => ?_⟩
    · rw [if_neg (Int32.not_lt.mpr c2), if_neg (Int32.not_lt.mpr c3)] at hq; exact hq
    · rw [if_neg (Int32.not_lt.mpr c2), if_pos (Int32.not_le.mp c3)] at hq; exact hq
    · rw [if_pos (Int32.not_le.mp c2)] at hq; exact hq
  · rw [if_pos (Int32.not_le.mp c)] at hq; exact hq
theorem me_175 {Q : Int32 → ck_H → Prop} {o : Nat} {hd : Int32} {H : ck_H} {nm : Nat → Int64} (hL : sp_OkL H) (hn : ∀ i, i < 7 → H.2 75 i = nm i) (hne : ∀ i, i < 7 → ¬ nm i = ev_err)
    (hq : ∀ st, Q (sp_verd (H.1 74 3) (sp_by (sp_law H 1 nm) 1 99 10) hd) (ck_sI (ck_s2 H 52 st) 74 4 (sp_by (sp_law H 1 nm) 1 99 10))) : wp_X10_measured_175 Q o hd H := by
  unfold wp_X10_measured_175
  refine sp_worked (k := 1) (by decide) hL hn (fun st => ?_)
  have hq := hq st
  have h9 := sp_law_ne (k := 1) (by decide) hL hne
  cases e : sp_law H 1 nm with
  | none =>
    rw [e] at hq
    exact ⟨fun c => absurd ((lg_cmp_eq _ _).mpr rfl) c, fun _ => me_215 hq⟩
  | some v =>
    rw [e] at hq h9
    refine ⟨fun _ => sp_within (me_215 hq), fun c => absurd (by rw [show v = ev_err from (lg_cmp_eq _ _).mp c]) h9⟩
def ck_fX (h h' : ck_H) : Prop := (∀ a, a ≠ 74 → h'.1 a = h.1 a) ∧ (∀ i, i ≠ 3 → i ≠ 4 → h'.1 74 i = h.1 74 i) ∧ h'.2 74 = h.2 74
theorem me_146 {Q : Int32 → ck_H → Prop} {o j : Nat} {hd pf : Int32} {H : ck_H} {nm : Nat → Int64} (ho : o + 1 ≠ 74) (hj : j < 4) (hL : sp_OkL H) (hn : ∀ i, i < 7 → H.2 75 i = nm i) (hne : ∀ i, i < 7 → ¬ nm i = ev_err)
    (hq : ∀ h', ck_fX H h' → h'.1 74 3 = (if H.1 (o + 1) j = 0 ∧ ¬ ¬ H.1 74 7 = 0 then pf / 2 else pf) → h'.1 74 4 = sp_by (sp_law H 1 nm) 1 99 10 → (∀ i, i < 7 → h'.2 75 i = nm i) → Q (sp_verd (if H.1 (o + 1) j = 0 ∧ ¬ ¬ H.1 74 7 = 0 then pf / 2 else pf) (sp_by (sp_law H 1 nm) 1 99 10) hd) h') : wp_X10_measured_146 Q o (nI j) hd pf H := by
  unfold wp_X10_measured_146
  rintro _ rfl
  rw [nI_clamp (by omega), ck_sI_ne H 3 pf ho, ck_sI_nj H pf (show (7 : Nat) ≠ 3 by decide)]
  refine ⟨pu_in hj (by decide), ?_⟩
  have key : ∀ f, f = (if H.1 (o + 1) j = 0 ∧ ¬ ¬ H.1 74 7 = 0 then pf / 2 else pf) → ∀ H2 : ck_H, H2.2 = H.2 → (∀ a, a ≠ 74 → H2.1 a = H.1 a) → (∀ i, i ≠ 3 → H2.1 74 i = H.1 74 i) → H2.1 74 3 = f → wp_X10_measured_175 Q o hd H2 := by
    intro f hf H2 e2 e1 e74 e3
    have hlaw : ∀ k, sp_law H2 k nm = sp_law H k nm := fun k => by unfold sp_law; rw [e1 48 (by decide), e1 49 (by decide), e1 50 (by decide), e1 51 (by decide)]
    refine me_175 (nm := nm) (fun k hk => by rw [e1 48 (by decide), e1 50 (by decide), e1 51 (by decide)]; exact hL k hk) (fun i hi => by rw [e2]; exact hn i hi) hne (fun st => ?_)
    rw [e3, hlaw, hf]
    refine hq _ ⟨fun a ha => ?_, fun i h3 h4 => ?_, ?_⟩ ?_ ?_ ?_
    · rw [ck_sI_ne _ _ _ ha, ck_s2_1, e1 a ha]
    · rw [ck_sI_nj _ _ h4, ck_s2_1, e74 i h3]
    · rw [ck_sI_2, ck_s2_ne _ _ (by decide), e2]
    · rw [ck_sI_nj _ _ (by decide), ck_s2_1, e3, hf]
    · rw [ck_sI_at]
    · intro i hi
      rw [ck_sI_2, ck_s2_ne _ _ (by decide), e2]
      exact hn i hi
  refine ⟨fun c => ?_, fun c => ⟨fun c2 => ?_, fun c2 => ?_⟩⟩
  · exact key pf (by rw [if_neg (fun z => c z.1)]) _ rfl (fun a ha => ck_sI_ne _ _ _ ha) (fun i hi => ck_sI_nj _ _ hi) (ck_sI_at _ _ _ _)
  · exact key pf (by rw [if_neg (fun z => z.2 c2)]) _ rfl (fun a ha => ck_sI_ne _ _ _ ha) (fun i hi => ck_sI_nj _ _ hi) (ck_sI_at _ _ _ _)
  · rintro _ rfl
    rw [ck_sI_at]
    exact key (pf / 2) (by rw [if_pos ⟨c, fun z => z c2⟩]) _ rfl (fun a ha => by rw [ck_sI_ne _ _ _ ha, ck_sI_ne _ _ _ ha]) (fun i hi => by rw [ck_sI_nj _ _ hi, ck_sI_nj _ _ hi]) (ck_sI_at _ _ _ _)
/-- the names that a judge at a nut is measured by -/
def sp_nmX (h : ck_H) (o j n : Nat) (hd : Int32) : Nat → Int64 := sp_nm (h.1 35 j) (h.1 (o + 1) j) hd (h.1 41 n) (h.1 o 6) (h.1 76 j) (h.1 o 5)
def sp_fX (h : ck_H) (o j n : Nat) (hd : Int32) : Int32 := sp_force (sp_law h 0 (sp_nmX h o j n hd)) (h.1 35 j) (h.1 o 6) (h.1 (o + 1) j) (¬ h.1 74 7 = 0)
def sp_sX (h : ck_H) (o j n : Nat) (hd : Int32) : Int32 := sp_by (sp_law h 1 (sp_nmX h o j n hd)) 1 99 10
theorem me_X {Q : Int32 → ck_H → Prop} {o j n : Nat} {hd : Int32} {h : ck_H} (ho : o + 1 ≠ 74) (hj : j < 4) (hn : n < 6) (hL : sp_OkL h)
    (hq : ∀ h', ck_fX h h' → h'.1 74 3 = sp_fX h o j n hd → h'.1 74 4 = sp_sX h o j n hd → (∀ i, i < 7 → h'.2 75 i = sp_nmX h o j n hd i) → Q (sp_verd (sp_fX h o j n hd) (sp_sX h o j n hd) hd) h') : wp_X10_measured o (nI j) (nI n) hd h Q := by
  have ej : (nI j).toNatClampNeg = j := nI_clamp (by omega)
  have en : (nI n).toNatClampNeg = n := nI_clamp (by omega)
  unfold wp_X10_measured
  rw [ej, en]
  refine ⟨pu_in hj (by decide), ?_⟩
  rintro _ rfl
  refine ⟨pu_in hj (by decide), ?_⟩
  rintro _ rfl _ rfl
  refine ⟨pu_in hn (by decide), ?_⟩
  rintro _ rfl _ rfl
  refine ⟨pu_in hj (by decide), ?_⟩
  rintro _ rfl _ rfl
  simp only [ck_sL_1]
  generalize hH : ck_sL _ 75 6 _ = H
  have e1 : H.1 = h.1 := by rw [← hH]; rfl
  have hnm : ∀ i, i < 7 → H.2 75 i = sp_nmX h o j n hd i := by
    intro i hi
    rw [← hH]
    simp only [ck_sL_at, vp_updL]
    rcases (show i = 0 ∨ i = 1 ∨ i = 2 ∨ i = 3 ∨ i = 4 ∨ i = 5 ∨ i = 6 by omega) with rfl | rfl | rfl | rfl | rfl | rfl | rfl <;> simp [sp_nmX, sp_nm]
  have e74 : H.2 74 = h.2 74 := by rw [← hH]; simp [ck_sL]
  have hL' : sp_OkL H := by unfold sp_OkL; rw [e1]; exact hL
  have hne : ∀ i, i < 7 → ¬ sp_nmX h o j n hd i = ev_err := fun i _ => sp_nm_ne i
  have hlaw : ∀ k nm, sp_law H k nm = sp_law h k nm := fun k nm => by unfold sp_law; rw [e1]
  refine sp_worked (k := 0) (by decide) hL' hnm (fun st => ?_)
  have h9 := sp_law_ne (k := 0) (nm := sp_nmX h o j n hd) (by decide) hL' hne
  have fin : ∀ pf, pf = sp_by (sp_law h 0 (sp_nmX h o j n hd)) 0 999 (h.1 35 j * h.1 o 6 / 50) → wp_X10_measured_146 Q o (nI j) hd pf (ck_s2 H 52 st) := by
    intro pf hpf
    refine me_146 (nm := sp_nmX h o j n hd) ho hj hL' (fun i hi => by rw [ck_s2_ne _ _ (by decide)]; exact hnm i hi) hne (fun h' hf e3 e4 e75 => ?_)
    rw [ck_s2_1, e1, hpf] at e3 ⊢
    rw [show sp_law (ck_s2 H 52 st) 1 (sp_nmX h o j n hd) = sp_law h 1 (sp_nmX h o j n hd) from hlaw 1 _] at e4 ⊢
    refine hq h' ⟨fun a ha => ?_, fun i h3 h4 => ?_, ?_⟩ e3 e4 e75
    · rw [hf.1 a ha, ck_s2_1, e1]
    · rw [hf.2.1 i h3 h4, ck_s2_1, e1]
    · rw [hf.2.2, ck_s2_ne _ _ (by decide), e74]
  cases e : sp_law H 0 (sp_nmX h o j n hd) with
  | none =>
    refine ⟨fun c => absurd ((lg_cmp_eq _ _).mpr rfl) c, fun _ => ⟨pu_in hj (by decide), ?_⟩⟩
    rw [ck_s2_1, e1]
    exact fin _ (by rw [← hlaw, e]; rfl)
  | some v =>
    rw [e] at h9
    refine ⟨fun _ => sp_within (fin _ (by rw [← hlaw, e]; rfl)), fun c => absurd (by rw [show v = ev_err from (lg_cmp_eq _ _).mp c]) h9⟩
