theorem pu_ix4 (b j : Nat) : (4 : Int32) * nI b + nI j = nI (4 * b + j) := by
  rw [show (4 : Int32) = nI 4 from rfl, pk_mul, nI_add]
theorem pu_ix10 (b j : Nat) : (10 : Int32) * nI b + nI j = nI (10 * b + j) := by
  rw [show (10 : Int32) = nI 10 from rfl, pk_mul, nI_add]
/-- the laws of the class and of the model are the same -/
def sp_LR (h m : ck_H) : Prop := ∀ k, k < 3 → ∃ a b : Nat, h.1 50 k = nI a ∧ h.1 51 k = nI b ∧ m.1 14 k = nI a ∧ m.1 15 k = nI b ∧ ev_lawOk (h.1 48) a b ∧ ∀ j, a ≤ j → j < b → ev_kr (h.1 48 j) (h.1 49 j) (m.1 16 j) (m.1 17 j)
theorem sp_LR.ok {h m : ck_H} (H : sp_LR h m) : sp_OkL h := fun k hk => by
  obtain ⟨a, b, h1, h2, -, -, h3, -⟩ := H k hk
  exact ⟨a, b, h1, h2, h3⟩
def ck_fM (m m' : ck_H) : Prop := (∀ a, a ≠ 0 → m'.1 a = m.1 a) ∧ ∀ i, i ≠ 34 → m'.1 0 i = m.1 0 i
theorem ck_fM.rf (m : ck_H) : ck_fM m m := ⟨fun _ _ => rfl, fun _ _ => rfl⟩
theorem ck_fM.of {m m' : ck_H} (e : m'.1 = m.1) : ck_fM m m' := ⟨fun _ _ => by rw [e], fun _ _ => by rw [e]⟩
theorem ck_fM.tr {m m' m'' : ck_H} (h1 : ck_fM m m') (h2 : ck_fM m' m'') : ck_fM m m'' := ⟨fun a ha => (h2.1 a ha).trans (h1.1 a ha), fun i hi => (h2.2 i hi).trans (h1.2 i hi)⟩
theorem ck_fM.m2 (m : ck_H) (n : Int32) (st : Nat → Int64) : ck_fM m (ck_m2 m n st) := ⟨fun a ha => ck_m2_1 _ _ _ ha, fun i hi => by simp [ck_m2, ck_s2, ck_sI, upd, hi]⟩
theorem sp_LR.kept {h m m' : ck_H} (H : sp_LR h m) (hf : ck_fM m m') : sp_LR h m' := fun k hk => by
  obtain ⟨a, b, h1, h2, h3, h4, h5, h6⟩ := H k hk
  refine ⟨a, b, h1, h2, ?_, ?_, h5, ?_⟩
  · rw [hf.1 14 (by decide)]; exact h3
  · rw [hf.1 15 (by decide)]; exact h4
  · rw [hf.1 16 (by decide), hf.1 17 (by decide)]; exact h6
theorem i64_lt (a b : Int32) : a.toInt64 < b.toInt64 ↔ a < b := by
  rw [Int64.lt_iff_toInt_lt, Int32.lt_iff_toInt_lt, Int32.toInt_toInt64, Int32.toInt_toInt64]
theorem i64_i32 (a : Int32) : a.toInt64.toInt32 = a := by simp
theorem sp_clampM {v : Int64} {lo hi : Int32} (hlh : ¬ hi < lo) : (if (if v < hi.toInt64 then v else hi.toInt64) < lo.toInt64 then lo.toInt64 else (if v < hi.toInt64 then v else hi.toInt64)).toInt32 = sp_clamp v lo hi := by
  unfold sp_clamp
  by_cases c1 : v < hi.toInt64
  · rw [if_pos c1]
    by_cases c2 : v < lo.toInt64
    · rw [if_pos c2, if_pos c2, i64_i32]
    · rw [if_neg c2, if_neg c2, if_neg (fun z => Int64.lt_irrefl (Int64.lt_trans c1 z))]
  · rw [if_neg c1, if_neg (fun z => hlh ((i64_lt _ _).mp z)), i64_i32]
    have c3 : ¬ v < lo.toInt64 := fun z => by
      have z1 := Int64.lt_iff_toInt_lt.mp z
      have z2 := Int64.le_iff_toInt_le.mp (Int64.not_lt.mp c1)
      have z3 := Int32.le_iff_toInt_le.mp (Int32.not_lt.mp hlh)
      rw [Int32.toInt_toInt64] at z1 z2
      omega
    rw [if_neg c3]
    by_cases c4 : hi.toInt64 < v
    · rw [if_pos c4]
    · rw [if_neg c4]
      have e : v = hi.toInt64 := Int64.le_antisymm (Int64.not_lt.mp c4) (Int64.not_lt.mp c1)
      rw [e, i64_i32]
theorem mm_within {h m : ck_H} {k : Nat} {nm : Nat → Int64} {lo hi pl : Int32} {Q : Int32 → ck_H → Prop} (hk : k < 3) (hlh : ¬ hi < lo) (hLR : sp_LR h m) (hnr : ev_nr nm (m.2 18)) (hq : ∀ m', ck_fM m m' → Q (sp_by (sp_law h k nm) lo hi pl) m') : wp_X12_within (nI k) lo hi pl m Q := by
  obtain ⟨a, b, h1, h2, h3, h4, hok, hkr⟩ := hLR k hk
  have hab := hok.1
  have hb64 := hok.2.1
  have ek : (nI k).toNatClampNeg = k := nI_clamp (by omega)
  have el : sp_law h k nm = ev_law (h.1 48) (h.1 49) nm a b := by
    unfold sp_law
    rw [h1, h2, nI_clamp (by omega), nI_clamp (by omega)]
  rw [el] at hq
  unfold wp_X12_within wp_X12_hasLaw
  rw [ek, h3, h4]
  refine ⟨pu_in (by omega) (by omega), pu_in (by omega) (by omega), fun c => ⟨fun _ => ?_, fun z => absurd rfl z⟩, fun c => ⟨fun z => absurd z (by decide), fun _ => ?_⟩⟩
  · have e : a = b := by
      rcases Nat.lt_or_ge a b with q | q
      · exact absurd c (nI_ge q (by omega))
      · omega
    have := hq m (ck_fM.rf m)
    rw [ev_law, if_pos (by omega)] at this
    exact this
  · have hlt : a < b := by
      rcases Nat.lt_or_ge a b with q | q
      · exact q
      · exact absurd (nI_le q (by omega)) c
    refine ev_goes (kd := h.1 48) (nb := h.1 49) (nm := nm) hk hlt h3 h4 hok hkr hnr (fun hn n st => ?_) (fun v hv n st hst => ?_)
    · have := hq (ck_m2 m n st) (ck_fM.m2 m n st)
      rw [hn] at this
      exact ⟨fun z => absurd rfl z, fun _ => this⟩
    · have := hq (ck_m2 m n st) (ck_fM.m2 m n st)
      rw [hv] at this
      refine ⟨fun _ => ?_, fun z => absurd z (by decide)⟩
      rw [ck_m2_s, hst, sp_clampM hlh]
      exact this
def sp_nmM (m : ck_H) (b j n : Nat) (hd : Int32) : Nat → Int64 := sp_nm (m.1 4 j) (m.1 24 (4 * b + j)) hd (m.1 9 n) (m.1 21 b) (m.1 25 (4 * b + j)) (m.1 20 b)
theorem mm_calls {m : ck_H} {b j n : Nat} {hd : Int32} {Q : ck_H → Prop} (hb : b < 23) (hj : j < 4) (hn : n < 6) (hq : ∀ m', m'.1 = m.1 → ev_nr (sp_nmM m b j n hd) (m'.2 18) → Q m') : wp_X12_calls (nI b) (nI j) (nI n) hd m Q := by
  have ej : (nI j).toNatClampNeg = j := nI_clamp (by omega)
  have en : (nI n).toNatClampNeg = n := nI_clamp (by omega)
  have eb : (nI b).toNatClampNeg = b := nI_clamp (by omega)
  have e4 : (nI (4 * b + j)).toNatClampNeg = 4 * b + j := nI_clamp (by omega)
  unfold wp_X12_calls
  rw [pu_ix4, ej, en, eb, e4]
  refine ⟨pu_in (by omega) (by omega), ?_⟩
  rintro _ rfl
  refine ⟨pu_in (by omega) (by omega), ?_⟩
  rintro _ rfl _ rfl
  refine ⟨pu_in (by omega) (by omega), ?_⟩
  rintro _ rfl
  refine ⟨pu_in (by omega) (by omega), ?_⟩
  rintro _ rfl
  refine ⟨pu_in (by omega) (by omega), ?_⟩
  rintro _ rfl
  refine ⟨pu_in (by omega) (by omega), ?_⟩
  rintro _ rfl
  refine hq _ rfl ?_
  simp only [ck_sL_1, ck_sL_at, vp_updL, ev_nr]
  simp [sp_nmM, sp_nm]
theorem mm_force {h m : ck_H} {b j n : Nat} {hd : Int32} {Q : Int32 → ck_H → Prop} (hb : b < 23) (hj : j < 4) (hn : n < 6) (hLR : sp_LR h m)
    (hq : ∀ m', ck_fM m m' → Q (sp_force (sp_law h 0 (sp_nmM m b j n hd)) (m.1 4 j) (m.1 21 b) (m.1 24 (4 * b + j)) (m.1 0 46 = 4)) m') : wp_X12_forceOf (nI b) (nI j) (nI n) hd m Q := by
  have ej : (nI j).toNatClampNeg = j := nI_clamp (by omega)
  have eb : (nI b).toNatClampNeg = b := nI_clamp (by omega)
  have e4 : (nI (4 * b + j)).toNatClampNeg = 4 * b + j := nI_clamp (by omega)
  unfold wp_X12_forceOf
  refine mm_calls hb hj hn (fun m1 e1 hnr => ⟨pu_in (by omega) (by omega), pu_in (by omega) (by omega), ?_⟩)
  refine mm_within (h := h) (k := 0) (by decide) (by decide) (hLR.kept (ck_fM.of e1)) hnr (fun m2 hf => ?_)
  rw [pu_ix4, ej, eb, e4, hf.1 24 (by decide), hf.2 46 (by decide), e1]
  refine ⟨pu_in (by omega) (by omega), ?_⟩
  have hq := hq m2 ((ck_fM.of e1).tr hf)
  unfold sp_force at hq
  refine ⟨fun c => ?_, fun c => ⟨fun c2 => ?_, fun c2 => ?_⟩⟩
  · rw [if_neg (fun z => c z.1)] at hq; exact hq
  · rw [if_neg (fun z => z.2 c2)] at hq; exact hq
  · rw [if_pos ⟨c, c2⟩] at hq; exact hq
theorem mm_slack {h m : ck_H} {b j n : Nat} {hd : Int32} {Q : Int32 → ck_H → Prop} (hb : b < 23) (hj : j < 4) (hn : n < 6) (hLR : sp_LR h m)
    (hq : ∀ m', ck_fM m m' → Q (sp_by (sp_law h 1 (sp_nmM m b j n hd)) 1 99 10) m') : wp_X12_slackOf (nI b) (nI j) (nI n) hd m Q := by
  unfold wp_X12_slackOf
  refine mm_calls hb hj hn (fun m1 e1 hnr => ?_)
  exact mm_within (h := h) (k := 1) (by decide) (by decide) (hLR.kept (ck_fM.of e1)) hnr (fun m2 hf => hq m2 ((ck_fM.of e1).tr hf))
