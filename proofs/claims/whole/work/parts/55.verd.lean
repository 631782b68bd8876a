/-- a number 0 .. n -/
def rg (x : Int32) (n : Nat) : Prop := ∃ a : Nat, a ≤ n ∧ x = nI a
theorem rg.le {x : Int32} {n n' : Nat} (h : rg x n) (hn : n ≤ n') : rg x n' := by obtain ⟨a, h1, h2⟩ := h; exact ⟨a, by omega, h2⟩
theorem rg_of {x : Int32} {n : Nat} (h1 : 0 ≤ x.toInt) (h2 : x.toInt ≤ n) (hn : n < 2 ^ 31) : rg x n := by
  refine ⟨x.toInt.toNat, by omega, ?_⟩
  apply Int32.toInt_inj.mp
  rw [nI_toInt (by omega)]
  omega
theorem sp_clamp_rg {v : Int64} {lo hi : Nat} (hlh : lo ≤ hi) (hhi : hi < 2 ^ 31) : ∃ a, lo ≤ a ∧ a ≤ hi ∧ sp_clamp v (nI lo) (nI hi) = nI a := by
  unfold sp_clamp
  by_cases c1 : v < (nI lo).toInt64
  · rw [if_pos c1]; exact ⟨lo, Nat.le_refl _, hlh, rfl⟩
  · rw [if_neg c1]
    by_cases c2 : (nI hi).toInt64 < v
    · rw [if_pos c2]; exact ⟨hi, hlh, Nat.le_refl _, rfl⟩
    · rw [if_neg c2]
      have z1 := Int64.le_iff_toInt_le.mp (Int64.not_lt.mp c1)
      have z2 := Int64.le_iff_toInt_le.mp (Int64.not_lt.mp c2)
      rw [Int32.toInt_toInt64, nI_toInt (by omega)] at z1 z2
      refine ⟨v.toInt.toNat, by omega, by omega, ?_⟩
      apply Int32.toInt_inj.mp
      rw [nI_toInt (by omega), Int64.toInt_toInt32]
      rw [Int.bmod_eq_of_le (by omega) (by omega)]
      omega
theorem sp_by_rg {o : Option Int64} {lo hi pl : Nat} (hlh : lo ≤ hi) (hhi : hi < 2 ^ 31) (h1 : lo ≤ pl) (h2 : pl ≤ hi) : ∃ a, lo ≤ a ∧ a ≤ hi ∧ sp_by o (nI lo) (nI hi) (nI pl) = nI a := by
  unfold sp_by
  cases o with
  | none => exact ⟨pl, h1, h2, rfl⟩
  | some v => exact sp_clamp_rg hlh hhi
theorem sp_force_rg {o : Option Int64} {jaw lev teeth : Int32} {uh : Prop} [Decidable uh] (hj : rg jaw 99) (hl : rg lev 99) : rg (sp_force o jaw lev teeth uh) 999 := by
  obtain ⟨a, ha, rfl⟩ := hj
  obtain ⟨b, hb, rfl⟩ := hl
  have hab : a * b ≤ 99 * 99 := Nat.mul_le_mul ha hb
  have e : nI a * nI b / 50 = nI (a * b / 50) := by
    rw [pk_mul, show (50 : Int32) = nI 50 from rfl, pk_div (by omega) (by omega) (by omega)]
  have hp : a * b / 50 ≤ 999 := by omega
  obtain ⟨f, -, hf, ef⟩ := sp_by_rg (o := o) (lo := 0) (hi := 999) (pl := a * b / 50) (by omega) (by omega) (by omega) hp
  unfold sp_force
  rw [e]
  rw [show sp_by o 0 999 (nI (a * b / 50)) = nI f from ef]
  split
  · refine ⟨f / 2, by omega, ?_⟩
    rw [show (2 : Int32) = nI 2 from rfl, pk_div (by omega) (by omega) (by omega)]
  · exact ⟨f, hf, rfl⟩
theorem sp_slack_rg (o : Option Int64) : ∃ a, 1 ≤ a ∧ a ≤ 99 ∧ sp_by o 1 99 10 = nI a := sp_by_rg (o := o) (lo := 1) (hi := 99) (pl := 10) (by omega) (by omega) (by omega) (by omega)
theorem sp_nmM_kept {m m' : ck_H} (hf : ck_fM m m') (b j n : Nat) (hd : Int32) : sp_nmM m' b j n hd = sp_nmM m b j n hd := by
  unfold sp_nmM
  rw [hf.1 4 (by decide), hf.1 24 (by decide), hf.1 9 (by decide), hf.1 21 (by decide), hf.1 25 (by decide), hf.1 20 (by decide)]
def sp_fM (h m : ck_H) (b j n : Nat) (hd : Int32) : Int32 := sp_force (sp_law h 0 (sp_nmM m b j n hd)) (m.1 4 j) (m.1 21 b) (m.1 24 (4 * b + j)) (m.1 0 46 = 4)
def sp_sM (h m : ck_H) (b j n : Nat) (hd : Int32) : Int32 := sp_by (sp_law h 1 (sp_nmM m b j n hd)) 1 99 10
theorem mm_verdict {h m : ck_H} {b j n : Nat} {hd : Int32} {Q : Int32 → ck_H → Prop} (hb : b < 23) (hj : j < 4) (hn : n < 6) (hLR : sp_LR h m) (hjw : rg (m.1 4 j) 99) (hlv : rg (m.1 21 b) 99) (hhd : rg hd 999)
    (hq : ∀ m', ck_fM m m' → Q (sp_verd (sp_fM h m b j n hd) (sp_sM h m b j n hd) hd) m') : wp_X12_verdictAt (nI b) (nI j) (nI n) hd m Q := by
  unfold wp_X12_verdictAt
  refine mm_force (h := h) hb hj hn hLR (fun m1 hf => ?_)
  rw [show sp_force (sp_law h 0 (sp_nmM m b j n hd)) (m.1 4 j) (m.1 21 b) (m.1 24 (4 * b + j)) (m.1 0 46 = 4) = sp_fM h m b j n hd from rfl]
  rintro _ rfl
  have hfr : rg (sp_fM h m b j n hd) 999 := sp_force_rg hjw hlv
  have hq' : ∀ m', ck_fM m m' → Q (sp_verd (sp_fM h m b j n hd) (sp_sM h m b j n hd) hd) m' := hq
  generalize sp_fM h m b j n hd = f at hfr hq' ⊢
  obtain ⟨a, ha, rfl⟩ := hfr
  obtain ⟨d, hd9, rfl⟩ := hhd
  unfold sp_verd at hq'
  refine ⟨fun c => ?_, fun c => ?_⟩
  · have hda : d ≤ a := by
      rcases Nat.lt_or_ge a d with q | q
      · exact absurd (pk_sneg (by omega) q) (Int32.not_lt.mpr c)
      · exact q
    refine mm_slack (h := h) hb hj hn (hLR.kept hf) (fun m2 hf2 => ?_)
    rw [sp_nmM_kept hf, show sp_by (sp_law h 1 (sp_nmM m b j n (nI d))) 1 99 10 = sp_sM h m b j n (nI d) from rfl]
    have hq := hq' m2 (hf.tr hf2)
    rw [if_neg (nI_nlt hda (by omega))] at hq
    refine ⟨fun c2 => ⟨fun c3 => ?_, fun c3 => ?_⟩, fun c2 => ?_⟩
    · rw [if_neg (Int32.not_lt.mpr c2), if_neg (Int32.not_lt.mpr c3)] at hq; exact hq
    · rw [if_neg (Int32.not_lt.mpr c2), if_pos (Int32.not_le.mp c3)] at hq; exact hq
    · rw [if_pos (Int32.not_le.mp c2)] at hq; exact hq
  · have hda : a < d := by
      rcases Nat.lt_or_ge a d with q | q
      · exact q
      · exact absurd (by rw [pk_sub q]; exact nI_pos' (by omega)) c
    have hq := hq' m1 hf
    rw [if_pos (nI_lt hda (by omega))] at hq
    exact hq
