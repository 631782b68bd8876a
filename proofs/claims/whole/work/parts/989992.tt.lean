/-- the model's end of a text that is bad -/
theorem mm_endB {J N S f : Nat} {tt : Tk} {h m m1 h' : ck_H} (H : SimP J N S h m) (F : ∀ a i, ¬ (a = 0 ∧ (i = 0 ∨ i = 2 ∨ (21 ≤ i ∧ i ≤ 27))) → ¬ alw a i → m1.1 a i = m.1 a i) (e2 : m1.1 0 2 = 0) (B : MFt f tt m1)
    (x : ∀ a, (a = 4 ∨ (7 ≤ a ∧ a ≤ 16) ∨ (22 ≤ a ∧ a ≤ 26) ∨ (28 ≤ a ∧ a ≤ 52) ∨ a = 76) → h'.1 a = h.1 a) (x14 : h'.1 0 14 = h.1 0 14) (x2 : h'.2 = h.2) (x11 : h'.1 0 11 = 0) (x12 : h'.1 0 12 = nI f) (x13 : h'.1 0 13 = nI tt.2.2.1) : wp_X12_text_149 (fun r' m' => -1 = r' ∧ Sim h' m') m1 := by
  unfold wp_X12_text_149
  rintro _ rfl _ rfl
  have n0 := B.n0
  have e26 : (ck_sI (ck_sI m1 0 28 (m1.1 0 26)) 0 29 ((ck_sI m1 0 28 (m1.1 0 26)).1 0 27)).1 0 26 = m1.1 0 26 := by rw [ck_sI_nj _ _ (by omega), ck_sI_nj _ _ (by omega)]
  rw [e26]
  refine br_n n0 ⟨rfl, J, N, S, ?_⟩
  have g : ∀ a i, ¬ (a = 0 ∧ (i = 28 ∨ i = 29)) → (ck_sI (ck_sI m1 0 28 (m1.1 0 26)) 0 29 ((ck_sI m1 0 28 (m1.1 0 26)).1 0 27)).1 a i = m1.1 a i := fun a i z => by
    by_cases c : a = 0
    · subst c; rw [ck_sI_nj _ _ (by omega), ck_sI_nj _ _ (by omega)]
    · rw [ck_sI_ne _ _ _ c, ck_sI_ne _ _ _ c]
  refine H.txt x x14 x2 (fun a i a1 a2 hi => ?_) (fun a a1 a2 => funext (fun i => ?_)) (fun i hi => ?_) ⟨x11, ?_⟩ ⟨?_, ?_⟩
  · rw [g a i (by omega), F a i (by omega) (fun y => by unfold alw at y; omega)]
  · rw [g a i (by omega), F a i (by omega) (fun y => by unfold alw at y; omega)]
  · rw [g 0 i (by omega), F 0 i (by omega) (fun y => by unfold alw at y; omega)]
  · rw [g 0 2 (by omega)]; exact e2
  · rw [x12, ck_sI_nj _ _ (by omega), ck_sI_at]; exact B.2.2.1.symm
  · rw [x13, ck_sI_at, ck_sI_nj _ _ (by omega)]; exact B.2.2.2.symm
/-- the model's end of a good text -/
theorem mm_endG {b : Nat → Nat} {n J N S J' N' S' : Nat} {u : List (Nat × Nat)} {tt : Tk} {h m m1 hF H : ck_H} (H0 : SimP J' N' S' h m) (F : ∀ a i, ¬ (a = 0 ∧ (i = 0 ∨ i = 2 ∨ (21 ≤ i ∧ i ≤ 27))) → ¬ alw a i → m1.1 a i = m.1 a i) (e2 : m1.1 0 2 = 0) (C : MT b n tt m1) (R : rdD J N S u hF m1)
    (xD : ∀ a, 53 ≤ a → a ≤ 72 → H.1 a = hF.1 a)
    (c7 : H.1 7 4 = 0 ∧ H.1 7 5 = 0 ∧ H.1 7 6 = H.1 53 12 ∧ H.1 7 7 = 0) (c8 : ∀ j, j < 4 → H.1 8 j = H.1 57 j) (c9 : ∀ s, s < 10 → H.1 9 s = H.1 65 s ∧ H.1 10 s = H.1 67 s ∧ H.1 11 s = -1)
    (x2 : H.2 = h.2) (x14 : H.1 0 14 = 0) (x11 : H.1 0 11 = 0) (x12 : H.1 0 12 = 0) (x13 : H.1 0 13 = -1) (x22 : H.1 22 5 = 0 ∧ H.1 22 6 = -1) (x28 : H.1 28 3 = 0) (wd : ∀ i, i < 19 → H.1 4 i = ck_words i) : wp_X12_text_149 (fun r' m' => H.1 53 17 = r' ∧ Sim (swH H) m') m1 := by
  unfold wp_X12_text_149
  have z26 := C.2.2.2
  have z27 := C.1.2.1.2 z26
  intro m2 em2 m3 em3
  have g : ∀ a i, ¬ (a = 0 ∧ (i = 28 ∨ i = 29)) → m3.1 a i = m1.1 a i := fun a i z => by
    by_cases c : a = 0
    · subst c; rw [em3, ck_sI_nj _ _ (by omega), em2, ck_sI_nj _ _ (by omega)]
    · rw [em3, ck_sI_ne _ _ _ c, em2, ck_sI_ne _ _ _ c]
  have v28 : m3.1 0 28 = 0 := by rw [em3, ck_sI_nj _ _ (by omega), em2, ck_sI_at]; exact z26
  have v29 : m3.1 0 29 = -1 := by rw [em3, ck_sI_at, em2, ck_sI_nj _ _ (by omega)]; exact z27
  refine br_p (by rw [g 0 26 (by omega)]; exact z26) ?_
  refine (HV.rf m3).st (k := 2) (by omega) (by omega) (fun _ V => V.st (by omega) (by omega) (fun _ V => V.st (by omega) (by omega) (fun _ V => V.st (by omega) (by omega) (fun _ V => V.st (by omega) (by omega) (fun _ V => V.st (by omega) (by omega) (fun _ V => V.st (by omega) (by omega) (fun _ V => V.st (by omega) (by omega) (fun _ V => V.st (by omega) (by omega) (fun _ V => V.st (by omega) (by omega) (fun _ V => V.st (by omega) (by omega) (fun _ V => V.st (by omega) (by omega) (fun _ V => V.st (by omega) (by omega) (fun _ V => V.st (by omega) (by omega) (fun _ V => V.st (by omega) (by omega) (fun _ V => V.st (by omega) (by omega) (fun m4 V => ?_))))))))))))))))
  have V : HV 18 m3 m4 := V
  intro m5 em5 m6 em6 m7 em7 m8 em8
  have k0 : ∀ i, ¬ (i = 44 ∨ i = 45 ∨ i = 62 ∨ i = 63) → m8.1 0 i = m3.1 0 i := fun i hi => by
    rw [em8, ck_sI_nj _ _ (by omega), em7, ck_sI_nj _ _ (by omega), em6, ck_sI_nj _ _ (by omega), em5, ck_sI_nj _ _ (by omega), V.1 0 (by omega)]
  have kr : ∀ a, a ≠ 0 → m8.1 a = m4.1 a := fun a ha => by
    rw [em8, ck_sI_ne _ _ _ ha, em7, ck_sI_ne _ _ _ ha, em6, ck_sI_ne _ _ _ ha, em5, ck_sI_ne _ _ _ ha]
  have P : PR (swH H) m8 J N S := rd_PR R xD (fun a j a1 a2 hj => by rw [kr a (by omega), V.2 a j a1 (by omega) hj, g a _ (by omega)])
  have km : ∀ i, ¬ (i = 0 ∨ i = 2 ∨ (19 ≤ i ∧ i ≤ 31)) → ¬ (i = 44 ∨ i = 45 ∨ i = 62 ∨ i = 63) → m8.1 0 i = m.1 0 i := fun i h1 h2 => by
    rw [k0 i h2, g 0 i (by omega), F 0 i (by omega) (fun y => by unfold alw at y; omega)]
  have nw := H0.now.2.2.2
  have nw : (m.1 0 50).toInt64 = h.2 74 11 := nw
  obtain ⟨d, d1, d2⟩ := H0.sd
  have d2 : h.2 74 11 = (nI d).toInt64 := d2
  have m50 : m.1 0 50 = nI d := by
    have h3 : (m.1 0 50).toInt64 = (nI d).toInt64 := nw.trans d2
    rw [← i64_i32 (m.1 0 50), h3, i64_i32]
  refine SimP.new P c7 c8 c9 ⟨d, d1, ?_, ?_⟩ ⟨x14, ?_⟩ ?_ ⟨x11, ?_⟩ ⟨?_, ?_⟩ ⟨x22.1, x22.2, ?_, ?_⟩ ⟨x28, ?_⟩ wd (fun m' e20 SS => ⟨?_, J, N, S, SS⟩)
  · rw [km 50 (by omega) (by omega)]; exact m50
  · rw [x2]; exact d2
  · rw [em8, ck_sI_nj _ _ (by omega), em7, ck_sI_at]
  · rw [km 46 (by omega) (by omega), km 47 (by omega) (by omega), km 48 (by omega) (by omega), km 49 (by omega) (by omega)]; exact H0.mode
  · rw [k0 2 (by omega), g 0 2 (by omega)]; exact e2
  · rw [k0 28 (by omega), v28]; exact x12
  · rw [k0 29 (by omega), v29]; exact x13
  · rw [em8, ck_sI_nj _ _ (by omega), em7, ck_sI_nj _ _ (by omega), em6, ck_sI_nj _ _ (by omega), em5, ck_sI_at]
  · rw [em8, ck_sI_nj _ _ (by omega), em7, ck_sI_nj _ _ (by omega), em6, ck_sI_at]
  · rw [em8, ck_sI_at]
  · rw [e20, k0 20 (by omega), g 0 20 (by omega), ← R.2.2.2.2.2, xD 53 (by omega) (by omega)]
theorem sim_text {J N S : Nat} {h m : ck_H} {x : Int32} (H : SimP J N S h m) : wp_X11_text x h (fun sw r h' => wp_X12_text x m (fun r' m' => r = r' ∧ Sim (cond sw (swH h') h') m')) := by
  obtain ⟨k, k35, t11, t2, tb⟩ := H.tape
  have no : (x < 0 ∨ ¬ x ≤ nI (20 * k)) → wp_X12_text x m (fun r' m' => -2 = r' ∧ Sim (cond false (swH h) h) m') := by
    intro z
    unfold wp_X12_text
    rintro _ rfl
    have ok : Sim (cond false (swH h) h) (ck_sI m 0 0 0) := ⟨J, N, S, H.thr 0⟩
    refine ⟨fun _ => ⟨rfl, ok⟩, fun c => br_n ?_ ⟨rfl, ok⟩⟩
    rw [ck_sI_nj _ _ (by omega), t2]
    exact z.resolve_left c
  unfold wp_X11_text
  refine ⟨fun c => no (Or.inl c), fun c => ⟨fun d => ?_, fun d => no (Or.inr (by rw [t11] at d; exact d))⟩⟩
  rw [t11] at d
  obtain ⟨n, n1, rfl⟩ := nI_of2 (nI_toInt (n := 20 * k) (by omega)) c d
  rintro _ rfl
  have bm : ∀ i, i < n → (m.1 1 i).toNatClampNeg < 256 ∧ h.1 1 i = sb_b (m.1 1 i).toNatClampNeg ∧ m.1 1 i = nI (m.1 1 i).toNatClampNeg := fun i hi => by
    obtain ⟨v, v1, v2, v3⟩ := tb i (by omega)
    rw [v3, nI_clamp (n := v) (by omega)]
    exact ⟨v1, v2, rfl⟩
  -- the model, once the class has told how the text goes
  have MM : ∀ (P : Int32 → ck_H → Prop) (h0 : ck_H) (k' g : Nat) (tt : Tk) (hF : ck_H), rdZ h0 → k' ≤ 700 → LR (fun i => (m.1 1 i).toNatClampNeg) n k' (tk_A (fun i => (m.1 1 i).toNatClampNeg) n 0) h0 g tt hF →
      (∀ m', (∀ a i, ¬ (a = 0 ∧ (i = 0 ∨ i = 2 ∨ (21 ≤ i ∧ i ≤ 27))) → ¬ alw a i → m'.1 a i = m.1 a i) → m'.1 0 2 = 0 → ((g = 0 ∧ MT (fun i => (m.1 1 i).toNatClampNeg) n tt m' ∧ ∃ J N S u, rdD J N S u hF m') ∨ MFt g tt m') → wp_X12_text_149 P m') → wp_X12_text (nI n) m P := by
    intro P h0 k' g tt hF Z k7 L q
    unfold wp_X12_text
    rintro _ rfl
    refine br_n c (br_p ?_ ?_)
    · rw [ck_sI_nj _ _ (by omega), t2]; exact d
    refine mm_bgn (b := fun i => (m.1 1 i).toNatClampNeg) (n := n) (m := ck_sI m 0 0 0) (by omega) (fun i hi => ⟨(bm i hi).1, ?_⟩) (fun m1 G e2 rd C => ?_)
    · rw [ck_sI_ne _ _ _ (by omega)]; exact (bm i hi).2.2
    refine mm_loopT k' lpN _ h0 m1 0 0 0 [] g tt hF L C (rd h0 Z) (by unfold lpN; omega) (fun m2 F2 E => q m2 (fun a i z1 z2 => ?_) ?_ E)
    · rw [F2 a i (by omega) z2, G a i (by omega) z2]
      by_cases ca : a = 0
      · subst ca; exact ck_sI_nj _ _ (by omega)
      · rw [ck_sI_ne _ _ _ ca]
    · rw [F2 0 2 (by omega) (fun y => by unfold alw at y; omega)]; exact e2
  refine tx_read (b := fun i => (m.1 1 i).toNatClampNeg) (n := n) (by omega) (fun i hi => ⟨(bm i hi).1, ?_⟩) (fun i hi => ?_) (fun h0 k' g tt hF Z k7 L F E => ?_)
  · rw [ck_sI_ne _ _ _ (by omega)]; exact (bm i hi).2.1
  · rw [ck_sI_ne _ _ _ (by omega)]; exact H.words i hi
  have FF : ∀ a, a ≠ 0 → a ≠ 2 → a ≠ 3 → a ≠ 5 → a ≠ 6 → (a < 53 ∨ 72 < a) → hF.1 a = h.1 a := fun a a0 a2 a3 a5 a6 a7 => by rw [F.1 a a2 a3 a5 a6 a7, ck_sI_ne _ _ _ a0]
  have F0 : hF.1 0 = (ck_sI h 0 11 0).1 0 := F.1 0 (by omega) (by omega) (by omega) (by omega) (by omega)
  rintro _ rfl
  rcases E with ⟨rfl, C⟩ | B
  · refine br_q (ck_sI_at ..) ?_
    unfold wp_X11_text_55
    intro h10 e10
    have v12 : h10.1 0 12 = 0 := by rw [e10, ck_sI_nj _ _ (by omega), ck_sI_at]; rfl
    have v13 : h10.1 0 13 = -1 := by rw [e10, ck_sI_at]
    have v11 : h10.1 0 11 = 0 := by rw [e10, ck_sI_nj _ _ (by omega), ck_sI_nj _ _ (by omega), F0, ck_sI_at]
    have r10 : ∀ a, a ≠ 0 → h10.1 a = hF.1 a := fun a ha => by rw [e10, ck_sI_ne _ _ _ ha, ck_sI_ne _ _ _ ha]
    refine br_p v12 (tx_bg (o := 7) (o1 := 53) (Or.inl rfl) (by omega) (fun h12 f1 f2 f3 f4 f5 => ?_))
    unfold wp_X6_clear
    intro h13 e13 h14 e14
    unfold wp_X2_clear
    intro h15 e15 h16 e16
    have r16 : ∀ a, a ≠ 0 → a ≠ 22 → a ≠ 28 → h16.1 a = h12.1 a := fun a a0 a22 a28 => by rw [e16, ck_sI_ne _ _ _ a0, e15, ck_sI_ne _ _ _ a28, e14, ck_sI_ne _ _ _ a22, e13, ck_sI_ne _ _ _ a22]
    have q0 : ∀ i, i ≠ 14 → h16.1 0 i = h10.1 0 i := fun i hi => by rw [e16, ck_sI_nj _ _ hi, e15, ck_sI_ne _ _ _ (by omega), e14, ck_sI_ne _ _ _ (by omega), e13, ck_sI_ne _ _ _ (by omega), f1 0 (by omega)]
    have D : ∀ a, 53 ≤ a → h16.1 a = h10.1 a := fun a ha => by rw [r16 a (by omega) (by omega) (by omega), f1 a (by omega)]
    refine MM _ h0 k' 0 tt hF Z k7 L (fun m1 Fm e2 Em => ?_)
    rcases Em with ⟨_, Cm, J1, N1, S1, u1, R⟩ | B
    · refine mm_endG H Fm e2 Cm R (fun a a1 a2 => by rw [D a a1, r10 a (by omega)]) ?_ (fun j hj => ?_) (fun s hs => ?_) ?_ ?_ ?_ ?_ ?_ ⟨?_, ?_⟩ ?_ (fun i hi => ?_)
      · rw [r16 7 (by omega) (by omega) (by omega), D 53 (by omega)]; exact f3
      · rw [r16 8 (by omega) (by omega) (by omega), D 57 (by omega)]; exact f4 j hj
      · rw [r16 9 (by omega) (by omega) (by omega), r16 10 (by omega) (by omega) (by omega), r16 11 (by omega) (by omega) (by omega), D 65 (by omega), D 67 (by omega)]; exact f5 s hs
      · rw [e16, e15, e14, e13]
        show h12.2 = h.2
        rw [f2, e10]
        show hF.2 = h.2
        exact F.2
      · rw [e16, ck_sI_at]
      · rw [q0 11 (by omega)]; exact v11
      · rw [q0 12 (by omega)]; exact v12
      · rw [q0 13 (by omega)]; exact v13
      · rw [e16, ck_sI_ne _ _ _ (by omega), e15, ck_sI_ne _ _ _ (by omega), e14, ck_sI_nj _ _ (by omega), e13, ck_sI_at]
      · rw [e16, ck_sI_ne _ _ _ (by omega), e15, ck_sI_ne _ _ _ (by omega), e14, ck_sI_at]
      · rw [e16, ck_sI_ne _ _ _ (by omega), e15, ck_sI_at]
      · rw [r16 4 (by omega) (by omega) (by omega), f1 4 (by omega), r10 4 (by omega), FF 4 (by omega) (by omega) (by omega) (by omega) (by omega) (by omega)]; exact H.words i hi
    · have := B.1; omega
  · have n0 : ¬ nI g = 0 := nI_ne0 (by have := B.1; omega) (by have := B.2.1; omega)
    refine br_m (by rw [ck_sI_at]; exact n0) ?_
    unfold wp_X9_place wp_X11_text_55
    intro h10 e10
    have v12 : h10.1 0 12 = nI g := by rw [e10, ck_sI_nj _ _ (by omega), ck_sI_at]
    have v13 : h10.1 0 13 = nI tt.2.2.1 := by rw [e10, ck_sI_at, ck_sI_ne _ _ _ (by omega)]; exact B.2.2.2
    have v11 : h10.1 0 11 = 0 := by rw [e10, ck_sI_nj _ _ (by omega), ck_sI_nj _ _ (by omega), F0, ck_sI_at]
    have v14 : h10.1 0 14 = h.1 0 14 := by rw [e10, ck_sI_nj _ _ (by omega), ck_sI_nj _ _ (by omega), F0, ck_sI_nj _ _ (by omega)]
    have r10 : ∀ a, a ≠ 0 → h10.1 a = hF.1 a := fun a ha => by rw [e10, ck_sI_ne _ _ _ ha, ck_sI_ne _ _ _ ha]
    refine br_n (by rw [v12]; exact n0) ?_
    refine MM _ h0 k' g tt hF Z k7 L (fun m1 Fm e2 Em => ?_)
    rcases Em with ⟨z, _⟩ | Bm
    · have := B.1; omega
    · refine mm_endB H Fm e2 Bm (fun a ha => ?_) v14 ?_ v11 v12 v13
      · show h10.1 a = h.1 a
        rw [r10 a (by omega), FF a (by omega) (by omega) (by omega) (by omega) (by omega) (by omega)]
      · show h10.2 = h.2
        rw [e10]
        show hF.2 = h.2
        exact F.2
