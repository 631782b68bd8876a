theorem SimP.notesTo {J N S : Nat} {h m h' m' : ck_H} (H : SimP J N S h m) (x : ∀ a, (a < 22 ∨ 26 < a) → h'.1 a = h.1 a) (x2 : h'.2 = h.2) (f : ∀ a i, (a < 35 ∨ 38 < a) → ¬ (a = 0 ∧ (i = 0 ∨ i = 62 ∨ i = 63)) → m'.1 a i = m.1 a i) (hn : sim_notes h' m' S) : SimP J N S h' m' := by
  have hr : ∀ a, a ≠ 0 → (a < 35 ∨ 38 < a) → m'.1 a = m.1 a := fun a h0 h1 => by
    funext i
    exact f a i h1 (by omega)
  have hf : ∀ i, i ≠ 0 → i ≠ 62 → i ≠ 63 → m'.1 0 i = m.1 0 i := fun i h0 h1 h2 => f 0 i (by omega) (by omega)
  have hM : ∀ b, Mv m' b = Mv m b := fun b => by
    unfold Mv Mf
    rw [hr 20 (by omega) (by omega), hr 21 (by omega) (by omega), hr 22 (by omega) (by omega), hr 23 (by omega) (by omega), hr 24 (by omega) (by omega), hr 25 (by omega) (by omega), hr 26 (by omega) (by omega), hr 27 (by omega) (by omega), hr 28 (by omega) (by omega), hf 50 (by omega) (by omega) (by omega)]
  have hT : ∀ o, o = 7 ∨ o = 12 → Tv h' o = Tv h o := fun o ho => by
    unfold Tv
    rw [x o (by omega), x (o + 1) (by omega), x (o + 2) (by omega), x (o + 3) (by omega), x (o + 4) (by omega), x 76 (by omega), x2]
  refine ⟨H.pr.kept (fun a h1 h2 => x a (by omega)) (fun a h1 h2 => hr a (by omega) (by omega)), ?_, ?_, ?_, ?_, ?_, ?_, ?_, ?_, hn, ?_, ?_⟩
  · rw [hM, hT 7 (by omega)]; exact H.now
  · rw [hM]; exact H.nz
  · rw [hT 7 (by omega)]; exact H.nok
  · rw [hT 7 (by omega)]; exact H.sd
  · exact H.img.kept (by rw [x 0 (by omega)]) (hf _ (by omega) (by omega) (by omega)) (by rw [hM]; exact TQ.rf _ _ _) (by rw [hM]; exact fun _ _ => rfl) (by rw [hT 12 (by omega)]; exact TQ.rf _ _ _)
  · rw [hf 46 (by omega) (by omega) (by omega), hf 47 (by omega) (by omega) (by omega), hf 48 (by omega) (by omega) (by omega), hf 49 (by omega) (by omega) (by omega)]; exact H.mode
  · exact H.tape.kept (by rw [x 0 (by omega)]) (x 1 (by omega)) (hf _ (by omega) (by omega) (by omega)) (hr _ (by omega) (by omega))
  · rw [x 0 (by omega), hf 28 (by omega) (by omega) (by omega), hf 29 (by omega) (by omega) (by omega)]; exact H.flt
  · exact H.deeds.kept (fun a h1 h2 => x a (by omega)) (hf _ (by omega) (by omega) (by omega)) (fun i hi => by rw [hM]; exact ⟨TQ.rf _ _ _, fun _ _ => rfl⟩) (by rw [hM]; exact TQ.rf _ _ _)
  · rw [x 4 (by omega)]; exact H.words
theorem SimP.tok {J N S : Nat} {h m : ck_H} (H : SimP J N S h m) : TOk 9900 J S (Mv m 0) := H.nok.q H.now.sy
theorem sim_known {J N S : Nat} {h m : ck_H} {x : Int32} (H : SimP J N S h m) : wp_X11_known x h (fun r h' => wp_X12_known x m (fun r' m' => r = r' ∧ Sim h' m')) := by
  have T := H.thr 0
  obtain ⟨c, n1, n2, n3, n4, n5, n6⟩ := T.notes
  unfold wp_X11_known wp_X12_known
  rw [n2]
  refine ⟨fun c1 => ?_, fun c1 => ⟨fun c2 => ?_, fun c2 => ?_⟩⟩
  · rintro _ rfl; exact br_p c1 ⟨rfl, _, _, _, T⟩
  · rintro _ rfl _ rfl
    rw [n3]
    refine br_n c1 (br_p c2 ?_)
    rintro _ rfl
    refine ⟨rfl, J, N, S, ?_⟩
    refine T.notesTo (fun a ha => ck_sI_ne _ _ _ (by omega)) rfl (fun a i h1 h2 => ?_) ⟨c, n1, ?_, ?_, ?_, ?_, ?_⟩
    · by_cases e : a = 0
      · subst e; exact ck_sI_nj _ _ (by omega)
      · rw [ck_sI_ne _ _ _ e]
    · rw [ck_sI_nj _ _ (by decide)]; exact n2
    · rw [ck_sI_nj _ _ (by decide)]; exact n3
    · rw [ck_sI_at, ck_sI_at]
    · rw [ck_sI_at]
      by_cases e : x < 0
      · left
        apply Int32.toInt_inj.mp
        have h1 : (-1 : Int32).toInt = -1 := by decide
        rw [Int32.lt_iff_toInt_lt] at e c1
        have h0 : (0 : Int32).toInt = 0 := by decide
        omega
      · right
        obtain ⟨j, j1, rfl⟩ := nI_of e
        exact ⟨j, by rw [nI_leI (by omega) (by omega)] at c2; exact c2, rfl⟩
    · rw [ck_sI_ne _ _ _ (by decide), ck_sI_ne _ _ _ (by decide), ck_sI_ne _ _ _ (by decide), ck_sI_ne _ _ _ (by decide), ck_sI_ne _ _ _ (by decide), ck_sI_ne _ _ _ (by decide), ck_sI_ne _ _ _ (by decide), ck_sI_ne _ _ _ (by decide)]
      exact n6
  · rintro _ rfl
    rw [n3]
    exact br_n c1 (br_n c2 ⟨rfl, _, _, _, T⟩)
theorem tx_add {Q : Int32 → ck_H → Prop} {c : Nat} {h : ck_H} {s v b k : Int32} (hc : c < 24) (e : h.1 22 5 = nI c)
    (q : ∀ h', (∀ a, (a < 22 ∨ 26 < a) → h'.1 a = h.1 a) → h'.2 = h.2 → h'.1 22 5 = nI (c + 1) → h'.1 22 6 = h.1 22 6 → h'.1 23 = upd (h.1 23) c s → h'.1 24 = upd (h.1 24) c v → h'.1 25 = upd (h.1 25) c (vp_nar .boolean b) → h'.1 26 = upd (h.1 26) c k → Q (nI c) h') : wp_X6_add s v b k h Q := by
  have i24 : vp_in (nI c) 24 := pu_in hc (by decide)
  have ec : (nI c).toNatClampNeg = c := nI_clamp (by omega)
  unfold wp_X6_add
  rw [e]
  refine br_p (nI_lt (b := 24) hc (by decide)) ⟨i24, ?_⟩
  rintro _ rfl
  rw [ck_sI_ne _ _ _ (by decide : 22 ≠ 23), e]
  refine ⟨i24, ?_⟩
  rintro _ rfl
  rw [ck_sI_ne _ _ _ (by decide : 22 ≠ 24), ck_sI_ne _ _ _ (by decide : 22 ≠ 23), e]
  refine ⟨i24, ?_⟩
  rintro _ rfl
  rw [ck_sI_ne _ _ _ (by decide : 22 ≠ 25), ck_sI_ne _ _ _ (by decide : 22 ≠ 24), ck_sI_ne _ _ _ (by decide : 22 ≠ 23), e]
  refine ⟨i24, ?_⟩
  rintro _ rfl
  rw [ck_sI_ne _ _ _ (by decide : 22 ≠ 26), ck_sI_ne _ _ _ (by decide : 22 ≠ 25), ck_sI_ne _ _ _ (by decide : 22 ≠ 24), ck_sI_ne _ _ _ (by decide : 22 ≠ 23), e, ec, nI_1]
  rintro _ rfl
  rw [ck_sI_at, pu_s1 (by omega), show c + 1 - 1 = c by omega]
  refine q _ (fun a ha => ?_) rfl ?_ ?_ ?_ ?_ ?_ ?_
  · rw [ck_sI_ne _ _ _ (by omega), ck_sI_ne _ _ _ (by omega), ck_sI_ne _ _ _ (by omega), ck_sI_ne _ _ _ (by omega), ck_sI_ne _ _ _ (by omega)]
  · rw [ck_sI_at]
  · simp [ck_sI, upd]
  · simp [ck_sI]
  · simp [ck_sI]
  · simp [ck_sI]
  · simp [ck_sI]
theorem sim_notes.add {h m h' m' : ck_H} {S c : Nat} (hc : c < 24) (n2 : h'.1 22 5 = nI (c + 1)) (n3 : m'.1 0 62 = nI (c + 1)) (n4 : h'.1 22 6 = m'.1 0 63) (n5 : h'.1 22 6 = -1 ∨ rg (h'.1 22 6) c)
    (n6 : ∀ i, i < c → m.1 38 i = h.1 26 i ∧ ((h.1 26 i = -1 ∧ m.1 35 i = h.1 23 i ∧ (∃ s, s < S ∧ h.1 23 i = nI s) ∧ m.1 36 i = h.1 24 i ∧ m.1 37 i = h.1 25 i) ∨ ∃ k, k < i ∧ h.1 26 i = nI k))
    (o : ∀ i, i < c → h'.1 23 i = h.1 23 i ∧ h'.1 24 i = h.1 24 i ∧ h'.1 25 i = h.1 25 i ∧ h'.1 26 i = h.1 26 i ∧ m'.1 35 i = m.1 35 i ∧ m'.1 36 i = m.1 36 i ∧ m'.1 37 i = m.1 37 i ∧ m'.1 38 i = m.1 38 i)
    (nw : m'.1 38 c = h'.1 26 c ∧ ((h'.1 26 c = -1 ∧ m'.1 35 c = h'.1 23 c ∧ (∃ s, s < S ∧ h'.1 23 c = nI s) ∧ m'.1 36 c = h'.1 24 c ∧ m'.1 37 c = h'.1 25 c) ∨ ∃ k, k < c ∧ h'.1 26 c = nI k)) : sim_notes h' m' S := by
  refine ⟨c + 1, by omega, n2, n3, n4, n5.imp_right (fun z => z.le (by omega)), fun i hi => ?_⟩
  by_cases e : i = c
  · subst e; exact nw
  · obtain ⟨o1, o2, o3, o4, o5, o6, o7, o8⟩ := o i (by omega)
    rw [o1, o2, o3, o4, o5, o6, o7, o8]
    exact n6 i (by omega)
theorem sim_note {J N S : Nat} {h m : ck_H} {x y b : Int32} (H : SimP J N S h m) : wp_X11_note x y b h (fun r h' => wp_X12_note x y b m (fun r' m' => r = r' ∧ Sim h' m')) := by
  have T := H.thr 0
  have P := T.pr
  have h10 := P.hS
  obtain ⟨c, n1, n2, n3, n4, n5, n6⟩ := T.notes
  unfold wp_X11_note wp_X12_note
  by_cases hs : ∃ s, s < S ∧ x = nI s
  · obtain ⟨s, hs, rfl⟩ := hs
    refine xS_p P hs (br_n (by decide) ⟨fun c1 => ?_, fun c1 => ⟨fun c2 => ?_, fun c2 => ?_⟩⟩)
    · rintro _ rfl
      exact mS_p P hs (br_n (by decide) (br_p c1 ⟨rfl, _, _, _, T⟩))
    · by_cases cc : c < 24
      · refine tx_add cc n2 (fun h' x1 x2 x3 x4 x5 x6 x7 x8 => ?_)
        rintro _ rfl
        refine mS_p P hs (br_n (by decide) (br_n c1 (br_n (Int32.not_lt.mpr c2) (br_m ?_ ?_))))
        · rw [n3]; intro z; rw [show (24 : Int32) = nI 24 from rfl, nI_eq (by omega) (by omega)] at z; omega
        have i24 : vp_in (nI c) 24 := pu_in cc (by decide)
        generalize hm1 : ck_sI m 0 0 0 = m1 at *
        rw [n3, nI_clamp (n := c) (by omega)]
        refine ⟨i24, ?_⟩
        rintro _ rfl
        rw [ck_sI_ne _ _ _ (by decide : 0 ≠ 35), n3, nI_clamp (n := c) (by omega)]
        refine ⟨i24, ?_⟩
        rintro _ rfl
        rw [ck_sI_ne _ _ _ (by decide : 0 ≠ 36), ck_sI_ne _ _ _ (by decide : 0 ≠ 35), n3, nI_clamp (n := c) (by omega)]
        refine ⟨i24, ?_⟩
        rintro _ rfl
        rw [ck_sI_ne _ _ _ (by decide : 0 ≠ 37), ck_sI_ne _ _ _ (by decide : 0 ≠ 36), ck_sI_ne _ _ _ (by decide : 0 ≠ 35), n3, nI_clamp (n := c) (by omega)]
        refine ⟨i24, ?_⟩
        rintro _ rfl
        rw [ck_sI_ne _ _ _ (by decide : 0 ≠ 38), ck_sI_ne _ _ _ (by decide : 0 ≠ 37), ck_sI_ne _ _ _ (by decide : 0 ≠ 36), ck_sI_ne _ _ _ (by decide : 0 ≠ 35), n3, nI_1]
        rintro _ rfl
        rw [ck_sI_at, pu_s1 (by omega), show c + 1 - 1 = c by omega]
        refine ⟨rfl, J, N, S, T.notesTo x1 x2 (fun a i h1 h2 => ?_) (sim_notes.add (h := h) (m := m1) cc x3 (ck_sI_at _ _ _ _) ?_ (by rw [x4]; exact n5) n6 (fun i hi => ?_) ?_)⟩
        · by_cases e : a = 0
          · subst e; rw [ck_sI_nj _ _ (by omega), ck_sI_ne _ _ _ (by omega), ck_sI_ne _ _ _ (by omega), ck_sI_ne _ _ _ (by omega), ck_sI_ne _ _ _ (by omega)]
          · rw [ck_sI_ne _ _ _ e, ck_sI_ne _ _ _ (by omega), ck_sI_ne _ _ _ (by omega), ck_sI_ne _ _ _ (by omega), ck_sI_ne _ _ _ (by omega)]
        · rw [x4, n4]; simp [ck_sI, upd]
        · have e : i ≠ c := by omega
          rw [x5, x6, x7, x8]
          simp [ck_sI, upd, e]
        · rw [x5, x6, x7, x8]
          refine ⟨by simp [ck_sI, upd], Or.inl ⟨by simp [upd], by simp [ck_sI, upd], ⟨s, hs, by simp [upd]⟩, by simp [ck_sI, upd], by simp [ck_sI, upd]⟩⟩
      · have e24 : c = 24 := by omega
        unfold wp_X6_add
        rw [n2]
        refine br_n (nI_nlt (b := 24) (by omega) (by omega)) ?_
        rintro _ rfl
        refine mS_p P hs (br_n (by decide) (br_n c1 (br_n (Int32.not_lt.mpr c2) (br_q ?_ ⟨rfl, _, _, _, T⟩))))
        rw [n3, e24]; rfl
    · rintro _ rfl
      exact mS_p P hs (br_n (by decide) (br_n c1 (br_p (Int32.not_le.mp c2) ⟨rfl, _, _, _, T⟩)))
  · refine xS_n P hs (br_p rfl ?_)
    rintro _ rfl
    exact mS_n P hs (br_p rfl ⟨rfl, _, _, _, T⟩)
theorem sim_out {J N S : Nat} {h m : ck_H} {x : Int32} (H : SimP J N S h m) : wp_X11_out x h (fun r h' => wp_X12_out x m (fun r' m' => r = r' ∧ Sim h' m')) := by
  have T := H.thr 0
  have P := T.pr
  obtain ⟨c, n1, n2, n3, n4, n5, n6⟩ := T.notes
  unfold wp_X11_out wp_X12_out
  rw [n2]
  refine ⟨fun c1 => ?_, fun c1 => ⟨fun c2 => ?_, fun c2 => ?_⟩⟩
  · rintro _ rfl; exact br_p c1 ⟨rfl, _, _, _, T⟩
  · obtain ⟨k, k1, rfl⟩ := nI_of c1
    have hk : k < c := by rw [nI_ltI (by omega) (by omega)] at c2; exact c2
    by_cases cc : c < 24
    · refine tx_add cc n2 (fun h' x1 x2 x3 x4 x5 x6 x7 x8 => ?_)
      rintro _ rfl
      generalize hm1 : ck_sI m 0 0 0 = m1 at *
      rw [n3]
      refine br_n c1 (br_n (nI_ge hk (by omega)) (br_m ?_ ?_))
      · intro z; rw [show (24 : Int32) = nI 24 from rfl, nI_eq (by omega) (by omega)] at z; omega
      refine ⟨pu_in cc (by decide), ?_⟩
      rintro _ rfl
      rw [ck_sI_ne _ _ _ (by decide : 0 ≠ 38), n3, nI_1, nI_clamp (n := c) (by omega)]
      rintro _ rfl
      rw [ck_sI_at, pu_s1 (by omega), show c + 1 - 1 = c by omega]
      refine ⟨rfl, J, N, S, T.notesTo x1 x2 (fun a i h1 h2 => ?_) (sim_notes.add (h := h) (m := m1) cc x3 (ck_sI_at _ _ _ _) ?_ (by rw [x4]; exact n5) n6 (fun i hi => ?_) ?_)⟩
      · by_cases e : a = 0
        · subst e; rw [ck_sI_nj _ _ (by omega), ck_sI_ne _ _ _ (by omega)]
        · rw [ck_sI_ne _ _ _ e, ck_sI_ne _ _ _ (by omega)]
      · rw [x4, n4]; simp [ck_sI, upd]
      · have e : i ≠ c := by omega
        rw [x5, x6, x7, x8]
        simp [ck_sI, upd, e]
      · rw [x5, x6, x7, x8]
        exact ⟨by simp [ck_sI, upd], Or.inr ⟨k, hk, by simp [upd]⟩⟩
    · have e24 : c = 24 := by omega
      unfold wp_X6_add
      rw [n2]
      refine br_n (nI_nlt (b := 24) (by omega) (by omega)) ?_
      rintro _ rfl
      rw [n3]
      refine br_n c1 (br_n (nI_ge hk (by omega)) (br_q ?_ ⟨rfl, _, _, _, T⟩))
      rw [e24]; rfl
  · rintro _ rfl
    rw [n3]
    exact br_n c1 (br_p (Int32.not_lt.mp c2) ⟨rfl, _, _, _, T⟩)
