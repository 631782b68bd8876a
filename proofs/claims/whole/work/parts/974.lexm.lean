theorem mm_token {b : Nat → Nat} {n a : Nat} {m : ck_H} {Q : ck_H → Prop} (L : LY b n m) (ha : a ≤ n) (e22 : m.1 0 22 = nI a) (q : ∀ m', FT m m' → CM' (tk_A b n a) m' → Q m') : wp_X12_token m Q := by
  have hn := L.1
  unfold wp_X12_token
  refine mm_ws (n - a) a lpN m (by unfold lpN; omega) (by omega) L e22 (fun m1 f1 a22 => ?_)
  have wl := tk_ws_le (b := b) (n := n) (n - a) a
  unfold tk_A at q
  generalize tk_ws b n (n - a) a = p at a22 wl q
  rw [a22]
  rintro _ rfl
  have f2 : FT m (ck_sI m1 0 23 (nI p)) := f1.tr (FT.set m1 _ (by decide) (by decide))
  have L2 := L.ft f2
  have e22' : (ck_sI m1 0 23 (nI p)).1 0 22 = nI p := by rw [ck_sI_nj _ _ (by decide)]; exact a22
  have e23' : (ck_sI m1 0 23 (nI p)).1 0 23 = nI p := ck_sI_at ..
  generalize ck_sI m1 0 23 (nI p) = Mz at f2 L2 e22' e23'
  have fin : ∀ m', FT Mz m' → CM' (tk_at b n p) m' → Q m' := fun m' f' c' => q m' (f2.tr f') c'
  refine mm_here L2 e22' (by omega) ?_
  by_cases hp : p < n
  · have b1 := (L2.2.2 p hp).1
    have hs := hr_sm (b := b) (n := n) (a := p) (fun c => (L2.2.2 p c).1)
    have hg := hr_dg (b := b) (n := n) (a := p) (fun c => (L2.2.2 p c).1)
    rw [if_pos hp] at hs hg ⊢
    refine br_m (nI_nm1 (by omega)) (mm_sm (fun c => br_n (by decide) ?_) (fun c => br_p rfl (mm_dg (fun c2 => br_n (by decide) ?_) (fun c2 => br_p rfl ?_))))
    · have sm := (hs.mp c).2
      refine mm_we (n - p) p lpN Mz (by unfold lpN; omega) (by omega) L2 e22' (fun m3 f3 c22 c23 => ?_)
      rw [e23'] at c23
      have we := tk_we_le (b := b) (n - p) p
      have wsm := tk_we_sm (b := b) (n - p) p
      have et : tk_at b n p = if 6 < tk_we b (n - p) p - p then (1, 0, p, tk_we b (n - p) p) else (tk_wd (tk_lt b p (tk_we b (n - p) p - p)) 19 0 3, tk_lt b p (tk_we b (n - p) p - p), p, tk_we b (n - p) p) := by
        unfold tk_at
        rw [if_neg (by omega), if_pos sm]
      rw [et] at fin
      generalize tk_we b (n - p) p = e at c22 we wsm fin
      have L3 := L2.ft f3
      unfold wp_X12_word
      have i6 : nI (e - p) ≤ (6 : Int32) ↔ e - p ≤ 6 := nI_leI (b := 6) (by omega) (by omega)
      refine mm_w4 L3 (p := p) (e := e) (by omega) (by omega) c23 c22 (fun w hw cw => ?_) (fun cw => ?_) 19 0 lpN (by decide) (by omega) (fun j hj => by omega)
      · obtain ⟨o1, o2, o3, o4, o5, o6, o7, o8⟩ := wm_ok w hw
        rintro _ rfl
        rw [ck_sI_at]
        refine br_n (nI_nm1 (by omega)) ?_
        unfold wp_X12_token_127
        rintro _ rfl
        rw [ck_sI_at]
        refine br_m (by decide) ?_
        rw [if_neg (by omega)] at fin
        rcases wm_sp (b := b) (p := p) (l := e - p) (by omega) (fun j hj => wsm (p + j) (by omega) (by omega)) with ⟨w2, hw2, cw2, k2⟩ | ⟨no, _⟩
        · have ew : w2 = w := by
            have h1 : tk_lt wm_c (wm_s w2) (wm_l w2) = tk_lt wm_c (wm_s w) (wm_l w) := by
              obtain ⟨u1, u2, u3, u4, u5, u6, u7, u8⟩ := wm_ok w2 hw2
              have z1 := (tk_lt_inj (b := b) (p := p) (l := e - p) (by omega) u4 (fun j hj => wsm (p + j) (by omega) (by omega)) u6).mpr cw2
              have z2 := (tk_lt_inj (b := b) (p := p) (l := e - p) (by omega) o4 (fun j hj => wsm (p + j) (by omega) (by omega)) o6).mpr cw
              rw [← z1, ← z2]
            have h2 : ck_words (wm_x w2) = ck_words (wm_x w) := by rw [(wm_ok w2 hw2).2.2.2.2.2.2.1, o7, h1]
            have h3 := wx_inj _ (wm_ok w2 hw2).2.2.2.2.2.2.2 _ o8 h2
            have h4 := tk_codx w2 hw2
            rw [h3, tk_codx w hw] at h4
            exact h4.symm
          subst ew
          refine fin _ (f3.tr ((FT.set m3 _ (by decide) (by decide)).tr (FT.set _ _ (by decide) (by decide)))) ⟨?_, ?_, ?_, fun z => ?_, fun _ => ?_⟩
          · rw [ck_sI_at, k2]
            unfold tk_srt
            rw [if_neg (by omega), if_neg (by omega), if_neg (by omega), if_neg (by omega), if_neg (by omega)]
            rfl
          · rw [ck_sI_nj _ _ (by decide), ck_sI_nj _ _ (by decide)]; exact c23
          · rw [ck_sI_nj _ _ (by decide), ck_sI_nj _ _ (by decide)]; exact c22
          · have z : tk_wd (tk_lt b p (e - p)) 19 0 3 = 2 ∨ tk_wd (tk_lt b p (e - p)) 19 0 3 = 3 := z
            omega
          · show (ck_sI (ck_sI m3 0 25 (nI w2)) 0 24 0).1 0 25 = nI (tk_cod (tk_wd (tk_lt b p (e - p)) 19 0 3))
            rw [ck_sI_nj _ _ (by decide), ck_sI_at, k2, tk_codx w2 hw2]
        · exact absurd cw (no w hw)
      · rintro _ rfl
        have g22 : (ck_sI m3 0 25 (-1)).1 0 22 = nI e := by rw [ck_sI_nj _ _ (by decide)]; exact c22
        have g23 : (ck_sI m3 0 25 (-1)).1 0 23 = nI p := by rw [ck_sI_nj _ _ (by decide)]; exact c23
        have fs4 : FT Mz (ck_sI m3 0 25 (-1)) := f3.tr (FT.set m3 _ (by decide) (by decide))
        rw [ck_sI_at, g22, g23, pk_sub (show p ≤ e by omega)]
        refine br_p rfl ⟨fun c6 => ?_, fun c6 => ?_⟩
        · have c6 := i6.mp c6
          rw [if_neg (by omega)] at fin
          unfold wp_X12_token_127
          rintro _ rfl
          rw [ck_sI_at]
          refine br_q rfl ?_
          have fs5 : FT Mz (ck_sI (ck_sI m3 0 25 (-1)) 0 24 1) := fs4.tr (FT.set _ _ (by decide) (by decide))
          refine mm_name (L2.ft fs5) (p := p) (e := e) (by omega) (by omega) c6 (fun j h1 h2 => wsm j h1 h2) (by rw [ck_sI_nj _ _ (by decide)]; exact g23) (by rw [ck_sI_nj _ _ (by decide)]; exact g22) (fun m6 f6 d22 d23 d24 d25 => fin m6 (fs5.tr f6) ?_)
          rcases wm_sp (b := b) (p := p) (l := e - p) (by omega) (fun j hj => wsm (p + j) (by omega) (by omega)) with ⟨w2, hw2, cw2, k2⟩ | ⟨_, k2⟩
          · exact absurd cw2 (cw w2 hw2)
          · rw [k2]
            refine ⟨by rw [d24, ck_sI_at]; rfl, by rw [d23, ck_sI_nj _ _ (by decide)]; exact g23, by rw [d22, ck_sI_nj _ _ (by decide)]; exact g22, fun _ => d25, fun z => absurd (show 4 ≤ 3 from z) (by decide)⟩
        · have c6 : ¬ e - p ≤ 6 := fun z => c6 (i6.mpr z)
          rw [if_pos (by omega)] at fin
          unfold wp_X12_token_127
          rintro _ rfl
          rw [ck_sI_at]
          refine br_m (by decide) (fin _ (fs4.tr (FT.set _ _ (by decide) (by decide))) ⟨ck_sI_at .., by rw [ck_sI_nj _ _ (by decide)]; exact g23, by rw [ck_sI_nj _ _ (by decide)]; exact g22, fun z => absurd (show (1 : Nat) = 2 ∨ (1 : Nat) = 3 from z) (by decide), fun z => absurd (show 4 ≤ 1 from z) (by decide)⟩)
    · have ns : ¬ (97 ≤ b p ∧ b p ≤ 122) := fun z => c (hs.mpr ⟨hp, z⟩)
      have dg := (hg.mp c2).2
      rintro _ rfl _ rfl
      have fs : FT Mz (ck_sI (ck_sI Mz 0 24 2) 0 25 0) := (FT.set Mz _ (by decide) (by decide)).tr (FT.set _ _ (by decide) (by decide))
      refine mm_nu (n - p) p lpN 0 _ (by unfold lpN; omega) (by omega) (L2.ft fs) (by rw [ck_sI_nj _ _ (by decide), ck_sI_nj _ _ (by decide)]; exact e22') (ck_sI_at ..) (by omega) (fun m3 f3 d23 d24 d22 d25 => fin m3 (fs.tr f3) ?_)
      unfold tk_at
      rw [if_neg (by omega), if_neg ns, if_pos dg]
      refine ⟨by rw [d24, ck_sI_nj _ _ (by decide), ck_sI_at]; rfl, by rw [d23, ck_sI_nj _ _ (by decide), ck_sI_nj _ _ (by decide)]; exact e23', d22, fun _ => d25, fun z => absurd (show 4 ≤ 2 from z) (by decide)⟩
    · exact mm_sign L2 hp e22' e23' (fun z => c (hs.mpr ⟨hp, z⟩)) (fun z => c2 (hg.mpr ⟨hp, z⟩)) fin
  · rw [if_neg hp]
    refine br_q rfl ?_
    rintro _ rfl
    refine fin _ (FT.set Mz _ (by decide) (by decide)) ?_
    unfold tk_at
    rw [if_pos (by omega)]
    exact ⟨ck_sI_at .., by rw [ck_sI_nj _ _ (by decide)]; exact e23', by rw [ck_sI_nj _ _ (by decide)]; exact e22', fun z => absurd (show (0 : Nat) = 2 ∨ (0 : Nat) = 3 from z) (by decide), fun z => absurd (show 4 ≤ 0 from z) (by decide)⟩
theorem tk_A_le {b : Nat → Nat} {n a : Nat} (hn : ∀ i, i < n → b i < 256) (ha : a ≤ n) : a ≤ (tk_A b n a).2.2.1 ∧ (tk_A b n a).2.2.1 ≤ n ∧ (tk_A b n a).2.2.1 ≤ (tk_A b n a).2.2.2 ∧ (tk_A b n a).2.2.2 ≤ n ∧ (tk_A b n a).1 < 39 ∧ (¬ (tk_A b n a).1 = 0 → (tk_A b n a).2.2.1 < (tk_A b n a).2.2.2) ∧ (tk_A b n a).2.1 < 2 ^ 30 + 1000000 := by
  have wl := tk_ws_le (b := b) (n := n) (n - a) a
  unfold tk_A
  generalize tk_ws b n (n - a) a = p at wl
  unfold tk_at
  by_cases h0 : n ≤ p
  · rw [if_pos h0]; exact ⟨wl.1, by show p ≤ n; omega, Nat.le_refl _, by show p ≤ n; omega, (by show (0 : Nat) < 39; omega), fun z => absurd rfl z, (by show (0 : Nat) < 2 ^ 30 + 1000000; omega)⟩
  · rw [if_neg h0]
    have we := tk_we_le (b := b) (n - p) p
    have nu := tk_nu_le (b := b) (n - p) p 0
    by_cases h1 : 97 ≤ b p ∧ b p ≤ 122
    · rw [if_pos h1]
      have wp : p + 1 ≤ tk_we b (n - p) p := by
        obtain ⟨k, hk⟩ : ∃ k, n - p = k + 1 := ⟨n - p - 1, by omega⟩
        rw [hk]
        unfold tk_we
        rw [if_pos h1]
        exact (tk_we_le (b := b) k (p + 1)).1
      by_cases h2 : 6 < tk_we b (n - p) p - p
      · rw [if_pos h2]; exact ⟨wl.1, by show p ≤ n; omega, by show p ≤ tk_we b (n - p) p; omega, by show tk_we b (n - p) p ≤ n; omega, (by show (1 : Nat) < 39; omega), fun _ => by show p < tk_we b (n - p) p; omega, (by show (0 : Nat) < 2 ^ 30 + 1000000; omega)⟩
      · rw [if_neg h2]
        refine ⟨wl.1, by show p ≤ n; omega, by show p ≤ tk_we b (n - p) p; omega, by show tk_we b (n - p) p ≤ n; omega, ?_, fun _ => by show p < tk_we b (n - p) p; omega, ?_⟩
        · show tk_wd (tk_lt b p (tk_we b (n - p) p - p)) 19 0 3 < 39
          rcases tk_wd_sp (v := tk_lt b p (tk_we b (n - p) p - p)) 19 0 3 (by omega) with ⟨i, h1, h2, h3, h4⟩ | ⟨h1, h2⟩
          · omega
          · omega
        · show tk_lt b p (tk_we b (n - p) p - p) < _
          have := Nat.le_trans (Nat.le_add_right _ _) (tk_lt_lt (b := b) (p := p) (tk_we b (n - p) p - p) (by omega) (fun j hj => tk_we_sm (b := b) (n - p) p (p + j) (by omega) (by omega)))
          omega
    · rw [if_neg h1]
      by_cases h2 : 48 ≤ b p ∧ b p ≤ 57
      · rw [if_pos h2]
        have np : p + 1 ≤ (tk_nu b (n - p) p 0).2 := by
          obtain ⟨k, hk⟩ : ∃ k, n - p = k + 1 := ⟨n - p - 1, by omega⟩
          rw [hk]
          unfold tk_nu
          rw [if_pos h2]
          exact (tk_nu_le (b := b) k (p + 1) _).1
        have nv : ∀ f a v, v < 1000000 → (tk_nu b f a v).1 < 1000000 := by
          intro f
          induction f with
          | zero => exact fun _ _ h => h
          | succ f ih =>
            intro a v hv
            unfold tk_nu
            split
            · refine ih (a + 1) _ ?_
              split <;> omega
            · exact hv
        refine ⟨wl.1, by show p ≤ n; omega, by show p ≤ (tk_nu b (n - p) p 0).2; omega, by show (tk_nu b (n - p) p 0).2 ≤ n; omega, (by show (2 : Nat) < 39; omega), fun _ => by show p < (tk_nu b (n - p) p 0).2; omega, ?_⟩
        show (tk_nu b (n - p) p 0).1 < _
        have := nv (n - p) p 0 (by omega)
        omega
      · rw [if_neg h2]
        generalize hd : (if p + 1 < n then b (p + 1) else 0) = d
        have lt := (tk_sg_lt (b p) d).1
        have s2 : p + tk_sb (tk_sg (b p) d) ≤ n := by
          unfold tk_sb
          split
          · next c =>
            by_cases hp : p + 1 < n
            · omega
            · rw [if_neg hp] at hd
              subst hd
              exfalso
              unfold tk_sg at c
              simp at c
              (repeat' split at c) <;> omega
          · omega
        have s1 : 1 ≤ tk_sb (tk_sg (b p) d) := by unfold tk_sb; split <;> omega
        exact ⟨wl.1, by show p ≤ n; omega, by show p ≤ p + tk_sb (tk_sg (b p) d); omega, s2, by show tk_sg (b p) d < 39; omega, fun _ => by show p < p + tk_sb (tk_sg (b p) d); omega, by show (0 : Nat) < _; decide⟩
