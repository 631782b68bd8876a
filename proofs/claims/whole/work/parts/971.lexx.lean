theorem tk_lt_mul {b : Nat → Nat} {p : Nat} : ∀ (k : Nat), k ≤ 6 → ∃ q, tk_lt b p k = 2 ^ (30 - 5 * k) * q := by
  intro k
  induction k with
  | zero => exact fun _ => ⟨0, rfl⟩
  | succ k ih =>
    intro hk
    obtain ⟨q, e⟩ := ih (by omega)
    refine ⟨32 * q + (b (p + k) - 96), ?_⟩
    show tk_lt b p k + (b (p + k) - 96) * 2 ^ (25 - 5 * k) = _
    rw [e, show 30 - 5 * k = (25 - 5 * k) + 5 by omega, Nat.pow_add, show 30 - 5 * (k + 1) = 25 - 5 * k by omega, Nat.mul_add, Nat.mul_assoc, Nat.mul_comm (b (p + k) - 96)]
theorem orA {e a y : Nat} (hy : y < 2 ^ e) : nI (2 ^ e * a) ||| nI y = nI (2 ^ e * a + y) := by
  rw [Nat.two_pow_add_eq_or_of_lt hy]
  apply Int32.toBitVec_inj.1
  apply BitVec.eq_of_getLsbD_eq
  intro i hi
  rw [Int32.toBitVec_or, BitVec.getLsbD_or]
  show ((BitVec.ofNat 32 _).getLsbD i || (BitVec.ofNat 32 _).getLsbD i) = (BitVec.ofNat 32 _).getLsbD i
  rw [BitVec.getLsbD_ofNat, BitVec.getLsbD_ofNat, BitVec.getLsbD_ofNat, Nat.testBit_or]
  cases decide (i < 32) <;> simp
theorem sm5 : ∀ j, j < 6 → ((((25 : Int32) - 5 * nI j) &&& 31).toBitVec.smod 32).toNat = 25 - 5 * j := by decide
theorem by_le : ∀ c, c < 256 → 97 ≤ c → c ≤ 122 → (sb_b c - 97) + 1 = nI (c - 96) := by decide +kernel
theorem tx_rw5 {b : Nat → Nat} {n p : Nat} {Q K : ck_H → Prop} : ∀ (k a f : Nat) (h : ck_H), k < f → a + k = n → LX b n h → h.1 3 3 = nI a → h.1 3 5 = nI p → p ≤ a → (∀ j, p ≤ j → j < a → 97 ≤ b j ∧ b j ≤ 122) → h.1 3 7 = nI (tk_lt b p (min (a - p) 6)) →
    (∀ h', FS h h' → h'.1 3 3 = nI (tk_we b k a) → h'.1 3 5 = nI p → h'.1 3 7 = nI (tk_lt b p (min (tk_we b k a - p) 6)) → (∀ j, p ≤ j → j < tk_we b k a → 97 ≤ b j ∧ b j ≤ 122) → K h') → wp_X8_readWord_5 Q K f h := by
  intro k
  induction k with
  | zero =>
    intro a f h hf ha L e e5 hp hs e7 q
    obtain ⟨f, rfl⟩ : ∃ g, f = g + 1 := ⟨f - 1, by omega⟩
    have hn := L.1
    unfold wp_X8_readWord_5
    exact pk_le n a (fun _ => q h (FS.rf h) e e5 e7 hs) (fun z => by omega) L.2.1 e (by omega) (by omega)
  | succ k ih =>
    intro a f h hf ha L e e5 hp hs e7 q
    obtain ⟨f, rfl⟩ : ∃ g, f = g + 1 := ⟨f - 1, by omega⟩
    have hn := L.1
    obtain ⟨b1, b2⟩ := L.2.2.1 a (by omega)
    have w := by_sm (b a) b1
    unfold wp_X8_readWord_5 wp_X8_readWord_90
    unfold tk_we at q
    have i700 : vp_in (h.1 3 3) 700 := by rw [e]; exact pu_in (by omega) (by decide)
    have ec : (h.1 3 3).toNatClampNeg = a := by rw [e]; exact nI_clamp (by omega)
    refine pk_le n a (fun z => by omega) (fun _ => ⟨i700, ?_⟩) L.2.1 e (by omega) (by omega)
    rw [ec, b2]
    have no : ¬ (97 ≤ b a ∧ b a ≤ 122) → K h := by
      intro c
      rw [if_neg c] at q
      exact q h (FS.rf h) e e5 e7 hs
    refine ⟨fun c => no (fun z => (w.mpr z).1 c), fun c => ⟨i700, fun c2 => no (fun z => (w.mpr z).2 c2), fun c2 => ?_⟩⟩
    have sm := w.mp ⟨c, c2⟩
    rw [if_pos sm] at q
    have hs' : ∀ j, p ≤ j → j < a + 1 → 97 ≤ b j ∧ b j ≤ 122 := fun j h1 h2 => by
      by_cases cj : j = a
      · subst cj; exact sm
      · exact hs j h1 (by omega)
    rw [e, e5, pk_sub hp]
    rintro _ rfl
    refine pk_le 6 (a - p) (fun c6 => ?_) (fun c6 => ⟨pu_in (by omega) (by decide), ?_⟩)
    · rintro _ rfl
      rw [nI_1]
      have fs : FS h (ck_sI h 3 3 (nI (a + 1))) := FS.set h _ (by decide)
      refine ih (a + 1) f _ (by omega) (by omega) (L.fs fs) (ck_sI_at ..) (by rw [ck_sI_nj _ _ (by decide)]; exact e5) (by omega) hs' ?_ (fun h' f' => q h' (fs.tr f'))
      rw [ck_sI_nj _ _ (by decide), e7, show min (a - p) 6 = min (a + 1 - p) 6 by omega]
    · have ej : min (a - p) 6 = a - p := by omega
      have ltl := tk_lt_lt (b := b) (p := p) (a - p) (by omega) (fun j hj => hs (p + j) (by omega) (by omega))
      obtain ⟨qq, eq⟩ := tk_lt_mul (b := b) (p := p) (a - p) (by omega)
      have hp2 : 2 ^ (30 - 5 * (a - p)) = 32 * 2 ^ (25 - 5 * (a - p)) := by rw [show 30 - 5 * (a - p) = 5 + (25 - 5 * (a - p)) by omega, Nat.pow_add]
      have hm : (b a - 96) * 2 ^ (25 - 5 * (a - p)) ≤ 26 * 2 ^ (25 - 5 * (a - p)) := Nat.mul_le_mul_right _ (by omega)
      have pp : 0 < 2 ^ (25 - 5 * (a - p)) := Nat.pow_pos (by omega)
      have hm2 : (b a - 96) * 2 ^ (25 - 5 * (a - p)) < 2 ^ (30 - 5 * (a - p)) := by omega
      rw [by_le (b a) b1 sm.1 sm.2, pk_shlN _ (25 - 5 * (a - p)) (sm5 (a - p) (by omega)) (by omega), e7, ej, eq, orA hm2, ← eq]
      have e8 : tk_lt b p (a - p) + (b a - 96) * 2 ^ (25 - 5 * (a - p)) = tk_lt b p (a - p + 1) := by
        show _ = tk_lt b p (a - p) + (b (p + (a - p)) - 96) * 2 ^ (25 - 5 * (a - p))
        rw [show p + (a - p) = a by omega]
      rw [e8]
      rintro _ rfl _ rfl
      have fs : FS h (ck_sI h 3 7 (nI (tk_lt b p (a - p + 1)))) := FS.set h _ (by decide)
      rw [ck_sI_nj _ _ (show (3 : Nat) ≠ 7 by decide), e, nI_1]
      have fs2 := fs.tr (FS.set (ck_sI h 3 7 (nI (tk_lt b p (a - p + 1)))) (i := 3) (nI (a + 1)) (by decide))
      refine ih (a + 1) f _ (by omega) (by omega) (L.fs fs2) (ck_sI_at ..) (by rw [ck_sI_nj _ _ (by decide), ck_sI_nj _ _ (by decide)]; exact e5) (by omega) hs' ?_ (fun h' f' => q h' (fs2.tr f'))
      rw [ck_sI_nj _ _ (by decide), ck_sI_at, show min (a + 1 - p) 6 = a - p + 1 by omega]
theorem tx_rw110 {v : Nat} {Q K : ck_H → Prop} : ∀ (k i f kd : Nat) (h : ck_H), k < f → i + k = 19 → (∀ i, i < 19 → h.1 4 i = ck_words i) → h.1 3 7 = nI v → h.1 3 4 = nI kd → (∀ h', FS h h' → (∀ j, j ≠ 4 → h'.1 3 j = h.1 3 j) → h'.1 3 4 = nI (tk_wd v k i kd) → K h') → wp_X8_readWord_110 Q K f (nI i) h := by
  intro k
  induction k with
  | zero =>
    intro i f kd h hf hi hw e7 e4 q
    obtain ⟨f, rfl⟩ : ∃ g, f = g + 1 := ⟨f - 1, by omega⟩
    unfold wp_X8_readWord_110
    exact pk_le 19 i (fun _ => q h (FS.rf h) (fun _ _ => rfl) e4) (fun z => by omega)
  | succ k ih =>
    intro i f kd h hf hi hw e7 e4 q
    obtain ⟨f, rfl⟩ : ∃ g, f = g + 1 := ⟨f - 1, by omega⟩
    unfold wp_X8_readWord_110 wp_X8_readWord_137
    unfold tk_wd at q
    rw [nI_clamp (n := i) (by omega), hw i (by omega), e7, nI_1, show (20 : Int32) + nI i = nI (20 + i) from nI_add 20 i]
    refine pk_le 19 i (fun z => by omega) (fun _ => ⟨pu_in (by omega) (by decide), fun c => ?_, fun c => ?_⟩)
    · rw [if_neg c] at q
      rintro _ rfl
      exact ih (i + 1) f kd h (by omega) (by omega) hw e7 e4 q
    · rw [if_pos c] at q
      rintro _ rfl _ rfl
      have fs : FS h (ck_sI h 3 4 (nI (20 + i))) := FS.set h _ (by decide)
      refine ih (i + 1) f (20 + i) _ (by omega) (by omega) (fun j hj => by rw [ck_sI_ne _ _ _ (by decide)]; exact hw j hj) (by rw [ck_sI_nj _ _ (by decide)]; exact e7) (ck_sI_at ..) (fun h' f' g' => q h' (fs.tr f') (fun j hj => by rw [g' j hj, ck_sI_nj _ _ hj]))
theorem tx_rw {b : Nat → Nat} {n p : Nat} {h : ck_H} {Q : ck_H → Prop} (L : LX b n h) (hp : p < n) (e3 : h.1 3 3 = nI p) (e5 : h.1 3 5 = nI p) (sm : 97 ≤ b p ∧ b p ≤ 122) (q : ∀ h', FS h h' → CX (tk_at b n p) h' → Q h') : wp_X8_readWord h Q := by
  have hn := L.1
  unfold wp_X8_readWord
  rintro _ rfl
  have fs : FS h (ck_sI h 3 7 0) := FS.set h _ (by decide)
  refine tx_rw5 (p := p) (n - p) p lpN _ (by unfold lpN; omega) (by omega) (L.fs fs) (by rw [ck_sI_nj _ _ (by decide)]; exact e3) (by rw [ck_sI_nj _ _ (by decide)]; exact e5) (Nat.le_refl _) (fun j h1 h2 => by omega) (by rw [ck_sI_at, Nat.sub_self]; rfl) (fun h1 f1 a3 a5 a7 hs => ?_)
  have wl := tk_we_le (b := b) (n - p) p
  unfold wp_X8_readWord_103
  rintro _ rfl
  have fs2 : FS h (ck_sI h1 3 4 3) := fs.tr (f1.tr (FS.set h1 _ (by decide)))
  refine tx_rw110 (v := tk_lt b p (min (tk_we b (n - p) p - p) 6)) 19 0 lpN 3 _ (by decide) rfl (L.fs fs2).2.2.2 (by rw [ck_sI_nj _ _ (by decide)]; exact a7) (ck_sI_at ..) (fun h2 f2 g2 k2 => ?_)
  have r3 : h2.1 3 3 = nI (tk_we b (n - p) p) := by rw [g2 3 (by decide), ck_sI_nj _ _ (by decide)]; exact a3
  have r5 : h2.1 3 5 = nI p := by rw [g2 5 (by decide), ck_sI_nj _ _ (by decide)]; exact a5
  have r7 : h2.1 3 7 = nI (tk_lt b p (min (tk_we b (n - p) p - p) 6)) := by rw [g2 7 (by decide), ck_sI_nj _ _ (by decide)]; exact a7
  rw [r3, r5, pk_sub wl.1]
  have et : tk_at b n p = if 6 < tk_we b (n - p) p - p then (1, 0, p, tk_we b (n - p) p) else (tk_wd (tk_lt b p (tk_we b (n - p) p - p)) 19 0 3, tk_lt b p (tk_we b (n - p) p - p), p, tk_we b (n - p) p) := by
    unfold tk_at
    rw [if_neg (by omega), if_pos sm]
  rw [show (6 : Int32) = nI 6 from rfl]
  have i6 : nI (tk_we b (n - p) p - p) ≤ nI 6 ↔ tk_we b (n - p) p - p ≤ 6 := nI_leI (by omega) (by omega)
  refine ⟨fun c => ?_, fun c => ?_⟩
  · have c := i6.mp c
    rw [if_neg (by omega)] at et
    rw [show min (tk_we b (n - p) p - p) 6 = tk_we b (n - p) p - p by omega] at k2 r7
    refine q h2 (fs2.tr f2) ?_
    rw [et]
    exact ⟨k2, r5, r3, fun z => by
      have z : tk_wd (tk_lt b p (tk_we b (n - p) p - p)) 19 0 3 = 2 := z
      have : ∀ f i k, (k = 3 ∨ 20 ≤ k) → (tk_wd (tk_lt b p (tk_we b (n - p) p - p)) f i k = 3 ∨ 20 ≤ tk_wd (tk_lt b p (tk_we b (n - p) p - p)) f i k) := by
        intro f
        induction f with
        | zero => exact fun _ _ h => h
        | succ f ih =>
          intro i k h
          unfold tk_wd
          refine ih (i + 1) _ ?_
          split <;> omega
      have := this 19 0 3 (Or.inl rfl)
      omega, fun _ => r7⟩
  · have c : ¬ tk_we b (n - p) p - p ≤ 6 := fun z => c (i6.mpr z)
    rw [if_pos (by omega)] at et
    rintro _ rfl
    refine q _ (fs2.tr (f2.tr (FS.set h2 _ (by decide)))) ?_
    rw [et]
    exact ⟨ck_sI_at .., by rw [ck_sI_nj _ _ (by decide)]; exact r5, by rw [ck_sI_nj _ _ (by decide)]; exact r3, fun z => absurd (show (1 : Nat) = 2 from z) (by decide), fun z => absurd (show (1 : Nat) = 3 from z) (by decide)⟩
theorem tx_rn5 {b : Nat → Nat} {n : Nat} {Q K : ck_H → Prop} : ∀ (k a f v : Nat) (h : ck_H), k < f → a + k = n → LX b n h → h.1 3 3 = nI a → h.1 3 6 = nI v → v < 1000000 → (∀ h', FS h h' → h'.1 3 5 = h.1 3 5 → h'.1 3 3 = nI (tk_nu b k a v).2 → h'.1 3 6 = nI (tk_nu b k a v).1 → K h') → wp_X8_readNumber_5 Q K f h := by
  intro k
  induction k with
  | zero =>
    intro a f v h hf ha L e e6 hv q
    obtain ⟨f, rfl⟩ : ∃ g, f = g + 1 := ⟨f - 1, by omega⟩
    have hn := L.1
    unfold wp_X8_readNumber_5
    exact pk_le n a (fun _ => q h (FS.rf h) rfl e e6) (fun z => by omega) L.2.1 e (by omega) (by omega)
  | succ k ih =>
    intro a f v h hf ha L e e6 hv q
    obtain ⟨f, rfl⟩ : ∃ g, f = g + 1 := ⟨f - 1, by omega⟩
    have hn := L.1
    obtain ⟨b1, b2⟩ := L.2.2.1 a (by omega)
    have w := by_dg (b a) b1
    unfold wp_X8_readNumber_5 wp_X8_readNumber_77
    unfold tk_nu at q
    have i700 : vp_in (h.1 3 3) 700 := by rw [e]; exact pu_in (by omega) (by decide)
    have ec : (h.1 3 3).toNatClampNeg = a := by rw [e]; exact nI_clamp (by omega)
    refine pk_le n a (fun z => by omega) (fun _ => ⟨i700, ?_⟩) L.2.1 e (by omega) (by omega)
    rw [ec, b2]
    have no : ¬ (48 ≤ b a ∧ b a ≤ 57) → K h := by
      intro c
      rw [if_neg c] at q
      exact q h (FS.rf h) rfl e e6
    refine ⟨fun c => no (fun z => (w.mpr z).1 c), fun c => ⟨i700, fun c2 => no (fun z => (w.mpr z).2 c2), fun c2 => ?_⟩⟩
    have dg := w.mp ⟨c, c2⟩
    rw [if_pos dg] at q
    rw [e6]
    refine pk_lt 99999 v (fun c6 => ?_) (fun c6 => ⟨i700, ?_⟩)
    · rw [if_pos c6] at q
      rintro _ rfl
      rw [e, nI_1]
      have fs : FS h (ck_sI h 3 3 (nI (a + 1))) := FS.set h _ (by decide)
      refine ih (a + 1) f v _ (by omega) (by omega) (L.fs fs) (ck_sI_at ..) (by rw [ck_sI_nj _ _ (by decide)]; exact e6) hv (fun h' f' e5' => q h' (fs.tr f') (by rw [e5', ck_sI_nj _ _ (by decide)]))
    · rw [if_neg (by omega)] at q
      rw [by_lo (b a) (by omega), show (10 : Int32) = nI 10 from rfl, pk_mul, nI_add, show (48 : Int32) = nI 48 from rfl, pk_sub (by omega), show 10 * v + b a - 48 = 10 * v + (b a - 48) by omega]
      rintro _ rfl _ rfl
      rw [ck_sI_nj _ _ (show (3 : Nat) ≠ 6 by decide), e, nI_1]
      have fs : FS h (ck_sI (ck_sI h 3 6 (nI (10 * v + (b a - 48)))) 3 3 (nI (a + 1))) := (FS.set h _ (by decide)).tr (FS.set _ _ (by decide))
      refine ih (a + 1) f _ _ (by omega) (by omega) (L.fs fs) (ck_sI_at ..) (by rw [ck_sI_nj _ _ (by decide), ck_sI_at]) (by omega) (fun h' f' e5' => q h' (fs.tr f') (by rw [e5', ck_sI_nj _ _ (by decide), ck_sI_nj _ _ (by decide)]))
theorem tx_rn {b : Nat → Nat} {n p : Nat} {h : ck_H} {Q : ck_H → Prop} (L : LX b n h) (hp : p < n) (e3 : h.1 3 3 = nI p) (e5 : h.1 3 5 = nI p) (ns : ¬ (97 ≤ b p ∧ b p ≤ 122)) (dg : 48 ≤ b p ∧ b p ≤ 57) (q : ∀ h', FS h h' → CX (tk_at b n p) h' → Q h') : wp_X8_readNumber h Q := by
  have hn := L.1
  unfold wp_X8_readNumber
  rintro _ rfl
  have fs : FS h (ck_sI h 3 6 0) := FS.set h _ (by decide)
  refine tx_rn5 (n - p) p lpN 0 _ (by unfold lpN; omega) (by omega) (L.fs fs) (by rw [ck_sI_nj _ _ (by decide)]; exact e3) (ck_sI_at ..) (by omega) (fun h1 f1 a5 a3 a6 => ?_)
  unfold wp_X8_readNumber_90
  rintro _ rfl
  refine q _ (fs.tr (f1.tr (FS.set h1 _ (by decide)))) ?_
  unfold tk_at
  rw [if_neg (by omega), if_neg ns, if_pos dg]
  exact ⟨ck_sI_at .., by rw [ck_sI_nj _ _ (by decide), a5, ck_sI_nj _ _ (by decide)]; exact e5, by rw [ck_sI_nj _ _ (by decide)]; exact a3, fun _ => by rw [ck_sI_nj _ _ (by decide)]; exact a6, fun z => absurd (show (2 : Nat) = 3 from z) (by decide)⟩
theorem by_eq : ∀ c, c < 256 → ∀ x, x < 63 → (sb_b c = nI x ↔ c = x) := by decide +kernel
theorem tx_270 {k a p : Nat} {h : ck_H} {Q : ck_H → Prop} (hk : k < 39) (e4 : h.1 3 4 = nI k) (e3 : h.1 3 3 = nI (a + 1)) (e5 : h.1 3 5 = nI p) (q : ∀ h', FS h h' → h'.1 3 4 = nI k → h'.1 3 5 = nI p → h'.1 3 3 = nI (a + tk_sb k) → Q h') : wp_X8_readSign_270 Q h := by
  have up : (k = 12 ∨ k = 14 ∨ k = 15) → wp_X8_readSign_297 Q h := by
    intro c
    unfold wp_X8_readSign_297
    rintro _ rfl
    rw [e3, nI_1]
    refine q _ (FS.set h _ (by decide)) (by rw [ck_sI_nj _ _ (by decide)]; exact e4) (by rw [ck_sI_nj _ _ (by decide)]; exact e5) ?_
    rw [ck_sI_at]
    unfold tk_sb
    rw [if_pos c]
  unfold wp_X8_readSign_270
  rw [e4]
  have i12 : nI k = (12 : Int32) ↔ k = 12 := nI_eq (b := 12) (by omega) (by omega)
  have i14 : nI k = (14 : Int32) ↔ k = 14 := nI_eq (b := 14) (by omega) (by omega)
  have i15 : nI k = (15 : Int32) ↔ k = 15 := nI_eq (b := 15) (by omega) (by omega)
  refine ⟨fun c => up (Or.inl (i12.mp c)), fun c => ⟨fun c2 => up (Or.inr (Or.inl (i14.mp c2))), fun c2 => ⟨fun c3 => ?_, fun c3 => up (Or.inr (Or.inr (i15.mp c3)))⟩⟩⟩
  refine q h (FS.rf h) e4 e5 ?_
  unfold tk_sb
  rw [if_neg (fun z => by
    rcases z with z | z | z
    · exact c (i12.mpr z)
    · exact c2 (i14.mpr z)
    · exact c3 (i15.mpr z))]
  exact e3

theorem tx_34 {c p : Nat} {y : Int32} {d : Nat} {h : ck_H} {Q : ck_H → Prop} (hc : c < 256) (hd : d < 256) (ey : y = sb_b d) (e3 : h.1 3 3 = nI (p + 1)) (e5 : h.1 3 5 = nI p) (q : ∀ h', FS h h' → h'.1 3 4 = nI (tk_sg c d) → h'.1 3 5 = nI p → h'.1 3 3 = nI (p + tk_sb (tk_sg c d)) → Q h') : wp_X8_readSign_34 Q (sb_b c) y h := by
  have put : ∀ k, k < 39 → tk_sg c d = k → ∀ h4, h4 = ck_sI h 3 4 (nI k) → wp_X8_readSign_270 Q h4 := by
    rintro k hk ek _ rfl
    have fs : FS h (ck_sI h 3 4 (nI k)) := FS.set h _ (by decide)
    rw [ek] at q
    exact tx_270 hk (ck_sI_at ..) (by rw [ck_sI_nj _ _ (by decide)]; exact e3) (by rw [ck_sI_nj _ _ (by decide)]; exact e5) (fun h' f' => q h' (fs.tr f'))
  have none : tk_sg c d = 1 → wp_X8_readSign_265 Q h := fun e => by unfold wp_X8_readSign_265; exact put 1 (by decide) e
  have iq := by_eq c hc
  have id := by_eq d hd
  unfold wp_X8_readSign_34 wp_X8_readSign_239 wp_X8_readSign_259
  rw [ey]
  refine ⟨fun e => ?_, fun n40 => ?_⟩
  · have e := (iq 40 (by decide)).mp e
    subst e
    exact put 5 (by decide) rfl
  refine ⟨fun e => ?_, fun n41 => ?_⟩
  · have e := (iq 41 (by decide)).mp e
    subst e
    exact put 6 (by decide) rfl
  refine ⟨fun e => ?_, fun n42 => ?_⟩
  · have e := (iq 42 (by decide)).mp e
    subst e
    exact put 9 (by decide) rfl
  refine ⟨fun e => ?_, fun n43 => ?_⟩
  · have e := (iq 43 (by decide)).mp e
    subst e
    exact put 7 (by decide) rfl
  refine ⟨fun e => ?_, fun n44 => ?_⟩
  · have e := (iq 44 (by decide)).mp e
    subst e
    exact none rfl
  refine ⟨fun e => ?_, fun n45 => ?_⟩
  · have e := (iq 45 (by decide)).mp e
    subst e
    exact put 8 (by decide) rfl
  refine ⟨fun e => ?_, fun n46 => ?_⟩
  · have e := (iq 46 (by decide)).mp e
    subst e
    exact none rfl
  refine ⟨fun e => ?_, fun n47 => ?_⟩
  · have e := (iq 47 (by decide)).mp e
    subst e
    exact put 10 (by decide) rfl
  refine ⟨fun e => ?_, fun n48 => ?_⟩
  · have e := (iq 48 (by decide)).mp e
    subst e
    exact none rfl
  refine ⟨fun e => ?_, fun n49 => ?_⟩
  · have e := (iq 49 (by decide)).mp e
    subst e
    exact none rfl
  refine ⟨fun e => ?_, fun n50 => ?_⟩
  · have e := (iq 50 (by decide)).mp e
    subst e
    exact none rfl
  refine ⟨fun e => ?_, fun n51 => ?_⟩
  · have e := (iq 51 (by decide)).mp e
    subst e
    exact none rfl
  refine ⟨fun e => ?_, fun n52 => ?_⟩
  · have e := (iq 52 (by decide)).mp e
    subst e
    exact none rfl
  refine ⟨fun e => ?_, fun n53 => ?_⟩
  · have e := (iq 53 (by decide)).mp e
    subst e
    exact none rfl
  refine ⟨fun e => ?_, fun n54 => ?_⟩
  · have e := (iq 54 (by decide)).mp e
    subst e
    exact none rfl
  refine ⟨fun e => ?_, fun n55 => ?_⟩
  · have e := (iq 55 (by decide)).mp e
    subst e
    exact none rfl
  refine ⟨fun e => ?_, fun n56 => ?_⟩
  · have e := (iq 56 (by decide)).mp e
    subst e
    exact none rfl
  refine ⟨fun e => ?_, fun n57 => ?_⟩
  · have e := (iq 57 (by decide)).mp e
    subst e
    exact none rfl
  refine ⟨fun e => ?_, fun n58 => ?_⟩
  · have e := (iq 58 (by decide)).mp e
    subst e
    exact none rfl
  refine ⟨fun e => ?_, fun n59 => ?_⟩
  · have e := (iq 59 (by decide)).mp e
    subst e
    exact put 4 (by decide) rfl
  refine ⟨fun e => ?_, fun n60 => ?_⟩
  · have e := (iq 60 (by decide)).mp e
    subst e
    refine ⟨fun a => ⟨fun a2 => put 11 (by decide) ?_, fun a2 => put 14 (by decide) ?_⟩, fun a => put 12 (by decide) ?_⟩
    · have a : ¬ d = 61 := fun z => a ((id 61 (by decide)).mpr z)
      have a2 : ¬ d = 62 := fun z => a2 ((id 62 (by decide)).mpr z)
      simp [tk_sg, a, a2]
    · have a : ¬ d = 61 := fun z => a ((id 61 (by decide)).mpr z)
      have a2 := (id 62 (by decide)).mp a2
      simp [tk_sg, a2]
    · have a := (id 61 (by decide)).mp a
      simp [tk_sg, a]
  refine ⟨fun e => ?_, fun n61 => ?_⟩
  · have e := (iq 61 (by decide)).mp e
    subst e
    exact put 13 (by decide) rfl
  refine ⟨fun e => ?_, fun n62 => ?_⟩
  · have e := (iq 62 (by decide)).mp e
    subst e
    refine ⟨fun a => put 16 (by decide) ?_, fun a => put 15 (by decide) ?_⟩
    · have a : ¬ d = 61 := fun z => a ((id 61 (by decide)).mpr z)
      simp [tk_sg, a]
    · have a := (id 61 (by decide)).mp a
      simp [tk_sg, a]
  refine none ?_
  unfold tk_sg
  rw [if_neg (fun z => n59 ((iq 59 (by decide)).mpr z)), if_neg (fun z => n40 ((iq 40 (by decide)).mpr z)), if_neg (fun z => n41 ((iq 41 (by decide)).mpr z)), if_neg (fun z => n43 ((iq 43 (by decide)).mpr z)), if_neg (fun z => n45 ((iq 45 (by decide)).mpr z)), if_neg (fun z => n42 ((iq 42 (by decide)).mpr z)), if_neg (fun z => n47 ((iq 47 (by decide)).mpr z)), if_neg (fun z => n61 ((iq 61 (by decide)).mpr z)), if_neg (fun z => n60 ((iq 60 (by decide)).mpr z)), if_neg (fun z => n62 ((iq 62 (by decide)).mpr z))]
theorem tk_sg_lt (c d : Nat) : tk_sg c d < 17 ∧ tk_sg c d ≠ 2 ∧ tk_sg c d ≠ 3 ∧ tk_sg c d ≠ 0 := by
  unfold tk_sg
  (repeat' split) <;> decide
theorem tx_rs {b : Nat → Nat} {n p : Nat} {h : ck_H} {Q : ck_H → Prop} (L : LX b n h) (hp : p < n) (e3 : h.1 3 3 = nI p) (e5 : h.1 3 5 = nI p) (ns : ¬ (97 ≤ b p ∧ b p ≤ 122)) (nd : ¬ (48 ≤ b p ∧ b p ≤ 57)) (q : ∀ h', FS h h' → CX (tk_at b n p) h' → Q h') : wp_X8_readSign (sb_b (b p)) h Q := by
  have hn := L.1
  obtain ⟨b1, b2⟩ := L.2.2.1 p hp
  have et : tk_at b n p = (tk_sg (b p) (if p + 1 < n then b (p + 1) else 0), 0, p, p + tk_sb (tk_sg (b p) (if p + 1 < n then b (p + 1) else 0))) := by
    unfold tk_at
    rw [if_neg (by omega), if_neg ns, if_neg nd]
  unfold wp_X8_readSign
  rw [e3, nI_1]
  rintro _ rfl
  have fs : FS h (ck_sI h 3 3 (nI (p + 1))) := FS.set h _ (by decide)
  have fin : ∀ d, d = (if p + 1 < n then b (p + 1) else 0) → d < 256 → ∀ y, y = sb_b d → wp_X8_readSign_34 Q (sb_b (b p)) y (ck_sI h 3 3 (nI (p + 1))) := by
    intro d ed hd y ey
    refine tx_34 b1 hd ey (ck_sI_at ..) (by rw [ck_sI_nj _ _ (by decide)]; exact e5) (fun h' f' a4 a5 a3 => q h' (fs.tr f') ?_)
    rw [et, ← ed]
    refine ⟨a4, a5, a3, fun z => ?_, fun z => ?_⟩
    · exact absurd (show tk_sg (b p) d = 2 from z) (tk_sg_lt _ _).2.1
    · exact absurd (show tk_sg (b p) d = 3 from z) (tk_sg_lt _ _).2.2.1
  rw [ck_sI_nj _ _ (show (2 : Nat) ≠ 3 by decide), L.2.1, ck_sI_at, nI_clamp (n := p + 1) (by omega), ck_sI_ne _ _ _ (show (1 : Nat) ≠ 3 by decide)]
  refine pk_le n (p + 1) (fun c => fin 0 (by rw [if_neg (by omega)]) (by omega) _ rfl) (fun c => ⟨pu_in (by omega) (by decide), ?_⟩)
  obtain ⟨b3, b4⟩ := L.2.2.1 (p + 1) c
  exact fin (b (p + 1)) (by rw [if_pos c]) b3 _ b4
theorem tx_next {b : Nat → Nat} {n a : Nat} {h : ck_H} {Q : ck_H → Prop} (L : LX b n h) (ha : a ≤ n) (e3 : h.1 3 3 = nI a) (q : ∀ h', FS h h' → CX (tk_A b n a) h' → Q h') : wp_X8_next h Q := by
  have hn := L.1
  unfold wp_X8_next
  refine tx_ws (n - a) a lpN h (by unfold lpN; omega) (by omega) L e3 (fun h1 f1 a3 => ?_)
  have wl := tk_ws_le (b := b) (n := n) (n - a) a
  unfold tk_A at q
  generalize tk_ws b n (n - a) a = p at a3 wl q
  unfold wp_X8_next_52
  rw [a3]
  rintro _ rfl
  have f2 : FS h (ck_sI h1 3 5 (nI p)) := f1.tr (FS.set h1 _ (by decide))
  have L2 := L.fs f2
  have e33 : (ck_sI h1 3 5 (nI p)).1 3 3 = nI p := by rw [ck_sI_nj _ _ (by decide)]; exact a3
  have e35 : (ck_sI h1 3 5 (nI p)).1 3 5 = nI p := ck_sI_at ..
  generalize ck_sI h1 3 5 (nI p) = H at f2 L2 e33 e35
  have fin : ∀ h', FS H h' → CX (tk_at b n p) h' → Q h' := fun h' f' c' => q h' (f2.tr f') c'
  rw [e33, L2.2.1, nI_clamp (n := p) (by omega)]
  refine pk_lt p n (fun c => ?_) (fun c => ?_)
  · obtain ⟨b1, b2⟩ := L2.2.2.1 p c
    have i7 : vp_in (nI p) 700 := pu_in (by omega) (by decide)
    have w := by_sm (b p) b1
    have w2 := by_dg (b p) b1
    have e149 : ¬ (97 ≤ b p ∧ b p ≤ 122) → ¬ (48 ≤ b p ∧ b p ≤ 57) → wp_X8_next_149 Q H := by
      intro ns nd
      unfold wp_X8_next_149
      rw [e33, nI_clamp (n := p) (by omega), b2]
      exact ⟨i7, tx_rs L2 c e33 e35 ns nd fin⟩
    have e114 : ¬ (97 ≤ b p ∧ b p ≤ 122) → wp_X8_next_114 Q H := by
      intro ns
      unfold wp_X8_next_114
      rw [e33, nI_clamp (n := p) (by omega), b2]
      exact ⟨i7, fun c1 => e149 ns (fun z => (w2.mpr z).1 c1), fun c1 => ⟨i7, fun c2 => e149 ns (fun z => (w2.mpr z).2 c2), fun c2 => tx_rn L2 c e33 e35 ns (w2.mp ⟨c1, c2⟩) fin⟩⟩
    rw [b2]
    exact ⟨i7, fun c1 => e114 (fun z => (w.mpr z).1 c1), fun c1 => ⟨i7, fun c2 => e114 (fun z => (w.mpr z).2 c2), fun c2 => tx_rw L2 c e33 e35 (w.mp ⟨c1, c2⟩) fin⟩⟩
  · rintro _ rfl
    refine fin _ (FS.set H _ (by decide)) ?_
    unfold tk_at
    rw [if_pos c]
    exact ⟨ck_sI_at .., by rw [ck_sI_nj _ _ (by decide)]; exact e35, by rw [ck_sI_nj _ _ (by decide)]; exact e33, fun z => absurd (show (0 : Nat) = 2 from z) (by decide), fun z => absurd (show (0 : Nat) = 3 from z) (by decide)⟩
