theorem sh5 : (((5 : Int32) &&& 31).toBitVec.smod 32).toNat = 5 := by decide
/-- the letters so far -/
def nmv (f : Nat → Nat) : Nat → Nat
  | 0 => 0
  | k + 1 => 2 ^ 5 * nmv f k + f k
theorem nmv_lt {f : Nat → Nat} (hf : ∀ j, f j < 32) : ∀ k, nmv f k < 2 ^ (5 * k) := by
  intro k
  induction k with
  | zero => exact Nat.one_pos
  | succ k ih =>
    have := hf k
    show 2 ^ 5 * nmv f k + f k < 2 ^ (5 * (k + 1))
    rw [show 5 * (k + 1) = 5 * k + 5 by omega, Nat.pow_add]
    omega
theorem nmv6 (f : Nat → Nat) : nmv f 6 = pk6 f := by
  simp only [nmv, pk6]
  omega
theorem mm_nm7 {b : Nat → Nat} {n p e : Nat} {Q : ck_H → Prop} (hpe : p ≤ e) (hen : e ≤ n) (hs : ∀ j, p ≤ j → j < e → 97 ≤ b j ∧ b j ≤ 122) : ∀ (k i f : Nat) (m : ck_H), k < f → i + k = 6 → LY b n m → m.1 0 23 = nI p → m.1 0 22 = nI e → m.1 0 25 = nI (nmv (fun j => if j < e - p then b (p + j) - 96 else 0) i) →
    (∀ m', FT m m' → m'.1 0 22 = m.1 0 22 → m'.1 0 23 = m.1 0 23 → m'.1 0 24 = m.1 0 24 → m'.1 0 25 = nI (nmv (fun j => if j < e - p then b (p + j) - 96 else 0) 6) → Q m') → wp_X12_name_7 Q f (nI i) m := by
  have hf : ∀ j, (fun j => if j < e - p then b (p + j) - 96 else 0) j < 32 := fun j => by
    by_cases c : j < e - p
    · have := hs (p + j) (by omega) (by omega)
      show (if j < e - p then b (p + j) - 96 else 0) < 32
      rw [if_pos c]; omega
    · show (if j < e - p then b (p + j) - 96 else 0) < 32
      rw [if_neg c]; omega
  intro k
  induction k with
  | zero =>
    intro i f m hf1 hi L e23 e22 e25 q
    obtain ⟨f, rfl⟩ : ∃ g, f = g + 1 := ⟨f - 1, by omega⟩
    unfold wp_X12_name_7
    refine pk_le 6 i (fun _ => q m (FT.rf m) rfl rfl rfl ?_) (fun z => by omega)
    rw [e25, show i = 6 by omega]
  | succ k ih =>
    intro i f m hf1 hi L e23 e22 e25 q
    obtain ⟨f, rfl⟩ : ∃ g, f = g + 1 := ⟨f - 1, by omega⟩
    have h7 := L.1
    unfold wp_X12_name_7
    have nl := nmv_lt hf i
    have nl2 : 2 ^ (5 * i) ≤ 2 ^ 25 := Nat.pow_le_pow_right (by omega) (by omega)
    rw [e25, pk_shlN _ 5 sh5 (by omega), e22, e23, nI_add, nI_clamp (n := p + i) (by omega)]
    have st : ∀ y c, y = nI c → c = (fun j => if j < e - p then b (p + j) - 96 else 0) i → wp_X12_name_53 Q (wp_X12_name_7 Q f) (nI i) (nI (nmv (fun j => if j < e - p then b (p + j) - 96 else 0) i * 2 ^ 5)) y m := by
      rintro _ c rfl ec
      have hc : c < 2 ^ 5 := by rw [ec]; exact hf i
      unfold wp_X12_name_53
      rw [Nat.mul_comm, orA hc, nI_1]
      rintro _ rfl _ rfl
      have fs : FT m (ck_sI m 0 25 (nI (2 ^ 5 * nmv (fun j => if j < e - p then b (p + j) - 96 else 0) i + c))) := FT.set m _ (by decide) (by decide)
      refine ih (i + 1) f _ (by omega) (by omega) (L.ft fs) (by rw [ck_sI_nj _ _ (by decide)]; exact e23) (by rw [ck_sI_nj _ _ (by decide)]; exact e22) ?_ (fun m' f' a1 a2 a3 => q m' (fs.tr f') (by rw [a1, ck_sI_nj _ _ (by decide)]) (by rw [a2, ck_sI_nj _ _ (by decide)]) (by rw [a3, ck_sI_nj _ _ (by decide)]))
      rw [ck_sI_at, ec]
      rfl
    refine pk_le 6 i (fun z => by omega) (fun _ => ?_)
    refine pk_le e (p + i) (fun c => st 0 0 rfl ?_) (fun c => ⟨pu_in (by omega) (by decide), ?_⟩)
    · show 0 = if i < e - p then b (p + i) - 96 else 0
      rw [if_neg (by omega)]
    · obtain ⟨b1, b2⟩ := L.2.2 (p + i) (by omega)
      have sm := hs (p + i) (by omega) c
      rw [b2, show (97 : Int32) = nI 97 from rfl, pk_sub (by omega), nI_1]
      refine st _ (b (p + i) - 97 + 1) rfl ?_
      show _ = if i < e - p then b (p + i) - 96 else 0
      rw [if_pos (by omega)]
      omega
theorem mm_name {b : Nat → Nat} {n p e : Nat} {m : ck_H} {Q : ck_H → Prop} (L : LY b n m) (hpe : p ≤ e) (hen : e ≤ n) (h6 : e - p ≤ 6) (hs : ∀ j, p ≤ j → j < e → 97 ≤ b j ∧ b j ≤ 122) (e23 : m.1 0 23 = nI p) (e22 : m.1 0 22 = nI e) (q : ∀ m', FT m m' → m'.1 0 22 = m.1 0 22 → m'.1 0 23 = m.1 0 23 → m'.1 0 24 = m.1 0 24 → m'.1 0 25 = nI (tk_lt b p (e - p)) → Q m') : wp_X12_name m Q := by
  unfold wp_X12_name
  rintro _ rfl
  have fs : FT m (ck_sI m 0 25 0) := FT.set m _ (by decide) (by decide)
  refine mm_nm7 hpe hen hs 6 0 lpN _ (by decide) (by omega) (L.ft fs) (by rw [ck_sI_nj _ _ (by decide)]; exact e23) (by rw [ck_sI_nj _ _ (by decide)]; exact e22) (ck_sI_at ..) (fun m' f' a1 a2 a3 a4 => q m' (fs.tr f') (by rw [a1, ck_sI_nj _ _ (by decide)]) (by rw [a2, ck_sI_nj _ _ (by decide)]) (by rw [a3, ck_sI_nj _ _ (by decide)]) ?_)
  rw [a4, nmv6, ← tk_lt6 h6]
theorem mm_nu {b : Nat → Nat} {n : Nat} {Q : ck_H → Prop} : ∀ (k a f v : Nat) (m : ck_H), k < f → a + k = n → LY b n m → m.1 0 22 = nI a → m.1 0 25 = nI v → v < 1000000 → (∀ m', FT m m' → m'.1 0 23 = m.1 0 23 → m'.1 0 24 = m.1 0 24 → m'.1 0 22 = nI (tk_nu b k a v).2 → m'.1 0 25 = nI (tk_nu b k a v).1 → Q m') → wp_X12_token_162 Q f m := by
  intro k
  induction k with
  | zero =>
    intro a f v m hf ha L e e25 hv q
    obtain ⟨f, rfl⟩ : ∃ g, f = g + 1 := ⟨f - 1, by omega⟩
    have hn := L.1
    unfold wp_X12_token_162
    refine mm_here L e (by omega) (mm_dg (fun c => ?_) (fun c => br_p rfl (q m (FT.rf m) rfl rfl e e25)))
    have := (hr_dg (b := b) (fun c => (L.2.2 a c).1)).mp c
    omega
  | succ k ih =>
    intro a f v m hf ha L e e25 hv q
    obtain ⟨f, rfl⟩ : ∃ g, f = g + 1 := ⟨f - 1, by omega⟩
    have hn := L.1
    have hs := hr_dg (b := b) (n := n) (a := a) (fun c => (L.2.2 a c).1)
    unfold wp_X12_token_162
    unfold tk_nu at q
    have st : ∀ w, w = (if 99999 < v then v else 10 * v + (b a - 48)) → (48 ≤ b a ∧ b a ≤ 57) → ∀ y, y = nI w → wp_X12_token_204 Q (wp_X12_token_162 Q f) y m := by
      rintro w ew dg _ rfl
      rw [if_pos dg, ← ew] at q
      unfold wp_X12_token_204
      rintro _ rfl
      rw [ck_sI_nj _ _ (show (22 : Nat) ≠ 25 by decide), e, nI_1]
      rintro _ rfl
      have fs : FT m (ck_sI (ck_sI m 0 25 (nI w)) 0 22 (nI (a + 1))) := (FT.set m _ (by decide) (by decide)).tr (FT.set _ _ (by decide) (by decide))
      refine ih (a + 1) f w _ (by omega) (by omega) (L.ft fs) (ck_sI_at ..) (by rw [ck_sI_nj _ _ (by decide), ck_sI_at]) (by rw [ew]; split <;> omega) (fun m' f' a1 a2 => q m' (fs.tr f') (by rw [a1, ck_sI_nj _ _ (by decide), ck_sI_nj _ _ (by decide)]) (by rw [a2, ck_sI_nj _ _ (by decide), ck_sI_nj _ _ (by decide)]))
    refine mm_here L e (by omega) (mm_dg (fun c => br_n (by decide) ?_) (fun c => br_p rfl ?_))
    · have dg := (hs.mp c).2
      rw [e25]
      have iv : nI v ≤ (99999 : Int32) ↔ v ≤ 99999 := nI_leI (b := 99999) (by omega) (by omega)
      refine ⟨fun c6 => mm_here L e (by omega) ?_, fun c6 => st v (by rw [if_pos (Nat.not_le.mp (fun z => c6 (iv.mpr z)))]) dg _ rfl⟩
      have c6 := iv.mp c6
      rw [if_pos (hs.mp c).1]
      refine st (10 * v + (b a - 48)) (by rw [if_neg (by omega)]) dg _ ?_
      rw [show (10 : Int32) = nI 10 from rfl, pk_mul, nI_add, show (48 : Int32) = nI 48 from rfl, pk_sub (by omega), show 10 * v + b a - 48 = 10 * v + (b a - 48) by omega]
    · rw [if_neg (fun z => c (hs.mpr ⟨by omega, z⟩))] at q
      exact q m (FT.rf m) rfl rfl e e25
def sg_w (c d : Nat) : Nat × Nat := if c = 60 then (if d = 61 then (256, 2) else if d = 62 then (257, 2) else (60, 1)) else if c = 62 then (if d = 61 then (258, 2) else (62, 1)) else (c, 1)
theorem mm_150 {w a : Nat} {m : ck_H} {Q : ck_H → Prop} (hw : w < 2 ^ 30) (e25 : m.1 0 25 = nI w) (e22 : m.1 0 22 = nI (a + 1)) (q : ∀ m', FT m m' → m'.1 0 23 = m.1 0 23 → m'.1 0 24 = m.1 0 24 → m'.1 0 25 = nI w → m'.1 0 22 = nI (a + (if w < 256 then 1 else 2)) → Q m') : wp_X12_sign_150 Q m := by
  unfold wp_X12_sign_150
  rw [e25]
  have iw : nI w < (256 : Int32) ↔ w < 256 := nI_ltI (b := 256) (by omega) (by omega)
  refine ⟨fun c => ?_, fun c => ?_⟩
  · rw [if_pos (iw.mp c)] at q
    exact q m (FT.rf m) rfl rfl e25 e22
  · rw [if_neg (fun z => c (iw.mpr z))] at q
    rw [e22, nI_1]
    rintro _ rfl
    exact q _ (FT.set m _ (by decide) (by decide)) (ck_sI_nj _ _ (by decide)) (ck_sI_nj _ _ (by decide)) (by rw [ck_sI_nj _ _ (by decide)]; exact e25) (ck_sI_at ..)
theorem mm_76 {b : Nat → Nat} {n p c d : Nat} {y : Int32} {m : ck_H} {Q : ck_H → Prop} (L : LY b n m) (hp : p < n) (hc : c < 256) (hd : d = if p + 1 < n then b (p + 1) else 0) (e22 : m.1 0 22 = nI (p + 1)) (q : ∀ m', FT m m' → m'.1 0 23 = m.1 0 23 → m'.1 0 24 = y → m'.1 0 25 = nI (sg_w c d).1 → m'.1 0 22 = nI (p + (sg_w c d).2) → Q m') : wp_X12_sign_76 Q (nI c) y m := by
  have h7 := L.1
  have hb : p + 1 < n → b (p + 1) < 256 := fun z => (L.2.2 (p + 1) z).1
  have hx : ∀ x, 0 < x → x < 256 → ((if p + 1 < n then nI (b (p + 1)) else (-1 : Int32)) = nI x ↔ d = x) := fun x x0 x1 => by
    rw [hr_eq x1 hb, hd]
    by_cases z : p + 1 < n
    · rw [if_pos z]; exact ⟨fun y => y.2, fun y => ⟨z, y⟩⟩
    · rw [if_neg z]; exact ⟨fun y => absurd y.1 z, fun y => by omega⟩
  have x61 := hx 61 (by decide) (by decide)
  have x62 := hx 62 (by decide) (by decide)
  have i60 : nI c = (60 : Int32) ↔ c = 60 := nI_eq (b := 60) (by omega) (by omega)
  have i62 : nI c = (62 : Int32) ↔ c = 62 := nI_eq (b := 62) (by omega) (by omega)
  unfold wp_X12_sign_76
  rintro _ rfl _ rfl
  have fs : FT m (ck_sI (ck_sI m 0 24 y) 0 25 (nI c)) := (FT.set m _ (by decide) (by decide)).tr (FT.set _ _ (by decide) (by decide))
  generalize hM : ck_sI (ck_sI m 0 24 y) 0 25 (nI c) = M1 at fs
  have a22 : M1.1 0 22 = nI (p + 1) := by rw [← hM, ck_sI_nj _ _ (by decide), ck_sI_nj _ _ (by decide)]; exact e22
  have a23 : M1.1 0 23 = m.1 0 23 := by rw [← hM, ck_sI_nj _ _ (by decide), ck_sI_nj _ _ (by decide)]
  have a24 : M1.1 0 24 = y := by rw [← hM, ck_sI_nj _ _ (by decide), ck_sI_at]
  have a25 : M1.1 0 25 = nI c := by rw [← hM, ck_sI_at]
  have L1 := L.ft fs
  -- the last step, from a heap that differs in the value alone
  have fin : ∀ (w : Nat) (M2 : ck_H), FT M1 M2 → M2.1 0 22 = nI (p + 1) → M2.1 0 23 = m.1 0 23 → M2.1 0 24 = y → M2.1 0 25 = nI w → w < 2 ^ 30 → sg_w c d = (w, if w < 256 then 1 else 2) → wp_X12_sign_150 Q M2 := by
    intro w M2 f2 b22 b23 b24 b25 hw es
    rw [es] at q
    exact mm_150 hw b25 b22 (fun m' f' c23 c24 c25 c22 => q m' (fs.tr (f2.tr f')) (by rw [c23, b23]) (by rw [c24, b24]) c25 c22)
  have setv : ∀ w, FT M1 (ck_sI M1 0 25 (nI w)) ∧ (ck_sI M1 0 25 (nI w)).1 0 22 = nI (p + 1) ∧ (ck_sI M1 0 25 (nI w)).1 0 23 = m.1 0 23 ∧ (ck_sI M1 0 25 (nI w)).1 0 24 = y ∧ (ck_sI M1 0 25 (nI w)).1 0 25 = nI w := fun w => ⟨FT.set M1 _ (by decide) (by decide), by rw [ck_sI_nj _ _ (by decide)]; exact a22, by rw [ck_sI_nj _ _ (by decide)]; exact a23, by rw [ck_sI_nj _ _ (by decide)]; exact a24, ck_sI_at ..⟩
  have n128 : ¬ c = 62 → ∀ M2, wp_X12_sign_150 Q M2 → wp_X12_sign_128 Q (nI c) M2 := fun z M2 k => by unfold wp_X12_sign_128; exact br_m (fun y => z (i62.mp y)) k
  have k106 : ¬ c = 60 → wp_X12_sign_106 Q (nI c) M1 := by
    intro z
    unfold wp_X12_sign_106
    refine br_m (fun y => z (i60.mp y)) ?_
    by_cases z2 : c = 62
    · unfold wp_X12_sign_128
      refine br_q (i62.mpr z2) (mm_here L1 a22 (by omega) ⟨fun z3 => ?_, fun z3 => ?_⟩)
      · refine fin 62 M1 (FT.rf M1) a22 a23 a24 (by rw [a25, z2]) (by decide) ?_
        unfold sg_w
        rw [if_neg z, if_pos z2, if_neg (fun y => z3 (x61.mpr y))]
        rfl
      · rintro _ rfl
        obtain ⟨s1, s2, s3, s4, s5⟩ := setv 258
        refine fin 258 _ s1 s2 s3 s4 s5 (by decide) ?_
        unfold sg_w
        rw [if_neg z, if_pos z2, if_pos (x61.mp z3)]
        rfl
    · refine n128 z2 M1 (fin c M1 (FT.rf M1) a22 a23 a24 a25 (by omega) ?_)
      unfold sg_w
      rw [if_neg z, if_neg z2, if_pos hc]
  refine ⟨fun z => k106 (fun y => z (i60.mpr y)), fun z => ?_⟩
  have z := i60.mp z
  have n62 : ¬ c = 62 := by omega
  refine mm_here L1 a22 (by omega) ⟨fun z3 => ?_, fun z3 => ?_⟩
  · unfold wp_X12_sign_106
    refine br_q (i60.mpr z) (mm_here L1 a22 (by omega) ⟨fun z4 => ?_, fun z4 => ?_⟩)
    · refine n128 n62 M1 (fin 60 M1 (FT.rf M1) a22 a23 a24 (by rw [a25, z]) (by decide) ?_)
      unfold sg_w
      rw [if_pos z, if_neg (fun y => z3 (x61.mpr y)), if_neg (fun y => z4 (x62.mpr y))]
      rfl
    · rintro _ rfl
      obtain ⟨s1, s2, s3, s4, s5⟩ := setv 257
      refine n128 n62 _ (fin 257 _ s1 s2 s3 s4 s5 (by decide) ?_)
      unfold sg_w
      rw [if_pos z, if_neg (fun y => z3 (x61.mpr y)), if_pos (x62.mp z4)]
      rfl
  · rintro _ rfl
    obtain ⟨s1, s2, s3, s4, s5⟩ := setv 256
    have d61 := x61.mp z3
    unfold wp_X12_sign_106
    refine br_q (i60.mpr z) (mm_here (L1.ft s1) s2 (by omega) ⟨fun z4 => ?_, fun z4 => ?_⟩)
    · refine n128 n62 _ (fin 256 _ s1 s2 s3 s4 s5 (by decide) ?_)
      unfold sg_w
      rw [if_pos z, if_pos d61]
      rfl
    · have := x62.mp z4
      omega
theorem sg_tab : ∀ c, c < 256 → ∀ d, (d = 61 ∨ d = 62 ∨ d = 0) → ((c = 59 ∨ c = 40 ∨ c = 41 ∨ c = 43 ∨ c = 45 ∨ c = 42 ∨ c = 47 ∨ c = 60 ∨ c = 61 ∨ c = 62) → tk_cod (tk_sg c d) = (sg_w c d).1 ∧ tk_sb (tk_sg c d) = (sg_w c d).2 ∧ tk_srt (tk_sg c d) = 3 ∧ 4 ≤ tk_sg c d) := by
  intro c hc d hd h
  rcases hd with rfl | rfl | rfl <;> rcases h with rfl | rfl | rfl | rfl | rfl | rfl | rfl | rfl | rfl | rfl <;> decide
theorem sg_d {c d : Nat} (h1 : d ≠ 61) (h2 : d ≠ 62) : tk_sg c d = tk_sg c 0 ∧ sg_w c d = sg_w c 0 := by
  unfold tk_sg sg_w
  simp [h1, h2]
theorem sg_all {c d : Nat} (hc : c < 256) (h : c = 59 ∨ c = 40 ∨ c = 41 ∨ c = 43 ∨ c = 45 ∨ c = 42 ∨ c = 47 ∨ c = 60 ∨ c = 61 ∨ c = 62) : tk_cod (tk_sg c d) = (sg_w c d).1 ∧ tk_sb (tk_sg c d) = (sg_w c d).2 ∧ tk_srt (tk_sg c d) = 3 ∧ 4 ≤ tk_sg c d := by
  by_cases h1 : d = 61
  · exact sg_tab c hc d (Or.inl h1) h
  · by_cases h2 : d = 62
    · exact sg_tab c hc d (Or.inr (Or.inl h2)) h
    · rw [(sg_d h1 h2).1, (sg_d h1 h2).2]
      exact sg_tab c hc 0 (Or.inr (Or.inr rfl)) h
theorem mm_sign {b : Nat → Nat} {n p : Nat} {m : ck_H} {Q : ck_H → Prop} (L : LY b n m) (hp : p < n) (e22 : m.1 0 22 = nI p) (e23 : m.1 0 23 = nI p) (ns : ¬ (97 ≤ b p ∧ b p ≤ 122)) (nd : ¬ (48 ≤ b p ∧ b p ≤ 57)) (q : ∀ m', FT m m' → CM' (tk_at b n p) m' → Q m') : wp_X12_sign (nI (b p)) m Q := by
  have h7 := L.1
  have b1 := (L.2.2 p hp).1
  have et : tk_at b n p = (tk_sg (b p) (if p + 1 < n then b (p + 1) else 0), 0, p, p + tk_sb (tk_sg (b p) (if p + 1 < n then b (p + 1) else 0))) := by
    unfold tk_at
    rw [if_neg (by omega), if_neg ns, if_neg nd]
  generalize hd : (if p + 1 < n then b (p + 1) else 0) = d at et
  rw [et] at q
  generalize b p = c at b1 q ns nd
  unfold wp_X12_sign
  rw [e22, nI_1]
  rintro _ rfl
  have fs : FT m (ck_sI m 0 22 (nI (p + 1))) := FT.set m _ (by decide) (by decide)
  have L1 := L.ft fs
  have sp : (c = 59 ∨ c = 40 ∨ c = 41 ∨ c = 43 ∨ c = 45 ∨ c = 42 ∨ c = 47 ∨ c = 60 ∨ c = 61 ∨ c = 62) → wp_X12_sign_71 Q (nI c) (ck_sI m 0 22 (nI (p + 1))) := by
    intro h
    obtain ⟨t1, t2, t3, t4⟩ := sg_all (d := d) b1 h
    unfold wp_X12_sign_71
    refine mm_76 L1 hp b1 hd.symm (ck_sI_at ..) (fun m' f' a23 a24 a25 a22 => q m' (fs.tr f') ⟨?_, ?_, ?_, fun z => ?_, fun _ => ?_⟩)
    · rw [a24]; show (3 : Int32) = nI (tk_srt (tk_sg c d)); rw [t3]; rfl
    · rw [a23, ck_sI_nj _ _ (by decide)]; exact e23
    · rw [a22, ← t2]
    · have z : tk_sg c d = 2 ∨ tk_sg c d = 3 := z
      omega
    · rw [a25]; show _ = nI (tk_cod (tk_sg c d)); rw [t1]
  have iq : ∀ x, x < 256 → (nI c = nI x ↔ c = x) := fun x hx => nI_eq (by omega) (by omega)
  refine ⟨fun z => sp (by have := (iq 59 (by decide)).mp z; omega), fun n1 => ⟨fun z => sp (by have := (iq 40 (by decide)).mp z; omega), fun n2 => ⟨fun z => sp (by have := (iq 41 (by decide)).mp z; omega), fun n3 => ⟨fun z => sp (by have := (iq 43 (by decide)).mp z; omega), fun n4 => ⟨fun z => sp (by have := (iq 45 (by decide)).mp z; omega), fun n5 => ⟨fun z => sp (by have := (iq 42 (by decide)).mp z; omega), fun n6 => ⟨fun z => sp (by have := (iq 47 (by decide)).mp z; omega), fun n7 => ⟨fun z => sp (by have := (iq 60 (by decide)).mp z; omega), fun n8 => ⟨fun z => sp (by have := (iq 61 (by decide)).mp z; omega), fun n9 => ⟨fun n10 => ?_, fun z => sp (by have := (iq 62 (by decide)).mp z; omega)⟩⟩⟩⟩⟩⟩⟩⟩⟩⟩
  have m1 : ¬ c = 59 := fun z => n1 ((iq 59 (by decide)).mpr z)
  have m2 : ¬ c = 40 := fun z => n2 ((iq 40 (by decide)).mpr z)
  have m3 : ¬ c = 41 := fun z => n3 ((iq 41 (by decide)).mpr z)
  have m4 : ¬ c = 43 := fun z => n4 ((iq 43 (by decide)).mpr z)
  have m5 : ¬ c = 45 := fun z => n5 ((iq 45 (by decide)).mpr z)
  have m6 : ¬ c = 42 := fun z => n6 ((iq 42 (by decide)).mpr z)
  have m7 : ¬ c = 47 := fun z => n7 ((iq 47 (by decide)).mpr z)
  have m8 : ¬ c = 60 := fun z => n8 ((iq 60 (by decide)).mpr z)
  have m9 : ¬ c = 61 := fun z => n9 ((iq 61 (by decide)).mpr z)
  have m10 : ¬ c = 62 := fun z => n10 ((iq 62 (by decide)).mpr z)
  have e1 : tk_sg c d = 1 := by
    unfold tk_sg
    rw [if_neg m1, if_neg m2, if_neg m3, if_neg m4, if_neg m5, if_neg m6, if_neg m7, if_neg m9, if_neg m8, if_neg m10]
  have e2 : sg_w c d = (c, 1) := by
    unfold sg_w
    rw [if_neg m8, if_neg m10]
  rw [e1] at q
  refine mm_76 L1 hp b1 hd.symm (ck_sI_at ..) (fun m' f' a23 a24 a25 a22 => q m' (fs.tr f') ⟨a24, ?_, ?_, fun z => ?_, fun z => ?_⟩)
  · rw [a23, ck_sI_nj _ _ (by decide)]; exact e23
  · rw [a22, e2]; rfl
  · exact absurd (show (1 : Nat) = 2 ∨ (1 : Nat) = 3 from z) (by decide)
  · exact absurd (show 4 ≤ 1 from z) (by decide)
