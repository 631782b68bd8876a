/-! the model's line, beside the class's -/
theorem rdD.semi {J N S : Nat} {u : List (Nat × Nat)} {h1 h2 m1 m' : ck_H} (R : rdD J N S u h1 m1) (f : FW m1 m') (e : ∀ a, 54 ≤ a → h2.1 a = h1.1 a) (e3 : ∀ i, i ≠ 17 → h2.1 53 i = h1.1 53 i) (e17 : h2.1 53 17 = h1.1 53 17 + 1) : rdD J N S u h2 (ck_sI m' 0 20 (m'.1 0 20 + 1)) := by
  obtain ⟨rj, rn, rs, ro, rl, r20⟩ := R
  have g : ∀ a i, ¬ (a = 0 ∧ 22 ≤ i ∧ i ≤ 27) → ¬ (a = 0 ∧ i = 20) → (ck_sI m' 0 20 (m'.1 0 20 + 1)).1 a i = m1.1 a i := by
    intro a i z1 z2
    by_cases c : a = 0
    · subst c; rw [ck_sI_nj _ _ (by omega), f.2.1 i (by omega)]
    · rw [ck_sI_ne _ _ _ c, f.1 a c]
  have mg : ∀ k, mk k (ck_sI m' 0 20 (m'.1 0 20 + 1)) ↔ mk k m1 := fun k => by unfold mk; rw [g 0 19 (by omega) (by omega)]
  refine ⟨rj.of (fun a h _ => e a h) (fun a i z => g a i (by omega) (by omega)), rn.of (fun a h _ => e a (by omega)) (fun a i z => g a i (by omega) (by omega)), rs.of (Nat.le_refl _) (Nat.le_refl _) (fun a h _ => e a (by omega)) (fun a i z => g a i (by omega) (by omega)), ro.of (fun i _ _ => e3 i (by omega)) ⟨g 2 10 (by omega) (by omega), g 2 11 (by omega) (by omega)⟩ (fun k _ _ => mg k), rl.of (fun a h _ => e a (by omega)) (fun a i z => g a i (by omega) (by omega)) (fun k _ _ => mg k), ?_⟩
  rw [e17, ck_sI_at, r20, f.2.1 20 (by omega)]
def alA : List (Nat × Nat × Int32) → Prop
  | [] => True
  | x :: l => alw x.1 x.2.1 ∧ alA l
theorem UPD.fu {m m' : ck_H} : ∀ {l : List (Nat × Nat × Int32)}, UPD m m' l → alA l → FU m m' := by
  intro l U A a i h1 h2
  rw [U a i h1]
  have : lk l a i = none := by
    clear U
    induction l with
    | nil => rfl
    | cons x l ih =>
      obtain ⟨a', i', v⟩ := x
      show (if a = a' ∧ i = i' then some v else lk l a i) = none
      rw [if_neg (fun z => h2 (by rw [z.1, z.2]; exact A.1))]
      exact ih A.2
  rw [this]
  rfl
theorem FU.fm {m m' : ck_H} (f : FM m m') : FU m m' := fun a i h1 h2 => by
  have n2 : a = 2 → i ≠ 13 := fun z y => h2 (by rw [z, y]; exact al (by omega) (by omega) (by show 7 ≤ 13; omega))
  have n16 : a = 16 ∨ a = 17 → i < 64 := fun z => by
    by_cases c : i < 64
    · exact c
    · refine absurd (al (a := a) (i := i) (by omega) (by omega) ?_) h2
      rcases z with rfl | rfl
      · show 64 ≤ i; omega
      · show 64 ≤ i; omega
  by_cases c0 : a = 0
  · subst c0
    have : ¬ (i = 19 ∨ i = 20 ∨ i = 30 ∨ i = 31) := fun z => h2 (Or.inl ⟨rfl, z⟩)
    exact f.2.2.2.1 i (by omega) (by omega) (by omega)
  · by_cases c2 : a = 2
    · subst c2; exact f.2.1 i (n2 rfl)
    · by_cases c16 : a = 16
      · subst c16; exact (f.2.2.1 i (n16 (Or.inl rfl))).1
      · by_cases c17 : a = 17
        · subst c17; exact (f.2.2.1 i (n16 (Or.inr rfl))).2
        · rw [f.1 a c0 c2 c16 c17]
theorem alw19 : alw 0 19 := Or.inl ⟨rfl, Or.inl rfl⟩
theorem alw20 : alw 0 20 := Or.inl ⟨rfl, Or.inr (Or.inl rfl)⟩
/-- what comes behind a line's last field -/
theorem mm_lnE {b : Nat → Nat} {n : Nat} {t1 : Tk} {m m1 : ck_H} {Q : ck_H → Prop} {R1 : ck_H → Prop} (F : FU m m1) (C : MT b n t1 m1) (r : ∀ m', FW m1 m' → R1 (ck_sI m' 0 20 (m'.1 0 20 + 1)))
    (q0 : t1.1 = 4 → ∀ m', FU m m' → MT b n (nxt b n t1) m' → R1 m' → Q m') (q1 : ¬ t1.1 = 4 → ∀ m', FU m m' → MFt 1 t1 m' → Q m') : wp_X12_line_438 Q m1 :=
  mm_semi C (fun z m' f' C' => q0 z _ ((F.tr (FU.fw f')).tr (FU.set _ _ alw20)) (C'.set alw20) (r m' f')) (fun z m' f' B => q1 z m' (F.tr f') B)
/-- what a law's line has written -/
def lwF (x : Nat) (u e : List (Nat × Nat)) (m m' : ck_H) : Prop := (∀ a i, (a = 2 ∧ i ≠ 13) ∨ (3 ≤ a ∧ a ≤ 13) ∨ (a = 0 ∧ i = 20) → m'.1 a i = m.1 a i) ∧ m'.1 2 13 = nI (u ++ e).length ∧ (∀ i, i < (u ++ e).length → ev_kr (nI ((u ++ e).getD i (0, 0)).1) (nI ((u ++ e).getD i (0, 0)).2) (m'.1 16 (64 + i)) (m'.1 17 (64 + i))) ∧ m'.1 0 30 = nI 0 ∧ m'.1 0 31 = nI (u ++ e).length ∧
  m'.1 14 (3 + x) = nI u.length ∧ m'.1 15 (3 + x) = nI (u ++ e).length ∧ (∀ i, i ≠ 3 + x → m'.1 14 i = m.1 14 i ∧ m'.1 15 i = m.1 15 i) ∧ m'.1 0 19 = (m.1 0 19 ||| ((1 : Int32) <<< (nI 6 &&& 31))) ||| ((1 : Int32) <<< (nI (16 + x) &&& 31))
theorem tlC_iff {J N S k : Nat} {u : List (Nat × Nat)} {h m : ck_H} (R : rdD J N S u h m) (hk : k < 3) : tlC h k = true ↔ ((m.1 0 19 >>> (nI (16 + k) &&& 31)) &&& 1) = 1 := by
  obtain ⟨a, e, b1, b2, _, _, b5, b6, _, b8⟩ := R.2.2.2.2.1.2.2.2.2.2.2 k hk
  have u64 := R.2.2.2.2.1.2.1
  unfold tlC
  rw [decide_eq_true_iff, b1, b2]
  exact (nI_ltI (by omega) (by omega)).trans b8.symm
theorem mm_lawE {b : Nat → Nat} {n J N S : Nat} {u : List (Nat × Nat)} {t : Tk} {h m : ck_H} {Q : ck_H → Prop} (C : MT b n t m) (R : rdD J N S u h m)
    (qL : ¬ fLaw (tlC h) (nxt b n t) = 0 → ∀ m', FU m m' → MFt (fLaw (tlC h) (nxt b n t)) (nxt b n t) m' → Q m')
    (qG : fLaw (tlC h) (nxt b n t) = 0 → ∀ mE m1 t' kn' e P u1, FU m m1 → MT b n t' m1 → lwF ((nxt b n t).1 - 26) u e m m1 → nGD b n 1 1 u.length (nxt b n (nxt b n t)) [] 0 u.length u mE t' kn' e P u1 → wp_X12_line_438 Q m1)
    (qD : fLaw (tlC h) (nxt b n t) = 0 → ∀ m1 t', FU m m1 → MT b n t' m1 → bop t'.1 = 4 → SyB (nxt b n) (nxt b n (nxt b n t), true, [], 0, u.length, u) 1 t'.2.2.1 → wp_X12_line_438 Q m1)
    (qB : fLaw (tlC h) (nxt b n t) = 0 → ∀ m1 f p, FU m m1 → (f = 1 ∨ f = 2) → m1.1 0 26 = nI f → m1.1 0 27 = nI p → SyB (nxt b n) (nxt b n (nxt b n t), true, [], 0, u.length, u) f p → Q m1) : wp_X12_line_70 Q (nI 6) m := by
  obtain ⟨rj, rn, rs, ro, rL, r20⟩ := id R
  refine mm_lawL (tl := tlC h) C (fun k hk => tlC_iff R hk) (fun z k1 k2 m2 U C2 => ?_) qL
  have x3 : (nxt b n t).1 - 26 < 3 := by omega
  generalize hx : (nxt b n t).1 - 26 = x at *
  have lkE : ∀ a i, lk [(0, 19, (m.1 0 19 ||| ((1 : Int32) <<< (nI 6 &&& 31))) ||| ((1 : Int32) <<< (nI (16 + x) &&& 31))), (0, 19, m.1 0 19 ||| ((1 : Int32) <<< (nI 6 &&& 31)))] a i = if a = 0 ∧ i = 19 then some ((m.1 0 19 ||| ((1 : Int32) <<< (nI 6 &&& 31))) ||| ((1 : Int32) <<< (nI (16 + x) &&& 31))) else if a = 0 ∧ i = 19 then some (m.1 0 19 ||| ((1 : Int32) <<< (nI 6 &&& 31))) else none := fun _ _ => rfl
  have U2 : ∀ a i, ¬ (a = 0 ∧ 22 ≤ i ∧ i ≤ 27) → ¬ (a = 0 ∧ i = 19) → m2.1 a i = m.1 a i := fun a i z1 z2 => by
    rw [U a i z1, lkE, if_neg z2, if_neg z2]; rfl
  have e19 : m2.1 0 19 = (m.1 0 19 ||| ((1 : Int32) <<< (nI 6 &&& 31))) ||| ((1 : Int32) <<< (nI (16 + x) &&& 31)) := by
    rw [U 0 19 (by omega), lkE, if_pos ⟨rfl, rfl⟩]; rfl
  have a14 : alw 14 (3 + x) := al (by omega) (by omega) (by show 3 ≤ 3 + x; omega)
  have a15 : alw 15 (3 + x) := al (by omega) (by omega) (by show 3 ≤ 3 + x; omega)
  have C3 := C2.set (v := m2.1 2 13) a14
  have F3 : FU m (ck_sI m2 14 (3 + x) (m2.1 2 13)) := (U.fu ⟨alw19, alw19, trivial⟩).tr (FU.set _ _ a14)
  have S3 : SM (nxt b n (nxt b n t)) 0 u.length u (ck_sI m2 14 (3 + x) (m2.1 2 13)) := by
    refine ⟨C3.2.2.1, C3.2.2.2, ?_, ?_, ?_, fun i hi => ?_⟩
    · rw [ck_sI_ne _ _ _ (by omega), U2 0 30 (by omega) (by omega)]; exact rL.2.2.2.2.1
    · rw [ck_sI_ne _ _ _ (by omega), U2 0 31 (by omega) (by omega)]; exact rL.2.2.2.2.2.1
    · rw [ck_sI_ne _ _ _ (by omega), U2 2 13 (by omega) (by omega)]; exact rL.2.2.1
    · rw [ck_sI_ne _ _ _ (by omega), ck_sI_ne _ _ _ (by omega), U2 16 _ (by omega) (by omega), U2 17 _ (by omega) (by omega)]; exact rL.2.2.2.1 i hi
  refine nt_expr 11 (nxt b n (nxt b n t)) [] 0 u.length u _ _ C3.1 C3.2.1 S3 rL.2.1 (by omega) (by omega) (Nat.zero_le _) rfl (by show 0 < 1; omega) (fun y => absurd y (by omega)) (fun m' O => ?_)
  obtain ⟨fm, O⟩ := O
  refine mm_fr (i := 6) (by omega) ⟨pu_in (by omega) (by decide), ?_⟩
  rintro _ rfl
  have F5 : FU m (ck_sI m' 15 (3 + x) (m'.1 2 13)) := (F3.tr (FU.fm fm)).tr (FU.set _ _ a15)
  rcases O with ⟨t', kn', e, P, u1, G⟩ | ⟨_, t', kn', e, T', S', _, _, b4, B⟩ | ⟨f, p, hf, e26, e27, B⟩
  · have S' := G.2.1
    have T' := G.1
    have kk : kn' = (u ++ e).length := by have := G.2.2.2.1; have : (u ++ e).length + 0 = kn' := this; omega
    have C5 : MT b n t' (ck_sI m' 15 (3 + x) (m'.1 2 13)) := MT.set ⟨FM.ly C3.1 fm, T', S'.1, S'.2.1⟩ a15
    refine qG z m' _ t' kn' e P u1 F5 C5 ⟨fun a i hh => ?_, ?_, fun i hi => ?_, ?_, ?_, ?_, ?_, fun i hi => ⟨?_, ?_⟩, ?_⟩ G
    · rw [ck_sI_ne _ _ _ (by omega)]
      rw [← U2 a i (by omega) (by omega)]
      by_cases c0 : a = 0
      · subst c0
        rw [fm.2.2.2.1 i (by omega) (by omega) (by omega), ck_sI_ne _ _ _ (by omega)]
      · by_cases c2 : a = 2
        · subst c2
          rw [fm.2.1 i (by omega), ck_sI_ne _ _ _ (by omega)]
        · rw [fm.1 a c0 c2 (by omega) (by omega), ck_sI_ne _ _ _ (by omega)]
    · rw [ck_sI_ne _ _ _ (by omega)]; exact S'.2.2.2.2.1
    · rw [ck_sI_ne _ _ _ (by omega), ck_sI_ne _ _ _ (by omega)]; exact S'.2.2.2.2.2 i hi
    · rw [ck_sI_ne _ _ _ (by omega)]; exact S'.2.2.1
    · rw [ck_sI_ne _ _ _ (by omega), ← kk]; exact S'.2.2.2.1
    · rw [ck_sI_ne _ _ _ (by omega), fm.1 14 (by omega) (by omega) (by omega) (by omega), ck_sI_at, U2 2 13 (by omega) (by omega)]; exact rL.2.2.1
    · rw [ck_sI_at]; exact S'.2.2.2.2.1
    · rw [ck_sI_ne _ _ _ (by omega), fm.1 14 (by omega) (by omega) (by omega) (by omega), ck_sI_nj _ _ hi, U2 14 i (by omega) (by omega)]
    · rw [ck_sI_nj _ _ hi, fm.1 15 (by omega) (by omega) (by omega) (by omega), ck_sI_ne _ _ _ (by omega), U2 15 i (by omega) (by omega)]
    · rw [ck_sI_ne _ _ _ (by omega), fm.2.2.2.1 19 (by omega) (by omega) (by omega), ck_sI_ne _ _ _ (by omega)]; exact e19
  · exact qD z _ t' F5 (MT.set ⟨FM.ly C3.1 fm, T', S'.1, S'.2.1⟩ a15) b4 B
  · have e26' : (ck_sI m' 15 (3 + x) (m'.1 2 13)).1 0 26 = nI f := by rw [ck_sI_ne _ _ _ (by omega)]; exact e26
    have e27' : (ck_sI m' 15 (3 + x) (m'.1 2 13)).1 0 27 = nI p := by rw [ck_sI_ne _ _ _ (by omega)]; exact e27
    exact ln438F (by rw [e26']; exact nI_ne0 (by omega) (by omega)) (qB z _ f p F5 hf e26' e27' B)
