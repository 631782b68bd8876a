/-! courts alike, and courts in order, through a day -/
def TQ (J S : Nat) (t u : Tt) : Prop := (t.1 4 = u.1 4 ∧ t.1 5 = u.1 5 ∧ t.1 6 = u.1 6 ∧ t.1 7 = u.1 7) ∧ (∀ j, j < J → t.2.1 j = u.2.1 j) ∧ (∀ s, s < S → t.2.2.1 s = u.2.2.1 s ∧ t.2.2.2.1 s = u.2.2.2.1 s ∧ t.2.2.2.2.1 s = u.2.2.2.2.1 s) ∧ t.2.2.2.2.2.2 = u.2.2.2.2.2.2
def TL (J : Nat) (t u : Tt) : Prop := ∀ j, j < J → t.2.2.2.2.2.1 j = u.2.2.2.2.2.1 j
theorem TQ.rf (J S : Nat) (t : Tt) : TQ J S t t := ⟨⟨rfl, rfl, rfl, rfl⟩, fun _ _ => rfl, fun _ _ => ⟨rfl, rfl, rfl⟩, rfl⟩
theorem TQ.sy {J S : Nat} {t u : Tt} (h : TQ J S t u) : TQ J S u t := ⟨⟨h.1.1.symm, h.1.2.1.symm, h.1.2.2.1.symm, h.1.2.2.2.symm⟩, fun j hj => (h.2.1 j hj).symm, fun s hs => ⟨(h.2.2.1 s hs).1.symm, (h.2.2.1 s hs).2.1.symm, (h.2.2.1 s hs).2.2.symm⟩, h.2.2.2.symm⟩
theorem TQ.tr {J S : Nat} {t u v : Tt} (h : TQ J S t u) (g : TQ J S u v) : TQ J S t v :=
  ⟨⟨h.1.1.trans g.1.1, h.1.2.1.trans g.1.2.1, h.1.2.2.1.trans g.1.2.2.1, h.1.2.2.2.trans g.1.2.2.2⟩, fun j hj => (h.2.1 j hj).trans (g.2.1 j hj), fun s hs => ⟨(h.2.2.1 s hs).1.trans (g.2.2.1 s hs).1, (h.2.2.1 s hs).2.1.trans (g.2.2.1 s hs).2.1, (h.2.2.1 s hs).2.2.trans (g.2.2.1 s hs).2.2⟩, h.2.2.2.trans g.2.2.2⟩
theorem TOk.q {B J S : Nat} {t u : Tt} (H : TOk B J S t) (h : TQ J S t u) : TOk B J S u := by
  refine ⟨?_, ?_, fun j hj => ?_, fun s hs => ?_, fun s hs => ?_, fun s hs => ?_⟩
  · rw [← h.1.2.1]; exact H.1
  · rw [← h.1.2.2.1]; exact H.2.1
  · rw [← h.2.1 j hj]; exact H.2.2.1 j hj
  · rw [← (h.2.2.1 s hs).1]; exact H.2.2.2.1 s hs
  · rw [← (h.2.2.1 s hs).2.1]; exact H.2.2.2.2.1 s hs
  · rw [← (h.2.2.1 s hs).2.2]; exact H.2.2.2.2.2 s hs
theorem TOk.le {B B' J S : Nat} {t : Tt} (H : TOk B J S t) (h : B ≤ B') : TOk B' J S t := ⟨by obtain ⟨d, h1, h2⟩ := H.1; exact ⟨d, by omega, h2⟩, H.2⟩
theorem upd_q {f g : Nat → Int32} {k : Nat} {v w : Int32} {n : Nat} (h : ∀ i, i < n → f i = g i) (e : v = w) : ∀ i, i < n → upd f k v i = upd g k w i := by
  intro i hi
  by_cases c : i = k
  · subst c; rw [pk_us, pk_us, e]
  · rw [pk_un c, pk_un c, h i hi]
theorem T_out_Q {J S : Nat} {p : Nat → Nat → Int32} {md : Md} {t u : Tt} {s j n : Nat} {hd : Int32} {sd : Int64} (hj : j < J) (h : TQ J S t u) (l : TL J t u) : TQ J S (T_out p md t s j n hd sd) (T_out p md u s j n hd sd) ∧ TL J (T_out p md t s j n hd sd) (T_out p md u s j n hd sd) := by
  have e1 : T_nm p t j n hd = T_nm p u j n hd := by unfold T_nm; rw [h.2.1 j hj, h.1.2.2.1, l j hj, h.1.2.1]
  have e2 : T_nm1 p t j n hd = T_nm1 p u j n hd := by unfold T_nm1; rw [h.2.1 j hj, h.1.2.2.1, l j hj, h.1.2.1]
  have e3 : T_fo p md t j n hd = T_fo p md u j n hd := by unfold T_fo; rw [e1, h.2.1 j hj, h.1.2.2.1]
  have e4 : T_sl p t j n hd = T_sl p u j n hd := by unfold T_sl; rw [e1]
  have e5 : T_v p md t j n hd = T_v p md u j n hd := by unfold T_v; rw [e3, e4]
  unfold T_out
  rw [e2, e3, e4, e5, h.2.1 j hj, h.1.2.2.1, h.1.2.2.2, l j hj]
  have hv : ∀ v : Int32, ∀ i, i < S → t.2.2.1 i = u.2.2.1 i ∧ t.2.2.2.1 i = u.2.2.2.1 i ∧ upd t.2.2.2.2.1 s v i = upd u.2.2.2.2.1 s v i := fun v i hi => ⟨(h.2.2.1 i hi).1, (h.2.2.1 i hi).2.1, upd_q (fun k hk => (h.2.2.1 k hk).2.2) rfl i hi⟩
  split
  · split
    · exact ⟨⟨⟨by dsimp only; rw [pk_un (by decide), pk_un (by decide)]; exact h.1.1, by dsimp only; rw [pk_un (by decide), pk_un (by decide)]; exact h.1.2.1, by dsimp only; rw [pk_un (by decide), pk_un (by decide)]; exact h.1.2.2.1, by dsimp only; rw [pk_us, pk_us]⟩, upd_q h.2.1 rfl, hv _, rfl⟩, upd_q l rfl⟩
    · exact ⟨⟨h.1, h.2.1, hv _, rfl⟩, upd_q l rfl⟩
  · split
    · exact ⟨⟨h.1, h.2.1, hv _, rfl⟩, upd_q l rfl⟩
    · exact ⟨⟨⟨by dsimp only; rw [pk_un (by decide), pk_un (by decide)]; exact h.1.1, by dsimp only; rw [pk_un (by decide), pk_un (by decide)]; exact h.1.2.1, by dsimp only; rw [pk_us, pk_us], by dsimp only; rw [pk_un (by decide), pk_un (by decide)]; exact h.1.2.2.2⟩, h.2.1, hv _, rfl⟩, upd_q l rfl⟩
theorem T_try_Q {B J S : Nat} {p : Nat → Nat → Int32} {md : Md} {t u : Tt} {s : Nat} (hJ : J ≤ 4) (hs : s < S) (H : TOk B J S t) (h : TQ J S t u) (l : TL J t u) : TQ J S (T_try p md t s) (T_try p md u s) ∧ TL J (T_try p md t s) (T_try p md u s) := by
  obtain ⟨j, hj, ej⟩ := H.2.2.2.1 s hs
  have e1 : T_hd p md t s = T_hd p md u s := by unfold T_hd T_hard; rw [h.1.1, h.2.2.2]
  unfold T_try
  rw [← (h.2.2.1 s hs).1, ej, nI_clamp (n := j) (by omega), e1, h.2.2.2]
  exact T_out_Q hj h l
theorem T_one_Q {B J S : Nat} {p : Nat → Nat → Int32} {md : Md} {t u : Tt} {s : Nat} (hJ : J ≤ 4) (hs : s < S) (H : TOk B J S t) (h : TQ J S t u) (l : TL J t u) : TQ J S (T_one p md t s) (T_one p md u s) ∧ TL J (T_one p md t s) (T_one p md u s) := by
  have e : T_due md t s ↔ T_due md u s := by
    unfold T_due
    rw [(h.2.2.1 s hs).1, (h.2.2.1 s hs).2.1, (h.2.2.1 s hs).2.2, h.1.2.1]
  unfold T_one
  by_cases c : T_due md t s
  · rw [if_pos c, if_pos (e.mp c)]; exact T_try_Q hJ hs H h l
  · rw [if_neg c, if_neg (fun z => c (e.mpr z))]; exact ⟨h, l⟩
theorem sp_verd_rg (f sl hd : Int32) : rg (sp_verd f sl hd) 3 := by
  unfold sp_verd
  split
  · exact ⟨0, by omega, rfl⟩
  · split
    · exact ⟨1, by omega, rfl⟩
    · split
      · exact ⟨2, by omega, rfl⟩
      · exact ⟨3, by omega, rfl⟩
theorem upd_all {P : Int32 → Prop} {f : Nat → Int32} {k : Nat} {v : Int32} {n : Nat} (h : ∀ i, i < n → P (f i)) (hv : P v) : ∀ i, i < n → P (upd f k v i) := by
  intro i hi
  by_cases c : i = k
  · subst c; rw [pk_us]; exact hv
  · rw [pk_un c]; exact h i hi
theorem T_lev {a : Nat} {o : Option Int64} (h1 : 1 ≤ a) (h2 : a ≤ 99) : ∃ b, 1 ≤ b ∧ b ≤ 99 ∧ (if 1 ≤ nI a - sp_by o 0 9 1 then nI a - sp_by o 0 9 1 else 1) = nI b := by
  obtain ⟨w, w1, w2, w3⟩ := sp_by_rg (o := o) (lo := 0) (hi := 9) (pl := 1) (by omega) (by omega) (by omega) (by omega)
  have w3' : sp_by o 0 9 1 = nI w := w3
  rw [w3']
  by_cases c : w < a
  · rw [pk_sub (by omega), if_pos (show (1 : Int32) ≤ nI (a - w) from nI_le (a := 1) (by omega) (by omega))]
    exact ⟨a - w, by omega, by omega, rfl⟩
  · rw [if_neg]
    · exact ⟨1, by omega, by omega, rfl⟩
    · intro z
      rw [Int32.le_iff_toInt_le, pk_sub_toInt (by omega) (by omega)] at z
      have : (1 : Int32).toInt = 1 := by decide
      omega
theorem T_out_Ok {B J S : Nat} {p : Nat → Nat → Int32} {md : Md} {t : Tt} {s j n : Nat} {hd : Int32} {sd : Int64} (hj : j < J) (H : TOk B J S t) : TOk B J S (T_out p md t s j n hd sd) := by
  have hv : ∀ i, i < S → upd t.2.2.2.2.1 s (T_v p md t j n hd) i = -1 ∨ rg (upd t.2.2.2.2.1 s (T_v p md t j n hd) i) 3 := upd_all (P := fun x => x = -1 ∨ rg x 3) H.2.2.2.2.2 (Or.inr (sp_verd_rg _ _ _))
  unfold T_out
  split
  · split
    · rename_i c
      refine ⟨?_, ?_, upd_all (P := fun x => rg x 9) H.2.2.1 ?_, H.2.2.2.1, H.2.2.2.2.1, hv⟩
      · dsimp only; rw [pk_un (by decide)]; exact H.1
      · dsimp only; rw [pk_un (by decide)]; exact H.2.1
      · obtain ⟨a, h1, h2⟩ := H.2.2.1 j hj
        have c2 := c.2
        rw [h2] at c2 ⊢
        have : 1 ≤ a := by
          refine Nat.not_lt.mp (fun z => c2 ?_)
          rw [show a = 0 by omega]
          exact Int32.le_refl _
        rw [pu_s1 this]
        exact ⟨a - 1, by omega, rfl⟩
    · exact ⟨H.1, H.2.1, H.2.2.1, H.2.2.2.1, H.2.2.2.2.1, hv⟩
  · split
    · exact ⟨H.1, H.2.1, H.2.2.1, H.2.2.2.1, H.2.2.2.2.1, hv⟩
    · obtain ⟨a, h1, h2, h3⟩ := H.2.1
      refine ⟨?_, ?_, H.2.2.1, H.2.2.2.1, H.2.2.2.2.1, hv⟩
      · dsimp only; rw [pk_un (by decide)]; exact H.1
      · dsimp only; rw [pk_us, h3]; exact T_lev h1 h2
theorem T_one_Ok {B J S : Nat} {p : Nat → Nat → Int32} {md : Md} {t : Tt} {s : Nat} (hJ : J ≤ 4) (hs : s < S) (H : TOk B J S t) : TOk B J S (T_one p md t s) := by
  unfold T_one
  split
  · obtain ⟨j, hj, ej⟩ := H.2.2.2.1 s hs
    unfold T_try
    rw [ej, nI_clamp (n := j) (by omega)]
    exact T_out_Ok hj H
  · exact H
theorem T_from_Ok {B J S : Nat} {p : Nat → Nat → Int32} {md : Md} (hJ : J ≤ 4) : ∀ (k s : Nat) (t : Tt), s + k ≤ S → TOk B J S t → TOk B J S (T_from p md k s t) := by
  intro k
  induction k with
  | zero => exact fun _ _ _ H => H
  | succ k ih => exact fun s t hs H => ih (s + 1) _ (by omega) (T_one_Ok hJ (by omega) H)
theorem T_from_Q {B J S : Nat} {p : Nat → Nat → Int32} {md : Md} (hJ : J ≤ 4) : ∀ (k s : Nat) (t u : Tt), s + k ≤ S → TOk B J S t → TQ J S t u → TL J t u → TQ J S (T_from p md k s t) (T_from p md k s u) ∧ TL J (T_from p md k s t) (T_from p md k s u) := by
  intro k
  induction k with
  | zero => exact fun _ _ _ _ _ h l => ⟨h, l⟩
  | succ k ih =>
    intro s t u hs H h l
    have a := T_one_Q (p := p) (md := md) hJ (show s < S by omega) H h l
    exact ih (s + 1) _ _ (by omega) (T_one_Ok hJ (by omega) H) a.1 a.2
def T_day (p : Nat → Nat → Int32) (md : Md) (S : Nat) (t : Tt) : Tt := T_mov p md (T_from p md S 0 (T_clr t)) (t.1 5 + 1)
def T_days (p : Nat → Nat → Int32) (md : Md) (S : Nat) : Nat → Tt → Tt
  | 0, t => t
  | k + 1, t => T_days p md S k (T_day p md S t)
theorem T_mov_Q {J S : Nat} {p : Nat → Nat → Int32} {md : Md} {t u : Tt} {d : Int32} (hJ : J ≤ 4) (h : TQ J S t u) : TQ J S (T_mov p md t d) (T_mov p md u d) := by
  unfold T_mov
  rw [h.1.2.1]
  split
  · refine ⟨⟨?_, ?_, ?_, ?_⟩, fun j hj => ?_, h.2.2.1, h.2.2.2⟩
    · simp [upd, h.1.1]
    · simp [upd]
    · simp [upd]
    · simp [upd, h.1.2.2.2]
    · show va_cpy (p 4) t.2.1 0 0 4 j = va_cpy (p 4) u.2.1 0 0 4 j
      rw [sb_cpy0 (by omega), sb_cpy0 (by omega)]
  · refine ⟨⟨?_, ?_, ?_, ?_⟩, h.2.1, h.2.2.1, h.2.2.2⟩
    · simp [upd, h.1.1]
    · simp [upd]
    · simp [upd, h.1.2.2.1]
    · simp [upd, h.1.2.2.2]
theorem T_mov_Ok {B J S d : Nat} {p : Nat → Nat → Int32} {md : Md} {t : Tt} (hJ : J ≤ 4) (hp : ∀ j, j < J → rg (p 4 j) 9) (hl : ∃ a, 1 ≤ a ∧ a ≤ 99 ∧ md.2.2.2.2.2 = nI a) (hd : d ≤ B) (H : TOk B J S t) : TOk B J S (T_mov p md t (nI d)) := by
  unfold T_mov
  split
  · refine ⟨⟨d, hd, by simp [upd]⟩, by simpa [upd] using hl, fun j hj => ?_, H.2.2.2⟩
    show rg (va_cpy (p 4) t.2.1 0 0 4 j) 9
    rw [sb_cpy0 (by omega)]
    exact hp j hj
  · exact ⟨⟨d, hd, by simp [upd]⟩, by simpa [upd] using H.2.1, H.2.2⟩
theorem T_clr_Q (J S : Nat) (t : Tt) : TQ J S (T_clr t) t := TQ.rf J S t
theorem T_clr_L {J : Nat} {t u : Tt} (hJ : J ≤ 4) : TL J (T_clr t) (T_clr u) := fun j hj => by
  show (if j < 4 then _ else _) = (if j < 4 then _ else _)
  rw [if_pos (by omega), if_pos (by omega)]
theorem T_day_Q {B J S : Nat} {p : Nat → Nat → Int32} {md : Md} {t u : Tt} (hJ : J ≤ 4) (H : TOk B J S t) (h : TQ J S t u) : TQ J S (T_day p md S t) (T_day p md S u) := by
  unfold T_day
  rw [h.1.2.1]
  exact T_mov_Q hJ (T_from_Q hJ S 0 (T_clr t) (T_clr u) (by omega) H h (T_clr_L hJ)).1
theorem T_day_Ok {B J S : Nat} {p : Nat → Nat → Int32} {md : Md} {t : Tt} (hJ : J ≤ 4) (hp : ∀ j, j < J → rg (p 4 j) 9) (hl : ∃ a, 1 ≤ a ∧ a ≤ 99 ∧ md.2.2.2.2.2 = nI a) (H : TOk B J S t) : TOk (B + 1) J S (T_day p md S t) := by
  unfold T_day
  obtain ⟨d, h1, h2⟩ := H.1
  rw [h2, nI_1]
  exact T_mov_Ok hJ hp hl (by omega) ((T_from_Ok hJ S 0 _ (by omega) (show TOk B J S (T_clr t) from H)).le (by omega))
theorem T_days_Q {J S : Nat} {p : Nat → Nat → Int32} {md : Md} (hJ : J ≤ 4) (hp : ∀ j, j < J → rg (p 4 j) 9) (hl : ∃ a, 1 ≤ a ∧ a ≤ 99 ∧ md.2.2.2.2.2 = nI a) : ∀ (k B : Nat) (t u : Tt), TOk B J S t → TQ J S t u → TQ J S (T_days p md S k t) (T_days p md S k u) := by
  intro k
  induction k with
  | zero => exact fun _ _ _ _ h => h
  | succ k ih => exact fun B t u H h => ih (B + 1) _ _ (T_day_Ok hJ hp hl H) (T_day_Q hJ H h)
theorem T_days_Ok {J S : Nat} {p : Nat → Nat → Int32} {md : Md} (hJ : J ≤ 4) (hp : ∀ j, j < J → rg (p 4 j) 9) (hl : ∃ a, 1 ≤ a ∧ a ≤ 99 ∧ md.2.2.2.2.2 = nI a) : ∀ (k B : Nat) (t : Tt), TOk B J S t → TOk (B + k) J S (T_days p md S k t) := by
  intro k
  induction k with
  | zero => exact fun _ _ H => H
  | succ k ih =>
    intro B t H
    have := ih (B + 1) _ (T_day_Ok (p := p) (md := md) hJ hp hl H)
    rw [show B + (k + 1) = B + 1 + k by omega]
    exact this
