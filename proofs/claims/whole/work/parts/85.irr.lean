/-! suits that no day in view tries: neither their judges nor their stones matter -/
def IRR (E J S : Nat) (t u : Tt) : Prop := (t.1 5 = u.1 5 ∧ t.1 6 = u.1 6 ∧ t.1 7 = u.1 7) ∧ (∀ j, j < J → t.2.1 j = u.2.1 j) ∧ (∀ s, s < S → t.2.2.2.1 s = u.2.2.2.1 s ∧ t.2.2.2.2.1 s = u.2.2.2.2.1 s) ∧ (∀ s q, s < S → t.2.2.2.1 s = nI q → q < E → t.2.2.1 s = u.2.2.1 s ∧ ((t.1 4 >>> (nI s &&& 31)) &&& 1) = ((u.1 4 >>> (nI s &&& 31)) &&& 1)) ∧ t.2.2.2.2.2.2 = u.2.2.2.2.2.2
theorem T_out_I {E J S : Nat} {p : Nat → Nat → Int32} {md : Md} {t u : Tt} {s j n : Nat} {hd : Int32} {sd : Int64} (hj : j < J) (h : IRR E J S t u) (l : TL J t u) : IRR E J S (T_out p md t s j n hd sd) (T_out p md u s j n hd sd) ∧ TL J (T_out p md t s j n hd sd) (T_out p md u s j n hd sd) := by
  have e1 : T_nm p t j n hd = T_nm p u j n hd := by unfold T_nm; rw [h.2.1 j hj, h.1.2.1, l j hj, h.1.1]
  have e2 : T_nm1 p t j n hd = T_nm1 p u j n hd := by unfold T_nm1; rw [h.2.1 j hj, h.1.2.1, l j hj, h.1.1]
  have e3 : T_fo p md t j n hd = T_fo p md u j n hd := by unfold T_fo; rw [e1, h.2.1 j hj, h.1.2.1]
  have e4 : T_sl p t j n hd = T_sl p u j n hd := by unfold T_sl; rw [e1]
  have e5 : T_v p md t j n hd = T_v p md u j n hd := by unfold T_v; rw [e3, e4]
  unfold T_out
  rw [e2, e3, e4, e5, h.2.1 j hj, h.1.2.1, h.1.2.2, l j hj]
  have hv : ∀ v : Int32, ∀ i, i < S → t.2.2.2.1 i = u.2.2.2.1 i ∧ upd t.2.2.2.2.1 s v i = upd u.2.2.2.2.1 s v i := fun v i hi => ⟨(h.2.2.1 i hi).1, upd_q (fun k hk => (h.2.2.1 k hk).2) rfl i hi⟩
  have h4 := h.2.2.2.1
  split
  · split
    · refine ⟨⟨⟨by dsimp only; rw [pk_un (by decide), pk_un (by decide)]; exact h.1.1, by dsimp only; rw [pk_un (by decide), pk_un (by decide)]; exact h.1.2.1, by dsimp only; rw [pk_us, pk_us]⟩, upd_q h.2.1 rfl, hv _, ?_, rfl⟩, upd_q l rfl⟩
      dsimp only
      rw [pk_un (by decide), pk_un (by decide)]
      exact h4
    · exact ⟨⟨h.1, h.2.1, hv _, h4, rfl⟩, upd_q l rfl⟩
  · split
    · exact ⟨⟨h.1, h.2.1, hv _, h4, rfl⟩, upd_q l rfl⟩
    · refine ⟨⟨⟨by dsimp only; rw [pk_un (by decide), pk_un (by decide)]; exact h.1.1, by dsimp only; rw [pk_us, pk_us], by dsimp only; rw [pk_un (by decide), pk_un (by decide)]; exact h.1.2.2⟩, h.2.1, hv _, ?_, rfl⟩, upd_q l rfl⟩
      dsimp only
      rw [pk_un (by decide), pk_un (by decide)]
      exact h4
theorem T_one_I {B E J S d : Nat} {p : Nat → Nat → Int32} {md : Md} {t u : Tt} {s : Nat} (hJ : J ≤ 4) (hs : s < S) (H : TOk B J S t) (ed : t.1 5 = nI d) (hd : d < E) (h : IRR E J S t u) (l : TL J t u) : IRR E J S (T_one p md t s) (T_one p md u s) ∧ TL J (T_one p md t s) (T_one p md u s) := by
  unfold T_one
  by_cases c : t.2.2.2.1 s = t.1 5
  · have k := h.2.2.2.1 s d hs (c.trans ed) hd
    have e : T_due md t s ↔ T_due md u s := by
      unfold T_due
      rw [(h.2.2.1 s hs).1, (h.2.2.1 s hs).2, h.1.1, k.1]
    by_cases c2 : T_due md t s
    · rw [if_pos c2, if_pos (e.mp c2)]
      obtain ⟨j, hj, ej⟩ := H.2.2.2.1 s hs
      have e1 : T_hd p md t s = T_hd p md u s := by unfold T_hd T_hard; rw [k.2, h.2.2.2.2]
      unfold T_try
      rw [← k.1, ej, nI_clamp (n := j) (by omega), e1, h.2.2.2.2]
      exact T_out_I hj h l
    · rw [if_neg c2, if_neg (fun z => c2 (e.mpr z))]; exact ⟨h, l⟩
  · have c' : ¬ u.2.2.2.1 s = u.1 5 := by rw [← (h.2.2.1 s hs).1, ← h.1.1]; exact c
    rw [if_neg (fun z => c z.1), if_neg (fun z => c' z.1)]
    exact ⟨h, l⟩
theorem T_from_I {B E J S d : Nat} {p : Nat → Nat → Int32} {md : Md} (hJ : J ≤ 4) (hd : d < E) : ∀ (k s : Nat) (t u : Tt), s + k ≤ S → TOk B J S t → t.1 5 = nI d → IRR E J S t u → TL J t u → IRR E J S (T_from p md k s t) (T_from p md k s u) := by
  intro k
  induction k with
  | zero => exact fun _ _ _ _ _ _ h _ => h
  | succ k ih =>
    intro s t u hs H ed h l
    have a := T_one_I (p := p) (md := md) hJ (show s < S by omega) H ed hd h l
    exact ih (s + 1) _ _ (by omega) (T_one_Ok hJ (by omega) H) (by rw [(T_one_5 p md t s).1]; exact ed) a.1 a.2
theorem T_mov_I {E J S : Nat} {p : Nat → Nat → Int32} {md : Md} {t u : Tt} {d : Int32} (hJ : J ≤ 4) (h : IRR E J S t u) : IRR E J S (T_mov p md t d) (T_mov p md u d) := by
  have h4 := h.2.2.2.1
  unfold T_mov
  rw [h.1.1]
  split
  · refine ⟨⟨?_, ?_, ?_⟩, fun j hj => ?_, h.2.2.1, ?_, h.2.2.2.2⟩
    · simp [upd]
    · simp [upd]
    · simp [upd, h.1.2.2]
    · show va_cpy (p 4) t.2.1 0 0 4 j = va_cpy (p 4) u.2.1 0 0 4 j
      rw [sb_cpy0 (by omega), sb_cpy0 (by omega)]
    · dsimp only
      rw [pk_un (by decide), pk_un (by decide), pk_un (by decide), pk_un (by decide)]
      exact h4
  · refine ⟨⟨?_, ?_, ?_⟩, h.2.1, h.2.2.1, ?_, h.2.2.2.2⟩
    · simp [upd]
    · simp [upd, h.1.2.1]
    · simp [upd, h.1.2.2]
    · dsimp only
      rw [pk_un (by decide), pk_un (by decide)]
      exact h4
theorem T_days_I {E J S : Nat} {p : Nat → Nat → Int32} {md : Md} (hJ : J ≤ 4) (hp : ∀ j, j < J → rg (p 4 j) 9) (hl : ∃ a, 1 ≤ a ∧ a ≤ 99 ∧ md.2.2.2.2.2 = nI a) : ∀ (k B d : Nat) (t u : Tt), TOk B J S t → t.1 5 = nI d → d + k ≤ E → IRR E J S t u → IRR E J S (T_days p md S k t) (T_days p md S k u) := by
  intro k
  induction k with
  | zero => exact fun _ _ _ _ _ _ _ h => h
  | succ k ih =>
    intro B d t u H ed hd h
    refine ih (B + 1) (d + 1) _ _ (T_day_Ok hJ hp hl H) (by rw [T_day_5.1, ed, nI_1]) (by omega) ?_
    unfold T_day
    rw [← h.1.1]
    exact T_mov_I hJ (T_from_I (d := d) hJ (by omega) S 0 (T_clr t) (T_clr u) (by omega) H ed h (T_clr_L hJ))
theorem g_gain_I {E J S : Nat} {t u : Tt} (h : IRR E J S t u) (p : Nat → Nat → Int32) : g_gain p t S = g_gain p u S := fo_eq S 0 0 (fun i y _ hi => by rw [(h.2.2.1 i (by omega)).2])
/-! nothing gained is lost -/
theorem T_one_vk {p : Nat → Nat → Int32} {md : Md} {t : Tt} {s i : Nat} (h : ¬ t.2.2.2.2.1 i = -1) : (T_one p md t s).2.2.2.2.1 i = t.2.2.2.2.1 i := by
  by_cases c : i = s
  · subst c
    unfold T_one
    rw [if_neg (fun z => h z.2.1)]
  · exact T_one_vd.2.1 c
theorem T_from_vk {p : Nat → Nat → Int32} {md : Md} {i : Nat} : ∀ (k s : Nat) (t : Tt), ¬ t.2.2.2.2.1 i = -1 → (T_from p md k s t).2.2.2.2.1 i = t.2.2.2.2.1 i := by
  intro k
  induction k with
  | zero => exact fun _ _ _ => rfl
  | succ k ih =>
    intro s t h
    have e := T_one_vk (p := p) (md := md) (s := s) h
    exact (ih (s + 1) _ (by rw [e]; exact h)).trans e
theorem T_days_vk {p : Nat → Nat → Int32} {md : Md} {S i : Nat} : ∀ (k : Nat) (t : Tt), ¬ t.2.2.2.2.1 i = -1 → (T_days p md S k t).2.2.2.2.1 i = t.2.2.2.2.1 i := by
  intro k
  induction k with
  | zero => exact fun _ _ => rfl
  | succ k ih =>
    intro t h
    have e : (T_day p md S t).2.2.2.2.1 i = t.2.2.2.2.1 i := by
      unfold T_day
      rw [T_mov_r]
      exact T_from_vk S 0 (T_clr t) h
    exact (ih _ (by rw [e]; exact h)).trans e
theorem T_gain_rg {h m : ck_H} {J N S s : Nat} {v : Int32} (P : PR h m J N S) (hs : s < S) : rg (T_gain (pl h) s v) 99 := by
  obtain ⟨n, hn, en⟩ := P.rno s hs
  obtain ⟨w, hw, ew⟩ := P.rwor n hn
  have hN := P.hN
  have e1 : pl h 8 (pl h 13 s).toNatClampNeg = nI w := by
    rw [show pl h 13 s = nI n from en, nI_clamp (n := n) (by omega)]; exact ew
  unfold T_gain
  rw [e1]
  split
  · exact ⟨w, hw, rfl⟩
  · split
    · refine ⟨w / 2, by omega, ?_⟩
      rw [show (2 : Int32) = nI 2 from rfl, pk_div (by omega) (by omega) (by omega)]
    · exact ⟨0, by omega, rfl⟩
theorem g_fo_le {h m : ck_H} {J N S : Nat} {t u : Tt} (P : PR h m J N S) (H : ∀ s, s < S → t.2.2.2.2.1 s = -1 ∨ u.2.2.2.2.1 s = t.2.2.2.2.1 s) : ∀ (k s a b : Nat), s + k ≤ S → a ≤ b → b ≤ 99 * s → ∃ a' b', a' ≤ b' ∧ b' ≤ 99 * (s + k) ∧ fo (fun x s => x + T_gain (pl h) s (t.2.2.2.2.1 s)) k s (nI a) = nI a' ∧ fo (fun x s => x + T_gain (pl h) s (u.2.2.2.2.1 s)) k s (nI b) = nI b' := by
  intro k
  induction k with
  | zero => exact fun s a b _ h1 h2 => ⟨a, b, h1, h2, rfl, rfl⟩
  | succ k ih =>
    intro s a b hs h1 h2
    obtain ⟨x, hx, ex⟩ := T_gain_rg (v := t.2.2.2.2.1 s) P (show s < S by omega)
    obtain ⟨y, hy, ey⟩ := T_gain_rg (v := u.2.2.2.2.1 s) P (show s < S by omega)
    have hxy : x ≤ y := by
      rcases H s (by omega) with c | c
      · rw [c] at ex
        have e0 : T_gain (pl h) s (-1) = nI 0 := by
          unfold T_gain
          rw [if_neg (by decide), if_neg (by decide)]; rfl
        rw [e0, nI_eq (by omega) (by omega)] at ex
        omega
      · rw [c, ex, nI_eq (by omega) (by omega)] at ey
        omega
    unfold fo
    rw [ex, ey, nI_add, nI_add]
    obtain ⟨a', b', z1, z2, z3, z4⟩ := ih (s + 1) (a + x) (b + y) (by omega) (by omega) (by omega)
    exact ⟨a', b', z1, by omega, z3, z4⟩
theorem g_more {h m : ck_H} {J N S : Nat} {t u : Tt} (P : PR h m J N S) (H : ∀ s, s < S → t.2.2.2.2.1 s = -1 ∨ u.2.2.2.2.1 s = t.2.2.2.2.1 s) : ∃ g, g ≤ 990 ∧ g_gain (pl h) u S - g_gain (pl h) t S = nI g := by
  have hS := P.hS
  obtain ⟨a, b, h1, h2, h3, h4⟩ := g_fo_le P H S 0 0 0 (by omega) (by omega) (by omega)
  refine ⟨b - a, by omega, ?_⟩
  have e1 : g_gain (pl h) t S = nI a := h3
  have e2 : g_gain (pl h) u S = nI b := h4
  rw [e1, e2, pk_sub h1]
