theorem sst_len {nx : Tk → Tk} (s : St) : s.2.2.2.2.2.length ≤ (sst nx s).2.2.2.2.2.2.length := by
  obtain ⟨t, w, W, op, kn, u⟩ := s
  show u.length ≤ _
  unfold sst
  dsimp only
  have r1 := rl_len (lo := 1) W u
  have r2 := rl_len (lo := 5) W u
  have r3 := rl_len (lo := bop t.1) W u
  repeat' split
  all_goals first | exact Nat.le_refl _ | exact r1 | exact r2 | exact r3 | (rw [List.length_append]; exact Nat.le_add_right _ _)
theorem syr_len {nx : Tk → Tk} : ∀ (k : Nat) (s : St), s.2.2.2.2.2.length ≤ (syr nx k s).2.2.2.2.2.2.length := by
  intro k
  induction k with
  | zero => intro s; exact Nat.le_refl _
  | succ k ih =>
    intro s
    show _ ≤ (if (sst nx s).1 = 0 then syr nx k (sst nx s).2 else sst nx s).2.2.2.2.2.2.length
    by_cases c : (sst nx s).1 = 0
    · rw [if_pos c]; exact Nat.le_trans (sst_len s) (ih _)
    · rw [if_neg c]; exact sst_len s
theorem nEnd.len {nx : Tk → Tk} {s s' : St} {c : Nat} (h : nEnd nx s c s') : s.2.2.2.2.2.length ≤ s'.2.2.2.2.2.length := by
  obtain ⟨i, hi⟩ := h
  have := syr_len (nx := nx) (i + 0) s
  rw [hi 0] at this
  exact this
theorem LG.c {b : Nat → Nat} {n J N S : Nat} {u : List (Nat × Nat)} {t t1 : Tk} {h h1 : ck_H} (G : LG b n t h t1 h1) (R : rdC J N S u h) : ∃ J' N' S' u', rdC J' N' S' u' h1 := by
  obtain ⟨⟨hJ, eJ⟩, ⟨hN, eN⟩, ⟨hS, eS⟩, O, hu, hl⟩ := R
  have lf : ∀ h2 : ck_H, h2.1 71 = h.1 71 → h2.1 72 = h.1 72 → ∀ k, k < 3 → ∃ a e, h2.1 71 k = nI a ∧ h2.1 72 k = nI e ∧ a ≤ e ∧ e ≤ u.length := fun h2 e1 e2 k hk => by rw [e1, e2]; exact hl k hk
  rcases G with ⟨J', z, j4, ej, _, _, _, e, e54, _⟩ | ⟨N', z, n6, en, _, _, _, e, e58, _⟩ | ⟨J', N', S', j0, n0, z, s10, es, _, _, _, _, _, _, _, _, _, _, e, e63, _⟩ | ⟨x, lo, hi, _, _, _, e, _⟩ | ⟨v, s', z, _, k1, k2, Ov, hv, en, _, l64, e, Oe, f1, f2, fo, _⟩
  · exact ⟨J' + 1, N, S, u, ⟨by omega, e54⟩, ⟨hN, by rw [e 58 (by omega) (by omega)]; exact eN⟩, ⟨hS, by rw [e 63 (by omega) (by omega)]; exact eS⟩, O.of (by rw [e 68 (by omega) (by omega)]) (e 69 (by omega) (by omega)) (e 70 (by omega) (by omega)), hu, lf h1 (e 71 (by omega) (by omega)) (e 72 (by omega) (by omega))⟩
  · exact ⟨J, N' + 1, S, u, ⟨hJ, by rw [e 54 (by omega) (by omega)]; exact eJ⟩, ⟨by omega, e58⟩, ⟨hS, by rw [e 63 (by omega) (by omega)]; exact eS⟩, O.of (by rw [e 68 (by omega) (by omega)]) (e 69 (by omega) (by omega)) (e 70 (by omega) (by omega)), hu, lf h1 (e 71 (by omega) (by omega)) (e 72 (by omega) (by omega))⟩
  · exact ⟨J, N, S' + 1, u, ⟨hJ, by rw [e 54 (by omega) (by omega)]; exact eJ⟩, ⟨hN, by rw [e 58 (by omega) (by omega)]; exact eN⟩, ⟨by omega, e63⟩, O.of (by rw [e 68 (by omega) (by omega)]) (e 69 (by omega) (by omega)) (e 70 (by omega) (by omega)), hu, lf h1 (e 71 (by omega) (by omega)) (e 72 (by omega) (by omega))⟩
  · exact ⟨J, N, S, u, (show rdC J N S u h from ⟨⟨hJ, eJ⟩, ⟨hN, eN⟩, ⟨hS, eS⟩, O, hu, hl⟩).of (fun a h1 _ => e a h1)⟩
  · have uv := O.un Ov hu hv
    have gl : v.length ≤ (rl 1 s'.2.2.1 s'.2.2.2.2.2).2.length := Nat.le_trans en.len (rl_len _ _)
    refine ⟨J, N, S, _, ⟨hJ, by rw [e 54 (by omega) (by omega)]; exact eJ⟩, ⟨hN, by rw [e 58 (by omega) (by omega)]; exact eN⟩, ⟨hS, by rw [e 63 (by omega) (by omega)]; exact eS⟩, Oe, l64, fun k hk => ?_⟩
    by_cases ck : k = (nxt b n t).1 - 26
    · subst ck
      exact ⟨_, _, f1, f2, gl, Nat.le_refl _⟩
    · obtain ⟨a, e', b1, b2, b3, b4⟩ := hl k hk
      exact ⟨a, e', (fo k ck).1.trans b1, (fo k ck).2.trans b2, b3, by omega⟩
