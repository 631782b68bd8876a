theorem nI_un {a c : Nat} (x : Int32) (h1 : x = nI a) (h2 : x = nI c) (ha : a < 1000) (hc : c < 1000) : a = c := (nI_eq (by omega) (by omega)).mp (h1.symm.trans h2)
/-- a good line: the model reads it too -/
theorem mm_G {b : Nat → Nat} {n J N S : Nat} {u : List (Nat × Nat)} {t t1 : Tk} {h h1 h2 m : ck_H} {Q : ck_H → Prop} (G : LG b n t h t1 h1) (C : MT b n t m) (R : rdD J N S u h m)
    (e : ∀ a, 54 ≤ a → h2.1 a = h1.1 a) (e3 : ∀ i, i ≠ 17 → h2.1 53 i = h1.1 53 i) (e17 : h2.1 53 17 = h1.1 53 17 + 1)
    (q0 : t1.1 = 4 → ∀ m', FU m m' → MT b n (nxt b n t1) m' → (∃ J N S u, rdD J N S u h2 m') → Q m') (q1 : ¬ t1.1 = 4 → ∀ m', FU m m' → MFt 1 t1 m' → Q m') : wp_X12_line m Q := by
  have R' := R
  obtain ⟨rj, rn, rs, ro, rL, r20⟩ := R'
  rcases G with ⟨J', z, j4, ej, fr, l2, l3, ea, e54, eo, ev, rfl⟩ | ⟨N', z, n6, en, fr, l2, l3, ea, e58, eo, ev, rfl⟩ | ⟨J', N', S', j0, n0, z, s10, es, ej, en, hJ', hN', fr, hj0, hn0, fj, fn, l4, ea, e63, eo, ev, rfl⟩ | ⟨x, lo, hi, ok, d0, fn, ea, e17', e12, e13, ed, rfl⟩ | ⟨v, s', z, fl, k1, k2, Ov, hv, en, o0, l64, ea, Oe, f1, f2, fo, rfl⟩
  · have jj : J' = J := nI_un _ ej rj.2.1 (by omega) (by have := rj.1; omega)
    subst jj
    have fr0 : fCap J' 4 t = 0 := by unfold fCap; rw [if_pos j4]
    have fr : (frun (nxt b n) [fNew (h.1 55) J', fNum 1 99, fNum 0 9] (nxt b n t)).1 = 0 := by
      unfold lJ at fr
      rw [frun_0 fr0] at fr
      exact fr
    refine mm_line C rj.1 rj.2.2.1 rn.1 rn.2.2.1 rs.1 rs.2.2.1 (fun _ => ⟨fun _ => ?_, fun y => absurd j4 y⟩) (fun y => absurd y (by omega)) (fun y => absurd y (by omega)) (fun y => absurd y (by omega)) (fun y => absurd y (by omega)) (fun y => absurd y (by omega)) (fun y => absurd y (by omega)) (fun y => absurd y (by omega))
    refine mm_judge (g := h.1 55) C j4 rj.2.2.1 (fun j hj => (rj.2.2.2 j hj).1.symm) (fun _ m1 U C1 => ?_) (fun y => absurd fr y)
    have F1 : FU m m1 := U.fu ⟨al (by omega) (by omega) (by show 7 ≤ 7; omega), al (by omega) (by omega) (by show 4 ≤ 4 + J'; omega), al (by omega) (by omega) (by show 4 ≤ 4 + J'; omega), al (by omega) (by omega) (by show 4 ≤ 4 + J'; omega), alw19, trivial⟩
    have R1 := rd_judge R j4 l2 l3 ea e54 eo ev U
    exact mm_lnE (R1 := fun m' => ∃ J N S u, rdD J N S u h2 m') F1 C1 (fun m' f' => ⟨_, _, _, _, R1.semi f' e e3 e17⟩) q0 q1
  · have jj : N' = N := nI_un _ en rn.2.1 (by omega) (by have := rn.1; omega)
    subst jj
    have fr0 : fCap N' 6 t = 0 := by unfold fCap; rw [if_pos n6]
    have fr : (frun (nxt b n) [fNew (h.1 59) N', fNum 0 99, fNum 0 99, fNum 0 9] (nxt b n t)).1 = 0 := by
      unfold lN' at fr
      rw [frun_0 fr0] at fr
      exact fr
    refine mm_line C rj.1 rj.2.2.1 rn.1 rn.2.2.1 rs.1 rs.2.2.1 (fun y => absurd y (by omega)) (fun _ => ⟨fun _ => ?_, fun y => absurd n6 y⟩) (fun y => absurd y (by omega)) (fun y => absurd y (by omega)) (fun y => absurd y (by omega)) (fun y => absurd y (by omega)) (fun y => absurd y (by omega)) (fun y => absurd y (by omega))
    refine mm_nut (g := h.1 59) C n6 rn.2.2.1 (fun j hj => (rn.2.2.2 j hj).1.symm) (fun _ m1 U C1 => ?_) (fun y => absurd fr y)
    have F1 : FU m m1 := U.fu ⟨al (by omega) (by omega) (by show 7 ≤ 8; omega), al (by omega) (by omega) (by show 6 ≤ 6 + N'; omega), al (by omega) (by omega) (by show 6 ≤ 6 + N'; omega), al (by omega) (by omega) (by show 6 ≤ 6 + N'; omega), al (by omega) (by omega) (by show 6 ≤ 6 + N'; omega), alw19, trivial⟩
    have R1 := rd_nut R n6 l2 l3 ea e58 eo ev U
    exact mm_lnE (R1 := fun m' => ∃ J N S u, rdD J N S u h2 m') F1 C1 (fun m' f' => ⟨_, _, _, _, R1.semi f' e e3 e17⟩) q0 q1
  · have jj : J' = J := nI_un _ ej rj.2.1 (by omega) (by have := rj.1; omega)
    subst jj
    have nn : N' = N := nI_un _ en rn.2.1 (by omega) (by have := rn.1; omega)
    subst nn
    have ss : S' = S := nI_un _ es rs.2.1 (by omega) (by have := rs.1; omega)
    subst ss
    have fr0 : fCap S' 10 t = 0 := by unfold fCap; rw [if_pos s10]
    have fr : (frun (nxt b n) [fNew (h.1 64) S', fTold (h.1 55) J', fTold (h.1 59) N', fNum 0 99] (nxt b n t)).1 = 0 := by
      unfold lS at fr
      rw [frun_0 fr0] at fr
      exact fr
    refine mm_line C rj.1 rj.2.2.1 rn.1 rn.2.2.1 rs.1 rs.2.2.1 (fun y => absurd y (by omega)) (fun y => absurd y (by omega)) (fun _ => ⟨fun _ => ?_, fun y => absurd s10 y⟩) (fun y => absurd y (by omega)) (fun y => absurd y (by omega)) (fun y => absurd y (by omega)) (fun y => absurd y (by omega)) (fun y => absurd y (by omega))
    refine mm_suitL (g := h.1 64) (gj := h.1 55) (gn := h.1 59) C s10 rs.2.2.1 (fun j hj => (rs.2.2.2 j hj).1.symm) rj.1 rj.2.2.1 (fun j hj => (rj.2.2.2 j hj).1.symm) rn.1 rn.2.2.1 (fun j hj => (rn.2.2.2 j hj).1.symm) (fun _ m1 U C1 => ?_) (fun y => absurd fr y)
    have F1 : FU m m1 := U.fu ⟨al (by omega) (by omega) (by show 7 ≤ 9; omega), al (by omega) (by omega) (by show 10 ≤ 10 + S'; omega), al (by omega) (by omega) (by show 10 ≤ 10 + S'; omega), al (by omega) (by omega) (by show 10 ≤ 10 + S'; omega), al (by omega) (by omega) (by show 10 ≤ 10 + S'; omega), alw19, trivial⟩
    rw [fj, fn] at U
    have R1 := rd_suit R s10 hj0 hn0 l4 ea e63 eo ev U
    exact mm_lnE (R1 := fun m' => ∃ J N S u, rdD J N S u h2 m') F1 C1 (fun m' f' => ⟨_, _, _, _, R1.semi f' e e3 e17⟩) q0 q1
  · have md : ¬ ((m.1 0 19 >>> (nI x &&& 31)) &&& 1) = 1 := by
      intro y
      rcases ok with ⟨_, rfl, _, _⟩ | ⟨_, rfl, _, _⟩ | ⟨_, rfl, _, _⟩
      · exact ro.2.2.2.2.1.mp y d0
      · exact ro.2.2.2.2.2.1.mp y d0
      · exact ro.2.2.2.2.2.2.mp y d0
    have go : wp_X12_line_70 Q (nI x) m := by
      refine mm_opt (lo := lo) (hi := hi) C (by rcases ok with y | y | y <;> omega) (fun _ m1 U C1 => ?_) (fun y => absurd fn y)
      have F1 : FU m m1 := U.fu ⟨al (by omega) (by omega) (by show 7 ≤ 7 + x; omega), alw19, trivial⟩
      have bd : lo ≤ (nxt b n t).2.1 ∧ (nxt b n t).2.1 ≤ hi := by
        unfold fNum at fn
        by_cases c2 : (nxt b n t).1 = 2
        · rw [if_neg (fun y => y c2)] at fn
          by_cases c3 : (nxt b n t).2.1 < lo ∨ hi < (nxt b n t).2.1
          · rw [if_pos c3] at fn; omega
          · omega
        · rw [if_pos c2] at fn; omega
      have R1 := rd_opt (x := x) (v := (nxt b n t).2.1) R (by rcases ok with y | y | y <;> omega) ea e17' e12 e13 ed U
      exact mm_lnE (R1 := fun m' => ∃ J N S u, rdD J N S u h2 m') F1 C1 (fun m' f' => ⟨_, _, _, _, R1.semi f' e e3 e17⟩) q0 q1
    rcases ok with ⟨y, rfl, _, _⟩ | ⟨y, rfl, _, _⟩ | ⟨y, rfl, _, _⟩
    · exact mm_line C rj.1 rj.2.2.1 rn.1 rn.2.2.1 rs.1 rs.2.2.1 (fun y => absurd y (by omega)) (fun y => absurd y (by omega)) (fun y => absurd y (by omega)) (fun _ => ⟨fun _ => go, fun y => absurd y md⟩) (fun y => absurd y (by omega)) (fun y => absurd y (by omega)) (fun y => absurd y (by omega)) (fun _ y => absurd y (by omega))
    · exact mm_line C rj.1 rj.2.2.1 rn.1 rn.2.2.1 rs.1 rs.2.2.1 (fun y => absurd y (by omega)) (fun y => absurd y (by omega)) (fun y => absurd y (by omega)) (fun y => absurd y (by omega)) (fun _ => ⟨fun _ => go, fun y => absurd y md⟩) (fun y => absurd y (by omega)) (fun y => absurd y (by omega)) (fun y => absurd y (by omega))
    · exact mm_line C rj.1 rj.2.2.1 rn.1 rn.2.2.1 rs.1 rs.2.2.1 (fun y => absurd y (by omega)) (fun y => absurd y (by omega)) (fun y => absurd y (by omega)) (fun y => absurd y (by omega)) (fun y => absurd y (by omega)) (fun _ => ⟨fun _ => go, fun y => absurd y md⟩) (fun y => absurd y (by omega)) (fun y => absurd y (by omega))
  · refine mm_line C rj.1 rj.2.2.1 rn.1 rn.2.2.1 rs.1 rs.2.2.1 (fun y => absurd y (by omega)) (fun y => absurd y (by omega)) (fun y => absurd y (by omega)) (fun y => absurd y (by omega)) (fun y => absurd y (by omega)) (fun y => absurd y (by omega)) (fun _ => ?_) (fun y => absurd y (by omega))
    obtain ⟨d, sd, en'⟩ := en.sw
    have vl : u.length = v.length := rL.1.un Ov rL.2.1 hv
    rw [← vl] at en'
    have en1 := en' u
    refine mm_lawE C R (fun y => absurd fl y) (fun _ mE m1 t' kn' e1 P u1 F1 C1 W1 G => ?_) (fun _ m1 t' F1 C1 b4 B => ?_) (fun _ m1 f p F1 hf B1 B2 B => ?_)
    · have g := nE_good G en1
      obtain ⟨_, g2, g3⟩ := g
      have w1 : s'.2.2.1 = P ++ [] := congrArg (fun y : St => y.2.2.1) g2
      have w2 : u ++ d = u1 := congrArg (fun y : St => y.2.2.2.2.2) g2
      have w3 : s'.1 = t' := congrArg (fun y : St => y.1) g2
      obtain ⟨e2, pre⟩ := rl_pre (lo := 1) (W := s'.2.2.1) (d := d)
      have pu := pre u
      rw [w1, w2, g3] at pu
      have e12 : e1 = e2 := List.append_cancel_left pu
      subst e12
      have pv := pre v
      rw [← sd] at pv
      rw [pv] at l64 Oe f2
      have ln : (v ++ e1).length = (u ++ e1).length := by rw [List.length_append, List.length_append, vl]
      rw [ln] at l64 f2
      rw [← vl] at f1
      have R1 := rd_law (x := (nxt b n t).1 - 26) R (by omega) G.2.2.2.2.2.1 l64 ea (rL.1.sw Ov rL.2.1 hv Oe) f1 f2 fo W1.1 W1.2.1 W1.2.2.1 W1.2.2.2.1 W1.2.2.2.2.1 W1.2.2.2.2.2.1 W1.2.2.2.2.2.2.1 W1.2.2.2.2.2.2.2.1 W1.2.2.2.2.2.2.2.2
      rw [w3] at q0 q1
      exact mm_lnE (R1 := fun m' => ∃ J N S u, rdD J N S u h2 m') F1 C1 (fun m' f' => ⟨_, _, _, _, R1.semi f' e e3 e17⟩) q0 q1
    · have g := nE_bad B en1
      have := g.2
      have : ((9 = 1 ∨ 9 = 2) ∧ 1 = 9) ∨ (9 = 9 ∧ 0 < s'.2.2.2.1 ∧ 1 = 1) := this
      omega
    · have g := nE_bad B en1
      have := g.2
      have : ((9 = 1 ∨ 9 = 2) ∧ f = 9) ∨ (9 = 9 ∧ 0 < s'.2.2.2.1 ∧ f = 1) := this
      omega
theorem MFt.pl {f : Nat} {t t' : Tk} {m : ck_H} (B : MFt f t m) (e : t'.2.2.1 = t.2.2.1) : MFt f t' m := ⟨B.1, B.2.1, B.2.2.1, by rw [e]; exact B.2.2.2⟩
/-- a bad line: the model says the same fault at the same place -/
theorem mm_B {b : Nat → Nat} {n J N S f : Nat} {u : List (Nat × Nat)} {t tt : Tk} {h m : ck_H} {Q : ck_H → Prop} (B : LB b n t h f tt) (C : MT b n t m) (R : rdD J N S u h m)
    (q1 : ∀ m', FU m m' → MFt f tt m' → Q m') : wp_X12_line m Q := by
  obtain ⟨rj, rn, rs, ro, rL, r20⟩ := id R
  have qf : ∀ g, f = g → tt = t → qFt g t m Q := fun g e1 e2 m' f' B' => q1 m' (FU.fw f') (by rw [e1, e2]; exact B')
  rcases B with ⟨J', z, j4, ej, fr, ef⟩ | ⟨N', z, n6, en, fr, ef⟩ | ⟨S', J', N', z, s10, es, ej, en, hJ', hN', fr, ef⟩ | ⟨x, lo, hi, ok, fr, ef⟩ | ⟨z, fl, rfl, rfl⟩ | ⟨v, s', c, z, fl, k1, k2, Ov, hv, en, hc, rfl⟩ | ⟨z1, z2, rfl, rfl⟩
  · have jj : J' = J := nI_un _ ej rj.2.1 (by omega) (by have := rj.1; omega)
    subst jj
    unfold lJ at ef
    refine mm_line C rj.1 rj.2.2.1 rn.1 rn.2.2.1 rs.1 rs.2.2.1 (fun _ => ⟨fun jl => ?_, fun jl => ?_⟩) (fun y => absurd y (by omega)) (fun y => absurd y (by omega)) (fun y => absurd y (by omega)) (fun y => absurd y (by omega)) (fun y => absurd y (by omega)) (fun y => absurd y (by omega)) (fun y => absurd y (by omega))
    · have fr0 : fCap J' 4 t = 0 := by unfold fCap; rw [if_pos jl]
      unfold lJ at fr
      rw [frun_0 fr0] at fr ef
      refine mm_judge (g := h.1 55) C jl rj.2.2.1 (fun j hj => (rj.2.2.2 j hj).1.symm) (fun y => absurd y fr) (fun _ m' F B' => q1 m' F ?_)
      rw [← ef] at B'
      exact B'
    · have fr0 : fCap J' 4 t = 2 := by unfold fCap; rw [if_neg jl]
      rw [frun_1 (by omega), fr0] at ef
      exact qf 2 (congrArg Prod.fst ef) (congrArg Prod.snd ef)
  · have jj : N' = N := nI_un _ en rn.2.1 (by omega) (by have := rn.1; omega)
    subst jj
    unfold lN' at ef
    refine mm_line C rj.1 rj.2.2.1 rn.1 rn.2.2.1 rs.1 rs.2.2.1 (fun y => absurd y (by omega)) (fun _ => ⟨fun jl => ?_, fun jl => ?_⟩) (fun y => absurd y (by omega)) (fun y => absurd y (by omega)) (fun y => absurd y (by omega)) (fun y => absurd y (by omega)) (fun y => absurd y (by omega)) (fun y => absurd y (by omega))
    · have fr0 : fCap N' 6 t = 0 := by unfold fCap; rw [if_pos jl]
      unfold lN' at fr
      rw [frun_0 fr0] at fr ef
      refine mm_nut (g := h.1 59) C jl rn.2.2.1 (fun j hj => (rn.2.2.2 j hj).1.symm) (fun y => absurd y fr) (fun _ m' F B' => q1 m' F ?_)
      rw [← ef] at B'
      exact B'
    · have fr0 : fCap N' 6 t = 2 := by unfold fCap; rw [if_neg jl]
      rw [frun_1 (by omega), fr0] at ef
      exact qf 2 (congrArg Prod.fst ef) (congrArg Prod.snd ef)
  · have jj : J' = J := nI_un _ ej rj.2.1 (by omega) (by have := rj.1; omega)
    subst jj
    have nn : N' = N := nI_un _ en rn.2.1 (by omega) (by have := rn.1; omega)
    subst nn
    have ss : S' = S := nI_un _ es rs.2.1 (by omega) (by have := rs.1; omega)
    subst ss
    unfold lS at ef
    refine mm_line C rj.1 rj.2.2.1 rn.1 rn.2.2.1 rs.1 rs.2.2.1 (fun y => absurd y (by omega)) (fun y => absurd y (by omega)) (fun _ => ⟨fun jl => ?_, fun jl => ?_⟩) (fun y => absurd y (by omega)) (fun y => absurd y (by omega)) (fun y => absurd y (by omega)) (fun y => absurd y (by omega)) (fun y => absurd y (by omega))
    · have fr0 : fCap S' 10 t = 0 := by unfold fCap; rw [if_pos jl]
      unfold lS at fr
      rw [frun_0 fr0] at fr ef
      refine mm_suitL (g := h.1 64) (gj := h.1 55) (gn := h.1 59) C jl rs.2.2.1 (fun j hj => (rs.2.2.2 j hj).1.symm) rj.1 rj.2.2.1 (fun j hj => (rj.2.2.2 j hj).1.symm) rn.1 rn.2.2.1 (fun j hj => (rn.2.2.2 j hj).1.symm) (fun y => absurd y fr) (fun _ m' F B' => q1 m' F ?_)
      rw [← ef] at B'
      exact B'
    · have fr0 : fCap S' 10 t = 2 := by unfold fCap; rw [if_neg jl]
      rw [frun_1 (by omega), fr0] at ef
      exact qf 2 (congrArg Prod.fst ef) (congrArg Prod.snd ef)
  · have md : ((m.1 0 19 >>> (nI x &&& 31)) &&& 1) = 1 ↔ ¬ h.1 53 (11 + x) = 0 := by
      rcases ok with ⟨_, rfl, _, _⟩ | ⟨_, rfl, _, _⟩ | ⟨_, rfl, _, _⟩
      · exact ro.2.2.2.2.1
      · exact ro.2.2.2.2.2.1
      · exact ro.2.2.2.2.2.2
    have go : ¬ ((m.1 0 19 >>> (nI x &&& 31)) &&& 1) = 1 → wp_X12_line_70 Q (nI x) m := by
      intro y
      have y0 : ¬ ¬ h.1 53 (11 + x) = 0 := fun w => y (md.mpr w)
      have fr0 : fDup (¬ h.1 53 (11 + x) = 0) t = 0 := by unfold fDup; rw [if_neg y0]
      rw [frun_0 fr0] at fr ef
      have fn : ¬ fNum lo hi (nxt b n t) = 0 := by
        intro w
        rw [frun_0 w] at fr
        exact fr rfl
      rw [frun_1 fn] at ef
      refine mm_opt (lo := lo) (hi := hi) C (by rcases ok with y | y | y <;> omega) (fun w => absurd w fn) (fun _ m1 F1 B1 => q1 m1 F1 ?_)
      have e1 : f = fNum lo hi (nxt b n t) := congrArg Prod.fst ef
      have e2 : tt = nxt b n t := congrArg Prod.snd ef
      rw [e1, e2]
      exact B1
    have dp : ((m.1 0 19 >>> (nI x &&& 31)) &&& 1) = 1 → qFt 3 t m Q := by
      intro y
      have fr0 : fDup (¬ h.1 53 (11 + x) = 0) t = 3 := by unfold fDup; rw [if_pos (md.mp y)]
      rw [frun_1 (by omega), fr0] at ef
      exact qf 3 (congrArg Prod.fst ef) (congrArg Prod.snd ef)
    rcases ok with ⟨y, rfl, _, _⟩ | ⟨y, rfl, _, _⟩ | ⟨y, rfl, _, _⟩
    · exact mm_line C rj.1 rj.2.2.1 rn.1 rn.2.2.1 rs.1 rs.2.2.1 (fun y => absurd y (by omega)) (fun y => absurd y (by omega)) (fun y => absurd y (by omega)) (fun _ => ⟨go, dp⟩) (fun y => absurd y (by omega)) (fun y => absurd y (by omega)) (fun y => absurd y (by omega)) (fun _ y => absurd y (by omega))
    · exact mm_line C rj.1 rj.2.2.1 rn.1 rn.2.2.1 rs.1 rs.2.2.1 (fun y => absurd y (by omega)) (fun y => absurd y (by omega)) (fun y => absurd y (by omega)) (fun y => absurd y (by omega)) (fun _ => ⟨go, dp⟩) (fun y => absurd y (by omega)) (fun y => absurd y (by omega)) (fun y => absurd y (by omega))
    · exact mm_line C rj.1 rj.2.2.1 rn.1 rn.2.2.1 rs.1 rs.2.2.1 (fun y => absurd y (by omega)) (fun y => absurd y (by omega)) (fun y => absurd y (by omega)) (fun y => absurd y (by omega)) (fun y => absurd y (by omega)) (fun _ => ⟨go, dp⟩) (fun y => absurd y (by omega)) (fun y => absurd y (by omega))
  · refine mm_line C rj.1 rj.2.2.1 rn.1 rn.2.2.1 rs.1 rs.2.2.1 (fun y => absurd y (by omega)) (fun y => absurd y (by omega)) (fun y => absurd y (by omega)) (fun y => absurd y (by omega)) (fun y => absurd y (by omega)) (fun y => absurd y (by omega)) (fun _ => ?_) (fun y => absurd y (by omega))
    exact mm_lawE C R (fun _ => q1) (fun y => absurd y fl) (fun y => absurd y fl) (fun y => absurd y fl)
  · refine mm_line C rj.1 rj.2.2.1 rn.1 rn.2.2.1 rs.1 rs.2.2.1 (fun y => absurd y (by omega)) (fun y => absurd y (by omega)) (fun y => absurd y (by omega)) (fun y => absurd y (by omega)) (fun y => absurd y (by omega)) (fun y => absurd y (by omega)) (fun _ => ?_) (fun y => absurd y (by omega))
    obtain ⟨d, sd, en'⟩ := en.sw
    have vl : u.length = v.length := rL.1.un Ov rL.2.1 hv
    rw [← vl] at en'
    have en1 := en' u
    refine mm_lawE C R (fun y => absurd fl y) (fun _ mE m1 t' kn' e1 P u1 F1 C1 W1 G => ?_) (fun _ m1 t' F1 C1 b4 B => ?_) (fun _ m1 g p F1 hf B1 B2 B => ?_)
    · obtain ⟨c9, g2, _⟩ := nE_good G en1
      have w1 : s'.2.2.2.1 = 0 := congrArg (fun y : St => y.2.2.2.1) g2
      omega
    · obtain ⟨g1, g2⟩ := nE_bad B en1
      have g1 : s'.1.2.2.1 = t'.2.2.1 := g1
      have g2 : ((c = 1 ∨ c = 2) ∧ 1 = c) ∨ (c = 9 ∧ 0 < s'.2.2.2.1 ∧ 1 = 1) := g2
      have f1 : f = 1 := by omega
      subst f1
      have n4 : ¬ t'.1 = 4 := fun y => by rw [y] at b4; exact absurd b4 (by decide)
      exact mm_semi C1 (fun y => absurd y n4) (fun _ m' F' B' => q1 m' (F1.tr F') (B'.pl g1))
    · obtain ⟨g1, g2⟩ := nE_bad B en1
      have g1 : s'.1.2.2.1 = p := g1
      have g2 : ((c = 1 ∨ c = 2) ∧ g = c) ∨ (c = 9 ∧ 0 < s'.2.2.2.1 ∧ g = 1) := g2
      have f1 : f = g := by omega
      subst f1
      exact q1 m1 F1 ⟨by omega, by omega, B1, by rw [g1]; exact B2⟩
  · exact mm_line C rj.1 rj.2.2.1 rn.1 rn.2.2.1 rs.1 rs.2.2.1 (fun y => absurd y (by omega)) (fun y => absurd y (by omega)) (fun y => absurd y (by omega)) (fun y => absurd y (by omega)) (fun y => absurd y (by omega)) (fun y => absurd y (by omega)) (fun y => absurd y (by omega)) (fun _ _ => qf 1 rfl rfl)
/-- the model's lines, beside the class's -/
theorem mm_loopT {b : Nat → Nat} {n : Nat} {Q : Int32 → ck_H → Prop} {K : ck_H → Prop} : ∀ (k F : Nat) (t : Tk) (h m : ck_H) (J N S : Nat) (u : List (Nat × Nat)) (f : Nat) (tt : Tk) (hF : ck_H), LR b n k t h f tt hF → MT b n t m → rdD J N S u h m → k + 2 ≤ F →
    (∀ m', FU m m' → ((f = 0 ∧ MT b n tt m' ∧ ∃ J N S u, rdD J N S u hF m') ∨ MFt f tt m') → K m') → wp_X12_text_127 Q K F m := by
  intro k
  have bad : ∀ (F : Nat) (f : Nat) (tt : Tk) (m' : ck_H), 1 ≤ F → MFt f tt m' → K m' → wp_X12_text_127 Q K F m' := by
    intro F f tt m' hF B q
    obtain ⟨F', rfl⟩ : ∃ F', F = F' + 1 := ⟨F - 1, by omega⟩
    unfold wp_X12_text_127
    exact br_m B.n0 q
  induction k with
  | zero =>
    intro F t h m J N S u f tt hF L C R hk q
    obtain ⟨F', rfl⟩ : ∃ F', F = F' + 1 := ⟨F - 1, by omega⟩
    have k0 := C.k.2.2
    unfold wp_X12_text_127
    refine br_q C.2.2.2 ?_
    rcases L with ⟨z, rfl, rfl, rfl⟩ | ⟨z, B⟩ | ⟨z, h1, G, c4, rfl⟩
    · exact br_p (k0.mpr z) (q m (FU.rf m) (Or.inl ⟨rfl, C, J, N, S, u, R⟩))
    · refine br_n (fun y => z (k0.mp y)) (mm_B B C R (fun m' F1 B1 => bad F' f tt m' (by omega) B1 (q m' F1 (Or.inr B1))))
    · refine br_n (fun y => z (k0.mp y)) (mm_G (h2 := ck_sI h1 53 17 (h1.1 53 17 + 1)) G C R (fun a ha => ck_sI_ne _ _ _ (by omega)) (fun i hi => ck_sI_nj _ _ hi) (ck_sI_at ..) (fun y => absurd y c4) (fun _ m' F1 B1 => bad F' 1 tt m' (by omega) B1 (q m' F1 (Or.inr B1))))
  | succ k ih =>
    intro F t h m J N S u f tt hF L C R hk q
    obtain ⟨F', rfl⟩ : ∃ F', F = F' + 1 := ⟨F - 1, by omega⟩
    have k0 := C.k.2.2
    obtain ⟨z, t1, h1, h2, G, c4, e, e3, e17, L'⟩ := L
    unfold wp_X12_text_127
    refine br_q C.2.2.2 (br_n (fun y => z (k0.mp y)) (mm_G G C R e e3 e17 (fun _ m' F1 C1 ⟨J', N', S', u', R1⟩ => ?_) (fun y => absurd c4 y)))
    exact ih F' (nxt b n t1) h2 m' J' N' S' u' f tt hF L' C1 R1 (by omega) (fun m'' F2 E => q m'' (F1.tr F2) E)
