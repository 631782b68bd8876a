/-! the law's loop -/
theorem dl_23 : decode code 23 = .ok (.iload 4, 2) := by decide +kernel
theorem dl_25 : decode code 25 = .ok (.aload_n 0, 1) := by decide +kernel
theorem dl_26 : decode code 26 = .ok (.arraylength, 1) := by decide +kernel
theorem dl_27 : decode code 27 = .ok (.bipush 6, 2) := by decide +kernel
theorem dl_29 : decode code 29 = .ok (.isub, 1) := by decide +kernel
theorem dl_30 : decode code 30 = .ok (.if_icmp .gt 1479, 3) := by decide +kernel
theorem dl_33 : decode code 33 = .ok (.aload_n 0, 1) := by decide +kernel
theorem dl_34 : decode code 34 = .ok (.iload 4, 2) := by decide +kernel
theorem dl_36 : decode code 36 = .ok (.iaload, 1) := by decide +kernel
theorem dl_37 : decode code 37 = .ok (.bipush 63, 2) := by decide +kernel
theorem dl_39 : decode code 39 = .ok (.iand, 1) := by decide +kernel
theorem dl_40 : decode code 40 = .ok (.tableswitch 1463 0 38 #[172, 245, 270, 295, 332, 400, 437, 474, 511, 548, 585, 635, 672, 725, 762, 787, 812, 849, 886, 911, 948, 985, 1010, 1047, 1060, 1097, 1122, 1147, 1160, 1173, 1238, 1263, 1288, 1301, 1350, 1399, 1412, 1425, 1438], 172) := by decide +kernel
theorem dl_1503 : decode code 1503 = .ok (.iinc 4 6, 3) := by decide +kernel
theorem dl_1506 : decode code 1506 = .ok (.goto (-1483), 3) := by decide +kernel
theorem dl_1509 : decode code 1509 = .ok (.iconst 1, 1) := by decide +kernel
theorem dl_1510 : decode code 1510 = .ok (.ireturn, 1) := by decide +kernel
theorem lw_gt {L i : Nat} (hL : L < 2 ^ 30) (hi : i < 2 ^ 30) (z : ¬ Int32.ofNat L - 6 < nI i) : i + 6 ≤ L := by
  have z1 : ¬ (Int32.ofNat L - 6).toInt < (nI i).toInt := fun y => z (Int32.lt_iff_toInt_lt.mpr y)
  have e1 : (nI i).toInt = (i : Int) := nI_toInt (by omega)
  have e2 : (Int32.ofNat L).toInt = (L : Int) := nI_toInt (n := L) (by omega)
  have e3 : (Int32.ofNat L - 6).toInt = (L : Int) - 6 := by
    rw [Int32.toInt_sub, e2, show (6 : Int32).toInt = 6 by decide]
    exact Int.bmod_eq_of_le (by omega) (by omega)
  omega
section LWO
variable {p : Program} {l : Launch} {e : Env} {s : State} {m : MethodId} {below : List Frame} {meth : Method} {c : Code} {b L : Nat} {xs : Nat → Int32} {D : va_G} {cA : Nat → ClassId} {Qs : State → Prop} {qx qm qo sa sb : Nat}
theorem lwI.widen {x4 : Int32} {cells slots k n pc : Nat} (h : lwI p l e s m below meth c b D cA Qs qx qm qo x4 k n pc) (h1 : cells ≤ k) (h2 : slots ≤ n) : lwI p l e s m below meth c b D cA Qs qx qm qo x4 cells slots pc :=
  fun ad adM h9 mm o H locs ls S0 ea em sX sM hL hS hl => W.widen h1 h2 (h ad adM h9 mm o H locs ls S0 ea em sX sM hL hS hl)
set_option maxHeartbeats 4000000 in
theorem lw_loop (C : lwK p s m meth c b L xs D cA) (hlt : l.stackTraces = false) (hSX : ck_SX sa sb (fun q : Nat => s.heap.size ≤ q) s s.heap) (hL9 : L ≤ 3072) : ∀ (k j : Nat), j + k = 513 → lwI p l e s m below meth c b D cA (lw_Z below #[Value.ref b] s) qx qm qo (nI (6 * j)) (130 + j) (5000 + 6 * j) 23 := by
  intro k
  induction k with
  | zero =>
    intro j hj ad adM h mm o H locs ls S0 ea em sX sM hL hS hl
    obtain ⟨C0, hK, hN⟩ := id C
    obtain ⟨hx, hb, hr, hml, hown, _, hX9, hbl, hlk, _⟩ := id C0
    refine lv_iload hx hb dl_23 (lv_at hl 4 rfl) ?_
    refine lv_aload_n hx hb dl_25 rfl (lv_at hl 0 rfl) ?_
    refine va_slen hx hb hX9 hbl (Nat.not_le.mpr hbl) hS dl_26 ?_
    refine lv_bipush (v := 6) hx hb dl_27 (by decide) ?_
    refine lv_isub hx hb dl_29 ?_
    refine lv_icmp_gt (tgt := 1509) hx hb dl_30 (by decide) (fun _ => ?_) (fun z => ?_)
    · refine lv_iconst (v := 1) hx hb dl_1509 (by decide) ?_
      refine va_forget hS.2.2 (W.widen (k := 601024) (n := 7293033) (by omega) (by omega) ?_)
      exact lw_ret hx hb hr hlk dl_1510
    · have := lw_gt (L := L) (i := 6 * j) (by omega) (by omega) z
      omega
  | succ k ih =>
    intro j hj ad adM h mm o H locs ls S0 ea em sX sM hL hS hl
    obtain ⟨C0, hK, hN⟩ := id C
    obtain ⟨hx, hb, hr, hml, hown, _, hX9, hbl, hlk, _⟩ := id C0
    refine lv_iload hx hb dl_23 (lv_at hl 4 rfl) ?_
    refine lv_aload_n hx hb dl_25 rfl (lv_at hl 0 rfl) ?_
    refine va_slen hx hb hX9 hbl (Nat.not_le.mpr hbl) hS dl_26 ?_
    refine lv_bipush (v := 6) hx hb dl_27 (by decide) ?_
    refine lv_isub hx hb dl_29 ?_
    refine lv_icmp_gt (tgt := 1509) hx hb dl_30 (by decide) (fun _ => ?_) (fun z => ?_)
    · refine lv_iconst (v := 1) hx hb dl_1509 (by decide) ?_
      refine va_forget hS.2.2 (W.widen (k := 601024) (n := 7293033) (by omega) (by omega) ?_)
      exact lw_ret hx hb hr hlk dl_1510
    · have hw : 6 * j + 6 ≤ L := lw_gt (L := L) (i := 6 * j) (by omega) (by omega) z
      have hin : ∀ k, k < 6 → vp_in (nI (6 * j) + nI k) L := fun k hk => by rw [nI_add]; exact pu_in (by omega) (by omega)
      -- behind a case: six ints on
      have K4 : lwI p l e s m below meth c b D cA (lw_Z below #[Value.ref b] s) qx qm qo (nI (6 * j)) (130 + j + 1) (5000 + 6 * j + 6) 1503 := by
        intro ad adM h mm o H locs ls S0 ea em sX sM hL hS hl
        have hv : nI (6 * j) + Int32.ofInt 6 = nI (6 * (j + 1)) := by
          rw [show Int32.ofInt 6 = nI 6 by decide, nI_add, show 6 * j + 6 = 6 * (j + 1) by omega]
        refine lv_iinc (v := nI (6 * (j + 1))) (lv' := [(4, .int (nI (6 * (j + 1)))), (0, .ref b), (1, .ref qx), (2, .ref qm), (3, .ref qo)]) hx hb dl_1503 hl (k := 4) rfl hv (by decide) rfl (fun ls' hl' => ?_)
        refine lv_goto (tgt := 23) hx hb dl_1506 (by decide) ?_
        exact ih (j + 1) (by omega) ad adM h mm o H locs ls' S0 ea em sX sM hL hS (lv_sub hl' [1, 2, 3, 4, 0] rfl)
      have K0 : lwI p l e s m below meth c b D cA (lw_Z below #[Value.ref b] s) qx qm qo (nI (6 * j)) (130 + j) (5000 + 6 * j) 1503 := K4.widen (by omega) (by omega)
      have hcs : 130 + j ≤ 601024 ∧ 5000 + 6 * j ≤ 7293033 := ⟨by omega, by omega⟩
      have h0 : vp_in (nI (6 * j)) L := pu_in (by omega) (by omega)
      refine lv_aload_n hx hb dl_33 rfl (lv_at hl 0 rfl) ?_
      refine lv_iload hx hb dl_34 (lv_at hl 4 rfl) ?_
      refine va_sld hx hb hX9 hbl (Nat.not_le.mpr hbl) hS h0 dl_36 ?_
      refine lv_bipush (v := 63) hx hb dl_37 (by decide) ?_
      refine lv_iand hx hb dl_39 ?_
      refine lv_topi (fun v9 _ => ?_)
      by_cases out : v9.toInt < 0 ∨ 38 < v9.toInt
      · exact lv_tableOut (tgt := 1503) hx hb dl_40 out (by decide) (K0 ad adM h mm o H locs ls S0 ea em sX sM hL hS hl)
      · rcases (show v9.toInt = 0 ∨ v9.toInt = 1 ∨ v9.toInt = 2 ∨ v9.toInt = 3 ∨ v9.toInt = 4 ∨ v9.toInt = 5 ∨ v9.toInt = 6 ∨ v9.toInt = 7 ∨ v9.toInt = 8 ∨ v9.toInt = 9 ∨ v9.toInt = 10 ∨ v9.toInt = 11 ∨ v9.toInt = 12 ∨ v9.toInt = 13 ∨ v9.toInt = 14 ∨ v9.toInt = 15 ∨ v9.toInt = 16 ∨ v9.toInt = 17 ∨ v9.toInt = 18 ∨ v9.toInt = 19 ∨ v9.toInt = 20 ∨ v9.toInt = 21 ∨ v9.toInt = 22 ∨ v9.toInt = 23 ∨ v9.toInt = 24 ∨ v9.toInt = 25 ∨ v9.toInt = 26 ∨ v9.toInt = 27 ∨ v9.toInt = 28 ∨ v9.toInt = 29 ∨ v9.toInt = 30 ∨ v9.toInt = 31 ∨ v9.toInt = 32 ∨ v9.toInt = 33 ∨ v9.toInt = 34 ∨ v9.toInt = 35 ∨ v9.toInt = 36 ∨ v9.toInt = 37 ∨ v9.toInt = 38 by omega) with z | z | z | z | z | z | z | z | z | z | z | z | z | z | z | z | z | z | z | z | z | z | z | z | z | z | z | z | z | z | z | z | z | z | z | z | z | z | z
        · exact lv_tableIn (off := 172) (tgt := 212) hx hb dl_40 (by omega) (by omega) (by rw [z]; rfl) (by decide) (lw_case_0 C hin hcs K0 ad adM h mm o H locs ls S0 ea em sX sM hL hS hl)
        · exact lv_tableIn (off := 245) (tgt := 285) hx hb dl_40 (by omega) (by omega) (by rw [z]; rfl) (by decide) (lw_case_1 C hin hcs K0 ad adM h mm o H locs ls S0 ea em sX sM hL hS hl)
        · exact lv_tableIn (off := 270) (tgt := 310) hx hb dl_40 (by omega) (by omega) (by rw [z]; rfl) (by decide) (lw_case_2 C hin hcs K0 ad adM h mm o H locs ls S0 ea em sX sM hL hS hl)
        · exact lv_tableIn (off := 295) (tgt := 335) hx hb dl_40 (by omega) (by omega) (by rw [z]; rfl) (by decide) (lw_case_3 C hin hcs K0 ad adM h mm o H locs ls S0 ea em sX sM hL hS hl)
        · exact lv_tableIn (off := 332) (tgt := 372) hx hb dl_40 (by omega) (by omega) (by rw [z]; rfl) (by decide) (lw_case_4 C hlt hSX hin ⟨by omega, by omega⟩ K4 ad adM h mm o H locs ls S0 ea em sX sM hL hS hl)
        · exact lv_tableIn (off := 400) (tgt := 440) hx hb dl_40 (by omega) (by omega) (by rw [z]; rfl) (by decide) (lw_case_5 C hin hcs K0 ad adM h mm o H locs ls S0 ea em sX sM hL hS hl)
        · exact lv_tableIn (off := 437) (tgt := 477) hx hb dl_40 (by omega) (by omega) (by rw [z]; rfl) (by decide) (lw_case_6 C hin hcs K0 ad adM h mm o H locs ls S0 ea em sX sM hL hS hl)
        · exact lv_tableIn (off := 474) (tgt := 514) hx hb dl_40 (by omega) (by omega) (by rw [z]; rfl) (by decide) (lw_case_7 C hin hcs K0 ad adM h mm o H locs ls S0 ea em sX sM hL hS hl)
        · exact lv_tableIn (off := 511) (tgt := 551) hx hb dl_40 (by omega) (by omega) (by rw [z]; rfl) (by decide) (lw_case_8 C hin hcs K0 ad adM h mm o H locs ls S0 ea em sX sM hL hS hl)
        · exact lv_tableIn (off := 548) (tgt := 588) hx hb dl_40 (by omega) (by omega) (by rw [z]; rfl) (by decide) (lw_case_9 C hin hcs K0 ad adM h mm o H locs ls S0 ea em sX sM hL hS hl)
        · exact lv_tableIn (off := 585) (tgt := 625) hx hb dl_40 (by omega) (by omega) (by rw [z]; rfl) (by decide) (lw_case_10 C hin hcs K0 ad adM h mm o H locs ls S0 ea em sX sM hL hS hl)
        · exact lv_tableIn (off := 635) (tgt := 675) hx hb dl_40 (by omega) (by omega) (by rw [z]; rfl) (by decide) (lw_case_11 C hin hcs K0 ad adM h mm o H locs ls S0 ea em sX sM hL hS hl)
        · exact lv_tableIn (off := 672) (tgt := 712) hx hb dl_40 (by omega) (by omega) (by rw [z]; rfl) (by decide) (lw_case_12 C hin hcs K0 ad adM h mm o H locs ls S0 ea em sX sM hL hS hl)
        · exact lv_tableIn (off := 725) (tgt := 765) hx hb dl_40 (by omega) (by omega) (by rw [z]; rfl) (by decide) (lw_case_13 C hin hcs K0 ad adM h mm o H locs ls S0 ea em sX sM hL hS hl)
        · exact lv_tableIn (off := 762) (tgt := 802) hx hb dl_40 (by omega) (by omega) (by rw [z]; rfl) (by decide) (lw_case_14 C hin hcs K0 ad adM h mm o H locs ls S0 ea em sX sM hL hS hl)
        · exact lv_tableIn (off := 787) (tgt := 827) hx hb dl_40 (by omega) (by omega) (by rw [z]; rfl) (by decide) (lw_case_15 C hin hcs K0 ad adM h mm o H locs ls S0 ea em sX sM hL hS hl)
        · exact lv_tableIn (off := 812) (tgt := 852) hx hb dl_40 (by omega) (by omega) (by rw [z]; rfl) (by decide) (lw_case_16 C hin hcs K0 ad adM h mm o H locs ls S0 ea em sX sM hL hS hl)
        · exact lv_tableIn (off := 849) (tgt := 889) hx hb dl_40 (by omega) (by omega) (by rw [z]; rfl) (by decide) (lw_case_17 C hin hcs K0 ad adM h mm o H locs ls S0 ea em sX sM hL hS hl)
        · exact lv_tableIn (off := 886) (tgt := 926) hx hb dl_40 (by omega) (by omega) (by rw [z]; rfl) (by decide) (lw_case_18 C hin hcs K0 ad adM h mm o H locs ls S0 ea em sX sM hL hS hl)
        · exact lv_tableIn (off := 911) (tgt := 951) hx hb dl_40 (by omega) (by omega) (by rw [z]; rfl) (by decide) (lw_case_19 C hin hcs K0 ad adM h mm o H locs ls S0 ea em sX sM hL hS hl)
        · exact lv_tableIn (off := 948) (tgt := 988) hx hb dl_40 (by omega) (by omega) (by rw [z]; rfl) (by decide) (lw_case_20 C hin hcs K0 ad adM h mm o H locs ls S0 ea em sX sM hL hS hl)
        · exact lv_tableIn (off := 985) (tgt := 1025) hx hb dl_40 (by omega) (by omega) (by rw [z]; rfl) (by decide) (lw_case_21 C hin hcs K0 ad adM h mm o H locs ls S0 ea em sX sM hL hS hl)
        · exact lv_tableIn (off := 1010) (tgt := 1050) hx hb dl_40 (by omega) (by omega) (by rw [z]; rfl) (by decide) (lw_case_22 C hin hcs K0 ad adM h mm o H locs ls S0 ea em sX sM hL hS hl)
        · exact lv_tableIn (off := 1047) (tgt := 1087) hx hb dl_40 (by omega) (by omega) (by rw [z]; rfl) (by decide) (lw_case_23 C hin hcs K0 ad adM h mm o H locs ls S0 ea em sX sM hL hS hl)
        · exact lv_tableIn (off := 1060) (tgt := 1100) hx hb dl_40 (by omega) (by omega) (by rw [z]; rfl) (by decide) (lw_case_24 C hin hcs K0 ad adM h mm o H locs ls S0 ea em sX sM hL hS hl)
        · exact lv_tableIn (off := 1097) (tgt := 1137) hx hb dl_40 (by omega) (by omega) (by rw [z]; rfl) (by decide) (lw_case_25 C hin hcs K0 ad adM h mm o H locs ls S0 ea em sX sM hL hS hl)
        · exact lv_tableIn (off := 1122) (tgt := 1162) hx hb dl_40 (by omega) (by omega) (by rw [z]; rfl) (by decide) (lw_case_26 C hin hcs K0 ad adM h mm o H locs ls S0 ea em sX sM hL hS hl)
        · exact lv_tableIn (off := 1147) (tgt := 1187) hx hb dl_40 (by omega) (by omega) (by rw [z]; rfl) (by decide) (lw_case_27 C hin hcs K0 ad adM h mm o H locs ls S0 ea em sX sM hL hS hl)
        · exact lv_tableIn (off := 1160) (tgt := 1200) hx hb dl_40 (by omega) (by omega) (by rw [z]; rfl) (by decide) (lw_case_28 C hin hcs K0 ad adM h mm o H locs ls S0 ea em sX sM hL hS hl)
        · exact lv_tableIn (off := 1173) (tgt := 1213) hx hb dl_40 (by omega) (by omega) (by rw [z]; rfl) (by decide) (lw_case_29 C hin hcs K0 ad adM h mm o H locs ls S0 ea em sX sM hL hS hl)
        · exact lv_tableIn (off := 1238) (tgt := 1278) hx hb dl_40 (by omega) (by omega) (by rw [z]; rfl) (by decide) (lw_case_30 C hin hcs K0 ad adM h mm o H locs ls S0 ea em sX sM hL hS hl)
        · exact lv_tableIn (off := 1263) (tgt := 1303) hx hb dl_40 (by omega) (by omega) (by rw [z]; rfl) (by decide) (lw_case_31 C hin hcs K0 ad adM h mm o H locs ls S0 ea em sX sM hL hS hl)
        · exact lv_tableIn (off := 1288) (tgt := 1328) hx hb dl_40 (by omega) (by omega) (by rw [z]; rfl) (by decide) (lw_case_32 C hin hcs K0 ad adM h mm o H locs ls S0 ea em sX sM hL hS hl)
        · exact lv_tableIn (off := 1301) (tgt := 1341) hx hb dl_40 (by omega) (by omega) (by rw [z]; rfl) (by decide) (lw_case_33 C hin hcs K0 ad adM h mm o H locs ls S0 ea em sX sM hL hS hl)
        · exact lv_tableIn (off := 1350) (tgt := 1390) hx hb dl_40 (by omega) (by omega) (by rw [z]; rfl) (by decide) (lw_case_34 C hin hcs K0 ad adM h mm o H locs ls S0 ea em sX sM hL hS hl)
        · exact lv_tableIn (off := 1399) (tgt := 1439) hx hb dl_40 (by omega) (by omega) (by rw [z]; rfl) (by decide) (lw_case_35 C hin hcs K0 ad adM h mm o H locs ls S0 ea em sX sM hL hS hl)
        · exact lv_tableIn (off := 1412) (tgt := 1452) hx hb dl_40 (by omega) (by omega) (by rw [z]; rfl) (by decide) (lw_case_36 C hin hcs K0 ad adM h mm o H locs ls S0 ea em sX sM hL hS hl)
        · exact lv_tableIn (off := 1425) (tgt := 1465) hx hb dl_40 (by omega) (by omega) (by rw [z]; rfl) (by decide) (lw_case_37 C hin hcs K0 ad adM h mm o H locs ls S0 ea em sX sM hL hS hl)
        · exact lv_tableIn (off := 1438) (tgt := 1478) hx hb dl_40 (by omega) (by omega) (by rw [z]; rfl) (by decide) (lw_case_38 C hin hcs K0 ad adM h mm o H locs ls S0 ea em sX sM hL hS hl)
end LWO
