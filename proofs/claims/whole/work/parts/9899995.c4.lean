/-! the law's case of suit -/
theorem d4_372 : decode code 372 = .ok (.aload_n 1, 1) := by decide +kernel
theorem d4_385 : decode code 385 = .ok (.aload_n 3, 1) := by decide +kernel
theorem d4_386 : decode code 386 = .ok (.invokestatic 39, 3) := by decide +kernel
theorem d4_389 : decode code 389 = .ok (.istore 5, 2) := by decide +kernel
theorem d4_391 : decode code 391 = .ok (.aload_n 2, 1) := by decide +kernel
theorem d4_404 : decode code 404 = .ok (.invokevirtual 44, 3) := by decide +kernel
theorem d4_407 : decode code 407 = .ok (.istore 6, 2) := by decide +kernel
theorem d4_409 : decode code 409 = .ok (.aload_n 2, 1) := by decide +kernel
theorem d4_410 : decode code 410 = .ok (.invokevirtual 45, 3) := by decide +kernel
theorem d4_413 : decode code 413 = .ok (.iload 5, 2) := by decide +kernel
theorem d4_415 : decode code 415 = .ok (.if_icmp .eq 5, 3) := by decide +kernel
theorem d4_420 : decode code 420 = .ok (.iload 5, 2) := by decide +kernel
theorem d4_422 : decode code 422 = .ok (.ifCond .ne 15, 3) := by decide +kernel
theorem d4_425 : decode code 425 = .ok (.aload_n 3, 1) := by decide +kernel
theorem d4_426 : decode code 426 = .ok (.iconst 0, 1) := by decide +kernel
theorem d4_427 : decode code 427 = .ok (.laload, 1) := by decide +kernel
theorem d4_428 : decode code 428 = .ok (.iload 6, 2) := by decide +kernel
theorem d4_430 : decode code 430 = .ok (.i2l, 1) := by decide +kernel
theorem d4_431 : decode code 431 = .ok (.lcmp, 1) := by decide +kernel
theorem d4_432 : decode code 432 = .ok (.ifCond .eq 5, 3) := by decide +kernel
theorem d4_437 : decode code 437 = .ok (.goto 1066, 3) := by decide +kernel
theorem d4_a : ∀ j, j < 2 → dA (373 + 6 * j) ((j + 1 : Nat) : Int) := fun j hj => match j, hj with
  | 0, _ => ⟨by decide +kernel, by decide +kernel, by decide +kernel, by decide +kernel, by decide +kernel⟩
  | 1, _ => ⟨by decide +kernel, by decide +kernel, by decide +kernel, by decide +kernel, by decide +kernel⟩
  | j + 2, hj => absurd hj (by omega)
theorem d4_b : ∀ j, j < 2 → dA (392 + 6 * j) ((j + 1 : Nat) : Int) := fun j hj => match j, hj with
  | 0, _ => ⟨by decide +kernel, by decide +kernel, by decide +kernel, by decide +kernel, by decide +kernel⟩
  | 1, _ => ⟨by decide +kernel, by decide +kernel, by decide +kernel, by decide +kernel, by decide +kernel⟩
  | j + 2, hj => absurd hj (by omega)
section LW4
variable {p : Program} {l : Launch} {e : Env} {s : State} {m : MethodId} {below : List Frame} {meth : Method} {c : Code} {b L : Nat} {xs : Nat → Int32} {D : va_G} {cA : Nat → ClassId} {Qs : State → Prop} {qx qm qo cells slots sa sb : Nat} {x4 : Int32}
set_option maxHeartbeats 4000000 in
theorem lw_case_4 (C : lwK p s m meth c b L xs D cA) (hlt : l.stackTraces = false) (hSX : ck_SX sa sb (fun q : Nat => s.heap.size ≤ q) s s.heap) (hin : ∀ k, k < 6 → vp_in (x4 + nI k) L) (hcs : cells + 1 ≤ 601024 ∧ slots + 6 ≤ 7293033) (K : lwI p l e s m below meth c b D cA Qs qx qm qo x4 (cells + 1) (slots + 6) 1503) : lwI p l e s m below meth c b D cA Qs qx qm qo x4 cells slots 372 := by
  intro ad adM h mm o H locs ls S0 ea em sX sM hL hS hl
  obtain ⟨C0, hK, hN⟩ := id C
  have hts := lw_T C0
  obtain ⟨hx, hb, hr, hml, hown, _, hX9, hbl, hlk, _⟩ := id C0
  have hown : s.vm.findClass RL = some m.cls := hown
  obtain ⟨fM, fM0⟩ := shM0
  obtain ⟨J, N, S, S0⟩ := S0
  -- the model's turn, and the comparisons
  have go : ∀ (r : Int32) (o' : Nat → Int64) (PQ : Int32 → ck_H → Prop) (H1 : Heap) (locs1 : List Loc), wp_X12_suit (av xs x4 1) (av xs x4 2) mm PQ → (∀ r' m', PQ r' m' → (r = 0 → o' 0 = r'.toInt64) ∧ m'.1 0 0 = r ∧ Sim h m') →
      nLS (fun q : Nat => s.heap.size ≤ q) D (ck_wd ad cA h ck_shX) (ck_wd adM cA mm ck_shM ++ wo cA qo o') H1 → va_S (fun q : Nat => s.heap.size ≤ q) s.heap H1 locs1 → W p l e room_1 s m #[Value.ref b] below meth c H1 locs1 (cells + 1) (slots + 6) Qs (F0 m 389 ls [.int r]) := by
    intro r o' PQ H1 locs1 hq hPQ hL1 hS1
    refine lv_istore (lv' := [(5, .int r), (0, .ref b), (1, .ref qx), (2, .ref qm), (3, .ref qo), (4, .int x4)]) hx hb d4_389 hl (by decide) rfl (fun ls1 hl1 => ?_)
    have hl1' := lv_sub hl1 [1, 2, 3, 4, 5] rfl
    refine lv_aload_n hx hb d4_391 rfl (lv_at hl1 3 rfl) ?_
    refine lw_args C hin hS1 hl1' 2 392 (by decide) d4_b ?_
    have e2 : (asL xs x4 2).reverse ++ [Value.ref qm] = ((asL xs x4 2).map (ck_tr adM)).reverse ++ .ref (adM 0) :: [] := by rw [asL_tr, em]
    rw [e2]
    refine lw_callV C (c_X12_suit (gr := false) hq) cal_X12_suit (asL_len 2) ml_L_44 vir_X12_suit fM0 clX12.1 (Nat.le_of_ble_eq_true rfl) (Nat.le_of_ble_eq_true rfl) (Nat.le_of_ble_eq_true rfl) hcs d4_404 hL1.foc hS1 sM hl1.1 (fun v sh' m' H2 locs2 hq2 hL2 hS2 => ?_)
    obtain ⟨r', rfl, rfl, hq2⟩ := hq2
    obtain ⟨p1, p2, p3⟩ := hPQ r' m' hq2
    show W p l e room_1 s m #[Value.ref b] below meth c H2 locs2 (cells + 1) (slots + 6) Qs (F0 m 407 ls1 [.int r'])
    refine lv_istore (lv' := [(6, .int r'), (5, .int r), (0, .ref b), (1, .ref qx), (2, .ref qm), (3, .ref qo), (4, .int x4)]) hx hb d4_407 hl1 (by decide) rfl (fun ls2 hl2 => ?_)
    refine lv_aload_n hx hb d4_409 rfl (lv_at hl2 4 rfl) ?_
    rw [← em]
    have hqt : wp_X12_thrown m' (fun r9 m9 => r9 = r ∧ m9 = m') := ⟨p2, rfl⟩
    refine lw_callV (as := []) C (c_X12_thrown (gr := false) hqt) cal_X12_thrown rfl ml_L_45 vir_X12_thrown fM0 clX12.1 (Nat.le_of_ble_eq_true rfl) (Nat.le_of_ble_eq_true rfl) (Nat.le_of_ble_eq_true rfl) hcs d4_410 hL2 hS2 sM hl2.1 (fun v sh' m9 H3 locs3 hq3 hL3 hS3 => ?_)
    obtain ⟨r9, rfl, rfl, rfl, rfl⟩ := hq3
    show W p l e room_1 s m #[Value.ref b] below meth c H3 locs3 (cells + 1) (slots + 6) Qs (F0 m 413 ls2 [.int r9])
    refine lv_iload hx hb d4_413 (lv_at hl2 1 rfl) ?_
    refine lv_icmp_eq (tgt := 420) hx hb d4_415 (by decide) (fun _ => ?_) (fun z => absurd rfl z)
    refine lv_iload hx hb d4_420 (lv_at hl2 1 rfl) ?_
    have fin : W p l e room_1 s m #[Value.ref b] below meth c H3 locs3 (cells + 1) (slots + 6) Qs (F0 m 437 ls2 []) := by
      refine lv_goto (tgt := 1503) hx hb d4_437 (by decide) ?_
      exact K ad adM h m9 o' H3 locs3 ls2 p3 ea em sX sM hL3.foc hS3 (lv_sub hl2 [2, 3, 4, 5, 6] rfl)
    refine lv_if_ne (tgt := 437) hx hb d4_422 (by decide) (fun _ => fin) (fun z => ?_)
    refine lv_aload_n hx hb d4_425 rfl (lv_at hl2 5 rfl) ?_
    refine lv_iconst (v := 0) hx hb d4_426 (by decide) ?_
    refine va_lald (tys := ck_ty cA) (ws := wo cA qo o') (cA := cA 3) (n := 1) (f := o') hx hb hK (P_r hL3.2.1) 0 3 rfl rfl (by rw [show (0 : Int32) = nI 0 from rfl]; exact pu_in (by decide) (by decide)) d4_427 ?_
    refine lv_iload hx hb d4_428 (lv_at hl2 0 rfl) ?_
    refine lv_i2l hx hb d4_430 rfl ?_
    refine W.lcmp hx hb d4_431 ?_
    have eo : o' (0 : Int32).toNatClampNeg = r'.toInt64 := p1 z
    rw [eo]
    refine lv_if_eq (tgt := 437) hx hb d4_432 (by decide) (fun _ => fin) (fun w => absurd (by simp [lg_cmp]) w)
  refine lv_aload_n hx hb d4_372 rfl (lv_at hl 1 rfl) ?_
  refine lw_args C hin hS hl 2 373 (by decide) d4_a ?_
  refine lv_aload_n hx hb d4_385 rfl (lv_at hl 3 rfl) ?_
  have hLg : nLS (fun q : Nat => s.heap.size ≤ q) D (ck_wd ad cA h ck_shX ++ wo cA qo o) (ck_wd adM cA mm ck_shM) H := hL.grp
  have hF := hLg.fr hS (fun q z => z)
  have hT9 : GoodIn ck_T (va_wsS RL 39 yL_suit (Cond.codeWith yL_suit cL_suit 5 (some .int) hhL :: ck_T)) := ck_Gc ml_L_39 (ck_Gc xst_L (ck_Gc xin_L (ck_Gc xcode_L ck_GT)))
  have R9 := vx_runSX (R := room_1) (l := l) (e := e) (below := below) (meth := meth) (H := H) (locs := locs) (cells := cells) (slots := slots) (g := F0 m 386 ls [.ref qo, .int (av xs x4 2), .int (av xs x4 1), .ref (ad 0)]) (As := [.ref (ad 0), .int (av xs x4 1), .int (av xs x4 2), .ref qo]) (rest := []) (n := 4) ⟨hx, hb, hml, hown, hts⟩ (c_Lsuit (D := D) (cA := cA) (ad := ad) (sz := H.size) (sa := sa) (sb := sb) (qo := qo) (o := o) hlt (sim_suit (a := av xs x4 1) (b := av xs x4 2) S0)) (vx_cwSW 4 hts hT9 rfl rfl rfl ⟨by decide +kernel, by decide +kernel, by decide +kernel⟩ ⟨Nat.le_of_ble_eq_true rfl, Nat.le_of_ble_eq_true rfl⟩) ⟨lsBlind, fun U hU hW => ⟨rfl, by rw [hU], by rw [hU]; exact hLg.1, va_K.moved hW.alike hK, ck_Nmoved hW hN, hLg.2.2.1.weaken (fun _ _ _ _ => trivial), by rw [hU]; exact ((sX.kept hS.2.1).narrow hF).warm hW, by rw [hU]; exact ((hSX.kept hS.2.1).narrow hF).warm hW⟩⟩ rfl rfl hl.1 rfl (lv_room (Nat.le_of_ble_eq_true rfl)) d4_386 hcs
  unfold lsQ at R9
  rw [← ea]
  refine vx_calli R9 hS (fun q _ z => hF q z) hF (fun q _ z => hF q z) (fun E ce q9 u t H1 locs1 ht hal hpx => hpx.elim) (fun r o' t H1 locs1 ht hal hpost hB hz hk hS1 => ?_)
  have hL1 : nLS (fun q : Nat => s.heap.size ≤ q) D (ck_wd ad cA h ck_shX) (ck_wd adM cA mm ck_shM ++ wo cA qo o') H1 := (hLg.call hk (by rw [← ht]; exact hB.1) hB.2 hF).ung
  rcases hpost with ⟨rfl, v, hv, ho⟩ | ⟨rfl, hv⟩ | ⟨rfl, hv⟩
  · exact go 0 o' _ H1 locs1 hv (fun r' m' z => ⟨fun _ => by rw [ho, z.1], z.2⟩) hL1 hS1
  · exact go 1 o' _ H1 locs1 hv (fun r' m' z => ⟨fun w => absurd w (by decide), z⟩) hL1 hS1
  · exact go 2 o' _ H1 locs1 hv (fun r' m' z => ⟨fun w => absurd w (by decide), z⟩) hL1 hS1
end LW4
