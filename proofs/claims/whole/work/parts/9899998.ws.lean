/-! THE LAW, from its entry to its end -/
def fsX0 : List ck_F := [(2, none), (2, none), (2, none), (2, none), (2, none), (2, none), (2, none), (2, none), (2, none), (2, none), (2, none), (0, none), (0, none), (0, none), (0, none)]
def fsM0 : List ck_F := [(0, none), (2, none), (0, none), (2, none), (2, none), (2, none), (2, none), (2, none), (2, none), (2, none), (2, none), (2, none), (2, none), (2, none), (2, none), (2, none), (2, none), (2, none), (2, none), (0, none), (0, none), (0, none), (0, none), (0, none), (0, none), (0, none), (0, none), (0, none), (0, none), (0, none), (0, none), (0, none), (2, none), (2, none), (0, none), (2, none), (2, none), (2, none), (2, none), (2, none), (2, none), (2, none), (2, none), (2, none), (0, none), (0, none), (0, none), (0, none), (0, none), (0, none), (0, none), (2, none), (0, none), (0, none), (0, none), (2, none), (2, none), (2, none), (0, none), (0, none), (2, none), (2, none), (0, none), (0, none), (2, none), (2, none), (2, none), (2, none), (2, none)]
theorem fsX_ok : ∀ j, j < 15 → ck_dok (tyX11 j) fsX0[j]? = true := by decide +kernel
theorem fsM_ok : ∀ j, j < 69 → ck_dok (tyX12 j) fsM0[j]? = true := by decide +kernel
theorem ds_0 : decode code 0 = .ok (.new 8, 3) := by decide +kernel
theorem ds_3 : decode code 3 = .ok (.dup, 1) := by decide +kernel
theorem ds_4 : decode code 4 = .ok (.invokespecial 17, 3) := by decide +kernel
theorem ds_7 : decode code 7 = .ok (.astore_n 1, 1) := by decide +kernel
theorem ds_8 : decode code 8 = .ok (.new 18, 3) := by decide +kernel
theorem ds_11 : decode code 11 = .ok (.dup, 1) := by decide +kernel
theorem ds_12 : decode code 12 = .ok (.invokespecial 20, 3) := by decide +kernel
theorem ds_15 : decode code 15 = .ok (.astore_n 2, 1) := by decide +kernel
theorem ds_16 : decode code 16 = .ok (.iconst 1, 1) := by decide +kernel
theorem ds_17 : decode code 17 = .ok (.newarray .long, 2) := by decide +kernel
theorem ds_19 : decode code 19 = .ok (.astore_n 3, 1) := by decide +kernel
theorem ds_20 : decode code 20 = .ok (.iconst 0, 1) := by decide +kernel
theorem ds_21 : decode code 21 = .ok (.istore 4, 2) := by decide +kernel
set_option maxHeartbeats 4000000 in
set_option maxRecDepth 100000 in
theorem whole_start {p : Program} {e : Env} {s : State} {m : MethodId} {below : List Frame} {meth : Method} {c : Code} (l : Launch) (hflags : l.flags = flags0) {b L : Nat} {xs : Nat → Int32} (hL : L ≤ 3072) (C0 : lw_At p s m meth c b L xs) : W p l e room_1 s m #[Value.ref b] below meth c s.heap [] 0 0 (lw_Z below #[Value.ref b] s) (entryFrame m ([Value.ref b] : List Value).toArray 7) := by
  obtain ⟨hx, hb, hr, hml, hown, hts, hX, hbl, hlocks, hgv⟩ := id C0
  have hT := lw_T C0
  have hlt : l.stackTraces = false := by unfold Launch.stackTraces; rw [hflags]; decide +kernel
  obtain ⟨D, hD9⟩ := st_D hT
  obtain ⟨cA, hA9⟩ := st_A hT
  have hK : va_K D vwCl (ck_ty cA) s := ⟨hD9, hA9⟩
  have hN : ∀ w ∈ ck_N, va_Nw w s := fun w hw => va_Nw.of (st_in w hw) (hts w (List.mem_filter.mp hw).1)
  obtain ⟨adS, hSt⟩ := st_S hts hgv
  obtain ⟨sa, sb, hSX⟩ := st_SX hts hgv
  have C : lwK p s m meth c b L xs D cA := ⟨C0, hK, hN⟩
  have hS0 : va_S (fun q : Nat => s.heap.size ≤ q) s.heap s.heap [] := va_S.rf
  have adk : ∀ (z : Nat), ∃ ad : Nat → Nat, (∀ k, k < 1000 → ad k = z + k) ∧ (∀ k, 1000 ≤ k → ad k = adS k) := fun z => ⟨fun k => if k < 1000 then z + k else adS k, fun k hk => if_pos hk, fun k hk => if_neg (by omega)⟩
  obtain ⟨ad, ad1, ad2⟩ := adk s.heap.size
  have sX := hSt.ads ad2
  have hl := lv_entry ([.ref b]) (n := 7) (Nat.le_of_ble_eq_true rfl)
  rw [lg_entry_eq]
  generalize (lg_sl ([.ref b]) ++ List.replicate (7 - (lg_sl ([.ref b])).length) Slot.unset).toArray = ls at hl ⊢
  have hl : lv_has ls 7 [(0, .ref b)] := hl
  show W p l e room_1 s m #[Value.ref b] below meth c s.heap [] 0 0 _ (F0 m 0 ls [])
  refine lw_new (ad := ad) (w2 := []) (fs := fsX0) C clX11 kl_L_8 fsX_ok ⟨Nat.le_of_ble_eq_true rfl, Nat.le_of_ble_eq_true rfl⟩ ds_0 (fun k q hq => by simp at hq) ⟨fun i j x y hi => by simp at hi, fun k q hq => by simp at hq⟩ hS0 (ad1 0 (by decide)) (fun H1 hL1 hS1 hz1 => ?_)
  refine lv_dup hx hb ds_3 rfl ?_
  refine lw_callI (ad := ad) (sh := sc_0) C (c_X11_init_i0 tx_init) cal_X11_init ml_L_17 ins_X11_init rfl (Nat.le_of_ble_eq_true rfl) (Nat.le_of_ble_eq_true rfl) (Nat.le_of_ble_eq_true rfl) ⟨Nat.le_of_ble_eq_true rfl, Nat.le_of_ble_eq_true rfl⟩ ds_4 hL1 hS1 sX (fun _ => ⟨fun k hk => by rw [ad1 k hk, ad1 0 (by decide)]; omega, by rw [hz1, ad1 0 (by decide)]; rfl, by decide, by decide⟩) hl.1 (fun v sh' h H2 locs2 hq hL2 hS2 => ?_)
  obtain ⟨rfl, rfl, hi⟩ := hq
  show W p l e room_1 s m #[Value.ref b] below meth c H2 locs2 81 1799 _ (F0 m 7 ls [.ref (ad 0)])
  refine lv_astore_n (lv' := [(1, .ref (ad 0)), (0, .ref b)]) hx hb ds_7 rfl hl (by decide) rfl (fun ls hl => ?_)
  obtain ⟨adM, am1, am2⟩ := adk H2.size
  have sM := hSt.ads am2
  refine lw_new (ad := adM) (w2 := ck_wd ad cA h ck_shX) (fs := fsM0) C clX12 kl_L_18 fsM_ok ⟨Nat.le_of_ble_eq_true rfl, Nat.le_of_ble_eq_true rfl⟩ ds_8 hL2.1 hL2.2.2.1 hS2 (am1 0 (by decide)) (fun H3 hL3 hS3 hz3 => ?_)
  refine lv_dup hx hb ds_11 rfl ?_
  refine lw_callI (ad := adM) (sh := sc_166) C (c_X12_init_i21 mm_init) cal_X12_init ml_L_20 ins_X12_init rfl (Nat.le_of_ble_eq_true rfl) (Nat.le_of_ble_eq_true rfl) (Nat.le_of_ble_eq_true rfl) ⟨Nat.le_of_ble_eq_true rfl, Nat.le_of_ble_eq_true rfl⟩ ds_12 hL3 hS3 sM (fun _ => ⟨fun k hk => by rw [am1 k hk, am1 0 (by decide)]; omega, by rw [hz3, am1 0 (by decide)]; rfl, by decide, by decide⟩) hl.1 (fun v sh' mm H4 locs4 hq hL4 hS4 => ?_)
  obtain ⟨rfl, rfl, hm⟩ := hq
  have S0 : Sim h mm := hm h hi
  show W p l e room_1 s m #[Value.ref b] below meth c H4 locs4 121 4186 _ (F0 m 15 ls [.ref (adM 0)])
  refine lv_astore_n (lv' := [(2, .ref (adM 0)), (1, .ref (ad 0)), (0, .ref b)]) hx hb ds_15 rfl hl (by decide) rfl (fun ls hl => ?_)
  refine lv_iconst (v := 1) hx hb ds_16 (by decide) ?_
  refine va_newaK (atype := .long) (n := 1) (N := 1) (h := H4.size) hx hb (hts _ (lw_in (i := 324) (by decide +kernel))) rfl ds_17 rfl (by decide) (by decide) (by decide) (Nat.le_of_ble_eq_true rfl) (Nat.le_of_ble_eq_true rfl) rfl (fun H5 cB e5 z5 o5 _ hfc => ?_)
  have ecB : cB = cA 3 := by
    have h9 : s.vm.findClass ("[" ++ FieldType.long.toString) = some (cA 3) := (hA9 3 (cA 3, .long) rfl).2
    exact Option.some.inj (hfc.symm.trans h9)
  subst ecB
  have hS5 : va_S (fun q : Nat => s.heap.size ≤ q) s.heap H5 locs4 := ⟨Nat.le_trans hS4.1 (by omega), fun x h1 h2 => (o5 x (Nat.lt_of_lt_of_le h1 hS4.1)).trans (hS4.2.1 x h1 h2), hS4.2.2⟩
  have P5 : va_P D vwCl (wo cA H4.size (fun _ => 0)) H5 := by
    intro k q hq
    have hz : k < 1 := (List.getElem?_eq_some_iff.mp hq).1
    rw [show k = 0 by omega] at hq
    cases hq
    exact e5
  have D5 : va_D (fun q : Nat => s.heap.size ≤ q) (wo cA H4.size (fun _ => 0)) := by
    refine ⟨fun i j x y hi hj _ => ?_, fun k q hq => ?_⟩
    · have h1 : i < 1 := (List.getElem?_eq_some_iff.mp hi).1
      have h2 : j < 1 := (List.getElem?_eq_some_iff.mp hj).1
      omega
    · have hz : k < 1 := (List.getElem?_eq_some_iff.mp hq).1
      rw [show k = 0 by omega] at hq
      cases hq
      exact hS4.1
  have apo : ∀ w : va_W, va_P D vwCl w H4 → ap w (wo cA H4.size (fun _ => 0)) := by
    intro w hw i j x y hx9 hy hxy
    have hz : j < 1 := (List.getElem?_eq_some_iff.mp hy).1
    rw [show j = 0 by omega] at hy
    cases hy
    have lt9 := (hw i x hx9).lt
    have hxy : x.1 = H4.size := hxy
    omega
  have kp : ∀ w : va_W, va_P D vwCl w H4 → va_P D vwCl w H5 := fun w hw => hw.kept (fun k q hq => o5 q.1 (hw k q hq).lt)
  have hL5 : nLS (fun q : Nat => s.heap.size ≤ q) D (ck_wd ad cA h ck_shX) (ck_wd adM cA mm ck_shM ++ wo cA H4.size (fun _ => 0)) H5 := ⟨kp _ hL4.2.1, va_P.app (kp _ hL4.1) P5, hL4.2.2.2.1, va_D.app hL4.2.2.1 D5 (apo _ hL4.1), (hL4.2.2.2.2.sy).app (apo _ hL4.2.1)⟩
  refine lv_astore_n (lv' := [(3, .ref H4.size), (2, .ref (adM 0)), (1, .ref (ad 0)), (0, .ref b)]) hx hb ds_19 rfl hl (by decide) rfl (fun ls hl => ?_)
  refine lv_iconst (v := 0) hx hb ds_20 (by decide) ?_
  refine lv_istore (lv' := [(4, .int 0), (3, .ref H4.size), (2, .ref (adM 0)), (1, .ref (ad 0)), (0, .ref b)]) hx hb ds_21 hl (by decide) rfl (fun ls hl => ?_)
  refine W.widen (k := 130 + 0) (n := 5000 + 6 * 0) (Nat.le_of_ble_eq_true rfl) (Nat.le_of_ble_eq_true rfl) ?_
  exact lw_loop C hlt hSX hL 513 0 rfl ad adM h mm (fun _ => 0) H5 locs4 ls S0 rfl rfl sX sM hL5 hS5 (lv_sub hl [4, 3, 2, 1, 0] rfl)
