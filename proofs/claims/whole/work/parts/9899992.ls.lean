/-! the law's own suit: what is thrown is caught -/
theorem dL_suit_0 : decode cL_suit 0 = .ok (.aload_n 3, 1) := by decide +kernel
theorem dL_suit_1 : decode cL_suit 1 = .ok (.iconst 0, 1) := by decide +kernel
theorem dL_suit_2 : decode cL_suit 2 = .ok (.aload_n 0, 1) := by decide +kernel
theorem dL_suit_3 : decode cL_suit 3 = .ok (.iload_n 1, 1) := by decide +kernel
theorem dL_suit_4 : decode cL_suit 4 = .ok (.iload_n 2, 1) := by decide +kernel
theorem dL_suit_5 : decode cL_suit 5 = .ok (.invokevirtual 7, 3) := by decide +kernel
theorem dL_suit_8 : decode cL_suit 8 = .ok (.i2l, 1) := by decide +kernel
theorem dL_suit_9 : decode cL_suit 9 = .ok (.lastore, 1) := by decide +kernel
theorem dL_suit_10 : decode cL_suit 10 = .ok (.goto 11, 3) := by decide +kernel
theorem dL_suit_13 : decode cL_suit 13 = .ok (.astore 4, 2) := by decide +kernel
theorem dL_suit_15 : decode cL_suit 15 = .ok (.iconst 1, 1) := by decide +kernel
theorem dL_suit_16 : decode cL_suit 16 = .ok (.ireturn, 1) := by decide +kernel
theorem dL_suit_17 : decode cL_suit 17 = .ok (.astore 4, 2) := by decide +kernel
theorem dL_suit_19 : decode cL_suit 19 = .ok (.iconst 2, 1) := by decide +kernel
theorem dL_suit_20 : decode cL_suit 20 = .ok (.ireturn, 1) := by decide +kernel
theorem dL_suit_21 : decode cL_suit 21 = .ok (.iconst 0, 1) := by decide +kernel
theorem dL_suit_22 : decode cL_suit 22 = .ok (.ireturn, 1) := by decide +kernel
def hhL : List (Nat × Nat × Nat × Nat) := [(0, 10, 13, 13), (0, 10, 17, 15)]
theorem xcode_L : Cond.codeWith yL_suit cL_suit 5 (some .int) hhL ∈ ck_T := ck_in (i := 1116) (by decide +kernel) (by decide +kernel)
theorem xin_L : Cond.initialized RL ∈ ck_T := ck_in (i := 0) (by decide +kernel) (by decide +kernel)
theorem xst_L : Cond.static yL_suit ∈ ck_T := ck_in (i := 1115) (by decide +kernel) (by decide +kernel)
theorem xkl_L0 : Cond.classLink RL 13 xIO ∈ ck_T := ck_in (i := 1117) (by decide +kernel) (by decide +kernel)
theorem xkl_L1 : Cond.classLink RL 15 xNS ∈ ck_T := ck_in (i := 1118) (by decide +kernel) (by decide +kernel)
theorem ck_inB {i : Nat} {w : Cond} (h : tables_1[i]? = some w) (hg : ck_cd w = true) : w ∈ ck_B := List.mem_filter.mpr ⟨List.mem_append_right _ (List.mem_of_getElem? h), hg⟩
theorem xca_0 : Cond.castable xIO xIO ∈ ck_B := ck_inB (i := 1125) (by decide +kernel) (by decide +kernel)
theorem xca_1 : Cond.castable xNS xNS ∈ ck_B := ck_inB (i := 1192) (by decide +kernel) (by decide +kernel)
theorem wd_len {ad : Nat → Nat} {cA : Nat → ClassId} {h : ck_H} {sh : List ck_C} : (ck_wd ad cA h sh).length = sh.length := by
  simp only [ck_wd, List.length_mapIdx]
theorem vaA_l {w1 w2 : va_W} {sz : Nat} : ∀ q, va_A w1 sz q → va_A (w1 ++ w2) sz q := fun q z => z.imp (fun ⟨k, e, hk⟩ => ⟨k, e, app_l hk⟩) id
def wo (cA : Nat → ClassId) (qo : Nat) (o : Nat → Int64) : va_W := [(qo, .inl (cA 3, 1, .inr (.inl o)))]
section LSU
variable {l : Launch} {D : va_G} {cA : Nat → ClassId} {ad : Nat → Nat} {sz sa sb qo : Nat} {o : Nat → Int64} {a b : Int32} {h : ck_H} {Q : Int32 → Prop} {X1 X2 : Prop}
def lsPre (D : va_G) (cA : Nat → ClassId) (ad : Nat → Nat) (h : ck_H) (sz sa sb qo : Nat) (o : Nat → Int64) (U : State) : Prop := U.heap.size = sz ∧ va_P D vwCl (ck_wd ad cA h ck_shX ++ wo cA qo o) U.heap ∧ va_K D vwCl (ck_ty cA) U ∧ (∀ w ∈ ck_N, va_Nw w U) ∧ va_D (fun _ => True) (ck_wd ad cA h ck_shX ++ wo cA qo o) ∧ ck_S ad (va_A (ck_wd ad cA h ck_shX ++ wo cA qo o) sz) U U.heap ∧ ck_SX sa sb (va_A (ck_wd ad cA h ck_shX ++ wo cA qo o) sz) U U.heap
def lsPost (Q : Int32 → Prop) (X1 X2 : Prop) (r : Int32) (o' : Nat → Int64) : Prop := (r = 0 ∧ ∃ v, Q v ∧ o' 0 = v.toInt64) ∨ (r = 1 ∧ X1) ∨ (r = 2 ∧ X2)
def lsQ (D : va_G) (cA : Nat → ClassId) (ad : Nat → Nat) (h : ck_H) (sz qo : Nat) (o : Nat → Int64) (Q : Int32 → Prop) (X1 X2 : Prop) : Array Value → State → Outcome → State → Prop :=
  va_Qi (lsPost Q X1 X2) (fun o' t => va_P D vwCl (ck_wd ad cA h ck_shX ++ wo cA qo o') t.heap ∧ va_D (va_A (ck_wd ad cA h ck_shX ++ wo cA qo o) sz) (ck_wd ad cA h ck_shX ++ wo cA qo o')) (va_A (ck_wd ad cA h ck_shX ++ wo cA qo o) sz)
theorem lsBlind {av : List Value} : FrameBlind (va_Pc av (lsPre D cA ad h sz sa sb qo o)) := by
  intro a U g mk q
  obtain ⟨q0, q1, qP, qK, qN, qD, qS, qX⟩ := q
  exact ⟨q0, q1, qP, va_K.moved (u := U) (U := U.calling g mk a) (Vm.Alike.refl U.vm) qK, ck_Nsame (s := U) (U := U.calling g mk a) (rfl : U.vm = (U.calling g mk a).vm) qN, qD, ck_S.same (s := U) (U := U.calling g mk a) rfl qS, ck_SX.same (s := U) (U := U.calling g mk a) rfl qX⟩
set_option maxHeartbeats 4000000 in
set_option maxRecDepth 100000 in
theorem c_Lsuit (hlt : l.stackTraces = false) (hq : wpS a b h Q X1 X2) : vx_Met l yL_suit (Cond.codeWith yL_suit cL_suit 5 (some .int) hhL :: ck_T) (ck_rm 10 1 6) (va_Pc [.ref (ad 0), .int a, .int b, .ref qo] (lsPre D cA ad h sz sa sb qo o)) (lsQ D cA ad h sz qo o Q X1 X2) (vx_X (fun _ : Unit => False) (fun _ _ _ => True) (va_A (ck_wd ad cA h ck_shX ++ wo cA qo o) sz)) 1 6 (va_A (ck_wd ad cA h ck_shX ++ wo cA qo o) sz) := by
  refine vx_ofWH (cc := cL_suit) (maxL := 5) (ret := some .int) (hh := hhL) (by decide) rfl ?_
  intro p e s m args below meth c s₁ B hml hv
  obtain ⟨rfl, hsz, hP, hK, hN, hD0, hSt, hSX⟩ := hv
  have hx := B.exec
  have hb := B.bytes
  have hr := B.returns
  have hts0 := atoms_spec (ws := Cond.codeWith yL_suit cL_suit 5 (some .int) hhL :: ck_T) B.pre
  have hts : ∀ w ∈ ck_T, w.before ([Value.ref (ad 0), .int a, .int b, .ref qo] : List Value).toArray s = true := fun w hw => hts0 w (List.mem_cons_of_mem _ hw)
  have htab : c.exceptionTable.toList = tableOf hhL := vx_table (x := yL_suit) B (hts0 _ List.mem_cons_self)
  have hown : s.vm.findClass RL = some m.cls := findClass_of_methodNamed B.named
  have hlocks := B.notSynchronized
  subst hsz
  have hD := hD0.self (sz := s.heap.size)
  have hl := lv_entry ([Value.ref (ad 0), .int a, .int b, .ref qo]) (n := 5) (Nat.le_of_ble_eq_true rfl)
  rw [lg_entry_eq]
  generalize (lg_sl ([Value.ref (ad 0), .int a, .int b, .ref qo]) ++ List.replicate (5 - (lg_sl ([Value.ref (ad 0), .int a, .int b, .ref qo])).length) Slot.unset).toArray = ls at hl ⊢
  have hl : lv_has ls 5 [(0, .ref (ad 0)), (1, .int a), (2, .int b), (3, .ref qo)] := hl
  have hS0 : va_S (va_A (ck_wd ad cA h ck_shX ++ wo cA qo o) s.heap.size) s.heap s.heap [] := va_S.rf
  have hG0 : ck_gr false ad s.heap.size ck_shX := fun z => absurd z (by decide)
  obtain ⟨fX, fX0⟩ := shX0
  have hT9 : GoodIn ck_T (wsV RL 7 RX11 yX11_suit (Cond.code yX11_suit cX11_suit 3 (some .int) :: ck_T)) := ck_Gc ml_L_7 (ck_Gc vir_X11_suit.1 (ck_Gc vir_X11_suit.2 (ck_Gc cal_X11_suit.2.1 (ck_Gc cal_X11_suit.1 ck_GT))))
  show W p l e (ck_rm 10 1 6) s m _ below meth c s.heap [] 0 0 _ (F0 m 0 ls [])
  refine lv_aload_n hx hb dL_suit_0 rfl (lv_at hl 3 rfl) ?_
  refine lv_iconst (v := 0) hx hb dL_suit_1 (by decide) ?_
  refine lv_aload_n hx hb dL_suit_2 rfl (lv_at hl 0 rfl) ?_
  refine lv_iload_n hx hb dL_suit_3 rfl (lv_at hl 1 rfl) ?_
  refine lv_iload_n hx hb dL_suit_4 rfl (lv_at hl 2 rfl) ?_
  have R9 := vx_runV (R := ck_rm 10 1 6) (l := l) (e := e) (below := below) (meth := meth) (H := s.heap) (locs := []) (cells := 0) (slots := 0) (g := F0 m 5 ls [.int b, .int a, .ref (ad 0), .int 0, .ref qo]) (As := [.int a, .int b]) (rest := [.int 0, .ref qo]) (n := 2) ⟨hx, hb, hml, hown, hts⟩ (c_suit (D := D) (cA := cA) (ad := ad) (sz := s.heap.size) (sa := sa) (sb := sb) hlt hq) (cwV 2 hts hT9 rfl rfl rfl ⟨rfl, cal_X11_suit.2.2.1, cal_X11_suit.2.2.2.1, cal_X11_suit.2.2.2.2⟩ ⟨Nat.le_of_ble_eq_true rfl, Nat.le_of_ble_eq_true rfl⟩) ⟨suBlind, va_recv (q0 := 0) hK (P_l hP) clX11.1 (ck_wd_at fX0), fun U hU hW => ⟨rfl, ⟨by rw [hU], by rw [hU]; exact P_l hP, va_K.moved hW.alike hK, ck_Nmoved hW hN, D_l hD0, hG0, by rw [hU]; exact (hSt.narrow vaA_l).warm hW⟩, by rw [hU]; exact (hSX.narrow vaA_l).warm hW⟩⟩ rfl rfl hl.1 rfl (lv_room (Nat.le_of_ble_eq_true rfl)) dL_suit_5 ⟨Nat.le_of_ble_eq_true rfl, Nat.le_of_ble_eq_true rfl⟩
  unfold suQ suX at R9
  -- the row of one long stays, where suit has thrown or returned
  have keepO : ∀ H1 : Heap, (∀ q : Nat, q < s.heap.size → ¬ va_A (ck_wd ad cA h ck_shX) s.heap.size q → H1[q]? = s.heap[q]?) → va_P D vwCl (wo cA qo o) H1 := by
    intro H1 hk
    refine (P_r hP).kept (fun k q hq => hk q.1 ((P_r hP) k q hq).lt (fun z => ?_))
    rcases z with ⟨k2, e9, z⟩ | z
    · exact D_x hD0 k2 k (q.1, e9) q z hq rfl
    · exact absurd ((P_r hP) k q hq).lt (by omega)
  refine vx_calli R9 hS0 (fun q _ z => vaA_l q z) (fun q z => vaA_l q z) (fun q _ z => vaA_l q z) (fun E ce q9 u t H1 locs1 ht hal hpx hBX hz hk hS1 hcell hvn hcl => ?_) (fun r u t H1 locs1 ht hal hpost hB hz hk hS1 => ?_)
  · have hP1 : va_P D vwCl (ck_wd ad cA h ck_shX ++ wo cA qo o) H1 := va_P.app (by rw [← ht]; exact hBX.2) (keepO H1 hk)
    have fin : ∀ (v : Int32), lsPost Q X1 X2 v o → ∀ (pc : Nat) (ls' : Array Slot), decode cL_suit pc = .ok (.ireturn, 1) → W p l e (ck_rm 10 1 6) s m ([Value.ref (ad 0), .int a, .int b, .ref qo] : List Value).toArray below meth c H1 locs1 (0 + 1) (0 + 6) (vx_MQ below (lsQ D cA ad h s.heap.size qo o Q X1 X2) (vx_X (fun _ : Unit => False) (fun _ _ _ => True) (va_A (ck_wd ad cA h ck_shX ++ wo cA qo o) s.heap.size)) ([Value.ref (ad 0), .int a, .int b, .ref qo] : List Value).toArray s 1 6 (va_A (ck_wd ad cA h ck_shX ++ wo cA qo o) s.heap.size)) (F0 m pc ls' [.int v]) := by
      intro v hv pc ls' d
      refine vx_ret (W.iret (v := v) hx hb hr (fun t ht9 hW => ⟨⟨v, o, rfl, hv, by rw [ht9]; exact hP1, hD⟩, hS1.F ht9⟩) hS1.2.2 d hlocks)
    rcases hpx with ⟨u1, x1⟩ | ⟨u2, x2⟩
    · have hE : E = xIO := by
        rcases hBX.1 with z | z
        · exact z.2
        · omega
      subst hE
      refine vx_catch (own := RL) (name := xIO) hown [] { startPc := 0, endPc := 10, handlerPc := 13, catchType := 13 } [{ startPc := 0, endPc := 10, handlerPc := 17, catchType := 15 }] (by rw [htab]; rfl) (fun z hz => nomatch hz) (by decide) (by decide) (hts _ xkl_L0) (ck_Buse hSX.2.2.2.2.1 _ xca_0) hcell hvn hcl ?_
      refine lv_astore (lv' := [(4, .ref q9), (0, .ref (ad 0)), (1, .int a), (2, .int b), (3, .ref qo)]) hx hb dL_suit_13 hl (by decide) rfl (fun ls' hl' => ?_)
      refine lv_iconst (v := 1) hx hb dL_suit_15 (by decide) ?_
      exact fin 1 (Or.inr (Or.inl ⟨rfl, x1⟩)) 16 ls' dL_suit_16
    · have hE : E = xNS := by
        rcases hBX.1 with z | z
        · omega
        · exact z.2
      subst hE
      refine vx_catch (own := RL) (name := xNS) hown [{ startPc := 0, endPc := 10, handlerPc := 13, catchType := 13 }] { startPc := 0, endPc := 10, handlerPc := 17, catchType := 15 } [] (by rw [htab]; rfl) (fun z hz => ?_) (by decide) (by decide) (hts _ xkl_L1) (ck_Buse hSX.2.2.2.2.1 _ xca_1) hcell hvn hcl ?_
      · rcases List.mem_singleton.mp hz with rfl
        exact Or.inr ⟨by decide, xIO, hts _ xkl_L0, hSX.2.2.2.2.2⟩
      refine lv_astore (lv' := [(4, .ref q9), (0, .ref (ad 0)), (1, .int a), (2, .int b), (3, .ref qo)]) hx hb dL_suit_17 hl (by decide) rfl (fun ls' hl' => ?_)
      refine lv_iconst (v := 2) hx hb dL_suit_19 (by decide) ?_
      exact fin 2 (Or.inr (Or.inr ⟨rfl, x2⟩)) 20 ls' dL_suit_20
  · have hP1 : va_P D vwCl (ck_wd ad cA h ck_shX ++ wo cA qo o) H1 := va_P.app (by rw [← ht]; exact hB) (keepO H1 hk)
    have len : (ck_wd ad cA h ck_shX).length = 81 := by rw [wd_len, shX_len]
    refine lv_i2l hx hb dL_suit_8 rfl ?_
    refine va_last (tys := ck_ty cA) hx hb hK hP1 hD hS1 81 3 (by rw [List.getElem?_append_right (by omega), len]; rfl) rfl (by rw [show (0 : Int32) = nI 0 from rfl]; exact pu_in (by decide) (by decide)) dL_suit_9 (fun H2 locs2 hP2 hD2 hS2 => ?_)
    have eqW : (ck_wd ad cA h ck_shX ++ wo cA qo o).set 81 (qo, .inl (cA 3, 1, .inr (.inl (vp_updL o (0 : Int32).toNatClampNeg r.toInt64)))) = ck_wd ad cA h ck_shX ++ wo cA qo (vp_updL o (0 : Int32).toNatClampNeg r.toInt64) := by
      rw [List.set_append_right _ _ (by omega), len]; rfl
    rw [eqW] at hP2 hD2
    refine lv_goto (tgt := 21) hx hb dL_suit_10 (by decide) ?_
    refine lv_iconst (v := 0) hx hb dL_suit_21 (by decide) ?_
    refine vx_ret (W.iret (v := 0) hx hb hr (fun t ht9 hW => ⟨⟨0, _, rfl, Or.inl ⟨rfl, r, hpost, ?_⟩, by rw [ht9]; exact hP2, hD2⟩, hS2.F ht9⟩) hS2.2.2 dL_suit_22 hlocks)
    rfl
end LSU
