/-! suit, which may throw -/
def ck_cd : Cond → Bool
  | .castable _ _ => true
  | .declares _ => true
  | _ => false
def ck_B : List Cond := lw_tbl.filter ck_cd
theorem ck_Bmoved {s U : State} (hW : s.WarmedH U.vm) (h : ∀ w ∈ ck_B, va_Nw w s) : ∀ w ∈ ck_B, va_Nw w U := by
  intro w hw
  have h1 := h w hw
  have h2 : ck_cd w = true := (List.mem_filter.mp hw).2
  cases w <;> first | exact va_Nw.warmC hW h1 | exact va_Nw.warmD hW h1 | (simp [ck_cd] at h2; done)
theorem ck_Bsame {s U : State} (hW : s.vm = U.vm) (h : ∀ w ∈ ck_B, va_Nw w s) : ∀ w ∈ ck_B, va_Nw w U := by
  intro w hw
  have h1 := h w hw
  have h2 : ck_cd w = true := (List.mem_filter.mp hw).2
  cases w <;> first | (exact va_Nw.same (by rfl) hW h1) | (simp [ck_cd] at h2; done)
theorem ck_Buse {s : State} {args : Array Value} (h : ∀ w ∈ ck_B, va_Nw w s) : ∀ w ∈ ck_B, w.before args s = true := by
  intro w hw
  have h1 := h w hw
  have h2 : ck_cd w = true := (List.mem_filter.mp hw).2
  cases w <;> first | (exact va_Nw.use (by rfl) h1) | (simp [ck_cd] at h2; done)
def xIO : String := "java/lang/IndexOutOfBoundsException"
def xNS : String := "java/util/NoSuchElementException"
def ck_SX (sa sb : Nat) (A : Nat → Prop) (U : State) (H : Heap) : Prop :=
  vx_Zq Bundle.tN "UNASSIGNED_STACK" Bundle.steD A U H ∧ vx_Zq Bundle.tN "SUPPRESSED_SENTINEL" Bundle.listD A U H ∧ vk_R RX11 138 "no such suit" sa U ∧ vk_R RX11 165 "no such what" sb U ∧ (∀ w ∈ ck_B, va_Nw w U) ∧ va_Nc xNS xIO U
theorem ck_SX.kept {sa sb : Nat} {A : Nat → Prop} {U : State} {H H1 : Heap} (h : ck_SX sa sb A U H) (hq : ∀ a : Nat, a < H.size → ¬ A a → H1[a]? = H[a]?) : ck_SX sa sb A U H1 := ⟨h.1.kept hq, h.2.1.kept hq, h.2.2⟩
theorem ck_SX.narrow {sa sb : Nat} {A B : Nat → Prop} {U : State} {H : Heap} (h : ck_SX sa sb A U H) (hq : ∀ q, B q → A q) : ck_SX sa sb B U H := ⟨h.1.narrow hq, h.2.1.narrow hq, h.2.2⟩
theorem ck_SX.warm {sa sb : Nat} {A : Nat → Prop} {s U : State} {H : Heap} (hW : s.WarmedH U.vm) (h : ck_SX sa sb A s H) : ck_SX sa sb A U H :=
  ⟨vx_Zq.moved hW.alike h.1, vx_Zq.moved hW.alike h.2.1, vk_R.warm hW h.2.2.1, vk_R.warm hW h.2.2.2.1, ck_Bmoved hW h.2.2.2.2.1, va_Nc.moved hW.alike h.2.2.2.2.2⟩
theorem ck_SX.same {sa sb : Nat} {A : Nat → Prop} {s U : State} {H : Heap} (hv : U.vm = s.vm) (h : ck_SX sa sb A s H) : ck_SX sa sb A U H := by
  have hW : s.vm.Alike U.vm := by rw [hv]; exact Vm.Alike.refl s.vm
  exact ⟨vx_Zq.moved hW h.1, vx_Zq.moved hW h.2.1, vk_R.same hv h.2.2.1, vk_R.same hv h.2.2.2.1, ck_Bsame hv.symm h.2.2.2.2.1, va_Nc.moved hW h.2.2.2.2.2⟩
/-- what suit does: answers, or throws the one or the other -/
def wpS (a b : Int32) (h : ck_H) (Q : Int32 → Prop) (X1 X2 : Prop) : Prop :=
  wp_X11_isSuit a h (fun r h1 => h1 = h ∧ (r = 0 → X1) ∧ (¬ r = 0 → ((b.toInt < 0 ∨ 5 < b.toInt) → X2) ∧ (b = 0 → vp_in a 10 ∧ Q (h.1 9 a.toNatClampNeg)) ∧ (b = 1 → vp_in a 10 ∧ Q (h.1 45 a.toNatClampNeg)) ∧ (b = 2 → vp_in a 10 ∧ Q (h.1 10 a.toNatClampNeg)) ∧
    (b = 3 → wp_X1_hasStone 7 a h (fun r h' => h' = h ∧ (r = 0 → Q 0) ∧ (¬ r = 0 → Q 1))) ∧ (b = 4 → vp_in a 10 ∧ Q (h.1 11 a.toNatClampNeg)) ∧ (b = 5 → wp_X10_gainOf 7 a h (fun r h' => h' = h ∧ Q r))))
theorem W_mono {p : Program} {l : Launch} {e : Env} {R : Room} {s : State} {m : MethodId} {args : Array Value} {below : List Frame} {meth : Method} {c : Code} {H : Heap} {locs : List Loc} {cells slots : Nat} {Q1 Q2 : State → Prop} {g : JFrame} (hq : ∀ t, Q1 t → Q2 t) (k : W p l e R s m args below meth c H locs cells slots Q1 g) : W p l e R s m args below meth c H locs cells slots Q2 g := by
  intro T hT X
  obtain ⟨t, a, b⟩ := k T hT X
  exact ⟨t, a, hq t b⟩
def x13 : ByteArray := ⟨#[0x2a, 0x2b, 0xb7, 0x00, 0x0d, 0xb1]⟩
theorem x13_0 : decode x13 0 = .ok (.aload_n 0, 1) := by decide +kernel
theorem x13_1 : decode x13 1 = .ok (.aload_n 1, 1) := by decide +kernel
theorem x13_2 : decode x13 2 = .ok (.invokespecial 13, 3) := by decide +kernel
theorem x13_5 : decode x13 5 = .ok (.return_, 1) := by decide +kernel
theorem xat_g0 : ∀ w ∈ (vx_atS RX11 140 xIO ["java/lang/RuntimeException", "java/lang/Exception"]).filter goodWord, w ∈ lw_tbl := by decide +kernel
theorem xat_g1 : ∀ w ∈ (xs_at RX11 167 xNS 13 x13 ["java/lang/RuntimeException", "java/lang/Exception"]).filter goodWord, w ∈ lw_tbl := by decide +kernel
theorem xat_b0 : ∀ w ∈ (vx_atS RX11 140 xIO ["java/lang/RuntimeException", "java/lang/Exception"]).filter (fun w => !goodWord w), w ∈ lw_tbl ∧ ck_cd w = true := by decide +kernel
theorem xat_b1 : ∀ w ∈ (xs_at RX11 167 xNS 13 x13 ["java/lang/RuntimeException", "java/lang/Exception"]).filter (fun w => !goodWord w), w ∈ lw_tbl ∧ ck_cd w = true := by decide +kernel
theorem xat_o0 : ∀ w ∈ Cond.classLink RX11 136 xIO :: Cond.initialized xIO :: vx_atS RX11 140 xIO ["java/lang/RuntimeException", "java/lang/Exception"], vx_ot w = true := by decide +kernel
theorem xat_o1 : ∀ w ∈ Cond.classLink RX11 163 xNS :: Cond.initialized xNS :: xs_at RX11 167 xNS 13 x13 ["java/lang/RuntimeException", "java/lang/Exception"], vx_ot w = true := by decide +kernel
theorem xkl_0 : Cond.classLink RX11 136 xIO ∈ ck_T := ck_in (i := 1123) (by decide +kernel) (by decide +kernel)
theorem xkl_1 : Cond.classLink RX11 163 xNS ∈ ck_T := ck_in (i := 1190) (by decide +kernel) (by decide +kernel)
theorem xin_0 : Cond.initialized xIO ∈ ck_T := ck_in (i := 22) (by decide +kernel) (by decide +kernel)
theorem xin_1 : Cond.initialized xNS ∈ ck_T := ck_in (i := 23) (by decide +kernel) (by decide +kernel)
theorem xfit0 : Bundle.fit xIO = true := by decide +kernel
theorem xfit1 : Bundle.fit xNS = true := by decide +kernel
theorem xfitn : ∀ n ∈ ["java/lang/RuntimeException", "java/lang/Exception"], Bundle.fit n = true := by decide +kernel
theorem xat {s : State} {args : Array Value} {L : List Cond} (hts : ∀ w ∈ ck_T, w.before args s = true) (hB : ∀ w ∈ ck_B, va_Nw w s) (g : ∀ w ∈ L.filter goodWord, w ∈ lw_tbl) (b : ∀ w ∈ L.filter (fun w => !goodWord w), w ∈ lw_tbl ∧ ck_cd w = true) : ∀ w ∈ L, w.before args s = true :=
  vx_hat (B := ck_B) (fun w hw => hts w (List.mem_filter.mpr ⟨g w hw, (List.mem_filter.mp hw).2⟩)) (fun w hw => List.mem_filter.mpr (b w hw)) (ck_Buse hB)
section CKSU
variable {l : Launch} {D : va_G} {cA : Nat → ClassId} {ad : Nat → Nat} {sz sa sb : Nat} {a b : Int32} {h : ck_H} {Q : Int32 → Prop} {X1 X2 : Prop}
def suPre (D : va_G) (cA : Nat → ClassId) (ad : Nat → Nat) (h : ck_H) (sz sa sb : Nat) (U : State) : Prop := ck_pre D cA ad ck_shX h false sz U ∧ ck_SX sa sb (va_A (ck_wd ad cA h ck_shX) sz) U U.heap
def suQ (D : va_G) (cA : Nat → ClassId) (ad : Nat → Nat) (h : ck_H) (sz : Nat) (Q : Int32 → Prop) : Array Value → State → Outcome → State → Prop :=
  va_Qi (fun r (_ : Unit) => Q r) (fun _ t => va_P D vwCl (ck_wd ad cA h ck_shX) t.heap) (va_A (ck_wd ad cA h ck_shX) sz)
def suX (D : va_G) (cA : Nat → ClassId) (ad : Nat → Nat) (h : ck_H) (sz : Nat) (X1 X2 : Prop) : String → State → State → Prop :=
  vx_X (fun u : Nat => (u = 1 ∧ X1) ∨ (u = 2 ∧ X2)) (fun E u t => ((u = 1 ∧ E = xIO) ∨ (u = 2 ∧ E = xNS)) ∧ va_P D vwCl (ck_wd ad cA h ck_shX) t.heap) (va_A (ck_wd ad cA h ck_shX) sz)
theorem suBlind {av : List Value} : FrameBlind (va_Pc av (suPre D cA ad h sz sa sb)) := by
  intro a U g mk q
  obtain ⟨q0, q1, q2⟩ := q
  exact ⟨q0, (ck_blind (av := av) a U g mk ⟨q0, q1⟩).2, ck_SX.same (s := U) (U := U.calling g mk a) rfl q2⟩
set_option maxHeartbeats 4000000 in
set_option maxRecDepth 100000 in
theorem c_suit (hlt : l.stackTraces = false) (hq : wpS a b h Q X1 X2) : vx_Met l yX11_suit (Cond.code yX11_suit cX11_suit 3 (some .int) :: ck_T) (ck_rm 8 1 6) (va_Pc [.ref (ad 0), .int a, .int b] (suPre D cA ad h sz sa sb)) (suQ D cA ad h sz Q) (suX D cA ad h sz X1 X2) 1 6 (va_A (ck_wd ad cA h ck_shX) sz) := by
  refine vx_ofW (cc := cX11_suit) (maxL := 3) (ret := some .int) (by decide) rfl ?_
  intro p e s m args below meth c s₁ B hml hnt hv
  obtain ⟨rfl, ⟨hsz, hP, hK, hN, hD0, hG, hSt⟩, hSX⟩ := hv
  have hx := B.exec
  have hb := B.bytes
  have hr := B.returns
  have hts0 := atoms_spec (ws := Cond.code yX11_suit cX11_suit 3 (some .int) :: ck_T) B.pre
  have hts : ∀ w ∈ ck_T, w.before ([Value.ref (ad 0), .int a, .int b] : List Value).toArray s = true := fun w hw => hts0 w (List.mem_cons_of_mem _ hw)
  have hown : s.vm.findClass RX11 = some m.cls := findClass_of_methodNamed B.named
  have hlocks := B.notSynchronized
  subst hsz
  have hD := hD0.self (sz := s.heap.size)
  have hl := lv_entry ([Value.ref (ad 0), .int a, .int b]) (n := 3) (Nat.le_of_ble_eq_true rfl)
  rw [lg_entry_eq]
  generalize (lg_sl ([Value.ref (ad 0), .int a, .int b]) ++ List.replicate (3 - (lg_sl ([Value.ref (ad 0), .int a, .int b])).length) Slot.unset).toArray = ls at hl ⊢
  have hl : lv_has ls 3 [(0, .ref (ad 0)), (1, .int a), (2, .int b)] := hl
  have X : ck_X cX11_suit 3 RX11 (some .int) 8 1 6 false D cA ad p (ck_rm 8 1 6) s m ([Value.ref (ad 0), .int a, .int b] : List Value).toArray meth c (va_A (ck_wd ad cA h ck_shX) s.heap.size) := ⟨hx, hb, hml, hown, hts, hr, hlocks, hK, hN, fun q h => Or.inr h, rfl, fun z => absurd z (by decide), hSt⟩
  have hS0 : va_S (va_A (ck_wd ad cA h ck_shX) s.heap.size) s.heap s.heap [] := va_S.rf
  have hF0 : ∀ q, va_A (ck_wd ad cA h ck_shX) s.heap.size q → va_A (ck_wd ad cA h ck_shX) s.heap.size q := fun q z => z
  have hT9 : GoodIn ck_T (wsV RX11 132 RX11 yX11_isSuit (Cond.code yX11_isSuit cX11_isSuit 2 (some .boolean) :: ck_T)) := ck_Gc ml_X11_132 (ck_Gc vir_X11_isSuit.1 (ck_Gc vir_X11_isSuit.2 (ck_Gc cal_X11_isSuit.2.1 (ck_Gc cal_X11_isSuit.1 ck_GT))))
  obtain ⟨fX, fX0⟩ := shX0
  show W p l e (ck_rm 8 1 6) s m _ below meth c s.heap [] 0 0 _ (F0 m 0 ls [])
  refine lv_aload_n hx hb dX11_suit_0 rfl (lv_at hl 0 rfl) ?_
  refine lv_iload_n hx hb dX11_suit_1 rfl (lv_at hl 1 rfl) ?_
  refine ck_go (va_runV (As := [.int a]) (rest := []) (n := 1) ⟨hx, hb, hml, hown, hts⟩ (c_X11_isSuit (gr := false) hq l D cA ad s.heap.size) (cwV 1 hts hT9 rfl rfl rfl ⟨rfl, cal_X11_isSuit.2.2.1, cal_X11_isSuit.2.2.2.1, cal_X11_isSuit.2.2.2.2⟩ ⟨Nat.le_of_ble_eq_true rfl, Nat.le_of_ble_eq_true rfl⟩) ⟨ck_blind, va_recv (q0 := 0) hK hP clX11.1 (ck_wd_at fX0), fun U hU hW => ⟨rfl, by rw [hU], by rw [hU]; exact hP, va_K.moved hW.alike hK, ck_Nmoved hW hN, hD0, hG, by rw [hU]; exact hSt.warm hW⟩⟩ rfl rfl hl.1 rfl (lv_room (by decide)) dX11_suit_2 ⟨Nat.le_of_ble_eq_true rfl, Nat.le_of_ble_eq_true rfl⟩) hS0 hF0 (fun v sh' h' H1 locs1 hq1 hP1 hD1 hS1 hG1 => ?_)
  obtain ⟨r, rfl, rfl, rfl, q1, q2⟩ := hq1
  show W p l e (ck_rm 8 1 6) s m _ below meth c H1 locs1 0 0 _ (F0 m 5 ls [.int r])
  have hSX1 : ck_SX sa sb (va_A (ck_wd ad cA h' ck_shX) s.heap.size) s H1 := hSX.kept hS1.2.1
  have thr : ∀ (u : Nat) (E : String), ((u = 1 ∧ X1) ∨ (u = 2 ∧ X2)) → ((u = 1 ∧ E = xIO) ∨ (u = 2 ∧ E = xNS)) → ∀ t : State, s.vm.Alike t.vm → H1.size ≤ t.heap.size → (∀ q : Nat, q < H1.size → t.heap[q]? = H1[q]?) → suX D cA ad h' s.heap.size X1 X2 E s t := by
    intro u E hu hE t _ hz hk
    refine ⟨u, hu, ⟨hE, hP1.kept (fun k q hq => hk q.1 (hP1 k q hq).lt)⟩, Nat.le_trans hS1.1 hz, fun q h1 h2 => ?_⟩
    rw [hk q (Nat.lt_of_lt_of_le h1 hS1.1)]
    exact hS1.2.1 q h1 h2
  refine lv_if_ne (tgt := 18) hx hb dX11_suit_5 (by decide) (fun c0 => ?_) (fun c0 => ?_)
  · obtain ⟨x2, b0, b1, b2, b3, b4, b5⟩ := q2 c0
    -- a branch that returns, by the rows of plain heaps
    have go : ∀ pc, ck_W cX11_suit 3 RX11 (some .int) 8 1 6 false false (ck_Qi ck_shX (fun r h9 => h9 = h' ∧ Q r)) ck_shX h' 1 6 pc [(0, .ref 0), (1, .int a), (2, .int b)] [] → W p l e (ck_rm 8 1 6) s m ([Value.ref (ad 0), .int a, .int b] : List Value).toArray below meth c H1 locs1 0 0 (vx_MQ below (suQ D cA ad h' s.heap.size Q) (suX D cA ad h' s.heap.size X1 X2) ([Value.ref (ad 0), .int a, .int b] : List Value).toArray s 1 6 (va_A (ck_wd ad cA h' ck_shX) s.heap.size)) (F0 m pc ls []) := by
      intro pc k
      refine W.widen (k := 1) (n := 6) (by omega) (by omega) (vx_ret (W_mono ?_ (k l D cA ad p e _ s m _ below meth c _ H1 locs1 ls X hP1 hD1 hS1 (fun z => absurd z (by decide)) hl)))
      rintro t ⟨o, t1, t2, ⟨⟨v, sh9, h9, rfl, ⟨r9, rfl, rfl, rfl, hr9⟩, p1, p2, p3, p4⟩, p5⟩, t4⟩
      exact ⟨_, t1, t2, ⟨⟨r9, (), rfl, hr9, p1⟩, p5⟩, t4⟩
    refine lv_iload_n hx hb dX11_suit_18 rfl (lv_at hl 2 rfl) ?_
    by_cases c5 : b.toInt < 0 ∨ 5 < b.toInt
    · refine lv_tableOut (tgt := 126) hx hb dX11_suit_19 c5 (by decide) ?_
      exact xs_row (own := RX11) (cls := xNS) (ix := 13) (rx := x13) (text := "no such what") (names := ["java/lang/RuntimeException", "java/lang/Exception"]) (sa := sb) (A := va_A (ck_wd ad cA h' ck_shX) s.heap.size) hx hb hlt x13_0 x13_1 x13_2 x13_5 hown xfit1 xfitn (hts _ xkl_1) (hts _ xin_1) hSX.2.2.2.1 (xat hts hSX.2.2.2.2.1 xat_g1 xat_b1) xat_o1 hSX.1 hSX.2.1 hS1 (by rw [hml]; exact hl.1) dX11_suit_126 dX11_suit_129 dX11_suit_130 dX11_suit_132 dX11_suit_135 (fun x hx => (hnt x hx).elim) (Nat.le_of_ble_eq_true rfl) (Nat.le_of_ble_eq_true rfl) (Nat.le_of_ble_eq_true rfl) (Nat.le_of_ble_eq_true rfl) hlocks (thr 2 xNS (Or.inr ⟨rfl, x2 c5⟩) (Or.inr ⟨rfl, rfl⟩)) hS1.2.2 (Nat.le_of_ble_eq_true rfl) (Nat.le_of_ble_eq_true rfl)
    · have eb : ∀ k : Nat, k < 2 ^ 31 → b.toInt = (k : Int) → b = nI k := fun k hk hb9 => Int32.toInt_inj.mp (by rw [nI_toInt hk]; exact hb9)
      rcases (show b.toInt = 0 ∨ b.toInt = 1 ∨ b.toInt = 2 ∨ b.toInt = 3 ∨ b.toInt = 4 ∨ b.toInt = 5 by omega) with z | z | z | z | z | z
      · have b9 : b = 0 := eb 0 (by omega) z
        obtain ⟨i1, i2⟩ := b0 b9
        refine lv_tableIn (off := 37) (tgt := 56) hx hb dX11_suit_19 (by omega) (by omega) (by rw [z]; rfl) (by decide) (go 56 ?_)
        refine ck_aload_n 0 dX11_suit_56 rfl rfl ?_
        refine ck_getR clX11 2 rfl rfl (by decide) fl_X11_27 dX11_suit_57 ?_
        refine ck_getRN clX1 1 rfl rfl (by decide) fl_X11_143 dX11_suit_60 ?_
        refine ck_iload_n 1 dX11_suit_63 rfl rfl ?_
        refine ck_iald rfl rfl i1 dX11_suit_64 ?_
        exact ck_iret rfl rfl rfl rfl dX11_suit_65 ⟨_, rfl, rfl, rfl, i2⟩
      · have b9 : b = 1 := eb 1 (by omega) z
        obtain ⟨i1, i2⟩ := b1 b9
        refine lv_tableIn (off := 47) (tgt := 66) hx hb dX11_suit_19 (by omega) (by omega) (by rw [z]; rfl) (by decide) (go 66 ?_)
        refine ck_aload_n 0 dX11_suit_66 rfl rfl ?_
        refine ck_getR clX11 9 rfl rfl (by decide) fl_X11_54 dX11_suit_67 ?_
        refine ck_getRN clX7 9 rfl rfl (by decide) fl_X11_147 dX11_suit_70 ?_
        refine ck_iload_n 1 dX11_suit_73 rfl rfl ?_
        refine ck_iald rfl rfl i1 dX11_suit_74 ?_
        exact ck_iret rfl rfl rfl rfl dX11_suit_75 ⟨_, rfl, rfl, rfl, i2⟩
      · have b9 : b = 2 := eb 2 (by omega) z
        obtain ⟨i1, i2⟩ := b2 b9
        refine lv_tableIn (off := 57) (tgt := 76) hx hb dX11_suit_19 (by omega) (by omega) (by rw [z]; rfl) (by decide) (go 76 ?_)
        refine ck_aload_n 0 dX11_suit_76 rfl rfl ?_
        refine ck_getR clX11 2 rfl rfl (by decide) fl_X11_27 dX11_suit_77 ?_
        refine ck_getRN clX1 2 rfl rfl (by decide) fl_X11_150 dX11_suit_80 ?_
        refine ck_iload_n 1 dX11_suit_83 rfl rfl ?_
        refine ck_iald rfl rfl i1 dX11_suit_84 ?_
        exact ck_iret rfl rfl rfl rfl dX11_suit_85 ⟨_, rfl, rfl, rfl, i2⟩
      · have b9 : b = 3 := eb 3 (by omega) z
        have i1 := b3 b9
        refine lv_tableIn (off := 67) (tgt := 86) hx hb dX11_suit_19 (by omega) (by omega) (by rw [z]; rfl) (by decide) (go 86 ?_)
        refine ck_aload_n 0 dX11_suit_86 rfl rfl ?_
        refine ck_getR clX11 2 rfl rfl (by decide) fl_X11_27 dX11_suit_87 ?_
        refine ck_iload_n 1 dX11_suit_90 rfl rfl ?_
        refine ck_callV (c_X1_hasStone (Or.inl rfl) i1) rfl cal_X1_hasStone rfl ml_X11_153 vir_X1_hasStone rfl rfl (by decide) (Nat.le_of_ble_eq_true rfl) (Nat.le_of_ble_eq_true rfl) (by decide) (by decide) dX11_suit_91 ?_
        rintro _ _ h9 ⟨r9, rfl, rfl, rfl, y0, y1⟩
        refine ck_if_eq (tgt := 101) dX11_suit_94 (by decide) (fun c9 => ?_) (fun c9 => ?_)
        · refine ck_iconst (v := 0) dX11_suit_101 (by decide) ?_
          exact ck_iret rfl rfl rfl rfl dX11_suit_102 ⟨_, rfl, rfl, rfl, y0 c9⟩
        · refine ck_iconst (v := 1) dX11_suit_97 (by decide) ?_
          refine ck_goto (tgt := 102) dX11_suit_98 (by decide) ?_
          exact ck_iret rfl rfl rfl rfl dX11_suit_102 ⟨_, rfl, rfl, rfl, y1 c9⟩
      · have b9 : b = 4 := eb 4 (by omega) z
        obtain ⟨i1, i2⟩ := b4 b9
        refine lv_tableIn (off := 84) (tgt := 103) hx hb dX11_suit_19 (by omega) (by omega) (by rw [z]; rfl) (by decide) (go 103 ?_)
        refine ck_aload_n 0 dX11_suit_103 rfl rfl ?_
        refine ck_getR clX11 2 rfl rfl (by decide) fl_X11_27 dX11_suit_104 ?_
        refine ck_getRN clX1 3 rfl rfl (by decide) fl_X11_156 dX11_suit_107 ?_
        refine ck_iload_n 1 dX11_suit_110 rfl rfl ?_
        refine ck_iald rfl rfl i1 dX11_suit_111 ?_
        exact ck_iret rfl rfl rfl rfl dX11_suit_112 ⟨_, rfl, rfl, rfl, i2⟩
      · have b9 : b = 5 := eb 5 (by omega) z
        have i1 := b5 b9
        refine lv_tableIn (off := 94) (tgt := 113) hx hb dX11_suit_19 (by omega) (by omega) (by rw [z]; rfl) (by decide) (go 113 ?_)
        refine ck_aload_n 0 dX11_suit_113 rfl rfl ?_
        refine ck_getR clX11 5 rfl rfl (by decide) fl_X11_70 dX11_suit_114 ?_
        refine ck_aload_n 0 dX11_suit_117 rfl rfl ?_
        refine ck_getR clX11 2 rfl rfl (by decide) fl_X11_27 dX11_suit_118 ?_
        refine ck_iload_n 1 dX11_suit_121 rfl rfl ?_
        refine ck_callV (c_X10_gainOf (Or.inl rfl) i1) rfl cal_X10_gainOf rfl ml_X11_159 vir_X10_gainOf rfl rfl (by decide) (Nat.le_of_ble_eq_true rfl) (Nat.le_of_ble_eq_true rfl) (by decide) (by decide) dX11_suit_122 ?_
        rintro _ _ h9 ⟨r9, rfl, rfl, rfl, y0⟩
        exact ck_iret rfl rfl rfl rfl dX11_suit_125 ⟨_, rfl, rfl, rfl, y0⟩
  · exact vx_throwS (own := RX11) (cls := xIO) (text := "no such suit") (names := ["java/lang/RuntimeException", "java/lang/Exception"]) (sa := sa) (A := va_A (ck_wd ad cA h' ck_shX) s.heap.size) hx hb hlt hown xfit0 xfitn (hts _ xkl_0) (hts _ xin_0) hSX.2.2.1 (xat hts hSX.2.2.2.2.1 xat_g0 xat_b0) xat_o0 hSX.1 hSX.2.1 hS1 (by rw [hml]; exact hl.1) dX11_suit_8 dX11_suit_11 dX11_suit_12 dX11_suit_14 dX11_suit_17 (fun x hx => (hnt x hx).elim) (Nat.le_of_ble_eq_true rfl) (Nat.le_of_ble_eq_true rfl) (Nat.le_of_ble_eq_true rfl) (Nat.le_of_ble_eq_true rfl) hlocks (thr 1 xIO (Or.inl ⟨rfl, q1 c0⟩) (Or.inl ⟨rfl, rfl⟩)) hS1.2.2 (Nat.le_of_ble_eq_true rfl) (Nat.le_of_ble_eq_true rfl)
end CKSU
