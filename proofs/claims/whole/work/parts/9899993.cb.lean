/-! the cases that go another way -/
section LWB
variable {p : Program} {l : Launch} {e : Env} {s : State} {m : MethodId} {below : List Frame} {meth : Method} {c : Code} {b L : Nat} {xs : Nat → Int32} {D : va_G} {cA : Nat → ClassId} {Qs : State → Prop}
def bz (v : Int32) : Int32 := if v = 0 then 0 else 1
abbrev dB (pc : Nat) : Prop := decode code pc = .ok (.ifCond .eq 7, 3) ∧ decode code (pc + 3) = .ok (.iconst 1, 1) ∧ decode code (pc + 4) = .ok (.goto 4, 3) ∧ decode code (pc + 7) = .ok (.iconst 0, 1)
theorem lw_bool {pc : Nat} {v : Int32} {H : Heap} {locs : List Loc} {cells slots : Nat} {ls : Array Slot} {rest : List Value} (C : lwK p s m meth c b L xs D cA) (d : dB pc) (kk : W p l e room_1 s m #[Value.ref b] below meth c H locs cells slots Qs (F0 m (pc + 8) ls (.int (bz v) :: rest))) : W p l e room_1 s m #[Value.ref b] below meth c H locs cells slots Qs (F0 m pc ls (.int v :: rest)) := by
  obtain ⟨C0, hK, hN⟩ := C
  obtain ⟨hx, hb, hr, hml, hown, _, hX, hbl, hlk, _⟩ := id C0
  obtain ⟨d0, d1, d2, d3⟩ := d
  unfold bz at kk
  refine lv_if_eq (tgt := pc + 7) hx hb d0 (by omega) (fun z => ?_) (fun z => ?_)
  · rw [if_pos z] at kk
    exact lv_iconst (v := 0) hx hb d3 (by decide) kk
  · rw [if_neg z] at kk
    refine lv_iconst (v := 1) hx hb d1 (by decide) ?_
    exact lv_goto (tgt := pc + 8) hx hb d2 (by omega) kk
def asB (xs : Nat → Int32) (x4 : Int32) (n : Nat) : List Value := asL xs x4 n ++ [.int (bz (av xs x4 (n + 1)))]
theorem asB_len {x4 : Int32} (n : Nat) : (asB xs x4 n).length = n + 1 := by rw [asB, List.length_append, asL_len]; rfl
theorem asB_tr {ad : Nat → Nat} {x4 : Int32} (n : Nat) : (asB xs x4 n).map (ck_tr ad) = asB xs x4 n := by rw [asB, List.map_append, asL_tr]; rfl
theorem lw_argsB {x4 : Int32} {qx qm qo : Nat} {H : Heap} {locs : List Loc} {cells slots : Nat} {ls : Array Slot} {rest : List Value} (C : lwK p s m meth c b L xs D cA) (hin : ∀ k, k < 6 → vp_in (x4 + nI k) L) (hS : va_S (fun q : Nat => s.heap.size ≤ q) s.heap H locs)
    (hl : lv_has ls 7 [(0, .ref b), (1, .ref qx), (2, .ref qm), (3, .ref qo), (4, .int x4)]) (n pc : Nat) (hn : n + 1 < 6) (d : ∀ j, j < n + 1 → dA (pc + 6 * j) ((j + 1 : Nat) : Int)) (dB9 : dB (pc + 6 * (n + 1)))
    (kk : W p l e room_1 s m #[Value.ref b] below meth c H locs cells slots Qs (F0 m (pc + 6 * (n + 1) + 8) ls ((asB xs x4 n).reverse ++ rest))) : W p l e room_1 s m #[Value.ref b] below meth c H locs cells slots Qs (F0 m pc ls rest) := by
  refine lw_args C hin hS hl (n + 1) pc hn d ?_
  have e9 : (asL xs x4 (n + 1)).reverse ++ rest = .int (av xs x4 (n + 1)) :: ((asL xs x4 n).reverse ++ rest) := by rw [asL, List.reverse_append]; rfl
  have e8 : (asB xs x4 n).reverse ++ rest = .int (bz (av xs x4 (n + 1))) :: ((asL xs x4 n).reverse ++ rest) := by rw [asB, List.reverse_append]; rfl
  rw [e9]
  rw [e8] at kk
  exact lw_bool C dB9 kk
abbrev dTB (pc n ix im : Nat) : Prop := decode code pc = .ok (.aload_n 1, 1) ∧ ((∀ j, j < n + 1 → dA (pc + 1 + 6 * j) ((j + 1 : Nat) : Int)) ∧ dB (pc + 1 + 6 * (n + 1))) ∧ decode code (pc + 1 + 6 * (n + 1) + 8) = .ok (.invokevirtual ix, 3) ∧ decode code (pc + 1 + 6 * (n + 1) + 8 + 3) = .ok (.aload_n 2, 1) ∧ ((∀ j, j < n + 1 → dA (pc + 1 + 6 * (n + 1) + 8 + 3 + 1 + 6 * j) ((j + 1 : Nat) : Int)) ∧ dB (pc + 1 + 6 * (n + 1) + 8 + 3 + 1 + 6 * (n + 1))) ∧ decode code (pc + 1 + 6 * (n + 1) + 8 + 3 + 1 + 6 * (n + 1) + 8) = .ok (.invokevirtual im, 3) ∧ decode code (pc + 1 + 6 * (n + 1) + 8 + 3 + 1 + 6 * (n + 1) + 8 + 3) = .ok (.if_icmp .eq ((1503 : Int) - ((pc + 1 + 6 * (n + 1) + 8 + 3 + 1 + 6 * (n + 1) + 8 + 3 : Nat) : Int)), 3)
/-- two calls with the same arguments, and their answers beside each other -/
theorem lw_twoB {pc n ix im : Nat} {x4 : Int32} {qx qm qo cells slots : Nat} {yX yM : MethodName} {cX cM : ByteArray} {nX nM dX dM : Nat} {rX rM : Option FieldType} {wM : ck_H → (Int32 → ck_H → Prop) → Prop}
    (C : lwK p s m meth c b L xs D cA) (hn : n + 1 < 6) (d : dTB pc n ix im) (hin : ∀ k, k < 6 → vp_in (x4 + nI k) L) (hcs : cells ≤ 601024 ∧ slots ≤ 7293033)
    (hX : ∀ h mm, Sim h mm → ck_M yX cX nX rX dX 0 0 false ck_shX h (.ref 0 :: asB xs x4 n) (ck_Qi ck_shX (fun r h' => wM mm (fun r' m' => r = r' ∧ Sim h' m')))) (hM : ∀ mm Q, wM mm Q → ck_M yM cM nM rM dM 0 0 false ck_shM mm (.ref 0 :: asB xs x4 n) (ck_Qi ck_shM Q))
    (kX : ck_cal yX cX nX rX (n + 1)) (lX : Cond.methodLink RL ix yX ∈ ck_T) (vX : Cond.instanceMethod yX ∈ ck_T ∧ Cond.selects yX.cls yX yX ∈ ck_T) (yX' : yX.cls = RX11) (pX : dX + 1 ≤ 2048) (oX : 8 + (nX + 11) + 64 * dX ≤ 84000)
    (kM : ck_cal yM cM nM rM (n + 1)) (lM : Cond.methodLink RL im yM ∈ ck_T) (vM : Cond.instanceMethod yM ∈ ck_T ∧ Cond.selects yM.cls yM yM ∈ ck_T) (yM' : yM.cls = RX12) (pM : dM + 1 ≤ 2048) (oM : 8 + (nM + 11) + 64 * dM ≤ 84000)
    (K : lwI p l e s m below meth c b D cA Qs qx qm qo x4 cells slots 1503) : lwI p l e s m below meth c b D cA Qs qx qm qo x4 cells slots pc := by
  intro ad adM h mm o H locs ls S0 ea em sX sM hL hS hl
  obtain ⟨C0, hK, hN⟩ := id C
  obtain ⟨hx, hb, hr, hml, hown, _, hX9, hbl, hlk, _⟩ := id C0
  obtain ⟨d0, d1, d2, d3, d4, d5, d6⟩ := d
  obtain ⟨fX, fX0⟩ := shX0
  obtain ⟨fM, fM0⟩ := shM0
  refine lv_aload_n hx hb d0 rfl (lv_at hl 1 rfl) ?_
  refine lw_argsB C hin hS hl n (pc + 1) hn d1.1 d1.2 ?_
  have e1 : (asB xs x4 n).reverse ++ [Value.ref qx] = ((asB xs x4 n).map (ck_tr ad)).reverse ++ .ref (ad 0) :: [] := by rw [asB_tr, ea]
  rw [e1]
  refine lw_callV C (hX h mm S0) kX (asB_len n) lX vX fX0 (by rw [yX']; exact clX11.1) pX oX (by decide) hcs d2 hL hS sX hl.1 (fun v sh' h' H1 locs1 hq hL1 hS1 => ?_)
  obtain ⟨r, rfl, rfl, hq⟩ := hq
  show W p l e room_1 s m #[Value.ref b] below meth c H1 locs1 cells slots Qs (F0 m (pc + 1 + 6 * (n + 1) + 8 + 3) ls [.int r])
  refine lv_aload_n hx hb d3 rfl (lv_at hl 2 rfl) ?_
  refine lw_argsB C hin hS1 hl n (pc + 1 + 6 * (n + 1) + 8 + 3 + 1) hn d4.1 d4.2 ?_
  have e2 : (asB xs x4 n).reverse ++ [Value.ref qm, .int r] = ((asB xs x4 n).map (ck_tr adM)).reverse ++ .ref (adM 0) :: [.int r] := by rw [asB_tr, em]
  rw [e2]
  refine lw_callV C (hM mm _ hq) kM (asB_len n) lM vM fM0 (by rw [yM']; exact clX12.1) pM oM (Nat.le_of_ble_eq_true rfl) hcs d5 hL1.foc hS1 sM hl.1 (fun v sh' m' H2 locs2 hq2 hL2 hS2 => ?_)
  obtain ⟨r', rfl, rfl, rfl, S1⟩ := hq2
  show W p l e room_1 s m #[Value.ref b] below meth c H2 locs2 cells slots Qs (F0 m (pc + 1 + 6 * (n + 1) + 8 + 3 + 1 + 6 * (n + 1) + 8 + 3) ls [.int r, .int r])
  refine lv_icmp_eq (tgt := 1503) hx hb d6 (by omega) (fun _ => ?_) (fun z => absurd rfl z)
  exact K ad adM h' m' o H2 locs2 ls S1 ea em sX sM hL2.foc hS2 hl
abbrev dTL (pc n ix im : Nat) : Prop := decode code pc = .ok (.aload_n 1, 1) ∧ (∀ j, j < n → dA (pc + 1 + 6 * j) ((j + 1 : Nat) : Int)) ∧ decode code (pc + 1 + 6 * n) = .ok (.invokevirtual ix, 3) ∧ decode code (pc + 1 + 6 * n + 3) = .ok (.aload_n 2, 1) ∧ (∀ j, j < n → dA (pc + 1 + 6 * n + 3 + 1 + 6 * j) ((j + 1 : Nat) : Int)) ∧ decode code (pc + 1 + 6 * n + 3 + 1 + 6 * n) = .ok (.invokevirtual im, 3) ∧ decode code (pc + 1 + 6 * n + 3 + 1 + 6 * n + 3) = .ok (.lcmp, 1) ∧ decode code (pc + 1 + 6 * n + 3 + 1 + 6 * n + 3 + 1) = .ok (.ifCond .eq ((1503 : Int) - ((pc + 1 + 6 * n + 3 + 1 + 6 * n + 3 + 1 : Nat) : Int)), 3)
/-- two calls with the same arguments, and their answers beside each other -/
theorem lw_twoL {pc n ix im : Nat} {x4 : Int32} {qx qm qo cells slots : Nat} {yX yM : MethodName} {cX cM : ByteArray} {nX nM dX dM : Nat} {rX rM : Option FieldType} {wM : ck_H → (Int64 → ck_H → Prop) → Prop}
    (C : lwK p s m meth c b L xs D cA) (hn : n < 6) (d : dTL pc n ix im) (hin : ∀ k, k < 6 → vp_in (x4 + nI k) L) (hcs : cells ≤ 601024 ∧ slots ≤ 7293033)
    (hX : ∀ h mm, Sim h mm → ck_M yX cX nX rX dX 0 0 false ck_shX h (.ref 0 :: asL xs x4 n) (ck_Ql ck_shX (fun r h' => wM mm (fun r' m' => r = r' ∧ Sim h' m')))) (hM : ∀ mm Q, wM mm Q → ck_M yM cM nM rM dM 0 0 false ck_shM mm (.ref 0 :: asL xs x4 n) (ck_Ql ck_shM Q))
    (kX : ck_cal yX cX nX rX n) (lX : Cond.methodLink RL ix yX ∈ ck_T) (vX : Cond.instanceMethod yX ∈ ck_T ∧ Cond.selects yX.cls yX yX ∈ ck_T) (yX' : yX.cls = RX11) (pX : dX + 1 ≤ 2048) (oX : 8 + (nX + 11) + 64 * dX ≤ 84000)
    (kM : ck_cal yM cM nM rM n) (lM : Cond.methodLink RL im yM ∈ ck_T) (vM : Cond.instanceMethod yM ∈ ck_T ∧ Cond.selects yM.cls yM yM ∈ ck_T) (yM' : yM.cls = RX12) (pM : dM + 1 ≤ 2048) (oM : 8 + (nM + 11) + 64 * dM ≤ 84000)
    (K : lwI p l e s m below meth c b D cA Qs qx qm qo x4 cells slots 1503) : lwI p l e s m below meth c b D cA Qs qx qm qo x4 cells slots pc := by
  intro ad adM h mm o H locs ls S0 ea em sX sM hL hS hl
  obtain ⟨C0, hK, hN⟩ := id C
  obtain ⟨hx, hb, hr, hml, hown, _, hX9, hbl, hlk, _⟩ := id C0
  obtain ⟨d0, d1, d2, d3, d4, d5, d6, d7⟩ := d
  obtain ⟨fX, fX0⟩ := shX0
  obtain ⟨fM, fM0⟩ := shM0
  refine lv_aload_n hx hb d0 rfl (lv_at hl 1 rfl) ?_
  refine lw_args C hin hS hl n (pc + 1) hn d1 ?_
  have e1 : (asL xs x4 n).reverse ++ [Value.ref qx] = ((asL xs x4 n).map (ck_tr ad)).reverse ++ .ref (ad 0) :: [] := by rw [asL_tr, ea]
  rw [e1]
  refine lw_callV C (hX h mm S0) kX (asL_len n) lX vX fX0 (by rw [yX']; exact clX11.1) pX oX (by decide) hcs d2 hL hS sX hl.1 (fun v sh' h' H1 locs1 hq hL1 hS1 => ?_)
  obtain ⟨r, rfl, rfl, hq⟩ := hq
  show W p l e room_1 s m #[Value.ref b] below meth c H1 locs1 cells slots Qs (F0 m (pc + 1 + 6 * n + 3) ls [.long r])
  refine lv_aload_n hx hb d3 rfl (lv_at hl 2 rfl) ?_
  refine lw_args C hin hS1 hl n (pc + 1 + 6 * n + 3 + 1) hn d4 ?_
  have e2 : (asL xs x4 n).reverse ++ [Value.ref qm, .long r] = ((asL xs x4 n).map (ck_tr adM)).reverse ++ .ref (adM 0) :: [.long r] := by rw [asL_tr, em]
  rw [e2]
  refine lw_callV C (hM mm _ hq) kM (asL_len n) lM vM fM0 (by rw [yM']; exact clX12.1) pM oM (Nat.le_of_ble_eq_true rfl) hcs d5 hL1.foc hS1 sM hl.1 (fun v sh' m' H2 locs2 hq2 hL2 hS2 => ?_)
  obtain ⟨r', rfl, rfl, rfl, S1⟩ := hq2
  show W p l e room_1 s m #[Value.ref b] below meth c H2 locs2 cells slots Qs (F0 m (pc + 1 + 6 * n + 3 + 1 + 6 * n + 3) ls [.long r, .long r])
  refine W.lcmp hx hb d6 ?_
  refine lv_if_eq (tgt := 1503) hx hb d7 (by omega) (fun _ => ?_) (fun z => absurd (by simp [lg_cmp]) z)
  exact K ad adM h' m' o H2 locs2 ls S1 ea em sX sM hL2.foc hS2 hl
/-- two calls with the same arguments, and their answers beside each other -/
theorem lw_twoT {pc n ix im : Nat} {x4 : Int32} {qx qm qo cells slots : Nat} {yX yM : MethodName} {cX cM : ByteArray} {nX nM dX dM : Nat} {rX rM : Option FieldType} {wM : ck_H → (Int32 → ck_H → Prop) → Prop}
    (C : lwK p s m meth c b L xs D cA) (hn : n < 6) (d : dT pc n ix im) (hin : ∀ k, k < 6 → vp_in (x4 + nI k) L) (hcs : cells ≤ 601024 ∧ slots ≤ 7293033)
    (hX : ∀ h mm, Sim h mm → ck_M yX cX nX rX dX 0 0 false ck_shX h (.ref 0 :: asL xs x4 n) (ck_Qt (fun sw r h' => wM mm (fun r' m' => r = r' ∧ Sim (cond sw (swH h') h') m')))) (hM : ∀ mm Q, wM mm Q → ck_M yM cM nM rM dM 0 0 false ck_shM mm (.ref 0 :: asL xs x4 n) (ck_Qi ck_shM Q))
    (kX : ck_cal yX cX nX rX n) (lX : Cond.methodLink RL ix yX ∈ ck_T) (vX : Cond.instanceMethod yX ∈ ck_T ∧ Cond.selects yX.cls yX yX ∈ ck_T) (yX' : yX.cls = RX11) (pX : dX + 1 ≤ 2048) (oX : 8 + (nX + 11) + 64 * dX ≤ 84000)
    (kM : ck_cal yM cM nM rM n) (lM : Cond.methodLink RL im yM ∈ ck_T) (vM : Cond.instanceMethod yM ∈ ck_T ∧ Cond.selects yM.cls yM yM ∈ ck_T) (yM' : yM.cls = RX12) (pM : dM + 1 ≤ 2048) (oM : 8 + (nM + 11) + 64 * dM ≤ 84000)
    (K : lwI p l e s m below meth c b D cA Qs qx qm qo x4 cells slots 1503) : lwI p l e s m below meth c b D cA Qs qx qm qo x4 cells slots pc := by
  intro ad adM h mm o H locs ls S0 ea em sX sM hL hS hl
  obtain ⟨C0, hK, hN⟩ := id C
  obtain ⟨hx, hb, hr, hml, hown, _, hX9, hbl, hlk, _⟩ := id C0
  obtain ⟨d0, d1, d2, d3, d4, d5, d6⟩ := d
  obtain ⟨fX, fX0⟩ := shX0
  obtain ⟨fM, fM0⟩ := shM0
  refine lv_aload_n hx hb d0 rfl (lv_at hl 1 rfl) ?_
  refine lw_args C hin hS hl n (pc + 1) hn d1 ?_
  have e1 : (asL xs x4 n).reverse ++ [Value.ref qx] = ((asL xs x4 n).map (ck_tr ad)).reverse ++ .ref (ad 0) :: [] := by rw [asL_tr, ea]
  rw [e1]
  have go : ∀ (ad' : Nat → Nat) (h9 : ck_H) (r : Int32) (H1 : Heap) (locs1 : List Loc), ad' 0 = qx → ck_S ad' (fun q : Nat => s.heap.size ≤ q) s s.heap → wM mm (fun r' m' => r = r' ∧ Sim h9 m') → nLS (fun q : Nat => s.heap.size ≤ q) D (ck_wd ad' cA h9 ck_shX) (ck_wd adM cA mm ck_shM ++ [(qo, .inl (cA 3, 1, .inr (.inl o)))]) H1 → va_S (fun q : Nat => s.heap.size ≤ q) s.heap H1 locs1 → W p l e room_1 s m #[Value.ref b] below meth c H1 locs1 cells slots Qs (F0 m (pc + 1 + 6 * n + 3) ls [.int r]) := by
    intro ad' h9 r H1 locs1 ea9 sX9 hq hL1 hS1
    refine lv_aload_n hx hb d3 rfl (lv_at hl 2 rfl) ?_
    refine lw_args C hin hS1 hl n (pc + 1 + 6 * n + 3 + 1) hn d4 ?_
    have e2 : (asL xs x4 n).reverse ++ [Value.ref qm, .int r] = ((asL xs x4 n).map (ck_tr adM)).reverse ++ .ref (adM 0) :: [.int r] := by rw [asL_tr, em]
    rw [e2]
    refine lw_callV C (hM mm _ hq) kM (asL_len n) lM vM fM0 (by rw [yM']; exact clX12.1) pM oM (Nat.le_of_ble_eq_true rfl) hcs d5 hL1.foc hS1 sM hl.1 (fun v sh' m' H2 locs2 hq2 hL2 hS2 => ?_)
    obtain ⟨r', rfl, rfl, rfl, S1⟩ := hq2
    show W p l e room_1 s m #[Value.ref b] below meth c H2 locs2 cells slots Qs (F0 m (pc + 1 + 6 * n + 3 + 1 + 6 * n + 3) ls [.int r, .int r])
    refine lv_icmp_eq (tgt := 1503) hx hb d6 (by omega) (fun _ => ?_) (fun z => absurd rfl z)
    exact K ad' adM h9 m' o H2 locs2 ls S1 ea9 em sX9 sM hL2.foc hS2 hl
  refine lw_callV C (hX h mm S0) kX (asL_len n) lX vX fX0 (by rw [yX']; exact clX11.1) pX oX (by decide) hcs d2 hL hS sX hl.1 (fun v sh' h' H1 locs1 hq hL1 hS1 => ?_)
  obtain ⟨r, rfl, hq⟩ := hq
  rcases hq with ⟨rfl, hq⟩ | ⟨rfl, hq⟩
  · exact go ad h' r H1 locs1 ea sX hq hL1 hS1
  · refine go (fun k => ad (swI k)) (swH h') r H1 locs1 ?_ (sX.ads (fun k hk => ?_)) hq hL1.sw hS1
    · show ad (swI 0) = qx
      rw [swI_o (by omega)]; exact ea
    · show ad (swI k) = ad k
      rw [swI_o (by omega)]
end LWB
