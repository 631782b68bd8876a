/-! the law's cases -/
section LWT
variable {p : Program} {l : Launch} {e : Env} {s : State} {m : MethodId} {below : List Frame} {meth : Method} {c : Code} {b L : Nat} {xs : Nat → Int32} {D : va_G} {cA : Nat → ClassId} {Qs : State → Prop}
/-- 'script[i + k]' -/
abbrev dA (pc : Nat) (k : Int) : Prop := decode code pc = .ok (.aload_n 0, 1) ∧ decode code (pc + 1) = .ok (.iload 4, 2) ∧ decode code (pc + 3) = .ok (.iconst k, 1) ∧ decode code (pc + 4) = .ok (.iadd, 1) ∧ decode code (pc + 5) = .ok (.iaload, 1)
def av (xs : Nat → Int32) (x4 : Int32) (k : Nat) : Int32 := xs (x4 + nI k).toNatClampNeg
theorem lw_arg {pc k : Nat} {x4 : Int32} {qx qm qo : Nat} {H : Heap} {locs : List Loc} {cells slots : Nat} {ls : Array Slot} {rest : List Value} (C : lwK p s m meth c b L xs D cA) (d : dA pc k) (hk : k < 6) (hin : vp_in (x4 + nI k) L) (hS : va_S (fun q : Nat => s.heap.size ≤ q) s.heap H locs)
    (hl : lv_has ls 7 [(0, .ref b), (1, .ref qx), (2, .ref qm), (3, .ref qo), (4, .int x4)])
    (kk : W p l e room_1 s m #[Value.ref b] below meth c H locs cells slots Qs (F0 m (pc + 6) ls (.int (av xs x4 k) :: rest))) : W p l e room_1 s m #[Value.ref b] below meth c H locs cells slots Qs (F0 m pc ls rest) := by
  obtain ⟨C0, hK, hN⟩ := C
  obtain ⟨hx, hb, hr, hml, hown, _, hX, hbl, hlk, _⟩ := id C0
  obtain ⟨d0, d1, d3, d4, d5⟩ := d
  have hv : Int32.ofInt (k : Int) = nI k := by
    rcases (show k = 0 ∨ k = 1 ∨ k = 2 ∨ k = 3 ∨ k = 4 ∨ k = 5 by omega) with rfl | rfl | rfl | rfl | rfl | rfl <;> decide
  refine lv_aload_n hx hb d0 rfl (lv_at hl 0 rfl) ?_
  refine lv_iload hx hb d1 (lv_at hl 4 rfl) ?_
  refine lv_iconst hx hb d3 hv ?_
  refine lv_iadd hx hb d4 ?_
  exact va_sld hx hb hX hbl (Nat.not_le.mpr hbl) hS hin d5 kk
def asL (xs : Nat → Int32) (x4 : Int32) : Nat → List Value
  | 0 => []
  | n + 1 => asL xs x4 n ++ [.int (av xs x4 (n + 1))]
theorem asL_len {x4 : Int32} : ∀ n, (asL xs x4 n).length = n
  | 0 => rfl
  | n + 1 => by rw [asL, List.length_append, asL_len n]; rfl
theorem asL_tr {ad : Nat → Nat} {x4 : Int32} : ∀ n, (asL xs x4 n).map (ck_tr ad) = asL xs x4 n
  | 0 => rfl
  | n + 1 => by rw [asL, List.map_append, asL_tr n]; rfl
theorem lw_args {x4 : Int32} {qx qm qo : Nat} {H : Heap} {locs : List Loc} {cells slots : Nat} {ls : Array Slot} {rest : List Value} (C : lwK p s m meth c b L xs D cA) (hin : ∀ k, k < 6 → vp_in (x4 + nI k) L) (hS : va_S (fun q : Nat => s.heap.size ≤ q) s.heap H locs)
    (hl : lv_has ls 7 [(0, .ref b), (1, .ref qx), (2, .ref qm), (3, .ref qo), (4, .int x4)]) : ∀ (n pc : Nat), n < 6 → (∀ j, j < n → dA (pc + 6 * j) ((j + 1 : Nat) : Int)) → 
    W p l e room_1 s m #[Value.ref b] below meth c H locs cells slots Qs (F0 m (pc + 6 * n) ls ((asL xs x4 n).reverse ++ rest)) → W p l e room_1 s m #[Value.ref b] below meth c H locs cells slots Qs (F0 m pc ls rest) := by
  intro n
  induction n with
  | zero => intro pc _ _ kk; exact kk
  | succ n ih =>
    intro pc hn d kk
    refine ih pc (by omega) (fun j hj => d j (by omega)) ?_
    refine lw_arg C (d n (by omega)) (by omega) (hin (n + 1) (by omega)) hS hl ?_
    rw [show pc + 6 * n + 6 = pc + 6 * (n + 1) by omega]
    have e9 : (asL xs x4 (n + 1)).reverse ++ rest = .int (av xs x4 (n + 1)) :: ((asL xs x4 n).reverse ++ rest) := by
      rw [asL, List.reverse_append]; rfl
    rw [e9] at kk
    exact kk
/-- where the law's loop stands, at a pc -/
def lwI (p : Program) (l : Launch) (e : Env) (s : State) (m : MethodId) (below : List Frame) (meth : Method) (c : Code) (b : Nat) (D : va_G) (cA : Nat → ClassId) (Qs : State → Prop) (qx qm qo : Nat) (x4 : Int32) (cells slots pc : Nat) : Prop :=
  ∀ (ad adM : Nat → Nat) (h mm : ck_H) (o : Nat → Int64) (H : Heap) (locs : List Loc) (ls : Array Slot), Sim h mm → ad 0 = qx → adM 0 = qm → ck_S ad (fun q : Nat => s.heap.size ≤ q) s s.heap → ck_S adM (fun q : Nat => s.heap.size ≤ q) s s.heap →
    nLS (fun q : Nat => s.heap.size ≤ q) D (ck_wd ad cA h ck_shX) (ck_wd adM cA mm ck_shM ++ [(qo, .inl (cA 3, 1, .inr (.inl o)))]) H → va_S (fun q : Nat => s.heap.size ≤ q) s.heap H locs →
    lv_has ls 7 [(0, .ref b), (1, .ref qx), (2, .ref qm), (3, .ref qo), (4, .int x4)] → W p l e room_1 s m #[Value.ref b] below meth c H locs cells slots Qs (F0 m pc ls [])
abbrev dT (pc n ix im : Nat) : Prop := decode code pc = .ok (.aload_n 1, 1) ∧ (∀ j, j < n → dA (pc + 1 + 6 * j) ((j + 1 : Nat) : Int)) ∧ decode code (pc + 1 + 6 * n) = .ok (.invokevirtual ix, 3) ∧ decode code (pc + 1 + 6 * n + 3) = .ok (.aload_n 2, 1) ∧ (∀ j, j < n → dA (pc + 1 + 6 * n + 3 + 1 + 6 * j) ((j + 1 : Nat) : Int)) ∧ decode code (pc + 1 + 6 * n + 3 + 1 + 6 * n) = .ok (.invokevirtual im, 3) ∧ decode code (pc + 1 + 6 * n + 3 + 1 + 6 * n + 3) = .ok (.if_icmp .eq ((1503 : Int) - ((pc + 1 + 6 * n + 3 + 1 + 6 * n + 3 : Nat) : Int)), 3)
theorem shX0 : ∃ fs, ck_shX[0]? = some (.inl (11, fs)) := ⟨_, rfl⟩
theorem shM0 : ∃ fs, ck_shM[0]? = some (.inl (12, fs)) := ⟨_, rfl⟩
/-- two calls with the same arguments, and their answers beside each other -/
theorem lw_two {pc n ix im : Nat} {x4 : Int32} {qx qm qo cells slots : Nat} {yX yM : MethodName} {cX cM : ByteArray} {nX nM dX dM : Nat} {rX rM : Option FieldType} {wM : ck_H → (Int32 → ck_H → Prop) → Prop}
    (C : lwK p s m meth c b L xs D cA) (hn : n < 6) (d : dT pc n ix im) (hin : ∀ k, k < 6 → vp_in (x4 + nI k) L) (hcs : cells ≤ 601024 ∧ slots ≤ 7293033)
    (hX : ∀ h mm, Sim h mm → ck_M yX cX nX rX dX 0 0 false ck_shX h (.ref 0 :: asL xs x4 n) (ck_Qi ck_shX (fun r h' => wM mm (fun r' m' => r = r' ∧ Sim h' m')))) (hM : ∀ mm Q, wM mm Q → ck_M yM cM nM rM dM 0 0 false ck_shM mm (.ref 0 :: asL xs x4 n) (ck_Qi ck_shM Q))
    (kX : ck_cal yX cX nX rX n) (lX : Cond.methodLink RL ix yX ∈ ck_T) (vX : Cond.instanceMethod yX ∈ ck_T ∧ Cond.selects yX.cls yX yX ∈ ck_T) (yX' : yX.cls = RX11) (pX : dX + 1 ≤ 2048) (oX : 8 + (nX + 11) + 64 * dX ≤ 84000)
    (kM : ck_cal yM cM nM rM n) (lM : Cond.methodLink RL im yM ∈ ck_T) (vM : Cond.instanceMethod yM ∈ ck_T ∧ Cond.selects yM.cls yM yM ∈ ck_T) (yM' : yM.cls = RX12) (pM : dM + 1 ≤ 2048) (oM : 8 + (nM + 11) + 64 * dM ≤ 84000)
    (K : lwI p l e s m below meth c b D cA Qs qx qm qo x4 cells slots 1503) : lwI p l e s m below meth c b D cA Qs qx qm qo x4 cells slots pc := by
  intro ad adM h mm o H locs ls S0 ea em sX sM hL hS hl
  obtain ⟨C0, hK, hN⟩ := id C
  obtain ⟨hx, hb, hr, hml, hown, _, hX9, hbl, hlk, _⟩ := id C0
  obtain ⟨d0, d1, d2, d3, d4, d5, d6⟩ := d
  obtain ⟨fX, fX0⟩ := shX0
  obtain ⟨fM, fM0⟩ := shM0
  refine lv_aload_n hx hb d0 rfl (lv_at hl 1 rfl) ?_
  refine lw_args C hin hS hl n (pc + 1) hn d1 ?_
  have e1 : (asL xs x4 n).reverse ++ [Value.ref qx] = ((asL xs x4 n).map (ck_tr ad)).reverse ++ .ref (ad 0) :: [] := by rw [asL_tr, ea]
  rw [e1]
  refine lw_callV C (hX h mm S0) kX (asL_len n) lX vX fX0 (by rw [yX']; exact clX11.1) pX oX (by decide) hcs d2 hL hS sX hl.1 (fun v sh' h' H1 locs1 hq hL1 hS1 => ?_)
  obtain ⟨r, rfl, rfl, hq⟩ := hq
  show W p l e room_1 s m #[Value.ref b] below meth c H1 locs1 cells slots Qs (F0 m (pc + 1 + 6 * n + 3) ls [.int r])
  refine lv_aload_n hx hb d3 rfl (lv_at hl 2 rfl) ?_
  refine lw_args C hin hS1 hl n (pc + 1 + 6 * n + 3 + 1) hn d4 ?_
  have e2 : (asL xs x4 n).reverse ++ [Value.ref qm, .int r] = ((asL xs x4 n).map (ck_tr adM)).reverse ++ .ref (adM 0) :: [.int r] := by rw [asL_tr, em]
  rw [e2]
  refine lw_callV C (hM mm _ hq) kM (asL_len n) lM vM fM0 (by rw [yM']; exact clX12.1) pM oM (Nat.le_of_ble_eq_true rfl) hcs d5 hL1.foc hS1 sM hl.1 (fun v sh' m' H2 locs2 hq2 hL2 hS2 => ?_)
  obtain ⟨r', rfl, rfl, rfl, S1⟩ := hq2
  show W p l e room_1 s m #[Value.ref b] below meth c H2 locs2 cells slots Qs (F0 m (pc + 1 + 6 * n + 3 + 1 + 6 * n + 3) ls [.int r, .int r])
  refine lv_icmp_eq (tgt := 1503) hx hb d6 (by omega) (fun _ => ?_) (fun z => absurd rfl z)
  exact K ad adM h' m' o H2 locs2 ls S1 ea em sX sM hL2.foc hS2 hl
end LWT
