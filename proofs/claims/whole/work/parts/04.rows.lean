def ck_rem (x y : Int32) : Int32 := x - x / y * y
section CKR
variable {cc : ByteArray} {nL : Nat} {own : String} {ret : Option FieldType} {dp mc ms : Nat} {ini gr : Bool} {Q : Option Value → List ck_C → ck_H → Prop} {sh : List ck_C} {h : ck_H} {kc ks pc : Nat} {lv : List (Nat × Value)} {rest : List Value}
theorem ck_iconst {n : Int} {v : Int32} (hd : decode cc pc = .ok (.iconst n, 1)) (hv : Int32.ofInt n = v) (k : ck_W cc nL own ret dp mc ms ini gr Q sh h kc ks (pc + 1) lv (.int v :: rest)) : ck_W cc nL own ret dp mc ms ini gr Q sh h kc ks pc lv rest := by
  intro l D cA ad p e R s m args below meth c A H locs ls X hP hD hS hG hl
  obtain ⟨hx, hb, hml, hown, hts, hr, hlk, hK, hN, hA, hR, hin, hSt⟩ := id X
  exact lv_iconst hx hb hd hv (k l D cA ad p e R s m args below meth c A H locs ls X hP hD hS hG hl)
theorem ck_bipush {n : Int} {v : Int32} (hd : decode cc pc = .ok (.bipush n, 2)) (hv : (Int8.ofInt n).toInt32 = v) (k : ck_W cc nL own ret dp mc ms ini gr Q sh h kc ks (pc + 2) lv (.int v :: rest)) : ck_W cc nL own ret dp mc ms ini gr Q sh h kc ks pc lv rest := by
  intro l D cA ad p e R s m args below meth c A H locs ls X hP hD hS hG hl
  obtain ⟨hx, hb, hml, hown, hts, hr, hlk, hK, hN, hA, hR, hin, hSt⟩ := id X
  exact lv_bipush hx hb hd hv (k l D cA ad p e R s m args below meth c A H locs ls X hP hD hS hG hl)
theorem ck_sipush {n : Int} {v : Int32} (hd : decode cc pc = .ok (.sipush n, 3)) (hv : (Int16.ofInt n).toInt32 = v) (k : ck_W cc nL own ret dp mc ms ini gr Q sh h kc ks (pc + 3) lv (.int v :: rest)) : ck_W cc nL own ret dp mc ms ini gr Q sh h kc ks pc lv rest := by
  intro l D cA ad p e R s m args below meth c A H locs ls X hP hD hS hG hl
  obtain ⟨hx, hb, hml, hown, hts, hr, hlk, hK, hN, hA, hR, hin, hSt⟩ := id X
  exact lv_sipush hx hb hd hv (k l D cA ad p e R s m args below meth c A H locs ls X hP hD hS hG hl)
theorem ck_lconst {n : Fin 2} {v : Int64} (hd : decode cc pc = .ok (.lconst n, 1)) (hv : Int64.ofNat (n : Nat) = v) (k : ck_W cc nL own ret dp mc ms ini gr Q sh h kc ks (pc + 1) lv (.long v :: rest)) : ck_W cc nL own ret dp mc ms ini gr Q sh h kc ks pc lv rest := by
  intro l D cA ad p e R s m args below meth c A H locs ls X hP hD hS hG hl
  obtain ⟨hx, hb, hml, hown, hts, hr, hlk, hK, hN, hA, hR, hin, hSt⟩ := id X
  exact lv_lconst hx hb hd hv (k l D cA ad p e R s m args below meth c A H locs ls X hP hD hS hG hl)
theorem ck_ldc {idx : Nat} {v : Int32} (hw : Cond.constant own idx v ∈ ck_T) (hd : decode cc pc = .ok (.ldc idx, 2)) (k : ck_W cc nL own ret dp mc ms ini gr Q sh h kc ks (pc + 2) lv (.int v :: rest)) : ck_W cc nL own ret dp mc ms ini gr Q sh h kc ks pc lv rest := by
  intro l D cA ad p e R s m args below meth c A H locs ls X hP hD hS hG hl
  obtain ⟨hx, hb, hml, hown, hts, hr, hlk, hK, hN, hA, hR, hin, hSt⟩ := id X
  exact lv_ldc hx hb hown (hts _ hw) hd (k l D cA ad p e R s m args below meth c A H locs ls X hP hD hS hG hl)
theorem ck_ldcw {idx : Nat} {v : Int32} (hw : Cond.constant own idx v ∈ ck_T) (hd : decode cc pc = .ok (.ldc_w idx, 3)) (k : ck_W cc nL own ret dp mc ms ini gr Q sh h kc ks (pc + 3) lv (.int v :: rest)) : ck_W cc nL own ret dp mc ms ini gr Q sh h kc ks pc lv rest := by
  intro l D cA ad p e R s m args below meth c A H locs ls X hP hD hS hG hl
  obtain ⟨hx, hb, hml, hown, hts, hr, hlk, hK, hN, hA, hR, hin, hSt⟩ := id X
  exact lv_ldcw hx hb hown (hts _ hw) hd (k l D cA ad p e R s m args below meth c A H locs ls X hP hD hS hG hl)
theorem ck_ldc2 {idx : Nat} {v : Int64} (hw : Cond.constantLong own idx v ∈ ck_T) (hd : decode cc pc = .ok (.ldc2_w idx, 3)) (k : ck_W cc nL own ret dp mc ms ini gr Q sh h kc ks (pc + 3) lv (.long v :: rest)) : ck_W cc nL own ret dp mc ms ini gr Q sh h kc ks pc lv rest := by
  intro l D cA ad p e R s m args below meth c A H locs ls X hP hD hS hG hl
  obtain ⟨hx, hb, hml, hown, hts, hr, hlk, hK, hN, hA, hR, hin, hSt⟩ := id X
  exact lv_ldc2 hx hb hown (hts _ hw) hd (k l D cA ad p e R s m args below meth c A H locs ls X hP hD hS hG hl)
theorem ck_iload_n {kf : Fin 4} {i : Nat} {x : Int32} (q : Nat) (hd : decode cc pc = .ok (.iload_n kf, 1)) (hi : (kf : Nat) = i) (hq : lv[q]? = some (i, .int x)) (k : ck_W cc nL own ret dp mc ms ini gr Q sh h kc ks (pc + 1) lv (.int x :: rest)) : ck_W cc nL own ret dp mc ms ini gr Q sh h kc ks pc lv rest := by
  intro l D cA ad p e R s m args below meth c A H locs ls X hP hD hS hG hl
  obtain ⟨hx, hb, hml, hown, hts, hr, hlk, hK, hN, hA, hR, hin, hSt⟩ := id X
  exact lv_iload_n hx hb hd hi (ck_lat hl q hq) (k l D cA ad p e R s m args below meth c A H locs ls X hP hD hS hG hl)
theorem ck_iload {i : Nat} {x : Int32} (q : Nat) (hd : decode cc pc = .ok (.iload i, 2)) (hq : lv[q]? = some (i, .int x)) (k : ck_W cc nL own ret dp mc ms ini gr Q sh h kc ks (pc + 2) lv (.int x :: rest)) : ck_W cc nL own ret dp mc ms ini gr Q sh h kc ks pc lv rest := by
  intro l D cA ad p e R s m args below meth c A H locs ls X hP hD hS hG hl
  obtain ⟨hx, hb, hml, hown, hts, hr, hlk, hK, hN, hA, hR, hin, hSt⟩ := id X
  exact lv_iload hx hb hd (ck_lat hl q hq) (k l D cA ad p e R s m args below meth c A H locs ls X hP hD hS hG hl)
theorem ck_lload_n {kf : Fin 4} {i : Nat} {x : Int64} (q : Nat) (hd : decode cc pc = .ok (.lload_n kf, 1)) (hi : (kf : Nat) = i) (hq : lv[q]? = some (i, .long x)) (k : ck_W cc nL own ret dp mc ms ini gr Q sh h kc ks (pc + 1) lv (.long x :: rest)) : ck_W cc nL own ret dp mc ms ini gr Q sh h kc ks pc lv rest := by
  intro l D cA ad p e R s m args below meth c A H locs ls X hP hD hS hG hl
  obtain ⟨hx, hb, hml, hown, hts, hr, hlk, hK, hN, hA, hR, hin, hSt⟩ := id X
  exact lv_lload_n hx hb hd hi (ck_lat hl q hq) (k l D cA ad p e R s m args below meth c A H locs ls X hP hD hS hG hl)
theorem ck_lload {i : Nat} {x : Int64} (q : Nat) (hd : decode cc pc = .ok (.lload i, 2)) (hq : lv[q]? = some (i, .long x)) (k : ck_W cc nL own ret dp mc ms ini gr Q sh h kc ks (pc + 2) lv (.long x :: rest)) : ck_W cc nL own ret dp mc ms ini gr Q sh h kc ks pc lv rest := by
  intro l D cA ad p e R s m args below meth c A H locs ls X hP hD hS hG hl
  obtain ⟨hx, hb, hml, hown, hts, hr, hlk, hK, hN, hA, hR, hin, hSt⟩ := id X
  exact lv_lload hx hb hd (ck_lat hl q hq) (k l D cA ad p e R s m args below meth c A H locs ls X hP hD hS hG hl)
theorem ck_aload_n {kf : Fin 4} {i : Nat} {x : Nat} (q : Nat) (hd : decode cc pc = .ok (.aload_n kf, 1)) (hi : (kf : Nat) = i) (hq : lv[q]? = some (i, .ref x)) (k : ck_W cc nL own ret dp mc ms ini gr Q sh h kc ks (pc + 1) lv (.ref x :: rest)) : ck_W cc nL own ret dp mc ms ini gr Q sh h kc ks pc lv rest := by
  intro l D cA ad p e R s m args below meth c A H locs ls X hP hD hS hG hl
  obtain ⟨hx, hb, hml, hown, hts, hr, hlk, hK, hN, hA, hR, hin, hSt⟩ := id X
  exact lv_aload_n hx hb hd hi (ck_lat hl q hq) (k l D cA ad p e R s m args below meth c A H locs ls X hP hD hS hG hl)
theorem ck_aload {i : Nat} {x : Nat} (q : Nat) (hd : decode cc pc = .ok (.aload i, 2)) (hq : lv[q]? = some (i, .ref x)) (k : ck_W cc nL own ret dp mc ms ini gr Q sh h kc ks (pc + 2) lv (.ref x :: rest)) : ck_W cc nL own ret dp mc ms ini gr Q sh h kc ks pc lv rest := by
  intro l D cA ad p e R s m args below meth c A H locs ls X hP hD hS hG hl
  obtain ⟨hx, hb, hml, hown, hts, hr, hlk, hK, hN, hA, hR, hin, hSt⟩ := id X
  exact lv_aload hx hb hd (ck_lat hl q hq) (k l D cA ad p e R s m args below meth c A H locs ls X hP hD hS hG hl)
theorem ck_istore_n {kf : Fin 4} {i : Nat} {x : Int32} {lv' : List (Nat × Value)} (hd : decode cc pc = .ok (.istore_n kf, 1)) (hi : (kf : Nat) = i) (hn : i < nL) (he : (i, Value.int x) :: lv.filter (fun q => !(q.1 == i) && !(q.1 + 1 == i && q.2.category == 2)) = lv') (k : ck_W cc nL own ret dp mc ms ini gr Q sh h kc ks (pc + 1) lv' rest) : ck_W cc nL own ret dp mc ms ini gr Q sh h kc ks pc lv (.int x :: rest) := by
  intro l D cA ad p e R s m args below meth c A H locs ls X hP hD hS hG hl
  obtain ⟨hx, hb, hml, hown, hts, hr, hlk, hK, hN, hA, hR, hin, hSt⟩ := id X
  refine lv_istore_n hx hb hd hi hl hn rfl (fun ls' hl' => (k l D cA ad p e R s m args below meth c A H locs ls' X hP hD hS hG ?_))
  rw [← he]
  have q := ck_filter ad (fun a b => !(a == i) && !(a + 1 == i && b == 2)) lv
  show lv_has ls' nL ((i, ck_tr ad (.int x)) :: ck_lv ad (lv.filter (fun q => !(q.1 == i) && !(q.1 + 1 == i && q.2.category == 2))))
  rw [← q]
  exact hl'
theorem ck_istore {i : Nat} {x : Int32} {lv' : List (Nat × Value)} (hd : decode cc pc = .ok (.istore i, 2)) (hn : i < nL) (he : (i, Value.int x) :: lv.filter (fun q => !(q.1 == i) && !(q.1 + 1 == i && q.2.category == 2)) = lv') (k : ck_W cc nL own ret dp mc ms ini gr Q sh h kc ks (pc + 2) lv' rest) : ck_W cc nL own ret dp mc ms ini gr Q sh h kc ks pc lv (.int x :: rest) := by
  intro l D cA ad p e R s m args below meth c A H locs ls X hP hD hS hG hl
  obtain ⟨hx, hb, hml, hown, hts, hr, hlk, hK, hN, hA, hR, hin, hSt⟩ := id X
  refine lv_istore hx hb hd hl hn rfl (fun ls' hl' => (k l D cA ad p e R s m args below meth c A H locs ls' X hP hD hS hG ?_))
  rw [← he]
  have q := ck_filter ad (fun a b => !(a == i) && !(a + 1 == i && b == 2)) lv
  show lv_has ls' nL ((i, ck_tr ad (.int x)) :: ck_lv ad (lv.filter (fun q => !(q.1 == i) && !(q.1 + 1 == i && q.2.category == 2))))
  rw [← q]
  exact hl'
theorem ck_astore_n {kf : Fin 4} {i : Nat} {x : Nat} {lv' : List (Nat × Value)} (hd : decode cc pc = .ok (.astore_n kf, 1)) (hi : (kf : Nat) = i) (hn : i < nL) (he : (i, Value.ref x) :: lv.filter (fun q => !(q.1 == i) && !(q.1 + 1 == i && q.2.category == 2)) = lv') (k : ck_W cc nL own ret dp mc ms ini gr Q sh h kc ks (pc + 1) lv' rest) : ck_W cc nL own ret dp mc ms ini gr Q sh h kc ks pc lv (.ref x :: rest) := by
  intro l D cA ad p e R s m args below meth c A H locs ls X hP hD hS hG hl
  obtain ⟨hx, hb, hml, hown, hts, hr, hlk, hK, hN, hA, hR, hin, hSt⟩ := id X
  refine lv_astore_n hx hb hd hi hl hn rfl (fun ls' hl' => (k l D cA ad p e R s m args below meth c A H locs ls' X hP hD hS hG ?_))
  rw [← he]
  have q := ck_filter ad (fun a b => !(a == i) && !(a + 1 == i && b == 2)) lv
  show lv_has ls' nL ((i, ck_tr ad (.ref x)) :: ck_lv ad (lv.filter (fun q => !(q.1 == i) && !(q.1 + 1 == i && q.2.category == 2))))
  rw [← q]
  exact hl'
theorem ck_astore {i : Nat} {x : Nat} {lv' : List (Nat × Value)} (hd : decode cc pc = .ok (.astore i, 2)) (hn : i < nL) (he : (i, Value.ref x) :: lv.filter (fun q => !(q.1 == i) && !(q.1 + 1 == i && q.2.category == 2)) = lv') (k : ck_W cc nL own ret dp mc ms ini gr Q sh h kc ks (pc + 2) lv' rest) : ck_W cc nL own ret dp mc ms ini gr Q sh h kc ks pc lv (.ref x :: rest) := by
  intro l D cA ad p e R s m args below meth c A H locs ls X hP hD hS hG hl
  obtain ⟨hx, hb, hml, hown, hts, hr, hlk, hK, hN, hA, hR, hin, hSt⟩ := id X
  refine lv_astore hx hb hd hl hn rfl (fun ls' hl' => (k l D cA ad p e R s m args below meth c A H locs ls' X hP hD hS hG ?_))
  rw [← he]
  have q := ck_filter ad (fun a b => !(a == i) && !(a + 1 == i && b == 2)) lv
  show lv_has ls' nL ((i, ck_tr ad (.ref x)) :: ck_lv ad (lv.filter (fun q => !(q.1 == i) && !(q.1 + 1 == i && q.2.category == 2))))
  rw [← q]
  exact hl'
theorem ck_lstore_n {kf : Fin 4} {i : Nat} {x : Int64} {lv' : List (Nat × Value)} (hd : decode cc pc = .ok (.lstore_n kf, 1)) (hi : (kf : Nat) = i) (hn : i + 1 < nL) (he : (i, Value.long x) :: lv.filter (fun q => !(q.1 == i) && (!(q.1 == i + 1) && !(q.1 + 1 == i && q.2.category == 2))) = lv') (k : ck_W cc nL own ret dp mc ms ini gr Q sh h kc ks (pc + 1) lv' rest) : ck_W cc nL own ret dp mc ms ini gr Q sh h kc ks pc lv (.long x :: rest) := by
  intro l D cA ad p e R s m args below meth c A H locs ls X hP hD hS hG hl
  obtain ⟨hx, hb, hml, hown, hts, hr, hlk, hK, hN, hA, hR, hin, hSt⟩ := id X
  refine lv_lstore_n hx hb hd hi hl hn rfl (fun ls' hl' => (k l D cA ad p e R s m args below meth c A H locs ls' X hP hD hS hG ?_))
  rw [← he]
  have q := ck_filter ad (fun a b => !(a == i) && (!(a == i + 1) && !(a + 1 == i && b == 2))) lv
  show lv_has ls' nL ((i, ck_tr ad (.long x)) :: ck_lv ad (lv.filter (fun q => !(q.1 == i) && (!(q.1 == i + 1) && !(q.1 + 1 == i && q.2.category == 2)))))
  rw [← q]
  exact hl'
theorem ck_lstore {i : Nat} {x : Int64} {lv' : List (Nat × Value)} (hd : decode cc pc = .ok (.lstore i, 2)) (hn : i + 1 < nL) (he : (i, Value.long x) :: lv.filter (fun q => !(q.1 == i) && (!(q.1 == i + 1) && !(q.1 + 1 == i && q.2.category == 2))) = lv') (k : ck_W cc nL own ret dp mc ms ini gr Q sh h kc ks (pc + 2) lv' rest) : ck_W cc nL own ret dp mc ms ini gr Q sh h kc ks pc lv (.long x :: rest) := by
  intro l D cA ad p e R s m args below meth c A H locs ls X hP hD hS hG hl
  obtain ⟨hx, hb, hml, hown, hts, hr, hlk, hK, hN, hA, hR, hin, hSt⟩ := id X
  refine lv_lstore hx hb hd hl hn rfl (fun ls' hl' => (k l D cA ad p e R s m args below meth c A H locs ls' X hP hD hS hG ?_))
  rw [← he]
  have q := ck_filter ad (fun a b => !(a == i) && (!(a == i + 1) && !(a + 1 == i && b == 2))) lv
  show lv_has ls' nL ((i, ck_tr ad (.long x)) :: ck_lv ad (lv.filter (fun q => !(q.1 == i) && (!(q.1 == i + 1) && !(q.1 + 1 == i && q.2.category == 2)))))
  rw [← q]
  exact hl'
theorem ck_iinc {i : Nat} {n : Int} {x v : Int32} {lv' : List (Nat × Value)} (q : Nat) (hd : decode cc pc = .ok (.iinc i n, 3)) (hq : lv[q]? = some (i, .int x)) (hv : x + Int32.ofInt n = v) (hn : i < nL) (he : (i, Value.int v) :: lv.filter (fun q => !(q.1 == i) && !(q.1 + 1 == i && q.2.category == 2)) = lv') (k : ck_W cc nL own ret dp mc ms ini gr Q sh h kc ks (pc + 3) lv' rest) : ck_W cc nL own ret dp mc ms ini gr Q sh h kc ks pc lv rest := by
  intro l D cA ad p e R s m args below meth c A H locs ls X hP hD hS hG hl
  obtain ⟨hx, hb, hml, hown, hts, hr, hlk, hK, hN, hA, hR, hin, hSt⟩ := id X
  refine lv_iinc (k := q) (x := x) hx hb hd hl (by simp [ck_lv, hq, ck_tr]) hv hn rfl (fun ls' hl' => (k l D cA ad p e R s m args below meth c A H locs ls' X hP hD hS hG ?_))
  rw [← he]
  have q := ck_filter ad (fun a b => !(a == i) && !(a + 1 == i && b == 2)) lv
  show lv_has ls' nL ((i, ck_tr ad (.int v)) :: ck_lv ad (lv.filter (fun q => !(q.1 == i) && !(q.1 + 1 == i && q.2.category == 2))))
  rw [← q]
  exact hl'
theorem ck_loc {lv' : List (Nat × Value)} (is : List Nat) (he : lv_pick lv is = lv') (k : ck_W cc nL own ret dp mc ms ini gr Q sh h kc ks pc lv' rest) : ck_W cc nL own ret dp mc ms ini gr Q sh h kc ks pc lv rest := by
  intro l D cA ad p e R s m args below meth c A H locs ls X hP hD hS hG hl
  obtain ⟨hx, hb, hml, hown, hts, hr, hlk, hK, hN, hA, hR, hin, hSt⟩ := id X
  exact k l D cA ad p e R s m args below meth c A H locs ls X hP hD hS hG (ck_lpk hl is he)
theorem ck_iadd {x y : Int32} (hd : decode cc pc = .ok (.iadd, 1)) (k : ck_W cc nL own ret dp mc ms ini gr Q sh h kc ks (pc + 1) lv (.int (x + y) :: rest)) : ck_W cc nL own ret dp mc ms ini gr Q sh h kc ks pc lv (.int y :: .int x :: rest) := by
  intro l D cA ad p e R s m args below meth c A H locs ls X hP hD hS hG hl
  obtain ⟨hx, hb, hml, hown, hts, hr, hlk, hK, hN, hA, hR, hin, hSt⟩ := id X
  exact lv_iadd hx hb hd (k l D cA ad p e R s m args below meth c A H locs ls X hP hD hS hG hl)
theorem ck_isub {x y : Int32} (hd : decode cc pc = .ok (.isub, 1)) (k : ck_W cc nL own ret dp mc ms ini gr Q sh h kc ks (pc + 1) lv (.int (x - y) :: rest)) : ck_W cc nL own ret dp mc ms ini gr Q sh h kc ks pc lv (.int y :: .int x :: rest) := by
  intro l D cA ad p e R s m args below meth c A H locs ls X hP hD hS hG hl
  obtain ⟨hx, hb, hml, hown, hts, hr, hlk, hK, hN, hA, hR, hin, hSt⟩ := id X
  exact lv_isub hx hb hd (k l D cA ad p e R s m args below meth c A H locs ls X hP hD hS hG hl)
theorem ck_imul {x y : Int32} (hd : decode cc pc = .ok (.imul, 1)) (k : ck_W cc nL own ret dp mc ms ini gr Q sh h kc ks (pc + 1) lv (.int (x * y) :: rest)) : ck_W cc nL own ret dp mc ms ini gr Q sh h kc ks pc lv (.int y :: .int x :: rest) := by
  intro l D cA ad p e R s m args below meth c A H locs ls X hP hD hS hG hl
  obtain ⟨hx, hb, hml, hown, hts, hr, hlk, hK, hN, hA, hR, hin, hSt⟩ := id X
  exact lv_imul hx hb hd (k l D cA ad p e R s m args below meth c A H locs ls X hP hD hS hG hl)
theorem ck_iand {x y : Int32} (hd : decode cc pc = .ok (.iand, 1)) (k : ck_W cc nL own ret dp mc ms ini gr Q sh h kc ks (pc + 1) lv (.int (x &&& y) :: rest)) : ck_W cc nL own ret dp mc ms ini gr Q sh h kc ks pc lv (.int y :: .int x :: rest) := by
  intro l D cA ad p e R s m args below meth c A H locs ls X hP hD hS hG hl
  obtain ⟨hx, hb, hml, hown, hts, hr, hlk, hK, hN, hA, hR, hin, hSt⟩ := id X
  exact lv_iand hx hb hd (k l D cA ad p e R s m args below meth c A H locs ls X hP hD hS hG hl)
theorem ck_ior {x y : Int32} (hd : decode cc pc = .ok (.ior, 1)) (k : ck_W cc nL own ret dp mc ms ini gr Q sh h kc ks (pc + 1) lv (.int (x ||| y) :: rest)) : ck_W cc nL own ret dp mc ms ini gr Q sh h kc ks pc lv (.int y :: .int x :: rest) := by
  intro l D cA ad p e R s m args below meth c A H locs ls X hP hD hS hG hl
  obtain ⟨hx, hb, hml, hown, hts, hr, hlk, hK, hN, hA, hR, hin, hSt⟩ := id X
  exact lv_ior hx hb hd (k l D cA ad p e R s m args below meth c A H locs ls X hP hD hS hG hl)
theorem ck_ixor {x y : Int32} (hd : decode cc pc = .ok (.ixor, 1)) (k : ck_W cc nL own ret dp mc ms ini gr Q sh h kc ks (pc + 1) lv (.int (x ^^^ y) :: rest)) : ck_W cc nL own ret dp mc ms ini gr Q sh h kc ks pc lv (.int y :: .int x :: rest) := by
  intro l D cA ad p e R s m args below meth c A H locs ls X hP hD hS hG hl
  obtain ⟨hx, hb, hml, hown, hts, hr, hlk, hK, hN, hA, hR, hin, hSt⟩ := id X
  exact lv_ixor hx hb hd (k l D cA ad p e R s m args below meth c A H locs ls X hP hD hS hG hl)
theorem ck_ishl {x y : Int32} (hd : decode cc pc = .ok (.ishl, 1)) (k : ck_W cc nL own ret dp mc ms ini gr Q sh h kc ks (pc + 1) lv (.int (x <<< (y &&& 31)) :: rest)) : ck_W cc nL own ret dp mc ms ini gr Q sh h kc ks pc lv (.int y :: .int x :: rest) := by
  intro l D cA ad p e R s m args below meth c A H locs ls X hP hD hS hG hl
  obtain ⟨hx, hb, hml, hown, hts, hr, hlk, hK, hN, hA, hR, hin, hSt⟩ := id X
  exact lv_ishl hx hb hd (k l D cA ad p e R s m args below meth c A H locs ls X hP hD hS hG hl)
theorem ck_ishr {x y : Int32} (hd : decode cc pc = .ok (.ishr, 1)) (k : ck_W cc nL own ret dp mc ms ini gr Q sh h kc ks (pc + 1) lv (.int (x >>> (y &&& 31)) :: rest)) : ck_W cc nL own ret dp mc ms ini gr Q sh h kc ks pc lv (.int y :: .int x :: rest) := by
  intro l D cA ad p e R s m args below meth c A H locs ls X hP hD hS hG hl
  obtain ⟨hx, hb, hml, hown, hts, hr, hlk, hK, hN, hA, hR, hin, hSt⟩ := id X
  exact lv_ishr hx hb hd (k l D cA ad p e R s m args below meth c A H locs ls X hP hD hS hG hl)
theorem ck_iushr {x y : Int32} (hd : decode cc pc = .ok (.iushr, 1)) (k : ck_W cc nL own ret dp mc ms ini gr Q sh h kc ks (pc + 1) lv (.int ((x.toUInt32 >>> (y.toUInt32 &&& Int32.toUInt32 31)).toInt32) :: rest)) : ck_W cc nL own ret dp mc ms ini gr Q sh h kc ks pc lv (.int y :: .int x :: rest) := by
  intro l D cA ad p e R s m args below meth c A H locs ls X hP hD hS hG hl
  obtain ⟨hx, hb, hml, hown, hts, hr, hlk, hK, hN, hA, hR, hin, hSt⟩ := id X
  exact lv_iushr hx hb hd rfl (k l D cA ad p e R s m args below meth c A H locs ls X hP hD hS hG hl)
theorem ck_idiv {x y : Int32} (hd : decode cc pc = .ok (.idiv, 1)) (hne : ¬ y = 0) (k : ck_W cc nL own ret dp mc ms ini gr Q sh h kc ks (pc + 1) lv (.int (x / y) :: rest)) : ck_W cc nL own ret dp mc ms ini gr Q sh h kc ks pc lv (.int y :: .int x :: rest) := by
  intro l D cA ad p e R s m args below meth c A H locs ls X hP hD hS hG hl
  obtain ⟨hx, hb, hml, hown, hts, hr, hlk, hK, hN, hA, hR, hin, hSt⟩ := id X
  exact lv_idiv hx hb hd hne (k l D cA ad p e R s m args below meth c A H locs ls X hP hD hS hG hl)
theorem ck_irem {x y : Int32} (hd : decode cc pc = .ok (.irem, 1)) (hne : ¬ y = 0) (k : ck_W cc nL own ret dp mc ms ini gr Q sh h kc ks (pc + 1) lv (.int (ck_rem x y) :: rest)) : ck_W cc nL own ret dp mc ms ini gr Q sh h kc ks pc lv (.int y :: .int x :: rest) := by
  intro l D cA ad p e R s m args below meth c A H locs ls X hP hD hS hG hl
  obtain ⟨hx, hb, hml, hown, hts, hr, hlk, hK, hN, hA, hR, hin, hSt⟩ := id X
  exact lv_irem hx hb hd hne (k l D cA ad p e R s m args below meth c A H locs ls X hP hD hS hG hl)
theorem ck_ladd {x y : Int64} (hd : decode cc pc = .ok (.ladd, 1)) (k : ck_W cc nL own ret dp mc ms ini gr Q sh h kc ks (pc + 1) lv (.long (x + y) :: rest)) : ck_W cc nL own ret dp mc ms ini gr Q sh h kc ks pc lv (.long y :: .long x :: rest) := by
  intro l D cA ad p e R s m args below meth c A H locs ls X hP hD hS hG hl
  obtain ⟨hx, hb, hml, hown, hts, hr, hlk, hK, hN, hA, hR, hin, hSt⟩ := id X
  exact lv_ladd hx hb hd (k l D cA ad p e R s m args below meth c A H locs ls X hP hD hS hG hl)
theorem ck_lsub {x y : Int64} (hd : decode cc pc = .ok (.lsub, 1)) (k : ck_W cc nL own ret dp mc ms ini gr Q sh h kc ks (pc + 1) lv (.long (x - y) :: rest)) : ck_W cc nL own ret dp mc ms ini gr Q sh h kc ks pc lv (.long y :: .long x :: rest) := by
  intro l D cA ad p e R s m args below meth c A H locs ls X hP hD hS hG hl
  obtain ⟨hx, hb, hml, hown, hts, hr, hlk, hK, hN, hA, hR, hin, hSt⟩ := id X
  exact lv_lsub hx hb hd (k l D cA ad p e R s m args below meth c A H locs ls X hP hD hS hG hl)
theorem ck_lmul {x y : Int64} (hd : decode cc pc = .ok (.lmul, 1)) (k : ck_W cc nL own ret dp mc ms ini gr Q sh h kc ks (pc + 1) lv (.long (x * y) :: rest)) : ck_W cc nL own ret dp mc ms ini gr Q sh h kc ks pc lv (.long y :: .long x :: rest) := by
  intro l D cA ad p e R s m args below meth c A H locs ls X hP hD hS hG hl
  obtain ⟨hx, hb, hml, hown, hts, hr, hlk, hK, hN, hA, hR, hin, hSt⟩ := id X
  exact lv_lmul hx hb hd (k l D cA ad p e R s m args below meth c A H locs ls X hP hD hS hG hl)
theorem ck_land {x y : Int64} (hd : decode cc pc = .ok (.land, 1)) (k : ck_W cc nL own ret dp mc ms ini gr Q sh h kc ks (pc + 1) lv (.long (x &&& y) :: rest)) : ck_W cc nL own ret dp mc ms ini gr Q sh h kc ks pc lv (.long y :: .long x :: rest) := by
  intro l D cA ad p e R s m args below meth c A H locs ls X hP hD hS hG hl
  obtain ⟨hx, hb, hml, hown, hts, hr, hlk, hK, hN, hA, hR, hin, hSt⟩ := id X
  exact lv_land hx hb hd (k l D cA ad p e R s m args below meth c A H locs ls X hP hD hS hG hl)
theorem ck_ldiv {x y : Int64} (hd : decode cc pc = .ok (.ldiv, 1)) (hne : ¬ y = 0) (k : ck_W cc nL own ret dp mc ms ini gr Q sh h kc ks (pc + 1) lv (.long (x / y) :: rest)) : ck_W cc nL own ret dp mc ms ini gr Q sh h kc ks pc lv (.long y :: .long x :: rest) := by
  intro l D cA ad p e R s m args below meth c A H locs ls X hP hD hS hG hl
  obtain ⟨hx, hb, hml, hown, hts, hr, hlk, hK, hN, hA, hR, hin, hSt⟩ := id X
  exact lv_ldiv hx hb hd hne (k l D cA ad p e R s m args below meth c A H locs ls X hP hD hS hG hl)
theorem ck_lneg {x : Int64} (hd : decode cc pc = .ok (.lneg, 1)) (k : ck_W cc nL own ret dp mc ms ini gr Q sh h kc ks (pc + 1) lv (.long (-x) :: rest)) : ck_W cc nL own ret dp mc ms ini gr Q sh h kc ks pc lv (.long x :: rest) := by
  intro l D cA ad p e R s m args below meth c A H locs ls X hP hD hS hG hl
  obtain ⟨hx, hb, hml, hown, hts, hr, hlk, hK, hN, hA, hR, hin, hSt⟩ := id X
  exact lv_lneg hx hb hd (k l D cA ad p e R s m args below meth c A H locs ls X hP hD hS hG hl)
theorem ck_ineg {x : Int32} (hd : decode cc pc = .ok (.ineg, 1)) (k : ck_W cc nL own ret dp mc ms ini gr Q sh h kc ks (pc + 1) lv (.int (-x) :: rest)) : ck_W cc nL own ret dp mc ms ini gr Q sh h kc ks pc lv (.int x :: rest) := by
  intro l D cA ad p e R s m args below meth c A H locs ls X hP hD hS hG hl
  obtain ⟨hx, hb, hml, hown, hts, hr, hlk, hK, hN, hA, hR, hin, hSt⟩ := id X
  exact lv_ineg hx hb hd (k l D cA ad p e R s m args below meth c A H locs ls X hP hD hS hG hl)
theorem ck_lcmp {x y : Int64} (hd : decode cc pc = .ok (.lcmp, 1)) (k : ck_W cc nL own ret dp mc ms ini gr Q sh h kc ks (pc + 1) lv (.int (lg_cmp x y) :: rest)) : ck_W cc nL own ret dp mc ms ini gr Q sh h kc ks pc lv (.long y :: .long x :: rest) := by
  intro l D cA ad p e R s m args below meth c A H locs ls X hP hD hS hG hl
  obtain ⟨hx, hb, hml, hown, hts, hr, hlk, hK, hN, hA, hR, hin, hSt⟩ := id X
  exact W.lcmp hx hb hd (k l D cA ad p e R s m args below meth c A H locs ls X hP hD hS hG hl)
theorem ck_i2l {x : Int32} (hd : decode cc pc = .ok (.i2l, 1)) (k : ck_W cc nL own ret dp mc ms ini gr Q sh h kc ks (pc + 1) lv (.long x.toInt64 :: rest)) : ck_W cc nL own ret dp mc ms ini gr Q sh h kc ks pc lv (.int x :: rest) := by
  intro l D cA ad p e R s m args below meth c A H locs ls X hP hD hS hG hl
  obtain ⟨hx, hb, hml, hown, hts, hr, hlk, hK, hN, hA, hR, hin, hSt⟩ := id X
  exact lv_i2l hx hb hd rfl (k l D cA ad p e R s m args below meth c A H locs ls X hP hD hS hG hl)
theorem ck_l2i {x : Int64} (hd : decode cc pc = .ok (.l2i, 1)) (k : ck_W cc nL own ret dp mc ms ini gr Q sh h kc ks (pc + 1) lv (.int x.toInt32 :: rest)) : ck_W cc nL own ret dp mc ms ini gr Q sh h kc ks pc lv (.long x :: rest) := by
  intro l D cA ad p e R s m args below meth c A H locs ls X hP hD hS hG hl
  obtain ⟨hx, hb, hml, hown, hts, hr, hlk, hK, hN, hA, hR, hin, hSt⟩ := id X
  exact lv_l2i hx hb hd rfl (k l D cA ad p e R s m args below meth c A H locs ls X hP hD hS hG hl)
theorem ck_i2b {x : Int32} (hd : decode cc pc = .ok (.i2b, 1)) (k : ck_W cc nL own ret dp mc ms ini gr Q sh h kc ks (pc + 1) lv (.int x.toInt8.toInt32 :: rest)) : ck_W cc nL own ret dp mc ms ini gr Q sh h kc ks pc lv (.int x :: rest) := by
  intro l D cA ad p e R s m args below meth c A H locs ls X hP hD hS hG hl
  obtain ⟨hx, hb, hml, hown, hts, hr, hlk, hK, hN, hA, hR, hin, hSt⟩ := id X
  exact lv_i2b hx hb hd rfl (k l D cA ad p e R s m args below meth c A H locs ls X hP hD hS hG hl)
theorem ck_dup {v : Value} (hd : decode cc pc = .ok (.dup, 1)) (hv : v.category = 1) (k : ck_W cc nL own ret dp mc ms ini gr Q sh h kc ks (pc + 1) lv (v :: v :: rest)) : ck_W cc nL own ret dp mc ms ini gr Q sh h kc ks pc lv (v :: rest) := by
  intro l D cA ad p e R s m args below meth c A H locs ls X hP hD hS hG hl
  obtain ⟨hx, hb, hml, hown, hts, hr, hlk, hK, hN, hA, hR, hin, hSt⟩ := id X
  exact lv_dup hx hb hd (by rw [ck_tr_cat]; exact hv) (k l D cA ad p e R s m args below meth c A H locs ls X hP hD hS hG hl)
theorem ck_pop {v : Value} (hd : decode cc pc = .ok (.pop, 1)) (hv : v.category = 1) (k : ck_W cc nL own ret dp mc ms ini gr Q sh h kc ks (pc + 1) lv rest) : ck_W cc nL own ret dp mc ms ini gr Q sh h kc ks pc lv (v :: rest) := by
  intro l D cA ad p e R s m args below meth c A H locs ls X hP hD hS hG hl
  obtain ⟨hx, hb, hml, hown, hts, hr, hlk, hK, hN, hA, hR, hin, hSt⟩ := id X
  exact lv_pop hx hb hd (by rw [ck_tr_cat]; exact hv) (k l D cA ad p e R s m args below meth c A H locs ls X hP hD hS hG hl)
theorem ck_dup2 {v w : Value} (hd : decode cc pc = .ok (.dup2, 1)) (hv : v.category = 1) (hw : w.category = 1) (k : ck_W cc nL own ret dp mc ms ini gr Q sh h kc ks (pc + 1) lv (v :: w :: v :: w :: rest)) : ck_W cc nL own ret dp mc ms ini gr Q sh h kc ks pc lv (v :: w :: rest) := by
  intro l D cA ad p e R s m args below meth c A H locs ls X hP hD hS hG hl
  obtain ⟨hx, hb, hml, hown, hts, hr, hlk, hK, hN, hA, hR, hin, hSt⟩ := id X
  exact lv_dup2_11 hx hb hd (by rw [ck_tr_cat]; exact hv) (by rw [ck_tr_cat]; exact hw) (k l D cA ad p e R s m args below meth c A H locs ls X hP hD hS hG hl)
theorem ck_if_eq {x : Int32} {off : Int} {tgt : Nat} (hd : decode cc pc = .ok (.ifCond .eq off, 3)) (ht : (pc : Int) + off = (tgt : Int)) (kt : x = 0 → ck_W cc nL own ret dp mc ms ini gr Q sh h kc ks tgt lv rest) (kf : ¬ x = 0 → ck_W cc nL own ret dp mc ms ini gr Q sh h kc ks (pc + 3) lv rest) : ck_W cc nL own ret dp mc ms ini gr Q sh h kc ks pc lv (.int x :: rest) := by
  intro l D cA ad p e R s m args below meth c A H locs ls X hP hD hS hG hl
  obtain ⟨hx, hb, hml, hown, hts, hr, hlk, hK, hN, hA, hR, hin, hSt⟩ := id X
  exact lv_if_eq hx hb hd ht (fun q => kt q l D cA ad p e R s m args below meth c A H locs ls X hP hD hS hG hl) (fun q => kf q l D cA ad p e R s m args below meth c A H locs ls X hP hD hS hG hl)
theorem ck_if_ne {x : Int32} {off : Int} {tgt : Nat} (hd : decode cc pc = .ok (.ifCond .ne off, 3)) (ht : (pc : Int) + off = (tgt : Int)) (kt : ¬ x = 0 → ck_W cc nL own ret dp mc ms ini gr Q sh h kc ks tgt lv rest) (kf : x = 0 → ck_W cc nL own ret dp mc ms ini gr Q sh h kc ks (pc + 3) lv rest) : ck_W cc nL own ret dp mc ms ini gr Q sh h kc ks pc lv (.int x :: rest) := by
  intro l D cA ad p e R s m args below meth c A H locs ls X hP hD hS hG hl
  obtain ⟨hx, hb, hml, hown, hts, hr, hlk, hK, hN, hA, hR, hin, hSt⟩ := id X
  exact lv_if_ne hx hb hd ht (fun q => kt q l D cA ad p e R s m args below meth c A H locs ls X hP hD hS hG hl) (fun q => kf q l D cA ad p e R s m args below meth c A H locs ls X hP hD hS hG hl)
theorem ck_if_lt {x : Int32} {off : Int} {tgt : Nat} (hd : decode cc pc = .ok (.ifCond .lt off, 3)) (ht : (pc : Int) + off = (tgt : Int)) (kt : x < 0 → ck_W cc nL own ret dp mc ms ini gr Q sh h kc ks tgt lv rest) (kf : ¬ x < 0 → ck_W cc nL own ret dp mc ms ini gr Q sh h kc ks (pc + 3) lv rest) : ck_W cc nL own ret dp mc ms ini gr Q sh h kc ks pc lv (.int x :: rest) := by
  intro l D cA ad p e R s m args below meth c A H locs ls X hP hD hS hG hl
  obtain ⟨hx, hb, hml, hown, hts, hr, hlk, hK, hN, hA, hR, hin, hSt⟩ := id X
  exact lv_if_lt hx hb hd ht (fun q => kt q l D cA ad p e R s m args below meth c A H locs ls X hP hD hS hG hl) (fun q => kf q l D cA ad p e R s m args below meth c A H locs ls X hP hD hS hG hl)
theorem ck_if_ge {x : Int32} {off : Int} {tgt : Nat} (hd : decode cc pc = .ok (.ifCond .ge off, 3)) (ht : (pc : Int) + off = (tgt : Int)) (kt : 0 ≤ x → ck_W cc nL own ret dp mc ms ini gr Q sh h kc ks tgt lv rest) (kf : ¬ 0 ≤ x → ck_W cc nL own ret dp mc ms ini gr Q sh h kc ks (pc + 3) lv rest) : ck_W cc nL own ret dp mc ms ini gr Q sh h kc ks pc lv (.int x :: rest) := by
  intro l D cA ad p e R s m args below meth c A H locs ls X hP hD hS hG hl
  obtain ⟨hx, hb, hml, hown, hts, hr, hlk, hK, hN, hA, hR, hin, hSt⟩ := id X
  exact lv_if_ge hx hb hd ht (fun q => kt q l D cA ad p e R s m args below meth c A H locs ls X hP hD hS hG hl) (fun q => kf q l D cA ad p e R s m args below meth c A H locs ls X hP hD hS hG hl)
theorem ck_if_gt {x : Int32} {off : Int} {tgt : Nat} (hd : decode cc pc = .ok (.ifCond .gt off, 3)) (ht : (pc : Int) + off = (tgt : Int)) (kt : 0 < x → ck_W cc nL own ret dp mc ms ini gr Q sh h kc ks tgt lv rest) (kf : ¬ 0 < x → ck_W cc nL own ret dp mc ms ini gr Q sh h kc ks (pc + 3) lv rest) : ck_W cc nL own ret dp mc ms ini gr Q sh h kc ks pc lv (.int x :: rest) := by
  intro l D cA ad p e R s m args below meth c A H locs ls X hP hD hS hG hl
  obtain ⟨hx, hb, hml, hown, hts, hr, hlk, hK, hN, hA, hR, hin, hSt⟩ := id X
  exact lv_if_gt hx hb hd ht (fun q => kt q l D cA ad p e R s m args below meth c A H locs ls X hP hD hS hG hl) (fun q => kf q l D cA ad p e R s m args below meth c A H locs ls X hP hD hS hG hl)
theorem ck_if_le {x : Int32} {off : Int} {tgt : Nat} (hd : decode cc pc = .ok (.ifCond .le off, 3)) (ht : (pc : Int) + off = (tgt : Int)) (kt : x ≤ 0 → ck_W cc nL own ret dp mc ms ini gr Q sh h kc ks tgt lv rest) (kf : ¬ x ≤ 0 → ck_W cc nL own ret dp mc ms ini gr Q sh h kc ks (pc + 3) lv rest) : ck_W cc nL own ret dp mc ms ini gr Q sh h kc ks pc lv (.int x :: rest) := by
  intro l D cA ad p e R s m args below meth c A H locs ls X hP hD hS hG hl
  obtain ⟨hx, hb, hml, hown, hts, hr, hlk, hK, hN, hA, hR, hin, hSt⟩ := id X
  exact lv_if_le hx hb hd ht (fun q => kt q l D cA ad p e R s m args below meth c A H locs ls X hP hD hS hG hl) (fun q => kf q l D cA ad p e R s m args below meth c A H locs ls X hP hD hS hG hl)
theorem ck_icmp_eq {x y : Int32} {off : Int} {tgt : Nat} (hd : decode cc pc = .ok (.if_icmp .eq off, 3)) (ht : (pc : Int) + off = (tgt : Int)) (kt : x = y → ck_W cc nL own ret dp mc ms ini gr Q sh h kc ks tgt lv rest) (kf : ¬ x = y → ck_W cc nL own ret dp mc ms ini gr Q sh h kc ks (pc + 3) lv rest) : ck_W cc nL own ret dp mc ms ini gr Q sh h kc ks pc lv (.int y :: .int x :: rest) := by
  intro l D cA ad p e R s m args below meth c A H locs ls X hP hD hS hG hl
  obtain ⟨hx, hb, hml, hown, hts, hr, hlk, hK, hN, hA, hR, hin, hSt⟩ := id X
  exact lv_icmp_eq hx hb hd ht (fun q => kt q l D cA ad p e R s m args below meth c A H locs ls X hP hD hS hG hl) (fun q => kf q l D cA ad p e R s m args below meth c A H locs ls X hP hD hS hG hl)
theorem ck_icmp_ne {x y : Int32} {off : Int} {tgt : Nat} (hd : decode cc pc = .ok (.if_icmp .ne off, 3)) (ht : (pc : Int) + off = (tgt : Int)) (kt : ¬ x = y → ck_W cc nL own ret dp mc ms ini gr Q sh h kc ks tgt lv rest) (kf : x = y → ck_W cc nL own ret dp mc ms ini gr Q sh h kc ks (pc + 3) lv rest) : ck_W cc nL own ret dp mc ms ini gr Q sh h kc ks pc lv (.int y :: .int x :: rest) := by
  intro l D cA ad p e R s m args below meth c A H locs ls X hP hD hS hG hl
  obtain ⟨hx, hb, hml, hown, hts, hr, hlk, hK, hN, hA, hR, hin, hSt⟩ := id X
  exact lv_icmp_ne hx hb hd ht (fun q => kt q l D cA ad p e R s m args below meth c A H locs ls X hP hD hS hG hl) (fun q => kf q l D cA ad p e R s m args below meth c A H locs ls X hP hD hS hG hl)
theorem ck_icmp_lt {x y : Int32} {off : Int} {tgt : Nat} (hd : decode cc pc = .ok (.if_icmp .lt off, 3)) (ht : (pc : Int) + off = (tgt : Int)) (kt : x < y → ck_W cc nL own ret dp mc ms ini gr Q sh h kc ks tgt lv rest) (kf : ¬ x < y → ck_W cc nL own ret dp mc ms ini gr Q sh h kc ks (pc + 3) lv rest) : ck_W cc nL own ret dp mc ms ini gr Q sh h kc ks pc lv (.int y :: .int x :: rest) := by
  intro l D cA ad p e R s m args below meth c A H locs ls X hP hD hS hG hl
  obtain ⟨hx, hb, hml, hown, hts, hr, hlk, hK, hN, hA, hR, hin, hSt⟩ := id X
  exact lv_icmp_lt hx hb hd ht (fun q => kt q l D cA ad p e R s m args below meth c A H locs ls X hP hD hS hG hl) (fun q => kf q l D cA ad p e R s m args below meth c A H locs ls X hP hD hS hG hl)
theorem ck_icmp_ge {x y : Int32} {off : Int} {tgt : Nat} (hd : decode cc pc = .ok (.if_icmp .ge off, 3)) (ht : (pc : Int) + off = (tgt : Int)) (kt : y ≤ x → ck_W cc nL own ret dp mc ms ini gr Q sh h kc ks tgt lv rest) (kf : ¬ y ≤ x → ck_W cc nL own ret dp mc ms ini gr Q sh h kc ks (pc + 3) lv rest) : ck_W cc nL own ret dp mc ms ini gr Q sh h kc ks pc lv (.int y :: .int x :: rest) := by
  intro l D cA ad p e R s m args below meth c A H locs ls X hP hD hS hG hl
  obtain ⟨hx, hb, hml, hown, hts, hr, hlk, hK, hN, hA, hR, hin, hSt⟩ := id X
  exact lv_icmp_ge hx hb hd ht (fun q => kt q l D cA ad p e R s m args below meth c A H locs ls X hP hD hS hG hl) (fun q => kf q l D cA ad p e R s m args below meth c A H locs ls X hP hD hS hG hl)
theorem ck_icmp_gt {x y : Int32} {off : Int} {tgt : Nat} (hd : decode cc pc = .ok (.if_icmp .gt off, 3)) (ht : (pc : Int) + off = (tgt : Int)) (kt : y < x → ck_W cc nL own ret dp mc ms ini gr Q sh h kc ks tgt lv rest) (kf : ¬ y < x → ck_W cc nL own ret dp mc ms ini gr Q sh h kc ks (pc + 3) lv rest) : ck_W cc nL own ret dp mc ms ini gr Q sh h kc ks pc lv (.int y :: .int x :: rest) := by
  intro l D cA ad p e R s m args below meth c A H locs ls X hP hD hS hG hl
  obtain ⟨hx, hb, hml, hown, hts, hr, hlk, hK, hN, hA, hR, hin, hSt⟩ := id X
  exact lv_icmp_gt hx hb hd ht (fun q => kt q l D cA ad p e R s m args below meth c A H locs ls X hP hD hS hG hl) (fun q => kf q l D cA ad p e R s m args below meth c A H locs ls X hP hD hS hG hl)
theorem ck_icmp_le {x y : Int32} {off : Int} {tgt : Nat} (hd : decode cc pc = .ok (.if_icmp .le off, 3)) (ht : (pc : Int) + off = (tgt : Int)) (kt : x ≤ y → ck_W cc nL own ret dp mc ms ini gr Q sh h kc ks tgt lv rest) (kf : ¬ x ≤ y → ck_W cc nL own ret dp mc ms ini gr Q sh h kc ks (pc + 3) lv rest) : ck_W cc nL own ret dp mc ms ini gr Q sh h kc ks pc lv (.int y :: .int x :: rest) := by
  intro l D cA ad p e R s m args below meth c A H locs ls X hP hD hS hG hl
  obtain ⟨hx, hb, hml, hown, hts, hr, hlk, hK, hN, hA, hR, hin, hSt⟩ := id X
  exact lv_icmp_le hx hb hd ht (fun q => kt q l D cA ad p e R s m args below meth c A H locs ls X hP hD hS hG hl) (fun q => kf q l D cA ad p e R s m args below meth c A H locs ls X hP hD hS hG hl)
theorem ck_goto {off : Int} {tgt : Nat} (hd : decode cc pc = .ok (.goto off, 3)) (ht : (pc : Int) + off = (tgt : Int)) (k : ck_W cc nL own ret dp mc ms ini gr Q sh h kc ks tgt lv rest) : ck_W cc nL own ret dp mc ms ini gr Q sh h kc ks pc lv rest := by
  intro l D cA ad p e R s m args below meth c A H locs ls X hP hD hS hG hl
  obtain ⟨hx, hb, hml, hown, hts, hr, hlk, hK, hN, hA, hR, hin, hSt⟩ := id X
  exact lv_goto hx hb hd ht (k l D cA ad p e R s m args below meth c A H locs ls X hP hD hS hG hl)
theorem ck_tabOut {dflt lo hi : Int} {offs : Array Int} {len : Nat} {x : Int32} {tgt : Nat} (hd : decode cc pc = .ok (.tableswitch dflt lo hi offs, len)) (hx9 : x.toInt < lo ∨ hi < x.toInt) (ht : (pc : Int) + dflt = (tgt : Int)) (k : ck_W cc nL own ret dp mc ms ini gr Q sh h kc ks tgt lv rest) : ck_W cc nL own ret dp mc ms ini gr Q sh h kc ks pc lv (.int x :: rest) := by
  intro l D cA ad p e R s m args below meth c A H locs ls X hP hD hS hG hl
  obtain ⟨hx, hb, hml, hown, hts, hr, hlk, hK, hN, hA, hR, hin, hSt⟩ := id X
  exact lv_tableOut hx hb hd hx9 ht (k l D cA ad p e R s m args below meth c A H locs ls X hP hD hS hG hl)
theorem ck_tabIn {dflt lo hi : Int} {offs : Array Int} {len : Nat} {x : Int32} {off : Int} {tgt : Nat} (hd : decode cc pc = .ok (.tableswitch dflt lo hi offs, len)) (h1 : ¬ x.toInt < lo) (h2 : ¬ hi < x.toInt) (ho : offs[(x.toInt - lo).toNat]? = some off) (ht : (pc : Int) + off = (tgt : Int)) (k : ck_W cc nL own ret dp mc ms ini gr Q sh h kc ks tgt lv rest) : ck_W cc nL own ret dp mc ms ini gr Q sh h kc ks pc lv (.int x :: rest) := by
  intro l D cA ad p e R s m args below meth c A H locs ls X hP hD hS hG hl
  obtain ⟨hx, hb, hml, hown, hts, hr, hlk, hK, hN, hA, hR, hin, hSt⟩ := id X
  exact lv_tableIn hx hb hd h1 h2 ho ht (k l D cA ad p e R s m args below meth c A H locs ls X hP hD hS hG hl)
theorem ck_lookup {dflt : Int} {ps : Array (Int × Int)} {len : Nat} {x : Int32} {off : Int} {tgt : Nat} (hd : decode cc pc = .ok (.lookupswitch dflt ps, len)) (hp : (ps.toList.zip (ps.toList.drop 1)).all (fun (a, next) => a.1 < next.1) = true) (ho : Op.lookupswitch.offset ps.toList dflt x.toInt = off) (ht : (pc : Int) + off = (tgt : Int)) (k : ck_W cc nL own ret dp mc ms ini gr Q sh h kc ks tgt lv rest) : ck_W cc nL own ret dp mc ms ini gr Q sh h kc ks pc lv (.int x :: rest) := by
  intro l D cA ad p e R s m args below meth c A H locs ls X hP hD hS hG hl
  obtain ⟨hx, hb, hml, hown, hts, hr, hlk, hK, hN, hA, hR, hin, hSt⟩ := id X
  exact lv_lookup hx hb hd hp ho ht (k l D cA ad p e R s m args below meth c A H locs ls X hP hD hS hG hl)
end CKR
def ck_cls (ci : Nat) (C : String) (T : u_T) (N : Nat) (ty0 : Nat → FieldType) : Prop := vwCl[ci]? = some (C, T, N) ∧ (∀ w ∈ u_ws C T N, w ∈ ck_T) ∧ (∀ k, k < N → parseFieldDescriptor (T k).2.2.1 = some (ty0 k)) ∧ (∀ a, a < N → ∀ b, b < N → a ≠ b → (T a).2.1 ≠ (T b).2.1) ∧ Cond.instantiable C N ∈ ck_T ∧ Cond.initialized C ∈ ck_T
section CKO
variable {cc : ByteArray} {nL : Nat} {own : String} {ret : Option FieldType} {dp mc ms : Nat} {ini gr : Bool} {Q : Option Value → List ck_C → ck_H → Prop} {sh : List ck_C} {h : ck_H} {kc ks pc : Nat} {lv : List (Nat × Value)} {rest : List Value}
variable {a ci idx N : Nat} {fs : List ck_F} {C : String} {T : u_T} {ty0 : Nat → FieldType} {ro : Option Nat} {host : String}
theorem ck_getI (hc : ck_cls ci C T N ty0) (j : Nat) (hs : sh[a]? = some (.inl (ci, fs))) (hf : fs[j]? = some (0, ro)) (hj : j < N) (hlink : Cond.fieldLink own idx (T j).1 (T j).2.1 (T j).2.2.1 ∈ ck_T) (hd : decode cc pc = .ok (.getfield idx, 3)) (k : ck_W cc nL own ret dp mc ms ini gr Q sh h kc ks (pc + 3) lv (.int (h.1 a j) :: rest)) : ck_W cc nL own ret dp mc ms ini gr Q sh h kc ks pc lv (.ref a :: rest) := by
  intro l D cA ad p e R s m args below meth c A H locs ls X hP hD hS hG hl
  obtain ⟨hx, hb, hml, hown, hts, hr, hlk, hK, hN, hA, hR, hin, hSt⟩ := id X
  exact va_get (v := ck_tr ad (.int (h.1 a j))) hx hb hts hc.2.1 hown hK hP a (ck_wd_at hs) hc.1 j hj (hts _ hlink) (fun _ q => q) (ck_fs_at hf) hd (k l D cA ad p e R s m args below meth c A H locs ls X hP hD hS hG hl)
theorem ck_getL (hc : ck_cls ci C T N ty0) (j : Nat) (hs : sh[a]? = some (.inl (ci, fs))) (hf : fs[j]? = some (1, ro)) (hj : j < N) (hlink : Cond.fieldLink own idx (T j).1 (T j).2.1 (T j).2.2.1 ∈ ck_T) (hd : decode cc pc = .ok (.getfield idx, 3)) (k : ck_W cc nL own ret dp mc ms ini gr Q sh h kc ks (pc + 3) lv (.long (h.2 a j) :: rest)) : ck_W cc nL own ret dp mc ms ini gr Q sh h kc ks pc lv (.ref a :: rest) := by
  intro l D cA ad p e R s m args below meth c A H locs ls X hP hD hS hG hl
  obtain ⟨hx, hb, hml, hown, hts, hr, hlk, hK, hN, hA, hR, hin, hSt⟩ := id X
  exact va_get (v := ck_tr ad (.long (h.2 a j))) hx hb hts hc.2.1 hown hK hP a (ck_wd_at hs) hc.1 j hj (hts _ hlink) (fun _ q => q) (ck_fs_at hf) hd (k l D cA ad p e R s m args below meth c A H locs ls X hP hD hS hG hl)
theorem ck_getR {b : Nat} (hc : ck_cls ci C T N ty0) (j : Nat) (hs : sh[a]? = some (.inl (ci, fs))) (hf : fs[j]? = some (2, some b)) (hj : j < N) (hlink : Cond.fieldLink own idx (T j).1 (T j).2.1 (T j).2.2.1 ∈ ck_T) (hd : decode cc pc = .ok (.getfield idx, 3)) (k : ck_W cc nL own ret dp mc ms ini gr Q sh h kc ks (pc + 3) lv (.ref b :: rest)) : ck_W cc nL own ret dp mc ms ini gr Q sh h kc ks pc lv (.ref a :: rest) := by
  intro l D cA ad p e R s m args below meth c A H locs ls X hP hD hS hG hl
  obtain ⟨hx, hb, hml, hown, hts, hr, hlk, hK, hN, hA, hR, hin, hSt⟩ := id X
  exact va_get (v := ck_tr ad (.ref b)) hx hb hts hc.2.1 hown hK hP a (ck_wd_at hs) hc.1 j hj (hts _ hlink) (fun _ q => q) (ck_fs_at hf) hd (k l D cA ad p e R s m args below meth c A H locs ls X hP hD hS hG hl)
theorem ck_getIN (hc : ck_cls ci C T N ty0) (j : Nat) (hs : sh[a]? = some (.inl (ci, fs))) (hf : fs[j]? = some (0, ro)) (hj : j < N) (hlink : Cond.fieldLinkNest own idx (T j).1 (T j).2.1 (T j).2.2.1 host ∈ ck_N) (hd : decode cc pc = .ok (.getfield idx, 3)) (k : ck_W cc nL own ret dp mc ms ini gr Q sh h kc ks (pc + 3) lv (.int (h.1 a j) :: rest)) : ck_W cc nL own ret dp mc ms ini gr Q sh h kc ks pc lv (.ref a :: rest) := by
  intro l D cA ad p e R s m args below meth c A H locs ls X hP hD hS hG hl
  obtain ⟨hx, hb, hml, hown, hts, hr, hlk, hK, hN, hA, hR, hin, hSt⟩ := id X
  exact va_getN (v := ck_tr ad (.int (h.1 a j))) hx hb hts hc.2.1 hown hK hP a (ck_wd_at hs) hc.1 j hj (va_Nw.use rfl (hN _ hlink)) (fun _ q => q) (ck_fs_at hf) hd (k l D cA ad p e R s m args below meth c A H locs ls X hP hD hS hG hl)
theorem ck_getLN (hc : ck_cls ci C T N ty0) (j : Nat) (hs : sh[a]? = some (.inl (ci, fs))) (hf : fs[j]? = some (1, ro)) (hj : j < N) (hlink : Cond.fieldLinkNest own idx (T j).1 (T j).2.1 (T j).2.2.1 host ∈ ck_N) (hd : decode cc pc = .ok (.getfield idx, 3)) (k : ck_W cc nL own ret dp mc ms ini gr Q sh h kc ks (pc + 3) lv (.long (h.2 a j) :: rest)) : ck_W cc nL own ret dp mc ms ini gr Q sh h kc ks pc lv (.ref a :: rest) := by
  intro l D cA ad p e R s m args below meth c A H locs ls X hP hD hS hG hl
  obtain ⟨hx, hb, hml, hown, hts, hr, hlk, hK, hN, hA, hR, hin, hSt⟩ := id X
  exact va_getN (v := ck_tr ad (.long (h.2 a j))) hx hb hts hc.2.1 hown hK hP a (ck_wd_at hs) hc.1 j hj (va_Nw.use rfl (hN _ hlink)) (fun _ q => q) (ck_fs_at hf) hd (k l D cA ad p e R s m args below meth c A H locs ls X hP hD hS hG hl)
theorem ck_getRN {b : Nat} (hc : ck_cls ci C T N ty0) (j : Nat) (hs : sh[a]? = some (.inl (ci, fs))) (hf : fs[j]? = some (2, some b)) (hj : j < N) (hlink : Cond.fieldLinkNest own idx (T j).1 (T j).2.1 (T j).2.2.1 host ∈ ck_N) (hd : decode cc pc = .ok (.getfield idx, 3)) (k : ck_W cc nL own ret dp mc ms ini gr Q sh h kc ks (pc + 3) lv (.ref b :: rest)) : ck_W cc nL own ret dp mc ms ini gr Q sh h kc ks pc lv (.ref a :: rest) := by
  intro l D cA ad p e R s m args below meth c A H locs ls X hP hD hS hG hl
  obtain ⟨hx, hb, hml, hown, hts, hr, hlk, hK, hN, hA, hR, hin, hSt⟩ := id X
  exact va_getN (v := ck_tr ad (.ref b)) hx hb hts hc.2.1 hown hK hP a (ck_wd_at hs) hc.1 j hj (va_Nw.use rfl (hN _ hlink)) (fun _ q => q) (ck_fs_at hf) hd (k l D cA ad p e R s m args below meth c A H locs ls X hP hD hS hG hl)
theorem ck_putI {v : Int32} (hc : ck_cls ci C T N ty0) (j : Nat) (hs : sh[a]? = some (.inl (ci, fs))) (hf : fs[j]? = some (0, ro)) (hj : j < N) (hlink : Cond.fieldLink own idx (T j).1 (T j).2.1 (T j).2.2.1 ∈ ck_T) (hfin : (T j).2.2.2 = false) (hn : narrow (ty0 j) (.int v) = .int v) (hfit : fits (ty0 j) (.int v) = true) (hd : decode cc pc = .ok (.putfield idx, 3)) (k : ck_W cc nL own ret dp mc ms ini gr Q sh (ck_sI h a j v) kc ks (pc + 3) lv rest) : ck_W cc nL own ret dp mc ms ini gr Q sh h kc ks pc lv (.int v :: .ref a :: rest) := by
  intro l D cA ad p e R s m args below meth c A H locs ls X hP hD hS hG hl
  obtain ⟨hx, hb, hml, hown, hts, hr, hlk, hK, hN, hA, hR, hin, hSt⟩ := id X
  have hl9 : j < fs.length := (List.getElem?_eq_some_iff.mp hf).1
  have EQ : ck_wd ad cA (ck_sI h a j v) sh = (ck_wd ad cA h sh).set a (ad a, .inr (ci, (ck_fs ad h a fs).set j (.int v))) := by
    rw [ck_wd_same hs ck_sI_off]
    show (ck_wd ad cA h sh).set a (ad a, .inr (ci, ck_fs ad (ck_sI h a j v) a fs)) = _
    rw [ck_fs_sI hf]
  refine va_put (v := .int v) hx hb hts hc.2.1 ty0 hc.2.2.1 hc.2.2.2.1 hown hK hP hD hS a (ck_wd_at hs) hc.1 j hj (hts _ hlink) (fun _ q => q) hfin (hc.2.2.1 j hj) hn hfit (by simpa [ck_fs] using hl9) hd (fun H1 locs1 hP1 hD1 hS1 => ?_)
  rw [← EQ] at hP1 hD1
  exact k l D cA ad p e R s m args below meth c A H1 locs1 ls X hP1 hD1 hS1 hG hl
theorem ck_putL {v : Int64} (hc : ck_cls ci C T N ty0) (j : Nat) (hs : sh[a]? = some (.inl (ci, fs))) (hf : fs[j]? = some (1, ro)) (hj : j < N) (hlink : Cond.fieldLink own idx (T j).1 (T j).2.1 (T j).2.2.1 ∈ ck_T) (hfin : (T j).2.2.2 = false) (hn : narrow (ty0 j) (.long v) = .long v) (hfit : fits (ty0 j) (.long v) = true) (hd : decode cc pc = .ok (.putfield idx, 3)) (k : ck_W cc nL own ret dp mc ms ini gr Q sh (ck_sL h a j v) kc ks (pc + 3) lv rest) : ck_W cc nL own ret dp mc ms ini gr Q sh h kc ks pc lv (.long v :: .ref a :: rest) := by
  intro l D cA ad p e R s m args below meth c A H locs ls X hP hD hS hG hl
  obtain ⟨hx, hb, hml, hown, hts, hr, hlk, hK, hN, hA, hR, hin, hSt⟩ := id X
  have hl9 : j < fs.length := (List.getElem?_eq_some_iff.mp hf).1
  have EQ : ck_wd ad cA (ck_sL h a j v) sh = (ck_wd ad cA h sh).set a (ad a, .inr (ci, (ck_fs ad h a fs).set j (.long v))) := by
    rw [ck_wd_same hs ck_sL_off]
    show (ck_wd ad cA h sh).set a (ad a, .inr (ci, ck_fs ad (ck_sL h a j v) a fs)) = _
    rw [ck_fs_sL hf]
  refine va_put (v := .long v) hx hb hts hc.2.1 ty0 hc.2.2.1 hc.2.2.2.1 hown hK hP hD hS a (ck_wd_at hs) hc.1 j hj (hts _ hlink) (fun _ q => q) hfin (hc.2.2.1 j hj) hn hfit (by simpa [ck_fs] using hl9) hd (fun H1 locs1 hP1 hD1 hS1 => ?_)
  rw [← EQ] at hP1 hD1
  exact k l D cA ad p e R s m args below meth c A H1 locs1 ls X hP1 hD1 hS1 hG hl
theorem ck_putIN {v : Int32} (hc : ck_cls ci C T N ty0) (j : Nat) (hs : sh[a]? = some (.inl (ci, fs))) (hf : fs[j]? = some (0, ro)) (hj : j < N) (hlink : Cond.fieldLinkNest own idx (T j).1 (T j).2.1 (T j).2.2.1 host ∈ ck_N) (hfin : (T j).2.2.2 = false) (hn : narrow (ty0 j) (.int v) = .int v) (hfit : fits (ty0 j) (.int v) = true) (hd : decode cc pc = .ok (.putfield idx, 3)) (k : ck_W cc nL own ret dp mc ms ini gr Q sh (ck_sI h a j v) kc ks (pc + 3) lv rest) : ck_W cc nL own ret dp mc ms ini gr Q sh h kc ks pc lv (.int v :: .ref a :: rest) := by
  intro l D cA ad p e R s m args below meth c A H locs ls X hP hD hS hG hl
  obtain ⟨hx, hb, hml, hown, hts, hr, hlk, hK, hN, hA, hR, hin, hSt⟩ := id X
  have hl9 : j < fs.length := (List.getElem?_eq_some_iff.mp hf).1
  have EQ : ck_wd ad cA (ck_sI h a j v) sh = (ck_wd ad cA h sh).set a (ad a, .inr (ci, (ck_fs ad h a fs).set j (.int v))) := by
    rw [ck_wd_same hs ck_sI_off]
    show (ck_wd ad cA h sh).set a (ad a, .inr (ci, ck_fs ad (ck_sI h a j v) a fs)) = _
    rw [ck_fs_sI hf]
  refine va_putN (v := .int v) hx hb hts hc.2.1 ty0 hc.2.2.1 hc.2.2.2.1 hown hK hP hD hS a (ck_wd_at hs) hc.1 j hj (va_Nw.use rfl (hN _ hlink)) (fun _ q => q) hfin (hc.2.2.1 j hj) hn hfit (by simpa [ck_fs] using hl9) hd (fun H1 locs1 hP1 hD1 hS1 => ?_)
  rw [← EQ] at hP1 hD1
  exact k l D cA ad p e R s m args below meth c A H1 locs1 ls X hP1 hD1 hS1 hG hl
theorem ck_putLN {v : Int64} (hc : ck_cls ci C T N ty0) (j : Nat) (hs : sh[a]? = some (.inl (ci, fs))) (hf : fs[j]? = some (1, ro)) (hj : j < N) (hlink : Cond.fieldLinkNest own idx (T j).1 (T j).2.1 (T j).2.2.1 host ∈ ck_N) (hfin : (T j).2.2.2 = false) (hn : narrow (ty0 j) (.long v) = .long v) (hfit : fits (ty0 j) (.long v) = true) (hd : decode cc pc = .ok (.putfield idx, 3)) (k : ck_W cc nL own ret dp mc ms ini gr Q sh (ck_sL h a j v) kc ks (pc + 3) lv rest) : ck_W cc nL own ret dp mc ms ini gr Q sh h kc ks pc lv (.long v :: .ref a :: rest) := by
  intro l D cA ad p e R s m args below meth c A H locs ls X hP hD hS hG hl
  obtain ⟨hx, hb, hml, hown, hts, hr, hlk, hK, hN, hA, hR, hin, hSt⟩ := id X
  have hl9 : j < fs.length := (List.getElem?_eq_some_iff.mp hf).1
  have EQ : ck_wd ad cA (ck_sL h a j v) sh = (ck_wd ad cA h sh).set a (ad a, .inr (ci, (ck_fs ad h a fs).set j (.long v))) := by
    rw [ck_wd_same hs ck_sL_off]
    show (ck_wd ad cA h sh).set a (ad a, .inr (ci, ck_fs ad (ck_sL h a j v) a fs)) = _
    rw [ck_fs_sL hf]
  refine va_putN (v := .long v) hx hb hts hc.2.1 ty0 hc.2.2.1 hc.2.2.2.1 hown hK hP hD hS a (ck_wd_at hs) hc.1 j hj (va_Nw.use rfl (hN _ hlink)) (fun _ q => q) hfin (hc.2.2.1 j hj) hn hfit (by simpa [ck_fs] using hl9) hd (fun H1 locs1 hP1 hD1 hS1 => ?_)
  rw [← EQ] at hP1 hD1
  exact k l D cA ad p e R s m args below meth c A H1 locs1 ls X hP1 hD1 hS1 hG hl
end CKO
