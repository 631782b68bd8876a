section CKP
variable {cc : ByteArray} {nL : Nat} {own : String} {ret : Option FieldType} {dp mc ms : Nat} {ini gr : Bool} {Q : Option Value → List ck_C → ck_H → Prop} {sh : List ck_C} {h : ck_H} {kc ks pc : Nat} {lv : List (Nat × Value)} {rest : List Value}
variable {a ci idx N : Nat} {fs : List ck_F} {C : String} {T : u_T} {ty0 : Nat → FieldType} {ro : Option Nat} {host : String}
theorem ck_putR {b : Nat} {d9 : ck_F} {sh' : List ck_C} (hc : ck_cls ci C T N ty0) (j : Nat) (hs : sh[a]? = some (.inl (ci, fs))) (hf : fs[j]? = some d9) (hj : j < N) (hlink : Cond.fieldLink own idx (T j).1 (T j).2.1 (T j).2.2.1 ∈ ck_T) (hfin : (T j).2.2.2 = false) (hn : ∀ x : Nat, narrow (ty0 j) (.ref x) = .ref x) (hfit : ∀ x : Nat, fits (ty0 j) (.ref x) = true) (hsh : sh.set a (.inl (ci, fs.set j (2, some b))) = sh') (hd : decode cc pc = .ok (.putfield idx, 3)) (k : ck_W cc nL own ret dp mc ms ini gr Q sh' h kc ks (pc + 3) lv rest) : ck_W cc nL own ret dp mc ms ini gr Q sh h kc ks pc lv (.ref b :: .ref a :: rest) := by
  intro l D cA ad p e R s m args below meth c A H locs ls X hP hD hS hG hl
  obtain ⟨hx, hb, hml, hown, hts, hr, hlk, hK, hN, hA, hR, hin, hSt⟩ := id X
  have hl9 : j < fs.length := (List.getElem?_eq_some_iff.mp hf).1
  have EQ : ck_wd ad cA h sh' = (ck_wd ad cA h sh).set a (ad a, .inr (ci, (ck_fs ad h a fs).set j (.ref (ad b)))) := by
    rw [← hsh, ck_wd_set hs (fun _ _ _ => rfl)]
    show (ck_wd ad cA h sh).set a (ad a, .inr (ci, ck_fs ad h a (fs.set j (2, some b)))) = _
    rw [ck_fs_R hf]
    rfl
  refine va_put (v := .ref (ad b)) hx hb hts hc.2.1 ty0 hc.2.2.1 hc.2.2.2.1 hown hK hP hD hS a (ck_wd_at hs) hc.1 j hj (hts _ hlink) (fun _ q => q) hfin (hc.2.2.1 j hj) (hn _) (hfit _) (by simpa [ck_fs] using hl9) hd (fun H1 locs1 hP1 hD1 hS1 => ?_)
  rw [← EQ] at hP1 hD1
  exact k l D cA ad p e R s m args below meth c A H1 locs1 ls X hP1 hD1 hS1 (fun q => ⟨(hG q).1, by rw [← hsh, List.length_set]; exact (hG q).2.1, by rw [← hsh, List.length_set]; exact (hG q).2.2.1, by rw [← hsh, List.length_set]; exact (hG q).2.2.2⟩) hl
theorem ck_putRN {b : Nat} {d9 : ck_F} {sh' : List ck_C} (hc : ck_cls ci C T N ty0) (j : Nat) (hs : sh[a]? = some (.inl (ci, fs))) (hf : fs[j]? = some d9) (hj : j < N) (hlink : Cond.fieldLinkNest own idx (T j).1 (T j).2.1 (T j).2.2.1 host ∈ ck_N) (hfin : (T j).2.2.2 = false) (hn : ∀ x : Nat, narrow (ty0 j) (.ref x) = .ref x) (hfit : ∀ x : Nat, fits (ty0 j) (.ref x) = true) (hsh : sh.set a (.inl (ci, fs.set j (2, some b))) = sh') (hd : decode cc pc = .ok (.putfield idx, 3)) (k : ck_W cc nL own ret dp mc ms ini gr Q sh' h kc ks (pc + 3) lv rest) : ck_W cc nL own ret dp mc ms ini gr Q sh h kc ks pc lv (.ref b :: .ref a :: rest) := by
  intro l D cA ad p e R s m args below meth c A H locs ls X hP hD hS hG hl
  obtain ⟨hx, hb, hml, hown, hts, hr, hlk, hK, hN, hA, hR, hin, hSt⟩ := id X
  have hl9 : j < fs.length := (List.getElem?_eq_some_iff.mp hf).1
  have EQ : ck_wd ad cA h sh' = (ck_wd ad cA h sh).set a (ad a, .inr (ci, (ck_fs ad h a fs).set j (.ref (ad b)))) := by
    rw [← hsh, ck_wd_set hs (fun _ _ _ => rfl)]
    show (ck_wd ad cA h sh).set a (ad a, .inr (ci, ck_fs ad h a (fs.set j (2, some b)))) = _
    rw [ck_fs_R hf]
    rfl
  refine va_putN (v := .ref (ad b)) hx hb hts hc.2.1 ty0 hc.2.2.1 hc.2.2.2.1 hown hK hP hD hS a (ck_wd_at hs) hc.1 j hj (va_Nw.use rfl (hN _ hlink)) (fun _ q => q) hfin (hc.2.2.1 j hj) (hn _) (hfit _) (by simpa [ck_fs] using hl9) hd (fun H1 locs1 hP1 hD1 hS1 => ?_)
  rw [← EQ] at hP1 hD1
  exact k l D cA ad p e R s m args below meth c A H1 locs1 ls X hP1 hD1 hS1 (fun q => ⟨(hG q).1, by rw [← hsh, List.length_set]; exact (hG q).2.1, by rw [← hsh, List.length_set]; exact (hG q).2.2.1, by rw [← hsh, List.length_set]; exact (hG q).2.2.2⟩) hl
theorem ck_putRF {b : Nat} {d9 : ck_F} {sh' : List ck_C} (hc : ck_cls ci C T N ty0) (j : Nat) (hs : sh[a]? = some (.inl (ci, fs))) (hf : fs[j]? = some d9) (hj : j < N) (hlink : Cond.fieldLink own idx (T j).1 (T j).2.1 (T j).2.2.1 ∈ ck_T) (hfin : (T j).2.2.2 = true) (hini : ini = true) (hdecl : (T j).1 = own) (hn : ∀ x : Nat, narrow (ty0 j) (.ref x) = .ref x) (hfit : ∀ x : Nat, fits (ty0 j) (.ref x) = true) (hsh : sh.set a (.inl (ci, fs.set j (2, some b))) = sh') (hd : decode cc pc = .ok (.putfield idx, 3)) (k : ck_W cc nL own ret dp mc ms ini gr Q sh' h kc ks (pc + 3) lv rest) : ck_W cc nL own ret dp mc ms ini gr Q sh h kc ks pc lv (.ref b :: .ref a :: rest) := by
  intro l D cA ad p e R s m args below meth c A H locs ls X hP hD hS hG hl
  obtain ⟨hx, hb, hml, hown, hts, hr, hlk, hK, hN, hA, hR, hin, hSt⟩ := id X
  have hl9 : j < fs.length := (List.getElem?_eq_some_iff.mp hf).1
  have EQ : ck_wd ad cA h sh' = (ck_wd ad cA h sh).set a (ad a, .inr (ci, (ck_fs ad h a fs).set j (.ref (ad b)))) := by
    rw [← hsh, ck_wd_set hs (fun _ _ _ => rfl)]
    show (ck_wd ad cA h sh).set a (ad a, .inr (ci, ck_fs ad h a (fs.set j (2, some b)))) = _
    rw [ck_fs_R hf]
    rfl
  refine va_putF (v := .ref (ad b)) hx hb hts hc.2.1 ty0 hc.2.2.1 hc.2.2.2.1 hown hK hP hD hS a (ck_wd_at hs) hc.1 j hj (hts _ hlink) (fun _ q => q) hfin (hin hini) hdecl (hc.2.2.1 j hj) (hn _) (hfit _) (by simpa [ck_fs] using hl9) hd (fun H1 locs1 hP1 hD1 hS1 => ?_)
  rw [← EQ] at hP1 hD1
  exact k l D cA ad p e R s m args below meth c A H1 locs1 ls X hP1 hD1 hS1 (fun q => ⟨(hG q).1, by rw [← hsh, List.length_set]; exact (hG q).2.1, by rw [← hsh, List.length_set]; exact (hG q).2.2.1, by rw [← hsh, List.length_set]; exact (hG q).2.2.2⟩) hl
variable {n : Nat}
theorem ck_iald {i : Int32} {j : Nat} (hij : i.toNatClampNeg = j) (hs : sh[a]? = some (.inr (0, n))) (hi : vp_in i n) (hd : decode cc pc = .ok (.iaload, 1)) (k : ck_W cc nL own ret dp mc ms ini gr Q sh h kc ks (pc + 1) lv (.int (h.1 a j) :: rest)) : ck_W cc nL own ret dp mc ms ini gr Q sh h kc ks pc lv (.int i :: .ref a :: rest) := by
  intro l D cA ad p e R s m args below meth c A H locs ls X hP hD hS hG hl
  obtain ⟨hx, hb, hml, hown, hts, hr, hlk, hK, hN, hA, hR, hin, hSt⟩ := id X
  subst hij
  exact va_iald hx hb hK hP a 0 (ck_wd_at hs) rfl hi hd (k l D cA ad p e R s m args below meth c A H locs ls X hP hD hS hG hl)
theorem ck_bald {i : Int32} {j : Nat} (hij : i.toNatClampNeg = j) (hs : sh[a]? = some (.inr (1, n))) (hi : vp_in i n) (hd : decode cc pc = .ok (.baload, 1)) (k : ck_W cc nL own ret dp mc ms ini gr Q sh h kc ks (pc + 1) lv (.int (h.1 a j) :: rest)) : ck_W cc nL own ret dp mc ms ini gr Q sh h kc ks pc lv (.int i :: .ref a :: rest) := by
  intro l D cA ad p e R s m args below meth c A H locs ls X hP hD hS hG hl
  obtain ⟨hx, hb, hml, hown, hts, hr, hlk, hK, hN, hA, hR, hin, hSt⟩ := id X
  subst hij
  exact va_bald hx hb hK hP a 1 (ck_wd_at hs) rfl hi hd (k l D cA ad p e R s m args below meth c A H locs ls X hP hD hS hG hl)
theorem ck_zald {i : Int32} {j : Nat} (hij : i.toNatClampNeg = j) (hs : sh[a]? = some (.inr (2, n))) (hi : vp_in i n) (hd : decode cc pc = .ok (.baload, 1)) (k : ck_W cc nL own ret dp mc ms ini gr Q sh h kc ks (pc + 1) lv (.int (h.1 a j) :: rest)) : ck_W cc nL own ret dp mc ms ini gr Q sh h kc ks pc lv (.int i :: .ref a :: rest) := by
  intro l D cA ad p e R s m args below meth c A H locs ls X hP hD hS hG hl
  obtain ⟨hx, hb, hml, hown, hts, hr, hlk, hK, hN, hA, hR, hin, hSt⟩ := id X
  subst hij
  exact va_zald hx hb hK hP a 2 (ck_wd_at hs) rfl hi hd (k l D cA ad p e R s m args below meth c A H locs ls X hP hD hS hG hl)
theorem ck_lald {i : Int32} {j : Nat} (hij : i.toNatClampNeg = j) (hs : sh[a]? = some (.inr (3, n))) (hi : vp_in i n) (hd : decode cc pc = .ok (.laload, 1)) (k : ck_W cc nL own ret dp mc ms ini gr Q sh h kc ks (pc + 1) lv (.long (h.2 a j) :: rest)) : ck_W cc nL own ret dp mc ms ini gr Q sh h kc ks pc lv (.int i :: .ref a :: rest) := by
  intro l D cA ad p e R s m args below meth c A H locs ls X hP hD hS hG hl
  obtain ⟨hx, hb, hml, hown, hts, hr, hlk, hK, hN, hA, hR, hin, hSt⟩ := id X
  subst hij
  exact va_lald hx hb hK hP a 3 (ck_wd_at hs) rfl hi hd (k l D cA ad p e R s m args below meth c A H locs ls X hP hD hS hG hl)
theorem ck_iast {i : Int32} {j : Nat} {x : Int32} (hij : i.toNatClampNeg = j) (hs : sh[a]? = some (.inr (0, n))) (hi : vp_in i n) (hd : decode cc pc = .ok (.iastore, 1)) (k : ck_W cc nL own ret dp mc ms ini gr Q sh (ck_sI h a j x) kc ks (pc + 1) lv rest) : ck_W cc nL own ret dp mc ms ini gr Q sh h kc ks pc lv (.int x :: .int i :: .ref a :: rest) := by
  intro l D cA ad p e R s m args below meth c A H locs ls X hP hD hS hG hl
  obtain ⟨hx, hb, hml, hown, hts, hr, hlk, hK, hN, hA, hR, hin, hSt⟩ := id X
  subst hij
  have EQ : ck_wd ad cA (ck_sI h a i.toNatClampNeg x) sh = (ck_wd ad cA h sh).set a (ad a, .inl (cA 0, n, .inl (upd (h.1 a) i.toNatClampNeg x))) := by
    rw [ck_wd_same hs ck_sI_off]
    simp [ck_cv, ck_sI]
  refine va_iast hx hb hK hP hD hS a 0 (ck_wd_at hs) rfl hi hd (fun H1 locs1 hP1 hD1 hS1 => ?_)
  rw [← EQ] at hP1 hD1
  exact k l D cA ad p e R s m args below meth c A H1 locs1 ls X hP1 hD1 hS1 hG hl
theorem ck_bast {i : Int32} {j : Nat} {x : Int32} (hij : i.toNatClampNeg = j) (hs : sh[a]? = some (.inr (1, n))) (hi : vp_in i n) (hd : decode cc pc = .ok (.bastore, 1)) (k : ck_W cc nL own ret dp mc ms ini gr Q sh (ck_sI h a j (vp_nar .byte x)) kc ks (pc + 1) lv rest) : ck_W cc nL own ret dp mc ms ini gr Q sh h kc ks pc lv (.int x :: .int i :: .ref a :: rest) := by
  intro l D cA ad p e R s m args below meth c A H locs ls X hP hD hS hG hl
  obtain ⟨hx, hb, hml, hown, hts, hr, hlk, hK, hN, hA, hR, hin, hSt⟩ := id X
  subst hij
  have EQ : ck_wd ad cA (ck_sI h a i.toNatClampNeg (vp_nar .byte x)) sh = (ck_wd ad cA h sh).set a (ad a, .inl (cA 1, n, .inl (upd (h.1 a) i.toNatClampNeg (vp_nar .byte x)))) := by
    rw [ck_wd_same hs ck_sI_off]
    simp [ck_cv, ck_sI]
  refine va_bast hx hb hK hP hD hS a 1 (ck_wd_at hs) rfl hi hd (fun H1 locs1 hP1 hD1 hS1 => ?_)
  rw [← EQ] at hP1 hD1
  exact k l D cA ad p e R s m args below meth c A H1 locs1 ls X hP1 hD1 hS1 hG hl
theorem ck_zast {i : Int32} {j : Nat} {x : Int32} (hij : i.toNatClampNeg = j) (hs : sh[a]? = some (.inr (2, n))) (hi : vp_in i n) (hd : decode cc pc = .ok (.bastore, 1)) (k : ck_W cc nL own ret dp mc ms ini gr Q sh (ck_sI h a j (vp_nar .boolean x)) kc ks (pc + 1) lv rest) : ck_W cc nL own ret dp mc ms ini gr Q sh h kc ks pc lv (.int x :: .int i :: .ref a :: rest) := by
  intro l D cA ad p e R s m args below meth c A H locs ls X hP hD hS hG hl
  obtain ⟨hx, hb, hml, hown, hts, hr, hlk, hK, hN, hA, hR, hin, hSt⟩ := id X
  subst hij
  have EQ : ck_wd ad cA (ck_sI h a i.toNatClampNeg (vp_nar .boolean x)) sh = (ck_wd ad cA h sh).set a (ad a, .inl (cA 2, n, .inl (upd (h.1 a) i.toNatClampNeg (vp_nar .boolean x)))) := by
    rw [ck_wd_same hs ck_sI_off]
    simp [ck_cv, ck_sI]
  refine va_zast hx hb hK hP hD hS a 2 (ck_wd_at hs) rfl hi hd (fun H1 locs1 hP1 hD1 hS1 => ?_)
  rw [← EQ] at hP1 hD1
  exact k l D cA ad p e R s m args below meth c A H1 locs1 ls X hP1 hD1 hS1 hG hl
theorem ck_last {i : Int32} {j : Nat} {x : Int64} (hij : i.toNatClampNeg = j) (hs : sh[a]? = some (.inr (3, n))) (hi : vp_in i n) (hd : decode cc pc = .ok (.lastore, 1)) (k : ck_W cc nL own ret dp mc ms ini gr Q sh (ck_sL h a j x) kc ks (pc + 1) lv rest) : ck_W cc nL own ret dp mc ms ini gr Q sh h kc ks pc lv (.long x :: .int i :: .ref a :: rest) := by
  intro l D cA ad p e R s m args below meth c A H locs ls X hP hD hS hG hl
  obtain ⟨hx, hb, hml, hown, hts, hr, hlk, hK, hN, hA, hR, hin, hSt⟩ := id X
  subst hij
  have EQ : ck_wd ad cA (ck_sL h a i.toNatClampNeg x) sh = (ck_wd ad cA h sh).set a (ad a, .inl (cA 3, n, .inr (.inl (vp_updL (h.2 a) i.toNatClampNeg x)))) := by
    rw [ck_wd_same hs ck_sL_off]
    simp [ck_cv, ck_sL]
  refine va_last hx hb hK hP hD hS a 3 (ck_wd_at hs) rfl hi hd (fun H1 locs1 hP1 hD1 hS1 => ?_)
  rw [← EQ] at hP1 hD1
  exact k l D cA ad p e R s m args below meth c A H1 locs1 ls X hP1 hD1 hS1 hG hl
theorem ck_alen0 {v : Int32} (hs : sh[a]? = some (.inr (0, n))) (hv : Int32.ofNat n = v) (hd : decode cc pc = .ok (.arraylength, 1)) (k : ck_W cc nL own ret dp mc ms ini gr Q sh h kc ks (pc + 1) lv (.int v :: rest)) : ck_W cc nL own ret dp mc ms ini gr Q sh h kc ks pc lv (.ref a :: rest) := by
  intro l D cA ad p e R s m args below meth c A H locs ls X hP hD hS hG hl
  obtain ⟨hx, hb, hml, hown, hts, hr, hlk, hK, hN, hA, hR, hin, hSt⟩ := id X
  exact va_alen hx hb hK hP a 0 (ck_wd_at hs) rfl hv hd (k l D cA ad p e R s m args below meth c A H locs ls X hP hD hS hG hl)
theorem ck_alen1 {v : Int32} (hs : sh[a]? = some (.inr (1, n))) (hv : Int32.ofNat n = v) (hd : decode cc pc = .ok (.arraylength, 1)) (k : ck_W cc nL own ret dp mc ms ini gr Q sh h kc ks (pc + 1) lv (.int v :: rest)) : ck_W cc nL own ret dp mc ms ini gr Q sh h kc ks pc lv (.ref a :: rest) := by
  intro l D cA ad p e R s m args below meth c A H locs ls X hP hD hS hG hl
  obtain ⟨hx, hb, hml, hown, hts, hr, hlk, hK, hN, hA, hR, hin, hSt⟩ := id X
  exact va_alen hx hb hK hP a 1 (ck_wd_at hs) rfl hv hd (k l D cA ad p e R s m args below meth c A H locs ls X hP hD hS hG hl)
theorem ck_alen2 {v : Int32} (hs : sh[a]? = some (.inr (2, n))) (hv : Int32.ofNat n = v) (hd : decode cc pc = .ok (.arraylength, 1)) (k : ck_W cc nL own ret dp mc ms ini gr Q sh h kc ks (pc + 1) lv (.int v :: rest)) : ck_W cc nL own ret dp mc ms ini gr Q sh h kc ks pc lv (.ref a :: rest) := by
  intro l D cA ad p e R s m args below meth c A H locs ls X hP hD hS hG hl
  obtain ⟨hx, hb, hml, hown, hts, hr, hlk, hK, hN, hA, hR, hin, hSt⟩ := id X
  exact va_alen hx hb hK hP a 2 (ck_wd_at hs) rfl hv hd (k l D cA ad p e R s m args below meth c A H locs ls X hP hD hS hG hl)
theorem ck_alen3 {v : Int32} (hs : sh[a]? = some (.inr (3, n))) (hv : Int32.ofNat n = v) (hd : decode cc pc = .ok (.arraylength, 1)) (k : ck_W cc nL own ret dp mc ms ini gr Q sh h kc ks (pc + 1) lv (.int v :: rest)) : ck_W cc nL own ret dp mc ms ini gr Q sh h kc ks pc lv (.ref a :: rest) := by
  intro l D cA ad p e R s m args below meth c A H locs ls X hP hD hS hG hl
  obtain ⟨hx, hb, hml, hown, hts, hr, hlk, hK, hN, hA, hR, hin, hSt⟩ := id X
  exact va_alen hx hb hK hP a 3 (ck_wd_at hs) rfl hv hd (k l D cA ad p e R s m args below meth c A H locs ls X hP hD hS hG hl)
theorem ck_acopy {a0 n0 : Nat} {sp dp9 cn : Int32} (hs0 : sh[a0]? = some (.inr (0, n0))) (hs : sh[a]? = some (.inr (0, n))) (hlink : Cond.methodLink own idx arraycopyName ∈ ck_T) (hw : Cond.native arraycopyName ∈ ck_T ∧ Cond.static arraycopyName ∈ ck_T ∧ Cond.initialized "java/lang/System" ∈ ck_T) (h1 : ¬ sp < 0) (h2 : ¬ dp9 < 0) (h3 : ¬ cn < 0) (h4 : sp.toNatClampNeg + cn.toNatClampNeg ≤ n0) (h5 : dp9.toNatClampNeg + cn.toNatClampNeg ≤ n) (hdp : 1 ≤ dp) (hst : (rest.map fun v => v.category).sum + (nativeFrameWords "java/lang/System" "arraycopy" 5 + 11) ≤ 64 * dp) (hd : decode cc pc = .ok (.invokestatic idx, 3)) (k : ck_W cc nL own ret dp mc ms ini gr Q sh (ck_sR h a (va_cpy (h.1 a0) (h.1 a) sp.toNatClampNeg dp9.toNatClampNeg cn.toNatClampNeg)) kc ks (pc + 3) lv rest) : ck_W cc nL own ret dp mc ms ini gr Q sh h kc ks pc lv (.int cn :: .int dp9 :: .ref a :: .int sp :: .ref a0 :: rest) := by
  intro l D cA ad p e R s m args below meth c A H locs ls X hP hD hS hG hl
  obtain ⟨hx, hb, hml, hown, hts, hr, hlk, hK, hN, hA, hR, hin, hSt⟩ := id X
  have EQ : ck_wd ad cA (ck_sR h a (va_cpy (h.1 a0) (h.1 a) sp.toNatClampNeg dp9.toNatClampNeg cn.toNatClampNeg)) sh = (ck_wd ad cA h sh).set a (ad a, .inl (cA 0, n, .inl (va_cpy (h.1 a0) (h.1 a) sp.toNatClampNeg dp9.toNatClampNeg cn.toNatClampNeg))) := by
    rw [ck_wd_same hs ck_sR_off]
    simp [ck_cv, ck_sR]
  refine va_copyi hx hb (hml.trans hl.1.symm) hown (hts _ hlink) (hts _ hw.1) (hts _ hw.2.1) (hts _ hw.2.2) hK hP hD hS a0 a 0 0 (ck_wd_at hs0) (ck_wd_at hs) rfl rfl rfl h1 h2 h3 h4 h5 (fun _ _ => rfl) (by rw [hR]; exact hdp) (by rw [hR]; simpa [ck_rm, List.map_map, Function.comp_def, ck_tr_cat] using hst) hd (fun H1 locs1 hP1 hD1 hS1 => ?_)
  rw [← EQ] at hP1 hD1
  exact k l D cA ad p e R s m args below meth c A H1 locs1 ls X hP1 hD1 hS1 hG hl
theorem ck_mmax {x y : Int32} (hlink : Cond.methodLink own idx Lib.Math.max.name ∈ ck_T) (hw : Cond.static Lib.Math.max.name ∈ ck_T ∧ Cond.initialized "java/lang/Math" ∈ ck_T ∧ Cond.code Lib.Math.max.name Lib.Math.max.code 2 (some .int) ∈ ck_T) (hdp : 1 ≤ dp) (hst : (rest.map fun v => v.category).sum + 13 ≤ 64 * dp) (hkc : kc ≤ mc) (hks : ks ≤ ms) (hd : decode cc pc = .ok (.invokestatic idx, 3)) (k : ck_W cc nL own ret dp mc ms ini gr Q sh h kc ks (pc + 3) lv (.int (if x < y then y else x) :: rest)) : ck_W cc nL own ret dp mc ms ini gr Q sh h kc ks pc lv (.int y :: .int x :: rest) := by
  intro l D cA ad p e R s m args below meth c A H locs ls X hP hD hS hG hl
  obtain ⟨hx, hb, hml, hown, hts, hr, hlk, hK, hN, hA, hR, hin, hSt⟩ := id X
  exact va_mmax hx hb (hml.trans hl.1.symm) hown (hts _ hlink) (hts _ hw.1) (hts _ hw.2.1) (hts _ hw.2.2) (by rw [hR]; exact hdp) (by rw [hR]; simpa [ck_rm, List.map_map, Function.comp_def, ck_tr_cat] using hst) (by rw [hR]; exact hkc) (by rw [hR]; exact hks) hd (k l D cA ad p e R s m args below meth c A H locs ls X hP hD hS hG hl)
theorem ck_mmaxL {x y : Int64} (hlink : Cond.methodLink own idx Lib.MathLoose.max_long.x ∈ ck_T) (hw : Cond.static Lib.MathLoose.max_long.x ∈ ck_T ∧ Cond.initialized "java/lang/Math" ∈ ck_T ∧ Cond.code Lib.MathLoose.max_long.x Lib.MathLoose.max_long.code 4 (some .long) ∈ ck_T) (hdp : 1 ≤ dp) (hst : (rest.map fun v => v.category).sum + 15 ≤ 64 * dp) (hkc : kc ≤ mc) (hks : ks ≤ ms) (hd : decode cc pc = .ok (.invokestatic idx, 3)) (k : ck_W cc nL own ret dp mc ms ini gr Q sh h kc ks (pc + 3) lv (.long (if y < x then x else y) :: rest)) : ck_W cc nL own ret dp mc ms ini gr Q sh h kc ks pc lv (.long y :: .long x :: rest) := by
  intro l D cA ad p e R s m args below meth c A H locs ls X hP hD hS hG hl
  obtain ⟨hx, hb, hml, hown, hts, hr, hlk, hK, hN, hA, hR, hin, hSt⟩ := id X
  exact va_mmax_long hx hb (hml.trans hl.1.symm) hown (hts _ hlink) (hts _ hw.1) (hts _ hw.2.1) (hts _ hw.2.2) (by rw [hR]; exact hdp) (by rw [hR]; simpa [ck_rm, List.map_map, Function.comp_def, ck_tr_cat] using hst) (by rw [hR]; exact hkc) (by rw [hR]; exact hks) hd (k l D cA ad p e R s m args below meth c A H locs ls X hP hD hS hG hl)
theorem ck_mminL {x y : Int64} (hlink : Cond.methodLink own idx Lib.MathLoose.min_long.x ∈ ck_T) (hw : Cond.static Lib.MathLoose.min_long.x ∈ ck_T ∧ Cond.initialized "java/lang/Math" ∈ ck_T ∧ Cond.code Lib.MathLoose.min_long.x Lib.MathLoose.min_long.code 4 (some .long) ∈ ck_T) (hdp : 1 ≤ dp) (hst : (rest.map fun v => v.category).sum + 15 ≤ 64 * dp) (hkc : kc ≤ mc) (hks : ks ≤ ms) (hd : decode cc pc = .ok (.invokestatic idx, 3)) (k : ck_W cc nL own ret dp mc ms ini gr Q sh h kc ks (pc + 3) lv (.long (if y < x then y else x) :: rest)) : ck_W cc nL own ret dp mc ms ini gr Q sh h kc ks pc lv (.long y :: .long x :: rest) := by
  intro l D cA ad p e R s m args below meth c A H locs ls X hP hD hS hG hl
  obtain ⟨hx, hb, hml, hown, hts, hr, hlk, hK, hN, hA, hR, hin, hSt⟩ := id X
  exact va_mmin_long hx hb (hml.trans hl.1.symm) hown (hts _ hlink) (hts _ hw.1) (hts _ hw.2.1) (hts _ hw.2.2) (by rw [hR]; exact hdp) (by rw [hR]; simpa [ck_rm, List.map_map, Function.comp_def, ck_tr_cat] using hst) (by rw [hR]; exact hkc) (by rw [hR]; exact hks) hd (k l D cA ad p e R s m args below meth c A H locs ls X hP hD hS hG hl)
theorem ck_mabsL {x : Int64} (hlink : Cond.methodLink own idx Lib.MathLoose.abs_long.x ∈ ck_T) (hw : Cond.static Lib.MathLoose.abs_long.x ∈ ck_T ∧ Cond.initialized "java/lang/Math" ∈ ck_T ∧ Cond.code Lib.MathLoose.abs_long.x Lib.MathLoose.abs_long.code 2 (some .long) ∈ ck_T) (hdp : 1 ≤ dp) (hst : (rest.map fun v => v.category).sum + 13 ≤ 64 * dp) (hkc : kc ≤ mc) (hks : ks ≤ ms) (hd : decode cc pc = .ok (.invokestatic idx, 3)) (k : ck_W cc nL own ret dp mc ms ini gr Q sh h kc ks (pc + 3) lv (.long (if 0 < x then x else -x) :: rest)) : ck_W cc nL own ret dp mc ms ini gr Q sh h kc ks pc lv (.long x :: rest) := by
  intro l D cA ad p e R s m args below meth c A H locs ls X hP hD hS hG hl
  obtain ⟨hx, hb, hml, hown, hts, hr, hlk, hK, hN, hA, hR, hin, hSt⟩ := id X
  exact va_mabs_long hx hb (hml.trans hl.1.symm) hown (hts _ hlink) (hts _ hw.1) (hts _ hw.2.1) (hts _ hw.2.2) (by rw [hR]; exact hdp) (by rw [hR]; simpa [ck_rm, List.map_map, Function.comp_def, ck_tr_cat] using hst) (by rw [hR]; exact hkc) (by rw [hR]; exact hks) hd (k l D cA ad p e R s m args below meth c A H locs ls X hP hD hS hG hl)
theorem ck_objInit (hw : Cond.methodLink own idx objectInit ∈ ck_T) (hw2 : Cond.instanceMethod objectInit ∈ ck_T ∧ Cond.code objectInit ⟨#[0xb1]⟩ 1 none ∈ ck_T) (hdp : 1 ≤ dp) (hst : (rest.map fun v => v.category).sum + 12 ≤ 64 * dp) (hd : decode cc pc = .ok (.invokespecial idx, 3)) (k : ck_W cc nL own ret dp mc ms ini gr Q sh h kc ks (pc + 3) lv rest) : ck_W cc nL own ret dp mc ms ini gr Q sh h kc ks pc lv (.ref a :: rest) := by
  intro l D cA ad p e R s m args below meth c A H locs ls X hP hD hS hG hl
  obtain ⟨hx, hb, hml, hown, hts, hr, hlk, hK, hN, hA, hR, hin, hSt⟩ := id X
  refine W.objInit hx hb hown (hts _ hw) (hts _ hw2.1) (hts _ hw2.2) rfl (by rw [hml]; exact hl.1) rfl hd (by rw [hR]; exact hdp) (by rw [hR]; simpa [JFrame.monitorRoom, ck_rm, List.map_map, Function.comp_def, ck_tr_cat] using hst) ?_
  exact (k l D cA ad p e R s m args below meth c A H locs ls X hP hD hS hG hl)
end CKP
section CKE
variable {cc : ByteArray} {nL : Nat} {own : String} {ret : Option FieldType} {dp mc ms : Nat} {ini gr : Bool} {Q : Option Value → List ck_C → ck_H → Prop} {sh : List ck_C} {h : ck_H} {kc ks pc : Nat} {lv : List (Nat × Value)} {rest : List Value}
theorem ck_iret {v : Int32} {ty : FieldType} (hty : ret = some ty) (hn : narrow ty (.int v) = .int v) (hkc : kc = mc) (hks : ks = ms) (hd : decode cc pc = .ok (.ireturn, 1)) (k : Q (some (.int v)) sh h) : ck_W cc nL own ret dp mc ms ini gr Q sh h kc ks pc lv [.int v] := by
  intro l D cA ad p e R s m args below meth c A H locs ls X hP hD hS hG hl
  obtain ⟨hx, hb, hml, hown, hts, hr, hlk, hK, hN, hA, hR, hin, hSt⟩ := id X
  subst hkc
  subst hks
  exact W.zret hx hb (hr.trans hty) hn (fun t ht hW => ⟨⟨(some (.int v)), sh, h, rfl, k, by rw [ht]; exact hP, va_K.moved hW.alike hK, hD, hG⟩, hS.F ht⟩) hS.2.2 hd hlk
theorem ck_lret {v : Int64} (hty : ret = some .long) (hkc : kc = mc) (hks : ks = ms) (hd : decode cc pc = .ok (.lreturn, 1)) (k : Q (some (.long v)) sh h) : ck_W cc nL own ret dp mc ms ini gr Q sh h kc ks pc lv [.long v] := by
  intro l D cA ad p e R s m args below meth c A H locs ls X hP hD hS hG hl
  obtain ⟨hx, hb, hml, hown, hts, hr, hlk, hK, hN, hA, hR, hin, hSt⟩ := id X
  subst hkc
  subst hks
  exact W.lret hx hb (hr.trans hty) (fun t ht hW => ⟨⟨(some (.long v)), sh, h, rfl, k, by rw [ht]; exact hP, va_K.moved hW.alike hK, hD, hG⟩, hS.F ht⟩) hS.2.2 hd hlk
theorem ck_vret (hty : ret = none) (hkc : kc = mc) (hks : ks = ms) (hd : decode cc pc = .ok (.return_, 1)) (k : Q none sh h) : ck_W cc nL own ret dp mc ms ini gr Q sh h kc ks pc lv [] := by
  intro l D cA ad p e R s m args below meth c A H locs ls X hP hD hS hG hl
  obtain ⟨hx, hb, hml, hown, hts, hr, hlk, hK, hN, hA, hR, hin, hSt⟩ := id X
  subst hkc
  subst hks
  exact W.vret hx hb (hr.trans hty) (fun t ht hW => ⟨⟨none, sh, h, rfl, k, by rw [ht]; exact hP, va_K.moved hW.alike hK, hD, hG⟩, hS.F ht⟩) hS.2.2 hd hlk
theorem ck_nmI {x : Int32} (k : ∀ v, v = x → ck_W cc nL own ret dp mc ms ini gr Q sh h kc ks pc lv (.int v :: rest)) : ck_W cc nL own ret dp mc ms ini gr Q sh h kc ks pc lv (.int x :: rest) := k _ rfl
theorem ck_nmL {x : Int64} (k : ∀ v, v = x → ck_W cc nL own ret dp mc ms ini gr Q sh h kc ks pc lv (.long v :: rest)) : ck_W cc nL own ret dp mc ms ini gr Q sh h kc ks pc lv (.long x :: rest) := k _ rfl
theorem ck_nmH (k : ∀ h', h' = h → ck_W cc nL own ret dp mc ms ini gr Q sh h' kc ks pc lv rest) : ck_W cc nL own ret dp mc ms ini gr Q sh h kc ks pc lv rest := k _ rfl
end CKE
def ck_Qi (sh : List ck_C) (Q : Int32 → ck_H → Prop) : Option Value → List ck_C → ck_H → Prop := fun v sh' h' => ∃ r, v = some (.int r) ∧ sh' = sh ∧ Q r h'
def ck_Ql (sh : List ck_C) (Q : Int64 → ck_H → Prop) : Option Value → List ck_C → ck_H → Prop := fun v sh' h' => ∃ r, v = some (.long r) ∧ sh' = sh ∧ Q r h'
def ck_Qv (sh : List ck_C) (Q : ck_H → Prop) : Option Value → List ck_C → ck_H → Prop := fun v sh' h' => v = none ∧ sh' = sh ∧ Q h'
theorem ck_inL {i : Int32} {n : Nat} (h : decide (¬ (i < 0 ∨ n ≤ i.toNatClampNeg)) = true) : vp_in i n := (of_decide_eq_true h : ¬ (i < 0 ∨ n ≤ i.toNatClampNeg))
theorem ck_bo {x : Int32} (h : x = 0 ∨ x = 1) : narrow .boolean (.int x) = .int x ∧ fits .boolean (.int x) = true := by rcases h with rfl | rfl <;> decide
def lpN : Nat := 4000
