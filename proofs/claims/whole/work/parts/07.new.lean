/-! new cells -/
def ck_z (h : ck_H) (k : Nat) : ck_H := (fun a => if a = k then fun _ => 0 else h.1 a, fun a => if a = k then fun _ => 0 else h.2 a)
theorem ck_z_off {ad : Nat → Nat} {cA : Nat → ClassId} {h : ck_H} {k : Nat} : ∀ a d, a ≠ k → ck_cv ad cA (ck_z h k) a d = ck_cv ad cA h a d := by
  intro a d ha
  have e : (ck_z h k).1 a = h.1 a := by simp [ck_z, ha]
  have e2 : (ck_z h k).2 a = h.2 a := by simp [ck_z, ha]
  cases d with
  | inl o => simp only [ck_cv, ck_fs, ck_fv, e, e2]
  | inr o => simp only [ck_cv, e, e2]
theorem ck_wd_push {ad : Nat → Nat} {cA : Nat → ClassId} {h h' : ck_H} {sh : List ck_C} {c : ck_C} (hO : ∀ a d, a ≠ sh.length → ck_cv ad cA h' a d = ck_cv ad cA h a d) :
    ck_wd ad cA h' (sh ++ [c]) = ck_wd ad cA h sh ++ [(ad sh.length, ck_cv ad cA h' sh.length c)] := by
  unfold ck_wd
  rw [List.mapIdx_append]
  congr 1
  · apply List.ext_getElem?
    intro i
    simp only [List.getElem?_mapIdx]
    by_cases hi : i < sh.length
    · rw [List.getElem?_eq_getElem hi]
      simp [hO i _ (Nat.ne_of_lt hi)]
    · rw [List.getElem?_eq_none (by omega)]
      rfl
  · simp
def ck_dok (ty : FieldType) (d : Option ck_F) : Bool := match d with
  | some (0, none) => decide (defaultValue ty = .int 0)
  | some (1, none) => decide (defaultValue ty = .long 0)
  | some (2, none) => decide (defaultValue ty = .null)
  | _ => false
theorem ck_dok_v {ad : Nat → Nat} {h : ck_H} {k j : Nat} {fs : List ck_F} {ty : FieldType} (hd : ck_dok ty fs[j]? = true) : defaultValue ty = vp_V (ck_fs ad (ck_z h k) k fs) j := by
  unfold ck_dok at hd
  split at hd
  · next hf =>
    rw [of_decide_eq_true hd]
    simp [vp_V, ck_fs, hf, ck_fv, ck_z]
  · next hf =>
    rw [of_decide_eq_true hd]
    simp [vp_V, ck_fs, hf, ck_fv, ck_z]
  · next hf =>
    rw [of_decide_eq_true hd]
    simp [vp_V, ck_fs, hf, ck_fv, va_rf]
  · cases hd
section CKN
variable {cc : ByteArray} {nL : Nat} {own : String} {ret : Option FieldType} {dp mc ms : Nat} {ini gr : Bool} {Q : Option Value → List ck_C → ck_H → Prop} {sh : List ck_C} {h : ck_H} {kc ks pc : Nat} {lv : List (Nat × Value)} {rest st : List Value}
theorem ck_newa {atype : ArrayType} {ty : FieldType} {t N' : Nat} {n : Int32} {a0 : vp_A} (hgr : gr = true) (hlt : sh.length + 1 < 1000) (hty : newarray.typeOf atype = ty) (harr : Cond.arrayClass ty ∈ ck_T) (hcv : ∀ (ad : Nat → Nat) (cA : Nat → ClassId), ck_cv ad cA (ck_z h sh.length) sh.length (.inr (t, N')) = .inl (cA t, a0)) (ha : ∀ cA : ClassId, vp_cell cA a0 = arrV cA N' (fun _ => defaultValue ty)) (hk9 : ∀ cA, (ck_ty cA)[t]? = some (cA t, ty)) (hra : ∀ U cA, va_RA U cA ty → U.vm.findClass ("[" ++ ty.toString) = some cA) (hn : ¬ n < 0) (hN : n.toNatClampNeg = N') (hbytes : N' * componentBytes ty ≤ 536870912) (hkc : kc + 1 ≤ mc) (hks : ks + N' ≤ ms) (hd : decode cc pc = .ok (.newarray atype, 2))
    (k : ck_W cc nL own ret dp mc ms ini gr Q (sh ++ [.inr (t, N')]) (ck_z h sh.length) (kc + 1) (ks + N') (pc + 2) lv (.ref sh.length :: rest)) : ck_W cc nL own ret dp mc ms ini gr Q sh h kc ks pc lv (.int n :: rest) := by
  intro l D cA ad p e R s m args below meth c A H locs ls X hP hD hS hG hl
  obtain ⟨hx, hb, hml, hown, hts, hr, hlk, hK, hN9, hA, hR, hin, hSt⟩ := id X
  subst hty
  refine ck_sz hP hG (fun hG1 hG2 => ?_)
  obtain ⟨g1, g2, g3, g4⟩ := hG1 hgr
  have had : ad sh.length = H.size := by rw [g1 _ g4, g2]
  refine va_newaK hx hb (hts _ harr) rfl hd rfl hn hN hbytes (by rw [hR]; exact hkc) (by rw [hR]; exact hks) rfl fun H1 cA9 e1 z1 o1 hAr hNm => ?_
  have hcA : cA9 = cA t := Option.some.inj (hNm.symm.trans (hra _ _ (hK.2 t _ (hk9 cA)).2))
  subst hcA
  have hk : ∀ (k : Nat) (x : Nat × va_E), (ck_wd ad cA h sh)[k]? = some x → H1[x.1]? = H[x.1]? := fun k x hx => o1 x.1 ((hP k x hx).lt)
  have EQ : ck_wd ad cA (ck_z h sh.length) (sh ++ [.inr (t, N')]) = ck_wd ad cA h sh ++ [(ad sh.length, .inl (cA t, a0))] := by
    rw [ck_wd_push ck_z_off, hcv]
  have hkk := k l D cA ad p e R s m args below meth c A H1 locs ls X (by
    rw [EQ]
    refine (hP.kept hk).app (fun k x hx => ?_)
    have hz : k < 1 := (List.getElem?_eq_some_iff.mp hx).1
    rw [show k = 0 by omega] at hx
    cases hx
    show H1[ad sh.length]? = some (vp_cell _ _)
    rw [ha, had]
    exact e1) (by rw [EQ]; exact hD.push hP had (hA _ (by rw [had]; exact hS.1))) ⟨Nat.le_trans hS.1 (by omega), fun x h1 h2 => (o1 x (Nat.lt_of_lt_of_le h1 hS.1)).trans (hS.2.1 x h1 h2), hS.2.2⟩ (fun hg => by
    obtain ⟨q1, q2, q3, q4⟩ := hG hg
    refine ⟨q1, ?_, ?_, ?_⟩
    · rw [List.length_append]; simp only [List.length_singleton]; omega
    · rw [List.length_append]; simp
    · rw [List.length_append]; exact hlt) hl
  have e9 : List.map (ck_tr ad) (Value.ref sh.length :: rest) = Value.ref H.size :: List.map (ck_tr ad) rest := by simp [ck_tr, had]
  rw [e9] at hkk
  exact hkk
theorem ck_newaI {N' : Nat} {n : Int32} (hgr : gr = true) (hlt : sh.length + 1 < 1000) (harr : Cond.arrayClass .int ∈ ck_T) (hn : ¬ n < 0) (hN : n.toNatClampNeg = N') (hbytes : N' * componentBytes .int ≤ 536870912) (hkc : kc + 1 ≤ mc) (hks : ks + N' ≤ ms) (hd : decode cc pc = .ok (.newarray .int, 2))
    (k : ck_W cc nL own ret dp mc ms ini gr Q (sh ++ [.inr (0, N')]) (ck_z h sh.length) (kc + 1) (ks + N') (pc + 2) lv (.ref sh.length :: rest)) : ck_W cc nL own ret dp mc ms ini gr Q sh h kc ks pc lv (.int n :: rest) :=
  ck_newa (atype := .int) (ty := .int) (t := 0) (a0 := (N', .inl (fun _ => 0))) hgr hlt rfl harr (fun ad cA => by simp [ck_cv, ck_z]) (fun cA => by rw [vp_cell_i]; rfl) (fun cA => rfl) (fun U cA h => h) hn hN hbytes hkc hks hd k
theorem ck_newaB {N' : Nat} {n : Int32} (hgr : gr = true) (hlt : sh.length + 1 < 1000) (harr : Cond.arrayClass .byte ∈ ck_T) (hn : ¬ n < 0) (hN : n.toNatClampNeg = N') (hbytes : N' * componentBytes .byte ≤ 536870912) (hkc : kc + 1 ≤ mc) (hks : ks + N' ≤ ms) (hd : decode cc pc = .ok (.newarray .byte, 2))
    (k : ck_W cc nL own ret dp mc ms ini gr Q (sh ++ [.inr (1, N')]) (ck_z h sh.length) (kc + 1) (ks + N') (pc + 2) lv (.ref sh.length :: rest)) : ck_W cc nL own ret dp mc ms ini gr Q sh h kc ks pc lv (.int n :: rest) :=
  ck_newa (atype := .byte) (ty := .byte) (t := 1) (a0 := (N', .inl (fun _ => 0))) hgr hlt rfl harr (fun ad cA => by simp [ck_cv, ck_z]) (fun cA => by rw [vp_cell_i]; rfl) (fun cA => rfl) (fun U cA h => h) hn hN hbytes hkc hks hd k
theorem ck_newaZ {N' : Nat} {n : Int32} (hgr : gr = true) (hlt : sh.length + 1 < 1000) (harr : Cond.arrayClass .boolean ∈ ck_T) (hn : ¬ n < 0) (hN : n.toNatClampNeg = N') (hbytes : N' * componentBytes .boolean ≤ 536870912) (hkc : kc + 1 ≤ mc) (hks : ks + N' ≤ ms) (hd : decode cc pc = .ok (.newarray .boolean, 2))
    (k : ck_W cc nL own ret dp mc ms ini gr Q (sh ++ [.inr (2, N')]) (ck_z h sh.length) (kc + 1) (ks + N') (pc + 2) lv (.ref sh.length :: rest)) : ck_W cc nL own ret dp mc ms ini gr Q sh h kc ks pc lv (.int n :: rest) :=
  ck_newa (atype := .boolean) (ty := .boolean) (t := 2) (a0 := (N', .inl (fun _ => 0))) hgr hlt rfl harr (fun ad cA => by simp [ck_cv, ck_z]) (fun cA => by rw [vp_cell_i]; rfl) (fun cA => rfl) (fun U cA h => h) hn hN hbytes hkc hks hd k
theorem ck_newaL {N' : Nat} {n : Int32} (hgr : gr = true) (hlt : sh.length + 1 < 1000) (harr : Cond.arrayClass .long ∈ ck_T) (hn : ¬ n < 0) (hN : n.toNatClampNeg = N') (hbytes : N' * componentBytes .long ≤ 536870912) (hkc : kc + 1 ≤ mc) (hks : ks + N' ≤ ms) (hd : decode cc pc = .ok (.newarray .long, 2))
    (k : ck_W cc nL own ret dp mc ms ini gr Q (sh ++ [.inr (3, N')]) (ck_z h sh.length) (kc + 1) (ks + N') (pc + 2) lv (.ref sh.length :: rest)) : ck_W cc nL own ret dp mc ms ini gr Q sh h kc ks pc lv (.int n :: rest) :=
  ck_newa (atype := .long) (ty := .long) (t := 3) (a0 := (N', .inr (.inl (fun _ => 0)))) hgr hlt rfl harr (fun ad cA => by simp [ck_cv, ck_z]) (fun cA => by rw [vp_cell_l]; rfl) (fun cA => rfl) (fun U cA h => h) hn hN hbytes hkc hks hd k
theorem ck_new {ci idx N : Nat} {C : String} {T : u_T} {ty0 : Nat → FieldType} {fs : List ck_F} (hgr : gr = true) (hlt : sh.length + 1 < 1000) (hc : ck_cls ci C T N ty0) (hcl : Cond.classLink own idx C ∈ ck_T) (hfs : ∀ j, j < N → ck_dok (ty0 j) fs[j]? = true) (hkc : kc + 1 ≤ mc) (hks : ks + N ≤ ms) (hd : decode cc pc = .ok (.new idx, 3))
    (k : ck_W cc nL own ret dp mc ms ini gr Q (sh ++ [.inl (ci, fs)]) (ck_z h sh.length) (kc + 1) (ks + N) (pc + 3) lv (.ref sh.length :: rest)) : ck_W cc nL own ret dp mc ms ini gr Q sh h kc ks pc lv rest := by
  intro l D cA ad p e R s m args below meth c A H locs ls X hP hD hS hG hl
  obtain ⟨hx, hb, hml, hown, hts, hr, hlk, hK, hN9, hA, hR, hin, hSt⟩ := id X
  obtain ⟨c1, c2, c3, c4, c5, c6⟩ := hc
  refine ck_sz hP hG (fun hG1 hG2 => ?_)
  obtain ⟨g1, g2, g3, g4⟩ := hG1 hgr
  have had : ad sh.length = H.size := by rw [g1 _ g4, g2]
  have hKn := hK.1 ci _ c1
  refine W.newcK hx hb hown (hts _ hcl) (hts _ c5) (hts _ c6) rfl hd (by rw [hR]; exact hkc) (by rw [hR]; exact hks) hKn.2.1 rfl fun H1 kC hkC e1 z1 o1 => ?_
  have hk : ∀ (k : Nat) (x : Nat × va_E), (ck_wd ad cA h sh)[k]? = some x → H1[x.1]? = H[x.1]? := fun k x hx => o1 x.1 ((hP k x hx).lt)
  have EQ : ck_wd ad cA (ck_z h sh.length) (sh ++ [.inl (ci, fs)]) = ck_wd ad cA h sh ++ [(ad sh.length, .inr (ci, ck_fs ad (ck_z h sh.length) sh.length fs))] := by
    rw [ck_wd_push ck_z_off]
    rfl
  have hkk := k l D cA ad p e R s m args below meth c A H1 locs ls X (by
    rw [EQ]
    refine (hP.kept hk).app (fun k x hx => ?_)
    have hz : k < 1 := (List.getElem?_eq_some_iff.mp hx).1
    rw [show k = 0 by omega] at hx
    cases hx
    refine ⟨_, c1, ?_⟩
    rw [had]
    exact (u_born ty0 hts c2 hKn hkC e1 c3).to (fun j hj => ck_dok_v (hfs j hj))) (by rw [EQ]; exact hD.push hP had (hA _ (by rw [had]; exact hS.1))) ⟨Nat.le_trans hS.1 (by omega), fun x h1 h2 => (o1 x (Nat.lt_of_lt_of_le h1 hS.1)).trans (hS.2.1 x h1 h2), hS.2.2⟩ (fun hg => by
    obtain ⟨q1, q2, q3, q4⟩ := hG hg
    refine ⟨q1, ?_, ?_, ?_⟩
    · rw [List.length_append]; simp only [List.length_singleton]; omega
    · rw [List.length_append]; simp
    · rw [List.length_append]; exact hlt) hl
  have e9 : List.map (ck_tr ad) (Value.ref sh.length :: rest) = Value.ref H.size :: List.map (ck_tr ad) rest := by simp [ck_tr, had]
  rw [e9] at hkk
  exact hkk
end CKN
