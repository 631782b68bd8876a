/-! the texts of words -/
section CKS
variable {cc : ByteArray} {nL : Nat} {own : String} {ret : Option FieldType} {dp mc ms : Nat} {ini gr : Bool} {Q : Option Value → List ck_C → ck_H → Prop} {sh : List ck_C} {h : ck_H} {kc ks pc : Nat} {lv : List (Nat × Value)} {rest st : List Value}
variable {i idx : Nat}
theorem ck_ldcSX (hd : decode cc pc = .ok (.ldc 19, 2)) (k : ck_W cc nL RX8 ret dp mc ms ini gr Q sh h kc ks (pc + 2) lv (.ref 1000 :: rest)) : ck_W cc nL RX8 ret dp mc ms ini gr Q sh h kc ks pc lv rest := by
  intro l D cA ad p e R s m args below meth c A H locs ls X hP hD hS hG hl
  obtain ⟨hx, hb, hml, hown, hts, hr, hlk, hK, hN, hA, hR, hin, hSt⟩ := id X
  exact va_ldcS hx hb hown hSt.2.2.2.1 hd (k l D cA ad p e R s m args below meth c A H locs ls X hP hD hS hG hl)
theorem ck_ldcSM (hd : decode cc pc = .ok (.ldc 188, 2)) (k : ck_W cc nL RX12 ret dp mc ms ini gr Q sh h kc ks (pc + 2) lv (.ref 1001 :: rest)) : ck_W cc nL RX12 ret dp mc ms ini gr Q sh h kc ks pc lv rest := by
  intro l D cA ad p e R s m args below meth c A H locs ls X hP hD hS hG hl
  obtain ⟨hx, hb, hml, hown, hts, hr, hlk, hK, hN, hA, hR, hin, hSt⟩ := id X
  exact va_ldcS hx hb hown hSt.2.2.2.2 hd (k l D cA ad p e R s m args below meth c A H locs ls X hP hD hS hG hl)
theorem ck_getSc (hi : i < 2) (hlink : Cond.fieldLink own idx "java/lang/String" "coder" "B" ∈ ck_T) (hd : decode cc pc = .ok (.getfield idx, 3)) (k : ck_W cc nL own ret dp mc ms ini gr Q sh h kc ks (pc + 3) lv (.int 0 :: rest)) : ck_W cc nL own ret dp mc ms ini gr Q sh h kc ks pc lv (.ref (1000 + i) :: rest) := by
  intro l D cA ad p e R s m args below meth c A H locs ls X hP hD hS hG hl
  obtain ⟨hx, hb, hml, hown, hts, hr, hlk, hK, hN, hA, hR, hin, hSt⟩ := id X
  exact vk_getf hx hb (hSt.1 i hi).2.1 hS hown (hts _ hlink) (fun _ q => q) hd (k l D cA ad p e R s m args below meth c A H locs ls X hP hD hS hG hl)
theorem ck_getSv (hi : i < 2) (hlink : Cond.fieldLink own idx "java/lang/String" "value" "[B" ∈ ck_T) (hd : decode cc pc = .ok (.getfield idx, 3)) (k : ck_W cc nL own ret dp mc ms ini gr Q sh h kc ks (pc + 3) lv (.ref (1010 + i) :: rest)) : ck_W cc nL own ret dp mc ms ini gr Q sh h kc ks pc lv (.ref (1000 + i) :: rest) := by
  intro l D cA ad p e R s m args below meth c A H locs ls X hP hD hS hG hl
  obtain ⟨hx, hb, hml, hown, hts, hr, hlk, hK, hN, hA, hR, hin, hSt⟩ := id X
  exact vk_getf hx hb (hSt.1 i hi).2.2.1 hS hown (hts _ hlink) (fun _ q => q) hd (k l D cA ad p e R s m args below meth c A H locs ls X hP hD hS hG hl)
theorem ck_alenS (hi : i < 2) (hd : decode cc pc = .ok (.arraylength, 1)) (k : ck_W cc nL own ret dp mc ms ini gr Q sh h kc ks (pc + 1) lv (.int 94 :: rest)) : ck_W cc nL own ret dp mc ms ini gr Q sh h kc ks pc lv (.ref (1010 + i) :: rest) := by
  intro l D cA ad p e R s m args below meth c A H locs ls X hP hD hS hG hl
  obtain ⟨hx, hb, hml, hown, hts, hr, hlk, hK, hN, hA, hR, hin, hSt⟩ := id X
  exact va_tlen hx hb (hSt.1 i hi).2.2.2 hS (by decide) hd (k l D cA ad p e R s m args below meth c A H locs ls X hP hD hS hG hl)
theorem ck_baldS {j : Int32} (hi : i < 2) (hj : vp_in j 94) (hd : decode cc pc = .ok (.baload, 1)) (k : ck_W cc nL own ret dp mc ms ini gr Q sh h kc ks (pc + 1) lv (.int ((ck_wb i).getD j.toNatClampNeg 0) :: rest)) : ck_W cc nL own ret dp mc ms ini gr Q sh h kc ks pc lv (.int j :: .ref (1010 + i) :: rest) := by
  intro l D cA ad p e R s m args below meth c A H locs ls X hP hD hS hG hl
  obtain ⟨hx, hb, hml, hown, hts, hr, hlk, hK, hN, hA, hR, hin, hSt⟩ := id X
  exact va_tb hx hb (hSt.1 i hi).2.2.2 hS hj rfl hd (k l D cA ad p e R s m args below meth c A H locs ls X hP hD hS hG hl)
theorem ck_getsC (hlink : Cond.fieldLink own idx "java/lang/String" "COMPACT_STRINGS" "Z" ∈ ck_T) (hd : decode cc pc = .ok (.getstatic idx, 3)) (k : ck_W cc nL own ret dp mc ms ini gr Q sh h kc ks (pc + 3) lv (.int 1 :: rest)) : ck_W cc nL own ret dp mc ms ini gr Q sh h kc ks pc lv rest := by
  intro l D cA ad p e R s m args below meth c A H locs ls X hP hD hS hG hl
  obtain ⟨hx, hb, hml, hown, hts, hr, hlk, hK, hN, hA, hR, hin, hSt⟩ := id X
  exact va_gets hx hb hSt.2.1 hS hown (hts _ hlink) (fun _ q => q) hd (k l D cA ad p e R s m args below meth c A H locs ls X hP hD hS hG hl)
theorem ck_getsF (hlink : Cond.fieldLink own idx "jdk/internal/util/Preconditions" "SIOOBE_FORMATTER" "Ljava/util/function/BiFunction;" ∈ ck_T) (hd : decode cc pc = .ok (.getstatic idx, 3)) (k : ∀ v : Value, (v = .null ∨ v = .ref 1020) → ck_W cc nL own ret dp mc ms ini gr Q sh h kc ks (pc + 3) lv (v :: rest)) : ck_W cc nL own ret dp mc ms ini gr Q sh h kc ks pc lv rest := by
  intro l D cA ad p e R s m args below meth c A H locs ls X hP hD hS hG hl
  obtain ⟨hx, hb, hml, hown, hts, hr, hlk, hK, hN, hA, hR, hin, hSt⟩ := id X
  rcases hSt.2.2.1 with hZ | hZ
  · exact va_gets hx hb hZ hS hown (hts _ hlink) (fun _ q => q) hd (k .null (Or.inl rfl) l D cA ad p e R s m args below meth c A H locs ls X hP hD hS hG hl)
  · exact va_gets hx hb hZ hS hown (hts _ hlink) (fun _ q => q) hd (k (.ref 1020) (Or.inr rfl) l D cA ad p e R s m args below meth c A H locs ls X hP hD hS hG hl)
theorem ck_i2c {x : Int32} (hd : decode cc pc = .ok (.i2c, 1)) (k : ck_W cc nL own ret dp mc ms ini gr Q sh h kc ks (pc + 1) lv (.int (x.toUInt32 % 65536).toInt32 :: rest)) : ck_W cc nL own ret dp mc ms ini gr Q sh h kc ks pc lv (.int x :: rest) := by
  intro l D cA ad p e R s m args below meth c A H locs ls X hP hD hS hG hl
  obtain ⟨hx, hb, hml, hown, hts, hr, hlk, hK, hN, hA, hR, hin, hSt⟩ := id X
  exact lv_i2c hx hb hd rfl (k l D cA ad p e R s m args below meth c A H locs ls X hP hD hS hG hl)
variable {y : MethodName} {cc' : ByteArray} {nL' dp' n : Nat} {ret' : Option FieldType} {as : List Value} {Q' : Option Value → List ck_C → ck_H → Prop}
theorem ck_callVS (hi : i < 2) (hM : ck_M y cc' nL' ret' dp' 0 0 gr sh h (.ref (1000 + i) :: as) Q') (hst : st = as.reverse ++ .ref (1000 + i) :: rest) (hw : ck_cal y cc' nL' ret' n) (hn : as.length = n) (h1 : Cond.methodLink own idx y ∈ ck_T) (h2 : Cond.instanceMethod y ∈ ck_T ∧ Cond.selects y.cls y y ∈ ck_T)
    (hyc : y.cls = "java/lang/String") (hdp : dp' + 1 ≤ dp) (hlo : 8 + (nL' + 11) + 64 * dp' ≤ 64 * dp) (hr8 : (rest.map fun v => v.category).sum ≤ 8) (hkc : kc ≤ mc) (hks : ks ≤ ms) (hd : decode cc pc = .ok (.invokevirtual idx, 3))
    (k : ∀ v sh' h', Q' v sh' h' → ck_W cc nL own ret dp mc ms ini gr Q sh' h' kc ks (pc + 3) lv (v.toList ++ rest)) : ck_W cc nL own ret dp mc ms ini gr Q sh h kc ks pc lv st := by
  intro l D cA ad p e R s m args below meth c A H locs ls X hP hD hS hG hl
  obtain ⟨hx, hb, hml, hown, hts, hr, hlk, hK, hN, hA, hR, hin, hSt⟩ := id X
  subst hst
  obtain ⟨w1, w2, w3, w4, w5⟩ := hw
  refine ck_sz hP hG (fun hG1 hG2 => ?_)
  have hF : ∀ q, va_A (ck_wd ad cA h sh) H.size q → A q := fun q z => by
    rcases z with ⟨k9, e9, z⟩ | z
    · exact hD.2 k9 _ z
    · exact hA q (Nat.le_trans hS.1 z)
  have hT : GoodIn ck_T (wsV own idx y.cls y (Cond.code y cc' nL' ret' :: ck_T)) := ck_Gc h1 (ck_Gc h2.1 (ck_Gc h2.2 (ck_Gc w2 (ck_Gc w1 ck_GT))))
  have hstk : ((as.reverse ++ Value.ref (1000 + i) :: rest).map (ck_tr ad)) = (as.map (ck_tr ad)).reverse ++ Value.ref (ad (1000 + i)) :: rest.map (ck_tr ad) := by simp [List.map_append, ck_tr]
  have hrc : ∃ cell : Cell, H[ad (1000 + i)]? = some cell ∧ cell.vm.isStatics = false ∧ s.vm.findClass y.cls = some cell.cls := by
    obtain ⟨cell, z1, z2, z3, -⟩ := (hSt.1 i hi).1.kept hS.2.1
    exact ⟨cell, z1, z2, by rw [hyc]; exact z3⟩
  refine ck_go (va_runV (As := as.map (ck_tr ad)) (rest := rest.map (ck_tr ad)) (n := n) ⟨hx, hb, hml, hown, hts⟩ (hM l D cA ad H.size) (cwV n hts hT rfl rfl rfl ⟨rfl, w3, w4, w5⟩ ⟨by rw [hR]; exact hdp, by rw [hR]; exact hlo⟩) ⟨ck_blind, hrc, fun U hU hW => ⟨rfl, by rw [hU], by rw [hU]; exact hP, va_K.moved hW.alike hK, ck_Nmoved hW hN, hD.weaken (fun _ _ _ _ => trivial), hG1, by rw [hU]; exact ((hSt.kept hS.2.1).narrow hF).warm hW⟩⟩ rfl (by simpa using hn) hl.1 hstk (lv_room (by rw [ck_catmap]; exact hr8)) hd (by rw [hR]; exact ⟨hkc, hks⟩)) hS hF (fun v sh' h' H1 locs1 hq hP1 hD1 hS1 hG3 => ?_)
  have hk := k v sh' h' hq l D cA ad p e R s m args below meth c A H1 locs1 ls X hP1 hD1 hS1 (fun hg => by
    obtain ⟨g1, g2, g3, g4⟩ := hG3 hg
    have q := hG2 hg
    exact ⟨g1, by omega, g3, g4⟩) hl
  cases v with
  | none => exact hk
  | some v => exact hk
end CKS
theorem dJ0_length_8abf5_0 : decode cJ0_length_8abf5 0 = .ok (.aload_n 0, 1) := by decide +kernel
theorem dJ0_length_8abf5_1 : decode cJ0_length_8abf5 1 = .ok (.getfield 9, 3) := by decide +kernel
theorem dJ0_length_8abf5_4 : decode cJ0_length_8abf5 4 = .ok (.arraylength, 1) := by decide +kernel
theorem dJ0_length_8abf5_5 : decode cJ0_length_8abf5 5 = .ok (.aload_n 0, 1) := by decide +kernel
theorem dJ0_length_8abf5_6 : decode cJ0_length_8abf5 6 = .ok (.invokevirtual 335, 3) := by decide +kernel
theorem dJ0_length_8abf5_9 : decode cJ0_length_8abf5 9 = .ok (.ishr, 1) := by decide +kernel
theorem dJ0_length_8abf5_10 : decode cJ0_length_8abf5 10 = .ok (.ireturn, 1) := by decide +kernel
theorem dJ0_charAt_5068e_0 : decode cJ0_charAt_5068e 0 = .ok (.aload_n 0, 1) := by decide +kernel
theorem dJ0_charAt_5068e_1 : decode cJ0_charAt_5068e 1 = .ok (.invokevirtual 492, 3) := by decide +kernel
theorem dJ0_charAt_5068e_4 : decode cJ0_charAt_5068e 4 = .ok (.ifCond .eq 12, 3) := by decide +kernel
theorem dJ0_charAt_5068e_7 : decode cJ0_charAt_5068e 7 = .ok (.aload_n 0, 1) := by decide +kernel
theorem dJ0_charAt_5068e_8 : decode cJ0_charAt_5068e 8 = .ok (.getfield 9, 3) := by decide +kernel
theorem dJ0_charAt_5068e_11 : decode cJ0_charAt_5068e 11 = .ok (.iload_n 1, 1) := by decide +kernel
theorem dJ0_charAt_5068e_12 : decode cJ0_charAt_5068e 12 = .ok (.invokestatic 495, 3) := by decide +kernel
theorem dJ0_charAt_5068e_15 : decode cJ0_charAt_5068e 15 = .ok (.ireturn, 1) := by decide +kernel
theorem dJ0_charAt_5068e_16 : decode cJ0_charAt_5068e 16 = .ok (.aload_n 0, 1) := by decide +kernel
theorem dJ0_charAt_5068e_17 : decode cJ0_charAt_5068e 17 = .ok (.getfield 9, 3) := by decide +kernel
theorem dJ0_charAt_5068e_20 : decode cJ0_charAt_5068e 20 = .ok (.iload_n 1, 1) := by decide +kernel
theorem dJ0_charAt_5068e_21 : decode cJ0_charAt_5068e 21 = .ok (.invokestatic 498, 3) := by decide +kernel
theorem dJ0_charAt_5068e_24 : decode cJ0_charAt_5068e 24 = .ok (.ireturn, 1) := by decide +kernel
theorem dJ0_coder_7d493_0 : decode cJ0_coder_7d493 0 = .ok (.getstatic 38, 3) := by decide +kernel
theorem dJ0_coder_7d493_3 : decode cJ0_coder_7d493 3 = .ok (.ifCond .eq 10, 3) := by decide +kernel
theorem dJ0_coder_7d493_6 : decode cJ0_coder_7d493 6 = .ok (.aload_n 0, 1) := by decide +kernel
theorem dJ0_coder_7d493_7 : decode cJ0_coder_7d493 7 = .ok (.getfield 15, 3) := by decide +kernel
theorem dJ0_coder_7d493_10 : decode cJ0_coder_7d493 10 = .ok (.goto 4, 3) := by decide +kernel
theorem dJ0_coder_7d493_13 : decode cJ0_coder_7d493 13 = .ok (.iconst 1, 1) := by decide +kernel
theorem dJ0_coder_7d493_14 : decode cJ0_coder_7d493 14 = .ok (.ireturn, 1) := by decide +kernel
theorem dJ0_isLatin1_aae02_0 : decode cJ0_isLatin1_aae02 0 = .ok (.getstatic 38, 3) := by decide +kernel
theorem dJ0_isLatin1_aae02_3 : decode cJ0_isLatin1_aae02 3 = .ok (.ifCond .eq 14, 3) := by decide +kernel
theorem dJ0_isLatin1_aae02_6 : decode cJ0_isLatin1_aae02 6 = .ok (.aload_n 0, 1) := by decide +kernel
theorem dJ0_isLatin1_aae02_7 : decode cJ0_isLatin1_aae02 7 = .ok (.getfield 15, 3) := by decide +kernel
theorem dJ0_isLatin1_aae02_10 : decode cJ0_isLatin1_aae02 10 = .ok (.ifCond .ne 7, 3) := by decide +kernel
theorem dJ0_isLatin1_aae02_13 : decode cJ0_isLatin1_aae02 13 = .ok (.iconst 1, 1) := by decide +kernel
theorem dJ0_isLatin1_aae02_14 : decode cJ0_isLatin1_aae02 14 = .ok (.goto 4, 3) := by decide +kernel
theorem dJ0_isLatin1_aae02_17 : decode cJ0_isLatin1_aae02 17 = .ok (.iconst 0, 1) := by decide +kernel
theorem dJ0_isLatin1_aae02_18 : decode cJ0_isLatin1_aae02 18 = .ok (.ireturn, 1) := by decide +kernel
theorem dJ0_checkIndex_df160_0 : decode cJ0_checkIndex_df160 0 = .ok (.iload_n 0, 1) := by decide +kernel
theorem dJ0_checkIndex_df160_1 : decode cJ0_checkIndex_df160 1 = .ok (.iload_n 1, 1) := by decide +kernel
theorem dJ0_checkIndex_df160_2 : decode cJ0_checkIndex_df160 2 = .ok (.getstatic 1053, 3) := by decide +kernel
theorem dJ0_checkIndex_df160_5 : decode cJ0_checkIndex_df160 5 = .ok (.invokestatic 1059, 3) := by decide +kernel
theorem dJ0_checkIndex_df160_8 : decode cJ0_checkIndex_df160 8 = .ok (.pop, 1) := by decide +kernel
theorem dJ0_checkIndex_df160_9 : decode cJ0_checkIndex_df160 9 = .ok (.return_, 1) := by decide +kernel
theorem dJ1_charAt_3b067_0 : decode cJ1_charAt_3b067 0 = .ok (.iload_n 1, 1) := by decide +kernel
theorem dJ1_charAt_3b067_1 : decode cJ1_charAt_3b067 1 = .ok (.aload_n 0, 1) := by decide +kernel
theorem dJ1_charAt_3b067_2 : decode cJ1_charAt_3b067 2 = .ok (.arraylength, 1) := by decide +kernel
theorem dJ1_charAt_3b067_3 : decode cJ1_charAt_3b067 3 = .ok (.invokestatic 9, 3) := by decide +kernel
theorem dJ1_charAt_3b067_6 : decode cJ1_charAt_3b067 6 = .ok (.aload_n 0, 1) := by decide +kernel
theorem dJ1_charAt_3b067_7 : decode cJ1_charAt_3b067 7 = .ok (.iload_n 1, 1) := by decide +kernel
theorem dJ1_charAt_3b067_8 : decode cJ1_charAt_3b067 8 = .ok (.baload, 1) := by decide +kernel
theorem dJ1_charAt_3b067_9 : decode cJ1_charAt_3b067 9 = .ok (.sipush 255, 3) := by decide +kernel
theorem dJ1_charAt_3b067_12 : decode cJ1_charAt_3b067 12 = .ok (.iand, 1) := by decide +kernel
theorem dJ1_charAt_3b067_13 : decode cJ1_charAt_3b067 13 = .ok (.i2c, 1) := by decide +kernel
theorem dJ1_charAt_3b067_14 : decode cJ1_charAt_3b067 14 = .ok (.ireturn, 1) := by decide +kernel
theorem dJ3_checkIndex_8e157_0 : decode cJ3_checkIndex_8e157 0 = .ok (.iload_n 0, 1) := by decide +kernel
theorem dJ3_checkIndex_8e157_1 : decode cJ3_checkIndex_8e157 1 = .ok (.ifCond .lt 8, 3) := by decide +kernel
theorem dJ3_checkIndex_8e157_4 : decode cJ3_checkIndex_8e157 4 = .ok (.iload_n 0, 1) := by decide +kernel
theorem dJ3_checkIndex_8e157_5 : decode cJ3_checkIndex_8e157 5 = .ok (.iload_n 1, 1) := by decide +kernel
theorem dJ3_checkIndex_8e157_6 : decode cJ3_checkIndex_8e157 6 = .ok (.if_icmp .lt 10, 3) := by decide +kernel
theorem dJ3_checkIndex_8e157_9 : decode cJ3_checkIndex_8e157 9 = .ok (.aload_n 2, 1) := by decide +kernel
theorem dJ3_checkIndex_8e157_10 : decode cJ3_checkIndex_8e157 10 = .ok (.iload_n 0, 1) := by decide +kernel
theorem dJ3_checkIndex_8e157_11 : decode cJ3_checkIndex_8e157 11 = .ok (.iload_n 1, 1) := by decide +kernel
theorem dJ3_checkIndex_8e157_12 : decode cJ3_checkIndex_8e157 12 = .ok (.invokestatic 95, 3) := by decide +kernel
theorem dJ3_checkIndex_8e157_15 : decode cJ3_checkIndex_8e157 15 = .ok (.athrow, 1) := by decide +kernel
theorem dJ3_checkIndex_8e157_16 : decode cJ3_checkIndex_8e157 16 = .ok (.iload_n 0, 1) := by decide +kernel
theorem dJ3_checkIndex_8e157_17 : decode cJ3_checkIndex_8e157 17 = .ok (.ireturn, 1) := by decide +kernel
section CKT
variable {gr : Bool} {sh : List ck_C} {h : ck_H} {i : Nat}
theorem c_J0_coder {Q : Int32 → ck_H → Prop} (hi : i < 2) (hq : Q 0 h) : ck_M yJ0_coder_7d493 cJ0_coder_7d493 1 (some .byte) 2 0 0 gr sh h [.ref (1000 + i)] (ck_Qi sh Q) := by
  refine ck_entry (lv := [(0, .ref (1000 + i))]) false (own := RJ0) rfl (fun q => by cases q) (by decide) (Nat.le_of_ble_eq_true rfl) rfl ?_
  refine ck_getsC fj_J0_38 dJ0_coder_7d493_0 ?_
  refine ck_if_eq (tgt := 13) dJ0_coder_7d493_3 (by decide) (fun c => absurd c (by decide)) (fun _ => ?_)
  refine ck_aload_n 0 dJ0_coder_7d493_6 rfl rfl ?_
  refine ck_getSc hi fj_J0_15 dJ0_coder_7d493_7 ?_
  refine ck_goto (tgt := 14) dJ0_coder_7d493_10 (by decide) ?_
  exact ck_iret rfl (by decide) rfl rfl dJ0_coder_7d493_14 ⟨_, rfl, rfl, hq⟩
theorem c_J0_isLatin1 {Q : Int32 → ck_H → Prop} (hi : i < 2) (hq : Q 1 h) : ck_M yJ0_isLatin1_aae02 cJ0_isLatin1_aae02 1 (some .boolean) 2 0 0 gr sh h [.ref (1000 + i)] (ck_Qi sh Q) := by
  refine ck_entry (lv := [(0, .ref (1000 + i))]) false (own := RJ0) rfl (fun q => by cases q) (by decide) (Nat.le_of_ble_eq_true rfl) rfl ?_
  refine ck_getsC fj_J0_38 dJ0_isLatin1_aae02_0 ?_
  refine ck_if_eq (tgt := 17) dJ0_isLatin1_aae02_3 (by decide) (fun c => absurd c (by decide)) (fun _ => ?_)
  refine ck_aload_n 0 dJ0_isLatin1_aae02_6 rfl rfl ?_
  refine ck_getSc hi fj_J0_15 dJ0_isLatin1_aae02_7 ?_
  refine ck_if_ne (tgt := 17) dJ0_isLatin1_aae02_10 (by decide) (fun c => absurd rfl c) (fun _ => ?_)
  refine ck_iconst (v := 1) dJ0_isLatin1_aae02_13 (by decide) ?_
  refine ck_goto (tgt := 18) dJ0_isLatin1_aae02_14 (by decide) ?_
  exact ck_iret rfl (by decide) rfl rfl dJ0_isLatin1_aae02_18 ⟨_, rfl, rfl, hq⟩
theorem c_J0_length {Q : Int32 → ck_H → Prop} (hi : i < 2) (hq : Q 94 h) : ck_M yJ0_length_8abf5 cJ0_length_8abf5 1 (some .int) 3 0 0 gr sh h [.ref (1000 + i)] (ck_Qi sh Q) := by
  refine ck_entry (lv := [(0, .ref (1000 + i))]) false (own := RJ0) rfl (fun q => by cases q) (by decide) (Nat.le_of_ble_eq_true rfl) rfl ?_
  refine ck_aload_n 0 dJ0_length_8abf5_0 rfl rfl ?_
  refine ck_getSv hi fj_J0_9 dJ0_length_8abf5_1 ?_
  refine ck_alenS hi dJ0_length_8abf5_4 ?_
  refine ck_aload_n 0 dJ0_length_8abf5_5 rfl rfl ?_
  refine ck_callVS hi (c_J0_coder (Q := fun r h' => r = 0 ∧ h' = h) hi ⟨rfl, rfl⟩) rfl cal_J0_coder_7d493 rfl ml_J0_335 vir_J0_coder_7d493 rfl (by decide) (Nat.le_of_ble_eq_true rfl) (Nat.le_of_ble_eq_true rfl) (by decide) (by decide) dJ0_length_8abf5_6 ?_
  rintro _ _ h2 ⟨r, rfl, rfl, rfl, rfl⟩
  refine ck_ishr dJ0_length_8abf5_9 ?_
  exact ck_iret (v := 94) rfl rfl rfl rfl dJ0_length_8abf5_10 ⟨94, rfl, rfl, hq⟩
theorem c_J3_checkIndex {Q : Int32 → ck_H → Prop} {x : Int32} {v : Value} (hv : v = .null ∨ v = .ref 1020) (h0 : ¬ x < 0) (h1 : x < 94) (hq : Q x h) : ck_M yJ3_checkIndex_8e157 cJ3_checkIndex_8e157 3 (some .int) 2 0 0 gr sh h [.int x, .int 94, v] (ck_Qi sh Q) := by
  refine ck_entry (lv := [(0, .int x), (1, .int 94), (2, v)]) false (own := RJ3) rfl (fun q => by cases q) (by decide) (by rcases hv with rfl | rfl <;> exact Nat.le_of_ble_eq_true rfl) (by rcases hv with rfl | rfl <;> rfl) ?_
  refine ck_iload_n 0 dJ3_checkIndex_8e157_0 rfl rfl ?_
  refine ck_if_lt (tgt := 9) dJ3_checkIndex_8e157_1 (by decide) (fun c => absurd c h0) (fun _ => ?_)
  refine ck_iload_n 0 dJ3_checkIndex_8e157_4 rfl rfl ?_
  refine ck_iload_n 1 dJ3_checkIndex_8e157_5 rfl rfl ?_
  refine ck_icmp_lt (tgt := 16) dJ3_checkIndex_8e157_6 (by decide) (fun _ => ?_) (fun c => absurd h1 c)
  refine ck_iload_n 0 dJ3_checkIndex_8e157_16 rfl rfl ?_
  exact ck_iret rfl rfl rfl rfl dJ3_checkIndex_8e157_17 ⟨_, rfl, rfl, hq⟩
theorem c_J0_checkIndex {Q : ck_H → Prop} {x : Int32} (h0 : ¬ x < 0) (h1 : x < 94) (hq : Q h) : ck_M yJ0_checkIndex_df160 cJ0_checkIndex_df160 2 none 3 0 0 gr sh h [.int x, .int 94] (ck_Qv sh Q) := by
  refine ck_entry (lv := [(0, .int x), (1, .int 94)]) false (own := RJ0) rfl (fun q => by cases q) (by decide) (Nat.le_of_ble_eq_true rfl) rfl ?_
  refine ck_iload_n 0 dJ0_checkIndex_df160_0 rfl rfl ?_
  refine ck_iload_n 1 dJ0_checkIndex_df160_1 rfl rfl ?_
  refine ck_getsF fj_J0_1053 dJ0_checkIndex_df160_2 (fun v hv => ?_)
  refine ck_callS (c_J3_checkIndex (Q := fun r h' => h' = h) hv h0 h1 rfl) rfl cal_J3_checkIndex_8e157 rfl ml_J0_1059 sta_J3_checkIndex_8e157 (by decide) (Nat.le_of_ble_eq_true rfl) (Nat.le_of_ble_eq_true rfl) (by decide) (by decide) dJ0_checkIndex_df160_5 ?_
  rintro _ _ h2 ⟨r, rfl, rfl, rfl⟩
  refine ck_pop dJ0_checkIndex_df160_8 rfl ?_
  exact ck_vret rfl rfl rfl dJ0_checkIndex_df160_9 ⟨rfl, rfl, hq⟩
theorem ck_vpL {x : Int32} {n : Nat} (hn : n < 2 ^ 31) (h : vp_in x n) : ¬ x < 0 ∧ x < nI n := by
  obtain ⟨j, hj, rfl⟩ := vp_in_of h hn
  exact ⟨nI_pos (by omega), nI_lt hj (by omega)⟩
theorem ck_wb_ok : ∀ i, i < 2 → ∀ j, j < 94 → (((ck_wb i).getD j 0 &&& 255).toUInt32 % 65536).toInt32 = (ck_wb i).getD j 0 ∧ narrow .char (.int ((ck_wb i).getD j 0)) = .int ((ck_wb i).getD j 0) := by decide +kernel
theorem c_J1_charAt {Q : Int32 → ck_H → Prop} {x : Int32} (hi : i < 2) (hb : vp_in x 94) (hq : Q ((ck_wb i).getD x.toNatClampNeg 0) h) : ck_M yJ1_charAt_3b067 cJ1_charAt_3b067 2 (some .char) 4 0 0 gr sh h [.ref (1010 + i), .int x] (ck_Qi sh Q) := by
  obtain ⟨h0, h1⟩ := ck_vpL (by decide) hb
  have hj : x.toNatClampNeg < 94 := Nat.not_le.mp fun q => hb (Or.inr q)
  refine ck_entry (lv := [(0, .ref (1010 + i)), (1, .int x)]) false (own := RJ1) rfl (fun q => by cases q) (by decide) (Nat.le_of_ble_eq_true rfl) rfl ?_
  refine ck_iload_n 1 dJ1_charAt_3b067_0 rfl rfl ?_
  refine ck_aload_n 0 dJ1_charAt_3b067_1 rfl rfl ?_
  refine ck_alenS hi dJ1_charAt_3b067_2 ?_
  refine ck_callS (c_J0_checkIndex (Q := fun h' => h' = h) h0 h1 rfl) rfl cal_J0_checkIndex_df160 rfl ml_J1_9 sta_J0_checkIndex_df160 (by decide) (Nat.le_of_ble_eq_true rfl) (Nat.le_of_ble_eq_true rfl) (by decide) (by decide) dJ1_charAt_3b067_3 ?_
  rintro _ _ h2 ⟨rfl, rfl, rfl⟩
  refine ck_aload_n 0 dJ1_charAt_3b067_6 rfl rfl ?_
  refine ck_iload_n 1 dJ1_charAt_3b067_7 rfl rfl ?_
  refine ck_baldS hi hb dJ1_charAt_3b067_8 ?_
  refine ck_sipush (v := 255) dJ1_charAt_3b067_9 (by decide) ?_
  refine ck_iand dJ1_charAt_3b067_12 ?_
  refine ck_i2c dJ1_charAt_3b067_13 ?_
  obtain ⟨e1, e2⟩ := ck_wb_ok i hi _ hj
  rw [e1]
  exact ck_iret rfl e2 rfl rfl dJ1_charAt_3b067_14 ⟨_, rfl, rfl, hq⟩
theorem c_J0_charAt {Q : Int32 → ck_H → Prop} {x : Int32} (hi : i < 2) (hb : vp_in x 94) (hq : Q ((ck_wb i).getD x.toNatClampNeg 0) h) : ck_M yJ0_charAt_5068e cJ0_charAt_5068e 2 (some .char) 5 0 0 gr sh h [.ref (1000 + i), .int x] (ck_Qi sh Q) := by
  have hj : x.toNatClampNeg < 94 := Nat.not_le.mp fun q => hb (Or.inr q)
  refine ck_entry (lv := [(0, .ref (1000 + i)), (1, .int x)]) false (own := RJ0) rfl (fun q => by cases q) (by decide) (Nat.le_of_ble_eq_true rfl) rfl ?_
  refine ck_aload_n 0 dJ0_charAt_5068e_0 rfl rfl ?_
  refine ck_callVS hi (c_J0_isLatin1 (Q := fun r h' => r = 1 ∧ h' = h) hi ⟨rfl, rfl⟩) rfl cal_J0_isLatin1_aae02 rfl ml_J0_492 vir_J0_isLatin1_aae02 rfl (by decide) (Nat.le_of_ble_eq_true rfl) (Nat.le_of_ble_eq_true rfl) (by decide) (by decide) dJ0_charAt_5068e_1 ?_
  rintro _ _ h2 ⟨r, rfl, rfl, rfl, rfl⟩
  refine ck_if_eq (tgt := 16) dJ0_charAt_5068e_4 (by decide) (fun c => absurd c (by decide)) (fun _ => ?_)
  refine ck_aload_n 0 dJ0_charAt_5068e_7 rfl rfl ?_
  refine ck_getSv hi fj_J0_9 dJ0_charAt_5068e_8 ?_
  refine ck_iload_n 1 dJ0_charAt_5068e_11 rfl rfl ?_
  refine ck_callS (c_J1_charAt (Q := fun r h' => r = (ck_wb i).getD x.toNatClampNeg 0 ∧ h' = h2) hi hb ⟨rfl, rfl⟩) rfl cal_J1_charAt_3b067 rfl ml_J0_495 sta_J1_charAt_3b067 (by decide) (Nat.le_of_ble_eq_true rfl) (Nat.le_of_ble_eq_true rfl) (by decide) (by decide) dJ0_charAt_5068e_12 ?_
  rintro _ _ h3 ⟨r, rfl, rfl, rfl, rfl⟩
  exact ck_iret rfl (ck_wb_ok i hi _ hj).2 rfl rfl dJ0_charAt_5068e_15 ⟨_, rfl, rfl, hq⟩
end CKT
def ck_chX (i : Int32) : Int32 := (ck_wb 0).getD i.toNatClampNeg 0
def ck_chM (i : Int32) : Int32 := (ck_wb 1).getD i.toNatClampNeg 0
section CKU
variable {cc : ByteArray} {nL : Nat} {own : String} {ret : Option FieldType} {dp mc ms : Nat} {ini gr : Bool} {Q : Option Value → List ck_C → ck_H → Prop} {sh : List ck_C} {h : ck_H} {kc ks pc idx : Nat} {lv : List (Nat × Value)} {rest : List Value}
theorem ck_slenX (hl9 : Cond.methodLink own idx yJ0_length_8abf5 ∈ ck_T) (hdp : 7 ≤ dp) (hr8 : (rest.map fun v => v.category).sum ≤ 8) (hkc : kc ≤ mc) (hks : ks ≤ ms) (hd : decode cc pc = .ok (.invokevirtual idx, 3)) (k : ck_W cc nL own ret dp mc ms ini gr Q sh h kc ks (pc + 3) lv (.int 94 :: rest)) : ck_W cc nL own ret dp mc ms ini gr Q sh h kc ks pc lv (.ref 1000 :: rest) := by
  refine ck_callVS (i := 0) (by decide) (c_J0_length (Q := fun r h' => r = 94 ∧ h' = h) (by decide) ⟨rfl, rfl⟩) rfl cal_J0_length_8abf5 rfl hl9 vir_J0_length_8abf5 rfl (by omega) (by omega) hr8 hkc hks hd ?_
  rintro _ _ h2 ⟨r, rfl, rfl, rfl, rfl⟩
  exact k
theorem ck_chatX {x : Int32} (hl9 : Cond.methodLink own idx yJ0_charAt_5068e ∈ ck_T) (hb : vp_in x 94) (hdp : 7 ≤ dp) (hr8 : (rest.map fun v => v.category).sum ≤ 8) (hkc : kc ≤ mc) (hks : ks ≤ ms) (hd : decode cc pc = .ok (.invokevirtual idx, 3)) (k : ck_W cc nL own ret dp mc ms ini gr Q sh h kc ks (pc + 3) lv (.int (ck_chX x) :: rest)) : ck_W cc nL own ret dp mc ms ini gr Q sh h kc ks pc lv (.int x :: .ref 1000 :: rest) := by
  refine ck_callVS (i := 0) (as := [.int x]) (by decide) (c_J0_charAt (Q := fun r h' => r = ck_chX x ∧ h' = h) (by decide) hb ⟨rfl, rfl⟩) rfl cal_J0_charAt_5068e rfl hl9 vir_J0_charAt_5068e rfl (by omega) (by omega) hr8 hkc hks hd ?_
  rintro _ _ h2 ⟨r, rfl, rfl, rfl, rfl⟩
  exact k
theorem ck_slenM (hl9 : Cond.methodLink own idx yJ0_length_8abf5 ∈ ck_T) (hdp : 7 ≤ dp) (hr8 : (rest.map fun v => v.category).sum ≤ 8) (hkc : kc ≤ mc) (hks : ks ≤ ms) (hd : decode cc pc = .ok (.invokevirtual idx, 3)) (k : ck_W cc nL own ret dp mc ms ini gr Q sh h kc ks (pc + 3) lv (.int 94 :: rest)) : ck_W cc nL own ret dp mc ms ini gr Q sh h kc ks pc lv (.ref 1001 :: rest) := by
  refine ck_callVS (i := 1) (by decide) (c_J0_length (Q := fun r h' => r = 94 ∧ h' = h) (by decide) ⟨rfl, rfl⟩) rfl cal_J0_length_8abf5 rfl hl9 vir_J0_length_8abf5 rfl (by omega) (by omega) hr8 hkc hks hd ?_
  rintro _ _ h2 ⟨r, rfl, rfl, rfl, rfl⟩
  exact k
theorem ck_chatM {x : Int32} (hl9 : Cond.methodLink own idx yJ0_charAt_5068e ∈ ck_T) (hb : vp_in x 94) (hdp : 7 ≤ dp) (hr8 : (rest.map fun v => v.category).sum ≤ 8) (hkc : kc ≤ mc) (hks : ks ≤ ms) (hd : decode cc pc = .ok (.invokevirtual idx, 3)) (k : ck_W cc nL own ret dp mc ms ini gr Q sh h kc ks (pc + 3) lv (.int (ck_chM x) :: rest)) : ck_W cc nL own ret dp mc ms ini gr Q sh h kc ks pc lv (.int x :: .ref 1001 :: rest) := by
  refine ck_callVS (i := 1) (as := [.int x]) (by decide) (c_J0_charAt (Q := fun r h' => r = ck_chM x ∧ h' = h) (by decide) hb ⟨rfl, rfl⟩) rfl cal_J0_charAt_5068e rfl hl9 vir_J0_charAt_5068e rfl (by omega) (by omega) hr8 hkc hks hd ?_
  rintro _ _ h2 ⟨r, rfl, rfl, rfl, rfl⟩
  exact k
end CKU
