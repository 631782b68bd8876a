/-! calls: the callee's world is the whole one -/
def ck_cal (y : MethodName) (cc : ByteArray) (nL : Nat) (ret : Option FieldType) (n : Nat) : Prop :=
  Cond.code y cc nL ret ∈ ck_T ∧ Cond.initialized y.cls ∈ ck_T ∧ y.cls ≠ "java/lang/invoke/MethodHandle" ∧ y.cls ≠ "java/lang/invoke/VarHandle" ∧ (parseMethodDescriptor y.desc).map (fun d => d.parameters.length) = some n
theorem ck_GT : GoodIn ck_T ck_T := fun w h => ⟨h, good_of_word (ck_good w h)⟩
theorem ck_Gc {w : Cond} (hw : w ∈ ck_T) {ws : List Cond} (h : GoodIn ck_T ws) : GoodIn ck_T (w :: ws) := fun v hv => by
  rcases List.mem_cons.mp hv with rfl | hv
  · exact ⟨hw, good_of_word (ck_good _ hw)⟩
  · exact h v hv
theorem ck_catmap (ad : Nat → Nat) (st : List Value) : ((st.map (ck_tr ad)).map fun v => v.category) = st.map fun v => v.category := by
  simp [List.map_map, Function.comp_def, ck_tr_cat]
section CKG
variable {p : Program} {l : Launch} {e : Env} {R : Room} {s : State} {m : MethodId} {args : Array Value} {below : List Frame} {meth : Method} {c : Code} {H : Heap} {locs : List Loc} {cells slots : Nat} {Qs : State → Prop}
theorem ck_go {D : va_G} {cA : Nat → ClassId} {ad : Nat → Nat} {A A1 : Nat → Prop} {gr : Bool} {pc mc' ms' : Nat} {ls : Array Slot} {st0 rest : List Value} {a : Array Value} {Q' : Option Value → List ck_C → ck_H → Prop}
    (hr : va_Run p l e R s m args below meth c H locs cells slots mc' ms' (F0 m pc ls st0) rest (ck_Q D cA ad A1 gr mc' Q' a) A1) (hS : va_S A s.heap H locs) (hA : ∀ q, A1 q → A q)
    (kk : ∀ (v : Option Value) (sh' : List ck_C) (h' : ck_H) (H1 : Heap) (locs1 : List Loc), Q' v sh' h' → va_P D vwCl (ck_wd ad cA h' sh') H1 → va_D A (ck_wd ad cA h' sh') → va_S A s.heap H1 locs1 → ck_gr gr ad (H.size + mc') sh' → W p l e R s m args below meth c H1 locs1 (cells + mc') (slots + ms') Qs (F0 m (pc + 3) ls ((v.map (ck_tr ad)).toList ++ rest))) : W p l e R s m args below meth c H locs cells slots Qs (F0 m pc ls st0) := by
  intro T hT X
  obtain ⟨v, st₀, t, T', L, h0, X', hL, e1, e2, ⟨⟨v', sh', h', hv, hq, hP1, hK1, hD1, hG1⟩, hz, hk⟩, st⟩ := hr T hT X
  cases hv
  rw [h0] at hz hk hG1
  obtain ⟨t2, a1, b1⟩ := kk v' sh' h' T'.heap (locs ++ L) hq (by rw [e1]; exact hP1) (hD1.weaken (fun _ _ _ z => hA _ z))
    ⟨Nat.le_trans hS.1 (by rw [e1]; exact hz), fun q h1 h2 => by rw [e1, hk q (Nat.lt_of_lt_of_le h1 hS.1) (fun z => h2 (hA q z))]; exact hS.2.1 q h1 h2, fun q hq => by
      rcases List.mem_append.mp hq with h | h
      · exact hS.2.2 q h
      · exact hA _ (hL q h)⟩ hG1 T' rfl X'
  exact ⟨t2, st t2 a1, b1⟩
theorem ck_size {D : va_G} {cA : Nat → ClassId} {ad : Nat → Nat} {gr : Bool} {sh : List ck_C} {h : ck_H} {T : State} (hP : va_P D vwCl (ck_wd ad cA h sh) H) (hG : ck_gr gr ad (s.heap.size + cells) sh) (hg : gr = true) (hT : T.heap = H) (X : Stand p l e R s m args below meth c T locs cells slots) : H.size = ad 0 + sh.length := by
  obtain ⟨g1, g2, g3, g4⟩ := hG hg
  have q1 := X.heapSize
  rw [hT] at q1
  have hlt : sh.length - 1 < sh.length := by omega
  have q2 := (hP (sh.length - 1) (ad (sh.length - 1), ck_cv ad cA h (sh.length - 1) (sh[sh.length - 1])) (by simp [ck_wd, hlt])).lt
  have q3 := g1 (sh.length - 1) (by omega)
  dsimp only at q2
  omega
end CKG
section CKC
variable {cc : ByteArray} {nL : Nat} {own : String} {ret : Option FieldType} {dp mc ms : Nat} {ini gr : Bool} {Q : Option Value → List ck_C → ck_H → Prop} {sh : List ck_C} {h : ck_H} {kc ks pc : Nat} {lv : List (Nat × Value)} {rest st : List Value}
variable {y : MethodName} {cc' : ByteArray} {nL' dp' mc' ms' n idx : Nat} {ret' : Option FieldType} {as : List Value} {Q' : Option Value → List ck_C → ck_H → Prop}
theorem ck_sz {D : va_G} {cA : Nat → ClassId} {ad : Nat → Nat} {p : Program} {l : Launch} {e : Env} {R : Room} {s : State} {m : MethodId} {args : Array Value} {below : List Frame} {meth : Method} {c : Code} {H : Heap} {locs : List Loc} {Qs : State → Prop} {g : JFrame} (hP : va_P D vwCl (ck_wd ad cA h sh) H) (hG : ck_gr gr ad (s.heap.size + kc) sh) (k : ck_gr gr ad H.size sh → (gr = true → H.size = s.heap.size + kc) → W p l e R s m args below meth c H locs kc ks Qs g) : W p l e R s m args below meth c H locs kc ks Qs g := by
  intro T hT X
  refine k (fun hg => ?_) (fun hg => ?_) T hT X
  · have q := ck_size hP hG hg hT X
    exact ⟨(hG hg).1, q, (hG hg).2.2⟩
  · have q := ck_size hP hG hg hT X
    have q2 := (hG hg).2.1
    omega
theorem ck_callV {b ci N : Nat} {fs : List ck_F} {T : u_T} (hM : ck_M y cc' nL' ret' dp' mc' ms' gr sh h (.ref b :: as) Q') (hst : st = as.reverse ++ .ref b :: rest) (hw : ck_cal y cc' nL' ret' n) (hn : as.length = n) (h1 : Cond.methodLink own idx y ∈ ck_T) (h2 : Cond.instanceMethod y ∈ ck_T ∧ Cond.selects y.cls y y ∈ ck_T)
    (hs : sh[b]? = some (.inl (ci, fs))) (hc : vwCl[ci]? = some (y.cls, T, N)) (hdp : dp' + 1 ≤ dp) (hlo : 8 + (nL' + 11) + 64 * dp' ≤ 64 * dp) (hr8 : (rest.map fun v => v.category).sum ≤ 8) (hkc : kc + mc' ≤ mc) (hks : ks + ms' ≤ ms) (hd : decode cc pc = .ok (.invokevirtual idx, 3))
    (k : ∀ v sh' h', Q' v sh' h' → ck_W cc nL own ret dp mc ms ini gr Q sh' h' (kc + mc') (ks + ms') (pc + 3) lv (v.toList ++ rest)) : ck_W cc nL own ret dp mc ms ini gr Q sh h kc ks pc lv st := by
  intro l D cA ad p e R s m args below meth c A H locs ls X hP hD hS hG hl
  obtain ⟨hx, hb, hml, hown, hts, hr, hlk, hK, hN, hA, hR, hin, hSt⟩ := id X
  subst hst
  obtain ⟨w1, w2, w3, w4, w5⟩ := hw
  refine ck_sz hP hG (fun hG1 hG2 => ?_)
  have hF : ∀ q, va_A (ck_wd ad cA h sh) H.size q → A q := fun q z => by
    rcases z with ⟨k9, e9, z⟩ | z
    · exact hD.2 k9 _ z
    · exact hA q (Nat.le_trans hS.1 z)
  have hT : GoodIn ck_T (wsV own idx y.cls y (Cond.code y cc' nL' ret' :: ck_T)) := ck_Gc h1 (ck_Gc h2.1 (ck_Gc h2.2 (ck_Gc w2 (ck_Gc w1 ck_GT))))
  have hstk : ((as.reverse ++ Value.ref b :: rest).map (ck_tr ad)) = (as.map (ck_tr ad)).reverse ++ Value.ref (ad b) :: rest.map (ck_tr ad) := by simp [List.map_append, ck_tr]
  refine ck_go (va_runV (As := as.map (ck_tr ad)) (rest := rest.map (ck_tr ad)) (n := n) ⟨hx, hb, hml, hown, hts⟩ (hM l D cA ad H.size) (cwV n hts hT rfl rfl rfl ⟨rfl, w3, w4, w5⟩ ⟨by rw [hR]; exact hdp, by rw [hR]; exact hlo⟩) ⟨ck_blind, va_recv hK hP hc (ck_wd_at hs), fun U hU hW => ⟨rfl, by rw [hU], by rw [hU]; exact hP, va_K.moved hW.alike hK, ck_Nmoved hW hN, hD.weaken (fun _ _ _ _ => trivial), hG1, by rw [hU]; exact ((hSt.kept hS.2.1).narrow hF).warm hW⟩⟩ rfl (by simpa using hn) hl.1 hstk (lv_room (by rw [ck_catmap]; exact hr8)) hd (by rw [hR]; exact ⟨hkc, hks⟩)) hS hF (fun v sh' h' H1 locs1 hq hP1 hD1 hS1 hG3 => ?_)
  have hk := k v sh' h' hq l D cA ad p e R s m args below meth c A H1 locs1 ls X hP1 hD1 hS1 (fun hg => by
    obtain ⟨g1, g2, g3, g4⟩ := hG3 hg
    have q := hG2 hg
    exact ⟨g1, by omega, g3, g4⟩) hl
  cases v with
  | none => exact hk
  | some v => exact hk
theorem ck_callS (hM : ck_M y cc' nL' ret' dp' mc' ms' gr sh h as Q') (hst : st = as.reverse ++ rest) (hw : ck_cal y cc' nL' ret' n) (hn : as.length = n) (h1 : Cond.methodLink own idx y ∈ ck_T) (h2 : Cond.static y ∈ ck_T)
    (hdp : dp' + 1 ≤ dp) (hlo : 8 + (nL' + 11) + 64 * dp' ≤ 64 * dp) (hr8 : (rest.map fun v => v.category).sum ≤ 8) (hkc : kc + mc' ≤ mc) (hks : ks + ms' ≤ ms) (hd : decode cc pc = .ok (.invokestatic idx, 3))
    (k : ∀ v sh' h', Q' v sh' h' → ck_W cc nL own ret dp mc ms ini gr Q sh' h' (kc + mc') (ks + ms') (pc + 3) lv (v.toList ++ rest)) : ck_W cc nL own ret dp mc ms ini gr Q sh h kc ks pc lv st := by
  intro l D cA ad p e R s m args below meth c A H locs ls X hP hD hS hG hl
  obtain ⟨hx, hb, hml, hown, hts, hr, hlk, hK, hN, hA, hR, hin, hSt⟩ := id X
  subst hst
  obtain ⟨w1, w2, w3, w4, w5⟩ := hw
  refine ck_sz hP hG (fun hG1 hG2 => ?_)
  have hF : ∀ q, va_A (ck_wd ad cA h sh) H.size q → A q := fun q z => by
    rcases z with ⟨k9, e9, z⟩ | z
    · exact hD.2 k9 _ z
    · exact hA q (Nat.le_trans hS.1 z)
  have hT : GoodIn ck_T (Cond.code y cc' nL' ret' :: ck_T) := ck_Gc w1 ck_GT
  have hstk : ((as.reverse ++ rest).map (ck_tr ad)) = (as.map (ck_tr ad)).reverse ++ rest.map (ck_tr ad) := by simp [List.map_append]
  refine ck_go (va_runS (As := as.map (ck_tr ad)) (rest := rest.map (ck_tr ad)) (n := n) ⟨hx, hb, hml, hown, hts⟩ (hM l D cA ad H.size) ⟨callB_of n hts hT rfl rfl rfl (hts _ w2) (hts _ h1) ⟨w3, w4, w5⟩ ⟨by rw [hR]; exact hdp, by rw [hR]; exact hlo⟩, hts _ h2⟩ ⟨ck_blind, fun U hU hW => ⟨rfl, by rw [hU], by rw [hU]; exact hP, va_K.moved hW.alike hK, ck_Nmoved hW hN, hD.weaken (fun _ _ _ _ => trivial), hG1, by rw [hU]; exact ((hSt.kept hS.2.1).narrow hF).warm hW⟩⟩ rfl (by simpa using hn) hl.1 hstk (lv_room (by rw [ck_catmap]; exact hr8)) hd (by rw [hR]; exact ⟨hkc, hks⟩)) hS hF (fun v sh' h' H1 locs1 hq hP1 hD1 hS1 hG3 => ?_)
  have hk := k v sh' h' hq l D cA ad p e R s m args below meth c A H1 locs1 ls X hP1 hD1 hS1 (fun hg => by
    obtain ⟨g1, g2, g3, g4⟩ := hG3 hg
    have q := hG2 hg
    exact ⟨g1, by omega, g3, g4⟩) hl
  cases v with
  | none => exact hk
  | some v => exact hk
theorem ck_callI {b : Nat} (hM : ck_M y cc' nL' none dp' mc' ms' gr sh h (.ref b :: as) Q') (hst : st = as.reverse ++ .ref b :: rest) (hw : ck_cal y cc' nL' none n) (hn : as.length = n) (h1 : Cond.methodLink own idx y ∈ ck_T) (h2 : Cond.instanceMethod y ∈ ck_T) (hy : y.name = "<init>")
    (hdp : dp' + 1 ≤ dp) (hlo : 8 + (nL' + 11) + 64 * dp' ≤ 64 * dp) (hr8 : (rest.map fun v => v.category).sum ≤ 8) (hkc : kc + mc' ≤ mc) (hks : ks + ms' ≤ ms) (hd : decode cc pc = .ok (.invokespecial idx, 3))
    (k : ∀ v sh' h', Q' v sh' h' → ck_W cc nL own ret dp mc ms ini gr Q sh' h' (kc + mc') (ks + ms') (pc + 3) lv (v.toList ++ rest)) : ck_W cc nL own ret dp mc ms ini gr Q sh h kc ks pc lv st := by
  intro l D cA ad p e R s m args below meth c A H locs ls X hP hD hS hG hl
  obtain ⟨hx, hb, hml, hown, hts, hr, hlk, hK, hN, hA, hR, hin, hSt⟩ := id X
  subst hst
  obtain ⟨w1, w2, w3, w4, w5⟩ := hw
  refine ck_sz hP hG (fun hG1 hG2 => ?_)
  have hF : ∀ q, va_A (ck_wd ad cA h sh) H.size q → A q := fun q z => by
    rcases z with ⟨k9, e9, z⟩ | z
    · exact hD.2 k9 _ z
    · exact hA q (Nat.le_trans hS.1 z)
  have hT : GoodIn ck_T (Cond.code y cc' nL' none :: ck_T) := ck_Gc w1 ck_GT
  have hstk : ((as.reverse ++ Value.ref b :: rest).map (ck_tr ad)) = (as.map (ck_tr ad)).reverse ++ Value.ref (ad b) :: rest.map (ck_tr ad) := by simp [List.map_append, ck_tr]
  refine ck_go (va_runI (As := as.map (ck_tr ad)) (rest := rest.map (ck_tr ad)) (n := n) ⟨hx, hb, hml, hown, hts⟩ (hM l D cA ad H.size) (cwI n hts hT rfl rfl rfl (hts _ w2) (hts _ h1) (hts _ h2) hy ⟨w3, w4, w5⟩ ⟨by rw [hR]; exact hdp, by rw [hR]; exact hlo⟩) ⟨ck_blind, fun U hU hW => ⟨rfl, by rw [hU], by rw [hU]; exact hP, va_K.moved hW.alike hK, ck_Nmoved hW hN, hD.weaken (fun _ _ _ _ => trivial), hG1, by rw [hU]; exact ((hSt.kept hS.2.1).narrow hF).warm hW⟩⟩ rfl (by simpa using hn) hl.1 hstk (lv_room (by rw [ck_catmap]; exact hr8)) hd (by rw [hR]; exact ⟨hkc, hks⟩)) hS hF (fun v sh' h' H1 locs1 hq hP1 hD1 hS1 hG3 => ?_)
  have hk := k v sh' h' hq l D cA ad p e R s m args below meth c A H1 locs1 ls X hP1 hD1 hS1 (fun hg => by
    obtain ⟨g1, g2, g3, g4⟩ := hG3 hg
    have q := hG2 hg
    exact ⟨g1, by omega, g3, g4⟩) hl
  cases v with
  | none => exact hk
  | some v => exact hk
theorem ck_callIN {b : Nat} {host : String} (hM : ck_M y cc' nL' none dp' mc' ms' gr sh h (.ref b :: as) Q') (hst : st = as.reverse ++ .ref b :: rest) (hw : ck_cal y cc' nL' none n) (hn : as.length = n) (h1 : Cond.methodLinkNest own idx y host ∈ ck_N) (h2 : Cond.instanceMethod y ∈ ck_T) (hy : y.name = "<init>")
    (hdp : dp' + 1 ≤ dp) (hlo : 8 + (nL' + 11) + 64 * dp' ≤ 64 * dp) (hr8 : (rest.map fun v => v.category).sum ≤ 8) (hkc : kc + mc' ≤ mc) (hks : ks + ms' ≤ ms) (hd : decode cc pc = .ok (.invokespecial idx, 3))
    (k : ∀ v sh' h', Q' v sh' h' → ck_W cc nL own ret dp mc ms ini gr Q sh' h' (kc + mc') (ks + ms') (pc + 3) lv (v.toList ++ rest)) : ck_W cc nL own ret dp mc ms ini gr Q sh h kc ks pc lv st := by
  intro l D cA ad p e R s m args below meth c A H locs ls X hP hD hS hG hl
  obtain ⟨hx, hb, hml, hown, hts, hr, hlk, hK, hN, hA, hR, hin, hSt⟩ := id X
  subst hst
  obtain ⟨w1, w2, w3, w4, w5⟩ := hw
  refine ck_sz hP hG (fun hG1 hG2 => ?_)
  have hF : ∀ q, va_A (ck_wd ad cA h sh) H.size q → A q := fun q z => by
    rcases z with ⟨k9, e9, z⟩ | z
    · exact hD.2 k9 _ z
    · exact hA q (Nat.le_trans hS.1 z)
  have hT : GoodIn ck_T (Cond.code y cc' nL' none :: ck_T) := ck_Gc w1 ck_GT
  have hstk : ((as.reverse ++ Value.ref b :: rest).map (ck_tr ad)) = (as.map (ck_tr ad)).reverse ++ Value.ref (ad b) :: rest.map (ck_tr ad) := by simp [List.map_append, ck_tr]
  refine ck_go (va_runIN (As := as.map (ck_tr ad)) (rest := rest.map (ck_tr ad)) (n := n) ⟨hx, hb, hml, hown, hts⟩ (hM l D cA ad H.size) ⟨va_cnB n hts hT rfl rfl rfl (hN _ h1) (hts _ w2) ⟨w3, w4, w5⟩ ⟨by rw [hR]; exact hdp, by rw [hR]; exact hlo⟩, hy, hts _ h2⟩ ⟨ck_blind, fun U hU hW => ⟨rfl, by rw [hU], by rw [hU]; exact hP, va_K.moved hW.alike hK, ck_Nmoved hW hN, hD.weaken (fun _ _ _ _ => trivial), hG1, by rw [hU]; exact ((hSt.kept hS.2.1).narrow hF).warm hW⟩⟩ rfl (by simpa using hn) hl.1 hstk (lv_room (by rw [ck_catmap]; exact hr8)) hd (by rw [hR]; exact ⟨hkc, hks⟩)) hS hF (fun v sh' h' H1 locs1 hq hP1 hD1 hS1 hG3 => ?_)
  have hk := k v sh' h' hq l D cA ad p e R s m args below meth c A H1 locs1 ls X hP1 hD1 hS1 (fun hg => by
    obtain ⟨g1, g2, g3, g4⟩ := hG3 hg
    have q := hG2 hg
    exact ⟨g1, by omega, g3, g4⟩) hl
  cases v with
  | none => exact hk
  | some v => exact hk
end CKC
