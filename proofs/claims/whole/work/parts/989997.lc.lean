/-! THE CLAIM OUT OF ONE WALK OF THE LAW'S BODY. Your part is whole_start (and what it stands on); all else here is the same for every law, but numbers. -/
def R_law : String := "JawBenchLaw"
def lw_P (b : Addr) (xs : List Int32) (args : Array Value) (s : State) : Prop := args = #[.ref b] ∧ s.IntsAt b xs ∧ xs.length ≤ 3072 ∧ (Jvm.Cond.and given_1 narrow_1).before args s = true
def lw_Q (_ : Array Value) (s : State) (o : Outcome) (t : State) : Prop := o = .returned (some (.int 1)) ∧ Framed s o t [] 601024 7293033
def lw_Z (below : List Frame) (a : Array Value) (s : State) : State → Prop := fun t => ∃ o, t.status = .running ∧ Ended t below o ∧ lw_Q a s o t
/-- the law's own end, with 1 on the stack, nothing written that was there before, its room as the claim has it -/
theorem lw_ret {p : Program} {l : Launch} {e : Env} {s : State} {m : MethodId} {below : List Frame} {meth : Method} {c : Code} {b : Nat} (hx : p.tables.exec = Jvm.exec) (hb : c.code = code) (hr : meth.sig.returnType = ret) (hlocks : meth.locks = false) {pc : Nat} {H : Heap} {ls : Array Slot} (hdg : decode code pc = .ok (.ireturn, 1)) : W p l e room_1 s m #[Value.ref b] below meth c H [] 601024 7293033 (lw_Z below #[Value.ref b] s) (F0 m pc ls [.int 1]) := by
  intro T hT X
  obtain ⟨fs, hret, hrun, hended, hW, hframe⟩ := X.leave (v := some (.int 1)) (hlocks := hlocks) (fun h => by rw [hr] at h; cases h)
  have hmeth' : T.vm.method? m = some meth := X.method'
  refine ⟨T.setFrames fs, ?_, .returned (some (.int 1)), hrun, hended, rfl, ⟨_, rfl⟩, hW, hframe⟩
  jvm_step X.here [X.here.top, hx, hb, hdg, hmeth', hr, ret, narrow_b1]
  (try refine ⟨rfl, ?_⟩); (try refine ⟨rfl, ?_⟩)
  first | (intro acts; rw [hret _ acts rfl rfl rfl]) | rw [hret _ _ rfl rfl rfl]
  exact Steps.refl _
/-- what holds at the law's entry: the machine, the code, the tables' words (any of lw_tbl by 'hts w (by decide +kernel)'), the script of L ints xs at the cell b, what the Statement gives of the start (any of its parts by flat_of_before) -/
def lw_At (p : Program) (s : State) (m : MethodId) (meth : Method) (c : Code) (b L : Nat) (xs : Nat → Int32) : Prop :=
  p.tables.exec = Jvm.exec ∧ c.code = code ∧ meth.sig.returnType = ret ∧ c.maxLocals = 7 ∧ s.vm.findClass R_law = some m.cls ∧ (∀ w ∈ lw_tbl, w.before #[Value.ref b] s = true) ∧ va_X b L xs s s.heap ∧ b < s.heap.size ∧ meth.locks = false ∧ (Jvm.Cond.and given_1 narrow_1).before #[Value.ref b] s = true

/-! calls out of the law's body -/
section LWC
variable {p : Program} {l : Launch} {e : Env} {s : State} {m : MethodId} {below : List Frame} {meth : Method} {c : Code} {b L : Nat} {xs : Nat → Int32} {D : va_G} {cA : Nat → ClassId}
/-- what stands all along the law's walk -/
def lwK (p : Program) (s : State) (m : MethodId) (meth : Method) (c : Code) (b L : Nat) (xs : Nat → Int32) (D : va_G) (cA : Nat → ClassId) : Prop := lw_At p s m meth c b L xs ∧ va_K D vwCl (ck_ty cA) s ∧ (∀ w ∈ ck_N, va_Nw w s)
theorem lw_T (C : lw_At p s m meth c b L xs) : ∀ w ∈ ck_T, w.before #[Value.ref b] s = true := fun w hw => C.2.2.2.2.2.1 w (List.mem_filter.mp hw).1
theorem lw_callV {y : MethodName} {cc' : ByteArray} {nL' dp' n idx ci N : Nat} {ret' : Option FieldType} {fs : List ck_F} {T : u_T} {as : List Value} {Q' : Option Value → List ck_C → ck_H → Prop} {sh : List ck_C} {h : ck_H} {ad : Nat → Nat} {w2 : va_W} {H : Heap} {locs : List Loc} {cells slots pc : Nat} {ls : Array Slot} {rest : List Value} {Qs : State → Prop}
    (C : lwK p s m meth c b L xs D cA) (hM : ck_M y cc' nL' ret' dp' 0 0 false sh h (.ref 0 :: as) Q') (hw : ck_cal y cc' nL' ret' n) (hn : as.length = n) (h1 : Cond.methodLink RL idx y ∈ ck_T) (h2 : Cond.instanceMethod y ∈ ck_T ∧ Cond.selects y.cls y y ∈ ck_T)
    (hs : sh[0]? = some (.inl (ci, fs))) (hc : vwCl[ci]? = some (y.cls, T, N)) (hdp : dp' + 1 ≤ 2048) (hlo : 8 + (nL' + 11) + 64 * dp' ≤ 84000) (hr8 : (rest.map fun v => v.category).sum ≤ 8) (hcs : cells ≤ 601024 ∧ slots ≤ 7293033) (hd : decode code pc = .ok (.invokevirtual idx, 3))
    (hL : nLS (fun q : Nat => s.heap.size ≤ q) D (ck_wd ad cA h sh) w2 H) (hS : va_S (fun q : Nat => s.heap.size ≤ q) s.heap H locs) (hSt : ck_S ad (fun q : Nat => s.heap.size ≤ q) s s.heap) (hsz : ls.size = 7)
    (k : ∀ v sh' h' H1 locs1, Q' v sh' h' → nLS (fun q : Nat => s.heap.size ≤ q) D (ck_wd ad cA h' sh') w2 H1 → va_S (fun q : Nat => s.heap.size ≤ q) s.heap H1 locs1 → W p l e room_1 s m #[Value.ref b] below meth c H1 locs1 cells slots Qs (F0 m (pc + 3) ls ((v.map (ck_tr ad)).toList ++ rest))) :
    W p l e room_1 s m #[Value.ref b] below meth c H locs cells slots Qs (F0 m pc ls ((as.map (ck_tr ad)).reverse ++ .ref (ad 0) :: rest)) := by
  obtain ⟨C0, hK, hN⟩ := C
  have hts := lw_T C0
  obtain ⟨hx, hb, hr, hml, hown, _, hX, hbl, hlk, _⟩ := id C0
  have hown : s.vm.findClass RL = some m.cls := hown
  obtain ⟨w1, w2', w3, w4, w5⟩ := hw
  have hF := hL.fr hS (fun q z => z)
  have hP := hL.1
  have hD := hL.2.2.1
  have hG0 : ck_gr false ad H.size sh := fun z => absurd z (by decide)
  have hT9 : GoodIn ck_T (wsV RL idx y.cls y (Cond.code y cc' nL' ret' :: ck_T)) := ck_Gc h1 (ck_Gc h2.1 (ck_Gc h2.2 (ck_Gc w2' (ck_Gc w1 ck_GT))))
  intro T9 hT X
  obtain ⟨v, st₀, t, T', Lc, h0, X', hLc, e1, e2, ⟨⟨v', sh', h', hv, hq, hP1, hK1, hD1, hG1⟩, hz, hk⟩, st⟩ := (va_runV (R := room_1) (l := l) (e := e) (below := below) (meth := meth) (H := H) (locs := locs) (cells := cells) (slots := slots) (g := F0 m pc ls ((as.map (ck_tr ad)).reverse ++ .ref (ad 0) :: rest)) (As := as.map (ck_tr ad)) (rest := rest) (n := n) ⟨hx, hb, hml, hown, hts⟩ (hM l D cA ad H.size) (cwV n hts hT9 rfl rfl rfl ⟨rfl, w3, w4, w5⟩ ⟨hdp, hlo⟩) ⟨ck_blind, va_recv hK hP hc (ck_wd_at hs), fun U hU hW => ⟨rfl, by rw [hU], by rw [hU]; exact hP, va_K.moved hW.alike hK, ck_Nmoved hW hN, hD.weaken (fun _ _ _ _ => trivial), hG0, by rw [hU]; exact ((hSt.kept hS.2.1).narrow hF).warm hW⟩⟩ rfl (by simpa using hn) hsz rfl (lv_room hr8) hd hcs) T9 hT X
  cases hv
  rw [h0] at hz hk
  obtain ⟨t2, a1, b1⟩ := k v' sh' h' T'.heap (locs ++ Lc) hq (hL.call (fun q h1 h2 => by rw [e1]; exact hk q h1 h2) (by rw [e1]; exact hP1) hD1 hF)
    ⟨Nat.le_trans hS.1 (by rw [e1]; exact hz), fun q h1 h2 => by rw [e1, hk q (Nat.lt_of_lt_of_le h1 hS.1) (fun z => h2 (hF q z))]; exact hS.2.1 q h1 h2, fun q hq => by
      rcases List.mem_append.mp hq with h | h
      · exact hS.2.2 q h
      · exact hF _ (hLc q h)⟩ T' rfl X'
  exact ⟨t2, st t2 a1, b1⟩
theorem lw_callI {y : MethodName} {cc' : ByteArray} {nL' dp' mc' ms' idx : Nat} {Q' : Option Value → List ck_C → ck_H → Prop} {sh : List ck_C} {h : ck_H} {ad : Nat → Nat} {w2 : va_W} {H : Heap} {locs : List Loc} {cells slots pc : Nat} {ls : Array Slot} {rest : List Value} {Qs : State → Prop}
    (C : lwK p s m meth c b L xs D cA) (hM : ck_M y cc' nL' none dp' mc' ms' true sh h [.ref 0] Q') (hw : ck_cal y cc' nL' none 0) (h1 : Cond.methodLink RL idx y ∈ ck_T) (h2 : Cond.instanceMethod y ∈ ck_T) (hy : y.name = "<init>")
    (hdp : dp' + 1 ≤ 2048) (hlo : 8 + (nL' + 11) + 64 * dp' ≤ 84000) (hr8 : (rest.map fun v => v.category).sum ≤ 8) (hcs : cells + mc' ≤ 601024 ∧ slots + ms' ≤ 7293033) (hd : decode code pc = .ok (.invokespecial idx, 3))
    (hL : nLS (fun q : Nat => s.heap.size ≤ q) D (ck_wd ad cA h sh) w2 H) (hS : va_S (fun q : Nat => s.heap.size ≤ q) s.heap H locs) (hSt : ck_S ad (fun q : Nat => s.heap.size ≤ q) s s.heap) (hG : ck_gr true ad H.size sh) (hsz : ls.size = 7)
    (k : ∀ v sh' h' H1 locs1, Q' v sh' h' → nLS (fun q : Nat => s.heap.size ≤ q) D (ck_wd ad cA h' sh') w2 H1 → va_S (fun q : Nat => s.heap.size ≤ q) s.heap H1 locs1 → W p l e room_1 s m #[Value.ref b] below meth c H1 locs1 (cells + mc') (slots + ms') Qs (F0 m (pc + 3) ls ((v.map (ck_tr ad)).toList ++ rest))) :
    W p l e room_1 s m #[Value.ref b] below meth c H locs cells slots Qs (F0 m pc ls (.ref (ad 0) :: rest)) := by
  obtain ⟨C0, hK, hN⟩ := C
  have hts := lw_T C0
  obtain ⟨hx, hb, hr, hml, hown, _, hX, hbl, hlk, _⟩ := id C0
  have hown : s.vm.findClass RL = some m.cls := hown
  obtain ⟨w1, w2', w3, w4, w5⟩ := hw
  have hF := hL.fr hS (fun q z => z)
  have hP := hL.1
  have hD := hL.2.2.1
  have hT9 : GoodIn ck_T (Cond.code y cc' nL' none :: ck_T) := ck_Gc w1 ck_GT
  intro T9 hT X
  obtain ⟨v, st₀, t, T', Lc, h0, X', hLc, e1, e2, ⟨⟨v', sh', h', hv, hq, hP1, hK1, hD1, hG1⟩, hz, hk⟩, st⟩ := (va_runI (R := room_1) (l := l) (e := e) (below := below) (meth := meth) (H := H) (locs := locs) (cells := cells) (slots := slots) (g := F0 m pc ls (.ref (ad 0) :: rest)) (As := []) (rest := rest) (n := 0) ⟨hx, hb, hml, hown, hts⟩ (hM l D cA ad H.size) (cwI 0 hts hT9 rfl rfl rfl (hts _ w2') (hts _ h1) (hts _ h2) hy ⟨w3, w4, w5⟩ ⟨hdp, hlo⟩) ⟨ck_blind, fun U hU hW => ⟨rfl, by rw [hU], by rw [hU]; exact hP, va_K.moved hW.alike hK, ck_Nmoved hW hN, hD.weaken (fun _ _ _ _ => trivial), hG, by rw [hU]; exact ((hSt.kept hS.2.1).narrow hF).warm hW⟩⟩ rfl rfl hsz rfl (lv_room hr8) hd hcs) T9 hT X
  cases hv
  rw [h0] at hz hk
  obtain ⟨t2, a1, b1⟩ := k v' sh' h' T'.heap (locs ++ Lc) hq (hL.call (fun q h1 h2 => by rw [e1]; exact hk q h1 h2) (by rw [e1]; exact hP1) hD1 hF)
    ⟨Nat.le_trans hS.1 (by rw [e1]; exact hz), fun q h1 h2 => by rw [e1, hk q (Nat.lt_of_lt_of_le h1 hS.1) (fun z => h2 (hF q z))]; exact hS.2.1 q h1 h2, fun q hq => by
      rcases List.mem_append.mp hq with h | h
      · exact hS.2.2 q h
      · exact hF _ (hLc q h)⟩ T' rfl X'
  exact ⟨t2, st t2 a1, b1⟩
end LWC
