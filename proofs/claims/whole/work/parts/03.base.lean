/-! the plain heap: whole numbers by cell and place; references stand in the shape -/
abbrev ck_H : Type := (Nat → Nat → Int32) × (Nat → Nat → Int64)
abbrev ck_F : Type := Nat × Option Nat
abbrev ck_C : Type := (Nat × List ck_F) ⊕ (Nat × Nat)
def ck_fv (ad : Nat → Nat) (h : ck_H) (k j : Nat) (d : ck_F) : Value :=
  if d.1 = 0 then .int (h.1 k j) else if d.1 = 1 then .long (h.2 k j) else va_rf (d.2.map ad)
def ck_fs (ad : Nat → Nat) (h : ck_H) (k : Nat) (fs : List ck_F) : List Value := fs.mapIdx (fun j d => ck_fv ad h k j d)
def ck_cv (ad : Nat → Nat) (cA : Nat → ClassId) (h : ck_H) (k : Nat) (c : ck_C) : va_E := match c with
  | .inl o => .inr (o.1, ck_fs ad h k o.2)
  | .inr a => if a.1 = 3 then .inl (cA 3, a.2, .inr (.inl (h.2 k))) else .inl (cA a.1, a.2, .inl (h.1 k))
def ck_wd (ad : Nat → Nat) (cA : Nat → ClassId) (h : ck_H) (sh : List ck_C) : va_W := sh.mapIdx (fun k c => (ad k, ck_cv ad cA h k c))
def ck_sI (h : ck_H) (k j : Nat) (v : Int32) : ck_H := (fun a => if a = k then upd (h.1 a) j v else h.1 a, h.2)
def ck_sL (h : ck_H) (k j : Nat) (v : Int64) : ck_H := (h.1, fun a => if a = k then vp_updL (h.2 a) j v else h.2 a)
def ck_sR (h : ck_H) (k : Nat) (f : Nat → Int32) : ck_H := (fun a => if a = k then f else h.1 a, h.2)
def ck_tr (ad : Nat → Nat) : Value → Value
  | .ref a => .ref (ad a)
  | v => v
theorem ck_tr_cat (ad : Nat → Nat) (v : Value) : (ck_tr ad v).category = v.category := by cases v <;> rfl
def ck_lv (ad : Nat → Nat) (lv : List (Nat × Value)) : List (Nat × Value) := lv.map (fun q => (q.1, ck_tr ad q.2))
theorem ck_lat {ad : Nat → Nat} {ls : Array Slot} {nL : Nat} {lv : List (Nat × Value)} (h : lv_has ls nL (ck_lv ad lv)) (k : Nat) {i : Nat} {v : Value} (hk : lv[k]? = some (i, v)) : ls[i]? = some (.val (ck_tr ad v)) :=
  lv_at h k (by simp [ck_lv, hk])
theorem ck_lpk {ad : Nat → Nat} {ls : Array Slot} {nL : Nat} {lv lv' : List (Nat × Value)} (h : lv_has ls nL (ck_lv ad lv)) (ks : List Nat) (hl : lv_pick lv ks = lv') : lv_has ls nL (ck_lv ad lv') := by
  refine lv_sub h ks ?_
  rw [← hl]
  unfold lv_pick ck_lv
  rw [List.map_filterMap]
  congr 1
  funext k
  simp
theorem ck_filter (ad : Nat → Nat) (P : Nat → Nat → Bool) (lv : List (Nat × Value)) : (ck_lv ad lv).filter (fun q => P q.1 q.2.category) = ck_lv ad (lv.filter (fun q => P q.1 q.2.category)) := by
  unfold ck_lv
  rw [List.filter_map]
  congr 1
  apply List.filter_congr
  intro x _
  simp [ck_tr_cat]
/-! the world at a place, and behind a write -/
theorem ck_wd_at {ad : Nat → Nat} {cA : Nat → ClassId} {h : ck_H} {sh : List ck_C} {k : Nat} {c : ck_C} (hk : sh[k]? = some c) : (ck_wd ad cA h sh)[k]? = some (ad k, ck_cv ad cA h k c) := by
  simp [ck_wd, hk]
theorem ck_fs_at {ad : Nat → Nat} {h : ck_H} {k j : Nat} {fs : List ck_F} {d : ck_F} (hj : fs[j]? = some d) : (ck_fs ad h k fs)[j]? = some (ck_fv ad h k j d) := by
  simp [ck_fs, hj]
theorem ck_wd_set {ad : Nat → Nat} {cA : Nat → ClassId} {h h' : ck_H} {sh : List ck_C} {k : Nat} {c c' : ck_C} (hk : sh[k]? = some c) (hO : ∀ a d, a ≠ k → ck_cv ad cA h' a d = ck_cv ad cA h a d) :
    ck_wd ad cA h' (sh.set k c') = (ck_wd ad cA h sh).set k (ad k, ck_cv ad cA h' k c') := by
  have hl : k < sh.length := (List.getElem?_eq_some_iff.mp hk).1
  apply List.ext_getElem?
  intro i
  by_cases hi : i = k
  · subst hi
    rw [List.getElem?_set_self (by simpa [ck_wd] using hl)]
    simp [ck_wd, hl]
  · rw [List.getElem?_set_ne (Ne.symm hi)]
    simp only [ck_wd, List.getElem?_mapIdx, List.getElem?_set_ne (Ne.symm hi)]
    cases sh[i]? with
    | none => rfl
    | some d => simp [hO i d hi]
theorem ck_wd_same {ad : Nat → Nat} {cA : Nat → ClassId} {h h' : ck_H} {sh : List ck_C} {k : Nat} {c : ck_C} (hk : sh[k]? = some c) (hO : ∀ a d, a ≠ k → ck_cv ad cA h' a d = ck_cv ad cA h a d) :
    ck_wd ad cA h' sh = (ck_wd ad cA h sh).set k (ad k, ck_cv ad cA h' k c) := by
  have e : sh.set k c = sh := by
    apply List.ext_getElem?
    intro i
    by_cases hi : i = k
    · subst hi
      rw [List.getElem?_set_self (List.getElem?_eq_some_iff.mp hk).1, hk]
    · rw [List.getElem?_set_ne (Ne.symm hi)]
  rw [← ck_wd_set (c' := c) hk hO, e]
theorem ck_sI_off {ad : Nat → Nat} {cA : Nat → ClassId} {h : ck_H} {k j : Nat} {v : Int32} : ∀ a d, a ≠ k → ck_cv ad cA (ck_sI h k j v) a d = ck_cv ad cA h a d := by
  intro a d ha
  have e : (ck_sI h k j v).1 a = h.1 a := by simp [ck_sI, ha]
  have e2 : (ck_sI h k j v).2 = h.2 := rfl
  cases d with
  | inl o => simp only [ck_cv, ck_fs, ck_fv, e, e2]
  | inr o => simp only [ck_cv, e, e2]
theorem ck_sR_off {ad : Nat → Nat} {cA : Nat → ClassId} {h : ck_H} {k : Nat} {f : Nat → Int32} : ∀ a d, a ≠ k → ck_cv ad cA (ck_sR h k f) a d = ck_cv ad cA h a d := by
  intro a d ha
  have e : (ck_sR h k f).1 a = h.1 a := by simp [ck_sR, ha]
  have e2 : (ck_sR h k f).2 = h.2 := rfl
  cases d with
  | inl o => simp only [ck_cv, ck_fs, ck_fv, e, e2]
  | inr o => simp only [ck_cv, e, e2]
theorem ck_sL_off {ad : Nat → Nat} {cA : Nat → ClassId} {h : ck_H} {k j : Nat} {v : Int64} : ∀ a d, a ≠ k → ck_cv ad cA (ck_sL h k j v) a d = ck_cv ad cA h a d := by
  intro a d ha
  have e : (ck_sL h k j v).2 a = h.2 a := by simp [ck_sL, ha]
  have e2 : (ck_sL h k j v).1 = h.1 := rfl
  cases d with
  | inl o => simp only [ck_cv, ck_fs, ck_fv, e, e2]
  | inr o => simp only [ck_cv, e, e2]
theorem ck_fs_sI {ad : Nat → Nat} {h : ck_H} {k j : Nat} {v : Int32} {fs : List ck_F} {r : Option Nat} (hj : fs[j]? = some (0, r)) : ck_fs ad (ck_sI h k j v) k fs = (ck_fs ad h k fs).set j (.int v) := by
  have hl : j < fs.length := (List.getElem?_eq_some_iff.mp hj).1
  apply List.ext_getElem?
  intro i
  by_cases hi : i = j
  · subst hi
    rw [List.getElem?_set_self (by simpa [ck_fs] using hl), ck_fs_at hj]
    simp [ck_fv, ck_sI, upd]
  · rw [List.getElem?_set_ne (Ne.symm hi)]
    simp only [ck_fs, List.getElem?_mapIdx]
    cases fs[i]? with
    | none => rfl
    | some d => simp [ck_fv, ck_sI, upd, hi]
theorem ck_fs_sL {ad : Nat → Nat} {h : ck_H} {k j : Nat} {v : Int64} {fs : List ck_F} {r : Option Nat} (hj : fs[j]? = some (1, r)) : ck_fs ad (ck_sL h k j v) k fs = (ck_fs ad h k fs).set j (.long v) := by
  have hl : j < fs.length := (List.getElem?_eq_some_iff.mp hj).1
  apply List.ext_getElem?
  intro i
  by_cases hi : i = j
  · subst hi
    rw [List.getElem?_set_self (by simpa [ck_fs] using hl), ck_fs_at hj]
    simp [ck_fv, ck_sL, vp_updL]
  · rw [List.getElem?_set_ne (Ne.symm hi)]
    simp only [ck_fs, List.getElem?_mapIdx]
    cases fs[i]? with
    | none => rfl
    | some d => simp [ck_fv, ck_sL, vp_updL, hi]
theorem ck_fs_R {ad : Nat → Nat} {h : ck_H} {k j : Nat} {fs : List ck_F} {d : ck_F} {r : Option Nat} (hj : fs[j]? = some d) : ck_fs ad h k (fs.set j (2, r)) = (ck_fs ad h k fs).set j (va_rf (r.map ad)) := by
  have hl : j < fs.length := (List.getElem?_eq_some_iff.mp hj).1
  apply List.ext_getElem?
  intro i
  by_cases hi : i = j
  · subst hi
    rw [List.getElem?_set_self (by simpa [ck_fs] using hl)]
    simp [ck_fs, ck_fv, hl]
  · rw [List.getElem?_set_ne (Ne.symm hi)]
    simp only [ck_fs, List.getElem?_mapIdx, List.getElem?_set_ne (Ne.symm hi)]
/-! the judgement -/
def ck_T : List Cond := lw_tbl.filter goodWord
def ck_nest : Cond → Bool
  | .fieldLinkNest _ _ _ _ _ _ => true
  | .methodLinkNest _ _ _ _ => true
  | _ => false
def ck_N : List Cond := lw_tbl.filter ck_nest
def ck_ty (cA : Nat → ClassId) : List (ClassId × FieldType) := [(cA 0, .int), (cA 1, .byte), (cA 2, .boolean), (cA 3, .long)]
def ck_gr (gr : Bool) (ad : Nat → Nat) (sz : Nat) (sh : List ck_C) : Prop := gr = true → (∀ k, k < 1000 → ad k = ad 0 + k) ∧ sz = ad 0 + sh.length ∧ 0 < sh.length ∧ sh.length < 1000
/-! the two texts of words: constants, old cells -/
def ck_wtX : String := "judge nut suit rest seed law force slack wear or and not jaw teeth hard bitter lever load day "
def ck_wtM : String := "judge nut suit lever rest seed law force slack wear or and not jaw teeth hard bitter load day "
def ck_wbX : List Int32 := [106, 117, 100, 103, 101, 32, 110, 117, 116, 32, 115, 117, 105, 116, 32, 114, 101, 115, 116, 32, 115, 101, 101, 100, 32, 108, 97, 119, 32, 102, 111, 114, 99, 101, 32, 115, 108, 97, 99, 107, 32, 119, 101, 97, 114, 32, 111, 114, 32, 97, 110, 100, 32, 110, 111, 116, 32, 106, 97, 119, 32, 116, 101, 101, 116, 104, 32, 104, 97, 114, 100, 32, 98, 105, 116, 116, 101, 114, 32, 108, 101, 118, 101, 114, 32, 108, 111, 97, 100, 32, 100, 97, 121, 32]
def ck_wbM : List Int32 := [106, 117, 100, 103, 101, 32, 110, 117, 116, 32, 115, 117, 105, 116, 32, 108, 101, 118, 101, 114, 32, 114, 101, 115, 116, 32, 115, 101, 101, 100, 32, 108, 97, 119, 32, 102, 111, 114, 99, 101, 32, 115, 108, 97, 99, 107, 32, 119, 101, 97, 114, 32, 111, 114, 32, 97, 110, 100, 32, 110, 111, 116, 32, 106, 97, 119, 32, 116, 101, 101, 116, 104, 32, 104, 97, 114, 100, 32, 98, 105, 116, 116, 101, 114, 32, 108, 111, 97, 100, 32, 100, 97, 121, 32]
def ck_wb (i : Nat) : List Int32 := if i = 0 then ck_wbX else ck_wbM
def ck_S (ad : Nat → Nat) (A : Nat → Prop) (U : State) (H : Heap) : Prop :=
  (∀ i : Nat, i < 2 → va_O "java/lang/String" (ad (1000 + i)) A U H ∧ va_OF "java/lang/String" "coder" "B" (.int 0) (ad (1000 + i)) A U H ∧ va_OF "java/lang/String" "value" "[B" (.ref (ad (1010 + i))) (ad (1000 + i)) A U H ∧ va_T .byte (ad (1010 + i)) 94 (fun j => .int ((ck_wb i).getD j 0)) A U H)
  ∧ va_Z "java/lang/String" "COMPACT_STRINGS" "Z" (.int 1) A U H
  ∧ (va_Z "jdk/internal/util/Preconditions" "SIOOBE_FORMATTER" "Ljava/util/function/BiFunction;" .null A U H ∨ va_Z "jdk/internal/util/Preconditions" "SIOOBE_FORMATTER" "Ljava/util/function/BiFunction;" (.ref (ad 1020)) A U H)
  ∧ vk_R "JawBench$Scan" 19 ck_wtX (ad 1000) U ∧ vk_R "JawBenchModel" 188 ck_wtM (ad 1001) U
theorem ck_S.kept {ad : Nat → Nat} {A : Nat → Prop} {U : State} {H H1 : Heap} (h : ck_S ad A U H) (hq : ∀ a : Nat, a < H.size → ¬ A a → H1[a]? = H[a]?) : ck_S ad A U H1 :=
  ⟨fun i hi => ⟨(h.1 i hi).1.kept hq, (h.1 i hi).2.1.kept hq, (h.1 i hi).2.2.1.kept hq, (h.1 i hi).2.2.2.kept hq⟩, h.2.1.kept hq, h.2.2.1.imp (fun z => z.kept hq) (fun z => z.kept hq), h.2.2.2⟩
theorem ck_S.narrow {ad : Nat → Nat} {A B : Nat → Prop} {U : State} {H : Heap} (h : ck_S ad A U H) (hq : ∀ q, B q → A q) : ck_S ad B U H :=
  ⟨fun i hi => ⟨(h.1 i hi).1.narrow hq, (h.1 i hi).2.1.narrow hq, (h.1 i hi).2.2.1.narrow hq, (h.1 i hi).2.2.2.narrow hq⟩, h.2.1.narrow hq, h.2.2.1.imp (fun z => z.narrow hq) (fun z => z.narrow hq), h.2.2.2⟩
theorem ck_S.warm {ad : Nat → Nat} {A : Nat → Prop} {s U : State} {H : Heap} (hW : s.WarmedH U.vm) (h : ck_S ad A s H) : ck_S ad A U H :=
  ⟨fun i hi => ⟨va_O.moved hW.alike (h.1 i hi).1, va_OF.moved hW.alike (h.1 i hi).2.1, va_OF.moved hW.alike (h.1 i hi).2.2.1, va_T.moved hW.alike (h.1 i hi).2.2.2⟩, va_Z.moved hW.alike h.2.1, h.2.2.1.imp (va_Z.moved hW.alike) (va_Z.moved hW.alike), vk_R.warm hW h.2.2.2.1, vk_R.warm hW h.2.2.2.2⟩
theorem ck_S.same {ad : Nat → Nat} {A : Nat → Prop} {s U : State} {H : Heap} (hv : U.vm = s.vm) (h : ck_S ad A s H) : ck_S ad A U H := by
  have hW : s.vm.Alike U.vm := by rw [hv]; exact Vm.Alike.refl s.vm
  exact ⟨fun i hi => ⟨va_O.moved hW (h.1 i hi).1, va_OF.moved hW (h.1 i hi).2.1, va_OF.moved hW (h.1 i hi).2.2.1, va_T.moved hW (h.1 i hi).2.2.2⟩, va_Z.moved hW h.2.1, h.2.2.1.imp (va_Z.moved hW) (va_Z.moved hW), vk_R.same hv h.2.2.2.1, vk_R.same hv h.2.2.2.2⟩
def ck_rm (dp mc ms : Nat) : Room := { frames := dp, cells := mc, slots := ms, locals := 64 * dp }
def ck_Q (D : va_G) (cA : Nat → ClassId) (ad : Nat → Nat) (A : Nat → Prop) (gr : Bool) (mc : Nat) (Q : Option Value → List ck_C → ck_H → Prop) : Array Value → State → Outcome → State → Prop := fun _ st o t =>
  (∃ (v : Option Value) (sh : List ck_C) (h : ck_H), o = .returned (v.map (ck_tr ad)) ∧ Q v sh h ∧ va_P D vwCl (ck_wd ad cA h sh) t.heap ∧ va_K D vwCl (ck_ty cA) t ∧ va_D A (ck_wd ad cA h sh) ∧ ck_gr gr ad (st.heap.size + mc) sh) ∧ va_F A st t
def ck_X (cc : ByteArray) (nL : Nat) (own : String) (ret : Option FieldType) (dp mc ms : Nat) (ini : Bool) (D : va_G) (cA : Nat → ClassId) (ad : Nat → Nat) (p : Program) (R : Room) (s : State) (m : MethodId) (args : Array Value) (meth : Method) (c : Code) (A : Nat → Prop) : Prop :=
  p.tables.exec = Jvm.exec ∧ c.code = cc ∧ c.maxLocals = nL ∧ s.vm.findClass own = some m.cls ∧ (∀ w ∈ ck_T, w.before args s = true) ∧ meth.sig.returnType = ret ∧ meth.locks = false ∧ va_K D vwCl (ck_ty cA) s ∧ (∀ w ∈ ck_N, va_Nw w s) ∧ (∀ q, s.heap.size ≤ q → A q) ∧ R = ck_rm dp mc ms ∧ (ini = true → meth.name = "<init>") ∧ ck_S ad A s s.heap
def ck_W (cc : ByteArray) (nL : Nat) (own : String) (ret : Option FieldType) (dp mc ms : Nat) (ini gr : Bool) (Q : Option Value → List ck_C → ck_H → Prop) (sh : List ck_C) (h : ck_H) (kc ks pc : Nat) (lv : List (Nat × Value)) (st : List Value) : Prop :=
  ∀ (l : Launch) (D : va_G) (cA : Nat → ClassId) (ad : Nat → Nat) (p : Program) (e : Env) (R : Room) (s : State) (m : MethodId) (args : Array Value) (below : List Frame) (meth : Method) (c : Code) (A : Nat → Prop) (H : Heap) (locs : List Loc) (ls : Array Slot),
    ck_X cc nL own ret dp mc ms ini D cA ad p R s m args meth c A → va_P D vwCl (ck_wd ad cA h sh) H → va_D A (ck_wd ad cA h sh) → va_S A s.heap H locs → ck_gr gr ad (s.heap.size + kc) sh → lv_has ls nL (ck_lv ad lv) →
    W p l e R s m args below meth c H locs kc ks (MQ below (ck_Q D cA ad A gr mc Q) args s mc ms A) (F0 m pc ls (st.map (ck_tr ad)))
def ck_pre (D : va_G) (cA : Nat → ClassId) (ad : Nat → Nat) (sh : List ck_C) (h : ck_H) (gr : Bool) (sz : Nat) (U : State) : Prop :=
  U.heap.size = sz ∧ va_P D vwCl (ck_wd ad cA h sh) U.heap ∧ va_K D vwCl (ck_ty cA) U ∧ (∀ w ∈ ck_N, va_Nw w U) ∧ va_D (fun _ => True) (ck_wd ad cA h sh) ∧ ck_gr gr ad sz sh ∧ ck_S ad (va_A (ck_wd ad cA h sh) sz) U U.heap
def ck_M (y : MethodName) (cc : ByteArray) (nL : Nat) (ret : Option FieldType) (dp mc ms : Nat) (gr : Bool) (sh : List ck_C) (h : ck_H) (as : List Value) (Q : Option Value → List ck_C → ck_H → Prop) : Prop :=
  ∀ (l : Launch) (D : va_G) (cA : Nat → ClassId) (ad : Nat → Nat) (sz : Nat), Met l y (Cond.code y cc nL ret :: ck_T) (ck_rm dp mc ms) (va_Pc (as.map (ck_tr ad)) (ck_pre D cA ad sh h gr sz)) (ck_Q D cA ad (va_A (ck_wd ad cA h sh) sz) gr mc Q) mc ms (va_A (ck_wd ad cA h sh) sz)
theorem ck_Nmoved {s U : State} (hW : s.WarmedH U.vm) (h : ∀ w ∈ ck_N, va_Nw w s) : ∀ w ∈ ck_N, va_Nw w U := by
  intro w hw
  have h1 := h w hw
  have h2 : ck_nest w = true := (List.mem_filter.mp hw).2
  cases w <;> first | exact va_Nw.warmF hW h1 | exact va_Nw.warmM hW h1 | (simp [ck_nest] at h2; done)
theorem ck_Nsame {s U : State} (hW : s.vm = U.vm) (h : ∀ w ∈ ck_N, va_Nw w s) : ∀ w ∈ ck_N, va_Nw w U := by
  intro w hw
  have h1 := h w hw
  have h2 : ck_nest w = true := (List.mem_filter.mp hw).2
  cases w <;> first | (exact va_Nw.same (by rfl) hW h1) | (simp [ck_nest] at h2; done)
theorem ck_good : ∀ w ∈ ck_T, goodWord w = true := fun _ h => (List.mem_filter.mp h).2
theorem ck_blind {D : va_G} {cA : Nat → ClassId} {ad : Nat → Nat} {sh : List ck_C} {h : ck_H} {gr : Bool} {sz : Nat} {av : List Value} : FrameBlind (va_Pc av (ck_pre D cA ad sh h gr sz)) := by
  intro a U g mk q
  obtain ⟨q0, q1, qP, qK, qN, qD, qG, qS⟩ := q
  exact ⟨q0, q1, qP, va_K.moved (u := U) (U := U.calling g mk a) (Vm.Alike.refl U.vm) qK, ck_Nsame (s := U) (U := U.calling g mk a) (rfl : U.vm = (U.calling g mk a).vm) qN, qD, qG, ck_S.same (s := U) (U := U.calling g mk a) rfl qS⟩
theorem ck_args (ad : Nat → Nat) : ∀ (as : List Value) (i : Nat), lv_args i (as.map (ck_tr ad)) = ck_lv ad (lv_args i as)
  | [], _ => rfl
  | v :: as, i => by
    have ih := ck_args ad as
    simp only [List.map_cons, lv_args, ck_lv, ck_tr_cat] at ih ⊢
    rw [ih]
theorem ck_slen (ad : Nat → Nat) : ∀ (as : List Value), (lg_sl (as.map (ck_tr ad))).length = (lg_sl as).length
  | [] => rfl
  | v :: as => by
    have ih := ck_slen ad as
    simp only [lg_sl, List.map_cons, List.flatMap_cons, List.length_append, ck_tr_cat] at ih ⊢
    rw [ih]
    split <;> rfl
theorem ck_entry {y : MethodName} {cc : ByteArray} {nL : Nat} {ret : Option FieldType} {dp mc ms : Nat} {gr : Bool} {sh : List ck_C} {h : ck_H} {as : List Value} {Q : Option Value → List ck_C → ck_H → Prop} {lv : List (Nat × Value)} {own : String} (ini : Bool) (hown0 : y.cls = own) (hi : ini = true → y.name = "<init>") (hpl : plainName y.cls = true) (hn : (lg_sl as).length ≤ nL) (hlv : lv_args 0 as = lv)
    (k : ck_W cc nL own ret dp mc ms ini gr Q sh h 0 0 0 lv []) : ck_M y cc nL ret dp mc ms gr sh h as Q := by
  intro l D cA ad sz
  refine Met.ofW (cc := cc) (maxL := nL) (ret := ret) hpl rfl ?_
  intro p e s m args below meth c s₁ B hml hv
  obtain ⟨rfl, hsz, hP, hK, hN, hD0, hG, hSt⟩ := hv
  have hx := B.exec
  have hb := B.bytes
  have hr := B.returns
  have hts := atoms_spec (ws := Cond.code y cc nL ret :: ck_T) B.pre
  have hown : s.vm.findClass y.cls = some m.cls := findClass_of_methodNamed B.named
  have hlocks := B.notSynchronized
  have hname : meth.name = y.name := (name_of_methodNamed B.named B.method).1
  subst hsz
  have hD := hD0.self (sz := s.heap.size)
  have hl := lv_entry (as.map (ck_tr ad)) (n := nL) (by rw [ck_slen]; exact hn)
  rw [lg_entry_eq]
  rw [ck_args, hlv] at hl
  subst hown0
  exact k l D cA ad p e _ s m _ below meth c _ s.heap [] _ ⟨hx, hb, hml, hown, fun w hw => hts w (List.mem_cons_of_mem _ hw), hr, hlocks, hK, hN, fun q h => Or.inr h, rfl, fun h => by rw [hname]; exact hi h, hSt⟩ hP hD va_S.rf hG hl
