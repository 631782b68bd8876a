/-! the law's entry -/
theorem zH_z (k : Nat) : ck_z zH k = zH := by
  unfold ck_z zH
  refine Prod.ext ?_ ?_
  · funext a
    show (if a = k then fun _ => 0 else fun _ => 0) = fun _ => (0 : Int32)
    split <;> rfl
  · funext a
    show (if a = k then fun _ => 0 else fun _ => 0) = fun _ => (0 : Int64)
    split <;> rfl
section LWN
variable {p : Program} {l : Launch} {e : Env} {s : State} {m : MethodId} {below : List Frame} {meth : Method} {c : Code} {b L : Nat} {xs : Nat → Int32} {D : va_G} {cA : Nat → ClassId} {Qs : State → Prop}
theorem lw_new {ci idx N : Nat} {C9 : String} {T : u_T} {ty0 : Nat → FieldType} {fs : List ck_F} {w2 : va_W} {H : Heap} {locs : List Loc} {cells slots pc : Nat} {ls : Array Slot} {rest : List Value} {ad : Nat → Nat}
    (C : lwK p s m meth c b L xs D cA) (hc : ck_cls ci C9 T N ty0) (hcl : Cond.classLink RL idx C9 ∈ ck_T) (hfs : ∀ j, j < N → ck_dok (ty0 j) fs[j]? = true) (hcs : cells + 1 ≤ 601024 ∧ slots + N ≤ 7293033) (hd : decode code pc = .ok (.new idx, 3))
    (hP2 : va_P D vwCl w2 H) (hD2 : va_D (fun q : Nat => s.heap.size ≤ q) w2) (hS : va_S (fun q : Nat => s.heap.size ≤ q) s.heap H locs) (had : ad 0 = H.size)
    (k : ∀ H1 : Heap, nLS (fun q : Nat => s.heap.size ≤ q) D (ck_wd ad cA zH [.inl (ci, fs)]) w2 H1 → va_S (fun q : Nat => s.heap.size ≤ q) s.heap H1 locs → H1.size = H.size + 1 → W p l e room_1 s m #[Value.ref b] below meth c H1 locs (cells + 1) (slots + N) Qs (F0 m (pc + 3) ls (.ref (ad 0) :: rest))) :
    W p l e room_1 s m #[Value.ref b] below meth c H locs cells slots Qs (F0 m pc ls rest) := by
  obtain ⟨C0, hK, hN⟩ := C
  have hts := lw_T C0
  obtain ⟨hx, hb, hr, hml, hown, _, hX, hbl, hlk, _⟩ := id C0
  have hown : s.vm.findClass RL = some m.cls := hown
  obtain ⟨c1, c2, c3, c4, c5, c6⟩ := hc
  have hKn := hK.1 ci _ c1
  refine W.newcK hx hb hown (hts _ hcl) (hts _ c5) (hts _ c6) rfl hd hcs.1 hcs.2 hKn.2.1 rfl fun H1 kC hkC e1 z1 o1 => ?_
  have h9 := k H1 ⟨fun k x hx => ?_, hP2.kept (fun k x hx => o1 x.1 ((hP2 k x hx).lt)), ⟨fun i j x y hi hj _ => ?_, fun k x hx => ?_⟩, hD2, fun i j x y hi hj hxy => ?_⟩ ⟨Nat.le_trans hS.1 (by omega), fun x h1 h2 => (o1 x (Nat.lt_of_lt_of_le h1 hS.1)).trans (hS.2.1 x h1 h2), hS.2.2⟩ z1
  · rw [had] at h9; exact h9
  · have hz : k < 1 := (List.getElem?_eq_some_iff.mp hx).1
    rw [show k = 0 by omega] at hx
    cases hx
    refine ⟨_, c1, ?_⟩
    show t_OB (ad 0) _ _ _ H1 (vp_V (ck_fs ad zH 0 fs))
    rw [had, ← zH_z 0]
    exact (u_born ty0 hts c2 hKn hkC e1 c3).to (fun j hj => ck_dok_v (hfs j hj))
  · have h1 : i < 1 := (List.getElem?_eq_some_iff.mp hi).1
    have h2 : j < 1 := (List.getElem?_eq_some_iff.mp hj).1
    omega
  · have hz : k < 1 := (List.getElem?_eq_some_iff.mp hx).1
    rw [show k = 0 by omega] at hx
    cases hx
    show s.heap.size ≤ ad 0
    rw [had]; exact hS.1
  · have hz : i < 1 := (List.getElem?_eq_some_iff.mp hi).1
    rw [show i = 0 by omega] at hi
    cases hi
    have lt9 := (hP2 j y hj).lt
    have hxy : ad 0 = y.1 := hxy
    rw [had] at hxy
    omega
end LWN
/-! what the Statement gives of the start -/
def tmS (i : Nat) : Term := if i = 0 then .string "JawBench$Scan" 19 else .string "JawBenchModel" 188
def nbS : List (List Int32) := [ck_wbX, ck_wbM]
theorem nar_ex : ∀ i, i < 2 → Cond.exactly (tmS i) "java/lang/String" ∈ flatC (Cond.and given_1 narrow_1) := by decide +kernel
theorem nar_co : ∀ i, i < 2 → Cond.eq (.field (tmS i) "java/lang/String" "coder" "B") (.int 0) ∈ flatC (Cond.and given_1 narrow_1) := by decide +kernel
theorem nar_ar : ∀ i, i < 2 → Cond.arrayOf (.field (tmS i) "java/lang/String" "value" "[B") .byte ∈ flatC (Cond.and given_1 narrow_1) := by decide +kernel
theorem nar_le : ∀ i, i < 2 → Cond.eq (.length (.field (tmS i) "java/lang/String" "value" "[B")) (.int (Int32.ofNat (([94, 94] : List Nat).getD i 0))) ∈ flatC (Cond.and given_1 narrow_1) := by decide +kernel
def elS (i j : Nat) : Cond := Cond.eq (.elem (.field (tmS i) "java/lang/String" "value" "[B") (.int (Int32.ofNat j))) (.int ((nbS.getD i []).getD j 0))
theorem nar_e0 : ((flatC (Cond.and given_1 narrow_1)).drop 43).take 94 = (List.range 94).map (elS 0) := by decide +kernel
theorem nar_e1 : ((flatC (Cond.and given_1 narrow_1)).drop 176).take 94 = (List.range 94).map (elS 1) := by decide +kernel
theorem nar_el : ∀ i, i < 2 → ∀ j, j < ([94, 94] : List Nat).getD i 0 → elS i j ∈ flatC (Cond.and given_1 narrow_1) := by
  intro i hi j hj
  match i, hi, hj with
  | 0, _, hj =>
    have h1 : elS 0 j ∈ (List.range 94).map (elS 0) := List.mem_map.mpr ⟨j, List.mem_range.mpr hj, rfl⟩
    rw [← nar_e0] at h1
    exact List.mem_of_mem_drop (List.mem_of_mem_take h1)
  | 1, _, hj =>
    have h1 : elS 1 j ∈ (List.range 94).map (elS 1) := List.mem_map.mpr ⟨j, List.mem_range.mpr hj, rfl⟩
    rw [← nar_e1] at h1
    exact List.mem_of_mem_drop (List.mem_of_mem_take h1)
  | i + 2, hi, _ => exact absurd hi (by omega)
theorem nar_ne : ∀ i, i < 2 → ∀ j, j < 2 → i ≠ j → Cond.not (Cond.eq (tmS i) (tmS j)) ∈ flatC (Cond.and given_1 narrow_1) ∨ Cond.not (Cond.eq (tmS j) (tmS i)) ∈ flatC (Cond.and given_1 narrow_1) := by decide +kernel
theorem nar_cs : Cond.eq (.static "java/lang/String" "COMPACT_STRINGS" "Z") (.int 1) ∈ flatC (Cond.and given_1 narrow_1) := by decide +kernel
theorem nar_sf : Cond.isRef (.static "jdk/internal/util/Preconditions" "SIOOBE_FORMATTER" "Ljava/util/function/BiFunction;") ∈ flatC (Cond.and given_1 narrow_1) := by decide +kernel
theorem nar_us : Cond.isRef (.static Bundle.tN "UNASSIGNED_STACK" Bundle.steD) ∈ flatC (Cond.and given_1 narrow_1) := by decide +kernel
theorem nar_ss : Cond.isRef (.static Bundle.tN "SUPPRESSED_SENTINEL" Bundle.listD) ∈ flatC (Cond.and given_1 narrow_1) := by decide +kernel
theorem nar_s1 : Cond.exactly (.string RX11 138) "java/lang/String" ∈ flatC (Cond.and given_1 narrow_1) := by decide +kernel
theorem nar_s2 : Cond.exactly (.string RX11 165) "java/lang/String" ∈ flatC (Cond.and given_1 narrow_1) := by decide +kernel
theorem nar_nc : Cond.not (.castable xNS xIO) ∈ flatC (Cond.and given_1 narrow_1) := by decide +kernel
theorem lw_in {i : Nat} {w : Cond} (h : tables_1[i]? = some w) : w ∈ lw_tbl := List.mem_append_right _ (List.mem_of_getElem? h)
theorem st_in : ∀ w ∈ ck_N, w.onTables = true := by
  intro w hw
  have h2 : ck_nest w = true := (List.mem_filter.mp hw).2
  cases w <;> first | rfl | (simp [ck_nest] at h2; done)
theorem sb_in : ∀ w ∈ ck_B, w.onTables = true := by
  intro w hw
  have h2 : ck_cd w = true := (List.mem_filter.mp hw).2
  cases w <;> first | rfl | (simp [ck_cd] at h2; done)
theorem arr_of {s : State} {args : Array Value} {ty : FieldType} (h : (Cond.arrayClass ty).before args s = true) : ∃ cA : ClassId, ArrOfT s cA ty ∧ s.vm.findClass ("[" ++ ty.toString) = some cA := by
  obtain ⟨cc, k, comp, h1, h2, h3⟩ := Cond.arrayClass_spec h
  exact ⟨cc, fun n z => ⟨fun k h => (by cases h), k, h2, comp, h3⟩, h1⟩
theorem st_D {s : State} {args : Array Value} (hts : ∀ w ∈ ck_T, w.before args s = true) : ∃ D : va_G, ∀ (k : Nat) (q : vw_C), vwCl[k]? = some q → u_Kn s q.1 q.2.1 q.2.2 (D.1 k) (D.2 k) := by
  have one : ∀ {ci N : Nat} {C : String} {T : u_T} {ty : Nat → FieldType}, ck_cls ci C T N ty → ∃ q : ClassId × (Nat → Nat), u_Kn s C T N q.1 q.2 := by
    intro ci N C T ty hc
    obtain ⟨cC, iS, h⟩ := u_known (C := C) (T := T) (N := N) (n := N) hts hc.2.1 (hts _ hc.2.2.2.2.1)
    exact ⟨(cC, iS), h⟩
  have h0 : ∀ k : Nat, ∃ q : ClassId × (Nat → Nat), ∀ r : vw_C, vwCl[k]? = some r → u_Kn s r.1 r.2.1 r.2.2 q.1 q.2 := by
    intro k
    match k with
    | 0 =>
      obtain ⟨q, h⟩ := one clX0
      exact ⟨q, fun r hr => by cases hr; exact h⟩
    | 1 =>
      obtain ⟨q, h⟩ := one clX1
      exact ⟨q, fun r hr => by cases hr; exact h⟩
    | 2 =>
      obtain ⟨q, h⟩ := one clX2
      exact ⟨q, fun r hr => by cases hr; exact h⟩
    | 3 =>
      obtain ⟨q, h⟩ := one clX3
      exact ⟨q, fun r hr => by cases hr; exact h⟩
    | 4 =>
      obtain ⟨q, h⟩ := one clX4
      exact ⟨q, fun r hr => by cases hr; exact h⟩
    | 5 =>
      obtain ⟨q, h⟩ := one clX5
      exact ⟨q, fun r hr => by cases hr; exact h⟩
    | 6 =>
      obtain ⟨q, h⟩ := one clX6
      exact ⟨q, fun r hr => by cases hr; exact h⟩
    | 7 =>
      obtain ⟨q, h⟩ := one clX7
      exact ⟨q, fun r hr => by cases hr; exact h⟩
    | 8 =>
      obtain ⟨q, h⟩ := one clX8
      exact ⟨q, fun r hr => by cases hr; exact h⟩
    | 9 =>
      obtain ⟨q, h⟩ := one clX9
      exact ⟨q, fun r hr => by cases hr; exact h⟩
    | 10 =>
      obtain ⟨q, h⟩ := one clX10
      exact ⟨q, fun r hr => by cases hr; exact h⟩
    | 11 =>
      obtain ⟨q, h⟩ := one clX11
      exact ⟨q, fun r hr => by cases hr; exact h⟩
    | 12 =>
      obtain ⟨q, h⟩ := one clX12
      exact ⟨q, fun r hr => by cases hr; exact h⟩
    | k + 13 => exact ⟨(0, fun _ => 0), fun r hr => by simp [vwCl] at hr⟩
  obtain ⟨f, hf⟩ := Classical.axiomOfChoice h0
  exact ⟨(fun k => (f k).1, fun k => (f k).2), fun k q hq => hf k q hq⟩
theorem st_A {s : State} {args : Array Value} (hts : ∀ w ∈ ck_T, w.before args s = true) : ∃ cA : Nat → ClassId, ∀ (k : Nat) (q : ClassId × FieldType), (ck_ty cA)[k]? = some q → ArrOfT s q.1 q.2 ∧ va_RA s q.1 q.2 := by
  obtain ⟨a0, b0, d0⟩ := arr_of (hts _ (ck_in (i := 127) (w := .arrayClass .int) (by decide +kernel) rfl))
  obtain ⟨a1, b1, d1⟩ := arr_of (hts _ (ck_in (i := 126) (w := .arrayClass .byte) (by decide +kernel) rfl))
  obtain ⟨a2, b2, d2⟩ := arr_of (hts _ (ck_in (i := 250) (w := .arrayClass .boolean) (by decide +kernel) rfl))
  obtain ⟨a3, b3, d3⟩ := arr_of (hts _ (ck_in (i := 324) (w := .arrayClass .long) (by decide +kernel) rfl))
  refine ⟨fun k => if k = 0 then a0 else if k = 1 then a1 else if k = 2 then a2 else a3, fun k q hq => ?_⟩
  match k, hq with
  | 0, hq => cases hq; exact ⟨b0, d0⟩
  | 1, hq => cases hq; exact ⟨b1, d1⟩
  | 2, hq => cases hq; exact ⟨b2, d2⟩
  | 3, hq => cases hq; exact ⟨b3, d3⟩
  | k + 4, hq => simp [ck_ty] at hq
/-- where the texts lie -/
theorem st_S {s : State} {args : Array Value} (hts : ∀ w ∈ lw_tbl, w.before args s = true) (hgv : (Cond.and given_1 narrow_1).before args s = true) : ∃ adS : Nat → Nat, ck_S adS (fun q : Nat => s.heap.size ≤ q) s s.heap := by
  have hs := flat_of_before _ hgv
  have hA : ∀ a : Nat, a < s.heap.size → ¬ (fun q : Nat => s.heap.size ≤ q) a := fun a h => Nat.not_le.mpr h
  obtain ⟨adK, adV, hV, hE⟩ := vk_Sof (N := 2) (tm := tmS) (len := [94, 94]) (byt := nbS) (A := fun q : Nat => s.heap.size ≤ q) (args := args) (s := s) (by decide) (fun i hi => hs _ (nar_ex i hi)) (fun i hi => hs _ (nar_co i hi)) (fun i hi => hs _ (nar_ar i hi)) (fun i hi => hs _ (nar_le i hi)) (fun i hi j hj => hs _ (nar_el i hi j hj)) (fun i j hi hj hne => (nar_ne i hi j hj hne).imp (fun z => hs _ z) (fun z => hs _ z)) hA
  have z1 := va_Zof (A := fun q : Nat => s.heap.size ≤ q) (hts _ (lw_in (i := 56) (w := .laysStatic "java/lang/String" "COMPACT_STRINGS" "Z") (by decide +kernel))) (hts _ (lw_in (i := 4) (w := .initialized "java/lang/String") (by decide +kernel))) (va_eqi (hs _ nar_cs)) hA
  have z2 := va_Zqof (A := fun q : Nat => s.heap.size ≤ q) (hts _ (lw_in (i := 72) (w := .laysStatic "jdk/internal/util/Preconditions" "SIOOBE_FORMATTER" "Ljava/util/function/BiFunction;") (by decide +kernel))) (hts _ (lw_in (i := 6) (w := .initialized "jdk/internal/util/Preconditions") (by decide +kernel))) (hs _ nar_sf) hA
  obtain ⟨t9, ht9⟩ : ∃ t : Nat, va_Z "jdk/internal/util/Preconditions" "SIOOBE_FORMATTER" "Ljava/util/function/BiFunction;" .null (fun q : Nat => s.heap.size ≤ q) s s.heap ∨ va_Z "jdk/internal/util/Preconditions" "SIOOBE_FORMATTER" "Ljava/util/function/BiFunction;" (.ref t) (fun q : Nat => s.heap.size ≤ q) s s.heap := by
    rcases z2 with z2 | ⟨t, z2⟩
    · exact ⟨0, Or.inl z2⟩
    · exact ⟨t, Or.inr z2⟩
  refine ⟨fun k => if k = 1000 then adK 0 else if k = 1001 then adK 1 else if k = 1010 then adV 0 else if k = 1011 then adV 1 else t9, fun i hi => ?_, z1, ht9, ?_, ?_⟩
  · match i, hi with
    | 0, _ => exact hV.1 0 (by decide)
    | 1, _ => exact hV.1 1 (by decide)
    | i + 2, hi => exact absurd hi (by omega)
  · exact vk_R.of (A := args) (hts _ (lw_in (i := 46) (by decide +kernel))) (hE 0 (by decide))
  · exact vk_R.of (A := args) (hts _ (lw_in (i := 1463) (by decide +kernel))) (hE 1 (by decide))
theorem st_SX {s : State} {args : Array Value} (hts : ∀ w ∈ lw_tbl, w.before args s = true) (hgv : (Cond.and given_1 narrow_1).before args s = true) : ∃ sa sb, ck_SX sa sb (fun q : Nat => s.heap.size ≤ q) s s.heap := by
  have hs := flat_of_before _ hgv
  have hA : ∀ a : Nat, a < s.heap.size → ¬ (fun q : Nat => s.heap.size ≤ q) a := fun a h => Nat.not_le.mpr h
  obtain ⟨sa, _, _, _, qa, _⟩ := Cond.exactly_spec (args := args) (first := s) (o := none) (s := s) (idx := []) (hs _ nar_s1)
  obtain ⟨sb, _, _, _, qb, _⟩ := Cond.exactly_spec (args := args) (first := s) (o := none) (s := s) (idx := []) (hs _ nar_s2)
  refine ⟨sa, sb, vx_Zqof (hts _ (lw_in (i := 1150) (by decide +kernel))) (hts _ (lw_in (i := 19) (by decide +kernel))) (hs _ nar_us) hA, vx_Zqof (hts _ (lw_in (i := 1152) (by decide +kernel))) (hts _ (lw_in (i := 19) (by decide +kernel))) (hs _ nar_ss) hA, vk_R.of (A := args) (hts _ (lw_in (i := 1163) (by decide +kernel))) qa, vk_R.of (A := args) (hts _ (lw_in (i := 1199) (by decide +kernel))) qb, fun w hw => va_Nw.of (sb_in w hw) (hts w (List.mem_filter.mp hw).1), va_Nc.of (hs _ nar_nc)⟩
