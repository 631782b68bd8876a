theorem T_st_I {E J S a b : Nat} {t : Tt} (ha : a < 1024) (hb : b < 1024) (hS : S ≤ 10) (h : ∀ s q, s < S → t.2.2.2.1 s = nI q → q < E → bt a s = bt b s) : IRR E J S (T_st a t) (T_st b t) := by
  have e5 : ∀ y i, i ≠ 4 → (T_st y t).1 i = t.1 i := fun y i hi => by
    unfold T_st T_undo
    rw [if_neg (by decide), if_pos rfl]
    show upd t.1 4 (t.1 4 ||| nI y) i = _
    exact pk_un hi
  have e4 : ∀ y, (T_st y t).1 4 = t.1 4 ||| nI y := fun y => by
    unfold T_st T_undo
    rw [if_neg (by decide), if_pos rfl]
    show upd t.1 4 (t.1 4 ||| nI y) 4 = _
    exact pk_us
  refine ⟨⟨by rw [e5 _ 5 (by decide), e5 _ 5 (by decide)], by rw [e5 _ 6 (by decide), e5 _ 6 (by decide)], by rw [e5 _ 7 (by decide), e5 _ 7 (by decide)]⟩, fun _ _ => rfl, fun _ _ => ⟨rfl, rfl⟩, fun s q hs eq hq => ⟨rfl, ?_⟩, rfl⟩
  rw [e4, e4, sbI (by omega) (by omega), sbI (by omega) (by omega), h s q hs eq hq]
theorem Ex_ch {d : Nat → Nat} {r x : Nat} {C : Nat → Bool} {S : Nat} (hS : S ≤ 10) (hC : ∀ s, S ≤ s → C s = false) (hg : ga C 10 S 0 (fun _ => 0) 0 = (d, r)) (f : Nat → Nat) : sg (fun j => f (d j)) r = sg (fun s => if C s = true then f s else 0) 10 := by
  have a := ga_sum (C := C) (L := 10) (f := f) S 0 (fun _ => 0) 0 (by omega) rfl
  rw [hg, Nat.zero_add] at a
  rw [sg_hi (r := S) 10 hS (fun s hs => by rw [hC s hs]; rfl)]
  exact a
theorem sim_spoil {J N S : Nat} {h m : ck_H} {x y : Int32} (H : SimP J N S h m) : wp_X11_spoil x y h (fun r h' => wp_X12_spoil x y m (fun r' m' => r = r' ∧ Sim h' m')) := by
  have T := H.thr 0
  have P := T.pr
  have hJ := P.hJ; have hS := P.hS
  unfold wp_X11_spoil
  refine ⟨fun c => ?_, fun c => ⟨fun c2 => ?_, fun c2 => ⟨fun c3 => ?_, fun c3 => ⟨fun c4 => ?_, fun c4 => ?_⟩⟩⟩⟩
  · unfold wp_X12_spoil; rintro _ rfl; exact br_p c ⟨rfl, _, _, _, T⟩
  · unfold wp_X12_spoil; rintro _ rfl; exact br_n c (br_p c2 ⟨rfl, _, _, _, T⟩)
  · unfold wp_X12_spoil; rintro _ rfl; exact br_n c (br_n c2 (br_p c3 ⟨rfl, _, _, _, T⟩))
  · obtain ⟨n, hn, rfl⟩ := nI_of2 (x := x) (M := 60) (n := 60) (by decide) (fun w => c (Int32.lt_of_lt_of_le w (by decide))) (Int32.not_lt.mp c2)
    obtain ⟨D, hD9, eD⟩ := T.nok.1
    have eD : h.1 7 5 = nI D := eD
    generalize hg : ga (relB h S (D + n)) 10 S 0 (fun _ => 0) 0 = gr
    have gk := ga_ok (C := relB h S (D + n)) (L := 10) S 0 (fun _ => 0) 0 ⟨fun j hj => by omega, fun j k _ hk => by omega⟩ (by omega)
    rw [hg] at gk
    obtain ⟨d, r⟩ := gr
    obtain ⟨⟨gk1, gk2⟩, hr⟩ := gk
    have hr : r ≤ 10 := hr
    have gk2 : inc r d := gk2
    have gk1 : ∀ j, j < r → d j < 0 + S ∧ relB h S (D + n) (d j) = true := gk1
    have hd : ∀ j, j < r → d j < 10 := fun j hj => by have q := (gk1 j hj).1; omega
    have h1024 := p2_le hr
    generalize hMm : ck_sI m 0 0 0 = Mm at T P
    have ed0 : (Mv Mm 0).1 5 = nI D := by rw [T.now.1.2.1]; exact eD
    have hC : ∀ s, S ≤ s → relB h S (D + n) s = false := fun s hs => by
      unfold relB mayB
      rw [decide_eq_false (fun z => by have := z.1; omega)]
      rfl
    have sums := fun f => Ex_ch (x := 0) hS hC hg f
    have hmx : msk h S S < 1024 := Nat.lt_of_lt_of_le (msk_lt h S S) (p2_le hS)
    have relmay : ∀ s, relB h S (D + n) s = true → s < S ∧ bt (msk h S S) s = 1 := fun s e => by
      unfold relB at e
      rw [Bool.and_eq_true] at e
      have hs : s < S := by
        have := e.1
        unfold mayB at this
        exact (of_decide_eq_true this).1
      exact ⟨hs, by rw [msk_bt hs, if_pos e.1]⟩
    have exlt : ∀ cc, Ex d cc r < 1024 := fun cc => Ex_lt (B := 10) r gk2 hd
    have key := spoil_eq (d := d) (r := r) (n := msk h S S + 1) (sb := fun c => decide (nI c &&& (nI (msk h S S) ^^^ (-1 : Int32)) = 0)) (gd := fun z => decide (¬ y < GS (pl h) (mdM Mm) S n (Mv Mm 0) z)) hr gk2 hd
      (fun z hz hs => by
        have z1024 : z < 1024 := by omega
        have ez : Ex d (chx d r z) r = sg (fun s => if relB h S (D + n) s = true then bt z s * 2 ^ s else 0) 10 := by
          rw [← sums (fun s => bt z s * 2 ^ s)]
          exact sg_c r (fun j hj => by rw [chx_bt hj])
        have zz : z = sg (fun s => bt z s * 2 ^ s) 10 := by rw [sg_bt, Nat.mod_eq_of_lt z1024]
        have pz : pop (chx d r z) = sg (fun s => if relB h S (D + n) s = true then bt z s else 0) 10 := by
          rw [pop_r hr (chx_lt d r z), ← sums (bt z)]
          exact sg_c r (fun j hj => chx_bt hj)
        have l1 := sg_le (f := fun s => if relB h S (D + n) s = true then bt z s * 2 ^ s else 0) (g := fun s => bt z s * 2 ^ s) 10 (fun s _ => by split; exact Nat.le_refl _; exact Nat.zero_le _)
        have l2 := sg_le (f := fun s => if relB h S (D + n) s = true then bt z s else 0) (g := bt z) 10 (fun s _ => by split; exact Nat.le_refl _; exact Nat.zero_le _)
        refine ⟨?_, ?_, fun e => ?_⟩
        · rw [ez]; conv => rhs; rw [zz]
          exact l1.1
        · rw [pz]; exact l2.1
        · rw [pz] at e
          have t := l2.2 e
          rw [ez]; conv => rhs; rw [zz]
          refine sg_c 10 (fun s hs => ?_)
          have := t s hs
          by_cases cr : relB h S (D + n) s = true
          · rw [if_pos cr]
          · rw [if_neg cr] at this ⊢
            rw [← this, Nat.zero_mul])
      (fun cc hcc => by
        have e1 : pop (Ex d cc r) = sg (fun s => if relB h S (D + n) s = true then bt (Ex d cc r) s else 0) 10 := by
          refine sg_c 10 (fun s _ => ?_)
          by_cases cr : relB h S (D + n) s = true
          · rw [if_pos cr]
          · rw [if_neg cr]
            exact (Ex_bt r gk2).2 (fun j hj z => cr (by rw [z]; exact (gk1 j hj).2))
        rw [e1, ← sums (bt (Ex d cc r)), pop_r hr hcc]
        exact sg_c r (fun j hj => (Ex_bt (s := 0) r gk2).1 j hj))
      (fun cc hcc => by
        have sub : ∀ s, s < 10 → bt (Ex d cc r) s = 1 → bt (msk h S S) s = 1 := fun s _ e => by
          by_cases cr : relB h S (D + n) s = true
          · exact (relmay s cr).2
          · rw [(Ex_bt r gk2).2 (fun j hj z => cr (by rw [z]; exact (gk1 j hj).2))] at e
            omega
        refine ⟨decide_eq_true ((anI (exlt cc)).mpr sub), ?_⟩
        have z1 : Ex d cc r = sg (fun s => bt (Ex d cc r) s * 2 ^ s) 10 := by rw [sg_bt, Nat.mod_eq_of_lt (exlt cc)]
        have z2 : msk h S S = sg (fun s => bt (msk h S S) s * 2 ^ s) 10 := by rw [sg_bt, Nat.mod_eq_of_lt hmx]
        have l := (sg_le (f := fun s => bt (Ex d cc r) s * 2 ^ s) (g := fun s => bt (msk h S S) s * 2 ^ s) 10 (fun s hs => by
          refine Nat.mul_le_mul_right _ ?_
          have b1 := bt_lt (Ex d cc r) s
          by_cases c1 : bt (Ex d cc r) s = 1
          · rw [c1, sub s hs c1]; exact Nat.le_refl _
          · omega)).1
        rw [← z1, ← z2] at l
        omega)
      (fun z hz hs => by
        have z1024 : z < 1024 := by omega
        have sub := (anI z1024).mp (of_decide_eq_true hs)
        have e : GS (pl h) (mdM Mm) S n (Mv Mm 0) (Ex d (chx d r z) r) = GS (pl h) (mdM Mm) S n (Mv Mm 0) z := by
          unfold GS
          congr 1
          refine g_gain_I (E := D + n) (J := J) (S := S) ?_ _
          refine T_days_I hJ P.rtee T.hl n 9900 D _ _ (T_st_Ok T.tok) ?_ (by omega) (T_st_I (exlt _) z1024 hS (fun s q hs' eq hq => ?_))
          · have e5 : (T_st (Ex d (chx d r z) r) (Mv Mm 0)).1 5 = (Mv Mm 0).1 5 := by
              unfold T_st T_undo
              rw [if_neg (by decide), if_pos rfl]
              show upd (Mv Mm 0).1 4 ((Mv Mm 0).1 4 ||| nI (Ex d (chx d r z) r)) 5 = _
              exact pk_un (by decide)
            rw [e5]; exact ed0
          · by_cases cr : relB h S (D + n) s = true
            · have hx := congrArg (fun u => u) (sums (fun u => if u = s then 1 else 0))
              obtain ⟨j, hj, ej⟩ : ∃ j, j < r ∧ d j = s := by
                refine Classical.byContradiction (fun no => ?_)
                have a0 : sg (fun j => if d j = s then 1 else 0) r = sg (fun _ => 0) r := sg_c r (fun j hj => if_neg (fun z => no ⟨j, hj, z⟩))
                have zero : ∀ k, sg (fun _ => 0) k = 0 := by
                  intro k
                  induction k with
                  | zero => rfl
                  | succ k ih => exact ih
                have a1 : sg (fun u => if relB h S (D + n) u = true then (if u = s then 1 else 0) else 0) 10 = 0 := by rw [← sums (fun u => if u = s then 1 else 0), a0, zero]
                have a2 := (sg_le (f := fun _ => 0) (g := fun u => if relB h S (D + n) u = true then (if u = s then 1 else 0) else 0) 10 (fun _ _ => Nat.zero_le _)).2 (by rw [zero, a1]) s (by omega)
                rw [if_pos cr, if_pos rfl] at a2
                omega
              rw [← ej, (Ex_bt (s := 0) r gk2).1 j hj, chx_bt hj]
            · rw [(Ex_bt r gk2).2 (fun j hj z => cr (by rw [z]; exact (gk1 j hj).2))]
              have nm : ¬ mayB h S s = true := fun mb => cr (by
                unfold relB
                rw [mb, Bool.true_and]
                refine decide_eq_true ?_
                have e10 : h.1 10 s = nI q := by rw [← eq]; exact (T.now.2.2.1 s hs').2.1.symm
                rw [e10]
                exact nI_ge hq (by omega))
              have b := msk_bt (h := h) (S := S) hs'
              rw [if_neg nm] at b
              have bl := bt_lt z s
              have : ¬ bt z s = 1 := fun e => by have := sub s (by omega) e; omega
              omega
        show decide _ = decide _
        rw [e])
      (fun cc hcc => by
        rw [pop_r hr hcc]
        have a := (sg_le (f := bt cc) (g := fun _ => 1) r (fun s _ => by have := bt_lt cc s; omega)).1
        have o : ∀ k, sg (fun _ => 1) k = k := by
          intro k
          induction k with
          | zero => rfl
          | succ k ih => show sg (fun _ => 1) k + 1 = k + 1; rw [ih]
        rw [o] at a
        omega)
    have md : ∀ Rr : Int32 → ck_H → Prop, (∀ m2, kM Mm m2 → Rr (oI ((so (fun c => decide (¬ y < GS (pl h) (mdM Mm) S n (Mv Mm 0) (Ex d c r))) (2 ^ r) (r + 1) 0).map (fun c => Ex d c r))) m2) → wp_X12_spoil (nI n) y m Rr := by
      intro Rr hR
      unfold wp_X12_spoil
      rw [hMm]
      intro m0 e0
      rw [e0]
      refine br_n c (br_n c2 (br_n c3 (br_p c4 ?_)))
      refine mm_34 T S 0 lpN (by unfold lpN; omega) (by omega) ?_
      refine mm_93 T hn hmx (msk h S S + 1) 0 lpN none Mm (by unfold lpN; omega) (by omega) (fun y e => by cases e) (kM.rf Mm) (fun m2 km => ?_)
      rw [← key]
      exact hR m2 km
    unfold wp_X0_fewestStones
    refine tx_gaS P eD S 0 lpN 0 (fun _ => 0) h (by unfold lpN; omega) (by omega) (by omega) (kX.rf h) (fun j hj => by omega) (fun h2 k2 e78 => ?_)
    rw [hg] at e78 ⊢
    refine tx_103 T hn hr gk2 hd (r + 1) 0 lpN h2 (by unfold lpN; omega) (by omega) k2 e78 (fun e h3 k3 => ?_) (fun z e h3 k3 e3 => ?_)
    · rw [e] at md
      exact md _ (fun m2 km => ⟨rfl, _, _, _, T.keep k3 km⟩)
    · rw [e] at md
      have so1 := so_sp (gd := fun c => decide (¬ y < GS (pl h) (mdM Mm) S n (Mv Mm 0) (Ex d c r))) (n := 2 ^ r) (r + 1) 0 (fun x _ h => by omega)
      rw [e] at so1
      have zl : z < 2 ^ r := so1.1
      refine tx_bs hr (by omega) gk2 (fun j hj => ⟨hd j hj, e3 j hj⟩) (md _ (fun m2 km => ⟨rfl, _, _, _, T.keep k3 km⟩))
  · unfold wp_X12_spoil; rintro _ rfl; exact br_n c (br_n c2 (br_n c3 (br_n c4 ⟨rfl, _, _, _, T⟩)))
