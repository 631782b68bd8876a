section CKN2
variable {cc : ByteArray} {nL : Nat} {own : String} {ret : Option FieldType} {dp mc ms : Nat} {ini gr : Bool} {Q : Option Value → List ck_C → ck_H → Prop} {sh sh' : List ck_C} {h : ck_H} {kc ks pc z : Nat} {lv : List (Nat × Value)} {rest : List Value}
theorem ck_new2 {ci idx N : Nat} {C : String} {T : u_T} {ty0 : Nat → FieldType} {fs : List ck_F} (hz : sh.length = z) (hsh : sh ++ [.inl (ci, fs)] = sh') (hgr : gr = true) (hlt : z + 1 < 1000) (hc : ck_cls ci C T N ty0) (hcl : Cond.classLink own idx C ∈ ck_T) (hfs : ∀ j, j < N → ck_dok (ty0 j) fs[j]? = true) (hkc : kc + 1 ≤ mc) (hks : ks + N ≤ ms) (hd : decode cc pc = .ok (.new idx, 3))
    (k : ck_W cc nL own ret dp mc ms ini gr Q sh' (ck_z h z) (kc + 1) (ks + N) (pc + 3) lv (.ref z :: rest)) : ck_W cc nL own ret dp mc ms ini gr Q sh h kc ks pc lv rest := by
  subst hz; subst hsh
  exact ck_new hgr hlt hc hcl hfs hkc hks hd k
theorem ck_newI2 {N' : Nat} {n : Int32} (hz : sh.length = z) (hsh : sh ++ [.inr (0, N')] = sh') (hgr : gr = true) (hlt : z + 1 < 1000) (harr : Cond.arrayClass .int ∈ ck_T) (hn : ¬ n < 0) (hN : n.toNatClampNeg = N') (hbytes : N' * componentBytes .int ≤ 536870912) (hkc : kc + 1 ≤ mc) (hks : ks + N' ≤ ms) (hd : decode cc pc = .ok (.newarray .int, 2))
    (k : ck_W cc nL own ret dp mc ms ini gr Q sh' (ck_z h z) (kc + 1) (ks + N') (pc + 2) lv (.ref z :: rest)) : ck_W cc nL own ret dp mc ms ini gr Q sh h kc ks pc lv (.int n :: rest) := by
  subst hz; subst hsh
  exact ck_newaI hgr hlt harr hn hN hbytes hkc hks hd k
theorem ck_newB2 {N' : Nat} {n : Int32} (hz : sh.length = z) (hsh : sh ++ [.inr (1, N')] = sh') (hgr : gr = true) (hlt : z + 1 < 1000) (harr : Cond.arrayClass .byte ∈ ck_T) (hn : ¬ n < 0) (hN : n.toNatClampNeg = N') (hbytes : N' * componentBytes .byte ≤ 536870912) (hkc : kc + 1 ≤ mc) (hks : ks + N' ≤ ms) (hd : decode cc pc = .ok (.newarray .byte, 2))
    (k : ck_W cc nL own ret dp mc ms ini gr Q sh' (ck_z h z) (kc + 1) (ks + N') (pc + 2) lv (.ref z :: rest)) : ck_W cc nL own ret dp mc ms ini gr Q sh h kc ks pc lv (.int n :: rest) := by
  subst hz; subst hsh
  exact ck_newaB hgr hlt harr hn hN hbytes hkc hks hd k
theorem ck_newZ2 {N' : Nat} {n : Int32} (hz : sh.length = z) (hsh : sh ++ [.inr (2, N')] = sh') (hgr : gr = true) (hlt : z + 1 < 1000) (harr : Cond.arrayClass .boolean ∈ ck_T) (hn : ¬ n < 0) (hN : n.toNatClampNeg = N') (hbytes : N' * componentBytes .boolean ≤ 536870912) (hkc : kc + 1 ≤ mc) (hks : ks + N' ≤ ms) (hd : decode cc pc = .ok (.newarray .boolean, 2))
    (k : ck_W cc nL own ret dp mc ms ini gr Q sh' (ck_z h z) (kc + 1) (ks + N') (pc + 2) lv (.ref z :: rest)) : ck_W cc nL own ret dp mc ms ini gr Q sh h kc ks pc lv (.int n :: rest) := by
  subst hz; subst hsh
  exact ck_newaZ hgr hlt harr hn hN hbytes hkc hks hd k
theorem ck_newL2 {N' : Nat} {n : Int32} (hz : sh.length = z) (hsh : sh ++ [.inr (3, N')] = sh') (hgr : gr = true) (hlt : z + 1 < 1000) (harr : Cond.arrayClass .long ∈ ck_T) (hn : ¬ n < 0) (hN : n.toNatClampNeg = N') (hbytes : N' * componentBytes .long ≤ 536870912) (hkc : kc + 1 ≤ mc) (hks : ks + N' ≤ ms) (hd : decode cc pc = .ok (.newarray .long, 2))
    (k : ck_W cc nL own ret dp mc ms ini gr Q sh' (ck_z h z) (kc + 1) (ks + N') (pc + 2) lv (.ref z :: rest)) : ck_W cc nL own ret dp mc ms ini gr Q sh h kc ks pc lv (.int n :: rest) := by
  subst hz; subst hsh
  exact ck_newaL hgr hlt harr hn hN hbytes hkc hks hd k
end CKN2
