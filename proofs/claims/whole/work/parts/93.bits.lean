theorem smI : ∀ k, k < 11 → ((nI k &&& 31).toBitVec.smod 32).toNat = k := by decide
theorem bI {n k : Nat} (hn : n < 2 ^ 31) (hk : k < 11) : ((nI n >>> (nI k &&& 31)) &&& 1) = nI (bt n k) := by
  have hd : n / 2 ^ k ≤ n := Nat.div_le_self _ _
  rw [pk_shrN hn (nI k &&& 31) k (smI k hk), pk_andN (n := n / 2 ^ k) (by omega) 1 (by decide)]
  rfl
theorem bI1 {n k : Nat} (hn : n < 2 ^ 31) (hk : k < 11) : ((nI n >>> (nI k &&& 31)) &&& 1) = 1 ↔ bt n k = 1 := by
  have := bt_lt n k
  rw [bI hn hk, show (1 : Int32) = nI 1 from rfl, nI_eq (by omega) (by omega)]
theorem shI : ∀ k, k < 11 → (1 : Int32) <<< (nI k &&& 31) = nI (2 ^ k) := by decide
theorem orI : ∀ e, e < 10 → ∀ y, y < 2 ^ e → nI y ||| nI (2 ^ e) = nI (y + 2 ^ e) := by decide +kernel
def bcF (x0 : Int32) : Int32 :=
  let v1 := x0 - (((x0.toUInt32 >>> ((1 : Int32).toUInt32 &&& Int32.toUInt32 31)).toInt32) &&& (1431655765 : Int32))
  let v2 := (v1 &&& (858993459 : Int32)) + (((v1.toUInt32 >>> ((2 : Int32).toUInt32 &&& Int32.toUInt32 31)).toInt32) &&& (858993459 : Int32))
  let v3 := (v2 + ((v2.toUInt32 >>> ((4 : Int32).toUInt32 &&& Int32.toUInt32 31)).toInt32)) &&& (252645135 : Int32)
  let v4 := v3 + ((v3.toUInt32 >>> ((8 : Int32).toUInt32 &&& Int32.toUInt32 31)).toInt32)
  let v5 := v4 + ((v4.toUInt32 >>> ((16 : Int32).toUInt32 &&& Int32.toUInt32 31)).toInt32)
  v5 &&& (63 : Int32)
theorem bcI : ∀ x, x < 1024 → bcF (nI x) = nI (pop x) := by decide +kernel
theorem tx_bc {x : Nat} {h : ck_H} {Q : Int32 → ck_H → Prop} (hx : x < 1024) (q : Q (nI (pop x)) h) : wp_J6_bitCount_0f7a4 (nI x) h Q := by
  rw [← bcI x hx] at q
  unfold wp_J6_bitCount_0f7a4
  rintro _ rfl _ rfl _ rfl _ rfl _ rfl
  exact q
theorem sbI {a : Int32} {x s : Nat} (hx : x < 2 ^ 31) (hs : s < 11) : (((a ||| nI x) >>> (nI s &&& 31)) &&& 1) = ((a >>> (nI s &&& 31)) &&& 1) ||| nI (bt x s) := by
  rw [← bI hx hs, Int32.shiftRight_or]
  apply Int32.toBitVec_inj.1
  rw [Int32.toBitVec_and, Int32.toBitVec_or, Int32.toBitVec_or, Int32.toBitVec_and, Int32.toBitVec_and]
  exact BitVec.and_or_distrib_right
theorem nI_bit {x s : Nat} (hs : s < 32) : (nI x).toBitVec.getLsbD s = decide (bt x s = 1) := by
  show (BitVec.ofNat 32 x).getLsbD s = _
  rw [BitVec.getLsbD_ofNat, Nat.testBit_eq_decide_div_mod_eq, decide_eq_true hs, Bool.true_and]
  exact decide_eq_decide.mpr Iff.rfl
theorem anI {x y : Nat} (hx : x < 1024) : (nI x &&& (nI y ^^^ (-1 : Int32)) = 0) ↔ ∀ s, s < 10 → bt x s = 1 → bt y s = 1 := by
  have hb : ∀ s, s < 32 → (nI x &&& (nI y ^^^ (-1 : Int32))).toBitVec.getLsbD s = (decide (bt x s = 1) && !decide (bt y s = 1)) := by
    intro s hs
    rw [Int32.toBitVec_and, Int32.toBitVec_xor, BitVec.getLsbD_and, BitVec.getLsbD_xor, nI_bit hs, nI_bit hs]
    have e : (-1 : Int32).toBitVec = BitVec.allOnes 32 := by decide
    rw [e, BitVec.getLsbD_allOnes]
    simp [hs]
  constructor
  · intro e s hs h1
    have b := hb s (by omega)
    rw [e] at b
    have z : (0 : Int32).toBitVec.getLsbD s = false := by
      show (0#32).getLsbD s = false
      exact BitVec.getLsbD_zero
    rw [z, h1] at b
    simpa using b
  · intro h
    apply Int32.toBitVec_inj.1
    apply BitVec.eq_of_getLsbD_eq
    intro s hs
    rw [hb s hs]
    have z : (0 : Int32).toBitVec.getLsbD s = false := by
      show (0#32).getLsbD s = false
      exact BitVec.getLsbD_zero
    rw [z]
    by_cases c : s < 10
    · by_cases c2 : bt x s = 1
      · simp [c2, h s c c2]
      · simp [c2]
    · have : bt x s = 0 := bt_hi (r := 10) (by omega) (by omega)
      simp [this]
