/-! sets of elements as bits: numbers below 2^31 -/
theorem iiN (a : Nat) : ii (a : Int) = nI a := rfl
theorem wshl_1 {k : Nat} (hk : k < 31) : wshl 1 (k : Int) = ((2 ^ k : Nat) : Int) := by
  unfold wshl
  have hp : 2 ^ k < 2 ^ 31 := Nat.pow_lt_pow_right (by decide) hk
  have e1 : ii 1 = nI 1 := rfl
  rw [e1, iiN, pk_shlN (nI k &&& 31) k (s_l k (by omega)) (by omega), Nat.one_mul, nI_toInt hp]
theorem bit_of {x e : Nat} (hx : x < 2 ^ 31) (he : e < 31) : wand (wshr (x : Int) (e : Int)) 1 = if x.testBit e = true then 1 else 0 := by
  unfold wand wshr
  rw [ti_ii, iiN, iiN, pk_shrN hx (nI e &&& 31) e (s_l e (by omega))]
  have h1 : x / 2 ^ e ≤ x := Nat.div_le_self _ _
  have e1 : ii 1 = (1 : Int32) := rfl
  rw [e1, pk_andN (n := x / 2 ^ e) (by omega) (m := 1) 1 (by decide), nI_toInt (by omega)]
  rw [Nat.testBit_eq_decide_div_mod_eq]
  by_cases q : x / 2 ^ e % 2 = 1
  · simp [q]
  · have : x / 2 ^ e % 2 = 0 := by omega
    simp [this]
theorem bt_N (a i : Nat) (hi : i < 32) : bt (nI a) i = a.testBit i := by
  unfold bt nI
  rw [Int32.toBitVec_ofNat', BitVec.getLsbD_ofNat]
  simp only [hi, decide_true, Bool.true_and]
theorem wor_N {a b : Nat} (ha : a < 2 ^ 31) (hb : b < 2 ^ 31) : wor (a : Int) (b : Int) = ((a ||| b : Nat) : Int) := by
  unfold wor
  have e : ii (a : Int) ||| ii (b : Int) = nI (a ||| b) := by
    apply b_ext
    intro i hi
    rw [b_or, iiN, iiN, bt_N _ _ hi, bt_N _ _ hi, bt_N _ _ hi, Nat.testBit_or]
  rw [e, nI_toInt (Nat.or_lt_two_pow ha hb)]
theorem wand_N {a b : Nat} (ha : a < 2 ^ 31) (hb : b < 2 ^ 31) : wand (a : Int) (b : Int) = ((a &&& b : Nat) : Int) := by
  unfold wand
  have e : ii (a : Int) &&& ii (b : Int) = nI (a &&& b) := by
    apply b_ext
    intro i hi
    rw [b_and, iiN, iiN, bt_N _ _ hi, bt_N _ _ hi, bt_N _ _ hi, Nat.testBit_and]
  rw [e, nI_toInt (Nat.and_lt_two_pow _ hb)]
theorem hasBit_eq {F x e : Nat} {h : HF} (hx : x < 2 ^ 31) (he : e < 31) : fX11_hasBit F (x : Int) (e : Int) h = some (bi (x.testBit e), h) := by
  unfold fX11_hasBit
  simp only [zjn]
  rw [bit_of hx he]
  cases x.testBit e
  · rfl
  · rfl
