/-! BYTES: by the class from 0 to 255, by the reference with a sign -/
theorem by_i8 (u : Int8) : (-128 ≤ u.toInt32.toInt ∧ u.toInt32.toInt ≤ 127) ∧ u.toInt32.toInt % 256 = (u.toBitVec.toNat : Int) := by
  have h1 : u.toInt32.toInt = u.toBitVec.toInt := Int8.toInt_toInt32 u
  have h2 := BitVec.toInt_eq_toNat_cond u.toBitVec
  have h3 := u.toBitVec.isLt
  rw [h1, h2]
  split <;> omega
theorem by_rng (z : Int) : -128 ≤ bI2b z ∧ bI2b z ≤ 127 := (by_i8 _).1
theorem by_and (z : Int32) : (z &&& 255).toInt = ((z.toBitVec.toNat % 256 : Nat) : Int) := by
  have h1 : (z &&& 255).toBitVec.toNat = z.toBitVec.toNat % 256 := by
    show (z.toBitVec &&& (255#32)).toNat = _
    rw [BitVec.toNat_and]
    exact Nat.and_two_pow_sub_one_eq_mod z.toBitVec.toNat 8
  have h2 : (z &&& 255).toInt = ((z &&& 255).toBitVec.toNat : Int) := by
    show (z &&& 255).toBitVec.toInt = _
    rw [BitVec.toInt_eq_toNat_of_lt (by omega)]
  rw [h2, h1]
theorem by_sh (x : BitVec 32) (s : Nat) (hs : s ≤ 24) : (x >>> s).toNat % 256 = ((x.sshiftRight s).signExtend 8).toNat := by
  have e : (x.sshiftRight s).signExtend 8 = (x >>> s).setWidth 8 := by
    rw [BitVec.signExtend_eq_setWidth_of_le _ (by decide)]
    ext i hi
    rw [BitVec.getElem_setWidth, BitVec.getElem_setWidth, BitVec.getLsbD_sshiftRight, BitVec.getLsbD_ushiftRight]
    rw [decide_eq_false (by omega), if_pos (by omega)]
    simp
  rw [e, BitVec.toNat_setWidth]
theorem by_24 (v : Int) : bAnd (bUshr v 24) 255 = bI2b (bShr v 24) % 256 := by
  unfold bAnd bUshr bShr bI2b
  rw [Int32.ofInt_toInt, Int32.ofInt_toInt, (by_i8 _).2]
  generalize Int32.ofInt v = x
  rw [show Int32.ofInt 255 = 255 from rfl, by_and]
  exact congrArg Int.ofNat (by_sh x.toBitVec 24 (by decide))
theorem by_16 (v : Int) : bAnd (bUshr v 16) 255 = bI2b (bShr v 16) % 256 := by
  unfold bAnd bUshr bShr bI2b
  rw [Int32.ofInt_toInt, Int32.ofInt_toInt, (by_i8 _).2]
  generalize Int32.ofInt v = x
  rw [show Int32.ofInt 255 = 255 from rfl, by_and]
  exact congrArg Int.ofNat (by_sh x.toBitVec 16 (by decide))
theorem by_8 (v : Int) : bAnd (bUshr v 8) 255 = bI2b (bShr v 8) % 256 := by
  unfold bAnd bUshr bShr bI2b
  rw [Int32.ofInt_toInt, Int32.ofInt_toInt, (by_i8 _).2]
  generalize Int32.ofInt v = x
  rw [show Int32.ofInt 255 = 255 from rfl, by_and]
  exact congrArg Int.ofNat (by_sh x.toBitVec 8 (by decide))
theorem by_0 (v : Int) : bAnd (bUshr v 0) 255 = bI2b (bShr v 0) % 256 := by
  unfold bAnd bUshr bShr bI2b
  rw [Int32.ofInt_toInt, Int32.ofInt_toInt, (by_i8 _).2]
  generalize Int32.ofInt v = x
  rw [show Int32.ofInt 255 = 255 from rfl, by_and]
  exact congrArg Int.ofNat (by_sh x.toBitVec 0 (by decide))
