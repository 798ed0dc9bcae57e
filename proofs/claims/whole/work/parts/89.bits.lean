/-! LEVEL 2: bits of numbers that aren't negative -/
theorem zbv (a : Nat) : (Int32.ofInt (a : Int)).toBitVec = BitVec.ofNat 32 a := by
  rw [Int32.toBitVec_ofInt, BitVec.ofInt_natCast]
theorem ztn {a : Nat} (h : a < 4294967296) : (Int32.ofInt (a : Int)).toBitVec.toNat = a := by
  rw [zbv, BitVec.toNat_ofNat]
  exact Nat.mod_eq_of_lt h
theorem zti {x : Int32} {k : Nat} (h : x.toBitVec.toNat = k) (hk : k < 2147483648) : x.toInt = (k : Int) := by
  rw [← Int32.toInt_toBitVec, BitVec.toInt_eq_toNat_of_lt (by rw [h]; show 2 * k < 4294967296; omega), h]
theorem zAn {a b : Nat} (ha : a < 2147483648) (hb : b < 2147483648) : jAn (a : Int) (b : Int) = ((a &&& b : Nat) : Int) := by
  unfold jAn
  refine zti ?_ (Nat.lt_of_le_of_lt Nat.and_le_left ha)
  rw [Int32.toBitVec_and, BitVec.toNat_and, ztn (by omega), ztn (by omega)]
theorem zOr {a b : Nat} (ha : a < 2147483648) (hb : b < 2147483648) : jOr (a : Int) (b : Int) = ((a ||| b : Nat) : Int) := by
  unfold jOr
  refine zti ?_ (Nat.or_lt_two_pow (n := 31) ha hb)
  rw [Int32.toBitVec_or, BitVec.toNat_or, ztn (by omega), ztn (by omega)]
theorem zXo {a b : Nat} (ha : a < 2147483648) (hb : b < 2147483648) : jXo (a : Int) (b : Int) = ((a ^^^ b : Nat) : Int) := by
  unfold jXo
  refine zti ?_ (Nat.xor_lt_two_pow (n := 31) ha hb)
  rw [Int32.toBitVec_xor, BitVec.toNat_xor, ztn (by omega), ztn (by omega)]
theorem zsh : ∀ k : Nat, k < 32 → ((Int32.ofInt (k : Int) &&& 31).toBitVec.smod 32) = BitVec.ofNat 32 k := by decide +kernel
theorem zSl {a k : Nat} (hk : k < 31) (h : a * 2 ^ k < 2147483648) (ha : a < 2147483648) : jSl (a : Int) (k : Int) = ((a * 2 ^ k : Nat) : Int) := by
  unfold jSl
  refine zti ?_ h
  rw [Int32.toBitVec_shiftLeft, zsh k (by omega), BitVec.shiftLeft_eq', BitVec.toNat_shiftLeft, ztn (by omega), BitVec.toNat_ofNat, Nat.mod_eq_of_lt (a := k) (Nat.lt_trans hk (by decide)), Nat.shiftLeft_eq]
  exact Nat.mod_eq_of_lt (Nat.lt_trans h (by decide))
theorem zSr {a k : Nat} (hk : k < 31) (ha : a < 2147483648) : jSr (a : Int) (k : Int) = ((a / 2 ^ k : Nat) : Int) := by
  unfold jSr
  refine zti ?_ (Nat.lt_of_le_of_lt (Nat.div_le_self _ _) ha)
  have hm : (Int32.ofInt (a : Int)).toBitVec.msb = false := by
    rw [BitVec.msb_eq_false_iff_two_mul_lt, ztn (by omega)]
    show 2 * a < 4294967296
    omega
  rw [Int32.toBitVec_shiftRight, zsh k (by omega), BitVec.toNat_sshiftRight'_of_msb_false hm, ztn (by omega), BitVec.toNat_ofNat, Nat.mod_eq_of_lt (a := k) (Nat.lt_trans hk (by decide)), Nat.shiftRight_eq_div_pow]
