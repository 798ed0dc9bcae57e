/-! whole numbers for the machine's ints and longs -/
def jW (z : Int) : Int := (z + 2147483648) % 4294967296 - 2147483648
def jV (z : Int) : Int := (z + 9223372036854775808) % 18446744073709551616 - 9223372036854775808
def jIn (z : Int) : Prop := -2147483648 ≤ z ∧ z < 2147483648
def jLn (z : Int) : Prop := -9223372036854775808 ≤ z ∧ z < 9223372036854775808
theorem jW_in (z : Int) : jIn (jW z) := by unfold jIn jW; omega
theorem jV_in (z : Int) : jLn (jV z) := by unfold jLn jV; omega
theorem jW_id {z : Int} (h : jIn z) : jW z = z := by unfold jIn at h; unfold jW; omega
theorem jV_id {z : Int} (h : jLn z) : jV z = z := by unfold jLn at h; unfold jV; omega
theorem jIn_L {z : Int} (h : jIn z) : jLn z := by unfold jIn at h; unfold jLn; omega
theorem j_bm {z : Int} (h : jIn z) : z.bmod (2 ^ 32) = z := by
  unfold jIn at h
  rw [Int.bmod_eq_of_le (by omega) (by omega)]
theorem j_bmL {z : Int} (h : jLn z) : z.bmod (2 ^ 64) = z := by
  unfold jLn at h
  rw [Int.bmod_eq_of_le (by omega) (by omega)]
theorem j_tI {z : Int} (h : jIn z) : (Int32.ofInt z).toInt = z := by
  rw [Int32.toInt_ofInt]; exact j_bm h
theorem j_tL {z : Int} (h : jLn z) : (Int64.ofInt z).toInt = z := by
  rw [Int64.toInt_ofInt]; exact j_bmL h
theorem j_in (x : Int32) : jIn x.toInt := by
  have h1 := Int32.le_toInt x
  have h2 := Int32.toInt_lt x
  unfold jIn
  omega
theorem j_ln (x : Int64) : jLn x.toInt := by
  have h1 := Int64.le_toInt x
  have h2 := Int64.toInt_lt x
  unfold jLn
  omega
theorem j_bW (z : Int) : z.bmod (2 ^ 32) = jW z := by
  have h := jW_in z
  rw [← j_bm h, Int.bmod_eq_bmod_iff_bmod_sub_eq_zero]
  unfold jW
  rw [Int.bmod_eq_zero_of_dvd]
  exact ⟨(z + 2147483648) / 4294967296, by omega⟩
theorem j_bV (z : Int) : z.bmod (2 ^ 64) = jV z := by
  have h := jV_in z
  rw [← j_bmL h, Int.bmod_eq_bmod_iff_bmod_sub_eq_zero]
  unfold jV
  rw [Int.bmod_eq_zero_of_dvd]
  exact ⟨(z + 9223372036854775808) / 18446744073709551616, by omega⟩
theorem j_oW (z : Int) : Int32.ofInt (jW z) = Int32.ofInt z := by
  apply Int32.toInt_inj.mp
  rw [j_tI (jW_in z), Int32.toInt_ofInt]
  exact (j_bW z).symm
theorem j_oV (z : Int) : Int64.ofInt (jV z) = Int64.ofInt z := by
  apply Int64.toInt_inj.mp
  rw [j_tL (jV_in z), Int64.toInt_ofInt]
  exact (j_bV z).symm
theorem j_oI (x : Int32) : Int32.ofInt x.toInt = x := Int32.ofInt_toInt x
theorem j_oL (x : Int64) : Int64.ofInt x.toInt = x := Int64.ofInt_toInt x
theorem j_add (a b : Int) : Int32.ofInt a + Int32.ofInt b = Int32.ofInt (jW (a + b)) := by rw [j_oW, Int32.ofInt_add]
theorem j_sub (a b : Int) : Int32.ofInt a - Int32.ofInt b = Int32.ofInt (jW (a - b)) := by rw [j_oW, Int32.ofInt_sub]
theorem j_mul (a b : Int) : Int32.ofInt a * Int32.ofInt b = Int32.ofInt (jW (a * b)) := by rw [j_oW, Int32.ofInt_mul]
theorem j_addL (a b : Int) : Int64.ofInt a + Int64.ofInt b = Int64.ofInt (jV (a + b)) := by rw [j_oV, Int64.ofInt_add]
theorem j_subL (a b : Int) : Int64.ofInt a - Int64.ofInt b = Int64.ofInt (jV (a - b)) := by rw [j_oV, Int64.ofInt_sub]
theorem j_mulL (a b : Int) : Int64.ofInt a * Int64.ofInt b = Int64.ofInt (jV (a * b)) := by rw [j_oV, Int64.ofInt_mul]
/-- the machine's division (towards 0) and its rest -/
def jDv (a b : Int) : Int := jW (Int.tdiv a b)
def jRm (a b : Int) : Int := jW (Int.tmod a b)
def jDvL (a b : Int) : Int := jV (Int.tdiv a b)
theorem j_div {a b : Int} (ha : jIn a) (hb : jIn b) : Int32.ofInt a / Int32.ofInt b = Int32.ofInt (jDv a b) := by
  apply Int32.toInt_inj.mp
  rw [Int32.toInt_div, j_tI ha, j_tI hb, j_tI (show jIn (jDv a b) from jW_in _)]
  exact j_bW _
theorem j_divL {a b : Int} (ha : jLn a) (hb : jLn b) : Int64.ofInt a / Int64.ofInt b = Int64.ofInt (jDvL a b) := by
  apply Int64.toInt_inj.mp
  rw [Int64.toInt_div, j_tL ha, j_tL hb, j_tL (show jLn (jDvL a b) from jV_in _)]
  exact j_bV _
theorem j_rem {a b : Int} (ha : jIn a) (hb : jIn b) : Int32.ofInt a - Int32.ofInt a / Int32.ofInt b * Int32.ofInt b = Int32.ofInt (jRm a b) := by
  rw [j_div ha hb]
  show _ - Int32.ofInt (jW (Int.tdiv a b)) * _ = Int32.ofInt (jW (Int.tmod a b))
  rw [j_oW, j_oW, ← Int32.ofInt_mul, ← Int32.ofInt_sub]
  congr 1
  have := Int.tmod_add_mul_tdiv a b
  rw [Int.mul_comm b] at this
  omega
theorem j_lt {a b : Int} (ha : jIn a) (hb : jIn b) : Int32.ofInt a < Int32.ofInt b ↔ a < b := by rw [Int32.lt_iff_toInt_lt, j_tI ha, j_tI hb]
theorem j_le {a b : Int} (ha : jIn a) (hb : jIn b) : Int32.ofInt a ≤ Int32.ofInt b ↔ a ≤ b := by rw [Int32.le_iff_toInt_le, j_tI ha, j_tI hb]
theorem j_eq {a b : Int} (ha : jIn a) (hb : jIn b) : Int32.ofInt a = Int32.ofInt b ↔ a = b := by rw [← Int32.toInt_inj, j_tI ha, j_tI hb]
theorem j_0 : (0 : Int32) = Int32.ofInt 0 := by decide
theorem j_in0 : jIn 0 := by unfold jIn; omega
theorem j_ltL {a b : Int} (ha : jLn a) (hb : jLn b) : Int64.ofInt a < Int64.ofInt b ↔ a < b := by rw [Int64.lt_iff_toInt_lt, j_tL ha, j_tL hb]
theorem j_eqL {a b : Int} (ha : jLn a) (hb : jLn b) : Int64.ofInt a = Int64.ofInt b ↔ a = b := by rw [← Int64.toInt_inj, j_tL ha, j_tL hb]
def jCm (a b : Int) : Int := if b < a then 1 else if a = b then 0 else -1
theorem j_cmp {a b : Int} (ha : jLn a) (hb : jLn b) : lg_cmp (Int64.ofInt a) (Int64.ofInt b) = Int32.ofInt (jCm a b) := by
  unfold lg_cmp jCm
  show (if Int64.ofInt b < Int64.ofInt a then _ else _) = _
  by_cases h : b < a
  · rw [if_pos ((j_ltL hb ha).mpr h), if_pos h]; decide
  · rw [if_neg (fun z => h ((j_ltL hb ha).mp z)), if_neg h]
    by_cases h2 : a = b
    · rw [if_pos ((j_eqL ha hb).mpr h2), if_pos h2]; decide
    · rw [if_neg (fun z => h2 ((j_eqL ha hb).mp z)), if_neg h2]; decide
theorem jCm_in (a b : Int) : jIn (jCm a b) := by unfold jIn jCm; split <;> (try split) <;> omega
theorem jCm_0 (a b : Int) : jCm a b = 0 ↔ a = b := by unfold jCm; split <;> (try split) <;> omega
/-- bits, by the machine's own -/
def jAn (a b : Int) : Int := (Int32.ofInt a &&& Int32.ofInt b).toInt
def jOr (a b : Int) : Int := (Int32.ofInt a ||| Int32.ofInt b).toInt
def jXo (a b : Int) : Int := (Int32.ofInt a ^^^ Int32.ofInt b).toInt
def jSl (a b : Int) : Int := (Int32.ofInt a <<< (Int32.ofInt b &&& 31)).toInt
def jSr (a b : Int) : Int := (Int32.ofInt a >>> (Int32.ofInt b &&& 31)).toInt
def jUr (a b : Int) : Int := (((Int32.ofInt a).toUInt32 >>> ((Int32.ofInt b).toUInt32 &&& Int32.toUInt32 31)).toInt32).toInt
theorem j_i2l {a : Int} (h : jIn a) : (Int32.ofInt a).toInt64 = Int64.ofInt a := by
  apply Int64.toInt_inj.mp
  rw [Int32.toInt_toInt64, j_tI h, j_tL (jIn_L h)]
theorem j_l2i {a : Int} (h : jLn a) : (Int64.ofInt a).toInt32 = Int32.ofInt (jW a) := by
  apply Int32.toInt_inj.mp
  rw [Int64.toInt_toInt32, j_tL h, j_tI (jW_in _)]
  exact j_bW a
theorem j_bip {n : Int} (h : -128 ≤ n ∧ n < 128) : (Int8.ofInt n).toInt32 = Int32.ofInt n := by
  apply Int32.toInt_inj.mp
  rw [Int8.toInt_toInt32, Int8.toInt_ofInt_of_le (by omega) (by omega), j_tI (by unfold jIn; omega)]
theorem j_sip {n : Int} (h : -32768 ≤ n ∧ n < 32768) : (Int16.ofInt n).toInt32 = Int32.ofInt n := by
  apply Int32.toInt_inj.mp
  rw [Int16.toInt_toInt32, Int16.toInt_ofInt_of_le (by omega) (by omega), j_tI (by unfold jIn; omega)]
theorem j_clamp {z : Int} (h : jIn z) : (Int32.ofInt z).toNatClampNeg = z.toNat := by
  show (Int32.ofInt z).toInt.toNat = _
  rw [j_tI h]
theorem j_vpin {z : Int} {n : Nat} (h : jIn z) (h0 : 0 ≤ z) (h1 : z < n) : vp_in (Int32.ofInt z) n := by
  rw [vp_in_iff, j_tI h]
  exact ⟨h0, h1⟩
