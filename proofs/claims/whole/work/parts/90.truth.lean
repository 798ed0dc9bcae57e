/-! LEVEL 2: the truths that wait, as bits -/
theorem or1 {a b : Nat} (hb : b ≤ 1) : (a ||| b) = 2 * (a / 2) + (if a % 2 = 1 ∨ b = 1 then 1 else 0) := by
  have h1 : (a ||| b) / 2 = a / 2 := by rw [Nat.or_div_two, show b / 2 = 0 by omega, Nat.or_zero]
  have h2 := Nat.or_mod_two_eq_one (a := a) (b := b)
  split <;> omega
theorem xo1 {a : Nat} : (a ^^^ 1) = 2 * (a / 2) + (if a % 2 = 1 then 0 else 1) := by
  have h1 : (a ^^^ 1) / 2 = a / 2 := by rw [Nat.xor_div_two, show 1 / 2 = 0 from rfl, Nat.xor_zero]
  have h2 := Nat.xor_mod_two_eq_one (a := a) (b := 1)
  split <;> omega
theorem tPush {v b : Int} (h0 : 0 ≤ v) (h1 : v < 1073741824) (hb : b = 0 ∨ b = 1) : jOr (jSl v 1) b = 2 * v + b := by
  obtain ⟨n, rfl⟩ : ∃ n : Nat, v = (n : Int) := ⟨v.toNat, by omega⟩
  obtain ⟨c, rfl⟩ : ∃ c : Nat, b = (c : Int) := ⟨b.toNat, by omega⟩
  have e1 : jSl (n : Int) 1 = ((n * 2 : Nat) : Int) := zSl (k := 1) (by decide) (by show n * 2 < 2147483648; omega) (by omega)
  rw [e1, zOr (by omega) (by omega), or1 (by omega)]
  have : (n * 2) / 2 = n := by omega
  rw [this]
  split <;> omega
theorem tLow {v : Int} (h0 : 0 ≤ v) (h1 : v < 2147483648) : jAn v 1 = v % 2 := by
  obtain ⟨n, rfl⟩ : ∃ n : Nat, v = (n : Int) := ⟨v.toNat, by omega⟩
  have e := zAn (a := n) (b := 1) (by omega) (by decide)
  rw [Nat.and_one_is_mod] at e
  exact e
theorem tNot {v : Int} (h0 : 0 ≤ v) (h1 : v < 2147483648) : jXo v 1 = if v % 2 = 0 then v + 1 else v - 1 := by
  obtain ⟨n, rfl⟩ : ∃ n : Nat, v = (n : Int) := ⟨v.toNat, by omega⟩
  have e := zXo (a := n) (b := 1) (by omega) (by decide)
  rw [xo1] at e
  rw [show jXo (n : Int) 1 = _ from e]
  by_cases h : n % 2 = 1
  · rw [if_pos h, if_neg (by omega)]; omega
  · rw [if_neg h, if_pos (by omega)]; omega
theorem tHalf {v : Int} (h0 : 0 ≤ v) (h1 : v < 2147483648) : jSr v 1 = v / 2 := by
  obtain ⟨n, rfl⟩ : ∃ n : Nat, v = (n : Int) := ⟨v.toNat, by omega⟩
  have e := zSr (a := n) (k := 1) (by decide) (by omega)
  rw [show jSr (n : Int) 1 = _ from e]
  show ((n / 2 ^ 1 : Nat) : Int) = _
  rw [show (2 : Nat) ^ 1 = 2 from rfl]
  omega
theorem tOr {v : Int} (h0 : 0 ≤ v) (h1 : v < 2147483648) : jOr (jSr v 1) (jAn v 1) = if v % 2 = 0 then v / 2 else v / 2 - v / 2 % 2 + 1 := by
  rw [tHalf h0 h1, tLow h0 h1]
  obtain ⟨n, hn⟩ : ∃ n : Nat, v / 2 = (n : Int) := ⟨(v / 2).toNat, by omega⟩
  obtain ⟨c, hc⟩ : ∃ c : Nat, v % 2 = (c : Int) := ⟨(v % 2).toNat, by omega⟩
  rw [hn, hc, zOr (by omega) (by omega), or1 (by omega)]
  by_cases h : c = 0
  · subst h
    rw [if_pos (show ((0 : Nat) : Int) = 0 from rfl)]
    by_cases h2 : n % 2 = 1
    · rw [if_pos (Or.inl h2)]; omega
    · rw [if_neg (by omega)]; omega
  · rw [if_pos (Or.inr (by omega)), if_neg (by omega)]
    omega
theorem tAnd {v : Int} (h0 : 0 ≤ v) (h1 : v < 2147483648) : jAn (jSr v 1) (jOr v (-2)) = if v % 2 = 0 then v / 2 - v / 2 % 2 else v / 2 := by
  rw [tHalf h0 h1]
  obtain ⟨n, rfl⟩ : ∃ n : Nat, v = (n : Int) := ⟨v.toNat, by omega⟩
  have e2 : ((n : Int)) / 2 = ((n / 2 : Nat) : Int) := by omega
  rw [e2]
  have hm2 : (Int32.ofInt (-2)).toBitVec.toNat = 4294967294 := by decide +kernel
  have key : jAn ((n / 2 : Nat) : Int) (jOr (n : Int) (-2)) = ((n / 2 &&& (n ||| 4294967294) : Nat) : Int) := by
    unfold jAn jOr
    refine zti ?_ (Nat.lt_of_le_of_lt Nat.and_le_left (by omega))
    rw [Int32.ofInt_toInt, Int32.toBitVec_and, Int32.toBitVec_or, BitVec.toNat_and, BitVec.toNat_or, ztn (by omega), ztn (by omega), hm2]
  have y1 : (n ||| 4294967294) / 2 = n / 2 ||| 2147483647 := by rw [Nat.or_div_two]
  have y2 := Nat.or_mod_two_eq_one (a := n) (b := 4294967294)
  have z1 : (n / 2 &&& (n ||| 4294967294)) / 2 = n / 2 / 2 := by
    rw [Nat.and_div_two, y1]
    refine Nat.eq_of_testBit_eq (fun i => ?_)
    rw [Nat.testBit_and, Nat.testBit_or]
    by_cases hi : i < 31
    · have : (2147483647 : Nat).testBit i = true := by
        have t := Nat.testBit_two_pow_sub_one 31 i
        rw [decide_eq_true hi] at t
        exact t
      rw [this, Bool.or_true, Bool.and_true]
    · have : (n / 2 / 2).testBit i = false := Nat.testBit_lt_two_pow (Nat.lt_of_lt_of_le (show n / 2 / 2 < 2 ^ 31 by show n / 2 / 2 < 2147483648; omega) (Nat.pow_le_pow_right (by decide) (by omega)))
      rw [this, Bool.false_and]
  have z2 := Nat.and_mod_two_eq_one (a := n / 2) (b := (n ||| 4294967294))
  rw [key]
  by_cases h : (n : Int) % 2 = 0
  · rw [if_pos h]; omega
  · rw [if_neg h]; omega
