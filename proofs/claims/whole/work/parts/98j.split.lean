/-! LEVEL 2: the class splits the tape into words -/
theorem c_byte {m : jMu} {n k : Int} (hn : m 30 1 = n) (hb : n ≤ 400) (h0 : 0 ≤ k) (h1 : k < n) : f_X6_byteAt k m = some (m 31 k) := by
  unfold f_X6_byteAt
  rw [if_neg (by omega), if_neg (by omega), if_neg (by omega), if_pos (by omega)]
theorem c_let (c : Int) : f_X3_isLetter c = some (if xL c = true then 1 else 0) := by
  unfold f_X3_isLetter
  have e : xL c = true ↔ 97 ≤ c ∧ c ≤ 122 := decide_eq_true_iff
  by_cases g : 97 ≤ c ∧ c ≤ 122
  · rw [if_neg (by omega), if_neg (by omega), if_pos (e.mpr g)]
  · rw [if_neg (fun z => g (e.mp z))]
    split
    · rfl
    · rw [if_pos (by omega)]
theorem c_dig (c : Int) : f_X3_isDigit c = some (if xD c = true then 1 else 0) := by
  unfold f_X3_isDigit
  have e : xD c = true ↔ 48 ≤ c ∧ c ≤ 57 := decide_eq_true_iff
  by_cases g : 48 ≤ c ∧ c ≤ 57
  · rw [if_neg (by omega), if_neg (by omega), if_pos (e.mpr g)]
  · rw [if_neg (fun z => g (e.mp z))]
    split
    · rfl
    · rw [if_pos (by omega)]
theorem c_runL {m : jMu} {n p : Int} (hn : m 30 1 = n) (hb : 0 ≤ n ∧ n ≤ 400) (hp : 0 ≤ p) : ∀ (f q : Nat) (i : Int), 0 ≤ i → p ≤ i → i ≤ 1000 → n ≤ i + f → f < q → f_X3_runOf_L4 q p 1 i m = some (xRun xL (m 31) n f i - p) := by
  intro f
  induction f with
  | zero =>
    intro q i h0 hpi hi h1 hq
    obtain ⟨q, rfl⟩ : ∃ t, q = t + 1 := ⟨q - 1, by omega⟩
    rw [f_X3_runOf_L4]
    unfold f_X6_length
    rw [hn, Option.bind_some, if_pos (by omega), jW_of (by omega) (by omega)]
    rfl
  | succ f ih =>
    intro q i h0 hpi hi h1 hq
    obtain ⟨q, rfl⟩ : ∃ t, q = t + 1 := ⟨q - 1, by omega⟩
    rw [f_X3_runOf_L4]
    unfold f_X6_length xRun
    rw [hn, Option.bind_some]
    by_cases g : n ≤ i
    · rw [if_pos g, if_neg (fun z => by omega), jW_of (by omega) (by omega)]
    · rw [if_neg g, if_neg (by decide), c_byte hn hb.2 h0 (by omega), Option.bind_some, c_let, Option.bind_some, ite01]
      by_cases g2 : xL (m 31 i) = true
      · rw [if_pos g2, if_pos ⟨by omega, g2⟩, jW_of (by omega) (by omega)]
        exact ih q (i + 1) (by omega) (by omega) (by omega) (by omega) (by omega)
      · rw [if_neg g2, if_neg (fun z => g2 z.2), jW_of (by omega) (by omega)]
theorem c_runD {m : jMu} {n p : Int} (hn : m 30 1 = n) (hb : 0 ≤ n ∧ n ≤ 400) (hp : 0 ≤ p) : ∀ (f q : Nat) (i : Int), 0 ≤ i → p ≤ i → i ≤ 1000 → n ≤ i + f → f < q → f_X3_runOf_L4 q p 0 i m = some (xRun xD (m 31) n f i - p) := by
  intro f
  induction f with
  | zero =>
    intro q i h0 hpi hi h1 hq
    obtain ⟨q, rfl⟩ : ∃ t, q = t + 1 := ⟨q - 1, by omega⟩
    rw [f_X3_runOf_L4]
    unfold f_X6_length
    rw [hn, Option.bind_some, if_pos (by omega), jW_of (by omega) (by omega)]
    rfl
  | succ f ih =>
    intro q i h0 hpi hi h1 hq
    obtain ⟨q, rfl⟩ : ∃ t, q = t + 1 := ⟨q - 1, by omega⟩
    rw [f_X3_runOf_L4]
    unfold f_X6_length xRun
    rw [hn, Option.bind_some]
    by_cases g : n ≤ i
    · rw [if_pos g, if_neg (fun z => by omega), jW_of (by omega) (by omega)]
    · rw [if_neg g, if_pos rfl, c_byte hn hb.2 h0 (by omega), Option.bind_some, c_dig, Option.bind_some, ite01]
      by_cases g2 : xD (m 31 i) = true
      · rw [if_pos g2, if_pos ⟨by omega, g2⟩, jW_of (by omega) (by omega)]
        exact ih q (i + 1) (by omega) (by omega) (by omega) (by omega) (by omega)
      · rw [if_neg g2, if_neg (fun z => g2 z.2), jW_of (by omega) (by omega)]
theorem xRun_in {p : Int → Bool} {b : Int → Int} {n : Int} : ∀ (q : Nat) (i j : Int), i ≤ j → j < xRun p b n q i → p (b j) = true := by
  intro q
  induction q with
  | zero =>
    intro i j h1 h2
    have : j < i := h2
    omega
  | succ q ih =>
    intro i j h1 h2
    unfold xRun at h2
    by_cases g : i < n ∧ p (b i) = true
    · rw [if_pos g] at h2
      by_cases e : j = i
      · rw [e]; exact g.2
      · exact ih (i + 1) j (by omega) h2
    · rw [if_neg g] at h2
      omega
theorem c_sign (c : Int) : f_X3_signOf c = some (xSg c) := by
  have l1 : jtl 1 = 6 := by decide
  have c0 : jtc 1 0 = 40 := by decide
  have c1 : jtc 1 1 = 41 := by decide
  have c2 : jtc 1 2 = 59 := by decide
  have c3 : jtc 1 3 = 43 := by decide
  have c4 : jtc 1 4 = 60 := by decide
  have c5 : jtc 1 5 = 62 := by decide
  have st : ∀ (q : Nat) (i : Int), 0 ≤ i → i < 6 → f_X3_signOf_L2 (q + 1) c i = if jtc 1 i = c then some (120 + i) else f_X3_signOf_L2 q c (i + 1) := by
    intro q i h0 h1
    rw [f_X3_signOf_L2, l1, if_neg (by omega), if_pos (by omega), jW_of (z := 120 + i) (by omega) (by omega), jW_of (z := i + 1) (by omega) (by omega)]
  unfold f_X3_signOf xSg
  rw [show jFU = 99993 + 1 + 1 + 1 + 1 + 1 + 1 + 1 from rfl]
  rw [st _ 0 (by decide) (by decide), st _ (0 + 1) (by decide) (by decide), st _ (0 + 1 + 1) (by decide) (by decide), st _ (0 + 1 + 1 + 1) (by decide) (by decide), st _ (0 + 1 + 1 + 1 + 1) (by decide) (by decide), st _ (0 + 1 + 1 + 1 + 1 + 1) (by decide) (by decide), f_X3_signOf_L2, l1, if_pos (show (6 : Int) ≤ 0 + 1 + 1 + 1 + 1 + 1 + 1 by decide)]
  simp only [Int.reduceAdd, c0, c1, c2, c3, c4, c5]
  by_cases g0 : c = 40
  · rw [if_pos g0.symm, if_pos g0]
  rw [if_neg (Ne.symm g0), if_neg g0]
  by_cases g1 : c = 41
  · rw [if_pos g1.symm, if_pos g1]
  rw [if_neg (Ne.symm g1), if_neg g1]
  by_cases g2 : c = 59
  · rw [if_pos g2.symm, if_pos g2]
  rw [if_neg (Ne.symm g2), if_neg g2]
  by_cases g3 : c = 43
  · rw [if_pos g3.symm, if_pos g3]
  rw [if_neg (Ne.symm g3), if_neg g3]
  by_cases g4 : c = 60
  · rw [if_pos g4.symm, if_pos g4]
  rw [if_neg (Ne.symm g4), if_neg g4]
  by_cases g5 : c = 62
  · rw [if_pos g5.symm, if_pos g5]
  rw [if_neg (Ne.symm g5), if_neg g5]
theorem xSl_lenB (b : Int → Int) : ∀ (q : Nat) (p : Int), (xSl b p q).length = q := by
  intro q
  induction q with
  | zero => intro p; rfl
  | succ q ih => intro p; show (xSl b (p + 1) q).length + 1 = q + 1; rw [ih]
theorem c_same {m : jMu} {n p f : Int} (hn : m 30 1 = n) (hb : n ≤ 400) (hp : 0 ≤ p) (hf : 0 ≤ f) : ∀ (d q : Nat) (i len : Int), 0 ≤ i → i + d = len → d < q → p + len ≤ n → f + len ≤ 79 → f_X3_isSame_L3 q p f len i m = some (if xSl (m 31) (p + i) d = xSl (jtc 0) (f + i) d then 1 else 0) := by
  have l0 : jtl 0 = 79 := by decide
  intro d
  induction d with
  | zero =>
    intro q i len h0 h1 hq h2 h3
    obtain ⟨q, rfl⟩ : ∃ t, q = t + 1 := ⟨q - 1, by omega⟩
    rw [f_X3_isSame_L3, if_pos (by omega)]
    show some 1 = some (if ([] : List Int) = [] then 1 else 0)
    rw [if_pos rfl]
  | succ d ih =>
    intro q i len h0 h1 hq h2 h3
    obtain ⟨q, rfl⟩ : ∃ t, q = t + 1 := ⟨q - 1, by omega⟩
    rw [f_X3_isSame_L3, if_neg (by omega), jW_of (z := f + i) (by omega) (by omega), if_neg (by omega), l0, if_neg (by omega), if_pos (by omega), jW_of (z := p + i) (by omega) (by omega), c_byte hn hb (by omega) (by omega), Option.bind_some, jW_of (z := i + 1) (by omega) (by omega), ih q (i + 1) len (by omega) (by omega) (by omega) h2 h3]
    have e : (xSl (m 31) (p + i) (d + 1) = xSl (jtc 0) (f + i) (d + 1)) ↔ (jtc 0 (f + i) = m 31 (p + i) ∧ xSl (m 31) (p + (i + 1)) d = xSl (jtc 0) (f + (i + 1)) d) := by
      show (m 31 (p + i) :: xSl (m 31) (p + i + 1) d = jtc 0 (f + i) :: xSl (jtc 0) (f + i + 1) d) ↔ _
      rw [List.cons.injEq, Int.add_assoc, Int.add_assoc]
      exact ⟨fun z => ⟨z.1.symm, z.2⟩, fun z => ⟨z.1.symm, z.2⟩⟩
    by_cases g : jtc 0 (f + i) = m 31 (p + i)
    · rw [if_pos g]
      by_cases g2 : xSl (m 31) (p + (i + 1)) d = xSl (jtc 0) (f + (i + 1)) d
      · rw [if_pos g2, if_pos (e.mpr ⟨g, g2⟩)]
      · rw [if_neg g2, if_neg (fun z => g2 (e.mp z).2)]
    · rw [if_neg g, if_neg (fun z => g (e.mp z).1)]
/-- one word of all is looked at -/
theorem c_wst {m : jMu} {n p len : Int} (hn : m 30 1 = n) (hb : n ≤ 400) (hp : 0 ≤ p) (hl : 0 ≤ len) (hpl : p + len ≤ n) {v : Int} (hv : 0 ≤ v ∧ v < 1000) {f L w : Nat} (hsp : jtc 0 ((f : Int) + (L : Int)) = 32) (hns : ∀ i, i < L → jtc 0 ((f : Int) + (i : Int)) ≠ 32) (htx : jtx w = xSl (jtc 0) (f : Int) L) (hf : f + L < 79) (q : Nat) : f_X3_wordOf_L9 (q + L + 1) p len v (f : Int) (f : Int) m = if xSl (m 31) p len.toNat = jtx w then some v else f_X3_wordOf_L9 q p len (v + 1) ((f : Int) + L + 1) ((f : Int) + L + 1) m := by
  have l0 : jtl 0 = 79 := by decide
  have skip : ∀ d : Nat, d ≤ L → f_X3_wordOf_L9 (q + 1 + d) p len v (f : Int) ((f : Int) + L - d) m = f_X3_wordOf_L9 (q + 1) p len v (f : Int) ((f : Int) + L) m := by
    intro d
    induction d with
    | zero => intro _; rw [Nat.add_zero, Int.natCast_zero, Int.sub_zero]
    | succ d ih =>
      intro hd
      have h32 := hns (L - (d + 1)) (by omega)
      rw [show (f : Int) + ((L - (d + 1) : Nat) : Int) = (f : Int) + L - ((d + 1 : Nat) : Int) by omega] at h32
      rw [show q + 1 + (d + 1) = (q + 1 + d) + 1 by omega, f_X3_wordOf_L9, l0, if_neg (by omega), if_pos (by omega), if_neg h32, jW_of (by omega) (by omega), show (f : Int) + L - ((d + 1 : Nat) : Int) + 1 = (f : Int) + L - (d : Int) by omega]
      exact ih (by omega)
  have s := skip L (Nat.le_refl _)
  rw [show (f : Int) + L - L = (f : Int) by omega, show q + 1 + L = q + L + 1 by omega] at s
  rw [s, f_X3_wordOf_L9, l0, if_neg (by omega), if_pos (by omega), if_pos hsp, jW_of (z := (f : Int) + L - f) (by omega) (by omega), jW_of (z := v + 1) (by omega) (by omega), jW_of (z := (f : Int) + L + 1) (by omega) (by omega)]
  by_cases g : (f : Int) + L - f = len
  · have S := c_same hn hb hp (f := (f : Int)) (by omega) L jFU 0 len (Int.le_refl _) (by omega) (by unfold jFU; omega) hpl (by omega)
    unfold f_X3_isSame
    rw [if_pos g, S, Option.bind_some, ite01, Int.add_zero, Int.add_zero, ← htx, show len.toNat = L by omega]
  · rw [if_neg g, if_neg (fun z => by
      have h1 := congrArg List.length z
      rw [htx, xSl_lenB, xSl_lenB] at h1
      omega)]
theorem c_word {m : jMu} {n p len : Int} (hn : m 30 1 = n) (hb : n ≤ 400) (hp : 0 ≤ p) (hl : 0 ≤ len) (hpl : p + len ≤ n) : f_X3_wordOf p len m = some (xKd (xSl (m 31) p len.toNat) xWs) := by
  have l0 : jtl 0 = 79 := by decide
  unfold f_X3_wordOf
  have st := fun (v : Int) (hv : 0 ≤ v ∧ v < 1000) (f L w : Nat) hsp hns htx hf q => c_wst (v := v) hn hb hp hl hpl hv (f := f) (L := L) (w := w) hsp hns htx hf q
  rw [show f_X3_wordOf_L9 jFU p len 100 0 0 m = (if xSl (m 31) p len.toNat = jtx 2 then some 100 else f_X3_wordOf_L9 99995 p len 101 5 5 m) from st 100 (by decide) 0 4 2 (by decide) (by decide) (by decide) (by decide) 99995]
  rw [show f_X3_wordOf_L9 99995 p len 101 5 5 m = (if xSl (m 31) p len.toNat = jtx 3 then some 101 else f_X3_wordOf_L9 99991 p len 102 9 9 m) from st 101 (by decide) 5 3 3 (by decide) (by decide) (by decide) (by decide) 99991]
  rw [show f_X3_wordOf_L9 99991 p len 102 9 9 m = (if xSl (m 31) p len.toNat = jtx 4 then some 102 else f_X3_wordOf_L9 99985 p len 103 15 15 m) from st 102 (by decide) 9 5 4 (by decide) (by decide) (by decide) (by decide) 99985]
  rw [show f_X3_wordOf_L9 99985 p len 103 15 15 m = (if xSl (m 31) p len.toNat = jtx 5 then some 103 else f_X3_wordOf_L9 99981 p len 104 19 19 m) from st 103 (by decide) 15 3 5 (by decide) (by decide) (by decide) (by decide) 99981]
  rw [show f_X3_wordOf_L9 99981 p len 104 19 19 m = (if xSl (m 31) p len.toNat = jtx 6 then some 104 else f_X3_wordOf_L9 99978 p len 105 22 22 m) from st 104 (by decide) 19 2 6 (by decide) (by decide) (by decide) (by decide) 99978]
  rw [show f_X3_wordOf_L9 99978 p len 105 22 22 m = (if xSl (m 31) p len.toNat = jtx 18 then some 105 else f_X3_wordOf_L9 99975 p len 106 25 25 m) from st 105 (by decide) 22 2 18 (by decide) (by decide) (by decide) (by decide) 99975]
  rw [show f_X3_wordOf_L9 99975 p len 106 25 25 m = (if xSl (m 31) p len.toNat = jtx 17 then some 106 else f_X3_wordOf_L9 99971 p len 107 29 29 m) from st 106 (by decide) 25 3 17 (by decide) (by decide) (by decide) (by decide) 99971]
  rw [show f_X3_wordOf_L9 99971 p len 107 29 29 m = (if xSl (m 31) p len.toNat = jtx 7 then some 107 else f_X3_wordOf_L9 99967 p len 108 33 33 m) from st 107 (by decide) 29 3 7 (by decide) (by decide) (by decide) (by decide) 99967]
  rw [show f_X3_wordOf_L9 99967 p len 108 33 33 m = (if xSl (m 31) p len.toNat = jtx 8 then some 108 else f_X3_wordOf_L9 99963 p len 109 37 37 m) from st 108 (by decide) 33 3 8 (by decide) (by decide) (by decide) (by decide) 99963]
  rw [show f_X3_wordOf_L9 99963 p len 109 37 37 m = (if xSl (m 31) p len.toNat = jtx 9 then some 109 else f_X3_wordOf_L9 99957 p len 110 43 43 m) from st 109 (by decide) 37 5 9 (by decide) (by decide) (by decide) (by decide) 99957]
  rw [show f_X3_wordOf_L9 99957 p len 110 43 43 m = (if xSl (m 31) p len.toNat = jtx 10 then some 110 else f_X3_wordOf_L9 99952 p len 111 48 48 m) from st 110 (by decide) 43 4 10 (by decide) (by decide) (by decide) (by decide) 99952]
  rw [show f_X3_wordOf_L9 99952 p len 111 48 48 m = (if xSl (m 31) p len.toNat = jtx 11 then some 111 else f_X3_wordOf_L9 99948 p len 112 52 52 m) from st 111 (by decide) 48 3 11 (by decide) (by decide) (by decide) (by decide) 99948]
  rw [show f_X3_wordOf_L9 99948 p len 112 52 52 m = (if xSl (m 31) p len.toNat = jtx 12 then some 112 else f_X3_wordOf_L9 99943 p len 113 57 57 m) from st 112 (by decide) 52 4 12 (by decide) (by decide) (by decide) (by decide) 99943]
  rw [show f_X3_wordOf_L9 99943 p len 113 57 57 m = (if xSl (m 31) p len.toNat = jtx 13 then some 113 else f_X3_wordOf_L9 99938 p len 114 62 62 m) from st 113 (by decide) 57 4 13 (by decide) (by decide) (by decide) (by decide) 99938]
  rw [show f_X3_wordOf_L9 99938 p len 114 62 62 m = (if xSl (m 31) p len.toNat = jtx 14 then some 114 else f_X3_wordOf_L9 99933 p len 115 67 67 m) from st 114 (by decide) 62 4 14 (by decide) (by decide) (by decide) (by decide) 99933]
  rw [show f_X3_wordOf_L9 99933 p len 115 67 67 m = (if xSl (m 31) p len.toNat = jtx 15 then some 115 else f_X3_wordOf_L9 99926 p len 116 74 74 m) from st 115 (by decide) 67 6 15 (by decide) (by decide) (by decide) (by decide) 99926]
  rw [show f_X3_wordOf_L9 99926 p len 116 74 74 m = (if xSl (m 31) p len.toNat = jtx 16 then some 116 else f_X3_wordOf_L9 99921 p len 117 79 79 m) from st 116 (by decide) 74 4 16 (by decide) (by decide) (by decide) (by decide) 99921]
  rw [show f_X3_wordOf_L9 99921 p len 117 79 79 m = f_X3_wordOf_L9 (99920 + 1) p len 117 79 79 m from rfl, f_X3_wordOf_L9, l0, if_pos (show (79 : Int) ≤ 79 by decide)]
  rw [show xKd (xSl (m 31) p len.toNat) xWs = (if xSl (m 31) p len.toNat = jtx 2 then 100 else if xSl (m 31) p len.toNat = jtx 3 then 101 else if xSl (m 31) p len.toNat = jtx 4 then 102 else if xSl (m 31) p len.toNat = jtx 5 then 103 else if xSl (m 31) p len.toNat = jtx 6 then 104 else if xSl (m 31) p len.toNat = jtx 18 then 105 else if xSl (m 31) p len.toNat = jtx 17 then 106 else if xSl (m 31) p len.toNat = jtx 7 then 107 else if xSl (m 31) p len.toNat = jtx 8 then 108 else if xSl (m 31) p len.toNat = jtx 9 then 109 else if xSl (m 31) p len.toNat = jtx 10 then 110 else if xSl (m 31) p len.toNat = jtx 11 then 111 else if xSl (m 31) p len.toNat = jtx 12 then 112 else if xSl (m 31) p len.toNat = jtx 13 then 113 else if xSl (m 31) p len.toNat = jtx 14 then 114 else if xSl (m 31) p len.toNat = jtx 15 then 115 else if xSl (m 31) p len.toNat = jtx 16 then 116 else 131) from rfl]
  by_cases g0 : xSl (m 31) p len.toNat = jtx 2
  · rw [if_pos g0, if_pos g0]
  rw [if_neg g0, if_neg g0]
  by_cases g1 : xSl (m 31) p len.toNat = jtx 3
  · rw [if_pos g1, if_pos g1]
  rw [if_neg g1, if_neg g1]
  by_cases g2 : xSl (m 31) p len.toNat = jtx 4
  · rw [if_pos g2, if_pos g2]
  rw [if_neg g2, if_neg g2]
  by_cases g3 : xSl (m 31) p len.toNat = jtx 5
  · rw [if_pos g3, if_pos g3]
  rw [if_neg g3, if_neg g3]
  by_cases g4 : xSl (m 31) p len.toNat = jtx 6
  · rw [if_pos g4, if_pos g4]
  rw [if_neg g4, if_neg g4]
  by_cases g5 : xSl (m 31) p len.toNat = jtx 18
  · rw [if_pos g5, if_pos g5]
  rw [if_neg g5, if_neg g5]
  by_cases g6 : xSl (m 31) p len.toNat = jtx 17
  · rw [if_pos g6, if_pos g6]
  rw [if_neg g6, if_neg g6]
  by_cases g7 : xSl (m 31) p len.toNat = jtx 7
  · rw [if_pos g7, if_pos g7]
  rw [if_neg g7, if_neg g7]
  by_cases g8 : xSl (m 31) p len.toNat = jtx 8
  · rw [if_pos g8, if_pos g8]
  rw [if_neg g8, if_neg g8]
  by_cases g9 : xSl (m 31) p len.toNat = jtx 9
  · rw [if_pos g9, if_pos g9]
  rw [if_neg g9, if_neg g9]
  by_cases g10 : xSl (m 31) p len.toNat = jtx 10
  · rw [if_pos g10, if_pos g10]
  rw [if_neg g10, if_neg g10]
  by_cases g11 : xSl (m 31) p len.toNat = jtx 11
  · rw [if_pos g11, if_pos g11]
  rw [if_neg g11, if_neg g11]
  by_cases g12 : xSl (m 31) p len.toNat = jtx 12
  · rw [if_pos g12, if_pos g12]
  rw [if_neg g12, if_neg g12]
  by_cases g13 : xSl (m 31) p len.toNat = jtx 13
  · rw [if_pos g13, if_pos g13]
  rw [if_neg g13, if_neg g13]
  by_cases g14 : xSl (m 31) p len.toNat = jtx 14
  · rw [if_pos g14, if_pos g14]
  rw [if_neg g14, if_neg g14]
  by_cases g15 : xSl (m 31) p len.toNat = jtx 15
  · rw [if_pos g15, if_pos g15]
  rw [if_neg g15, if_neg g15]
  by_cases g16 : xSl (m 31) p len.toNat = jtx 16
  · rw [if_pos g16, if_pos g16]
  rw [if_neg g16, if_neg g16]
/-! what a list of words must be -/
def wf (n : Int) : List (Int × Int) → Prop
  | [] => False
  | x :: r => match r with
    | [] => x = (130, n)
    | y :: _ => x.1 ≠ 130 ∧ x.2 + (if x.1 = 105 ∨ x.1 = 106 then 2 else 1) ≤ y.2 ∧ wf n r
theorem wf_tl {n : Int} {ts : List (Int × Int)} (h : wf n ts) (hk : xK ts ≠ 130) : xTl ts ≠ [] ∧ wf n (xTl ts) ∧ xHd ts + (if xK ts = 105 ∨ xK ts = 106 then 2 else 1) ≤ xHd (xTl ts) ∧ ts.length = (xTl ts).length + 1 := by
  match ts, h with
  | [x], h =>
    have h' : x = (130, n) := h
    exact (hk (by rw [h']; rfl)).elim
  | x :: y :: r, h => exact ⟨(by intro z; cases z), h.2.2, h.2.1, rfl⟩
theorem wf_hd {n : Int} : ∀ {ts : List (Int × Int)}, wf n ts → xHd ts ≤ n := by
  intro ts
  induction ts with
  | nil => intro h; exact h.elim
  | cons x r ih =>
    intro h
    match r, h, ih with
    | [], h, _ =>
      have h' : x = (130, n) := h
      rw [h']
      exact Int.le_refl _
    | y :: r, h, ih =>
      have := ih h.2.2
      have h2 := h.2.1
      have e : xHd (y :: r) = y.2 := rfl
      show x.2 ≤ n
      rw [e] at this
      split at h2 <;> omega
theorem wf_len {n : Int} : ∀ {ts : List (Int × Int)}, wf n ts → (ts.length : Int) ≤ n - xHd ts + 1 := by
  intro ts
  induction ts with
  | nil => intro h; exact h.elim
  | cons x r ih =>
    intro h
    match r, h, ih with
    | [], h, _ =>
      have h' : x = (130, n) := h
      rw [h']
      show (((1 : Nat)) : Int) ≤ n - n + 1
      omega
    | y :: r, h, ih =>
      have := ih h.2.2
      have h2 := h.2.1
      have e : xHd (y :: r) = y.2 := rfl
      have e2 : (x :: y :: r).length = (y :: r).length + 1 := rfl
      have e3 : xHd (x :: y :: r) = x.2 := rfl
      rw [e] at this
      rw [e2, e3]
      split at h2 <;> omega
theorem xKd_r (s : List Int) : ∀ ws : List (Nat × Int), (∀ w ∈ ws, 100 ≤ w.2 ∧ w.2 ≤ 116) → xKd s ws = 131 ∨ (100 ≤ xKd s ws ∧ xKd s ws ≤ 116) := by
  intro ws
  induction ws with
  | nil => intro _; exact Or.inl rfl
  | cons w ws ih =>
    intro h
    unfold xKd
    split
    · exact Or.inr (h w List.mem_cons_self)
    · exact ih (fun x hx => h x (List.mem_cons_of_mem _ hx))
theorem xWs_r : ∀ w ∈ xWs, 100 ≤ w.2 ∧ w.2 ≤ 116 := by decide
theorem xKd_w (s : List Int) : ∀ ws : List (Nat × Int), xKd s ws = 131 ∨ ∃ w ∈ ws, s = jtx w.1 ∧ xKd s ws = w.2 := by
  intro ws
  induction ws with
  | nil => exact Or.inl rfl
  | cons w ws ih =>
    unfold xKd
    by_cases h : s = jtx w.1
    · rw [if_pos h]
      exact Or.inr ⟨w, List.mem_cons_self, h, rfl⟩
    · rw [if_neg h]
      rcases ih with z | ⟨x, hx, h1, h2⟩
      · exact Or.inl z
      · exact Or.inr ⟨x, List.mem_cons_of_mem _ hx, h1, h2⟩
theorem xWs_2 : ∀ w ∈ xWs, (w.2 = 105 ∨ w.2 = 106) → 2 ≤ (jtx w.1).length := by decide
theorem xKd_2 {s : List Int} (h : xKd s xWs = 105 ∨ xKd s xWs = 106) : 2 ≤ s.length := by
  rcases xKd_w s xWs with z | ⟨w, hw, h1, h2⟩
  · omega
  · rw [h1]
    rw [h2] at h
    exact xWs_2 w hw h
theorem xKi_ne {b : Int → Int} {n p : Int} (hb : xD (b p) = true → xDe b n p - p = 2 → xD (b (p + 1)) = true) : xKi b n p ≠ 130 ∧ p + (if xKi b n p = 105 ∨ xKi b n p = 106 then 2 else 1) ≤ xEn b n p := by
  have hr := xRun_le (p := xL) (b := b) (n := n) 400 (p + 1)
  have hr2 := xRun_le (p := xD) (b := b) (n := n) 400 (p + 1)
  unfold xKi xEn
  by_cases g1 : xL (b p) = true
  · rw [if_pos g1, if_pos g1]
    have K := xKd_r (xSl b p (xLe b n p - p).toNat) xWs xWs_r
    refine ⟨by omega, ?_⟩
    unfold xLe at *
    by_cases g : xKd (xSl b p (xRun xL b n 400 (p + 1) - p).toNat) xWs = 105 ∨ xKd (xSl b p (xRun xL b n 400 (p + 1) - p).toNat) xWs = 106
    · have := xKd_2 g
      rw [xSl_lenB] at this
      rw [if_pos g]
      omega
    · rw [if_neg g]; omega
  · rw [if_neg g1, if_neg g1]
    by_cases g2 : xD (b p) = true
    · rw [if_pos g2, if_pos g2]
      have d0 : 48 ≤ b p ∧ b p ≤ 57 := decide_eq_true_iff.mp g2
      by_cases g3 : xDe b n p - p = 1
      · rw [if_pos g3]
        refine ⟨by omega, ?_⟩
        rw [if_neg (by omega)]
        unfold xDe
        omega
      · rw [if_neg g3]
        by_cases g4 : xDe b n p - p = 2
        · have d1 : 48 ≤ b (p + 1) ∧ b (p + 1) ≤ 57 := decide_eq_true_iff.mp (hb g2 g4)
          rw [if_pos g4]
          refine ⟨by omega, ?_⟩
          rw [if_neg (by omega)]
          unfold xDe
          omega
        · rw [if_neg g4]
          refine ⟨by decide, ?_⟩
          rw [if_neg (by decide)]
          unfold xDe
          omega
    · rw [if_neg g2, if_neg g2]
      have S : xSg (b p) ≠ 130 ∧ xSg (b p) ≠ 105 ∧ xSg (b p) ≠ 106 := by
        unfold xSg
        refine ⟨?_, ?_, ?_⟩
        · repeat' split
          all_goals decide
        · repeat' split
          all_goals decide
        · repeat' split
          all_goals decide
      refine ⟨S.1, ?_⟩
      rw [if_neg (fun z => z.elim S.2.1 S.2.2)]
      exact Int.le_refl _
theorem xDe_2B {b : Int → Int} {n p : Int} (h : xDe b n p - p = 2) : xD (b (p + 1)) = true := by
  unfold xDe at h
  exact xRun_in (n := n) 400 (p + 1) (p + 1) (Int.le_refl _) (by omega)
theorem xTo_hd {b : Int → Int} {n : Int} : ∀ (q : Nat) (p : Int), p ≤ n → p ≤ xHd (xTo b n q p) := by
  intro q
  induction q with
  | zero => intro p h; exact h
  | succ q ih =>
    intro p h
    unfold xTo
    split
    · exact h
    · split
      · have := ih (p + 1) (by omega)
        omega
      · exact Int.le_refl _
theorem xTo_wf {b : Int → Int} {n : Int} : ∀ (q : Nat) (p : Int), p ≤ n → wf n (xTo b n q p) := by
  intro q
  induction q with
  | zero => intro p _; rfl
  | succ q ih =>
    intro p h
    unfold xTo
    split
    · rfl
    · split
      · exact ih (p + 1) (by omega)
      · have K := xKi_ne (b := b) (n := n) (p := p) (fun _ z => xDe_2B z)
        have hE : xEn b n p ≤ n := by
          unfold xEn
          split
          · exact (xRun_le 400 (p + 1)).2 (by omega)
          · split
            · exact (xRun_le 400 (p + 1)).2 (by omega)
            · omega
        have I := ih (xEn b n p) hE
        have H := xTo_hd (b := b) (n := n) q (xEn b n p) hE
        cases hx : xTo b n q (xEn b n p) with
        | nil => rw [hx] at I; exact I.elim
        | cons y r =>
          rw [hx] at I H
          have H' : xEn b n p ≤ y.2 := H
          exact ⟨K.1, by show p + _ ≤ y.2; omega, I⟩
/-! the words in the class's arrays -/
theorem c_addw {m : jMu} {k a p : Int} (hk : m 62 5 = k) (h0 : 0 ≤ k) (h1 : k < 401) : f_X3_addWord a p m = some (jup (jup (jup m 63 k a) 64 k p) 62 5 (k + 1)) := by
  unfold f_X3_addWord
  rw [hk, if_neg (by omega), if_neg (by omega), if_neg (by omega), if_pos (by omega), jlt_eq]
  have e1 : jup m 63 k a 62 5 = k := by rw [jup_c (by decide)]; exact hk
  rw [e1, if_pos (by omega), jlt_eq]
  have e2 : jup (jup m 63 k a) 64 k p 62 5 = k := by rw [jup_c (by decide)]; exact e1
  rw [e2, jlt_eq, jW_of (by omega) (by omega)]
def kWd (m m' : jMu) (k : Int) (ts : List (Int × Int)) : Prop := m' 62 5 = k + (ts.length : Int) ∧ (∀ i : Nat, i < ts.length → m' 63 (k + i) = (ts.getD i (0, 0)).1 ∧ m' 64 (k + i) = (ts.getD i (0, 0)).2) ∧ (∀ j : Int, j < k → m' 63 j = m 63 j ∧ m' 64 j = m 64 j) ∧ (∀ j : Int, j ≠ 5 → m' 62 j = m 62 j) ∧ ∀ c, c ≠ 62 → c ≠ 63 → c ≠ 64 → m' c = m c
theorem kWd_cons {m m' : jMu} {k a p : Int} {ts : List (Int × Int)} (h : kWd (jup (jup (jup m 63 k a) 64 k p) 62 5 (k + 1)) m' (k + 1) ts) : kWd m m' k ((a, p) :: ts) := by
  obtain ⟨h1, h2, h3, h4, h5⟩ := h
  refine ⟨by rw [h1, List.length_cons]; omega, fun i hi => ?_, fun j hj => ?_, fun j hj => ?_, fun c c1 c2 c3 => ?_⟩
  · rw [List.length_cons] at hi
    cases i with
    | zero =>
      have := h3 k (by omega)
      rw [Int.natCast_zero, Int.add_zero, this.1, this.2]
      constructor
      · rw [jup_c (by decide), jup_c (by decide), jup_s]; rfl
      · rw [jup_c (by decide), jup_s]; rfl
    | succ i =>
      have := h2 i (by omega)
      rw [show k + 1 + (i : Int) = k + ((i + 1 : Nat) : Int) by omega] at this
      exact this
  · have := h3 j (by omega)
    rw [this.1, this.2]
    constructor
    · rw [jup_c (by decide), jup_c (by decide), jup_j (by omega)]
    · rw [jup_c (by decide), jup_j (by omega), jup_c (by decide)]
  · rw [h4 j hj, jup_j hj, jup_c (by decide), jup_c (by decide)]
  · rw [h5 c c1 c2 c3, jup_c c1, jup_c c3, jup_c c2]
theorem c_splitL {b : Int → Int} {n : Int} (hb : 0 ≤ n ∧ n ≤ 400) : ∀ (f q : Nat) (p k : Int) (m : jMu), m 30 1 = n → m 31 = b → m 62 5 = k → 0 ≤ p → p ≤ n → n + 1 ≤ p + f → f < q → 0 ≤ k → k + (n - p) + 1 ≤ 401 → ∃ m', f_X3_splitWords_L7 q p m = some m' ∧ kWd m m' k (xTo b n f p) := by
  intro f
  induction f with
  | zero => intro q p k m _ _ _ h1 h2 h3; omega
  | succ f ih =>
    intro q p k m hn h31 hk p0 p1 h3 hq k0 k1
    obtain ⟨q, rfl⟩ : ∃ t, q = t + 1 := ⟨q - 1, by omega⟩
    rw [f_X3_splitWords_L7]
    unfold f_X6_length xTo
    rw [hn, Option.bind_some]
    by_cases g : n ≤ p
    · rw [if_pos g, if_pos g, Option.bind_some, c_addw hk k0 (by omega), Option.bind_some]
      refine ⟨_, rfl, kWd_cons ⟨?_, fun i hi => absurd hi (Nat.not_lt_zero _), fun _ _ => ⟨rfl, rfl⟩, fun _ _ => rfl, fun _ _ _ _ => rfl⟩⟩
      rw [jup_s]
      show k + 1 = k + 1 + ((0 : Nat) : Int)
      omega
    · rw [if_neg g, if_neg g, c_byte hn hb.2 p0 (by omega), Option.bind_some, c_let, Option.bind_some, ite01, h31]
      -- a word of some kind and end
      have go : ∀ a e : Int, p + 1 ≤ e → e ≤ n → ∃ m', f_X3_splitWords_L7 q e (jup (jup (jup m 63 k a) 64 k p) 62 5 (k + 1)) = some m' ∧ kWd m m' k ((a, p) :: xTo b n f e) := by
        intro a e h1 h2
        obtain ⟨m', a1, a2⟩ := ih q e (k + 1) (jup (jup (jup m 63 k a) 64 k p) 62 5 (k + 1)) (by rw [jup_c (by decide), jup_c (by decide), jup_c (by decide)]; exact hn) (by rw [jup_c (by decide), jup_c (by decide), jup_c (by decide)]; exact h31) jup_s (by omega) h2 (by omega) (by omega) (by omega) (by omega)
        exact ⟨m', a1, kWd_cons a2⟩
      by_cases gl : xL (b p) = true
      · have nsp : ¬ b p = 32 := fun z => by
          rw [z] at gl
          exact absurd gl (by decide)
        have R := c_runL hn hb p0 400 jFU (p + 1) (by omega) (by omega) (by omega) (by omega) (by unfold jFU; omega)
        have hr := xRun_le (p := xL) (b := b) (n := n) 400 (p + 1)
        have hE := hr.2 (by omega)
        rw [h31] at R
        have eE : xEn b n p = xLe b n p := by unfold xEn; rw [if_pos gl]
        have eK : xKi b n p = xKd (xSl b p (xLe b n p - p).toNat) xWs := by unfold xKi; rw [if_pos gl]
        have W := c_word (m := m) (len := xLe b n p - p) hn hb.2 p0 (by unfold xLe; omega) (by unfold xLe; omega)
        rw [h31] at W
        rw [if_pos gl, if_neg nsp, eE, eK]
        unfold f_X3_runOf
        rw [jW_of (z := p + 1) (by omega) (by omega), show f_X3_runOf_L4 jFU p 1 (p + 1) m = some (xLe b n p - p) from R, Option.bind_some, W, Option.bind_some, c_addw hk k0 (by omega), Option.bind_some, if_neg (by unfold xLe; omega), show p + (xLe b n p - p) = xLe b n p by omega, jW_of (by unfold xLe; omega) (by unfold xLe; omega)]
        exact go _ _ (by unfold xLe; omega) (by unfold xLe; omega)
      · rw [if_neg gl, c_dig, Option.bind_some, ite01]
        by_cases gd : xD (b p) = true
        · have nsp : ¬ b p = 32 := fun z => by
            rw [z] at gd
            exact absurd gd (by decide)
          have d0 : 48 ≤ b p ∧ b p ≤ 57 := decide_eq_true_iff.mp gd
          have R := c_runD hn hb p0 400 jFU (p + 1) (by omega) (by omega) (by omega) (by omega) (by unfold jFU; omega)
          have hr := xRun_le (p := xD) (b := b) (n := n) 400 (p + 1)
          have hE := hr.2 (by omega)
          rw [h31] at R
          have eE : xEn b n p = xDe b n p := by unfold xEn; rw [if_neg gl, if_pos gd]
          have eK : xKi b n p = if xDe b n p - p = 1 then b p - 48 else if xDe b n p - p = 2 then (b p - 48) * 10 + b (p + 1) - 48 else 131 := by unfold xKi; rw [if_neg gl, if_pos gd]
          have W : f_X3_numberOf p (xDe b n p - p) m = some (xKi b n p) := by
            unfold f_X3_numberOf
            rw [c_byte hn hb.2 p0 (by omega), Option.bind_some, h31, eK]
            by_cases g1 : xDe b n p - p = 1
            · rw [if_pos g1, if_pos g1, jW_of (by omega) (by omega)]
            · rw [if_neg g1, if_neg g1]
              by_cases g2 : xDe b n p - p = 2
              · have d1 : 48 ≤ b (p + 1) ∧ b (p + 1) ≤ 57 := decide_eq_true_iff.mp (xDe_2B g2)
                have hp2 : p + 1 < n := by unfold xDe at g2; omega
                rw [if_pos g2, if_pos g2, jW_of (z := p + 1) (by omega) (by omega), c_byte hn hb.2 (by omega) hp2, Option.bind_some, h31, jW_of (z := b p - 48) (by omega) (by omega), jW_of (z := (b p - 48) * 10) (by omega) (by omega), jW_of (z := (b p - 48) * 10 + b (p + 1)) (by omega) (by omega), jW_of (by omega) (by omega)]
              · rw [if_neg g2, if_neg g2]
          rw [if_pos gd, if_neg nsp, eE]
          unfold f_X3_runOf
          rw [jW_of (z := p + 1) (by omega) (by omega), show f_X3_runOf_L4 jFU p 0 (p + 1) m = some (xDe b n p - p) from R, Option.bind_some, W, Option.bind_some, c_addw hk k0 (by omega), Option.bind_some, if_neg (by unfold xDe; omega), show p + (xDe b n p - p) = xDe b n p by omega, jW_of (by unfold xDe; omega) (by unfold xDe; omega)]
          exact go _ _ (by unfold xDe; omega) (by unfold xDe; omega)
        · rw [if_neg gd, if_neg (show ¬ (1 : Nat) < 1 by decide), jW_of (z := p + 1) (by omega) (by omega)]
          by_cases gs : b p = 32
          · rw [if_pos gs, if_pos gs]
            exact ih q (p + 1) k m hn h31 hk (by omega) (by omega) (by omega) (by omega) k0 (by omega)
          · have eE : xEn b n p = p + 1 := by unfold xEn; rw [if_neg gl, if_neg gd]
            have eK : xKi b n p = xSg (b p) := by unfold xKi; rw [if_neg gl, if_neg gd]
            rw [if_neg gs, if_neg gs, c_sign, Option.bind_some, c_addw hk k0 (by omega), Option.bind_some, eE, eK]
            exact go _ _ (Int.le_refl _) (by omega)
