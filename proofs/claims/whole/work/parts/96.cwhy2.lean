/-! LEVEL 2: terms at a place, by the class -/
theorem clF {m : jMu} {M : Int → Int} {bay mo tr : Int} (P : clP m M bay mo tr) (c : Int) (h1 : 108 ≤ c) (h2 : c ≤ 116) : f_X1_factHere c m = some (sEn M bay mo tr c) := by
  obtain ⟨p1, p2, p3, p4, p5, p6, p7, p8, p9, p10⟩ := P
  obtain rfl | rfl | rfl | rfl | rfl | rfl | rfl | rfl | rfl : c = 108 ∨ c = 109 ∨ c = 110 ∨ c = 111 ∨ c = 112 ∨ c = 113 ∨ c = 114 ∨ c = 115 ∨ c = 116 := by omega
  · exact congrArg some p2
  · exact congrArg some p3
  · exact congrArg some p4
  · exact congrArg some p5
  · exact congrArg some p6
  · exact congrArg some p7
  · exact congrArg some p8
  · exact congrArg some p9
  · exact congrArg some p10
theorem enB {m : jMu} {M : Int → Int} (C : kC m 0 M) {bay mo tr : Int} (hb : 0 ≤ bay ∧ bay < M 0) (hm : 0 ≤ mo ∧ mo < 2400) (ht : tr = 0 ∨ tr = 1) : eB (sEn M bay mo tr) := by
  have S := sSk_b C (mo / 12) (mo % 12)
  have R := (C.1 0 (by decide)).2 bay hb.1 hb.2
  refine ⟨fun c h1 h2 => ?_, fun c h1 h2 => ?_⟩
  · obtain rfl | rfl | rfl : c = 108 ∨ c = 109 ∨ c = 110 := by omega
    · exact S.1
    · exact ht
    · exact sNe_01 M bay (mo / 12)
  · obtain rfl | rfl | rfl | rfl | rfl | rfl : c = 111 ∨ c = 112 ∨ c = 113 ∨ c = 114 ∨ c = 115 ∨ c = 116 := by omega
    · show 0 ≤ mo / 12 ∧ mo / 12 ≤ 400
      omega
    · show 0 ≤ mo % 12 ∧ mo % 12 ≤ 400
      omega
    · show 0 ≤ (sSk M (mo / 12) (mo % 12)).2.1 ∧ (sSk M (mo / 12) (mo % 12)).2.1 ≤ 400
      omega
    · show 0 ≤ (sSk M (mo / 12) (mo % 12)).2.2 ∧ (sSk M (mo / 12) (mo % 12)).2.2 ≤ 400
      omega
    · show 0 ≤ M (20 + 9 * bay + 1) ∧ M (20 + 9 * bay + 1) ≤ 400
      omega
    · show 0 ≤ M (20 + 9 * bay) ∧ M (20 + 9 * bay) ≤ 400
      omega
theorem xAl_len {m : jMu} {M : Int → Int} (C : kC m 0 M) : (xAl M (M 5).toNat).length ≤ 40 := by
  have h : (((xAl M (M 5).toNat).length : Nat) : Int) ≤ 40 := (C.t 12 (by decide)).2.2.2.2.1
  omega
theorem c_why {m : jMu} {M : Int → Int} (C : kC m 0 M) {t bay mo tr : Int} (P : clP m M bay mo tr) (ht : 0 ≤ t ∧ t < M 5) (hb : 0 ≤ bay ∧ bay < M 0) (hm : 0 ≤ mo ∧ mo < 2400) (htr : tr = 0 ∨ tr = 1) : f_X1_whyHere t m = some (sWhy M t bay mo tr) := by
  have hl := xAl_len C
  obtain ⟨a1, a2, a3⟩ := xAl_at (M := M) (t := t.toNat) (N := (M 5).toNat) (by omega)
  have L := c_whyL C (enB C hb hm htr) (clF P) (a := (xAl M t.toNat).length) (xTx M t.toNat) 0 jFU (by omega) (by omega) (fun j hj => by rw [Nat.add_zero]; exact a3 j hj) (by unfold jFU; omega)
  unfold f_X1_whyHere sWhy
  rw [P.1]
  by_cases g : sAny M 314 3 (mo / 12) = 0
  · rw [if_pos g, if_pos g, cg_term0 C ht.1 ht.2, Option.bind_some, cg_term1 C ht.1 ht.2, Option.bind_some, a1]
    rw [Int.natCast_add]
    rw [Int.natCast_zero, Int.add_zero] at L
    exact L
  · rw [if_neg g, if_neg g]
theorem c_num {m : jMu} {M : Int → Int} (C : kC m 0 M) {t bay mo tr : Int} (P : clP m M bay mo tr) (ht : 0 ≤ t ∧ t < M 5) (hb : 0 ≤ bay ∧ bay < M 0) (hm : 0 ≤ mo ∧ mo < 2400) (htr : tr = 0 ∨ tr = 1) (kd w : Int) : f_X1_numberHere t kd w m = some (xLast (sEn M bay mo tr) kd w (xTx M t.toNat)) := by
  have hl := xAl_len C
  obtain ⟨a1, a2, a3⟩ := xAl_at (M := M) (t := t.toNat) (N := (M 5).toNat) (by omega)
  have L := c_numL C (enB C hb hm htr) (clF P) (a := (xAl M t.toNat).length) (T := xTx M t.toNat) (by omega) (by omega) a3 kd w (xTx M t.toNat).length jFU (Nat.le_refl _) (by unfold jFU; omega)
  rw [List.take_length] at L
  unfold f_X1_numberHere
  rw [cg_term0 C ht.1 ht.2, Option.bind_some, cg_term1 C ht.1 ht.2, Option.bind_some, a1, jW_of (by omega) (by omega), Int.natCast_add]
  exact L
