/-! LEVEL 2: the class's tables beside the reference's array -/
def xTx (M : Int → Int) (t : Nat) : List xLn := match xPar (fun j => M (881 + 401 * (t : Int) + j)) (M (880 + 401 * (t : Int))) with | .inl _ => [] | .inr ls => ls
def xAl (M : Int → Int) : Nat → List xLn
  | 0 => []
  | q + 1 => xAl M q ++ xTx M q
def xCo (ls : List xLn) : List Int := ls.flatMap (fun l => l.2.2)
def kT : Nat → Nat × Nat × Int × Int
  | 0 => (4, 80, 10, 8) | 1 => (6, 210, 7, 30) | 2 => (8, 12, 2, 6) | 3 => (10, 10, 2, 5) | 4 => (12, 24, 3, 8) | 5 => (20, 4, 1, 4)
  | 6 => (22, 24, 4, 6) | 7 => (24, 320, 8, 40) | 8 => (2, 4, 2, 2) | 9 => (26, 120, 4, 30) | 10 => (28, 60, 2, 30)
  | 11 => (14, 6, 2, 3) | 12 => (16, 160, 4, 40) | _ => (18, 1600, 1, 1600)
def kN (M : Int → Int) : Nat → Int
  | 0 => M 0 | 1 => M 1 | 2 => M 2 | 3 => M 3 | 4 => M 4 | 5 => M 6 | 6 => M 7 | 7 => M 8 | 8 => 2 | 9 => M 9 | 10 => M 10
  | 11 => M 5 | 12 => (xAl M (M 5).toNat).length | _ => (xCo (xAl M (M 5).toNat)).length
def kF (M : Int → Int) : Nat → Int → Int → Int
  | 0 => fun r c => if c < 4 then M (20 + 9 * r + c) else if c = 4 then 0 else M (20 + 9 * r + (c - 1))
  | 1 => fun r c => M (92 + 7 * r + c) | 2 => fun r c => M (302 + 2 * r + c) | 3 => fun r c => M (314 + 2 * r + c)
  | 4 => fun r c => if c = 2 then M (324 + 3 * r) else M (324 + 3 * r + (c + 1))
  | 5 => fun r _ => M (348 + r) | 6 => fun r c => M (352 + 4 * r + c) | 7 => fun r c => M (376 + 8 * r + c) | 8 => fun r c => M (876 + 2 * r + c)
  | 9 => fun r c => M (696 + 4 * r + c) | 10 => fun r c => M (816 + 2 * r + c)
  | 11 => fun r c => if c = 0 then (xAl M r.toNat).length else (xAl M (r.toNat + 1)).length
  | 12 => fun r c => if c = 0 then ((xAl M (M 5).toNat).getD r.toNat (0, 0, [])).1 else if c = 1 then ((xAl M (M 5).toNat).getD r.toNat (0, 0, [])).2.1 else if c = 2 then (xCo ((xAl M (M 5).toNat).take r.toNat)).length else (xCo ((xAl M (M 5).toNat).take (r.toNat + 1))).length
  | _ => fun r _ => (xCo (xAl M (M 5).toNat)).getD r.toNat 0
/-- the bounds of what stands there -/
def kR (M : Int → Int) : Nat → Prop
  | 0 => ∀ r, 0 ≤ r → r < M 0 → (0 ≤ M (20 + 9 * r) ∧ M (20 + 9 * r) ≤ 1) ∧ (0 ≤ M (20 + 9 * r + 1) ∧ M (20 + 9 * r + 1) ≤ 9) ∧ (1 ≤ M (20 + 9 * r + 2) ∧ M (20 + 9 * r + 2) ≤ 20) ∧ (0 ≤ M (20 + 9 * r + 3) ∧ M (20 + 9 * r + 3) ≤ 500) ∧ (0 ≤ M (20 + 9 * r + 4) ∧ M (20 + 9 * r + 4) ≤ 99) ∧ (0 ≤ M (20 + 9 * r + 5) ∧ M (20 + 9 * r + 5) ≤ 99) ∧ (0 ≤ M (20 + 9 * r + 6) ∧ M (20 + 9 * r + 6) ≤ 999) ∧ (0 ≤ M (20 + 9 * r + 7) ∧ M (20 + 9 * r + 7) ≤ 999) ∧ (0 ≤ M (20 + 9 * r + 8) ∧ M (20 + 9 * r + 8) ≤ 999)
  | 1 => ∀ r, 0 ≤ r → r < M 1 → (0 ≤ M (92 + 7 * r + 4) ∧ M (92 + 7 * r + 4) ≤ 1) ∧ (0 ≤ M (92 + 7 * r + 5) ∧ M (92 + 7 * r + 5) ≤ 9) ∧ (0 ≤ M (92 + 7 * r + 6) ∧ M (92 + 7 * r + 6) ≤ 30)
  | 5 => ∀ r, 0 ≤ r → r < M 6 → 1 ≤ M (348 + r) ∧ M (348 + r) ≤ 5
  | 6 => ∀ r, 0 ≤ r → r < M 7 → (0 ≤ M (352 + 4 * r) ∧ M (352 + 4 * r) ≤ 99) ∧ (0 ≤ M (352 + 4 * r + 1) ∧ M (352 + 4 * r + 1) ≤ 50) ∧ (0 ≤ M (352 + 4 * r + 2) ∧ M (352 + 4 * r + 2) ≤ 255) ∧ (-1 ≤ M (352 + 4 * r + 3) ∧ M (352 + 4 * r + 3) ≤ 199)
  | 7 => ∀ r, 0 ≤ r → r < M 8 → (0 ≤ M (376 + 8 * r) ∧ M (376 + 8 * r) < M 0) ∧ (0 ≤ M (376 + 8 * r + 1) ∧ M (376 + 8 * r + 1) < M 6) ∧ (0 ≤ M (376 + 8 * r + 2) ∧ M (376 + 8 * r + 2) < M 7) ∧ (0 ≤ M (376 + 8 * r + 3) ∧ M (376 + 8 * r + 3) < M (376 + 8 * r + 4)) ∧ M (376 + 8 * r + 4) ≤ 2400 ∧ (-1 ≤ M (376 + 8 * r + 6) ∧ M (376 + 8 * r + 6) ≤ 199) ∧ (0 ≤ M (376 + 8 * r + 7) ∧ M (376 + 8 * r + 7) < M 5)
  | 8 => (0 ≤ M 876 ∧ M 876 ≤ 20) ∧ (0 ≤ M 877 ∧ M 877 ≤ 20) ∧ (0 ≤ M 878 ∧ M 878 ≤ 20) ∧ (0 ≤ M 879 ∧ M 879 ≤ 20)
  | 9 => ∀ r, 0 ≤ r → r < M 9 → (0 ≤ M (696 + 4 * r + 1) ∧ M (696 + 4 * r + 1) ≤ 199) ∧ (0 ≤ M (696 + 4 * r + 2) ∧ M (696 + 4 * r + 2) ≤ 500)
  | 10 => ∀ r, 0 ≤ r → r < M 10 → 0 ≤ M (816 + 2 * r + 1) ∧ M (816 + 2 * r + 1) ≤ 199
  | 11 => ∀ t : Nat, (t : Int) < M 5 → (0 ≤ M (880 + 401 * (t : Int)) ∧ M (880 + 401 * (t : Int)) ≤ 400) ∧ (∃ ls, xPar (fun j => M (881 + 401 * (t : Int) + j)) (M (880 + 401 * (t : Int))) = .inr ls) ∧ (xTx M t).length ≤ 10 ∧ (xCo (xTx M t)).length ≤ 400
  | _ => True
def kI (m : jMu) (o : Nat) (M : Int → Int) (k : Nat) : Prop := TabR m ((kT k).1 + o) ((kT k).1 + 1 + o) (kT k).2.2.1 (kT k).2.2.2 (kN M k) (kF M k) ∧ kR M k
def kD (m : jMu) (o : Nat) (M : Int → Int) : Prop := m (1 + o) 14 = M 11 ∧ m (1 + o) 15 = M 12 ∧ 0 ≤ M 11 ∧ M 11 ≤ 199 ∧ 0 ≤ M 12 ∧ M 12 ≤ 4095
def kC (m : jMu) (o : Nat) (M : Int → Int) : Prop := (∀ k, k < 14 → kI m o M k) ∧ kD m o M
/-- the tables of the kept state have their sizes, also where nothing is kept -/
def kK (m : jMu) : Prop := ∀ k, k < 14 → m ((kT k).1 + 32) 0 = (kT k).2.2.2 ∧ m ((kT k).1 + 32) 1 = (kT k).2.2.1
def pE (m : jMu) : Prop := (m 74 12 = 0 ∨ m 74 12 = 1) ∧ (m 74 13 = 0 ∨ m 74 13 = 1) ∧ (m 74 14 = 0 ∨ m 74 14 = 1) ∧ ∀ k, 0 ≤ k → k < 6 → 0 ≤ m 78 k ∧ m 78 k ≤ 400
theorem pE_cg {m m' : jMu} (h1 : m' 74 12 = m 74 12) (h2 : m' 74 13 = m 74 13) (h3 : m' 74 14 = m 74 14) (h4 : m' 78 = m 78) (h : pE m) : pE m' := by
  unfold pE
  rw [h1, h2, h3, h4]
  exact h
def kS (m : jMu) : Prop := (m 74 5 = m 30 1 ∧ 0 ≤ m 30 1 ∧ m 30 1 ≤ 400 ∧ ∀ k, 0 ≤ k → k < m 30 1 → m 31 k = m 77 k) ∧ m 0 9 = m 74 9 ∧ m 0 8 = m 74 3 ∧ pE m
/-- what holds between two calls of the law -/
def kA (m : jMu) : Prop := kC m 0 (m 75) ∧ (m 74 3 = 0 ∨ (m 74 3 = 1 ∧ kC m 32 (m 76))) ∧ kK m ∧ kS m
/-! what reads which places of the reference's array -/
def kG (k : Nat) (i : Int) : Prop := match k with
  | 0 => i = 0 ∨ (20 ≤ i ∧ i < 92) | 1 => i = 1 ∨ (92 ≤ i ∧ i < 302) | 2 => i = 2 ∨ (302 ≤ i ∧ i < 314) | 3 => i = 3 ∨ (314 ≤ i ∧ i < 324)
  | 4 => i = 4 ∨ (324 ≤ i ∧ i < 348) | 5 => i = 6 ∨ (348 ≤ i ∧ i < 352) | 6 => i = 7 ∨ (352 ≤ i ∧ i < 376) | 7 => i = 8 ∨ (376 ≤ i ∧ i < 696)
  | 8 => 876 ≤ i ∧ i < 880 | 9 => i = 9 ∨ (696 ≤ i ∧ i < 816) | 10 => i = 10 ∨ (816 ≤ i ∧ i < 876) | _ => i = 5 ∨ (880 ≤ i ∧ i < 2083)
theorem xRun_congr {p : Int → Bool} {b b' : Int → Int} {n : Int} : ∀ q i, 0 ≤ i → (∀ j, 0 ≤ j → j < n → b j = b' j) → xRun p b n q i = xRun p b' n q i := by
  intro q
  induction q with
  | zero => intro i _ _; rfl
  | succ q ih =>
    intro i hi h
    unfold xRun
    by_cases h1 : i < n
    · rw [h i hi h1, ih (i + 1) (by omega) h]
    · rw [if_neg (fun z => h1 z.1), if_neg (fun z => h1 z.1)]
theorem xRun_le {p : Int → Bool} {b : Int → Int} {n : Int} : ∀ q i, i ≤ xRun p b n q i ∧ (i ≤ n → xRun p b n q i ≤ n) := by
  intro q
  induction q with
  | zero => intro i; exact ⟨Int.le_refl _, fun h => h⟩
  | succ q ih =>
    intro i
    unfold xRun
    by_cases h1 : i < n ∧ p (b i) = true
    · rw [if_pos h1]
      have := ih (i + 1)
      omega
    · rw [if_neg h1]; omega
theorem xSl_congr {b b' : Int → Int} {n : Int} (h : ∀ j, 0 ≤ j → j < n → b j = b' j) : ∀ (q : Nat) (p : Int), 0 ≤ p → p + q ≤ n → xSl b p q = xSl b' p q := by
  intro q
  induction q with
  | zero => intro p _ _; rfl
  | succ q ih =>
    intro p h1 h2
    unfold xSl
    rw [h p h1 (by omega), ih (p + 1) (by omega) (by omega)]
theorem xTo_congr {b b' : Int → Int} {n : Int} (h : ∀ j, 0 ≤ j → j < n → b j = b' j) : ∀ q p, 0 ≤ p → xTo b n q p = xTo b' n q p := by
  intro q
  induction q with
  | zero => intro p _; rfl
  | succ q ih =>
    intro p hp
    unfold xTo
    by_cases hn : n ≤ p
    · rw [if_pos hn, if_pos hn]
    · rw [if_neg hn, if_neg hn, h p hp (by omega), ih (p + 1) (by omega)]
      have e1 : xLe b n p = xLe b' n p := xRun_congr _ _ (by omega) h
      have e2 : xDe b n p = xDe b' n p := xRun_congr _ _ (by omega) h
      have l1 := xRun_le (p := xL) (b := b') (n := n) 400 (p + 1)
      have l2 := xRun_le (p := xD) (b := b') (n := n) 400 (p + 1)
      have e3 : xEn b n p = xEn b' n p := by
        unfold xEn
        rw [e1, e2, h p hp (by omega)]
      have l3 : p + 1 ≤ xEn b' n p := by
        unfold xEn
        unfold xLe xDe
        split
        · omega
        · split <;> omega
      have e4 : xKi b n p = xKi b' n p := by
        unfold xKi
        rw [e1, e2, h p hp (by omega), xSl_congr h _ p hp (by unfold xLe; omega)]
        by_cases hd : xDe b' n p - p = 2
        · rw [h (p + 1) (by omega) (by unfold xDe at hd; omega)]
        · rw [if_neg hd, if_neg hd]
      rw [e3, e4, ih _ (by omega)]
theorem xPar_congr {b b' : Int → Int} {n : Int} (h : ∀ j, 0 ≤ j → j < n → b j = b' j) : xPar b n = xPar b' n := by
  unfold xPar
  rw [xTo_congr h _ 0 (by omega)]
theorem xTx_congr {M M' : Int → Int} {t : Nat} (ht : (t : Int) < 3) (h0 : M (880 + 401 * (t : Int)) ≤ 400) (h : ∀ i, 880 ≤ i → i < 2083 → M' i = M i) : xPar (fun j => M' (881 + 401 * (t : Int) + j)) (M' (880 + 401 * (t : Int))) = xPar (fun j => M (881 + 401 * (t : Int) + j)) (M (880 + 401 * (t : Int))) := by
  rw [h _ (by omega) (by omega)]
  exact xPar_congr (fun j h1 h2 => h _ (by omega) (by omega))
theorem xAl_congr {M M' : Int → Int} : ∀ q : Nat, (q : Int) ≤ 3 → (∀ t : Nat, (t : Int) < q → M (880 + 401 * (t : Int)) ≤ 400) → (∀ i, 880 ≤ i → i < 2083 → M' i = M i) → xAl M' q = xAl M q := by
  intro q
  induction q with
  | zero => intro _ _ _; rfl
  | succ q ih =>
    intro h1 h2 h3
    unfold xAl
    rw [ih (by omega) (fun t ht => h2 t (by omega)) h3]
    unfold xTx
    rw [xTx_congr (by omega) (h2 q (by omega)) h3]
