/-! LEVEL 2: coats for coin -/
def sCst (M : Int → Int) (b : Nat) (c : Int) : Int := if c = 0 then 0 else M (20 + 9 * (b : Int) + (3 + c))
def sWr (M : Int → Int) (b : Nat) (c : Int) : Int := M (20 + 9 * (b : Int) + (6 + c))
def sCo (M : Int → Int) : Nat → Int → Int
  | 0, _ => 0
  | b + 1, k => sCo M b (k / 3) + sCst M b (k % 3)
def sWe (M : Int → Int) : Nat → Int → Int
  | 0, _ => 0
  | b + 1, k => sWe M b (k / 3) + sWr M b (k % 3)
def xU (b : Nat) : Int := 6561 / 3 ^ b
def xP3 (b : Nat) : Int := 3 ^ b
def sKy (M : Int → Int) (b : Nat) (k : Int) : Int := sWe M b k * 6561 + k * xU b
def sLeF (M : Int → Int) (b : Nat) (A : Int → Int) (x c s : Int) : Int := if x < sCst M b c then s else if A (x - sCst M b c) + sWr M b c * 6561 + c * xU (b + 1) < s then A (x - sCst M b c) + sWr M b c * 6561 + c * xU (b + 1) else s
def sLe (M : Int → Int) : Nat → Int → Int
  | 0, _ => 0
  | b + 1, x => itn (sLeF M b (sLe M b) x) 3 0 1000000000
theorem xU_3 : ∀ b : Nat, b < 8 → xU b = 3 * xU (b + 1) := by decide
theorem xU_P : ∀ b : Nat, b < 9 → xU b * xP3 b = 6561 ∧ 1 ≤ xU b ∧ xU b ≤ 6561 ∧ 1 ≤ xP3 b ∧ xP3 b ≤ 6561 := by decide
theorem xP3_s (b : Nat) : xP3 (b + 1) = xP3 b * 3 := Int.pow_succ 3 b
theorem xU_d : ∀ b : Nat, b < 8 → jDv (xU (b + 1)) 3 = xU (b + 2) := by decide
theorem sCst_b {m : jMu} {M : Int → Int} (C : kC m 0 M) {b : Nat} (hb : (b : Int) < M 0) {c : Int} (h0 : 0 ≤ c) (h1 : c < 3) : (0 ≤ sCst M b c ∧ sCst M b c ≤ 99) ∧ 0 ≤ sWr M b c ∧ sWr M b c ≤ 999 := by
  have R := (C.1 0 (by decide)).2 (b : Int) (by omega) hb
  unfold sCst sWr
  obtain rfl | rfl | rfl : c = 0 ∨ c = 1 ∨ c = 2 := by omega
  · exact ⟨by rw [if_pos rfl]; omega, R.2.2.2.2.2.2.1⟩
  · exact ⟨by rw [if_neg (by decide)]; exact R.2.2.2.2.1, R.2.2.2.2.2.2.2.1⟩
  · exact ⟨by rw [if_neg (by decide)]; exact R.2.2.2.2.2.1, R.2.2.2.2.2.2.2.2⟩
theorem sCo_b {m : jMu} {M : Int → Int} (C : kC m 0 M) : ∀ b : Nat, (b : Int) ≤ M 0 → ∀ k : Int, (0 ≤ sCo M b k ∧ sCo M b k ≤ 99 * b) ∧ 0 ≤ sWe M b k ∧ sWe M b k ≤ 999 * b := by
  intro b
  induction b with
  | zero => intro _ k; exact ⟨⟨Int.le_refl 0, Int.le_refl 0⟩, Int.le_refl 0, Int.le_refl 0⟩
  | succ b ih =>
    intro hb k
    have I := ih (by omega) (k / 3)
    have S := sCst_b C (b := b) (by omega) (c := k % 3) (by omega) (by omega)
    show (0 ≤ sCo M b (k / 3) + sCst M b (k % 3) ∧ sCo M b (k / 3) + sCst M b (k % 3) ≤ _) ∧ 0 ≤ sWe M b (k / 3) + sWr M b (k % 3) ∧ sWe M b (k / 3) + sWr M b (k % 3) ≤ _
    omega
theorem sKy_b {m : jMu} {M : Int → Int} (C : kC m 0 M) {b : Nat} (hb : (b : Int) ≤ M 0) {k : Int} (h0 : 0 ≤ k) (h1 : k < xP3 b) : (0 ≤ k * xU b ∧ k * xU b < 6561) ∧ 0 ≤ sKy M b k ∧ sKy M b k < 60000000 := by
  have hn := C.n
  have S := sCo_b C b hb k
  have U := xU_P b (by omega)
  have a : 0 ≤ k * xU b := Int.mul_nonneg h0 (by omega)
  have b' : k * xU b ≤ (xP3 b - 1) * xU b := Int.mul_le_mul_of_nonneg_right (by omega) (by omega)
  rw [Int.sub_mul, Int.one_mul, Int.mul_comm (xP3 b), U.1] at b'
  unfold sKy
  omega
/-- the least of all choices -/
theorem sLe_spec {m : jMu} {M : Int → Int} (C : kC m 0 M) : ∀ b : Nat, (b : Int) ≤ M 0 → ∀ x : Int, 0 ≤ x → (∃ k, 0 ≤ k ∧ k < xP3 b ∧ sCo M b k ≤ x ∧ sLe M b x = sKy M b k) ∧ ∀ k, 0 ≤ k → k < xP3 b → sCo M b k ≤ x → sLe M b x ≤ sKy M b k := by
  have hn := C.n
  intro b
  induction b with
  | zero =>
    intro _ x hx
    have e : ∀ k : Int, 0 ≤ k → k < xP3 0 → k = 0 := fun k a c => by
      have : xP3 0 = 1 := rfl
      omega
    exact ⟨⟨0, Int.le_refl _, by decide, hx, rfl⟩, fun k a c _ => by rw [e k a c]; exact Int.le_refl _⟩
  | succ b ih =>
    intro hb x hx
    have I := ih (by omega)
    have u3 := xU_3 b (by omega)
    have hp := xP3_s b
    -- a choice of coats at the bay
    have cand : ∀ c : Int, 0 ≤ c → c < 3 → sCst M b c ≤ x → (∃ k, 0 ≤ k ∧ k < xP3 (b + 1) ∧ sCo M (b + 1) k ≤ x ∧ sLe M b (x - sCst M b c) + sWr M b c * 6561 + c * xU (b + 1) = sKy M (b + 1) k) ∧ ∀ k, 0 ≤ k → k < xP3 (b + 1) → sCo M (b + 1) k ≤ x → k % 3 = c → sLe M b (x - sCst M b c) + sWr M b c * 6561 + c * xU (b + 1) ≤ sKy M (b + 1) k := by
      intro c c0 c1 hc
      obtain ⟨⟨k, k0, k1, k2, k3⟩, J⟩ := I (x - sCst M b c) (by omega)
      constructor
      · have d1 : (3 * k + c) / 3 = k := by omega
        have d2 : (3 * k + c) % 3 = c := by omega
        refine ⟨3 * k + c, by omega, by rw [hp]; omega, ?_, ?_⟩
        · show sCo M b ((3 * k + c) / 3) + sCst M b ((3 * k + c) % 3) ≤ x
          rw [d1, d2]
          omega
        · show _ = (sWe M b ((3 * k + c) / 3) + sWr M b ((3 * k + c) % 3)) * 6561 + (3 * k + c) * xU (b + 1)
          rw [d1, d2, k3]
          unfold sKy
          rw [u3, Int.add_mul, Int.add_mul, show k * (3 * xU (b + 1)) = 3 * k * xU (b + 1) by rw [← Int.mul_assoc, Int.mul_comm k 3]]
          omega
      · intro k k0 k1 k2 k3
        have j := J (k / 3) (by omega) (by rw [hp] at k1; omega) (by
          have : sCo M b (k / 3) + sCst M b (k % 3) ≤ x := k2
          rw [k3] at this
          omega)
        show _ ≤ (sWe M b (k / 3) + sWr M b (k % 3)) * 6561 + k * xU (b + 1)
        unfold sKy at j
        rw [k3, Int.add_mul]
        have e : k * xU (b + 1) = k / 3 * xU b + c * xU (b + 1) := by
          rw [u3, ← Int.mul_assoc, ← Int.add_mul]
          congr 1
          omega
        rw [e]
        omega
    have hl : sLe M (b + 1) x = itn (sLeF M b (sLe M b) x) 3 0 1000000000 := rfl
    have key := itn_inv (f := sLeF M b (sLe M b) x) (fun i s => ((i = 0 ∧ s = 1000000000) ∨ ∃ k, 0 ≤ k ∧ k < xP3 (b + 1) ∧ sCo M (b + 1) k ≤ x ∧ s = sKy M (b + 1) k) ∧ ∀ k, 0 ≤ k → k < xP3 (b + 1) → sCo M (b + 1) k ≤ x → k % 3 < i → s ≤ sKy M (b + 1) k) (lo := 0) (n := 3) (fun i s h0 h1 hP => by
      obtain ⟨p1, p2⟩ := hP
      unfold sLeF
      by_cases g : x < sCst M b i
      · have i0 : i ≠ 0 := fun z => by
          rw [z] at g
          have : sCst M b 0 = 0 := rfl
          omega
        rw [if_pos g]
        refine ⟨p1.imp (fun z => by omega) id, fun k k0 k1 k2 k3 => ?_⟩
        by_cases e : k % 3 = i
        · have : sCo M b (k / 3) + sCst M b (k % 3) ≤ x := k2
          rw [e] at this
          have := (sCo_b C b (by omega) (k / 3)).1.1
          omega
        · exact p2 k k0 k1 k2 (by omega)
      · rw [if_neg g]
        obtain ⟨⟨k, k0, k1, k2, k3⟩, J⟩ := cand i h0 h1 (by omega)
        have kb := sKy_b C hb k0 k1
        by_cases g2 : sLe M b (x - sCst M b i) + sWr M b i * 6561 + i * xU (b + 1) < s
        · rw [if_pos g2]
          refine ⟨Or.inr ⟨k, k0, k1, k2, k3⟩, fun k' a b' c' d => ?_⟩
          by_cases e : k' % 3 = i
          · exact J k' a b' c' e
          · have := p2 k' a b' c' (by omega)
            omega
        · rw [if_neg g2]
          refine ⟨?_, fun k' a b' c' d => ?_⟩
          · rcases p1 with z | z
            · omega
            · exact Or.inr z
          · by_cases e : k' % 3 = i
            · have := J k' a b' c' e
              omega
            · exact p2 k' a b' c' (by omega)) 3 0 1000000000 (Int.le_refl _) (by decide) ⟨Or.inl ⟨rfl, rfl⟩, fun k a b' c' d => by omega⟩
    rw [hl]
    refine ⟨?_, fun k a b' c' => key.2 k a b' c' (by omega)⟩
    rcases key.1 with z | z
    · exact absurd z.1 (by decide)
    · exact z
/-! the class -/
theorem c_addL {m : jMu} {M : Int → Int} (C : kC m 0 M) {b : Nat} (hb : (b : Int) < M 0) {A : Int → Int} {x : Int} (hx : 0 ≤ x ∧ x ≤ 500) (hA : ∀ y, 0 ≤ y → y ≤ x → m 73 y = A y ∧ 0 ≤ A y ∧ A y < 60000000) : f_X2_addBay_L25 jFU (b : Int) (xU (b + 1)) x 1000000000 0 m = some ((b : Int), xU (b + 1), x, itn (sLeF M b A x) 3 0 1000000000, m) := by
  have hn := C.n
  have U := xU_P (b + 1) (by omega)
  refine (itn_loop (L := fun q i s => f_X2_addBay_L25 q (b : Int) (xU (b + 1)) x s i m) (sLeF M b A x) (fun s => ((b : Int), xU (b + 1), x, s, m)) (fun _ _ => True) (lo := 0) (n := 3) ?_ ?_ 3 jFU 0 1000000000 (Int.le_refl _) (by decide) (by unfold jFU; omega) trivial).1
  · intro q i s h0 h1 _
    refine ⟨?_, trivial⟩
    have S := sCst_b C hb h0 h1
    have cc : f_X5_get 4 5 80 (b : Int) (jW (4 + i)) m = some (sCst M b i) := by
      rw [jW_of (by omega) (by omega)]
      unfold sCst
      by_cases g : i = 0
      · rw [if_pos g, g]
        exact cg_bay4 C (by omega) hb
      · rw [if_neg g, cg_bayX C (by omega) hb (by omega) (by omega)]
        congr 2
        omega
    have ww : f_X5_get 4 5 80 (b : Int) (jW (7 + i)) m = some (sWr M b i) := by
      rw [jW_of (by omega) (by omega), cg_bayX C (by omega) hb (by omega) (by omega)]
      unfold sWr
      congr 2
      omega
    have hm0 : 0 ≤ i * xU (b + 1) := Int.mul_nonneg h0 (by omega)
    have hm1 : i * xU (b + 1) ≤ 2 * 6561 := Int.mul_le_mul (by omega) U.2.2.1 (by omega) (by decide)
    show f_X2_addBay_L25 (q + 1) (b : Int) (xU (b + 1)) x s i m = _
    rw [f_X2_addBay_L25, if_neg (by omega), cc, Option.bind_some, jW_of (z := x - sCst M b i) (by omega) (by omega), jW_of (z := i + 1) (by omega) (by omega)]
    unfold sLeF
    by_cases g : x < sCst M b i
    · rw [if_pos g, if_pos (by omega)]
    · obtain ⟨a1, a2, a3⟩ := hA (x - sCst M b i) (by omega) (by omega)
      rw [if_neg g, if_neg (by omega), if_neg (by omega), ww, Option.bind_some, if_pos (by omega), jlt_eq, a1, jW_of (z := sWr M b i * 6561) (by omega) (by omega), jW_of (z := A (x - sCst M b i) + sWr M b i * 6561) (by omega) (by omega), jW_of (z := i * xU (b + 1)) (by omega) (by omega), jW_of (z := A (x - sCst M b i) + sWr M b i * 6561 + i * xU (b + 1)) (by omega) (by omega)]
  · intro q s _
    show f_X2_addBay_L25 (q + 1) (b : Int) (xU (b + 1)) x s 3 m = _
    rw [f_X2_addBay_L25, if_pos (by decide)]
theorem c_addB {M : Int → Int} {b : Nat} (hb : (b : Int) < M 0) {A : Int → Int} : ∀ (k q : Nat) (m : jMu), kC m 0 M → (k : Int) ≤ 501 → k < q → (∀ y, 0 ≤ y → y < (k : Int) → m 73 y = A y ∧ 0 ≤ A y ∧ A y < 60000000) → ∃ m', f_X2_addBay_L13 q (b : Int) (xU (b + 1)) ((k : Int) - 1) m = some m' ∧ (∀ c, c ≠ 73 → m' c = m c) ∧ (∀ y, 0 ≤ y → y < (k : Int) → m' 73 y = itn (sLeF M b A y) 3 0 1000000000) ∧ ∀ y, (k : Int) ≤ y → m' 73 y = m 73 y := by
  intro k
  induction k with
  | zero =>
    intro q m C _ hq _
    obtain ⟨q, rfl⟩ : ∃ t, q = t + 1 := ⟨q - 1, by omega⟩
    refine ⟨m, ?_, fun _ _ => rfl, fun y a b => by omega, fun _ _ => rfl⟩
    rw [f_X2_addBay_L13, if_pos (by omega)]
  | succ k ih =>
    intro q m C h1 hq hA
    obtain ⟨q, rfl⟩ : ∃ t, q = t + 1 := ⟨q - 1, by omega⟩
    have L := c_addL C hb (A := A) (x := (k : Int)) ⟨by omega, by omega⟩ (fun y a b => hA y a (by omega))
    have C2 : kC (jup m 73 (k : Int) (itn (sLeF M b A (k : Int)) 3 0 1000000000)) 0 M := kC_frame C (fun c _ h2 => jup_c (by omega)) (fun _ _ _ => rfl)
    obtain ⟨m', e1, e2, e3, e4⟩ := ih q _ C2 (by omega) (by omega) (fun y a b => by rw [jup_j (by omega)]; exact hA y a (by omega))
    refine ⟨m', ?_, fun c hc => by rw [e2 c hc, jup_c hc], fun y a b => ?_, fun y a => by rw [e4 y (by omega), jup_j (by omega)]⟩
    · rw [show (((k + 1 : Nat) : Int)) - 1 = (k : Int) by omega, f_X2_addBay_L13, if_neg (by omega), L, Option.bind_some]
      show (if 0 ≤ (k : Int) ∧ (k : Int) < 501 then jlt (jup m 73 (k : Int) (itn (sLeF M b A (k : Int)) 3 0 1000000000)) (fun m6 => f_X2_addBay_L13 q (b : Int) (xU (b + 1)) (jW ((k : Int) + -1)) m6) else none) = _
      rw [if_pos (by omega), jlt_eq, jW_of (by omega) (by omega)]
      exact e1
    · by_cases g : y = (k : Int)
      · rw [e4 y (by omega), g, jup_s]
      · exact e3 y a (by omega)
def xAu (bay : Int) (b : Nat) : Int := if 0 ≤ bay ∧ bay < (b : Int) then xU (bay.toNat + 1) else 1
def sSpc (M : Int → Int) (coin bay : Int) : Int := if bay = -1 then sLe M (M 0).toNat coin / 6561 else sLe M (M 0).toNat coin % 6561 / xU (bay.toNat + 1) % 3
theorem c_coats {m : jMu} {M : Int → Int} (C : kC m 0 M) {coin bay : Int} (hc : 0 ≤ coin ∧ coin ≤ 500) (hb : bay = -1 ∨ (0 ≤ bay ∧ bay < M 0)) : ∃ m', f_X2_coatsFor coin bay m = some (sSpc M coin bay, m') ∧ (∀ c, c ≠ 73 → m' c = m c) := by
  have hn := C.n
  obtain ⟨m1, e1, f1, z1⟩ := c_fill (m := m) (a := 73) (w := 501) (v := 0) (by decide)
  obtain ⟨m2, q2, I2, _, e2⟩ := itr_run (L := fun q i (s : Int) m => f_X2_coatsFor_L18 q coin bay (xU (i.toNat + 1)) s i m) (fun i s => if i = bay then xU (i.toNat + 1) else s) (fun i s m' => (∀ c, c ≠ 73 → m' c = m c) ∧ (∀ y, 0 ≤ y → y ≤ coin → m' 73 y = sLe M i.toNat y) ∧ s = xAu bay i.toNat) (lo := 0) (n := M 0) (by
    intro q i s m3 g0 g1 hI
    obtain ⟨i1, i2, i3⟩ := hI
    have C3 : kC m3 0 M := kC_frame C (fun c _ h2 => i1 c (by omega)) (fun _ _ _ => rfl)
    have hz := C3.z
    have hb' : ((i.toNat : Nat) : Int) < M 0 := by omega
    obtain ⟨m4, a1, a2, a3, a4⟩ := c_addB (b := i.toNat) hb' (A := sLe M i.toNat) (coin.toNat + 1) jFU m3 C3 (by omega) (by unfold jFU; omega) (fun y y0 y1 => by
      obtain ⟨⟨k, k0, k1, k2, k3⟩, _⟩ := sLe_spec C i.toNat (by omega) y y0
      have kb := sKy_b C (b := i.toNat) (by omega) k0 k1
      exact ⟨i2 y y0 (by omega), by omega, by omega⟩)
    rw [show (((coin.toNat + 1 : Nat)) : Int) - 1 = coin by omega, show ((i.toNat : Nat) : Int) = i by omega] at a1
    have hd := xU_d i.toNat (by omega)
    refine ⟨m4, ⟨fun c h => (a2 c h).trans (i1 c h), fun y y0 y1 => ?_, ?_⟩, ?_⟩
    · rw [a3 y y0 (by omega), show (i + 1).toNat = i.toNat + 1 by omega]
      rfl
    · show (if i = bay then xU (i.toNat + 1) else s) = _
      rw [i3]
      unfold xAu
      rw [show (((i + 1).toNat : Nat) : Int) = i + 1 by omega, show ((i.toNat : Nat) : Int) = i by omega]
      by_cases g : i = bay
      · rw [if_pos g, if_pos (by omega), g]
      · rw [if_neg g]
        by_cases g2 : 0 ≤ bay ∧ bay < i
        · rw [if_pos g2, if_pos (by omega)]
        · rw [if_neg g2, if_neg (by omega)]
    · show f_X2_coatsFor_L18 (q + 1) coin bay (xU (i.toNat + 1)) s i m3 = _
      rw [f_X2_coatsFor_L18]
      unfold f_X5_size f_X2_addBay
      rw [hz.1, Option.bind_some, if_neg (by omega), if_neg (by omega), a1, Option.bind_some, hd, jW_of (by omega) (by omega), show (i + 1).toNat + 1 = i.toNat + 2 by omega]
      split <;> rfl) (M 0).toNat jFU 0 1 m1 (Int.le_refl _) (by omega) (by unfold jFU; omega) ⟨f1, fun y y0 y1 => by rw [z1 y y0 (by omega)]; rfl, by unfold xAu; rw [if_neg (by show ¬ (0 ≤ bay ∧ bay < ((0 : Nat) : Int)); omega)]⟩
  obtain ⟨i1, i2, i3⟩ := I2
  have C2 : kC m2 0 M := kC_frame C (fun c _ h2 => i1 c (by omega)) (fun _ _ _ => rfl)
  have hz := C2.z
  refine ⟨m2, ?_, i1⟩
  unfold f_X2_coatsFor
  rw [e1, Option.bind_some]
  have e2' : f_X2_coatsFor_L18 jFU coin bay 2187 1 0 m1 = f_X2_coatsFor_L18 (q2 + 1) coin bay (xU ((M 0).toNat + 1)) (itn (fun i s => if i = bay then xU (i.toNat + 1) else s) (M 0).toNat 0 1) (M 0) m2 := e2
  obtain ⟨⟨k, k0, k1, k2, k3⟩, _⟩ := sLe_spec C (M 0).toNat (by omega) coin hc.1
  have kb := sKy_b C (b := (M 0).toNat) (by omega) k0 k1
  rw [e2', i3, f_X2_coatsFor_L18]
  unfold f_X5_size
  rw [hz.1, Option.bind_some, if_pos (Int.le_refl _), if_neg (by omega), if_neg (by omega), if_pos (by omega), i2 coin hc.1 (Int.le_refl _)]
  unfold f_X2_coatsFor_J83 sSpc
  have d1 : jDv (sLe M (M 0).toNat coin) 6561 = sLe M (M 0).toNat coin / 6561 := xdv (by omega) (by omega) (by decide)
  by_cases g : bay = -1
  · rw [if_pos g, if_pos g, d1]
  · have hb2 : 0 ≤ bay ∧ bay < M 0 := by omega
    have U := xU_P (bay.toNat + 1) (by omega)
    have ea : xAu bay (M 0).toNat = xU (bay.toNat + 1) := if_pos (by omega)
    rw [if_neg g, if_neg g, ea, if_pos (by omega), if_pos (by omega), xrm (a := sLe M (M 0).toNat coin) (b := 6561) (by omega) (by decide) (by decide), xdv (a := sLe M (M 0).toNat coin % 6561) (b := xU (bay.toNat + 1)) (by omega) (by omega) (by omega), xrm (a := sLe M (M 0).toNat coin % 6561 / xU (bay.toNat + 1)) (b := 3) (Int.ediv_nonneg (by omega) (by omega)) (by decide) (by decide)]
/-! the reference -/
theorem m_codeL {n : Int} {v1 v2 v3 v4 v5 : Int} : ∀ (i q : Nat) (rest s w : Int) (m mm : jMu), kC mm 0 (m 75) → m 75 0 = n → (i : Int) ≤ n → i < q → 0 ≤ rest → rest < 10000 → (0 ≤ s ∧ s ≤ 99 * (n - i)) → (0 ≤ w ∧ w ≤ 999 * (n - i)) → ∃ m', f_X10_spent_L104 q v1 v2 v3 v4 v5 rest s w ((i : Int) - 1) m = some (v1, v2, v3, v4, v5, s + sCo (m 75) i rest, w + sWe (m 75) i rest, m') ∧ (∀ c, c ≠ 85 → m' c = m c) ∧ (∀ j : Nat, j < i → m' 85 (j : Int) = rest / 3 ^ (i - 1 - j) % 3) ∧ ∀ j : Int, (i : Int) ≤ j → m' 85 j = m 85 j := by
  intro i
  induction i with
  | zero =>
    intro q rest s w m mm _ _ _ hq _ _ _ _
    obtain ⟨q, rfl⟩ : ∃ t, q = t + 1 := ⟨q - 1, by omega⟩
    refine ⟨m, ?_, fun _ _ => rfl, fun j h => by omega, fun _ _ => rfl⟩
    rw [f_X10_spent_L104, if_pos (by omega)]
    show some (v1, v2, v3, v4, v5, s, w, m) = some (v1, v2, v3, v4, v5, s + 0, w + 0, m)
    rw [Int.add_zero, Int.add_zero]
  | succ i ih =>
    intro q rest s w m mm C hn hi hq r0 r1 hs hw
    obtain ⟨q, rfl⟩ : ∃ t, q = t + 1 := ⟨q - 1, by omega⟩
    have nb := C.n.1
    have S := sCst_b C (b := i) (by omega) (c := rest % 3) (by omega) (by omega)
    have er : jRm rest 3 = rest % 3 := xrm r0 (by decide) (by decide)
    have ed : jDv rest 3 = rest / 3 := xdv r0 (by omega) (by decide)
    have c75 : jup m 85 (i : Int) (rest % 3) 75 = m 75 := jup_c (by decide)
    have I := ih q (rest / 3) (s + sCst (m 75) i (rest % 3)) (w + sWr (m 75) i (rest % 3)) (jup m 85 (i : Int) (rest % 3)) mm (by rw [c75]; exact C) (by rw [c75]; exact hn) (by omega) (by omega) (by omega) (by omega) (by omega) (by omega)
    obtain ⟨m', a1, a2, a3, a4⟩ := I
    rw [c75] at a1
    refine ⟨m', ?_, fun c h => (a2 c h).trans (jup_c h), fun j hj => ?_, fun j hj => by rw [a4 j (by omega), jup_j (by omega)]⟩
    · have o6 := mOfBay (m := jup m 85 (i : Int) (rest % 3)) (j := (i : Int)) (c := 6 + rest % 3) (by omega) (by omega) (by omega) (by omega)
      rw [c75] at o6
      rw [show (((i + 1 : Nat) : Int)) - 1 = (i : Int) by omega, f_X10_spent_L104, if_neg (by omega), if_pos (by omega), er, ed, jlt_eq, if_pos (by omega), jup_s, jW_of (z := 6 + rest % 3) (by omega) (by omega), jW_of (z := (i : Int) + -1) (by omega) (by omega)]
      have W : w + sWr (m 75) i (rest % 3) + sWe (m 75) i (rest / 3) = w + sWe (m 75) (i + 1) rest := by
        show _ = w + (sWe (m 75) i (rest / 3) + sWr (m 75) i (rest % 3))
        omega
      have K : s + sCst (m 75) i (rest % 3) + sCo (m 75) i (rest / 3) = s + sCo (m 75) (i + 1) rest := by
        show _ = s + (sCo (m 75) i (rest / 3) + sCst (m 75) i (rest % 3))
        omega
      rw [W, K] at a1
      have o6' : f_X10_ofBay (i : Int) (6 + rest % 3) (jup m 85 (i : Int) (rest % 3)) = some (sWr (m 75) i (rest % 3)) := o6
      by_cases g : rest % 3 = 0
      · have e0 : sCst (m 75) i (rest % 3) = 0 := if_pos g
        rw [e0] at a1
        rw [if_pos g, if_pos (by omega), o6', Option.bind_some, jW_of (z := s + 0) (by omega) (by omega), jW_of (z := w + sWr (m 75) i (rest % 3)) (by omega) (by omega)]
        exact a1
      · have o3 := mOfBay (m := jup m 85 (i : Int) (rest % 3)) (j := (i : Int)) (c := 3 + rest % 3) (by omega) (by omega) (by omega) (by omega)
        rw [c75] at o3
        have o3' : f_X10_ofBay (i : Int) (3 + rest % 3) (jup m 85 (i : Int) (rest % 3)) = some (sCst (m 75) i (rest % 3)) := o3.trans (congrArg some (if_neg g).symm)
        rw [if_neg g, if_pos (by omega), jW_of (z := 4 + rest % 3) (by omega) (by omega), jW_of (z := 4 + rest % 3 - 1) (by omega) (by omega), show 4 + rest % 3 - 1 = 3 + rest % 3 by omega, o3', Option.bind_some, if_pos (by omega), o6', Option.bind_some, jW_of (z := s + sCst (m 75) i (rest % 3)) (by omega) (by omega), jW_of (z := w + sWr (m 75) i (rest % 3)) (by omega) (by omega)]
        exact a1
    · by_cases g : j = i
      · rw [g, a4 (i : Int) (Int.le_refl _), jup_s, show i + 1 - 1 - i = 0 by omega, Int.pow_zero, Int.ediv_one]
      · rw [a3 j (by omega), Int.ediv_ediv_of_nonneg (by decide), show i + 1 - 1 - j = (i - 1 - j) + 1 by omega, Int.pow_succ, Int.mul_comm]
theorem m_copyL {m : jMu} {v1 v2 v3 v4 v5 : Int} (hn : 0 ≤ m 75 0 ∧ m 75 0 ≤ 8) : ∃ m', f_X10_spent_L218 jFU v1 v2 v3 v4 v5 0 m = some (v1, v2, v3, v4, v5, m') ∧ (∀ c, c ≠ 86 → m' c = m c) ∧ ∀ j, 0 ≤ j → j < m 75 0 → m' 86 j = m 85 j := by
  obtain ⟨m', a, b⟩ := itz_loop (L := fun q i (_ : Unit) m => f_X10_spent_L218 q v1 v2 v3 v4 v5 i m) (fun _ s => s) (fun _ m => (v1, v2, v3, v4, v5, m)) (fun i _ m' => (∀ c, c ≠ 86 → m' c = m c) ∧ ∀ j, 0 ≤ j → j < i → m' 86 j = m 85 j) (lo := 0) (n := m 75 0) (by
    intro q i s m1 g0 g1 hI
    have e75 : m1 75 = m 75 := hI.1 75 (by decide)
    have e85 : m1 85 = m 85 := hI.1 85 (by decide)
    refine ⟨jup m1 86 i (m 85 i), ⟨fun c hc => by rw [jup_c hc, hI.1 c hc], fun j j0 j1 => ?_⟩, ?_⟩
    · by_cases e : j = i
      · rw [e, jup_s]
      · rw [jup_j e]; exact hI.2 j j0 (by omega)
    · show f_X10_spent_L218 (q + 1) v1 v2 v3 v4 v5 i m1 = _
      rw [f_X10_spent_L218, e75, if_neg (by omega), if_pos (by omega), if_pos (by omega), jlt_eq, e85, jW_of (by omega) (by omega)]) (by
    intro q s m1 hI
    have e75 : m1 75 = m 75 := hI.1 75 (by decide)
    show f_X10_spent_L218 (q + 1) v1 v2 v3 v4 v5 (m 75 0) m1 = _
    rw [f_X10_spent_L218, e75, if_pos (Int.le_refl _)]) (m 75 0).toNat jFU 0 () m (Int.le_refl _) (by omega) (by unfold jFU; omega) ⟨fun _ _ => rfl, fun j a b => by omega⟩
  exact ⟨m', b, a.1, a.2⟩
/-- what is known of the best code of those so far -/
def kBest (M : Int → Int) (n : Nat) (coin i v : Int) (m' : jMu) : Prop := (v = -1 ∧ ∀ k, 0 ≤ k → k < i → coin < sCo M n k) ∨ ∃ kb, 0 ≤ kb ∧ kb < i ∧ sCo M n kb ≤ coin ∧ v = sWe M n kb ∧ (∀ k, 0 ≤ k → k < i → sCo M n k ≤ coin → sWe M n kb < sWe M n k ∨ (sWe M n kb = sWe M n k ∧ kb ≤ k)) ∧ ∀ j : Nat, j < n → m' 86 (j : Int) = kb / 3 ^ (n - 1 - j) % 3
theorem m_codes {m mm : jMu} (C : kC mm 0 (m 75)) {coin bay : Int} : ∃ v m', f_X10_spent_L78 jFU coin bay (xP3 (m 75 0).toNat) (-1) 0 m = (if bay = -1 then some (v, m') else (if 0 ≤ bay ∧ bay < 8 then some (m' 86 bay, m') else none)) ∧ (∀ c, c ≠ 85 → c ≠ 86 → m' c = m c) ∧ kBest (m 75) (m 75 0).toNat coin (xP3 (m 75 0).toNat) v m' := by
  have hn := C.n.1
  obtain ⟨n, en⟩ : ∃ n : Nat, m 75 0 = (n : Int) := ⟨(m 75 0).toNat, by omega⟩
  have U := xU_P n (by omega)
  have nn : (m 75 0).toNat = n := by omega
  rw [nn]
  have K : ∀ (d q : Nat) (i v : Int) (m1 : jMu), 0 ≤ i → i + d = xP3 n → d < q → (∀ c, c ≠ 85 → c ≠ 86 → m1 c = m c) → kBest (m 75) n coin i v m1 → ∃ v' m', f_X10_spent_L78 q coin bay (xP3 n) v i m1 = (if bay = -1 then some (v', m') else (if 0 ≤ bay ∧ bay < 8 then some (m' 86 bay, m') else none)) ∧ (∀ c, c ≠ 85 → c ≠ 86 → m' c = m c) ∧ kBest (m 75) n coin (xP3 n) v' m' := by
    intro d
    induction d with
    | zero =>
      intro q i v m1 h0 h1 hq f1 B1
      obtain ⟨q, rfl⟩ : ∃ t, q = t + 1 := ⟨q - 1, by omega⟩
      have hi : i = xP3 n := by omega
      refine ⟨v, m1, ?_, f1, by rw [← hi]; exact B1⟩
      rw [f_X10_spent_L78, if_pos (by omega)]
    | succ d ih =>
      intro q i v m1 h0 h1 hq f1 B1
      obtain ⟨q, rfl⟩ : ∃ t, q = t + 1 := ⟨q - 1, by omega⟩
      have e75 : m1 75 = m 75 := f1 75 (by decide) (by decide)
      obtain ⟨m2, a1, a2, a3, a4⟩ := m_codeL (n := (n : Int)) (v1 := coin) (v2 := bay) (v3 := xP3 n) (v4 := v) (v5 := i) n jFU i 0 0 m1 mm (by rw [e75]; exact C) (by rw [e75]; exact en) (Int.le_refl _) (by unfold jFU; omega) h0 (by omega) (by omega) (by omega)
      rw [e75, Int.zero_add, Int.zero_add] at a1
      have S := sCo_b C n (by omega) i
      have f2 : ∀ c, c ≠ 85 → c ≠ 86 → m2 c = m c := fun c h1 h2 => (a2 c h1).trans (f1 c h1 h2)
      have q75 : m2 75 = m 75 := f2 75 (by decide) (by decide)
      have q86 : m2 86 = m1 86 := a2 86 (by decide)
      have ei : jW (i + 1) = i + 1 := jW_of (by omega) (by omega)
      have en1 : jW (m1 75 0 - 1) = (n : Int) - 1 := by rw [e75, en, jW_of (by omega) (by omega)]
      -- a better one
      have good : sCo (m 75) n i ≤ coin → (∀ k, 0 ≤ k → k < i → sCo (m 75) n k ≤ coin → sWe (m 75) n i < sWe (m 75) n k) → ∃ v' m', ((f_X10_spent_L218 jFU coin bay (xP3 n) (sWe (m 75) n i) i 0 m2).bind fun r17 => f_X10_spent_L78 q r17.1 r17.2.1 r17.2.2.1 r17.2.2.2.1 (jW (r17.2.2.2.2.1 + 1)) r17.2.2.2.2.2) = (if bay = -1 then some (v', m') else (if 0 ≤ bay ∧ bay < 8 then some (m' 86 bay, m') else none)) ∧ (∀ c, c ≠ 85 → c ≠ 86 → m' c = m c) ∧ kBest (m 75) n coin (xP3 n) v' m' := by
        intro hc hk
        obtain ⟨m3, b1, b2, b3⟩ := m_copyL (m := m2) (v1 := coin) (v2 := bay) (v3 := xP3 n) (v4 := sWe (m 75) n i) (v5 := i) (by rw [q75]; exact hn)
        rw [b1, Option.bind_some]
        show ∃ v' m', f_X10_spent_L78 q coin bay (xP3 n) (sWe (m 75) n i) (jW (i + 1)) m3 = _ ∧ _ ∧ _
        rw [ei]
        refine ih q (i + 1) _ m3 (by omega) (by omega) (by omega) (fun c h1 h2 => (b2 c h2).trans (f2 c h1 h2)) (Or.inr ⟨i, h0, by omega, hc, rfl, fun k k0 k1 k2 => ?_, fun j hj => ?_⟩)
        · by_cases e : k = i
          · exact Or.inr ⟨by rw [e], by omega⟩
          · exact Or.inl (hk k k0 (by omega) k2)
        · rw [b3 (j : Int) (by omega) (by rw [q75]; omega), a3 j hj]
      rw [f_X10_spent_L78, if_neg (by omega), en1, a1, Option.bind_some]
      show ∃ v' m', (if coin < sCo (m 75) n i then f_X10_spent_L78 q coin bay (xP3 n) v (jW (i + 1)) m2 else (if v = -1 then (f_X10_spent_L218 jFU coin bay (xP3 n) (sWe (m 75) n i) i 0 m2).bind (fun r17 => f_X10_spent_L78 q r17.1 r17.2.1 r17.2.2.1 r17.2.2.2.1 (jW (r17.2.2.2.2.1 + 1)) r17.2.2.2.2.2) else (if sWe (m 75) n i < v then (f_X10_spent_L218 jFU coin bay (xP3 n) (sWe (m 75) n i) i 0 m2).bind (fun r17 => f_X10_spent_L78 q r17.1 r17.2.1 r17.2.2.1 r17.2.2.2.1 (jW (r17.2.2.2.2.1 + 1)) r17.2.2.2.2.2) else f_X10_spent_L78 q coin bay (xP3 n) v (jW (i + 1)) m2))) = _ ∧ _ ∧ _
      by_cases g1 : coin < sCo (m 75) n i
      · rw [if_pos g1, ei]
        refine ih q (i + 1) v m2 (by omega) (by omega) (by omega) f2 ?_
        rcases B1 with ⟨z1, z2⟩ | ⟨kb, z1, z2, z3, z4, z5, z6⟩
        · refine Or.inl ⟨z1, fun k k0 k1 => ?_⟩
          by_cases e : k = i
          · rw [e]; exact g1
          · exact z2 k k0 (by omega)
        · refine Or.inr ⟨kb, z1, by omega, z3, z4, fun k k0 k1 k2 => ?_, fun j hj => by rw [q86]; exact z6 j hj⟩
          by_cases e : k = i
          · rw [e] at k2; omega
          · exact z5 k k0 (by omega) k2
      · rw [if_neg g1]
        rcases B1 with ⟨z1, z2⟩ | ⟨kb, z1, z2, z3, z4, z5, z6⟩
        · rw [if_pos z1]
          exact good (by omega) (fun k k0 k1 k2 => by have := z2 k k0 k1; omega)
        · have S2 := sCo_b C n (by omega) kb
          rw [if_neg (by omega)]
          by_cases g2 : sWe (m 75) n i < v
          · rw [if_pos g2]
            refine good (by omega) (fun k k0 k1 k2 => ?_)
            have := z5 k k0 k1 k2
            omega
          · rw [if_neg g2, ei]
            refine ih q (i + 1) v m2 (by omega) (by omega) (by omega) f2 (Or.inr ⟨kb, z1, by omega, z3, z4, fun k k0 k1 k2 => ?_, fun j hj => by rw [q86]; exact z6 j hj⟩)
            by_cases e : k = i
            · rw [e]; omega
            · exact z5 k k0 (by omega) k2
  exact K (xP3 n).toNat jFU 0 (-1) m (Int.le_refl _) (by omega) (by unfold jFU; omega) (fun _ _ _ => rfl) (Or.inl ⟨rfl, fun k a b => by omega⟩)
theorem m_spentL {m mm : jMu} (C : kC mm 0 (m 75)) {coin bay : Int} (hc : 0 ≤ coin ∧ coin ≤ 500) (hb : bay = -1 ∨ (0 ≤ bay ∧ bay < m 75 0)) : ∃ m', f_X10_spent_L51 jFU coin bay 1 0 m = some (sSpc (m 75) coin bay, m') ∧ (∀ c, c ≠ 85 → c ≠ 86 → m' c = m c) := by
  have hn := C.n.1
  obtain ⟨m', q, I, _, e⟩ := itr_run (L := fun q i s m => f_X10_spent_L51 q coin bay s i m) (fun _ s => s * 3) (fun i s m' => m' = m ∧ s = xP3 i.toNat) (lo := 0) (n := m 75 0) (by
    intro q i s m1 h0 h1 hI
    obtain ⟨rfl, hs⟩ := hI
    have U := xU_P i.toNat (by omega)
    refine ⟨m1, ⟨rfl, by show s * 3 = _; rw [show (i + 1).toNat = i.toNat + 1 by omega, xP3_s, hs]⟩, ?_⟩
    show f_X10_spent_L51 (q + 1) coin bay s i m1 = _
    rw [f_X10_spent_L51, if_neg (by omega), jW_of (z := i + 1) (by omega) (by omega), jW_of (z := s * 3) (by omega) (by omega)]) (m 75 0).toNat jFU 0 1 m (Int.le_refl _) (by omega) (by unfold jFU; omega) ⟨rfl, rfl⟩
  obtain ⟨rfl, hs⟩ := I
  obtain ⟨v, m2, a1, a2, a3⟩ := m_codes C (coin := coin) (bay := bay)
  refine ⟨m2, ?_, a2⟩
  have e' : f_X10_spent_L51 jFU coin bay 1 0 m' = f_X10_spent_L51 (q + 1) coin bay (itn (fun _ s => s * 3) (m' 75 0).toNat 0 1) (m' 75 0) m' := e
  rw [e', hs, f_X10_spent_L51, if_pos (Int.le_refl _), a1]
  have U := xU_P (m' 75 0).toNat (by omega)
  obtain ⟨⟨k, k0, k1, k2, k3⟩, J⟩ := sLe_spec C (m' 75 0).toNat (by omega) coin hc.1
  rcases a3 with ⟨_, z2⟩ | ⟨kb, z1, z2, z3, z4, z5, z6⟩
  · have := z2 k k0 k1
    omega
  · have S1 := sKy_b C (b := (m' 75 0).toNat) (by omega) k0 k1
    have S2 := sKy_b C (b := (m' 75 0).toNat) (by omega) z1 z2
    have hle := J kb z1 z2 z3
    have hge := z5 k k0 k1 k2
    have hk : sLe (m' 75) (m' 75 0).toNat coin = sWe (m' 75) (m' 75 0).toNat kb * 6561 + kb * xU (m' 75 0).toNat := by
      unfold sKy at k3 hle
      rcases hge with g | g
      · omega
      · have : kb * xU (m' 75 0).toNat ≤ k * xU (m' 75 0).toNat := Int.mul_le_mul_of_nonneg_right g.2 (by omega)
        omega
    unfold sSpc
    by_cases g : bay = -1
    · rw [if_pos g, if_pos g, hk, z4]
      congr 2
      omega
    · have hb2 : 0 ≤ bay ∧ bay < m' 75 0 := by omega
      rw [if_neg g, if_neg g, if_pos (by omega), hk]
      have z7 := z6 bay.toNat (by omega)
      rw [show ((bay.toNat : Nat) : Int) = bay by omega] at z7
      have hr : (sWe (m' 75) (m' 75 0).toNat kb * 6561 + kb * xU (m' 75 0).toNat) % 6561 = kb * xU (m' 75 0).toNat := by omega
      have hu : ∀ n : Nat, n < 9 → ∀ j : Nat, j < 9 → j < n → xU (j + 1) = 3 ^ (n - 1 - j) * xU n := by decide
      rw [z7, hr, hu (m' 75 0).toNat (by omega) bay.toNat (by omega) (by omega), Int.mul_ediv_mul_of_pos_left _ _ (by omega)]
/-! the call spent -/
def kSpent (M : Int → Int) (coin bay : Int) : Int := if bay = -1 ∨ (0 ≤ bay ∧ bay < M 0) then (if 0 ≤ coin ∧ coin ≤ 500 then 0 else 2) else 1
theorem cq_spent {m : jMu} (hA : kA m) (coin bay : Int) : cQ (f_L_spent coin bay m) m (kSpent (m 75) coin bay) (sSpc (m 75) coin bay) := by
  have hz := hA.1.z
  unfold f_L_spent f_X9_spent kSpent
  by_cases h0 : bay = -1
  · by_cases h2 : 0 ≤ coin ∧ coin ≤ 500
    · obtain ⟨m', e1, f1⟩ := c_coats hA.1 h2 (Or.inl h0)
      rw [if_pos h0, if_pos (Or.inl h0), if_pos h2]
      simp only [xIsIn, cHas, cRoom, Option.bind_some, nIz, nAz, nRz, nEz, nDz, nI0z, nI1z, nA0z, nA1z, nE0z, nE1z, nR0z, nR1z, jcat2_r, jcat2_l, jlt_eq, ite01, ite01o, ite01p, ite00, ite10, xe1, xe2, xe3, xe4, xe5, xe6, if_true, if_false, f_X5_size, Int.reduceLE, Int.reduceLT, h2, and_self, e1]
      exact cQ_val2 (fun c a b => f1 c (by omega))
    · rw [if_pos h0, if_pos (Or.inl h0), if_neg h2]
      simp only [xIsIn, cHas, cRoom, Option.bind_some, nIz, nAz, nRz, nEz, nDz, nI0z, nI1z, nA0z, nA1z, nE0z, nE1z, nR0z, nR1z, jcat2_r, jcat2_l, jlt_eq, ite01, ite01o, ite01p, ite00, ite10, xe1, xe2, xe3, xe4, xe5, xe6, if_true, if_false, f_X5_size, Int.reduceLE, Int.reduceLT, h2]
      exact cQ_thr (by decide)
  · by_cases h1 : 0 ≤ bay ∧ bay < m 75 0
    · by_cases h2 : 0 ≤ coin ∧ coin ≤ 500
      · obtain ⟨m', e1, f1⟩ := c_coats hA.1 h2 (Or.inr h1)
        rw [if_neg h0, if_pos (Or.inr h1), if_pos h2]
        simp only [xIsIn, cHas, cRoom, Option.bind_some, nIz, nAz, nRz, nEz, nDz, nI0z, nI1z, nA0z, nA1z, nE0z, nE1z, nR0z, nR1z, jcat2_r, jcat2_l, jlt_eq, ite01, ite01o, ite01p, ite00, ite10, xe1, xe2, xe3, xe4, xe5, xe6, if_true, if_false, f_X5_size, Int.reduceLE, Int.reduceLT, hz, h1, h2, and_self, e1]
        exact cQ_val2 (fun c a b => f1 c (by omega))
      · rw [if_neg h0, if_pos (Or.inr h1), if_neg h2]
        simp only [xIsIn, cHas, cRoom, Option.bind_some, nIz, nAz, nRz, nEz, nDz, nI0z, nI1z, nA0z, nA1z, nE0z, nE1z, nR0z, nR1z, jcat2_r, jcat2_l, jlt_eq, ite01, ite01o, ite01p, ite00, ite10, xe1, xe2, xe3, xe4, xe5, xe6, if_true, if_false, f_X5_size, Int.reduceLE, Int.reduceLT, hz, h1, h2, and_self]
        exact cQ_thr (by decide)
    · rw [if_neg h0, if_neg (fun z => z.elim h0 h1)]
      simp only [xIsIn, cHas, cRoom, Option.bind_some, nIz, nAz, nRz, nEz, nDz, nI0z, nI1z, nA0z, nA1z, nE0z, nE1z, nR0z, nR1z, jcat2_r, jcat2_l, jlt_eq, ite01, ite01o, ite01p, ite00, ite10, xe1, xe2, xe3, xe4, xe5, xe6, if_true, if_false, f_X5_size, Int.reduceLE, Int.reduceLT, hz, h1]
      exact cQ_thr (by decide)
theorem mq_spent {m : jMu} (hA : kA m) (coin bay : Int) : mQ (f_X10_spent coin bay m) m (kSpent (m 75) coin bay) (sSpc (m 75) coin bay) := by
  have hn := hA.1.n
  have hA' := kA_fM hA (fM.thr m 0)
  have e75 : jup m 74 0 0 75 = m 75 := jup_c (by decide)
  have K : bay = -1 ∨ (0 ≤ bay ∧ bay < m 75 0) → mQ (f_X10_spent_J18 coin bay m) m (if 0 ≤ coin ∧ coin ≤ 500 then 0 else 2) (sSpc (m 75) coin bay) := by
    intro hb
    unfold f_X10_spent_J18
    by_cases h2 : 0 ≤ coin ∧ coin ≤ 500
    · obtain ⟨m', e1, f1⟩ := m_spentL hA'.1 h2 (bay := bay) (by rw [e75]; exact hb)
      rw [e75] at e1
      rw [if_pos h2]
      simp only [mIsIn, mDay, mHour, mMoment, Option.bind_some, ite01, ite01o, ite01p, ite00, ite10, jlt_eq, jup_s, le00, le10, le20, le30, if_true, if_false, Int.reduceLE, Int.reduceLT, h2, and_self, e1]
      exact ⟨_, m', rfl, (fM.thr m 0).tr ⟨fun c a b => f1 c (by omega) (by omega), by rw [f1 74 (by decide) (by decide)], by rw [f1 74 (by decide) (by decide)], by rw [f1 74 (by decide) (by decide)], pE_cg (by rw [f1 74 (by decide) (by decide)]) (by rw [f1 74 (by decide) (by decide)]) (by rw [f1 74 (by decide) (by decide)]) (f1 78 (by decide) (by decide))⟩, by rw [f1 74 (by decide) (by decide), jup_s], fun _ => rfl⟩
    · rw [if_neg h2]
      simp only [mIsIn, mDay, mHour, mMoment, Option.bind_some, ite01, ite01o, ite01p, ite00, ite10, jlt_eq, jup_s, le00, le10, le20, le30, if_true, if_false, Int.reduceLE, Int.reduceLT, h2]
      exact mQ_thr (by decide)
  unfold f_X10_spent kSpent
  by_cases h0 : bay = -1
  · rw [if_pos h0, if_pos (Or.inl h0)]
    exact K (Or.inl h0)
  · rw [if_neg h0]
    by_cases h1 : 0 ≤ bay ∧ bay < m 75 0
    · rw [if_pos (Or.inr h1), mBay _ hn.1, Option.bind_some, ite01, if_pos h1]
      exact K (Or.inr h1)
    · rw [if_neg (fun z => z.elim h0 h1)]
      simp only [mIsIn, mDay, mHour, mMoment, Option.bind_some, ite01, ite01o, ite01p, ite00, ite10, jlt_eq, jup_s, le00, le10, le20, le30, if_true, if_false, Int.reduceLE, Int.reduceLT, mBay _ hn.1, h1]
      exact mQ_thr (by decide)
