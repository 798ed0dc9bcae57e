/-! LEVEL 2: promises, edges, even years -/
theorem itn_split {σ : Type} (f : Int → σ → σ) : ∀ (a b : Nat) (i : Int) (s : σ), itn f (a + b) i s = itn f b (i + a) (itn f a i s) := by
  intro a
  induction a with
  | zero => intro b i s; rw [Nat.zero_add, Int.natCast_zero, Int.add_zero]; rfl
  | succ a ih =>
    intro b i s
    rw [show a + 1 + b = (a + b) + 1 by omega]
    show itn f (a + b) (i + 1) (f i s) = itn f b (i + ((a + 1 : Nat) : Int)) (itn f a (i + 1) (f i s))
    rw [ih b (i + 1) (f i s)]
    congr 1
    omega
theorem itn_id {σ : Type} {f : Int → σ → σ} {n : Int} : ∀ (d : Nat) (i : Int) (s : σ), (i + d ≤ n) → (∀ k s, k < n → f k s = s) → itn f d i s = s := by
  intro d
  induction d with
  | zero => intro i s _ _; rfl
  | succ d ih =>
    intro i s h hf
    show itn f d (i + 1) (f i s) = s
    rw [hf i s (by omega), ih (i + 1) s (by omega) hf]
theorem itn_cg {σ : Type} {f g : Int → σ → σ} : ∀ (d : Nat) (i : Int) (s : σ), (∀ k s, i ≤ k → k < i + d → f k s = g k s) → itn f d i s = itn g d i s := by
  intro d
  induction d with
  | zero => intro i s _; rfl
  | succ d ih =>
    intro i s h
    show itn f d (i + 1) (f i s) = itn g d (i + 1) (g i s)
    rw [h i s (Int.le_refl _) (by omega), ih (i + 1) _ (fun k t a b => h k t (by omega) (by omega))]
def xPo (a : Int) (d : Nat) : Int := itn (fun _ v => jV (v * a)) d 0 1
theorem c_pw {a n : Int} (h0 : 0 ≤ n) (h1 : n ≤ 20) : f_X2_power a n = some (xPo a n.toNat) := by
  unfold f_X2_power xPo
  refine (itn_loop (L := fun q i s => f_X2_power_L5 q a n s i) (fun _ v => jV (v * a)) (fun s => s) (fun _ _ => True) (lo := 0) (n := n) ?_ ?_ n.toNat jFU 0 1 (Int.le_refl _) (by omega) (by unfold jFU; omega) trivial).1
  · intro q i s g0 g1 _
    refine ⟨?_, trivial⟩
    show f_X2_power_L5 (q + 1) a n s i = _
    rw [f_X2_power_L5, if_neg (by omega), jW_of (by omega) (by omega)]
  · intro q s _
    show f_X2_power_L5 (q + 1) a n s n = _
    rw [f_X2_power_L5, if_pos (Int.le_refl _)]
theorem m_pw {a n : Int} (h0 : 0 ≤ n) (h1 : n ≤ 20) : f_X10_power a n = some (xPo a n.toNat) := by
  unfold f_X10_power xPo
  refine (itn_loop (L := fun q i s => f_X10_power_L5 q a n s i) (fun _ v => jV (v * a)) (fun s => s) (fun _ _ => True) (lo := 0) (n := n) ?_ ?_ n.toNat jFU 0 1 (Int.le_refl _) (by omega) (by unfold jFU; omega) trivial).1
  · intro q i s g0 g1 _
    refine ⟨?_, trivial⟩
    show f_X10_power_L5 (q + 1) a n s i = _
    rw [f_X10_power_L5, if_neg (by omega), jW_of (by omega) (by omega)]
  · intro q s _
    show f_X10_power_L5 (q + 1) a n s n = _
    rw [f_X10_power_L5, if_pos (Int.le_refl _)]
def xCh (y k : Int) (d : Nat) : Int := itn (fun i w => jDvL (jV (w * jW (jW (y - k) + i))) i) d 1 1
theorem c_cho {y k : Int} (h0 : 0 ≤ k) (h1 : k ≤ 20) : f_X2_chosen y k = some (xCh y k k.toNat) := by
  unfold f_X2_chosen xCh
  refine (itn_loop (L := fun q i s => f_X2_chosen_L5 q y k s i) (fun i w => jDvL (jV (w * jW (jW (y - k) + i))) i) (fun s => s) (fun _ _ => True) (lo := 1) (n := k + 1) ?_ ?_ k.toNat jFU 1 1 (Int.le_refl _) (by omega) (by unfold jFU; omega) trivial).1
  · intro q i s g0 g1 _
    refine ⟨?_, trivial⟩
    show f_X2_chosen_L5 (q + 1) y k s i = _
    rw [f_X2_chosen_L5, if_neg (by omega), if_pos (by omega), jlt_eq, jW_of (z := i + 1) (by omega) (by omega)]
  · intro q s _
    show f_X2_chosen_L5 (q + 1) y k s (k + 1) = _
    rw [f_X2_chosen_L5, if_pos (by omega)]
/-- in how many ways, as the reference goes on -/
def xWy (y : Int) : Nat → Int
  | 0 => 1
  | k + 1 => jDvL (jV (xWy y k * jW (jW (y - ((k : Int) + 1)) + 1))) ((k : Int) + 1)
theorem xCh_eq : ∀ y : Nat, y < 21 → ∀ k : Nat, k < 21 → k ≤ y → xCh (y : Int) (k : Int) k = xWy (y : Int) k := by decide +kernel
def xTm (y h k : Nat) : Int := jV (jV (xWy (y : Int) k * xPo (h : Int) k) * xPo (jW (4 - (h : Int))) (y - k))
theorem xTm_b : ∀ y : Nat, y < 21 → ∀ h : Nat, h < 5 → ∀ k : Nat, k < 21 → k ≤ y → 0 ≤ xTm y h k ∧ xTm y h k ≤ 2199023255552 := by decide +kernel
theorem xPw4_b : ∀ y : Nat, y < 21 → 1 ≤ xPo 4 y ∧ xPo 4 y ≤ 2199023255552 := by decide +kernel
def sRwF (y h hard k s : Int) : Int := if k < hard then s else jV (s + xTm y.toNat h.toNat k.toNat)
def sRow (y h hard : Int) : Int := itn (sRwF y h hard) (y + 1).toNat 0 0
theorem sRow_b {y h hard : Int} (hy : 1 ≤ y ∧ y ≤ 20) (hh : 0 ≤ h ∧ h ≤ 4) : 0 ≤ sRow y h hard ∧ sRow y h hard ≤ 50000000000000 := by
  have := itn_inv (f := sRwF y h hard) (fun i s => 0 ≤ s ∧ s ≤ 2199023255552 * i) (lo := 0) (n := y + 1) (fun i s h0 h1 hP => by
    have T := xTm_b y.toNat (by omega) h.toNat (by omega) i.toNat (by omega) (by omega)
    unfold sRwF
    split
    · omega
    · rw [jV_id (by unfold jLn; omega)]
      omega) (y + 1).toNat 0 0 (Int.le_refl _) (by omega) ⟨Int.le_refl _, by decide⟩
  unfold sRow
  omega
theorem c_rows {y h hard : Int} (hy : 1 ≤ y ∧ y ≤ 20) (hh : 0 ≤ h ∧ h ≤ 4) (hd : 1 ≤ hard ∧ hard ≤ 20) : f_X2_rowsFailed y h hard = some (sRow y h hard) := by
  unfold f_X2_rowsFailed sRow
  by_cases g : hard ≤ y
  · have e : itn (sRwF y h hard) (y + 1).toNat 0 0 = itn (sRwF y h hard) (y + 1 - hard).toNat hard 0 := by
      rw [show (y + 1).toNat = hard.toNat + (y + 1 - hard).toNat by omega, itn_split, itn_id (f := sRwF y h hard) (n := hard) hard.toNat 0 0 (by omega) (fun k s hk => if_pos hk), show (0 : Int) + (hard.toNat : Int) = hard by omega]
    rw [e]
    refine (itn_loop (L := fun q i s => f_X2_rowsFailed_L6 q y h s i) (sRwF y h hard) (fun s => s) (fun _ _ => True) (lo := hard) (n := y + 1) ?_ ?_ (y + 1 - hard).toNat jFU hard 0 (Int.le_refl _) (by omega) (by unfold jFU; omega) trivial).1
    · intro q i s g0 g1 _
      refine ⟨?_, trivial⟩
      show f_X2_rowsFailed_L6 (q + 1) y h s i = _
      have X := xCh_eq y.toNat (by omega) i.toNat (by omega) (by omega)
      rw [show (y.toNat : Int) = y by omega, show (i.toNat : Int) = i by omega] at X
      rw [f_X2_rowsFailed_L6, if_neg (by omega), c_cho (by omega) (by omega), Option.bind_some, c_pw (by omega) (by omega), Option.bind_some, jW_of (z := y - i) (by omega) (by omega), c_pw (by omega) (by omega), Option.bind_some, jW_of (z := i + 1) (by omega) (by omega), X]
      unfold sRwF xTm
      rw [if_neg (by omega), show (y.toNat : Int) = y by omega, show (h.toNat : Int) = h by omega, show y.toNat - i.toNat = (y - i).toNat by omega]
    · intro q s _
      show f_X2_rowsFailed_L6 (q + 1) y h s (y + 1) = _
      rw [f_X2_rowsFailed_L6, if_pos (by omega)]
  · rw [itn_id (f := sRwF y h hard) (n := hard) (y + 1).toNat 0 0 (by omega) (fun k s hk => if_pos hk)]
    show f_X2_rowsFailed_L6 (99999 + 1) y h 0 hard = _
    rw [f_X2_rowsFailed_L6, if_pos (by omega)]
theorem m_rows {y h hard : Int} (hy : 1 ≤ y ∧ y ≤ 20) (hh : 0 ≤ h ∧ h ≤ 4) (hd : 1 ≤ hard ∧ hard ≤ 20) : f_X10_fails y h hard = some (sRow y h hard) := by
  have key := itn_loop (L := fun q i (s : Int × Int) => f_X10_fails_L8 q y h hard s.1 s.2 i) (fun i s => (sRwF y h hard i s.1, xWy y i.toNat)) (fun s => s.1) (fun i s => s.2 = xWy y (i - 1).toNat) (lo := 0) (n := y + 1) (by
    intro q i s g0 g1 hP
    refine ⟨?_, by show xWy y i.toNat = xWy y (i + 1 - 1).toNat; rw [Int.add_sub_cancel]⟩
    show f_X10_fails_L8 (q + 1) y h hard s.1 s.2 i = f_X10_fails_L8 q y h hard (sRwF y h hard i s.1) (xWy y i.toNat) (i + 1)
    have W : ∀ w : Int, w = xWy y i.toNat → (if i < hard then f_X10_fails_L8 q y h hard s.1 w (jW (i + 1)) else (f_X10_power h i).bind fun r1 => (f_X10_power (jW (4 - h)) (jW (y - i))).bind fun r2 => f_X10_fails_L8 q y h hard (jV (s.1 + jV (jV (w * r1) * r2))) w (jW (i + 1))) = f_X10_fails_L8 q y h hard (sRwF y h hard i s.1) (xWy y i.toNat) (i + 1) := by
      intro w hw
      rw [jW_of (z := i + 1) (by omega) (by omega), jW_of (z := y - i) (by omega) (by omega), m_pw (by omega) (by omega), Option.bind_some, m_pw (by omega) (by omega), Option.bind_some, hw]
      unfold sRwF
      by_cases g : i < hard
      · rw [if_pos g, if_pos g]
      · rw [if_neg g, if_neg g]
        unfold xTm
        rw [show (y.toNat : Int) = y by omega, show (h.toNat : Int) = h by omega, show y.toNat - i.toNat = (y - i).toNat by omega]
    rw [f_X10_fails_L8, if_neg (by omega)]
    by_cases g : i ≤ 0
    · rw [if_pos g]
      refine W s.2 ?_
      rw [hP, show (i - 1).toNat = 0 by omega, show i.toNat = 0 by omega]
    · rw [if_neg g, if_pos (by omega), jlt_eq]
      refine W _ ?_
      obtain ⟨k, rfl⟩ : ∃ k : Nat, i = (k : Int) + 1 := ⟨(i - 1).toNat, by omega⟩
      rw [hP, show ((k : Int) + 1 - 1).toNat = k by omega, show ((k : Int) + 1).toNat = k + 1 by omega]
      rfl) (by
    intro q s _
    show f_X10_fails_L8 (q + 1) y h hard s.1 s.2 (y + 1) = _
    rw [f_X10_fails_L8, if_pos (by omega)]) (y + 1).toNat jFU 0 (0, 1) (Int.le_refl _) (by omega) (by unfold jFU; omega) rfl
  have e : ∀ (d : Nat) (i : Int) (s : Int × Int), (itn (fun i s => (sRwF y h hard i s.1, xWy y i.toNat)) d i s).1 = itn (sRwF y h hard) d i s.1 := by
    intro d
    induction d with
    | zero => intro i s; rfl
    | succ d ih => intro i s; exact ih (i + 1) _
  have k1 : f_X10_fails y h hard = some (itn (fun i s => (sRwF y h hard i s.1, xWy y i.toNat)) (y + 1).toNat 0 (0, 1)).1 := key.1
  rw [k1, e]
  rfl
def kProm (y h hard : Int) : Int := if (1 ≤ y ∧ y ≤ 20) ∧ (0 ≤ h ∧ h ≤ 4) ∧ 1 ≤ hard ∧ hard ≤ 20 then 0 else 1
theorem nWz {m : jMu} {y h hard : Int} : f_X9_needWinters y h hard m = if (1 ≤ y ∧ y ≤ 20) ∧ (0 ≤ h ∧ h ≤ 4) ∧ 1 ≤ hard ∧ hard ≤ 20 then some (.inr ((), m)) else some (.inl ("java/lang/IllegalArgumentException", m)) := by
  unfold f_X9_needWinters
  simp only [xIsIn, Option.bind_some, ite01, nA0z, nA1z]
  by_cases h1 : 1 ≤ y ∧ y ≤ 20
  · by_cases h2 : 0 ≤ h ∧ h ≤ 4
    · by_cases h3 : 1 ≤ hard ∧ hard ≤ 20
      · rw [if_pos h1, if_pos h2, if_pos h3, if_pos ⟨h1, h2, h3⟩]
      · rw [if_pos h1, if_pos h2, if_neg h3, if_neg (fun z => h3 z.2.2)]
    · rw [if_pos h1, if_neg h2, if_neg (fun z => h2 z.2.1)]
  · rw [if_neg h1, if_neg (fun z => h1 z.1)]
theorem cq_promise {m : jMu} (hA : kA m) (y h hard : Int) : cQ (f_L_promise y h hard m) m (kProm y h hard) (sRow y h hard) := by
  unfold f_L_promise f_X9_promise kProm
  rw [nWz]
  by_cases g : (1 ≤ y ∧ y ≤ 20) ∧ (0 ≤ h ∧ h ≤ 4) ∧ 1 ≤ hard ∧ hard ≤ 20
  · rw [if_pos g, if_pos g, jthr_r, c_rows g.1 g.2.1 g.2.2]
    exact cQ_val2 (fC.rf m)
  · rw [if_neg g, if_neg g, jthr_l]
    exact cQ_thr (by decide)
theorem mq_promise {m : jMu} (hA : kA m) (y h hard : Int) : mQ (f_X10_promise y h hard m) m (kProm y h hard) (sRow y h hard) := by
  unfold f_X10_promise kProm
  by_cases h1 : 1 ≤ y ∧ y ≤ 20
  · by_cases h2 : 0 ≤ h ∧ h ≤ 4
    · by_cases h3 : 1 ≤ hard ∧ hard ≤ 20
      · simp only [mIsIn, mDay, mHour, mMoment, Option.bind_some, ite01, ite01o, ite01p, ite00, ite10, jlt_eq, jup_s, le00, le10, le20, le30, if_true, if_false, Int.reduceLE, Int.reduceLT, h1, h2, h3, and_self, m_rows h1 h2 h3]
        exact mQ_val
      · simp only [mIsIn, mDay, mHour, mMoment, Option.bind_some, ite01, ite01o, ite01p, ite00, ite10, jlt_eq, jup_s, le00, le10, le20, le30, if_true, if_false, Int.reduceLE, Int.reduceLT, h1, h2, h3, and_self, and_false]
        exact mQ_thr (by decide)
    · simp only [mIsIn, mDay, mHour, mMoment, Option.bind_some, ite01, ite01o, ite01p, ite00, ite10, jlt_eq, jup_s, le00, le10, le20, le30, if_true, if_false, Int.reduceLE, Int.reduceLT, h1, h2, and_self, and_false, false_and]
      exact mQ_thr (by decide)
  · simp only [mIsIn, mDay, mHour, mMoment, Option.bind_some, ite01, ite01o, ite01p, ite00, ite10, jlt_eq, jup_s, le00, le10, le20, le30, if_true, if_false, Int.reduceLE, Int.reduceLT, h1, false_and]
    exact mQ_thr (by decide)
def sEdge (y h hard always : Int) : Int := if jCm (jDvL (jV (jV (always * y) * xPo 4 y.toNat)) (jV (xPo 4 y.toNat + sRow y h hard))) 9999 ≤ 0 then jW (jDvL (jV (jV (always * y) * xPo 4 y.toNat)) (jV (xPo 4 y.toNat + sRow y h hard))) else 99999
def kEdge (y h hard always : Int) : Int := if ((1 ≤ y ∧ y ≤ 20) ∧ (0 ≤ h ∧ h ≤ 4) ∧ 1 ≤ hard ∧ hard ≤ 20) ∧ 0 ≤ always ∧ always ≤ 999 then 0 else 1
theorem sPaid {y h hard : Int} (hy : 1 ≤ y ∧ y ≤ 20) (hh : 0 ≤ h ∧ h ≤ 4) : 1 ≤ jV (xPo 4 y.toNat + sRow y h hard) := by
  have a := xPw4_b y.toNat (by omega)
  have b := sRow_b (hard := hard) hy hh
  rw [jV_id (by unfold jLn; omega)]
  omega
theorem cq_edge {m : jMu} (hA : kA m) (y h hard always : Int) : cQ (f_L_edge y h hard always m) m (kEdge y h hard always) (sEdge y h hard always) := by
  unfold f_L_edge f_X9_edge kEdge
  rw [nWz]
  by_cases g : (1 ≤ y ∧ y ≤ 20) ∧ (0 ≤ h ∧ h ≤ 4) ∧ 1 ≤ hard ∧ hard ≤ 20
  · by_cases g2 : 0 ≤ always ∧ always ≤ 999
    · have G : f_X2_greatestPrice y h hard always = some (sEdge y h hard always) := by
        have P := sPaid (hard := hard) g.1 g.2.1
        have j0 : 0 < jCm (jV (xPo 4 y.toNat + sRow y h hard)) 0 := by
          unfold jCm
          split
          · omega
          · split <;> omega
        unfold f_X2_greatestPrice
        rw [c_pw (by omega) (by omega), Option.bind_some, c_rows g.1 g.2.1 g.2.2, Option.bind_some, if_pos j0, if_pos (by omega), jlt_eq]
        unfold sEdge
        split <;> rfl
      rw [if_pos g, if_pos ⟨g, g2⟩, jthr_r]
      simp only [xIsIn, Option.bind_some, g2, and_self, if_true, nA1z, G, jcat2_r, jlt_eq]
      exact cQ_val2 (fC.rf m)
    · rw [if_pos g, if_neg (fun z => g2 z.2), jthr_r]
      simp only [xIsIn, Option.bind_some, g2, if_false, nA0z, jcat2_l, if_true]
      exact cQ_thr (by decide)
  · rw [if_neg g, if_neg (fun z => g z.1), jthr_l]
    exact cQ_thr (by decide)
theorem mq_edge {m : jMu} (hA : kA m) (y h hard always : Int) : mQ (f_X10_edge y h hard always m) m (kEdge y h hard always) (sEdge y h hard always) := by
  unfold f_X10_edge f_X10_edge_J42 f_X10_edge_J47 kEdge
  by_cases h1 : 1 ≤ y ∧ y ≤ 20
  · by_cases h2 : 0 ≤ h ∧ h ≤ 4
    · by_cases h3 : 1 ≤ hard ∧ hard ≤ 20
      · by_cases h4 : 0 ≤ always ∧ always ≤ 999
        · have P := sPaid (hard := hard) h1 h2
          have e : (if jV (xPo 4 y.toNat + sRow y h hard) ≠ 0 then (if jCm (jDvL (jV (jV (always * y) * xPo 4 y.toNat)) (jV (xPo 4 y.toNat + sRow y h hard))) 9999 ≤ 0 then some (jW (jDvL (jV (jV (always * y) * xPo 4 y.toNat)) (jV (xPo 4 y.toNat + sRow y h hard))), jup m 74 0 0) else some (99999, jup m 74 0 0)) else none) = some (sEdge y h hard always, jup m 74 0 0) := by
            rw [if_pos (by omega)]
            unfold sEdge
            split <;> rfl
          simp only [mIsIn, mDay, mHour, mMoment, Option.bind_some, ite01, ite01o, ite01p, ite00, ite10, jlt_eq, jup_s, le00, le10, le20, le30, if_true, if_false, Int.reduceLE, Int.reduceLT, h1, h2, h3, h4, and_self, m_rows h1 h2 h3, m_pw (show 0 ≤ y by omega) h1.2, e]
          exact mQ_val
        · simp only [mIsIn, mDay, mHour, mMoment, Option.bind_some, ite01, ite01o, ite01p, ite00, ite10, jlt_eq, jup_s, le00, le10, le20, le30, if_true, if_false, Int.reduceLE, Int.reduceLT, h1, h2, h3, h4, and_self, and_false]
          exact mQ_thr (by decide)
      · simp only [mIsIn, mDay, mHour, mMoment, Option.bind_some, ite01, ite01o, ite01p, ite00, ite10, jlt_eq, jup_s, le00, le10, le20, le30, if_true, if_false, Int.reduceLE, Int.reduceLT, h1, h2, h3, and_self, and_false, false_and]
        exact mQ_thr (by decide)
    · simp only [mIsIn, mDay, mHour, mMoment, Option.bind_some, ite01, ite01o, ite01p, ite00, ite10, jlt_eq, jup_s, le00, le10, le20, le30, if_true, if_false, Int.reduceLE, Int.reduceLT, h1, h2, and_self, and_false, false_and]
      exact mQ_thr (by decide)
  · simp only [mIsIn, mDay, mHour, mMoment, Option.bind_some, ite01, ite01o, ite01p, ite00, ite10, jlt_eq, jup_s, le00, le10, le20, le30, if_true, if_false, Int.reduceLE, Int.reduceLT, h1, false_and]
    exact mQ_thr (by decide)
/-! even years -/
def sEgF (M : Int → Int) (cap b : Int) (s : Int × Int) : Int ⊕ (Int × Int) := if M (20 + 9 * b + 2) ≤ cap then (if s.2 + M (20 + 9 * b + 2) ≤ cap then .inr (s.1, s.2 + M (20 + 9 * b + 2)) else .inr (s.1 + 1, M (20 + 9 * b + 2))) else .inl 0
def sEg (M : Int → Int) (cap y : Int) : Int := itx (sEgF M cap) (fun s => if y < s.1 then 0 else 1) (M 0).toNat 0 (1, 0)
theorem c_eg {m : jMu} {M : Int → Int} (C : kC m 0 M) {cap y : Int} (hc : cap ≤ 1000) : f_X2_isEnough cap y m = some (sEg M cap y) := by
  have hn := C.n
  have hz := C.z
  unfold f_X2_isEnough sEg
  refine itx_loop (L := fun q i (s : Int × Int) => f_X2_isEnough_L8 q cap y s.1 s.2 i m) (sEgF M cap) _ (fun i s => 1 ≤ s.1 ∧ s.1 ≤ i + 1 ∧ 0 ≤ s.2 ∧ s.2 ≤ 20 * i) (lo := 0) (n := M 0) ?_ ?_ (M 0).toNat jFU 0 (1, 0) (Int.le_refl _) (by omega) (by unfold jFU; omega) ⟨Int.le_refl _, Int.le_refl _, Int.le_refl _, Int.le_refl _⟩
  · intro q i s h0 h1 hP
    have hR := (C.1 0 (by decide)).2 i h0 h1
    show (∃ v, _ ∧ f_X2_isEnough_L8 (q + 1) cap y s.1 s.2 i m = some v) ∨ (∃ t, _ ∧ f_X2_isEnough_L8 (q + 1) cap y s.1 s.2 i m = _ ∧ _)
    rw [f_X2_isEnough_L8]
    unfold f_X5_size
    rw [hz.1, Option.bind_some, if_neg (by omega), cg_bay C h0 h1 (by decide) (by decide), Option.bind_some, jW_of (z := i + 1) (by omega) (by omega), jW_of (z := s.1 + 1) (by omega) (by omega), jW_of (z := s.2 + M (20 + 9 * i + 2)) (by omega) (by omega), jW_of (z := 0 + M (20 + 9 * i + 2)) (by omega) (by omega), Int.zero_add]
    unfold sEgF
    by_cases g : M (20 + 9 * i + 2) ≤ cap
    · by_cases g2 : s.2 + M (20 + 9 * i + 2) ≤ cap
      · exact Or.inr ⟨_, by rw [if_pos g, if_pos g2], by rw [if_pos g, if_pos g2], by show _ ∧ s.1 ≤ _ ∧ 0 ≤ s.2 + _ ∧ s.2 + _ ≤ _; omega⟩
      · exact Or.inr ⟨_, by rw [if_pos g, if_neg g2], by rw [if_pos g, if_neg g2], by show 1 ≤ s.1 + 1 ∧ s.1 + 1 ≤ _ ∧ 0 ≤ M _ ∧ M _ ≤ _; omega⟩
    · exact Or.inl ⟨0, by rw [if_neg g], by rw [if_neg g]⟩
  · intro q s _
    show f_X2_isEnough_L8 (q + 1) cap y s.1 s.2 (M 0) m = _
    rw [f_X2_isEnough_L8]
    unfold f_X5_size
    rw [hz.1, Option.bind_some, if_pos (Int.le_refl _)]
    split <;> rfl
theorem m_eg {m mm : jMu} (C : kC mm 0 (m 75)) {cap y : Int} (hc : cap ≤ 1000) : f_X10_isEnough cap y m = some (sEg (m 75) cap y) := by
  have hn := C.n
  unfold f_X10_isEnough sEg
  refine itx_loop (L := fun q i (s : Int × Int) => f_X10_isEnough_L8 q cap y s.1 s.2 i m) (sEgF (m 75) cap) _ (fun i s => 1 ≤ s.1 ∧ s.1 ≤ i + 1 ∧ 0 ≤ s.2 ∧ s.2 ≤ 20 * i) (lo := 0) (n := m 75 0) ?_ ?_ (m 75 0).toNat jFU 0 (1, 0) (Int.le_refl _) (by omega) (by unfold jFU; omega) ⟨Int.le_refl _, Int.le_refl _, Int.le_refl _, Int.le_refl _⟩
  · intro q i s h0 h1 hP
    have hR := (C.1 0 (by decide)).2 i h0 h1
    show (∃ v, _ ∧ f_X10_isEnough_L8 (q + 1) cap y s.1 s.2 i m = some v) ∨ (∃ t, _ ∧ f_X10_isEnough_L8 (q + 1) cap y s.1 s.2 i m = _ ∧ _)
    rw [f_X10_isEnough_L8, if_neg (by omega), mOfBay h0 (by omega) (by decide) (by decide), Option.bind_some, jW_of (z := i + 1) (by omega) (by omega), jW_of (z := s.1 + 1) (by omega) (by omega), jW_of (z := s.2 + m 75 (20 + 9 * i + 2)) (by omega) (by omega), jW_of (z := 0 + m 75 (20 + 9 * i + 2)) (by omega) (by omega), Int.zero_add]
    unfold sEgF
    by_cases g : m 75 (20 + 9 * i + 2) ≤ cap
    · by_cases g2 : s.2 + m 75 (20 + 9 * i + 2) ≤ cap
      · exact Or.inr ⟨_, by rw [if_pos g, if_pos g2], by rw [if_pos g, if_pos g2], by show _ ∧ s.1 ≤ _ ∧ 0 ≤ s.2 + _ ∧ s.2 + _ ≤ _; omega⟩
      · exact Or.inr ⟨_, by rw [if_pos g, if_neg g2], by rw [if_pos g, if_neg g2], by show 1 ≤ s.1 + 1 ∧ s.1 + 1 ≤ _ ∧ 0 ≤ m 75 _ ∧ m 75 _ ≤ _; omega⟩
    · exact Or.inl ⟨0, by rw [if_neg g], by rw [if_neg g]⟩
  · intro q s _
    show f_X10_isEnough_L8 (q + 1) cap y s.1 s.2 (m 75 0) m = _
    rw [f_X10_isEnough_L8, if_pos (Int.le_refl _)]
    split <;> rfl
def sAll (M : Int → Int) : Int := itn (fun b s => s + M (20 + 9 * b + 2)) (M 0).toNat 0 0
theorem sAll_b {m : jMu} {M : Int → Int} (C : kC m 0 M) : 0 ≤ sAll M ∧ sAll M ≤ 160 := by
  have hn := C.n
  have := itn_inv (f := fun b s => s + M (20 + 9 * b + 2)) (fun i s => 0 ≤ s ∧ s ≤ 20 * i) (lo := 0) (n := M 0) (fun i s h0 h1 hP => by
    have hR := (C.1 0 (by decide)).2 i h0 h1
    show 0 ≤ s + M (20 + 9 * i + 2) ∧ s + M (20 + 9 * i + 2) ≤ _
    omega) (M 0).toNat 0 0 (Int.le_refl _) (by omega) ⟨Int.le_refl _, Int.le_refl _⟩
  unfold sAll
  omega
/-- all bays go into one year -/
theorem sEg_all {m : jMu} {M : Int → Int} (C : kC m 0 M) {y : Int} (hy : 1 ≤ y) : sEg M (sAll M) y = 1 := by
  have hn := C.n
  have K : ∀ (d : Nat) (i s : Int), 0 ≤ i → i + d = M 0 → 0 ≤ s → itn (fun b s => s + M (20 + 9 * b + 2)) d i s = sAll M → s ≤ sAll M ∧ itx (sEgF M (sAll M)) (fun s => if y < s.1 then 0 else 1) d i (1, s) = 1 := by
    intro d
    induction d with
    | zero =>
      intro i s h0 h1 h2 h3
      have h3' : s = sAll M := h3
      refine ⟨by omega, ?_⟩
      show (if y < 1 then (0 : Int) else 1) = 1
      rw [if_neg (by omega)]
    | succ d ih =>
      intro i s h0 h1 h2 h3
      have hR := (C.1 0 (by decide)).2 i h0 (by omega)
      obtain ⟨a, b⟩ := ih (i + 1) (s + M (20 + 9 * i + 2)) (by omega) (by omega) (by omega) h3
      refine ⟨by omega, ?_⟩
      unfold itx
      have e : sEgF M (sAll M) i (1, s) = .inr (1, s + M (20 + 9 * i + 2)) := by
        unfold sEgF
        rw [if_pos (by omega)]
        exact if_pos a
      rw [e]
      exact b
  exact (K (M 0).toNat 0 0 (Int.le_refl _) (by omega) (Int.le_refl _) rfl).2
def sEvF (M : Int → Int) (y c : Int) (_ : Unit) : Int ⊕ Unit := if sEg M c y = 0 then .inr () else .inl c
def sEv (M : Int → Int) (y : Int) : Int := itx (sEvF M y) (fun _ => sAll M) (sAll M).toNat 0 ()
theorem c_even {m : jMu} {M : Int → Int} (C : kC m 0 M) {y : Int} : f_X2_evenNeed y m = some (sEv M y) := by
  have hn := C.n
  have hz := C.z
  have hb := sAll_b C
  have L2 : f_X2_evenNeed_L41 jFU y (sAll M) 0 m = some (sEv M y) := by
    unfold sEv
    refine itx_loop (L := fun q i (_ : Unit) => f_X2_evenNeed_L41 q y (sAll M) i m) (sEvF M y) _ (fun _ _ => True) (lo := 0) (n := sAll M) ?_ ?_ (sAll M).toNat jFU 0 () (Int.le_refl _) (by omega) (by unfold jFU; omega) trivial
    · intro q i s h0 h1 _
      show (∃ v, _ ∧ f_X2_evenNeed_L41 (q + 1) y (sAll M) i m = some v) ∨ (∃ t, _ ∧ f_X2_evenNeed_L41 (q + 1) y (sAll M) i m = _ ∧ True)
      rw [f_X2_evenNeed_L41, if_neg (by omega), c_eg C (by omega), Option.bind_some, jW_of (by omega) (by omega)]
      unfold sEvF
      by_cases g : sEg M i y = 0
      · exact Or.inr ⟨(), by rw [if_pos g], by rw [if_pos g], trivial⟩
      · exact Or.inl ⟨i, by rw [if_neg g], by rw [if_neg g]⟩
    · intro q s _
      show f_X2_evenNeed_L41 (q + 1) y (sAll M) (sAll M) m = _
      rw [f_X2_evenNeed_L41, if_pos (Int.le_refl _)]
  unfold f_X2_evenNeed
  obtain ⟨m', q, I, _, e⟩ := itr_run (L := fun q i s m => f_X2_evenNeed_L4 q y s i m) (fun b s => s + M (20 + 9 * b + 2)) (fun i s m' => m' = m ∧ 0 ≤ s ∧ s ≤ 20 * i) (lo := 0) (n := M 0) (by
    intro q i s m1 h0 h1 hI
    obtain ⟨rfl, hs⟩ := hI
    have hR := (C.1 0 (by decide)).2 i h0 h1
    refine ⟨m1, ⟨rfl, by omega, by omega⟩, ?_⟩
    show f_X2_evenNeed_L4 (q + 1) y s i m1 = _
    rw [f_X2_evenNeed_L4]
    unfold f_X5_size
    rw [hz.1, Option.bind_some, if_neg (by omega), cg_bay C h0 h1 (by decide) (by decide), Option.bind_some, jW_of (z := i + 1) (by omega) (by omega), jW_of (z := s + M (20 + 9 * i + 2)) (by omega) (by omega)]) (M 0).toNat jFU 0 0 m (Int.le_refl _) (by omega) (by unfold jFU; omega) ⟨rfl, Int.le_refl _, Int.le_refl _⟩
  obtain ⟨rfl, _⟩ := I
  rw [show f_X2_evenNeed_L4 jFU y 0 0 m' = f_X2_evenNeed_L4 (q + 1) y (sAll M) (M 0) m' from e, f_X2_evenNeed_L4]
  unfold f_X5_size
  rw [hz.1, Option.bind_some, if_pos (Int.le_refl _)]
  exact L2
theorem m_even {m mm : jMu} (C : kC mm 0 (m 75)) {y : Int} (hy : 1 ≤ y) : f_X10_even_L29 jFU y 0 m = some (sEv (m 75) y, m) := by
  have hb := sAll_b C
  unfold sEv
  obtain ⟨m', rfl, e⟩ := ity_loop (L := fun q i (_ : Unit) m => f_X10_even_L29 q y i m) (sEvF (m 75) y) (fun _ => sAll (m 75)) (fun v m => (v, m)) (fun m' => m' = m) (fun _ _ => True) (lo := 0) (n := sAll (m 75)) (by
    intro q i s m1 h0 h1 _ hI
    subst hI
    show (∃ v m', _ ∧ _ ∧ f_X10_even_L29 (q + 1) y i m1 = some (v, m')) ∨ (∃ t m', _ ∧ _ ∧ f_X10_even_L29 (q + 1) y i m1 = _ ∧ True)
    rw [f_X10_even_L29, m_eg C (by omega), Option.bind_some, jW_of (by omega) (by omega)]
    unfold sEvF
    by_cases g : sEg (m1 75) i y = 0
    · exact Or.inr ⟨(), m1, by rw [if_pos g], rfl, by rw [if_pos g], trivial⟩
    · exact Or.inl ⟨i, m1, by rw [if_neg g], rfl, by rw [if_neg g]⟩) (by
    intro q s m1 _ hI
    subst hI
    show f_X10_even_L29 (q + 1) y (sAll (m1 75)) m1 = _
    rw [f_X10_even_L29, m_eg C (by omega), Option.bind_some, sEg_all C hy, if_neg (by decide)]) (sAll (m 75)).toNat jFU 0 () m (Int.le_refl _) (by omega) (by unfold jFU; omega) trivial rfl
  exact e
theorem cq_even {m : jMu} (hA : kA m) (y : Int) : cQ (f_L_even y m) m (if 1 ≤ y ∧ y ≤ 4 then 0 else 1) (sEv (m 75) y) := by
  unfold f_L_even f_X9_even
  by_cases g : 1 ≤ y ∧ y ≤ 4
  · simp only [xIsIn, cHas, cRoom, Option.bind_some, nIz, nAz, nRz, nEz, nDz, nI0z, nI1z, nA0z, nA1z, nE0z, nE1z, nR0z, nR1z, jcat2_r, jcat2_l, jlt_eq, ite01, ite01o, ite01p, ite00, ite10, xe1, xe2, xe3, xe4, xe5, xe6, if_true, if_false, f_X5_size, Int.reduceLE, Int.reduceLT, g, and_self, c_even hA.1]
    exact cQ_val2 (fC.rf m)
  · simp only [xIsIn, cHas, cRoom, Option.bind_some, nIz, nAz, nRz, nEz, nDz, nI0z, nI1z, nA0z, nA1z, nE0z, nE1z, nR0z, nR1z, jcat2_r, jcat2_l, jlt_eq, ite01, ite01o, ite01p, ite00, ite10, xe1, xe2, xe3, xe4, xe5, xe6, if_true, if_false, f_X5_size, Int.reduceLE, Int.reduceLT, g]
    exact cQ_thr (by decide)
theorem mq_even {m : jMu} (hA : kA m) (y : Int) : mQ (f_X10_even y m) m (if 1 ≤ y ∧ y ≤ 4 then 0 else 1) (sEv (m 75) y) := by
  have hA' := kA_fM hA (fM.thr m 0)
  have e75 : jup m 74 0 0 75 = m 75 := jup_c (by decide)
  unfold f_X10_even
  by_cases g : 1 ≤ y ∧ y ≤ 4
  · have E := m_even hA'.1 g.1
    rw [e75] at E
    simp only [mIsIn, mDay, mHour, mMoment, Option.bind_some, ite01, ite01o, ite01p, ite00, ite10, jlt_eq, jup_s, le00, le10, le20, le30, if_true, if_false, Int.reduceLE, Int.reduceLT, g, and_self, E]
    exact mQ_val
  · simp only [mIsIn, mDay, mHour, mMoment, Option.bind_some, ite01, ite01o, ite01p, ite00, ite10, jlt_eq, jup_s, le00, le10, le20, le30, if_true, if_false, Int.reduceLE, Int.reduceLT, g]
    exact mQ_thr (by decide)
