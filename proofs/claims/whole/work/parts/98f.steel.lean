/-! LEVEL 2: the calls bare, steel, below -/
def sBn (M : Int → Int) (bay fr to known : Int) : Int := sSm (sBare M bay known) (to + 1) - sSm (sBare M bay known) fr
theorem sSm_d {B : Int → Int} (h : ∀ d, B d = 0 ∨ B d = 1) {i j : Int} (h0 : 0 ≤ i) (h1 : i ≤ j) : 0 ≤ sSm B j - sSm B i ∧ sSm B j - sSm B i ≤ j - i := by
  have := sSm_mono h (j - i).toNat i h0
  rw [show i + ((j - i).toNat : Int) = j by omega] at this
  omega
theorem c_days {m : jMu} {B : Int → Int} (hB : ∀ d, B d = 0 ∨ B d = 1) (h : ∀ d, 0 ≤ d → d ≤ 200 → m 71 d = sSm B d) {a b : Int} (h0 : 0 ≤ a) (h1 : a ≤ b + 1) (h2 : b ≤ 199) : f_X0_bareDays a b m = some (sSm B (b + 1) - sSm B a) := by
  have S := sSm_d hB h0 h1
  unfold f_X0_bareDays
  rw [jW_of (z := b + 1) (by omega) (by omega), if_neg (by omega), if_neg (by omega), if_pos (by omega), if_pos (by omega), if_pos (by omega), h (b + 1) (by omega) (by omega), h a h0 (by omega), jW_of (by omega) (by omega)]
def kBare (M : Int → Int) (bay fr to known : Int) : Int := if (0 ≤ bay ∧ bay < M 0) ∧ (0 ≤ fr ∧ fr ≤ 199) ∧ (0 ≤ to ∧ to ≤ 199) ∧ 0 ≤ known ∧ known ≤ 199 then (if fr ≤ to then 0 else 2) else 1
theorem cq_bare {m : jMu} (hA : kA m) (bay fr to known : Int) : cQ (f_L_bare bay fr to known m) m (kBare (m 75) bay fr to known) (sBn (m 75) bay fr to known) := by
  have hz := hA.1.z
  have hn := hA.1.n
  unfold f_L_bare f_X9_bare f_X9_bare_J30 f_X9_bare_J31 kBare
  by_cases h1 : 0 ≤ bay ∧ bay < m 75 0
  · by_cases h4 : 0 ≤ known ∧ known ≤ 199
    · by_cases h2 : (0 ≤ fr ∧ fr ≤ 199) ∧ 0 ≤ to ∧ to ≤ 199
      · by_cases h3 : fr ≤ to
        · obtain ⟨m', e1, f1, d1⟩ := c_bare hA.1 bay known
          have D := c_days (sBare_01 (by omega)) d1 (a := fr) (b := to) h2.1.1 (by omega) h2.2.2
          have D' : f_X0_bareDays fr to m' = some (sBn (m 75) bay fr to known) := D
          simp only [xIsIn, cHas, cRoom, Option.bind_some, nIz, nAz, nRz, nEz, nDz, nI0z, nI1z, nA0z, nA1z, nE0z, nE1z, nR0z, nR1z, jcat2_r, jcat2_l, jlt_eq, ite01, ite01o, ite01p, ite00, ite10, xe1, xe2, xe3, xe4, xe5, xe6, if_true, if_false, f_X5_size, Int.reduceLE, Int.reduceLT, hz, h1, h2, h4, Int.not_lt.mpr h3, h3, and_self, e1, D']
          exact cQ_val2 (fun c a b => f1 c a (by omega))
        · simp only [xIsIn, cHas, cRoom, Option.bind_some, nIz, nAz, nRz, nEz, nDz, nI0z, nI1z, nA0z, nA1z, nE0z, nE1z, nR0z, nR1z, jcat2_r, jcat2_l, jlt_eq, ite01, ite01o, ite01p, ite00, ite10, xe1, xe2, xe3, xe4, xe5, xe6, if_true, if_false, f_X5_size, Int.reduceLE, Int.reduceLT, hz, h1, h2, h4, Int.not_le.mp h3, h3, and_self]
          exact cQ_thr (by decide)
      · have : ¬ ((0 ≤ fr ∧ fr ≤ 199) ∧ (0 ≤ to ∧ to ≤ 199) ∧ 0 ≤ known ∧ known ≤ 199) := fun z => h2 ⟨z.1, z.2.1⟩
        simp only [xIsIn, cHas, cRoom, Option.bind_some, nIz, nAz, nRz, nEz, nDz, nI0z, nI1z, nA0z, nA1z, nE0z, nE1z, nR0z, nR1z, jcat2_r, jcat2_l, jlt_eq, ite01, ite01o, ite01p, ite00, ite10, xe1, xe2, xe3, xe4, xe5, xe6, if_true, if_false, f_X5_size, Int.reduceLE, Int.reduceLT, hz, h1, h2, h4, and_self, and_false, true_and, and_true]
        exact cQ_thr (by decide)
    · simp only [xIsIn, cHas, cRoom, Option.bind_some, nIz, nAz, nRz, nEz, nDz, nI0z, nI1z, nA0z, nA1z, nE0z, nE1z, nR0z, nR1z, jcat2_r, jcat2_l, jlt_eq, ite01, ite01o, ite01p, ite00, ite10, xe1, xe2, xe3, xe4, xe5, xe6, if_true, if_false, f_X5_size, Int.reduceLE, Int.reduceLT, hz, h1, h4, and_self, and_false]
      exact cQ_thr (by decide)
  · simp only [xIsIn, cHas, cRoom, Option.bind_some, nIz, nAz, nRz, nEz, nDz, nI0z, nI1z, nA0z, nA1z, nE0z, nE1z, nR0z, nR1z, jcat2_r, jcat2_l, jlt_eq, ite01, ite01o, ite01p, ite00, ite10, xe1, xe2, xe3, xe4, xe5, xe6, if_true, if_false, f_X5_size, Int.reduceLE, Int.reduceLT, hz, h1, false_and]
    exact cQ_thr (by decide)
theorem m_bareN {m m1 : jMu} {M : Int → Int} {fr to : Int} (hM : 0 ≤ M 8) {bay known : Int} (h0 : 0 ≤ fr) (h1 : fr ≤ to) (h2 : to ≤ 199) (h : ∀ d, 0 ≤ d → d < 200 → m1 81 d = sBare M bay known d) : f_X10_bare_L70 jFU to 0 fr m1 = some (sBn M bay fr to known, m1) := by
  have S := sSm_d (sBare_01 (bay := bay) (known := known) hM) h0 (show fr ≤ to + 1 by omega)
  have A := sSm_add (B := sBare M bay known) (to + 1 - fr).toNat fr 0 h0
  rw [show fr + ((to + 1 - fr).toNat : Int) = to + 1 by omega] at A
  have R := (itn_loop (L := fun q i s => f_X10_bare_L70 q to s i m1) (fun k s => s + sBare M bay known k) (fun s => (s, m1)) (fun i s => 0 ≤ s ∧ s ≤ i) (lo := fr) (n := to + 1) (by
    intro q i s g0 g1 hP
    have B := sBare_01 (M := M) (bay := bay) (known := known) hM i
    refine ⟨?_, by omega, by omega⟩
    show f_X10_bare_L70 (q + 1) to s i m1 = _
    rw [f_X10_bare_L70, if_neg (by omega), if_pos (by omega), h i (by omega) (by omega), jW_of (z := i + 1) (by omega) (by omega)]
    rcases B with g | g
    · rw [if_pos g, g, jW_of (by omega) (by omega)]
    · rw [if_neg (by omega), g, jW_of (by omega) (by omega)]) (by
    intro q s _
    show f_X10_bare_L70 (q + 1) to s (to + 1) m1 = _
    rw [f_X10_bare_L70, if_pos (by omega)]) (to + 1 - fr).toNat jFU fr 0 (Int.le_refl _) (by omega) (by unfold jFU; omega) ⟨Int.le_refl _, h0⟩).1
  rw [A] at R
  have e : (0 : Int) + (sSm (sBare M bay known) (to + 1) - sSm (sBare M bay known) fr) = sBn M bay fr to known := by
    unfold sBn
    omega
  rw [e] at R
  exact R
theorem mq_bare {m : jMu} (hA : kA m) (bay fr to known : Int) : mQ (f_X10_bare bay fr to known m) m (kBare (m 75) bay fr to known) (sBn (m 75) bay fr to known) := by
  have hn := hA.1.n
  have hA' := kA_fM hA (fM.thr m 0)
  have e75 : jup m 74 0 0 75 = m 75 := jup_c (by decide)
  unfold f_X10_bare f_X10_bare_J31 f_X10_bare_J45 kBare
  by_cases h1 : 0 ≤ bay ∧ bay < m 75 0
  · by_cases h2 : 0 ≤ fr ∧ fr ≤ 199
    · by_cases h3 : 0 ≤ to ∧ to ≤ 199
      · by_cases h4 : 0 ≤ known ∧ known ≤ 199
        · by_cases h5 : fr ≤ to
          · obtain ⟨m', e1, f1, z1, d1⟩ := m_bare hA'.1 bay known (by rw [e75]; exact h1)
            rw [e75] at d1
            have N := m_bareN (m := m) (m1 := m') (by omega) h2.1 h5 h3.2 d1
            simp only [mIsIn, mDay, mHour, mMoment, Option.bind_some, ite01, ite01o, ite01p, ite00, ite10, jlt_eq, jup_s, le00, le10, le20, le30, if_true, if_false, Int.reduceLE, Int.reduceLT, mBay _ hn.1, h1, h2, h3, h4, h5, and_self, e1, N]
            exact ⟨_, m', rfl, (fM.thr m 0).tr f1, by rw [z1, jup_s], fun _ => rfl⟩
          · simp only [mIsIn, mDay, mHour, mMoment, Option.bind_some, ite01, ite01o, ite01p, ite00, ite10, jlt_eq, jup_s, le00, le10, le20, le30, if_true, if_false, Int.reduceLE, Int.reduceLT, mBay _ hn.1, h1, h2, h3, h4, h5, and_self]
            exact mQ_thr (by decide)
        · simp only [mIsIn, mDay, mHour, mMoment, Option.bind_some, ite01, ite01o, ite01p, ite00, ite10, jlt_eq, jup_s, le00, le10, le20, le30, if_true, if_false, Int.reduceLE, Int.reduceLT, mBay _ hn.1, h1, h2, h3, h4, and_self, and_false]
          exact mQ_thr (by decide)
      · simp only [mIsIn, mDay, mHour, mMoment, Option.bind_some, ite01, ite01o, ite01p, ite00, ite10, jlt_eq, jup_s, le00, le10, le20, le30, if_true, if_false, Int.reduceLE, Int.reduceLT, mBay _ hn.1, h1, h2, h3, and_self, and_false, false_and]
        exact mQ_thr (by decide)
    · simp only [mIsIn, mDay, mHour, mMoment, Option.bind_some, ite01, ite01o, ite01p, ite00, ite10, jlt_eq, jup_s, le00, le10, le20, le30, if_true, if_false, Int.reduceLE, Int.reduceLT, mBay _ hn.1, h1, h2, and_self, and_false, false_and]
      exact mQ_thr (by decide)
  · simp only [mIsIn, mDay, mHour, mMoment, Option.bind_some, ite01, ite01o, ite01p, ite00, ite10, jlt_eq, jup_s, le00, le10, le20, le30, if_true, if_false, Int.reduceLE, Int.reduceLT, mBay _ hn.1, h1, false_and]
    exact mQ_thr (by decide)
/-! the latest reading -/
def sRdF (M : Int → Int) (bay day known : Int) (j : Int) (s : Int × Int) : Int × Int := if M (696 + 4 * j) = bay ∧ M (696 + 4 * j + 1) ≤ day ∧ M (696 + 4 * j + 3) ≤ known ∧ s.2 ≤ M (696 + 4 * j + 1) then (j, M (696 + 4 * j + 1)) else s
def sRd (M : Int → Int) (bay day known : Int) : Int := (itn (sRdF M bay day known) (M 9).toNat 0 (-1, -1)).1
theorem c_read {m : jMu} {M : Int → Int} (C : kC m 0 M) {bay day known : Int} : f_X0_latestReading bay day known m = some (sRd M bay day known) := by
  have hn := C.n
  have hz := C.z
  unfold f_X0_latestReading sRd
  refine (itn_loop (L := fun q i s => f_X0_latestReading_L18 q bay day known s.1 s.2 i m) (sRdF M bay day known) (fun s => s.1) (fun _ _ => True) (lo := 0) (n := M 9) ?_ ?_ (M 9).toNat jFU 0 (-1, -1) (by omega) (by omega) (by unfold jFU; omega) trivial).1
  · intro q i s h0 h1 _
    refine ⟨?_, trivial⟩
    show f_X0_latestReading_L18 (q + 1) bay day known s.1 s.2 i m = _
    rw [f_X0_latestReading_L18]
    unfold sRdF
    simp (disch := omega) only [f_X5_size, hz, Option.bind_some, if_neg, cg_read C, Int.add_zero, jW_of]
    repeat' split
    all_goals first | rfl | omega
  · intro q s _
    show f_X0_latestReading_L18 (q + 1) bay day known s.1 s.2 (M 9) m = _
    rw [f_X0_latestReading_L18]
    simp (disch := omega) only [f_X5_size, hz, Option.bind_some, if_pos]
theorem sRd_b {m : jMu} {M : Int → Int} (C : kC m 0 M) (bay day known : Int) : sRd M bay day known = -1 ∨ (0 ≤ sRd M bay day known ∧ sRd M bay day known < M 9 ∧ M (696 + 4 * sRd M bay day known + 1) ≤ day) := by
  have hn := C.n
  unfold sRd
  refine itn_inv (f := sRdF M bay day known) (fun i s => s.1 = -1 ∨ (0 ≤ s.1 ∧ s.1 < i ∧ M (696 + 4 * s.1 + 1) ≤ day)) (lo := 0) (n := M 9) (fun i s h0 h1 hP => ?_) (M 9).toNat 0 (-1, -1) (by omega) (by omega) (Or.inl rfl)
  unfold sRdF
  split
  · rename_i g
    exact Or.inr ⟨h0, by show i < i + 1; omega, g.2.1⟩
  · exact hP.imp id (fun g => ⟨g.1, by omega, g.2.2⟩)
/-- the reference's reading, and what goes on behind it -/
theorem m_read {m mm : jMu} (C : kC mm 0 (m 75)) {bay day known most : Int} : f_X10_steelOf bay day known most m = (if sRd (m 75) bay day known = -1 then f_X10_steelOf_J136 bay day most (sRd (m 75) bay day known) 0 m else f_X10_steelOf_J136 bay day most (sRd (m 75) bay day known) (m 75 (696 + 4 * sRd (m 75) bay day known + 1)) m) := by
  have hn := C.n
  have B := sRd_b C bay day known
  obtain ⟨m', q, I, _, e⟩ := itr_run (L := fun q i (s : Int × Int) m => f_X10_steelOf_L6 q bay day known most s.1 i m) (sRdF (m 75) bay day known) (fun i s m' => m' = m ∧ ((s.1 = -1 ∧ s.2 = -1) ∨ (0 ≤ s.1 ∧ s.1 < i ∧ s.2 = m 75 (696 + 4 * s.1 + 1)))) (lo := 0) (n := m 75 9) (by
    intro q i s m1 h0 h1 hI
    obtain ⟨rfl, hP⟩ := hI
    have hR := (C.1 9 (by decide)).2 i h0 h1
    refine ⟨m1, ⟨rfl, ?_⟩, ?_⟩
    · unfold sRdF
      split
      · exact Or.inr ⟨h0, by show i < i + 1; omega, rfl⟩
      · exact hP.imp id (fun g => ⟨g.1, by omega, g.2.2⟩)
    · show f_X10_steelOf_L6 (q + 1) bay day known most s.1 i m1 = _
      rw [f_X10_steelOf_L6]
      unfold sRdF
      simp (disch := omega) only [if_neg, if_pos, jW_of]
      rcases hP with hP | hP
      · simp only [if_pos hP.1]
        repeat' split
        all_goals first | rfl | omega
      · have hs : ¬ (s.1 = -1) := by omega
        simp (disch := omega) only [if_neg, if_pos, jW_of]
        repeat' split
        all_goals first | rfl | omega) (m 75 9).toNat jFU 0 (-1, -1) m (by omega) (by omega) (by unfold jFU; omega) ⟨rfl, Or.inl ⟨rfl, rfl⟩⟩
  obtain ⟨rfl, hP⟩ := I
  unfold f_X10_steelOf
  rw [show f_X10_steelOf_L6 jFU bay day known most (-1) 0 m' = f_X10_steelOf_L6 (q + 1) bay day known most (sRd (m' 75) bay day known) (m' 75 9) m' from e, f_X10_steelOf_L6, if_pos (Int.le_refl _)]
  by_cases g : sRd (m' 75) bay day known = -1
  · rw [if_pos g, if_pos g]
  · rw [if_neg g, if_neg g, jW_of (z := 4 * sRd (m' 75) bay day known) (by omega) (by omega), jW_of (z := 696 + 4 * sRd (m' 75) bay day known) (by omega) (by omega), jW_of (by omega) (by omega), if_pos (by omega)]
/-! steel on a day -/
def sFrom (M : Int → Int) (bay day known : Int) : Int := if sRd M bay day known = -1 then 0 else M (696 + 4 * sRd M bay day known + 1)
def sAtF (M : Int → Int) (bay day known most : Int) : Int := if sRd M bay day known = -1 then M (20 + 9 * bay + 3) else if most = 0 then (if M (696 + 4 * sRd M bay day known + 2) - 2 < 0 then 0 else M (696 + 4 * sRd M bay day known + 2) - 2) else (if 500 < M (696 + 4 * sRd M bay day known + 2) + 2 then 500 else M (696 + 4 * sRd M bay day known + 2) + 2)
def sLs (M : Int → Int) (bay most : Int) : Int := if most = 0 then M (876 + 2 * M (20 + 9 * bay) + 1) else M (876 + 2 * M (20 + 9 * bay))
def sSt (M : Int → Int) (bay day known most : Int) : Int := if sAtF M bay day known most - sLs M bay most * (sSm (sBare M bay known) day - sSm (sBare M bay known) (sFrom M bay day known)) < 0 then 0 else sAtF M bay day known most - sLs M bay most * (sSm (sBare M bay known) day - sSm (sBare M bay known) (sFrom M bay day known))
theorem sSt_f {m : jMu} {M : Int → Int} (C : kC m 0 M) {bay day : Int} (hb : 0 ≤ bay ∧ bay < M 0) (hd : 0 ≤ day ∧ day ≤ 199) (known most : Int) : (0 ≤ sFrom M bay day known ∧ sFrom M bay day known ≤ day) ∧ (0 ≤ sAtF M bay day known most ∧ sAtF M bay day known most ≤ 500) ∧ (0 ≤ sLs M bay most ∧ sLs M bay most ≤ 20) ∧ (M (20 + 9 * bay) = 0 ∨ M (20 + 9 * bay) = 1) := by
  have hR := (C.1 0 (by decide)).2 bay hb.1 hb.2
  have hL : (0 ≤ M 876 ∧ M 876 ≤ 20) ∧ (0 ≤ M 877 ∧ M 877 ≤ 20) ∧ (0 ≤ M 878 ∧ M 878 ≤ 20) ∧ (0 ≤ M 879 ∧ M 879 ≤ 20) := (C.1 8 (by decide)).2
  have B := sRd_b C bay day known
  have s01 : M (20 + 9 * bay) = 0 ∨ M (20 + 9 * bay) = 1 := by omega
  have hl : 0 ≤ sLs M bay most ∧ sLs M bay most ≤ 20 := by
    unfold sLs
    rcases s01 with g | g
    · rw [g]
      split
      · exact hL.2.1
      · exact hL.1
    · rw [g]
      split
      · exact hL.2.2.2
      · exact hL.2.2.1
  unfold sFrom sAtF
  by_cases g : sRd M bay day known = -1
  · rw [if_pos g, if_pos g]
    exact ⟨by omega, by omega, hl, s01⟩
  · have hr := (C.1 9 (by decide)).2 (sRd M bay day known) (by omega) (by omega)
    rw [if_neg g, if_neg g]
    refine ⟨by omega, ?_, hl, s01⟩
    repeat' split
    all_goals omega
theorem c_steel {m : jMu} {M : Int → Int} (C : kC m 0 M) {bay day known most : Int} (hb : 0 ≤ bay ∧ bay < M 0) (hd : 0 ≤ day ∧ day ≤ 199) (h : ∀ d, 0 ≤ d → d ≤ 200 → m 71 d = sSm (sBare M bay known) d) : f_X0_steelOn bay day known most m = some (sSt M bay day known most) := by
  have hn := C.n
  obtain ⟨f1, f2, f3, f4⟩ := sSt_f C hb hd known most
  have B01 := sBare_01 (M := M) (bay := bay) (known := known) (by omega)
  have S := sSm_d B01 f1.1 f1.2
  have hm0 : 0 ≤ sLs M bay most * (sSm (sBare M bay known) day - sSm (sBare M bay known) (sFrom M bay day known)) := Int.mul_nonneg f3.1 S.1
  have hm1 : sLs M bay most * (sSm (sBare M bay known) day - sSm (sBare M bay known) (sFrom M bay day known)) ≤ 20 * 200 := Int.mul_le_mul f3.2 (by omega) S.1 (by decide)
  have D := c_days B01 h (a := sFrom M bay day known) (b := day - 1) f1.1 (by omega) (by omega)
  rw [show day - 1 + 1 = day by omega] at D
  have b0 := cg_bay C hb.1 hb.2 (c := 0) (by decide) (by decide)
  rw [Int.add_zero] at b0
  have G : f_X0_steelOn_J90 bay day most (sFrom M bay day known) (sAtF M bay day known most) m = some (sSt M bay day known most) := by
    have J : ∀ c, f_X5_get 2 3 4 (M (20 + 9 * bay)) c m = some (sLs M bay most) → f_X0_steelOn_J123 day (sFrom M bay day known) (sAtF M bay day known most) (M (20 + 9 * bay)) c m = some (sSt M bay day known most) := by
      intro c hc
      unfold f_X0_steelOn_J123
      rw [hc, Option.bind_some, jW_of (z := day - 1) (by omega) (by omega), D, Option.bind_some, jW_of (z := sLs M bay most * (sSm (sBare M bay known) day - sSm (sBare M bay known) (sFrom M bay day known))) (by omega) (by omega), jW_of (by omega) (by omega)]
      rfl
    unfold f_X0_steelOn_J90
    rw [b0, Option.bind_some]
    by_cases g : most = 0
    · rw [if_pos g]
      refine J 1 ?_
      rw [cg_rust C (by omega) (by omega) (by decide) (by decide)]
      unfold sLs
      rw [if_pos g]
    · rw [if_neg g]
      refine J 0 ?_
      rw [cg_rust C (by omega) (by omega) (by decide) (by decide), Int.add_zero]
      unfold sLs
      rw [if_neg g]
  unfold f_X0_steelOn
  rw [c_read C, Option.bind_some, cg_bay C hb.1 hb.2 (c := 3) (by decide) (by decide), Option.bind_some]
  have B := sRd_b C bay day known
  unfold sFrom sAtF at G
  by_cases g : sRd M bay day known = -1
  · rw [if_pos g, if_pos g] at G
    rw [if_pos g]
    exact G
  · have hr := (C.1 9 (by decide)).2 (sRd M bay day known) (by omega) (by omega)
    rw [if_neg g, if_neg g] at G
    rw [if_neg g, cg_read C (by omega) (by omega) (c := 2) (by decide) (by decide), Option.bind_some, cg_read C (by omega) (by omega) (c := 1) (by decide) (by decide), Option.bind_some, jW_of (z := M (696 + 4 * sRd M bay day known + 2) - 2) (by omega) (by omega), jW_of (z := M (696 + 4 * sRd M bay day known + 2) + 2) (by omega) (by omega)]
    unfold f_X0_steelOn_J88
    by_cases g2 : most = 0
    · rw [if_pos g2] at G ⊢
      exact G
    · rw [if_neg g2] at G ⊢
      exact G
theorem m_steelL {m : jMu} {B : Int → Int} (hB : ∀ d, B d = 0 ∨ B d = 1) {fr day n ls : Int} (h0 : 0 ≤ fr) (h1 : fr ≤ day) (h2 : day ≤ 199) (hn : 0 ≤ n ∧ n ≤ 500) (hl : 0 ≤ ls ∧ ls ≤ 20) (h : ∀ d, 0 ≤ d → d < 200 → m 81 d = B d) : f_X10_steelOf_L243 jFU day n ls fr m = some (if n - ls * (sSm B day - sSm B fr) < 0 then 0 else n - ls * (sSm B day - sSm B fr)) := by
  have hmul : ∀ k : Int, 0 ≤ k → k ≤ 200 → 0 ≤ ls * k ∧ ls * k ≤ 20 * 200 := fun k k0 k1 => ⟨Int.mul_nonneg hl.1 k0, Int.mul_le_mul hl.2 k1 k0 (by decide)⟩
  have key := itn_loop (L := fun q i s => f_X10_steelOf_L243 q day s ls i m) (fun k s => s - ls * B k) (fun s => if s < 0 then 0 else s) (fun i s => s = n - ls * (sSm B i - sSm B fr)) (lo := fr) (n := day) (by
    intro q i s g0 g1 hP
    have S := sSm_d hB h0 g0
    have M1 := hmul _ S.1 (by omega)
    have es := sSm_s (B := B) (d := i) (by omega)
    refine ⟨?_, ?_⟩
    · show f_X10_steelOf_L243 (q + 1) day s ls i m = _
      rw [f_X10_steelOf_L243, if_neg (by omega), if_pos (by omega), h i (by omega) (by omega), jW_of (z := i + 1) (by omega) (by omega)]
      rcases hB i with g | g
      · rw [if_pos g, g, Int.mul_zero, jW_of (by omega) (by omega)]
      · rw [if_neg (by omega), g, Int.mul_one, jW_of (by omega) (by omega)]
    · show s - ls * B i = _
      rw [es, hP, show sSm B i + B i - sSm B fr = (sSm B i - sSm B fr) + B i by omega, Int.mul_add]
      omega) (by
    intro q s _
    show f_X10_steelOf_L243 (q + 1) day s ls day m = _
    rw [f_X10_steelOf_L243, if_pos (Int.le_refl _)]
    show _ = some (if s < 0 then 0 else s)
    by_cases g : 0 ≤ s
    · rw [if_pos g, if_neg (by omega)]
    · rw [if_neg g, if_pos (by omega)]) (day - fr).toNat jFU fr n (Int.le_refl _) (by omega) (by unfold jFU; omega) (by rw [Int.sub_self, Int.mul_zero]; omega)
  rw [key.2] at key
  exact key.1
theorem m_steel {m mm : jMu} (C : kC mm 0 (m 75)) {bay day known most : Int} (hb : 0 ≤ bay ∧ bay < m 75 0) (hd : 0 ≤ day ∧ day ≤ 199) (h : ∀ d, 0 ≤ d → d < 200 → m 81 d = sBare (m 75) bay known d) : f_X10_steelOf bay day known most m = some (sSt (m 75) bay day known most) := by
  have hn := C.n
  obtain ⟨f1, f2, f3, f4⟩ := sSt_f C hb hd known most
  have B01 := sBare_01 (M := m 75) (bay := bay) (known := known) (by omega)
  have hR := (C.1 0 (by decide)).2 bay hb.1 hb.2
  have B := sRd_b C bay day known
  have o0 := mOfBay (m := m) (j := bay) (c := 0) hb.1 (by omega) (by decide) (by decide)
  have o3 := mOfBay (m := m) (j := bay) (c := 3) hb.1 (by omega) (by decide) (by decide)
  rw [Int.add_zero] at o0
  have L := m_steelL B01 f1.1 f1.2 hd.2 f2 f3 h
  have K : f_X10_steelOf_J207 bay day most (sFrom (m 75) bay day known) (sAtF (m 75) bay day known most) m = some (sSt (m 75) bay day known most) := by
    unfold f_X10_steelOf_J207
    rw [o0, Option.bind_some]
    unfold sSt
    unfold sLs at L ⊢
    by_cases g : most = 0
    · rw [if_pos g] at L ⊢
      rw [jW_of (z := 2 * m 75 (20 + 9 * bay)) (by omega) (by omega), jW_of (z := 876 + 2 * m 75 (20 + 9 * bay)) (by omega) (by omega), jW_of (z := 876 + 2 * m 75 (20 + 9 * bay) + 1) (by omega) (by omega), if_pos (by omega)]
      rw [if_pos g]
      exact L
    · rw [if_neg g] at L ⊢
      rw [jW_of (z := 2 * m 75 (20 + 9 * bay)) (by omega) (by omega), jW_of (z := 876 + 2 * m 75 (20 + 9 * bay)) (by omega) (by omega), Int.add_zero, jW_of (z := 876 + 2 * m 75 (20 + 9 * bay)) (by omega) (by omega), if_pos (by omega)]
      rw [if_neg g]
      exact L
  rw [m_read C]
  unfold sFrom sAtF at K
  unfold f_X10_steelOf_J136 f_X10_steelOf_J179 f_X10_steelOf_J180
  by_cases g : sRd (m 75) bay day known = -1
  · rw [if_pos g, if_pos g] at K
    rw [if_pos g, if_pos g, o3, Option.bind_some, if_pos (by omega), if_pos (by omega)]
    exact K
  · have hr := (C.1 9 (by decide)).2 (sRd (m 75) bay day known) (by omega) (by omega)
    rw [if_neg g, if_neg g] at K
    rw [if_neg g, if_neg g, jW_of (z := 4 * sRd (m 75) bay day known) (by omega) (by omega), jW_of (z := 696 + 4 * sRd (m 75) bay day known) (by omega) (by omega), jW_of (z := 696 + 4 * sRd (m 75) bay day known + 2) (by omega) (by omega), if_pos (by omega)]
    by_cases g2 : most = 0
    · rw [if_pos g2] at K ⊢
      rw [jW_of (z := m 75 (696 + 4 * sRd (m 75) bay day known + 2) + -2) (by omega) (by omega)]
      by_cases g3 : m 75 (696 + 4 * sRd (m 75) bay day known + 2) - 2 < 0
      · rw [if_pos g3] at K
        rw [if_neg (by omega)]
        exact K
      · rw [if_neg g3] at K
        rw [if_pos (by omega), if_pos (by omega)]
        exact K
    · rw [if_neg g2] at K ⊢
      rw [jW_of (z := m 75 (696 + 4 * sRd (m 75) bay day known + 2) + 2) (by omega) (by omega), if_pos (by omega)]
      by_cases g3 : 500 < m 75 (696 + 4 * sRd (m 75) bay day known + 2) + 2
      · rw [if_pos g3] at K
        rw [if_neg (by omega)]
        exact K
      · rw [if_neg g3] at K
        rw [if_pos (by omega)]
        exact K
def kSteel (M : Int → Int) (bay day known : Int) : Int := if (0 ≤ bay ∧ bay < M 0) ∧ (0 ≤ day ∧ day ≤ 199) ∧ 0 ≤ known ∧ known ≤ 199 then 0 else 1
theorem cq_steel {m : jMu} (hA : kA m) (bay day known most : Int) : cQ (f_L_steel bay day known most m) m (kSteel (m 75) bay day known) (sSt (m 75) bay day known most) := by
  have hz := hA.1.z
  unfold f_L_steel f_X9_steel kSteel
  by_cases h1 : 0 ≤ bay ∧ bay < m 75 0
  · by_cases h2 : (0 ≤ day ∧ day ≤ 199) ∧ 0 ≤ known ∧ known ≤ 199
    · obtain ⟨m', e1, f1, d1⟩ := c_bare hA.1 bay known
      have C1 : kC m' 0 (m 75) := kC_frame hA.1 (fun c _ h2 => f1 c (by omega) (by omega)) (fun _ _ _ => rfl)
      have D := c_steel C1 (most := most) h1 h2.1 d1
      simp only [xIsIn, cHas, cRoom, Option.bind_some, nIz, nAz, nRz, nEz, nDz, nI0z, nI1z, nA0z, nA1z, nE0z, nE1z, nR0z, nR1z, jcat2_r, jcat2_l, jlt_eq, ite01, ite01o, ite01p, ite00, ite10, xe1, xe2, xe3, xe4, xe5, xe6, if_true, if_false, f_X5_size, Int.reduceLE, Int.reduceLT, hz, h1, h2, and_self, e1, D]
      exact cQ_val2 (fun c a b => f1 c a (by omega))
    · simp only [xIsIn, cHas, cRoom, Option.bind_some, nIz, nAz, nRz, nEz, nDz, nI0z, nI1z, nA0z, nA1z, nE0z, nE1z, nR0z, nR1z, jcat2_r, jcat2_l, jlt_eq, ite01, ite01o, ite01p, ite00, ite10, xe1, xe2, xe3, xe4, xe5, xe6, if_true, if_false, f_X5_size, Int.reduceLE, Int.reduceLT, hz, h1, h2, and_self, and_false]
      exact cQ_thr (by decide)
  · simp only [xIsIn, cHas, cRoom, Option.bind_some, nIz, nAz, nRz, nEz, nDz, nI0z, nI1z, nA0z, nA1z, nE0z, nE1z, nR0z, nR1z, jcat2_r, jcat2_l, jlt_eq, ite01, ite01o, ite01p, ite00, ite10, xe1, xe2, xe3, xe4, xe5, xe6, if_true, if_false, f_X5_size, Int.reduceLE, Int.reduceLT, hz, h1, false_and]
    exact cQ_thr (by decide)
theorem mq_steel {m : jMu} (hA : kA m) (bay day known most : Int) : mQ (f_X10_steel bay day known most m) m (kSteel (m 75) bay day known) (sSt (m 75) bay day known most) := by
  have hn := hA.1.n
  have hA' := kA_fM hA (fM.thr m 0)
  have e75 : jup m 74 0 0 75 = m 75 := jup_c (by decide)
  unfold f_X10_steel f_X10_steel_J23 f_X10_steel_J28 kSteel
  by_cases h1 : 0 ≤ bay ∧ bay < m 75 0
  · by_cases h2 : 0 ≤ day ∧ day ≤ 199
    · by_cases h3 : 0 ≤ known ∧ known ≤ 199
      · obtain ⟨m', e1, f1, z1, d1⟩ := m_bare hA'.1 bay known (by rw [e75]; exact h1)
        have q75 : m' 75 = m 75 := (f1.1 75 (by decide) (by decide)).trans e75
        rw [e75] at d1
        have D := m_steel (m := m') (mm := m) (by rw [q75]; exact hA.1) (known := known) (most := most) (by rw [q75]; exact h1) h2 (by rw [q75]; exact d1)
        rw [q75] at D
        simp only [mIsIn, mDay, mHour, mMoment, Option.bind_some, ite01, ite01o, ite01p, ite00, ite10, jlt_eq, jup_s, le00, le10, le20, le30, if_true, if_false, Int.reduceLE, Int.reduceLT, mBay _ hn.1, h1, h2, h3, and_self, e1, D]
        exact ⟨_, m', rfl, (fM.thr m 0).tr f1, by rw [z1, jup_s], fun _ => rfl⟩
      · simp only [mIsIn, mDay, mHour, mMoment, Option.bind_some, ite01, ite01o, ite01p, ite00, ite10, jlt_eq, jup_s, le00, le10, le20, le30, if_true, if_false, Int.reduceLE, Int.reduceLT, mBay _ hn.1, h1, h2, h3, and_self, and_false]
        exact mQ_thr (by decide)
    · simp only [mIsIn, mDay, mHour, mMoment, Option.bind_some, ite01, ite01o, ite01p, ite00, ite10, jlt_eq, jup_s, le00, le10, le20, le30, if_true, if_false, Int.reduceLE, Int.reduceLT, mBay _ hn.1, h1, h2, and_self, and_false, false_and]
      exact mQ_thr (by decide)
  · simp only [mIsIn, mDay, mHour, mMoment, Option.bind_some, ite01, ite01o, ite01p, ite00, ite10, jlt_eq, jup_s, le00, le10, le20, le30, if_true, if_false, Int.reduceLE, Int.reduceLT, mBay _ hn.1, h1, false_and]
    exact mQ_thr (by decide)
/-! below -/
def sBeF (M : Int → Int) (bay limit known d : Int) (_ : Unit) : Int ⊕ Unit := if limit ≤ sSt M bay d known 0 then .inr () else .inl d
def sBelow (M : Int → Int) (bay limit known : Int) : Int := itx (sBeF M bay limit known) (fun _ => -1) 200 0 ()
def kBelow (M : Int → Int) (bay limit known : Int) : Int := if (0 ≤ bay ∧ bay < M 0) ∧ 0 ≤ known ∧ known ≤ 199 then (if 1 ≤ limit ∧ limit ≤ 500 then 0 else 2) else 1
theorem c_below {m : jMu} {M : Int → Int} (C : kC m 0 M) {bay limit known : Int} (hb : 0 ≤ bay ∧ bay < M 0) (h : ∀ d, 0 ≤ d → d ≤ 200 → m 71 d = sSm (sBare M bay known) d) : f_X0_firstBelow bay limit known m = some (sBelow M bay limit known) := by
  unfold f_X0_firstBelow sBelow
  refine itx_loop (L := fun q i (_ : Unit) => f_X0_firstBelow_L3 q bay limit known i m) (sBeF M bay limit known) _ (fun _ _ => True) (lo := 0) (n := 200) ?_ ?_ 200 jFU 0 () (Int.le_refl _) (by decide) (by unfold jFU; omega) trivial
  · intro q i s h0 h1 _
    show (∃ v, _ ∧ f_X0_firstBelow_L3 (q + 1) bay limit known i m = some v) ∨ (∃ t, _ ∧ f_X0_firstBelow_L3 (q + 1) bay limit known i m = _ ∧ True)
    rw [f_X0_firstBelow_L3, if_neg (by omega), c_steel C hb (by omega) h, Option.bind_some, jW_of (by omega) (by omega)]
    unfold sBeF
    by_cases g : limit ≤ sSt M bay i known 0
    · exact Or.inr ⟨(), by rw [if_pos g], by rw [if_pos g], trivial⟩
    · exact Or.inl ⟨i, by rw [if_neg g], by rw [if_neg g]⟩
  · intro q s _
    show f_X0_firstBelow_L3 (q + 1) bay limit known 200 m = _
    rw [f_X0_firstBelow_L3, if_pos (Int.le_refl _)]
theorem m_below {m mm : jMu} (C : kC mm 0 (m 75)) {bay limit known : Int} (hb : 0 ≤ bay ∧ bay < m 75 0) (h : ∀ d, 0 ≤ d → d < 200 → m 81 d = sBare (m 75) bay known d) : f_X10_below_L57 jFU bay limit known 0 m = some (sBelow (m 75) bay limit known, m) := by
  unfold sBelow
  obtain ⟨m', rfl, e⟩ := ity_loop (L := fun q i (_ : Unit) m => f_X10_below_L57 q bay limit known i m) (sBeF (m 75) bay limit known) (fun _ => -1) (fun v m => (v, m)) (fun m' => m' = m) (fun _ _ => True) (lo := 0) (n := 200) (by
    intro q i s m1 h0 h1 _ hI
    subst hI
    show (∃ v m', _ ∧ _ ∧ f_X10_below_L57 (q + 1) bay limit known i m1 = some (v, m')) ∨ (∃ t m', _ ∧ _ ∧ f_X10_below_L57 (q + 1) bay limit known i m1 = _ ∧ True)
    rw [f_X10_below_L57, if_neg (by omega), m_steel C hb (by omega) h, Option.bind_some, jW_of (by omega) (by omega)]
    unfold sBeF
    by_cases g : limit ≤ sSt (m1 75) bay i known 0
    · exact Or.inr ⟨(), m1, by rw [if_pos g], rfl, by rw [if_pos g], trivial⟩
    · exact Or.inl ⟨i, m1, by rw [if_neg g], rfl, by rw [if_neg g]⟩) (by
    intro q s m1 _ _
    show f_X10_below_L57 (q + 1) bay limit known 200 m1 = _
    rw [f_X10_below_L57, if_pos (Int.le_refl _)]) 200 jFU 0 () m (Int.le_refl _) (by decide) (by unfold jFU; omega) trivial rfl
  exact e
theorem cq_below {m : jMu} (hA : kA m) (bay limit known : Int) : cQ (f_L_below bay limit known m) m (kBelow (m 75) bay limit known) (sBelow (m 75) bay limit known) := by
  have hz := hA.1.z
  unfold f_L_below f_X9_below f_X9_below_J29 f_X9_below_J30 kBelow
  by_cases h1 : 0 ≤ bay ∧ bay < m 75 0
  · by_cases h2 : 0 ≤ known ∧ known ≤ 199
    · by_cases h3 : 1 ≤ limit ∧ limit ≤ 500
      · obtain ⟨m', e1, f1, d1⟩ := c_bare hA.1 bay known
        have C1 : kC m' 0 (m 75) := kC_frame hA.1 (fun c _ h2 => f1 c (by omega) (by omega)) (fun _ _ _ => rfl)
        have D := c_below C1 (limit := limit) h1 d1
        simp only [xIsIn, cHas, cRoom, Option.bind_some, nIz, nAz, nRz, nEz, nDz, nI0z, nI1z, nA0z, nA1z, nE0z, nE1z, nR0z, nR1z, jcat2_r, jcat2_l, jlt_eq, ite01, ite01o, ite01p, ite00, ite10, xe1, xe2, xe3, xe4, xe5, xe6, if_true, if_false, f_X5_size, Int.reduceLE, Int.reduceLT, hz, h1, h2, h3, and_self, e1, D]
        exact cQ_val2 (fun c a b => f1 c a (by omega))
      · simp only [xIsIn, cHas, cRoom, Option.bind_some, nIz, nAz, nRz, nEz, nDz, nI0z, nI1z, nA0z, nA1z, nE0z, nE1z, nR0z, nR1z, jcat2_r, jcat2_l, jlt_eq, ite01, ite01o, ite01p, ite00, ite10, xe1, xe2, xe3, xe4, xe5, xe6, if_true, if_false, f_X5_size, Int.reduceLE, Int.reduceLT, hz, h1, h2, h3, and_self]
        exact cQ_thr (by decide)
    · simp only [xIsIn, cHas, cRoom, Option.bind_some, nIz, nAz, nRz, nEz, nDz, nI0z, nI1z, nA0z, nA1z, nE0z, nE1z, nR0z, nR1z, jcat2_r, jcat2_l, jlt_eq, ite01, ite01o, ite01p, ite00, ite10, xe1, xe2, xe3, xe4, xe5, xe6, if_true, if_false, f_X5_size, Int.reduceLE, Int.reduceLT, hz, h1, h2, and_self, and_false]
      exact cQ_thr (by decide)
  · simp only [xIsIn, cHas, cRoom, Option.bind_some, nIz, nAz, nRz, nEz, nDz, nI0z, nI1z, nA0z, nA1z, nE0z, nE1z, nR0z, nR1z, jcat2_r, jcat2_l, jlt_eq, ite01, ite01o, ite01p, ite00, ite10, xe1, xe2, xe3, xe4, xe5, xe6, if_true, if_false, f_X5_size, Int.reduceLE, Int.reduceLT, hz, h1, false_and]
    exact cQ_thr (by decide)
theorem mq_below {m : jMu} (hA : kA m) (bay limit known : Int) : mQ (f_X10_below bay limit known m) m (kBelow (m 75) bay limit known) (sBelow (m 75) bay limit known) := by
  have hn := hA.1.n
  have hA' := kA_fM hA (fM.thr m 0)
  have e75 : jup m 74 0 0 75 = m 75 := jup_c (by decide)
  unfold f_X10_below f_X10_below_J16 kBelow
  by_cases h1 : 0 ≤ bay ∧ bay < m 75 0
  · by_cases h2 : 0 ≤ known ∧ known ≤ 199
    · by_cases h3 : 1 ≤ limit ∧ limit ≤ 500
      · obtain ⟨m', e1, f1, z1, d1⟩ := m_bare hA'.1 bay known (by rw [e75]; exact h1)
        have q75 : m' 75 = m 75 := (f1.1 75 (by decide) (by decide)).trans e75
        rw [e75] at d1
        have D := m_below (m := m') (mm := m) (by rw [q75]; exact hA.1) (limit := limit) (by rw [q75]; exact h1) (by rw [q75]; exact d1)
        rw [q75] at D
        simp only [mIsIn, mDay, mHour, mMoment, Option.bind_some, ite01, ite01o, ite01p, ite00, ite10, jlt_eq, jup_s, le00, le10, le20, le30, if_true, if_false, Int.reduceLE, Int.reduceLT, mBay _ hn.1, h1, h2, h3, and_self, e1, D]
        exact ⟨_, m', rfl, (fM.thr m 0).tr f1, by rw [z1, jup_s], fun _ => rfl⟩
      · simp only [mIsIn, mDay, mHour, mMoment, Option.bind_some, ite01, ite01o, ite01p, ite00, ite10, jlt_eq, jup_s, le00, le10, le20, le30, if_true, if_false, Int.reduceLE, Int.reduceLT, mBay _ hn.1, h1, h2, h3, and_self]
        exact mQ_thr (by decide)
    · simp only [mIsIn, mDay, mHour, mMoment, Option.bind_some, ite01, ite01o, ite01p, ite00, ite10, jlt_eq, jup_s, le00, le10, le20, le30, if_true, if_false, Int.reduceLE, Int.reduceLT, mBay _ hn.1, h1, h2, and_self, and_false]
      exact mQ_thr (by decide)
  · simp only [mIsIn, mDay, mHour, mMoment, Option.bind_some, ite01, ite01o, ite01p, ite00, ite10, jlt_eq, jup_s, le00, le10, le20, le30, if_true, if_false, Int.reduceLE, Int.reduceLT, mBay _ hn.1, h1, false_and]
    exact mQ_thr (by decide)
