/-! LEVEL 2: jobs of a gang, the worst gang, the nearest batch, bolts -/
def sPelF (M : Int → Int) (g known all : Int) (j s : Int) : Int := if M (376 + 8 * j + 1) = g ∧ M (376 + 8 * j + 5) ≤ known ∧ (all = 0 → M (376 + 8 * j + 6) ≠ -1 ∧ M (376 + 8 * j + 6) ≤ known) then s + 1 else s
def sPel (M : Int → Int) (g known all : Int) : Int := itn (sPelF M g known all) (M 8).toNat 0 0
theorem sPel_st {M : Int → Int} {g known all i s : Int} (hP : 0 ≤ s ∧ s ≤ i) : 0 ≤ sPelF M g known all i s ∧ sPelF M g known all i s ≤ i + 1 := by
  unfold sPelF
  split <;> omega
theorem c_pel {m : jMu} {M : Int → Int} (C : kC m 0 M) {g known p all : Int} (hp : p = 1 ∧ all = 0 ∨ p = 0 ∧ all ≠ 0) : f_X0_jobsOf g known p m = some (sPel M g known all) := by
  have hn := C.n
  have hz := C.z
  unfold f_X0_jobsOf sPel
  refine (itn_loop (L := fun q i s => f_X0_jobsOf_L15 q g known p s i m) (sPelF M g known all) (fun s => s) (fun i s => 0 ≤ s ∧ s ≤ i) (lo := 0) (n := M 8) ?_ ?_ (M 8).toNat jFU 0 _ (by omega) (by omega) (by unfold jFU; omega) (by omega)).1
  · intro q i s h0 h1 hP
    refine ⟨?_, sPel_st hP⟩
    show f_X0_jobsOf_L15 (q + 1) g known p s i m = _
    rw [f_X0_jobsOf_L15]
    unfold sPelF
    simp (disch := omega) only [xIsIn, cHas, cRoom, Option.bind_some, nIz, nAz, nRz, nEz, nDz, nI0z, nI1z, nA0z, nA1z, nE0z, nE1z, nR0z, nR1z, jcat2_r, jcat2_l, jlt_eq, ite01, ite01o, ite01p, ite00, ite10, xe1, xe2, xe3, xe4, xe5, xe6, if_true, if_false, f_X5_size, Int.reduceLE, Int.reduceLT, hz, if_neg, cg_job C, cKnown C h0 h1, cPeeled C h0 h1, Int.add_zero, jW_of]
    repeat' split
    all_goals first | rfl | omega
  · intro q s _
    show f_X0_jobsOf_L15 (q + 1) g known p s (M 8) m = _
    rw [f_X0_jobsOf_L15]
    simp (disch := omega) only [xIsIn, cHas, cRoom, Option.bind_some, nIz, nAz, nRz, nEz, nDz, nI0z, nI1z, nA0z, nA1z, nE0z, nE1z, nR0z, nR1z, jcat2_r, jcat2_l, jlt_eq, ite01, ite01o, ite01p, ite00, ite10, xe1, xe2, xe3, xe4, xe5, xe6, if_true, if_false, f_X5_size, Int.reduceLE, Int.reduceLT, hz, if_pos]
theorem m_pel {m : jMu} (C : kC m 0 (m 75)) {g known all : Int} : f_X10_peelsOf g known all m = some (sPel (m 75) g known all) := by
  have hn := C.n
  unfold f_X10_peelsOf sPel
  refine (itn_loop (L := fun q i s => f_X10_peelsOf_L6 q g known all s i m) (sPelF (m 75) g known all) (fun s => s) (fun i s => 0 ≤ s ∧ s ≤ i) (lo := 0) (n := m 75 8) ?_ ?_ (m 75 8).toNat jFU 0 _ (by omega) (by omega) (by unfold jFU; omega) (by omega)).1
  · intro q i s h0 h1 hP
    refine ⟨?_, sPel_st hP⟩
    show f_X10_peelsOf_L6 (q + 1) g known all s i m = _
    rw [f_X10_peelsOf_L6]
    unfold sPelF
    simp (disch := omega) only [mIsIn, mDay, mHour, mMoment, Option.bind_some, ite01, ite01o, ite01p, ite00, ite10, jlt_eq, jup_s, le00, le10, le20, le30, if_true, if_false, Int.reduceLE, Int.reduceLT, if_neg, mOfJob, mKnown, Int.add_zero, jW_of]
    repeat' split
    all_goals first | rfl | omega
  · intro q s _
    show f_X10_peelsOf_L6 (q + 1) g known all s (m 75 8) m = _
    rw [f_X10_peelsOf_L6]
    simp (disch := omega) only [mIsIn, mDay, mHour, mMoment, Option.bind_some, ite01, ite01o, ite01p, ite00, ite10, jlt_eq, jup_s, le00, le10, le20, le30, if_true, if_false, Int.reduceLE, Int.reduceLT, if_pos]
def kPel (M : Int → Int) (g known : Int) : Int := if (0 ≤ g ∧ g < M 6) ∧ 0 ≤ known ∧ known ≤ 199 then 0 else 1
theorem cq_peels {m : jMu} (hA : kA m) (g known all : Int) : cQ (f_L_peels g known all m) m (kPel (m 75) g known) (sPel (m 75) g known all) := by
  have hz := hA.1.z
  unfold f_L_peels f_X9_peels f_X9_peels_J29 kPel
  by_cases h1 : 0 ≤ g ∧ g < m 75 6
  · by_cases h2 : 0 ≤ known ∧ known ≤ 199
    · by_cases h3 : all = 0
      · simp (disch := omega) only [xIsIn, cHas, cRoom, Option.bind_some, nIz, nAz, nRz, nEz, nDz, nI0z, nI1z, nA0z, nA1z, nE0z, nE1z, nR0z, nR1z, jcat2_r, jcat2_l, jlt_eq, ite01, ite01o, ite01p, ite00, ite10, xe1, xe2, xe3, xe4, xe5, xe6, if_true, if_false, f_X5_size, Int.reduceLE, Int.reduceLT, hz, if_pos, if_neg, c_pel hA.1 (all := all) (Or.inl ⟨rfl, h3⟩)]
        exact cQ_val2 (fC.rf m)
      · simp (disch := omega) only [xIsIn, cHas, cRoom, Option.bind_some, nIz, nAz, nRz, nEz, nDz, nI0z, nI1z, nA0z, nA1z, nE0z, nE1z, nR0z, nR1z, jcat2_r, jcat2_l, jlt_eq, ite01, ite01o, ite01p, ite00, ite10, xe1, xe2, xe3, xe4, xe5, xe6, if_true, if_false, f_X5_size, Int.reduceLE, Int.reduceLT, hz, if_pos, if_neg, c_pel hA.1 (all := all) (Or.inr ⟨rfl, h3⟩)]
        exact cQ_val2 (fC.rf m)
    · simp (disch := omega) only [xIsIn, cHas, cRoom, Option.bind_some, nIz, nAz, nRz, nEz, nDz, nI0z, nI1z, nA0z, nA1z, nE0z, nE1z, nR0z, nR1z, jcat2_r, jcat2_l, jlt_eq, ite01, ite01o, ite01p, ite00, ite10, xe1, xe2, xe3, xe4, xe5, xe6, if_true, if_false, f_X5_size, Int.reduceLE, Int.reduceLT, hz, if_pos, if_neg]
      exact cQ_thr (by decide)
  · simp (disch := omega) only [xIsIn, cHas, cRoom, Option.bind_some, nIz, nAz, nRz, nEz, nDz, nI0z, nI1z, nA0z, nA1z, nE0z, nE1z, nR0z, nR1z, jcat2_r, jcat2_l, jlt_eq, ite01, ite01o, ite01p, ite00, ite10, xe1, xe2, xe3, xe4, xe5, xe6, if_true, if_false, f_X5_size, Int.reduceLE, Int.reduceLT, hz, if_pos, if_neg]
    exact cQ_thr (by decide)
theorem mq_peels {m : jMu} (hA : kA m) (g known all : Int) : mQ (f_X10_peels g known all m) m (kPel (m 75) g known) (sPel (m 75) g known all) := by
  have hn := hA.1.n
  have hA' := kA_fM hA (fM.thr m 0)
  have e := fun g known => m_pel hA'.1 (g := g) (known := known) (all := all)
  rw [jup_c (by decide)] at e
  unfold f_X10_peels kPel
  by_cases h1 : 0 ≤ g ∧ g < m 75 6
  · by_cases h2 : 0 ≤ known ∧ known ≤ 199
    · simp (disch := omega) only [mIsIn, mDay, mHour, mMoment, Option.bind_some, ite01, ite01o, ite01p, ite00, ite10, jlt_eq, jup_s, le00, le10, le20, le30, if_true, if_false, Int.reduceLE, Int.reduceLT, mGang _ hn.2.2.2.2.2.2.1, if_pos, if_neg, e]
      exact mQ_val
    · simp (disch := omega) only [mIsIn, mDay, mHour, mMoment, Option.bind_some, ite01, ite01o, ite01p, ite00, ite10, jlt_eq, jup_s, le00, le10, le20, le30, if_true, if_false, Int.reduceLE, Int.reduceLT, mGang _ hn.2.2.2.2.2.2.1, if_pos, if_neg]
      exact mQ_thr (by decide)
  · simp (disch := omega) only [mIsIn, mDay, mHour, mMoment, Option.bind_some, ite01, ite01o, ite01p, ite00, ite10, jlt_eq, jup_s, le00, le10, le20, le30, if_true, if_false, Int.reduceLE, Int.reduceLT, mGang _ hn.2.2.2.2.2.2.1, if_pos, if_neg]
    exact mQ_thr (by decide)
/-! the worst gang -/
theorem sPel_b {m : jMu} {M : Int → Int} (C : kC m 0 M) (g known : Int) : 0 ≤ sPel M g known 0 ∧ sPel M g known 0 ≤ sPel M g known 1 ∧ sPel M g known 1 ≤ 40 := by
  have hn := C.n
  have a := itn_rel (f := sPelF M g known 0) (g := sPelF M g known 1) (fun i s t => 0 ≤ s ∧ s ≤ t ∧ t ≤ i) (lo := 0) (n := M 8) (fun i s t h0 h1 hP => by
    unfold sPelF
    repeat' split
    all_goals omega) (M 8).toNat 0 0 0 (by omega) (by omega) (by omega)
  unfold sPel
  omega
def sWorF (M : Int → Int) (known : Int) (g : Int) (s : Int × Int × Int) : Int × Int × Int := if s.2.1 * sPel M g known 1 < sPel M g known 0 * s.2.2 then (g, sPel M g known 0, sPel M g known 1) else s
def sWor (M : Int → Int) (known : Int) : Int := (itn (sWorF M known) (M 6).toNat 0 (-1, 0, 1)).1
theorem c_wor {m : jMu} {M : Int → Int} (C : kC m 0 M) {known : Int} : f_X0_worstGang known m = some (sWor M known) := by
  have hn := C.n
  have hz := C.z
  unfold f_X0_worstGang sWor
  refine (itn_loop (L := fun q i (s : Int × Int × Int) => f_X0_worstGang_L10 q known s.1 s.2.1 s.2.2 i m) (sWorF M known) (fun s => s.1) (fun i s => (0 ≤ s.2.1 ∧ s.2.1 ≤ 40) ∧ 0 ≤ s.2.2 ∧ s.2.2 ≤ 40) (lo := 0) (n := M 6) ?_ ?_ (M 6).toNat jFU 0 (-1, 0, 1) (by omega) (by omega) (by unfold jFU; omega) (by decide)).1
  · intro q i s h0 h1 hP
    have b := sPel_b C i known
    have p1 := mulb (a := s.2.1) (b := sPel M i known 1) (A := 40) (B := 40) (by omega) (by omega) (by omega) (by omega)
    have p2 := mulb (a := sPel M i known 0) (b := s.2.2) (A := 40) (B := 40) (by omega) (by omega) (by omega) (by omega)
    constructor
    · show f_X0_worstGang_L10 (q + 1) known s.1 s.2.1 s.2.2 i m = _
      rw [f_X0_worstGang_L10]
      unfold sWorF
      simp (disch := omega) only [xIsIn, cHas, cRoom, Option.bind_some, nIz, nAz, nRz, nEz, nDz, nI0z, nI1z, nA0z, nA1z, nE0z, nE1z, nR0z, nR1z, jcat2_r, jcat2_l, jlt_eq, ite01, ite01o, ite01p, ite00, ite10, xe1, xe2, xe3, xe4, xe5, xe6, if_true, if_false, f_X5_size, Int.reduceLE, Int.reduceLT, hz, if_neg, c_pel C (all := 0) (Or.inl ⟨rfl, rfl⟩), c_pel C (all := 1) (Or.inr ⟨rfl, by decide⟩), jW_of]
      repeat' split
      all_goals first | rfl | omega
    · unfold sWorF
      split
      · exact ⟨⟨b.1, Int.le_trans b.2.1 b.2.2⟩, Int.le_trans b.1 b.2.1, b.2.2⟩
      · exact hP
  · intro q s _
    show f_X0_worstGang_L10 (q + 1) known s.1 s.2.1 s.2.2 (M 6) m = _
    rw [f_X0_worstGang_L10]
    simp (disch := omega) only [xIsIn, cHas, cRoom, Option.bind_some, nIz, nAz, nRz, nEz, nDz, nI0z, nI1z, nA0z, nA1z, nE0z, nE1z, nR0z, nR1z, jcat2_r, jcat2_l, jlt_eq, ite01, ite01o, ite01p, ite00, ite10, xe1, xe2, xe3, xe4, xe5, xe6, if_true, if_false, f_X5_size, Int.reduceLE, Int.reduceLT, hz, if_pos]
theorem m_wor {m : jMu} (C : kC m 0 (m 75)) {known : Int} : f_X10_worst_L35 jFU known (-1) 0 1 0 m = some (sWor (m 75) known, m) := by
  have hn := C.n
  unfold sWor
  refine (itn_loop (L := fun q i (s : Int × Int × Int) => f_X10_worst_L35 q known s.1 s.2.1 s.2.2 i m) (sWorF (m 75) known) (fun s => (s.1, m)) (fun i s => (0 ≤ s.2.1 ∧ s.2.1 ≤ 40) ∧ 0 ≤ s.2.2 ∧ s.2.2 ≤ 40) (lo := 0) (n := m 75 6) ?_ ?_ (m 75 6).toNat jFU 0 (-1, 0, 1) (by omega) (by omega) (by unfold jFU; omega) (by decide)).1
  · intro q i s h0 h1 hP
    have b := sPel_b C i known
    have p1 := mulb (a := s.2.1) (b := sPel (m 75) i known 1) (A := 40) (B := 40) (by omega) (by omega) (by omega) (by omega)
    have p2 := mulb (a := sPel (m 75) i known 0) (b := s.2.2) (A := 40) (B := 40) (by omega) (by omega) (by omega) (by omega)
    constructor
    · show f_X10_worst_L35 (q + 1) known s.1 s.2.1 s.2.2 i m = _
      rw [f_X10_worst_L35]
      unfold sWorF
      simp (disch := omega) only [mIsIn, mDay, mHour, mMoment, Option.bind_some, ite01, ite01o, ite01p, ite00, ite10, jlt_eq, jup_s, le00, le10, le20, le30, if_true, if_false, Int.reduceLE, Int.reduceLT, if_neg, m_pel C, jW_of]
      by_cases e : sPel (m 75) i known 1 = 0
      · have e0 : sPel (m 75) i known 0 = 0 := by omega
        rw [if_pos e, e, e0, Int.mul_zero, Int.zero_mul, if_neg (by decide)]
      · rw [if_neg e]
        repeat' split
        all_goals first | rfl | omega
    · unfold sWorF
      split
      · exact ⟨⟨b.1, Int.le_trans b.2.1 b.2.2⟩, Int.le_trans b.1 b.2.1, b.2.2⟩
      · exact hP
  · intro q s _
    show f_X10_worst_L35 (q + 1) known s.1 s.2.1 s.2.2 (m 75 6) m = _
    rw [f_X10_worst_L35]
    simp (disch := omega) only [mIsIn, mDay, mHour, mMoment, Option.bind_some, ite01, ite01o, ite01p, ite00, ite10, jlt_eq, jup_s, le00, le10, le20, le30, if_true, if_false, Int.reduceLE, Int.reduceLT, if_pos]
def kWor (known : Int) : Int := if 0 ≤ known ∧ known ≤ 199 then 0 else 1
theorem cq_worst {m : jMu} (hA : kA m) (known : Int) : cQ (f_L_worst known m) m (kWor known) (sWor (m 75) known) := by
  unfold f_L_worst f_X9_worst kWor
  by_cases h2 : 0 ≤ known ∧ known ≤ 199
  · simp (disch := omega) only [xIsIn, cHas, cRoom, Option.bind_some, nIz, nAz, nRz, nEz, nDz, nI0z, nI1z, nA0z, nA1z, nE0z, nE1z, nR0z, nR1z, jcat2_r, jcat2_l, jlt_eq, ite01, ite01o, ite01p, ite00, ite10, xe1, xe2, xe3, xe4, xe5, xe6, if_true, if_false, f_X5_size, Int.reduceLE, Int.reduceLT, if_pos, if_neg, c_wor hA.1]
    exact cQ_val2 (fC.rf m)
  · simp (disch := omega) only [xIsIn, cHas, cRoom, Option.bind_some, nIz, nAz, nRz, nEz, nDz, nI0z, nI1z, nA0z, nA1z, nE0z, nE1z, nR0z, nR1z, jcat2_r, jcat2_l, jlt_eq, ite01, ite01o, ite01p, ite00, ite10, xe1, xe2, xe3, xe4, xe5, xe6, if_true, if_false, f_X5_size, Int.reduceLE, Int.reduceLT, if_pos, if_neg]
    exact cQ_thr (by decide)
theorem mq_worst {m : jMu} (hA : kA m) (known : Int) : mQ (f_X10_worst known m) m (kWor known) (sWor (m 75) known) := by
  have hA' := kA_fM hA (fM.thr m 0)
  have e := fun known => m_wor hA'.1 (known := known)
  rw [jup_c (by decide)] at e
  unfold f_X10_worst f_X10_worst_J13 kWor
  by_cases h2 : 0 ≤ known ∧ known ≤ 199
  · simp (disch := omega) only [mIsIn, mDay, mHour, mMoment, Option.bind_some, ite01, ite01o, ite01p, ite00, ite10, jlt_eq, jup_s, le00, le10, le20, le30, if_true, if_false, Int.reduceLE, Int.reduceLT, if_pos, if_neg, e]
    exact mQ_val
  · simp (disch := omega) only [mIsIn, mDay, mHour, mMoment, Option.bind_some, ite01, ite01o, ite01p, ite00, ite10, jlt_eq, jup_s, le00, le10, le20, le30, if_true, if_false, Int.reduceLE, Int.reduceLT, if_pos, if_neg]
    exact mQ_thr (by decide)
/-! the nearest batch -/
def sFar (x c : Int) : Int := if x ≤ c then c - x else x - c
def sMatF (M : Int → Int) (colour known : Int) (b : Int) (s : Int × Int) : Int × Int := if (M (352 + 4 * b + 3) = -1 ∨ known < M (352 + 4 * b + 3)) ∧ sFar (M (352 + 4 * b + 2)) colour < s.2 ∧ 0 < sLeft M b then (b, sFar (M (352 + 4 * b + 2)) colour) else s
def sMat (M : Int → Int) (colour known : Int) : Int := (itn (sMatF M colour known) (M 7).toNat 0 (-1, 1000000000)).1
theorem c_mat {m : jMu} {M : Int → Int} (C : kC m 0 M) {colour known : Int} (hc : 0 ≤ colour ∧ colour ≤ 255) : f_X0_nearestBatch colour known m = some (sMat M colour known) := by
  have hn := C.n
  have hz := C.z
  unfold f_X0_nearestBatch sMat
  refine (itn_loop (L := fun q i (s : Int × Int) => f_X0_nearestBatch_L18 q colour known s.1 s.2 i m) (sMatF M colour known) (fun s => s.1) (fun i s => True) (lo := 0) (n := M 7) ?_ ?_ (M 7).toNat jFU 0 (-1, 1000000000) (by omega) (by omega) (by unfold jFU; omega) trivial).1
  · intro q i s h0 h1 hP
    refine ⟨?_, trivial⟩
    have hB := (C.1 6 (by decide)).2 i h0 h1
    have e : (if 0 ≤ M (352 + 4 * i + 2) - colour then M (352 + 4 * i + 2) - colour else 0 - (M (352 + 4 * i + 2) - colour)) = sFar (M (352 + 4 * i + 2)) colour := by
      unfold sFar
      repeat' split
      all_goals omega
    show f_X0_nearestBatch_L18 (q + 1) colour known s.1 s.2 i m = _
    rw [f_X0_nearestBatch_L18]
    unfold sMatF
    simp (disch := omega) only [xIsIn, cHas, cRoom, Option.bind_some, nIz, nAz, nRz, nEz, nDz, nI0z, nI1z, nA0z, nA1z, nE0z, nE1z, nR0z, nR1z, jcat2_r, jcat2_l, jlt_eq, ite01, ite01o, ite01p, ite00, ite10, xe1, xe2, xe3, xe4, xe5, xe6, if_true, if_false, f_X5_size, Int.reduceLE, Int.reduceLT, hz, if_neg, cg_bat C, c_left C ⟨h0, h1⟩, jW_of, e]
    repeat' split
    all_goals first | rfl | omega
  · intro q s _
    show f_X0_nearestBatch_L18 (q + 1) colour known s.1 s.2 (M 7) m = _
    rw [f_X0_nearestBatch_L18]
    simp (disch := omega) only [xIsIn, cHas, cRoom, Option.bind_some, nIz, nAz, nRz, nEz, nDz, nI0z, nI1z, nA0z, nA1z, nE0z, nE1z, nR0z, nR1z, jcat2_r, jcat2_l, jlt_eq, ite01, ite01o, ite01p, ite00, ite10, xe1, xe2, xe3, xe4, xe5, xe6, if_true, if_false, f_X5_size, Int.reduceLE, Int.reduceLT, hz, if_pos]
theorem m_mat {m : jMu} (C : kC m 0 (m 75)) {colour known : Int} (hc : 0 ≤ colour ∧ colour ≤ 255) : f_X10_match_L48 jFU colour known (-1) 0 0 m = some (sMat (m 75) colour known, m) := by
  have hn := C.n
  unfold sMat
  refine (itn_loop (L := fun q i (s : Int × Int) => f_X10_match_L48 q colour known s.1 (if s.1 = -1 then 0 else s.2) i m) (sMatF (m 75) colour known) (fun s => (s.1, m)) (fun i s => (s.1 = -1 ∧ s.2 = 1000000000) ∨ 0 ≤ s.1) (lo := 0) (n := m 75 7) ?_ ?_ (m 75 7).toNat jFU 0 (-1, 1000000000) (by omega) (by omega) (by unfold jFU; omega) (Or.inl ⟨rfl, rfl⟩)).1
  · intro q i s h0 h1 hP
    have hB := (C.1 6 (by decide)).2 i h0 h1
    constructor
    · show f_X10_match_L48 (q + 1) colour known s.1 (if s.1 = -1 then 0 else s.2) i m = _
      rw [f_X10_match_L48]
      unfold sMatF sFar
      simp (disch := omega) only [mIsIn, mDay, mHour, mMoment, Option.bind_some, ite01, ite01o, ite01p, ite00, ite10, jlt_eq, jup_s, le00, le10, le20, le30, if_true, if_false, Int.reduceLE, Int.reduceLT, if_neg, if_pos, m_left C ⟨h0, h1⟩, jW_of]
      rcases hP with hP | hP
      · simp only [if_pos hP.1, hP.2]
        by_cases g1 : m 75 (352 + 4 * i + 3) = -1
        · by_cases g2 : 0 < sLeft (m 75) i
          · by_cases g3 : m 75 (352 + 4 * i + 2) ≤ colour <;> simp (disch := omega) only [if_pos, if_neg]
          · by_cases g3 : m 75 (352 + 4 * i + 2) ≤ colour <;> simp (disch := omega) only [if_pos, if_neg]
        · by_cases g4 : m 75 (352 + 4 * i + 3) ≤ known
          · by_cases g3 : m 75 (352 + 4 * i + 2) ≤ colour <;> simp (disch := omega) only [if_pos, if_neg]
          · by_cases g2 : 0 < sLeft (m 75) i
            · by_cases g3 : m 75 (352 + 4 * i + 2) ≤ colour <;> simp (disch := omega) only [if_pos, if_neg]
            · by_cases g3 : m 75 (352 + 4 * i + 2) ≤ colour <;> simp (disch := omega) only [if_pos, if_neg]
      · rw [if_neg (show ¬ s.1 = -1 by omega)]
        by_cases g1 : m 75 (352 + 4 * i + 3) = -1
        · by_cases g2 : 0 < sLeft (m 75) i
          · by_cases g3 : m 75 (352 + 4 * i + 2) ≤ colour
            · by_cases g5 : colour - m 75 (352 + 4 * i + 2) < s.2 <;> simp (disch := omega) only [if_pos, if_neg]
            · by_cases g5 : m 75 (352 + 4 * i + 2) - colour < s.2 <;> simp (disch := omega) only [if_pos, if_neg]
          · by_cases g3 : m 75 (352 + 4 * i + 2) ≤ colour <;> simp (disch := omega) only [if_pos, if_neg]
        · by_cases g4 : m 75 (352 + 4 * i + 3) ≤ known
          · by_cases g3 : m 75 (352 + 4 * i + 2) ≤ colour <;> simp (disch := omega) only [if_pos, if_neg]
          · by_cases g2 : 0 < sLeft (m 75) i
            · by_cases g3 : m 75 (352 + 4 * i + 2) ≤ colour
              · by_cases g5 : colour - m 75 (352 + 4 * i + 2) < s.2 <;> simp (disch := omega) only [if_pos, if_neg]
              · by_cases g5 : m 75 (352 + 4 * i + 2) - colour < s.2 <;> simp (disch := omega) only [if_pos, if_neg]
            · by_cases g3 : m 75 (352 + 4 * i + 2) ≤ colour <;> simp (disch := omega) only [if_pos, if_neg]
    · unfold sMatF
      split
      · exact Or.inr h0
      · exact hP
  · intro q s _
    show f_X10_match_L48 (q + 1) colour known s.1 _ (m 75 7) m = _
    rw [f_X10_match_L48]
    simp (disch := omega) only [mIsIn, mDay, mHour, mMoment, Option.bind_some, ite01, ite01o, ite01p, ite00, ite10, jlt_eq, jup_s, le00, le10, le20, le30, if_true, if_false, Int.reduceLE, Int.reduceLT, if_pos]
def kMat (colour known : Int) : Int := if 0 ≤ known ∧ known ≤ 199 then (if 0 ≤ colour ∧ colour ≤ 255 then 0 else 2) else 1
theorem cq_match {m : jMu} (hA : kA m) (colour known : Int) : cQ (f_L_match colour known m) m (kMat colour known) (sMat (m 75) colour known) := by
  unfold f_L_match f_X9_match kMat
  by_cases h2 : 0 ≤ known ∧ known ≤ 199
  · by_cases h3 : 0 ≤ colour ∧ colour ≤ 255
    · simp (disch := omega) only [xIsIn, cHas, cRoom, Option.bind_some, nIz, nAz, nRz, nEz, nDz, nI0z, nI1z, nA0z, nA1z, nE0z, nE1z, nR0z, nR1z, jcat2_r, jcat2_l, jlt_eq, ite01, ite01o, ite01p, ite00, ite10, xe1, xe2, xe3, xe4, xe5, xe6, if_true, if_false, f_X5_size, Int.reduceLE, Int.reduceLT, if_pos, if_neg, c_mat hA.1 h3]
      exact cQ_val2 (fC.rf m)
    · simp (disch := omega) only [xIsIn, cHas, cRoom, Option.bind_some, nIz, nAz, nRz, nEz, nDz, nI0z, nI1z, nA0z, nA1z, nE0z, nE1z, nR0z, nR1z, jcat2_r, jcat2_l, jlt_eq, ite01, ite01o, ite01p, ite00, ite10, xe1, xe2, xe3, xe4, xe5, xe6, if_true, if_false, f_X5_size, Int.reduceLE, Int.reduceLT, if_pos, if_neg]
      exact cQ_thr (by decide)
  · simp (disch := omega) only [xIsIn, cHas, cRoom, Option.bind_some, nIz, nAz, nRz, nEz, nDz, nI0z, nI1z, nA0z, nA1z, nE0z, nE1z, nR0z, nR1z, jcat2_r, jcat2_l, jlt_eq, ite01, ite01o, ite01p, ite00, ite10, xe1, xe2, xe3, xe4, xe5, xe6, if_true, if_false, f_X5_size, Int.reduceLE, Int.reduceLT, if_pos, if_neg]
    exact cQ_thr (by decide)
theorem mq_match {m : jMu} (hA : kA m) (colour known : Int) : mQ (f_X10_match colour known m) m (kMat colour known) (sMat (m 75) colour known) := by
  have hA' := kA_fM hA (fM.thr m 0)
  unfold f_X10_match kMat
  by_cases h2 : 0 ≤ known ∧ known ≤ 199
  · by_cases h3 : 0 ≤ colour ∧ colour ≤ 255
    · have e := m_mat hA'.1 (known := known) h3
      rw [jup_c (by decide)] at e
      simp (disch := omega) only [mIsIn, mDay, mHour, mMoment, Option.bind_some, ite01, ite01o, ite01p, ite00, ite10, jlt_eq, jup_s, le00, le10, le20, le30, if_true, if_false, Int.reduceLE, Int.reduceLT, if_pos, if_neg, e]
      exact mQ_val
    · simp (disch := omega) only [mIsIn, mDay, mHour, mMoment, Option.bind_some, ite01, ite01o, ite01p, ite00, ite10, jlt_eq, jup_s, le00, le10, le20, le30, if_true, if_false, Int.reduceLE, Int.reduceLT, if_pos, if_neg]
      exact mQ_thr (by decide)
  · simp (disch := omega) only [mIsIn, mDay, mHour, mMoment, Option.bind_some, ite01, ite01o, ite01p, ite00, ite10, jlt_eq, jup_s, le00, le10, le20, le30, if_true, if_false, Int.reduceLE, Int.reduceLT, if_pos, if_neg]
    exact mQ_thr (by decide)
/-! bolts -/
def sFinF (M : Int → Int) (bay a b : Int) (j s : Int) : Int := if M (816 + 2 * j) = bay ∧ a ≤ M (816 + 2 * j + 1) ∧ M (816 + 2 * j + 1) ≤ b then s + 1 else s
def sFin (M : Int → Int) (bay a b : Int) : Int := itn (sFinF M bay a b) (M 10).toNat 0 0
theorem sFin_st {M : Int → Int} {bay a b i s : Int} (hP : 0 ≤ s ∧ s ≤ i) : 0 ≤ sFinF M bay a b i s ∧ sFinF M bay a b i s ≤ i + 1 := by
  unfold sFinF
  split <;> omega
theorem c_fin {m : jMu} {M : Int → Int} (C : kC m 0 M) {bay a b : Int} : f_X0_boltsFound bay a b m = some (sFin M bay a b) := by
  have hn := C.n
  have hz := C.z
  unfold f_X0_boltsFound sFin
  refine (itn_loop (L := fun q i s => f_X0_boltsFound_L15 q bay a b s i m) (sFinF M bay a b) (fun s => s) (fun i s => 0 ≤ s ∧ s ≤ i) (lo := 0) (n := M 10) ?_ ?_ (M 10).toNat jFU 0 _ (by omega) (by omega) (by unfold jFU; omega) (by omega)).1
  · intro q i s h0 h1 hP
    refine ⟨?_, sFin_st hP⟩
    show f_X0_boltsFound_L15 (q + 1) bay a b s i m = _
    rw [f_X0_boltsFound_L15]
    unfold sFinF
    simp (disch := omega) only [xIsIn, cHas, cRoom, Option.bind_some, nIz, nAz, nRz, nEz, nDz, nI0z, nI1z, nA0z, nA1z, nE0z, nE1z, nR0z, nR1z, jcat2_r, jcat2_l, jlt_eq, ite01, ite01o, ite01p, ite00, ite10, xe1, xe2, xe3, xe4, xe5, xe6, if_true, if_false, f_X5_size, Int.reduceLE, Int.reduceLT, hz, if_neg, cg_bolt C, Int.add_zero, jW_of]
    repeat' split
    all_goals first | rfl | omega
  · intro q s _
    show f_X0_boltsFound_L15 (q + 1) bay a b s (M 10) m = _
    rw [f_X0_boltsFound_L15]
    simp (disch := omega) only [xIsIn, cHas, cRoom, Option.bind_some, nIz, nAz, nRz, nEz, nDz, nI0z, nI1z, nA0z, nA1z, nE0z, nE1z, nR0z, nR1z, jcat2_r, jcat2_l, jlt_eq, ite01, ite01o, ite01p, ite00, ite10, xe1, xe2, xe3, xe4, xe5, xe6, if_true, if_false, f_X5_size, Int.reduceLE, Int.reduceLT, hz, if_pos]
theorem m_fin {m : jMu} (C : kC m 0 (m 75)) {bay a b : Int} : f_X10_found bay a b m = some (sFin (m 75) bay a b) := by
  have hn := C.n
  unfold f_X10_found sFin
  refine (itn_loop (L := fun q i s => f_X10_found_L6 q bay a b s i m) (sFinF (m 75) bay a b) (fun s => s) (fun i s => 0 ≤ s ∧ s ≤ i) (lo := 0) (n := m 75 10) ?_ ?_ (m 75 10).toNat jFU 0 _ (by omega) (by omega) (by unfold jFU; omega) (by omega)).1
  · intro q i s h0 h1 hP
    refine ⟨?_, sFin_st hP⟩
    show f_X10_found_L6 (q + 1) bay a b s i m = _
    rw [f_X10_found_L6]
    unfold sFinF
    simp (disch := omega) only [mIsIn, mDay, mHour, mMoment, Option.bind_some, ite01, ite01o, ite01p, ite00, ite10, jlt_eq, jup_s, le00, le10, le20, le30, if_true, if_false, Int.reduceLE, Int.reduceLT, if_neg, if_pos, Int.add_zero, jW_of]
    repeat' split
    all_goals first | rfl | omega
  · intro q s _
    show f_X10_found_L6 (q + 1) bay a b s (m 75 10) m = _
    rw [f_X10_found_L6]
    simp (disch := omega) only [mIsIn, mDay, mHour, mMoment, Option.bind_some, ite01, ite01o, ite01p, ite00, ite10, jlt_eq, jup_s, le00, le10, le20, le30, if_true, if_false, Int.reduceLE, Int.reduceLT, if_pos]
def kFin (M : Int → Int) (bay a b : Int) : Int := if (0 ≤ bay ∧ bay < M 0) ∧ (0 ≤ a ∧ a ≤ 199) ∧ (0 ≤ b ∧ b ≤ 199) then (if a ≤ b then 0 else 2) else 1
theorem cq_finds {m : jMu} (hA : kA m) (bay a b : Int) : cQ (f_L_finds bay a b m) m (kFin (m 75) bay a b) (sFin (m 75) bay a b) := by
  have hz := hA.1.z
  unfold f_L_finds f_X9_finds kFin
  by_cases h0 : 0 ≤ bay ∧ bay < m 75 0
  · by_cases h1 : (0 ≤ a ∧ a ≤ 199) ∧ (0 ≤ b ∧ b ≤ 199)
    · by_cases h2 : a ≤ b
      · simp (disch := omega) only [xIsIn, cHas, cRoom, Option.bind_some, nIz, nAz, nRz, nEz, nDz, nI0z, nI1z, nA0z, nA1z, nE0z, nE1z, nR0z, nR1z, jcat2_r, jcat2_l, jlt_eq, ite01, ite01o, ite01p, ite00, ite10, xe1, xe2, xe3, xe4, xe5, xe6, if_true, if_false, f_X5_size, Int.reduceLE, Int.reduceLT, hz, if_pos, if_neg, c_fin hA.1]
        exact cQ_val2 (fC.rf m)
      · simp (disch := omega) only [xIsIn, cHas, cRoom, Option.bind_some, nIz, nAz, nRz, nEz, nDz, nI0z, nI1z, nA0z, nA1z, nE0z, nE1z, nR0z, nR1z, jcat2_r, jcat2_l, jlt_eq, ite01, ite01o, ite01p, ite00, ite10, xe1, xe2, xe3, xe4, xe5, xe6, if_true, if_false, f_X5_size, Int.reduceLE, Int.reduceLT, hz, if_pos, if_neg]
        exact cQ_thr (by decide)
    · simp (disch := omega) only [xIsIn, cHas, cRoom, Option.bind_some, nIz, nAz, nRz, nEz, nDz, nI0z, nI1z, nA0z, nA1z, nE0z, nE1z, nR0z, nR1z, jcat2_r, jcat2_l, jlt_eq, ite01, ite01o, ite01p, ite00, ite10, xe1, xe2, xe3, xe4, xe5, xe6, if_true, if_false, f_X5_size, Int.reduceLE, Int.reduceLT, hz, if_pos, if_neg]
      exact cQ_thr (by decide)
  · simp (disch := omega) only [xIsIn, cHas, cRoom, Option.bind_some, nIz, nAz, nRz, nEz, nDz, nI0z, nI1z, nA0z, nA1z, nE0z, nE1z, nR0z, nR1z, jcat2_r, jcat2_l, jlt_eq, ite01, ite01o, ite01p, ite00, ite10, xe1, xe2, xe3, xe4, xe5, xe6, if_true, if_false, f_X5_size, Int.reduceLE, Int.reduceLT, hz, if_pos, if_neg]
    exact cQ_thr (by decide)
theorem mq_finds {m : jMu} (hA : kA m) (bay a b : Int) : mQ (f_X10_finds bay a b m) m (kFin (m 75) bay a b) (sFin (m 75) bay a b) := by
  have hn := hA.1.n
  have hA' := kA_fM hA (fM.thr m 0)
  have e := fun bay a => m_fin hA'.1 (bay := bay) (a := a) (b := b)
  rw [jup_c (by decide)] at e
  unfold f_X10_finds kFin
  by_cases h0 : 0 ≤ bay ∧ bay < m 75 0
  · by_cases h1 : 0 ≤ a ∧ a ≤ 199
    · by_cases h3 : 0 ≤ b ∧ b ≤ 199
      · by_cases h2 : a ≤ b
        · simp (disch := omega) only [mIsIn, mDay, mHour, mMoment, Option.bind_some, ite01, ite01o, ite01p, ite00, ite10, jlt_eq, jup_s, le00, le10, le20, le30, if_true, if_false, Int.reduceLE, Int.reduceLT, mBay _ hn.1, if_pos, if_neg, e]
          exact mQ_val
        · simp (disch := omega) only [mIsIn, mDay, mHour, mMoment, Option.bind_some, ite01, ite01o, ite01p, ite00, ite10, jlt_eq, jup_s, le00, le10, le20, le30, if_true, if_false, Int.reduceLE, Int.reduceLT, mBay _ hn.1, if_pos, if_neg]
          exact mQ_thr (by decide)
      · simp (disch := omega) only [mIsIn, mDay, mHour, mMoment, Option.bind_some, ite01, ite01o, ite01p, ite00, ite10, jlt_eq, jup_s, le00, le10, le20, le30, if_true, if_false, Int.reduceLE, Int.reduceLT, mBay _ hn.1, if_pos, if_neg]
        exact mQ_thr (by decide)
    · simp (disch := omega) only [mIsIn, mDay, mHour, mMoment, Option.bind_some, ite01, ite01o, ite01p, ite00, ite10, jlt_eq, jup_s, le00, le10, le20, le30, if_true, if_false, Int.reduceLE, Int.reduceLT, mBay _ hn.1, if_pos, if_neg]
      exact mQ_thr (by decide)
  · simp (disch := omega) only [mIsIn, mDay, mHour, mMoment, Option.bind_some, ite01, ite01o, ite01p, ite00, ite10, jlt_eq, jup_s, le00, le10, le20, le30, if_true, if_false, Int.reduceLE, Int.reduceLT, mBay _ hn.1, if_pos, if_neg]
    exact mQ_thr (by decide)
def sThkF (M : Int → Int) (b : Int) (s : Int × Int) : Int × Int := if s.1 < sFin M b 0 199 then (sFin M b 0 199, b) else s
def sThk (M : Int → Int) : Int := (itn (sThkF M) (M 0).toNat 0 (0, -1)).2
theorem c_thk {m : jMu} {M : Int → Int} (C : kC m 0 M) : f_X0_boltedMost m = some (sThk M) := by
  have hn := C.n
  have hz := C.z
  unfold f_X0_boltedMost sThk
  refine (itn_loop (L := fun q i (s : Int × Int) => f_X0_boltedMost_L6 q s.1 s.2 i m) (sThkF M) (fun s => s.2) (fun i s => True) (lo := 0) (n := M 0) ?_ ?_ (M 0).toNat jFU 0 (0, -1) (by omega) (by omega) (by unfold jFU; omega) trivial).1
  · intro q i s h0 h1 hP
    refine ⟨?_, trivial⟩
    show f_X0_boltedMost_L6 (q + 1) s.1 s.2 i m = _
    rw [f_X0_boltedMost_L6]
    unfold sThkF
    simp (disch := omega) only [xIsIn, cHas, cRoom, Option.bind_some, nIz, nAz, nRz, nEz, nDz, nI0z, nI1z, nA0z, nA1z, nE0z, nE1z, nR0z, nR1z, jcat2_r, jcat2_l, jlt_eq, ite01, ite01o, ite01p, ite00, ite10, xe1, xe2, xe3, xe4, xe5, xe6, if_true, if_false, f_X5_size, Int.reduceLE, Int.reduceLT, hz, if_neg, c_fin C, jW_of]
    repeat' split
    all_goals first | rfl | omega
  · intro q s _
    show f_X0_boltedMost_L6 (q + 1) s.1 s.2 (M 0) m = _
    rw [f_X0_boltedMost_L6]
    simp (disch := omega) only [xIsIn, cHas, cRoom, Option.bind_some, nIz, nAz, nRz, nEz, nDz, nI0z, nI1z, nA0z, nA1z, nE0z, nE1z, nR0z, nR1z, jcat2_r, jcat2_l, jlt_eq, ite01, ite01o, ite01p, ite00, ite10, xe1, xe2, xe3, xe4, xe5, xe6, if_true, if_false, f_X5_size, Int.reduceLE, Int.reduceLT, hz, if_pos]
theorem sFin_200 {m : jMu} {M : Int → Int} (C : kC m 0 M) (b : Int) : sFin M b 0 200 = sFin M b 0 199 := by
  have hn := C.n
  have a := itn_rel (f := sFinF M b 0 200) (g := sFinF M b 0 199) (fun i s t => s = t) (lo := 0) (n := M 10) (fun i s t h0 h1 hP => by
    have hB := (C.1 10 (by decide)).2 i h0 h1
    subst hP
    unfold sFinF
    repeat' split
    all_goals omega) (M 10).toNat 0 0 0 (by omega) (by omega) rfl
  exact a
theorem m_thk {m : jMu} (C : kC m 0 (m 75)) : f_X10_thick_L9 jFU (-1) 0 m = some (sThk (m 75), m) := by
  have hn := C.n
  unfold sThk
  refine (itn_loop (L := fun q i (s : Int × Int) => f_X10_thick_L9 q s.2 i m) (sThkF (m 75)) (fun s => (s.2, m)) (fun i s => (s.2 = -1 ∧ s.1 = 0) ∨ (0 ≤ s.2 ∧ s.1 = sFin (m 75) s.2 0 199)) (lo := 0) (n := m 75 0) ?_ ?_ (m 75 0).toNat jFU 0 (0, -1) (by omega) (by omega) (by unfold jFU; omega) (Or.inl ⟨rfl, rfl⟩)).1
  · intro q i s h0 h1 hP
    constructor
    · show f_X10_thick_L9 (q + 1) s.2 i m = _
      rw [f_X10_thick_L9]
      unfold sThkF
      simp (disch := omega) only [mIsIn, mDay, mHour, mMoment, Option.bind_some, ite01, ite01o, ite01p, ite00, ite10, jlt_eq, jup_s, le00, le10, le20, le30, if_true, if_false, Int.reduceLE, Int.reduceLT, if_neg, m_fin C, sFin_200 C, jW_of]
      repeat' split
      all_goals first | rfl | omega
    · unfold sThkF
      split
      · exact Or.inr ⟨h0, rfl⟩
      · exact hP
  · intro q s _
    show f_X10_thick_L9 (q + 1) s.2 (m 75 0) m = _
    rw [f_X10_thick_L9]
    simp (disch := omega) only [mIsIn, mDay, mHour, mMoment, Option.bind_some, ite01, ite01o, ite01p, ite00, ite10, jlt_eq, jup_s, le00, le10, le20, le30, if_true, if_false, Int.reduceLE, Int.reduceLT, if_pos]
theorem k_thick {m : jMu} (hA : kA m) : ∃ o, ((f_X9_thick m).bind fun r1 => (f_X10_thick m).bind fun r2 => (if r1 = r2.1 then some r2.2 else none)) = some o ∧ kA o := by
  have hA' := kA_fM hA (fM.thr m 0)
  have e := m_thk hA'.1
  rw [jup_c (by decide)] at e
  unfold f_X9_thick f_X10_thick
  simp only [c_thk hA.1, Option.bind_some, jlt_eq, e, if_true]
  exact ⟨_, rfl, hA'⟩
theorem k_count {m : jMu} (hA : kA m) (a : Int) : ∃ o, ((f_X9_count a m).bind fun r1 => (f_X10_count a m).bind fun r2 => (if r1 = r2.1 then some r2.2 else none)) = some o ∧ kA o := by
  have hz := hA.1.z
  have hA' := kA_fM hA (fM.thr m 0)
  have e : jup m 74 0 0 75 = m 75 := jup_c (by decide)
  refine ⟨jup m 74 0 0, ?_, hA'⟩
  unfold f_X9_count f_X10_count
  by_cases a0 : a = 0
  · simp only [f_X5_size, jlt_eq, hz, e, if_pos a0, Option.bind_some, if_true]
  by_cases a1 : a = 1
  · simp only [f_X5_size, jlt_eq, hz, e, if_neg a0, if_pos a1, Option.bind_some, if_true]
  by_cases a2 : a = 2
  · simp only [f_X5_size, jlt_eq, hz, e, if_neg a0, if_neg a1, if_pos a2, Option.bind_some, if_true]
  by_cases a3 : a = 3
  · simp only [f_X5_size, jlt_eq, hz, e, if_neg a0, if_neg a1, if_neg a2, if_pos a3, Option.bind_some, if_true]
  by_cases a4 : a = 4
  · simp only [f_X5_size, jlt_eq, hz, e, if_neg a0, if_neg a1, if_neg a2, if_neg a3, if_pos a4, Option.bind_some, if_true]
  by_cases a5 : a = 5
  · simp only [f_X5_size, jlt_eq, hz, e, if_neg a0, if_neg a1, if_neg a2, if_neg a3, if_neg a4, if_pos a5, Option.bind_some, if_true]
  by_cases a6 : a = 6
  · simp only [f_X5_size, jlt_eq, hz, e, if_neg a0, if_neg a1, if_neg a2, if_neg a3, if_neg a4, if_neg a5, if_pos a6, Option.bind_some, if_true]
  by_cases a7 : a = 7
  · simp only [f_X5_size, jlt_eq, hz, e, if_neg a0, if_neg a1, if_neg a2, if_neg a3, if_neg a4, if_neg a5, if_neg a6, if_pos a7, Option.bind_some, if_true]
  by_cases a8 : a = 8
  · simp only [f_X5_size, jlt_eq, hz, e, if_neg a0, if_neg a1, if_neg a2, if_neg a3, if_neg a4, if_neg a5, if_neg a6, if_neg a7, if_pos a8, Option.bind_some, if_true]
  by_cases a9 : a = 9
  · simp only [f_X5_size, jlt_eq, hz, e, if_neg a0, if_neg a1, if_neg a2, if_neg a3, if_neg a4, if_neg a5, if_neg a6, if_neg a7, if_neg a8, if_pos a9, Option.bind_some, if_true]
  · simp only [f_X5_size, jlt_eq, hz, e, if_neg a0, if_neg a1, if_neg a2, if_neg a3, if_neg a4, if_neg a5, if_neg a6, if_neg a7, if_neg a8, if_neg a9, Option.bind_some, if_true]
def kLook (M : Int → Int) (j w : Int) : Int := if 0 ≤ j ∧ j < M 8 then (if 0 ≤ w ∧ w ≤ 7 then 0 else 2) else 1
theorem cq_look {m : jMu} (hA : kA m) (j w : Int) : cQ (f_L_look j w m) m (kLook (m 75) j w) (m 75 (376 + 8 * j + w)) := by
  have hz := hA.1.z
  unfold f_L_look f_X9_look kLook
  by_cases h1 : 0 ≤ j ∧ j < m 75 8
  · by_cases h2 : 0 ≤ w ∧ w ≤ 7
    · simp (disch := omega) only [xIsIn, cHas, cRoom, Option.bind_some, nIz, nAz, nRz, nEz, nDz, nI0z, nI1z, nA0z, nA1z, nE0z, nE1z, nR0z, nR1z, jcat2_r, jcat2_l, jlt_eq, ite01, ite01o, ite01p, ite00, ite10, xe1, xe2, xe3, xe4, xe5, xe6, if_true, if_false, f_X5_size, Int.reduceLE, Int.reduceLT, hz, if_pos, if_neg, cg_job hA.1]
      exact cQ_val2 (fC.rf m)
    · simp (disch := omega) only [xIsIn, cHas, cRoom, Option.bind_some, nIz, nAz, nRz, nEz, nDz, nI0z, nI1z, nA0z, nA1z, nE0z, nE1z, nR0z, nR1z, jcat2_r, jcat2_l, jlt_eq, ite01, ite01o, ite01p, ite00, ite10, xe1, xe2, xe3, xe4, xe5, xe6, if_true, if_false, f_X5_size, Int.reduceLE, Int.reduceLT, hz, if_pos, if_neg]
      exact cQ_thr (by decide)
  · simp (disch := omega) only [xIsIn, cHas, cRoom, Option.bind_some, nIz, nAz, nRz, nEz, nDz, nI0z, nI1z, nA0z, nA1z, nE0z, nE1z, nR0z, nR1z, jcat2_r, jcat2_l, jlt_eq, ite01, ite01o, ite01p, ite00, ite10, xe1, xe2, xe3, xe4, xe5, xe6, if_true, if_false, f_X5_size, Int.reduceLE, Int.reduceLT, hz, if_pos, if_neg]
    exact cQ_thr (by decide)
theorem mq_look {m : jMu} (hA : kA m) (j w : Int) : mQ (f_X10_look j w m) m (kLook (m 75) j w) (m 75 (376 + 8 * j + w)) := by
  have hn := hA.1.n
  have e : jup m 74 0 0 75 = m 75 := jup_c (by decide)
  unfold f_X10_look kLook
  by_cases h1 : 0 ≤ j ∧ j < m 75 8
  · by_cases h2 : 0 ≤ w ∧ w ≤ 7
    · simp (disch := omega) only [mIsIn, mDay, mHour, mMoment, Option.bind_some, ite01, ite01o, ite01p, ite00, ite10, jlt_eq, jup_s, le00, le10, le20, le30, if_true, if_false, Int.reduceLE, Int.reduceLT, mJob _ hn.2.2.2.2.2.2.2.2.1, if_pos, if_neg, mOfJob, e]
      exact mQ_val
    · simp (disch := omega) only [mIsIn, mDay, mHour, mMoment, Option.bind_some, ite01, ite01o, ite01p, ite00, ite10, jlt_eq, jup_s, le00, le10, le20, le30, if_true, if_false, Int.reduceLE, Int.reduceLT, mJob _ hn.2.2.2.2.2.2.2.2.1, if_pos, if_neg]
      exact mQ_thr (by decide)
  · simp (disch := omega) only [mIsIn, mDay, mHour, mMoment, Option.bind_some, ite01, ite01o, ite01p, ite00, ite10, jlt_eq, jup_s, le00, le10, le20, le30, if_true, if_false, Int.reduceLE, Int.reduceLT, mJob _ hn.2.2.2.2.2.2.2.2.1, if_pos, if_neg]
    exact mQ_thr (by decide)
