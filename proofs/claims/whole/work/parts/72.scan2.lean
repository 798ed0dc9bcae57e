/-! LEVEL 2: more questions that look through jobs, batches, bolts -/
theorem xdv {a b : Int} (h0 : 0 ≤ a) (h1 : a < 2147483648) (hb : 0 < b) : jDv a b = a / b := by
  unfold jDv
  rw [Int.tdiv_eq_ediv_of_nonneg h0]
  have e1 := Int.ediv_nonneg h0 (Int.le_of_lt hb)
  have e2 := Int.ediv_le_self b h0
  exact jW_of (by omega) (by omega)
theorem xrm {a b : Int} (h0 : 0 ≤ a) (hb : 0 < b) (hb2 : b < 2147483648) : jRm a b = a % b := by
  unfold jRm
  rw [Int.tmod_eq_emod_of_nonneg h0]
  have e1 := Int.emod_nonneg a (Int.ne_of_gt hb)
  have e2 := Int.emod_lt_of_pos a hb
  exact jW_of (by omega) (by omega)
theorem mulb {a b A B : Int} (h0 : 0 ≤ a) (h1 : a ≤ A) (h2 : 0 ≤ b) (h3 : b ≤ B) : 0 ≤ a * b ∧ a * b ≤ A * B :=
  ⟨Int.mul_nonneg h0 h2, Int.mul_le_mul h1 h3 h2 (by omega)⟩
theorem cQ_val2 {m m' : jMu} {v : Int} (h : fC m m') : cQ (some (0, jup m' 87 0 v)) m 0 v :=
  ⟨jup m' 87 0 v, rfl, fun c h1 h2 h3 => (jup_c h2).trans (h c h1 h3), fun _ => jup_s⟩
def xTins (M : Int → Int) (b : Int) : Int := (M (20 + 9 * b + 2) + 3) / 4
theorem xTins_b {m : jMu} {M : Int → Int} (C : kC m 0 M) {b : Int} (h0 : 0 ≤ b) (h1 : b < M 0) : 1 ≤ xTins M b ∧ xTins M b ≤ 5 := by
  have := (C.1 0 (by decide)).2 b h0 h1
  unfold xTins
  omega
theorem cTins {m : jMu} {M : Int → Int} (C : kC m 0 M) {b : Int} (h0 : 0 ≤ b) (h1 : b < M 0) : f_X4_tinsFor b m = some (xTins M b) := by
  have := (C.1 0 (by decide)).2 b h0 h1
  unfold f_X4_tinsFor xTins
  simp (disch := omega) only [cg_bay C, Option.bind_some, jW_of, xdv]
theorem mTins {m mm : jMu} (C : kC mm 0 (m 75)) {b : Int} (h0 : 0 ≤ b) (h1 : b < m 75 0) : f_X10_tinsFor b m = some (xTins (m 75) b) := by
  have hn := C.n
  have := (C.1 0 (by decide)).2 b h0 h1
  unfold f_X10_tinsFor xTins
  simp (disch := omega) only [mOfBay, Option.bind_some, jW_of, xdv]
/-! what is left of a batch -/
def sLeftF (M : Int → Int) (b : Int) (j s : Int) : Int := if M (376 + 8 * j + 2) = b then s - xTins M (M (376 + 8 * j)) else s
def sLeft (M : Int → Int) (b : Int) : Int := itn (sLeftF M b) (M 8).toNat 0 (M (352 + 4 * b))
theorem sLeft_st {m : jMu} {M : Int → Int} (C : kC m 0 M) {b i s : Int} (h0 : 0 ≤ i) (h1 : i < M 8) (hP : -5 * i ≤ s ∧ s ≤ 99) : -5 * (i + 1) ≤ sLeftF M b i s ∧ sLeftF M b i s ≤ 99 := by
  have hR := (C.1 7 (by decide)).2 i h0 h1
  have := xTins_b C hR.1.1 hR.1.2
  unfold sLeftF
  split <;> omega
theorem c_left {m : jMu} {M : Int → Int} (C : kC m 0 M) {b : Int} (hb : 0 ≤ b ∧ b < M 7) : f_X4_tinsLeft b m = some (sLeft M b) := by
  have hn := C.n
  have hz := C.z
  have hB := (C.1 6 (by decide)).2 b hb.1 hb.2
  unfold f_X4_tinsLeft sLeft
  simp (disch := omega) only [cg_bat C, Option.bind_some, Int.add_zero]
  refine (itn_loop (L := fun q i s => f_X4_tinsLeft_L12 q b s i m) (sLeftF M b) (fun s => s) (fun i s => -5 * i ≤ s ∧ s ≤ 99) (lo := 0) (n := M 8) ?_ ?_ (M 8).toNat jFU 0 _ (by omega) (by omega) (by unfold jFU; omega) (by omega)).1
  · intro q i s h0 h1 hP
    refine ⟨?_, sLeft_st C h0 h1 hP⟩
    have hR := (C.1 7 (by decide)).2 i h0 h1
    have hT := xTins_b C hR.1.1 hR.1.2
    show f_X4_tinsLeft_L12 (q + 1) b s i m = _
    rw [f_X4_tinsLeft_L12]
    unfold sLeftF
    simp (disch := omega) only [xIsIn, cHas, cRoom, Option.bind_some, nIz, nAz, nRz, nEz, nDz, nI0z, nI1z, nA0z, nA1z, nE0z, nE1z, nR0z, nR1z, jcat2_r, jcat2_l, jlt_eq, ite01, ite01o, ite01p, ite00, ite10, xe1, xe2, xe3, xe4, xe5, xe6, if_true, if_false, f_X5_size, Int.reduceLE, Int.reduceLT, hz, if_neg, cg_job C, cTins C, Int.add_zero, jW_of]
    repeat' split
    all_goals first | rfl | omega
  · intro q s _
    show f_X4_tinsLeft_L12 (q + 1) b s (M 8) m = _
    rw [f_X4_tinsLeft_L12]
    simp (disch := omega) only [xIsIn, cHas, cRoom, Option.bind_some, nIz, nAz, nRz, nEz, nDz, nI0z, nI1z, nA0z, nA1z, nE0z, nE1z, nR0z, nR1z, jcat2_r, jcat2_l, jlt_eq, ite01, ite01o, ite01p, ite00, ite10, xe1, xe2, xe3, xe4, xe5, xe6, if_true, if_false, f_X5_size, Int.reduceLE, Int.reduceLT, hz, if_pos]
theorem m_left {m mm : jMu} (C : kC mm 0 (m 75)) {b : Int} (hb : 0 ≤ b ∧ b < m 75 7) : f_X10_leftOf b m = some (sLeft (m 75) b) := by
  have hn := C.n
  have hB := (C.1 6 (by decide)).2 b hb.1 hb.2
  unfold f_X10_leftOf sLeft
  simp (disch := omega) only [jW_of, if_pos]
  refine (itn_loop (L := fun q i s => f_X10_leftOf_L15 q b s i m) (sLeftF (m 75) b) (fun s => s) (fun i s => -5 * i ≤ s ∧ s ≤ 99) (lo := 0) (n := m 75 8) ?_ ?_ (m 75 8).toNat jFU 0 _ (by omega) (by omega) (by unfold jFU; omega) (by omega)).1
  · intro q i s h0 h1 hP
    refine ⟨?_, sLeft_st C h0 h1 hP⟩
    have hR := (C.1 7 (by decide)).2 i h0 h1
    have hT := xTins_b C hR.1.1 hR.1.2
    show f_X10_leftOf_L15 (q + 1) b s i m = _
    rw [f_X10_leftOf_L15]
    unfold sLeftF
    simp (disch := omega) only [mIsIn, mDay, mHour, mMoment, Option.bind_some, ite01, ite01o, ite01p, ite00, ite10, jlt_eq, jup_s, le00, le10, le20, le30, if_true, if_false, Int.reduceLE, Int.reduceLT, if_neg, mOfJob, mTins C, Int.add_zero, Int.sub_zero, jW_of]
    repeat' split
    all_goals first | rfl | omega
  · intro q s _
    show f_X10_leftOf_L15 (q + 1) b s (m 75 8) m = _
    rw [f_X10_leftOf_L15]
    simp (disch := omega) only [mIsIn, mDay, mHour, mMoment, Option.bind_some, ite01, ite01o, ite01p, ite00, ite10, jlt_eq, jup_s, le00, le10, le20, le30, if_true, if_false, Int.reduceLE, Int.reduceLT, if_pos]
def kLeft (M : Int → Int) (b : Int) : Int := if 0 ≤ b ∧ b < M 7 then 0 else 1
theorem cq_left {m : jMu} (hA : kA m) (b : Int) : cQ (f_L_left b m) m (kLeft (m 75) b) (sLeft (m 75) b) := by
  have hz := hA.1.z
  unfold f_L_left f_X9_left kLeft
  by_cases h1 : 0 ≤ b ∧ b < m 75 7
  · simp only [xIsIn, cHas, cRoom, Option.bind_some, nIz, nAz, nRz, nEz, nDz, nI0z, nI1z, nA0z, nA1z, nE0z, nE1z, nR0z, nR1z, jcat2_r, jcat2_l, jlt_eq, ite01, ite01o, ite01p, ite00, ite10, xe1, xe2, xe3, xe4, xe5, xe6, if_true, if_false, f_X5_size, Int.reduceLE, Int.reduceLT, hz, if_pos h1, c_left hA.1 h1]
    exact cQ_val2 (fC.rf m)
  · simp only [xIsIn, cHas, cRoom, Option.bind_some, nIz, nAz, nRz, nEz, nDz, nI0z, nI1z, nA0z, nA1z, nE0z, nE1z, nR0z, nR1z, jcat2_r, jcat2_l, jlt_eq, ite01, ite01o, ite01p, ite00, ite10, xe1, xe2, xe3, xe4, xe5, xe6, if_true, if_false, f_X5_size, Int.reduceLE, Int.reduceLT, hz, if_neg h1]
    exact cQ_thr (by decide)
theorem mq_left {m : jMu} (hA : kA m) (b : Int) : mQ (f_X10_left b m) m (kLeft (m 75) b) (sLeft (m 75) b) := by
  have hn := hA.1.n
  have hA' := kA_fM hA (fM.thr m 0)
  unfold f_X10_left kLeft
  by_cases h1 : 0 ≤ b ∧ b < m 75 7
  · have e := m_left hA'.1 h1
    rw [jup_c (by decide)] at e
    simp only [mIsIn, mDay, mHour, mMoment, Option.bind_some, ite01, ite01o, ite01p, ite00, ite10, jlt_eq, jup_s, le00, le10, le20, le30, if_true, if_false, Int.reduceLE, Int.reduceLT, mBatch _ hn.2.2.2.2.2.2.2.1, if_pos h1, e]
    exact mQ_val
  · simp only [mIsIn, mDay, mHour, mMoment, Option.bind_some, ite01, ite01o, ite01p, ite00, ite10, jlt_eq, jup_s, le00, le10, le20, le30, if_true, if_false, Int.reduceLE, Int.reduceLT, mBatch _ hn.2.2.2.2.2.2.2.1, if_neg h1]
    exact mQ_thr (by decide)
/-! a batch recalled -/
def sLatF (M : Int → Int) (bay batch known w : Int) (j s : Int) : Int := if M (376 + 8 * j) = bay ∧ M (376 + 8 * j + 5) ≤ known ∧ ((w = 1 ∧ M (376 + 8 * j + 2) = batch) ∨ (w = 0 ∧ M (376 + 8 * j + 2) ≠ batch)) ∧ s < M (376 + 8 * j + 4) then M (376 + 8 * j + 4) else s
def sLat (M : Int → Int) (bay batch known w : Int) : Int := itn (sLatF M bay batch known w) (M 8).toNat 0 (-1)
theorem c_lat {m : jMu} {M : Int → Int} (C : kC m 0 M) {bay batch known w : Int} (hw : w = 0 ∨ w = 1) : f_X0_latestEnd bay batch known w m = some (sLat M bay batch known w) := by
  have hn := C.n
  have hz := C.z
  unfold f_X0_latestEnd sLat
  refine (itn_loop (L := fun q i s => f_X0_latestEnd_L15 q bay batch known w s i m) (sLatF M bay batch known w) (fun s => s) (fun _ _ => True) (lo := 0) (n := M 8) ?_ ?_ (M 8).toNat jFU 0 _ (by omega) (by omega) (by unfold jFU; omega) trivial).1
  · intro q i s h0 h1 _
    refine ⟨?_, trivial⟩
    have hR := (C.1 7 (by decide)).2 i h0 h1
    show f_X0_latestEnd_L15 (q + 1) bay batch known w s i m = _
    rw [f_X0_latestEnd_L15]
    unfold sLatF
    simp (disch := omega) only [xIsIn, cHas, cRoom, Option.bind_some, nIz, nAz, nRz, nEz, nDz, nI0z, nI1z, nA0z, nA1z, nE0z, nE1z, nR0z, nR1z, jcat2_r, jcat2_l, jlt_eq, ite01, ite01o, ite01p, ite00, ite10, xe1, xe2, xe3, xe4, xe5, xe6, if_true, if_false, f_X5_size, Int.reduceLE, Int.reduceLT, hz, if_neg, cg_job C, cKnown C h0 h1, Int.add_zero, jW_of]
    repeat' split
    all_goals first | rfl | omega
  · intro q s _
    show f_X0_latestEnd_L15 (q + 1) bay batch known w s (M 8) m = _
    rw [f_X0_latestEnd_L15]
    simp (disch := omega) only [xIsIn, cHas, cRoom, Option.bind_some, nIz, nAz, nRz, nEz, nDz, nI0z, nI1z, nA0z, nA1z, nE0z, nE1z, nR0z, nR1z, jcat2_r, jcat2_l, jlt_eq, ite01, ite01o, ite01p, ite00, ite10, xe1, xe2, xe3, xe4, xe5, xe6, if_true, if_false, f_X5_size, Int.reduceLE, Int.reduceLT, hz, if_pos]
def sRecF (M : Int → Int) (batch known covered : Int) (b s : Int) : Int := if sLat M b batch known 1 ≠ -1 ∧ (covered = 0 ∨ sLat M b batch known 1 < sLat M b batch known 0) then jOr s (jSl 1 b) else s
def sRec (M : Int → Int) (batch known covered : Int) : Int := itn (sRecF M batch known covered) (M 0).toNat 0 0
theorem c_rec {m : jMu} {M : Int → Int} (C : kC m 0 M) {batch known covered : Int} : f_X0_recalled batch known covered m = some (sRec M batch known covered) := by
  have hn := C.n
  have hz := C.z
  unfold f_X0_recalled sRec
  refine (itn_loop (L := fun q i s => f_X0_recalled_L6 q batch known covered s i m) (sRecF M batch known covered) (fun s => s) (fun _ _ => True) (lo := 0) (n := M 0) ?_ ?_ (M 0).toNat jFU 0 _ (by omega) (by omega) (by unfold jFU; omega) trivial).1
  · intro q i s h0 h1 _
    refine ⟨?_, trivial⟩
    show f_X0_recalled_L6 (q + 1) batch known covered s i m = _
    rw [f_X0_recalled_L6]
    unfold sRecF
    simp (disch := omega) only [xIsIn, cHas, cRoom, Option.bind_some, nIz, nAz, nRz, nEz, nDz, nI0z, nI1z, nA0z, nA1z, nE0z, nE1z, nR0z, nR1z, jcat2_r, jcat2_l, jlt_eq, ite01, ite01o, ite01p, ite00, ite10, xe1, xe2, xe3, xe4, xe5, xe6, if_true, if_false, f_X5_size, Int.reduceLE, Int.reduceLT, hz, if_neg, c_lat C, jW_of]
    repeat' split
    all_goals first | rfl | omega
  · intro q s _
    show f_X0_recalled_L6 (q + 1) batch known covered s (M 0) m = _
    rw [f_X0_recalled_L6]
    simp (disch := omega) only [xIsIn, cHas, cRoom, Option.bind_some, nIz, nAz, nRz, nEz, nDz, nI0z, nI1z, nA0z, nA1z, nE0z, nE1z, nR0z, nR1z, jcat2_r, jcat2_l, jlt_eq, ite01, ite01o, ite01p, ite00, ite10, xe1, xe2, xe3, xe4, xe5, xe6, if_true, if_false, f_X5_size, Int.reduceLE, Int.reduceLT, hz, if_pos]
theorem itn_pair {σ τ : Type} (f : Int → σ → σ) (g : Int → τ → τ) : ∀ (d : Nat) (i : Int) (s : σ) (t : τ), itn (fun i (p : σ × τ) => (f i p.1, g i p.2)) d i (s, t) = (itn f d i s, itn g d i t) := by
  intro d
  induction d with
  | zero => intro i s t; rfl
  | succ d ih => intro i s t; exact ih (i + 1) (f i s) (g i t)
theorem m_lat {m : jMu} (C : kC m 0 (m 75)) {v1 v2 v3 v4 v5 : Int} : f_X10_recall_L59 jFU v1 v2 v3 v4 v5 (-1) (-1) 0 m = some (v1, v2, v3, v4, v5, sLat (m 75) v5 v1 v2 1, sLat (m 75) v5 v1 v2 0, m) := by
  have hn := C.n
  have := (itn_loop (L := fun q i (s : Int × Int) => f_X10_recall_L59 q v1 v2 v3 v4 v5 s.1 s.2 i m) (fun i (s : Int × Int) => (sLatF (m 75) v5 v1 v2 1 i s.1, sLatF (m 75) v5 v1 v2 0 i s.2)) (fun s => (v1, v2, v3, v4, v5, s.1, s.2, m)) (fun _ _ => True) (lo := 0) (n := m 75 8) ?_ ?_ (m 75 8).toNat jFU 0 (-1, -1) (by omega) (by omega) (by unfold jFU; omega) trivial).1
  · rw [itn_pair] at this
    exact this
  · intro q i s h0 h1 _
    refine ⟨?_, trivial⟩
    have hR := (C.1 7 (by decide)).2 i h0 h1
    show f_X10_recall_L59 (q + 1) v1 v2 v3 v4 v5 s.1 s.2 i m = _
    rw [f_X10_recall_L59]
    unfold sLatF
    by_cases a1 : m 75 (376 + 8 * i) = v5
    · by_cases a2 : m 75 (376 + 8 * i + 5) ≤ v2
      · by_cases a3 : m 75 (376 + 8 * i + 2) = v1
        · by_cases a4 : s.1 < m 75 (376 + 8 * i + 4)
          · simp (disch := omega) only [mIsIn, mDay, mHour, mMoment, Option.bind_some, ite01, ite01o, ite01p, ite00, ite10, jlt_eq, jup_s, le00, le10, le20, le30, if_true, if_false, Int.reduceLE, Int.reduceLT, if_neg, if_pos, mOfJob, mKnown, Int.add_zero, jW_of]
            rw [if_pos ⟨a1, a2, Or.inl ⟨trivial, a3⟩, a4⟩]
          · simp (disch := omega) only [mIsIn, mDay, mHour, mMoment, Option.bind_some, ite01, ite01o, ite01p, ite00, ite10, jlt_eq, jup_s, le00, le10, le20, le30, if_true, if_false, Int.reduceLE, Int.reduceLT, if_neg, if_pos, mOfJob, mKnown, Int.add_zero, jW_of]
        · by_cases a4 : s.2 < m 75 (376 + 8 * i + 4)
          · simp (disch := omega) only [mIsIn, mDay, mHour, mMoment, Option.bind_some, ite01, ite01o, ite01p, ite00, ite10, jlt_eq, jup_s, le00, le10, le20, le30, if_true, if_false, Int.reduceLE, Int.reduceLT, if_neg, if_pos, mOfJob, mKnown, Int.add_zero, jW_of]
            rw [if_pos ⟨a1, a2, Or.inr ⟨trivial, a3⟩, a4⟩]
          · simp (disch := omega) only [mIsIn, mDay, mHour, mMoment, Option.bind_some, ite01, ite01o, ite01p, ite00, ite10, jlt_eq, jup_s, le00, le10, le20, le30, if_true, if_false, Int.reduceLE, Int.reduceLT, if_neg, if_pos, mOfJob, mKnown, Int.add_zero, jW_of]
      · simp (disch := omega) only [mIsIn, mDay, mHour, mMoment, Option.bind_some, ite01, ite01o, ite01p, ite00, ite10, jlt_eq, jup_s, le00, le10, le20, le30, if_true, if_false, Int.reduceLE, Int.reduceLT, if_neg, if_pos, mOfJob, mKnown, Int.add_zero, jW_of]
    · simp (disch := omega) only [mIsIn, mDay, mHour, mMoment, Option.bind_some, ite01, ite01o, ite01p, ite00, ite10, jlt_eq, jup_s, le00, le10, le20, le30, if_true, if_false, Int.reduceLE, Int.reduceLT, if_neg, if_pos, mOfJob, mKnown, Int.add_zero, jW_of]
  · intro q s _
    show f_X10_recall_L59 (q + 1) v1 v2 v3 v4 v5 s.1 s.2 (m 75 8) m = _
    rw [f_X10_recall_L59]
    simp (disch := omega) only [mIsIn, mDay, mHour, mMoment, Option.bind_some, ite01, ite01o, ite01p, ite00, ite10, jlt_eq, jup_s, le00, le10, le20, le30, if_true, if_false, Int.reduceLE, Int.reduceLT, if_pos]
theorem m_rec {m : jMu} (C : kC m 0 (m 75)) {batch known covered : Int} : f_X10_recall_L39 jFU batch known covered 0 0 m = some (sRec (m 75) batch known covered, m) := by
  have hn := C.n
  unfold sRec
  refine (itn_loop (L := fun q i s => f_X10_recall_L39 q batch known covered s i m) (sRecF (m 75) batch known covered) (fun s => (s, m)) (fun _ _ => True) (lo := 0) (n := m 75 0) ?_ ?_ (m 75 0).toNat jFU 0 _ (by omega) (by omega) (by unfold jFU; omega) trivial).1
  · intro q i s h0 h1 _
    refine ⟨?_, trivial⟩
    show f_X10_recall_L39 (q + 1) batch known covered s i m = _
    rw [f_X10_recall_L39]
    unfold sRecF
    simp (disch := omega) only [mIsIn, mDay, mHour, mMoment, Option.bind_some, ite01, ite01o, ite01p, ite00, ite10, jlt_eq, jup_s, le00, le10, le20, le30, if_true, if_false, Int.reduceLE, Int.reduceLT, if_neg, m_lat C, jW_of]
    repeat' split
    all_goals first | rfl | omega
  · intro q s _
    show f_X10_recall_L39 (q + 1) batch known covered s (m 75 0) m = _
    rw [f_X10_recall_L39]
    simp (disch := omega) only [mIsIn, mDay, mHour, mMoment, Option.bind_some, ite01, ite01o, ite01p, ite00, ite10, jlt_eq, jup_s, le00, le10, le20, le30, if_true, if_false, Int.reduceLE, Int.reduceLT, if_pos]
def kRec (M : Int → Int) (b known : Int) : Int := if (0 ≤ b ∧ b < M 7) ∧ 0 ≤ known ∧ known ≤ 199 then 0 else 1
theorem cq_recall {m : jMu} (hA : kA m) (b known covered : Int) : cQ (f_L_recall b known covered m) m (kRec (m 75) b known) (sRec (m 75) b known covered) := by
  have hz := hA.1.z
  unfold f_L_recall f_X9_recall kRec
  by_cases h1 : 0 ≤ b ∧ b < m 75 7
  · by_cases h2 : 0 ≤ known ∧ known ≤ 199
    · simp only [xIsIn, cHas, cRoom, Option.bind_some, nIz, nAz, nRz, nEz, nDz, nI0z, nI1z, nA0z, nA1z, nE0z, nE1z, nR0z, nR1z, jcat2_r, jcat2_l, jlt_eq, ite01, ite01o, ite01p, ite00, ite10, xe1, xe2, xe3, xe4, xe5, xe6, if_true, if_false, f_X5_size, Int.reduceLE, Int.reduceLT, hz, if_pos h1, if_pos h2, if_pos (And.intro h1 h2), c_rec hA.1]
      exact cQ_val2 (fC.rf m)
    · simp only [xIsIn, cHas, cRoom, Option.bind_some, nIz, nAz, nRz, nEz, nDz, nI0z, nI1z, nA0z, nA1z, nE0z, nE1z, nR0z, nR1z, jcat2_r, jcat2_l, jlt_eq, ite01, ite01o, ite01p, ite00, ite10, xe1, xe2, xe3, xe4, xe5, xe6, if_true, if_false, f_X5_size, Int.reduceLE, Int.reduceLT, hz, if_pos h1, if_neg h2]
      rw [if_neg (fun z => h2 z.2)]
      exact cQ_thr (by decide)
  · simp only [xIsIn, cHas, cRoom, Option.bind_some, nIz, nAz, nRz, nEz, nDz, nI0z, nI1z, nA0z, nA1z, nE0z, nE1z, nR0z, nR1z, jcat2_r, jcat2_l, jlt_eq, ite01, ite01o, ite01p, ite00, ite10, xe1, xe2, xe3, xe4, xe5, xe6, if_true, if_false, f_X5_size, Int.reduceLE, Int.reduceLT, hz, if_neg h1]
    rw [if_neg (fun z => h1 z.1)]
    exact cQ_thr (by decide)
theorem mq_recall {m : jMu} (hA : kA m) (b known covered : Int) : mQ (f_X10_recall b known covered m) m (kRec (m 75) b known) (sRec (m 75) b known covered) := by
  have hn := hA.1.n
  have hA' := kA_fM hA (fM.thr m 0)
  have e := fun known covered => m_rec hA'.1 (batch := b) (known := known) (covered := covered)
  rw [jup_c (by decide)] at e
  unfold f_X10_recall kRec
  by_cases h1 : 0 ≤ b ∧ b < m 75 7
  · by_cases h2 : 0 ≤ known ∧ known ≤ 199
    · simp only [mIsIn, mDay, mHour, mMoment, Option.bind_some, ite01, ite01o, ite01p, ite00, ite10, jlt_eq, jup_s, le00, le10, le20, le30, if_true, if_false, Int.reduceLE, Int.reduceLT, mBatch _ hn.2.2.2.2.2.2.2.1, if_pos h1, if_pos h2, if_pos (And.intro h1 h2), e]
      exact mQ_val
    · simp only [mIsIn, mDay, mHour, mMoment, Option.bind_some, ite01, ite01o, ite01p, ite00, ite10, jlt_eq, jup_s, le00, le10, le20, le30, if_true, if_false, Int.reduceLE, Int.reduceLT, mBatch _ hn.2.2.2.2.2.2.2.1, if_pos h1, if_neg h2]
      rw [if_neg (fun z => h2 z.2)]
      exact mQ_thr (by decide)
  · simp only [mIsIn, mDay, mHour, mMoment, Option.bind_some, ite01, ite01o, ite01p, ite00, ite10, jlt_eq, jup_s, le00, le10, le20, le30, if_true, if_false, Int.reduceLE, Int.reduceLT, mBatch _ hn.2.2.2.2.2.2.2.1, if_neg h1]
    rw [if_neg (fun z => h1 z.1)]
    exact mQ_thr (by decide)
/-! lead that is caught -/
def sCauF (M : Int → Int) (a b known : Int) (j s : Int) : Int := if M (376 + 8 * j + 5) ≤ known ∧ a ≤ M (376 + 8 * j + 3) / 12 ∧ M (376 + 8 * j + 3) / 12 ≤ b then s + xTins M (M (376 + 8 * j)) * M (352 + 4 * M (376 + 8 * j + 2) + 1) else s
def sCau (M : Int → Int) (a b known : Int) : Int := itn (sCauF M a b known) (M 8).toNat 0 0
theorem sCau_pr {m : jMu} {M : Int → Int} (C : kC m 0 M) {i : Int} (h0 : 0 ≤ i) (h1 : i < M 8) : 0 ≤ xTins M (M (376 + 8 * i)) * M (352 + 4 * M (376 + 8 * i + 2) + 1) ∧ xTins M (M (376 + 8 * i)) * M (352 + 4 * M (376 + 8 * i + 2) + 1) ≤ 250 := by
  have hR := (C.1 7 (by decide)).2 i h0 h1
  have hT := xTins_b C hR.1.1 hR.1.2
  have hB := (C.1 6 (by decide)).2 _ hR.2.2.1.1 hR.2.2.1.2
  exact mulb (by omega) hT.2 hB.2.1.1 hB.2.1.2
theorem sCau_st {m : jMu} {M : Int → Int} (C : kC m 0 M) {a b known i s : Int} (h0 : 0 ≤ i) (h1 : i < M 8) (hP : 0 ≤ s ∧ s ≤ 250 * i) : 0 ≤ sCauF M a b known i s ∧ sCauF M a b known i s ≤ 250 * (i + 1) := by
  have := sCau_pr C h0 h1
  unfold sCauF
  split <;> omega
theorem c_cau {m : jMu} {M : Int → Int} (C : kC m 0 M) {a b known : Int} : f_X0_leadCaught a b known m = some (sCau M a b known) := by
  have hn := C.n
  have hz := C.z
  unfold f_X0_leadCaught sCau
  refine (itn_loop (L := fun q i s => f_X0_leadCaught_L15 q a b known s i m) (sCauF M a b known) (fun s => s) (fun i s => 0 ≤ s ∧ s ≤ 250 * i) (lo := 0) (n := M 8) ?_ ?_ (M 8).toNat jFU 0 _ (by omega) (by omega) (by unfold jFU; omega) (by omega)).1
  · intro q i s h0 h1 hP
    refine ⟨?_, sCau_st C h0 h1 hP⟩
    have hR := (C.1 7 (by decide)).2 i h0 h1
    have hT := xTins_b C hR.1.1 hR.1.2
    have hp := sCau_pr C h0 h1
    rw [Int.mul_comm] at hp
    show f_X0_leadCaught_L15 (q + 1) a b known s i m = _
    rw [f_X0_leadCaught_L15]
    unfold sCauF
    simp (disch := omega) only [xIsIn, cHas, cRoom, Option.bind_some, nIz, nAz, nRz, nEz, nDz, nI0z, nI1z, nA0z, nA1z, nE0z, nE1z, nR0z, nR1z, jcat2_r, jcat2_l, jlt_eq, ite01, ite01o, ite01p, ite00, ite10, xe1, xe2, xe3, xe4, xe5, xe6, if_true, if_false, f_X5_size, Int.reduceLE, Int.reduceLT, hz, if_neg, cg_job C, cg_bat C, cTins C, cKnown C h0 h1, Int.add_zero, jW_of, xdv]
    rw [Int.mul_comm (xTins M (M (376 + 8 * i)))]
    repeat' split
    all_goals first | rfl | omega
  · intro q s _
    show f_X0_leadCaught_L15 (q + 1) a b known s (M 8) m = _
    rw [f_X0_leadCaught_L15]
    simp (disch := omega) only [xIsIn, cHas, cRoom, Option.bind_some, nIz, nAz, nRz, nEz, nDz, nI0z, nI1z, nA0z, nA1z, nE0z, nE1z, nR0z, nR1z, jcat2_r, jcat2_l, jlt_eq, ite01, ite01o, ite01p, ite00, ite10, xe1, xe2, xe3, xe4, xe5, xe6, if_true, if_false, f_X5_size, Int.reduceLE, Int.reduceLT, hz, if_pos]
theorem m_cau {m : jMu} (C : kC m 0 (m 75)) {a b known : Int} : f_X10_caught_L54 jFU a b known 0 0 m = some (sCau (m 75) a b known, m) := by
  have hn := C.n
  unfold sCau
  refine (itn_loop (L := fun q i s => f_X10_caught_L54 q a b known s i m) (sCauF (m 75) a b known) (fun s => (s, m)) (fun i s => 0 ≤ s ∧ s ≤ 250 * i) (lo := 0) (n := m 75 8) ?_ ?_ (m 75 8).toNat jFU 0 _ (by omega) (by omega) (by unfold jFU; omega) (by omega)).1
  · intro q i s h0 h1 hP
    refine ⟨?_, sCau_st C h0 h1 hP⟩
    have hR := (C.1 7 (by decide)).2 i h0 h1
    have hT := xTins_b C hR.1.1 hR.1.2
    have hp := sCau_pr C h0 h1
    show f_X10_caught_L54 (q + 1) a b known s i m = _
    rw [f_X10_caught_L54]
    unfold sCauF
    simp (disch := omega) only [mIsIn, mDay, mHour, mMoment, Option.bind_some, ite01, ite01o, ite01p, ite00, ite10, jlt_eq, jup_s, le00, le10, le20, le30, if_true, if_false, Int.reduceLE, Int.reduceLT, if_neg, if_pos, mOfJob, mKnown, mTins C, Int.add_zero, jW_of, xdv]
    repeat' split
    all_goals first | rfl | omega
  · intro q s _
    show f_X10_caught_L54 (q + 1) a b known s (m 75 8) m = _
    rw [f_X10_caught_L54]
    simp (disch := omega) only [mIsIn, mDay, mHour, mMoment, Option.bind_some, ite01, ite01o, ite01p, ite00, ite10, jlt_eq, jup_s, le00, le10, le20, le30, if_true, if_false, Int.reduceLE, Int.reduceLT, if_pos]
def kCau (a b known : Int) : Int := if (0 ≤ a ∧ a ≤ 199) ∧ (0 ≤ b ∧ b ≤ 199) ∧ 0 ≤ known ∧ known ≤ 199 then (if a ≤ b then 0 else 2) else 1
theorem cq_caught {m : jMu} (hA : kA m) (a b known : Int) : cQ (f_L_caught a b known m) m (kCau a b known) (sCau (m 75) a b known) := by
  have hz := hA.1.z
  unfold f_L_caught f_X9_caught kCau
  by_cases h1 : (0 ≤ a ∧ a ≤ 199) ∧ (0 ≤ b ∧ b ≤ 199) ∧ 0 ≤ known ∧ known ≤ 199
  · by_cases h2 : a ≤ b
    · simp (disch := omega) only [xIsIn, cHas, cRoom, Option.bind_some, nIz, nAz, nRz, nEz, nDz, nI0z, nI1z, nA0z, nA1z, nE0z, nE1z, nR0z, nR1z, jcat2_r, jcat2_l, jlt_eq, ite01, ite01o, ite01p, ite00, ite10, xe1, xe2, xe3, xe4, xe5, xe6, if_true, if_false, f_X5_size, Int.reduceLE, Int.reduceLT, hz, if_pos, if_neg, c_cau hA.1]
      exact cQ_val2 (fC.rf m)
    · simp (disch := omega) only [xIsIn, cHas, cRoom, Option.bind_some, nIz, nAz, nRz, nEz, nDz, nI0z, nI1z, nA0z, nA1z, nE0z, nE1z, nR0z, nR1z, jcat2_r, jcat2_l, jlt_eq, ite01, ite01o, ite01p, ite00, ite10, xe1, xe2, xe3, xe4, xe5, xe6, if_true, if_false, f_X5_size, Int.reduceLE, Int.reduceLT, hz, if_pos, if_neg]
      exact cQ_thr (by decide)
  · rw [if_neg h1]
    by_cases h2 : (0 ≤ a ∧ a ≤ 199) ∧ (0 ≤ b ∧ b ≤ 199)
    · simp (disch := omega) only [xIsIn, cHas, cRoom, Option.bind_some, nIz, nAz, nRz, nEz, nDz, nI0z, nI1z, nA0z, nA1z, nE0z, nE1z, nR0z, nR1z, jcat2_r, jcat2_l, jlt_eq, ite01, ite01o, ite01p, ite00, ite10, xe1, xe2, xe3, xe4, xe5, xe6, if_true, if_false, f_X5_size, Int.reduceLE, Int.reduceLT, hz, if_pos, if_neg]
      exact cQ_thr (by decide)
    · simp (disch := omega) only [xIsIn, cHas, cRoom, Option.bind_some, nIz, nAz, nRz, nEz, nDz, nI0z, nI1z, nA0z, nA1z, nE0z, nE1z, nR0z, nR1z, jcat2_r, jcat2_l, jlt_eq, ite01, ite01o, ite01p, ite00, ite10, xe1, xe2, xe3, xe4, xe5, xe6, if_true, if_false, f_X5_size, Int.reduceLE, Int.reduceLT, hz, if_pos, if_neg]
      exact cQ_thr (by decide)
theorem mq_caught {m : jMu} (hA : kA m) (a b known : Int) : mQ (f_X10_caught a b known m) m (kCau a b known) (sCau (m 75) a b known) := by
  have hn := hA.1.n
  have hA' := kA_fM hA (fM.thr m 0)
  have e := fun known => m_cau hA'.1 (a := a) (b := b) (known := known)
  rw [jup_c (by decide)] at e
  unfold f_X10_caught kCau
  by_cases h1 : 0 ≤ a ∧ a ≤ 199
  · by_cases h2 : 0 ≤ b ∧ b ≤ 199
    · by_cases h3 : 0 ≤ known ∧ known ≤ 199
      · by_cases h4 : a ≤ b
        · simp (disch := omega) only [mIsIn, mDay, mHour, mMoment, Option.bind_some, ite01, ite01o, ite01p, ite00, ite10, jlt_eq, jup_s, le00, le10, le20, le30, if_true, if_false, Int.reduceLE, Int.reduceLT, if_pos, if_neg, e]
          exact mQ_val
        · simp (disch := omega) only [mIsIn, mDay, mHour, mMoment, Option.bind_some, ite01, ite01o, ite01p, ite00, ite10, jlt_eq, jup_s, le00, le10, le20, le30, if_true, if_false, Int.reduceLE, Int.reduceLT, if_pos, if_neg]
          exact mQ_thr (by decide)
      · simp (disch := omega) only [mIsIn, mDay, mHour, mMoment, Option.bind_some, ite01, ite01o, ite01p, ite00, ite10, jlt_eq, jup_s, le00, le10, le20, le30, if_true, if_false, Int.reduceLE, Int.reduceLT, if_pos, if_neg]
        exact mQ_thr (by decide)
    · simp (disch := omega) only [mIsIn, mDay, mHour, mMoment, Option.bind_some, ite01, ite01o, ite01p, ite00, ite10, jlt_eq, jup_s, le00, le10, le20, le30, if_true, if_false, Int.reduceLE, Int.reduceLT, if_pos, if_neg]
      exact mQ_thr (by decide)
  · simp (disch := omega) only [mIsIn, mDay, mHour, mMoment, Option.bind_some, ite01, ite01o, ite01p, ite00, ite10, jlt_eq, jup_s, le00, le10, le20, le30, if_true, if_false, Int.reduceLE, Int.reduceLT, if_pos, if_neg]
    exact mQ_thr (by decide)
