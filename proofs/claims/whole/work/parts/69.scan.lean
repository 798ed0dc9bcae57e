/-! LEVEL 2: questions that look through the jobs -/
theorem le00 {α : Type} (x y : α) : (if (0 : Int) ≤ 0 then x else y) = x := if_pos (by decide)
theorem le10 {α : Type} (x y : α) : (if (1 : Int) ≤ 0 then x else y) = y := if_neg (by decide)
theorem le20 {α : Type} (x y : α) : (if (2 : Int) ≤ 0 then x else y) = y := if_neg (by decide)
theorem le30 {α : Type} (x y : α) : (if (3 : Int) ≤ 0 then x else y) = y := if_neg (by decide)
theorem cKnown {m : jMu} {M : Int → Int} (C : kC m 0 M) {j known : Int} (h0 : 0 ≤ j) (h1 : j < M 8) : f_X4_isKnown j known m = some (if M (376 + 8 * j + 5) ≤ known then 1 else 0) := by
  unfold f_X4_isKnown
  rw [cg_job C h0 h1 (by decide) (by decide), Option.bind_some]
  split
  · rw [if_neg (by omega)]
  · rw [if_pos (by omega)]
theorem cPeeled {m : jMu} {M : Int → Int} (C : kC m 0 M) {j known : Int} (h0 : 0 ≤ j) (h1 : j < M 8) : f_X4_isPeeled j known m = some (if M (376 + 8 * j + 6) ≠ -1 ∧ M (376 + 8 * j + 6) ≤ known then 1 else 0) := by
  unfold f_X4_isPeeled
  rw [cg_job C h0 h1 (by decide) (by decide), Option.bind_some]
  split
  · rw [if_neg (by omega)]
  · split
    · rw [if_neg (by omega)]
    · rw [if_pos (by omega)]
theorem mOfJob {m : jMu} {j c : Int} (h0 : 0 ≤ j) (h1 : j < 40) (h2 : 0 ≤ c) (h3 : c < 8) : f_X10_ofJob j c m = some (m 75 (376 + 8 * j + c)) := by
  unfold f_X10_ofJob
  simp (disch := omega) only [jW_of, if_pos]
theorem mOfBay {m : jMu} {j c : Int} (h0 : 0 ≤ j) (h1 : j < 8) (h2 : 0 ≤ c) (h3 : c < 9) : f_X10_ofBay j c m = some (m 75 (20 + 9 * j + c)) := by
  unfold f_X10_ofBay
  simp (disch := omega) only [jW_of, if_pos]
theorem mKnown {m : jMu} {j known : Int} (h0 : 0 ≤ j) (h1 : j < 40) : f_X10_isKnown j known m = some (if m 75 (376 + 8 * j + 5) ≤ known then 1 else 0) := by
  unfold f_X10_isKnown
  rw [mOfJob h0 h1 (by decide) (by decide), Option.bind_some]
  split
  · rw [if_neg (by omega)]
  · rw [if_pos (by omega)]
def sLastF (M : Int → Int) (bay e known : Int) (j : Int) (s : Int × Int) : Int × Int := if M (376 + 8 * j) = bay ∧ M (376 + 8 * j + 5) ≤ known ∧ M (376 + 8 * j + 4) ≤ e ∧ s.2 ≤ M (376 + 8 * j + 4) then (j, M (376 + 8 * j + 4)) else s
def sLast (M : Int → Int) (bay e known : Int) : Int := (itn (sLastF M bay e known) (M 8).toNat 0 (-1, -1)).1
theorem c_last {m : jMu} {M : Int → Int} (C : kC m 0 M) {bay day known : Int} (hd : 0 ≤ day ∧ day ≤ 199) : f_X0_lastJob bay day known m = some (sLast M bay (12 * day + 12) known) := by
  have hn := C.n
  have hz := C.z
  unfold f_X0_lastJob sLast
  refine (itn_loop (L := fun q i s => f_X0_lastJob_L18 q bay day known s.1 s.2 i m) (sLastF M bay (12 * day + 12) known) (fun s => s.1) (fun _ _ => True) (lo := 0) (n := M 8) ?_ ?_ (M 8).toNat jFU 0 (-1, -1) (by omega) (by omega) (by unfold jFU; omega) trivial).1
  · intro q i s h0 h1 _
    refine ⟨?_, trivial⟩
    have hR := (C.1 7 (by decide)).2 i h0 h1
    show f_X0_lastJob_L18 (q + 1) bay day known s.1 s.2 i m = _
    rw [f_X0_lastJob_L18]
    unfold sLastF
    simp (disch := omega) only [f_X5_size, hz, Option.bind_some, if_neg, cg_job C, cKnown C h0 h1, Int.add_zero, jW_of, ite01]
    repeat' split
    all_goals first | rfl | omega
  · intro q s _
    show f_X0_lastJob_L18 (q + 1) bay day known s.1 s.2 (M 8) m = _
    rw [f_X0_lastJob_L18]
    simp (disch := omega) only [f_X5_size, hz, Option.bind_some, if_pos]
theorem m_last {m : jMu} (C : kC m 0 (m 75)) {bay day known : Int} (hd : 0 ≤ day ∧ day ≤ 199) : f_X10_last_L46 jFU bay day known (-1) 0 m = some (sLast (m 75) bay (12 * day + 12) known, m) := by
  have hn := C.n
  unfold sLast
  refine (itn_loop (L := fun q i (s : Int × Int) => f_X10_last_L46 q bay day known s.1 i m) (sLastF (m 75) bay (12 * day + 12) known) (fun s => (s.1, m)) (fun i s => (s.1 = -1 ∧ s.2 = -1) ∨ (0 ≤ s.1 ∧ s.1 < i ∧ s.2 = m 75 (376 + 8 * s.1 + 4))) (lo := 0) (n := m 75 8) ?_ ?_ (m 75 8).toNat jFU 0 (-1, -1) (by omega) (by omega) (by unfold jFU; omega) (Or.inl ⟨rfl, rfl⟩)).1
  · intro q i s h0 h1 hP
    have hR := (C.1 7 (by decide)).2 i h0 h1
    constructor
    · show f_X10_last_L46 (q + 1) bay day known s.1 i m = _
      rw [f_X10_last_L46]
      unfold sLastF
      simp (disch := omega) only [Option.bind_some, if_neg, mOfJob, mKnown, Int.add_zero, jW_of, ite01]
      rcases hP with hP | hP
      · simp only [if_pos hP.1]
        repeat' split
        all_goals first | rfl | omega
      · simp (disch := omega) only [mOfJob, Option.bind_some, if_neg]
        repeat' split
        all_goals first | rfl | omega
    · unfold sLastF
      split
      · exact Or.inr ⟨h0, by show i < i + 1; omega, rfl⟩
      · exact hP.imp id (fun g => ⟨g.1, by omega, g.2.2⟩)
  · intro q s _
    show f_X10_last_L46 (q + 1) bay day known s.1 (m 75 8) m = _
    rw [f_X10_last_L46]
    simp (disch := omega) only [if_pos]
def kLast (M : Int → Int) (bay day known : Int) : Int := if (0 ≤ bay ∧ bay < M 0) ∧ (0 ≤ day ∧ day ≤ 199) ∧ 0 ≤ known ∧ known ≤ 199 then 0 else 1
theorem cq_last {m : jMu} (hA : kA m) (bay day known : Int) : cQ (f_L_last bay day known m) m (kLast (m 75) bay day known) (sLast (m 75) bay (12 * day + 12) known) := by
  have hz := hA.1.z
  unfold f_L_last f_X9_last kLast
  simp only [cHas, hz, Option.bind_some, nIz, nDz]
  by_cases h1 : 0 ≤ bay ∧ bay < m 75 0
  · by_cases h2 : (0 ≤ day ∧ day ≤ 199) ∧ (0 ≤ known ∧ known ≤ 199)
    · rw [if_pos h1, if_pos h2, if_pos ⟨h1, h2.1, h2.2⟩, c_last hA.1 h2.1]
      exact cQ_val (fC.rf m)
    · rw [if_pos h1, if_neg h2, if_neg (fun z => h2 z.2)]
      exact cQ_thr (by decide)
  · rw [if_neg h1, if_neg (fun z => h1 z.1)]
    exact cQ_thr (by decide)
theorem mq_last {m : jMu} (hA : kA m) (bay day known : Int) : mQ (f_X10_last bay day known m) m (kLast (m 75) bay day known) (sLast (m 75) bay (12 * day + 12) known) := by
  have hn := hA.1.n
  have hA' := kA_fM hA (fM.thr m 0)
  unfold f_X10_last kLast
  simp only [mBay _ hn.1, mDay, Option.bind_some, ite01, jlt_eq, jup_s, le00, le10]
  by_cases h1 : 0 ≤ bay ∧ bay < m 75 0
  · by_cases h2 : 0 ≤ day ∧ day ≤ 199
    · by_cases h3 : 0 ≤ known ∧ known ≤ 199
      · rw [if_pos h1, if_pos h2, if_pos h3, if_pos ⟨h1, h2, h3⟩, m_last hA'.1 h2, jup_c (by decide)]
        exact mQ_val
      · rw [if_pos h1, if_pos h2, if_neg h3, if_neg (fun z => h3 z.2.2)]
        exact mQ_thr (by decide)
    · rw [if_pos h1, if_neg h2, if_neg (fun z => h2 z.2.1)]
      exact mQ_thr (by decide)
  · rw [if_neg h1, if_neg (fun z => h1 z.1)]
    exact mQ_thr (by decide)
