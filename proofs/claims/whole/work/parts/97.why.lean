/-! LEVEL 2: the call why -/
theorem cl_C {m m' : jMu} {M : Int → Int} (C : kC m 0 M) (h : ∀ c, c ≠ 32 → m' c = m c) : kC m' 0 M := kC_frame C (fun c _ h2 => h c (by omega)) (fun _ _ _ => rfl)
def kWhy (M : Int → Int) (t bay d h : Int) : Int := if (0 ≤ t ∧ t < M 5) ∧ (0 ≤ bay ∧ bay < M 0) ∧ (0 ≤ d ∧ d ≤ 199) ∧ 0 ≤ h ∧ h ≤ 11 then 0 else 1
theorem cq_why {m : jMu} (hA : kA m) (t bay d h : Int) : cQ (f_L_why t bay d h m) m (kWhy (m 75) t bay d h) (sWhy (m 75) t bay (12 * d + h) (sT (m 75) (12 * d + h))) := by
  have hz := hA.1.z
  unfold f_L_why f_X9_why f_X9_why_J32 f_X9_why_J33 f_X9_why_J62 f_X9_why_J63 kWhy
  by_cases h1 : 0 ≤ t ∧ t < m 75 5
  · by_cases h2 : 0 ≤ bay ∧ bay < m 75 0
    · by_cases h3 : 0 ≤ d ∧ d ≤ 199
      · by_cases h4 : 0 ≤ h ∧ h ≤ 11
        · obtain ⟨m', e1, P, fr⟩ := c_stand hA.1 (bay := bay) (mo := 12 * d + h) h2 (by omega)
          have W := c_why (cl_C hA.1 fr) P h1 h2 (by omega) (sTr_01 _ _ _)
          have ej : jW (jW (d * 12) + h) = 12 * d + h := by rw [jW_of (z := d * 12) (by omega) (by omega), jW_of (by omega) (by omega)]; omega
          simp only [xIsIn, cHas, cRoom, Option.bind_some, nIz, nAz, nRz, nEz, nDz, nI0z, nI1z, nA0z, nA1z, nE0z, nE1z, nR0z, nR1z, jcat2_r, jcat2_l, jlt_eq, ite01, ite01o, ite01p, ite00, ite10, xe1, xe2, xe3, xe4, xe5, xe6, if_true, if_false, f_X5_size, Int.reduceLE, Int.reduceLT, hz, h1, h2, h3, h4, and_self, ej, e1, W]
          exact cQ_val2 (fun c a1 _ => fr c a1)
        · simp only [xIsIn, cHas, cRoom, Option.bind_some, nIz, nAz, nRz, nEz, nDz, nI0z, nI1z, nA0z, nA1z, nE0z, nE1z, nR0z, nR1z, jcat2_r, jcat2_l, jlt_eq, ite01, ite01o, ite01p, ite00, ite10, xe1, xe2, xe3, xe4, xe5, xe6, if_true, if_false, f_X5_size, Int.reduceLE, Int.reduceLT, hz, h1, h2, h3, h4, and_self, and_false, and_true, true_and]
          exact cQ_thr (by decide)
      · simp only [xIsIn, cHas, cRoom, Option.bind_some, nIz, nAz, nRz, nEz, nDz, nI0z, nI1z, nA0z, nA1z, nE0z, nE1z, nR0z, nR1z, jcat2_r, jcat2_l, jlt_eq, ite01, ite01o, ite01p, ite00, ite10, xe1, xe2, xe3, xe4, xe5, xe6, if_true, if_false, f_X5_size, Int.reduceLE, Int.reduceLT, hz, h1, h2, h3, and_self, and_false, false_and, and_true, true_and]
        exact cQ_thr (by decide)
    · simp only [xIsIn, cHas, cRoom, Option.bind_some, nIz, nAz, nRz, nEz, nDz, nI0z, nI1z, nA0z, nA1z, nE0z, nE1z, nR0z, nR1z, jcat2_r, jcat2_l, jlt_eq, ite01, ite01o, ite01p, ite00, ite10, xe1, xe2, xe3, xe4, xe5, xe6, if_true, if_false, f_X5_size, Int.reduceLE, Int.reduceLT, hz, h1, h2, and_self, and_false, false_and, and_true, true_and]
      exact cQ_thr (by decide)
  · simp only [xIsIn, cHas, cRoom, Option.bind_some, nIz, nAz, nRz, nEz, nDz, nI0z, nI1z, nA0z, nA1z, nE0z, nE1z, nR0z, nR1z, jcat2_r, jcat2_l, jlt_eq, ite01, ite01o, ite01p, ite00, ite10, xe1, xe2, xe3, xe4, xe5, xe6, if_true, if_false, f_X5_size, Int.reduceLE, Int.reduceLT, hz, h1, false_and]
    exact cQ_thr (by decide)
theorem mq_why {m : jMu} (hA : kA m) (t bay d h : Int) : mQ (f_X10_why t bay d h m) m (kWhy (m 75) t bay d h) (sWhy (m 75) t bay (12 * d + h) (sT (m 75) (12 * d + h))) := by
  have hn := hA.1.n
  have hA' := kA_fM hA (fM.thr m 0)
  have e75 : jup m 74 0 0 75 = m 75 := jup_c (by decide)
  unfold f_X10_why f_X10_why_J32 f_X10_why_J37 kWhy
  by_cases h1 : 0 ≤ t ∧ t < m 75 5
  · by_cases h2 : 0 ≤ bay ∧ bay < m 75 0
    · by_cases h3 : 0 ≤ d ∧ d ≤ 199
      · by_cases h4 : 0 ≤ h ∧ h ≤ 11
        · have ej : jW (jW (12 * d) + h) = 12 * d + h := by rw [jW_of (z := 12 * d) (by omega) (by omega), jW_of (by omega) (by omega)]
          simp only [mIsIn, mDay, mHour, mMoment, Option.bind_some, ite01, ite01o, ite01p, ite00, ite10, jlt_eq, jup_s, le00, le10, le20, le30, if_true, if_false, Int.reduceLE, Int.reduceLT, mTerms _ hn.2.2.2.2.2.1, mBay _ hn.1, h1, h2, h3, h4, and_self, ej]
          obtain ⟨m', w1, w2, w3, w4, w5⟩ := m_why hA'.1 (t := t) (bay := bay) (mo := 12 * d + h) (by rw [e75]; exact h1) (by rw [e75]; exact h2) (by omega)
          rw [e75] at w1
          rw [w1]
          exact ⟨_, m', rfl, (fM.thr m 0).tr w2, by rw [w5, jup_s], fun _ => rfl⟩
        · simp only [mIsIn, mDay, mHour, mMoment, Option.bind_some, ite01, ite01o, ite01p, ite00, ite10, jlt_eq, jup_s, le00, le10, le20, le30, if_true, if_false, Int.reduceLE, Int.reduceLT, mTerms _ hn.2.2.2.2.2.1, mBay _ hn.1, h1, h2, h3, h4, and_self, and_false, and_true, true_and]
          exact mQ_thr (by decide)
      · simp only [mIsIn, mDay, mHour, mMoment, Option.bind_some, ite01, ite01o, ite01p, ite00, ite10, jlt_eq, jup_s, le00, le10, le20, le30, if_true, if_false, Int.reduceLE, Int.reduceLT, mTerms _ hn.2.2.2.2.2.1, mBay _ hn.1, h1, h2, h3, and_self, and_false, false_and, and_true, true_and]
        exact mQ_thr (by decide)
    · simp only [mIsIn, mDay, mHour, mMoment, Option.bind_some, ite01, ite01o, ite01p, ite00, ite10, jlt_eq, jup_s, le00, le10, le20, le30, if_true, if_false, Int.reduceLE, Int.reduceLT, mTerms _ hn.2.2.2.2.2.1, mBay _ hn.1, h1, h2, and_self, and_false, false_and, and_true, true_and]
      exact mQ_thr (by decide)
  · simp only [mIsIn, mDay, mHour, mMoment, Option.bind_some, ite01, ite01o, ite01p, ite00, ite10, jlt_eq, jup_s, le00, le10, le20, le30, if_true, if_false, Int.reduceLE, Int.reduceLT, mTerms _ hn.2.2.2.2.2.1, mBay _ hn.1, h1, false_and]
    exact mQ_thr (by decide)
