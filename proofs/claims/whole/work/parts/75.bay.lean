/-! LEVEL 2: a new bay -/
/-- a new bay's zeros -/
theorem mBayL {m : jMu} {a : Int} (h0 : 20 ≤ a) (h1 : a ≤ 83) : f_X10_bay_L130 jFU a 4 m = some (jW (jW (m 75 0 + 1) - 1), jup (jup (jup (jup (jup (jup m 75 (a + 4) 0) 75 (a + 5) 0) 75 (a + 6) 0) 75 (a + 7) 0) 75 (a + 8) 0) 75 0 (jW (m 75 0 + 1))) := by
  rw [show jFU = 99994 + 1 + 1 + 1 + 1 + 1 + 1 from rfl]
  have e : jup (jup (jup (jup (jup m 75 (a + 4) 0) 75 (a + 5) 0) 75 (a + 6) 0) 75 (a + 7) 0) 75 (a + 8) 0 75 0 = m 75 0 := by
    simp (disch := omega) only [jup_j]
  rw [f_X10_bay_L130]
  simp (disch := omega) only [if_neg, if_pos, jlt_eq, jW_of, Int.reduceAdd]
  rw [f_X10_bay_L130]
  simp (disch := omega) only [if_neg, if_pos, jlt_eq, jW_of, Int.reduceAdd]
  rw [f_X10_bay_L130]
  simp (disch := omega) only [if_neg, if_pos, jlt_eq, jW_of, Int.reduceAdd]
  rw [f_X10_bay_L130]
  simp (disch := omega) only [if_neg, if_pos, jlt_eq, jW_of, Int.reduceAdd]
  rw [f_X10_bay_L130]
  simp (disch := omega) only [if_neg, if_pos, jlt_eq, jW_of, Int.reduceAdd]
  rw [f_X10_bay_L130]
  simp only [Int.reduceLE, if_true, jlt_eq, e, jup_s]
theorem k_bay {m : jMu} (hA : kA m) (a b c0 d : Int) : ∃ o, ((f_L_bay a b c0 d m).bind fun r1 => (f_X10_bay a b c0 d r1.2).bind fun r2 => (f_X10_thrown r2.2).bind fun r3 => (if r3 = r1.1 then (if r1.1 = 0 then (if jCm (r2.2 87 0) r2.1 = 0 then some r2.2 else none) else some r2.2) else none)) = some o ∧ kA o := by
  have hz := hA.1.z
  have hn := hA.1.n
  have t0 : TabR m 4 5 10 8 (m 75 0) (kF (m 75) 0) := hA.1.t 0 (by decide)
  have r0 : kR (m 75) 0 := (hA.1.1 0 (by decide)).2
  have hS : TabS 4 5 80 10 8 := by unfold TabS; decide
  by_cases g1 : 0 ≤ a ∧ a ≤ 1
  rotate_left
  · exact km_bad (Fx := f_L_bay a b c0 d) (Fm := f_X10_bay a b c0 d) hA (k := 1) (by decide) (by unfold f_L_bay f_X9_bay f_X9_bay_J23 f_X9_bay_J24 f_X9_bay_J53 f_X9_bay_J54; simp only [xIsIn, cHas, cRoom, Option.bind_some, nIz, nAz, nRz, nEz, nDz, nI0z, nI1z, nA0z, nA1z, nE0z, nE1z, nR0z, nR1z, jcat2_r, jcat2_l, jlt_eq, ite01, ite01o, ite01p, ite00, ite10, xe1, xe2, xe3, xe4, xe5, xe6, if_true, if_false, f_X5_size, Int.reduceLE, Int.reduceLT, Int.lt_irrefl, hz, g1, and_self, and_true, true_and, and_false, false_and]) (by unfold f_X10_bay f_X10_bay_J42 f_X10_bay_J62; simp only [mIsIn, mDay, mHour, mMoment, Option.bind_some, ite01, ite01o, ite01p, ite00, ite10, jlt_eq, jup_s, le00, le10, le20, le30, if_true, if_false, Int.reduceLE, Int.reduceLT, mBay _ hn.1, mTerms _ hn.2.2.2.2.2.1, g1, and_self, and_true, true_and, and_false, false_and])
  by_cases g2 : 0 ≤ b ∧ b ≤ 9
  rotate_left
  · exact km_bad (Fx := f_L_bay a b c0 d) (Fm := f_X10_bay a b c0 d) hA (k := 1) (by decide) (by unfold f_L_bay f_X9_bay f_X9_bay_J23 f_X9_bay_J24 f_X9_bay_J53 f_X9_bay_J54; simp only [xIsIn, cHas, cRoom, Option.bind_some, nIz, nAz, nRz, nEz, nDz, nI0z, nI1z, nA0z, nA1z, nE0z, nE1z, nR0z, nR1z, jcat2_r, jcat2_l, jlt_eq, ite01, ite01o, ite01p, ite00, ite10, xe1, xe2, xe3, xe4, xe5, xe6, if_true, if_false, f_X5_size, Int.reduceLE, Int.reduceLT, Int.lt_irrefl, hz, g1, g2, and_self, and_true, true_and, and_false, false_and]) (by unfold f_X10_bay f_X10_bay_J42 f_X10_bay_J62; simp only [mIsIn, mDay, mHour, mMoment, Option.bind_some, ite01, ite01o, ite01p, ite00, ite10, jlt_eq, jup_s, le00, le10, le20, le30, if_true, if_false, Int.reduceLE, Int.reduceLT, mBay _ hn.1, mTerms _ hn.2.2.2.2.2.1, g1, g2, and_self, and_true, true_and, and_false, false_and])
  by_cases g3 : 1 ≤ c0 ∧ c0 ≤ 20
  rotate_left
  · exact km_bad (Fx := f_L_bay a b c0 d) (Fm := f_X10_bay a b c0 d) hA (k := 1) (by decide) (by unfold f_L_bay f_X9_bay f_X9_bay_J23 f_X9_bay_J24 f_X9_bay_J53 f_X9_bay_J54; simp only [xIsIn, cHas, cRoom, Option.bind_some, nIz, nAz, nRz, nEz, nDz, nI0z, nI1z, nA0z, nA1z, nE0z, nE1z, nR0z, nR1z, jcat2_r, jcat2_l, jlt_eq, ite01, ite01o, ite01p, ite00, ite10, xe1, xe2, xe3, xe4, xe5, xe6, if_true, if_false, f_X5_size, Int.reduceLE, Int.reduceLT, Int.lt_irrefl, hz, g1, g2, g3, and_self, and_true, true_and, and_false, false_and]) (by unfold f_X10_bay f_X10_bay_J42 f_X10_bay_J62; simp only [mIsIn, mDay, mHour, mMoment, Option.bind_some, ite01, ite01o, ite01p, ite00, ite10, jlt_eq, jup_s, le00, le10, le20, le30, if_true, if_false, Int.reduceLE, Int.reduceLT, mBay _ hn.1, mTerms _ hn.2.2.2.2.2.1, g1, g2, g3, and_self, and_true, true_and, and_false, false_and])
  by_cases g4 : 0 ≤ d ∧ d ≤ 500
  rotate_left
  · exact km_bad (Fx := f_L_bay a b c0 d) (Fm := f_X10_bay a b c0 d) hA (k := 1) (by decide) (by unfold f_L_bay f_X9_bay f_X9_bay_J23 f_X9_bay_J24 f_X9_bay_J53 f_X9_bay_J54; simp only [xIsIn, cHas, cRoom, Option.bind_some, nIz, nAz, nRz, nEz, nDz, nI0z, nI1z, nA0z, nA1z, nE0z, nE1z, nR0z, nR1z, jcat2_r, jcat2_l, jlt_eq, ite01, ite01o, ite01p, ite00, ite10, xe1, xe2, xe3, xe4, xe5, xe6, if_true, if_false, f_X5_size, Int.reduceLE, Int.reduceLT, Int.lt_irrefl, hz, g1, g2, g3, g4, and_self, and_true, true_and, and_false, false_and]) (by unfold f_X10_bay f_X10_bay_J42 f_X10_bay_J62; simp only [mIsIn, mDay, mHour, mMoment, Option.bind_some, ite01, ite01o, ite01p, ite00, ite10, jlt_eq, jup_s, le00, le10, le20, le30, if_true, if_false, Int.reduceLE, Int.reduceLT, mBay _ hn.1, mTerms _ hn.2.2.2.2.2.1, g1, g2, g3, g4, and_self, and_true, true_and, and_false, false_and])
  by_cases g5 : m 75 0 < 8
  rotate_left
  · have x50 : m 75 0 = 8 := by omega
    exact km_bad (Fx := f_L_bay a b c0 d) (Fm := f_X10_bay a b c0 d) hA (k := 2) (by decide) (by unfold f_L_bay f_X9_bay f_X9_bay_J23 f_X9_bay_J24 f_X9_bay_J53 f_X9_bay_J54; simp only [xIsIn, cHas, cRoom, Option.bind_some, nIz, nAz, nRz, nEz, nDz, nI0z, nI1z, nA0z, nA1z, nE0z, nE1z, nR0z, nR1z, jcat2_r, jcat2_l, jlt_eq, ite01, ite01o, ite01p, ite00, ite10, xe1, xe2, xe3, xe4, xe5, xe6, if_true, if_false, f_X5_size, Int.reduceLE, Int.reduceLT, Int.lt_irrefl, hz, g1, g2, g3, g4, g5, x50, and_self, and_true, true_and, and_false, false_and]) (by unfold f_X10_bay f_X10_bay_J42 f_X10_bay_J62; simp only [mIsIn, mDay, mHour, mMoment, Option.bind_some, ite01, ite01o, ite01p, ite00, ite10, jlt_eq, jup_s, le00, le10, le20, le30, if_true, if_false, Int.reduceLE, Int.reduceLT, mBay _ hn.1, mTerms _ hn.2.2.2.2.2.1, g1, g2, g3, g4, g5, x50, and_self, and_true, true_and, and_false, false_and])
  have x50 : ¬ (m 75 0 = 8) := by omega
  refine km_good (Fx := f_L_bay a b c0 d) (Fm := f_X10_bay a b c0 d) (K := 0) (by decide) (v := m 75 0) (M' := xst (xst (xst (xst (xst (xst (xst (xst (xst (xst (m 75) (20 + 9 * m 75 0) (a)) (20 + 9 * m 75 0 + 1) (b)) (20 + 9 * m 75 0 + 2) (c0)) (20 + 9 * m 75 0 + 3) (d)) (20 + 9 * m 75 0 + 4) (0)) (20 + 9 * m 75 0 + 5) (0)) (20 + 9 * m 75 0 + 6) (0)) (20 + 9 * m 75 0 + 7) (0)) (20 + 9 * m 75 0 + 8) (0)) 0 (m 75 0 + 1)) hA ?_ (fun m1 hm1 => ?_) ?_
  · obtain ⟨m1, e1, t1, f1⟩ := tb_add hS t0 (by omega)
    have d0 := tb_set (v := a) (r := m 75 0) (c := 0) hS t1 (by omega) (by omega) (by decide) (by decide)
    have u0 := TabR.set (v := a) (r := m 75 0) (c := 0) hS t1 (by decide) (by decide)
    have d1 := tb_set (v := b) (r := m 75 0) (c := 1) hS u0 (by omega) (by omega) (by decide) (by decide)
    have u1 := TabR.set (v := b) (r := m 75 0) (c := 1) hS u0 (by decide) (by decide)
    have d2 := tb_set (v := c0) (r := m 75 0) (c := 2) hS u1 (by omega) (by omega) (by decide) (by decide)
    have u2 := TabR.set (v := c0) (r := m 75 0) (c := 2) hS u1 (by decide) (by decide)
    have d3 := tb_set (v := d) (r := m 75 0) (c := 3) hS u2 (by omega) (by omega) (by decide) (by decide)
    have u3 := TabR.set (v := d) (r := m 75 0) (c := 3) hS u2 (by decide) (by decide)
    unfold f_L_bay f_X9_bay f_X9_bay_J23 f_X9_bay_J24 f_X9_bay_J53 f_X9_bay_J54
    simp only [xIsIn, cHas, cRoom, Option.bind_some, nIz, nAz, nRz, nEz, nDz, nI0z, nI1z, nA0z, nA1z, nE0z, nE1z, nR0z, nR1z, jcat2_r, jcat2_l, jlt_eq, ite01, ite01o, ite01p, ite00, ite10, xe1, xe2, xe3, xe4, xe5, xe6, if_true, if_false, f_X5_size, Int.reduceLE, Int.reduceLT, hz, g1, g2, g3, g4, g5, x50, and_self, and_true, true_and, and_false, false_and, e1, d0, d1, d2, d3]
    refine ⟨_, rfl, jup_s, fun c h1 h2 h3 => ?_, ?_⟩
    · have h1 : c ≠ 4 := h1
      have h2 : c ≠ 5 := h2
      rw [jup_c h3, jup_c h2, jup_c h2, jup_c h2, jup_c h2, f1 c h1 h2]
    · show TabR _ 4 5 10 8 (xst _ 0 (m 75 0 + 1) 0) _
      rw [xst_s]
      refine (u3.frame (jup_c (by decide)) (jup_c (by decide))).congr (fun r c h1 h2 h3 h4 => ?_)
      by_cases hr : r = m 75 0
      · subst hr
        obtain rfl | rfl | rfl | rfl | rfl | rfl | rfl | rfl | rfl | rfl : c = 0 ∨ c = 1 ∨ c = 2 ∨ c = 3 ∨ c = 4 ∨ c = 5 ∨ c = 6 ∨ c = 7 ∨ c = 8 ∨ c = 9 := by omega
        all_goals
          simp only [kF, Int.reduceEq, Int.reduceLT, Int.reduceAdd, Int.reduceSub, and_true, and_false, true_and, if_true, if_false, Int.add_zero]
          try simp (disch := omega) only [xst_n, xst_s]
      · simp only [kF, hr, false_and, if_false]
        simp (disch := omega) only [xst_n]
  · unfold f_X10_bay
    have hb0 := hn.1
    have hc0 := (hA.1.n).1
    clear hz hn t0 r0 hS hA
    simp (disch := omega) only [mIsIn, mDay, mHour, mMoment, Option.bind_some, ite01, ite01o, ite01p, ite00, ite10, jlt_eq, jup_s, le00, le10, le20, le30, if_true, if_false, Int.reduceLE, Int.reduceLT, mBay (m := m1) _ (by rw [hm1]; exact hb0), g1, g2, g3, g4, g5, x50, and_self, and_true, true_and, and_false, false_and, Int.add_sub_cancel, jup_c, xst_j, hm1, xst_n, xst_s, jW_of, if_pos]
    unfold f_X10_bay_J62
    simp (disch := omega) only [mIsIn, mDay, mHour, mMoment, Option.bind_some, ite01, ite01o, ite01p, ite00, ite10, jlt_eq, jup_s, le00, le10, le20, le30, if_true, if_false, Int.reduceLE, Int.reduceLT, mBay (m := m1) _ (by rw [hm1]; exact hb0), g1, g2, g3, g4, g5, x50, and_self, and_true, true_and, and_false, false_and, Int.add_sub_cancel, jup_c, xst_j, hm1, xst_n, xst_s, jW_of, if_pos]
    rw [mBayL (by omega) (by omega)]
    simp (disch := omega) only [jup_j, jup_c, hm1, jW_of, Int.add_sub_cancel]
    refine ⟨_, rfl, ?_, ?_, ?_, ?_⟩
    · rw [jup_c (by decide), jup_c (by decide), jup_c (by decide), jup_c (by decide), jup_c (by decide), jup_c (by decide), jup_c (by decide), jup_c (by decide), jup_c (by decide), jup_c (by decide), jup_s]
    · intro j hj
      rw [jup_c (by decide), jup_c (by decide), jup_c (by decide), jup_c (by decide), jup_c (by decide), jup_c (by decide), jup_c (by decide), jup_c (by decide), jup_c (by decide), jup_c (by decide), jup_j hj]
    · rw [xst_j, xst_j, xst_j, xst_j, xst_j, xst_j, xst_j, xst_j, xst_j, xst_j, jup_c (by decide), hm1]
    · intro c h1 h2
      rw [jup_c h2, jup_c h2, jup_c h2, jup_c h2, jup_c h2, jup_c h2, jup_c h2, jup_c h2, jup_c h2, jup_c h2, jup_c h1]
  · refine ⟨fun i hi => ?_, ?_, ?_⟩
    · have hi' : ¬ (i = 0 ∨ (20 ≤ i ∧ i < 92)) := hi
      simp (disch := omega) only [xst_n]
    · simp (disch := omega) only [xst_n, xst_s]
      omega
    · intro r h0 h1
      rw [xst_s] at h1
      by_cases hr : r = m 75 0
      · subst hr
        simp (disch := omega) only [xst_n, xst_s]
        omega
      · have := r0 r h0 (by omega)
        simp (disch := omega) only [xst_n]
        exact this
