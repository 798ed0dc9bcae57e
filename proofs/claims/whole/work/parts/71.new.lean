/-! LEVEL 2: calls that write a new row (by program) -/
theorem k_gang {m : jMu} (hA : kA m) (a : Int) : ∃ o, ((f_L_gang a m).bind fun r1 => (f_X10_gang a r1.2).bind fun r2 => (f_X10_thrown r2.2).bind fun r3 => (if r3 = r1.1 then (if r1.1 = 0 then (if jCm (r2.2 87 0) r2.1 = 0 then some r2.2 else none) else some r2.2) else none)) = some o ∧ kA o := by
  have hz := hA.1.z
  have hn := hA.1.n
  have t0 : TabR m 20 21 1 4 (m 75 6) (kF (m 75) 5) := hA.1.t 5 (by decide)
  have r0 : kR (m 75) 5 := (hA.1.1 5 (by decide)).2
  have hS : TabS 20 21 4 1 4 := by unfold TabS; decide
  by_cases g1 : 1 ≤ a ∧ a ≤ 5
  rotate_left
  · exact km_bad (Fx := f_L_gang a) (Fm := f_X10_gang a) hA (k := 1) (by decide) (by unfold f_L_gang f_X9_gang; simp only [xIsIn, cHas, cRoom, Option.bind_some, nIz, nAz, nRz, nEz, nDz, nI0z, nI1z, nA0z, nA1z, nE0z, nE1z, nR0z, nR1z, jcat2_r, jcat2_l, jlt_eq, ite01, ite01o, ite01p, ite00, ite10, xe1, xe2, xe3, xe4, xe5, xe6, if_true, if_false, f_X5_size, Int.reduceLE, Int.reduceLT, Int.lt_irrefl, hz, g1, and_self, and_true, true_and, and_false, false_and]) (by unfold f_X10_gang f_X10_gang_J30; simp only [mIsIn, mDay, mHour, mMoment, Option.bind_some, ite01, ite01o, ite01p, ite00, ite10, jlt_eq, jup_s, le00, le10, le20, le30, if_true, if_false, Int.reduceLE, Int.reduceLT, mBay _ hn.1, mTerms _ hn.2.2.2.2.2.1, g1, and_self, and_true, true_and, and_false, false_and])
  by_cases g2 : m 75 6 < 4
  rotate_left
  · have x20 : m 75 6 = 4 := by omega
    exact km_bad (Fx := f_L_gang a) (Fm := f_X10_gang a) hA (k := 2) (by decide) (by unfold f_L_gang f_X9_gang; simp only [xIsIn, cHas, cRoom, Option.bind_some, nIz, nAz, nRz, nEz, nDz, nI0z, nI1z, nA0z, nA1z, nE0z, nE1z, nR0z, nR1z, jcat2_r, jcat2_l, jlt_eq, ite01, ite01o, ite01p, ite00, ite10, xe1, xe2, xe3, xe4, xe5, xe6, if_true, if_false, f_X5_size, Int.reduceLE, Int.reduceLT, Int.lt_irrefl, hz, g1, g2, x20, and_self, and_true, true_and, and_false, false_and]) (by unfold f_X10_gang f_X10_gang_J30; simp only [mIsIn, mDay, mHour, mMoment, Option.bind_some, ite01, ite01o, ite01p, ite00, ite10, jlt_eq, jup_s, le00, le10, le20, le30, if_true, if_false, Int.reduceLE, Int.reduceLT, mBay _ hn.1, mTerms _ hn.2.2.2.2.2.1, g1, g2, x20, and_self, and_true, true_and, and_false, false_and])
  have x20 : ¬ (m 75 6 = 4) := by omega
  refine km_good (Fx := f_L_gang a) (Fm := f_X10_gang a) (K := 5) (by decide) (v := m 75 6) (M' := xst (xst (m 75) (348 + m 75 6) (a)) 6 (m 75 6 + 1)) hA ?_ (fun m1 hm1 => ?_) ?_
  · obtain ⟨m1, e1, t1, f1⟩ := tb_add hS t0 (by omega)
    have d0 := tb_set (v := a) (r := m 75 6) (c := 0) hS t1 (by omega) (by omega) (by decide) (by decide)
    have u0 := TabR.set (v := a) (r := m 75 6) (c := 0) hS t1 (by decide) (by decide)
    unfold f_L_gang f_X9_gang
    simp only [xIsIn, cHas, cRoom, Option.bind_some, nIz, nAz, nRz, nEz, nDz, nI0z, nI1z, nA0z, nA1z, nE0z, nE1z, nR0z, nR1z, jcat2_r, jcat2_l, jlt_eq, ite01, ite01o, ite01p, ite00, ite10, xe1, xe2, xe3, xe4, xe5, xe6, if_true, if_false, f_X5_size, Int.reduceLE, Int.reduceLT, hz, g1, g2, x20, and_self, and_true, true_and, and_false, false_and, e1, d0]
    refine ⟨_, rfl, jup_s, fun c h1 h2 h3 => ?_, ?_⟩
    · have h1 : c ≠ 20 := h1
      have h2 : c ≠ 21 := h2
      rw [jup_c h3, jup_c h2, f1 c h1 h2]
    · show TabR _ 20 21 1 4 (xst _ 6 (m 75 6 + 1) 6) _
      rw [xst_s]
      refine (u0.frame (jup_c (by decide)) (jup_c (by decide))).congr (fun r c h1 h2 h3 h4 => ?_)
      by_cases hr : r = m 75 6
      · subst hr
        obtain rfl : c = 0 := by omega
        all_goals
          simp only [kF, Int.reduceEq, Int.reduceLT, Int.reduceAdd, Int.reduceSub, and_true, and_false, true_and, if_true, if_false, Int.add_zero]
          try simp (disch := omega) only [xst_n, xst_s]
      · simp only [kF, hr, false_and, if_false]
        simp (disch := omega) only [xst_n]
  · unfold f_X10_gang f_X10_gang_J30
    have hb0 := hn.1
    have hc0 := (hA.1.n).2.2.2.2.2.2.1
    clear hz hn t0 r0 hS hA
    simp (disch := omega) only [mIsIn, mDay, mHour, mMoment, Option.bind_some, ite01, ite01o, ite01p, ite00, ite10, jlt_eq, jup_s, le00, le10, le20, le30, if_true, if_false, Int.reduceLE, Int.reduceLT, mBay (m := m1) _ (by rw [hm1]; exact hb0), g1, g2, x20, and_self, and_true, true_and, and_false, false_and, Int.add_sub_cancel, jup_c, xst_j, hm1, xst_n, xst_s, jW_of, if_pos]
    refine ⟨_, rfl, ?_, ?_, ?_, ?_⟩
    · rw [jup_c (by decide), jup_c (by decide), jup_s]
    · intro j hj
      rw [jup_c (by decide), jup_c (by decide), jup_j hj]
    · rw [xst_j, xst_j, jup_c (by decide), hm1]
    · intro c h1 h2
      rw [jup_c h2, jup_c h2, jup_c h1]
  · refine ⟨fun i hi => ?_, ?_, ?_⟩
    · have hi' : ¬ (i = 6 ∨ (348 ≤ i ∧ i < 352)) := hi
      simp (disch := omega) only [xst_n]
    · simp (disch := omega) only [xst_n, xst_s]
      omega
    · intro r h0 h1
      rw [xst_s] at h1
      by_cases hr : r = m 75 6
      · subst hr
        simp (disch := omega) only [xst_n, xst_s]
        omega
      · have := r0 r h0 (by omega)
        simp (disch := omega) only [xst_n]
        exact this
theorem k_batch {m : jMu} (hA : kA m) (a b c0 : Int) : ∃ o, ((f_L_batch a b c0 m).bind fun r1 => (f_X10_batch a b c0 r1.2).bind fun r2 => (f_X10_thrown r2.2).bind fun r3 => (if r3 = r1.1 then (if r1.1 = 0 then (if jCm (r2.2 87 0) r2.1 = 0 then some r2.2 else none) else some r2.2) else none)) = some o ∧ kA o := by
  have hz := hA.1.z
  have hn := hA.1.n
  have t0 : TabR m 22 23 4 6 (m 75 7) (kF (m 75) 6) := hA.1.t 6 (by decide)
  have r0 : kR (m 75) 6 := (hA.1.1 6 (by decide)).2
  have hS : TabS 22 23 24 4 6 := by unfold TabS; decide
  by_cases g1 : 0 ≤ a ∧ a ≤ 99
  rotate_left
  · exact km_bad (Fx := f_L_batch a b c0) (Fm := f_X10_batch a b c0) hA (k := 1) (by decide) (by unfold f_L_batch f_X9_batch f_X9_batch_J35 f_X9_batch_J36; simp only [xIsIn, cHas, cRoom, Option.bind_some, nIz, nAz, nRz, nEz, nDz, nI0z, nI1z, nA0z, nA1z, nE0z, nE1z, nR0z, nR1z, jcat2_r, jcat2_l, jlt_eq, ite01, ite01o, ite01p, ite00, ite10, xe1, xe2, xe3, xe4, xe5, xe6, if_true, if_false, f_X5_size, Int.reduceLE, Int.reduceLT, Int.lt_irrefl, hz, g1, and_self, and_true, true_and, and_false, false_and]) (by unfold f_X10_batch f_X10_batch_J32 f_X10_batch_J53; simp only [mIsIn, mDay, mHour, mMoment, Option.bind_some, ite01, ite01o, ite01p, ite00, ite10, jlt_eq, jup_s, le00, le10, le20, le30, if_true, if_false, Int.reduceLE, Int.reduceLT, mBay _ hn.1, mTerms _ hn.2.2.2.2.2.1, g1, and_self, and_true, true_and, and_false, false_and])
  by_cases g2 : 0 ≤ b ∧ b ≤ 50
  rotate_left
  · exact km_bad (Fx := f_L_batch a b c0) (Fm := f_X10_batch a b c0) hA (k := 1) (by decide) (by unfold f_L_batch f_X9_batch f_X9_batch_J35 f_X9_batch_J36; simp only [xIsIn, cHas, cRoom, Option.bind_some, nIz, nAz, nRz, nEz, nDz, nI0z, nI1z, nA0z, nA1z, nE0z, nE1z, nR0z, nR1z, jcat2_r, jcat2_l, jlt_eq, ite01, ite01o, ite01p, ite00, ite10, xe1, xe2, xe3, xe4, xe5, xe6, if_true, if_false, f_X5_size, Int.reduceLE, Int.reduceLT, Int.lt_irrefl, hz, g1, g2, and_self, and_true, true_and, and_false, false_and]) (by unfold f_X10_batch f_X10_batch_J32 f_X10_batch_J53; simp only [mIsIn, mDay, mHour, mMoment, Option.bind_some, ite01, ite01o, ite01p, ite00, ite10, jlt_eq, jup_s, le00, le10, le20, le30, if_true, if_false, Int.reduceLE, Int.reduceLT, mBay _ hn.1, mTerms _ hn.2.2.2.2.2.1, g1, g2, and_self, and_true, true_and, and_false, false_and])
  by_cases g3 : 0 ≤ c0 ∧ c0 ≤ 255
  rotate_left
  · exact km_bad (Fx := f_L_batch a b c0) (Fm := f_X10_batch a b c0) hA (k := 1) (by decide) (by unfold f_L_batch f_X9_batch f_X9_batch_J35 f_X9_batch_J36; simp only [xIsIn, cHas, cRoom, Option.bind_some, nIz, nAz, nRz, nEz, nDz, nI0z, nI1z, nA0z, nA1z, nE0z, nE1z, nR0z, nR1z, jcat2_r, jcat2_l, jlt_eq, ite01, ite01o, ite01p, ite00, ite10, xe1, xe2, xe3, xe4, xe5, xe6, if_true, if_false, f_X5_size, Int.reduceLE, Int.reduceLT, Int.lt_irrefl, hz, g1, g2, g3, and_self, and_true, true_and, and_false, false_and]) (by unfold f_X10_batch f_X10_batch_J32 f_X10_batch_J53; simp only [mIsIn, mDay, mHour, mMoment, Option.bind_some, ite01, ite01o, ite01p, ite00, ite10, jlt_eq, jup_s, le00, le10, le20, le30, if_true, if_false, Int.reduceLE, Int.reduceLT, mBay _ hn.1, mTerms _ hn.2.2.2.2.2.1, g1, g2, g3, and_self, and_true, true_and, and_false, false_and])
  by_cases g4 : m 75 7 < 6
  rotate_left
  · have x40 : m 75 7 = 6 := by omega
    exact km_bad (Fx := f_L_batch a b c0) (Fm := f_X10_batch a b c0) hA (k := 2) (by decide) (by unfold f_L_batch f_X9_batch f_X9_batch_J35 f_X9_batch_J36; simp only [xIsIn, cHas, cRoom, Option.bind_some, nIz, nAz, nRz, nEz, nDz, nI0z, nI1z, nA0z, nA1z, nE0z, nE1z, nR0z, nR1z, jcat2_r, jcat2_l, jlt_eq, ite01, ite01o, ite01p, ite00, ite10, xe1, xe2, xe3, xe4, xe5, xe6, if_true, if_false, f_X5_size, Int.reduceLE, Int.reduceLT, Int.lt_irrefl, hz, g1, g2, g3, g4, x40, and_self, and_true, true_and, and_false, false_and]) (by unfold f_X10_batch f_X10_batch_J32 f_X10_batch_J53; simp only [mIsIn, mDay, mHour, mMoment, Option.bind_some, ite01, ite01o, ite01p, ite00, ite10, jlt_eq, jup_s, le00, le10, le20, le30, if_true, if_false, Int.reduceLE, Int.reduceLT, mBay _ hn.1, mTerms _ hn.2.2.2.2.2.1, g1, g2, g3, g4, x40, and_self, and_true, true_and, and_false, false_and])
  have x40 : ¬ (m 75 7 = 6) := by omega
  refine km_good (Fx := f_L_batch a b c0) (Fm := f_X10_batch a b c0) (K := 6) (by decide) (v := m 75 7) (M' := xst (xst (xst (xst (xst (m 75) (352 + 4 * m 75 7) (a)) (352 + 4 * m 75 7 + 1) (b)) (352 + 4 * m 75 7 + 2) (c0)) (352 + 4 * m 75 7 + 3) (-1)) 7 (m 75 7 + 1)) hA ?_ (fun m1 hm1 => ?_) ?_
  · obtain ⟨m1, e1, t1, f1⟩ := tb_add hS t0 (by omega)
    have d0 := tb_set (v := a) (r := m 75 7) (c := 0) hS t1 (by omega) (by omega) (by decide) (by decide)
    have u0 := TabR.set (v := a) (r := m 75 7) (c := 0) hS t1 (by decide) (by decide)
    have d1 := tb_set (v := b) (r := m 75 7) (c := 1) hS u0 (by omega) (by omega) (by decide) (by decide)
    have u1 := TabR.set (v := b) (r := m 75 7) (c := 1) hS u0 (by decide) (by decide)
    have d2 := tb_set (v := c0) (r := m 75 7) (c := 2) hS u1 (by omega) (by omega) (by decide) (by decide)
    have u2 := TabR.set (v := c0) (r := m 75 7) (c := 2) hS u1 (by decide) (by decide)
    have d3 := tb_set (v := -1) (r := m 75 7) (c := 3) hS u2 (by omega) (by omega) (by decide) (by decide)
    have u3 := TabR.set (v := -1) (r := m 75 7) (c := 3) hS u2 (by decide) (by decide)
    unfold f_L_batch f_X9_batch f_X9_batch_J35 f_X9_batch_J36
    simp only [xIsIn, cHas, cRoom, Option.bind_some, nIz, nAz, nRz, nEz, nDz, nI0z, nI1z, nA0z, nA1z, nE0z, nE1z, nR0z, nR1z, jcat2_r, jcat2_l, jlt_eq, ite01, ite01o, ite01p, ite00, ite10, xe1, xe2, xe3, xe4, xe5, xe6, if_true, if_false, f_X5_size, Int.reduceLE, Int.reduceLT, hz, g1, g2, g3, g4, x40, and_self, and_true, true_and, and_false, false_and, e1, d0, d1, d2, d3]
    refine ⟨_, rfl, jup_s, fun c h1 h2 h3 => ?_, ?_⟩
    · have h1 : c ≠ 22 := h1
      have h2 : c ≠ 23 := h2
      rw [jup_c h3, jup_c h2, jup_c h2, jup_c h2, jup_c h2, f1 c h1 h2]
    · show TabR _ 22 23 4 6 (xst _ 7 (m 75 7 + 1) 7) _
      rw [xst_s]
      refine (u3.frame (jup_c (by decide)) (jup_c (by decide))).congr (fun r c h1 h2 h3 h4 => ?_)
      by_cases hr : r = m 75 7
      · subst hr
        obtain rfl | rfl | rfl | rfl : c = 0 ∨ c = 1 ∨ c = 2 ∨ c = 3 := by omega
        all_goals
          simp only [kF, Int.reduceEq, Int.reduceLT, Int.reduceAdd, Int.reduceSub, and_true, and_false, true_and, if_true, if_false, Int.add_zero]
          try simp (disch := omega) only [xst_n, xst_s]
      · simp only [kF, hr, false_and, if_false]
        simp (disch := omega) only [xst_n]
  · unfold f_X10_batch f_X10_batch_J32 f_X10_batch_J53
    have hb0 := hn.1
    have hc0 := (hA.1.n).2.2.2.2.2.2.2.1
    clear hz hn t0 r0 hS hA
    simp (disch := omega) only [mIsIn, mDay, mHour, mMoment, Option.bind_some, ite01, ite01o, ite01p, ite00, ite10, jlt_eq, jup_s, le00, le10, le20, le30, if_true, if_false, Int.reduceLE, Int.reduceLT, mBay (m := m1) _ (by rw [hm1]; exact hb0), g1, g2, g3, g4, x40, and_self, and_true, true_and, and_false, false_and, Int.add_sub_cancel, jup_c, xst_j, hm1, xst_n, xst_s, jW_of, if_pos]
    refine ⟨_, rfl, ?_, ?_, ?_, ?_⟩
    · rw [jup_c (by decide), jup_c (by decide), jup_c (by decide), jup_c (by decide), jup_c (by decide), jup_s]
    · intro j hj
      rw [jup_c (by decide), jup_c (by decide), jup_c (by decide), jup_c (by decide), jup_c (by decide), jup_j hj]
    · rw [xst_j, xst_j, xst_j, xst_j, xst_j, jup_c (by decide), hm1]
    · intro c h1 h2
      rw [jup_c h2, jup_c h2, jup_c h2, jup_c h2, jup_c h2, jup_c h1]
  · refine ⟨fun i hi => ?_, ?_, ?_⟩
    · have hi' : ¬ (i = 7 ∨ (352 ≤ i ∧ i < 376)) := hi
      simp (disch := omega) only [xst_n]
    · simp (disch := omega) only [xst_n, xst_s]
      omega
    · intro r h0 h1
      rw [xst_s] at h1
      by_cases hr : r = m 75 7
      · subst hr
        simp (disch := omega) only [xst_n, xst_s]
        omega
      · have := r0 r h0 (by omega)
        simp (disch := omega) only [xst_n]
        exact this
theorem k_nest {m : jMu} (hA : kA m) (a b c0 : Int) : ∃ o, ((f_L_nest a b c0 m).bind fun r1 => (f_X10_nest a b c0 r1.2).bind fun r2 => (f_X10_thrown r2.2).bind fun r3 => (if r3 = r1.1 then (if r1.1 = 0 then (if jCm (r2.2 87 0) r2.1 = 0 then some r2.2 else none) else some r2.2) else none)) = some o ∧ kA o := by
  have hz := hA.1.z
  have hn := hA.1.n
  have t0 : TabR m 12 13 3 8 (m 75 4) (kF (m 75) 4) := hA.1.t 4 (by decide)
  have r0 : kR (m 75) 4 := (hA.1.1 4 (by decide)).2
  have hS : TabS 12 13 24 3 8 := by unfold TabS; decide
  by_cases g1 : 0 ≤ a ∧ a < m 75 0
  rotate_left
  · exact km_bad (Fx := f_L_nest a b c0) (Fm := f_X10_nest a b c0) hA (k := 1) (by decide) (by unfold f_L_nest f_X9_nest f_X9_nest_J29; simp only [xIsIn, cHas, cRoom, Option.bind_some, nIz, nAz, nRz, nEz, nDz, nI0z, nI1z, nA0z, nA1z, nE0z, nE1z, nR0z, nR1z, jcat2_r, jcat2_l, jlt_eq, ite01, ite01o, ite01p, ite00, ite10, xe1, xe2, xe3, xe4, xe5, xe6, if_true, if_false, f_X5_size, Int.reduceLE, Int.reduceLT, Int.lt_irrefl, hz, g1, and_self, and_true, true_and, and_false, false_and]) (by unfold f_X10_nest f_X10_nest_J23 f_X10_nest_J52; simp only [mIsIn, mDay, mHour, mMoment, Option.bind_some, ite01, ite01o, ite01p, ite00, ite10, jlt_eq, jup_s, le00, le10, le20, le30, if_true, if_false, Int.reduceLE, Int.reduceLT, mBay _ hn.1, mTerms _ hn.2.2.2.2.2.1, g1, and_self, and_true, true_and, and_false, false_and])
  by_cases g2 : 0 ≤ b ∧ b ≤ 199
  rotate_left
  · exact km_bad (Fx := f_L_nest a b c0) (Fm := f_X10_nest a b c0) hA (k := 1) (by decide) (by unfold f_L_nest f_X9_nest f_X9_nest_J29; simp only [xIsIn, cHas, cRoom, Option.bind_some, nIz, nAz, nRz, nEz, nDz, nI0z, nI1z, nA0z, nA1z, nE0z, nE1z, nR0z, nR1z, jcat2_r, jcat2_l, jlt_eq, ite01, ite01o, ite01p, ite00, ite10, xe1, xe2, xe3, xe4, xe5, xe6, if_true, if_false, f_X5_size, Int.reduceLE, Int.reduceLT, Int.lt_irrefl, hz, g1, g2, and_self, and_true, true_and, and_false, false_and]) (by unfold f_X10_nest f_X10_nest_J23 f_X10_nest_J52; simp only [mIsIn, mDay, mHour, mMoment, Option.bind_some, ite01, ite01o, ite01p, ite00, ite10, jlt_eq, jup_s, le00, le10, le20, le30, if_true, if_false, Int.reduceLE, Int.reduceLT, mBay _ hn.1, mTerms _ hn.2.2.2.2.2.1, g1, g2, and_self, and_true, true_and, and_false, false_and])
  by_cases g3 : 0 ≤ c0 ∧ c0 ≤ 199
  rotate_left
  · exact km_bad (Fx := f_L_nest a b c0) (Fm := f_X10_nest a b c0) hA (k := 1) (by decide) (by unfold f_L_nest f_X9_nest f_X9_nest_J29; simp only [xIsIn, cHas, cRoom, Option.bind_some, nIz, nAz, nRz, nEz, nDz, nI0z, nI1z, nA0z, nA1z, nE0z, nE1z, nR0z, nR1z, jcat2_r, jcat2_l, jlt_eq, ite01, ite01o, ite01p, ite00, ite10, xe1, xe2, xe3, xe4, xe5, xe6, if_true, if_false, f_X5_size, Int.reduceLE, Int.reduceLT, Int.lt_irrefl, hz, g1, g2, g3, and_self, and_true, true_and, and_false, false_and]) (by unfold f_X10_nest f_X10_nest_J23 f_X10_nest_J52; simp only [mIsIn, mDay, mHour, mMoment, Option.bind_some, ite01, ite01o, ite01p, ite00, ite10, jlt_eq, jup_s, le00, le10, le20, le30, if_true, if_false, Int.reduceLE, Int.reduceLT, mBay _ hn.1, mTerms _ hn.2.2.2.2.2.1, g1, g2, g3, and_self, and_true, true_and, and_false, false_and])
  by_cases g4 : b ≤ c0
  rotate_left
  · have x40 : c0 < b := by omega
    exact km_bad (Fx := f_L_nest a b c0) (Fm := f_X10_nest a b c0) hA (k := 2) (by decide) (by unfold f_L_nest f_X9_nest f_X9_nest_J29; simp only [xIsIn, cHas, cRoom, Option.bind_some, nIz, nAz, nRz, nEz, nDz, nI0z, nI1z, nA0z, nA1z, nE0z, nE1z, nR0z, nR1z, jcat2_r, jcat2_l, jlt_eq, ite01, ite01o, ite01p, ite00, ite10, xe1, xe2, xe3, xe4, xe5, xe6, if_true, if_false, f_X5_size, Int.reduceLE, Int.reduceLT, Int.lt_irrefl, hz, g1, g2, g3, g4, x40, and_self, and_true, true_and, and_false, false_and]) (by unfold f_X10_nest f_X10_nest_J23 f_X10_nest_J52; simp only [mIsIn, mDay, mHour, mMoment, Option.bind_some, ite01, ite01o, ite01p, ite00, ite10, jlt_eq, jup_s, le00, le10, le20, le30, if_true, if_false, Int.reduceLE, Int.reduceLT, mBay _ hn.1, mTerms _ hn.2.2.2.2.2.1, g1, g2, g3, g4, x40, and_self, and_true, true_and, and_false, false_and])
  have x40 : ¬ (c0 < b) := by omega
  by_cases g5 : m 75 4 < 8
  rotate_left
  · have x50 : m 75 4 = 8 := by omega
    exact km_bad (Fx := f_L_nest a b c0) (Fm := f_X10_nest a b c0) hA (k := 3) (by decide) (by unfold f_L_nest f_X9_nest f_X9_nest_J29; simp only [xIsIn, cHas, cRoom, Option.bind_some, nIz, nAz, nRz, nEz, nDz, nI0z, nI1z, nA0z, nA1z, nE0z, nE1z, nR0z, nR1z, jcat2_r, jcat2_l, jlt_eq, ite01, ite01o, ite01p, ite00, ite10, xe1, xe2, xe3, xe4, xe5, xe6, if_true, if_false, f_X5_size, Int.reduceLE, Int.reduceLT, Int.lt_irrefl, hz, g1, g2, g3, g4, x40, g5, x50, and_self, and_true, true_and, and_false, false_and]) (by unfold f_X10_nest f_X10_nest_J23 f_X10_nest_J52; simp only [mIsIn, mDay, mHour, mMoment, Option.bind_some, ite01, ite01o, ite01p, ite00, ite10, jlt_eq, jup_s, le00, le10, le20, le30, if_true, if_false, Int.reduceLE, Int.reduceLT, mBay _ hn.1, mTerms _ hn.2.2.2.2.2.1, g1, g2, g3, g4, x40, g5, x50, and_self, and_true, true_and, and_false, false_and])
  have x50 : ¬ (m 75 4 = 8) := by omega
  refine km_good (Fx := f_L_nest a b c0) (Fm := f_X10_nest a b c0) (K := 4) (by decide) (v := m 75 4) (M' := xst (xst (xst (xst (m 75) (324 + 3 * m 75 4) (a)) (324 + 3 * m 75 4 + 1) (b)) (324 + 3 * m 75 4 + 2) (c0)) 4 (m 75 4 + 1)) hA ?_ (fun m1 hm1 => ?_) ?_
  · obtain ⟨m1, e1, t1, f1⟩ := tb_add hS t0 (by omega)
    have d0 := tb_set (v := b) (r := m 75 4) (c := 0) hS t1 (by omega) (by omega) (by decide) (by decide)
    have u0 := TabR.set (v := b) (r := m 75 4) (c := 0) hS t1 (by decide) (by decide)
    have d1 := tb_set (v := c0) (r := m 75 4) (c := 1) hS u0 (by omega) (by omega) (by decide) (by decide)
    have u1 := TabR.set (v := c0) (r := m 75 4) (c := 1) hS u0 (by decide) (by decide)
    have d2 := tb_set (v := a) (r := m 75 4) (c := 2) hS u1 (by omega) (by omega) (by decide) (by decide)
    have u2 := TabR.set (v := a) (r := m 75 4) (c := 2) hS u1 (by decide) (by decide)
    unfold f_L_nest f_X9_nest f_X9_nest_J29
    simp only [xIsIn, cHas, cRoom, Option.bind_some, nIz, nAz, nRz, nEz, nDz, nI0z, nI1z, nA0z, nA1z, nE0z, nE1z, nR0z, nR1z, jcat2_r, jcat2_l, jlt_eq, ite01, ite01o, ite01p, ite00, ite10, xe1, xe2, xe3, xe4, xe5, xe6, if_true, if_false, f_X5_size, Int.reduceLE, Int.reduceLT, hz, g1, g2, g3, g4, x40, g5, x50, and_self, and_true, true_and, and_false, false_and, e1, d0, d1, d2]
    refine ⟨_, rfl, jup_s, fun c h1 h2 h3 => ?_, ?_⟩
    · have h1 : c ≠ 12 := h1
      have h2 : c ≠ 13 := h2
      rw [jup_c h3, jup_c h2, jup_c h2, jup_c h2, f1 c h1 h2]
    · show TabR _ 12 13 3 8 (xst _ 4 (m 75 4 + 1) 4) _
      rw [xst_s]
      refine (u2.frame (jup_c (by decide)) (jup_c (by decide))).congr (fun r c h1 h2 h3 h4 => ?_)
      by_cases hr : r = m 75 4
      · subst hr
        obtain rfl | rfl | rfl : c = 0 ∨ c = 1 ∨ c = 2 := by omega
        all_goals
          simp only [kF, Int.reduceEq, Int.reduceLT, Int.reduceAdd, Int.reduceSub, and_true, and_false, true_and, if_true, if_false, Int.add_zero]
          try simp (disch := omega) only [xst_n, xst_s]
      · simp only [kF, hr, false_and, if_false]
        simp (disch := omega) only [xst_n]
  · unfold f_X10_nest f_X10_nest_J23 f_X10_nest_J52
    have hb0 := hn.1
    have hc0 := (hA.1.n).2.2.2.2.1
    clear hz hn t0 r0 hS hA
    simp (disch := omega) only [mIsIn, mDay, mHour, mMoment, Option.bind_some, ite01, ite01o, ite01p, ite00, ite10, jlt_eq, jup_s, le00, le10, le20, le30, if_true, if_false, Int.reduceLE, Int.reduceLT, mBay (m := m1) _ (by rw [hm1]; exact hb0), g1, g2, g3, g4, x40, g5, x50, and_self, and_true, true_and, and_false, false_and, Int.add_sub_cancel, jup_c, xst_j, hm1, xst_n, xst_s, jW_of, if_pos]
    refine ⟨_, rfl, ?_, ?_, ?_, ?_⟩
    · rw [jup_c (by decide), jup_c (by decide), jup_c (by decide), jup_c (by decide), jup_s]
    · intro j hj
      rw [jup_c (by decide), jup_c (by decide), jup_c (by decide), jup_c (by decide), jup_j hj]
    · rw [xst_j, xst_j, xst_j, xst_j, jup_c (by decide), hm1]
    · intro c h1 h2
      rw [jup_c h2, jup_c h2, jup_c h2, jup_c h2, jup_c h1]
  · refine ⟨fun i hi => ?_, ?_, ?_⟩
    · have hi' : ¬ (i = 4 ∨ (324 ≤ i ∧ i < 348)) := hi
      simp (disch := omega) only [xst_n]
    · simp (disch := omega) only [xst_n, xst_s]
      omega
    · trivial
theorem k_span0 {m : jMu} (hA : kA m) (b c0 : Int) : ∃ o, ((f_L_span 0 b c0 m).bind fun r1 => (f_X10_span 0 b c0 r1.2).bind fun r2 => (f_X10_thrown r2.2).bind fun r3 => (if r3 = r1.1 then (if r1.1 = 0 then (if jCm (r2.2 87 0) r2.1 = 0 then some r2.2 else none) else some r2.2) else none)) = some o ∧ kA o := by
  have hz := hA.1.z
  have hn := hA.1.n
  have t0 : TabR m 8 9 2 6 (m 75 2) (kF (m 75) 2) := hA.1.t 2 (by decide)
  have r0 : kR (m 75) 2 := (hA.1.1 2 (by decide)).2
  have hS : TabS 8 9 12 2 6 := by unfold TabS; decide
  by_cases g1 : 0 ≤ b ∧ b ≤ 199
  rotate_left
  · exact km_bad (Fx := f_L_span 0 b c0) (Fm := f_X10_span 0 b c0) hA (k := 1) (by decide) (by unfold f_L_span f_X9_span f_X9_span_J15 f_X9_span_J39x f_X9_span_J39; simp only [xIsIn, cHas, cRoom, Option.bind_some, nIz, nAz, nRz, nEz, nDz, nI0z, nI1z, nA0z, nA1z, nE0z, nE1z, nR0z, nR1z, jcat2_r, jcat2_l, jlt_eq, ite01, ite01o, ite01p, ite00, ite10, xe1, xe2, xe3, xe4, xe5, xe6, if_true, if_false, f_X5_size, Int.reduceLE, Int.reduceLT, Int.lt_irrefl, hz, g1, and_self, and_true, true_and, and_false, false_and]) (by unfold f_X10_span f_X10_span_J9 f_X10_span_J56 f_X10_span_J26 f_X10_span_J64 f_X10_span_J89; simp only [mIsIn, mDay, mHour, mMoment, Option.bind_some, ite01, ite01o, ite01p, ite00, ite10, jlt_eq, jup_s, le00, le10, le20, le30, if_true, if_false, Int.reduceLE, Int.reduceLT, mBay _ hn.1, mTerms _ hn.2.2.2.2.2.1, g1, and_self, and_true, true_and, and_false, false_and])
  by_cases g2 : 0 ≤ c0 ∧ c0 ≤ 199
  rotate_left
  · exact km_bad (Fx := f_L_span 0 b c0) (Fm := f_X10_span 0 b c0) hA (k := 1) (by decide) (by unfold f_L_span f_X9_span f_X9_span_J15 f_X9_span_J39x f_X9_span_J39; simp only [xIsIn, cHas, cRoom, Option.bind_some, nIz, nAz, nRz, nEz, nDz, nI0z, nI1z, nA0z, nA1z, nE0z, nE1z, nR0z, nR1z, jcat2_r, jcat2_l, jlt_eq, ite01, ite01o, ite01p, ite00, ite10, xe1, xe2, xe3, xe4, xe5, xe6, if_true, if_false, f_X5_size, Int.reduceLE, Int.reduceLT, Int.lt_irrefl, hz, g1, g2, and_self, and_true, true_and, and_false, false_and]) (by unfold f_X10_span f_X10_span_J9 f_X10_span_J56 f_X10_span_J26 f_X10_span_J64 f_X10_span_J89; simp only [mIsIn, mDay, mHour, mMoment, Option.bind_some, ite01, ite01o, ite01p, ite00, ite10, jlt_eq, jup_s, le00, le10, le20, le30, if_true, if_false, Int.reduceLE, Int.reduceLT, mBay _ hn.1, mTerms _ hn.2.2.2.2.2.1, g1, g2, and_self, and_true, true_and, and_false, false_and])
  by_cases g3 : b ≤ c0
  rotate_left
  · have x30 : c0 < b := by omega
    exact km_bad (Fx := f_L_span 0 b c0) (Fm := f_X10_span 0 b c0) hA (k := 2) (by decide) (by unfold f_L_span f_X9_span f_X9_span_J15 f_X9_span_J39x f_X9_span_J39; simp only [xIsIn, cHas, cRoom, Option.bind_some, nIz, nAz, nRz, nEz, nDz, nI0z, nI1z, nA0z, nA1z, nE0z, nE1z, nR0z, nR1z, jcat2_r, jcat2_l, jlt_eq, ite01, ite01o, ite01p, ite00, ite10, xe1, xe2, xe3, xe4, xe5, xe6, if_true, if_false, f_X5_size, Int.reduceLE, Int.reduceLT, Int.lt_irrefl, hz, g1, g2, g3, x30, and_self, and_true, true_and, and_false, false_and]) (by unfold f_X10_span f_X10_span_J9 f_X10_span_J56 f_X10_span_J26 f_X10_span_J64 f_X10_span_J89; simp only [mIsIn, mDay, mHour, mMoment, Option.bind_some, ite01, ite01o, ite01p, ite00, ite10, jlt_eq, jup_s, le00, le10, le20, le30, if_true, if_false, Int.reduceLE, Int.reduceLT, mBay _ hn.1, mTerms _ hn.2.2.2.2.2.1, g1, g2, g3, x30, and_self, and_true, true_and, and_false, false_and])
  have x30 : ¬ (c0 < b) := by omega
  by_cases g4 : m 75 2 < 6
  rotate_left
  · have x40 : m 75 2 = 6 := by omega
    exact km_bad (Fx := f_L_span 0 b c0) (Fm := f_X10_span 0 b c0) hA (k := 3) (by decide) (by unfold f_L_span f_X9_span f_X9_span_J15 f_X9_span_J39x f_X9_span_J39; simp only [xIsIn, cHas, cRoom, Option.bind_some, nIz, nAz, nRz, nEz, nDz, nI0z, nI1z, nA0z, nA1z, nE0z, nE1z, nR0z, nR1z, jcat2_r, jcat2_l, jlt_eq, ite01, ite01o, ite01p, ite00, ite10, xe1, xe2, xe3, xe4, xe5, xe6, if_true, if_false, f_X5_size, Int.reduceLE, Int.reduceLT, Int.lt_irrefl, hz, g1, g2, g3, x30, g4, x40, and_self, and_true, true_and, and_false, false_and]) (by unfold f_X10_span f_X10_span_J9 f_X10_span_J56 f_X10_span_J26 f_X10_span_J64 f_X10_span_J89; simp only [mIsIn, mDay, mHour, mMoment, Option.bind_some, ite01, ite01o, ite01p, ite00, ite10, jlt_eq, jup_s, le00, le10, le20, le30, if_true, if_false, Int.reduceLE, Int.reduceLT, mBay _ hn.1, mTerms _ hn.2.2.2.2.2.1, g1, g2, g3, x30, g4, x40, and_self, and_true, true_and, and_false, false_and])
  have x40 : ¬ (m 75 2 = 6) := by omega
  refine km_good (Fx := f_L_span 0 b c0) (Fm := f_X10_span 0 b c0) (K := 2) (by decide) (v := m 75 2 + 1) (M' := xst (xst (xst (m 75) (302 + 2 * m 75 2) (b)) (302 + 2 * m 75 2 + 1) (c0)) 2 (m 75 2 + 1)) hA ?_ (fun m1 hm1 => ?_) ?_
  · obtain ⟨m1, e1, t1, f1⟩ := tb_add hS t0 (by omega)
    have d0 := tb_set (v := b) (r := m 75 2) (c := 0) hS t1 (by omega) (by omega) (by decide) (by decide)
    have u0 := TabR.set (v := b) (r := m 75 2) (c := 0) hS t1 (by decide) (by decide)
    have d1 := tb_set (v := c0) (r := m 75 2) (c := 1) hS u0 (by omega) (by omega) (by decide) (by decide)
    have u1 := TabR.set (v := c0) (r := m 75 2) (c := 1) hS u0 (by decide) (by decide)
    unfold f_L_span f_X9_span f_X9_span_J15 f_X9_span_J39x f_X9_span_J39
    simp only [xIsIn, cHas, cRoom, Option.bind_some, nIz, nAz, nRz, nEz, nDz, nI0z, nI1z, nA0z, nA1z, nE0z, nE1z, nR0z, nR1z, jcat2_r, jcat2_l, jlt_eq, ite01, ite01o, ite01p, ite00, ite10, xe1, xe2, xe3, xe4, xe5, xe6, if_true, if_false, f_X5_size, Int.reduceLE, Int.reduceLT, hz, g1, g2, g3, x30, g4, x40, and_self, and_true, true_and, and_false, false_and, e1, d0, d1]
    refine ⟨_, rfl, by rw [jup_s]; exact u1.2.2.1, fun c h1 h2 h3 => ?_, ?_⟩
    · have h1 : c ≠ 8 := h1
      have h2 : c ≠ 9 := h2
      rw [jup_c h3, jup_c h2, jup_c h2, f1 c h1 h2]
    · show TabR _ 8 9 2 6 (xst _ 2 (m 75 2 + 1) 2) _
      rw [xst_s]
      refine (u1.frame (jup_c (by decide)) (jup_c (by decide))).congr (fun r c h1 h2 h3 h4 => ?_)
      by_cases hr : r = m 75 2
      · subst hr
        obtain rfl | rfl : c = 0 ∨ c = 1 := by omega
        all_goals
          simp only [kF, Int.reduceEq, Int.reduceLT, Int.reduceAdd, Int.reduceSub, and_true, and_false, true_and, if_true, if_false, Int.add_zero]
          try simp (disch := omega) only [xst_n, xst_s]
      · simp only [kF, hr, false_and, if_false]
        simp (disch := omega) only [xst_n]
  · unfold f_X10_span f_X10_span_J9 f_X10_span_J56 f_X10_span_J26 f_X10_span_J64 f_X10_span_J89
    have hb0 := hn.1
    have hc0 := (hA.1.n).2.2.1
    clear hz hn t0 r0 hS hA
    simp (disch := omega) only [mIsIn, mDay, mHour, mMoment, Option.bind_some, ite01, ite01o, ite01p, ite00, ite10, jlt_eq, jup_s, le00, le10, le20, le30, if_true, if_false, Int.reduceLE, Int.reduceLT, mBay (m := m1) _ (by rw [hm1]; exact hb0), g1, g2, g3, x30, g4, x40, and_self, and_true, true_and, and_false, false_and, Int.add_sub_cancel, jup_c, xst_j, hm1, xst_n, xst_s, jW_of, if_pos]
    refine ⟨_, rfl, ?_, ?_, ?_, ?_⟩
    · rw [jup_c (by decide), jup_c (by decide), jup_c (by decide), jup_s]
    · intro j hj
      rw [jup_c (by decide), jup_c (by decide), jup_c (by decide), jup_j hj]
    · rw [xst_j, xst_j, xst_j, jup_c (by decide), hm1]
    · intro c h1 h2
      rw [jup_c h2, jup_c h2, jup_c h2, jup_c h1]
  · refine ⟨fun i hi => ?_, ?_, ?_⟩
    · have hi' : ¬ (i = 2 ∨ (302 ≤ i ∧ i < 314)) := hi
      simp (disch := omega) only [xst_n]
    · simp (disch := omega) only [xst_n, xst_s]
      omega
    · trivial
theorem k_span1 {m : jMu} (hA : kA m) (b c0 : Int) : ∃ o, ((f_L_span 1 b c0 m).bind fun r1 => (f_X10_span 1 b c0 r1.2).bind fun r2 => (f_X10_thrown r2.2).bind fun r3 => (if r3 = r1.1 then (if r1.1 = 0 then (if jCm (r2.2 87 0) r2.1 = 0 then some r2.2 else none) else some r2.2) else none)) = some o ∧ kA o := by
  have hz := hA.1.z
  have hn := hA.1.n
  have t0 : TabR m 10 11 2 5 (m 75 3) (kF (m 75) 3) := hA.1.t 3 (by decide)
  have r0 : kR (m 75) 3 := (hA.1.1 3 (by decide)).2
  have hS : TabS 10 11 10 2 5 := by unfold TabS; decide
  by_cases g1 : 0 ≤ b ∧ b ≤ 199
  rotate_left
  · exact km_bad (Fx := f_L_span 1 b c0) (Fm := f_X10_span 1 b c0) hA (k := 1) (by decide) (by unfold f_L_span f_X9_span f_X9_span_J15 f_X9_span_J39x f_X9_span_J39; simp only [xIsIn, cHas, cRoom, Option.bind_some, nIz, nAz, nRz, nEz, nDz, nI0z, nI1z, nA0z, nA1z, nE0z, nE1z, nR0z, nR1z, jcat2_r, jcat2_l, jlt_eq, ite01, ite01o, ite01p, ite00, ite10, xe1, xe2, xe3, xe4, xe5, xe6, if_true, if_false, f_X5_size, Int.reduceLE, Int.reduceLT, Int.lt_irrefl, hz, g1, and_self, and_true, true_and, and_false, false_and]) (by unfold f_X10_span f_X10_span_J9 f_X10_span_J56 f_X10_span_J26 f_X10_span_J64 f_X10_span_J89; simp only [mIsIn, mDay, mHour, mMoment, Option.bind_some, ite01, ite01o, ite01p, ite00, ite10, jlt_eq, jup_s, le00, le10, le20, le30, if_true, if_false, Int.reduceLE, Int.reduceLT, mBay _ hn.1, mTerms _ hn.2.2.2.2.2.1, g1, and_self, and_true, true_and, and_false, false_and])
  by_cases g2 : 0 ≤ c0 ∧ c0 ≤ 199
  rotate_left
  · exact km_bad (Fx := f_L_span 1 b c0) (Fm := f_X10_span 1 b c0) hA (k := 1) (by decide) (by unfold f_L_span f_X9_span f_X9_span_J15 f_X9_span_J39x f_X9_span_J39; simp only [xIsIn, cHas, cRoom, Option.bind_some, nIz, nAz, nRz, nEz, nDz, nI0z, nI1z, nA0z, nA1z, nE0z, nE1z, nR0z, nR1z, jcat2_r, jcat2_l, jlt_eq, ite01, ite01o, ite01p, ite00, ite10, xe1, xe2, xe3, xe4, xe5, xe6, if_true, if_false, f_X5_size, Int.reduceLE, Int.reduceLT, Int.lt_irrefl, hz, g1, g2, and_self, and_true, true_and, and_false, false_and]) (by unfold f_X10_span f_X10_span_J9 f_X10_span_J56 f_X10_span_J26 f_X10_span_J64 f_X10_span_J89; simp only [mIsIn, mDay, mHour, mMoment, Option.bind_some, ite01, ite01o, ite01p, ite00, ite10, jlt_eq, jup_s, le00, le10, le20, le30, if_true, if_false, Int.reduceLE, Int.reduceLT, mBay _ hn.1, mTerms _ hn.2.2.2.2.2.1, g1, g2, and_self, and_true, true_and, and_false, false_and])
  by_cases g3 : b ≤ c0
  rotate_left
  · have x30 : c0 < b := by omega
    exact km_bad (Fx := f_L_span 1 b c0) (Fm := f_X10_span 1 b c0) hA (k := 2) (by decide) (by unfold f_L_span f_X9_span f_X9_span_J15 f_X9_span_J39x f_X9_span_J39; simp only [xIsIn, cHas, cRoom, Option.bind_some, nIz, nAz, nRz, nEz, nDz, nI0z, nI1z, nA0z, nA1z, nE0z, nE1z, nR0z, nR1z, jcat2_r, jcat2_l, jlt_eq, ite01, ite01o, ite01p, ite00, ite10, xe1, xe2, xe3, xe4, xe5, xe6, if_true, if_false, f_X5_size, Int.reduceLE, Int.reduceLT, Int.lt_irrefl, hz, g1, g2, g3, x30, and_self, and_true, true_and, and_false, false_and]) (by unfold f_X10_span f_X10_span_J9 f_X10_span_J56 f_X10_span_J26 f_X10_span_J64 f_X10_span_J89; simp only [mIsIn, mDay, mHour, mMoment, Option.bind_some, ite01, ite01o, ite01p, ite00, ite10, jlt_eq, jup_s, le00, le10, le20, le30, if_true, if_false, Int.reduceLE, Int.reduceLT, mBay _ hn.1, mTerms _ hn.2.2.2.2.2.1, g1, g2, g3, x30, and_self, and_true, true_and, and_false, false_and])
  have x30 : ¬ (c0 < b) := by omega
  by_cases g4 : m 75 3 < 5
  rotate_left
  · have x40 : m 75 3 = 5 := by omega
    exact km_bad (Fx := f_L_span 1 b c0) (Fm := f_X10_span 1 b c0) hA (k := 3) (by decide) (by unfold f_L_span f_X9_span f_X9_span_J15 f_X9_span_J39x f_X9_span_J39; simp only [xIsIn, cHas, cRoom, Option.bind_some, nIz, nAz, nRz, nEz, nDz, nI0z, nI1z, nA0z, nA1z, nE0z, nE1z, nR0z, nR1z, jcat2_r, jcat2_l, jlt_eq, ite01, ite01o, ite01p, ite00, ite10, xe1, xe2, xe3, xe4, xe5, xe6, if_true, if_false, f_X5_size, Int.reduceLE, Int.reduceLT, Int.lt_irrefl, hz, g1, g2, g3, x30, g4, x40, and_self, and_true, true_and, and_false, false_and]) (by unfold f_X10_span f_X10_span_J9 f_X10_span_J56 f_X10_span_J26 f_X10_span_J64 f_X10_span_J89; simp only [mIsIn, mDay, mHour, mMoment, Option.bind_some, ite01, ite01o, ite01p, ite00, ite10, jlt_eq, jup_s, le00, le10, le20, le30, if_true, if_false, Int.reduceLE, Int.reduceLT, mBay _ hn.1, mTerms _ hn.2.2.2.2.2.1, g1, g2, g3, x30, g4, x40, and_self, and_true, true_and, and_false, false_and])
  have x40 : ¬ (m 75 3 = 5) := by omega
  refine km_good (Fx := f_L_span 1 b c0) (Fm := f_X10_span 1 b c0) (K := 3) (by decide) (v := m 75 3 + 1) (M' := xst (xst (xst (m 75) (314 + 2 * m 75 3) (b)) (314 + 2 * m 75 3 + 1) (c0)) 3 (m 75 3 + 1)) hA ?_ (fun m1 hm1 => ?_) ?_
  · obtain ⟨m1, e1, t1, f1⟩ := tb_add hS t0 (by omega)
    have d0 := tb_set (v := b) (r := m 75 3) (c := 0) hS t1 (by omega) (by omega) (by decide) (by decide)
    have u0 := TabR.set (v := b) (r := m 75 3) (c := 0) hS t1 (by decide) (by decide)
    have d1 := tb_set (v := c0) (r := m 75 3) (c := 1) hS u0 (by omega) (by omega) (by decide) (by decide)
    have u1 := TabR.set (v := c0) (r := m 75 3) (c := 1) hS u0 (by decide) (by decide)
    unfold f_L_span f_X9_span f_X9_span_J15 f_X9_span_J39x f_X9_span_J39
    simp only [xIsIn, cHas, cRoom, Option.bind_some, nIz, nAz, nRz, nEz, nDz, nI0z, nI1z, nA0z, nA1z, nE0z, nE1z, nR0z, nR1z, jcat2_r, jcat2_l, jlt_eq, ite01, ite01o, ite01p, ite00, ite10, xe1, xe2, xe3, xe4, xe5, xe6, if_true, if_false, f_X5_size, Int.reduceLE, Int.reduceLT, hz, g1, g2, g3, x30, g4, x40, and_self, and_true, true_and, and_false, false_and, e1, d0, d1]
    refine ⟨_, rfl, by rw [jup_s]; exact u1.2.2.1, fun c h1 h2 h3 => ?_, ?_⟩
    · have h1 : c ≠ 10 := h1
      have h2 : c ≠ 11 := h2
      rw [jup_c h3, jup_c h2, jup_c h2, f1 c h1 h2]
    · show TabR _ 10 11 2 5 (xst _ 3 (m 75 3 + 1) 3) _
      rw [xst_s]
      refine (u1.frame (jup_c (by decide)) (jup_c (by decide))).congr (fun r c h1 h2 h3 h4 => ?_)
      by_cases hr : r = m 75 3
      · subst hr
        obtain rfl | rfl : c = 0 ∨ c = 1 := by omega
        all_goals
          simp only [kF, Int.reduceEq, Int.reduceLT, Int.reduceAdd, Int.reduceSub, and_true, and_false, true_and, if_true, if_false, Int.add_zero]
          try simp (disch := omega) only [xst_n, xst_s]
      · simp only [kF, hr, false_and, if_false]
        simp (disch := omega) only [xst_n]
  · unfold f_X10_span f_X10_span_J9 f_X10_span_J56 f_X10_span_J26 f_X10_span_J64 f_X10_span_J89
    have hb0 := hn.1
    have hc0 := (hA.1.n).2.2.2.1
    clear hz hn t0 r0 hS hA
    simp (disch := omega) only [mIsIn, mDay, mHour, mMoment, Option.bind_some, ite01, ite01o, ite01p, ite00, ite10, jlt_eq, jup_s, le00, le10, le20, le30, if_true, if_false, Int.reduceLE, Int.reduceLT, mBay (m := m1) _ (by rw [hm1]; exact hb0), g1, g2, g3, x30, g4, x40, and_self, and_true, true_and, and_false, false_and, Int.add_sub_cancel, jup_c, xst_j, hm1, xst_n, xst_s, jW_of, if_pos]
    refine ⟨_, rfl, ?_, ?_, ?_, ?_⟩
    · rw [jup_c (by decide), jup_c (by decide), jup_c (by decide), jup_s]
    · intro j hj
      rw [jup_c (by decide), jup_c (by decide), jup_c (by decide), jup_j hj]
    · rw [xst_j, xst_j, xst_j, jup_c (by decide), hm1]
    · intro c h1 h2
      rw [jup_c h2, jup_c h2, jup_c h2, jup_c h1]
  · refine ⟨fun i hi => ?_, ?_, ?_⟩
    · have hi' : ¬ (i = 3 ∨ (314 ≤ i ∧ i < 324)) := hi
      simp (disch := omega) only [xst_n]
    · simp (disch := omega) only [xst_n, xst_s]
      omega
    · trivial
theorem k_reading {m : jMu} (hA : kA m) (a b c0 : Int) : ∃ o, ((f_L_reading a b c0 m).bind fun r1 => (f_X10_reading a b c0 r1.2).bind fun r2 => (f_X10_thrown r2.2).bind fun r3 => (if r3 = r1.1 then (if r1.1 = 0 then (if jCm (r2.2 87 0) r2.1 = 0 then some r2.2 else none) else some r2.2) else none)) = some o ∧ kA o := by
  have hz := hA.1.z
  have hn := hA.1.n
  have t0 : TabR m 26 27 4 30 (m 75 9) (kF (m 75) 9) := hA.1.t 9 (by decide)
  have r0 : kR (m 75) 9 := (hA.1.1 9 (by decide)).2
  have hS : TabS 26 27 120 4 30 := by unfold TabS; decide
  by_cases g1 : 0 ≤ a ∧ a < m 75 0
  rotate_left
  · exact km_bad (Fx := f_L_reading a b c0) (Fm := f_X10_reading a b c0) hA (k := 1) (by decide) (by unfold f_L_reading f_X9_reading f_X9_reading_J29 f_X9_reading_J30; simp only [xIsIn, cHas, cRoom, Option.bind_some, nIz, nAz, nRz, nEz, nDz, nI0z, nI1z, nA0z, nA1z, nE0z, nE1z, nR0z, nR1z, jcat2_r, jcat2_l, jlt_eq, ite01, ite01o, ite01p, ite00, ite10, xe1, xe2, xe3, xe4, xe5, xe6, if_true, if_false, f_X5_size, Int.reduceLE, Int.reduceLT, Int.lt_irrefl, hz, g1, and_self, and_true, true_and, and_false, false_and]) (by unfold f_X10_reading f_X10_reading_J16 f_X10_reading_J52; simp only [mIsIn, mDay, mHour, mMoment, Option.bind_some, ite01, ite01o, ite01p, ite00, ite10, jlt_eq, jup_s, le00, le10, le20, le30, if_true, if_false, Int.reduceLE, Int.reduceLT, mBay _ hn.1, mTerms _ hn.2.2.2.2.2.1, g1, and_self, and_true, true_and, and_false, false_and])
  by_cases g2 : 0 ≤ b ∧ b ≤ 199
  rotate_left
  · exact km_bad (Fx := f_L_reading a b c0) (Fm := f_X10_reading a b c0) hA (k := 1) (by decide) (by unfold f_L_reading f_X9_reading f_X9_reading_J29 f_X9_reading_J30; simp only [xIsIn, cHas, cRoom, Option.bind_some, nIz, nAz, nRz, nEz, nDz, nI0z, nI1z, nA0z, nA1z, nE0z, nE1z, nR0z, nR1z, jcat2_r, jcat2_l, jlt_eq, ite01, ite01o, ite01p, ite00, ite10, xe1, xe2, xe3, xe4, xe5, xe6, if_true, if_false, f_X5_size, Int.reduceLE, Int.reduceLT, Int.lt_irrefl, hz, g1, g2, and_self, and_true, true_and, and_false, false_and]) (by unfold f_X10_reading f_X10_reading_J16 f_X10_reading_J52; simp only [mIsIn, mDay, mHour, mMoment, Option.bind_some, ite01, ite01o, ite01p, ite00, ite10, jlt_eq, jup_s, le00, le10, le20, le30, if_true, if_false, Int.reduceLE, Int.reduceLT, mBay _ hn.1, mTerms _ hn.2.2.2.2.2.1, g1, g2, and_self, and_true, true_and, and_false, false_and])
  by_cases g3 : 0 ≤ c0 ∧ c0 ≤ 500
  rotate_left
  · exact km_bad (Fx := f_L_reading a b c0) (Fm := f_X10_reading a b c0) hA (k := 2) (by decide) (by unfold f_L_reading f_X9_reading f_X9_reading_J29 f_X9_reading_J30; simp only [xIsIn, cHas, cRoom, Option.bind_some, nIz, nAz, nRz, nEz, nDz, nI0z, nI1z, nA0z, nA1z, nE0z, nE1z, nR0z, nR1z, jcat2_r, jcat2_l, jlt_eq, ite01, ite01o, ite01p, ite00, ite10, xe1, xe2, xe3, xe4, xe5, xe6, if_true, if_false, f_X5_size, Int.reduceLE, Int.reduceLT, Int.lt_irrefl, hz, g1, g2, g3, and_self, and_true, true_and, and_false, false_and]) (by unfold f_X10_reading f_X10_reading_J16 f_X10_reading_J52; simp only [mIsIn, mDay, mHour, mMoment, Option.bind_some, ite01, ite01o, ite01p, ite00, ite10, jlt_eq, jup_s, le00, le10, le20, le30, if_true, if_false, Int.reduceLE, Int.reduceLT, mBay _ hn.1, mTerms _ hn.2.2.2.2.2.1, g1, g2, g3, and_self, and_true, true_and, and_false, false_and])
  by_cases g4 : m 75 9 < 30
  rotate_left
  · have x40 : m 75 9 = 30 := by omega
    exact km_bad (Fx := f_L_reading a b c0) (Fm := f_X10_reading a b c0) hA (k := 3) (by decide) (by unfold f_L_reading f_X9_reading f_X9_reading_J29 f_X9_reading_J30; simp only [xIsIn, cHas, cRoom, Option.bind_some, nIz, nAz, nRz, nEz, nDz, nI0z, nI1z, nA0z, nA1z, nE0z, nE1z, nR0z, nR1z, jcat2_r, jcat2_l, jlt_eq, ite01, ite01o, ite01p, ite00, ite10, xe1, xe2, xe3, xe4, xe5, xe6, if_true, if_false, f_X5_size, Int.reduceLE, Int.reduceLT, Int.lt_irrefl, hz, g1, g2, g3, g4, x40, and_self, and_true, true_and, and_false, false_and]) (by unfold f_X10_reading f_X10_reading_J16 f_X10_reading_J52; simp only [mIsIn, mDay, mHour, mMoment, Option.bind_some, ite01, ite01o, ite01p, ite00, ite10, jlt_eq, jup_s, le00, le10, le20, le30, if_true, if_false, Int.reduceLE, Int.reduceLT, mBay _ hn.1, mTerms _ hn.2.2.2.2.2.1, g1, g2, g3, g4, x40, and_self, and_true, true_and, and_false, false_and])
  have x40 : ¬ (m 75 9 = 30) := by omega
  refine km_good (Fx := f_L_reading a b c0) (Fm := f_X10_reading a b c0) (K := 9) (by decide) (v := m 75 9) (M' := xst (xst (xst (xst (xst (m 75) (696 + 4 * m 75 9) (a)) (696 + 4 * m 75 9 + 1) (b)) (696 + 4 * m 75 9 + 2) (c0)) (696 + 4 * m 75 9 + 3) (m 75 11)) 9 (m 75 9 + 1)) hA ?_ (fun m1 hm1 => ?_) ?_
  · obtain ⟨m1, e1, t1, f1⟩ := tb_add hS t0 (by omega)
    have d0 := tb_set (v := a) (r := m 75 9) (c := 0) hS t1 (by omega) (by omega) (by decide) (by decide)
    have u0 := TabR.set (v := a) (r := m 75 9) (c := 0) hS t1 (by decide) (by decide)
    have d1 := tb_set (v := b) (r := m 75 9) (c := 1) hS u0 (by omega) (by omega) (by decide) (by decide)
    have u1 := TabR.set (v := b) (r := m 75 9) (c := 1) hS u0 (by decide) (by decide)
    have d2 := tb_set (v := c0) (r := m 75 9) (c := 2) hS u1 (by omega) (by omega) (by decide) (by decide)
    have u2 := TabR.set (v := c0) (r := m 75 9) (c := 2) hS u1 (by decide) (by decide)
    have d3 := tb_set (v := m 75 11) (r := m 75 9) (c := 3) hS u2 (by omega) (by omega) (by decide) (by decide)
    have u3 := TabR.set (v := m 75 11) (r := m 75 9) (c := 3) hS u2 (by decide) (by decide)
    unfold f_L_reading f_X9_reading f_X9_reading_J29 f_X9_reading_J30
    simp only [xIsIn, cHas, cRoom, Option.bind_some, nIz, nAz, nRz, nEz, nDz, nI0z, nI1z, nA0z, nA1z, nE0z, nE1z, nR0z, nR1z, jcat2_r, jcat2_l, jlt_eq, ite01, ite01o, ite01p, ite00, ite10, xe1, xe2, xe3, xe4, xe5, xe6, if_true, if_false, f_X5_size, Int.reduceLE, Int.reduceLT, hz, g1, g2, g3, g4, x40, and_self, and_true, true_and, and_false, false_and, e1, d0, d1, d2, d3, jup_c (show (1 : Nat) ≠ 27 from by decide), f1 1 (by decide) (by decide)]
    refine ⟨_, rfl, jup_s, fun c h1 h2 h3 => ?_, ?_⟩
    · have h1 : c ≠ 26 := h1
      have h2 : c ≠ 27 := h2
      rw [jup_c h3, jup_c h2, jup_c h2, jup_c h2, jup_c h2, f1 c h1 h2]
    · show TabR _ 26 27 4 30 (xst _ 9 (m 75 9 + 1) 9) _
      rw [xst_s]
      refine (u3.frame (jup_c (by decide)) (jup_c (by decide))).congr (fun r c h1 h2 h3 h4 => ?_)
      by_cases hr : r = m 75 9
      · subst hr
        obtain rfl | rfl | rfl | rfl : c = 0 ∨ c = 1 ∨ c = 2 ∨ c = 3 := by omega
        all_goals
          simp only [kF, Int.reduceEq, Int.reduceLT, Int.reduceAdd, Int.reduceSub, and_true, and_false, true_and, if_true, if_false, Int.add_zero]
          try simp (disch := omega) only [xst_n, xst_s]
      · simp only [kF, hr, false_and, if_false]
        simp (disch := omega) only [xst_n]
  · unfold f_X10_reading f_X10_reading_J16 f_X10_reading_J52
    have hb0 := hn.1
    have hc0 := (hA.1.n).2.2.2.2.2.2.2.2.2.1
    clear hz hn t0 r0 hS hA
    simp (disch := omega) only [mIsIn, mDay, mHour, mMoment, Option.bind_some, ite01, ite01o, ite01p, ite00, ite10, jlt_eq, jup_s, le00, le10, le20, le30, if_true, if_false, Int.reduceLE, Int.reduceLT, mBay (m := m1) _ (by rw [hm1]; exact hb0), g1, g2, g3, g4, x40, and_self, and_true, true_and, and_false, false_and, Int.add_sub_cancel, jup_c, xst_j, hm1, xst_n, xst_s, jW_of, if_pos]
    refine ⟨_, rfl, ?_, ?_, ?_, ?_⟩
    · rw [jup_c (by decide), jup_c (by decide), jup_c (by decide), jup_c (by decide), jup_c (by decide), jup_s]
    · intro j hj
      rw [jup_c (by decide), jup_c (by decide), jup_c (by decide), jup_c (by decide), jup_c (by decide), jup_j hj]
    · rw [xst_j, xst_j, xst_j, xst_j, xst_j, jup_c (by decide), hm1]
    · intro c h1 h2
      rw [jup_c h2, jup_c h2, jup_c h2, jup_c h2, jup_c h2, jup_c h1]
  · refine ⟨fun i hi => ?_, ?_, ?_⟩
    · have hi' : ¬ (i = 9 ∨ (696 ≤ i ∧ i < 816)) := hi
      simp (disch := omega) only [xst_n]
    · simp (disch := omega) only [xst_n, xst_s]
      omega
    · intro r h0 h1
      rw [xst_s] at h1
      by_cases hr : r = m 75 9
      · subst hr
        simp (disch := omega) only [xst_n, xst_s]
        omega
      · have := r0 r h0 (by omega)
        simp (disch := omega) only [xst_n]
        exact this
theorem k_weather {m : jMu} (hA : kA m) (a b c0 d e g : Int) : ∃ o, ((f_L_weather a b c0 d e g m).bind fun r1 => (f_X10_weather a b c0 d e g r1.2).bind fun r2 => (f_X10_thrown r2.2).bind fun r3 => (if r3 = r1.1 then (if r1.1 = 0 then (if jCm (r2.2 87 0) r2.1 = 0 then some r2.2 else none) else some r2.2) else none)) = some o ∧ kA o := by
  have hz := hA.1.z
  have hn := hA.1.n
  have t0 : TabR m 6 7 7 30 (m 75 1) (kF (m 75) 1) := hA.1.t 1 (by decide)
  have r0 : kR (m 75) 1 := (hA.1.1 1 (by decide)).2
  have hS : TabS 6 7 210 7 30 := by unfold TabS; decide
  by_cases g1 : 0 ≤ a ∧ a ≤ 199
  rotate_left
  · exact km_bad (Fx := f_L_weather a b c0 d e g) (Fm := f_X10_weather a b c0 d e g) hA (k := 1) (by decide) (by unfold f_L_weather f_X9_weather f_X9_weather_J30 f_X9_weather_J31 f_X9_weather_J49 f_X9_weather_J50 f_X9_weather_J80 f_X9_weather_J81 f_X9_weather_J186; simp only [xIsIn, cHas, cRoom, Option.bind_some, nIz, nAz, nRz, nEz, nDz, nI0z, nI1z, nA0z, nA1z, nE0z, nE1z, nR0z, nR1z, jcat2_r, jcat2_l, jlt_eq, ite01, ite01o, ite01p, ite00, ite10, xe1, xe2, xe3, xe4, xe5, xe6, if_true, if_false, f_X5_size, Int.reduceLE, Int.reduceLT, Int.lt_irrefl, hz, g1, and_self, and_true, true_and, and_false, false_and]) (by unfold f_X10_weather f_X10_weather_J68 f_X10_weather_J30 f_X10_weather_J88 f_X10_weather_J171 f_X10_weather_J194; simp only [mIsIn, mDay, mHour, mMoment, Option.bind_some, ite01, ite01o, ite01p, ite00, ite10, jlt_eq, jup_s, le00, le10, le20, le30, if_true, if_false, Int.reduceLE, Int.reduceLT, mBay _ hn.1, mTerms _ hn.2.2.2.2.2.1, g1, and_self, and_true, true_and, and_false, false_and])
  by_cases g2 : 0 ≤ b ∧ b ≤ 199
  rotate_left
  · exact km_bad (Fx := f_L_weather a b c0 d e g) (Fm := f_X10_weather a b c0 d e g) hA (k := 1) (by decide) (by unfold f_L_weather f_X9_weather f_X9_weather_J30 f_X9_weather_J31 f_X9_weather_J49 f_X9_weather_J50 f_X9_weather_J80 f_X9_weather_J81 f_X9_weather_J186; simp only [xIsIn, cHas, cRoom, Option.bind_some, nIz, nAz, nRz, nEz, nDz, nI0z, nI1z, nA0z, nA1z, nE0z, nE1z, nR0z, nR1z, jcat2_r, jcat2_l, jlt_eq, ite01, ite01o, ite01p, ite00, ite10, xe1, xe2, xe3, xe4, xe5, xe6, if_true, if_false, f_X5_size, Int.reduceLE, Int.reduceLT, Int.lt_irrefl, hz, g1, g2, and_self, and_true, true_and, and_false, false_and]) (by unfold f_X10_weather f_X10_weather_J68 f_X10_weather_J30 f_X10_weather_J88 f_X10_weather_J171 f_X10_weather_J194; simp only [mIsIn, mDay, mHour, mMoment, Option.bind_some, ite01, ite01o, ite01p, ite00, ite10, jlt_eq, jup_s, le00, le10, le20, le30, if_true, if_false, Int.reduceLE, Int.reduceLT, mBay _ hn.1, mTerms _ hn.2.2.2.2.2.1, g1, g2, and_self, and_true, true_and, and_false, false_and])
  by_cases g3 : 0 ≤ c0 ∧ c0 ≤ 11
  rotate_left
  · exact km_bad (Fx := f_L_weather a b c0 d e g) (Fm := f_X10_weather a b c0 d e g) hA (k := 1) (by decide) (by unfold f_L_weather f_X9_weather f_X9_weather_J30 f_X9_weather_J31 f_X9_weather_J49 f_X9_weather_J50 f_X9_weather_J80 f_X9_weather_J81 f_X9_weather_J186; simp only [xIsIn, cHas, cRoom, Option.bind_some, nIz, nAz, nRz, nEz, nDz, nI0z, nI1z, nA0z, nA1z, nE0z, nE1z, nR0z, nR1z, jcat2_r, jcat2_l, jlt_eq, ite01, ite01o, ite01p, ite00, ite10, xe1, xe2, xe3, xe4, xe5, xe6, if_true, if_false, f_X5_size, Int.reduceLE, Int.reduceLT, Int.lt_irrefl, hz, g1, g2, g3, and_self, and_true, true_and, and_false, false_and]) (by unfold f_X10_weather f_X10_weather_J68 f_X10_weather_J30 f_X10_weather_J88 f_X10_weather_J171 f_X10_weather_J194; simp only [mIsIn, mDay, mHour, mMoment, Option.bind_some, ite01, ite01o, ite01p, ite00, ite10, jlt_eq, jup_s, le00, le10, le20, le30, if_true, if_false, Int.reduceLE, Int.reduceLT, mBay _ hn.1, mTerms _ hn.2.2.2.2.2.1, g1, g2, g3, and_self, and_true, true_and, and_false, false_and])
  by_cases g4 : 0 ≤ d ∧ d ≤ 11
  rotate_left
  · exact km_bad (Fx := f_L_weather a b c0 d e g) (Fm := f_X10_weather a b c0 d e g) hA (k := 1) (by decide) (by unfold f_L_weather f_X9_weather f_X9_weather_J30 f_X9_weather_J31 f_X9_weather_J49 f_X9_weather_J50 f_X9_weather_J80 f_X9_weather_J81 f_X9_weather_J186; simp only [xIsIn, cHas, cRoom, Option.bind_some, nIz, nAz, nRz, nEz, nDz, nI0z, nI1z, nA0z, nA1z, nE0z, nE1z, nR0z, nR1z, jcat2_r, jcat2_l, jlt_eq, ite01, ite01o, ite01p, ite00, ite10, xe1, xe2, xe3, xe4, xe5, xe6, if_true, if_false, f_X5_size, Int.reduceLE, Int.reduceLT, Int.lt_irrefl, hz, g1, g2, g3, g4, and_self, and_true, true_and, and_false, false_and]) (by unfold f_X10_weather f_X10_weather_J68 f_X10_weather_J30 f_X10_weather_J88 f_X10_weather_J171 f_X10_weather_J194; simp only [mIsIn, mDay, mHour, mMoment, Option.bind_some, ite01, ite01o, ite01p, ite00, ite10, jlt_eq, jup_s, le00, le10, le20, le30, if_true, if_false, Int.reduceLE, Int.reduceLT, mBay _ hn.1, mTerms _ hn.2.2.2.2.2.1, g1, g2, g3, g4, and_self, and_true, true_and, and_false, false_and])
  by_cases g5 : a ≤ b
  rotate_left
  · have x50 : b < a := by omega
    exact km_bad (Fx := f_L_weather a b c0 d e g) (Fm := f_X10_weather a b c0 d e g) hA (k := 2) (by decide) (by unfold f_L_weather f_X9_weather f_X9_weather_J30 f_X9_weather_J31 f_X9_weather_J49 f_X9_weather_J50 f_X9_weather_J80 f_X9_weather_J81 f_X9_weather_J186; simp only [xIsIn, cHas, cRoom, Option.bind_some, nIz, nAz, nRz, nEz, nDz, nI0z, nI1z, nA0z, nA1z, nE0z, nE1z, nR0z, nR1z, jcat2_r, jcat2_l, jlt_eq, ite01, ite01o, ite01p, ite00, ite10, xe1, xe2, xe3, xe4, xe5, xe6, if_true, if_false, f_X5_size, Int.reduceLE, Int.reduceLT, Int.lt_irrefl, hz, g1, g2, g3, g4, g5, x50, and_self, and_true, true_and, and_false, false_and]) (by unfold f_X10_weather f_X10_weather_J68 f_X10_weather_J30 f_X10_weather_J88 f_X10_weather_J171 f_X10_weather_J194; simp only [mIsIn, mDay, mHour, mMoment, Option.bind_some, ite01, ite01o, ite01p, ite00, ite10, jlt_eq, jup_s, le00, le10, le20, le30, if_true, if_false, Int.reduceLE, Int.reduceLT, mBay _ hn.1, mTerms _ hn.2.2.2.2.2.1, g1, g2, g3, g4, g5, x50, and_self, and_true, true_and, and_false, false_and])
  have x50 : ¬ (b < a) := by omega
  by_cases g6 : c0 ≤ d
  rotate_left
  · have x60 : d < c0 := by omega
    exact km_bad (Fx := f_L_weather a b c0 d e g) (Fm := f_X10_weather a b c0 d e g) hA (k := 2) (by decide) (by unfold f_L_weather f_X9_weather f_X9_weather_J30 f_X9_weather_J31 f_X9_weather_J49 f_X9_weather_J50 f_X9_weather_J80 f_X9_weather_J81 f_X9_weather_J186; simp only [xIsIn, cHas, cRoom, Option.bind_some, nIz, nAz, nRz, nEz, nDz, nI0z, nI1z, nA0z, nA1z, nE0z, nE1z, nR0z, nR1z, jcat2_r, jcat2_l, jlt_eq, ite01, ite01o, ite01p, ite00, ite10, xe1, xe2, xe3, xe4, xe5, xe6, if_true, if_false, f_X5_size, Int.reduceLE, Int.reduceLT, Int.lt_irrefl, hz, g1, g2, g3, g4, g5, x50, g6, x60, and_self, and_true, true_and, and_false, false_and]) (by unfold f_X10_weather f_X10_weather_J68 f_X10_weather_J30 f_X10_weather_J88 f_X10_weather_J171 f_X10_weather_J194; simp only [mIsIn, mDay, mHour, mMoment, Option.bind_some, ite01, ite01o, ite01p, ite00, ite10, jlt_eq, jup_s, le00, le10, le20, le30, if_true, if_false, Int.reduceLE, Int.reduceLT, mBay _ hn.1, mTerms _ hn.2.2.2.2.2.1, g1, g2, g3, g4, g5, x50, g6, x60, and_self, and_true, true_and, and_false, false_and])
  have x60 : ¬ (d < c0) := by omega
  by_cases g7 : -10 ≤ e ∧ e ≤ 9
  rotate_left
  · exact km_bad (Fx := f_L_weather a b c0 d e g) (Fm := f_X10_weather a b c0 d e g) hA (k := 2) (by decide) (by unfold f_L_weather f_X9_weather f_X9_weather_J30 f_X9_weather_J31 f_X9_weather_J49 f_X9_weather_J50 f_X9_weather_J80 f_X9_weather_J81 f_X9_weather_J186; simp only [xIsIn, cHas, cRoom, Option.bind_some, nIz, nAz, nRz, nEz, nDz, nI0z, nI1z, nA0z, nA1z, nE0z, nE1z, nR0z, nR1z, jcat2_r, jcat2_l, jlt_eq, ite01, ite01o, ite01p, ite00, ite10, xe1, xe2, xe3, xe4, xe5, xe6, if_true, if_false, f_X5_size, Int.reduceLE, Int.reduceLT, Int.lt_irrefl, hz, g1, g2, g3, g4, g5, x50, g6, x60, g7, and_self, and_true, true_and, and_false, false_and]) (by unfold f_X10_weather f_X10_weather_J68 f_X10_weather_J30 f_X10_weather_J88 f_X10_weather_J171 f_X10_weather_J194; simp only [mIsIn, mDay, mHour, mMoment, Option.bind_some, ite01, ite01o, ite01p, ite00, ite10, jlt_eq, jup_s, le00, le10, le20, le30, if_true, if_false, Int.reduceLE, Int.reduceLT, mBay _ hn.1, mTerms _ hn.2.2.2.2.2.1, g1, g2, g3, g4, g5, x50, g6, x60, g7, and_self, and_true, true_and, and_false, false_and])
  by_cases g8 : 0 ≤ g ∧ g ≤ 30
  rotate_left
  · exact km_bad (Fx := f_L_weather a b c0 d e g) (Fm := f_X10_weather a b c0 d e g) hA (k := 2) (by decide) (by unfold f_L_weather f_X9_weather f_X9_weather_J30 f_X9_weather_J31 f_X9_weather_J49 f_X9_weather_J50 f_X9_weather_J80 f_X9_weather_J81 f_X9_weather_J186; simp only [xIsIn, cHas, cRoom, Option.bind_some, nIz, nAz, nRz, nEz, nDz, nI0z, nI1z, nA0z, nA1z, nE0z, nE1z, nR0z, nR1z, jcat2_r, jcat2_l, jlt_eq, ite01, ite01o, ite01p, ite00, ite10, xe1, xe2, xe3, xe4, xe5, xe6, if_true, if_false, f_X5_size, Int.reduceLE, Int.reduceLT, Int.lt_irrefl, hz, g1, g2, g3, g4, g5, x50, g6, x60, g7, g8, and_self, and_true, true_and, and_false, false_and]) (by unfold f_X10_weather f_X10_weather_J68 f_X10_weather_J30 f_X10_weather_J88 f_X10_weather_J171 f_X10_weather_J194; simp only [mIsIn, mDay, mHour, mMoment, Option.bind_some, ite01, ite01o, ite01p, ite00, ite10, jlt_eq, jup_s, le00, le10, le20, le30, if_true, if_false, Int.reduceLE, Int.reduceLT, mBay _ hn.1, mTerms _ hn.2.2.2.2.2.1, g1, g2, g3, g4, g5, x50, g6, x60, g7, g8, and_self, and_true, true_and, and_false, false_and])
  by_cases g9 : m 75 1 < 30
  rotate_left
  · have x90 : m 75 1 = 30 := by omega
    exact km_bad (Fx := f_L_weather a b c0 d e g) (Fm := f_X10_weather a b c0 d e g) hA (k := 3) (by decide) (by unfold f_L_weather f_X9_weather f_X9_weather_J30 f_X9_weather_J31 f_X9_weather_J49 f_X9_weather_J50 f_X9_weather_J80 f_X9_weather_J81 f_X9_weather_J186; simp only [xIsIn, cHas, cRoom, Option.bind_some, nIz, nAz, nRz, nEz, nDz, nI0z, nI1z, nA0z, nA1z, nE0z, nE1z, nR0z, nR1z, jcat2_r, jcat2_l, jlt_eq, ite01, ite01o, ite01p, ite00, ite10, xe1, xe2, xe3, xe4, xe5, xe6, if_true, if_false, f_X5_size, Int.reduceLE, Int.reduceLT, Int.lt_irrefl, hz, g1, g2, g3, g4, g5, x50, g6, x60, g7, g8, g9, x90, and_self, and_true, true_and, and_false, false_and]) (by unfold f_X10_weather f_X10_weather_J68 f_X10_weather_J30 f_X10_weather_J88 f_X10_weather_J171 f_X10_weather_J194; simp only [mIsIn, mDay, mHour, mMoment, Option.bind_some, ite01, ite01o, ite01p, ite00, ite10, jlt_eq, jup_s, le00, le10, le20, le30, if_true, if_false, Int.reduceLE, Int.reduceLT, mBay _ hn.1, mTerms _ hn.2.2.2.2.2.1, g1, g2, g3, g4, g5, x50, g6, x60, g7, g8, g9, x90, and_self, and_true, true_and, and_false, false_and])
  have x90 : ¬ (m 75 1 = 30) := by omega
  by_cases gw : e < 0
  · have xw : ¬ 0 ≤ e := by omega
    have ew : jW ((-1) - e) = -1 - e := jW_of (by omega) (by omega)
    refine km_good (Fx := f_L_weather a b c0 d e g) (Fm := f_X10_weather a b c0 d e g) (K := 1) (by decide) (v := m 75 1) (M' := xst (xst (xst (xst (xst (xst (xst (xst (m 75) (92 + 7 * m 75 1) (a)) (92 + 7 * m 75 1 + 1) (b)) (92 + 7 * m 75 1 + 2) (c0)) (92 + 7 * m 75 1 + 3) (d)) (92 + 7 * m 75 1 + 4) (1)) (92 + 7 * m 75 1 + 5) (-1 - e)) (92 + 7 * m 75 1 + 6) (g)) 1 (m 75 1 + 1)) hA ?_ (fun m1 hm1 => ?_) ?_
    · obtain ⟨m1, e1, t1, f1⟩ := tb_add hS t0 (by omega)
      have d0 := tb_set (v := a) (r := m 75 1) (c := 0) hS t1 (by omega) (by omega) (by decide) (by decide)
      have u0 := TabR.set (v := a) (r := m 75 1) (c := 0) hS t1 (by decide) (by decide)
      have d1 := tb_set (v := b) (r := m 75 1) (c := 1) hS u0 (by omega) (by omega) (by decide) (by decide)
      have u1 := TabR.set (v := b) (r := m 75 1) (c := 1) hS u0 (by decide) (by decide)
      have d2 := tb_set (v := c0) (r := m 75 1) (c := 2) hS u1 (by omega) (by omega) (by decide) (by decide)
      have u2 := TabR.set (v := c0) (r := m 75 1) (c := 2) hS u1 (by decide) (by decide)
      have d3 := tb_set (v := d) (r := m 75 1) (c := 3) hS u2 (by omega) (by omega) (by decide) (by decide)
      have u3 := TabR.set (v := d) (r := m 75 1) (c := 3) hS u2 (by decide) (by decide)
      have d4 := tb_set (v := 1) (r := m 75 1) (c := 4) hS u3 (by omega) (by omega) (by decide) (by decide)
      have u4 := TabR.set (v := 1) (r := m 75 1) (c := 4) hS u3 (by decide) (by decide)
      have d5 := tb_set (v := -1 - e) (r := m 75 1) (c := 5) hS u4 (by omega) (by omega) (by decide) (by decide)
      have u5 := TabR.set (v := -1 - e) (r := m 75 1) (c := 5) hS u4 (by decide) (by decide)
      have d6 := tb_set (v := g) (r := m 75 1) (c := 6) hS u5 (by omega) (by omega) (by decide) (by decide)
      have u6 := TabR.set (v := g) (r := m 75 1) (c := 6) hS u5 (by decide) (by decide)
      unfold f_L_weather f_X9_weather f_X9_weather_J30 f_X9_weather_J31 f_X9_weather_J49 f_X9_weather_J50 f_X9_weather_J80 f_X9_weather_J81 f_X9_weather_J186
      simp only [xIsIn, cHas, cRoom, Option.bind_some, nIz, nAz, nRz, nEz, nDz, nI0z, nI1z, nA0z, nA1z, nE0z, nE1z, nR0z, nR1z, jcat2_r, jcat2_l, jlt_eq, ite01, ite01o, ite01p, ite00, ite10, xe1, xe2, xe3, xe4, xe5, xe6, if_true, if_false, f_X5_size, Int.reduceLE, Int.reduceLT, hz, g1, g2, g3, g4, g5, x50, g6, x60, g7, g8, g9, x90, gw, xw, ew, and_self, and_true, true_and, and_false, false_and, e1, d0, d1, d2, d3, d4, d5, d6]
      refine ⟨_, rfl, jup_s, fun c h1 h2 h3 => ?_, ?_⟩
      · have h1 : c ≠ 6 := h1
        have h2 : c ≠ 7 := h2
        rw [jup_c h3, jup_c h2, jup_c h2, jup_c h2, jup_c h2, jup_c h2, jup_c h2, jup_c h2, f1 c h1 h2]
      · show TabR _ 6 7 7 30 (xst _ 1 (m 75 1 + 1) 1) _
        rw [xst_s]
        refine (u6.frame (jup_c (by decide)) (jup_c (by decide))).congr (fun r c h1 h2 h3 h4 => ?_)
        by_cases hr : r = m 75 1
        · subst hr
          obtain rfl | rfl | rfl | rfl | rfl | rfl | rfl : c = 0 ∨ c = 1 ∨ c = 2 ∨ c = 3 ∨ c = 4 ∨ c = 5 ∨ c = 6 := by omega
          all_goals
            simp only [kF, Int.reduceEq, Int.reduceLT, Int.reduceAdd, Int.reduceSub, and_true, and_false, true_and, if_true, if_false, Int.add_zero]
            try simp (disch := omega) only [xst_n, xst_s]
        · simp only [kF, hr, false_and, if_false]
          simp (disch := omega) only [xst_n]
    · unfold f_X10_weather f_X10_weather_J88
      have hb0 := hn.1
      have hc0 := (hA.1.n).2.1
      clear hz hn t0 r0 hS hA
      simp (disch := omega) only [mIsIn, mDay, mHour, mMoment, Option.bind_some, ite01, ite01o, ite01p, ite00, ite10, jlt_eq, jup_s, le00, le10, le20, le30, if_true, if_false, Int.reduceLE, Int.reduceLT, mBay (m := m1) _ (by rw [hm1]; exact hb0), g1, g2, g3, g4, g5, x50, g6, x60, g7, g8, g9, x90, gw, xw, and_self, and_true, true_and, and_false, false_and, Int.add_sub_cancel, jup_c, xst_j, hm1, xst_n, xst_s, jW_of, if_pos]
      unfold f_X10_weather_J171
      simp (disch := omega) only [mIsIn, mDay, mHour, mMoment, Option.bind_some, ite01, ite01o, ite01p, ite00, ite10, jlt_eq, jup_s, le00, le10, le20, le30, if_true, if_false, Int.reduceLE, Int.reduceLT, mBay (m := m1) _ (by rw [hm1]; exact hb0), g1, g2, g3, g4, g5, x50, g6, x60, g7, g8, g9, x90, gw, xw, and_self, and_true, true_and, and_false, false_and, Int.add_sub_cancel, jup_c, xst_j, hm1, xst_n, xst_s, jW_of, if_pos]
      unfold f_X10_weather_J194
      simp (disch := omega) only [mIsIn, mDay, mHour, mMoment, Option.bind_some, ite01, ite01o, ite01p, ite00, ite10, jlt_eq, jup_s, le00, le10, le20, le30, if_true, if_false, Int.reduceLE, Int.reduceLT, mBay (m := m1) _ (by rw [hm1]; exact hb0), g1, g2, g3, g4, g5, x50, g6, x60, g7, g8, g9, x90, gw, xw, and_self, and_true, true_and, and_false, false_and, Int.add_sub_cancel, jup_c, xst_j, hm1, xst_n, xst_s, jW_of, if_pos]
      refine ⟨_, rfl, ?_, ?_, ?_, ?_⟩
      · rw [jup_c (by decide), jup_c (by decide), jup_c (by decide), jup_c (by decide), jup_c (by decide), jup_c (by decide), jup_c (by decide), jup_c (by decide), jup_s]
      · intro j hj
        rw [jup_c (by decide), jup_c (by decide), jup_c (by decide), jup_c (by decide), jup_c (by decide), jup_c (by decide), jup_c (by decide), jup_c (by decide), jup_j hj]
      · rw [xst_j, xst_j, xst_j, xst_j, xst_j, xst_j, xst_j, xst_j, jup_c (by decide), hm1]
      · intro c h1 h2
        rw [jup_c h2, jup_c h2, jup_c h2, jup_c h2, jup_c h2, jup_c h2, jup_c h2, jup_c h2, jup_c h1]
    · refine ⟨fun i hi => ?_, ?_, ?_⟩
      · have hi' : ¬ (i = 1 ∨ (92 ≤ i ∧ i < 302)) := hi
        simp (disch := omega) only [xst_n]
      · simp (disch := omega) only [xst_n, xst_s]
        omega
      · intro r h0 h1
        rw [xst_s] at h1
        by_cases hr : r = m 75 1
        · subst hr
          simp (disch := omega) only [xst_n, xst_s]
          omega
        · have := r0 r h0 (by omega)
          simp (disch := omega) only [xst_n]
          exact this
  · have xw : 0 ≤ e := by omega
    have ew : (0 : Int) = 0 := rfl
    refine km_good (Fx := f_L_weather a b c0 d e g) (Fm := f_X10_weather a b c0 d e g) (K := 1) (by decide) (v := m 75 1) (M' := xst (xst (xst (xst (xst (xst (xst (xst (m 75) (92 + 7 * m 75 1) (a)) (92 + 7 * m 75 1 + 1) (b)) (92 + 7 * m 75 1 + 2) (c0)) (92 + 7 * m 75 1 + 3) (d)) (92 + 7 * m 75 1 + 4) (0)) (92 + 7 * m 75 1 + 5) (e)) (92 + 7 * m 75 1 + 6) (g)) 1 (m 75 1 + 1)) hA ?_ (fun m1 hm1 => ?_) ?_
    · obtain ⟨m1, e1, t1, f1⟩ := tb_add hS t0 (by omega)
      have d0 := tb_set (v := a) (r := m 75 1) (c := 0) hS t1 (by omega) (by omega) (by decide) (by decide)
      have u0 := TabR.set (v := a) (r := m 75 1) (c := 0) hS t1 (by decide) (by decide)
      have d1 := tb_set (v := b) (r := m 75 1) (c := 1) hS u0 (by omega) (by omega) (by decide) (by decide)
      have u1 := TabR.set (v := b) (r := m 75 1) (c := 1) hS u0 (by decide) (by decide)
      have d2 := tb_set (v := c0) (r := m 75 1) (c := 2) hS u1 (by omega) (by omega) (by decide) (by decide)
      have u2 := TabR.set (v := c0) (r := m 75 1) (c := 2) hS u1 (by decide) (by decide)
      have d3 := tb_set (v := d) (r := m 75 1) (c := 3) hS u2 (by omega) (by omega) (by decide) (by decide)
      have u3 := TabR.set (v := d) (r := m 75 1) (c := 3) hS u2 (by decide) (by decide)
      have d4 := tb_set (v := 0) (r := m 75 1) (c := 4) hS u3 (by omega) (by omega) (by decide) (by decide)
      have u4 := TabR.set (v := 0) (r := m 75 1) (c := 4) hS u3 (by decide) (by decide)
      have d5 := tb_set (v := e) (r := m 75 1) (c := 5) hS u4 (by omega) (by omega) (by decide) (by decide)
      have u5 := TabR.set (v := e) (r := m 75 1) (c := 5) hS u4 (by decide) (by decide)
      have d6 := tb_set (v := g) (r := m 75 1) (c := 6) hS u5 (by omega) (by omega) (by decide) (by decide)
      have u6 := TabR.set (v := g) (r := m 75 1) (c := 6) hS u5 (by decide) (by decide)
      unfold f_L_weather f_X9_weather f_X9_weather_J30 f_X9_weather_J31 f_X9_weather_J49 f_X9_weather_J50 f_X9_weather_J80 f_X9_weather_J81 f_X9_weather_J186
      simp only [xIsIn, cHas, cRoom, Option.bind_some, nIz, nAz, nRz, nEz, nDz, nI0z, nI1z, nA0z, nA1z, nE0z, nE1z, nR0z, nR1z, jcat2_r, jcat2_l, jlt_eq, ite01, ite01o, ite01p, ite00, ite10, xe1, xe2, xe3, xe4, xe5, xe6, if_true, if_false, f_X5_size, Int.reduceLE, Int.reduceLT, hz, g1, g2, g3, g4, g5, x50, g6, x60, g7, g8, g9, x90, gw, xw, ew, and_self, and_true, true_and, and_false, false_and, e1, d0, d1, d2, d3, d4, d5, d6]
      refine ⟨_, rfl, jup_s, fun c h1 h2 h3 => ?_, ?_⟩
      · have h1 : c ≠ 6 := h1
        have h2 : c ≠ 7 := h2
        rw [jup_c h3, jup_c h2, jup_c h2, jup_c h2, jup_c h2, jup_c h2, jup_c h2, jup_c h2, f1 c h1 h2]
      · show TabR _ 6 7 7 30 (xst _ 1 (m 75 1 + 1) 1) _
        rw [xst_s]
        refine (u6.frame (jup_c (by decide)) (jup_c (by decide))).congr (fun r c h1 h2 h3 h4 => ?_)
        by_cases hr : r = m 75 1
        · subst hr
          obtain rfl | rfl | rfl | rfl | rfl | rfl | rfl : c = 0 ∨ c = 1 ∨ c = 2 ∨ c = 3 ∨ c = 4 ∨ c = 5 ∨ c = 6 := by omega
          all_goals
            simp only [kF, Int.reduceEq, Int.reduceLT, Int.reduceAdd, Int.reduceSub, and_true, and_false, true_and, if_true, if_false, Int.add_zero]
            try simp (disch := omega) only [xst_n, xst_s]
        · simp only [kF, hr, false_and, if_false]
          simp (disch := omega) only [xst_n]
    · unfold f_X10_weather f_X10_weather_J88
      have hb0 := hn.1
      have hc0 := (hA.1.n).2.1
      clear hz hn t0 r0 hS hA
      simp (disch := omega) only [mIsIn, mDay, mHour, mMoment, Option.bind_some, ite01, ite01o, ite01p, ite00, ite10, jlt_eq, jup_s, le00, le10, le20, le30, if_true, if_false, Int.reduceLE, Int.reduceLT, mBay (m := m1) _ (by rw [hm1]; exact hb0), g1, g2, g3, g4, g5, x50, g6, x60, g7, g8, g9, x90, gw, xw, and_self, and_true, true_and, and_false, false_and, Int.add_sub_cancel, jup_c, xst_j, hm1, xst_n, xst_s, jW_of, if_pos]
      unfold f_X10_weather_J171
      simp (disch := omega) only [mIsIn, mDay, mHour, mMoment, Option.bind_some, ite01, ite01o, ite01p, ite00, ite10, jlt_eq, jup_s, le00, le10, le20, le30, if_true, if_false, Int.reduceLE, Int.reduceLT, mBay (m := m1) _ (by rw [hm1]; exact hb0), g1, g2, g3, g4, g5, x50, g6, x60, g7, g8, g9, x90, gw, xw, and_self, and_true, true_and, and_false, false_and, Int.add_sub_cancel, jup_c, xst_j, hm1, xst_n, xst_s, jW_of, if_pos]
      unfold f_X10_weather_J194
      simp (disch := omega) only [mIsIn, mDay, mHour, mMoment, Option.bind_some, ite01, ite01o, ite01p, ite00, ite10, jlt_eq, jup_s, le00, le10, le20, le30, if_true, if_false, Int.reduceLE, Int.reduceLT, mBay (m := m1) _ (by rw [hm1]; exact hb0), g1, g2, g3, g4, g5, x50, g6, x60, g7, g8, g9, x90, gw, xw, and_self, and_true, true_and, and_false, false_and, Int.add_sub_cancel, jup_c, xst_j, hm1, xst_n, xst_s, jW_of, if_pos]
      refine ⟨_, rfl, ?_, ?_, ?_, ?_⟩
      · rw [jup_c (by decide), jup_c (by decide), jup_c (by decide), jup_c (by decide), jup_c (by decide), jup_c (by decide), jup_c (by decide), jup_c (by decide), jup_s]
      · intro j hj
        rw [jup_c (by decide), jup_c (by decide), jup_c (by decide), jup_c (by decide), jup_c (by decide), jup_c (by decide), jup_c (by decide), jup_c (by decide), jup_j hj]
      · rw [xst_j, xst_j, xst_j, xst_j, xst_j, xst_j, xst_j, xst_j, jup_c (by decide), hm1]
      · intro c h1 h2
        rw [jup_c h2, jup_c h2, jup_c h2, jup_c h2, jup_c h2, jup_c h2, jup_c h2, jup_c h2, jup_c h1]
    · refine ⟨fun i hi => ?_, ?_, ?_⟩
      · have hi' : ¬ (i = 1 ∨ (92 ≤ i ∧ i < 302)) := hi
        simp (disch := omega) only [xst_n]
      · simp (disch := omega) only [xst_n, xst_s]
        omega
      · intro r h0 h1
        rw [xst_s] at h1
        by_cases hr : r = m 75 1
        · subst hr
          simp (disch := omega) only [xst_n, xst_s]
          omega
        · have := r0 r h0 (by omega)
          simp (disch := omega) only [xst_n]
          exact this
