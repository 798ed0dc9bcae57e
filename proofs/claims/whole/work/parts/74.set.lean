/-! LEVEL 2: more calls that write (by program) -/
theorem km_same {Fx Fm : jMu → Option (Int × jMu)} {m : jMu} {k v : Int} (hA : kA m) (h1 : cQ (Fx m) m k v) (h2 : ∀ m1, kA m1 → m1 75 = m 75 → mQ (Fm m1) m1 k v) :
    ∃ o, ((Fx m).bind fun r1 => (Fm r1.2).bind fun r2 => (f_X10_thrown r2.2).bind fun r3 => (if r3 = r1.1 then (if r1.1 = 0 then (if jCm (r2.2 87 0) r2.1 = 0 then some r2.2 else none) else some r2.2) else none)) = some o ∧ kA o := by
  obtain ⟨m1, e1, e2, e3⟩ := h1
  have hA1 := kA_fL hA e2
  have hM : m1 75 = m 75 := e2 75 (by omega) (by omega) (by omega)
  obtain ⟨b, m2, g1, g2, g3, g4⟩ := h2 m1 hA1 hM
  refine ⟨m2, ?_, kA_fM hA1 g2⟩
  rw [e1, Option.bind_some, g1, Option.bind_some, mThr, Option.bind_some]
  simp only [g3, if_true]
  by_cases hk : k = 0
  · have h87 : m2 87 0 = m1 87 0 := by rw [g2.1 87 (by omega) (by omega)]
    rw [if_pos hk, if_pos ((jCm_0 _ _).mpr (by rw [h87, e3 hk, g4 hk]))]
  · rw [if_neg hk]
theorem kv_bad {Fx : jMu → Option (Int × jMu)} {Fm : jMu → Option jMu} {m : jMu} {k : Int} (hA : kA m) (h1 : Fx m = some (k, m)) (h3 : Fm m = some (jup m 74 0 k)) :
    ∃ o, ((Fx m).bind fun r1 => (Fm r1.2).bind fun r2 => (f_X10_thrown r2).bind fun r3 => (if r3 = r1.1 then some r2 else none)) = some o ∧ kA o := by
  refine ⟨jup m 74 0 k, ?_, kA_fM hA (fM.thr m k)⟩
  rw [h1, Option.bind_some, h3, Option.bind_some, mThr, Option.bind_some]
  simp only [jup_s, if_true]
theorem kv_good {Fx : jMu → Option (Int × jMu)} {Fm : jMu → Option jMu} {m : jMu} {K : Nat} (hK : K < 11) {M' : Int → Int} (hA : kA m)
    (h2 : ∃ m1, Fx m = some (0, m1) ∧ (∀ c, c ≠ (kT K).1 → c ≠ (kT K).1 + 1 → c ≠ 87 → m1 c = m c) ∧ TabR m1 (kT K).1 ((kT K).1 + 1) (kT K).2.2.1 (kT K).2.2.2 (kN M' K) (kF M' K))
    (h4 : ∀ m1 : jMu, m1 75 = m 75 → ∃ m2, Fm m1 = some m2 ∧ m2 74 0 = 0 ∧ (∀ j, j ≠ 0 → m2 74 j = m1 74 j) ∧ m2 75 = M' ∧ ∀ c, c ≠ 74 → c ≠ 75 → m2 c = m1 c)
    (h5 : (∀ i, ¬ kG K i → M' i = m 75 i) ∧ (m 75 0 ≤ M' 0 ∧ m 75 5 ≤ M' 5 ∧ m 75 6 ≤ M' 6 ∧ m 75 7 ≤ M' 7) ∧ kR M' K) :
    ∃ o, ((Fx m).bind fun r1 => (Fm r1.2).bind fun r2 => (f_X10_thrown r2).bind fun r3 => (if r3 = r1.1 then some r2 else none)) = some o ∧ kA o := by
  obtain ⟨m1, a1, a3, a4⟩ := h2
  have b := kT_bd K (by omega)
  obtain ⟨m2, b1, b2, b3, b4, b5⟩ := h4 m1 (a3 75 (by omega) (by omega) (by omega))
  obtain ⟨c1, c2, c3⟩ := h5
  refine ⟨m2, ?_, kA_put hK hA (fun c d1 d2 d3 d4 d5 d6 d7 => (b5 c d3 d4).trans (a3 c d1 d2 d5)) ⟨?_, ?_, ?_, ?_⟩ (by rw [b4]; exact c1) (by rw [b4]; exact c2) ⟨?_, by rw [b4]; exact c3⟩⟩
  · rw [a1, Option.bind_some, b1, Option.bind_some, mThr, Option.bind_some]
    simp only [b2, if_true]
  · rw [b3 3 (by decide), a3 74 (by omega) (by omega) (by omega)]
  · rw [b3 5 (by decide), a3 74 (by omega) (by omega) (by omega)]
  · rw [b3 9 (by decide), a3 74 (by omega) (by omega) (by omega)]
  · exact pE_cg (by rw [b3 12 (by decide), a3 74 (by omega) (by omega) (by omega)]) (by rw [b3 13 (by decide), a3 74 (by omega) (by omega) (by omega)]) (by rw [b3 14 (by decide), a3 74 (by omega) (by omega) (by omega)]) (by rw [b5 78 (by omega) (by omega), a3 78 (by omega) (by omega) (by omega)])
  · rw [b4]
    exact a4.frame (b5 _ (by omega) (by omega)) (b5 _ (by omega) (by omega))
theorem kb_same {Fx Fm : jMu → Option (Int × jMu)} {m : jMu} {k v : Int} (hv : v = 0 ∨ v = 1) (hA : kA m) (h1 : cQ (Fx m) m k v) (h2 : ∀ m1, kA m1 → m1 75 = m 75 → mQ (Fm m1) m1 k v) :
    ∃ o, ((Fx m).bind fun r1 => (Fm r1.2).bind fun r2 => (f_X10_thrown r2.2).bind fun r3 => (if r3 = r1.1 then (if r1.1 = 0 then (if r2.1 = 0 then (if jCm (r2.2 87 0) 0 = 0 then some r2.2 else none) else (if jCm (r2.2 87 0) 1 = 0 then some r2.2 else none)) else some r2.2) else none)) = some o ∧ kA o := by
  obtain ⟨m1, e1, e2, e3⟩ := h1
  have hA1 := kA_fL hA e2
  have hM : m1 75 = m 75 := e2 75 (by omega) (by omega) (by omega)
  obtain ⟨b, m2, g1, g2, g3, g4⟩ := h2 m1 hA1 hM
  refine ⟨m2, ?_, kA_fM hA1 g2⟩
  rw [e1, Option.bind_some, g1, Option.bind_some, mThr, Option.bind_some]
  simp only [g3, if_true]
  by_cases hk : k = 0
  · have h87 : m2 87 0 = m1 87 0 := by rw [g2.1 87 (by omega) (by omega)]
    rw [if_pos hk]
    have h5 := e3 hk
    have h6 := g4 hk
    by_cases hb : b = 0
    · rw [if_pos hb, if_pos ((jCm_0 _ _).mpr (by omega))]
    · rw [if_neg hb, if_pos ((jCm_0 _ _).mpr (by omega))]
  · rw [if_neg hk]
theorem kb_good {Fx Fm : jMu → Option (Int × jMu)} {m : jMu} {K : Nat} (hK : K < 11) {M' : Int → Int} (hA : kA m)
    (h2 : ∃ m1, Fx m = some (0, m1) ∧ m1 87 0 = 1 ∧ (∀ c, c ≠ (kT K).1 → c ≠ (kT K).1 + 1 → c ≠ 87 → m1 c = m c) ∧ TabR m1 (kT K).1 ((kT K).1 + 1) (kT K).2.2.1 (kT K).2.2.2 (kN M' K) (kF M' K))
    (h4 : ∀ m1 : jMu, m1 75 = m 75 → ∃ m2, Fm m1 = some (1, m2) ∧ m2 74 0 = 0 ∧ (∀ j, j ≠ 0 → m2 74 j = m1 74 j) ∧ m2 75 = M' ∧ ∀ c, c ≠ 74 → c ≠ 75 → m2 c = m1 c)
    (h5 : (∀ i, ¬ kG K i → M' i = m 75 i) ∧ (m 75 0 ≤ M' 0 ∧ m 75 5 ≤ M' 5 ∧ m 75 6 ≤ M' 6 ∧ m 75 7 ≤ M' 7) ∧ kR M' K) :
    ∃ o, ((Fx m).bind fun r1 => (Fm r1.2).bind fun r2 => (f_X10_thrown r2.2).bind fun r3 => (if r3 = r1.1 then (if r1.1 = 0 then (if r2.1 = 0 then (if jCm (r2.2 87 0) 0 = 0 then some r2.2 else none) else (if jCm (r2.2 87 0) 1 = 0 then some r2.2 else none)) else some r2.2) else none)) = some o ∧ kA o := by
  obtain ⟨m1, a1, a2, a3, a4⟩ := h2
  have b := kT_bd K (by omega)
  obtain ⟨m2, b1, b2, b3, b4, b5⟩ := h4 m1 (a3 75 (by omega) (by omega) (by omega))
  obtain ⟨c1, c2, c3⟩ := h5
  refine ⟨m2, ?_, kA_put hK hA (fun c d1 d2 d3 d4 d5 d6 d7 => (b5 c d3 d4).trans (a3 c d1 d2 d5)) ⟨?_, ?_, ?_, ?_⟩ (by rw [b4]; exact c1) (by rw [b4]; exact c2) ⟨?_, by rw [b4]; exact c3⟩⟩
  · rw [a1, Option.bind_some, b1, Option.bind_some, mThr, Option.bind_some]
    have : m2 87 0 = 1 := by rw [b5 87 (by omega) (by omega)]; exact a2
    simp only [b2, if_true]
    rw [if_neg (by decide), if_pos ((jCm_0 _ _).mpr this)]
  · rw [b3 3 (by decide), a3 74 (by omega) (by omega) (by omega)]
  · rw [b3 5 (by decide), a3 74 (by omega) (by omega) (by omega)]
  · rw [b3 9 (by decide), a3 74 (by omega) (by omega) (by omega)]
  · exact pE_cg (by rw [b3 12 (by decide), a3 74 (by omega) (by omega) (by omega)]) (by rw [b3 13 (by decide), a3 74 (by omega) (by omega) (by omega)]) (by rw [b3 14 (by decide), a3 74 (by omega) (by omega) (by omega)]) (by rw [b5 78 (by omega) (by omega), a3 78 (by omega) (by omega) (by omega)])
  · rw [b4]
    exact a4.frame (b5 _ (by omega) (by omega)) (b5 _ (by omega) (by omega))

theorem k_bolt {m : jMu} (hA : kA m) (a b : Int) : ∃ o, ((f_L_bolt a b m).bind fun r1 => (f_X10_bolt a b r1.2).bind fun r2 => (f_X10_thrown r2.2).bind fun r3 => (if r3 = r1.1 then (if r1.1 = 0 then (if jCm (r2.2 87 0) r2.1 = 0 then some r2.2 else none) else some r2.2) else none)) = some o ∧ kA o := by
  have hz := hA.1.z
  have hn := hA.1.n
  have t0 : TabR m 28 29 2 30 (m 75 10) (kF (m 75) 10) := hA.1.t 10 (by decide)
  have r0 : kR (m 75) 10 := (hA.1.1 10 (by decide)).2
  have hS : TabS 28 29 60 2 30 := by unfold TabS; decide
  by_cases g1 : 0 ≤ a ∧ a < m 75 0
  rotate_left
  · exact km_bad (Fx := f_L_bolt a b) (Fm := f_X10_bolt a b) hA (k := 1) (by decide) (by unfold f_L_bolt f_X9_bolt f_X9_bolt_J29 f_X9_bolt_J30; simp only [xIsIn, cHas, cRoom, Option.bind_some, nIz, nAz, nRz, nEz, nDz, nI0z, nI1z, nA0z, nA1z, nE0z, nE1z, nR0z, nR1z, jcat2_r, jcat2_l, jlt_eq, ite01, ite01o, ite01p, ite00, ite10, xe1, xe2, xe3, xe4, xe5, xe6, if_true, if_false, f_X5_size, Int.reduceLE, Int.reduceLT, Int.lt_irrefl, hz, g1, and_self, and_true, true_and, and_false, false_and]) (by unfold f_X10_bolt f_X10_bolt_J16 f_X10_bolt_J21; simp only [mIsIn, mDay, mHour, mMoment, Option.bind_some, ite01, ite01o, ite01p, ite00, ite10, jlt_eq, jup_s, le00, le10, le20, le30, if_true, if_false, Int.reduceLE, Int.reduceLT, mBay _ hn.1, mTerms _ hn.2.2.2.2.2.1, g1, and_self, and_true, true_and, and_false, false_and])
  by_cases g2 : 0 ≤ b ∧ b ≤ 199
  rotate_left
  · exact km_bad (Fx := f_L_bolt a b) (Fm := f_X10_bolt a b) hA (k := 1) (by decide) (by unfold f_L_bolt f_X9_bolt f_X9_bolt_J29 f_X9_bolt_J30; simp only [xIsIn, cHas, cRoom, Option.bind_some, nIz, nAz, nRz, nEz, nDz, nI0z, nI1z, nA0z, nA1z, nE0z, nE1z, nR0z, nR1z, jcat2_r, jcat2_l, jlt_eq, ite01, ite01o, ite01p, ite00, ite10, xe1, xe2, xe3, xe4, xe5, xe6, if_true, if_false, f_X5_size, Int.reduceLE, Int.reduceLT, Int.lt_irrefl, hz, g1, g2, and_self, and_true, true_and, and_false, false_and]) (by unfold f_X10_bolt f_X10_bolt_J16 f_X10_bolt_J21; simp only [mIsIn, mDay, mHour, mMoment, Option.bind_some, ite01, ite01o, ite01p, ite00, ite10, jlt_eq, jup_s, le00, le10, le20, le30, if_true, if_false, Int.reduceLE, Int.reduceLT, mBay _ hn.1, mTerms _ hn.2.2.2.2.2.1, g1, g2, and_self, and_true, true_and, and_false, false_and])
  by_cases g8 : m 75 10 < 30
  rotate_left
  · refine km_same (Fx := f_L_bolt a b) (Fm := f_X10_bolt a b) (k := 0) (v := -1) hA ?_ (fun m1 hA1 hm1 => ?_)
    · unfold f_L_bolt f_X9_bolt f_X9_bolt_J30 f_X9_bolt_J29
      simp (disch := omega) only [xIsIn, cHas, cRoom, Option.bind_some, nIz, nAz, nRz, nEz, nDz, nI0z, nI1z, nA0z, nA1z, nE0z, nE1z, nR0z, nR1z, jcat2_r, jcat2_l, jlt_eq, ite01, ite01o, ite01p, ite00, ite10, xe1, xe2, xe3, xe4, xe5, xe6, if_true, if_false, f_X5_size, Int.reduceLE, Int.reduceLT, hz, if_pos, if_neg]
      exact cQ_val2 (fC.rf m)
    · have hn1 := hA1.1.n
      rw [← hm1] at g1 g8
      unfold f_X10_bolt f_X10_bolt_J21 f_X10_bolt_J16
      simp (disch := omega) only [mIsIn, mDay, mHour, mMoment, Option.bind_some, ite01, ite01o, ite01p, ite00, ite10, jlt_eq, jup_s, le00, le10, le20, le30, if_true, if_false, Int.reduceLE, Int.reduceLT, mBay _ hn1.1, jup_c, if_pos, if_neg]
      exact mQ_val
  refine km_good (Fx := f_L_bolt a b) (Fm := f_X10_bolt a b) (K := 10) (by decide) (v := m 75 10 + 1) (M' := xst (xst (xst (m 75) (816 + 2 * m 75 10) (a)) (816 + 2 * m 75 10 + 1) (b)) 10 (m 75 10 + 1)) hA ?_ (fun m1 hm1 => ?_) ?_
  · obtain ⟨m1, e1, t1, f1⟩ := tb_add hS t0 (by omega)
    have d0 := tb_set (v := a) (r := m 75 10) (c := 0) hS t1 (by omega) (by omega) (by decide) (by decide)
    have u0 := TabR.set (v := a) (r := m 75 10) (c := 0) hS t1 (by decide) (by decide)
    have d1 := tb_set (v := b) (r := m 75 10) (c := 1) hS u0 (by omega) (by omega) (by decide) (by decide)
    have u1 := TabR.set (v := b) (r := m 75 10) (c := 1) hS u0 (by decide) (by decide)
    unfold f_L_bolt f_X9_bolt f_X9_bolt_J29 f_X9_bolt_J30
    simp only [xIsIn, cHas, cRoom, Option.bind_some, nIz, nAz, nRz, nEz, nDz, nI0z, nI1z, nA0z, nA1z, nE0z, nE1z, nR0z, nR1z, jcat2_r, jcat2_l, jlt_eq, ite01, ite01o, ite01p, ite00, ite10, xe1, xe2, xe3, xe4, xe5, xe6, if_true, if_false, f_X5_size, Int.reduceLE, Int.reduceLT, hz, g1, g2, and_self, and_true, true_and, and_false, false_and, e1, d0, d1, g8]
    refine ⟨_, rfl, by rw [jup_s]; exact u1.2.2.1, fun c h1 h2 h3 => ?_, ?_⟩
    · have h1 : c ≠ 28 := h1
      have h2 : c ≠ 29 := h2
      rw [jup_c h3, jup_c h2, jup_c h2, f1 c h1 h2]
    · show TabR _ 28 29 2 30 (xst _ 10 (m 75 10 + 1) 10) _
      rw [xst_s]
      refine (u1.frame (jup_c (by decide)) (jup_c (by decide))).congr (fun r c h1 h2 h3 h4 => ?_)
      by_cases hr : r = m 75 10
      · subst hr
        obtain rfl | rfl : c = 0 ∨ c = 1 := by omega
        all_goals
          simp only [kF, Int.reduceEq, Int.reduceLT, Int.reduceAdd, Int.reduceSub, and_true, and_false, true_and, if_true, if_false, Int.add_zero]
          try simp (disch := omega) only [xst_n, xst_s]
      · simp only [kF, hr, false_and, if_false]
        simp (disch := omega) only [xst_n]
  · unfold f_X10_bolt f_X10_bolt_J16 f_X10_bolt_J21
    have hb0 := hn.1
    have hc0 := (hA.1.n).2.2.2.2.2.2.2.2.2.2.1
    clear hz hn t0 r0 hS hA
    simp (disch := omega) only [mIsIn, mDay, mHour, mMoment, Option.bind_some, ite01, ite01o, ite01p, ite00, ite10, jlt_eq, jup_s, le00, le10, le20, le30, if_true, if_false, Int.reduceLE, Int.reduceLT, mBay (m := m1) _ (by rw [hm1]; exact hb0), g1, g2, and_self, and_true, true_and, and_false, false_and, Int.add_sub_cancel, jup_c, xst_j, hm1, xst_n, xst_s, jW_of, if_pos, if_neg]
    refine ⟨_, rfl, ?_, ?_, ?_, ?_⟩
    · rw [jup_c (by decide), jup_c (by decide), jup_c (by decide), jup_s]
    · intro j hj
      rw [jup_c (by decide), jup_c (by decide), jup_c (by decide), jup_j hj]
    · rw [xst_j, xst_j, xst_j, jup_c (by decide), hm1]
    · intro c h1 h2
      rw [jup_c h2, jup_c h2, jup_c h2, jup_c h1]
  · refine ⟨fun i hi => ?_, ?_, ?_⟩
    · have hi' : ¬ (i = 10 ∨ (816 ≤ i ∧ i < 876)) := hi
      simp (disch := omega) only [xst_n]
    · simp (disch := omega) only [xst_n, xst_s]
      omega
    · intro r h0 h1
      rw [xst_s] at h1
      by_cases hr : r = m 75 10
      · subst hr
        simp (disch := omega) only [xst_n, xst_s]
        omega
      · have := r0 r h0 (by omega)
        simp (disch := omega) only [xst_n]
        exact this
theorem xst_h {M : Int → Int} {i v x : Int} (h : x = i) : xst M i v x = v := if_pos h
theorem k_cost {m : jMu} (hA : kA m) (a b c0 : Int) : ∃ o, ((f_L_cost a b c0 m).bind fun r1 => (f_X10_cost a b c0 r1.2).bind fun r2 => (f_X10_thrown r2).bind fun r3 => (if r3 = r1.1 then some r2 else none)) = some o ∧ kA o := by
  have hz := hA.1.z
  have hn := hA.1.n
  have t0 : TabR m 4 5 10 8 (m 75 0) (kF (m 75) 0) := hA.1.t 0 (by decide)
  have r0 : kR (m 75) 0 := (hA.1.1 0 (by decide)).2
  have hS : TabS 4 5 80 10 8 := by unfold TabS; decide
  by_cases g1 : 0 ≤ a ∧ a < m 75 0
  rotate_left
  · exact kv_bad (Fx := f_L_cost a b c0) (Fm := f_X10_cost a b c0) hA (k := 1) (by unfold f_L_cost f_X9_cost f_X9_cost_J38 f_X9_cost_J39; simp (disch := omega) only [xIsIn, cHas, cRoom, Option.bind_some, nIz, nAz, nRz, nEz, nDz, nI0z, nI1z, nA0z, nA1z, nE0z, nE1z, nR0z, nR1z, jcat2_r, jcat2_l, jlt_eq, ite01, ite01o, ite01p, ite00, ite10, xe1, xe2, xe3, xe4, xe5, xe6, if_true, if_false, f_X5_size, Int.reduceLE, Int.reduceLT, hz, if_pos, if_neg, ite_self]) (by unfold f_X10_cost f_X10_cost_J33 f_X10_cost_J38; simp (disch := omega) only [mIsIn, mDay, mHour, mMoment, Option.bind_some, ite01, ite01o, ite01p, ite00, ite10, jlt_eq, jup_s, le00, le10, le20, le30, if_true, if_false, Int.reduceLE, Int.reduceLT, mBay _ hn.1, mJob _ hn.2.2.2.2.2.2.2.2.1, mBatch _ hn.2.2.2.2.2.2.2.1, if_pos, if_neg, ite_self])
  by_cases g2 : 0 ≤ b ∧ b ≤ 99
  rotate_left
  · exact kv_bad (Fx := f_L_cost a b c0) (Fm := f_X10_cost a b c0) hA (k := 2) (by unfold f_L_cost f_X9_cost f_X9_cost_J38 f_X9_cost_J39; simp (disch := omega) only [xIsIn, cHas, cRoom, Option.bind_some, nIz, nAz, nRz, nEz, nDz, nI0z, nI1z, nA0z, nA1z, nE0z, nE1z, nR0z, nR1z, jcat2_r, jcat2_l, jlt_eq, ite01, ite01o, ite01p, ite00, ite10, xe1, xe2, xe3, xe4, xe5, xe6, if_true, if_false, f_X5_size, Int.reduceLE, Int.reduceLT, hz, if_pos, if_neg, ite_self]) (by unfold f_X10_cost f_X10_cost_J33 f_X10_cost_J38; simp (disch := omega) only [mIsIn, mDay, mHour, mMoment, Option.bind_some, ite01, ite01o, ite01p, ite00, ite10, jlt_eq, jup_s, le00, le10, le20, le30, if_true, if_false, Int.reduceLE, Int.reduceLT, mBay _ hn.1, mJob _ hn.2.2.2.2.2.2.2.2.1, mBatch _ hn.2.2.2.2.2.2.2.1, if_pos, if_neg, ite_self])
  by_cases g3 : 0 ≤ c0 ∧ c0 ≤ 99
  rotate_left
  · exact kv_bad (Fx := f_L_cost a b c0) (Fm := f_X10_cost a b c0) hA (k := 2) (by unfold f_L_cost f_X9_cost f_X9_cost_J38 f_X9_cost_J39; simp (disch := omega) only [xIsIn, cHas, cRoom, Option.bind_some, nIz, nAz, nRz, nEz, nDz, nI0z, nI1z, nA0z, nA1z, nE0z, nE1z, nR0z, nR1z, jcat2_r, jcat2_l, jlt_eq, ite01, ite01o, ite01p, ite00, ite10, xe1, xe2, xe3, xe4, xe5, xe6, if_true, if_false, f_X5_size, Int.reduceLE, Int.reduceLT, hz, if_pos, if_neg, ite_self]) (by unfold f_X10_cost f_X10_cost_J33 f_X10_cost_J38; simp (disch := omega) only [mIsIn, mDay, mHour, mMoment, Option.bind_some, ite01, ite01o, ite01p, ite00, ite10, jlt_eq, jup_s, le00, le10, le20, le30, if_true, if_false, Int.reduceLE, Int.reduceLT, mBay _ hn.1, mJob _ hn.2.2.2.2.2.2.2.2.1, mBatch _ hn.2.2.2.2.2.2.2.1, if_pos, if_neg, ite_self])
  refine kv_good (Fx := f_L_cost a b c0) (Fm := f_X10_cost a b c0) (K := 0) (by decide) (M' := (xst ((xst (m 75) (20 + 9 * a + 4) (b))) (20 + 9 * a + 4 + 1) (c0))) hA ?_ (fun m1 hm1 => ?_) ?_
  · skip
    have d0 := tb_set (v := b) (r := a) (c := 5) hS t0 (by omega) (by omega) (by decide) (by decide)
    have u0 := TabR.set (v := b) (r := a) (c := 5) hS t0 (by decide) (by decide)
    have d1 := tb_set (v := c0) (r := a) (c := 6) hS u0 (by omega) (by omega) (by decide) (by decide)
    have u1 := TabR.set (v := c0) (r := a) (c := 6) hS u0 (by decide) (by decide)
    unfold f_L_cost f_X9_cost f_X9_cost_J38 f_X9_cost_J39
    simp (disch := omega) only [xIsIn, cHas, cRoom, Option.bind_some, nIz, nAz, nRz, nEz, nDz, nI0z, nI1z, nA0z, nA1z, nE0z, nE1z, nR0z, nR1z, jcat2_r, jcat2_l, jlt_eq, ite01, ite01o, ite01p, ite00, ite10, xe1, xe2, xe3, xe4, xe5, xe6, if_true, if_false, f_X5_size, Int.reduceLE, Int.reduceLT, hz, if_pos, if_neg, d0, d1]
    refine ⟨_, rfl, fun c h1 h2 h3 => ?_, ?_⟩
    · have h1 : c ≠ 4 := h1
      have h2 : c ≠ 5 := h2
      rw [jup_c h2, jup_c h2]
    · have e9 : kN ((xst ((xst (m 75) (20 + 9 * a + 4) (b))) (20 + 9 * a + 4 + 1) (c0))) 0 = m 75 0 := by
        show ((xst ((xst (m 75) (20 + 9 * a + 4) (b))) (20 + 9 * a + 4 + 1) (c0))) 0 = _
        simp (disch := omega) only [xst_n]
      rw [e9]
      refine TabR.congr (cols := 10) (lim := 8) (n := m 75 0) u1 (fun r c h1 h2 h3 h4 => ?_)
      by_cases hr : r = a
      · subst hr
        obtain rfl | rfl | rfl | rfl | rfl | rfl | rfl | rfl | rfl | rfl : c = 0 ∨ c = 1 ∨ c = 2 ∨ c = 3 ∨ c = 4 ∨ c = 5 ∨ c = 6 ∨ c = 7 ∨ c = 8 ∨ c = 9 := by omega
        all_goals
          simp only [kF, Int.reduceEq, Int.reduceLT, Int.reduceAdd, Int.reduceSub, and_true, and_false, true_and, if_true, if_false, Int.add_zero]
          try simp (disch := omega) only [xst_n, xst_s, xst_h]
      · simp only [kF, hr, false_and, if_false]
        simp (disch := omega) only [xst_n]
  · unfold f_X10_cost f_X10_cost_J33 f_X10_cost_J38
    simp (disch := omega) only [mIsIn, mDay, mHour, mMoment, Option.bind_some, ite01, ite01o, ite01p, ite00, ite10, jlt_eq, jup_s, le00, le10, le20, le30, if_true, if_false, Int.reduceLE, Int.reduceLT, mBay (m := m1) _ (by rw [hm1]; exact hn.1), mJob (m := m1) _ (by rw [hm1]; exact hn.2.2.2.2.2.2.2.2.1), mBatch (m := m1) _ (by rw [hm1]; exact hn.2.2.2.2.2.2.2.1), mOfJob, jup_c, hm1, jW_of, if_pos, if_neg, xst_j, xst_n, xst_s]
    refine ⟨_, rfl, ?_, ?_, ?_, ?_⟩
    · rw [jup_c (by decide), jup_c (by decide), jup_s]
    · intro j hj
      rw [jup_c (by decide), jup_c (by decide), jup_j hj]
    · rw [xst_j, xst_j, jup_c (by decide), hm1]
    · intro c h1 h2
      rw [jup_c h2, jup_c h2, jup_c h1]
  · refine ⟨fun i hi => ?_, ?_, ?_⟩
    · have hi' : ¬ (i = 0 ∨ (20 ≤ i ∧ i < 92)) := hi
      simp (disch := omega) only [xst_n]
    · simp (disch := omega) only [xst_n]
      omega
    · intro r h0 h1
      have h1 : r < ((xst ((xst (m 75) (20 + 9 * a + 4) (b))) (20 + 9 * a + 4 + 1) (c0))) 0 := h1
      simp (disch := omega) only [xst_n] at h1
      have := r0 r h0 h1
      by_cases hr : r = a
      · subst hr
        simp (disch := omega) only [xst_n, xst_s, xst_h]
        omega
      · simp (disch := omega) only [xst_n]
        exact this
theorem k_wear {m : jMu} (hA : kA m) (a b c0 d : Int) : ∃ o, ((f_L_wear a b c0 d m).bind fun r1 => (f_X10_wear a b c0 d r1.2).bind fun r2 => (f_X10_thrown r2).bind fun r3 => (if r3 = r1.1 then some r2 else none)) = some o ∧ kA o := by
  have hz := hA.1.z
  have hn := hA.1.n
  have t0 : TabR m 4 5 10 8 (m 75 0) (kF (m 75) 0) := hA.1.t 0 (by decide)
  have r0 : kR (m 75) 0 := (hA.1.1 0 (by decide)).2
  have hS : TabS 4 5 80 10 8 := by unfold TabS; decide
  by_cases g1 : 0 ≤ a ∧ a < m 75 0
  rotate_left
  · exact kv_bad (Fx := f_L_wear a b c0 d) (Fm := f_X10_wear a b c0 d) hA (k := 1) (by unfold f_L_wear f_X9_wear f_X9_wear_J52 f_X9_wear_J53; simp (disch := omega) only [xIsIn, cHas, cRoom, Option.bind_some, nIz, nAz, nRz, nEz, nDz, nI0z, nI1z, nA0z, nA1z, nE0z, nE1z, nR0z, nR1z, jcat2_r, jcat2_l, jlt_eq, ite01, ite01o, ite01p, ite00, ite10, xe1, xe2, xe3, xe4, xe5, xe6, if_true, if_false, f_X5_size, Int.reduceLE, Int.reduceLT, hz, if_pos, if_neg, ite_self]) (by unfold f_X10_wear f_X10_wear_J47 f_X10_wear_J52; simp (disch := omega) only [mIsIn, mDay, mHour, mMoment, Option.bind_some, ite01, ite01o, ite01p, ite00, ite10, jlt_eq, jup_s, le00, le10, le20, le30, if_true, if_false, Int.reduceLE, Int.reduceLT, mBay _ hn.1, mJob _ hn.2.2.2.2.2.2.2.2.1, mBatch _ hn.2.2.2.2.2.2.2.1, if_pos, if_neg, ite_self])
  by_cases g2 : 0 ≤ b ∧ b ≤ 999
  rotate_left
  · exact kv_bad (Fx := f_L_wear a b c0 d) (Fm := f_X10_wear a b c0 d) hA (k := 2) (by unfold f_L_wear f_X9_wear f_X9_wear_J52 f_X9_wear_J53; simp (disch := omega) only [xIsIn, cHas, cRoom, Option.bind_some, nIz, nAz, nRz, nEz, nDz, nI0z, nI1z, nA0z, nA1z, nE0z, nE1z, nR0z, nR1z, jcat2_r, jcat2_l, jlt_eq, ite01, ite01o, ite01p, ite00, ite10, xe1, xe2, xe3, xe4, xe5, xe6, if_true, if_false, f_X5_size, Int.reduceLE, Int.reduceLT, hz, if_pos, if_neg, ite_self]) (by unfold f_X10_wear f_X10_wear_J47 f_X10_wear_J52; simp (disch := omega) only [mIsIn, mDay, mHour, mMoment, Option.bind_some, ite01, ite01o, ite01p, ite00, ite10, jlt_eq, jup_s, le00, le10, le20, le30, if_true, if_false, Int.reduceLE, Int.reduceLT, mBay _ hn.1, mJob _ hn.2.2.2.2.2.2.2.2.1, mBatch _ hn.2.2.2.2.2.2.2.1, if_pos, if_neg, ite_self])
  by_cases g3 : 0 ≤ c0 ∧ c0 ≤ 999
  rotate_left
  · exact kv_bad (Fx := f_L_wear a b c0 d) (Fm := f_X10_wear a b c0 d) hA (k := 2) (by unfold f_L_wear f_X9_wear f_X9_wear_J52 f_X9_wear_J53; simp (disch := omega) only [xIsIn, cHas, cRoom, Option.bind_some, nIz, nAz, nRz, nEz, nDz, nI0z, nI1z, nA0z, nA1z, nE0z, nE1z, nR0z, nR1z, jcat2_r, jcat2_l, jlt_eq, ite01, ite01o, ite01p, ite00, ite10, xe1, xe2, xe3, xe4, xe5, xe6, if_true, if_false, f_X5_size, Int.reduceLE, Int.reduceLT, hz, if_pos, if_neg, ite_self]) (by unfold f_X10_wear f_X10_wear_J47 f_X10_wear_J52; simp (disch := omega) only [mIsIn, mDay, mHour, mMoment, Option.bind_some, ite01, ite01o, ite01p, ite00, ite10, jlt_eq, jup_s, le00, le10, le20, le30, if_true, if_false, Int.reduceLE, Int.reduceLT, mBay _ hn.1, mJob _ hn.2.2.2.2.2.2.2.2.1, mBatch _ hn.2.2.2.2.2.2.2.1, if_pos, if_neg, ite_self])
  by_cases g4 : 0 ≤ d ∧ d ≤ 999
  rotate_left
  · exact kv_bad (Fx := f_L_wear a b c0 d) (Fm := f_X10_wear a b c0 d) hA (k := 2) (by unfold f_L_wear f_X9_wear f_X9_wear_J52 f_X9_wear_J53; simp (disch := omega) only [xIsIn, cHas, cRoom, Option.bind_some, nIz, nAz, nRz, nEz, nDz, nI0z, nI1z, nA0z, nA1z, nE0z, nE1z, nR0z, nR1z, jcat2_r, jcat2_l, jlt_eq, ite01, ite01o, ite01p, ite00, ite10, xe1, xe2, xe3, xe4, xe5, xe6, if_true, if_false, f_X5_size, Int.reduceLE, Int.reduceLT, hz, if_pos, if_neg, ite_self]) (by unfold f_X10_wear f_X10_wear_J47 f_X10_wear_J52; simp (disch := omega) only [mIsIn, mDay, mHour, mMoment, Option.bind_some, ite01, ite01o, ite01p, ite00, ite10, jlt_eq, jup_s, le00, le10, le20, le30, if_true, if_false, Int.reduceLE, Int.reduceLT, mBay _ hn.1, mJob _ hn.2.2.2.2.2.2.2.2.1, mBatch _ hn.2.2.2.2.2.2.2.1, if_pos, if_neg, ite_self])
  refine kv_good (Fx := f_L_wear a b c0 d) (Fm := f_X10_wear a b c0 d) (K := 0) (by decide) (M' := (xst ((xst ((xst (m 75) (20 + 9 * a + 6) (b))) (20 + 9 * a + 6 + 1) (c0))) (20 + 9 * a + 6 + 2) (d))) hA ?_ (fun m1 hm1 => ?_) ?_
  · skip
    have d0 := tb_set (v := b) (r := a) (c := 7) hS t0 (by omega) (by omega) (by decide) (by decide)
    have u0 := TabR.set (v := b) (r := a) (c := 7) hS t0 (by decide) (by decide)
    have d1 := tb_set (v := c0) (r := a) (c := 8) hS u0 (by omega) (by omega) (by decide) (by decide)
    have u1 := TabR.set (v := c0) (r := a) (c := 8) hS u0 (by decide) (by decide)
    have d2 := tb_set (v := d) (r := a) (c := 9) hS u1 (by omega) (by omega) (by decide) (by decide)
    have u2 := TabR.set (v := d) (r := a) (c := 9) hS u1 (by decide) (by decide)
    unfold f_L_wear f_X9_wear f_X9_wear_J52 f_X9_wear_J53
    simp (disch := omega) only [xIsIn, cHas, cRoom, Option.bind_some, nIz, nAz, nRz, nEz, nDz, nI0z, nI1z, nA0z, nA1z, nE0z, nE1z, nR0z, nR1z, jcat2_r, jcat2_l, jlt_eq, ite01, ite01o, ite01p, ite00, ite10, xe1, xe2, xe3, xe4, xe5, xe6, if_true, if_false, f_X5_size, Int.reduceLE, Int.reduceLT, hz, if_pos, if_neg, d0, d1, d2]
    refine ⟨_, rfl, fun c h1 h2 h3 => ?_, ?_⟩
    · have h1 : c ≠ 4 := h1
      have h2 : c ≠ 5 := h2
      rw [jup_c h2, jup_c h2, jup_c h2]
    · have e9 : kN ((xst ((xst ((xst (m 75) (20 + 9 * a + 6) (b))) (20 + 9 * a + 6 + 1) (c0))) (20 + 9 * a + 6 + 2) (d))) 0 = m 75 0 := by
        show ((xst ((xst ((xst (m 75) (20 + 9 * a + 6) (b))) (20 + 9 * a + 6 + 1) (c0))) (20 + 9 * a + 6 + 2) (d))) 0 = _
        simp (disch := omega) only [xst_n]
      rw [e9]
      refine TabR.congr (cols := 10) (lim := 8) (n := m 75 0) u2 (fun r c h1 h2 h3 h4 => ?_)
      by_cases hr : r = a
      · subst hr
        obtain rfl | rfl | rfl | rfl | rfl | rfl | rfl | rfl | rfl | rfl : c = 0 ∨ c = 1 ∨ c = 2 ∨ c = 3 ∨ c = 4 ∨ c = 5 ∨ c = 6 ∨ c = 7 ∨ c = 8 ∨ c = 9 := by omega
        all_goals
          simp only [kF, Int.reduceEq, Int.reduceLT, Int.reduceAdd, Int.reduceSub, and_true, and_false, true_and, if_true, if_false, Int.add_zero]
          try simp (disch := omega) only [xst_n, xst_s, xst_h]
      · simp only [kF, hr, false_and, if_false]
        simp (disch := omega) only [xst_n]
  · unfold f_X10_wear f_X10_wear_J47 f_X10_wear_J52
    simp (disch := omega) only [mIsIn, mDay, mHour, mMoment, Option.bind_some, ite01, ite01o, ite01p, ite00, ite10, jlt_eq, jup_s, le00, le10, le20, le30, if_true, if_false, Int.reduceLE, Int.reduceLT, mBay (m := m1) _ (by rw [hm1]; exact hn.1), mJob (m := m1) _ (by rw [hm1]; exact hn.2.2.2.2.2.2.2.2.1), mBatch (m := m1) _ (by rw [hm1]; exact hn.2.2.2.2.2.2.2.1), mOfJob, jup_c, hm1, jW_of, if_pos, if_neg, xst_j, xst_n, xst_s]
    refine ⟨_, rfl, ?_, ?_, ?_, ?_⟩
    · rw [jup_c (by decide), jup_c (by decide), jup_c (by decide), jup_s]
    · intro j hj
      rw [jup_c (by decide), jup_c (by decide), jup_c (by decide), jup_j hj]
    · rw [xst_j, xst_j, xst_j, jup_c (by decide), hm1]
    · intro c h1 h2
      rw [jup_c h2, jup_c h2, jup_c h2, jup_c h1]
  · refine ⟨fun i hi => ?_, ?_, ?_⟩
    · have hi' : ¬ (i = 0 ∨ (20 ≤ i ∧ i < 92)) := hi
      simp (disch := omega) only [xst_n]
    · simp (disch := omega) only [xst_n]
      omega
    · intro r h0 h1
      have h1 : r < ((xst ((xst ((xst (m 75) (20 + 9 * a + 6) (b))) (20 + 9 * a + 6 + 1) (c0))) (20 + 9 * a + 6 + 2) (d))) 0 := h1
      simp (disch := omega) only [xst_n] at h1
      have := r0 r h0 h1
      by_cases hr : r = a
      · subst hr
        simp (disch := omega) only [xst_n, xst_s, xst_h]
        omega
      · simp (disch := omega) only [xst_n]
        exact this
theorem k_rust {m : jMu} (hA : kA m) (a b c0 : Int) : ∃ o, ((f_L_rust a b c0 m).bind fun r1 => (f_X10_rust a b c0 r1.2).bind fun r2 => (f_X10_thrown r2).bind fun r3 => (if r3 = r1.1 then some r2 else none)) = some o ∧ kA o := by
  have hz := hA.1.z
  have hn := hA.1.n
  have t0 : TabR m 2 3 2 2 (2) (kF (m 75) 8) := hA.1.t 8 (by decide)
  have r0 : kR (m 75) 8 := (hA.1.1 8 (by decide)).2
  have hS : TabS 2 3 4 2 2 := by unfold TabS; decide
  by_cases g1 : 0 ≤ a ∧ a ≤ 1
  rotate_left
  · exact kv_bad (Fx := f_L_rust a b c0) (Fm := f_X10_rust a b c0) hA (k := 1) (by unfold f_L_rust f_X9_rust f_X9_rust_J28 f_X9_rust_J29; simp (disch := omega) only [xIsIn, cHas, cRoom, Option.bind_some, nIz, nAz, nRz, nEz, nDz, nI0z, nI1z, nA0z, nA1z, nE0z, nE1z, nR0z, nR1z, jcat2_r, jcat2_l, jlt_eq, ite01, ite01o, ite01p, ite00, ite10, xe1, xe2, xe3, xe4, xe5, xe6, if_true, if_false, f_X5_size, Int.reduceLE, Int.reduceLT, hz, if_pos, if_neg, ite_self]) (by unfold f_X10_rust f_X10_rust_J34 f_X10_rust_J39; simp (disch := omega) only [mIsIn, mDay, mHour, mMoment, Option.bind_some, ite01, ite01o, ite01p, ite00, ite10, jlt_eq, jup_s, le00, le10, le20, le30, if_true, if_false, Int.reduceLE, Int.reduceLT, mBay _ hn.1, mJob _ hn.2.2.2.2.2.2.2.2.1, mBatch _ hn.2.2.2.2.2.2.2.1, if_pos, if_neg, ite_self])
  by_cases g2 : 0 ≤ b
  rotate_left
  · exact kv_bad (Fx := f_L_rust a b c0) (Fm := f_X10_rust a b c0) hA (k := 2) (by unfold f_L_rust f_X9_rust f_X9_rust_J28 f_X9_rust_J29; simp (disch := omega) only [xIsIn, cHas, cRoom, Option.bind_some, nIz, nAz, nRz, nEz, nDz, nI0z, nI1z, nA0z, nA1z, nE0z, nE1z, nR0z, nR1z, jcat2_r, jcat2_l, jlt_eq, ite01, ite01o, ite01p, ite00, ite10, xe1, xe2, xe3, xe4, xe5, xe6, if_true, if_false, f_X5_size, Int.reduceLE, Int.reduceLT, hz, if_pos, if_neg, ite_self]) (by unfold f_X10_rust f_X10_rust_J34 f_X10_rust_J39; simp (disch := omega) only [mIsIn, mDay, mHour, mMoment, Option.bind_some, ite01, ite01o, ite01p, ite00, ite10, jlt_eq, jup_s, le00, le10, le20, le30, if_true, if_false, Int.reduceLE, Int.reduceLT, mBay _ hn.1, mJob _ hn.2.2.2.2.2.2.2.2.1, mBatch _ hn.2.2.2.2.2.2.2.1, if_pos, if_neg, ite_self])
  by_cases g3 : b ≤ c0
  rotate_left
  · exact kv_bad (Fx := f_L_rust a b c0) (Fm := f_X10_rust a b c0) hA (k := 2) (by unfold f_L_rust f_X9_rust f_X9_rust_J28 f_X9_rust_J29; simp (disch := omega) only [xIsIn, cHas, cRoom, Option.bind_some, nIz, nAz, nRz, nEz, nDz, nI0z, nI1z, nA0z, nA1z, nE0z, nE1z, nR0z, nR1z, jcat2_r, jcat2_l, jlt_eq, ite01, ite01o, ite01p, ite00, ite10, xe1, xe2, xe3, xe4, xe5, xe6, if_true, if_false, f_X5_size, Int.reduceLE, Int.reduceLT, hz, if_pos, if_neg, ite_self]) (by unfold f_X10_rust f_X10_rust_J34 f_X10_rust_J39; simp (disch := omega) only [mIsIn, mDay, mHour, mMoment, Option.bind_some, ite01, ite01o, ite01p, ite00, ite10, jlt_eq, jup_s, le00, le10, le20, le30, if_true, if_false, Int.reduceLE, Int.reduceLT, mBay _ hn.1, mJob _ hn.2.2.2.2.2.2.2.2.1, mBatch _ hn.2.2.2.2.2.2.2.1, if_pos, if_neg, ite_self])
  by_cases g4 : c0 ≤ 20
  rotate_left
  · exact kv_bad (Fx := f_L_rust a b c0) (Fm := f_X10_rust a b c0) hA (k := 2) (by unfold f_L_rust f_X9_rust f_X9_rust_J28 f_X9_rust_J29; simp (disch := omega) only [xIsIn, cHas, cRoom, Option.bind_some, nIz, nAz, nRz, nEz, nDz, nI0z, nI1z, nA0z, nA1z, nE0z, nE1z, nR0z, nR1z, jcat2_r, jcat2_l, jlt_eq, ite01, ite01o, ite01p, ite00, ite10, xe1, xe2, xe3, xe4, xe5, xe6, if_true, if_false, f_X5_size, Int.reduceLE, Int.reduceLT, hz, if_pos, if_neg, ite_self]) (by unfold f_X10_rust f_X10_rust_J34 f_X10_rust_J39; simp (disch := omega) only [mIsIn, mDay, mHour, mMoment, Option.bind_some, ite01, ite01o, ite01p, ite00, ite10, jlt_eq, jup_s, le00, le10, le20, le30, if_true, if_false, Int.reduceLE, Int.reduceLT, mBay _ hn.1, mJob _ hn.2.2.2.2.2.2.2.2.1, mBatch _ hn.2.2.2.2.2.2.2.1, if_pos, if_neg, ite_self])
  refine kv_good (Fx := f_L_rust a b c0) (Fm := f_X10_rust a b c0) (K := 8) (by decide) (M' := (xst ((xst (m 75) (876 + 2 * a) (b))) (876 + 2 * a + 1) (c0))) hA ?_ (fun m1 hm1 => ?_) ?_
  · skip
    have d0 := tb_set (v := b) (r := a) (c := 0) hS t0 (by omega) (by omega) (by decide) (by decide)
    have u0 := TabR.set (v := b) (r := a) (c := 0) hS t0 (by decide) (by decide)
    have d1 := tb_set (v := c0) (r := a) (c := 1) hS u0 (by omega) (by omega) (by decide) (by decide)
    have u1 := TabR.set (v := c0) (r := a) (c := 1) hS u0 (by decide) (by decide)
    unfold f_L_rust f_X9_rust f_X9_rust_J28 f_X9_rust_J29
    simp (disch := omega) only [xIsIn, cHas, cRoom, Option.bind_some, nIz, nAz, nRz, nEz, nDz, nI0z, nI1z, nA0z, nA1z, nE0z, nE1z, nR0z, nR1z, jcat2_r, jcat2_l, jlt_eq, ite01, ite01o, ite01p, ite00, ite10, xe1, xe2, xe3, xe4, xe5, xe6, if_true, if_false, f_X5_size, Int.reduceLE, Int.reduceLT, hz, if_pos, if_neg, d0, d1]
    refine ⟨_, rfl, fun c h1 h2 h3 => ?_, ?_⟩
    · have h1 : c ≠ 2 := h1
      have h2 : c ≠ 3 := h2
      rw [jup_c h2, jup_c h2]
    · have e9 : kN ((xst ((xst (m 75) (876 + 2 * a) (b))) (876 + 2 * a + 1) (c0))) 8 = 2 := by
        show (2 : Int) = _
        rfl
      rw [e9]
      refine TabR.congr (cols := 2) (lim := 2) (n := 2) u1 (fun r c h1 h2 h3 h4 => ?_)
      by_cases hr : r = a
      · subst hr
        obtain rfl | rfl : c = 0 ∨ c = 1 := by omega
        all_goals
          simp only [kF, Int.reduceEq, Int.reduceLT, Int.reduceAdd, Int.reduceSub, and_true, and_false, true_and, if_true, if_false, Int.add_zero]
          try simp (disch := omega) only [xst_n, xst_s, xst_h]
      · simp only [kF, hr, false_and, if_false]
        simp (disch := omega) only [xst_n]
  · unfold f_X10_rust f_X10_rust_J34 f_X10_rust_J39
    simp (disch := omega) only [mIsIn, mDay, mHour, mMoment, Option.bind_some, ite01, ite01o, ite01p, ite00, ite10, jlt_eq, jup_s, le00, le10, le20, le30, if_true, if_false, Int.reduceLE, Int.reduceLT, mBay (m := m1) _ (by rw [hm1]; exact hn.1), mJob (m := m1) _ (by rw [hm1]; exact hn.2.2.2.2.2.2.2.2.1), mBatch (m := m1) _ (by rw [hm1]; exact hn.2.2.2.2.2.2.2.1), mOfJob, jup_c, hm1, jW_of, if_pos, if_neg, xst_j, xst_n, xst_s]
    refine ⟨_, rfl, ?_, ?_, ?_, ?_⟩
    · rw [jup_c (by decide), jup_c (by decide), jup_s]
    · intro j hj
      rw [jup_c (by decide), jup_c (by decide), jup_j hj]
    · rw [xst_j, xst_j, jup_c (by decide), hm1]
    · intro c h1 h2
      rw [jup_c h2, jup_c h2, jup_c h1]
  · refine ⟨fun i hi => ?_, ?_, ?_⟩
    · have hi' : ¬ (876 ≤ i ∧ i < 880) := hi
      simp (disch := omega) only [xst_n]
    · simp (disch := omega) only [xst_n]
      omega
    · have r1 : (0 ≤ m 75 876 ∧ m 75 876 ≤ 20) ∧ (0 ≤ m 75 877 ∧ m 75 877 ≤ 20) ∧ (0 ≤ m 75 878 ∧ m 75 878 ≤ 20) ∧ (0 ≤ m 75 879 ∧ m 75 879 ≤ 20) := r0
      obtain rfl | rfl : a = 0 ∨ a = 1 := by omega
      all_goals
        simp (disch := omega) only [kR, xst_n, xst_s, xst_h]
        omega
theorem k_peel {m : jMu} (hA : kA m) (a : Int) : ∃ o, ((f_L_peel a m).bind fun r1 => (f_X10_peel a r1.2).bind fun r2 => (f_X10_thrown r2.2).bind fun r3 => (if r3 = r1.1 then (if r1.1 = 0 then (if r2.1 = 0 then (if jCm (r2.2 87 0) 0 = 0 then some r2.2 else none) else (if jCm (r2.2 87 0) 1 = 0 then some r2.2 else none)) else some r2.2) else none)) = some o ∧ kA o := by
  have hz := hA.1.z
  have hn := hA.1.n
  have t0 : TabR m 24 25 8 40 (m 75 8) (kF (m 75) 7) := hA.1.t 7 (by decide)
  have r0 : kR (m 75) 7 := (hA.1.1 7 (by decide)).2
  have hS : TabS 24 25 320 8 40 := by unfold TabS; decide
  by_cases g1 : 0 ≤ a ∧ a < m 75 8
  rotate_left
  · refine kb_same (Fx := f_L_peel a) (Fm := f_X10_peel a) (k := 1) (v := 0) (Or.inl rfl) hA ?_ (fun m1 hA1 hm1 => ?_)
    · unfold f_L_peel f_X9_peel
      simp (disch := omega) only [xIsIn, cHas, cRoom, Option.bind_some, nIz, nAz, nRz, nEz, nDz, nI0z, nI1z, nA0z, nA1z, nE0z, nE1z, nR0z, nR1z, jcat2_r, jcat2_l, jlt_eq, ite01, ite01o, ite01p, ite00, ite10, xe1, xe2, xe3, xe4, xe5, xe6, if_true, if_false, f_X5_size, Int.reduceLE, Int.reduceLT, hz, if_pos, if_neg]
      exact cQ_thr (by decide)
    · have hn1 := hA1.1.n
      rw [← hm1] at g1
      unfold f_X10_peel f_X10_peel_J14
      simp (disch := omega) only [mIsIn, mDay, mHour, mMoment, Option.bind_some, ite01, ite01o, ite01p, ite00, ite10, jlt_eq, jup_s, le00, le10, le20, le30, if_true, if_false, Int.reduceLE, Int.reduceLT, mJob _ hn1.2.2.2.2.2.2.2.2.1, mBatch _ hn1.2.2.2.2.2.2.2.1, if_pos, if_neg]
      exact mQ_thr (by decide)
  by_cases g9 : m 75 (376 + 8 * a + 6) = -1
  rotate_left
  · refine kb_same (Fx := f_L_peel a) (Fm := f_X10_peel a) (k := 0) (v := 0) (Or.inl rfl) hA ?_ (fun m1 hA1 hm1 => ?_)
    · unfold f_L_peel f_X9_peel
      simp (disch := omega) only [xIsIn, cHas, cRoom, Option.bind_some, nIz, nAz, nRz, nEz, nDz, nI0z, nI1z, nA0z, nA1z, nE0z, nE1z, nR0z, nR1z, jcat2_r, jcat2_l, jlt_eq, ite01, ite01o, ite01p, ite00, ite10, xe1, xe2, xe3, xe4, xe5, xe6, if_true, if_false, f_X5_size, Int.reduceLE, Int.reduceLT, hz, if_pos, if_neg, cg_job hA.1, cg_bat hA.1]
      exact cQ_val2 (fC.rf m)
    · have hn1 := hA1.1.n
      rw [← hm1] at g1 g9
      unfold f_X10_peel f_X10_peel_J14
      simp (disch := omega) only [mIsIn, mDay, mHour, mMoment, Option.bind_some, ite01, ite01o, ite01p, ite00, ite10, jlt_eq, jup_s, le00, le10, le20, le30, if_true, if_false, Int.reduceLE, Int.reduceLT, mJob _ hn1.2.2.2.2.2.2.2.2.1, mBatch _ hn1.2.2.2.2.2.2.2.1, mOfJob, jup_c, jW_of, if_pos, if_neg]
      exact mQ_val
  refine kb_good (Fx := f_L_peel a) (Fm := f_X10_peel a) (K := 7) (by decide) (M' := (xst (m 75) (376 + 8 * a + 6) (m 75 11))) hA ?_ (fun m1 hm1 => ?_) ?_
  · skip
    have d0 := tb_set (v := m 75 11) (r := a) (c := 6) hS t0 (by omega) (by omega) (by decide) (by decide)
    have u0 := TabR.set (v := m 75 11) (r := a) (c := 6) hS t0 (by decide) (by decide)
    unfold f_L_peel f_X9_peel
    simp (disch := omega) only [xIsIn, cHas, cRoom, Option.bind_some, nIz, nAz, nRz, nEz, nDz, nI0z, nI1z, nA0z, nA1z, nE0z, nE1z, nR0z, nR1z, jcat2_r, jcat2_l, jlt_eq, ite01, ite01o, ite01p, ite00, ite10, xe1, xe2, xe3, xe4, xe5, xe6, if_true, if_false, f_X5_size, Int.reduceLE, Int.reduceLT, hz, if_pos, if_neg, d0, cg_job hA.1, cg_bat hA.1]
    refine ⟨_, rfl, jup_s, fun c h1 h2 h3 => ?_, ?_⟩
    · have h1 : c ≠ 24 := h1
      have h2 : c ≠ 25 := h2
      rw [jup_c h3, jup_c h2]
    · have e9 : kN ((xst (m 75) (376 + 8 * a + 6) (m 75 11))) 7 = m 75 8 := by
        show ((xst (m 75) (376 + 8 * a + 6) (m 75 11))) 8 = _
        simp (disch := omega) only [xst_n]
      rw [e9]
      refine TabR.congr (cols := 8) (lim := 40) (n := m 75 8) (u0.frame (jup_c (by decide)) (jup_c (by decide))) (fun r c h1 h2 h3 h4 => ?_)
      by_cases hr : r = a
      · subst hr
        obtain rfl | rfl | rfl | rfl | rfl | rfl | rfl | rfl : c = 0 ∨ c = 1 ∨ c = 2 ∨ c = 3 ∨ c = 4 ∨ c = 5 ∨ c = 6 ∨ c = 7 := by omega
        all_goals
          simp only [kF, Int.reduceEq, Int.reduceLT, Int.reduceAdd, Int.reduceSub, and_true, and_false, true_and, if_true, if_false, Int.add_zero]
          try simp (disch := omega) only [xst_n, xst_s, xst_h]
      · simp only [kF, hr, false_and, if_false]
        simp (disch := omega) only [xst_n]
  · unfold f_X10_peel f_X10_peel_J14
    simp (disch := omega) only [mIsIn, mDay, mHour, mMoment, Option.bind_some, ite01, ite01o, ite01p, ite00, ite10, jlt_eq, jup_s, le00, le10, le20, le30, if_true, if_false, Int.reduceLE, Int.reduceLT, mBay (m := m1) _ (by rw [hm1]; exact hn.1), mJob (m := m1) _ (by rw [hm1]; exact hn.2.2.2.2.2.2.2.2.1), mBatch (m := m1) _ (by rw [hm1]; exact hn.2.2.2.2.2.2.2.1), mOfJob, jup_c, hm1, jW_of, if_pos, if_neg, xst_j, xst_n, xst_s]
    refine ⟨_, rfl, ?_, ?_, ?_, ?_⟩
    · rw [jup_c (by decide), jup_s]
    · intro j hj
      rw [jup_c (by decide), jup_j hj]
    · rw [xst_j, jup_c (by decide), hm1]
    · intro c h1 h2
      rw [jup_c h2, jup_c h1]
  · refine ⟨fun i hi => ?_, ?_, ?_⟩
    · have hi' : ¬ (i = 8 ∨ (376 ≤ i ∧ i < 696)) := hi
      simp (disch := omega) only [xst_n]
    · simp (disch := omega) only [xst_n]
      omega
    · intro r h0 h1
      have h1 : r < ((xst (m 75) (376 + 8 * a + 6) (m 75 11))) 8 := h1
      simp (disch := omega) only [xst_n] at h1
      have := r0 r h0 h1
      by_cases hr : r = a
      · subst hr
        simp (disch := omega) only [xst_n, xst_s, xst_h]
        omega
      · simp (disch := omega) only [xst_n]
        exact this
theorem k_fail {m : jMu} (hA : kA m) (a : Int) : ∃ o, ((f_L_fail a m).bind fun r1 => (f_X10_fail a r1.2).bind fun r2 => (f_X10_thrown r2.2).bind fun r3 => (if r3 = r1.1 then (if r1.1 = 0 then (if r2.1 = 0 then (if jCm (r2.2 87 0) 0 = 0 then some r2.2 else none) else (if jCm (r2.2 87 0) 1 = 0 then some r2.2 else none)) else some r2.2) else none)) = some o ∧ kA o := by
  have hz := hA.1.z
  have hn := hA.1.n
  have t0 : TabR m 22 23 4 6 (m 75 7) (kF (m 75) 6) := hA.1.t 6 (by decide)
  have r0 : kR (m 75) 6 := (hA.1.1 6 (by decide)).2
  have hS : TabS 22 23 24 4 6 := by unfold TabS; decide
  by_cases g1 : 0 ≤ a ∧ a < m 75 7
  rotate_left
  · refine kb_same (Fx := f_L_fail a) (Fm := f_X10_fail a) (k := 1) (v := 0) (Or.inl rfl) hA ?_ (fun m1 hA1 hm1 => ?_)
    · unfold f_L_fail f_X9_fail
      simp (disch := omega) only [xIsIn, cHas, cRoom, Option.bind_some, nIz, nAz, nRz, nEz, nDz, nI0z, nI1z, nA0z, nA1z, nE0z, nE1z, nR0z, nR1z, jcat2_r, jcat2_l, jlt_eq, ite01, ite01o, ite01p, ite00, ite10, xe1, xe2, xe3, xe4, xe5, xe6, if_true, if_false, f_X5_size, Int.reduceLE, Int.reduceLT, hz, if_pos, if_neg]
      exact cQ_thr (by decide)
    · have hn1 := hA1.1.n
      rw [← hm1] at g1
      unfold f_X10_fail f_X10_fail_J14
      simp (disch := omega) only [mIsIn, mDay, mHour, mMoment, Option.bind_some, ite01, ite01o, ite01p, ite00, ite10, jlt_eq, jup_s, le00, le10, le20, le30, if_true, if_false, Int.reduceLE, Int.reduceLT, mJob _ hn1.2.2.2.2.2.2.2.2.1, mBatch _ hn1.2.2.2.2.2.2.2.1, if_pos, if_neg]
      exact mQ_thr (by decide)
  by_cases g9 : m 75 (352 + 4 * a + 3) = -1
  rotate_left
  · refine kb_same (Fx := f_L_fail a) (Fm := f_X10_fail a) (k := 0) (v := 0) (Or.inl rfl) hA ?_ (fun m1 hA1 hm1 => ?_)
    · unfold f_L_fail f_X9_fail
      simp (disch := omega) only [xIsIn, cHas, cRoom, Option.bind_some, nIz, nAz, nRz, nEz, nDz, nI0z, nI1z, nA0z, nA1z, nE0z, nE1z, nR0z, nR1z, jcat2_r, jcat2_l, jlt_eq, ite01, ite01o, ite01p, ite00, ite10, xe1, xe2, xe3, xe4, xe5, xe6, if_true, if_false, f_X5_size, Int.reduceLE, Int.reduceLT, hz, if_pos, if_neg, cg_job hA.1, cg_bat hA.1]
      exact cQ_val2 (fC.rf m)
    · have hn1 := hA1.1.n
      rw [← hm1] at g1 g9
      unfold f_X10_fail f_X10_fail_J14
      simp (disch := omega) only [mIsIn, mDay, mHour, mMoment, Option.bind_some, ite01, ite01o, ite01p, ite00, ite10, jlt_eq, jup_s, le00, le10, le20, le30, if_true, if_false, Int.reduceLE, Int.reduceLT, mJob _ hn1.2.2.2.2.2.2.2.2.1, mBatch _ hn1.2.2.2.2.2.2.2.1, mOfJob, jup_c, jW_of, if_pos, if_neg]
      exact mQ_val
  refine kb_good (Fx := f_L_fail a) (Fm := f_X10_fail a) (K := 6) (by decide) (M' := (xst (m 75) (352 + 4 * a + 3) (m 75 11))) hA ?_ (fun m1 hm1 => ?_) ?_
  · skip
    have d0 := tb_set (v := m 75 11) (r := a) (c := 3) hS t0 (by omega) (by omega) (by decide) (by decide)
    have u0 := TabR.set (v := m 75 11) (r := a) (c := 3) hS t0 (by decide) (by decide)
    unfold f_L_fail f_X9_fail
    simp (disch := omega) only [xIsIn, cHas, cRoom, Option.bind_some, nIz, nAz, nRz, nEz, nDz, nI0z, nI1z, nA0z, nA1z, nE0z, nE1z, nR0z, nR1z, jcat2_r, jcat2_l, jlt_eq, ite01, ite01o, ite01p, ite00, ite10, xe1, xe2, xe3, xe4, xe5, xe6, if_true, if_false, f_X5_size, Int.reduceLE, Int.reduceLT, hz, if_pos, if_neg, d0, cg_job hA.1, cg_bat hA.1]
    refine ⟨_, rfl, jup_s, fun c h1 h2 h3 => ?_, ?_⟩
    · have h1 : c ≠ 22 := h1
      have h2 : c ≠ 23 := h2
      rw [jup_c h3, jup_c h2]
    · have e9 : kN ((xst (m 75) (352 + 4 * a + 3) (m 75 11))) 6 = m 75 7 := by
        show ((xst (m 75) (352 + 4 * a + 3) (m 75 11))) 7 = _
        simp (disch := omega) only [xst_n]
      rw [e9]
      refine TabR.congr (cols := 4) (lim := 6) (n := m 75 7) (u0.frame (jup_c (by decide)) (jup_c (by decide))) (fun r c h1 h2 h3 h4 => ?_)
      by_cases hr : r = a
      · subst hr
        obtain rfl | rfl | rfl | rfl : c = 0 ∨ c = 1 ∨ c = 2 ∨ c = 3 := by omega
        all_goals
          simp only [kF, Int.reduceEq, Int.reduceLT, Int.reduceAdd, Int.reduceSub, and_true, and_false, true_and, if_true, if_false, Int.add_zero]
          try simp (disch := omega) only [xst_n, xst_s, xst_h]
      · simp only [kF, hr, false_and, if_false]
        simp (disch := omega) only [xst_n]
  · unfold f_X10_fail f_X10_fail_J14
    simp (disch := omega) only [mIsIn, mDay, mHour, mMoment, Option.bind_some, ite01, ite01o, ite01p, ite00, ite10, jlt_eq, jup_s, le00, le10, le20, le30, if_true, if_false, Int.reduceLE, Int.reduceLT, mBay (m := m1) _ (by rw [hm1]; exact hn.1), mJob (m := m1) _ (by rw [hm1]; exact hn.2.2.2.2.2.2.2.2.1), mBatch (m := m1) _ (by rw [hm1]; exact hn.2.2.2.2.2.2.2.1), mOfJob, jup_c, hm1, jW_of, if_pos, if_neg, xst_j, xst_n, xst_s]
    refine ⟨_, rfl, ?_, ?_, ?_, ?_⟩
    · rw [jup_c (by decide), jup_s]
    · intro j hj
      rw [jup_c (by decide), jup_j hj]
    · rw [xst_j, jup_c (by decide), hm1]
    · intro c h1 h2
      rw [jup_c h2, jup_c h1]
  · refine ⟨fun i hi => ?_, ?_, ?_⟩
    · have hi' : ¬ (i = 7 ∨ (352 ≤ i ∧ i < 376)) := hi
      simp (disch := omega) only [xst_n]
    · simp (disch := omega) only [xst_n]
      omega
    · intro r h0 h1
      have h1 : r < ((xst (m 75) (352 + 4 * a + 3) (m 75 11))) 7 := h1
      simp (disch := omega) only [xst_n] at h1
      have := r0 r h0 h1
      by_cases hr : r = a
      · subst hr
        simp (disch := omega) only [xst_n, xst_s, xst_h]
        omega
      · simp (disch := omega) only [xst_n]
        exact this
