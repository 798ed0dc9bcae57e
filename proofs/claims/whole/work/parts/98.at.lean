/-! LEVEL 2: the call at -/
def sAt (M : Int → Int) (t bay mo w : Int) : Int := if w = 0 then xLast (sEn M bay mo (sT M mo)) 101 0 (xTx M t.toNat) else if w = 1 then xLast (sEn M bay mo (sT M mo)) 102 30 (xTx M t.toNat) else if w = 2 then xLast (sEn M bay mo (sT M mo)) 103 0 (xTx M t.toNat) else if w = 3 then (sSk M (mo / 12) (mo % 12)).2.1 else if w = 4 then (sSk M (mo / 12) (mo % 12)).2.2 else if w = 5 then (sSk M (mo / 12) (mo % 12)).1 else if w = 6 then sT M mo else sNe M bay (mo / 12)
theorem c_asked {m : jMu} {M : Int → Int} (C : kC m 0 M) {t bay mo w : Int} (P : clP m M bay mo (sT M mo)) (ht : 0 ≤ t ∧ t < M 5) (hb : 0 ≤ bay ∧ bay < M 0) (hm : 0 ≤ mo ∧ mo < 2400) : f_X1_askedHere t w m = some (sAt M t bay mo w) := by
  have N := fun kd v => c_num C P ht hb hm (sTr_01 _ _ _) kd v
  obtain ⟨p1, p2, p3, p4, p5, p6, p7, p8, p9, p10⟩ := P
  unfold f_X1_askedHere f_X1_dryHere f_X1_holdHere f_X1_payHere sAt
  simp only [N, Option.bind_some, p2, p3, p4, p7, p8]
  repeat' split
  all_goals rfl
def kAt (M : Int → Int) (t bay d h w : Int) : Int := if (0 ≤ t ∧ t < M 5) ∧ (0 ≤ bay ∧ bay < M 0) ∧ (0 ≤ d ∧ d ≤ 199) ∧ 0 ≤ h ∧ h ≤ 11 then (if 0 ≤ w ∧ w ≤ 7 then 0 else 2) else 1
theorem cq_at {m : jMu} (hA : kA m) (t bay d h w : Int) : cQ (f_L_at t bay d h w m) m (kAt (m 75) t bay d h w) (sAt (m 75) t bay (12 * d + h) w) := by
  have hz := hA.1.z
  unfold f_L_at f_X9_at f_X9_at_J32 f_X9_at_J33 f_X9_at_J62 f_X9_at_J63 kAt
  by_cases h1 : 0 ≤ t ∧ t < m 75 5
  · by_cases h2 : 0 ≤ bay ∧ bay < m 75 0
    · by_cases h3 : 0 ≤ d ∧ d ≤ 199
      · by_cases h4 : 0 ≤ h ∧ h ≤ 11
        · by_cases h5 : 0 ≤ w ∧ w ≤ 7
          · obtain ⟨m', e1, P, fr⟩ := c_stand hA.1 (bay := bay) (mo := 12 * d + h) h2 (by omega)
            have W := c_asked (w := w) (cl_C hA.1 fr) P h1 h2 (by omega)
            have ej : jW (jW (d * 12) + h) = 12 * d + h := by rw [jW_of (z := d * 12) (by omega) (by omega), jW_of (by omega) (by omega)]; omega
            simp only [xIsIn, cHas, cRoom, Option.bind_some, nIz, nAz, nRz, nEz, nDz, nI0z, nI1z, nA0z, nA1z, nE0z, nE1z, nR0z, nR1z, jcat2_r, jcat2_l, jlt_eq, ite01, ite01o, ite01p, ite00, ite10, xe1, xe2, xe3, xe4, xe5, xe6, if_true, if_false, f_X5_size, Int.reduceLE, Int.reduceLT, hz, h1, h2, h3, h4, h5, and_self, ej, e1, W]
            exact cQ_val2 (fun c a1 _ => fr c a1)
          · simp only [xIsIn, cHas, cRoom, Option.bind_some, nIz, nAz, nRz, nEz, nDz, nI0z, nI1z, nA0z, nA1z, nE0z, nE1z, nR0z, nR1z, jcat2_r, jcat2_l, jlt_eq, ite01, ite01o, ite01p, ite00, ite10, xe1, xe2, xe3, xe4, xe5, xe6, if_true, if_false, f_X5_size, Int.reduceLE, Int.reduceLT, hz, h1, h2, h3, h4, h5, and_self, and_false, and_true, true_and]
            exact cQ_thr (by decide)
        · simp only [xIsIn, cHas, cRoom, Option.bind_some, nIz, nAz, nRz, nEz, nDz, nI0z, nI1z, nA0z, nA1z, nE0z, nE1z, nR0z, nR1z, jcat2_r, jcat2_l, jlt_eq, ite01, ite01o, ite01p, ite00, ite10, xe1, xe2, xe3, xe4, xe5, xe6, if_true, if_false, f_X5_size, Int.reduceLE, Int.reduceLT, hz, h1, h2, h3, h4, and_self, and_false, and_true, true_and]
          exact cQ_thr (by decide)
      · simp only [xIsIn, cHas, cRoom, Option.bind_some, nIz, nAz, nRz, nEz, nDz, nI0z, nI1z, nA0z, nA1z, nE0z, nE1z, nR0z, nR1z, jcat2_r, jcat2_l, jlt_eq, ite01, ite01o, ite01p, ite00, ite10, xe1, xe2, xe3, xe4, xe5, xe6, if_true, if_false, f_X5_size, Int.reduceLE, Int.reduceLT, hz, h1, h2, h3, and_self, and_false, false_and, and_true, true_and]
        exact cQ_thr (by decide)
    · simp only [xIsIn, cHas, cRoom, Option.bind_some, nIz, nAz, nRz, nEz, nDz, nI0z, nI1z, nA0z, nA1z, nE0z, nE1z, nR0z, nR1z, jcat2_r, jcat2_l, jlt_eq, ite01, ite01o, ite01p, ite00, ite10, xe1, xe2, xe3, xe4, xe5, xe6, if_true, if_false, f_X5_size, Int.reduceLE, Int.reduceLT, hz, h1, h2, and_self, and_false, false_and, and_true, true_and]
      exact cQ_thr (by decide)
  · simp only [xIsIn, cHas, cRoom, Option.bind_some, nIz, nAz, nRz, nEz, nDz, nI0z, nI1z, nA0z, nA1z, nE0z, nE1z, nR0z, nR1z, jcat2_r, jcat2_l, jlt_eq, ite01, ite01o, ite01p, ite00, ite10, xe1, xe2, xe3, xe4, xe5, xe6, if_true, if_false, f_X5_size, Int.reduceLE, Int.reduceLT, hz, h1, false_and]
    exact cQ_thr (by decide)
