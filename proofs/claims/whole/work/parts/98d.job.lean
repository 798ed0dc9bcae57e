/-! LEVEL 2: the call job -/
theorem tb_setE {m : jMu} {t a w : Nat} {cols lim n r c v : Int} {f : Int → Int → Int} (S : TabS t a w cols lim) (h : TabR m t a cols lim n f) (h0 : 0 ≤ r) (h1 : r < n) (h2 : 0 ≤ c) (h3 : c < cols) : ∃ m', f_X5_set t a w r c v m = some m' ∧ TabR m' t a cols lim n (fun r' c' => if r' = r ∧ c' = c then v else f r' c') ∧ ∀ x, x ≠ a → m' x = m x :=
  ⟨_, tb_set S h h0 h1 h2 h3, TabR.set S h h2 h3, fun x hx => jup_c hx⟩
theorem kq_one {Fx Fm : jMu → Option (Int × jMu)} {m : jMu} {k v : Int} (hA : kA m) (h1 : cQ (Fx m) m k v) (h2 : ∀ m1, kA m1 → m1 75 = m 75 → mQ (Fm m1) m1 k v) : ∃ o, ((Fx m).bind fun r1 => (Fm r1.2).bind fun r2 => (f_X10_thrown r2.2).bind fun r3 => (if r3 = r1.1 then (if r1.1 = 0 then (if jCm (r2.2 87 0) r2.1 = 0 then some r2.2 else none) else some r2.2) else none)) = some o ∧ kA o := by
  obtain ⟨m1, e1, e2, e3⟩ := h1
  have hA1 := kA_fL hA e2
  have hM : m1 75 = m 75 := e2 75 (by omega) (by omega) (by omega)
  obtain ⟨b, m2, g1, g2, g3, g4⟩ := h2 m1 hA1 hM
  refine ⟨m2, ?_, kA_fM hA1 g2⟩
  rw [e1, Option.bind_some, g1, Option.bind_some, mThr, Option.bind_some]
  simp only [g3, if_true]
  by_cases hk : k = 0
  · have h87 : m2 87 0 = m1 87 0 := by rw [g2.1 87 (by omega) (by omega)]
    rw [if_pos hk, if_pos ((jCm_0 _ _).mpr (by rw [h87, e3 hk, g4 hk]))]
  · rw [if_neg hk]
def sJob (M : Int → Int) (t bay g b mo : Int) : Prop := xTins M bay ≤ sLeft M b ∧ sBl M bay mo = -1 ∧ ¬ sEnd M t bay g mo = -1
def xJob (M : Int → Int) (t bay g b mo : Int) : Int → Int := xst (xst (xst (xst (xst (xst (xst (xst (xst M (376 + 8 * M 8) bay) (376 + 8 * M 8 + 1) g) (376 + 8 * M 8 + 2) b) (376 + 8 * M 8 + 3) mo) (376 + 8 * M 8 + 4) (sEnd M t bay g mo)) (376 + 8 * M 8 + 5) (M 11)) (376 + 8 * M 8 + 6) (-1)) (376 + 8 * M 8 + 7) t) 8 (M 8 + 1)
theorem c_job {m : jMu} (hA : kA m) {t bay g b mo : Int} (h1 : 0 ≤ t ∧ t < m 75 5) (h2 : 0 ≤ bay ∧ bay < m 75 0) (h3 : 0 ≤ g ∧ g < m 75 6) (h4 : 0 ≤ b ∧ b < m 75 7) (h5 : 0 ≤ mo ∧ mo ≤ 2399) (h6 : m 75 8 < 40) (hJ : sJob (m 75) t bay g b mo) : ∃ m1, f_L_job t bay g b mo m = some (0, m1) ∧ m1 87 0 = m 75 8 ∧ (∀ c, c ≠ 24 → c ≠ 25 → c ≠ 87 → c ≠ 32 → (c < 62 ∨ 73 < c) → m1 c = m c) ∧ TabR m1 24 25 8 40 (m 75 8 + 1) (kF (xJob (m 75) t bay g b mo) 7) := by
  have hz := hA.1.z
  have hn := hA.1.n
  obtain ⟨j1, j2, j3⟩ := hJ
  have T1 := cTins hA.1 h2.1 h2.2
  have T2 := c_left hA.1 h4
  obtain ⟨m1, e1, f1, C1, K1, d1⟩ := c_begin hA.1 t (jSl 1 bay)
  have B := c_bl C1 (bay := bay) (mo := mo) (fun j a b c => d1 j a b (by rw [c]; exact jbit1 h2.1 (by omega)))
  rw [j2] at B
  obtain ⟨m2, e2, f2, K2⟩ := c_end C1 (mo := mo) K1 h1 h2 h3
  have C2 := f2.kC C1
  have hz2 := C2.z
  have t0 : TabR m2 24 25 8 40 (m 75 8) (kF (m 75) 7) := C2.t 7 (by decide)
  have hS : TabS 24 25 320 8 40 := by unfold TabS; decide
  obtain ⟨m3, e3, t3, f3⟩ := tb_add hS t0 (by omega)
  have hday : m3 1 14 = m 75 11 := by rw [f3 1 (by decide) (by decide)]; exact hz2.2.2.2.2.2.2.2.2.2.2.2.1
  obtain ⟨x0, d0', u0, y0⟩ := tb_setE (v := bay) (r := m 75 8) (c := 0) hS t3 (by omega) (by omega) (by decide) (by decide)
  obtain ⟨x1, d1', u1, y1⟩ := tb_setE (v := g) (r := m 75 8) (c := 1) hS u0 (by omega) (by omega) (by decide) (by decide)
  obtain ⟨x2, d2', u2, y2⟩ := tb_setE (v := b) (r := m 75 8) (c := 2) hS u1 (by omega) (by omega) (by decide) (by decide)
  obtain ⟨x3, d3', u3, y3⟩ := tb_setE (v := mo) (r := m 75 8) (c := 3) hS u2 (by omega) (by omega) (by decide) (by decide)
  obtain ⟨x4, d4', u4, y4⟩ := tb_setE (v := sEnd (m 75) t bay g mo) (r := m 75 8) (c := 4) hS u3 (by omega) (by omega) (by decide) (by decide)
  have hday5 : x4 1 14 = m 75 11 := by rw [y4 1 (by decide), y3 1 (by decide), y2 1 (by decide), y1 1 (by decide), y0 1 (by decide)]; exact hday
  obtain ⟨x5, d5', u5, y5⟩ := tb_setE (v := m 75 11) (r := m 75 8) (c := 5) hS u4 (by omega) (by omega) (by decide) (by decide)
  obtain ⟨x6, d6', u6, y6⟩ := tb_setE (v := -1) (r := m 75 8) (c := 6) hS u5 (by omega) (by omega) (by decide) (by decide)
  obtain ⟨x7, d7', u7, y7⟩ := tb_setE (v := t) (r := m 75 8) (c := 7) hS u6 (by omega) (by omega) (by decide) (by decide)
  unfold f_L_job f_X9_job f_X9_job_J46 f_X9_job_J47 f_X9_job_J81 f_X9_job_J82
  simp only [xIsIn, cHas, cRoom, Option.bind_some, nIz, nAz, nRz, nEz, nDz, nI0z, nI1z, nA0z, nA1z, nE0z, nE1z, nR0z, nR1z, jcat2_r, jcat2_l, jlt_eq, ite01, ite01o, ite01p, ite00, ite10, xe1, xe2, xe3, xe4, xe5, xe6, if_true, if_false, f_X5_size, Int.reduceLE, Int.reduceLT, hz, h1, h2, h3, h4, h5, h6, and_self, T1, T2, j1, e1, B, e2, j3]
  rw [e3, Option.bind_some]
  dsimp only
  rw [d0', Option.bind_some, d1', Option.bind_some, d2', Option.bind_some, d3', Option.bind_some, d4', Option.bind_some, hday5, d5', Option.bind_some, d6', Option.bind_some, d7', Option.bind_some, jcat2_r]
  refine ⟨_, rfl, jup_s, fun c a1 a2 a3 a4 a5 => ?_, ?_⟩
  · show jup x7 87 0 (m 75 8) c = m c
    rw [jup_c a3, y7 c a2, y6 c a2, y5 c a2, y4 c a2, y3 c a2, y2 c a2, y1 c a2, y0 c a2, f3 c a1 a2, f2 c a4 (by omega), f1 c a4 a5]
  · refine (u7.frame (jup_c (by decide)) (jup_c (by decide))).congr (fun r c a1 a2 a3 a4 => ?_)
    unfold xJob
    by_cases hr : r = m 75 8
    · subst hr
      obtain rfl | rfl | rfl | rfl | rfl | rfl | rfl | rfl : c = 0 ∨ c = 1 ∨ c = 2 ∨ c = 3 ∨ c = 4 ∨ c = 5 ∨ c = 6 ∨ c = 7 := by omega
      all_goals
        simp only [kF, Int.reduceEq, Int.reduceLT, Int.reduceAdd, Int.reduceSub, and_true, and_false, true_and, if_true, if_false, Int.add_zero]
        try simp (disch := omega) only [xst_n, xst_s]
    · simp only [kF, hr, false_and, if_false]
      simp (disch := omega) only [xst_n]
theorem m_job {m m1 : jMu} (hA : kA m) {t bay g b mo : Int} (h1 : 0 ≤ t ∧ t < m 75 5) (h2 : 0 ≤ bay ∧ bay < m 75 0) (h3 : 0 ≤ g ∧ g < m 75 6) (h4 : 0 ≤ b ∧ b < m 75 7) (h5 : 0 ≤ mo ∧ mo ≤ 2399) (h6 : m 75 8 < 40) (hJ : sJob (m 75) t bay g b mo) (hm1 : m1 75 = m 75) : ∃ m2, f_X10_job t bay g b mo m1 = some (m 75 8, m2) ∧ m2 74 0 = 0 ∧ m2 75 = xJob (m 75) t bay g b mo ∧ (∀ c, c ≠ 74 → c ≠ 75 → (c < 78 ∨ 86 < c) → m2 c = m1 c) ∧ m2 74 3 = m1 74 3 ∧ m2 74 5 = m1 74 5 ∧ m2 74 9 = m1 74 9 ∧ (pE m1 → pE m2) := by
  have hn := hA.1.n
  obtain ⟨j1, j2, j3⟩ := hJ
  have m75 : jup m1 74 0 0 75 = m 75 := by rw [jup_c (by decide)]; exact hm1
  have C1 : kC m 0 (jup m1 74 0 0 75) := by rw [m75]; exact hA.1
  obtain ⟨m3, e3, f3, z3, d3⟩ := m_dryL C1
  have q75 : m3 75 = m 75 := (f3.1 75 (by decide) (by decide)).trans m75
  have C3 : kC m 0 (m3 75) := by rw [q75]; exact hA.1
  rw [m75] at d3
  have B := m_mb C3 (bay := bay) (mo := mo) (by omega) (by rw [q75]; exact d3)
  have L := m_left C3 (b := b) (by rw [q75]; exact h4)
  have T := mTins C3 (b := bay) h2.1 (by rw [q75]; exact h2.2)
  obtain ⟨m4, e4, f4, z4⟩ := m_end C3 (t := t) (bay := bay) (g := g) (mo := mo) (by rw [q75]; exact h1) (by rw [q75]; exact h2) (by rw [q75]; exact h3) (by omega)
  have r75 : m4 75 = m 75 := (f4.1 75 (by decide) (by decide)).trans q75
  rw [q75] at B L T e4
  rw [(sMb_iff hA.1 h5.1).mpr j2] at B
  have n40 : ¬ (m 75 8 = 40) := by omega
  have hf := f3.tr f4
  have b0 := hn.1
  have b5 := hn.2.2.2.2.2.1
  have b6 := hn.2.2.2.2.2.2.1
  have b7 := hn.2.2.2.2.2.2.2.1
  have b8 := hn.2.2.2.2.2.2.2.2.1
  clear hn C1 C3 hA f3 f4
  unfold f_X10_job f_X10_job_J42 f_X10_job_J63
  simp only [mIsIn, mDay, mHour, mMoment, Option.bind_some, ite01, ite01o, ite01p, ite00, ite10, jlt_eq, jup_s, le00, le10, le20, le30, if_true, if_false, Int.reduceLE, Int.reduceLT, mTerms (m := m1) _ (by rw [hm1]; exact b5), mBay (m := m1) _ (by rw [hm1]; exact b0), mGang (m := m1) _ (by rw [hm1]; exact b6), mBatch (m := m1) _ (by rw [hm1]; exact b7), hm1, h1, h2, h3, h4, h5, and_self, n40, e3, B, Int.reduceEq, L, T, j1, e4, j3]
  simp (disch := omega) only [jlt_eq, jup_c, xst_j, r75, xst_n, xst_s, jW_of, if_pos, Int.add_sub_cancel]
  refine ⟨_, rfl, ?_, ?_, ?_, ?_, ?_, ?_, ?_⟩
  · simp (disch := decide) only [jup_c]
    rw [z4, z3, jup_s]
  · simp only [xst_j, r75]
    rfl
  · intro c a1 a2 a3
    simp only [jup_c a2]
    rw [hf.1 c a1 a3, jup_c a1]
  · simp (disch := decide) only [jup_c]
    rw [hf.2.1, jup_j (by decide)]
  · simp (disch := decide) only [jup_c]
    rw [hf.2.2.1, jup_j (by decide)]
  · simp (disch := decide) only [jup_c]
    rw [hf.2.2.2.1, jup_j (by decide)]
  · intro hE
    exact pE_cg (by simp (disch := decide) only [jup_c]) (by simp (disch := decide) only [jup_c]) (by simp (disch := decide) only [jup_c]) (by simp (disch := decide) only [jup_c]) (hf.2.2.2.2 (pE_cg (jup_j (by decide)) (jup_j (by decide)) (jup_j (by decide)) (jup_c (by decide)) hE))
theorem sEndL_b {M : Int → Int} {t bay : Int} : ∀ (d : Nat) (i s : Int), itx (sEnF M t bay) (fun _ => -1) d i s = -1 ∨ (i < itx (sEnF M t bay) (fun _ => -1) d i s ∧ itx (sEnF M t bay) (fun _ => -1) d i s ≤ i + d) := by
  intro d
  induction d with
  | zero => intro i s; exact Or.inl rfl
  | succ d ih =>
    intro i s
    unfold itx
    unfold sEnF
    by_cases g : sWhy M t bay i (sT M i) = 0
    · rw [if_pos g]
      by_cases g2 : s ≤ 1
      · rw [if_pos g2]
        exact Or.inr ⟨by show i < i + 1; omega, by show i + 1 ≤ _; omega⟩
      · rw [if_neg g2]
        rcases ih (i + 1) (s - 1) with h | h
        · exact Or.inl h
        · exact Or.inr ⟨by have := h.1; unfold sEnF at this; show i < itx _ _ _ _ _; omega, by have := h.2; unfold sEnF at this; show itx _ _ _ _ _ ≤ _; omega⟩
    · rw [if_neg g]
      rcases ih (i + 1) s with h | h
      · exact Or.inl h
      · exact Or.inr ⟨by have := h.1; unfold sEnF at this; show i < itx _ _ _ _ _; omega, by have := h.2; unfold sEnF at this; show itx _ _ _ _ _ ≤ _; omega⟩
theorem sEnd_b {M : Int → Int} {t bay g mo : Int} (h : ¬ sEnd M t bay g mo = -1) : 0 ≤ mo ∧ mo < sEnd M t bay g mo ∧ sEnd M t bay g mo ≤ 2400 := by
  unfold sEnd sEndL at h ⊢
  by_cases h0 : mo < 0
  · rw [if_pos h0] at h; exact (h rfl).elim
  · rw [if_neg h0] at h ⊢
    have S := sEndL_b (M := M) (t := t) (bay := bay) (2400 - mo).toNat mo (sNeed M bay g)
    by_cases h1 : mo < 2400
    · omega
    · rw [show (2400 - mo).toNat = 0 by omega] at h
      exact (h rfl).elim
theorem k_job {m : jMu} (hA : kA m) (t bay g b mo : Int) : ∃ o, ((f_L_job t bay g b mo m).bind fun r1 => (f_X10_job t bay g b mo r1.2).bind fun r2 => (f_X10_thrown r2.2).bind fun r3 => (if r3 = r1.1 then (if r1.1 = 0 then (if jCm (r2.2 87 0) r2.1 = 0 then some r2.2 else none) else some r2.2) else none)) = some o ∧ kA o := by
  have hz := hA.1.z
  have hn := hA.1.n
  by_cases g1 : 0 ≤ t ∧ t < m 75 5
  rotate_left
  · exact km_bad (Fx := f_L_job t bay g b mo) (Fm := f_X10_job t bay g b mo) hA (k := 1) (by decide) (by unfold f_L_job f_X9_job f_X9_job_J46 f_X9_job_J47 f_X9_job_J81 f_X9_job_J82; simp only [xIsIn, cHas, cRoom, Option.bind_some, nIz, nAz, nRz, nEz, nDz, nI0z, nI1z, nA0z, nA1z, nE0z, nE1z, nR0z, nR1z, jcat2_r, jcat2_l, jlt_eq, ite01, ite01o, ite01p, ite00, ite10, xe1, xe2, xe3, xe4, xe5, xe6, if_true, if_false, f_X5_size, Int.reduceLE, Int.reduceLT, hz, g1]) (by unfold f_X10_job f_X10_job_J42 f_X10_job_J63; simp only [mIsIn, mDay, mHour, mMoment, Option.bind_some, ite01, ite01o, ite01p, ite00, ite10, jlt_eq, jup_s, le00, le10, le20, le30, if_true, if_false, Int.reduceLE, Int.reduceLT, mTerms _ hn.2.2.2.2.2.1, g1])
  by_cases g2 : 0 ≤ bay ∧ bay < m 75 0
  rotate_left
  · exact km_bad (Fx := f_L_job t bay g b mo) (Fm := f_X10_job t bay g b mo) hA (k := 1) (by decide) (by unfold f_L_job f_X9_job f_X9_job_J46 f_X9_job_J47 f_X9_job_J81 f_X9_job_J82; simp only [xIsIn, cHas, cRoom, Option.bind_some, nIz, nAz, nRz, nEz, nDz, nI0z, nI1z, nA0z, nA1z, nE0z, nE1z, nR0z, nR1z, jcat2_r, jcat2_l, jlt_eq, ite01, ite01o, ite01p, ite00, ite10, xe1, xe2, xe3, xe4, xe5, xe6, if_true, if_false, f_X5_size, Int.reduceLE, Int.reduceLT, hz, g1, g2, and_self]) (by unfold f_X10_job f_X10_job_J42 f_X10_job_J63; simp only [mIsIn, mDay, mHour, mMoment, Option.bind_some, ite01, ite01o, ite01p, ite00, ite10, jlt_eq, jup_s, le00, le10, le20, le30, if_true, if_false, Int.reduceLE, Int.reduceLT, mTerms _ hn.2.2.2.2.2.1, mBay _ hn.1, g1, g2, and_self])
  by_cases g3 : 0 ≤ g ∧ g < m 75 6
  rotate_left
  · exact km_bad (Fx := f_L_job t bay g b mo) (Fm := f_X10_job t bay g b mo) hA (k := 1) (by decide) (by unfold f_L_job f_X9_job f_X9_job_J46 f_X9_job_J47 f_X9_job_J81 f_X9_job_J82; simp only [xIsIn, cHas, cRoom, Option.bind_some, nIz, nAz, nRz, nEz, nDz, nI0z, nI1z, nA0z, nA1z, nE0z, nE1z, nR0z, nR1z, jcat2_r, jcat2_l, jlt_eq, ite01, ite01o, ite01p, ite00, ite10, xe1, xe2, xe3, xe4, xe5, xe6, if_true, if_false, f_X5_size, Int.reduceLE, Int.reduceLT, hz, g1, g2, g3, and_self]) (by unfold f_X10_job f_X10_job_J42 f_X10_job_J63; simp only [mIsIn, mDay, mHour, mMoment, Option.bind_some, ite01, ite01o, ite01p, ite00, ite10, jlt_eq, jup_s, le00, le10, le20, le30, if_true, if_false, Int.reduceLE, Int.reduceLT, mTerms _ hn.2.2.2.2.2.1, mBay _ hn.1, mGang _ hn.2.2.2.2.2.2.1, g1, g2, g3, and_self])
  by_cases g4 : 0 ≤ b ∧ b < m 75 7
  rotate_left
  · exact km_bad (Fx := f_L_job t bay g b mo) (Fm := f_X10_job t bay g b mo) hA (k := 1) (by decide) (by unfold f_L_job f_X9_job f_X9_job_J46 f_X9_job_J47 f_X9_job_J81 f_X9_job_J82; simp only [xIsIn, cHas, cRoom, Option.bind_some, nIz, nAz, nRz, nEz, nDz, nI0z, nI1z, nA0z, nA1z, nE0z, nE1z, nR0z, nR1z, jcat2_r, jcat2_l, jlt_eq, ite01, ite01o, ite01p, ite00, ite10, xe1, xe2, xe3, xe4, xe5, xe6, if_true, if_false, f_X5_size, Int.reduceLE, Int.reduceLT, hz, g1, g2, g3, g4, and_self]) (by unfold f_X10_job f_X10_job_J42 f_X10_job_J63; simp only [mIsIn, mDay, mHour, mMoment, Option.bind_some, ite01, ite01o, ite01p, ite00, ite10, jlt_eq, jup_s, le00, le10, le20, le30, if_true, if_false, Int.reduceLE, Int.reduceLT, mTerms _ hn.2.2.2.2.2.1, mBay _ hn.1, mGang _ hn.2.2.2.2.2.2.1, mBatch _ hn.2.2.2.2.2.2.2.1, g1, g2, g3, g4, and_self])
  by_cases g5 : 0 ≤ mo ∧ mo ≤ 2399
  rotate_left
  · exact km_bad (Fx := f_L_job t bay g b mo) (Fm := f_X10_job t bay g b mo) hA (k := 1) (by decide) (by unfold f_L_job f_X9_job f_X9_job_J46 f_X9_job_J47 f_X9_job_J81 f_X9_job_J82; simp only [xIsIn, cHas, cRoom, Option.bind_some, nIz, nAz, nRz, nEz, nDz, nI0z, nI1z, nA0z, nA1z, nE0z, nE1z, nR0z, nR1z, jcat2_r, jcat2_l, jlt_eq, ite01, ite01o, ite01p, ite00, ite10, xe1, xe2, xe3, xe4, xe5, xe6, if_true, if_false, f_X5_size, Int.reduceLE, Int.reduceLT, hz, g1, g2, g3, g4, g5, and_self]) (by unfold f_X10_job f_X10_job_J42 f_X10_job_J63; simp only [mIsIn, mDay, mHour, mMoment, Option.bind_some, ite01, ite01o, ite01p, ite00, ite10, jlt_eq, jup_s, le00, le10, le20, le30, if_true, if_false, Int.reduceLE, Int.reduceLT, mTerms _ hn.2.2.2.2.2.1, mBay _ hn.1, mGang _ hn.2.2.2.2.2.2.1, mBatch _ hn.2.2.2.2.2.2.2.1, g1, g2, g3, g4, g5, and_self])
  by_cases g6 : m 75 8 < 40
  rotate_left
  · have x40 : m 75 8 = 40 := by omega
    exact km_bad (Fx := f_L_job t bay g b mo) (Fm := f_X10_job t bay g b mo) hA (k := 2) (by decide) (by unfold f_L_job f_X9_job f_X9_job_J46 f_X9_job_J47 f_X9_job_J81 f_X9_job_J82; simp only [xIsIn, cHas, cRoom, Option.bind_some, nIz, nAz, nRz, nEz, nDz, nI0z, nI1z, nA0z, nA1z, nE0z, nE1z, nR0z, nR1z, jcat2_r, jcat2_l, jlt_eq, ite01, ite01o, ite01p, ite00, ite10, xe1, xe2, xe3, xe4, xe5, xe6, if_true, if_false, f_X5_size, Int.reduceLE, Int.reduceLT, hz, g1, g2, g3, g4, g5, x40, Int.lt_irrefl, and_self]) (by unfold f_X10_job f_X10_job_J42 f_X10_job_J63; simp only [mIsIn, mDay, mHour, mMoment, Option.bind_some, ite01, ite01o, ite01p, ite00, ite10, jlt_eq, jup_s, le00, le10, le20, le30, if_true, if_false, Int.reduceLE, Int.reduceLT, mTerms _ hn.2.2.2.2.2.1, mBay _ hn.1, mGang _ hn.2.2.2.2.2.2.1, mBatch _ hn.2.2.2.2.2.2.2.1, g1, g2, g3, g4, g5, x40, and_self])
  by_cases hJ : sJob (m 75) t bay g b mo
  · obtain ⟨m1, c1, c2, c3, c4⟩ := c_job hA g1 g2 g3 g4 g5 g6 hJ
    obtain ⟨m2, d1, d2, d3, d4, d5, d6, d7, d8⟩ := m_job (m1 := m1) hA g1 g2 g3 g4 g5 g6 hJ (c3 75 (by decide) (by decide) (by decide) (by decide) (by omega))
    have b1 := sEnd_b hJ.2.2
    have R7 : kR (m 75) 7 := (hA.1.1 7 (by decide)).2
    have hj75 : m1 74 = m 74 := c3 74 (by decide) (by decide) (by decide) (by decide) (by omega)
    have hE2 : pE m → pE m2 := fun h => d8 (pE_cg (by rw [hj75]) (by rw [hj75]) (by rw [hj75]) (c3 78 (by decide) (by decide) (by decide) (by decide) (by omega)) h)
    obtain ⟨mz, cp, cc⟩ : ∃ mz : jMu, (∀ c, 78 ≤ c → c ≤ 86 → mz c = m c) ∧ ∀ c, ¬ (78 ≤ c ∧ c ≤ 86) → mz c = m2 c := ⟨fun c => if 78 ≤ c ∧ c ≤ 86 then m c else m2 c, fun c a b => if_pos ⟨a, b⟩, fun c h => if_neg h⟩
    have k0 : kA mz := by
      refine kA_put (k := 7) (by decide) hA (fun c a1 a2 a3 a4 a5 a6 a7 => ?_) ?_ ?_ ?_ ?_
      · by_cases h : 78 ≤ c ∧ c ≤ 86
        · exact cp c h.1 h.2
        · rw [cc c h, d4 c a3 a4 (by omega)]
          exact c3 c a1 a2 a5 a6 a7
      · rw [cc 74 (by omega), d5, d6, d7, hj75]
        refine ⟨rfl, rfl, rfl, fun h => ?_⟩
        have h2 := hE2 h
        unfold pE at h h2 ⊢
        rw [cc 74 (by omega), cp 78 (by omega) (by omega)]
        exact ⟨h2.1, h2.2.1, h2.2.2.1, h.2.2.2⟩
      · intro i hi
        have hi' : ¬ (i = 8 ∨ (376 ≤ i ∧ i < 696)) := hi
        rw [cc 75 (by omega), d3]
        unfold xJob
        simp (disch := omega) only [xst_n]
      · rw [cc 75 (by omega), d3]
        unfold xJob
        simp (disch := omega) only [xst_n]
        omega
      · rw [cc 75 (by omega), d3]
        have e8 : xJob (m 75) t bay g b mo 8 = m 75 8 + 1 := xst_s
        refine ⟨?_, ?_⟩
        · show TabR _ 24 25 8 40 (xJob (m 75) t bay g b mo 8) _
          rw [e8]
          refine c4.frame ?_ ?_
          · exact (cc 24 (by omega)).trans (d4 24 (by decide) (by decide) (by omega))
          · exact (cc 25 (by omega)).trans (d4 25 (by decide) (by decide) (by omega))
        · intro r h0 h1
          rw [e8] at h1
          unfold xJob
          by_cases hr : r = m 75 8
          · subst hr
            simp (disch := omega) only [xst_n, xst_s]
            omega
          · have := R7 r h0 (by omega)
            simp (disch := omega) only [xst_n]
            exact this
    refine ⟨m2, ?_, kA_fM k0 ⟨fun c h1 h2 => ?_, ?_, ?_, ?_, fun _ => hE2 hA.2.2.2.2.2.2⟩⟩
    · rw [c1, Option.bind_some, d1, Option.bind_some, mThr, Option.bind_some]
      have : m2 87 0 = m 75 8 := by rw [d4 87 (by decide) (by decide) (by omega)]; exact c2
      simp only [d2, if_true]
      rw [if_pos ((jCm_0 _ _).mpr this)]
    · exact (cc c (by omega)).symm
    · rw [cc 74 (by omega)]
    · rw [cc 74 (by omega)]
    · rw [cc 74 (by omega)]
  · refine kq_one (Fx := f_L_job t bay g b mo) (Fm := f_X10_job t bay g b mo) (k := 0) (v := -1) hA ?_ (fun m1 hA1 e1 => ?_)
    · have T1 := cTins hA.1 g2.1 g2.2
      have T2 := c_left hA.1 g4
      unfold f_L_job f_X9_job f_X9_job_J46 f_X9_job_J47 f_X9_job_J81 f_X9_job_J82
      by_cases j1 : xTins (m 75) bay ≤ sLeft (m 75) b
      · obtain ⟨m1, e1, f1, C1, K1, d1⟩ := c_begin hA.1 t (jSl 1 bay)
        have B := c_bl C1 (bay := bay) (mo := mo) (fun j a b c => d1 j a b (by rw [c]; exact jbit1 g2.1 (by omega)))
        by_cases j2 : sBl (m 75) bay mo = -1
        · have j3 : sEnd (m 75) t bay g mo = -1 := Classical.byContradiction fun z => hJ ⟨j1, j2, z⟩
          obtain ⟨m2, e2, f2, K2⟩ := c_end C1 (mo := mo) K1 g1 g2 g3
          rw [j2] at B
          rw [j3] at e2
          simp only [xIsIn, cHas, cRoom, Option.bind_some, nIz, nAz, nRz, nEz, nDz, nI0z, nI1z, nA0z, nA1z, nE0z, nE1z, nR0z, nR1z, jcat2_r, jcat2_l, jlt_eq, ite01, ite01o, ite01p, ite00, ite10, xe1, xe2, xe3, xe4, xe5, xe6, if_true, if_false, f_X5_size, Int.reduceLE, Int.reduceLT, hz, g1, g2, g3, g4, g5, g6, and_self, T1, T2, j1, e1, B, e2]
          exact cQ_val2 (f1.tr f2.fC)
        · simp only [xIsIn, cHas, cRoom, Option.bind_some, nIz, nAz, nRz, nEz, nDz, nI0z, nI1z, nA0z, nA1z, nE0z, nE1z, nR0z, nR1z, jcat2_r, jcat2_l, jlt_eq, ite01, ite01o, ite01p, ite00, ite10, xe1, xe2, xe3, xe4, xe5, xe6, if_true, if_false, f_X5_size, Int.reduceLE, Int.reduceLT, hz, g1, g2, g3, g4, g5, g6, and_self, T1, T2, j1, e1, B, j2]
          exact cQ_val2 f1
      · simp only [xIsIn, cHas, cRoom, Option.bind_some, nIz, nAz, nRz, nEz, nDz, nI0z, nI1z, nA0z, nA1z, nE0z, nE1z, nR0z, nR1z, jcat2_r, jcat2_l, jlt_eq, ite01, ite01o, ite01p, ite00, ite10, xe1, xe2, xe3, xe4, xe5, xe6, if_true, if_false, f_X5_size, Int.reduceLE, Int.reduceLT, hz, g1, g2, g3, g4, g5, g6, and_self, T1, T2, j1]
        exact cQ_val2 (fC.rf m)
    · have hn1 := hA1.1.n
      have hA' := kA_fM hA1 (fM.thr m1 0)
      have m75 : jup m1 74 0 0 75 = m 75 := by rw [jup_c (by decide)]; exact e1
      obtain ⟨m3, e3, f3, z3, d3⟩ := m_dryL hA'.1
      have q75 : m3 75 = m 75 := (f3.1 75 (by decide) (by decide)).trans m75
      have C3 : kC m 0 (m3 75) := by rw [q75]; exact hA.1
      rw [m75] at d3
      have B := m_mb C3 (bay := bay) (mo := mo) (by omega) (by rw [q75]; exact d3)
      have L := m_left C3 (b := b) (by rw [q75]; exact g4)
      have T := mTins C3 (b := bay) g2.1 (by rw [q75]; exact g2.2)
      obtain ⟨m4, e4, f4, z4⟩ := m_end C3 (t := t) (bay := bay) (g := g) (mo := mo) (by rw [q75]; exact g1) (by rw [q75]; exact g2) (by rw [q75]; exact g3) (by omega)
      rw [q75] at B L T e4
      have n40 : ¬ (m 75 8 = 40) := by omega
      have b0 := hn.1
      have b5 := hn.2.2.2.2.2.1
      have b6 := hn.2.2.2.2.2.2.1
      have b7 := hn.2.2.2.2.2.2.2.1
      have S := sMb_iff hA.1 (bay := bay) g5.1
      have F0 := fM.thr m1 0
      unfold f_X10_job f_X10_job_J42 f_X10_job_J63
      rcases sMb_01 (m 75) bay mo with j2 | j2
      · rw [j2] at B
        simp only [mIsIn, mDay, mHour, mMoment, Option.bind_some, ite01, ite01o, ite01p, ite00, ite10, jlt_eq, jup_s, le00, le10, le20, le30, if_true, if_false, Int.reduceLE, Int.reduceLT, mTerms (m := m1) _ (by rw [e1]; exact b5), mBay (m := m1) _ (by rw [e1]; exact b0), mGang (m := m1) _ (by rw [e1]; exact b6), mBatch (m := m1) _ (by rw [e1]; exact b7), e1, g1, g2, g3, g4, g5, and_self, n40, e3, B]
        exact ⟨_, m3, rfl, F0.tr f3, by rw [z3, jup_s], fun _ => rfl⟩
      · rw [j2] at B
        by_cases j1 : xTins (m 75) bay ≤ sLeft (m 75) b
        · have j3 : sEnd (m 75) t bay g mo = -1 := Classical.byContradiction fun z => hJ ⟨j1, S.mp j2, z⟩
          rw [j3] at e4
          simp only [mIsIn, mDay, mHour, mMoment, Option.bind_some, ite01, ite01o, ite01p, ite00, ite10, jlt_eq, jup_s, le00, le10, le20, le30, if_true, if_false, Int.reduceLE, Int.reduceLT, mTerms (m := m1) _ (by rw [e1]; exact b5), mBay (m := m1) _ (by rw [e1]; exact b0), mGang (m := m1) _ (by rw [e1]; exact b6), mBatch (m := m1) _ (by rw [e1]; exact b7), e1, g1, g2, g3, g4, g5, and_self, n40, e3, B, Int.reduceEq, L, T, j1, e4]
          exact ⟨_, m4, rfl, (F0.tr f3).tr f4, by rw [z4, z3, jup_s], fun _ => rfl⟩
        · simp only [mIsIn, mDay, mHour, mMoment, Option.bind_some, ite01, ite01o, ite01p, ite00, ite10, jlt_eq, jup_s, le00, le10, le20, le30, if_true, if_false, Int.reduceLE, Int.reduceLT, mTerms (m := m1) _ (by rw [e1]; exact b5), mBay (m := m1) _ (by rw [e1]; exact b0), mGang (m := m1) _ (by rw [e1]; exact b6), mBatch (m := m1) _ (by rw [e1]; exact b7), e1, g1, g2, g3, g4, g5, and_self, n40, e3, B, Int.reduceEq, L, T, j1]
          exact ⟨_, m3, rfl, F0.tr f3, by rw [z3, jup_s], fun _ => rfl⟩
