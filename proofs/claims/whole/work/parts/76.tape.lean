/-! LEVEL 2: days, trains, the tape, the image -/
theorem kA_day {m m' : jMu} (hA : kA m) (hc : ∀ c, c ≠ 1 → c ≠ 74 → c ≠ 75 → c ≠ 87 → c ≠ 32 → (c < 62 ∨ 73 < c) → m' c = m c) (h74 : m' 74 3 = m 74 3 ∧ m' 74 5 = m 74 5 ∧ m' 74 9 = m 74 9 ∧ (pE m → pE m')) (hM : ∀ i, i ≠ 11 → i ≠ 12 → m' 75 i = m 75 i) (hD : kD m' 0 (m' 75)) : kA m' := by
  obtain ⟨⟨h1, hd⟩, h2, h3, h4⟩ := hA
  have hK : m' 76 = m 76 := hc 76 (by omega) (by omega) (by omega) (by omega) (by omega) (by omega)
  have hg : ∀ j, j < 12 → ∀ i, kG j i → m' 75 i = m 75 i := by
    intro j hj i hi
    have h9 := kG_W hj hi
    refine hM i (fun z => ?_) (fun z => ?_)
    · rw [z, show kW 11 = 14 from by decide] at h9; omega
    · rw [z, show kW 12 = 14 from by decide] at h9; omega
  refine ⟨⟨fun j hj => ?_, hD⟩, ?_, ?_, ?_⟩
  · have b1 := kT_bd j hj
    by_cases e2 : j < 11
    · refine kI_mono e2 (h1 j hj) (hc _ (by omega) (by omega) (by omega) (by omega) (by omega) (by omega)) (hc _ (by omega) (by omega) (by omega) (by omega) (by omega) (by omega)) (hg j (by omega)) ?_
      rw [hM 0 (by decide) (by decide), hM 5 (by decide) (by decide), hM 6 (by decide) (by decide), hM 7 (by decide) (by decide)]
      omega
    · exact kI_monoX (h1 11 (by omega)) (by omega) hj (h1 j hj) (hc _ (by omega) (by omega) (by omega) (by omega) (by omega) (by omega)) (hc _ (by omega) (by omega) (by omega) (by omega) (by omega) (by omega)) (hg 11 (by omega))
  · rw [h74.1]
    exact h2.imp id (fun g => ⟨g.1, kC_frame g.2 (fun c a b => hc c (by omega) (by omega) (by omega) (by omega) (by omega) (by omega)) (fun i _ _ => by rw [hK])⟩)
  · intro j hj
    have b1 := kT_bd j hj
    rw [hc _ (by omega) (by omega) (by omega) (by omega) (by omega) (by omega)]
    exact h3 j hj
  · unfold kS
    rw [h74.1, h74.2.1, h74.2.2.1, hc 30 (by omega) (by omega) (by omega) (by omega) (by omega) (by omega), hc 31 (by omega) (by omega) (by omega) (by omega) (by omega) (by omega), hc 77 (by omega) (by omega) (by omega) (by omega) (by omega) (by omega), hc 0 (by omega) (by omega) (by omega) (by omega) (by omega) (by omega)]
    exact ⟨h4.1, h4.2.1, h4.2.2.1, h74.2.2.2 h4.2.2.2⟩
theorem k_days {m : jMu} (hA : kA m) (a : Int) : ∃ o, ((f_L_days a m).bind fun r1 => (f_X10_days a r1.2).bind fun r2 => (f_X10_thrown r2.2).bind fun r3 => (if r3 = r1.1 then (if r1.1 = 0 then (if jCm (r2.2 87 0) r2.1 = 0 then some r2.2 else none) else some r2.2) else none)) = some o ∧ kA o := by
  have hz := hA.1.z
  have hn := hA.1.n
  by_cases g1 : 0 ≤ a ∧ a ≤ 199 - m 75 11
  rotate_left
  · refine km_bad (Fx := f_L_days a) (Fm := f_X10_days a) hA (k := 1) (by decide) ?_ ?_
    · unfold f_L_days f_X9_days
      simp (disch := omega) only [xIsIn, cHas, cRoom, Option.bind_some, nIz, nAz, nRz, nEz, nDz, nI0z, nI1z, nA0z, nA1z, nE0z, nE1z, nR0z, nR1z, jcat2_r, jcat2_l, jlt_eq, ite01, ite01o, ite01p, ite00, ite10, xe1, xe2, xe3, xe4, xe5, xe6, if_true, if_false, f_X5_size, Int.reduceLE, Int.reduceLT, hz, jW_of, if_pos, if_neg]
    · unfold f_X10_days f_X10_days_J20 f_X10_days_J25
      simp only [mIsIn, mDay, mHour, mMoment, Option.bind_some, ite01, ite01o, ite01p, ite00, ite10, jlt_eq, jup_s, le00, le10, le20, le30, if_true, if_false, Int.reduceLE, Int.reduceLT]
      rw [jW_of (by omega) (by omega)]
      by_cases g2 : a < 0
      · rw [if_pos g2]
      · rw [if_neg g2, if_neg (by omega)]
  · unfold f_L_days f_X9_days f_X10_days f_X10_days_J25 f_X10_days_J20
    simp (disch := omega) only [xIsIn, cHas, cRoom, Option.bind_some, nIz, nAz, nRz, nEz, nDz, nI0z, nI1z, nA0z, nA1z, nE0z, nE1z, nR0z, nR1z, jcat2_r, jcat2_l, jlt_eq, ite01, ite01o, ite01p, ite00, ite10, xe1, xe2, xe3, xe4, xe5, xe6, if_true, if_false, f_X5_size, Int.reduceLE, Int.reduceLT, hz, jW_of, if_pos, if_neg]
    simp (disch := omega) only [mIsIn, mDay, mHour, mMoment, Option.bind_some, ite01, ite01o, ite01p, ite00, ite10, jlt_eq, jup_s, le00, le10, le20, le30, if_true, if_false, Int.reduceLE, Int.reduceLT, jup_c, hz, jW_of, if_pos, if_neg, mThr, jup_j, if_pos ((jCm_0 _ _).mpr rfl)]
    refine ⟨_, rfl, kA_day hA (fun c h1 h2 h3 h4 h5 h6 => ?_) ⟨?_, ?_, ?_, pE_cg (by simp (disch := omega) only [jup_c, jup_j]) (by simp (disch := omega) only [jup_c, jup_j]) (by simp (disch := omega) only [jup_c, jup_j]) (by simp (disch := omega) only [jup_c, jup_j])⟩ (fun i h1 h2 => ?_) ?_⟩
    · rw [jup_c h3, jup_c h2, jup_c h4, jup_c h1]
    · simp (disch := omega) only [jup_c, jup_j]
    · simp (disch := omega) only [jup_c, jup_j]
    · simp (disch := omega) only [jup_c, jup_j]
    · simp (disch := omega) only [jup_c, jup_j]
    · unfold kD
      refine ⟨?_, ?_, ?_, ?_, ?_, ?_⟩
      all_goals simp (disch := omega) only [Nat.add_zero, jup_c, jup_j, jup_s, hz]
      all_goals omega
theorem k_trains {m : jMu} (hA : kA m) (a : Int) : ∃ o, ((f_L_trains a m).bind fun r1 => (f_X10_trains a r1.2).bind fun r2 => (f_X10_thrown r2).bind fun r3 => (if r3 = r1.1 then some r2 else none)) = some o ∧ kA o := by
  have hz := hA.1.z
  have hn := hA.1.n
  by_cases g1 : 0 ≤ a ∧ a ≤ 4095
  rotate_left
  · refine kv_bad (Fx := f_L_trains a) (Fm := f_X10_trains a) hA (k := 1) ?_ ?_
    · unfold f_L_trains f_X9_trains
      simp (disch := omega) only [xIsIn, cHas, cRoom, Option.bind_some, nIz, nAz, nRz, nEz, nDz, nI0z, nI1z, nA0z, nA1z, nE0z, nE1z, nR0z, nR1z, jcat2_r, jcat2_l, jlt_eq, ite01, ite01o, ite01p, ite00, ite10, xe1, xe2, xe3, xe4, xe5, xe6, if_true, if_false, f_X5_size, Int.reduceLE, Int.reduceLT, if_pos, if_neg]
    · unfold f_X10_trains
      simp (disch := omega) only [mIsIn, mDay, mHour, mMoment, Option.bind_some, ite01, ite01o, ite01p, ite00, ite10, jlt_eq, jup_s, le00, le10, le20, le30, if_true, if_false, Int.reduceLE, Int.reduceLT, if_pos, if_neg]
  · unfold f_L_trains f_X9_trains f_X10_trains
    simp (disch := omega) only [xIsIn, cHas, cRoom, Option.bind_some, nIz, nAz, nRz, nEz, nDz, nI0z, nI1z, nA0z, nA1z, nE0z, nE1z, nR0z, nR1z, jcat2_r, jcat2_l, jlt_eq, ite01, ite01o, ite01p, ite00, ite10, xe1, xe2, xe3, xe4, xe5, xe6, if_true, if_false, f_X5_size, Int.reduceLE, Int.reduceLT, if_pos, if_neg]
    simp (disch := omega) only [mIsIn, mDay, mHour, mMoment, Option.bind_some, ite01, ite01o, ite01p, ite00, ite10, jlt_eq, jup_s, le00, le10, le20, le30, if_true, if_false, Int.reduceLE, Int.reduceLT, jup_c, if_pos, if_neg, mThr, jup_j]
    refine ⟨_, rfl, kA_day hA (fun c h1 h2 h3 h4 h5 h6 => ?_) ⟨?_, ?_, ?_, pE_cg (by simp (disch := omega) only [jup_c, jup_j]) (by simp (disch := omega) only [jup_c, jup_j]) (by simp (disch := omega) only [jup_c, jup_j]) (by simp (disch := omega) only [jup_c, jup_j])⟩ (fun i h1 h2 => ?_) ?_⟩
    · rw [jup_c h3, jup_c h2, jup_c h1]
    · simp (disch := omega) only [jup_c, jup_j]
    · simp (disch := omega) only [jup_c, jup_j]
    · simp (disch := omega) only [jup_c, jup_j]
    · simp (disch := omega) only [jup_c, jup_j]
    · unfold kD
      refine ⟨?_, ?_, ?_, ?_, ?_, ?_⟩
      all_goals simp (disch := omega) only [Nat.add_zero, jup_c, jup_j, jup_s, hz]
      all_goals omega
theorem kA_tape {m m' : jMu} (hA : kA m) (hc : ∀ c, c ≠ 30 → c ≠ 31 → c ≠ 74 → c ≠ 77 → c ≠ 0 → m' c = m c) (h3 : m' 74 3 = m 74 3) (hS : kS m') : kA m' := by
  obtain ⟨h1, h2, h4, h5⟩ := hA
  have hM : m' 75 = m 75 := hc 75 (by omega) (by omega) (by omega) (by omega) (by omega)
  have hK : m' 76 = m 76 := hc 76 (by omega) (by omega) (by omega) (by omega) (by omega)
  refine ⟨kC_frame h1 (fun c a b => hc c (by omega) (by omega) (by omega) (by omega) (by omega)) (fun i _ _ => by rw [hM]), ?_, ?_, hS⟩
  · rw [h3]
    exact h2.imp id (fun g => ⟨g.1, kC_frame g.2 (fun c a b => hc c (by omega) (by omega) (by omega) (by omega) (by omega)) (fun i _ _ => by rw [hK])⟩)
  · intro k hk
    have := kT_bd k hk
    rw [hc _ (by omega) (by omega) (by omega) (by omega) (by omega)]
    exact h4 k hk
theorem c_add {m : jMu} {v n : Int} (hn : m 30 1 = n) (h0 : 0 ≤ n) (h1 : n + 4 ≤ 400) : ∃ m', f_X6_add v m = some m' ∧ m' 30 1 = n + 4 ∧ (∀ k, k < n → m' 31 k = m 31 k) ∧ m' 31 n = jAn (jUr v 24) 255 ∧ m' 31 (n + 1) = jAn (jUr v 16) 255 ∧ m' 31 (n + 1 + 1) = jAn (jUr v 8) 255 ∧ m' 31 (n + 1 + 1 + 1) = jAn (jUr v 0) 255 ∧ ∀ c, c ≠ 30 → c ≠ 31 → m' c = m c := by
  unfold f_X6_add
  rw [show jFU = 99995 + 1 + 1 + 1 + 1 + 1 from rfl]
  rw [f_X6_add_L3]
  simp (disch := omega) only [if_neg, if_pos, jlt_eq, jup_c, jup_s, hn, jW_of, Int.reduceAdd]
  rw [f_X6_add_L3]
  simp (disch := omega) only [if_neg, if_pos, jlt_eq, jup_c, jup_s, jW_of, Int.reduceAdd]
  rw [f_X6_add_L3]
  simp (disch := omega) only [if_neg, if_pos, jlt_eq, jup_c, jup_s, jW_of, Int.reduceAdd]
  rw [f_X6_add_L3]
  simp (disch := omega) only [if_neg, if_pos, jlt_eq, jup_c, jup_s, jW_of, Int.reduceAdd]
  rw [f_X6_add_L3]
  simp only [Int.reduceLT, if_true]
  refine ⟨_, rfl, ?_, fun k hk => ?_, ?_, ?_, ?_, ?_, fun c h2 h3 => ?_⟩
  · simp (disch := omega) only [jup_c, jup_s]
    omega
  · simp (disch := omega) only [jup_c, jup_j]
  · simp (disch := omega) only [jup_c, jup_j, jup_s]
  · simp (disch := omega) only [jup_c, jup_j, jup_s]
  · simp (disch := omega) only [jup_c, jup_j, jup_s]
  · simp (disch := omega) only [jup_c, jup_j, jup_s]
  · simp (disch := omega) only [jup_c, h2, h3, ne_eq, not_false_eq_true]
/-- the byte that the reference writes at a place of twenty -/
def xBy (a b c d e k : Int) : Int := jAn (jUr (if 4 ≤ k then (if 8 ≤ k then (if 12 ≤ k then (if 16 ≤ k then e else d) else c) else b) else a) (jW (24 - jW (8 * jRm k 4)))) 255
theorem m_feed {m : jMu} {a b c d e t : Int} (ht : m 74 5 = t) (h0 : 0 ≤ t) (h1 : t + 20 ≤ 400) : ∃ m', f_X10_feed_L23 jFU a b c d e 0 m = some (t + 20, m') ∧ m' 74 5 = t + 20 ∧ (∀ j, j ≠ 5 → m' 74 j = m 74 j) ∧ (∀ k, k < t → m' 77 k = m 77 k) ∧ (∀ j, 0 ≤ j → j < 20 → m' 77 (t + j) = xBy a b c d e j) ∧ ∀ x, x ≠ 74 → x ≠ 77 → m' x = m x := by
  have key := itn_loop (L := fun q i (s : jMu) => f_X10_feed_L23 q a b c d e i s) (fun i s => jup (jup s 77 (s 74 5) (xBy a b c d e i)) 74 5 (s 74 5 + 1)) (fun s => (s 74 5, s)) (fun i s => s 74 5 = t + i ∧ (∀ j, j ≠ 5 → s 74 j = m 74 j) ∧ (∀ k, k < t → s 77 k = m 77 k) ∧ (∀ j, 0 ≤ j → j < i → s 77 (t + j) = xBy a b c d e j) ∧ ∀ x, x ≠ 74 → x ≠ 77 → s x = m x) (lo := 0) (n := 20) (by
    intro q i s h2 h3 hP
    obtain ⟨p1, p2, p3, p4, p5⟩ := hP
    refine ⟨?_, ?_, fun j hj => ?_, fun k hk => ?_, fun j a1 a2 => ?_, fun x a1 a2 => ?_⟩
    · show f_X10_feed_L23 (q + 1) a b c d e i s = _
      rw [f_X10_feed_L23]
      unfold xBy
      simp (disch := omega) only [if_neg (show ¬ 20 ≤ i by omega), jlt_eq, jup_c, if_pos, p1, jW_of (z := i + 1), jW_of (z := t + i + 1)]
      repeat' split
      all_goals first | rfl | omega
    · rw [jup_s, p1]; omega
    · rw [jup_j hj, jup_c (by decide)]; exact p2 j hj
    · rw [jup_c (by decide), jup_j (by omega)]; exact p3 k hk
    · rw [jup_c (by decide)]
      by_cases hj : j = i
      · rw [p1, hj, jup_s]
      · rw [jup_j (by omega)]; exact p4 j a1 (by omega)
    · rw [jup_c a1, jup_c a2]; exact p5 x a1 a2) (by
    intro q s hP
    show f_X10_feed_L23 (q + 1) a b c d e 20 s = _
    rw [f_X10_feed_L23]
    rw [if_pos (by decide)]) 20 jFU 0 m (by decide) (by decide) (by unfold jFU; omega) ⟨by omega, fun _ _ => rfl, fun _ _ => rfl, fun j a1 a2 => by omega, fun _ _ _ => rfl⟩
  obtain ⟨k1, p1, p2, p3, p4, p5⟩ := key
  exact ⟨_, by rw [k1, p1], p1, p2, p3, p4, p5⟩
theorem k_feed {m : jMu} (hA : kA m) (a b c d e : Int) : ∃ o, ((f_X9_feed a b c d e m).bind fun r1 => (f_X10_feed a b c d e r1.2).bind fun r2 => (if r1.1 = r2.1 then some r2.2 else none)) = some o ∧ kA o := by
  have hS := hA.2.2.2
  obtain ⟨⟨s1, s2, s3, s4⟩, s5, s6⟩ := hS
  unfold f_X9_feed f_X6_hasRoomFor
  rw [jW_of (by omega) (by omega)]
  by_cases g : m 30 1 + 20 ≤ 400
  · rw [if_neg (by omega), Option.bind_some, if_neg (by decide)]
    obtain ⟨m1, e1, n1, o1, x1, y1, z1, w1, f1⟩ := c_add (v := a) rfl s2 (by omega)
    obtain ⟨m2, e2, n2, o2, x2, y2, z2, w2, f2⟩ := c_add (v := b) n1 (by omega) (by omega)
    obtain ⟨m3, e3, n3, o3, x3, y3, z3, w3, f3⟩ := c_add (v := c) n2 (by omega) (by omega)
    obtain ⟨m4, e4, n4, o4, x4, y4, z4, w4, f4⟩ := c_add (v := d) n3 (by omega) (by omega)
    obtain ⟨m5, e5, n5, o5, x5, y5, z5, w5, f5⟩ := c_add (v := e) n4 (by omega) (by omega)
    have F : ∀ x, x ≠ 30 → x ≠ 31 → m5 x = m x := fun x h1 h2 => by rw [f5 x h1 h2, f4 x h1 h2, f3 x h1 h2, f2 x h1 h2, f1 x h1 h2]
    have t5 : jup m5 74 0 0 74 5 = m 30 1 := by rw [jup_j (by decide), F 74 (by decide) (by decide)]; exact s1
    obtain ⟨m6, e6, n6, p6, o6, b6, f6⟩ := m_feed (a := a) (b := b) (c := c) (d := d) (e := e) t5 s2 g
    have h7 : m6 31 = m5 31 := by rw [f6 31 (by decide) (by decide), jup_c (by decide)]
    have h8 : m6 30 = m5 30 := by rw [f6 30 (by decide) (by decide), jup_c (by decide)]
    rw [e1, Option.bind_some, e2, Option.bind_some, e3, Option.bind_some, e4, Option.bind_some, e5, Option.bind_some]
    unfold f_X6_length f_X10_feed
    simp only [Option.bind_some, jlt_eq, t5]
    rw [jW_of (by omega) (by omega), if_pos g, e6, Option.bind_some, if_pos (by rw [n5]; omega)]
    refine ⟨m6, rfl, kA_tape hA (fun x h1 h2 h3 h4 h5 => ?_) ?_ ⟨⟨?_, ?_, ?_, ?_⟩, ?_, ?_, ?_⟩⟩
    · rw [f6 x h3 h4, jup_c h3, F x h1 h2]
    · rw [p6 3 (by decide), jup_j (by decide), F 74 (by decide) (by decide)]
    · rw [n6, h8, n5]; omega
    · rw [h8, n5]; omega
    · rw [h8, n5]; omega
    · intro k h1 h2
      rw [h8, n5] at h2
      rw [h7]
      by_cases hk : k < m 30 1
      · rw [o6 k hk, jup_c (by decide), F 77 (by decide) (by decide), ← s4 k h1 hk, o5 k (by omega), o4 k (by omega), o3 k (by omega), o2 k (by omega), o1 k hk]
      · have hb := b6 (k - m 30 1) (by omega) (by omega)
        rw [show m 30 1 + (k - m 30 1) = k by omega] at hb
        rw [hb]
        have q1 : m5 31 (m 30 1) = jAn (jUr a 24) 255 := by rw [o5 _ (by omega), o4 _ (by omega), o3 _ (by omega), o2 _ (by omega)]; exact x1
        have q2 : m5 31 (m 30 1 + 1) = jAn (jUr a 16) 255 := by rw [o5 _ (by omega), o4 _ (by omega), o3 _ (by omega), o2 _ (by omega)]; exact y1
        have q3 : m5 31 (m 30 1 + 1 + 1) = jAn (jUr a 8) 255 := by rw [o5 _ (by omega), o4 _ (by omega), o3 _ (by omega), o2 _ (by omega)]; exact z1
        have q4 : m5 31 (m 30 1 + 1 + 1 + 1) = jAn (jUr a 0) 255 := by rw [o5 _ (by omega), o4 _ (by omega), o3 _ (by omega), o2 _ (by omega)]; exact w1
        have q5 : m5 31 (m 30 1 + 4) = jAn (jUr b 24) 255 := by rw [o5 _ (by omega), o4 _ (by omega), o3 _ (by omega)]; exact x2
        have q6 : m5 31 (m 30 1 + 4 + 1) = jAn (jUr b 16) 255 := by rw [o5 _ (by omega), o4 _ (by omega), o3 _ (by omega)]; exact y2
        have q7 : m5 31 (m 30 1 + 4 + 1 + 1) = jAn (jUr b 8) 255 := by rw [o5 _ (by omega), o4 _ (by omega), o3 _ (by omega)]; exact z2
        have q8 : m5 31 (m 30 1 + 4 + 1 + 1 + 1) = jAn (jUr b 0) 255 := by rw [o5 _ (by omega), o4 _ (by omega), o3 _ (by omega)]; exact w2
        have q9 : m5 31 (m 30 1 + 4 + 4) = jAn (jUr c 24) 255 := by rw [o5 _ (by omega), o4 _ (by omega)]; exact x3
        have q10 : m5 31 (m 30 1 + 4 + 4 + 1) = jAn (jUr c 16) 255 := by rw [o5 _ (by omega), o4 _ (by omega)]; exact y3
        have q11 : m5 31 (m 30 1 + 4 + 4 + 1 + 1) = jAn (jUr c 8) 255 := by rw [o5 _ (by omega), o4 _ (by omega)]; exact z3
        have q12 : m5 31 (m 30 1 + 4 + 4 + 1 + 1 + 1) = jAn (jUr c 0) 255 := by rw [o5 _ (by omega), o4 _ (by omega)]; exact w3
        have q13 : m5 31 (m 30 1 + 4 + 4 + 4) = jAn (jUr d 24) 255 := by rw [o5 _ (by omega)]; exact x4
        have q14 : m5 31 (m 30 1 + 4 + 4 + 4 + 1) = jAn (jUr d 16) 255 := by rw [o5 _ (by omega)]; exact y4
        have q15 : m5 31 (m 30 1 + 4 + 4 + 4 + 1 + 1) = jAn (jUr d 8) 255 := by rw [o5 _ (by omega)]; exact z4
        have q16 : m5 31 (m 30 1 + 4 + 4 + 4 + 1 + 1 + 1) = jAn (jUr d 0) 255 := by rw [o5 _ (by omega)]; exact w4
        obtain e | e | e | e | e | e | e | e | e | e | e | e | e | e | e | e | e | e | e | e : k = m 30 1 ∨ k = m 30 1 + 1 ∨ k = m 30 1 + 1 + 1 ∨ k = m 30 1 + 1 + 1 + 1 ∨ k = m 30 1 + 4 ∨ k = m 30 1 + 4 + 1 ∨ k = m 30 1 + 4 + 1 + 1 ∨ k = m 30 1 + 4 + 1 + 1 + 1 ∨ k = m 30 1 + 4 + 4 ∨ k = m 30 1 + 4 + 4 + 1 ∨ k = m 30 1 + 4 + 4 + 1 + 1 ∨ k = m 30 1 + 4 + 4 + 1 + 1 + 1 ∨ k = m 30 1 + 4 + 4 + 4 ∨ k = m 30 1 + 4 + 4 + 4 + 1 ∨ k = m 30 1 + 4 + 4 + 4 + 1 + 1 ∨ k = m 30 1 + 4 + 4 + 4 + 1 + 1 + 1 ∨ k = m 30 1 + 4 + 4 + 4 + 4 ∨ k = m 30 1 + 4 + 4 + 4 + 4 + 1 ∨ k = m 30 1 + 4 + 4 + 4 + 4 + 1 + 1 ∨ k = m 30 1 + 4 + 4 + 4 + 4 + 1 + 1 + 1 := by omega
        · rw [show k - m 30 1 = 0 by omega, e, q1]; rfl
        · rw [show k - m 30 1 = 1 by omega, e, q2]; rfl
        · rw [show k - m 30 1 = 2 by omega, e, q3]; rfl
        · rw [show k - m 30 1 = 3 by omega, e, q4]; rfl
        · rw [show k - m 30 1 = 4 by omega, e, q5]; rfl
        · rw [show k - m 30 1 = 5 by omega, e, q6]; rfl
        · rw [show k - m 30 1 = 6 by omega, e, q7]; rfl
        · rw [show k - m 30 1 = 7 by omega, e, q8]; rfl
        · rw [show k - m 30 1 = 8 by omega, e, q9]; rfl
        · rw [show k - m 30 1 = 9 by omega, e, q10]; rfl
        · rw [show k - m 30 1 = 10 by omega, e, q11]; rfl
        · rw [show k - m 30 1 = 11 by omega, e, q12]; rfl
        · rw [show k - m 30 1 = 12 by omega, e, q13]; rfl
        · rw [show k - m 30 1 = 13 by omega, e, q14]; rfl
        · rw [show k - m 30 1 = 14 by omega, e, q15]; rfl
        · rw [show k - m 30 1 = 15 by omega, e, q16]; rfl
        · rw [show k - m 30 1 = 16 by omega, e, x5]; rfl
        · rw [show k - m 30 1 = 17 by omega, e, y5]; rfl
        · rw [show k - m 30 1 = 18 by omega, e, z5]; rfl
        · rw [show k - m 30 1 = 19 by omega, e, w5]; rfl
    · rw [f6 0 (by decide) (by decide), jup_c (by decide), F 0 (by decide) (by decide), p6 9 (by decide), jup_j (by decide), F 74 (by decide) (by decide)]; exact s5
    · rw [f6 0 (by decide) (by decide), jup_c (by decide), F 0 (by decide) (by decide), p6 3 (by decide), jup_j (by decide), F 74 (by decide) (by decide)]; exact s6.1
    · exact pE_cg (by rw [p6 12 (by decide), jup_j (by decide), F 74 (by decide) (by decide)]) (by rw [p6 13 (by decide), jup_j (by decide), F 74 (by decide) (by decide)]) (by rw [p6 14 (by decide), jup_j (by decide), F 74 (by decide) (by decide)]) (by rw [f6 78 (by decide) (by decide), jup_c (by decide), F 78 (by decide) (by decide)]) s6.2
  · rw [if_pos (by omega), Option.bind_some, if_pos rfl]
    unfold f_X10_feed
    have e5 : jup m 74 0 0 74 5 = m 30 1 := by rw [jup_j (by decide)]; exact s1
    simp only [Option.bind_some, jlt_eq, e5]
    rw [jW_of (by omega) (by omega), if_neg g, Option.bind_some, if_pos rfl]
    exact ⟨_, rfl, kA_fM hA (fM.thr m 0)⟩
theorem k_end {m : jMu} (hA : kA m) (a : Int) : ∃ o, ((f_X9_end a m).bind fun r1 => (f_X10_end a r1.2).bind fun r2 => (if r1.1 = r2.1 then some r2.2 else none)) = some o ∧ kA o := by
  obtain ⟨⟨s1, s2, s3, s4⟩, s5, s6⟩ := hA.2.2.2
  unfold f_X9_end f_X6_cut f_X10_end
  simp only [jlt_eq, mIsIn]
  by_cases g : 0 ≤ a ∧ a ≤ m 30 1
  · rw [if_neg (by omega), if_pos g.2]
    simp (disch := omega) only [Option.bind_some, if_pos, if_neg, jup_c, jup_j, s1, ite10, Int.one_ne_zero, or_true, if_true]
    refine ⟨_, rfl, kA_tape hA (fun x h1 h2 h3 h4 h5 => ?_) ?_ ⟨⟨?_, ?_, ?_, ?_⟩, ?_, ?_, ?_⟩⟩
    · dsimp only
      rw [jup_c h3, jup_c h3, jup_c h1]
    · simp (disch := omega) only [jup_c, jup_j]
    · simp (disch := omega) only [jup_c, jup_j, jup_s]
    · simp (disch := omega) only [jup_c, jup_j, jup_s]; omega
    · simp (disch := omega) only [jup_c, jup_j, jup_s]; omega
    · intro k h1 h2
      simp (disch := omega) only [jup_c, jup_j, jup_s] at h2 ⊢
      exact s4 k h1 (by omega)
    · simp (disch := omega) only [jup_c, jup_j]; exact s5
    · simp (disch := omega) only [jup_c, jup_j]; exact s6.1
    · exact pE_cg (by simp (disch := omega) only [jup_c, jup_j]) (by simp (disch := omega) only [jup_c, jup_j]) (by simp (disch := omega) only [jup_c, jup_j]) (by simp (disch := omega) only [jup_c, jup_j]) s6.2
  · have e : (if a < 0 then some ((0 : Int), m) else if a ≤ m 30 1 then some (1, jup m 30 1 a) else some (0, m)) = some (0, m) := by
      by_cases h : a < 0
      · rw [if_pos h]
      · rw [if_neg h, if_neg (by omega)]
    rw [e]
    simp (disch := omega) only [Option.bind_some, if_neg, jup_c, jup_j, s1, ite00, true_or, if_true]
    exact ⟨_, rfl, kA_fM hA (fM.thr m 0)⟩
theorem k_fault {m : jMu} (hA : kA m) : ∃ o, ((f_X9_fault m).bind fun r1 => (f_X10_fault m).bind fun r2 => (if r1 = r2.1 then some r2.2 else none)) = some o ∧ kA o := by
  have s5 := hA.2.2.2.2.1
  unfold f_X9_fault f_X10_fault
  simp (disch := omega) only [Option.bind_some, jlt_eq, jup_j, s5, if_true]
  exact ⟨_, rfl, kA_fM hA (fM.thr m 0)⟩
