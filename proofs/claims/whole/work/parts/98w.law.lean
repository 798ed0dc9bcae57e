/-! THE LAW: a call at a time -/
theorem g_ix {L i k : Int} (h0 : 0 ≤ i) (h1 : i + 7 ≤ L) (h2 : L ≤ 3584) (k0 : 1 ≤ k) (k1 : k ≤ 6) : (0 ≤ jW (i + k) ∧ jW (i + k) < L) = True := by
  rw [jW_of (by omega) (by omega)]
  exact eq_true (by omega)
theorem kc_0 {sx : Int → Int} {L i : Int} {m : jMu} (hA : kA m) (h0 : 0 ≤ i) (h1 : i + 7 ≤ L) (h2 : L ≤ 3584) : ∃ o, f_case_0 sx L i m = some o ∧ kA o := by
  unfold f_case_0
  have g1 := g_ix (k := 1) h0 h1 h2 (by decide) (by decide)
  have g2 := g_ix (k := 2) h0 h1 h2 (by decide) (by decide)
  have g3 := g_ix (k := 3) h0 h1 h2 (by decide) (by decide)
  have g4 := g_ix (k := 4) h0 h1 h2 (by decide) (by decide)
  have g5 := g_ix (k := 5) h0 h1 h2 (by decide) (by decide)
  simp only [g1, g2, g3, g4, g5, if_true]
  exact k_feed hA (sx (jW (i + 1))) (sx (jW (i + 2))) (sx (jW (i + 3))) (sx (jW (i + 4))) (sx (jW (i + 5)))
theorem kc_1 {sx : Int → Int} {L i : Int} {m : jMu} (hA : kA m) (h0 : 0 ≤ i) (h1 : i + 7 ≤ L) (h2 : L ≤ 3584) : ∃ o, f_case_1 sx L i m = some o ∧ kA o := by
  unfold f_case_1
  have g1 := g_ix (k := 1) h0 h1 h2 (by decide) (by decide)
  simp only [g1, if_true]
  exact k_end hA (sx (jW (i + 1)))
theorem kc_2 {sx : Int → Int} {L i : Int} {m : jMu} (hA : kA m) (h0 : 0 ≤ i) (h1 : i + 7 ≤ L) (h2 : L ≤ 3584) : ∃ o, f_case_2 sx L i m = some o ∧ kA o := by
  unfold f_case_2
  have g1 := g_ix (k := 1) h0 h1 h2 (by decide) (by decide)
  simp only [g1, if_true]
  exact k_days hA (sx (jW (i + 1)))
theorem kc_3 {sx : Int → Int} {L i : Int} {m : jMu} (hA : kA m) (h0 : 0 ≤ i) (h1 : i + 7 ≤ L) (h2 : L ≤ 3584) : ∃ o, f_case_3 sx L i m = some o ∧ kA o := by
  unfold f_case_3
  have g1 := g_ix (k := 1) h0 h1 h2 (by decide) (by decide)
  have g2 := g_ix (k := 2) h0 h1 h2 (by decide) (by decide)
  have g3 := g_ix (k := 3) h0 h1 h2 (by decide) (by decide)
  have g4 := g_ix (k := 4) h0 h1 h2 (by decide) (by decide)
  simp only [g1, g2, g3, g4, if_true]
  exact k_bay hA (sx (jW (i + 1))) (sx (jW (i + 2))) (sx (jW (i + 3))) (sx (jW (i + 4)))
theorem kc_4 {sx : Int → Int} {L i : Int} {m : jMu} (hA : kA m) (h0 : 0 ≤ i) (h1 : i + 7 ≤ L) (h2 : L ≤ 3584) : ∃ o, f_case_4 sx L i m = some o ∧ kA o := by
  unfold f_case_4
  have g1 := g_ix (k := 1) h0 h1 h2 (by decide) (by decide)
  have g2 := g_ix (k := 2) h0 h1 h2 (by decide) (by decide)
  have g3 := g_ix (k := 3) h0 h1 h2 (by decide) (by decide)
  have g4 := g_ix (k := 4) h0 h1 h2 (by decide) (by decide)
  have g5 := g_ix (k := 5) h0 h1 h2 (by decide) (by decide)
  have g6 := g_ix (k := 6) h0 h1 h2 (by decide) (by decide)
  simp only [g1, g2, g3, g4, g5, g6, if_true]
  exact k_weather hA (sx (jW (i + 1))) (sx (jW (i + 2))) (sx (jW (i + 3))) (sx (jW (i + 4))) (sx (jW (i + 5))) (sx (jW (i + 6)))
theorem kc_5 {sx : Int → Int} {L i : Int} {m : jMu} (hA : kA m) (h0 : 0 ≤ i) (h1 : i + 7 ≤ L) (h2 : L ≤ 3584) : ∃ o, f_case_5 sx L i m = some o ∧ kA o := by
  unfold f_case_5
  have g1 := g_ix (k := 1) h0 h1 h2 (by decide) (by decide)
  simp only [g1, if_true]
  exact k_trains hA (sx (jW (i + 1)))
theorem kc_6 {sx : Int → Int} {L i : Int} {m : jMu} (hA : kA m) (h0 : 0 ≤ i) (h1 : i + 7 ≤ L) (h2 : L ≤ 3584) : ∃ o, f_case_6 sx L i m = some o ∧ kA o := by
  unfold f_case_6
  have g1 := g_ix (k := 1) h0 h1 h2 (by decide) (by decide)
  have g2 := g_ix (k := 2) h0 h1 h2 (by decide) (by decide)
  have g3 := g_ix (k := 3) h0 h1 h2 (by decide) (by decide)
  by_cases h : sx (jW (i + 1)) = 0
  · have h9 := eq_true h
    simp only [g1, g2, g3, if_true, h9]
    exact k_span0 hA (sx (jW (i + 2))) (sx (jW (i + 3)))
  · simp only [g1, g2, g3, if_true, h, if_false]
    exact k_span1 hA (sx (jW (i + 2))) (sx (jW (i + 3)))
theorem kc_7 {sx : Int → Int} {L i : Int} {m : jMu} (hA : kA m) (h0 : 0 ≤ i) (h1 : i + 7 ≤ L) (h2 : L ≤ 3584) : ∃ o, f_case_7 sx L i m = some o ∧ kA o := by
  unfold f_case_7
  have g1 := g_ix (k := 1) h0 h1 h2 (by decide) (by decide)
  have g2 := g_ix (k := 2) h0 h1 h2 (by decide) (by decide)
  have g3 := g_ix (k := 3) h0 h1 h2 (by decide) (by decide)
  simp only [g1, g2, g3, if_true]
  exact k_nest hA (sx (jW (i + 1))) (sx (jW (i + 2))) (sx (jW (i + 3)))
theorem kc_8 {sx : Int → Int} {L i : Int} {m : jMu} (hA : kA m) (h0 : 0 ≤ i) (h1 : i + 7 ≤ L) (h2 : L ≤ 3584) : ∃ o, f_case_8 sx L i m = some o ∧ kA o := by
  unfold f_case_8
  exact k_terms hA
theorem kc_9 {sx : Int → Int} {L i : Int} {m : jMu} (hA : kA m) (h0 : 0 ≤ i) (h1 : i + 7 ≤ L) (h2 : L ≤ 3584) : ∃ o, f_case_9 sx L i m = some o ∧ kA o := by
  unfold f_case_9
  exact k_fault hA
theorem kc_10 {sx : Int → Int} {L i : Int} {m : jMu} (hA : kA m) (h0 : 0 ≤ i) (h1 : i + 7 ≤ L) (h2 : L ≤ 3584) : ∃ o, f_case_10 sx L i m = some o ∧ kA o := by
  unfold f_case_10
  have g1 := g_ix (k := 1) h0 h1 h2 (by decide) (by decide)
  have g2 := g_ix (k := 2) h0 h1 h2 (by decide) (by decide)
  have g3 := g_ix (k := 3) h0 h1 h2 (by decide) (by decide)
  have g4 := g_ix (k := 4) h0 h1 h2 (by decide) (by decide)
  simp only [g1, g2, g3, g4, if_true]
  exact kq_case (Fx := f_L_why (sx (jW (i + 1))) (sx (jW (i + 2))) (sx (jW (i + 3))) (sx (jW (i + 4)))) (Fm := f_X10_why (sx (jW (i + 1))) (sx (jW (i + 2))) (sx (jW (i + 3))) (sx (jW (i + 4)))) (k := fun M => kWhy M (sx (jW (i + 1))) (sx (jW (i + 2))) (sx (jW (i + 3))) (sx (jW (i + 4)))) (v := fun M => sWhy M (sx (jW (i + 1))) (sx (jW (i + 2))) (12 * (sx (jW (i + 3))) + (sx (jW (i + 4)))) (sT M (12 * (sx (jW (i + 3))) + (sx (jW (i + 4)))))) hA (cq_why hA (sx (jW (i + 1))) (sx (jW (i + 2))) (sx (jW (i + 3))) (sx (jW (i + 4)))) (fun m hA => mq_why hA (sx (jW (i + 1))) (sx (jW (i + 2))) (sx (jW (i + 3))) (sx (jW (i + 4))))
theorem kc_11 {sx : Int → Int} {L i : Int} {m : jMu} (hA : kA m) (h0 : 0 ≤ i) (h1 : i + 7 ≤ L) (h2 : L ≤ 3584) : ∃ o, f_case_11 sx L i m = some o ∧ kA o := by
  unfold f_case_11
  have g1 := g_ix (k := 1) h0 h1 h2 (by decide) (by decide)
  have g2 := g_ix (k := 2) h0 h1 h2 (by decide) (by decide)
  have g3 := g_ix (k := 3) h0 h1 h2 (by decide) (by decide)
  have g4 := g_ix (k := 4) h0 h1 h2 (by decide) (by decide)
  have g5 := g_ix (k := 5) h0 h1 h2 (by decide) (by decide)
  simp only [g1, g2, g3, g4, g5, if_true]
  exact kq_case (Fx := f_L_at (sx (jW (i + 1))) (sx (jW (i + 2))) (sx (jW (i + 3))) (sx (jW (i + 4))) (sx (jW (i + 5)))) (Fm := f_X10_at (sx (jW (i + 1))) (sx (jW (i + 2))) (sx (jW (i + 3))) (sx (jW (i + 4))) (sx (jW (i + 5)))) (k := fun M => kAt M (sx (jW (i + 1))) (sx (jW (i + 2))) (sx (jW (i + 3))) (sx (jW (i + 4))) (sx (jW (i + 5)))) (v := fun M => sAt M (sx (jW (i + 1))) (sx (jW (i + 2))) (12 * (sx (jW (i + 3))) + (sx (jW (i + 4)))) (sx (jW (i + 5)))) hA (cq_at hA (sx (jW (i + 1))) (sx (jW (i + 2))) (sx (jW (i + 3))) (sx (jW (i + 4))) (sx (jW (i + 5)))) (fun m hA => mq_at hA (sx (jW (i + 1))) (sx (jW (i + 2))) (sx (jW (i + 3))) (sx (jW (i + 4))) (sx (jW (i + 5))))
theorem kc_12 {sx : Int → Int} {L i : Int} {m : jMu} (hA : kA m) (h0 : 0 ≤ i) (h1 : i + 7 ≤ L) (h2 : L ≤ 3584) : ∃ o, f_case_12 sx L i m = some o ∧ kA o := by
  unfold f_case_12
  have g1 := g_ix (k := 1) h0 h1 h2 (by decide) (by decide)
  have g2 := g_ix (k := 2) h0 h1 h2 (by decide) (by decide)
  have g3 := g_ix (k := 3) h0 h1 h2 (by decide) (by decide)
  have g4 := g_ix (k := 4) h0 h1 h2 (by decide) (by decide)
  have g5 := g_ix (k := 5) h0 h1 h2 (by decide) (by decide)
  simp only [g1, g2, g3, g4, g5, if_true]
  exact kq_case (Fx := f_L_hours (sx (jW (i + 1))) (sx (jW (i + 2))) (sx (jW (i + 3))) (sx (jW (i + 4))) (sx (jW (i + 5)))) (Fm := f_X10_hours (sx (jW (i + 1))) (sx (jW (i + 2))) (sx (jW (i + 3))) (sx (jW (i + 4))) (sx (jW (i + 5)))) (k := fun M => kHours M (sx (jW (i + 1))) (sx (jW (i + 2))) (sx (jW (i + 3))) (sx (jW (i + 4))) (sx (jW (i + 5)))) (v := fun M => sHours M (sx (jW (i + 1))) (sx (jW (i + 2))) (sx (jW (i + 3))) (sx (jW (i + 4))) (sx (jW (i + 5)))) hA (cq_hours hA (sx (jW (i + 1))) (sx (jW (i + 2))) (sx (jW (i + 3))) (sx (jW (i + 4))) (sx (jW (i + 5)))) (fun m hA => mq_hours hA (sx (jW (i + 1))) (sx (jW (i + 2))) (sx (jW (i + 3))) (sx (jW (i + 4))) (sx (jW (i + 5))))
theorem kc_13 {sx : Int → Int} {L i : Int} {m : jMu} (hA : kA m) (h0 : 0 ≤ i) (h1 : i + 7 ≤ L) (h2 : L ≤ 3584) : ∃ o, f_case_13 sx L i m = some o ∧ kA o := by
  unfold f_case_13
  have g1 := g_ix (k := 1) h0 h1 h2 (by decide) (by decide)
  simp only [g1, if_true]
  exact k_gang hA (sx (jW (i + 1)))
theorem kc_14 {sx : Int → Int} {L i : Int} {m : jMu} (hA : kA m) (h0 : 0 ≤ i) (h1 : i + 7 ≤ L) (h2 : L ≤ 3584) : ∃ o, f_case_14 sx L i m = some o ∧ kA o := by
  unfold f_case_14
  have g1 := g_ix (k := 1) h0 h1 h2 (by decide) (by decide)
  have g2 := g_ix (k := 2) h0 h1 h2 (by decide) (by decide)
  have g3 := g_ix (k := 3) h0 h1 h2 (by decide) (by decide)
  simp only [g1, g2, g3, if_true]
  exact k_batch hA (sx (jW (i + 1))) (sx (jW (i + 2))) (sx (jW (i + 3)))
theorem kc_15 {sx : Int → Int} {L i : Int} {m : jMu} (hA : kA m) (h0 : 0 ≤ i) (h1 : i + 7 ≤ L) (h2 : L ≤ 3584) : ∃ o, f_case_15 sx L i m = some o ∧ kA o := by
  unfold f_case_15
  have g1 := g_ix (k := 1) h0 h1 h2 (by decide) (by decide)
  have g2 := g_ix (k := 2) h0 h1 h2 (by decide) (by decide)
  have g3 := g_ix (k := 3) h0 h1 h2 (by decide) (by decide)
  have g4 := g_ix (k := 4) h0 h1 h2 (by decide) (by decide)
  simp only [g1, g2, g3, g4, if_true]
  exact kq_case (Fx := f_L_ends (sx (jW (i + 1))) (sx (jW (i + 2))) (sx (jW (i + 3))) (sx (jW (i + 4)))) (Fm := f_X10_ends (sx (jW (i + 1))) (sx (jW (i + 2))) (sx (jW (i + 3))) (sx (jW (i + 4)))) (k := fun M => kEnds M (sx (jW (i + 1))) (sx (jW (i + 2))) (sx (jW (i + 3))) (sx (jW (i + 4)))) (v := fun M => sEnd M (sx (jW (i + 1))) (sx (jW (i + 2))) (sx (jW (i + 3))) (sx (jW (i + 4)))) hA (cq_ends hA (sx (jW (i + 1))) (sx (jW (i + 2))) (sx (jW (i + 3))) (sx (jW (i + 4)))) (fun m hA => mq_ends hA (sx (jW (i + 1))) (sx (jW (i + 2))) (sx (jW (i + 3))) (sx (jW (i + 4))))
theorem kc_16 {sx : Int → Int} {L i : Int} {m : jMu} (hA : kA m) (h0 : 0 ≤ i) (h1 : i + 7 ≤ L) (h2 : L ≤ 3584) : ∃ o, f_case_16 sx L i m = some o ∧ kA o := by
  unfold f_case_16
  have g1 := g_ix (k := 1) h0 h1 h2 (by decide) (by decide)
  have g2 := g_ix (k := 2) h0 h1 h2 (by decide) (by decide)
  simp only [g1, g2, if_true]
  exact kq_caseB (Fx := f_L_may (sx (jW (i + 1))) (sx (jW (i + 2)))) (Fm := f_X10_may (sx (jW (i + 1))) (sx (jW (i + 2)))) (k := fun M => kMay M (sx (jW (i + 1))) (sx (jW (i + 2)))) (v := fun M => sMb M (sx (jW (i + 1))) (sx (jW (i + 2)))) (sMb_01 _ _ _) hA (cq_may hA (sx (jW (i + 1))) (sx (jW (i + 2)))) (fun m hA => mq_may hA (sx (jW (i + 1))) (sx (jW (i + 2))))
theorem kc_17 {sx : Int → Int} {L i : Int} {m : jMu} (hA : kA m) (h0 : 0 ≤ i) (h1 : i + 7 ≤ L) (h2 : L ≤ 3584) : ∃ o, f_case_17 sx L i m = some o ∧ kA o := by
  unfold f_case_17
  have g1 := g_ix (k := 1) h0 h1 h2 (by decide) (by decide)
  have g2 := g_ix (k := 2) h0 h1 h2 (by decide) (by decide)
  have g3 := g_ix (k := 3) h0 h1 h2 (by decide) (by decide)
  have g4 := g_ix (k := 4) h0 h1 h2 (by decide) (by decide)
  have g5 := g_ix (k := 5) h0 h1 h2 (by decide) (by decide)
  simp only [g1, g2, g3, g4, g5, if_true]
  exact k_job hA (sx (jW (i + 1))) (sx (jW (i + 2))) (sx (jW (i + 3))) (sx (jW (i + 4))) (sx (jW (i + 5)))
theorem kc_18 {sx : Int → Int} {L i : Int} {m : jMu} (hA : kA m) (h0 : 0 ≤ i) (h1 : i + 7 ≤ L) (h2 : L ≤ 3584) : ∃ o, f_case_18 sx L i m = some o ∧ kA o := by
  unfold f_case_18
  have g1 := g_ix (k := 1) h0 h1 h2 (by decide) (by decide)
  have g2 := g_ix (k := 2) h0 h1 h2 (by decide) (by decide)
  simp only [g1, g2, if_true]
  exact kq_case (Fx := f_L_look (sx (jW (i + 1))) (sx (jW (i + 2)))) (Fm := f_X10_look (sx (jW (i + 1))) (sx (jW (i + 2)))) (k := fun M => kLook M (sx (jW (i + 1))) (sx (jW (i + 2)))) (v := fun M => M (376 + 8 * (sx (jW (i + 1))) + (sx (jW (i + 2))))) hA (cq_look hA (sx (jW (i + 1))) (sx (jW (i + 2)))) (fun m hA => mq_look hA (sx (jW (i + 1))) (sx (jW (i + 2))))
theorem kc_19 {sx : Int → Int} {L i : Int} {m : jMu} (hA : kA m) (h0 : 0 ≤ i) (h1 : i + 7 ≤ L) (h2 : L ≤ 3584) : ∃ o, f_case_19 sx L i m = some o ∧ kA o := by
  unfold f_case_19
  have g1 := g_ix (k := 1) h0 h1 h2 (by decide) (by decide)
  simp only [g1, if_true]
  exact k_peel hA (sx (jW (i + 1)))
theorem kc_20 {sx : Int → Int} {L i : Int} {m : jMu} (hA : kA m) (h0 : 0 ≤ i) (h1 : i + 7 ≤ L) (h2 : L ≤ 3584) : ∃ o, f_case_20 sx L i m = some o ∧ kA o := by
  unfold f_case_20
  have g1 := g_ix (k := 1) h0 h1 h2 (by decide) (by decide)
  simp only [g1, if_true]
  exact k_fail hA (sx (jW (i + 1)))
theorem kc_21 {sx : Int → Int} {L i : Int} {m : jMu} (hA : kA m) (h0 : 0 ≤ i) (h1 : i + 7 ≤ L) (h2 : L ≤ 3584) : ∃ o, f_case_21 sx L i m = some o ∧ kA o := by
  unfold f_case_21
  have g1 := g_ix (k := 1) h0 h1 h2 (by decide) (by decide)
  have g2 := g_ix (k := 2) h0 h1 h2 (by decide) (by decide)
  have g3 := g_ix (k := 3) h0 h1 h2 (by decide) (by decide)
  simp only [g1, g2, g3, if_true]
  exact kq_case (Fx := f_L_last (sx (jW (i + 1))) (sx (jW (i + 2))) (sx (jW (i + 3)))) (Fm := f_X10_last (sx (jW (i + 1))) (sx (jW (i + 2))) (sx (jW (i + 3)))) (k := fun M => kLast M (sx (jW (i + 1))) (sx (jW (i + 2))) (sx (jW (i + 3)))) (v := fun M => sLast M (sx (jW (i + 1))) (12 * (sx (jW (i + 2))) + 12) (sx (jW (i + 3)))) hA (cq_last hA (sx (jW (i + 1))) (sx (jW (i + 2))) (sx (jW (i + 3)))) (fun m hA => mq_last hA (sx (jW (i + 1))) (sx (jW (i + 2))) (sx (jW (i + 3))))
theorem kc_22 {sx : Int → Int} {L i : Int} {m : jMu} (hA : kA m) (h0 : 0 ≤ i) (h1 : i + 7 ≤ L) (h2 : L ≤ 3584) : ∃ o, f_case_22 sx L i m = some o ∧ kA o := by
  unfold f_case_22
  have g1 := g_ix (k := 1) h0 h1 h2 (by decide) (by decide)
  have g2 := g_ix (k := 2) h0 h1 h2 (by decide) (by decide)
  have g3 := g_ix (k := 3) h0 h1 h2 (by decide) (by decide)
  by_cases h : sx (jW (i + 3)) = 0
  · have h9 := eq_true h
    simp only [g1, g2, g3, if_true, h9]
    exact kq_case (Fx := f_L_recall (sx (jW (i + 1))) (sx (jW (i + 2))) 0) (Fm := f_X10_recall (sx (jW (i + 1))) (sx (jW (i + 2))) 0) (k := fun M => kRec M (sx (jW (i + 1))) (sx (jW (i + 2)))) (v := fun M => sRec M (sx (jW (i + 1))) (sx (jW (i + 2))) 0) hA (cq_recall hA (sx (jW (i + 1))) (sx (jW (i + 2))) 0) (fun m hA => mq_recall hA (sx (jW (i + 1))) (sx (jW (i + 2))) 0)
  · simp only [g1, g2, g3, if_true, h, if_false]
    exact kq_case (Fx := f_L_recall (sx (jW (i + 1))) (sx (jW (i + 2))) 1) (Fm := f_X10_recall (sx (jW (i + 1))) (sx (jW (i + 2))) 1) (k := fun M => kRec M (sx (jW (i + 1))) (sx (jW (i + 2)))) (v := fun M => sRec M (sx (jW (i + 1))) (sx (jW (i + 2))) 1) hA (cq_recall hA (sx (jW (i + 1))) (sx (jW (i + 2))) 1) (fun m hA => mq_recall hA (sx (jW (i + 1))) (sx (jW (i + 2))) 1)
theorem kc_23 {sx : Int → Int} {L i : Int} {m : jMu} (hA : kA m) (h0 : 0 ≤ i) (h1 : i + 7 ≤ L) (h2 : L ≤ 3584) : ∃ o, f_case_23 sx L i m = some o ∧ kA o := by
  unfold f_case_23
  have g1 := g_ix (k := 1) h0 h1 h2 (by decide) (by decide)
  simp only [g1, if_true]
  exact kq_case (Fx := f_L_left (sx (jW (i + 1)))) (Fm := f_X10_left (sx (jW (i + 1)))) (k := fun M => kLeft M (sx (jW (i + 1)))) (v := fun M => sLeft M (sx (jW (i + 1)))) hA (cq_left hA (sx (jW (i + 1)))) (fun m hA => mq_left hA (sx (jW (i + 1))))
theorem kc_24 {sx : Int → Int} {L i : Int} {m : jMu} (hA : kA m) (h0 : 0 ≤ i) (h1 : i + 7 ≤ L) (h2 : L ≤ 3584) : ∃ o, f_case_24 sx L i m = some o ∧ kA o := by
  unfold f_case_24
  have g1 := g_ix (k := 1) h0 h1 h2 (by decide) (by decide)
  have g2 := g_ix (k := 2) h0 h1 h2 (by decide) (by decide)
  have g3 := g_ix (k := 3) h0 h1 h2 (by decide) (by decide)
  simp only [g1, g2, g3, if_true]
  exact kq_case (Fx := f_L_caught (sx (jW (i + 1))) (sx (jW (i + 2))) (sx (jW (i + 3)))) (Fm := f_X10_caught (sx (jW (i + 1))) (sx (jW (i + 2))) (sx (jW (i + 3)))) (k := fun M => kCau (sx (jW (i + 1))) (sx (jW (i + 2))) (sx (jW (i + 3)))) (v := fun M => sCau M (sx (jW (i + 1))) (sx (jW (i + 2))) (sx (jW (i + 3)))) hA (cq_caught hA (sx (jW (i + 1))) (sx (jW (i + 2))) (sx (jW (i + 3)))) (fun m hA => mq_caught hA (sx (jW (i + 1))) (sx (jW (i + 2))) (sx (jW (i + 3))))
theorem kc_25 {sx : Int → Int} {L i : Int} {m : jMu} (hA : kA m) (h0 : 0 ≤ i) (h1 : i + 7 ≤ L) (h2 : L ≤ 3584) : ∃ o, f_case_25 sx L i m = some o ∧ kA o := by
  unfold f_case_25
  have g1 := g_ix (k := 1) h0 h1 h2 (by decide) (by decide)
  have g2 := g_ix (k := 2) h0 h1 h2 (by decide) (by decide)
  have g3 := g_ix (k := 3) h0 h1 h2 (by decide) (by decide)
  have g4 := g_ix (k := 4) h0 h1 h2 (by decide) (by decide)
  simp only [g1, g2, g3, g4, if_true]
  exact kq_case (Fx := f_L_bare (sx (jW (i + 1))) (sx (jW (i + 2))) (sx (jW (i + 3))) (sx (jW (i + 4)))) (Fm := f_X10_bare (sx (jW (i + 1))) (sx (jW (i + 2))) (sx (jW (i + 3))) (sx (jW (i + 4)))) (k := fun M => kBare M (sx (jW (i + 1))) (sx (jW (i + 2))) (sx (jW (i + 3))) (sx (jW (i + 4)))) (v := fun M => sBn M (sx (jW (i + 1))) (sx (jW (i + 2))) (sx (jW (i + 3))) (sx (jW (i + 4)))) hA (cq_bare hA (sx (jW (i + 1))) (sx (jW (i + 2))) (sx (jW (i + 3))) (sx (jW (i + 4)))) (fun m hA => mq_bare hA (sx (jW (i + 1))) (sx (jW (i + 2))) (sx (jW (i + 3))) (sx (jW (i + 4))))
theorem kc_26 {sx : Int → Int} {L i : Int} {m : jMu} (hA : kA m) (h0 : 0 ≤ i) (h1 : i + 7 ≤ L) (h2 : L ≤ 3584) : ∃ o, f_case_26 sx L i m = some o ∧ kA o := by
  unfold f_case_26
  have g1 := g_ix (k := 1) h0 h1 h2 (by decide) (by decide)
  have g2 := g_ix (k := 2) h0 h1 h2 (by decide) (by decide)
  have g3 := g_ix (k := 3) h0 h1 h2 (by decide) (by decide)
  simp only [g1, g2, g3, if_true]
  exact k_rust hA (sx (jW (i + 1))) (sx (jW (i + 2))) (sx (jW (i + 3)))
theorem kc_27 {sx : Int → Int} {L i : Int} {m : jMu} (hA : kA m) (h0 : 0 ≤ i) (h1 : i + 7 ≤ L) (h2 : L ≤ 3584) : ∃ o, f_case_27 sx L i m = some o ∧ kA o := by
  unfold f_case_27
  have g1 := g_ix (k := 1) h0 h1 h2 (by decide) (by decide)
  have g2 := g_ix (k := 2) h0 h1 h2 (by decide) (by decide)
  have g3 := g_ix (k := 3) h0 h1 h2 (by decide) (by decide)
  simp only [g1, g2, g3, if_true]
  exact k_reading hA (sx (jW (i + 1))) (sx (jW (i + 2))) (sx (jW (i + 3)))
theorem kc_28 {sx : Int → Int} {L i : Int} {m : jMu} (hA : kA m) (h0 : 0 ≤ i) (h1 : i + 7 ≤ L) (h2 : L ≤ 3584) : ∃ o, f_case_28 sx L i m = some o ∧ kA o := by
  unfold f_case_28
  have g1 := g_ix (k := 1) h0 h1 h2 (by decide) (by decide)
  have g2 := g_ix (k := 2) h0 h1 h2 (by decide) (by decide)
  have g3 := g_ix (k := 3) h0 h1 h2 (by decide) (by decide)
  have g4 := g_ix (k := 4) h0 h1 h2 (by decide) (by decide)
  by_cases h : sx (jW (i + 4)) = 0
  · have h9 := eq_true h
    simp only [g1, g2, g3, g4, if_true, h9]
    exact kq_case (Fx := f_L_steel (sx (jW (i + 1))) (sx (jW (i + 2))) (sx (jW (i + 3))) 0) (Fm := f_X10_steel (sx (jW (i + 1))) (sx (jW (i + 2))) (sx (jW (i + 3))) 0) (k := fun M => kSteel M (sx (jW (i + 1))) (sx (jW (i + 2))) (sx (jW (i + 3)))) (v := fun M => sSt M (sx (jW (i + 1))) (sx (jW (i + 2))) (sx (jW (i + 3))) 0) hA (cq_steel hA (sx (jW (i + 1))) (sx (jW (i + 2))) (sx (jW (i + 3))) 0) (fun m hA => mq_steel hA (sx (jW (i + 1))) (sx (jW (i + 2))) (sx (jW (i + 3))) 0)
  · simp only [g1, g2, g3, g4, if_true, h, if_false]
    exact kq_case (Fx := f_L_steel (sx (jW (i + 1))) (sx (jW (i + 2))) (sx (jW (i + 3))) 1) (Fm := f_X10_steel (sx (jW (i + 1))) (sx (jW (i + 2))) (sx (jW (i + 3))) 1) (k := fun M => kSteel M (sx (jW (i + 1))) (sx (jW (i + 2))) (sx (jW (i + 3)))) (v := fun M => sSt M (sx (jW (i + 1))) (sx (jW (i + 2))) (sx (jW (i + 3))) 1) hA (cq_steel hA (sx (jW (i + 1))) (sx (jW (i + 2))) (sx (jW (i + 3))) 1) (fun m hA => mq_steel hA (sx (jW (i + 1))) (sx (jW (i + 2))) (sx (jW (i + 3))) 1)
theorem kc_29 {sx : Int → Int} {L i : Int} {m : jMu} (hA : kA m) (h0 : 0 ≤ i) (h1 : i + 7 ≤ L) (h2 : L ≤ 3584) : ∃ o, f_case_29 sx L i m = some o ∧ kA o := by
  unfold f_case_29
  have g1 := g_ix (k := 1) h0 h1 h2 (by decide) (by decide)
  have g2 := g_ix (k := 2) h0 h1 h2 (by decide) (by decide)
  have g3 := g_ix (k := 3) h0 h1 h2 (by decide) (by decide)
  simp only [g1, g2, g3, if_true]
  exact kq_case (Fx := f_L_below (sx (jW (i + 1))) (sx (jW (i + 2))) (sx (jW (i + 3)))) (Fm := f_X10_below (sx (jW (i + 1))) (sx (jW (i + 2))) (sx (jW (i + 3)))) (k := fun M => kBelow M (sx (jW (i + 1))) (sx (jW (i + 2))) (sx (jW (i + 3)))) (v := fun M => sBelow M (sx (jW (i + 1))) (sx (jW (i + 2))) (sx (jW (i + 3)))) hA (cq_below hA (sx (jW (i + 1))) (sx (jW (i + 2))) (sx (jW (i + 3)))) (fun m hA => mq_below hA (sx (jW (i + 1))) (sx (jW (i + 2))) (sx (jW (i + 3))))
theorem kc_30 {sx : Int → Int} {L i : Int} {m : jMu} (hA : kA m) (h0 : 0 ≤ i) (h1 : i + 7 ≤ L) (h2 : L ≤ 3584) : ∃ o, f_case_30 sx L i m = some o ∧ kA o := by
  unfold f_case_30
  have g1 := g_ix (k := 1) h0 h1 h2 (by decide) (by decide)
  have g2 := g_ix (k := 2) h0 h1 h2 (by decide) (by decide)
  have g3 := g_ix (k := 3) h0 h1 h2 (by decide) (by decide)
  have g4 := g_ix (k := 4) h0 h1 h2 (by decide) (by decide)
  have g5 := g_ix (k := 5) h0 h1 h2 (by decide) (by decide)
  simp only [g1, g2, g3, g4, g5, if_true]
  exact kq_case (Fx := f_L_order (sx (jW (i + 1))) (sx (jW (i + 2))) (sx (jW (i + 3))) (sx (jW (i + 4))) (sx (jW (i + 5)))) (Fm := f_X10_order (sx (jW (i + 1))) (sx (jW (i + 2))) (sx (jW (i + 3))) (sx (jW (i + 4))) (sx (jW (i + 5)))) (k := fun M => kOrd M (sx (jW (i + 1))) (sx (jW (i + 2))) (sx (jW (i + 3))) (sx (jW (i + 4))) (sx (jW (i + 5)))) (v := fun M => sOrd M (sx (jW (i + 1))) (sx (jW (i + 2))) (sx (jW (i + 3))) (sx (jW (i + 4))) (sx (jW (i + 5)))) hA (cq_order hA (sx (jW (i + 1))) (sx (jW (i + 2))) (sx (jW (i + 3))) (sx (jW (i + 4))) (sx (jW (i + 5)))) (fun m hA => mq_order hA (sx (jW (i + 1))) (sx (jW (i + 2))) (sx (jW (i + 3))) (sx (jW (i + 4))) (sx (jW (i + 5))))
theorem kc_31 {sx : Int → Int} {L i : Int} {m : jMu} (hA : kA m) (h0 : 0 ≤ i) (h1 : i + 7 ≤ L) (h2 : L ≤ 3584) : ∃ o, f_case_31 sx L i m = some o ∧ kA o := by
  unfold f_case_31
  have g1 := g_ix (k := 1) h0 h1 h2 (by decide) (by decide)
  have g2 := g_ix (k := 2) h0 h1 h2 (by decide) (by decide)
  have g3 := g_ix (k := 3) h0 h1 h2 (by decide) (by decide)
  have g4 := g_ix (k := 4) h0 h1 h2 (by decide) (by decide)
  simp only [g1, g2, g3, g4, if_true]
  exact kq_case (Fx := f_L_put (sx (jW (i + 1))) (sx (jW (i + 2))) (sx (jW (i + 3))) (sx (jW (i + 4)))) (Fm := f_X10_put (sx (jW (i + 1))) (sx (jW (i + 2))) (sx (jW (i + 3))) (sx (jW (i + 4)))) (k := fun M => kPut M (sx (jW (i + 1))) (sx (jW (i + 2))) (sx (jW (i + 3))) (sx (jW (i + 4)))) (v := fun M => sPut M (sx (jW (i + 1))) (sx (jW (i + 2))) (sx (jW (i + 3))) (sx (jW (i + 4)))) hA (cq_put hA (sx (jW (i + 1))) (sx (jW (i + 2))) (sx (jW (i + 3))) (sx (jW (i + 4)))) (fun m hA => mq_put hA (sx (jW (i + 1))) (sx (jW (i + 2))) (sx (jW (i + 3))) (sx (jW (i + 4))))
theorem kc_32 {sx : Int → Int} {L i : Int} {m : jMu} (hA : kA m) (h0 : 0 ≤ i) (h1 : i + 7 ≤ L) (h2 : L ≤ 3584) : ∃ o, f_case_32 sx L i m = some o ∧ kA o := by
  unfold f_case_32
  have g1 := g_ix (k := 1) h0 h1 h2 (by decide) (by decide)
  have g2 := g_ix (k := 2) h0 h1 h2 (by decide) (by decide)
  have g3 := g_ix (k := 3) h0 h1 h2 (by decide) (by decide)
  simp only [g1, g2, g3, if_true]
  exact k_cost hA (sx (jW (i + 1))) (sx (jW (i + 2))) (sx (jW (i + 3)))
theorem kc_33 {sx : Int → Int} {L i : Int} {m : jMu} (hA : kA m) (h0 : 0 ≤ i) (h1 : i + 7 ≤ L) (h2 : L ≤ 3584) : ∃ o, f_case_33 sx L i m = some o ∧ kA o := by
  unfold f_case_33
  have g1 := g_ix (k := 1) h0 h1 h2 (by decide) (by decide)
  have g2 := g_ix (k := 2) h0 h1 h2 (by decide) (by decide)
  have g3 := g_ix (k := 3) h0 h1 h2 (by decide) (by decide)
  have g4 := g_ix (k := 4) h0 h1 h2 (by decide) (by decide)
  simp only [g1, g2, g3, g4, if_true]
  exact k_wear hA (sx (jW (i + 1))) (sx (jW (i + 2))) (sx (jW (i + 3))) (sx (jW (i + 4)))
theorem kc_34 {sx : Int → Int} {L i : Int} {m : jMu} (hA : kA m) (h0 : 0 ≤ i) (h1 : i + 7 ≤ L) (h2 : L ≤ 3584) : ∃ o, f_case_34 sx L i m = some o ∧ kA o := by
  unfold f_case_34
  have g1 := g_ix (k := 1) h0 h1 h2 (by decide) (by decide)
  have g2 := g_ix (k := 2) h0 h1 h2 (by decide) (by decide)
  simp only [g1, g2, if_true]
  exact kq_case (Fx := f_L_spent (sx (jW (i + 1))) (sx (jW (i + 2)))) (Fm := f_X10_spent (sx (jW (i + 1))) (sx (jW (i + 2)))) (k := fun M => kSpent M (sx (jW (i + 1))) (sx (jW (i + 2)))) (v := fun M => sSpc M (sx (jW (i + 1))) (sx (jW (i + 2)))) hA (cq_spent hA (sx (jW (i + 1))) (sx (jW (i + 2)))) (fun m hA => mq_spent hA (sx (jW (i + 1))) (sx (jW (i + 2))))
theorem kc_35 {sx : Int → Int} {L i : Int} {m : jMu} (hA : kA m) (h0 : 0 ≤ i) (h1 : i + 7 ≤ L) (h2 : L ≤ 3584) : ∃ o, f_case_35 sx L i m = some o ∧ kA o := by
  unfold f_case_35
  have g1 := g_ix (k := 1) h0 h1 h2 (by decide) (by decide)
  have g2 := g_ix (k := 2) h0 h1 h2 (by decide) (by decide)
  have g3 := g_ix (k := 3) h0 h1 h2 (by decide) (by decide)
  simp only [g1, g2, g3, if_true]
  exact kq_case (Fx := f_L_promise (sx (jW (i + 1))) (sx (jW (i + 2))) (sx (jW (i + 3)))) (Fm := f_X10_promise (sx (jW (i + 1))) (sx (jW (i + 2))) (sx (jW (i + 3)))) (k := fun M => kProm (sx (jW (i + 1))) (sx (jW (i + 2))) (sx (jW (i + 3)))) (v := fun M => sRow (sx (jW (i + 1))) (sx (jW (i + 2))) (sx (jW (i + 3)))) hA (cq_promise hA (sx (jW (i + 1))) (sx (jW (i + 2))) (sx (jW (i + 3)))) (fun m hA => mq_promise hA (sx (jW (i + 1))) (sx (jW (i + 2))) (sx (jW (i + 3))))
theorem kc_36 {sx : Int → Int} {L i : Int} {m : jMu} (hA : kA m) (h0 : 0 ≤ i) (h1 : i + 7 ≤ L) (h2 : L ≤ 3584) : ∃ o, f_case_36 sx L i m = some o ∧ kA o := by
  unfold f_case_36
  have g1 := g_ix (k := 1) h0 h1 h2 (by decide) (by decide)
  have g2 := g_ix (k := 2) h0 h1 h2 (by decide) (by decide)
  have g3 := g_ix (k := 3) h0 h1 h2 (by decide) (by decide)
  have g4 := g_ix (k := 4) h0 h1 h2 (by decide) (by decide)
  simp only [g1, g2, g3, g4, if_true]
  exact kq_case (Fx := f_L_edge (sx (jW (i + 1))) (sx (jW (i + 2))) (sx (jW (i + 3))) (sx (jW (i + 4)))) (Fm := f_X10_edge (sx (jW (i + 1))) (sx (jW (i + 2))) (sx (jW (i + 3))) (sx (jW (i + 4)))) (k := fun M => kEdge (sx (jW (i + 1))) (sx (jW (i + 2))) (sx (jW (i + 3))) (sx (jW (i + 4)))) (v := fun M => sEdge (sx (jW (i + 1))) (sx (jW (i + 2))) (sx (jW (i + 3))) (sx (jW (i + 4)))) hA (cq_edge hA (sx (jW (i + 1))) (sx (jW (i + 2))) (sx (jW (i + 3))) (sx (jW (i + 4)))) (fun m hA => mq_edge hA (sx (jW (i + 1))) (sx (jW (i + 2))) (sx (jW (i + 3))) (sx (jW (i + 4))))
theorem kc_37 {sx : Int → Int} {L i : Int} {m : jMu} (hA : kA m) (h0 : 0 ≤ i) (h1 : i + 7 ≤ L) (h2 : L ≤ 3584) : ∃ o, f_case_37 sx L i m = some o ∧ kA o := by
  unfold f_case_37
  have g1 := g_ix (k := 1) h0 h1 h2 (by decide) (by decide)
  simp only [g1, if_true]
  exact kq_case (Fx := f_L_even (sx (jW (i + 1)))) (Fm := f_X10_even (sx (jW (i + 1)))) (k := fun M => if 1 ≤ (sx (jW (i + 1))) ∧ (sx (jW (i + 1))) ≤ 4 then 0 else 1) (v := fun M => sEv M (sx (jW (i + 1)))) hA (cq_even hA (sx (jW (i + 1)))) (fun m hA => mq_even hA (sx (jW (i + 1))))
theorem kc_38 {sx : Int → Int} {L i : Int} {m : jMu} (hA : kA m) (h0 : 0 ≤ i) (h1 : i + 7 ≤ L) (h2 : L ≤ 3584) : ∃ o, f_case_38 sx L i m = some o ∧ kA o := by
  unfold f_case_38
  have g1 := g_ix (k := 1) h0 h1 h2 (by decide) (by decide)
  have g2 := g_ix (k := 2) h0 h1 h2 (by decide) (by decide)
  have g3 := g_ix (k := 3) h0 h1 h2 (by decide) (by decide)
  by_cases h : sx (jW (i + 3)) = 0
  · have h9 := eq_true h
    simp only [g1, g2, g3, if_true, h9]
    exact kq_case (Fx := f_L_peels (sx (jW (i + 1))) (sx (jW (i + 2))) 0) (Fm := f_X10_peels (sx (jW (i + 1))) (sx (jW (i + 2))) 0) (k := fun M => kPel M (sx (jW (i + 1))) (sx (jW (i + 2)))) (v := fun M => sPel M (sx (jW (i + 1))) (sx (jW (i + 2))) 0) hA (cq_peels hA (sx (jW (i + 1))) (sx (jW (i + 2))) 0) (fun m hA => mq_peels hA (sx (jW (i + 1))) (sx (jW (i + 2))) 0)
  · simp only [g1, g2, g3, if_true, h, if_false]
    exact kq_case (Fx := f_L_peels (sx (jW (i + 1))) (sx (jW (i + 2))) 1) (Fm := f_X10_peels (sx (jW (i + 1))) (sx (jW (i + 2))) 1) (k := fun M => kPel M (sx (jW (i + 1))) (sx (jW (i + 2)))) (v := fun M => sPel M (sx (jW (i + 1))) (sx (jW (i + 2))) 1) hA (cq_peels hA (sx (jW (i + 1))) (sx (jW (i + 2))) 1) (fun m hA => mq_peels hA (sx (jW (i + 1))) (sx (jW (i + 2))) 1)
theorem kc_39 {sx : Int → Int} {L i : Int} {m : jMu} (hA : kA m) (h0 : 0 ≤ i) (h1 : i + 7 ≤ L) (h2 : L ≤ 3584) : ∃ o, f_case_39 sx L i m = some o ∧ kA o := by
  unfold f_case_39
  have g1 := g_ix (k := 1) h0 h1 h2 (by decide) (by decide)
  simp only [g1, if_true]
  exact kq_case (Fx := f_L_worst (sx (jW (i + 1)))) (Fm := f_X10_worst (sx (jW (i + 1)))) (k := fun M => kWor (sx (jW (i + 1)))) (v := fun M => sWor M (sx (jW (i + 1)))) hA (cq_worst hA (sx (jW (i + 1)))) (fun m hA => mq_worst hA (sx (jW (i + 1))))
theorem kc_40 {sx : Int → Int} {L i : Int} {m : jMu} (hA : kA m) (h0 : 0 ≤ i) (h1 : i + 7 ≤ L) (h2 : L ≤ 3584) : ∃ o, f_case_40 sx L i m = some o ∧ kA o := by
  unfold f_case_40
  have g1 := g_ix (k := 1) h0 h1 h2 (by decide) (by decide)
  simp only [g1, if_true]
  exact kq_case (Fx := f_L_risk (sx (jW (i + 1)))) (Fm := f_X10_risk (sx (jW (i + 1)))) (k := fun M => kRisk M (sx (jW (i + 1)))) (v := fun M => sRisk M (sx (jW (i + 1)))) hA (cq_risk hA (sx (jW (i + 1)))) (fun m hA => mq_risk hA (sx (jW (i + 1))))
theorem kc_41 {sx : Int → Int} {L i : Int} {m : jMu} (hA : kA m) (h0 : 0 ≤ i) (h1 : i + 7 ≤ L) (h2 : L ≤ 3584) : ∃ o, f_case_41 sx L i m = some o ∧ kA o := by
  unfold f_case_41
  have g1 := g_ix (k := 1) h0 h1 h2 (by decide) (by decide)
  have g2 := g_ix (k := 2) h0 h1 h2 (by decide) (by decide)
  simp only [g1, g2, if_true]
  exact kq_case (Fx := f_L_match (sx (jW (i + 1))) (sx (jW (i + 2)))) (Fm := f_X10_match (sx (jW (i + 1))) (sx (jW (i + 2)))) (k := fun M => kMat (sx (jW (i + 1))) (sx (jW (i + 2)))) (v := fun M => sMat M (sx (jW (i + 1))) (sx (jW (i + 2)))) hA (cq_match hA (sx (jW (i + 1))) (sx (jW (i + 2)))) (fun m hA => mq_match hA (sx (jW (i + 1))) (sx (jW (i + 2))))
theorem kc_42 {sx : Int → Int} {L i : Int} {m : jMu} (hA : kA m) (h0 : 0 ≤ i) (h1 : i + 7 ≤ L) (h2 : L ≤ 3584) : ∃ o, f_case_42 sx L i m = some o ∧ kA o := by
  unfold f_case_42
  have g1 := g_ix (k := 1) h0 h1 h2 (by decide) (by decide)
  have g2 := g_ix (k := 2) h0 h1 h2 (by decide) (by decide)
  simp only [g1, g2, if_true]
  exact k_bolt hA (sx (jW (i + 1))) (sx (jW (i + 2)))
theorem kc_43 {sx : Int → Int} {L i : Int} {m : jMu} (hA : kA m) (h0 : 0 ≤ i) (h1 : i + 7 ≤ L) (h2 : L ≤ 3584) : ∃ o, f_case_43 sx L i m = some o ∧ kA o := by
  unfold f_case_43
  have g1 := g_ix (k := 1) h0 h1 h2 (by decide) (by decide)
  have g2 := g_ix (k := 2) h0 h1 h2 (by decide) (by decide)
  have g3 := g_ix (k := 3) h0 h1 h2 (by decide) (by decide)
  simp only [g1, g2, g3, if_true]
  exact kq_case (Fx := f_L_finds (sx (jW (i + 1))) (sx (jW (i + 2))) (sx (jW (i + 3)))) (Fm := f_X10_finds (sx (jW (i + 1))) (sx (jW (i + 2))) (sx (jW (i + 3)))) (k := fun M => kFin M (sx (jW (i + 1))) (sx (jW (i + 2))) (sx (jW (i + 3)))) (v := fun M => sFin M (sx (jW (i + 1))) (sx (jW (i + 2))) (sx (jW (i + 3)))) hA (cq_finds hA (sx (jW (i + 1))) (sx (jW (i + 2))) (sx (jW (i + 3)))) (fun m hA => mq_finds hA (sx (jW (i + 1))) (sx (jW (i + 2))) (sx (jW (i + 3))))
theorem kc_44 {sx : Int → Int} {L i : Int} {m : jMu} (hA : kA m) (h0 : 0 ≤ i) (h1 : i + 7 ≤ L) (h2 : L ≤ 3584) : ∃ o, f_case_44 sx L i m = some o ∧ kA o := by
  unfold f_case_44
  exact k_thick hA
theorem kc_45 {sx : Int → Int} {L i : Int} {m : jMu} (hA : kA m) (h0 : 0 ≤ i) (h1 : i + 7 ≤ L) (h2 : L ≤ 3584) : ∃ o, f_case_45 sx L i m = some o ∧ kA o := by
  unfold f_case_45
  exact k_image hA
theorem kc_46 {sx : Int → Int} {L i : Int} {m : jMu} (hA : kA m) (h0 : 0 ≤ i) (h1 : i + 7 ≤ L) (h2 : L ≤ 3584) : ∃ o, f_case_46 sx L i m = some o ∧ kA o := by
  unfold f_case_46
  exact k_back hA
theorem kc_47 {sx : Int → Int} {L i : Int} {m : jMu} (hA : kA m) (h0 : 0 ≤ i) (h1 : i + 7 ≤ L) (h2 : L ≤ 3584) : ∃ o, f_case_47 sx L i m = some o ∧ kA o := by
  unfold f_case_47
  have g1 := g_ix (k := 1) h0 h1 h2 (by decide) (by decide)
  simp only [g1, if_true]
  exact k_count hA (sx (jW (i + 1)))
theorem k_step {sx : Int → Int} {L i : Int} {m : jMu} (hA : kA m) (h0 : 0 ≤ i) (h1 : i + 7 ≤ L) (h2 : L ≤ 3584) : ∃ o, f_law_step sx L i m = some o ∧ kA o := by
  unfold f_law_step
  rw [if_pos (by omega)]
  by_cases c0 : jAn (sx i) 63 = 0
  · rw [if_pos c0]
    exact kc_0 hA h0 h1 h2
  rw [if_neg c0]
  by_cases c1 : jAn (sx i) 63 = 1
  · rw [if_pos c1]
    exact kc_1 hA h0 h1 h2
  rw [if_neg c1]
  by_cases c2 : jAn (sx i) 63 = 2
  · rw [if_pos c2]
    exact kc_2 hA h0 h1 h2
  rw [if_neg c2]
  by_cases c3 : jAn (sx i) 63 = 3
  · rw [if_pos c3]
    exact kc_3 hA h0 h1 h2
  rw [if_neg c3]
  by_cases c4 : jAn (sx i) 63 = 4
  · rw [if_pos c4]
    exact kc_4 hA h0 h1 h2
  rw [if_neg c4]
  by_cases c5 : jAn (sx i) 63 = 5
  · rw [if_pos c5]
    exact kc_5 hA h0 h1 h2
  rw [if_neg c5]
  by_cases c6 : jAn (sx i) 63 = 6
  · rw [if_pos c6]
    exact kc_6 hA h0 h1 h2
  rw [if_neg c6]
  by_cases c7 : jAn (sx i) 63 = 7
  · rw [if_pos c7]
    exact kc_7 hA h0 h1 h2
  rw [if_neg c7]
  by_cases c8 : jAn (sx i) 63 = 8
  · rw [if_pos c8]
    exact kc_8 hA h0 h1 h2
  rw [if_neg c8]
  by_cases c9 : jAn (sx i) 63 = 9
  · rw [if_pos c9]
    exact kc_9 hA h0 h1 h2
  rw [if_neg c9]
  by_cases c10 : jAn (sx i) 63 = 10
  · rw [if_pos c10]
    exact kc_10 hA h0 h1 h2
  rw [if_neg c10]
  by_cases c11 : jAn (sx i) 63 = 11
  · rw [if_pos c11]
    exact kc_11 hA h0 h1 h2
  rw [if_neg c11]
  by_cases c12 : jAn (sx i) 63 = 12
  · rw [if_pos c12]
    exact kc_12 hA h0 h1 h2
  rw [if_neg c12]
  by_cases c13 : jAn (sx i) 63 = 13
  · rw [if_pos c13]
    exact kc_13 hA h0 h1 h2
  rw [if_neg c13]
  by_cases c14 : jAn (sx i) 63 = 14
  · rw [if_pos c14]
    exact kc_14 hA h0 h1 h2
  rw [if_neg c14]
  by_cases c15 : jAn (sx i) 63 = 15
  · rw [if_pos c15]
    exact kc_15 hA h0 h1 h2
  rw [if_neg c15]
  by_cases c16 : jAn (sx i) 63 = 16
  · rw [if_pos c16]
    exact kc_16 hA h0 h1 h2
  rw [if_neg c16]
  by_cases c17 : jAn (sx i) 63 = 17
  · rw [if_pos c17]
    exact kc_17 hA h0 h1 h2
  rw [if_neg c17]
  by_cases c18 : jAn (sx i) 63 = 18
  · rw [if_pos c18]
    exact kc_18 hA h0 h1 h2
  rw [if_neg c18]
  by_cases c19 : jAn (sx i) 63 = 19
  · rw [if_pos c19]
    exact kc_19 hA h0 h1 h2
  rw [if_neg c19]
  by_cases c20 : jAn (sx i) 63 = 20
  · rw [if_pos c20]
    exact kc_20 hA h0 h1 h2
  rw [if_neg c20]
  by_cases c21 : jAn (sx i) 63 = 21
  · rw [if_pos c21]
    exact kc_21 hA h0 h1 h2
  rw [if_neg c21]
  by_cases c22 : jAn (sx i) 63 = 22
  · rw [if_pos c22]
    exact kc_22 hA h0 h1 h2
  rw [if_neg c22]
  by_cases c23 : jAn (sx i) 63 = 23
  · rw [if_pos c23]
    exact kc_23 hA h0 h1 h2
  rw [if_neg c23]
  by_cases c24 : jAn (sx i) 63 = 24
  · rw [if_pos c24]
    exact kc_24 hA h0 h1 h2
  rw [if_neg c24]
  by_cases c25 : jAn (sx i) 63 = 25
  · rw [if_pos c25]
    exact kc_25 hA h0 h1 h2
  rw [if_neg c25]
  by_cases c26 : jAn (sx i) 63 = 26
  · rw [if_pos c26]
    exact kc_26 hA h0 h1 h2
  rw [if_neg c26]
  by_cases c27 : jAn (sx i) 63 = 27
  · rw [if_pos c27]
    exact kc_27 hA h0 h1 h2
  rw [if_neg c27]
  by_cases c28 : jAn (sx i) 63 = 28
  · rw [if_pos c28]
    exact kc_28 hA h0 h1 h2
  rw [if_neg c28]
  by_cases c29 : jAn (sx i) 63 = 29
  · rw [if_pos c29]
    exact kc_29 hA h0 h1 h2
  rw [if_neg c29]
  by_cases c30 : jAn (sx i) 63 = 30
  · rw [if_pos c30]
    exact kc_30 hA h0 h1 h2
  rw [if_neg c30]
  by_cases c31 : jAn (sx i) 63 = 31
  · rw [if_pos c31]
    exact kc_31 hA h0 h1 h2
  rw [if_neg c31]
  by_cases c32 : jAn (sx i) 63 = 32
  · rw [if_pos c32]
    exact kc_32 hA h0 h1 h2
  rw [if_neg c32]
  by_cases c33 : jAn (sx i) 63 = 33
  · rw [if_pos c33]
    exact kc_33 hA h0 h1 h2
  rw [if_neg c33]
  by_cases c34 : jAn (sx i) 63 = 34
  · rw [if_pos c34]
    exact kc_34 hA h0 h1 h2
  rw [if_neg c34]
  by_cases c35 : jAn (sx i) 63 = 35
  · rw [if_pos c35]
    exact kc_35 hA h0 h1 h2
  rw [if_neg c35]
  by_cases c36 : jAn (sx i) 63 = 36
  · rw [if_pos c36]
    exact kc_36 hA h0 h1 h2
  rw [if_neg c36]
  by_cases c37 : jAn (sx i) 63 = 37
  · rw [if_pos c37]
    exact kc_37 hA h0 h1 h2
  rw [if_neg c37]
  by_cases c38 : jAn (sx i) 63 = 38
  · rw [if_pos c38]
    exact kc_38 hA h0 h1 h2
  rw [if_neg c38]
  by_cases c39 : jAn (sx i) 63 = 39
  · rw [if_pos c39]
    exact kc_39 hA h0 h1 h2
  rw [if_neg c39]
  by_cases c40 : jAn (sx i) 63 = 40
  · rw [if_pos c40]
    exact kc_40 hA h0 h1 h2
  rw [if_neg c40]
  by_cases c41 : jAn (sx i) 63 = 41
  · rw [if_pos c41]
    exact kc_41 hA h0 h1 h2
  rw [if_neg c41]
  by_cases c42 : jAn (sx i) 63 = 42
  · rw [if_pos c42]
    exact kc_42 hA h0 h1 h2
  rw [if_neg c42]
  by_cases c43 : jAn (sx i) 63 = 43
  · rw [if_pos c43]
    exact kc_43 hA h0 h1 h2
  rw [if_neg c43]
  by_cases c44 : jAn (sx i) 63 = 44
  · rw [if_pos c44]
    exact kc_44 hA h0 h1 h2
  rw [if_neg c44]
  by_cases c45 : jAn (sx i) 63 = 45
  · rw [if_pos c45]
    exact kc_45 hA h0 h1 h2
  rw [if_neg c45]
  by_cases c46 : jAn (sx i) 63 = 46
  · rw [if_pos c46]
    exact kc_46 hA h0 h1 h2
  rw [if_neg c46]
  by_cases c47 : jAn (sx i) 63 = 47
  · rw [if_pos c47]
    exact kc_47 hA h0 h1 h2
  rw [if_neg c47]
  exact ⟨m, rfl, hA⟩
/-- the law's loop -/
theorem k_loop {sx : Int → Int} {L : Int} (hL : 0 ≤ L ∧ L ≤ 3584) : ∀ (d q : Nat) (i : Int) (m : jMu), kA m → 0 ≤ i → i ≤ 4000 → L < i + 7 * (d : Int) + 7 → d < q → f_law_L sx L q i m = some () := by
  intro d
  induction d with
  | zero =>
    intro q i m _ h0 h1 h2 hq
    obtain ⟨q, rfl⟩ : ∃ t, q = t + 1 := ⟨q - 1, by omega⟩
    rw [f_law_L, jW_of (z := L - 7) (by omega) (by omega), if_pos (by omega)]
  | succ d ih =>
    intro q i m hA h0 h1 h2 hq
    obtain ⟨q, rfl⟩ : ∃ t, q = t + 1 := ⟨q - 1, by omega⟩
    rw [f_law_L, jW_of (z := L - 7) (by omega) (by omega)]
    by_cases g : L - 7 < i
    · rw [if_pos g]
    · obtain ⟨o, e1, hO⟩ := k_step (sx := sx) hA h0 (show i + 7 ≤ L by omega) hL.2
      rw [if_neg g, e1, Option.bind_some, jW_of (z := i + 7) (by omega) (by omega)]
      exact ih q (i + 7) o hO (by omega) (by omega) (by omega) (by omega)
theorem k_pure : jPure := by
  intro L sx h0 h1 _
  obtain ⟨o, e1, hA⟩ := k_start
  exact ⟨o, e1, k_loop ⟨h0, h1⟩ 512 513 0 o hA (Int.le_refl _) (by decide) (by omega) (by decide)⟩
