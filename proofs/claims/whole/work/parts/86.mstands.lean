/-! LEVEL 2: the reference stands at a bay at a moment -/
def es (m : jMu) (dy hr wi he hi si wt tr ne : Int) : jMu := fun c j => if c = 78 then (if j = 0 then dy else if j = 1 then hr else if j = 2 then wi else if j = 3 then he else if j = 4 then hi else if j = 5 then si else m 78 j) else if c = 74 then (if j = 12 then wt else if j = 13 then tr else if j = 14 then ne else m 74 j) else m c j
section LINE
variable {m : jMu} {dy hr wi he hi si wt tr ne v : Int}
theorem es_75 : es m dy hr wi he hi si wt tr ne 75 = m 75 := rfl
theorem es_12 : es m dy hr wi he hi si wt tr ne 74 12 = wt := rfl
theorem es_13 : es m dy hr wi he hi si wt tr ne 74 13 = tr := rfl
theorem es_14 : es m dy hr wi he hi si wt tr ne 74 14 = ne := rfl
theorem es_u12 : jup (es m dy hr wi he hi si wt tr ne) 74 12 v = es m dy hr wi he hi si v tr ne := by
  funext c j
  unfold jup es
  by_cases hc : c = 74
  · subst hc
    by_cases hj : j = 12
    · subst hj; rfl
    · simp only [hj, and_false, if_false]
  · simp only [hc, false_and, if_false]
theorem es_u13 : jup (es m dy hr wi he hi si wt tr ne) 74 13 v = es m dy hr wi he hi si wt v ne := by
  funext c j
  unfold jup es
  by_cases hc : c = 74
  · subst hc
    by_cases hj : j = 13
    · subst hj; rfl
    · simp only [hj, and_false, if_false]
  · simp only [hc, false_and, if_false]
theorem es_u14 : jup (es m dy hr wi he hi si wt tr ne) 74 14 v = es m dy hr wi he hi si wt tr v := by
  funext c j
  unfold jup es
  by_cases hc : c = 74
  · subst hc
    by_cases hj : j = 14
    · subst hj; rfl
    · simp only [hj, and_false, if_false]
  · simp only [hc, false_and, if_false]
theorem es_u2 : jup (es m dy hr wi he hi si wt tr ne) 78 2 v = es m dy hr v he hi si wt tr ne := by
  funext c j
  unfold jup es
  by_cases hc : c = 78
  · subst hc
    by_cases hj : j = 2
    · subst hj; rfl
    · simp only [hj, and_false, if_false]
  · simp only [hc, false_and, if_false]
theorem es_u3 : jup (es m dy hr wi he hi si wt tr ne) 78 3 v = es m dy hr wi v hi si wt tr ne := by
  funext c j
  unfold jup es
  by_cases hc : c = 78
  · subst hc
    by_cases hj : j = 3
    · subst hj; rfl
    · simp only [hj, and_false, if_false]
  · simp only [hc, false_and, if_false]
/-- what the reference gathers of nests is the class's -/
def sNeG (M : Int → Int) (bay d : Int) (k s : Int) : Int := if s = 0 then (if M (324 + 3 * k) = bay ∧ M (324 + 3 * k + 1) ≤ d ∧ d ≤ M (324 + 3 * k + 2) then 1 else 0) else 1
theorem sNeG_1 (M : Int → Int) (bay d : Int) : ∀ (n : Nat) (i : Int), itn (sNeG M bay d) n i 1 = 1 := by
  intro n
  induction n with
  | zero => intro i; rfl
  | succ n ih => intro i; exact ih (i + 1)
theorem sNeG_0 (M : Int → Int) (bay d : Int) : ∀ (n : Nat) (i : Int), itn (sNeG M bay d) n i 0 = itx (sNeF M bay d) (fun _ => 0) n i () := by
  intro n
  induction n with
  | zero => intro i; rfl
  | succ n ih =>
    intro i
    have e1 : itn (sNeG M bay d) (n + 1) i 0 = itn (sNeG M bay d) n (i + 1) (sNeG M bay d i 0) := rfl
    rw [e1]
    unfold itx
    unfold sNeG sNeF
    rw [if_pos rfl]
    by_cases h : M (324 + 3 * i) = bay ∧ M (324 + 3 * i + 1) ≤ d ∧ d ≤ M (324 + 3 * i + 2)
    · rw [if_pos h, if_pos h]; exact sNeG_1 M bay d n (i + 1)
    · rw [if_neg h, if_neg h]; exact ih (i + 1)
theorem m_nestL {mm : jMu} (C : kC mm 0 (m 75)) {bay d : Int} : f_X10_stands_L246 jFU bay d 0 (es m dy hr wi he hi si wt tr 0) = some (es m dy hr wi he hi si wt tr (sNe (m 75) bay d)) := by
  have hn := C.n
  unfold sNe
  rw [← sNeG_0]
  refine (itn_loop (L := fun q i s => f_X10_stands_L246 q bay d i (es m dy hr wi he hi si wt tr s)) (sNeG (m 75) bay d) (fun s => es m dy hr wi he hi si wt tr s) (fun _ _ => True) (lo := 0) (n := m 75 4) ?_ ?_ (m 75 4).toNat jFU 0 0 (by omega) (by omega) (by unfold jFU; omega) trivial).1
  · intro q i s h0 h1 _
    refine ⟨?_, trivial⟩
    show f_X10_stands_L246 (q + 1) bay d i (es m dy hr wi he hi si wt tr s) = _
    rw [f_X10_stands_L246]
    simp (disch := omega) only [mIsIn, mDay, mHour, mMoment, Option.bind_some, ite01, ite01o, ite01p, ite00, ite10, jlt_eq, jup_s, le00, le10, le20, le30, if_true, if_false, Int.reduceLE, Int.reduceLT, es_75, es_14, es_u14, if_neg (show ¬ m 75 4 ≤ i by omega), jW_of, if_pos]
    unfold sNeG
    by_cases hs : s = 0
    · rw [if_pos hs, if_pos hs]
      by_cases g : m 75 (324 + 3 * i) = bay
      · rw [if_pos g]
        by_cases g2 : m 75 (324 + 3 * i + 1) ≤ d ∧ d ≤ m 75 (324 + 3 * i + 2)
        · rw [if_pos g2, if_pos ⟨g, g2⟩]
        · rw [if_neg g2, if_neg (fun z => g2 z.2)]
      · rw [if_neg g, if_neg (fun z => g z.1)]
    · rw [if_neg hs, if_neg hs]
  · intro q s _
    show f_X10_stands_L246 (q + 1) bay d (m 75 4) (es m dy hr wi he hi si wt tr s) = _
    rw [f_X10_stands_L246, es_75, if_pos (Int.le_refl _)]
theorem m_skyL {mm : jMu} (C : kC mm 0 (m 75)) {bay d h : Int} : f_X10_stands_L73 jFU bay d h 0 (es m dy hr 0 10 hi si 0 tr ne) = some (es m dy hr (sSk (m 75) d h).2.1 (sSk (m 75) d h).2.2 hi si (sSk (m 75) d h).1 (sTr (m 75) d h) (sNe (m 75) bay d)) := by
  have hn := C.n
  unfold sSk
  refine (itn_loop (L := fun q i (s : Int × Int × Int) => f_X10_stands_L73 q bay d h i (es m dy hr s.2.1 s.2.2 hi si s.1 tr ne)) (sSkF (m 75) d h) (fun s => es m dy hr s.2.1 s.2.2 hi si s.1 (sTr (m 75) d h) (sNe (m 75) bay d)) (fun _ _ => True) (lo := 0) (n := m 75 1) ?_ ?_ (m 75 1).toNat jFU 0 (0, 0, 10) (by omega) (by omega) (by unfold jFU; omega) trivial).1
  · intro q i s h0 h1 _
    refine ⟨?_, trivial⟩
    have hR := (C.1 1 (by decide)).2 i h0 h1
    show f_X10_stands_L73 (q + 1) bay d h i (es m dy hr s.2.1 s.2.2 hi si s.1 tr ne) = _
    rw [f_X10_stands_L73]
    simp (disch := omega) only [mIsIn, mDay, mHour, mMoment, Option.bind_some, ite01, ite01o, ite01p, ite00, ite10, jlt_eq, jup_s, le00, le10, le20, le30, if_true, if_false, Int.reduceLE, Int.reduceLT, es_75, es_u12, es_u2, es_u3, if_neg (show ¬ m 75 1 ≤ i by omega), jW_of, if_pos]
    by_cases g : m 75 (92 + 7 * i) ≤ d ∧ d ≤ m 75 (92 + 7 * i + 1)
    · rw [if_pos g]
      by_cases g2 : m 75 (92 + 7 * i + 2) ≤ h ∧ h ≤ m 75 (92 + 7 * i + 3)
      · have E : sSkF (m 75) d h i s = (m 75 (92 + 7 * i + 4), m 75 (92 + 7 * i + 5), m 75 (92 + 7 * i + 6)) := by
          unfold sSkF
          exact if_pos ⟨g, g2⟩
        rw [if_pos g2, E]
        by_cases g3 : m 75 (92 + 7 * i + 4) = 1
        · rw [if_pos g3, g3]
        · rw [if_neg g3, show m 75 (92 + 7 * i + 4) = 0 by omega]
      · have E : sSkF (m 75) d h i s = s := by
          unfold sSkF
          exact if_neg (fun z => g2 z.2)
        rw [if_neg g2, E]
    · have E : sSkF (m 75) d h i s = s := by
        unfold sSkF
        exact if_neg (fun z => g z.1)
      rw [if_neg g, E]
  · intro q s _
    show f_X10_stands_L73 (q + 1) bay d h (m 75 1) (es m dy hr s.2.1 s.2.2 hi si s.1 tr ne) = _
    rw [f_X10_stands_L73, es_75, if_pos (Int.le_refl _)]
    have hH : f_X10_isHad d (es m dy hr s.2.1 s.2.2 hi si s.1 tr ne) = some (sAny (m 75) 302 2 d) := by
      have C' : kC mm 0 (es m dy hr s.2.1 s.2.2 hi si s.1 tr ne 75) := C
      exact m_had C'
    unfold sTr
    simp only [hH, Option.bind_some, jlt_eq, es_u13, es_u14, m_nestL C]
    by_cases g : jAn (jSr (m 75 12) h) 1 = 1
    · rw [if_pos g]
      by_cases g2 : sAny (m 75) 302 2 d = 0
      · rw [if_pos g2, if_pos ⟨g, g2⟩]
      · rw [if_neg g2, if_neg (fun z => g2 z.2)]
    · rw [if_neg g, if_neg (fun z => g z.1)]
theorem m_stands {mm : jMu} (C : kC mm 0 (m 75)) {bay mo : Int} (hb : 0 ≤ bay ∧ bay < m 75 0) (hm : 0 ≤ mo ∧ mo < 2400) : f_X10_stands bay mo m = some (es m (mo / 12) (mo % 12) (sSk (m 75) (mo / 12) (mo % 12)).2.1 (sSk (m 75) (mo / 12) (mo % 12)).2.2 (m 75 (20 + 9 * bay + 1)) (m 75 (20 + 9 * bay)) (sSk (m 75) (mo / 12) (mo % 12)).1 (sTr (m 75) (mo / 12) (mo % 12)) (sNe (m 75) bay (mo / 12))) := by
  have hn := C.n
  have e1 : jDv mo 12 = mo / 12 := xdv hm.1 (by omega) (by decide)
  have e2 : jRm mo 12 = mo % 12 := xrm hm.1 (by decide) (by decide)
  unfold f_X10_stands
  rw [e1, e2]
  simp (disch := omega) only [jlt_eq, mOfBay, Option.bind_some, jup_c, Int.add_zero]
  have e0 : jup (jup (jup (jup (jup (jup (jup m 78 0 (mo / 12)) 78 1 (mo % 12)) 78 2 0) 78 3 10) 78 4 (m 75 (20 + 9 * bay + 1))) 78 5 (m 75 (20 + 9 * bay))) 74 12 0 = es m (mo / 12) (mo % 12) 0 10 (m 75 (20 + 9 * bay + 1)) (m 75 (20 + 9 * bay)) 0 (m 74 13) (m 74 14) := by
    funext c j
    unfold jup es
    by_cases hc : c = 78
    · subst hc
      by_cases h5 : j = 5
      · subst h5; rfl
      by_cases h4 : j = 4
      · subst h4; rfl
      by_cases h3 : j = 3
      · subst h3; rfl
      by_cases h2 : j = 2
      · subst h2; rfl
      by_cases h1 : j = 1
      · subst h1; rfl
      by_cases h0 : j = 0
      · subst h0; rfl
      simp only [h0, h1, h2, h3, h4, h5, and_false, if_false, if_true]
      rfl
    · by_cases hc2 : c = 74
      · subst hc2
        by_cases h2 : j = 12
        · subst h2; rfl
        by_cases h3 : j = 13
        · subst h3; rfl
        by_cases h4 : j = 14
        · subst h4; rfl
        simp only [h2, h3, h4, and_false, if_false, if_true]
        rfl
      · simp only [hc, hc2, false_and, if_false]
  rw [e0]
  exact m_skyL C
end LINE
