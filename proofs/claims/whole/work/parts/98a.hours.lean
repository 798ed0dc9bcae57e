/-! LEVEL 2: the call at, the reference's side -/
theorem m_asked {m' : jMu} {M : Int → Int} {t bay mo w : Int} (P : mP m' M t bay mo (sT M mo)) (S : (sSk M (mo / 12) (mo % 12)).1 = 0 ∨ (sSk M (mo / 12) (mo % 12)).1 = 1) : (if w = 0 then some (m' 74 16, m') else (if w = 1 then some (m' 74 17, m') else (if w = 2 then some (m' 74 18, m') else (if w = 3 then some (m' 78 2, m') else (if w = 4 then some (m' 78 3, m') else (if w = 5 then (if m' 74 12 = 0 then some (0, m') else some (1, m')) else (if w = 6 then (if m' 74 13 = 0 then some (0, m') else some (1, m')) else (if m' 74 14 = 0 then some (0, m') else some (1, m'))))))))) = some (sAt M t bay mo w, m') := by
  obtain ⟨p12, p13, p14, p15, p16, p17, p18, q2, q3, q4⟩ := P
  rw [p12, p13, p14, p16, p17, p18, q2, q3]
  have T : sT M mo = 0 ∨ sT M mo = 1 := sTr_01 _ _ _
  have N := sNe_01 M bay (mo / 12)
  unfold sAt
  by_cases h0 : w = 0
  · rw [if_pos h0, if_pos h0]
  rw [if_neg h0, if_neg h0]
  by_cases h1 : w = 1
  · rw [if_pos h1, if_pos h1]
  rw [if_neg h1, if_neg h1]
  by_cases h2 : w = 2
  · rw [if_pos h2, if_pos h2]
  rw [if_neg h2, if_neg h2]
  by_cases h3 : w = 3
  · rw [if_pos h3, if_pos h3]
  rw [if_neg h3, if_neg h3]
  by_cases h4 : w = 4
  · rw [if_pos h4, if_pos h4]
  rw [if_neg h4, if_neg h4]
  by_cases h5 : w = 5
  · rw [if_pos h5, if_pos h5]
    rcases S with g | g
    · rw [g, if_pos rfl]
    · rw [g, if_neg (by decide)]
  rw [if_neg h5, if_neg h5]
  by_cases h6 : w = 6
  · rw [if_pos h6, if_pos h6]
    rcases T with g | g
    · rw [g, if_pos rfl]
    · rw [g, if_neg (by decide)]
  rw [if_neg h6, if_neg h6]
  rcases N with g | g
  · rw [g, if_pos rfl]
  · rw [g, if_neg (by decide)]
theorem mq_at {m : jMu} (hA : kA m) (t bay d h w : Int) : mQ (f_X10_at t bay d h w m) m (kAt (m 75) t bay d h w) (sAt (m 75) t bay (12 * d + h) w) := by
  have hn := hA.1.n
  have hA' := kA_fM hA (fM.thr m 0)
  have e75 : jup m 74 0 0 75 = m 75 := jup_c (by decide)
  unfold f_X10_at f_X10_at_J32 f_X10_at_J52 kAt
  by_cases h1 : 0 ≤ t ∧ t < m 75 5
  · by_cases h2 : 0 ≤ bay ∧ bay < m 75 0
    · by_cases h3 : 0 ≤ d ∧ d ≤ 199
      · by_cases h4 : 0 ≤ h ∧ h ≤ 11
        · by_cases h5 : 0 ≤ w ∧ w ≤ 7
          · have ej : jW (jW (12 * d) + h) = 12 * d + h := by rw [jW_of (z := 12 * d) (by omega) (by omega), jW_of (by omega) (by omega)]
            simp only [mIsIn, mDay, mHour, mMoment, Option.bind_some, ite01, ite01o, ite01p, ite00, ite10, jlt_eq, jup_s, le00, le10, le20, le30, if_true, if_false, Int.reduceLE, Int.reduceLT, mTerms _ hn.2.2.2.2.2.1, mBay _ hn.1, h1, h2, h3, h4, h5, and_self, ej]
            have s1 := m_stands hA'.1 (bay := bay) (mo := 12 * d + h) (by rw [e75]; exact h2) (by omega)
            obtain ⟨m', w1, w2, w3, w4, w5⟩ := m_asksE hA'.1 (t := t) (bay := bay) (mo := 12 * d + h) (tr := sTr (jup m 74 0 0 75) ((12 * d + h) / 12) ((12 * d + h) % 12)) (by rw [e75]; exact h1) (by rw [e75]; exact h2) (by omega) (sTr_01 _ _ _)
            rw [s1, Option.bind_some, w1, Option.bind_some]
            rw [e75] at w3
            refine ⟨_, m', m_asked (bay := bay) w3 (sSk_b hA.1 _ _).1, (fM.thr m 0).tr w2, by rw [w5, jup_s], fun _ => rfl⟩
          · simp only [mIsIn, mDay, mHour, mMoment, Option.bind_some, ite01, ite01o, ite01p, ite00, ite10, jlt_eq, jup_s, le00, le10, le20, le30, if_true, if_false, Int.reduceLE, Int.reduceLT, mTerms _ hn.2.2.2.2.2.1, mBay _ hn.1, h1, h2, h3, h4, h5, and_self, and_false, and_true, true_and]
            exact mQ_thr (by decide)
        · simp only [mIsIn, mDay, mHour, mMoment, Option.bind_some, ite01, ite01o, ite01p, ite00, ite10, jlt_eq, jup_s, le00, le10, le20, le30, if_true, if_false, Int.reduceLE, Int.reduceLT, mTerms _ hn.2.2.2.2.2.1, mBay _ hn.1, h1, h2, h3, h4, and_self, and_false, and_true, true_and]
          exact mQ_thr (by decide)
      · simp only [mIsIn, mDay, mHour, mMoment, Option.bind_some, ite01, ite01o, ite01p, ite00, ite10, jlt_eq, jup_s, le00, le10, le20, le30, if_true, if_false, Int.reduceLE, Int.reduceLT, mTerms _ hn.2.2.2.2.2.1, mBay _ hn.1, h1, h2, h3, and_self, and_false, false_and, and_true, true_and]
        exact mQ_thr (by decide)
    · simp only [mIsIn, mDay, mHour, mMoment, Option.bind_some, ite01, ite01o, ite01p, ite00, ite10, jlt_eq, jup_s, le00, le10, le20, le30, if_true, if_false, Int.reduceLE, Int.reduceLT, mTerms _ hn.2.2.2.2.2.1, mBay _ hn.1, h1, h2, and_self, and_false, false_and, and_true, true_and]
      exact mQ_thr (by decide)
  · simp only [mIsIn, mDay, mHour, mMoment, Option.bind_some, ite01, ite01o, ite01p, ite00, ite10, jlt_eq, jup_s, le00, le10, le20, le30, if_true, if_false, Int.reduceLE, Int.reduceLT, mTerms _ hn.2.2.2.2.2.1, mBay _ hn.1, h1, false_and]
    exact mQ_thr (by decide)
/-! loops that write scratch -/
theorem itq_loop {σ β : Type} {L : Nat → Int → σ → jMu → Option β} (f : Int → σ → σ) (R : σ → jMu → β) (I : jMu → Prop) (P : Int → σ → Prop) {lo n : Int}
    (hs : ∀ q i s m, lo ≤ i → i < n → P i s → I m → ∃ m', I m' ∧ P (i + 1) (f i s) ∧ L (q + 1) i s m = L q (i + 1) (f i s) m')
    (he : ∀ q s m, P n s → I m → L (q + 1) n s m = some (R s m)) : ∀ (d q : Nat) (i : Int) (s : σ) (m : jMu), lo ≤ i → i + d = n → d < q → P i s → I m → ∃ m', I m' ∧ L q i s m = some (R (itn f d i s) m') ∧ P n (itn f d i s) := by
  intro d
  induction d with
  | zero =>
    intro q i s m h0 h1 h2 hP hI
    obtain ⟨q, rfl⟩ : ∃ p, q = p + 1 := ⟨q - 1, by omega⟩
    have : i = n := by omega
    subst this
    exact ⟨m, hI, he q s m hP hI, hP⟩
  | succ d ih =>
    intro q i s m h0 h1 h2 hP hI
    obtain ⟨q, rfl⟩ : ∃ p, q = p + 1 := ⟨q - 1, by omega⟩
    obtain ⟨m', a, b, c⟩ := hs q i s m h0 (by omega) hP hI
    rw [c]
    exact ih q (i + 1) _ m' (by omega) (by omega) (by omega) b a
/-- what the class's scratch leaves -/
def iC (m0 m : jMu) : Prop := ∀ c, c ≠ 32 → m c = m0 c
theorem iC.rf (m : jMu) : iC m m := fun _ _ => rfl
theorem iC.tr {a b c : jMu} (h : iC a b) (g : iC b c) : iC a c := fun x h1 => (g x h1).trans (h x h1)
theorem iC.kC {m0 m : jMu} {M : Int → Int} (h : iC m0 m) (C : kC m0 0 M) : kC m 0 M := cl_C C h
theorem iC.fC {m0 m : jMu} (h : iC m0 m) : fC m0 m := fun c h1 _ => h c h1
/-! an hour lost to a train -/
theorem clP_tr {m : jMu} {M : Int → Int} {bay mo tr v : Int} (P : clP m M bay mo tr) : clP (jup m 32 3 v) M bay mo v := by
  obtain ⟨p1, p2, p3, p4, p5, p6, p7, p8, p9, p10⟩ := P
  refine ⟨?_, ?_, jup_s, ?_, ?_, ?_, ?_, ?_, ?_, ?_⟩
  all_goals (rw [jup_j (by decide)]; assumption)
theorem sWhy_0 {M : Int → Int} {t bay mo tr : Int} : sWhy M t bay mo tr = 0 ↔ (xStop (sEn M bay mo tr) 0 (xTx M t.toNat) = -1 ∧ sAny M 314 3 (mo / 12) = 0) := by
  have hb2 := xStop_b (sEn M bay mo tr) (xTx M t.toNat) 0 (Int.le_refl _)
  unfold sWhy
  by_cases g : sAny M 314 3 (mo / 12) = 0
  · rw [if_pos g]
    by_cases g2 : xStop (sEn M bay mo tr) 0 (xTx M t.toNat) = -1
    · rw [if_pos g2]; exact ⟨fun _ => ⟨g2, g⟩, fun _ => rfl⟩
    · rw [if_neg g2]; exact ⟨fun z => by omega, fun z => (g2 z.1).elim⟩
  · rw [if_neg g]; exact ⟨fun z => by omega, fun z => (g z.2).elim⟩
theorem sLo_01 (M : Int → Int) (t bay mo : Int) : sLo M t bay mo = 0 ∨ sLo M t bay mo = 1 := by
  unfold sLo
  split
  · exact Or.inr rfl
  · exact Or.inl rfl
theorem c_lost {m : jMu} {M : Int → Int} (C : kC m 0 M) {t bay mo : Int} (P : clP m M bay mo (sT M mo)) (ht : 0 ≤ t ∧ t < M 5) (hb : 0 ≤ bay ∧ bay < M 0) (hm : 0 ≤ mo ∧ mo < 2400) : ∃ m', f_X1_isLost t m = some (sLo M t bay mo, m') ∧ iC m m' ∧ clP m' M bay mo (sT M mo) := by
  have T : sT M mo = 0 ∨ sT M mo = 1 := sTr_01 _ _ _
  have W := c_why C P ht hb hm T
  have P0 := clP_tr (v := 0) P
  have W0 := c_why (kC_32 C) P0 ht hb hm (Or.inl rfl)
  unfold f_X1_isLost sLo
  rw [P.2.2.1]
  by_cases g0 : sT M mo = 0
  · rw [if_pos g0, if_neg (fun z => by omega)]
    exact ⟨m, rfl, iC.rf m, P⟩
  · have g1 : sT M mo = 1 := by omega
    rw [if_neg g0, W, Option.bind_some]
    by_cases g2 : sWhy M t bay mo (sT M mo) = 0
    · rw [if_pos g2, if_neg (fun z => z.1 g2)]
      exact ⟨m, rfl, iC.rf m, P⟩
    · rw [if_neg g2, jlt_eq, W0, Option.bind_some]
      have P1 := clP_tr (v := 1) P0
      have fr : iC m (jup (jup m 32 3 0) 32 3 1) := fun c hc => by rw [jup_c hc, jup_c hc]
      rw [← g1] at P1
      by_cases g3 : sWhy M t bay mo 0 = 0
      · have := sWhy_0.mp g3
        rw [if_pos g3, if_pos ⟨g2, g1, this.1, this.2⟩, jlt_eq]
        refine ⟨_, rfl, fr, ?_⟩
        rw [g1] at P1
        rw [g1]
        exact P1
      · rw [if_neg g3, if_neg (fun z => g3 (sWhy_0.mpr ⟨z.2.2.1, z.2.2.2⟩)), jlt_eq]
        refine ⟨_, rfl, fr, ?_⟩
        rw [g1] at P1
        rw [g1]
        exact P1
theorem m_lost {m mm : jMu} (C : kC mm 0 (m 75)) {t bay mo : Int} (ht : 0 ≤ t ∧ t < m 75 5) (hb : 0 ≤ bay ∧ bay < m 75 0) (hm : 0 ≤ mo ∧ mo < 2400) : ∃ m', f_X10_isLost t bay mo m = some (sLo (m 75) t bay mo, m') ∧ fM m m' ∧ m' 74 0 = m 74 0 ∧ (sLo (m 75) t bay mo = 1 → m' 74 18 = xLast (sEn (m 75) bay mo (sT (m 75) mo)) 103 0 (xTx (m 75) t.toNat)) := by
  have T : sT (m 75) mo = 0 ∨ sT (m 75) mo = 1 := sTr_01 _ _ _
  obtain ⟨m1, e1, e2, e3, e4, e5⟩ := m_why C ht hb hm
  have e75 : m1 75 = m 75 := e2.1 75 (by decide) (by decide)
  unfold f_X10_isLost sLo
  rw [e1, Option.bind_some]
  by_cases g2 : sWhy (m 75) t bay mo (sT (m 75) mo) = 0
  · rw [if_pos g2, if_neg (fun z => z.1 g2)]
    exact ⟨m1, rfl, e2, e5, fun h => by omega⟩
  · rw [if_neg g2]
    show ∃ m', (if m1 74 13 = 0 then some (0, m1) else _) = _ ∧ _
    rw [e3.2.1]
    by_cases g0 : sT (m 75) mo = 0
    · rw [if_pos g0, if_neg (fun z => by omega)]
      exact ⟨m1, rfl, e2, e5, fun h => by omega⟩
    · have g1 : sT (m 75) mo = 1 := by omega
      rw [if_neg g0, jlt_eq]
      have hes : jup m1 74 13 0 = es (jup m1 74 13 0) (mo / 12) (mo % 12) (sSk (m1 75) (mo / 12) (mo % 12)).2.1 (sSk (m1 75) (mo / 12) (mo % 12)).2.2 (m1 75 (20 + 9 * bay + 1)) (m1 75 (20 + 9 * bay)) (sSk (m1 75) (mo / 12) (mo % 12)).1 0 (sNe (m1 75) bay (mo / 12)) := by
        funext c j
        unfold es
        by_cases hc : c = 78
        · subst hc
          rw [if_pos rfl, jup_c (by decide), e4 78 (by decide), e75]
          unfold es
          rw [if_pos rfl]
          repeat' split
          all_goals rfl
        · rw [if_neg hc]
          by_cases hc2 : c = 74
          · subst hc2
            rw [if_pos rfl]
            by_cases h2 : j = 12
            · subst h2; rw [if_pos rfl, jup_j (by decide), e3.1, e75]
            rw [if_neg h2]
            by_cases h3 : j = 13
            · subst h3; rw [if_pos rfl, jup_s]
            rw [if_neg h3]
            by_cases h4 : j = 14
            · subst h4; rw [if_pos rfl, jup_j (by decide), e3.2.2.1, e75]
            rw [if_neg h4]
          · rw [if_neg hc2]
      have f1 : fM m (jup m1 74 13 0) := e2.tr ⟨fun c h1 _ => jup_c h1, jup_j (by decide), jup_j (by decide), jup_j (by decide), fun h => ⟨by rw [jup_j (by decide)]; exact h.1, Or.inl jup_s, by rw [jup_j (by decide)]; exact h.2.2.1, by rw [jup_c (by decide)]; exact h.2.2.2⟩⟩
      have f75 : jup m1 74 13 0 75 = m 75 := by rw [jup_c (by decide), e75]
      have C1 : kC mm 0 (jup m1 74 13 0 75) := by
        rw [f75]
        exact C
      obtain ⟨m2, a1, a2, a3, a4, a5⟩ := m_asksE C1 (t := t) (bay := bay) (mo := mo) (tr := 0) (by rw [f75]; exact ht) (by rw [f75]; exact hb) hm (Or.inl rfl)
      rw [f75, ← e75, ← hes] at a1
      have b75 : m2 75 = m 75 := (a2.1 75 (by decide) (by decide)).trans f75
      have C2 : kC mm 0 (m2 75) := by
        rw [b75]
        exact C
      have S := m_str C2 (d := mo / 12)
      rw [b75] at S
      rw [a1, Option.bind_some, a3.2.2.2.1, f75, xdv hm.1 (by omega) (by decide), S, Option.bind_some]
      have K : fM m (jup m2 74 18 (m1 74 18)) := (f1.tr a2).tr ⟨fun c h1 _ => jup_c h1, jup_j (by decide), jup_j (by decide), jup_j (by decide), pE_cg (jup_j (by decide)) (jup_j (by decide)) (jup_j (by decide)) (jup_c (by decide))⟩
      have K0 : jup m2 74 18 (m1 74 18) 74 0 = m 74 0 := by rw [jup_j (by decide), a5, jup_j (by decide), e5]
      by_cases g3 : xStop (sEn (m 75) bay mo 0) 0 (xTx (m 75) t.toNat) = -1
      · rw [if_pos g3]
        by_cases g4 : sAny (m 75) 314 3 (mo / 12) = 0
        · rw [if_pos g4, if_pos ⟨g2, g1, g3, g4⟩, jlt_eq]
          exact ⟨_, rfl, K, K0, fun _ => by rw [jup_s]; exact e3.2.2.2.2.2.2.1⟩
        · rw [if_neg g4, if_neg (fun z => g4 z.2.2.2), jlt_eq]
          exact ⟨_, rfl, K, K0, fun h => by omega⟩
      · rw [if_neg g3, if_neg (fun z => g3 z.2.2.1), jlt_eq]
        exact ⟨_, rfl, K, K0, fun h => by omega⟩
/-! hours -/
def sHr (M : Int → Int) (t bay w mo : Int) : Int := if w = 0 then (if sWhy M t bay mo (sT M mo) = 0 then 1 else 0) else if w = 1 then (if sWhy M t bay mo (sT M mo) = 0 then 0 else 1) else if w = 2 then sLo M t bay mo else if sLo M t bay mo = 0 then 0 else xLast (sEn M bay mo (sT M mo)) 103 0 (xTx M t.toNat)
theorem c_pay {m : jMu} {M : Int → Int} (C : kC m 0 M) {t bay mo tr : Int} (P : clP m M bay mo tr) (ht : 0 ≤ t ∧ t < M 5) (hb : 0 ≤ bay ∧ bay < M 0) (hm : 0 ≤ mo ∧ mo < 2400) (htr : tr = 0 ∨ tr = 1) : f_X1_payHere t m = some (xLast (sEn M bay mo tr) 103 0 (xTx M t.toNat)) := by
  unfold f_X1_payHere
  rw [c_num C P ht hb hm htr]
  rfl
theorem c_dry {m : jMu} {M : Int → Int} (C : kC m 0 M) {t bay mo tr : Int} (P : clP m M bay mo tr) (ht : 0 ≤ t ∧ t < M 5) (hb : 0 ≤ bay ∧ bay < M 0) (hm : 0 ≤ mo ∧ mo < 2400) (htr : tr = 0 ∨ tr = 1) : f_X1_dryHere t m = some (xLast (sEn M bay mo tr) 101 0 (xTx M t.toNat)) := by
  unfold f_X1_dryHere
  rw [c_num C P ht hb hm htr]
  rfl
theorem c_holds {m : jMu} {M : Int → Int} (C : kC m 0 M) {t bay mo tr : Int} (P : clP m M bay mo tr) (ht : 0 ≤ t ∧ t < M 5) (hb : 0 ≤ bay ∧ bay < M 0) (hm : 0 ≤ mo ∧ mo < 2400) (htr : tr = 0 ∨ tr = 1) : f_X1_holdHere t m = some (xLast (sEn M bay mo tr) 102 30 (xTx M t.toNat)) := by
  unfold f_X1_holdHere
  rw [c_num C P ht hb hm htr]
  rfl
theorem c_hour {m : jMu} {M : Int → Int} (C : kC m 0 M) {t bay w mo : Int} (P : clP m M bay mo (sT M mo)) (ht : 0 ≤ t ∧ t < M 5) (hb : 0 ≤ bay ∧ bay < M 0) (hm : 0 ≤ mo ∧ mo < 2400) : ∃ m', f_X1_countHere t w m = some (sHr M t bay w mo, m') ∧ iC m m' := by
  have W := c_why C P ht hb hm (sTr_01 _ _ _)
  unfold f_X1_countHere sHr
  by_cases h0 : w = 0
  · rw [if_pos h0, if_pos h0, W, Option.bind_some]
    refine ⟨m, ?_, iC.rf m⟩
    split <;> rfl
  rw [if_neg h0, if_neg h0]
  by_cases h1 : w = 1
  · rw [if_pos h1, if_pos h1, W, Option.bind_some]
    refine ⟨m, ?_, iC.rf m⟩
    split <;> rfl
  rw [if_neg h1, if_neg h1]
  obtain ⟨m', e1, e2, e3⟩ := c_lost C P ht hb hm
  by_cases h2 : w = 2
  · rw [if_pos h2, if_pos h2, e1, Option.bind_some]
    refine ⟨m', ?_, e2⟩
    rcases sLo_01 M t bay mo with g | g
    · rw [if_pos g, g]
    · rw [if_neg (by show ¬ sLo M t bay mo = 0; omega), g]
  rw [if_neg h2, if_neg h2, e1, Option.bind_some]
  by_cases h3 : sLo M t bay mo = 0
  · rw [if_pos h3, if_pos h3]
    exact ⟨m', rfl, e2⟩
  · rw [if_neg h3, if_neg h3, c_pay (e2.kC C) e3 ht hb hm (sTr_01 _ _ _)]
    exact ⟨m', rfl, e2⟩
def sHours (M : Int → Int) (t bay fr to w : Int) : Int := itn (fun i s => jW (s + sHr M t bay w i)) (12 * (to - fr) + 12).toNat (12 * fr) 0
theorem c_hoursL {m : jMu} {M : Int → Int} (C : kC m 0 M) {t bay w fr to : Int} (ht : 0 ≤ t ∧ t < M 5) (hb : 0 ≤ bay ∧ bay < M 0) (h0 : 0 ≤ fr) (h1 : fr ≤ to) (h2 : to ≤ 199) : ∃ m', f_X9_hours_L84 jFU t bay w 0 (12 * to + 12) (12 * fr) m = some (.inr (sHours M t bay fr to w, m')) ∧ iC m m' := by
  obtain ⟨m', a, b, _⟩ := itq_loop (L := fun q i s m => f_X9_hours_L84 q t bay w s (12 * to + 12) i m) (fun i s => jW (s + sHr M t bay w i)) (fun s m => (.inr (s, m) : (String × jMu) ⊕ (Int × jMu))) (iC m) (fun _ _ => True) (lo := 12 * fr) (n := 12 * to + 12) (by
    intro q i s m1 g0 g1 _ hI
    obtain ⟨m2, e1, P, f2⟩ := c_stand (hI.kC C) (bay := bay) (mo := i) hb (by omega)
    obtain ⟨m3, e2, f3⟩ := c_hour (w := w) (cl_C (hI.kC C) f2) P ht hb (by omega)
    refine ⟨m3, (hI.tr f2).tr f3, trivial, ?_⟩
    show f_X9_hours_L84 (q + 1) t bay w s (12 * to + 12) i m1 = _
    rw [f_X9_hours_L84, if_neg (by omega), e1, Option.bind_some, e2, Option.bind_some, jW_of (z := i + 1) (by omega) (by omega)]) (by
    intro q s m1 _ _
    show f_X9_hours_L84 (q + 1) t bay w s (12 * to + 12) (12 * to + 12) m1 = _
    rw [f_X9_hours_L84, if_pos (by omega)]) (12 * (to - fr) + 12).toNat jFU (12 * fr) 0 m (by omega) (by omega) (by unfold jFU; omega) trivial (iC.rf m)
  exact ⟨m', b, a⟩
theorem m_hoursL {m : jMu} (hA : kA m) {t bay w fr to : Int} (ht : 0 ≤ t ∧ t < m 75 5) (hb : 0 ≤ bay ∧ bay < m 75 0) (h0 : 0 ≤ fr) (h1 : fr ≤ to) (h2 : to ≤ 199) (hw : 0 ≤ w ∧ w ≤ 3) : ∃ m', f_X10_hours_L82 jFU t bay to w 0 (12 * fr) m = some (sHours (m 75) t bay fr to w, m') ∧ fM m m' ∧ m' 74 0 = m 74 0 := by
  obtain ⟨m', a, b, _⟩ := itq_loop (L := fun q i s m => f_X10_hours_L82 q t bay to w s i m) (fun i s => jW (s + sHr (m 75) t bay w i)) (fun s m => (s, m)) (fun m' => fM m m' ∧ m' 74 0 = m 74 0) (fun _ _ => True) (lo := 12 * fr) (n := 12 * to + 12) (by
    intro q i s m1 g0 g1 _ hI
    have A1 := kA_fM hA hI.1
    have e75 : m1 75 = m 75 := hI.1.1 75 (by decide) (by decide)
    have eN : ¬ jW (jW (12 * to) + 12) ≤ i := by rw [jW_of (z := 12 * to) (by omega) (by omega), jW_of (by omega) (by omega)]; omega
    have eI : jW (i + 1) = i + 1 := jW_of (by omega) (by omega)
    by_cases hw1 : w ≤ 1
    · obtain ⟨m2, e1, f2, _, _, z2⟩ := m_why A1.1 (t := t) (bay := bay) (mo := i) (by rw [e75]; exact ht) (by rw [e75]; exact hb) (by omega)
      rw [e75] at e1
      refine ⟨m2, ⟨hI.1.tr f2, z2.trans hI.2⟩, trivial, ?_⟩
      show f_X10_hours_L82 (q + 1) t bay to w s i m1 = _
      rw [f_X10_hours_L82, if_neg eN, if_pos hw1, e1, Option.bind_some, eI]
      unfold sHr
      by_cases g : sWhy (m 75) t bay i (sT (m 75) i) = 0
      · rw [if_pos g, if_pos g, if_pos g]
        by_cases gw : w = 0
        · rw [if_pos gw, if_pos gw, if_neg (by omega)]
        · rw [if_neg gw, if_neg gw, if_pos (by omega)]
      · rw [if_neg g, if_neg g, if_neg g]
        by_cases gw : w = 0
        · rw [if_pos gw, if_pos gw]
        · rw [if_neg gw, if_neg gw, if_neg (show ¬ w = 3 by omega), if_pos (show w = 1 by omega)]
    · obtain ⟨m2, e1, f2, z2, y2⟩ := m_lost A1.1 (t := t) (bay := bay) (mo := i) (by rw [e75]; exact ht) (by rw [e75]; exact hb) (by omega)
      rw [e75] at e1 y2
      refine ⟨m2, ⟨hI.1.tr f2, z2.trans hI.2⟩, trivial, ?_⟩
      show f_X10_hours_L82 (q + 1) t bay to w s i m1 = _
      rw [f_X10_hours_L82, if_neg eN, if_neg hw1, e1, Option.bind_some, eI]
      unfold sHr
      rw [if_neg (show ¬ w = 0 by omega), if_neg (show ¬ w = 1 by omega)]
      rcases sLo_01 (m 75) t bay i with g | g
      · rw [if_pos g, if_pos g]
        by_cases gw : w = 2
        · rw [if_pos gw, g]
        · rw [if_neg gw]
      · have gz : ¬ sLo (m 75) t bay i = 0 := by omega
        rw [if_neg gz, if_neg gz]
        by_cases gw : w = 2
        · rw [if_pos gw, if_neg (by omega), g]
        · rw [if_neg gw, if_pos (by omega)]
          show f_X10_hours_L82 q t bay to w (jW (s + m2 74 18)) (i + 1) m2 = _
          rw [y2 g]) (by
    intro q s m1 _ _
    show f_X10_hours_L82 (q + 1) t bay to w s (12 * to + 12) m1 = _
    rw [f_X10_hours_L82, if_pos (by rw [jW_of (z := 12 * to) (by omega) (by omega), jW_of (by omega) (by omega)]; omega)]) (12 * (to - fr) + 12).toNat jFU (12 * fr) 0 m (by omega) (by omega) (by unfold jFU; omega) trivial ⟨fM.rf m, rfl⟩
  exact ⟨m', b, a.1, a.2⟩
def kHours (M : Int → Int) (t bay fr to w : Int) : Int := if (0 ≤ t ∧ t < M 5) ∧ (0 ≤ bay ∧ bay < M 0) ∧ (0 ≤ fr ∧ fr ≤ 199) ∧ 0 ≤ to ∧ to ≤ 199 then (if fr ≤ to then (if 0 ≤ w ∧ w ≤ 3 then 0 else 3) else 2) else 1
theorem cq_hours {m : jMu} (hA : kA m) (t bay fr to w : Int) : cQ (f_L_hours t bay fr to w m) m (kHours (m 75) t bay fr to w) (sHours (m 75) t bay fr to w) := by
  have hz := hA.1.z
  unfold f_L_hours f_X9_hours f_X9_hours_J32 f_X9_hours_J33 f_X9_hours_J53 kHours
  by_cases h1 : 0 ≤ t ∧ t < m 75 5
  · by_cases h2 : 0 ≤ bay ∧ bay < m 75 0
    · by_cases h3 : 0 ≤ fr ∧ fr ≤ 199
      · by_cases h4 : 0 ≤ to ∧ to ≤ 199
        · by_cases h5 : fr ≤ to
          · by_cases h6 : 0 ≤ w ∧ w ≤ 3
            · obtain ⟨m', e1, fr1⟩ := c_hoursL (w := w) hA.1 h1 h2 h3.1 h5 h4.2
              have ej : jW (jW (to + 1) * 12) = 12 * to + 12 := by rw [jW_of (z := to + 1) (by omega) (by omega), jW_of (by omega) (by omega)]; omega
              have ek : jW (fr * 12) = 12 * fr := by rw [jW_of (by omega) (by omega)]; omega
              simp only [xIsIn, cHas, cRoom, Option.bind_some, nIz, nAz, nRz, nEz, nDz, nI0z, nI1z, nA0z, nA1z, nE0z, nE1z, nR0z, nR1z, jcat2_r, jcat2_l, jlt_eq, ite01, ite01o, ite01p, ite00, ite10, xe1, xe2, xe3, xe4, xe5, xe6, if_true, if_false, f_X5_size, Int.reduceLE, Int.reduceLT, hz, h1, h2, h3, h4, h5, h6, Int.not_lt.mpr h5, and_self, ej, ek, e1]
              exact cQ_val2 fr1.fC
            · simp only [xIsIn, cHas, cRoom, Option.bind_some, nIz, nAz, nRz, nEz, nDz, nI0z, nI1z, nA0z, nA1z, nE0z, nE1z, nR0z, nR1z, jcat2_r, jcat2_l, jlt_eq, ite01, ite01o, ite01p, ite00, ite10, xe1, xe2, xe3, xe4, xe5, xe6, if_true, if_false, f_X5_size, Int.reduceLE, Int.reduceLT, hz, h1, h2, h3, h4, h5, h6, Int.not_lt.mpr h5, and_self, and_false, and_true, true_and]
              exact cQ_thr (by decide)
          · simp only [xIsIn, cHas, cRoom, Option.bind_some, nIz, nAz, nRz, nEz, nDz, nI0z, nI1z, nA0z, nA1z, nE0z, nE1z, nR0z, nR1z, jcat2_r, jcat2_l, jlt_eq, ite01, ite01o, ite01p, ite00, ite10, xe1, xe2, xe3, xe4, xe5, xe6, if_true, if_false, f_X5_size, Int.reduceLE, Int.reduceLT, hz, h1, h2, h3, h4, h5, Int.not_le.mp h5, and_self, and_false, and_true, true_and]
            exact cQ_thr (by decide)
        · simp only [xIsIn, cHas, cRoom, Option.bind_some, nIz, nAz, nRz, nEz, nDz, nI0z, nI1z, nA0z, nA1z, nE0z, nE1z, nR0z, nR1z, jcat2_r, jcat2_l, jlt_eq, ite01, ite01o, ite01p, ite00, ite10, xe1, xe2, xe3, xe4, xe5, xe6, if_true, if_false, f_X5_size, Int.reduceLE, Int.reduceLT, hz, h1, h2, h3, h4, and_self, and_false, and_true, true_and]
          exact cQ_thr (by decide)
      · simp only [xIsIn, cHas, cRoom, Option.bind_some, nIz, nAz, nRz, nEz, nDz, nI0z, nI1z, nA0z, nA1z, nE0z, nE1z, nR0z, nR1z, jcat2_r, jcat2_l, jlt_eq, ite01, ite01o, ite01p, ite00, ite10, xe1, xe2, xe3, xe4, xe5, xe6, if_true, if_false, f_X5_size, Int.reduceLE, Int.reduceLT, hz, h1, h2, h3, and_self, and_false, false_and, and_true, true_and]
        exact cQ_thr (by decide)
    · simp only [xIsIn, cHas, cRoom, Option.bind_some, nIz, nAz, nRz, nEz, nDz, nI0z, nI1z, nA0z, nA1z, nE0z, nE1z, nR0z, nR1z, jcat2_r, jcat2_l, jlt_eq, ite01, ite01o, ite01p, ite00, ite10, xe1, xe2, xe3, xe4, xe5, xe6, if_true, if_false, f_X5_size, Int.reduceLE, Int.reduceLT, hz, h1, h2, and_self, and_false, false_and, and_true, true_and]
      exact cQ_thr (by decide)
  · simp only [xIsIn, cHas, cRoom, Option.bind_some, nIz, nAz, nRz, nEz, nDz, nI0z, nI1z, nA0z, nA1z, nE0z, nE1z, nR0z, nR1z, jcat2_r, jcat2_l, jlt_eq, ite01, ite01o, ite01p, ite00, ite10, xe1, xe2, xe3, xe4, xe5, xe6, if_true, if_false, f_X5_size, Int.reduceLE, Int.reduceLT, hz, h1, false_and]
    exact cQ_thr (by decide)
theorem mq_hours {m : jMu} (hA : kA m) (t bay fr to w : Int) : mQ (f_X10_hours t bay fr to w m) m (kHours (m 75) t bay fr to w) (sHours (m 75) t bay fr to w) := by
  have hn := hA.1.n
  have hA' := kA_fM hA (fM.thr m 0)
  have e75 : jup m 74 0 0 75 = m 75 := jup_c (by decide)
  unfold f_X10_hours f_X10_hours_J32 kHours
  by_cases h1 : 0 ≤ t ∧ t < m 75 5
  · by_cases h2 : 0 ≤ bay ∧ bay < m 75 0
    · by_cases h3 : 0 ≤ fr ∧ fr ≤ 199
      · by_cases h4 : 0 ≤ to ∧ to ≤ 199
        · by_cases h5 : fr ≤ to
          · by_cases h6 : 0 ≤ w ∧ w ≤ 3
            · have ek : jW (12 * fr) = 12 * fr := by rw [jW_of (by omega) (by omega)]
              simp only [mIsIn, mDay, mHour, mMoment, Option.bind_some, ite01, ite01o, ite01p, ite00, ite10, jlt_eq, jup_s, le00, le10, le20, le30, if_true, if_false, Int.reduceLE, Int.reduceLT, mTerms _ hn.2.2.2.2.2.1, mBay _ hn.1, h1, h2, h3, h4, h5, h6, and_self, ek]
              obtain ⟨m', w1, w2, w3⟩ := m_hoursL hA' (t := t) (bay := bay) (w := w) (by rw [e75]; exact h1) (by rw [e75]; exact h2) h3.1 h5 h4.2 h6
              rw [e75] at w1
              rw [w1]
              exact ⟨_, m', rfl, (fM.thr m 0).tr w2, by rw [w3, jup_s], fun _ => rfl⟩
            · simp only [mIsIn, mDay, mHour, mMoment, Option.bind_some, ite01, ite01o, ite01p, ite00, ite10, jlt_eq, jup_s, le00, le10, le20, le30, if_true, if_false, Int.reduceLE, Int.reduceLT, mTerms _ hn.2.2.2.2.2.1, mBay _ hn.1, h1, h2, h3, h4, h5, h6, and_self, and_false, and_true, true_and]
              exact mQ_thr (by decide)
          · simp only [mIsIn, mDay, mHour, mMoment, Option.bind_some, ite01, ite01o, ite01p, ite00, ite10, jlt_eq, jup_s, le00, le10, le20, le30, if_true, if_false, Int.reduceLE, Int.reduceLT, mTerms _ hn.2.2.2.2.2.1, mBay _ hn.1, h1, h2, h3, h4, h5, and_self, and_false, and_true, true_and]
            exact mQ_thr (by decide)
        · simp only [mIsIn, mDay, mHour, mMoment, Option.bind_some, ite01, ite01o, ite01p, ite00, ite10, jlt_eq, jup_s, le00, le10, le20, le30, if_true, if_false, Int.reduceLE, Int.reduceLT, mTerms _ hn.2.2.2.2.2.1, mBay _ hn.1, h1, h2, h3, h4, and_self, and_false, and_true, true_and]
          exact mQ_thr (by decide)
      · simp only [mIsIn, mDay, mHour, mMoment, Option.bind_some, ite01, ite01o, ite01p, ite00, ite10, jlt_eq, jup_s, le00, le10, le20, le30, if_true, if_false, Int.reduceLE, Int.reduceLT, mTerms _ hn.2.2.2.2.2.1, mBay _ hn.1, h1, h2, h3, and_self, and_false, false_and, and_true, true_and]
        exact mQ_thr (by decide)
    · simp only [mIsIn, mDay, mHour, mMoment, Option.bind_some, ite01, ite01o, ite01p, ite00, ite10, jlt_eq, jup_s, le00, le10, le20, le30, if_true, if_false, Int.reduceLE, Int.reduceLT, mTerms _ hn.2.2.2.2.2.1, mBay _ hn.1, h1, h2, and_self, and_false, false_and, and_true, true_and]
      exact mQ_thr (by decide)
  · simp only [mIsIn, mDay, mHour, mMoment, Option.bind_some, ite01, ite01o, ite01p, ite00, ite10, jlt_eq, jup_s, le00, le10, le20, le30, if_true, if_false, Int.reduceLE, Int.reduceLT, mTerms _ hn.2.2.2.2.2.1, mBay _ hn.1, h1, false_and]
    exact mQ_thr (by decide)
/-! risk -/
def sRiF (M : Int → Int) (t bay i s : Int) : Int := if sWhy M t bay i (sT M i) = 0 then jW (s + jW ((sSk M (i / 12) (i % 12)).2.1 * M (20 + 9 * bay + 1))) else s
def sRisk (M : Int → Int) (j : Int) : Int := itn (sRiF M (M (376 + 8 * j + 7)) (M (376 + 8 * j))) (M (376 + 8 * j + 4) - M (376 + 8 * j + 3)).toNat (M (376 + 8 * j + 3)) 0
theorem c_risk {m : jMu} {M : Int → Int} (C : kC m 0 M) {j : Int} (h0 : 0 ≤ j) (h1 : j < M 8) : ∃ m', f_X0_riskOf j m = some (sRisk M j, m') ∧ iC m m' := by
  have hR := (C.1 7 (by decide)).2 j h0 h1
  unfold f_X0_riskOf
  rw [cg_job C h0 h1 (c := 0) (by decide) (by decide), Option.bind_some, cg_job C h0 h1 (c := 7) (by decide) (by decide), Option.bind_some, cg_job C h0 h1 (c := 4) (by decide) (by decide), Option.bind_some, cg_job C h0 h1 (c := 3) (by decide) (by decide), Option.bind_some, Int.add_zero]
  unfold sRisk
  generalize M (376 + 8 * j) = bay at *
  generalize M (376 + 8 * j + 7) = t at *
  generalize M (376 + 8 * j + 4) = e at *
  generalize M (376 + 8 * j + 3) = b at *
  obtain ⟨m', a, b', _⟩ := itq_loop (L := fun q i s m => f_X0_riskOf_L58 q bay t e s i m) (sRiF M t bay) (fun s m => (s, m)) (iC m) (fun _ _ => True) (lo := b) (n := e) (by
    intro q i s m1 g0 g1 _ hI
    obtain ⟨m2, e1, P, f2⟩ := c_stand (hI.kC C) (bay := bay) (mo := i) hR.1 (by omega)
    have C2 := cl_C (hI.kC C) f2
    have W := c_why C2 P (t := t) (by omega) hR.1 (by omega) (sTr_01 _ _ _)
    refine ⟨m2, hI.tr f2, trivial, ?_⟩
    show f_X0_riskOf_L58 (q + 1) bay t e s i m1 = _
    rw [f_X0_riskOf_L58, if_neg (by omega), e1, Option.bind_some, W, Option.bind_some, jW_of (z := i + 1) (by omega) (by omega)]
    unfold sRiF f_X1_windAtHeight
    rw [P.2.2.2.2.2.2.1, P.2.2.2.2.2.2.2.2.1, Option.bind_some]
    show (if sWhy M t bay i (sT M i) = 0 then _ else _) = _
    split <;> rfl) (by
    intro q s m1 _ _
    show f_X0_riskOf_L58 (q + 1) bay t e s e m1 = _
    rw [f_X0_riskOf_L58, if_pos (Int.le_refl _)]) (e - b).toNat jFU b 0 m (by omega) (by omega) (by unfold jFU; omega) trivial (iC.rf m)
  exact ⟨m', b', a⟩
theorem m_risk {m : jMu} (hA : kA m) {j : Int} (h0 : 0 ≤ j) (h1 : j < m 75 8) : ∃ m', f_X10_risk_L35 jFU j 0 (m 75 (376 + 8 * j + 3)) m = some (sRisk (m 75) j, m') ∧ fM m m' ∧ m' 74 0 = m 74 0 := by
  have hn := hA.1.n
  have hR := (hA.1.1 7 (by decide)).2 j h0 h1
  unfold sRisk
  obtain ⟨m', a, b', _⟩ := itq_loop (L := fun q i s m => f_X10_risk_L35 q j s i m) (sRiF (m 75) (m 75 (376 + 8 * j + 7)) (m 75 (376 + 8 * j))) (fun s m => (s, m)) (fun m' => fM m m' ∧ m' 74 0 = m 74 0) (fun _ s => jIn s) (lo := m 75 (376 + 8 * j + 3)) (n := m 75 (376 + 8 * j + 4)) (by
    intro q i s m1 g0 g1 hs hI
    have A1 := kA_fM hA hI.1
    have e75 : m1 75 = m 75 := hI.1.1 75 (by decide) (by decide)
    have o4 := mOfJob (m := m1) (j := j) (c := 4) h0 (by omega) (by decide) (by decide)
    have o7 := mOfJob (m := m1) (j := j) (c := 7) h0 (by omega) (by decide) (by decide)
    have o0 := mOfJob (m := m1) (j := j) (c := 0) h0 (by omega) (by decide) (by decide)
    rw [e75] at o4 o7 o0
    rw [Int.add_zero] at o0
    obtain ⟨m2, e1, f2, P, _, z2⟩ := m_why A1.1 (t := m 75 (376 + 8 * j + 7)) (bay := m 75 (376 + 8 * j)) (mo := i) (by rw [e75]; exact hR.2.2.2.2.2.2) (by rw [e75]; exact hR.1) (by omega)
    rw [e75] at e1 P
    refine ⟨m2, ⟨hI.1.tr f2, z2.trans hI.2⟩, ?_, ?_⟩
    · unfold sRiF
      split
      · exact jW_in _
      · exact hs
    · show f_X10_risk_L35 (q + 1) j s i m1 = _
      rw [f_X10_risk_L35, o4, Option.bind_some, if_neg (by omega), o7, Option.bind_some, o0, Option.bind_some, e1, Option.bind_some, jW_of (z := i + 1) (by omega) (by omega)]
      unfold sRiF
      rw [Int.add_zero s, jW_id hs]
      show (if sWhy (m 75) (m 75 (376 + 8 * j + 7)) (m 75 (376 + 8 * j)) i (sT (m 75) i) = 0 then f_X10_risk_L35 q j (jW (s + jW (m2 78 2 * m2 78 4))) (i + 1) m2 else _) = _
      rw [P.2.2.2.2.2.2.2.1, P.2.2.2.2.2.2.2.2.2]
      split <;> rfl) (by
    intro q s m1 _ hI
    have e75 : m1 75 = m 75 := hI.1.1 75 (by decide) (by decide)
    have o4 := mOfJob (m := m1) (j := j) (c := 4) h0 (by omega) (by decide) (by decide)
    rw [e75] at o4
    show f_X10_risk_L35 (q + 1) j s (m 75 (376 + 8 * j + 4)) m1 = _
    rw [f_X10_risk_L35, o4, Option.bind_some, if_pos (Int.le_refl _)]) (m 75 (376 + 8 * j + 4) - m 75 (376 + 8 * j + 3)).toNat jFU (m 75 (376 + 8 * j + 3)) 0 m (Int.le_refl _) (by omega) (by unfold jFU; omega) j_in0 ⟨fM.rf m, rfl⟩
  exact ⟨m', b', a.1, a.2⟩
def kRisk (M : Int → Int) (j : Int) : Int := if 0 ≤ j ∧ j < M 8 then 0 else 1
theorem cq_risk {m : jMu} (hA : kA m) (j : Int) : cQ (f_L_risk j m) m (kRisk (m 75) j) (sRisk (m 75) j) := by
  have hz := hA.1.z
  unfold f_L_risk f_X9_risk kRisk
  by_cases h1 : 0 ≤ j ∧ j < m 75 8
  · obtain ⟨m', e1, fr1⟩ := c_risk hA.1 h1.1 h1.2
    simp only [xIsIn, cHas, cRoom, Option.bind_some, nIz, nAz, nRz, nEz, nDz, nI0z, nI1z, nA0z, nA1z, nE0z, nE1z, nR0z, nR1z, jcat2_r, jcat2_l, jlt_eq, ite01, ite01o, ite01p, ite00, ite10, xe1, xe2, xe3, xe4, xe5, xe6, if_true, if_false, f_X5_size, Int.reduceLE, Int.reduceLT, hz, h1, and_self, e1]
    exact cQ_val2 fr1.fC
  · simp only [xIsIn, cHas, cRoom, Option.bind_some, nIz, nAz, nRz, nEz, nDz, nI0z, nI1z, nA0z, nA1z, nE0z, nE1z, nR0z, nR1z, jcat2_r, jcat2_l, jlt_eq, ite01, ite01o, ite01p, ite00, ite10, xe1, xe2, xe3, xe4, xe5, xe6, if_true, if_false, f_X5_size, Int.reduceLE, Int.reduceLT, hz, h1]
    exact cQ_thr (by decide)
theorem mq_risk {m : jMu} (hA : kA m) (j : Int) : mQ (f_X10_risk j m) m (kRisk (m 75) j) (sRisk (m 75) j) := by
  have hn := hA.1.n
  have hA' := kA_fM hA (fM.thr m 0)
  have e75 : jup m 74 0 0 75 = m 75 := jup_c (by decide)
  unfold f_X10_risk kRisk
  by_cases h1 : 0 ≤ j ∧ j < m 75 8
  · have o3 := mOfJob (m := jup m 74 0 0) (j := j) (c := 3) h1.1 (by omega) (by decide) (by decide)
    obtain ⟨m', w1, w2, w3⟩ := m_risk hA' (j := j) h1.1 (by rw [e75]; exact h1.2)
    rw [e75] at w1 o3
    simp only [mIsIn, mDay, mHour, mMoment, Option.bind_some, ite01, ite01o, ite01p, ite00, ite10, jlt_eq, jup_s, le00, le10, le20, le30, if_true, if_false, Int.reduceLE, Int.reduceLT, mJob _ hn.2.2.2.2.2.2.2.2.1, h1, and_self, o3, w1]
    exact ⟨_, m', rfl, (fM.thr m 0).tr w2, by rw [w3, jup_s], fun _ => rfl⟩
  · simp only [mIsIn, mDay, mHour, mMoment, Option.bind_some, ite01, ite01o, ite01p, ite00, ite10, jlt_eq, jup_s, le00, le10, le20, le30, if_true, if_false, Int.reduceLE, Int.reduceLT, mJob _ hn.2.2.2.2.2.2.2.2.1, h1]
    exact mQ_thr (by decide)
