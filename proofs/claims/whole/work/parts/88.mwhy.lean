/-! LEVEL 2: whether work goes on, by the reference -/
theorem xStop_b (e : Int → Int) : ∀ (ls : List xLn) (i : Int), 0 ≤ i → xStop e i ls = -1 ∨ (i ≤ xStop e i ls ∧ xStop e i ls < i + ls.length) := by
  intro ls
  induction ls with
  | nil => intro i _; exact Or.inl rfl
  | cons l ls ih =>
    intro i hi
    unfold xStop
    split
    · exact Or.inr ⟨Int.le_refl _, by rw [List.length_cons]; omega⟩
    · rcases ih (i + 1) (by omega) with h | h
      · exact Or.inl h
      · exact Or.inr ⟨by omega, by rw [List.length_cons]; omega⟩
/-- the reference's answers at a place -/
def mP (m' : jMu) (M : Int → Int) (t bay mo tr : Int) : Prop := m' 74 12 = (sSk M (mo / 12) (mo % 12)).1 ∧ m' 74 13 = tr ∧ m' 74 14 = sNe M bay (mo / 12) ∧ m' 74 15 = xStop (sEn M bay mo tr) 0 (xTx M t.toNat) ∧ m' 74 16 = xLast (sEn M bay mo tr) 101 0 (xTx M t.toNat) ∧ m' 74 17 = xLast (sEn M bay mo tr) 102 30 (xTx M t.toNat) ∧ m' 74 18 = xLast (sEn M bay mo tr) 103 0 (xTx M t.toNat) ∧ m' 78 2 = (sSk M (mo / 12) (mo % 12)).2.1 ∧ m' 78 3 = (sSk M (mo / 12) (mo % 12)).2.2 ∧ m' 78 4 = M (20 + 9 * bay + 1)
theorem es_kC {m : jMu} {M : Int → Int} (C : kC m 0 M) {dy hr wi he hi si wt tr ne : Int} : kC (es m dy hr wi he hi si wt tr ne) 0 M := kC_frame C (fun c h1 h2 => by
  funext j
  unfold es
  rw [if_neg (by omega), if_neg (by omega)]) (fun _ _ _ => rfl)
theorem es_fM {m : jMu} {dy hr wi he hi si wt tr ne : Int} (hE : pE (es m dy hr wi he hi si wt tr ne)) : fM m (es m dy hr wi he hi si wt tr ne) := ⟨fun c h1 h2 => by
  funext j
  unfold es
  rw [if_neg (by omega), if_neg h1], rfl, rfl, rfl, fun _ => hE⟩
theorem es_pE {m mm : jMu} {M : Int → Int} (C : kC mm 0 M) {bay mo tr : Int} (hb : 0 ≤ bay ∧ bay < M 0) (hm : 0 ≤ mo ∧ mo < 2400) (ht : tr = 0 ∨ tr = 1) : pE (es m (mo / 12) (mo % 12) (sSk M (mo / 12) (mo % 12)).2.1 (sSk M (mo / 12) (mo % 12)).2.2 (M (20 + 9 * bay + 1)) (M (20 + 9 * bay)) (sSk M (mo / 12) (mo % 12)).1 tr (sNe M bay (mo / 12))) := by
  have S := sSk_b C (mo / 12) (mo % 12)
  have R := (C.1 0 (by decide)).2 bay hb.1 hb.2
  refine ⟨S.1, ht, sNe_01 _ _ _, fun k h0 h1 => ?_⟩
  obtain rfl | rfl | rfl | rfl | rfl | rfl : k = 0 ∨ k = 1 ∨ k = 2 ∨ k = 3 ∨ k = 4 ∨ k = 5 := by omega
  · show 0 ≤ mo / 12 ∧ mo / 12 ≤ 400
    omega
  · show 0 ≤ mo % 12 ∧ mo % 12 ≤ 400
    omega
  · show 0 ≤ (sSk M (mo / 12) (mo % 12)).2.1 ∧ (sSk M (mo / 12) (mo % 12)).2.1 ≤ 400
    omega
  · show 0 ≤ (sSk M (mo / 12) (mo % 12)).2.2 ∧ (sSk M (mo / 12) (mo % 12)).2.2 ≤ 400
    omega
  · show 0 ≤ M (20 + 9 * bay + 1) ∧ M (20 + 9 * bay + 1) ≤ 400
    omega
  · show 0 ≤ M (20 + 9 * bay) ∧ M (20 + 9 * bay) ≤ 400
    omega
/-- terms asked at a place that the reference stands at -/
theorem m_asksE {m mm : jMu} (C : kC mm 0 (m 75)) {t bay mo tr : Int} (ht : 0 ≤ t ∧ t < m 75 5) (hb : 0 ≤ bay ∧ bay < m 75 0) (hm : 0 ≤ mo ∧ mo < 2400) (htr : tr = 0 ∨ tr = 1) : ∃ m', f_X10_asks t (es m (mo / 12) (mo % 12) (sSk (m 75) (mo / 12) (mo % 12)).2.1 (sSk (m 75) (mo / 12) (mo % 12)).2.2 (m 75 (20 + 9 * bay + 1)) (m 75 (20 + 9 * bay)) (sSk (m 75) (mo / 12) (mo % 12)).1 tr (sNe (m 75) bay (mo / 12))) = some m' ∧ fM m m' ∧ mP m' (m 75) t bay mo tr ∧ (∀ c, c ≠ 74 → m' c = es m (mo / 12) (mo % 12) (sSk (m 75) (mo / 12) (mo % 12)).2.1 (sSk (m 75) (mo / 12) (mo % 12)).2.2 (m 75 (20 + 9 * bay + 1)) (m 75 (20 + 9 * bay)) (sSk (m 75) (mo / 12) (mo % 12)).1 tr (sNe (m 75) bay (mo / 12)) c) ∧ m' 74 0 = m 74 0 := by
  obtain ⟨m', e1, e2, e3, e4, e5, e6, e7, e8⟩ := m_asks (m := es m (mo / 12) (mo % 12) (sSk (m 75) (mo / 12) (mo % 12)).2.1 (sSk (m 75) (mo / 12) (mo % 12)).2.2 (m 75 (20 + 9 * bay + 1)) (m 75 (20 + 9 * bay)) (sSk (m 75) (mo / 12) (mo % 12)).1 tr (sNe (m 75) bay (mo / 12))) (mm := mm) C (es_pE C hb hm htr) ht.1 ht.2
  have X := fun c h1 h2 => xE_es (m := m) (bay := bay) (mo := mo) (tr := tr) (a := 0) c h1 h2
  rw [xStop_cg X] at e3
  rw [xLast_cg X] at e4 e5 e6
  refine ⟨m', e1, ?_, ⟨?_, ?_, ?_, e3, e4, e5, e6, ?_, ?_, ?_⟩, e2, e8 0 (by decide) (by decide) (by decide) (by decide) (by decide) (by decide) (by decide) (by decide) (by decide)⟩
  · refine fM.tr (es_fM (es_pE C hb hm htr)) ⟨fun c h1 h2 => e2 c h1, ?_, ?_, e7, pE_cg ?_ ?_ ?_ (e2 78 (by decide))⟩
    · exact e8 3 (by decide) (by decide) (by decide) (by decide) (by decide) (by decide) (by decide) (by decide) (by decide)
    · exact e8 5 (by decide) (by decide) (by decide) (by decide) (by decide) (by decide) (by decide) (by decide) (by decide)
    · exact e8 12 (by decide) (by decide) (by decide) (by decide) (by decide) (by decide) (by decide) (by decide) (by decide)
    · exact e8 13 (by decide) (by decide) (by decide) (by decide) (by decide) (by decide) (by decide) (by decide) (by decide)
    · exact e8 14 (by decide) (by decide) (by decide) (by decide) (by decide) (by decide) (by decide) (by decide) (by decide)
  · exact e8 12 (by decide) (by decide) (by decide) (by decide) (by decide) (by decide) (by decide) (by decide) (by decide)
  · exact e8 13 (by decide) (by decide) (by decide) (by decide) (by decide) (by decide) (by decide) (by decide) (by decide)
  · exact e8 14 (by decide) (by decide) (by decide) (by decide) (by decide) (by decide) (by decide) (by decide) (by decide)
  · rw [e2 78 (by decide)]; rfl
  · rw [e2 78 (by decide)]; rfl
  · rw [e2 78 (by decide)]; rfl
def sWhy (M : Int → Int) (t bay mo tr : Int) : Int := if sAny M 314 3 (mo / 12) = 0 then (if xStop (sEn M bay mo tr) 0 (xTx M t.toNat) = -1 then 0 else 2 + xStop (sEn M bay mo tr) 0 (xTx M t.toNat)) else 1
/-- the train's hour where nothing is changed -/
def sT (M : Int → Int) (mo : Int) : Int := sTr M (mo / 12) (mo % 12)
theorem m_why {m mm : jMu} (C : kC mm 0 (m 75)) {t bay mo : Int} (ht : 0 ≤ t ∧ t < m 75 5) (hb : 0 ≤ bay ∧ bay < m 75 0) (hm : 0 ≤ mo ∧ mo < 2400) : ∃ m', f_X10_whyOf t bay mo m = some (sWhy (m 75) t bay mo (sT (m 75) mo), m') ∧ fM m m' ∧ mP m' (m 75) t bay mo (sT (m 75) mo) ∧ (∀ c, c ≠ 74 → m' c = es m (mo / 12) (mo % 12) (sSk (m 75) (mo / 12) (mo % 12)).2.1 (sSk (m 75) (mo / 12) (mo % 12)).2.2 (m 75 (20 + 9 * bay + 1)) (m 75 (20 + 9 * bay)) (sSk (m 75) (mo / 12) (mo % 12)).1 (sT (m 75) mo) (sNe (m 75) bay (mo / 12)) c) ∧ m' 74 0 = m 74 0 := by
  have hn := C.n
  obtain ⟨m', e1, e2, e3, e4, e5⟩ := m_asksE C (tr := sT (m 75) mo) ht hb hm (sTr_01 _ _ _)
  refine ⟨m', ?_, e2, e3, e4, e5⟩
  have h75 : m' 75 = m 75 := e2.1 75 (by decide) (by decide)
  have C' : kC mm 0 (m' 75) := by rw [h75]; exact C
  have S := m_str C' (d := mo / 12)
  rw [h75] at S
  unfold f_X10_whyOf sWhy
  rw [m_stands C hb hm, Option.bind_some, show sTr (m 75) (mo / 12) (mo % 12) = sT (m 75) mo from rfl, e1, Option.bind_some, xdv hm.1 (by omega) (by decide), S, Option.bind_some, e3.2.2.2.1]
  have hb2 := xStop_b (sEn (m 75) bay mo (sT (m 75) mo)) (xTx (m 75) t.toNat) 0 (Int.le_refl _)
  have hl := (kR_t C ht.1 ht.2).2.2.1
  by_cases g : sAny (m 75) 314 3 (mo / 12) = 0
  · rw [if_pos g, if_pos g]
    by_cases g2 : xStop (sEn (m 75) bay mo (sT (m 75) mo)) 0 (xTx (m 75) t.toNat) = -1
    · rw [if_pos g2, if_pos g2]
    · rw [if_neg g2, if_neg g2, jW_of (by omega) (by omega)]
  · rw [if_neg g, if_neg g]
/-- whether the hour is lost to a train -/
def sLo (M : Int → Int) (t bay mo : Int) : Int := if sWhy M t bay mo (sT M mo) ≠ 0 ∧ sT M mo = 1 ∧ xStop (sEn M bay mo 0) 0 (xTx M t.toNat) = -1 ∧ sAny M 314 3 (mo / 12) = 0 then 1 else 0
