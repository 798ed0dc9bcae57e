/-! LEVEL 2: the call at -/
def sAt (M : Int → Int) (t bay mo w : Int) : Int := if w = 0 then xLast (sEn M bay mo (sT M mo)) 101 0 (xTx M t.toNat) else if w = 1 then xLast (sEn M bay mo (sT M mo)) 102 30 (xTx M t.toNat) else if w = 2 then xLast (sEn M bay mo (sT M mo)) 103 0 (xTx M t.toNat) else if w = 3 then (sSk M (mo / 12) (mo % 12)).2.1 else if w = 4 then (sSk M (mo / 12) (mo % 12)).2.2 else if w = 5 then (sSk M (mo / 12) (mo % 12)).1 else if w = 6 then sT M mo else sNe M bay (mo / 12)
theorem c_asked {m : jMu} {M : Int → Int} (C : kC m 0 M) {t bay mo w : Int} (P : clP m M bay mo (sT M mo)) (ht : 0 ≤ t ∧ t < M 5) (hb : 0 ≤ bay ∧ bay < M 0) (hm : 0 ≤ mo ∧ mo < 2400) : f_X1_askedHere t w m = some (sAt M t bay mo w) := by
  have N := fun kd v => c_num C P ht hb hm (sTr_01 _ _ _) kd v
  obtain ⟨p1, p2, p3, p4, p5, p6, p7, p8, p9, p10⟩ := P
  unfold f_X1_askedHere f_X1_dryHere f_X1_holdHere f_X1_payHere sAt
  simp only [N, Option.bind_some, p2, p3, p4, p7, p8]
  repeat' split
  all_goals rfl
