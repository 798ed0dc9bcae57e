/-! LEVEL 2: what the reference says of a bay at a moment -/
theorem kR_t {m : jMu} {M : Int → Int} (C : kC m 0 M) {t : Int} (h0 : 0 ≤ t) (h1 : t < M 5) : (0 ≤ M (880 + 401 * t) ∧ M (880 + 401 * t) ≤ 400) ∧ xPar (fun j => M (881 + 401 * t + j)) (M (880 + 401 * t)) = .inr (xTx M t.toNat) ∧ (xTx M t.toNat).length ≤ 10 ∧ (xCo (xTx M t.toNat)).length ≤ 400 := by
  have h := (C.1 11 (by decide)).2 t.toNat (by omega)
  have e : ((t.toNat : Nat) : Int) = t := by omega
  rw [e] at h
  obtain ⟨a, ⟨L, b⟩, c, d⟩ := h
  refine ⟨a, ?_, c, d⟩
  have e2 : xTx M t.toNat = L := by
    unfold xTx
    rw [e, b]
  rw [e2]
  exact b
theorem m_asks {m mm : jMu} (C : kC mm 0 (m 75)) (E : pE m) {t : Int} (h0 : 0 ≤ t) (h1 : t < m 75 5) : ∃ m', f_X10_asks t m = some m' ∧ (∀ c, c ≠ 74 → m' c = m c) ∧ m' 74 15 = xStop (xE m) 0 (xTx (m 75) t.toNat) ∧ m' 74 16 = xLast (xE m) 101 0 (xTx (m 75) t.toNat) ∧ m' 74 17 = xLast (xE m) 102 30 (xTx (m 75) t.toNat) ∧ m' 74 18 = xLast (xE m) 103 0 (xTx (m 75) t.toNat) ∧ m' 74 9 = m 74 9 ∧ ∀ j, j ≠ 6 → j ≠ 7 → j ≠ 8 → j ≠ 9 → j ≠ 10 → j ≠ 15 → j ≠ 16 → j ≠ 17 → j ≠ 18 → m' 74 j = m 74 j := by
  have hn := C.n
  obtain ⟨r1, r2, r3, r4⟩ := kR_t C h0 h1
  have w1 : jW (jW (880 + jW (401 * t)) + 1) = 881 + 401 * t := by
    rw [jW_of (z := 401 * t) (by omega) (by omega), jW_of (z := 880 + 401 * t) (by omega) (by omega), jW_of (by omega) (by omega)]
    omega
  have w2 : jW (881 + 401 * t - 1) = 880 + 401 * t := by rw [jW_of (by omega) (by omega)]; omega
  generalize hm3 : jup (jup (jup m 74 9 (-1)) 74 6 (881 + 401 * t)) 74 7 (m 75 (880 + 401 * t)) = m3
  have c3 : ∀ c, c ≠ 74 → m3 c = m c := fun c hc => by rw [← hm3, jup_c hc, jup_c hc, jup_c hc]
  have o3 : ∀ j, j ≠ 9 → j ≠ 6 → j ≠ 7 → m3 74 j = m 74 j := fun j a b c => by rw [← hm3, jup_j c, jup_j b, jup_j a]
  have B : pB m3 (fun j => m 75 (881 + 401 * t + j)) (m 75 (880 + 401 * t)) := by
    refine ⟨by rw [← hm3, jup_s], r1.1, r1.2, fun p f d k k0 k1 => ?_⟩
    have e6 : ps m3 p f d 74 6 = 881 + 401 * t := by
      rw [ps_o (by decide) (by decide) (by decide), ← hm3, jup_j (by decide), jup_s]
    have e75 : ps m3 p f d 75 = m 75 := by rw [ps_c (by decide), c3 75 (by decide)]
    unfold f_X10_letter
    rw [e6, e75, if_neg (by omega), jW_of (by omega) (by omega), if_pos (by omega)]
  have E3 : pE m3 := by
    unfold pE
    rw [o3 12 (by decide) (by decide) (by decide), o3 13 (by decide) (by decide) (by decide), o3 14 (by decide) (by decide) (by decide), c3 78 (by decide)]
    exact E
  have X3 : xE m3 = xE m := by
    funext c
    unfold xE
    rw [o3 12 (by decide) (by decide) (by decide), o3 13 (by decide) (by decide) (by decide), o3 14 (by decide) (by decide) (by decide), c3 78 (by decide)]
  have f3 : m3 74 9 = -1 := by rw [← hm3, jup_j (by decide), jup_j (by decide), jup_s]
  obtain ⟨p', hl⟩ := (m_lines B E3 f3).2 _ r2
  have e2 : jup (jup m 74 9 (-1)) 74 6 (881 + 401 * t) 74 6 = 881 + 401 * t := jup_s
  have e75 : jup (jup m 74 9 (-1)) 74 6 (881 + 401 * t) 75 = m 75 := by rw [jup_c (by decide), jup_c (by decide)]
  refine ⟨jup (ps (la m3 (xTx (m 75) t.toNat)) p' (-1) 0) 74 9 (m 74 9), ?_, fun c hc => ?_, ?_, ?_, ?_, ?_, jup_s, fun j a b c d e f g h i => ?_⟩
  · unfold f_X10_asks
    rw [w1, jlt_eq, jlt_eq, e2, w2, if_pos (by omega), e75, hm3, jlt_eq, hl, Option.bind_some, jlt_eq]
  · rw [jup_c hc, ps_c hc]
    unfold la
    have e9 : ∀ st dr ho pa, ls m3 st dr ho pa c = m3 c := fun st dr ho pa => funext fun j => if_neg hc
    rw [e9]
    exact c3 c hc
  · rw [← X3]; rfl
  · rw [← X3]; rfl
  · rw [← X3]; rfl
  · rw [← X3]; rfl
  · rw [jup_j d, ps_o c d e]
    unfold la ls
    rw [if_pos rfl, if_neg f, if_neg g, if_neg h, if_neg i]
    exact o3 j d a b
/-- the facts of a bay at a moment, by their words -/
def sEn (M : Int → Int) (bay mo tr : Int) (c : Int) : Int := if c = 108 then (sSk M (mo / 12) (mo % 12)).1 else if c = 109 then tr else if c = 110 then sNe M bay (mo / 12) else if c = 111 then mo / 12 else if c = 112 then mo % 12 else if c = 113 then (sSk M (mo / 12) (mo % 12)).2.1 else if c = 114 then (sSk M (mo / 12) (mo % 12)).2.2 else if c = 115 then M (20 + 9 * bay + 1) else if c = 116 then M (20 + 9 * bay) else 0
theorem sSk_b {m : jMu} {M : Int → Int} (C : kC m 0 M) (d h : Int) : ((sSk M d h).1 = 0 ∨ (sSk M d h).1 = 1) ∧ (0 ≤ (sSk M d h).2.1 ∧ (sSk M d h).2.1 ≤ 9) ∧ (0 ≤ (sSk M d h).2.2 ∧ (sSk M d h).2.2 ≤ 30) := by
  have hn := C.n
  refine itn_inv (f := sSkF M d h) (fun _ s => (s.1 = 0 ∨ s.1 = 1) ∧ (0 ≤ s.2.1 ∧ s.2.1 ≤ 9) ∧ (0 ≤ s.2.2 ∧ s.2.2 ≤ 30)) (lo := 0) (n := M 1) (fun i s h0 h1 hP => ?_) (M 1).toNat 0 (0, 0, 10) (by omega) (by omega) ⟨Or.inl rfl, ⟨by decide, by decide⟩, by decide, by decide⟩
  have hR := (C.1 1 (by decide)).2 i h0 h1
  unfold sSkF
  split
  · refine ⟨?_, hR.2.1, hR.2.2⟩
    show M (92 + 7 * i + 4) = 0 ∨ M (92 + 7 * i + 4) = 1
    omega
  · exact hP
theorem sTr_01 (M : Int → Int) (d h : Int) : sTr M d h = 0 ∨ sTr M d h = 1 := by
  unfold sTr
  split
  · exact Or.inr rfl
  · exact Or.inl rfl
theorem xSt_cg {e e' : Int → Int} (h : ∀ c, 108 ≤ c → c ≤ 116 → e c = e' c) (x : Int × Int × Int) (c : Int) : xSt e x c = xSt e' x c := by
  unfold xSt
  by_cases h1 : xNum c = true
  · rw [if_pos h1, if_pos h1]
  · rw [if_neg h1, if_neg h1]
    by_cases h2 : xFac c = true
    · have := xFac_iff.mp h2
      rw [if_pos h2, if_pos h2, h c (by omega) (by omega)]
    · rw [if_neg h2, if_neg h2]
      by_cases h3 : xTag c = true
      · have := xTag_iff.mp h3
        rw [if_pos h3, if_pos h3, h c (by omega) (by omega)]
      · rw [if_neg h3, if_neg h3]
theorem xEv_cg {e e' : Int → Int} (h : ∀ c, 108 ≤ c → c ≤ 116 → e c = e' c) : ∀ (cs : List Int) (x : Int × Int × Int), xEv e cs x = xEv e' cs x := by
  intro cs
  induction cs with
  | nil => intro x; rfl
  | cons c cs ih => intro x; rw [xEv_c, xEv_c, xSt_cg h, ih]
theorem xHo_cg {e e' : Int → Int} (h : ∀ c, 108 ≤ c → c ≤ 116 → e c = e' c) (cs : List Int) : xHo e cs = xHo e' cs := by
  unfold xHo
  rw [xEv_cg h]
theorem xStop_cg {e e' : Int → Int} (h : ∀ c, 108 ≤ c → c ≤ 116 → e c = e' c) : ∀ (ls : List xLn) (i : Int), xStop e i ls = xStop e' i ls := by
  intro ls
  induction ls with
  | nil => intro i; rfl
  | cons l ls ih => intro i; unfold xStop; rw [xHo_cg h, ih]
theorem xLast_cg {e e' : Int → Int} (h : ∀ c, 108 ≤ c → c ≤ 116 → e c = e' c) (k : Int) : ∀ (ls : List xLn) (w : Int), xLast e k w ls = xLast e' k w ls := by
  intro ls
  induction ls with
  | nil => intro w; rfl
  | cons l ls ih => intro w; unfold xLast; rw [xHo_cg h, ih]
theorem xE_es {m : jMu} {bay mo tr : Int} {a : Int} (c : Int) (h1 : 108 ≤ c) (h2 : c ≤ 116) : xE (es m (mo / 12) (mo % 12) (sSk (m 75) (mo / 12) (mo % 12)).2.1 (sSk (m 75) (mo / 12) (mo % 12)).2.2 (m 75 (20 + 9 * bay + 1)) (m 75 (20 + 9 * bay)) (sSk (m 75) (mo / 12) (mo % 12)).1 tr (sNe (m 75) bay (mo / 12))) c = sEn (m 75) bay mo tr c := by
  obtain rfl | rfl | rfl | rfl | rfl | rfl | rfl | rfl | rfl : c = 108 ∨ c = 109 ∨ c = 110 ∨ c = 111 ∨ c = 112 ∨ c = 113 ∨ c = 114 ∨ c = 115 ∨ c = 116 := by omega
  all_goals rfl
