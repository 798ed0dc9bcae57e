/-! LEVEL 2: the class reads a line, and a text -/
def lnF (G : List xLn) : Int → Int → Int := fun r c => if c = 0 then (G.getD r.toNat (0, 0, [])).1 else if c = 1 then (G.getD r.toNat (0, 0, [])).2.1 else if c = 2 then ((xCo (G.take r.toNat)).length : Int) else ((xCo (G.take (r.toNat + 1))).length : Int)
def sLn (m0 m : jMu) (G : List xLn) (ts : List (Int × Int)) : Prop := rd m ts ∧ TabR m 18 19 1 1600 ((xCo G).length : Int) (cdF (xCo G)) ∧ TabR m 16 17 4 40 (G.length : Int) (lnF G) ∧ ∀ c, c ≠ 62 → c ≠ 65 → c ≠ 18 → c ≠ 19 → c ≠ 16 → c ≠ 17 → m c = m0 c
def fl2 (m0 : jMu) (G : List xLn) (e : Int) (X : Option (Int × jMu)) : Prop := ∃ (m' : jMu) (a : List Int), X = some (0, m') ∧ m' 62 10 = e ∧ TabR m' 18 19 1 1600 ((xCo G ++ a).length : Int) (cdF (xCo G ++ a)) ∧ TabR m' 16 17 4 40 (G.length : Int) (lnF G) ∧ ∀ c, c ≠ 62 → c ≠ 65 → c ≠ 18 → c ≠ 19 → c ≠ 16 → c ≠ 17 → m' c = m0 c
theorem lnF_old {G : List xLn} {l : xLn} {r c : Int} (h0 : 0 ≤ r) (h1 : r < (G.length : Int)) : lnF G r c = lnF (G ++ [l]) r c := by
  unfold lnF
  rw [getD_l (by omega), List.take_append_of_le_length (by omega), List.take_append_of_le_length (by omega)]
theorem lnF_new {G : List xLn} {l : xLn} {c : Int} : lnF (G ++ [l]) (G.length : Int) c = if c = 0 then l.1 else if c = 1 then l.2.1 else if c = 2 then ((xCo G).length : Int) else ((xCo (G ++ [l])).length : Int) := by
  unfold lnF
  rw [Int.toNat_natCast, getD_r (Nat.le_refl _), Nat.sub_self, List.take_left, List.take_of_length_le (by rw [List.length_append]; exact Nat.le_refl _)]
  rfl
theorem xCo_1 (G : List xLn) (l : xLn) : xCo (G ++ [l]) = xCo G ++ l.2.2 := by
  rw [xCo_app]
  congr 1
  show l.2.2 ++ [] = _
  rw [List.append_nil]
section LINES
variable {m0 : jMu} {n : Int} {B : Nat}
theorem c_addl {m : jMu} {G : List xLn} {l : xLn} {ts : List (Int × Int)} (h : rd m ts) (h1 : TabR m 18 19 1 1600 ((xCo (G ++ [l])).length : Int) (cdF (xCo (G ++ [l])))) (h2 : TabR m 16 17 4 40 (G.length : Int) (lnF G)) (h3 : ∀ c, c ≠ 62 → c ≠ 65 → c ≠ 18 → c ≠ 19 → c ≠ 16 → c ≠ 17 → m c = m0 c) (hG : G.length < 40) : ∃ m', f_X3_readLine_J108 l.1 l.2.1 ((xCo G).length : Int) m = some (1, m') ∧ sLn m0 m' (G ++ [l]) ts := by
  have hS : TabS 16 17 160 4 40 := by unfold TabS; decide
  obtain ⟨m1, e1, t1, f1⟩ := tb_add hS h2 (by omega)
  have d0 := tb_set (v := l.1) (r := (G.length : Int)) (c := 0) hS t1 (by omega) (by omega) (by decide) (by decide)
  have u0 := TabR.set (v := l.1) (r := (G.length : Int)) (c := 0) hS t1 (by decide) (by decide)
  have d1 := tb_set (v := l.2.1) (r := (G.length : Int)) (c := 1) hS u0 (by omega) (by omega) (by decide) (by decide)
  have u1 := TabR.set (v := l.2.1) (r := (G.length : Int)) (c := 1) hS u0 (by decide) (by decide)
  have d2 := tb_set (v := ((xCo G).length : Int)) (r := (G.length : Int)) (c := 2) hS u1 (by omega) (by omega) (by decide) (by decide)
  have u2 := TabR.set (v := ((xCo G).length : Int)) (r := (G.length : Int)) (c := 2) hS u1 (by decide) (by decide)
  have d3 := tb_set (v := ((xCo (G ++ [l])).length : Int)) (r := (G.length : Int)) (c := 3) hS u2 (by omega) (by omega) (by decide) (by decide)
  have u3 := TabR.set (v := ((xCo (G ++ [l])).length : Int)) (r := (G.length : Int)) (c := 3) hS u2 (by decide) (by decide)
  generalize hm5 : jup (jup (jup (jup m1 17 ((G.length : Int) * 4 + 0) l.1) 17 ((G.length : Int) * 4 + 1) l.2.1) 17 ((G.length : Int) * 4 + 2) ((xCo G).length : Int)) 17 ((G.length : Int) * 4 + 3) ((xCo (G ++ [l])).length : Int) = m5 at *
  have F : ∀ c, c ≠ 16 → c ≠ 17 → m5 c = m c := fun c a b => by rw [← hm5, jup_c b, jup_c b, jup_c b, jup_c b, f1 c a b]
  have e18 : jup (jup (jup m1 17 ((G.length : Int) * 4 + 0) l.1) 17 ((G.length : Int) * 4 + 1) l.2.1) 17 ((G.length : Int) * 4 + 2) ((xCo G).length : Int) 18 3 = ((xCo (G ++ [l])).length : Int) := by
    rw [jup_c (by decide), jup_c (by decide), jup_c (by decide), f1 18 (by decide) (by decide)]
    exact h1.2.2.1
  refine ⟨m5, ?_, rd_fr h (fun j _ _ => by rw [F 62 (by decide) (by decide)]) (F 63 (by decide) (by decide)) (F 64 (by decide) (by decide)), h1.frame (F 18 (by decide) (by decide)) (F 19 (by decide) (by decide)), ?_, fun c c1 c2 c3 c4 c5 c6 => (F c c5 c6).trans (h3 c c1 c2 c3 c4 c5 c6)⟩
  · unfold f_X3_readLine_J108
    rw [e1, Option.bind_some]
    show Option.bind (f_X5_set 16 17 160 (G.length : Int) 0 l.1 m1) _ = _
    rw [d0, Option.bind_some, d1, Option.bind_some, d2, Option.bind_some]
    unfold f_X5_size
    rw [e18, Option.bind_some, d3, Option.bind_some]
  · have el : ((G ++ [l]).length : Int) = (G.length : Int) + 1 := by rw [List.length_append]; show ((G.length + 1 : Nat) : Int) = _; omega
    rw [el]
    refine u3.congr (fun r c a1 a2 a3 a4 => ?_)
    by_cases hr : r = (G.length : Int)
    · subst hr
      rw [lnF_new]
      obtain rfl | rfl | rfl | rfl : c = 0 ∨ c = 1 ∨ c = 2 ∨ c = 3 := by omega
      all_goals simp only [Int.reduceEq, and_true, and_false, true_and, if_true, if_false]
    · simp only [hr, false_and, if_false]
      exact lnF_old a1 (by omega)
theorem fl2_of {m : jMu} {G : List xLn} {ts : List (Int × Int)} (h : rd m ts) (h1 : TabR m 18 19 1 1600 ((xCo G).length : Int) (cdF (xCo G))) (h2 : TabR m 16 17 4 40 (G.length : Int) (lnF G)) (h3 : ∀ c, c ≠ 62 → c ≠ 65 → c ≠ 18 → c ≠ 19 → c ≠ 16 → c ≠ 17 → m c = m0 c) : fl2 m0 G (xHd ts) (some (0, m)) :=
  ⟨m, [], rfl, h.2.1, by rw [List.append_nil]; exact h1, h2, h3⟩
/-- behind kind and number -/
theorem c_l67 (hB : (B : Int) + n ≤ 1600) {m : jMu} {G : List xLn} {ts : List (Int × Int)} {k v : Int} (h : sLn m0 m G ts) (w : wf n ts) (hl : ts.length ≤ 401) (hG : G.length < 40) (hb : ((xCo G).length : Int) ≤ B + xHd ts) :
    (∀ e, (xK ts = 104 ∧ xSom (xAto 6) (xTl ts) = .inl e) ∨ (xK ts ≠ 104 ∧ k = 100 ∧ e = xHd ts) → fl2 m0 G e (f_X3_readLine_J67 k v m)) ∧
    (∀ c ts', (xK ts = 104 ∧ xSom (xAto 6) (xTl ts) = .inr (c, ts')) ∨ (xK ts ≠ 104 ∧ k ≠ 100 ∧ c = [] ∧ ts' = ts) → ∃ m', f_X3_readLine_J67 k v m = some (1, m') ∧ sLn m0 m' (G ++ [(k, v, c)]) ts' ∧ wf n ts' ∧ ((xCo (G ++ [(k, v, c)])).length : Int) ≤ B + xHd ts' ∧ ts'.length ≤ ts.length) := by
  obtain ⟨h1, h2, h3, h4⟩ := h
  unfold f_X3_readLine_J67 f_X5_size
  rw [h2.2.2.1, Option.bind_some, h1.1]
  by_cases g : xK ts = 104
  · obtain ⟨t1, t2, t3, t4⟩ := wf_tl w (by omega)
    rw [if_neg (by omega)] at t3
    obtain ⟨m1, e1, r1, f1, _⟩ := rd_step h1 t1
    have T1 : TabR m1 18 19 1 1600 ((xCo G).length : Int) (cdF (xCo G)) := h2.frame (f1 18 (by decide)) (f1 19 (by decide))
    have L1 : TabR m1 16 17 4 40 (G.length : Int) (lnF G) := h3.frame (f1 16 (by decide)) (f1 17 (by decide))
    have F1 : ∀ c, c ≠ 62 → c ≠ 65 → c ≠ 18 → c ≠ 19 → c ≠ 16 → c ≠ 17 → m1 c = m0 c := fun c c1 c2 c3 c4 c5 c6 => (f1 c c1).trans (h4 c c1 c2 c3 c4 c5 c6)
    have K := c_cond (m0 := m1) hB r1 T1 (fun _ _ _ _ _ => rfl) t2 (by omega) (by omega)
    rw [if_pos g, e1, Option.bind_some]
    refine ⟨fun e he => ?_, fun c ts' he => ?_⟩
    · obtain ⟨m2, a, i1, i2, i3, i4⟩ := K.1 e (he.resolve_right (fun z => z.1 g)).2
      refine ⟨m2, a, ?_, i2, i3, ?_, fun c c1 c2 c3 c4 c5 c6 => (i4 c c1 c2 c3 c4).trans (F1 c c1 c2 c3 c4 c5 c6)⟩
      · rw [i1, Option.bind_some, if_pos rfl]
      · exact L1.frame (i4 16 (by decide) (by decide) (by decide) (by decide)) (i4 17 (by decide) (by decide) (by decide) (by decide))
    · obtain ⟨m2, i1, i2, i3, i4, i5, i6, i7⟩ := K.2 (c, ts') (he.resolve_right (fun z => z.1 g)).2
      have ec : xCo G ++ c = xCo (G ++ [(k, v, c)]) := (xCo_1 G (k, v, c)).symm
      have i3' : TabR m2 18 19 1 1600 ((xCo (G ++ [(k, v, c)])).length : Int) (cdF (xCo (G ++ [(k, v, c)]))) := by rw [← ec]; exact i3
      obtain ⟨m3, j1, j2⟩ := c_addl (m0 := m0) (l := (k, v, c)) i2 i3' (L1.frame (i4 16 (by decide) (by decide) (by decide) (by decide)) (i4 17 (by decide) (by decide) (by decide) (by decide))) (fun c c1 c2 c3 c4 c5 c6 => (i4 c c1 c2 c3 c4).trans (F1 c c1 c2 c3 c4 c5 c6)) hG
      refine ⟨m3, ?_, j2, i5, by rw [← ec]; exact i6, ?_⟩
      · rw [i1, Option.bind_some, if_neg (show ¬ (1 : Int) = 0 by decide)]
        exact j1
      · have : ts'.length ≤ (xTl ts).length := i7
        omega
  · rw [if_neg g]
    by_cases g2 : k = 100
    · rw [if_pos g2]
      refine ⟨fun e he => ?_, fun c ts' he => ?_⟩
      · rw [(he.resolve_left (fun z => g z.1)).2.2]
        exact fl2_of h1 h2 h3 h4
      · exact ((he.resolve_left (fun z => g z.1)).2.1 g2).elim
    · rw [if_neg g2]
      refine ⟨fun e he => ((g2 (he.resolve_left (fun z => g z.1)).2.1).elim), fun c ts' he => ?_⟩
      obtain ⟨_, _, rfl, rfl⟩ := he.resolve_left (fun z => g z.1)
      have ec : xCo G = xCo (G ++ [(k, v, [])]) := by rw [xCo_1]; exact (List.append_nil _).symm
      obtain ⟨m3, j1, j2⟩ := c_addl (m0 := m0) (l := (k, v, [])) h1 (by rw [← ec]; exact h2) h3 h4 hG
      exact ⟨m3, j1, j2, w, by rw [← ec]; exact hb, Nat.le_refl _⟩
/-- a line -/
theorem c_line (hB : (B : Int) + n ≤ 1600) {m : jMu} {G : List xLn} {ts : List (Int × Int)} (h : sLn m0 m G ts) (w : wf n ts) (hl : ts.length ≤ 401) (hG : G.length < 40) (hb : ((xCo G).length : Int) ≤ B + xHd ts) :
    (∀ e, xLin ts = .inl e → fl2 m0 G e (f_X3_readLine m)) ∧
    (∀ r, xLin ts = .inr r → ∃ m', f_X3_readLine m = some (1, m') ∧ sLn m0 m' (G ++ [r.1]) r.2 ∧ wf n r.2 ∧ ((xCo (G ++ [r.1])).length : Int) ≤ B + xHd r.2 ∧ r.2.length < ts.length) := by
  obtain ⟨h1, h2, h3, h4⟩ := h
  have xs : xLin ts = if 100 ≤ xK ts ∧ xK ts ≤ 103 then
    (if xK ts = 100 then (if xK (xTl ts) = 104 then (match xSom (xAto 6) (xTl (xTl ts)) with | .inl e => .inl e | .inr r => .inr ((100, 0, r.1), r.2)) else .inl (xHd (xTl ts)))
     else if xNum (xK (xTl ts)) = true ∧ ¬ (xK ts = 101 ∧ 48 < xK (xTl ts)) then
      (if xK (xTl (xTl ts)) = 104 then (match xSom (xAto 6) (xTl (xTl (xTl ts))) with | .inl e => .inl e | .inr r => .inr ((xK ts, xK (xTl ts), r.1), r.2))
       else .inr ((xK ts, xK (xTl ts), []), xTl (xTl ts)))
     else .inl (xHd (xTl ts)))
  else .inl (xHd ts) := rfl
  have bad : ¬ (100 ≤ xK ts ∧ xK ts ≤ 103) → f_X3_readLine m = some (0, m) := by
    intro g
    unfold f_X3_readLine
    rw [h1.1]
    by_cases g1 : xK ts < 100
    · rw [if_pos g1]
    · rw [if_neg g1, if_neg (by omega)]
  by_cases g : 100 ≤ xK ts ∧ xK ts ≤ 103
  · rw [if_pos g] at xs
    obtain ⟨t1, t2, t3, t4⟩ := wf_tl w (by omega)
    rw [if_neg (by omega)] at t3
    obtain ⟨m1, e1, r1, f1, _⟩ := rd_step h1 t1
    have s1 : sLn m0 m1 G (xTl ts) := ⟨r1, h2.frame (f1 18 (by decide)) (f1 19 (by decide)), h3.frame (f1 16 (by decide)) (f1 17 (by decide)), fun c c1 c2 c3 c4 c5 c6 => (f1 c c1).trans (h4 c c1 c2 c3 c4 c5 c6)⟩
    have E : f_X3_readLine m = if xK ts = 100 then f_X3_readLine_J67 (xK ts) 0 m1 else (if xNum (xK (xTl ts)) = true ∧ ¬ (xK ts = 101 ∧ 48 < xK (xTl ts)) then f_X3_readLine_J58 (xK ts) m1 else some (0, m1)) := by
      unfold f_X3_readLine
      rw [h1.1, if_neg (by omega), if_pos g.2, e1, Option.bind_some]
      by_cases g1 : xK ts = 100
      · rw [if_pos g1, if_pos g1]
      · rw [if_neg g1, if_neg g1, i7n, Option.bind_some, ite01, r1.1]
        by_cases g2 : 0 ≤ xK (xTl ts) ∧ xK (xTl ts) < 100
        · rw [if_pos g2]
          have g3 : xNum (xK (xTl ts)) = true := xNum_iff.mpr g2
          by_cases g4 : xK ts = 101
          · rw [if_pos g4]
            by_cases g5 : xK (xTl ts) ≤ 48
            · rw [if_pos g5, if_pos ⟨g3, by omega⟩]
            · rw [if_neg g5, if_neg (fun z => z.2 ⟨g4, by omega⟩)]
          · rw [if_neg g4, if_pos ⟨g3, fun z => g4 z.1⟩]
        · rw [if_neg g2, if_neg (fun z => g2 (xNum_iff.mp z.1))]
    by_cases g1 : xK ts = 100
    · rw [if_pos g1] at xs
      rw [E, if_pos g1]
      have K := c_l67 (k := xK ts) (v := 0) hB s1 t2 (by omega) hG (by omega)
      by_cases g2 : xK (xTl ts) = 104
      · rw [if_pos g2] at xs
        cases hx : xSom (xAto 6) (xTl (xTl ts)) with
        | inl e =>
          rw [hx] at xs
          refine ⟨fun e' he => ?_, fun r hr => by rw [xs] at hr; cases hr⟩
          rw [xs] at he
          cases he
          exact K.1 e (Or.inl ⟨g2, hx⟩)
        | inr r =>
          rw [hx] at xs
          refine ⟨fun e' he => (by rw [xs] at he; cases he), fun r' hr => ?_⟩
          rw [xs] at hr
          cases hr
          obtain ⟨m', i1, i2, i3, i4, i5⟩ := K.2 r.1 r.2 (Or.inl ⟨g2, hx⟩)
          rw [g1] at i1 i2 i4
          exact ⟨m', by rw [g1]; exact i1, i2, i3, i4, by show r.2.length < _; omega⟩
      · rw [if_neg g2] at xs
        refine ⟨fun e' he => ?_, fun r' hr => by rw [xs] at hr; cases hr⟩
        rw [xs] at he
        cases he
        exact K.1 _ (Or.inr ⟨g2, g1, rfl⟩)
    · rw [if_neg g1] at xs
      rw [E, if_neg g1]
      by_cases g2 : xNum (xK (xTl ts)) = true ∧ ¬ (xK ts = 101 ∧ 48 < xK (xTl ts))
      · rw [if_pos g2] at xs
        have hn := xNum_iff.mp g2.1
        obtain ⟨u1, u2, u3, u4⟩ := wf_tl t2 (by omega)
        rw [if_neg (by omega)] at u3
        obtain ⟨m2, e2, r2, f2, _⟩ := rd_step r1 u1
        have s2 : sLn m0 m2 G (xTl (xTl ts)) := ⟨r2, s1.2.1.frame (f2 18 (by decide)) (f2 19 (by decide)), s1.2.2.1.frame (f2 16 (by decide)) (f2 17 (by decide)), fun c c1 c2 c3 c4 c5 c6 => (f2 c c1).trans (s1.2.2.2 c c1 c2 c3 c4 c5 c6)⟩
        have E2 : f_X3_readLine_J58 (xK ts) m1 = f_X3_readLine_J67 (xK ts) (xK (xTl ts)) m2 := by
          unfold f_X3_readLine_J58
          rw [e2, Option.bind_some, r1.1]
        rw [if_pos g2, E2]
        have K := c_l67 (k := xK ts) (v := xK (xTl ts)) hB s2 u2 (by omega) hG (by omega)
        by_cases g3 : xK (xTl (xTl ts)) = 104
        · rw [if_pos g3] at xs
          cases hx : xSom (xAto 6) (xTl (xTl (xTl ts))) with
          | inl e =>
            rw [hx] at xs
            refine ⟨fun e' he => ?_, fun r hr => by rw [xs] at hr; cases hr⟩
            rw [xs] at he
            cases he
            exact K.1 e (Or.inl ⟨g3, hx⟩)
          | inr r =>
            rw [hx] at xs
            refine ⟨fun e' he => (by rw [xs] at he; cases he), fun r' hr => ?_⟩
            rw [xs] at hr
            cases hr
            obtain ⟨m', i1, i2, i3, i4, i5⟩ := K.2 r.1 r.2 (Or.inl ⟨g3, hx⟩)
            exact ⟨m', i1, i2, i3, i4, by show r.2.length < _; omega⟩
        · rw [if_neg g3] at xs
          refine ⟨fun e' he => (by rw [xs] at he; cases he), fun r' hr => ?_⟩
          rw [xs] at hr
          cases hr
          obtain ⟨m', i1, i2, i3, i4, i5⟩ := K.2 [] (xTl (xTl ts)) (Or.inr ⟨g3, g1, rfl, rfl⟩)
          exact ⟨m', i1, i2, i3, i4, by show (xTl (xTl ts)).length < _; omega⟩
      · rw [if_neg g2] at xs
        rw [if_neg g2]
        refine ⟨fun e' he => ?_, fun r' hr => by rw [xs] at hr; cases hr⟩
        rw [xs] at he
        cases he
        exact fl2_of s1.1 s1.2.1 s1.2.2.1 s1.2.2.2
  · rw [if_neg g] at xs
    rw [bad g]
    refine ⟨fun e' he => ?_, fun r' hr => by rw [xs] at hr; cases hr⟩
    rw [xs] at he
    cases he
    exact fl2_of h1 h2 h3 h4
/-- the lines of a text -/
def oL (m0 : jMu) (G0 : List xLn) (n : Int) (B : Nat) (g : Int ⊕ List xLn) (X : Option (Int × jMu)) : Prop :=
  (∀ e, g = .inl e → ∃ (m' : jMu) (L : List xLn) (a : List Int), X = some (e, m') ∧ TabR m' 18 19 1 1600 ((xCo G0 ++ a).length : Int) (cdF (xCo G0 ++ a)) ∧ TabR m' 16 17 4 40 ((G0 ++ L).length : Int) (lnF (G0 ++ L)) ∧ ∀ c, c ≠ 62 → c ≠ 65 → c ≠ 18 → c ≠ 19 → c ≠ 16 → c ≠ 17 → m' c = m0 c) ∧
  (∀ L, g = .inr L → ∃ m', X = some (-1, m') ∧ TabR m' 18 19 1 1600 ((xCo (G0 ++ L)).length : Int) (cdF (xCo (G0 ++ L))) ∧ TabR m' 16 17 4 40 ((G0 ++ L).length : Int) (lnF (G0 ++ L)) ∧ (∀ c, c ≠ 62 → c ≠ 65 → c ≠ 18 → c ≠ 19 → c ≠ 16 → c ≠ 17 → m' c = m0 c) ∧ ((xCo (G0 ++ L)).length : Int) ≤ B + n)
theorem c_lines (hB : (B : Int) + n ≤ 1600) {G0 : List xLn} (hG0 : G0.length ≤ 30) : ∀ (q : Nat) (k : Nat) (f : Nat) (a : List xLn) (ts : List (Int × Int)) (m : jMu), q + k = 10 → a.length = k → q < f → sLn m0 m (G0 ++ a) ts → wf n ts → ts.length ≤ 401 → ((xCo (G0 ++ a)).length : Int) ≤ B + xHd ts → oL m0 G0 n B (xLis q a ts) (f_X3_readText_L27 f (k : Int) m) := by
  intro q
  induction q with
  | zero =>
    intro k f a ts m hk ha hf h w hl hb
    obtain ⟨f, rfl⟩ : ∃ t, f = t + 1 := ⟨f - 1, by omega⟩
    rw [f_X3_readText_L27, if_pos (by omega)]
    refine ⟨fun e he => ?_, fun L hL => by cases hL⟩
    cases he
    exact ⟨m, a, xCo a, by rw [h.1.2.1], by rw [← xCo_app]; exact h.2.1, h.2.2.1, h.2.2.2⟩
  | succ q ih =>
    intro k f a ts m hk ha hf h w hl hb
    obtain ⟨f, rfl⟩ : ∃ t, f = t + 1 := ⟨f - 1, by omega⟩
    have K := c_line hB h w hl (by rw [List.length_append]; omega) hb
    rw [f_X3_readText_L27, if_neg (by omega), xLis_s]
    cases hx : xLin ts with
    | inl e =>
      obtain ⟨m1, b, i1, i2, i3, i4, i5⟩ := K.1 e hx
      rw [i1, Option.bind_some, if_pos rfl]
      refine ⟨fun e' he => ?_, fun L hL => by cases hL⟩
      cases he
      exact ⟨m1, a, xCo a ++ b, (by show some (m1 62 10, m1) = some (e, m1); rw [i2]), by rw [← List.append_assoc, ← xCo_app]; exact i3, i4, i5⟩
    | inr r =>
      obtain ⟨m1, i1, i2, i3, i4, i5⟩ := K.2 r hx
      have hd := wf_hd i3
      rw [List.append_assoc] at i2 i4
      rw [i1, Option.bind_some, if_neg (show ¬ (1 : Int) = 0 by decide)]
      dsimp only
      simp only [i2.1.1]
      by_cases g1 : xK r.2 = 130
      · rw [if_pos g1, if_pos g1]
        refine ⟨fun e' he => (by cases he), fun L hL => ?_⟩
        cases hL
        exact ⟨m1, rfl, i2.2.1, i2.2.2.1, i2.2.2.2, by omega⟩
      · rw [if_neg g1, if_neg g1]
        by_cases g2 : xK r.2 = 122
        · obtain ⟨t1, t2, t3, t4⟩ := wf_tl i3 g1
          rw [if_neg (by omega)] at t3
          obtain ⟨m2, e2, r2, f2, _⟩ := rd_step i2.1 t1
          have s2 : sLn m0 m2 (G0 ++ (a ++ [r.1])) (xTl r.2) := ⟨r2, i2.2.1.frame (f2 18 (by decide)) (f2 19 (by decide)), i2.2.2.1.frame (f2 16 (by decide)) (f2 17 (by decide)), fun c c1 c2 c3 c4 c5 c6 => (f2 c c1).trans (i2.2.2.2 c c1 c2 c3 c4 c5 c6)⟩
          rw [if_pos g2, if_pos g2, e2, Option.bind_some, jW_of (by omega) (by omega)]
          have I := ih (k + 1) f (a ++ [r.1]) (xTl r.2) m2 (by omega) (by rw [List.length_append, ha]; rfl) (by omega) s2 t2 (by omega) (by omega)
          rw [show ((k + 1 : Nat) : Int) = (k : Int) + 1 by omega] at I
          exact I
        · rw [if_neg g2, if_neg g2]
          refine ⟨fun e' he => ?_, fun L hL => by cases hL⟩
          cases he
          exact ⟨m1, a ++ [r.1], xCo (a ++ [r.1]), by rw [i2.1.2.1], by rw [← xCo_app]; exact i2.2.1, i2.2.2.1, i2.2.2.2⟩
end LINES
/-- a text -/
theorem c_text {m : jMu} {n : Int} {G0 : List xLn} (hn : m 30 1 = n) (hb : 0 ≤ n ∧ n ≤ 400) (hG0 : G0.length ≤ 30) (hC : (xCo G0).length ≤ 1200) (h1 : TabR m 18 19 1 1600 ((xCo G0).length : Int) (cdF (xCo G0))) (h2 : TabR m 16 17 4 40 (G0.length : Int) (lnF G0)) : ∃ m0, (∀ c, c ≠ 62 → c ≠ 63 → c ≠ 64 → m0 c = m c) ∧ oL m0 G0 n (xCo G0).length (xPar (m 31) n) (f_X3_readText m) := by
  obtain ⟨m1, e1, w1, w2, w3, w4, w5⟩ := c_splitL (b := m 31) hb 401 jFU 0 0 (jup m 62 5 0) (by rw [jup_c (by decide)]; exact hn) (jup_c (by decide)) jup_s (Int.le_refl _) hb.1 (by omega) (by unfold jFU; omega) (Int.le_refl _) (by omega)
  have W := xTo_wf (b := m 31) (n := n) 401 0 hb.1
  have hd := xTo_hd (b := m 31) (n := n) 401 0 hb.1
  have ln := wf_len W
  have h9 := wf_hd W
  generalize hts : xTo (m 31) n 401 0 = ts at *
  have R0 : rd (jup m1 62 8 0) ((m1 62 9, m1 62 10) :: ts) := by
    refine ⟨by rw [jup_j (by decide)]; rfl, by rw [jup_j (by decide)]; rfl, by rw [jup_s]; exact Int.le_refl _, ?_, ?_, fun i hi => ?_⟩
    · rw [jup_j (by decide), jup_s, w1]; rfl
    · rw [jup_j (by decide), w1]; omega
    · have := w2 i hi
      rw [jup_s, jup_c (by decide), jup_c (by decide)]
      exact this
  have hne : xTl ((m1 62 9, m1 62 10) :: ts) ≠ [] := by
    intro z
    have z' : ts = [] := z
    rw [z'] at W
    exact W
  obtain ⟨m2, e2, r2, f2, _⟩ := rd_step R0 hne
  have F : ∀ c, c ≠ 62 → c ≠ 63 → c ≠ 64 → m2 c = m c := fun c c1 c2 c3 => by rw [f2 c c1, jup_c c1, w5 c c1 c2 c3, jup_c c1]
  have r2' : rd m2 ts := r2
  refine ⟨m2, F, ?_⟩
  have E : f_X3_readText m = if xK ts = 130 then some (-1, m2) else f_X3_readText_L27 jFU 0 m2 := by
    unfold f_X3_readText f_X3_splitWords
    rw [jlt_eq, e1, Option.bind_some, jlt_eq, e2, Option.bind_some, r2'.1]
  have xp : xPar (m 31) n = if xK ts = 130 then .inr [] else xLis 10 [] ts := by
    unfold xPar xTxt
    rw [hts]
  have s2 : sLn m2 m2 (G0 ++ []) ts := by
    rw [List.append_nil]
    exact ⟨r2', h1.frame (F 18 (by decide) (by decide) (by decide)) (F 19 (by decide) (by decide) (by decide)), h2.frame (F 16 (by decide) (by decide) (by decide)) (F 17 (by decide) (by decide) (by decide)), fun _ _ _ _ _ _ _ => rfl⟩
  rw [E, xp]
  by_cases g : xK ts = 130
  · rw [if_pos g, if_pos g]
    refine ⟨fun e he => (by cases he), fun L hL => ?_⟩
    cases hL
    refine ⟨m2, rfl, s2.2.1, s2.2.2.1, s2.2.2.2, ?_⟩
    rw [List.append_nil]
    omega
  · rw [if_neg g, if_neg g]
    exact c_lines (n := n) (B := (xCo G0).length) (by omega) hG0 10 0 jFU [] ts m2 rfl rfl (by unfold jFU; omega) s2 W (by omega) (by rw [List.append_nil]; omega)
