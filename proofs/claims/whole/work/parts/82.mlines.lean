/-! LEVEL 2: the reference reads lines -/
def ls (m : jMu) (st dr ho pa : Int) : jMu := fun c j => if c = 74 then (if j = 15 then st else if j = 16 then dr else if j = 17 then ho else if j = 18 then pa else m 74 j) else m c j
section LINE
variable {m : jMu} {b : Int → Int} {n st dr ho pa p f d v : Int}
theorem ls_15 : ps (ls m st dr ho pa) p f d 74 15 = st := rfl
theorem ls_u15 : jup (ps (ls m st dr ho pa) p f d) 74 15 v = ps (ls m v dr ho pa) p f d := by
  funext c j
  unfold jup ps ls
  by_cases hc : c = 74
  · subst hc
    by_cases hj : j = 15
    · subst hj; rfl
    · simp only [hj, and_false, if_true, if_false]
  · simp only [hc, false_and, if_false]
theorem ls_u16 : jup (ps (ls m st dr ho pa) p f d) 74 16 v = ps (ls m st v ho pa) p f d := by
  funext c j
  unfold jup ps ls
  by_cases hc : c = 74
  · subst hc
    by_cases hj : j = 16
    · subst hj; rfl
    · simp only [hj, and_false, if_true, if_false]
  · simp only [hc, false_and, if_false]
theorem ls_u17 : jup (ps (ls m st dr ho pa) p f d) 74 17 v = ps (ls m st dr v pa) p f d := by
  funext c j
  unfold jup ps ls
  by_cases hc : c = 74
  · subst hc
    by_cases hj : j = 17
    · subst hj; rfl
    · simp only [hj, and_false, if_true, if_false]
  · simp only [hc, false_and, if_false]
theorem ls_u18 : jup (ps (ls m st dr ho pa) p f d) 74 18 v = ps (ls m st dr ho v) p f d := by
  funext c j
  unfold jup ps ls
  by_cases hc : c = 74
  · subst hc
    by_cases hj : j = 18
    · subst hj; rfl
    · simp only [hj, and_false, if_true, if_false]
  · simp only [hc, false_and, if_false]
theorem pB.ls (B : pB m b n) : pB (ls m st dr ho pa) b n := ⟨B.1, B.2.1, B.2.2.1, fun p f d k h1 h2 => B.2.2.2 p f d k h1 h2⟩
theorem pE.ls (E : pE m) : pE (ls m st dr ho pa) := E
theorem xE_ls : xE (ls m st dr ho pa) = xE m := rfl
theorem Gd.hol {e : Int → Int} {cs : List Int} {v : Int} (h : Gd e cs v) : (xHo e cs = true ↔ v = 1) := by
  obtain ⟨h1, h2⟩ := h
  obtain ⟨l', e1⟩ := h2 1 0
  unfold xHo
  rw [e1, decide_eq_true_iff]
  dsimp only
  omega
theorem xHo_n (e : Int → Int) : xHo e [] = true := rfl
/-- what a line that holds changes -/
def lu (ok : Prop) [Decidable ok] (k k' num w : Int) : Int := if k = k' ∧ ok then num else w
def lst (ok : Prop) [Decidable ok] (k place st : Int) : Int := if k = 100 ∧ ok ∧ st = -1 then place else st
/-- the line's end: what holds is written -/
theorem m_J143 {k0 place num : Int} (hk : 0 ≤ k0 ∧ k0 ≤ 3) (ok : Prop) [Decidable ok] (g : ok) : f_X10_line_J143 place k0 num 1 (ps (ls m st dr ho pa) p (-1) d) = some (ps (ls m (lst ok (100 + k0) place st) (lu ok (100 + k0) 101 num dr) (lu ok (100 + k0) 102 num ho) (lu ok (100 + k0) 103 num pa)) p (-1) d) := by
  unfold f_X10_line_J143
  rw [if_neg (by decide), ps_9, if_pos rfl]
  obtain rfl | rfl | rfl | rfl : k0 = 0 ∨ k0 = 1 ∨ k0 = 2 ∨ k0 = 3 := by omega
  · unfold f_X10_line_J176 f_X10_line_J186 lst lu
    simp only [Int.reduceEq, Int.reduceAdd, if_true, if_false, false_and, true_and, ls_15, jlt_eq, ls_u15]
    by_cases hs : st = -1
    · rw [if_pos hs, if_pos ⟨g, hs⟩]
    · rw [if_neg hs, if_neg (fun z => hs z.2)]
  · unfold f_X10_line_J176 f_X10_line_J186 lst lu
    simp only [Int.reduceEq, Int.reduceAdd, if_true, if_false, false_and, true_and, jlt_eq, ls_u16, if_pos g]
  · unfold f_X10_line_J176 f_X10_line_J186 lst lu
    simp only [Int.reduceEq, Int.reduceAdd, if_true, if_false, false_and, true_and, jlt_eq, ls_u17, if_pos g]
  · unfold f_X10_line_J176 f_X10_line_J186 lst lu
    simp only [Int.reduceEq, Int.reduceAdd, if_true, if_false, false_and, true_and, jlt_eq, ls_u18, if_pos g]
theorem lu_no {ok : Prop} [Decidable ok] (h : ¬ ok) (k k' num w : Int) : lu ok k k' num w = w := if_neg (fun z => h z.2)
theorem lst_no {ok : Prop} [Decidable ok] (h : ¬ ok) (k place w : Int) : lst ok k place w = w := if_neg (fun z => h z.2.1)
/-- behind the head of a line: a condition, or none -/
theorem m_J91 (B : pB m b n) (E : pE m) {k0 place num : Int} (hk : 0 ≤ k0 ∧ k0 ≤ 3) (h0 : 0 ≤ p) (hp : p ≤ n) :
    (xK (tk b n p) = 104 → (∀ er, xSom (xAto 6) (xTl (tk b n p)) = .inl er → 0 ≤ er ∧ ∃ p' d', (0 ≤ p' ∧ p' ≤ 1000) ∧ f_X10_line_J91 place k0 num (ps (ls m st dr ho pa) p (-1) 0) = some (ps (ls m st dr ho pa) p' er d')) ∧
      (∀ r, xSom (xAto 6) (xTl (tk b n p)) = .inr r → ∃ p', p < p' ∧ p' ≤ n ∧ r.2 = tk b n p' ∧ f_X10_line_J91 place k0 num (ps (ls m st dr ho pa) p (-1) 0) = some (ps (ls m (lst (xHo (xE m) r.1 = true) (100 + k0) place st) (lu (xHo (xE m) r.1 = true) (100 + k0) 101 num dr) (lu (xHo (xE m) r.1 = true) (100 + k0) 102 num ho) (lu (xHo (xE m) r.1 = true) (100 + k0) 103 num pa)) p' (-1) 0))) ∧
    (xK (tk b n p) ≠ 104 → k0 = 0 → ∃ p' d', (0 ≤ p' ∧ p' ≤ 1000) ∧ f_X10_line_J91 place k0 num (ps (ls m st dr ho pa) p (-1) 0) = some (ps (ls m st dr ho pa) p' (sk b n p) d')) ∧
    (xK (tk b n p) ≠ 104 → k0 ≠ 0 → f_X10_line_J91 place k0 num (ps (ls m st dr ho pa) p (-1) 0) = some (ps (ls m (lst (xHo (xE m) [] = true) (100 + k0) place st) (lu (xHo (xE m) [] = true) (100 + k0) 101 num dr) (lu (xHo (xE m) [] = true) (100 + k0) 102 num ho) (lu (xHo (xE m) [] = true) (100 + k0) 103 num pa)) (sk b n p) (-1) 0)) := by
  have h400 := B.2.2.1
  have l := sk_le (b := b) (n := n) p
  have B' := B.ls (st := st) (dr := dr) (ho := ho) (pa := pa)
  have E' := E.ls (st := st) (dr := dr) (ho := ho) (pa := pa)
  have a1 := m_hasW (f := -1) (d := 0) B' h0 hp (w := 6) (k := 104) (by decide)
  unfold f_X10_line_J91
  rw [ps_9, if_pos rfl, a1, Option.bind_some]
  refine ⟨fun hk1 => ?_, fun hk1 hk0 => ?_, fun hk1 hk0 => ?_⟩
  · have hlt := tk_lt (b := b) h400 h0 (by omega)
    have g := nx_le (b := b) hlt
    have HS := m_some B' (m_atom B' E' 6 (by omega))
    have hd0 : (6 : Int) - ((6 : Nat) : Int) = 0 := by omega
    rw [hd0] at HS
    obtain ⟨I1, I2⟩ := HS (nx b n p) (by omega) g.2
    rw [if_pos hk1, tk_tl h400 h0 hlt]
    have e1 : (if k0 = 0 then (if (1 : Int) = 0 then (f_X10_wrong (ps (ls m st dr ho pa) (nx b n p) (-1) 0 74 8) (ps (ls m st dr ho pa) (nx b n p) (-1) 0)).bind fun r7 => f_X10_line_J126 place k0 num 1 r7 else f_X10_line_J126 place k0 num 1 (ps (ls m st dr ho pa) (nx b n p) (-1) 0)) else f_X10_line_J126 place k0 num 1 (ps (ls m st dr ho pa) (nx b n p) (-1) 0)) = f_X10_line_J126 place k0 num 1 (ps (ls m st dr ho pa) (nx b n p) (-1) 0) := by
      rw [ite10, ite_self]
    dsimp only
    rw [e1]
    unfold f_X10_line_J126
    rw [if_neg (by decide)]
    refine ⟨fun er h1 => ?_, fun r h1 => ?_⟩
    · obtain ⟨c0, w, p', d', c1, c2, c3⟩ := I1 er h1
      rw [c3, Option.bind_some]
      refine ⟨c0, p', d', ⟨c2.1, by omega⟩, ?_⟩
      dsimp only
      unfold f_X10_line_J138 f_X10_line_J143
      by_cases hw : w = 0
      · rw [if_pos hw, if_pos rfl]
      · rw [if_neg hw, if_neg (by decide), ps_9, if_neg (by omega)]
    · obtain ⟨w, p', c1, c2, c3, c4, c5⟩ := I2 r h1
      rw [xE_ls] at c5
      rw [c4, Option.bind_some]
      refine ⟨p', by omega, c2, c3, ?_⟩
      dsimp only
      by_cases hw : w = 0
      · have hh : ¬ xHo (xE m) r.1 = true := fun z => by have := c5.hol.mp z; omega
        rw [if_pos hw, lst_no hh, lu_no hh, lu_no hh, lu_no hh]
        unfold f_X10_line_J143
        rw [if_pos rfl]
      · rw [if_neg hw]
        unfold f_X10_line_J138
        exact m_J143 hk _ (c5.hol.mpr (c5.1.resolve_left hw))
  · rw [if_neg hk1]
    dsimp only
    rw [if_pos hk0, if_pos rfl, ps_8, m_wrong, Option.bind_some]
    unfold f_X10_line_J126
    rw [if_pos rfl]
    unfold f_X10_line_J138 f_X10_line_J143
    rw [if_neg (by decide), ps_9, if_neg (by omega)]
    exact ⟨_, _, ⟨by omega, by have := l.2 hp; omega⟩, rfl⟩
  · rw [if_neg hk1]
    dsimp only
    rw [if_neg hk0]
    unfold f_X10_line_J126
    rw [if_pos rfl]
    unfold f_X10_line_J138
    exact m_J143 hk _ (xHo_n _)
/-- a line -/
theorem m_line (B : pB m b n) (E : pE m) {place : Int} (h0 : 0 ≤ p) (hp : p ≤ n) :
    (∀ er, xLin (tk b n p) = .inl er → 0 ≤ er ∧ ∃ p' d', (0 ≤ p' ∧ p' ≤ 1000) ∧ f_X10_line place (ps (ls m st dr ho pa) p (-1) 0) = some (ps (ls m st dr ho pa) p' er d')) ∧
    (∀ r, xLin (tk b n p) = .inr r → (100 ≤ r.1.1 ∧ r.1.1 ≤ 103) ∧ ∃ p', p < p' ∧ p' ≤ n ∧ r.2 = tk b n p' ∧ f_X10_line place (ps (ls m st dr ho pa) p (-1) 0) = some (ps (ls m (lst (xHo (xE m) r.1.2.2 = true) r.1.1 place st) (lu (xHo (xE m) r.1.2.2 = true) r.1.1 101 r.1.2.1 dr) (lu (xHo (xE m) r.1.2.2 = true) r.1.1 102 r.1.2.1 ho) (lu (xHo (xE m) r.1.2.2 = true) r.1.1 103 r.1.2.1 pa)) p' (-1) 0)) := by
  have h400 := B.2.2.1
  have l := sk_le (b := b) (n := n) p
  have l2 := l.2 hp
  have hs : 0 ≤ sk b n p := by omega
  have htk : tk b n p = tk b n (sk b n p) := tk_sk h400 h0
  have hnx := nx_sk (b := b) h400 h0
  have hss := sk_sk (b := b) h0 h400
  have B' := B.ls (st := st) (dr := dr) (ho := ho) (pa := pa)
  have a1 := m_hasW (f := -1) (d := 0) B' h0 hp (w := 2) (k := 100) (by decide)
  have a2 := m_hasW (f := -1) (d := 0) B' hs l2 (w := 3) (k := 101) (by decide)
  have a3 := m_hasW (f := -1) (d := 0) B' hs l2 (w := 4) (k := 102) (by decide)
  have a4 := m_hasW (f := -1) (d := 0) B' hs l2 (w := 5) (k := 103) (by decide)
  rw [← htk, hnx, hss] at a2 a3 a4
  have hd := tk_hd (b := b) h400 h0 hp
  unfold xLin f_X10_line
  by_cases hk : 100 ≤ xK (tk b n p) ∧ xK (tk b n p) ≤ 103
  · have hlt := tk_lt (b := b) h400 h0 (by omega)
    have g := nx_le (b := b) hlt
    have g0 : 0 ≤ nx b n p := by omega
    rw [if_pos hk, tk_tl h400 h0 hlt]
    -- the head
    have head : (f_X10_has 2 (ps (ls m st dr ho pa) p (-1) 0)).bind (fun r1 => (if r1.1 = 0 then (f_X10_has 3 r1.2).bind fun r2 => (if r2.1 = 0 then (f_X10_has 4 r2.2).bind fun r3 => (if r3.1 = 0 then (f_X10_has 5 r3.2).bind fun r4 => (if r4.1 = 0 then f_X10_line_J53 place (-1) r4.2 else f_X10_line_J53 place 3 r4.2) else f_X10_line_J53 place 2 r3.2) else f_X10_line_J53 place 1 r2.2) else f_X10_line_J53 place 0 r1.2)) = f_X10_line_J67 place (xK (tk b n p) - 100) (ps (ls m st dr ho pa) (nx b n p) (-1) 0) := by
      obtain e | e | e | e : xK (tk b n p) = 100 ∨ xK (tk b n p) = 101 ∨ xK (tk b n p) = 102 ∨ xK (tk b n p) = 103 := by omega
      · rw [e] at a1 ⊢
        simp only [a1, Option.bind_some, if_true, ite10, f_X10_line_J53, Int.reduceSub]
        rw [if_neg (by decide)]
      · rw [e] at a1 a2 ⊢
        simp only [a1, a2, Option.bind_some, Int.reduceEq, if_true, if_false, ite10, ite00, f_X10_line_J53, Int.reduceSub]
      · rw [e] at a1 a2 a3 ⊢
        simp only [a1, a2, a3, Option.bind_some, Int.reduceEq, if_true, if_false, ite10, ite00, f_X10_line_J53, Int.reduceSub]
      · rw [e] at a1 a2 a3 a4 ⊢
        simp only [a1, a2, a3, a4, Option.bind_some, Int.reduceEq, if_true, if_false, ite10, ite00, f_X10_line_J53, Int.reduceSub]
    rw [head]
    unfold f_X10_line_J67
    by_cases k0 : xK (tk b n p) = 100
    · rw [if_pos k0, k0, if_pos (show (100 : Int) - 100 = 0 by decide)]
      obtain ⟨J1, J2, J3⟩ := m_J91 (st := st) (dr := dr) (ho := ho) (pa := pa) B E (k0 := 100 - 100) (place := place) (num := 0) (by decide) g0 g.2
      rw [show (100 : Int) + (100 - 100) = 100 from rfl] at J1
      by_cases k4 : xK (tk b n (nx b n p)) = 104
      · rw [if_pos k4]
        obtain ⟨J4, J5⟩ := J1 k4
        cases hx : xSom (xAto 6) (xTl (tk b n (nx b n p))) with
        | inl er' =>
          refine ⟨fun er h1 => ?_, fun r h1 => (by cases h1)⟩
          cases h1
          exact J4 er' hx
        | inr r1 =>
          refine ⟨fun er h1 => (by cases h1), fun r h1 => ?_⟩
          cases h1
          obtain ⟨p', c1, c2, c3, c4⟩ := J5 r1 hx
          exact ⟨⟨by show (100 : Int) ≤ 100; decide, by show (100 : Int) ≤ 103; decide⟩, p', by omega, c2, c3, c4⟩
      · rw [if_neg k4, tk_hd h400 g0 g.2]
        refine ⟨fun er h1 => ?_, fun r h1 => (by cases h1)⟩
        cases h1
        have l3 := sk_le (b := b) (n := n) (nx b n p)
        exact ⟨by omega, J2 k4 (by decide)⟩
    · rw [if_neg k0, if_neg (show ¬ xK (tk b n p) - 100 = 0 by omega)]
      have h9 : xK (tk b n p) - 100 ≠ 0 := by omega
      -- the number
      have num : (if xK (tk b n p) - 100 = 1 then f_X10_line_J88 place (xK (tk b n p) - 100) 48 (ps (ls m st dr ho pa) (nx b n p) (-1) 0) else f_X10_line_J88 place (xK (tk b n p) - 100) 99 (ps (ls m st dr ho pa) (nx b n p) (-1) 0)) = f_X10_line_J88 place (xK (tk b n p) - 100) (if xK (tk b n p) - 100 = 1 then 48 else 99) (ps (ls m st dr ho pa) (nx b n p) (-1) 0) := by
        split <;> rfl
      rw [num]
      unfold f_X10_line_J88
      obtain ⟨N1, N2⟩ := m_num (h := if xK (tk b n p) - 100 = 1 then 48 else 99) (d := 0) B' g0 g.2
      by_cases kn : xNum (xK (tk b n (nx b n p))) = true ∧ ¬ (xK (tk b n p) = 101 ∧ 48 < xK (tk b n (nx b n p)))
      · have z := xNum_iff.mp kn.1
        have z2 : xK (tk b n (nx b n p)) ≤ if xK (tk b n p) - 100 = 1 then 48 else 99 := by
          split
          · have := kn.2; omega
          · omega
        have hlt2 := tk_lt (b := b) h400 g0 (by omega)
        have g2 := nx_le (b := b) hlt2
        have g20 : 0 ≤ nx b n (nx b n p) := by omega
        rw [if_pos kn, N1 ⟨z.1, z.2, z2⟩, Option.bind_some, tk_tl h400 g0 hlt2]
        dsimp only
        obtain ⟨J1, J2, J3⟩ := m_J91 (st := st) (dr := dr) (ho := ho) (pa := pa) B E (k0 := xK (tk b n p) - 100) (place := place) (num := xK (tk b n (nx b n p))) (by omega) g20 g2.2
        rw [show (100 : Int) + (xK (tk b n p) - 100) = xK (tk b n p) by omega] at J1 J3
        by_cases k4 : xK (tk b n (nx b n (nx b n p))) = 104
        · rw [if_pos k4]
          obtain ⟨J4, J5⟩ := J1 k4
          cases hx : xSom (xAto 6) (xTl (tk b n (nx b n (nx b n p)))) with
          | inl er' =>
            refine ⟨fun er h1 => ?_, fun r h1 => (by cases h1)⟩
            cases h1
            exact J4 er' hx
          | inr r1 =>
            refine ⟨fun er h1 => (by cases h1), fun r h1 => ?_⟩
            cases h1
            obtain ⟨p', c1, c2, c3, c4⟩ := J5 r1 hx
            exact ⟨hk, p', by omega, c2, c3, c4⟩
        · rw [if_neg k4]
          refine ⟨fun er h1 => (by cases h1), fun r h1 => ?_⟩
          cases h1
          have l3 := sk_le (b := b) (n := n) (nx b n (nx b n p))
          have h8 : p < sk b n (nx b n (nx b n p)) := Int.lt_of_lt_of_le g.1 (Int.le_trans (Int.le_of_lt g2.1) l3.1)
          exact ⟨hk, sk b n (nx b n (nx b n p)), h8, l3.2 g2.2, tk_sk h400 g20, J3 k4 h9⟩
      · rw [if_neg kn, tk_hd h400 g0 g.2]
        refine ⟨fun er h1 => ?_, fun r h1 => (by cases h1)⟩
        cases h1
        have l3 := sk_le (b := b) (n := n) (nx b n p)
        obtain ⟨v, p', c1, c2⟩ := N2 (fun y => kn ⟨xNum_iff.mpr ⟨y.1, y.2.1⟩, fun x => absurd x.2 (Int.not_lt.mpr (Int.le_trans y.2.2 (Int.le_of_eq (if_pos (by rw [x.1]; decide)))))⟩) (by split <;> omega)
        rw [c2, Option.bind_some]
        dsimp only
        unfold f_X10_line_J91
        rw [ps_9, if_neg (by omega)]
        exact ⟨by omega, p', 0, ⟨c1.1, by omega⟩, rfl⟩
  · rw [if_neg hk, hd]
    refine ⟨fun er h1 => ?_, fun r h1 => (by cases h1)⟩
    cases h1
    refine ⟨hs, sk b n p, 0, ⟨hs, by omega⟩, ?_⟩
    rw [a1, if_neg (by omega)]
    simp only [Option.bind_some, if_true]
    rw [a2, if_neg (by omega)]
    simp only [Option.bind_some, if_true]
    rw [a3, if_neg (by omega)]
    simp only [Option.bind_some, if_true]
    rw [a4, if_neg (by omega)]
    simp only [Option.bind_some, if_true, f_X10_line_J53, ps_8, m_wrong]
    unfold f_X10_line_J67 f_X10_line_J88 f_X10_number f_X10_line_J91
    rw [if_neg (by decide), if_neg (by decide), ps_9, if_neg (by omega), Option.bind_some]
    simp only [ps_9, if_neg (show ¬ sk b n p = -1 by omega)]
end LINE
