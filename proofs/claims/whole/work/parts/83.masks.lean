/-! LEVEL 2: the reference reads a text -/
theorem xStop_ap (e : Int → Int) (l : xLn) : ∀ (a : List xLn) (i : Int), 0 ≤ i → xStop e i (a ++ [l]) = if xStop e i a = -1 then (if l.1 = 100 ∧ xHo e l.2.2 = true then i + a.length else -1) else xStop e i a := by
  intro a
  induction a with
  | nil =>
    intro i hi
    show (if l.1 = 100 ∧ xHo e l.2.2 = true then i else -1) = if (-1 : Int) = -1 then (if l.1 = 100 ∧ xHo e l.2.2 = true then i + ((0 : Nat) : Int) else -1) else -1
    rw [if_pos rfl]
    simp only [Int.natCast_zero, Int.add_zero]
  | cons x a ih =>
    intro i hi
    have e1 : xStop e i (x :: a ++ [l]) = if x.1 = 100 ∧ xHo e x.2.2 = true then i else xStop e (i + 1) (a ++ [l]) := rfl
    have e2 : xStop e i (x :: a) = if x.1 = 100 ∧ xHo e x.2.2 = true then i else xStop e (i + 1) a := rfl
    rw [e1, e2]
    by_cases h : x.1 = 100 ∧ xHo e x.2.2 = true
    · rw [if_pos h, if_pos h, if_neg (by omega)]
    · rw [if_neg h, if_neg h, ih (i + 1) (by omega)]
      have : i + 1 + (a.length : Int) = i + ((x :: a).length : Int) := by rw [List.length_cons]; omega
      rw [this]
theorem xLast_ap (e : Int → Int) (k : Int) (l : xLn) : ∀ (a : List xLn) (w : Int), xLast e k w (a ++ [l]) = if l.1 = k ∧ xHo e l.2.2 = true then l.2.1 else xLast e k w a := by
  intro a
  induction a with
  | nil => intro w; rfl
  | cons x a ih => intro w; exact ih _
theorem xKi_130 {b : Int → Int} {n p : Int} (hn : n ≤ 400) (h0 : 0 ≤ p) : xKi b n p ≠ 130 := by
  cases hl : xL (b p) with
  | true =>
    rw [xKi_L hl]
    have := xKd_rg (xSl b p (xLe b n p - p).toNat) xWs (fun w hw => ⟨(xWs_in w hw).1, (xWs_in w hw).2.1⟩)
    omega
  | false =>
    cases hd : xD (b p) with
    | true => have := xKi_Dr hn h0 hd; omega
    | false =>
      rw [xKi_S (by rw [hl]; decide) (by rw [hd]; decide)]
      have := xSg_rg (b p)
      omega
/-- the reference's state behind some lines -/
def la (m : jMu) (a : List xLn) : jMu := ls m (xStop (xE m) 0 a) (xLast (xE m) 101 0 a) (xLast (xE m) 102 30 a) (xLast (xE m) 103 0 a)
section LINE
variable {m : jMu} {b : Int → Int} {n : Int}
theorem la_ap {a : List xLn} {l : xLn} : la m (a ++ [l]) = ls m (lst (xHo (xE m) l.2.2 = true) l.1 a.length (xStop (xE m) 0 a)) (lu (xHo (xE m) l.2.2 = true) l.1 101 l.2.1 (xLast (xE m) 101 0 a)) (lu (xHo (xE m) l.2.2 = true) l.1 102 l.2.1 (xLast (xE m) 102 30 a)) (lu (xHo (xE m) l.2.2 = true) l.1 103 l.2.1 (xLast (xE m) 103 0 a)) := by
  unfold la lu lst
  rw [xStop_ap _ _ _ _ (by decide), xLast_ap, xLast_ap, xLast_ap, Int.zero_add]
  congr 1
  by_cases h1 : xStop (xE m) 0 a = -1
  · rw [if_pos h1]
    by_cases h2 : l.1 = 100 ∧ xHo (xE m) l.2.2 = true
    · rw [if_pos h2, if_pos ⟨h2.1, h2.2, h1⟩]
    · rw [if_neg h2, if_neg (fun z => h2 ⟨z.1, z.2.1⟩), h1]
  · rw [if_neg h1, if_neg (fun z => h1 z.2.2)]
theorem xLis_s (q : Nat) (a : List xLn) (ts : List (Int × Int)) : xLis (q + 1) a ts = match xLin ts with
    | .inl e => .inl e
    | .inr r => if xK r.2 = 130 then .inr (a ++ [r.1]) else if xK r.2 = 122 then xLis q (a ++ [r.1]) (xTl r.2) else .inl (xHd r.2) := rfl
theorem m_L54e {Q : Nat} {v2 : Int} {x : jMu} : f_X10_lines_L54 (Q + 1) 0 v2 x = some x := by
  rw [f_X10_lines_L54, if_pos rfl]
theorem m_L54f {Q : Nat} {v2 p er d : Int} {x : jMu} (h : er ≠ -1) : f_X10_lines_L54 (Q + 1) 1 v2 (ps x p er d) = some (ps x p er d) := by
  rw [f_X10_lines_L54, if_neg (by decide), ps_9, if_neg h]
theorem m_lin (B : pB m b n) (E : pE m) : ∀ (q : Nat) (p : Int) (a : List xLn) (Q : Nat), 0 ≤ p → p ≤ n → q + a.length = 10 → q + 3 < Q →
    (∀ er, xLis q a (tk b n p) = .inl er → 0 ≤ er ∧ ∃ st dr ho pa p' d', f_X10_lines_L54 Q 1 a.length (ps (la m a) p (-1) 0) = some (ps (ls m st dr ho pa) p' er d')) ∧
    (∀ L, xLis q a (tk b n p) = .inr L → ∃ p', f_X10_lines_L54 Q 1 a.length (ps (la m a) p (-1) 0) = some (ps (la m L) p' (-1) 0)) := by
  have h400 := B.2.2.1
  intro q
  induction q with
  | zero =>
    intro p a Q h0 hp hq hQ
    obtain ⟨Q, rfl⟩ : ∃ t, Q = t + 1 := ⟨Q - 1, by omega⟩
    obtain ⟨Q, rfl⟩ : ∃ t, Q = t + 1 := ⟨Q - 1, by omega⟩
    have l := sk_le (b := b) (n := n) p
    have l2 := l.2 hp
    have Ba : pB (la m a) b n := B.ls
    refine ⟨fun er h1 => ?_, fun L h1 => (by cases h1)⟩
    have h2 : er = sk b n p := by
      rw [← tk_hd (b := b) h400 h0 hp]
      cases h1
      rfl
    subst h2
    refine ⟨by omega, xStop (xE m) 0 a, xLast (xE m) 101 0 a, xLast (xE m) 102 30 a, xLast (xE m) 103 0 a, sk b n p, 0, ?_⟩
    rw [f_X10_lines_L54, if_neg (by decide), ps_9, if_pos rfl, m_skip Ba h0, Option.bind_some, if_pos (by omega), ps_8, m_wrong, Option.bind_some, m_skip Ba (by omega), Option.bind_some, sk_sk h0 h400]
    rw [ps_9, if_neg (by omega), m_L54e]
    rfl
  | succ q ih =>
    intro p a Q h0 hp hq hQ
    obtain ⟨Q, rfl⟩ : ∃ t, Q = t + 1 := ⟨Q - 1, by omega⟩
    obtain ⟨Q, rfl⟩ : ∃ t, Q = t + 1 := ⟨Q - 1, by omega⟩
    have l := sk_le (b := b) (n := n) p
    have l2 := l.2 hp
    have Ba : pB (la m a) b n := B.ls
    obtain ⟨M1, M2⟩ := m_line (st := xStop (xE m) 0 a) (dr := xLast (xE m) 101 0 a) (ho := xLast (xE m) 102 30 a) (pa := xLast (xE m) 103 0 a) (place := (a.length : Int)) B E (p := sk b n p) (by omega) l2
    rw [← tk_sk h400 h0] at M1 M2
    rw [f_X10_lines_L54, if_neg (by decide), ps_9, if_pos rfl, m_skip Ba h0, Option.bind_some, if_neg (by omega), xLis_s]
    cases hx : xLin (tk b n p) with
    | inl er' =>
      obtain ⟨c0, p', d', c1, c2⟩ := M1 er' hx
      refine ⟨fun er h1 => ?_, fun L h1 => (by cases h1)⟩
      cases h1
      refine ⟨c0, xStop (xE m) 0 a, xLast (xE m) 101 0 a, xLast (xE m) 102 30 a, xLast (xE m) 103 0 a, sk b n p', d', ?_⟩
      unfold la
      rw [c2, Option.bind_some, m_skip (B.ls) c1.1, Option.bind_some]
      rw [ps_9, if_neg (by omega), m_L54e]
    | inr r =>
      obtain ⟨c0, p', c1, c2, c3, c4⟩ := M2 r hx
      have l3 := sk_le (b := b) (n := n) p'
      have l4 := l3.2 c2
      have Bb : pB (la m (a ++ [r.1])) b n := B.ls
      have c5 : f_X10_line (a.length : Int) (ps (la m a) (sk b n p) (-1) 0) = some (ps (la m (a ++ [r.1])) p' (-1) 0) := by
        rw [la_ap]; exact c4
      rw [c5, Option.bind_some, m_skip Bb (by omega), Option.bind_some]
      rw [ps_9, if_pos rfl, ps_8, ps_7 Bb]
      have hK := tk_k (b := b) h400 (p := p') (by omega)
      dsimp only
      rw [c3]
      by_cases he : sk b n p' = n
      · rw [if_pos he]
        rw [if_neg (by omega)] at hK
        rw [if_pos hK, m_L54e]
        refine ⟨fun er h1 => (by cases h1), fun L h1 => ?_⟩
        cases h1
        exact ⟨_, rfl⟩
      · rw [if_pos (by omega)] at hK
        have hne : xK (tk b n p') ≠ 130 := by rw [hK]; exact xKi_130 h400 (by omega)
        have s1 := m_sign (f := -1) (d := 0) Bb (p := sk b n p') (by omega) (c := 59) (by decide)
        rw [show xSg 59 = 122 from rfl, ← tk_sk h400 (by omega), sk_sk (by omega) h400] at s1
        rw [if_neg he, if_neg hne, s1, Option.bind_some]
        have hlen : ((a ++ [r.1]).length : Int) = (a.length : Int) + 1 := by rw [List.length_append]; rfl
        have hlen2 : q + (a ++ [r.1]).length = 10 := by rw [List.length_append]; show q + (a.length + 1) = 10; omega
        by_cases k1 : xK (tk b n p') = 122
        · have g := sgn_nx (b := b) h400 (p := p') (c := 59) (by omega) (by decide) k1
          have g2 := nx_le (b := b) g.1
          rw [if_pos k1, if_pos k1]
          dsimp only
          rw [if_neg (by decide), jlt_eq, ps_8, ps_u8, jW_of (by omega) (by omega), jW_of (by omega) (by omega), ← g.2, tk_tl h400 (by omega) g.1, ← hlen]
          exact ih (nx b n p') (a ++ [r.1]) (Q + 1) (by omega) g2.2 hlen2 (by omega)
        · rw [if_neg k1, if_neg k1]
          dsimp only
          rw [if_pos rfl, ps_8, m_wrong, Option.bind_some, m_L54f (by omega), tk_hd h400 (by omega) c2]
          refine ⟨fun er h1 => ?_, fun L h1 => (by cases h1)⟩
          cases h1
          exact ⟨by omega, _, _, _, _, _, _, rfl⟩
/-- a text from its first sign on -/
theorem m_lines (B : pB m b n) (E : pE m) (hf : m 74 9 = -1) :
    (∀ er, xPar b n = .inl er → 0 ≤ er ∧ ∃ st dr ho pa p' d', f_X10_lines m = some (ps (ls m st dr ho pa) p' er d')) ∧
    (∀ L, xPar b n = .inr L → ∃ p', f_X10_lines m = some (ps (la m L) p' (-1) 0)) := by
  have h400 := B.2.2.1
  have hn0 := B.2.1
  have e0 : jup (jup (jup (jup (jup (jup m 74 8 0) 74 10 0) 74 15 (-1)) 74 16 0) 74 17 30) 74 18 0 = ps (la m []) 0 (-1) 0 := by
    funext c j
    show jup (jup (jup (jup (jup (jup m 74 8 0) 74 10 0) 74 15 (-1)) 74 16 0) 74 17 30) 74 18 0 c j = ps (ls m (-1) 0 30 0) 0 (-1) 0 c j
    unfold jup ps ls
    by_cases hc : c = 74
    · subst hc
      by_cases h1 : j = 18
      · subst h1; rfl
      by_cases h2 : j = 17
      · subst h2; rfl
      by_cases h3 : j = 16
      · subst h3; rfl
      by_cases h4 : j = 15
      · subst h4; rfl
      by_cases h5 : j = 10
      · subst h5; rfl
      by_cases h6 : j = 8
      · subst h6; rfl
      by_cases h7 : j = 9
      · subst h7; exact hf
      simp only [h1, h2, h3, h4, h5, h6, h7, and_false, if_false, if_true]
    · simp only [hc, false_and, if_false]
  have Ba : pB (la m []) b n := B.ls
  have l := sk_le (b := b) (n := n) 0
  have l2 := l.2 hn0
  have hK := tk_k (b := b) (n := n) h400 (p := 0) (Int.le_refl _)
  unfold f_X10_lines
  simp only [jlt_eq, e0]
  rw [m_skip Ba (Int.le_refl _), Option.bind_some, ps_7 Ba, ps_8]
  unfold xPar xTxt
  rw [show xTo b n 401 0 = tk b n 0 from rfl]
  by_cases h : n ≤ sk b n 0
  · rw [if_neg (by omega)] at hK
    rw [if_pos h, if_pos hK, show jFU = 99999 + 1 from rfl, m_L54e]
    refine ⟨fun er h1 => (by cases h1), fun L h1 => ?_⟩
    cases h1
    exact ⟨_, rfl⟩
  · rw [if_pos (by omega)] at hK
    have hne : xK (tk b n 0) ≠ 130 := by rw [hK]; exact xKi_130 h400 (by omega)
    rw [if_neg h, if_neg hne]
    have I := m_lin B E 10 (sk b n 0) [] jFU (by omega) l2 rfl (by unfold jFU; omega)
    rw [← tk_sk h400 (Int.le_refl _)] at I
    exact I
end LINE
