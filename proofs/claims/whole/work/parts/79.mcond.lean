/-! LEVEL 2: the reference reads conditions -/
/-- the facts as the reference has them -/
def xE (m : jMu) (c : Int) : Int := if c = 108 then m 74 12 else if c = 109 then m 74 13 else if c = 110 then m 74 14 else m 78 (c - 111)
/-- code that puts one truth on what waits -/
def Gd (e : Int → Int) (cs : List Int) (v : Int) : Prop := (v = 0 ∨ v = 1) ∧ ∀ x l, ∃ l', xEv e cs (x, l, 0) = (2 * x + v, l', 0)
theorem xEv_app (e : Int → Int) (a c : List Int) (x : Int × Int × Int) : xEv e (a ++ c) x = xEv e c (xEv e a x) := List.foldl_append
theorem xEv_c (e : Int → Int) (a : Int) (c : List Int) (x : Int × Int × Int) : xEv e (a :: c) x = xEv e c (xSt e x a) := rfl
theorem xEv_n (e : Int → Int) (x : Int × Int × Int) : xEv e [] x = x := rfl
theorem xSt_107 (e : Int → Int) (x l s : Int) : xSt e (x, l, s) 107 = (if x % 2 = 0 then x + 1 else x - 1, l, s) := rfl
theorem xSt_106 (e : Int → Int) (x l s : Int) : xSt e (x, l, s) 106 = (if x % 2 = 0 then x / 2 - x / 2 % 2 else x / 2, l, s) := rfl
theorem xSt_105 (e : Int → Int) (x l s : Int) : xSt e (x, l, s) 105 = (if x % 2 = 0 then x / 2 else x / 2 - x / 2 % 2 + 1, l, s) := rfl
theorem xSt_132 (e : Int → Int) (x l s : Int) : xSt e (x, l, s) 132 = (x, s, 0) := rfl
theorem xSt_124 (e : Int → Int) (x l s : Int) : xSt e (x, l, s) 124 = (2 * x + (if l < s then 1 else 0), l, 0) := rfl
theorem xSt_125 (e : Int → Int) (x l s : Int) : xSt e (x, l, s) 125 = (2 * x + (if s < l then 1 else 0), l, 0) := rfl
theorem Gd.not {e : Int → Int} {c : List Int} {v : Int} (h : Gd e c v) : Gd e (c ++ [107]) (1 - v) := by
  obtain ⟨h1, h2⟩ := h
  refine ⟨by omega, fun x l => ?_⟩
  obtain ⟨l', e1⟩ := h2 x l
  refine ⟨l', ?_⟩
  rw [xEv_app, e1, xEv_c, xEv_n, xSt_107]
  rcases h1 with h1 | h1
  · rw [if_pos (by omega), h1, show 2 * x + 0 + 1 = 2 * x + (1 - 0) by omega]
  · rw [if_neg (by omega), h1]
    congr 1
    omega
theorem Gd.and {e : Int → Int} {c c2 : List Int} {v w : Int} (h : Gd e c v) (g : Gd e c2 w) : Gd e (c ++ (c2 ++ [106])) (if v = 0 then 0 else w) := by
  obtain ⟨h1, h2⟩ := h
  obtain ⟨g1, g2⟩ := g
  refine ⟨by split <;> omega, fun x l => ?_⟩
  obtain ⟨l', e1⟩ := h2 x l
  obtain ⟨l2, e2⟩ := g2 (2 * x + v) l'
  refine ⟨l2, ?_⟩
  rw [xEv_app, e1, xEv_app, e2, xEv_c, xEv_n, xSt_106]
  congr 1
  repeat' split
  all_goals omega
theorem Gd.or {e : Int → Int} {c c2 : List Int} {v w : Int} (h : Gd e c v) (g : Gd e c2 w) : Gd e (c ++ (c2 ++ [105])) (if v = 0 then w else 1) := by
  obtain ⟨h1, h2⟩ := h
  obtain ⟨g1, g2⟩ := g
  refine ⟨by split <;> omega, fun x l => ?_⟩
  obtain ⟨l', e1⟩ := h2 x l
  obtain ⟨l2, e2⟩ := g2 (2 * x + v) l'
  refine ⟨l2, ?_⟩
  rw [xEv_app, e1, xEv_app, e2, xEv_c, xEv_n, xSt_105]
  congr 1
  repeat' split
  all_goals omega
section COND
variable {m : jMu} {b : Int → Int} {n : Int}
theorem m_hasW (B : pB m b n) {p f d : Int} (h0 : 0 ≤ p) (hp : p ≤ n) {w : Nat} {k : Int} (hw : (w, k) ∈ xWs) : f_X10_has w (ps m p f d) = some (if xK (tk b n p) = k then (1, ps m (nx b n p) f d) else (0, ps m (sk b n p) f d)) := by
  have h := m_has (f := f) (d := d) B h0 hp hw
  dsimp only at h
  exact h
theorem nx_sk (hn : n ≤ 400) {p : Int} (h0 : 0 ≤ p) : nx b n (sk b n p) = nx b n p := by
  unfold nx
  rw [sk_sk h0 hn]
theorem sgn_nx (hn : n ≤ 400) {p c : Int} (h0 : 0 ≤ p) (hc : 120 ≤ xSg c ∧ xSg c ≤ 125) (h : xK (tk b n p) = xSg c) : sk b n p < n ∧ nx b n p = sk b n p + 1 := by
  have l := sk_le (b := b) (n := n) p
  have g := tk_lt (b := b) hn h0 (by rw [h]; omega)
  rw [tk_k hn h0, if_pos g] at h
  exact ⟨g, (xKi_sgn hn (by omega) hc).2 h⟩
/-- a number or a fact -/
theorem m_part (B : pB m b n) {p d : Int} (h0 : 0 ≤ p) (hp : p ≤ n) :
    (0 ≤ xK (tk b n p) ∧ xK (tk b n p) < 100 → f_X10_part (ps m p (-1) d) = some (xK (tk b n p), ps m (nx b n p) (-1) d)) ∧
    (111 ≤ xK (tk b n p) ∧ xK (tk b n p) ≤ 116 → f_X10_part (ps m p (-1) d) = some (m 78 (xK (tk b n p) - 111), ps m (nx b n p) (-1) d)) ∧
    (¬ (0 ≤ xK (tk b n p) ∧ xK (tk b n p) < 100) → ¬ (111 ≤ xK (tk b n p) ∧ xK (tk b n p) ≤ 116) → ∃ v p', (0 ≤ p' ∧ p' ≤ n) ∧ f_X10_part (ps m p (-1) d) = some (v, ps m p' (sk b n p) d)) := by
  have h400 := B.2.2.1
  have l := sk_le (b := b) (n := n) p
  have l2 := l.2 hp
  have hs : 0 ≤ sk b n p := by omega
  have hss := sk_sk (b := b) h0 h400
  have htk : tk b n p = tk b n (sk b n p) := tk_sk h400 h0
  have hnx := nx_sk (b := b) h400 h0
  have hk := tk_k (b := b) h400 h0
  have J : f_X10_part (ps m p (-1) d) = if sk b n p < n ∧ xD (b (sk b n p)) = true then (f_X10_number 99 (ps m (sk b n p) (-1) d)).bind (fun r12 => some (r12.1, r12.2)) else f_X10_part_J50 (ps m (sk b n p) (-1) d) := by
    unfold f_X10_part
    rw [ps_9, if_pos rfl, m_skip B h0, Option.bind_some, ps_7 B, ps_8]
    by_cases h : sk b n p < n
    · rw [if_neg (by omega), B.2.2.2 _ _ _ _ hs h, Option.bind_some, mIsIn, Option.bind_some, ite01]
      by_cases h2 : 48 ≤ b (sk b n p) ∧ b (sk b n p) ≤ 57
      · rw [if_pos h2, if_pos ⟨h, xD_iff.mpr h2⟩]
      · rw [if_neg h2, if_neg (fun z => h2 (xD_iff.mp z.2))]
    · rw [if_pos (by omega), if_neg (fun z => h z.1)]
  have N := m_num (h := 99) (d := d) B hs l2
  rw [← htk, hnx, hss] at N
  have a1 := m_hasW (f := -1) (d := d) B hs l2 (w := 11) (k := 111) (by decide)
  have a2 := m_hasW (f := -1) (d := d) B hs l2 (w := 12) (k := 112) (by decide)
  have a3 := m_hasW (f := -1) (d := d) B hs l2 (w := 13) (k := 113) (by decide)
  have a4 := m_hasW (f := -1) (d := d) B hs l2 (w := 14) (k := 114) (by decide)
  have a5 := m_hasW (f := -1) (d := d) B hs l2 (w := 15) (k := 115) (by decide)
  have a6 := m_hasW (f := -1) (d := d) B hs l2 (w := 16) (k := 116) (by decide)
  rw [← htk, hnx, hss] at a1 a2 a3 a4 a5 a6
  generalize hK : xK (tk b n p) = K at *
  have nd : ¬ (0 ≤ K ∧ K < 100) → K ≠ 131 → ¬ (sk b n p < n ∧ xD (b (sk b n p)) = true) := by
    intro z z2 z3
    rw [if_pos z3.1] at hk
    have := xKi_Dr (n := n) h400 hs z3.2
    omega
  rw [J]
  refine ⟨fun z => ?_, fun z => ?_, fun z z2 => ?_⟩
  · have g : sk b n p < n := by
      by_cases g : sk b n p < n
      · exact g
      · rw [if_neg g] at hk; omega
    rw [if_pos g] at hk
    rw [if_pos ⟨g, xKi_num h400 hs (by omega)⟩, N.1 ⟨z.1, z.2, by omega⟩, Option.bind_some]
  · rw [if_neg (nd (by omega) (by omega))]
    unfold f_X10_part_J50
    obtain e | e | e | e | e | e : K = 111 ∨ K = 112 ∨ K = 113 ∨ K = 114 ∨ K = 115 ∨ K = 116 := by omega
    · subst e; simp only [a1, Int.reduceEq, if_true, if_false, Option.bind_some, f_X10_part_J129, Int.reduceLE, Int.reduceLT, and_self, Int.reduceSub]; rw [ps_c (by decide)]
    · subst e; simp only [a1, a2, Int.reduceEq, if_true, if_false, Option.bind_some, f_X10_part_J129, Int.reduceLE, Int.reduceLT, and_self, Int.reduceSub]; rw [ps_c (by decide)]
    · subst e; simp only [a1, a2, a3, Int.reduceEq, if_true, if_false, Option.bind_some, f_X10_part_J129, Int.reduceLE, Int.reduceLT, and_self, Int.reduceSub]; rw [ps_c (by decide)]
    · subst e; simp only [a1, a2, a3, a4, Int.reduceEq, if_true, if_false, Option.bind_some, f_X10_part_J129, Int.reduceLE, Int.reduceLT, and_self, Int.reduceSub]; rw [ps_c (by decide)]
    · subst e; simp only [a1, a2, a3, a4, a5, Int.reduceEq, if_true, if_false, Option.bind_some, f_X10_part_J129, Int.reduceLE, Int.reduceLT, and_self, Int.reduceSub]; rw [ps_c (by decide)]
    · subst e; simp only [a1, a2, a3, a4, a5, a6, Int.reduceEq, if_true, if_false, Option.bind_some, f_X10_part_J129, Int.reduceLE, Int.reduceLT, and_self, Int.reduceSub]; rw [ps_c (by decide)]
  · by_cases g : sk b n p < n ∧ xD (b (sk b n p)) = true
    · rw [if_pos g]
      obtain ⟨v, p', c1, c2⟩ := N.2 (fun y => z ⟨y.1, y.2.1⟩) (Int.le_refl _)
      exact ⟨v, p', c1, by rw [c2, Option.bind_some]⟩
    · rw [if_neg g]
      refine ⟨0, sk b n p, ⟨hs, l2⟩, ?_⟩
      unfold f_X10_part_J50
      rw [a1, if_neg (by omega)]
      simp only [Option.bind_some, if_true]
      rw [a2, if_neg (by omega)]
      simp only [Option.bind_some, if_true]
      rw [a3, if_neg (by omega)]
      simp only [Option.bind_some, if_true]
      rw [a4, if_neg (by omega)]
      simp only [Option.bind_some, if_true]
      rw [a5, if_neg (by omega)]
      simp only [Option.bind_some, if_true]
      rw [a6, if_neg (by omega)]
      simp only [Option.bind_some, if_true]
      unfold f_X10_part_J129
      rw [if_pos rfl, ps_8, m_wrong, Option.bind_some]
end COND
