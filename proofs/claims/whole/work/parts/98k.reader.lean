/-! LEVEL 2: the class reads conditions -/
def cdF (A : List Int) : Int → Int → Int := fun r _ => A.getD r.toNat 0
def rd (m : jMu) (ts : List (Int × Int)) : Prop := m 62 9 = xK ts ∧ m 62 10 = xHd ts ∧ 0 ≤ m 62 8 ∧ m 62 5 = m 62 8 + ((xTl ts).length : Int) ∧ m 62 5 ≤ 401 ∧ ∀ i : Nat, i < (xTl ts).length → m 63 (m 62 8 + i) = ((xTl ts).getD i (0, 0)).1 ∧ m 64 (m 62 8 + i) = ((xTl ts).getD i (0, 0)).2
/-- what the reader has: what waits, the code, how deep it is, the words -/
def sRe (m0 m : jMu) (S A : List Int) (D : Int) (ts : List (Int × Int)) : Prop := rd m ts ∧ m 62 6 = (S.length : Int) ∧ (∀ i : Nat, i < S.length → m 65 (i : Int) = S.getD i 0) ∧ m 62 7 = D ∧ TabR m 18 19 1 1600 (A.length : Int) (cdF A) ∧ ∀ c, c ≠ 62 → c ≠ 65 → c ≠ 18 → c ≠ 19 → m c = m0 c
section READER
variable {m0 m : jMu} {S A : List Int} {D n : Int} {ts : List (Int × Int)}
theorem rd_step (h : rd m ts) (hne : xTl ts ≠ []) : ∃ m', f_X3_step m = some m' ∧ rd m' (xTl ts) ∧ (∀ c, c ≠ 62 → m' c = m c) ∧ ∀ j : Int, j ≠ 8 → j ≠ 9 → j ≠ 10 → m' 62 j = m 62 j := by
  obtain ⟨h1, h2, h3, h4, h5, h6⟩ := h
  obtain ⟨y, r, e⟩ : ∃ y r, xTl ts = y :: r := by
    cases hx : xTl ts with
    | nil => exact (hne hx).elim
    | cons y r => exact ⟨y, r, rfl⟩
  rw [e] at h4 h6
  rw [List.length_cons] at h4
  have g0 := h6 0 (by rw [List.length_cons]; omega)
  rw [Int.natCast_zero, Int.add_zero] at g0
  have g0a : m 63 (m 62 8) = y.1 := g0.1
  have g0b : m 64 (m 62 8) = y.2 := g0.2
  refine ⟨jup (jup (jup m 62 9 y.1) 62 10 y.2) 62 8 (m 62 8 + 1), ?_, ⟨?_, ?_, ?_, ?_, ?_, fun i hi => ?_⟩, fun c hc => ?_, fun j a b c => ?_⟩
  · unfold f_X3_step
    rw [if_neg (by omega), if_neg (by omega), if_neg (by omega), if_neg (by omega), if_pos (by omega), jlt_eq, jup_j (show (8 : Int) ≠ 9 by decide), if_pos (by omega), jlt_eq, jup_c (show (64 : Nat) ≠ 62 by decide), g0b, g0a, jup_j (show (8 : Int) ≠ 10 by decide), jup_j (show (8 : Int) ≠ 9 by decide), jlt_eq, jW_of (by omega) (by omega)]
  · rw [jup_j (by decide), jup_j (by decide), jup_s, e]; rfl
  · rw [jup_j (by decide), jup_s, e]; rfl
  · rw [jup_s]; omega
  · rw [jup_s, jup_j (by decide), jup_j (by decide), jup_j (by decide), h4, e]
    show m 62 8 + ((r.length + 1 : Nat) : Int) = m 62 8 + 1 + (r.length : Int)
    omega
  · rw [jup_j (by decide), jup_j (by decide), jup_j (by decide)]; exact h5
  · rw [e] at hi ⊢
    have hi' : i < r.length := hi
    have := h6 (i + 1) (by rw [List.length_cons]; omega)
    rw [jup_s, jup_c (by decide), jup_c (by decide), jup_c (by decide), jup_c (by decide), jup_c (by decide), jup_c (by decide), show m 62 8 + 1 + (i : Int) = m 62 8 + ((i + 1 : Nat) : Int) by omega]
    exact this
  · rw [jup_c hc, jup_c hc, jup_c hc]
  · rw [jup_j a, jup_j c, jup_j b]
theorem op_step (h : sRe m0 m S A D ts) (hne : xTl ts ≠ []) : ∃ m', f_X3_step m = some m' ∧ sRe m0 m' S A D (xTl ts) := by
  obtain ⟨h1, h2, h3, h4, h5, h6⟩ := h
  obtain ⟨m', e1, e2, e3, e4⟩ := rd_step h1 hne
  refine ⟨m', e1, e2, ?_, fun i hi => ?_, ?_, ?_, fun c c1 c2 c3 c4 => ?_⟩
  · rw [e4 6 (by decide) (by decide) (by decide)]; exact h2
  · rw [e3 65 (by decide)]; exact h3 i hi
  · rw [e4 7 (by decide) (by decide) (by decide)]; exact h4
  · exact h5.frame (e3 18 (by decide)) (e3 19 (by decide))
  · rw [e3 c c1]; exact h6 c c1 c2 c3 c4
theorem rd_fr {m' : jMu} (h : rd m ts) (h1 : ∀ j : Int, j ≠ 6 → j ≠ 7 → m' 62 j = m 62 j) (h2 : m' 63 = m 63) (h3 : m' 64 = m 64) : rd m' ts := by
  unfold rd
  rw [h1 9 (by decide) (by decide), h1 10 (by decide) (by decide), h1 8 (by decide) (by decide), h1 5 (by decide) (by decide), h2, h3]
  exact h
theorem getD_l {α : Type} {a b : List α} {i : Nat} {d : α} (h : i < a.length) : (a ++ b).getD i d = a.getD i d := by
  rw [List.getD_eq_getElem?_getD, List.getElem?_append_left h, ← List.getD_eq_getElem?_getD]
theorem getD_r {α : Type} {a b : List α} {i : Nat} {d : α} (h : a.length ≤ i) : (a ++ b).getD i d = b.getD (i - a.length) d := by
  rw [List.getD_eq_getElem?_getD, List.getElem?_append_right h, ← List.getD_eq_getElem?_getD]
theorem op_push (h : sRe m0 m S A D ts) (hS : S.length < 21) (v : Int) : ∃ m', f_X3_addWaiting v m = some m' ∧ sRe m0 m' (S ++ [v]) A D ts := by
  obtain ⟨h1, h2, h3, h4, h5, h6⟩ := h
  refine ⟨jup (jup m 65 (m 62 6) v) 62 6 (m 62 6 + 1), ?_, rd_fr h1 (fun j a b => ?_) ?_ ?_, ?_, fun i hi => ?_, ?_, ?_, fun c c1 c2 c3 c4 => ?_⟩
  · unfold f_X3_addWaiting
    rw [if_neg (by omega), if_neg (by omega), if_pos (by omega), jlt_eq, jup_c (show (62 : Nat) ≠ 65 by decide), jlt_eq, jW_of (by omega) (by omega)]
  · rw [jup_j a, jup_c (by decide)]
  · rw [jup_c (by decide), jup_c (by decide)]
  · rw [jup_c (by decide), jup_c (by decide)]
  · rw [jup_s, h2, List.length_append]
    show (S.length : Int) + 1 = ((S.length + 1 : Nat) : Int)
    omega
  · rw [List.length_append] at hi
    have hi' : i < S.length + 1 := hi
    rw [jup_c (by decide)]
    by_cases e : i = S.length
    · rw [e, h2, jup_s, getD_r (Nat.le_refl _), Nat.sub_self]; rfl
    · rw [jup_j (by omega), getD_l (by omega)]
      exact h3 i (by omega)
  · rw [jup_j (by decide), jup_c (by decide)]; exact h4
  · exact h5.frame (by rw [jup_c (by decide), jup_c (by decide)]) (by rw [jup_c (by decide), jup_c (by decide)])
  · rw [jup_c c1, jup_c c2]; exact h6 c c1 c2 c3 c4
theorem op_write (h : sRe m0 m S A D ts) (hA : A.length < 1600) (v : Int) : ∃ m', f_X3_write v m = some m' ∧ sRe m0 m' S (A ++ [v]) D ts ∧ m' 62 = m 62 := by
  obtain ⟨h1, h2, h3, h4, h5, h6⟩ := h
  have hS : TabS 18 19 1600 1 1600 := by unfold TabS; decide
  obtain ⟨m1, e1, t1, f1⟩ := tb_add hS h5 (by omega)
  have d0 := tb_set (v := v) (r := (A.length : Int)) (c := 0) hS t1 (by omega) (by omega) (by decide) (by decide)
  have u0 := TabR.set (v := v) (r := (A.length : Int)) (c := 0) hS t1 (by decide) (by decide)
  have F : ∀ c, c ≠ 18 → c ≠ 19 → jup m1 19 ((A.length : Int) * 1 + 0) v c = m c := fun c a b => by rw [jup_c b, f1 c a b]
  refine ⟨jup m1 19 ((A.length : Int) * 1 + 0) v, ?_, ⟨rd_fr h1 (fun j _ _ => by rw [F 62 (by decide) (by decide)]) (F 63 (by decide) (by decide)) (F 64 (by decide) (by decide)), ?_, fun i hi => ?_, ?_, ?_, fun c c1 c2 c3 c4 => ?_⟩, F 62 (by decide) (by decide)⟩
  · unfold f_X3_write
    rw [e1, Option.bind_some]
    show Option.bind (f_X5_set 18 19 1600 (A.length : Int) 0 v m1) _ = _
    rw [d0, Option.bind_some]
  · rw [F 62 (by decide) (by decide)]; exact h2
  · rw [F 65 (by decide) (by decide)]; exact h3 i hi
  · rw [F 62 (by decide) (by decide)]; exact h4
  · have el : ((A ++ [v]).length : Int) = (A.length : Int) + 1 := by rw [List.length_append]; show ((A.length + 1 : Nat) : Int) = _; omega
    rw [el]
    refine u0.congr (fun r c a1 a2 a3 a4 => ?_)
    have hc : c = 0 := by omega
    subst hc
    unfold cdF
    by_cases hr : r = (A.length : Int)
    · rw [if_pos ⟨hr, rfl⟩, hr, getD_r (by omega), show ((A.length : Int)).toNat - A.length = 0 by omega]
      rfl
    · rw [if_neg (fun z => hr z.1), if_neg hr, getD_l (by omega)]
  · rw [F c c3 c4]; exact h6 c c1 c2 c3 c4
theorem op_pop {v : Int} (h : sRe m0 m (S ++ [v]) A D ts) (hS : S.length ≤ 100) : sRe m0 (jup m 62 6 (jW (m 62 6 - 1))) S A D ts := by
  obtain ⟨h1, h2, h3, h4, h5, h6⟩ := h
  have el : ((S ++ [v]).length : Int) = (S.length : Int) + 1 := by rw [List.length_append]; show ((S.length + 1 : Nat) : Int) = _; omega
  rw [el] at h2
  refine ⟨rd_fr h1 (fun j a b => jup_j a) (jup_c (by decide)) (jup_c (by decide)), ?_, fun i hi => ?_, ?_, ?_, fun c c1 c2 c3 c4 => ?_⟩
  · rw [jup_s, h2, jW_of (by omega) (by omega)]; omega
  · rw [jup_c (by decide), h3 i (by rw [List.length_append]; omega), getD_l hi]
  · rw [jup_j (by decide)]; exact h4
  · exact h5.frame (jup_c (by decide)) (jup_c (by decide))
  · rw [jup_c c1]; exact h6 c c1 c2 c3 c4
theorem op_deep (h : sRe m0 m S A D ts) (v : Int) : sRe m0 (jup m 62 7 v) S A v ts := by
  obtain ⟨h1, h2, h3, h4, h5, h6⟩ := h
  refine ⟨rd_fr h1 (fun j a b => jup_j b) (jup_c (by decide)) (jup_c (by decide)), ?_, fun i hi => ?_, jup_s, ?_, fun c c1 c2 c3 c4 => ?_⟩
  · rw [jup_j (by decide)]; exact h2
  · rw [jup_c (by decide)]; exact h3 i hi
  · exact h5.frame (jup_c (by decide)) (jup_c (by decide))
  · rw [jup_c c1]; exact h6 c c1 c2 c3 c4
theorem op_last {v : Int} (h : sRe m0 m (S ++ [v]) A D ts) (hS : S.length < 21) : f_X3_lastWaiting m = some v := by
  obtain ⟨h1, h2, h3, h4, h5, h6⟩ := h
  have el : ((S ++ [v]).length : Int) = (S.length : Int) + 1 := by rw [List.length_append]; show ((S.length + 1 : Nat) : Int) = _; omega
  rw [el] at h2
  have g := h3 S.length (by rw [List.length_append]; show _ < S.length + 1; omega)
  rw [getD_r (Nat.le_refl _), Nat.sub_self] at g
  unfold f_X3_lastWaiting
  rw [h2, jW_of (by omega) (by omega), show (S.length : Int) + 1 - 1 = S.length by omega, if_neg (by omega), if_neg (by omega), if_pos (by omega), g]
  rfl
theorem op_last0 (h : sRe m0 m [] A D ts) : f_X3_lastWaiting m = some (-1) := by
  have h2 : m 62 6 = 0 := h.2.1
  unfold f_X3_lastWaiting
  rw [h2, if_pos (by decide)]
theorem op_open (h : sRe m0 m S A D ts) (hS : S.length ≤ 21) : f_X3_hasOpening m = some (if (120 : Int) ∈ S then 1 else 0) := by
  obtain ⟨h1, h2, h3, h4, h5, h6⟩ := h
  unfold f_X3_hasOpening
  have key := itx_loop (L := fun q i (_ : Unit) => f_X3_hasOpening_L2 q i m) (fun i (_ : Unit) => if S.getD i.toNat 0 = 120 then (.inl 1 : Int ⊕ Unit) else .inr ()) (fun _ => 0) (fun _ _ => True) (lo := 0) (n := (S.length : Int)) (by
    intro q i s g0 g1 _
    have g := h3 i.toNat (by omega)
    rw [show ((i.toNat : Nat) : Int) = i by omega] at g
    have E : f_X3_hasOpening_L2 (q + 1) i m = if S.getD i.toNat 0 = 120 then some 1 else f_X3_hasOpening_L2 q (i + 1) m := by
      rw [f_X3_hasOpening_L2, h2, if_neg (by omega), if_neg (by omega), if_pos (by omega), g, jW_of (by omega) (by omega)]
    show (∃ v, _ ∧ f_X3_hasOpening_L2 (q + 1) i m = some v) ∨ (∃ t, _ ∧ f_X3_hasOpening_L2 (q + 1) i m = _ ∧ True)
    rw [E]
    by_cases e : S.getD i.toNat 0 = 120
    · exact Or.inl ⟨1, by rw [if_pos e], by rw [if_pos e]⟩
    · exact Or.inr ⟨(), by rw [if_neg e], by rw [if_neg e], trivial⟩) (by
    intro q s _
    show f_X3_hasOpening_L2 (q + 1) (S.length : Int) m = _
    rw [f_X3_hasOpening_L2, h2, if_pos (Int.le_refl _)]) S.length jFU 0 () (Int.le_refl _) (by omega) (by unfold jFU; omega) trivial
  have K : ∀ (d : Nat) (i : Nat), i + d = S.length → itx (fun i (_ : Unit) => if S.getD i.toNat 0 = 120 then (.inl 1 : Int ⊕ Unit) else .inr ()) (fun _ => (0 : Int)) d (i : Int) () = if (120 : Int) ∈ S.drop i then 1 else 0 := by
    intro d
    induction d with
    | zero =>
      intro i hi
      rw [show S.drop i = [] from List.drop_eq_nil_of_le (by omega), if_neg (by intro z; cases z)]
      rfl
    | succ d ih =>
      intro i hi
      have hlt : i < S.length := by omega
      have ed : S.drop i = S[i] :: S.drop (i + 1) := List.drop_eq_getElem_cons hlt
      have eg : S.getD ((i : Int)).toNat 0 = S[i] := by
        rw [Int.toNat_natCast, List.getD_eq_getElem?_getD, List.getElem?_eq_getElem hlt]
        rfl
      have I := ih (i + 1) (by omega)
      rw [show ((i + 1 : Nat) : Int) = (i : Int) + 1 by omega] at I
      unfold itx
      rw [eg, ed]
      by_cases e : S[i] = 120
      · rw [if_pos e, if_pos (by rw [e]; exact List.mem_cons_self)]
      · rw [if_neg e]
        show itx _ _ d ((i : Int) + 1) () = _
        rw [I]
        by_cases g : (120 : Int) ∈ S.drop (i + 1)
        · rw [if_pos g, if_pos (List.mem_cons_of_mem _ g)]
        · rw [if_neg g, if_neg (fun z => (List.mem_cons.mp z).elim (fun y => e y.symm) g)]
  have k0 := K S.length 0 (by omega)
  rw [Int.natCast_zero, List.drop_zero] at k0
  rw [← k0]
  exact key
/-- the top isn't and, or -/
def tpO (S : List Int) : Prop := S = [] ∨ ∃ S1 v, S = S1 ++ [v] ∧ v ≠ 105 ∧ v ≠ 106
theorem ww_end (h : sRe m0 m S A D ts) (hS : S.length ≤ 21) (ht : tpO S) {q : Nat} {k t : Int} (hk : k ≤ 21) : f_X3_writeWaiting_L2 (q + 1) t k m = some m := by
  rw [f_X3_writeWaiting_L2, if_neg (by omega)]
  rcases ht with e | ⟨S1, v, e, a, b⟩
  · subst e
    rw [op_last0 h, Option.bind_some, if_neg (by decide), if_neg (by decide)]
  · subst e
    rw [List.length_append] at hS
    have hS' : S1.length + 1 ≤ 21 := hS
    rw [op_last h (by omega), Option.bind_some, if_neg b, if_neg a]
theorem ww_and (h : sRe m0 m (S ++ [106]) A D ts) (hS : S.length < 21) (hA : A.length < 1600) {q : Nat} {k t : Int} (hk : 0 ≤ k ∧ k ≤ 21) : ∃ m', f_X3_writeWaiting_L2 (q + 1) t k m = f_X3_writeWaiting_L2 q t (k + 1) m' ∧ sRe m0 m' S (A ++ [106]) D ts := by
  obtain ⟨m1, e1, h1, _⟩ := op_write h hA 106
  refine ⟨jup m1 62 6 (jW (m1 62 6 - 1)), ?_, op_pop h1 (by omega)⟩
  rw [f_X3_writeWaiting_L2, if_neg (by omega), op_last h hS, Option.bind_some, if_pos rfl, e1, Option.bind_some, jlt_eq, jW_of (z := k + 1) (by omega) (by omega)]
theorem ww_or (h : sRe m0 m (S ++ [105]) A D ts) (hS : S.length < 21) (hA : A.length < 1600) {q : Nat} {k : Int} (hk : 0 ≤ k ∧ k ≤ 21) : ∃ m', f_X3_writeWaiting_L2 (q + 1) 105 k m = f_X3_writeWaiting_L2 q 105 (k + 1) m' ∧ sRe m0 m' S (A ++ [105]) D ts := by
  obtain ⟨m1, e1, h1, _⟩ := op_write h hA 105
  refine ⟨jup m1 62 6 (jW (m1 62 6 - 1)), ?_, op_pop h1 (by omega)⟩
  rw [f_X3_writeWaiting_L2, if_neg (by omega), op_last h hS, Option.bind_some, if_neg (by decide), if_pos rfl, if_pos rfl, e1, Option.bind_some, jlt_eq, jW_of (z := k + 1) (by omega) (by omega)]
theorem ww_stop (h : sRe m0 m (S ++ [105]) A D ts) (hS : S.length < 21) {q : Nat} {k : Int} (hk : k ≤ 21) : f_X3_writeWaiting_L2 (q + 1) 106 k m = some m := by
  rw [f_X3_writeWaiting_L2, if_neg (by omega), op_last h hS, Option.bind_some, if_neg (by decide), if_pos rfl, if_neg (by decide)]
/-- what waits of and, or -/
def xPx (x : List Int) (v : Int) : Prop := x = [] ∨ x = [v]
theorem op_ww106 {pre x : List Int} (h : sRe m0 m (S ++ pre ++ x) A D ts) (hp : xPx pre 105) (hx : xPx x 106) (hS : S.length ≤ 18) (hA : A.length + x.length ≤ 1600) (ht : tpO S) : ∃ m', f_X3_writeWaiting 106 m = some m' ∧ sRe m0 m' (S ++ pre) (A ++ x) D ts := by
  unfold f_X3_writeWaiting
  rw [show jFU = 99997 + 1 + 1 + 1 from rfl]
  have fin : ∀ (q : Nat) (k : Int) (m1 : jMu) (A1 : List Int), k ≤ 21 → sRe m0 m1 (S ++ pre) A1 D ts → f_X3_writeWaiting_L2 (q + 1) 106 k m1 = some m1 := by
    intro q k m1 A1 hk h1
    rcases hp with e | e
    · subst e
      rw [List.append_nil] at h1
      exact ww_end h1 (by omega) ht hk
    · subst e
      exact ww_stop h1 (by omega) hk
  rcases hx with e | e
  · subst e
    rw [List.append_nil] at h ⊢
    exact ⟨m, fin _ 0 m A (by decide) h, h⟩
  · subst e
    have hl : (S ++ pre).length < 21 := by
      rw [List.length_append]
      rcases hp with e | e
      · subst e; show S.length + 0 < 21; omega
      · subst e; show S.length + 1 < 21; omega
    have hA' : A.length + 1 ≤ 1600 := hA
    obtain ⟨m1, e1, h1⟩ := ww_and (q := 99997 + 1 + 1) (k := 0) (t := 106) h hl (by omega) (by decide)
    exact ⟨m1, by rw [e1]; exact fin _ _ m1 _ (by decide) h1, h1⟩
theorem op_ww105 {pre x : List Int} (h : sRe m0 m (S ++ pre ++ x) A D ts) (hp : xPx pre 105) (hx : xPx x 106) (hS : S.length ≤ 18) (hA : A.length + x.length + pre.length ≤ 1600) (ht : tpO S) : ∃ m', f_X3_writeWaiting 105 m = some m' ∧ sRe m0 m' S (A ++ x ++ pre) D ts := by
  unfold f_X3_writeWaiting
  rw [show jFU = 99997 + 1 + 1 + 1 from rfl]
  have two : ∀ (q : Nat) (k : Int) (m1 : jMu) (A1 : List Int), 0 ≤ k → k ≤ 20 → A1.length + pre.length ≤ 1600 → sRe m0 m1 (S ++ pre) A1 D ts → ∃ m', f_X3_writeWaiting_L2 (q + 1 + 1) 105 k m1 = some m' ∧ sRe m0 m' S (A1 ++ pre) D ts := by
    intro q k m1 A1 k0 k1 hl h1
    rcases hp with e | e
    · subst e
      rw [List.append_nil] at h1 ⊢
      exact ⟨m1, ww_end h1 (by omega) ht (by omega), h1⟩
    · subst e
      have hl' : A1.length + 1 ≤ 1600 := hl
      obtain ⟨m2, e2, h2⟩ := ww_or (q := q + 1) (k := k) h1 (by omega) (by omega) ⟨k0, by omega⟩
      exact ⟨m2, by rw [e2]; exact ww_end h2 (by omega) ht (by omega), h2⟩
  rcases hx with e | e
  · subst e
    rw [List.append_nil] at h ⊢
    exact two _ 0 m A (by decide) (by decide) (by have : A.length + 0 + pre.length ≤ 1600 := hA; omega) h
  · subst e
    have hl : (S ++ pre).length < 21 := by
      rw [List.length_append]
      rcases hp with e | e
      · subst e; show S.length + 0 < 21; omega
      · subst e; show S.length + 1 < 21; omega
    have hA' : A.length + 1 + pre.length ≤ 1600 := hA
    obtain ⟨m1, e1, h1⟩ := ww_and (q := 99997 + 1 + 1) (k := 0) (t := 105) h hl (by omega) (by decide)
    obtain ⟨m2, e2, h2⟩ := two 99997 (0 + 1) m1 (A ++ [106]) (by decide) (by decide) (by rw [List.length_append]; exact hA') h1
    exact ⟨m2, by rw [e1]; exact e2, h2⟩
end READER
/-- a reading that fails: where, and what it leaves -/
def fl (m0 : jMu) (A0 : List Int) (e : Int) (X : Option (Int × jMu)) : Prop := ∃ (m' : jMu) (a : List Int), X = some (0, m') ∧ m' 62 10 = e ∧ TabR m' 18 19 1 1600 ((A0 ++ a).length : Int) (cdF (A0 ++ a)) ∧ ∀ c, c ≠ 62 → c ≠ 65 → c ≠ 18 → c ≠ 19 → m' c = m0 c
theorem fl_of {m0 m : jMu} {S A0 a : List Int} {D : Int} {ts : List (Int × Int)} (h : sRe m0 m S (A0 ++ a) D ts) : fl m0 A0 (xHd ts) (some (0, m)) := ⟨m, a, rfl, h.1.2.1, h.2.2.2.2.1, h.2.2.2.2.2⟩
/-! comparisons -/
def cAft (q : Nat) (v1 v2 : Int) (r4 : jMu) : Option (Int × jMu) := (if r4 62 9 = 123 then (f_X3_step r4).bind fun r5 => f_X3_readComparison_L4 q v1 (jW (v2 + 1)) r5 else (if v1 = (-1) then (if r4 62 9 = 124 then (f_X3_write 132 r4).bind fun r6 => (f_X3_step r6).bind fun r7 => f_X3_readComparison_L4 q (r4 62 9) (jW (v2 + 1)) r7 else (if r4 62 9 = 125 then (f_X3_write 132 r4).bind fun r8 => (f_X3_step r8).bind fun r9 => f_X3_readComparison_L4 q (r4 62 9) (jW (v2 + 1)) r9 else some (0, r4))) else (f_X3_write v1 r4).bind fun r10 => some (1, r10)))
theorem cmp_st {q : Nat} {v1 v2 : Int} {m : jMu} (h : v2 ≤ 400) : f_X3_readComparison_L4 (q + 1) v1 v2 m = if (xNum (m 62 9) = true ∨ xFac (m 62 9) = true) then (f_X3_write (m 62 9) m).bind fun r3 => (f_X3_step r3).bind fun r4 => cAft q v1 v2 r4 else some (0, m) := by
  rw [f_X3_readComparison_L4, if_neg (by omega), i7n, Option.bind_some, ite01, i7f, Option.bind_some, ite01]
  by_cases g1 : 0 ≤ m 62 9 ∧ m 62 9 < 100
  · rw [if_pos g1, if_pos (Or.inl (xNum_iff.mpr g1))]
    rfl
  · rw [if_neg g1]
    by_cases g2 : 111 ≤ m 62 9 ∧ m 62 9 ≤ 116
    · rw [if_pos g2, if_pos (Or.inr (xFac_iff.mpr g2))]
      rfl
    · rw [if_neg g2, if_neg (fun z => z.elim (fun y => g1 (xNum_iff.mp y)) (fun y => g2 (xFac_iff.mp y)))]
theorem c_sum {m0 : jMu} {S A0 : List Int} {D n : Int} {B cs : Nat} (hB : (B : Int) + n ≤ 1600) : ∀ (f : Nat) (ts : List (Int × Int)) (a : List Int) (q : Nat) (v1 v2 : Int) (m : jMu), sRe m0 m S (A0 ++ a) D ts → wf n ts → ts.length ≤ f → 0 ≤ v2 → v2 + ts.length ≤ 401 → ts.length + 2 ≤ q → ((A0 ++ a).length : Int) + cs + 1 ≤ B + xHd ts →
    (∀ e, xSum f ts = .inl e → fl m0 A0 e (f_X3_readComparison_L4 q v1 v2 m)) ∧
    (∀ r, xSum f ts = .inr r → ∃ m' q' v2', f_X3_readComparison_L4 q v1 v2 m = cAft q' v1 v2' m' ∧ sRe m0 m' S (A0 ++ (a ++ r.1)) D r.2 ∧ wf n r.2 ∧ xK r.2 ≠ 123 ∧ r.2.length < ts.length ∧ 0 ≤ v2' ∧ v2' + r.2.length ≤ 401 ∧ r.2.length + 2 ≤ q' ∧ ((A0 ++ (a ++ r.1)).length : Int) + cs + 1 ≤ B + xHd r.2) := by
  intro f
  induction f with
  | zero =>
    intro ts a q v1 v2 m h w hl
    have : ts = [] := List.length_eq_zero_iff.mp (by omega)
    rw [this] at w
    exact w.elim
  | succ f ih =>
    intro ts a q v1 v2 m h w hl h0 h1 hq hb
    obtain ⟨q, rfl⟩ : ∃ t, q = t + 1 := ⟨q - 1, by omega⟩
    have hlen : 1 ≤ ts.length := by
      cases ts with
      | nil => exact w.elim
      | cons x r => exact Nat.succ_le_succ (Nat.zero_le _)
    have hd := wf_hd w
    rw [cmp_st (by omega), h.1.1]
    by_cases g : xNum (xK ts) = true ∨ xFac (xK ts) = true
    · have hk : xK ts ≠ 130 := by
        rcases g with g | g
        · have := xNum_iff.mp g; omega
        · have := xFac_iff.mp g; omega
      have hk2 : ¬ (xK ts = 105 ∨ xK ts = 106) := by
        rcases g with g | g
        · have := xNum_iff.mp g; omega
        · have := xFac_iff.mp g; omega
      obtain ⟨t1, t2, t3, t4⟩ := wf_tl w hk
      rw [if_neg hk2] at t3
      obtain ⟨m1, e1, s1, _⟩ := op_write h (by omega) (xK ts)
      rw [List.append_assoc] at s1
      obtain ⟨m2, e2, s2⟩ := op_step s1 t1
      rw [if_pos g, e1, Option.bind_some, e2, Option.bind_some]
      have lb : ((A0 ++ (a ++ [xK ts])).length : Int) = ((A0 ++ a).length : Int) + 1 := by
        rw [← List.append_assoc, List.length_append]
        show (((A0 ++ a).length + 1 : Nat) : Int) = _
        omega
      by_cases gp : xK (xTl ts) = 123
      · obtain ⟨u1, u2, u3, u4⟩ := wf_tl t2 (by omega)
        rw [if_neg (by omega)] at u3
        obtain ⟨m3, e3, s3⟩ := op_step s2 u1
        have I := ih (xTl (xTl ts)) (a ++ [xK ts]) q v1 (v2 + 1) m3 s3 u2 (by omega) (by omega) (by omega) (by omega) (by rw [lb]; omega)
        have E : cAft q v1 v2 m2 = f_X3_readComparison_L4 q v1 (v2 + 1) m3 := by
          unfold cAft
          rw [s2.1.1, if_pos gp, e3, Option.bind_some, jW_of (by omega) (by omega)]
        rw [E]
        have xs : xSum (f + 1) ts = (match xSum f (xTl (xTl ts)) with | .inl e => .inl e | .inr r => .inr (xK ts :: r.1, r.2)) := by
          show (if xNum (xK ts) = true ∨ xFac (xK ts) = true then _ else _) = _
          rw [if_pos g, if_pos gp]
          rfl
        constructor
        · intro e he
          rw [xs] at he
          cases hx : xSum f (xTl (xTl ts)) with
          | inl e' => rw [hx] at he; cases he; exact I.1 _ hx
          | inr r => rw [hx] at he; cases he
        · intro r hr
          rw [xs] at hr
          cases hx : xSum f (xTl (xTl ts)) with
          | inl e' => rw [hx] at hr; cases hr
          | inr r' =>
            rw [hx] at hr
            cases hr
            obtain ⟨m', q', v2', i1, i2, i3, i4, i5, i6, i7, i8, i9⟩ := I.2 _ hx
            rw [List.append_assoc] at i2 i9
            exact ⟨m', q', v2', i1, i2, i3, i4, by show r'.2.length < _; omega, i6, i7, i8, i9⟩
      · have xs : xSum (f + 1) ts = .inr ([xK ts], xTl ts) := by
          show (if xNum (xK ts) = true ∨ xFac (xK ts) = true then _ else _) = _
          rw [if_pos g, if_neg gp]
        constructor
        · intro e he; rw [xs] at he; cases he
        · intro r hr
          rw [xs] at hr
          cases hr
          exact ⟨m2, q, v2, rfl, s2, t2, gp, by show (xTl ts).length < _; omega, h0, by show v2 + ((xTl ts).length : Int) ≤ 401; omega, by show (xTl ts).length + 2 ≤ q; omega, by rw [lb]; show _ ≤ (B : Int) + xHd (xTl ts); omega⟩
    · rw [if_neg g]
      have xs : xSum (f + 1) ts = .inl (xHd ts) := by
        show (if xNum (xK ts) = true ∨ xFac (xK ts) = true then _ else _) = _
        rw [if_neg g]
      constructor
      · intro e he
        rw [xs] at he
        cases he
        exact fl_of h
      · intro r hr; rw [xs] at hr; cases hr
theorem c_cmp {m0 m : jMu} {S A0 a : List Int} {D n : Int} {B cs : Nat} {ts : List (Int × Int)} (hB : (B : Int) + n ≤ 1600) (h : sRe m0 m S (A0 ++ a) D ts) (w : wf n ts) (hl : ts.length ≤ 401) (hb : ((A0 ++ a).length : Int) + cs + 1 ≤ B + xHd ts) :
    (∀ e, xCmp ts = .inl e → fl m0 A0 e (f_X3_readComparison m)) ∧
    (∀ r, xCmp ts = .inr r → ∃ m', f_X3_readComparison m = some (1, m') ∧ sRe m0 m' S (A0 ++ (a ++ r.1)) D r.2 ∧ wf n r.2 ∧ r.2.length < ts.length ∧ ((A0 ++ (a ++ r.1)).length : Int) + cs ≤ B + xHd r.2) := by
  unfold f_X3_readComparison
  have K := c_sum (cs := cs) hB 401 ts a jFU (-1) 0 m h w hl (Int.le_refl _) (by omega) (by unfold jFU; omega) hb
  cases hx : xSum 401 ts with
  | inl e' =>
    have xs : xCmp ts = .inl e' := by unfold xCmp; rw [hx]
    refine ⟨fun e he => ?_, fun r hr => ?_⟩
    · rw [xs] at he
      cases he
      exact K.1 _ hx
    · rw [xs] at hr; cases hr
  | inr r1 =>
    obtain ⟨m1, q1, v1, i1, i2, i3, i4, i5, i6, i7, i8, i9⟩ := K.2 _ hx
    have hd := wf_hd i3
    rw [i1]
    by_cases g : xK r1.2 = 124 ∨ xK r1.2 = 125
    · obtain ⟨t1, t2, t3, t4⟩ := wf_tl i3 (by omega)
      rw [if_neg (by omega)] at t3
      obtain ⟨m2, e2, s2, q62⟩ := op_write i2 (by omega) 132
      rw [List.append_assoc, List.append_assoc] at s2
      obtain ⟨m3, e3, s3⟩ := op_step s2 t1
      have E : cAft q1 (-1) v1 m1 = f_X3_readComparison_L4 q1 (xK r1.2) (v1 + 1) m3 := by
        unfold cAft
        rw [i2.1.1, if_neg i4, if_pos rfl]
        by_cases g2 : xK r1.2 = 124
        · rw [if_pos g2, e2, Option.bind_some, e3, Option.bind_some, jW_of (by omega) (by omega)]
        · rw [if_neg g2, if_pos (by omega), e2, Option.bind_some, e3, Option.bind_some, jW_of (by omega) (by omega)]
      have lb : ((A0 ++ (a ++ (r1.1 ++ [132]))).length : Int) = ((A0 ++ (a ++ r1.1)).length : Int) + 1 := by
        rw [← List.append_assoc a, ← List.append_assoc A0, List.length_append]
        show (((A0 ++ (a ++ r1.1)).length + 1 : Nat) : Int) = _
        omega
      have K2 := c_sum (cs := cs) hB 401 (xTl r1.2) (a ++ (r1.1 ++ [132])) q1 (xK r1.2) (v1 + 1) m3 s3 t2 (by omega) (by omega) (by omega) (by omega) (by rw [lb]; omega)
      rw [E]
      cases hy : xSum 401 (xTl r1.2) with
      | inl e' =>
        have xs : xCmp ts = .inl e' := by unfold xCmp; rw [hx]; dsimp only; rw [if_pos g, hy]
        refine ⟨fun e he => ?_, fun r hr => ?_⟩
        · rw [xs] at he
          cases he
          exact K2.1 _ hy
        · rw [xs] at hr; cases hr
      | inr r2 =>
        have xs : xCmp ts = .inr (r1.1 ++ 132 :: (r2.1 ++ [xK r1.2]), r2.2) := by unfold xCmp; rw [hx]; dsimp only; rw [if_pos g, hy]
        obtain ⟨m4, q4, v4, j1, j2, j3, j4, j5, j6, j7, j8, j9⟩ := K2.2 _ hy
        have hd2 := wf_hd j3
        obtain ⟨m5, e5, s5, _⟩ := op_write j2 (by omega) (xK r1.2)
        have ea : A0 ++ (a ++ (r1.1 ++ [132]) ++ r2.1) ++ [xK r1.2] = A0 ++ (a ++ (r1.1 ++ 132 :: (r2.1 ++ [xK r1.2]))) := by
          simp only [List.append_assoc, List.cons_append, List.nil_append]
        rw [ea] at s5
        refine ⟨fun e he => ?_, fun r hr => ?_⟩
        · rw [xs] at he; cases he
        · rw [xs] at hr
          cases hr
          refine ⟨m5, ?_, s5, j3, by show r2.2.length < _; omega, ?_⟩
          · rw [j1]
            unfold cAft
            rw [j2.1.1, if_neg j4, if_neg (by omega), e5, Option.bind_some]
          · rw [← ea, List.length_append]
            show (((A0 ++ (a ++ (r1.1 ++ [132]) ++ r2.1)).length + 1 : Nat) : Int) + cs ≤ (B : Int) + xHd r2.2
            omega
    · have xs : xCmp ts = .inl (xHd r1.2) := by unfold xCmp; rw [hx]; dsimp only; rw [if_neg g]
      have E : cAft q1 (-1) v1 m1 = some (0, m1) := by
        unfold cAft
        rw [i2.1.1, if_neg i4, if_pos rfl, if_neg (fun z => g (Or.inl z)), if_neg (fun z => g (Or.inr z))]
      rw [E]
      refine ⟨fun e he => ?_, fun r hr => ?_⟩
      · rw [xs] at he
        cases he
        exact fl_of i2
      · rw [xs] at hr; cases hr
