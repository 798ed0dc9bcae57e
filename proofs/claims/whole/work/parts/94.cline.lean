/-! LEVEL 2: the class asks a line -/
def Gl (e : Int → Int) (l : xLn) : Prop := (100 ≤ l.1 ∧ l.1 ≤ 103) ∧ (l.2.2 = [] ∨ Gb e 15 l.2.2)
theorem gLin {e : Int → Int} (E : eB e) {ts : List (Int × Int)} {r : xLn × List (Int × Int)} (h : xLin ts = .inr r) : Gl e r.1 := by
  unfold xLin at h
  by_cases k : 100 ≤ xK ts ∧ xK ts ≤ 103
  · rw [if_pos k] at h
    by_cases k0 : xK ts = 100
    · rw [if_pos k0] at h
      by_cases k4 : xK (xTl ts) = 104
      · rw [if_pos k4] at h
        cases hx : xSom (xAto 6) (xTl (xTl ts)) with
        | inl er => rw [hx] at h; cases h
        | inr r1 =>
          rw [hx] at h
          cases h
          exact ⟨⟨by show (100 : Int) ≤ 100; decide, by show (100 : Int) ≤ 103; decide⟩, Or.inr (gCond E _ r1 hx)⟩
      · rw [if_neg k4] at h; cases h
    · rw [if_neg k0] at h
      by_cases kn : xNum (xK (xTl ts)) = true ∧ ¬ (xK ts = 101 ∧ 48 < xK (xTl ts))
      · rw [if_pos kn] at h
        by_cases k4 : xK (xTl (xTl ts)) = 104
        · rw [if_pos k4] at h
          cases hx : xSom (xAto 6) (xTl (xTl (xTl ts))) with
          | inl er => rw [hx] at h; cases h
          | inr r1 =>
            rw [hx] at h
            cases h
            exact ⟨k, Or.inr (gCond E _ r1 hx)⟩
        · rw [if_neg k4] at h
          cases h
          exact ⟨k, Or.inl rfl⟩
      · rw [if_neg kn] at h; cases h
  · rw [if_neg k] at h; cases h
theorem gLis {e : Int → Int} (E : eB e) : ∀ (q : Nat) (a : List xLn) (ts : List (Int × Int)) (L : List xLn), (∀ l ∈ a, Gl e l) → xLis q a ts = .inr L → ∀ l ∈ L, Gl e l := by
  intro q
  induction q with
  | zero => intro a ts L _ h; cases h
  | succ q ih =>
    intro a ts L ha h
    rw [xLis_s] at h
    cases hx : xLin ts with
    | inl er => rw [hx] at h; cases h
    | inr r =>
      rw [hx] at h
      dsimp only at h
      have ha2 : ∀ l ∈ a ++ [r.1], Gl e l := by
        intro l hl
        rcases List.mem_append.mp hl with g | g
        · exact ha l g
        · rw [List.mem_singleton.mp g]; exact gLin E hx
      by_cases k1 : xK r.2 = 130
      · rw [if_pos k1] at h
        cases h
        exact ha2
      · rw [if_neg k1] at h
        by_cases k2 : xK r.2 = 122
        · rw [if_pos k2] at h
          exact ih _ _ L ha2 h
        · rw [if_neg k2] at h; cases h
theorem gPar {e : Int → Int} (E : eB e) {b : Int → Int} {n : Int} {L : List xLn} (h : xPar b n = .inr L) : ∀ l ∈ L, Gl e l := by
  unfold xPar xTxt at h
  by_cases k : xK (xTo b n 401 0) = 130
  · rw [if_pos k] at h
    cases h
    intro l hl
    cases hl
  · rw [if_neg k] at h
    exact gLis E 10 [] _ L (fun l hl => by cases hl) h
theorem gAl {m : jMu} {M : Int → Int} (C : kC m 0 M) {e : Int → Int} (E : eB e) : ∀ q : Nat, (q : Int) ≤ M 5 → ∀ l ∈ xAl M q, Gl e l := by
  intro q
  induction q with
  | zero => intro _ l hl; cases hl
  | succ q ih =>
    intro hq l hl
    rcases List.mem_append.mp hl with g | g
    · exact ih (by omega) l g
    · have h := (kR_t C (t := (q : Int)) (by omega) (by omega)).2.1
      exact gPar E h l g
theorem xCo_app (a c : List xLn) : xCo (a ++ c) = xCo a ++ xCo c := List.flatMap_append
theorem cg_line {m : jMu} {M : Int → Int} (C : kC m 0 M) {i c : Int} (h0 : 0 ≤ i) (h1 : i < (xAl M (M 5).toNat).length) (h2 : 0 ≤ c) (h3 : c < 4) : f_X5_get 16 17 160 i c m = some (if c = 0 then ((xAl M (M 5).toNat).getD i.toNat (0, 0, [])).1 else if c = 1 then ((xAl M (M 5).toNat).getD i.toNat (0, 0, [])).2.1 else if c = 2 then (xCo ((xAl M (M 5).toNat).take i.toNat)).length else (xCo ((xAl M (M 5).toNat).take (i.toNat + 1))).length) :=
  tb_get (cols := 4) (lim := 40) (by unfold TabS; decide) (C.t 12 (by decide)) h0 h1 h2 h3
/-- the code of one line in the code of all -/
theorem xCo_at (A : List xLn) (i : Nat) (hi : i < A.length) : (xCo (A.take (i + 1))).length = (xCo (A.take i)).length + (A.getD i (0, 0, [])).2.2.length ∧ (xCo (A.take (i + 1))).length ≤ (xCo A).length ∧ ∀ j, j < (A.getD i (0, 0, [])).2.2.length → (xCo A).getD ((xCo (A.take i)).length + j) 0 = (A.getD i (0, 0, [])).2.2.getD j 0 := by
  have e0 : A.getD i (0, 0, []) = A[i] := by rw [List.getD_eq_getElem?_getD, List.getElem?_eq_getElem hi]; rfl
  have e1 : A.take (i + 1) = A.take i ++ [A[i]] := (List.take_append_getElem hi).symm
  have e2 : A = A.take (i + 1) ++ A.drop (i + 1) := (List.take_append_drop (i + 1) A).symm
  have e3 : xCo (A.take (i + 1)) = xCo (A.take i) ++ A[i].2.2 := by
    rw [e1, xCo_app]
    congr 1
    show A[i].2.2 ++ [] = _
    rw [List.append_nil]
  have e4 : xCo A = xCo (A.take i) ++ (A[i].2.2 ++ xCo (A.drop (i + 1))) := by
    rw [← List.append_assoc, ← e3, ← xCo_app, ← e2]
  rw [e0]
  refine ⟨by rw [e3, List.length_append], ?_, fun j hj => ?_⟩
  · rw [e4, e3, List.length_append, List.length_append, List.length_append]; omega
  · rw [e4, List.getD_eq_getElem?_getD, List.getElem?_append_right (by omega), List.getElem?_append_left (by omega), show (xCo (A.take i)).length + j - (xCo (A.take i)).length = j by omega, ← List.getD_eq_getElem?_getD]
theorem c_hold {m : jMu} {M : Int → Int} (C : kC m 0 M) {e : Int → Int} (E : eB e) (hF : ∀ c, 108 ≤ c → c ≤ 116 → f_X1_factHere c m = some (e c)) {i : Int} (h0 : 0 ≤ i) (h1 : i < (xAl M (M 5).toNat).length) : f_X1_holdsHere i m = some (if xHo e ((xAl M (M 5).toNat).getD i.toNat (0, 0, [])).2.2 = true then 1 else 0) := by
  have hn := C.n
  have T := C.t 13 (by decide)
  have hlen : (xCo (xAl M (M 5).toNat)).length ≤ 1600 := by
    have := T.2.2.2.2.1
    have h9 : (((xCo (xAl M (M 5).toNat)).length : Nat) : Int) ≤ 1600 := this
    omega
  have hi : i.toNat < (xAl M (M 5).toNat).length := by omega
  obtain ⟨a1, a2, a3⟩ := xCo_at (xAl M (M 5).toNat) i.toNat hi
  have hG := gAl C E (M 5).toNat (by omega) ((xAl M (M 5).toNat).getD i.toNat (0, 0, [])) (by
    rw [List.getD_eq_getElem?_getD, List.getElem?_eq_getElem hi]
    exact List.getElem_mem hi)
  unfold f_X1_holdsHere
  rw [cg_line C h0 h1 (c := 3) (by decide) (by decide), Option.bind_some, cg_line C h0 h1 (c := 2) (by decide) (by decide), Option.bind_some]
  rw [if_neg (by decide), if_neg (by decide), if_neg (by decide), if_neg (by decide), if_neg (by decide), if_pos rfl, a1]
  generalize hcs : ((xAl M (M 5).toNat).getD i.toNat (0, 0, [])).2.2 = cs at *
  have ok : xOk e cs (1, 0, 0) ∧ 0 ≤ (xEv e cs (1, 0, 0)).1 ∧ (xEv e cs (1, 0, 0)).1 < 2147483648 := by
    rcases hG.2 with g | g
    · rw [hcs] at g
      rw [g]
      exact ⟨trivial, by show (0 : Int) ≤ 1; decide, by show (1 : Int) < 2147483648; decide⟩
    · rw [hcs] at g
      obtain ⟨v, g1, g2⟩ := g
      obtain ⟨l', g3⟩ := g1.2 1 0
      refine ⟨g2 1 0 (by decide) (by decide), ?_, ?_⟩
      · rw [g3]; show 0 ≤ 2 * 1 + v; have := g1.1; omega
      · rw [g3]; show 2 * 1 + v < 2147483648; have := g1.1; omega
  have R := c_run C E hF cs jFU ((xCo ((xAl M (M 5).toNat).take i.toNat)).length : Int) 1 0 0 (by omega) (by omega) hlen (fun j hj => by rw [show (((xCo ((xAl M (M 5).toNat).take i.toNat)).length : Nat) : Int).toNat = (xCo ((xAl M (M 5).toNat).take i.toNat)).length by omega]; exact a3 j hj) (by unfold jFU; omega) ok.1 ok.2.1 ok.2.2
  rw [Int.natCast_add, R]
  unfold xHo
  simp only [decide_eq_true_eq]
