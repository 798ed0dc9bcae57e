/-! LEVEL 2: whether work goes on, by the class -/
theorem xAl_pre (M : Int → Int) (q : Nat) : ∀ d : Nat, ∃ r, xAl M (q + d) = xAl M q ++ r := by
  intro d
  induction d with
  | zero => exact ⟨[], (List.append_nil _).symm⟩
  | succ d ih =>
    obtain ⟨r, h⟩ := ih
    exact ⟨r ++ xTx M (q + d), by show xAl M (q + d) ++ xTx M (q + d) = _; rw [h, List.append_assoc]⟩
/-- a text's lines among all -/
theorem xAl_at {M : Int → Int} {t N : Nat} (h : t < N) : (xAl M (t + 1)).length = (xAl M t).length + (xTx M t).length ∧ (xAl M (t + 1)).length ≤ (xAl M N).length ∧ ∀ k, k < (xTx M t).length → (xAl M N).getD ((xAl M t).length + k) (0, 0, []) = (xTx M t).getD k (0, 0, []) := by
  obtain ⟨r, hr⟩ := xAl_pre M (t + 1) (N - (t + 1))
  rw [show t + 1 + (N - (t + 1)) = N by omega] at hr
  have e1 : xAl M (t + 1) = xAl M t ++ xTx M t := rfl
  refine ⟨by rw [e1, List.length_append], by rw [hr, List.length_append]; omega, fun k hk => ?_⟩
  rw [hr, e1, List.append_assoc, List.getD_eq_getElem?_getD, List.getElem?_append_right (by omega), List.getElem?_append_left (by omega), show (xAl M t).length + k - (xAl M t).length = k by omega, ← List.getD_eq_getElem?_getD]
theorem cg_term0 {m : jMu} {M : Int → Int} (C : kC m 0 M) {t : Int} (h0 : 0 ≤ t) (h1 : t < M 5) : f_X5_get 14 15 6 t 0 m = some (((xAl M t.toNat).length : Nat) : Int) :=
  tb_get (cols := 2) (lim := 3) (by unfold TabS; decide) (C.t 11 (by decide)) h0 h1 (by decide) (by decide)
theorem cg_term1 {m : jMu} {M : Int → Int} (C : kC m 0 M) {t : Int} (h0 : 0 ≤ t) (h1 : t < M 5) : f_X5_get 14 15 6 t 1 m = some (((xAl M (t.toNat + 1)).length : Nat) : Int) :=
  tb_get (cols := 2) (lim := 3) (by unfold TabS; decide) (C.t 11 (by decide)) h0 h1 (by decide) (by decide)
theorem c_whyL {m : jMu} {M : Int → Int} (C : kC m 0 M) {e : Int → Int} (E : eB e) (hF : ∀ c, 108 ≤ c → c ≤ 116 → f_X1_factHere c m = some (e c)) {a : Nat} : ∀ (ls : List xLn) (k q : Nat), a + k + ls.length ≤ (xAl M (M 5).toNat).length → (xAl M (M 5).toNat).length ≤ 1000 → (∀ j, j < ls.length → (xAl M (M 5).toNat).getD (a + k + j) (0, 0, []) = ls.getD j (0, 0, [])) → ls.length < q → f_X1_whyHere_L38 q (a : Int) ((a : Int) + k + ls.length) ((a : Int) + k) m = some (if xStop e k ls = -1 then 0 else 2 + xStop e k ls) := by
  intro ls
  induction ls with
  | nil =>
    intro k q h1 h9 h2 hq
    obtain ⟨q, rfl⟩ : ∃ t, q = t + 1 := ⟨q - 1, by omega⟩
    rw [f_X1_whyHere_L38, if_pos (by show (a : Int) + k + ((0 : Nat) : Int) ≤ a + k; omega)]
    show some 0 = some (if (-1 : Int) = -1 then 0 else 2 + -1)
    rw [if_pos rfl]
  | cons l ls ih =>
    intro k q h1 h9 h2 hq
    obtain ⟨q, rfl⟩ : ∃ t, q = t + 1 := ⟨q - 1, by omega⟩
    rw [List.length_cons] at h1 hq
    have hl : ((l :: ls).length : Int) = (ls.length : Int) + 1 := by rw [List.length_cons]; omega
    have hx : (xAl M (M 5).toNat).getD ((a : Int) + k).toNat (0, 0, []) = l := by
      have := h2 0 (by rw [List.length_cons]; omega)
      rw [show ((a : Int) + k).toNat = a + k + 0 by omega]
      exact this
    have hi : ((a : Int) + k) < ((xAl M (M 5).toNat).length : Int) := by omega
    have I := ih (k + 1) q (by omega) h9 (fun j hj => by
      have := h2 (j + 1) (by rw [List.length_cons]; omega)
      rw [show a + (k + 1) + j = a + k + (j + 1) by omega, this]
      rfl) (by omega)
    rw [show (a : Int) + ((k + 1 : Nat) : Int) + (ls.length : Int) = (a : Int) + k + ((l :: ls).length : Int) by omega, show (a : Int) + ((k + 1 : Nat) : Int) = (a : Int) + k + 1 by omega, show (((k + 1 : Nat)) : Int) = (k : Int) + 1 by omega] at I
    have e1 : xStop e k (l :: ls) = if l.1 = 100 ∧ xHo e l.2.2 = true then (k : Int) else xStop e ((k : Int) + 1) ls := rfl
    have gl0 := cg_line C (i := (a : Int) + k) (by omega) hi (c := 0) (by decide) (by decide)
    rw [if_pos rfl, hx] at gl0
    rw [f_X1_whyHere_L38, if_neg (by omega), gl0, Option.bind_some, c_hold C E hF (by omega) hi, hx, Option.bind_some, ite01, jW_of (z := (a : Int) + k + 1) (by omega) (by omega), I]
    by_cases g : l.1 = 100
    · by_cases g2 : xHo e l.2.2 = true
      · have e2 : xStop e k (l :: ls) = k := by rw [e1, if_pos ⟨g, g2⟩]
        rw [if_pos g, if_pos g2, e2, if_neg (by omega), jW_of (z := 2 + ((a : Int) + k)) (by omega) (by omega), jW_of (by omega) (by omega)]
        congr 1
        omega
      · have e2 : xStop e k (l :: ls) = xStop e ((k : Int) + 1) ls := by rw [e1, if_neg (fun z => g2 z.2)]
        rw [if_pos g, if_neg g2, e2]
    · have e2 : xStop e k (l :: ls) = xStop e ((k : Int) + 1) ls := by rw [e1, if_neg (fun z => g z.1)]
      rw [if_neg g, e2]
theorem c_numL {m : jMu} {M : Int → Int} (C : kC m 0 M) {e : Int → Int} (E : eB e) (hF : ∀ c, 108 ≤ c → c ≤ 116 → f_X1_factHere c m = some (e c)) {a : Nat} {T : List xLn} (h1 : a + T.length ≤ (xAl M (M 5).toNat).length) (h9 : (xAl M (M 5).toNat).length ≤ 1000) (h2 : ∀ j, j < T.length → (xAl M (M 5).toNat).getD (a + j) (0, 0, []) = T.getD j (0, 0, [])) (kd w : Int) : ∀ (k q : Nat), k ≤ T.length → k < q → f_X1_numberHere_L30 q kd w (a : Int) ((a : Int) + k - 1) m = some (xLast e kd w (T.take k)) := by
  intro k
  induction k with
  | zero =>
    intro q _ hq
    obtain ⟨q, rfl⟩ : ∃ t, q = t + 1 := ⟨q - 1, by omega⟩
    rw [f_X1_numberHere_L30, if_pos (by omega)]
    rfl
  | succ k ih =>
    intro q hk hq
    obtain ⟨q, rfl⟩ : ∃ t, q = t + 1 := ⟨q - 1, by omega⟩
    have I := ih q (by omega) (by omega)
    have hi : ((a : Int) + k) < ((xAl M (M 5).toNat).length : Int) := by omega
    have hx : (xAl M (M 5).toNat).getD ((a : Int) + k).toNat (0, 0, []) = T[k]'(by omega) := by
      rw [show ((a : Int) + k).toNat = a + k by omega, h2 k (by omega), List.getD_eq_getElem?_getD, List.getElem?_eq_getElem (by omega)]
      rfl
    have e1 : T.take (k + 1) = T.take k ++ [T[k]'(by omega)] := (List.take_append_getElem (by omega)).symm
    rw [show (a : Int) + ((k + 1 : Nat) : Int) - 1 = (a : Int) + k by omega]
    have ej : jW ((a : Int) + k + -1) = (a : Int) + k - 1 := by rw [jW_of (by omega) (by omega)]; omega
    have gl0 := cg_line C (i := (a : Int) + k) (by omega) hi (c := 0) (by decide) (by decide)
    rw [if_pos rfl, hx] at gl0
    have gl1 := cg_line C (i := (a : Int) + k) (by omega) hi (c := 1) (by decide) (by decide)
    rw [if_neg (by decide), if_pos rfl, hx] at gl1
    rw [f_X1_numberHere_L30, if_neg (by omega), gl0, Option.bind_some, c_hold C E hF (by omega) hi, Option.bind_some, ite01, gl1, Option.bind_some, hx, ej, I, e1, xLast_ap]
    by_cases g : (T[k]'(by omega)).1 = kd
    · rw [if_pos g]
      by_cases g2 : xHo e (T[k]'(by omega)).2.2 = true
      · rw [if_pos g2, if_pos ⟨g, g2⟩]
      · rw [if_neg g2, if_neg (fun z => g2 z.2)]
    · rw [if_neg g, if_neg (fun z => g z.1)]
