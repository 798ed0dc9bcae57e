/-! LEVEL 2: the class runs a line's code -/
theorem i7n (c : Int) : f_X7_isNumber c = some (if 0 ≤ c ∧ c < 100 then 1 else 0) := by
  unfold f_X7_isNumber
  split
  · rw [if_neg (by omega)]
  · split
    · rw [if_neg (by omega)]
    · rw [if_pos (by omega)]
theorem i7f (c : Int) : f_X7_isFact c = some (if 111 ≤ c ∧ c ≤ 116 then 1 else 0) := by
  unfold f_X7_isFact
  split
  · rw [if_neg (by omega)]
  · split
    · rw [if_neg (by omega)]
    · rw [if_pos (by omega)]
theorem i7t (c : Int) : f_X7_isTag c = some (if 108 ≤ c ∧ c ≤ 110 then 1 else 0) := by
  unfold f_X7_isTag
  split
  · rw [if_neg (by omega)]
  · split
    · rw [if_neg (by omega)]
    · rw [if_pos (by omega)]
theorem cg_code {m : jMu} {M : Int → Int} (C : kC m 0 M) {i : Int} (h0 : 0 ≤ i) (h1 : i < (xCo (xAl M (M 5).toNat)).length) : f_X5_get 18 19 1600 i 0 m = some ((xCo (xAl M (M 5).toNat)).getD i.toNat 0) :=
  tb_get (cols := 1) (lim := 1600) (by unfold TabS; decide) (C.t 13 (by decide)) h0 h1 (by decide) (by decide)
/-- what is the machine's next state, of the class -/
theorem xSt_x {e : Int → Int} {v l s c : Int} (h1 : ¬ (0 ≤ c ∧ c < 100)) (h2 : ¬ (111 ≤ c ∧ c ≤ 116)) (h3 : ¬ (108 ≤ c ∧ c ≤ 110)) (h4 : c ≠ 132) (h5 : c ≠ 124) (h6 : c ≠ 125) : xSt e (v, l, s) c = (if c = 107 then (if v % 2 = 0 then v + 1 else v - 1) else if c = 106 then (if v % 2 = 0 then v / 2 - v / 2 % 2 else v / 2) else if c = 105 then (if v % 2 = 0 then v / 2 else v / 2 - v / 2 % 2 + 1) else v, l, s) := by
  unfold xSt
  rw [if_neg (fun z => h1 (xNum_iff.mp z)), if_neg (fun z => h2 (xFac_iff.mp z)), if_neg (fun z => h3 (xTag_iff.mp z)), if_neg h4, if_neg h5, if_neg h6]
  by_cases a : c = 107
  · rw [if_pos a, if_pos a]
  · rw [if_neg a, if_neg a]
    by_cases b : c = 106
    · rw [if_pos b, if_pos b]
    · rw [if_neg b, if_neg b]
      by_cases d : c = 105
      · rw [if_pos d, if_pos d]
      · rw [if_neg d, if_neg d]
theorem cJoin {v c : Int} (h0 : 0 ≤ v) (h1 : v < 2147483648) : f_X1_joined v c = some (if c = 107 then (if v % 2 = 0 then v + 1 else v - 1) else if c = 106 then (if v % 2 = 0 then v / 2 - v / 2 % 2 else v / 2) else if c = 105 then (if v % 2 = 0 then v / 2 else v / 2 - v / 2 % 2 + 1) else v) := by
  unfold f_X1_joined
  rw [tOr h0 h1, tAnd h0 h1, tNot h0 h1]
  by_cases a : c = 105
  · subst a
    simp only [Int.reduceEq, if_true, if_false]
  · rw [if_neg a]
    by_cases b : c = 106
    · subst b
      simp only [Int.reduceEq, if_true, if_false]
    · rw [if_neg b]
      by_cases d : c = 107
      · rw [if_pos d, if_pos d]
      · rw [if_neg d, if_neg d, if_neg b, if_neg a]
theorem c_run {m : jMu} {M : Int → Int} (C : kC m 0 M) {e : Int → Int} (E : eB e) (hF : ∀ c, 108 ≤ c → c ≤ 116 → f_X1_factHere c m = some (e c)) : ∀ (cs : List Int) (q : Nat) (i v l s : Int), 0 ≤ i → i + cs.length ≤ (xCo (xAl M (M 5).toNat)).length → (xCo (xAl M (M 5).toNat)).length ≤ 1600 → (∀ j : Nat, j < cs.length → (xCo (xAl M (M 5).toNat)).getD (i.toNat + j) 0 = cs.getD j 0) → cs.length < q → xOk e cs (v, l, s) → 0 ≤ (xEv e cs (v, l, s)).1 → (xEv e cs (v, l, s)).1 < 2147483648 → f_X1_holdsHere_L35 q (i + cs.length) v l s i m = some (if (xEv e cs (v, l, s)).1 % 2 = 1 then 1 else 0) := by
  intro cs
  induction cs with
  | nil =>
    intro q i v l s h0 h1 h9 hc hq hok hf0 hf1
    obtain ⟨q, rfl⟩ : ∃ t, q = t + 1 := ⟨q - 1, by omega⟩
    rw [f_X1_holdsHere_L35]
    rw [if_pos (by show i + ((0 : Nat) : Int) ≤ i; omega), tLow (show 0 ≤ v from hf0) (show v < 2147483648 from hf1)]
    show _ = some (if v % 2 = 1 then 1 else 0)
    split <;> rfl
  | cons c cs ih =>
    intro q i v l s h0 h1 h9 hc hq hok hf0 hf1
    obtain ⟨q, rfl⟩ : ∃ t, q = t + 1 := ⟨q - 1, by omega⟩
    have hl : ((c :: cs).length : Int) = (cs.length : Int) + 1 := by rw [List.length_cons]; omega
    rw [List.length_cons] at hq
    obtain ⟨⟨v0, v1, s0, s1⟩, hok2⟩ := hok
    replace v0 : 0 ≤ v := v0
    replace v1 : v < 1073741824 := v1
    replace s0 : 0 ≤ s := s0
    replace s1 : s ≤ 1000000 := s1
    have hc0 := hc 0 (by rw [List.length_cons]; omega)
    rw [Nat.add_zero] at hc0
    have hc0' : (xCo (xAl M (M 5).toNat)).getD i.toNat 0 = c := hc0
    rw [xEv_c] at hf0 hf1 ⊢
    have step : ∀ x : Int × Int × Int, xSt e (v, l, s) c = x → f_X1_holdsHere_L35 q (i + ((c :: cs).length : Int)) x.1 x.2.1 x.2.2 (jW (i + 1)) m = some (if (xEv e cs (xSt e (v, l, s) c)).1 % 2 = 1 then 1 else 0) := by
      intro x hx
      rw [hx] at hf0 hf1 hok2 ⊢
      rw [jW_of (by omega) (by omega), hl, show i + ((cs.length : Int) + 1) = i + 1 + (cs.length : Int) by omega]
      refine ih q (i + 1) x.1 x.2.1 x.2.2 (by omega) (by omega) h9 (fun j hj => ?_) (by omega) hok2 hf0 hf1
      have := hc (j + 1) (by rw [List.length_cons]; omega)
      rw [show (i + 1).toNat + j = i.toNat + (j + 1) by omega, this]
      rfl
    rw [f_X1_holdsHere_L35, if_neg (by omega), cg_code C h0 (by omega), hc0', Option.bind_some, i7n, Option.bind_some, ite01]
    by_cases k1 : 0 ≤ c ∧ c < 100
    · have hx := step (v, l, s + c) (xSt_nm (xNum_iff.mpr k1))
      rw [if_pos k1, jW_of (z := s + c) (by omega) (by omega)]
      exact hx
    · rw [if_neg k1, i7f, Option.bind_some, ite01]
      have nn : xNum c = false := by
        cases h : xNum c with
        | true => exact (k1 (xNum_iff.mp h)).elim
        | false => rfl
      by_cases k2 : 111 ≤ c ∧ c ≤ 116
      · have hx := step (v, l, s + e c) (xSt_fc nn (xFac_iff.mpr k2))
        have hb := E.2 c k2.1 k2.2
        rw [if_pos k2, hF c (by omega) k2.2, Option.bind_some, jW_of (z := s + e c) (by omega) (by omega)]
        exact hx
      · rw [if_neg k2, i7t, Option.bind_some, ite01]
        by_cases k3 : 108 ≤ c ∧ c ≤ 110
        · have hx := step (2 * v + e c, l, s) (xSt_tg k3)
          rw [if_pos k3, hF c k3.1 (by omega), Option.bind_some, tPush v0 v1 (E.1 c k3.1 k3.2)]
          exact hx
        · rw [if_neg k3]
          by_cases k4 : c = 132
          · subst k4
            rw [if_pos rfl]
            exact step (v, s, 0) (xSt_132 e v l s)
          · rw [if_neg k4]
            by_cases k5 : c = 124
            · subst k5
              have hx := step (2 * v + (if l < s then 1 else 0), l, 0) (xSt_124 e v l s)
              rw [if_pos rfl, if_pos rfl, tPush v0 v1 (Or.inl rfl), tPush v0 v1 (Or.inr rfl)]
              by_cases g : s ≤ l
              · rw [if_pos g]
                rw [if_neg (by omega)] at hx
                exact hx
              · rw [if_neg g]
                rw [if_pos (by omega)] at hx
                exact hx
            · rw [if_neg k5]
              by_cases k6 : c = 125
              · subst k6
                have hx := step (2 * v + (if s < l then 1 else 0), l, 0) (xSt_125 e v l s)
                rw [if_pos rfl, if_neg (by decide), tPush v0 v1 (Or.inl rfl), tPush v0 v1 (Or.inr rfl)]
                by_cases g : l ≤ s
                · rw [if_pos g]
                  rw [if_neg (by omega)] at hx
                  exact hx
                · rw [if_neg g]
                  rw [if_pos (by omega)] at hx
                  exact hx
              · have hx := step _ (xSt_x (e := e) (v := v) (l := l) (s := s) k1 k2 k3 k4 k5 k6)
                rw [if_neg k6, cJoin v0 (by omega), Option.bind_some]
                exact hx
