/-! LEVEL 2: words of a text by places -/
theorem xRun_sp {p : Int → Bool} {b : Int → Int} {n : Int} : ∀ (q : Nat) (i : Int), n - i ≤ q → (∀ j, i ≤ j → j < xRun p b n q i → j < n ∧ p (b j) = true) ∧ (xRun p b n q i < n → p (b (xRun p b n q i)) = false) := by
  intro q
  induction q with
  | zero =>
    intro i h
    refine ⟨fun j h1 h2 => ?_, fun h2 => ?_⟩
    · unfold xRun at h2; omega
    · unfold xRun at h2; omega
  | succ q ih =>
    intro i h
    unfold xRun
    by_cases h1 : i < n ∧ p (b i) = true
    · rw [if_pos h1]
      have g := ih (i + 1) (by omega)
      refine ⟨fun j h2 h3 => ?_, g.2⟩
      by_cases e : j = i
      · rw [e]; exact h1
      · exact g.1 j (by omega) h3
    · rw [if_neg h1]
      refine ⟨fun j h2 h3 => by omega, fun h2 => ?_⟩
      cases hb : p (b i) with
      | false => rfl
      | true => exact (h1 ⟨h2, hb⟩).elim
/-- a run's end is known by what stands there -/
theorem xRun_un {p : Int → Bool} {b : Int → Int} {n i e : Int} (h0 : i ≤ e) (h1 : ∀ j, i ≤ j → j < e → j < n ∧ p (b j) = true) (h2 : e < n → p (b e) = false) : ∀ q : Nat, n - i ≤ q → xRun p b n q i = e := by
  intro q hq
  have g := xRun_sp (p := p) (b := b) q i hq
  have l := xRun_le (p := p) (b := b) (n := n) q i
  by_cases c : xRun p b n q i < e
  · have a := h1 _ l.1 c
    have := g.2 a.1
    rw [a.2] at this; cases this
  · by_cases c2 : e < xRun p b n q i
    · have a := g.1 e h0 c2
      have := h2 a.1
      rw [a.2] at this; cases this
    · omega
theorem xRun_fu {p : Int → Bool} {b : Int → Int} {n i : Int} {q q' : Nat} (h : n - i ≤ q) (h' : n - i ≤ q') : xRun p b n q i = xRun p b n q' i := by
  have g := xRun_sp (p := p) (b := b) q' i h'
  exact xRun_un (xRun_le q' i).1 g.1 g.2 q h
theorem xHd_c (t : Int × Int) (r : List (Int × Int)) : xHd (t :: r) = t.2 := rfl
theorem xK_c (t : Int × Int) (r : List (Int × Int)) : xK (t :: r) = t.1 := rfl
theorem xTl_c (t : Int × Int) (r : List (Int × Int)) : xTl (t :: r) = r := rfl
section TOK
variable {b : Int → Int} {n : Int}
theorem xEn_lt {p : Int} (h : p < n) : p + 1 ≤ xEn b n p ∧ xEn b n p ≤ n := by
  have l1 := xRun_le (p := xL) (b := b) (n := n) 400 (p + 1)
  have l2 := xRun_le (p := xD) (b := b) (n := n) 400 (p + 1)
  unfold xEn xLe xDe
  split
  · omega
  · split <;> omega
theorem xTo_fu : ∀ (q : Nat) (p : Int), n - p ≤ q → ∀ q' : Nat, n - p ≤ q' → xTo b n q p = xTo b n q' p := by
  intro q
  induction q with
  | zero =>
    intro p h q' h'
    cases q' with
    | zero => rfl
    | succ q' => unfold xTo; rw [if_pos (by omega)]
  | succ q ih =>
    intro p h q' h'
    cases q' with
    | zero => unfold xTo; rw [if_pos (by omega)]
    | succ q' =>
      unfold xTo
      by_cases hn : n ≤ p
      · rw [if_pos hn, if_pos hn]
      · rw [if_neg hn, if_neg hn, ih (p + 1) (by omega) q' (by omega)]
        have := xEn_lt (b := b) (n := n) (p := p) (by omega)
        rw [ih (xEn b n p) (by omega) q' (by omega)]
def tk (b : Int → Int) (n p : Int) : List (Int × Int) := xTo b n 401 p
theorem tk_end {p : Int} (h : n ≤ p) : tk b n p = [(130, n)] := by
  unfold tk xTo
  rw [if_pos h]
theorem tk_sp {p : Int} (h0 : 0 ≤ p) (hn : n ≤ 400) (h : p < n) (hb : b p = 32) : tk b n p = tk b n (p + 1) := by
  unfold tk
  conv => lhs; unfold xTo
  rw [if_neg (by omega), if_pos hb]
  exact xTo_fu 400 (p + 1) (by omega) 401 (by omega)
theorem tk_co {p : Int} (h0 : 0 ≤ p) (hn : n ≤ 400) (h : p < n) (hb : b p ≠ 32) : tk b n p = (xKi b n p, p) :: tk b n (xEn b n p) := by
  have := xEn_lt (b := b) h
  unfold tk
  conv => lhs; unfold xTo
  rw [if_neg (by omega), if_neg hb, xTo_fu 400 (xEn b n p) (by omega) 401 (by omega)]
/-- behind the spaces -/
def sk (b : Int → Int) (n p : Int) : Int := xRun (fun c => decide (c = 32)) b n 401 p
theorem sk_le (p : Int) : p ≤ sk b n p ∧ (p ≤ n → sk b n p ≤ n) := xRun_le 401 p
theorem sk_ns {p : Int} (h0 : 0 ≤ p) (hn : n ≤ 400) (h : sk b n p < n) : b (sk b n p) ≠ 32 := by
  have := (xRun_sp (p := fun c => decide (c = 32)) (b := b) (n := n) 401 p (by omega)).2 h
  exact of_decide_eq_false this
theorem sk_id {p : Int} (h : n ≤ p ∨ b p ≠ 32) : sk b n p = p := by
  unfold sk xRun
  rw [if_neg]
  intro z
  rcases h with h | h
  · omega
  · exact h (of_decide_eq_true z.2)
theorem sk_sk {p : Int} (h0 : 0 ≤ p) (hn : n ≤ 400) : sk b n (sk b n p) = sk b n p := by
  by_cases h : sk b n p < n
  · exact sk_id (Or.inr (sk_ns h0 hn h))
  · exact sk_id (Or.inl (by omega))
theorem tk_run (hn : n ≤ 400) : ∀ (q : Nat) (p : Int), 0 ≤ p → tk b n p = tk b n (xRun (fun c => decide (c = 32)) b n q p) := by
  intro q
  induction q with
  | zero => intro p _; rfl
  | succ q ih =>
    intro p h0
    unfold xRun
    by_cases h : p < n ∧ decide (b p = 32) = true
    · rw [if_pos h, tk_sp h0 hn h.1 (of_decide_eq_true h.2)]
      exact ih (p + 1) (by omega)
    · rw [if_neg h]
theorem tk_sk (hn : n ≤ 400) {p : Int} (h0 : 0 ≤ p) : tk b n p = tk b n (sk b n p) := tk_run hn 401 p h0
/-- where the reading goes on behind a word -/
def nx (b : Int → Int) (n p : Int) : Int := xEn b n (sk b n p)
theorem tk_hd (hn : n ≤ 400) {p : Int} (h0 : 0 ≤ p) (h1 : p ≤ n) : xHd (tk b n p) = sk b n p := by
  have l := sk_le (b := b) (n := n) p
  rw [tk_sk hn h0]
  by_cases h : sk b n p < n
  · rw [tk_co (by omega) hn h (sk_ns h0 hn h), xHd_c]
  · rw [tk_end (by omega), xHd_c]
    show n = _
    omega
theorem tk_k (hn : n ≤ 400) {p : Int} (h0 : 0 ≤ p) : xK (tk b n p) = if sk b n p < n then xKi b n (sk b n p) else 130 := by
  have l := sk_le (b := b) (n := n) p
  rw [tk_sk hn h0]
  by_cases h : sk b n p < n
  · rw [if_pos h, tk_co (by omega) hn h (sk_ns h0 hn h), xK_c]
  · rw [if_neg h, tk_end (by omega), xK_c]
theorem tk_tl (hn : n ≤ 400) {p : Int} (h0 : 0 ≤ p) (h : sk b n p < n) : xTl (tk b n p) = tk b n (nx b n p) := by
  have l := sk_le (b := b) (n := n) p
  unfold nx
  rw [tk_sk hn h0, tk_co (by omega) hn h (sk_ns h0 hn h), xTl_c]
theorem nx_le {p : Int} (h : sk b n p < n) : p < nx b n p ∧ nx b n p ≤ n := by
  have l := sk_le (b := b) (n := n) p
  have := xEn_lt (b := b) h
  unfold nx
  omega
theorem tk_lt (hn : n ≤ 400) {p : Int} (h0 : 0 ≤ p) (h : xK (tk b n p) ≠ 130) : sk b n p < n := by
  rw [tk_k hn h0] at h
  by_cases g : sk b n p < n
  · exact g
  · rw [if_neg g] at h; exact (h rfl).elim
theorem xKd_ne {s : List Int} : ∀ (ws : List (Nat × Int)) (k : Int), k ≠ 131 → (∀ w ∈ ws, w.2 ≠ k) → xKd s ws ≠ k := by
  intro ws
  induction ws with
  | nil => intro k h _; exact fun z => h z.symm
  | cons w ws ih =>
    intro k h1 h2
    unfold xKd
    by_cases h : s = jtx w.1
    · rw [if_pos h]; exact h2 w List.mem_cons_self
    · rw [if_neg h]; exact ih k h1 (fun v hv => h2 v (List.mem_cons_of_mem _ hv))
theorem xKd_iff {s : List Int} : ∀ (ws : List (Nat × Int)), (ws.Pairwise (fun a c => a.2 ≠ c.2 ∧ jtx a.1 ≠ jtx c.1)) → ∀ w ∈ ws, w.2 ≠ 131 → (xKd s ws = w.2 ↔ s = jtx w.1) := by
  intro ws
  induction ws with
  | nil => intro _ w hw; cases hw
  | cons v ws ih =>
    intro hp w hw h1
    obtain ⟨hp1, hp2⟩ := List.pairwise_cons.mp hp
    unfold xKd
    rcases List.mem_cons.mp hw with e | e
    · subst e
      by_cases h : s = jtx w.1
      · rw [if_pos h]; exact ⟨fun _ => h, fun _ => rfl⟩
      · rw [if_neg h]
        exact ⟨fun z => (xKd_ne ws w.2 h1 (fun c hc z2 => (hp1 c hc).1 z2.symm) z).elim, fun z => (h z).elim⟩
    · by_cases h : s = jtx v.1
      · rw [if_pos h]
        exact ⟨fun z => ((hp1 w e).1 z).elim, fun z => ((hp1 w e).2 (h.symm.trans z)).elim⟩
      · rw [if_neg h]; exact ih hp2 w e h1
def xPw : List (Nat × Int) → Bool
  | [] => true
  | a :: r => r.all (fun c => decide (a.2 ≠ c.2) && decide (jtx a.1 ≠ jtx c.1)) && xPw r
theorem xPw_sp : ∀ ws : List (Nat × Int), xPw ws = true → ws.Pairwise (fun a c => a.2 ≠ c.2 ∧ jtx a.1 ≠ jtx c.1) := by
  intro ws
  induction ws with
  | nil => intro _; exact List.Pairwise.nil
  | cons a r ih =>
    intro h
    unfold xPw at h
    rw [Bool.and_eq_true, List.all_eq_true] at h
    refine List.pairwise_cons.mpr ⟨fun c hc => ?_, ih h.2⟩
    have := h.1 c hc
    rw [Bool.and_eq_true, decide_eq_true_eq, decide_eq_true_eq] at this
    exact this
theorem xWs_pw : xWs.Pairwise (fun a c => a.2 ≠ c.2 ∧ jtx a.1 ≠ jtx c.1) := xPw_sp _ (by decide +kernel)
theorem xWs_in : ∀ w ∈ xWs, 100 ≤ w.2 ∧ w.2 ≤ 116 ∧ w.2 ≠ 131 ∧ 0 < (jtx w.1).length ∧ (jtx w.1).length < 10 := by
  have h : xWs.all (fun w => decide (100 ≤ w.2 ∧ w.2 ≤ 116 ∧ w.2 ≠ 131 ∧ 0 < (jtx w.1).length ∧ (jtx w.1).length < 10)) = true := by decide +kernel
  exact fun w hw => of_decide_eq_true (List.all_eq_true.mp h w hw)
theorem xKd_rg (s : List Int) : ∀ ws : List (Nat × Int), (∀ w ∈ ws, 100 ≤ w.2 ∧ w.2 ≤ 116) → (100 ≤ xKd s ws ∧ xKd s ws ≤ 116) ∨ xKd s ws = 131 := by
  intro ws
  induction ws with
  | nil => intro _; exact Or.inr rfl
  | cons w ws ih =>
    intro h
    unfold xKd
    split
    · exact Or.inl (h w List.mem_cons_self)
    · exact ih (fun v hv => h v (List.mem_cons_of_mem _ hv))
theorem xD_iff {c : Int} : xD c = true ↔ 48 ≤ c ∧ c ≤ 57 := decide_eq_true_iff
theorem xL_iff {c : Int} : xL c = true ↔ 97 ≤ c ∧ c ≤ 122 := decide_eq_true_iff
theorem xSg_rg (c : Int) : (120 ≤ xSg c ∧ xSg c ≤ 125) ∨ xSg c = 131 := by
  unfold xSg
  repeat' split
  all_goals omega
/-- of what kind the word is, by its first sign -/
theorem xKi_L {p : Int} (h : xL (b p) = true) : xKi b n p = xKd (xSl b p (xLe b n p - p).toNat) xWs := if_pos h
theorem xKi_D {p : Int} (h : xD (b p) = true) : xKi b n p = (if xDe b n p - p = 1 then b p - 48 else if xDe b n p - p = 2 then (b p - 48) * 10 + b (p + 1) - 48 else 131) := by
  unfold xKi
  rw [if_neg, if_pos h]
  rw [xD_iff] at h
  rw [xL_iff]
  omega
theorem xKi_S {p : Int} (h : ¬ xL (b p) = true) (h2 : ¬ xD (b p) = true) : xKi b n p = xSg (b p) := by
  unfold xKi
  rw [if_neg h, if_neg h2]
theorem xDe_d {p : Int} (hn : n ≤ 400) (h0 : 0 ≤ p) (h : xDe b n p - p = 2) : xD (b (p + 1)) = true := ((xRun_sp (p := xD) (b := b) (n := n) 400 (p + 1) (by omega)).1 (p + 1) (by omega) (by unfold xDe at h; omega)).2
theorem xKi_Dr {p : Int} (hn : n ≤ 400) (h0 : 0 ≤ p) (h : xD (b p) = true) : (0 ≤ xKi b n p ∧ xKi b n p < 100) ∨ xKi b n p = 131 := by
  rw [xKi_D h]
  rw [xD_iff] at h
  split
  · omega
  · split
    · rename_i h2
      have := xD_iff.mp (xDe_d hn h0 h2)
      omega
    · omega
/-- numbers are digits, words are letters, signs are neither -/
theorem xKi_num {p : Int} (hn : n ≤ 400) (h0 : 0 ≤ p) (h : 0 ≤ xKi b n p ∧ xKi b n p < 100) : xD (b p) = true := by
  cases hd : xD (b p) with
  | true => rfl
  | false =>
    cases hl : xL (b p) with
    | true =>
      rw [xKi_L hl] at h
      have := xKd_rg (xSl b p (xLe b n p - p).toNat) xWs (fun w hw => ⟨(xWs_in w hw).1, (xWs_in w hw).2.1⟩)
      omega
    | false =>
      rw [xKi_S (by rw [hl]; decide) (by rw [hd]; decide)] at h
      have := xSg_rg (b p)
      omega
theorem xKi_let {p : Int} (hn : n ≤ 400) (h0 : 0 ≤ p) (h : 100 ≤ xKi b n p ∧ xKi b n p ≤ 116) : xL (b p) = true := by
  cases hl : xL (b p) with
  | true => rfl
  | false =>
    cases hd : xD (b p) with
    | true =>
      have := xKi_Dr hn h0 hd
      omega
    | false =>
      rw [xKi_S (by rw [hl]; decide) (by rw [hd]; decide)] at h
      have := xSg_rg (b p)
      omega
theorem xKi_sgn {p c : Int} (hn : n ≤ 400) (h0 : 0 ≤ p) (hc : 120 ≤ xSg c ∧ xSg c ≤ 125) : (xKi b n p = xSg c ↔ b p = c) ∧ (xKi b n p = xSg c → xEn b n p = p + 1) := by
  have hcc : c = 40 ∨ c = 41 ∨ c = 59 ∨ c = 43 ∨ c = 60 ∨ c = 62 := by
    unfold xSg at hc
    by_cases e1 : c = 40; exact Or.inl e1
    by_cases e2 : c = 41; exact Or.inr (Or.inl e2)
    by_cases e3 : c = 59; exact Or.inr (Or.inr (Or.inl e3))
    by_cases e4 : c = 43; exact Or.inr (Or.inr (Or.inr (Or.inl e4)))
    by_cases e5 : c = 60; exact Or.inr (Or.inr (Or.inr (Or.inr (Or.inl e5))))
    by_cases e6 : c = 62; exact Or.inr (Or.inr (Or.inr (Or.inr (Or.inr e6))))
    rw [if_neg e1, if_neg e2, if_neg e3, if_neg e4, if_neg e5, if_neg e6] at hc
    omega
  cases hl : xL (b p) with
  | true =>
    have a := xKi_L (n := n) hl
    have r := xKd_rg (xSl b p (xLe b n p - p).toNat) xWs (fun w hw => ⟨(xWs_in w hw).1, (xWs_in w hw).2.1⟩)
    have l := xL_iff.mp hl
    exact ⟨⟨fun z => by omega, fun z => by omega⟩, fun z => by omega⟩
  | false =>
    cases hd : xD (b p) with
    | true =>
      have r := xKi_Dr hn h0 hd
      have l := xD_iff.mp hd
      exact ⟨⟨fun z => by omega, fun z => by omega⟩, fun z => by omega⟩
    | false =>
      have a := xKi_S (n := n) (by rw [hl]; decide) (by rw [hd]; decide)
      refine ⟨?_, fun _ => ?_⟩
      · rw [a]
        refine ⟨fun z => ?_, fun z => by rw [z]⟩
        unfold xSg at z hc
        repeat' split at z
        all_goals omega
      · unfold xEn
        rw [hl, hd]
        rfl
end TOK
