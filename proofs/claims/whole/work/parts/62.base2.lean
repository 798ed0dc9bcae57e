/-! LEVEL 2: facts of the plain functions. Numbers without wrap, memory, tables -/
theorem jW_of {z : Int} (h1 : -2147483648 ≤ z) (h2 : z < 2147483648) : jW z = z := jW_id ⟨h1, h2⟩
theorem jlt_eq {α β : Type} (a : α) (f : α → Option β) : jlt a f = f a := rfl
theorem jthr_r {β γ : Type} (v : β × jMu) (f : β × jMu → Option (jOut γ)) : jthr (some (.inr v)) f = f v := rfl
theorem jthr_l {β γ : Type} (e : String × jMu) (f : β × jMu → Option (jOut γ)) : jthr (some (.inl e)) f = some (.inl e) := rfl
theorem jcat2_r {β γ : Type} (v : β × jMu) (f : β × jMu → Option γ) (g : String → jMu → Option γ) : jcat2 (some (.inr v)) f g = f v := rfl
theorem jcat2_l {β γ : Type} (e : String) (m : jMu) (f : β × jMu → Option γ) (g : String → jMu → Option γ) : jcat2 (some (.inl (e, m))) f g = g e m := rfl
theorem jup_s {m : jMu} {c : Nat} {j v : Int} : jup m c j v c j = v := if_pos ⟨rfl, rfl⟩
theorem jup_c {m : jMu} {c c' : Nat} {j v : Int} (h : c' ≠ c) : jup m c j v c' = m c' := funext fun y => if_neg fun z => h z.1
theorem jup_j {m : jMu} {c : Nat} {j y v : Int} (h : y ≠ j) : jup m c j v c y = m c y := if_neg fun z => h z.2
theorem jup_e (m : jMu) (c c' : Nat) (j y v : Int) : jup m c j v c' y = if c' = c ∧ y = j then v else m c' y := rfl
theorem jzr_s {m : jMu} {c : Nat} {y : Int} : jzr m c c y = 0 := if_pos rfl
theorem jzr_c {m : jMu} {c c' : Nat} (h : c' ≠ c) : jzr m c c' = m c' := funext fun y => if_neg h
/-- two places of a table are the same only where row and column are -/
theorem jidx {r c r' c' k : Int} (h1 : 0 ≤ c) (h2 : c < k) (h3 : 0 ≤ c') (h4 : c' < k) (h : r * k + c = r' * k + c') : r = r' ∧ c = c' := by
  have e1 : (r * k + c) / k = r := by rw [Int.add_comm, Int.add_mul_ediv_right _ _ (by omega), Int.ediv_eq_zero_of_lt h1 h2]; omega
  have e2 : (r' * k + c') / k = r' := by rw [Int.add_comm, Int.add_mul_ediv_right _ _ (by omega), Int.ediv_eq_zero_of_lt h3 h4]; omega
  have e3 : r = r' := by rw [← e1, ← e2, h]
  subst e3
  exact ⟨rfl, by omega⟩
theorem jrow {r c k n : Int} (h0 : 0 ≤ r) (h1 : r < n) (h2 : 0 ≤ c) (h3 : c < k) : 0 ≤ r * k + c ∧ r * k + c < n * k ∧ 0 ≤ r * k ∧ r * k < n * k := by
  have a : 0 ≤ r * k := Int.mul_nonneg h0 (by omega)
  have b : (r + 1) * k ≤ n * k := Int.mul_le_mul_of_nonneg_right (by omega) (by omega)
  rw [Int.add_mul] at b
  omega
/-- a table of the class: its limit, columns, rows, and what stands in them -/
def TabR (m : jMu) (t a : Nat) (cols lim n : Int) (f : Int → Int → Int) : Prop := m t 0 = lim ∧ m t 1 = cols ∧ m t 3 = n ∧ 0 ≤ n ∧ n ≤ lim ∧ ∀ r c, 0 ≤ r → r < n → 0 ≤ c → c < cols → m a (r * cols + c) = f r c
/-- the sizes of a table are small -/
def TabS (t a w : Nat) (cols lim : Int) : Prop := t ≠ a ∧ 0 < cols ∧ 0 < lim ∧ (w : Int) = lim * cols ∧ lim * cols ≤ 2000 ∧ cols ≤ 2000 ∧ lim ≤ 2000
section TABLES
variable {m m' : jMu} {t a w : Nat} {cols lim n r c v : Int} {f : Int → Int → Int}
theorem TabR.frame (h : TabR m t a cols lim n f) (h1 : m' t = m t) (h2 : m' a = m a) : TabR m' t a cols lim n f := by
  unfold TabR
  rw [h1, h2]
  exact h
theorem TabR.congr {g : Int → Int → Int} (h : TabR m t a cols lim n f) (e : ∀ r c, 0 ≤ r → r < n → 0 ≤ c → c < cols → f r c = g r c) : TabR m t a cols lim n g :=
  ⟨h.1, h.2.1, h.2.2.1, h.2.2.2.1, h.2.2.2.2.1, fun r c h1 h2 h3 h4 => (h.2.2.2.2.2 r c h1 h2 h3 h4).trans (e r c h1 h2 h3 h4)⟩
theorem tb_size (h : TabR m t a cols lim n f) : f_X5_size t a w m = some n := by
  unfold f_X5_size
  rw [h.2.2.1]
theorem tb_get (S : TabS t a w cols lim) (h : TabR m t a cols lim n f) (h0 : 0 ≤ r) (h1 : r < n) (h2 : 0 ≤ c) (h3 : c < cols) : f_X5_get t a w r c m = some (f r c) := by
  obtain ⟨g1, g2, g3, g4, g5, g6⟩ := h
  obtain ⟨s0, s1, s2, s3, s4, s5, s6⟩ := S
  have e := jrow h0 (Int.lt_of_lt_of_le h1 g5) h2 h3
  unfold f_X5_get
  rw [g2, g3]
  simp (disch := omega) only [jW_of, if_pos, if_neg]
  rw [g6 r c h0 h1 h2 h3]
theorem tb_get0 (S : TabS t a w cols lim) (h : TabR m t a cols lim n f) (h0 : r < 0 ∨ n ≤ r) (h2 : 0 ≤ c) (h3 : c < cols) : f_X5_get t a w r c m = some 0 := by
  obtain ⟨g1, g2, g3, g4, g5, g6⟩ := h
  unfold f_X5_get
  rw [g2, g3]
  by_cases hr : r < 0
  · simp only [if_pos hr]
  · simp only [if_neg hr]
    rw [if_pos (by omega)]
theorem tb_set (S : TabS t a w cols lim) (h : TabR m t a cols lim n f) (h0 : 0 ≤ r) (h1 : r < n) (h2 : 0 ≤ c) (h3 : c < cols) : f_X5_set t a w r c v m = some (jup m a (r * cols + c) v) := by
  obtain ⟨g1, g2, g3, g4, g5, g6⟩ := h
  obtain ⟨s0, s1, s2, s3, s4, s5, s6⟩ := S
  have e := jrow h0 (Int.lt_of_lt_of_le h1 g5) h2 h3
  unfold f_X5_set
  rw [g2, g3]
  simp (disch := omega) only [jW_of, if_pos, if_neg, jlt_eq]
theorem TabR.set (S : TabS t a w cols lim) (h : TabR m t a cols lim n f) (h2 : 0 ≤ c) (h3 : c < cols) : TabR (jup m a (r * cols + c) v) t a cols lim n (fun r' c' => if r' = r ∧ c' = c then v else f r' c') := by
  obtain ⟨g1, g2, g3, g4, g5, g6⟩ := h
  have e : jup m a (r * cols + c) v t = m t := jup_c S.1
  refine ⟨by rw [e]; exact g1, by rw [e]; exact g2, by rw [e]; exact g3, g4, g5, fun r' c' h4 h5 h6 h7 => ?_⟩
  show _ = if r' = r ∧ c' = c then v else f r' c'
  by_cases hc : r' = r ∧ c' = c
  · rw [if_pos hc, hc.1, hc.2, jup_s]
  · rw [if_neg hc, jup_j, g6 r' c' h4 h5 h6 h7]
    intro z
    exact hc (jidx h6 h7 h2 h3 z)
end TABLES
