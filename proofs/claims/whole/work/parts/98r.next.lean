/-! LEVEL 2: the reference goes from order to order -/
def rng (n : Nat) : List Int := (List.range n).map (fun i : Nat => (i : Int))
/-- a memory that holds an order -/
def oM (p : List Int) : jMu := fun c j => if c = 82 then p.getD j.toNat 0 else 0
/-- whether the step from an order gives that one, or none -/
def nxB (n : Nat) (p : List Int) (o : Option (List Int)) : Bool := match f_X10_nextOrder (n : Int) (oM p), o with
  | some r, some p' => decide (r.1 = 1) && (List.range n).all (fun j => decide (r.2 82 (j : Int) = p'.getD j 0))
  | some r, none => decide (r.1 = 0)
  | none, _ => false
def chn (n : Nat) : List (List Int) → Bool
  | [] => true
  | p :: r => match r with | [] => nxB n p none | p' :: _ => nxB n p (some p') && chn n r
theorem chn_all : ∀ n : Nat, n < 7 → chn n (pm n (rng n)) = true := by decide +kernel
/-- numbers put for numbers, in the same order -/
def nR (v : Int → Int) (n : Int) (m m2 : jMu) : Prop := ∀ j, 0 ≤ j → j < n → m 82 j = v (m2 82 j)
theorem nR_up {v : Int → Int} {n a x y : Int} {m m2 : jMu} (h : nR v n m m2) (hx : x = v y) : nR v n (jup m 82 a x) (jup m2 82 a y) := by
  intro j h0 h1
  by_cases e : j = a
  · rw [e, jup_s, jup_s, hx]
  · rw [jup_j e, jup_j e]
    exact h j h0 h1
section MORDER
variable {v : Int → Int} {n : Int}
theorem nx_100 (hn : n ≤ 6) {r : Int} {m2' : jMu} : ∀ (q : Nat) (a b : Int) (m m2 : jMu), nR v n m m2 → 0 ≤ a → b < n → f_X10_nextOrder_L100 q a b m2 = some (r, m2') → ∃ m', f_X10_nextOrder_L100 q a b m = some (r, m') ∧ nR v n m' m2' ∧ ∀ c, c ≠ 82 → m' c = m c := by
  intro q
  induction q with
  | zero => intro a b m m2 _ _ _ h; cases h
  | succ q ih =>
    intro a b m m2 H h0 h1 h
    rw [f_X10_nextOrder_L100] at h ⊢
    by_cases g : b ≤ a
    · rw [if_pos g] at h ⊢
      cases h
      exact ⟨m, rfl, H, fun _ _ => rfl⟩
    · have ga : (0 ≤ a ∧ a < 6) = True := eq_true (by omega)
      have gb : (0 ≤ b ∧ b < 6) = True := eq_true (by omega)
      rw [if_neg g] at h ⊢
      simp only [ga, gb, if_true, jlt_eq] at h ⊢
      obtain ⟨m', e1, e2, e3⟩ := ih _ _ (jup (jup m 82 a (m 82 b)) 82 b (m 82 a)) _ (nR_up (nR_up H (H b (by omega) h1)) (H a h0 (by omega))) (by rw [jW_of (by omega) (by omega)]; omega) (by rw [jW_of (by omega) (by omega)]; omega) h
      exact ⟨m', e1, e2, fun c hc => by rw [e3 c hc, jup_c hc, jup_c hc]⟩
theorem nx_41 (hv : ∀ x y, v x ≤ v y ↔ x ≤ y) (hn : n ≤ 6) {r : Int} {m2' : jMu} {i : Int} (hi : 0 ≤ i ∧ i < n) : ∀ (q : Nat) (j : Int) (m m2 : jMu), nR v n m m2 → j < n → f_X10_nextOrder_L41 q n i j m2 = some (r, m2') → ∃ m', f_X10_nextOrder_L41 q n i j m = some (r, m') ∧ nR v n m' m2' ∧ ∀ c, c ≠ 82 → m' c = m c := by
  intro q
  induction q with
  | zero => intro j m m2 _ _ h; cases h
  | succ q ih =>
    intro j m m2 H h1 h
    rw [f_X10_nextOrder_L41] at h ⊢
    by_cases g : 0 ≤ j ∧ j < 6
    · have gi : (0 ≤ i ∧ i < 6) = True := eq_true (by omega)
      have gj : (0 ≤ j ∧ j < 6) = True := eq_true g
      have e : (m 82 i ≤ m 82 j) = (m2 82 i ≤ m2 82 j) := by
        rw [H i hi.1 hi.2, H j g.1 h1]
        exact propext (hv _ _)
      simp only [gi, gj, if_true, jlt_eq, e] at h ⊢
      by_cases g2 : m2 82 i ≤ m2 82 j
      · rw [if_pos g2] at h ⊢
        obtain ⟨m', e1, e2, e3⟩ := nx_100 (v := v) (n := n) hn jFU _ _ (jup (jup m 82 i (m 82 j)) 82 j (m 82 i)) _ (nR_up (nR_up H (H j g.1 h1)) (H i hi.1 hi.2)) (by rw [jW_of (by omega) (by omega)]; omega) (by rw [jW_of (by omega) (by omega)]; omega) h
        exact ⟨m', e1, e2, fun c hc => by rw [e3 c hc, jup_c hc, jup_c hc]⟩
      · rw [if_neg g2] at h ⊢
        exact ih _ m m2 H (by rw [jW_of (by omega) (by omega)]; omega) h
    · rw [if_neg g] at h
      cases h
theorem nx_4 (hv : ∀ x y, v x ≤ v y ↔ x ≤ y) (hn : 0 ≤ n ∧ n ≤ 6) {r : Int} {m2' : jMu} : ∀ (q : Nat) (i : Int) (m m2 : jMu), nR v n m m2 → i + 1 < n ∨ i < 0 → -10 ≤ i → f_X10_nextOrder_L4 q n i m2 = some (r, m2') → ∃ m', f_X10_nextOrder_L4 q n i m = some (r, m') ∧ nR v n m' m2' ∧ ∀ c, c ≠ 82 → m' c = m c := by
  intro q
  induction q with
  | zero => intro i m m2 _ _ _ h; cases h
  | succ q ih =>
    intro i m m2 H h1 h2 h
    rw [f_X10_nextOrder_L4] at h ⊢
    by_cases g : i < 0
    · rw [if_pos g, if_neg (by omega)] at h ⊢
      cases h
      exact ⟨m, rfl, H, fun _ _ => rfl⟩
    · have ei : jW (i + 1) = i + 1 := jW_of (by omega) (by omega)
      have gi : (i < 6) = True := eq_true (by omega)
      have gj : (0 ≤ i + 1) = True := eq_true (by omega)
      have gk : (i + 1 < 6) = True := eq_true (by omega)
      have gp : (0 ≤ i) = True := eq_true (by omega)
      have e : (m 82 i ≤ m 82 (i + 1)) = (m2 82 i ≤ m2 82 (i + 1)) := by
        rw [H i (by omega) (by omega), H (i + 1) (by omega) (by omega)]
        exact propext (hv _ _)
      rw [if_neg g] at h ⊢
      simp only [ei, gi, gj, gk, gp, and_self, if_true, e] at h ⊢
      by_cases g2 : m2 82 i ≤ m2 82 (i + 1)
      · rw [if_pos g2] at h ⊢
        exact nx_41 hv hn.2 ⟨by omega, by omega⟩ jFU _ m m2 H (by rw [jW_of (by omega) (by omega)]; omega) h
      · rw [if_neg g2] at h ⊢
        exact ih _ m m2 H (by rw [jW_of (by omega) (by omega)]; omega) (by rw [jW_of (by omega) (by omega)]; omega) h
theorem nx_all (hv : ∀ x y, v x ≤ v y ↔ x ≤ y) (hn : 0 ≤ n ∧ n ≤ 6) {r : Int} {m m2 m2' : jMu} (H : nR v n m m2) (h : f_X10_nextOrder n m2 = some (r, m2')) : ∃ m', f_X10_nextOrder n m = some (r, m') ∧ nR v n m' m2' ∧ ∀ c, c ≠ 82 → m' c = m c := by
  unfold f_X10_nextOrder at h ⊢
  exact nx_4 hv hn jFU _ m m2 H (by rw [jW_of (by omega) (by omega)]; omega) (by rw [jW_of (by omega) (by omega)]; omega) h
/-- a memory holds the numbers put for an order's -/
def nH (v : Int → Int) (n : Nat) (m : jMu) (p : List Int) : Prop := ∀ j : Nat, j < n → m 82 (j : Int) = v (p.getD j 0)
theorem nH_R {n : Nat} {m : jMu} {p : List Int} (h : nH v n m p) : nR v (n : Int) m (oM p) := by
  intro j h0 h1
  have := h j.toNat (by omega)
  rw [show ((j.toNat : Nat) : Int) = j by omega] at this
  exact this
theorem nx_some (hv : ∀ x y, v x ≤ v y ↔ x ≤ y) {n : Nat} (hn : n ≤ 6) {m : jMu} {p p' : List Int} (h : nH v n m p) (hb : nxB n p (some p') = true) : ∃ m', f_X10_nextOrder (n : Int) m = some (1, m') ∧ nH v n m' p' ∧ ∀ c, c ≠ 82 → m' c = m c := by
  unfold nxB at hb
  cases hx : f_X10_nextOrder (n : Int) (oM p) with
  | none => rw [hx] at hb; cases hb
  | some r =>
    rw [hx] at hb
    have hb' : (decide (r.1 = 1) && (List.range n).all (fun j => decide (r.2 82 (j : Int) = p'.getD j 0))) = true := hb
    rw [Bool.and_eq_true, decide_eq_true_iff, List.all_eq_true] at hb'
    obtain ⟨m', e1, e2, e3⟩ := nx_all (r := r.1) (m2' := r.2) hv (by omega) (nH_R h) hx
    rw [hb'.1] at e1
    refine ⟨m', e1, fun j hj => ?_, e3⟩
    have := hb'.2 j (List.mem_range.mpr hj)
    rw [decide_eq_true_iff] at this
    rw [e2 (j : Int) (by omega) (by omega), this]
theorem nx_none (hv : ∀ x y, v x ≤ v y ↔ x ≤ y) {n : Nat} (hn : n ≤ 6) {m : jMu} {p : List Int} (h : nH v n m p) (hb : nxB n p none = true) : ∃ m', f_X10_nextOrder (n : Int) m = some (0, m') ∧ ∀ c, c ≠ 82 → m' c = m c := by
  unfold nxB at hb
  cases hx : f_X10_nextOrder (n : Int) (oM p) with
  | none => rw [hx] at hb; cases hb
  | some r =>
    rw [hx] at hb
    have hb' : decide (r.1 = 0) = true := hb
    rw [decide_eq_true_iff] at hb'
    obtain ⟨m', e1, e2, e3⟩ := nx_all (r := r.1) (m2' := r.2) hv (by omega) (nH_R h) hx
    rw [hb'] at e1
    exact ⟨m', e1, e3⟩
end MORDER
/-! orders of ranks, and of bays -/
theorem er_map {v : Int → Int} (hv : ∀ x y, v x = v y → x = y) (a : Int) : ∀ l : List Int, (l.map v).erase (v a) = (l.erase a).map v := by
  intro l
  induction l with
  | nil => rfl
  | cons b l ih =>
    rw [List.map_cons, List.erase_cons, List.erase_cons]
    by_cases h : b = a
    · rw [if_pos (by rw [h]; exact beq_self_eq_true _), if_pos (by rw [h]; exact beq_self_eq_true _)]
    · rw [if_neg (fun z => h (hv _ _ (eq_of_beq z))), if_neg (fun z => h (eq_of_beq z)), List.map_cons, ih]
theorem pm_map {v : Int → Int} (hv : ∀ x y, v x = v y → x = y) : ∀ (k : Nat) (l : List Int), pm k (l.map v) = (pm k l).map (fun p => p.map v) := by
  intro k
  induction k with
  | zero => intro l; rfl
  | succ k ih =>
    intro l
    show (l.map v).flatMap (fun x => (pm k ((l.map v).erase x)).map (fun q => x :: q)) = (l.flatMap (fun x => (pm k (l.erase x)).map (fun q => x :: q))).map (fun p => p.map v)
    rw [List.map_flatMap, List.flatMap_map]
    congr 1
    funext x
    rw [er_map hv, ih, List.map_map, List.map_map]
    rfl
theorem pm_len : ∀ (k : Nat) (l : List Int) (p : List Int), p ∈ pm k l → p.length = k ∧ ∀ x ∈ p, x ∈ l := by
  intro k
  induction k with
  | zero =>
    intro l p h
    have : p = [] := List.mem_singleton.mp h
    rw [this]
    exact ⟨rfl, fun x hx => by cases hx⟩
  | succ k ih =>
    intro l p h
    obtain ⟨x, hx, h2⟩ := List.mem_flatMap.mp h
    obtain ⟨q, hq, rfl⟩ := List.mem_map.mp h2
    obtain ⟨i1, i2⟩ := ih _ q hq
    refine ⟨by rw [List.length_cons, i1], fun y hy => ?_⟩
    rcases List.mem_cons.mp hy with e | e
    · rw [e]; exact hx
    · exact List.mem_of_mem_erase (i2 y e)
/-- ranks put for bays -/
def rnk (l : List Int) (x : Int) : Int := if x < 0 then x - 100 else if x < (l.length : Int) then l.getD x.toNat 0 else x + 100
theorem rnk_lt {l : List Int} (h1 : ∀ x ∈ l, 0 ≤ x ∧ x < 8) (h2 : ∀ a b : Nat, a < b → b < l.length → l.getD a 0 < l.getD b 0) {x y : Int} (h : x < y) : rnk l x < rnk l y := by
  have hb : ∀ z : Int, 0 ≤ z → z < (l.length : Int) → 0 ≤ l.getD z.toNat 0 ∧ l.getD z.toNat 0 < 8 := by
    intro z z0 z1
    refine h1 _ ?_
    have hz : z.toNat < l.length := by omega
    rw [List.getD_eq_getElem?_getD, List.getElem?_eq_getElem hz]
    exact List.getElem_mem hz
  unfold rnk
  by_cases x0 : x < 0
  · rw [if_pos x0]
    by_cases y0 : y < 0
    · rw [if_pos y0]; omega
    · rw [if_neg y0]
      by_cases y1 : y < (l.length : Int)
      · rw [if_pos y1]
        have := hb y (by omega) y1
        omega
      · rw [if_neg y1]; omega
  · rw [if_neg x0, if_neg (show ¬ y < 0 by omega)]
    by_cases y1 : y < (l.length : Int)
    · rw [if_pos y1, if_pos (show x < (l.length : Int) by omega)]
      exact h2 x.toNat y.toNat (by omega) (by omega)
    · rw [if_neg y1]
      by_cases x1 : x < (l.length : Int)
      · rw [if_pos x1]
        have := hb x (by omega) x1
        omega
      · rw [if_neg x1]; omega
theorem rnk_le {l : List Int} (h1 : ∀ x ∈ l, 0 ≤ x ∧ x < 8) (h2 : ∀ a b : Nat, a < b → b < l.length → l.getD a 0 < l.getD b 0) (x y : Int) : rnk l x ≤ rnk l y ↔ x ≤ y := by
  constructor
  · intro h
    rcases Int.lt_or_le y x with z | z
    · have := rnk_lt h1 h2 z
      omega
    · exact z
  · intro h
    rcases Int.lt_or_eq_of_le h with z | z
    · exact Int.le_of_lt (rnk_lt h1 h2 z)
    · rw [z]; exact Int.le_refl _
theorem rnk_inj {l : List Int} (h1 : ∀ x ∈ l, 0 ≤ x ∧ x < 8) (h2 : ∀ a b : Nat, a < b → b < l.length → l.getD a 0 < l.getD b 0) (x y : Int) (h : rnk l x = rnk l y) : x = y := by
  have a := (rnk_le h1 h2 x y).mp (by omega)
  have b := (rnk_le h1 h2 y x).mp (by omega)
  omega
theorem rnk_rng (l : List Int) : (rng l.length).map (rnk l) = l := by
  refine List.ext_getElem? (fun i => ?_)
  unfold rng
  rw [List.getElem?_map, List.getElem?_map]
  by_cases h : i < l.length
  · rw [List.getElem?_range h]
    show some (rnk l (i : Int)) = l[i]?
    rw [List.getElem?_eq_getElem h]
    unfold rnk
    rw [if_neg (by omega), if_pos (by omega), Int.toNat_natCast, List.getD_eq_getElem?_getD, List.getElem?_eq_getElem h]
    rfl
  · rw [List.getElem?_eq_none (by rw [List.length_range]; omega), List.getElem?_eq_none (by omega)]
    rfl
