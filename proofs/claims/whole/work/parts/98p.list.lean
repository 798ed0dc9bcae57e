/-! LEVEL 2: sets of bays as lists, and orders of them -/
/-- the bits of a number from one on, so many -/
def lsF (v : Int) : Nat → Int → List Int
  | 0, _ => []
  | d + 1, i => if jAn (jSr v i) 1 = 1 then i :: lsF v d (i + 1) else lsF v d (i + 1)
def bls (v : Int) : List Int := lsF v 8 0
theorem lsF_fold {σ : Type} {X : Int → σ → σ} {v : Int} : ∀ (d : Nat) (i : Int) (s : σ), itn (fun i s => if jAn (jSr v i) 1 = 1 then X i s else s) d i s = (lsF v d i).foldl (fun s x => X x s) s := by
  intro d
  induction d with
  | zero => intro i s; rfl
  | succ d ih =>
    intro i s
    unfold lsF
    show itn (fun i s => if jAn (jSr v i) 1 = 1 then X i s else s) d (i + 1) (if jAn (jSr v i) 1 = 1 then X i s else s) = _
    by_cases h : jAn (jSr v i) 1 = 1
    · rw [if_pos h, if_pos h, ih]
      rfl
    · rw [if_neg h, if_neg h, ih]
theorem lsF_mem {v x : Int} : ∀ (d : Nat) (i : Int), x ∈ lsF v d i → i ≤ x ∧ x < i + d ∧ jAn (jSr v x) 1 = 1 := by
  intro d
  induction d with
  | zero => intro i h; cases h
  | succ d ih =>
    intro i h
    unfold lsF at h
    by_cases g : jAn (jSr v i) 1 = 1
    · rw [if_pos g] at h
      rcases List.mem_cons.mp h with e | e
      · rw [e]; exact ⟨Int.le_refl _, by omega, g⟩
      · have := ih (i + 1) e
        omega
    · rw [if_neg g] at h
      have := ih (i + 1) h
      omega
theorem lst_b {v x : Int} (h : x ∈ bls v) : 0 ≤ x ∧ x < 8 ∧ jAn (jSr v x) 1 = 1 := by
  have := lsF_mem 8 0 h
  omega
theorem lsF_snoc {v : Int} : ∀ (d : Nat) (i : Int), lsF v (d + 1) i = lsF v d i ++ (if jAn (jSr v (i + d)) 1 = 1 then [i + (d : Int)] else []) := by
  intro d
  induction d with
  | zero =>
    intro i
    show (if jAn (jSr v i) 1 = 1 then [i] else []) = [] ++ (if jAn (jSr v (i + ((0 : Nat) : Int))) 1 = 1 then [i + ((0 : Nat) : Int)] else [])
    rw [Int.natCast_zero, Int.add_zero, List.nil_append]
  | succ d ih =>
    intro i
    have e : lsF v (d + 1 + 1) i = if jAn (jSr v i) 1 = 1 then i :: lsF v (d + 1) (i + 1) else lsF v (d + 1) (i + 1) := rfl
    have e2 : lsF v (d + 1) i = if jAn (jSr v i) 1 = 1 then i :: lsF v d (i + 1) else lsF v d (i + 1) := rfl
    rw [e, e2, ih (i + 1), show i + 1 + (d : Int) = i + ((d + 1 : Nat) : Int) by omega]
    by_cases g : jAn (jSr v i) 1 = 1
    · rw [if_pos g, if_pos g, List.cons_append]
    · rw [if_neg g, if_neg g]
theorem lsF_le {v : Int} (d : Nat) : ∀ e : Nat, (lsF v d 0).length ≤ (lsF v (d + e) 0).length := by
  intro e
  induction e with
  | zero => exact Nat.le_refl _
  | succ e ih =>
    rw [show d + (e + 1) = d + e + 1 by omega, lsF_snoc, List.length_append]
    omega
/-- they stand in their order -/
theorem lsF_lt {v : Int} : ∀ (d : Nat) (i : Int) (a b : Nat), a < b → b < (lsF v d i).length → (lsF v d i).getD a 0 < (lsF v d i).getD b 0 := by
  intro d
  induction d with
  | zero => intro i a b _ h; exact absurd h (Nat.not_lt_zero _)
  | succ d ih =>
    intro i a b hab h
    unfold lsF at h ⊢
    by_cases g : jAn (jSr v i) 1 = 1
    · rw [if_pos g] at h ⊢
      obtain ⟨b, rfl⟩ : ∃ c, b = c + 1 := ⟨b - 1, by omega⟩
      have hb : b < (lsF v d (i + 1)).length := by rw [List.length_cons] at h; omega
      cases a with
      | zero =>
        show i < (lsF v d (i + 1)).getD b 0
        have hm : (lsF v d (i + 1)).getD b 0 ∈ lsF v d (i + 1) := by
          rw [List.getD_eq_getElem?_getD, List.getElem?_eq_getElem hb]
          exact List.getElem_mem hb
        have := lsF_mem d (i + 1) hm
        omega
      | succ a =>
        show (lsF v d (i + 1)).getD a 0 < (lsF v d (i + 1)).getD b 0
        exact ih (i + 1) a b (by omega) hb
    · rw [if_neg g] at h ⊢
      exact ih (i + 1) a b hab h
theorem lsF_all : ∀ n : Nat, n < 9 → ∀ s : Nat, s < 2 ^ n → lsF (s : Int) n 0 = bls (s : Int) := by decide +kernel
theorem lst_n {n s : Nat} (hn : n < 9) (hs : s < 2 ^ n) {x : Int} (h : x ∈ bls (s : Int)) : 0 ≤ x ∧ x < (n : Int) := by
  rw [← lsF_all n hn s hs] at h
  have := lsF_mem n 0 h
  omega
/-- one bay less -/
def lsR (s b : Int) : Int := jAn s (jXo (jSl 1 b) (-1))
theorem lsR_all : ∀ s : Nat, s < 256 → ∀ b : Nat, b < 8 → (b : Int) ∈ bls (s : Int) → (0 ≤ lsR (s : Int) (b : Int) ∧ lsR (s : Int) (b : Int) < 256) ∧ bls (lsR (s : Int) (b : Int)) = (bls (s : Int)).erase (b : Int) ∧ (lsR (s : Int) (b : Int) = 0 ↔ (bls (s : Int)).erase (b : Int) = []) := by decide +kernel
theorem lsC_all : ∀ s : Nat, s < 256 → f_J6_bitCount_0f7a4 (s : Int) = some ((bls (s : Int)).length : Int) ∧ f_X10_count1 (s : Int) = some ((bls (s : Int)).length : Int) := by decide +kernel
theorem lst_bit01 : ∀ s : Nat, s < 256 → ∀ b : Nat, b < 8 → jAn (jSr (s : Int) (b : Int)) 1 = 0 ∨ jAn (jSr (s : Int) (b : Int)) 1 = 1 := by decide +kernel
theorem lst_pos : ∀ s : Nat, s < 256 → 1 ≤ s → bls (s : Int) ≠ [] := by decide +kernel
/-- the orders of a list of so many, the first ones first -/
def pm : Nat → List Int → List (List Int)
  | 0, _ => [[]]
  | k + 1, l => l.flatMap (fun x => (pm k (l.erase x)).map (fun q => x :: q))
/-- the least so far -/
def mnS (e s : Int) : Int := if e = -1 then s else if e < s then e else s
def mnF (f : List Int → Int) (L : List (List Int)) (s : Int) : Int := L.foldl (fun s q => mnS (f q) s) s
theorem mnF_nil (f : List Int → Int) (s : Int) : mnF f [] s = s := rfl
theorem mnF_cons (f : List Int → Int) (q : List Int) (L : List (List Int)) (s : Int) : mnF f (q :: L) s = mnF f L (mnS (f q) s) := rfl
theorem mnS_le (e s : Int) : mnS e s ≤ s := by
  unfold mnS
  split
  · omega
  · split <;> omega
theorem mnF_le (f : List Int → Int) : ∀ (L : List (List Int)) (s : Int), mnF f L s ≤ s := by
  intro L
  induction L with
  | nil => intro s; exact Int.le_refl _
  | cons q L ih =>
    intro s
    rw [mnF_cons]
    have a := ih (mnS (f q) s)
    have b := mnS_le (f q) s
    omega
theorem mnF_ge {f : List Int → Int} (hf : ∀ q, f q = -1 ∨ 0 ≤ f q) : ∀ (L : List (List Int)) (s : Int), 0 ≤ s → 0 ≤ mnF f L s := by
  intro L
  induction L with
  | nil => intro s h; exact h
  | cons q L ih =>
    intro s h
    rw [mnF_cons]
    refine ih _ ?_
    unfold mnS
    split
    · exact h
    · split
      · rcases hf q with z | z <;> omega
      · exact h
theorem mnF_cg {f g : List Int → Int} : ∀ (L : List (List Int)) (s : Int), (∀ q ∈ L, f q = g q) → mnF f L s = mnF g L s := by
  intro L
  induction L with
  | nil => intro s _; rfl
  | cons q L ih =>
    intro s h
    rw [mnF_cons, mnF_cons, h q List.mem_cons_self]
    exact ih _ (fun x hx => h x (List.mem_cons_of_mem _ hx))
/-- nothing of it is below -/
theorem mnF_no {f : List Int → Int} : ∀ (L : List (List Int)) (s : Int), (∀ q ∈ L, f q = -1 ∨ s ≤ f q) → mnF f L s = s := by
  intro L
  induction L with
  | nil => intro s _; rfl
  | cons q L ih =>
    intro s h
    have e : mnS (f q) s = s := by
      unfold mnS
      rcases h q List.mem_cons_self with z | z
      · rw [if_pos z]
      · by_cases z2 : f q = -1
        · rw [if_pos z2]
        · rw [if_neg z2, if_neg (by omega)]
    rw [mnF_cons, e]
    exact ih s (fun x hx => h x (List.mem_cons_of_mem _ hx))
theorem mnF_map {f : List Int → Int} {x : Int} (L : List (List Int)) (s : Int) : mnF f (L.map (fun q => x :: q)) s = mnF (fun q => f (x :: q)) L s := by
  unfold mnF
  rw [List.foldl_map]
theorem mnF_fm {f : List Int → Int} {k : Nat} {l : List Int} (r : List Int) (s : Int) : mnF f (r.flatMap (fun x => (pm k (l.erase x)).map (fun q => x :: q))) s = r.foldl (fun s x => mnF (fun q => f (x :: q)) (pm k (l.erase x)) s) s := by
  unfold mnF
  rw [List.foldl_flatMap]
  congr 1
  funext s x
  rw [List.foldl_map]
/-! the walk from bay to bay -/
def gW (b : Int) : List Int → Int
  | [] => 0
  | c :: _ => if c ≤ b then b - c else c - b
def gGo (M : Int → Int) (t g : Int) : List Int → Int → Int
  | [], fr => fr
  | b :: r, fr => if sGo M t g b fr = -1 then -1 else gGo M t g r (sGo M t g b fr + gW b r)
theorem gGo_c {M : Int → Int} {t g b fr : Int} {r : List Int} : gGo M t g (b :: r) fr = if sGo M t g b fr = -1 then -1 else gGo M t g r (sGo M t g b fr + gW b r) := rfl
theorem gW_b {b : Int} (hb : 0 ≤ b ∧ b < 8) : ∀ r : List Int, (∀ x ∈ r, 0 ≤ x ∧ x < 8) → 0 ≤ gW b r ∧ gW b r ≤ 7 := by
  intro r h
  cases r with
  | nil => exact ⟨Int.le_refl _, by show (0 : Int) ≤ 7; decide⟩
  | cons c r =>
    have := h c List.mem_cons_self
    show 0 ≤ (if c ≤ b then b - c else c - b) ∧ (if c ≤ b then b - c else c - b) ≤ 7
    split <;> omega
theorem gW_0 (b : Int) (r : List Int) : 0 ≤ gW b r := by
  cases r with
  | nil => exact Int.le_refl _
  | cons c r =>
    show 0 ≤ (if c ≤ b then b - c else c - b)
    split <;> omega
theorem gGo_ge {M : Int → Int} {t g : Int} : ∀ (l : List Int) (fr : Int), gGo M t g l fr = -1 ∨ fr ≤ gGo M t g l fr := by
  intro l
  induction l with
  | nil => intro fr; exact Or.inr (Int.le_refl _)
  | cons b r ih =>
    intro fr
    rw [gGo_c]
    by_cases h : sGo M t g b fr = -1
    · rw [if_pos h]; exact Or.inl rfl
    · rw [if_neg h]
      have S := sGo_b h
      have W := gW_0 b r
      rcases ih (sGo M t g b fr + gW b r) with z | z
      · exact Or.inl z
      · exact Or.inr (by omega)
theorem gGo_le {M : Int → Int} {t g : Int} : ∀ (l : List Int) (fr : Int), l ≠ [] → gGo M t g l fr ≤ 2400 := by
  intro l
  induction l with
  | nil => intro fr h; exact (h rfl).elim
  | cons b r ih =>
    intro fr _
    rw [gGo_c]
    by_cases h : sGo M t g b fr = -1
    · rw [if_pos h]; decide
    · rw [if_neg h]
      have S := sGo_b h
      cases r with
      | nil =>
        show sGo M t g b fr + 0 ≤ 2400
        omega
      | cons c r => exact ih _ (by intro z; cases z)
/-- the work at the first bay ends no later than the walk -/
theorem gGo_1 {M : Int → Int} {t g b fr : Int} {r : List Int} : gGo M t g (b :: r) fr = -1 ∨ sGo M t g b fr ≤ gGo M t g (b :: r) fr := by
  rw [gGo_c]
  by_cases h : sGo M t g b fr = -1
  · rw [if_pos h]; exact Or.inl rfl
  · rw [if_neg h]
    have W := gW_0 b r
    rcases gGo_ge (M := M) (t := t) (g := g) r (sGo M t g b fr + gW b r) with z | z
    · exact Or.inl z
    · exact Or.inr (by omega)
