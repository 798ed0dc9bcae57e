/-! LEVEL 2: gangs put to bays, as lists of digits -/
def dgl (K r : Nat) (c : Int) : List Int := (List.range r).map (fun i => c / (K : Int) ^ (r - 1 - i) % (K : Int))
theorem dgl_len (K r : Nat) (c : Int) : (dgl K r c).length = r := by
  unfold dgl
  rw [List.length_map, List.length_range]
theorem dgl_q {K r : Nat} {c : Int} {i : Nat} : (dgl K r c)[i]? = if i < r then some (c / (K : Int) ^ (r - 1 - i) % (K : Int)) else none := by
  unfold dgl
  rw [List.getElem?_map]
  by_cases h : i < r
  · rw [List.getElem?_range h, if_pos h]
    rfl
  · rw [if_neg h, List.getElem?_eq_none (by rw [List.length_range]; omega)]
    rfl
theorem dgl_get {K r : Nat} {c : Int} {i : Nat} (h : i < r) : (dgl K r c).getD i 0 = c / (K : Int) ^ (r - 1 - i) % (K : Int) := by
  rw [List.getD_eq_getElem?_getD, dgl_q, if_pos h]
  rfl
theorem dgl_snoc {K r : Nat} {c : Int} : dgl K (r + 1) c = dgl K r (c / (K : Int)) ++ [c % (K : Int)] := by
  refine List.ext_getElem? (fun i => ?_)
  rw [dgl_q]
  by_cases h : i < r
  · rw [if_pos (show i < r + 1 by omega), List.getElem?_append_left (by rw [dgl_len]; exact h), dgl_q, if_pos h, Int.ediv_ediv_of_nonneg (by omega), show r + 1 - 1 - i = (r - 1 - i) + 1 by omega, Int.pow_succ, Int.mul_comm]
  · rw [List.getElem?_append_right (by rw [dgl_len]; omega), dgl_len]
    by_cases e : i = r
    · subst e
      rw [if_pos (show i < i + 1 by omega), Nat.sub_self, show i + 1 - 1 - i = 0 by omega, Int.pow_zero, Int.ediv_one]
      rfl
    · rw [if_neg (show ¬ i < r + 1 by omega), List.getElem?_eq_none (by show 1 ≤ i - r; omega)]
/-- all ends together, or none -/
def pf (E : Int → Int → Int) : List (Int × Int) → Int → Int → Int
  | [], _, s => s
  | p :: l, u, s => if E p.1 p.2 = -1 ∨ jAn (jSr u p.2) 1 = 1 then -1 else pf E l (jOr u (jSl 1 p.2)) (s + E p.1 p.2)
theorem pf_c {E : Int → Int → Int} {p : Int × Int} {l : List (Int × Int)} {u s : Int} : pf E (p :: l) u s = if E p.1 p.2 = -1 ∨ jAn (jSr u p.2) 1 = 1 then -1 else pf E l (jOr u (jSl 1 p.2)) (s + E p.1 p.2) := rfl
theorem us_all : ∀ u : Nat, u < 16 → ∀ g : Nat, g < 4 → (0 ≤ jOr (u : Int) (jSl 1 (g : Int)) ∧ jOr (u : Int) (jSl 1 (g : Int)) < 16) ∧ ∀ h : Nat, h < 4 → (jAn (jSr (jOr (u : Int) (jSl 1 (g : Int))) (h : Int)) 1 = 1 ↔ (h = g ∨ jAn (jSr (u : Int) (h : Int)) 1 = 1)) := by decide +kernel
theorem us_0 : ∀ h : Nat, h < 4 → ¬ jAn (jSr 0 (h : Int)) 1 = 1 := by decide +kernel
theorem us_i {u g h : Int} (hu : 0 ≤ u ∧ u < 16) (hg : 0 ≤ g ∧ g < 4) : (0 ≤ jOr u (jSl 1 g) ∧ jOr u (jSl 1 g) < 16) ∧ (0 ≤ h → h < 4 → (jAn (jSr (jOr u (jSl 1 g)) h) 1 = 1 ↔ (h = g ∨ jAn (jSr u h) 1 = 1))) := by
  obtain ⟨un, rfl⟩ : ∃ n : Nat, u = (n : Int) := ⟨u.toNat, by omega⟩
  obtain ⟨gn, rfl⟩ : ∃ n : Nat, g = (n : Int) := ⟨g.toNat, by omega⟩
  have A := us_all un (by omega) gn (by omega)
  refine ⟨A.1, fun h0 h1 => ?_⟩
  obtain ⟨hn, rfl⟩ : ∃ n : Nat, h = (n : Int) := ⟨h.toNat, by omega⟩
  rw [A.2 hn (by omega)]
  constructor
  · rintro (z | z)
    · exact Or.inl (by omega)
    · exact Or.inr z
  · rintro (z | z)
    · exact Or.inl (by omega)
    · exact Or.inr z
/-- what it is, whatever the order -/
def pOk (E : Int → Int → Int) (l : List (Int × Int)) (u : Int) : Prop := (∀ p ∈ l, E p.1 p.2 ≠ -1) ∧ (l.map (fun p => p.2)).Nodup ∧ ∀ p ∈ l, ¬ jAn (jSr u p.2) 1 = 1
def pSm (E : Int → Int → Int) (l : List (Int × Int)) : Int := (l.map (fun p => E p.1 p.2)).sum
theorem pf_v {E : Int → Int → Int} : ∀ (l : List (Int × Int)) (u s : Int), (∀ p ∈ l, 0 ≤ p.2 ∧ p.2 < 4) → (0 ≤ u ∧ u < 16) → (pOk E l u → pf E l u s = s + pSm E l) ∧ (¬ pOk E l u → pf E l u s = -1) := by
  intro l
  induction l with
  | nil =>
    intro u s _ _
    refine ⟨fun _ => ?_, fun h => ?_⟩
    · show s = s + 0
      omega
    · exact (h ⟨fun p hp => (by cases hp), List.nodup_nil, fun p hp => (by cases hp)⟩).elim
  | cons p l ih =>
    intro u s hp hu
    have hp0 := hp p List.mem_cons_self
    have U := us_i hu hp0 (h := 0)
    have I := ih (jOr u (jSl 1 p.2)) (s + E p.1 p.2) (fun q hq => hp q (List.mem_cons_of_mem _ hq)) U.1
    have K : pOk E (p :: l) u ↔ (E p.1 p.2 ≠ -1 ∧ ¬ jAn (jSr u p.2) 1 = 1) ∧ pOk E l (jOr u (jSl 1 p.2)) := by
      constructor
      · rintro ⟨a, b, c⟩
        rw [List.map_cons, List.nodup_cons] at b
        refine ⟨⟨a p List.mem_cons_self, c p List.mem_cons_self⟩, fun q hq => a q (List.mem_cons_of_mem _ hq), b.2, fun q hq z => ?_⟩
        have hq4 := hp q (List.mem_cons_of_mem _ hq)
        rcases ((us_i hu hp0 (h := q.2)).2 hq4.1 hq4.2).mp z with y | y
        · exact b.1 (y ▸ List.mem_map_of_mem (f := fun p : Int × Int => p.2) hq)
        · exact c q (List.mem_cons_of_mem _ hq) y
      · rintro ⟨⟨a1, a2⟩, b1, b2, b3⟩
        refine ⟨fun q hq => ?_, ?_, fun q hq => ?_⟩
        · rcases List.mem_cons.mp hq with y | y
          · rw [y]; exact a1
          · exact b1 q y
        · rw [List.map_cons, List.nodup_cons]
          refine ⟨fun z => ?_, b2⟩
          obtain ⟨q, hq, e⟩ := List.mem_map.mp z
          have hq4 := hp q (List.mem_cons_of_mem _ hq)
          exact b3 q hq (((us_i hu hp0 (h := q.2)).2 hq4.1 hq4.2).mpr (Or.inl e))
        · rcases List.mem_cons.mp hq with y | y
          · rw [y]; exact a2
          · intro z
            have hq4 := hp q (List.mem_cons_of_mem _ y)
            exact b3 q y (((us_i hu hp0 (h := q.2)).2 hq4.1 hq4.2).mpr (Or.inr z))
    rw [pf_c]
    by_cases g : E p.1 p.2 = -1 ∨ jAn (jSr u p.2) 1 = 1
    · rw [if_pos g]
      refine ⟨fun h => ?_, fun _ => rfl⟩
      have := (K.mp h).1
      exact (g.elim this.1 this.2).elim
    · rw [if_neg g]
      have g' : E p.1 p.2 ≠ -1 ∧ ¬ jAn (jSr u p.2) 1 = 1 := ⟨fun z => g (Or.inl z), fun z => g (Or.inr z)⟩
      refine ⟨fun h => ?_, fun h => I.2 (fun z => h (K.mpr ⟨g', z⟩))⟩
      rw [I.1 (K.mp h).2]
      show s + E p.1 p.2 + pSm E l = s + (E p.1 p.2 + pSm E l)
      omega
theorem pf_rev {E : Int → Int → Int} {l : List (Int × Int)} (h : ∀ p ∈ l, 0 ≤ p.2 ∧ p.2 < 4) : pf E l.reverse 0 0 = pf E l 0 0 := by
  have h' : ∀ p ∈ l.reverse, 0 ≤ p.2 ∧ p.2 < 4 := fun p hp => h p (List.mem_reverse.mp hp)
  have A := pf_v (E := E) l 0 0 h ⟨Int.le_refl _, by decide⟩
  have B := pf_v (E := E) l.reverse 0 0 h' ⟨Int.le_refl _, by decide⟩
  have K : pOk E l.reverse 0 ↔ pOk E l 0 := by
    unfold pOk
    rw [List.map_reverse]
    have nr : ∀ x : List Int, x.reverse.Nodup ↔ x.Nodup := by
      intro x
      unfold List.Nodup
      rw [List.pairwise_reverse]
      constructor
      · intro y; exact y.imp (fun z => Ne.symm z)
      · intro y; exact y.imp (fun z => Ne.symm z)
    rw [nr]
    constructor
    · rintro ⟨a, b, c⟩
      exact ⟨fun p hp => a p (List.mem_reverse.mpr hp), b, fun p hp => c p (List.mem_reverse.mpr hp)⟩
    · rintro ⟨a, b, c⟩
      exact ⟨fun p hp => a p (List.mem_reverse.mp hp), b, fun p hp => c p (List.mem_reverse.mp hp)⟩
  have S : pSm E l.reverse = pSm E l := by
    have : ∀ x : List Int, x.reverse.sum = x.sum := by
      intro x
      induction x with
      | nil => rfl
      | cons y x ih =>
        rw [List.reverse_cons, List.sum_append, ih, List.sum_cons, List.sum_cons, List.sum_nil]
        omega
    unfold pSm
    rw [List.map_reverse, this]
  by_cases g : pOk E l 0
  · rw [A.1 g, B.1 (K.mpr g), S]
  · rw [A.2 g, B.2 (fun z => g (K.mp z))]
theorem pf_b {E : Int → Int → Int} (hE : ∀ b g, E b g = -1 ∨ (0 ≤ E b g ∧ E b g ≤ 2400)) : ∀ (l : List (Int × Int)) (u s : Int), 0 ≤ s → pf E l u s = -1 ∨ (s ≤ pf E l u s ∧ pf E l u s ≤ s + 2400 * l.length) := by
  intro l
  induction l with
  | nil => intro u s _; exact Or.inr ⟨Int.le_refl _, by show s ≤ s + 2400 * ((0 : Nat) : Int); omega⟩
  | cons p l ih =>
    intro u s hs
    rw [pf_c]
    by_cases g : E p.1 p.2 = -1 ∨ jAn (jSr u p.2) 1 = 1
    · rw [if_pos g]; exact Or.inl rfl
    · rw [if_neg g, List.length_cons]
      have e := (hE p.1 p.2).resolve_left (fun z => g (Or.inl z))
      rcases ih (jOr u (jSl 1 p.2)) (s + E p.1 p.2) (by omega) with z | z
      · exact Or.inl z
      · exact Or.inr (by omega)
/-! all codes -/
def al (K r : Nat) : List (List Int) := (List.range (K ^ r)).map (fun c : Nat => dgl K r (c : Int))
theorem al_all : ∀ G : Nat, G < 5 → ∀ r : Nat, r < 5 → r ≤ G → al G r = (al 4 r).filter (fun a => a.all (fun x => decide (x < (G : Int)))) := by decide +kernel
def spS (val : List Int → Int) (st : Int × List Int) (a : List Int) : Int × List Int := if val a = -1 then st else if st.1 = -1 then (val a, a) else if st.1 ≤ val a then st else (val a, a)
theorem spS_fil {val : List Int → Int} {P : List Int → Bool} : ∀ (L : List (List Int)) (st : Int × List Int), (∀ a ∈ L, P a = false → val a = -1) → (L.filter P).foldl (spS val) st = L.foldl (spS val) st := by
  intro L
  induction L with
  | nil => intro st _; rfl
  | cons a L ih =>
    intro st h
    have I := fun st => ih st (fun b hb => h b (List.mem_cons_of_mem _ hb))
    by_cases g : P a = true
    · rw [List.filter_cons_of_pos g, List.foldl_cons, List.foldl_cons, I]
    · have e : val a = -1 := h a List.mem_cons_self (Bool.eq_false_iff.mpr g)
      have e2 : spS val st a = st := if_pos e
      rw [List.filter_cons_of_neg g, List.foldl_cons, e2, I]
theorem fold_rng {σ : Type} {f : σ → List Int → σ} {F : Int → List Int} : ∀ (n : Nat) (st : σ), ((List.range n).map (fun c : Nat => F (c : Int))).foldl f st = itn (fun c st => f st (F c)) n 0 st := by
  intro n
  induction n with
  | zero => intro st; rfl
  | succ n ih =>
    intro st
    rw [List.range_succ, List.map_append, List.foldl_append, ih, itn_snoc, show (0 : Int) + (n : Int) = (n : Int) by omega]
    rfl
/-! places in a list -/
def ixF : List Int → Int → Nat
  | [], _ => 0
  | b :: r, x => if b = x then 0 else ixF r x + 1
theorem ix_all : ∀ s : Nat, s < 256 → ∀ i : Nat, i < 8 → i < (bls (s : Int)).length → ixF (bls (s : Int)) ((bls (s : Int)).getD i 0) = i ∧ f_J6_bitCount_0f7a4 (jSr (s : Int) ((bls (s : Int)).getD i 0)) = some (((bls (s : Int)).length : Int) - (i : Int)) := by decide +kernel
theorem ix_mem {l : List Int} {x : Int} (h : x ∈ l) : ∃ i : Nat, i < l.length ∧ l.getD i 0 = x := by
  obtain ⟨i, hi, e⟩ := List.getElem_of_mem h
  refine ⟨i, hi, ?_⟩
  rw [List.getD_eq_getElem?_getD, List.getElem?_eq_getElem hi, e]
  rfl
theorem lsF_in {v i : Int} (hb : jAn (jSr v i) 1 = 1) : ∀ (d : Nat) (k : Int), k ≤ i → i < k + d → i ∈ lsF v d k := by
  intro d
  induction d with
  | zero => intro k a b; omega
  | succ d ih =>
    intro k a b
    unfold lsF
    by_cases ek : k = i
    · rw [ek, if_pos hb]; exact List.mem_cons_self
    · have := ih (k + 1) (by omega) (by omega)
      split
      · exact List.mem_cons_of_mem _ this
      · exact this
/-- the digits of a choice as the class has them -/
theorem dg_all : ∀ c : Nat, c < 256 → ∀ k : Nat, k < 4 → jAn (jSr (c : Int) (jW (2 * (k : Int)))) 3 = (c : Int) / (4 : Int) ^ k % 4 := by decide +kernel
theorem sh_all : ∀ r : Nat, r < 5 → jSl 1 (jW (2 * (r : Int))) = ((4 ^ r : Nat) : Int) ∧ 1 ≤ 4 ^ r ∧ 4 ^ r ≤ 256 := by decide +kernel
