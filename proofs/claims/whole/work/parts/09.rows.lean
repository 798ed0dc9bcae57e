section ROWS2
variable {X : jX} {S : List jSh} {μ : jMu} {k n pc : Nat} {ls ls' : List (Nat × jA)} {st st' : List jA} {cc : ByteArray} {own : String} {lk : List (Nat × Nat × Nat)} {α : Type}
theorem jite {c : Prop} [Decidable c] {T F : Option α} {r : α} (h : (if c then T else F) = some r) : (c ∧ T = some r) ∨ (¬ c ∧ F = some r) := by
  by_cases hc : c
  · rw [if_pos hc] at h; exact Or.inl ⟨hc, h⟩
  · rw [if_neg hc] at h; exact Or.inr ⟨hc, h⟩
theorem jiT {c : Prop} [Decidable c] {T F : Option α} {r : α} (h : (if c then T else F) = some r) (hc : c) : T = some r := by rw [if_pos hc] at h; exact h
theorem jiF {c : Prop} [Decidable c] {T F : Option α} {r : α} (h : (if c then T else F) = some r) (hc : ¬ c) : F = some r := by rw [if_neg hc] at h; exact h
theorem jgd {c : Prop} [Decidable c] {T : Option α} {r : α} (h : (if c then T else none) = some r) : c ∧ T = some r := by
  rcases jite h with h | ⟨-, h⟩
  · exact h
  · cases h
theorem jbd {β : Type} {x : Option β} {f : β → Option α} {r : α} (h : x.bind f = some r) : ∃ v, x = some v ∧ f v = some r := Option.bind_eq_some_iff.mp h

theorem J_if_eq (C : jC X cc own) {a : Int} {off : Int} {tgt : Nat} {T F : Option α} {r : α} (d : decode cc pc = .ok (.ifCond .eq off, 3)) (ht : (pc : Int) + off = (tgt : Int)) (hf : (if a = 0 then T else F) = some r)
    (kT : T = some r → J X S μ k n tgt ls st) (kF : F = some r → J X S μ k n (pc + 3) ls st) : J X S μ k n pc ls (jI a :: st) := by
  obtain ⟨hx, hb, -⟩ := C
  intro H locs σ lc hH hl ho hst
  have ha : jIn a := hst (jI a) List.mem_cons_self
  have hs2 : ∀ v ∈ st, jokv S v := fun w hw => hst w (List.mem_cons_of_mem _ hw)
  exact lv_if_eq hx hb d ht (fun hc => kT (jiT hf ((j_eq ha j_in0).mp hc)) H locs σ lc hH hl ho hs2) (fun hc => kF (jiF hf (fun z => hc ((j_eq ha j_in0).mpr z))) H locs σ lc hH hl ho hs2)

theorem J_icmp_eq (C : jC X cc own) {a b : Int} {off : Int} {tgt : Nat} {T F : Option α} {r : α} (d : decode cc pc = .ok (.if_icmp .eq off, 3)) (ht : (pc : Int) + off = (tgt : Int)) (hf : (if a = b then T else F) = some r)
    (kT : T = some r → J X S μ k n tgt ls st) (kF : F = some r → J X S μ k n (pc + 3) ls st) : J X S μ k n pc ls (jI b :: jI a :: st) := by
  obtain ⟨hx, hb, -⟩ := C
  intro H locs σ lc hH hl ho hst
  have hb2 : jIn b := hst (jI b) List.mem_cons_self
  have ha : jIn a := hst (jI a) (List.mem_cons_of_mem _ List.mem_cons_self)
  have hs2 : ∀ v ∈ st, jokv S v := fun w hw => hst w (List.mem_cons_of_mem _ (List.mem_cons_of_mem _ hw))
  exact lv_icmp_eq hx hb d ht (fun hc => kT (jiT hf ((j_eq ha hb2).mp hc)) H locs σ lc hH hl ho hs2) (fun hc => kF (jiF hf (fun z => hc ((j_eq ha hb2).mpr z))) H locs σ lc hH hl ho hs2)

theorem J_if_ne (C : jC X cc own) {a : Int} {off : Int} {tgt : Nat} {T F : Option α} {r : α} (d : decode cc pc = .ok (.ifCond .ne off, 3)) (ht : (pc : Int) + off = (tgt : Int)) (hf : (if a = 0 then T else F) = some r)
    (kT : T = some r → J X S μ k n (pc + 3) ls st) (kF : F = some r → J X S μ k n tgt ls st) : J X S μ k n pc ls (jI a :: st) := by
  obtain ⟨hx, hb, -⟩ := C
  intro H locs σ lc hH hl ho hst
  have ha : jIn a := hst (jI a) List.mem_cons_self
  have hs2 : ∀ v ∈ st, jokv S v := fun w hw => hst w (List.mem_cons_of_mem _ hw)
  exact lv_if_ne hx hb d ht (fun hc => kF (jiF hf (fun z => hc ((j_eq ha j_in0).mpr z))) H locs σ lc hH hl ho hs2) (fun hc => kT (jiT hf ((j_eq ha j_in0).mp hc)) H locs σ lc hH hl ho hs2)

theorem J_icmp_ne (C : jC X cc own) {a b : Int} {off : Int} {tgt : Nat} {T F : Option α} {r : α} (d : decode cc pc = .ok (.if_icmp .ne off, 3)) (ht : (pc : Int) + off = (tgt : Int)) (hf : (if a = b then T else F) = some r)
    (kT : T = some r → J X S μ k n (pc + 3) ls st) (kF : F = some r → J X S μ k n tgt ls st) : J X S μ k n pc ls (jI b :: jI a :: st) := by
  obtain ⟨hx, hb, -⟩ := C
  intro H locs σ lc hH hl ho hst
  have hb2 : jIn b := hst (jI b) List.mem_cons_self
  have ha : jIn a := hst (jI a) (List.mem_cons_of_mem _ List.mem_cons_self)
  have hs2 : ∀ v ∈ st, jokv S v := fun w hw => hst w (List.mem_cons_of_mem _ (List.mem_cons_of_mem _ hw))
  exact lv_icmp_ne hx hb d ht (fun hc => kF (jiF hf (fun z => hc ((j_eq ha hb2).mpr z))) H locs σ lc hH hl ho hs2) (fun hc => kT (jiT hf ((j_eq ha hb2).mp hc)) H locs σ lc hH hl ho hs2)

theorem J_if_lt (C : jC X cc own) {a : Int} {off : Int} {tgt : Nat} {T F : Option α} {r : α} (d : decode cc pc = .ok (.ifCond .lt off, 3)) (ht : (pc : Int) + off = (tgt : Int)) (hf : (if a < 0 then T else F) = some r)
    (kT : T = some r → J X S μ k n tgt ls st) (kF : F = some r → J X S μ k n (pc + 3) ls st) : J X S μ k n pc ls (jI a :: st) := by
  obtain ⟨hx, hb, -⟩ := C
  intro H locs σ lc hH hl ho hst
  have ha : jIn a := hst (jI a) List.mem_cons_self
  have hs2 : ∀ v ∈ st, jokv S v := fun w hw => hst w (List.mem_cons_of_mem _ hw)
  exact lv_if_lt hx hb d ht (fun hc => kT (jiT hf ((j_lt ha j_in0).mp hc)) H locs σ lc hH hl ho hs2) (fun hc => kF (jiF hf (fun z => hc ((j_lt ha j_in0).mpr z))) H locs σ lc hH hl ho hs2)

theorem J_icmp_lt (C : jC X cc own) {a b : Int} {off : Int} {tgt : Nat} {T F : Option α} {r : α} (d : decode cc pc = .ok (.if_icmp .lt off, 3)) (ht : (pc : Int) + off = (tgt : Int)) (hf : (if a < b then T else F) = some r)
    (kT : T = some r → J X S μ k n tgt ls st) (kF : F = some r → J X S μ k n (pc + 3) ls st) : J X S μ k n pc ls (jI b :: jI a :: st) := by
  obtain ⟨hx, hb, -⟩ := C
  intro H locs σ lc hH hl ho hst
  have hb2 : jIn b := hst (jI b) List.mem_cons_self
  have ha : jIn a := hst (jI a) (List.mem_cons_of_mem _ List.mem_cons_self)
  have hs2 : ∀ v ∈ st, jokv S v := fun w hw => hst w (List.mem_cons_of_mem _ (List.mem_cons_of_mem _ hw))
  exact lv_icmp_lt hx hb d ht (fun hc => kT (jiT hf ((j_lt ha hb2).mp hc)) H locs σ lc hH hl ho hs2) (fun hc => kF (jiF hf (fun z => hc ((j_lt ha hb2).mpr z))) H locs σ lc hH hl ho hs2)

theorem J_if_ge (C : jC X cc own) {a : Int} {off : Int} {tgt : Nat} {T F : Option α} {r : α} (d : decode cc pc = .ok (.ifCond .ge off, 3)) (ht : (pc : Int) + off = (tgt : Int)) (hf : (if 0 ≤ a then T else F) = some r)
    (kT : T = some r → J X S μ k n tgt ls st) (kF : F = some r → J X S μ k n (pc + 3) ls st) : J X S μ k n pc ls (jI a :: st) := by
  obtain ⟨hx, hb, -⟩ := C
  intro H locs σ lc hH hl ho hst
  have ha : jIn a := hst (jI a) List.mem_cons_self
  have hs2 : ∀ v ∈ st, jokv S v := fun w hw => hst w (List.mem_cons_of_mem _ hw)
  exact lv_if_ge hx hb d ht (fun hc => kT (jiT hf ((j_le j_in0 ha).mp hc)) H locs σ lc hH hl ho hs2) (fun hc => kF (jiF hf (fun z => hc ((j_le j_in0 ha).mpr z))) H locs σ lc hH hl ho hs2)

theorem J_icmp_ge (C : jC X cc own) {a b : Int} {off : Int} {tgt : Nat} {T F : Option α} {r : α} (d : decode cc pc = .ok (.if_icmp .ge off, 3)) (ht : (pc : Int) + off = (tgt : Int)) (hf : (if b ≤ a then T else F) = some r)
    (kT : T = some r → J X S μ k n tgt ls st) (kF : F = some r → J X S μ k n (pc + 3) ls st) : J X S μ k n pc ls (jI b :: jI a :: st) := by
  obtain ⟨hx, hb, -⟩ := C
  intro H locs σ lc hH hl ho hst
  have hb2 : jIn b := hst (jI b) List.mem_cons_self
  have ha : jIn a := hst (jI a) (List.mem_cons_of_mem _ List.mem_cons_self)
  have hs2 : ∀ v ∈ st, jokv S v := fun w hw => hst w (List.mem_cons_of_mem _ (List.mem_cons_of_mem _ hw))
  exact lv_icmp_ge hx hb d ht (fun hc => kT (jiT hf ((j_le hb2 ha).mp hc)) H locs σ lc hH hl ho hs2) (fun hc => kF (jiF hf (fun z => hc ((j_le hb2 ha).mpr z))) H locs σ lc hH hl ho hs2)

theorem J_if_gt (C : jC X cc own) {a : Int} {off : Int} {tgt : Nat} {T F : Option α} {r : α} (d : decode cc pc = .ok (.ifCond .gt off, 3)) (ht : (pc : Int) + off = (tgt : Int)) (hf : (if 0 < a then T else F) = some r)
    (kT : T = some r → J X S μ k n tgt ls st) (kF : F = some r → J X S μ k n (pc + 3) ls st) : J X S μ k n pc ls (jI a :: st) := by
  obtain ⟨hx, hb, -⟩ := C
  intro H locs σ lc hH hl ho hst
  have ha : jIn a := hst (jI a) List.mem_cons_self
  have hs2 : ∀ v ∈ st, jokv S v := fun w hw => hst w (List.mem_cons_of_mem _ hw)
  exact lv_if_gt hx hb d ht (fun hc => kT (jiT hf ((j_lt j_in0 ha).mp hc)) H locs σ lc hH hl ho hs2) (fun hc => kF (jiF hf (fun z => hc ((j_lt j_in0 ha).mpr z))) H locs σ lc hH hl ho hs2)

theorem J_icmp_gt (C : jC X cc own) {a b : Int} {off : Int} {tgt : Nat} {T F : Option α} {r : α} (d : decode cc pc = .ok (.if_icmp .gt off, 3)) (ht : (pc : Int) + off = (tgt : Int)) (hf : (if b < a then T else F) = some r)
    (kT : T = some r → J X S μ k n tgt ls st) (kF : F = some r → J X S μ k n (pc + 3) ls st) : J X S μ k n pc ls (jI b :: jI a :: st) := by
  obtain ⟨hx, hb, -⟩ := C
  intro H locs σ lc hH hl ho hst
  have hb2 : jIn b := hst (jI b) List.mem_cons_self
  have ha : jIn a := hst (jI a) (List.mem_cons_of_mem _ List.mem_cons_self)
  have hs2 : ∀ v ∈ st, jokv S v := fun w hw => hst w (List.mem_cons_of_mem _ (List.mem_cons_of_mem _ hw))
  exact lv_icmp_gt hx hb d ht (fun hc => kT (jiT hf ((j_lt hb2 ha).mp hc)) H locs σ lc hH hl ho hs2) (fun hc => kF (jiF hf (fun z => hc ((j_lt hb2 ha).mpr z))) H locs σ lc hH hl ho hs2)

theorem J_if_le (C : jC X cc own) {a : Int} {off : Int} {tgt : Nat} {T F : Option α} {r : α} (d : decode cc pc = .ok (.ifCond .le off, 3)) (ht : (pc : Int) + off = (tgt : Int)) (hf : (if a ≤ 0 then T else F) = some r)
    (kT : T = some r → J X S μ k n tgt ls st) (kF : F = some r → J X S μ k n (pc + 3) ls st) : J X S μ k n pc ls (jI a :: st) := by
  obtain ⟨hx, hb, -⟩ := C
  intro H locs σ lc hH hl ho hst
  have ha : jIn a := hst (jI a) List.mem_cons_self
  have hs2 : ∀ v ∈ st, jokv S v := fun w hw => hst w (List.mem_cons_of_mem _ hw)
  exact lv_if_le hx hb d ht (fun hc => kT (jiT hf ((j_le ha j_in0).mp hc)) H locs σ lc hH hl ho hs2) (fun hc => kF (jiF hf (fun z => hc ((j_le ha j_in0).mpr z))) H locs σ lc hH hl ho hs2)

theorem J_icmp_le (C : jC X cc own) {a b : Int} {off : Int} {tgt : Nat} {T F : Option α} {r : α} (d : decode cc pc = .ok (.if_icmp .le off, 3)) (ht : (pc : Int) + off = (tgt : Int)) (hf : (if a ≤ b then T else F) = some r)
    (kT : T = some r → J X S μ k n tgt ls st) (kF : F = some r → J X S μ k n (pc + 3) ls st) : J X S μ k n pc ls (jI b :: jI a :: st) := by
  obtain ⟨hx, hb, -⟩ := C
  intro H locs σ lc hH hl ho hst
  have hb2 : jIn b := hst (jI b) List.mem_cons_self
  have ha : jIn a := hst (jI a) (List.mem_cons_of_mem _ List.mem_cons_self)
  have hs2 : ∀ v ∈ st, jokv S v := fun w hw => hst w (List.mem_cons_of_mem _ (List.mem_cons_of_mem _ hw))
  exact lv_icmp_le hx hb d ht (fun hc => kT (jiT hf ((j_le ha hb2).mp hc)) H locs σ lc hH hl ho hs2) (fun hc => kF (jiF hf (fun z => hc ((j_le ha hb2).mpr z))) H locs σ lc hH hl ho hs2)

/-- a number of the memory is set -/
def jup (μ : jMu) (i : Nat) (j v : Int) : jMu := fun c x => if c = i ∧ x = j then v else μ c x
/-- a new cell is all zeros -/
def jzr (μ : jMu) (i : Nat) : jMu := fun c x => if c = i then 0 else μ c x
theorem jup_ok {i : Nat} {j v : Int} {sh : jSh} (h : jok S μ) (hs : S[i]? = some sh) (hv : jok1 sh v) : jok S (jup μ i j v) := by
  refine ⟨h.1, fun c s hc x => ?_⟩
  unfold jup
  split
  · rename_i he
    rw [he.1] at hc
    cases Option.some.inj (hs.symm.trans hc)
    exact hv
  · exact h.2 c s hc x

theorem J_iald (C : jC X cc own) {i len : Nat} {j lenI : Int} {T : Option α} {r : α} (hs : S[i]? = some (.inr (0, len))) (hlen : (len : Int) = lenI) (hf : (if 0 ≤ j ∧ j < lenI then T else none) = some r) (d : decode cc pc = .ok (.iaload, 1))
    (h : T = some r → J X S μ k n (pc + 1) ls (jI (μ i j) :: st)) : J X S μ k n pc ls (jI j :: jR i :: st) := by
  obtain ⟨hx, hb, hml, hown, hts, hK, hFz, hlo, hst0⟩ := C
  subst hlen
  obtain ⟨⟨h0, h1⟩, hf⟩ := jgd hf
  intro H locs σ lc hH hl ho hst
  have hj : jIn j := hst (jI j) List.mem_cons_self
  have he : (jw (xG X) σ S μ)[i]? = some (σ i, .inl (gC (xG X) 0, len, jarr μ i 0)) := jw_at hs
  refine va_iald hx hb hK hH.1 i 0 he rfl (j_vpin hj h0 h1) d ?_
  rw [j_clamp hj, Int.toNat_of_nonneg h0]
  refine h hf H locs σ lc hH hl ho fun w hw => ?_
  rcases List.mem_cons.mp hw with e | e
  · rw [e]; exact hH.2.2.2.1.2 i _ hs j
  · exact hst w (List.mem_cons_of_mem _ (List.mem_cons_of_mem _ e))

theorem J_zald (C : jC X cc own) {i len : Nat} {j lenI : Int} {T : Option α} {r : α} (hs : S[i]? = some (.inr (1, len))) (hlen : (len : Int) = lenI) (hf : (if 0 ≤ j ∧ j < lenI then T else none) = some r) (d : decode cc pc = .ok (.baload, 1))
    (h : T = some r → J X S μ k n (pc + 1) ls (jI (μ i j) :: st)) : J X S μ k n pc ls (jI j :: jR i :: st) := by
  obtain ⟨hx, hb, hml, hown, hts, hK, hFz, hlo, hst0⟩ := C
  subst hlen
  obtain ⟨⟨h0, h1⟩, hf⟩ := jgd hf
  intro H locs σ lc hH hl ho hst
  have hj : jIn j := hst (jI j) List.mem_cons_self
  have he : (jw (xG X) σ S μ)[i]? = some (σ i, .inl (gC (xG X) 1, len, jarr μ i 1)) := jw_at hs
  refine va_zald hx hb hK hH.1 i 1 he rfl (j_vpin hj h0 h1) d ?_
  rw [j_clamp hj, Int.toNat_of_nonneg h0]
  refine h hf H locs σ lc hH hl ho fun w hw => ?_
  rcases List.mem_cons.mp hw with e | e
  · rw [e]; exact hH.2.2.2.1.2 i _ hs j
  · exact hst w (List.mem_cons_of_mem _ (List.mem_cons_of_mem _ e))

theorem J_lald (C : jC X cc own) {i len : Nat} {j lenI : Int} {T : Option α} {r : α} (hs : S[i]? = some (.inr (2, len))) (hlen : (len : Int) = lenI) (hf : (if 0 ≤ j ∧ j < lenI then T else none) = some r) (d : decode cc pc = .ok (.laload, 1))
    (h : T = some r → J X S μ k n (pc + 1) ls (jL (μ i j) :: st)) : J X S μ k n pc ls (jI j :: jR i :: st) := by
  obtain ⟨hx, hb, hml, hown, hts, hK, hFz, hlo, hst0⟩ := C
  subst hlen
  obtain ⟨⟨h0, h1⟩, hf⟩ := jgd hf
  intro H locs σ lc hH hl ho hst
  have hj : jIn j := hst (jI j) List.mem_cons_self
  have he : (jw (xG X) σ S μ)[i]? = some (σ i, .inl (gC (xG X) 2, len, jarr μ i 2)) := jw_at hs
  refine va_lald hx hb hK hH.1 i 2 he rfl (j_vpin hj h0 h1) d ?_
  rw [j_clamp hj, Int.toNat_of_nonneg h0]
  refine h hf H locs σ lc hH hl ho fun w hw => ?_
  rcases List.mem_cons.mp hw with e | e
  · rw [e]; exact hH.2.2.2.1.2 i _ hs j
  · exact hst w (List.mem_cons_of_mem _ (List.mem_cons_of_mem _ e))

theorem jup_ne {i : Nat} {j v : Int} : ∀ c, c ≠ i → ∀ x, jup μ i j v c x = μ c x := fun c hc x => by unfold jup; rw [if_neg (fun z => hc z.1)]
theorem j_cast {j : Int} (h0 : 0 ≤ j) (q : Nat) : ((q : Int) = j) ↔ q = j.toNat := by omega
/-- the heap changes at one cell: the new memory holds there -/
theorem jH_set {i : Nat} {sh sh' : jSh} {x : va_E} {μ' : jMu} {H H1 : Heap} {locs locs1 : List Loc} {σ : Nat → Nat} (hH : jH X S μ H locs σ) (hs : S[i]? = some sh) (hx : x = je (xG X) σ μ' i sh') (hk : ∀ c, c ≠ i → ∀ y, μ' c y = μ c y) (hok : jok (S.set i sh') μ')
    (hP : va_P (gD (xG X)) vwCl ((jw (xG X) σ S μ).set i (σ i, x)) H1) (hD : va_D (gA (xG X)) ((jw (xG X) σ S μ).set i (σ i, x))) (hS : va_S (gA (xG X)) (xs X).heap H1 locs1) : jH X (S.set i sh') μ' H1 locs1 σ := by
  rw [jw_set hs hx hk] at hP hD
  exact ⟨hP, hD, hS, hok, hH.2.2.2.2⟩
theorem jokv_set {i : Nat} {sh' : jSh} {v : jA} (h : jokv S v) : jokv (S.set i sh') v := by
  rcases v with z | z | _ | q
  · exact h
  · exact h
  · exact h
  · show q < (S.set i sh').length ∨ jXS ≤ q
    rw [List.length_set]
    exact h

theorem J_iast (C : jC X cc own) {i len : Nat} {j v lenI : Int} {T : Option α} {r : α} (hs : S[i]? = some (.inr (0, len))) (hlen : (len : Int) = lenI) (hf : (if 0 ≤ j ∧ j < lenI then T else none) = some r) (d : decode cc pc = .ok (.iastore, 1))
    (h : T = some r → J X S (jup μ i j v) k n (pc + 1) ls st) : J X S μ k n pc ls (jI v :: jI j :: jR i :: st) := by
  obtain ⟨hx, hb, hml, hown, hts, hK, hFz, hlo, hst0⟩ := C
  subst hlen
  obtain ⟨⟨h0, h1⟩, hf⟩ := jgd hf
  intro H locs σ lc hH hl ho hst
  have hv : jIn v := hst (jI v) List.mem_cons_self
  have hj : jIn j := hst (jI j) (List.mem_cons_of_mem _ List.mem_cons_self)
  have he : (jw (xG X) σ S μ)[i]? = some (σ i, .inl (gC (xG X) 0, len, .inl (fun j => Int32.ofInt (μ i j)))) := jw_at hs
  refine va_iast hx hb hK hH.1 hH.2.1 hH.2.2.1 i 0 he rfl (j_vpin hj h0 h1) d fun H1 locs1 hP hD hS => ?_
  have hH1 := jH_set (sh' := .inr (0, len)) (μ' := jup μ i j v) hH hs (by
    refine congrArg (fun z : Nat → Int32 => (Sum.inl (gC (xG X) 0, len, Sum.inl z) : va_E)) (funext fun q => ?_)
    show _ = Int32.ofInt (jup μ i j v i q)
    rw [j_clamp hj]
    unfold upd jup
    by_cases hq : q = j.toNat
    · rw [if_pos hq, if_pos ⟨rfl, (j_cast h0 q).mpr hq⟩]
    · rw [if_neg hq, if_neg (fun z => hq ((j_cast h0 q).mp z.2))]) jup_ne (by rw [jw_self hs]; exact jup_ok hH.2.2.2.1 hs hv) hP hD hS
  rw [jw_self hs] at hH1
  exact h hf H1 locs1 σ lc hH1 hl ho fun w hw => hst w (List.mem_cons_of_mem _ (List.mem_cons_of_mem _ (List.mem_cons_of_mem _ hw)))
theorem j_zn {v : Int} (h : v = 0 ∨ v = 1) : vp_nar .boolean (Int32.ofInt v) = Int32.ofInt v := by
  rcases h with rfl | rfl <;> decide
theorem j_zn2 {v : Int} (h : v = 0 ∨ v = 1) : narrow .boolean (.int (Int32.ofInt v)) = .int (Int32.ofInt v) := by
  rcases h with rfl | rfl <;> decide
theorem j_zf {v : Int} (h : v = 0 ∨ v = 1) : fits .boolean (.int (Int32.ofInt v)) = true := by
  rcases h with rfl | rfl <;> decide
theorem J_zast (C : jC X cc own) {i len : Nat} {j v lenI : Int} {T : Option α} {r : α} (hs : S[i]? = some (.inr (1, len))) (hlen : (len : Int) = lenI) (hf : (if (0 ≤ j ∧ j < lenI) ∧ (v = 0 ∨ v = 1) then T else none) = some r) (d : decode cc pc = .ok (.bastore, 1))
    (h : T = some r → J X S (jup μ i j v) k n (pc + 1) ls st) : J X S μ k n pc ls (jI v :: jI j :: jR i :: st) := by
  obtain ⟨hx, hb, hml, hown, hts, hK, hFz, hlo, hst0⟩ := C
  subst hlen
  obtain ⟨⟨⟨h0, h1⟩, hz⟩, hf⟩ := jgd hf
  intro H locs σ lc hH hl ho hst
  have hv : jIn v := hst (jI v) List.mem_cons_self
  have hj : jIn j := hst (jI j) (List.mem_cons_of_mem _ List.mem_cons_self)
  have he : (jw (xG X) σ S μ)[i]? = some (σ i, .inl (gC (xG X) 1, len, .inl (fun j => Int32.ofInt (μ i j)))) := jw_at hs
  refine va_zast hx hb hK hH.1 hH.2.1 hH.2.2.1 i 1 he rfl (j_vpin hj h0 h1) d fun H1 locs1 hP hD hS => ?_
  have hH1 := jH_set (sh' := .inr (1, len)) (μ' := jup μ i j v) hH hs (by
    refine congrArg (fun z : Nat → Int32 => (Sum.inl (gC (xG X) 1, len, Sum.inl z) : va_E)) (funext fun q => ?_)
    show _ = Int32.ofInt (jup μ i j v i q)
    rw [j_clamp hj, j_zn hz]
    unfold upd jup
    by_cases hq : q = j.toNat
    · rw [if_pos hq, if_pos ⟨rfl, (j_cast h0 q).mpr hq⟩]
    · rw [if_neg hq, if_neg (fun z => hq ((j_cast h0 q).mp z.2))]) jup_ne (by rw [jw_self hs]; exact jup_ok hH.2.2.2.1 hs hv) hP hD hS
  rw [jw_self hs] at hH1
  exact h hf H1 locs1 σ lc hH1 hl ho fun w hw => hst w (List.mem_cons_of_mem _ (List.mem_cons_of_mem _ (List.mem_cons_of_mem _ hw)))
theorem J_last (C : jC X cc own) {i len : Nat} {j v lenI : Int} {T : Option α} {r : α} (hs : S[i]? = some (.inr (2, len))) (hlen : (len : Int) = lenI) (hf : (if 0 ≤ j ∧ j < lenI then T else none) = some r) (d : decode cc pc = .ok (.lastore, 1))
    (h : T = some r → J X S (jup μ i j v) k n (pc + 1) ls st) : J X S μ k n pc ls (jL v :: jI j :: jR i :: st) := by
  obtain ⟨hx, hb, hml, hown, hts, hK, hFz, hlo, hst0⟩ := C
  subst hlen
  obtain ⟨⟨h0, h1⟩, hf⟩ := jgd hf
  intro H locs σ lc hH hl ho hst
  have hv : jLn v := hst (jL v) List.mem_cons_self
  have hj : jIn j := hst (jI j) (List.mem_cons_of_mem _ List.mem_cons_self)
  have he : (jw (xG X) σ S μ)[i]? = some (σ i, .inl (gC (xG X) 2, len, .inr (.inl (fun j => Int64.ofInt (μ i j))))) := jw_at hs
  refine va_last hx hb hK hH.1 hH.2.1 hH.2.2.1 i 2 he rfl (j_vpin hj h0 h1) d fun H1 locs1 hP hD hS => ?_
  have hH1 := jH_set (sh' := .inr (2, len)) (μ' := jup μ i j v) hH hs (by
    refine congrArg (fun z : Nat → Int64 => (Sum.inl (gC (xG X) 2, len, Sum.inr (Sum.inl z)) : va_E)) (funext fun q => ?_)
    show _ = Int64.ofInt (jup μ i j v i q)
    rw [j_clamp hj]
    unfold vp_updL jup
    by_cases hq : q = j.toNat
    · rw [if_pos hq, if_pos ⟨rfl, (j_cast h0 q).mpr hq⟩]
    · rw [if_neg hq, if_neg (fun z => hq ((j_cast h0 q).mp z.2))]) jup_ne (by rw [jw_self hs]; exact jup_ok hH.2.2.2.1 hs hv) hP hD hS
  rw [jw_self hs] at hH1
  exact h hf H1 locs1 σ lc hH1 hl ho fun w hw => hst w (List.mem_cons_of_mem _ (List.mem_cons_of_mem _ (List.mem_cons_of_mem _ hw)))
end ROWS2
