section ROWS3
variable {X : jX} {S : List jSh} {μ : jMu} {k n pc : Nat} {ls ls' : List (Nat × jA)} {st st' : List jA} {cc : ByteArray} {own : String} {lk : List (Nat × Nat × Nat)} {α : Type}
theorem J_idiv (C : jC X cc own) {a b : Int} {T : Option α} {r : α} (hf : (if b ≠ 0 then T else none) = some r) (d : decode cc pc = .ok (.idiv, 1)) (h : T = some r → J X S μ k n (pc + 1) ls (jI (jDv a b) :: st)) : J X S μ k n pc ls (jI b :: jI a :: st) := by
  obtain ⟨hx, hb, -⟩ := C
  obtain ⟨hb0, hf⟩ := jgd hf
  intro H locs σ lc hH hl ho hst
  have hb2 : jIn b := hst (jI b) List.mem_cons_self
  have ha : jIn a := hst (jI a) (List.mem_cons_of_mem _ List.mem_cons_self)
  refine lv_idiv hx hb d (fun z => hb0 ((j_eq hb2 j_in0).mp z)) ?_
  rw [j_div ha hb2]
  refine h hf H locs σ lc hH hl ho fun w hw => ?_
  rcases List.mem_cons.mp hw with e | e
  · rw [e]; exact jW_in _
  · exact hst w (List.mem_cons_of_mem _ (List.mem_cons_of_mem _ e))
theorem J_irem (C : jC X cc own) {a b : Int} {T : Option α} {r : α} (hf : (if b ≠ 0 then T else none) = some r) (d : decode cc pc = .ok (.irem, 1)) (h : T = some r → J X S μ k n (pc + 1) ls (jI (jRm a b) :: st)) : J X S μ k n pc ls (jI b :: jI a :: st) := by
  obtain ⟨hx, hb, -⟩ := C
  obtain ⟨hb0, hf⟩ := jgd hf
  intro H locs σ lc hH hl ho hst
  have hb2 : jIn b := hst (jI b) List.mem_cons_self
  have ha : jIn a := hst (jI a) (List.mem_cons_of_mem _ List.mem_cons_self)
  refine lv_irem hx hb d (fun z => hb0 ((j_eq hb2 j_in0).mp z)) ?_
  rw [j_rem ha hb2]
  refine h hf H locs σ lc hH hl ho fun w hw => ?_
  rcases List.mem_cons.mp hw with e | e
  · rw [e]; exact jW_in _
  · exact hst w (List.mem_cons_of_mem _ (List.mem_cons_of_mem _ e))
theorem J_ldiv (C : jC X cc own) {a b : Int} {T : Option α} {r : α} (hf : (if b ≠ 0 then T else none) = some r) (d : decode cc pc = .ok (.ldiv, 1)) (h : T = some r → J X S μ k n (pc + 1) ls (jL (jDvL a b) :: st)) : J X S μ k n pc ls (jL b :: jL a :: st) := by
  obtain ⟨hx, hb, -⟩ := C
  obtain ⟨hb0, hf⟩ := jgd hf
  intro H locs σ lc hH hl ho hst
  have hb2 : jLn b := hst (jL b) List.mem_cons_self
  have ha : jLn a := hst (jL a) (List.mem_cons_of_mem _ List.mem_cons_self)
  refine lv_ldiv hx hb d (fun z => hb0 ((j_eqL hb2 (by unfold jLn; omega)).mp z)) ?_
  rw [j_divL ha hb2]
  refine h hf H locs σ lc hH hl ho fun w hw => ?_
  rcases List.mem_cons.mp hw with e | e
  · rw [e]; exact jV_in _
  · exact hst w (List.mem_cons_of_mem _ (List.mem_cons_of_mem _ e))
theorem jfs_len {σ : Nat → Nat} {i : Nat} {rf : List (Option (Option Nat))} : (jfs σ μ i rf).length = rf.length := by
  unfold jfs
  exact List.length_mapIdx
/-- a number is put into a field -/
theorem jfs_put {σ : Nat → Nat} {i : Nat} {rf : List (Option (Option Nat))} {j : Nat} {v : Int} (hf : rf[j]? = some none) : (jfs σ μ i rf).set j (.int (Int32.ofInt v)) = jfs σ (jup μ i j v) i rf := by
  apply List.ext_getElem?
  intro q
  have hl := (List.getElem?_eq_some_iff.mp hf).1
  by_cases hq : q = j
  · subst hq
    rw [List.getElem?_set_self (by rw [jfs_len]; exact hl), jfs_at hf]
    show some (Value.int _) = some (Value.int (Int32.ofInt (if i = i ∧ (q : Int) = (q : Int) then v else _)))
    rw [if_pos ⟨rfl, rfl⟩]
  · rw [List.getElem?_set_ne (Ne.symm hq)]
    unfold jfs
    rw [List.getElem?_mapIdx, List.getElem?_mapIdx]
    cases rf[q]? with
    | none => rfl
    | some f =>
      rcases f with _ | _ | x
      · simp only [Option.map_some, jf, jup]
        rw [if_neg (fun z => hq (by have := z.2; omega))]
      · rfl
      · rfl
/-- a reference is put into a field -/
theorem jfs_putr {σ : Nat → Nat} {i : Nat} {rf : List (Option (Option Nat))} {j x : Nat} (hl : j < rf.length) : (jfs σ μ i rf).set j (.ref (σ x)) = jfs σ μ i (rf.set j (some (some x))) := by
  apply List.ext_getElem?
  intro q
  by_cases hq : q = j
  · subst hq
    rw [List.getElem?_set_self (by rw [jfs_len]; exact hl)]
    unfold jfs
    rw [List.getElem?_mapIdx, List.getElem?_set_self hl]
    rfl
  · rw [List.getElem?_set_ne (Ne.symm hq)]
    unfold jfs
    rw [List.getElem?_mapIdx, List.getElem?_mapIdx, List.getElem?_set_ne (Ne.symm hq)]
/-- what a field asks of a put -/
def jput (own : String) (idx ci j : Nat) (ty : FieldType) (fin : Bool) : Prop := ∃ r : vw_C, vwCl[ci]? = some r ∧ j < r.2.2 ∧ Cond.fieldLink own idx (r.2.1 j).1 (r.2.1 j).2.1 (r.2.1 j).2.2.1 ∈ jWG ∧ (∃ ty0 : Nat → FieldType, ∀ k, k < r.2.2 → parseFieldDescriptor (r.2.1 k).2.2.1 = some (ty0 k)) ∧ (∀ a, a < r.2.2 → ∀ b, b < r.2.2 → a ≠ b → (r.2.1 a).2.1 ≠ (r.2.1 b).2.1) ∧ (r.2.1 j).2.2.2 = fin ∧ (fin = true → (r.2.1 j).1 = own) ∧ parseFieldDescriptor (r.2.1 j).2.2.1 = some ty
/-- the put itself, whatever the field -/
theorem J_put (C : jC X cc own) {idx i ci j : Nat} {rf rf' : List (Option (Option Nat))} {ty : FieldType} {fin : Bool} {v : jA} {μ' : jMu} (hm : jput own idx ci j ty fin) (hin : fin = true → (xM X).name = "<init>") (hs : S[i]? = some (.inl (ci, rf))) (hj : j < rf.length)
    (hn : ∀ σ, narrow ty (jv σ v) = jv σ v) (hfit : ∀ σ, fits ty (jv σ v) = true) (hset : ∀ σ, (jfs σ μ i rf).set j (jv σ v) = jfs σ μ' i rf') (hk : ∀ c, c ≠ i → ∀ y, μ' c y = μ c y) (hok : jok S μ → jokv S v → jok (S.set i (.inl (ci, rf'))) μ') (d : decode cc pc = .ok (.putfield idx, 3))
    (h : J X (S.set i (.inl (ci, rf'))) μ' k n (pc + 3) ls st) : J X S μ k n pc ls (v :: jR i :: st) := by
  obtain ⟨hx, hb, hml, hown, hts, hK, hFz, hlo, hst0⟩ := C
  obtain ⟨q, hc, hjN, hl0, ⟨ty0, hty⟩, hnm, hfin, hdecl, hd⟩ := hm
  intro H locs σ lc hH hl ho hst
  have hq := j_cls q (List.mem_of_getElem? hc)
  have he : (jw (xG X) σ S μ)[i]? = some (σ i, .inr (ci, jfs σ μ i rf)) := jw_at hs
  have kk : ∀ (H1 : Heap) (locs1 : List Loc), va_P (gD (xG X)) vwCl ((jw (xG X) σ S μ).set i (σ i, .inr (ci, (jfs σ μ i rf).set j (jv σ v)))) H1 → va_D (gA (xG X)) ((jw (xG X) σ S μ).set i (σ i, .inr (ci, (jfs σ μ i rf).set j (jv σ v)))) → va_S (gA (xG X)) (xs X).heap H1 locs1 → W (xp X) (xl X) (xe X) (xR X) (xs X) (xm X) (xa X) (xb X) (xM X) (xc X) H1 locs1 k n (xQ X) (F0 (xm X) (pc + 3) lc (st.map (jv σ))) := by
    intro H1 locs1 hP hD hS
    have hH1 := jH_set (sh' := .inl (ci, rf')) (μ' := μ') hH hs (by show _ = (Sum.inr (ci, jfs σ μ' i rf') : va_E); rw [hset σ]) hk (hok hH.2.2.2.1 (hst v List.mem_cons_self)) hP hD hS
    exact h H1 locs1 σ lc hH1 hl (fun q hq => jokv_set (ho q hq)) fun w hw => jokv_set (hst w (List.mem_cons_of_mem _ (List.mem_cons_of_mem _ hw)))
  cases fin with
  | false => exact va_put (C := q.1) (T := q.2.1) (N := q.2.2) (ref := (q.2.1 j).1) (index := idx) hx hb hts hq ty0 hty hnm hown hK hH.1 hH.2.1 hH.2.2.1 i he hc j hjN (hts _ hl0) (fun _ hz => hz) hfin hd (hn σ) (hfit σ) (by rw [jfs_len]; exact hj) d kk
  | true => exact va_putF (C := q.1) (T := q.2.1) (N := q.2.2) (ref := (q.2.1 j).1) (index := idx) hx hb hts hq ty0 hty hnm hown hK hH.1 hH.2.1 hH.2.2.1 i he hc j hjN (hts _ hl0) (fun _ hz => hz) hfin (hin rfl) (hdecl rfl) hd (hn σ) (hfit σ) (by rw [jfs_len]; exact hj) d kk
/-- an int field -/
theorem J_putI (C : jC X cc own) {idx i ci j : Nat} {rf : List (Option (Option Nat))} {fin : Bool} {v jI' : Int} (hm : jput own idx ci j .int fin) (hin : fin = true → (xM X).name = "<init>") (hs : S[i]? = some (.inl (ci, rf))) (hf : rf[j]? = some none) (hji : (j : Int) = jI') (d : decode cc pc = .ok (.putfield idx, 3))
    (h : J X S (jup μ i jI' v) k n (pc + 3) ls st) : J X S μ k n pc ls (jI v :: jR i :: st) := by
  subst hji
  refine J_put (μ' := jup μ i j v) (rf' := rf) C hm hin hs (List.getElem?_eq_some_iff.mp hf).1 (fun σ => rfl) (fun σ => rfl) (fun σ => jfs_put hf) jup_ne (fun h1 h2 => ?_) d ?_
  · rw [jw_self hs]
    exact jup_ok h1 hs h2
  · rw [jw_self hs]
    exact h
/-- a boolean field -/
theorem J_putZ (C : jC X cc own) {idx i ci j : Nat} {rf : List (Option (Option Nat))} {v jI' : Int} {T : Option α} {r : α} (hm : jput own idx ci j .boolean false) (hs : S[i]? = some (.inl (ci, rf))) (hf : rf[j]? = some none) (hji : (j : Int) = jI') (hg : (if v = 0 ∨ v = 1 then T else none) = some r) (d : decode cc pc = .ok (.putfield idx, 3))
    (h : T = some r → J X S (jup μ i jI' v) k n (pc + 3) ls st) : J X S μ k n pc ls (jI v :: jR i :: st) := by
  subst hji
  obtain ⟨hz, hg⟩ := jgd hg
  refine J_put (μ' := jup μ i j v) (rf' := rf) C hm (fun z => by cases z) hs (List.getElem?_eq_some_iff.mp hf).1 (fun σ => j_zn2 hz) (fun σ => j_zf hz) (fun σ => jfs_put hf) jup_ne (fun h1 h2 => ?_) d ?_
  · rw [jw_self hs]
    exact jup_ok h1 hs h2
  · rw [jw_self hs]
    exact h hg
def jrefty : FieldType → Bool
  | .object _ => true
  | .array _ => true
  | _ => false
theorem jok_setr {i ci : Nat} {rf rf' : List (Option (Option Nat))} (h : jok S μ) (hs : S[i]? = some (.inl (ci, rf))) : jok (S.set i (.inl (ci, rf'))) μ := by
  refine ⟨by rw [List.length_set]; exact h.1, fun c s hc x => ?_⟩
  by_cases hi : c = i
  · subst hi
    rw [List.getElem?_set_self (List.getElem?_eq_some_iff.mp hs).1] at hc
    cases hc
    exact h.2 c _ hs x
  · rw [List.getElem?_set_ne (Ne.symm hi)] at hc
    exact h.2 c s hc x
/-- a field that refers to something -/
theorem J_putR (C : jC X cc own) {idx i ci j x : Nat} {rf rf' : List (Option (Option Nat))} {S' : List jSh} {ty : FieldType} {fin : Bool} (hm : jput own idx ci j ty fin) (hty : jrefty ty = true) (hin : fin = true → (xM X).name = "<init>") (hs : S[i]? = some (.inl (ci, rf))) (hj : j < rf.length) (hr : rf.set j (some (some x)) = rf') (hS : S.set i (.inl (ci, rf')) = S') (d : decode cc pc = .ok (.putfield idx, 3))
    (h : J X S' μ k n (pc + 3) ls st) : J X S μ k n pc ls (jR x :: jR i :: st) := by
  subst hr hS
  refine J_put (μ' := μ) (rf' := rf.set j (some (some x))) (v := jR x) C hm hin hs hj (fun σ => ?_) (fun σ => ?_) (fun σ => jfs_putr hj) (fun _ _ _ => rfl) (fun h1 h2 => jok_setr h1 hs) d h
  · cases ty <;> first | rfl | cases hty
  · cases ty <;> first | rfl | cases hty
theorem jzr_ok {sh : jSh} (h : jok S μ) (hl : S.length + 1 ≤ 100000) : jok (S ++ [sh]) (jzr μ S.length) := by
  refine ⟨by rw [List.length_append]; exact hl, fun c s hc x => ?_⟩
  unfold jzr
  by_cases hi : c = S.length
  · rw [if_pos hi]
    unfold jok1
    split
    · unfold jLn; omega
    · unfold jIn; omega
  · rw [if_neg hi]
    have hlt : c < S.length := by
      have := (List.getElem?_eq_some_iff.mp hc).1
      rw [List.length_append] at this
      simp at this
      omega
    rw [List.getElem?_append_left hlt] at hc
    exact h.2 c s hc x
theorem jv_ext {σ σ' : Nat → Nat} {v : jA} (hv : jokv S v) (h : ∀ c, c < S.length ∨ jXS ≤ c → σ' c = σ c) : jv σ' v = jv σ v := by
  rcases v with z | z | _ | q
  · rfl
  · rfl
  · rfl
  · show Value.ref _ = Value.ref _
    rw [h q hv]
theorem jlv_ext {σ σ' : Nat → Nat} (hv : ∀ q ∈ ls, jokv S q.2) (h : ∀ c, c < S.length ∨ jXS ≤ c → σ' c = σ c) : jlv σ' ls = jlv σ ls := by
  unfold jlv
  apply List.map_congr_left
  intro q hq
  rw [jv_ext (hv q hq) h]
theorem jst_ext {σ σ' : Nat → Nat} (hv : ∀ v ∈ st, jokv S v) (h : ∀ c, c < S.length ∨ jXS ≤ c → σ' c = σ c) : st.map (jv σ') = st.map (jv σ) := by
  apply List.map_congr_left
  intro q hq
  exact jv_ext (hv q hq) h
theorem jokv_app {v : jA} {S' : List jSh} (h : jokv S v) (hl : S.length ≤ S'.length) : jokv S' v := by
  rcases v with z | z | _ | q
  · exact h
  · exact h
  · exact h
  · show q < S'.length ∨ jXS ≤ q
    rcases h with h | h
    · exact Or.inl (by omega)
    · exact Or.inr h
theorem je_ext {G : jG} {σ σ' : Nat → Nat} {μ μ' : jMu} {c : Nat} {sh : jSh} (hcl : ∀ ci rf, sh = .inl (ci, rf) → ∀ j x : Nat, rf[j]? = some (some (some x)) → σ' x = σ x) (hm : μ' c = μ c) : je G σ' μ' c sh = je G σ μ c sh := by
  rcases sh with ⟨ci, rf⟩ | ⟨ak, len⟩
  · show (Sum.inr (ci, jfs σ' μ' c rf) : va_E) = Sum.inr (ci, jfs σ μ c rf)
    refine congrArg (fun z => (Sum.inr (ci, z) : va_E)) ?_
    apply List.ext_getElem?
    intro q
    unfold jfs
    rw [List.getElem?_mapIdx, List.getElem?_mapIdx]
    cases hq : rf[q]? with
    | none => rfl
    | some f =>
      rcases f with _ | _ | x
      · simp only [Option.map_some, jf, hm]
      · rfl
      · simp only [Option.map_some, jf, hcl ci rf rfl q x hq]
  · simp only [je, jarr, hm]
/-- the world with one cell more -/
theorem jw_grow {G : jG} {σ : Nat → Nat} {sh : jSh} {q : Nat} {x : va_E} {μ' : jMu} (hcl : jcl S) (hl : S.length < jXS) (hx : x = je G σ μ' S.length sh) (hsh : ∀ ci rf, sh = .inl (ci, rf) → ∀ j y : Nat, rf[j]? ≠ some (some (some y))) (hm : ∀ c, c ≠ S.length → μ' c = μ c) :
    (jw G σ S μ) ++ [(q, x)] = jw G (fun c => if c = S.length then q else σ c) (S ++ [sh]) μ' := by
  apply List.ext_getElem?
  intro c
  rw [jw_get]
  by_cases hk : c < S.length
  · rw [List.getElem?_append_left (by rw [jw_len]; exact hk), List.getElem?_append_left hk, jw_get]
    cases hs : S[c]? with
    | none => rfl
    | some s =>
      simp only [Option.map_some]
      congr 2
      · rw [if_neg (by omega)]
      · refine (je_ext (fun ci rf e j y hy => ?_) (hm c (by omega))).symm
        subst e
        have := hcl c ci rf hs j y hy
        show (if y = S.length then q else σ y) = σ y
        rw [if_neg (by omega)]
  · rw [List.getElem?_append_right (by rw [jw_len]; omega), List.getElem?_append_right (by omega), jw_len]
    by_cases he : c = S.length
    · subst he
      simp only [Nat.sub_self, List.getElem?_cons_zero, Option.map_some, if_true]
      rw [hx]
      exact congrArg (fun z => some (q, z)) (je_ext (fun ci rf e j y hy => absurd hy (hsh ci rf e j y)) rfl).symm
    · rw [List.getElem?_eq_none (by simp; omega), List.getElem?_eq_none (by simp; omega)]
      rfl
/-- a new cell comes -/
theorem jH_push {sh : jSh} {q : Nat} {x : va_E} {H H1 : Heap} {locs : List Loc} {σ : Nat → Nat} {μ' : jMu} (hcl : jcl S) (hl : S.length + 1 ≤ 100000) (hn : xn X ≤ S.length) (hH : jH X S μ H locs σ) (hx : x = je (xG X) σ μ' S.length sh) (hsh : ∀ ci rf, sh = .inl (ci, rf) → ∀ j y : Nat, rf[j]? ≠ some (some (some y))) (hm : ∀ c, c ≠ S.length → μ' c = μ c) (hok : jok (S ++ [sh]) μ')
    (hP : va_P (gD (xG X)) vwCl ((jw (xG X) σ S μ) ++ [(q, x)]) H1) (hD : va_D (gA (xG X)) ((jw (xG X) σ S μ) ++ [(q, x)])) (hS : va_S (gA (xG X)) (xs X).heap H1 locs) : jH X (S ++ [sh]) μ' H1 locs (fun c => if c = S.length then q else σ c) := by
  rw [jw_grow hcl (by unfold jXS; omega) hx hsh hm] at hP hD
  refine ⟨hP, hD, hS, hok, ⟨?_, fun i hi => ?_, fun i hi => ?_⟩, fun i hi => ?_⟩
  · show (if jXS = S.length then q else σ jXS) = _
    rw [if_neg (by unfold jXS; omega)]
    exact hH.2.2.2.2.1.1
  · show (if jXK + i = S.length then q else σ (jXK + i)) = _
    rw [if_neg (by unfold jXK; omega)]
    exact hH.2.2.2.2.1.2.1 i hi
  · show (if jXB + i = S.length then q else σ (jXB + i)) = _
    rw [if_neg (by unfold jXB; omega)]
    exact hH.2.2.2.2.1.2.2 i hi
  · show (if i = S.length then q else σ i) = _
    rw [if_neg (by unfold jXS at hi; omega)]
    exact hH.2.2.2.2.2 i hi
end ROWS3
