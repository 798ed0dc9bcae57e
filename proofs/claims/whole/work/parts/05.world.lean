/-! the words of the tables that are good anywhere: every contract asks for these, behind its own code -/
def jWG : List Cond := lw_tbl.filter goodWord
theorem j_m {w : Cond} (h : w ∈ lw_tbl) (g : goodWord w = true) : w ∈ jWG := List.mem_filter.mpr ⟨h, g⟩
theorem j_mt {w : Cond} (h : w ∈ tables_1) (g : goodWord w = true) : w ∈ jWG := j_m (List.mem_append_right _ h) g
theorem j_c0 {w : Cond} (i : Nat) (h : (k2_sels lw_privs)[i]? = some w) (g : goodWord w = true) : w ∈ jWG := j_m (List.mem_append_left _ (List.mem_of_getElem? h)) g
theorem j_c1 {w : Cond} (i : Nat) (h : tables_1_1[i]? = some w) (g : goodWord w = true) : w ∈ jWG := j_mt (List.mem_append_left _ (List.mem_of_getElem? h)) g
theorem j_c2 {w : Cond} (i : Nat) (h : tables_1_2[i]? = some w) (g : goodWord w = true) : w ∈ jWG := j_mt (List.mem_append_right _ (List.mem_append_left _ (List.mem_of_getElem? h))) g
theorem j_c3 {w : Cond} (i : Nat) (h : tables_1_3[i]? = some w) (g : goodWord w = true) : w ∈ jWG := j_mt (List.mem_append_right _ (List.mem_append_right _ (List.mem_append_left _ (List.mem_of_getElem? h)))) g
theorem j_c4 {w : Cond} (i : Nat) (h : tables_1_4[i]? = some w) (g : goodWord w = true) : w ∈ jWG := j_mt (List.mem_append_right _ (List.mem_append_right _ (List.mem_append_right _ (List.mem_append_left _ (List.mem_of_getElem? h))))) g
theorem j_c5 {w : Cond} (i : Nat) (h : tables_1_5[i]? = some w) (g : goodWord w = true) : w ∈ jWG := j_mt (List.mem_append_right _ (List.mem_append_right _ (List.mem_append_right _ (List.mem_append_right _ (List.mem_append_left _ (List.mem_of_getElem? h)))))) g
theorem j_c6 {w : Cond} (i : Nat) (h : tables_1_6[i]? = some w) (g : goodWord w = true) : w ∈ jWG := j_mt (List.mem_append_right _ (List.mem_append_right _ (List.mem_append_right _ (List.mem_append_right _ (List.mem_append_right _ (List.mem_append_left _ (List.mem_of_getElem? h))))))) g
theorem j_c7 {w : Cond} (i : Nat) (h : tables_1_7[i]? = some w) (g : goodWord w = true) : w ∈ jWG := j_mt (List.mem_append_right _ (List.mem_append_right _ (List.mem_append_right _ (List.mem_append_right _ (List.mem_append_right _ (List.mem_append_right _ (List.mem_append_left _ (List.mem_of_getElem? h)))))))) g
theorem j_c8 {w : Cond} (i : Nat) (h : tables_1_8[i]? = some w) (g : goodWord w = true) : w ∈ jWG := j_mt (List.mem_append_right _ (List.mem_append_right _ (List.mem_append_right _ (List.mem_append_right _ (List.mem_append_right _ (List.mem_append_right _ (List.mem_append_right _ (List.mem_of_getElem? h)))))))) g
theorem j_wgood {w : Cond} (h : w ∈ jWG) : (w.onTables && w.keeps) = true ∨ ∃ ty, w = .arrayClass ty := good_of_word (List.mem_filter.mp h).2
/-- every word of every class's fields is among them -/
theorem j_cls : ∀ q ∈ vwCl, ∀ w ∈ u_ws q.1 q.2.1 q.2.2, w ∈ jWG := by
  have h : vwCl.all (fun q => (u_ws q.1 q.2.1 q.2.2).all (fun w => decide (w ∈ lw_tbl) && goodWord w)) = true := by decide +kernel
  intro q hq w hw
  have h1 := List.all_eq_true.mp (List.all_eq_true.mp h q hq) w hw
  simp only [Bool.and_eq_true, decide_eq_true_eq] at h1
  exact j_m h1.1 h1.2

/-! values, memory, shapes: an int is a whole number, a reference is the place of a cell -/
abbrev jA : Type := Int ⊕ (Int ⊕ Option Nat)
abbrev jI (z : Int) : jA := .inl z
abbrev jL (z : Int) : jA := .inr (.inl z)
abbrev jR (n : Nat) : jA := .inr (.inr (some n))
abbrev jN : jA := .inr (.inr none)
abbrev jMu : Type := Nat → Int → Int
/-- a cell's shape: an object (its class's place, of each field none for a number, or what it refers to), or an array (0 of ints, 1 of booleans, 2 of longs; its length) -/
abbrev jSh : Type := (Nat × List (Option (Option Nat))) ⊕ (Nat × Nat)
/-- places that are no cell of the world: the script, the String constants, a caught exception -/
def jXS : Nat := 1000000
def jXK : Nat := 1000001
def jXB : Nat := 1000100
def jXE : Nat := 1000500
def jv (σ : Nat → Nat) : jA → Value
  | .inl z => .int (Int32.ofInt z)
  | .inr (.inl z) => .long (Int64.ofInt z)
  | .inr (.inr none) => .null
  | .inr (.inr (some n)) => .ref (σ n)
def jf (σ : Nat → Nat) (μ : jMu) (i : Nat) (j : Nat) : Option (Option Nat) → Value
  | none => .int (Int32.ofInt (μ i j))
  | some none => .null
  | some (some n) => .ref (σ n)
def jfs (σ : Nat → Nat) (μ : jMu) (i : Nat) (rf : List (Option (Option Nat))) : List Value := rf.mapIdx (jf σ μ i)
/-- what is fixed over one call of the law: classes and slots, the classes of arrays, the first new address, the script, the String constants -/
abbrev jG : Type := va_G × (Nat → ClassId) × Nat × Nat × Nat × (Nat → Int32) × (Nat → Nat) × (Nat → Nat)
def gD (G : jG) : va_G := G.1
def gC (G : jG) : Nat → ClassId := G.2.1
def gB (G : jG) : Nat := G.2.2.1
def gS (G : jG) : Nat := G.2.2.2.1
def gL (G : jG) : Nat := G.2.2.2.2.1
def gX (G : jG) : Nat → Int32 := G.2.2.2.2.2.1
def gK (G : jG) : Nat → Nat := G.2.2.2.2.2.2.1
def gV (G : jG) : Nat → Nat := G.2.2.2.2.2.2.2
def gA (G : jG) : Nat → Prop := fun q => gB G ≤ q
def jarr (μ : jMu) (i : Nat) (ak : Nat) : (Nat → Int32) ⊕ (Nat → Int64) ⊕ (Nat → UInt32) ⊕ (Nat → UInt64) ⊕ (Nat → Option Nat) :=
  match ak with
  | 2 => .inr (.inl (fun j => Int64.ofInt (μ i j)))
  | _ => .inl (fun j => Int32.ofInt (μ i j))
def je (G : jG) (σ : Nat → Nat) (μ : jMu) (i : Nat) : jSh → va_E
  | .inl (ci, rf) => .inr (ci, jfs σ μ i rf)
  | .inr (ak, len) => .inl (gC G ak, len, jarr μ i ak)
def jw (G : jG) (σ : Nat → Nat) (S : List jSh) (μ : jMu) : va_W := S.mapIdx (fun i sh => (σ i, je G σ μ i sh))
def jty (G : jG) : List (ClassId × FieldType) := [(gC G 0, .int), (gC G 1, .boolean), (gC G 2, .long)]
theorem jw_at {G : jG} {σ : Nat → Nat} {S : List jSh} {μ : jMu} {i : Nat} {sh : jSh} (h : S[i]? = some sh) : (jw G σ S μ)[i]? = some (σ i, je G σ μ i sh) := by
  unfold jw
  rw [List.getElem?_mapIdx, h]
  rfl
theorem jw_len {G : jG} {σ : Nat → Nat} {S : List jSh} {μ : jMu} : (jw G σ S μ).length = S.length := by
  unfold jw
  exact List.length_mapIdx
theorem jw_get {G : jG} {σ : Nat → Nat} {S : List jSh} {μ : jMu} (k : Nat) : (jw G σ S μ)[k]? = (S[k]?).map (fun sh => (σ k, je G σ μ k sh)) := by
  unfold jw
  exact List.getElem?_mapIdx
/-- one cell's numbers change -/
theorem jw_set {G : jG} {σ : Nat → Nat} {S : List jSh} {μ μ' : jMu} {i : Nat} {sh sh' : jSh} {x : va_E} (h : S[i]? = some sh) (hx : x = je G σ μ' i sh') (hk : ∀ k, k ≠ i → ∀ j, μ' k j = μ k j) : (jw G σ S μ).set i (σ i, x) = jw G σ (S.set i sh') μ' := by
  subst hx
  have hl := (List.getElem?_eq_some_iff.mp h).1
  apply List.ext_getElem?
  intro k
  rw [jw_get]
  by_cases hki : k = i
  · subst hki
    rw [List.getElem?_set_self (by rw [jw_len]; exact hl), List.getElem?_set_self hl]
    rfl
  · rw [List.getElem?_set_ne (Ne.symm hki), List.getElem?_set_ne (Ne.symm hki), jw_get]
    cases hs : S[k]? with
    | none => rfl
    | some sh1 =>
      have hm : μ k = μ' k := funext fun j => (hk k hki j).symm
      simp only [Option.map_some]
      congr 2
      cases sh1 with
      | inl o => simp only [je, jfs]; congr 2; congr 1; funext j f; simp only [jf, hm]
      | inr a => simp only [je, jarr, hm]
theorem jw_self {S : List jSh} {i : Nat} {sh : jSh} (h : S[i]? = some sh) : S.set i sh = S := by
  apply List.ext_getElem?
  intro k
  by_cases hki : k = i
  · subst hki
    rw [List.getElem?_set_self (List.getElem?_eq_some_iff.mp h).1, h]
  · rw [List.getElem?_set_ne (Ne.symm hki)]
theorem jw_push {G : jG} {σ σ' : Nat → Nat} {S : List jSh} {μ μ' : jMu} {sh : jSh} {q : Nat} {x : va_E} (hq : σ' S.length = q) (hx : x = je G σ' μ' S.length sh) (hs : ∀ k, k < S.length → (σ' k, je G σ' μ' k) = (σ k, je G σ μ k)) : (jw G σ S μ) ++ [(q, x)] = jw G σ' (S ++ [sh]) μ' := by
  subst hq hx
  apply List.ext_getElem?
  intro k
  rw [jw_get]
  by_cases hk : k < S.length
  · rw [List.getElem?_append_left (by rw [jw_len]; exact hk), List.getElem?_append_left hk, jw_get]
    have h1 := hs k hk
    rw [Prod.mk.injEq] at h1
    rw [h1.1, h1.2]
  · rw [List.getElem?_append_right (by rw [jw_len]; omega), List.getElem?_append_right (by omega), jw_len]
    by_cases he : k = S.length
    · subst he
      simp
    · have : k - S.length ≠ 0 := by omega
      rw [List.getElem?_eq_none (by simp; omega), List.getElem?_eq_none (by simp; omega)]
      rfl
/-- every number is one of its cell's kind -/
def jok1 : jSh → Int → Prop
  | .inr (2, _), z => jLn z
  | _, z => jIn z
def jok (S : List jSh) (μ : jMu) : Prop := S.length ≤ 100000 ∧ ∀ (i : Nat) (sh : jSh), S[i]? = some sh → ∀ j : Int, jok1 sh (μ i j)
def jokv (S : List jSh) : jA → Prop
  | .inl z => jIn z
  | .inr (.inl z) => jLn z
  | .inr (.inr none) => True
  | .inr (.inr (some n)) => n < S.length ∨ jXS ≤ n
def nJS : Nat := 19
def jlit : List (String × Nat × String) := [("BridgePaint$Reader", 94, "stop dry holds pay if or and not wet train nest day hour wind heat height side "), ("BridgePaint$Reader", 107, "();+<>"), ("BridgePaintModel", 158, "stop"), ("BridgePaintModel", 160, "dry"), ("BridgePaintModel", 162, "holds"), ("BridgePaintModel", 164, "pay"), ("BridgePaintModel", 166, "if"), ("BridgePaintModel", 136, "not"), ("BridgePaintModel", 117, "wet"), ("BridgePaintModel", 123, "train"), ("BridgePaintModel", 128, "nest"), ("BridgePaintModel", 94, "day"), ("BridgePaintModel", 100, "hour"), ("BridgePaintModel", 102, "wind"), ("BridgePaintModel", 104, "heat"), ("BridgePaintModel", 106, "height"), ("BridgePaintModel", 108, "side"), ("BridgePaintModel", 151, "and"), ("BridgePaintModel", 156, "or")]
/-- a literal's signs, as whole numbers -/
def jtx (k : Nat) : List Int := ((jlit.getD k ("", 0, "")).2.2.toList).map (fun c => (c.toNat : Int))
def jbyt : List (List Int32) := (List.range 19).map (fun k => (jtx k).map Int32.ofInt)
def jlen : List Nat := (List.range 19).map (fun k => (jtx k).length)
def jZ (G : jG) (U : State) (H : Heap) : Prop := va_Z "java/lang/String" "COMPACT_STRINGS" "Z" (.int 1) (gA G) U H ∧ (va_Z "jdk/internal/util/Preconditions" "SIOOBE_FORMATTER" "Ljava/util/function/BiFunction;" .null (gA G) U H ∨ va_Z "jdk/internal/util/Preconditions" "SIOOBE_FORMATTER" "Ljava/util/function/BiFunction;" (.ref (gV G 100)) (gA G) U H) ∧ vx_Zq Bundle.tN "UNASSIGNED_STACK" Bundle.steD (gA G) U H ∧ vx_Zq Bundle.tN "SUPPRESSED_SENTINEL" Bundle.listD (gA G) U H
def jexs : List String := ["java/lang/IndexOutOfBoundsException", "java/lang/IllegalArgumentException", "java/lang/UnsupportedOperationException", "java/util/NoSuchElementException"]
/-- which classes an exception can be taken for, and which not -/
def jEx (U : State) : Prop := (∀ a ∈ jexs, va_Nw (.castable a a) U ∧ va_Nw (.castable a "java/lang/Object") U ∧ ∀ b ∈ jexs, a ≠ b → va_Nc a b U) ∧ va_Nw (.castable "java/lang/Throwable" "java/lang/Object") U ∧ ∀ x ∈ ["java/lang/RuntimeException", "java/lang/Exception", "java/lang/Throwable"], va_Nw (.declares (Bundle.init0 x)) U
theorem jEx.go {u U : State} (hvm : u.vm.Alike U.vm) (hW : u.WarmedH U.vm) (h : jEx u) : jEx U :=
  ⟨fun a ha => ⟨va_Nw.warmC hW (h.1 a ha).1, va_Nw.warmC hW (h.1 a ha).2.1, fun b hb hab => va_Nc.moved hvm ((h.1 a ha).2.2 b hb hab)⟩, va_Nw.warmC hW h.2.1, fun x hx => va_Nw.warmD hW (h.2.2 x hx)⟩
/-- what lies ahead of the world: the script, the literals, the statics -/
def jFz (G : jG) (U : State) (H : Heap) : Prop :=
  va_X (gS G) (gL G) (gX G) U H ∧ gS G < gB G ∧ gL G ≤ 3584 ∧ vk_S 19 jlen jbyt (gK G) (gV G) (gA G) U H ∧ (∀ (i : Nat) (q : String × Nat × String), jlit[i]? = some q → vk_R q.1 q.2.1 q.2.2 (gK G i) U) ∧ jZ G U H ∧ gB G ≤ H.size ∧ jEx U
def joks (G : jG) (σ : Nat → Nat) : Prop := σ jXS = gS G ∧ (∀ i, i < 19 → σ (jXK + i) = gK G i) ∧ ∀ i, i < 101 → σ (jXB + i) = gV G i
/-- the world at a state -/
def jWd (G : jG) (σ : Nat → Nat) (S : List jSh) (μ : jMu) (U : State) : Prop :=
  va_P (gD G) vwCl (jw G σ S μ) U.heap ∧ va_D (gA G) (jw G σ S μ) ∧ va_K (gD G) vwCl (jty G) U ∧ jok S μ ∧ joks G σ ∧ jFz G U U.heap
theorem jFz.go {G : jG} {u U : State} {H H1 : Heap} (hvm : u.vm.Alike U.vm) (hW : u.WarmedH U.vm) (h : jFz G u H) (hz : H.size ≤ H1.size) (hq : ∀ a : Nat, a < H.size → ¬ gA G a → H1[a]? = H[a]?) : jFz G U H1 := by
  obtain ⟨h1, h2, h3, h4, h5, ⟨h6, h7, h8, h9⟩, h10, h11⟩ := h
  refine ⟨(va_X.moved hvm h1).kept (hq _ (by omega) (fun z => by unfold gA at z; omega)), h2, h3, vk_S.kept (vk_S.moved hvm h4) hq, fun i q hi => vk_R.warm hW (h5 i q hi), ⟨va_Z.kept (va_Z.moved hvm h6) hq, h7.imp (fun h => va_Z.kept (va_Z.moved hvm h) hq) (fun h => va_Z.kept (va_Z.moved hvm h) hq), vx_Zq.kept (vx_Zq.moved hvm h8) hq, vx_Zq.kept (vx_Zq.moved hvm h9) hq⟩, by omega, jEx.go hvm hW h11⟩
