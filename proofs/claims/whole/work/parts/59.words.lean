/-! the words of the start, each by its place -/
theorem j_d1 {w : Cond} (i : Nat) (h : tables_1_1[i]? = some w) : w ∈ lw_tbl := List.mem_append_right _ (List.mem_append_left _ (List.mem_of_getElem? h))
theorem j_d2 {w : Cond} (i : Nat) (h : tables_1_2[i]? = some w) : w ∈ lw_tbl := List.mem_append_right _ (List.mem_append_right _ (List.mem_append_left _ (List.mem_of_getElem? h)))
theorem j_d3 {w : Cond} (i : Nat) (h : tables_1_3[i]? = some w) : w ∈ lw_tbl := List.mem_append_right _ (List.mem_append_right _ (List.mem_append_right _ (List.mem_append_left _ (List.mem_of_getElem? h))))
theorem j_d4 {w : Cond} (i : Nat) (h : tables_1_4[i]? = some w) : w ∈ lw_tbl := List.mem_append_right _ (List.mem_append_right _ (List.mem_append_right _ (List.mem_append_right _ (List.mem_append_left _ (List.mem_of_getElem? h)))))
theorem j_d5 {w : Cond} (i : Nat) (h : tables_1_5[i]? = some w) : w ∈ lw_tbl := List.mem_append_right _ (List.mem_append_right _ (List.mem_append_right _ (List.mem_append_right _ (List.mem_append_right _ (List.mem_append_left _ (List.mem_of_getElem? h))))))
theorem j_d6 {w : Cond} (i : Nat) (h : tables_1_6[i]? = some w) : w ∈ lw_tbl := List.mem_append_right _ (List.mem_append_right _ (List.mem_append_right _ (List.mem_append_right _ (List.mem_append_right _ (List.mem_append_right _ (List.mem_append_left _ (List.mem_of_getElem? h)))))))
theorem j_d7 {w : Cond} (i : Nat) (h : tables_1_7[i]? = some w) : w ∈ lw_tbl := List.mem_append_right _ (List.mem_append_right _ (List.mem_append_right _ (List.mem_append_right _ (List.mem_append_right _ (List.mem_append_right _ (List.mem_append_right _ (List.mem_append_left _ (List.mem_of_getElem? h))))))))
theorem j_d8 {w : Cond} (i : Nat) (h : tables_1_8[i]? = some w) : w ∈ lw_tbl := List.mem_append_right _ (List.mem_append_right _ (List.mem_append_right _ (List.mem_append_right _ (List.mem_append_right _ (List.mem_append_right _ (List.mem_append_right _ (List.mem_append_right _ ((List.mem_of_getElem? h)))))))))
def jNW : List Cond := flatC narrow_1
def jtm (i : Nat) : Term := Term.string (jlit.getD i ("", 0, "")).1 (jlit.getD i ("", 0, "")).2.1
/-- what narrow_1 says of the i-th literal, in its order -/
def jblk (i : Nat) : List Cond := [Cond.exactly (jtm i) "java/lang/String", Cond.eq (.field (jtm i) "java/lang/String" "coder" "B") (.int 0), Cond.arrayOf (.field (jtm i) "java/lang/String" "value" "[B") .byte, Cond.eq (.length (.field (jtm i) "java/lang/String" "value" "[B")) (.int (Int32.ofNat (jlen.getD i 0)))] ++ (List.range (jlen.getD i 0)).map (fun j => Cond.eq (.elem (.field (jtm i) "java/lang/String" "value" "[B") (.int (Int32.ofNat j))) (.int ((jbyt.getD i []).getD j 0))) ++ (List.range i).map (fun a => Cond.not (Cond.eq (jtm a) (jtm i)))
theorem jn_blk : jNW.drop 61 = (List.range 19).flatMap jblk := by decide +kernel
theorem jn_in {i : Nat} (hi : i < 19) {w : Cond} (hw : w ∈ jblk i) : w ∈ jNW := by
  refine List.mem_of_mem_drop (i := 61) ?_
  rw [jn_blk]
  exact List.mem_flatMap.mpr ⟨i, List.mem_range.mpr hi, hw⟩
theorem jn_s : ∀ i, i < 19 → (Cond.exactly (jtm i) "java/lang/String" ∈ jNW ∧ Cond.eq (.field (jtm i) "java/lang/String" "coder" "B") (.int 0) ∈ jNW ∧ Cond.arrayOf (.field (jtm i) "java/lang/String" "value" "[B") .byte ∈ jNW ∧ Cond.eq (.length (.field (jtm i) "java/lang/String" "value" "[B")) (.int (Int32.ofNat (jlen.getD i 0))) ∈ jNW) ∧ (∀ j, j < jlen.getD i 0 → Cond.eq (.elem (.field (jtm i) "java/lang/String" "value" "[B") (.int (Int32.ofNat j))) (.int ((jbyt.getD i []).getD j 0)) ∈ jNW) ∧ ∀ j, j < 19 → i ≠ j → Cond.not (Cond.eq (jtm i) (jtm j)) ∈ jNW ∨ Cond.not (Cond.eq (jtm j) (jtm i)) ∈ jNW := by
  intro i hi
  refine ⟨⟨jn_in hi ?_, jn_in hi ?_, jn_in hi ?_, jn_in hi ?_⟩, fun j hj => jn_in hi ?_, fun j hj hij => ?_⟩
  · exact List.mem_append_left _ (List.mem_append_left _ List.mem_cons_self)
  · exact List.mem_append_left _ (List.mem_append_left _ (List.mem_cons_of_mem _ List.mem_cons_self))
  · exact List.mem_append_left _ (List.mem_append_left _ (List.mem_cons_of_mem _ (List.mem_cons_of_mem _ List.mem_cons_self)))
  · exact List.mem_append_left _ (List.mem_append_left _ (List.mem_cons_of_mem _ (List.mem_cons_of_mem _ (List.mem_cons_of_mem _ List.mem_cons_self))))
  · exact List.mem_append_left _ (List.mem_append_right _ (List.mem_map.mpr ⟨j, List.mem_range.mpr hj, rfl⟩))
  · rcases Nat.lt_or_gt_of_ne hij with h | h
    · exact Or.inl (jn_in hj (List.mem_append_right _ (List.mem_map.mpr ⟨i, List.mem_range.mpr h, rfl⟩)))
    · exact Or.inr (jn_in hi (List.mem_append_right _ (List.mem_map.mpr ⟨j, List.mem_range.mpr h, rfl⟩)))
theorem jn_r : ∀ (i : Nat) (q : String × Nat × String), jlit[i]? = some q → Cond.stringRef q.1 q.2.1 q.2.2 ∈ lw_tbl ∧ jtm i = Term.string q.1 q.2.1 := by
  intro i q hq
  match i, hq with
  | 0, hq => cases hq; exact ⟨j_d3 124 rfl, rfl⟩
  | 1, hq => cases hq; exact ⟨j_d3 188 rfl, rfl⟩
  | 2, hq => cases hq; exact ⟨j_d6 197 rfl, rfl⟩
  | 3, hq => cases hq; exact ⟨j_d6 204 rfl, rfl⟩
  | 4, hq => cases hq; exact ⟨j_d6 205 rfl, rfl⟩
  | 5, hq => cases hq; exact ⟨j_d6 206 rfl, rfl⟩
  | 6, hq => cases hq; exact ⟨j_d6 211 rfl, rfl⟩
  | 7, hq => cases hq; exact ⟨j_d6 224 rfl, rfl⟩
  | 8, hq => cases hq; exact ⟨j_d6 233 rfl, rfl⟩
  | 9, hq => cases hq; exact ⟨j_d6 234 rfl, rfl⟩
  | 10, hq => cases hq; exact ⟨j_d6 235 rfl, rfl⟩
  | 11, hq => cases hq; exact ⟨j_d7 4 rfl, rfl⟩
  | 12, hq => cases hq; exact ⟨j_d7 5 rfl, rfl⟩
  | 13, hq => cases hq; exact ⟨j_d7 6 rfl, rfl⟩
  | 14, hq => cases hq; exact ⟨j_d7 7 rfl, rfl⟩
  | 15, hq => cases hq; exact ⟨j_d7 8 rfl, rfl⟩
  | 16, hq => cases hq; exact ⟨j_d7 9 rfl, rfl⟩
  | 17, hq => cases hq; exact ⟨j_d7 10 rfl, rfl⟩
  | 18, hq => cases hq; exact ⟨j_d7 11 rfl, rfl⟩
  | i + 19, hq => cases hq
theorem jn_x : (∀ a ∈ jexs, Cond.castable a a ∈ lw_tbl ∧ Cond.castable a "java/lang/Object" ∈ lw_tbl ∧ ∀ b ∈ jexs, a ≠ b → Cond.not (.castable a b) ∈ jNW) ∧ Cond.castable "java/lang/Throwable" "java/lang/Object" ∈ lw_tbl ∧ ∀ x ∈ ["java/lang/RuntimeException", "java/lang/Exception", "java/lang/Throwable"], Cond.declares (Bundle.init0 x) ∈ lw_tbl := by
  refine ⟨List.forall_mem_cons.mpr ⟨⟨j_d3 52 rfl, j_d8 102 rfl, List.forall_mem_cons.mpr ⟨fun h => absurd rfl h, List.forall_mem_cons.mpr ⟨fun _ => List.mem_of_getElem? (i := 20) rfl, List.forall_mem_cons.mpr ⟨fun _ => List.mem_of_getElem? (i := 33) rfl, List.forall_mem_cons.mpr ⟨fun _ => List.mem_of_getElem? (i := 60) rfl, fun _ h => nomatch h⟩⟩⟩⟩⟩, List.forall_mem_cons.mpr ⟨⟨j_d2 182 rfl, j_d8 100 rfl, List.forall_mem_cons.mpr ⟨fun _ => List.mem_of_getElem? (i := 45) rfl, List.forall_mem_cons.mpr ⟨fun h => absurd rfl h, List.forall_mem_cons.mpr ⟨fun _ => List.mem_of_getElem? (i := 32) rfl, List.forall_mem_cons.mpr ⟨fun _ => List.mem_of_getElem? (i := 58) rfl, fun _ h => nomatch h⟩⟩⟩⟩⟩, List.forall_mem_cons.mpr ⟨⟨j_d3 21 rfl, j_d8 101 rfl, List.forall_mem_cons.mpr ⟨fun _ => List.mem_of_getElem? (i := 46) rfl, List.forall_mem_cons.mpr ⟨fun _ => List.mem_of_getElem? (i := 19) rfl, List.forall_mem_cons.mpr ⟨fun h => absurd rfl h, List.forall_mem_cons.mpr ⟨fun _ => List.mem_of_getElem? (i := 59) rfl, fun _ h => nomatch h⟩⟩⟩⟩⟩, List.forall_mem_cons.mpr ⟨⟨j_d4 74 rfl, j_d8 103 rfl, List.forall_mem_cons.mpr ⟨fun _ => List.mem_of_getElem? (i := 47) rfl, List.forall_mem_cons.mpr ⟨fun _ => List.mem_of_getElem? (i := 21) rfl, List.forall_mem_cons.mpr ⟨fun _ => List.mem_of_getElem? (i := 34) rfl, List.forall_mem_cons.mpr ⟨fun h => absurd rfl h, fun _ h => nomatch h⟩⟩⟩⟩⟩, fun _ h => nomatch h⟩⟩⟩⟩, j_d8 104 rfl, List.forall_mem_cons.mpr ⟨j_d2 183 rfl, List.forall_mem_cons.mpr ⟨j_d2 185 rfl, List.forall_mem_cons.mpr ⟨j_d2 187 rfl, fun _ h => nomatch h⟩⟩⟩⟩
theorem jn_z : (Cond.eq (.static "java/lang/String" "COMPACT_STRINGS" "Z") (.int 1) ∈ jNW ∧ Cond.isRef (.static "jdk/internal/util/Preconditions" "SIOOBE_FORMATTER" "Ljava/util/function/BiFunction;") ∈ jNW ∧ Cond.isRef (.static Bundle.tN "UNASSIGNED_STACK" Bundle.steD) ∈ jNW ∧ Cond.isRef (.static Bundle.tN "SUPPRESSED_SENTINEL" Bundle.listD) ∈ jNW) ∧ (Cond.laysStatic "java/lang/String" "COMPACT_STRINGS" "Z" ∈ lw_tbl ∧ Cond.laysStatic "jdk/internal/util/Preconditions" "SIOOBE_FORMATTER" "Ljava/util/function/BiFunction;" ∈ lw_tbl ∧ Cond.laysStatic Bundle.tN "UNASSIGNED_STACK" Bundle.steD ∈ lw_tbl ∧ Cond.laysStatic Bundle.tN "SUPPRESSED_SENTINEL" Bundle.listD ∈ lw_tbl) ∧ (Cond.initialized "java/lang/String" ∈ lw_tbl ∧ Cond.initialized "jdk/internal/util/Preconditions" ∈ lw_tbl ∧ Cond.initialized Bundle.tN ∈ lw_tbl) ∧ (Cond.arrayClass (.int) ∈ lw_tbl ∧ Cond.arrayClass (.boolean) ∈ lw_tbl ∧ Cond.arrayClass (.long) ∈ lw_tbl) :=
  ⟨⟨List.mem_of_getElem? (i := 4) rfl, List.mem_of_getElem? (i := 5) rfl, List.mem_of_getElem? (i := 2) rfl, List.mem_of_getElem? (i := 3) rfl⟩, ⟨j_d3 134 rfl, j_d3 150 rfl, j_d2 207 rfl, j_d2 209 rfl⟩, ⟨j_d1 17 rfl, j_d1 19 rfl, j_d1 11 rfl⟩, j_d1 60 rfl, j_d6 157 rfl, j_d8 88 rfl⟩
theorem jn_c : ∀ q ∈ vwCl, ∃ n, Cond.instantiable q.1 n ∈ lw_tbl := List.forall_mem_cons.mpr ⟨⟨3, j_d2 35 rfl⟩, List.forall_mem_cons.mpr ⟨⟨11, j_d1 170 rfl⟩, List.forall_mem_cons.mpr ⟨⟨2, j_d2 51 rfl⟩, List.forall_mem_cons.mpr ⟨⟨11, j_d1 210 rfl⟩, List.forall_mem_cons.mpr ⟨⟨16, j_d1 36 rfl⟩, List.forall_mem_cons.mpr ⟨⟨4, j_d1 42 rfl⟩, List.forall_mem_cons.mpr ⟨⟨2, j_d1 157 rfl⟩, List.forall_mem_cons.mpr ⟨⟨6, j_d2 10 rfl⟩, List.forall_mem_cons.mpr ⟨⟨10, j_d1 28 rfl⟩, List.forall_mem_cons.mpr ⟨⟨27, j_d6 70 rfl⟩, fun _ h => nomatch h⟩⟩⟩⟩⟩⟩⟩⟩⟩⟩
