/-! what the Statement gives of the start, as a world with no cells of its own -/
def jNW : List Cond := flatC narrow_1
def jtm (i : Nat) : Term := Term.string (jlit.getD i ("", 0, "")).1 (jlit.getD i ("", 0, "")).2.1
theorem jn_s : ∀ i, i < 19 → (Cond.exactly (jtm i) "java/lang/String" ∈ jNW ∧ Cond.eq (.field (jtm i) "java/lang/String" "coder" "B") (.int 0) ∈ jNW ∧ Cond.arrayOf (.field (jtm i) "java/lang/String" "value" "[B") .byte ∈ jNW ∧ Cond.eq (.length (.field (jtm i) "java/lang/String" "value" "[B")) (.int (Int32.ofNat (jlen.getD i 0))) ∈ jNW) ∧ (∀ j, j < jlen.getD i 0 → Cond.eq (.elem (.field (jtm i) "java/lang/String" "value" "[B") (.int (Int32.ofNat j))) (.int ((jbyt.getD i []).getD j 0)) ∈ jNW) ∧ ∀ j, j < 19 → i ≠ j → Cond.not (Cond.eq (jtm i) (jtm j)) ∈ jNW ∨ Cond.not (Cond.eq (jtm j) (jtm i)) ∈ jNW := by
  have h : (List.range 19).all (fun i => decide (Cond.exactly (jtm i) "java/lang/String" ∈ jNW) && decide (Cond.eq (.field (jtm i) "java/lang/String" "coder" "B") (.int 0) ∈ jNW) && decide (Cond.arrayOf (.field (jtm i) "java/lang/String" "value" "[B") .byte ∈ jNW) && decide (Cond.eq (.length (.field (jtm i) "java/lang/String" "value" "[B")) (.int (Int32.ofNat (jlen.getD i 0))) ∈ jNW) && (List.range (jlen.getD i 0)).all (fun j => decide (Cond.eq (.elem (.field (jtm i) "java/lang/String" "value" "[B") (.int (Int32.ofNat j))) (.int ((jbyt.getD i []).getD j 0)) ∈ jNW)) && (List.range 19).all (fun j => decide (i = j) || decide (Cond.not (Cond.eq (jtm i) (jtm j)) ∈ jNW) || decide (Cond.not (Cond.eq (jtm j) (jtm i)) ∈ jNW))) = true := by decide +kernel
  intro i hi
  have h1 := List.all_eq_true.mp h i (List.mem_range.mpr hi)
  simp only [Bool.and_eq_true, decide_eq_true_eq, List.all_eq_true, List.mem_range, Bool.or_eq_true] at h1
  obtain ⟨⟨⟨⟨⟨a1, a2⟩, a3⟩, a4⟩, a5⟩, a6⟩ := h1
  exact ⟨⟨a1, a2, a3, a4⟩, a5, fun j hj hij => (a6 j hj).elim (fun z => z.elim (fun e => absurd e hij) Or.inl) Or.inr⟩
theorem jn_r : ∀ (i : Nat) (q : String × Nat × String), jlit[i]? = some q → Cond.stringRef q.1 q.2.1 q.2.2 ∈ lw_tbl ∧ jtm i = Term.string q.1 q.2.1 := by
  have h : (List.range 19).all (fun i => decide (Cond.stringRef (jlit.getD i ("", 0, "")).1 (jlit.getD i ("", 0, "")).2.1 (jlit.getD i ("", 0, "")).2.2 ∈ lw_tbl)) = true := by decide +kernel
  intro i q hq
  have hi : i < 19 := (List.getElem?_eq_some_iff.mp hq).1
  have e : jlit.getD i ("", 0, "") = q := by rw [List.getD_eq_getElem?_getD, hq]; rfl
  have h1 := List.all_eq_true.mp h i (List.mem_range.mpr hi)
  rw [e] at h1
  exact ⟨of_decide_eq_true h1, by rw [jtm, e]⟩
theorem jn_x : (∀ a ∈ jexs, Cond.castable a a ∈ lw_tbl ∧ Cond.castable a "java/lang/Object" ∈ lw_tbl ∧ ∀ b ∈ jexs, a ≠ b → Cond.not (.castable a b) ∈ jNW) ∧ Cond.castable "java/lang/Throwable" "java/lang/Object" ∈ lw_tbl ∧ ∀ x ∈ ["java/lang/RuntimeException", "java/lang/Exception", "java/lang/Throwable"], Cond.declares (Bundle.init0 x) ∈ lw_tbl := by
  have h : (jexs.all (fun a => decide (Cond.castable a a ∈ lw_tbl) && decide (Cond.castable a "java/lang/Object" ∈ lw_tbl) && jexs.all (fun b => decide (a = b) || decide (Cond.not (.castable a b) ∈ jNW))) && decide (Cond.castable "java/lang/Throwable" "java/lang/Object" ∈ lw_tbl) && ["java/lang/RuntimeException", "java/lang/Exception", "java/lang/Throwable"].all (fun x => decide (Cond.declares (Bundle.init0 x) ∈ lw_tbl))) = true := by decide +kernel
  simp only [Bool.and_eq_true, decide_eq_true_eq, List.all_eq_true, Bool.or_eq_true] at h
  exact ⟨fun a ha => ⟨(h.1.1 a ha).1.1, (h.1.1 a ha).1.2, fun b hb hab => ((h.1.1 a ha).2 b hb).elim (fun e => absurd e hab) id⟩, h.1.2, h.2⟩
theorem jn_z : (Cond.eq (.static "java/lang/String" "COMPACT_STRINGS" "Z") (.int 1) ∈ jNW ∧ Cond.isRef (.static "jdk/internal/util/Preconditions" "SIOOBE_FORMATTER" "Ljava/util/function/BiFunction;") ∈ jNW ∧ Cond.isRef (.static Bundle.tN "UNASSIGNED_STACK" Bundle.steD) ∈ jNW ∧ Cond.isRef (.static Bundle.tN "SUPPRESSED_SENTINEL" Bundle.listD) ∈ jNW) ∧ (Cond.laysStatic "java/lang/String" "COMPACT_STRINGS" "Z" ∈ lw_tbl ∧ Cond.laysStatic "jdk/internal/util/Preconditions" "SIOOBE_FORMATTER" "Ljava/util/function/BiFunction;" ∈ lw_tbl ∧ Cond.laysStatic Bundle.tN "UNASSIGNED_STACK" Bundle.steD ∈ lw_tbl ∧ Cond.laysStatic Bundle.tN "SUPPRESSED_SENTINEL" Bundle.listD ∈ lw_tbl) ∧ (Cond.initialized "java/lang/String" ∈ lw_tbl ∧ Cond.initialized "jdk/internal/util/Preconditions" ∈ lw_tbl ∧ Cond.initialized Bundle.tN ∈ lw_tbl) ∧ (Cond.arrayClass (.int) ∈ lw_tbl ∧ Cond.arrayClass (.boolean) ∈ lw_tbl ∧ Cond.arrayClass (.long) ∈ lw_tbl) := by
  refine ⟨⟨?_, ?_, ?_, ?_⟩, ⟨?_, ?_, ?_, ?_⟩, ⟨?_, ?_, ?_⟩, ?_, ?_, ?_⟩ <;> decide +kernel
theorem jn_c : ∀ q ∈ vwCl, ∃ n, Cond.instantiable q.1 n ∈ lw_tbl := by
  have h : vwCl.all (fun q => (List.range 40).any (fun n => decide (Cond.instantiable q.1 n ∈ lw_tbl))) = true := by decide +kernel
  intro q hq
  have h1 := List.all_eq_true.mp h q hq
  obtain ⟨n, -, hn⟩ := List.any_eq_true.mp h1
  exact ⟨n, of_decide_eq_true hn⟩
