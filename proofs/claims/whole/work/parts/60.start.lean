/-! the world at the start -/
theorem jarr_of {args : Array Value} {s : State} {ty : FieldType} (hty : va_RA s = va_RA s) (h : (Cond.arrayClass ty).before args s = true) : ∃ cA : ClassId, ArrOfT s cA ty ∧ s.vm.findClass ("[" ++ ty.toString) = some cA := by
  obtain ⟨cA, kA, comp, h1, h2, h3⟩ := Cond.arrayClass_spec h
  exact ⟨cA, fun n z => ⟨fun k h => (by cases h), kA, h2, comp, h3⟩, h1⟩
theorem jlaw_world {args : Array Value} {s : State} {b L : Nat} {xs : Nat → Int32} (hts : ∀ w ∈ lw_tbl, w.before args s = true) (hn : ∀ w ∈ jNW, w.before args s = true) (hX : va_X b L xs s s.heap) (hb : b < s.heap.size) (hL : L ≤ 3584) : ∃ G : jG, gS G = b ∧ gL G = L ∧ gX G = xs ∧ gB G = s.heap.size ∧ va_K (gD G) vwCl (jty G) s ∧ jFz G s s.heap := by
  have h0 : ∀ c : Nat, ∃ D : ClassId × (Nat → Nat), ∀ q, vwCl[c]? = some q → u_Kn s q.1 q.2.1 q.2.2 D.1 D.2 := by
    intro c
    cases hc : vwCl[c]? with
    | none => exact ⟨((0 : Nat), fun _ => 0), fun q h => by cases h⟩
    | some q =>
      obtain ⟨n, hn⟩ := jn_c q (List.mem_of_getElem? hc)
      obtain ⟨cC, iS, hk⟩ := u_known hts (fun w hw => (List.mem_filter.mp (j_cls q (List.mem_of_getElem? hc) w hw)).1) (hts _ hn)
      exact ⟨(cC, iS), fun q' h => by cases h; exact hk⟩
  obtain ⟨D, hD⟩ := Classical.axiomOfChoice h0
  obtain ⟨⟨z1, z2, z3, z4⟩, ⟨y1, y2, y3, y4⟩, ⟨x1, x2, x3⟩, w0, w1, w2⟩ := jn_z
  obtain ⟨c0, a0, b0⟩ := jarr_of rfl (hts _ w0)
  obtain ⟨c1, a1, b1⟩ := jarr_of rfl (hts _ w1)
  obtain ⟨c2, a2, b2⟩ := jarr_of rfl (hts _ w2)
  have hA : ∀ a : Nat, a < s.heap.size → ¬ (fun q => s.heap.size ≤ q) a := fun a h1 h2 => by simp only at h2; omega
  obtain ⟨adK, adV, hS, hev⟩ := vk_Sof (N := 19) (tm := jtm) (len := jlen) (byt := jbyt) (A := fun q => s.heap.size ≤ q) (fun i hi => by rw [(jtx_all i hi).1]; have := (jtx_all i hi).2.2.2.1; omega) (fun i hi => hn _ (jn_s i hi).1.1) (fun i hi => hn _ (jn_s i hi).1.2.1) (fun i hi => hn _ (jn_s i hi).1.2.2.1) (fun i hi => hn _ (jn_s i hi).1.2.2.2) (fun i hi j hj => hn _ ((jn_s i hi).2.1 j hj)) (fun i j hi hj hij => ((jn_s i hi).2.2 j hj hij).imp (hn _) (hn _)) hA
  have hf : ∃ t : Nat, va_Z "jdk/internal/util/Preconditions" "SIOOBE_FORMATTER" "Ljava/util/function/BiFunction;" .null (fun q => s.heap.size ≤ q) s s.heap ∨ va_Z "jdk/internal/util/Preconditions" "SIOOBE_FORMATTER" "Ljava/util/function/BiFunction;" (.ref t) (fun q => s.heap.size ≤ q) s s.heap := by
    rcases va_Zqof (hts _ y2) (hts _ x2) (hn _ z2) hA with h | ⟨t, h⟩
    · exact ⟨0, Or.inl h⟩
    · exact ⟨t, Or.inr h⟩
  obtain ⟨t, hf⟩ := hf
  refine ⟨((fun c => (D c).1, fun c => (D c).2), (fun k => match k with | 0 => c0 | 1 => c1 | _ => c2), s.heap.size, b, L, xs, adK, fun i => if i = 100 then t else adV i), rfl, rfl, rfl, rfl, ⟨fun c q hq => hD c q hq, fun k q hk => ?_⟩, hX, hb, hL, ⟨fun i hi => ?_, hS.2⟩, fun i q hq => ?_, ⟨va_Zof (hts _ y1) (hts _ x1) (va_eqt (hn _ z1)) hA, ?_, vx_Zqof (hts _ y3) (hts _ x3) (hn _ z3) hA, vx_Zqof (hts _ y4) (hts _ x3) (hn _ z4) hA⟩, Nat.le_refl _, ?_⟩
  · match k, hk with
    | 0, hk => cases hk; exact ⟨a0, b0⟩
    | 1, hk => cases hk; exact ⟨a1, b1⟩
    | 2, hk => cases hk; exact ⟨a2, b2⟩
    | k + 3, hk => cases hk
  · have e : (if i = 100 then t else adV i) = adV i := if_neg (by omega)
    show va_O "java/lang/String" (adK i) _ s s.heap ∧ va_OF "java/lang/String" "coder" "B" (.int 0) (adK i) _ s s.heap ∧ va_OF "java/lang/String" "value" "[B" (.ref (if i = 100 then t else adV i)) (adK i) _ s s.heap ∧ va_T .byte (if i = 100 then t else adV i) (jlen.getD i 0) (fun j => .int ((jbyt.getD i []).getD j 0)) _ s s.heap
    rw [e]
    exact hS.1 i hi
  · obtain ⟨r1, r2⟩ := jn_r i q hq
    have h2 := hev i (List.getElem?_eq_some_iff.mp hq).1
    rw [r2] at h2
    exact vk_R.of (hts _ r1) h2
  · exact hf.imp id id
  · obtain ⟨p1, p2, p3⟩ := jn_x
    exact ⟨fun a ha => ⟨va_Nw.of rfl (hts _ (p1 a ha).1), va_Nw.of rfl (hts _ (p1 a ha).2.1), fun b hb hab => va_Nc.of (hn _ ((p1 a ha).2.2 b hb hab))⟩, va_Nw.of rfl (hts _ p2), fun x hx => va_Nw.of rfl (hts _ (p3 x hx))⟩
/-- what is left to be shown, of plain functions alone: over every script the law's loop comes to its end, and finds nothing that differs -/
def jPure : Prop := ∀ (L : Int) (sx : Int → Int), 0 ≤ L → L ≤ 3584 → (∀ k, jIn (sx k)) → ∃ o, f_law_start (fun _ _ => 0) = some o ∧ f_law_L sx L 513 0 o = some ()
