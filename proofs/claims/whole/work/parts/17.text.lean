/-! the String constants: what their length and their signs are -/
section TEXT
variable {X : jX} {S S' : List jSh} {μ μ' : jMu} {k n k' n' pc nL n0 : Nat} {ls ls' : List (Nat × jA)} {st st' : List jA} {cc : ByteArray} {own : String} {R rm : Room} {rt : Option FieldType} {w : Nat}
theorem jtx_all : ∀ w, w < 19 → jlen.getD w 0 = (jtl w).toNat ∧ jIn (jtl w) ∧ 0 ≤ jtl w ∧ jtl w < 1000 ∧ ∀ j, j < (jtl w).toNat → (jbyt.getD w []).getD j 0 = Int32.ofInt (jtc w j) ∧ 0 ≤ jtc w j ∧ jtc w j < 128 := by
  have h : (List.range 19).all (fun w => decide (jlen.getD w 0 = (jtl w).toNat) && decide (0 ≤ jtl w) && decide (jtl w < 1000) && (List.range (jtl w).toNat).all (fun j => decide ((jbyt.getD w []).getD j 0 = Int32.ofInt (jtc w j)) && decide (0 ≤ jtc w j) && decide (jtc w j < 128))) = true := by decide +kernel
  intro w hw
  have h1 := List.all_eq_true.mp h w (List.mem_range.mpr hw)
  simp only [Bool.and_eq_true, decide_eq_true_eq, List.all_eq_true, List.mem_range] at h1
  exact ⟨h1.1.1.1, by unfold jIn; omega, h1.1.1.2, h1.1.2, fun j hj => ⟨(h1.2 j hj).1.1, (h1.2 j hj).1.2, (h1.2 j hj).2⟩⟩
theorem jnar : ∀ z : Int, 0 ≤ z → z < 128 → narrow .char (.int (Int32.ofInt z)) = .int (Int32.ofInt z) ∧ ((Int32.ofInt z).toUInt32 % 65536).toInt32 = Int32.ofInt z ∧ jAn z 255 = z := by
  have h : (List.range 128).all (fun q => decide (narrow .char (.int (Int32.ofInt (q : Int))) = .int (Int32.ofInt (q : Int))) && decide (((Int32.ofInt (q : Int)).toUInt32 % 65536).toInt32 = Int32.ofInt (q : Int)) && decide (jAn (q : Int) 255 = (q : Int))) = true := by decide +kernel
  intro z h0 h1
  have h2 := List.all_eq_true.mp h z.toNat (List.mem_range.mpr (by omega))
  simp only [Bool.and_eq_true, decide_eq_true_eq] at h2
  have e : ((z.toNat : Nat) : Int) = z := by omega
  rw [e] at h2
  exact ⟨h2.1.1, h2.1.2, h2.2⟩
theorem jshr0 : ∀ w, w < 19 → jSr (jtl w) 0 = jtl w := by
  have h : (List.range 19).all (fun w => decide (jSr (jtl w) 0 = jtl w)) = true := by decide +kernel
  intro w hw
  exact of_decide_eq_true (List.all_eq_true.mp h w (List.mem_range.mpr hw))
theorem jF1 : Cond.fieldLink RJ0 38 RJ0 "COMPACT_STRINGS" "Z" ∈ jWG := j_c3 133 rfl rfl
theorem jF2 : Cond.fieldLink RJ0 1053 RJ3 "SIOOBE_FORMATTER" "Ljava/util/function/BiFunction;" ∈ jWG := j_c3 149 rfl rfl
theorem jF3 : Cond.fieldLink RJ0 9 RJ0 "value" "[B" ∈ jWG := j_c8 106 rfl rfl
theorem jF4 : Cond.fieldLink RJ0 15 RJ0 "coder" "B" ∈ jWG := j_c8 107 rfl rfl
theorem J_callT (C : jC X cc own) {idx maxL m : Nat} {y : MethodName} {cy : ByteArray} {ret : Option FieldType} {R rm : Room} {as rest stk : List jA} {o : Option jA ⊕ String} {S' : List jSh} {μ' : jMu} (hw : w < 19)
    (hcal : jCal y (.code y cy maxL ret) m) (hinst : Cond.instanceMethod y ∈ jWG) (hsel : Cond.selects RJ0 y y ∈ jWG) (hlink : Cond.methodLink own idx y ∈ jWG) (hM : jCt (xl X) (xG X) y (.code y cy maxL ret :: jWG) rm (jR (jXK + w) :: as) S μ o S' μ') (hn : xn X ≤ S.length) (hlen : S.length ≤ S'.length) (hR : xR X = R) (hroom : jRm' R rm k n maxL = true)
    (hstk : stk = as.reverse ++ jR (jXK + w) :: rest) (hm : as.length = m) (h8 : (rest.map jcat).sum ≤ 8) (d : decode cc pc = .ok (.invokevirtual idx, 3))
    (kk : ∀ v, o = .inl v → J X S' μ' (k + rm.cells) (n + rm.slots) (pc + 3) ls (v.toList ++ rest)) (kx : ∀ E, o = .inr E → JX X S' μ' (k + rm.cells) (n + rm.slots) pc ls E) : J X S μ k n pc ls stk := by
  subst hR hstk
  obtain ⟨r1, r2, r3, r4⟩ := jRm_s hroom
  refine J_run C hn hlen (fun v hv => List.mem_append_right _ (List.mem_cons_of_mem _ hv)) (fun H locs σ lc hH hl hok => ?_) kk kx
  have CC := C
  obtain ⟨hx, hb, hml, hown, hts, hK, hFz, hlo, hst0⟩ := C
  have hokA : ∀ a ∈ jR (jXK + w) :: as, jokv S a := fun a ha => by
    rcases List.mem_cons.mp ha with e | e
    · rw [e]; exact Or.inr (by unfold jXS jXK; omega)
    · exact hok a (List.mem_append_left _ (List.mem_reverse.mpr e))
  have hrc := vk_recv hFz.2.2.2.1 hw hH.2.2.1
  rw [← hH.2.2.2.2.1.2.1 w hw] at hrc
  refine ⟨_, vx_runV (C := "java/lang/String") (index := idx) (bytes := cy) (maxL := maxL) (ret := ret) (b := σ (jXK + w)) (As := as.map (jv σ)) (n := m) ⟨hx, hb, hml, hown, hts⟩ (hM σ) ⟨⟨rfl, rfl, r1, r2, jCal_ws CC hcal, List.mem_cons_self, hts _ hcal.1, hts _ hcal.2.1, hcal.2.2.1, jCal_n hcal, hts _ hlink⟩, hts _ hinst, hts _ hsel⟩ ⟨jPc_blind, hrc, fun U hU hW => jPc_at CC hH hokA U hU hW⟩ rfl (by rw [List.length_map]; exact hm) (hl.1) (jstk σ as (jR (jXK + w) :: rest)) (jrest8 h8) d ⟨r3, r4⟩⟩
theorem B_callT (B : jB X cc own nL n0 R rt) (hn0 : n0 ≤ S.length) {idx maxL m : Nat} {y : MethodName} {cy : ByteArray} {ret : Option FieldType} {as rest : List jA} {v : Option jA} (hw : w < 19)
    (hcal : jCal y (.code y cy maxL ret) m) (hinst : Cond.instanceMethod y ∈ jWG) (hsel : Cond.selects RJ0 y y ∈ jWG) (hlink : Cond.methodLink own idx y ∈ jWG) (hM : jCt (xl X) (xG X) y (.code y cy maxL ret :: jWG) rm (jR (jXK + w) :: as) S μ (.inl v) S' μ') (hlen : S.length ≤ S'.length) (hroom : jRm' R rm k n maxL = true)
    (hstk : st = as.reverse ++ jR (jXK + w) :: rest) (hm : as.length = m) (h8 : (rest.map jcat).sum ≤ 8) (d : decode cc pc = .ok (.invokevirtual idx, 3)) (hk : k + rm.cells = k') (hn : n + rm.slots = n') (hst : v.toList ++ rest = st') (kk : J X S' μ' k' n' (pc + 3) ls st') : J X S μ k n pc ls st := by
  subst hk hn hst
  exact J_callT B.1 hw hcal hinst hsel hlink hM (Nat.le_trans B.2.2.1 hn0) hlen B.2.2.2.1 hroom hstk hm h8 d (fun w hw => by cases hw; exact kk) (fun E hE => by cases hE)
theorem J_sval (C : jC X cc RJ0) (hw : w < 19) (d : decode cc pc = .ok (.getfield 9, 3)) (h : J X S μ k n (pc + 3) ls (jR (jXB + w) :: st)) : J X S μ k n pc ls (jR (jXK + w) :: st) := by
  obtain ⟨hx, hb, hml, hown, hts, hK, hFz, hlo, hst0⟩ := C
  intro H locs σ lc hH hl ho hst
  have h9 := h H locs σ lc hH hl ho (fun v hv => by
    rcases List.mem_cons.mp hv with e | e
    · rw [e]; exact Or.inr (by unfold jXS jXB; omega)
    · exact hst v (List.mem_cons_of_mem _ e))
  rw [List.map_cons] at h9 ⊢
  have e1 : jv σ (jR (jXK + w)) = .ref (gK (xG X) w) := by
    show Value.ref (σ (jXK + w)) = _
    rw [hH.2.2.2.2.1.2.1 w hw]
  have e2 : jv σ (jR (jXB + w)) = .ref (gV (xG X) w) := by
    show Value.ref (σ (jXB + w)) = _
    rw [hH.2.2.2.2.1.2.2 w (by omega)]
  rw [e1]
  rw [e2] at h9
  exact vk_getf hx hb (hFz.2.2.2.1.1 w hw).2.2.1 hH.2.2.1 hown (hts _ jF3) (fun x hx => hx) d h9
theorem J_scod (C : jC X cc RJ0) (hw : w < 19) (d : decode cc pc = .ok (.getfield 15, 3)) (h : J X S μ k n (pc + 3) ls (jI 0 :: st)) : J X S μ k n pc ls (jR (jXK + w) :: st) := by
  obtain ⟨hx, hb, hml, hown, hts, hK, hFz, hlo, hst0⟩ := C
  intro H locs σ lc hH hl ho hst
  have h9 := h H locs σ lc hH hl ho (fun v hv => by
    rcases List.mem_cons.mp hv with e | e
    · rw [e]; exact j_in0
    · exact hst v (List.mem_cons_of_mem _ e))
  rw [List.map_cons] at h9 ⊢
  have e1 : jv σ (jR (jXK + w)) = .ref (gK (xG X) w) := by
    show Value.ref (σ (jXK + w)) = _
    rw [hH.2.2.2.2.1.2.1 w hw]
  rw [e1]
  exact vk_getf hx hb (hFz.2.2.2.1.1 w hw).2.1 hH.2.2.1 hown (hts _ jF4) (fun x hx => hx) d h9
theorem J_scmp (C : jC X cc RJ0) (d : decode cc pc = .ok (.getstatic 38, 3)) (h : J X S μ k n (pc + 3) ls (jI 1 :: st)) : J X S μ k n pc ls st := by
  obtain ⟨hx, hb, hml, hown, hts, hK, hFz, hlo, hst0⟩ := C
  intro H locs σ lc hH hl ho hst
  have h9 := h H locs σ lc hH hl ho (fun v hv => by
    rcases List.mem_cons.mp hv with e | e
    · rw [e]; show jIn 1; unfold jIn; omega
    · exact hst v e)
  rw [List.map_cons] at h9
  exact va_gets hx hb hFz.2.2.2.2.2.1.1 hH.2.2.1 hown (hts _ jF1) (fun x hx => hx) d h9
theorem J_sfmt (C : jC X cc RJ0) (d : decode cc pc = .ok (.getstatic 1053, 3)) (h : ∀ v, jcat v = 1 → J X S μ k n (pc + 3) ls (v :: st)) : J X S μ k n pc ls st := by
  obtain ⟨hx, hb, hml, hown, hts, hK, hFz, hlo, hst0⟩ := C
  intro H locs σ lc hH hl ho hst
  rcases hFz.2.2.2.2.2.1.2.1 with hz | hz
  · have h9 := h jN rfl H locs σ lc hH hl ho (fun v hv => by
      rcases List.mem_cons.mp hv with e | e
      · rw [e]; exact True.intro
      · exact hst v e)
    rw [List.map_cons] at h9
    exact va_gets hx hb hz hH.2.2.1 hown (hts _ jF2) (fun x hx => hx) d h9
  · have h9 := h (jR (jXB + 100)) rfl H locs σ lc hH hl ho (fun v hv => by
      rcases List.mem_cons.mp hv with e | e
      · rw [e]; exact Or.inr (by unfold jXS jXB; omega)
      · exact hst v e)
    rw [List.map_cons] at h9
    have e2 : jv σ (jR (jXB + 100)) = .ref (gV (xG X) 100) := by
      show Value.ref (σ (jXB + 100)) = _
      rw [hH.2.2.2.2.1.2.2 100 (by omega)]
    rw [e2] at h9
    exact va_gets hx hb hz hH.2.2.1 hown (hts _ jF2) (fun x hx => hx) d h9
theorem J_slen (C : jC X cc own) (hw : w < 19) (d : decode cc pc = .ok (.arraylength, 1)) (h : J X S μ k n (pc + 1) ls (jI (jtl w) :: st)) : J X S μ k n pc ls (jR (jXB + w) :: st) := by
  obtain ⟨hx, hb, hml, hown, hts, hK, hFz, hlo, hst0⟩ := C
  obtain ⟨t1, t2, t3, t4, t5⟩ := jtx_all w hw
  intro H locs σ lc hH hl ho hst
  have h9 := h H locs σ lc hH hl ho (fun v hv => by
    rcases List.mem_cons.mp hv with e | e
    · rw [e]; exact t2
    · exact hst v (List.mem_cons_of_mem _ e))
  rw [List.map_cons] at h9 ⊢
  have e2 : jv σ (jR (jXB + w)) = .ref (gV (xG X) w) := by
    show Value.ref (σ (jXB + w)) = _
    rw [hH.2.2.2.2.1.2.2 w (by omega)]
  rw [e2]
  refine va_tlen hx hb (hFz.2.2.2.1.1 w hw).2.2.2 hH.2.2.1 (v := Int32.ofInt (jtl w)) ?_ d h9
  rw [t1]
  have : ((jtl w).toNat : Int) = jtl w := by omega
  rw [← this]
  rfl
theorem J_sbal (C : jC X cc own) (hw : w < 19) {j : Int} (hj : 0 ≤ j ∧ j < jtl w) (d : decode cc pc = .ok (.baload, 1)) (h : J X S μ k n (pc + 1) ls (jI (jtc w j) :: st)) : J X S μ k n pc ls (jI j :: jR (jXB + w) :: st) := by
  obtain ⟨hx, hb, hml, hown, hts, hK, hFz, hlo, hst0⟩ := C
  obtain ⟨t1, t2, t3, t4, t5⟩ := jtx_all w hw
  have t6 := t5 j.toNat (by omega)
  have ej : ((j.toNat : Nat) : Int) = j := by omega
  rw [ej] at t6
  intro H locs σ lc hH hl ho hst
  have hij : jIn j := hst (jI j) List.mem_cons_self
  have h9 := h H locs σ lc hH hl ho (fun v hv => by
    rcases List.mem_cons.mp hv with e | e
    · rw [e]; show jIn (jtc w j); unfold jIn; omega
    · exact hst v (List.mem_cons_of_mem _ (List.mem_cons_of_mem _ e)))
  rw [List.map_cons] at h9
  rw [List.map_cons, List.map_cons]
  have e2 : jv σ (jR (jXB + w)) = .ref (gV (xG X) w) := by
    show Value.ref (σ (jXB + w)) = _
    rw [hH.2.2.2.2.1.2.2 w (by omega)]
  rw [e2]
  have en : (Int32.ofInt j).toNatClampNeg = j.toNat := by
    unfold Int32.toNatClampNeg
    rw [j_tI hij]
  refine va_tb hx hb (hFz.2.2.2.1.1 w hw).2.2.2 hH.2.2.1 (v := .int (Int32.ofInt (jtc w j))) ?_ ?_ d h9
  · intro q
    rcases q with q | q
    · have := (j_lt hij j_in0).mp q
      omega
    · rw [en, t1] at q
      omega
  · rw [en, t6.1]
theorem J_i2c (C : jC X cc own) {z : Int} (h0 : 0 ≤ z) (h1 : z < 128) (d : decode cc pc = .ok (.i2c, 1)) (h : J X S μ k n (pc + 1) ls (jI z :: st)) : J X S μ k n pc ls (jI z :: st) := by
  obtain ⟨hx, hb, hml, hown, hts, hK, hFz, hlo, hst0⟩ := C
  intro H locs σ lc hH hl ho hst
  have h9 := h H locs σ lc hH hl ho hst
  rw [List.map_cons] at h9 ⊢
  exact lv_i2c hx hb d (jnar z h0 h1).2.1 h9
end TEXT
