section MORE
variable {X : jX} {S : List jSh} {μ : jMu} {k n pc : Nat} {ls ls' : List (Nat × jA)} {st st' : List jA} {cc : ByteArray} {own : String} {α : Type}
theorem J_ldc (C : jC X cc own) {idx : Nat} {z : Int} {v : Int32} (hw : Cond.constant own idx v ∈ jWG) (hv : v = Int32.ofInt z) (hz : jIn z) (d : decode cc pc = .ok (.ldc idx, 2)) (h : J X S μ k n (pc + 2) ls (jI z :: st)) : J X S μ k n pc ls st := by
  obtain ⟨hx, hb, hml, hown, hts, hK, hFz, hlo, hst0⟩ := C
  subst hv
  exact J_push (v := jI z) (len := 2) (fun _ _ => hz) (fun H locs σ lc rest _ kk => lv_ldc hx hb hown (hts _ hw) d kk) h
theorem J_ldcw (C : jC X cc own) {idx : Nat} {z : Int} {v : Int32} (hw : Cond.constant own idx v ∈ jWG) (hv : v = Int32.ofInt z) (hz : jIn z) (d : decode cc pc = .ok (.ldc_w idx, 3)) (h : J X S μ k n (pc + 3) ls (jI z :: st)) : J X S μ k n pc ls st := by
  obtain ⟨hx, hb, hml, hown, hts, hK, hFz, hlo, hst0⟩ := C
  subst hv
  exact J_push (v := jI z) (len := 3) (fun _ _ => hz) (fun H locs σ lc rest _ kk => lv_ldcw hx hb hown (hts _ hw) d kk) h
theorem J_ldc2 (C : jC X cc own) {idx : Nat} {z : Int} {v : Int64} (hw : Cond.constantLong own idx v ∈ jWG) (hv : v = Int64.ofInt z) (hz : jLn z) (d : decode cc pc = .ok (.ldc2_w idx, 3)) (h : J X S μ k n (pc + 3) ls (jL z :: st)) : J X S μ k n pc ls st := by
  obtain ⟨hx, hb, hml, hown, hts, hK, hFz, hlo, hst0⟩ := C
  subst hv
  exact J_push (v := jL z) (len := 3) (fun _ _ => hz) (fun H locs σ lc rest _ kk => lv_ldc2 hx hb hown (hts _ hw) d kk) h
/-- the i-th literal -/
theorem J_ldcS (C : jC X cc own) {idx i : Nat} {tx : String} {r : Nat} (hi : jlit[i]? = some (own, idx, tx)) (hr : jXK + i = r) (h19 : i < 19) (d : decode cc pc = .ok (.ldc idx, 2)) (h : J X S μ k n (pc + 2) ls (jR r :: st)) : J X S μ k n pc ls st := by
  subst hr
  obtain ⟨hx, hb, hml, hown, hts, hK, hFz, hlo, hst0⟩ := C
  intro H locs σ lc hH hl ho hst
  have hk := hFz.2.2.2.2.1 i _ hi
  refine va_ldcS hx hb hown hk d ?_
  have h9 := h H locs σ lc hH hl ho (fun w hw => by
    rcases List.mem_cons.mp hw with e | e
    · rw [e]; exact Or.inr (by unfold jXS jXK; omega)
    · exact hst w e)
  rw [List.map_cons] at h9
  have e1 : jv σ (jR (jXK + i)) = .ref (gK (xG X) i) := by
    show Value.ref (σ (jXK + i)) = _
    rw [hH.2.2.2.2.1.2.1 i h19]
  rw [e1] at h9
  exact h9
theorem J_max (C : jC X cc own) {idx : Nat} {a b : Int} {R : Room} (hw1 : Cond.methodLink own idx Lib.Math.max.name ∈ jWG) (hw2 : Cond.static Lib.Math.max.name ∈ jWG) (hw3 : Cond.initialized "java/lang/Math" ∈ jWG) (hw4 : Cond.code Lib.Math.max.name Lib.Math.max.code 2 (some .int) ∈ jWG) (hR : xR X = R) (h1 : 1 ≤ R.frames) (h2 : (st.map jcat).sum + 13 ≤ R.locals) (h3 : k ≤ R.cells) (h4 : n ≤ R.slots) (d : decode cc pc = .ok (.invokestatic idx, 3)) (h : J X S μ k n (pc + 3) ls (jI (if a < b then b else a) :: st)) : J X S μ k n pc ls (jI b :: jI a :: st) := by
  subst hR
  obtain ⟨hx, hb, hml, hown, hts, hK, hFz, hlo, hst0⟩ := C
  intro H locs σ lc hH hl ho hst
  have hb2 : jIn b := hst (jI b) List.mem_cons_self
  have ha : jIn a := hst (jI a) (List.mem_cons_of_mem _ List.mem_cons_self)
  refine va_mmax hx hb (by rw [hml]; exact hl.1.symm) hown (hts _ hw1) (hts _ hw2) (hts _ hw3) (hts _ hw4) h1 (by rw [jcat_sum]; exact h2) h3 h4 d ?_
  have e : (if Int32.ofInt a < Int32.ofInt b then Int32.ofInt b else Int32.ofInt a) = Int32.ofInt (if a < b then b else a) := by
    by_cases hc : a < b
    · rw [if_pos hc, if_pos ((j_lt ha hb2).mpr hc)]
    · rw [if_neg hc, if_neg (fun z => hc ((j_lt ha hb2).mp z))]
  rw [e]
  refine h H locs σ lc hH hl ho fun w hw => ?_
  rcases List.mem_cons.mp hw with e | e
  · rw [e]; show jIn _; split <;> assumption
  · exact hst w (List.mem_cons_of_mem _ (List.mem_cons_of_mem _ e))
theorem J_min (C : jC X cc own) {idx : Nat} {a b : Int} {R : Room} (hw1 : Cond.methodLink own idx Lib.Math.min.name ∈ jWG) (hw2 : Cond.static Lib.Math.min.name ∈ jWG) (hw3 : Cond.initialized "java/lang/Math" ∈ jWG) (hw4 : Cond.code Lib.Math.min.name Lib.Math.min.code 2 (some .int) ∈ jWG) (hR : xR X = R) (h1 : 1 ≤ R.frames) (h2 : (st.map jcat).sum + 13 ≤ R.locals) (h3 : k ≤ R.cells) (h4 : n ≤ R.slots) (d : decode cc pc = .ok (.invokestatic idx, 3)) (h : J X S μ k n (pc + 3) ls (jI (if b < a then b else a) :: st)) : J X S μ k n pc ls (jI b :: jI a :: st) := by
  subst hR
  obtain ⟨hx, hb, hml, hown, hts, hK, hFz, hlo, hst0⟩ := C
  intro H locs σ lc hH hl ho hst
  have hb2 : jIn b := hst (jI b) List.mem_cons_self
  have ha : jIn a := hst (jI a) (List.mem_cons_of_mem _ List.mem_cons_self)
  refine va_mmin hx hb (by rw [hml]; exact hl.1.symm) hown (hts _ hw1) (hts _ hw2) (hts _ hw3) (hts _ hw4) h1 (by rw [jcat_sum]; exact h2) h3 h4 d ?_
  have e : (if Int32.ofInt b < Int32.ofInt a then Int32.ofInt b else Int32.ofInt a) = Int32.ofInt (if b < a then b else a) := by
    by_cases hc : b < a
    · rw [if_pos hc, if_pos ((j_lt hb2 ha).mpr hc)]
    · rw [if_neg hc, if_neg (fun z => hc ((j_lt hb2 ha).mp z))]
  rw [e]
  refine h H locs σ lc hH hl ho fun w hw => ?_
  rcases List.mem_cons.mp hw with e | e
  · rw [e]; show jIn _; split <;> assumption
  · exact hst w (List.mem_cons_of_mem _ (List.mem_cons_of_mem _ e))
theorem J_abs (C : jC X cc own) {idx : Nat} {a : Int} {R : Room} (hw1 : Cond.methodLink own idx Lib.Math.abs.name ∈ jWG) (hw2 : Cond.static Lib.Math.abs.name ∈ jWG) (hw3 : Cond.initialized "java/lang/Math" ∈ jWG) (hw4 : Cond.code Lib.Math.abs.name Lib.Math.abs.code 1 (some .int) ∈ jWG) (hR : xR X = R) (h1 : 1 ≤ R.frames) (h2 : (st.map jcat).sum + 13 ≤ R.locals) (h3 : k ≤ R.cells) (h4 : n ≤ R.slots) (d : decode cc pc = .ok (.invokestatic idx, 3)) (h : J X S μ k n (pc + 3) ls (jI (if 0 ≤ a then a else jW (0 - a)) :: st)) : J X S μ k n pc ls (jI a :: st) := by
  subst hR
  obtain ⟨hx, hb, hml, hown, hts, hK, hFz, hlo, hst0⟩ := C
  intro H locs σ lc hH hl ho hst
  have ha : jIn a := hst (jI a) List.mem_cons_self
  refine va_mabs hx hb (by rw [hml]; exact hl.1.symm) hown (hts _ hw1) (hts _ hw2) (hts _ hw3) (hts _ hw4) h1 (by rw [jcat_sum]; exact h2) h3 h4 d ?_
  have e : (if 0 ≤ Int32.ofInt a then Int32.ofInt a else 0 - Int32.ofInt a) = Int32.ofInt (if 0 ≤ a then a else jW (0 - a)) := by
    show (if Int32.ofInt 0 ≤ Int32.ofInt a then Int32.ofInt a else Int32.ofInt 0 - Int32.ofInt a) = _
    by_cases hc : 0 ≤ a
    · rw [if_pos hc, if_pos ((j_le j_in0 ha).mpr hc)]
    · rw [if_neg hc, if_neg (fun z => hc ((j_le j_in0 ha).mp z)), ← j_sub]
  rw [e]
  refine h H locs σ lc hH hl ho fun w hw => ?_
  rcases List.mem_cons.mp hw with e | e
  · rw [e]
    show jIn _
    split
    · exact ha
    · exact jW_in _
  · exact hst w (List.mem_cons_of_mem _ e)
/-- System.arraycopy of ints -/
def jcpy (μ : jMu) (a b : Nat) (sp dp len : Int) : jMu := fun c x => if c = b ∧ dp ≤ x ∧ x < dp + len then μ a (sp + (x - dp)) else μ c x
theorem J_copy (C : jC X cc own) {idx a b na nb : Nat} {sp dp len naI nbI : Int} {R : Room} {T : Option α} {r : α} (hw1 : Cond.methodLink own idx arraycopyName ∈ jWG) (hw2 : Cond.native arraycopyName ∈ jWG) (hw3 : Cond.static arraycopyName ∈ jWG) (hw4 : Cond.initialized "java/lang/System" ∈ jWG) (ha : S[a]? = some (.inr (0, na))) (hb0 : S[b]? = some (.inr (0, nb))) (hna : (na : Int) = naI) (hnb : (nb : Int) = nbI) (hf : (if 0 ≤ sp ∧ 0 ≤ dp ∧ 0 ≤ len ∧ sp + len ≤ naI ∧ dp + len ≤ nbI then T else none) = some r)
    (hR : xR X = R) (h1 : 1 ≤ R.frames) (h2 : (st.map jcat).sum + (nativeFrameWords "java/lang/System" "arraycopy" 5 + 11) ≤ R.locals) (d : decode cc pc = .ok (.invokestatic idx, 3)) (h : T = some r → J X S (jcpy μ a b sp dp len) k n (pc + 3) ls st) : J X S μ k n pc ls (jI len :: jI dp :: jR b :: jI sp :: jR a :: st) := by
  subst hR hna hnb
  obtain ⟨hx, hb, hml, hown, hts, hK, hFz, hlo, hst0⟩ := C
  obtain ⟨⟨g1, g2, g3, g4, g5⟩, hf⟩ := jgd hf
  intro H locs σ lc hH hl ho hst
  have i1 : jIn len := hst (jI len) (by simp)
  have i2 : jIn dp := hst (jI dp) (by simp)
  have i3 : jIn sp := hst (jI sp) (by simp)
  have e1 : (jw (xG X) σ S μ)[a]? = some (σ a, .inl (gC (xG X) 0, na, .inl (fun j => Int32.ofInt (μ a j)))) := jw_at ha
  have e2 : (jw (xG X) σ S μ)[b]? = some (σ b, .inl (gC (xG X) 0, nb, .inl (fun j => Int32.ofInt (μ b j)))) := jw_at hb0
  refine va_copyi hx hb (by rw [hml]; exact hl.1.symm) hown (hts _ hw1) (hts _ hw2) (hts _ hw3) (hts _ hw4) hK hH.1 hH.2.1 hH.2.2.1 a b 0 0 e1 e2 rfl rfl rfl (sp := Int32.ofInt sp) (dp := Int32.ofInt dp) (n := Int32.ofInt len)
    (fun z => by have := (j_lt i3 j_in0).mp z; omega) (fun z => by have := (j_lt i2 j_in0).mp z; omega) (fun z => by have := (j_lt i1 j_in0).mp z; omega) (by rw [j_clamp i3, j_clamp i1]; omega) (by rw [j_clamp i2, j_clamp i1]; omega) (fun _ _ => rfl) h1 (by rw [jcat_sum]; exact h2) d fun H1 locs1 hP hD hS => ?_
  have hH1 := jH_set (sh' := .inr (0, nb)) (μ' := jcpy μ a b sp dp len) hH hb0 (by
    refine congrArg (fun z : Nat → Int32 => (Sum.inl (gC (xG X) 0, nb, Sum.inl z) : va_E)) (funext fun q => ?_)
    show _ = Int32.ofInt (jcpy μ a b sp dp len b q)
    rw [j_clamp i3, j_clamp i2, j_clamp i1]
    unfold va_cpy jcpy
    by_cases hq : dp.toNat ≤ q ∧ q < dp.toNat + len.toNat
    · rw [if_pos hq, if_pos ⟨rfl, by omega, by omega⟩]
      show Int32.ofInt (μ a ((sp.toNat + (q - dp.toNat) : Nat) : Int)) = Int32.ofInt (μ a (sp + ((q : Int) - dp)))
      rw [show (((sp.toNat + (q - dp.toNat) : Nat)) : Int) = sp + ((q : Int) - dp) by omega]
    · rw [if_neg hq, if_neg (fun z => hq (by omega))]) (fun c hc y => by unfold jcpy; rw [if_neg (fun z => hc z.1)]) (by
    rw [jw_self hb0]
    refine ⟨hH.2.2.2.1.1, fun i s hs x => ?_⟩
    unfold jcpy
    split
    · rename_i hz
      rw [hz.1] at hs
      cases Option.some.inj (hb0.symm.trans hs)
      exact hH.2.2.2.1.2 a _ ha _
    · exact hH.2.2.2.1.2 i s hs x) hP hD hS
  rw [jw_self hb0] at hH1
  exact h hf H1 locs1 σ lc hH1 hl ho fun w hw => hst w (List.mem_cons_of_mem _ (List.mem_cons_of_mem _ (List.mem_cons_of_mem _ (List.mem_cons_of_mem _ (List.mem_cons_of_mem _ hw)))))
/-! switches -/
theorem J_tswI (C : jC X cc own) {dflt lo hi : Int} {offs : Array Int} {len : Nat} {x off : Int} {tgt : Nat} (d : decode cc pc = .ok (.tableswitch dflt lo hi offs, len)) (h1 : lo ≤ x) (h2 : x ≤ hi) (ho : offs[(x - lo).toNat]? = some off) (ht : (pc : Int) + off = (tgt : Int)) (h : J X S μ k n tgt ls st) : J X S μ k n pc ls (jI x :: st) := by
  obtain ⟨hx, hb, -⟩ := C
  intro H locs σ lc hH hl ho' hst
  have hI : jIn x := hst (jI x) List.mem_cons_self
  exact lv_tableIn hx hb d (by rw [j_tI hI]; omega) (by rw [j_tI hI]; omega) (by rw [j_tI hI]; exact ho) ht (h H locs σ lc hH hl ho' fun w hw => hst w (List.mem_cons_of_mem _ hw))
theorem J_tswO (C : jC X cc own) {dflt lo hi : Int} {offs : Array Int} {len : Nat} {x : Int} {tgt : Nat} (d : decode cc pc = .ok (.tableswitch dflt lo hi offs, len)) (h1 : x < lo ∨ hi < x) (ht : (pc : Int) + dflt = (tgt : Int)) (h : J X S μ k n tgt ls st) : J X S μ k n pc ls (jI x :: st) := by
  obtain ⟨hx, hb, -⟩ := C
  intro H locs σ lc hH hl ho' hst
  have hI : jIn x := hst (jI x) List.mem_cons_self
  exact lv_tableOut hx hb d (by rw [j_tI hI]; exact h1) ht (h H locs σ lc hH hl ho' fun w hw => hst w (List.mem_cons_of_mem _ hw))
/-! exceptions -/
/-- what a throw asks beside the good words -/
def jtb (E : String) : List Cond := [.castable E E, .declares (Bundle.init0 "java/lang/RuntimeException"), .declares (Bundle.init0 "java/lang/Exception"), .declares (Bundle.init0 "java/lang/Throwable")]
/-- 'throw new E()': new; dup; invokespecial; athrow -/
theorem J_throw (C : jC X cc own) {ik ic mc ms : Nat} {E : String} {R : Room} (hE : E ∈ jexs) (hq : jQ X (.inr E) S μ mc ms) (hno : ∀ x ∈ (xc X).exceptionTable.toList, False) (hfit : Bundle.fit E = true) (hk0 : Cond.classLink own ik E ∈ jWG) (hini : Cond.initialized E ∈ jWG) (hat : ∀ w ∈ (vx_at0 own ic E ["java/lang/RuntimeException", "java/lang/Exception"]).filter goodWord, w ∈ jWG) (hat2 : ∀ w ∈ (vx_at0 own ic E ["java/lang/RuntimeException", "java/lang/Exception"]).filter (fun w => !goodWord w), w ∈ (jtb E))
    (hgood : ∀ w ∈ Cond.classLink own ik E :: Cond.initialized E :: vx_at0 own ic E ["java/lang/RuntimeException", "java/lang/Exception"], vx_ot w = true) (hR : xR X = R) (h1 : 5 < R.frames) (h2 : (st.map jcat).sum + 81 ≤ R.locals) (h3 : k + 1 ≤ R.cells) (h4 : n + 6 ≤ R.slots) (h5 : k + 1 ≤ mc) (h6 : n + 6 ≤ ms)
    (d0 : decode cc pc = .ok (.new ik, 3)) (d3 : decode cc (pc + 3) = .ok (.dup, 1)) (d4 : decode cc (pc + 4) = .ok (.invokespecial ic, 3)) (d7 : decode cc (pc + 7) = .ok (.athrow, 1)) : J X S μ k n pc ls st := by
  subst hR
  obtain ⟨hx, hb, hml, hown, hts, hK, hFz, hlo, hst0⟩ := C
  intro H locs σ lc hH hl ho hst
  rw [show xQ X = _ from hq]
  have hEx := hFz.2.2.2.2.2.2.2
  refine vx_throw0 hx hb hst0 hown hfit (fun n hn => ?_) (hts _ hk0) (hts _ hini) ?_ hgood hFz.2.2.2.2.2.1.2.2.1 hFz.2.2.2.2.2.1.2.2.2 hH.2.2.1 (by rw [hml]; exact hl.1) d0 d3 d4 d7 (fun x hx => (hno x hx).elim) h1 (by rw [jcat_sum]; exact h2) h3 h4 hlo (fun t hA hz hk => ?_) hH.2.2.1.2.2 h5 h6
  · rcases List.mem_cons.mp hn with e | e
    · rw [e]; decide +kernel
    · rw [List.mem_singleton.mp e]; decide +kernel
  · refine vx_hat (B := (jtb E)) (fun w hw => hts w (hat w hw)) hat2 ?_
    exact vx_c (va_Nw.use (A := _) rfl (hEx.1 E hE).1) (vx_c (va_Nw.use (A := _) rfl (hEx.2.2 _ (by decide))) (vx_c (va_Nw.use (A := _) rfl (hEx.2.2 _ (by decide))) (vx_c (va_Nw.use (A := _) rfl (hEx.2.2 _ (by decide))) vx_n)))
  · refine ⟨⟨σ, rfl, ⟨hH.1.kept fun k9 q9 hq9 => hk _ ((hH.1 k9 q9 hq9).lt), hH.2.1, hH.2.2.2.1⟩, hH.2.2.2.2.2⟩, Nat.le_trans hH.2.2.1.1 hz, fun q9 hq1 hq2 => ?_⟩
    rw [hk q9 (Nat.lt_of_lt_of_le hq1 hH.2.2.1.1)]
    exact hH.2.2.1.2.1 q9 hq1 hq2
/-- caught: the handler stores the exception and answers a number -/
theorem JX_catch (C : jC X cc own) {E : String} {mc ms hp j : Nat} {z : Int} {hh : List (Nat × Nat × Nat × Nat)} {pre suf : List ExceptionTableEntry} {x : ExceptionTableEntry} (hE : E ∈ jexs) (htab : (xc X).exceptionTable.toList = tableOf hh) (hsplit : tableOf hh = pre ++ x :: suf) (hpass : ∀ y ∈ pre, y.catchType ≠ 0 ∧ ∃ nm ∈ jexs, E ≠ nm ∧ Cond.classLink own y.catchType nm ∈ jWG) (hcov : covers x pc = true) (h0 : x.catchType ≠ 0) (hlink : Cond.classLink own x.catchType E ∈ jWG) (hhp : x.handlerPc = hp)
    (hq : jQ X (.inl (some (jI z))) S μ mc ms) (hr : (xM X).sig.returnType = some .int) (hz : -128 ≤ z ∧ z < 128) (hj : j < xN X) (hk : k ≤ mc) (hs : n ≤ ms) {il : Nat} (d1 : (∃ q : Fin 4, q.val = j ∧ decode cc hp = .ok (.astore_n q, 1) ∧ il = 1) ∨ (decode cc hp = .ok (.astore j, 2) ∧ il = 2)) (d2 : decode cc (hp + il) = .ok (.iconst z, 1)) (d3 : decode cc (hp + il + 1) = .ok (.ireturn, 1)) : JX X S μ k n pc ls E := by
  subst hhp
  obtain ⟨hx, hb, hml, hown, hts, hK, hFz, hlo, hst0⟩ := C
  intro H locs σ lc q ce rest hH hl hce hcv hcl
  have hEx := hFz.2.2.2.2.2.2.2
  have hend : ∀ lc' : Array Slot, W (xp X) (xl X) (xe X) (xR X) (xs X) (xm X) (xa X) (xb X) (xM X) (xc X) H locs k n (xQ X) (F0 (xm X) (x.handlerPc + il) lc' []) := by
    intro lc'
    refine lv_iconst hx hb d2 rfl ?_
    rw [show xQ X = _ from hq]
    refine W.widen hk hs (vx_ret (W.zret hx hb hr rfl (fun t ht hW => ?_) hH.2.2.1.2.2 d3 hlo))
    exact ⟨⟨some (jI z), σ, rfl, rfl, jPo_of hH ht, hH.2.2.2.2.2, fun a ha => by cases ha; show jIn z; unfold jIn; omega⟩, jF_of hH ht⟩
  refine vx_catch hown pre x suf (by rw [htab]; exact hsplit) (fun y hy => ?_) hcov h0 (hts _ hlink) (va_Nw.use (A := _) rfl (hEx.1 E hE).1) hce hcv hcl ?_
  · obtain ⟨h1, nm, h2, h3, h4⟩ := hpass y hy
    exact Or.inr ⟨h1, nm, hts _ h4, (hEx.1 E hE).2.2 nm h2 h3⟩
  · rcases d1 with ⟨w, hw, d1, rfl⟩ | ⟨d1, rfl⟩
    · exact lv_astore_n hx hb d1 hw hl hj rfl fun lc' hl' => hend lc'
    · exact lv_astore hx hb d1 hl hj rfl fun lc' hl' => hend lc'
end MORE
