section STEP
variable {X : jX} {S : List jSh} {μ : jMu} {k n pc : Nat} {ls ls' : List (Nat × jA)} {st st' : List jA} {cc : ByteArray} {own : String} {lk : List (Nat × Nat × Nat)}
theorem j_inAn (a b : Int) : jIn (jAn a b) := j_in _
theorem j_inOr (a b : Int) : jIn (jOr a b) := j_in _
theorem j_inXo (a b : Int) : jIn (jXo a b) := j_in _
theorem j_inSl (a b : Int) : jIn (jSl a b) := j_in _
theorem j_inSr (a b : Int) : jIn (jSr a b) := j_in _
theorem j_inUr (a b : Int) : jIn (jUr a b) := j_in _
theorem jfs_at {σ : Nat → Nat} {i : Nat} {rf : List (Option (Option Nat))} {j : Nat} {f : Option (Option Nat)} (h : rf[j]? = some f) : (jfs σ μ i rf)[j]? = some (jf σ μ i j f) := by
  unfold jfs
  rw [List.getElem?_mapIdx, h]
  rfl
/-- a field is read -/
theorem J_get {idx r ci j : Nat} {rf : List (Option (Option Nat))} {f : Option (Option Nat)} {v : jA} (C : jC X cc own) (hlk : jlkOK own lk) (hm : (idx, ci, j) ∈ lk) (hs : S[r]? = some (.inl (ci, rf))) (hf : rf[j]? = some f)
    (hv : v = jfv μ r j f) (hx : ∀ x, f = some (some x) → x < S.length ∨ jXS ≤ x) (d : decode cc pc = .ok (.getfield idx, 3)) (h : J X S μ k n (pc + 3) ls (v :: st)) : J X S μ k n pc ls (jR r :: st) := by
  obtain ⟨hx0, hb, hml, hown, hts, hK, hFz, hlo, hst0⟩ := C
  obtain ⟨q, hc, hj, hl⟩ := hlk _ hm
  intro H locs σ lc hH hl0 ho hst
  have hq := j_cls q (List.mem_of_getElem? hc)
  have he : (jw (xG X) σ S μ)[r]? = some (σ r, .inr (ci, jfs σ μ r rf)) := jw_at hs
  have hval : jf σ μ r j f = jv σ v := by
    subst hv
    rcases f with _ | _ | x <;> rfl
  refine va_get (C := q.1) (T := q.2.1) (N := q.2.2) (ref := (q.2.1 j).1) (index := idx) hx0 hb hts hq hown hK hH.1 r he hc j hj (hts _ hl) (fun _ hz => hz) (jfs_at hf) d ?_
  rw [hval]
  refine h H locs σ lc hH hl0 ho fun w hw => ?_
  rcases List.mem_cons.mp hw with e | e
  · rw [e, hv]
    rcases f with _ | _ | x
    · exact hH.2.2.2.1.2 r _ hs j
    · trivial
    · exact hx x rfl
  · exact hst w (List.mem_cons_of_mem _ e)
theorem jrd_s {r ci j : Nat} {v : jA} (h : jrd S μ r ci j = some v) : ∃ rf f, S[r]? = some (.inl (ci, rf)) ∧ rf[j]? = some f ∧ v = jfv μ r j f := by
  unfold jrd at h
  split at h
  · rename_i c rf hs
    split at h
    · rename_i hb
      have hb := Nat.eq_of_beq_eq_true hb
      subst hb
      refine ⟨rf, ?_⟩
      split at h
      · rename_i hf; cases h; exact ⟨_, hs, hf, rfl⟩
      · rename_i hf; cases h; exact ⟨_, hs, hf, rfl⟩
      · rename_i hf; cases h; exact ⟨_, hs, hf, rfl⟩
      · cases h
    · cases h
  · cases h
/-- every reference that a shape holds is a place of it -/
def jcl (S : List jSh) : Prop := ∀ (i : Nat) (ci : Nat) (rf : List (Option (Option Nat))), S[i]? = some (.inl (ci, rf)) → ∀ (j x : Nat), rf[j]? = some (some (some x)) → x < S.length ∨ jXS ≤ x
def jclb (S : List jSh) : Bool := S.all (fun sh => match sh with
  | .inl (_, rf) => rf.all (fun f => match f with
    | some (some x) => Nat.blt x S.length
    | _ => true)
  | _ => true)
theorem jcl_of (h : jclb S = true) : jcl S := by
  intro i ci rf hi j x hj
  have h1 := List.all_eq_true.mp h _ (List.mem_of_getElem? hi)
  have h2 := List.all_eq_true.mp h1 _ (List.mem_of_getElem? hj)
  exact Or.inl (by simpa [Nat.blt_eq] using h2)
theorem J_stp {i : Instr} (C : jC X cc own) (hlk : jlkOK own lk) (hcl : jcl S) (d : decode cc pc = .ok (i, jil i)) (hg : ((jnx pc i : Nat) : Int) = jgo pc i) (hs : jstp lk S μ (xN X) ls st i = some (ls', st')) (h : J X S μ k n (jnx pc i) ls' st') : J X S μ k n pc ls st := by
  have CC := C
  obtain ⟨hx, hb, hml, hown, hts, hK, hFz, hlo, hst0⟩ := C
  cases i
  case iconst m =>
    obtain ⟨hl, h2⟩ := jif_s hs
    cases h2
    have h1 := jlow_s hl
    exact J_push (v := jI m) (len := 1) (fun _ _ => by show jIn m; unfold jIn; omega) (fun H locs σ lc rest _ kk => lv_iconst hx hb d rfl kk) h
  case bipush m =>
    obtain ⟨hl, h2⟩ := jif_s hs
    cases h2
    have h1 := jlow_s hl
    exact J_push (v := jI m) (len := 2) (fun _ _ => by show jIn m; unfold jIn; omega) (fun H locs σ lc rest _ kk => lv_bipush hx hb d (j_bip h1) kk) h
  case sipush m =>
    obtain ⟨hl, h2⟩ := jif_s hs
    cases h2
    have h1 := jlow_s hl
    exact J_push (v := jI m) (len := 3) (fun _ _ => by show jIn m; unfold jIn; omega) (fun H locs σ lc rest _ kk => lv_sipush hx hb d (j_sip h1) kk) h
  case lconst m =>
    cases hs
    refine J_push (v := jL (m.val : Nat)) (len := 1) (fun _ _ => by show jLn _; unfold jLn; omega) (fun H locs σ lc rest _ kk => lv_lconst hx hb d ?_ kk) h
    rcases m with ⟨m, hm⟩
    rcases (show m = 0 ∨ m = 1 by omega) with rfl | rfl <;> rfl
  case iload_n i =>
    obtain ⟨s, h1, h2⟩ := jmap_s hs
    cases h2
    obtain ⟨v, hv, rfl, ht⟩ := jld_s h1
    rcases ht with ⟨-, z, rfl⟩ | ⟨ht, -⟩ | ⟨ht, -⟩
    · exact J_push (len := 1) (fun ho _ => ho _ (jget_mem hv)) (fun H locs σ lc rest hl kk => lv_iload_n hx hb d rfl (jlv_at hl hv) kk) h
    · cases ht
    · cases ht
  case iload i =>
    obtain ⟨s, h1, h2⟩ := jmap_s hs
    cases h2
    obtain ⟨v, hv, rfl, ht⟩ := jld_s h1
    rcases ht with ⟨-, z, rfl⟩ | ⟨ht, -⟩ | ⟨ht, -⟩
    · exact J_push (len := 2) (fun ho _ => ho _ (jget_mem hv)) (fun H locs σ lc rest hl kk => lv_iload hx hb d (jlv_at hl hv) kk) h
    · cases ht
    · cases ht
  case lload_n i =>
    obtain ⟨s, h1, h2⟩ := jmap_s hs
    cases h2
    obtain ⟨v, hv, rfl, ht⟩ := jld_s h1
    rcases ht with ⟨ht, -⟩ | ⟨-, z, rfl⟩ | ⟨ht, -⟩
    · cases ht
    · exact J_push (len := 1) (fun ho _ => ho _ (jget_mem hv)) (fun H locs σ lc rest hl kk => lv_lload_n hx hb d rfl (jlv_at hl hv) kk) h
    · cases ht
  case lload i =>
    obtain ⟨s, h1, h2⟩ := jmap_s hs
    cases h2
    obtain ⟨v, hv, rfl, ht⟩ := jld_s h1
    rcases ht with ⟨ht, -⟩ | ⟨-, z, rfl⟩ | ⟨ht, -⟩
    · cases ht
    · exact J_push (len := 2) (fun ho _ => ho _ (jget_mem hv)) (fun H locs σ lc rest hl kk => lv_lload hx hb d (jlv_at hl hv) kk) h
    · cases ht
  case aload_n i =>
    obtain ⟨s, h1, h2⟩ := jmap_s hs
    cases h2
    obtain ⟨v, hv, rfl, ht⟩ := jld_s h1
    rcases ht with ⟨ht, -⟩ | ⟨ht, -⟩ | ⟨-, z, rfl⟩
    · cases ht
    · cases ht
    · exact J_push (len := 1) (fun ho _ => ho _ (jget_mem hv)) (fun H locs σ lc rest hl kk => lv_aload_n hx hb d rfl (jlv_at hl hv) kk) h
  case aload i =>
    obtain ⟨s, h1, h2⟩ := jmap_s hs
    cases h2
    obtain ⟨v, hv, rfl, ht⟩ := jld_s h1
    rcases ht with ⟨ht, -⟩ | ⟨ht, -⟩ | ⟨-, z, rfl⟩
    · cases ht
    · cases ht
    · exact J_push (len := 2) (fun ho _ => ho _ (jget_mem hv)) (fun H locs σ lc rest hl kk => lv_aload hx hb d (jlv_at hl hv) kk) h
  case istore_n i =>
    obtain ⟨v, rfl, rfl, ht⟩ := jst_s hs
    rcases ht with ⟨-, hi, z, rfl⟩ | ⟨ht, -⟩ | ⟨ht, -⟩
    · exact J_store (len := 1) (fun H locs σ lc rest hl kk => lv_istore_n hx hb d rfl hl hi rfl fun lc' hl' => kk lc' (jlv_sub hl' (jset_1 rfl))) h
    · cases ht
    · cases ht
  case istore i =>
    obtain ⟨v, rfl, rfl, ht⟩ := jst_s hs
    rcases ht with ⟨-, hi, z, rfl⟩ | ⟨ht, -⟩ | ⟨ht, -⟩
    · exact J_store (len := 2) (fun H locs σ lc rest hl kk => lv_istore hx hb d hl hi rfl fun lc' hl' => kk lc' (jlv_sub hl' (jset_1 rfl))) h
    · cases ht
    · cases ht
  case lstore_n i =>
    obtain ⟨v, rfl, rfl, ht⟩ := jst_s hs
    rcases ht with ⟨ht, -⟩ | ⟨-, hi, z, rfl⟩ | ⟨ht, -⟩
    · cases ht
    · exact J_store (len := 1) (fun H locs σ lc rest hl kk => lv_lstore_n hx hb d rfl hl hi rfl fun lc' hl' => kk lc' (jlv_sub hl' (jset_2 rfl))) h
    · cases ht
  case lstore i =>
    obtain ⟨v, rfl, rfl, ht⟩ := jst_s hs
    rcases ht with ⟨ht, -⟩ | ⟨-, hi, z, rfl⟩ | ⟨ht, -⟩
    · cases ht
    · exact J_store (len := 2) (fun H locs σ lc rest hl kk => lv_lstore hx hb d hl hi rfl fun lc' hl' => kk lc' (jlv_sub hl' (jset_2 rfl))) h
    · cases ht
  case astore_n i =>
    obtain ⟨v, rfl, rfl, ht⟩ := jst_s hs
    rcases ht with ⟨ht, -⟩ | ⟨ht, -⟩ | ⟨-, hi, z, rfl⟩
    · cases ht
    · cases ht
    · exact J_store (len := 1) (fun H locs σ lc rest hl kk => lv_astore_n hx hb d rfl hl hi rfl fun lc' hl' => kk lc' (jlv_sub hl' (jset_1 rfl))) h
  case astore i =>
    obtain ⟨v, rfl, rfl, ht⟩ := jst_s hs
    rcases ht with ⟨ht, -⟩ | ⟨ht, -⟩ | ⟨-, hi, z, rfl⟩
    · cases ht
    · cases ht
    · exact J_store (len := 2) (fun H locs σ lc rest hl kk => lv_astore hx hb d hl hi rfl fun lc' hl' => kk lc' (jlv_sub hl' (jset_1 rfl))) h
  case iinc i c =>
    obtain ⟨l, h1, h2⟩ := jmap_s hs
    cases h2
    unfold jii at h1
    split at h1
    · rename_i z hg
      split at h1
      · rename_i hb2
        cases h1
        intro H locs σ lc hH hl ho hst
        obtain ⟨q, hq⟩ := List.getElem?_of_mem (show (i, jv σ (jI z)) ∈ jlv σ ls from List.mem_map.mpr ⟨_, jget_mem hg, rfl⟩)
        refine lv_iinc (v := Int32.ofInt (jW (z + c))) hx hb d hl (k := q) hq (by rw [j_add, j_oW]) (by simpa [Nat.blt_eq] using hb2) rfl fun lc' hl' => ?_
        exact h H locs σ lc' hH (jlv_sub hl' (jset_1 (v := jI (jW (z + c))) rfl)) (jset_ok ho (jW_in _)) hst
      · cases h1
    · cases h1
  case iadd =>
    obtain ⟨s, h1, h2⟩ := jmap_s hs
    cases h2
    obtain ⟨a, b, r, rfl, rfl⟩ := j2_s h1
    exact J_2 (f := fun a b => jW (a + b)) (fun _ _ => jW_in _) (fun H locs lc rest kk => lv_iadd hx hb d (by rw [j_add]; exact kk)) h
  case isub =>
    obtain ⟨s, h1, h2⟩ := jmap_s hs
    cases h2
    obtain ⟨a, b, r, rfl, rfl⟩ := j2_s h1
    exact J_2 (f := fun a b => jW (a - b)) (fun _ _ => jW_in _) (fun H locs lc rest kk => lv_isub hx hb d (by rw [j_sub]; exact kk)) h
  case imul =>
    obtain ⟨s, h1, h2⟩ := jmap_s hs
    cases h2
    obtain ⟨a, b, r, rfl, rfl⟩ := j2_s h1
    exact J_2 (f := fun a b => jW (a * b)) (fun _ _ => jW_in _) (fun H locs lc rest kk => lv_imul hx hb d (by rw [j_mul]; exact kk)) h
  case iand =>
    obtain ⟨s, h1, h2⟩ := jmap_s hs
    cases h2
    obtain ⟨a, b, r, rfl, rfl⟩ := j2_s h1
    exact J_2 (f := jAn) j_inAn (fun H locs lc rest kk => lv_iand hx hb d (by rw [← j_oI (_ &&& _)]; exact kk)) h
  case ior =>
    obtain ⟨s, h1, h2⟩ := jmap_s hs
    cases h2
    obtain ⟨a, b, r, rfl, rfl⟩ := j2_s h1
    exact J_2 (f := jOr) j_inOr (fun H locs lc rest kk => lv_ior hx hb d (by rw [← j_oI (_ ||| _)]; exact kk)) h
  case ixor =>
    obtain ⟨s, h1, h2⟩ := jmap_s hs
    cases h2
    obtain ⟨a, b, r, rfl, rfl⟩ := j2_s h1
    exact J_2 (f := jXo) j_inXo (fun H locs lc rest kk => lv_ixor hx hb d (by rw [← j_oI (_ ^^^ _)]; exact kk)) h
  case ishl =>
    obtain ⟨s, h1, h2⟩ := jmap_s hs
    cases h2
    obtain ⟨a, b, r, rfl, rfl⟩ := j2_s h1
    exact J_2 (f := jSl) j_inSl (fun H locs lc rest kk => lv_ishl hx hb d (by rw [← j_oI (_ <<< _)]; exact kk)) h
  case ishr =>
    obtain ⟨s, h1, h2⟩ := jmap_s hs
    cases h2
    obtain ⟨a, b, r, rfl, rfl⟩ := j2_s h1
    exact J_2 (f := jSr) j_inSr (fun H locs lc rest kk => lv_ishr hx hb d (by rw [← j_oI (_ >>> _)]; exact kk)) h
  case iushr =>
    obtain ⟨s, h1, h2⟩ := jmap_s hs
    cases h2
    obtain ⟨a, b, r, rfl, rfl⟩ := j2_s h1
    exact J_2 (f := jUr) j_inUr (fun H locs lc rest kk => lv_iushr hx hb d (j_oI _).symm kk) h
  case ladd =>
    obtain ⟨s, h1, h2⟩ := jmap_s hs
    cases h2
    obtain ⟨a, b, r, rfl, rfl⟩ := j2L_s h1
    exact J_2L (f := fun a b => jV (a + b)) (fun _ _ => jV_in _) (fun H locs lc rest kk => lv_ladd hx hb d (by rw [j_addL]; exact kk)) h
  case lmul =>
    obtain ⟨s, h1, h2⟩ := jmap_s hs
    cases h2
    obtain ⟨a, b, r, rfl, rfl⟩ := j2L_s h1
    exact J_2L (f := fun a b => jV (a * b)) (fun _ _ => jV_in _) (fun H locs lc rest kk => lv_lmul hx hb d (by rw [j_mulL]; exact kk)) h
  case lcmp =>
    obtain ⟨s, h1, h2⟩ := jmap_s hs
    cases h2
    obtain ⟨a, b, r, rfl, rfl⟩ := j2L_s h1
    intro H locs σ lc hH hl ho hst
    have ha : jLn a := hst (jL a) (List.mem_cons_of_mem _ List.mem_cons_self)
    have hb2 : jLn b := hst (jL b) List.mem_cons_self
    refine W.lcmp hx hb d ?_
    rw [j_cmp ha hb2]
    refine h H locs σ lc hH hl ho fun w hw => ?_
    rcases List.mem_cons.mp hw with e | e
    · rw [e]; exact jCm_in a b
    · exact hst w (List.mem_cons_of_mem _ (List.mem_cons_of_mem _ e))
  case i2l =>
    obtain ⟨s, h1, h2⟩ := jmap_s hs
    cases h2
    obtain ⟨a, r, rfl, rfl⟩ := j1_s h1
    intro H locs σ lc hH hl ho hst
    have ha : jIn a := hst (jI a) List.mem_cons_self
    refine lv_i2l hx hb d (j_i2l ha) ?_
    refine h H locs σ lc hH hl ho fun w hw => ?_
    rcases List.mem_cons.mp hw with e | e
    · rw [e]; exact jIn_L ha
    · exact hst w (List.mem_cons_of_mem _ e)
  case l2i =>
    obtain ⟨s, h1, h2⟩ := jmap_s hs
    cases h2
    obtain ⟨a, r, rfl, rfl⟩ := j1L_s h1
    intro H locs σ lc hH hl ho hst
    have ha : jLn a := hst (jL a) List.mem_cons_self
    refine lv_l2i hx hb d (j_l2i ha) ?_
    refine h H locs σ lc hH hl ho fun w hw => ?_
    rcases List.mem_cons.mp hw with e | e
    · rw [e]; exact jW_in a
    · exact hst w (List.mem_cons_of_mem _ e)
  case getfield idx =>
    obtain ⟨s, h1, h2⟩ := jmap_s hs
    cases h2
    unfold jgf at h1
    split at h1
    · rename_i r t
      split at h1
      · rename_i ci j hm
        split at h1
        · rename_i v hv
          cases h1
          obtain ⟨rf, f, hs1, hf, he⟩ := jrd_s hv
          exact J_get CC hlk (jlk1_mem hm) hs1 hf he (fun x hx => hcl r ci rf hs1 j x (by rw [hf, hx])) d h
        · cases h1
      · cases h1
    · cases h1
  case arraylength =>
    obtain ⟨s, h1, h2⟩ := jmap_s hs
    cases h2
    unfold jal at h1
    split at h1
    · rename_i r t
      split at h1
      · rename_i ak len hs1
        split at h1
        · rename_i hb2
          cases h1
          simp only [Bool.and_eq_true, Nat.blt_eq] at hb2
          intro H locs σ lc hH hl ho hst
          have he : (jw (xG X) σ S μ)[r]? = some (σ r, .inl (gC (xG X) ak, len, jarr μ r ak)) := jw_at hs1
          have hI : jIn len := by unfold jIn; omega
          have ht : ∃ ty, (jty (xG X))[ak]? = some (gC (xG X) ak, ty) := by
            rcases (show ak = 0 ∨ ak = 1 ∨ ak = 2 by omega) with rfl | rfl | rfl <;> exact ⟨_, rfl⟩
          obtain ⟨ty, ht⟩ := ht
          refine va_alen (v := Int32.ofInt len) hx hb hK hH.1 r ak he ht (by rfl) d ?_
          refine h H locs σ lc hH hl ho fun w hw => ?_
          rcases List.mem_cons.mp hw with e | e
          · rw [e]; exact hI
          · exact hst w (List.mem_cons_of_mem _ e)
        · cases h1
      · cases h1
    · cases h1
  case goto off =>
    cases hs
    intro H locs σ lc hH hl ho hst
    exact lv_goto hx hb d hg.symm (h H locs σ lc hH hl ho hst)
  case pop =>
    obtain ⟨s, h1, h2⟩ := jmap_s hs
    cases h2
    rcases st with _ | ⟨a, r⟩
    · cases h1
    · obtain ⟨hb2, rfl⟩ := jif_s h1
      intro H locs σ lc hH hl ho hst
      exact lv_pop hx hb d (by rw [jcat_v]; exact Nat.eq_of_beq_eq_true hb2) (h H locs σ lc hH hl ho fun w hw => hst w (List.mem_cons_of_mem _ hw))
  case dup =>
    obtain ⟨s, h1, h2⟩ := jmap_s hs
    cases h2
    rcases st with _ | ⟨a, r⟩
    · cases h1
    · obtain ⟨hb2, rfl⟩ := jif_s h1
      intro H locs σ lc hH hl ho hst
      refine lv_dup hx hb d (by rw [jcat_v]; exact Nat.eq_of_beq_eq_true hb2) (h H locs σ lc hH hl ho fun w hw => ?_)
      rcases List.mem_cons.mp hw with e | e
      · rw [e]; exact hst a List.mem_cons_self
      · exact hst w e
  case dup2 =>
    obtain ⟨s, h1, h2⟩ := jmap_s hs
    cases h2
    rcases st with _ | ⟨a, _ | ⟨b, r⟩⟩
    · cases h1
    · cases h1
    · obtain ⟨hb2, rfl⟩ := jif_s h1
      simp only [Bool.and_eq_true] at hb2
      intro H locs σ lc hH hl ho hst
      refine lv_dup2_11 hx hb d (by rw [jcat_v]; exact Nat.eq_of_beq_eq_true hb2.1) (by rw [jcat_v]; exact Nat.eq_of_beq_eq_true hb2.2) (h H locs σ lc hH hl ho fun w hw => ?_)
      rcases List.mem_cons.mp hw with e | e
      · rw [e]; exact hst a List.mem_cons_self
      · rcases List.mem_cons.mp e with e | e
        · rw [e]; exact hst b (List.mem_cons_of_mem _ List.mem_cons_self)
        · exact hst w e
  all_goals cases hs
theorem J_blk (C : jC X cc own) (hlk : jlkOK own lk) (hcl : jcl S) (is : List Instr) (hb : jbk cc pc is = true) (hr : jrun lk S μ (xN X) is ls st = some (ls', st')) {p1 : Nat} (hp : jend pc is = p1) (h : J X S μ k n p1 ls' st') : J X S μ k n pc ls st := by
  induction is generalizing pc ls st with
  | nil =>
    cases hr
    subst hp
    exact h
  | cons i r ih =>
    unfold jbk at hb
    simp only [Bool.and_eq_true, decide_eq_true_eq] at hb
    unfold jrun at hr
    split at hr
    · rename_i l1 s1 h1
      exact J_stp C hlk hcl hb.1.1 hb.1.2 h1 (ih hb.2 hr hp)
    · cases hr
end STEP
