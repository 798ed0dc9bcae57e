section CALLS
variable {X : jX} {S : List jSh} {μ : jMu} {k n pc : Nat} {ls ls' : List (Nat × jA)} {st st' : List jA} {cc : ByteArray} {own : String} {lk : List (Nat × Nat × Nat)} {α : Type}
theorem J_new (C : jC X cc own) {idx ci N i : Nat} {Cn : String} {T : u_T} {rf : List (Option (Option Nat))} {S' : List jSh} {R : Room} (hcl : jcl S) (hc : vwCl[ci]? = some (Cn, T, N)) (ty : Nat → FieldType) (hty : ∀ j, j < N → parseFieldDescriptor (T j).2.2.1 = some (ty j)) (hdef : ∀ j, j < N → (rf[j]? = some none ∧ defaultValue (ty j) = .int 0) ∨ (rf[j]? = some (some none) ∧ defaultValue (ty j) = .null)) (hrf : ∀ j y : Nat, rf[j]? ≠ some (some (some y)))
    (hw1 : Cond.classLink own idx Cn ∈ jWG) (hw2 : Cond.instantiable Cn N ∈ jWG) (hw3 : Cond.initialized Cn ∈ jWG) (hn : xn X ≤ S.length) (hl : S.length + 1 ≤ 100000) (hR : xR X = R) (hk : k + 1 ≤ R.cells) (hsl : n + N ≤ R.slots) (d : decode cc pc = .ok (.new idx, 3)) (hi : S.length = i) (hS : S ++ [.inl (ci, rf)] = S')
    (h : J X S' (jzr μ i) (k + 1) (n + N) (pc + 3) ls (jR i :: st)) : J X S μ k n pc ls st := by
  subst hi hS hR
  obtain ⟨hx, hb, hml, hown, hts, hK, hFz, hlo, hst0⟩ := C
  intro H locs σ lc hH hl0 ho hst
  have hq := j_cls _ (List.mem_of_getElem? hc)
  have hA : ∀ q, (xs X).heap.size ≤ q → gA (xG X) q := fun q h9 => Nat.le_trans hFz.2.2.2.2.2.2.1 h9
  refine va_new (C := Cn) (T := T) (N := N) (fs := jfs σ (jzr μ S.length) S.length rf) hx hb hts hq ty hty hown (hts _ hw1) (hts _ hw2) (hts _ hw3) hK hH.1 hH.2.1 hH.2.2.1 hA hc (fun j hj => ?_) hk hsl d fun q H1 hP hD hS => ?_
  · unfold vp_V
    rcases hdef j hj with ⟨h1, h2⟩ | ⟨h1, h2⟩
    · rw [List.getD_eq_getElem?_getD, jfs_at h1, h2]
      show Value.int 0 = Value.int (Int32.ofInt (if S.length = S.length then 0 else _))
      rw [if_pos rfl]
      rfl
    · rw [List.getD_eq_getElem?_getD, jfs_at h1, h2]
      rfl
  · have hH1 := jH_push (sh := .inl (ci, rf)) (μ' := jzr μ S.length) hcl hl hn hH rfl (fun ci' rf' e j y => by cases e; exact hrf j y) (fun c hc => by unfold jzr; funext x; rw [if_neg hc]) (jzr_ok hH.2.2.2.1 hl) hP hD hS
    have hext : ∀ c, c < S.length ∨ jXS ≤ c → (fun c => if c = S.length then q else σ c) c = σ c := fun c hc => by
      show (if c = S.length then q else σ c) = σ c
      rw [if_neg (by unfold jXS at hc; omega)]
    have h9 := h H1 locs _ lc hH1 (by rw [jlv_ext ho hext]; exact hl0) (fun q hq => jokv_app (ho q hq) (by rw [List.length_append]; omega)) (fun w hw => by
      rcases List.mem_cons.mp hw with e | e
      · rw [e]
        exact Or.inl (by rw [List.length_append]; simp)
      · exact jokv_app (hst w e) (by rw [List.length_append]; omega))
    rw [List.map_cons, jst_ext hst hext] at h9
    have e1 : jv (fun c => if c = S.length then q else σ c) (jR S.length) = .ref q := by
      show Value.ref (if S.length = S.length then q else σ S.length) = _
      rw [if_pos rfl]
    rw [e1] at h9
    exact h9
def jaty : Nat → FieldType
  | 0 => .int
  | 1 => .boolean
  | _ => .long
theorem J_newa (C : jC X cc own) {ak N i : Nat} {atype : ArrayType} {z : Int} {S' : List jSh} {R : Room} (hcl : jcl S) (hak : ak < 3) (hat : newarray.typeOf atype = jaty ak) (hw : Cond.arrayClass (newarray.typeOf atype) ∈ jWG) (hz : z = (N : Int)) (hN : N ≤ 100000) (hn : xn X ≤ S.length) (hl : S.length + 1 ≤ 100000) (hR : xR X = R) (hk : k + 1 ≤ R.cells) (hsl : n + N ≤ R.slots) (d : decode cc pc = .ok (.newarray atype, 2)) (hi : S.length = i) (hS : S ++ [.inr (ak, N)] = S')
    (h : J X S' (jzr μ i) (k + 1) (n + N) (pc + 2) ls (jR i :: st)) : J X S μ k n pc ls (jI z :: st) := by
  subst hi hS hR hz
  obtain ⟨hx, hb, hml, hown, hts, hK, hFz, hlo, hst0⟩ := C
  intro H locs σ lc hH hl0 ho hst
  have hA : ∀ q, (xs X).heap.size ≤ q → gA (xG X) q := fun q h9 => Nat.le_trans hFz.2.2.2.2.2.2.1 h9
  have hI : jIn N := by unfold jIn; omega
  have hcN : (Int32.ofInt (N : Int)).toNatClampNeg = N := by rw [j_clamp hI]; omega
  refine va_newa (ty := jaty ak) (N' := N) (a0 := (N, jarr (jzr μ S.length) S.length ak)) hx hb (hts _ hw) hat hK hH.1 hH.2.1 hH.2.2.1 hA (fun cA => ?_) (fun z9 => ?_) hcN ?_ hk hsl d fun q cA H1 hK1 hP hD hS => ?_
  · have hz : ∀ j : Nat, jzr μ S.length S.length j = 0 := fun j => by unfold jzr; rw [if_pos rfl]
    rcases (show ak = 0 ∨ ak = 1 ∨ ak = 2 by omega) with rfl | rfl | rfl
    · show arrV cA N (fun j => .int (Int32.ofInt (jzr μ S.length S.length j))) = _
      congr 1
      funext j
      rw [hz]
      rfl
    · show arrV cA N (fun j => .int (Int32.ofInt (jzr μ S.length S.length j))) = _
      congr 1
      funext j
      rw [hz]
      rfl
    · show arrV cA N (fun j => .long (Int64.ofInt (jzr μ S.length S.length j))) = _
      congr 1
      funext j
      rw [hz]
      rfl
  · have := (j_lt hI j_in0).mp z9
    omega
  · rcases (show ak = 0 ∨ ak = 1 ∨ ak = 2 by omega) with rfl | rfl | rfl
    · show N * 4 ≤ _; omega
    · show N * 1 ≤ _; omega
    · show N * 8 ≤ _; omega
  · have hcA : cA = gC (xG X) ak := by
      have h1 := (hK1.2 3 (cA, jaty ak) rfl).2
      rcases (show ak = 0 ∨ ak = 1 ∨ ak = 2 by omega) with rfl | rfl | rfl
      · have h2 := (hK.2 0 _ rfl).2
        exact Option.some.inj (Eq.trans (Eq.symm (show (xs X).vm.findClass ("[" ++ FieldType.int.toString) = some cA from h1)) h2)
      · have h2 := (hK.2 1 _ rfl).2
        exact Option.some.inj (Eq.trans (Eq.symm (show (xs X).vm.findClass ("[" ++ FieldType.boolean.toString) = some cA from h1)) h2)
      · have h2 := (hK.2 2 _ rfl).2
        exact Option.some.inj (Eq.trans (Eq.symm (show (xs X).vm.findClass ("[" ++ FieldType.long.toString) = some cA from h1)) h2)
    subst hcA
    have hH1 := jH_push (sh := .inr (ak, N)) (μ' := jzr μ S.length) hcl hl hn hH rfl (fun ci' rf' e => by cases e) (fun c hc => by unfold jzr; funext x; rw [if_neg hc]) (jzr_ok hH.2.2.2.1 hl) hP hD hS
    have hext : ∀ c, c < S.length ∨ jXS ≤ c → (fun c => if c = S.length then q else σ c) c = σ c := fun c hc => by
      show (if c = S.length then q else σ c) = σ c
      rw [if_neg (by unfold jXS at hc; omega)]
    have hst2 : ∀ v ∈ st, jokv S v := fun w hw => hst w (List.mem_cons_of_mem _ hw)
    have h9 := h H1 locs _ lc hH1 (by rw [jlv_ext ho hext]; exact hl0) (fun q hq => jokv_app (ho q hq) (by rw [List.length_append]; omega)) (fun w hw => by
      rcases List.mem_cons.mp hw with e | e
      · rw [e]
        exact Or.inl (by rw [List.length_append]; simp)
      · exact jokv_app (hst2 w e) (by rw [List.length_append]; omega))
    rw [List.map_cons, jst_ext hst2 hext] at h9
    have e1 : jv (fun c => if c = S.length then q else σ c) (jR S.length) = .ref q := by
      show Value.ref (if S.length = S.length then q else σ S.length) = _
      rw [if_pos rfl]
    rw [e1] at h9
    exact h9
/-! contracts -/
def jPo (G : jG) (σ : Nat → Nat) (S : List jSh) (μ : jMu) (t : State) : Prop := va_P (gD G) vwCl (jw G σ S μ) t.heap ∧ va_D (gA G) (jw G σ S μ) ∧ jok S μ
def jQc (G : jG) (σ : Nat → Nat) (n0 : Nat) (o : Option jA ⊕ String) (S' : List jSh) (μ' : jMu) : Array Value → State → Outcome → State → Prop := fun _ s0 oc t =>
  (∃ (v : Option jA) (σ' : Nat → Nat), o = .inl v ∧ oc = .returned (v.map (jv σ')) ∧ jPo G σ' S' μ' t ∧ (∀ i, i < n0 ∨ jXS ≤ i → σ' i = σ i) ∧ (∀ a, v = some a → jokv S' a)) ∧ va_F (gA G) s0 t
def jXc (G : jG) (σ : Nat → Nat) (n0 : Nat) (o : Option jA ⊕ String) (S' : List jSh) (μ' : jMu) : String → State → State → Prop := fun E s0 t =>
  (∃ σ' : Nat → Nat, o = .inr E ∧ jPo G σ' S' μ' t ∧ (∀ i, i < n0 ∨ jXS ≤ i → σ' i = σ i)) ∧ va_F (gA G) s0 t
def jPc (G : jG) (σ : Nat → Nat) (as : List jA) (S : List jSh) (μ : jMu) : Array Value → State → Prop := fun v U => v = (as.map (jv σ)).toArray ∧ jWd G σ S μ U ∧ ∀ a ∈ as, jokv S a
/-- method y, called with these arguments over this memory, ends so (a value, nothing, or an exception) and leaves that memory -/
def jCt (l : Launch) (G : jG) (y : MethodName) (ws : List Cond) (rm : Room) (as : List jA) (S : List jSh) (μ : jMu) (o : Option jA ⊕ String) (S' : List jSh) (μ' : jMu) : Prop :=
  ∀ σ : Nat → Nat, vx_Met l y ws rm (jPc G σ as S μ) (jQc G σ S.length o S' μ') (jXc G σ S.length o S' μ') rm.cells rm.slots (gA G)
/-- what a body owes -/
def jQ (X : jX) (o : Option jA ⊕ String) (S' : List jSh) (μ' : jMu) (mc ms : Nat) : Prop := xQ X = vx_MQ (xb X) (jQc (xG X) (xσ X) (xn X) o S' μ') (jXc (xG X) (xσ X) (xn X) o S' μ') (xa X) (xs X) mc ms (gA (xG X))
def jargs : Nat → List jA → List (Nat × jA)
  | _, [] => []
  | i, v :: vs => (i, v) :: jargs (i + jcat v) vs
theorem jargs_eq (σ : Nat → Nat) : ∀ (as : List jA) (i : Nat), lv_args i (as.map (jv σ)) = jlv σ (jargs i as)
  | [], _ => rfl
  | v :: vs, i => by
    show (i, jv σ v) :: lv_args _ (vs.map (jv σ)) = (i, jv σ v) :: jlv σ (jargs (i + jcat v) vs)
    have e : (if (jv σ v).category = 2 then i + 2 else i + 1) = i + jcat v := by
      rw [jcat_v]
      rcases v with z | z | _ | q <;> rfl
    rw [e, jargs_eq σ vs]
theorem jargs_mem {as : List jA} : ∀ {i : Nat} {q : Nat × jA}, q ∈ jargs i as → q.2 ∈ as := by
  induction as with
  | nil => intro i q h; cases h
  | cons v vs ih =>
    intro i q h
    rcases List.mem_cons.mp h with e | e
    · rw [e]; exact List.mem_cons_self
    · exact List.mem_cons_of_mem _ (ih e)
theorem lg_sl_len (σ : Nat → Nat) : ∀ as : List jA, (lg_sl (as.map (jv σ))).length = (as.map jcat).sum
  | [] => rfl
  | v :: vs => by
    show ((if (jv σ v).category = 2 then [Slot.val (jv σ v), .second] else [Slot.val (jv σ v)]) ++ lg_sl (vs.map (jv σ))).length = _
    rw [List.length_append, lg_sl_len σ vs, List.map_cons, List.sum_cons, jcat_v]
    rcases v with z | z | _ | q <;> rfl
/-- where a body with no handlers begins -/
theorem J_begin {l : Launch} {G : jG} {y : MethodName} {maxL : Nat} {ret : Option FieldType} {rm : Room} {as : List jA} {ls0 : List (Nat × jA)} {p : Program} {e : Env} {s : State} {m : MethodId} {args : Array Value} {below : List Frame} {meth : Method} {c : Code} {s₁ : State} {ws : List Cond} {σ : Nat → Nat}
    (hfl : l.stackTraces = false) (hargs : (as.map jcat).sum ≤ maxL) (h0 : jargs 0 as = ls0) (hws : ∀ w ∈ jWG, w.before args s = true) (B : BodyLoose p l y (headSpec ws rm) cc maxL ret e s m args below meth c s₁) (hml : c.maxLocals = maxL) (hP : jPc G σ as S μ args s) {Q : State → Prop}
    (body : jC (G, maxL, σ, S.length, p, l, e, (headSpec ws rm).room, s, m, args, below, meth, c, Q) cc y.cls → J (G, maxL, σ, S.length, p, l, e, (headSpec ws rm).room, s, m, args, below, meth, c, Q) S μ 0 0 0 ls0 []) :
    W p l e (headSpec ws rm).room s m args below meth c s.heap [] 0 0 Q (entryFrame m args maxL) := by
  obtain ⟨rfl, ⟨hP, hD, hK, hok, hoks, hFz⟩, hokv⟩ := hP
  have hl := lv_entry (as.map (jv σ)) (n := maxL) (by rw [lg_sl_len]; exact hargs)
  rw [jargs_eq, h0] at hl
  rw [lg_entry_eq]
  have hC : jC (G, maxL, σ, S.length, p, l, e, (headSpec ws rm).room, s, m, (as.map (jv σ)).toArray, below, meth, c, Q) cc y.cls := ⟨B.exec, B.bytes, hml, findClass_of_methodNamed B.named, hws, hK, hFz, B.notSynchronized, hfl⟩
  refine body hC s.heap [] σ _ ⟨hP, hD, va_S.rf, hok, hoks, fun i _ => rfl⟩ hl (fun q hq => ?_) (fun v hv => by cases hv)
  rw [← h0] at hq
  exact hokv _ (jargs_mem hq)
theorem J_start {l : Launch} {G : jG} {y : MethodName} {maxL : Nat} {ret : Option FieldType} {rm : Room} {as : List jA} {o : Option jA ⊕ String} {S' : List jSh} {μ' : jMu} {ls0 : List (Nat × jA)} (hy : plainName y.cls = true) (hfl : l.stackTraces = false) (hargs : (as.map jcat).sum ≤ maxL) (h0 : jargs 0 as = ls0)
    (body : ∀ X : jX, jC X cc y.cls → xN X = maxL → xn X = S.length → xR X = rm → (xM X).sig.returnType = ret → (xM X).name = y.name → (∀ x ∈ (xc X).exceptionTable.toList, False) → jQ X o S' μ' rm.cells rm.slots → J X S μ 0 0 0 ls0 []) :
    jCt l G y (.code y cc maxL ret :: jWG) rm as S μ o S' μ' := by
  intro σ
  refine vx_ofW (cc := cc) (maxL := maxL) (ret := ret) hy rfl ?_
  intro p e s m args below meth c s₁ B hml hno hP
  refine J_begin hfl hargs h0 (fun w hw => atoms_spec (ws := .code y cc maxL ret :: jWG) B.pre w (List.mem_cons_of_mem _ hw)) B hml hP fun hC => ?_
  exact body _ hC rfl rfl rfl B.returns (name_of_methodNamed B.named B.method).1 hno rfl
/-- a body with handlers -/
theorem J_startH {l : Launch} {G : jG} {y : MethodName} {maxL : Nat} {ret : Option FieldType} {hh : List (Nat × Nat × Nat × Nat)} {rm : Room} {as : List jA} {o : Option jA ⊕ String} {S' : List jSh} {μ' : jMu} {ls0 : List (Nat × jA)} (hy : plainName y.cls = true) (hfl : l.stackTraces = false) (hargs : (as.map jcat).sum ≤ maxL) (h0 : jargs 0 as = ls0)
    (body : ∀ X : jX, jC X cc y.cls → xN X = maxL → xn X = S.length → xR X = rm → (xM X).sig.returnType = ret → (xc X).exceptionTable.toList = tableOf hh → jQ X o S' μ' rm.cells rm.slots → J X S μ 0 0 0 ls0 []) :
    jCt l G y (.codeWith y cc maxL ret hh :: jWG) rm as S μ o S' μ' := by
  intro σ
  refine vx_ofWH (cc := cc) (maxL := maxL) (ret := ret) (hh := hh) hy rfl ?_
  intro p e s m args below meth c s₁ B hml hP
  have hpre := atoms_spec (ws := .codeWith y cc maxL ret hh :: jWG) B.pre
  refine J_begin hfl hargs h0 (fun w hw => hpre w (List.mem_cons_of_mem _ hw)) B hml hP fun hC => ?_
  exact body _ hC rfl rfl rfl B.returns (vx_table (x := y) B (hpre _ List.mem_cons_self)) rfl
theorem jF_of {H : Heap} {locs : List Loc} {σ : Nat → Nat} {t : State} (hH : jH X S μ H locs σ) (ht : t.heap = H) : va_F (gA (xG X)) (xs X) t := ⟨by rw [ht]; exact hH.2.2.1.1, fun q h1 h2 => by rw [ht]; exact hH.2.2.1.2.1 q h1 h2⟩
theorem jPo_of {H : Heap} {locs : List Loc} {σ : Nat → Nat} {t : State} (hH : jH X S μ H locs σ) (ht : t.heap = H) : jPo (xG X) σ S μ t := ⟨by rw [ht]; exact hH.1, hH.2.1, hH.2.2.2.1⟩
theorem J_ret (C : jC X cc own) {z : Int} {mc ms : Nat} {ty : FieldType} (hq : jQ X (.inl (some (jI z))) S μ mc ms) (hr : (xM X).sig.returnType = some ty) (hn : narrow ty (.int (Int32.ofInt z)) = .int (Int32.ofInt z)) (hk : k ≤ mc) (hs : n ≤ ms) (d : decode cc pc = .ok (.ireturn, 1)) : J X S μ k n pc ls [jI z] := by
  obtain ⟨hx, hb, hml, hown, hts, hK, hFz, hlo, hst0⟩ := C
  intro H locs σ lc hH hl ho hst
  rw [show xQ X = _ from hq]
  refine W.widen hk hs (vx_ret (W.zret hx hb hr hn (fun t ht hW => ?_) hH.2.2.1.2.2 d hlo))
  exact ⟨⟨some (jI z), σ, rfl, rfl, jPo_of hH ht, hH.2.2.2.2.2, fun a ha => by cases ha; exact hst _ List.mem_cons_self⟩, jF_of hH ht⟩
theorem J_retI (C : jC X cc own) {z : Int} {mc ms : Nat} (hq : jQ X (.inl (some (jI z))) S μ mc ms) (hr : (xM X).sig.returnType = some .int) (hk : k ≤ mc) (hs : n ≤ ms) (d : decode cc pc = .ok (.ireturn, 1)) : J X S μ k n pc ls [jI z] := J_ret C hq hr rfl hk hs d
theorem J_retZ (C : jC X cc own) {z : Int} {mc ms : Nat} (hz : z = 0 ∨ z = 1) (hq : jQ X (.inl (some (jI z))) S μ mc ms) (hr : (xM X).sig.returnType = some .boolean) (hk : k ≤ mc) (hs : n ≤ ms) (d : decode cc pc = .ok (.ireturn, 1)) : J X S μ k n pc ls [jI z] := J_ret C hq hr (j_zn2 hz) hk hs d
theorem J_retL (C : jC X cc own) {z : Int} {mc ms : Nat} (hq : jQ X (.inl (some (jL z))) S μ mc ms) (hr : (xM X).sig.returnType = some .long) (hk : k ≤ mc) (hs : n ≤ ms) (d : decode cc pc = .ok (.lreturn, 1)) : J X S μ k n pc ls [jL z] := by
  obtain ⟨hx, hb, hml, hown, hts, hK, hFz, hlo, hst0⟩ := C
  intro H locs σ lc hH hl ho hst
  rw [show xQ X = _ from hq]
  refine W.widen hk hs (vx_ret (W.lret hx hb hr (fun t ht hW => ?_) hH.2.2.1.2.2 d hlo))
  exact ⟨⟨some (jL z), σ, rfl, rfl, jPo_of hH ht, hH.2.2.2.2.2, fun a ha => by cases ha; exact hst _ List.mem_cons_self⟩, jF_of hH ht⟩
theorem J_retV (C : jC X cc own) {mc ms : Nat} (hq : jQ X (.inl none) S μ mc ms) (hr : (xM X).sig.returnType = none) (hk : k ≤ mc) (hs : n ≤ ms) (d : decode cc pc = .ok (.return_, 1)) : J X S μ k n pc ls [] := by
  obtain ⟨hx, hb, hml, hown, hts, hK, hFz, hlo, hst0⟩ := C
  intro H locs σ lc hH hl ho hst
  rw [show xQ X = _ from hq]
  refine W.widen hk hs (vx_ret (W.vret hx hb hr (fun t ht hW => ?_) hH.2.2.1.2.2 d hlo))
  exact ⟨⟨none, σ, rfl, rfl, jPo_of hH ht, hH.2.2.2.2.2, fun a ha => by cases ha⟩, jF_of hH ht⟩
/-- the constructor of Object -/
theorem J_obj (C : jC X cc own) {idx i : Nat} {R : Room} (hw1 : Cond.methodLink own idx objectInit ∈ jWG) (hw2 : Cond.instanceMethod objectInit ∈ jWG) (hw3 : Cond.code objectInit ⟨#[0xb1]⟩ 1 none ∈ jWG) (hR : xR X = R) (h1 : 1 ≤ R.frames) (h2 : (st.map jcat).sum + 12 ≤ R.locals) (d : decode cc pc = .ok (.invokespecial idx, 3)) (h : J X S μ k n (pc + 3) ls st) : J X S μ k n pc ls (jR i :: st) := by
  subst hR
  obtain ⟨hx, hb, hml, hown, hts, hK, hFz, hlo, hst0⟩ := C
  intro H locs σ lc hH hl ho hst
  refine W.objInit hx hb hown (hts _ hw1) (hts _ hw2) (hts _ hw3) rfl (by rw [hml]; exact hl.1) rfl d h1 ?_ (h H locs σ lc hH hl ho fun w hw => hst w (List.mem_cons_of_mem _ hw))
  rw [jcat_sum]
  have : (F0 (xm X) pc lc ((jR i :: st).map (jv σ))).monitorRoom = 0 := rfl
  rw [this]
  omega
end CALLS
