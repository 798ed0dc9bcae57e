section RUN
variable {X : jX} {S : List jSh} {μ : jMu} {k n pc : Nat} {ls ls' : List (Nat × jA)} {st st' : List jA} {cc : ByteArray} {own : String} {α : Type}
/-- an exception is under way at this pc -/
def JX (X : jX) (S : List jSh) (μ : jMu) (k n : Nat) (pc : Nat) (ls : List (Nat × jA)) (E : String) : Prop :=
  ∀ (H : Heap) (locs : List Loc) (σ : Nat → Nat) (lc : Array Slot) (q : Addr) (ce : Cell) (rest : List Value), jH X S μ H locs σ → lv_has lc (xN X) (jlv σ ls) → H[q]? = some ce → ce.vm = .none → (xs X).vm.findClass E = some ce.cls →
    vx_W (xp X) (xl X) (xe X) (xR X) (xs X) (xm X) (xa X) (xb X) (xM X) (xc X) H locs k n (xQ X) (F0 (xm X) pc lc rest) q
theorem jPc_blind {G : jG} {σ : Nat → Nat} {as : List jA} : FrameBlind (jPc G σ as S μ) := by
  intro a U g mk h
  obtain ⟨h1, ⟨hP, hD, hK, hok, hoks, hFz⟩, h3⟩ := h
  refine ⟨h1, ⟨hP, hD, va_K.moved (u := U) (U := U.calling g mk a) (Vm.Alike.refl U.vm) hK, hok, hoks, ?_⟩, h3⟩
  exact jFz.go (u := U) (U := U.calling g mk a) (H := U.heap) (Vm.Alike.refl U.vm) (State.WarmedH.refl U) hFz (Nat.le_refl _) (fun _ _ _ => rfl)
theorem jPc_at (C : jC X cc own) {H : Heap} {locs : List Loc} {σ : Nat → Nat} {as : List jA} (hH : jH X S μ H locs σ) (hok : ∀ a ∈ as, jokv S a) : ∀ U : State, U.heap = H → (xs X).WarmedH U.vm → jPc (xG X) σ as S μ (as.map (jv σ)).toArray U := by
  obtain ⟨hx, hb, hml, hown, hts, hK, hFz, hlo, hst0⟩ := C
  intro U hU hW
  refine ⟨rfl, ⟨by rw [hU]; exact hH.1, hH.2.1, va_K.moved hW.alike hK, hH.2.2.2.1, hH.2.2.2.2.1, ?_⟩, hok⟩
  rw [hU]
  exact jFz.go hW.alike hW hFz hH.2.2.1.1 hH.2.2.1.2.1
/-- behind a call -/
theorem J_run (C : jC X cc own) {stk rest : List jA} {mc ms : Nat} {o : Option jA ⊕ String} {S' : List jSh} {μ' : jMu} (hn : xn X ≤ S.length) (hlen : S.length ≤ S'.length) (hrest : ∀ v ∈ rest, v ∈ stk)
    (hr : ∀ (H : Heap) (locs : List Loc) (σ : Nat → Nat) (lc : Array Slot), jH X S μ H locs σ → lv_has lc (xN X) (jlv σ ls) → (∀ v ∈ stk, jokv S v) → ∃ aa : Array Value, vx_Run (xp X) (xl X) (xe X) (xR X) (xs X) (xm X) (xa X) (xb X) (xM X) (xc X) H locs k n mc ms (F0 (xm X) pc lc (stk.map (jv σ))) (rest.map (jv σ)) (jQc (xG X) σ S.length o S' μ' aa) (jXc (xG X) σ S.length o S' μ') (gA (xG X)))
    (kk : ∀ v, o = .inl v → J X S' μ' (k + mc) (n + ms) (pc + 3) ls (v.toList ++ rest)) (kx : ∀ E, o = .inr E → JX X S' μ' (k + mc) (n + ms) pc ls E) : J X S μ k n pc ls stk := by
  intro H locs σ lc hH hl ho hst
  obtain ⟨aa, hr⟩ := hr H locs σ lc hH hl hst
  have hA : ∀ q, q < H.size → gA (xG X) q → gA (xG X) q := fun _ _ z => z
  have go : ∀ (σ' : Nat → Nat) (t T' : State) (L : List Loc), jPo (xG X) σ' S' μ' t → (∀ i, i < S.length ∨ jXS ≤ i → σ' i = σ i) → T'.heap = t.heap → va_S (gA (xG X)) (xs X).heap T'.heap (locs ++ L) → jH X S' μ' T'.heap (locs ++ L) σ' := by
    intro σ' t T' L hPo hext e1 k3
    refine ⟨by rw [e1]; exact hPo.1, hPo.2.1, k3, hPo.2.2, ⟨?_, fun i hi => ?_, fun i hi => ?_⟩, fun i hi => ?_⟩
    · rw [hext _ (Or.inr (Nat.le_refl _))]; exact hH.2.2.2.2.1.1
    · rw [hext _ (Or.inr (by unfold jXS jXK; omega))]; exact hH.2.2.2.2.1.2.1 i hi
    · rw [hext _ (Or.inr (by unfold jXS jXB; omega))]; exact hH.2.2.2.2.1.2.2 i hi
    · rw [hext i (hi.elim (fun h => Or.inl (by omega)) Or.inr)]; exact hH.2.2.2.2.2 i hi
  intro T hT XS
  rcases hr T hT XS with ⟨v, st₀, t, T', L, h0, X', hL, e1, e2, ⟨⟨vv, σ', hov, hv, hPo, hext, hokv⟩, hF⟩, stp⟩ | ⟨q, st₀, t, T', L, E, ce, h0, X', hL, e1, e2, ⟨⟨σ', hoE, hPo, hext⟩, hF⟩, hce, hcv, hcl, stp⟩
  · cases hv
    obtain ⟨k1, k2, k3⟩ := vx_keep h0 e1 hH.2.2.1 hA (fun _ z => z) hL hF
    have hH' := go σ' t T' L hPo hext e1 k3
    have h9 := kk vv hov T'.heap (locs ++ L) σ' lc hH' (by rw [jlv_ext ho hext]; exact hl) (fun q hq => jokv_app (ho q hq) hlen) (fun w hw => by
      rcases List.mem_append.mp hw with e | e
      · exact hokv w (by cases vv with | none => cases e | some a => rw [List.mem_singleton.mp e])
      · exact jokv_app (hst w (hrest w e)) hlen)
    rw [List.map_append, jst_ext (fun w hw => hst w (hrest w hw)) hext] at h9
    obtain ⟨t2, a1, b1⟩ := h9 T' rfl X'
    refine ⟨t2, stp t2 ?_, b1⟩
    cases vv with
    | none => exact a1
    | some a => exact a1
  · obtain ⟨k1, k2, k3⟩ := vx_keep h0 e1 hH.2.2.1 hA (fun _ z => z) hL hF
    have hH' := go σ' t T' L hPo hext e1 k3
    obtain ⟨t2, a1, b1⟩ := kx E hoE T'.heap (locs ++ L) σ' lc q ce _ hH' (by rw [jlv_ext ho hext]; exact hl) (by rw [e1]; exact hce) hcv hcl T' rfl X'
    exact ⟨t2, stp.trans a1, b1⟩
/-- what a call needs of the tables for its callee -/
def jCal (y : MethodName) (cw : Cond) (m : Nat) : Prop := cw ∈ jWG ∧ Cond.initialized y.cls ∈ jWG ∧ (y.cls ≠ "java/lang/invoke/MethodHandle" ∧ y.cls ≠ "java/lang/invoke/VarHandle") ∧ (parseMethodDescriptor y.desc).map (fun d => d.parameters.length) = some m
theorem jCal_n {y : MethodName} {cw : Cond} {m : Nat} (h : jCal y cw m) : ∀ sig, parseMethodDescriptor y.desc = some sig → m = sig.parameters.length := by
  intro sig hs
  have h2 := h.2.2.2
  rw [hs] at h2
  exact (Option.some.inj h2).symm
theorem jCal_ws (C : jC X cc own) {y : MethodName} {cw : Cond} {m : Nat} (h : jCal y cw m) : ∀ w ∈ cw :: jWG, ∀ (a' : Array Value) (U : State), (xs X).WarmedH U.vm → w.before a' U = true := by
  intro w hw a' U hW
  have hm : w ∈ jWG := by
    rcases List.mem_cons.mp hw with e | e
    · rw [e]; exact h.1
    · exact e
  exact word_at hW (j_wgood hm) (C.2.2.2.2.1 w hm)
/-- how the room of a callee fits -/
def jRm' (R rm : Room) (k n maxL : Nat) : Bool := Nat.ble (rm.frames + 1) R.frames && Nat.ble (8 + (maxL + 11) + rm.locals) R.locals && Nat.ble (k + rm.cells) R.cells && Nat.ble (n + rm.slots) R.slots
theorem jRm_s {R rm : Room} {maxL : Nat} (h : jRm' R rm k n maxL = true) : rm.frames + 1 ≤ R.frames ∧ 8 + (maxL + 11) + rm.locals ≤ R.locals ∧ k + rm.cells ≤ R.cells ∧ n + rm.slots ≤ R.slots := by
  unfold jRm' at h
  simp only [Bool.and_eq_true] at h
  exact ⟨Nat.le_of_ble_eq_true h.1.1.1, Nat.le_of_ble_eq_true h.1.1.2, Nat.le_of_ble_eq_true h.1.2, Nat.le_of_ble_eq_true h.2⟩
theorem jrest8 {pc : Nat} {lc : Array Slot} {s0 : List Value} {σ : Nat → Nat} {rest : List jA} (h : (rest.map jcat).sum ≤ 8) : 2 * (F0 (xm X) pc lc s0).monitorRoom + ((rest.map (jv σ)).map fun v => v.category).sum ≤ 8 := by
  rw [jcat_sum]
  have : (F0 (xm X) pc lc s0).monitorRoom = 0 := rfl
  omega
theorem jstk (σ : Nat → Nat) (as rest : List jA) : (as.reverse ++ rest).map (jv σ) = (as.map (jv σ)).reverse ++ rest.map (jv σ) := by rw [List.map_append, List.map_reverse]
theorem J_callV (C : jC X cc own) {idx maxL m i ci : Nat} {y : MethodName} {cy : ByteArray} {ret : Option FieldType} {R rm : Room} {as rest stk : List jA} {o : Option jA ⊕ String} {S' : List jSh} {μ' : jMu} {Cn : String} {T : u_T} {N : Nat} {rf : List (Option (Option Nat))}
    (hcal : jCal y (.code y cy maxL ret) m) (hinst : Cond.instanceMethod y ∈ jWG) (hsel : Cond.selects Cn y y ∈ jWG) (hlink : Cond.methodLink own idx y ∈ jWG) (hM : jCt (xl X) (xG X) y (.code y cy maxL ret :: jWG) rm (jR i :: as) S μ o S' μ') (hn : xn X ≤ S.length) (hlen : S.length ≤ S'.length) (hR : xR X = R) (hroom : jRm' R rm k n maxL = true)
    (hs : S[i]? = some (.inl (ci, rf))) (hc : vwCl[ci]? = some (Cn, T, N)) (hstk : stk = as.reverse ++ jR i :: rest) (hm : as.length = m) (h8 : (rest.map jcat).sum ≤ 8) (d : decode cc pc = .ok (.invokevirtual idx, 3))
    (kk : ∀ v, o = .inl v → J X S' μ' (k + rm.cells) (n + rm.slots) (pc + 3) ls (v.toList ++ rest)) (kx : ∀ E, o = .inr E → JX X S' μ' (k + rm.cells) (n + rm.slots) pc ls E) : J X S μ k n pc ls stk := by
  subst hR hstk
  obtain ⟨r1, r2, r3, r4⟩ := jRm_s hroom
  refine J_run C hn hlen (fun v hv => List.mem_append_right _ (List.mem_cons_of_mem _ hv)) (fun H locs σ lc hH hl hok => ?_) kk kx
  have CC := C
  obtain ⟨hx, hb, hml, hown, hts, hK, hFz, hlo, hst0⟩ := C
  have hokA : ∀ a ∈ jR i :: as, jokv S a := fun a ha => by
    rcases List.mem_cons.mp ha with e | e
    · rw [e]; exact Or.inl (List.getElem?_eq_some_iff.mp hs).1
    · exact hok a (List.mem_append_left _ (List.mem_reverse.mpr e))
  have he : (jw (xG X) σ S μ)[i]? = some (σ i, .inr (ci, jfs σ μ i rf)) := jw_at hs
  refine ⟨_, vx_runV (C := Cn) (index := idx) (bytes := cy) (maxL := maxL) (ret := ret) (b := σ i) (As := as.map (jv σ)) (n := m) ⟨hx, hb, hml, hown, hts⟩ (hM σ) ⟨⟨rfl, rfl, r1, r2, jCal_ws CC hcal, List.mem_cons_self, hts _ hcal.1, hts _ hcal.2.1, hcal.2.2.1, jCal_n hcal, hts _ hlink⟩, hts _ hinst, hts _ hsel⟩ ⟨jPc_blind, va_recv hK hH.1 hc he, fun U hU hW => jPc_at CC hH hokA U hU hW⟩ rfl (by rw [List.length_map]; exact hm) (hl.1) (jstk σ as (jR i :: rest)) (jrest8 h8) d ⟨r3, r4⟩⟩
theorem J_callS (C : jC X cc own) {idx maxL m : Nat} {y : MethodName} {cy : ByteArray} {ret : Option FieldType} {R rm : Room} {as rest stk : List jA} {o : Option jA ⊕ String} {S' : List jSh} {μ' : jMu}
    (hcal : jCal y (.code y cy maxL ret) m) (hstat : Cond.static y ∈ jWG) (hlink : Cond.methodLink own idx y ∈ jWG) (hM : jCt (xl X) (xG X) y (.code y cy maxL ret :: jWG) rm as S μ o S' μ') (hn : xn X ≤ S.length) (hlen : S.length ≤ S'.length) (hR : xR X = R) (hroom : jRm' R rm k n maxL = true)
    (hstk : stk = as.reverse ++ rest) (hm : as.length = m) (h8 : (rest.map jcat).sum ≤ 8) (d : decode cc pc = .ok (.invokestatic idx, 3))
    (kk : ∀ v, o = .inl v → J X S' μ' (k + rm.cells) (n + rm.slots) (pc + 3) ls (v.toList ++ rest)) (kx : ∀ E, o = .inr E → JX X S' μ' (k + rm.cells) (n + rm.slots) pc ls E) : J X S μ k n pc ls stk := by
  subst hR hstk
  obtain ⟨r1, r2, r3, r4⟩ := jRm_s hroom
  refine J_run C hn hlen (fun v hv => List.mem_append_right _ hv) (fun H locs σ lc hH hl hok => ?_) kk kx
  have CC := C
  obtain ⟨hx, hb, hml, hown, hts, hK, hFz, hlo, hst0⟩ := C
  have hokA : ∀ a ∈ as, jokv S a := fun a ha => hok a (List.mem_append_left _ (List.mem_reverse.mpr ha))
  refine ⟨_, vx_runS (index := idx) (bytes := cy) (maxL := maxL) (ret := ret) (As := as.map (jv σ)) (n := m) ⟨hx, hb, hml, hown, hts⟩ (hM σ) ⟨⟨rfl, rfl, r1, r2, jCal_ws CC hcal, List.mem_cons_self, hts _ hcal.1, hts _ hcal.2.1, hcal.2.2.1, jCal_n hcal, hts _ hlink⟩, hts _ hstat⟩ ⟨jPc_blind, fun U hU hW => jPc_at CC hH hokA U hU hW⟩ rfl (by rw [List.length_map]; exact hm) (hl.1) (jstk σ as rest) (jrest8 h8) d ⟨r3, r4⟩⟩
/-- a callee with handlers -/
theorem J_callH (C : jC X cc own) {idx maxL m : Nat} {y : MethodName} {cy : ByteArray} {ret : Option FieldType} {hh : List (Nat × Nat × Nat × Nat)} {R rm : Room} {as rest stk : List jA} {o : Option jA ⊕ String} {S' : List jSh} {μ' : jMu}
    (hcal : jCal y (.codeWith y cy maxL ret hh) m) (hstat : Cond.static y ∈ jWG) (hlink : Cond.methodLink own idx y ∈ jWG) (hM : jCt (xl X) (xG X) y (.codeWith y cy maxL ret hh :: jWG) rm as S μ o S' μ') (hn : xn X ≤ S.length) (hlen : S.length ≤ S'.length) (hR : xR X = R) (hroom : jRm' R rm k n maxL = true)
    (hstk : stk = as.reverse ++ rest) (hm : as.length = m) (h8 : (rest.map jcat).sum ≤ 8) (d : decode cc pc = .ok (.invokestatic idx, 3))
    (kk : ∀ v, o = .inl v → J X S' μ' (k + rm.cells) (n + rm.slots) (pc + 3) ls (v.toList ++ rest)) (kx : ∀ E, o = .inr E → JX X S' μ' (k + rm.cells) (n + rm.slots) pc ls E) : J X S μ k n pc ls stk := by
  subst hR hstk
  obtain ⟨r1, r2, r3, r4⟩ := jRm_s hroom
  refine J_run C hn hlen (fun v hv => List.mem_append_right _ hv) (fun H locs σ lc hH hl hok => ?_) kk kx
  have CC := C
  obtain ⟨hx, hb, hml, hown, hts, hK, hFz, hlo, hst0⟩ := C
  have hokA : ∀ a ∈ as, jokv S a := fun a ha => hok a (List.mem_append_left _ (List.mem_reverse.mpr ha))
  refine ⟨_, vx_runSX (index := idx) (bytes := cy) (maxL := maxL) (ret := ret) (hh := hh) (As := as.map (jv σ)) (n := m) ⟨hx, hb, hml, hown, hts⟩ (hM σ) ⟨⟨rfl, rfl, r1, r2, jCal_ws CC hcal, List.mem_cons_self⟩, hts _ hcal.1, hts _ hcal.2.1, hcal.2.2.1, jCal_n hcal, hts _ hlink, hts _ hstat⟩ ⟨jPc_blind, fun U hU hW => jPc_at CC hH hokA U hU hW⟩ rfl (by rw [List.length_map]; exact hm) (hl.1) (jstk σ as rest) (jrest8 h8) d ⟨r3, r4⟩⟩
/-- a constructor -/
theorem J_callI (C : jC X cc own) {idx maxL m i : Nat} {y : MethodName} {cy : ByteArray} {R rm : Room} {as rest stk : List jA} {o : Option jA ⊕ String} {S' : List jSh} {μ' : jMu}
    (hcal : jCal y (.code y cy maxL none) m) (hinst : Cond.instanceMethod y ∈ jWG) (hname : y.name = "<init>") (hlink : Cond.methodLink own idx y ∈ jWG) (hM : jCt (xl X) (xG X) y (.code y cy maxL none :: jWG) rm (jR i :: as) S μ o S' μ') (hn : xn X ≤ S.length) (hlen : S.length ≤ S'.length) (hR : xR X = R) (hroom : jRm' R rm k n maxL = true)
    (hi : i < S.length) (hstk : stk = as.reverse ++ jR i :: rest) (hm : as.length = m) (h8 : (rest.map jcat).sum ≤ 8) (d : decode cc pc = .ok (.invokespecial idx, 3))
    (kk : ∀ v, o = .inl v → J X S' μ' (k + rm.cells) (n + rm.slots) (pc + 3) ls (v.toList ++ rest)) (kx : ∀ E, o = .inr E → JX X S' μ' (k + rm.cells) (n + rm.slots) pc ls E) : J X S μ k n pc ls stk := by
  subst hR hstk
  obtain ⟨r1, r2, r3, r4⟩ := jRm_s hroom
  refine J_run C hn hlen (fun v hv => List.mem_append_right _ (List.mem_cons_of_mem _ hv)) (fun H locs σ lc hH hl hok => ?_) kk kx
  have CC := C
  obtain ⟨hx, hb, hml, hown, hts, hK, hFz, hlo, hst0⟩ := C
  have hokA : ∀ a ∈ jR i :: as, jokv S a := fun a ha => by
    rcases List.mem_cons.mp ha with e | e
    · rw [e]; exact Or.inl hi
    · exact hok a (List.mem_append_left _ (List.mem_reverse.mpr e))
  refine ⟨_, vx_runI (index := idx) (bytes := cy) (maxL := maxL) (b := σ i) (As := as.map (jv σ)) (n := m) ⟨hx, hb, hml, hown, hts⟩ (hM σ) ⟨⟨rfl, rfl, r1, r2, jCal_ws CC hcal, List.mem_cons_self, hts _ hcal.1, hts _ hcal.2.1, hcal.2.2.1, jCal_n hcal, hts _ hlink⟩, hname, hts _ hinst⟩ ⟨jPc_blind, fun U hU hW => jPc_at CC hH hokA U hU hW⟩ rfl (by rw [List.length_map]; exact hm) (hl.1) (jstk σ as (jR i :: rest)) (jrest8 h8) d ⟨r3, r4⟩⟩
/-- not caught here: it goes on to the caller -/
theorem JX_out (C : jC X cc own) {E : String} {mc ms : Nat} (hno : ∀ x ∈ (xc X).exceptionTable.toList, False) (hq : jQ X (.inr E) S μ mc ms) (hk : k ≤ mc) (hs : n ≤ ms) : JX X S μ k n pc ls E := by
  obtain ⟨hx, hb, hml, hown, hts, hK, hFz, hlo, hst0⟩ := C
  intro H locs σ lc q ce rest hH hl hce hcv hcl
  rw [show xQ X = _ from hq]
  exact vx_out (fun x hx => (hno x hx).elim) hlo hce hcv hcl (fun t ht hA => ⟨⟨σ, rfl, jPo_of hH ht, hH.2.2.2.2.2⟩, jF_of hH ht⟩) hH.2.2.1.2.2 hk hs
end RUN
