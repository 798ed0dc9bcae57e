/-! THE CLAIM OUT OF ONE WALK OF THE LAW'S BODY. Your part is whole_start (and what it stands on); all else here is the same for every law, but numbers. -/
def R_law : String := "BridgePaintLaw"
def lw_P (b : Addr) (xs : List Int32) (args : Array Value) (s : State) : Prop := args = #[.ref b] ∧ s.IntsAt b xs ∧ xs.length ≤ 3584 ∧ (Jvm.Cond.and given_1 narrow_1).before args s = true
def lw_Q (_ : Array Value) (s : State) (o : Outcome) (t : State) : Prop := o = .returned (some (.int 1)) ∧ Framed s o t [] 601024 room_1.slots
def lw_Z (below : List Frame) (a : Array Value) (s : State) : State → Prop := fun t => ∃ o, t.status = .running ∧ Ended t below o ∧ lw_Q a s o t
/-- the law's own end, with 1 on the stack, nothing written that was there before, its room as the claim has it -/
theorem lw_ret {p : Program} {l : Launch} {e : Env} {s : State} {m : MethodId} {below : List Frame} {meth : Method} {c : Code} {b : Nat} (hx : p.tables.exec = Jvm.exec) (hb : c.code = code) (hr : meth.sig.returnType = ret) (hlocks : meth.locks = false) {pc : Nat} {H : Heap} {ls : Array Slot} (hdg : decode code pc = .ok (.ireturn, 1)) : W p l e room_1 s m #[Value.ref b] below meth c H [] 601024 room_1.slots (lw_Z below #[Value.ref b] s) (F0 m pc ls [.int 1]) := by
  intro T hT X
  obtain ⟨fs, hret, hrun, hended, hW, hframe⟩ := X.leave (v := some (.int 1)) (hlocks := hlocks) (fun h => by rw [hr] at h; cases h)
  have hmeth' : T.vm.method? m = some meth := X.method'
  refine ⟨T.setFrames fs, ?_, .returned (some (.int 1)), hrun, hended, rfl, ⟨_, rfl⟩, hW, hframe⟩
  jvm_step X.here [X.here.top, hx, hb, hdg, hmeth', hr, ret, narrow_b1]
  (try refine ⟨rfl, ?_⟩); (try refine ⟨rfl, ?_⟩)
  first | (intro acts; rw [hret _ acts rfl rfl rfl]) | rw [hret _ _ rfl rfl rfl]
  exact Steps.refl _
/-- what holds at the law's entry: the machine, the code, the tables' words (any of lw_tbl by 'hts w (by decide +kernel)'), the script of L ints xs at the cell b, what the Statement gives of the start (any of its parts by flat_of_before) -/
def lw_At (p : Program) (s : State) (m : MethodId) (meth : Method) (c : Code) (b L : Nat) (xs : Nat → Int32) : Prop :=
  p.tables.exec = Jvm.exec ∧ c.code = code ∧ meth.sig.returnType = ret ∧ c.maxLocals = 8 ∧ s.vm.findClass R_law = some m.cls ∧ (∀ w ∈ lw_tbl, w.before #[Value.ref b] s = true) ∧ va_X b L xs s s.heap ∧ b < s.heap.size ∧ meth.locks = false ∧ (Jvm.Cond.and given_1 narrow_1).before #[Value.ref b] s = true
theorem jlaw_sx {xs : Nat → Int32} (z : Int) : jIn ((xs z.toNat).toInt) := by
  have h1 := (xs z.toNat).toInt_lt
  have h2 := (xs z.toNat).le_toInt
  unfold jIn
  omega
theorem jlaw_start (hpure : jPure) {p : Program} {e : Env} {s : State} {m : MethodId} {below : List Frame} {meth : Method} {c : Code} (l : Launch) (hflags : l.flags = flags0) {b L : Nat} {xs : Nat → Int32} (hL : L ≤ 3584) (C0 : lw_At p s m meth c b L xs) : W p l e room_1 s m #[Value.ref b] below meth c s.heap [] 0 0 (lw_Z below #[Value.ref b] s) (entryFrame m ([Value.ref b] : List Value).toArray 8) := by
  obtain ⟨hx, hbc, hret, hml, hown, hts, hX, hb, hlocks, hgv⟩ := C0
  have hn : ∀ w ∈ jNW, w.before #[Value.ref b] s = true := fun w hw => flat_of_before _ hgv w (List.mem_append_right _ hw)
  obtain ⟨G, e1, e2, e3, e4, hK, hFz⟩ := jlaw_world hts hn hX hb hL
  have hst : l.stackTraces = false := by
    unfold Launch.stackTraces
    rw [hflags]
    decide +kernel
  have hsx : jsx G (L : Int) (fun k => (xs k.toNat).toInt) := by
    refine ⟨by rw [e2], fun k h1 h2 => ⟨?_, jlaw_sx k⟩⟩
    rw [e3]
    exact (Int32.ofInt_toInt _).symm
  obtain ⟨o, ho, hl⟩ := hpure (L : Int) (fun k => (xs k.toNat).toInt) (by omega) (by omega) (fun k => jlaw_sx k)
  have hjoks : joks G (fun i => if i = jXS then b else if i < jXB then gK G (i - jXK) else gV G (i - jXB)) := by
    refine ⟨?_, fun i hi => ?_, fun i hi => ?_⟩
    · show (if jXS = jXS then b else _) = gS G
      rw [if_pos rfl, e1]
    · show (if jXK + i = jXS then b else if jXK + i < jXB then gK G (jXK + i - jXK) else gV G (jXK + i - jXB)) = gK G i
      rw [if_neg (by unfold jXK jXS; omega), if_pos (by unfold jXK jXB; omega), Nat.add_sub_cancel_left]
    · show (if jXB + i = jXS then b else if jXB + i < jXB then gK G (jXB + i - jXK) else gV G (jXB + i - jXB)) = gV G i
      rw [if_neg (by unfold jXB jXS; omega), if_neg (by omega), Nat.add_sub_cancel_left]
  have B : jB (G, 8, (fun i => if i = jXS then b else if i < jXB then gK G (i - jXK) else gV G (i - jXB)), 0, p, l, e, room_1, s, m, #[Value.ref b], below, meth, c, lw_Z below #[Value.ref b] s) cL_law RL 8 0 room_1 (some .boolean) :=
    ⟨⟨hx, hbc, hml, hown, fun w hw => hts w (List.mem_filter.mp hw).1, hK, hFz, hlocks, hst⟩, rfl, Nat.le_refl _, rfl, hret⟩
  have hend : ∀ (S : List jSh) (μ : jMu) (k n : Nat) (ls : List (Nat × jA)), k ≤ 9000 → n ≤ 90000 → J (G, 8, (fun i => if i = jXS then b else if i < jXB then gK G (i - jXK) else gV G (i - jXB)), 0, p, l, e, room_1, s, m, #[Value.ref b], below, meth, c, lw_Z below #[Value.ref b] s) S μ k n 3629 ls [] := by
    intro S μ k n ls hk hn H locs σ lc hH hl ho hst
    refine lv_iconst hx hbc (n := 1) (v := 1) (by decide +kernel) rfl ?_
    refine W.widen (Nat.le_trans hk (by decide)) (Nat.le_trans hn (by decide)) (va_forget (fun q hq => ?_) (lw_ret hx hbc hret hlocks (by decide +kernel)))
    have := hH.2.2.1.2.2 q hq
    unfold gA xG at this
    rw [e4] at this
    exact this
  have hJ : J (G, 8, (fun i => if i = jXS then b else if i < jXB then gK G (i - jXK) else gV G (i - jXB)), 0, p, l, e, room_1, s, m, #[Value.ref b], below, meth, c, lw_Z below #[Value.ref b] s) SKE (fun _ _ => 0) 0 0 0 [(0, jR jXS)] [] := t_law_start B ho (t_law_L (X := (G, 8, (fun i => if i = jXS then b else if i < jXB then gK G (i - jXK) else gV G (i - jXB)), 0, p, l, e, room_1, s, m, #[Value.ref b], below, meth, c, lw_Z below #[Value.ref b] s)) hsx B hend 513 0 o 88 33916 (by decide) (by decide) hl)
  have hlv := lv_entry ([jR jXS].map (jv (fun i => if i = jXS then b else if i < jXB then gK G (i - jXK) else gV G (i - jXB)))) (n := 8) (by rw [lg_sl_len]; decide)
  rw [jargs_eq] at hlv
  have hH0 : jH (G, 8, (fun i => if i = jXS then b else if i < jXB then gK G (i - jXK) else gV G (i - jXB)), 0, p, l, e, room_1, s, m, #[Value.ref b], below, meth, c, lw_Z below #[Value.ref b] s) SKE (fun _ _ => 0) s.heap [] (fun i => if i = jXS then b else if i < jXB then gK G (i - jXK) else gV G (i - jXB)) := by
    refine ⟨?_, ⟨?_, ?_⟩, va_S.rf, ⟨by decide, ?_⟩, hjoks, fun i _ => rfl⟩
    · intro k q h
      cases h
    · intro i j p q h
      cases h
    · intro k q h
      cases h
    · intro i sh h
      cases h
  have hkey := hJ s.heap [] _ _ hH0 hlv (fun q hq => by cases List.mem_singleton.mp hq; exact Or.inr (Nat.le_refl _)) (fun v hv => by cases hv)
  rw [lg_entry_eq]
  have ev : [jR jXS].map (jv (fun i => if i = jXS then b else if i < jXB then gK G (i - jXK) else gV G (i - jXB))) = [Value.ref b] := by
    show [Value.ref (if jXS = jXS then b else _)] = _
    rw [if_pos rfl]
  rw [ev] at hkey
  exact hkey
