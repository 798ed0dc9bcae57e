/-! straight stretches: what they do is computed, and the machine does it -/
def jlkOK (own : String) (lk : List (Nat × Nat × Nat)) : Prop := ∀ q ∈ lk, ∃ r : vw_C, vwCl[q.2.1]? = some r ∧ q.2.2 < r.2.2 ∧ Cond.fieldLink own q.1 (r.2.1 q.2.2).1 (r.2.1 q.2.2).2.1 (r.2.1 q.2.2).2.2.1 ∈ jWG
def jlk1 : List (Nat × Nat × Nat) → Nat → Option (Nat × Nat)
  | [], _ => none
  | q :: r, i => match Nat.beq q.1 i with
    | true => some q.2
    | false => jlk1 r i
theorem jlk1_mem {lk : List (Nat × Nat × Nat)} {i : Nat} {v : Nat × Nat} (h : jlk1 lk i = some v) : (i, v) ∈ lk := by
  induction lk with
  | nil => cases h
  | cons q r ih =>
    unfold jlk1 at h
    split at h
    · rename_i hb
      cases h
      rw [← Nat.eq_of_beq_eq_true hb]
      exact List.mem_cons_self
    · exact List.mem_cons_of_mem _ (ih h)
def j1 (st : List jA) (f : Int → jA) : Option (List jA) := match st with
  | .inl a :: r => some (f a :: r)
  | _ => none
def j1L (st : List jA) (f : Int → jA) : Option (List jA) := match st with
  | .inr (.inl a) :: r => some (f a :: r)
  | _ => none
def j2 (st : List jA) (f : Int → Int → jA) : Option (List jA) := match st with
  | .inl b :: .inl a :: r => some (f a b :: r)
  | _ => none
def j2L (st : List jA) (f : Int → Int → jA) : Option (List jA) := match st with
  | .inr (.inl b) :: .inr (.inl a) :: r => some (f a b :: r)
  | _ => none
theorem j1_s {st st' : List jA} {f : Int → jA} (h : j1 st f = some st') : ∃ a r, st = jI a :: r ∧ st' = f a :: r := by
  unfold j1 at h
  split at h
  · cases h; exact ⟨_, _, rfl, rfl⟩
  · cases h
theorem j1L_s {st st' : List jA} {f : Int → jA} (h : j1L st f = some st') : ∃ a r, st = jL a :: r ∧ st' = f a :: r := by
  unfold j1L at h
  split at h
  · cases h; exact ⟨_, _, rfl, rfl⟩
  · cases h
theorem j2_s {st st' : List jA} {f : Int → Int → jA} (h : j2 st f = some st') : ∃ a b r, st = jI b :: jI a :: r ∧ st' = f a b :: r := by
  unfold j2 at h
  split at h
  · cases h; exact ⟨_, _, _, rfl, rfl⟩
  · cases h
theorem j2L_s {st st' : List jA} {f : Int → Int → jA} (h : j2L st f = some st') : ∃ a b r, st = jL b :: jL a :: r ∧ st' = f a b :: r := by
  unfold j2L at h
  split at h
  · cases h; exact ⟨_, _, _, rfl, rfl⟩
  · cases h
/-- what is loaded is of this kind -/
def jld (t : Nat) (ls : List (Nat × jA)) (i : Nat) (st : List jA) : Option (List jA) := match t, jget ls i with
  | 0, some (.inl z) => some (jI z :: st)
  | 1, some (.inr (.inl z)) => some (jL z :: st)
  | 2, some (.inr (.inr (some r))) => some (jR r :: st)
  | _, _ => none
/-- what is stored is of this kind -/
def jst (t : Nat) (nL : Nat) (ls : List (Nat × jA)) (i : Nat) (st : List jA) : Option (List (Nat × jA) × List jA) := match t, st with
  | 0, .inl z :: r => (match Nat.blt i nL with
    | true => some (jset ls i (jI z), r)
    | false => none)
  | 1, .inr (.inl z) :: r => (match Nat.blt (i + 1) nL with
    | true => some (jset ls i (jL z), r)
    | false => none)
  | 2, .inr (.inr (some z)) :: r => (match Nat.blt i nL with
    | true => some (jset ls i (jR z), r)
    | false => none)
  | _, _ => none
def jrd (S : List jSh) (μ : jMu) (r ci k : Nat) : Option jA := match S[r]? with
  | some (.inl (c, rf)) => (match Nat.beq c ci with
    | true => (match rf[k]? with
      | some none => some (jI (μ r k))
      | some (some none) => some jN
      | some (some (some x)) => some (jR x)
      | none => none)
    | false => none)
  | _ => none
def jgf (lk : List (Nat × Nat × Nat)) (S : List jSh) (μ : jMu) (idx : Nat) (st : List jA) : Option (List jA) := match st with
  | .inr (.inr (some r)) :: t => (match jlk1 lk idx with
    | some (ci, k) => (match jrd S μ r ci k with
      | some v => some (v :: t)
      | none => none)
    | none => none)
  | _ => none
def jal (S : List jSh) (st : List jA) : Option (List jA) := match st with
  | .inr (.inr (some r)) :: t => (match S[r]? with
    | some (.inr (ak, len)) => (match Nat.blt ak 3 && Nat.blt len 2147483648 with
      | true => some (jI len :: t)
      | false => none)
    | _ => none)
  | _ => none
def jii (nL : Nat) (ls : List (Nat × jA)) (i : Nat) (c : Int) : Option (List (Nat × jA)) := match jget ls i with
  | some (.inl z) => (match Nat.blt i nL with
    | true => some (jset ls i (jI (jW (z + c))))
    | false => none)
  | _ => none
def jif {α : Type} (b : Bool) (x : α) : Option α := match b with
  | true => some x
  | false => none
theorem jif_s {α : Type} {b : Bool} {x y : α} (h : jif b x = some y) : b = true ∧ x = y := by
  unfold jif at h
  split at h
  · cases h; exact ⟨rfl, rfl⟩
  · cases h
def jpp : List jA → Option (List jA)
  | a :: r => jif (Nat.beq (jcat a) 1) r
  | _ => none
def jdp : List jA → Option (List jA)
  | a :: r => jif (Nat.beq (jcat a) 1) (a :: a :: r)
  | _ => none
def jdp2 : List jA → Option (List jA)
  | a :: b :: r => jif (Nat.beq (jcat a) 1 && Nat.beq (jcat b) 1) (a :: b :: a :: b :: r)
  | _ => none
def jlow (lo n hi : Int) : Bool := decide (lo ≤ n) && decide (n < hi)
def jstp (lk : List (Nat × Nat × Nat)) (S : List jSh) (μ : jMu) (nL : Nat) (ls : List (Nat × jA)) (st : List jA) : Instr → Option (List (Nat × jA) × List jA)
  | .iconst n => jif (jlow (-128) n 128) (ls, jI n :: st)
  | .bipush n => jif (jlow (-128) n 128) (ls, jI n :: st)
  | .sipush n => jif (jlow (-32768) n 32768) (ls, jI n :: st)
  | .lconst n => some (ls, jL (n.val : Nat) :: st)
  | .iload_n i => (jld 0 ls i.val st).map (fun s => (ls, s))
  | .iload i => (jld 0 ls i st).map (fun s => (ls, s))
  | .lload_n i => (jld 1 ls i.val st).map (fun s => (ls, s))
  | .lload i => (jld 1 ls i st).map (fun s => (ls, s))
  | .aload_n i => (jld 2 ls i.val st).map (fun s => (ls, s))
  | .aload i => (jld 2 ls i st).map (fun s => (ls, s))
  | .istore_n i => jst 0 nL ls i.val st
  | .istore i => jst 0 nL ls i st
  | .lstore_n i => jst 1 nL ls i.val st
  | .lstore i => jst 1 nL ls i st
  | .astore_n i => jst 2 nL ls i.val st
  | .astore i => jst 2 nL ls i st
  | .iinc i c => (jii nL ls i c).map (fun l => (l, st))
  | .iadd => (j2 st (fun a b => jI (jW (a + b)))).map (fun s => (ls, s))
  | .isub => (j2 st (fun a b => jI (jW (a - b)))).map (fun s => (ls, s))
  | .imul => (j2 st (fun a b => jI (jW (a * b)))).map (fun s => (ls, s))
  | .iand => (j2 st (fun a b => jI (jAn a b))).map (fun s => (ls, s))
  | .ior => (j2 st (fun a b => jI (jOr a b))).map (fun s => (ls, s))
  | .ixor => (j2 st (fun a b => jI (jXo a b))).map (fun s => (ls, s))
  | .ishl => (j2 st (fun a b => jI (jSl a b))).map (fun s => (ls, s))
  | .ishr => (j2 st (fun a b => jI (jSr a b))).map (fun s => (ls, s))
  | .iushr => (j2 st (fun a b => jI (jUr a b))).map (fun s => (ls, s))
  | .ladd => (j2L st (fun a b => jL (jV (a + b)))).map (fun s => (ls, s))
  | .lmul => (j2L st (fun a b => jL (jV (a * b)))).map (fun s => (ls, s))
  | .lcmp => (j2L st (fun a b => jI (jCm a b))).map (fun s => (ls, s))
  | .i2l => (j1 st (fun a => jL a)).map (fun s => (ls, s))
  | .l2i => (j1L st (fun a => jI (jW a))).map (fun s => (ls, s))
  | .getfield idx => (jgf lk S μ idx st).map (fun s => (ls, s))
  | .arraylength => (jal S st).map (fun s => (ls, s))
  | .goto _ => some (ls, st)
  | .pop => (jpp st).map (fun s => (ls, s))
  | .dup => (jdp st).map (fun s => (ls, s))
  | .dup2 => (jdp2 st).map (fun s => (ls, s))
  | _ => none
def jil : Instr → Nat
  | .bipush _ => 2
  | .sipush _ => 3
  | .iload _ => 2
  | .istore _ => 2
  | .aload _ => 2
  | .astore _ => 2
  | .lload _ => 2
  | .lstore _ => 2
  | .iinc _ _ => 3
  | .getfield _ => 3
  | .goto _ => 3
  | _ => 1
def jnx (p : Nat) : Instr → Nat
  | .goto off => ((p : Int) + off).toNat
  | i => p + jil i
def jgo (p : Nat) : Instr → Int
  | .goto off => (p : Int) + off
  | i => ((p + jil i : Nat) : Int)
/-- a field's value -/
def jfv (μ : jMu) (r j : Nat) : Option (Option Nat) → jA
  | none => jI (μ r j)
  | some none => jN
  | some (some x) => jR x
def jbk (cc : ByteArray) : Nat → List Instr → Bool
  | _, [] => true
  | p, i :: r => decide (decode cc p = .ok (i, jil i)) && decide (((jnx p i : Nat) : Int) = jgo p i) && jbk cc (jnx p i) r
def jend : Nat → List Instr → Nat
  | p, [] => p
  | p, i :: r => jend (jnx p i) r
def jrun (lk : List (Nat × Nat × Nat)) (S : List jSh) (μ : jMu) (nL : Nat) : List Instr → List (Nat × jA) → List jA → Option (List (Nat × jA) × List jA)
  | [], ls, st => some (ls, st)
  | i :: r, ls, st => match jstp lk S μ nL ls st i with
    | some (ls', st') => jrun lk S μ nL r ls' st'
    | none => none
section ROWS
variable {X : jX} {S : List jSh} {μ : jMu} {k n pc : Nat} {ls ls' : List (Nat × jA)} {st st' : List jA} {cc : ByteArray} {own : String} {lk : List (Nat × Nat × Nat)}
theorem jmap_s {α β : Type} {x : Option α} {f : α → β} {y : β} (h : x.map f = some y) : ∃ a, x = some a ∧ f a = y := Option.map_eq_some_iff.mp h
theorem jld_s {t : Nat} {i : Nat} (h : jld t ls i st = some st') : ∃ v, jget ls i = some v ∧ st' = v :: st ∧ ((t = 0 ∧ ∃ z, v = jI z) ∨ (t = 1 ∧ ∃ z, v = jL z) ∨ (t = 2 ∧ ∃ r, v = jR r)) := by
  unfold jld at h
  split at h
  · rename_i z hg; cases h; exact ⟨_, hg, rfl, Or.inl ⟨rfl, _, rfl⟩⟩
  · rename_i z hg; cases h; exact ⟨_, hg, rfl, Or.inr (Or.inl ⟨rfl, _, rfl⟩)⟩
  · rename_i z hg; cases h; exact ⟨_, hg, rfl, Or.inr (Or.inr ⟨rfl, _, rfl⟩)⟩
  · cases h
theorem jst_s {t nL : Nat} {i : Nat} (h : jst t nL ls i st = some (ls', st')) : ∃ v, st = v :: st' ∧ ls' = jset ls i v ∧ ((t = 0 ∧ i < nL ∧ ∃ z, v = jI z) ∨ (t = 1 ∧ i + 1 < nL ∧ ∃ z, v = jL z) ∨ (t = 2 ∧ i < nL ∧ ∃ r, v = jR r)) := by
  unfold jst at h
  split at h
  · split at h
    · rename_i hb; cases h; exact ⟨_, rfl, rfl, Or.inl ⟨rfl, by simpa [Nat.blt_eq] using hb, _, rfl⟩⟩
    · cases h
  · split at h
    · rename_i hb; cases h; exact ⟨_, rfl, rfl, Or.inr (Or.inl ⟨rfl, by simpa [Nat.blt_eq] using hb, _, rfl⟩)⟩
    · cases h
  · split at h
    · rename_i hb; cases h; exact ⟨_, rfl, rfl, Or.inr (Or.inr ⟨rfl, by simpa [Nat.blt_eq] using hb, _, rfl⟩)⟩
    · cases h
  · cases h
theorem jset_ok {i : Nat} {v : jA} (ho : ∀ q ∈ ls, jokv S q.2) (hv : jokv S v) : ∀ q ∈ jset ls i v, jokv S q.2 := by
  intro q hq
  rcases jset_mem hq with h | h
  · rw [h]; exact hv
  · exact ho q h.1
/-- two ints become one -/
theorem J_2 {f : Int → Int → Int} {a b : Int} {r : List jA} (hin : ∀ x y, jIn (f x y))
    (row : ∀ (H : Heap) (locs : List Loc) (lc : Array Slot) (rest : List Value), W (xp X) (xl X) (xe X) (xR X) (xs X) (xm X) (xa X) (xb X) (xM X) (xc X) H locs k n (xQ X) (F0 (xm X) (pc + 1) lc (.int (Int32.ofInt (f a b)) :: rest)) → W (xp X) (xl X) (xe X) (xR X) (xs X) (xm X) (xa X) (xb X) (xM X) (xc X) H locs k n (xQ X) (F0 (xm X) pc lc (.int (Int32.ofInt b) :: .int (Int32.ofInt a) :: rest)))
    (h : J X S μ k n (pc + 1) ls (jI (f a b) :: r)) : J X S μ k n pc ls (jI b :: jI a :: r) := by
  intro H locs σ lc hH hl ho hst
  refine row H locs lc (r.map (jv σ)) (h H locs σ lc hH hl ho fun v hv => ?_)
  rcases List.mem_cons.mp hv with e | e
  · rw [e]; exact hin a b
  · exact hst v (List.mem_cons_of_mem _ (List.mem_cons_of_mem _ e))
theorem J_2L {f : Int → Int → Int} {a b : Int} {r : List jA} (hin : ∀ x y, jLn (f x y))
    (row : ∀ (H : Heap) (locs : List Loc) (lc : Array Slot) (rest : List Value), W (xp X) (xl X) (xe X) (xR X) (xs X) (xm X) (xa X) (xb X) (xM X) (xc X) H locs k n (xQ X) (F0 (xm X) (pc + 1) lc (.long (Int64.ofInt (f a b)) :: rest)) → W (xp X) (xl X) (xe X) (xR X) (xs X) (xm X) (xa X) (xb X) (xM X) (xc X) H locs k n (xQ X) (F0 (xm X) pc lc (.long (Int64.ofInt b) :: .long (Int64.ofInt a) :: rest)))
    (h : J X S μ k n (pc + 1) ls (jL (f a b) :: r)) : J X S μ k n pc ls (jL b :: jL a :: r) := by
  intro H locs σ lc hH hl ho hst
  refine row H locs lc (r.map (jv σ)) (h H locs σ lc hH hl ho fun v hv => ?_)
  rcases List.mem_cons.mp hv with e | e
  · rw [e]; exact hin a b
  · exact hst v (List.mem_cons_of_mem _ (List.mem_cons_of_mem _ e))
theorem J_push {v : jA} {len : Nat} (hv : (∀ q ∈ ls, jokv S q.2) → jok S μ → jokv S v)
    (row : ∀ (H : Heap) (locs : List Loc) (σ : Nat → Nat) (lc : Array Slot) (rest : List Value), lv_has lc (xN X) (jlv σ ls) → W (xp X) (xl X) (xe X) (xR X) (xs X) (xm X) (xa X) (xb X) (xM X) (xc X) H locs k n (xQ X) (F0 (xm X) (pc + len) lc (jv σ v :: rest)) → W (xp X) (xl X) (xe X) (xR X) (xs X) (xm X) (xa X) (xb X) (xM X) (xc X) H locs k n (xQ X) (F0 (xm X) pc lc rest))
    (h : J X S μ k n (pc + len) ls (v :: st)) : J X S μ k n pc ls st := by
  intro H locs σ lc hH hl ho hst
  refine row H locs σ lc (st.map (jv σ)) hl (h H locs σ lc hH hl ho fun w hw => ?_)
  rcases List.mem_cons.mp hw with e | e
  · rw [e]; exact hv ho hH.2.2.2.1
  · exact hst w e
theorem J_store {v : jA} {i len : Nat}
    (row : ∀ (H : Heap) (locs : List Loc) (σ : Nat → Nat) (lc : Array Slot) (rest : List Value), lv_has lc (xN X) (jlv σ ls) → (∀ lc' : Array Slot, lv_has lc' (xN X) (jlv σ (jset ls i v)) → W (xp X) (xl X) (xe X) (xR X) (xs X) (xm X) (xa X) (xb X) (xM X) (xc X) H locs k n (xQ X) (F0 (xm X) (pc + len) lc' rest)) → W (xp X) (xl X) (xe X) (xR X) (xs X) (xm X) (xa X) (xb X) (xM X) (xc X) H locs k n (xQ X) (F0 (xm X) pc lc (jv σ v :: rest)))
    (h : J X S μ k n (pc + len) (jset ls i v) st) : J X S μ k n pc ls (v :: st) := by
  intro H locs σ lc hH hl ho hst
  refine row H locs σ lc (st.map (jv σ)) hl (fun lc' hl' => h H locs σ lc' hH hl' (jset_ok ho (hst v List.mem_cons_self)) fun w hw => hst w (List.mem_cons_of_mem _ hw))
theorem jlow_s {lo m hi : Int} (h : jlow lo m hi = true) : lo ≤ m ∧ m < hi := by
  unfold jlow at h
  simpa using h
end ROWS
