section WRAP
variable {X : jX} {S S' : List jSh} {μ μ' : jMu} {k n k' n' pc nL n0 : Nat} {ls ls' : List (Nat × jA)} {st st' : List jA} {cc : ByteArray} {own : String} {lk : List (Nat × Nat × Nat)} {R rm : Room} {rt : Option FieldType}
/-- all that stands for a body: its machine, its locals, its world's size at the start, its room, its type -/
def jB (X : jX) (cc : ByteArray) (own : String) (nL n0 : Nat) (R : Room) (rt : Option FieldType) : Prop := jC X cc own ∧ xN X = nL ∧ xn X ≤ n0 ∧ xR X = R ∧ (xM X).sig.returnType = rt
theorem jC.tr (C : jC X cc own) : (xl X).stackTraces = false := C.2.2.2.2.2.2.2.2
theorem jB.tr (B : jB X cc own nL n0 R rt) : (xl X).stackTraces = false := B.1.tr
theorem B_blk (B : jB X cc own nL n0 R rt) (hlk : jlkOK own lk) (hcl : jcl S) (is : List Instr) (hb : jbk cc pc is = true) (hr : jrun lk S μ nL is ls st = some (ls', st')) {p1 : Nat} (hp : jend pc is = p1) (h : J X S μ k n p1 ls' st') : J X S μ k n pc ls st := by
  obtain ⟨C, hN, -⟩ := B
  subst hN
  exact J_blk C hlk hcl is hb hr hp h
theorem jgd0 {c : Prop} [Decidable c] (h : c) : (if c then some () else none) = some () := if_pos h
theorem K_iald (B : jB X cc own nL n0 R rt) {i len : Nat} {j lenI : Int} (hs : S[i]? = some (.inr (0, len))) (hlen : (len : Int) = lenI) (hg : 0 ≤ j ∧ j < lenI) (d : decode cc pc = .ok (.iaload, 1)) (h : J X S μ k n (pc + 1) ls (jI (μ i j) :: st)) : J X S μ k n pc ls (jI j :: jR i :: st) := J_iald B.1 hs hlen (jgd0 hg) d (fun _ => h)
theorem K_zald (B : jB X cc own nL n0 R rt) {i len : Nat} {j lenI : Int} (hs : S[i]? = some (.inr (1, len))) (hlen : (len : Int) = lenI) (hg : 0 ≤ j ∧ j < lenI) (d : decode cc pc = .ok (.baload, 1)) (h : J X S μ k n (pc + 1) ls (jI (μ i j) :: st)) : J X S μ k n pc ls (jI j :: jR i :: st) := J_zald B.1 hs hlen (jgd0 hg) d (fun _ => h)
theorem K_lald (B : jB X cc own nL n0 R rt) {i len : Nat} {j lenI : Int} (hs : S[i]? = some (.inr (2, len))) (hlen : (len : Int) = lenI) (hg : 0 ≤ j ∧ j < lenI) (d : decode cc pc = .ok (.laload, 1)) (h : J X S μ k n (pc + 1) ls (jL (μ i j) :: st)) : J X S μ k n pc ls (jI j :: jR i :: st) := J_lald B.1 hs hlen (jgd0 hg) d (fun _ => h)
theorem K_iast (B : jB X cc own nL n0 R rt) {i len : Nat} {j v lenI : Int} (hs : S[i]? = some (.inr (0, len))) (hlen : (len : Int) = lenI) (hg : 0 ≤ j ∧ j < lenI) (d : decode cc pc = .ok (.iastore, 1)) (h : J X S (jup μ i j v) k n (pc + 1) ls st) : J X S μ k n pc ls (jI v :: jI j :: jR i :: st) := J_iast B.1 hs hlen (jgd0 hg) d (fun _ => h)
theorem K_zast (B : jB X cc own nL n0 R rt) {i len : Nat} {j v lenI : Int} (hs : S[i]? = some (.inr (1, len))) (hlen : (len : Int) = lenI) (hg : 0 ≤ j ∧ j < lenI) (hz : v = 0 ∨ v = 1) (d : decode cc pc = .ok (.bastore, 1)) (h : J X S (jup μ i j v) k n (pc + 1) ls st) : J X S μ k n pc ls (jI v :: jI j :: jR i :: st) := J_zast B.1 hs hlen (jgd0 ⟨hg, hz⟩) d (fun _ => h)
theorem K_last (B : jB X cc own nL n0 R rt) {i len : Nat} {j v lenI : Int} (hs : S[i]? = some (.inr (2, len))) (hlen : (len : Int) = lenI) (hg : 0 ≤ j ∧ j < lenI) (d : decode cc pc = .ok (.lastore, 1)) (h : J X S (jup μ i j v) k n (pc + 1) ls st) : J X S μ k n pc ls (jL v :: jI j :: jR i :: st) := J_last B.1 hs hlen (jgd0 hg) d (fun _ => h)
theorem K_idiv (B : jB X cc own nL n0 R rt) {a b : Int} (hg : b ≠ 0) (d : decode cc pc = .ok (.idiv, 1)) (h : J X S μ k n (pc + 1) ls (jI (jDv a b) :: st)) : J X S μ k n pc ls (jI b :: jI a :: st) := J_idiv B.1 (jgd0 hg) d (fun _ => h)
theorem K_irem (B : jB X cc own nL n0 R rt) {a b : Int} (hg : b ≠ 0) (d : decode cc pc = .ok (.irem, 1)) (h : J X S μ k n (pc + 1) ls (jI (jRm a b) :: st)) : J X S μ k n pc ls (jI b :: jI a :: st) := J_irem B.1 (jgd0 hg) d (fun _ => h)
theorem K_ldiv (B : jB X cc own nL n0 R rt) {a b : Int} (hg : b ≠ 0) (d : decode cc pc = .ok (.ldiv, 1)) (h : J X S μ k n (pc + 1) ls (jL (jDvL a b) :: st)) : J X S μ k n pc ls (jL b :: jL a :: st) := J_ldiv B.1 (jgd0 hg) d (fun _ => h)
theorem K_putI (B : jB X cc own nL n0 R rt) {idx i ci j : Nat} {rf : List (Option (Option Nat))} {v jI' : Int} (hm : jput own idx ci j .int false) (hs : S[i]? = some (.inl (ci, rf))) (hf : rf[j]? = some none) (hji : (j : Int) = jI') (d : decode cc pc = .ok (.putfield idx, 3)) (h : J X S (jup μ i jI' v) k n (pc + 3) ls st) : J X S μ k n pc ls (jI v :: jR i :: st) := J_putI B.1 hm (fun h => nomatch h) hs hf hji d h
theorem K_putF (B : jB X cc own nL n0 R rt) (hin : (xM X).name = "<init>") {idx i ci j : Nat} {rf : List (Option (Option Nat))} {v jI' : Int} (hm : jput own idx ci j .int true) (hs : S[i]? = some (.inl (ci, rf))) (hf : rf[j]? = some none) (hji : (j : Int) = jI') (d : decode cc pc = .ok (.putfield idx, 3)) (h : J X S (jup μ i jI' v) k n (pc + 3) ls st) : J X S μ k n pc ls (jI v :: jR i :: st) := J_putI B.1 hm (fun _ => hin) hs hf hji d h
theorem K_putZ (B : jB X cc own nL n0 R rt) {idx i ci j : Nat} {rf : List (Option (Option Nat))} {v jI' : Int} (hm : jput own idx ci j .boolean false) (hs : S[i]? = some (.inl (ci, rf))) (hf : rf[j]? = some none) (hji : (j : Int) = jI') (hz : v = 0 ∨ v = 1) (d : decode cc pc = .ok (.putfield idx, 3)) (h : J X S (jup μ i jI' v) k n (pc + 3) ls st) : J X S μ k n pc ls (jI v :: jR i :: st) := J_putZ B.1 hm hs hf hji (jgd0 hz) d (fun _ => h)
theorem K_putR (B : jB X cc own nL n0 R rt) (hin : (xM X).name = "<init>") {idx i ci j x : Nat} {rf rf' : List (Option (Option Nat))} {ty : FieldType} (hm : jput own idx ci j ty true) (hty : jrefty ty = true) (hs : S[i]? = some (.inl (ci, rf))) (hj : j < rf.length) (hr : rf.set j (some (some x)) = rf') (hS : S.set i (.inl (ci, rf')) = S') (d : decode cc pc = .ok (.putfield idx, 3)) (h : J X S' μ k n (pc + 3) ls st) : J X S μ k n pc ls (jR x :: jR i :: st) := J_putR B.1 hm hty (fun _ => hin) hs hj hr hS d h
theorem K_get (B : jB X cc own nL n0 R rt) {idx r ci j : Nat} {rf : List (Option (Option Nat))} {f : Option (Option Nat)} {v : jA} (hlk : jlkOK own lk) (hcl : jcl S) (hm : jlk1 lk idx = some (ci, j)) (hs : S[r]? = some (.inl (ci, rf))) (hf : rf[j]? = some f) (hv : v = jfv μ r j f) (d : decode cc pc = .ok (.getfield idx, 3)) (h : J X S μ k n (pc + 3) ls (v :: st)) : J X S μ k n pc ls (jR r :: st) := J_get B.1 hlk (jlk1_mem hm) hs hf hv (fun x hx => hcl r ci rf hs j x (by rw [hf, hx])) d h
theorem K_alen (B : jB X cc own nL n0 R rt) (hcl : jcl S) {i ak len : Nat} {lenI : Int} (hs : S[i]? = some (.inr (ak, len))) (hak : ak < 3) (hlen : (len : Int) = lenI) (hlt : lenI < 2147483648) (d : decode cc pc = .ok (.arraylength, 1)) (h : J X S μ k n (pc + 1) ls (jI lenI :: st)) : J X S μ k n pc ls (jR i :: st) := by
  subst hlen
  refine J_stp (lk := []) (ls' := ls) (st' := jI len :: st) (i := .arraylength) B.1 (fun _ h => absurd h List.not_mem_nil) hcl d rfl ?_ h
  show (jal S (jR i :: st)).map (fun s => (ls, s)) = _
  unfold jal
  simp only [hs]
  have e1 : Nat.blt ak 3 = true := by simpa [Nat.blt_eq] using hak
  have e2 : Nat.blt len 2147483648 = true := by simp only [Nat.blt_eq]; omega
  rw [e1, e2]
  rfl
theorem B_callV (B : jB X cc own nL n0 R rt) (hn0 : n0 ≤ S.length) {idx maxL m i ci : Nat} {y : MethodName} {cy : ByteArray} {ret : Option FieldType} {as rest : List jA} {v : Option jA} {Cn : String} {T : u_T} {N : Nat} {rf : List (Option (Option Nat))}
    (hcal : jCal y (.code y cy maxL ret) m) (hinst : Cond.instanceMethod y ∈ jWG) (hsel : Cond.selects Cn y y ∈ jWG) (hlink : Cond.methodLink own idx y ∈ jWG) (hM : jCt (xl X) (xG X) y (.code y cy maxL ret :: jWG) rm (jR i :: as) S μ (.inl v) S' μ') (hlen : S.length ≤ S'.length) (hroom : jRm' R rm k n maxL = true)
    (hs : S[i]? = some (.inl (ci, rf))) (hc : vwCl[ci]? = some (Cn, T, N)) (hstk : st = as.reverse ++ jR i :: rest) (hm : as.length = m) (h8 : (rest.map jcat).sum ≤ 8) (d : decode cc pc = .ok (.invokevirtual idx, 3)) (hk : k + rm.cells = k') (hn : n + rm.slots = n') (hst : v.toList ++ rest = st') (kk : J X S' μ' k' n' (pc + 3) ls st') : J X S μ k n pc ls st := by
  subst hk hn hst
  exact J_callV B.1 hcal hinst hsel hlink hM (Nat.le_trans B.2.2.1 hn0) hlen B.2.2.2.1 hroom hs hc hstk hm h8 d (fun w hw => by cases hw; exact kk) (fun E hE => by cases hE)
theorem B_callS (B : jB X cc own nL n0 R rt) (hn0 : n0 ≤ S.length) {idx maxL m : Nat} {y : MethodName} {cy : ByteArray} {ret : Option FieldType} {as rest : List jA} {v : Option jA}
    (hcal : jCal y (.code y cy maxL ret) m) (hstat : Cond.static y ∈ jWG) (hlink : Cond.methodLink own idx y ∈ jWG) (hM : jCt (xl X) (xG X) y (.code y cy maxL ret :: jWG) rm as S μ (.inl v) S' μ') (hlen : S.length ≤ S'.length) (hroom : jRm' R rm k n maxL = true)
    (hstk : st = as.reverse ++ rest) (hm : as.length = m) (h8 : (rest.map jcat).sum ≤ 8) (d : decode cc pc = .ok (.invokestatic idx, 3)) (hk : k + rm.cells = k') (hn : n + rm.slots = n') (hst : v.toList ++ rest = st') (kk : J X S' μ' k' n' (pc + 3) ls st') : J X S μ k n pc ls st := by
  subst hk hn hst
  exact J_callS B.1 hcal hstat hlink hM (Nat.le_trans B.2.2.1 hn0) hlen B.2.2.2.1 hroom hstk hm h8 d (fun w hw => by cases hw; exact kk) (fun E hE => by cases hE)
theorem B_callI (B : jB X cc own nL n0 R rt) (hn0 : n0 ≤ S.length) {idx maxL m i : Nat} {y : MethodName} {cy : ByteArray} {as rest : List jA} {v : Option jA}
    (hcal : jCal y (.code y cy maxL none) m) (hinst : Cond.instanceMethod y ∈ jWG) (hname : y.name = "<init>") (hlink : Cond.methodLink own idx y ∈ jWG) (hM : jCt (xl X) (xG X) y (.code y cy maxL none :: jWG) rm (jR i :: as) S μ (.inl v) S' μ') (hlen : S.length ≤ S'.length) (hroom : jRm' R rm k n maxL = true)
    (hi : i < S.length) (hstk : st = as.reverse ++ jR i :: rest) (hm : as.length = m) (h8 : (rest.map jcat).sum ≤ 8) (d : decode cc pc = .ok (.invokespecial idx, 3)) (hk : k + rm.cells = k') (hn : n + rm.slots = n') (hst : v.toList ++ rest = st') (kk : J X S' μ' k' n' (pc + 3) ls st') : J X S μ k n pc ls st := by
  subst hk hn hst
  exact J_callI B.1 hcal hinst hname hlink hM (Nat.le_trans B.2.2.1 hn0) hlen B.2.2.2.1 hroom hi hstk hm h8 d (fun w hw => by cases hw; exact kk) (fun E hE => by cases hE)
/-- the callee throws, and nothing here catches it -/
theorem B_callST (B : jB X cc own nL n0 R rt) (hn0 : n0 ≤ S.length) {idx maxL m : Nat} {y : MethodName} {cy : ByteArray} {ret : Option FieldType} {as rest : List jA} {E : String} {mc ms : Nat} (hno : ∀ x ∈ (xc X).exceptionTable.toList, False) (hq : jQ X (.inr E) S' μ' mc ms)
    (hcal : jCal y (.code y cy maxL ret) m) (hstat : Cond.static y ∈ jWG) (hlink : Cond.methodLink own idx y ∈ jWG) (hM : jCt (xl X) (xG X) y (.code y cy maxL ret :: jWG) rm as S μ (.inr E) S' μ') (hlen : S.length ≤ S'.length) (hroom : jRm' R rm k n maxL = true)
    (hstk : st = as.reverse ++ rest) (hm : as.length = m) (h8 : (rest.map jcat).sum ≤ 8) (d : decode cc pc = .ok (.invokestatic idx, 3)) (hk : k + rm.cells ≤ mc) (hn : n + rm.slots ≤ ms) : J X S μ k n pc ls st :=
  J_callS B.1 hcal hstat hlink hM (Nat.le_trans B.2.2.1 hn0) hlen B.2.2.2.1 hroom hstk hm h8 d (fun w hw => by cases hw) (fun E' hE => by cases hE; exact JX_out B.1 hno hq hk hn)
theorem B_retI (B : jB X cc own nL n0 R rt) {z : Int} {mc ms : Nat} (hq : jQ X (.inl (some (jI z))) S μ mc ms) (hr : rt = some .int) (hk : k ≤ mc) (hs : n ≤ ms) (d : decode cc pc = .ok (.ireturn, 1)) : J X S μ k n pc ls [jI z] := J_retI B.1 hq (by rw [B.2.2.2.2, hr]) hk hs d
theorem B_retZ (B : jB X cc own nL n0 R rt) {z : Int} {mc ms : Nat} (hz : z = 0 ∨ z = 1) (hq : jQ X (.inl (some (jI z))) S μ mc ms) (hr : rt = some .boolean) (hk : k ≤ mc) (hs : n ≤ ms) (d : decode cc pc = .ok (.ireturn, 1)) : J X S μ k n pc ls [jI z] := J_retZ B.1 hz hq (by rw [B.2.2.2.2, hr]) hk hs d
theorem B_retL (B : jB X cc own nL n0 R rt) {z : Int} {mc ms : Nat} (hq : jQ X (.inl (some (jL z))) S μ mc ms) (hr : rt = some .long) (hk : k ≤ mc) (hs : n ≤ ms) (d : decode cc pc = .ok (.lreturn, 1)) : J X S μ k n pc ls [jL z] := J_retL B.1 hq (by rw [B.2.2.2.2, hr]) hk hs d
theorem B_retV (B : jB X cc own nL n0 R rt) {mc ms : Nat} (hq : jQ X (.inl none) S μ mc ms) (hr : rt = none) (hk : k ≤ mc) (hs : n ≤ ms) (d : decode cc pc = .ok (.return_, 1)) : J X S μ k n pc ls [] := J_retV B.1 hq (by rw [B.2.2.2.2, hr]) hk hs d
end WRAP
/-! what a method answers that may throw -/
abbrev jOut (β : Type) : Type := (String × jMu) ⊕ (β × jMu)
def joI : jOut Int → Option jA ⊕ String
  | .inl e => .inr e.1
  | .inr v => .inl (some (jI v.1))
def joL : jOut Int → Option jA ⊕ String
  | .inl e => .inr e.1
  | .inr v => .inl (some (jL v.1))
def joV : jOut Unit → Option jA ⊕ String
  | .inl e => .inr e.1
  | .inr _ => .inl none
def joM {β : Type} : jOut β → jMu
  | .inl e => e.2
  | .inr v => v.2
def jthr {β γ : Type} (x : Option (jOut β)) (f : β × jMu → Option (jOut γ)) : Option (jOut γ) := match x with
  | some (.inl e) => some (.inl e)
  | some (.inr v) => f v
  | none => none
theorem jthr_s {β γ : Type} {x : Option (jOut β)} {f : β × jMu → Option (jOut γ)} {r : jOut γ} (h : jthr x f = some r) : (∃ e, x = some (.inl e) ∧ .inl e = r) ∨ (∃ v, x = some (.inr v) ∧ f v = some r) := by
  unfold jthr at h
  split at h
  · exact Or.inl ⟨_, rfl, Option.some.inj h⟩
  · exact Or.inr ⟨_, rfl, h⟩
  · cases h
/-- how often a loop may go round at most, and how deep calls may go: far above what any run needs -/
def jFU : Nat := 100000
