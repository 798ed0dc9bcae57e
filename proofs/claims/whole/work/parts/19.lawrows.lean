/-! rows for the law's own methods: what is caught, the script, the room over all calls -/
def jcat2 {β γ : Type} (x : Option (jOut β)) (f : β × jMu → Option γ) (g : String → jMu → Option γ) : Option γ := match x with
  | some (.inl e) => g e.1 e.2
  | some (.inr v) => f v
  | none => none
theorem jcat2_s {β γ : Type} {x : Option (jOut β)} {f : β × jMu → Option γ} {g : String → jMu → Option γ} {r : γ} (h : jcat2 x f g = some r) : (∃ e m, x = some (.inl (e, m)) ∧ g e m = some r) ∨ (∃ v, x = some (.inr v) ∧ f v = some r) := by
  unfold jcat2 at h
  split at h
  · exact Or.inl ⟨_, _, rfl, h⟩
  · exact Or.inr ⟨_, rfl, h⟩
  · cases h
/-- the script's ints, as whole numbers -/
def jsx (G : jG) (L : Int) (sx : Int → Int) : Prop := (gL G : Int) = L ∧ ∀ k : Int, 0 ≤ k → k < L → gX G k.toNat = Int32.ofInt (sx k) ∧ jIn (sx k)
section LAWROWS
variable {X : jX} {S S' : List jSh} {μ μ' : jMu} {k n k' n' pc nL n0 : Nat} {ls ls' : List (Nat × jA)} {st st' : List jA} {cc : ByteArray} {own : String} {R rm : Room} {rt : Option FieldType}
theorem jRoom {R rm : Room} {k n K N maxL : Nat} (hk : k ≤ K) (hn : n ≤ N) (h : jRm' R rm K N maxL = true) : jRm' R rm k n maxL = true := by
  unfold jRm' at h ⊢
  simp only [Bool.and_eq_true] at h ⊢
  obtain ⟨⟨h1, h2⟩, h3⟩ := h
  have h2' := Nat.le_of_ble_eq_true h2
  have h3' := Nat.le_of_ble_eq_true h3
  exact ⟨⟨h1, Nat.ble_eq_true_of_le (by omega)⟩, Nat.ble_eq_true_of_le (by omega)⟩
theorem B_callVX (B : jB X cc own nL n0 R rt) (hn0 : n0 ≤ S.length) {idx maxL m i ci : Nat} {y : MethodName} {cy : ByteArray} {ret : Option FieldType} {as rest : List jA} {E : String} {Cn : String} {T : u_T} {N : Nat} {rf : List (Option (Option Nat))}
    (hcal : jCal y (.code y cy maxL ret) m) (hinst : Cond.instanceMethod y ∈ jWG) (hsel : Cond.selects Cn y y ∈ jWG) (hlink : Cond.methodLink own idx y ∈ jWG) (hM : jCt (xl X) (xG X) y (.code y cy maxL ret :: jWG) rm (jR i :: as) S μ (.inr E) S' μ') (hlen : S.length ≤ S'.length) (hroom : jRm' R rm k n maxL = true)
    (hs : S[i]? = some (.inl (ci, rf))) (hc : vwCl[ci]? = some (Cn, T, N)) (hstk : st = as.reverse ++ jR i :: rest) (hm : as.length = m) (h8 : (rest.map jcat).sum ≤ 8) (d : decode cc pc = .ok (.invokevirtual idx, 3)) (hk : k + rm.cells = k') (hn : n + rm.slots = n') (kx : JX X S' μ' k' n' pc ls E) : J X S μ k n pc ls st := by
  subst hk hn
  exact J_callV B.1 hcal hinst hsel hlink hM (Nat.le_trans B.2.2.1 hn0) hlen B.2.2.2.1 hroom hs hc hstk hm h8 d (fun w hw => by cases hw) (fun E' hE => by cases hE; exact kx)
/-- a callee with handlers of its own -/
theorem B_callH (B : jB X cc own nL n0 R rt) (hn0 : n0 ≤ S.length) {idx maxL m : Nat} {y : MethodName} {cy : ByteArray} {ret : Option FieldType} {hh : List (Nat × Nat × Nat × Nat)} {as rest : List jA} {v : Option jA}
    (hcal : jCal y (.codeWith y cy maxL ret hh) m) (hstat : Cond.static y ∈ jWG) (hlink : Cond.methodLink own idx y ∈ jWG) (hM : jCt (xl X) (xG X) y (.codeWith y cy maxL ret hh :: jWG) rm as S μ (.inl v) S' μ') (hlen : S.length ≤ S'.length) (hroom : jRm' R rm k n maxL = true)
    (hstk : st = as.reverse ++ rest) (hm : as.length = m) (h8 : (rest.map jcat).sum ≤ 8) (d : decode cc pc = .ok (.invokestatic idx, 3)) (hk : k + rm.cells = k') (hn : n + rm.slots = n') (hst : v.toList ++ rest = st') (kk : J X S' μ' k' n' (pc + 3) ls st') : J X S μ k n pc ls st := by
  subst hk hn hst
  exact J_callH B.1 hcal hstat hlink hM (Nat.le_trans B.2.2.1 hn0) hlen B.2.2.2.1 hroom hstk hm h8 d (fun w hw => by cases hw; exact kk) (fun E hE => by cases hE)
theorem K_xlen (B : jB X cc own nL n0 R rt) {L : Int} {sx : Int → Int} (hsx : jsx (xG X) L sx) (d : decode cc pc = .ok (.arraylength, 1)) (h : J X S μ k n (pc + 1) ls (jI L :: st)) : J X S μ k n pc ls (jR jXS :: st) := by
  obtain ⟨⟨hx, hb, hml, hown, hts, hK, hFz, hlo, hst0⟩, -⟩ := B
  obtain ⟨hL, -⟩ := hsx
  subst hL
  intro H locs σ lc hH hl ho hst
  have h9 := h H locs σ lc hH hl ho (fun v hv => by
    rcases List.mem_cons.mp hv with e | e
    · rw [e]
      have := hFz.2.2.1
      show jIn _
      unfold jIn
      omega
    · exact hst v (List.mem_cons_of_mem _ e))
  rw [List.map_cons] at h9 ⊢
  have e2 : jv σ (jR jXS) = .ref (gS (xG X)) := by
    show Value.ref (σ jXS) = _
    rw [hH.2.2.2.2.1.1]
  rw [e2]
  exact va_slen hx hb hFz.1 (Nat.lt_of_lt_of_le hFz.2.1 hFz.2.2.2.2.2.2.1) (fun z => by have := hFz.2.1; unfold gA at z; omega) hH.2.2.1 d h9
theorem K_xald (B : jB X cc own nL n0 R rt) {L : Int} {sx : Int → Int} (hsx : jsx (xG X) L sx) {j : Int} (hj : 0 ≤ j ∧ j < L) (d : decode cc pc = .ok (.iaload, 1)) (h : J X S μ k n (pc + 1) ls (jI (sx j) :: st)) : J X S μ k n pc ls (jI j :: jR jXS :: st) := by
  obtain ⟨⟨hx, hb, hml, hown, hts, hK, hFz, hlo, hst0⟩, -⟩ := B
  obtain ⟨hL, hs⟩ := hsx
  obtain ⟨e1, hin⟩ := hs j hj.1 hj.2
  have h3 := hFz.2.2.1
  have hjn : jIn j := by unfold jIn; omega
  intro H locs σ lc hH hl ho hst
  have h9 := h H locs σ lc hH hl ho (fun v hv => by
    rcases List.mem_cons.mp hv with e | e
    · rw [e]; exact hin
    · exact hst v (List.mem_cons_of_mem _ (List.mem_cons_of_mem _ e)))
  rw [List.map_cons] at h9
  rw [List.map_cons, List.map_cons]
  have e2 : jv σ (jR jXS) = .ref (gS (xG X)) := by
    show Value.ref (σ jXS) = _
    rw [hH.2.2.2.2.1.1]
  rw [e2]
  have en : (Int32.ofInt j).toNatClampNeg = j.toNat := by
    unfold Int32.toNatClampNeg
    rw [j_tI hjn]
  refine va_sld hx hb hFz.1 (Nat.lt_of_lt_of_le hFz.2.1 hFz.2.2.2.2.2.2.1) (fun z => by have := hFz.2.1; unfold gA at z; omega) hH.2.2.1 ?_ d ?_
  · intro q
    rcases q with q | q
    · have := (j_lt hjn j_in0).mp q
      omega
    · rw [en] at q
      omega
  · rw [en, e1]
    exact h9
end LAWROWS
