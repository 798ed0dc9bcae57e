/-! LEVEL 2: calls that write one row -/
def xst (M : Int → Int) (i v : Int) : Int → Int := fun x => if x = i then v else M x
theorem xst_s {M : Int → Int} {i v : Int} : xst M i v i = v := if_pos rfl
theorem xst_n {M : Int → Int} {i v x : Int} (h : x ≠ i) : xst M i v x = M x := if_neg h
theorem xst_j {m : jMu} {c : Nat} {i v : Int} : jup m c i v c = xst (m c) i v := funext fun x => by
  unfold jup xst
  by_cases h : x = i
  · rw [if_pos h, if_pos ⟨rfl, h⟩]
  · rw [if_neg h, if_neg (fun z => h z.2)]
theorem km_case {Fx Fm : jMu → Option (Int × jMu)} {m : jMu} {K : Nat} (hK : K < 11) {k v : Int} {M' : Int → Int} (hA : kA m)
    (h1 : k ≠ 0 → Fx m = some (k, m))
    (h2 : k = 0 → ∃ m1, Fx m = some (0, m1) ∧ m1 87 0 = v ∧ (∀ c, c ≠ (kT K).1 → c ≠ (kT K).1 + 1 → c ≠ 87 → m1 c = m c) ∧ TabR m1 (kT K).1 ((kT K).1 + 1) (kT K).2.2.1 (kT K).2.2.2 (kN M' K) (kF M' K))
    (h3 : k ≠ 0 → Fm m = some (0, jup m 74 0 k))
    (h4 : k = 0 → ∀ m1 : jMu, m1 75 = m 75 → ∃ m2, Fm m1 = some (v, m2) ∧ m2 74 0 = 0 ∧ (∀ j, j ≠ 0 → m2 74 j = m1 74 j) ∧ m2 75 = M' ∧ ∀ c, c ≠ 74 → c ≠ 75 → m2 c = m1 c)
    (h5 : k = 0 → (∀ i, ¬ kG K i → M' i = m 75 i) ∧ (m 75 0 ≤ M' 0 ∧ m 75 5 ≤ M' 5 ∧ m 75 6 ≤ M' 6 ∧ m 75 7 ≤ M' 7) ∧ kR M' K) :
    ∃ o, ((Fx m).bind fun r1 => (Fm r1.2).bind fun r2 => (f_X10_thrown r2.2).bind fun r3 => (if r3 = r1.1 then (if r1.1 = 0 then (if jCm (r2.2 87 0) r2.1 = 0 then some r2.2 else none) else some r2.2) else none)) = some o ∧ kA o := by
  by_cases hk : k = 0
  · obtain ⟨m1, a1, a2, a3, a4⟩ := h2 hk
    have b := kT_bd K (by omega)
    obtain ⟨m2, b1, b2, b3, b4, b5⟩ := h4 hk m1 (a3 75 (by omega) (by omega) (by omega))
    obtain ⟨c1, c2, c3⟩ := h5 hk
    refine ⟨m2, ?_, kA_put hK hA (fun c d1 d2 d3 d4 d5 d6 d7 => (b5 c d3 d4).trans (a3 c d1 d2 d5)) ⟨?_, ?_, ?_, ?_⟩ (by rw [b4]; exact c1) (by rw [b4]; exact c2) ⟨?_, by rw [b4]; exact c3⟩⟩
    · rw [a1, Option.bind_some, b1, Option.bind_some, mThr, Option.bind_some]
      have : m2 87 0 = v := by rw [b5 87 (by omega) (by omega)]; exact a2
      simp only [b2, if_true]
      rw [if_pos ((jCm_0 _ _).mpr this)]
    · rw [b3 3 (by decide), a3 74 (by omega) (by omega) (by omega)]
    · rw [b3 5 (by decide), a3 74 (by omega) (by omega) (by omega)]
    · rw [b3 9 (by decide), a3 74 (by omega) (by omega) (by omega)]
    · exact pE_cg (by rw [b3 12 (by decide), a3 74 (by omega) (by omega) (by omega)]) (by rw [b3 13 (by decide), a3 74 (by omega) (by omega) (by omega)]) (by rw [b3 14 (by decide), a3 74 (by omega) (by omega) (by omega)]) (by rw [b5 78 (by omega) (by omega), a3 78 (by omega) (by omega) (by omega)])
    · rw [b4]
      exact a4.frame (b5 _ (by omega) (by omega)) (b5 _ (by omega) (by omega))
  · refine ⟨jup m 74 0 k, ?_, kA_fM hA (fM.thr m k)⟩
    rw [h1 hk, Option.bind_some, h3 hk, Option.bind_some, mThr, Option.bind_some]
    simp only [jup_s, if_true, if_neg hk]
theorem km_bad {Fx Fm : jMu → Option (Int × jMu)} {m : jMu} {k : Int} (hA : kA m) (hk : k ≠ 0) (h1 : Fx m = some (k, m)) (h3 : Fm m = some (0, jup m 74 0 k)) :
    ∃ o, ((Fx m).bind fun r1 => (Fm r1.2).bind fun r2 => (f_X10_thrown r2.2).bind fun r3 => (if r3 = r1.1 then (if r1.1 = 0 then (if jCm (r2.2 87 0) r2.1 = 0 then some r2.2 else none) else some r2.2) else none)) = some o ∧ kA o := by
  refine ⟨jup m 74 0 k, ?_, kA_fM hA (fM.thr m k)⟩
  rw [h1, Option.bind_some, h3, Option.bind_some, mThr, Option.bind_some]
  simp only [jup_s, if_true, if_neg hk]
theorem km_good {Fx Fm : jMu → Option (Int × jMu)} {m : jMu} {K : Nat} (hK : K < 11) {v : Int} {M' : Int → Int} (hA : kA m)
    (h2 : ∃ m1, Fx m = some (0, m1) ∧ m1 87 0 = v ∧ (∀ c, c ≠ (kT K).1 → c ≠ (kT K).1 + 1 → c ≠ 87 → m1 c = m c) ∧ TabR m1 (kT K).1 ((kT K).1 + 1) (kT K).2.2.1 (kT K).2.2.2 (kN M' K) (kF M' K))
    (h4 : ∀ m1 : jMu, m1 75 = m 75 → ∃ m2, Fm m1 = some (v, m2) ∧ m2 74 0 = 0 ∧ (∀ j, j ≠ 0 → m2 74 j = m1 74 j) ∧ m2 75 = M' ∧ ∀ c, c ≠ 74 → c ≠ 75 → m2 c = m1 c)
    (h5 : (∀ i, ¬ kG K i → M' i = m 75 i) ∧ (m 75 0 ≤ M' 0 ∧ m 75 5 ≤ M' 5 ∧ m 75 6 ≤ M' 6 ∧ m 75 7 ≤ M' 7) ∧ kR M' K) :
    ∃ o, ((Fx m).bind fun r1 => (Fm r1.2).bind fun r2 => (f_X10_thrown r2.2).bind fun r3 => (if r3 = r1.1 then (if r1.1 = 0 then (if jCm (r2.2 87 0) r2.1 = 0 then some r2.2 else none) else some r2.2) else none)) = some o ∧ kA o :=
  km_case hK (k := 0) hA (fun h => (h rfl).elim) (fun _ => h2) (fun h => (h rfl).elim) (fun _ => h4) (fun _ => h5)
