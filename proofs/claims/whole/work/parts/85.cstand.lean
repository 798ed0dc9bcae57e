/-! LEVEL 2: the class stands at a bay at a moment -/
theorem kC_32 {m : jMu} {M : Int → Int} (C : kC m 0 M) {j v : Int} : kC (jup m 32 j v) 0 M := kC_frame C (fun c _ h2 => jup_c (by omega)) (fun _ _ _ => rfl)
theorem c_skyL {m : jMu} {M : Int → Int} (C : kC m 0 M) {d h : Int} (hd : m 32 5 = d) (hh : m 32 6 = h) : ∀ (k q : Nat), (k : Int) ≤ M 1 → k < q → f_X1_feelWeather_L15 q ((k : Int) - 1) m = some (jup (jup (jup m 32 2 (itn (sSkF M d h) k 0 (0, 0, 10)).1) 32 7 (itn (sSkF M d h) k 0 (0, 0, 10)).2.1) 32 8 (itn (sSkF M d h) k 0 (0, 0, 10)).2.2) := by
  have hn := C.n
  intro k
  induction k with
  | zero =>
    intro q _ hq
    obtain ⟨q, rfl⟩ : ∃ t, q = t + 1 := ⟨q - 1, by omega⟩
    rw [f_X1_feelWeather_L15, if_pos (by omega)]
    rfl
  | succ k ih =>
    intro q hk hq
    obtain ⟨q, rfl⟩ : ∃ t, q = t + 1 := ⟨q - 1, by omega⟩
    have I := ih q (by omega) (by omega)
    rw [show (((k + 1 : Nat) : Int)) - 1 = (k : Int) by omega]
    rw [f_X1_feelWeather_L15, if_neg (by omega), itn_snoc, Int.zero_add, hd, hh]
    have e : jW ((k : Int) + -1) = (k : Int) - 1 := by rw [jW_of (by omega) (by omega)]; omega
    simp (disch := omega) only [cg_sky C, cg_sky (kC_32 C), cg_sky (kC_32 (kC_32 C)), cp_sky C, Option.bind_some, e, I, jlt_eq, ite01]
    unfold sSkF
    by_cases g1 : h < M (92 + 7 * (k : Int) + 2)
    · rw [if_pos g1, if_neg (fun z => by omega)]
    · rw [if_neg g1]
      by_cases g2 : M (92 + 7 * (k : Int) + 3) < h
      · rw [if_pos g2, if_neg (fun z => by omega)]
      · rw [if_neg g2]
        by_cases g3 : M (92 + 7 * (k : Int)) ≤ d ∧ d ≤ M (92 + 7 * (k : Int) + 1)
        · rw [if_pos g3, if_pos ⟨g3, by omega, by omega⟩]
        · rw [if_neg g3, if_neg (fun z => g3 z.1)]
theorem c_nest {m : jMu} {M : Int → Int} (C : kC m 0 M) {bay d : Int} (hd : m 32 5 = d) : f_X1_hasNest bay m = some (sNe M bay d) := by
  have hn := C.n
  have hz := C.z
  unfold f_X1_hasNest sNe
  refine itx_loop (L := fun q i (_ : Unit) => f_X1_hasNest_L10 q bay i m) (sNeF M bay d) _ (fun _ _ => True) (lo := 0) (n := M 4) ?_ ?_ (M 4).toNat jFU 0 () (by omega) (by omega) (by unfold jFU; omega) trivial
  · intro q i s h0 h1 _
    show (∃ v, _ ∧ f_X1_hasNest_L10 (q + 1) bay i m = some v) ∨ (∃ t, _ ∧ f_X1_hasNest_L10 (q + 1) bay i m = _ ∧ True)
    rw [f_X1_hasNest_L10]
    simp (disch := omega) only [xIsIn, cHas, cRoom, Option.bind_some, nIz, nAz, nRz, nEz, nDz, nI0z, nI1z, nA0z, nA1z, nE0z, nE1z, nR0z, nR1z, jcat2_r, jcat2_l, jlt_eq, ite01, ite01o, ite01p, ite00, ite10, xe1, xe2, xe3, xe4, xe5, xe6, if_true, if_false, f_X5_size, Int.reduceLE, Int.reduceLT, hz, hd, cg_nest C, cp_nest C, if_neg, jW_of]
    unfold sNeF
    by_cases g : M (324 + 3 * i) = bay
    · by_cases g2 : M (324 + 3 * i + 1) ≤ d ∧ d ≤ M (324 + 3 * i + 2)
      · exact Or.inl ⟨1, by rw [if_pos ⟨g, g2⟩], by rw [if_pos g, if_pos g2]⟩
      · exact Or.inr ⟨(), by rw [if_neg (fun z => g2 z.2)], by rw [if_pos g, if_neg g2], trivial⟩
    · exact Or.inr ⟨(), by rw [if_neg (fun z => g z.1)], by rw [if_neg g], trivial⟩
  · intro q s _
    show f_X1_hasNest_L10 (q + 1) bay (M 4) m = _
    rw [f_X1_hasNest_L10]
    simp (disch := omega) only [xIsIn, cHas, cRoom, Option.bind_some, nIz, nAz, nRz, nEz, nDz, nI0z, nI1z, nA0z, nA1z, nE0z, nE1z, nR0z, nR1z, jcat2_r, jcat2_l, jlt_eq, ite01, ite01o, ite01p, ite00, ite10, xe1, xe2, xe3, xe4, xe5, xe6, if_true, if_false, f_X5_size, Int.reduceLE, Int.reduceLT, hz, if_pos]
theorem sNe_01 (M : Int → Int) (bay d : Int) : sNe M bay d = 0 ∨ sNe M bay d = 1 := by
  unfold sNe
  have : ∀ (n : Nat) (i : Int), itx (sNeF M bay d) (fun _ => 0) n i () = 0 ∨ itx (sNeF M bay d) (fun _ => 0) n i () = 1 := by
    intro n
    induction n with
    | zero => intro i; exact Or.inl rfl
    | succ n ih =>
      intro i
      unfold itx
      unfold sNeF
      by_cases h : M (324 + 3 * i) = bay ∧ M (324 + 3 * i + 1) ≤ d ∧ d ≤ M (324 + 3 * i + 2)
      · rw [if_pos h]; exact Or.inr rfl
      · rw [if_neg h]; exact ih (i + 1)
  exact this _ 0
/-- the class's place -/
def clP (m : jMu) (M : Int → Int) (bay mo tr : Int) : Prop := m 32 1 = sAny M 314 3 (mo / 12) ∧ m 32 2 = (sSk M (mo / 12) (mo % 12)).1 ∧ m 32 3 = tr ∧ m 32 4 = sNe M bay (mo / 12) ∧ m 32 5 = mo / 12 ∧ m 32 6 = mo % 12 ∧ m 32 7 = (sSk M (mo / 12) (mo % 12)).2.1 ∧ m 32 8 = (sSk M (mo / 12) (mo % 12)).2.2 ∧ m 32 9 = M (20 + 9 * bay + 1) ∧ m 32 10 = M (20 + 9 * bay)
theorem c_standJ {m : jMu} {M : Int → Int} (C : kC m 0 M) {bay mo tr : Int} (h1 : m 32 1 = sAny M 314 3 (mo / 12)) (h5 : m 32 5 = mo / 12) (h6 : m 32 6 = mo % 12) (h9 : m 32 9 = M (20 + 9 * bay + 1)) (h10 : m 32 10 = M (20 + 9 * bay)) : ∃ m', f_X1_stand_J117 bay tr m = some m' ∧ clP m' M bay mo tr ∧ ∀ c, c ≠ 32 → m' c = m c := by
  have hn := C.n
  have hz := (kC_32 (kC_32 C (j := 3) (v := tr)) (j := 4) (v := sNe M bay (mo / 12))).z
  have C2 := kC_32 C (j := 3) (v := tr)
  have C3 := kC_32 C2 (j := 4) (v := sNe M bay (mo / 12))
  have hd : jup m 32 3 tr 32 5 = mo / 12 := by rw [jup_j (by decide)]; exact h5
  have N := c_nest C2 (bay := bay) hd
  have S := c_skyL C3 (d := mo / 12) (h := mo % 12) (by rw [jup_j (by decide), jup_j (by decide)]; exact h5) (by rw [jup_j (by decide), jup_j (by decide)]; exact h6) (M 1).toNat jFU (by omega) (by unfold jFU; omega)
  rw [show ((M 1).toNat : Int) = M 1 by omega] at S
  have e : (f_X1_stand_J117 bay tr m) = (f_X1_feelWeather (jup (jup m 32 3 tr) 32 4 (sNe M bay (mo / 12)))).bind fun r => some r := by
    unfold f_X1_stand_J117
    rw [jlt_eq, N, Option.bind_some]
    rcases sNe_01 M bay (mo / 12) with g | g
    · rw [g, if_pos rfl, jlt_eq]
    · rw [g, if_neg (by decide), jlt_eq]
  rw [e]
  unfold f_X1_feelWeather f_X5_size
  rw [hz.2.1, Option.bind_some, jW_of (by omega) (by omega), S, Option.bind_some]
  refine ⟨_, rfl, ⟨?_, ?_, ?_, ?_, ?_, ?_, ?_, ?_, ?_, ?_⟩, fun c hc => ?_⟩
  · simp (disch := omega) only [jup_j, h1]
  · simp (disch := omega) only [jup_j, jup_s]; rfl
  · simp (disch := omega) only [jup_j, jup_s]
  · simp (disch := omega) only [jup_j, jup_s]
  · simp (disch := omega) only [jup_j, h5]
  · simp (disch := omega) only [jup_j, h6]
  · simp (disch := omega) only [jup_j, jup_s]; rfl
  · simp (disch := omega) only [jup_j, jup_s]; rfl
  · simp (disch := omega) only [jup_j, h9]
  · simp (disch := omega) only [jup_j, h10]
  · rw [jup_c hc, jup_c hc, jup_c hc, jup_c hc, jup_c hc]
theorem c_stand {m : jMu} {M : Int → Int} (C : kC m 0 M) {bay mo : Int} (hb : 0 ≤ bay ∧ bay < M 0) (hm : 0 ≤ mo ∧ mo < 2400) : ∃ m', f_X1_stand bay mo m = some m' ∧ clP m' M bay mo (sTr M (mo / 12) (mo % 12)) ∧ ∀ c, c ≠ 32 → m' c = m c := by
  have hn := C.n
  have e1 : jDv mo 12 = mo / 12 := xdv hm.1 (by omega) (by decide)
  have e2 : jRm mo 12 = mo % 12 := xrm hm.1 (by decide) (by decide)
  have C2 : kC (jup (jup m 32 5 (mo / 12)) 32 6 (mo % 12)) 0 M := kC_32 (kC_32 C)
  have C4 : kC (jup (jup (jup m 32 5 (mo / 12)) 32 6 (mo % 12)) 32 9 (M (20 + 9 * bay + 1))) 0 M := kC_32 C2
  have C6 : kC (jup (jup (jup (jup m 32 5 (mo / 12)) 32 6 (mo % 12)) 32 9 (M (20 + 9 * bay + 1))) 32 10 (M (20 + 9 * bay))) 0 M := kC_32 C4
  have C8 : kC (jup (jup (jup (jup (jup m 32 5 (mo / 12)) 32 6 (mo % 12)) 32 9 (M (20 + 9 * bay + 1))) 32 10 (M (20 + 9 * bay))) 32 1 (sAny M 314 3 (mo / 12))) 0 M := kC_32 C6
  have hz8 := C8.z
  have d6 : jup (jup (jup (jup m 32 5 (mo / 12)) 32 6 (mo % 12)) 32 9 (M (20 + 9 * bay + 1))) 32 10 (M (20 + 9 * bay)) 32 5 = mo / 12 := by
    simp (disch := omega) only [jup_j, jup_s]
  have g9 := cg_bay C2 hb.1 hb.2 (c := 1) (by decide) (by decide)
  have g10 := cg_bay C4 hb.1 hb.2 (c := 0) (by decide) (by decide)
  rw [Int.add_zero] at g10
  unfold f_X1_stand
  rw [e1, e2, jlt_eq, jlt_eq, g9, Option.bind_some, jlt_eq, g10, Option.bind_some, jlt_eq, d6, c_str C6, Option.bind_some, if_pos (sAny_01 _ _ _ _), jlt_eq]
  generalize hm8 : jup (jup (jup (jup (jup m 32 5 (mo / 12)) 32 6 (mo % 12)) 32 9 (M (20 + 9 * bay + 1))) 32 10 (M (20 + 9 * bay))) 32 1 (sAny M 314 3 (mo / 12)) = m8 at *
  have a1 : m8 32 1 = sAny M 314 3 (mo / 12) := by rw [← hm8, jup_s]
  have a5 : m8 32 5 = mo / 12 := by rw [← hm8]; simp (disch := omega) only [jup_j, jup_s]
  have a6 : m8 32 6 = mo % 12 := by rw [← hm8]; simp (disch := omega) only [jup_j, jup_s]
  have a9 : m8 32 9 = M (20 + 9 * bay + 1) := by rw [← hm8]; simp (disch := omega) only [jup_j, jup_s]
  have a10 : m8 32 10 = M (20 + 9 * bay) := by rw [← hm8]; simp (disch := omega) only [jup_j, jup_s]
  have ac : ∀ c, c ≠ 32 → m8 c = m c := fun c hc => by rw [← hm8, jup_c hc, jup_c hc, jup_c hc, jup_c hc, jup_c hc]
  have a15 : m8 1 15 = M 12 := hz8.2.2.2.2.2.2.2.2.2.2.2.2.1
  have K : ∀ tr, ∃ m', f_X1_stand_J117 bay tr m8 = some m' ∧ clP m' M bay mo tr ∧ ∀ c, c ≠ 32 → m' c = m c := by
    intro tr
    obtain ⟨m', k1, k2, k3⟩ := c_standJ C8 (bay := bay) (mo := mo) (tr := tr) a1 a5 a6 a9 a10
    exact ⟨m', k1, k2, fun c hc => (k3 c hc).trans (ac c hc)⟩
  rw [a15, a6]
  unfold sTr
  by_cases g : jAn (jSr (M 12) (mo % 12)) 1 = 1
  · rw [if_pos g]
    unfold f_X1_stand_J89
    rw [if_neg (by decide), a5, c_had C8, Option.bind_some]
    by_cases g2 : sAny M 302 2 (mo / 12) = 0
    · rw [if_pos g2, if_pos ⟨g, g2⟩]; exact K 1
    · rw [if_neg g2, if_neg (fun z => g2 z.2)]; exact K 0
  · rw [if_neg g, if_neg (fun z => g z.1)]
    unfold f_X1_stand_J89
    rw [if_pos rfl]
    exact K 0
