/-! LEVEL 2: what is so at a bay at a moment -/
def sAny (M : Int → Int) (base cnt d : Int) : Int := itx (fun k (_ : Unit) => if M (base + 2 * k) ≤ d ∧ d ≤ M (base + 2 * k + 1) then .inl 1 else .inr ()) (fun _ => 0) (M cnt).toNat 0 ()
theorem m_had {m mm : jMu} (C : kC mm 0 (m 75)) {d : Int} : f_X10_isHad d m = some (sAny (m 75) 302 2 d) := by
  have hn := C.n
  unfold f_X10_isHad sAny
  refine itx_loop (L := fun q i (_ : Unit) => f_X10_isHad_L2 q d i m) _ _ (fun _ _ => True) (lo := 0) (n := m 75 2) ?_ ?_ (m 75 2).toNat jFU 0 () (by omega) (by omega) (by unfold jFU; omega) trivial
  · intro q i s h0 h1 _
    show (∃ v, _ ∧ f_X10_isHad_L2 (q + 1) d i m = some v) ∨ (∃ t, _ ∧ f_X10_isHad_L2 (q + 1) d i m = _ ∧ True)
    rw [f_X10_isHad_L2]
    simp (disch := omega) only [mIsIn, mDay, mHour, mMoment, Option.bind_some, ite01, ite01o, ite01p, ite00, ite10, jlt_eq, jup_s, le00, le10, le20, le30, if_true, if_false, Int.reduceLE, Int.reduceLT, if_neg, if_pos, jW_of]
    by_cases h : m 75 (302 + 2 * i) ≤ d ∧ d ≤ m 75 (302 + 2 * i + 1)
    · exact Or.inl ⟨1, by rw [if_pos h], by rw [if_pos h]⟩
    · exact Or.inr ⟨(), by rw [if_neg h], by rw [if_neg h], trivial⟩
  · intro q s _
    show f_X10_isHad_L2 (q + 1) d (m 75 2) m = _
    rw [f_X10_isHad_L2, if_pos (Int.le_refl _)]
theorem m_str {m mm : jMu} (C : kC mm 0 (m 75)) {d : Int} : f_X10_isStrike d m = some (sAny (m 75) 314 3 d) := by
  have hn := C.n
  unfold f_X10_isStrike sAny
  refine itx_loop (L := fun q i (_ : Unit) => f_X10_isStrike_L2 q d i m) _ _ (fun _ _ => True) (lo := 0) (n := m 75 3) ?_ ?_ (m 75 3).toNat jFU 0 () (by omega) (by omega) (by unfold jFU; omega) trivial
  · intro q i s h0 h1 _
    show (∃ v, _ ∧ f_X10_isStrike_L2 (q + 1) d i m = some v) ∨ (∃ t, _ ∧ f_X10_isStrike_L2 (q + 1) d i m = _ ∧ True)
    rw [f_X10_isStrike_L2]
    simp (disch := omega) only [mIsIn, mDay, mHour, mMoment, Option.bind_some, ite01, ite01o, ite01p, ite00, ite10, jlt_eq, jup_s, le00, le10, le20, le30, if_true, if_false, Int.reduceLE, Int.reduceLT, if_neg, if_pos, jW_of]
    by_cases h : m 75 (314 + 2 * i) ≤ d ∧ d ≤ m 75 (314 + 2 * i + 1)
    · exact Or.inl ⟨1, by rw [if_pos h], by rw [if_pos h]⟩
    · exact Or.inr ⟨(), by rw [if_neg h], by rw [if_neg h], trivial⟩
  · intro q s _
    show f_X10_isStrike_L2 (q + 1) d (m 75 3) m = _
    rw [f_X10_isStrike_L2, if_pos (Int.le_refl _)]
theorem c_had {m : jMu} {M : Int → Int} (C : kC m 0 M) {d : Int} : f_X5_isSpannedByAny 8 9 12 d m = some (sAny M 302 2 d) := by
  have hn := C.n
  have hz := C.z
  unfold f_X5_isSpannedByAny sAny
  refine itx_loop (L := fun q i (_ : Unit) => f_X5_isSpannedByAny_L2 8 9 12 q d i m) _ _ (fun _ _ => True) (lo := 0) (n := M 2) ?_ ?_ (M 2).toNat jFU 0 () (by omega) (by omega) (by unfold jFU; omega) trivial
  · intro q i s h0 h1 _
    show (∃ v, _ ∧ f_X5_isSpannedByAny_L2 8 9 12 (q + 1) d i m = some v) ∨ (∃ t, _ ∧ f_X5_isSpannedByAny_L2 8 9 12 (q + 1) d i m = _ ∧ True)
    rw [f_X5_isSpannedByAny_L2]
    simp (disch := omega) only [xIsIn, cHas, cRoom, Option.bind_some, nIz, nAz, nRz, nEz, nDz, nI0z, nI1z, nA0z, nA1z, nE0z, nE1z, nR0z, nR1z, jcat2_r, jcat2_l, jlt_eq, ite01, ite01o, ite01p, ite00, ite10, xe1, xe2, xe3, xe4, xe5, xe6, if_true, if_false, f_X5_size, Int.reduceLE, Int.reduceLT, hz, cp_had C, if_neg, jW_of]
    by_cases h : M (302 + 2 * i) ≤ d ∧ d ≤ M (302 + 2 * i + 1)
    · exact Or.inl ⟨1, by rw [if_pos h], by rw [if_pos h]⟩
    · exact Or.inr ⟨(), by rw [if_neg h], by rw [if_neg h], trivial⟩
  · intro q s _
    show f_X5_isSpannedByAny_L2 8 9 12 (q + 1) d (M 2) m = _
    rw [f_X5_isSpannedByAny_L2, hz.2.2.1, if_pos (Int.le_refl _)]
theorem c_str {m : jMu} {M : Int → Int} (C : kC m 0 M) {d : Int} : f_X5_isSpannedByAny 10 11 10 d m = some (sAny M 314 3 d) := by
  have hn := C.n
  have hz := C.z
  unfold f_X5_isSpannedByAny sAny
  refine itx_loop (L := fun q i (_ : Unit) => f_X5_isSpannedByAny_L2 10 11 10 q d i m) _ _ (fun _ _ => True) (lo := 0) (n := M 3) ?_ ?_ (M 3).toNat jFU 0 () (by omega) (by omega) (by unfold jFU; omega) trivial
  · intro q i s h0 h1 _
    show (∃ v, _ ∧ f_X5_isSpannedByAny_L2 10 11 10 (q + 1) d i m = some v) ∨ (∃ t, _ ∧ f_X5_isSpannedByAny_L2 10 11 10 (q + 1) d i m = _ ∧ True)
    rw [f_X5_isSpannedByAny_L2]
    simp (disch := omega) only [xIsIn, cHas, cRoom, Option.bind_some, nIz, nAz, nRz, nEz, nDz, nI0z, nI1z, nA0z, nA1z, nE0z, nE1z, nR0z, nR1z, jcat2_r, jcat2_l, jlt_eq, ite01, ite01o, ite01p, ite00, ite10, xe1, xe2, xe3, xe4, xe5, xe6, if_true, if_false, f_X5_size, Int.reduceLE, Int.reduceLT, hz, cp_str C, if_neg, jW_of]
    by_cases h : M (314 + 2 * i) ≤ d ∧ d ≤ M (314 + 2 * i + 1)
    · exact Or.inl ⟨1, by rw [if_pos h], by rw [if_pos h]⟩
    · exact Or.inr ⟨(), by rw [if_neg h], by rw [if_neg h], trivial⟩
  · intro q s _
    show f_X5_isSpannedByAny_L2 10 11 10 (q + 1) d (M 3) m = _
    rw [f_X5_isSpannedByAny_L2, hz.2.2.2.1, if_pos (Int.le_refl _)]
theorem sAny_01 (M : Int → Int) (base cnt d : Int) : sAny M base cnt d = 0 ∨ sAny M base cnt d = 1 := by
  unfold sAny
  have : ∀ (n : Nat) (i : Int), itx (fun k (_ : Unit) => if M (base + 2 * k) ≤ d ∧ d ≤ M (base + 2 * k + 1) then (.inl 1 : Int ⊕ Unit) else .inr ()) (fun _ => 0) n i () = 0 ∨ itx (fun k (_ : Unit) => if M (base + 2 * k) ≤ d ∧ d ≤ M (base + 2 * k + 1) then (.inl 1 : Int ⊕ Unit) else .inr ()) (fun _ => 0) n i () = 1 := by
    intro n
    induction n with
    | zero => intro i; exact Or.inl rfl
    | succ n ih =>
      intro i
      unfold itx
      by_cases h : M (base + 2 * i) ≤ d ∧ d ≤ M (base + 2 * i + 1)
      · rw [if_pos h]; exact Or.inr rfl
      · rw [if_neg h]; exact ih (i + 1)
  exact this _ 0
/-! nests -/
def sNeF (M : Int → Int) (bay d : Int) (k : Int) (_ : Unit) : Int ⊕ Unit := if M (324 + 3 * k) = bay ∧ M (324 + 3 * k + 1) ≤ d ∧ d ≤ M (324 + 3 * k + 2) then .inl 1 else .inr ()
def sNe (M : Int → Int) (bay d : Int) : Int := itx (sNeF M bay d) (fun _ => 0) (M 4).toNat 0 ()
/-! the sky -/
def sSkF (M : Int → Int) (d h : Int) (k : Int) (s : Int × Int × Int) : Int × Int × Int := if (M (92 + 7 * k) ≤ d ∧ d ≤ M (92 + 7 * k + 1)) ∧ M (92 + 7 * k + 2) ≤ h ∧ h ≤ M (92 + 7 * k + 3) then (M (92 + 7 * k + 4), M (92 + 7 * k + 5), M (92 + 7 * k + 6)) else s
def sSk (M : Int → Int) (d h : Int) : Int × Int × Int := itn (sSkF M d h) (M 1).toNat 0 (0, 0, 10)
theorem itn_snoc {σ : Type} (f : Int → σ → σ) : ∀ (d : Nat) (i : Int) (s : σ), itn f (d + 1) i s = f (i + d) (itn f d i s) := by
  intro d
  induction d with
  | zero =>
    intro i s
    show f i s = f (i + ((0 : Nat) : Int)) s
    rw [Int.natCast_zero, Int.add_zero]
  | succ d ih =>
    intro i s
    have e : itn f (d + 1 + 1) i s = itn f (d + 1) (i + 1) (f i s) := rfl
    have e2 : itn f (d + 1) i s = itn f d (i + 1) (f i s) := rfl
    rw [e, ih, e2]
    congr 1
    omega
def sTr (M : Int → Int) (d h : Int) : Int := if jAn (jSr (M 12) h) 1 = 1 ∧ sAny M 302 2 d = 0 then 1 else 0
