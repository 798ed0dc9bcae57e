/-! LEVEL 2: tests and throws; what scratch the two sides write -/
theorem ite01 {α : Type} {p : Prop} [Decidable p] (x y : α) : (if (if p then (1 : Int) else 0) = 0 then x else y) = if p then y else x := by
  by_cases h : p
  · rw [if_pos h, if_pos h, if_neg (by decide)]
  · rw [if_neg h, if_neg h, if_pos rfl]
theorem ite01o {α : Type} {p : Prop} [Decidable p] (x y : α) : (if (if p then (1 : Int) else 0) = 0 ∨ (if p then (1 : Int) else 0) = 1 then x else y) = x := by
  by_cases h : p
  · rw [if_pos h, if_pos (Or.inr rfl)]
  · rw [if_neg h, if_pos (Or.inl rfl)]
theorem ite01p {α : Type} {p : Prop} [Decidable p] (x y : α) : (if (if p then (1 : Int) else 0) = 1 then x else y) = if p then x else y := by
  by_cases h : p
  · rw [if_pos h, if_pos h, if_pos rfl]
  · rw [if_neg h, if_neg h, if_neg (by decide)]
theorem ite00 {α : Type} (x y : α) : (if (0 : Int) = 0 then x else y) = x := if_pos rfl
theorem ite10 {α : Type} (x y : α) : (if (1 : Int) = 0 then x else y) = y := if_neg (by decide)
theorem xIsIn (a l h : Int) : f_X9_isIn a l h = some (if l ≤ a ∧ a ≤ h then 1 else 0) := by
  unfold f_X9_isIn
  split
  · rw [if_neg (by omega)]
  · split
    · rw [if_neg (by omega)]
    · rw [if_pos (by omega)]
theorem mIsIn (a l h : Int) : f_X10_isIn a l h = some (if l ≤ a ∧ a ≤ h then 1 else 0) := xIsIn a l h
theorem cHas (t a w : Nat) (r : Int) (m : jMu) : f_X5_has t a w r m = some (if 0 ≤ r ∧ r < m t 3 then 1 else 0) := by
  unfold f_X5_has
  split
  · rw [if_neg (by omega)]
  · split
    · rw [if_neg (by omega)]
    · rw [if_pos (by omega)]
theorem cRoom (t a w : Nat) (m : jMu) : f_X5_hasRoom t a w m = some (if m t 3 < m t 0 then 1 else 0) := by
  unfold f_X5_hasRoom
  split
  · rw [if_neg (by omega)]
  · rw [if_pos (by omega)]
theorem mDay (a : Int) : f_X10_isDay a = some (if 0 ≤ a ∧ a ≤ 199 then 1 else 0) := by
  unfold f_X10_isDay
  rw [mIsIn, Option.bind_some, ite01o]
theorem mHour (a : Int) : f_X10_isHour a = some (if 0 ≤ a ∧ a ≤ 11 then 1 else 0) := by
  unfold f_X10_isHour
  rw [mIsIn, Option.bind_some, ite01o]
theorem mMoment (a : Int) : f_X10_isMoment a = some (if 0 ≤ a ∧ a ≤ 2399 then 1 else 0) := by
  unfold f_X10_isMoment
  rw [mIsIn, Option.bind_some, ite01o]
theorem mIsX {a z : Int} (h : 0 ≤ z ∧ z ≤ 1000) : (f_X10_isIn a 0 (jW (z - 1))).bind (fun r1 => (if r1 = 0 ∨ r1 = 1 then some r1 else none)) = some (if 0 ≤ a ∧ a < z then 1 else 0) := by
  rw [mIsIn, Option.bind_some, ite01o, jW_of (by omega) (by omega)]
  by_cases g : 0 ≤ a ∧ a < z
  · rw [if_pos g, if_pos (by omega)]
  · rw [if_neg g, if_neg (by omega)]
theorem mBay {m : jMu} (a : Int) (h : 0 ≤ m 75 0 ∧ m 75 0 ≤ 8) : f_X10_isBay a m = some (if 0 ≤ a ∧ a < m 75 0 then 1 else 0) := mIsX (by omega)
theorem mTerms {m : jMu} (a : Int) (h : 0 ≤ m 75 5 ∧ m 75 5 ≤ 3) : f_X10_isTerms a m = some (if 0 ≤ a ∧ a < m 75 5 then 1 else 0) := mIsX (by omega)
theorem mGang {m : jMu} (a : Int) (h : 0 ≤ m 75 6 ∧ m 75 6 ≤ 4) : f_X10_isGang a m = some (if 0 ≤ a ∧ a < m 75 6 then 1 else 0) := mIsX (by omega)
theorem mBatch {m : jMu} (a : Int) (h : 0 ≤ m 75 7 ∧ m 75 7 ≤ 6) : f_X10_isBatch a m = some (if 0 ≤ a ∧ a < m 75 7 then 1 else 0) := mIsX (by omega)
theorem mJob {m : jMu} (a : Int) (h : 0 ≤ m 75 8 ∧ m 75 8 ≤ 40) : f_X10_isJob a m = some (if 0 ≤ a ∧ a < m 75 8 then 1 else 0) := mIsX (by omega)
theorem nIz {β : Type} {p : Prop} [Decidable p] {m : jMu} {f : Unit × jMu → Option (jOut β)} : jthr (f_X9_needIndex (if p then 1 else 0) m) f = if p then f ((), m) else some (.inl ("java/lang/IndexOutOfBoundsException", m)) := by
  unfold f_X9_needIndex
  rw [ite01]
  split <;> rfl
theorem nAz {β : Type} {p : Prop} [Decidable p] {m : jMu} {f : Unit × jMu → Option (jOut β)} : jthr (f_X9_needArgument (if p then 1 else 0) m) f = if p then f ((), m) else some (.inl ("java/lang/IllegalArgumentException", m)) := by
  unfold f_X9_needArgument
  rw [ite01]
  split <;> rfl
theorem nRz {β : Type} {p : Prop} [Decidable p] {m : jMu} {f : Unit × jMu → Option (jOut β)} : jthr (f_X9_needRoom (if p then 1 else 0) m) f = if p then f ((), m) else some (.inl ("java/lang/UnsupportedOperationException", m)) := by
  unfold f_X9_needRoom
  rw [ite01]
  split <;> rfl
theorem nEz {β : Type} {p : Prop} [Decidable p] {m : jMu} {f : Unit × jMu → Option (jOut β)} : jthr (f_X9_needElement (if p then 1 else 0) m) f = if p then f ((), m) else some (.inl ("java/util/NoSuchElementException", m)) := by
  unfold f_X9_needElement
  rw [ite01]
  split <;> rfl
theorem nI0z {β : Type} {m : jMu} {f : Unit × jMu → Option (jOut β)} : jthr (f_X9_needIndex 0 m) f = some (.inl ("java/lang/IndexOutOfBoundsException", m)) := rfl
theorem nI1z {β : Type} {m : jMu} {f : Unit × jMu → Option (jOut β)} : jthr (f_X9_needIndex 1 m) f = f ((), m) := rfl
theorem nA0z {β : Type} {m : jMu} {f : Unit × jMu → Option (jOut β)} : jthr (f_X9_needArgument 0 m) f = some (.inl ("java/lang/IllegalArgumentException", m)) := rfl
theorem nA1z {β : Type} {m : jMu} {f : Unit × jMu → Option (jOut β)} : jthr (f_X9_needArgument 1 m) f = f ((), m) := rfl
theorem nE0z {β : Type} {m : jMu} {f : Unit × jMu → Option (jOut β)} : jthr (f_X9_needElement 0 m) f = some (.inl ("java/util/NoSuchElementException", m)) := rfl
theorem nE1z {β : Type} {m : jMu} {f : Unit × jMu → Option (jOut β)} : jthr (f_X9_needElement 1 m) f = f ((), m) := rfl
theorem nR0z {β : Type} {m : jMu} {f : Unit × jMu → Option (jOut β)} : jthr (f_X9_needRoom 0 m) f = some (.inl ("java/lang/UnsupportedOperationException", m)) := rfl
theorem nR1z {β : Type} {m : jMu} {f : Unit × jMu → Option (jOut β)} : jthr (f_X9_needRoom 1 m) f = f ((), m) := rfl
theorem nDz {β : Type} {m : jMu} {f : Unit × jMu → Option (jOut β)} {a b : Int} : jthr (f_X9_needDays a b m) f = if (0 ≤ a ∧ a ≤ 199) ∧ (0 ≤ b ∧ b ≤ 199) then f ((), m) else some (.inl ("java/lang/IndexOutOfBoundsException", m)) := by
  unfold f_X9_needDays
  simp only [xIsIn, Option.bind_some, ite01, nI0z, nI1z]
  by_cases h1 : 0 ≤ a ∧ a ≤ 199
  · by_cases h2 : 0 ≤ b ∧ b ≤ 199
    · rw [if_pos h1, if_pos h2, if_pos ⟨h1, h2⟩]
      rfl
    · rw [if_pos h1, if_neg h2, if_neg (fun z => h2 z.2)]
      rfl
  · rw [if_neg h1, if_neg (fun z => h1 z.1)]
    rfl
theorem xe1 : ("java/lang/IllegalArgumentException" = "java/lang/IndexOutOfBoundsException") = False := by decide
theorem xe2 : ("java/lang/UnsupportedOperationException" = "java/lang/IndexOutOfBoundsException") = False := by decide
theorem xe3 : ("java/util/NoSuchElementException" = "java/lang/IndexOutOfBoundsException") = False := by decide
theorem xe4 : ("java/lang/UnsupportedOperationException" = "java/lang/IllegalArgumentException") = False := by decide
theorem xe5 : ("java/util/NoSuchElementException" = "java/lang/IllegalArgumentException") = False := by decide
theorem xe6 : ("java/lang/IndexOutOfBoundsException" = "java/lang/IllegalArgumentException") = False := by decide
/-- what a question may write: the class's scratch; the law's out besides; the reference's scratch -/
def fC (m m' : jMu) : Prop := ∀ c, c ≠ 32 → (c < 62 ∨ 73 < c) → m' c = m c
def fL (m m' : jMu) : Prop := ∀ c, c ≠ 32 → c ≠ 87 → (c < 62 ∨ 73 < c) → m' c = m c
def fM (m m' : jMu) : Prop := (∀ c, c ≠ 74 → (c < 78 ∨ 86 < c) → m' c = m c) ∧ m' 74 3 = m 74 3 ∧ m' 74 5 = m 74 5 ∧ m' 74 9 = m 74 9 ∧ (pE m → pE m')
theorem fC.rf (m : jMu) : fC m m := fun _ _ _ => rfl
theorem fC.tr {a b c : jMu} (h : fC a b) (g : fC b c) : fC a c := fun x h1 h2 => (g x h1 h2).trans (h x h1 h2)
theorem fM.rf (m : jMu) : fM m m := ⟨fun _ _ _ => rfl, rfl, rfl, rfl, fun h => h⟩
theorem fM.tr {a b c : jMu} (h : fM a b) (g : fM b c) : fM a c := ⟨fun x h1 h2 => (g.1 x h1 h2).trans (h.1 x h1 h2), g.2.1.trans h.2.1, g.2.2.1.trans h.2.2.1, g.2.2.2.1.trans h.2.2.2.1, fun z => g.2.2.2.2 (h.2.2.2.2 z)⟩
theorem fM.thr (m : jMu) (v : Int) : fM m (jup m 74 0 v) := ⟨fun c h1 _ => jup_c h1, jup_j (by decide), jup_j (by decide), jup_j (by decide), pE_cg (jup_j (by decide)) (jup_j (by decide)) (jup_j (by decide)) (jup_c (by decide))⟩
theorem kC.fC {m m' : jMu} (h : kC m 0 (m 75)) (hf : fC m m') : kC m' 0 (m' 75) := kC_frame h (fun c h1 h2 => hf c (by omega) (by omega)) (fun i _ _ => by rw [hf 75 (by omega) (by omega)])
theorem kA_fL {m m' : jMu} (h : kA m) (hf : fL m m') : kA m' := by
  obtain ⟨h1, h2, h3, h4⟩ := h
  have hM : m' 75 = m 75 := hf 75 (by omega) (by omega) (by omega)
  have hK : m' 76 = m 76 := hf 76 (by omega) (by omega) (by omega)
  have h74 : m' 74 = m 74 := hf 74 (by omega) (by omega) (by omega)
  refine ⟨kC_frame h1 (fun c a b => hf c (by omega) (by omega) (by omega)) (fun i _ _ => by rw [hM]), ?_, ?_, ?_⟩
  · rw [h74]
    exact h2.imp id (fun g => ⟨g.1, kC_frame g.2 (fun c a b => hf c (by omega) (by omega) (by omega)) (fun i _ _ => by rw [hK])⟩)
  · intro k hk
    have hT : ∀ k, k < 14 → 1 ≤ (kT k).1 ∧ (kT k).1 + 1 < 30 := by decide
    have := hT k hk
    rw [hf _ (by omega) (by omega) (by omega)]
    exact h3 k hk
  · unfold kS pE
    rw [h74, hf 78 (by omega) (by omega) (by omega), hf 30 (by omega) (by omega) (by omega), hf 31 (by omega) (by omega) (by omega), hf 77 (by omega) (by omega) (by omega), hf 0 (by omega) (by omega) (by omega)]
    exact h4
theorem kA_fM {m m' : jMu} (h : kA m) (hf : fM m m') : kA m' := by
  obtain ⟨h1, h2, h3, h4⟩ := h
  obtain ⟨hf, e3, e5, e9, eE⟩ := hf
  have hM : m' 75 = m 75 := hf 75 (by omega) (by omega)
  have hK : m' 76 = m 76 := hf 76 (by omega) (by omega)
  refine ⟨kC_frame h1 (fun c a b => hf c (by omega) (by omega)) (fun i _ _ => by rw [hM]), ?_, ?_, ?_⟩
  · rw [e3]
    exact h2.imp id (fun g => ⟨g.1, kC_frame g.2 (fun c a b => hf c (by omega) (by omega)) (fun i _ _ => by rw [hK])⟩)
  · intro k hk
    have hT : ∀ k, k < 14 → 1 ≤ (kT k).1 ∧ (kT k).1 + 1 < 30 := by decide
    have := hT k hk
    rw [hf _ (by omega) (by omega)]
    exact h3 k hk
  · unfold kS
    rw [e3, e5, e9, hf 30 (by omega) (by omega), hf 31 (by omega) (by omega), hf 77 (by omega) (by omega), hf 0 (by omega) (by omega)]
    exact ⟨h4.1, h4.2.1, h4.2.2.1, eE h4.2.2.2⟩
/-- a question of the class as the law puts it: the kind of what is thrown, and the answer -/
def cQ (x : Option (Int × jMu)) (m : jMu) (k v : Int) : Prop := ∃ m1, x = some (k, m1) ∧ fL m m1 ∧ (k = 0 → m1 87 0 = v)
def mQ (x : Option (Int × jMu)) (m : jMu) (k v : Int) : Prop := ∃ b m1, x = some (b, m1) ∧ fM m m1 ∧ m1 74 0 = k ∧ (k = 0 → b = v)
theorem cQ_val {m m' : jMu} {v : Int} {g : String → jMu → Option (Int × jMu)} (h : fC m m') : cQ (jcat2 (some (.inr (v, m'))) (fun r1 => (jlt (jup r1.2 87 0 r1.1) fun m2 => some ((0 : Int), m2))) g) m 0 v :=
  ⟨jup m' 87 0 v, rfl, fun c h1 h2 h3 => (jup_c h2).trans (h c h1 h3), fun _ => jup_s⟩
theorem cQ_thr {m : jMu} {k v : Int} (hk : k ≠ 0) : cQ (some (k, m)) m k v := ⟨m, rfl, fun _ _ _ _ => rfl, fun h => (hk h).elim⟩
theorem mQ_thr {m : jMu} {k v : Int} (hk : k ≠ 0) : mQ (some (0, jup m 74 0 k)) m k v := ⟨0, _, rfl, fM.thr m k, jup_s, fun h => (hk h).elim⟩
theorem mQ_val {m : jMu} {v : Int} : mQ (some (v, jup m 74 0 0)) m 0 v := ⟨v, _, rfl, fM.thr m 0, jup_s, fun _ => rfl⟩
theorem mThr (m : jMu) : f_X10_thrown m = some (m 74 0) := rfl
/-- a question's case of the law -/
theorem kq_case {Fx Fm : jMu → Option (Int × jMu)} {m : jMu} {k v : (Int → Int) → Int} (hA : kA m) (h1 : cQ (Fx m) m (k (m 75)) (v (m 75))) (h2 : ∀ m, kA m → mQ (Fm m) m (k (m 75)) (v (m 75))) : ∃ o, ((Fx m).bind fun r1 => (Fm r1.2).bind fun r2 => (f_X10_thrown r2.2).bind fun r3 => (if r3 = r1.1 then (if r1.1 = 0 then (if jCm (r2.2 87 0) r2.1 = 0 then some r2.2 else none) else some r2.2) else none)) = some o ∧ kA o := by
  obtain ⟨m1, e1, e2, e3⟩ := h1
  have hA1 := kA_fL hA e2
  have hM : m1 75 = m 75 := e2 75 (by omega) (by omega) (by omega)
  obtain ⟨b, m2, g1, g2, g3, g4⟩ := h2 m1 hA1
  rw [hM] at g3 g4
  refine ⟨m2, ?_, kA_fM hA1 g2⟩
  rw [e1, Option.bind_some, g1, Option.bind_some, mThr, Option.bind_some]
  simp only [g3, if_true]
  by_cases hk : k (m 75) = 0
  · have h87 : m2 87 0 = m1 87 0 := by rw [g2.1 87 (by omega) (by omega)]
    rw [if_pos hk, if_pos ((jCm_0 _ _).mpr (by rw [h87, e3 hk, g4 hk]))]
  · rw [if_neg hk]
theorem kq_caseB {Fx Fm : jMu → Option (Int × jMu)} {m : jMu} {k v : (Int → Int) → Int} (hv : v (m 75) = 0 ∨ v (m 75) = 1) (hA : kA m) (h1 : cQ (Fx m) m (k (m 75)) (v (m 75))) (h2 : ∀ m, kA m → mQ (Fm m) m (k (m 75)) (v (m 75))) : ∃ o, ((Fx m).bind fun r1 => (Fm r1.2).bind fun r2 => (f_X10_thrown r2.2).bind fun r3 => (if r3 = r1.1 then (if r1.1 = 0 then (if r2.1 = 0 then (if jCm (r2.2 87 0) 0 = 0 then some r2.2 else none) else (if jCm (r2.2 87 0) 1 = 0 then some r2.2 else none)) else some r2.2) else none)) = some o ∧ kA o := by
  obtain ⟨m1, e1, e2, e3⟩ := h1
  have hA1 := kA_fL hA e2
  have hM : m1 75 = m 75 := e2 75 (by omega) (by omega) (by omega)
  obtain ⟨b, m2, g1, g2, g3, g4⟩ := h2 m1 hA1
  rw [hM] at g3 g4
  refine ⟨m2, ?_, kA_fM hA1 g2⟩
  rw [e1, Option.bind_some, g1, Option.bind_some, mThr, Option.bind_some]
  simp only [g3, if_true]
  by_cases hk : k (m 75) = 0
  · have h87 : m2 87 0 = m1 87 0 := by rw [g2.1 87 (by omega) (by omega)]
    rw [if_pos hk]
    have h5 := e3 hk
    have h6 := g4 hk
    by_cases hb : b = 0
    · rw [if_pos hb, if_pos ((jCm_0 _ _).mpr (by omega))]
    · rw [if_neg hb, if_pos ((jCm_0 _ _).mpr (by omega))]
  · rw [if_neg hk]
