/-! LEVEL 2: the class reads a whole condition -/
def cnt (S : List Int) : Nat := (S.filter (fun v => decide (v ≠ 120))).length
theorem cnt_ap (a b : List Int) : cnt (a ++ b) = cnt a + cnt b := by
  unfold cnt
  rw [List.filter_append, List.length_append]
theorem cnt_1 {v : Int} (h : v ≠ 120) : cnt [v] = 1 := by
  unfold cnt
  rw [List.filter_cons_of_pos (by exact decide_eq_true h)]
  rfl
theorem cnt_120 : cnt [120] = 0 := by decide
theorem cnt_px {x : List Int} {v : Int} (h : xPx x v) (hv : v ≠ 120) : cnt x = x.length := by
  rcases h with e | e
  · subst e; rfl
  · subst e; exact cnt_1 hv
/-- what comes behind an atom -/
def cTl (ql : Nat) (v2 : Int) (r6 : jMu) : Option (Int × jMu) := (if r6 62 9 = 106 then (f_X3_writeWaiting (r6 62 9) r6).bind fun r7 => (f_X3_addWaiting (r7 62 9) r7).bind fun r8 => (f_X3_step r8).bind fun r9 => f_X3_readCondition_L14 ql 1 (jW (v2 + 1)) r9 else (if r6 62 9 = 105 then (f_X3_writeWaiting (r6 62 9) r6).bind fun r10 => (f_X3_addWaiting (r10 62 9) r10).bind fun r11 => (f_X3_step r11).bind fun r12 => f_X3_readCondition_L14 ql 1 (jW (v2 + 1)) r12 else f_X3_readCondition_L14 ql 0 (jW (v2 + 1)) r6))
/-- the run from behind an atom, so many parts closed, so many atoms read -/
def rC (k v : Nat) (m : jMu) : Option (Int × jMu) := (f_X3_closeParts_L2 (jFU - k) (k : Int) m).bind fun r6 => cTl (jFU - v - 1) (v : Int) r6
/-- the run from an atom on -/
def rA (q v : Nat) (m : jMu) : Option (Int × jMu) := (f_X3_readAtom_L0 q m).bind fun r5 => (if r5.1 = 0 then some (0, r5.2) else (f_X3_closeParts r5.2).bind fun r6 => cTl (jFU - v - 1) (v : Int) r6)
theorem l14_1 {v : Nat} {m : jMu} (h : v ≤ 400) : f_X3_readCondition_L14 (jFU - v) 1 (v : Int) m = rA jFU v m := by
  have e : jFU - v = (jFU - v - 1) + 1 := by unfold jFU; omega
  rw [e, f_X3_readCondition_L14, if_neg (by omega), if_neg (by decide)]
  rfl
theorem l14_0 {v : Int} {q : Nat} {m : jMu} : f_X3_readCondition_L14 (q + 1) 0 v m = (f_X3_writeWaiting 105 m).bind fun r3 => (if r3 62 6 = 0 then some (1, r3) else some (0, r3)) := by
  rw [f_X3_readCondition_L14]
  by_cases h : 400 < v
  · rw [if_pos h]
  · rw [if_neg h, if_pos rfl]
section CONDI
variable {m0 : jMu} {A0 : List Int} {n : Int} {B : Nat}
/-- the outcome of reading an atom -/
def oA (m0 : jMu) (A0 : List Int) (n : Int) (B : Nat) (S a : List Int) (D : Int) (ts : List (Int × Int)) (dmax : Nat) (g : xRes) (X : Option (Int × jMu)) : Prop :=
  (∀ e, g = .inl e → fl m0 A0 e X) ∧ (∀ r, g = .inr r → ∃ m' k v', X = rC k v' m' ∧ sRe m0 m' S (A0 ++ (a ++ r.1)) D r.2 ∧ wf n r.2 ∧ ((A0 ++ (a ++ r.1)).length : Int) + cnt S ≤ B + xHd r.2 ∧ k ≤ dmax ∧ v' + r.2.length ≤ 401 ∧ r.2.length < ts.length)
def PA (m0 : jMu) (A0 : List Int) (n : Int) (B : Nat) (d : Nat) : Prop := ∀ (S a : List Int) (ts : List (Int × Int)) (q v : Nat) (m : jMu), sRe m0 m S (A0 ++ a) (6 - (d : Int)) ts → wf n ts → ts.length ≤ 401 → ((A0 ++ a).length : Int) + cnt S + 1 ≤ B + xHd ts → S.length ≤ 3 * (6 - d) + 2 → v + ts.length ≤ 401 → d < q → oA m0 A0 n B S a (6 - (d : Int)) ts d (xAto d ts) (rA q v m)
theorem pla_rA {q : Nat} {v : Nat} {m : jMu} : (f_X3_readAtom_J52 m).bind (fun r5 => (if r5.1 = 0 then some (0, r5.2) else (f_X3_closeParts r5.2).bind fun r6 => cTl (jFU - v - 1) (v : Int) r6)) = (if xTag (m 62 9) = true then (f_X3_write (m 62 9) m).bind (fun r3 => (f_X3_step r3).bind fun r4 => rC 0 v r4) else (f_X3_readComparison m).bind (fun r2 => if r2.1 = 0 then some (0, r2.2) else if r2.1 = 1 then rC 0 v r2.2 else none)) := by
  unfold f_X3_readAtom_J52
  rw [i7t, Option.bind_some, ite01]
  by_cases g : 108 ≤ m 62 9 ∧ m 62 9 ≤ 110
  · rw [if_pos g, if_pos (xTag_iff.mpr g)]
    cases hw : f_X3_write (m 62 9) m with
    | none => rfl
    | some r3 =>
      rw [Option.bind_some, Option.bind_some]
      cases hs : f_X3_step r3 with
      | none => rfl
      | some r4 =>
        rw [Option.bind_some, Option.bind_some, Option.bind_some, if_neg (show ¬ (1 : Int) = 0 by decide)]
        rfl
  · rw [if_neg g, if_neg (fun z => g (xTag_iff.mp z))]
    cases hc : f_X3_readComparison m with
    | none => rfl
    | some r2 =>
      rw [Option.bind_some, Option.bind_some]
      by_cases g0 : r2.1 = 0
      · rw [if_pos (Or.inl g0), Option.bind_some, if_pos g0, if_pos g0]
      · by_cases g1 : r2.1 = 1
        · rw [if_pos (Or.inr g1), Option.bind_some, if_neg g0, if_neg g0, if_pos g1]
          rfl
        · rw [if_neg (fun z => z.elim g0 g1), if_neg g0, if_neg g1]
          rfl
/-- a plain atom -/
theorem pA_pla (hB : (B : Int) + n ≤ 1600) {S a : List Int} {D : Int} {ts : List (Int × Int)} {v dm : Nat} {m : jMu} (h : sRe m0 m S (A0 ++ a) D ts) (w : wf n ts) (hl : ts.length ≤ 401) (hb : ((A0 ++ a).length : Int) + cnt S + 1 ≤ B + xHd ts) (hv : v + ts.length ≤ 401) : oA m0 A0 n B S a D ts dm (xPla ts) ((f_X3_readAtom_J52 m).bind (fun r5 => (if r5.1 = 0 then some (0, r5.2) else (f_X3_closeParts r5.2).bind fun r6 => cTl (jFU - v - 1) (v : Int) r6))) := by
  rw [pla_rA (q := 0), h.1.1]
  have hd := wf_hd w
  by_cases g : xTag (xK ts) = true
  · have ht := xTag_iff.mp g
    have xs : xPla ts = .inr ([xK ts], xTl ts) := if_pos g
    obtain ⟨t1, t2, t3, t4⟩ := wf_tl w (by omega)
    rw [if_neg (by omega)] at t3
    obtain ⟨m1, e1, s1, _⟩ := op_write h (by omega) (xK ts)
    rw [List.append_assoc] at s1
    obtain ⟨m2, e2, s2⟩ := op_step s1 t1
    rw [if_pos g, e1, Option.bind_some, e2, Option.bind_some]
    refine ⟨fun e he => (by rw [xs] at he; cases he), fun r hr => ?_⟩
    rw [xs] at hr
    cases hr
    refine ⟨m2, 0, v, rfl, s2, t2, ?_, Nat.zero_le _, by show v + (xTl ts).length ≤ 401; omega, by show (xTl ts).length < _; omega⟩
    show ((A0 ++ (a ++ [xK ts])).length : Int) + cnt S ≤ B + xHd (xTl ts)
    rw [← List.append_assoc, List.length_append]
    show (((A0 ++ a).length + 1 : Nat) : Int) + cnt S ≤ _
    omega
  · have xs : xPla ts = xCmp ts := if_neg g
    have K := c_cmp hB h w hl hb
    rw [if_neg g, xs]
    refine ⟨fun e he => ?_, fun r hr => ?_⟩
    · obtain ⟨m', a', e1, f1, f2, f3⟩ := K.1 e he
      refine ⟨m', a', ?_, f1, f2, f3⟩
      rw [e1, Option.bind_some, if_pos rfl]
    · obtain ⟨m', e1, s1, w1, l1, b1⟩ := K.2 r hr
      refine ⟨m', 0, v, ?_, s1, w1, b1, Nat.zero_le _, by omega, l1⟩
      rw [e1, Option.bind_some, if_neg (show ¬ (1 : Int) = 0 by decide), if_pos rfl]
/-! behind an atom -/
theorem top_px {S pre x : List Int} (hp : xPx pre 105) (hx : xPx x 106) (hS : S = [] ∨ ∃ S1, S = S1 ++ [120]) : (S ++ pre ++ x = []) ∨ ∃ S2 u, S ++ pre ++ x = S2 ++ [u] ∧ u ≠ 107 := by
  rcases hx with e | e
  · subst e
    rw [List.append_nil]
    rcases hp with e | e
    · subst e
      rw [List.append_nil]
      rcases hS with e | ⟨S1, e⟩
      · exact Or.inl e
      · exact Or.inr ⟨S1, 120, e, by decide⟩
    · subst e
      exact Or.inr ⟨S, 105, rfl, by decide⟩
  · subst e
    exact Or.inr ⟨S ++ pre, 106, rfl, by decide⟩
theorem cl_end {S A : List Int} {D : Int} {ts : List (Int × Int)} {k : Nat} {m : jMu} (h : sRe m0 m S A D ts) (hk : k ≤ 20) (hS : S.length ≤ 21) (ht : S = [] ∨ ∃ S2 u, S = S2 ++ [u] ∧ u ≠ 107) (hw : xK ts ≠ 121 ∨ (120 : Int) ∉ S) : f_X3_closeParts_L2 (jFU - k) (k : Int) m = some m := by
  have e : jFU - k = (jFU - k - 1) + 1 := by unfold jFU; omega
  have L : ∃ u, f_X3_lastWaiting m = some u ∧ u ≠ 107 := by
    rcases ht with e | ⟨S2, u, e, hu⟩
    · subst e; exact ⟨-1, op_last0 h, by decide⟩
    · subst e
      rw [List.length_append] at hS
      have hS' : S2.length + 1 ≤ 21 := hS
      exact ⟨u, op_last h (by omega), hu⟩
  obtain ⟨u, e1, hu⟩ := L
  rw [e, f_X3_closeParts_L2, if_neg (by omega), e1, Option.bind_some, if_neg hu, h.1.1]
  by_cases g : xK ts = 121
  · rw [if_pos g, op_open h hS, Option.bind_some, if_neg (hw.resolve_left (fun z => z g)), if_pos rfl]
  · rw [if_neg g]
theorem cl_not {S A : List Int} {D : Int} {ts : List (Int × Int)} {k v : Nat} {m : jMu} (h : sRe m0 m (S ++ [107]) A D ts) (hk : k ≤ 20) (hS : S.length < 21) (hA : A.length < 1600) (hD : 0 ≤ D ∧ D ≤ 100) : ∃ m', rC k v m = rC (k + 1) v m' ∧ sRe m0 m' S (A ++ [107]) (D - 1) ts := by
  have e : jFU - k = (jFU - (k + 1)) + 1 := by unfold jFU; omega
  obtain ⟨m1, e1, h1, _⟩ := op_write h hA 107
  have h2 := op_pop h1 (by omega)
  have h3 := op_deep h2 (D - 1)
  refine ⟨_, ?_, h3⟩
  unfold rC
  rw [e, f_X3_closeParts_L2, if_neg (by omega), op_last h hS, Option.bind_some, if_pos rfl, e1, Option.bind_some, jlt_eq, jlt_eq, h2.2.2.2.1, jW_of (z := D - 1) (by omega) (by omega), jW_of (z := (k : Int) + 1) (by omega) (by omega)]
  rfl
/-- the parts of a condition behind an atom: and -/
def oE (m0 : jMu) (A0 : List Int) (n : Int) (B : Nat) (S pre a : List Int) (D : Int) (ts : List (Int × Int)) (dmax : Nat) (g : xRes) (X : Option (Int × jMu)) : Prop :=
  (∀ e, g = .inl e → fl m0 A0 e X) ∧ (∀ r, g = .inr r → ∃ m' k v' x w, X = rC k v' m' ∧ sRe m0 m' (S ++ pre ++ x) (A0 ++ (a ++ w)) D r.2 ∧ w ++ x = r.1 ∧ xPx x 106 ∧ xK r.2 ≠ 106 ∧ wf n r.2 ∧ ((A0 ++ (a ++ w)).length : Int) + cnt (S ++ pre ++ x) ≤ B + xHd r.2 ∧ k ≤ dmax ∧ v' + r.2.length ≤ 401 ∧ r.2.length ≤ ts.length)
theorem xMor_t (p : List (Int × Int) → xRes) (op : Int) (q : Nat) (c : List Int) (ts : List (Int × Int)) : xMor p op (q + 1) c ts = if xK ts = op then (match p (xTl ts) with | .inl e => .inl e | .inr r => xMor p op q (c ++ (r.1 ++ [op])) r.2) else .inr (c, ts) := rfl
theorem tpO_of {S : List Int} (hS : S = [] ∨ ∃ S1, S = S1 ++ [120]) : tpO S := by
  rcases hS with e | ⟨S1, e⟩
  · exact Or.inl e
  · exact Or.inr ⟨S1, 120, e, by decide, by decide⟩
theorem pE_mor (hB : (B : Int) + n ≤ 1600) {d : Nat} (hd6 : d ≤ 6) (hP : PA m0 A0 n B d) {S pre : List Int} (hS : S = [] ∨ ∃ S1, S = S1 ++ [120]) (hl3 : S.length ≤ 3 * (6 - d)) (hp : xPx pre 105) : ∀ (f : Nat) (c : List Int) (ts : List (Int × Int)) (a x w : List Int) (k v : Nat) (m : jMu), ts.length < f → sRe m0 m (S ++ pre ++ x) (A0 ++ (a ++ w)) (6 - (d : Int)) ts → w ++ x = c → xPx x 106 → wf n ts → ts.length ≤ 401 → ((A0 ++ (a ++ w)).length : Int) + cnt (S ++ pre ++ x) ≤ B + xHd ts → k ≤ d → v + ts.length ≤ 401 → oE m0 A0 n B S pre a (6 - (d : Int)) ts d (xMor (xAto d) 106 f c ts) (rC k v m) := by
  have lpre : pre.length ≤ 1 := by
    rcases hp with e | e
    · subst e; exact Nat.zero_le _
    · subst e; exact Nat.le_refl _
  intro f
  induction f with
  | zero => intro c ts a x w k v m h; omega
  | succ f ih =>
    intro c ts a x w k v m hf h hc hx hw hl hb hk hv
    have lx : x.length ≤ 1 := by
      rcases hx with e | e
      · subst e; exact Nat.zero_le _
      · subst e; exact Nat.le_refl _
    have hd := wf_hd hw
    rw [xMor_t]
    by_cases g : xK ts = 106
    · rw [if_pos g]
      obtain ⟨t1, t2, t3, t4⟩ := wf_tl hw (by omega)
      rw [if_pos (Or.inr g)] at t3
      have hlen : (S ++ pre ++ x).length ≤ 21 := by rw [List.length_append, List.length_append]; omega
      have hcnt : cnt (S ++ pre ++ x) = cnt (S ++ pre) + x.length := by rw [cnt_ap, cnt_px hx (by decide)]
      rw [hcnt] at hb
      have E1 := cl_end (k := k) h (by omega) hlen (top_px hp hx hS) (Or.inl (by rw [g]; decide))
      obtain ⟨m1, e1, s1⟩ := op_ww106 h hp hx (by omega) (by omega) (tpO_of hS)
      have hlen2 : (S ++ pre).length ≤ 20 := by rw [List.length_append]; omega
      obtain ⟨m2, e2, s2⟩ := op_push s1 (by omega) 106
      obtain ⟨m3, e3, s3⟩ := op_step s2 t1
      have hmid : A0 ++ (a ++ w) ++ x = A0 ++ (a ++ (w ++ x)) := by simp only [List.append_assoc]
      rw [hmid] at s1 s2 s3
      have hml : ((A0 ++ (a ++ (w ++ x))).length : Int) = ((A0 ++ (a ++ w)).length : Int) + x.length := by rw [← hmid, List.length_append]; omega
      have hv1 : v + 1 ≤ 400 := by
        have : 1 ≤ (xTl ts).length := by
          cases hz : xTl ts with
          | nil => exact (t1 hz).elim
          | cons y r => exact Nat.succ_le_succ (Nat.zero_le _)
        omega
      have E : rC k v m = rA jFU (v + 1) m3 := by
        unfold rC
        rw [E1, Option.bind_some]
        unfold cTl
        rw [h.1.1, if_pos g, g, e1, Option.bind_some, s1.1.1, g, e2, Option.bind_some, e3, Option.bind_some, jW_of (by omega) (by omega)]
        have := l14_1 (v := v + 1) (m := m3) hv1
        rw [show jFU - (v + 1) = jFU - v - 1 by omega, show ((v + 1 : Nat) : Int) = (v : Int) + 1 by omega] at this
        exact this
      have hc2 : cnt (S ++ pre ++ [106]) = cnt (S ++ pre) + 1 := by rw [cnt_ap, cnt_1 (by decide)]
      have K := hP (S ++ pre ++ [106]) (a ++ (w ++ x)) (xTl ts) jFU (v + 1) m3 s3 t2 (by omega) (by rw [hml, hc2]; omega) (by
        rw [List.length_append]
        show (S ++ pre).length + 1 ≤ _
        rw [List.length_append]
        omega) (by omega) (by unfold jFU; omega)
      rw [E]
      cases hy : xAto d (xTl ts) with
      | inl e =>
        rw [hy] at K
        exact ⟨fun e' he => by cases he; exact K.1 _ rfl, fun r hr => by cases hr⟩
      | inr r =>
        rw [hy] at K
        obtain ⟨m4, k4, v4, i1, i2, i3, i4, i5, i6, i7⟩ := K.2 _ rfl
        rw [List.append_assoc a] at i2 i4
        have I := ih (c ++ (r.1 ++ [106])) r.2 a [106] (w ++ x ++ r.1) k4 v4 m4 (by omega) i2 (by rw [← hc]; simp only [List.append_assoc]) (Or.inr rfl) i3 (by omega) i4 i5 i6
        rw [i1]
        dsimp only
        refine ⟨I.1, fun r' hr => ?_⟩
        obtain ⟨m5, k5, v5, x5, w5, j1, j2, j3, j4, j5, j6, j7, j8, j9, j10⟩ := I.2 r' hr
        exact ⟨m5, k5, v5, x5, w5, j1, j2, j3, j4, j5, j6, j7, j8, j9, by omega⟩
    · rw [if_neg g]
      refine ⟨fun e he => (by cases he), fun r hr => ?_⟩
      cases hr
      exact ⟨m, k, v, x, w, rfl, h, hc, hx, g, hw, hb, hk, hv, Nat.le_refl _⟩
/-- and the parts by or -/
def oS (m0 : jMu) (A0 : List Int) (n : Int) (B : Nat) (S a : List Int) (D : Int) (ts : List (Int × Int)) (dmax : Nat) (g : xRes) (X : Option (Int × jMu)) : Prop :=
  (∀ e, g = .inl e → fl m0 A0 e X) ∧ (∀ r, g = .inr r → ∃ m' k v' pre x w, X = rC k v' m' ∧ sRe m0 m' (S ++ pre ++ x) (A0 ++ (a ++ w)) D r.2 ∧ w ++ x ++ pre = r.1 ∧ xPx pre 105 ∧ xPx x 106 ∧ xK r.2 ≠ 106 ∧ xK r.2 ≠ 105 ∧ wf n r.2 ∧ ((A0 ++ (a ++ w)).length : Int) + cnt (S ++ pre ++ x) ≤ B + xHd r.2 ∧ k ≤ dmax ∧ v' + r.2.length ≤ 401 ∧ r.2.length ≤ ts.length)
theorem pS_mor (hB : (B : Int) + n ≤ 1600) {d : Nat} (hd6 : d ≤ 6) (hP : PA m0 A0 n B d) {S : List Int} (hS : S = [] ∨ ∃ S1, S = S1 ++ [120]) (hl3 : S.length ≤ 3 * (6 - d)) : ∀ (f : Nat) (c : List Int) (ts : List (Int × Int)) (a pre x w : List Int) (k v : Nat) (m : jMu), ts.length < f → sRe m0 m (S ++ pre ++ x) (A0 ++ (a ++ w)) (6 - (d : Int)) ts → w ++ x ++ pre = c → xPx pre 105 → xPx x 106 → xK ts ≠ 106 → wf n ts → ts.length ≤ 401 → ((A0 ++ (a ++ w)).length : Int) + cnt (S ++ pre ++ x) ≤ B + xHd ts → k ≤ d → v + ts.length ≤ 401 → oS m0 A0 n B S a (6 - (d : Int)) ts d (xMor (xEve (xAto d)) 105 f c ts) (rC k v m) := by
  intro f
  induction f with
  | zero => intro c ts a pre x w k v m h; omega
  | succ f ih =>
    intro c ts a pre x w k v m hf h hc hp hx h6 hw hl hb hk hv
    have lpre : pre.length ≤ 1 := by
      rcases hp with e | e
      · subst e; exact Nat.zero_le _
      · subst e; exact Nat.le_refl _
    have lx : x.length ≤ 1 := by
      rcases hx with e | e
      · subst e; exact Nat.zero_le _
      · subst e; exact Nat.le_refl _
    have hd := wf_hd hw
    rw [xMor_t]
    by_cases g : xK ts = 105
    · rw [if_pos g]
      obtain ⟨t1, t2, t3, t4⟩ := wf_tl hw (by omega)
      rw [if_pos (Or.inl g)] at t3
      have hlen : (S ++ pre ++ x).length ≤ 21 := by rw [List.length_append, List.length_append]; omega
      have hcnt : cnt (S ++ pre ++ x) = cnt S + pre.length + x.length := by rw [cnt_ap, cnt_ap, cnt_px hx (by decide), cnt_px hp (by decide)]
      rw [hcnt] at hb
      have E1 := cl_end (k := k) h (by omega) hlen (top_px hp hx hS) (Or.inl (by rw [g]; decide))
      obtain ⟨m1, e1, s1⟩ := op_ww105 h hp hx (by omega) (by omega) (tpO_of hS)
      obtain ⟨m2, e2, s2⟩ := op_push s1 (by omega) 105
      obtain ⟨m3, e3, s3⟩ := op_step s2 t1
      have hmid : A0 ++ (a ++ w) ++ x ++ pre = A0 ++ (a ++ c) := by rw [← hc]; simp only [List.append_assoc]
      rw [hmid] at s1 s2 s3
      have hml : ((A0 ++ (a ++ c)).length : Int) = ((A0 ++ (a ++ w)).length : Int) + x.length + pre.length := by rw [← hmid, List.length_append, List.length_append]; omega
      have hv1 : v + 1 ≤ 400 := by
        have : 1 ≤ (xTl ts).length := by
          cases hz : xTl ts with
          | nil => exact (t1 hz).elim
          | cons y r => exact Nat.succ_le_succ (Nat.zero_le _)
        omega
      have E : rC k v m = rA jFU (v + 1) m3 := by
        unfold rC
        rw [E1, Option.bind_some]
        unfold cTl
        rw [h.1.1, if_neg h6, if_pos g, g, e1, Option.bind_some, s1.1.1, g, e2, Option.bind_some, e3, Option.bind_some, jW_of (by omega) (by omega)]
        have := l14_1 (v := v + 1) (m := m3) hv1
        rw [show jFU - (v + 1) = jFU - v - 1 by omega, show ((v + 1 : Nat) : Int) = (v : Int) + 1 by omega] at this
        exact this
      have hc2 : cnt (S ++ [105]) = cnt S + 1 := by rw [cnt_ap, cnt_1 (by decide)]
      have K := hP (S ++ [105]) (a ++ c) (xTl ts) jFU (v + 1) m3 s3 t2 (by omega) (by rw [hml, hc2]; omega) (by
        rw [List.length_append]
        show S.length + 1 ≤ _
        omega) (by omega) (by unfold jFU; omega)
      rw [E]
      have xe : xEve (xAto d) (xTl ts) = (match xAto d (xTl ts) with | .inl e => .inl e | .inr r => xMor (xAto d) 106 402 r.1 r.2) := rfl
      rw [xe]
      cases hy : xAto d (xTl ts) with
      | inl e =>
        rw [hy] at K
        exact ⟨fun e' he => by cases he; exact K.1 _ rfl, fun r hr => by cases hr⟩
      | inr r =>
        rw [hy] at K
        obtain ⟨m4, k4, v4, i1, i2, i3, i4, i5, i6, i7⟩ := K.2 _ rfl
        rw [i1]
        dsimp only
        have J := pE_mor hB hd6 hP hS hl3 (pre := [105]) (Or.inr rfl) 402 r.1 r.2 (a ++ c) [] r.1 k4 v4 m4 (by omega) (by rw [List.append_nil]; exact i2) (List.append_nil _) (Or.inl rfl) i3 (by omega) (by rw [List.append_nil]; exact i4) i5 i6
        cases hz : xMor (xAto d) 106 402 r.1 r.2 with
        | inl e =>
          rw [hz] at J
          exact ⟨fun e' he => by cases he; exact J.1 _ rfl, fun r hr => by cases hr⟩
        | inr r2 =>
          rw [hz] at J
          obtain ⟨m5, k5, v5, x5, w5, j1, j2, j3, j4, j5, j6, j7, j8, j9, j10⟩ := J.2 _ rfl
          rw [j1]
          dsimp only
          rw [List.append_assoc a c w5] at j2 j7
          have I := ih (c ++ (r2.1 ++ [105])) r2.2 a [105] x5 (c ++ w5) k5 v5 m5 (by omega) j2 (by rw [← j3]; simp only [List.append_assoc]) (Or.inr rfl) j4 j5 j6 (by omega) j7 j8 j9
          refine ⟨I.1, fun r' hr => ?_⟩
          obtain ⟨m6, k6, v6, p6, x6, w6, l1, l2, l3, l4, l5, l6, l7, l8, l9, l10, l11, l12⟩ := I.2 r' hr
          exact ⟨m6, k6, v6, p6, x6, w6, l1, l2, l3, l4, l5, l6, l7, l8, l9, l10, l11, by omega⟩
    · rw [if_neg g]
      refine ⟨fun e he => (by cases he), fun r hr => ?_⟩
      cases hr
      exact ⟨m, k, v, pre, x, w, rfl, h, hc, hp, hx, h6, g, hw, hb, hk, hv, Nat.le_refl _⟩
theorem pS_all (hB : (B : Int) + n ≤ 1600) {d : Nat} (hd6 : d ≤ 6) (hP : PA m0 A0 n B d) {S : List Int} (hS : S = [] ∨ ∃ S1, S = S1 ++ [120]) (hl3 : S.length ≤ 3 * (6 - d)) {a : List Int} {ts : List (Int × Int)} {q v : Nat} {m : jMu} (h : sRe m0 m S (A0 ++ a) (6 - (d : Int)) ts) (w : wf n ts) (hl : ts.length ≤ 401) (hb : ((A0 ++ a).length : Int) + cnt S + 1 ≤ B + xHd ts) (hv : v + ts.length ≤ 401) (hq : d < q) : oS m0 A0 n B S a (6 - (d : Int)) ts d (xSom (xAto d) ts) (rA q v m) := by
  have K := hP S a ts q v m h w hl hb (by omega) hv hq
  have xe : xSom (xAto d) ts = (match (match xAto d ts with | .inl e => (.inl e : xRes) | .inr r => xMor (xAto d) 106 402 r.1 r.2) with | .inl e => (.inl e : xRes) | .inr r => xMor (xEve (xAto d)) 105 402 r.1 r.2) := rfl
  rw [xe]
  cases hy : xAto d ts with
  | inl e =>
    rw [hy] at K
    exact ⟨fun e' he => by cases he; exact K.1 _ rfl, fun r hr => by cases hr⟩
  | inr r =>
    rw [hy] at K
    obtain ⟨m4, k4, v4, i1, i2, i3, i4, i5, i6, i7⟩ := K.2 _ rfl
    rw [i1]
    dsimp only
    have J := pE_mor hB hd6 hP hS hl3 (pre := []) (Or.inl rfl) 402 r.1 r.2 a [] r.1 k4 v4 m4 (by omega) (by rw [List.append_nil, List.append_nil]; exact i2) (List.append_nil _) (Or.inl rfl) i3 (by omega) (by rw [List.append_nil, List.append_nil]; exact i4) i5 i6
    cases hz : xMor (xAto d) 106 402 r.1 r.2 with
    | inl e =>
      rw [hz] at J
      exact ⟨fun e' he => by cases he; exact J.1 _ rfl, fun r hr => by cases hr⟩
    | inr r2 =>
      rw [hz] at J
      obtain ⟨m5, k5, v5, x5, w5, j1, j2, j3, j4, j5, j6, j7, j8, j9, j10⟩ := J.2 _ rfl
      rw [j1]
      dsimp only
      have I := pS_mor hB hd6 hP hS hl3 402 r2.1 r2.2 a [] x5 w5 k5 v5 m5 (by omega) j2 (by rw [List.append_nil]; exact j3) (Or.inl rfl) j4 j5 j6 (by omega) j7 j8 j9
      refine ⟨I.1, fun r' hr => ?_⟩
      obtain ⟨m6, k6, v6, p6, x6, w6, l1, l2, l3, l4, l5, l6, l7, l8, l9, l10, l11, l12⟩ := I.2 r' hr
      exact ⟨m6, k6, v6, p6, x6, w6, l1, l2, l3, l4, l5, l6, l7, l8, l9, l10, l11, by omega⟩
/-- atoms of every depth -/
theorem pA_all (hB : (B : Int) + n ≤ 1600) : ∀ d : Nat, d ≤ 6 → PA m0 A0 n B d := by
  intro d
  induction d with
  | zero =>
    intro _ S a ts q v m h w hl hb hS hv hq
    obtain ⟨q, rfl⟩ : ∃ t, q = t + 1 := ⟨q - 1, by omega⟩
    have e : rA (q + 1) v m = (f_X3_readAtom_J52 m).bind (fun r5 => (if r5.1 = 0 then some (0, r5.2) else (f_X3_closeParts r5.2).bind fun r6 => cTl (jFU - v - 1) (v : Int) r6)) := by
      unfold rA
      rw [f_X3_readAtom_L0, h.2.2.2.1, if_pos (by decide)]
    rw [e]
    exact pA_pla hB h w hl hb hv
  | succ d ih =>
    intro hd S a ts q v m h w hl hb hS hv hq
    obtain ⟨q, rfl⟩ : ∃ t, q = t + 1 := ⟨q - 1, by omega⟩
    have hP := ih (by omega)
    have hdp := wf_hd w
    have eD : (6 : Int) - ((d + 1 : Nat) : Int) + 1 = 6 - (d : Int) := by omega
    have nD : ¬ (6 : Int) ≤ 6 - ((d + 1 : Nat) : Int) := by omega
    have xs : xAto (d + 1) ts = if xK ts = 107 then (match xAto d (xTl ts) with | .inl e => .inl e | .inr r => .inr (r.1 ++ [107], r.2)) else if xK ts = 120 then (match xSom (xAto d) (xTl ts) with | .inl e => .inl e | .inr r => if xK r.2 = 121 then .inr (r.1, xTl r.2) else .inl (xHd r.2)) else xPla ts := rfl
    by_cases g : xK ts = 107
    · obtain ⟨t1, t2, t3, t4⟩ := wf_tl w (by omega)
      rw [if_neg (by omega)] at t3
      have s0 := op_deep h (6 - (d : Int))
      obtain ⟨m1, e1, s1⟩ := op_push s0 (by omega) 107
      obtain ⟨m2, e2, s2⟩ := op_step s1 t1
      have E : rA (q + 1) v m = rA q v m2 := by
        unfold rA
        rw [f_X3_readAtom_L0, h.2.2.2.1, if_neg nD, h.1.1, if_pos g, jlt_eq, jW_of (by omega) (by omega), eD, s0.1.1, g, e1, Option.bind_some, e2, Option.bind_some]
      have hc : cnt (S ++ [107]) = cnt S + 1 := by rw [cnt_ap, cnt_1 (by decide)]
      have K := hP (S ++ [107]) a (xTl ts) q v m2 s2 t2 (by omega) (by rw [hc]; omega) (by rw [List.length_append]; show S.length + 1 ≤ _; omega) (by omega) (by omega)
      rw [E, xs, if_pos g]
      cases hy : xAto d (xTl ts) with
      | inl e =>
        rw [hy] at K
        exact ⟨fun e' he => by cases he; exact K.1 _ rfl, fun r hr => by cases hr⟩
      | inr r =>
        rw [hy] at K
        obtain ⟨m4, k4, v4, i1, i2, i3, i4, i5, i6, i7⟩ := K.2 _ rfl
        rw [hc] at i4
        have hd4 := wf_hd i3
        obtain ⟨m5, e5, s5⟩ := cl_not (k := k4) (v := v4) i2 (by omega) (by omega) (by omega) (by omega)
        refine ⟨fun e he => (by cases he), fun r' hr => ?_⟩
        cases hr
        have ea : A0 ++ (a ++ r.1) ++ [107] = A0 ++ (a ++ (r.1 ++ [107])) := by simp only [List.append_assoc]
        rw [ea, show 6 - (d : Int) - 1 = 6 - ((d + 1 : Nat) : Int) by omega] at s5
        refine ⟨m5, k4 + 1, v4, i1.trans e5, s5, i3, ?_, by omega, i6, by show r.2.length < _; omega⟩
        show ((A0 ++ (a ++ (r.1 ++ [107]))).length : Int) + cnt S ≤ _
        rw [← ea, List.length_append]
        show (((A0 ++ (a ++ r.1)).length + 1 : Nat) : Int) + cnt S ≤ B + xHd r.2
        omega
    · by_cases g2 : xK ts = 120
      · obtain ⟨t1, t2, t3, t4⟩ := wf_tl w (by omega)
        rw [if_neg (by omega)] at t3
        have s0 := op_deep h (6 - (d : Int))
        obtain ⟨m1, e1, s1⟩ := op_push s0 (by omega) 120
        obtain ⟨m2, e2, s2⟩ := op_step s1 t1
        have E : rA (q + 1) v m = rA q v m2 := by
          unfold rA
          rw [f_X3_readAtom_L0, h.2.2.2.1, if_neg nD, h.1.1, if_neg g, if_pos g2, jlt_eq, jW_of (by omega) (by omega), eD, s0.1.1, g2, e1, Option.bind_some, e2, Option.bind_some]
        have hc : cnt (S ++ [120]) = cnt S := by rw [cnt_ap, cnt_120, Nat.add_zero]
        have hsl : (S ++ [120]).length ≤ 3 * (6 - d) := by rw [List.length_append]; show S.length + 1 ≤ _; omega
        have K := pS_all hB (by omega) hP (S := S ++ [120]) (Or.inr ⟨S, rfl⟩) hsl (q := q) (v := v) s2 t2 (by omega) (by rw [hc]; omega) (by omega) (by omega)
        rw [E, xs, if_neg g, if_pos g2]
        cases hy : xSom (xAto d) (xTl ts) with
        | inl e =>
          rw [hy] at K
          exact ⟨fun e' he => by cases he; exact K.1 _ rfl, fun r hr => by cases hr⟩
        | inr r =>
          rw [hy] at K
          obtain ⟨m4, k4, v4, pre, x, wd, i1, i2, i3, i4, i5, i6, i7, i8, i9, i10, i11, i12⟩ := K.2 _ rfl
          have hd4 := wf_hd i8
          have lpre : pre.length ≤ 1 := by
            rcases i4 with e | e
            · subst e; exact Nat.zero_le _
            · subst e; exact Nat.le_refl _
          have lx : x.length ≤ 1 := by
            rcases i5 with e | e
            · subst e; exact Nat.zero_le _
            · subst e; exact Nat.le_refl _
          have hcnt : cnt (S ++ [120] ++ pre ++ x) = cnt S + pre.length + x.length := by rw [cnt_ap, cnt_ap, cnt_px i5 (by decide), cnt_px i4 (by decide), hc]
          rw [hcnt] at i9
          have hlen : (S ++ [120] ++ pre ++ x).length ≤ 21 := by rw [List.length_append, List.length_append]; omega
          obtain ⟨m5, e5, s5⟩ := op_ww105 i2 i4 i5 (by omega) (by omega) (tpO_of (Or.inr ⟨S, rfl⟩))
          have hmid : A0 ++ (a ++ wd) ++ x ++ pre = A0 ++ (a ++ r.1) := by rw [← i3]; simp only [List.append_assoc]
          have hml : ((A0 ++ (a ++ r.1)).length : Int) = ((A0 ++ (a ++ wd)).length : Int) + x.length + pre.length := by rw [← hmid, List.length_append, List.length_append]; omega
          rw [hmid] at s5
          rw [i1]
          dsimp only
          by_cases g3 : xK r.2 = 121
          · rw [if_pos g3]
            obtain ⟨u1, u2, u3, u4⟩ := wf_tl i8 (by omega)
            rw [if_neg (by omega)] at u3
            have s6 := op_pop s5 (by omega)
            have s7 := op_deep s6 (6 - ((d + 1 : Nat) : Int))
            obtain ⟨m8, e8, s8⟩ := op_step s7 u1
            refine ⟨fun e he => (by cases he), fun r' hr => ?_⟩
            cases hr
            refine ⟨m8, k4 + 1, v4, ?_, s8, u2, by show ((A0 ++ (a ++ r.1)).length : Int) + cnt S ≤ B + xHd (xTl r.2); rw [hml]; omega, by omega, by show v4 + (xTl r.2).length ≤ 401; omega, by show (xTl r.2).length < _; omega⟩
            unfold rC
            have ek : jFU - k4 = (jFU - (k4 + 1)) + 1 := by unfold jFU; omega
            have L : ∃ u, f_X3_lastWaiting m4 = some u ∧ u ≠ 107 := by
              rcases top_px (S := S ++ [120]) i4 i5 (Or.inr ⟨S, rfl⟩) with z | ⟨S2, u, z, hu⟩
              · rw [z] at i2
                exact ⟨-1, op_last0 i2, by decide⟩
              · rw [z] at i2 hlen
                rw [List.length_append] at hlen
                have hS' : S2.length + 1 ≤ 21 := hlen
                exact ⟨u, op_last i2 (by omega), hu⟩
            obtain ⟨u, lu, hu⟩ := L
            have mem : (120 : Int) ∈ S ++ [120] ++ pre ++ x := List.mem_append_left _ (List.mem_append_left _ (List.mem_append_right _ List.mem_cons_self))
            have d7 := s6.2.2.2.1
            rw [ek, f_X3_closeParts_L2, if_neg (by omega), lu, Option.bind_some, if_neg hu, i2.1.1, if_pos g3, op_open i2 hlen, Option.bind_some, if_pos mem, if_neg (show ¬ (1 : Int) = 0 by decide), e5, Option.bind_some, jlt_eq, jlt_eq, d7, jW_of (z := 6 - (d : Int) - 1) (by omega) (by omega), show 6 - (d : Int) - 1 = 6 - ((d + 1 : Nat) : Int) by omega, e8, Option.bind_some, jW_of (z := (k4 : Int) + 1) (by omega) (by omega)]
            rfl
          · rw [if_neg g3]
            refine ⟨fun e he => ?_, fun r' hr => by cases hr⟩
            cases he
            have E1 := cl_end (k := k4) i2 (by omega) hlen (top_px i4 i5 (Or.inr ⟨S, rfl⟩)) (Or.inl g3)
            have F := fl_of s5
            obtain ⟨m9, a9, f1, f2, f3, f4⟩ := F
            refine ⟨m9, a9, ?_, f2, f3, f4⟩
            unfold rC
            rw [E1, Option.bind_some]
            unfold cTl
            have eq2 : jFU - v4 - 1 = (jFU - v4 - 2) + 1 := by unfold jFU; omega
            have h6 : ¬ m5 62 6 = 0 := by rw [s5.2.1, List.length_append]; show ¬ ((S.length + 1 : Nat) : Int) = 0; omega
            rw [i2.1.1, if_neg i6, if_neg i7, eq2, l14_0, e5, Option.bind_some, if_neg h6]
            exact f1
      · have e : rA (q + 1) v m = (f_X3_readAtom_J52 m).bind (fun r5 => (if r5.1 = 0 then some (0, r5.2) else (f_X3_closeParts r5.2).bind fun r6 => cTl (jFU - v - 1) (v : Int) r6)) := by
          unfold rA
          rw [f_X3_readAtom_L0, h.2.2.2.1, if_neg nD, h.1.1, if_neg g, if_neg g2]
        rw [e, xs, if_neg g, if_neg g2]
        exact pA_pla hB h w hl hb hv
/-- a condition as the class reads it -/
theorem c_cond (hB : (B : Int) + n ≤ 1600) {m : jMu} {ts : List (Int × Int)} (h : rd m ts) (hA : TabR m 18 19 1 1600 (A0.length : Int) (cdF A0)) (hm : ∀ c, c ≠ 62 → c ≠ 65 → c ≠ 18 → c ≠ 19 → m c = m0 c) (w : wf n ts) (hl : ts.length ≤ 401) (hb : (A0.length : Int) + 1 ≤ B + xHd ts) :
    (∀ e, xSom (xAto 6) ts = .inl e → fl m0 A0 e (f_X3_readCondition m)) ∧
    (∀ r, xSom (xAto 6) ts = .inr r → ∃ m', f_X3_readCondition m = some (1, m') ∧ rd m' r.2 ∧ TabR m' 18 19 1 1600 ((A0 ++ r.1).length : Int) (cdF (A0 ++ r.1)) ∧ (∀ c, c ≠ 62 → c ≠ 65 → c ≠ 18 → c ≠ 19 → m' c = m0 c) ∧ wf n r.2 ∧ ((A0 ++ r.1).length : Int) ≤ B + xHd r.2 ∧ r.2.length ≤ ts.length) := by
  have s0 : sRe m0 (jup (jup m 62 6 0) 62 7 0) [] (A0 ++ []) (6 - ((6 : Nat) : Int)) ts := by
    rw [List.append_nil]
    refine ⟨rd_fr h (fun j a b => by rw [jup_j b, jup_j a]) (by rw [jup_c (by decide), jup_c (by decide)]) (by rw [jup_c (by decide), jup_c (by decide)]), ?_, fun i hi => absurd hi (Nat.not_lt_zero _), jup_s, hA.frame (by rw [jup_c (by decide), jup_c (by decide)]) (by rw [jup_c (by decide), jup_c (by decide)]), fun c c1 c2 c3 c4 => by rw [jup_c c1, jup_c c1]; exact hm c c1 c2 c3 c4⟩
    rw [jup_j (by decide), jup_s]
    rfl
  have K := pS_all hB (Nat.le_refl 6) (pA_all hB 6 (Nat.le_refl 6)) (S := []) (Or.inl rfl) (Nat.zero_le _) (q := jFU) (v := 0) s0 w hl (by rw [List.append_nil]; show (A0.length : Int) + ((0 : Nat) : Int) + 1 ≤ _; omega) (by omega) (by unfold jFU; omega)
  have E : f_X3_readCondition m = rA jFU 0 (jup (jup m 62 6 0) 62 7 0) := by
    unfold f_X3_readCondition
    rw [jlt_eq, jlt_eq]
    exact l14_1 (v := 0) (Nat.zero_le _)
  rw [E]
  refine ⟨K.1, fun r hr => ?_⟩
  obtain ⟨m4, k4, v4, pre, x, wd, i1, i2, i3, i4, i5, i6, i7, i8, i9, i10, i11, i12⟩ := K.2 _ hr
  have hd4 := wf_hd i8
  rw [List.nil_append] at i2 i9
  have i2' : sRe m0 m4 ([] ++ pre ++ x) (A0 ++ ([] ++ wd)) (6 - ((6 : Nat) : Int)) r.2 := i2
  rw [List.nil_append] at i9
  have lpre : pre.length ≤ 1 := by
    rcases i4 with e | e
    · subst e; exact Nat.zero_le _
    · subst e; exact Nat.le_refl _
  have lx : x.length ≤ 1 := by
    rcases i5 with e | e
    · subst e; exact Nat.zero_le _
    · subst e; exact Nat.le_refl _
  have hcnt : cnt (pre ++ x) = pre.length + x.length := by rw [cnt_ap, cnt_px i5 (by decide), cnt_px i4 (by decide)]
  rw [hcnt] at i9
  have nm : (120 : Int) ∉ [] ++ pre ++ x := by
    intro z
    rw [List.nil_append] at z
    rcases List.mem_append.mp z with y | y
    · rcases i4 with e | e
      · subst e; cases y
      · subst e; cases List.mem_singleton.mp y
    · rcases i5 with e | e
      · subst e; cases y
      · subst e; cases List.mem_singleton.mp y
  have E1 := cl_end (k := k4) i2' (by omega) (by rw [List.nil_append, List.length_append]; omega) (top_px i4 i5 (Or.inl rfl)) (Or.inr nm)
  obtain ⟨m5, e5, s5⟩ := op_ww105 i2' i4 i5 (Nat.zero_le _) (by rw [List.nil_append]; omega) (Or.inl rfl)
  have hmid : A0 ++ ([] ++ wd) ++ x ++ pre = A0 ++ r.1 := by rw [← i3]; simp only [List.append_assoc, List.nil_append]
  rw [hmid] at s5
  have h6 : m5 62 6 = 0 := s5.2.1
  refine ⟨m5, ?_, s5.1, s5.2.2.2.2.1, s5.2.2.2.2.2, i8, ?_, i12⟩
  · rw [i1]
    unfold rC
    rw [E1, Option.bind_some]
    unfold cTl
    have eq2 : jFU - v4 - 1 = (jFU - v4 - 2) + 1 := by unfold jFU; omega
    rw [i2'.1.1, if_neg i6, if_neg i7, eq2, l14_0, e5, Option.bind_some, if_pos h6]
  · rw [← hmid, List.length_append, List.length_append, List.nil_append]
    omega
end CONDI
