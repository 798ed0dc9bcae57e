/-! LEVEL 2: the reference reads words -/
def ps (m : jMu) (p f d : Int) : jMu := fun c j => if c = 74 then (if j = 8 then p else if j = 9 then f else if j = 10 then d else m 74 j) else m c j
section PS
variable {m : jMu} {p f d v : Int}
theorem ps_8 : ps m p f d 74 8 = p := rfl
theorem ps_9 : ps m p f d 74 9 = f := rfl
theorem ps_10 : ps m p f d 74 10 = d := rfl
theorem ps_o {j : Int} (h1 : j ≠ 8) (h2 : j ≠ 9) (h3 : j ≠ 10) : ps m p f d 74 j = m 74 j := by
  unfold ps
  rw [if_pos rfl, if_neg h1, if_neg h2, if_neg h3]
theorem ps_c {c : Nat} (h : c ≠ 74) : ps m p f d c = m c := funext fun j => if_neg h
theorem ps_u8 : jup (ps m p f d) 74 8 v = ps m v f d := by
  funext c j
  unfold jup ps
  by_cases hc : c = 74
  · subst hc
    by_cases hj : j = 8
    · simp only [hj, and_self, if_true]
    · simp only [hj, and_false, if_true, if_false]
  · simp only [hc, false_and, if_false]
theorem ps_u9 : jup (ps m p f d) 74 9 v = ps m p v d := by
  funext c j
  unfold jup ps
  by_cases hc : c = 74
  · subst hc
    by_cases hj : j = 9
    · subst hj
      simp only [and_self, if_true, Int.reduceEq, if_false]
    · simp only [hj, and_false, if_true, if_false]
  · simp only [hc, false_and, if_false]
theorem ps_u10 : jup (ps m p f d) 74 10 v = ps m p f v := by
  funext c j
  unfold jup ps
  by_cases hc : c = 74
  · subst hc
    by_cases hj : j = 10
    · subst hj
      simp only [and_self, if_true, Int.reduceEq, if_false]
    · simp only [hj, and_false, if_true, if_false]
  · simp only [hc, false_and, if_false]
end PS
/-- a text that the reference reads -/
def pB (m : jMu) (b : Int → Int) (n : Int) : Prop := m 74 7 = n ∧ 0 ≤ n ∧ n ≤ 400 ∧ ∀ p f d k, 0 ≤ k → k < n → f_X10_letter k (ps m p f d) = some (b k)
section READ
variable {m : jMu} {b : Int → Int} {n : Int}
theorem ps_7 {p f d : Int} (B : pB m b n) : ps m p f d 74 7 = n := B.1
theorem m_skipL (B : pB m b n) {f d : Int} : ∀ (q : Nat) (p : Int), 0 ≤ p → n - p < q → 0 < q → f_X10_skip_L0 q (ps m p f d) = some (ps m (xRun (fun c => decide (c = 32)) b n q p) f d) := by
  intro q
  induction q with
  | zero => intro p h0 h hq; omega
  | succ q ih =>
    intro p h0 h hq
    rw [f_X10_skip_L0, ps_7 B, ps_8]
    conv => rhs; unfold xRun
    by_cases h1 : n ≤ p
    · rw [if_pos h1, if_neg (fun z => by omega)]
    · rw [if_neg h1, B.2.2.2 p f d p h0 (by omega), Option.bind_some]
      have h400 := B.2.2.1
      by_cases h2 : b p = 32
      · rw [if_pos h2, if_pos ⟨by omega, decide_eq_true h2⟩, jlt_eq, ps_u8, jW_of (by omega) (by omega)]
        exact ih (p + 1) (by omega) (by omega) (by omega)
      · rw [if_neg h2, if_neg (fun z => h2 (of_decide_eq_true z.2))]
theorem m_skip (B : pB m b n) {p f d : Int} (h0 : 0 ≤ p) : f_X10_skip (ps m p f d) = some (ps m (sk b n p) f d) := by
  have h400 := B.2.2.1
  unfold f_X10_skip
  rw [m_skipL B jFU p h0 (by unfold jFU; omega) (by unfold jFU; omega)]
  unfold sk
  rw [xRun_fu (q := jFU) (q' := 401) (by unfold jFU; omega) (by omega)]
theorem m_sign (B : pB m b n) {p f d : Int} (h0 : 0 ≤ p) {c : Int} (hc : 120 ≤ xSg c ∧ xSg c ≤ 125) : f_X10_isSign c (ps m p f d) = some (if xK (tk b n p) = xSg c then 1 else 0, ps m (sk b n p) f d) := by
  have h400 := B.2.2.1
  have l := sk_le (b := b) (n := n) p
  unfold f_X10_isSign
  rw [m_skip B h0, Option.bind_some, ps_7 B, ps_8, tk_k h400 h0]
  by_cases h : sk b n p < n
  · rw [if_neg (by omega), if_pos h, B.2.2.2 _ _ _ _ (by omega) h, Option.bind_some]
    have e := (xKi_sgn (b := b) (n := n) h400 (p := sk b n p) (by omega) hc).1
    by_cases h2 : b (sk b n p) = c
    · rw [if_pos h2, if_pos (e.mpr h2)]
    · rw [if_neg h2, if_neg (fun z => h2 (e.mp z))]
  · rw [if_pos (by omega), if_neg h, if_neg (by omega)]
theorem xSl_s (b : Int → Int) (p : Int) (q : Nat) : xSl b p (q + 1) = b p :: xSl b (p + 1) q := rfl
theorem xRun_s {p : Int → Bool} {b : Int → Int} {n : Int} (q : Nat) (i : Int) : xRun p b n (q + 1) i = if i < n ∧ p (b i) = true then xRun p b n q (i + 1) else i := rfl
theorem xSl_len (b : Int → Int) : ∀ (q : Nat) (p : Int), (xSl b p q).length = q := by
  intro q
  induction q with
  | zero => intro p; rfl
  | succ q ih => intro p; unfold xSl; rw [List.length_cons, ih]
theorem m_cmp (B : pB m b n) {w : Nat} {s e f d : Int} (h0 : 0 ≤ s) (h1 : s + jtl w ≤ n) : ∀ (k q : Nat) (v : Int), 0 ≤ v → v + k = jtl w → k < q → f_X10_has_L55 w q e v (ps m s f d) = some (if xSl b (s + v) k = (jtx w).drop v.toNat then (1, ps m e f d) else (0, ps m s f d)) := by
  have h400 := B.2.2.1
  intro k
  induction k with
  | zero =>
    intro q v hv hk hq
    obtain ⟨q, rfl⟩ : ∃ t, q = t + 1 := ⟨q - 1, by omega⟩
    rw [f_X10_has_L55, if_pos (by omega), jlt_eq, ps_u8, if_pos]
    rw [List.drop_of_length_le]
    · rfl
    · unfold jtl at hk
      omega
  | succ k ih =>
    intro q v hv hk hq
    obtain ⟨q, rfl⟩ : ∃ t, q = t + 1 := ⟨q - 1, by omega⟩
    have hl : v.toNat < (jtx w).length := by unfold jtl at hk; omega
    rw [f_X10_has_L55, if_neg (by omega), ps_8, jW_of (by omega) (by omega), B.2.2.2 _ _ _ _ (by omega) (by omega), Option.bind_some, if_pos (by omega), List.drop_eq_getElem_cons hl]
    have ej : jtc w v = (jtx w)[v.toNat] := by
      unfold jtc
      rw [List.getD_eq_getElem?_getD, List.getElem?_eq_getElem hl]
      rfl
    rw [ej, xSl_s]
    by_cases h2 : b (s + v) = (jtx w)[v.toNat]
    · rw [if_pos h2, jW_of (by omega) (by omega), ih q (v + 1) (by omega) (by omega) (by omega), h2, show s + v + 1 = s + (v + 1) by omega, show (v + 1).toNat = v.toNat + 1 by omega]
      by_cases h3 : xSl b (s + (v + 1)) k = List.drop (v.toNat + 1) (jtx w)
      · rw [if_pos h3, if_pos (by rw [h3])]
      · rw [if_neg h3, if_neg (fun z => h3 (List.cons.inj z).2)]
    · rw [if_neg h2, if_neg (fun z => h2 (List.cons.inj z).1)]
theorem m_hasL (B : pB m b n) {w : Nat} {s f d : Int} (h0 : 0 ≤ s) : ∀ (q : Nat) (v : Int), s ≤ v → v ≤ n → n - v < q → f_X10_has_L9 w q v (ps m s f d) = (if jW (xRun xL b n q v - s) = jtl w then f_X10_has_L55 w jFU (xRun xL b n q v) 0 (ps m s f d) else some (0, ps m s f d)) := by
  have h400 := B.2.2.1
  intro q
  induction q with
  | zero => intro v h1 h2 h3; omega
  | succ q ih =>
    intro v h1 h2 h3
    rw [f_X10_has_L9, ps_7 B, ps_8]
    by_cases h4 : n ≤ v
    · have e : xRun xL b n (q + 1) v = v := by rw [xRun_s, if_neg (fun z => by omega)]
      rw [if_pos h4, e]
    · rw [if_neg h4, B.2.2.2 _ _ _ _ (by omega) (by omega), Option.bind_some, mIsIn, Option.bind_some, ite01]
      by_cases h5 : 97 ≤ b v ∧ b v ≤ 122
      · have e : xRun xL b n (q + 1) v = xRun xL b n q (v + 1) := by rw [xRun_s, if_pos ⟨by omega, xL_iff.mpr h5⟩]
        rw [if_pos h5, e, jW_of (by omega) (by omega)]
        exact ih (v + 1) (by omega) (by omega) (by omega)
      · have e : xRun xL b n (q + 1) v = v := by rw [xRun_s, if_neg (fun z => h5 (xL_iff.mp z.2))]
        rw [if_neg h5, e]
/-- a word at the place of reading -/
theorem m_has (B : pB m b n) {p f d : Int} (h0 : 0 ≤ p) (hp : p ≤ n) {w : Nat × Int} (hw : w ∈ xWs) : f_X10_has w.1 (ps m p f d) = some (if xK (tk b n p) = w.2 then (1, ps m (nx b n p) f d) else (0, ps m (sk b n p) f d)) := by
  have h400 := B.2.2.1
  have l := sk_le (b := b) (n := n) p
  have hwi := xWs_in w hw
  have hj : jtl w.1 = ((jtx w.1).length : Int) := rfl
  unfold f_X10_has
  rw [m_skip B h0, Option.bind_some, ps_8, m_hasL B (by omega) jFU _ (Int.le_refl _) (l.2 hp) (by unfold jFU; omega), tk_k h400 h0]
  have r := xRun_le (p := xL) (b := b) (n := n) jFU (sk b n p)
  rw [jW_of (by omega) (by have := r.2 (l.2 hp); omega)]
  by_cases h : sk b n p < n
  · rw [if_pos h]
    cases hl : xL (b (sk b n p)) with
    | true =>
      have e1 : xRun xL b n jFU (sk b n p) = xLe b n (sk b n p) := by
        rw [xRun_fu (q := jFU) (q' := 401) (by unfold jFU; omega) (by omega)]
        unfold xLe
        conv => lhs; unfold xRun
        rw [if_pos ⟨h, hl⟩]
      rw [e1]
      rw [e1] at r
      have e2 : nx b n p = xLe b n (sk b n p) := by unfold nx xEn; rw [if_pos hl]
      rw [xKi_L hl]
      have k1 := xKd_iff (s := xSl b (sk b n p) (xLe b n (sk b n p) - sk b n p).toNat) xWs xWs_pw w hw hwi.2.2.1
      by_cases h2 : xLe b n (sk b n p) - sk b n p = jtl w.1
      · rw [if_pos h2, m_cmp B (by omega) (by have := r.2 (l.2 hp); omega) (jtx w.1).length jFU 0 (by decide) (by omega) (by unfold jFU; omega), Int.add_zero, e2]
        have e3 : (xLe b n (sk b n p) - sk b n p).toNat = (jtx w.1).length := by omega
        rw [e3] at k1 ⊢
        rw [show (0 : Int).toNat = 0 from rfl, List.drop_zero]
        by_cases h3 : xSl b (sk b n p) (jtx w.1).length = jtx w.1
        · rw [if_pos h3, if_pos (k1.mpr h3)]
        · rw [if_neg h3, if_neg (fun z => h3 (k1.mp z))]
      · rw [if_neg h2, if_neg]
        intro z
        have := congrArg List.length (k1.mp z)
        rw [xSl_len] at this
        omega
    | false =>
      have e1 : xRun xL b n jFU (sk b n p) = sk b n p := by
        rw [xRun_fu (q := jFU) (q' := 401) (by unfold jFU; omega) (by omega)]
        unfold xRun
        rw [if_neg (fun z => by rw [hl] at z; exact Bool.noConfusion z.2)]
      rw [e1, if_neg (by omega), if_neg]
      intro z
      have := xKi_let (b := b) (n := n) h400 (p := sk b n p) (by omega) (by omega)
      rw [hl] at this
      cases this
  · have e1 : xRun xL b n jFU (sk b n p) = sk b n p := by
      rw [xRun_fu (q := jFU) (q' := 401) (by unfold jFU; omega) (by omega)]
      unfold xRun
      rw [if_neg (fun z => h z.1)]
    rw [e1, if_neg h, if_neg (by omega), if_neg (by omega)]
theorem m_wrong {p d x : Int} : f_X10_wrong x (ps m p (-1) d) = some (ps m p x d) := by
  unfold f_X10_wrong
  rw [ps_9, if_pos rfl, jlt_eq, ps_u9]
theorem m_wrong2 {p f d x : Int} (h : f ≠ -1) : f_X10_wrong x (ps m p f d) = some (ps m p f d) := by
  unfold f_X10_wrong
  rw [ps_9, if_neg h]
theorem xDe_1 {s : Int} (hn : n ≤ 400) (h0 : 0 ≤ s) (h : n ≤ s + 1 ∨ xD (b (s + 1)) = false) : xDe b n s = s + 1 :=
  xRun_un (Int.le_refl _) (fun j h1 h2 => by omega) (fun h2 => by rcases h with h | h; omega; exact h) 400 (by omega)
theorem xDe_2 {s : Int} (hn : n ≤ 400) (h0 : 0 ≤ s) (h1 : s + 1 < n) (h2 : xD (b (s + 1)) = true) (h : n ≤ s + 2 ∨ xD (b (s + 2)) = false) : xDe b n s = s + 2 :=
  xRun_un (by omega) (fun j h3 h4 => by rw [show j = s + 1 by omega]; exact ⟨h1, h2⟩) (fun h2 => by rcases h with h | h; omega; exact h) 400 (by omega)
theorem xDe_3 {s : Int} (hn : n ≤ 400) (h0 : 0 ≤ s) (h1 : s + 2 < n) (h2 : xD (b (s + 1)) = true) (h3 : xD (b (s + 2)) = true) : s + 3 ≤ xDe b n s := by
  unfold xDe
  rw [show (400 : Nat) = 398 + 1 + 1 from rfl, xRun_s, if_pos ⟨by omega, h2⟩, xRun_s, show s + 1 + 1 = s + 2 by omega, if_pos ⟨by omega, h3⟩]
  have := xRun_le (p := xD) (b := b) (n := n) 398 (s + 2 + 1)
  omega
/-- a number at the place of reading -/
theorem m_num (B : pB m b n) {p d h : Int} (h0 : 0 ≤ p) (hp : p ≤ n) : (0 ≤ xK (tk b n p) ∧ xK (tk b n p) < 100 ∧ xK (tk b n p) ≤ h → f_X10_number h (ps m p (-1) d) = some (xK (tk b n p), ps m (nx b n p) (-1) d)) ∧ (¬ (0 ≤ xK (tk b n p) ∧ xK (tk b n p) < 100 ∧ xK (tk b n p) ≤ h) → h ≤ 99 → ∃ v p', (0 ≤ p' ∧ p' ≤ n) ∧ f_X10_number h (ps m p (-1) d) = some (v, ps m p' (sk b n p) d)) := by
  have h400 := B.2.2.1
  have l := sk_le (b := b) (n := n) p
  have l2 := l.2 hp
  have hs : 0 ≤ sk b n p := by omega
  unfold f_X10_number
  rw [ps_9, if_pos rfl, m_skip B h0, Option.bind_some, ps_8, tk_k h400 h0]
  unfold nx
  generalize sk b n p = s at *
  rw [show jFU = 99996 + 1 + 1 + 1 + 1 from rfl]
  by_cases a1 : s < n
  · rw [if_pos a1]
    cases d1 : xD (b s) with
    | false =>
      have nn : ¬ (0 ≤ xKi b n s ∧ xKi b n s < 100 ∧ xKi b n s ≤ h) := fun z => by
        have := xKi_num h400 hs ⟨z.1, z.2.1⟩
        rw [d1] at this; cases this
      have z1 : ¬ (48 ≤ b s ∧ b s ≤ 57) := fun z => by rw [xD_iff.mpr z] at d1; cases d1
      refine ⟨fun z => (nn z).elim, fun _ _ => ⟨0, s, ⟨hs, by omega⟩, ?_⟩⟩
      rw [f_X10_number_L21, ps_7 B, ps_8, if_neg (by omega), B.2.2.2 _ _ _ _ hs a1, Option.bind_some, mIsIn, Option.bind_some, ite01, if_neg z1]
      unfold f_X10_number_J90
      rw [ps_8, if_pos rfl, m_wrong, Option.bind_some]
    | true =>
      have z1 := xD_iff.mp d1
      have E : xEn b n s = xDe b n s := by
        unfold xEn
        rw [if_neg (fun z => by rw [xL_iff] at z; omega), if_pos d1]
      rw [f_X10_number_L21, ps_7 B, ps_8, if_neg (by omega), B.2.2.2 _ _ _ _ hs a1, Option.bind_some, mIsIn, Option.bind_some, ite01, if_pos z1, Int.sub_self, if_neg (by decide), Option.bind_some, jlt_eq, ps_u8, E]
      have w1 : jW (s + 1) = s + 1 := jW_of (by omega) (by omega)
      have w2 : jW (jW (jW (10 * 0) + b s) - 48) = b s - 48 := by
        rw [Int.mul_zero, jW_of (z := 0) (by decide) (by decide), Int.zero_add, jW_of (z := b s) (by omega) (by omega), jW_of (by omega) (by omega)]
      rw [w1, w2]
      by_cases a2 : n ≤ s + 1 ∨ xD (b (s + 1)) = false
      · have e1 := xDe_1 h400 hs a2
        have K : xKi b n s = b s - 48 := by rw [xKi_D d1, e1, if_pos (by omega)]
        rw [e1, K]
        have J : f_X10_number_L21 (99996 + 1 + 1 + 1) h s (b s - 48) (ps m (s + 1) (-1) d) = f_X10_number_J90 h s (b s - 48) (ps m (s + 1) (-1) d) := by
          rw [f_X10_number_L21, ps_7 B, ps_8]
          by_cases a3 : n ≤ s + 1
          · rw [if_pos a3]
          · rw [if_neg a3, B.2.2.2 _ _ _ _ (by omega) (by omega), Option.bind_some, mIsIn, Option.bind_some, ite01, if_neg]
            intro z
            rw [xD_iff.mpr z] at a2
            rcases a2 with a2 | a2
            · omega
            · cases a2
        rw [J]
        unfold f_X10_number_J90
        rw [ps_8, if_neg (by omega), jW_of (by omega) (by omega), if_neg (by omega)]
        refine ⟨fun z => ?_, fun z hh => ⟨b s - 48, s + 1, ⟨by omega, by omega⟩, ?_⟩⟩
        · rw [if_pos z.2.2]
        · rw [if_neg (fun y => z ⟨by omega, by omega, y⟩), m_wrong, Option.bind_some]
      · have a3 : s + 1 < n := Decidable.byContradiction fun z => a2 (Or.inl (by omega))
        have d2 : xD (b (s + 1)) = true := by
          cases g : xD (b (s + 1)) with
          | true => rfl
          | false => exact (a2 (Or.inr g)).elim
        have z2 := xD_iff.mp d2
        rw [f_X10_number_L21, ps_7 B, ps_8, if_neg (by omega), B.2.2.2 _ _ _ _ (by omega) a3, Option.bind_some, mIsIn, Option.bind_some, ite01, if_pos z2, jW_of (z := s + 1 - s) (by omega) (by omega), if_neg (by omega), Option.bind_some, jlt_eq, ps_u8]
        have w3 : jW (s + 1 + 1) = s + 2 := by rw [jW_of (by omega) (by omega)]; omega
        have w4 : jW (jW (jW (10 * (b s - 48)) + b (s + 1)) - 48) = (b s - 48) * 10 + b (s + 1) - 48 := by
          rw [jW_of (z := 10 * (b s - 48)) (by omega) (by omega), jW_of (z := 10 * (b s - 48) + b (s + 1)) (by omega) (by omega), jW_of (by omega) (by omega)]
          omega
        rw [w3, w4]
        by_cases a4 : n ≤ s + 2 ∨ xD (b (s + 2)) = false
        · have e1 := xDe_2 h400 hs a3 d2 a4
          have K : xKi b n s = (b s - 48) * 10 + b (s + 1) - 48 := by rw [xKi_D d1, e1, if_neg (by omega), if_pos (by omega)]
          rw [e1, K]
          have J : f_X10_number_L21 (99996 + 1 + 1) h s ((b s - 48) * 10 + b (s + 1) - 48) (ps m (s + 2) (-1) d) = f_X10_number_J90 h s ((b s - 48) * 10 + b (s + 1) - 48) (ps m (s + 2) (-1) d) := by
            rw [f_X10_number_L21, ps_7 B, ps_8]
            by_cases a5 : n ≤ s + 2
            · rw [if_pos a5]
            · rw [if_neg a5, B.2.2.2 _ _ _ _ (by omega) (by omega), Option.bind_some, mIsIn, Option.bind_some, ite01, if_neg]
              intro z
              rw [xD_iff.mpr z] at a4
              rcases a4 with a4 | a4
              · omega
              · cases a4
          rw [J]
          unfold f_X10_number_J90
          rw [ps_8, if_neg (by omega), jW_of (by omega) (by omega), if_neg (by omega)]
          refine ⟨fun z => ?_, fun z hh => ⟨(b s - 48) * 10 + b (s + 1) - 48, s + 2, ⟨by omega, by omega⟩, ?_⟩⟩
          · rw [if_pos z.2.2]
          · rw [if_neg (fun y => z ⟨by omega, by omega, y⟩), m_wrong, Option.bind_some]
        · have a5 : s + 2 < n := Decidable.byContradiction fun z => a4 (Or.inl (by omega))
          have d3 : xD (b (s + 2)) = true := by
            cases g : xD (b (s + 2)) with
            | true => rfl
            | false => exact (a4 (Or.inr g)).elim
          have z3 := xD_iff.mp d3
          have e1 := xDe_3 h400 hs a5 d2 d3
          have K : xKi b n s = 131 := by rw [xKi_D d1, if_neg (by omega), if_neg (by omega)]
          rw [K]
          refine ⟨fun z => by omega, fun _ _ => ?_⟩
          rw [f_X10_number_L21, ps_7 B, ps_8, if_neg (by omega), B.2.2.2 _ _ _ _ (by omega) a5, Option.bind_some, mIsIn, Option.bind_some, ite01, if_pos z3, jW_of (z := s + 2 - s) (by omega) (by omega), if_neg (by omega), Option.bind_some, jlt_eq, ps_u8, jW_of (z := s + 2 + 1) (by omega) (by omega)]
          have J : ∀ v, f_X10_number_L21 (99996 + 1) h s v (ps m (s + 2 + 1) (-1) d) = f_X10_number_J90 h s v (ps m (s + 2 + 1) (-1) d) := by
            intro v
            rw [f_X10_number_L21, ps_7 B, ps_8]
            by_cases a6 : n ≤ s + 2 + 1
            · rw [if_pos a6]
            · rw [if_neg a6, B.2.2.2 _ _ _ _ (by omega) (by omega), Option.bind_some, mIsIn, Option.bind_some, ite01]
              by_cases a7 : 48 ≤ b (s + 2 + 1) ∧ b (s + 2 + 1) ≤ 57
              · rw [if_pos a7, jW_of (by omega) (by omega), if_pos (by omega)]
              · rw [if_neg a7]
          rw [J]
          unfold f_X10_number_J90
          rw [ps_8, if_neg (by omega), jW_of (by omega) (by omega), if_pos (by omega), m_wrong, Option.bind_some]
          exact ⟨_, s + 2 + 1, ⟨by omega, by omega⟩, rfl⟩
  · rw [if_neg a1]
    refine ⟨fun z => by omega, fun _ _ => ⟨0, s, ⟨hs, by omega⟩, ?_⟩⟩
    rw [f_X10_number_L21, ps_7 B, ps_8, if_pos (by omega)]
    unfold f_X10_number_J90
    rw [ps_8, if_pos rfl, m_wrong, Option.bind_some]
end READ
