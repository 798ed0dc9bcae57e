/-! LEVEL 2: the reference reads sums, atoms, conditions -/
theorem xSt_nm {e : Int → Int} {x l s c : Int} (h : xNum c = true) : xSt e (x, l, s) c = (x, l, s + c) := by
  unfold xSt
  rw [if_pos h]
theorem xSt_fc {e : Int → Int} {x l s c : Int} (h : xNum c = false) (h2 : xFac c = true) : xSt e (x, l, s) c = (x, l, s + e c) := by
  unfold xSt
  rw [if_neg (by rw [h]; decide), if_pos h2]
theorem xSt_tg {e : Int → Int} {x l s c : Int} (h : 108 ≤ c ∧ c ≤ 110) : xSt e (x, l, s) c = (2 * x + e c, l, s) := by
  unfold xSt xNum xFac xTag
  rw [if_neg (by rw [decide_eq_true_iff]; omega), if_neg (by rw [decide_eq_true_iff]; omega), if_pos (by rw [decide_eq_true_iff]; omega)]
theorem xNum_iff {c : Int} : xNum c = true ↔ 0 ≤ c ∧ c < 100 := decide_eq_true_iff
theorem xFac_iff {c : Int} : xFac c = true ↔ 111 ≤ c ∧ c ≤ 116 := decide_eq_true_iff
theorem xTag_iff {c : Int} : xTag c = true ↔ 108 ≤ c ∧ c ≤ 110 := decide_eq_true_iff
theorem xSum_s (q : Nat) (ts : List (Int × Int)) : xSum (q + 1) ts = if xNum (xK ts) = true ∨ xFac (xK ts) = true then
      (if xK (xTl ts) = 123 then (match xSum q (xTl (xTl ts)) with | .inl e => .inl e | .inr r => .inr (xK ts :: r.1, r.2)) else .inr ([xK ts], xTl ts))
    else .inl (xHd ts) := rfl
section ATOM
variable {m : jMu} {b : Int → Int} {n : Int}
/-- a sum from a place on -/
theorem m_sumL (B : pB m b n) (E : pE m) {d : Int} : ∀ (q : Nat) (p acc : Int) (Q : Nat) (F : Int → Int), 0 ≤ p → p ≤ n → n - p < q → q ≤ 401 → q < Q → 0 ≤ acc → acc ≤ 400 * (401 - q) → (∀ v, 0 ≤ v → v ≤ 400 → F v = acc + v) →
    (∀ er, xSum q (tk b n p) = .inl er → 0 ≤ er ∧ ∃ v p', (0 ≤ p' ∧ p' ≤ n) ∧ (f_X10_part (ps m p (-1) d)).bind (fun r => f_X10_sum_L5 Q (F r.1) r.2) = some (v, ps m p' er d)) ∧
    (∀ r, xSum q (tk b n p) = .inr r → ∃ v p', p < p' ∧ p' ≤ n ∧ r.2 = tk b n p' ∧ (f_X10_part (ps m p (-1) d)).bind (fun r => f_X10_sum_L5 Q (F r.1) r.2) = some (acc + v, ps m p' (-1) d) ∧ 0 ≤ v ∧ v ≤ 400 * q ∧ ∀ x l s, xEv (xE m) r.1 (x, l, s) = (x, l, s + v)) := by
  have h400 := B.2.2.1
  intro q
  induction q with
  | zero => intro p acc Q F h0 hp h; omega
  | succ q ih =>
    intro p acc Q F h0 hp h hq hQ ha hb hF
    obtain ⟨Q, rfl⟩ : ∃ t, Q = t + 1 := ⟨Q - 1, by omega⟩
    have l := sk_le (b := b) (n := n) p
    obtain ⟨P1, P2, P3⟩ := m_part (d := d) B h0 hp
    have hd := tk_hd (b := b) h400 h0 hp
    rw [xSum_s]
    by_cases hk : xNum (xK (tk b n p)) = true ∨ xFac (xK (tk b n p)) = true
    · rw [if_pos hk]
      have hlt := tk_lt (b := b) h400 h0 (by rw [xNum_iff, xFac_iff] at hk; omega)
      have htl := tk_tl (b := b) h400 h0 hlt
      have hnx := nx_le (b := b) hlt
      rw [htl]
      -- the part's value
      obtain ⟨a, ea, a0, a1, a2⟩ : ∃ a, f_X10_part (ps m p (-1) d) = some (a, ps m (nx b n p) (-1) d) ∧ 0 ≤ a ∧ a ≤ 400 ∧ ∀ x l s, xSt (xE m) (x, l, s) (xK (tk b n p)) = (x, l, s + a) := by
        cases hn : xNum (xK (tk b n p)) with
        | true =>
          have z := xNum_iff.mp hn
          exact ⟨_, P1 z, z.1, by omega, fun x l s => xSt_nm hn⟩
        | false =>
          have z := xFac_iff.mp (hk.resolve_left (by rw [hn]; decide))
          have z2 := E.2.2.2 (xK (tk b n p) - 111) (by omega) (by omega)
          refine ⟨_, P2 z, z2.1, z2.2, fun x l s => ?_⟩
          rw [xSt_fc hn (xFac_iff.mpr z)]
          unfold xE
          rw [if_neg (by omega), if_neg (by omega), if_neg (by omega)]
      have hs1 := m_sign (f := -1) (d := d) B (p := nx b n p) (by omega) (c := 43) (by decide)
      rw [show xSg 43 = 123 from rfl] at hs1
      rw [ea, Option.bind_some, hF a a0 a1]
      dsimp only
      rw [f_X10_sum_L5, ps_9, if_pos rfl, hs1, Option.bind_some]
      have l1 := sk_le (b := b) (n := n) (nx b n p)
      by_cases hpl : xK (tk b n (nx b n p)) = 123
      · rw [if_pos hpl, if_pos hpl]
        dsimp only
        rw [if_neg (by decide), jlt_eq]
        have g := sgn_nx (b := b) h400 (p := nx b n p) (c := 43) (by omega) (by decide) hpl
        have g2 := nx_le (b := b) g.1
        rw [ps_8, ps_u8, jW_of (by omega) (by omega), ← g.2, tk_tl h400 (by omega) g.1]
        have I := ih (nx b n (nx b n p)) (acc + a) Q (fun v => jW (acc + a + v)) (by omega) (by omega) (by omega) (by omega) (by omega) (by omega) (by omega) (fun v h1 h2 => jW_of (by omega) (by omega))
        refine ⟨fun er h1 => ?_, fun r h1 => ?_⟩
        · cases hx : xSum q (tk b n (nx b n (nx b n p))) with
          | inl er' =>
            rw [hx] at h1
            cases h1
            exact I.1 er hx
          | inr r' => rw [hx] at h1; cases h1
        · cases hx : xSum q (tk b n (nx b n (nx b n p))) with
          | inl er' => rw [hx] at h1; cases h1
          | inr r' =>
            rw [hx] at h1
            cases h1
            obtain ⟨v, p', c1, c2, c3, c4, c5, c6, c7⟩ := I.2 r' hx
            refine ⟨a + v, p', by omega, c2, c3, by rw [c4, Int.add_assoc], by omega, by omega, fun x l s => ?_⟩
            rw [xEv_c, a2, c7, Int.add_assoc]
      · rw [if_neg hpl, if_neg hpl, if_pos rfl]
        refine ⟨fun er h1 => (by cases h1), fun r h1 => ?_⟩
        cases h1
        refine ⟨a, sk b n (nx b n p), by omega, l1.2 hnx.2, tk_sk h400 (by omega), rfl, a0, by omega, fun x l s => ?_⟩
        rw [xEv_c, xEv_n, a2]
    · rw [if_neg hk]
      refine ⟨fun er h1 => ?_, fun r h1 => (by cases h1)⟩
      cases h1
      rw [hd]
      refine ⟨by omega, ?_⟩
      rw [xNum_iff, xFac_iff] at hk
      obtain ⟨v, p', c1, c2⟩ := P3 (fun z => hk (Or.inl z)) (fun z => hk (Or.inr z))
      refine ⟨F v, p', c1, ?_⟩
      rw [c2, Option.bind_some]
      dsimp only
      rw [f_X10_sum_L5, ps_9, if_neg (by omega)]
theorem m_sum (B : pB m b n) (E : pE m) {p d : Int} (h0 : 0 ≤ p) (hp : p ≤ n) :
    (∀ er, xSum 401 (tk b n p) = .inl er → 0 ≤ er ∧ ∃ v p', (0 ≤ p' ∧ p' ≤ n) ∧ f_X10_sum (ps m p (-1) d) = some (v, ps m p' er d)) ∧
    (∀ r, xSum 401 (tk b n p) = .inr r → ∃ v p', p < p' ∧ p' ≤ n ∧ r.2 = tk b n p' ∧ f_X10_sum (ps m p (-1) d) = some (v, ps m p' (-1) d) ∧ ∀ x l s, xEv (xE m) r.1 (x, l, s) = (x, l, s + v)) := by
  have h400 := B.2.2.1
  have I := m_sumL (d := d) B E 401 p 0 jFU (fun v => v) h0 hp (by omega) (by omega) (by unfold jFU; omega) (by omega) (by omega) (fun v _ _ => by omega)
  unfold f_X10_sum
  refine ⟨I.1, fun r hr => ?_⟩
  obtain ⟨v, p', c1, c2, c3, c4, c5, c6, c7⟩ := I.2 r hr
  refine ⟨v, p', c1, c2, c3, ?_, c7⟩
  rw [Int.zero_add] at c4
  exact c4
/-- how a reading of the reference goes with a reading of words -/
def Mo (m : jMu) (b : Int → Int) (n d : Int) (F : jMu → Option (Int × jMu)) (P : List (Int × Int) → xRes) : Prop := ∀ p, 0 ≤ p → p ≤ n →
  (∀ er, P (tk b n p) = .inl er → 0 ≤ er ∧ ∃ v p' d', (v = 0 ∨ v = 1) ∧ (0 ≤ p' ∧ p' ≤ 1000 - d) ∧ F (ps m p (-1) d) = some (v, ps m p' er d')) ∧
  (∀ r, P (tk b n p) = .inr r → ∃ v p', p < p' ∧ p' ≤ n ∧ r.2 = tk b n p' ∧ F (ps m p (-1) d) = some (v, ps m p' (-1) d) ∧ Gd (xE m) r.1 v)
theorem xE_tag (E : pE m) {c : Int} (h : 108 ≤ c ∧ c ≤ 110) : xE m c = 0 ∨ xE m c = 1 := by
  unfold xE
  obtain rfl | rfl | rfl : c = 108 ∨ c = 109 ∨ c = 110 := by omega
  · exact E.1
  · exact E.2.1
  · exact E.2.2.1
theorem Gd.tag (E : pE m) {c : Int} (h : 108 ≤ c ∧ c ≤ 110) : Gd (xE m) [c] (xE m c) :=
  ⟨xE_tag E h, fun x l => ⟨l, by rw [xEv_c, xEv_n, xSt_tg h]⟩⟩
theorem m_plain (B : pB m b n) (E : pE m) {d : Int} (hdd : d ≤ 6) : Mo m b n d f_X10_plain xPla := by
  have h400 := B.2.2.1
  intro p h0 hp
  have l := sk_le (b := b) (n := n) p
  have l2 := l.2 hp
  have hs : 0 ≤ sk b n p := by omega
  have htk : tk b n p = tk b n (sk b n p) := tk_sk h400 h0
  have hnx := nx_sk (b := b) h400 h0
  have hss := sk_sk (b := b) h0 h400
  have a1 := m_hasW (f := -1) (d := d) B h0 hp (w := 8) (k := 108) (by decide)
  have a2 := m_hasW (f := -1) (d := d) B hs l2 (w := 9) (k := 109) (by decide)
  have a3 := m_hasW (f := -1) (d := d) B hs l2 (w := 10) (k := 110) (by decide)
  rw [← htk, hnx, hss] at a2 a3
  unfold xPla
  by_cases ht : xTag (xK (tk b n p)) = true
  · have z := xTag_iff.mp ht
    have hlt := tk_lt (b := b) h400 h0 (by omega)
    have g := nx_le (b := b) hlt
    rw [if_pos ht]
    refine ⟨fun er h1 => (by cases h1), fun r h1 => ?_⟩
    cases h1
    refine ⟨xE m (xK (tk b n p)), nx b n p, g.1, g.2, tk_tl h400 h0 hlt, ?_, Gd.tag E z⟩
    unfold f_X10_plain
    obtain e | e | e : xK (tk b n p) = 108 ∨ xK (tk b n p) = 109 ∨ xK (tk b n p) = 110 := by omega
    · rw [a1, if_pos e, Option.bind_some, e]
      simp only [ite10, ps_o (m := m) (j := 12) (by decide) (by decide) (by decide), if_pos E.1]
      rfl
    · rw [a1, if_neg (by omega), Option.bind_some, if_pos rfl]
      dsimp only
      rw [a2, if_pos e, Option.bind_some, e]
      simp only [ite10, ps_o (m := m) (j := 13) (by decide) (by decide) (by decide), if_pos E.2.1]
      rfl
    · rw [a1, if_neg (by omega), Option.bind_some, if_pos rfl]
      dsimp only
      rw [a2, if_neg (by omega), Option.bind_some, if_pos rfl]
      dsimp only
      rw [a3, if_pos e, Option.bind_some, e]
      simp only [ite10, ps_o (m := m) (j := 14) (by decide) (by decide) (by decide), if_pos E.2.2.1]
      rfl
  · rw [if_neg ht]
    rw [xTag_iff] at ht
    unfold f_X10_plain
    rw [a1, if_neg (by omega), Option.bind_some, if_pos rfl]
    dsimp only
    rw [a2, if_neg (by omega), Option.bind_some, if_pos rfl]
    dsimp only
    rw [a3, if_neg (by omega), Option.bind_some, if_pos rfl]
    dsimp only
    unfold xCmp
    rw [htk]
    obtain ⟨I1, I2⟩ := m_sum (d := d) B E hs l2
    cases hx : xSum 401 (tk b n (sk b n p)) with
    | inl er' =>
      obtain ⟨c0, v, p', c1, c2⟩ := I1 er' hx
      refine ⟨fun er h1 => ?_, fun r h1 => (by cases h1)⟩
      cases h1
      refine ⟨c0, 0, p', d, Or.inl rfl, ⟨c1.1, by omega⟩, ?_⟩
      rw [c2, Option.bind_some]
      simp only [ps_9, if_neg (show ¬ er' = -1 by omega)]
    | inr r1 =>
      obtain ⟨v1, p1, c1, c2, c3, c4, c5⟩ := I2 r1 hx
      rw [c4, Option.bind_some]
      dsimp only
      rw [c3]
      simp only [ps_9, if_true]
      have l1 := sk_le (b := b) (n := n) p1
      have s1 := m_sign (f := -1) (d := d) B (p := p1) (by omega) (c := 60) (by decide)
      have s2 := m_sign (f := -1) (d := d) B (p := sk b n p1) (by omega) (c := 62) (by decide)
      rw [show xSg 60 = 124 from rfl] at s1
      rw [show xSg 62 = 125 from rfl, ← tk_sk h400 (by omega), sk_sk (by omega) h400] at s2
      rw [s1, Option.bind_some]
      dsimp only
      -- behind the sign
      have tail : ∀ (sg vv : Int), (vv = 1 ∧ sg = 124 ∨ vv = 0 ∧ sg = 125) → xK (tk b n p1) = sg →
          (∀ er, (match xSum 401 (xTl (tk b n p1)) with | .inl e => (.inl e : xRes) | .inr s => .inr (r1.1 ++ 132 :: (s.1 ++ [sg]), s.2)) = .inl er → 0 ≤ er ∧ ∃ v p' d', (v = 0 ∨ v = 1) ∧ (0 ≤ p' ∧ p' ≤ 1000 - d) ∧ f_X10_plain_J87 v1 vv (ps m (sk b n p1) (-1) d) = some (v, ps m p' er d')) ∧
          (∀ r, (match xSum 401 (xTl (tk b n p1)) with | .inl e => (.inl e : xRes) | .inr s => .inr (r1.1 ++ 132 :: (s.1 ++ [sg]), s.2)) = .inr r → ∃ v p', p < p' ∧ p' ≤ n ∧ r.2 = tk b n p' ∧ f_X10_plain_J87 v1 vv (ps m (sk b n p1) (-1) d) = some (v, ps m p' (-1) d) ∧ Gd (xE m) r.1 v) := by
        intro sg vv hv hsg
        have hlt := tk_lt (b := b) (p := p1) h400 (by omega) (by omega)
        have gg : nx b n p1 = sk b n p1 + 1 := by
          rcases hv with hv | hv
          · exact (sgn_nx (b := b) h400 (p := p1) (c := 60) (by omega) (by decide) (by rw [hsg, hv.2]; rfl)).2
          · exact (sgn_nx (b := b) h400 (p := p1) (c := 62) (by omega) (by decide) (by rw [hsg, hv.2]; rfl)).2
        have g2 := nx_le (b := b) hlt
        unfold f_X10_plain_J87
        rw [jlt_eq, ps_8, ps_u8, jW_of (by omega) (by omega), ← gg, tk_tl h400 (by omega) hlt]
        obtain ⟨K1, K2⟩ := m_sum (d := d) B E (p := nx b n p1) (by omega) (by omega)
        cases hy : xSum 401 (tk b n (nx b n p1)) with
        | inl er' =>
          obtain ⟨e0, v, p', e1, e2⟩ := K1 er' hy
          refine ⟨fun er h1 => ?_, fun r h1 => (by cases h1)⟩
          cases h1
          rw [e2, Option.bind_some]
          dsimp only
          by_cases hvv : vv = 0
          · rw [if_pos hvv]
            by_cases h3 : v1 ≤ v
            · rw [if_pos h3]; exact ⟨e0, 0, p', d, Or.inl rfl, ⟨e1.1, by omega⟩, rfl⟩
            · rw [if_neg h3]; exact ⟨e0, 1, p', d, Or.inr rfl, ⟨e1.1, by omega⟩, rfl⟩
          · rw [if_neg hvv]
            by_cases h3 : v ≤ v1
            · rw [if_pos h3]; exact ⟨e0, 0, p', d, Or.inl rfl, ⟨e1.1, by omega⟩, rfl⟩
            · rw [if_neg h3]; exact ⟨e0, 1, p', d, Or.inr rfl, ⟨e1.1, by omega⟩, rfl⟩
        | inr r2 =>
          obtain ⟨v2, p2, e1, e2, e3, e4, e5⟩ := K2 r2 hy
          refine ⟨fun er h1 => (by cases h1), fun r h1 => ?_⟩
          cases h1
          rw [e4, Option.bind_some]
          dsimp only
          have ev : ∀ x l, xEv (xE m) (r1.1 ++ 132 :: (r2.1 ++ [sg])) (x, l, 0) = xSt (xE m) (x, v1, v2) sg := by
            intro x l
            rw [xEv_app, c5, Int.zero_add, xEv_c, xSt_132, xEv_app, e5, Int.zero_add, xEv_c, xEv_n]
          rcases hv with ⟨hv, hg⟩ | ⟨hv, hg⟩
          · subst hv hg
            rw [if_neg (by decide)]
            by_cases h3 : v2 ≤ v1
            · rw [if_pos h3]
              exact ⟨0, p2, by omega, e2, e3, rfl, Or.inl rfl, fun x l => ⟨v1, by rw [ev, xSt_124, if_neg (by omega)]⟩⟩
            · rw [if_neg h3]
              exact ⟨1, p2, by omega, e2, e3, rfl, Or.inr rfl, fun x l => ⟨v1, by rw [ev, xSt_124, if_pos (by omega)]⟩⟩
          · subst hv hg
            rw [if_pos rfl]
            by_cases h3 : v1 ≤ v2
            · rw [if_pos h3]
              exact ⟨0, p2, by omega, e2, e3, rfl, Or.inl rfl, fun x l => ⟨v1, by rw [ev, xSt_125, if_neg (by omega)]⟩⟩
            · rw [if_neg h3]
              exact ⟨1, p2, by omega, e2, e3, rfl, Or.inr rfl, fun x l => ⟨v1, by rw [ev, xSt_125, if_pos (by omega)]⟩⟩
      by_cases k1 : xK (tk b n p1) = 124
      · have T := tail 124 1 (Or.inl ⟨rfl, rfl⟩) k1
        rw [if_pos (Or.inl k1), if_pos k1, if_neg (by decide), k1]
        exact T
      · rw [if_neg k1, if_pos rfl, s2, Option.bind_some]
        dsimp only
        by_cases k2 : xK (tk b n p1) = 125
        · have T := tail 125 0 (Or.inr ⟨rfl, rfl⟩) k2
          rw [if_pos (Or.inr k2), if_pos k2, if_neg (by decide), k2]
          exact T
        · rw [if_neg (fun z => z.elim k1 k2), if_neg k2, if_pos rfl, ps_8, m_wrong, Option.bind_some, tk_hd h400 (by omega) c2]
          refine ⟨fun er h1 => ?_, fun r h1 => (by cases h1)⟩
          cases h1
          exact ⟨by omega, 0, _, d, Or.inl rfl, ⟨by omega, by omega⟩, rfl⟩
end ATOM
