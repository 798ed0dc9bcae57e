/-! LEVEL 2: the reference reads whole conditions -/
theorem xMor_s (p : List (Int × Int) → xRes) (op : Int) (q : Nat) (c : List Int) (ts : List (Int × Int)) : xMor p op (q + 1) c ts = if xK ts = op then (match p (xTl ts) with | .inl e => .inl e | .inr r => xMor p op q (c ++ (r.1 ++ [op])) r.2) else .inr (c, ts) := rfl
section COND
variable {m : jMu} {b : Int → Int} {n : Int}
theorem m_everyL (B : pB m b n) {d : Int} {F : jMu → Option (Int × jMu)} {P : List (Int × Int) → xRes} (H : Mo m b n d F P) : ∀ (q : Nat) (p v : Int) (c : List Int) (Q : Nat), 0 ≤ p → p ≤ n → n - p < q → q < Q → Gd (xE m) c v →
    (∀ er, xMor P 106 q c (tk b n p) = .inl er → 0 ≤ er ∧ ∃ w p' d', (w = 0 ∨ w = 1) ∧ (0 ≤ p' ∧ p' ≤ 1000 - d) ∧ f_X10_every_L5 F Q v (ps m p (-1) d) = some (w, ps m p' er d')) ∧
    (∀ r, xMor P 106 q c (tk b n p) = .inr r → ∃ w p', p ≤ p' ∧ p' ≤ n ∧ r.2 = tk b n p' ∧ f_X10_every_L5 F Q v (ps m p (-1) d) = some (w, ps m p' (-1) d) ∧ Gd (xE m) r.1 w) := by
  have h400 := B.2.2.1
  intro q
  induction q with
  | zero => intro p v c Q h0 hp h; omega
  | succ q ih =>
    intro p v c Q h0 hp h hQ hG
    obtain ⟨Q, rfl⟩ : ∃ t, Q = t + 1 := ⟨Q - 1, by omega⟩
    have l := sk_le (b := b) (n := n) p
    have a1 := m_hasW (f := -1) (d := d) B h0 hp (w := 17) (k := 106) (by decide)
    rw [xMor_s, f_X10_every_L5, ps_9, if_pos rfl, a1, Option.bind_some]
    by_cases hk : xK (tk b n p) = 106
    · have hlt := tk_lt (b := b) h400 h0 (by omega)
      have g := nx_le (b := b) hlt
      rw [if_pos hk, if_pos hk, tk_tl h400 h0 hlt]
      dsimp only
      rw [if_neg (by decide)]
      obtain ⟨I1, I2⟩ := H (nx b n p) (by omega) g.2
      cases hx : P (tk b n (nx b n p)) with
      | inl er' =>
        obtain ⟨c0, w, p', d', c1, c2, c3⟩ := I1 er' hx
        refine ⟨fun er h1 => ?_, fun r h1 => (by cases h1)⟩
        cases h1
        rw [c3, Option.bind_some]
        obtain ⟨Q, rfl⟩ : ∃ t, Q = t + 1 := ⟨Q - 1, by omega⟩
        have e9 : ∀ z : Int, z = 0 ∨ z = 1 → f_X10_every_L5 F (Q + 1) z (ps m p' er' d') = some (z, ps m p' er' d') := by
          intro z hz
          rw [f_X10_every_L5, ps_9, if_neg (by omega), if_pos hz]
        dsimp only
        by_cases hv : v = 0
        · rw [if_pos hv, e9 0 (Or.inl rfl)]
          exact ⟨c0, 0, p', d', Or.inl rfl, c2, rfl⟩
        · rw [if_neg hv]
          by_cases hw : w = 0
          · rw [if_pos hw, e9 0 (Or.inl rfl)]
            exact ⟨c0, 0, p', d', Or.inl rfl, c2, rfl⟩
          · rw [if_neg hw, e9 1 (Or.inr rfl)]
            exact ⟨c0, 1, p', d', Or.inr rfl, c2, rfl⟩
      | inr r1 =>
        obtain ⟨w, p', c1, c2, c3, c4, c5⟩ := I2 r1 hx
        have G := hG.and c5
        obtain ⟨J1, J2⟩ := ih p' (if v = 0 then 0 else w) (c ++ (r1.1 ++ [106])) Q (by omega) c2 (by omega) (by omega) G
        have e9 : (if v = 0 then f_X10_every_L5 F Q 0 (ps m p' (-1) d) else if w = 0 then f_X10_every_L5 F Q 0 (ps m p' (-1) d) else f_X10_every_L5 F Q 1 (ps m p' (-1) d)) = f_X10_every_L5 F Q (if v = 0 then 0 else w) (ps m p' (-1) d) := by
          by_cases hv : v = 0
          · rw [if_pos hv, if_pos hv]
          · rw [if_neg hv, if_neg hv]
            by_cases hw : w = 0
            · rw [if_pos hw, hw]
            · rw [if_neg hw, show w = 1 from c5.1.resolve_left hw]
        rw [c4, Option.bind_some]
        dsimp only
        rw [e9, c3]
        refine ⟨fun er h1 => J1 er h1, fun r h1 => ?_⟩
        obtain ⟨w2, p2, e1, e2, e3, e4, e5⟩ := J2 r h1
        exact ⟨w2, p2, by omega, e2, e3, e4, e5⟩
    · rw [if_neg hk, if_neg hk]
      dsimp only
      rw [if_pos rfl, if_pos hG.1]
      refine ⟨fun er h1 => (by cases h1), fun r h1 => ?_⟩
      cases h1
      exact ⟨v, sk b n p, l.1, l.2 hp, tk_sk h400 h0, rfl, hG⟩
theorem m_every (B : pB m b n) {d : Int} {F : jMu → Option (Int × jMu)} {P : List (Int × Int) → xRes} (H : Mo m b n d F P) : Mo m b n d (f_X10_every F) (xEve P) := by
  have h400 := B.2.2.1
  intro p h0 hp
  obtain ⟨I1, I2⟩ := H p h0 hp
  unfold f_X10_every xEve
  cases hx : P (tk b n p) with
  | inl er' =>
    obtain ⟨c0, w, p', d', c1, c2, c3⟩ := I1 er' hx
    refine ⟨fun er h1 => ?_, fun r h1 => (by cases h1)⟩
    cases h1
    refine ⟨c0, w, p', d', c1, c2, ?_⟩
    rw [c3, Option.bind_some]
    dsimp only
    rw [show jFU = 99999 + 1 from rfl, f_X10_every_L5, ps_9, if_neg (by omega), if_pos c1]
  | inr r1 =>
    obtain ⟨w, p', c1, c2, c3, c4, c5⟩ := I2 r1 hx
    obtain ⟨J1, J2⟩ := m_everyL B H 402 p' w r1.1 jFU (by omega) c2 (by omega) (by unfold jFU; omega) c5
    rw [c4, Option.bind_some]
    dsimp only
    rw [c3]
    refine ⟨J1, fun r h1 => ?_⟩
    obtain ⟨w2, p2, e1, e2, e3, e4, e5⟩ := J2 r h1
    exact ⟨w2, p2, by omega, e2, e3, e4, e5⟩
theorem m_someL (B : pB m b n) {d : Int} {F : jMu → Option (Int × jMu)} {P : List (Int × Int) → xRes} (H : Mo m b n d (f_X10_every F) P) : ∀ (q : Nat) (p v : Int) (c : List Int) (Q : Nat), 0 ≤ p → p ≤ n → n - p < q → q < Q → Gd (xE m) c v →
    (∀ er, xMor P 105 q c (tk b n p) = .inl er → 0 ≤ er ∧ ∃ w p' d', (w = 0 ∨ w = 1) ∧ (0 ≤ p' ∧ p' ≤ 1000 - d) ∧ f_X10_some_L5 F Q v (ps m p (-1) d) = some (w, ps m p' er d')) ∧
    (∀ r, xMor P 105 q c (tk b n p) = .inr r → ∃ w p', p ≤ p' ∧ p' ≤ n ∧ r.2 = tk b n p' ∧ f_X10_some_L5 F Q v (ps m p (-1) d) = some (w, ps m p' (-1) d) ∧ Gd (xE m) r.1 w) := by
  have h400 := B.2.2.1
  intro q
  induction q with
  | zero => intro p v c Q h0 hp h; omega
  | succ q ih =>
    intro p v c Q h0 hp h hQ hG
    obtain ⟨Q, rfl⟩ : ∃ t, Q = t + 1 := ⟨Q - 1, by omega⟩
    have l := sk_le (b := b) (n := n) p
    have a1 := m_hasW (f := -1) (d := d) B h0 hp (w := 18) (k := 105) (by decide)
    rw [xMor_s, f_X10_some_L5, ps_9, if_pos rfl, a1, Option.bind_some]
    by_cases hk : xK (tk b n p) = 105
    · have hlt := tk_lt (b := b) h400 h0 (by omega)
      have g := nx_le (b := b) hlt
      rw [if_pos hk, if_pos hk, tk_tl h400 h0 hlt]
      dsimp only
      rw [if_neg (by decide)]
      obtain ⟨I1, I2⟩ := H (nx b n p) (by omega) g.2
      cases hx : P (tk b n (nx b n p)) with
      | inl er' =>
        obtain ⟨c0, w, p', d', c1, c2, c3⟩ := I1 er' hx
        refine ⟨fun er h1 => ?_, fun r h1 => (by cases h1)⟩
        cases h1
        rw [c3, Option.bind_some]
        obtain ⟨Q, rfl⟩ : ∃ t, Q = t + 1 := ⟨Q - 1, by omega⟩
        have e9 : ∀ z : Int, z = 0 ∨ z = 1 → f_X10_some_L5 F (Q + 1) z (ps m p' er' d') = some (z, ps m p' er' d') := by
          intro z hz
          rw [f_X10_some_L5, ps_9, if_neg (by omega), if_pos hz]
        dsimp only
        by_cases hv : v = 0
        · rw [if_pos hv]
          by_cases hw : w = 0
          · rw [if_pos hw, e9 0 (Or.inl rfl)]
            exact ⟨c0, 0, p', d', Or.inl rfl, c2, rfl⟩
          · rw [if_neg hw, e9 1 (Or.inr rfl)]
            exact ⟨c0, 1, p', d', Or.inr rfl, c2, rfl⟩
        · rw [if_neg hv, e9 1 (Or.inr rfl)]
          exact ⟨c0, 1, p', d', Or.inr rfl, c2, rfl⟩
      | inr r1 =>
        obtain ⟨w, p', c1, c2, c3, c4, c5⟩ := I2 r1 hx
        have G := hG.or c5
        obtain ⟨J1, J2⟩ := ih p' (if v = 0 then w else 1) (c ++ (r1.1 ++ [105])) Q (by omega) c2 (by omega) (by omega) G
        have e9 : (if v = 0 then (if w = 0 then f_X10_some_L5 F Q 0 (ps m p' (-1) d) else f_X10_some_L5 F Q 1 (ps m p' (-1) d)) else f_X10_some_L5 F Q 1 (ps m p' (-1) d)) = f_X10_some_L5 F Q (if v = 0 then w else 1) (ps m p' (-1) d) := by
          by_cases hv : v = 0
          · rw [if_pos hv, if_pos hv]
            by_cases hw : w = 0
            · rw [if_pos hw, hw]
            · rw [if_neg hw, show w = 1 from c5.1.resolve_left hw]
          · rw [if_neg hv, if_neg hv]
        rw [c4, Option.bind_some]
        dsimp only
        rw [e9, c3]
        refine ⟨fun er h1 => J1 er h1, fun r h1 => ?_⟩
        obtain ⟨w2, p2, e1, e2, e3, e4, e5⟩ := J2 r h1
        exact ⟨w2, p2, by omega, e2, e3, e4, e5⟩
    · rw [if_neg hk, if_neg hk]
      dsimp only
      rw [if_pos rfl, if_pos hG.1]
      refine ⟨fun er h1 => (by cases h1), fun r h1 => ?_⟩
      cases h1
      exact ⟨v, sk b n p, l.1, l.2 hp, tk_sk h400 h0, rfl, hG⟩
theorem m_some (B : pB m b n) {d : Int} {F : jMu → Option (Int × jMu)} {P : List (Int × Int) → xRes} (H : Mo m b n d F P) : Mo m b n d (f_X10_some F) (xSom P) := by
  have h400 := B.2.2.1
  have HE := m_every B H
  intro p h0 hp
  obtain ⟨I1, I2⟩ := HE p h0 hp
  unfold f_X10_some xSom
  cases hx : xEve P (tk b n p) with
  | inl er' =>
    obtain ⟨c0, w, p', d', c1, c2, c3⟩ := I1 er' hx
    refine ⟨fun er h1 => ?_, fun r h1 => (by cases h1)⟩
    cases h1
    refine ⟨c0, w, p', d', c1, c2, ?_⟩
    rw [c3, Option.bind_some]
    dsimp only
    rw [show jFU = 99999 + 1 from rfl, f_X10_some_L5, ps_9, if_neg (by omega), if_pos c1]
  | inr r1 =>
    obtain ⟨w, p', c1, c2, c3, c4, c5⟩ := I2 r1 hx
    obtain ⟨J1, J2⟩ := m_someL B HE 402 p' w r1.1 jFU (by omega) c2 (by omega) (by unfold jFU; omega) c5
    rw [c4, Option.bind_some]
    dsimp only
    rw [c3]
    refine ⟨J1, fun r h1 => ?_⟩
    obtain ⟨w2, p2, e1, e2, e3, e4, e5⟩ := J2 r h1
    exact ⟨w2, p2, by omega, e2, e3, e4, e5⟩
theorem xPla_no {ts : List (Int × Int)} (h : xK ts = 107 ∨ xK ts = 120) : xPla ts = .inl (xHd ts) := by
  unfold xPla xCmp
  rw [if_neg (by rw [xTag_iff]; omega), show (401 : Nat) = 400 + 1 from rfl, xSum_s, if_neg (by rw [xNum_iff, xFac_iff]; omega)]
theorem xAto_s (d : Nat) (ts : List (Int × Int)) : xAto (d + 1) ts = if xK ts = 107 then (match xAto d (xTl ts) with | .inl e => .inl e | .inr r => .inr (r.1 ++ [107], r.2))
    else if xK ts = 120 then (match xSom (xAto d) (xTl ts) with | .inl e => .inl e | .inr r => if xK r.2 = 121 then .inr (r.1, xTl r.2) else .inl (xHd r.2))
    else xPla ts := rfl
/-- the way into an atom -/
theorem m_atomIn (B : pB m b n) (F : jMu → Option (Int × jMu)) {p d : Int} (h0 : 0 ≤ p) (hp : p ≤ n) : f_X10_atom F (ps m p (-1) d) =
    if xK (tk b n p) = 107 then f_X10_atom_J44 F (sk b n p) 1 (ps m (nx b n p) (-1) d) else if xK (tk b n p) = 120 then f_X10_atom_J44 F (sk b n p) 0 (ps m (sk b n p) (-1) d) else (f_X10_plain (ps m (sk b n p) (-1) d)).bind fun r4 => (if r4.1 = 0 ∨ r4.1 = 1 then some (r4.1, r4.2) else none) := by
  have h400 := B.2.2.1
  have l := sk_le (b := b) (n := n) p
  have l2 := l.2 hp
  have hs : 0 ≤ sk b n p := by omega
  have htk : tk b n p = tk b n (sk b n p) := tk_sk h400 h0
  have hnx := nx_sk (b := b) h400 h0
  have hss := sk_sk (b := b) h0 h400
  have a2 := m_hasW (f := -1) (d := d) B hs l2 (w := 7) (k := 107) (by decide)
  have s1 := m_sign (f := -1) (d := d) B (p := sk b n p) hs (c := 40) (by decide)
  rw [← htk, hnx, hss] at a2
  rw [← htk, hss, show xSg 40 = 120 from rfl] at s1
  unfold f_X10_atom
  rw [ps_9, if_pos rfl, m_skip B h0, Option.bind_some, a2, Option.bind_some]
  by_cases k1 : xK (tk b n p) = 107
  · rw [if_pos k1, if_pos k1]
    dsimp only
    rw [if_neg (by decide)]
    rfl
  · rw [if_neg k1, if_neg k1]
    dsimp only
    rw [if_pos rfl, s1, Option.bind_some]
    by_cases k2 : xK (tk b n p) = 120
    · rw [if_pos k2, if_pos k2]
      dsimp only
      rw [if_neg (by decide)]
      rfl
    · rw [if_neg k2, if_neg k2]
      dsimp only
      rw [if_pos rfl]
theorem m_atom (B : pB m b n) (E : pE m) : ∀ k : Nat, k ≤ 6 → Mo m b n (6 - k) (fr_X10_atom (k + 2)) (xAto k) := by
  have h400 := B.2.2.1
  intro k
  induction k with
  | zero =>
    intro _ p h0 hp
    have l := sk_le (b := b) (n := n) p
    have hd := tk_hd (b := b) h400 h0 hp
    show (∀ er, xPla (tk b n p) = .inl er → _ ∧ ∃ v p' d', _ ∧ _ ∧ f_X10_atom (fr_X10_atom 1) (ps m p (-1) (6 - ((0 : Nat) : Int))) = _) ∧ (∀ r, xPla (tk b n p) = .inr r → ∃ v p', _ ∧ _ ∧ _ ∧ f_X10_atom (fr_X10_atom 1) (ps m p (-1) (6 - ((0 : Nat) : Int))) = _ ∧ _)
    rw [m_atomIn B _ h0 hp]
    have J : ∀ v2 p1, f_X10_atom_J44 (fr_X10_atom 1) (sk b n p) v2 (ps m p1 (-1) (6 - ((0 : Nat) : Int))) = some (0, ps m p1 (sk b n p) (6 - ((0 : Nat) : Int))) := by
      intro v2 p1
      unfold f_X10_atom_J44
      rw [ps_10, if_pos (by omega), m_wrong, Option.bind_some]
    by_cases k1 : xK (tk b n p) = 107
    · rw [if_pos k1, J, xPla_no (Or.inl k1), hd]
      refine ⟨fun er h1 => ?_, fun r h1 => (by cases h1)⟩
      cases h1
      have g := nx_le (b := b) (tk_lt (b := b) h400 h0 (by omega))
      exact ⟨by omega, 0, _, _, Or.inl rfl, ⟨by omega, by omega⟩, rfl⟩
    · rw [if_neg k1]
      by_cases k2 : xK (tk b n p) = 120
      · rw [if_pos k2, J, xPla_no (Or.inr k2), hd]
        refine ⟨fun er h1 => ?_, fun r h1 => (by cases h1)⟩
        cases h1
        exact ⟨by omega, 0, _, _, Or.inl rfl, ⟨by omega, by omega⟩, rfl⟩
      · rw [if_neg k2]
        obtain ⟨I1, I2⟩ := m_plain (d := 6 - ((0 : Nat) : Int)) B E (by omega) (sk b n p) (by omega) (l.2 hp)
        rw [← tk_sk h400 h0] at I1 I2
        refine ⟨fun er h1 => ?_, fun r h1 => ?_⟩
        · obtain ⟨c0, v, p', d', c1, c2, c3⟩ := I1 er h1
          exact ⟨c0, v, p', d', c1, c2, by rw [c3, Option.bind_some]; dsimp only; rw [if_pos c1]⟩
        · obtain ⟨v, p', c1, c2, c3, c4, c5⟩ := I2 r h1
          exact ⟨v, p', by omega, c2, c3, by rw [c4, Option.bind_some]; dsimp only; rw [if_pos c5.1], c5⟩
  | succ k ih =>
    intro hk6 p h0 hp
    have l := sk_le (b := b) (n := n) p
    have H := ih (by omega)
    have hdp : (6 : Int) - ((k + 1 : Nat) : Int) + 1 = 6 - (k : Int) := by omega
    show (∀ er, xAto (k + 1) (tk b n p) = .inl er → _ ∧ ∃ v p' d', _ ∧ _ ∧ f_X10_atom (fr_X10_atom (k + 2)) (ps m p (-1) (6 - ((k + 1 : Nat) : Int))) = _) ∧ (∀ r, xAto (k + 1) (tk b n p) = .inr r → ∃ v p', _ ∧ _ ∧ _ ∧ f_X10_atom (fr_X10_atom (k + 2)) (ps m p (-1) (6 - ((k + 1 : Nat) : Int))) = _ ∧ _)
    rw [m_atomIn B _ h0 hp, xAto_s]
    by_cases k1 : xK (tk b n p) = 107
    · have hlt := tk_lt (b := b) h400 h0 (by omega)
      have g := nx_le (b := b) hlt
      rw [if_pos k1, if_pos k1, tk_tl h400 h0 hlt]
      have e1 : f_X10_atom_J44 (fr_X10_atom (k + 2)) (sk b n p) 1 (ps m (nx b n p) (-1) (6 - ((k + 1 : Nat) : Int))) = (fr_X10_atom (k + 2) (ps m (nx b n p) (-1) (6 - (k : Int)))).bind fun r17 => (if r17.1 = 0 then (jlt (jup r17.2 74 10 (jW (r17.2 74 10 - 1))) fun m18 => some (1, m18)) else (jlt (jup r17.2 74 10 (jW (r17.2 74 10 - 1))) fun m19 => some (0, m19))) := by
        unfold f_X10_atom_J44
        rw [ps_10, if_neg (by omega), jlt_eq, if_neg (by decide), ps_u10, jW_of (by omega) (by omega), hdp]
      rw [e1]
      obtain ⟨I1, I2⟩ := H (nx b n p) (by omega) g.2
      cases hx : xAto k (tk b n (nx b n p)) with
      | inl er' =>
        obtain ⟨c0, w, p', d', c1, c2, c3⟩ := I1 er' hx
        refine ⟨fun er h1 => ?_, fun r h1 => (by cases h1)⟩
        cases h1
        rw [c3, Option.bind_some]
        dsimp only
        by_cases hw : w = 0
        · rw [if_pos hw, jlt_eq, ps_u10]; exact ⟨c0, 1, p', _, Or.inr rfl, ⟨c2.1, by omega⟩, rfl⟩
        · rw [if_neg hw, jlt_eq, ps_u10]; exact ⟨c0, 0, p', _, Or.inl rfl, ⟨c2.1, by omega⟩, rfl⟩
      | inr r1 =>
        obtain ⟨w, p', c1, c2, c3, c4, c5⟩ := I2 r1 hx
        refine ⟨fun er h1 => (by cases h1), fun r h1 => ?_⟩
        cases h1
        rw [c4, Option.bind_some]
        dsimp only
        rw [ps_10, jlt_eq, jlt_eq, ps_u10, jW_of (by omega) (by omega), show (6 : Int) - (k : Int) - 1 = 6 - ((k + 1 : Nat) : Int) by omega]
        have G := c5.not
        by_cases hw : w = 0
        · rw [if_pos hw]
          rw [hw] at G
          exact ⟨1, p', by omega, c2, c3, rfl, G⟩
        · rw [if_neg hw]
          rw [show w = 1 from c5.1.resolve_left hw] at G
          exact ⟨0, p', by omega, c2, c3, rfl, G⟩
    · rw [if_neg k1, if_neg k1]
      by_cases k2 : xK (tk b n p) = 120
      · have hlt := tk_lt (b := b) h400 h0 (by omega)
        have g := nx_le (b := b) hlt
        have gs := (sgn_nx (b := b) h400 (p := p) (c := 40) h0 (by decide) k2).2
        rw [if_pos k2, if_pos k2, tk_tl h400 h0 hlt]
        have HS := m_some B H
        obtain ⟨I1, I2⟩ := HS (nx b n p) (by omega) g.2
        unfold f_X10_atom_J44
        rw [ps_10, if_neg (by omega), jlt_eq, if_pos rfl, ps_u10, jW_of (z := 6 - ((k + 1 : Nat) : Int) + 1) (by omega) (by omega), hdp, jlt_eq, ps_8, ps_u8, jW_of (z := sk b n p + 1) (by omega) (by omega), ← gs]
        cases hx : xSom (xAto k) (tk b n (nx b n p)) with
        | inl er' =>
          obtain ⟨c0, w, p', d', c1, c2, c3⟩ := I1 er' hx
          refine ⟨fun er h1 => ?_, fun r h1 => (by cases h1)⟩
          cases h1
          rw [c3, Option.bind_some]
          dsimp only
          simp only [ps_9, ps_8, ps_10, ps_u8, ps_u10, jlt_eq, if_neg (show ¬ er' = -1 by omega), if_pos c1]
          exact ⟨c0, w, jW (p' + 1), _, c1, by rw [jW_of (by omega) (by omega)]; exact ⟨by omega, by omega⟩, rfl⟩
        | inr r1 =>
          obtain ⟨w, p', c1, c2, c3, c4, c5⟩ := I2 r1 hx
          have l1 := sk_le (b := b) (n := n) p'
          have s1 := m_sign (f := -1) (d := 6 - (k : Int)) B (p := p') (by omega) (c := 41) (by decide)
          rw [show xSg 41 = 121 from rfl] at s1
          rw [c4, Option.bind_some]
          dsimp only
          simp only [ps_9, if_true, s1, Option.bind_some, c3, ps_8, ps_10, ps_u8, ps_u10, jlt_eq, if_pos c5.1]
          by_cases k3 : xK (tk b n p') = 121
          · have g3 := sgn_nx (b := b) h400 (p := p') (c := 41) (by omega) (by decide) k3
            have g4 := nx_le (b := b) g3.1
            rw [if_pos k3, if_pos k3, if_neg (by decide)]
            refine ⟨fun er h1 => (by cases h1), fun r h1 => ?_⟩
            cases h1
            refine ⟨w, nx b n p', by omega, g4.2, tk_tl h400 (by omega) g3.1, ?_, c5⟩
            rw [jW_of (z := sk b n p' + 1) (by omega) (by omega), ← g3.2, jW_of (by omega) (by omega), show (6 : Int) - (k : Int) - 1 = 6 - ((k + 1 : Nat) : Int) by omega]
          · rw [if_neg k3, if_neg k3, if_pos rfl, tk_hd h400 (by omega) c2]
            refine ⟨fun er h1 => ?_, fun r h1 => (by cases h1)⟩
            cases h1
            rw [m_wrong, Option.bind_some]
            simp only [ps_8, ps_10, ps_u8, ps_u10]
            exact ⟨by omega, w, _, _, c5.1, by rw [jW_of (by omega) (by omega)]; exact ⟨by omega, by omega⟩, rfl⟩
      · rw [if_neg k2, if_neg k2]
        obtain ⟨I1, I2⟩ := m_plain (d := 6 - ((k + 1 : Nat) : Int)) B E (by omega) (sk b n p) (by omega) (l.2 hp)
        rw [← tk_sk h400 h0] at I1 I2
        refine ⟨fun er h1 => ?_, fun r h1 => ?_⟩
        · obtain ⟨c0, v, p', d', c1, c2, c3⟩ := I1 er h1
          exact ⟨c0, v, p', d', c1, c2, by rw [c3, Option.bind_some]; dsimp only; rw [if_pos c1]⟩
        · obtain ⟨v, p', c1, c2, c3, c4, c5⟩ := I2 r h1
          exact ⟨v, p', by omega, c2, c3, by rw [c4, Option.bind_some]; dsimp only; rw [if_pos c5.1], c5⟩
end COND
