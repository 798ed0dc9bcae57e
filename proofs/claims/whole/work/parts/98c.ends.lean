/-! LEVEL 2: what was looked at -/
theorem zBit {x b : Nat} : (x &&& 2 ^ b = 0) ↔ x.testBit b = false := by
  constructor
  · intro h
    have e : (x &&& 2 ^ b).testBit b = false := by rw [h, Nat.zero_testBit]
    rw [Nat.testBit_and, Nat.testBit_two_pow_self, Bool.and_true] at e
    exact e
  · intro h
    refine Nat.eq_of_testBit_eq (fun i => ?_)
    rw [Nat.testBit_and, Nat.testBit_two_pow, Nat.zero_testBit]
    by_cases e : b = i
    · rw [← e, h, Bool.false_and]
    · rw [decide_eq_false e, Bool.and_false]
def kLk (m : jMu) (M : Int → Int) (t : Int) : Prop := m 66 5 = t ∧ ∀ a, 0 ≤ a → a < 2400 → ∃ x : Nat, x < 65536 ∧ m 67 a = (x : Int) ∧ ∀ b : Nat, b < 8 → (x.testBit b = true → (x.testBit (b + 8) = true ↔ sWhy M t (b : Int) a (sT M a) = 0)) ∧ (x.testBit b = false → x.testBit (b + 8) = false)
def iW (m0 m : jMu) : Prop := ∀ c, c ≠ 32 → c ≠ 67 → m c = m0 c
theorem iW.rf (m : jMu) : iW m m := fun _ _ _ => rfl
theorem iW.tr {a b c : jMu} (h : iW a b) (g : iW b c) : iW a c := fun x h1 h2 => (g x h1 h2).trans (h x h1 h2)
theorem iW.kC {m0 m : jMu} {M : Int → Int} (h : iW m0 m) (C : kC m0 0 M) : kC m 0 M := kC_frame C (fun c _ h2 => h c (by omega) (by omega)) (fun _ _ _ => rfl)
theorem iW.fC {m0 m : jMu} (h : iW m0 m) : fC m0 m := fun c h1 _ => h c h1 (by omega)
/-- one look written down -/
theorem kLk_put {m : jMu} {M : Int → Int} {t a : Int} (K : kLk m M t) (h0 : 0 ≤ a) (h1 : a < 2400) {b x : Nat} (hb : b < 8) (hx : x < 65536) (e : m 67 a = (x : Int)) (hn : x.testBit b = false) {y : Nat} (hy : (y = x ||| (2 ^ b ||| 2 ^ (b + 8)) ∧ sWhy M t (b : Int) a (sT M a) = 0) ∨ (y = x ||| 2 ^ b ∧ ¬ sWhy M t (b : Int) a (sT M a) = 0)) : kLk (jup m 67 a (y : Int)) M t ∧ y < 65536 ∧ (y.testBit (b + 8) = true ↔ sWhy M t (b : Int) a (sT M a) = 0) := by
  have p1 : 2 ^ b < 2 ^ 16 := Nat.pow_lt_pow_right (by decide) (by omega)
  have p2 : 2 ^ (b + 8) < 2 ^ 16 := Nat.pow_lt_pow_right (by decide) (by omega)
  have hx' : x < 2 ^ 16 := hx
  have hy' : y < 2 ^ 16 := by
    rcases hy with h | h
    · rw [h.1]; exact Nat.or_lt_two_pow hx' (Nat.or_lt_two_pow p1 p2)
    · rw [h.1]; exact Nat.or_lt_two_pow hx' p1
  obtain ⟨x', z1, z2, z3⟩ := K.2 a h0 h1
  have ex : x' = x := by omega
  subst ex
  have tb : ∀ i, y.testBit i = (x'.testBit i || (decide (b = i) || (decide (b + 8 = i) && decide (sWhy M t (b : Int) a (sT M a) = 0)))) := by
    intro i
    rcases hy with h | h
    · rw [h.1, Nat.testBit_or, Nat.testBit_or, Nat.testBit_two_pow, Nat.testBit_two_pow, decide_eq_true h.2, Bool.and_true]
    · rw [h.1, Nat.testBit_or, Nat.testBit_two_pow, decide_eq_false h.2, Bool.and_false, Bool.or_false]
  have hn8 := (z3 b hb).2 hn
  have t8 : y.testBit (b + 8) = true ↔ sWhy M t (b : Int) a (sT M a) = 0 := by
    rw [tb, hn8, decide_eq_false (show ¬ b = b + 8 by omega), decide_eq_true (show b + 8 = b + 8 from rfl), Bool.true_and, Bool.false_or, Bool.false_or]
    exact decide_eq_true_iff
  refine ⟨⟨by rw [jup_c (by decide)]; exact K.1, fun a' g0 g1 => ?_⟩, hy', t8⟩
  by_cases ea : a' = a
  · subst ea
    refine ⟨y, hy', jup_s, fun b' hb' => ?_⟩
    by_cases eb : b' = b
    · subst eb
      have t0 : y.testBit b' = true := by rw [tb, decide_eq_true (show b' = b' from rfl), Bool.true_or, Bool.or_true]
      exact ⟨fun _ => t8, fun h => by rw [t0] at h; cases h⟩
    · have e1 : y.testBit b' = x'.testBit b' := by rw [tb, decide_eq_false (show ¬ b = b' by omega), decide_eq_false (show ¬ b + 8 = b' by omega), Bool.false_and, Bool.or_false, Bool.or_false]
      have e2 : y.testBit (b' + 8) = x'.testBit (b' + 8) := by rw [tb, decide_eq_false (show ¬ b = b' + 8 by omega), decide_eq_false (show ¬ b + 8 = b' + 8 by omega), Bool.false_and, Bool.or_false, Bool.or_false]
      rw [e1, e2]
      exact z3 b' hb'
  · obtain ⟨x2, y1, y2, y3⟩ := K.2 a' g0 g1
    exact ⟨x2, y1, by rw [jup_j ea]; exact y2, y3⟩
theorem kLk_fr {m m' : jMu} {M : Int → Int} {t : Int} (K : kLk m M t) (h1 : m' 66 = m 66) (h2 : m' 67 = m 67) : kLk m' M t := by
  unfold kLk
  rw [h1, h2]
  exact K
theorem c_open {m : jMu} {M : Int → Int} (C : kC m 0 M) {t bay mo : Int} (K : kLk m M t) (ht : 0 ≤ t ∧ t < M 5) (hb : 0 ≤ bay ∧ bay < M 0) (hm : 0 ≤ mo ∧ mo < 2400) : ∃ m', f_X8_isOpen bay mo m = some (if sWhy M t bay mo (sT M mo) = 0 then 1 else 0, m') ∧ iW m m' ∧ kLk m' M t := by
  have hn := C.n
  obtain ⟨b, rfl⟩ : ∃ b : Nat, bay = (b : Int) := ⟨bay.toNat, by omega⟩
  have hb8 : b < 8 := by omega
  obtain ⟨x, x1, x2, x3⟩ := K.2 mo hm.1 hm.2
  have p1 : 2 ^ b < 2 ^ 16 := Nat.pow_lt_pow_right (by decide) (by omega)
  have p2 : 2 ^ (b + 8) < 2 ^ 16 := Nat.pow_lt_pow_right (by decide) (by omega)
  have hx' : x < 2 ^ 16 := x1
  have q1 : (2 : Nat) ^ 16 = 65536 := rfl
  have pp : 2 ^ b * 2 ^ 8 = 2 ^ (b + 8) := (Nat.pow_add 2 b 8).symm
  have s1 : jSl 1 (b : Int) = ((2 ^ b : Nat) : Int) := by
    have := zSl (a := 1) (k := b) (by omega) (by omega) (by decide)
    rw [Nat.one_mul] at this
    exact this
  have s8 : jSl ((2 ^ b : Nat) : Int) 8 = ((2 ^ (b + 8) : Nat) : Int) := by
    have := zSl (a := 2 ^ b) (k := 8) (by decide) (by omega) (by omega)
    rw [pp] at this
    exact this
  have i0 : (0 ≤ mo ∧ mo < 2400) = True := eq_true hm
  unfold f_X8_isOpen
  rw [if_neg (by omega), if_neg (by omega), if_neg (by omega), if_pos (by omega)]
  simp only [i0, if_true, s1, s8, x2]
  rw [zAn (by omega) (by omega)]
  by_cases hk : x.testBit b = true
  · have n0 : ¬ ((x &&& 2 ^ b : Nat) : Int) = 0 := fun z => by
      have : x.testBit b = false := zBit.mp (by omega)
      rw [hk] at this
      cases this
    rw [if_neg n0, zAn (by omega) (by omega)]
    refine ⟨m, ?_, iW.rf m, K⟩
    have k8 := (x3 b hb8).1 hk
    by_cases g : sWhy M t (b : Int) mo (sT M mo) = 0
    · rw [if_pos g, if_neg (fun z => by
        have : x.testBit (b + 8) = false := zBit.mp (by omega)
        rw [k8.mpr g] at this
        cases this)]
    · have : x.testBit (b + 8) = false := by
        cases h : x.testBit (b + 8) with
        | false => rfl
        | true => exact (g (k8.mp h)).elim
      rw [if_neg g, zBit.mpr this, if_pos (show ((0 : Nat) : Int) = 0 from rfl)]
  · have hk' : x.testBit b = false := by
      cases h : x.testBit b with
      | false => rfl
      | true => exact (hk h).elim
    obtain ⟨m2, e1, P, f2⟩ := c_stand C (bay := (b : Int)) (mo := mo) hb hm
    have C2 := cl_C C f2
    have W := c_why C2 P ht hb hm (sTr_01 _ _ _)
    have K2 := kLk_fr K (f2 66 (by decide)) (f2 67 (by decide))
    have e2 : m2 67 mo = (x : Int) := by rw [f2 67 (by decide)]; exact x2
    rw [zBit.mpr hk', if_pos (show ((0 : Nat) : Int) = 0 from rfl), e1, Option.bind_some]
    rw [K2.1, W, Option.bind_some, e2, zOr (by omega) (by omega), zOr (by omega) (by exact Nat.lt_of_lt_of_le (Nat.or_lt_two_pow p1 p2) (by decide)), zOr (by omega) (by omega)]
    simp only [jlt_eq, jup_s]
    by_cases g : sWhy M t (b : Int) mo (sT M mo) = 0
    · obtain ⟨k1, k2, k3⟩ := kLk_put K2 hm.1 hm.2 hb8 x1 e2 hk' (y := x ||| (2 ^ b ||| 2 ^ (b + 8))) (Or.inl ⟨rfl, g⟩)
      rw [if_pos (show sWhy M t (b : Int) mo (sTr M (mo / 12) (mo % 12)) = 0 from g), if_pos g, zAn (by omega) (by omega), if_neg (fun z => by
        have : (x ||| (2 ^ b ||| 2 ^ (b + 8))).testBit (b + 8) = false := zBit.mp (by omega)
        rw [k3.mpr g] at this
        cases this)]
      exact ⟨_, rfl, fun c h1 h2 => by rw [jup_c h2, f2 c h1], k1⟩
    · obtain ⟨k1, k2, k3⟩ := kLk_put K2 hm.1 hm.2 hb8 x1 e2 hk' (y := x ||| 2 ^ b) (Or.inr ⟨rfl, g⟩)
      have n8 : (x ||| 2 ^ b).testBit (b + 8) = false := by
        cases h : (x ||| 2 ^ b).testBit (b + 8) with
        | false => rfl
        | true => exact (g (k3.mp h)).elim
      rw [if_neg (show ¬ sWhy M t (b : Int) mo (sTr M (mo / 12) (mo % 12)) = 0 from g), if_neg g, zAn (by omega) (by omega), zBit.mpr n8, if_pos (show ((0 : Nat) : Int) = 0 from rfl)]
      exact ⟨_, rfl, fun c h1 h2 => by rw [jup_c h2, f2 c h1], k1⟩
/-! the end of a work -/
theorem ity_loop {σ β γ : Type} {L : Nat → Int → σ → jMu → Option γ} (f : Int → σ → β ⊕ σ) (R : σ → β) (O : β → jMu → γ) (I : jMu → Prop) (P : Int → σ → Prop) {lo n : Int}
    (hs : ∀ q i s m, lo ≤ i → i < n → P i s → I m → (∃ v m', f i s = .inl v ∧ I m' ∧ L (q + 1) i s m = some (O v m')) ∨ (∃ t m', f i s = .inr t ∧ I m' ∧ L (q + 1) i s m = L q (i + 1) t m' ∧ P (i + 1) t))
    (he : ∀ q s m, P n s → I m → L (q + 1) n s m = some (O (R s) m)) : ∀ (d q : Nat) (i : Int) (s : σ) (m : jMu), lo ≤ i → i + d = n → d < q → P i s → I m → ∃ m', I m' ∧ L q i s m = some (O (itx f R d i s) m') := by
  intro d
  induction d with
  | zero =>
    intro q i s m h0 h1 h2 hP hI
    obtain ⟨q, rfl⟩ : ∃ p, q = p + 1 := ⟨q - 1, by omega⟩
    have : i = n := by omega
    subst this
    exact ⟨m, hI, he q s m hP hI⟩
  | succ d ih =>
    intro q i s m h0 h1 h2 hP hI
    obtain ⟨q, rfl⟩ : ∃ p, q = p + 1 := ⟨q - 1, by omega⟩
    rcases hs q i s m h0 (by omega) hP hI with ⟨v, m', a, b, c⟩ | ⟨t, m', a, b, c, p⟩
    · refine ⟨m', b, ?_⟩
      rw [c]; unfold itx; rw [a]
    · obtain ⟨m2, g1, g2⟩ := ih q (i + 1) t m' (by omega) (by omega) (by omega) p b
      refine ⟨m2, g1, ?_⟩
      rw [c, g2]
      conv => rhs; unfold itx
      rw [a]
def sEnF (M : Int → Int) (t bay : Int) (i s : Int) : Int ⊕ Int := if sWhy M t bay i (sT M i) = 0 then (if s ≤ 1 then .inl (i + 1) else .inr (s - 1)) else .inr s
/-- so many open moments from one on -/
def sEndL (M : Int → Int) (t bay mo h : Int) : Int := itx (sEnF M t bay) (fun _ => -1) (2400 - mo).toNat mo h
def sNeed (M : Int → Int) (bay g : Int) : Int := (M (20 + 9 * bay + 2) + M (348 + g) - 1) / M (348 + g)
def sEnd (M : Int → Int) (t bay g mo : Int) : Int := if mo < 0 then -1 else sEndL M t bay mo (sNeed M bay g)
theorem sNeed_b {m : jMu} {M : Int → Int} (C : kC m 0 M) {bay g : Int} (hb : 0 ≤ bay ∧ bay < M 0) (hg : 0 ≤ g ∧ g < M 6) : 1 ≤ sNeed M bay g ∧ sNeed M bay g ≤ 24 ∧ jDv (jW (jW (M (20 + 9 * bay + 2) + M (348 + g)) - 1)) (M (348 + g)) = sNeed M bay g := by
  have R := ((C.1 0 (by decide)).2 bay hb.1 hb.2).2.2.1
  have S := (C.1 5 (by decide)).2 g hg.1 hg.2
  unfold sNeed
  have a1 : 1 ≤ (M (20 + 9 * bay + 2) + M (348 + g) - 1) / M (348 + g) := by
    rw [Int.le_ediv_iff_mul_le (by omega)]
    omega
  have a2 : (M (20 + 9 * bay + 2) + M (348 + g) - 1) / M (348 + g) ≤ 24 := Int.le_trans (Int.ediv_le_self _ (by omega)) (by omega)
  refine ⟨a1, a2, ?_⟩
  rw [jW_of (z := M (20 + 9 * bay + 2) + M (348 + g)) (by omega) (by omega), jW_of (by omega) (by omega), xdv (by omega) (by omega) (by omega)]
theorem c_endL {m : jMu} {M : Int → Int} (C : kC m 0 M) {t bay mo h : Int} (K : kLk m M t) (ht : 0 ≤ t ∧ t < M 5) (hb : 0 ≤ bay ∧ bay < M 0) (h0 : 0 ≤ mo) (hh : 1 ≤ h ∧ h ≤ 24) : ∃ m', f_X8_workEnd_L51 jFU bay h mo m = some (sEndL M t bay mo h, m') ∧ iW m m' ∧ kLk m' M t := by
  unfold sEndL
  by_cases h1 : mo < 2400
  · obtain ⟨m', a, b⟩ := ity_loop (L := fun q i s m => f_X8_workEnd_L51 q bay s i m) (sEnF M t bay) (fun _ => -1) (fun v m => (v, m)) (fun m' => iW m m' ∧ kLk m' M t) (fun _ s => 1 ≤ s ∧ s ≤ 24) (lo := mo) (n := 2400) (by
      intro q i s m1 g0 g1 hs hI
      obtain ⟨m2, e1, f2, K2⟩ := c_open (hI.1.kC C) hI.2 ht hb (mo := i) (by omega)
      show (∃ v m', _ ∧ _ ∧ f_X8_workEnd_L51 (q + 1) bay s i m1 = some (v, m')) ∨ (∃ t m', _ ∧ _ ∧ f_X8_workEnd_L51 (q + 1) bay s i m1 = _ ∧ _)
      rw [f_X8_workEnd_L51, if_neg (by omega), e1, Option.bind_some, ite01, jW_of (z := i + 1) (by omega) (by omega), jW_of (z := s + -1) (by omega) (by omega)]
      unfold sEnF
      by_cases g : sWhy M t bay i (sT M i) = 0
      · rw [if_pos g, if_pos g]
        by_cases g2 : s ≤ 1
        · exact Or.inl ⟨i + 1, m2, by rw [if_pos g2], ⟨hI.1.tr f2, K2⟩, by rw [if_neg (by omega)]⟩
        · exact Or.inr ⟨s - 1, m2, by rw [if_neg g2], ⟨hI.1.tr f2, K2⟩, by rw [if_pos (by omega)]; rfl, by omega⟩
      · rw [if_neg g, if_neg g]
        exact Or.inr ⟨s, m2, rfl, ⟨hI.1.tr f2, K2⟩, rfl, hs⟩) (by
      intro q s m1 _ _
      show f_X8_workEnd_L51 (q + 1) bay s 2400 m1 = _
      rw [f_X8_workEnd_L51, if_pos (Int.le_refl _)]) (2400 - mo).toNat jFU mo h m (Int.le_refl _) (by omega) (by unfold jFU; omega) hh ⟨iW.rf m, K⟩
    exact ⟨m', b, a.1, a.2⟩
  · rw [show (2400 - mo).toNat = 0 by omega]
    refine ⟨m, ?_, iW.rf m, K⟩
    show f_X8_workEnd_L51 (99999 + 1) bay h mo m = _
    rw [f_X8_workEnd_L51, if_pos (by omega)]
    rfl
theorem c_end {m : jMu} {M : Int → Int} (C : kC m 0 M) {t bay g mo : Int} (K : kLk m M t) (ht : 0 ≤ t ∧ t < M 5) (hb : 0 ≤ bay ∧ bay < M 0) (hg : 0 ≤ g ∧ g < M 6) : ∃ m', f_X8_workEnd bay g mo m = some (sEnd M t bay g mo, m') ∧ iW m m' ∧ kLk m' M t := by
  have N := sNeed_b C hb hg
  have S := (C.1 5 (by decide)).2 g hg.1 hg.2
  unfold f_X8_workEnd sEnd
  rw [cg_gang C hg.1 hg.2, Option.bind_some]
  by_cases h : mo < 0
  · rw [if_pos h, if_pos h]
    exact ⟨m, rfl, iW.rf m, K⟩
  · rw [if_neg h, if_neg h, if_pos (by omega), cg_bay C hb.1 hb.2 (by decide) (by decide), Option.bind_some, if_pos (by omega), N.2.2]
    exact c_endL C K ht hb (by omega) ⟨N.1, N.2.1⟩
theorem c_end0 {m : jMu} {M : Int → Int} (C : kC m 0 M) {bay g mo : Int} (hg : M 6 ≤ g) : f_X8_workEnd bay g mo m = some (-1, m) := by
  unfold f_X8_workEnd
  rw [cg_gang0 C hg, Option.bind_some]
  by_cases h : mo < 0
  · rw [if_pos h]
  · rw [if_neg h, if_neg (by decide)]
theorem m_end {m mm : jMu} (C : kC mm 0 (m 75)) {t bay g mo : Int} (ht : 0 ≤ t ∧ t < m 75 5) (hb : 0 ≤ bay ∧ bay < m 75 0) (hg : 0 ≤ g ∧ g < m 75 6) (hm : 0 ≤ mo ∧ mo < 2400) : ∃ m', f_X10_endOf t bay g mo m = some (sEnd (m 75) t bay g mo, m') ∧ fM m m' ∧ m' 74 0 = m 74 0 := by
  have hn := C.n
  have N := sNeed_b C hb hg
  have S := (C.1 5 (by decide)).2 g hg.1 hg.2
  unfold f_X10_endOf sEnd sEndL
  rw [if_neg (by omega), mOfBay hb.1 (by omega) (by decide) (by decide), Option.bind_some, jW_of (z := 348 + g) (by omega) (by omega), if_pos (by omega), if_pos (by omega), if_pos (by omega), N.2.2, jlt_eq]
  obtain ⟨m', a, b⟩ := ity_loop (L := fun q i s m => f_X10_endOf_L36 q t bay s i m) (sEnF (m 75) t bay) (fun _ => -1) (fun v m => (v, m)) (fun m' => fM m m' ∧ m' 74 0 = m 74 0) (fun _ s => 1 ≤ s ∧ s ≤ 24) (lo := mo) (n := 2400) (by
    intro q i s m1 g0 g1 hs hI
    have e75 : m1 75 = m 75 := hI.1.1 75 (by decide) (by decide)
    have C1 : kC mm 0 (m1 75) := by rw [e75]; exact C
    obtain ⟨m2, e1, f2, _, _, z2⟩ := m_why C1 (t := t) (bay := bay) (mo := i) (by rw [e75]; exact ht) (by rw [e75]; exact hb) (by omega)
    rw [e75] at e1
    have J := hI.1.tr f2
    have z3 := z2.trans hI.2
    show (∃ v m', _ ∧ _ ∧ f_X10_endOf_L36 (q + 1) t bay s i m1 = some (v, m')) ∨ (∃ t' m', _ ∧ _ ∧ f_X10_endOf_L36 (q + 1) t bay s i m1 = _ ∧ _)
    rw [f_X10_endOf_L36, if_neg (by omega), e1, Option.bind_some, jW_of (z := i + 1) (by omega) (by omega), jW_of (z := s + -1) (by omega) (by omega)]
    unfold sEnF
    by_cases g : sWhy (m 75) t bay i (sT (m 75) i) = 0
    · rw [if_pos g, if_pos g]
      by_cases g2 : s ≤ 1
      · exact Or.inl ⟨i + 1, m2, by rw [if_pos g2], ⟨J, z3⟩, by rw [if_pos (by omega)]⟩
      · exact Or.inr ⟨s - 1, m2, by rw [if_neg g2], ⟨J, z3⟩, by rw [if_neg (by omega)]; rfl, by omega⟩
    · rw [if_neg g, if_neg g]
      exact Or.inr ⟨s, m2, rfl, ⟨J, z3⟩, rfl, hs⟩) (by
    intro q s m1 _ _
    show f_X10_endOf_L36 (q + 1) t bay s 2400 m1 = _
    rw [f_X10_endOf_L36, if_pos (Int.le_refl _)]) (2400 - mo).toNat jFU mo (sNeed (m 75) bay g) m (Int.le_refl _) (by omega) (by unfold jFU; omega) ⟨N.1, N.2.1⟩ ⟨fM.rf m, rfl⟩
  exact ⟨m', b, a.1, a.2⟩
/-! the works begin -/
theorem c_fill {m : jMu} {a w : Nat} {v : Int} (hw : w ≤ 3000) : ∃ m', f_J7_fill_53178 a w v m = some m' ∧ (∀ c, c ≠ a → m' c = m c) ∧ ∀ k, 0 ≤ k → k < (w : Int) → m' a k = v := by
  unfold f_J7_fill_53178
  obtain ⟨m', x, y⟩ := itz_loop (L := fun q i (_ : Unit) m => f_J7_fill_53178_L5 a w q v i (w : Int) m) (fun _ s => s) (fun _ m => m) (fun i _ m' => (∀ c, c ≠ a → m' c = m c) ∧ ∀ k, 0 ≤ k → k < i → m' a k = v) (lo := 0) (n := (w : Int)) (by
    intro q i s m1 g0 g1 hI
    refine ⟨jup m1 a i v, ⟨fun c hc => by rw [jup_c hc, hI.1 c hc], fun k h1 h2 => ?_⟩, ?_⟩
    · by_cases e : k = i
      · rw [e, jup_s]
      · rw [jup_j e]; exact hI.2 k h1 (by omega)
    · show f_J7_fill_53178_L5 a w (q + 1) v i (w : Int) m1 = _
      rw [f_J7_fill_53178_L5, if_neg (by omega), if_pos (by omega), jlt_eq, jW_of (by omega) (by omega)]) (by
    intro q s m1 _
    show f_J7_fill_53178_L5 a w (q + 1) v (w : Int) (w : Int) m1 = _
    rw [f_J7_fill_53178_L5, if_pos (by omega)]) w jFU 0 () m (Int.le_refl _) (by omega) (by unfold jFU; omega) ⟨fun _ _ => rfl, fun a h1 h2 => by omega⟩
  exact ⟨m', y, x⟩
theorem c_begin {m : jMu} {M : Int → Int} (C : kC m 0 M) (t k : Int) : ∃ m', f_X8_begin t k m = some m' ∧ fC m m' ∧ kC m' 0 M ∧ kLk m' M t ∧ ∀ j, 0 ≤ j → j < M 8 → jAn (jSr k (M (376 + 8 * j))) 1 = 1 → m' 68 j = M (376 + 8 * j + 4) + sDry M j := by
  obtain ⟨m1, e1, f1, z1⟩ := c_fill (m := jup m 66 5 t) (a := 67) (w := 2400) (v := 0) (by decide)
  have F1 : ∀ c, c ≠ 66 → c ≠ 67 → m1 c = m c := fun c h1 h2 => by rw [f1 c h2, jup_c h1]
  have C1 : kC m1 0 M := kC_frame C (fun c _ h2 => F1 c (by omega) (by omega)) (fun _ _ _ => rfl)
  obtain ⟨m2, e2, f2, d2⟩ := c_dryL C1 k
  have F2 : ∀ c, c ≠ 32 → c ≠ 66 → c ≠ 67 → c ≠ 68 → m2 c = m c := fun c h1 h2 h3 h4 => by rw [f2 c h1 h4, F1 c h2 h3]
  refine ⟨m2, ?_, fun c h1 h2 => F2 c h1 (by omega) (by omega) (by omega), kC_frame C (fun c _ h2 => F2 c (by omega) (by omega) (by omega) (by omega)) (fun _ _ _ => rfl), ⟨?_, fun a h0 h1 => ⟨0, by decide, ?_, fun b _ => ⟨fun h => (by rw [Nat.zero_testBit] at h; cases h), fun _ => Nat.zero_testBit _⟩⟩⟩, d2⟩
  · unfold f_X8_begin
    rw [jlt_eq, e1, Option.bind_some, e2, Option.bind_some]
  · rw [f2 66 (by decide) (by decide), f1 66 (by decide), jup_s]
  · rw [f2 67 (by decide) (by decide)]
    exact z1 a h0 (by omega)
/-! the call ends -/
def kEnds (M : Int → Int) (t bay g mo : Int) : Int := if (0 ≤ t ∧ t < M 5) ∧ (0 ≤ bay ∧ bay < M 0) ∧ (0 ≤ g ∧ g < M 6) ∧ 0 ≤ mo ∧ mo ≤ 2399 then 0 else 1
theorem cq_ends {m : jMu} (hA : kA m) (t bay g mo : Int) : cQ (f_L_ends t bay g mo m) m (kEnds (m 75) t bay g mo) (sEnd (m 75) t bay g mo) := by
  have hz := hA.1.z
  unfold f_L_ends f_X9_ends f_X9_ends_J46 f_X9_ends_J47 kEnds
  by_cases h1 : 0 ≤ t ∧ t < m 75 5
  · by_cases h2 : 0 ≤ bay ∧ bay < m 75 0
    · by_cases h3 : 0 ≤ g ∧ g < m 75 6
      · by_cases h4 : 0 ≤ mo ∧ mo ≤ 2399
        · obtain ⟨m1, e1, f1, C1, K1, _⟩ := c_begin hA.1 t 0
          obtain ⟨m2, e2, f2, K2⟩ := c_end C1 (mo := mo) K1 h1 h2 h3
          simp only [xIsIn, cHas, cRoom, Option.bind_some, nIz, nAz, nRz, nEz, nDz, nI0z, nI1z, nA0z, nA1z, nE0z, nE1z, nR0z, nR1z, jcat2_r, jcat2_l, jlt_eq, ite01, ite01o, ite01p, ite00, ite10, xe1, xe2, xe3, xe4, xe5, xe6, if_true, if_false, f_X5_size, Int.reduceLE, Int.reduceLT, hz, h1, h2, h3, h4, and_self, e1, e2]
          exact cQ_val2 (f1.tr f2.fC)
        · simp only [xIsIn, cHas, cRoom, Option.bind_some, nIz, nAz, nRz, nEz, nDz, nI0z, nI1z, nA0z, nA1z, nE0z, nE1z, nR0z, nR1z, jcat2_r, jcat2_l, jlt_eq, ite01, ite01o, ite01p, ite00, ite10, xe1, xe2, xe3, xe4, xe5, xe6, if_true, if_false, f_X5_size, Int.reduceLE, Int.reduceLT, hz, h1, h2, h3, h4, and_self, and_false, and_true, true_and]
          exact cQ_thr (by decide)
      · simp only [xIsIn, cHas, cRoom, Option.bind_some, nIz, nAz, nRz, nEz, nDz, nI0z, nI1z, nA0z, nA1z, nE0z, nE1z, nR0z, nR1z, jcat2_r, jcat2_l, jlt_eq, ite01, ite01o, ite01p, ite00, ite10, xe1, xe2, xe3, xe4, xe5, xe6, if_true, if_false, f_X5_size, Int.reduceLE, Int.reduceLT, hz, h1, h2, h3, and_self, and_false, false_and, and_true, true_and]
        exact cQ_thr (by decide)
    · simp only [xIsIn, cHas, cRoom, Option.bind_some, nIz, nAz, nRz, nEz, nDz, nI0z, nI1z, nA0z, nA1z, nE0z, nE1z, nR0z, nR1z, jcat2_r, jcat2_l, jlt_eq, ite01, ite01o, ite01p, ite00, ite10, xe1, xe2, xe3, xe4, xe5, xe6, if_true, if_false, f_X5_size, Int.reduceLE, Int.reduceLT, hz, h1, h2, and_self, and_false, false_and, and_true, true_and]
      exact cQ_thr (by decide)
  · simp only [xIsIn, cHas, cRoom, Option.bind_some, nIz, nAz, nRz, nEz, nDz, nI0z, nI1z, nA0z, nA1z, nE0z, nE1z, nR0z, nR1z, jcat2_r, jcat2_l, jlt_eq, ite01, ite01o, ite01p, ite00, ite10, xe1, xe2, xe3, xe4, xe5, xe6, if_true, if_false, f_X5_size, Int.reduceLE, Int.reduceLT, hz, h1, false_and]
    exact cQ_thr (by decide)
theorem mq_ends {m : jMu} (hA : kA m) (t bay g mo : Int) : mQ (f_X10_ends t bay g mo m) m (kEnds (m 75) t bay g mo) (sEnd (m 75) t bay g mo) := by
  have hn := hA.1.n
  have hA' := kA_fM hA (fM.thr m 0)
  have e75 : jup m 74 0 0 75 = m 75 := jup_c (by decide)
  unfold f_X10_ends f_X10_ends_J33 kEnds
  by_cases h1 : 0 ≤ t ∧ t < m 75 5
  · by_cases h2 : 0 ≤ bay ∧ bay < m 75 0
    · by_cases h3 : 0 ≤ g ∧ g < m 75 6
      · by_cases h4 : 0 ≤ mo ∧ mo ≤ 2399
        · obtain ⟨m', w1, w2, w3⟩ := m_end hA'.1 (t := t) (bay := bay) (g := g) (mo := mo) (by rw [e75]; exact h1) (by rw [e75]; exact h2) (by rw [e75]; exact h3) (by omega)
          rw [e75] at w1
          simp only [mIsIn, mDay, mHour, mMoment, Option.bind_some, ite01, ite01o, ite01p, ite00, ite10, jlt_eq, jup_s, le00, le10, le20, le30, if_true, if_false, Int.reduceLE, Int.reduceLT, mTerms _ hn.2.2.2.2.2.1, mBay _ hn.1, mGang _ hn.2.2.2.2.2.2.1, mMoment, h1, h2, h3, h4, and_self, w1]
          exact ⟨_, m', rfl, (fM.thr m 0).tr w2, by rw [w3, jup_s], fun _ => rfl⟩
        · simp only [mIsIn, mDay, mHour, mMoment, Option.bind_some, ite01, ite01o, ite01p, ite00, ite10, jlt_eq, jup_s, le00, le10, le20, le30, if_true, if_false, Int.reduceLE, Int.reduceLT, mTerms _ hn.2.2.2.2.2.1, mBay _ hn.1, mGang _ hn.2.2.2.2.2.2.1, mMoment, h1, h2, h3, h4, and_self, and_false, and_true, true_and]
          exact mQ_thr (by decide)
      · simp only [mIsIn, mDay, mHour, mMoment, Option.bind_some, ite01, ite01o, ite01p, ite00, ite10, jlt_eq, jup_s, le00, le10, le20, le30, if_true, if_false, Int.reduceLE, Int.reduceLT, mTerms _ hn.2.2.2.2.2.1, mBay _ hn.1, mGang _ hn.2.2.2.2.2.2.1, mMoment, h1, h2, h3, and_self, and_false, false_and, and_true, true_and]
        exact mQ_thr (by decide)
    · simp only [mIsIn, mDay, mHour, mMoment, Option.bind_some, ite01, ite01o, ite01p, ite00, ite10, jlt_eq, jup_s, le00, le10, le20, le30, if_true, if_false, Int.reduceLE, Int.reduceLT, mTerms _ hn.2.2.2.2.2.1, mBay _ hn.1, h1, h2, and_self, and_false, false_and, and_true, true_and]
      exact mQ_thr (by decide)
  · simp only [mIsIn, mDay, mHour, mMoment, Option.bind_some, ite01, ite01o, ite01p, ite00, ite10, jlt_eq, jup_s, le00, le10, le20, le30, if_true, if_false, Int.reduceLE, Int.reduceLT, mTerms _ hn.2.2.2.2.2.1, mBay _ hn.1, h1, false_and]
    exact mQ_thr (by decide)
