/-! LEVEL 2: the first moment at which a work may begin -/
def sFmF (M : Int → Int) (bay i : Int) (_ : Unit) : Int ⊕ Unit := if sMb M bay i = 0 then .inr () else .inl i
def sFm (M : Int → Int) (bay mo : Int) : Int := itx (sFmF M bay) (fun _ => -1) (2400 - mo).toNat mo ()
theorem sFm_spec {M : Int → Int} {bay : Int} : ∀ (d : Nat) (i : Int), (itx (sFmF M bay) (fun _ => -1) d i () = -1 ∧ ∀ k, i ≤ k → k < i + d → sMb M bay k = 0) ∨ (i ≤ itx (sFmF M bay) (fun _ => -1) d i () ∧ itx (sFmF M bay) (fun _ => -1) d i () < i + d ∧ sMb M bay (itx (sFmF M bay) (fun _ => -1) d i ()) = 1 ∧ ∀ k, i ≤ k → k < itx (sFmF M bay) (fun _ => -1) d i () → sMb M bay k = 0) := by
  intro d
  induction d with
  | zero => intro i; exact Or.inl ⟨rfl, fun k a b => by omega⟩
  | succ d ih =>
    intro i
    unfold itx
    rcases sMb_01 M bay i with h | h
    · have e : sFmF M bay i () = .inr () := if_pos h
      rw [e]
      dsimp only
      rcases ih (i + 1) with ⟨a, b⟩ | ⟨a, b, c, g⟩
      · refine Or.inl ⟨a, fun k h1 h2 => ?_⟩
        by_cases ek : k = i
        · rw [ek]; exact h
        · exact b k (by omega) (by omega)
      · refine Or.inr ⟨by omega, by omega, c, fun k h1 h2 => ?_⟩
        by_cases ek : k = i
        · rw [ek]; exact h
        · exact g k (by omega) h2
    · have e : sFmF M bay i () = .inl i := if_neg (by omega)
      rw [e]
      dsimp only
      exact Or.inr ⟨Int.le_refl _, by omega, h, fun k h1 h2 => by omega⟩
theorem sFm_s {M : Int → Int} {bay : Int} (mo : Int) : (sFm M bay mo = -1 ∧ ∀ k, mo ≤ k → k < 2400 → sMb M bay k = 0) ∨ (mo ≤ sFm M bay mo ∧ sFm M bay mo < 2400 ∧ sMb M bay (sFm M bay mo) = 1 ∧ ∀ k, mo ≤ k → k < sFm M bay mo → sMb M bay k = 0) := by
  by_cases h : mo ≤ 2400
  · have S := sFm_spec (M := M) (bay := bay) (2400 - mo).toNat mo
    rw [show mo + ((2400 - mo).toNat : Int) = 2400 by omega] at S
    exact S
  · refine Or.inl ⟨?_, fun k a b => by omega⟩
    unfold sFm
    rw [show (2400 - mo).toNat = 0 by omega]
    rfl
theorem sFm_skip {M : Int → Int} {bay mo to : Int} (h0 : 0 ≤ mo) (h1 : mo ≤ to) (h : ∀ k, mo ≤ k → k < to → k < 2400 → sMb M bay k = 0) : sFm M bay mo = sFm M bay to := by
  rcases sFm_s (M := M) (bay := bay) mo with ⟨a, b⟩ | ⟨a, b, c, d⟩
  · rcases sFm_s (M := M) (bay := bay) to with ⟨a', b'⟩ | ⟨a', b', c', d'⟩
    · rw [a, a']
    · have := b (sFm M bay to) (by omega) b'
      omega
  · have hge : to ≤ sFm M bay mo := by
      rcases Int.lt_or_le (sFm M bay mo) to with g | g
      · have := h (sFm M bay mo) a g b
        omega
      · exact g
    rcases sFm_s (M := M) (bay := bay) to with ⟨a', b'⟩ | ⟨a', b', c', d'⟩
    · have := b' (sFm M bay mo) hge b
      omega
    · rcases Int.lt_trichotomy (sFm M bay mo) (sFm M bay to) with g | g | g
      · have := d' (sFm M bay mo) hge g
        omega
      · exact g
      · have := d (sFm M bay to) (by omega) g
        omega
theorem sFm_free {M : Int → Int} {bay mo : Int} (h1 : mo < 2400) (h : sMb M bay mo = 1) : sFm M bay mo = mo := by
  rcases sFm_s (M := M) (bay := bay) mo with ⟨a, b⟩ | ⟨a, b, c, d⟩
  · have := b mo (Int.le_refl _) h1
    omega
  · rcases Int.lt_or_le mo (sFm M bay mo) with g | g
    · have := d mo (Int.le_refl _) g
      omega
    · omega
theorem sFm_late {M : Int → Int} {bay mo : Int} (h1 : 2400 ≤ mo) : sFm M bay mo = -1 := by
  unfold sFm
  rw [show (2400 - mo).toNat = 0 by omega]
  rfl
/-- how many jobs are dry at a moment -/
def sCn (M : Int → Int) (x : Int) : Int := itn (fun j s => if M (376 + 8 * j + 4) + sDry M j ≤ x then s + 1 else s) (M 8).toNat 0 0
theorem sCn_b {M : Int → Int} (h : 0 ≤ M 8) (x : Int) : 0 ≤ sCn M x ∧ sCn M x ≤ M 8 := by
  unfold sCn
  refine itn_inv (f := fun j s => if M (376 + 8 * j + 4) + sDry M j ≤ x then s + 1 else s) (fun i s => 0 ≤ s ∧ s ≤ i) (lo := 0) (n := M 8) (fun i s h0 h1 hP => ?_) (M 8).toNat 0 0 (Int.le_refl _) (by omega) ⟨Int.le_refl _, Int.le_refl _⟩
  show 0 ≤ (if M (376 + 8 * i + 4) + sDry M i ≤ x then s + 1 else s) ∧ (if M (376 + 8 * i + 4) + sDry M i ≤ x then s + 1 else s) ≤ i + 1
  split <;> omega
theorem sCn_lt {M : Int → Int} {x y j : Int} (hxy : x ≤ y) (h0 : 0 ≤ j) (h1 : j < M 8) (hx : x < M (376 + 8 * j + 4) + sDry M j) (hy : M (376 + 8 * j + 4) + sDry M j ≤ y) : sCn M x + 1 ≤ sCn M y := by
  unfold sCn
  have := itn_rel (f := fun j s => if M (376 + 8 * j + 4) + sDry M j ≤ x then s + 1 else s) (g := fun j s => if M (376 + 8 * j + 4) + sDry M j ≤ y then s + 1 else s) (fun i s t => s ≤ t ∧ (j < i → s + 1 ≤ t)) (lo := 0) (n := M 8) (fun i s t g0 g1 hP => by
    show (if M (376 + 8 * i + 4) + sDry M i ≤ x then s + 1 else s) ≤ (if M (376 + 8 * i + 4) + sDry M i ≤ y then t + 1 else t) ∧ (j < i + 1 → (if M (376 + 8 * i + 4) + sDry M i ≤ x then s + 1 else s) + 1 ≤ (if M (376 + 8 * i + 4) + sDry M i ≤ y then t + 1 else t))
    by_cases e : i = j
    · subst e
      rw [if_neg (by omega), if_pos hy]
      omega
    · by_cases a : M (376 + 8 * i + 4) + sDry M i ≤ x
      · rw [if_pos a, if_pos (by omega)]
        omega
      · rw [if_neg a]
        split <;> omega) (M 8).toNat 0 0 0 (Int.le_refl _) (by omega) ⟨Int.le_refl _, fun z => by omega⟩
  exact this.2 h1
theorem c_fmL {m : jMu} {M : Int → Int} (C : kC m 0 M) {bay : Int} (hD : ∀ j, 0 ≤ j → j < M 8 → M (376 + 8 * j) = bay → m 68 j = M (376 + 8 * j + 4) + sDry M j) : ∀ (d q : Nat) (v mo : Int), v + d = 41 → d < q → 0 ≤ v → 0 ≤ mo → v ≤ sCn M mo → f_X8_firstMoment_L5 q bay mo v m = some (sFm M bay mo) := by
  have hn := C.n
  intro d
  induction d with
  | zero =>
    intro q v mo h1 _ h3 h4 h5
    have := sCn_b (M := M) (by omega) mo
    omega
  | succ d ih =>
    intro q v mo h1 hq h3 h4 h5
    obtain ⟨q, rfl⟩ : ∃ t, q = t + 1 := ⟨q - 1, by omega⟩
    rw [f_X8_firstMoment_L5, if_neg (by omega)]
    by_cases g : 2400 ≤ mo
    · rw [if_pos g, sFm_late g]
    · rw [if_neg g, c_bl C hD, Option.bind_some]
      by_cases g2 : sBl M bay mo = -1
      · rw [if_pos g2, sFm_free (by omega) ((sMb_iff C h4).mpr g2)]
      · rw [if_neg g2]
        obtain ⟨j, j0, j1, jb, je⟩ := ((sBl_spec C bay mo).2).resolve_left g2
        have hb := sDry_b C j0 j1
        have hR := (C.1 7 (by decide)).2 j j0 j1
        unfold Bk at jb
        rw [jW_of (z := v + 1) (by omega) (by omega), je]
        have hc := sCn_lt (M := M) (x := mo) (y := M (376 + 8 * j + 4) + sDry M j) (by omega) j0 j1 jb.2.2 (Int.le_refl _)
        rw [ih q (v + 1) (M (376 + 8 * j + 4) + sDry M j) (by omega) (by omega) (by omega) (by omega) (by omega)]
        rw [sFm_skip h4 (show mo ≤ M (376 + 8 * j + 4) + sDry M j by omega) (fun k k0 k1 k2 => ?_)]
        rcases sMb_01 M bay k with z | z
        · exact z
        · have h0 := (sMb_iff C (bay := bay) (mo := k) (by omega)).mp z
          have h2 := (sBl_spec C bay k).1 j j0 j1 ⟨jb.1, by omega, k1⟩
          omega
theorem c_fm {m : jMu} {M : Int → Int} (C : kC m 0 M) {bay mo : Int} (hD : ∀ j, 0 ≤ j → j < M 8 → M (376 + 8 * j) = bay → m 68 j = M (376 + 8 * j + 4) + sDry M j) (h : 0 ≤ mo) : f_X8_firstMoment bay mo m = some (sFm M bay mo) :=
  c_fmL C hD 41 jFU 0 mo (by decide) (by unfold jFU; omega) (Int.le_refl _) h (sCn_b (by have := C.n; omega) mo).1
/-- the end of a work that begins when it may -/
def sGo (M : Int → Int) (t g b fr : Int) : Int := sEnd M t b g (sFm M b fr)
theorem sGo_b {M : Int → Int} {t g b fr : Int} (h : ¬ sGo M t g b fr = -1) : fr < sGo M t g b fr ∧ sGo M t g b fr ≤ 2400 := by
  have S := sEnd_b h
  have e : sGo M t g b fr = sEnd M t b g (sFm M b fr) := rfl
  rw [e]
  rcases sFm_s (M := M) (bay := b) fr with z | z
  · omega
  · omega
/-! the reference -/
/-- where the reference's array of open hours has what is so -/
def kOp (m : jMu) (M : Int → Int) (t : Int) : Prop := ∀ b k, 0 ≤ b → b < M 0 → 0 ≤ k → k < 2400 → m 79 (2400 * b + k) = if sWhy M t b k (sT M k) = 0 then 1 else 0
theorem m_j27 {m mm : jMu} (C : kC mm 0 (m 75)) {t bay g mo : Int} (O : kOp m (m 75) t) (hb : 0 ≤ bay ∧ bay < m 75 0) (hg : 0 ≤ g ∧ g < m 75 6) (hm : 0 ≤ mo) : f_X10_endFrom_J27 bay g mo m = some (sEnd (m 75) t bay g mo) := by
  have hn := C.n
  have N := sNeed_b C hb hg
  have S := (C.1 5 (by decide)).2 g hg.1 hg.2
  unfold f_X10_endFrom_J27 sEnd sEndL
  rw [if_neg (by omega), mOfBay hb.1 (by omega) (by decide) (by decide), Option.bind_some, jW_of (z := 348 + g) (by omega) (by omega), if_pos (by omega), if_pos (by omega), if_pos (by omega), N.2.2, jlt_eq]
  by_cases h1 : mo ≤ 2400
  · refine itx_loop (L := fun q i s => f_X10_endFrom_L59 q bay i s m) (sEnF (m 75) t bay) (fun _ => -1) (fun _ s => 1 ≤ s ∧ s ≤ 24) (lo := mo) (n := 2400) ?_ ?_ (2400 - mo).toNat jFU mo (sNeed (m 75) bay g) (Int.le_refl _) (by omega) (by unfold jFU; omega) ⟨N.1, N.2.1⟩
    · intro q i s g0 g1 hs
      show (∃ v, _ ∧ f_X10_endFrom_L59 (q + 1) bay i s m = some v) ∨ (∃ t', _ ∧ f_X10_endFrom_L59 (q + 1) bay i s m = _ ∧ _)
      rw [f_X10_endFrom_L59, if_neg (by omega), jW_of (z := 2400 * bay) (by omega) (by omega), jW_of (z := 2400 * bay + i) (by omega) (by omega), if_pos (by omega), O bay i hb.1 hb.2 (by omega) g1, jW_of (z := i + 1) (by omega) (by omega), jW_of (z := s - 0) (by omega) (by omega), jW_of (z := s - 1) (by omega) (by omega), ite01]
      unfold sEnF
      by_cases e : sWhy (m 75) t bay i (sT (m 75) i) = 0
      · rw [if_pos e, if_pos e]
        by_cases e2 : s ≤ 1
        · exact Or.inl ⟨i + 1, by rw [if_pos e2], by rw [if_pos (by omega)]⟩
        · exact Or.inr ⟨s - 1, by rw [if_neg e2], by rw [if_neg (by omega)], by omega⟩
      · rw [if_neg e, if_neg e]
        refine Or.inr ⟨s, rfl, ?_, hs⟩
        rw [if_neg (by omega), Int.sub_zero]
    · intro q s _
      show f_X10_endFrom_L59 (q + 1) bay 2400 s m = _
      rw [f_X10_endFrom_L59, if_pos (Int.le_refl _)]
  · rw [show (2400 - mo).toNat = 0 by omega]
    show f_X10_endFrom_L59 (99999 + 1) bay mo (sNeed (m 75) bay g) m = _
    rw [f_X10_endFrom_L59, if_pos (by omega)]
    rfl
theorem m_efL {m mm : jMu} (C : kC mm 0 (m 75)) {t bay g : Int} (O : kOp m (m 75) t) (hD : ∀ j, 0 ≤ j → j < m 75 8 → m 80 j = sDry (m 75) j) (hb : 0 ≤ bay ∧ bay < m 75 0) (hg : 0 ≤ g ∧ g < m 75 6) : ∀ (d q : Nat) (mo : Int), 0 ≤ mo → (2400 - mo).toNat ≤ d → d < q → f_X10_endFrom_L3 q bay g mo m = some (sGo (m 75) t g bay mo) := by
  intro d
  induction d with
  | zero =>
    intro q mo h0 h1 hq
    obtain ⟨q, rfl⟩ : ∃ t, q = t + 1 := ⟨q - 1, by omega⟩
    rw [f_X10_endFrom_L3, if_pos (by omega), m_j27 C O hb hg h0]
    unfold sGo
    rw [sFm_late (by omega)]
    unfold sEnd sEndL
    rw [if_neg (by omega), if_pos (by decide), show (2400 - mo).toNat = 0 by omega]
    rfl
  | succ d ih =>
    intro q mo h0 h1 hq
    obtain ⟨q, rfl⟩ : ∃ t, q = t + 1 := ⟨q - 1, by omega⟩
    by_cases g0 : 2400 ≤ mo
    · exact ih (q + 1) mo h0 (by omega) (by omega)
    · rw [f_X10_endFrom_L3, if_neg g0, m_mb C (by omega) hD, Option.bind_some]
      rcases sMb_01 (m 75) bay mo with z | z
      · rw [if_pos z, jW_of (by omega) (by omega), ih q (mo + 1) (by omega) (by omega) (by omega)]
        unfold sGo
        rw [sFm_skip h0 (show mo ≤ mo + 1 by omega) (fun k k0 k1 k2 => by rw [show k = mo by omega]; exact z)]
      · rw [if_neg (by omega), m_j27 C O hb hg h0]
        unfold sGo
        rw [sFm_free (by omega) z]
theorem m_ef {m mm : jMu} (C : kC mm 0 (m 75)) {t bay g mo : Int} (O : kOp m (m 75) t) (hD : ∀ j, 0 ≤ j → j < m 75 8 → m 80 j = sDry (m 75) j) (hb : 0 ≤ bay ∧ bay < m 75 0) (hg : 0 ≤ g ∧ g < m 75 6) (h0 : 0 ≤ mo) : f_X10_endFrom bay g mo m = some (sGo (m 75) t g bay mo) :=
  m_efL C O hD hb hg 2400 jFU mo h0 (by omega) (by unfold jFU; omega)
/-! the reference lays the open hours down -/
theorem m_layL {m mm : jMu} (C : kC mm 0 (m 75)) {t b : Int} (ht : 0 ≤ t ∧ t < m 75 5) (hb : 0 ≤ b ∧ b < m 75 0) : ∃ m', f_X10_lays_L18 jFU t b 0 m = some (t, b, m') ∧ fM m m' ∧ m' 74 0 = m 74 0 ∧ m' 80 = m 80 ∧ (∀ j, j < 2400 * b → m' 79 j = m 79 j) ∧ ∀ k, 0 ≤ k → k < 2400 → m' 79 (2400 * b + k) = if sWhy (m 75) t b k (sT (m 75) k) = 0 then 1 else 0 := by
  have hn := C.n
  obtain ⟨m', a, e⟩ := itz_loop (L := fun q i (_ : Unit) m => f_X10_lays_L18 q t b i m) (fun _ s => s) (fun _ m => (t, b, m)) (fun i _ m' => fM m m' ∧ m' 74 0 = m 74 0 ∧ m' 80 = m 80 ∧ (∀ j, j < 2400 * b → m' 79 j = m 79 j) ∧ ∀ k, 0 ≤ k → k < i → m' 79 (2400 * b + k) = if sWhy (m 75) t b k (sT (m 75) k) = 0 then 1 else 0) (lo := 0) (n := 2400) (by
    intro q i s m1 g0 g1 hI
    obtain ⟨i1, i2, i3, i4, i5⟩ := hI
    have e75 : m1 75 = m 75 := i1.1 75 (by decide) (by decide)
    have C1 : kC mm 0 (m1 75) := by rw [e75]; exact C
    obtain ⟨m2, e1, f2, _, y2, z2⟩ := m_why C1 (t := t) (bay := b) (mo := i) (by rw [e75]; exact ht) (by rw [e75]; exact hb) (by omega)
    rw [e75] at e1
    have q79 : m2 79 = m1 79 := by rw [y2 79 (by decide)]; rfl
    have q80 : m2 80 = m1 80 := by rw [y2 80 (by decide)]; rfl
    have K : ∀ v : Int, v = (if sWhy (m 75) t b i (sT (m 75) i) = 0 then 1 else 0) → (fM m (jup m2 79 (2400 * b + i) v) ∧ jup m2 79 (2400 * b + i) v 74 0 = m 74 0 ∧ jup m2 79 (2400 * b + i) v 80 = m 80 ∧ (∀ j, j < 2400 * b → jup m2 79 (2400 * b + i) v 79 j = m 79 j) ∧ ∀ k, 0 ≤ k → k < i + 1 → jup m2 79 (2400 * b + i) v 79 (2400 * b + k) = if sWhy (m 75) t b k (sT (m 75) k) = 0 then 1 else 0) := by
      intro v hv
      refine ⟨(i1.tr f2).tr ⟨fun c _ h2 => jup_c (by omega), by rw [jup_c (by decide)], by rw [jup_c (by decide)], by rw [jup_c (by decide)], pE_cg (by rw [jup_c (by decide)]) (by rw [jup_c (by decide)]) (by rw [jup_c (by decide)]) (jup_c (by decide))⟩, by rw [jup_c (by decide), z2, i2], by rw [jup_c (by decide), q80, i3], fun j hj => by rw [jup_j (by omega), q79]; exact i4 j hj, fun k k0 k1 => ?_⟩
      by_cases e : k = i
      · rw [e, jup_s, hv]
      · rw [jup_j (by omega), q79]
        exact i5 k k0 (by omega)
    by_cases g : sWhy (m 75) t b i (sT (m 75) i) = 0
    · refine ⟨_, K 1 (by rw [if_pos g]), ?_⟩
      show f_X10_lays_L18 (q + 1) t b i m1 = _
      rw [f_X10_lays_L18, if_neg (by omega), e1, Option.bind_some, jW_of (z := 2400 * b) (by omega) (by omega), jW_of (z := 2400 * b + i) (by omega) (by omega), if_pos g, if_pos (by omega), jlt_eq, jW_of (z := i + 1) (by omega) (by omega)]
    · refine ⟨_, K 0 (by rw [if_neg g]), ?_⟩
      show f_X10_lays_L18 (q + 1) t b i m1 = _
      rw [f_X10_lays_L18, if_neg (by omega), e1, Option.bind_some, jW_of (z := 2400 * b) (by omega) (by omega), jW_of (z := 2400 * b + i) (by omega) (by omega), if_neg g, if_pos (by omega), jlt_eq, jW_of (z := i + 1) (by omega) (by omega)]) (by
    intro q s m1 _
    show f_X10_lays_L18 (q + 1) t b 2400 m1 = _
    rw [f_X10_lays_L18, if_pos (Int.le_refl _)]) 2400 jFU 0 () m (Int.le_refl _) (by decide) (by unfold jFU; omega) ⟨fM.rf m, rfl, rfl, fun _ _ => rfl, fun k a b => by omega⟩
  exact ⟨m', e, a.1, a.2.1, a.2.2.1, a.2.2.2.1, a.2.2.2.2⟩
theorem m_lays {m mm : jMu} (C : kC mm 0 (m 75)) {t : Int} (ht : 0 ≤ t ∧ t < m 75 5) : ∃ m', f_X10_lays t m = some m' ∧ fM m m' ∧ m' 74 0 = m 74 0 ∧ (∀ j, 0 ≤ j → j < m 75 8 → m' 80 j = sDry (m 75) j) ∧ kOp m' (m 75) t := by
  have hn := C.n
  obtain ⟨m1, e1, f1, z1, d1⟩ := m_dryL C
  have q75 : m1 75 = m 75 := f1.1 75 (by decide) (by decide)
  obtain ⟨m', a, e⟩ := itz_loop (L := fun q i (_ : Unit) m => f_X10_lays_L6 q t i m) (fun _ s => s) (fun _ m => m) (fun i _ m' => fM m m' ∧ m' 74 0 = m 74 0 ∧ m' 80 = m1 80 ∧ ∀ b k, 0 ≤ b → b < i → 0 ≤ k → k < 2400 → m' 79 (2400 * b + k) = if sWhy (m 75) t b k (sT (m 75) k) = 0 then 1 else 0) (lo := 0) (n := m 75 0) (by
    intro q i s m2 g0 g1 hI
    obtain ⟨i1, i2, i3, i4⟩ := hI
    have e75 : m2 75 = m 75 := i1.1 75 (by decide) (by decide)
    have C2 : kC mm 0 (m2 75) := by rw [e75]; exact C
    obtain ⟨m3, x1, x2, x3, x4, x5, x6⟩ := m_layL C2 (t := t) (b := i) (by rw [e75]; exact ht) (by rw [e75]; exact ⟨g0, g1⟩)
    rw [e75] at x6
    refine ⟨m3, ⟨i1.tr x2, x3.trans i2, x4.trans i3, fun b k b0 b1 k0 k1 => ?_⟩, ?_⟩
    · by_cases e : b = i
      · rw [e]; exact x6 k k0 k1
      · rw [x5 _ (by omega)]
        exact i4 b k b0 (by omega) k0 k1
    · show f_X10_lays_L6 (q + 1) t i m2 = _
      rw [f_X10_lays_L6, e75, if_neg (by omega), x1, Option.bind_some]
      show f_X10_lays_L6 q t (jW (i + 1)) m3 = _
      rw [jW_of (by omega) (by omega)]) (by
    intro q s m2 hI
    have e75 : m2 75 = m 75 := hI.1.1 75 (by decide) (by decide)
    show f_X10_lays_L6 (q + 1) t (m 75 0) m2 = _
    rw [f_X10_lays_L6, e75, if_pos (Int.le_refl _)]) (m 75 0).toNat jFU 0 () m1 (Int.le_refl _) (by omega) (by unfold jFU; omega) ⟨f1, z1, rfl, fun b k b0 b1 => by omega⟩
  refine ⟨m', ?_, a.1, a.2.1, fun j j0 j1 => by rw [a.2.2.1]; exact d1 j j0 j1, fun b k b0 b1 k0 k1 => a.2.2.2 b k b0 b1 k0 k1⟩
  unfold f_X10_lays
  rw [e1, Option.bind_some]
  exact e
