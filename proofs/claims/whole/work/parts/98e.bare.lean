/-! LEVEL 2: days on which a bay is bare -/
theorem itr_run {σ β : Type} {L : Nat → Int → σ → jMu → Option β} (f : Int → σ → σ) (I : Int → σ → jMu → Prop) {lo n : Int}
    (hs : ∀ q i s m, lo ≤ i → i < n → I i s m → ∃ m', I (i + 1) (f i s) m' ∧ L (q + 1) i s m = L q (i + 1) (f i s) m') : ∀ (d q : Nat) (i : Int) (s : σ) (m : jMu), lo ≤ i → i + d = n → d < q → I i s m → ∃ m' q', I n (itn f d i s) m' ∧ q' + 1 + d = q ∧ L q i s m = L (q' + 1) n (itn f d i s) m' := by
  intro d
  induction d with
  | zero =>
    intro q i s m h0 h1 h2 hI
    obtain ⟨q, rfl⟩ : ∃ p, q = p + 1 := ⟨q - 1, by omega⟩
    have : i = n := by omega
    subst this
    exact ⟨m, q, hI, by omega, rfl⟩
  | succ d ih =>
    intro q i s m h0 h1 h2 hI
    obtain ⟨q, rfl⟩ : ∃ p, q = p + 1 := ⟨q - 1, by omega⟩
    obtain ⟨m', a, c⟩ := hs q i s m h0 (by omega) hI
    obtain ⟨m2, q', g1, g2, g3⟩ := ih q (i + 1) (f i s) m' (by omega) (by omega) (by omega) a
    refine ⟨m2, q', g1, by omega, ?_⟩
    rw [c]
    exact g3
def sFr (M : Int → Int) (j : Int) : Int := (M (376 + 8 * j + 4) - 1) / 12
def sHol (M : Int → Int) (j : Int) : Int := xLast (sEn M (M (376 + 8 * j)) (M (376 + 8 * j + 3)) (sT M (M (376 + 8 * j + 3)))) 102 30 (xTx M (M (376 + 8 * j + 7)).toNat)
def sTo (M : Int → Int) (known j : Int) : Int := if M (376 + 8 * j + 6) ≠ -1 ∧ M (376 + 8 * j + 6) ≤ known ∧ M (376 + 8 * j + 6) - 1 < sFr M j + sHol M j then M (376 + 8 * j + 6) - 1 else sFr M j + sHol M j
def sBaF (M : Int → Int) (bay known j : Int) (a : Int → Int) : Int → Int := fun d => if M (376 + 8 * j) = bay ∧ M (376 + 8 * j + 5) ≤ known ∧ sFr M j ≤ d ∧ d ≤ sTo M known j then 0 else a d
def sBare (M : Int → Int) (bay known : Int) : Int → Int := itn (sBaF M bay known) (M 8).toNat 0 (fun _ => 1)
theorem sBare_01 {M : Int → Int} {bay known : Int} (h : 0 ≤ M 8) (d : Int) : sBare M bay known d = 0 ∨ sBare M bay known d = 1 := by
  unfold sBare
  refine itn_inv (f := sBaF M bay known) (fun _ a => a d = 0 ∨ a d = 1) (lo := 0) (n := M 8) (fun i a _ _ hP => ?_) (M 8).toNat 0 (fun _ => 1) (by omega) (by omega) (Or.inr rfl)
  unfold sBaF
  split
  · exact Or.inl rfl
  · exact hP
theorem sHol_b {m : jMu} {M : Int → Int} (C : kC m 0 M) {j : Int} (h0 : 0 ≤ j) (h1 : j < M 8) : 0 ≤ sHol M j ∧ sHol M j < 100 := by
  have hR := (C.1 7 (by decide)).2 j h0 h1
  exact nTx C hR.2.2.2.2.2.2.1 hR.2.2.2.2.2.2.2 ⟨by decide, by decide⟩
theorem sFr_b {m : jMu} {M : Int → Int} (C : kC m 0 M) {j : Int} (h0 : 0 ≤ j) (h1 : j < M 8) : 0 ≤ sFr M j ∧ sFr M j ≤ 199 ∧ jDv (jW (M (376 + 8 * j + 4) - 1)) 12 = sFr M j := by
  have hR := (C.1 7 (by decide)).2 j h0 h1
  unfold sFr
  refine ⟨by omega, by omega, ?_⟩
  rw [jW_of (by omega) (by omega), xdv (by omega) (by omega) (by decide)]
/-- days of a span, so many at most -/
theorem xspan (F T k : Int) (h : F ≤ k) : ∃ N, F ≤ N ∧ N ≤ k + 1 ∧ (∀ i, F ≤ i → i < N → i ≤ T ∧ i ≤ k) ∧ (T < N ∨ N = k + 1) ∧ ∀ d, d ≤ k → ((F ≤ d ∧ d ≤ T) ↔ (F ≤ d ∧ d < N)) := by
  by_cases h1 : T < F
  · exact ⟨F, Int.le_refl _, by omega, fun i a b => by omega, Or.inl h1, fun d _ => by omega⟩
  · by_cases h2 : T < k
    · exact ⟨T + 1, by omega, by omega, fun i a b => by omega, Or.inl (by omega), fun d _ => by omega⟩
    · exact ⟨k + 1, by omega, Int.le_refl _, fun i a b => by omega, Or.inr rfl, fun d _ => by omega⟩
theorem c_heldL {m : jMu} {F T : Int} (h0 : 0 ≤ F) (h1 : F ≤ 199) : ∃ m', f_X0_markHeld_L106 jFU T F m = some m' ∧ (∀ c, c ≠ 71 → m' c = m c) ∧ ∀ d, 0 ≤ d → d ≤ 200 → m' 71 d = if F ≤ d ∧ d ≤ T then 0 else m 71 d := by
  obtain ⟨N, n1, n2, n3, n4, n5⟩ := xspan F T 200 (by omega)
  obtain ⟨m', a, b⟩ := itz_loop (L := fun q i (_ : Unit) m => f_X0_markHeld_L106 q T i m) (fun _ s => s) (fun _ m => m) (fun i _ m' => (∀ c, c ≠ 71 → m' c = m c) ∧ ∀ d, m' 71 d = if F ≤ d ∧ d < i then 0 else m 71 d) (lo := F) (n := N) (by
    intro q i s m1 g0 g1 hI
    have := n3 i g0 g1
    refine ⟨jup m1 71 i 0, ⟨fun c hc => by rw [jup_c hc, hI.1 c hc], fun d => ?_⟩, ?_⟩
    · by_cases e : d = i
      · rw [e, jup_s, if_pos (by omega)]
      · rw [jup_j e, hI.2 d]
        by_cases g : F ≤ d ∧ d < i
        · rw [if_pos g, if_pos (by omega)]
        · rw [if_neg g, if_neg (by omega)]
    · show f_X0_markHeld_L106 (q + 1) T i m1 = _
      rw [f_X0_markHeld_L106, if_neg (by omega), if_neg (by omega), if_pos (by omega), jlt_eq, jW_of (by omega) (by omega)]) (by
    intro q s m1 _
    show f_X0_markHeld_L106 (q + 1) T N m1 = _
    rw [f_X0_markHeld_L106]
    by_cases g : T < N
    · rw [if_pos g]
    · rw [if_neg g, if_pos (by omega)]) (N - F).toNat jFU F () m (Int.le_refl _) (by omega) (by unfold jFU; omega) ⟨fun _ _ => rfl, fun d => by rw [if_neg (by omega)]⟩
  refine ⟨m', b, a.1, fun d d0 d1 => ?_⟩
  rw [a.2 d]
  have := n5 d d1
  by_cases g : F ≤ d ∧ d < N
  · rw [if_pos g, if_pos (this.mpr g)]
  · rw [if_neg g, if_neg (fun z => g (this.mp z))]
theorem c_held {m : jMu} {M : Int → Int} (C : kC m 0 M) {known j : Int} (h0 : 0 ≤ j) (h1 : j < M 8) : ∃ m', f_X0_markHeld (M (376 + 8 * j)) j known m = some m' ∧ (∀ c, c ≠ 32 → c ≠ 71 → m' c = m c) ∧ ∀ d, 0 ≤ d → d ≤ 200 → m' 71 d = if sFr M j ≤ d ∧ d ≤ sTo M known j then 0 else m 71 d := by
  have hR := (C.1 7 (by decide)).2 j h0 h1
  have hF := sFr_b C h0 h1
  have hH := sHol_b C h0 h1
  obtain ⟨m2, e1, P, f2⟩ := c_stand C (bay := M (376 + 8 * j)) (mo := M (376 + 8 * j + 3)) hR.1 (by omega)
  have C2 := cl_C C f2
  have W : f_X1_holdHere (M (376 + 8 * j + 7)) m2 = some (sHol M j) := c_holds C2 P (t := M (376 + 8 * j + 7)) hR.2.2.2.2.2.2 hR.1 (by omega) (sTr_01 _ _ _)
  have K : ∀ T, ∃ m', f_X0_markHeld_L106 jFU T (sFr M j) m2 = some m' ∧ (∀ c, c ≠ 32 → c ≠ 71 → m' c = m c) ∧ ∀ d, 0 ≤ d → d ≤ 200 → m' 71 d = if sFr M j ≤ d ∧ d ≤ T then 0 else m 71 d := by
    intro T
    obtain ⟨m', a, b, c⟩ := c_heldL (m := m2) (T := T) hF.1 hF.2.1
    exact ⟨m', a, fun c h1 h2 => (b c h2).trans (f2 c h1), fun d d0 d1 => by rw [c d d0 d1, f2 71 (by decide)]⟩
  unfold f_X0_markHeld
  rw [cg_job C h0 h1 (c := 3) (by decide) (by decide), Option.bind_some, e1, Option.bind_some, cg_job C2 h0 h1 (c := 4) (by decide) (by decide), Option.bind_some, cg_job C2 h0 h1 (c := 7) (by decide) (by decide), Option.bind_some, W, Option.bind_some, cPeeled C2 h0 h1, Option.bind_some, ite01, cg_job C2 h0 h1 (c := 6) (by decide) (by decide), Option.bind_some, hF.2.2, jW_of (z := sFr M j + sHol M j) (by omega) (by omega), if_neg (show ¬ sFr M j < 0 by omega)]
  simp only [jlt_eq]
  by_cases g : M (376 + 8 * j + 6) ≠ -1 ∧ M (376 + 8 * j + 6) ≤ known
  · rw [if_pos g, jW_of (z := M (376 + 8 * j + 6) - 1) (by omega) (by omega)]
    by_cases g2 : M (376 + 8 * j + 6) - 1 < sFr M j + sHol M j
    · have e : sTo M known j = M (376 + 8 * j + 6) - 1 := if_pos ⟨g.1, g.2, g2⟩
      rw [if_pos g2, e]
      exact K _
    · have e : sTo M known j = sFr M j + sHol M j := if_neg (fun z => g2 z.2.2)
      rw [if_neg g2, e]
      exact K _
  · have e : sTo M known j = sFr M j + sHol M j := if_neg (fun z => g ⟨z.1, z.2.1⟩)
    rw [if_neg g, e]
    exact K _
/-! so many ahead of a day -/
def sSm (B : Int → Int) (d : Int) : Int := itn (fun k s => s + B k) d.toNat 0 0
theorem sSm_s {B : Int → Int} {d : Int} (h : 0 ≤ d) : sSm B (d + 1) = sSm B d + B d := by
  unfold sSm
  rw [show (d + 1).toNat = d.toNat + 1 by omega, itn_snoc, show (0 : Int) + (d.toNat : Int) = d by omega]
theorem sSm_0 {B : Int → Int} : sSm B 0 = 0 := rfl
theorem sSm_b {B : Int → Int} (h : ∀ d, B d = 0 ∨ B d = 1) : ∀ d : Nat, 0 ≤ sSm B (d : Int) ∧ sSm B (d : Int) ≤ d := by
  intro d
  induction d with
  | zero => exact ⟨Int.le_refl 0, Int.le_refl 0⟩
  | succ d ih =>
    have e := sSm_s (B := B) (d := (d : Int)) (by omega)
    have := h (d : Int)
    rw [show (((d + 1 : Nat)) : Int) = (d : Int) + 1 by omega, e]
    omega
theorem sSm_add {B : Int → Int} : ∀ (d : Nat) (i s : Int), 0 ≤ i → itn (fun k s => s + B k) d i s = s + (sSm B (i + d) - sSm B i) := by
  intro d
  induction d with
  | zero =>
    intro i s _
    show s = s + (sSm B (i + ((0 : Nat) : Int)) - sSm B i)
    rw [Int.natCast_zero, Int.add_zero]
    omega
  | succ d ih =>
    intro i s hi
    rw [itn_snoc, ih i s hi, show i + ((d + 1 : Nat) : Int) = i + d + 1 by omega, sSm_s (by omega)]
    show s + (sSm B (i + d) - sSm B i) + B (i + d) = _
    omega
theorem sSm_mono {B : Int → Int} (h : ∀ d, B d = 0 ∨ B d = 1) : ∀ (d : Nat) (i : Int), 0 ≤ i → sSm B i ≤ sSm B (i + d) ∧ sSm B (i + d) ≤ sSm B i + d := by
  intro d
  induction d with
  | zero => intro i _; rw [Int.natCast_zero, Int.add_zero]; omega
  | succ d ih =>
    intro i hi
    have := ih i hi
    have e := sSm_s (B := B) (d := i + d) (by omega)
    have := h (i + d)
    rw [show i + ((d + 1 : Nat) : Int) = i + d + 1 by omega, e]
    omega
theorem c_bareP {m : jMu} {B : Int → Int} (hB : ∀ d, B d = 0 ∨ B d = 1) (h : ∀ d, 0 ≤ d → d ≤ 200 → m 71 d = B d) : ∃ m', f_X0_measureBare_L70 jFU 0 0 m = some m' ∧ (∀ c, c ≠ 71 → m' c = m c) ∧ ∀ d, 0 ≤ d → d ≤ 200 → m' 71 d = sSm B d := by
  obtain ⟨m', a, b⟩ := itz_loop (L := fun q i s m => f_X0_measureBare_L70 q s i m) (fun k s => s + B k) (fun _ m => m) (fun i s m' => s = sSm B i ∧ (∀ c, c ≠ 71 → m' c = m c) ∧ (∀ d, 0 ≤ d → d < i → m' 71 d = sSm B d) ∧ ∀ d, i ≤ d → d ≤ 200 → m' 71 d = B d) (lo := 0) (n := 201) (by
    intro q i s m1 g0 g1 hI
    obtain ⟨i1, i2, i3, i4⟩ := hI
    have sb := sSm_b hB i.toNat
    rw [show (i.toNat : Int) = i by omega] at sb
    have := hB i
    refine ⟨jup m1 71 i s, ⟨by rw [sSm_s g0, i1], fun c hc => by rw [jup_c hc, i2 c hc], fun d d0 d1 => ?_, fun d d0 d1 => ?_⟩, ?_⟩
    · by_cases e : d = i
      · rw [e, jup_s, i1]
      · rw [jup_j e]; exact i3 d d0 (by omega)
    · rw [jup_j (by omega)]; exact i4 d (by omega) d1
    · show f_X0_measureBare_L70 (q + 1) s i m1 = _
      rw [f_X0_measureBare_L70, if_neg (by omega), if_pos (by omega), if_pos (by omega), jlt_eq, i4 i (by omega) (by omega), jW_of (z := i + 1) (by omega) (by omega), jW_of (z := s + B i) (by omega) (by omega)]) (by
    intro q s m1 _
    show f_X0_measureBare_L70 (q + 1) s 201 m1 = _
    rw [f_X0_measureBare_L70, if_pos (Int.le_refl _)]) 201 jFU 0 0 m (Int.le_refl _) (by decide) (by unfold jFU; omega) ⟨rfl, fun _ _ => rfl, fun d d0 d1 => by omega, fun d d0 d1 => h d (by omega) d1⟩
  exact ⟨m', b, a.2.1, fun d d0 d1 => a.2.2.1 d d0 (by omega)⟩
theorem c_bare {m : jMu} {M : Int → Int} (C : kC m 0 M) (bay known : Int) : ∃ m', f_X0_measureBare bay known m = some m' ∧ (∀ c, c ≠ 32 → c ≠ 71 → m' c = m c) ∧ ∀ d, 0 ≤ d → d ≤ 200 → m' 71 d = sSm (sBare M bay known) d := by
  have hn := C.n
  obtain ⟨m1, e1, f1, z1⟩ := c_fill (m := m) (a := 71) (w := 201) (v := 1) (by decide)
  obtain ⟨m2, q2, I2, _, e2⟩ := itr_run (L := fun q i (_ : Int → Int) m => f_X0_measureBare_L10 q bay known i m) (sBaF M bay known) (fun _ a m' => (∀ c, c ≠ 32 → c ≠ 71 → m' c = m c) ∧ ∀ d, 0 ≤ d → d ≤ 200 → m' 71 d = a d) (lo := 0) (n := M 8) (by
    intro q i a m3 g0 g1 hI
    have C3 : kC m3 0 M := kC_frame C (fun c _ h2 => hI.1 c (by omega) (by omega)) (fun _ _ _ => rfl)
    have hz := C3.z
    have j0 := cg_job C3 g0 g1 (c := 0) (by decide) (by decide)
    rw [Int.add_zero] at j0
    have ej : jW (i + 1) = i + 1 := jW_of (by omega) (by omega)
    by_cases hb : M (376 + 8 * i) = bay
    · by_cases hk : M (376 + 8 * i + 5) ≤ known
      · obtain ⟨m4, e4, f4, d4⟩ := c_held C3 (known := known) g0 g1
        rw [hb] at e4
        refine ⟨m4, ⟨fun c h1 h2 => (f4 c h1 h2).trans (hI.1 c h1 h2), fun d d0 d1 => ?_⟩, ?_⟩
        · rw [d4 d d0 d1, hI.2 d d0 d1]
          unfold sBaF
          by_cases g : sFr M i ≤ d ∧ d ≤ sTo M known i
          · rw [if_pos g, if_pos ⟨hb, hk, g⟩]
          · rw [if_neg g, if_neg (fun z => g z.2.2)]
        · show f_X0_measureBare_L10 (q + 1) bay known i m3 = _
          rw [f_X0_measureBare_L10]
          unfold f_X5_size
          rw [hz.2.2.2.2.2.2.2.2.1, Option.bind_some, if_neg (by omega), j0, Option.bind_some, if_pos hb, cKnown C3 g0 g1, Option.bind_some, ite01, if_pos hk, e4, Option.bind_some, ej]
      · refine ⟨m3, ⟨hI.1, fun d d0 d1 => ?_⟩, ?_⟩
        · rw [hI.2 d d0 d1]
          unfold sBaF
          rw [if_neg (fun z => hk z.2.1)]
        · show f_X0_measureBare_L10 (q + 1) bay known i m3 = _
          rw [f_X0_measureBare_L10]
          unfold f_X5_size
          rw [hz.2.2.2.2.2.2.2.2.1, Option.bind_some, if_neg (by omega), j0, Option.bind_some, if_pos hb, cKnown C3 g0 g1, Option.bind_some, ite01, if_neg hk, ej]
    · refine ⟨m3, ⟨hI.1, fun d d0 d1 => ?_⟩, ?_⟩
      · rw [hI.2 d d0 d1]
        unfold sBaF
        rw [if_neg (fun z => hb z.1)]
      · show f_X0_measureBare_L10 (q + 1) bay known i m3 = _
        rw [f_X0_measureBare_L10]
        unfold f_X5_size
        rw [hz.2.2.2.2.2.2.2.2.1, Option.bind_some, if_neg (by omega), j0, Option.bind_some, if_neg hb, ej]) (M 8).toNat jFU 0 (fun _ => 1) m1 (Int.le_refl _) (by omega) (by unfold jFU; omega) ⟨fun c _ h2 => f1 c h2, fun d d0 d1 => z1 d d0 (by omega)⟩
  obtain ⟨m3, e3, f3, d3⟩ := c_bareP (m := m2) (B := sBare M bay known) (sBare_01 (by omega)) I2.2
  have C2 : kC m2 0 M := kC_frame C (fun c _ h2 => I2.1 c (by omega) (by omega)) (fun _ _ _ => rfl)
  have hz := C2.z
  refine ⟨m3, ?_, fun c h1 h2 => (f3 c h2).trans (I2.1 c h1 h2), d3⟩
  unfold f_X0_measureBare
  rw [e1, Option.bind_some, show f_X0_measureBare_L10 jFU bay known 0 m1 = f_X0_measureBare_L10 (q2 + 1) bay known (M 8) m2 from e2, f_X0_measureBare_L10]
  unfold f_X5_size
  rw [hz.2.2.2.2.2.2.2.2.1, Option.bind_some, if_pos (Int.le_refl _)]
  exact e3
theorem m_heldL {m : jMu} {v1 v2 v3 F T : Int} (h0 : 0 ≤ F) (h1 : F ≤ 199) : ∃ m', f_X10_bares_L141 jFU v1 v2 v3 T F m = some (v1, v2, v3, m') ∧ (∀ c, c ≠ 81 → m' c = m c) ∧ ∀ d, 0 ≤ d → d < 200 → m' 81 d = if F ≤ d ∧ d ≤ T then 0 else m 81 d := by
  obtain ⟨N, n1, n2, n3, n4, n5⟩ := xspan F T 199 (by omega)
  obtain ⟨m', a, b⟩ := itz_loop (L := fun q i (_ : Unit) m => f_X10_bares_L141 q v1 v2 v3 T i m) (fun _ s => s) (fun _ m => (v1, v2, v3, m)) (fun i _ m' => (∀ c, c ≠ 81 → m' c = m c) ∧ ∀ d, m' 81 d = if F ≤ d ∧ d < i then 0 else m 81 d) (lo := F) (n := N) (by
    intro q i s m1 g0 g1 hI
    have := n3 i g0 g1
    refine ⟨jup m1 81 i 0, ⟨fun c hc => by rw [jup_c hc, hI.1 c hc], fun d => ?_⟩, ?_⟩
    · by_cases e : d = i
      · rw [e, jup_s, if_pos (by omega)]
      · rw [jup_j e, hI.2 d]
        by_cases g : F ≤ d ∧ d < i
        · rw [if_pos g, if_pos (by omega)]
        · rw [if_neg g, if_neg (by omega)]
    · show f_X10_bares_L141 (q + 1) v1 v2 v3 T i m1 = _
      rw [f_X10_bares_L141, if_neg (by omega), if_neg (by omega), if_pos (by omega), jlt_eq, jW_of (by omega) (by omega)]) (by
    intro q s m1 _
    show f_X10_bares_L141 (q + 1) v1 v2 v3 T N m1 = _
    rw [f_X10_bares_L141]
    by_cases g : T < N
    · rw [if_pos g]
    · rw [if_neg g, if_pos (by omega)]) (N - F).toNat jFU F () m (Int.le_refl _) (by omega) (by unfold jFU; omega) ⟨fun _ _ => rfl, fun d => by rw [if_neg (by omega)]⟩
  refine ⟨m', b, a.1, fun d d0 d1 => ?_⟩
  rw [a.2 d]
  have := n5 d (by omega)
  by_cases g : F ≤ d ∧ d < N
  · rw [if_pos g, if_pos (this.mpr g)]
  · rw [if_neg g, if_neg (fun z => g (this.mp z))]
theorem m_bare {m mm : jMu} (C : kC mm 0 (m 75)) (bay known : Int) (hb : 0 ≤ bay ∧ bay < m 75 0) : ∃ m', f_X10_bares bay known m = some m' ∧ fM m m' ∧ m' 74 0 = m 74 0 ∧ ∀ d, 0 ≤ d → d < 200 → m' 81 d = sBare (m 75) bay known d := by
  have hn := C.n
  obtain ⟨m1, q1, I1, x1, e1⟩ := itr_run (L := fun q i (_ : Unit) m => f_X10_bares_L2 q bay known i m) (fun _ s => s) (fun i _ m' => (∀ c, c ≠ 81 → m' c = m c) ∧ ∀ d, 0 ≤ d → d < i → m' 81 d = 1) (lo := 0) (n := 200) (by
    intro q i s m3 g0 g1 hI
    refine ⟨jup m3 81 i 1, ⟨fun c hc => by rw [jup_c hc, hI.1 c hc], fun d d0 d1 => ?_⟩, ?_⟩
    · by_cases e : d = i
      · rw [e, jup_s]
      · rw [jup_j e]; exact hI.2 d d0 (by omega)
    · show f_X10_bares_L2 (q + 1) bay known i m3 = _
      rw [f_X10_bares_L2, if_neg (by omega), if_pos (by omega), jlt_eq, jW_of (by omega) (by omega)]) 200 jFU 0 () m (Int.le_refl _) (by decide) (by unfold jFU; omega) ⟨fun _ _ => rfl, fun d d0 d1 => by omega⟩
  have f1 : fM m m1 := ⟨fun c h1 h2 => I1.1 c (by omega), by rw [I1.1 74 (by decide)], by rw [I1.1 74 (by decide)], by rw [I1.1 74 (by decide)], pE_cg (by rw [I1.1 74 (by decide)]) (by rw [I1.1 74 (by decide)]) (by rw [I1.1 74 (by decide)]) (I1.1 78 (by decide))⟩
  obtain ⟨m2, I2, e2⟩ := itz_loop (L := fun q i (_ : Int → Int) m => f_X10_bares_L24 q bay known i m) (sBaF (m 75) bay known) (fun _ m => m) (fun _ a m' => fM m m' ∧ m' 74 0 = m 74 0 ∧ ∀ d, 0 ≤ d → d < 200 → m' 81 d = a d) (lo := 0) (n := m 75 8) (by
    intro q i a m3 g0 g1 hI
    have e75 : m3 75 = m 75 := hI.1.1 75 (by decide) (by decide)
    have C3 : kC mm 0 (m3 75) := by rw [e75]; exact C
    have hR := (C.1 7 (by decide)).2 i g0 g1
    have hF := sFr_b C g0 g1
    have hH := sHol_b C g0 g1
    have o0 := mOfJob (m := m3) (j := i) (c := 0) g0 (by omega) (by decide) (by decide)
    have o3 := mOfJob (m := m3) (j := i) (c := 3) g0 (by omega) (by decide) (by decide)
    rw [e75] at o0 o3
    rw [Int.add_zero] at o0
    have kn := mKnown (m := m3) (j := i) (known := known) g0 (by omega)
    rw [e75] at kn
    have ej : jW (i + 1) = i + 1 := jW_of (by omega) (by omega)
    by_cases hb2 : m 75 (376 + 8 * i) = bay
    · by_cases hk : m 75 (376 + 8 * i + 5) ≤ known
      · have s1 := m_stands C3 (bay := bay) (mo := m 75 (376 + 8 * i + 3)) (by rw [e75]; exact hb) (by omega)
        obtain ⟨m4, w1, w2, w3, w4, w5⟩ := m_asksE C3 (t := m 75 (376 + 8 * i + 7)) (bay := bay) (mo := m 75 (376 + 8 * i + 3)) (tr := sTr (m3 75) (m 75 (376 + 8 * i + 3) / 12) (m 75 (376 + 8 * i + 3) % 12)) (by rw [e75]; exact hR.2.2.2.2.2.2) (by rw [e75]; exact hb) (by omega) (sTr_01 _ _ _)
        have h17 : m4 74 17 = sHol (m 75) i := by
          rw [w3.2.2.2.2.2.1, e75]
          unfold sHol
          rw [hb2]
          rfl
        have q75 : m4 75 = m 75 := (w2.1 75 (by decide) (by decide)).trans e75
        have o4 := mOfJob (m := m4) (j := i) (c := 4) g0 (by omega) (by decide) (by decide)
        have o6 := mOfJob (m := m4) (j := i) (c := 6) g0 (by omega) (by decide) (by decide)
        rw [q75] at o4 o6
        have q81 : m4 81 = m3 81 := by rw [w4 81 (by decide)]; rfl
        have K : ∀ T, T = sTo (m 75) known i → ∃ m', ((f_X10_bares_L141 jFU bay known i T (sFr (m 75) i) m4).bind fun r11 => f_X10_bares_L24 q r11.1 r11.2.1 (jW (r11.2.2.1 + 1)) r11.2.2.2) = f_X10_bares_L24 q bay known (i + 1) m' ∧ fM m m' ∧ m' 74 0 = m 74 0 ∧ ∀ d, 0 ≤ d → d < 200 → m' 81 d = sBaF (m 75) bay known i a d := by
          intro T hT
          obtain ⟨m5, a1, a2, a3⟩ := m_heldL (m := m4) (v1 := bay) (v2 := known) (v3 := i) (T := T) hF.1 hF.2.1
          refine ⟨m5, by rw [a1, Option.bind_some]; show f_X10_bares_L24 q bay known (jW (i + 1)) m5 = _; rw [ej], (hI.1.tr w2).tr ⟨fun c h1 h2 => a2 c (by omega), by rw [a2 74 (by decide)], by rw [a2 74 (by decide)], by rw [a2 74 (by decide)], pE_cg (by rw [a2 74 (by decide)]) (by rw [a2 74 (by decide)]) (by rw [a2 74 (by decide)]) (a2 78 (by decide))⟩, by rw [a2 74 (by decide), w5, hI.2.1], fun d d0 d1 => ?_⟩
          rw [a3 d d0 d1, q81, hI.2.2 d d0 d1, hT]
          unfold sBaF
          by_cases g : sFr (m 75) i ≤ d ∧ d ≤ sTo (m 75) known i
          · rw [if_pos g, if_pos ⟨hb2, hk, g⟩]
          · rw [if_neg g, if_neg (fun z => g z.2.2)]
        have E : f_X10_bares_L24 (q + 1) bay known i m3 = (if m 75 (376 + 8 * i + 6) = -1 then (f_X10_bares_L141 jFU bay known i (sFr (m 75) i + sHol (m 75) i) (sFr (m 75) i) m4).bind fun r11 => f_X10_bares_L24 q r11.1 r11.2.1 (jW (r11.2.2.1 + 1)) r11.2.2.2 else (if known < m 75 (376 + 8 * i + 6) then (f_X10_bares_L141 jFU bay known i (sFr (m 75) i + sHol (m 75) i) (sFr (m 75) i) m4).bind fun r11 => f_X10_bares_L24 q r11.1 r11.2.1 (jW (r11.2.2.1 + 1)) r11.2.2.2 else (if sFr (m 75) i + sHol (m 75) i ≤ m 75 (376 + 8 * i + 6) - 1 then (f_X10_bares_L141 jFU bay known i (sFr (m 75) i + sHol (m 75) i) (sFr (m 75) i) m4).bind fun r11 => f_X10_bares_L24 q r11.1 r11.2.1 (jW (r11.2.2.1 + 1)) r11.2.2.2 else (f_X10_bares_L141 jFU bay known i (m 75 (376 + 8 * i + 6) - 1) (sFr (m 75) i) m4).bind fun r11 => f_X10_bares_L24 q r11.1 r11.2.1 (jW (r11.2.2.1 + 1)) r11.2.2.2))) := by
          rw [f_X10_bares_L24, e75, if_neg (by omega), o0, Option.bind_some, if_pos hb2, kn, Option.bind_some, ite01, if_pos hk, o3, Option.bind_some, s1, Option.bind_some, mOfJob g0 (by omega) (by decide) (by decide), Option.bind_some]
          rw [show es m3 (m 75 (376 + 8 * i + 3) / 12) (m 75 (376 + 8 * i + 3) % 12) (sSk (m3 75) (m 75 (376 + 8 * i + 3) / 12) (m 75 (376 + 8 * i + 3) % 12)).2.1 (sSk (m3 75) (m 75 (376 + 8 * i + 3) / 12) (m 75 (376 + 8 * i + 3) % 12)).2.2 (m3 75 (20 + 9 * bay + 1)) (m3 75 (20 + 9 * bay)) (sSk (m3 75) (m 75 (376 + 8 * i + 3) / 12) (m 75 (376 + 8 * i + 3) % 12)).1 (sTr (m3 75) (m 75 (376 + 8 * i + 3) / 12) (m 75 (376 + 8 * i + 3) % 12)) (sNe (m3 75) bay (m 75 (376 + 8 * i + 3) / 12)) 75 (376 + 8 * i + 7) = m 75 (376 + 8 * i + 7) from by rw [es_75, e75]]
          rw [w1, Option.bind_some, o4, Option.bind_some, o6, Option.bind_some, h17, hF.2.2, jW_of (z := sFr (m 75) i + sHol (m 75) i) (by omega) (by omega), jW_of (z := m 75 (376 + 8 * i + 6) - 1) (by omega) (by omega)]
        have X : ∃ T, T = sTo (m 75) known i ∧ f_X10_bares_L24 (q + 1) bay known i m3 = (f_X10_bares_L141 jFU bay known i T (sFr (m 75) i) m4).bind fun r11 => f_X10_bares_L24 q r11.1 r11.2.1 (jW (r11.2.2.1 + 1)) r11.2.2.2 := by
          rw [E]
          by_cases y1 : m 75 (376 + 8 * i + 6) = -1
          · rw [if_pos y1]
            exact ⟨_, (if_neg (fun z => z.1 y1)).symm, rfl⟩
          · rw [if_neg y1]
            by_cases y2 : known < m 75 (376 + 8 * i + 6)
            · rw [if_pos y2]
              exact ⟨_, (if_neg (fun z => by omega)).symm, rfl⟩
            · rw [if_neg y2]
              by_cases y3 : sFr (m 75) i + sHol (m 75) i ≤ m 75 (376 + 8 * i + 6) - 1
              · rw [if_pos y3]
                exact ⟨_, (if_neg (fun z => by omega)).symm, rfl⟩
              · rw [if_neg y3]
                exact ⟨_, (if_pos ⟨y1, by omega, by omega⟩).symm, rfl⟩
        obtain ⟨T, hT, eT⟩ := X
        obtain ⟨m5, b1, b2, b3, b4⟩ := K T hT
        exact ⟨m5, ⟨b2, b3, b4⟩, eT.trans b1⟩
      · refine ⟨m3, ⟨hI.1, hI.2.1, fun d d0 d1 => ?_⟩, ?_⟩
        · rw [hI.2.2 d d0 d1]
          unfold sBaF
          rw [if_neg (fun z => hk z.2.1)]
        · show f_X10_bares_L24 (q + 1) bay known i m3 = _
          rw [f_X10_bares_L24, e75, if_neg (by omega), o0, Option.bind_some, if_pos hb2, kn, Option.bind_some, ite01, if_neg hk, ej]
    · refine ⟨m3, ⟨hI.1, hI.2.1, fun d d0 d1 => ?_⟩, ?_⟩
      · rw [hI.2.2 d d0 d1]
        unfold sBaF
        rw [if_neg (fun z => hb2 z.1)]
      · show f_X10_bares_L24 (q + 1) bay known i m3 = _
        rw [f_X10_bares_L24, e75, if_neg (by omega), o0, Option.bind_some, if_neg hb2, ej]) (by
    intro q a m3 hI
    have e75 : m3 75 = m 75 := hI.1.1 75 (by decide) (by decide)
    show f_X10_bares_L24 (q + 1) bay known (m 75 8) m3 = _
    rw [f_X10_bares_L24, e75, if_pos (Int.le_refl _)]) (m 75 8).toNat jFU 0 (fun _ => 1) m1 (Int.le_refl _) (by omega) (by unfold jFU; omega) ⟨f1, by rw [I1.1 74 (by decide)], fun d d0 d1 => I1.2 d d0 (by omega)⟩
  refine ⟨m2, ?_, I2.1, I2.2.1, I2.2.2⟩
  unfold f_X10_bares
  rw [show f_X10_bares_L2 jFU bay known 0 m = f_X10_bares_L2 (q1 + 1) bay known 200 m1 from e1, f_X10_bares_L2, if_pos (Int.le_refl _)]
  exact e2
