/-! LEVEL 2: numbers in lines are small -/
theorem nLin {ts : List (Int × Int)} {r : xLn × List (Int × Int)} (h : xLin ts = .inr r) : 0 ≤ r.1.2.1 ∧ r.1.2.1 < 100 := by
  unfold xLin at h
  by_cases k : 100 ≤ xK ts ∧ xK ts ≤ 103
  · rw [if_pos k] at h
    by_cases k0 : xK ts = 100
    · rw [if_pos k0] at h
      by_cases k4 : xK (xTl ts) = 104
      · rw [if_pos k4] at h
        cases hx : xSom (xAto 6) (xTl (xTl ts)) with
        | inl er => rw [hx] at h; cases h
        | inr r1 =>
          rw [hx] at h
          cases h
          exact ⟨Int.le_refl 0, by show (0 : Int) < 100; decide⟩
      · rw [if_neg k4] at h; cases h
    · rw [if_neg k0] at h
      by_cases kn : xNum (xK (xTl ts)) = true ∧ ¬ (xK ts = 101 ∧ 48 < xK (xTl ts))
      · rw [if_pos kn] at h
        have hb := xNum_iff.mp kn.1
        by_cases k4 : xK (xTl (xTl ts)) = 104
        · rw [if_pos k4] at h
          cases hx : xSom (xAto 6) (xTl (xTl (xTl ts))) with
          | inl er => rw [hx] at h; cases h
          | inr r1 =>
            rw [hx] at h
            cases h
            exact hb
        · rw [if_neg k4] at h
          cases h
          exact hb
      · rw [if_neg kn] at h; cases h
  · rw [if_neg k] at h; cases h
theorem nLis : ∀ (q : Nat) (a : List xLn) (ts : List (Int × Int)) (L : List xLn), (∀ l ∈ a, 0 ≤ l.2.1 ∧ l.2.1 < 100) → xLis q a ts = .inr L → ∀ l ∈ L, 0 ≤ l.2.1 ∧ l.2.1 < 100 := by
  intro q
  induction q with
  | zero => intro a ts L _ h; cases h
  | succ q ih =>
    intro a ts L ha h
    rw [xLis_s] at h
    cases hx : xLin ts with
    | inl er => rw [hx] at h; cases h
    | inr r =>
      rw [hx] at h
      dsimp only at h
      have ha2 : ∀ l ∈ a ++ [r.1], 0 ≤ l.2.1 ∧ l.2.1 < 100 := by
        intro l hl
        rcases List.mem_append.mp hl with g | g
        · exact ha l g
        · rw [List.mem_singleton.mp g]; exact nLin hx
      by_cases k1 : xK r.2 = 130
      · rw [if_pos k1] at h
        cases h
        exact ha2
      · rw [if_neg k1] at h
        by_cases k2 : xK r.2 = 122
        · rw [if_pos k2] at h
          exact ih _ _ L ha2 h
        · rw [if_neg k2] at h; cases h
theorem nPar {b : Int → Int} {n : Int} {L : List xLn} (h : xPar b n = .inr L) : ∀ l ∈ L, 0 ≤ l.2.1 ∧ l.2.1 < 100 := by
  unfold xPar xTxt at h
  by_cases k : xK (xTo b n 401 0) = 130
  · rw [if_pos k] at h
    cases h
    intro l hl
    cases hl
  · rw [if_neg k] at h
    exact nLis 10 [] _ L (fun l hl => by cases hl) h
theorem xLast_n {e : Int → Int} {k : Int} : ∀ (ls : List xLn) (w : Int), (∀ l ∈ ls, 0 ≤ l.2.1 ∧ l.2.1 < 100) → (0 ≤ w ∧ w < 100) → 0 ≤ xLast e k w ls ∧ xLast e k w ls < 100 := by
  intro ls
  induction ls with
  | nil => intro w _ h; exact h
  | cons l ls ih =>
    intro w h1 h2
    unfold xLast
    refine ih _ (fun x hx => h1 x (List.mem_cons_of_mem _ hx)) ?_
    split
    · exact h1 l List.mem_cons_self
    · exact h2
theorem nTx {m : jMu} {M : Int → Int} (C : kC m 0 M) {t : Int} (h0 : 0 ≤ t) (h1 : t < M 5) {e : Int → Int} {k w : Int} (hw : 0 ≤ w ∧ w < 100) : 0 ≤ xLast e k w (xTx M t.toNat) ∧ xLast e k w (xTx M t.toNat) < 100 :=
  xLast_n _ _ (nPar (kR_t C h0 h1).2.1) hw
/-! how long a job's coat must dry -/
def sDry (M : Int → Int) (j : Int) : Int := xLast (sEn M (M (376 + 8 * j)) (M (376 + 8 * j + 4) - 1) (sT M (M (376 + 8 * j + 4) - 1))) 101 0 (xTx M (M (376 + 8 * j + 7)).toNat)
theorem sDry_b {m : jMu} {M : Int → Int} (C : kC m 0 M) {j : Int} (h0 : 0 ≤ j) (h1 : j < M 8) : 0 ≤ sDry M j ∧ sDry M j < 100 := by
  have hR := (C.1 7 (by decide)).2 j h0 h1
  exact nTx C hR.2.2.2.2.2.2.1 hR.2.2.2.2.2.2.2 ⟨Int.le_refl _, by decide⟩
theorem itz_loop {σ β : Type} {L : Nat → Int → σ → jMu → Option β} (f : Int → σ → σ) (R : σ → jMu → β) (I : Int → σ → jMu → Prop) {lo n : Int}
    (hs : ∀ q i s m, lo ≤ i → i < n → I i s m → ∃ m', I (i + 1) (f i s) m' ∧ L (q + 1) i s m = L q (i + 1) (f i s) m')
    (he : ∀ q s m, I n s m → L (q + 1) n s m = some (R s m)) : ∀ (d q : Nat) (i : Int) (s : σ) (m : jMu), lo ≤ i → i + d = n → d < q → I i s m → ∃ m', I n (itn f d i s) m' ∧ L q i s m = some (R (itn f d i s) m') := by
  intro d
  induction d with
  | zero =>
    intro q i s m h0 h1 h2 hI
    obtain ⟨q, rfl⟩ : ∃ p, q = p + 1 := ⟨q - 1, by omega⟩
    have : i = n := by omega
    subst this
    exact ⟨m, hI, he q s m hI⟩
  | succ d ih =>
    intro q i s m h0 h1 h2 hI
    obtain ⟨q, rfl⟩ : ∃ p, q = p + 1 := ⟨q - 1, by omega⟩
    obtain ⟨m', a, c⟩ := hs q i s m h0 (by omega) hI
    rw [c]
    exact ih q (i + 1) _ m' (by omega) (by omega) (by omega) a
theorem c_dryL {m : jMu} {M : Int → Int} (C : kC m 0 M) (k : Int) : ∃ m', f_X8_measureDry k m = some m' ∧ (∀ c, c ≠ 32 → c ≠ 68 → m' c = m c) ∧ ∀ j, 0 ≤ j → j < M 8 → jAn (jSr k (M (376 + 8 * j))) 1 = 1 → m' 68 j = M (376 + 8 * j + 4) + sDry M j := by
  have hn := C.n
  obtain ⟨m', a, b⟩ := itz_loop (L := fun q i (_ : Unit) m => f_X8_measureDry_L10 q k i m) (fun _ s => s) (fun _ m => m) (fun i _ m' => (∀ c, c ≠ 32 → c ≠ 68 → m' c = m c) ∧ ∀ j, 0 ≤ j → j < i → jAn (jSr k (M (376 + 8 * j))) 1 = 1 → m' 68 j = M (376 + 8 * j + 4) + sDry M j) (lo := 0) (n := M 8) (by
    intro q i s m1 g0 g1 hI
    have hR := (C.1 7 (by decide)).2 i g0 g1
    have C1 : kC m1 0 M := kC_frame C (fun c _ h2 => hI.1 c (by omega) (by omega)) (fun _ _ _ => rfl)
    have hz := C1.z
    have j0 := cg_job C1 g0 g1 (c := 0) (by decide) (by decide)
    rw [Int.add_zero] at j0
    by_cases hb : jAn (jSr k (M (376 + 8 * i))) 1 = 1
    · obtain ⟨m2, e1, P, f2⟩ := c_stand C1 (bay := M (376 + 8 * i)) (mo := M (376 + 8 * i + 4) - 1) hR.1 (by omega)
      have C2 := cl_C C1 f2
      have W := c_dry C2 P (t := M (376 + 8 * i + 7)) hR.2.2.2.2.2.2 hR.1 (by omega) (sTr_01 _ _ _)
      have sb := sDry_b C g0 g1
      have W2 : f_X1_dryHere (M (376 + 8 * i + 7)) m2 = some (sDry M i) := W
      refine ⟨jup m2 68 i (M (376 + 8 * i + 4) + sDry M i), ⟨fun c h1 h2 => ?_, fun j h1 h2 h3 => ?_⟩, ?_⟩
      · rw [jup_c h2, f2 c h1, hI.1 c h1 h2]
      · by_cases e : j = i
        · rw [e, jup_s]
        · rw [jup_j e, f2 68 (by decide)]
          exact hI.2 j h1 (by omega) h3
      · show f_X8_measureDry_L10 (q + 1) k i m1 = _
        rw [f_X8_measureDry_L10]
        unfold f_X5_size
        rw [hz.2.2.2.2.2.2.2.2.1, Option.bind_some, if_neg (by omega), if_neg (by omega), j0, Option.bind_some, if_pos hb, cg_job C1 g0 g1 (c := 4) (by decide) (by decide), Option.bind_some, jW_of (z := M (376 + 8 * i + 4) - 1) (by omega) (by omega), e1, Option.bind_some, cg_job C2 g0 g1 (c := 7) (by decide) (by decide), Option.bind_some, W2, Option.bind_some, if_pos (by omega), jlt_eq, jW_of (z := M (376 + 8 * i + 4) + sDry M i) (by omega) (by omega), jW_of (z := i + 1) (by omega) (by omega)]
    · refine ⟨m1, ⟨hI.1, fun j h1 h2 h3 => ?_⟩, ?_⟩
      · by_cases e : j = i
        · rw [e] at h3; exact (hb h3).elim
        · exact hI.2 j h1 (by omega) h3
      · show f_X8_measureDry_L10 (q + 1) k i m1 = _
        rw [f_X8_measureDry_L10]
        unfold f_X5_size
        rw [hz.2.2.2.2.2.2.2.2.1, Option.bind_some, if_neg (by omega), if_neg (by omega), j0, Option.bind_some, if_neg hb, jW_of (z := i + 1) (by omega) (by omega)]) (by
    intro q s m1 hI
    have C1 : kC m1 0 M := kC_frame C (fun c _ h2 => hI.1 c (by omega) (by omega)) (fun _ _ _ => rfl)
    have hz := C1.z
    show f_X8_measureDry_L10 (q + 1) k (M 8) m1 = _
    rw [f_X8_measureDry_L10]
    unfold f_X5_size
    rw [hz.2.2.2.2.2.2.2.2.1, Option.bind_some, if_pos (Int.le_refl _)]) (M 8).toNat jFU 0 () m (by omega) (by omega) (by unfold jFU; omega) ⟨fun _ _ _ => rfl, fun j h1 h2 => by omega⟩
  exact ⟨m', b, a⟩
theorem m_dryOf {m mm : jMu} (C : kC mm 0 (m 75)) {j : Int} (h0 : 0 ≤ j) (h1 : j < m 75 8) : ∃ m', f_X10_dryOf j m = some (sDry (m 75) j, m') ∧ fM m m' ∧ m' 74 0 = m 74 0 ∧ m' 80 = m 80 ∧ m' 79 = m 79 := by
  have hn := C.n
  have hR := (C.1 7 (by decide)).2 j h0 h1
  have o0 := mOfJob (m := m) (j := j) (c := 0) h0 (by omega) (by decide) (by decide)
  have o4 := mOfJob (m := m) (j := j) (c := 4) h0 (by omega) (by decide) (by decide)
  rw [Int.add_zero] at o0
  have s1 := m_stands C (bay := m 75 (376 + 8 * j)) (mo := m 75 (376 + 8 * j + 4) - 1) hR.1 (by omega)
  obtain ⟨m', w1, w2, w3, w4, w5⟩ := m_asksE C (t := m 75 (376 + 8 * j + 7)) (bay := m 75 (376 + 8 * j)) (mo := m 75 (376 + 8 * j + 4) - 1) (tr := sTr (m 75) ((m 75 (376 + 8 * j + 4) - 1) / 12) ((m 75 (376 + 8 * j + 4) - 1) % 12)) hR.2.2.2.2.2.2 hR.1 (by omega) (sTr_01 _ _ _)
  refine ⟨m', ?_, w2, w5, ?_, ?_⟩
  · unfold f_X10_dryOf
    rw [o0, Option.bind_some, o4, Option.bind_some, jW_of (z := m 75 (376 + 8 * j + 4) - 1) (by omega) (by omega), s1, Option.bind_some, mOfJob h0 (by omega) (by decide) (by decide), Option.bind_some]
    show Option.bind (f_X10_asks (m 75 (376 + 8 * j + 7)) _) _ = _
    rw [w1, Option.bind_some, w3.2.2.2.2.1]
    rfl
  · rw [w4 80 (by decide)]; rfl
  · rw [w4 79 (by decide)]; rfl
theorem m_dryL {m mm : jMu} (C : kC mm 0 (m 75)) : ∃ m', f_X10_dry1 m = some m' ∧ fM m m' ∧ m' 74 0 = m 74 0 ∧ ∀ j, 0 ≤ j → j < m 75 8 → m' 80 j = sDry (m 75) j := by
  have hn := C.n
  obtain ⟨m', a, b⟩ := itz_loop (L := fun q i (_ : Unit) m => f_X10_dry1_L2 q i m) (fun _ s => s) (fun _ m => m) (fun i _ m' => fM m m' ∧ m' 74 0 = m 74 0 ∧ ∀ j, 0 ≤ j → j < i → m' 80 j = sDry (m 75) j) (lo := 0) (n := m 75 8) (by
    intro q i s m1 g0 g1 hI
    have e75 : m1 75 = m 75 := hI.1.1 75 (by decide) (by decide)
    have C1 : kC mm 0 (m1 75) := by rw [e75]; exact C
    obtain ⟨m2, e1, f2, z2, y2, _⟩ := m_dryOf C1 (j := i) g0 (by rw [e75]; exact g1)
    rw [e75] at e1
    refine ⟨jup m2 80 i (sDry (m 75) i), ⟨(hI.1.tr f2).tr ⟨fun c _ h2 => jup_c (by omega), by rw [jup_c (by decide)], by rw [jup_c (by decide)], by rw [jup_c (by decide)], pE_cg (by rw [jup_c (by decide)]) (by rw [jup_c (by decide)]) (by rw [jup_c (by decide)]) (jup_c (by decide))⟩, by rw [jup_c (by decide), z2, hI.2.1], fun j h1 h2 => ?_⟩, ?_⟩
    · by_cases e : j = i
      · rw [e, jup_s]
      · rw [jup_j e, y2]
        exact hI.2.2 j h1 (by omega)
    · show f_X10_dry1_L2 (q + 1) i m1 = _
      rw [f_X10_dry1_L2, e75, if_neg (by omega), e1, Option.bind_some, if_pos (by omega), jlt_eq, jW_of (by omega) (by omega)]) (by
    intro q s m1 hI
    have e75 : m1 75 = m 75 := hI.1.1 75 (by decide) (by decide)
    show f_X10_dry1_L2 (q + 1) (m 75 8) m1 = _
    rw [f_X10_dry1_L2, e75, if_pos (Int.le_refl _)]) (m 75 8).toNat jFU 0 () m (by omega) (by omega) (by unfold jFU; omega) ⟨fM.rf m, rfl, fun j h1 h2 => by omega⟩
  exact ⟨m', b, a⟩
/-! whether a work may begin -/
def Bk (M : Int → Int) (bay mo j : Int) : Prop := M (376 + 8 * j) = bay ∧ M (376 + 8 * j + 3) ≤ mo ∧ mo < M (376 + 8 * j + 4) + sDry M j
def sBlF (M : Int → Int) (bay mo j v : Int) : Int := if M (376 + 8 * j) = bay ∧ M (376 + 8 * j + 3) ≤ mo ∧ mo < M (376 + 8 * j + 4) + sDry M j ∧ v < M (376 + 8 * j + 4) + sDry M j then M (376 + 8 * j + 4) + sDry M j else v
def sBl (M : Int → Int) (bay mo : Int) : Int := itn (sBlF M bay mo) (M 8).toNat 0 (-1)
def sMbF (M : Int → Int) (bay mo j : Int) (_ : Unit) : Int ⊕ Unit := if M (376 + 8 * j) = bay ∧ M (376 + 8 * j + 3) ≤ mo ∧ mo < M (376 + 8 * j + 4) + sDry M j then .inl 0 else .inr ()
def sMb (M : Int → Int) (bay mo : Int) : Int := itx (sMbF M bay mo) (fun _ => 1) (M 8).toNat 0 ()
theorem sMb_spec {M : Int → Int} {bay mo : Int} : ∀ (d : Nat) (i : Int), (itx (sMbF M bay mo) (fun _ => 1) d i () = 0 ∨ itx (sMbF M bay mo) (fun _ => 1) d i () = 1) ∧ (itx (sMbF M bay mo) (fun _ => 1) d i () = 1 ↔ ∀ j, i ≤ j → j < i + d → ¬ Bk M bay mo j) := by
  intro d
  induction d with
  | zero => intro i; exact ⟨Or.inr rfl, fun _ j h1 h2 => by omega, fun _ => rfl⟩
  | succ d ih =>
    intro i
    have I := ih (i + 1)
    unfold itx
    by_cases h : M (376 + 8 * i) = bay ∧ M (376 + 8 * i + 3) ≤ mo ∧ mo < M (376 + 8 * i + 4) + sDry M i
    · have e : sMbF M bay mo i () = .inl 0 := if_pos h
      rw [e]
      exact ⟨Or.inl rfl, fun z => (by cases z), fun z => (z i (Int.le_refl _) (by omega) h).elim⟩
    · have e : sMbF M bay mo i () = .inr () := if_neg h
      rw [e]
      refine ⟨I.1, fun z j h1 h2 => ?_, fun z => I.2.mpr (fun j h1 h2 => z j (by omega) (by omega))⟩
      by_cases ej : j = i
      · rw [ej]; exact h
      · exact I.2.mp z j (by omega) (by omega)
theorem sBl_spec {m : jMu} {M : Int → Int} (C : kC m 0 M) (bay mo : Int) : (∀ j, 0 ≤ j → j < M 8 → Bk M bay mo j → M (376 + 8 * j + 4) + sDry M j ≤ sBl M bay mo) ∧ (sBl M bay mo = -1 ∨ ∃ j, 0 ≤ j ∧ j < M 8 ∧ Bk M bay mo j ∧ sBl M bay mo = M (376 + 8 * j + 4) + sDry M j) := by
  have hn := C.n
  unfold sBl
  refine itn_inv (f := sBlF M bay mo) (fun i s => (∀ j, 0 ≤ j → j < i → Bk M bay mo j → M (376 + 8 * j + 4) + sDry M j ≤ s) ∧ (s = -1 ∨ ∃ j, 0 ≤ j ∧ j < i ∧ Bk M bay mo j ∧ s = M (376 + 8 * j + 4) + sDry M j)) (lo := 0) (n := M 8) (fun i s h0 h1 hP => ?_) (M 8).toNat 0 (-1) (by omega) (by omega) ⟨fun j a b => by omega, Or.inl rfl⟩
  unfold sBlF
  by_cases h : M (376 + 8 * i) = bay ∧ M (376 + 8 * i + 3) ≤ mo ∧ mo < M (376 + 8 * i + 4) + sDry M i ∧ s < M (376 + 8 * i + 4) + sDry M i
  · rw [if_pos h]
    refine ⟨fun j a b c => ?_, Or.inr ⟨i, h0, by omega, ⟨h.1, h.2.1, h.2.2.1⟩, rfl⟩⟩
    by_cases ej : j = i
    · rw [ej]; exact Int.le_refl _
    · have := hP.1 j a (by omega) c
      omega
  · rw [if_neg h]
    refine ⟨fun j a b c => ?_, ?_⟩
    · by_cases ej : j = i
      · rw [ej] at c ⊢
        unfold Bk at c
        by_cases g : s < M (376 + 8 * i + 4) + sDry M i
        · exact (h ⟨c.1, c.2.1, c.2.2, g⟩).elim
        · omega
      · exact hP.1 j a (by omega) c
    · rcases hP.2 with g | ⟨j, a, b, c, e⟩
      · exact Or.inl g
      · exact Or.inr ⟨j, a, by omega, c, e⟩
theorem sMb_01 (M : Int → Int) (bay mo : Int) : sMb M bay mo = 0 ∨ sMb M bay mo = 1 := (sMb_spec _ _).1
theorem sMb_iff {m : jMu} {M : Int → Int} (C : kC m 0 M) {bay mo : Int} (h : 0 ≤ mo) : sMb M bay mo = 1 ↔ sBl M bay mo = -1 := by
  have hn := C.n
  have S := sBl_spec C bay mo
  unfold sMb
  rw [(sMb_spec _ _).2]
  constructor
  · intro z
    rcases S.2 with g | ⟨j, a, b, c, e⟩
    · exact g
    · exact (z j a (by omega) c).elim
  · intro z j a b c
    have := S.1 j a (by omega) c
    unfold Bk at c
    omega
theorem c_bl {m : jMu} {M : Int → Int} (C : kC m 0 M) {bay mo : Int} (hD : ∀ j, 0 ≤ j → j < M 8 → M (376 + 8 * j) = bay → m 68 j = M (376 + 8 * j + 4) + sDry M j) : f_X8_blockedTo bay mo m = some (sBl M bay mo) := by
  have hn := C.n
  have hz := C.z
  unfold f_X8_blockedTo sBl
  refine (itn_loop (L := fun q i s => f_X8_blockedTo_L14 q bay mo s i m) (sBlF M bay mo) (fun s => s) (fun _ _ => True) (lo := 0) (n := M 8) ?_ ?_ (M 8).toNat jFU 0 (-1) (by omega) (by omega) (by unfold jFU; omega) trivial).1
  · intro q i s h0 h1 _
    refine ⟨?_, trivial⟩
    have j0 := cg_job C h0 h1 (c := 0) (by decide) (by decide)
    rw [Int.add_zero] at j0
    have j3 := cg_job C h0 h1 (c := 3) (by decide) (by decide)
    have hd := hD i h0 h1
    have i0 : (0 ≤ i ∧ i < 40) = True := eq_true (by omega)
    show f_X8_blockedTo_L14 (q + 1) bay mo s i m = _
    rw [f_X8_blockedTo_L14]
    unfold f_X5_size
    rw [hz.2.2.2.2.2.2.2.2.1, Option.bind_some, if_neg (by omega), if_neg (by omega), j0, Option.bind_some, jW_of (z := i + 1) (by omega) (by omega), j3, Option.bind_some]
    simp only [i0, if_true]
    unfold sBlF
    by_cases g : M (376 + 8 * i) = bay
    · rw [hd g, if_pos g]
      by_cases g2 : mo < M (376 + 8 * i + 3)
      · rw [if_pos g2, if_neg (fun z => by omega)]
      · rw [if_neg g2]
        by_cases g3 : M (376 + 8 * i + 4) + sDry M i ≤ mo
        · rw [if_pos g3, if_neg (fun z => by omega)]
        · rw [if_neg g3]
          by_cases g4 : M (376 + 8 * i + 4) + sDry M i ≤ s
          · rw [if_pos g4, if_neg (fun z => by omega)]
          · rw [if_neg g4, if_pos ⟨g, by omega, by omega, by omega⟩]
    · rw [if_neg g, if_neg (fun z => g z.1)]
  · intro q s _
    show f_X8_blockedTo_L14 (q + 1) bay mo s (M 8) m = _
    rw [f_X8_blockedTo_L14]
    unfold f_X5_size
    rw [hz.2.2.2.2.2.2.2.2.1, Option.bind_some, if_pos (Int.le_refl _)]
theorem m_mb {m mm : jMu} (C : kC mm 0 (m 75)) {bay mo : Int} (hm : mo < 2400) (hD : ∀ j, 0 ≤ j → j < m 75 8 → m 80 j = sDry (m 75) j) : f_X10_mayBegin bay mo m = some (sMb (m 75) bay mo) := by
  have hn := C.n
  unfold f_X10_mayBegin sMb
  refine itx_loop (L := fun q i (_ : Unit) => f_X10_mayBegin_L2 q bay mo i m) (sMbF (m 75) bay mo) _ (fun _ _ => True) (lo := 0) (n := m 75 8) ?_ ?_ (m 75 8).toNat jFU 0 () (by omega) (by omega) (by unfold jFU; omega) trivial
  · intro q i s h0 h1 _
    have hR := (C.1 7 (by decide)).2 i h0 h1
    have sb := sDry_b C h0 h1
    have i0 : (0 ≤ i ∧ i < 40) = True := eq_true (by omega)
    have o0 := mOfJob (m := m) (j := i) (c := 0) h0 (by omega) (by decide) (by decide)
    rw [Int.add_zero] at o0
    show (∃ v, _ ∧ f_X10_mayBegin_L2 (q + 1) bay mo i m = some v) ∨ (∃ t, _ ∧ f_X10_mayBegin_L2 (q + 1) bay mo i m = _ ∧ True)
    rw [f_X10_mayBegin_L2, if_neg (by omega), o0, Option.bind_some, mOfJob h0 (by omega) (by decide) (by decide), Option.bind_some, mOfJob h0 (by omega) (by decide) (by decide), Option.bind_some, hD i h0 h1, jW_of (z := i + 1) (by omega) (by omega), jW_of (z := m 75 (376 + 8 * i + 4) + sDry (m 75) i) (by omega) (by omega)]
    simp only [i0, if_true]
    unfold sMbF
    by_cases g : m 75 (376 + 8 * i) = bay ∧ m 75 (376 + 8 * i + 3) ≤ mo ∧ mo < m 75 (376 + 8 * i + 4) + sDry (m 75) i
    · refine Or.inl ⟨0, by rw [if_pos g], ?_⟩
      rw [if_pos g.1]
      by_cases g2 : mo < m 75 (376 + 8 * i + 4)
      · rw [if_pos g2, if_neg (by omega), if_neg (by omega)]
      · rw [if_neg g2, if_neg (by omega)]
    · refine Or.inr ⟨(), by rw [if_neg g], ?_, trivial⟩
      by_cases g1 : m 75 (376 + 8 * i) = bay
      · rw [if_pos g1]
        by_cases g2 : mo < m 75 (376 + 8 * i + 4)
        · rw [if_pos g2, if_neg (by omega), if_pos (by omega)]
        · rw [if_neg g2, if_pos (by omega), if_pos (by omega)]
      · rw [if_neg g1]
  · intro q s _
    show f_X10_mayBegin_L2 (q + 1) bay mo (m 75 8) m = _
    rw [f_X10_mayBegin_L2, if_pos (Int.le_refl _)]
theorem jbit1 {b : Int} (h0 : 0 ≤ b) (h1 : b < 8) : jAn (jSr (jSl 1 b) b) 1 = 1 := by
  obtain rfl | rfl | rfl | rfl | rfl | rfl | rfl | rfl : b = 0 ∨ b = 1 ∨ b = 2 ∨ b = 3 ∨ b = 4 ∨ b = 5 ∨ b = 6 ∨ b = 7 := by omega
  all_goals decide
def kMay (M : Int → Int) (bay mo : Int) : Int := if (0 ≤ bay ∧ bay < M 0) ∧ 0 ≤ mo ∧ mo ≤ 2399 then 0 else 1
theorem cq_may {m : jMu} (hA : kA m) (bay mo : Int) : cQ (f_L_may bay mo m) m (kMay (m 75) bay mo) (sMb (m 75) bay mo) := by
  have hz := hA.1.z
  have hn := hA.1.n
  unfold f_L_may f_X9_may f_X9_may_J29 f_X9_may_J30 kMay
  by_cases h1 : 0 ≤ bay ∧ bay < m 75 0
  · by_cases h2 : 0 ≤ mo ∧ mo ≤ 2399
    · obtain ⟨m', e1, f1, d1⟩ := c_dryL hA.1 (jSl 1 bay)
      have C1 : kC m' 0 (m 75) := kC_frame hA.1 (fun c _ h2 => f1 c (by omega) (by omega)) (fun _ _ _ => rfl)
      have B := c_bl C1 (bay := bay) (mo := mo) (fun j a b c => d1 j a b (by rw [c]; exact jbit1 h1.1 (by omega)))
      have S := sMb_iff hA.1 (bay := bay) h2.1
      have F : fC m m' := fun c a b => f1 c a (by omega)
      simp only [xIsIn, cHas, cRoom, Option.bind_some, nIz, nAz, nRz, nEz, nDz, nI0z, nI1z, nA0z, nA1z, nE0z, nE1z, nR0z, nR1z, jcat2_r, jcat2_l, jlt_eq, ite01, ite01o, ite01p, ite00, ite10, xe1, xe2, xe3, xe4, xe5, xe6, if_true, if_false, f_X5_size, Int.reduceLE, Int.reduceLT, hz, h1, h2, and_self, e1, B]
      rcases sMb_01 (m 75) bay mo with g | g
      · rw [if_neg (fun z => by rw [S.mpr z] at g; omega), g, jcat2_r, if_pos rfl]
        exact cQ_val2 F
      · rw [if_pos (S.mp g), g, jcat2_r, if_neg (show ¬ (1 : Int) = 0 by decide)]
        exact cQ_val2 F
    · simp only [xIsIn, cHas, cRoom, Option.bind_some, nIz, nAz, nRz, nEz, nDz, nI0z, nI1z, nA0z, nA1z, nE0z, nE1z, nR0z, nR1z, jcat2_r, jcat2_l, jlt_eq, ite01, ite01o, ite01p, ite00, ite10, xe1, xe2, xe3, xe4, xe5, xe6, if_true, if_false, f_X5_size, Int.reduceLE, Int.reduceLT, hz, h1, h2, and_self, and_false, and_true, true_and]
      exact cQ_thr (by decide)
  · simp only [xIsIn, cHas, cRoom, Option.bind_some, nIz, nAz, nRz, nEz, nDz, nI0z, nI1z, nA0z, nA1z, nE0z, nE1z, nR0z, nR1z, jcat2_r, jcat2_l, jlt_eq, ite01, ite01o, ite01p, ite00, ite10, xe1, xe2, xe3, xe4, xe5, xe6, if_true, if_false, f_X5_size, Int.reduceLE, Int.reduceLT, hz, h1, false_and]
    exact cQ_thr (by decide)
theorem mq_may {m : jMu} (hA : kA m) (bay mo : Int) : mQ (f_X10_may bay mo m) m (kMay (m 75) bay mo) (sMb (m 75) bay mo) := by
  have hn := hA.1.n
  have hA' := kA_fM hA (fM.thr m 0)
  have e75 : jup m 74 0 0 75 = m 75 := jup_c (by decide)
  unfold f_X10_may f_X10_may_J16 kMay
  by_cases h1 : 0 ≤ bay ∧ bay < m 75 0
  · by_cases h2 : 0 ≤ mo ∧ mo ≤ 2399
    · obtain ⟨m', e1, f1, z1, d1⟩ := m_dryL hA'.1
      have A1 := kA_fM hA' f1
      have m75 : m' 75 = m 75 := (f1.1 75 (by decide) (by decide)).trans e75
      rw [e75] at d1
      have B := m_mb A1.1 (bay := bay) (mo := mo) (by omega) (by rw [m75]; exact d1)
      rw [m75] at B
      simp only [mIsIn, mDay, mHour, mMoment, Option.bind_some, ite01, ite01o, ite01p, ite00, ite10, jlt_eq, jup_s, le00, le10, le20, le30, if_true, if_false, Int.reduceLE, Int.reduceLT, mBay _ hn.1, h1, h2, and_self, e1, B, sMb_01]
      exact ⟨_, m', rfl, (fM.thr m 0).tr f1, by rw [z1, jup_s], fun _ => rfl⟩
    · simp only [mIsIn, mDay, mHour, mMoment, Option.bind_some, ite01, ite01o, ite01p, ite00, ite10, jlt_eq, jup_s, le00, le10, le20, le30, if_true, if_false, Int.reduceLE, Int.reduceLT, mBay _ hn.1, h1, h2, and_self, and_false, and_true, true_and]
      exact mQ_thr (by decide)
  · simp only [mIsIn, mDay, mHour, mMoment, Option.bind_some, ite01, ite01o, ite01p, ite00, ite10, jlt_eq, jup_s, le00, le10, le20, le30, if_true, if_false, Int.reduceLE, Int.reduceLT, mBay _ hn.1, h1, false_and]
    exact mQ_thr (by decide)
