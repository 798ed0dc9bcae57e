/-! LEVEL 2: what the grammar gives is good code -/
def PG (e : Int → Int) (h : Nat) (P : List (Int × Int) → xRes) : Prop := ∀ ts r, P ts = .inr r → Gb e h r.1
theorem xPart_v {e : Int → Int} (E : eB e) {c : Int} (h : xNum c = true ∨ xFac c = true) : ∃ a, 0 ≤ a ∧ a ≤ 400 ∧ ∀ x l s, xSt e (x, l, s) c = (x, l, s + a) := by
  cases hn : xNum c with
  | true =>
    have z := xNum_iff.mp hn
    exact ⟨c, z.1, by omega, fun x l s => xSt_nm hn⟩
  | false =>
    have hf := h.resolve_left (by rw [hn]; decide)
    have z := xFac_iff.mp hf
    have z2 := E.2 c z.1 z.2
    exact ⟨e c, z2.1, z2.2, fun x l s => xSt_fc hn hf⟩
theorem gSum {e : Int → Int} (E : eB e) : ∀ (q : Nat) (ts : List (Int × Int)) (r : List Int × List (Int × Int)), q ≤ 401 → xSum q ts = .inr r → ∃ S, 0 ≤ S ∧ S ≤ 400 * (q : Int) ∧ ∀ x l s, xEv e r.1 (x, l, s) = (x, l, s + S) ∧ (0 ≤ x → x < 1073741824 → 0 ≤ s → s + 400 * (q : Int) ≤ 1000000 → xOk e r.1 (x, l, s)) := by
  intro q
  induction q with
  | zero => intro ts r _ h; cases h
  | succ q ih =>
    intro ts r hq h
    rw [xSum_s] at h
    by_cases hk : xNum (xK ts) = true ∨ xFac (xK ts) = true
    · rw [if_pos hk] at h
      obtain ⟨a, a0, a1, a2⟩ := xPart_v E hk
      by_cases hp : xK (xTl ts) = 123
      · rw [if_pos hp] at h
        cases hx : xSum q (xTl (xTl ts)) with
        | inl er => rw [hx] at h; cases h
        | inr r' =>
          rw [hx] at h
          cases h
          obtain ⟨S, s0, s1, s2⟩ := ih _ r' (by omega) hx
          refine ⟨a + S, by omega, by omega, fun x l s => ⟨?_, fun h0 h1 h2 h3 => ⟨⟨h0, h1, h2, by show s ≤ 1000000; omega⟩, ?_⟩⟩⟩
          · rw [xEv_c, a2, (s2 x l (s + a)).1, Int.add_assoc]
          · rw [a2]
            exact (s2 x l (s + a)).2 h0 h1 (by omega) (by omega)
      · rw [if_neg hp] at h
        cases h
        refine ⟨a, a0, by omega, fun x l s => ⟨by rw [xEv_c, xEv_n, a2], fun h0 h1 h2 h3 => ⟨⟨h0, h1, h2, by show s ≤ 1000000; omega⟩, trivial⟩⟩⟩
    · rw [if_neg hk] at h
      cases h
theorem gCmp {e : Int → Int} (E : eB e) : PG e 1 xCmp := by
  intro ts r h
  unfold xCmp at h
  cases hx : xSum 401 ts with
  | inl er => rw [hx] at h; cases h
  | inr r1 =>
    rw [hx] at h
    dsimp only at h
    by_cases hk : xK r1.2 = 124 ∨ xK r1.2 = 125
    · rw [if_pos hk] at h
      cases hy : xSum 401 (xTl r1.2) with
      | inl er => rw [hy] at h; cases h
      | inr r2 =>
        rw [hy] at h
        cases h
        obtain ⟨S, s0, s1, s2⟩ := gSum E 401 _ r1 (by omega) hx
        obtain ⟨T, t0, t1, t2⟩ := gSum E 401 _ r2 (by omega) hy
        have ev : ∀ x l, xEv e (r1.1 ++ 132 :: (r2.1 ++ [xK r1.2])) (x, l, 0) = xSt e (x, S, T) (xK r1.2) := by
          intro x l
          rw [xEv_app, (s2 x l 0).1, Int.zero_add, xEv_c, xSt_132, xEv_app, (t2 x S 0).1, Int.zero_add, xEv_c, xEv_n]
        have ok : ∀ x l, 0 ≤ x → x < xB 1 → xOk e (r1.1 ++ 132 :: (r2.1 ++ [xK r1.2])) (x, l, 0) := by
          intro x l h0 h1
          rw [xB_1] at h1
          refine xOk_app e _ _ _ ((s2 x l 0).2 h0 (by omega) (Int.le_refl 0) (by decide)) ?_
          rw [(s2 x l 0).1, Int.zero_add]
          refine ⟨⟨h0, by show x < 1073741824; omega, s0, by show S ≤ 1000000; omega⟩, ?_⟩
          rw [xSt_132]
          refine xOk_app e _ _ _ ((t2 x S 0).2 h0 (by omega) (Int.le_refl 0) (by decide)) ?_
          rw [(t2 x S 0).1, Int.zero_add]
          exact ⟨⟨h0, by show x < 1073741824; omega, t0, by show T ≤ 1000000; omega⟩, trivial⟩
        rcases hk with hk | hk
        · rw [hk] at ev ok ⊢
          refine ⟨if S < T then 1 else 0, ⟨by split <;> omega, fun x l => ⟨S, ?_⟩⟩, ok⟩
          rw [ev, xSt_124]
        · rw [hk] at ev ok ⊢
          refine ⟨if T < S then 1 else 0, ⟨by split <;> omega, fun x l => ⟨S, ?_⟩⟩, ok⟩
          rw [ev, xSt_125]
    · rw [if_neg hk] at h
      cases h
theorem gPla {e : Int → Int} (E : eB e) : PG e 1 xPla := by
  intro ts r h
  unfold xPla at h
  by_cases ht : xTag (xK ts) = true
  · rw [if_pos ht] at h
    cases h
    have z := xTag_iff.mp ht
    refine ⟨e (xK ts), ⟨E.1 _ z.1 z.2, fun x l => ⟨l, by rw [xEv_c, xEv_n, xSt_tg z]⟩⟩, fun x l h0 h1 => ?_⟩
    rw [xB_1] at h1
    exact ⟨⟨h0, by show x < 1073741824; omega, Int.le_refl 0, by show (0 : Int) ≤ 1000000; decide⟩, trivial⟩
  · rw [if_neg ht] at h
    exact gCmp E ts r h
theorem gMor {e : Int → Int} {h : Nat} {P : List (Int × Int) → xRes} {op : Int} (hop : op = 106 ∨ op = 105) (H : PG e h P) (h1 : 1 ≤ h) (hh : h < 28) : ∀ (q : Nat) (c : List Int) (ts : List (Int × Int)) (r : List Int × List (Int × Int)), Gb e (h + 1) c → xMor P op q c ts = .inr r → Gb e (h + 1) r.1 := by
  intro q
  induction q with
  | zero => intro c ts r _ hr; cases hr
  | succ q ih =>
    intro c ts r hc hr
    rw [xMor_s] at hr
    by_cases hk : xK ts = op
    · rw [if_pos hk] at hr
      cases hx : P (xTl ts) with
      | inl er => rw [hx] at hr; cases hr
      | inr r1 =>
        rw [hx] at hr
        exact ih _ _ r (Gb.join hop hc (H _ r1 hx) h1 hh) hr
    · rw [if_neg hk] at hr
      cases hr
      exact hc
theorem gEve {e : Int → Int} {h : Nat} {P : List (Int × Int) → xRes} (H : PG e h P) (h1 : 1 ≤ h) (hh : h < 28) : PG e (h + 1) (xEve P) := by
  intro ts r hr
  unfold xEve at hr
  cases hx : P ts with
  | inl er => rw [hx] at hr; cases hr
  | inr r1 =>
    rw [hx] at hr
    exact gMor (Or.inl rfl) H h1 hh 402 r1.1 r1.2 r ((H ts r1 hx).mono (by omega)) hr
theorem gSom {e : Int → Int} {h : Nat} {P : List (Int × Int) → xRes} (H : PG e h P) (h1 : 1 ≤ h) (hh : h < 27) : PG e (h + 2) (xSom P) := by
  intro ts r hr
  unfold xSom at hr
  have HE := gEve H h1 (by omega)
  cases hx : xEve P ts with
  | inl er => rw [hx] at hr; cases hr
  | inr r1 =>
    rw [hx] at hr
    exact gMor (Or.inr rfl) HE (by omega) (by omega) 402 r1.1 r1.2 r ((HE ts r1 hx).mono (by omega)) hr
theorem gAto {e : Int → Int} (E : eB e) : ∀ d : Nat, d ≤ 6 → PG e (1 + 2 * d) (xAto d) := by
  intro d
  induction d with
  | zero => intro _ ts r h; exact gPla E ts r h
  | succ d ih =>
    intro hd ts r h
    have H := ih (by omega)
    rw [xAto_s] at h
    by_cases k1 : xK ts = 107
    · rw [if_pos k1] at h
      cases hx : xAto d (xTl ts) with
      | inl er => rw [hx] at h; cases h
      | inr r1 =>
        rw [hx] at h
        cases h
        exact ((H _ r1 hx).not (by omega)).mono (by omega)
    · rw [if_neg k1] at h
      by_cases k2 : xK ts = 120
      · rw [if_pos k2] at h
        cases hx : xSom (xAto d) (xTl ts) with
        | inl er => rw [hx] at h; cases h
        | inr r1 =>
          rw [hx] at h
          dsimp only at h
          by_cases k3 : xK r1.2 = 121
          · rw [if_pos k3] at h
            cases h
            exact (gSom H (by omega) (by omega) _ r1 hx).mono (by omega)
          · rw [if_neg k3] at h
            cases h
      · rw [if_neg k2] at h
        exact (gPla E ts r h).mono (by omega)
/-- a whole condition's code -/
theorem gCond {e : Int → Int} (E : eB e) : PG e 15 (xSom (xAto 6)) := gSom (gAto E 6 (by omega)) (by omega) (by omega)
