/-! LEVEL 2: what nothing touched stays -/
theorem kN_congr {M M' : Int → Int} {k : Nat} (hk : k < 11) (hg : ∀ i, kG k i → M' i = M i) : kN M' k = kN M k := by
  match k, hk with
  | 0, _ => exact hg 0 (Or.inl rfl)
  | 1, _ => exact hg 1 (Or.inl rfl)
  | 2, _ => exact hg 2 (Or.inl rfl)
  | 3, _ => exact hg 3 (Or.inl rfl)
  | 4, _ => exact hg 4 (Or.inl rfl)
  | 5, _ => exact hg 6 (Or.inl rfl)
  | 6, _ => exact hg 7 (Or.inl rfl)
  | 7, _ => exact hg 8 (Or.inl rfl)
  | 8, _ => rfl
  | 9, _ => exact hg 9 (Or.inl rfl)
  | 10, _ => exact hg 10 (Or.inl rfl)
theorem kF_cg {M M' : Int → Int} {k : Nat} (hk : k < 11) (hg : ∀ i, kG k i → M' i = M i) {r c : Int} (h0 : 0 ≤ r) (h1 : r < (kT k).2.2.2) (h2 : 0 ≤ c) (h3 : c < (kT k).2.2.1) : kF M k r c = kF M' k r c := by
  match k, hk with
  | 0, _ =>
    replace h1 : r < 8 := h1
    replace h3 : c < 10 := h3
    show (if c < 4 then M (20 + 9 * r + c) else if c = 4 then 0 else M (20 + 9 * r + (c - 1))) = (if c < 4 then M' (20 + 9 * r + c) else if c = 4 then 0 else M' (20 + 9 * r + (c - 1)))
    by_cases a : c < 4
    · rw [if_pos a, if_pos a, hg _ (Or.inr (by omega))]
    · rw [if_neg a, if_neg a]
      by_cases a : c = 4
      · rw [if_pos a, if_pos a]
      · rw [if_neg a, if_neg a, hg _ (Or.inr (by omega))]
  | 1, _ => replace h1 : r < 30 := h1; replace h3 : c < 7 := h3; exact (hg _ (Or.inr (by omega))).symm
  | 2, _ => replace h1 : r < 6 := h1; replace h3 : c < 2 := h3; exact (hg _ (Or.inr (by omega))).symm
  | 3, _ => replace h1 : r < 5 := h1; replace h3 : c < 2 := h3; exact (hg _ (Or.inr (by omega))).symm
  | 4, _ =>
    replace h1 : r < 8 := h1
    replace h3 : c < 3 := h3
    show (if c = 2 then M (324 + 3 * r) else M (324 + 3 * r + (c + 1))) = (if c = 2 then M' (324 + 3 * r) else M' (324 + 3 * r + (c + 1)))
    by_cases a : c = 2
    · rw [if_pos a, if_pos a, hg _ (Or.inr (by omega))]
    · rw [if_neg a, if_neg a, hg _ (Or.inr (by omega))]
  | 5, _ => replace h1 : r < 4 := h1; exact (hg _ (Or.inr (by omega))).symm
  | 6, _ => replace h1 : r < 6 := h1; replace h3 : c < 4 := h3; exact (hg _ (Or.inr (by omega))).symm
  | 7, _ => replace h1 : r < 40 := h1; replace h3 : c < 8 := h3; exact (hg _ (Or.inr (by omega))).symm
  | 8, _ => replace h1 : r < 2 := h1; replace h3 : c < 2 := h3; exact (hg _ (And.intro (by omega) (by omega))).symm
  | 9, _ => replace h1 : r < 30 := h1; replace h3 : c < 4 := h3; exact (hg _ (Or.inr (by omega))).symm
  | 10, _ => replace h1 : r < 30 := h1; replace h3 : c < 2 := h3; exact (hg _ (Or.inr (by omega))).symm
theorem kR_cg {M M' : Int → Int} {k : Nat} (hk : k < 11) (hn : kN M k ≤ (kT k).2.2.2) (hg : ∀ i, kG k i → M' i = M i) (hm : M 0 ≤ M' 0 ∧ M 5 ≤ M' 5 ∧ M 6 ≤ M' 6 ∧ M 7 ≤ M' 7) (h : kR M k) : kR M' k := by
  match k, hk with
  | 0, _ =>
    replace hn : M 0 ≤ 8 := hn
    intro r h0 h1
    rw [hg 0 (Or.inl rfl)] at h1
    rw [hg _ (Or.inr (by omega)), hg (20 + 9 * r + 1) (Or.inr (by omega)), hg (20 + 9 * r + 2) (Or.inr (by omega)), hg (20 + 9 * r + 3) (Or.inr (by omega)), hg (20 + 9 * r + 4) (Or.inr (by omega)), hg (20 + 9 * r + 5) (Or.inr (by omega)), hg (20 + 9 * r + 6) (Or.inr (by omega)), hg (20 + 9 * r + 7) (Or.inr (by omega)), hg (20 + 9 * r + 8) (Or.inr (by omega))]
    exact h r h0 h1
  | 1, _ =>
    replace hn : M 1 ≤ 30 := hn
    intro r h0 h1
    rw [hg 1 (Or.inl rfl)] at h1
    rw [hg (92 + 7 * r + 4) (Or.inr (by omega)), hg (92 + 7 * r + 5) (Or.inr (by omega)), hg (92 + 7 * r + 6) (Or.inr (by omega))]
    exact h r h0 h1
  | 2, _ => trivial
  | 3, _ => trivial
  | 4, _ => trivial
  | 5, _ =>
    replace hn : M 6 ≤ 4 := hn
    intro r h0 h1
    rw [hg 6 (Or.inl rfl)] at h1
    rw [hg _ (Or.inr (by omega))]
    exact h r h0 h1
  | 6, _ =>
    replace hn : M 7 ≤ 6 := hn
    intro r h0 h1
    rw [hg 7 (Or.inl rfl)] at h1
    rw [hg (352 + 4 * r) (Or.inr (by omega)), hg (352 + 4 * r + 1) (Or.inr (by omega)), hg (352 + 4 * r + 2) (Or.inr (by omega)), hg (352 + 4 * r + 3) (Or.inr (by omega))]
    exact h r h0 h1
  | 7, _ =>
    replace hn : M 8 ≤ 40 := hn
    intro r h0 h1
    rw [hg 8 (Or.inl rfl)] at h1
    rw [hg (376 + 8 * r) (Or.inr (by omega)), hg (376 + 8 * r + 1) (Or.inr (by omega)), hg (376 + 8 * r + 2) (Or.inr (by omega)), hg (376 + 8 * r + 3) (Or.inr (by omega)), hg (376 + 8 * r + 4) (Or.inr (by omega)), hg (376 + 8 * r + 6) (Or.inr (by omega)), hg (376 + 8 * r + 7) (Or.inr (by omega))]
    have := h r h0 h1
    omega
  | 8, _ =>
    show (0 ≤ M' 876 ∧ _) ∧ (0 ≤ M' 877 ∧ _) ∧ (0 ≤ M' 878 ∧ _) ∧ (0 ≤ M' 879 ∧ _)
    rw [hg 876 ⟨by omega, by omega⟩, hg 877 ⟨by omega, by omega⟩, hg 878 ⟨by omega, by omega⟩, hg 879 ⟨by omega, by omega⟩]
    exact h
  | 9, _ =>
    replace hn : M 9 ≤ 30 := hn
    intro r h0 h1
    rw [hg 9 (Or.inl rfl)] at h1
    rw [hg (696 + 4 * r + 1) (Or.inr (by omega)), hg (696 + 4 * r + 2) (Or.inr (by omega))]
    exact h r h0 h1
  | 10, _ =>
    replace hn : M 10 ≤ 30 := hn
    intro r h0 h1
    rw [hg 10 (Or.inl rfl)] at h1
    rw [hg (816 + 2 * r + 1) (Or.inr (by omega))]
    exact h r h0 h1
/-- a table that nothing touched -/
theorem kI_mono {m m' : jMu} {o : Nat} {M M' : Int → Int} {k : Nat} (hk : k < 11) (h : kI m o M k) (ht : m' ((kT k).1 + o) = m ((kT k).1 + o)) (ha : m' ((kT k).1 + 1 + o) = m ((kT k).1 + 1 + o)) (hg : ∀ i, kG k i → M' i = M i) (hm : M 0 ≤ M' 0 ∧ M 5 ≤ M' 5 ∧ M 6 ≤ M' 6 ∧ M 7 ≤ M' 7) : kI m' o M' k := by
  obtain ⟨h1, h2⟩ := h
  refine ⟨?_, kR_cg hk h1.2.2.2.2.1 hg hm h2⟩
  rw [kN_congr hk hg]
  exact (h1.frame ht ha).congr (fun r c a1 a2 a3 a4 => kF_cg hk hg a1 (Int.lt_of_lt_of_le a2 h1.2.2.2.2.1) a3 a4)
theorem kX_al {M M' : Int → Int} (h0 : 0 ≤ M 5) (h3 : M 5 ≤ 3) (h : kR M 11) (hg : ∀ i, kG 11 i → M' i = M i) : M' 5 = M 5 ∧ (∀ q : Nat, (q : Int) ≤ M 5 → xAl M' q = xAl M q) ∧ kR M' 11 := by
  have h5 : M' 5 = M 5 := hg 5 (Or.inl rfl)
  have hl : ∀ t : Nat, (t : Int) < M 5 → M (880 + 401 * (t : Int)) ≤ 400 := fun t ht => (h t ht).1.2
  have hr : ∀ i, 880 ≤ i → i < 2083 → M' i = M i := fun i a b => hg i (Or.inr ⟨a, b⟩)
  refine ⟨h5, fun q hq => xAl_congr q (by omega) (fun t ht => hl t (by omega)) hr, ?_⟩
  intro t ht
  rw [h5] at ht
  have e := xTx_congr (by omega) (hl t ht) hr
  have e2 : xTx M' t = xTx M t := by unfold xTx; rw [e]
  rw [e, e2, hr _ (by omega) (by omega)]
  exact h t ht
theorem kI_monoX {m m' : jMu} {o : Nat} {M M' : Int → Int} (h11 : kI m o M 11) {k : Nat} (hk : 11 ≤ k) (hk' : k < 14) (h : kI m o M k) (ht : m' ((kT k).1 + o) = m ((kT k).1 + o)) (ha : m' ((kT k).1 + 1 + o) = m ((kT k).1 + 1 + o)) (hg : ∀ i, kG 11 i → M' i = M i) : kI m' o M' k := by
  obtain ⟨a1, a2⟩ := h11
  have b0 : 0 ≤ M 5 := a1.2.2.2.1
  have b3 : M 5 ≤ 3 := a1.2.2.2.2.1
  obtain ⟨c5, cq, cr⟩ := kX_al b0 b3 a2 hg
  have ca := cq (M 5).toNat (by omega)
  obtain ⟨h1, h2⟩ := h
  match k, hk, hk' with
  | 11, _, _ =>
    refine ⟨?_, cr⟩
    show TabR m' _ _ _ _ (M' 5) (fun r c => if c = 0 then ((xAl M' r.toNat).length : Int) else (xAl M' (r.toNat + 1)).length)
    rw [c5]
    refine (h1.frame ht ha).congr (fun r c d1 d2 d3 d4 => ?_)
    replace d2 : r < M 5 := d2
    show (if c = 0 then ((xAl M r.toNat).length : Int) else (xAl M (r.toNat + 1)).length) = _
    rw [cq r.toNat (by omega), cq (r.toNat + 1) (by omega)]
  | 12, _, _ =>
    refine ⟨?_, trivial⟩
    show TabR m' _ _ _ _ ((xAl M' (M' 5).toNat).length : Int) (fun r c => if c = 0 then ((xAl M' (M' 5).toNat).getD r.toNat (0, 0, [])).1 else if c = 1 then ((xAl M' (M' 5).toNat).getD r.toNat (0, 0, [])).2.1 else if c = 2 then (xCo ((xAl M' (M' 5).toNat).take r.toNat)).length else (xCo ((xAl M' (M' 5).toNat).take (r.toNat + 1))).length)
    rw [c5, ca]
    exact h1.frame ht ha
  | 13, _, _ =>
    refine ⟨?_, trivial⟩
    show TabR m' _ _ _ _ ((xCo (xAl M' (M' 5).toNat)).length : Int) (fun r _ => (xCo (xAl M' (M' 5).toNat)).getD r.toNat 0)
    rw [c5, ca]
    exact h1.frame ht ha
/-- the whole of a state where nothing that it reads changed -/
theorem kC_frame {m m' : jMu} {o : Nat} {M M' : Int → Int} (h : kC m o M) (hc : ∀ c, 1 + o ≤ c → c < 30 + o → m' c = m c) (hM : ∀ i, 0 ≤ i → i < 2083 → M' i = M i) : kC m' o M' := by
  obtain ⟨h1, h2⟩ := h
  have hG : ∀ k, ∀ i, kG k i → M' i = M i := by
    intro k i hi
    refine hM i ?_ ?_ <;> (unfold kG at hi; split at hi <;> omega)
  have hT : ∀ k, k < 14 → 1 ≤ (kT k).1 ∧ (kT k).1 + 1 < 30 := by decide
  refine ⟨fun k hk => ?_, ?_⟩
  · by_cases h3 : k < 11
    · refine kI_mono h3 (h1 k hk) (hc _ ?_ ?_) (hc _ ?_ ?_) (hG k) ?_
      · have := hT k hk; omega
      · have := hT k hk; omega
      · have := hT k hk; omega
      · have := hT k hk; omega
      · rw [hM 0 (by omega) (by omega), hM 5 (by omega) (by omega), hM 6 (by omega) (by omega), hM 7 (by omega) (by omega)]
        omega
    · refine kI_monoX (h1 11 (by omega)) (by omega) hk (h1 k hk) (hc _ ?_ ?_) (hc _ ?_ ?_) (hG 11)
      · have := hT k hk; omega
      · have := hT k hk; omega
      · have := hT k hk; omega
      · have := hT k hk; omega
  · unfold kD
    rw [hc _ (by omega) (by omega), hM 11 (by omega) (by omega), hM 12 (by omega) (by omega)]
    exact h2
