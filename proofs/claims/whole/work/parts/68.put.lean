/-! LEVEL 2: where one table and its counter were written -/
def kW (i : Int) : Nat := if i = 0 then 0 else if i = 1 then 1 else if i = 2 then 2 else if i = 3 then 3 else if i = 4 then 4 else if i = 5 then 11 else if i = 6 then 5 else if i = 7 then 6 else if i = 8 then 7 else if i = 9 then 9 else if i = 10 then 10 else if i < 20 then 14 else if i < 92 then 0 else if i < 302 then 1 else if i < 314 then 2 else if i < 324 then 3 else if i < 348 then 4 else if i < 352 then 5 else if i < 376 then 6 else if i < 696 then 7 else if i < 816 then 9 else if i < 876 then 10 else if i < 880 then 8 else 11
theorem kG_W {k : Nat} (hk : k < 12) {i : Int} (h : kG k i) : kW i = k := by
  match k, hk with
  | 0, _ => replace h : i = 0 ∨ (20 ≤ i ∧ i < 92) := h; unfold kW; simp (disch := omega) only [if_pos, if_neg]; rcases h with h | h <;> simp (disch := omega) only [if_pos, if_neg]
  | 1, _ => replace h : i = 1 ∨ (92 ≤ i ∧ i < 302) := h; unfold kW; rcases h with h | h <;> simp (disch := omega) only [if_pos, if_neg]
  | 2, _ => replace h : i = 2 ∨ (302 ≤ i ∧ i < 314) := h; unfold kW; rcases h with h | h <;> simp (disch := omega) only [if_pos, if_neg]
  | 3, _ => replace h : i = 3 ∨ (314 ≤ i ∧ i < 324) := h; unfold kW; rcases h with h | h <;> simp (disch := omega) only [if_pos, if_neg]
  | 4, _ => replace h : i = 4 ∨ (324 ≤ i ∧ i < 348) := h; unfold kW; rcases h with h | h <;> simp (disch := omega) only [if_pos, if_neg]
  | 5, _ => replace h : i = 6 ∨ (348 ≤ i ∧ i < 352) := h; unfold kW; rcases h with h | h <;> simp (disch := omega) only [if_pos, if_neg]
  | 6, _ => replace h : i = 7 ∨ (352 ≤ i ∧ i < 376) := h; unfold kW; rcases h with h | h <;> simp (disch := omega) only [if_pos, if_neg]
  | 7, _ => replace h : i = 8 ∨ (376 ≤ i ∧ i < 696) := h; unfold kW; rcases h with h | h <;> simp (disch := omega) only [if_pos, if_neg]
  | 8, _ => replace h : 876 ≤ i ∧ i < 880 := h; unfold kW; simp (disch := omega) only [if_pos, if_neg]
  | 9, _ => replace h : i = 9 ∨ (696 ≤ i ∧ i < 816) := h; unfold kW; rcases h with h | h <;> simp (disch := omega) only [if_pos, if_neg]
  | 10, _ => replace h : i = 10 ∨ (816 ≤ i ∧ i < 876) := h; unfold kW; rcases h with h | h <;> simp (disch := omega) only [if_pos, if_neg]
  | 11, _ => replace h : i = 5 ∨ (880 ≤ i ∧ i < 2083) := h; unfold kW; rcases h with h | h <;> simp (disch := omega) only [if_pos, if_neg]
theorem kT_ne : ∀ k, k < 14 → ∀ j, j < 14 → k ≠ j → (kT k).1 ≠ (kT j).1 ∧ (kT k).1 ≠ (kT j).1 + 1 ∧ (kT k).1 + 1 ≠ (kT j).1 := by decide
theorem kT_bd : ∀ k, k < 14 → 2 ≤ (kT k).1 ∧ (kT k).1 + 1 < 30 := by decide
/-- one table of the running state (but the texts') was written, on both sides -/
theorem kA_put {m m' : jMu} {k : Nat} (hk : k < 11) (hA : kA m) (hc : ∀ c, c ≠ (kT k).1 → c ≠ (kT k).1 + 1 → c ≠ 74 → c ≠ 75 → c ≠ 87 → c ≠ 32 → (c < 62 ∨ 73 < c) → m' c = m c) (h74 : m' 74 3 = m 74 3 ∧ m' 74 5 = m 74 5 ∧ m' 74 9 = m 74 9 ∧ (pE m → pE m')) (hM : ∀ i, ¬ kG k i → m' 75 i = m 75 i) (hm : m 75 0 ≤ m' 75 0 ∧ m 75 5 ≤ m' 75 5 ∧ m 75 6 ≤ m' 75 6 ∧ m 75 7 ≤ m' 75 7) (hI : kI m' 0 (m' 75) k) : kA m' := by
  obtain ⟨⟨h1, hd⟩, h2, h3, h4⟩ := hA
  have hb := kT_bd k (by omega)
  have hK : m' 76 = m 76 := hc 76 (by omega) (by omega) (by omega) (by omega) (by omega) (by omega) (by omega)
  have hg : ∀ j, j < 12 → j ≠ k → ∀ i, kG j i → m' 75 i = m 75 i := by
    intro j hj hjk i hi
    refine hM i (fun z => hjk ?_)
    rw [← kG_W hj hi, ← kG_W (by omega) z]
  refine ⟨⟨fun j hj => ?_, ?_⟩, ?_, ?_, ?_⟩
  · by_cases e : j = k
    · rw [e]; exact hI
    · have n1 := kT_ne j hj k (by omega) e
      have b1 := kT_bd j hj
      by_cases e2 : j < 11
      · exact kI_mono e2 (h1 j hj) (hc _ n1.1 n1.2.1 (by omega) (by omega) (by omega) (by omega) (by omega)) (hc _ n1.2.2 (by omega) (by omega) (by omega) (by omega) (by omega) (by omega)) (hg j (by omega) e) hm
      · exact kI_monoX (h1 11 (by omega)) (by omega) hj (h1 j hj) (hc _ n1.1 n1.2.1 (by omega) (by omega) (by omega) (by omega) (by omega)) (hc _ n1.2.2 (by omega) (by omega) (by omega) (by omega) (by omega) (by omega)) (hg 11 (by omega) (by omega))
  · have a1 : ¬ kG k 11 := fun z => by have h9 := kG_W (by omega) z; rw [show kW 11 = 14 from by decide] at h9; omega
    have a2 : ¬ kG k 12 := fun z => by have h9 := kG_W (by omega) z; rw [show kW 12 = 14 from by decide] at h9; omega
    unfold kD
    rw [hc _ (by omega) (by omega) (by omega) (by omega) (by omega) (by omega) (by omega), hM 11 a1, hM 12 a2]
    exact hd
  · rw [h74.1]
    exact h2.imp id (fun g => ⟨g.1, kC_frame g.2 (fun c a b => hc c (by omega) (by omega) (by omega) (by omega) (by omega) (by omega) (by omega)) (fun i _ _ => by rw [hK])⟩)
  · intro j hj
    have b1 := kT_bd j hj
    rw [hc _ (by omega) (by omega) (by omega) (by omega) (by omega) (by omega) (by omega)]
    exact h3 j hj
  · unfold kS
    rw [h74.1, h74.2.1, h74.2.2.1, hc 30 (by omega) (by omega) (by omega) (by omega) (by omega) (by omega) (by omega), hc 31 (by omega) (by omega) (by omega) (by omega) (by omega) (by omega) (by omega), hc 77 (by omega) (by omega) (by omega) (by omega) (by omega) (by omega) (by omega), hc 0 (by omega) (by omega) (by omega) (by omega) (by omega) (by omega) (by omega)]
    exact ⟨h4.1, h4.2.1, h4.2.2.1, h74.2.2.2 h4.2.2.2⟩
/-- a new row of zeros -/
theorem tb_add {m : jMu} {t a w : Nat} {cols lim n : Int} {f : Int → Int → Int} (S : TabS t a w cols lim) (h : TabR m t a cols lim n f) (hn : n < lim) : ∃ m', f_X5_addRow t a w m = some (n, m') ∧ TabR m' t a cols lim (n + 1) (fun r c => if r = n then 0 else f r c) ∧ ∀ c, c ≠ t → c ≠ a → m' c = m c := by
  have S' := S
  obtain ⟨g1, g2, g3, g4, g5, g6⟩ := h
  obtain ⟨s0, s1, s2, s3, s4, s5, s6⟩ := S
  have e := jrow (c := 0) g4 hn (by omega) s1
  have e2 : (n + 1) * cols ≤ lim * cols := Int.mul_le_mul_of_nonneg_right (by omega) (by omega)
  have e3 : (n + 1) * cols = n * cols + cols := by rw [Int.add_mul, Int.one_mul]
  unfold f_X5_addRow
  have w1 : jW (n + 1) = n + 1 := jW_of (by omega) (by omega)
  rw [g3, g1, if_pos hn, jlt_eq, w1]
  have k1 : jup m t 3 (n + 1) t 1 = cols := by rw [jup_j (by decide)]; exact g2
  have k3 : jup m t 3 (n + 1) t 3 = n + 1 := jup_s
  rw [k1, jW_of (by omega) (by omega)]
  have key := itn_loop (L := fun q i (s : jMu) => f_X5_addRow_L32 t a w q n i s) (fun i s => jup s a i 0) (fun s => (n, s)) (fun i s => s t = jup m t 3 (n + 1) t ∧ (∀ c, c ≠ a → s c = jup m t 3 (n + 1) c) ∧ (∀ j, (j < n * cols → s a j = m a j) ∧ (n * cols ≤ j → j < i → s a j = 0))) (lo := n * cols) (n := (n + 1) * cols) (by
    intro q i s h0 h1 hP
    refine ⟨?_, ?_, ?_, ?_⟩
    · show f_X5_addRow_L32 t a w (q + 1) n i s = _
      rw [f_X5_addRow_L32, hP.1, k1, k3]
      simp (disch := omega) only [jW_of, if_neg, if_pos, jlt_eq]
    · rw [← hP.1]; exact jup_c S'.1
    · intro c hc; rw [← hP.2.1 c hc]; exact jup_c hc
    · intro j
      have := hP.2.2 j
      by_cases hj : j = i
      · subst hj
        exact ⟨fun z => by omega, fun _ _ => jup_s⟩
      · rw [jup_j hj]
        exact ⟨this.1, fun z1 z2 => this.2 z1 (by omega)⟩) (by
    intro q s hP
    show f_X5_addRow_L32 t a w (q + 1) n _ s = _
    rw [f_X5_addRow_L32, hP.1, k1, k3]
    simp (disch := omega) only [jW_of, if_pos]) cols.toNat jFU (n * cols) (jup m t 3 (n + 1)) (by omega) (by omega) (by unfold jFU; omega) ⟨rfl, fun _ _ => rfl, fun j => ⟨fun _ => by rw [jup_c (Ne.symm s0)], fun z1 z2 => by omega⟩⟩
  refine ⟨_, key.1, ?_, fun c h1 h2 => ?_⟩
  · have P := key.2
    refine ⟨?_, ?_, ?_, by omega, by omega, fun r c h1 h2 h3 h4 => ?_⟩
    · rw [P.1, jup_j (by decide)]; exact g1
    · rw [P.1]; exact k1
    · rw [P.1]; exact k3
    · have q := P.2.2 (r * cols + c)
      show _ = if r = n then 0 else f r c
      by_cases hr : r = n
      · rw [if_pos hr]
        subst hr
        exact q.2 (by omega) (by omega)
      · rw [if_neg hr]
        have b : (r + 1) * cols ≤ n * cols := Int.mul_le_mul_of_nonneg_right (by omega) (by omega)
        rw [Int.add_mul] at b
        rw [q.1 (by omega)]
        exact g6 r c h1 (by omega) h3 h4
  · rw [key.2.2.1 c h2]
    exact jup_c h1
