/-! LEVEL 2: the image -/
theorem c_copy {m : jMu} {t a t2 a2 w : Nat} {cols lim n : Int} {f : Int → Int → Int} (S : TabS t2 a2 w cols lim) (h : TabR m t2 a2 cols lim n f) (d0 : m t 0 = lim) (d1 : m t 1 = cols) (x1 : t ≠ a) (x2 : t ≠ t2) (x3 : a ≠ t2) : ∃ m', f_X5_copyFrom t a w t2 a2 w m = some m' ∧ TabR m' t a cols lim n f ∧ ∀ c, c ≠ t → c ≠ a → m' c = m c := by
  obtain ⟨g1, g2, g3, g4, g5, g6⟩ := h
  obtain ⟨s0, s1, s2, s3, s4, s5, s6⟩ := S
  have n0 : 0 ≤ n * cols := Int.mul_nonneg g4 (by omega)
  have n1 : n * cols ≤ lim * cols := Int.mul_le_mul_of_nonneg_right g5 (by omega)
  have ej : jW (m t2 3 * m t2 1) = n * cols := by rw [g3, g2, jW_of (by omega) (by omega)]
  refine ⟨jup (jcpy m a2 a 0 0 (n * cols)) t 3 n, ?_, ⟨?_, ?_, jup_s, g4, g5, fun r c h1 h2 h3 h4 => ?_⟩, fun c h1 h2 => ?_⟩
  · unfold f_X5_copyFrom
    have e3 : jcpy m a2 a 0 0 (n * cols) t2 3 = n := by
      unfold jcpy
      rw [if_neg (fun z => x3 z.1.symm), g3]
    rw [ej, if_neg (by omega), if_neg (by omega), if_pos (by omega), if_pos (by omega), jlt_eq, jlt_eq, e3]
  · rw [jup_j (by decide)]
    unfold jcpy
    rw [if_neg (fun z => x1 z.1)]
    exact d0
  · rw [jup_j (by decide)]
    unfold jcpy
    rw [if_neg (fun z => x1 z.1)]
    exact d1
  · have e := jrow h1 h2 h3 h4
    rw [jup_c (Ne.symm x1)]
    unfold jcpy
    rw [if_pos ⟨rfl, by omega, by omega⟩, show (0 : Int) + (r * cols + c - 0) = r * cols + c by omega]
    exact g6 r c h1 h2 h3 h4
  · rw [jup_c h1]
    funext y
    unfold jcpy
    rw [if_neg (fun z => h2 z.1)]
theorem kT_S : ∀ k, k < 14 → TabS (kT k).1 ((kT k).1 + 1) (kT k).2.1 (kT k).2.2.1 (kT k).2.2.2 := by
  intro k hk
  unfold TabS
  revert k
  decide
/-- what holds while tables are copied -/
def kQ (m0 m : jMu) (o1 o2 : Nat) (M : Int → Int) (S : List Nat) : Prop := (∀ c, (c < 2 + o2 ∨ 30 + o2 ≤ c) → m c = m0 c) ∧ (∀ k, k < 14 → k ∈ S → TabR m ((kT k).1 + o2) ((kT k).1 + 1 + o2) (kT k).2.2.1 (kT k).2.2.2 (kN M k) (kF M k)) ∧ ∀ k, k < 14 → m ((kT k).1 + o2) 0 = (kT k).2.2.2 ∧ m ((kT k).1 + o2) 1 = (kT k).2.2.1
theorem kQ_st {m0 m : jMu} {o1 o2 : Nat} {M : Int → Int} {S : List Nat} (C : kC m0 o1 M) (ho : (o1 = 0 ∧ o2 = 32) ∨ (o1 = 32 ∧ o2 = 0)) (Q : kQ m0 m o1 o2 M S) (k : Nat) (hk : k < 14) (hn : k ∉ S) : ∃ m', f_X5_copyFrom ((kT k).1 + o2) ((kT k).1 + 1 + o2) (kT k).2.1 ((kT k).1 + o1) ((kT k).1 + 1 + o1) (kT k).2.1 m = some m' ∧ kQ m0 m' o1 o2 M (k :: S) := by
  obtain ⟨q1, q2, q3⟩ := Q
  have b := kT_bd k hk
  have hs : TabS ((kT k).1 + o1) ((kT k).1 + 1 + o1) (kT k).2.1 (kT k).2.2.1 (kT k).2.2.2 := by
    have := kT_S k hk
    exact ⟨by omega, this.2⟩
  have hsrc : TabR m ((kT k).1 + o1) ((kT k).1 + 1 + o1) (kT k).2.2.1 (kT k).2.2.2 (kN M k) (kF M k) := (C.1 k hk).1.frame (q1 _ (by omega)) (q1 _ (by omega))
  obtain ⟨m', e1, e2, e3⟩ := c_copy (t := (kT k).1 + o2) (a := (kT k).1 + 1 + o2) hs hsrc (q3 k hk).1 (q3 k hk).2 (by omega) (by omega) (by omega)
  refine ⟨m', e1, fun c hc => (e3 c (by omega) (by omega)).trans (q1 c hc), fun j hj hm => ?_, fun j hj => ?_⟩
  · by_cases e : j = k
    · rw [e]; exact e2
    · have n1 := kT_ne j hj k hk e
      refine (q2 j hj ?_).frame (e3 _ (by omega) (by omega)) (e3 _ (by omega) ?_)
      · rcases List.mem_cons.mp hm with z | z
        · exact (e z).elim
        · exact z
      · have n2 := kT_ne k hk j hj (Ne.symm e)
        omega
  · by_cases e : j = k
    · rw [e]; exact ⟨e2.1, e2.2.1⟩
    · have n1 := kT_ne j hj k hk e
      rw [e3 _ (by omega) (by omega)]
      exact q3 j hj
theorem c_img {m : jMu} {M : Int → Int} (C : kC m 0 M) (hz : ∀ k, k < 14 → m ((kT k).1 + 32) 0 = (kT k).2.2.2 ∧ m ((kT k).1 + 32) 1 = (kT k).2.2.1) : ∃ m', f_X4_copyFrom m = some m' ∧ kC m' 32 M ∧ ∀ c, (c < 1 + 32 ∨ 30 + 32 ≤ c) → m' c = m c := by
  have Q0 : kQ m m 0 32 M [] := ⟨fun _ _ => rfl, fun k _ h => (by cases h), hz⟩
  obtain ⟨m1, e1, Q1⟩ := kQ_st C (Or.inl ⟨rfl, rfl⟩) Q0 0 (by decide) (by decide)
  obtain ⟨m2, e2, Q2⟩ := kQ_st C (Or.inl ⟨rfl, rfl⟩) Q1 1 (by decide) (by decide)
  obtain ⟨m3, e3, Q3⟩ := kQ_st C (Or.inl ⟨rfl, rfl⟩) Q2 2 (by decide) (by decide)
  obtain ⟨m4, e4, Q4⟩ := kQ_st C (Or.inl ⟨rfl, rfl⟩) Q3 3 (by decide) (by decide)
  obtain ⟨m5, e5, Q5⟩ := kQ_st C (Or.inl ⟨rfl, rfl⟩) Q4 4 (by decide) (by decide)
  obtain ⟨m6, e6, Q6⟩ := kQ_st C (Or.inl ⟨rfl, rfl⟩) Q5 11 (by decide) (by decide)
  obtain ⟨m7, e7, Q7⟩ := kQ_st C (Or.inl ⟨rfl, rfl⟩) Q6 12 (by decide) (by decide)
  obtain ⟨m8, e8, Q8⟩ := kQ_st C (Or.inl ⟨rfl, rfl⟩) Q7 13 (by decide) (by decide)
  obtain ⟨m9, e9, Q9⟩ := kQ_st C (Or.inl ⟨rfl, rfl⟩) Q8 5 (by decide) (by decide)
  obtain ⟨m10, e10, Q10⟩ := kQ_st C (Or.inl ⟨rfl, rfl⟩) Q9 6 (by decide) (by decide)
  obtain ⟨m11, e11, Q11⟩ := kQ_st C (Or.inl ⟨rfl, rfl⟩) Q10 7 (by decide) (by decide)
  obtain ⟨m12, e12, Q12⟩ := kQ_st C (Or.inl ⟨rfl, rfl⟩) Q11 8 (by decide) (by decide)
  obtain ⟨m13, e13, Q13⟩ := kQ_st C (Or.inl ⟨rfl, rfl⟩) Q12 9 (by decide) (by decide)
  obtain ⟨m14, e14, Q14⟩ := kQ_st C (Or.inl ⟨rfl, rfl⟩) Q13 10 (by decide) (by decide)
  have ed14 : m14 1 14 = M 11 := by rw [Q14.1 1 (by omega)]; exact C.2.1
  have ed15 : jup m14 33 14 (M 11) 1 15 = M 12 := by rw [jup_c (by decide), Q14.1 1 (by omega)]; exact C.2.2.1
  refine ⟨jup (jup m14 33 14 (M 11)) 33 15 (M 12), ?_, ⟨fun k hk => ?_, ?_⟩, fun c hc => ?_⟩
  · unfold f_X4_copyFrom
    rw [show f_X5_copyFrom 36 37 80 4 5 80 m = some m1 from e1, Option.bind_some, show f_X5_copyFrom 38 39 210 6 7 210 m1 = some m2 from e2, Option.bind_some, show f_X5_copyFrom 40 41 12 8 9 12 m2 = some m3 from e3, Option.bind_some, show f_X5_copyFrom 42 43 10 10 11 10 m3 = some m4 from e4, Option.bind_some, show f_X5_copyFrom 44 45 24 12 13 24 m4 = some m5 from e5, Option.bind_some, show f_X5_copyFrom 46 47 6 14 15 6 m5 = some m6 from e6, Option.bind_some, show f_X5_copyFrom 48 49 160 16 17 160 m6 = some m7 from e7, Option.bind_some, show f_X5_copyFrom 50 51 1600 18 19 1600 m7 = some m8 from e8, Option.bind_some, show f_X5_copyFrom 52 53 4 20 21 4 m8 = some m9 from e9, Option.bind_some, show f_X5_copyFrom 54 55 24 22 23 24 m9 = some m10 from e10, Option.bind_some, show f_X5_copyFrom 56 57 320 24 25 320 m10 = some m11 from e11, Option.bind_some, show f_X5_copyFrom 34 35 4 2 3 4 m11 = some m12 from e12, Option.bind_some, show f_X5_copyFrom 58 59 120 26 27 120 m12 = some m13 from e13, Option.bind_some, show f_X5_copyFrom 60 61 60 28 29 60 m13 = some m14 from e14, Option.bind_some, jlt_eq, ed14, jlt_eq, ed15]
  · have b := kT_bd k hk
    refine ⟨(Q14.2.1 k hk ?_).frame ?_ ?_, (C.1 k hk).2⟩
    · revert k; decide
    · rw [jup_c (by omega), jup_c (by omega)]
    · rw [jup_c (by omega), jup_c (by omega)]
  · refine ⟨?_, jup_s, C.2.2.2⟩
    rw [jup_j (by decide), jup_s]
  · rw [jup_c (by omega), jup_c (by omega)]
    exact Q14.1 c (by omega)
theorem c_bck {m : jMu} {M : Int → Int} (C : kC m 32 M) (hz : ∀ k, k < 14 → m ((kT k).1 + 0) 0 = (kT k).2.2.2 ∧ m ((kT k).1 + 0) 1 = (kT k).2.2.1) : ∃ m', f_X4_copyFrom_2 m = some m' ∧ kC m' 0 M ∧ ∀ c, (c < 1 + 0 ∨ 30 + 0 ≤ c) → m' c = m c := by
  have Q0 : kQ m m 32 0 M [] := ⟨fun _ _ => rfl, fun k _ h => (by cases h), hz⟩
  obtain ⟨m1, e1, Q1⟩ := kQ_st C (Or.inr ⟨rfl, rfl⟩) Q0 0 (by decide) (by decide)
  obtain ⟨m2, e2, Q2⟩ := kQ_st C (Or.inr ⟨rfl, rfl⟩) Q1 1 (by decide) (by decide)
  obtain ⟨m3, e3, Q3⟩ := kQ_st C (Or.inr ⟨rfl, rfl⟩) Q2 2 (by decide) (by decide)
  obtain ⟨m4, e4, Q4⟩ := kQ_st C (Or.inr ⟨rfl, rfl⟩) Q3 3 (by decide) (by decide)
  obtain ⟨m5, e5, Q5⟩ := kQ_st C (Or.inr ⟨rfl, rfl⟩) Q4 4 (by decide) (by decide)
  obtain ⟨m6, e6, Q6⟩ := kQ_st C (Or.inr ⟨rfl, rfl⟩) Q5 11 (by decide) (by decide)
  obtain ⟨m7, e7, Q7⟩ := kQ_st C (Or.inr ⟨rfl, rfl⟩) Q6 12 (by decide) (by decide)
  obtain ⟨m8, e8, Q8⟩ := kQ_st C (Or.inr ⟨rfl, rfl⟩) Q7 13 (by decide) (by decide)
  obtain ⟨m9, e9, Q9⟩ := kQ_st C (Or.inr ⟨rfl, rfl⟩) Q8 5 (by decide) (by decide)
  obtain ⟨m10, e10, Q10⟩ := kQ_st C (Or.inr ⟨rfl, rfl⟩) Q9 6 (by decide) (by decide)
  obtain ⟨m11, e11, Q11⟩ := kQ_st C (Or.inr ⟨rfl, rfl⟩) Q10 7 (by decide) (by decide)
  obtain ⟨m12, e12, Q12⟩ := kQ_st C (Or.inr ⟨rfl, rfl⟩) Q11 8 (by decide) (by decide)
  obtain ⟨m13, e13, Q13⟩ := kQ_st C (Or.inr ⟨rfl, rfl⟩) Q12 9 (by decide) (by decide)
  obtain ⟨m14, e14, Q14⟩ := kQ_st C (Or.inr ⟨rfl, rfl⟩) Q13 10 (by decide) (by decide)
  have ed14 : m14 33 14 = M 11 := by rw [Q14.1 33 (by omega)]; exact C.2.1
  have ed15 : jup m14 1 14 (M 11) 33 15 = M 12 := by rw [jup_c (by decide), Q14.1 33 (by omega)]; exact C.2.2.1
  refine ⟨jup (jup m14 1 14 (M 11)) 1 15 (M 12), ?_, ⟨fun k hk => ?_, ?_⟩, fun c hc => ?_⟩
  · unfold f_X4_copyFrom_2
    rw [show f_X5_copyFrom 4 5 80 36 37 80 m = some m1 from e1, Option.bind_some, show f_X5_copyFrom 6 7 210 38 39 210 m1 = some m2 from e2, Option.bind_some, show f_X5_copyFrom 8 9 12 40 41 12 m2 = some m3 from e3, Option.bind_some, show f_X5_copyFrom 10 11 10 42 43 10 m3 = some m4 from e4, Option.bind_some, show f_X5_copyFrom 12 13 24 44 45 24 m4 = some m5 from e5, Option.bind_some, show f_X5_copyFrom 14 15 6 46 47 6 m5 = some m6 from e6, Option.bind_some, show f_X5_copyFrom 16 17 160 48 49 160 m6 = some m7 from e7, Option.bind_some, show f_X5_copyFrom 18 19 1600 50 51 1600 m7 = some m8 from e8, Option.bind_some, show f_X5_copyFrom 20 21 4 52 53 4 m8 = some m9 from e9, Option.bind_some, show f_X5_copyFrom 22 23 24 54 55 24 m9 = some m10 from e10, Option.bind_some, show f_X5_copyFrom 24 25 320 56 57 320 m10 = some m11 from e11, Option.bind_some, show f_X5_copyFrom 2 3 4 34 35 4 m11 = some m12 from e12, Option.bind_some, show f_X5_copyFrom 26 27 120 58 59 120 m12 = some m13 from e13, Option.bind_some, show f_X5_copyFrom 28 29 60 60 61 60 m13 = some m14 from e14, Option.bind_some, jlt_eq, ed14, jlt_eq, ed15]
  · have b := kT_bd k hk
    refine ⟨(Q14.2.1 k hk ?_).frame ?_ ?_, (C.1 k hk).2⟩
    · revert k; decide
    · rw [jup_c (by omega), jup_c (by omega)]
    · rw [jup_c (by omega), jup_c (by omega)]
  · refine ⟨?_, jup_s, C.2.2.2⟩
    rw [jup_j (by decide), jup_s]
  · rw [jup_c (by omega), jup_c (by omega)]
    exact Q14.1 c (by omega)
theorem k_image {m : jMu} (hA : kA m) : ∃ o, ((f_X9_image m).bind fun r1 => (f_X10_image r1).bind fun r2 => some r2) = some o ∧ kA o := by
  obtain ⟨m1, e1, C1, f1⟩ := c_img hA.1 hA.2.2.1
  obtain ⟨m2, I2, e2⟩ := itz_loop (L := fun q i (_ : Unit) m => f_X10_image_L7 q i m) (fun _ s => s) (fun _ m => jup m 74 3 1) (fun i _ m' => (∀ c, c ≠ 76 → m' c = jup (jup m1 0 8 1) 74 0 0 c) ∧ ∀ j, 0 ≤ j → j < i → m' 76 j = m 75 j) (lo := 0) (n := 2083) (by
    intro q i s m3 g0 g1 hI
    have e75 : m3 75 = m 75 := by rw [hI.1 75 (by decide), jup_c (by decide), jup_c (by decide), f1 75 (by omega)]
    refine ⟨jup m3 76 i (m 75 i), ⟨fun c hc => by rw [jup_c hc, hI.1 c hc], fun j j0 j1 => ?_⟩, ?_⟩
    · by_cases e : j = i
      · rw [e, jup_s]
      · rw [jup_j e]; exact hI.2 j j0 (by omega)
    · show f_X10_image_L7 (q + 1) i m3 = _
      rw [f_X10_image_L7, if_neg (by omega), if_pos (by omega), if_pos (by omega), jlt_eq, e75, jW_of (by omega) (by omega)]) (by
    intro q s m3 _
    show f_X10_image_L7 (q + 1) 2083 m3 = _
    rw [f_X10_image_L7, if_pos (by decide), jlt_eq]) 2083 jFU 0 () (jup (jup m1 0 8 1) 74 0 0) (Int.le_refl _) (by decide) (by unfold jFU; omega) ⟨fun _ _ => rfl, fun j a b => by omega⟩
  obtain ⟨i1, i2⟩ := I2
  have F : ∀ c, c ≠ 0 → c ≠ 74 → c ≠ 76 → jup m2 74 3 1 c = m1 c := fun c h1 h2 h3 => by rw [jup_c h2, i1 c h3, jup_c h2, jup_c h1]
  have F74 : ∀ j, j ≠ 0 → j ≠ 3 → jup m2 74 3 1 74 j = m 74 j := fun j h1 h2 => by rw [jup_j h2, i1 74 (by decide), jup_j h1, jup_c (by decide), f1 74 (by omega)]
  have F0 : ∀ j, j ≠ 8 → jup m2 74 3 1 0 j = m 0 j := fun j h1 => by rw [jup_c (by decide), i1 0 (by decide), jup_c (by decide), jup_j h1, f1 0 (by omega)]
  have F08 : jup m2 74 3 1 0 8 = 1 := by rw [jup_c (by decide), i1 0 (by decide), jup_c (by decide), jup_s]
  have q75 : jup m2 74 3 1 75 = m 75 := by rw [F 75 (by decide) (by decide) (by decide), f1 75 (by omega)]
  refine ⟨jup m2 74 3 1, ?_, ?_, Or.inr ⟨jup_s, ?_⟩, ?_, ?_⟩
  · unfold f_X9_image f_X10_image
    rw [e1, Option.bind_some, jlt_eq, Option.bind_some, jlt_eq, show f_X10_image_L7 jFU 0 (jup (jup m1 0 8 1) 74 0 0) = some (jup m2 74 3 1) from e2, Option.bind_some]
  · rw [q75]
    exact kC_frame hA.1 (fun c h1 h2 => by rw [F c (by omega) (by omega) (by omega), f1 c (by omega)]) (fun _ _ _ => rfl)
  · refine kC_frame C1 (fun c h1 h2 => F c (by omega) (by omega) (by omega)) (fun i h0 h1 => ?_)
    rw [jup_c (by decide)]
    exact i2 i h0 h1
  · intro k hk
    have b := kT_bd k hk
    rw [F _ (by omega) (by omega) (by omega)]
    exact ⟨(C1.1 k hk).1.1, (C1.1 k hk).1.2.1⟩
  · obtain ⟨s1, s2, s3, sE⟩ := hA.2.2.2
    refine ⟨?_, ?_, ?_, ?_⟩
    · rw [F74 5 (by decide) (by decide), F 30 (by decide) (by decide) (by decide), F 31 (by decide) (by decide) (by decide), F 77 (by decide) (by decide) (by decide), f1 30 (by omega), f1 31 (by omega), f1 77 (by omega)]
      exact s1
    · rw [F0 9 (by decide), F74 9 (by decide) (by decide)]
      exact s2
    · rw [F08, jup_s]
    · exact pE_cg (F74 12 (by decide) (by decide)) (F74 13 (by decide) (by decide)) (F74 14 (by decide) (by decide)) (by rw [F 78 (by decide) (by decide) (by decide), f1 78 (by omega)]) sE
theorem k_back {m : jMu} (hA : kA m) : ∃ o, ((f_X9_back m).bind fun r1 => (f_X10_back r1.2).bind fun r2 => (if r1.1 = r2.1 then some r2.2 else none)) = some o ∧ kA o := by
  obtain ⟨s1, s2, s3, sE⟩ := hA.2.2.2
  rcases hA.2.1 with h0 | ⟨h1, CK⟩
  · have a0 : m 0 8 = 0 := by rw [s3]; exact h0
    refine ⟨jup m 74 0 0, ?_, kA_fM hA (fM.thr m 0)⟩
    unfold f_X9_back f_X10_back
    rw [if_pos a0, Option.bind_some, jlt_eq, if_pos (by rw [jup_j (by decide)]; exact h0), Option.bind_some, if_pos rfl]
  · have a0 : ¬ m 0 8 = 0 := by rw [s3, h1]; decide
    obtain ⟨m1, e1, C1, f1⟩ := c_bck CK (fun k hk => ⟨(hA.1.1 k hk).1.1, (hA.1.1 k hk).1.2.1⟩)
    obtain ⟨m2, I2, e2⟩ := itz_loop (L := fun q i (_ : Unit) m => f_X10_back_L16 q i m) (fun _ s => s) (fun _ m => (1, m)) (fun i _ m' => (∀ c, c ≠ 75 → m' c = jup m1 74 0 0 c) ∧ ∀ j, 0 ≤ j → j < i → m' 75 j = m 76 j) (lo := 0) (n := 2083) (by
      intro q i s m3 g0 g1 hI
      have e76 : m3 76 = m 76 := by rw [hI.1 76 (by decide), jup_c (by decide), f1 76 (by omega)]
      refine ⟨jup m3 75 i (m 76 i), ⟨fun c hc => by rw [jup_c hc, hI.1 c hc], fun j j0 j1 => ?_⟩, ?_⟩
      · by_cases e : j = i
        · rw [e, jup_s]
        · rw [jup_j e]; exact hI.2 j j0 (by omega)
      · show f_X10_back_L16 (q + 1) i m3 = _
        rw [f_X10_back_L16, if_neg (by omega), if_pos (by omega), if_pos (by omega), jlt_eq, e76, jW_of (by omega) (by omega)]) (by
      intro q s m3 _
      show f_X10_back_L16 (q + 1) 2083 m3 = _
      rw [f_X10_back_L16, if_pos (by decide)]) 2083 jFU 0 () (jup m1 74 0 0) (Int.le_refl _) (by decide) (by unfold jFU; omega) ⟨fun _ _ => rfl, fun j a b => by omega⟩
    obtain ⟨i1, i2⟩ := I2
    have F : ∀ c, c ≠ 74 → c ≠ 75 → m2 c = m1 c := fun c h2 h3 => by rw [i1 c h3, jup_c h2]
    have F74 : ∀ j, j ≠ 0 → m2 74 j = m 74 j := fun j h1 => by rw [i1 74 (by decide), jup_j h1, f1 74 (by omega)]
    have q76 : m2 76 = m 76 := by rw [F 76 (by decide) (by decide), f1 76 (by omega)]
    refine ⟨m2, ?_, ?_, Or.inr ⟨by rw [F74 3 (by decide)]; exact h1, ?_⟩, ?_, ?_⟩
    · unfold f_X9_back f_X10_back
      rw [if_neg a0, e1, Option.bind_some, Option.bind_some, jlt_eq, if_neg (show ¬ jup m1 74 0 0 74 3 = 0 by rw [jup_j (by decide), f1 74 (by omega), h1]; decide), show f_X10_back_L16 jFU 0 (jup m1 74 0 0) = some (1, m2) from e2, Option.bind_some, if_pos rfl]
    · exact kC_frame C1 (fun c h1 h2 => F c (by omega) (by omega)) (fun i h0 h1 => i2 i h0 h1)
    · rw [q76]
      exact kC_frame CK (fun c h1 h2 => by rw [F c (by omega) (by omega), f1 c (by omega)]) (fun _ _ _ => rfl)
    · intro k hk
      have b := kT_bd k hk
      rw [F _ (by omega) (by omega), f1 _ (by omega)]
      exact hA.2.2.1 k hk
    · refine ⟨?_, ?_, ?_, ?_⟩
      · rw [F74 5 (by decide), F 30 (by decide) (by decide), F 31 (by decide) (by decide), F 77 (by decide) (by decide), f1 30 (by omega), f1 31 (by omega), f1 77 (by omega)]
        exact s1
      · rw [F74 9 (by decide), F 0 (by decide) (by decide), f1 0 (by omega)]
        exact s2
      · rw [F74 3 (by decide), F 0 (by decide) (by decide), f1 0 (by omega)]
        exact s3
      · exact pE_cg (F74 12 (by decide)) (F74 13 (by decide)) (F74 14 (by decide)) (by rw [F 78 (by decide) (by decide), f1 78 (by omega)]) sE
/-! the start -/
def tIni (m : jMu) (t a : Nat) (lim cols : Int) : jMu := jup (jzr (jup (jup (jzr m t) t 0 lim) t 1 cols) a) t 3 0
theorem tIni_c {m : jMu} {t a c : Nat} {lim cols : Int} (h1 : c ≠ t) (h2 : c ≠ a) : tIni m t a lim cols c = m c := by
  unfold tIni
  rw [jup_c h1, jzr_c h2, jup_c h1, jup_c h1, jzr_c h1]
theorem tIni_T {m : jMu} {t a : Nat} {lim cols : Int} (f : Int → Int → Int) (h : t ≠ a) (hl : 0 ≤ lim) : TabR (tIni m t a lim cols) t a cols lim 0 f := by
  refine ⟨?_, ?_, jup_s, Int.le_refl _, hl, fun r c h1 h2 => by omega⟩
  · unfold tIni
    rw [jup_j (by decide), jzr_c h, jup_j (by decide), jup_s]
  · unfold tIni
    rw [jup_j (by decide), jzr_c h, jup_s]
theorem c_ini {m : jMu} : ∃ m', f_X4_init m = some m' ∧ (∀ c, (c < 1 + 0 ∨ 30 + 0 ≤ c) → m' c = m c) ∧ (∀ k, k < 14 → k ≠ 8 → ∀ f, TabR m' ((kT k).1 + 0) ((kT k).1 + 1 + 0) (kT k).2.2.1 (kT k).2.2.2 0 f) ∧ TabR m' 2 3 2 2 2 (fun _ c => if c = 0 then 1 else 2) ∧ m' 1 14 = 0 ∧ m' 1 15 = 0 := by
  have hS : TabS 2 3 4 2 2 := by unfold TabS; decide
  have T0 : TabR (tIni m 2 3 2 2) 2 3 2 2 0 (fun _ _ => 0) := tIni_T _ (by decide) (by decide)
  obtain ⟨a1, x1, t1, f1⟩ := tb_add hS T0 (by decide)
  have d2 := tb_set (v := 1) (r := 0) (c := 0) hS t1 (by decide) (by decide) (by decide) (by decide)
  have u2 := TabR.set (v := 1) (r := 0) (c := 0) hS t1 (by decide) (by decide)
  have d3 := tb_set (v := 2) (r := 0) (c := 1) hS u2 (by decide) (by decide) (by decide) (by decide)
  have u3 := TabR.set (v := 2) (r := 0) (c := 1) hS u2 (by decide) (by decide)
  obtain ⟨a4, x4, t4, f4⟩ := tb_add hS u3 (by decide)
  have d5 := tb_set (v := 1) (r := 1) (c := 0) hS t4 (by decide) (by decide) (by decide) (by decide)
  have u5 := TabR.set (v := 1) (r := 1) (c := 0) hS t4 (by decide) (by decide)
  have d6 := tb_set (v := 2) (r := 1) (c := 1) hS u5 (by decide) (by decide) (by decide) (by decide)
  have u6 := TabR.set (v := 2) (r := 1) (c := 1) hS u5 (by decide) (by decide)
  generalize hr8 : jup (jup a4 3 (1 * 2 + 0) 1) 3 (1 * 2 + 1) 2 = r8 at *
  have fr : ∀ c, c ≠ 2 → c ≠ 3 → r8 c = m c := fun c h1 h2 => by rw [← hr8, jup_c h2, jup_c h2, f4 c h1 h2, jup_c h2, jup_c h2, f1 c h1 h2, tIni_c h1 h2]
  refine ⟨jup (jup (tIni (tIni (tIni (tIni (tIni (tIni (tIni (tIni (tIni (tIni (tIni (tIni (tIni (r8) 4 5 8 10) 6 7 30 7) 8 9 6 2) 10 11 5 2) 12 13 8 3) 14 15 3 2) 16 17 40 4) 18 19 1600 1) 20 21 4 1) 22 23 6 4) 24 25 40 8) 26 27 30 4) 28 29 30 2) 1 14 0) 1 15 0, ?_, fun c hc => ?_, fun k hk h8 f => ?_, ?_, ?_, ?_⟩
  · unfold f_X4_init
    have x0 : f_X5_init (jzr m 2) = some (tIni m 2 3 2 2) := rfl
    have x1' : f_X5_addRow 2 3 4 (tIni m 2 3 2 2) = some (0, a1) := x1
    have x4' : f_X5_addRow 2 3 4 (jup (jup a1 3 (0 * 2 + 0) 1) 3 (0 * 2 + 1) 2) = some (1, a4) := x4
    rw [jlt_eq, x0, Option.bind_some, x1', Option.bind_some, d2, Option.bind_some, d3, Option.bind_some, x4', Option.bind_some, d5, Option.bind_some, d6, Option.bind_some]
    rfl
  · simp (disch := omega) only [jup_c, tIni_c]
    exact fr c (by omega) (by omega)
  · obtain rfl | rfl | rfl | rfl | rfl | rfl | rfl | rfl | rfl | rfl | rfl | rfl | rfl : k = 0 ∨ k = 1 ∨ k = 2 ∨ k = 3 ∨ k = 4 ∨ k = 5 ∨ k = 6 ∨ k = 7 ∨ k = 9 ∨ k = 10 ∨ k = 11 ∨ k = 12 ∨ k = 13 := by omega
    · show TabR _ 4 5 10 8 0 f
      refine (tIni_T (m := r8) (t := 4) (a := 5) (lim := 8) (cols := 10) f (by decide) (by decide)).frame ?_ ?_
      · simp (disch := decide) only [jup_c, tIni_c]
      · simp (disch := decide) only [jup_c, tIni_c]
    · show TabR _ 6 7 7 30 0 f
      refine (tIni_T (m := (tIni r8 4 5 8 10)) (t := 6) (a := 7) (lim := 30) (cols := 7) f (by decide) (by decide)).frame ?_ ?_
      · simp (disch := decide) only [jup_c, tIni_c]
      · simp (disch := decide) only [jup_c, tIni_c]
    · show TabR _ 8 9 2 6 0 f
      refine (tIni_T (m := (tIni (tIni r8 4 5 8 10) 6 7 30 7)) (t := 8) (a := 9) (lim := 6) (cols := 2) f (by decide) (by decide)).frame ?_ ?_
      · simp (disch := decide) only [jup_c, tIni_c]
      · simp (disch := decide) only [jup_c, tIni_c]
    · show TabR _ 10 11 2 5 0 f
      refine (tIni_T (m := (tIni (tIni (tIni r8 4 5 8 10) 6 7 30 7) 8 9 6 2)) (t := 10) (a := 11) (lim := 5) (cols := 2) f (by decide) (by decide)).frame ?_ ?_
      · simp (disch := decide) only [jup_c, tIni_c]
      · simp (disch := decide) only [jup_c, tIni_c]
    · show TabR _ 12 13 3 8 0 f
      refine (tIni_T (m := (tIni (tIni (tIni (tIni r8 4 5 8 10) 6 7 30 7) 8 9 6 2) 10 11 5 2)) (t := 12) (a := 13) (lim := 8) (cols := 3) f (by decide) (by decide)).frame ?_ ?_
      · simp (disch := decide) only [jup_c, tIni_c]
      · simp (disch := decide) only [jup_c, tIni_c]
    · show TabR _ 20 21 1 4 0 f
      refine (tIni_T (m := (tIni (tIni (tIni (tIni (tIni (tIni (tIni (tIni r8 4 5 8 10) 6 7 30 7) 8 9 6 2) 10 11 5 2) 12 13 8 3) 14 15 3 2) 16 17 40 4) 18 19 1600 1)) (t := 20) (a := 21) (lim := 4) (cols := 1) f (by decide) (by decide)).frame ?_ ?_
      · simp (disch := decide) only [jup_c, tIni_c]
      · simp (disch := decide) only [jup_c, tIni_c]
    · show TabR _ 22 23 4 6 0 f
      refine (tIni_T (m := (tIni (tIni (tIni (tIni (tIni (tIni (tIni (tIni (tIni r8 4 5 8 10) 6 7 30 7) 8 9 6 2) 10 11 5 2) 12 13 8 3) 14 15 3 2) 16 17 40 4) 18 19 1600 1) 20 21 4 1)) (t := 22) (a := 23) (lim := 6) (cols := 4) f (by decide) (by decide)).frame ?_ ?_
      · simp (disch := decide) only [jup_c, tIni_c]
      · simp (disch := decide) only [jup_c, tIni_c]
    · show TabR _ 24 25 8 40 0 f
      refine (tIni_T (m := (tIni (tIni (tIni (tIni (tIni (tIni (tIni (tIni (tIni (tIni r8 4 5 8 10) 6 7 30 7) 8 9 6 2) 10 11 5 2) 12 13 8 3) 14 15 3 2) 16 17 40 4) 18 19 1600 1) 20 21 4 1) 22 23 6 4)) (t := 24) (a := 25) (lim := 40) (cols := 8) f (by decide) (by decide)).frame ?_ ?_
      · simp (disch := decide) only [jup_c, tIni_c]
      · simp (disch := decide) only [jup_c, tIni_c]
    · show TabR _ 26 27 4 30 0 f
      refine (tIni_T (m := (tIni (tIni (tIni (tIni (tIni (tIni (tIni (tIni (tIni (tIni (tIni r8 4 5 8 10) 6 7 30 7) 8 9 6 2) 10 11 5 2) 12 13 8 3) 14 15 3 2) 16 17 40 4) 18 19 1600 1) 20 21 4 1) 22 23 6 4) 24 25 40 8)) (t := 26) (a := 27) (lim := 30) (cols := 4) f (by decide) (by decide)).frame ?_ ?_
      · simp (disch := decide) only [jup_c, tIni_c]
      · simp (disch := decide) only [jup_c, tIni_c]
    · show TabR _ 28 29 2 30 0 f
      refine (tIni_T (m := (tIni (tIni (tIni (tIni (tIni (tIni (tIni (tIni (tIni (tIni (tIni (tIni r8 4 5 8 10) 6 7 30 7) 8 9 6 2) 10 11 5 2) 12 13 8 3) 14 15 3 2) 16 17 40 4) 18 19 1600 1) 20 21 4 1) 22 23 6 4) 24 25 40 8) 26 27 30 4)) (t := 28) (a := 29) (lim := 30) (cols := 2) f (by decide) (by decide)).frame ?_ ?_
      · simp (disch := decide) only [jup_c, tIni_c]
      · simp (disch := decide) only [jup_c, tIni_c]
    · show TabR _ 14 15 2 3 0 f
      refine (tIni_T (m := (tIni (tIni (tIni (tIni (tIni r8 4 5 8 10) 6 7 30 7) 8 9 6 2) 10 11 5 2) 12 13 8 3)) (t := 14) (a := 15) (lim := 3) (cols := 2) f (by decide) (by decide)).frame ?_ ?_
      · simp (disch := decide) only [jup_c, tIni_c]
      · simp (disch := decide) only [jup_c, tIni_c]
    · show TabR _ 16 17 4 40 0 f
      refine (tIni_T (m := (tIni (tIni (tIni (tIni (tIni (tIni r8 4 5 8 10) 6 7 30 7) 8 9 6 2) 10 11 5 2) 12 13 8 3) 14 15 3 2)) (t := 16) (a := 17) (lim := 40) (cols := 4) f (by decide) (by decide)).frame ?_ ?_
      · simp (disch := decide) only [jup_c, tIni_c]
      · simp (disch := decide) only [jup_c, tIni_c]
    · show TabR _ 18 19 1 1600 0 f
      refine (tIni_T (m := (tIni (tIni (tIni (tIni (tIni (tIni (tIni r8 4 5 8 10) 6 7 30 7) 8 9 6 2) 10 11 5 2) 12 13 8 3) 14 15 3 2) 16 17 40 4)) (t := 18) (a := 19) (lim := 1600) (cols := 1) f (by decide) (by decide)).frame ?_ ?_
      · simp (disch := decide) only [jup_c, tIni_c]
      · simp (disch := decide) only [jup_c, tIni_c]
  · refine (u6.frame (by simp (disch := decide) only [jup_c, tIni_c]) (by simp (disch := decide) only [jup_c, tIni_c])).congr (fun r c h1 h2 h3 h4 => ?_)
    obtain rfl | rfl : r = 0 ∨ r = 1 := by omega
    · obtain rfl | rfl : c = 0 ∨ c = 1 := by omega
      · rfl
      · rfl
    · obtain rfl | rfl : c = 0 ∨ c = 1 := by omega
      · rfl
      · rfl
  · rw [jup_j (by decide), jup_s]
  · exact jup_s
theorem c_ini2 {m : jMu} : ∃ m', f_X4_init_2 m = some m' ∧ (∀ c, (c < 1 + 32 ∨ 30 + 32 ≤ c) → m' c = m c) ∧ (∀ k, k < 14 → k ≠ 8 → ∀ f, TabR m' ((kT k).1 + 32) ((kT k).1 + 1 + 32) (kT k).2.2.1 (kT k).2.2.2 0 f) ∧ TabR m' 34 35 2 2 2 (fun _ c => if c = 0 then 1 else 2) ∧ m' 33 14 = 0 ∧ m' 33 15 = 0 := by
  have hS : TabS 34 35 4 2 2 := by unfold TabS; decide
  have T0 : TabR (tIni m 34 35 2 2) 34 35 2 2 0 (fun _ _ => 0) := tIni_T _ (by decide) (by decide)
  obtain ⟨a1, x1, t1, f1⟩ := tb_add hS T0 (by decide)
  have d2 := tb_set (v := 1) (r := 0) (c := 0) hS t1 (by decide) (by decide) (by decide) (by decide)
  have u2 := TabR.set (v := 1) (r := 0) (c := 0) hS t1 (by decide) (by decide)
  have d3 := tb_set (v := 2) (r := 0) (c := 1) hS u2 (by decide) (by decide) (by decide) (by decide)
  have u3 := TabR.set (v := 2) (r := 0) (c := 1) hS u2 (by decide) (by decide)
  obtain ⟨a4, x4, t4, f4⟩ := tb_add hS u3 (by decide)
  have d5 := tb_set (v := 1) (r := 1) (c := 0) hS t4 (by decide) (by decide) (by decide) (by decide)
  have u5 := TabR.set (v := 1) (r := 1) (c := 0) hS t4 (by decide) (by decide)
  have d6 := tb_set (v := 2) (r := 1) (c := 1) hS u5 (by decide) (by decide) (by decide) (by decide)
  have u6 := TabR.set (v := 2) (r := 1) (c := 1) hS u5 (by decide) (by decide)
  generalize hr8 : jup (jup a4 35 (1 * 2 + 0) 1) 35 (1 * 2 + 1) 2 = r8 at *
  have fr : ∀ c, c ≠ 34 → c ≠ 35 → r8 c = m c := fun c h1 h2 => by rw [← hr8, jup_c h2, jup_c h2, f4 c h1 h2, jup_c h2, jup_c h2, f1 c h1 h2, tIni_c h1 h2]
  refine ⟨jup (jup (tIni (tIni (tIni (tIni (tIni (tIni (tIni (tIni (tIni (tIni (tIni (tIni (tIni (r8) 36 37 8 10) 38 39 30 7) 40 41 6 2) 42 43 5 2) 44 45 8 3) 46 47 3 2) 48 49 40 4) 50 51 1600 1) 52 53 4 1) 54 55 6 4) 56 57 40 8) 58 59 30 4) 60 61 30 2) 33 14 0) 33 15 0, ?_, fun c hc => ?_, fun k hk h8 f => ?_, ?_, ?_, ?_⟩
  · unfold f_X4_init_2
    have x0 : f_X5_init_15 (jzr m 34) = some (tIni m 34 35 2 2) := rfl
    have x1' : f_X5_addRow 34 35 4 (tIni m 34 35 2 2) = some (0, a1) := x1
    have x4' : f_X5_addRow 34 35 4 (jup (jup a1 35 (0 * 2 + 0) 1) 35 (0 * 2 + 1) 2) = some (1, a4) := x4
    rw [jlt_eq, x0, Option.bind_some, x1', Option.bind_some, d2, Option.bind_some, d3, Option.bind_some, x4', Option.bind_some, d5, Option.bind_some, d6, Option.bind_some]
    rfl
  · simp (disch := omega) only [jup_c, tIni_c]
    exact fr c (by omega) (by omega)
  · obtain rfl | rfl | rfl | rfl | rfl | rfl | rfl | rfl | rfl | rfl | rfl | rfl | rfl : k = 0 ∨ k = 1 ∨ k = 2 ∨ k = 3 ∨ k = 4 ∨ k = 5 ∨ k = 6 ∨ k = 7 ∨ k = 9 ∨ k = 10 ∨ k = 11 ∨ k = 12 ∨ k = 13 := by omega
    · show TabR _ 36 37 10 8 0 f
      refine (tIni_T (m := r8) (t := 36) (a := 37) (lim := 8) (cols := 10) f (by decide) (by decide)).frame ?_ ?_
      · simp (disch := decide) only [jup_c, tIni_c]
      · simp (disch := decide) only [jup_c, tIni_c]
    · show TabR _ 38 39 7 30 0 f
      refine (tIni_T (m := (tIni r8 36 37 8 10)) (t := 38) (a := 39) (lim := 30) (cols := 7) f (by decide) (by decide)).frame ?_ ?_
      · simp (disch := decide) only [jup_c, tIni_c]
      · simp (disch := decide) only [jup_c, tIni_c]
    · show TabR _ 40 41 2 6 0 f
      refine (tIni_T (m := (tIni (tIni r8 36 37 8 10) 38 39 30 7)) (t := 40) (a := 41) (lim := 6) (cols := 2) f (by decide) (by decide)).frame ?_ ?_
      · simp (disch := decide) only [jup_c, tIni_c]
      · simp (disch := decide) only [jup_c, tIni_c]
    · show TabR _ 42 43 2 5 0 f
      refine (tIni_T (m := (tIni (tIni (tIni r8 36 37 8 10) 38 39 30 7) 40 41 6 2)) (t := 42) (a := 43) (lim := 5) (cols := 2) f (by decide) (by decide)).frame ?_ ?_
      · simp (disch := decide) only [jup_c, tIni_c]
      · simp (disch := decide) only [jup_c, tIni_c]
    · show TabR _ 44 45 3 8 0 f
      refine (tIni_T (m := (tIni (tIni (tIni (tIni r8 36 37 8 10) 38 39 30 7) 40 41 6 2) 42 43 5 2)) (t := 44) (a := 45) (lim := 8) (cols := 3) f (by decide) (by decide)).frame ?_ ?_
      · simp (disch := decide) only [jup_c, tIni_c]
      · simp (disch := decide) only [jup_c, tIni_c]
    · show TabR _ 52 53 1 4 0 f
      refine (tIni_T (m := (tIni (tIni (tIni (tIni (tIni (tIni (tIni (tIni r8 36 37 8 10) 38 39 30 7) 40 41 6 2) 42 43 5 2) 44 45 8 3) 46 47 3 2) 48 49 40 4) 50 51 1600 1)) (t := 52) (a := 53) (lim := 4) (cols := 1) f (by decide) (by decide)).frame ?_ ?_
      · simp (disch := decide) only [jup_c, tIni_c]
      · simp (disch := decide) only [jup_c, tIni_c]
    · show TabR _ 54 55 4 6 0 f
      refine (tIni_T (m := (tIni (tIni (tIni (tIni (tIni (tIni (tIni (tIni (tIni r8 36 37 8 10) 38 39 30 7) 40 41 6 2) 42 43 5 2) 44 45 8 3) 46 47 3 2) 48 49 40 4) 50 51 1600 1) 52 53 4 1)) (t := 54) (a := 55) (lim := 6) (cols := 4) f (by decide) (by decide)).frame ?_ ?_
      · simp (disch := decide) only [jup_c, tIni_c]
      · simp (disch := decide) only [jup_c, tIni_c]
    · show TabR _ 56 57 8 40 0 f
      refine (tIni_T (m := (tIni (tIni (tIni (tIni (tIni (tIni (tIni (tIni (tIni (tIni r8 36 37 8 10) 38 39 30 7) 40 41 6 2) 42 43 5 2) 44 45 8 3) 46 47 3 2) 48 49 40 4) 50 51 1600 1) 52 53 4 1) 54 55 6 4)) (t := 56) (a := 57) (lim := 40) (cols := 8) f (by decide) (by decide)).frame ?_ ?_
      · simp (disch := decide) only [jup_c, tIni_c]
      · simp (disch := decide) only [jup_c, tIni_c]
    · show TabR _ 58 59 4 30 0 f
      refine (tIni_T (m := (tIni (tIni (tIni (tIni (tIni (tIni (tIni (tIni (tIni (tIni (tIni r8 36 37 8 10) 38 39 30 7) 40 41 6 2) 42 43 5 2) 44 45 8 3) 46 47 3 2) 48 49 40 4) 50 51 1600 1) 52 53 4 1) 54 55 6 4) 56 57 40 8)) (t := 58) (a := 59) (lim := 30) (cols := 4) f (by decide) (by decide)).frame ?_ ?_
      · simp (disch := decide) only [jup_c, tIni_c]
      · simp (disch := decide) only [jup_c, tIni_c]
    · show TabR _ 60 61 2 30 0 f
      refine (tIni_T (m := (tIni (tIni (tIni (tIni (tIni (tIni (tIni (tIni (tIni (tIni (tIni (tIni r8 36 37 8 10) 38 39 30 7) 40 41 6 2) 42 43 5 2) 44 45 8 3) 46 47 3 2) 48 49 40 4) 50 51 1600 1) 52 53 4 1) 54 55 6 4) 56 57 40 8) 58 59 30 4)) (t := 60) (a := 61) (lim := 30) (cols := 2) f (by decide) (by decide)).frame ?_ ?_
      · simp (disch := decide) only [jup_c, tIni_c]
      · simp (disch := decide) only [jup_c, tIni_c]
    · show TabR _ 46 47 2 3 0 f
      refine (tIni_T (m := (tIni (tIni (tIni (tIni (tIni r8 36 37 8 10) 38 39 30 7) 40 41 6 2) 42 43 5 2) 44 45 8 3)) (t := 46) (a := 47) (lim := 3) (cols := 2) f (by decide) (by decide)).frame ?_ ?_
      · simp (disch := decide) only [jup_c, tIni_c]
      · simp (disch := decide) only [jup_c, tIni_c]
    · show TabR _ 48 49 4 40 0 f
      refine (tIni_T (m := (tIni (tIni (tIni (tIni (tIni (tIni r8 36 37 8 10) 38 39 30 7) 40 41 6 2) 42 43 5 2) 44 45 8 3) 46 47 3 2)) (t := 48) (a := 49) (lim := 40) (cols := 4) f (by decide) (by decide)).frame ?_ ?_
      · simp (disch := decide) only [jup_c, tIni_c]
      · simp (disch := decide) only [jup_c, tIni_c]
    · show TabR _ 50 51 1 1600 0 f
      refine (tIni_T (m := (tIni (tIni (tIni (tIni (tIni (tIni (tIni r8 36 37 8 10) 38 39 30 7) 40 41 6 2) 42 43 5 2) 44 45 8 3) 46 47 3 2) 48 49 40 4)) (t := 50) (a := 51) (lim := 1600) (cols := 1) f (by decide) (by decide)).frame ?_ ?_
      · simp (disch := decide) only [jup_c, tIni_c]
      · simp (disch := decide) only [jup_c, tIni_c]
  · refine (u6.frame (by simp (disch := decide) only [jup_c, tIni_c]) (by simp (disch := decide) only [jup_c, tIni_c])).congr (fun r c h1 h2 h3 h4 => ?_)
    obtain rfl | rfl : r = 0 ∨ r = 1 := by omega
    · obtain rfl | rfl : c = 0 ∨ c = 1 := by omega
      · rfl
      · rfl
    · obtain rfl | rfl : c = 0 ∨ c = 1 := by omega
      · rfl
      · rfl
  · rw [jup_j (by decide), jup_s]
  · exact jup_s
theorem k_start : ∃ o, f_law_start (fun _ _ => 0) = some o ∧ kA o := by
  obtain ⟨m2, e2, f2, t2, l2, a2, b2⟩ := c_ini (m := jzr (jzr (fun _ _ => 0) 0) 1)
  obtain ⟨m8, e8, f8, t8, l8, a8, b8⟩ := c_ini2 (m := jzr (jzr (jup (jzr (jzr m2 30) 31) 30 1 0) 32) 33)
  have E9 : f_X9_init (jzr (fun _ _ => 0) 0) = some (jup (jup (jzr (jzr (jzr (jzr (jzr (jzr (jzr (jzr (jzr (jzr (jzr (jzr m8 62) 63) 64) 65) 66) 67) 68) 69) 70) 71) 72) 73) 0 8 0) 0 9 (-1)) := by
    unfold f_X9_init
    rw [jlt_eq, e2, Option.bind_some, jlt_eq]
    unfold f_X6_init f_X1_init
    rw [jlt_eq, jlt_eq, Option.bind_some, jlt_eq, Option.bind_some, jlt_eq, e8]
    rfl
  generalize hx : jup (jup (jzr (jzr (jzr (jzr (jzr (jzr (jzr (jzr (jzr (jzr (jzr (jzr m8 62) 63) 64) 65) 66) 67) 68) 69) 70) 71) 72) 73) 0 8 0) 0 9 (-1) = mx at *
  have x8 : ∀ c, 1 ≤ c → c < 62 → mx c = m8 c := fun c h1 h2 => by
    rw [← hx]
    simp (disch := omega) only [jup_c, jzr_c]
  have x2 : ∀ c, 1 ≤ c → c < 30 → mx c = m2 c := fun c h1 h2 => by
    rw [x8 c h1 (by omega), f8 c (by omega)]
    simp (disch := omega) only [jup_c, jzr_c]
  have x08 : mx 0 8 = 0 := by rw [← hx, jup_j (by decide), jup_s]
  have x09 : mx 0 9 = -1 := by rw [← hx, jup_s]
  have x30 : mx 30 1 = 0 := by
    rw [x8 30 (by decide) (by decide), f8 30 (by omega)]
    simp (disch := decide) only [jzr_c, jup_s]
  let ox : jMu := jzr (jup (jup (jup (jup (jzr (jzr (jzr (jzr (jzr (jzr (jzr (jzr (jzr (jup (jzr (jzr (jzr (jzr mx 74) 75) 76) 77) 74 9 (-1)) 78) 79) 80) 81) 82) 83) 84) 85) 86) 75 876 1) 75 877 2) 75 878 1) 75 879 2) 87
  have oc : ∀ c, c < 74 → ox c = mx c := fun c h => by
    show jzr (jup (jup (jup (jup (jzr (jzr (jzr (jzr (jzr (jzr (jzr (jzr (jzr (jup (jzr (jzr (jzr (jzr mx 74) 75) 76) 77) 74 9 (-1)) 78) 79) 80) 81) 82) 83) 84) 85) 86) 75 876 1) 75 877 2) 75 878 1) 75 879 2) 87 c = mx c
    simp (disch := omega) only [jup_c, jzr_c]
  have o74 : ∀ j, j ≠ 9 → ox 74 j = 0 := fun j h => by
    show jzr (jup (jup (jup (jup (jzr (jzr (jzr (jzr (jzr (jzr (jzr (jzr (jzr (jup (jzr (jzr (jzr (jzr mx 74) 75) 76) 77) 74 9 (-1)) 78) 79) 80) 81) 82) 83) 84) 85) 86) 75 876 1) 75 877 2) 75 878 1) 75 879 2) 87 74 j = 0
    simp (disch := omega) only [jup_c, jzr_c, jup_j, jzr_s]
  have o749 : ox 74 9 = -1 := by
    show jzr (jup (jup (jup (jup (jzr (jzr (jzr (jzr (jzr (jzr (jzr (jzr (jzr (jup (jzr (jzr (jzr (jzr mx 74) 75) 76) 77) 74 9 (-1)) 78) 79) 80) 81) 82) 83) 84) 85) 86) 75 876 1) 75 877 2) 75 878 1) 75 879 2) 87 74 9 = -1
    simp (disch := omega) only [jup_c, jzr_c, jup_s]
  have o75 : ∀ j, j < 876 ∨ 879 < j → ox 75 j = 0 := fun j h => by
    show jzr (jup (jup (jup (jup (jzr (jzr (jzr (jzr (jzr (jzr (jzr (jzr (jzr (jup (jzr (jzr (jzr (jzr mx 74) 75) 76) 77) 74 9 (-1)) 78) 79) 80) 81) 82) 83) 84) 85) 86) 75 876 1) 75 877 2) 75 878 1) 75 879 2) 87 75 j = 0
    simp (disch := omega) only [jup_c, jzr_c, jup_j, jzr_s]
  have o78 : ∀ j, ox 78 j = 0 := fun j => by
    show jzr (jup (jup (jup (jup (jzr (jzr (jzr (jzr (jzr (jzr (jzr (jzr (jzr (jup (jzr (jzr (jzr (jzr mx 74) 75) 76) 77) 74 9 (-1)) 78) 79) 80) 81) 82) 83) 84) 85) 86) 75 876 1) 75 877 2) 75 878 1) 75 879 2) 87 78 j = 0
    simp (disch := omega) only [jup_c, jzr_c, jzr_s]
  have o876 : ox 75 876 = 1 ∧ ox 75 877 = 2 ∧ ox 75 878 = 1 ∧ ox 75 879 = 2 := ⟨rfl, rfl, rfl, rfl⟩
  have z5 : ox 75 5 = 0 := o75 5 (by omega)
  have hN : ∀ k, k < 14 → k ≠ 8 → kN (ox 75) k = 0 := by
    intro k hk h8
    have A0 : xAl (ox 75) (ox 75 5).toNat = [] := by rw [z5]; rfl
    obtain rfl | rfl | rfl | rfl | rfl | rfl | rfl | rfl | rfl | rfl | rfl | rfl | rfl : k = 0 ∨ k = 1 ∨ k = 2 ∨ k = 3 ∨ k = 4 ∨ k = 5 ∨ k = 6 ∨ k = 7 ∨ k = 9 ∨ k = 10 ∨ k = 11 ∨ k = 12 ∨ k = 13 := by omega
    · exact o75 0 (by omega)
    · exact o75 1 (by omega)
    · exact o75 2 (by omega)
    · exact o75 3 (by omega)
    · exact o75 4 (by omega)
    · exact o75 6 (by omega)
    · exact o75 7 (by omega)
    · exact o75 8 (by omega)
    · exact o75 9 (by omega)
    · exact o75 10 (by omega)
    · exact z5
    · show (((xAl (ox 75) (ox 75 5).toNat).length : Nat) : Int) = 0
      rw [A0]; rfl
    · show (((xCo (xAl (ox 75) (ox 75 5).toNat)).length : Nat) : Int) = 0
      rw [A0]; rfl
  refine ⟨ox, ?_, ⟨fun k hk => ?_, ?_⟩, Or.inl (o74 3 (by decide)), fun k hk => ?_, ⟨?_, ?_, ?_, fun j h1 h2 => ?_⟩, ?_, ?_, ⟨Or.inl (o74 12 (by decide)), Or.inl (o74 13 (by decide)), Or.inl (o74 14 (by decide)), fun k _ _ => by rw [o78 k]; decide⟩⟩
  · unfold f_law_start
    rw [jlt_eq, E9, Option.bind_some, jlt_eq]
    rfl
  · have b := kT_bd k hk
    by_cases h8 : k = 8
    · subst h8
      refine ⟨?_, ?_⟩
      · refine (l2.frame ((oc 2 (by decide)).trans (x2 2 (by decide) (by decide))) ((oc 3 (by decide)).trans (x2 3 (by decide) (by decide)))).congr (fun r c h1 h2 h3 h4 => ?_)
        show (if c = 0 then (1 : Int) else 2) = ox 75 (876 + 2 * r + c)
        obtain rfl | rfl : r = 0 ∨ r = 1 := by omega
        · obtain rfl | rfl : c = 0 ∨ c = 1 := by omega
          · rfl
          · rfl
        · obtain rfl | rfl : c = 0 ∨ c = 1 := by omega
          · rfl
          · rfl
      · show (0 ≤ ox 75 876 ∧ _) ∧ (0 ≤ ox 75 877 ∧ _) ∧ (0 ≤ ox 75 878 ∧ _) ∧ (0 ≤ ox 75 879 ∧ _)
        rw [o876.1, o876.2.1, o876.2.2.1, o876.2.2.2]
        decide
    · refine ⟨?_, ?_⟩
      · rw [hN k hk h8]
        exact (t2 k hk h8 _).frame ((oc _ (by omega)).trans (x2 _ (by omega) (by omega))) ((oc _ (by omega)).trans (x2 _ (by omega) (by omega)))
      · obtain rfl | rfl | rfl | rfl | rfl | rfl | rfl | rfl | rfl | rfl | rfl | rfl | rfl : k = 0 ∨ k = 1 ∨ k = 2 ∨ k = 3 ∨ k = 4 ∨ k = 5 ∨ k = 6 ∨ k = 7 ∨ k = 9 ∨ k = 10 ∨ k = 11 ∨ k = 12 ∨ k = 13 := by omega
        · intro r h0 h1; rw [o75 0 (by omega)] at h1; omega
        · intro r h0 h1; rw [o75 1 (by omega)] at h1; omega
        · trivial
        · trivial
        · trivial
        · intro r h0 h1; rw [o75 6 (by omega)] at h1; omega
        · intro r h0 h1; rw [o75 7 (by omega)] at h1; omega
        · intro r h0 h1; rw [o75 8 (by omega)] at h1; omega
        · intro r h0 h1; rw [o75 9 (by omega)] at h1; omega
        · intro r h0 h1; rw [o75 10 (by omega)] at h1; omega
        · intro t ht; rw [z5] at ht; omega
        · trivial
        · trivial
  · unfold kD
    rw [o75 11 (by omega), o75 12 (by omega), oc 1 (by decide), x2 1 (by decide) (by decide)]
    exact ⟨a2, b2, by decide, by decide, by decide, by decide⟩
  · have b := kT_bd k hk
    rw [oc _ (by omega), x8 _ (by omega) (by omega)]
    by_cases h8 : k = 8
    · subst h8
      exact ⟨l8.1, l8.2.1⟩
    · have T := t8 k hk h8 (fun _ _ => 0)
      exact ⟨T.1, T.2.1⟩
  · rw [o74 5 (by decide), oc 30 (by decide), x30]
  · rw [oc 30 (by decide), x30]; decide
  · rw [oc 30 (by decide), x30]; decide
  · rw [oc 30 (by decide), x30] at h2; omega
  · rw [oc 0 (by decide), x09, o749]
  · rw [oc 0 (by decide), x08, o74 3 (by decide)]
