/-! LEVEL 2: the call terms -/
theorem xLis_len : ∀ (q : Nat) (a : List xLn) (ts : List (Int × Int)) (L : List xLn), xLis q a ts = .inr L → L.length ≤ a.length + q := by
  intro q
  induction q with
  | zero => intro a ts L h; cases h
  | succ q ih =>
    intro a ts L h
    rw [xLis_s] at h
    cases hx : xLin ts with
    | inl er => rw [hx] at h; cases h
    | inr r =>
      rw [hx] at h
      dsimp only at h
      by_cases k1 : xK r.2 = 130
      · rw [if_pos k1] at h
        cases h
        rw [List.length_append]
        show a.length + 1 ≤ _
        omega
      · rw [if_neg k1] at h
        by_cases k2 : xK r.2 = 122
        · rw [if_pos k2] at h
          have := ih _ _ L h
          rw [List.length_append] at this
          have e : a.length + 1 + q = a.length + (q + 1) := by omega
          exact Nat.le_trans this (Nat.le_of_eq e)
        · rw [if_neg k2] at h; cases h
theorem xPar_len {b : Int → Int} {n : Int} {L : List xLn} (h : xPar b n = .inr L) : L.length ≤ 10 := by
  unfold xPar xTxt at h
  by_cases k : xK (xTo b n 401 0) = 130
  · rw [if_pos k] at h
    cases h
    exact Nat.zero_le _
  · rw [if_neg k] at h
    have := xLis_len 10 [] _ L h
    exact this
theorem xAl_b {m : jMu} {M : Int → Int} (C : kC m 0 M) : ∀ q : Nat, (q : Int) ≤ M 5 → (xAl M q).length ≤ 10 * q ∧ (xCo (xAl M q)).length ≤ 400 * q := by
  intro q
  induction q with
  | zero => intro _; exact ⟨Nat.le_refl _, Nat.le_refl _⟩
  | succ q ih =>
    intro hq
    have I := ih (by omega)
    obtain ⟨_, _, r3, r4⟩ := kR_t C (t := (q : Int)) (by omega) (by omega)
    rw [Int.toNat_natCast] at r3 r4
    show (xAl M q ++ xTx M q).length ≤ _ ∧ (xCo (xAl M q ++ xTx M q)).length ≤ _
    rw [xCo_app, List.length_append, List.length_append]
    omega
theorem c_cut {m : jMu} {t a w : Nat} {cols lim n k : Int} {f g : Int → Int → Int} (h : TabR m t a cols lim n f) (hta : t ≠ a) (h0 : 0 ≤ k) (h1 : k ≤ n) (e : ∀ r c, 0 ≤ r → r < k → 0 ≤ c → c < cols → f r c = g r c) : ∃ m', f_X5_cut t a w k m = some m' ∧ TabR m' t a cols lim k g ∧ ∀ c, c ≠ t → m' c = m c := by
  obtain ⟨g1, g2, g3, g4, g5, g6⟩ := h
  unfold f_X5_cut
  rw [if_neg (by omega), g3]
  by_cases hn : n ≤ k
  · rw [if_pos hn]
    have : k = n := by omega
    subst this
    exact ⟨m, rfl, ⟨g1, g2, g3, g4, g5, fun r c a1 a2 a3 a4 => (g6 r c a1 a2 a3 a4).trans (e r c a1 a2 a3 a4)⟩, fun _ _ => rfl⟩
  · rw [if_neg hn, jlt_eq]
    refine ⟨_, rfl, ⟨by rw [jup_j (by decide)]; exact g1, by rw [jup_j (by decide)]; exact g2, jup_s, h0, by omega, fun r c a1 a2 a3 a4 => ?_⟩, fun c hc => jup_c hc⟩
    rw [jup_c (Ne.symm hta), g6 r c a1 (by omega) a3 a4]
    exact e r c a1 a2 a3 a4
theorem lnF_pre {G L : List xLn} {r c : Int} (h0 : 0 ≤ r) (h1 : r < (G.length : Int)) : lnF (G ++ L) r c = lnF G r c := by
  unfold lnF
  rw [getD_l (by omega), List.take_append_of_le_length (by omega), List.take_append_of_le_length (by omega)]
theorem cdF_pre {A a : List Int} {r c : Int} (h0 : 0 ≤ r) (h1 : r < (A.length : Int)) : cdF (A ++ a) r c = cdF A r c := by
  unfold cdF
  rw [getD_l (by omega)]
/-- what the text's tables say -/
theorem kC_ln {m : jMu} {M : Int → Int} (C : kC m 0 M) : TabR m 16 17 4 40 ((xAl M (M 5).toNat).length : Int) (lnF (xAl M (M 5).toNat)) ∧ TabR m 18 19 1 1600 ((xCo (xAl M (M 5).toNat)).length : Int) (cdF (xCo (xAl M (M 5).toNat))) := ⟨C.t 12 (by decide), C.t 13 (by decide)⟩
/-- the state where the texts' rows were written again -/
theorem kC_txt {m o : jMu} {M : Int → Int} (C : kC m 0 M) (hc : ∀ c, 1 ≤ c → c < 30 → c ≠ 16 → c ≠ 17 → c ≠ 18 → c ≠ 19 → o c = m c) (h1 : TabR o 16 17 4 40 ((xAl M (M 5).toNat).length : Int) (lnF (xAl M (M 5).toNat))) (h2 : TabR o 18 19 1 1600 ((xCo (xAl M (M 5).toNat)).length : Int) (cdF (xCo (xAl M (M 5).toNat)))) : kC o 0 M := by
  refine ⟨fun k hk => ?_, ?_⟩
  · by_cases e12 : k = 12
    · subst e12; exact ⟨h1, (C.1 12 (by decide)).2⟩
    by_cases e13 : k = 13
    · subst e13; exact ⟨h2, (C.1 13 (by decide)).2⟩
    have b := kT_bd k hk
    have n1 := kT_ne k hk 12 (by decide) e12
    have n2 := kT_ne k hk 13 (by decide) e13
    have v12 : (kT 12).1 = 16 := rfl
    have v13 : (kT 13).1 = 18 := rfl
    rw [v12] at n1
    rw [v13] at n2
    refine ⟨(C.1 k hk).1.frame (hc _ (by omega) (by omega) (by omega) (by omega) (by omega) (by omega)) (hc _ (by omega) (by omega) (by omega) (by omega) (by omega) (by omega)), (C.1 k hk).2⟩
  · unfold kD
    rw [hc 1 (by decide) (by decide) (by decide) (by decide) (by decide) (by decide)]
    exact C.2
theorem kA_txt {m o : jMu} (hA : kA m) (hC : kC o 0 (o 75)) (hc : ∀ c, 31 ≤ c → c ≠ 74 → c ≠ 75 → c ≠ 87 → (c < 62 ∨ 73 < c) → c ≠ 32 → o c = m c) (h74 : o 74 3 = m 74 3) (h30 : o 30 1 = 0 ∧ o 74 5 = 0) (h09 : o 0 9 = o 74 9) (h08 : o 0 8 = m 0 8) (hE : pE o) : kA o := by
  obtain ⟨_, h2, h3, s1, s2, s3, s4⟩ := hA
  refine ⟨hC, ?_, fun k hk => ?_, ⟨by rw [h30.1, h30.2], by rw [h30.1]; decide, by rw [h30.1]; decide, fun k k0 k1 => by rw [h30.1] at k1; omega⟩, h09, by rw [h08, h74]; exact s3, hE⟩
  · rw [h74]
    exact h2.imp id (fun g => ⟨g.1, kC_frame g.2 (fun c a b => hc c (by omega) (by omega) (by omega) (by omega) (by omega) (by omega)) (fun i _ _ => by rw [hc 76 (by decide) (by decide) (by decide) (by decide) (by decide) (by decide)])⟩)
  · have b := kT_bd k hk
    rw [hc _ (by omega) (by omega) (by omega) (by omega) (by omega) (by omega)]
    exact h3 k hk
/-! the class's side -/
theorem c_terms {m : jMu} (hA : kA m) :
    (∀ e, xPar (m 31) (m 30 1) = .inl e → e ≠ -1 → ∃ m1, f_L_terms m = some (1, m1) ∧ m1 0 9 = e ∧ m1 30 1 = 0 ∧ kC m1 0 (m 75) ∧ (∀ j : Int, j ≠ 9 → m1 0 j = m 0 j) ∧ ∀ c, 31 ≤ c → c ≠ 87 → (c < 62 ∨ 73 < c) → m1 c = m c) ∧
    (∀ L, xPar (m 31) (m 30 1) = .inr L → m 75 5 = 3 → ∃ m1, f_L_terms m = some (2, m1) ∧ m1 0 9 = -1 ∧ m1 30 1 = 0 ∧ kC m1 0 (m 75) ∧ (∀ j : Int, j ≠ 9 → m1 0 j = m 0 j) ∧ ∀ c, 31 ≤ c → c ≠ 87 → (c < 62 ∨ 73 < c) → m1 c = m c) ∧
    (∀ L, xPar (m 31) (m 30 1) = .inr L → m 75 5 < 3 → (xCo L).length ≤ 400 ∧ ∃ m1, f_L_terms m = some (0, m1) ∧ m1 87 0 = m 75 5 ∧ m1 0 9 = -1 ∧ m1 30 1 = 0 ∧ TabR m1 16 17 4 40 ((xAl (m 75) (m 75 5).toNat ++ L).length : Int) (lnF (xAl (m 75) (m 75 5).toNat ++ L)) ∧ TabR m1 18 19 1 1600 ((xCo (xAl (m 75) (m 75 5).toNat ++ L)).length : Int) (cdF (xCo (xAl (m 75) (m 75 5).toNat ++ L))) ∧ TabR m1 14 15 2 3 (m 75 5 + 1) (fun r c => if r = m 75 5 then (if c = 0 then ((xAl (m 75) (m 75 5).toNat).length : Int) else ((xAl (m 75) (m 75 5).toNat ++ L).length : Int)) else kF (m 75) 11 r c) ∧ (∀ j : Int, j ≠ 9 → m1 0 j = m 0 j) ∧ ∀ c, 1 ≤ c → c ≠ 14 → c ≠ 15 → c ≠ 16 → c ≠ 17 → c ≠ 18 → c ≠ 19 → c ≠ 30 → c ≠ 87 → (c < 62 ∨ 73 < c) → m1 c = m c) := by
  have C := hA.1
  have hn := C.n
  have hz := C.z
  obtain ⟨⟨s1, s2, s3, s4⟩, s5, s6, sE⟩ := hA.2.2.2
  obtain ⟨T1, T2⟩ := kC_ln C
  have hG := xAl_b C (m 75 5).toNat (by omega)
  generalize hG0 : xAl (m 75) (m 75 5).toNat = G0 at *
  obtain ⟨m0, F0, K⟩ := c_text (m := m) (n := m 30 1) rfl ⟨s2, s3⟩ (G0 := G0) (by omega) (by omega) T2 T1
  have t14 : TabR m 14 15 2 3 (m 75 5) (kF (m 75) 11) := C.t 11 (by decide)
  have z16 : f_X5_size 16 17 160 m = some (G0.length : Int) := tb_size T1
  have z18 : f_X5_size 18 19 1600 m = some ((xCo G0).length : Int) := tb_size T2
  -- behind the reading
  have fr : ∀ m1 : jMu, (∀ c, c ≠ 62 → c ≠ 65 → c ≠ 18 → c ≠ 19 → c ≠ 16 → c ≠ 17 → m1 c = m0 c) → ∀ c, c ≠ 16 → c ≠ 17 → c ≠ 18 → c ≠ 19 → (c < 62 ∨ 73 < c) → m1 c = m c := fun m1 h c c1 c2 c3 c4 c5 => (h c (by omega) (by omega) c3 c4 c1 c2).trans (F0 c (by omega) (by omega) (by omega))
  -- a text that isn't kept
  have bad : ∀ (m1 : jMu) (v : Int) (G : List xLn) (A : List Int), (∀ c, c ≠ 62 → c ≠ 65 → c ≠ 18 → c ≠ 19 → c ≠ 16 → c ≠ 17 → m1 c = m0 c) → TabR m1 18 19 1 1600 ((xCo G0 ++ A).length : Int) (cdF (xCo G0 ++ A)) → TabR m1 16 17 4 40 ((G0 ++ G).length : Int) (lnF (G0 ++ G)) → ∃ m3, ((f_X5_cut 16 17 160 (G0.length : Int) (jup (jup m1 0 9 v) 30 1 0)).bind fun r7 => f_X5_cut 18 19 1600 ((xCo G0).length : Int) r7) = some m3 ∧ m3 0 9 = v ∧ m3 30 1 = 0 ∧ kC m3 0 (m 75) ∧ (∀ j : Int, j ≠ 9 → m3 0 j = m 0 j) ∧ ∀ c, 1 ≤ c → c ≠ 16 → c ≠ 17 → c ≠ 18 → c ≠ 19 → c ≠ 30 → (c < 62 ∨ 73 < c) → m3 c = m c := by
    intro m1 v G A h3 h1 h2
    have f1 := fr m1 h3
    have U1 : TabR (jup (jup m1 0 9 v) 30 1 0) 16 17 4 40 ((G0 ++ G).length : Int) (lnF (G0 ++ G)) := h2.frame (by rw [jup_c (by decide), jup_c (by decide)]) (by rw [jup_c (by decide), jup_c (by decide)])
    obtain ⟨m4, e4, t4, f4⟩ := c_cut (w := 160) (k := (G0.length : Int)) (g := lnF G0) U1 (by decide) (by omega) (by rw [List.length_append]; omega) (fun r c a1 a2 _ _ => lnF_pre a1 a2)
    have U2 : TabR m4 18 19 1 1600 ((xCo G0 ++ A).length : Int) (cdF (xCo G0 ++ A)) := h1.frame (by rw [f4 18 (by decide), jup_c (by decide), jup_c (by decide)]) (by rw [f4 19 (by decide), jup_c (by decide), jup_c (by decide)])
    obtain ⟨m5, e5, t5, f5⟩ := c_cut (w := 1600) (k := ((xCo G0).length : Int)) (g := cdF (xCo G0)) U2 (by decide) (by omega) (by rw [List.length_append]; omega) (fun r c a1 a2 _ _ => cdF_pre a1 a2)
    have F5 : ∀ c, 1 ≤ c → c ≠ 16 → c ≠ 17 → c ≠ 18 → c ≠ 19 → c ≠ 30 → (c < 62 ∨ 73 < c) → m5 c = m c := fun c c0 c1 c2 c3 c4 c5 c6 => by rw [f5 c c3, f4 c c1, jup_c c5, jup_c (by omega), f1 c c1 c2 c3 c4 c6]
    refine ⟨m5, by rw [e4, Option.bind_some, e5], ?_, ?_, ?_, fun j hj => ?_, F5⟩
    · rw [f5 0 (by decide), f4 0 (by decide), jup_c (by decide), jup_s]
    · rw [f5 30 (by decide), f4 30 (by decide), jup_s]
    · refine kC_txt C (fun c c1 c2 c3 c4 c5 c6 => F5 c c1 c3 c4 c5 c6 (by omega) (by omega)) ?_ ?_
      · rw [hG0]; exact t4.frame (f5 16 (by decide)) (f5 17 (by decide))
      · rw [hG0]; exact t5
    · rw [f5 0 (by decide), f4 0 (by decide), jup_c (by decide), jup_j hj, f1 0 (by decide) (by decide) (by decide) (by decide) (by omega)]
  have pre : ∀ (m1 : jMu) (v : Int), f_X3_readText m = some (v, m1) → (∀ c, c ≠ 62 → c ≠ 65 → c ≠ 18 → c ≠ 19 → c ≠ 16 → c ≠ 17 → m1 c = m0 c) → f_X9_terms m = if v = -1 then f_X9_terms_J55 (G0.length : Int) ((xCo G0).length : Int) 1 (jup (jup m1 0 9 v) 30 1 0) else f_X9_terms_J55 (G0.length : Int) ((xCo G0).length : Int) 0 (jup (jup m1 0 9 v) 30 1 0) := by
    intro m1 v e1 h3
    have f1 := fr m1 h3
    have e30 : jup m1 0 9 v 30 1 = m 30 1 := by rw [jup_c (by decide), f1 30 (by decide) (by decide) (by decide) (by decide) (by omega)]
    unfold f_X9_terms
    rw [z16, Option.bind_some, z18, Option.bind_some, e1, Option.bind_some, jlt_eq]
    unfold f_X6_cut
    rw [if_neg (by decide), e30, if_pos s2, jlt_eq, Option.bind_some]
    show (if jup (jup m1 0 9 v) 30 1 0 0 9 = -1 then _ else _) = _
    rw [jup_c (by decide), jup_s]
  have room : ∀ (m1 : jMu) (v : Int), (∀ c, c ≠ 62 → c ≠ 65 → c ≠ 18 → c ≠ 19 → c ≠ 16 → c ≠ 17 → m1 c = m0 c) → f_X5_hasRoom 14 15 6 (jup (jup m1 0 9 v) 30 1 0) = some (if m 75 5 < 3 then 1 else 0) := by
    intro m1 v h3
    have f1 := fr m1 h3
    rw [cRoom, jup_c (by decide), jup_c (by decide), f1 14 (by decide) (by decide) (by decide) (by decide) (by omega), t14.2.2.1, t14.1]
  refine ⟨fun e he hne => ?_, fun L hL h5 => ?_, fun L hL h5 => ?_⟩
  · obtain ⟨m1, L, a, i1, i2, i3, i4⟩ := K.1 e he
    obtain ⟨m3, b1, b2, b3, b4, b5, b6⟩ := bad m1 e L a i4 i2 i3
    refine ⟨m3, ?_, b2, b3, b4, b5, fun c c1 c2 c3 => b6 c (by omega) (by omega) (by omega) (by omega) (by omega) (by omega) c3⟩
    unfold f_L_terms
    rw [pre m1 e i1 i4, if_neg hne]
    unfold f_X9_terms_J55 f_X9_terms_J77 f_X9_terms_J99
    rw [room m1 e i4, Option.bind_some, if_pos rfl]
    have B : ∀ g : jMu → Option (jOut Int), ((f_X5_cut 16 17 160 (G0.length : Int) (jup (jup m1 0 9 e) 30 1 0)).bind fun r7 => (f_X5_cut 18 19 1600 ((xCo G0).length : Int) r7).bind fun r8 => g r8) = g m3 := by
      intro g
      rw [← Option.bind_assoc, b1, Option.bind_some]
    rw [B, nA0z, jcat2_l, if_pos rfl]
  · obtain ⟨m1, i1, i2, i3, i4, i5⟩ := K.2 L hL
    rw [xCo_app] at i2
    obtain ⟨m3, b1, b2, b3, b4, b5, b6⟩ := bad m1 (-1) L (xCo L) i4 i2 i3
    refine ⟨m3, ?_, b2, b3, b4, b5, fun c c1 c2 c3 => b6 c (by omega) (by omega) (by omega) (by omega) (by omega) (by omega) c3⟩
    unfold f_L_terms
    rw [pre m1 (-1) i1 i4, if_pos rfl]
    unfold f_X9_terms_J55 f_X9_terms_J77 f_X9_terms_J99
    rw [room m1 (-1) i4, Option.bind_some, if_neg (by decide), if_neg (show ¬ m 75 5 < 3 by omega), if_pos rfl]
    have B : ∀ g : jMu → Option (jOut Int), ((f_X5_cut 16 17 160 (G0.length : Int) (jup (jup m1 0 9 (-1)) 30 1 0)).bind fun r7 => (f_X5_cut 18 19 1600 ((xCo G0).length : Int) r7).bind fun r8 => g r8) = g m3 := by
      intro g
      rw [← Option.bind_assoc, b1, Option.bind_some]
    rw [B, nA1z, nR0z, jcat2_l, if_neg (show ¬ ("java/lang/UnsupportedOperationException" = "java/lang/IllegalArgumentException") by decide), if_pos rfl]
  · obtain ⟨m1, i1, i2, i3, i4, i5⟩ := K.2 L hL
    have f1 := fr m1 i4
    have hl : (xCo L).length ≤ 400 := by
      rw [xCo_app, List.length_append] at i5
      omega
    refine ⟨hl, ?_⟩
    have hS : TabS 14 15 6 2 3 := by unfold TabS; decide
    have U : TabR (jup (jup m1 0 9 (-1)) 30 1 0) 14 15 2 3 (m 75 5) (kF (m 75) 11) := t14.frame (by rw [jup_c (by decide), jup_c (by decide), f1 14 (by decide) (by decide) (by decide) (by decide) (by omega)]) (by rw [jup_c (by decide), jup_c (by decide), f1 15 (by decide) (by decide) (by decide) (by decide) (by omega)])
    obtain ⟨m2, e2, t2, f2⟩ := tb_add hS U (by omega)
    have d0 := tb_set (v := (G0.length : Int)) (r := m 75 5) (c := 0) hS t2 (by omega) (by omega) (by decide) (by decide)
    have u0 := TabR.set (v := (G0.length : Int)) (r := m 75 5) (c := 0) hS t2 (by decide) (by decide)
    have d1 := tb_set (v := ((G0 ++ L).length : Int)) (r := m 75 5) (c := 1) hS u0 (by omega) (by omega) (by decide) (by decide)
    have u1 := TabR.set (v := ((G0 ++ L).length : Int)) (r := m 75 5) (c := 1) hS u0 (by decide) (by decide)
    generalize hm4 : jup (jup m2 15 (m 75 5 * 2 + 0) (G0.length : Int)) 15 (m 75 5 * 2 + 1) ((G0 ++ L).length : Int) = m4 at *
    have F4 : ∀ c, c ≠ 14 → c ≠ 15 → m4 c = jup (jup m1 0 9 (-1)) 30 1 0 c := fun c a b => by rw [← hm4, jup_c b, jup_c b, f2 c a b]
    have e16 : jup m2 15 (m 75 5 * 2 + 0) (G0.length : Int) 16 3 = ((G0 ++ L).length : Int) := by
      rw [jup_c (by decide), f2 16 (by decide) (by decide), jup_c (by decide), jup_c (by decide)]
      exact i3.2.2.1
    refine ⟨jup m4 87 0 (m 75 5), ?_, jup_s, ?_, ?_, ?_, ?_, ?_, fun j hj => ?_, fun c c0 c1 c2 c3 c4 c5 c6 c7 c8 c9 => ?_⟩
    · unfold f_L_terms
      rw [pre m1 (-1) i1 i4, if_pos rfl]
      unfold f_X9_terms_J55 f_X9_terms_J99
      rw [room m1 (-1) i4, Option.bind_some, if_neg (by decide), if_pos h5, if_neg (by decide), nA1z, nR1z, e2, Option.bind_some]
      show jcat2 (Option.bind (f_X5_set 14 15 6 (m 75 5) 0 (G0.length : Int) m2) _) _ _ = _
      rw [d0, Option.bind_some]
      unfold f_X5_size
      rw [e16, Option.bind_some, d1, Option.bind_some, jcat2_r, jlt_eq]
    · rw [jup_c (by decide), F4 0 (by decide) (by decide), jup_c (by decide), jup_s]
    · rw [jup_c (by decide), F4 30 (by decide) (by decide), jup_s]
    · exact i3.frame (by rw [jup_c (by decide), F4 16 (by decide) (by decide), jup_c (by decide), jup_c (by decide)]) (by rw [jup_c (by decide), F4 17 (by decide) (by decide), jup_c (by decide), jup_c (by decide)])
    · exact i2.frame (by rw [jup_c (by decide), F4 18 (by decide) (by decide), jup_c (by decide), jup_c (by decide)]) (by rw [jup_c (by decide), F4 19 (by decide) (by decide), jup_c (by decide), jup_c (by decide)])
    · refine (u1.frame (jup_c (by decide)) (jup_c (by decide))).congr (fun r c a1 a2 a3 a4 => ?_)
      by_cases hr : r = m 75 5
      · subst hr
        obtain rfl | rfl : c = 0 ∨ c = 1 := by omega
        all_goals simp only [Int.reduceEq, and_true, and_false, true_and, if_true, if_false]
      · simp only [hr, false_and, if_false]
    · rw [jup_c (by decide), F4 0 (by decide) (by decide), jup_c (by decide), jup_j hj, f1 0 (by decide) (by decide) (by decide) (by decide) (by omega)]
    · rw [jup_c c8, F4 c c1 c2, jup_c c7, jup_c (by omega), f1 c c3 c4 c5 c6 c9]
/-! the reference's side -/
theorem m_terms {m1 : jMu} {n T : Int} (hn : m1 74 5 = n) (hb : 0 ≤ n ∧ n ≤ 400) (hE : pE m1) (hT : m1 75 5 = T) (hT0 : 0 ≤ T ∧ T ≤ 3) :
    (∀ e, xPar (m1 77) n = .inl e → 0 ≤ e ∧ ∃ m2, f_X10_terms m1 = some (0, m2) ∧ m2 74 0 = 1 ∧ m2 74 5 = 0 ∧ m2 74 9 = e ∧ m2 74 3 = m1 74 3 ∧ pE m2 ∧ ∀ c, c ≠ 74 → m2 c = m1 c) ∧
    (∀ L, xPar (m1 77) n = .inr L → T = 3 → ∃ m2, f_X10_terms m1 = some (0, m2) ∧ m2 74 0 = 2 ∧ m2 74 5 = 0 ∧ m2 74 9 = -1 ∧ m2 74 3 = m1 74 3 ∧ pE m2 ∧ ∀ c, c ≠ 74 → m2 c = m1 c) ∧
    (∀ L, xPar (m1 77) n = .inr L → T < 3 → ∃ m2, f_X10_terms m1 = some (T, m2) ∧ m2 74 0 = 0 ∧ m2 74 5 = 0 ∧ m2 74 9 = -1 ∧ m2 74 3 = m1 74 3 ∧ pE m2 ∧ (∀ c, c ≠ 74 → c ≠ 75 → m2 c = m1 c) ∧ m2 75 5 = T + 1 ∧ m2 75 (880 + 401 * T) = n ∧ (∀ j, 0 ≤ j → j < n → m2 75 (881 + 401 * T + j) = m1 77 j) ∧ ∀ i, i ≠ 5 → i < 880 + 401 * T → m2 75 i = m1 75 i) := by
  generalize hm3 : jup (jup (jup m1 74 9 (-1)) 74 6 (-1)) 74 7 n = m3
  have c3 : ∀ c, c ≠ 74 → m3 c = m1 c := fun c hc => by rw [← hm3, jup_c hc, jup_c hc, jup_c hc]
  have o3 : ∀ j : Int, j ≠ 9 → j ≠ 6 → j ≠ 7 → m3 74 j = m1 74 j := fun j a b c => by rw [← hm3, jup_j c, jup_j b, jup_j a]
  have B : pB m3 (m1 77) n := by
    refine ⟨by rw [← hm3, jup_s], hb.1, hb.2, fun p f d k k0 k1 => ?_⟩
    have e6 : ps m3 p f d 74 6 = -1 := by
      rw [ps_o (by decide) (by decide) (by decide), ← hm3, jup_j (by decide), jup_s]
    unfold f_X10_letter
    rw [e6, if_pos rfl, if_pos (by omega), ps_c (by decide), c3 77 (by decide)]
  have E3 : pE m3 := pE_cg (o3 12 (by decide) (by decide) (by decide)) (o3 13 (by decide) (by decide) (by decide)) (o3 14 (by decide) (by decide) (by decide)) (c3 78 (by decide)) hE
  have f3 : m3 74 9 = -1 := by rw [← hm3, jup_j (by decide), jup_j (by decide), jup_s]
  have K := m_lines B E3 f3
  have base : ∀ (st dr ho pa p e d : Int), f_X10_lines m3 = some (ps (ls m3 st dr ho pa) p e d) → f_X10_terms m1 = (if e = -1 then (if T = 3 then f_X10_terms_J60 n 2 (jup (ps (ls m3 st dr ho pa) p e d) 74 5 0) else f_X10_terms_J60 n 0 (jup (ps (ls m3 st dr ho pa) p e d) 74 5 0)) else f_X10_terms_J60 n 1 (jup (ps (ls m3 st dr ho pa) p e d) 74 5 0)) := by
    intro st dr ho pa p e d he
    have e5 : jup (jup m1 74 9 (-1)) 74 6 (-1) 74 5 = n := by rw [jup_j (by decide), jup_j (by decide)]; exact hn
    have e5' : ps (ls m3 st dr ho pa) p e d 74 5 = n := by
      rw [ps_o (by decide) (by decide) (by decide)]
      show m3 74 5 = n
      rw [o3 5 (by decide) (by decide) (by decide)]
      exact hn
    have e9 : jup (ps (ls m3 st dr ho pa) p e d) 74 5 0 74 9 = e := by rw [jup_j (by decide)]; rfl
    have e75 : jup (ps (ls m3 st dr ho pa) p e d) 74 5 0 75 5 = T := by
      rw [jup_c (by decide), ps_c (by decide)]
      show m3 75 5 = T
      rw [c3 75 (by decide)]
      exact hT
    unfold f_X10_terms
    rw [jlt_eq, jlt_eq, e5, jlt_eq, hm3, he, Option.bind_some, jlt_eq, e9, e75, e5']
  have mem : ∀ (st dr ho pa p e d v : Int), (∀ c, c ≠ 74 → jup (jup (ps (ls m3 st dr ho pa) p e d) 74 5 0) 74 0 v c = m1 c) ∧ jup (jup (ps (ls m3 st dr ho pa) p e d) 74 5 0) 74 0 v 74 0 = v ∧ jup (jup (ps (ls m3 st dr ho pa) p e d) 74 5 0) 74 0 v 74 5 = 0 ∧ jup (jup (ps (ls m3 st dr ho pa) p e d) 74 5 0) 74 0 v 74 9 = e ∧ jup (jup (ps (ls m3 st dr ho pa) p e d) 74 5 0) 74 0 v 74 3 = m1 74 3 ∧ pE (jup (jup (ps (ls m3 st dr ho pa) p e d) 74 5 0) 74 0 v) := by
    intro st dr ho pa p e d v
    have hls : ∀ c, c ≠ 74 → ls m3 st dr ho pa c = m3 c := fun c hc => funext fun j => if_neg hc
    have hc : ∀ c, c ≠ 74 → jup (jup (ps (ls m3 st dr ho pa) p e d) 74 5 0) 74 0 v c = m1 c := fun c h => by rw [jup_c h, jup_c h, ps_c h, hls c h, c3 c h]
    have hj : ∀ j : Int, j ≠ 0 → j ≠ 5 → j ≠ 8 → j ≠ 9 → j ≠ 10 → j ≠ 15 → j ≠ 16 → j ≠ 17 → j ≠ 18 → j ≠ 6 → j ≠ 7 → jup (jup (ps (ls m3 st dr ho pa) p e d) 74 5 0) 74 0 v 74 j = m1 74 j := fun j a0 a5 a8 a9 a10 a15 a16 a17 a18 a6 a7 => by
      rw [jup_j a0, jup_j a5, ps_o a8 a9 a10]
      unfold ls
      rw [if_pos rfl, if_neg a15, if_neg a16, if_neg a17, if_neg a18]
      exact o3 j a9 a6 a7
    refine ⟨hc, jup_s, by rw [jup_j (by decide), jup_s], by rw [jup_j (by decide), jup_j (by decide)]; rfl, hj 3 (by decide) (by decide) (by decide) (by decide) (by decide) (by decide) (by decide) (by decide) (by decide) (by decide) (by decide), pE_cg ?_ ?_ ?_ (hc 78 (by decide)) hE⟩
    · exact hj 12 (by decide) (by decide) (by decide) (by decide) (by decide) (by decide) (by decide) (by decide) (by decide) (by decide) (by decide)
    · exact hj 13 (by decide) (by decide) (by decide) (by decide) (by decide) (by decide) (by decide) (by decide) (by decide) (by decide) (by decide)
    · exact hj 14 (by decide) (by decide) (by decide) (by decide) (by decide) (by decide) (by decide) (by decide) (by decide) (by decide) (by decide)
  refine ⟨fun e he => ?_, fun L hL h5 => ?_, fun L hL h5 => ?_⟩
  · obtain ⟨k0, st, dr, ho, pa, p, d, hl⟩ := K.1 e he
    obtain ⟨a1, a2, a3, a4, a5, a6⟩ := mem st dr ho pa p e d 1
    refine ⟨k0, _, ?_, a2, a3, a4, a5, a6, a1⟩
    rw [base st dr ho pa p e d hl, if_neg (by omega)]
    unfold f_X10_terms_J60
    rw [jlt_eq, jup_s, if_neg (by decide)]
  · obtain ⟨p, hl⟩ := K.2 L hL
    obtain ⟨a1, a2, a3, a4, a5, a6⟩ := mem (xStop (xE m3) 0 L) (xLast (xE m3) 101 0 L) (xLast (xE m3) 102 30 L) (xLast (xE m3) 103 0 L) p (-1) 0 2
    refine ⟨_, ?_, a2, a3, a4, a5, a6, a1⟩
    rw [base _ _ _ _ p (-1) 0 hl, if_pos rfl, if_pos h5]
    unfold f_X10_terms_J60
    rw [jlt_eq, jup_s, if_neg (by decide)]
  · obtain ⟨p, hl⟩ := K.2 L hL
    obtain ⟨a1, a2, a3, a4, a5, a6⟩ := mem (xStop (xE m3) 0 L) (xLast (xE m3) 101 0 L) (xLast (xE m3) 102 30 L) (xLast (xE m3) 103 0 L) p (-1) 0 0
    have hb0 := base _ _ _ _ p (-1) 0 hl
    rw [if_pos rfl, if_neg (by omega)] at hb0
    generalize hm6 : jup (jup (ps (ls m3 (xStop (xE m3) 0 L) (xLast (xE m3) 101 0 L) (xLast (xE m3) 102 30 L) (xLast (xE m3) 103 0 L)) p (-1) 0) 74 5 0) 74 0 0 = m6 at *
    have q75 : m6 75 5 = T := by rw [a1 75 (by decide)]; exact hT
    obtain ⟨m7, I, e7⟩ := itz_loop (L := fun q i (_ : Unit) m => f_X10_terms_L96 q n (880 + 401 * T) i m) (fun _ s => s) (fun _ m => (T, jup m 75 5 (T + 1))) (fun i _ m' => (∀ c, c ≠ 75 → m' c = m6 c) ∧ m' 75 (880 + 401 * T) = n ∧ (∀ j, 0 ≤ j → j < i → m' 75 (881 + 401 * T + j) = m1 77 j) ∧ ∀ j, j < 880 + 401 * T → m' 75 j = m1 75 j) (lo := 0) (n := n) (by
      intro q i s m8 g0 g1 hI
      obtain ⟨i1, i2, i3, i4⟩ := hI
      have e77 : m8 77 i = m1 77 i := by rw [i1 77 (by decide), a1 77 (by decide)]
      refine ⟨jup m8 75 (881 + 401 * T + i) (m1 77 i), ⟨fun c hc => by rw [jup_c hc, i1 c hc], by rw [jup_j (by omega)]; exact i2, fun j j0 j1 => ?_, fun j hj => by rw [jup_j (by omega)]; exact i4 j hj⟩, ?_⟩
      · by_cases e : j = i
        · rw [e, jup_s]
        · rw [jup_j (by omega)]; exact i3 j j0 (by omega)
      · show f_X10_terms_L96 (q + 1) n (880 + 401 * T) i m8 = _
        rw [f_X10_terms_L96, if_neg (by omega), if_pos (by omega), jW_of (z := 880 + 401 * T + 1) (by omega) (by omega), jW_of (z := 880 + 401 * T + 1 + i) (by omega) (by omega), if_pos (by omega), jlt_eq, e77, jW_of (z := i + 1) (by omega) (by omega), show 880 + 401 * T + 1 + i = 881 + 401 * T + i by omega]) (by
      intro q s m8 hI
      obtain ⟨i1, i2, i3, i4⟩ := hI
      have e5 : m8 75 5 = T := by rw [i4 5 (by omega)]; exact hT
      show f_X10_terms_L96 (q + 1) n (880 + 401 * T) n m8 = _
      rw [f_X10_terms_L96, if_pos (Int.le_refl _), e5, jW_of (z := T + 1) (by omega) (by omega), jlt_eq, jup_s, jW_of (by omega) (by omega), show T + 1 - 1 = T by omega]) n.toNat jFU 0 () (jup m6 75 (880 + 401 * T) n) (Int.le_refl _) (by omega) (by unfold jFU; omega) ⟨fun c hc => jup_c hc, jup_s, fun j j0 j1 => by omega, fun j hj => by rw [jup_j (by omega), a1 75 (by decide)]⟩
    obtain ⟨i1, i2, i3, i4⟩ := I
    refine ⟨jup m7 75 5 (T + 1), ?_, ?_, ?_, ?_, ?_, ?_, fun c c1 c2 => ?_, jup_s, ?_, fun j j0 j1 => ?_, fun i h1 h2 => ?_⟩
    · rw [hb0]
      unfold f_X10_terms_J60
      rw [jlt_eq, hm6, a2, if_pos (by decide), q75, jW_of (z := 401 * T) (by omega) (by omega), jW_of (z := 880 + 401 * T) (by omega) (by omega), if_pos (by omega), jlt_eq]
      exact e7
    · rw [jup_c (by decide), i1 74 (by decide)]; exact a2
    · rw [jup_c (by decide), i1 74 (by decide)]; exact a3
    · rw [jup_c (by decide), i1 74 (by decide)]; exact a4
    · rw [jup_c (by decide), i1 74 (by decide)]; exact a5
    · exact pE_cg (by rw [jup_c (by decide), i1 74 (by decide)]) (by rw [jup_c (by decide), i1 74 (by decide)]) (by rw [jup_c (by decide), i1 74 (by decide)]) (by rw [jup_c (by decide), i1 78 (by decide)]) a6
    · rw [jup_c c2, i1 c c2, a1 c c1]
    · rw [jup_j (by omega)]; exact i2
    · rw [jup_j (by omega)]; exact i3 j j0 j1
    · rw [jup_j h1]; exact i4 i h2
/-! both -/
theorem xTx_pre {M M' : Int → Int} {t T : Nat} (ht : t < T) (h0 : M (880 + 401 * (t : Int)) ≤ 400) (h : ∀ i, i ≠ 5 → i < 880 + 401 * (T : Int) → M' i = M i) : xPar (fun j => M' (881 + 401 * (t : Int) + j)) (M' (880 + 401 * (t : Int))) = xPar (fun j => M (881 + 401 * (t : Int) + j)) (M (880 + 401 * (t : Int))) := by
  rw [h (880 + 401 * (t : Int)) (by omega) (by omega)]
  exact xPar_congr (fun j h1 h2 => h _ (by omega) (by omega))
theorem xAl_pr2 {M M' : Int → Int} {T : Nat} (h0 : ∀ t : Nat, t < T → M (880 + 401 * (t : Int)) ≤ 400) (h : ∀ i, i ≠ 5 → i < 880 + 401 * (T : Int) → M' i = M i) : ∀ q : Nat, q ≤ T → xAl M' q = xAl M q := by
  intro q
  induction q with
  | zero => intro _; rfl
  | succ q ih =>
    intro hq
    unfold xAl
    rw [ih (by omega)]
    unfold xTx
    rw [xTx_pre (by omega) (h0 q (by omega)) h]
theorem kG_880 {k : Nat} {i : Int} (hk : k < 11) (hi : kG k i) : i < 880 := by
  obtain rfl | rfl | rfl | rfl | rfl | rfl | rfl | rfl | rfl | rfl | rfl : k = 0 ∨ k = 1 ∨ k = 2 ∨ k = 3 ∨ k = 4 ∨ k = 5 ∨ k = 6 ∨ k = 7 ∨ k = 8 ∨ k = 9 ∨ k = 10 := by omega
  · have h : i = 0 ∨ (20 ≤ i ∧ i < 92) := hi
    omega
  · have h : i = 1 ∨ (92 ≤ i ∧ i < 302) := hi
    omega
  · have h : i = 2 ∨ (302 ≤ i ∧ i < 314) := hi
    omega
  · have h : i = 3 ∨ (314 ≤ i ∧ i < 324) := hi
    omega
  · have h : i = 4 ∨ (324 ≤ i ∧ i < 348) := hi
    omega
  · have h : i = 6 ∨ (348 ≤ i ∧ i < 352) := hi
    omega
  · have h : i = 7 ∨ (352 ≤ i ∧ i < 376) := hi
    omega
  · have h : i = 8 ∨ (376 ≤ i ∧ i < 696) := hi
    omega
  · have h : 876 ≤ i ∧ i < 880 := hi
    omega
  · have h : i = 9 ∨ (696 ≤ i ∧ i < 816) := hi
    omega
  · have h : i = 10 ∨ (816 ≤ i ∧ i < 876) := hi
    omega
theorem k_terms {m : jMu} (hA : kA m) : ∃ o, ((f_L_terms m).bind fun r1 => (f_X10_terms r1.2).bind fun r2 => (f_X10_thrown r2.2).bind fun r3 => (if r3 = r1.1 then (if r1.1 = 0 then (if jCm (r2.2 87 0) r2.1 = 0 then some r2.2 else none) else some r2.2) else none)) = some o ∧ kA o := by
  have C := hA.1
  have hn := C.n
  obtain ⟨⟨s1, s2, s3, s4⟩, s5, s6, sE⟩ := hA.2.2.2
  obtain ⟨k1, k2, k3⟩ := c_terms hA
  have xc : xPar (m 77) (m 30 1) = xPar (m 31) (m 30 1) := xPar_congr (fun j h1 h2 => (s4 j h1 h2).symm)
  have R : ∀ m1 : jMu, (∀ c, 31 ≤ c → c ≠ 87 → (c < 62 ∨ 73 < c) → m1 c = m c) → m1 74 5 = m 30 1 ∧ pE m1 ∧ m1 75 = m 75 ∧ m1 77 = m 77 ∧ m1 74 = m 74 := fun m1 f => ⟨by rw [f 74 (by decide) (by decide) (by omega)]; exact s1, pE_cg (by rw [f 74 (by decide) (by decide) (by omega)]) (by rw [f 74 (by decide) (by decide) (by omega)]) (by rw [f 74 (by decide) (by decide) (by omega)]) (f 78 (by decide) (by decide) (by omega)) sE, f 75 (by decide) (by decide) (by omega), f 77 (by decide) (by decide) (by omega), f 74 (by decide) (by decide) (by omega)⟩
  cases hx : xPar (m 31) (m 30 1) with
  | inl e =>
    have he0 : 0 ≤ e := ((m_terms (m1 := m) s1 ⟨s2, s3⟩ sE rfl ⟨by omega, by omega⟩).1 e (by rw [xc, hx])).1
    obtain ⟨m1, a1, a2, a3, a4, a5, a6⟩ := k1 e hx (by omega)
    obtain ⟨r1, r2, r3, r4, r5⟩ := R m1 a6
    obtain ⟨_, m2, b1, b2, b3, b4, b5, b6, b7⟩ := (m_terms (m1 := m1) r1 ⟨s2, s3⟩ r2 (by rw [r3]) ⟨by omega, by omega⟩).1 e (by rw [r4, xc, hx])
    refine ⟨m2, ?_, kA_txt hA ?_ (fun c c1 c2 c3 c4 c5 c6 => by rw [b7 c c2, a6 c c1 c4 c5]) (by rw [b5, r5]) ⟨by rw [b7 30 (by decide)]; exact a3, b3⟩ (by rw [b7 0 (by decide), a2, b4]) (by rw [b7 0 (by decide)]; exact a5 8 (by decide)) b6⟩
    · rw [a1, Option.bind_some, b1, Option.bind_some, mThr, Option.bind_some]
      simp only [b2, if_true]
      rw [if_neg (by decide)]
    · rw [b7 75 (by decide), r3]
      exact kC_frame a4 (fun c c1 c2 => b7 c (by omega)) (fun _ _ _ => rfl)
  | inr L =>
    by_cases h5 : m 75 5 < 3
    · obtain ⟨hl, m1, a1, a2, a3, a4, a5, a6, a7, a8, a9⟩ := k3 L hx h5
      obtain ⟨r1, r2, r3, r4, r5⟩ := R m1 (fun c c1 c2 c3 => a9 c (by omega) (by omega) (by omega) (by omega) (by omega) (by omega) (by omega) (by omega) c2 c3)
      obtain ⟨m2, b1, b2, b3, b4, b5, b6, b7, b8, b9, b10, b11⟩ := (m_terms (m1 := m1) r1 ⟨s2, s3⟩ r2 (by rw [r3]) ⟨by omega, by omega⟩).2.2 L (by rw [r4, xc, hx]) h5
      rw [r3] at b11
      rw [r4] at b10
      obtain ⟨T, hT⟩ : ∃ T : Nat, m 75 5 = (T : Int) := ⟨(m 75 5).toNat, by omega⟩
      have hTn : (m 75 5).toNat = T := by omega
      rw [hTn] at a5 a6 a7
      rw [hT] at b8 b9 b10 b11 a7
      have R11 : kR (m 75) 11 := (C.1 11 (by decide)).2
      have h400 : ∀ t : Nat, t < T → m 75 (880 + 401 * (t : Int)) ≤ 400 := fun t ht => (R11 t (by omega)).1.2
      have AP := xAl_pr2 (M := m 75) (M' := m2 75) h400 b11
      have pT : xPar (fun j => m2 75 (881 + 401 * (T : Int) + j)) (m2 75 (880 + 401 * (T : Int))) = .inr L := by
        rw [b9, ← hx, ← xc]
        exact xPar_congr (fun j j0 j1 => b10 j j0 j1)
      have xT : xTx (m2 75) T = L := by
        unfold xTx
        rw [pT]
      have A1 : xAl (m2 75) (T + 1) = xAl (m 75) T ++ L := by
        show xAl (m2 75) T ++ xTx (m2 75) T = _
        rw [AP T (Nat.le_refl _), xT]
      have A2 : xAl (m2 75) (m2 75 5).toNat = xAl (m 75) T ++ L := by
        rw [b8, show ((T : Int) + 1).toNat = T + 1 by omega, A1]
      have f2 : ∀ c, 1 ≤ c → c < 30 → c ≠ 14 → c ≠ 15 → c ≠ 16 → c ≠ 17 → c ≠ 18 → c ≠ 19 → m2 c = m c := fun c c0 c1 c2 c3 c4 c5 c6 c7 => by
        rw [b7 c (by omega) (by omega)]
        exact a9 c c0 c2 c3 c4 c5 c6 c7 (by omega) (by omega) (by omega)
      refine ⟨m2, ?_, kA_txt hA ⟨fun k hk => ?_, ?_⟩ (fun c c1 c2 c3 c4 c5 c6 => ?_) (by rw [b5, r5]) ⟨by rw [b7 30 (by decide) (by decide)]; exact a4, b3⟩ (by rw [b7 0 (by decide) (by decide), a3, b4]) (by rw [b7 0 (by decide) (by decide)]; exact a8 8 (by decide)) b6⟩
      · rw [a1, Option.bind_some, b1, Option.bind_some, mThr, Option.bind_some]
        have : m2 87 0 = m 75 5 := by rw [b7 87 (by decide) (by decide)]; exact a2
        simp only [b2, if_true]
        rw [if_pos ((jCm_0 _ _).mpr this)]
      · by_cases k11 : k < 11
        · have b := kT_bd k hk
          have n1 := kT_ne k hk 11 (by decide) (by omega)
          have n2 := kT_ne k hk 12 (by decide) (by omega)
          have n3 := kT_ne k hk 13 (by decide) (by omega)
          have v11 : (kT 11).1 = 14 := rfl
          have v12 : (kT 12).1 = 16 := rfl
          have v13 : (kT 13).1 = 18 := rfl
          rw [v11] at n1
          rw [v12] at n2
          rw [v13] at n3
          refine kI_mono k11 (C.1 k hk) (f2 _ (by omega) (by omega) (by omega) (by omega) (by omega) (by omega) (by omega) (by omega)) (f2 _ (by omega) (by omega) (by omega) (by omega) (by omega) (by omega) (by omega) (by omega)) (fun i hi => ?_) ?_
          · have hw := kG_W (by omega) hi
            refine b11 i (fun z => ?_) ?_
            · rw [z, show kW 5 = 11 from by decide] at hw; omega
            · have : i < 880 := kG_880 k11 hi
              omega
          · rw [b11 0 (by decide) (by omega), b11 6 (by decide) (by omega), b11 7 (by decide) (by omega), b8]
            omega
        · obtain rfl | rfl | rfl : k = 11 ∨ k = 12 ∨ k = 13 := by omega
          · refine ⟨?_, fun t ht => ?_⟩
            · show TabR m2 14 15 2 3 (m2 75 5) (kF (m2 75) 11)
              rw [b8]
              refine (a7.frame (b7 14 (by decide) (by decide)) (b7 15 (by decide) (by decide))).congr (fun r c h1 h2 h3 h4 => ?_)
              show (if r = (T : Int) then _ else _) = (if c = 0 then ((xAl (m2 75) r.toNat).length : Int) else ((xAl (m2 75) (r.toNat + 1)).length : Int))
              by_cases hr : r = (T : Int)
              · rw [if_pos hr, hr, Int.toNat_natCast, AP T (Nat.le_refl _), A1]
              · rw [if_neg hr, AP r.toNat (by omega), AP (r.toNat + 1) (by omega)]
                rfl
            · rw [b8] at ht
              by_cases et : t = T
              · subst et
                rw [pT, b9]
                refine ⟨⟨s2, s3⟩, ⟨L, rfl⟩, ?_, ?_⟩
                · rw [xT]; exact xPar_len hx
                · rw [xT]; exact hl
              · have hr := R11 t (by omega)
                have e1 := xTx_pre (M := m 75) (M' := m2 75) (t := t) (T := T) (by omega) hr.1.2 b11
                have e2 : xTx (m2 75) t = xTx (m 75) t := by unfold xTx; rw [e1]
                rw [e1, e2, b11 _ (by omega) (by omega)]
                exact hr
          · refine ⟨?_, trivial⟩
            show TabR m2 16 17 4 40 ((xAl (m2 75) (m2 75 5).toNat).length : Int) (lnF (xAl (m2 75) (m2 75 5).toNat))
            rw [A2]
            exact a5.frame (b7 16 (by decide) (by decide)) (b7 17 (by decide) (by decide))
          · refine ⟨?_, trivial⟩
            show TabR m2 18 19 1 1600 ((xCo (xAl (m2 75) (m2 75 5).toNat)).length : Int) (cdF (xCo (xAl (m2 75) (m2 75 5).toNat)))
            rw [A2]
            exact a6.frame (b7 18 (by decide) (by decide)) (b7 19 (by decide) (by decide))
      · unfold kD
        rw [b11 11 (by decide) (by omega), b11 12 (by decide) (by omega), f2 1 (by decide) (by decide) (by decide) (by decide) (by decide) (by decide) (by decide) (by decide)]
        exact C.2
      · rw [b7 c c2 c3]
        exact a9 c (by omega) (by omega) (by omega) (by omega) (by omega) (by omega) (by omega) (by omega) c4 c5
    · have e5 : m 75 5 = 3 := by omega
      obtain ⟨m1, a1, a2, a3, a4, a5, a6⟩ := k2 L hx e5
      obtain ⟨r1, r2, r3, r4, r5⟩ := R m1 a6
      obtain ⟨m2, b1, b2, b3, b4, b5, b6, b7⟩ := (m_terms (m1 := m1) r1 ⟨s2, s3⟩ r2 (by rw [r3]) ⟨by omega, by omega⟩).2.1 L (by rw [r4, xc, hx]) e5
      refine ⟨m2, ?_, kA_txt hA ?_ (fun c c1 c2 c3 c4 c5 c6 => by rw [b7 c c2, a6 c c1 c4 c5]) (by rw [b5, r5]) ⟨by rw [b7 30 (by decide)]; exact a3, b3⟩ (by rw [b7 0 (by decide), a2, b4]) (by rw [b7 0 (by decide)]; exact a5 8 (by decide)) b6⟩
      · rw [a1, Option.bind_some, b1, Option.bind_some, mThr, Option.bind_some]
        simp only [b2, if_true]
        rw [if_neg (by decide)]
      · rw [b7 75 (by decide), r3]
        exact kC_frame a4 (fun c c1 c2 => b7 c (by omega)) (fun _ _ _ => rfl)
