/-! printed walks -/
def rm_X9_reading : Room := { frames := 9, cells := 3, slots := 18, locals := 120 }
def f_X9_reading_J30 (v1 : Int) (v2 : Int) (v3 : Int) (s0 : Int) (m : jMu) : Option (jOut Int) :=
  jthr (f_X9_needIndex s0 m) fun r2 => (f_X9_isIn v3 0 500).bind fun r3 => jthr (f_X9_needArgument r3 r2.2) fun r4 => (f_X5_hasRoom 26 27 120 r4.2).bind fun r5 => jthr (f_X9_needRoom r5 r4.2) fun r6 => (f_X5_addRow 26 27 120 r6.2).bind fun r7 => (f_X5_set 26 27 120 r7.1 0 v1 r7.2).bind fun r8 => (f_X5_set 26 27 120 r7.1 1 v2 r8).bind fun r9 => (f_X5_set 26 27 120 r7.1 2 v3 r9).bind fun r10 => (f_X5_set 26 27 120 r7.1 3 (r10 1 14) r10).bind fun r11 => some (.inr (r7.1, r11))
def f_X9_reading_J29 (v1 : Int) (v2 : Int) (v3 : Int) (m : jMu) : Option (jOut Int) :=
  f_X9_reading_J30 v1 v2 v3 0 m
def f_X9_reading (a0 : Int) (a1 : Int) (a2 : Int) (m : jMu) : Option (jOut Int) :=
  (f_X5_has 4 5 80 a0 m).bind fun r1 => (if r1 = 0 then f_X9_reading_J29 a0 a1 a2 m else (f_X9_isIn a1 0 199).bind fun r12 => (if r12 = 0 then f_X9_reading_J29 a0 a1 a2 m else f_X9_reading_J30 a0 a1 a2 1 m))
theorem t_X9_reading_J30 {X : jX} (B : jB X cX9_reading RX9 5 SKF.length rm_X9_reading (some .int)) (hno : ∀ x ∈ (xc X).exceptionTable.toList, False) (v1 : Int) (v2 : Int) (v3 : Int) (s0 : Int) (m : jMu) (r : (jOut Int)) (hf : f_X9_reading_J30 v1 v2 v3 s0 m = some r) (hq : jQ X (joI r) SKF (joM r) rm_X9_reading.cells rm_X9_reading.slots) : J X SKF m 0 0 30 [(0, jR 0), (1, jI v1), (2, jI v2), (3, jI v3)] [jI s0] := by
  unfold f_X9_reading_J30 at hf
  rcases jthr_s hf with ⟨e2, h2, hf⟩ | ⟨r2, h2, hf⟩
  · cases hf
    exact B_callST B (Nat.le_refl _) hno hq ca_X9_needIndex sa_X9_needIndex lk_X9_125 (t_X9_needIndex B.tr h2) (Nat.le_refl _) rfl (rest := []) rfl rfl (Nat.le_of_ble_eq_true rfl) (by decide +kernel) (Nat.le_of_ble_eq_true rfl) (Nat.le_of_ble_eq_true rfl)
  · refine B_callS B (Nat.le_refl _) (μ' := r2.2) (k' := 1) (n' := 6) ca_X9_needIndex sa_X9_needIndex lk_X9_125 (t_X9_needIndex B.tr h2) (Nat.le_refl _) rfl (rest := []) rfl rfl (Nat.le_of_ble_eq_true rfl) (by decide +kernel) rfl rfl (st' := []) rfl ?_
    refine B_blk B jlkX9_ok jcl_SKF [.iload_n 3, .iconst 0, .sipush 500] (by decide +kernel) (ls' := [(0, jR 0), (1, jI v1), (2, jI v2), (3, jI v3)]) (st' := [jI 500, jI 0, jI v3]) rfl (p1 := 38) rfl ?_
    obtain ⟨r3, h3, hf⟩ := jbd hf
    refine B_callS B (Nat.le_refl _) (μ' := r2.2) (k' := 1) (n' := 6) ca_X9_isIn sa_X9_isIn lk_X9_93 (t_X9_isIn B.tr jcl_SKF h3) (Nat.le_refl _) rfl (rest := []) rfl rfl (Nat.le_of_ble_eq_true rfl) (by decide +kernel) rfl rfl (st' := [jI r3]) rfl ?_
    rcases jthr_s hf with ⟨e4, h4, hf⟩ | ⟨r4, h4, hf⟩
    · cases hf
      exact B_callST B (Nat.le_refl _) hno hq ca_X9_needArgument sa_X9_needArgument lk_X9_97 (t_X9_needArgument B.tr h4) (Nat.le_refl _) rfl (rest := []) rfl rfl (Nat.le_of_ble_eq_true rfl) (by decide +kernel) (Nat.le_of_ble_eq_true rfl) (Nat.le_of_ble_eq_true rfl)
    · refine B_callS B (Nat.le_refl _) (μ' := r4.2) (k' := 2) (n' := 12) ca_X9_needArgument sa_X9_needArgument lk_X9_97 (t_X9_needArgument B.tr h4) (Nat.le_refl _) rfl (rest := []) rfl rfl (Nat.le_of_ble_eq_true rfl) (by decide +kernel) rfl rfl (st' := []) rfl ?_
      refine B_blk B jlkX9_ok jcl_SKF [.aload_n 0, .getfield 20, .getfield 230] (by decide +kernel) (ls' := [(0, jR 0), (1, jI v1), (2, jI v2), (3, jI v3)]) (st' := [jR 26]) rfl (p1 := 51) rfl ?_
      obtain ⟨r5, h5, hf⟩ := jbd hf
      refine B_callV B (Nat.le_refl _) (μ' := r4.2) (k' := 2) (n' := 12) ca_X5_hasRoom in_X5_hasRoom se_X5_hasRoom lk_X9_105 (t_X5_hasRoom B.tr jcl_SKF ⟨rfl, rfl, by decide⟩ h5) (Nat.le_refl _) rfl rfl rfl (rest := []) rfl rfl (Nat.le_of_ble_eq_true rfl) (by decide +kernel) rfl rfl (st' := [jI r5]) rfl ?_
      rcases jthr_s hf with ⟨e6, h6, hf⟩ | ⟨r6, h6, hf⟩
      · cases hf
        exact B_callST B (Nat.le_refl _) hno hq ca_X9_needRoom sa_X9_needRoom lk_X9_111 (t_X9_needRoom B.tr h6) (Nat.le_refl _) rfl (rest := []) rfl rfl (Nat.le_of_ble_eq_true rfl) (by decide +kernel) (Nat.le_of_ble_eq_true rfl) (Nat.le_of_ble_eq_true rfl)
      · refine B_callS B (Nat.le_refl _) (μ' := r6.2) (k' := 3) (n' := 18) ca_X9_needRoom sa_X9_needRoom lk_X9_111 (t_X9_needRoom B.tr h6) (Nat.le_refl _) rfl (rest := []) rfl rfl (Nat.le_of_ble_eq_true rfl) (by decide +kernel) rfl rfl (st' := []) rfl ?_
        refine B_blk B jlkX9_ok jcl_SKF [.aload_n 0, .getfield 20, .getfield 230] (by decide +kernel) (ls' := [(0, jR 0), (1, jI v1), (2, jI v2), (3, jI v3)]) (st' := [jR 26]) rfl (p1 := 64) rfl ?_
        obtain ⟨r7, h7, hf⟩ := jbd hf
        refine B_callV B (Nat.le_refl _) (μ' := r7.2) (k' := 3) (n' := 18) ca_X5_addRow in_X5_addRow se_X5_addRow lk_X9_114 (t_X5_addRow B.tr jcl_SKF ⟨rfl, rfl, by decide⟩ h7) (Nat.le_refl _) rfl rfl rfl (rest := []) rfl rfl (Nat.le_of_ble_eq_true rfl) (by decide +kernel) rfl rfl (st' := [jI r7.1]) rfl ?_
        refine B_blk B jlkX9_ok jcl_SKF [.istore 4, .aload_n 0, .getfield 20, .getfield 230, .iload 4, .iconst 0, .iload_n 1] (by decide +kernel) (ls' := [(0, jR 0), (1, jI v1), (2, jI v2), (3, jI v3), (4, jI r7.1)]) (st' := [jI v1, jI 0, jI r7.1, jR 26]) rfl (p1 := 80) rfl ?_
        obtain ⟨r8, h8, hf⟩ := jbd hf
        refine B_callV B (Nat.le_refl _) (μ' := r8) (k' := 3) (n' := 18) ca_X5_set in_X5_set se_X5_set lk_X9_117 (t_X5_set B.tr jcl_SKF ⟨rfl, rfl, by decide⟩ h8) (Nat.le_refl _) rfl rfl rfl (rest := []) rfl rfl (Nat.le_of_ble_eq_true rfl) (by decide +kernel) rfl rfl (st' := []) rfl ?_
        refine B_blk B jlkX9_ok jcl_SKF [.aload_n 0, .getfield 20, .getfield 230, .iload 4, .iconst 1, .iload_n 2] (by decide +kernel) (ls' := [(0, jR 0), (1, jI v1), (2, jI v2), (3, jI v3), (4, jI r7.1)]) (st' := [jI v2, jI 1, jI r7.1, jR 26]) rfl (p1 := 94) rfl ?_
        obtain ⟨r9, h9, hf⟩ := jbd hf
        refine B_callV B (Nat.le_refl _) (μ' := r9) (k' := 3) (n' := 18) ca_X5_set in_X5_set se_X5_set lk_X9_117 (t_X5_set B.tr jcl_SKF ⟨rfl, rfl, by decide⟩ h9) (Nat.le_refl _) rfl rfl rfl (rest := []) rfl rfl (Nat.le_of_ble_eq_true rfl) (by decide +kernel) rfl rfl (st' := []) rfl ?_
        refine B_blk B jlkX9_ok jcl_SKF [.aload_n 0, .getfield 20, .getfield 230, .iload 4, .iconst 2, .iload_n 3] (by decide +kernel) (ls' := [(0, jR 0), (1, jI v1), (2, jI v2), (3, jI v3), (4, jI r7.1)]) (st' := [jI v3, jI 2, jI r7.1, jR 26]) rfl (p1 := 108) rfl ?_
        obtain ⟨r10, h10, hf⟩ := jbd hf
        refine B_callV B (Nat.le_refl _) (μ' := r10) (k' := 3) (n' := 18) ca_X5_set in_X5_set se_X5_set lk_X9_117 (t_X5_set B.tr jcl_SKF ⟨rfl, rfl, by decide⟩ h10) (Nat.le_refl _) rfl rfl rfl (rest := []) rfl rfl (Nat.le_of_ble_eq_true rfl) (by decide +kernel) rfl rfl (st' := []) rfl ?_
        refine B_blk B jlkX9_ok jcl_SKF [.aload_n 0, .getfield 20, .getfield 230, .iload 4, .iconst 3, .aload_n 0, .getfield 20, .getfield 90] (by decide +kernel) (ls' := [(0, jR 0), (1, jI v1), (2, jI v2), (3, jI v3), (4, jI r7.1)]) (st' := [jI (r10 1 14), jI 3, jI r7.1, jR 26]) rfl (p1 := 128) rfl ?_
        obtain ⟨r11, h11, hf⟩ := jbd hf
        refine B_callV B (Nat.le_refl _) (μ' := r11) (k' := 3) (n' := 18) ca_X5_set in_X5_set se_X5_set lk_X9_117 (t_X5_set B.tr jcl_SKF ⟨rfl, rfl, by decide⟩ h11) (Nat.le_refl _) rfl rfl rfl (rest := []) rfl rfl (Nat.le_of_ble_eq_true rfl) (by decide +kernel) rfl rfl (st' := []) rfl ?_
        refine B_blk B jlkX9_ok jcl_SKF [.iload 4] (by decide +kernel) (ls' := [(0, jR 0), (1, jI v1), (2, jI v2), (3, jI v3), (4, jI r7.1)]) (st' := [jI r7.1]) rfl (p1 := 133) rfl ?_
        cases hf
        exact B_retI B hq rfl (Nat.le_of_ble_eq_true rfl) (Nat.le_of_ble_eq_true rfl) (by decide +kernel)
theorem t_X9_reading_J29 {X : jX} (B : jB X cX9_reading RX9 5 SKF.length rm_X9_reading (some .int)) (hno : ∀ x ∈ (xc X).exceptionTable.toList, False) (v1 : Int) (v2 : Int) (v3 : Int) (m : jMu) (r : (jOut Int)) (hf : f_X9_reading_J29 v1 v2 v3 m = some r) (hq : jQ X (joI r) SKF (joM r) rm_X9_reading.cells rm_X9_reading.slots) : J X SKF m 0 0 29 [(0, jR 0), (1, jI v1), (2, jI v2), (3, jI v3)] [] := by
  unfold f_X9_reading_J29 at hf
  refine B_blk B jlkX9_ok jcl_SKF [.iconst 0] (by decide +kernel) (ls' := [(0, jR 0), (1, jI v1), (2, jI v2), (3, jI v3)]) (st' := [jI 0]) rfl (p1 := 30) rfl ?_
  exact t_X9_reading_J30 B hno v1 v2 v3 0 m _ hf hq
theorem t_X9_reading {l : Launch} {G : jG} (hl : l.stackTraces = false) {a0 : Int} {a1 : Int} {a2 : Int} {m : jMu} {r : (jOut Int)} (hf : f_X9_reading a0 a1 a2 m = some r) : jCt l G yX9_reading (.code yX9_reading cX9_reading 5 (some .int) :: jWG) rm_X9_reading [jR 0, jI a0, jI a1, jI a2] SKF m (joI r) SKF (joM r) := by
  unfold f_X9_reading at hf
  refine J_start (ls0 := [(0, jR 0), (1, jI a0), (2, jI a1), (3, jI a2)]) (by decide +kernel) hl (Nat.le_of_ble_eq_true rfl) rfl fun X C hN hn hR hr hnm hno hq => ?_
  have B : jB X cX9_reading RX9 5 SKF.length rm_X9_reading (some .int) := ⟨C, hN, Nat.le_of_eq hn, hR, hr⟩
  refine B_blk B jlkX9_ok jcl_SKF [.aload_n 0, .getfield 20, .getfield 101, .iload_n 1] (by decide +kernel) (ls' := [(0, jR 0), (1, jI a0), (2, jI a1), (3, jI a2)]) (st' := [jI a0, jR 4]) rfl (p1 := 8) rfl ?_
  obtain ⟨r1, h1, hf⟩ := jbd hf
  refine B_callV B (Nat.le_refl _) (μ' := m) (k' := 0) (n' := 0) ca_X5_has in_X5_has se_X5_has lk_X9_143 (t_X5_has B.tr jcl_SKF ⟨rfl, rfl, by decide⟩ h1) (Nat.le_refl _) rfl rfl rfl (rest := []) rfl rfl (Nat.le_of_ble_eq_true rfl) (by decide +kernel) rfl rfl (st' := [jI r1]) rfl ?_
  refine J_if_eq B.1 (off := 18) (tgt := 29) (by decide +kernel) (by decide) hf (fun hf => ?_) (fun hf => ?_)
  · exact t_X9_reading_J29 B hno a0 a1 a2 m _ hf hq
  · refine B_blk B jlkX9_ok jcl_SKF [.iload_n 2, .iconst 0, .sipush 199] (by decide +kernel) (ls' := [(0, jR 0), (1, jI a0), (2, jI a1), (3, jI a2)]) (st' := [jI 199, jI 0, jI a1]) rfl (p1 := 19) rfl ?_
    obtain ⟨r12, h12, hf⟩ := jbd hf
    refine B_callS B (Nat.le_refl _) (μ' := m) (k' := 0) (n' := 0) ca_X9_isIn sa_X9_isIn lk_X9_93 (t_X9_isIn B.tr jcl_SKF h12) (Nat.le_refl _) rfl (rest := []) rfl rfl (Nat.le_of_ble_eq_true rfl) (by decide +kernel) rfl rfl (st' := [jI r12]) rfl ?_
    refine J_if_eq B.1 (off := 7) (tgt := 29) (by decide +kernel) (by decide) hf (fun hf => ?_) (fun hf => ?_)
    · exact t_X9_reading_J29 B hno a0 a1 a2 m _ hf hq
    · refine B_blk B jlkX9_ok jcl_SKF [.iconst 1, .goto 4] (by decide +kernel) (ls' := [(0, jR 0), (1, jI a0), (2, jI a1), (3, jI a2)]) (st' := [jI 1]) rfl (p1 := 30) rfl ?_
      exact t_X9_reading_J30 B hno a0 a1 a2 1 m _ hf hq

def rm_X0_latestReading : Room := { frames := 4, cells := 0, slots := 0, locals := 87 }
def f_X0_latestReading_L18 : Nat → Int → Int → Int → Int → Int → Int → jMu → Option Int
  | 0, _, _, _, _, _, _, _ => none
  | q + 1, v1, v2, v3, v5, v6, v7, m => (f_X5_size 26 27 120 m).bind fun r1 => (if r1 ≤ v7 then some v5 else (f_X5_get 26 27 120 v7 1 m).bind fun r2 => (f_X5_get 26 27 120 v7 3 m).bind fun r3 => (if v3 < r3 then (f_X5_get 26 27 120 v7 0 m).bind fun r4 => (if r4 = v1 then (if v2 < r2 then f_X0_latestReading_L18 q v1 v2 v3 v5 v6 (jW (v7 + 1)) m else f_X0_latestReading_L18 q v1 v2 v3 v5 v6 (jW (v7 + 1)) m) else f_X0_latestReading_L18 q v1 v2 v3 v5 v6 (jW (v7 + 1)) m) else (f_X5_get 26 27 120 v7 0 m).bind fun r5 => (if r5 = v1 then (if v2 < r2 then f_X0_latestReading_L18 q v1 v2 v3 v5 v6 (jW (v7 + 1)) m else (if r2 < v6 then f_X0_latestReading_L18 q v1 v2 v3 v5 v6 (jW (v7 + 1)) m else f_X0_latestReading_L18 q v1 v2 v3 v7 r2 (jW (v7 + 1)) m)) else f_X0_latestReading_L18 q v1 v2 v3 v5 v6 (jW (v7 + 1)) m)))
def f_X0_latestReading (a0 : Int) (a1 : Int) (a2 : Int) (m : jMu) : Option Int :=
  f_X0_latestReading_L18 jFU a0 a1 a2 (-1) (-1) 0 m
theorem t_X0_latestReading_L18 {X : jX} (B : jB X cX0_latestReading RX0 11 SKF.length rm_X0_latestReading (some .int)) : ∀ (q : Nat) (v1 : Int) (v2 : Int) (v3 : Int) (v5 : Int) (v6 : Int) (v7 : Int) (m : jMu) (r : Int), f_X0_latestReading_L18 q v1 v2 v3 v5 v6 v7 m = some r → jQ X (.inl (some (jI r))) SKF m rm_X0_latestReading.cells rm_X0_latestReading.slots → J X SKF m 0 0 18 [(1, jI v1), (2, jI v2), (3, jI v3), (4, jR 26), (5, jI v5), (6, jI v6), (7, jI v7)] [] := by
  intro q
  induction q with
  | zero =>
    intro v1 v2 v3 v5 v6 v7 m r hf
    rw [f_X0_latestReading_L18] at hf
    cases hf
  | succ q ih =>
    intro v1 v2 v3 v5 v6 v7 m r hf hq
    rw [f_X0_latestReading_L18] at hf
    refine B_blk B jlkX0_ok jcl_SKF [.iload 7, .aload 4] (by decide +kernel) (ls' := [(1, jI v1), (2, jI v2), (3, jI v3), (4, jR 26), (5, jI v5), (6, jI v6), (7, jI v7)]) (st' := [jR 26, jI v7]) rfl (p1 := 22) rfl ?_
    obtain ⟨r1, h1, hf⟩ := jbd hf
    refine B_callV B (Nat.le_refl _) (μ' := m) (k' := 0) (n' := 0) ca_X5_size in_X5_size se_X5_size lk_X0_29 (t_X5_size B.tr jcl_SKF ⟨rfl, rfl, by decide⟩ h1) (Nat.le_refl _) rfl rfl rfl (rest := [jI v7]) rfl rfl (Nat.le_of_ble_eq_true rfl) (by decide +kernel) rfl rfl (st' := [jI r1, jI v7]) rfl ?_
    refine J_icmp_ge B.1 (off := 88) (tgt := 113) (by decide +kernel) (by decide) hf (fun hf => ?_) (fun hf => ?_)
    · refine B_blk B jlkX0_ok jcl_SKF [.iload 5] (by decide +kernel) (ls' := [(1, jI v1), (2, jI v2), (3, jI v3), (4, jR 26), (5, jI v5), (6, jI v6), (7, jI v7)]) (st' := [jI v5]) rfl (p1 := 115) rfl ?_
      cases hf
      exact B_retI B hq rfl (Nat.le_of_ble_eq_true rfl) (Nat.le_of_ble_eq_true rfl) (by decide +kernel)
    · refine B_blk B jlkX0_ok jcl_SKF [.aload 4, .iload 7, .iconst 1] (by decide +kernel) (ls' := [(1, jI v1), (2, jI v2), (3, jI v3), (4, jR 26), (5, jI v5), (6, jI v6), (7, jI v7)]) (st' := [jI 1, jI v7, jR 26]) rfl (p1 := 33) rfl ?_
      obtain ⟨r2, h2, hf⟩ := jbd hf
      refine B_callV B (Nat.le_refl _) (μ' := m) (k' := 0) (n' := 0) ca_X5_get in_X5_get se_X5_get lk_X0_35 (t_X5_get B.tr jcl_SKF ⟨rfl, rfl, by decide⟩ h2) (Nat.le_refl _) rfl rfl rfl (rest := []) rfl rfl (Nat.le_of_ble_eq_true rfl) (by decide +kernel) rfl rfl (st' := [jI r2]) rfl ?_
      refine B_blk B jlkX0_ok jcl_SKF [.istore 8, .aload 4, .iload 7, .iconst 3] (by decide +kernel) (ls' := [(1, jI v1), (2, jI v2), (3, jI v3), (4, jR 26), (5, jI v5), (6, jI v6), (7, jI v7), (8, jI r2)]) (st' := [jI 3, jI v7, jR 26]) rfl (p1 := 43) rfl ?_
      obtain ⟨r3, h3, hf⟩ := jbd hf
      refine B_callV B (Nat.le_refl _) (μ' := m) (k' := 0) (n' := 0) ca_X5_get in_X5_get se_X5_get lk_X0_35 (t_X5_get B.tr jcl_SKF ⟨rfl, rfl, by decide⟩ h3) (Nat.le_refl _) rfl rfl rfl (rest := []) rfl rfl (Nat.le_of_ble_eq_true rfl) (by decide +kernel) rfl rfl (st' := [jI r3]) rfl ?_
      refine B_blk B jlkX0_ok jcl_SKF [.iload_n 3] (by decide +kernel) (ls' := [(1, jI v1), (2, jI v2), (3, jI v3), (4, jR 26), (5, jI v5), (6, jI v6), (7, jI v7), (8, jI r2)]) (st' := [jI v3, jI r3]) rfl (p1 := 47) rfl ?_
      refine J_icmp_gt B.1 (off := 7) (tgt := 54) (by decide +kernel) (by decide) hf (fun hf => ?_) (fun hf => ?_)
      · refine B_blk B jlkX0_ok jcl_SKF [.iconst 0, .istore 9, .aload 4, .iload 7, .iconst 0] (by decide +kernel) (ls' := [(1, jI v1), (2, jI v2), (3, jI v3), (4, jR 26), (5, jI v5), (6, jI v6), (7, jI v7), (8, jI r2), (9, jI 0)]) (st' := [jI 0, jI v7, jR 26]) rfl (p1 := 62) rfl ?_
        obtain ⟨r4, h4, hf⟩ := jbd hf
        refine B_callV B (Nat.le_refl _) (μ' := m) (k' := 0) (n' := 0) ca_X5_get in_X5_get se_X5_get lk_X0_35 (t_X5_get B.tr jcl_SKF ⟨rfl, rfl, by decide⟩ h4) (Nat.le_refl _) rfl rfl rfl (rest := []) rfl rfl (Nat.le_of_ble_eq_true rfl) (by decide +kernel) rfl rfl (st' := [jI r4]) rfl ?_
        refine B_blk B jlkX0_ok jcl_SKF [.iload_n 1] (by decide +kernel) (ls' := [(1, jI v1), (2, jI v2), (3, jI v3), (4, jR 26), (5, jI v5), (6, jI v6), (7, jI v7), (8, jI r2), (9, jI 0)]) (st' := [jI v1, jI r4]) rfl (p1 := 66) rfl ?_
        refine J_icmp_ne B.1 (off := 13) (tgt := 79) (by decide +kernel) (by decide) hf (fun hf => ?_) (fun hf => ?_)
        · refine B_blk B jlkX0_ok jcl_SKF [.iload 8, .iload_n 2] (by decide +kernel) (ls' := [(1, jI v1), (2, jI v2), (3, jI v3), (4, jR 26), (5, jI v5), (6, jI v6), (7, jI v7), (8, jI r2), (9, jI 0)]) (st' := [jI v2, jI r2]) rfl (p1 := 72) rfl ?_
          refine J_icmp_gt B.1 (off := 7) (tgt := 79) (by decide +kernel) (by decide) hf (fun hf => ?_) (fun hf => ?_)
          · refine B_blk B jlkX0_ok jcl_SKF [.iconst 0, .istore 10, .iload 9] (by decide +kernel) (ls' := [(1, jI v1), (2, jI v2), (3, jI v3), (4, jR 26), (5, jI v5), (6, jI v6), (7, jI v7), (8, jI r2), (9, jI 0), (10, jI 0)]) (st' := [jI 0]) rfl (p1 := 84) rfl ?_
            refine J_if_eq (T := some ()) (F := none) (r := ()) B.1 (off := 23) (tgt := 107) (by decide +kernel) (by decide) (if_pos (by decide)) (fun _ => ?_) (fun h => nomatch h)
            refine B_blk B jlkX0_ok jcl_SKF [.iinc 7 1, .goto (-92)] (by decide +kernel) (ls' := [(1, jI v1), (2, jI v2), (3, jI v3), (4, jR 26), (5, jI v5), (6, jI v6), (7, jI (jW (v7 + 1))), (8, jI r2), (9, jI 0), (10, jI 0)]) (st' := []) rfl (p1 := 18) rfl ?_
            refine J_pick [0, 1, 2, 3, 4, 5, 6] (ls' := [(1, jI v1), (2, jI v2), (3, jI v3), (4, jR 26), (5, jI v5), (6, jI v6), (7, jI (jW (v7 + 1)))]) rfl ?_
            exact ih v1 v2 v3 v5 v6 (jW (v7 + 1)) m _ hf hq
          · refine B_blk B jlkX0_ok jcl_SKF [.iconst 1, .goto 4, .istore 10, .iload 9] (by decide +kernel) (ls' := [(1, jI v1), (2, jI v2), (3, jI v3), (4, jR 26), (5, jI v5), (6, jI v6), (7, jI v7), (8, jI r2), (9, jI 0), (10, jI 1)]) (st' := [jI 0]) rfl (p1 := 84) rfl ?_
            refine J_if_eq (T := some ()) (F := none) (r := ()) B.1 (off := 23) (tgt := 107) (by decide +kernel) (by decide) (if_pos (by decide)) (fun _ => ?_) (fun h => nomatch h)
            refine B_blk B jlkX0_ok jcl_SKF [.iinc 7 1, .goto (-92)] (by decide +kernel) (ls' := [(1, jI v1), (2, jI v2), (3, jI v3), (4, jR 26), (5, jI v5), (6, jI v6), (7, jI (jW (v7 + 1))), (8, jI r2), (9, jI 0), (10, jI 1)]) (st' := []) rfl (p1 := 18) rfl ?_
            refine J_pick [0, 1, 2, 3, 4, 5, 6] (ls' := [(1, jI v1), (2, jI v2), (3, jI v3), (4, jR 26), (5, jI v5), (6, jI v6), (7, jI (jW (v7 + 1)))]) rfl ?_
            exact ih v1 v2 v3 v5 v6 (jW (v7 + 1)) m _ hf hq
        · refine B_blk B jlkX0_ok jcl_SKF [.iconst 0, .istore 10, .iload 9] (by decide +kernel) (ls' := [(1, jI v1), (2, jI v2), (3, jI v3), (4, jR 26), (5, jI v5), (6, jI v6), (7, jI v7), (8, jI r2), (9, jI 0), (10, jI 0)]) (st' := [jI 0]) rfl (p1 := 84) rfl ?_
          refine J_if_eq (T := some ()) (F := none) (r := ()) B.1 (off := 23) (tgt := 107) (by decide +kernel) (by decide) (if_pos (by decide)) (fun _ => ?_) (fun h => nomatch h)
          refine B_blk B jlkX0_ok jcl_SKF [.iinc 7 1, .goto (-92)] (by decide +kernel) (ls' := [(1, jI v1), (2, jI v2), (3, jI v3), (4, jR 26), (5, jI v5), (6, jI v6), (7, jI (jW (v7 + 1))), (8, jI r2), (9, jI 0), (10, jI 0)]) (st' := []) rfl (p1 := 18) rfl ?_
          refine J_pick [0, 1, 2, 3, 4, 5, 6] (ls' := [(1, jI v1), (2, jI v2), (3, jI v3), (4, jR 26), (5, jI v5), (6, jI v6), (7, jI (jW (v7 + 1)))]) rfl ?_
          exact ih v1 v2 v3 v5 v6 (jW (v7 + 1)) m _ hf hq
      · refine B_blk B jlkX0_ok jcl_SKF [.iconst 1, .goto 4, .istore 9, .aload 4, .iload 7, .iconst 0] (by decide +kernel) (ls' := [(1, jI v1), (2, jI v2), (3, jI v3), (4, jR 26), (5, jI v5), (6, jI v6), (7, jI v7), (8, jI r2), (9, jI 1)]) (st' := [jI 0, jI v7, jR 26]) rfl (p1 := 62) rfl ?_
        obtain ⟨r5, h5, hf⟩ := jbd hf
        refine B_callV B (Nat.le_refl _) (μ' := m) (k' := 0) (n' := 0) ca_X5_get in_X5_get se_X5_get lk_X0_35 (t_X5_get B.tr jcl_SKF ⟨rfl, rfl, by decide⟩ h5) (Nat.le_refl _) rfl rfl rfl (rest := []) rfl rfl (Nat.le_of_ble_eq_true rfl) (by decide +kernel) rfl rfl (st' := [jI r5]) rfl ?_
        refine B_blk B jlkX0_ok jcl_SKF [.iload_n 1] (by decide +kernel) (ls' := [(1, jI v1), (2, jI v2), (3, jI v3), (4, jR 26), (5, jI v5), (6, jI v6), (7, jI v7), (8, jI r2), (9, jI 1)]) (st' := [jI v1, jI r5]) rfl (p1 := 66) rfl ?_
        refine J_icmp_ne B.1 (off := 13) (tgt := 79) (by decide +kernel) (by decide) hf (fun hf => ?_) (fun hf => ?_)
        · refine B_blk B jlkX0_ok jcl_SKF [.iload 8, .iload_n 2] (by decide +kernel) (ls' := [(1, jI v1), (2, jI v2), (3, jI v3), (4, jR 26), (5, jI v5), (6, jI v6), (7, jI v7), (8, jI r2), (9, jI 1)]) (st' := [jI v2, jI r2]) rfl (p1 := 72) rfl ?_
          refine J_icmp_gt B.1 (off := 7) (tgt := 79) (by decide +kernel) (by decide) hf (fun hf => ?_) (fun hf => ?_)
          · refine B_blk B jlkX0_ok jcl_SKF [.iconst 0, .istore 10, .iload 9] (by decide +kernel) (ls' := [(1, jI v1), (2, jI v2), (3, jI v3), (4, jR 26), (5, jI v5), (6, jI v6), (7, jI v7), (8, jI r2), (9, jI 1), (10, jI 0)]) (st' := [jI 1]) rfl (p1 := 84) rfl ?_
            refine J_if_eq (T := none) (F := some ()) (r := ()) B.1 (off := 23) (tgt := 107) (by decide +kernel) (by decide) (if_neg (by decide)) (fun h => nomatch h) (fun _ => ?_)
            refine B_blk B jlkX0_ok jcl_SKF [.iload 10] (by decide +kernel) (ls' := [(1, jI v1), (2, jI v2), (3, jI v3), (4, jR 26), (5, jI v5), (6, jI v6), (7, jI v7), (8, jI r2), (9, jI 1), (10, jI 0)]) (st' := [jI 0]) rfl (p1 := 89) rfl ?_
            refine J_if_eq (T := some ()) (F := none) (r := ()) B.1 (off := 18) (tgt := 107) (by decide +kernel) (by decide) (if_pos (by decide)) (fun _ => ?_) (fun h => nomatch h)
            refine B_blk B jlkX0_ok jcl_SKF [.iinc 7 1, .goto (-92)] (by decide +kernel) (ls' := [(1, jI v1), (2, jI v2), (3, jI v3), (4, jR 26), (5, jI v5), (6, jI v6), (7, jI (jW (v7 + 1))), (8, jI r2), (9, jI 1), (10, jI 0)]) (st' := []) rfl (p1 := 18) rfl ?_
            refine J_pick [0, 1, 2, 3, 4, 5, 6] (ls' := [(1, jI v1), (2, jI v2), (3, jI v3), (4, jR 26), (5, jI v5), (6, jI v6), (7, jI (jW (v7 + 1)))]) rfl ?_
            exact ih v1 v2 v3 v5 v6 (jW (v7 + 1)) m _ hf hq
          · refine B_blk B jlkX0_ok jcl_SKF [.iconst 1, .goto 4, .istore 10, .iload 9] (by decide +kernel) (ls' := [(1, jI v1), (2, jI v2), (3, jI v3), (4, jR 26), (5, jI v5), (6, jI v6), (7, jI v7), (8, jI r2), (9, jI 1), (10, jI 1)]) (st' := [jI 1]) rfl (p1 := 84) rfl ?_
            refine J_if_eq (T := none) (F := some ()) (r := ()) B.1 (off := 23) (tgt := 107) (by decide +kernel) (by decide) (if_neg (by decide)) (fun h => nomatch h) (fun _ => ?_)
            refine B_blk B jlkX0_ok jcl_SKF [.iload 10] (by decide +kernel) (ls' := [(1, jI v1), (2, jI v2), (3, jI v3), (4, jR 26), (5, jI v5), (6, jI v6), (7, jI v7), (8, jI r2), (9, jI 1), (10, jI 1)]) (st' := [jI 1]) rfl (p1 := 89) rfl ?_
            refine J_if_eq (T := none) (F := some ()) (r := ()) B.1 (off := 18) (tgt := 107) (by decide +kernel) (by decide) (if_neg (by decide)) (fun h => nomatch h) (fun _ => ?_)
            refine B_blk B jlkX0_ok jcl_SKF [.iload 8, .iload 6] (by decide +kernel) (ls' := [(1, jI v1), (2, jI v2), (3, jI v3), (4, jR 26), (5, jI v5), (6, jI v6), (7, jI v7), (8, jI r2), (9, jI 1), (10, jI 1)]) (st' := [jI v6, jI r2]) rfl (p1 := 96) rfl ?_
            refine J_icmp_lt B.1 (off := 11) (tgt := 107) (by decide +kernel) (by decide) hf (fun hf => ?_) (fun hf => ?_)
            · refine B_blk B jlkX0_ok jcl_SKF [.iinc 7 1, .goto (-92)] (by decide +kernel) (ls' := [(1, jI v1), (2, jI v2), (3, jI v3), (4, jR 26), (5, jI v5), (6, jI v6), (7, jI (jW (v7 + 1))), (8, jI r2), (9, jI 1), (10, jI 1)]) (st' := []) rfl (p1 := 18) rfl ?_
              refine J_pick [0, 1, 2, 3, 4, 5, 6] (ls' := [(1, jI v1), (2, jI v2), (3, jI v3), (4, jR 26), (5, jI v5), (6, jI v6), (7, jI (jW (v7 + 1)))]) rfl ?_
              exact ih v1 v2 v3 v5 v6 (jW (v7 + 1)) m _ hf hq
            · refine B_blk B jlkX0_ok jcl_SKF [.iload 7, .istore 5, .iload 8, .istore 6, .iinc 7 1, .goto (-92)] (by decide +kernel) (ls' := [(1, jI v1), (2, jI v2), (3, jI v3), (4, jR 26), (5, jI v7), (6, jI r2), (7, jI (jW (v7 + 1))), (8, jI r2), (9, jI 1), (10, jI 1)]) (st' := []) rfl (p1 := 18) rfl ?_
              refine J_pick [0, 1, 2, 3, 4, 5, 6] (ls' := [(1, jI v1), (2, jI v2), (3, jI v3), (4, jR 26), (5, jI v7), (6, jI r2), (7, jI (jW (v7 + 1)))]) rfl ?_
              exact ih v1 v2 v3 v7 r2 (jW (v7 + 1)) m _ hf hq
        · refine B_blk B jlkX0_ok jcl_SKF [.iconst 0, .istore 10, .iload 9] (by decide +kernel) (ls' := [(1, jI v1), (2, jI v2), (3, jI v3), (4, jR 26), (5, jI v5), (6, jI v6), (7, jI v7), (8, jI r2), (9, jI 1), (10, jI 0)]) (st' := [jI 1]) rfl (p1 := 84) rfl ?_
          refine J_if_eq (T := none) (F := some ()) (r := ()) B.1 (off := 23) (tgt := 107) (by decide +kernel) (by decide) (if_neg (by decide)) (fun h => nomatch h) (fun _ => ?_)
          refine B_blk B jlkX0_ok jcl_SKF [.iload 10] (by decide +kernel) (ls' := [(1, jI v1), (2, jI v2), (3, jI v3), (4, jR 26), (5, jI v5), (6, jI v6), (7, jI v7), (8, jI r2), (9, jI 1), (10, jI 0)]) (st' := [jI 0]) rfl (p1 := 89) rfl ?_
          refine J_if_eq (T := some ()) (F := none) (r := ()) B.1 (off := 18) (tgt := 107) (by decide +kernel) (by decide) (if_pos (by decide)) (fun _ => ?_) (fun h => nomatch h)
          refine B_blk B jlkX0_ok jcl_SKF [.iinc 7 1, .goto (-92)] (by decide +kernel) (ls' := [(1, jI v1), (2, jI v2), (3, jI v3), (4, jR 26), (5, jI v5), (6, jI v6), (7, jI (jW (v7 + 1))), (8, jI r2), (9, jI 1), (10, jI 0)]) (st' := []) rfl (p1 := 18) rfl ?_
          refine J_pick [0, 1, 2, 3, 4, 5, 6] (ls' := [(1, jI v1), (2, jI v2), (3, jI v3), (4, jR 26), (5, jI v5), (6, jI v6), (7, jI (jW (v7 + 1)))]) rfl ?_
          exact ih v1 v2 v3 v5 v6 (jW (v7 + 1)) m _ hf hq
theorem t_X0_latestReading {l : Launch} {G : jG} (hl : l.stackTraces = false) {a0 : Int} {a1 : Int} {a2 : Int} {m : jMu} {r : Int} (hf : f_X0_latestReading a0 a1 a2 m = some r) : jCt l G yX0_latestReading (.code yX0_latestReading cX0_latestReading 11 (some .int) :: jWG) rm_X0_latestReading [jR 70, jI a0, jI a1, jI a2] SKF m (.inl (some (jI r))) SKF m := by
  unfold f_X0_latestReading at hf
  refine J_start (ls0 := [(0, jR 70), (1, jI a0), (2, jI a1), (3, jI a2)]) (by decide +kernel) hl (Nat.le_of_ble_eq_true rfl) rfl fun X C hN hn hR hr hnm hno hq => ?_
  have B : jB X cX0_latestReading RX0 11 SKF.length rm_X0_latestReading (some .int) := ⟨C, hN, Nat.le_of_eq hn, hR, hr⟩
  refine B_blk B jlkX0_ok jcl_SKF [.aload_n 0, .getfield 9, .getfield 91, .astore 4, .iconst (-1), .istore 5, .iconst (-1), .istore 6, .iconst 0, .istore 7] (by decide +kernel) (ls' := [(0, jR 70), (1, jI a0), (2, jI a1), (3, jI a2), (4, jR 26), (5, jI (-1)), (6, jI (-1)), (7, jI 0)]) (st' := []) rfl (p1 := 18) rfl ?_
  refine J_pick [1, 2, 3, 4, 5, 6, 7] (ls' := [(1, jI a0), (2, jI a1), (3, jI a2), (4, jR 26), (5, jI (-1)), (6, jI (-1)), (7, jI 0)]) rfl ?_
  exact t_X0_latestReading_L18 B jFU a0 a1 a2 (-1) (-1) 0 m _ hf hq

def rm_X0_steelOn : Room := { frames := 6, cells := 0, slots := 0, locals := 117 }
def f_X0_steelOn_J123 (v2 : Int) (v6 : Int) (v7 : Int) (s1 : Int) (s2 : Int) (m : jMu) : Option Int :=
  (f_X5_get 2 3 4 s1 s2 m).bind fun r4 => (f_X0_bareDays v6 (jW (v2 - 1)) m).bind fun r5 => some (if jW (v7 - jW (r4 * r5)) < 0 then 0 else jW (v7 - jW (r4 * r5)))
def f_X0_steelOn_J90 (v1 : Int) (v2 : Int) (v4 : Int) (v6 : Int) (v7 : Int) (m : jMu) : Option Int :=
  (f_X5_get 4 5 80 v1 0 m).bind fun r3 => (if v4 = 0 then f_X0_steelOn_J123 v2 v6 v7 r3 1 m else f_X0_steelOn_J123 v2 v6 v7 r3 0 m)
def f_X0_steelOn_J88 (v1 : Int) (v2 : Int) (v4 : Int) (v6 : Int) (s0 : Int) (m : jMu) : Option Int :=
  f_X0_steelOn_J90 v1 v2 v4 v6 s0 m
def f_X0_steelOn (a0 : Int) (a1 : Int) (a2 : Int) (a3 : Int) (m : jMu) : Option Int :=
  (f_X0_latestReading a0 a1 a2 m).bind fun r1 => (f_X5_get 4 5 80 a0 3 m).bind fun r2 => (if r1 = (-1) then f_X0_steelOn_J90 a0 a1 a3 0 r2 m else (f_X5_get 26 27 120 r1 2 m).bind fun r6 => (f_X5_get 26 27 120 r1 1 m).bind fun r7 => (if a3 = 0 then f_X0_steelOn_J88 a0 a1 a3 r7 (if jW (r6 - 2) < 0 then 0 else jW (r6 - 2)) m else f_X0_steelOn_J88 a0 a1 a3 r7 (if 500 < jW (r6 + 2) then 500 else jW (r6 + 2)) m))
theorem t_X0_steelOn_J123 {X : jX} (B : jB X cX0_steelOn RX0 10 SKF.length rm_X0_steelOn (some .int)) (v2 : Int) (v6 : Int) (v7 : Int) (s1 : Int) (s2 : Int) (m : jMu) (r : Int) (hf : f_X0_steelOn_J123 v2 v6 v7 s1 s2 m = some r) (hq : jQ X (.inl (some (jI r))) SKF m rm_X0_steelOn.cells rm_X0_steelOn.slots) : J X SKF m 0 0 123 [(0, jR 70), (2, jI v2), (6, jI v6), (7, jI v7)] [jI s2, jI s1, jR 2] := by
  unfold f_X0_steelOn_J123 at hf
  obtain ⟨r4, h4, hf⟩ := jbd hf
  refine B_callV B (Nat.le_refl _) (μ' := m) (k' := 0) (n' := 0) ca_X5_get in_X5_get se_X5_get lk_X0_35 (t_X5_get B.tr jcl_SKF ⟨rfl, rfl, by decide⟩ h4) (Nat.le_refl _) rfl rfl rfl (rest := []) rfl rfl (Nat.le_of_ble_eq_true rfl) (by decide +kernel) rfl rfl (st' := [jI r4]) rfl ?_
  refine B_blk B jlkX0_ok jcl_SKF [.istore 9, .iload 7, .iload 9, .aload_n 0, .iload 6, .iload_n 2, .iconst 1, .isub] (by decide +kernel) (ls' := [(0, jR 70), (2, jI v2), (6, jI v6), (7, jI v7), (9, jI r4)]) (st' := [jI (jW (v2 - 1)), jI v6, jR 70, jI r4, jI v7]) rfl (p1 := 138) rfl ?_
  obtain ⟨r5, h5, hf⟩ := jbd hf
  refine B_callV B (Nat.le_refl _) (μ' := m) (k' := 0) (n' := 0) ca_X0_bareDays in_X0_bareDays se_X0_bareDays lk_X0_97 (t_X0_bareDays B.tr h5) (Nat.le_refl _) rfl rfl rfl (rest := [jI r4, jI v7]) rfl rfl (Nat.le_of_ble_eq_true rfl) (by decide +kernel) rfl rfl (st' := [jI r5, jI r4, jI v7]) rfl ?_
  refine B_blk B jlkX0_ok jcl_SKF [.imul, .isub, .iconst 0] (by decide +kernel) (ls' := [(0, jR 70), (2, jI v2), (6, jI v6), (7, jI v7), (9, jI r4)]) (st' := [jI 0, jI (jW (v7 - jW (r4 * r5)))]) rfl (p1 := 144) rfl ?_
  refine J_max B.1 lk_X0_84 sa_max ii_J9 jca_max B.2.2.2.1 (Nat.le_of_ble_eq_true rfl) (Nat.le_of_ble_eq_true rfl) (Nat.le_of_ble_eq_true rfl) (Nat.le_of_ble_eq_true rfl) (by decide +kernel) ?_
  cases hf
  exact B_retI B hq rfl (Nat.le_of_ble_eq_true rfl) (Nat.le_of_ble_eq_true rfl) (by decide +kernel)
theorem t_X0_steelOn_J90 {X : jX} (B : jB X cX0_steelOn RX0 10 SKF.length rm_X0_steelOn (some .int)) (v1 : Int) (v2 : Int) (v4 : Int) (v6 : Int) (v7 : Int) (m : jMu) (r : Int) (hf : f_X0_steelOn_J90 v1 v2 v4 v6 v7 m = some r) (hq : jQ X (.inl (some (jI r))) SKF m rm_X0_steelOn.cells rm_X0_steelOn.slots) : J X SKF m 0 0 90 [(0, jR 70), (1, jI v1), (2, jI v2), (4, jI v4), (6, jI v6), (7, jI v7)] [] := by
  unfold f_X0_steelOn_J90 at hf
  refine B_blk B jlkX0_ok jcl_SKF [.aload_n 0, .getfield 9, .getfield 43, .iload_n 1, .iconst 0] (by decide +kernel) (ls' := [(0, jR 70), (1, jI v1), (2, jI v2), (4, jI v4), (6, jI v6), (7, jI v7)]) (st' := [jI 0, jI v1, jR 4]) rfl (p1 := 99) rfl ?_
  obtain ⟨r3, h3, hf⟩ := jbd hf
  refine B_callV B (Nat.le_refl _) (μ' := m) (k' := 0) (n' := 0) ca_X5_get in_X5_get se_X5_get lk_X0_35 (t_X5_get B.tr jcl_SKF ⟨rfl, rfl, by decide⟩ h3) (Nat.le_refl _) rfl rfl rfl (rest := []) rfl rfl (Nat.le_of_ble_eq_true rfl) (by decide +kernel) rfl rfl (st' := [jI r3]) rfl ?_
  refine B_blk B jlkX0_ok jcl_SKF [.istore 8, .aload_n 0, .getfield 9, .getfield 94, .iload 8, .iload 4] (by decide +kernel) (ls' := [(0, jR 70), (1, jI v1), (2, jI v2), (4, jI v4), (6, jI v6), (7, jI v7), (8, jI r3)]) (st' := [jI v4, jI r3, jR 2]) rfl (p1 := 115) rfl ?_
  refine J_if_eq B.1 (off := 7) (tgt := 122) (by decide +kernel) (by decide) hf (fun hf => ?_) (fun hf => ?_)
  · refine B_blk B jlkX0_ok jcl_SKF [.iconst 1] (by decide +kernel) (ls' := [(0, jR 70), (1, jI v1), (2, jI v2), (4, jI v4), (6, jI v6), (7, jI v7), (8, jI r3)]) (st' := [jI 1, jI r3, jR 2]) rfl (p1 := 123) rfl ?_
    refine J_pick [0, 2, 4, 5] (ls' := [(0, jR 70), (2, jI v2), (6, jI v6), (7, jI v7)]) rfl ?_
    exact t_X0_steelOn_J123 B v2 v6 v7 r3 1 m _ hf hq
  · refine B_blk B jlkX0_ok jcl_SKF [.iconst 0, .goto 4] (by decide +kernel) (ls' := [(0, jR 70), (1, jI v1), (2, jI v2), (4, jI v4), (6, jI v6), (7, jI v7), (8, jI r3)]) (st' := [jI 0, jI r3, jR 2]) rfl (p1 := 123) rfl ?_
    refine J_pick [0, 2, 4, 5] (ls' := [(0, jR 70), (2, jI v2), (6, jI v6), (7, jI v7)]) rfl ?_
    exact t_X0_steelOn_J123 B v2 v6 v7 r3 0 m _ hf hq
theorem t_X0_steelOn_J88 {X : jX} (B : jB X cX0_steelOn RX0 10 SKF.length rm_X0_steelOn (some .int)) (v1 : Int) (v2 : Int) (v4 : Int) (v6 : Int) (s0 : Int) (m : jMu) (r : Int) (hf : f_X0_steelOn_J88 v1 v2 v4 v6 s0 m = some r) (hq : jQ X (.inl (some (jI r))) SKF m rm_X0_steelOn.cells rm_X0_steelOn.slots) : J X SKF m 0 0 88 [(0, jR 70), (1, jI v1), (2, jI v2), (4, jI v4), (6, jI v6)] [jI s0] := by
  unfold f_X0_steelOn_J88 at hf
  refine B_blk B jlkX0_ok jcl_SKF [.istore 7] (by decide +kernel) (ls' := [(0, jR 70), (1, jI v1), (2, jI v2), (4, jI v4), (6, jI v6), (7, jI s0)]) (st' := []) rfl (p1 := 90) rfl ?_
  exact t_X0_steelOn_J90 B v1 v2 v4 v6 s0 m _ hf hq
theorem t_X0_steelOn {l : Launch} {G : jG} (hl : l.stackTraces = false) {a0 : Int} {a1 : Int} {a2 : Int} {a3 : Int} {m : jMu} {r : Int} (hf : f_X0_steelOn a0 a1 a2 a3 m = some r) : jCt l G yX0_steelOn (.code yX0_steelOn cX0_steelOn 10 (some .int) :: jWG) rm_X0_steelOn [jR 70, jI a0, jI a1, jI a2, jI a3] SKF m (.inl (some (jI r))) SKF m := by
  unfold f_X0_steelOn at hf
  refine J_start (ls0 := [(0, jR 70), (1, jI a0), (2, jI a1), (3, jI a2), (4, jI a3)]) (by decide +kernel) hl (Nat.le_of_ble_eq_true rfl) rfl fun X C hN hn hR hr hnm hno hq => ?_
  have B : jB X cX0_steelOn RX0 10 SKF.length rm_X0_steelOn (some .int) := ⟨C, hN, Nat.le_of_eq hn, hR, hr⟩
  refine B_blk B jlkX0_ok jcl_SKF [.aload_n 0, .iload_n 1, .iload_n 2, .iload_n 3] (by decide +kernel) (ls' := [(0, jR 70), (1, jI a0), (2, jI a1), (3, jI a2), (4, jI a3)]) (st' := [jI a2, jI a1, jI a0, jR 70]) rfl (p1 := 4) rfl ?_
  obtain ⟨r1, h1, hf⟩ := jbd hf
  refine B_callV B (Nat.le_refl _) (μ' := m) (k' := 0) (n' := 0) ca_X0_latestReading in_X0_latestReading se_X0_latestReading lk_X0_87 (t_X0_latestReading B.tr h1) (Nat.le_refl _) rfl rfl rfl (rest := []) rfl rfl (Nat.le_of_ble_eq_true rfl) (by decide +kernel) rfl rfl (st' := [jI r1]) rfl ?_
  refine B_blk B jlkX0_ok jcl_SKF [.istore 5, .iconst 0, .istore 6, .aload_n 0, .getfield 9, .getfield 43, .iload_n 1, .iconst 3] (by decide +kernel) (ls' := [(0, jR 70), (1, jI a0), (2, jI a1), (3, jI a2), (4, jI a3), (5, jI r1), (6, jI 0)]) (st' := [jI 3, jI a0, jR 4]) rfl (p1 := 21) rfl ?_
  obtain ⟨r2, h2, hf⟩ := jbd hf
  refine B_callV B (Nat.le_refl _) (μ' := m) (k' := 0) (n' := 0) ca_X5_get in_X5_get se_X5_get lk_X0_35 (t_X5_get B.tr jcl_SKF ⟨rfl, rfl, by decide⟩ h2) (Nat.le_refl _) rfl rfl rfl (rest := []) rfl rfl (Nat.le_of_ble_eq_true rfl) (by decide +kernel) rfl rfl (st' := [jI r2]) rfl ?_
  refine B_blk B jlkX0_ok jcl_SKF [.istore 7, .iload 5, .iconst (-1)] (by decide +kernel) (ls' := [(0, jR 70), (1, jI a0), (2, jI a1), (3, jI a2), (4, jI a3), (5, jI r1), (6, jI 0), (7, jI r2)]) (st' := [jI (-1), jI r1]) rfl (p1 := 29) rfl ?_
  refine J_icmp_eq B.1 (off := 61) (tgt := 90) (by decide +kernel) (by decide) hf (fun hf => ?_) (fun hf => ?_)
  · refine J_pick [0, 1, 2, 4, 6, 7] (ls' := [(0, jR 70), (1, jI a0), (2, jI a1), (4, jI a3), (6, jI 0), (7, jI r2)]) rfl ?_
    exact t_X0_steelOn_J90 B a0 a1 a3 0 r2 m _ hf hq
  · refine B_blk B jlkX0_ok jcl_SKF [.aload_n 0, .getfield 9, .getfield 91, .iload 5, .iconst 2] (by decide +kernel) (ls' := [(0, jR 70), (1, jI a0), (2, jI a1), (3, jI a2), (4, jI a3), (5, jI r1), (6, jI 0), (7, jI r2)]) (st' := [jI 2, jI r1, jR 26]) rfl (p1 := 42) rfl ?_
    obtain ⟨r6, h6, hf⟩ := jbd hf
    refine B_callV B (Nat.le_refl _) (μ' := m) (k' := 0) (n' := 0) ca_X5_get in_X5_get se_X5_get lk_X0_35 (t_X5_get B.tr jcl_SKF ⟨rfl, rfl, by decide⟩ h6) (Nat.le_refl _) rfl rfl rfl (rest := []) rfl rfl (Nat.le_of_ble_eq_true rfl) (by decide +kernel) rfl rfl (st' := [jI r6]) rfl ?_
    refine B_blk B jlkX0_ok jcl_SKF [.istore 8, .aload_n 0, .getfield 9, .getfield 91, .iload 5, .iconst 1] (by decide +kernel) (ls' := [(0, jR 70), (1, jI a0), (2, jI a1), (3, jI a2), (4, jI a3), (5, jI r1), (6, jI 0), (7, jI r2), (8, jI r6)]) (st' := [jI 1, jI r1, jR 26]) rfl (p1 := 57) rfl ?_
    obtain ⟨r7, h7, hf⟩ := jbd hf
    refine B_callV B (Nat.le_refl _) (μ' := m) (k' := 0) (n' := 0) ca_X5_get in_X5_get se_X5_get lk_X0_35 (t_X5_get B.tr jcl_SKF ⟨rfl, rfl, by decide⟩ h7) (Nat.le_refl _) rfl rfl rfl (rest := []) rfl rfl (Nat.le_of_ble_eq_true rfl) (by decide +kernel) rfl rfl (st' := [jI r7]) rfl ?_
    refine B_blk B jlkX0_ok jcl_SKF [.istore 6, .iload 4] (by decide +kernel) (ls' := [(0, jR 70), (1, jI a0), (2, jI a1), (3, jI a2), (4, jI a3), (5, jI r1), (6, jI r7), (7, jI r2), (8, jI r6)]) (st' := [jI a3]) rfl (p1 := 64) rfl ?_
    refine J_if_eq B.1 (off := 16) (tgt := 80) (by decide +kernel) (by decide) hf (fun hf => ?_) (fun hf => ?_)
    · refine B_blk B jlkX0_ok jcl_SKF [.iload 8, .iconst 2, .isub, .iconst 0] (by decide +kernel) (ls' := [(0, jR 70), (1, jI a0), (2, jI a1), (3, jI a2), (4, jI a3), (5, jI r1), (6, jI r7), (7, jI r2), (8, jI r6)]) (st' := [jI 0, jI (jW (r6 - 2))]) rfl (p1 := 85) rfl ?_
      refine J_max B.1 lk_X0_84 sa_max ii_J9 jca_max B.2.2.2.1 (Nat.le_of_ble_eq_true rfl) (Nat.le_of_ble_eq_true rfl) (Nat.le_of_ble_eq_true rfl) (Nat.le_of_ble_eq_true rfl) (by decide +kernel) ?_
      refine J_pick [0, 1, 2, 4, 6] (ls' := [(0, jR 70), (1, jI a0), (2, jI a1), (4, jI a3), (6, jI r7)]) rfl ?_
      exact t_X0_steelOn_J88 B a0 a1 a3 r7 (if jW (r6 - 2) < 0 then 0 else jW (r6 - 2)) m _ hf hq
    · refine B_blk B jlkX0_ok jcl_SKF [.iload 8, .iconst 2, .iadd, .sipush 500] (by decide +kernel) (ls' := [(0, jR 70), (1, jI a0), (2, jI a1), (3, jI a2), (4, jI a3), (5, jI r1), (6, jI r7), (7, jI r2), (8, jI r6)]) (st' := [jI 500, jI (jW (r6 + 2))]) rfl (p1 := 74) rfl ?_
      refine J_min B.1 lk_X0_79 sa_min ii_J9 jca_min B.2.2.2.1 (Nat.le_of_ble_eq_true rfl) (Nat.le_of_ble_eq_true rfl) (Nat.le_of_ble_eq_true rfl) (Nat.le_of_ble_eq_true rfl) (by decide +kernel) ?_
      refine B_blk B jlkX0_ok jcl_SKF [.goto 11] (by decide +kernel) (ls' := [(0, jR 70), (1, jI a0), (2, jI a1), (3, jI a2), (4, jI a3), (5, jI r1), (6, jI r7), (7, jI r2), (8, jI r6)]) (st' := [jI (if 500 < jW (r6 + 2) then 500 else jW (r6 + 2))]) rfl (p1 := 88) rfl ?_
      refine J_pick [0, 1, 2, 4, 6] (ls' := [(0, jR 70), (1, jI a0), (2, jI a1), (4, jI a3), (6, jI r7)]) rfl ?_
      exact t_X0_steelOn_J88 B a0 a1 a3 r7 (if 500 < jW (r6 + 2) then 500 else jW (r6 + 2)) m _ hf hq

def rm_X9_steel : Room := { frames := 14, cells := 2, slots := 12, locals := 212 }
def f_X9_steel (a0 : Int) (a1 : Int) (a2 : Int) (a3 : Int) (m : jMu) : Option (jOut Int) :=
  (f_X5_has 4 5 80 a0 m).bind fun r1 => jthr (f_X9_needIndex r1 m) fun r2 => jthr (f_X9_needDays a1 a2 r2.2) fun r3 => (f_X0_measureBare a0 a2 r3.2).bind fun r4 => (f_X0_steelOn a0 a1 a2 a3 r4).bind fun r5 => some (.inr (r5, r4))
theorem t_X9_steel {l : Launch} {G : jG} (hl : l.stackTraces = false) {a0 : Int} {a1 : Int} {a2 : Int} {a3 : Int} {m : jMu} {r : (jOut Int)} (hf : f_X9_steel a0 a1 a2 a3 m = some r) : jCt l G yX9_steel (.code yX9_steel cX9_steel 5 (some .int) :: jWG) rm_X9_steel [jR 0, jI a0, jI a1, jI a2, jI a3] SKF m (joI r) SKF (joM r) := by
  unfold f_X9_steel at hf
  refine J_start (ls0 := [(0, jR 0), (1, jI a0), (2, jI a1), (3, jI a2), (4, jI a3)]) (by decide +kernel) hl (Nat.le_of_ble_eq_true rfl) rfl fun X C hN hn hR hr hnm hno hq => ?_
  have B : jB X cX9_steel RX9 5 SKF.length rm_X9_steel (some .int) := ⟨C, hN, Nat.le_of_eq hn, hR, hr⟩
  refine B_blk B jlkX9_ok jcl_SKF [.aload_n 0, .getfield 20, .getfield 101, .iload_n 1] (by decide +kernel) (ls' := [(0, jR 0), (1, jI a0), (2, jI a1), (3, jI a2), (4, jI a3)]) (st' := [jI a0, jR 4]) rfl (p1 := 8) rfl ?_
  obtain ⟨r1, h1, hf⟩ := jbd hf
  refine B_callV B (Nat.le_refl _) (μ' := m) (k' := 0) (n' := 0) ca_X5_has in_X5_has se_X5_has lk_X9_143 (t_X5_has B.tr jcl_SKF ⟨rfl, rfl, by decide⟩ h1) (Nat.le_refl _) rfl rfl rfl (rest := []) rfl rfl (Nat.le_of_ble_eq_true rfl) (by decide +kernel) rfl rfl (st' := [jI r1]) rfl ?_
  rcases jthr_s hf with ⟨e2, h2, hf⟩ | ⟨r2, h2, hf⟩
  · cases hf
    exact B_callST B (Nat.le_refl _) hno hq ca_X9_needIndex sa_X9_needIndex lk_X9_125 (t_X9_needIndex B.tr h2) (Nat.le_refl _) rfl (rest := []) rfl rfl (Nat.le_of_ble_eq_true rfl) (by decide +kernel) (Nat.le_of_ble_eq_true rfl) (Nat.le_of_ble_eq_true rfl)
  · refine B_callS B (Nat.le_refl _) (μ' := r2.2) (k' := 1) (n' := 6) ca_X9_needIndex sa_X9_needIndex lk_X9_125 (t_X9_needIndex B.tr h2) (Nat.le_refl _) rfl (rest := []) rfl rfl (Nat.le_of_ble_eq_true rfl) (by decide +kernel) rfl rfl (st' := []) rfl ?_
    refine B_blk B jlkX9_ok jcl_SKF [.iload_n 2, .iload_n 3] (by decide +kernel) (ls' := [(0, jR 0), (1, jI a0), (2, jI a1), (3, jI a2), (4, jI a3)]) (st' := [jI a2, jI a1]) rfl (p1 := 16) rfl ?_
    rcases jthr_s hf with ⟨e3, h3, hf⟩ | ⟨r3, h3, hf⟩
    · cases hf
      exact B_callST B (Nat.le_refl _) hno hq ca_X9_needDays sa_X9_needDays lk_X9_121 (t_X9_needDays B.tr h3) (Nat.le_refl _) rfl (rest := []) rfl rfl (Nat.le_of_ble_eq_true rfl) (by decide +kernel) (Nat.le_of_ble_eq_true rfl) (Nat.le_of_ble_eq_true rfl)
    · refine B_callS B (Nat.le_refl _) (μ' := r3.2) (k' := 2) (n' := 12) ca_X9_needDays sa_X9_needDays lk_X9_121 (t_X9_needDays B.tr h3) (Nat.le_refl _) rfl (rest := []) rfl rfl (Nat.le_of_ble_eq_true rfl) (by decide +kernel) rfl rfl (st' := []) rfl ?_
      refine B_blk B jlkX9_ok jcl_SKF [.aload_n 0, .getfield 56, .iload_n 1, .iload_n 3] (by decide +kernel) (ls' := [(0, jR 0), (1, jI a0), (2, jI a1), (3, jI a2), (4, jI a3)]) (st' := [jI a2, jI a0, jR 70]) rfl (p1 := 25) rfl ?_
      obtain ⟨r4, h4, hf⟩ := jbd hf
      refine B_callV B (Nat.le_refl _) (μ' := r4) (k' := 2) (n' := 12) ca_X0_measureBare in_X0_measureBare se_X0_measureBare lk_X9_221 (t_X0_measureBare B.tr h4) (Nat.le_refl _) rfl rfl rfl (rest := []) rfl rfl (Nat.le_of_ble_eq_true rfl) (by decide +kernel) rfl rfl (st' := []) rfl ?_
      refine B_blk B jlkX9_ok jcl_SKF [.aload_n 0, .getfield 56, .iload_n 1, .iload_n 2, .iload_n 3, .iload 4] (by decide +kernel) (ls' := [(0, jR 0), (1, jI a0), (2, jI a1), (3, jI a2), (4, jI a3)]) (st' := [jI a3, jI a2, jI a1, jI a0, jR 70]) rfl (p1 := 37) rfl ?_
      obtain ⟨r5, h5, hf⟩ := jbd hf
      refine B_callV B (Nat.le_refl _) (μ' := r4) (k' := 2) (n' := 12) ca_X0_steelOn in_X0_steelOn se_X0_steelOn lk_X9_233 (t_X0_steelOn B.tr h5) (Nat.le_refl _) rfl rfl rfl (rest := []) rfl rfl (Nat.le_of_ble_eq_true rfl) (by decide +kernel) rfl rfl (st' := [jI r5]) rfl ?_
      cases hf
      exact B_retI B hq rfl (Nat.le_of_ble_eq_true rfl) (Nat.le_of_ble_eq_true rfl) (by decide +kernel)

def rm_X0_firstBelow : Room := { frames := 8, cells := 0, slots := 0, locals := 146 }
def f_X0_firstBelow_L3 : Nat → Int → Int → Int → Int → jMu → Option Int
  | 0, _, _, _, _, _ => none
  | q + 1, v1, v2, v3, v4, m => (if 200 ≤ v4 then some (-1) else (f_X0_steelOn v1 v4 v3 0 m).bind fun r1 => (if v2 ≤ r1 then f_X0_firstBelow_L3 q v1 v2 v3 (jW (v4 + 1)) m else some v4))
def f_X0_firstBelow (a0 : Int) (a1 : Int) (a2 : Int) (m : jMu) : Option Int :=
  f_X0_firstBelow_L3 jFU a0 a1 a2 0 m
theorem t_X0_firstBelow_L3 {X : jX} (B : jB X cX0_firstBelow RX0 5 SKF.length rm_X0_firstBelow (some .int)) : ∀ (q : Nat) (v1 : Int) (v2 : Int) (v3 : Int) (v4 : Int) (m : jMu) (r : Int), f_X0_firstBelow_L3 q v1 v2 v3 v4 m = some r → jQ X (.inl (some (jI r))) SKF m rm_X0_firstBelow.cells rm_X0_firstBelow.slots → J X SKF m 0 0 3 [(0, jR 70), (1, jI v1), (2, jI v2), (3, jI v3), (4, jI v4)] [] := by
  intro q
  induction q with
  | zero =>
    intro v1 v2 v3 v4 m r hf
    rw [f_X0_firstBelow_L3] at hf
    cases hf
  | succ q ih =>
    intro v1 v2 v3 v4 m r hf hq
    rw [f_X0_firstBelow_L3] at hf
    refine B_blk B jlkX0_ok jcl_SKF [.iload 4, .sipush 200] (by decide +kernel) (ls' := [(0, jR 70), (1, jI v1), (2, jI v2), (3, jI v3), (4, jI v4)]) (st' := [jI 200, jI v4]) rfl (p1 := 8) rfl ?_
    refine J_icmp_ge B.1 (off := 25) (tgt := 33) (by decide +kernel) (by decide) hf (fun hf => ?_) (fun hf => ?_)
    · refine B_blk B jlkX0_ok jcl_SKF [.iconst (-1)] (by decide +kernel) (ls' := [(0, jR 70), (1, jI v1), (2, jI v2), (3, jI v3), (4, jI v4)]) (st' := [jI (-1)]) rfl (p1 := 34) rfl ?_
      cases hf
      exact B_retI B hq rfl (Nat.le_of_ble_eq_true rfl) (Nat.le_of_ble_eq_true rfl) (by decide +kernel)
    · refine B_blk B jlkX0_ok jcl_SKF [.aload_n 0, .iload_n 1, .iload 4, .iload_n 3, .iconst 0] (by decide +kernel) (ls' := [(0, jR 70), (1, jI v1), (2, jI v2), (3, jI v3), (4, jI v4)]) (st' := [jI 0, jI v3, jI v4, jI v1, jR 70]) rfl (p1 := 17) rfl ?_
      obtain ⟨r1, h1, hf⟩ := jbd hf
      refine B_callV B (Nat.le_refl _) (μ' := m) (k' := 0) (n' := 0) ca_X0_steelOn in_X0_steelOn se_X0_steelOn lk_X0_100 (t_X0_steelOn B.tr h1) (Nat.le_refl _) rfl rfl rfl (rest := []) rfl rfl (Nat.le_of_ble_eq_true rfl) (by decide +kernel) rfl rfl (st' := [jI r1]) rfl ?_
      refine B_blk B jlkX0_ok jcl_SKF [.iload_n 2] (by decide +kernel) (ls' := [(0, jR 70), (1, jI v1), (2, jI v2), (3, jI v3), (4, jI v4)]) (st' := [jI v2, jI r1]) rfl (p1 := 21) rfl ?_
      refine J_icmp_ge B.1 (off := 6) (tgt := 27) (by decide +kernel) (by decide) hf (fun hf => ?_) (fun hf => ?_)
      · refine B_blk B jlkX0_ok jcl_SKF [.iinc 4 1, .goto (-27)] (by decide +kernel) (ls' := [(0, jR 70), (1, jI v1), (2, jI v2), (3, jI v3), (4, jI (jW (v4 + 1)))]) (st' := []) rfl (p1 := 3) rfl ?_
        exact ih v1 v2 v3 (jW (v4 + 1)) m _ hf hq
      · refine B_blk B jlkX0_ok jcl_SKF [.iload 4] (by decide +kernel) (ls' := [(0, jR 70), (1, jI v1), (2, jI v2), (3, jI v3), (4, jI v4)]) (st' := [jI v4]) rfl (p1 := 26) rfl ?_
        cases hf
        exact B_retI B hq rfl (Nat.le_of_ble_eq_true rfl) (Nat.le_of_ble_eq_true rfl) (by decide +kernel)
theorem t_X0_firstBelow {l : Launch} {G : jG} (hl : l.stackTraces = false) {a0 : Int} {a1 : Int} {a2 : Int} {m : jMu} {r : Int} (hf : f_X0_firstBelow a0 a1 a2 m = some r) : jCt l G yX0_firstBelow (.code yX0_firstBelow cX0_firstBelow 5 (some .int) :: jWG) rm_X0_firstBelow [jR 70, jI a0, jI a1, jI a2] SKF m (.inl (some (jI r))) SKF m := by
  unfold f_X0_firstBelow at hf
  refine J_start (ls0 := [(0, jR 70), (1, jI a0), (2, jI a1), (3, jI a2)]) (by decide +kernel) hl (Nat.le_of_ble_eq_true rfl) rfl fun X C hN hn hR hr hnm hno hq => ?_
  have B : jB X cX0_firstBelow RX0 5 SKF.length rm_X0_firstBelow (some .int) := ⟨C, hN, Nat.le_of_eq hn, hR, hr⟩
  refine B_blk B jlkX0_ok jcl_SKF [.iconst 0, .istore 4] (by decide +kernel) (ls' := [(0, jR 70), (1, jI a0), (2, jI a1), (3, jI a2), (4, jI 0)]) (st' := []) rfl (p1 := 3) rfl ?_
  exact t_X0_firstBelow_L3 B jFU a0 a1 a2 0 m _ hf hq

def rm_X9_below : Room := { frames := 14, cells := 2, slots := 12, locals := 212 }
def f_X9_below_J30 (v1 : Int) (v2 : Int) (v3 : Int) (s0 : Int) (m : jMu) : Option (jOut Int) :=
  jthr (f_X9_needIndex s0 m) fun r2 => (f_X9_isIn v2 1 500).bind fun r3 => jthr (f_X9_needArgument r3 r2.2) fun r4 => (f_X0_measureBare v1 v3 r4.2).bind fun r5 => (f_X0_firstBelow v1 v2 v3 r5).bind fun r6 => some (.inr (r6, r5))
def f_X9_below_J29 (v1 : Int) (v2 : Int) (v3 : Int) (m : jMu) : Option (jOut Int) :=
  f_X9_below_J30 v1 v2 v3 0 m
def f_X9_below (a0 : Int) (a1 : Int) (a2 : Int) (m : jMu) : Option (jOut Int) :=
  (f_X5_has 4 5 80 a0 m).bind fun r1 => (if r1 = 0 then f_X9_below_J29 a0 a1 a2 m else (f_X9_isIn a2 0 199).bind fun r7 => (if r7 = 0 then f_X9_below_J29 a0 a1 a2 m else f_X9_below_J30 a0 a1 a2 1 m))
theorem t_X9_below_J30 {X : jX} (B : jB X cX9_below RX9 4 SKF.length rm_X9_below (some .int)) (hno : ∀ x ∈ (xc X).exceptionTable.toList, False) (v1 : Int) (v2 : Int) (v3 : Int) (s0 : Int) (m : jMu) (r : (jOut Int)) (hf : f_X9_below_J30 v1 v2 v3 s0 m = some r) (hq : jQ X (joI r) SKF (joM r) rm_X9_below.cells rm_X9_below.slots) : J X SKF m 0 0 30 [(0, jR 0), (1, jI v1), (2, jI v2), (3, jI v3)] [jI s0] := by
  unfold f_X9_below_J30 at hf
  rcases jthr_s hf with ⟨e2, h2, hf⟩ | ⟨r2, h2, hf⟩
  · cases hf
    exact B_callST B (Nat.le_refl _) hno hq ca_X9_needIndex sa_X9_needIndex lk_X9_125 (t_X9_needIndex B.tr h2) (Nat.le_refl _) rfl (rest := []) rfl rfl (Nat.le_of_ble_eq_true rfl) (by decide +kernel) (Nat.le_of_ble_eq_true rfl) (Nat.le_of_ble_eq_true rfl)
  · refine B_callS B (Nat.le_refl _) (μ' := r2.2) (k' := 1) (n' := 6) ca_X9_needIndex sa_X9_needIndex lk_X9_125 (t_X9_needIndex B.tr h2) (Nat.le_refl _) rfl (rest := []) rfl rfl (Nat.le_of_ble_eq_true rfl) (by decide +kernel) rfl rfl (st' := []) rfl ?_
    refine B_blk B jlkX9_ok jcl_SKF [.iload_n 2, .iconst 1, .sipush 500] (by decide +kernel) (ls' := [(0, jR 0), (1, jI v1), (2, jI v2), (3, jI v3)]) (st' := [jI 500, jI 1, jI v2]) rfl (p1 := 38) rfl ?_
    obtain ⟨r3, h3, hf⟩ := jbd hf
    refine B_callS B (Nat.le_refl _) (μ' := r2.2) (k' := 1) (n' := 6) ca_X9_isIn sa_X9_isIn lk_X9_93 (t_X9_isIn B.tr jcl_SKF h3) (Nat.le_refl _) rfl (rest := []) rfl rfl (Nat.le_of_ble_eq_true rfl) (by decide +kernel) rfl rfl (st' := [jI r3]) rfl ?_
    rcases jthr_s hf with ⟨e4, h4, hf⟩ | ⟨r4, h4, hf⟩
    · cases hf
      exact B_callST B (Nat.le_refl _) hno hq ca_X9_needArgument sa_X9_needArgument lk_X9_97 (t_X9_needArgument B.tr h4) (Nat.le_refl _) rfl (rest := []) rfl rfl (Nat.le_of_ble_eq_true rfl) (by decide +kernel) (Nat.le_of_ble_eq_true rfl) (Nat.le_of_ble_eq_true rfl)
    · refine B_callS B (Nat.le_refl _) (μ' := r4.2) (k' := 2) (n' := 12) ca_X9_needArgument sa_X9_needArgument lk_X9_97 (t_X9_needArgument B.tr h4) (Nat.le_refl _) rfl (rest := []) rfl rfl (Nat.le_of_ble_eq_true rfl) (by decide +kernel) rfl rfl (st' := []) rfl ?_
      refine B_blk B jlkX9_ok jcl_SKF [.aload_n 0, .getfield 56, .iload_n 1, .iload_n 3] (by decide +kernel) (ls' := [(0, jR 0), (1, jI v1), (2, jI v2), (3, jI v3)]) (st' := [jI v3, jI v1, jR 70]) rfl (p1 := 50) rfl ?_
      obtain ⟨r5, h5, hf⟩ := jbd hf
      refine B_callV B (Nat.le_refl _) (μ' := r5) (k' := 2) (n' := 12) ca_X0_measureBare in_X0_measureBare se_X0_measureBare lk_X9_221 (t_X0_measureBare B.tr h5) (Nat.le_refl _) rfl rfl rfl (rest := []) rfl rfl (Nat.le_of_ble_eq_true rfl) (by decide +kernel) rfl rfl (st' := []) rfl ?_
      refine B_blk B jlkX9_ok jcl_SKF [.aload_n 0, .getfield 56, .iload_n 1, .iload_n 2, .iload_n 3] (by decide +kernel) (ls' := [(0, jR 0), (1, jI v1), (2, jI v2), (3, jI v3)]) (st' := [jI v3, jI v2, jI v1, jR 70]) rfl (p1 := 60) rfl ?_
      obtain ⟨r6, h6, hf⟩ := jbd hf
      refine B_callV B (Nat.le_refl _) (μ' := r5) (k' := 2) (n' := 12) ca_X0_firstBelow in_X0_firstBelow se_X0_firstBelow lk_X9_237 (t_X0_firstBelow B.tr h6) (Nat.le_refl _) rfl rfl rfl (rest := []) rfl rfl (Nat.le_of_ble_eq_true rfl) (by decide +kernel) rfl rfl (st' := [jI r6]) rfl ?_
      cases hf
      exact B_retI B hq rfl (Nat.le_of_ble_eq_true rfl) (Nat.le_of_ble_eq_true rfl) (by decide +kernel)
theorem t_X9_below_J29 {X : jX} (B : jB X cX9_below RX9 4 SKF.length rm_X9_below (some .int)) (hno : ∀ x ∈ (xc X).exceptionTable.toList, False) (v1 : Int) (v2 : Int) (v3 : Int) (m : jMu) (r : (jOut Int)) (hf : f_X9_below_J29 v1 v2 v3 m = some r) (hq : jQ X (joI r) SKF (joM r) rm_X9_below.cells rm_X9_below.slots) : J X SKF m 0 0 29 [(0, jR 0), (1, jI v1), (2, jI v2), (3, jI v3)] [] := by
  unfold f_X9_below_J29 at hf
  refine B_blk B jlkX9_ok jcl_SKF [.iconst 0] (by decide +kernel) (ls' := [(0, jR 0), (1, jI v1), (2, jI v2), (3, jI v3)]) (st' := [jI 0]) rfl (p1 := 30) rfl ?_
  exact t_X9_below_J30 B hno v1 v2 v3 0 m _ hf hq
theorem t_X9_below {l : Launch} {G : jG} (hl : l.stackTraces = false) {a0 : Int} {a1 : Int} {a2 : Int} {m : jMu} {r : (jOut Int)} (hf : f_X9_below a0 a1 a2 m = some r) : jCt l G yX9_below (.code yX9_below cX9_below 4 (some .int) :: jWG) rm_X9_below [jR 0, jI a0, jI a1, jI a2] SKF m (joI r) SKF (joM r) := by
  unfold f_X9_below at hf
  refine J_start (ls0 := [(0, jR 0), (1, jI a0), (2, jI a1), (3, jI a2)]) (by decide +kernel) hl (Nat.le_of_ble_eq_true rfl) rfl fun X C hN hn hR hr hnm hno hq => ?_
  have B : jB X cX9_below RX9 4 SKF.length rm_X9_below (some .int) := ⟨C, hN, Nat.le_of_eq hn, hR, hr⟩
  refine B_blk B jlkX9_ok jcl_SKF [.aload_n 0, .getfield 20, .getfield 101, .iload_n 1] (by decide +kernel) (ls' := [(0, jR 0), (1, jI a0), (2, jI a1), (3, jI a2)]) (st' := [jI a0, jR 4]) rfl (p1 := 8) rfl ?_
  obtain ⟨r1, h1, hf⟩ := jbd hf
  refine B_callV B (Nat.le_refl _) (μ' := m) (k' := 0) (n' := 0) ca_X5_has in_X5_has se_X5_has lk_X9_143 (t_X5_has B.tr jcl_SKF ⟨rfl, rfl, by decide⟩ h1) (Nat.le_refl _) rfl rfl rfl (rest := []) rfl rfl (Nat.le_of_ble_eq_true rfl) (by decide +kernel) rfl rfl (st' := [jI r1]) rfl ?_
  refine J_if_eq B.1 (off := 18) (tgt := 29) (by decide +kernel) (by decide) hf (fun hf => ?_) (fun hf => ?_)
  · exact t_X9_below_J29 B hno a0 a1 a2 m _ hf hq
  · refine B_blk B jlkX9_ok jcl_SKF [.iload_n 3, .iconst 0, .sipush 199] (by decide +kernel) (ls' := [(0, jR 0), (1, jI a0), (2, jI a1), (3, jI a2)]) (st' := [jI 199, jI 0, jI a2]) rfl (p1 := 19) rfl ?_
    obtain ⟨r7, h7, hf⟩ := jbd hf
    refine B_callS B (Nat.le_refl _) (μ' := m) (k' := 0) (n' := 0) ca_X9_isIn sa_X9_isIn lk_X9_93 (t_X9_isIn B.tr jcl_SKF h7) (Nat.le_refl _) rfl (rest := []) rfl rfl (Nat.le_of_ble_eq_true rfl) (by decide +kernel) rfl rfl (st' := [jI r7]) rfl ?_
    refine J_if_eq B.1 (off := 7) (tgt := 29) (by decide +kernel) (by decide) hf (fun hf => ?_) (fun hf => ?_)
    · exact t_X9_below_J29 B hno a0 a1 a2 m _ hf hq
    · refine B_blk B jlkX9_ok jcl_SKF [.iconst 1, .goto 4] (by decide +kernel) (ls' := [(0, jR 0), (1, jI a0), (2, jI a1), (3, jI a2)]) (st' := [jI 1]) rfl (p1 := 30) rfl ?_
      exact t_X9_below_J30 B hno a0 a1 a2 1 m _ hf hq

def rm_X4_baySet : Room := { frames := 4, cells := 0, slots := 0, locals := 84 }
def f_X4_baySet (m : jMu) : Option Int :=
  (f_X5_size 4 5 80 m).bind fun r1 => some (jW (jSl 1 r1 - 1))
theorem t_X4_baySet {l : Launch} {G : jG} (hl : l.stackTraces = false) {m : jMu} {r : Int} (hf : f_X4_baySet m = some r) : jCt l G yX4_baySet (.code yX4_baySet cX4_baySet 1 (some .int) :: jWG) rm_X4_baySet [jR 1] SKF m (.inl (some (jI r))) SKF m := by
  unfold f_X4_baySet at hf
  refine J_start (ls0 := [(0, jR 1)]) (by decide +kernel) hl (Nat.le_of_ble_eq_true rfl) rfl fun X C hN hn hR hr hnm hno hq => ?_
  have B : jB X cX4_baySet RX4 1 SKF.length rm_X4_baySet (some .int) := ⟨C, hN, Nat.le_of_eq hn, hR, hr⟩
  refine B_blk B jlkX4_ok jcl_SKF [.iconst 1, .aload_n 0, .getfield 24] (by decide +kernel) (ls' := [(0, jR 1)]) (st' := [jR 4, jI 1]) rfl (p1 := 5) rfl ?_
  obtain ⟨r1, h1, hf⟩ := jbd hf
  refine B_callV B (Nat.le_refl _) (μ' := m) (k' := 0) (n' := 0) ca_X5_size in_X5_size se_X5_size lk_X4_82 (t_X5_size B.tr jcl_SKF ⟨rfl, rfl, by decide⟩ h1) (Nat.le_refl _) rfl rfl rfl (rest := [jI 1]) rfl rfl (Nat.le_of_ble_eq_true rfl) (by decide +kernel) rfl rfl (st' := [jI r1, jI 1]) rfl ?_
  refine B_blk B jlkX4_ok jcl_SKF [.ishl, .iconst 1, .isub] (by decide +kernel) (ls' := [(0, jR 1)]) (st' := [jI (jW (jSl 1 r1 - 1))]) rfl (p1 := 11) rfl ?_
  cases hf
  exact B_retI B hq rfl (Nat.le_of_ble_eq_true rfl) (Nat.le_of_ble_eq_true rfl) (by decide +kernel)

def rm_X8_firstMoment : Room := { frames := 6, cells := 0, slots := 0, locals := 113 }
def f_X8_firstMoment_L5 : Nat → Int → Int → Int → jMu → Option Int
  | 0, _, _, _, _ => none
  | q + 1, v1, v3, v4, m => (if 40 < v4 then some (-1) else (if 2400 ≤ v3 then some (-1) else (f_X8_blockedTo v1 v3 m).bind fun r1 => (if r1 = (-1) then some v3 else f_X8_firstMoment_L5 q v1 r1 (jW (v4 + 1)) m)))
def f_X8_firstMoment (a0 : Int) (a1 : Int) (m : jMu) : Option Int :=
  f_X8_firstMoment_L5 jFU a0 a1 0 m
theorem t_X8_firstMoment_L5 {X : jX} (B : jB X cX8_firstMoment RX8 6 SKF.length rm_X8_firstMoment (some .int)) : ∀ (q : Nat) (v1 : Int) (v3 : Int) (v4 : Int) (m : jMu) (r : Int), f_X8_firstMoment_L5 q v1 v3 v4 m = some r → jQ X (.inl (some (jI r))) SKF m rm_X8_firstMoment.cells rm_X8_firstMoment.slots → J X SKF m 0 0 5 [(0, jR 66), (1, jI v1), (3, jI v3), (4, jI v4)] [] := by
  intro q
  induction q with
  | zero =>
    intro v1 v3 v4 m r hf
    rw [f_X8_firstMoment_L5] at hf
    cases hf
  | succ q ih =>
    intro v1 v3 v4 m r hf hq
    rw [f_X8_firstMoment_L5] at hf
    refine B_blk B jlkX8_ok jcl_SKF [.iload 4, .bipush 40] (by decide +kernel) (ls' := [(0, jR 66), (1, jI v1), (3, jI v3), (4, jI v4)]) (st' := [jI 40, jI v4]) rfl (p1 := 9) rfl ?_
    refine J_icmp_gt B.1 (off := 35) (tgt := 44) (by decide +kernel) (by decide) hf (fun hf => ?_) (fun hf => ?_)
    · refine B_blk B jlkX8_ok jcl_SKF [.iconst (-1)] (by decide +kernel) (ls' := [(0, jR 66), (1, jI v1), (3, jI v3), (4, jI v4)]) (st' := [jI (-1)]) rfl (p1 := 45) rfl ?_
      cases hf
      exact B_retI B hq rfl (Nat.le_of_ble_eq_true rfl) (Nat.le_of_ble_eq_true rfl) (by decide +kernel)
    · refine B_blk B jlkX8_ok jcl_SKF [.iload_n 3, .sipush 2400] (by decide +kernel) (ls' := [(0, jR 66), (1, jI v1), (3, jI v3), (4, jI v4)]) (st' := [jI 2400, jI v3]) rfl (p1 := 16) rfl ?_
      refine J_icmp_ge B.1 (off := 28) (tgt := 44) (by decide +kernel) (by decide) hf (fun hf => ?_) (fun hf => ?_)
      · refine B_blk B jlkX8_ok jcl_SKF [.iconst (-1)] (by decide +kernel) (ls' := [(0, jR 66), (1, jI v1), (3, jI v3), (4, jI v4)]) (st' := [jI (-1)]) rfl (p1 := 45) rfl ?_
        cases hf
        exact B_retI B hq rfl (Nat.le_of_ble_eq_true rfl) (Nat.le_of_ble_eq_true rfl) (by decide +kernel)
      · refine B_blk B jlkX8_ok jcl_SKF [.aload_n 0, .iload_n 1, .iload_n 3] (by decide +kernel) (ls' := [(0, jR 66), (1, jI v1), (3, jI v3), (4, jI v4)]) (st' := [jI v3, jI v1, jR 66]) rfl (p1 := 22) rfl ?_
        obtain ⟨r1, h1, hf⟩ := jbd hf
        refine B_callV B (Nat.le_refl _) (μ' := m) (k' := 0) (n' := 0) ca_X8_blockedTo in_X8_blockedTo se_X8_blockedTo lk_X8_69 (t_X8_blockedTo B.tr h1) (Nat.le_refl _) rfl rfl rfl (rest := []) rfl rfl (Nat.le_of_ble_eq_true rfl) (by decide +kernel) rfl rfl (st' := [jI r1]) rfl ?_
        refine B_blk B jlkX8_ok jcl_SKF [.istore 5, .iload 5, .iconst (-1)] (by decide +kernel) (ls' := [(0, jR 66), (1, jI v1), (3, jI v3), (4, jI v4), (5, jI r1)]) (st' := [jI (-1), jI r1]) rfl (p1 := 30) rfl ?_
        refine J_icmp_ne B.1 (off := 5) (tgt := 35) (by decide +kernel) (by decide) hf (fun hf => ?_) (fun hf => ?_)
        · refine B_blk B jlkX8_ok jcl_SKF [.iload_n 3] (by decide +kernel) (ls' := [(0, jR 66), (1, jI v1), (3, jI v3), (4, jI v4), (5, jI r1)]) (st' := [jI v3]) rfl (p1 := 34) rfl ?_
          cases hf
          exact B_retI B hq rfl (Nat.le_of_ble_eq_true rfl) (Nat.le_of_ble_eq_true rfl) (by decide +kernel)
        · refine B_blk B jlkX8_ok jcl_SKF [.iload 5, .istore_n 3, .iinc 4 1, .goto (-36)] (by decide +kernel) (ls' := [(0, jR 66), (1, jI v1), (3, jI r1), (4, jI (jW (v4 + 1))), (5, jI r1)]) (st' := []) rfl (p1 := 5) rfl ?_
          refine J_pick [0, 1, 2, 3] (ls' := [(0, jR 66), (1, jI v1), (3, jI r1), (4, jI (jW (v4 + 1)))]) rfl ?_
          exact ih v1 r1 (jW (v4 + 1)) m _ hf hq
theorem t_X8_firstMoment {l : Launch} {G : jG} (hl : l.stackTraces = false) {a0 : Int} {a1 : Int} {m : jMu} {r : Int} (hf : f_X8_firstMoment a0 a1 m = some r) : jCt l G yX8_firstMoment (.code yX8_firstMoment cX8_firstMoment 6 (some .int) :: jWG) rm_X8_firstMoment [jR 66, jI a0, jI a1] SKF m (.inl (some (jI r))) SKF m := by
  unfold f_X8_firstMoment at hf
  refine J_start (ls0 := [(0, jR 66), (1, jI a0), (2, jI a1)]) (by decide +kernel) hl (Nat.le_of_ble_eq_true rfl) rfl fun X C hN hn hR hr hnm hno hq => ?_
  have B : jB X cX8_firstMoment RX8 6 SKF.length rm_X8_firstMoment (some .int) := ⟨C, hN, Nat.le_of_eq hn, hR, hr⟩
  refine B_blk B jlkX8_ok jcl_SKF [.iload_n 2, .istore_n 3, .iconst 0, .istore 4] (by decide +kernel) (ls' := [(0, jR 66), (1, jI a0), (2, jI a1), (3, jI a1), (4, jI 0)]) (st' := []) rfl (p1 := 5) rfl ?_
  refine J_pick [0, 1, 3, 4] (ls' := [(0, jR 66), (1, jI a0), (3, jI a1), (4, jI 0)]) rfl ?_
  exact t_X8_firstMoment_L5 B jFU a0 a1 0 m _ hf hq

def rm_X8_walkedEnd : Room := { frames := 12, cells := 0, slots := 0, locals := 189 }
def f_X8_walkedEnd_L9 : Nat → Int → Int → Int → Int → Int → Int → jMu → Option (Int × jMu)
  | 0, _, _, _, _, _, _, _ => none
  | q + 1, v1, v2, v3, v4, v5, v6, m => (if 8 ≤ v6 then some (v4, m) else (if jAn (jSr v2 v6) 1 = 1 then (if v5 = (-1) then (f_X8_firstMoment v6 v3 m).bind fun r1 => (f_X8_workEnd v6 v1 r1 m).bind fun r2 => (if r2.1 = (-1) then some ((-1), r2.2) else f_X8_walkedEnd_L9 q v1 v2 v3 r2.1 v6 (jW (v6 + 1)) r2.2) else (f_X8_firstMoment v6 (jW (jW (v4 + v6) - v5)) m).bind fun r3 => (f_X8_workEnd v6 v1 r3 m).bind fun r4 => (if r4.1 = (-1) then some ((-1), r4.2) else f_X8_walkedEnd_L9 q v1 v2 v3 r4.1 v6 (jW (v6 + 1)) r4.2)) else f_X8_walkedEnd_L9 q v1 v2 v3 v4 v5 (jW (v6 + 1)) m))
def f_X8_walkedEnd (a0 : Int) (a1 : Int) (a2 : Int) (m : jMu) : Option (Int × jMu) :=
  f_X8_walkedEnd_L9 jFU a0 a1 a2 (-1) (-1) 0 m
theorem t_X8_walkedEnd_L9 {X : jX} (B : jB X cX8_walkedEnd RX8 8 SKF.length rm_X8_walkedEnd (some .int)) : ∀ (q : Nat) (v1 : Int) (v2 : Int) (v3 : Int) (v4 : Int) (v5 : Int) (v6 : Int) (m : jMu) (r : (Int × jMu)), f_X8_walkedEnd_L9 q v1 v2 v3 v4 v5 v6 m = some r → jQ X (.inl (some (jI r.1))) SKF r.2 rm_X8_walkedEnd.cells rm_X8_walkedEnd.slots → J X SKF m 0 0 9 [(0, jR 66), (1, jI v1), (2, jI v2), (3, jI v3), (4, jI v4), (5, jI v5), (6, jI v6)] [] := by
  intro q
  induction q with
  | zero =>
    intro v1 v2 v3 v4 v5 v6 m r hf
    rw [f_X8_walkedEnd_L9] at hf
    cases hf
  | succ q ih =>
    intro v1 v2 v3 v4 v5 v6 m r hf hq
    rw [f_X8_walkedEnd_L9] at hf
    refine B_blk B jlkX8_ok jcl_SKF [.iload 6, .bipush 8] (by decide +kernel) (ls' := [(0, jR 66), (1, jI v1), (2, jI v2), (3, jI v3), (4, jI v4), (5, jI v5), (6, jI v6)]) (st' := [jI 8, jI v6]) rfl (p1 := 13) rfl ?_
    refine J_icmp_ge B.1 (off := 68) (tgt := 81) (by decide +kernel) (by decide) hf (fun hf => ?_) (fun hf => ?_)
    · refine B_blk B jlkX8_ok jcl_SKF [.iload 4] (by decide +kernel) (ls' := [(0, jR 66), (1, jI v1), (2, jI v2), (3, jI v3), (4, jI v4), (5, jI v5), (6, jI v6)]) (st' := [jI v4]) rfl (p1 := 83) rfl ?_
      cases hf
      exact B_retI B hq rfl (Nat.le_of_ble_eq_true rfl) (Nat.le_of_ble_eq_true rfl) (by decide +kernel)
    · refine B_blk B jlkX8_ok jcl_SKF [.iload_n 2, .iload 6, .ishr, .iconst 1, .iand, .iconst 1] (by decide +kernel) (ls' := [(0, jR 66), (1, jI v1), (2, jI v2), (3, jI v3), (4, jI v4), (5, jI v5), (6, jI v6)]) (st' := [jI 1, jI (jAn (jSr v2 v6) 1)]) rfl (p1 := 23) rfl ?_
      refine J_icmp_ne B.1 (off := 52) (tgt := 75) (by decide +kernel) (by decide) hf (fun hf => ?_) (fun hf => ?_)
      · refine B_blk B jlkX8_ok jcl_SKF [.iload 5, .iconst (-1)] (by decide +kernel) (ls' := [(0, jR 66), (1, jI v1), (2, jI v2), (3, jI v3), (4, jI v4), (5, jI v5), (6, jI v6)]) (st' := [jI (-1), jI v5]) rfl (p1 := 29) rfl ?_
        refine J_icmp_ne B.1 (off := 7) (tgt := 36) (by decide +kernel) (by decide) hf (fun hf => ?_) (fun hf => ?_)
        · refine B_blk B jlkX8_ok jcl_SKF [.iload_n 3, .goto 11, .istore 7, .aload_n 0, .iload 6, .iload_n 1, .aload_n 0, .iload 6, .iload 7] (by decide +kernel) (ls' := [(0, jR 66), (1, jI v1), (2, jI v2), (3, jI v3), (4, jI v4), (5, jI v5), (6, jI v6), (7, jI v3)]) (st' := [jI v3, jI v6, jR 66, jI v1, jI v6, jR 66]) rfl (p1 := 55) rfl ?_
          obtain ⟨r1, h1, hf⟩ := jbd hf
          refine B_callV B (Nat.le_refl _) (μ' := m) (k' := 0) (n' := 0) ca_X8_firstMoment in_X8_firstMoment se_X8_firstMoment lk_X8_85 (t_X8_firstMoment B.tr h1) (Nat.le_refl _) rfl rfl rfl (rest := [jI v1, jI v6, jR 66]) rfl rfl (Nat.le_of_ble_eq_true rfl) (by decide +kernel) rfl rfl (st' := [jI r1, jI v1, jI v6, jR 66]) rfl ?_
          obtain ⟨r2, h2, hf⟩ := jbd hf
          refine B_callV B (Nat.le_refl _) (μ' := r2.2) (k' := 0) (n' := 0) ca_X8_workEnd in_X8_workEnd se_X8_workEnd lk_X8_88 (t_X8_workEnd B.tr h2) (Nat.le_refl _) rfl rfl rfl (rest := []) rfl rfl (Nat.le_of_ble_eq_true rfl) (by decide +kernel) rfl rfl (st' := [jI r2.1]) rfl ?_
          refine B_blk B jlkX8_ok jcl_SKF [.istore 4, .iload 4, .iconst (-1)] (by decide +kernel) (ls' := [(0, jR 66), (1, jI v1), (2, jI v2), (3, jI v3), (4, jI r2.1), (5, jI v5), (6, jI v6), (7, jI v3)]) (st' := [jI (-1), jI r2.1]) rfl (p1 := 66) rfl ?_
          refine J_icmp_ne B.1 (off := 5) (tgt := 71) (by decide +kernel) (by decide) hf (fun hf => ?_) (fun hf => ?_)
          · refine B_blk B jlkX8_ok jcl_SKF [.iconst (-1)] (by decide +kernel) (ls' := [(0, jR 66), (1, jI v1), (2, jI v2), (3, jI v3), (4, jI r2.1), (5, jI v5), (6, jI v6), (7, jI v3)]) (st' := [jI (-1)]) rfl (p1 := 70) rfl ?_
            cases hf
            exact B_retI B hq rfl (Nat.le_of_ble_eq_true rfl) (Nat.le_of_ble_eq_true rfl) (by decide +kernel)
          · refine B_blk B jlkX8_ok jcl_SKF [.iload 6, .istore 5, .iinc 6 1, .goto (-69)] (by decide +kernel) (ls' := [(0, jR 66), (1, jI v1), (2, jI v2), (3, jI v3), (4, jI r2.1), (5, jI v6), (6, jI (jW (v6 + 1))), (7, jI v3)]) (st' := []) rfl (p1 := 9) rfl ?_
            refine J_pick [0, 1, 2, 3, 4, 5, 6] (ls' := [(0, jR 66), (1, jI v1), (2, jI v2), (3, jI v3), (4, jI r2.1), (5, jI v6), (6, jI (jW (v6 + 1)))]) rfl ?_
            exact ih v1 v2 v3 r2.1 v6 (jW (v6 + 1)) r2.2 _ hf hq
        · refine B_blk B jlkX8_ok jcl_SKF [.iload 4, .iload 6, .iadd, .iload 5, .isub, .istore 7, .aload_n 0, .iload 6, .iload_n 1, .aload_n 0, .iload 6, .iload 7] (by decide +kernel) (ls' := [(0, jR 66), (1, jI v1), (2, jI v2), (3, jI v3), (4, jI v4), (5, jI v5), (6, jI v6), (7, jI (jW (jW (v4 + v6) - v5)))]) (st' := [jI (jW (jW (v4 + v6) - v5)), jI v6, jR 66, jI v1, jI v6, jR 66]) rfl (p1 := 55) rfl ?_
          obtain ⟨r3, h3, hf⟩ := jbd hf
          refine B_callV B (Nat.le_refl _) (μ' := m) (k' := 0) (n' := 0) ca_X8_firstMoment in_X8_firstMoment se_X8_firstMoment lk_X8_85 (t_X8_firstMoment B.tr h3) (Nat.le_refl _) rfl rfl rfl (rest := [jI v1, jI v6, jR 66]) rfl rfl (Nat.le_of_ble_eq_true rfl) (by decide +kernel) rfl rfl (st' := [jI r3, jI v1, jI v6, jR 66]) rfl ?_
          obtain ⟨r4, h4, hf⟩ := jbd hf
          refine B_callV B (Nat.le_refl _) (μ' := r4.2) (k' := 0) (n' := 0) ca_X8_workEnd in_X8_workEnd se_X8_workEnd lk_X8_88 (t_X8_workEnd B.tr h4) (Nat.le_refl _) rfl rfl rfl (rest := []) rfl rfl (Nat.le_of_ble_eq_true rfl) (by decide +kernel) rfl rfl (st' := [jI r4.1]) rfl ?_
          refine B_blk B jlkX8_ok jcl_SKF [.istore 4, .iload 4, .iconst (-1)] (by decide +kernel) (ls' := [(0, jR 66), (1, jI v1), (2, jI v2), (3, jI v3), (4, jI r4.1), (5, jI v5), (6, jI v6), (7, jI (jW (jW (v4 + v6) - v5)))]) (st' := [jI (-1), jI r4.1]) rfl (p1 := 66) rfl ?_
          refine J_icmp_ne B.1 (off := 5) (tgt := 71) (by decide +kernel) (by decide) hf (fun hf => ?_) (fun hf => ?_)
          · refine B_blk B jlkX8_ok jcl_SKF [.iconst (-1)] (by decide +kernel) (ls' := [(0, jR 66), (1, jI v1), (2, jI v2), (3, jI v3), (4, jI r4.1), (5, jI v5), (6, jI v6), (7, jI (jW (jW (v4 + v6) - v5)))]) (st' := [jI (-1)]) rfl (p1 := 70) rfl ?_
            cases hf
            exact B_retI B hq rfl (Nat.le_of_ble_eq_true rfl) (Nat.le_of_ble_eq_true rfl) (by decide +kernel)
          · refine B_blk B jlkX8_ok jcl_SKF [.iload 6, .istore 5, .iinc 6 1, .goto (-69)] (by decide +kernel) (ls' := [(0, jR 66), (1, jI v1), (2, jI v2), (3, jI v3), (4, jI r4.1), (5, jI v6), (6, jI (jW (v6 + 1))), (7, jI (jW (jW (v4 + v6) - v5)))]) (st' := []) rfl (p1 := 9) rfl ?_
            refine J_pick [0, 1, 2, 3, 4, 5, 6] (ls' := [(0, jR 66), (1, jI v1), (2, jI v2), (3, jI v3), (4, jI r4.1), (5, jI v6), (6, jI (jW (v6 + 1)))]) rfl ?_
            exact ih v1 v2 v3 r4.1 v6 (jW (v6 + 1)) r4.2 _ hf hq
      · refine B_blk B jlkX8_ok jcl_SKF [.iinc 6 1, .goto (-69)] (by decide +kernel) (ls' := [(0, jR 66), (1, jI v1), (2, jI v2), (3, jI v3), (4, jI v4), (5, jI v5), (6, jI (jW (v6 + 1)))]) (st' := []) rfl (p1 := 9) rfl ?_
        exact ih v1 v2 v3 v4 v5 (jW (v6 + 1)) m _ hf hq
theorem t_X8_walkedEnd {l : Launch} {G : jG} (hl : l.stackTraces = false) {a0 : Int} {a1 : Int} {a2 : Int} {m : jMu} {r : (Int × jMu)} (hf : f_X8_walkedEnd a0 a1 a2 m = some r) : jCt l G yX8_walkedEnd (.code yX8_walkedEnd cX8_walkedEnd 8 (some .int) :: jWG) rm_X8_walkedEnd [jR 66, jI a0, jI a1, jI a2] SKF m (.inl (some (jI r.1))) SKF r.2 := by
  unfold f_X8_walkedEnd at hf
  refine J_start (ls0 := [(0, jR 66), (1, jI a0), (2, jI a1), (3, jI a2)]) (by decide +kernel) hl (Nat.le_of_ble_eq_true rfl) rfl fun X C hN hn hR hr hnm hno hq => ?_
  have B : jB X cX8_walkedEnd RX8 8 SKF.length rm_X8_walkedEnd (some .int) := ⟨C, hN, Nat.le_of_eq hn, hR, hr⟩
  refine B_blk B jlkX8_ok jcl_SKF [.iconst (-1), .istore 4, .iconst (-1), .istore 5, .iconst 0, .istore 6] (by decide +kernel) (ls' := [(0, jR 66), (1, jI a0), (2, jI a1), (3, jI a2), (4, jI (-1)), (5, jI (-1)), (6, jI 0)]) (st' := []) rfl (p1 := 9) rfl ?_
  exact t_X8_walkedEnd_L9 B jFU a0 a1 a2 (-1) (-1) 0 m _ hf hq

def f_X8_leastEnd_L64 (rec : Int → Int → Int → Int → Int → Int → jMu → Option (Int × jMu)) : Nat → Int → Int → Int → Int → Int → Int → Int → Int → jMu → Option (Int × jMu)
  | 0, _, _, _, _, _, _, _, _, _ => none
  | q + 1, v1, v3, v6, v7, v8, v9, v10, v11, m => (if 8 ≤ v11 then some (v9, m) else (if jAn (jSr v8 v11) 1 = 1 then (if v3 ≤ v11 then (rec v1 v8 v11 (jW (v7 + jW (v11 - v3))) v10 (jW (v6 + 1)) m).bind fun r3 => (if r3.1 = (-1) then f_X8_leastEnd_L64 rec q v1 v3 v6 v7 v8 v9 v10 (jW (v11 + 1)) r3.2 else f_X8_leastEnd_L64 rec q v1 v3 v6 v7 v8 r3.1 r3.1 (jW (v11 + 1)) r3.2) else (rec v1 v8 v11 (jW (v7 + jW (v3 - v11))) v10 (jW (v6 + 1)) m).bind fun r4 => (if r4.1 = (-1) then f_X8_leastEnd_L64 rec q v1 v3 v6 v7 v8 v9 v10 (jW (v11 + 1)) r4.2 else f_X8_leastEnd_L64 rec q v1 v3 v6 v7 v8 r4.1 r4.1 (jW (v11 + 1)) r4.2)) else f_X8_leastEnd_L64 rec q v1 v3 v6 v7 v8 v9 v10 (jW (v11 + 1)) m))
def f_X8_leastEnd (rec : Int → Int → Int → Int → Int → Int → jMu → Option (Int × jMu)) (a0 : Int) (a1 : Int) (a2 : Int) (a3 : Int) (a4 : Int) (a5 : Int) (m : jMu) : Option (Int × jMu) :=
  (f_X8_firstMoment a2 a3 m).bind fun r1 => (f_X8_workEnd a2 a0 r1 m).bind fun r2 => (if r2.1 = (-1) then some ((-1), r2.2) else (if a4 ≤ r2.1 then some ((-1), r2.2) else (if a5 ≤ 6 then (if jAn a1 (jXo (jSl 1 a2) (-1)) = 0 then some (r2.1, r2.2) else f_X8_leastEnd_L64 rec jFU a0 a2 a5 r2.1 (jAn a1 (jXo (jSl 1 a2) (-1))) (-1) a4 0 r2.2) else some ((-1), r2.2))))
def fr_X8_leastEnd : Nat → Int → Int → Int → Int → Int → Int → jMu → Option (Int × jMu)
  | 0, _, _, _, _, _, _, _ => none
  | d + 1, x0, x1, x2, x3, x4, x5, x6 => f_X8_leastEnd (fr_X8_leastEnd d) x0 x1 x2 x3 x4 x5 x6

def rm_X8_leastEnd_0 : Room := { frames := 2, cells := 0, slots := 0, locals := 64 }
theorem t_X8_leastEnd_0 {l : Launch} {G : jG} (hl : l.stackTraces = false) {a0 : Int} {a1 : Int} {a2 : Int} {a3 : Int} {a4 : Int} {a5 : Int} {m : jMu} {r : (Int × jMu)} (hf : fr_X8_leastEnd 0 a0 a1 a2 a3 a4 a5 m = some r) : jCt l G yX8_leastEnd (.code yX8_leastEnd cX8_leastEnd 14 (some .int) :: jWG) rm_X8_leastEnd_0 [jR 66, jI a0, jI a1, jI a2, jI a3, jI a4, jI a5] SKF m (.inl (some (jI r.1))) SKF r.2 := by
  rw [fr_X8_leastEnd] at hf
  cases hf

def rm_X8_leastEnd_1 : Room := { frames := 12, cells := 0, slots := 0, locals := 189 }
theorem t_X8_leastEnd_L64_1 {X : jX} (B : jB X cX8_leastEnd RX8 14 SKF.length rm_X8_leastEnd_1 (some .int)) : ∀ (q : Nat) (v1 : Int) (v3 : Int) (v6 : Int) (v7 : Int) (v8 : Int) (v9 : Int) (v10 : Int) (v11 : Int) (m : jMu) (r : (Int × jMu)), f_X8_leastEnd_L64 (fr_X8_leastEnd 0) q v1 v3 v6 v7 v8 v9 v10 v11 m = some r → jQ X (.inl (some (jI r.1))) SKF r.2 rm_X8_leastEnd_1.cells rm_X8_leastEnd_1.slots → J X SKF m 0 0 64 [(0, jR 66), (1, jI v1), (3, jI v3), (6, jI v6), (7, jI v7), (8, jI v8), (9, jI v9), (10, jI v10), (11, jI v11)] [] := by
  intro q
  induction q with
  | zero =>
    intro v1 v3 v6 v7 v8 v9 v10 v11 m r hf
    rw [f_X8_leastEnd_L64] at hf
    cases hf
  | succ q ih =>
    intro v1 v3 v6 v7 v8 v9 v10 v11 m r hf hq
    rw [f_X8_leastEnd_L64] at hf
    refine B_blk B jlkX8_ok jcl_SKF [.iload 11, .bipush 8] (by decide +kernel) (ls' := [(0, jR 66), (1, jI v1), (3, jI v3), (6, jI v6), (7, jI v7), (8, jI v8), (9, jI v9), (10, jI v10), (11, jI v11)]) (st' := [jI 8, jI v11]) rfl (p1 := 68) rfl ?_
    refine J_icmp_ge B.1 (off := 75) (tgt := 143) (by decide +kernel) (by decide) hf (fun hf => ?_) (fun hf => ?_)
    · refine B_blk B jlkX8_ok jcl_SKF [.iload 9] (by decide +kernel) (ls' := [(0, jR 66), (1, jI v1), (3, jI v3), (6, jI v6), (7, jI v7), (8, jI v8), (9, jI v9), (10, jI v10), (11, jI v11)]) (st' := [jI v9]) rfl (p1 := 145) rfl ?_
      cases hf
      exact B_retI B hq rfl (Nat.le_of_ble_eq_true rfl) (Nat.le_of_ble_eq_true rfl) (by decide +kernel)
    · refine B_blk B jlkX8_ok jcl_SKF [.iload 8, .iload 11, .ishr, .iconst 1, .iand, .iconst 1] (by decide +kernel) (ls' := [(0, jR 66), (1, jI v1), (3, jI v3), (6, jI v6), (7, jI v7), (8, jI v8), (9, jI v9), (10, jI v10), (11, jI v11)]) (st' := [jI 1, jI (jAn (jSr v8 v11) 1)]) rfl (p1 := 79) rfl ?_
      refine J_icmp_ne B.1 (off := 58) (tgt := 137) (by decide +kernel) (by decide) hf (fun hf => ?_) (fun hf => ?_)
      · refine B_blk B jlkX8_ok jcl_SKF [.iload 11, .iload_n 3] (by decide +kernel) (ls' := [(0, jR 66), (1, jI v1), (3, jI v3), (6, jI v6), (7, jI v7), (8, jI v8), (9, jI v9), (10, jI v10), (11, jI v11)]) (st' := [jI v3, jI v11]) rfl (p1 := 85) rfl ?_
        refine J_icmp_ge B.1 (off := 10) (tgt := 95) (by decide +kernel) (by decide) hf (fun hf => ?_) (fun hf => ?_)
        · refine B_blk B jlkX8_ok jcl_SKF [.iload 11, .iload_n 3, .isub, .istore 12, .aload_n 0, .iload_n 1, .iload 8, .iload 11, .iload 7, .iload 12, .iadd, .iload 10, .iload 6, .iconst 1, .iadd] (by decide +kernel) (ls' := [(0, jR 66), (1, jI v1), (3, jI v3), (6, jI v6), (7, jI v7), (8, jI v8), (9, jI v9), (10, jI v10), (11, jI v11), (12, jI (jW (v11 - v3)))]) (st' := [jI (jW (v6 + 1)), jI v10, jI (jW (v7 + jW (v11 - v3))), jI v11, jI v8, jI v1, jR 66]) rfl (p1 := 118) rfl ?_
          obtain ⟨r3, h3, hf⟩ := jbd hf
          refine B_callS B (Nat.le_refl _) (μ' := r3.2) (k' := 0) (n' := 0) ca_X8_leastEnd sa_X8_leastEnd lk_X8_92 (t_X8_leastEnd_0 B.tr h3) (Nat.le_refl _) rfl (rest := []) rfl rfl (Nat.le_of_ble_eq_true rfl) (by decide +kernel) rfl rfl (st' := [jI r3.1]) rfl ?_
          refine B_blk B jlkX8_ok jcl_SKF [.istore 13, .iload 13, .iconst (-1)] (by decide +kernel) (ls' := [(0, jR 66), (1, jI v1), (3, jI v3), (6, jI v6), (7, jI v7), (8, jI v8), (9, jI v9), (10, jI v10), (11, jI v11), (12, jI (jW (v11 - v3))), (13, jI r3.1)]) (st' := [jI (-1), jI r3.1]) rfl (p1 := 126) rfl ?_
          refine J_icmp_eq B.1 (off := 11) (tgt := 137) (by decide +kernel) (by decide) hf (fun hf => ?_) (fun hf => ?_)
          · refine B_blk B jlkX8_ok jcl_SKF [.iinc 11 1, .goto (-76)] (by decide +kernel) (ls' := [(0, jR 66), (1, jI v1), (3, jI v3), (6, jI v6), (7, jI v7), (8, jI v8), (9, jI v9), (10, jI v10), (11, jI (jW (v11 + 1))), (12, jI (jW (v11 - v3))), (13, jI r3.1)]) (st' := []) rfl (p1 := 64) rfl ?_
            refine J_pick [0, 1, 2, 3, 4, 5, 6, 7, 8] (ls' := [(0, jR 66), (1, jI v1), (3, jI v3), (6, jI v6), (7, jI v7), (8, jI v8), (9, jI v9), (10, jI v10), (11, jI (jW (v11 + 1)))]) rfl ?_
            exact ih v1 v3 v6 v7 v8 v9 v10 (jW (v11 + 1)) r3.2 _ hf hq
          · refine B_blk B jlkX8_ok jcl_SKF [.iload 13, .istore 9, .iload 13, .istore 10, .iinc 11 1, .goto (-76)] (by decide +kernel) (ls' := [(0, jR 66), (1, jI v1), (3, jI v3), (6, jI v6), (7, jI v7), (8, jI v8), (9, jI r3.1), (10, jI r3.1), (11, jI (jW (v11 + 1))), (12, jI (jW (v11 - v3))), (13, jI r3.1)]) (st' := []) rfl (p1 := 64) rfl ?_
            refine J_pick [0, 1, 2, 3, 4, 5, 6, 7, 8] (ls' := [(0, jR 66), (1, jI v1), (3, jI v3), (6, jI v6), (7, jI v7), (8, jI v8), (9, jI r3.1), (10, jI r3.1), (11, jI (jW (v11 + 1)))]) rfl ?_
            exact ih v1 v3 v6 v7 v8 r3.1 r3.1 (jW (v11 + 1)) r3.2 _ hf hq
        · refine B_blk B jlkX8_ok jcl_SKF [.iload_n 3, .iload 11, .isub, .goto 7, .istore 12, .aload_n 0, .iload_n 1, .iload 8, .iload 11, .iload 7, .iload 12, .iadd, .iload 10, .iload 6, .iconst 1, .iadd] (by decide +kernel) (ls' := [(0, jR 66), (1, jI v1), (3, jI v3), (6, jI v6), (7, jI v7), (8, jI v8), (9, jI v9), (10, jI v10), (11, jI v11), (12, jI (jW (v3 - v11)))]) (st' := [jI (jW (v6 + 1)), jI v10, jI (jW (v7 + jW (v3 - v11))), jI v11, jI v8, jI v1, jR 66]) rfl (p1 := 118) rfl ?_
          obtain ⟨r4, h4, hf⟩ := jbd hf
          refine B_callS B (Nat.le_refl _) (μ' := r4.2) (k' := 0) (n' := 0) ca_X8_leastEnd sa_X8_leastEnd lk_X8_92 (t_X8_leastEnd_0 B.tr h4) (Nat.le_refl _) rfl (rest := []) rfl rfl (Nat.le_of_ble_eq_true rfl) (by decide +kernel) rfl rfl (st' := [jI r4.1]) rfl ?_
          refine B_blk B jlkX8_ok jcl_SKF [.istore 13, .iload 13, .iconst (-1)] (by decide +kernel) (ls' := [(0, jR 66), (1, jI v1), (3, jI v3), (6, jI v6), (7, jI v7), (8, jI v8), (9, jI v9), (10, jI v10), (11, jI v11), (12, jI (jW (v3 - v11))), (13, jI r4.1)]) (st' := [jI (-1), jI r4.1]) rfl (p1 := 126) rfl ?_
          refine J_icmp_eq B.1 (off := 11) (tgt := 137) (by decide +kernel) (by decide) hf (fun hf => ?_) (fun hf => ?_)
          · refine B_blk B jlkX8_ok jcl_SKF [.iinc 11 1, .goto (-76)] (by decide +kernel) (ls' := [(0, jR 66), (1, jI v1), (3, jI v3), (6, jI v6), (7, jI v7), (8, jI v8), (9, jI v9), (10, jI v10), (11, jI (jW (v11 + 1))), (12, jI (jW (v3 - v11))), (13, jI r4.1)]) (st' := []) rfl (p1 := 64) rfl ?_
            refine J_pick [0, 1, 2, 3, 4, 5, 6, 7, 8] (ls' := [(0, jR 66), (1, jI v1), (3, jI v3), (6, jI v6), (7, jI v7), (8, jI v8), (9, jI v9), (10, jI v10), (11, jI (jW (v11 + 1)))]) rfl ?_
            exact ih v1 v3 v6 v7 v8 v9 v10 (jW (v11 + 1)) r4.2 _ hf hq
          · refine B_blk B jlkX8_ok jcl_SKF [.iload 13, .istore 9, .iload 13, .istore 10, .iinc 11 1, .goto (-76)] (by decide +kernel) (ls' := [(0, jR 66), (1, jI v1), (3, jI v3), (6, jI v6), (7, jI v7), (8, jI v8), (9, jI r4.1), (10, jI r4.1), (11, jI (jW (v11 + 1))), (12, jI (jW (v3 - v11))), (13, jI r4.1)]) (st' := []) rfl (p1 := 64) rfl ?_
            refine J_pick [0, 1, 2, 3, 4, 5, 6, 7, 8] (ls' := [(0, jR 66), (1, jI v1), (3, jI v3), (6, jI v6), (7, jI v7), (8, jI v8), (9, jI r4.1), (10, jI r4.1), (11, jI (jW (v11 + 1)))]) rfl ?_
            exact ih v1 v3 v6 v7 v8 r4.1 r4.1 (jW (v11 + 1)) r4.2 _ hf hq
      · refine B_blk B jlkX8_ok jcl_SKF [.iinc 11 1, .goto (-76)] (by decide +kernel) (ls' := [(0, jR 66), (1, jI v1), (3, jI v3), (6, jI v6), (7, jI v7), (8, jI v8), (9, jI v9), (10, jI v10), (11, jI (jW (v11 + 1)))]) (st' := []) rfl (p1 := 64) rfl ?_
        exact ih v1 v3 v6 v7 v8 v9 v10 (jW (v11 + 1)) m _ hf hq
theorem t_X8_leastEnd_1 {l : Launch} {G : jG} (hl : l.stackTraces = false) {a0 : Int} {a1 : Int} {a2 : Int} {a3 : Int} {a4 : Int} {a5 : Int} {m : jMu} {r : (Int × jMu)} (hf : fr_X8_leastEnd 1 a0 a1 a2 a3 a4 a5 m = some r) : jCt l G yX8_leastEnd (.code yX8_leastEnd cX8_leastEnd 14 (some .int) :: jWG) rm_X8_leastEnd_1 [jR 66, jI a0, jI a1, jI a2, jI a3, jI a4, jI a5] SKF m (.inl (some (jI r.1))) SKF r.2 := by
  rw [fr_X8_leastEnd] at hf
  unfold f_X8_leastEnd at hf
  refine J_start (ls0 := [(0, jR 66), (1, jI a0), (2, jI a1), (3, jI a2), (4, jI a3), (5, jI a4), (6, jI a5)]) (by decide +kernel) hl (Nat.le_of_ble_eq_true rfl) rfl fun X C hN hn hR hr hnm hno hq => ?_
  have B : jB X cX8_leastEnd RX8 14 SKF.length rm_X8_leastEnd_1 (some .int) := ⟨C, hN, Nat.le_of_eq hn, hR, hr⟩
  refine B_blk B jlkX8_ok jcl_SKF [.aload_n 0, .iload_n 3, .iload_n 1, .aload_n 0, .iload_n 3, .iload 4] (by decide +kernel) (ls' := [(0, jR 66), (1, jI a0), (2, jI a1), (3, jI a2), (4, jI a3), (5, jI a4), (6, jI a5)]) (st' := [jI a3, jI a2, jR 66, jI a0, jI a2, jR 66]) rfl (p1 := 7) rfl ?_
  obtain ⟨r1, h1, hf⟩ := jbd hf
  refine B_callV B (Nat.le_refl _) (μ' := m) (k' := 0) (n' := 0) ca_X8_firstMoment in_X8_firstMoment se_X8_firstMoment lk_X8_85 (t_X8_firstMoment B.tr h1) (Nat.le_refl _) rfl rfl rfl (rest := [jI a0, jI a2, jR 66]) rfl rfl (Nat.le_of_ble_eq_true rfl) (by decide +kernel) rfl rfl (st' := [jI r1, jI a0, jI a2, jR 66]) rfl ?_
  obtain ⟨r2, h2, hf⟩ := jbd hf
  refine B_callV B (Nat.le_refl _) (μ' := r2.2) (k' := 0) (n' := 0) ca_X8_workEnd in_X8_workEnd se_X8_workEnd lk_X8_88 (t_X8_workEnd B.tr h2) (Nat.le_refl _) rfl rfl rfl (rest := []) rfl rfl (Nat.le_of_ble_eq_true rfl) (by decide +kernel) rfl rfl (st' := [jI r2.1]) rfl ?_
  refine B_blk B jlkX8_ok jcl_SKF [.istore 7, .iload 7, .iconst (-1)] (by decide +kernel) (ls' := [(0, jR 66), (1, jI a0), (2, jI a1), (3, jI a2), (4, jI a3), (5, jI a4), (6, jI a5), (7, jI r2.1)]) (st' := [jI (-1), jI r2.1]) rfl (p1 := 18) rfl ?_
  refine J_icmp_eq B.1 (off := 17) (tgt := 35) (by decide +kernel) (by decide) hf (fun hf => ?_) (fun hf => ?_)
  · refine B_blk B jlkX8_ok jcl_SKF [.iconst (-1)] (by decide +kernel) (ls' := [(0, jR 66), (1, jI a0), (2, jI a1), (3, jI a2), (4, jI a3), (5, jI a4), (6, jI a5), (7, jI r2.1)]) (st' := [jI (-1)]) rfl (p1 := 36) rfl ?_
    cases hf
    exact B_retI B hq rfl (Nat.le_of_ble_eq_true rfl) (Nat.le_of_ble_eq_true rfl) (by decide +kernel)
  · refine B_blk B jlkX8_ok jcl_SKF [.iload 7, .iload 5] (by decide +kernel) (ls' := [(0, jR 66), (1, jI a0), (2, jI a1), (3, jI a2), (4, jI a3), (5, jI a4), (6, jI a5), (7, jI r2.1)]) (st' := [jI a4, jI r2.1]) rfl (p1 := 25) rfl ?_
    refine J_icmp_ge B.1 (off := 10) (tgt := 35) (by decide +kernel) (by decide) hf (fun hf => ?_) (fun hf => ?_)
    · refine B_blk B jlkX8_ok jcl_SKF [.iconst (-1)] (by decide +kernel) (ls' := [(0, jR 66), (1, jI a0), (2, jI a1), (3, jI a2), (4, jI a3), (5, jI a4), (6, jI a5), (7, jI r2.1)]) (st' := [jI (-1)]) rfl (p1 := 36) rfl ?_
      cases hf
      exact B_retI B hq rfl (Nat.le_of_ble_eq_true rfl) (Nat.le_of_ble_eq_true rfl) (by decide +kernel)
    · refine B_blk B jlkX8_ok jcl_SKF [.iload 6, .bipush 6] (by decide +kernel) (ls' := [(0, jR 66), (1, jI a0), (2, jI a1), (3, jI a2), (4, jI a3), (5, jI a4), (6, jI a5), (7, jI r2.1)]) (st' := [jI 6, jI a5]) rfl (p1 := 32) rfl ?_
      refine J_icmp_le B.1 (off := 5) (tgt := 37) (by decide +kernel) (by decide) hf (fun hf => ?_) (fun hf => ?_)
      · refine B_blk B jlkX8_ok jcl_SKF [.iload_n 2, .iconst 1, .iload_n 3, .ishl, .iconst (-1), .ixor, .iand, .istore 8, .iload 8] (by decide +kernel) (ls' := [(0, jR 66), (1, jI a0), (2, jI a1), (3, jI a2), (4, jI a3), (5, jI a4), (6, jI a5), (7, jI r2.1), (8, jI (jAn a1 (jXo (jSl 1 a2) (-1))))]) (st' := [jI (jAn a1 (jXo (jSl 1 a2) (-1)))]) rfl (p1 := 48) rfl ?_
        refine J_if_ne B.1 (off := 6) (tgt := 54) (by decide +kernel) (by decide) hf (fun hf => ?_) (fun hf => ?_)
        · refine B_blk B jlkX8_ok jcl_SKF [.iload 7] (by decide +kernel) (ls' := [(0, jR 66), (1, jI a0), (2, jI a1), (3, jI a2), (4, jI a3), (5, jI a4), (6, jI a5), (7, jI r2.1), (8, jI (jAn a1 (jXo (jSl 1 a2) (-1))))]) (st' := [jI r2.1]) rfl (p1 := 53) rfl ?_
          cases hf
          exact B_retI B hq rfl (Nat.le_of_ble_eq_true rfl) (Nat.le_of_ble_eq_true rfl) (by decide +kernel)
        · refine B_blk B jlkX8_ok jcl_SKF [.iconst (-1), .istore 9, .iload 5, .istore 10, .iconst 0, .istore 11] (by decide +kernel) (ls' := [(0, jR 66), (1, jI a0), (2, jI a1), (3, jI a2), (4, jI a3), (5, jI a4), (6, jI a5), (7, jI r2.1), (8, jI (jAn a1 (jXo (jSl 1 a2) (-1)))), (9, jI (-1)), (10, jI a4), (11, jI 0)]) (st' := []) rfl (p1 := 64) rfl ?_
          refine J_pick [0, 1, 3, 6, 7, 8, 9, 10, 11] (ls' := [(0, jR 66), (1, jI a0), (3, jI a2), (6, jI a5), (7, jI r2.1), (8, jI (jAn a1 (jXo (jSl 1 a2) (-1)))), (9, jI (-1)), (10, jI a4), (11, jI 0)]) rfl ?_
          exact t_X8_leastEnd_L64_1 B jFU a0 a2 a5 r2.1 (jAn a1 (jXo (jSl 1 a2) (-1))) (-1) a4 0 r2.2 _ hf hq
      · refine B_blk B jlkX8_ok jcl_SKF [.iconst (-1)] (by decide +kernel) (ls' := [(0, jR 66), (1, jI a0), (2, jI a1), (3, jI a2), (4, jI a3), (5, jI a4), (6, jI a5), (7, jI r2.1)]) (st' := [jI (-1)]) rfl (p1 := 36) rfl ?_
        cases hf
        exact B_retI B hq rfl (Nat.le_of_ble_eq_true rfl) (Nat.le_of_ble_eq_true rfl) (by decide +kernel)

def rm_X8_leastEnd_2 : Room := { frames := 14, cells := 0, slots := 0, locals := 222 }
theorem t_X8_leastEnd_L64_2 {X : jX} (B : jB X cX8_leastEnd RX8 14 SKF.length rm_X8_leastEnd_2 (some .int)) : ∀ (q : Nat) (v1 : Int) (v3 : Int) (v6 : Int) (v7 : Int) (v8 : Int) (v9 : Int) (v10 : Int) (v11 : Int) (m : jMu) (r : (Int × jMu)), f_X8_leastEnd_L64 (fr_X8_leastEnd 1) q v1 v3 v6 v7 v8 v9 v10 v11 m = some r → jQ X (.inl (some (jI r.1))) SKF r.2 rm_X8_leastEnd_2.cells rm_X8_leastEnd_2.slots → J X SKF m 0 0 64 [(0, jR 66), (1, jI v1), (3, jI v3), (6, jI v6), (7, jI v7), (8, jI v8), (9, jI v9), (10, jI v10), (11, jI v11)] [] := by
  intro q
  induction q with
  | zero =>
    intro v1 v3 v6 v7 v8 v9 v10 v11 m r hf
    rw [f_X8_leastEnd_L64] at hf
    cases hf
  | succ q ih =>
    intro v1 v3 v6 v7 v8 v9 v10 v11 m r hf hq
    rw [f_X8_leastEnd_L64] at hf
    refine B_blk B jlkX8_ok jcl_SKF [.iload 11, .bipush 8] (by decide +kernel) (ls' := [(0, jR 66), (1, jI v1), (3, jI v3), (6, jI v6), (7, jI v7), (8, jI v8), (9, jI v9), (10, jI v10), (11, jI v11)]) (st' := [jI 8, jI v11]) rfl (p1 := 68) rfl ?_
    refine J_icmp_ge B.1 (off := 75) (tgt := 143) (by decide +kernel) (by decide) hf (fun hf => ?_) (fun hf => ?_)
    · refine B_blk B jlkX8_ok jcl_SKF [.iload 9] (by decide +kernel) (ls' := [(0, jR 66), (1, jI v1), (3, jI v3), (6, jI v6), (7, jI v7), (8, jI v8), (9, jI v9), (10, jI v10), (11, jI v11)]) (st' := [jI v9]) rfl (p1 := 145) rfl ?_
      cases hf
      exact B_retI B hq rfl (Nat.le_of_ble_eq_true rfl) (Nat.le_of_ble_eq_true rfl) (by decide +kernel)
    · refine B_blk B jlkX8_ok jcl_SKF [.iload 8, .iload 11, .ishr, .iconst 1, .iand, .iconst 1] (by decide +kernel) (ls' := [(0, jR 66), (1, jI v1), (3, jI v3), (6, jI v6), (7, jI v7), (8, jI v8), (9, jI v9), (10, jI v10), (11, jI v11)]) (st' := [jI 1, jI (jAn (jSr v8 v11) 1)]) rfl (p1 := 79) rfl ?_
      refine J_icmp_ne B.1 (off := 58) (tgt := 137) (by decide +kernel) (by decide) hf (fun hf => ?_) (fun hf => ?_)
      · refine B_blk B jlkX8_ok jcl_SKF [.iload 11, .iload_n 3] (by decide +kernel) (ls' := [(0, jR 66), (1, jI v1), (3, jI v3), (6, jI v6), (7, jI v7), (8, jI v8), (9, jI v9), (10, jI v10), (11, jI v11)]) (st' := [jI v3, jI v11]) rfl (p1 := 85) rfl ?_
        refine J_icmp_ge B.1 (off := 10) (tgt := 95) (by decide +kernel) (by decide) hf (fun hf => ?_) (fun hf => ?_)
        · refine B_blk B jlkX8_ok jcl_SKF [.iload 11, .iload_n 3, .isub, .istore 12, .aload_n 0, .iload_n 1, .iload 8, .iload 11, .iload 7, .iload 12, .iadd, .iload 10, .iload 6, .iconst 1, .iadd] (by decide +kernel) (ls' := [(0, jR 66), (1, jI v1), (3, jI v3), (6, jI v6), (7, jI v7), (8, jI v8), (9, jI v9), (10, jI v10), (11, jI v11), (12, jI (jW (v11 - v3)))]) (st' := [jI (jW (v6 + 1)), jI v10, jI (jW (v7 + jW (v11 - v3))), jI v11, jI v8, jI v1, jR 66]) rfl (p1 := 118) rfl ?_
          obtain ⟨r3, h3, hf⟩ := jbd hf
          refine B_callS B (Nat.le_refl _) (μ' := r3.2) (k' := 0) (n' := 0) ca_X8_leastEnd sa_X8_leastEnd lk_X8_92 (t_X8_leastEnd_1 B.tr h3) (Nat.le_refl _) rfl (rest := []) rfl rfl (Nat.le_of_ble_eq_true rfl) (by decide +kernel) rfl rfl (st' := [jI r3.1]) rfl ?_
          refine B_blk B jlkX8_ok jcl_SKF [.istore 13, .iload 13, .iconst (-1)] (by decide +kernel) (ls' := [(0, jR 66), (1, jI v1), (3, jI v3), (6, jI v6), (7, jI v7), (8, jI v8), (9, jI v9), (10, jI v10), (11, jI v11), (12, jI (jW (v11 - v3))), (13, jI r3.1)]) (st' := [jI (-1), jI r3.1]) rfl (p1 := 126) rfl ?_
          refine J_icmp_eq B.1 (off := 11) (tgt := 137) (by decide +kernel) (by decide) hf (fun hf => ?_) (fun hf => ?_)
          · refine B_blk B jlkX8_ok jcl_SKF [.iinc 11 1, .goto (-76)] (by decide +kernel) (ls' := [(0, jR 66), (1, jI v1), (3, jI v3), (6, jI v6), (7, jI v7), (8, jI v8), (9, jI v9), (10, jI v10), (11, jI (jW (v11 + 1))), (12, jI (jW (v11 - v3))), (13, jI r3.1)]) (st' := []) rfl (p1 := 64) rfl ?_
            refine J_pick [0, 1, 2, 3, 4, 5, 6, 7, 8] (ls' := [(0, jR 66), (1, jI v1), (3, jI v3), (6, jI v6), (7, jI v7), (8, jI v8), (9, jI v9), (10, jI v10), (11, jI (jW (v11 + 1)))]) rfl ?_
            exact ih v1 v3 v6 v7 v8 v9 v10 (jW (v11 + 1)) r3.2 _ hf hq
          · refine B_blk B jlkX8_ok jcl_SKF [.iload 13, .istore 9, .iload 13, .istore 10, .iinc 11 1, .goto (-76)] (by decide +kernel) (ls' := [(0, jR 66), (1, jI v1), (3, jI v3), (6, jI v6), (7, jI v7), (8, jI v8), (9, jI r3.1), (10, jI r3.1), (11, jI (jW (v11 + 1))), (12, jI (jW (v11 - v3))), (13, jI r3.1)]) (st' := []) rfl (p1 := 64) rfl ?_
            refine J_pick [0, 1, 2, 3, 4, 5, 6, 7, 8] (ls' := [(0, jR 66), (1, jI v1), (3, jI v3), (6, jI v6), (7, jI v7), (8, jI v8), (9, jI r3.1), (10, jI r3.1), (11, jI (jW (v11 + 1)))]) rfl ?_
            exact ih v1 v3 v6 v7 v8 r3.1 r3.1 (jW (v11 + 1)) r3.2 _ hf hq
        · refine B_blk B jlkX8_ok jcl_SKF [.iload_n 3, .iload 11, .isub, .goto 7, .istore 12, .aload_n 0, .iload_n 1, .iload 8, .iload 11, .iload 7, .iload 12, .iadd, .iload 10, .iload 6, .iconst 1, .iadd] (by decide +kernel) (ls' := [(0, jR 66), (1, jI v1), (3, jI v3), (6, jI v6), (7, jI v7), (8, jI v8), (9, jI v9), (10, jI v10), (11, jI v11), (12, jI (jW (v3 - v11)))]) (st' := [jI (jW (v6 + 1)), jI v10, jI (jW (v7 + jW (v3 - v11))), jI v11, jI v8, jI v1, jR 66]) rfl (p1 := 118) rfl ?_
          obtain ⟨r4, h4, hf⟩ := jbd hf
          refine B_callS B (Nat.le_refl _) (μ' := r4.2) (k' := 0) (n' := 0) ca_X8_leastEnd sa_X8_leastEnd lk_X8_92 (t_X8_leastEnd_1 B.tr h4) (Nat.le_refl _) rfl (rest := []) rfl rfl (Nat.le_of_ble_eq_true rfl) (by decide +kernel) rfl rfl (st' := [jI r4.1]) rfl ?_
          refine B_blk B jlkX8_ok jcl_SKF [.istore 13, .iload 13, .iconst (-1)] (by decide +kernel) (ls' := [(0, jR 66), (1, jI v1), (3, jI v3), (6, jI v6), (7, jI v7), (8, jI v8), (9, jI v9), (10, jI v10), (11, jI v11), (12, jI (jW (v3 - v11))), (13, jI r4.1)]) (st' := [jI (-1), jI r4.1]) rfl (p1 := 126) rfl ?_
          refine J_icmp_eq B.1 (off := 11) (tgt := 137) (by decide +kernel) (by decide) hf (fun hf => ?_) (fun hf => ?_)
          · refine B_blk B jlkX8_ok jcl_SKF [.iinc 11 1, .goto (-76)] (by decide +kernel) (ls' := [(0, jR 66), (1, jI v1), (3, jI v3), (6, jI v6), (7, jI v7), (8, jI v8), (9, jI v9), (10, jI v10), (11, jI (jW (v11 + 1))), (12, jI (jW (v3 - v11))), (13, jI r4.1)]) (st' := []) rfl (p1 := 64) rfl ?_
            refine J_pick [0, 1, 2, 3, 4, 5, 6, 7, 8] (ls' := [(0, jR 66), (1, jI v1), (3, jI v3), (6, jI v6), (7, jI v7), (8, jI v8), (9, jI v9), (10, jI v10), (11, jI (jW (v11 + 1)))]) rfl ?_
            exact ih v1 v3 v6 v7 v8 v9 v10 (jW (v11 + 1)) r4.2 _ hf hq
          · refine B_blk B jlkX8_ok jcl_SKF [.iload 13, .istore 9, .iload 13, .istore 10, .iinc 11 1, .goto (-76)] (by decide +kernel) (ls' := [(0, jR 66), (1, jI v1), (3, jI v3), (6, jI v6), (7, jI v7), (8, jI v8), (9, jI r4.1), (10, jI r4.1), (11, jI (jW (v11 + 1))), (12, jI (jW (v3 - v11))), (13, jI r4.1)]) (st' := []) rfl (p1 := 64) rfl ?_
            refine J_pick [0, 1, 2, 3, 4, 5, 6, 7, 8] (ls' := [(0, jR 66), (1, jI v1), (3, jI v3), (6, jI v6), (7, jI v7), (8, jI v8), (9, jI r4.1), (10, jI r4.1), (11, jI (jW (v11 + 1)))]) rfl ?_
            exact ih v1 v3 v6 v7 v8 r4.1 r4.1 (jW (v11 + 1)) r4.2 _ hf hq
      · refine B_blk B jlkX8_ok jcl_SKF [.iinc 11 1, .goto (-76)] (by decide +kernel) (ls' := [(0, jR 66), (1, jI v1), (3, jI v3), (6, jI v6), (7, jI v7), (8, jI v8), (9, jI v9), (10, jI v10), (11, jI (jW (v11 + 1)))]) (st' := []) rfl (p1 := 64) rfl ?_
        exact ih v1 v3 v6 v7 v8 v9 v10 (jW (v11 + 1)) m _ hf hq
theorem t_X8_leastEnd_2 {l : Launch} {G : jG} (hl : l.stackTraces = false) {a0 : Int} {a1 : Int} {a2 : Int} {a3 : Int} {a4 : Int} {a5 : Int} {m : jMu} {r : (Int × jMu)} (hf : fr_X8_leastEnd 2 a0 a1 a2 a3 a4 a5 m = some r) : jCt l G yX8_leastEnd (.code yX8_leastEnd cX8_leastEnd 14 (some .int) :: jWG) rm_X8_leastEnd_2 [jR 66, jI a0, jI a1, jI a2, jI a3, jI a4, jI a5] SKF m (.inl (some (jI r.1))) SKF r.2 := by
  rw [fr_X8_leastEnd] at hf
  unfold f_X8_leastEnd at hf
  refine J_start (ls0 := [(0, jR 66), (1, jI a0), (2, jI a1), (3, jI a2), (4, jI a3), (5, jI a4), (6, jI a5)]) (by decide +kernel) hl (Nat.le_of_ble_eq_true rfl) rfl fun X C hN hn hR hr hnm hno hq => ?_
  have B : jB X cX8_leastEnd RX8 14 SKF.length rm_X8_leastEnd_2 (some .int) := ⟨C, hN, Nat.le_of_eq hn, hR, hr⟩
  refine B_blk B jlkX8_ok jcl_SKF [.aload_n 0, .iload_n 3, .iload_n 1, .aload_n 0, .iload_n 3, .iload 4] (by decide +kernel) (ls' := [(0, jR 66), (1, jI a0), (2, jI a1), (3, jI a2), (4, jI a3), (5, jI a4), (6, jI a5)]) (st' := [jI a3, jI a2, jR 66, jI a0, jI a2, jR 66]) rfl (p1 := 7) rfl ?_
  obtain ⟨r1, h1, hf⟩ := jbd hf
  refine B_callV B (Nat.le_refl _) (μ' := m) (k' := 0) (n' := 0) ca_X8_firstMoment in_X8_firstMoment se_X8_firstMoment lk_X8_85 (t_X8_firstMoment B.tr h1) (Nat.le_refl _) rfl rfl rfl (rest := [jI a0, jI a2, jR 66]) rfl rfl (Nat.le_of_ble_eq_true rfl) (by decide +kernel) rfl rfl (st' := [jI r1, jI a0, jI a2, jR 66]) rfl ?_
  obtain ⟨r2, h2, hf⟩ := jbd hf
  refine B_callV B (Nat.le_refl _) (μ' := r2.2) (k' := 0) (n' := 0) ca_X8_workEnd in_X8_workEnd se_X8_workEnd lk_X8_88 (t_X8_workEnd B.tr h2) (Nat.le_refl _) rfl rfl rfl (rest := []) rfl rfl (Nat.le_of_ble_eq_true rfl) (by decide +kernel) rfl rfl (st' := [jI r2.1]) rfl ?_
  refine B_blk B jlkX8_ok jcl_SKF [.istore 7, .iload 7, .iconst (-1)] (by decide +kernel) (ls' := [(0, jR 66), (1, jI a0), (2, jI a1), (3, jI a2), (4, jI a3), (5, jI a4), (6, jI a5), (7, jI r2.1)]) (st' := [jI (-1), jI r2.1]) rfl (p1 := 18) rfl ?_
  refine J_icmp_eq B.1 (off := 17) (tgt := 35) (by decide +kernel) (by decide) hf (fun hf => ?_) (fun hf => ?_)
  · refine B_blk B jlkX8_ok jcl_SKF [.iconst (-1)] (by decide +kernel) (ls' := [(0, jR 66), (1, jI a0), (2, jI a1), (3, jI a2), (4, jI a3), (5, jI a4), (6, jI a5), (7, jI r2.1)]) (st' := [jI (-1)]) rfl (p1 := 36) rfl ?_
    cases hf
    exact B_retI B hq rfl (Nat.le_of_ble_eq_true rfl) (Nat.le_of_ble_eq_true rfl) (by decide +kernel)
  · refine B_blk B jlkX8_ok jcl_SKF [.iload 7, .iload 5] (by decide +kernel) (ls' := [(0, jR 66), (1, jI a0), (2, jI a1), (3, jI a2), (4, jI a3), (5, jI a4), (6, jI a5), (7, jI r2.1)]) (st' := [jI a4, jI r2.1]) rfl (p1 := 25) rfl ?_
    refine J_icmp_ge B.1 (off := 10) (tgt := 35) (by decide +kernel) (by decide) hf (fun hf => ?_) (fun hf => ?_)
    · refine B_blk B jlkX8_ok jcl_SKF [.iconst (-1)] (by decide +kernel) (ls' := [(0, jR 66), (1, jI a0), (2, jI a1), (3, jI a2), (4, jI a3), (5, jI a4), (6, jI a5), (7, jI r2.1)]) (st' := [jI (-1)]) rfl (p1 := 36) rfl ?_
      cases hf
      exact B_retI B hq rfl (Nat.le_of_ble_eq_true rfl) (Nat.le_of_ble_eq_true rfl) (by decide +kernel)
    · refine B_blk B jlkX8_ok jcl_SKF [.iload 6, .bipush 6] (by decide +kernel) (ls' := [(0, jR 66), (1, jI a0), (2, jI a1), (3, jI a2), (4, jI a3), (5, jI a4), (6, jI a5), (7, jI r2.1)]) (st' := [jI 6, jI a5]) rfl (p1 := 32) rfl ?_
      refine J_icmp_le B.1 (off := 5) (tgt := 37) (by decide +kernel) (by decide) hf (fun hf => ?_) (fun hf => ?_)
      · refine B_blk B jlkX8_ok jcl_SKF [.iload_n 2, .iconst 1, .iload_n 3, .ishl, .iconst (-1), .ixor, .iand, .istore 8, .iload 8] (by decide +kernel) (ls' := [(0, jR 66), (1, jI a0), (2, jI a1), (3, jI a2), (4, jI a3), (5, jI a4), (6, jI a5), (7, jI r2.1), (8, jI (jAn a1 (jXo (jSl 1 a2) (-1))))]) (st' := [jI (jAn a1 (jXo (jSl 1 a2) (-1)))]) rfl (p1 := 48) rfl ?_
        refine J_if_ne B.1 (off := 6) (tgt := 54) (by decide +kernel) (by decide) hf (fun hf => ?_) (fun hf => ?_)
        · refine B_blk B jlkX8_ok jcl_SKF [.iload 7] (by decide +kernel) (ls' := [(0, jR 66), (1, jI a0), (2, jI a1), (3, jI a2), (4, jI a3), (5, jI a4), (6, jI a5), (7, jI r2.1), (8, jI (jAn a1 (jXo (jSl 1 a2) (-1))))]) (st' := [jI r2.1]) rfl (p1 := 53) rfl ?_
          cases hf
          exact B_retI B hq rfl (Nat.le_of_ble_eq_true rfl) (Nat.le_of_ble_eq_true rfl) (by decide +kernel)
        · refine B_blk B jlkX8_ok jcl_SKF [.iconst (-1), .istore 9, .iload 5, .istore 10, .iconst 0, .istore 11] (by decide +kernel) (ls' := [(0, jR 66), (1, jI a0), (2, jI a1), (3, jI a2), (4, jI a3), (5, jI a4), (6, jI a5), (7, jI r2.1), (8, jI (jAn a1 (jXo (jSl 1 a2) (-1)))), (9, jI (-1)), (10, jI a4), (11, jI 0)]) (st' := []) rfl (p1 := 64) rfl ?_
          refine J_pick [0, 1, 3, 6, 7, 8, 9, 10, 11] (ls' := [(0, jR 66), (1, jI a0), (3, jI a2), (6, jI a5), (7, jI r2.1), (8, jI (jAn a1 (jXo (jSl 1 a2) (-1)))), (9, jI (-1)), (10, jI a4), (11, jI 0)]) rfl ?_
          exact t_X8_leastEnd_L64_2 B jFU a0 a2 a5 r2.1 (jAn a1 (jXo (jSl 1 a2) (-1))) (-1) a4 0 r2.2 _ hf hq
      · refine B_blk B jlkX8_ok jcl_SKF [.iconst (-1)] (by decide +kernel) (ls' := [(0, jR 66), (1, jI a0), (2, jI a1), (3, jI a2), (4, jI a3), (5, jI a4), (6, jI a5), (7, jI r2.1)]) (st' := [jI (-1)]) rfl (p1 := 36) rfl ?_
        cases hf
        exact B_retI B hq rfl (Nat.le_of_ble_eq_true rfl) (Nat.le_of_ble_eq_true rfl) (by decide +kernel)

def rm_X8_leastEnd_3 : Room := { frames := 16, cells := 0, slots := 0, locals := 255 }
theorem t_X8_leastEnd_L64_3 {X : jX} (B : jB X cX8_leastEnd RX8 14 SKF.length rm_X8_leastEnd_3 (some .int)) : ∀ (q : Nat) (v1 : Int) (v3 : Int) (v6 : Int) (v7 : Int) (v8 : Int) (v9 : Int) (v10 : Int) (v11 : Int) (m : jMu) (r : (Int × jMu)), f_X8_leastEnd_L64 (fr_X8_leastEnd 2) q v1 v3 v6 v7 v8 v9 v10 v11 m = some r → jQ X (.inl (some (jI r.1))) SKF r.2 rm_X8_leastEnd_3.cells rm_X8_leastEnd_3.slots → J X SKF m 0 0 64 [(0, jR 66), (1, jI v1), (3, jI v3), (6, jI v6), (7, jI v7), (8, jI v8), (9, jI v9), (10, jI v10), (11, jI v11)] [] := by
  intro q
  induction q with
  | zero =>
    intro v1 v3 v6 v7 v8 v9 v10 v11 m r hf
    rw [f_X8_leastEnd_L64] at hf
    cases hf
  | succ q ih =>
    intro v1 v3 v6 v7 v8 v9 v10 v11 m r hf hq
    rw [f_X8_leastEnd_L64] at hf
    refine B_blk B jlkX8_ok jcl_SKF [.iload 11, .bipush 8] (by decide +kernel) (ls' := [(0, jR 66), (1, jI v1), (3, jI v3), (6, jI v6), (7, jI v7), (8, jI v8), (9, jI v9), (10, jI v10), (11, jI v11)]) (st' := [jI 8, jI v11]) rfl (p1 := 68) rfl ?_
    refine J_icmp_ge B.1 (off := 75) (tgt := 143) (by decide +kernel) (by decide) hf (fun hf => ?_) (fun hf => ?_)
    · refine B_blk B jlkX8_ok jcl_SKF [.iload 9] (by decide +kernel) (ls' := [(0, jR 66), (1, jI v1), (3, jI v3), (6, jI v6), (7, jI v7), (8, jI v8), (9, jI v9), (10, jI v10), (11, jI v11)]) (st' := [jI v9]) rfl (p1 := 145) rfl ?_
      cases hf
      exact B_retI B hq rfl (Nat.le_of_ble_eq_true rfl) (Nat.le_of_ble_eq_true rfl) (by decide +kernel)
    · refine B_blk B jlkX8_ok jcl_SKF [.iload 8, .iload 11, .ishr, .iconst 1, .iand, .iconst 1] (by decide +kernel) (ls' := [(0, jR 66), (1, jI v1), (3, jI v3), (6, jI v6), (7, jI v7), (8, jI v8), (9, jI v9), (10, jI v10), (11, jI v11)]) (st' := [jI 1, jI (jAn (jSr v8 v11) 1)]) rfl (p1 := 79) rfl ?_
      refine J_icmp_ne B.1 (off := 58) (tgt := 137) (by decide +kernel) (by decide) hf (fun hf => ?_) (fun hf => ?_)
      · refine B_blk B jlkX8_ok jcl_SKF [.iload 11, .iload_n 3] (by decide +kernel) (ls' := [(0, jR 66), (1, jI v1), (3, jI v3), (6, jI v6), (7, jI v7), (8, jI v8), (9, jI v9), (10, jI v10), (11, jI v11)]) (st' := [jI v3, jI v11]) rfl (p1 := 85) rfl ?_
        refine J_icmp_ge B.1 (off := 10) (tgt := 95) (by decide +kernel) (by decide) hf (fun hf => ?_) (fun hf => ?_)
        · refine B_blk B jlkX8_ok jcl_SKF [.iload 11, .iload_n 3, .isub, .istore 12, .aload_n 0, .iload_n 1, .iload 8, .iload 11, .iload 7, .iload 12, .iadd, .iload 10, .iload 6, .iconst 1, .iadd] (by decide +kernel) (ls' := [(0, jR 66), (1, jI v1), (3, jI v3), (6, jI v6), (7, jI v7), (8, jI v8), (9, jI v9), (10, jI v10), (11, jI v11), (12, jI (jW (v11 - v3)))]) (st' := [jI (jW (v6 + 1)), jI v10, jI (jW (v7 + jW (v11 - v3))), jI v11, jI v8, jI v1, jR 66]) rfl (p1 := 118) rfl ?_
          obtain ⟨r3, h3, hf⟩ := jbd hf
          refine B_callS B (Nat.le_refl _) (μ' := r3.2) (k' := 0) (n' := 0) ca_X8_leastEnd sa_X8_leastEnd lk_X8_92 (t_X8_leastEnd_2 B.tr h3) (Nat.le_refl _) rfl (rest := []) rfl rfl (Nat.le_of_ble_eq_true rfl) (by decide +kernel) rfl rfl (st' := [jI r3.1]) rfl ?_
          refine B_blk B jlkX8_ok jcl_SKF [.istore 13, .iload 13, .iconst (-1)] (by decide +kernel) (ls' := [(0, jR 66), (1, jI v1), (3, jI v3), (6, jI v6), (7, jI v7), (8, jI v8), (9, jI v9), (10, jI v10), (11, jI v11), (12, jI (jW (v11 - v3))), (13, jI r3.1)]) (st' := [jI (-1), jI r3.1]) rfl (p1 := 126) rfl ?_
          refine J_icmp_eq B.1 (off := 11) (tgt := 137) (by decide +kernel) (by decide) hf (fun hf => ?_) (fun hf => ?_)
          · refine B_blk B jlkX8_ok jcl_SKF [.iinc 11 1, .goto (-76)] (by decide +kernel) (ls' := [(0, jR 66), (1, jI v1), (3, jI v3), (6, jI v6), (7, jI v7), (8, jI v8), (9, jI v9), (10, jI v10), (11, jI (jW (v11 + 1))), (12, jI (jW (v11 - v3))), (13, jI r3.1)]) (st' := []) rfl (p1 := 64) rfl ?_
            refine J_pick [0, 1, 2, 3, 4, 5, 6, 7, 8] (ls' := [(0, jR 66), (1, jI v1), (3, jI v3), (6, jI v6), (7, jI v7), (8, jI v8), (9, jI v9), (10, jI v10), (11, jI (jW (v11 + 1)))]) rfl ?_
            exact ih v1 v3 v6 v7 v8 v9 v10 (jW (v11 + 1)) r3.2 _ hf hq
          · refine B_blk B jlkX8_ok jcl_SKF [.iload 13, .istore 9, .iload 13, .istore 10, .iinc 11 1, .goto (-76)] (by decide +kernel) (ls' := [(0, jR 66), (1, jI v1), (3, jI v3), (6, jI v6), (7, jI v7), (8, jI v8), (9, jI r3.1), (10, jI r3.1), (11, jI (jW (v11 + 1))), (12, jI (jW (v11 - v3))), (13, jI r3.1)]) (st' := []) rfl (p1 := 64) rfl ?_
            refine J_pick [0, 1, 2, 3, 4, 5, 6, 7, 8] (ls' := [(0, jR 66), (1, jI v1), (3, jI v3), (6, jI v6), (7, jI v7), (8, jI v8), (9, jI r3.1), (10, jI r3.1), (11, jI (jW (v11 + 1)))]) rfl ?_
            exact ih v1 v3 v6 v7 v8 r3.1 r3.1 (jW (v11 + 1)) r3.2 _ hf hq
        · refine B_blk B jlkX8_ok jcl_SKF [.iload_n 3, .iload 11, .isub, .goto 7, .istore 12, .aload_n 0, .iload_n 1, .iload 8, .iload 11, .iload 7, .iload 12, .iadd, .iload 10, .iload 6, .iconst 1, .iadd] (by decide +kernel) (ls' := [(0, jR 66), (1, jI v1), (3, jI v3), (6, jI v6), (7, jI v7), (8, jI v8), (9, jI v9), (10, jI v10), (11, jI v11), (12, jI (jW (v3 - v11)))]) (st' := [jI (jW (v6 + 1)), jI v10, jI (jW (v7 + jW (v3 - v11))), jI v11, jI v8, jI v1, jR 66]) rfl (p1 := 118) rfl ?_
          obtain ⟨r4, h4, hf⟩ := jbd hf
          refine B_callS B (Nat.le_refl _) (μ' := r4.2) (k' := 0) (n' := 0) ca_X8_leastEnd sa_X8_leastEnd lk_X8_92 (t_X8_leastEnd_2 B.tr h4) (Nat.le_refl _) rfl (rest := []) rfl rfl (Nat.le_of_ble_eq_true rfl) (by decide +kernel) rfl rfl (st' := [jI r4.1]) rfl ?_
          refine B_blk B jlkX8_ok jcl_SKF [.istore 13, .iload 13, .iconst (-1)] (by decide +kernel) (ls' := [(0, jR 66), (1, jI v1), (3, jI v3), (6, jI v6), (7, jI v7), (8, jI v8), (9, jI v9), (10, jI v10), (11, jI v11), (12, jI (jW (v3 - v11))), (13, jI r4.1)]) (st' := [jI (-1), jI r4.1]) rfl (p1 := 126) rfl ?_
          refine J_icmp_eq B.1 (off := 11) (tgt := 137) (by decide +kernel) (by decide) hf (fun hf => ?_) (fun hf => ?_)
          · refine B_blk B jlkX8_ok jcl_SKF [.iinc 11 1, .goto (-76)] (by decide +kernel) (ls' := [(0, jR 66), (1, jI v1), (3, jI v3), (6, jI v6), (7, jI v7), (8, jI v8), (9, jI v9), (10, jI v10), (11, jI (jW (v11 + 1))), (12, jI (jW (v3 - v11))), (13, jI r4.1)]) (st' := []) rfl (p1 := 64) rfl ?_
            refine J_pick [0, 1, 2, 3, 4, 5, 6, 7, 8] (ls' := [(0, jR 66), (1, jI v1), (3, jI v3), (6, jI v6), (7, jI v7), (8, jI v8), (9, jI v9), (10, jI v10), (11, jI (jW (v11 + 1)))]) rfl ?_
            exact ih v1 v3 v6 v7 v8 v9 v10 (jW (v11 + 1)) r4.2 _ hf hq
          · refine B_blk B jlkX8_ok jcl_SKF [.iload 13, .istore 9, .iload 13, .istore 10, .iinc 11 1, .goto (-76)] (by decide +kernel) (ls' := [(0, jR 66), (1, jI v1), (3, jI v3), (6, jI v6), (7, jI v7), (8, jI v8), (9, jI r4.1), (10, jI r4.1), (11, jI (jW (v11 + 1))), (12, jI (jW (v3 - v11))), (13, jI r4.1)]) (st' := []) rfl (p1 := 64) rfl ?_
            refine J_pick [0, 1, 2, 3, 4, 5, 6, 7, 8] (ls' := [(0, jR 66), (1, jI v1), (3, jI v3), (6, jI v6), (7, jI v7), (8, jI v8), (9, jI r4.1), (10, jI r4.1), (11, jI (jW (v11 + 1)))]) rfl ?_
            exact ih v1 v3 v6 v7 v8 r4.1 r4.1 (jW (v11 + 1)) r4.2 _ hf hq
      · refine B_blk B jlkX8_ok jcl_SKF [.iinc 11 1, .goto (-76)] (by decide +kernel) (ls' := [(0, jR 66), (1, jI v1), (3, jI v3), (6, jI v6), (7, jI v7), (8, jI v8), (9, jI v9), (10, jI v10), (11, jI (jW (v11 + 1)))]) (st' := []) rfl (p1 := 64) rfl ?_
        exact ih v1 v3 v6 v7 v8 v9 v10 (jW (v11 + 1)) m _ hf hq
theorem t_X8_leastEnd_3 {l : Launch} {G : jG} (hl : l.stackTraces = false) {a0 : Int} {a1 : Int} {a2 : Int} {a3 : Int} {a4 : Int} {a5 : Int} {m : jMu} {r : (Int × jMu)} (hf : fr_X8_leastEnd 3 a0 a1 a2 a3 a4 a5 m = some r) : jCt l G yX8_leastEnd (.code yX8_leastEnd cX8_leastEnd 14 (some .int) :: jWG) rm_X8_leastEnd_3 [jR 66, jI a0, jI a1, jI a2, jI a3, jI a4, jI a5] SKF m (.inl (some (jI r.1))) SKF r.2 := by
  rw [fr_X8_leastEnd] at hf
  unfold f_X8_leastEnd at hf
  refine J_start (ls0 := [(0, jR 66), (1, jI a0), (2, jI a1), (3, jI a2), (4, jI a3), (5, jI a4), (6, jI a5)]) (by decide +kernel) hl (Nat.le_of_ble_eq_true rfl) rfl fun X C hN hn hR hr hnm hno hq => ?_
  have B : jB X cX8_leastEnd RX8 14 SKF.length rm_X8_leastEnd_3 (some .int) := ⟨C, hN, Nat.le_of_eq hn, hR, hr⟩
  refine B_blk B jlkX8_ok jcl_SKF [.aload_n 0, .iload_n 3, .iload_n 1, .aload_n 0, .iload_n 3, .iload 4] (by decide +kernel) (ls' := [(0, jR 66), (1, jI a0), (2, jI a1), (3, jI a2), (4, jI a3), (5, jI a4), (6, jI a5)]) (st' := [jI a3, jI a2, jR 66, jI a0, jI a2, jR 66]) rfl (p1 := 7) rfl ?_
  obtain ⟨r1, h1, hf⟩ := jbd hf
  refine B_callV B (Nat.le_refl _) (μ' := m) (k' := 0) (n' := 0) ca_X8_firstMoment in_X8_firstMoment se_X8_firstMoment lk_X8_85 (t_X8_firstMoment B.tr h1) (Nat.le_refl _) rfl rfl rfl (rest := [jI a0, jI a2, jR 66]) rfl rfl (Nat.le_of_ble_eq_true rfl) (by decide +kernel) rfl rfl (st' := [jI r1, jI a0, jI a2, jR 66]) rfl ?_
  obtain ⟨r2, h2, hf⟩ := jbd hf
  refine B_callV B (Nat.le_refl _) (μ' := r2.2) (k' := 0) (n' := 0) ca_X8_workEnd in_X8_workEnd se_X8_workEnd lk_X8_88 (t_X8_workEnd B.tr h2) (Nat.le_refl _) rfl rfl rfl (rest := []) rfl rfl (Nat.le_of_ble_eq_true rfl) (by decide +kernel) rfl rfl (st' := [jI r2.1]) rfl ?_
  refine B_blk B jlkX8_ok jcl_SKF [.istore 7, .iload 7, .iconst (-1)] (by decide +kernel) (ls' := [(0, jR 66), (1, jI a0), (2, jI a1), (3, jI a2), (4, jI a3), (5, jI a4), (6, jI a5), (7, jI r2.1)]) (st' := [jI (-1), jI r2.1]) rfl (p1 := 18) rfl ?_
  refine J_icmp_eq B.1 (off := 17) (tgt := 35) (by decide +kernel) (by decide) hf (fun hf => ?_) (fun hf => ?_)
  · refine B_blk B jlkX8_ok jcl_SKF [.iconst (-1)] (by decide +kernel) (ls' := [(0, jR 66), (1, jI a0), (2, jI a1), (3, jI a2), (4, jI a3), (5, jI a4), (6, jI a5), (7, jI r2.1)]) (st' := [jI (-1)]) rfl (p1 := 36) rfl ?_
    cases hf
    exact B_retI B hq rfl (Nat.le_of_ble_eq_true rfl) (Nat.le_of_ble_eq_true rfl) (by decide +kernel)
  · refine B_blk B jlkX8_ok jcl_SKF [.iload 7, .iload 5] (by decide +kernel) (ls' := [(0, jR 66), (1, jI a0), (2, jI a1), (3, jI a2), (4, jI a3), (5, jI a4), (6, jI a5), (7, jI r2.1)]) (st' := [jI a4, jI r2.1]) rfl (p1 := 25) rfl ?_
    refine J_icmp_ge B.1 (off := 10) (tgt := 35) (by decide +kernel) (by decide) hf (fun hf => ?_) (fun hf => ?_)
    · refine B_blk B jlkX8_ok jcl_SKF [.iconst (-1)] (by decide +kernel) (ls' := [(0, jR 66), (1, jI a0), (2, jI a1), (3, jI a2), (4, jI a3), (5, jI a4), (6, jI a5), (7, jI r2.1)]) (st' := [jI (-1)]) rfl (p1 := 36) rfl ?_
      cases hf
      exact B_retI B hq rfl (Nat.le_of_ble_eq_true rfl) (Nat.le_of_ble_eq_true rfl) (by decide +kernel)
    · refine B_blk B jlkX8_ok jcl_SKF [.iload 6, .bipush 6] (by decide +kernel) (ls' := [(0, jR 66), (1, jI a0), (2, jI a1), (3, jI a2), (4, jI a3), (5, jI a4), (6, jI a5), (7, jI r2.1)]) (st' := [jI 6, jI a5]) rfl (p1 := 32) rfl ?_
      refine J_icmp_le B.1 (off := 5) (tgt := 37) (by decide +kernel) (by decide) hf (fun hf => ?_) (fun hf => ?_)
      · refine B_blk B jlkX8_ok jcl_SKF [.iload_n 2, .iconst 1, .iload_n 3, .ishl, .iconst (-1), .ixor, .iand, .istore 8, .iload 8] (by decide +kernel) (ls' := [(0, jR 66), (1, jI a0), (2, jI a1), (3, jI a2), (4, jI a3), (5, jI a4), (6, jI a5), (7, jI r2.1), (8, jI (jAn a1 (jXo (jSl 1 a2) (-1))))]) (st' := [jI (jAn a1 (jXo (jSl 1 a2) (-1)))]) rfl (p1 := 48) rfl ?_
        refine J_if_ne B.1 (off := 6) (tgt := 54) (by decide +kernel) (by decide) hf (fun hf => ?_) (fun hf => ?_)
        · refine B_blk B jlkX8_ok jcl_SKF [.iload 7] (by decide +kernel) (ls' := [(0, jR 66), (1, jI a0), (2, jI a1), (3, jI a2), (4, jI a3), (5, jI a4), (6, jI a5), (7, jI r2.1), (8, jI (jAn a1 (jXo (jSl 1 a2) (-1))))]) (st' := [jI r2.1]) rfl (p1 := 53) rfl ?_
          cases hf
          exact B_retI B hq rfl (Nat.le_of_ble_eq_true rfl) (Nat.le_of_ble_eq_true rfl) (by decide +kernel)
        · refine B_blk B jlkX8_ok jcl_SKF [.iconst (-1), .istore 9, .iload 5, .istore 10, .iconst 0, .istore 11] (by decide +kernel) (ls' := [(0, jR 66), (1, jI a0), (2, jI a1), (3, jI a2), (4, jI a3), (5, jI a4), (6, jI a5), (7, jI r2.1), (8, jI (jAn a1 (jXo (jSl 1 a2) (-1)))), (9, jI (-1)), (10, jI a4), (11, jI 0)]) (st' := []) rfl (p1 := 64) rfl ?_
          refine J_pick [0, 1, 3, 6, 7, 8, 9, 10, 11] (ls' := [(0, jR 66), (1, jI a0), (3, jI a2), (6, jI a5), (7, jI r2.1), (8, jI (jAn a1 (jXo (jSl 1 a2) (-1)))), (9, jI (-1)), (10, jI a4), (11, jI 0)]) rfl ?_
          exact t_X8_leastEnd_L64_3 B jFU a0 a2 a5 r2.1 (jAn a1 (jXo (jSl 1 a2) (-1))) (-1) a4 0 r2.2 _ hf hq
      · refine B_blk B jlkX8_ok jcl_SKF [.iconst (-1)] (by decide +kernel) (ls' := [(0, jR 66), (1, jI a0), (2, jI a1), (3, jI a2), (4, jI a3), (5, jI a4), (6, jI a5), (7, jI r2.1)]) (st' := [jI (-1)]) rfl (p1 := 36) rfl ?_
        cases hf
        exact B_retI B hq rfl (Nat.le_of_ble_eq_true rfl) (Nat.le_of_ble_eq_true rfl) (by decide +kernel)

def rm_X8_leastEnd_4 : Room := { frames := 18, cells := 0, slots := 0, locals := 288 }
theorem t_X8_leastEnd_L64_4 {X : jX} (B : jB X cX8_leastEnd RX8 14 SKF.length rm_X8_leastEnd_4 (some .int)) : ∀ (q : Nat) (v1 : Int) (v3 : Int) (v6 : Int) (v7 : Int) (v8 : Int) (v9 : Int) (v10 : Int) (v11 : Int) (m : jMu) (r : (Int × jMu)), f_X8_leastEnd_L64 (fr_X8_leastEnd 3) q v1 v3 v6 v7 v8 v9 v10 v11 m = some r → jQ X (.inl (some (jI r.1))) SKF r.2 rm_X8_leastEnd_4.cells rm_X8_leastEnd_4.slots → J X SKF m 0 0 64 [(0, jR 66), (1, jI v1), (3, jI v3), (6, jI v6), (7, jI v7), (8, jI v8), (9, jI v9), (10, jI v10), (11, jI v11)] [] := by
  intro q
  induction q with
  | zero =>
    intro v1 v3 v6 v7 v8 v9 v10 v11 m r hf
    rw [f_X8_leastEnd_L64] at hf
    cases hf
  | succ q ih =>
    intro v1 v3 v6 v7 v8 v9 v10 v11 m r hf hq
    rw [f_X8_leastEnd_L64] at hf
    refine B_blk B jlkX8_ok jcl_SKF [.iload 11, .bipush 8] (by decide +kernel) (ls' := [(0, jR 66), (1, jI v1), (3, jI v3), (6, jI v6), (7, jI v7), (8, jI v8), (9, jI v9), (10, jI v10), (11, jI v11)]) (st' := [jI 8, jI v11]) rfl (p1 := 68) rfl ?_
    refine J_icmp_ge B.1 (off := 75) (tgt := 143) (by decide +kernel) (by decide) hf (fun hf => ?_) (fun hf => ?_)
    · refine B_blk B jlkX8_ok jcl_SKF [.iload 9] (by decide +kernel) (ls' := [(0, jR 66), (1, jI v1), (3, jI v3), (6, jI v6), (7, jI v7), (8, jI v8), (9, jI v9), (10, jI v10), (11, jI v11)]) (st' := [jI v9]) rfl (p1 := 145) rfl ?_
      cases hf
      exact B_retI B hq rfl (Nat.le_of_ble_eq_true rfl) (Nat.le_of_ble_eq_true rfl) (by decide +kernel)
    · refine B_blk B jlkX8_ok jcl_SKF [.iload 8, .iload 11, .ishr, .iconst 1, .iand, .iconst 1] (by decide +kernel) (ls' := [(0, jR 66), (1, jI v1), (3, jI v3), (6, jI v6), (7, jI v7), (8, jI v8), (9, jI v9), (10, jI v10), (11, jI v11)]) (st' := [jI 1, jI (jAn (jSr v8 v11) 1)]) rfl (p1 := 79) rfl ?_
      refine J_icmp_ne B.1 (off := 58) (tgt := 137) (by decide +kernel) (by decide) hf (fun hf => ?_) (fun hf => ?_)
      · refine B_blk B jlkX8_ok jcl_SKF [.iload 11, .iload_n 3] (by decide +kernel) (ls' := [(0, jR 66), (1, jI v1), (3, jI v3), (6, jI v6), (7, jI v7), (8, jI v8), (9, jI v9), (10, jI v10), (11, jI v11)]) (st' := [jI v3, jI v11]) rfl (p1 := 85) rfl ?_
        refine J_icmp_ge B.1 (off := 10) (tgt := 95) (by decide +kernel) (by decide) hf (fun hf => ?_) (fun hf => ?_)
        · refine B_blk B jlkX8_ok jcl_SKF [.iload 11, .iload_n 3, .isub, .istore 12, .aload_n 0, .iload_n 1, .iload 8, .iload 11, .iload 7, .iload 12, .iadd, .iload 10, .iload 6, .iconst 1, .iadd] (by decide +kernel) (ls' := [(0, jR 66), (1, jI v1), (3, jI v3), (6, jI v6), (7, jI v7), (8, jI v8), (9, jI v9), (10, jI v10), (11, jI v11), (12, jI (jW (v11 - v3)))]) (st' := [jI (jW (v6 + 1)), jI v10, jI (jW (v7 + jW (v11 - v3))), jI v11, jI v8, jI v1, jR 66]) rfl (p1 := 118) rfl ?_
          obtain ⟨r3, h3, hf⟩ := jbd hf
          refine B_callS B (Nat.le_refl _) (μ' := r3.2) (k' := 0) (n' := 0) ca_X8_leastEnd sa_X8_leastEnd lk_X8_92 (t_X8_leastEnd_3 B.tr h3) (Nat.le_refl _) rfl (rest := []) rfl rfl (Nat.le_of_ble_eq_true rfl) (by decide +kernel) rfl rfl (st' := [jI r3.1]) rfl ?_
          refine B_blk B jlkX8_ok jcl_SKF [.istore 13, .iload 13, .iconst (-1)] (by decide +kernel) (ls' := [(0, jR 66), (1, jI v1), (3, jI v3), (6, jI v6), (7, jI v7), (8, jI v8), (9, jI v9), (10, jI v10), (11, jI v11), (12, jI (jW (v11 - v3))), (13, jI r3.1)]) (st' := [jI (-1), jI r3.1]) rfl (p1 := 126) rfl ?_
          refine J_icmp_eq B.1 (off := 11) (tgt := 137) (by decide +kernel) (by decide) hf (fun hf => ?_) (fun hf => ?_)
          · refine B_blk B jlkX8_ok jcl_SKF [.iinc 11 1, .goto (-76)] (by decide +kernel) (ls' := [(0, jR 66), (1, jI v1), (3, jI v3), (6, jI v6), (7, jI v7), (8, jI v8), (9, jI v9), (10, jI v10), (11, jI (jW (v11 + 1))), (12, jI (jW (v11 - v3))), (13, jI r3.1)]) (st' := []) rfl (p1 := 64) rfl ?_
            refine J_pick [0, 1, 2, 3, 4, 5, 6, 7, 8] (ls' := [(0, jR 66), (1, jI v1), (3, jI v3), (6, jI v6), (7, jI v7), (8, jI v8), (9, jI v9), (10, jI v10), (11, jI (jW (v11 + 1)))]) rfl ?_
            exact ih v1 v3 v6 v7 v8 v9 v10 (jW (v11 + 1)) r3.2 _ hf hq
          · refine B_blk B jlkX8_ok jcl_SKF [.iload 13, .istore 9, .iload 13, .istore 10, .iinc 11 1, .goto (-76)] (by decide +kernel) (ls' := [(0, jR 66), (1, jI v1), (3, jI v3), (6, jI v6), (7, jI v7), (8, jI v8), (9, jI r3.1), (10, jI r3.1), (11, jI (jW (v11 + 1))), (12, jI (jW (v11 - v3))), (13, jI r3.1)]) (st' := []) rfl (p1 := 64) rfl ?_
            refine J_pick [0, 1, 2, 3, 4, 5, 6, 7, 8] (ls' := [(0, jR 66), (1, jI v1), (3, jI v3), (6, jI v6), (7, jI v7), (8, jI v8), (9, jI r3.1), (10, jI r3.1), (11, jI (jW (v11 + 1)))]) rfl ?_
            exact ih v1 v3 v6 v7 v8 r3.1 r3.1 (jW (v11 + 1)) r3.2 _ hf hq
        · refine B_blk B jlkX8_ok jcl_SKF [.iload_n 3, .iload 11, .isub, .goto 7, .istore 12, .aload_n 0, .iload_n 1, .iload 8, .iload 11, .iload 7, .iload 12, .iadd, .iload 10, .iload 6, .iconst 1, .iadd] (by decide +kernel) (ls' := [(0, jR 66), (1, jI v1), (3, jI v3), (6, jI v6), (7, jI v7), (8, jI v8), (9, jI v9), (10, jI v10), (11, jI v11), (12, jI (jW (v3 - v11)))]) (st' := [jI (jW (v6 + 1)), jI v10, jI (jW (v7 + jW (v3 - v11))), jI v11, jI v8, jI v1, jR 66]) rfl (p1 := 118) rfl ?_
          obtain ⟨r4, h4, hf⟩ := jbd hf
          refine B_callS B (Nat.le_refl _) (μ' := r4.2) (k' := 0) (n' := 0) ca_X8_leastEnd sa_X8_leastEnd lk_X8_92 (t_X8_leastEnd_3 B.tr h4) (Nat.le_refl _) rfl (rest := []) rfl rfl (Nat.le_of_ble_eq_true rfl) (by decide +kernel) rfl rfl (st' := [jI r4.1]) rfl ?_
          refine B_blk B jlkX8_ok jcl_SKF [.istore 13, .iload 13, .iconst (-1)] (by decide +kernel) (ls' := [(0, jR 66), (1, jI v1), (3, jI v3), (6, jI v6), (7, jI v7), (8, jI v8), (9, jI v9), (10, jI v10), (11, jI v11), (12, jI (jW (v3 - v11))), (13, jI r4.1)]) (st' := [jI (-1), jI r4.1]) rfl (p1 := 126) rfl ?_
          refine J_icmp_eq B.1 (off := 11) (tgt := 137) (by decide +kernel) (by decide) hf (fun hf => ?_) (fun hf => ?_)
          · refine B_blk B jlkX8_ok jcl_SKF [.iinc 11 1, .goto (-76)] (by decide +kernel) (ls' := [(0, jR 66), (1, jI v1), (3, jI v3), (6, jI v6), (7, jI v7), (8, jI v8), (9, jI v9), (10, jI v10), (11, jI (jW (v11 + 1))), (12, jI (jW (v3 - v11))), (13, jI r4.1)]) (st' := []) rfl (p1 := 64) rfl ?_
            refine J_pick [0, 1, 2, 3, 4, 5, 6, 7, 8] (ls' := [(0, jR 66), (1, jI v1), (3, jI v3), (6, jI v6), (7, jI v7), (8, jI v8), (9, jI v9), (10, jI v10), (11, jI (jW (v11 + 1)))]) rfl ?_
            exact ih v1 v3 v6 v7 v8 v9 v10 (jW (v11 + 1)) r4.2 _ hf hq
          · refine B_blk B jlkX8_ok jcl_SKF [.iload 13, .istore 9, .iload 13, .istore 10, .iinc 11 1, .goto (-76)] (by decide +kernel) (ls' := [(0, jR 66), (1, jI v1), (3, jI v3), (6, jI v6), (7, jI v7), (8, jI v8), (9, jI r4.1), (10, jI r4.1), (11, jI (jW (v11 + 1))), (12, jI (jW (v3 - v11))), (13, jI r4.1)]) (st' := []) rfl (p1 := 64) rfl ?_
            refine J_pick [0, 1, 2, 3, 4, 5, 6, 7, 8] (ls' := [(0, jR 66), (1, jI v1), (3, jI v3), (6, jI v6), (7, jI v7), (8, jI v8), (9, jI r4.1), (10, jI r4.1), (11, jI (jW (v11 + 1)))]) rfl ?_
            exact ih v1 v3 v6 v7 v8 r4.1 r4.1 (jW (v11 + 1)) r4.2 _ hf hq
      · refine B_blk B jlkX8_ok jcl_SKF [.iinc 11 1, .goto (-76)] (by decide +kernel) (ls' := [(0, jR 66), (1, jI v1), (3, jI v3), (6, jI v6), (7, jI v7), (8, jI v8), (9, jI v9), (10, jI v10), (11, jI (jW (v11 + 1)))]) (st' := []) rfl (p1 := 64) rfl ?_
        exact ih v1 v3 v6 v7 v8 v9 v10 (jW (v11 + 1)) m _ hf hq
theorem t_X8_leastEnd_4 {l : Launch} {G : jG} (hl : l.stackTraces = false) {a0 : Int} {a1 : Int} {a2 : Int} {a3 : Int} {a4 : Int} {a5 : Int} {m : jMu} {r : (Int × jMu)} (hf : fr_X8_leastEnd 4 a0 a1 a2 a3 a4 a5 m = some r) : jCt l G yX8_leastEnd (.code yX8_leastEnd cX8_leastEnd 14 (some .int) :: jWG) rm_X8_leastEnd_4 [jR 66, jI a0, jI a1, jI a2, jI a3, jI a4, jI a5] SKF m (.inl (some (jI r.1))) SKF r.2 := by
  rw [fr_X8_leastEnd] at hf
  unfold f_X8_leastEnd at hf
  refine J_start (ls0 := [(0, jR 66), (1, jI a0), (2, jI a1), (3, jI a2), (4, jI a3), (5, jI a4), (6, jI a5)]) (by decide +kernel) hl (Nat.le_of_ble_eq_true rfl) rfl fun X C hN hn hR hr hnm hno hq => ?_
  have B : jB X cX8_leastEnd RX8 14 SKF.length rm_X8_leastEnd_4 (some .int) := ⟨C, hN, Nat.le_of_eq hn, hR, hr⟩
  refine B_blk B jlkX8_ok jcl_SKF [.aload_n 0, .iload_n 3, .iload_n 1, .aload_n 0, .iload_n 3, .iload 4] (by decide +kernel) (ls' := [(0, jR 66), (1, jI a0), (2, jI a1), (3, jI a2), (4, jI a3), (5, jI a4), (6, jI a5)]) (st' := [jI a3, jI a2, jR 66, jI a0, jI a2, jR 66]) rfl (p1 := 7) rfl ?_
  obtain ⟨r1, h1, hf⟩ := jbd hf
  refine B_callV B (Nat.le_refl _) (μ' := m) (k' := 0) (n' := 0) ca_X8_firstMoment in_X8_firstMoment se_X8_firstMoment lk_X8_85 (t_X8_firstMoment B.tr h1) (Nat.le_refl _) rfl rfl rfl (rest := [jI a0, jI a2, jR 66]) rfl rfl (Nat.le_of_ble_eq_true rfl) (by decide +kernel) rfl rfl (st' := [jI r1, jI a0, jI a2, jR 66]) rfl ?_
  obtain ⟨r2, h2, hf⟩ := jbd hf
  refine B_callV B (Nat.le_refl _) (μ' := r2.2) (k' := 0) (n' := 0) ca_X8_workEnd in_X8_workEnd se_X8_workEnd lk_X8_88 (t_X8_workEnd B.tr h2) (Nat.le_refl _) rfl rfl rfl (rest := []) rfl rfl (Nat.le_of_ble_eq_true rfl) (by decide +kernel) rfl rfl (st' := [jI r2.1]) rfl ?_
  refine B_blk B jlkX8_ok jcl_SKF [.istore 7, .iload 7, .iconst (-1)] (by decide +kernel) (ls' := [(0, jR 66), (1, jI a0), (2, jI a1), (3, jI a2), (4, jI a3), (5, jI a4), (6, jI a5), (7, jI r2.1)]) (st' := [jI (-1), jI r2.1]) rfl (p1 := 18) rfl ?_
  refine J_icmp_eq B.1 (off := 17) (tgt := 35) (by decide +kernel) (by decide) hf (fun hf => ?_) (fun hf => ?_)
  · refine B_blk B jlkX8_ok jcl_SKF [.iconst (-1)] (by decide +kernel) (ls' := [(0, jR 66), (1, jI a0), (2, jI a1), (3, jI a2), (4, jI a3), (5, jI a4), (6, jI a5), (7, jI r2.1)]) (st' := [jI (-1)]) rfl (p1 := 36) rfl ?_
    cases hf
    exact B_retI B hq rfl (Nat.le_of_ble_eq_true rfl) (Nat.le_of_ble_eq_true rfl) (by decide +kernel)
  · refine B_blk B jlkX8_ok jcl_SKF [.iload 7, .iload 5] (by decide +kernel) (ls' := [(0, jR 66), (1, jI a0), (2, jI a1), (3, jI a2), (4, jI a3), (5, jI a4), (6, jI a5), (7, jI r2.1)]) (st' := [jI a4, jI r2.1]) rfl (p1 := 25) rfl ?_
    refine J_icmp_ge B.1 (off := 10) (tgt := 35) (by decide +kernel) (by decide) hf (fun hf => ?_) (fun hf => ?_)
    · refine B_blk B jlkX8_ok jcl_SKF [.iconst (-1)] (by decide +kernel) (ls' := [(0, jR 66), (1, jI a0), (2, jI a1), (3, jI a2), (4, jI a3), (5, jI a4), (6, jI a5), (7, jI r2.1)]) (st' := [jI (-1)]) rfl (p1 := 36) rfl ?_
      cases hf
      exact B_retI B hq rfl (Nat.le_of_ble_eq_true rfl) (Nat.le_of_ble_eq_true rfl) (by decide +kernel)
    · refine B_blk B jlkX8_ok jcl_SKF [.iload 6, .bipush 6] (by decide +kernel) (ls' := [(0, jR 66), (1, jI a0), (2, jI a1), (3, jI a2), (4, jI a3), (5, jI a4), (6, jI a5), (7, jI r2.1)]) (st' := [jI 6, jI a5]) rfl (p1 := 32) rfl ?_
      refine J_icmp_le B.1 (off := 5) (tgt := 37) (by decide +kernel) (by decide) hf (fun hf => ?_) (fun hf => ?_)
      · refine B_blk B jlkX8_ok jcl_SKF [.iload_n 2, .iconst 1, .iload_n 3, .ishl, .iconst (-1), .ixor, .iand, .istore 8, .iload 8] (by decide +kernel) (ls' := [(0, jR 66), (1, jI a0), (2, jI a1), (3, jI a2), (4, jI a3), (5, jI a4), (6, jI a5), (7, jI r2.1), (8, jI (jAn a1 (jXo (jSl 1 a2) (-1))))]) (st' := [jI (jAn a1 (jXo (jSl 1 a2) (-1)))]) rfl (p1 := 48) rfl ?_
        refine J_if_ne B.1 (off := 6) (tgt := 54) (by decide +kernel) (by decide) hf (fun hf => ?_) (fun hf => ?_)
        · refine B_blk B jlkX8_ok jcl_SKF [.iload 7] (by decide +kernel) (ls' := [(0, jR 66), (1, jI a0), (2, jI a1), (3, jI a2), (4, jI a3), (5, jI a4), (6, jI a5), (7, jI r2.1), (8, jI (jAn a1 (jXo (jSl 1 a2) (-1))))]) (st' := [jI r2.1]) rfl (p1 := 53) rfl ?_
          cases hf
          exact B_retI B hq rfl (Nat.le_of_ble_eq_true rfl) (Nat.le_of_ble_eq_true rfl) (by decide +kernel)
        · refine B_blk B jlkX8_ok jcl_SKF [.iconst (-1), .istore 9, .iload 5, .istore 10, .iconst 0, .istore 11] (by decide +kernel) (ls' := [(0, jR 66), (1, jI a0), (2, jI a1), (3, jI a2), (4, jI a3), (5, jI a4), (6, jI a5), (7, jI r2.1), (8, jI (jAn a1 (jXo (jSl 1 a2) (-1)))), (9, jI (-1)), (10, jI a4), (11, jI 0)]) (st' := []) rfl (p1 := 64) rfl ?_
          refine J_pick [0, 1, 3, 6, 7, 8, 9, 10, 11] (ls' := [(0, jR 66), (1, jI a0), (3, jI a2), (6, jI a5), (7, jI r2.1), (8, jI (jAn a1 (jXo (jSl 1 a2) (-1)))), (9, jI (-1)), (10, jI a4), (11, jI 0)]) rfl ?_
          exact t_X8_leastEnd_L64_4 B jFU a0 a2 a5 r2.1 (jAn a1 (jXo (jSl 1 a2) (-1))) (-1) a4 0 r2.2 _ hf hq
      · refine B_blk B jlkX8_ok jcl_SKF [.iconst (-1)] (by decide +kernel) (ls' := [(0, jR 66), (1, jI a0), (2, jI a1), (3, jI a2), (4, jI a3), (5, jI a4), (6, jI a5), (7, jI r2.1)]) (st' := [jI (-1)]) rfl (p1 := 36) rfl ?_
        cases hf
        exact B_retI B hq rfl (Nat.le_of_ble_eq_true rfl) (Nat.le_of_ble_eq_true rfl) (by decide +kernel)
