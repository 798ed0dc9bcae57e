/-! printed walks -/
def rm_X9_match : Room := { frames := 10, cells := 2, slots := 12, locals := 160 }
def f_X9_match (a0 : Int) (a1 : Int) (m : jMu) : Option (jOut Int) :=
  (f_X9_isIn a1 0 199).bind fun r1 => jthr (f_X9_needIndex r1 m) fun r2 => (f_X9_isIn a0 0 255).bind fun r3 => jthr (f_X9_needArgument r3 r2.2) fun r4 => (f_X0_nearestBatch a0 a1 r4.2).bind fun r5 => some (.inr (r5, r4.2))
theorem t_X9_match {l : Launch} {G : jG} (hl : l.stackTraces = false) {a0 : Int} {a1 : Int} {m : jMu} {r : (jOut Int)} (hf : f_X9_match a0 a1 m = some r) : jCt l G yX9_match (.code yX9_match cX9_match 3 (some .int) :: jWG) rm_X9_match [jR 0, jI a0, jI a1] SKF m (joI r) SKF (joM r) := by
  unfold f_X9_match at hf
  refine J_start (ls0 := [(0, jR 0), (1, jI a0), (2, jI a1)]) (by decide +kernel) hl (Nat.le_of_ble_eq_true rfl) rfl fun X C hN hn hR hr hnm hno hq => ?_
  have B : jB X cX9_match RX9 3 SKF.length rm_X9_match (some .int) := ⟨C, hN, Nat.le_of_eq hn, hR, hr⟩
  refine B_blk B jlkX9_ok jcl_SKF [.iload_n 2, .iconst 0, .sipush 199] (by decide +kernel) (ls' := [(0, jR 0), (1, jI a0), (2, jI a1)]) (st' := [jI 199, jI 0, jI a1]) rfl (p1 := 5) rfl ?_
  obtain ⟨r1, h1, hf⟩ := jbd hf
  refine B_callS B (Nat.le_refl _) (μ' := m) (k' := 0) (n' := 0) ca_X9_isIn sa_X9_isIn lk_X9_93 (t_X9_isIn B.tr jcl_SKF h1) (Nat.le_refl _) rfl (rest := []) rfl rfl (Nat.le_of_ble_eq_true rfl) (by decide +kernel) rfl rfl (st' := [jI r1]) rfl ?_
  rcases jthr_s hf with ⟨e2, h2, hf⟩ | ⟨r2, h2, hf⟩
  · cases hf
    exact B_callST B (Nat.le_refl _) hno hq ca_X9_needIndex sa_X9_needIndex lk_X9_125 (t_X9_needIndex B.tr h2) (Nat.le_refl _) rfl (rest := []) rfl rfl (Nat.le_of_ble_eq_true rfl) (by decide +kernel) (Nat.le_of_ble_eq_true rfl) (Nat.le_of_ble_eq_true rfl)
  · refine B_callS B (Nat.le_refl _) (μ' := r2.2) (k' := 1) (n' := 6) ca_X9_needIndex sa_X9_needIndex lk_X9_125 (t_X9_needIndex B.tr h2) (Nat.le_refl _) rfl (rest := []) rfl rfl (Nat.le_of_ble_eq_true rfl) (by decide +kernel) rfl rfl (st' := []) rfl ?_
    refine B_blk B jlkX9_ok jcl_SKF [.iload_n 1, .iconst 0, .sipush 255] (by decide +kernel) (ls' := [(0, jR 0), (1, jI a0), (2, jI a1)]) (st' := [jI 255, jI 0, jI a0]) rfl (p1 := 16) rfl ?_
    obtain ⟨r3, h3, hf⟩ := jbd hf
    refine B_callS B (Nat.le_refl _) (μ' := r2.2) (k' := 1) (n' := 6) ca_X9_isIn sa_X9_isIn lk_X9_93 (t_X9_isIn B.tr jcl_SKF h3) (Nat.le_refl _) rfl (rest := []) rfl rfl (Nat.le_of_ble_eq_true rfl) (by decide +kernel) rfl rfl (st' := [jI r3]) rfl ?_
    rcases jthr_s hf with ⟨e4, h4, hf⟩ | ⟨r4, h4, hf⟩
    · cases hf
      exact B_callST B (Nat.le_refl _) hno hq ca_X9_needArgument sa_X9_needArgument lk_X9_97 (t_X9_needArgument B.tr h4) (Nat.le_refl _) rfl (rest := []) rfl rfl (Nat.le_of_ble_eq_true rfl) (by decide +kernel) (Nat.le_of_ble_eq_true rfl) (Nat.le_of_ble_eq_true rfl)
    · refine B_callS B (Nat.le_refl _) (μ' := r4.2) (k' := 2) (n' := 12) ca_X9_needArgument sa_X9_needArgument lk_X9_97 (t_X9_needArgument B.tr h4) (Nat.le_refl _) rfl (rest := []) rfl rfl (Nat.le_of_ble_eq_true rfl) (by decide +kernel) rfl rfl (st' := []) rfl ?_
      refine B_blk B jlkX9_ok jcl_SKF [.aload_n 0, .getfield 56, .iload_n 1, .iload_n 2] (by decide +kernel) (ls' := [(0, jR 0), (1, jI a0), (2, jI a1)]) (st' := [jI a1, jI a0, jR 70]) rfl (p1 := 28) rfl ?_
      obtain ⟨r5, h5, hf⟩ := jbd hf
      refine B_callV B (Nat.le_refl _) (μ' := r4.2) (k' := 2) (n' := 12) ca_X0_nearestBatch in_X0_nearestBatch se_X0_nearestBatch lk_X9_283 (t_X0_nearestBatch B.tr h5) (Nat.le_refl _) rfl rfl rfl (rest := []) rfl rfl (Nat.le_of_ble_eq_true rfl) (by decide +kernel) rfl rfl (st' := [jI r5]) rfl ?_
      cases hf
      exact B_retI B hq rfl (Nat.le_of_ble_eq_true rfl) (Nat.le_of_ble_eq_true rfl) (by decide +kernel)

def rm_X9_bolt : Room := { frames := 9, cells := 1, slots := 6, locals := 120 }
def f_X9_bolt_J30 (v1 : Int) (v2 : Int) (s0 : Int) (m : jMu) : Option (jOut Int) :=
  jthr (f_X9_needIndex s0 m) fun r2 => (f_X5_hasRoom 28 29 60 r2.2).bind fun r3 => (if r3 = 0 then some (.inr ((-1), r2.2)) else (f_X5_addRow 28 29 60 r2.2).bind fun r4 => (f_X5_set 28 29 60 r4.1 0 v1 r4.2).bind fun r5 => (f_X5_set 28 29 60 r4.1 1 v2 r5).bind fun r6 => (f_X5_size 28 29 60 r6).bind fun r7 => some (.inr (r7, r6)))
def f_X9_bolt_J29 (v1 : Int) (v2 : Int) (m : jMu) : Option (jOut Int) :=
  f_X9_bolt_J30 v1 v2 0 m
def f_X9_bolt (a0 : Int) (a1 : Int) (m : jMu) : Option (jOut Int) :=
  (f_X5_has 4 5 80 a0 m).bind fun r1 => (if r1 = 0 then f_X9_bolt_J29 a0 a1 m else (f_X9_isIn a1 0 199).bind fun r8 => (if r8 = 0 then f_X9_bolt_J29 a0 a1 m else f_X9_bolt_J30 a0 a1 1 m))
theorem t_X9_bolt_J30 {X : jX} (B : jB X cX9_bolt RX9 4 SKF.length rm_X9_bolt (some .int)) (hno : ∀ x ∈ (xc X).exceptionTable.toList, False) (v1 : Int) (v2 : Int) (s0 : Int) (m : jMu) (r : (jOut Int)) (hf : f_X9_bolt_J30 v1 v2 s0 m = some r) (hq : jQ X (joI r) SKF (joM r) rm_X9_bolt.cells rm_X9_bolt.slots) : J X SKF m 0 0 30 [(0, jR 0), (1, jI v1), (2, jI v2)] [jI s0] := by
  unfold f_X9_bolt_J30 at hf
  rcases jthr_s hf with ⟨e2, h2, hf⟩ | ⟨r2, h2, hf⟩
  · cases hf
    exact B_callST B (Nat.le_refl _) hno hq ca_X9_needIndex sa_X9_needIndex lk_X9_125 (t_X9_needIndex B.tr h2) (Nat.le_refl _) rfl (rest := []) rfl rfl (Nat.le_of_ble_eq_true rfl) (by decide +kernel) (Nat.le_of_ble_eq_true rfl) (Nat.le_of_ble_eq_true rfl)
  · refine B_callS B (Nat.le_refl _) (μ' := r2.2) (k' := 1) (n' := 6) ca_X9_needIndex sa_X9_needIndex lk_X9_125 (t_X9_needIndex B.tr h2) (Nat.le_refl _) rfl (rest := []) rfl rfl (Nat.le_of_ble_eq_true rfl) (by decide +kernel) rfl rfl (st' := []) rfl ?_
    refine B_blk B jlkX9_ok jcl_SKF [.aload_n 0, .getfield 20, .getfield 286] (by decide +kernel) (ls' := [(0, jR 0), (1, jI v1), (2, jI v2)]) (st' := [jR 28]) rfl (p1 := 40) rfl ?_
    obtain ⟨r3, h3, hf⟩ := jbd hf
    refine B_callV B (Nat.le_refl _) (μ' := r2.2) (k' := 1) (n' := 6) ca_X5_hasRoom in_X5_hasRoom se_X5_hasRoom lk_X9_105 (t_X5_hasRoom B.tr jcl_SKF ⟨rfl, rfl, by decide⟩ h3) (Nat.le_refl _) rfl rfl rfl (rest := []) rfl rfl (Nat.le_of_ble_eq_true rfl) (by decide +kernel) rfl rfl (st' := [jI r3]) rfl ?_
    refine J_if_ne B.1 (off := 5) (tgt := 48) (by decide +kernel) (by decide) hf (fun hf => ?_) (fun hf => ?_)
    · refine B_blk B jlkX9_ok jcl_SKF [.iconst (-1)] (by decide +kernel) (ls' := [(0, jR 0), (1, jI v1), (2, jI v2)]) (st' := [jI (-1)]) rfl (p1 := 47) rfl ?_
      cases hf
      exact B_retI B hq rfl (Nat.le_of_ble_eq_true rfl) (Nat.le_of_ble_eq_true rfl) (by decide +kernel)
    · refine B_blk B jlkX9_ok jcl_SKF [.aload_n 0, .getfield 20, .getfield 286] (by decide +kernel) (ls' := [(0, jR 0), (1, jI v1), (2, jI v2)]) (st' := [jR 28]) rfl (p1 := 55) rfl ?_
      obtain ⟨r4, h4, hf⟩ := jbd hf
      refine B_callV B (Nat.le_refl _) (μ' := r4.2) (k' := 1) (n' := 6) ca_X5_addRow in_X5_addRow se_X5_addRow lk_X9_114 (t_X5_addRow B.tr jcl_SKF ⟨rfl, rfl, by decide⟩ h4) (Nat.le_refl _) rfl rfl rfl (rest := []) rfl rfl (Nat.le_of_ble_eq_true rfl) (by decide +kernel) rfl rfl (st' := [jI r4.1]) rfl ?_
      refine B_blk B jlkX9_ok jcl_SKF [.istore_n 3, .aload_n 0, .getfield 20, .getfield 286, .iload_n 3, .iconst 0, .iload_n 1] (by decide +kernel) (ls' := [(0, jR 0), (1, jI v1), (2, jI v2), (3, jI r4.1)]) (st' := [jI v1, jI 0, jI r4.1, jR 28]) rfl (p1 := 69) rfl ?_
      obtain ⟨r5, h5, hf⟩ := jbd hf
      refine B_callV B (Nat.le_refl _) (μ' := r5) (k' := 1) (n' := 6) ca_X5_set in_X5_set se_X5_set lk_X9_117 (t_X5_set B.tr jcl_SKF ⟨rfl, rfl, by decide⟩ h5) (Nat.le_refl _) rfl rfl rfl (rest := []) rfl rfl (Nat.le_of_ble_eq_true rfl) (by decide +kernel) rfl rfl (st' := []) rfl ?_
      refine B_blk B jlkX9_ok jcl_SKF [.aload_n 0, .getfield 20, .getfield 286, .iload_n 3, .iconst 1, .iload_n 2] (by decide +kernel) (ls' := [(0, jR 0), (1, jI v1), (2, jI v2), (3, jI r4.1)]) (st' := [jI v2, jI 1, jI r4.1, jR 28]) rfl (p1 := 82) rfl ?_
      obtain ⟨r6, h6, hf⟩ := jbd hf
      refine B_callV B (Nat.le_refl _) (μ' := r6) (k' := 1) (n' := 6) ca_X5_set in_X5_set se_X5_set lk_X9_117 (t_X5_set B.tr jcl_SKF ⟨rfl, rfl, by decide⟩ h6) (Nat.le_refl _) rfl rfl rfl (rest := []) rfl rfl (Nat.le_of_ble_eq_true rfl) (by decide +kernel) rfl rfl (st' := []) rfl ?_
      refine B_blk B jlkX9_ok jcl_SKF [.aload_n 0, .getfield 20, .getfield 286] (by decide +kernel) (ls' := [(0, jR 0), (1, jI v1), (2, jI v2), (3, jI r4.1)]) (st' := [jR 28]) rfl (p1 := 92) rfl ?_
      obtain ⟨r7, h7, hf⟩ := jbd hf
      refine B_callV B (Nat.le_refl _) (μ' := r6) (k' := 1) (n' := 6) ca_X5_size in_X5_size se_X5_size lk_X9_140 (t_X5_size B.tr jcl_SKF ⟨rfl, rfl, by decide⟩ h7) (Nat.le_refl _) rfl rfl rfl (rest := []) rfl rfl (Nat.le_of_ble_eq_true rfl) (by decide +kernel) rfl rfl (st' := [jI r7]) rfl ?_
      cases hf
      exact B_retI B hq rfl (Nat.le_of_ble_eq_true rfl) (Nat.le_of_ble_eq_true rfl) (by decide +kernel)
theorem t_X9_bolt_J29 {X : jX} (B : jB X cX9_bolt RX9 4 SKF.length rm_X9_bolt (some .int)) (hno : ∀ x ∈ (xc X).exceptionTable.toList, False) (v1 : Int) (v2 : Int) (m : jMu) (r : (jOut Int)) (hf : f_X9_bolt_J29 v1 v2 m = some r) (hq : jQ X (joI r) SKF (joM r) rm_X9_bolt.cells rm_X9_bolt.slots) : J X SKF m 0 0 29 [(0, jR 0), (1, jI v1), (2, jI v2)] [] := by
  unfold f_X9_bolt_J29 at hf
  refine B_blk B jlkX9_ok jcl_SKF [.iconst 0] (by decide +kernel) (ls' := [(0, jR 0), (1, jI v1), (2, jI v2)]) (st' := [jI 0]) rfl (p1 := 30) rfl ?_
  exact t_X9_bolt_J30 B hno v1 v2 0 m _ hf hq
theorem t_X9_bolt {l : Launch} {G : jG} (hl : l.stackTraces = false) {a0 : Int} {a1 : Int} {m : jMu} {r : (jOut Int)} (hf : f_X9_bolt a0 a1 m = some r) : jCt l G yX9_bolt (.code yX9_bolt cX9_bolt 4 (some .int) :: jWG) rm_X9_bolt [jR 0, jI a0, jI a1] SKF m (joI r) SKF (joM r) := by
  unfold f_X9_bolt at hf
  refine J_start (ls0 := [(0, jR 0), (1, jI a0), (2, jI a1)]) (by decide +kernel) hl (Nat.le_of_ble_eq_true rfl) rfl fun X C hN hn hR hr hnm hno hq => ?_
  have B : jB X cX9_bolt RX9 4 SKF.length rm_X9_bolt (some .int) := ⟨C, hN, Nat.le_of_eq hn, hR, hr⟩
  refine B_blk B jlkX9_ok jcl_SKF [.aload_n 0, .getfield 20, .getfield 101, .iload_n 1] (by decide +kernel) (ls' := [(0, jR 0), (1, jI a0), (2, jI a1)]) (st' := [jI a0, jR 4]) rfl (p1 := 8) rfl ?_
  obtain ⟨r1, h1, hf⟩ := jbd hf
  refine B_callV B (Nat.le_refl _) (μ' := m) (k' := 0) (n' := 0) ca_X5_has in_X5_has se_X5_has lk_X9_143 (t_X5_has B.tr jcl_SKF ⟨rfl, rfl, by decide⟩ h1) (Nat.le_refl _) rfl rfl rfl (rest := []) rfl rfl (Nat.le_of_ble_eq_true rfl) (by decide +kernel) rfl rfl (st' := [jI r1]) rfl ?_
  refine J_if_eq B.1 (off := 18) (tgt := 29) (by decide +kernel) (by decide) hf (fun hf => ?_) (fun hf => ?_)
  · exact t_X9_bolt_J29 B hno a0 a1 m _ hf hq
  · refine B_blk B jlkX9_ok jcl_SKF [.iload_n 2, .iconst 0, .sipush 199] (by decide +kernel) (ls' := [(0, jR 0), (1, jI a0), (2, jI a1)]) (st' := [jI 199, jI 0, jI a1]) rfl (p1 := 19) rfl ?_
    obtain ⟨r8, h8, hf⟩ := jbd hf
    refine B_callS B (Nat.le_refl _) (μ' := m) (k' := 0) (n' := 0) ca_X9_isIn sa_X9_isIn lk_X9_93 (t_X9_isIn B.tr jcl_SKF h8) (Nat.le_refl _) rfl (rest := []) rfl rfl (Nat.le_of_ble_eq_true rfl) (by decide +kernel) rfl rfl (st' := [jI r8]) rfl ?_
    refine J_if_eq B.1 (off := 7) (tgt := 29) (by decide +kernel) (by decide) hf (fun hf => ?_) (fun hf => ?_)
    · exact t_X9_bolt_J29 B hno a0 a1 m _ hf hq
    · refine B_blk B jlkX9_ok jcl_SKF [.iconst 1, .goto 4] (by decide +kernel) (ls' := [(0, jR 0), (1, jI a0), (2, jI a1)]) (st' := [jI 1]) rfl (p1 := 30) rfl ?_
      exact t_X9_bolt_J30 B hno a0 a1 1 m _ hf hq

def rm_X0_boltsFound : Room := { frames := 4, cells := 0, slots := 0, locals := 87 }
def f_X0_boltsFound_L15 : Nat → Int → Int → Int → Int → Int → jMu → Option Int
  | 0, _, _, _, _, _, _ => none
  | q + 1, v1, v2, v3, v5, v6, m => (f_X5_size 28 29 60 m).bind fun r1 => (if r1 ≤ v6 then some v5 else (f_X5_get 28 29 60 v6 1 m).bind fun r2 => (f_X5_get 28 29 60 v6 0 m).bind fun r3 => (if r3 = v1 then (if r2 < v2 then f_X0_boltsFound_L15 q v1 v2 v3 v5 (jW (v6 + 1)) m else (if v3 < r2 then f_X0_boltsFound_L15 q v1 v2 v3 v5 (jW (v6 + 1)) m else f_X0_boltsFound_L15 q v1 v2 v3 (jW (v5 + 1)) (jW (v6 + 1)) m)) else f_X0_boltsFound_L15 q v1 v2 v3 v5 (jW (v6 + 1)) m))
def f_X0_boltsFound (a0 : Int) (a1 : Int) (a2 : Int) (m : jMu) : Option Int :=
  f_X0_boltsFound_L15 jFU a0 a1 a2 0 0 m
theorem t_X0_boltsFound_L15 {X : jX} (B : jB X cX0_boltsFound RX0 8 SKF.length rm_X0_boltsFound (some .int)) : ∀ (q : Nat) (v1 : Int) (v2 : Int) (v3 : Int) (v5 : Int) (v6 : Int) (m : jMu) (r : Int), f_X0_boltsFound_L15 q v1 v2 v3 v5 v6 m = some r → jQ X (.inl (some (jI r))) SKF m rm_X0_boltsFound.cells rm_X0_boltsFound.slots → J X SKF m 0 0 15 [(1, jI v1), (2, jI v2), (3, jI v3), (4, jR 28), (5, jI v5), (6, jI v6)] [] := by
  intro q
  induction q with
  | zero =>
    intro v1 v2 v3 v5 v6 m r hf
    rw [f_X0_boltsFound_L15] at hf
    cases hf
  | succ q ih =>
    intro v1 v2 v3 v5 v6 m r hf hq
    rw [f_X0_boltsFound_L15] at hf
    refine B_blk B jlkX0_ok jcl_SKF [.iload 6, .aload 4] (by decide +kernel) (ls' := [(1, jI v1), (2, jI v2), (3, jI v3), (4, jR 28), (5, jI v5), (6, jI v6)]) (st' := [jR 28, jI v6]) rfl (p1 := 19) rfl ?_
    obtain ⟨r1, h1, hf⟩ := jbd hf
    refine B_callV B (Nat.le_refl _) (μ' := m) (k' := 0) (n' := 0) ca_X5_size in_X5_size se_X5_size lk_X0_29 (t_X5_size B.tr jcl_SKF ⟨rfl, rfl, by decide⟩ h1) (Nat.le_refl _) rfl rfl rfl (rest := [jI v6]) rfl rfl (Nat.le_of_ble_eq_true rfl) (by decide +kernel) rfl rfl (st' := [jI r1, jI v6]) rfl ?_
    refine J_icmp_ge B.1 (off := 46) (tgt := 68) (by decide +kernel) (by decide) hf (fun hf => ?_) (fun hf => ?_)
    · refine B_blk B jlkX0_ok jcl_SKF [.iload 5] (by decide +kernel) (ls' := [(1, jI v1), (2, jI v2), (3, jI v3), (4, jR 28), (5, jI v5), (6, jI v6)]) (st' := [jI v5]) rfl (p1 := 70) rfl ?_
      cases hf
      exact B_retI B hq rfl (Nat.le_of_ble_eq_true rfl) (Nat.le_of_ble_eq_true rfl) (by decide +kernel)
    · refine B_blk B jlkX0_ok jcl_SKF [.aload 4, .iload 6, .iconst 1] (by decide +kernel) (ls' := [(1, jI v1), (2, jI v2), (3, jI v3), (4, jR 28), (5, jI v5), (6, jI v6)]) (st' := [jI 1, jI v6, jR 28]) rfl (p1 := 30) rfl ?_
      obtain ⟨r2, h2, hf⟩ := jbd hf
      refine B_callV B (Nat.le_refl _) (μ' := m) (k' := 0) (n' := 0) ca_X5_get in_X5_get se_X5_get lk_X0_35 (t_X5_get B.tr jcl_SKF ⟨rfl, rfl, by decide⟩ h2) (Nat.le_refl _) rfl rfl rfl (rest := []) rfl rfl (Nat.le_of_ble_eq_true rfl) (by decide +kernel) rfl rfl (st' := [jI r2]) rfl ?_
      refine B_blk B jlkX0_ok jcl_SKF [.istore 7, .aload 4, .iload 6, .iconst 0] (by decide +kernel) (ls' := [(1, jI v1), (2, jI v2), (3, jI v3), (4, jR 28), (5, jI v5), (6, jI v6), (7, jI r2)]) (st' := [jI 0, jI v6, jR 28]) rfl (p1 := 40) rfl ?_
      obtain ⟨r3, h3, hf⟩ := jbd hf
      refine B_callV B (Nat.le_refl _) (μ' := m) (k' := 0) (n' := 0) ca_X5_get in_X5_get se_X5_get lk_X0_35 (t_X5_get B.tr jcl_SKF ⟨rfl, rfl, by decide⟩ h3) (Nat.le_refl _) rfl rfl rfl (rest := []) rfl rfl (Nat.le_of_ble_eq_true rfl) (by decide +kernel) rfl rfl (st' := [jI r3]) rfl ?_
      refine B_blk B jlkX0_ok jcl_SKF [.iload_n 1] (by decide +kernel) (ls' := [(1, jI v1), (2, jI v2), (3, jI v3), (4, jR 28), (5, jI v5), (6, jI v6), (7, jI r2)]) (st' := [jI v1, jI r3]) rfl (p1 := 44) rfl ?_
      refine J_icmp_ne B.1 (off := 18) (tgt := 62) (by decide +kernel) (by decide) hf (fun hf => ?_) (fun hf => ?_)
      · refine B_blk B jlkX0_ok jcl_SKF [.iload 7, .iload_n 2] (by decide +kernel) (ls' := [(1, jI v1), (2, jI v2), (3, jI v3), (4, jR 28), (5, jI v5), (6, jI v6), (7, jI r2)]) (st' := [jI v2, jI r2]) rfl (p1 := 50) rfl ?_
        refine J_icmp_lt B.1 (off := 12) (tgt := 62) (by decide +kernel) (by decide) hf (fun hf => ?_) (fun hf => ?_)
        · refine B_blk B jlkX0_ok jcl_SKF [.iinc 6 1, .goto (-50)] (by decide +kernel) (ls' := [(1, jI v1), (2, jI v2), (3, jI v3), (4, jR 28), (5, jI v5), (6, jI (jW (v6 + 1))), (7, jI r2)]) (st' := []) rfl (p1 := 15) rfl ?_
          refine J_pick [0, 1, 2, 3, 4, 5] (ls' := [(1, jI v1), (2, jI v2), (3, jI v3), (4, jR 28), (5, jI v5), (6, jI (jW (v6 + 1)))]) rfl ?_
          exact ih v1 v2 v3 v5 (jW (v6 + 1)) m _ hf hq
        · refine B_blk B jlkX0_ok jcl_SKF [.iload 7, .iload_n 3] (by decide +kernel) (ls' := [(1, jI v1), (2, jI v2), (3, jI v3), (4, jR 28), (5, jI v5), (6, jI v6), (7, jI r2)]) (st' := [jI v3, jI r2]) rfl (p1 := 56) rfl ?_
          refine J_icmp_gt B.1 (off := 6) (tgt := 62) (by decide +kernel) (by decide) hf (fun hf => ?_) (fun hf => ?_)
          · refine B_blk B jlkX0_ok jcl_SKF [.iinc 6 1, .goto (-50)] (by decide +kernel) (ls' := [(1, jI v1), (2, jI v2), (3, jI v3), (4, jR 28), (5, jI v5), (6, jI (jW (v6 + 1))), (7, jI r2)]) (st' := []) rfl (p1 := 15) rfl ?_
            refine J_pick [0, 1, 2, 3, 4, 5] (ls' := [(1, jI v1), (2, jI v2), (3, jI v3), (4, jR 28), (5, jI v5), (6, jI (jW (v6 + 1)))]) rfl ?_
            exact ih v1 v2 v3 v5 (jW (v6 + 1)) m _ hf hq
          · refine B_blk B jlkX0_ok jcl_SKF [.iinc 5 1, .iinc 6 1, .goto (-50)] (by decide +kernel) (ls' := [(1, jI v1), (2, jI v2), (3, jI v3), (4, jR 28), (5, jI (jW (v5 + 1))), (6, jI (jW (v6 + 1))), (7, jI r2)]) (st' := []) rfl (p1 := 15) rfl ?_
            refine J_pick [0, 1, 2, 3, 4, 5] (ls' := [(1, jI v1), (2, jI v2), (3, jI v3), (4, jR 28), (5, jI (jW (v5 + 1))), (6, jI (jW (v6 + 1)))]) rfl ?_
            exact ih v1 v2 v3 (jW (v5 + 1)) (jW (v6 + 1)) m _ hf hq
      · refine B_blk B jlkX0_ok jcl_SKF [.iinc 6 1, .goto (-50)] (by decide +kernel) (ls' := [(1, jI v1), (2, jI v2), (3, jI v3), (4, jR 28), (5, jI v5), (6, jI (jW (v6 + 1))), (7, jI r2)]) (st' := []) rfl (p1 := 15) rfl ?_
        refine J_pick [0, 1, 2, 3, 4, 5] (ls' := [(1, jI v1), (2, jI v2), (3, jI v3), (4, jR 28), (5, jI v5), (6, jI (jW (v6 + 1)))]) rfl ?_
        exact ih v1 v2 v3 v5 (jW (v6 + 1)) m _ hf hq
theorem t_X0_boltsFound {l : Launch} {G : jG} (hl : l.stackTraces = false) {a0 : Int} {a1 : Int} {a2 : Int} {m : jMu} {r : Int} (hf : f_X0_boltsFound a0 a1 a2 m = some r) : jCt l G yX0_boltsFound (.code yX0_boltsFound cX0_boltsFound 8 (some .int) :: jWG) rm_X0_boltsFound [jR 70, jI a0, jI a1, jI a2] SKF m (.inl (some (jI r))) SKF m := by
  unfold f_X0_boltsFound at hf
  refine J_start (ls0 := [(0, jR 70), (1, jI a0), (2, jI a1), (3, jI a2)]) (by decide +kernel) hl (Nat.le_of_ble_eq_true rfl) rfl fun X C hN hn hR hr hnm hno hq => ?_
  have B : jB X cX0_boltsFound RX0 8 SKF.length rm_X0_boltsFound (some .int) := ⟨C, hN, Nat.le_of_eq hn, hR, hr⟩
  refine B_blk B jlkX0_ok jcl_SKF [.aload_n 0, .getfield 9, .getfield 123, .astore 4, .iconst 0, .istore 5, .iconst 0, .istore 6] (by decide +kernel) (ls' := [(0, jR 70), (1, jI a0), (2, jI a1), (3, jI a2), (4, jR 28), (5, jI 0), (6, jI 0)]) (st' := []) rfl (p1 := 15) rfl ?_
  refine J_pick [1, 2, 3, 4, 5, 6] (ls' := [(1, jI a0), (2, jI a1), (3, jI a2), (4, jR 28), (5, jI 0), (6, jI 0)]) rfl ?_
  exact t_X0_boltsFound_L15 B jFU a0 a1 a2 0 0 m _ hf hq

def rm_X9_finds : Room := { frames := 11, cells := 3, slots := 18, locals := 141 }
def f_X9_finds (a0 : Int) (a1 : Int) (a2 : Int) (m : jMu) : Option (jOut Int) :=
  (f_X5_has 4 5 80 a0 m).bind fun r1 => jthr (f_X9_needIndex r1 m) fun r2 => jthr (f_X9_needDays a1 a2 r2.2) fun r3 => (if a2 < a1 then jthr (f_X9_needArgument 0 r3.2) fun r4 => (f_X0_boltsFound a0 a1 a2 r4.2).bind fun r5 => some (.inr (r5, r4.2)) else jthr (f_X9_needArgument 1 r3.2) fun r6 => (f_X0_boltsFound a0 a1 a2 r6.2).bind fun r7 => some (.inr (r7, r6.2)))
theorem t_X9_finds {l : Launch} {G : jG} (hl : l.stackTraces = false) {a0 : Int} {a1 : Int} {a2 : Int} {m : jMu} {r : (jOut Int)} (hf : f_X9_finds a0 a1 a2 m = some r) : jCt l G yX9_finds (.code yX9_finds cX9_finds 4 (some .int) :: jWG) rm_X9_finds [jR 0, jI a0, jI a1, jI a2] SKF m (joI r) SKF (joM r) := by
  unfold f_X9_finds at hf
  refine J_start (ls0 := [(0, jR 0), (1, jI a0), (2, jI a1), (3, jI a2)]) (by decide +kernel) hl (Nat.le_of_ble_eq_true rfl) rfl fun X C hN hn hR hr hnm hno hq => ?_
  have B : jB X cX9_finds RX9 4 SKF.length rm_X9_finds (some .int) := ⟨C, hN, Nat.le_of_eq hn, hR, hr⟩
  refine B_blk B jlkX9_ok jcl_SKF [.aload_n 0, .getfield 20, .getfield 101, .iload_n 1] (by decide +kernel) (ls' := [(0, jR 0), (1, jI a0), (2, jI a1), (3, jI a2)]) (st' := [jI a0, jR 4]) rfl (p1 := 8) rfl ?_
  obtain ⟨r1, h1, hf⟩ := jbd hf
  refine B_callV B (Nat.le_refl _) (μ' := m) (k' := 0) (n' := 0) ca_X5_has in_X5_has se_X5_has lk_X9_143 (t_X5_has B.tr jcl_SKF ⟨rfl, rfl, by decide⟩ h1) (Nat.le_refl _) rfl rfl rfl (rest := []) rfl rfl (Nat.le_of_ble_eq_true rfl) (by decide +kernel) rfl rfl (st' := [jI r1]) rfl ?_
  rcases jthr_s hf with ⟨e2, h2, hf⟩ | ⟨r2, h2, hf⟩
  · cases hf
    exact B_callST B (Nat.le_refl _) hno hq ca_X9_needIndex sa_X9_needIndex lk_X9_125 (t_X9_needIndex B.tr h2) (Nat.le_refl _) rfl (rest := []) rfl rfl (Nat.le_of_ble_eq_true rfl) (by decide +kernel) (Nat.le_of_ble_eq_true rfl) (Nat.le_of_ble_eq_true rfl)
  · refine B_callS B (Nat.le_refl _) (μ' := r2.2) (k' := 1) (n' := 6) ca_X9_needIndex sa_X9_needIndex lk_X9_125 (t_X9_needIndex B.tr h2) (Nat.le_refl _) rfl (rest := []) rfl rfl (Nat.le_of_ble_eq_true rfl) (by decide +kernel) rfl rfl (st' := []) rfl ?_
    refine B_blk B jlkX9_ok jcl_SKF [.iload_n 2, .iload_n 3] (by decide +kernel) (ls' := [(0, jR 0), (1, jI a0), (2, jI a1), (3, jI a2)]) (st' := [jI a2, jI a1]) rfl (p1 := 16) rfl ?_
    rcases jthr_s hf with ⟨e3, h3, hf⟩ | ⟨r3, h3, hf⟩
    · cases hf
      exact B_callST B (Nat.le_refl _) hno hq ca_X9_needDays sa_X9_needDays lk_X9_121 (t_X9_needDays B.tr h3) (Nat.le_refl _) rfl (rest := []) rfl rfl (Nat.le_of_ble_eq_true rfl) (by decide +kernel) (Nat.le_of_ble_eq_true rfl) (Nat.le_of_ble_eq_true rfl)
    · refine B_callS B (Nat.le_refl _) (μ' := r3.2) (k' := 2) (n' := 12) ca_X9_needDays sa_X9_needDays lk_X9_121 (t_X9_needDays B.tr h3) (Nat.le_refl _) rfl (rest := []) rfl rfl (Nat.le_of_ble_eq_true rfl) (by decide +kernel) rfl rfl (st' := []) rfl ?_
      refine B_blk B jlkX9_ok jcl_SKF [.iload_n 2, .iload_n 3] (by decide +kernel) (ls' := [(0, jR 0), (1, jI a0), (2, jI a1), (3, jI a2)]) (st' := [jI a2, jI a1]) rfl (p1 := 21) rfl ?_
      refine J_icmp_gt B.1 (off := 7) (tgt := 28) (by decide +kernel) (by decide) hf (fun hf => ?_) (fun hf => ?_)
      · refine B_blk B jlkX9_ok jcl_SKF [.iconst 0] (by decide +kernel) (ls' := [(0, jR 0), (1, jI a0), (2, jI a1), (3, jI a2)]) (st' := [jI 0]) rfl (p1 := 29) rfl ?_
        rcases jthr_s hf with ⟨e4, h4, hf⟩ | ⟨r4, h4, hf⟩
        · cases hf
          exact B_callST B (Nat.le_refl _) hno hq ca_X9_needArgument sa_X9_needArgument lk_X9_97 (t_X9_needArgument B.tr h4) (Nat.le_refl _) rfl (rest := []) rfl rfl (Nat.le_of_ble_eq_true rfl) (by decide +kernel) (Nat.le_of_ble_eq_true rfl) (Nat.le_of_ble_eq_true rfl)
        · refine B_callS B (Nat.le_refl _) (μ' := r4.2) (k' := 3) (n' := 18) ca_X9_needArgument sa_X9_needArgument lk_X9_97 (t_X9_needArgument B.tr h4) (Nat.le_refl _) rfl (rest := []) rfl rfl (Nat.le_of_ble_eq_true rfl) (by decide +kernel) rfl rfl (st' := []) rfl ?_
          refine B_blk B jlkX9_ok jcl_SKF [.aload_n 0, .getfield 56, .iload_n 1, .iload_n 2, .iload_n 3] (by decide +kernel) (ls' := [(0, jR 0), (1, jI a0), (2, jI a1), (3, jI a2)]) (st' := [jI a2, jI a1, jI a0, jR 70]) rfl (p1 := 39) rfl ?_
          obtain ⟨r5, h5, hf⟩ := jbd hf
          refine B_callV B (Nat.le_refl _) (μ' := r4.2) (k' := 3) (n' := 18) ca_X0_boltsFound in_X0_boltsFound se_X0_boltsFound lk_X9_289 (t_X0_boltsFound B.tr h5) (Nat.le_refl _) rfl rfl rfl (rest := []) rfl rfl (Nat.le_of_ble_eq_true rfl) (by decide +kernel) rfl rfl (st' := [jI r5]) rfl ?_
          cases hf
          exact B_retI B hq rfl (Nat.le_of_ble_eq_true rfl) (Nat.le_of_ble_eq_true rfl) (by decide +kernel)
      · refine B_blk B jlkX9_ok jcl_SKF [.iconst 1, .goto 4] (by decide +kernel) (ls' := [(0, jR 0), (1, jI a0), (2, jI a1), (3, jI a2)]) (st' := [jI 1]) rfl (p1 := 29) rfl ?_
        rcases jthr_s hf with ⟨e6, h6, hf⟩ | ⟨r6, h6, hf⟩
        · cases hf
          exact B_callST B (Nat.le_refl _) hno hq ca_X9_needArgument sa_X9_needArgument lk_X9_97 (t_X9_needArgument B.tr h6) (Nat.le_refl _) rfl (rest := []) rfl rfl (Nat.le_of_ble_eq_true rfl) (by decide +kernel) (Nat.le_of_ble_eq_true rfl) (Nat.le_of_ble_eq_true rfl)
        · refine B_callS B (Nat.le_refl _) (μ' := r6.2) (k' := 3) (n' := 18) ca_X9_needArgument sa_X9_needArgument lk_X9_97 (t_X9_needArgument B.tr h6) (Nat.le_refl _) rfl (rest := []) rfl rfl (Nat.le_of_ble_eq_true rfl) (by decide +kernel) rfl rfl (st' := []) rfl ?_
          refine B_blk B jlkX9_ok jcl_SKF [.aload_n 0, .getfield 56, .iload_n 1, .iload_n 2, .iload_n 3] (by decide +kernel) (ls' := [(0, jR 0), (1, jI a0), (2, jI a1), (3, jI a2)]) (st' := [jI a2, jI a1, jI a0, jR 70]) rfl (p1 := 39) rfl ?_
          obtain ⟨r7, h7, hf⟩ := jbd hf
          refine B_callV B (Nat.le_refl _) (μ' := r6.2) (k' := 3) (n' := 18) ca_X0_boltsFound in_X0_boltsFound se_X0_boltsFound lk_X9_289 (t_X0_boltsFound B.tr h7) (Nat.le_refl _) rfl rfl rfl (rest := []) rfl rfl (Nat.le_of_ble_eq_true rfl) (by decide +kernel) rfl rfl (st' := [jI r7]) rfl ?_
          cases hf
          exact B_retI B hq rfl (Nat.le_of_ble_eq_true rfl) (Nat.le_of_ble_eq_true rfl) (by decide +kernel)

def rm_X6_hasRoomFor : Room := { frames := 2, cells := 0, slots := 0, locals := 64 }
def f_X6_hasRoomFor (a0 : Int) (m : jMu) : Option Int :=
  (if 400 < jW (m 30 1 + a0) then some 0 else some 1)
theorem t_X6_hasRoomFor {l : Launch} {G : jG} (hl : l.stackTraces = false) {a0 : Int} {m : jMu} {r : Int} (hf : f_X6_hasRoomFor a0 m = some r) : jCt l G yX6_hasRoomFor (.code yX6_hasRoomFor cX6_hasRoomFor 2 (some .boolean) :: jWG) rm_X6_hasRoomFor [jR 30, jI a0] SKF m (.inl (some (jI r))) SKF m := by
  unfold f_X6_hasRoomFor at hf
  refine J_start (ls0 := [(0, jR 30), (1, jI a0)]) (by decide +kernel) hl (Nat.le_of_ble_eq_true rfl) rfl fun X C hN hn hR hr hnm hno hq => ?_
  have B : jB X cX6_hasRoomFor RX6 2 SKF.length rm_X6_hasRoomFor (some .boolean) := ⟨C, hN, Nat.le_of_eq hn, hR, hr⟩
  refine B_blk B jlkX6_ok jcl_SKF [.aload_n 0, .getfield 15, .iload_n 1, .iadd, .sipush 400] (by decide +kernel) (ls' := [(0, jR 30), (1, jI a0)]) (st' := [jI 400, jI (jW (m 30 1 + a0))]) rfl (p1 := 9) rfl ?_
  refine J_icmp_gt B.1 (off := 7) (tgt := 16) (by decide +kernel) (by decide) hf (fun hf => ?_) (fun hf => ?_)
  · refine B_blk B jlkX6_ok jcl_SKF [.iconst 0] (by decide +kernel) (ls' := [(0, jR 30), (1, jI a0)]) (st' := [jI 0]) rfl (p1 := 17) rfl ?_
    cases hf
    exact B_retZ B (Or.inl rfl) hq rfl (Nat.le_of_ble_eq_true rfl) (Nat.le_of_ble_eq_true rfl) (by decide +kernel)
  · refine B_blk B jlkX6_ok jcl_SKF [.iconst 1, .goto 4] (by decide +kernel) (ls' := [(0, jR 30), (1, jI a0)]) (st' := [jI 1]) rfl (p1 := 17) rfl ?_
    cases hf
    exact B_retZ B (Or.inr rfl) hq rfl (Nat.le_of_ble_eq_true rfl) (Nat.le_of_ble_eq_true rfl) (by decide +kernel)

def rm_X6_add : Room := { frames := 2, cells := 0, slots := 0, locals := 64 }
def f_X6_add_L3 : Nat → Int → Int → jMu → Option jMu
  | 0, _, _, _ => none
  | q + 1, v1, v2, m => (if v2 < 0 then some m else (if m 30 1 < 0 then f_X6_add_L3 q v1 (jW (v2 + (-8))) m else (if 400 ≤ m 30 1 then f_X6_add_L3 q v1 (jW (v2 + (-8))) m else (if 0 ≤ m 30 1 ∧ m 30 1 < 400 then (jlt (jup m 31 (m 30 1) (jAn (jUr v1 v2) 255)) fun m1 => (jlt (jup m1 30 1 (jW (m1 30 1 + 1))) fun m2 => f_X6_add_L3 q v1 (jW (v2 + (-8))) m2)) else none))))
def f_X6_add (a0 : Int) (m : jMu) : Option jMu :=
  f_X6_add_L3 jFU a0 24 m
theorem t_X6_add_L3 {X : jX} (B : jB X cX6_add RX6 3 SKF.length rm_X6_add none) : ∀ (q : Nat) (v1 : Int) (v2 : Int) (m : jMu) (r : jMu), f_X6_add_L3 q v1 v2 m = some r → jQ X (.inl none) SKF r rm_X6_add.cells rm_X6_add.slots → J X SKF m 0 0 3 [(0, jR 30), (1, jI v1), (2, jI v2)] [] := by
  intro q
  induction q with
  | zero =>
    intro v1 v2 m r hf
    rw [f_X6_add_L3] at hf
    cases hf
  | succ q ih =>
    intro v1 v2 m r hf hq
    rw [f_X6_add_L3] at hf
    refine B_blk B jlkX6_ok jcl_SKF [.iload_n 2] (by decide +kernel) (ls' := [(0, jR 30), (1, jI v1), (2, jI v2)]) (st' := [jI v2]) rfl (p1 := 4) rfl ?_
    refine J_if_lt B.1 (off := 54) (tgt := 58) (by decide +kernel) (by decide) hf (fun hf => ?_) (fun hf => ?_)
    · cases hf
      exact B_retV B hq rfl (Nat.le_of_ble_eq_true rfl) (Nat.le_of_ble_eq_true rfl) (by decide +kernel)
    · refine B_blk B jlkX6_ok jcl_SKF [.aload_n 0, .getfield 15] (by decide +kernel) (ls' := [(0, jR 30), (1, jI v1), (2, jI v2)]) (st' := [jI (m 30 1)]) rfl (p1 := 11) rfl ?_
      refine J_if_lt B.1 (off := 41) (tgt := 52) (by decide +kernel) (by decide) hf (fun hf => ?_) (fun hf => ?_)
      · refine B_blk B jlkX6_ok jcl_SKF [.iinc 2 (-8), .goto (-52)] (by decide +kernel) (ls' := [(0, jR 30), (1, jI v1), (2, jI (jW (v2 + (-8))))]) (st' := []) rfl (p1 := 3) rfl ?_
        exact ih v1 (jW (v2 + (-8))) m _ hf hq
      · refine B_blk B jlkX6_ok jcl_SKF [.aload_n 0, .getfield 15, .aload_n 0, .getfield 11, .arraylength] (by decide +kernel) (ls' := [(0, jR 30), (1, jI v1), (2, jI v2)]) (st' := [jI 400, jI (m 30 1)]) rfl (p1 := 23) rfl ?_
        refine J_icmp_ge B.1 (off := 29) (tgt := 52) (by decide +kernel) (by decide) hf (fun hf => ?_) (fun hf => ?_)
        · refine B_blk B jlkX6_ok jcl_SKF [.iinc 2 (-8), .goto (-52)] (by decide +kernel) (ls' := [(0, jR 30), (1, jI v1), (2, jI (jW (v2 + (-8))))]) (st' := []) rfl (p1 := 3) rfl ?_
          exact ih v1 (jW (v2 + (-8))) m _ hf hq
        · refine B_blk B jlkX6_ok jcl_SKF [.aload_n 0, .getfield 11, .aload_n 0, .getfield 15, .iload_n 1, .iload_n 2, .iushr, .sipush 255, .iand] (by decide +kernel) (ls' := [(0, jR 30), (1, jI v1), (2, jI v2)]) (st' := [jI (jAn (jUr v1 v2) 255), jI (m 30 1), jR 31]) rfl (p1 := 41) rfl ?_
          obtain ⟨g3, hf⟩ := jgd hf
          refine K_iast (lenI := 400) B rfl rfl g3 (by decide +kernel) ?_
          obtain ⟨m1, hm1, hf⟩ := jlt_s hf
          rw [hm1]
          refine B_blk B jlkX6_ok jcl_SKF [.aload_n 0, .dup, .getfield 15, .iconst 1, .iadd] (by decide +kernel) (ls' := [(0, jR 30), (1, jI v1), (2, jI v2)]) (st' := [jI (jW (m1 30 1 + 1)), jR 30]) rfl (p1 := 49) rfl ?_
          refine K_putI (jI' := 1) B jp_X6_15 rfl rfl rfl (by decide +kernel) ?_
          obtain ⟨m2, hm2, hf⟩ := jlt_s hf
          rw [hm2]
          refine B_blk B jlkX6_ok jcl_SKF [.iinc 2 (-8), .goto (-52)] (by decide +kernel) (ls' := [(0, jR 30), (1, jI v1), (2, jI (jW (v2 + (-8))))]) (st' := []) rfl (p1 := 3) rfl ?_
          exact ih v1 (jW (v2 + (-8))) m2 _ hf hq
theorem t_X6_add {l : Launch} {G : jG} (hl : l.stackTraces = false) {a0 : Int} {m : jMu} {r : jMu} (hf : f_X6_add a0 m = some r) : jCt l G yX6_add (.code yX6_add cX6_add 3 none :: jWG) rm_X6_add [jR 30, jI a0] SKF m (.inl none) SKF r := by
  unfold f_X6_add at hf
  refine J_start (ls0 := [(0, jR 30), (1, jI a0)]) (by decide +kernel) hl (Nat.le_of_ble_eq_true rfl) rfl fun X C hN hn hR hr hnm hno hq => ?_
  have B : jB X cX6_add RX6 3 SKF.length rm_X6_add none := ⟨C, hN, Nat.le_of_eq hn, hR, hr⟩
  refine B_blk B jlkX6_ok jcl_SKF [.bipush 24, .istore_n 2] (by decide +kernel) (ls' := [(0, jR 30), (1, jI a0), (2, jI 24)]) (st' := []) rfl (p1 := 3) rfl ?_
  exact t_X6_add_L3 B jFU a0 24 m _ hf hq

def rm_X9_feed : Room := { frames := 4, cells := 0, slots := 0, locals := 86 }
def f_X9_feed (a0 : Int) (a1 : Int) (a2 : Int) (a3 : Int) (a4 : Int) (m : jMu) : Option (Int × jMu) :=
  (f_X6_hasRoomFor 20 m).bind fun r1 => (if r1 = 0 then some ((-1), m) else (f_X6_add a0 m).bind fun r2 => (f_X6_add a1 r2).bind fun r3 => (f_X6_add a2 r3).bind fun r4 => (f_X6_add a3 r4).bind fun r5 => (f_X6_add a4 r5).bind fun r6 => (f_X6_length r6).bind fun r7 => some (r7, r6))
theorem t_X9_feed {l : Launch} {G : jG} (hl : l.stackTraces = false) {a0 : Int} {a1 : Int} {a2 : Int} {a3 : Int} {a4 : Int} {m : jMu} {r : (Int × jMu)} (hf : f_X9_feed a0 a1 a2 a3 a4 m = some r) : jCt l G yX9_feed (.code yX9_feed cX9_feed 6 (some .int) :: jWG) rm_X9_feed [jR 0, jI a0, jI a1, jI a2, jI a3, jI a4] SKF m (.inl (some (jI r.1))) SKF r.2 := by
  unfold f_X9_feed at hf
  refine J_start (ls0 := [(0, jR 0), (1, jI a0), (2, jI a1), (3, jI a2), (4, jI a3), (5, jI a4)]) (by decide +kernel) hl (Nat.le_of_ble_eq_true rfl) rfl fun X C hN hn hR hr hnm hno hq => ?_
  have B : jB X cX9_feed RX9 6 SKF.length rm_X9_feed (some .int) := ⟨C, hN, Nat.le_of_eq hn, hR, hr⟩
  refine B_blk B jlkX9_ok jcl_SKF [.aload_n 0, .getfield 27, .bipush 20] (by decide +kernel) (ls' := [(0, jR 0), (1, jI a0), (2, jI a1), (3, jI a2), (4, jI a3), (5, jI a4)]) (st' := [jI 20, jR 30]) rfl (p1 := 6) rfl ?_
  obtain ⟨r1, h1, hf⟩ := jbd hf
  refine B_callV B (Nat.le_refl _) (μ' := m) (k' := 0) (n' := 0) ca_X6_hasRoomFor in_X6_hasRoomFor se_X6_hasRoomFor lk_X9_75 (t_X6_hasRoomFor B.tr h1) (Nat.le_refl _) rfl rfl rfl (rest := []) rfl rfl (Nat.le_of_ble_eq_true rfl) (by decide +kernel) rfl rfl (st' := [jI r1]) rfl ?_
  refine J_if_ne B.1 (off := 5) (tgt := 14) (by decide +kernel) (by decide) hf (fun hf => ?_) (fun hf => ?_)
  · refine B_blk B jlkX9_ok jcl_SKF [.iconst (-1)] (by decide +kernel) (ls' := [(0, jR 0), (1, jI a0), (2, jI a1), (3, jI a2), (4, jI a3), (5, jI a4)]) (st' := [jI (-1)]) rfl (p1 := 13) rfl ?_
    cases hf
    exact B_retI B hq rfl (Nat.le_of_ble_eq_true rfl) (Nat.le_of_ble_eq_true rfl) (by decide +kernel)
  · refine B_blk B jlkX9_ok jcl_SKF [.aload_n 0, .getfield 27, .iload_n 1] (by decide +kernel) (ls' := [(0, jR 0), (1, jI a0), (2, jI a1), (3, jI a2), (4, jI a3), (5, jI a4)]) (st' := [jI a0, jR 30]) rfl (p1 := 19) rfl ?_
    obtain ⟨r2, h2, hf⟩ := jbd hf
    refine B_callV B (Nat.le_refl _) (μ' := r2) (k' := 0) (n' := 0) ca_X6_add in_X6_add se_X6_add lk_X9_79 (t_X6_add B.tr h2) (Nat.le_refl _) rfl rfl rfl (rest := []) rfl rfl (Nat.le_of_ble_eq_true rfl) (by decide +kernel) rfl rfl (st' := []) rfl ?_
    refine B_blk B jlkX9_ok jcl_SKF [.aload_n 0, .getfield 27, .iload_n 2] (by decide +kernel) (ls' := [(0, jR 0), (1, jI a0), (2, jI a1), (3, jI a2), (4, jI a3), (5, jI a4)]) (st' := [jI a1, jR 30]) rfl (p1 := 27) rfl ?_
    obtain ⟨r3, h3, hf⟩ := jbd hf
    refine B_callV B (Nat.le_refl _) (μ' := r3) (k' := 0) (n' := 0) ca_X6_add in_X6_add se_X6_add lk_X9_79 (t_X6_add B.tr h3) (Nat.le_refl _) rfl rfl rfl (rest := []) rfl rfl (Nat.le_of_ble_eq_true rfl) (by decide +kernel) rfl rfl (st' := []) rfl ?_
    refine B_blk B jlkX9_ok jcl_SKF [.aload_n 0, .getfield 27, .iload_n 3] (by decide +kernel) (ls' := [(0, jR 0), (1, jI a0), (2, jI a1), (3, jI a2), (4, jI a3), (5, jI a4)]) (st' := [jI a2, jR 30]) rfl (p1 := 35) rfl ?_
    obtain ⟨r4, h4, hf⟩ := jbd hf
    refine B_callV B (Nat.le_refl _) (μ' := r4) (k' := 0) (n' := 0) ca_X6_add in_X6_add se_X6_add lk_X9_79 (t_X6_add B.tr h4) (Nat.le_refl _) rfl rfl rfl (rest := []) rfl rfl (Nat.le_of_ble_eq_true rfl) (by decide +kernel) rfl rfl (st' := []) rfl ?_
    refine B_blk B jlkX9_ok jcl_SKF [.aload_n 0, .getfield 27, .iload 4] (by decide +kernel) (ls' := [(0, jR 0), (1, jI a0), (2, jI a1), (3, jI a2), (4, jI a3), (5, jI a4)]) (st' := [jI a3, jR 30]) rfl (p1 := 44) rfl ?_
    obtain ⟨r5, h5, hf⟩ := jbd hf
    refine B_callV B (Nat.le_refl _) (μ' := r5) (k' := 0) (n' := 0) ca_X6_add in_X6_add se_X6_add lk_X9_79 (t_X6_add B.tr h5) (Nat.le_refl _) rfl rfl rfl (rest := []) rfl rfl (Nat.le_of_ble_eq_true rfl) (by decide +kernel) rfl rfl (st' := []) rfl ?_
    refine B_blk B jlkX9_ok jcl_SKF [.aload_n 0, .getfield 27, .iload 5] (by decide +kernel) (ls' := [(0, jR 0), (1, jI a0), (2, jI a1), (3, jI a2), (4, jI a3), (5, jI a4)]) (st' := [jI a4, jR 30]) rfl (p1 := 53) rfl ?_
    obtain ⟨r6, h6, hf⟩ := jbd hf
    refine B_callV B (Nat.le_refl _) (μ' := r6) (k' := 0) (n' := 0) ca_X6_add in_X6_add se_X6_add lk_X9_79 (t_X6_add B.tr h6) (Nat.le_refl _) rfl rfl rfl (rest := []) rfl rfl (Nat.le_of_ble_eq_true rfl) (by decide +kernel) rfl rfl (st' := []) rfl ?_
    refine B_blk B jlkX9_ok jcl_SKF [.aload_n 0, .getfield 27] (by decide +kernel) (ls' := [(0, jR 0), (1, jI a0), (2, jI a1), (3, jI a2), (4, jI a3), (5, jI a4)]) (st' := [jR 30]) rfl (p1 := 60) rfl ?_
    obtain ⟨r7, h7, hf⟩ := jbd hf
    refine B_callV B (Nat.le_refl _) (μ' := r6) (k' := 0) (n' := 0) ca_X6_length in_X6_length se_X6_length lk_X9_83 (t_X6_length B.tr h7) (Nat.le_refl _) rfl rfl rfl (rest := []) rfl rfl (Nat.le_of_ble_eq_true rfl) (by decide +kernel) rfl rfl (st' := [jI r7]) rfl ?_
    cases hf
    exact B_retI B hq rfl (Nat.le_of_ble_eq_true rfl) (Nat.le_of_ble_eq_true rfl) (by decide +kernel)

def rm_X9_end : Room := { frames := 4, cells := 0, slots := 0, locals := 85 }
def f_X9_end (a0 : Int) (m : jMu) : Option (Int × jMu) :=
  (f_X6_cut a0 m).bind fun r1 => (if r1.1 = 0 ∨ r1.1 = 1 then some (r1.1, r1.2) else none)
theorem t_X9_end {l : Launch} {G : jG} (hl : l.stackTraces = false) {a0 : Int} {m : jMu} {r : (Int × jMu)} (hf : f_X9_end a0 m = some r) : jCt l G yX9_end (.code yX9_end cX9_end 2 (some .boolean) :: jWG) rm_X9_end [jR 0, jI a0] SKF m (.inl (some (jI r.1))) SKF r.2 := by
  unfold f_X9_end at hf
  refine J_start (ls0 := [(0, jR 0), (1, jI a0)]) (by decide +kernel) hl (Nat.le_of_ble_eq_true rfl) rfl fun X C hN hn hR hr hnm hno hq => ?_
  have B : jB X cX9_end RX9 2 SKF.length rm_X9_end (some .boolean) := ⟨C, hN, Nat.le_of_eq hn, hR, hr⟩
  refine B_blk B jlkX9_ok jcl_SKF [.aload_n 0, .getfield 27, .iload_n 1] (by decide +kernel) (ls' := [(0, jR 0), (1, jI a0)]) (st' := [jI a0, jR 30]) rfl (p1 := 5) rfl ?_
  obtain ⟨r1, h1, hf⟩ := jbd hf
  refine B_callV B (Nat.le_refl _) (μ' := r1.2) (k' := 0) (n' := 0) ca_X6_cut in_X6_cut se_X6_cut lk_X9_87 (t_X6_cut B.tr h1) (Nat.le_refl _) rfl rfl rfl (rest := []) rfl rfl (Nat.le_of_ble_eq_true rfl) (by decide +kernel) rfl rfl (st' := [jI r1.1]) rfl ?_
  obtain ⟨gz, hf⟩ := jgd hf
  cases hf
  exact B_retZ B gz hq rfl (Nat.le_of_ble_eq_true rfl) (Nat.le_of_ble_eq_true rfl) (by decide +kernel)

def rm_X9_fault : Room := { frames := 2, cells := 0, slots := 0, locals := 64 }
def f_X9_fault (m : jMu) : Option Int :=
  some (m 0 9)
theorem t_X9_fault {l : Launch} {G : jG} (hl : l.stackTraces = false) {m : jMu} {r : Int} (hf : f_X9_fault m = some r) : jCt l G yX9_fault (.code yX9_fault cX9_fault 1 (some .int) :: jWG) rm_X9_fault [jR 0] SKF m (.inl (some (jI r))) SKF m := by
  unfold f_X9_fault at hf
  refine J_start (ls0 := [(0, jR 0)]) (by decide +kernel) hl (Nat.le_of_ble_eq_true rfl) rfl fun X C hN hn hR hr hnm hno hq => ?_
  have B : jB X cX9_fault RX9 1 SKF.length rm_X9_fault (some .int) := ⟨C, hN, Nat.le_of_eq hn, hR, hr⟩
  refine B_blk B jlkX9_ok jcl_SKF [.aload_n 0, .getfield 71] (by decide +kernel) (ls' := [(0, jR 0)]) (st' := [jI (m 0 9)]) rfl (p1 := 4) rfl ?_
  cases hf
  exact B_retI B hq rfl (Nat.le_of_ble_eq_true rfl) (Nat.le_of_ble_eq_true rfl) (by decide +kernel)

def rm_X0_boltedMost : Room := { frames := 6, cells := 0, slots := 0, locals := 114 }
def f_X0_boltedMost_L6 : Nat → Int → Int → Int → jMu → Option Int
  | 0, _, _, _, _ => none
  | q + 1, v1, v2, v3, m => (f_X5_size 4 5 80 m).bind fun r1 => (if r1 ≤ v3 then some v2 else (f_X0_boltsFound v3 0 199 m).bind fun r2 => (if r2 ≤ v1 then f_X0_boltedMost_L6 q v1 v2 (jW (v3 + 1)) m else f_X0_boltedMost_L6 q r2 v3 (jW (v3 + 1)) m))
def f_X0_boltedMost (m : jMu) : Option Int :=
  f_X0_boltedMost_L6 jFU 0 (-1) 0 m
theorem t_X0_boltedMost_L6 {X : jX} (B : jB X cX0_boltedMost RX0 5 SKF.length rm_X0_boltedMost (some .int)) : ∀ (q : Nat) (v1 : Int) (v2 : Int) (v3 : Int) (m : jMu) (r : Int), f_X0_boltedMost_L6 q v1 v2 v3 m = some r → jQ X (.inl (some (jI r))) SKF m rm_X0_boltedMost.cells rm_X0_boltedMost.slots → J X SKF m 0 0 6 [(0, jR 70), (1, jI v1), (2, jI v2), (3, jI v3)] [] := by
  intro q
  induction q with
  | zero =>
    intro v1 v2 v3 m r hf
    rw [f_X0_boltedMost_L6] at hf
    cases hf
  | succ q ih =>
    intro v1 v2 v3 m r hf hq
    rw [f_X0_boltedMost_L6] at hf
    refine B_blk B jlkX0_ok jcl_SKF [.iload_n 3, .aload_n 0, .getfield 9, .getfield 43] (by decide +kernel) (ls' := [(0, jR 70), (1, jI v1), (2, jI v2), (3, jI v3)]) (st' := [jR 4, jI v3]) rfl (p1 := 14) rfl ?_
    obtain ⟨r1, h1, hf⟩ := jbd hf
    refine B_callV B (Nat.le_refl _) (μ' := m) (k' := 0) (n' := 0) ca_X5_size in_X5_size se_X5_size lk_X0_29 (t_X5_size B.tr jcl_SKF ⟨rfl, rfl, by decide⟩ h1) (Nat.le_refl _) rfl rfl rfl (rest := [jI v3]) rfl rfl (Nat.le_of_ble_eq_true rfl) (by decide +kernel) rfl rfl (st' := [jI r1, jI v3]) rfl ?_
    refine J_icmp_ge B.1 (off := 31) (tgt := 48) (by decide +kernel) (by decide) hf (fun hf => ?_) (fun hf => ?_)
    · refine B_blk B jlkX0_ok jcl_SKF [.iload_n 2] (by decide +kernel) (ls' := [(0, jR 70), (1, jI v1), (2, jI v2), (3, jI v3)]) (st' := [jI v2]) rfl (p1 := 49) rfl ?_
      cases hf
      exact B_retI B hq rfl (Nat.le_of_ble_eq_true rfl) (Nat.le_of_ble_eq_true rfl) (by decide +kernel)
    · refine B_blk B jlkX0_ok jcl_SKF [.aload_n 0, .iload_n 3, .iconst 0, .sipush 199] (by decide +kernel) (ls' := [(0, jR 70), (1, jI v1), (2, jI v2), (3, jI v3)]) (st' := [jI 199, jI 0, jI v3, jR 70]) rfl (p1 := 26) rfl ?_
      obtain ⟨r2, h2, hf⟩ := jbd hf
      refine B_callV B (Nat.le_refl _) (μ' := m) (k' := 0) (n' := 0) ca_X0_boltsFound in_X0_boltsFound se_X0_boltsFound lk_X0_126 (t_X0_boltsFound B.tr h2) (Nat.le_refl _) rfl rfl rfl (rest := []) rfl rfl (Nat.le_of_ble_eq_true rfl) (by decide +kernel) rfl rfl (st' := [jI r2]) rfl ?_
      refine B_blk B jlkX0_ok jcl_SKF [.istore 4, .iload 4, .iload_n 1] (by decide +kernel) (ls' := [(0, jR 70), (1, jI v1), (2, jI v2), (3, jI v3), (4, jI r2)]) (st' := [jI v1, jI r2]) rfl (p1 := 34) rfl ?_
      refine J_icmp_le B.1 (off := 8) (tgt := 42) (by decide +kernel) (by decide) hf (fun hf => ?_) (fun hf => ?_)
      · refine B_blk B jlkX0_ok jcl_SKF [.iinc 3 1, .goto (-39)] (by decide +kernel) (ls' := [(0, jR 70), (1, jI v1), (2, jI v2), (3, jI (jW (v3 + 1))), (4, jI r2)]) (st' := []) rfl (p1 := 6) rfl ?_
        refine J_pick [0, 1, 2, 3] (ls' := [(0, jR 70), (1, jI v1), (2, jI v2), (3, jI (jW (v3 + 1)))]) rfl ?_
        exact ih v1 v2 (jW (v3 + 1)) m _ hf hq
      · refine B_blk B jlkX0_ok jcl_SKF [.iload 4, .istore_n 1, .iload_n 3, .istore_n 2, .iinc 3 1, .goto (-39)] (by decide +kernel) (ls' := [(0, jR 70), (1, jI r2), (2, jI v3), (3, jI (jW (v3 + 1))), (4, jI r2)]) (st' := []) rfl (p1 := 6) rfl ?_
        refine J_pick [0, 1, 2, 3] (ls' := [(0, jR 70), (1, jI r2), (2, jI v3), (3, jI (jW (v3 + 1)))]) rfl ?_
        exact ih r2 v3 (jW (v3 + 1)) m _ hf hq
theorem t_X0_boltedMost {l : Launch} {G : jG} (hl : l.stackTraces = false) {m : jMu} {r : Int} (hf : f_X0_boltedMost m = some r) : jCt l G yX0_boltedMost (.code yX0_boltedMost cX0_boltedMost 5 (some .int) :: jWG) rm_X0_boltedMost [jR 70] SKF m (.inl (some (jI r))) SKF m := by
  unfold f_X0_boltedMost at hf
  refine J_start (ls0 := [(0, jR 70)]) (by decide +kernel) hl (Nat.le_of_ble_eq_true rfl) rfl fun X C hN hn hR hr hnm hno hq => ?_
  have B : jB X cX0_boltedMost RX0 5 SKF.length rm_X0_boltedMost (some .int) := ⟨C, hN, Nat.le_of_eq hn, hR, hr⟩
  refine B_blk B jlkX0_ok jcl_SKF [.iconst 0, .istore_n 1, .iconst (-1), .istore_n 2, .iconst 0, .istore_n 3] (by decide +kernel) (ls' := [(0, jR 70), (1, jI 0), (2, jI (-1)), (3, jI 0)]) (st' := []) rfl (p1 := 6) rfl ?_
  exact t_X0_boltedMost_L6 B jFU 0 (-1) 0 m _ hf hq

def rm_X9_thick : Room := { frames := 8, cells := 0, slots := 0, locals := 138 }
def f_X9_thick (m : jMu) : Option Int :=
  (f_X0_boltedMost m).bind fun r1 => some r1
theorem t_X9_thick {l : Launch} {G : jG} (hl : l.stackTraces = false) {m : jMu} {r : Int} (hf : f_X9_thick m = some r) : jCt l G yX9_thick (.code yX9_thick cX9_thick 1 (some .int) :: jWG) rm_X9_thick [jR 0] SKF m (.inl (some (jI r))) SKF m := by
  unfold f_X9_thick at hf
  refine J_start (ls0 := [(0, jR 0)]) (by decide +kernel) hl (Nat.le_of_ble_eq_true rfl) rfl fun X C hN hn hR hr hnm hno hq => ?_
  have B : jB X cX9_thick RX9 1 SKF.length rm_X9_thick (some .int) := ⟨C, hN, Nat.le_of_eq hn, hR, hr⟩
  refine B_blk B jlkX9_ok jcl_SKF [.aload_n 0, .getfield 56] (by decide +kernel) (ls' := [(0, jR 0)]) (st' := [jR 70]) rfl (p1 := 4) rfl ?_
  obtain ⟨r1, h1, hf⟩ := jbd hf
  refine B_callV B (Nat.le_refl _) (μ' := m) (k' := 0) (n' := 0) ca_X0_boltedMost in_X0_boltedMost se_X0_boltedMost lk_X9_292 (t_X0_boltedMost B.tr h1) (Nat.le_refl _) rfl rfl rfl (rest := []) rfl rfl (Nat.le_of_ble_eq_true rfl) (by decide +kernel) rfl rfl (st' := [jI r1]) rfl ?_
  cases hf
  exact B_retI B hq rfl (Nat.le_of_ble_eq_true rfl) (Nat.le_of_ble_eq_true rfl) (by decide +kernel)

def rm_X5_copyFrom : Room := { frames := 3, cells := 0, slots := 0, locals := 64 }
def f_X5_copyFrom (t a w t2 a2 w2 : Nat) (m : jMu) : Option jMu :=
  (if jW (m t2 3 * m t2 1) < 0 then some m else (if (w : Int) < jW (m t2 3 * m t2 1) then some m else (if jW (m t2 3 * m t2 1) ≤ (w2 : Int) then (if (0 : Int) ≤ 0 ∧ (0 : Int) ≤ 0 ∧ 0 ≤ jW (m t2 3 * m t2 1) ∧ 0 + jW (m t2 3 * m t2 1) ≤ (w2 : Int) ∧ 0 + jW (m t2 3 * m t2 1) ≤ (w : Int) then (jlt (jcpy m a2 a 0 0 (jW (m t2 3 * m t2 1))) fun m1 => (jlt (jup m1 t 3 (m1 t2 3)) fun m2 => some m2)) else none) else some m)))
theorem t_X5_copyFrom {l : Launch} {G : jG} (hl : l.stackTraces = false) {S : List jSh} (hcl : jcl S) {t a w t2 a2 w2 : Nat} (hfacts : jTb S t a w ∧ jTb S t2 a2 w2) {m : jMu} {r : jMu} (hf : f_X5_copyFrom t a w t2 a2 w2 m = some r) : jCt l G yX5_copyFrom (.code yX5_copyFrom cX5_copyFrom 3 none :: jWG) rm_X5_copyFrom [jR t, jR t2] S m (.inl none) S r := by
  unfold f_X5_copyFrom at hf
  refine J_start (ls0 := [(0, jR t), (1, jR t2)]) (by decide +kernel) hl (Nat.le_of_ble_eq_true rfl) rfl fun X C hN hn hR hr hnm hno hq => ?_
  have B : jB X cX5_copyFrom RX5 3 S.length rm_X5_copyFrom none := ⟨C, hN, Nat.le_of_eq hn, hR, hr⟩
  refine B_blk B jlkX5_ok hcl [.aload_n 1] (by decide +kernel) (ls' := [(0, jR t), (1, jR t2)]) (st' := [jR t2]) rfl (p1 := 1) rfl ?_
  refine K_get (v := jI (m t2 3)) B jlkX5_ok hcl (idx := 22) rfl hfacts.2.1 rfl rfl (by decide +kernel) ?_
  refine B_blk B jlkX5_ok hcl [.aload_n 1] (by decide +kernel) (ls' := [(0, jR t), (1, jR t2)]) (st' := [jR t2, jI (m t2 3)]) rfl (p1 := 5) rfl ?_
  refine K_get (v := jI (m t2 1)) B jlkX5_ok hcl (idx := 15) rfl hfacts.2.1 rfl rfl (by decide +kernel) ?_
  refine B_blk B jlkX5_ok hcl [.imul, .istore_n 2, .iload_n 2] (by decide +kernel) (ls' := [(0, jR t), (1, jR t2), (2, jI (jW (m t2 3 * m t2 1)))]) (st' := [jI (jW (m t2 3 * m t2 1))]) rfl (p1 := 11) rfl ?_
  refine J_if_lt B.1 (off := 21) (tgt := 32) (by decide +kernel) (by decide) hf (fun hf => ?_) (fun hf => ?_)
  · cases hf
    exact B_retV B hq rfl (Nat.le_of_ble_eq_true rfl) (Nat.le_of_ble_eq_true rfl) (by decide +kernel)
  · refine B_blk B jlkX5_ok hcl [.iload_n 2, .aload_n 0] (by decide +kernel) (ls' := [(0, jR t), (1, jR t2), (2, jI (jW (m t2 3 * m t2 1)))]) (st' := [jR t, jI (jW (m t2 3 * m t2 1))]) rfl (p1 := 16) rfl ?_
    refine K_get (v := jR a) B jlkX5_ok hcl (idx := 18) rfl hfacts.1.1 rfl rfl (by decide +kernel) ?_
    refine K_alen (lenI := (w : Int)) B hcl hfacts.1.2.1 (by decide) rfl hfacts.1.2.2 (by decide +kernel) ?_
    refine J_icmp_gt B.1 (off := 12) (tgt := 32) (by decide +kernel) (by decide) hf (fun hf => ?_) (fun hf => ?_)
    · cases hf
      exact B_retV B hq rfl (Nat.le_of_ble_eq_true rfl) (Nat.le_of_ble_eq_true rfl) (by decide +kernel)
    · refine B_blk B jlkX5_ok hcl [.iload_n 2, .aload_n 1] (by decide +kernel) (ls' := [(0, jR t), (1, jR t2), (2, jI (jW (m t2 3 * m t2 1)))]) (st' := [jR t2, jI (jW (m t2 3 * m t2 1))]) rfl (p1 := 25) rfl ?_
      refine K_get (v := jR a2) B jlkX5_ok hcl (idx := 18) rfl hfacts.2.1 rfl rfl (by decide +kernel) ?_
      refine K_alen (lenI := (w2 : Int)) B hcl hfacts.2.2.1 (by decide) rfl hfacts.2.2.2 (by decide +kernel) ?_
      refine J_icmp_le B.1 (off := 4) (tgt := 33) (by decide +kernel) (by decide) hf (fun hf => ?_) (fun hf => ?_)
      · refine B_blk B jlkX5_ok hcl [.aload_n 1] (by decide +kernel) (ls' := [(0, jR t), (1, jR t2), (2, jI (jW (m t2 3 * m t2 1)))]) (st' := [jR t2]) rfl (p1 := 34) rfl ?_
        refine K_get (v := jR a2) B jlkX5_ok hcl (idx := 18) rfl hfacts.2.1 rfl rfl (by decide +kernel) ?_
        refine B_blk B jlkX5_ok hcl [.iconst 0, .aload_n 0] (by decide +kernel) (ls' := [(0, jR t), (1, jR t2), (2, jI (jW (m t2 3 * m t2 1)))]) (st' := [jR t, jI 0, jR a2]) rfl (p1 := 39) rfl ?_
        refine K_get (v := jR a) B jlkX5_ok hcl (idx := 18) rfl hfacts.1.1 rfl rfl (by decide +kernel) ?_
        refine B_blk B jlkX5_ok hcl [.iconst 0, .iload_n 2] (by decide +kernel) (ls' := [(0, jR t), (1, jR t2), (2, jI (jW (m t2 3 * m t2 1)))]) (st' := [jI (jW (m t2 3 * m t2 1)), jI 0, jR a, jI 0, jR a2]) rfl (p1 := 44) rfl ?_
        refine J_copy (naI := (w2 : Int)) (nbI := (w : Int)) B.1 lk_X5_29 na_arraycopyName sa_arraycopyName ii_J10 hfacts.2.2.1 hfacts.1.2.1 rfl rfl hf B.2.2.2.1 (Nat.le_of_ble_eq_true rfl) (Nat.le_of_ble_eq_true rfl) (by decide +kernel) (fun hf => ?_)
        obtain ⟨m1, hm1, hf⟩ := jlt_s hf
        rw [hm1]
        refine B_blk B jlkX5_ok hcl [.aload_n 0, .aload_n 1] (by decide +kernel) (ls' := [(0, jR t), (1, jR t2), (2, jI (jW (m t2 3 * m t2 1)))]) (st' := [jR t2, jR t]) rfl (p1 := 49) rfl ?_
        refine K_get (v := jI (m1 t2 3)) B jlkX5_ok hcl (idx := 22) rfl hfacts.2.1 rfl rfl (by decide +kernel) ?_
        refine K_putI (jI' := 3) B jp_X5_22 hfacts.1.1 rfl rfl (by decide +kernel) ?_
        obtain ⟨m2, hm2, hf⟩ := jlt_s hf
        rw [hm2]
        cases hf
        exact B_retV B hq rfl (Nat.le_of_ble_eq_true rfl) (Nat.le_of_ble_eq_true rfl) (by decide +kernel)
      · cases hf
        exact B_retV B hq rfl (Nat.le_of_ble_eq_true rfl) (Nat.le_of_ble_eq_true rfl) (by decide +kernel)

def rm_X4_copyFrom : Room := { frames := 5, cells := 0, slots := 0, locals := 86 }
def f_X4_copyFrom (m : jMu) : Option jMu :=
  (f_X5_copyFrom 36 37 80 4 5 80 m).bind fun r1 => (f_X5_copyFrom 38 39 210 6 7 210 r1).bind fun r2 => (f_X5_copyFrom 40 41 12 8 9 12 r2).bind fun r3 => (f_X5_copyFrom 42 43 10 10 11 10 r3).bind fun r4 => (f_X5_copyFrom 44 45 24 12 13 24 r4).bind fun r5 => (f_X5_copyFrom 46 47 6 14 15 6 r5).bind fun r6 => (f_X5_copyFrom 48 49 160 16 17 160 r6).bind fun r7 => (f_X5_copyFrom 50 51 1600 18 19 1600 r7).bind fun r8 => (f_X5_copyFrom 52 53 4 20 21 4 r8).bind fun r9 => (f_X5_copyFrom 54 55 24 22 23 24 r9).bind fun r10 => (f_X5_copyFrom 56 57 320 24 25 320 r10).bind fun r11 => (f_X5_copyFrom 34 35 4 2 3 4 r11).bind fun r12 => (f_X5_copyFrom 58 59 120 26 27 120 r12).bind fun r13 => (f_X5_copyFrom 60 61 60 28 29 60 r13).bind fun r14 => (jlt (jup r14 33 14 (r14 1 14)) fun m15 => (jlt (jup m15 33 15 (m15 1 15)) fun m16 => some m16))
theorem t_X4_copyFrom {l : Launch} {G : jG} (hl : l.stackTraces = false) {m : jMu} {r : jMu} (hf : f_X4_copyFrom m = some r) : jCt l G yX4_copyFrom (.code yX4_copyFrom cX4_copyFrom 2 none :: jWG) rm_X4_copyFrom [jR 33, jR 1] SKF m (.inl none) SKF r := by
  unfold f_X4_copyFrom at hf
  refine J_start (ls0 := [(0, jR 33), (1, jR 1)]) (by decide +kernel) hl (Nat.le_of_ble_eq_true rfl) rfl fun X C hN hn hR hr hnm hno hq => ?_
  have B : jB X cX4_copyFrom RX4 2 SKF.length rm_X4_copyFrom none := ⟨C, hN, Nat.le_of_eq hn, hR, hr⟩
  refine B_blk B jlkX4_ok jcl_SKF [.aload_n 0, .getfield 24, .aload_n 1, .getfield 24] (by decide +kernel) (ls' := [(0, jR 33), (1, jR 1)]) (st' := [jR 4, jR 36]) rfl (p1 := 8) rfl ?_
  obtain ⟨r1, h1, hf⟩ := jbd hf
  refine B_callV B (Nat.le_refl _) (μ' := r1) (k' := 0) (n' := 0) ca_X5_copyFrom in_X5_copyFrom se_X5_copyFrom lk_X4_78 (t_X5_copyFrom B.tr jcl_SKF ⟨⟨rfl, rfl, by decide⟩, ⟨rfl, rfl, by decide⟩⟩ h1) (Nat.le_refl _) rfl rfl rfl (rest := []) rfl rfl (Nat.le_of_ble_eq_true rfl) (by decide +kernel) rfl rfl (st' := []) rfl ?_
  refine B_blk B jlkX4_ok jcl_SKF [.aload_n 0, .getfield 28, .aload_n 1, .getfield 28] (by decide +kernel) (ls' := [(0, jR 33), (1, jR 1)]) (st' := [jR 6, jR 38]) rfl (p1 := 19) rfl ?_
  obtain ⟨r2, h2, hf⟩ := jbd hf
  refine B_callV B (Nat.le_refl _) (μ' := r2) (k' := 0) (n' := 0) ca_X5_copyFrom in_X5_copyFrom se_X5_copyFrom lk_X4_78 (t_X5_copyFrom B.tr jcl_SKF ⟨⟨rfl, rfl, by decide⟩, ⟨rfl, rfl, by decide⟩⟩ h2) (Nat.le_refl _) rfl rfl rfl (rest := []) rfl rfl (Nat.le_of_ble_eq_true rfl) (by decide +kernel) rfl rfl (st' := []) rfl ?_
  refine B_blk B jlkX4_ok jcl_SKF [.aload_n 0, .getfield 31, .aload_n 1, .getfield 31] (by decide +kernel) (ls' := [(0, jR 33), (1, jR 1)]) (st' := [jR 8, jR 40]) rfl (p1 := 30) rfl ?_
  obtain ⟨r3, h3, hf⟩ := jbd hf
  refine B_callV B (Nat.le_refl _) (μ' := r3) (k' := 0) (n' := 0) ca_X5_copyFrom in_X5_copyFrom se_X5_copyFrom lk_X4_78 (t_X5_copyFrom B.tr jcl_SKF ⟨⟨rfl, rfl, by decide⟩, ⟨rfl, rfl, by decide⟩⟩ h3) (Nat.le_refl _) rfl rfl rfl (rest := []) rfl rfl (Nat.le_of_ble_eq_true rfl) (by decide +kernel) rfl rfl (st' := []) rfl ?_
  refine B_blk B jlkX4_ok jcl_SKF [.aload_n 0, .getfield 34, .aload_n 1, .getfield 34] (by decide +kernel) (ls' := [(0, jR 33), (1, jR 1)]) (st' := [jR 10, jR 42]) rfl (p1 := 41) rfl ?_
  obtain ⟨r4, h4, hf⟩ := jbd hf
  refine B_callV B (Nat.le_refl _) (μ' := r4) (k' := 0) (n' := 0) ca_X5_copyFrom in_X5_copyFrom se_X5_copyFrom lk_X4_78 (t_X5_copyFrom B.tr jcl_SKF ⟨⟨rfl, rfl, by decide⟩, ⟨rfl, rfl, by decide⟩⟩ h4) (Nat.le_refl _) rfl rfl rfl (rest := []) rfl rfl (Nat.le_of_ble_eq_true rfl) (by decide +kernel) rfl rfl (st' := []) rfl ?_
  refine B_blk B jlkX4_ok jcl_SKF [.aload_n 0, .getfield 37, .aload_n 1, .getfield 37] (by decide +kernel) (ls' := [(0, jR 33), (1, jR 1)]) (st' := [jR 12, jR 44]) rfl (p1 := 52) rfl ?_
  obtain ⟨r5, h5, hf⟩ := jbd hf
  refine B_callV B (Nat.le_refl _) (μ' := r5) (k' := 0) (n' := 0) ca_X5_copyFrom in_X5_copyFrom se_X5_copyFrom lk_X4_78 (t_X5_copyFrom B.tr jcl_SKF ⟨⟨rfl, rfl, by decide⟩, ⟨rfl, rfl, by decide⟩⟩ h5) (Nat.le_refl _) rfl rfl rfl (rest := []) rfl rfl (Nat.le_of_ble_eq_true rfl) (by decide +kernel) rfl rfl (st' := []) rfl ?_
  refine B_blk B jlkX4_ok jcl_SKF [.aload_n 0, .getfield 40, .aload_n 1, .getfield 40] (by decide +kernel) (ls' := [(0, jR 33), (1, jR 1)]) (st' := [jR 14, jR 46]) rfl (p1 := 63) rfl ?_
  obtain ⟨r6, h6, hf⟩ := jbd hf
  refine B_callV B (Nat.le_refl _) (μ' := r6) (k' := 0) (n' := 0) ca_X5_copyFrom in_X5_copyFrom se_X5_copyFrom lk_X4_78 (t_X5_copyFrom B.tr jcl_SKF ⟨⟨rfl, rfl, by decide⟩, ⟨rfl, rfl, by decide⟩⟩ h6) (Nat.le_refl _) rfl rfl rfl (rest := []) rfl rfl (Nat.le_of_ble_eq_true rfl) (by decide +kernel) rfl rfl (st' := []) rfl ?_
  refine B_blk B jlkX4_ok jcl_SKF [.aload_n 0, .getfield 45, .aload_n 1, .getfield 45] (by decide +kernel) (ls' := [(0, jR 33), (1, jR 1)]) (st' := [jR 16, jR 48]) rfl (p1 := 74) rfl ?_
  obtain ⟨r7, h7, hf⟩ := jbd hf
  refine B_callV B (Nat.le_refl _) (μ' := r7) (k' := 0) (n' := 0) ca_X5_copyFrom in_X5_copyFrom se_X5_copyFrom lk_X4_78 (t_X5_copyFrom B.tr jcl_SKF ⟨⟨rfl, rfl, by decide⟩, ⟨rfl, rfl, by decide⟩⟩ h7) (Nat.le_refl _) rfl rfl rfl (rest := []) rfl rfl (Nat.le_of_ble_eq_true rfl) (by decide +kernel) rfl rfl (st' := []) rfl ?_
  refine B_blk B jlkX4_ok jcl_SKF [.aload_n 0, .getfield 50, .aload_n 1, .getfield 50] (by decide +kernel) (ls' := [(0, jR 33), (1, jR 1)]) (st' := [jR 18, jR 50]) rfl (p1 := 85) rfl ?_
  obtain ⟨r8, h8, hf⟩ := jbd hf
  refine B_callV B (Nat.le_refl _) (μ' := r8) (k' := 0) (n' := 0) ca_X5_copyFrom in_X5_copyFrom se_X5_copyFrom lk_X4_78 (t_X5_copyFrom B.tr jcl_SKF ⟨⟨rfl, rfl, by decide⟩, ⟨rfl, rfl, by decide⟩⟩ h8) (Nat.le_refl _) rfl rfl rfl (rest := []) rfl rfl (Nat.le_of_ble_eq_true rfl) (by decide +kernel) rfl rfl (st' := []) rfl ?_
  refine B_blk B jlkX4_ok jcl_SKF [.aload_n 0, .getfield 53, .aload_n 1, .getfield 53] (by decide +kernel) (ls' := [(0, jR 33), (1, jR 1)]) (st' := [jR 20, jR 52]) rfl (p1 := 96) rfl ?_
  obtain ⟨r9, h9, hf⟩ := jbd hf
  refine B_callV B (Nat.le_refl _) (μ' := r9) (k' := 0) (n' := 0) ca_X5_copyFrom in_X5_copyFrom se_X5_copyFrom lk_X4_78 (t_X5_copyFrom B.tr jcl_SKF ⟨⟨rfl, rfl, by decide⟩, ⟨rfl, rfl, by decide⟩⟩ h9) (Nat.le_refl _) rfl rfl rfl (rest := []) rfl rfl (Nat.le_of_ble_eq_true rfl) (by decide +kernel) rfl rfl (st' := []) rfl ?_
  refine B_blk B jlkX4_ok jcl_SKF [.aload_n 0, .getfield 56, .aload_n 1, .getfield 56] (by decide +kernel) (ls' := [(0, jR 33), (1, jR 1)]) (st' := [jR 22, jR 54]) rfl (p1 := 107) rfl ?_
  obtain ⟨r10, h10, hf⟩ := jbd hf
  refine B_callV B (Nat.le_refl _) (μ' := r10) (k' := 0) (n' := 0) ca_X5_copyFrom in_X5_copyFrom se_X5_copyFrom lk_X4_78 (t_X5_copyFrom B.tr jcl_SKF ⟨⟨rfl, rfl, by decide⟩, ⟨rfl, rfl, by decide⟩⟩ h10) (Nat.le_refl _) rfl rfl rfl (rest := []) rfl rfl (Nat.le_of_ble_eq_true rfl) (by decide +kernel) rfl rfl (st' := []) rfl ?_
  refine B_blk B jlkX4_ok jcl_SKF [.aload_n 0, .getfield 59, .aload_n 1, .getfield 59] (by decide +kernel) (ls' := [(0, jR 33), (1, jR 1)]) (st' := [jR 24, jR 56]) rfl (p1 := 118) rfl ?_
  obtain ⟨r11, h11, hf⟩ := jbd hf
  refine B_callV B (Nat.le_refl _) (μ' := r11) (k' := 0) (n' := 0) ca_X5_copyFrom in_X5_copyFrom se_X5_copyFrom lk_X4_78 (t_X5_copyFrom B.tr jcl_SKF ⟨⟨rfl, rfl, by decide⟩, ⟨rfl, rfl, by decide⟩⟩ h11) (Nat.le_refl _) rfl rfl rfl (rest := []) rfl rfl (Nat.le_of_ble_eq_true rfl) (by decide +kernel) rfl rfl (st' := []) rfl ?_
  refine B_blk B jlkX4_ok jcl_SKF [.aload_n 0, .getfield 62, .aload_n 1, .getfield 62] (by decide +kernel) (ls' := [(0, jR 33), (1, jR 1)]) (st' := [jR 2, jR 34]) rfl (p1 := 129) rfl ?_
  obtain ⟨r12, h12, hf⟩ := jbd hf
  refine B_callV B (Nat.le_refl _) (μ' := r12) (k' := 0) (n' := 0) ca_X5_copyFrom in_X5_copyFrom se_X5_copyFrom lk_X4_78 (t_X5_copyFrom B.tr jcl_SKF ⟨⟨rfl, rfl, by decide⟩, ⟨rfl, rfl, by decide⟩⟩ h12) (Nat.le_refl _) rfl rfl rfl (rest := []) rfl rfl (Nat.le_of_ble_eq_true rfl) (by decide +kernel) rfl rfl (st' := []) rfl ?_
  refine B_blk B jlkX4_ok jcl_SKF [.aload_n 0, .getfield 65, .aload_n 1, .getfield 65] (by decide +kernel) (ls' := [(0, jR 33), (1, jR 1)]) (st' := [jR 26, jR 58]) rfl (p1 := 140) rfl ?_
  obtain ⟨r13, h13, hf⟩ := jbd hf
  refine B_callV B (Nat.le_refl _) (μ' := r13) (k' := 0) (n' := 0) ca_X5_copyFrom in_X5_copyFrom se_X5_copyFrom lk_X4_78 (t_X5_copyFrom B.tr jcl_SKF ⟨⟨rfl, rfl, by decide⟩, ⟨rfl, rfl, by decide⟩⟩ h13) (Nat.le_refl _) rfl rfl rfl (rest := []) rfl rfl (Nat.le_of_ble_eq_true rfl) (by decide +kernel) rfl rfl (st' := []) rfl ?_
  refine B_blk B jlkX4_ok jcl_SKF [.aload_n 0, .getfield 68, .aload_n 1, .getfield 68] (by decide +kernel) (ls' := [(0, jR 33), (1, jR 1)]) (st' := [jR 28, jR 60]) rfl (p1 := 151) rfl ?_
  obtain ⟨r14, h14, hf⟩ := jbd hf
  refine B_callV B (Nat.le_refl _) (μ' := r14) (k' := 0) (n' := 0) ca_X5_copyFrom in_X5_copyFrom se_X5_copyFrom lk_X4_78 (t_X5_copyFrom B.tr jcl_SKF ⟨⟨rfl, rfl, by decide⟩, ⟨rfl, rfl, by decide⟩⟩ h14) (Nat.le_refl _) rfl rfl rfl (rest := []) rfl rfl (Nat.le_of_ble_eq_true rfl) (by decide +kernel) rfl rfl (st' := []) rfl ?_
  refine B_blk B jlkX4_ok jcl_SKF [.aload_n 0, .aload_n 1, .getfield 71] (by decide +kernel) (ls' := [(0, jR 33), (1, jR 1)]) (st' := [jI (r14 1 14), jR 33]) rfl (p1 := 159) rfl ?_
  refine K_putI (jI' := 14) B jp_X4_71 rfl rfl rfl (by decide +kernel) ?_
  obtain ⟨m15, hm15, hf⟩ := jlt_s hf
  rw [hm15]
  refine B_blk B jlkX4_ok jcl_SKF [.aload_n 0, .aload_n 1, .getfield 75] (by decide +kernel) (ls' := [(0, jR 33), (1, jR 1)]) (st' := [jI (m15 1 15), jR 33]) rfl (p1 := 167) rfl ?_
  refine K_putI (jI' := 15) B jp_X4_75 rfl rfl rfl (by decide +kernel) ?_
  obtain ⟨m16, hm16, hf⟩ := jlt_s hf
  rw [hm16]
  cases hf
  exact B_retV B hq rfl (Nat.le_of_ble_eq_true rfl) (Nat.le_of_ble_eq_true rfl) (by decide +kernel)

def rm_X9_image : Room := { frames := 7, cells := 0, slots := 0, locals := 107 }
def f_X9_image (m : jMu) : Option jMu :=
  (f_X4_copyFrom m).bind fun r1 => (jlt (jup r1 0 8 1) fun m2 => some m2)
theorem t_X9_image {l : Launch} {G : jG} (hl : l.stackTraces = false) {m : jMu} {r : jMu} (hf : f_X9_image m = some r) : jCt l G yX9_image (.code yX9_image cX9_image 1 none :: jWG) rm_X9_image [jR 0] SKF m (.inl none) SKF r := by
  unfold f_X9_image at hf
  refine J_start (ls0 := [(0, jR 0)]) (by decide +kernel) hl (Nat.le_of_ble_eq_true rfl) rfl fun X C hN hn hR hr hnm hno hq => ?_
  have B : jB X cX9_image RX9 1 SKF.length rm_X9_image none := ⟨C, hN, Nat.le_of_eq hn, hR, hr⟩
  refine B_blk B jlkX9_ok jcl_SKF [.aload_n 0, .getfield 24, .aload_n 0, .getfield 20] (by decide +kernel) (ls' := [(0, jR 0)]) (st' := [jR 1, jR 33]) rfl (p1 := 8) rfl ?_
  obtain ⟨r1, h1, hf⟩ := jbd hf
  refine B_callV B (Nat.le_refl _) (μ' := r1) (k' := 0) (n' := 0) ca_X4_copyFrom in_X4_copyFrom se_X4_copyFrom lk_X9_295 (t_X4_copyFrom B.tr h1) (Nat.le_refl _) rfl rfl rfl (rest := []) rfl rfl (Nat.le_of_ble_eq_true rfl) (by decide +kernel) rfl rfl (st' := []) rfl ?_
  refine B_blk B jlkX9_ok jcl_SKF [.aload_n 0, .iconst 1] (by decide +kernel) (ls' := [(0, jR 0)]) (st' := [jI 1, jR 0]) rfl (p1 := 13) rfl ?_
  refine K_putZ (jI' := 8) B jp_X9_67 rfl rfl rfl (Or.inr rfl) (by decide +kernel) ?_
  obtain ⟨m2, hm2, hf⟩ := jlt_s hf
  rw [hm2]
  cases hf
  exact B_retV B hq rfl (Nat.le_of_ble_eq_true rfl) (Nat.le_of_ble_eq_true rfl) (by decide +kernel)

def rm_X4_copyFrom_2 : Room := { frames := 5, cells := 0, slots := 0, locals := 86 }
def f_X4_copyFrom_2 (m : jMu) : Option jMu :=
  (f_X5_copyFrom 4 5 80 36 37 80 m).bind fun r1 => (f_X5_copyFrom 6 7 210 38 39 210 r1).bind fun r2 => (f_X5_copyFrom 8 9 12 40 41 12 r2).bind fun r3 => (f_X5_copyFrom 10 11 10 42 43 10 r3).bind fun r4 => (f_X5_copyFrom 12 13 24 44 45 24 r4).bind fun r5 => (f_X5_copyFrom 14 15 6 46 47 6 r5).bind fun r6 => (f_X5_copyFrom 16 17 160 48 49 160 r6).bind fun r7 => (f_X5_copyFrom 18 19 1600 50 51 1600 r7).bind fun r8 => (f_X5_copyFrom 20 21 4 52 53 4 r8).bind fun r9 => (f_X5_copyFrom 22 23 24 54 55 24 r9).bind fun r10 => (f_X5_copyFrom 24 25 320 56 57 320 r10).bind fun r11 => (f_X5_copyFrom 2 3 4 34 35 4 r11).bind fun r12 => (f_X5_copyFrom 26 27 120 58 59 120 r12).bind fun r13 => (f_X5_copyFrom 28 29 60 60 61 60 r13).bind fun r14 => (jlt (jup r14 1 14 (r14 33 14)) fun m15 => (jlt (jup m15 1 15 (m15 33 15)) fun m16 => some m16))
theorem t_X4_copyFrom_2 {l : Launch} {G : jG} (hl : l.stackTraces = false) {m : jMu} {r : jMu} (hf : f_X4_copyFrom_2 m = some r) : jCt l G yX4_copyFrom (.code yX4_copyFrom cX4_copyFrom 2 none :: jWG) rm_X4_copyFrom_2 [jR 1, jR 33] SKF m (.inl none) SKF r := by
  unfold f_X4_copyFrom_2 at hf
  refine J_start (ls0 := [(0, jR 1), (1, jR 33)]) (by decide +kernel) hl (Nat.le_of_ble_eq_true rfl) rfl fun X C hN hn hR hr hnm hno hq => ?_
  have B : jB X cX4_copyFrom RX4 2 SKF.length rm_X4_copyFrom_2 none := ⟨C, hN, Nat.le_of_eq hn, hR, hr⟩
  refine B_blk B jlkX4_ok jcl_SKF [.aload_n 0, .getfield 24, .aload_n 1, .getfield 24] (by decide +kernel) (ls' := [(0, jR 1), (1, jR 33)]) (st' := [jR 36, jR 4]) rfl (p1 := 8) rfl ?_
  obtain ⟨r1, h1, hf⟩ := jbd hf
  refine B_callV B (Nat.le_refl _) (μ' := r1) (k' := 0) (n' := 0) ca_X5_copyFrom in_X5_copyFrom se_X5_copyFrom lk_X4_78 (t_X5_copyFrom B.tr jcl_SKF ⟨⟨rfl, rfl, by decide⟩, ⟨rfl, rfl, by decide⟩⟩ h1) (Nat.le_refl _) rfl rfl rfl (rest := []) rfl rfl (Nat.le_of_ble_eq_true rfl) (by decide +kernel) rfl rfl (st' := []) rfl ?_
  refine B_blk B jlkX4_ok jcl_SKF [.aload_n 0, .getfield 28, .aload_n 1, .getfield 28] (by decide +kernel) (ls' := [(0, jR 1), (1, jR 33)]) (st' := [jR 38, jR 6]) rfl (p1 := 19) rfl ?_
  obtain ⟨r2, h2, hf⟩ := jbd hf
  refine B_callV B (Nat.le_refl _) (μ' := r2) (k' := 0) (n' := 0) ca_X5_copyFrom in_X5_copyFrom se_X5_copyFrom lk_X4_78 (t_X5_copyFrom B.tr jcl_SKF ⟨⟨rfl, rfl, by decide⟩, ⟨rfl, rfl, by decide⟩⟩ h2) (Nat.le_refl _) rfl rfl rfl (rest := []) rfl rfl (Nat.le_of_ble_eq_true rfl) (by decide +kernel) rfl rfl (st' := []) rfl ?_
  refine B_blk B jlkX4_ok jcl_SKF [.aload_n 0, .getfield 31, .aload_n 1, .getfield 31] (by decide +kernel) (ls' := [(0, jR 1), (1, jR 33)]) (st' := [jR 40, jR 8]) rfl (p1 := 30) rfl ?_
  obtain ⟨r3, h3, hf⟩ := jbd hf
  refine B_callV B (Nat.le_refl _) (μ' := r3) (k' := 0) (n' := 0) ca_X5_copyFrom in_X5_copyFrom se_X5_copyFrom lk_X4_78 (t_X5_copyFrom B.tr jcl_SKF ⟨⟨rfl, rfl, by decide⟩, ⟨rfl, rfl, by decide⟩⟩ h3) (Nat.le_refl _) rfl rfl rfl (rest := []) rfl rfl (Nat.le_of_ble_eq_true rfl) (by decide +kernel) rfl rfl (st' := []) rfl ?_
  refine B_blk B jlkX4_ok jcl_SKF [.aload_n 0, .getfield 34, .aload_n 1, .getfield 34] (by decide +kernel) (ls' := [(0, jR 1), (1, jR 33)]) (st' := [jR 42, jR 10]) rfl (p1 := 41) rfl ?_
  obtain ⟨r4, h4, hf⟩ := jbd hf
  refine B_callV B (Nat.le_refl _) (μ' := r4) (k' := 0) (n' := 0) ca_X5_copyFrom in_X5_copyFrom se_X5_copyFrom lk_X4_78 (t_X5_copyFrom B.tr jcl_SKF ⟨⟨rfl, rfl, by decide⟩, ⟨rfl, rfl, by decide⟩⟩ h4) (Nat.le_refl _) rfl rfl rfl (rest := []) rfl rfl (Nat.le_of_ble_eq_true rfl) (by decide +kernel) rfl rfl (st' := []) rfl ?_
  refine B_blk B jlkX4_ok jcl_SKF [.aload_n 0, .getfield 37, .aload_n 1, .getfield 37] (by decide +kernel) (ls' := [(0, jR 1), (1, jR 33)]) (st' := [jR 44, jR 12]) rfl (p1 := 52) rfl ?_
  obtain ⟨r5, h5, hf⟩ := jbd hf
  refine B_callV B (Nat.le_refl _) (μ' := r5) (k' := 0) (n' := 0) ca_X5_copyFrom in_X5_copyFrom se_X5_copyFrom lk_X4_78 (t_X5_copyFrom B.tr jcl_SKF ⟨⟨rfl, rfl, by decide⟩, ⟨rfl, rfl, by decide⟩⟩ h5) (Nat.le_refl _) rfl rfl rfl (rest := []) rfl rfl (Nat.le_of_ble_eq_true rfl) (by decide +kernel) rfl rfl (st' := []) rfl ?_
  refine B_blk B jlkX4_ok jcl_SKF [.aload_n 0, .getfield 40, .aload_n 1, .getfield 40] (by decide +kernel) (ls' := [(0, jR 1), (1, jR 33)]) (st' := [jR 46, jR 14]) rfl (p1 := 63) rfl ?_
  obtain ⟨r6, h6, hf⟩ := jbd hf
  refine B_callV B (Nat.le_refl _) (μ' := r6) (k' := 0) (n' := 0) ca_X5_copyFrom in_X5_copyFrom se_X5_copyFrom lk_X4_78 (t_X5_copyFrom B.tr jcl_SKF ⟨⟨rfl, rfl, by decide⟩, ⟨rfl, rfl, by decide⟩⟩ h6) (Nat.le_refl _) rfl rfl rfl (rest := []) rfl rfl (Nat.le_of_ble_eq_true rfl) (by decide +kernel) rfl rfl (st' := []) rfl ?_
  refine B_blk B jlkX4_ok jcl_SKF [.aload_n 0, .getfield 45, .aload_n 1, .getfield 45] (by decide +kernel) (ls' := [(0, jR 1), (1, jR 33)]) (st' := [jR 48, jR 16]) rfl (p1 := 74) rfl ?_
  obtain ⟨r7, h7, hf⟩ := jbd hf
  refine B_callV B (Nat.le_refl _) (μ' := r7) (k' := 0) (n' := 0) ca_X5_copyFrom in_X5_copyFrom se_X5_copyFrom lk_X4_78 (t_X5_copyFrom B.tr jcl_SKF ⟨⟨rfl, rfl, by decide⟩, ⟨rfl, rfl, by decide⟩⟩ h7) (Nat.le_refl _) rfl rfl rfl (rest := []) rfl rfl (Nat.le_of_ble_eq_true rfl) (by decide +kernel) rfl rfl (st' := []) rfl ?_
  refine B_blk B jlkX4_ok jcl_SKF [.aload_n 0, .getfield 50, .aload_n 1, .getfield 50] (by decide +kernel) (ls' := [(0, jR 1), (1, jR 33)]) (st' := [jR 50, jR 18]) rfl (p1 := 85) rfl ?_
  obtain ⟨r8, h8, hf⟩ := jbd hf
  refine B_callV B (Nat.le_refl _) (μ' := r8) (k' := 0) (n' := 0) ca_X5_copyFrom in_X5_copyFrom se_X5_copyFrom lk_X4_78 (t_X5_copyFrom B.tr jcl_SKF ⟨⟨rfl, rfl, by decide⟩, ⟨rfl, rfl, by decide⟩⟩ h8) (Nat.le_refl _) rfl rfl rfl (rest := []) rfl rfl (Nat.le_of_ble_eq_true rfl) (by decide +kernel) rfl rfl (st' := []) rfl ?_
  refine B_blk B jlkX4_ok jcl_SKF [.aload_n 0, .getfield 53, .aload_n 1, .getfield 53] (by decide +kernel) (ls' := [(0, jR 1), (1, jR 33)]) (st' := [jR 52, jR 20]) rfl (p1 := 96) rfl ?_
  obtain ⟨r9, h9, hf⟩ := jbd hf
  refine B_callV B (Nat.le_refl _) (μ' := r9) (k' := 0) (n' := 0) ca_X5_copyFrom in_X5_copyFrom se_X5_copyFrom lk_X4_78 (t_X5_copyFrom B.tr jcl_SKF ⟨⟨rfl, rfl, by decide⟩, ⟨rfl, rfl, by decide⟩⟩ h9) (Nat.le_refl _) rfl rfl rfl (rest := []) rfl rfl (Nat.le_of_ble_eq_true rfl) (by decide +kernel) rfl rfl (st' := []) rfl ?_
  refine B_blk B jlkX4_ok jcl_SKF [.aload_n 0, .getfield 56, .aload_n 1, .getfield 56] (by decide +kernel) (ls' := [(0, jR 1), (1, jR 33)]) (st' := [jR 54, jR 22]) rfl (p1 := 107) rfl ?_
  obtain ⟨r10, h10, hf⟩ := jbd hf
  refine B_callV B (Nat.le_refl _) (μ' := r10) (k' := 0) (n' := 0) ca_X5_copyFrom in_X5_copyFrom se_X5_copyFrom lk_X4_78 (t_X5_copyFrom B.tr jcl_SKF ⟨⟨rfl, rfl, by decide⟩, ⟨rfl, rfl, by decide⟩⟩ h10) (Nat.le_refl _) rfl rfl rfl (rest := []) rfl rfl (Nat.le_of_ble_eq_true rfl) (by decide +kernel) rfl rfl (st' := []) rfl ?_
  refine B_blk B jlkX4_ok jcl_SKF [.aload_n 0, .getfield 59, .aload_n 1, .getfield 59] (by decide +kernel) (ls' := [(0, jR 1), (1, jR 33)]) (st' := [jR 56, jR 24]) rfl (p1 := 118) rfl ?_
  obtain ⟨r11, h11, hf⟩ := jbd hf
  refine B_callV B (Nat.le_refl _) (μ' := r11) (k' := 0) (n' := 0) ca_X5_copyFrom in_X5_copyFrom se_X5_copyFrom lk_X4_78 (t_X5_copyFrom B.tr jcl_SKF ⟨⟨rfl, rfl, by decide⟩, ⟨rfl, rfl, by decide⟩⟩ h11) (Nat.le_refl _) rfl rfl rfl (rest := []) rfl rfl (Nat.le_of_ble_eq_true rfl) (by decide +kernel) rfl rfl (st' := []) rfl ?_
  refine B_blk B jlkX4_ok jcl_SKF [.aload_n 0, .getfield 62, .aload_n 1, .getfield 62] (by decide +kernel) (ls' := [(0, jR 1), (1, jR 33)]) (st' := [jR 34, jR 2]) rfl (p1 := 129) rfl ?_
  obtain ⟨r12, h12, hf⟩ := jbd hf
  refine B_callV B (Nat.le_refl _) (μ' := r12) (k' := 0) (n' := 0) ca_X5_copyFrom in_X5_copyFrom se_X5_copyFrom lk_X4_78 (t_X5_copyFrom B.tr jcl_SKF ⟨⟨rfl, rfl, by decide⟩, ⟨rfl, rfl, by decide⟩⟩ h12) (Nat.le_refl _) rfl rfl rfl (rest := []) rfl rfl (Nat.le_of_ble_eq_true rfl) (by decide +kernel) rfl rfl (st' := []) rfl ?_
  refine B_blk B jlkX4_ok jcl_SKF [.aload_n 0, .getfield 65, .aload_n 1, .getfield 65] (by decide +kernel) (ls' := [(0, jR 1), (1, jR 33)]) (st' := [jR 58, jR 26]) rfl (p1 := 140) rfl ?_
  obtain ⟨r13, h13, hf⟩ := jbd hf
  refine B_callV B (Nat.le_refl _) (μ' := r13) (k' := 0) (n' := 0) ca_X5_copyFrom in_X5_copyFrom se_X5_copyFrom lk_X4_78 (t_X5_copyFrom B.tr jcl_SKF ⟨⟨rfl, rfl, by decide⟩, ⟨rfl, rfl, by decide⟩⟩ h13) (Nat.le_refl _) rfl rfl rfl (rest := []) rfl rfl (Nat.le_of_ble_eq_true rfl) (by decide +kernel) rfl rfl (st' := []) rfl ?_
  refine B_blk B jlkX4_ok jcl_SKF [.aload_n 0, .getfield 68, .aload_n 1, .getfield 68] (by decide +kernel) (ls' := [(0, jR 1), (1, jR 33)]) (st' := [jR 60, jR 28]) rfl (p1 := 151) rfl ?_
  obtain ⟨r14, h14, hf⟩ := jbd hf
  refine B_callV B (Nat.le_refl _) (μ' := r14) (k' := 0) (n' := 0) ca_X5_copyFrom in_X5_copyFrom se_X5_copyFrom lk_X4_78 (t_X5_copyFrom B.tr jcl_SKF ⟨⟨rfl, rfl, by decide⟩, ⟨rfl, rfl, by decide⟩⟩ h14) (Nat.le_refl _) rfl rfl rfl (rest := []) rfl rfl (Nat.le_of_ble_eq_true rfl) (by decide +kernel) rfl rfl (st' := []) rfl ?_
  refine B_blk B jlkX4_ok jcl_SKF [.aload_n 0, .aload_n 1, .getfield 71] (by decide +kernel) (ls' := [(0, jR 1), (1, jR 33)]) (st' := [jI (r14 33 14), jR 1]) rfl (p1 := 159) rfl ?_
  refine K_putI (jI' := 14) B jp_X4_71 rfl rfl rfl (by decide +kernel) ?_
  obtain ⟨m15, hm15, hf⟩ := jlt_s hf
  rw [hm15]
  refine B_blk B jlkX4_ok jcl_SKF [.aload_n 0, .aload_n 1, .getfield 75] (by decide +kernel) (ls' := [(0, jR 1), (1, jR 33)]) (st' := [jI (m15 33 15), jR 1]) rfl (p1 := 167) rfl ?_
  refine K_putI (jI' := 15) B jp_X4_75 rfl rfl rfl (by decide +kernel) ?_
  obtain ⟨m16, hm16, hf⟩ := jlt_s hf
  rw [hm16]
  cases hf
  exact B_retV B hq rfl (Nat.le_of_ble_eq_true rfl) (Nat.le_of_ble_eq_true rfl) (by decide +kernel)

def rm_X9_back : Room := { frames := 7, cells := 0, slots := 0, locals := 107 }
def f_X9_back (m : jMu) : Option (Int × jMu) :=
  (if m 0 8 = 0 then some (0, m) else (f_X4_copyFrom_2 m).bind fun r1 => some (1, r1))
theorem t_X9_back {l : Launch} {G : jG} (hl : l.stackTraces = false) {m : jMu} {r : (Int × jMu)} (hf : f_X9_back m = some r) : jCt l G yX9_back (.code yX9_back cX9_back 1 (some .boolean) :: jWG) rm_X9_back [jR 0] SKF m (.inl (some (jI r.1))) SKF r.2 := by
  unfold f_X9_back at hf
  refine J_start (ls0 := [(0, jR 0)]) (by decide +kernel) hl (Nat.le_of_ble_eq_true rfl) rfl fun X C hN hn hR hr hnm hno hq => ?_
  have B : jB X cX9_back RX9 1 SKF.length rm_X9_back (some .boolean) := ⟨C, hN, Nat.le_of_eq hn, hR, hr⟩
  refine B_blk B jlkX9_ok jcl_SKF [.aload_n 0, .getfield 67] (by decide +kernel) (ls' := [(0, jR 0)]) (st' := [jI (m 0 8)]) rfl (p1 := 4) rfl ?_
  refine J_if_ne B.1 (off := 5) (tgt := 9) (by decide +kernel) (by decide) hf (fun hf => ?_) (fun hf => ?_)
  · refine B_blk B jlkX9_ok jcl_SKF [.iconst 0] (by decide +kernel) (ls' := [(0, jR 0)]) (st' := [jI 0]) rfl (p1 := 8) rfl ?_
    cases hf
    exact B_retZ B (Or.inl rfl) hq rfl (Nat.le_of_ble_eq_true rfl) (Nat.le_of_ble_eq_true rfl) (by decide +kernel)
  · refine B_blk B jlkX9_ok jcl_SKF [.aload_n 0, .getfield 20, .aload_n 0, .getfield 24] (by decide +kernel) (ls' := [(0, jR 0)]) (st' := [jR 33, jR 1]) rfl (p1 := 17) rfl ?_
    obtain ⟨r1, h1, hf⟩ := jbd hf
    refine B_callV B (Nat.le_refl _) (μ' := r1) (k' := 0) (n' := 0) ca_X4_copyFrom in_X4_copyFrom se_X4_copyFrom lk_X9_295 (t_X4_copyFrom_2 B.tr h1) (Nat.le_refl _) rfl rfl rfl (rest := []) rfl rfl (Nat.le_of_ble_eq_true rfl) (by decide +kernel) rfl rfl (st' := []) rfl ?_
    refine B_blk B jlkX9_ok jcl_SKF [.iconst 1] (by decide +kernel) (ls' := [(0, jR 0)]) (st' := [jI 1]) rfl (p1 := 21) rfl ?_
    cases hf
    exact B_retZ B (Or.inr rfl) hq rfl (Nat.le_of_ble_eq_true rfl) (Nat.le_of_ble_eq_true rfl) (by decide +kernel)

def rm_X9_count : Room := { frames := 4, cells := 0, slots := 0, locals := 84 }
def f_X9_count (a0 : Int) (m : jMu) : Option Int :=
  (if a0 = 0 then (f_X5_size 4 5 80 m).bind fun r1 => some r1 else (if a0 = 1 then (f_X5_size 14 15 6 m).bind fun r2 => some r2 else (if a0 = 2 then (f_X5_size 20 21 4 m).bind fun r3 => some r3 else (if a0 = 3 then (f_X5_size 22 23 24 m).bind fun r4 => some r4 else (if a0 = 4 then (f_X5_size 24 25 320 m).bind fun r5 => some r5 else (if a0 = 5 then (f_X5_size 26 27 120 m).bind fun r6 => some r6 else (if a0 = 6 then (f_X5_size 28 29 60 m).bind fun r7 => some r7 else (if a0 = 7 then some (m 1 14) else (if a0 = 8 then (f_X5_size 12 13 24 m).bind fun r8 => some r8 else (if a0 = 9 then (f_X5_size 6 7 210 m).bind fun r9 => some r9 else some (-1)))))))))))
theorem t_X9_count {l : Launch} {G : jG} (hl : l.stackTraces = false) {a0 : Int} {m : jMu} {r : Int} (hf : f_X9_count a0 m = some r) : jCt l G yX9_count (.code yX9_count cX9_count 2 (some .int) :: jWG) rm_X9_count [jR 0, jI a0] SKF m (.inl (some (jI r))) SKF m := by
  unfold f_X9_count at hf
  refine J_start (ls0 := [(0, jR 0), (1, jI a0)]) (by decide +kernel) hl (Nat.le_of_ble_eq_true rfl) rfl fun X C hN hn hR hr hnm hno hq => ?_
  have B : jB X cX9_count RX9 2 SKF.length rm_X9_count (some .int) := ⟨C, hN, Nat.le_of_eq hn, hR, hr⟩
  refine B_blk B jlkX9_ok jcl_SKF [.iload_n 1] (by decide +kernel) (ls' := [(0, jR 0), (1, jI a0)]) (st' := [jI a0]) rfl (p1 := 1) rfl ?_
  rcases jite hf with ⟨c19, hf⟩ | ⟨c19, hf⟩
  · refine K_tswI B (off := 55) (tgt := 56) c19 (dflt := 162) (lo := 0) (hi := 9) (offs := #[55, 66, 77, 88, 99, 110, 121, 132, 140, 151]) (len := 55) (by decide +kernel) (by decide) (by decide) rfl (by decide) ?_
    refine B_blk B jlkX9_ok jcl_SKF [.aload_n 0, .getfield 20, .getfield 101] (by decide +kernel) (ls' := [(0, jR 0), (1, jI a0)]) (st' := [jR 4]) rfl (p1 := 63) rfl ?_
    obtain ⟨r1, h1, hf⟩ := jbd hf
    refine B_callV B (Nat.le_refl _) (μ' := m) (k' := 0) (n' := 0) ca_X5_size in_X5_size se_X5_size lk_X9_140 (t_X5_size B.tr jcl_SKF ⟨rfl, rfl, by decide⟩ h1) (Nat.le_refl _) rfl rfl rfl (rest := []) rfl rfl (Nat.le_of_ble_eq_true rfl) (by decide +kernel) rfl rfl (st' := [jI r1]) rfl ?_
    cases hf
    exact B_retI B hq rfl (Nat.le_of_ble_eq_true rfl) (Nat.le_of_ble_eq_true rfl) (by decide +kernel)
  · rcases jite hf with ⟨c18, hf⟩ | ⟨c18, hf⟩
    · refine K_tswI B (off := 66) (tgt := 67) c18 (dflt := 162) (lo := 0) (hi := 9) (offs := #[55, 66, 77, 88, 99, 110, 121, 132, 140, 151]) (len := 55) (by decide +kernel) (by decide) (by decide) rfl (by decide) ?_
      refine B_blk B jlkX9_ok jcl_SKF [.aload_n 0, .getfield 20, .getfield 158] (by decide +kernel) (ls' := [(0, jR 0), (1, jI a0)]) (st' := [jR 14]) rfl (p1 := 74) rfl ?_
      obtain ⟨r2, h2, hf⟩ := jbd hf
      refine B_callV B (Nat.le_refl _) (μ' := m) (k' := 0) (n' := 0) ca_X5_size in_X5_size se_X5_size lk_X9_140 (t_X5_size B.tr jcl_SKF ⟨rfl, rfl, by decide⟩ h2) (Nat.le_refl _) rfl rfl rfl (rest := []) rfl rfl (Nat.le_of_ble_eq_true rfl) (by decide +kernel) rfl rfl (st' := [jI r2]) rfl ?_
      cases hf
      exact B_retI B hq rfl (Nat.le_of_ble_eq_true rfl) (Nat.le_of_ble_eq_true rfl) (by decide +kernel)
    · rcases jite hf with ⟨c17, hf⟩ | ⟨c17, hf⟩
      · refine K_tswI B (off := 77) (tgt := 78) c17 (dflt := 162) (lo := 0) (hi := 9) (offs := #[55, 66, 77, 88, 99, 110, 121, 132, 140, 151]) (len := 55) (by decide +kernel) (by decide) (by decide) rfl (by decide) ?_
        refine B_blk B jlkX9_ok jcl_SKF [.aload_n 0, .getfield 20, .getfield 180] (by decide +kernel) (ls' := [(0, jR 0), (1, jI a0)]) (st' := [jR 20]) rfl (p1 := 85) rfl ?_
        obtain ⟨r3, h3, hf⟩ := jbd hf
        refine B_callV B (Nat.le_refl _) (μ' := m) (k' := 0) (n' := 0) ca_X5_size in_X5_size se_X5_size lk_X9_140 (t_X5_size B.tr jcl_SKF ⟨rfl, rfl, by decide⟩ h3) (Nat.le_refl _) rfl rfl rfl (rest := []) rfl rfl (Nat.le_of_ble_eq_true rfl) (by decide +kernel) rfl rfl (st' := [jI r3]) rfl ?_
        cases hf
        exact B_retI B hq rfl (Nat.le_of_ble_eq_true rfl) (Nat.le_of_ble_eq_true rfl) (by decide +kernel)
      · rcases jite hf with ⟨c16, hf⟩ | ⟨c16, hf⟩
        · refine K_tswI B (off := 88) (tgt := 89) c16 (dflt := 162) (lo := 0) (hi := 9) (offs := #[55, 66, 77, 88, 99, 110, 121, 132, 140, 151]) (len := 55) (by decide +kernel) (by decide) (by decide) rfl (by decide) ?_
          refine B_blk B jlkX9_ok jcl_SKF [.aload_n 0, .getfield 20, .getfield 183] (by decide +kernel) (ls' := [(0, jR 0), (1, jI a0)]) (st' := [jR 22]) rfl (p1 := 96) rfl ?_
          obtain ⟨r4, h4, hf⟩ := jbd hf
          refine B_callV B (Nat.le_refl _) (μ' := m) (k' := 0) (n' := 0) ca_X5_size in_X5_size se_X5_size lk_X9_140 (t_X5_size B.tr jcl_SKF ⟨rfl, rfl, by decide⟩ h4) (Nat.le_refl _) rfl rfl rfl (rest := []) rfl rfl (Nat.le_of_ble_eq_true rfl) (by decide +kernel) rfl rfl (st' := [jI r4]) rfl ?_
          cases hf
          exact B_retI B hq rfl (Nat.le_of_ble_eq_true rfl) (Nat.le_of_ble_eq_true rfl) (by decide +kernel)
        · rcases jite hf with ⟨c15, hf⟩ | ⟨c15, hf⟩
          · refine K_tswI B (off := 99) (tgt := 100) c15 (dflt := 162) (lo := 0) (hi := 9) (offs := #[55, 66, 77, 88, 99, 110, 121, 132, 140, 151]) (len := 55) (by decide +kernel) (by decide) (by decide) rfl (by decide) ?_
            refine B_blk B jlkX9_ok jcl_SKF [.aload_n 0, .getfield 20, .getfield 199] (by decide +kernel) (ls' := [(0, jR 0), (1, jI a0)]) (st' := [jR 24]) rfl (p1 := 107) rfl ?_
            obtain ⟨r5, h5, hf⟩ := jbd hf
            refine B_callV B (Nat.le_refl _) (μ' := m) (k' := 0) (n' := 0) ca_X5_size in_X5_size se_X5_size lk_X9_140 (t_X5_size B.tr jcl_SKF ⟨rfl, rfl, by decide⟩ h5) (Nat.le_refl _) rfl rfl rfl (rest := []) rfl rfl (Nat.le_of_ble_eq_true rfl) (by decide +kernel) rfl rfl (st' := [jI r5]) rfl ?_
            cases hf
            exact B_retI B hq rfl (Nat.le_of_ble_eq_true rfl) (Nat.le_of_ble_eq_true rfl) (by decide +kernel)
          · rcases jite hf with ⟨c14, hf⟩ | ⟨c14, hf⟩
            · refine K_tswI B (off := 110) (tgt := 111) c14 (dflt := 162) (lo := 0) (hi := 9) (offs := #[55, 66, 77, 88, 99, 110, 121, 132, 140, 151]) (len := 55) (by decide +kernel) (by decide) (by decide) rfl (by decide) ?_
              refine B_blk B jlkX9_ok jcl_SKF [.aload_n 0, .getfield 20, .getfield 230] (by decide +kernel) (ls' := [(0, jR 0), (1, jI a0)]) (st' := [jR 26]) rfl (p1 := 118) rfl ?_
              obtain ⟨r6, h6, hf⟩ := jbd hf
              refine B_callV B (Nat.le_refl _) (μ' := m) (k' := 0) (n' := 0) ca_X5_size in_X5_size se_X5_size lk_X9_140 (t_X5_size B.tr jcl_SKF ⟨rfl, rfl, by decide⟩ h6) (Nat.le_refl _) rfl rfl rfl (rest := []) rfl rfl (Nat.le_of_ble_eq_true rfl) (by decide +kernel) rfl rfl (st' := [jI r6]) rfl ?_
              cases hf
              exact B_retI B hq rfl (Nat.le_of_ble_eq_true rfl) (Nat.le_of_ble_eq_true rfl) (by decide +kernel)
            · rcases jite hf with ⟨c13, hf⟩ | ⟨c13, hf⟩
              · refine K_tswI B (off := 121) (tgt := 122) c13 (dflt := 162) (lo := 0) (hi := 9) (offs := #[55, 66, 77, 88, 99, 110, 121, 132, 140, 151]) (len := 55) (by decide +kernel) (by decide) (by decide) rfl (by decide) ?_
                refine B_blk B jlkX9_ok jcl_SKF [.aload_n 0, .getfield 20, .getfield 286] (by decide +kernel) (ls' := [(0, jR 0), (1, jI a0)]) (st' := [jR 28]) rfl (p1 := 129) rfl ?_
                obtain ⟨r7, h7, hf⟩ := jbd hf
                refine B_callV B (Nat.le_refl _) (μ' := m) (k' := 0) (n' := 0) ca_X5_size in_X5_size se_X5_size lk_X9_140 (t_X5_size B.tr jcl_SKF ⟨rfl, rfl, by decide⟩ h7) (Nat.le_refl _) rfl rfl rfl (rest := []) rfl rfl (Nat.le_of_ble_eq_true rfl) (by decide +kernel) rfl rfl (st' := [jI r7]) rfl ?_
                cases hf
                exact B_retI B hq rfl (Nat.le_of_ble_eq_true rfl) (Nat.le_of_ble_eq_true rfl) (by decide +kernel)
              · rcases jite hf with ⟨c12, hf⟩ | ⟨c12, hf⟩
                · refine K_tswI B (off := 132) (tgt := 133) c12 (dflt := 162) (lo := 0) (hi := 9) (offs := #[55, 66, 77, 88, 99, 110, 121, 132, 140, 151]) (len := 55) (by decide +kernel) (by decide) (by decide) rfl (by decide) ?_
                  refine B_blk B jlkX9_ok jcl_SKF [.aload_n 0, .getfield 20, .getfield 90] (by decide +kernel) (ls' := [(0, jR 0), (1, jI a0)]) (st' := [jI (m 1 14)]) rfl (p1 := 140) rfl ?_
                  cases hf
                  exact B_retI B hq rfl (Nat.le_of_ble_eq_true rfl) (Nat.le_of_ble_eq_true rfl) (by decide +kernel)
                · rcases jite hf with ⟨c11, hf⟩ | ⟨c11, hf⟩
                  · refine K_tswI B (off := 140) (tgt := 141) c11 (dflt := 162) (lo := 0) (hi := 9) (offs := #[55, 66, 77, 88, 99, 110, 121, 132, 140, 151]) (len := 55) (by decide +kernel) (by decide) (by decide) rfl (by decide) ?_
                    refine B_blk B jlkX9_ok jcl_SKF [.aload_n 0, .getfield 20, .getfield 146] (by decide +kernel) (ls' := [(0, jR 0), (1, jI a0)]) (st' := [jR 12]) rfl (p1 := 148) rfl ?_
                    obtain ⟨r8, h8, hf⟩ := jbd hf
                    refine B_callV B (Nat.le_refl _) (μ' := m) (k' := 0) (n' := 0) ca_X5_size in_X5_size se_X5_size lk_X9_140 (t_X5_size B.tr jcl_SKF ⟨rfl, rfl, by decide⟩ h8) (Nat.le_refl _) rfl rfl rfl (rest := []) rfl rfl (Nat.le_of_ble_eq_true rfl) (by decide +kernel) rfl rfl (st' := [jI r8]) rfl ?_
                    cases hf
                    exact B_retI B hq rfl (Nat.le_of_ble_eq_true rfl) (Nat.le_of_ble_eq_true rfl) (by decide +kernel)
                  · rcases jite hf with ⟨c10, hf⟩ | ⟨c10, hf⟩
                    · refine K_tswI B (off := 151) (tgt := 152) c10 (dflt := 162) (lo := 0) (hi := 9) (offs := #[55, 66, 77, 88, 99, 110, 121, 132, 140, 151]) (len := 55) (by decide +kernel) (by decide) (by decide) rfl (by decide) ?_
                      refine B_blk B jlkX9_ok jcl_SKF [.aload_n 0, .getfield 20, .getfield 128] (by decide +kernel) (ls' := [(0, jR 0), (1, jI a0)]) (st' := [jR 6]) rfl (p1 := 159) rfl ?_
                      obtain ⟨r9, h9, hf⟩ := jbd hf
                      refine B_callV B (Nat.le_refl _) (μ' := m) (k' := 0) (n' := 0) ca_X5_size in_X5_size se_X5_size lk_X9_140 (t_X5_size B.tr jcl_SKF ⟨rfl, rfl, by decide⟩ h9) (Nat.le_refl _) rfl rfl rfl (rest := []) rfl rfl (Nat.le_of_ble_eq_true rfl) (by decide +kernel) rfl rfl (st' := [jI r9]) rfl ?_
                      cases hf
                      exact B_retI B hq rfl (Nat.le_of_ble_eq_true rfl) (Nat.le_of_ble_eq_true rfl) (by decide +kernel)
                    · refine J_tswO B.1 (tgt := 163) (dflt := 162) (lo := 0) (hi := 9) (offs := #[55, 66, 77, 88, 99, 110, 121, 132, 140, 151]) (len := 55) (by decide +kernel) (by omega) (by decide) ?_
                      refine B_blk B jlkX9_ok jcl_SKF [.iconst (-1)] (by decide +kernel) (ls' := [(0, jR 0), (1, jI a0)]) (st' := [jI (-1)]) rfl (p1 := 164) rfl ?_
                      cases hf
                      exact B_retI B hq rfl (Nat.le_of_ble_eq_true rfl) (Nat.le_of_ble_eq_true rfl) (by decide +kernel)

def rm_X10_feed : Room := { frames := 2, cells := 0, slots := 0, locals := 64 }
def f_X10_feed_L23 : Nat → Int → Int → Int → Int → Int → Int → jMu → Option (Int × jMu)
  | 0, _, _, _, _, _, _, _ => none
  | q + 1, v1, v2, v3, v4, v5, v6, m => (if 20 ≤ v6 then some (m 74 5, m) else (if 4 ≤ v6 then (if 8 ≤ v6 then (if 12 ≤ v6 then (if 16 ≤ v6 then (if 0 ≤ m 74 5 ∧ m 74 5 < 400 then (jlt (jup m 77 (m 74 5) (jAn (jUr v5 (jW (24 - jW (8 * jRm v6 4)))) 255)) fun m2 => (jlt (jup m2 74 5 (jW (m2 74 5 + 1))) fun m3 => f_X10_feed_L23 q v1 v2 v3 v4 v5 (jW (v6 + 1)) m3)) else none) else (if 0 ≤ m 74 5 ∧ m 74 5 < 400 then (jlt (jup m 77 (m 74 5) (jAn (jUr v4 (jW (24 - jW (8 * jRm v6 4)))) 255)) fun m5 => (jlt (jup m5 74 5 (jW (m5 74 5 + 1))) fun m6 => f_X10_feed_L23 q v1 v2 v3 v4 v5 (jW (v6 + 1)) m6)) else none)) else (if 0 ≤ m 74 5 ∧ m 74 5 < 400 then (jlt (jup m 77 (m 74 5) (jAn (jUr v3 (jW (24 - jW (8 * jRm v6 4)))) 255)) fun m8 => (jlt (jup m8 74 5 (jW (m8 74 5 + 1))) fun m9 => f_X10_feed_L23 q v1 v2 v3 v4 v5 (jW (v6 + 1)) m9)) else none)) else (if 0 ≤ m 74 5 ∧ m 74 5 < 400 then (jlt (jup m 77 (m 74 5) (jAn (jUr v2 (jW (24 - jW (8 * jRm v6 4)))) 255)) fun m11 => (jlt (jup m11 74 5 (jW (m11 74 5 + 1))) fun m12 => f_X10_feed_L23 q v1 v2 v3 v4 v5 (jW (v6 + 1)) m12)) else none)) else (if 0 ≤ m 74 5 ∧ m 74 5 < 400 then (jlt (jup m 77 (m 74 5) (jAn (jUr v1 (jW (24 - jW (8 * jRm v6 4)))) 255)) fun m14 => (jlt (jup m14 74 5 (jW (m14 74 5 + 1))) fun m15 => f_X10_feed_L23 q v1 v2 v3 v4 v5 (jW (v6 + 1)) m15)) else none)))
def f_X10_feed (a0 : Int) (a1 : Int) (a2 : Int) (a3 : Int) (a4 : Int) (m : jMu) : Option (Int × jMu) :=
  (jlt (jup m 74 0 0) fun m1 => (if jW (m1 74 5 + 20) ≤ 400 then f_X10_feed_L23 jFU a0 a1 a2 a3 a4 0 m1 else some ((-1), m1)))
theorem t_X10_feed_L23 {X : jX} (B : jB X cX10_feed RX10 8 SKF.length rm_X10_feed (some .int)) : ∀ (q : Nat) (v1 : Int) (v2 : Int) (v3 : Int) (v4 : Int) (v5 : Int) (v6 : Int) (m : jMu) (r : (Int × jMu)), f_X10_feed_L23 q v1 v2 v3 v4 v5 v6 m = some r → jQ X (.inl (some (jI r.1))) SKF r.2 rm_X10_feed.cells rm_X10_feed.slots → J X SKF m 0 0 23 [(0, jR 74), (1, jI v1), (2, jI v2), (3, jI v3), (4, jI v4), (5, jI v5), (6, jI v6)] [] := by
  intro q
  induction q with
  | zero =>
    intro v1 v2 v3 v4 v5 v6 m r hf
    rw [f_X10_feed_L23] at hf
    cases hf
  | succ q ih =>
    intro v1 v2 v3 v4 v5 v6 m r hf hq
    rw [f_X10_feed_L23] at hf
    refine B_blk B jlkX10_ok jcl_SKF [.iload 6, .bipush 20] (by decide +kernel) (ls' := [(0, jR 74), (1, jI v1), (2, jI v2), (3, jI v3), (4, jI v4), (5, jI v5), (6, jI v6)]) (st' := [jI 20, jI v6]) rfl (p1 := 27) rfl ?_
    refine J_icmp_ge B.1 (off := 93) (tgt := 120) (by decide +kernel) (by decide) hf (fun hf => ?_) (fun hf => ?_)
    · refine B_blk B jlkX10_ok jcl_SKF [.aload_n 0, .getfield 58] (by decide +kernel) (ls' := [(0, jR 74), (1, jI v1), (2, jI v2), (3, jI v3), (4, jI v4), (5, jI v5), (6, jI v6)]) (st' := [jI (m 74 5)]) rfl (p1 := 124) rfl ?_
      cases hf
      exact B_retI B hq rfl (Nat.le_of_ble_eq_true rfl) (Nat.le_of_ble_eq_true rfl) (by decide +kernel)
    · refine B_blk B jlkX10_ok jcl_SKF [.iload 6, .iconst 4] (by decide +kernel) (ls' := [(0, jR 74), (1, jI v1), (2, jI v2), (3, jI v3), (4, jI v4), (5, jI v5), (6, jI v6)]) (st' := [jI 4, jI v6]) rfl (p1 := 33) rfl ?_
      refine J_icmp_ge B.1 (off := 7) (tgt := 40) (by decide +kernel) (by decide) hf (fun hf => ?_) (fun hf => ?_)
      · refine B_blk B jlkX10_ok jcl_SKF [.iload 6, .bipush 8] (by decide +kernel) (ls' := [(0, jR 74), (1, jI v1), (2, jI v2), (3, jI v3), (4, jI v4), (5, jI v5), (6, jI v6)]) (st' := [jI 8, jI v6]) rfl (p1 := 44) rfl ?_
        refine J_icmp_ge B.1 (off := 7) (tgt := 51) (by decide +kernel) (by decide) hf (fun hf => ?_) (fun hf => ?_)
        · refine B_blk B jlkX10_ok jcl_SKF [.iload 6, .bipush 12] (by decide +kernel) (ls' := [(0, jR 74), (1, jI v1), (2, jI v2), (3, jI v3), (4, jI v4), (5, jI v5), (6, jI v6)]) (st' := [jI 12, jI v6]) rfl (p1 := 55) rfl ?_
          refine J_icmp_ge B.1 (off := 7) (tgt := 62) (by decide +kernel) (by decide) hf (fun hf => ?_) (fun hf => ?_)
          · refine B_blk B jlkX10_ok jcl_SKF [.iload 6, .bipush 16] (by decide +kernel) (ls' := [(0, jR 74), (1, jI v1), (2, jI v2), (3, jI v3), (4, jI v4), (5, jI v5), (6, jI v6)]) (st' := [jI 16, jI v6]) rfl (p1 := 66) rfl ?_
            refine J_icmp_ge B.1 (off := 8) (tgt := 74) (by decide +kernel) (by decide) hf (fun hf => ?_) (fun hf => ?_)
            · refine B_blk B jlkX10_ok jcl_SKF [.iload 5, .istore 7, .aload_n 0, .getfield 16, .aload_n 0, .getfield 58, .iload 7, .bipush 24, .bipush 8, .iload 6, .iconst 4] (by decide +kernel) (ls' := [(0, jR 74), (1, jI v1), (2, jI v2), (3, jI v3), (4, jI v4), (5, jI v5), (6, jI v6), (7, jI v5)]) (st' := [jI 4, jI v6, jI 8, jI 24, jI v5, jI (m 74 5), jR 77]) rfl (p1 := 95) rfl ?_
              refine K_irem B (by decide) (by decide +kernel) ?_
              refine B_blk B jlkX10_ok jcl_SKF [.imul, .isub, .iushr, .sipush 255, .iand] (by decide +kernel) (ls' := [(0, jR 74), (1, jI v1), (2, jI v2), (3, jI v3), (4, jI v4), (5, jI v5), (6, jI v6), (7, jI v5)]) (st' := [jI (jAn (jUr v5 (jW (24 - jW (8 * jRm v6 4)))) 255), jI (m 74 5), jR 77]) rfl (p1 := 103) rfl ?_
              obtain ⟨g4, hf⟩ := jgd hf
              refine K_iast (lenI := 400) B rfl rfl g4 (by decide +kernel) ?_
              obtain ⟨m2, hm2, hf⟩ := jlt_s hf
              rw [hm2]
              refine B_blk B jlkX10_ok jcl_SKF [.aload_n 0, .dup, .getfield 58, .iconst 1, .iadd] (by decide +kernel) (ls' := [(0, jR 74), (1, jI v1), (2, jI v2), (3, jI v3), (4, jI v4), (5, jI v5), (6, jI v6), (7, jI v5)]) (st' := [jI (jW (m2 74 5 + 1)), jR 74]) rfl (p1 := 111) rfl ?_
              refine K_putI (jI' := 5) B jp_X10_58 rfl rfl rfl (by decide +kernel) ?_
              obtain ⟨m3, hm3, hf⟩ := jlt_s hf
              rw [hm3]
              refine B_blk B jlkX10_ok jcl_SKF [.iinc 6 1, .goto (-94)] (by decide +kernel) (ls' := [(0, jR 74), (1, jI v1), (2, jI v2), (3, jI v3), (4, jI v4), (5, jI v5), (6, jI (jW (v6 + 1))), (7, jI v5)]) (st' := []) rfl (p1 := 23) rfl ?_
              refine J_pick [0, 1, 2, 3, 4, 5, 6] (ls' := [(0, jR 74), (1, jI v1), (2, jI v2), (3, jI v3), (4, jI v4), (5, jI v5), (6, jI (jW (v6 + 1)))]) rfl ?_
              exact ih v1 v2 v3 v4 v5 (jW (v6 + 1)) m3 _ hf hq
            · refine B_blk B jlkX10_ok jcl_SKF [.iload 4, .goto 5, .istore 7, .aload_n 0, .getfield 16, .aload_n 0, .getfield 58, .iload 7, .bipush 24, .bipush 8, .iload 6, .iconst 4] (by decide +kernel) (ls' := [(0, jR 74), (1, jI v1), (2, jI v2), (3, jI v3), (4, jI v4), (5, jI v5), (6, jI v6), (7, jI v4)]) (st' := [jI 4, jI v6, jI 8, jI 24, jI v4, jI (m 74 5), jR 77]) rfl (p1 := 95) rfl ?_
              refine K_irem B (by decide) (by decide +kernel) ?_
              refine B_blk B jlkX10_ok jcl_SKF [.imul, .isub, .iushr, .sipush 255, .iand] (by decide +kernel) (ls' := [(0, jR 74), (1, jI v1), (2, jI v2), (3, jI v3), (4, jI v4), (5, jI v5), (6, jI v6), (7, jI v4)]) (st' := [jI (jAn (jUr v4 (jW (24 - jW (8 * jRm v6 4)))) 255), jI (m 74 5), jR 77]) rfl (p1 := 103) rfl ?_
              obtain ⟨g7, hf⟩ := jgd hf
              refine K_iast (lenI := 400) B rfl rfl g7 (by decide +kernel) ?_
              obtain ⟨m5, hm5, hf⟩ := jlt_s hf
              rw [hm5]
              refine B_blk B jlkX10_ok jcl_SKF [.aload_n 0, .dup, .getfield 58, .iconst 1, .iadd] (by decide +kernel) (ls' := [(0, jR 74), (1, jI v1), (2, jI v2), (3, jI v3), (4, jI v4), (5, jI v5), (6, jI v6), (7, jI v4)]) (st' := [jI (jW (m5 74 5 + 1)), jR 74]) rfl (p1 := 111) rfl ?_
              refine K_putI (jI' := 5) B jp_X10_58 rfl rfl rfl (by decide +kernel) ?_
              obtain ⟨m6, hm6, hf⟩ := jlt_s hf
              rw [hm6]
              refine B_blk B jlkX10_ok jcl_SKF [.iinc 6 1, .goto (-94)] (by decide +kernel) (ls' := [(0, jR 74), (1, jI v1), (2, jI v2), (3, jI v3), (4, jI v4), (5, jI v5), (6, jI (jW (v6 + 1))), (7, jI v4)]) (st' := []) rfl (p1 := 23) rfl ?_
              refine J_pick [0, 1, 2, 3, 4, 5, 6] (ls' := [(0, jR 74), (1, jI v1), (2, jI v2), (3, jI v3), (4, jI v4), (5, jI v5), (6, jI (jW (v6 + 1)))]) rfl ?_
              exact ih v1 v2 v3 v4 v5 (jW (v6 + 1)) m6 _ hf hq
          · refine B_blk B jlkX10_ok jcl_SKF [.iload_n 3, .goto 17, .istore 7, .aload_n 0, .getfield 16, .aload_n 0, .getfield 58, .iload 7, .bipush 24, .bipush 8, .iload 6, .iconst 4] (by decide +kernel) (ls' := [(0, jR 74), (1, jI v1), (2, jI v2), (3, jI v3), (4, jI v4), (5, jI v5), (6, jI v6), (7, jI v3)]) (st' := [jI 4, jI v6, jI 8, jI 24, jI v3, jI (m 74 5), jR 77]) rfl (p1 := 95) rfl ?_
            refine K_irem B (by decide) (by decide +kernel) ?_
            refine B_blk B jlkX10_ok jcl_SKF [.imul, .isub, .iushr, .sipush 255, .iand] (by decide +kernel) (ls' := [(0, jR 74), (1, jI v1), (2, jI v2), (3, jI v3), (4, jI v4), (5, jI v5), (6, jI v6), (7, jI v3)]) (st' := [jI (jAn (jUr v3 (jW (24 - jW (8 * jRm v6 4)))) 255), jI (m 74 5), jR 77]) rfl (p1 := 103) rfl ?_
            obtain ⟨g10, hf⟩ := jgd hf
            refine K_iast (lenI := 400) B rfl rfl g10 (by decide +kernel) ?_
            obtain ⟨m8, hm8, hf⟩ := jlt_s hf
            rw [hm8]
            refine B_blk B jlkX10_ok jcl_SKF [.aload_n 0, .dup, .getfield 58, .iconst 1, .iadd] (by decide +kernel) (ls' := [(0, jR 74), (1, jI v1), (2, jI v2), (3, jI v3), (4, jI v4), (5, jI v5), (6, jI v6), (7, jI v3)]) (st' := [jI (jW (m8 74 5 + 1)), jR 74]) rfl (p1 := 111) rfl ?_
            refine K_putI (jI' := 5) B jp_X10_58 rfl rfl rfl (by decide +kernel) ?_
            obtain ⟨m9, hm9, hf⟩ := jlt_s hf
            rw [hm9]
            refine B_blk B jlkX10_ok jcl_SKF [.iinc 6 1, .goto (-94)] (by decide +kernel) (ls' := [(0, jR 74), (1, jI v1), (2, jI v2), (3, jI v3), (4, jI v4), (5, jI v5), (6, jI (jW (v6 + 1))), (7, jI v3)]) (st' := []) rfl (p1 := 23) rfl ?_
            refine J_pick [0, 1, 2, 3, 4, 5, 6] (ls' := [(0, jR 74), (1, jI v1), (2, jI v2), (3, jI v3), (4, jI v4), (5, jI v5), (6, jI (jW (v6 + 1)))]) rfl ?_
            exact ih v1 v2 v3 v4 v5 (jW (v6 + 1)) m9 _ hf hq
        · refine B_blk B jlkX10_ok jcl_SKF [.iload_n 2, .goto 28, .istore 7, .aload_n 0, .getfield 16, .aload_n 0, .getfield 58, .iload 7, .bipush 24, .bipush 8, .iload 6, .iconst 4] (by decide +kernel) (ls' := [(0, jR 74), (1, jI v1), (2, jI v2), (3, jI v3), (4, jI v4), (5, jI v5), (6, jI v6), (7, jI v2)]) (st' := [jI 4, jI v6, jI 8, jI 24, jI v2, jI (m 74 5), jR 77]) rfl (p1 := 95) rfl ?_
          refine K_irem B (by decide) (by decide +kernel) ?_
          refine B_blk B jlkX10_ok jcl_SKF [.imul, .isub, .iushr, .sipush 255, .iand] (by decide +kernel) (ls' := [(0, jR 74), (1, jI v1), (2, jI v2), (3, jI v3), (4, jI v4), (5, jI v5), (6, jI v6), (7, jI v2)]) (st' := [jI (jAn (jUr v2 (jW (24 - jW (8 * jRm v6 4)))) 255), jI (m 74 5), jR 77]) rfl (p1 := 103) rfl ?_
          obtain ⟨g13, hf⟩ := jgd hf
          refine K_iast (lenI := 400) B rfl rfl g13 (by decide +kernel) ?_
          obtain ⟨m11, hm11, hf⟩ := jlt_s hf
          rw [hm11]
          refine B_blk B jlkX10_ok jcl_SKF [.aload_n 0, .dup, .getfield 58, .iconst 1, .iadd] (by decide +kernel) (ls' := [(0, jR 74), (1, jI v1), (2, jI v2), (3, jI v3), (4, jI v4), (5, jI v5), (6, jI v6), (7, jI v2)]) (st' := [jI (jW (m11 74 5 + 1)), jR 74]) rfl (p1 := 111) rfl ?_
          refine K_putI (jI' := 5) B jp_X10_58 rfl rfl rfl (by decide +kernel) ?_
          obtain ⟨m12, hm12, hf⟩ := jlt_s hf
          rw [hm12]
          refine B_blk B jlkX10_ok jcl_SKF [.iinc 6 1, .goto (-94)] (by decide +kernel) (ls' := [(0, jR 74), (1, jI v1), (2, jI v2), (3, jI v3), (4, jI v4), (5, jI v5), (6, jI (jW (v6 + 1))), (7, jI v2)]) (st' := []) rfl (p1 := 23) rfl ?_
          refine J_pick [0, 1, 2, 3, 4, 5, 6] (ls' := [(0, jR 74), (1, jI v1), (2, jI v2), (3, jI v3), (4, jI v4), (5, jI v5), (6, jI (jW (v6 + 1)))]) rfl ?_
          exact ih v1 v2 v3 v4 v5 (jW (v6 + 1)) m12 _ hf hq
      · refine B_blk B jlkX10_ok jcl_SKF [.iload_n 1, .goto 39, .istore 7, .aload_n 0, .getfield 16, .aload_n 0, .getfield 58, .iload 7, .bipush 24, .bipush 8, .iload 6, .iconst 4] (by decide +kernel) (ls' := [(0, jR 74), (1, jI v1), (2, jI v2), (3, jI v3), (4, jI v4), (5, jI v5), (6, jI v6), (7, jI v1)]) (st' := [jI 4, jI v6, jI 8, jI 24, jI v1, jI (m 74 5), jR 77]) rfl (p1 := 95) rfl ?_
        refine K_irem B (by decide) (by decide +kernel) ?_
        refine B_blk B jlkX10_ok jcl_SKF [.imul, .isub, .iushr, .sipush 255, .iand] (by decide +kernel) (ls' := [(0, jR 74), (1, jI v1), (2, jI v2), (3, jI v3), (4, jI v4), (5, jI v5), (6, jI v6), (7, jI v1)]) (st' := [jI (jAn (jUr v1 (jW (24 - jW (8 * jRm v6 4)))) 255), jI (m 74 5), jR 77]) rfl (p1 := 103) rfl ?_
        obtain ⟨g16, hf⟩ := jgd hf
        refine K_iast (lenI := 400) B rfl rfl g16 (by decide +kernel) ?_
        obtain ⟨m14, hm14, hf⟩ := jlt_s hf
        rw [hm14]
        refine B_blk B jlkX10_ok jcl_SKF [.aload_n 0, .dup, .getfield 58, .iconst 1, .iadd] (by decide +kernel) (ls' := [(0, jR 74), (1, jI v1), (2, jI v2), (3, jI v3), (4, jI v4), (5, jI v5), (6, jI v6), (7, jI v1)]) (st' := [jI (jW (m14 74 5 + 1)), jR 74]) rfl (p1 := 111) rfl ?_
        refine K_putI (jI' := 5) B jp_X10_58 rfl rfl rfl (by decide +kernel) ?_
        obtain ⟨m15, hm15, hf⟩ := jlt_s hf
        rw [hm15]
        refine B_blk B jlkX10_ok jcl_SKF [.iinc 6 1, .goto (-94)] (by decide +kernel) (ls' := [(0, jR 74), (1, jI v1), (2, jI v2), (3, jI v3), (4, jI v4), (5, jI v5), (6, jI (jW (v6 + 1))), (7, jI v1)]) (st' := []) rfl (p1 := 23) rfl ?_
        refine J_pick [0, 1, 2, 3, 4, 5, 6] (ls' := [(0, jR 74), (1, jI v1), (2, jI v2), (3, jI v3), (4, jI v4), (5, jI v5), (6, jI (jW (v6 + 1)))]) rfl ?_
        exact ih v1 v2 v3 v4 v5 (jW (v6 + 1)) m15 _ hf hq
theorem t_X10_feed {l : Launch} {G : jG} (hl : l.stackTraces = false) {a0 : Int} {a1 : Int} {a2 : Int} {a3 : Int} {a4 : Int} {m : jMu} {r : (Int × jMu)} (hf : f_X10_feed a0 a1 a2 a3 a4 m = some r) : jCt l G yX10_feed (.code yX10_feed cX10_feed 8 (some .int) :: jWG) rm_X10_feed [jR 74, jI a0, jI a1, jI a2, jI a3, jI a4] SKF m (.inl (some (jI r.1))) SKF r.2 := by
  unfold f_X10_feed at hf
  refine J_start (ls0 := [(0, jR 74), (1, jI a0), (2, jI a1), (3, jI a2), (4, jI a3), (5, jI a4)]) (by decide +kernel) hl (Nat.le_of_ble_eq_true rfl) rfl fun X C hN hn hR hr hnm hno hq => ?_
  have B : jB X cX10_feed RX10 8 SKF.length rm_X10_feed (some .int) := ⟨C, hN, Nat.le_of_eq hn, hR, hr⟩
  refine B_blk B jlkX10_ok jcl_SKF [.aload_n 0, .iconst 0] (by decide +kernel) (ls' := [(0, jR 74), (1, jI a0), (2, jI a1), (3, jI a2), (4, jI a3), (5, jI a4)]) (st' := [jI 0, jR 74]) rfl (p1 := 2) rfl ?_
  refine K_putI (jI' := 0) B jp_X10_51 rfl rfl rfl (by decide +kernel) ?_
  obtain ⟨m1, hm1, hf⟩ := jlt_s hf
  rw [hm1]
  refine B_blk B jlkX10_ok jcl_SKF [.aload_n 0, .getfield 58, .bipush 20, .iadd, .sipush 400] (by decide +kernel) (ls' := [(0, jR 74), (1, jI a0), (2, jI a1), (3, jI a2), (4, jI a3), (5, jI a4)]) (st' := [jI 400, jI (jW (m1 74 5 + 20))]) rfl (p1 := 15) rfl ?_
  refine J_icmp_le B.1 (off := 5) (tgt := 20) (by decide +kernel) (by decide) hf (fun hf => ?_) (fun hf => ?_)
  · refine B_blk B jlkX10_ok jcl_SKF [.iconst 0, .istore 6] (by decide +kernel) (ls' := [(0, jR 74), (1, jI a0), (2, jI a1), (3, jI a2), (4, jI a3), (5, jI a4), (6, jI 0)]) (st' := []) rfl (p1 := 23) rfl ?_
    exact t_X10_feed_L23 B jFU a0 a1 a2 a3 a4 0 m1 _ hf hq
  · refine B_blk B jlkX10_ok jcl_SKF [.iconst (-1)] (by decide +kernel) (ls' := [(0, jR 74), (1, jI a0), (2, jI a1), (3, jI a2), (4, jI a3), (5, jI a4)]) (st' := [jI (-1)]) rfl (p1 := 19) rfl ?_
    cases hf
    exact B_retI B hq rfl (Nat.le_of_ble_eq_true rfl) (Nat.le_of_ble_eq_true rfl) (by decide +kernel)

def rm_X10_isIn : Room := { frames := 2, cells := 0, slots := 0, locals := 64 }
def f_X10_isIn (a0 : Int) (a1 : Int) (a2 : Int) : Option Int :=
  (if a0 < a1 then some 0 else (if a2 < a0 then some 0 else some 1))
theorem t_X10_isIn {l : Launch} {G : jG} (hl : l.stackTraces = false) {S : List jSh} (hcl : jcl S) {a0 : Int} {a1 : Int} {a2 : Int} {μ : jMu} {r : Int} (hf : f_X10_isIn a0 a1 a2 = some r) : jCt l G yX10_isIn (.code yX10_isIn cX10_isIn 3 (some .boolean) :: jWG) rm_X10_isIn [jI a0, jI a1, jI a2] S μ (.inl (some (jI r))) S μ := by
  unfold f_X10_isIn at hf
  refine J_start (ls0 := [(0, jI a0), (1, jI a1), (2, jI a2)]) (by decide +kernel) hl (Nat.le_of_ble_eq_true rfl) rfl fun X C hN hn hR hr hnm hno hq => ?_
  have B : jB X cX10_isIn RX10 3 S.length rm_X10_isIn (some .boolean) := ⟨C, hN, Nat.le_of_eq hn, hR, hr⟩
  refine B_blk B jlkX10_ok hcl [.iload_n 0, .iload_n 1] (by decide +kernel) (ls' := [(0, jI a0), (1, jI a1), (2, jI a2)]) (st' := [jI a1, jI a0]) rfl (p1 := 2) rfl ?_
  refine J_icmp_lt B.1 (off := 12) (tgt := 14) (by decide +kernel) (by decide) hf (fun hf => ?_) (fun hf => ?_)
  · refine B_blk B jlkX10_ok hcl [.iconst 0] (by decide +kernel) (ls' := [(0, jI a0), (1, jI a1), (2, jI a2)]) (st' := [jI 0]) rfl (p1 := 15) rfl ?_
    cases hf
    exact B_retZ B (Or.inl rfl) hq rfl (Nat.le_of_ble_eq_true rfl) (Nat.le_of_ble_eq_true rfl) (by decide +kernel)
  · refine B_blk B jlkX10_ok hcl [.iload_n 0, .iload_n 2] (by decide +kernel) (ls' := [(0, jI a0), (1, jI a1), (2, jI a2)]) (st' := [jI a2, jI a0]) rfl (p1 := 7) rfl ?_
    refine J_icmp_gt B.1 (off := 7) (tgt := 14) (by decide +kernel) (by decide) hf (fun hf => ?_) (fun hf => ?_)
    · refine B_blk B jlkX10_ok hcl [.iconst 0] (by decide +kernel) (ls' := [(0, jI a0), (1, jI a1), (2, jI a2)]) (st' := [jI 0]) rfl (p1 := 15) rfl ?_
      cases hf
      exact B_retZ B (Or.inl rfl) hq rfl (Nat.le_of_ble_eq_true rfl) (Nat.le_of_ble_eq_true rfl) (by decide +kernel)
    · refine B_blk B jlkX10_ok hcl [.iconst 1, .goto 4] (by decide +kernel) (ls' := [(0, jI a0), (1, jI a1), (2, jI a2)]) (st' := [jI 1]) rfl (p1 := 15) rfl ?_
      cases hf
      exact B_retZ B (Or.inr rfl) hq rfl (Nat.le_of_ble_eq_true rfl) (Nat.le_of_ble_eq_true rfl) (by decide +kernel)

def rm_X10_end : Room := { frames := 4, cells := 0, slots := 0, locals := 86 }
def f_X10_end (a0 : Int) (m : jMu) : Option (Int × jMu) :=
  (jlt (jup m 74 0 0) fun m1 => (f_X10_isIn a0 0 (m1 74 5)).bind fun r2 => (if r2 = 0 then some (0, m1) else (jlt (jup m1 74 5 a0) fun m3 => some (1, m3))))
theorem t_X10_end {l : Launch} {G : jG} (hl : l.stackTraces = false) {a0 : Int} {m : jMu} {r : (Int × jMu)} (hf : f_X10_end a0 m = some r) : jCt l G yX10_end (.code yX10_end cX10_end 2 (some .boolean) :: jWG) rm_X10_end [jR 74, jI a0] SKF m (.inl (some (jI r.1))) SKF r.2 := by
  unfold f_X10_end at hf
  refine J_start (ls0 := [(0, jR 74), (1, jI a0)]) (by decide +kernel) hl (Nat.le_of_ble_eq_true rfl) rfl fun X C hN hn hR hr hnm hno hq => ?_
  have B : jB X cX10_end RX10 2 SKF.length rm_X10_end (some .boolean) := ⟨C, hN, Nat.le_of_eq hn, hR, hr⟩
  refine B_blk B jlkX10_ok jcl_SKF [.aload_n 0, .iconst 0] (by decide +kernel) (ls' := [(0, jR 74), (1, jI a0)]) (st' := [jI 0, jR 74]) rfl (p1 := 2) rfl ?_
  refine K_putI (jI' := 0) B jp_X10_51 rfl rfl rfl (by decide +kernel) ?_
  obtain ⟨m1, hm1, hf⟩ := jlt_s hf
  rw [hm1]
  refine B_blk B jlkX10_ok jcl_SKF [.iload_n 1, .iconst 0, .aload_n 0, .getfield 58] (by decide +kernel) (ls' := [(0, jR 74), (1, jI a0)]) (st' := [jI (m1 74 5), jI 0, jI a0]) rfl (p1 := 11) rfl ?_
  obtain ⟨r2, h2, hf⟩ := jbd hf
  refine B_callS B (Nat.le_refl _) (μ' := m1) (k' := 0) (n' := 0) ca_X10_isIn sa_X10_isIn lk_X10_54 (t_X10_isIn B.tr jcl_SKF h2) (Nat.le_refl _) rfl (rest := []) rfl rfl (Nat.le_of_ble_eq_true rfl) (by decide +kernel) rfl rfl (st' := [jI r2]) rfl ?_
  refine J_if_ne B.1 (off := 5) (tgt := 19) (by decide +kernel) (by decide) hf (fun hf => ?_) (fun hf => ?_)
  · refine B_blk B jlkX10_ok jcl_SKF [.iconst 0] (by decide +kernel) (ls' := [(0, jR 74), (1, jI a0)]) (st' := [jI 0]) rfl (p1 := 18) rfl ?_
    cases hf
    exact B_retZ B (Or.inl rfl) hq rfl (Nat.le_of_ble_eq_true rfl) (Nat.le_of_ble_eq_true rfl) (by decide +kernel)
  · refine B_blk B jlkX10_ok jcl_SKF [.aload_n 0, .iload_n 1] (by decide +kernel) (ls' := [(0, jR 74), (1, jI a0)]) (st' := [jI a0, jR 74]) rfl (p1 := 21) rfl ?_
    refine K_putI (jI' := 5) B jp_X10_58 rfl rfl rfl (by decide +kernel) ?_
    obtain ⟨m3, hm3, hf⟩ := jlt_s hf
    rw [hm3]
    refine B_blk B jlkX10_ok jcl_SKF [.iconst 1] (by decide +kernel) (ls' := [(0, jR 74), (1, jI a0)]) (st' := [jI 1]) rfl (p1 := 25) rfl ?_
    cases hf
    exact B_retZ B (Or.inr rfl) hq rfl (Nat.le_of_ble_eq_true rfl) (Nat.le_of_ble_eq_true rfl) (by decide +kernel)

def rm_X10_days : Room := { frames := 2, cells := 0, slots := 0, locals := 64 }
def f_X10_days_J25 (v1 : Int) (s1 : Int) (m : jMu) : Option (Int × jMu) :=
  (jlt (jup m 74 0 s1) fun m1 => (if m1 74 0 ≤ 0 then (jlt (jup m1 75 11 (jW (m1 75 11 + v1))) fun m2 => some (m2 75 11, m2)) else some (0, m1)))
def f_X10_days_J20 (v1 : Int) (m : jMu) : Option (Int × jMu) :=
  f_X10_days_J25 v1 1 m
def f_X10_days (a0 : Int) (m : jMu) : Option (Int × jMu) :=
  (if a0 < 0 then f_X10_days_J20 a0 m else (if a0 ≤ jW (199 - m 75 11) then f_X10_days_J25 a0 0 m else f_X10_days_J20 a0 m))
theorem t_X10_days_J25 {X : jX} (B : jB X cX10_days RX10 2 SKF.length rm_X10_days (some .int)) (v1 : Int) (s1 : Int) (m : jMu) (r : (Int × jMu)) (hf : f_X10_days_J25 v1 s1 m = some r) (hq : jQ X (.inl (some (jI r.1))) SKF r.2 rm_X10_days.cells rm_X10_days.slots) : J X SKF m 0 0 25 [(0, jR 74), (1, jI v1)] [jI s1, jR 74] := by
  unfold f_X10_days_J25 at hf
  refine K_putI (jI' := 0) B jp_X10_51 rfl rfl rfl (by decide +kernel) ?_
  obtain ⟨m1, hm1, hf⟩ := jlt_s hf
  rw [hm1]
  refine B_blk B jlkX10_ok jcl_SKF [.aload_n 0, .getfield 51] (by decide +kernel) (ls' := [(0, jR 74), (1, jI v1)]) (st' := [jI (m1 74 0)]) rfl (p1 := 32) rfl ?_
  refine J_if_le B.1 (off := 5) (tgt := 37) (by decide +kernel) (by decide) hf (fun hf => ?_) (fun hf => ?_)
  · refine B_blk B jlkX10_ok jcl_SKF [.aload_n 0, .getfield 7, .bipush 11, .dup2] (by decide +kernel) (ls' := [(0, jR 74), (1, jI v1)]) (st' := [jI 11, jR 75, jI 11, jR 75]) rfl (p1 := 44) rfl ?_
    refine K_iald (lenI := 2083) B rfl rfl (by decide) (by decide +kernel) ?_
    refine B_blk B jlkX10_ok jcl_SKF [.iload_n 1, .iadd] (by decide +kernel) (ls' := [(0, jR 74), (1, jI v1)]) (st' := [jI (jW (m1 75 11 + v1)), jI 11, jR 75]) rfl (p1 := 47) rfl ?_
    refine K_iast (lenI := 2083) B rfl rfl (by decide) (by decide +kernel) ?_
    obtain ⟨m2, hm2, hf⟩ := jlt_s hf
    rw [hm2]
    refine B_blk B jlkX10_ok jcl_SKF [.aload_n 0, .getfield 7, .bipush 11] (by decide +kernel) (ls' := [(0, jR 74), (1, jI v1)]) (st' := [jI 11, jR 75]) rfl (p1 := 54) rfl ?_
    refine K_iald (lenI := 2083) B rfl rfl (by decide) (by decide +kernel) ?_
    cases hf
    exact B_retI B hq rfl (Nat.le_of_ble_eq_true rfl) (Nat.le_of_ble_eq_true rfl) (by decide +kernel)
  · refine B_blk B jlkX10_ok jcl_SKF [.iconst 0] (by decide +kernel) (ls' := [(0, jR 74), (1, jI v1)]) (st' := [jI 0]) rfl (p1 := 36) rfl ?_
    cases hf
    exact B_retI B hq rfl (Nat.le_of_ble_eq_true rfl) (Nat.le_of_ble_eq_true rfl) (by decide +kernel)
theorem t_X10_days_J20 {X : jX} (B : jB X cX10_days RX10 2 SKF.length rm_X10_days (some .int)) (v1 : Int) (m : jMu) (r : (Int × jMu)) (hf : f_X10_days_J20 v1 m = some r) (hq : jQ X (.inl (some (jI r.1))) SKF r.2 rm_X10_days.cells rm_X10_days.slots) : J X SKF m 0 0 20 [(0, jR 74), (1, jI v1)] [jR 74] := by
  unfold f_X10_days_J20 at hf
  refine B_blk B jlkX10_ok jcl_SKF [.iconst 1, .goto 4] (by decide +kernel) (ls' := [(0, jR 74), (1, jI v1)]) (st' := [jI 1, jR 74]) rfl (p1 := 25) rfl ?_
  exact t_X10_days_J25 B v1 1 m _ hf hq
theorem t_X10_days {l : Launch} {G : jG} (hl : l.stackTraces = false) {a0 : Int} {m : jMu} {r : (Int × jMu)} (hf : f_X10_days a0 m = some r) : jCt l G yX10_days (.code yX10_days cX10_days 2 (some .int) :: jWG) rm_X10_days [jR 74, jI a0] SKF m (.inl (some (jI r.1))) SKF r.2 := by
  unfold f_X10_days at hf
  refine J_start (ls0 := [(0, jR 74), (1, jI a0)]) (by decide +kernel) hl (Nat.le_of_ble_eq_true rfl) rfl fun X C hN hn hR hr hnm hno hq => ?_
  have B : jB X cX10_days RX10 2 SKF.length rm_X10_days (some .int) := ⟨C, hN, Nat.le_of_eq hn, hR, hr⟩
  refine B_blk B jlkX10_ok jcl_SKF [.aload_n 0, .iload_n 1] (by decide +kernel) (ls' := [(0, jR 74), (1, jI a0)]) (st' := [jI a0, jR 74]) rfl (p1 := 2) rfl ?_
  refine J_if_lt B.1 (off := 18) (tgt := 20) (by decide +kernel) (by decide) hf (fun hf => ?_) (fun hf => ?_)
  · exact t_X10_days_J20 B a0 m _ hf hq
  · refine B_blk B jlkX10_ok jcl_SKF [.iload_n 1, .sipush 199, .aload_n 0, .getfield 7, .bipush 11] (by decide +kernel) (ls' := [(0, jR 74), (1, jI a0)]) (st' := [jI 11, jR 75, jI 199, jI a0, jR 74]) rfl (p1 := 15) rfl ?_
    refine K_iald (lenI := 2083) B rfl rfl (by decide) (by decide +kernel) ?_
    refine B_blk B jlkX10_ok jcl_SKF [.isub] (by decide +kernel) (ls' := [(0, jR 74), (1, jI a0)]) (st' := [jI (jW (199 - m 75 11)), jI a0, jR 74]) rfl (p1 := 17) rfl ?_
    refine J_icmp_le B.1 (off := 7) (tgt := 24) (by decide +kernel) (by decide) hf (fun hf => ?_) (fun hf => ?_)
    · refine B_blk B jlkX10_ok jcl_SKF [.iconst 0] (by decide +kernel) (ls' := [(0, jR 74), (1, jI a0)]) (st' := [jI 0, jR 74]) rfl (p1 := 25) rfl ?_
      exact t_X10_days_J25 B a0 0 m _ hf hq
    · exact t_X10_days_J20 B a0 m _ hf hq

def rm_X10_thrown : Room := { frames := 2, cells := 0, slots := 0, locals := 64 }
def f_X10_thrown (m : jMu) : Option Int :=
  some (m 74 0)
theorem t_X10_thrown {l : Launch} {G : jG} (hl : l.stackTraces = false) {m : jMu} {r : Int} (hf : f_X10_thrown m = some r) : jCt l G yX10_thrown (.code yX10_thrown cX10_thrown 1 (some .int) :: jWG) rm_X10_thrown [jR 74] SKF m (.inl (some (jI r))) SKF m := by
  unfold f_X10_thrown at hf
  refine J_start (ls0 := [(0, jR 74)]) (by decide +kernel) hl (Nat.le_of_ble_eq_true rfl) rfl fun X C hN hn hR hr hnm hno hq => ?_
  have B : jB X cX10_thrown RX10 1 SKF.length rm_X10_thrown (some .int) := ⟨C, hN, Nat.le_of_eq hn, hR, hr⟩
  refine B_blk B jlkX10_ok jcl_SKF [.aload_n 0, .getfield 51] (by decide +kernel) (ls' := [(0, jR 74)]) (st' := [jI (m 74 0)]) rfl (p1 := 4) rfl ?_
  cases hf
  exact B_retI B hq rfl (Nat.le_of_ble_eq_true rfl) (Nat.le_of_ble_eq_true rfl) (by decide +kernel)

def rm_X10_bay : Room := { frames := 4, cells := 0, slots := 0, locals := 86 }
def f_X10_bay_L130 : Nat → Int → Int → jMu → Option (Int × jMu)
  | 0, _, _, _ => none
  | q + 1, v5, v6, m => (if 9 ≤ v6 then (jlt (jup m 75 0 (jW (m 75 0 + 1))) fun m7 => some (jW (m7 75 0 - 1), m7)) else (if 0 ≤ jW (v5 + v6) ∧ jW (v5 + v6) < 2083 then (jlt (jup m 75 (jW (v5 + v6)) 0) fun m8 => f_X10_bay_L130 q v5 (jW (v6 + 1)) m8) else none))
def f_X10_bay_J62 (v1 : Int) (v2 : Int) (v3 : Int) (v4 : Int) (s1 : Int) (m : jMu) : Option (Int × jMu) :=
  (jlt (jup m 74 0 s1) fun m2 => (if m2 74 0 ≤ 0 then (if 0 ≤ jW (20 + jW (9 * m2 75 0)) ∧ jW (20 + jW (9 * m2 75 0)) < 2083 then (jlt (jup m2 75 (jW (20 + jW (9 * m2 75 0))) v1) fun m3 => (if 0 ≤ jW (jW (20 + jW (9 * m2 75 0)) + 1) ∧ jW (jW (20 + jW (9 * m2 75 0)) + 1) < 2083 then (jlt (jup m3 75 (jW (jW (20 + jW (9 * m2 75 0)) + 1)) v2) fun m4 => (if 0 ≤ jW (jW (20 + jW (9 * m2 75 0)) + 2) ∧ jW (jW (20 + jW (9 * m2 75 0)) + 2) < 2083 then (jlt (jup m4 75 (jW (jW (20 + jW (9 * m2 75 0)) + 2)) v3) fun m5 => (if 0 ≤ jW (jW (20 + jW (9 * m2 75 0)) + 3) ∧ jW (jW (20 + jW (9 * m2 75 0)) + 3) < 2083 then (jlt (jup m5 75 (jW (jW (20 + jW (9 * m2 75 0)) + 3)) v4) fun m6 => f_X10_bay_L130 jFU (jW (20 + jW (9 * m2 75 0))) 4 m6) else none)) else none)) else none)) else none) else some (0, m2)))
def f_X10_bay_J42 (v1 : Int) (v2 : Int) (v3 : Int) (v4 : Int) (m : jMu) : Option (Int × jMu) :=
  f_X10_bay_J62 v1 v2 v3 v4 1 m
def f_X10_bay (a0 : Int) (a1 : Int) (a2 : Int) (a3 : Int) (m : jMu) : Option (Int × jMu) :=
  (f_X10_isIn a0 0 1).bind fun r1 => (if r1 = 0 then f_X10_bay_J42 a0 a1 a2 a3 m else (f_X10_isIn a1 0 9).bind fun r14 => (if r14 = 0 then f_X10_bay_J42 a0 a1 a2 a3 m else (f_X10_isIn a2 1 20).bind fun r15 => (if r15 = 0 then f_X10_bay_J42 a0 a1 a2 a3 m else (f_X10_isIn a3 0 500).bind fun r16 => (if r16 = 0 then f_X10_bay_J42 a0 a1 a2 a3 m else (if m 75 0 = 8 then f_X10_bay_J62 a0 a1 a2 a3 2 m else f_X10_bay_J62 a0 a1 a2 a3 0 m)))))
theorem t_X10_bay_L130 {X : jX} (B : jB X cX10_bay RX10 7 SKF.length rm_X10_bay (some .int)) : ∀ (q : Nat) (v5 : Int) (v6 : Int) (m : jMu) (r : (Int × jMu)), f_X10_bay_L130 q v5 v6 m = some r → jQ X (.inl (some (jI r.1))) SKF r.2 rm_X10_bay.cells rm_X10_bay.slots → J X SKF m 0 0 130 [(0, jR 74), (5, jI v5), (6, jI v6)] [] := by
  intro q
  induction q with
  | zero =>
    intro v5 v6 m r hf
    rw [f_X10_bay_L130] at hf
    cases hf
  | succ q ih =>
    intro v5 v6 m r hf hq
    rw [f_X10_bay_L130] at hf
    refine B_blk B jlkX10_ok jcl_SKF [.iload 6, .bipush 9] (by decide +kernel) (ls' := [(0, jR 74), (5, jI v5), (6, jI v6)]) (st' := [jI 9, jI v6]) rfl (p1 := 134) rfl ?_
    refine J_icmp_ge B.1 (off := 20) (tgt := 154) (by decide +kernel) (by decide) hf (fun hf => ?_) (fun hf => ?_)
    · refine B_blk B jlkX10_ok jcl_SKF [.aload_n 0, .getfield 7, .iconst 0, .dup2] (by decide +kernel) (ls' := [(0, jR 74), (5, jI v5), (6, jI v6)]) (st' := [jI 0, jR 75, jI 0, jR 75]) rfl (p1 := 160) rfl ?_
      refine K_iald (lenI := 2083) B rfl rfl (by decide) (by decide +kernel) ?_
      refine B_blk B jlkX10_ok jcl_SKF [.iconst 1, .iadd] (by decide +kernel) (ls' := [(0, jR 74), (5, jI v5), (6, jI v6)]) (st' := [jI (jW (m 75 0 + 1)), jI 0, jR 75]) rfl (p1 := 163) rfl ?_
      refine K_iast (lenI := 2083) B rfl rfl (by decide) (by decide +kernel) ?_
      obtain ⟨m7, hm7, hf⟩ := jlt_s hf
      rw [hm7]
      refine B_blk B jlkX10_ok jcl_SKF [.aload_n 0, .getfield 7, .iconst 0] (by decide +kernel) (ls' := [(0, jR 74), (5, jI v5), (6, jI v6)]) (st' := [jI 0, jR 75]) rfl (p1 := 169) rfl ?_
      refine K_iald (lenI := 2083) B rfl rfl (by decide) (by decide +kernel) ?_
      refine B_blk B jlkX10_ok jcl_SKF [.iconst 1, .isub] (by decide +kernel) (ls' := [(0, jR 74), (5, jI v5), (6, jI v6)]) (st' := [jI (jW (m7 75 0 - 1))]) rfl (p1 := 172) rfl ?_
      cases hf
      exact B_retI B hq rfl (Nat.le_of_ble_eq_true rfl) (Nat.le_of_ble_eq_true rfl) (by decide +kernel)
    · refine B_blk B jlkX10_ok jcl_SKF [.aload_n 0, .getfield 7, .iload 5, .iload 6, .iadd, .iconst 0] (by decide +kernel) (ls' := [(0, jR 74), (5, jI v5), (6, jI v6)]) (st' := [jI 0, jI (jW (v5 + v6)), jR 75]) rfl (p1 := 147) rfl ?_
      obtain ⟨g9, hf⟩ := jgd hf
      refine K_iast (lenI := 2083) B rfl rfl g9 (by decide +kernel) ?_
      obtain ⟨m8, hm8, hf⟩ := jlt_s hf
      rw [hm8]
      refine B_blk B jlkX10_ok jcl_SKF [.iinc 6 1, .goto (-21)] (by decide +kernel) (ls' := [(0, jR 74), (5, jI v5), (6, jI (jW (v6 + 1)))]) (st' := []) rfl (p1 := 130) rfl ?_
      exact ih v5 (jW (v6 + 1)) m8 _ hf hq
theorem t_X10_bay_J62 {X : jX} (B : jB X cX10_bay RX10 7 SKF.length rm_X10_bay (some .int)) (v1 : Int) (v2 : Int) (v3 : Int) (v4 : Int) (s1 : Int) (m : jMu) (r : (Int × jMu)) (hf : f_X10_bay_J62 v1 v2 v3 v4 s1 m = some r) (hq : jQ X (.inl (some (jI r.1))) SKF r.2 rm_X10_bay.cells rm_X10_bay.slots) : J X SKF m 0 0 62 [(0, jR 74), (1, jI v1), (2, jI v2), (3, jI v3), (4, jI v4)] [jI s1, jR 74] := by
  unfold f_X10_bay_J62 at hf
  refine K_putI (jI' := 0) B jp_X10_51 rfl rfl rfl (by decide +kernel) ?_
  obtain ⟨m2, hm2, hf⟩ := jlt_s hf
  rw [hm2]
  refine B_blk B jlkX10_ok jcl_SKF [.aload_n 0, .getfield 51] (by decide +kernel) (ls' := [(0, jR 74), (1, jI v1), (2, jI v2), (3, jI v3), (4, jI v4)]) (st' := [jI (m2 74 0)]) rfl (p1 := 69) rfl ?_
  refine J_if_le B.1 (off := 5) (tgt := 74) (by decide +kernel) (by decide) hf (fun hf => ?_) (fun hf => ?_)
  · refine B_blk B jlkX10_ok jcl_SKF [.bipush 20, .bipush 9, .aload_n 0, .getfield 7, .iconst 0] (by decide +kernel) (ls' := [(0, jR 74), (1, jI v1), (2, jI v2), (3, jI v3), (4, jI v4)]) (st' := [jI 0, jR 75, jI 9, jI 20]) rfl (p1 := 83) rfl ?_
    refine K_iald (lenI := 2083) B rfl rfl (by decide) (by decide +kernel) ?_
    refine B_blk B jlkX10_ok jcl_SKF [.imul, .iadd, .istore 5, .aload_n 0, .getfield 7, .iload 5, .iload_n 1] (by decide +kernel) (ls' := [(0, jR 74), (1, jI v1), (2, jI v2), (3, jI v3), (4, jI v4), (5, jI (jW (20 + jW (9 * m2 75 0))))]) (st' := [jI v1, jI (jW (20 + jW (9 * m2 75 0))), jR 75]) rfl (p1 := 95) rfl ?_
    obtain ⟨g13, hf⟩ := jgd hf
    refine K_iast (lenI := 2083) B rfl rfl g13 (by decide +kernel) ?_
    obtain ⟨m3, hm3, hf⟩ := jlt_s hf
    rw [hm3]
    refine B_blk B jlkX10_ok jcl_SKF [.aload_n 0, .getfield 7, .iload 5, .iconst 1, .iadd, .iload_n 2] (by decide +kernel) (ls' := [(0, jR 74), (1, jI v1), (2, jI v2), (3, jI v3), (4, jI v4), (5, jI (jW (20 + jW (9 * m2 75 0))))]) (st' := [jI v2, jI (jW (jW (20 + jW (9 * m2 75 0)) + 1)), jR 75]) rfl (p1 := 105) rfl ?_
    obtain ⟨g12, hf⟩ := jgd hf
    refine K_iast (lenI := 2083) B rfl rfl g12 (by decide +kernel) ?_
    obtain ⟨m4, hm4, hf⟩ := jlt_s hf
    rw [hm4]
    refine B_blk B jlkX10_ok jcl_SKF [.aload_n 0, .getfield 7, .iload 5, .iconst 2, .iadd, .iload_n 3] (by decide +kernel) (ls' := [(0, jR 74), (1, jI v1), (2, jI v2), (3, jI v3), (4, jI v4), (5, jI (jW (20 + jW (9 * m2 75 0))))]) (st' := [jI v3, jI (jW (jW (20 + jW (9 * m2 75 0)) + 2)), jR 75]) rfl (p1 := 115) rfl ?_
    obtain ⟨g11, hf⟩ := jgd hf
    refine K_iast (lenI := 2083) B rfl rfl g11 (by decide +kernel) ?_
    obtain ⟨m5, hm5, hf⟩ := jlt_s hf
    rw [hm5]
    refine B_blk B jlkX10_ok jcl_SKF [.aload_n 0, .getfield 7, .iload 5, .iconst 3, .iadd, .iload 4] (by decide +kernel) (ls' := [(0, jR 74), (1, jI v1), (2, jI v2), (3, jI v3), (4, jI v4), (5, jI (jW (20 + jW (9 * m2 75 0))))]) (st' := [jI v4, jI (jW (jW (20 + jW (9 * m2 75 0)) + 3)), jR 75]) rfl (p1 := 126) rfl ?_
    obtain ⟨g10, hf⟩ := jgd hf
    refine K_iast (lenI := 2083) B rfl rfl g10 (by decide +kernel) ?_
    obtain ⟨m6, hm6, hf⟩ := jlt_s hf
    rw [hm6]
    refine B_blk B jlkX10_ok jcl_SKF [.iconst 4, .istore 6] (by decide +kernel) (ls' := [(0, jR 74), (1, jI v1), (2, jI v2), (3, jI v3), (4, jI v4), (5, jI (jW (20 + jW (9 * m2 75 0)))), (6, jI 4)]) (st' := []) rfl (p1 := 130) rfl ?_
    refine J_pick [0, 5, 6] (ls' := [(0, jR 74), (5, jI (jW (20 + jW (9 * m2 75 0)))), (6, jI 4)]) rfl ?_
    exact t_X10_bay_L130 B jFU (jW (20 + jW (9 * m2 75 0))) 4 m6 _ hf hq
  · refine B_blk B jlkX10_ok jcl_SKF [.iconst 0] (by decide +kernel) (ls' := [(0, jR 74), (1, jI v1), (2, jI v2), (3, jI v3), (4, jI v4)]) (st' := [jI 0]) rfl (p1 := 73) rfl ?_
    cases hf
    exact B_retI B hq rfl (Nat.le_of_ble_eq_true rfl) (Nat.le_of_ble_eq_true rfl) (by decide +kernel)
theorem t_X10_bay_J42 {X : jX} (B : jB X cX10_bay RX10 7 SKF.length rm_X10_bay (some .int)) (v1 : Int) (v2 : Int) (v3 : Int) (v4 : Int) (m : jMu) (r : (Int × jMu)) (hf : f_X10_bay_J42 v1 v2 v3 v4 m = some r) (hq : jQ X (.inl (some (jI r.1))) SKF r.2 rm_X10_bay.cells rm_X10_bay.slots) : J X SKF m 0 0 42 [(0, jR 74), (1, jI v1), (2, jI v2), (3, jI v3), (4, jI v4)] [jR 74] := by
  unfold f_X10_bay_J42 at hf
  refine B_blk B jlkX10_ok jcl_SKF [.iconst 1, .goto 19] (by decide +kernel) (ls' := [(0, jR 74), (1, jI v1), (2, jI v2), (3, jI v3), (4, jI v4)]) (st' := [jI 1, jR 74]) rfl (p1 := 62) rfl ?_
  exact t_X10_bay_J62 B v1 v2 v3 v4 1 m _ hf hq
theorem t_X10_bay {l : Launch} {G : jG} (hl : l.stackTraces = false) {a0 : Int} {a1 : Int} {a2 : Int} {a3 : Int} {m : jMu} {r : (Int × jMu)} (hf : f_X10_bay a0 a1 a2 a3 m = some r) : jCt l G yX10_bay (.code yX10_bay cX10_bay 7 (some .int) :: jWG) rm_X10_bay [jR 74, jI a0, jI a1, jI a2, jI a3] SKF m (.inl (some (jI r.1))) SKF r.2 := by
  unfold f_X10_bay at hf
  refine J_start (ls0 := [(0, jR 74), (1, jI a0), (2, jI a1), (3, jI a2), (4, jI a3)]) (by decide +kernel) hl (Nat.le_of_ble_eq_true rfl) rfl fun X C hN hn hR hr hnm hno hq => ?_
  have B : jB X cX10_bay RX10 7 SKF.length rm_X10_bay (some .int) := ⟨C, hN, Nat.le_of_eq hn, hR, hr⟩
  refine B_blk B jlkX10_ok jcl_SKF [.aload_n 0, .iload_n 1, .iconst 0, .iconst 1] (by decide +kernel) (ls' := [(0, jR 74), (1, jI a0), (2, jI a1), (3, jI a2), (4, jI a3)]) (st' := [jI 1, jI 0, jI a0, jR 74]) rfl (p1 := 4) rfl ?_
  obtain ⟨r1, h1, hf⟩ := jbd hf
  refine B_callS B (Nat.le_refl _) (μ' := m) (k' := 0) (n' := 0) ca_X10_isIn sa_X10_isIn lk_X10_54 (t_X10_isIn B.tr jcl_SKF h1) (Nat.le_refl _) rfl (rest := [jR 74]) rfl rfl (Nat.le_of_ble_eq_true rfl) (by decide +kernel) rfl rfl (st' := [jI r1, jR 74]) rfl ?_
  refine J_if_eq B.1 (off := 35) (tgt := 42) (by decide +kernel) (by decide) hf (fun hf => ?_) (fun hf => ?_)
  · exact t_X10_bay_J42 B a0 a1 a2 a3 m _ hf hq
  · refine B_blk B jlkX10_ok jcl_SKF [.iload_n 2, .iconst 0, .bipush 9] (by decide +kernel) (ls' := [(0, jR 74), (1, jI a0), (2, jI a1), (3, jI a2), (4, jI a3)]) (st' := [jI 9, jI 0, jI a1, jR 74]) rfl (p1 := 14) rfl ?_
    obtain ⟨r14, h14, hf⟩ := jbd hf
    refine B_callS B (Nat.le_refl _) (μ' := m) (k' := 0) (n' := 0) ca_X10_isIn sa_X10_isIn lk_X10_54 (t_X10_isIn B.tr jcl_SKF h14) (Nat.le_refl _) rfl (rest := [jR 74]) rfl rfl (Nat.le_of_ble_eq_true rfl) (by decide +kernel) rfl rfl (st' := [jI r14, jR 74]) rfl ?_
    refine J_if_eq B.1 (off := 25) (tgt := 42) (by decide +kernel) (by decide) hf (fun hf => ?_) (fun hf => ?_)
    · exact t_X10_bay_J42 B a0 a1 a2 a3 m _ hf hq
    · refine B_blk B jlkX10_ok jcl_SKF [.iload_n 3, .iconst 1, .bipush 20] (by decide +kernel) (ls' := [(0, jR 74), (1, jI a0), (2, jI a1), (3, jI a2), (4, jI a3)]) (st' := [jI 20, jI 1, jI a2, jR 74]) rfl (p1 := 24) rfl ?_
      obtain ⟨r15, h15, hf⟩ := jbd hf
      refine B_callS B (Nat.le_refl _) (μ' := m) (k' := 0) (n' := 0) ca_X10_isIn sa_X10_isIn lk_X10_54 (t_X10_isIn B.tr jcl_SKF h15) (Nat.le_refl _) rfl (rest := [jR 74]) rfl rfl (Nat.le_of_ble_eq_true rfl) (by decide +kernel) rfl rfl (st' := [jI r15, jR 74]) rfl ?_
      refine J_if_eq B.1 (off := 15) (tgt := 42) (by decide +kernel) (by decide) hf (fun hf => ?_) (fun hf => ?_)
      · exact t_X10_bay_J42 B a0 a1 a2 a3 m _ hf hq
      · refine B_blk B jlkX10_ok jcl_SKF [.iload 4, .iconst 0, .sipush 500] (by decide +kernel) (ls' := [(0, jR 74), (1, jI a0), (2, jI a1), (3, jI a2), (4, jI a3)]) (st' := [jI 500, jI 0, jI a3, jR 74]) rfl (p1 := 36) rfl ?_
        obtain ⟨r16, h16, hf⟩ := jbd hf
        refine B_callS B (Nat.le_refl _) (μ' := m) (k' := 0) (n' := 0) ca_X10_isIn sa_X10_isIn lk_X10_54 (t_X10_isIn B.tr jcl_SKF h16) (Nat.le_refl _) rfl (rest := [jR 74]) rfl rfl (Nat.le_of_ble_eq_true rfl) (by decide +kernel) rfl rfl (st' := [jI r16, jR 74]) rfl ?_
        refine J_if_ne B.1 (off := 7) (tgt := 46) (by decide +kernel) (by decide) hf (fun hf => ?_) (fun hf => ?_)
        · exact t_X10_bay_J42 B a0 a1 a2 a3 m _ hf hq
        · refine B_blk B jlkX10_ok jcl_SKF [.aload_n 0, .getfield 7, .iconst 0] (by decide +kernel) (ls' := [(0, jR 74), (1, jI a0), (2, jI a1), (3, jI a2), (4, jI a3)]) (st' := [jI 0, jR 75, jR 74]) rfl (p1 := 51) rfl ?_
          refine K_iald (lenI := 2083) B rfl rfl (by decide) (by decide +kernel) ?_
          refine B_blk B jlkX10_ok jcl_SKF [.bipush 8] (by decide +kernel) (ls' := [(0, jR 74), (1, jI a0), (2, jI a1), (3, jI a2), (4, jI a3)]) (st' := [jI 8, jI (m 75 0), jR 74]) rfl (p1 := 54) rfl ?_
          refine J_icmp_ne B.1 (off := 7) (tgt := 61) (by decide +kernel) (by decide) hf (fun hf => ?_) (fun hf => ?_)
          · refine B_blk B jlkX10_ok jcl_SKF [.iconst 2, .goto 4] (by decide +kernel) (ls' := [(0, jR 74), (1, jI a0), (2, jI a1), (3, jI a2), (4, jI a3)]) (st' := [jI 2, jR 74]) rfl (p1 := 62) rfl ?_
            exact t_X10_bay_J62 B a0 a1 a2 a3 2 m _ hf hq
          · refine B_blk B jlkX10_ok jcl_SKF [.iconst 0] (by decide +kernel) (ls' := [(0, jR 74), (1, jI a0), (2, jI a1), (3, jI a2), (4, jI a3)]) (st' := [jI 0, jR 74]) rfl (p1 := 62) rfl ?_
            exact t_X10_bay_J62 B a0 a1 a2 a3 0 m _ hf hq
