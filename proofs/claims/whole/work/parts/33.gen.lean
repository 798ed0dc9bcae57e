/-! printed walks -/
def rm_X9_hours : Room := { frames := 12, cells := 4, slots := 24, locals := 183 }
def f_X9_hours_L84 : Nat → Int → Int → Int → Int → Int → Int → jMu → Option (jOut Int)
  | 0, _, _, _, _, _, _, _ => none
  | q + 1, v1, v2, v5, v6, v7, v8, m => (if v7 ≤ v8 then some (.inr (v6, m)) else (f_X1_stand v2 v8 m).bind fun r7 => (f_X1_countHere v1 v5 r7).bind fun r8 => f_X9_hours_L84 q v1 v2 v5 (jW (v6 + r8.1)) v7 (jW (v8 + 1)) r8.2)
def f_X9_hours_J53 (v1 : Int) (v2 : Int) (v3 : Int) (v4 : Int) (v5 : Int) (s0 : Int) (m : jMu) : Option (jOut Int) :=
  jthr (f_X9_needArgument s0 m) fun r4 => (f_X9_isIn v5 0 3).bind fun r5 => jthr (f_X9_needElement r5 r4.2) fun r6 => f_X9_hours_L84 jFU v1 v2 v5 0 (jW (jW (v4 + 1) * 12)) (jW (v3 * 12)) r6.2
def f_X9_hours_J33 (v1 : Int) (v2 : Int) (v3 : Int) (v4 : Int) (v5 : Int) (s0 : Int) (m : jMu) : Option (jOut Int) :=
  jthr (f_X9_needIndex s0 m) fun r2 => jthr (f_X9_needDays v3 v4 r2.2) fun r3 => (if v4 < v3 then f_X9_hours_J53 v1 v2 v3 v4 v5 0 r3.2 else f_X9_hours_J53 v1 v2 v3 v4 v5 1 r3.2)
def f_X9_hours_J32 (v1 : Int) (v2 : Int) (v3 : Int) (v4 : Int) (v5 : Int) (m : jMu) : Option (jOut Int) :=
  f_X9_hours_J33 v1 v2 v3 v4 v5 0 m
def f_X9_hours (a0 : Int) (a1 : Int) (a2 : Int) (a3 : Int) (a4 : Int) (m : jMu) : Option (jOut Int) :=
  (f_X5_has 14 15 6 a0 m).bind fun r1 => (if r1 = 0 then f_X9_hours_J32 a0 a1 a2 a3 a4 m else (f_X5_has 4 5 80 a1 m).bind fun r9 => (if r9 = 0 then f_X9_hours_J32 a0 a1 a2 a3 a4 m else f_X9_hours_J33 a0 a1 a2 a3 a4 1 m))
theorem t_X9_hours_L84 {X : jX} (B : jB X cX9_hours RX9 9 SKF.length rm_X9_hours (some .int)) (hno : ∀ x ∈ (xc X).exceptionTable.toList, False) : ∀ (q : Nat) (v1 : Int) (v2 : Int) (v5 : Int) (v6 : Int) (v7 : Int) (v8 : Int) (m : jMu) (r : (jOut Int)), f_X9_hours_L84 q v1 v2 v5 v6 v7 v8 m = some r → jQ X (joI r) SKF (joM r) rm_X9_hours.cells rm_X9_hours.slots → J X SKF m 4 24 84 [(0, jR 0), (1, jI v1), (2, jI v2), (5, jI v5), (6, jI v6), (7, jI v7), (8, jI v8)] [] := by
  intro q
  induction q with
  | zero =>
    intro v1 v2 v5 v6 v7 v8 m r hf
    rw [f_X9_hours_L84] at hf
    cases hf
  | succ q ih =>
    intro v1 v2 v5 v6 v7 v8 m r hf hq
    rw [f_X9_hours_L84] at hf
    refine B_blk B jlkX9_ok jcl_SKF [.iload 8, .iload 7] (by decide +kernel) (ls' := [(0, jR 0), (1, jI v1), (2, jI v2), (5, jI v5), (6, jI v6), (7, jI v7), (8, jI v8)]) (st' := [jI v7, jI v8]) rfl (p1 := 88) rfl ?_
    refine J_icmp_ge B.1 (off := 34) (tgt := 122) (by decide +kernel) (by decide) hf (fun hf => ?_) (fun hf => ?_)
    · refine B_blk B jlkX9_ok jcl_SKF [.iload 6] (by decide +kernel) (ls' := [(0, jR 0), (1, jI v1), (2, jI v2), (5, jI v5), (6, jI v6), (7, jI v7), (8, jI v8)]) (st' := [jI v6]) rfl (p1 := 124) rfl ?_
      cases hf
      exact B_retI B hq rfl (Nat.le_of_ble_eq_true rfl) (Nat.le_of_ble_eq_true rfl) (by decide +kernel)
    · refine B_blk B jlkX9_ok jcl_SKF [.aload_n 0, .getfield 40, .iload_n 2, .iload 8] (by decide +kernel) (ls' := [(0, jR 0), (1, jI v1), (2, jI v2), (5, jI v5), (6, jI v6), (7, jI v7), (8, jI v8)]) (st' := [jI v8, jI v2, jR 32]) rfl (p1 := 98) rfl ?_
      obtain ⟨r7, h7, hf⟩ := jbd hf
      refine B_callV B (Nat.le_refl _) (μ' := r7) (k' := 4) (n' := 24) ca_X1_stand in_X1_stand se_X1_stand lk_X9_163 (t_X1_stand B.tr h7) (Nat.le_refl _) rfl rfl rfl (rest := []) rfl rfl (Nat.le_of_ble_eq_true rfl) (by decide +kernel) rfl rfl (st' := []) rfl ?_
      refine B_blk B jlkX9_ok jcl_SKF [.iload 6, .aload_n 0, .getfield 40, .iload_n 1, .iload 5] (by decide +kernel) (ls' := [(0, jR 0), (1, jI v1), (2, jI v2), (5, jI v5), (6, jI v6), (7, jI v7), (8, jI v8)]) (st' := [jI v5, jI v1, jR 32, jI v6]) rfl (p1 := 110) rfl ?_
      obtain ⟨r8, h8, hf⟩ := jbd hf
      refine B_callV B (Nat.le_refl _) (μ' := r8.2) (k' := 4) (n' := 24) ca_X1_countHere in_X1_countHere se_X1_countHere lk_X9_177 (t_X1_countHere B.tr h8) (Nat.le_refl _) rfl rfl rfl (rest := [jI v6]) rfl rfl (Nat.le_of_ble_eq_true rfl) (by decide +kernel) rfl rfl (st' := [jI r8.1, jI v6]) rfl ?_
      refine B_blk B jlkX9_ok jcl_SKF [.iadd, .istore 6, .iinc 8 1, .goto (-35)] (by decide +kernel) (ls' := [(0, jR 0), (1, jI v1), (2, jI v2), (5, jI v5), (6, jI (jW (v6 + r8.1))), (7, jI v7), (8, jI (jW (v8 + 1)))]) (st' := []) rfl (p1 := 84) rfl ?_
      exact ih v1 v2 v5 (jW (v6 + r8.1)) v7 (jW (v8 + 1)) r8.2 _ hf hq
theorem t_X9_hours_J53 {X : jX} (B : jB X cX9_hours RX9 9 SKF.length rm_X9_hours (some .int)) (hno : ∀ x ∈ (xc X).exceptionTable.toList, False) (v1 : Int) (v2 : Int) (v3 : Int) (v4 : Int) (v5 : Int) (s0 : Int) (m : jMu) (r : (jOut Int)) (hf : f_X9_hours_J53 v1 v2 v3 v4 v5 s0 m = some r) (hq : jQ X (joI r) SKF (joM r) rm_X9_hours.cells rm_X9_hours.slots) : J X SKF m 2 12 53 [(0, jR 0), (1, jI v1), (2, jI v2), (3, jI v3), (4, jI v4), (5, jI v5)] [jI s0] := by
  unfold f_X9_hours_J53 at hf
  rcases jthr_s hf with ⟨e4, h4, hf⟩ | ⟨r4, h4, hf⟩
  · cases hf
    exact B_callST B (Nat.le_refl _) hno hq ca_X9_needArgument sa_X9_needArgument lk_X9_97 (t_X9_needArgument B.tr h4) (Nat.le_refl _) rfl (rest := []) rfl rfl (Nat.le_of_ble_eq_true rfl) (by decide +kernel) (Nat.le_of_ble_eq_true rfl) (Nat.le_of_ble_eq_true rfl)
  · refine B_callS B (Nat.le_refl _) (μ' := r4.2) (k' := 3) (n' := 18) ca_X9_needArgument sa_X9_needArgument lk_X9_97 (t_X9_needArgument B.tr h4) (Nat.le_refl _) rfl (rest := []) rfl rfl (Nat.le_of_ble_eq_true rfl) (by decide +kernel) rfl rfl (st' := []) rfl ?_
    refine B_blk B jlkX9_ok jcl_SKF [.iload 5, .iconst 0, .iconst 3] (by decide +kernel) (ls' := [(0, jR 0), (1, jI v1), (2, jI v2), (3, jI v3), (4, jI v4), (5, jI v5)]) (st' := [jI 3, jI 0, jI v5]) rfl (p1 := 60) rfl ?_
    obtain ⟨r5, h5, hf⟩ := jbd hf
    refine B_callS B (Nat.le_refl _) (μ' := r4.2) (k' := 3) (n' := 18) ca_X9_isIn sa_X9_isIn lk_X9_93 (t_X9_isIn B.tr jcl_SKF h5) (Nat.le_refl _) rfl (rest := []) rfl rfl (Nat.le_of_ble_eq_true rfl) (by decide +kernel) rfl rfl (st' := [jI r5]) rfl ?_
    rcases jthr_s hf with ⟨e6, h6, hf⟩ | ⟨r6, h6, hf⟩
    · cases hf
      exact B_callST B (Nat.le_refl _) hno hq ca_X9_needElement sa_X9_needElement lk_X9_170 (t_X9_needElement B.tr h6) (Nat.le_refl _) rfl (rest := []) rfl rfl (Nat.le_of_ble_eq_true rfl) (by decide +kernel) (Nat.le_of_ble_eq_true rfl) (Nat.le_of_ble_eq_true rfl)
    · refine B_callS B (Nat.le_refl _) (μ' := r6.2) (k' := 4) (n' := 24) ca_X9_needElement sa_X9_needElement lk_X9_170 (t_X9_needElement B.tr h6) (Nat.le_refl _) rfl (rest := []) rfl rfl (Nat.le_of_ble_eq_true rfl) (by decide +kernel) rfl rfl (st' := []) rfl ?_
      refine B_blk B jlkX9_ok jcl_SKF [.iconst 0, .istore 6, .iload 4, .iconst 1, .iadd, .bipush 12, .imul, .istore 7, .iload_n 3, .bipush 12, .imul, .istore 8] (by decide +kernel) (ls' := [(0, jR 0), (1, jI v1), (2, jI v2), (3, jI v3), (4, jI v4), (5, jI v5), (6, jI 0), (7, jI (jW (jW (v4 + 1) * 12))), (8, jI (jW (v3 * 12)))]) (st' := []) rfl (p1 := 84) rfl ?_
      refine J_pick [0, 1, 2, 5, 6, 7, 8] (ls' := [(0, jR 0), (1, jI v1), (2, jI v2), (5, jI v5), (6, jI 0), (7, jI (jW (jW (v4 + 1) * 12))), (8, jI (jW (v3 * 12)))]) rfl ?_
      exact t_X9_hours_L84 B hno jFU v1 v2 v5 0 (jW (jW (v4 + 1) * 12)) (jW (v3 * 12)) r6.2 _ hf hq
theorem t_X9_hours_J33 {X : jX} (B : jB X cX9_hours RX9 9 SKF.length rm_X9_hours (some .int)) (hno : ∀ x ∈ (xc X).exceptionTable.toList, False) (v1 : Int) (v2 : Int) (v3 : Int) (v4 : Int) (v5 : Int) (s0 : Int) (m : jMu) (r : (jOut Int)) (hf : f_X9_hours_J33 v1 v2 v3 v4 v5 s0 m = some r) (hq : jQ X (joI r) SKF (joM r) rm_X9_hours.cells rm_X9_hours.slots) : J X SKF m 0 0 33 [(0, jR 0), (1, jI v1), (2, jI v2), (3, jI v3), (4, jI v4), (5, jI v5)] [jI s0] := by
  unfold f_X9_hours_J33 at hf
  rcases jthr_s hf with ⟨e2, h2, hf⟩ | ⟨r2, h2, hf⟩
  · cases hf
    exact B_callST B (Nat.le_refl _) hno hq ca_X9_needIndex sa_X9_needIndex lk_X9_125 (t_X9_needIndex B.tr h2) (Nat.le_refl _) rfl (rest := []) rfl rfl (Nat.le_of_ble_eq_true rfl) (by decide +kernel) (Nat.le_of_ble_eq_true rfl) (Nat.le_of_ble_eq_true rfl)
  · refine B_callS B (Nat.le_refl _) (μ' := r2.2) (k' := 1) (n' := 6) ca_X9_needIndex sa_X9_needIndex lk_X9_125 (t_X9_needIndex B.tr h2) (Nat.le_refl _) rfl (rest := []) rfl rfl (Nat.le_of_ble_eq_true rfl) (by decide +kernel) rfl rfl (st' := []) rfl ?_
    refine B_blk B jlkX9_ok jcl_SKF [.iload_n 3, .iload 4] (by decide +kernel) (ls' := [(0, jR 0), (1, jI v1), (2, jI v2), (3, jI v3), (4, jI v4), (5, jI v5)]) (st' := [jI v4, jI v3]) rfl (p1 := 39) rfl ?_
    rcases jthr_s hf with ⟨e3, h3, hf⟩ | ⟨r3, h3, hf⟩
    · cases hf
      exact B_callST B (Nat.le_refl _) hno hq ca_X9_needDays sa_X9_needDays lk_X9_121 (t_X9_needDays B.tr h3) (Nat.le_refl _) rfl (rest := []) rfl rfl (Nat.le_of_ble_eq_true rfl) (by decide +kernel) (Nat.le_of_ble_eq_true rfl) (Nat.le_of_ble_eq_true rfl)
    · refine B_callS B (Nat.le_refl _) (μ' := r3.2) (k' := 2) (n' := 12) ca_X9_needDays sa_X9_needDays lk_X9_121 (t_X9_needDays B.tr h3) (Nat.le_refl _) rfl (rest := []) rfl rfl (Nat.le_of_ble_eq_true rfl) (by decide +kernel) rfl rfl (st' := []) rfl ?_
      refine B_blk B jlkX9_ok jcl_SKF [.iload_n 3, .iload 4] (by decide +kernel) (ls' := [(0, jR 0), (1, jI v1), (2, jI v2), (3, jI v3), (4, jI v4), (5, jI v5)]) (st' := [jI v4, jI v3]) rfl (p1 := 45) rfl ?_
      refine J_icmp_gt B.1 (off := 7) (tgt := 52) (by decide +kernel) (by decide) hf (fun hf => ?_) (fun hf => ?_)
      · refine B_blk B jlkX9_ok jcl_SKF [.iconst 0] (by decide +kernel) (ls' := [(0, jR 0), (1, jI v1), (2, jI v2), (3, jI v3), (4, jI v4), (5, jI v5)]) (st' := [jI 0]) rfl (p1 := 53) rfl ?_
        exact t_X9_hours_J53 B hno v1 v2 v3 v4 v5 0 r3.2 _ hf hq
      · refine B_blk B jlkX9_ok jcl_SKF [.iconst 1, .goto 4] (by decide +kernel) (ls' := [(0, jR 0), (1, jI v1), (2, jI v2), (3, jI v3), (4, jI v4), (5, jI v5)]) (st' := [jI 1]) rfl (p1 := 53) rfl ?_
        exact t_X9_hours_J53 B hno v1 v2 v3 v4 v5 1 r3.2 _ hf hq
theorem t_X9_hours_J32 {X : jX} (B : jB X cX9_hours RX9 9 SKF.length rm_X9_hours (some .int)) (hno : ∀ x ∈ (xc X).exceptionTable.toList, False) (v1 : Int) (v2 : Int) (v3 : Int) (v4 : Int) (v5 : Int) (m : jMu) (r : (jOut Int)) (hf : f_X9_hours_J32 v1 v2 v3 v4 v5 m = some r) (hq : jQ X (joI r) SKF (joM r) rm_X9_hours.cells rm_X9_hours.slots) : J X SKF m 0 0 32 [(0, jR 0), (1, jI v1), (2, jI v2), (3, jI v3), (4, jI v4), (5, jI v5)] [] := by
  unfold f_X9_hours_J32 at hf
  refine B_blk B jlkX9_ok jcl_SKF [.iconst 0] (by decide +kernel) (ls' := [(0, jR 0), (1, jI v1), (2, jI v2), (3, jI v3), (4, jI v4), (5, jI v5)]) (st' := [jI 0]) rfl (p1 := 33) rfl ?_
  exact t_X9_hours_J33 B hno v1 v2 v3 v4 v5 0 m _ hf hq
theorem t_X9_hours {l : Launch} {G : jG} (hl : l.stackTraces = false) {a0 : Int} {a1 : Int} {a2 : Int} {a3 : Int} {a4 : Int} {m : jMu} {r : (jOut Int)} (hf : f_X9_hours a0 a1 a2 a3 a4 m = some r) : jCt l G yX9_hours (.code yX9_hours cX9_hours 9 (some .int) :: jWG) rm_X9_hours [jR 0, jI a0, jI a1, jI a2, jI a3, jI a4] SKF m (joI r) SKF (joM r) := by
  unfold f_X9_hours at hf
  refine J_start (ls0 := [(0, jR 0), (1, jI a0), (2, jI a1), (3, jI a2), (4, jI a3), (5, jI a4)]) (by decide +kernel) hl (Nat.le_of_ble_eq_true rfl) rfl fun X C hN hn hR hr hnm hno hq => ?_
  have B : jB X cX9_hours RX9 9 SKF.length rm_X9_hours (some .int) := ⟨C, hN, Nat.le_of_eq hn, hR, hr⟩
  refine B_blk B jlkX9_ok jcl_SKF [.aload_n 0, .getfield 20, .getfield 158, .iload_n 1] (by decide +kernel) (ls' := [(0, jR 0), (1, jI a0), (2, jI a1), (3, jI a2), (4, jI a3), (5, jI a4)]) (st' := [jI a0, jR 14]) rfl (p1 := 8) rfl ?_
  obtain ⟨r1, h1, hf⟩ := jbd hf
  refine B_callV B (Nat.le_refl _) (μ' := m) (k' := 0) (n' := 0) ca_X5_has in_X5_has se_X5_has lk_X9_143 (t_X5_has B.tr jcl_SKF ⟨rfl, rfl, by decide⟩ h1) (Nat.le_refl _) rfl rfl rfl (rest := []) rfl rfl (Nat.le_of_ble_eq_true rfl) (by decide +kernel) rfl rfl (st' := [jI r1]) rfl ?_
  refine J_if_eq B.1 (off := 21) (tgt := 32) (by decide +kernel) (by decide) hf (fun hf => ?_) (fun hf => ?_)
  · exact t_X9_hours_J32 B hno a0 a1 a2 a3 a4 m _ hf hq
  · refine B_blk B jlkX9_ok jcl_SKF [.aload_n 0, .getfield 20, .getfield 101, .iload_n 2] (by decide +kernel) (ls' := [(0, jR 0), (1, jI a0), (2, jI a1), (3, jI a2), (4, jI a3), (5, jI a4)]) (st' := [jI a1, jR 4]) rfl (p1 := 22) rfl ?_
    obtain ⟨r9, h9, hf⟩ := jbd hf
    refine B_callV B (Nat.le_refl _) (μ' := m) (k' := 0) (n' := 0) ca_X5_has in_X5_has se_X5_has lk_X9_143 (t_X5_has B.tr jcl_SKF ⟨rfl, rfl, by decide⟩ h9) (Nat.le_refl _) rfl rfl rfl (rest := []) rfl rfl (Nat.le_of_ble_eq_true rfl) (by decide +kernel) rfl rfl (st' := [jI r9]) rfl ?_
    refine J_if_eq B.1 (off := 7) (tgt := 32) (by decide +kernel) (by decide) hf (fun hf => ?_) (fun hf => ?_)
    · exact t_X9_hours_J32 B hno a0 a1 a2 a3 a4 m _ hf hq
    · refine B_blk B jlkX9_ok jcl_SKF [.iconst 1, .goto 4] (by decide +kernel) (ls' := [(0, jR 0), (1, jI a0), (2, jI a1), (3, jI a2), (4, jI a3), (5, jI a4)]) (st' := [jI 1]) rfl (p1 := 33) rfl ?_
      exact t_X9_hours_J33 B hno a0 a1 a2 a3 a4 1 m _ hf hq

def rm_X9_gang : Room := { frames := 9, cells := 2, slots := 12, locals := 120 }
def f_X9_gang (a0 : Int) (m : jMu) : Option (jOut Int) :=
  (f_X9_isIn a0 1 5).bind fun r1 => jthr (f_X9_needArgument r1 m) fun r2 => (f_X5_hasRoom 20 21 4 r2.2).bind fun r3 => jthr (f_X9_needRoom r3 r2.2) fun r4 => (f_X5_addRow 20 21 4 r4.2).bind fun r5 => (f_X5_set 20 21 4 r5.1 0 a0 r5.2).bind fun r6 => some (.inr (r5.1, r6))
theorem t_X9_gang {l : Launch} {G : jG} (hl : l.stackTraces = false) {a0 : Int} {m : jMu} {r : (jOut Int)} (hf : f_X9_gang a0 m = some r) : jCt l G yX9_gang (.code yX9_gang cX9_gang 3 (some .int) :: jWG) rm_X9_gang [jR 0, jI a0] SKF m (joI r) SKF (joM r) := by
  unfold f_X9_gang at hf
  refine J_start (ls0 := [(0, jR 0), (1, jI a0)]) (by decide +kernel) hl (Nat.le_of_ble_eq_true rfl) rfl fun X C hN hn hR hr hnm hno hq => ?_
  have B : jB X cX9_gang RX9 3 SKF.length rm_X9_gang (some .int) := ⟨C, hN, Nat.le_of_eq hn, hR, hr⟩
  refine B_blk B jlkX9_ok jcl_SKF [.iload_n 1, .iconst 1, .iconst 5] (by decide +kernel) (ls' := [(0, jR 0), (1, jI a0)]) (st' := [jI 5, jI 1, jI a0]) rfl (p1 := 3) rfl ?_
  obtain ⟨r1, h1, hf⟩ := jbd hf
  refine B_callS B (Nat.le_refl _) (μ' := m) (k' := 0) (n' := 0) ca_X9_isIn sa_X9_isIn lk_X9_93 (t_X9_isIn B.tr jcl_SKF h1) (Nat.le_refl _) rfl (rest := []) rfl rfl (Nat.le_of_ble_eq_true rfl) (by decide +kernel) rfl rfl (st' := [jI r1]) rfl ?_
  rcases jthr_s hf with ⟨e2, h2, hf⟩ | ⟨r2, h2, hf⟩
  · cases hf
    exact B_callST B (Nat.le_refl _) hno hq ca_X9_needArgument sa_X9_needArgument lk_X9_97 (t_X9_needArgument B.tr h2) (Nat.le_refl _) rfl (rest := []) rfl rfl (Nat.le_of_ble_eq_true rfl) (by decide +kernel) (Nat.le_of_ble_eq_true rfl) (Nat.le_of_ble_eq_true rfl)
  · refine B_callS B (Nat.le_refl _) (μ' := r2.2) (k' := 1) (n' := 6) ca_X9_needArgument sa_X9_needArgument lk_X9_97 (t_X9_needArgument B.tr h2) (Nat.le_refl _) rfl (rest := []) rfl rfl (Nat.le_of_ble_eq_true rfl) (by decide +kernel) rfl rfl (st' := []) rfl ?_
    refine B_blk B jlkX9_ok jcl_SKF [.aload_n 0, .getfield 20, .getfield 180] (by decide +kernel) (ls' := [(0, jR 0), (1, jI a0)]) (st' := [jR 20]) rfl (p1 := 16) rfl ?_
    obtain ⟨r3, h3, hf⟩ := jbd hf
    refine B_callV B (Nat.le_refl _) (μ' := r2.2) (k' := 1) (n' := 6) ca_X5_hasRoom in_X5_hasRoom se_X5_hasRoom lk_X9_105 (t_X5_hasRoom B.tr jcl_SKF ⟨rfl, rfl, by decide⟩ h3) (Nat.le_refl _) rfl rfl rfl (rest := []) rfl rfl (Nat.le_of_ble_eq_true rfl) (by decide +kernel) rfl rfl (st' := [jI r3]) rfl ?_
    rcases jthr_s hf with ⟨e4, h4, hf⟩ | ⟨r4, h4, hf⟩
    · cases hf
      exact B_callST B (Nat.le_refl _) hno hq ca_X9_needRoom sa_X9_needRoom lk_X9_111 (t_X9_needRoom B.tr h4) (Nat.le_refl _) rfl (rest := []) rfl rfl (Nat.le_of_ble_eq_true rfl) (by decide +kernel) (Nat.le_of_ble_eq_true rfl) (Nat.le_of_ble_eq_true rfl)
    · refine B_callS B (Nat.le_refl _) (μ' := r4.2) (k' := 2) (n' := 12) ca_X9_needRoom sa_X9_needRoom lk_X9_111 (t_X9_needRoom B.tr h4) (Nat.le_refl _) rfl (rest := []) rfl rfl (Nat.le_of_ble_eq_true rfl) (by decide +kernel) rfl rfl (st' := []) rfl ?_
      refine B_blk B jlkX9_ok jcl_SKF [.aload_n 0, .getfield 20, .getfield 180] (by decide +kernel) (ls' := [(0, jR 0), (1, jI a0)]) (st' := [jR 20]) rfl (p1 := 29) rfl ?_
      obtain ⟨r5, h5, hf⟩ := jbd hf
      refine B_callV B (Nat.le_refl _) (μ' := r5.2) (k' := 2) (n' := 12) ca_X5_addRow in_X5_addRow se_X5_addRow lk_X9_114 (t_X5_addRow B.tr jcl_SKF ⟨rfl, rfl, by decide⟩ h5) (Nat.le_refl _) rfl rfl rfl (rest := []) rfl rfl (Nat.le_of_ble_eq_true rfl) (by decide +kernel) rfl rfl (st' := [jI r5.1]) rfl ?_
      refine B_blk B jlkX9_ok jcl_SKF [.istore_n 2, .aload_n 0, .getfield 20, .getfield 180, .iload_n 2, .iconst 0, .iload_n 1] (by decide +kernel) (ls' := [(0, jR 0), (1, jI a0), (2, jI r5.1)]) (st' := [jI a0, jI 0, jI r5.1, jR 20]) rfl (p1 := 43) rfl ?_
      obtain ⟨r6, h6, hf⟩ := jbd hf
      refine B_callV B (Nat.le_refl _) (μ' := r6) (k' := 2) (n' := 12) ca_X5_set in_X5_set se_X5_set lk_X9_117 (t_X5_set B.tr jcl_SKF ⟨rfl, rfl, by decide⟩ h6) (Nat.le_refl _) rfl rfl rfl (rest := []) rfl rfl (Nat.le_of_ble_eq_true rfl) (by decide +kernel) rfl rfl (st' := []) rfl ?_
      refine B_blk B jlkX9_ok jcl_SKF [.iload_n 2] (by decide +kernel) (ls' := [(0, jR 0), (1, jI a0), (2, jI r5.1)]) (st' := [jI r5.1]) rfl (p1 := 47) rfl ?_
      cases hf
      exact B_retI B hq rfl (Nat.le_of_ble_eq_true rfl) (Nat.le_of_ble_eq_true rfl) (by decide +kernel)

def rm_X9_batch : Room := { frames := 9, cells := 2, slots := 12, locals := 120 }
def f_X9_batch_J36 (v1 : Int) (v2 : Int) (v3 : Int) (s0 : Int) (m : jMu) : Option (jOut Int) :=
  jthr (f_X9_needArgument s0 m) fun r2 => (f_X5_hasRoom 22 23 24 r2.2).bind fun r3 => jthr (f_X9_needRoom r3 r2.2) fun r4 => (f_X5_addRow 22 23 24 r4.2).bind fun r5 => (f_X5_set 22 23 24 r5.1 0 v1 r5.2).bind fun r6 => (f_X5_set 22 23 24 r5.1 1 v2 r6).bind fun r7 => (f_X5_set 22 23 24 r5.1 2 v3 r7).bind fun r8 => (f_X5_set 22 23 24 r5.1 3 (-1) r8).bind fun r9 => some (.inr (r5.1, r9))
def f_X9_batch_J35 (v1 : Int) (v2 : Int) (v3 : Int) (m : jMu) : Option (jOut Int) :=
  f_X9_batch_J36 v1 v2 v3 0 m
def f_X9_batch (a0 : Int) (a1 : Int) (a2 : Int) (m : jMu) : Option (jOut Int) :=
  (f_X9_isIn a0 0 99).bind fun r1 => (if r1 = 0 then f_X9_batch_J35 a0 a1 a2 m else (f_X9_isIn a1 0 50).bind fun r10 => (if r10 = 0 then f_X9_batch_J35 a0 a1 a2 m else (f_X9_isIn a2 0 255).bind fun r11 => (if r11 = 0 then f_X9_batch_J35 a0 a1 a2 m else f_X9_batch_J36 a0 a1 a2 1 m)))
theorem t_X9_batch_J36 {X : jX} (B : jB X cX9_batch RX9 5 SKF.length rm_X9_batch (some .int)) (hno : ∀ x ∈ (xc X).exceptionTable.toList, False) (v1 : Int) (v2 : Int) (v3 : Int) (s0 : Int) (m : jMu) (r : (jOut Int)) (hf : f_X9_batch_J36 v1 v2 v3 s0 m = some r) (hq : jQ X (joI r) SKF (joM r) rm_X9_batch.cells rm_X9_batch.slots) : J X SKF m 0 0 36 [(0, jR 0), (1, jI v1), (2, jI v2), (3, jI v3)] [jI s0] := by
  unfold f_X9_batch_J36 at hf
  rcases jthr_s hf with ⟨e2, h2, hf⟩ | ⟨r2, h2, hf⟩
  · cases hf
    exact B_callST B (Nat.le_refl _) hno hq ca_X9_needArgument sa_X9_needArgument lk_X9_97 (t_X9_needArgument B.tr h2) (Nat.le_refl _) rfl (rest := []) rfl rfl (Nat.le_of_ble_eq_true rfl) (by decide +kernel) (Nat.le_of_ble_eq_true rfl) (Nat.le_of_ble_eq_true rfl)
  · refine B_callS B (Nat.le_refl _) (μ' := r2.2) (k' := 1) (n' := 6) ca_X9_needArgument sa_X9_needArgument lk_X9_97 (t_X9_needArgument B.tr h2) (Nat.le_refl _) rfl (rest := []) rfl rfl (Nat.le_of_ble_eq_true rfl) (by decide +kernel) rfl rfl (st' := []) rfl ?_
    refine B_blk B jlkX9_ok jcl_SKF [.aload_n 0, .getfield 20, .getfield 183] (by decide +kernel) (ls' := [(0, jR 0), (1, jI v1), (2, jI v2), (3, jI v3)]) (st' := [jR 22]) rfl (p1 := 46) rfl ?_
    obtain ⟨r3, h3, hf⟩ := jbd hf
    refine B_callV B (Nat.le_refl _) (μ' := r2.2) (k' := 1) (n' := 6) ca_X5_hasRoom in_X5_hasRoom se_X5_hasRoom lk_X9_105 (t_X5_hasRoom B.tr jcl_SKF ⟨rfl, rfl, by decide⟩ h3) (Nat.le_refl _) rfl rfl rfl (rest := []) rfl rfl (Nat.le_of_ble_eq_true rfl) (by decide +kernel) rfl rfl (st' := [jI r3]) rfl ?_
    rcases jthr_s hf with ⟨e4, h4, hf⟩ | ⟨r4, h4, hf⟩
    · cases hf
      exact B_callST B (Nat.le_refl _) hno hq ca_X9_needRoom sa_X9_needRoom lk_X9_111 (t_X9_needRoom B.tr h4) (Nat.le_refl _) rfl (rest := []) rfl rfl (Nat.le_of_ble_eq_true rfl) (by decide +kernel) (Nat.le_of_ble_eq_true rfl) (Nat.le_of_ble_eq_true rfl)
    · refine B_callS B (Nat.le_refl _) (μ' := r4.2) (k' := 2) (n' := 12) ca_X9_needRoom sa_X9_needRoom lk_X9_111 (t_X9_needRoom B.tr h4) (Nat.le_refl _) rfl (rest := []) rfl rfl (Nat.le_of_ble_eq_true rfl) (by decide +kernel) rfl rfl (st' := []) rfl ?_
      refine B_blk B jlkX9_ok jcl_SKF [.aload_n 0, .getfield 20, .getfield 183] (by decide +kernel) (ls' := [(0, jR 0), (1, jI v1), (2, jI v2), (3, jI v3)]) (st' := [jR 22]) rfl (p1 := 59) rfl ?_
      obtain ⟨r5, h5, hf⟩ := jbd hf
      refine B_callV B (Nat.le_refl _) (μ' := r5.2) (k' := 2) (n' := 12) ca_X5_addRow in_X5_addRow se_X5_addRow lk_X9_114 (t_X5_addRow B.tr jcl_SKF ⟨rfl, rfl, by decide⟩ h5) (Nat.le_refl _) rfl rfl rfl (rest := []) rfl rfl (Nat.le_of_ble_eq_true rfl) (by decide +kernel) rfl rfl (st' := [jI r5.1]) rfl ?_
      refine B_blk B jlkX9_ok jcl_SKF [.istore 4, .aload_n 0, .getfield 20, .getfield 183, .iload 4, .iconst 0, .iload_n 1] (by decide +kernel) (ls' := [(0, jR 0), (1, jI v1), (2, jI v2), (3, jI v3), (4, jI r5.1)]) (st' := [jI v1, jI 0, jI r5.1, jR 22]) rfl (p1 := 75) rfl ?_
      obtain ⟨r6, h6, hf⟩ := jbd hf
      refine B_callV B (Nat.le_refl _) (μ' := r6) (k' := 2) (n' := 12) ca_X5_set in_X5_set se_X5_set lk_X9_117 (t_X5_set B.tr jcl_SKF ⟨rfl, rfl, by decide⟩ h6) (Nat.le_refl _) rfl rfl rfl (rest := []) rfl rfl (Nat.le_of_ble_eq_true rfl) (by decide +kernel) rfl rfl (st' := []) rfl ?_
      refine B_blk B jlkX9_ok jcl_SKF [.aload_n 0, .getfield 20, .getfield 183, .iload 4, .iconst 1, .iload_n 2] (by decide +kernel) (ls' := [(0, jR 0), (1, jI v1), (2, jI v2), (3, jI v3), (4, jI r5.1)]) (st' := [jI v2, jI 1, jI r5.1, jR 22]) rfl (p1 := 89) rfl ?_
      obtain ⟨r7, h7, hf⟩ := jbd hf
      refine B_callV B (Nat.le_refl _) (μ' := r7) (k' := 2) (n' := 12) ca_X5_set in_X5_set se_X5_set lk_X9_117 (t_X5_set B.tr jcl_SKF ⟨rfl, rfl, by decide⟩ h7) (Nat.le_refl _) rfl rfl rfl (rest := []) rfl rfl (Nat.le_of_ble_eq_true rfl) (by decide +kernel) rfl rfl (st' := []) rfl ?_
      refine B_blk B jlkX9_ok jcl_SKF [.aload_n 0, .getfield 20, .getfield 183, .iload 4, .iconst 2, .iload_n 3] (by decide +kernel) (ls' := [(0, jR 0), (1, jI v1), (2, jI v2), (3, jI v3), (4, jI r5.1)]) (st' := [jI v3, jI 2, jI r5.1, jR 22]) rfl (p1 := 103) rfl ?_
      obtain ⟨r8, h8, hf⟩ := jbd hf
      refine B_callV B (Nat.le_refl _) (μ' := r8) (k' := 2) (n' := 12) ca_X5_set in_X5_set se_X5_set lk_X9_117 (t_X5_set B.tr jcl_SKF ⟨rfl, rfl, by decide⟩ h8) (Nat.le_refl _) rfl rfl rfl (rest := []) rfl rfl (Nat.le_of_ble_eq_true rfl) (by decide +kernel) rfl rfl (st' := []) rfl ?_
      refine B_blk B jlkX9_ok jcl_SKF [.aload_n 0, .getfield 20, .getfield 183, .iload 4, .iconst 3, .iconst (-1)] (by decide +kernel) (ls' := [(0, jR 0), (1, jI v1), (2, jI v2), (3, jI v3), (4, jI r5.1)]) (st' := [jI (-1), jI 3, jI r5.1, jR 22]) rfl (p1 := 117) rfl ?_
      obtain ⟨r9, h9, hf⟩ := jbd hf
      refine B_callV B (Nat.le_refl _) (μ' := r9) (k' := 2) (n' := 12) ca_X5_set in_X5_set se_X5_set lk_X9_117 (t_X5_set B.tr jcl_SKF ⟨rfl, rfl, by decide⟩ h9) (Nat.le_refl _) rfl rfl rfl (rest := []) rfl rfl (Nat.le_of_ble_eq_true rfl) (by decide +kernel) rfl rfl (st' := []) rfl ?_
      refine B_blk B jlkX9_ok jcl_SKF [.iload 4] (by decide +kernel) (ls' := [(0, jR 0), (1, jI v1), (2, jI v2), (3, jI v3), (4, jI r5.1)]) (st' := [jI r5.1]) rfl (p1 := 122) rfl ?_
      cases hf
      exact B_retI B hq rfl (Nat.le_of_ble_eq_true rfl) (Nat.le_of_ble_eq_true rfl) (by decide +kernel)
theorem t_X9_batch_J35 {X : jX} (B : jB X cX9_batch RX9 5 SKF.length rm_X9_batch (some .int)) (hno : ∀ x ∈ (xc X).exceptionTable.toList, False) (v1 : Int) (v2 : Int) (v3 : Int) (m : jMu) (r : (jOut Int)) (hf : f_X9_batch_J35 v1 v2 v3 m = some r) (hq : jQ X (joI r) SKF (joM r) rm_X9_batch.cells rm_X9_batch.slots) : J X SKF m 0 0 35 [(0, jR 0), (1, jI v1), (2, jI v2), (3, jI v3)] [] := by
  unfold f_X9_batch_J35 at hf
  refine B_blk B jlkX9_ok jcl_SKF [.iconst 0] (by decide +kernel) (ls' := [(0, jR 0), (1, jI v1), (2, jI v2), (3, jI v3)]) (st' := [jI 0]) rfl (p1 := 36) rfl ?_
  exact t_X9_batch_J36 B hno v1 v2 v3 0 m _ hf hq
theorem t_X9_batch {l : Launch} {G : jG} (hl : l.stackTraces = false) {a0 : Int} {a1 : Int} {a2 : Int} {m : jMu} {r : (jOut Int)} (hf : f_X9_batch a0 a1 a2 m = some r) : jCt l G yX9_batch (.code yX9_batch cX9_batch 5 (some .int) :: jWG) rm_X9_batch [jR 0, jI a0, jI a1, jI a2] SKF m (joI r) SKF (joM r) := by
  unfold f_X9_batch at hf
  refine J_start (ls0 := [(0, jR 0), (1, jI a0), (2, jI a1), (3, jI a2)]) (by decide +kernel) hl (Nat.le_of_ble_eq_true rfl) rfl fun X C hN hn hR hr hnm hno hq => ?_
  have B : jB X cX9_batch RX9 5 SKF.length rm_X9_batch (some .int) := ⟨C, hN, Nat.le_of_eq hn, hR, hr⟩
  refine B_blk B jlkX9_ok jcl_SKF [.iload_n 1, .iconst 0, .bipush 99] (by decide +kernel) (ls' := [(0, jR 0), (1, jI a0), (2, jI a1), (3, jI a2)]) (st' := [jI 99, jI 0, jI a0]) rfl (p1 := 4) rfl ?_
  obtain ⟨r1, h1, hf⟩ := jbd hf
  refine B_callS B (Nat.le_refl _) (μ' := m) (k' := 0) (n' := 0) ca_X9_isIn sa_X9_isIn lk_X9_93 (t_X9_isIn B.tr jcl_SKF h1) (Nat.le_refl _) rfl (rest := []) rfl rfl (Nat.le_of_ble_eq_true rfl) (by decide +kernel) rfl rfl (st' := [jI r1]) rfl ?_
  refine J_if_eq B.1 (off := 28) (tgt := 35) (by decide +kernel) (by decide) hf (fun hf => ?_) (fun hf => ?_)
  · exact t_X9_batch_J35 B hno a0 a1 a2 m _ hf hq
  · refine B_blk B jlkX9_ok jcl_SKF [.iload_n 2, .iconst 0, .bipush 50] (by decide +kernel) (ls' := [(0, jR 0), (1, jI a0), (2, jI a1), (3, jI a2)]) (st' := [jI 50, jI 0, jI a1]) rfl (p1 := 14) rfl ?_
    obtain ⟨r10, h10, hf⟩ := jbd hf
    refine B_callS B (Nat.le_refl _) (μ' := m) (k' := 0) (n' := 0) ca_X9_isIn sa_X9_isIn lk_X9_93 (t_X9_isIn B.tr jcl_SKF h10) (Nat.le_refl _) rfl (rest := []) rfl rfl (Nat.le_of_ble_eq_true rfl) (by decide +kernel) rfl rfl (st' := [jI r10]) rfl ?_
    refine J_if_eq B.1 (off := 18) (tgt := 35) (by decide +kernel) (by decide) hf (fun hf => ?_) (fun hf => ?_)
    · exact t_X9_batch_J35 B hno a0 a1 a2 m _ hf hq
    · refine B_blk B jlkX9_ok jcl_SKF [.iload_n 3, .iconst 0, .sipush 255] (by decide +kernel) (ls' := [(0, jR 0), (1, jI a0), (2, jI a1), (3, jI a2)]) (st' := [jI 255, jI 0, jI a2]) rfl (p1 := 25) rfl ?_
      obtain ⟨r11, h11, hf⟩ := jbd hf
      refine B_callS B (Nat.le_refl _) (μ' := m) (k' := 0) (n' := 0) ca_X9_isIn sa_X9_isIn lk_X9_93 (t_X9_isIn B.tr jcl_SKF h11) (Nat.le_refl _) rfl (rest := []) rfl rfl (Nat.le_of_ble_eq_true rfl) (by decide +kernel) rfl rfl (st' := [jI r11]) rfl ?_
      refine J_if_eq B.1 (off := 7) (tgt := 35) (by decide +kernel) (by decide) hf (fun hf => ?_) (fun hf => ?_)
      · exact t_X9_batch_J35 B hno a0 a1 a2 m _ hf hq
      · refine B_blk B jlkX9_ok jcl_SKF [.iconst 1, .goto 4] (by decide +kernel) (ls' := [(0, jR 0), (1, jI a0), (2, jI a1), (3, jI a2)]) (st' := [jI 1]) rfl (p1 := 36) rfl ?_
        exact t_X9_batch_J36 B hno a0 a1 a2 1 m _ hf hq

def rm_J7_fill_53178 : Room := { frames := 2, cells := 0, slots := 0, locals := 64 }
def f_J7_fill_53178_L5 (a w : Nat) : Nat → Int → Int → Int → jMu → Option jMu
  | 0, _, _, _, _ => none
  | q + 1, v1, v2, v3, m => (if v3 ≤ v2 then some m else (if 0 ≤ v2 ∧ v2 < (w : Int) then (jlt (jup m a v2 v1) fun m1 => f_J7_fill_53178_L5 a w q v1 (jW (v2 + 1)) v3 m1) else none))
def f_J7_fill_53178 (a w : Nat) (a0 : Int) (m : jMu) : Option jMu :=
  f_J7_fill_53178_L5 a w jFU a0 0 (w : Int) m
theorem t_J7_fill_53178_L5 {X : jX} {S : List jSh} (hcl : jcl S) {a w : Nat} (hfacts : jAr S a w) (B : jB X cJ7_fill_53178 RJ7 4 S.length rm_J7_fill_53178 none) : ∀ (q : Nat) (v1 : Int) (v2 : Int) (v3 : Int) (m : jMu) (r : jMu), f_J7_fill_53178_L5 a w q v1 v2 v3 m = some r → jQ X (.inl none) S r rm_J7_fill_53178.cells rm_J7_fill_53178.slots → J X S m 0 0 5 [(0, jR a), (1, jI v1), (2, jI v2), (3, jI v3)] [] := by
  intro q
  induction q with
  | zero =>
    intro v1 v2 v3 m r hf
    rw [f_J7_fill_53178_L5] at hf
    cases hf
  | succ q ih =>
    intro v1 v2 v3 m r hf hq
    rw [f_J7_fill_53178_L5] at hf
    refine B_blk B (jlkn_ok RJ7) hcl [.iload_n 2, .iload_n 3] (by decide +kernel) (ls' := [(0, jR a), (1, jI v1), (2, jI v2), (3, jI v3)]) (st' := [jI v3, jI v2]) rfl (p1 := 7) rfl ?_
    refine J_icmp_ge B.1 (off := 13) (tgt := 20) (by decide +kernel) (by decide) hf (fun hf => ?_) (fun hf => ?_)
    · cases hf
      exact B_retV B hq rfl (Nat.le_of_ble_eq_true rfl) (Nat.le_of_ble_eq_true rfl) (by decide +kernel)
    · refine B_blk B (jlkn_ok RJ7) hcl [.aload_n 0, .iload_n 2, .iload_n 1] (by decide +kernel) (ls' := [(0, jR a), (1, jI v1), (2, jI v2), (3, jI v3)]) (st' := [jI v1, jI v2, jR a]) rfl (p1 := 13) rfl ?_
      obtain ⟨g2, hf⟩ := jgd hf
      refine K_iast (lenI := (w : Int)) B hfacts.1 rfl g2 (by decide +kernel) ?_
      obtain ⟨m1, hm1, hf⟩ := jlt_s hf
      rw [hm1]
      refine B_blk B (jlkn_ok RJ7) hcl [.iinc 2 1, .goto (-12)] (by decide +kernel) (ls' := [(0, jR a), (1, jI v1), (2, jI (jW (v2 + 1))), (3, jI v3)]) (st' := []) rfl (p1 := 5) rfl ?_
      exact ih v1 (jW (v2 + 1)) v3 m1 _ hf hq
theorem t_J7_fill_53178 {l : Launch} {G : jG} (hl : l.stackTraces = false) {S : List jSh} (hcl : jcl S) {a w : Nat} (hfacts : jAr S a w) {a0 : Int} {m : jMu} {r : jMu} (hf : f_J7_fill_53178 a w a0 m = some r) : jCt l G yJ7_fill_53178 (.code yJ7_fill_53178 cJ7_fill_53178 4 none :: jWG) rm_J7_fill_53178 [jR a, jI a0] S m (.inl none) S r := by
  unfold f_J7_fill_53178 at hf
  refine J_start (ls0 := [(0, jR a), (1, jI a0)]) (by decide +kernel) hl (Nat.le_of_ble_eq_true rfl) rfl fun X C hN hn hR hr hnm hno hq => ?_
  have B : jB X cJ7_fill_53178 RJ7 4 S.length rm_J7_fill_53178 none := ⟨C, hN, Nat.le_of_eq hn, hR, hr⟩
  refine B_blk B (jlkn_ok RJ7) hcl [.iconst 0, .istore_n 2, .aload_n 0] (by decide +kernel) (ls' := [(0, jR a), (1, jI a0), (2, jI 0)]) (st' := [jR a]) rfl (p1 := 3) rfl ?_
  refine K_alen (lenI := (w : Int)) B hcl hfacts.1 (by decide) rfl hfacts.2 (by decide +kernel) ?_
  refine B_blk B (jlkn_ok RJ7) hcl [.istore_n 3] (by decide +kernel) (ls' := [(0, jR a), (1, jI a0), (2, jI 0), (3, jI (w : Int))]) (st' := []) rfl (p1 := 5) rfl ?_
  exact t_J7_fill_53178_L5 hcl hfacts B jFU a0 0 (w : Int) m _ hf hq

def rm_X8_measureDry : Room := { frames := 10, cells := 0, slots := 0, locals := 161 }
def f_X8_measureDry_L10 : Nat → Int → Int → jMu → Option jMu
  | 0, _, _, _ => none
  | q + 1, v1, v3, m => (f_X5_size 24 25 320 m).bind fun r1 => (if r1 ≤ v3 then some m else (if 40 ≤ v3 then some m else (f_X5_get 24 25 320 v3 0 m).bind fun r2 => (if jAn (jSr v1 r2) 1 = 1 then (f_X5_get 24 25 320 v3 4 m).bind fun r3 => (f_X1_stand r2 (jW (r3 - 1)) m).bind fun r4 => (f_X5_get 24 25 320 v3 7 r4).bind fun r5 => (f_X1_dryHere r5 r4).bind fun r6 => (if 0 ≤ v3 ∧ v3 < 40 then (jlt (jup r4 68 v3 (jW (r3 + r6))) fun m7 => f_X8_measureDry_L10 q v1 (jW (v3 + 1)) m7) else none) else f_X8_measureDry_L10 q v1 (jW (v3 + 1)) m)))
def f_X8_measureDry (a0 : Int) (m : jMu) : Option jMu :=
  f_X8_measureDry_L10 jFU a0 0 m
theorem t_X8_measureDry_L10 {X : jX} (B : jB X cX8_measureDry RX8 6 SKF.length rm_X8_measureDry none) : ∀ (q : Nat) (v1 : Int) (v3 : Int) (m : jMu) (r : jMu), f_X8_measureDry_L10 q v1 v3 m = some r → jQ X (.inl none) SKF r rm_X8_measureDry.cells rm_X8_measureDry.slots → J X SKF m 0 0 10 [(0, jR 66), (1, jI v1), (2, jR 24), (3, jI v3)] [] := by
  intro q
  induction q with
  | zero =>
    intro v1 v3 m r hf
    rw [f_X8_measureDry_L10] at hf
    cases hf
  | succ q ih =>
    intro v1 v3 m r hf hq
    rw [f_X8_measureDry_L10] at hf
    refine B_blk B jlkX8_ok jcl_SKF [.iload_n 3, .aload_n 2] (by decide +kernel) (ls' := [(0, jR 66), (1, jI v1), (2, jR 24), (3, jI v3)]) (st' := [jR 24, jI v3]) rfl (p1 := 12) rfl ?_
    obtain ⟨r1, h1, hf⟩ := jbd hf
    refine B_callV B (Nat.le_refl _) (μ' := m) (k' := 0) (n' := 0) ca_X5_size in_X5_size se_X5_size lk_X8_49 (t_X5_size B.tr jcl_SKF ⟨rfl, rfl, by decide⟩ h1) (Nat.le_refl _) rfl rfl rfl (rest := [jI v3]) rfl rfl (Nat.le_of_ble_eq_true rfl) (by decide +kernel) rfl rfl (st' := [jI r1, jI v3]) rfl ?_
    refine J_icmp_ge B.1 (off := 80) (tgt := 95) (by decide +kernel) (by decide) hf (fun hf => ?_) (fun hf => ?_)
    · cases hf
      exact B_retV B hq rfl (Nat.le_of_ble_eq_true rfl) (Nat.le_of_ble_eq_true rfl) (by decide +kernel)
    · refine B_blk B jlkX8_ok jcl_SKF [.iload_n 3, .aload_n 0, .getfield 25, .arraylength] (by decide +kernel) (ls' := [(0, jR 66), (1, jI v1), (2, jR 24), (3, jI v3)]) (st' := [jI 40, jI v3]) rfl (p1 := 24) rfl ?_
      refine J_icmp_ge B.1 (off := 71) (tgt := 95) (by decide +kernel) (by decide) hf (fun hf => ?_) (fun hf => ?_)
      · cases hf
        exact B_retV B hq rfl (Nat.le_of_ble_eq_true rfl) (Nat.le_of_ble_eq_true rfl) (by decide +kernel)
      · refine B_blk B jlkX8_ok jcl_SKF [.aload_n 2, .iload_n 3, .iconst 0] (by decide +kernel) (ls' := [(0, jR 66), (1, jI v1), (2, jR 24), (3, jI v3)]) (st' := [jI 0, jI v3, jR 24]) rfl (p1 := 30) rfl ?_
        obtain ⟨r2, h2, hf⟩ := jbd hf
        refine B_callV B (Nat.le_refl _) (μ' := m) (k' := 0) (n' := 0) ca_X5_get in_X5_get se_X5_get lk_X8_55 (t_X5_get B.tr jcl_SKF ⟨rfl, rfl, by decide⟩ h2) (Nat.le_refl _) rfl rfl rfl (rest := []) rfl rfl (Nat.le_of_ble_eq_true rfl) (by decide +kernel) rfl rfl (st' := [jI r2]) rfl ?_
        refine B_blk B jlkX8_ok jcl_SKF [.istore 4, .iload_n 1, .iload 4, .ishr, .iconst 1, .iand, .iconst 1] (by decide +kernel) (ls' := [(0, jR 66), (1, jI v1), (2, jR 24), (3, jI v3), (4, jI r2)]) (st' := [jI 1, jI (jAn (jSr v1 r2) 1)]) rfl (p1 := 42) rfl ?_
        refine J_icmp_ne B.1 (off := 47) (tgt := 89) (by decide +kernel) (by decide) hf (fun hf => ?_) (fun hf => ?_)
        · refine B_blk B jlkX8_ok jcl_SKF [.aload_n 2, .iload_n 3, .iconst 4] (by decide +kernel) (ls' := [(0, jR 66), (1, jI v1), (2, jR 24), (3, jI v3), (4, jI r2)]) (st' := [jI 4, jI v3, jR 24]) rfl (p1 := 48) rfl ?_
          obtain ⟨r3, h3, hf⟩ := jbd hf
          refine B_callV B (Nat.le_refl _) (μ' := m) (k' := 0) (n' := 0) ca_X5_get in_X5_get se_X5_get lk_X8_55 (t_X5_get B.tr jcl_SKF ⟨rfl, rfl, by decide⟩ h3) (Nat.le_refl _) rfl rfl rfl (rest := []) rfl rfl (Nat.le_of_ble_eq_true rfl) (by decide +kernel) rfl rfl (st' := [jI r3]) rfl ?_
          refine B_blk B jlkX8_ok jcl_SKF [.istore 5, .aload_n 0, .getfield 15, .iload 4, .iload 5, .iconst 1, .isub] (by decide +kernel) (ls' := [(0, jR 66), (1, jI v1), (2, jR 24), (3, jI v3), (4, jI r2), (5, jI r3)]) (st' := [jI (jW (r3 - 1)), jI r2, jR 32]) rfl (p1 := 63) rfl ?_
          obtain ⟨r4, h4, hf⟩ := jbd hf
          refine B_callV B (Nat.le_refl _) (μ' := r4) (k' := 0) (n' := 0) ca_X1_stand in_X1_stand se_X1_stand lk_X8_59 (t_X1_stand B.tr h4) (Nat.le_refl _) rfl rfl rfl (rest := []) rfl rfl (Nat.le_of_ble_eq_true rfl) (by decide +kernel) rfl rfl (st' := []) rfl ?_
          refine B_blk B jlkX8_ok jcl_SKF [.aload_n 0, .getfield 25, .iload_n 3, .iload 5, .aload_n 0, .getfield 15, .aload_n 2, .iload_n 3, .bipush 7] (by decide +kernel) (ls' := [(0, jR 66), (1, jI v1), (2, jR 24), (3, jI v3), (4, jI r2), (5, jI r3)]) (st' := [jI 7, jI v3, jR 24, jR 32, jI r3, jI v3, jR 68]) rfl (p1 := 81) rfl ?_
          obtain ⟨r5, h5, hf⟩ := jbd hf
          refine B_callV B (Nat.le_refl _) (μ' := r4) (k' := 0) (n' := 0) ca_X5_get in_X5_get se_X5_get lk_X8_55 (t_X5_get B.tr jcl_SKF ⟨rfl, rfl, by decide⟩ h5) (Nat.le_refl _) rfl rfl rfl (rest := [jR 32, jI r3, jI v3, jR 68]) rfl rfl (Nat.le_of_ble_eq_true rfl) (by decide +kernel) rfl rfl (st' := [jI r5, jR 32, jI r3, jI v3, jR 68]) rfl ?_
          obtain ⟨r6, h6, hf⟩ := jbd hf
          refine B_callV B (Nat.le_refl _) (μ' := r4) (k' := 0) (n' := 0) ca_X1_dryHere in_X1_dryHere se_X1_dryHere lk_X8_65 (t_X1_dryHere B.tr h6) (Nat.le_refl _) rfl rfl rfl (rest := [jI r3, jI v3, jR 68]) rfl rfl (Nat.le_of_ble_eq_true rfl) (by decide +kernel) rfl rfl (st' := [jI r6, jI r3, jI v3, jR 68]) rfl ?_
          refine B_blk B jlkX8_ok jcl_SKF [.iadd] (by decide +kernel) (ls' := [(0, jR 66), (1, jI v1), (2, jR 24), (3, jI v3), (4, jI r2), (5, jI r3)]) (st' := [jI (jW (r3 + r6)), jI v3, jR 68]) rfl (p1 := 88) rfl ?_
          obtain ⟨g8, hf⟩ := jgd hf
          refine K_iast (lenI := 40) B rfl rfl g8 (by decide +kernel) ?_
          obtain ⟨m7, hm7, hf⟩ := jlt_s hf
          rw [hm7]
          refine B_blk B jlkX8_ok jcl_SKF [.iinc 3 1, .goto (-82)] (by decide +kernel) (ls' := [(0, jR 66), (1, jI v1), (2, jR 24), (3, jI (jW (v3 + 1))), (4, jI r2), (5, jI r3)]) (st' := []) rfl (p1 := 10) rfl ?_
          refine J_pick [0, 1, 2, 3] (ls' := [(0, jR 66), (1, jI v1), (2, jR 24), (3, jI (jW (v3 + 1)))]) rfl ?_
          exact ih v1 (jW (v3 + 1)) m7 _ hf hq
        · refine B_blk B jlkX8_ok jcl_SKF [.iinc 3 1, .goto (-82)] (by decide +kernel) (ls' := [(0, jR 66), (1, jI v1), (2, jR 24), (3, jI (jW (v3 + 1))), (4, jI r2)]) (st' := []) rfl (p1 := 10) rfl ?_
          refine J_pick [0, 1, 2, 3] (ls' := [(0, jR 66), (1, jI v1), (2, jR 24), (3, jI (jW (v3 + 1)))]) rfl ?_
          exact ih v1 (jW (v3 + 1)) m _ hf hq
theorem t_X8_measureDry {l : Launch} {G : jG} (hl : l.stackTraces = false) {a0 : Int} {m : jMu} {r : jMu} (hf : f_X8_measureDry a0 m = some r) : jCt l G yX8_measureDry (.code yX8_measureDry cX8_measureDry 6 none :: jWG) rm_X8_measureDry [jR 66, jI a0] SKF m (.inl none) SKF r := by
  unfold f_X8_measureDry at hf
  refine J_start (ls0 := [(0, jR 66), (1, jI a0)]) (by decide +kernel) hl (Nat.le_of_ble_eq_true rfl) rfl fun X C hN hn hR hr hnm hno hq => ?_
  have B : jB X cX8_measureDry RX8 6 SKF.length rm_X8_measureDry none := ⟨C, hN, Nat.le_of_eq hn, hR, hr⟩
  refine B_blk B jlkX8_ok jcl_SKF [.aload_n 0, .getfield 9, .getfield 45, .astore_n 2, .iconst 0, .istore_n 3] (by decide +kernel) (ls' := [(0, jR 66), (1, jI a0), (2, jR 24), (3, jI 0)]) (st' := []) rfl (p1 := 10) rfl ?_
  exact t_X8_measureDry_L10 B jFU a0 0 m _ hf hq

def rm_X8_begin : Room := { frames := 12, cells := 0, slots := 0, locals := 186 }
def f_X8_begin (a0 : Int) (a1 : Int) (m : jMu) : Option jMu :=
  (jlt (jup m 66 5 a0) fun m1 => (f_J7_fill_53178 67 2400 0 m1).bind fun r2 => (f_X8_measureDry a1 r2).bind fun r3 => some r3)
theorem t_X8_begin {l : Launch} {G : jG} (hl : l.stackTraces = false) {a0 : Int} {a1 : Int} {m : jMu} {r : jMu} (hf : f_X8_begin a0 a1 m = some r) : jCt l G yX8_begin (.code yX8_begin cX8_begin 3 none :: jWG) rm_X8_begin [jR 66, jI a0, jI a1] SKF m (.inl none) SKF r := by
  unfold f_X8_begin at hf
  refine J_start (ls0 := [(0, jR 66), (1, jI a0), (2, jI a1)]) (by decide +kernel) hl (Nat.le_of_ble_eq_true rfl) rfl fun X C hN hn hR hr hnm hno hq => ?_
  have B : jB X cX8_begin RX8 3 SKF.length rm_X8_begin none := ⟨C, hN, Nat.le_of_eq hn, hR, hr⟩
  refine B_blk B jlkX8_ok jcl_SKF [.aload_n 0, .iload_n 1] (by decide +kernel) (ls' := [(0, jR 66), (1, jI a0), (2, jI a1)]) (st' := [jI a0, jR 66]) rfl (p1 := 2) rfl ?_
  refine K_putI (jI' := 5) B jp_X8_31 rfl rfl rfl (by decide +kernel) ?_
  obtain ⟨m1, hm1, hf⟩ := jlt_s hf
  rw [hm1]
  refine B_blk B jlkX8_ok jcl_SKF [.aload_n 0, .getfield 19, .iconst 0] (by decide +kernel) (ls' := [(0, jR 66), (1, jI a0), (2, jI a1)]) (st' := [jI 0, jR 67]) rfl (p1 := 10) rfl ?_
  obtain ⟨r2, h2, hf⟩ := jbd hf
  refine B_callS B (Nat.le_refl _) (μ' := r2) (k' := 0) (n' := 0) ca_J7_fill_53178 sa_J7_fill_53178 lk_X8_35 (t_J7_fill_53178 B.tr jcl_SKF ⟨rfl, by decide⟩ h2) (Nat.le_refl _) rfl (rest := []) rfl rfl (Nat.le_of_ble_eq_true rfl) (by decide +kernel) rfl rfl (st' := []) rfl ?_
  refine B_blk B jlkX8_ok jcl_SKF [.aload_n 0, .iload_n 2] (by decide +kernel) (ls' := [(0, jR 66), (1, jI a0), (2, jI a1)]) (st' := [jI a1, jR 66]) rfl (p1 := 15) rfl ?_
  obtain ⟨r3, h3, hf⟩ := jbd hf
  refine B_callV B (Nat.le_refl _) (μ' := r3) (k' := 0) (n' := 0) ca_X8_measureDry in_X8_measureDry se_X8_measureDry lk_X8_41 (t_X8_measureDry B.tr h3) (Nat.le_refl _) rfl rfl rfl (rest := []) rfl rfl (Nat.le_of_ble_eq_true rfl) (by decide +kernel) rfl rfl (st' := []) rfl ?_
  cases hf
  exact B_retV B hq rfl (Nat.le_of_ble_eq_true rfl) (Nat.le_of_ble_eq_true rfl) (by decide +kernel)

def rm_X8_isOpen : Room := { frames := 8, cells := 0, slots := 0, locals := 139 }
def f_X8_isOpen (a0 : Int) (a1 : Int) (m : jMu) : Option (Int × jMu) :=
  (if a1 < 0 then some (0, m) else (if 2400 ≤ a1 then some (0, m) else (if a0 < 0 then some (0, m) else (if a0 < 8 then (if 0 ≤ a1 ∧ a1 < 2400 then (if jAn (m 67 a1) (jSl 1 a0) = 0 then (f_X1_stand a0 a1 m).bind fun r1 => (if 0 ≤ a1 ∧ a1 < 2400 then (f_X1_whyHere (r1 66 5) r1).bind fun r2 => (if r2 = 0 then (if 0 ≤ a1 ∧ a1 < 2400 then (jlt (jup r1 67 a1 (jOr (r1 67 a1) (jOr (jSl 1 a0) (jSl (jSl 1 a0) 8)))) fun m3 => (if 0 ≤ a1 ∧ a1 < 2400 then (if jAn (m3 67 a1) (jSl (jSl 1 a0) 8) = 0 then some (0, m3) else some (1, m3)) else none)) else none) else (if 0 ≤ a1 ∧ a1 < 2400 then (jlt (jup r1 67 a1 (jOr (r1 67 a1) (jSl 1 a0))) fun m6 => (if 0 ≤ a1 ∧ a1 < 2400 then (if jAn (m6 67 a1) (jSl (jSl 1 a0) 8) = 0 then some (0, m6) else some (1, m6)) else none)) else none)) else none) else (if 0 ≤ a1 ∧ a1 < 2400 then (if jAn (m 67 a1) (jSl (jSl 1 a0) 8) = 0 then some (0, m) else some (1, m)) else none)) else none) else some (0, m)))))
theorem t_X8_isOpen {l : Launch} {G : jG} (hl : l.stackTraces = false) {a0 : Int} {a1 : Int} {m : jMu} {r : (Int × jMu)} (hf : f_X8_isOpen a0 a1 m = some r) : jCt l G yX8_isOpen (.code yX8_isOpen cX8_isOpen 5 (some .boolean) :: jWG) rm_X8_isOpen [jR 66, jI a0, jI a1] SKF m (.inl (some (jI r.1))) SKF r.2 := by
  unfold f_X8_isOpen at hf
  refine J_start (ls0 := [(0, jR 66), (1, jI a0), (2, jI a1)]) (by decide +kernel) hl (Nat.le_of_ble_eq_true rfl) rfl fun X C hN hn hR hr hnm hno hq => ?_
  have B : jB X cX8_isOpen RX8 5 SKF.length rm_X8_isOpen (some .boolean) := ⟨C, hN, Nat.le_of_eq hn, hR, hr⟩
  refine B_blk B jlkX8_ok jcl_SKF [.iload_n 2] (by decide +kernel) (ls' := [(0, jR 66), (1, jI a0), (2, jI a1)]) (st' := [jI a1]) rfl (p1 := 1) rfl ?_
  refine J_if_lt B.1 (off := 22) (tgt := 23) (by decide +kernel) (by decide) hf (fun hf => ?_) (fun hf => ?_)
  · refine B_blk B jlkX8_ok jcl_SKF [.iconst 0] (by decide +kernel) (ls' := [(0, jR 66), (1, jI a0), (2, jI a1)]) (st' := [jI 0]) rfl (p1 := 24) rfl ?_
    cases hf
    exact B_retZ B (Or.inl rfl) hq rfl (Nat.le_of_ble_eq_true rfl) (Nat.le_of_ble_eq_true rfl) (by decide +kernel)
  · refine B_blk B jlkX8_ok jcl_SKF [.iload_n 2, .aload_n 0, .getfield 19, .arraylength] (by decide +kernel) (ls' := [(0, jR 66), (1, jI a0), (2, jI a1)]) (st' := [jI 2400, jI a1]) rfl (p1 := 10) rfl ?_
    refine J_icmp_ge B.1 (off := 13) (tgt := 23) (by decide +kernel) (by decide) hf (fun hf => ?_) (fun hf => ?_)
    · refine B_blk B jlkX8_ok jcl_SKF [.iconst 0] (by decide +kernel) (ls' := [(0, jR 66), (1, jI a0), (2, jI a1)]) (st' := [jI 0]) rfl (p1 := 24) rfl ?_
      cases hf
      exact B_retZ B (Or.inl rfl) hq rfl (Nat.le_of_ble_eq_true rfl) (Nat.le_of_ble_eq_true rfl) (by decide +kernel)
    · refine B_blk B jlkX8_ok jcl_SKF [.iload_n 1] (by decide +kernel) (ls' := [(0, jR 66), (1, jI a0), (2, jI a1)]) (st' := [jI a0]) rfl (p1 := 14) rfl ?_
      refine J_if_lt B.1 (off := 9) (tgt := 23) (by decide +kernel) (by decide) hf (fun hf => ?_) (fun hf => ?_)
      · refine B_blk B jlkX8_ok jcl_SKF [.iconst 0] (by decide +kernel) (ls' := [(0, jR 66), (1, jI a0), (2, jI a1)]) (st' := [jI 0]) rfl (p1 := 24) rfl ?_
        cases hf
        exact B_retZ B (Or.inl rfl) hq rfl (Nat.le_of_ble_eq_true rfl) (Nat.le_of_ble_eq_true rfl) (by decide +kernel)
      · refine B_blk B jlkX8_ok jcl_SKF [.iload_n 1, .bipush 8] (by decide +kernel) (ls' := [(0, jR 66), (1, jI a0), (2, jI a1)]) (st' := [jI 8, jI a0]) rfl (p1 := 20) rfl ?_
        refine J_icmp_lt B.1 (off := 5) (tgt := 25) (by decide +kernel) (by decide) hf (fun hf => ?_) (fun hf => ?_)
        · refine B_blk B jlkX8_ok jcl_SKF [.iconst 1, .iload_n 1, .ishl, .istore_n 3, .iload_n 3, .bipush 8, .ishl, .istore 4, .aload_n 0, .getfield 19, .iload_n 2] (by decide +kernel) (ls' := [(0, jR 66), (1, jI a0), (2, jI a1), (3, jI (jSl 1 a0)), (4, jI (jSl (jSl 1 a0) 8))]) (st' := [jI a1, jR 67]) rfl (p1 := 40) rfl ?_
          obtain ⟨g11, hf⟩ := jgd hf
          refine K_iald (lenI := 2400) B rfl rfl g11 (by decide +kernel) ?_
          refine B_blk B jlkX8_ok jcl_SKF [.iload_n 3, .iand] (by decide +kernel) (ls' := [(0, jR 66), (1, jI a0), (2, jI a1), (3, jI (jSl 1 a0)), (4, jI (jSl (jSl 1 a0) 8))]) (st' := [jI (jAn (m 67 a1) (jSl 1 a0))]) rfl (p1 := 43) rfl ?_
          refine J_if_ne B.1 (off := 43) (tgt := 86) (by decide +kernel) (by decide) hf (fun hf => ?_) (fun hf => ?_)
          · refine B_blk B jlkX8_ok jcl_SKF [.aload_n 0, .getfield 15, .iload_n 1, .iload_n 2] (by decide +kernel) (ls' := [(0, jR 66), (1, jI a0), (2, jI a1), (3, jI (jSl 1 a0)), (4, jI (jSl (jSl 1 a0) 8))]) (st' := [jI a1, jI a0, jR 32]) rfl (p1 := 52) rfl ?_
            obtain ⟨r1, h1, hf⟩ := jbd hf
            refine B_callV B (Nat.le_refl _) (μ' := r1) (k' := 0) (n' := 0) ca_X1_stand in_X1_stand se_X1_stand lk_X8_59 (t_X1_stand B.tr h1) (Nat.le_refl _) rfl rfl rfl (rest := []) rfl rfl (Nat.le_of_ble_eq_true rfl) (by decide +kernel) rfl rfl (st' := []) rfl ?_
            refine B_blk B jlkX8_ok jcl_SKF [.aload_n 0, .getfield 19, .iload_n 2, .dup2] (by decide +kernel) (ls' := [(0, jR 66), (1, jI a0), (2, jI a1), (3, jI (jSl 1 a0)), (4, jI (jSl (jSl 1 a0) 8))]) (st' := [jI a1, jR 67, jI a1, jR 67]) rfl (p1 := 61) rfl ?_
            obtain ⟨g9, hf⟩ := jgd hf
            refine K_iald (lenI := 2400) B rfl rfl g9 (by decide +kernel) ?_
            refine B_blk B jlkX8_ok jcl_SKF [.aload_n 0, .getfield 15, .aload_n 0, .getfield 31] (by decide +kernel) (ls' := [(0, jR 66), (1, jI a0), (2, jI a1), (3, jI (jSl 1 a0)), (4, jI (jSl (jSl 1 a0) 8))]) (st' := [jI (r1 66 5), jR 32, jI (r1 67 a1), jI a1, jR 67]) rfl (p1 := 70) rfl ?_
            obtain ⟨r2, h2, hf⟩ := jbd hf
            refine B_callV B (Nat.le_refl _) (μ' := r1) (k' := 0) (n' := 0) ca_X1_whyHere in_X1_whyHere se_X1_whyHere lk_X8_82 (t_X1_whyHere B.tr h2) (Nat.le_refl _) rfl rfl rfl (rest := [jI (r1 67 a1), jI a1, jR 67]) rfl rfl (Nat.le_of_ble_eq_true rfl) (by decide +kernel) rfl rfl (st' := [jI r2, jI (r1 67 a1), jI a1, jR 67]) rfl ?_
            refine J_if_ne B.1 (off := 10) (tgt := 83) (by decide +kernel) (by decide) hf (fun hf => ?_) (fun hf => ?_)
            · refine B_blk B jlkX8_ok jcl_SKF [.iload_n 3, .iload 4, .ior, .goto 4, .ior] (by decide +kernel) (ls' := [(0, jR 66), (1, jI a0), (2, jI a1), (3, jI (jSl 1 a0)), (4, jI (jSl (jSl 1 a0) 8))]) (st' := [jI (jOr (r1 67 a1) (jOr (jSl 1 a0) (jSl (jSl 1 a0) 8))), jI a1, jR 67]) rfl (p1 := 85) rfl ?_
              obtain ⟨g5, hf⟩ := jgd hf
              refine K_iast (lenI := 2400) B rfl rfl g5 (by decide +kernel) ?_
              obtain ⟨m3, hm3, hf⟩ := jlt_s hf
              rw [hm3]
              refine B_blk B jlkX8_ok jcl_SKF [.aload_n 0, .getfield 19, .iload_n 2] (by decide +kernel) (ls' := [(0, jR 66), (1, jI a0), (2, jI a1), (3, jI (jSl 1 a0)), (4, jI (jSl (jSl 1 a0) 8))]) (st' := [jI a1, jR 67]) rfl (p1 := 91) rfl ?_
              obtain ⟨g4, hf⟩ := jgd hf
              refine K_iald (lenI := 2400) B rfl rfl g4 (by decide +kernel) ?_
              refine B_blk B jlkX8_ok jcl_SKF [.iload 4, .iand] (by decide +kernel) (ls' := [(0, jR 66), (1, jI a0), (2, jI a1), (3, jI (jSl 1 a0)), (4, jI (jSl (jSl 1 a0) 8))]) (st' := [jI (jAn (m3 67 a1) (jSl (jSl 1 a0) 8))]) rfl (p1 := 95) rfl ?_
              refine J_if_eq B.1 (off := 7) (tgt := 102) (by decide +kernel) (by decide) hf (fun hf => ?_) (fun hf => ?_)
              · refine B_blk B jlkX8_ok jcl_SKF [.iconst 0] (by decide +kernel) (ls' := [(0, jR 66), (1, jI a0), (2, jI a1), (3, jI (jSl 1 a0)), (4, jI (jSl (jSl 1 a0) 8))]) (st' := [jI 0]) rfl (p1 := 103) rfl ?_
                cases hf
                exact B_retZ B (Or.inl rfl) hq rfl (Nat.le_of_ble_eq_true rfl) (Nat.le_of_ble_eq_true rfl) (by decide +kernel)
              · refine B_blk B jlkX8_ok jcl_SKF [.iconst 1, .goto 4] (by decide +kernel) (ls' := [(0, jR 66), (1, jI a0), (2, jI a1), (3, jI (jSl 1 a0)), (4, jI (jSl (jSl 1 a0) 8))]) (st' := [jI 1]) rfl (p1 := 103) rfl ?_
                cases hf
                exact B_retZ B (Or.inr rfl) hq rfl (Nat.le_of_ble_eq_true rfl) (Nat.le_of_ble_eq_true rfl) (by decide +kernel)
            · refine B_blk B jlkX8_ok jcl_SKF [.iload_n 3, .ior] (by decide +kernel) (ls' := [(0, jR 66), (1, jI a0), (2, jI a1), (3, jI (jSl 1 a0)), (4, jI (jSl (jSl 1 a0) 8))]) (st' := [jI (jOr (r1 67 a1) (jSl 1 a0)), jI a1, jR 67]) rfl (p1 := 85) rfl ?_
              obtain ⟨g8, hf⟩ := jgd hf
              refine K_iast (lenI := 2400) B rfl rfl g8 (by decide +kernel) ?_
              obtain ⟨m6, hm6, hf⟩ := jlt_s hf
              rw [hm6]
              refine B_blk B jlkX8_ok jcl_SKF [.aload_n 0, .getfield 19, .iload_n 2] (by decide +kernel) (ls' := [(0, jR 66), (1, jI a0), (2, jI a1), (3, jI (jSl 1 a0)), (4, jI (jSl (jSl 1 a0) 8))]) (st' := [jI a1, jR 67]) rfl (p1 := 91) rfl ?_
              obtain ⟨g7, hf⟩ := jgd hf
              refine K_iald (lenI := 2400) B rfl rfl g7 (by decide +kernel) ?_
              refine B_blk B jlkX8_ok jcl_SKF [.iload 4, .iand] (by decide +kernel) (ls' := [(0, jR 66), (1, jI a0), (2, jI a1), (3, jI (jSl 1 a0)), (4, jI (jSl (jSl 1 a0) 8))]) (st' := [jI (jAn (m6 67 a1) (jSl (jSl 1 a0) 8))]) rfl (p1 := 95) rfl ?_
              refine J_if_eq B.1 (off := 7) (tgt := 102) (by decide +kernel) (by decide) hf (fun hf => ?_) (fun hf => ?_)
              · refine B_blk B jlkX8_ok jcl_SKF [.iconst 0] (by decide +kernel) (ls' := [(0, jR 66), (1, jI a0), (2, jI a1), (3, jI (jSl 1 a0)), (4, jI (jSl (jSl 1 a0) 8))]) (st' := [jI 0]) rfl (p1 := 103) rfl ?_
                cases hf
                exact B_retZ B (Or.inl rfl) hq rfl (Nat.le_of_ble_eq_true rfl) (Nat.le_of_ble_eq_true rfl) (by decide +kernel)
              · refine B_blk B jlkX8_ok jcl_SKF [.iconst 1, .goto 4] (by decide +kernel) (ls' := [(0, jR 66), (1, jI a0), (2, jI a1), (3, jI (jSl 1 a0)), (4, jI (jSl (jSl 1 a0) 8))]) (st' := [jI 1]) rfl (p1 := 103) rfl ?_
                cases hf
                exact B_retZ B (Or.inr rfl) hq rfl (Nat.le_of_ble_eq_true rfl) (Nat.le_of_ble_eq_true rfl) (by decide +kernel)
          · refine B_blk B jlkX8_ok jcl_SKF [.aload_n 0, .getfield 19, .iload_n 2] (by decide +kernel) (ls' := [(0, jR 66), (1, jI a0), (2, jI a1), (3, jI (jSl 1 a0)), (4, jI (jSl (jSl 1 a0) 8))]) (st' := [jI a1, jR 67]) rfl (p1 := 91) rfl ?_
            obtain ⟨g10, hf⟩ := jgd hf
            refine K_iald (lenI := 2400) B rfl rfl g10 (by decide +kernel) ?_
            refine B_blk B jlkX8_ok jcl_SKF [.iload 4, .iand] (by decide +kernel) (ls' := [(0, jR 66), (1, jI a0), (2, jI a1), (3, jI (jSl 1 a0)), (4, jI (jSl (jSl 1 a0) 8))]) (st' := [jI (jAn (m 67 a1) (jSl (jSl 1 a0) 8))]) rfl (p1 := 95) rfl ?_
            refine J_if_eq B.1 (off := 7) (tgt := 102) (by decide +kernel) (by decide) hf (fun hf => ?_) (fun hf => ?_)
            · refine B_blk B jlkX8_ok jcl_SKF [.iconst 0] (by decide +kernel) (ls' := [(0, jR 66), (1, jI a0), (2, jI a1), (3, jI (jSl 1 a0)), (4, jI (jSl (jSl 1 a0) 8))]) (st' := [jI 0]) rfl (p1 := 103) rfl ?_
              cases hf
              exact B_retZ B (Or.inl rfl) hq rfl (Nat.le_of_ble_eq_true rfl) (Nat.le_of_ble_eq_true rfl) (by decide +kernel)
            · refine B_blk B jlkX8_ok jcl_SKF [.iconst 1, .goto 4] (by decide +kernel) (ls' := [(0, jR 66), (1, jI a0), (2, jI a1), (3, jI (jSl 1 a0)), (4, jI (jSl (jSl 1 a0) 8))]) (st' := [jI 1]) rfl (p1 := 103) rfl ?_
              cases hf
              exact B_retZ B (Or.inr rfl) hq rfl (Nat.le_of_ble_eq_true rfl) (Nat.le_of_ble_eq_true rfl) (by decide +kernel)
        · refine B_blk B jlkX8_ok jcl_SKF [.iconst 0] (by decide +kernel) (ls' := [(0, jR 66), (1, jI a0), (2, jI a1)]) (st' := [jI 0]) rfl (p1 := 24) rfl ?_
          cases hf
          exact B_retZ B (Or.inl rfl) hq rfl (Nat.le_of_ble_eq_true rfl) (Nat.le_of_ble_eq_true rfl) (by decide +kernel)

def rm_X8_workEnd : Room := { frames := 10, cells := 0, slots := 0, locals := 163 }
def f_X8_workEnd_L51 : Nat → Int → Int → Int → jMu → Option (Int × jMu)
  | 0, _, _, _, _ => none
  | q + 1, v1, v5, v6, m => (if 2400 ≤ v6 then some ((-1), m) else (f_X8_isOpen v1 v6 m).bind fun r3 => (if r3.1 = 0 then f_X8_workEnd_L51 q v1 v5 (jW (v6 + 1)) r3.2 else (if 0 < jW (v5 + (-1)) then f_X8_workEnd_L51 q v1 (jW (v5 + (-1))) (jW (v6 + 1)) r3.2 else some (jW (v6 + 1), r3.2))))
def f_X8_workEnd (a0 : Int) (a1 : Int) (a2 : Int) (m : jMu) : Option (Int × jMu) :=
  (f_X5_get 20 21 4 a1 0 m).bind fun r1 => (if a2 < 0 then some ((-1), m) else (if 1 ≤ r1 then (f_X5_get 4 5 80 a0 2 m).bind fun r2 => (if r1 ≠ 0 then f_X8_workEnd_L51 jFU a0 (jDv (jW (jW (r2 + r1) - 1)) r1) a2 m else none) else some ((-1), m)))
theorem t_X8_workEnd_L51 {X : jX} (B : jB X cX8_workEnd RX8 7 SKF.length rm_X8_workEnd (some .int)) : ∀ (q : Nat) (v1 : Int) (v5 : Int) (v6 : Int) (m : jMu) (r : (Int × jMu)), f_X8_workEnd_L51 q v1 v5 v6 m = some r → jQ X (.inl (some (jI r.1))) SKF r.2 rm_X8_workEnd.cells rm_X8_workEnd.slots → J X SKF m 0 0 51 [(0, jR 66), (1, jI v1), (5, jI v5), (6, jI v6)] [] := by
  intro q
  induction q with
  | zero =>
    intro v1 v5 v6 m r hf
    rw [f_X8_workEnd_L51] at hf
    cases hf
  | succ q ih =>
    intro v1 v5 v6 m r hf hq
    rw [f_X8_workEnd_L51] at hf
    refine B_blk B jlkX8_ok jcl_SKF [.iload 6, .sipush 2400] (by decide +kernel) (ls' := [(0, jR 66), (1, jI v1), (5, jI v5), (6, jI v6)]) (st' := [jI 2400, jI v6]) rfl (p1 := 56) rfl ?_
    refine J_icmp_ge B.1 (off := 32) (tgt := 88) (by decide +kernel) (by decide) hf (fun hf => ?_) (fun hf => ?_)
    · refine B_blk B jlkX8_ok jcl_SKF [.iconst (-1)] (by decide +kernel) (ls' := [(0, jR 66), (1, jI v1), (5, jI v5), (6, jI v6)]) (st' := [jI (-1)]) rfl (p1 := 89) rfl ?_
      cases hf
      exact B_retI B hq rfl (Nat.le_of_ble_eq_true rfl) (Nat.le_of_ble_eq_true rfl) (by decide +kernel)
    · refine B_blk B jlkX8_ok jcl_SKF [.aload_n 0, .iload_n 1, .iload 6] (by decide +kernel) (ls' := [(0, jR 66), (1, jI v1), (5, jI v5), (6, jI v6)]) (st' := [jI v6, jI v1, jR 66]) rfl (p1 := 63) rfl ?_
      obtain ⟨r3, h3, hf⟩ := jbd hf
      refine B_callV B (Nat.le_refl _) (μ' := r3.2) (k' := 0) (n' := 0) ca_X8_isOpen in_X8_isOpen se_X8_isOpen lk_X8_78 (t_X8_isOpen B.tr h3) (Nat.le_refl _) rfl rfl rfl (rest := []) rfl rfl (Nat.le_of_ble_eq_true rfl) (by decide +kernel) rfl rfl (st' := [jI r3.1]) rfl ?_
      refine J_if_eq B.1 (off := 16) (tgt := 82) (by decide +kernel) (by decide) hf (fun hf => ?_) (fun hf => ?_)
      · refine B_blk B jlkX8_ok jcl_SKF [.iinc 6 1, .goto (-34)] (by decide +kernel) (ls' := [(0, jR 66), (1, jI v1), (5, jI v5), (6, jI (jW (v6 + 1)))]) (st' := []) rfl (p1 := 51) rfl ?_
        exact ih v1 v5 (jW (v6 + 1)) r3.2 _ hf hq
      · refine B_blk B jlkX8_ok jcl_SKF [.iinc 5 (-1), .iload 5] (by decide +kernel) (ls' := [(0, jR 66), (1, jI v1), (5, jI (jW (v5 + (-1)))), (6, jI v6)]) (st' := [jI (jW (v5 + (-1)))]) rfl (p1 := 74) rfl ?_
        refine J_if_gt B.1 (off := 8) (tgt := 82) (by decide +kernel) (by decide) hf (fun hf => ?_) (fun hf => ?_)
        · refine B_blk B jlkX8_ok jcl_SKF [.iinc 6 1, .goto (-34)] (by decide +kernel) (ls' := [(0, jR 66), (1, jI v1), (5, jI (jW (v5 + (-1)))), (6, jI (jW (v6 + 1)))]) (st' := []) rfl (p1 := 51) rfl ?_
          exact ih v1 (jW (v5 + (-1))) (jW (v6 + 1)) r3.2 _ hf hq
        · refine B_blk B jlkX8_ok jcl_SKF [.iload 6, .iconst 1, .iadd] (by decide +kernel) (ls' := [(0, jR 66), (1, jI v1), (5, jI (jW (v5 + (-1)))), (6, jI v6)]) (st' := [jI (jW (v6 + 1))]) rfl (p1 := 81) rfl ?_
          cases hf
          exact B_retI B hq rfl (Nat.le_of_ble_eq_true rfl) (Nat.le_of_ble_eq_true rfl) (by decide +kernel)
theorem t_X8_workEnd {l : Launch} {G : jG} (hl : l.stackTraces = false) {a0 : Int} {a1 : Int} {a2 : Int} {m : jMu} {r : (Int × jMu)} (hf : f_X8_workEnd a0 a1 a2 m = some r) : jCt l G yX8_workEnd (.code yX8_workEnd cX8_workEnd 7 (some .int) :: jWG) rm_X8_workEnd [jR 66, jI a0, jI a1, jI a2] SKF m (.inl (some (jI r.1))) SKF r.2 := by
  unfold f_X8_workEnd at hf
  refine J_start (ls0 := [(0, jR 66), (1, jI a0), (2, jI a1), (3, jI a2)]) (by decide +kernel) hl (Nat.le_of_ble_eq_true rfl) rfl fun X C hN hn hR hr hnm hno hq => ?_
  have B : jB X cX8_workEnd RX8 7 SKF.length rm_X8_workEnd (some .int) := ⟨C, hN, Nat.le_of_eq hn, hR, hr⟩
  refine B_blk B jlkX8_ok jcl_SKF [.aload_n 0, .getfield 9, .getfield 72, .iload_n 2, .iconst 0] (by decide +kernel) (ls' := [(0, jR 66), (1, jI a0), (2, jI a1), (3, jI a2)]) (st' := [jI 0, jI a1, jR 20]) rfl (p1 := 9) rfl ?_
  obtain ⟨r1, h1, hf⟩ := jbd hf
  refine B_callV B (Nat.le_refl _) (μ' := m) (k' := 0) (n' := 0) ca_X5_get in_X5_get se_X5_get lk_X8_55 (t_X5_get B.tr jcl_SKF ⟨rfl, rfl, by decide⟩ h1) (Nat.le_refl _) rfl rfl rfl (rest := []) rfl rfl (Nat.le_of_ble_eq_true rfl) (by decide +kernel) rfl rfl (st' := [jI r1]) rfl ?_
  refine B_blk B jlkX8_ok jcl_SKF [.istore 4, .iload_n 3] (by decide +kernel) (ls' := [(0, jR 66), (1, jI a0), (2, jI a1), (3, jI a2), (4, jI r1)]) (st' := [jI a2]) rfl (p1 := 15) rfl ?_
  refine J_if_lt B.1 (off := 9) (tgt := 24) (by decide +kernel) (by decide) hf (fun hf => ?_) (fun hf => ?_)
  · refine B_blk B jlkX8_ok jcl_SKF [.iconst (-1)] (by decide +kernel) (ls' := [(0, jR 66), (1, jI a0), (2, jI a1), (3, jI a2), (4, jI r1)]) (st' := [jI (-1)]) rfl (p1 := 25) rfl ?_
    cases hf
    exact B_retI B hq rfl (Nat.le_of_ble_eq_true rfl) (Nat.le_of_ble_eq_true rfl) (by decide +kernel)
  · refine B_blk B jlkX8_ok jcl_SKF [.iload 4, .iconst 1] (by decide +kernel) (ls' := [(0, jR 66), (1, jI a0), (2, jI a1), (3, jI a2), (4, jI r1)]) (st' := [jI 1, jI r1]) rfl (p1 := 21) rfl ?_
    refine J_icmp_ge B.1 (off := 5) (tgt := 26) (by decide +kernel) (by decide) hf (fun hf => ?_) (fun hf => ?_)
    · refine B_blk B jlkX8_ok jcl_SKF [.aload_n 0, .getfield 9, .getfield 75, .iload_n 1, .iconst 2] (by decide +kernel) (ls' := [(0, jR 66), (1, jI a0), (2, jI a1), (3, jI a2), (4, jI r1)]) (st' := [jI 2, jI a0, jR 4]) rfl (p1 := 35) rfl ?_
      obtain ⟨r2, h2, hf⟩ := jbd hf
      refine B_callV B (Nat.le_refl _) (μ' := m) (k' := 0) (n' := 0) ca_X5_get in_X5_get se_X5_get lk_X8_55 (t_X5_get B.tr jcl_SKF ⟨rfl, rfl, by decide⟩ h2) (Nat.le_refl _) rfl rfl rfl (rest := []) rfl rfl (Nat.le_of_ble_eq_true rfl) (by decide +kernel) rfl rfl (st' := [jI r2]) rfl ?_
      refine B_blk B jlkX8_ok jcl_SKF [.iload 4, .iadd, .iconst 1, .isub, .iload 4] (by decide +kernel) (ls' := [(0, jR 66), (1, jI a0), (2, jI a1), (3, jI a2), (4, jI r1)]) (st' := [jI r1, jI (jW (jW (r2 + r1) - 1))]) rfl (p1 := 45) rfl ?_
      obtain ⟨g4, hf⟩ := jgd hf
      refine K_idiv B g4 (by decide +kernel) ?_
      refine B_blk B jlkX8_ok jcl_SKF [.istore 5, .iload_n 3, .istore 6] (by decide +kernel) (ls' := [(0, jR 66), (1, jI a0), (2, jI a1), (3, jI a2), (4, jI r1), (5, jI (jDv (jW (jW (r2 + r1) - 1)) r1)), (6, jI a2)]) (st' := []) rfl (p1 := 51) rfl ?_
      refine J_pick [0, 1, 5, 6] (ls' := [(0, jR 66), (1, jI a0), (5, jI (jDv (jW (jW (r2 + r1) - 1)) r1)), (6, jI a2)]) rfl ?_
      exact t_X8_workEnd_L51 B jFU a0 (jDv (jW (jW (r2 + r1) - 1)) r1) a2 m _ hf hq
    · refine B_blk B jlkX8_ok jcl_SKF [.iconst (-1)] (by decide +kernel) (ls' := [(0, jR 66), (1, jI a0), (2, jI a1), (3, jI a2), (4, jI r1)]) (st' := [jI (-1)]) rfl (p1 := 25) rfl ?_
      cases hf
      exact B_retI B hq rfl (Nat.le_of_ble_eq_true rfl) (Nat.le_of_ble_eq_true rfl) (by decide +kernel)

def rm_X9_ends : Room := { frames := 14, cells := 2, slots := 12, locals := 208 }
def f_X9_ends_J47 (v1 : Int) (v2 : Int) (v3 : Int) (v4 : Int) (s0 : Int) (m : jMu) : Option (jOut Int) :=
  jthr (f_X9_needIndex s0 m) fun r2 => (f_X9_isIn v4 0 2399).bind fun r3 => jthr (f_X9_needIndex r3 r2.2) fun r4 => (f_X8_begin v1 0 r4.2).bind fun r5 => (f_X8_workEnd v2 v3 v4 r5).bind fun r6 => some (.inr (r6.1, r6.2))
def f_X9_ends_J46 (v1 : Int) (v2 : Int) (v3 : Int) (v4 : Int) (m : jMu) : Option (jOut Int) :=
  f_X9_ends_J47 v1 v2 v3 v4 0 m
def f_X9_ends (a0 : Int) (a1 : Int) (a2 : Int) (a3 : Int) (m : jMu) : Option (jOut Int) :=
  (f_X5_has 14 15 6 a0 m).bind fun r1 => (if r1 = 0 then f_X9_ends_J46 a0 a1 a2 a3 m else (f_X5_has 4 5 80 a1 m).bind fun r7 => (if r7 = 0 then f_X9_ends_J46 a0 a1 a2 a3 m else (f_X5_has 20 21 4 a2 m).bind fun r8 => (if r8 = 0 then f_X9_ends_J46 a0 a1 a2 a3 m else f_X9_ends_J47 a0 a1 a2 a3 1 m)))
theorem t_X9_ends_J47 {X : jX} (B : jB X cX9_ends RX9 5 SKF.length rm_X9_ends (some .int)) (hno : ∀ x ∈ (xc X).exceptionTable.toList, False) (v1 : Int) (v2 : Int) (v3 : Int) (v4 : Int) (s0 : Int) (m : jMu) (r : (jOut Int)) (hf : f_X9_ends_J47 v1 v2 v3 v4 s0 m = some r) (hq : jQ X (joI r) SKF (joM r) rm_X9_ends.cells rm_X9_ends.slots) : J X SKF m 0 0 47 [(0, jR 0), (1, jI v1), (2, jI v2), (3, jI v3), (4, jI v4)] [jI s0] := by
  unfold f_X9_ends_J47 at hf
  rcases jthr_s hf with ⟨e2, h2, hf⟩ | ⟨r2, h2, hf⟩
  · cases hf
    exact B_callST B (Nat.le_refl _) hno hq ca_X9_needIndex sa_X9_needIndex lk_X9_125 (t_X9_needIndex B.tr h2) (Nat.le_refl _) rfl (rest := []) rfl rfl (Nat.le_of_ble_eq_true rfl) (by decide +kernel) (Nat.le_of_ble_eq_true rfl) (Nat.le_of_ble_eq_true rfl)
  · refine B_callS B (Nat.le_refl _) (μ' := r2.2) (k' := 1) (n' := 6) ca_X9_needIndex sa_X9_needIndex lk_X9_125 (t_X9_needIndex B.tr h2) (Nat.le_refl _) rfl (rest := []) rfl rfl (Nat.le_of_ble_eq_true rfl) (by decide +kernel) rfl rfl (st' := []) rfl ?_
    refine B_blk B jlkX9_ok jcl_SKF [.iload 4, .iconst 0, .sipush 2399] (by decide +kernel) (ls' := [(0, jR 0), (1, jI v1), (2, jI v2), (3, jI v3), (4, jI v4)]) (st' := [jI 2399, jI 0, jI v4]) rfl (p1 := 56) rfl ?_
    obtain ⟨r3, h3, hf⟩ := jbd hf
    refine B_callS B (Nat.le_refl _) (μ' := r2.2) (k' := 1) (n' := 6) ca_X9_isIn sa_X9_isIn lk_X9_93 (t_X9_isIn B.tr jcl_SKF h3) (Nat.le_refl _) rfl (rest := []) rfl rfl (Nat.le_of_ble_eq_true rfl) (by decide +kernel) rfl rfl (st' := [jI r3]) rfl ?_
    rcases jthr_s hf with ⟨e4, h4, hf⟩ | ⟨r4, h4, hf⟩
    · cases hf
      exact B_callST B (Nat.le_refl _) hno hq ca_X9_needIndex sa_X9_needIndex lk_X9_125 (t_X9_needIndex B.tr h4) (Nat.le_refl _) rfl (rest := []) rfl rfl (Nat.le_of_ble_eq_true rfl) (by decide +kernel) (Nat.le_of_ble_eq_true rfl) (Nat.le_of_ble_eq_true rfl)
    · refine B_callS B (Nat.le_refl _) (μ' := r4.2) (k' := 2) (n' := 12) ca_X9_needIndex sa_X9_needIndex lk_X9_125 (t_X9_needIndex B.tr h4) (Nat.le_refl _) rfl (rest := []) rfl rfl (Nat.le_of_ble_eq_true rfl) (by decide +kernel) rfl rfl (st' := []) rfl ?_
      refine B_blk B jlkX9_ok jcl_SKF [.aload_n 0, .getfield 49, .iload_n 1, .iconst 0] (by decide +kernel) (ls' := [(0, jR 0), (1, jI v1), (2, jI v2), (3, jI v3), (4, jI v4)]) (st' := [jI 0, jI v1, jR 66]) rfl (p1 := 68) rfl ?_
      obtain ⟨r5, h5, hf⟩ := jbd hf
      refine B_callV B (Nat.le_refl _) (μ' := r5) (k' := 2) (n' := 12) ca_X8_begin in_X8_begin se_X8_begin lk_X9_186 (t_X8_begin B.tr h5) (Nat.le_refl _) rfl rfl rfl (rest := []) rfl rfl (Nat.le_of_ble_eq_true rfl) (by decide +kernel) rfl rfl (st' := []) rfl ?_
      refine B_blk B jlkX9_ok jcl_SKF [.aload_n 0, .getfield 49, .iload_n 2, .iload_n 3, .iload 4] (by decide +kernel) (ls' := [(0, jR 0), (1, jI v1), (2, jI v2), (3, jI v3), (4, jI v4)]) (st' := [jI v4, jI v3, jI v2, jR 66]) rfl (p1 := 79) rfl ?_
      obtain ⟨r6, h6, hf⟩ := jbd hf
      refine B_callV B (Nat.le_refl _) (μ' := r6.2) (k' := 2) (n' := 12) ca_X8_workEnd in_X8_workEnd se_X8_workEnd lk_X9_189 (t_X8_workEnd B.tr h6) (Nat.le_refl _) rfl rfl rfl (rest := []) rfl rfl (Nat.le_of_ble_eq_true rfl) (by decide +kernel) rfl rfl (st' := [jI r6.1]) rfl ?_
      cases hf
      exact B_retI B hq rfl (Nat.le_of_ble_eq_true rfl) (Nat.le_of_ble_eq_true rfl) (by decide +kernel)
theorem t_X9_ends_J46 {X : jX} (B : jB X cX9_ends RX9 5 SKF.length rm_X9_ends (some .int)) (hno : ∀ x ∈ (xc X).exceptionTable.toList, False) (v1 : Int) (v2 : Int) (v3 : Int) (v4 : Int) (m : jMu) (r : (jOut Int)) (hf : f_X9_ends_J46 v1 v2 v3 v4 m = some r) (hq : jQ X (joI r) SKF (joM r) rm_X9_ends.cells rm_X9_ends.slots) : J X SKF m 0 0 46 [(0, jR 0), (1, jI v1), (2, jI v2), (3, jI v3), (4, jI v4)] [] := by
  unfold f_X9_ends_J46 at hf
  refine B_blk B jlkX9_ok jcl_SKF [.iconst 0] (by decide +kernel) (ls' := [(0, jR 0), (1, jI v1), (2, jI v2), (3, jI v3), (4, jI v4)]) (st' := [jI 0]) rfl (p1 := 47) rfl ?_
  exact t_X9_ends_J47 B hno v1 v2 v3 v4 0 m _ hf hq
theorem t_X9_ends {l : Launch} {G : jG} (hl : l.stackTraces = false) {a0 : Int} {a1 : Int} {a2 : Int} {a3 : Int} {m : jMu} {r : (jOut Int)} (hf : f_X9_ends a0 a1 a2 a3 m = some r) : jCt l G yX9_ends (.code yX9_ends cX9_ends 5 (some .int) :: jWG) rm_X9_ends [jR 0, jI a0, jI a1, jI a2, jI a3] SKF m (joI r) SKF (joM r) := by
  unfold f_X9_ends at hf
  refine J_start (ls0 := [(0, jR 0), (1, jI a0), (2, jI a1), (3, jI a2), (4, jI a3)]) (by decide +kernel) hl (Nat.le_of_ble_eq_true rfl) rfl fun X C hN hn hR hr hnm hno hq => ?_
  have B : jB X cX9_ends RX9 5 SKF.length rm_X9_ends (some .int) := ⟨C, hN, Nat.le_of_eq hn, hR, hr⟩
  refine B_blk B jlkX9_ok jcl_SKF [.aload_n 0, .getfield 20, .getfield 158, .iload_n 1] (by decide +kernel) (ls' := [(0, jR 0), (1, jI a0), (2, jI a1), (3, jI a2), (4, jI a3)]) (st' := [jI a0, jR 14]) rfl (p1 := 8) rfl ?_
  obtain ⟨r1, h1, hf⟩ := jbd hf
  refine B_callV B (Nat.le_refl _) (μ' := m) (k' := 0) (n' := 0) ca_X5_has in_X5_has se_X5_has lk_X9_143 (t_X5_has B.tr jcl_SKF ⟨rfl, rfl, by decide⟩ h1) (Nat.le_refl _) rfl rfl rfl (rest := []) rfl rfl (Nat.le_of_ble_eq_true rfl) (by decide +kernel) rfl rfl (st' := [jI r1]) rfl ?_
  refine J_if_eq B.1 (off := 35) (tgt := 46) (by decide +kernel) (by decide) hf (fun hf => ?_) (fun hf => ?_)
  · exact t_X9_ends_J46 B hno a0 a1 a2 a3 m _ hf hq
  · refine B_blk B jlkX9_ok jcl_SKF [.aload_n 0, .getfield 20, .getfield 101, .iload_n 2] (by decide +kernel) (ls' := [(0, jR 0), (1, jI a0), (2, jI a1), (3, jI a2), (4, jI a3)]) (st' := [jI a1, jR 4]) rfl (p1 := 22) rfl ?_
    obtain ⟨r7, h7, hf⟩ := jbd hf
    refine B_callV B (Nat.le_refl _) (μ' := m) (k' := 0) (n' := 0) ca_X5_has in_X5_has se_X5_has lk_X9_143 (t_X5_has B.tr jcl_SKF ⟨rfl, rfl, by decide⟩ h7) (Nat.le_refl _) rfl rfl rfl (rest := []) rfl rfl (Nat.le_of_ble_eq_true rfl) (by decide +kernel) rfl rfl (st' := [jI r7]) rfl ?_
    refine J_if_eq B.1 (off := 21) (tgt := 46) (by decide +kernel) (by decide) hf (fun hf => ?_) (fun hf => ?_)
    · exact t_X9_ends_J46 B hno a0 a1 a2 a3 m _ hf hq
    · refine B_blk B jlkX9_ok jcl_SKF [.aload_n 0, .getfield 20, .getfield 180, .iload_n 3] (by decide +kernel) (ls' := [(0, jR 0), (1, jI a0), (2, jI a1), (3, jI a2), (4, jI a3)]) (st' := [jI a2, jR 20]) rfl (p1 := 36) rfl ?_
      obtain ⟨r8, h8, hf⟩ := jbd hf
      refine B_callV B (Nat.le_refl _) (μ' := m) (k' := 0) (n' := 0) ca_X5_has in_X5_has se_X5_has lk_X9_143 (t_X5_has B.tr jcl_SKF ⟨rfl, rfl, by decide⟩ h8) (Nat.le_refl _) rfl rfl rfl (rest := []) rfl rfl (Nat.le_of_ble_eq_true rfl) (by decide +kernel) rfl rfl (st' := [jI r8]) rfl ?_
      refine J_if_eq B.1 (off := 7) (tgt := 46) (by decide +kernel) (by decide) hf (fun hf => ?_) (fun hf => ?_)
      · exact t_X9_ends_J46 B hno a0 a1 a2 a3 m _ hf hq
      · refine B_blk B jlkX9_ok jcl_SKF [.iconst 1, .goto 4] (by decide +kernel) (ls' := [(0, jR 0), (1, jI a0), (2, jI a1), (3, jI a2), (4, jI a3)]) (st' := [jI 1]) rfl (p1 := 47) rfl ?_
        exact t_X9_ends_J47 B hno a0 a1 a2 a3 1 m _ hf hq

def rm_X8_blockedTo : Room := { frames := 4, cells := 0, slots := 0, locals := 87 }
def f_X8_blockedTo_L14 : Nat → Int → Int → Int → Int → jMu → Option Int
  | 0, _, _, _, _, _ => none
  | q + 1, v1, v2, v4, v5, m => (f_X5_size 24 25 320 m).bind fun r1 => (if r1 ≤ v5 then some v4 else (if 40 ≤ v5 then some v4 else (f_X5_get 24 25 320 v5 0 m).bind fun r2 => (if r2 = v1 then (f_X5_get 24 25 320 v5 3 m).bind fun r3 => (if v2 < r3 then f_X8_blockedTo_L14 q v1 v2 v4 (jW (v5 + 1)) m else (if 0 ≤ v5 ∧ v5 < 40 then (if m 68 v5 ≤ v2 then f_X8_blockedTo_L14 q v1 v2 v4 (jW (v5 + 1)) m else (if 0 ≤ v5 ∧ v5 < 40 then (if m 68 v5 ≤ v4 then f_X8_blockedTo_L14 q v1 v2 v4 (jW (v5 + 1)) m else (if 0 ≤ v5 ∧ v5 < 40 then f_X8_blockedTo_L14 q v1 v2 (m 68 v5) (jW (v5 + 1)) m else none)) else none)) else none)) else f_X8_blockedTo_L14 q v1 v2 v4 (jW (v5 + 1)) m)))
def f_X8_blockedTo (a0 : Int) (a1 : Int) (m : jMu) : Option Int :=
  f_X8_blockedTo_L14 jFU a0 a1 (-1) 0 m
theorem t_X8_blockedTo_L14 {X : jX} (B : jB X cX8_blockedTo RX8 7 SKF.length rm_X8_blockedTo (some .int)) : ∀ (q : Nat) (v1 : Int) (v2 : Int) (v4 : Int) (v5 : Int) (m : jMu) (r : Int), f_X8_blockedTo_L14 q v1 v2 v4 v5 m = some r → jQ X (.inl (some (jI r))) SKF m rm_X8_blockedTo.cells rm_X8_blockedTo.slots → J X SKF m 0 0 14 [(0, jR 66), (1, jI v1), (2, jI v2), (3, jR 24), (4, jI v4), (5, jI v5)] [] := by
  intro q
  induction q with
  | zero =>
    intro v1 v2 v4 v5 m r hf
    rw [f_X8_blockedTo_L14] at hf
    cases hf
  | succ q ih =>
    intro v1 v2 v4 v5 m r hf hq
    rw [f_X8_blockedTo_L14] at hf
    refine B_blk B jlkX8_ok jcl_SKF [.iload 5, .aload_n 3] (by decide +kernel) (ls' := [(0, jR 66), (1, jI v1), (2, jI v2), (3, jR 24), (4, jI v4), (5, jI v5)]) (st' := [jR 24, jI v5]) rfl (p1 := 17) rfl ?_
    obtain ⟨r1, h1, hf⟩ := jbd hf
    refine B_callV B (Nat.le_refl _) (μ' := m) (k' := 0) (n' := 0) ca_X5_size in_X5_size se_X5_size lk_X8_49 (t_X5_size B.tr jcl_SKF ⟨rfl, rfl, by decide⟩ h1) (Nat.le_refl _) rfl rfl rfl (rest := [jI v5]) rfl rfl (Nat.le_of_ble_eq_true rfl) (by decide +kernel) rfl rfl (st' := [jI r1, jI v5]) rfl ?_
    refine J_icmp_ge B.1 (off := 85) (tgt := 105) (by decide +kernel) (by decide) hf (fun hf => ?_) (fun hf => ?_)
    · refine B_blk B jlkX8_ok jcl_SKF [.iload 4] (by decide +kernel) (ls' := [(0, jR 66), (1, jI v1), (2, jI v2), (3, jR 24), (4, jI v4), (5, jI v5)]) (st' := [jI v4]) rfl (p1 := 107) rfl ?_
      cases hf
      exact B_retI B hq rfl (Nat.le_of_ble_eq_true rfl) (Nat.le_of_ble_eq_true rfl) (by decide +kernel)
    · refine B_blk B jlkX8_ok jcl_SKF [.iload 5, .aload_n 0, .getfield 25, .arraylength] (by decide +kernel) (ls' := [(0, jR 66), (1, jI v1), (2, jI v2), (3, jR 24), (4, jI v4), (5, jI v5)]) (st' := [jI 40, jI v5]) rfl (p1 := 30) rfl ?_
      refine J_icmp_ge B.1 (off := 75) (tgt := 105) (by decide +kernel) (by decide) hf (fun hf => ?_) (fun hf => ?_)
      · refine B_blk B jlkX8_ok jcl_SKF [.iload 4] (by decide +kernel) (ls' := [(0, jR 66), (1, jI v1), (2, jI v2), (3, jR 24), (4, jI v4), (5, jI v5)]) (st' := [jI v4]) rfl (p1 := 107) rfl ?_
        cases hf
        exact B_retI B hq rfl (Nat.le_of_ble_eq_true rfl) (Nat.le_of_ble_eq_true rfl) (by decide +kernel)
      · refine B_blk B jlkX8_ok jcl_SKF [.aload_n 3, .iload 5, .iconst 0] (by decide +kernel) (ls' := [(0, jR 66), (1, jI v1), (2, jI v2), (3, jR 24), (4, jI v4), (5, jI v5)]) (st' := [jI 0, jI v5, jR 24]) rfl (p1 := 37) rfl ?_
        obtain ⟨r2, h2, hf⟩ := jbd hf
        refine B_callV B (Nat.le_refl _) (μ' := m) (k' := 0) (n' := 0) ca_X5_get in_X5_get se_X5_get lk_X8_55 (t_X5_get B.tr jcl_SKF ⟨rfl, rfl, by decide⟩ h2) (Nat.le_refl _) rfl rfl rfl (rest := []) rfl rfl (Nat.le_of_ble_eq_true rfl) (by decide +kernel) rfl rfl (st' := [jI r2]) rfl ?_
        refine B_blk B jlkX8_ok jcl_SKF [.iload_n 1] (by decide +kernel) (ls' := [(0, jR 66), (1, jI v1), (2, jI v2), (3, jR 24), (4, jI v4), (5, jI v5)]) (st' := [jI v1, jI r2]) rfl (p1 := 41) rfl ?_
        refine J_icmp_ne B.1 (off := 18) (tgt := 59) (by decide +kernel) (by decide) hf (fun hf => ?_) (fun hf => ?_)
        · refine B_blk B jlkX8_ok jcl_SKF [.aload_n 3, .iload 5, .iconst 3] (by decide +kernel) (ls' := [(0, jR 66), (1, jI v1), (2, jI v2), (3, jR 24), (4, jI v4), (5, jI v5)]) (st' := [jI 3, jI v5, jR 24]) rfl (p1 := 48) rfl ?_
          obtain ⟨r3, h3, hf⟩ := jbd hf
          refine B_callV B (Nat.le_refl _) (μ' := m) (k' := 0) (n' := 0) ca_X5_get in_X5_get se_X5_get lk_X8_55 (t_X5_get B.tr jcl_SKF ⟨rfl, rfl, by decide⟩ h3) (Nat.le_refl _) rfl rfl rfl (rest := []) rfl rfl (Nat.le_of_ble_eq_true rfl) (by decide +kernel) rfl rfl (st' := [jI r3]) rfl ?_
          refine B_blk B jlkX8_ok jcl_SKF [.iload_n 2] (by decide +kernel) (ls' := [(0, jR 66), (1, jI v1), (2, jI v2), (3, jR 24), (4, jI v4), (5, jI v5)]) (st' := [jI v2, jI r3]) rfl (p1 := 52) rfl ?_
          refine J_icmp_gt B.1 (off := 7) (tgt := 59) (by decide +kernel) (by decide) hf (fun hf => ?_) (fun hf => ?_)
          · refine B_blk B jlkX8_ok jcl_SKF [.iconst 0, .istore 6, .iload 6] (by decide +kernel) (ls' := [(0, jR 66), (1, jI v1), (2, jI v2), (3, jR 24), (4, jI v4), (5, jI v5), (6, jI 0)]) (st' := [jI 0]) rfl (p1 := 64) rfl ?_
            refine J_if_eq (T := some ()) (F := none) (r := ()) B.1 (off := 35) (tgt := 99) (by decide +kernel) (by decide) (if_pos (by decide)) (fun _ => ?_) (fun h => nomatch h)
            refine B_blk B jlkX8_ok jcl_SKF [.iinc 5 1, .goto (-88)] (by decide +kernel) (ls' := [(0, jR 66), (1, jI v1), (2, jI v2), (3, jR 24), (4, jI v4), (5, jI (jW (v5 + 1))), (6, jI 0)]) (st' := []) rfl (p1 := 14) rfl ?_
            refine J_pick [0, 1, 2, 3, 4, 5] (ls' := [(0, jR 66), (1, jI v1), (2, jI v2), (3, jR 24), (4, jI v4), (5, jI (jW (v5 + 1)))]) rfl ?_
            exact ih v1 v2 v4 (jW (v5 + 1)) m _ hf hq
          · refine B_blk B jlkX8_ok jcl_SKF [.iconst 1, .goto 4, .istore 6, .iload 6] (by decide +kernel) (ls' := [(0, jR 66), (1, jI v1), (2, jI v2), (3, jR 24), (4, jI v4), (5, jI v5), (6, jI 1)]) (st' := [jI 1]) rfl (p1 := 64) rfl ?_
            refine J_if_eq (T := none) (F := some ()) (r := ()) B.1 (off := 35) (tgt := 99) (by decide +kernel) (by decide) (if_neg (by decide)) (fun h => nomatch h) (fun _ => ?_)
            refine B_blk B jlkX8_ok jcl_SKF [.iload_n 2, .aload_n 0, .getfield 25, .iload 5] (by decide +kernel) (ls' := [(0, jR 66), (1, jI v1), (2, jI v2), (3, jR 24), (4, jI v4), (5, jI v5), (6, jI 1)]) (st' := [jI v5, jR 68, jI v2]) rfl (p1 := 74) rfl ?_
            obtain ⟨g6, hf⟩ := jgd hf
            refine K_iald (lenI := 40) B rfl rfl g6 (by decide +kernel) ?_
            refine J_icmp_ge B.1 (off := 24) (tgt := 99) (by decide +kernel) (by decide) hf (fun hf => ?_) (fun hf => ?_)
            · refine B_blk B jlkX8_ok jcl_SKF [.iinc 5 1, .goto (-88)] (by decide +kernel) (ls' := [(0, jR 66), (1, jI v1), (2, jI v2), (3, jR 24), (4, jI v4), (5, jI (jW (v5 + 1))), (6, jI 1)]) (st' := []) rfl (p1 := 14) rfl ?_
              refine J_pick [0, 1, 2, 3, 4, 5] (ls' := [(0, jR 66), (1, jI v1), (2, jI v2), (3, jR 24), (4, jI v4), (5, jI (jW (v5 + 1)))]) rfl ?_
              exact ih v1 v2 v4 (jW (v5 + 1)) m _ hf hq
            · refine B_blk B jlkX8_ok jcl_SKF [.aload_n 0, .getfield 25, .iload 5] (by decide +kernel) (ls' := [(0, jR 66), (1, jI v1), (2, jI v2), (3, jR 24), (4, jI v4), (5, jI v5), (6, jI 1)]) (st' := [jI v5, jR 68]) rfl (p1 := 84) rfl ?_
              obtain ⟨g5, hf⟩ := jgd hf
              refine K_iald (lenI := 40) B rfl rfl g5 (by decide +kernel) ?_
              refine B_blk B jlkX8_ok jcl_SKF [.iload 4] (by decide +kernel) (ls' := [(0, jR 66), (1, jI v1), (2, jI v2), (3, jR 24), (4, jI v4), (5, jI v5), (6, jI 1)]) (st' := [jI v4, jI (m 68 v5)]) rfl (p1 := 87) rfl ?_
              refine J_icmp_le B.1 (off := 12) (tgt := 99) (by decide +kernel) (by decide) hf (fun hf => ?_) (fun hf => ?_)
              · refine B_blk B jlkX8_ok jcl_SKF [.iinc 5 1, .goto (-88)] (by decide +kernel) (ls' := [(0, jR 66), (1, jI v1), (2, jI v2), (3, jR 24), (4, jI v4), (5, jI (jW (v5 + 1))), (6, jI 1)]) (st' := []) rfl (p1 := 14) rfl ?_
                refine J_pick [0, 1, 2, 3, 4, 5] (ls' := [(0, jR 66), (1, jI v1), (2, jI v2), (3, jR 24), (4, jI v4), (5, jI (jW (v5 + 1)))]) rfl ?_
                exact ih v1 v2 v4 (jW (v5 + 1)) m _ hf hq
              · refine B_blk B jlkX8_ok jcl_SKF [.aload_n 0, .getfield 25, .iload 5] (by decide +kernel) (ls' := [(0, jR 66), (1, jI v1), (2, jI v2), (3, jR 24), (4, jI v4), (5, jI v5), (6, jI 1)]) (st' := [jI v5, jR 68]) rfl (p1 := 96) rfl ?_
                obtain ⟨g4, hf⟩ := jgd hf
                refine K_iald (lenI := 40) B rfl rfl g4 (by decide +kernel) ?_
                refine B_blk B jlkX8_ok jcl_SKF [.istore 4, .iinc 5 1, .goto (-88)] (by decide +kernel) (ls' := [(0, jR 66), (1, jI v1), (2, jI v2), (3, jR 24), (4, jI (m 68 v5)), (5, jI (jW (v5 + 1))), (6, jI 1)]) (st' := []) rfl (p1 := 14) rfl ?_
                refine J_pick [0, 1, 2, 3, 4, 5] (ls' := [(0, jR 66), (1, jI v1), (2, jI v2), (3, jR 24), (4, jI (m 68 v5)), (5, jI (jW (v5 + 1)))]) rfl ?_
                exact ih v1 v2 (m 68 v5) (jW (v5 + 1)) m _ hf hq
        · refine B_blk B jlkX8_ok jcl_SKF [.iconst 0, .istore 6, .iload 6] (by decide +kernel) (ls' := [(0, jR 66), (1, jI v1), (2, jI v2), (3, jR 24), (4, jI v4), (5, jI v5), (6, jI 0)]) (st' := [jI 0]) rfl (p1 := 64) rfl ?_
          refine J_if_eq (T := some ()) (F := none) (r := ()) B.1 (off := 35) (tgt := 99) (by decide +kernel) (by decide) (if_pos (by decide)) (fun _ => ?_) (fun h => nomatch h)
          refine B_blk B jlkX8_ok jcl_SKF [.iinc 5 1, .goto (-88)] (by decide +kernel) (ls' := [(0, jR 66), (1, jI v1), (2, jI v2), (3, jR 24), (4, jI v4), (5, jI (jW (v5 + 1))), (6, jI 0)]) (st' := []) rfl (p1 := 14) rfl ?_
          refine J_pick [0, 1, 2, 3, 4, 5] (ls' := [(0, jR 66), (1, jI v1), (2, jI v2), (3, jR 24), (4, jI v4), (5, jI (jW (v5 + 1)))]) rfl ?_
          exact ih v1 v2 v4 (jW (v5 + 1)) m _ hf hq
theorem t_X8_blockedTo {l : Launch} {G : jG} (hl : l.stackTraces = false) {a0 : Int} {a1 : Int} {m : jMu} {r : Int} (hf : f_X8_blockedTo a0 a1 m = some r) : jCt l G yX8_blockedTo (.code yX8_blockedTo cX8_blockedTo 7 (some .int) :: jWG) rm_X8_blockedTo [jR 66, jI a0, jI a1] SKF m (.inl (some (jI r))) SKF m := by
  unfold f_X8_blockedTo at hf
  refine J_start (ls0 := [(0, jR 66), (1, jI a0), (2, jI a1)]) (by decide +kernel) hl (Nat.le_of_ble_eq_true rfl) rfl fun X C hN hn hR hr hnm hno hq => ?_
  have B : jB X cX8_blockedTo RX8 7 SKF.length rm_X8_blockedTo (some .int) := ⟨C, hN, Nat.le_of_eq hn, hR, hr⟩
  refine B_blk B jlkX8_ok jcl_SKF [.aload_n 0, .getfield 9, .getfield 45, .astore_n 3, .iconst (-1), .istore 4, .iconst 0, .istore 5] (by decide +kernel) (ls' := [(0, jR 66), (1, jI a0), (2, jI a1), (3, jR 24), (4, jI (-1)), (5, jI 0)]) (st' := []) rfl (p1 := 14) rfl ?_
  exact t_X8_blockedTo_L14 B jFU a0 a1 (-1) 0 m _ hf hq

def rm_X9_may : Room := { frames := 12, cells := 1, slots := 6, locals := 186 }
def f_X9_may_J30 (v1 : Int) (v2 : Int) (s0 : Int) (m : jMu) : Option (jOut Int) :=
  jthr (f_X9_needIndex s0 m) fun r2 => (f_X8_measureDry (jSl 1 v1) r2.2).bind fun r3 => (f_X8_blockedTo v1 v2 r3).bind fun r4 => (if r4 = (-1) then some (.inr (1, r3)) else some (.inr (0, r3)))
def f_X9_may_J29 (v1 : Int) (v2 : Int) (m : jMu) : Option (jOut Int) :=
  f_X9_may_J30 v1 v2 0 m
def f_X9_may (a0 : Int) (a1 : Int) (m : jMu) : Option (jOut Int) :=
  (f_X5_has 4 5 80 a0 m).bind fun r1 => (if r1 = 0 then f_X9_may_J29 a0 a1 m else (f_X9_isIn a1 0 2399).bind fun r5 => (if r5 = 0 then f_X9_may_J29 a0 a1 m else f_X9_may_J30 a0 a1 1 m))
theorem t_X9_may_J30 {X : jX} (B : jB X cX9_may RX9 3 SKF.length rm_X9_may (some .boolean)) (hno : ∀ x ∈ (xc X).exceptionTable.toList, False) (v1 : Int) (v2 : Int) (s0 : Int) (m : jMu) (r : (jOut Int)) (hf : f_X9_may_J30 v1 v2 s0 m = some r) (hq : jQ X (joI r) SKF (joM r) rm_X9_may.cells rm_X9_may.slots) : J X SKF m 0 0 30 [(0, jR 0), (1, jI v1), (2, jI v2)] [jI s0] := by
  unfold f_X9_may_J30 at hf
  rcases jthr_s hf with ⟨e2, h2, hf⟩ | ⟨r2, h2, hf⟩
  · cases hf
    exact B_callST B (Nat.le_refl _) hno hq ca_X9_needIndex sa_X9_needIndex lk_X9_125 (t_X9_needIndex B.tr h2) (Nat.le_refl _) rfl (rest := []) rfl rfl (Nat.le_of_ble_eq_true rfl) (by decide +kernel) (Nat.le_of_ble_eq_true rfl) (Nat.le_of_ble_eq_true rfl)
  · refine B_callS B (Nat.le_refl _) (μ' := r2.2) (k' := 1) (n' := 6) ca_X9_needIndex sa_X9_needIndex lk_X9_125 (t_X9_needIndex B.tr h2) (Nat.le_refl _) rfl (rest := []) rfl rfl (Nat.le_of_ble_eq_true rfl) (by decide +kernel) rfl rfl (st' := []) rfl ?_
    refine B_blk B jlkX9_ok jcl_SKF [.aload_n 0, .getfield 49, .iconst 1, .iload_n 1, .ishl] (by decide +kernel) (ls' := [(0, jR 0), (1, jI v1), (2, jI v2)]) (st' := [jI (jSl 1 v1), jR 66]) rfl (p1 := 40) rfl ?_
    obtain ⟨r3, h3, hf⟩ := jbd hf
    refine B_callV B (Nat.le_refl _) (μ' := r3) (k' := 1) (n' := 6) ca_X8_measureDry in_X8_measureDry se_X8_measureDry lk_X9_193 (t_X8_measureDry B.tr h3) (Nat.le_refl _) rfl rfl rfl (rest := []) rfl rfl (Nat.le_of_ble_eq_true rfl) (by decide +kernel) rfl rfl (st' := []) rfl ?_
    refine B_blk B jlkX9_ok jcl_SKF [.aload_n 0, .getfield 49, .iload_n 1, .iload_n 2] (by decide +kernel) (ls' := [(0, jR 0), (1, jI v1), (2, jI v2)]) (st' := [jI v2, jI v1, jR 66]) rfl (p1 := 49) rfl ?_
    obtain ⟨r4, h4, hf⟩ := jbd hf
    refine B_callV B (Nat.le_refl _) (μ' := r3) (k' := 1) (n' := 6) ca_X8_blockedTo in_X8_blockedTo se_X8_blockedTo lk_X9_196 (t_X8_blockedTo B.tr h4) (Nat.le_refl _) rfl rfl rfl (rest := []) rfl rfl (Nat.le_of_ble_eq_true rfl) (by decide +kernel) rfl rfl (st' := [jI r4]) rfl ?_
    refine B_blk B jlkX9_ok jcl_SKF [.iconst (-1)] (by decide +kernel) (ls' := [(0, jR 0), (1, jI v1), (2, jI v2)]) (st' := [jI (-1), jI r4]) rfl (p1 := 53) rfl ?_
    refine J_icmp_ne B.1 (off := 7) (tgt := 60) (by decide +kernel) (by decide) hf (fun hf => ?_) (fun hf => ?_)
    · refine B_blk B jlkX9_ok jcl_SKF [.iconst 1, .goto 4] (by decide +kernel) (ls' := [(0, jR 0), (1, jI v1), (2, jI v2)]) (st' := [jI 1]) rfl (p1 := 61) rfl ?_
      cases hf
      exact B_retZ B (Or.inr rfl) hq rfl (Nat.le_of_ble_eq_true rfl) (Nat.le_of_ble_eq_true rfl) (by decide +kernel)
    · refine B_blk B jlkX9_ok jcl_SKF [.iconst 0] (by decide +kernel) (ls' := [(0, jR 0), (1, jI v1), (2, jI v2)]) (st' := [jI 0]) rfl (p1 := 61) rfl ?_
      cases hf
      exact B_retZ B (Or.inl rfl) hq rfl (Nat.le_of_ble_eq_true rfl) (Nat.le_of_ble_eq_true rfl) (by decide +kernel)
theorem t_X9_may_J29 {X : jX} (B : jB X cX9_may RX9 3 SKF.length rm_X9_may (some .boolean)) (hno : ∀ x ∈ (xc X).exceptionTable.toList, False) (v1 : Int) (v2 : Int) (m : jMu) (r : (jOut Int)) (hf : f_X9_may_J29 v1 v2 m = some r) (hq : jQ X (joI r) SKF (joM r) rm_X9_may.cells rm_X9_may.slots) : J X SKF m 0 0 29 [(0, jR 0), (1, jI v1), (2, jI v2)] [] := by
  unfold f_X9_may_J29 at hf
  refine B_blk B jlkX9_ok jcl_SKF [.iconst 0] (by decide +kernel) (ls' := [(0, jR 0), (1, jI v1), (2, jI v2)]) (st' := [jI 0]) rfl (p1 := 30) rfl ?_
  exact t_X9_may_J30 B hno v1 v2 0 m _ hf hq
theorem t_X9_may {l : Launch} {G : jG} (hl : l.stackTraces = false) {a0 : Int} {a1 : Int} {m : jMu} {r : (jOut Int)} (hf : f_X9_may a0 a1 m = some r) : jCt l G yX9_may (.code yX9_may cX9_may 3 (some .boolean) :: jWG) rm_X9_may [jR 0, jI a0, jI a1] SKF m (joI r) SKF (joM r) := by
  unfold f_X9_may at hf
  refine J_start (ls0 := [(0, jR 0), (1, jI a0), (2, jI a1)]) (by decide +kernel) hl (Nat.le_of_ble_eq_true rfl) rfl fun X C hN hn hR hr hnm hno hq => ?_
  have B : jB X cX9_may RX9 3 SKF.length rm_X9_may (some .boolean) := ⟨C, hN, Nat.le_of_eq hn, hR, hr⟩
  refine B_blk B jlkX9_ok jcl_SKF [.aload_n 0, .getfield 20, .getfield 101, .iload_n 1] (by decide +kernel) (ls' := [(0, jR 0), (1, jI a0), (2, jI a1)]) (st' := [jI a0, jR 4]) rfl (p1 := 8) rfl ?_
  obtain ⟨r1, h1, hf⟩ := jbd hf
  refine B_callV B (Nat.le_refl _) (μ' := m) (k' := 0) (n' := 0) ca_X5_has in_X5_has se_X5_has lk_X9_143 (t_X5_has B.tr jcl_SKF ⟨rfl, rfl, by decide⟩ h1) (Nat.le_refl _) rfl rfl rfl (rest := []) rfl rfl (Nat.le_of_ble_eq_true rfl) (by decide +kernel) rfl rfl (st' := [jI r1]) rfl ?_
  refine J_if_eq B.1 (off := 18) (tgt := 29) (by decide +kernel) (by decide) hf (fun hf => ?_) (fun hf => ?_)
  · exact t_X9_may_J29 B hno a0 a1 m _ hf hq
  · refine B_blk B jlkX9_ok jcl_SKF [.iload_n 2, .iconst 0, .sipush 2399] (by decide +kernel) (ls' := [(0, jR 0), (1, jI a0), (2, jI a1)]) (st' := [jI 2399, jI 0, jI a1]) rfl (p1 := 19) rfl ?_
    obtain ⟨r5, h5, hf⟩ := jbd hf
    refine B_callS B (Nat.le_refl _) (μ' := m) (k' := 0) (n' := 0) ca_X9_isIn sa_X9_isIn lk_X9_93 (t_X9_isIn B.tr jcl_SKF h5) (Nat.le_refl _) rfl (rest := []) rfl rfl (Nat.le_of_ble_eq_true rfl) (by decide +kernel) rfl rfl (st' := [jI r5]) rfl ?_
    refine J_if_eq B.1 (off := 7) (tgt := 29) (by decide +kernel) (by decide) hf (fun hf => ?_) (fun hf => ?_)
    · exact t_X9_may_J29 B hno a0 a1 m _ hf hq
    · refine B_blk B jlkX9_ok jcl_SKF [.iconst 1, .goto 4] (by decide +kernel) (ls' := [(0, jR 0), (1, jI a0), (2, jI a1)]) (st' := [jI 1]) rfl (p1 := 30) rfl ?_
      exact t_X9_may_J30 B hno a0 a1 1 m _ hf hq

def rm_X4_tinsFor : Room := { frames := 4, cells := 0, slots := 0, locals := 87 }
def f_X4_tinsFor (a0 : Int) (m : jMu) : Option Int :=
  (f_X5_get 4 5 80 a0 2 m).bind fun r1 => some (jDv (jW (r1 + 3)) 4)
theorem t_X4_tinsFor {l : Launch} {G : jG} (hl : l.stackTraces = false) {a0 : Int} {m : jMu} {r : Int} (hf : f_X4_tinsFor a0 m = some r) : jCt l G yX4_tinsFor (.code yX4_tinsFor cX4_tinsFor 2 (some .int) :: jWG) rm_X4_tinsFor [jR 1, jI a0] SKF m (.inl (some (jI r))) SKF m := by
  unfold f_X4_tinsFor at hf
  refine J_start (ls0 := [(0, jR 1), (1, jI a0)]) (by decide +kernel) hl (Nat.le_of_ble_eq_true rfl) rfl fun X C hN hn hR hr hnm hno hq => ?_
  have B : jB X cX4_tinsFor RX4 2 SKF.length rm_X4_tinsFor (some .int) := ⟨C, hN, Nat.le_of_eq hn, hR, hr⟩
  refine B_blk B jlkX4_ok jcl_SKF [.aload_n 0, .getfield 24, .iload_n 1, .iconst 2] (by decide +kernel) (ls' := [(0, jR 1), (1, jI a0)]) (st' := [jI 2, jI a0, jR 4]) rfl (p1 := 6) rfl ?_
  obtain ⟨r1, h1, hf⟩ := jbd hf
  refine B_callV B (Nat.le_refl _) (μ' := m) (k' := 0) (n' := 0) ca_X5_get in_X5_get se_X5_get lk_X4_85 (t_X5_get B.tr jcl_SKF ⟨rfl, rfl, by decide⟩ h1) (Nat.le_refl _) rfl rfl rfl (rest := []) rfl rfl (Nat.le_of_ble_eq_true rfl) (by decide +kernel) rfl rfl (st' := [jI r1]) rfl ?_
  refine B_blk B jlkX4_ok jcl_SKF [.iconst 3, .iadd, .iconst 4] (by decide +kernel) (ls' := [(0, jR 1), (1, jI a0)]) (st' := [jI 4, jI (jW (r1 + 3))]) rfl (p1 := 12) rfl ?_
  refine K_idiv B (by decide) (by decide +kernel) ?_
  cases hf
  exact B_retI B hq rfl (Nat.le_of_ble_eq_true rfl) (Nat.le_of_ble_eq_true rfl) (by decide +kernel)

def rm_X4_tinsLeft : Room := { frames := 6, cells := 0, slots := 0, locals := 108 }
def f_X4_tinsLeft_L12 : Nat → Int → Int → Int → jMu → Option Int
  | 0, _, _, _, _ => none
  | q + 1, v1, v2, v3, m => (f_X5_size 24 25 320 m).bind fun r2 => (if r2 ≤ v3 then some v2 else (f_X5_get 24 25 320 v3 2 m).bind fun r3 => (if r3 = v1 then (f_X5_get 24 25 320 v3 0 m).bind fun r4 => (f_X4_tinsFor r4 m).bind fun r5 => f_X4_tinsLeft_L12 q v1 (jW (v2 - r5)) (jW (v3 + 1)) m else f_X4_tinsLeft_L12 q v1 v2 (jW (v3 + 1)) m))
def f_X4_tinsLeft (a0 : Int) (m : jMu) : Option Int :=
  (f_X5_get 22 23 24 a0 0 m).bind fun r1 => f_X4_tinsLeft_L12 jFU a0 r1 0 m
theorem t_X4_tinsLeft_L12 {X : jX} (B : jB X cX4_tinsLeft RX4 4 SKF.length rm_X4_tinsLeft (some .int)) : ∀ (q : Nat) (v1 : Int) (v2 : Int) (v3 : Int) (m : jMu) (r : Int), f_X4_tinsLeft_L12 q v1 v2 v3 m = some r → jQ X (.inl (some (jI r))) SKF m rm_X4_tinsLeft.cells rm_X4_tinsLeft.slots → J X SKF m 0 0 12 [(0, jR 1), (1, jI v1), (2, jI v2), (3, jI v3)] [] := by
  intro q
  induction q with
  | zero =>
    intro v1 v2 v3 m r hf
    rw [f_X4_tinsLeft_L12] at hf
    cases hf
  | succ q ih =>
    intro v1 v2 v3 m r hf hq
    rw [f_X4_tinsLeft_L12] at hf
    refine B_blk B jlkX4_ok jcl_SKF [.iload_n 3, .aload_n 0, .getfield 59] (by decide +kernel) (ls' := [(0, jR 1), (1, jI v1), (2, jI v2), (3, jI v3)]) (st' := [jR 24, jI v3]) rfl (p1 := 17) rfl ?_
    obtain ⟨r2, h2, hf⟩ := jbd hf
    refine B_callV B (Nat.le_refl _) (μ' := m) (k' := 0) (n' := 0) ca_X5_size in_X5_size se_X5_size lk_X4_82 (t_X5_size B.tr jcl_SKF ⟨rfl, rfl, by decide⟩ h2) (Nat.le_refl _) rfl rfl rfl (rest := [jI v3]) rfl rfl (Nat.le_of_ble_eq_true rfl) (by decide +kernel) rfl rfl (st' := [jI r2, jI v3]) rfl ?_
    refine J_icmp_ge B.1 (off := 38) (tgt := 58) (by decide +kernel) (by decide) hf (fun hf => ?_) (fun hf => ?_)
    · refine B_blk B jlkX4_ok jcl_SKF [.iload_n 2] (by decide +kernel) (ls' := [(0, jR 1), (1, jI v1), (2, jI v2), (3, jI v3)]) (st' := [jI v2]) rfl (p1 := 59) rfl ?_
      cases hf
      exact B_retI B hq rfl (Nat.le_of_ble_eq_true rfl) (Nat.le_of_ble_eq_true rfl) (by decide +kernel)
    · refine B_blk B jlkX4_ok jcl_SKF [.aload_n 0, .getfield 59, .iload_n 3, .iconst 2] (by decide +kernel) (ls' := [(0, jR 1), (1, jI v1), (2, jI v2), (3, jI v3)]) (st' := [jI 2, jI v3, jR 24]) rfl (p1 := 29) rfl ?_
      obtain ⟨r3, h3, hf⟩ := jbd hf
      refine B_callV B (Nat.le_refl _) (μ' := m) (k' := 0) (n' := 0) ca_X5_get in_X5_get se_X5_get lk_X4_85 (t_X5_get B.tr jcl_SKF ⟨rfl, rfl, by decide⟩ h3) (Nat.le_refl _) rfl rfl rfl (rest := []) rfl rfl (Nat.le_of_ble_eq_true rfl) (by decide +kernel) rfl rfl (st' := [jI r3]) rfl ?_
      refine B_blk B jlkX4_ok jcl_SKF [.iload_n 1] (by decide +kernel) (ls' := [(0, jR 1), (1, jI v1), (2, jI v2), (3, jI v3)]) (st' := [jI v1, jI r3]) rfl (p1 := 33) rfl ?_
      refine J_icmp_ne B.1 (off := 19) (tgt := 52) (by decide +kernel) (by decide) hf (fun hf => ?_) (fun hf => ?_)
      · refine B_blk B jlkX4_ok jcl_SKF [.iload_n 2, .aload_n 0, .aload_n 0, .getfield 59, .iload_n 3, .iconst 0] (by decide +kernel) (ls' := [(0, jR 1), (1, jI v1), (2, jI v2), (3, jI v3)]) (st' := [jI 0, jI v3, jR 24, jR 1, jI v2]) rfl (p1 := 44) rfl ?_
        obtain ⟨r4, h4, hf⟩ := jbd hf
        refine B_callV B (Nat.le_refl _) (μ' := m) (k' := 0) (n' := 0) ca_X5_get in_X5_get se_X5_get lk_X4_85 (t_X5_get B.tr jcl_SKF ⟨rfl, rfl, by decide⟩ h4) (Nat.le_refl _) rfl rfl rfl (rest := [jR 1, jI v2]) rfl rfl (Nat.le_of_ble_eq_true rfl) (by decide +kernel) rfl rfl (st' := [jI r4, jR 1, jI v2]) rfl ?_
        obtain ⟨r5, h5, hf⟩ := jbd hf
        refine B_callV B (Nat.le_refl _) (μ' := m) (k' := 0) (n' := 0) ca_X4_tinsFor in_X4_tinsFor se_X4_tinsFor lk_X4_89 (t_X4_tinsFor B.tr h5) (Nat.le_refl _) rfl rfl rfl (rest := [jI v2]) rfl rfl (Nat.le_of_ble_eq_true rfl) (by decide +kernel) rfl rfl (st' := [jI r5, jI v2]) rfl ?_
        refine B_blk B jlkX4_ok jcl_SKF [.isub, .istore_n 2, .iinc 3 1, .goto (-43)] (by decide +kernel) (ls' := [(0, jR 1), (1, jI v1), (2, jI (jW (v2 - r5))), (3, jI (jW (v3 + 1)))]) (st' := []) rfl (p1 := 12) rfl ?_
        exact ih v1 (jW (v2 - r5)) (jW (v3 + 1)) m _ hf hq
      · refine B_blk B jlkX4_ok jcl_SKF [.iinc 3 1, .goto (-43)] (by decide +kernel) (ls' := [(0, jR 1), (1, jI v1), (2, jI v2), (3, jI (jW (v3 + 1)))]) (st' := []) rfl (p1 := 12) rfl ?_
        exact ih v1 v2 (jW (v3 + 1)) m _ hf hq
theorem t_X4_tinsLeft {l : Launch} {G : jG} (hl : l.stackTraces = false) {a0 : Int} {m : jMu} {r : Int} (hf : f_X4_tinsLeft a0 m = some r) : jCt l G yX4_tinsLeft (.code yX4_tinsLeft cX4_tinsLeft 4 (some .int) :: jWG) rm_X4_tinsLeft [jR 1, jI a0] SKF m (.inl (some (jI r))) SKF m := by
  unfold f_X4_tinsLeft at hf
  refine J_start (ls0 := [(0, jR 1), (1, jI a0)]) (by decide +kernel) hl (Nat.le_of_ble_eq_true rfl) rfl fun X C hN hn hR hr hnm hno hq => ?_
  have B : jB X cX4_tinsLeft RX4 4 SKF.length rm_X4_tinsLeft (some .int) := ⟨C, hN, Nat.le_of_eq hn, hR, hr⟩
  refine B_blk B jlkX4_ok jcl_SKF [.aload_n 0, .getfield 56, .iload_n 1, .iconst 0] (by decide +kernel) (ls' := [(0, jR 1), (1, jI a0)]) (st' := [jI 0, jI a0, jR 22]) rfl (p1 := 6) rfl ?_
  obtain ⟨r1, h1, hf⟩ := jbd hf
  refine B_callV B (Nat.le_refl _) (μ' := m) (k' := 0) (n' := 0) ca_X5_get in_X5_get se_X5_get lk_X4_85 (t_X5_get B.tr jcl_SKF ⟨rfl, rfl, by decide⟩ h1) (Nat.le_refl _) rfl rfl rfl (rest := []) rfl rfl (Nat.le_of_ble_eq_true rfl) (by decide +kernel) rfl rfl (st' := [jI r1]) rfl ?_
  refine B_blk B jlkX4_ok jcl_SKF [.istore_n 2, .iconst 0, .istore_n 3] (by decide +kernel) (ls' := [(0, jR 1), (1, jI a0), (2, jI r1), (3, jI 0)]) (st' := []) rfl (p1 := 12) rfl ?_
  exact t_X4_tinsLeft_L12 B jFU a0 r1 0 m _ hf hq

def rm_X9_job : Room := { frames := 14, cells := 3, slots := 18, locals := 208 }
def f_X9_job_J82 (v1 : Int) (v2 : Int) (v3 : Int) (v4 : Int) (v5 : Int) (s0 : Int) (m : jMu) : Option (jOut Int) :=
  jthr (f_X9_needIndex s0 m) fun r4 => (f_X5_hasRoom 24 25 320 r4.2).bind fun r5 => jthr (f_X9_needRoom r5 r4.2) fun r6 => (f_X4_tinsFor v2 r6.2).bind fun r7 => (f_X4_tinsLeft v4 r6.2).bind fun r8 => (if r7 ≤ r8 then (f_X8_begin v1 (jSl 1 v2) r6.2).bind fun r9 => (f_X8_blockedTo v2 v5 r9).bind fun r10 => (if r10 = (-1) then (f_X8_workEnd v2 v3 v5 r9).bind fun r11 => (if r11.1 = (-1) then some (.inr ((-1), r11.2)) else (f_X5_addRow 24 25 320 r11.2).bind fun r12 => (f_X5_set 24 25 320 r12.1 0 v2 r12.2).bind fun r13 => (f_X5_set 24 25 320 r12.1 1 v3 r13).bind fun r14 => (f_X5_set 24 25 320 r12.1 2 v4 r14).bind fun r15 => (f_X5_set 24 25 320 r12.1 3 v5 r15).bind fun r16 => (f_X5_set 24 25 320 r12.1 4 r11.1 r16).bind fun r17 => (f_X5_set 24 25 320 r12.1 5 (r17 1 14) r17).bind fun r18 => (f_X5_set 24 25 320 r12.1 6 (-1) r18).bind fun r19 => (f_X5_set 24 25 320 r12.1 7 v1 r19).bind fun r20 => some (.inr (r12.1, r20))) else some (.inr ((-1), r9))) else some (.inr ((-1), r6.2)))
def f_X9_job_J81 (v1 : Int) (v2 : Int) (v3 : Int) (v4 : Int) (v5 : Int) (m : jMu) : Option (jOut Int) :=
  f_X9_job_J82 v1 v2 v3 v4 v5 0 m
def f_X9_job_J47 (v1 : Int) (v2 : Int) (v3 : Int) (v4 : Int) (v5 : Int) (s0 : Int) (m : jMu) : Option (jOut Int) :=
  jthr (f_X9_needIndex s0 m) fun r2 => (f_X5_has 22 23 24 v4 r2.2).bind fun r3 => (if r3 = 0 then f_X9_job_J81 v1 v2 v3 v4 v5 r2.2 else (f_X9_isIn v5 0 2399).bind fun r21 => (if r21 = 0 then f_X9_job_J81 v1 v2 v3 v4 v5 r2.2 else f_X9_job_J82 v1 v2 v3 v4 v5 1 r2.2))
def f_X9_job_J46 (v1 : Int) (v2 : Int) (v3 : Int) (v4 : Int) (v5 : Int) (m : jMu) : Option (jOut Int) :=
  f_X9_job_J47 v1 v2 v3 v4 v5 0 m
def f_X9_job (a0 : Int) (a1 : Int) (a2 : Int) (a3 : Int) (a4 : Int) (m : jMu) : Option (jOut Int) :=
  (f_X5_has 14 15 6 a0 m).bind fun r1 => (if r1 = 0 then f_X9_job_J46 a0 a1 a2 a3 a4 m else (f_X5_has 4 5 80 a1 m).bind fun r22 => (if r22 = 0 then f_X9_job_J46 a0 a1 a2 a3 a4 m else (f_X5_has 20 21 4 a2 m).bind fun r23 => (if r23 = 0 then f_X9_job_J46 a0 a1 a2 a3 a4 m else f_X9_job_J47 a0 a1 a2 a3 a4 1 m)))
theorem t_X9_job_J82 {X : jX} (B : jB X cX9_job RX9 8 SKF.length rm_X9_job (some .int)) (hno : ∀ x ∈ (xc X).exceptionTable.toList, False) (v1 : Int) (v2 : Int) (v3 : Int) (v4 : Int) (v5 : Int) (s0 : Int) (m : jMu) (r : (jOut Int)) (hf : f_X9_job_J82 v1 v2 v3 v4 v5 s0 m = some r) (hq : jQ X (joI r) SKF (joM r) rm_X9_job.cells rm_X9_job.slots) : J X SKF m 1 6 82 [(0, jR 0), (1, jI v1), (2, jI v2), (3, jI v3), (4, jI v4), (5, jI v5)] [jI s0] := by
  unfold f_X9_job_J82 at hf
  rcases jthr_s hf with ⟨e4, h4, hf⟩ | ⟨r4, h4, hf⟩
  · cases hf
    exact B_callST B (Nat.le_refl _) hno hq ca_X9_needIndex sa_X9_needIndex lk_X9_125 (t_X9_needIndex B.tr h4) (Nat.le_refl _) rfl (rest := []) rfl rfl (Nat.le_of_ble_eq_true rfl) (by decide +kernel) (Nat.le_of_ble_eq_true rfl) (Nat.le_of_ble_eq_true rfl)
  · refine B_callS B (Nat.le_refl _) (μ' := r4.2) (k' := 2) (n' := 12) ca_X9_needIndex sa_X9_needIndex lk_X9_125 (t_X9_needIndex B.tr h4) (Nat.le_refl _) rfl (rest := []) rfl rfl (Nat.le_of_ble_eq_true rfl) (by decide +kernel) rfl rfl (st' := []) rfl ?_
    refine B_blk B jlkX9_ok jcl_SKF [.aload_n 0, .getfield 20, .getfield 199] (by decide +kernel) (ls' := [(0, jR 0), (1, jI v1), (2, jI v2), (3, jI v3), (4, jI v4), (5, jI v5)]) (st' := [jR 24]) rfl (p1 := 92) rfl ?_
    obtain ⟨r5, h5, hf⟩ := jbd hf
    refine B_callV B (Nat.le_refl _) (μ' := r4.2) (k' := 2) (n' := 12) ca_X5_hasRoom in_X5_hasRoom se_X5_hasRoom lk_X9_105 (t_X5_hasRoom B.tr jcl_SKF ⟨rfl, rfl, by decide⟩ h5) (Nat.le_refl _) rfl rfl rfl (rest := []) rfl rfl (Nat.le_of_ble_eq_true rfl) (by decide +kernel) rfl rfl (st' := [jI r5]) rfl ?_
    rcases jthr_s hf with ⟨e6, h6, hf⟩ | ⟨r6, h6, hf⟩
    · cases hf
      exact B_callST B (Nat.le_refl _) hno hq ca_X9_needRoom sa_X9_needRoom lk_X9_111 (t_X9_needRoom B.tr h6) (Nat.le_refl _) rfl (rest := []) rfl rfl (Nat.le_of_ble_eq_true rfl) (by decide +kernel) (Nat.le_of_ble_eq_true rfl) (Nat.le_of_ble_eq_true rfl)
    · refine B_callS B (Nat.le_refl _) (μ' := r6.2) (k' := 3) (n' := 18) ca_X9_needRoom sa_X9_needRoom lk_X9_111 (t_X9_needRoom B.tr h6) (Nat.le_refl _) rfl (rest := []) rfl rfl (Nat.le_of_ble_eq_true rfl) (by decide +kernel) rfl rfl (st' := []) rfl ?_
      refine B_blk B jlkX9_ok jcl_SKF [.aload_n 0, .getfield 20, .iload_n 2] (by decide +kernel) (ls' := [(0, jR 0), (1, jI v1), (2, jI v2), (3, jI v3), (4, jI v4), (5, jI v5)]) (st' := [jI v2, jR 1]) rfl (p1 := 103) rfl ?_
      obtain ⟨r7, h7, hf⟩ := jbd hf
      refine B_callV B (Nat.le_refl _) (μ' := r6.2) (k' := 3) (n' := 18) ca_X4_tinsFor in_X4_tinsFor se_X4_tinsFor lk_X9_202 (t_X4_tinsFor B.tr h7) (Nat.le_refl _) rfl rfl rfl (rest := []) rfl rfl (Nat.le_of_ble_eq_true rfl) (by decide +kernel) rfl rfl (st' := [jI r7]) rfl ?_
      refine B_blk B jlkX9_ok jcl_SKF [.aload_n 0, .getfield 20, .iload 4] (by decide +kernel) (ls' := [(0, jR 0), (1, jI v1), (2, jI v2), (3, jI v3), (4, jI v4), (5, jI v5)]) (st' := [jI v4, jR 1, jI r7]) rfl (p1 := 112) rfl ?_
      obtain ⟨r8, h8, hf⟩ := jbd hf
      refine B_callV B (Nat.le_refl _) (μ' := r6.2) (k' := 3) (n' := 18) ca_X4_tinsLeft in_X4_tinsLeft se_X4_tinsLeft lk_X9_205 (t_X4_tinsLeft B.tr h8) (Nat.le_refl _) rfl rfl rfl (rest := [jI r7]) rfl rfl (Nat.le_of_ble_eq_true rfl) (by decide +kernel) rfl rfl (st' := [jI r8, jI r7]) rfl ?_
      refine J_icmp_le B.1 (off := 5) (tgt := 120) (by decide +kernel) (by decide) hf (fun hf => ?_) (fun hf => ?_)
      · refine B_blk B jlkX9_ok jcl_SKF [.aload_n 0, .getfield 49, .iload_n 1, .iconst 1, .iload_n 2, .ishl] (by decide +kernel) (ls' := [(0, jR 0), (1, jI v1), (2, jI v2), (3, jI v3), (4, jI v4), (5, jI v5)]) (st' := [jI (jSl 1 v2), jI v1, jR 66]) rfl (p1 := 128) rfl ?_
        obtain ⟨r9, h9, hf⟩ := jbd hf
        refine B_callV B (Nat.le_refl _) (μ' := r9) (k' := 3) (n' := 18) ca_X8_begin in_X8_begin se_X8_begin lk_X9_186 (t_X8_begin B.tr h9) (Nat.le_refl _) rfl rfl rfl (rest := []) rfl rfl (Nat.le_of_ble_eq_true rfl) (by decide +kernel) rfl rfl (st' := []) rfl ?_
        refine B_blk B jlkX9_ok jcl_SKF [.aload_n 0, .getfield 49, .iload_n 2, .iload 5] (by decide +kernel) (ls' := [(0, jR 0), (1, jI v1), (2, jI v2), (3, jI v3), (4, jI v4), (5, jI v5)]) (st' := [jI v5, jI v2, jR 66]) rfl (p1 := 138) rfl ?_
        obtain ⟨r10, h10, hf⟩ := jbd hf
        refine B_callV B (Nat.le_refl _) (μ' := r9) (k' := 3) (n' := 18) ca_X8_blockedTo in_X8_blockedTo se_X8_blockedTo lk_X9_196 (t_X8_blockedTo B.tr h10) (Nat.le_refl _) rfl rfl rfl (rest := []) rfl rfl (Nat.le_of_ble_eq_true rfl) (by decide +kernel) rfl rfl (st' := [jI r10]) rfl ?_
        refine B_blk B jlkX9_ok jcl_SKF [.iconst (-1)] (by decide +kernel) (ls' := [(0, jR 0), (1, jI v1), (2, jI v2), (3, jI v3), (4, jI v4), (5, jI v5)]) (st' := [jI (-1), jI r10]) rfl (p1 := 142) rfl ?_
        refine J_icmp_eq B.1 (off := 5) (tgt := 147) (by decide +kernel) (by decide) hf (fun hf => ?_) (fun hf => ?_)
        · refine B_blk B jlkX9_ok jcl_SKF [.aload_n 0, .getfield 49, .iload_n 2, .iload_n 3, .iload 5] (by decide +kernel) (ls' := [(0, jR 0), (1, jI v1), (2, jI v2), (3, jI v3), (4, jI v4), (5, jI v5)]) (st' := [jI v5, jI v3, jI v2, jR 66]) rfl (p1 := 155) rfl ?_
          obtain ⟨r11, h11, hf⟩ := jbd hf
          refine B_callV B (Nat.le_refl _) (μ' := r11.2) (k' := 3) (n' := 18) ca_X8_workEnd in_X8_workEnd se_X8_workEnd lk_X9_189 (t_X8_workEnd B.tr h11) (Nat.le_refl _) rfl rfl rfl (rest := []) rfl rfl (Nat.le_of_ble_eq_true rfl) (by decide +kernel) rfl rfl (st' := [jI r11.1]) rfl ?_
          refine B_blk B jlkX9_ok jcl_SKF [.istore 6, .iload 6, .iconst (-1)] (by decide +kernel) (ls' := [(0, jR 0), (1, jI v1), (2, jI v2), (3, jI v3), (4, jI v4), (5, jI v5), (6, jI r11.1)]) (st' := [jI (-1), jI r11.1]) rfl (p1 := 163) rfl ?_
          refine J_icmp_ne B.1 (off := 5) (tgt := 168) (by decide +kernel) (by decide) hf (fun hf => ?_) (fun hf => ?_)
          · refine B_blk B jlkX9_ok jcl_SKF [.iconst (-1)] (by decide +kernel) (ls' := [(0, jR 0), (1, jI v1), (2, jI v2), (3, jI v3), (4, jI v4), (5, jI v5), (6, jI r11.1)]) (st' := [jI (-1)]) rfl (p1 := 167) rfl ?_
            cases hf
            exact B_retI B hq rfl (Nat.le_of_ble_eq_true rfl) (Nat.le_of_ble_eq_true rfl) (by decide +kernel)
          · refine B_blk B jlkX9_ok jcl_SKF [.aload_n 0, .getfield 20, .getfield 199] (by decide +kernel) (ls' := [(0, jR 0), (1, jI v1), (2, jI v2), (3, jI v3), (4, jI v4), (5, jI v5), (6, jI r11.1)]) (st' := [jR 24]) rfl (p1 := 175) rfl ?_
            obtain ⟨r12, h12, hf⟩ := jbd hf
            refine B_callV B (Nat.le_refl _) (μ' := r12.2) (k' := 3) (n' := 18) ca_X5_addRow in_X5_addRow se_X5_addRow lk_X9_114 (t_X5_addRow B.tr jcl_SKF ⟨rfl, rfl, by decide⟩ h12) (Nat.le_refl _) rfl rfl rfl (rest := []) rfl rfl (Nat.le_of_ble_eq_true rfl) (by decide +kernel) rfl rfl (st' := [jI r12.1]) rfl ?_
            refine B_blk B jlkX9_ok jcl_SKF [.istore 7, .aload_n 0, .getfield 20, .getfield 199, .iload 7, .iconst 0, .iload_n 2] (by decide +kernel) (ls' := [(0, jR 0), (1, jI v1), (2, jI v2), (3, jI v3), (4, jI v4), (5, jI v5), (6, jI r11.1), (7, jI r12.1)]) (st' := [jI v2, jI 0, jI r12.1, jR 24]) rfl (p1 := 191) rfl ?_
            obtain ⟨r13, h13, hf⟩ := jbd hf
            refine B_callV B (Nat.le_refl _) (μ' := r13) (k' := 3) (n' := 18) ca_X5_set in_X5_set se_X5_set lk_X9_117 (t_X5_set B.tr jcl_SKF ⟨rfl, rfl, by decide⟩ h13) (Nat.le_refl _) rfl rfl rfl (rest := []) rfl rfl (Nat.le_of_ble_eq_true rfl) (by decide +kernel) rfl rfl (st' := []) rfl ?_
            refine B_blk B jlkX9_ok jcl_SKF [.aload_n 0, .getfield 20, .getfield 199, .iload 7, .iconst 1, .iload_n 3] (by decide +kernel) (ls' := [(0, jR 0), (1, jI v1), (2, jI v2), (3, jI v3), (4, jI v4), (5, jI v5), (6, jI r11.1), (7, jI r12.1)]) (st' := [jI v3, jI 1, jI r12.1, jR 24]) rfl (p1 := 205) rfl ?_
            obtain ⟨r14, h14, hf⟩ := jbd hf
            refine B_callV B (Nat.le_refl _) (μ' := r14) (k' := 3) (n' := 18) ca_X5_set in_X5_set se_X5_set lk_X9_117 (t_X5_set B.tr jcl_SKF ⟨rfl, rfl, by decide⟩ h14) (Nat.le_refl _) rfl rfl rfl (rest := []) rfl rfl (Nat.le_of_ble_eq_true rfl) (by decide +kernel) rfl rfl (st' := []) rfl ?_
            refine B_blk B jlkX9_ok jcl_SKF [.aload_n 0, .getfield 20, .getfield 199, .iload 7, .iconst 2, .iload 4] (by decide +kernel) (ls' := [(0, jR 0), (1, jI v1), (2, jI v2), (3, jI v3), (4, jI v4), (5, jI v5), (6, jI r11.1), (7, jI r12.1)]) (st' := [jI v4, jI 2, jI r12.1, jR 24]) rfl (p1 := 220) rfl ?_
            obtain ⟨r15, h15, hf⟩ := jbd hf
            refine B_callV B (Nat.le_refl _) (μ' := r15) (k' := 3) (n' := 18) ca_X5_set in_X5_set se_X5_set lk_X9_117 (t_X5_set B.tr jcl_SKF ⟨rfl, rfl, by decide⟩ h15) (Nat.le_refl _) rfl rfl rfl (rest := []) rfl rfl (Nat.le_of_ble_eq_true rfl) (by decide +kernel) rfl rfl (st' := []) rfl ?_
            refine B_blk B jlkX9_ok jcl_SKF [.aload_n 0, .getfield 20, .getfield 199, .iload 7, .iconst 3, .iload 5] (by decide +kernel) (ls' := [(0, jR 0), (1, jI v1), (2, jI v2), (3, jI v3), (4, jI v4), (5, jI v5), (6, jI r11.1), (7, jI r12.1)]) (st' := [jI v5, jI 3, jI r12.1, jR 24]) rfl (p1 := 235) rfl ?_
            obtain ⟨r16, h16, hf⟩ := jbd hf
            refine B_callV B (Nat.le_refl _) (μ' := r16) (k' := 3) (n' := 18) ca_X5_set in_X5_set se_X5_set lk_X9_117 (t_X5_set B.tr jcl_SKF ⟨rfl, rfl, by decide⟩ h16) (Nat.le_refl _) rfl rfl rfl (rest := []) rfl rfl (Nat.le_of_ble_eq_true rfl) (by decide +kernel) rfl rfl (st' := []) rfl ?_
            refine B_blk B jlkX9_ok jcl_SKF [.aload_n 0, .getfield 20, .getfield 199, .iload 7, .iconst 4, .iload 6] (by decide +kernel) (ls' := [(0, jR 0), (1, jI v1), (2, jI v2), (3, jI v3), (4, jI v4), (5, jI v5), (6, jI r11.1), (7, jI r12.1)]) (st' := [jI r11.1, jI 4, jI r12.1, jR 24]) rfl (p1 := 250) rfl ?_
            obtain ⟨r17, h17, hf⟩ := jbd hf
            refine B_callV B (Nat.le_refl _) (μ' := r17) (k' := 3) (n' := 18) ca_X5_set in_X5_set se_X5_set lk_X9_117 (t_X5_set B.tr jcl_SKF ⟨rfl, rfl, by decide⟩ h17) (Nat.le_refl _) rfl rfl rfl (rest := []) rfl rfl (Nat.le_of_ble_eq_true rfl) (by decide +kernel) rfl rfl (st' := []) rfl ?_
            refine B_blk B jlkX9_ok jcl_SKF [.aload_n 0, .getfield 20, .getfield 199, .iload 7, .iconst 5, .aload_n 0, .getfield 20, .getfield 90] (by decide +kernel) (ls' := [(0, jR 0), (1, jI v1), (2, jI v2), (3, jI v3), (4, jI v4), (5, jI v5), (6, jI r11.1), (7, jI r12.1)]) (st' := [jI (r17 1 14), jI 5, jI r12.1, jR 24]) rfl (p1 := 270) rfl ?_
            obtain ⟨r18, h18, hf⟩ := jbd hf
            refine B_callV B (Nat.le_refl _) (μ' := r18) (k' := 3) (n' := 18) ca_X5_set in_X5_set se_X5_set lk_X9_117 (t_X5_set B.tr jcl_SKF ⟨rfl, rfl, by decide⟩ h18) (Nat.le_refl _) rfl rfl rfl (rest := []) rfl rfl (Nat.le_of_ble_eq_true rfl) (by decide +kernel) rfl rfl (st' := []) rfl ?_
            refine B_blk B jlkX9_ok jcl_SKF [.aload_n 0, .getfield 20, .getfield 199, .iload 7, .bipush 6, .iconst (-1)] (by decide +kernel) (ls' := [(0, jR 0), (1, jI v1), (2, jI v2), (3, jI v3), (4, jI v4), (5, jI v5), (6, jI r11.1), (7, jI r12.1)]) (st' := [jI (-1), jI 6, jI r12.1, jR 24]) rfl (p1 := 285) rfl ?_
            obtain ⟨r19, h19, hf⟩ := jbd hf
            refine B_callV B (Nat.le_refl _) (μ' := r19) (k' := 3) (n' := 18) ca_X5_set in_X5_set se_X5_set lk_X9_117 (t_X5_set B.tr jcl_SKF ⟨rfl, rfl, by decide⟩ h19) (Nat.le_refl _) rfl rfl rfl (rest := []) rfl rfl (Nat.le_of_ble_eq_true rfl) (by decide +kernel) rfl rfl (st' := []) rfl ?_
            refine B_blk B jlkX9_ok jcl_SKF [.aload_n 0, .getfield 20, .getfield 199, .iload 7, .bipush 7, .iload_n 1] (by decide +kernel) (ls' := [(0, jR 0), (1, jI v1), (2, jI v2), (3, jI v3), (4, jI v4), (5, jI v5), (6, jI r11.1), (7, jI r12.1)]) (st' := [jI v1, jI 7, jI r12.1, jR 24]) rfl (p1 := 300) rfl ?_
            obtain ⟨r20, h20, hf⟩ := jbd hf
            refine B_callV B (Nat.le_refl _) (μ' := r20) (k' := 3) (n' := 18) ca_X5_set in_X5_set se_X5_set lk_X9_117 (t_X5_set B.tr jcl_SKF ⟨rfl, rfl, by decide⟩ h20) (Nat.le_refl _) rfl rfl rfl (rest := []) rfl rfl (Nat.le_of_ble_eq_true rfl) (by decide +kernel) rfl rfl (st' := []) rfl ?_
            refine B_blk B jlkX9_ok jcl_SKF [.iload 7] (by decide +kernel) (ls' := [(0, jR 0), (1, jI v1), (2, jI v2), (3, jI v3), (4, jI v4), (5, jI v5), (6, jI r11.1), (7, jI r12.1)]) (st' := [jI r12.1]) rfl (p1 := 305) rfl ?_
            cases hf
            exact B_retI B hq rfl (Nat.le_of_ble_eq_true rfl) (Nat.le_of_ble_eq_true rfl) (by decide +kernel)
        · refine B_blk B jlkX9_ok jcl_SKF [.iconst (-1)] (by decide +kernel) (ls' := [(0, jR 0), (1, jI v1), (2, jI v2), (3, jI v3), (4, jI v4), (5, jI v5)]) (st' := [jI (-1)]) rfl (p1 := 146) rfl ?_
          cases hf
          exact B_retI B hq rfl (Nat.le_of_ble_eq_true rfl) (Nat.le_of_ble_eq_true rfl) (by decide +kernel)
      · refine B_blk B jlkX9_ok jcl_SKF [.iconst (-1)] (by decide +kernel) (ls' := [(0, jR 0), (1, jI v1), (2, jI v2), (3, jI v3), (4, jI v4), (5, jI v5)]) (st' := [jI (-1)]) rfl (p1 := 119) rfl ?_
        cases hf
        exact B_retI B hq rfl (Nat.le_of_ble_eq_true rfl) (Nat.le_of_ble_eq_true rfl) (by decide +kernel)
theorem t_X9_job_J81 {X : jX} (B : jB X cX9_job RX9 8 SKF.length rm_X9_job (some .int)) (hno : ∀ x ∈ (xc X).exceptionTable.toList, False) (v1 : Int) (v2 : Int) (v3 : Int) (v4 : Int) (v5 : Int) (m : jMu) (r : (jOut Int)) (hf : f_X9_job_J81 v1 v2 v3 v4 v5 m = some r) (hq : jQ X (joI r) SKF (joM r) rm_X9_job.cells rm_X9_job.slots) : J X SKF m 1 6 81 [(0, jR 0), (1, jI v1), (2, jI v2), (3, jI v3), (4, jI v4), (5, jI v5)] [] := by
  unfold f_X9_job_J81 at hf
  refine B_blk B jlkX9_ok jcl_SKF [.iconst 0] (by decide +kernel) (ls' := [(0, jR 0), (1, jI v1), (2, jI v2), (3, jI v3), (4, jI v4), (5, jI v5)]) (st' := [jI 0]) rfl (p1 := 82) rfl ?_
  exact t_X9_job_J82 B hno v1 v2 v3 v4 v5 0 m _ hf hq
theorem t_X9_job_J47 {X : jX} (B : jB X cX9_job RX9 8 SKF.length rm_X9_job (some .int)) (hno : ∀ x ∈ (xc X).exceptionTable.toList, False) (v1 : Int) (v2 : Int) (v3 : Int) (v4 : Int) (v5 : Int) (s0 : Int) (m : jMu) (r : (jOut Int)) (hf : f_X9_job_J47 v1 v2 v3 v4 v5 s0 m = some r) (hq : jQ X (joI r) SKF (joM r) rm_X9_job.cells rm_X9_job.slots) : J X SKF m 0 0 47 [(0, jR 0), (1, jI v1), (2, jI v2), (3, jI v3), (4, jI v4), (5, jI v5)] [jI s0] := by
  unfold f_X9_job_J47 at hf
  rcases jthr_s hf with ⟨e2, h2, hf⟩ | ⟨r2, h2, hf⟩
  · cases hf
    exact B_callST B (Nat.le_refl _) hno hq ca_X9_needIndex sa_X9_needIndex lk_X9_125 (t_X9_needIndex B.tr h2) (Nat.le_refl _) rfl (rest := []) rfl rfl (Nat.le_of_ble_eq_true rfl) (by decide +kernel) (Nat.le_of_ble_eq_true rfl) (Nat.le_of_ble_eq_true rfl)
  · refine B_callS B (Nat.le_refl _) (μ' := r2.2) (k' := 1) (n' := 6) ca_X9_needIndex sa_X9_needIndex lk_X9_125 (t_X9_needIndex B.tr h2) (Nat.le_refl _) rfl (rest := []) rfl rfl (Nat.le_of_ble_eq_true rfl) (by decide +kernel) rfl rfl (st' := []) rfl ?_
    refine B_blk B jlkX9_ok jcl_SKF [.aload_n 0, .getfield 20, .getfield 183, .iload 4] (by decide +kernel) (ls' := [(0, jR 0), (1, jI v1), (2, jI v2), (3, jI v3), (4, jI v4), (5, jI v5)]) (st' := [jI v4, jR 22]) rfl (p1 := 59) rfl ?_
    obtain ⟨r3, h3, hf⟩ := jbd hf
    refine B_callV B (Nat.le_refl _) (μ' := r2.2) (k' := 1) (n' := 6) ca_X5_has in_X5_has se_X5_has lk_X9_143 (t_X5_has B.tr jcl_SKF ⟨rfl, rfl, by decide⟩ h3) (Nat.le_refl _) rfl rfl rfl (rest := []) rfl rfl (Nat.le_of_ble_eq_true rfl) (by decide +kernel) rfl rfl (st' := [jI r3]) rfl ?_
    refine J_if_eq B.1 (off := 19) (tgt := 81) (by decide +kernel) (by decide) hf (fun hf => ?_) (fun hf => ?_)
    · exact t_X9_job_J81 B hno v1 v2 v3 v4 v5 r2.2 _ hf hq
    · refine B_blk B jlkX9_ok jcl_SKF [.iload 5, .iconst 0, .sipush 2399] (by decide +kernel) (ls' := [(0, jR 0), (1, jI v1), (2, jI v2), (3, jI v3), (4, jI v4), (5, jI v5)]) (st' := [jI 2399, jI 0, jI v5]) rfl (p1 := 71) rfl ?_
      obtain ⟨r21, h21, hf⟩ := jbd hf
      refine B_callS B (Nat.le_refl _) (μ' := r2.2) (k' := 1) (n' := 6) ca_X9_isIn sa_X9_isIn lk_X9_93 (t_X9_isIn B.tr jcl_SKF h21) (Nat.le_refl _) rfl (rest := []) rfl rfl (Nat.le_of_ble_eq_true rfl) (by decide +kernel) rfl rfl (st' := [jI r21]) rfl ?_
      refine J_if_eq B.1 (off := 7) (tgt := 81) (by decide +kernel) (by decide) hf (fun hf => ?_) (fun hf => ?_)
      · exact t_X9_job_J81 B hno v1 v2 v3 v4 v5 r2.2 _ hf hq
      · refine B_blk B jlkX9_ok jcl_SKF [.iconst 1, .goto 4] (by decide +kernel) (ls' := [(0, jR 0), (1, jI v1), (2, jI v2), (3, jI v3), (4, jI v4), (5, jI v5)]) (st' := [jI 1]) rfl (p1 := 82) rfl ?_
        exact t_X9_job_J82 B hno v1 v2 v3 v4 v5 1 r2.2 _ hf hq
theorem t_X9_job_J46 {X : jX} (B : jB X cX9_job RX9 8 SKF.length rm_X9_job (some .int)) (hno : ∀ x ∈ (xc X).exceptionTable.toList, False) (v1 : Int) (v2 : Int) (v3 : Int) (v4 : Int) (v5 : Int) (m : jMu) (r : (jOut Int)) (hf : f_X9_job_J46 v1 v2 v3 v4 v5 m = some r) (hq : jQ X (joI r) SKF (joM r) rm_X9_job.cells rm_X9_job.slots) : J X SKF m 0 0 46 [(0, jR 0), (1, jI v1), (2, jI v2), (3, jI v3), (4, jI v4), (5, jI v5)] [] := by
  unfold f_X9_job_J46 at hf
  refine B_blk B jlkX9_ok jcl_SKF [.iconst 0] (by decide +kernel) (ls' := [(0, jR 0), (1, jI v1), (2, jI v2), (3, jI v3), (4, jI v4), (5, jI v5)]) (st' := [jI 0]) rfl (p1 := 47) rfl ?_
  exact t_X9_job_J47 B hno v1 v2 v3 v4 v5 0 m _ hf hq
theorem t_X9_job {l : Launch} {G : jG} (hl : l.stackTraces = false) {a0 : Int} {a1 : Int} {a2 : Int} {a3 : Int} {a4 : Int} {m : jMu} {r : (jOut Int)} (hf : f_X9_job a0 a1 a2 a3 a4 m = some r) : jCt l G yX9_job (.code yX9_job cX9_job 8 (some .int) :: jWG) rm_X9_job [jR 0, jI a0, jI a1, jI a2, jI a3, jI a4] SKF m (joI r) SKF (joM r) := by
  unfold f_X9_job at hf
  refine J_start (ls0 := [(0, jR 0), (1, jI a0), (2, jI a1), (3, jI a2), (4, jI a3), (5, jI a4)]) (by decide +kernel) hl (Nat.le_of_ble_eq_true rfl) rfl fun X C hN hn hR hr hnm hno hq => ?_
  have B : jB X cX9_job RX9 8 SKF.length rm_X9_job (some .int) := ⟨C, hN, Nat.le_of_eq hn, hR, hr⟩
  refine B_blk B jlkX9_ok jcl_SKF [.aload_n 0, .getfield 20, .getfield 158, .iload_n 1] (by decide +kernel) (ls' := [(0, jR 0), (1, jI a0), (2, jI a1), (3, jI a2), (4, jI a3), (5, jI a4)]) (st' := [jI a0, jR 14]) rfl (p1 := 8) rfl ?_
  obtain ⟨r1, h1, hf⟩ := jbd hf
  refine B_callV B (Nat.le_refl _) (μ' := m) (k' := 0) (n' := 0) ca_X5_has in_X5_has se_X5_has lk_X9_143 (t_X5_has B.tr jcl_SKF ⟨rfl, rfl, by decide⟩ h1) (Nat.le_refl _) rfl rfl rfl (rest := []) rfl rfl (Nat.le_of_ble_eq_true rfl) (by decide +kernel) rfl rfl (st' := [jI r1]) rfl ?_
  refine J_if_eq B.1 (off := 35) (tgt := 46) (by decide +kernel) (by decide) hf (fun hf => ?_) (fun hf => ?_)
  · exact t_X9_job_J46 B hno a0 a1 a2 a3 a4 m _ hf hq
  · refine B_blk B jlkX9_ok jcl_SKF [.aload_n 0, .getfield 20, .getfield 101, .iload_n 2] (by decide +kernel) (ls' := [(0, jR 0), (1, jI a0), (2, jI a1), (3, jI a2), (4, jI a3), (5, jI a4)]) (st' := [jI a1, jR 4]) rfl (p1 := 22) rfl ?_
    obtain ⟨r22, h22, hf⟩ := jbd hf
    refine B_callV B (Nat.le_refl _) (μ' := m) (k' := 0) (n' := 0) ca_X5_has in_X5_has se_X5_has lk_X9_143 (t_X5_has B.tr jcl_SKF ⟨rfl, rfl, by decide⟩ h22) (Nat.le_refl _) rfl rfl rfl (rest := []) rfl rfl (Nat.le_of_ble_eq_true rfl) (by decide +kernel) rfl rfl (st' := [jI r22]) rfl ?_
    refine J_if_eq B.1 (off := 21) (tgt := 46) (by decide +kernel) (by decide) hf (fun hf => ?_) (fun hf => ?_)
    · exact t_X9_job_J46 B hno a0 a1 a2 a3 a4 m _ hf hq
    · refine B_blk B jlkX9_ok jcl_SKF [.aload_n 0, .getfield 20, .getfield 180, .iload_n 3] (by decide +kernel) (ls' := [(0, jR 0), (1, jI a0), (2, jI a1), (3, jI a2), (4, jI a3), (5, jI a4)]) (st' := [jI a2, jR 20]) rfl (p1 := 36) rfl ?_
      obtain ⟨r23, h23, hf⟩ := jbd hf
      refine B_callV B (Nat.le_refl _) (μ' := m) (k' := 0) (n' := 0) ca_X5_has in_X5_has se_X5_has lk_X9_143 (t_X5_has B.tr jcl_SKF ⟨rfl, rfl, by decide⟩ h23) (Nat.le_refl _) rfl rfl rfl (rest := []) rfl rfl (Nat.le_of_ble_eq_true rfl) (by decide +kernel) rfl rfl (st' := [jI r23]) rfl ?_
      refine J_if_eq B.1 (off := 7) (tgt := 46) (by decide +kernel) (by decide) hf (fun hf => ?_) (fun hf => ?_)
      · exact t_X9_job_J46 B hno a0 a1 a2 a3 a4 m _ hf hq
      · refine B_blk B jlkX9_ok jcl_SKF [.iconst 1, .goto 4] (by decide +kernel) (ls' := [(0, jR 0), (1, jI a0), (2, jI a1), (3, jI a2), (4, jI a3), (5, jI a4)]) (st' := [jI 1]) rfl (p1 := 47) rfl ?_
        exact t_X9_job_J47 B hno a0 a1 a2 a3 a4 1 m _ hf hq

def rm_X9_look : Room := { frames := 9, cells := 2, slots := 12, locals := 120 }
def f_X9_look (a0 : Int) (a1 : Int) (m : jMu) : Option (jOut Int) :=
  (f_X5_has 24 25 320 a0 m).bind fun r1 => jthr (f_X9_needIndex r1 m) fun r2 => (f_X9_isIn a1 0 7).bind fun r3 => jthr (f_X9_needElement r3 r2.2) fun r4 => (f_X5_get 24 25 320 a0 a1 r4.2).bind fun r5 => some (.inr (r5, r4.2))
theorem t_X9_look {l : Launch} {G : jG} (hl : l.stackTraces = false) {a0 : Int} {a1 : Int} {m : jMu} {r : (jOut Int)} (hf : f_X9_look a0 a1 m = some r) : jCt l G yX9_look (.code yX9_look cX9_look 3 (some .int) :: jWG) rm_X9_look [jR 0, jI a0, jI a1] SKF m (joI r) SKF (joM r) := by
  unfold f_X9_look at hf
  refine J_start (ls0 := [(0, jR 0), (1, jI a0), (2, jI a1)]) (by decide +kernel) hl (Nat.le_of_ble_eq_true rfl) rfl fun X C hN hn hR hr hnm hno hq => ?_
  have B : jB X cX9_look RX9 3 SKF.length rm_X9_look (some .int) := ⟨C, hN, Nat.le_of_eq hn, hR, hr⟩
  refine B_blk B jlkX9_ok jcl_SKF [.aload_n 0, .getfield 20, .getfield 199, .iload_n 1] (by decide +kernel) (ls' := [(0, jR 0), (1, jI a0), (2, jI a1)]) (st' := [jI a0, jR 24]) rfl (p1 := 8) rfl ?_
  obtain ⟨r1, h1, hf⟩ := jbd hf
  refine B_callV B (Nat.le_refl _) (μ' := m) (k' := 0) (n' := 0) ca_X5_has in_X5_has se_X5_has lk_X9_143 (t_X5_has B.tr jcl_SKF ⟨rfl, rfl, by decide⟩ h1) (Nat.le_refl _) rfl rfl rfl (rest := []) rfl rfl (Nat.le_of_ble_eq_true rfl) (by decide +kernel) rfl rfl (st' := [jI r1]) rfl ?_
  rcases jthr_s hf with ⟨e2, h2, hf⟩ | ⟨r2, h2, hf⟩
  · cases hf
    exact B_callST B (Nat.le_refl _) hno hq ca_X9_needIndex sa_X9_needIndex lk_X9_125 (t_X9_needIndex B.tr h2) (Nat.le_refl _) rfl (rest := []) rfl rfl (Nat.le_of_ble_eq_true rfl) (by decide +kernel) (Nat.le_of_ble_eq_true rfl) (Nat.le_of_ble_eq_true rfl)
  · refine B_callS B (Nat.le_refl _) (μ' := r2.2) (k' := 1) (n' := 6) ca_X9_needIndex sa_X9_needIndex lk_X9_125 (t_X9_needIndex B.tr h2) (Nat.le_refl _) rfl (rest := []) rfl rfl (Nat.le_of_ble_eq_true rfl) (by decide +kernel) rfl rfl (st' := []) rfl ?_
    refine B_blk B jlkX9_ok jcl_SKF [.iload_n 2, .iconst 0, .bipush 7] (by decide +kernel) (ls' := [(0, jR 0), (1, jI a0), (2, jI a1)]) (st' := [jI 7, jI 0, jI a1]) rfl (p1 := 18) rfl ?_
    obtain ⟨r3, h3, hf⟩ := jbd hf
    refine B_callS B (Nat.le_refl _) (μ' := r2.2) (k' := 1) (n' := 6) ca_X9_isIn sa_X9_isIn lk_X9_93 (t_X9_isIn B.tr jcl_SKF h3) (Nat.le_refl _) rfl (rest := []) rfl rfl (Nat.le_of_ble_eq_true rfl) (by decide +kernel) rfl rfl (st' := [jI r3]) rfl ?_
    rcases jthr_s hf with ⟨e4, h4, hf⟩ | ⟨r4, h4, hf⟩
    · cases hf
      exact B_callST B (Nat.le_refl _) hno hq ca_X9_needElement sa_X9_needElement lk_X9_170 (t_X9_needElement B.tr h4) (Nat.le_refl _) rfl (rest := []) rfl rfl (Nat.le_of_ble_eq_true rfl) (by decide +kernel) (Nat.le_of_ble_eq_true rfl) (Nat.le_of_ble_eq_true rfl)
    · refine B_callS B (Nat.le_refl _) (μ' := r4.2) (k' := 2) (n' := 12) ca_X9_needElement sa_X9_needElement lk_X9_170 (t_X9_needElement B.tr h4) (Nat.le_refl _) rfl (rest := []) rfl rfl (Nat.le_of_ble_eq_true rfl) (by decide +kernel) rfl rfl (st' := []) rfl ?_
      refine B_blk B jlkX9_ok jcl_SKF [.aload_n 0, .getfield 20, .getfield 199, .iload_n 1, .iload_n 2] (by decide +kernel) (ls' := [(0, jR 0), (1, jI a0), (2, jI a1)]) (st' := [jI a1, jI a0, jR 24]) rfl (p1 := 33) rfl ?_
      obtain ⟨r5, h5, hf⟩ := jbd hf
      refine B_callV B (Nat.le_refl _) (μ' := r4.2) (k' := 2) (n' := 12) ca_X5_get in_X5_get se_X5_get lk_X9_208 (t_X5_get B.tr jcl_SKF ⟨rfl, rfl, by decide⟩ h5) (Nat.le_refl _) rfl rfl rfl (rest := []) rfl rfl (Nat.le_of_ble_eq_true rfl) (by decide +kernel) rfl rfl (st' := [jI r5]) rfl ?_
      cases hf
      exact B_retI B hq rfl (Nat.le_of_ble_eq_true rfl) (Nat.le_of_ble_eq_true rfl) (by decide +kernel)

def rm_X9_peel : Room := { frames := 9, cells := 1, slots := 6, locals := 120 }
def f_X9_peel (a0 : Int) (m : jMu) : Option (jOut Int) :=
  (f_X5_has 24 25 320 a0 m).bind fun r1 => jthr (f_X9_needIndex r1 m) fun r2 => (f_X5_get 24 25 320 a0 6 r2.2).bind fun r3 => (if r3 = (-1) then (f_X5_set 24 25 320 a0 6 (r2.2 1 14) r2.2).bind fun r4 => some (.inr (1, r4)) else some (.inr (0, r2.2)))
theorem t_X9_peel {l : Launch} {G : jG} (hl : l.stackTraces = false) {a0 : Int} {m : jMu} {r : (jOut Int)} (hf : f_X9_peel a0 m = some r) : jCt l G yX9_peel (.code yX9_peel cX9_peel 2 (some .boolean) :: jWG) rm_X9_peel [jR 0, jI a0] SKF m (joI r) SKF (joM r) := by
  unfold f_X9_peel at hf
  refine J_start (ls0 := [(0, jR 0), (1, jI a0)]) (by decide +kernel) hl (Nat.le_of_ble_eq_true rfl) rfl fun X C hN hn hR hr hnm hno hq => ?_
  have B : jB X cX9_peel RX9 2 SKF.length rm_X9_peel (some .boolean) := ⟨C, hN, Nat.le_of_eq hn, hR, hr⟩
  refine B_blk B jlkX9_ok jcl_SKF [.aload_n 0, .getfield 20, .getfield 199, .iload_n 1] (by decide +kernel) (ls' := [(0, jR 0), (1, jI a0)]) (st' := [jI a0, jR 24]) rfl (p1 := 8) rfl ?_
  obtain ⟨r1, h1, hf⟩ := jbd hf
  refine B_callV B (Nat.le_refl _) (μ' := m) (k' := 0) (n' := 0) ca_X5_has in_X5_has se_X5_has lk_X9_143 (t_X5_has B.tr jcl_SKF ⟨rfl, rfl, by decide⟩ h1) (Nat.le_refl _) rfl rfl rfl (rest := []) rfl rfl (Nat.le_of_ble_eq_true rfl) (by decide +kernel) rfl rfl (st' := [jI r1]) rfl ?_
  rcases jthr_s hf with ⟨e2, h2, hf⟩ | ⟨r2, h2, hf⟩
  · cases hf
    exact B_callST B (Nat.le_refl _) hno hq ca_X9_needIndex sa_X9_needIndex lk_X9_125 (t_X9_needIndex B.tr h2) (Nat.le_refl _) rfl (rest := []) rfl rfl (Nat.le_of_ble_eq_true rfl) (by decide +kernel) (Nat.le_of_ble_eq_true rfl) (Nat.le_of_ble_eq_true rfl)
  · refine B_callS B (Nat.le_refl _) (μ' := r2.2) (k' := 1) (n' := 6) ca_X9_needIndex sa_X9_needIndex lk_X9_125 (t_X9_needIndex B.tr h2) (Nat.le_refl _) rfl (rest := []) rfl rfl (Nat.le_of_ble_eq_true rfl) (by decide +kernel) rfl rfl (st' := []) rfl ?_
    refine B_blk B jlkX9_ok jcl_SKF [.aload_n 0, .getfield 20, .getfield 199, .iload_n 1, .bipush 6] (by decide +kernel) (ls' := [(0, jR 0), (1, jI a0)]) (st' := [jI 6, jI a0, jR 24]) rfl (p1 := 24) rfl ?_
    obtain ⟨r3, h3, hf⟩ := jbd hf
    refine B_callV B (Nat.le_refl _) (μ' := r2.2) (k' := 1) (n' := 6) ca_X5_get in_X5_get se_X5_get lk_X9_208 (t_X5_get B.tr jcl_SKF ⟨rfl, rfl, by decide⟩ h3) (Nat.le_refl _) rfl rfl rfl (rest := []) rfl rfl (Nat.le_of_ble_eq_true rfl) (by decide +kernel) rfl rfl (st' := [jI r3]) rfl ?_
    refine B_blk B jlkX9_ok jcl_SKF [.iconst (-1)] (by decide +kernel) (ls' := [(0, jR 0), (1, jI a0)]) (st' := [jI (-1), jI r3]) rfl (p1 := 28) rfl ?_
    refine J_icmp_eq B.1 (off := 5) (tgt := 33) (by decide +kernel) (by decide) hf (fun hf => ?_) (fun hf => ?_)
    · refine B_blk B jlkX9_ok jcl_SKF [.aload_n 0, .getfield 20, .getfield 199, .iload_n 1, .bipush 6, .aload_n 0, .getfield 20, .getfield 90] (by decide +kernel) (ls' := [(0, jR 0), (1, jI a0)]) (st' := [jI (r2.2 1 14), jI 6, jI a0, jR 24]) rfl (p1 := 50) rfl ?_
      obtain ⟨r4, h4, hf⟩ := jbd hf
      refine B_callV B (Nat.le_refl _) (μ' := r4) (k' := 1) (n' := 6) ca_X5_set in_X5_set se_X5_set lk_X9_117 (t_X5_set B.tr jcl_SKF ⟨rfl, rfl, by decide⟩ h4) (Nat.le_refl _) rfl rfl rfl (rest := []) rfl rfl (Nat.le_of_ble_eq_true rfl) (by decide +kernel) rfl rfl (st' := []) rfl ?_
      refine B_blk B jlkX9_ok jcl_SKF [.iconst 1] (by decide +kernel) (ls' := [(0, jR 0), (1, jI a0)]) (st' := [jI 1]) rfl (p1 := 54) rfl ?_
      cases hf
      exact B_retZ B (Or.inr rfl) hq rfl (Nat.le_of_ble_eq_true rfl) (Nat.le_of_ble_eq_true rfl) (by decide +kernel)
    · refine B_blk B jlkX9_ok jcl_SKF [.iconst 0] (by decide +kernel) (ls' := [(0, jR 0), (1, jI a0)]) (st' := [jI 0]) rfl (p1 := 32) rfl ?_
      cases hf
      exact B_retZ B (Or.inl rfl) hq rfl (Nat.le_of_ble_eq_true rfl) (Nat.le_of_ble_eq_true rfl) (by decide +kernel)
