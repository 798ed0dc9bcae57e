/-! printed walks -/
def rm_X9_wear : Room := { frames := 9, cells := 2, slots := 12, locals := 120 }
def f_X9_wear_J53 (v1 : Int) (v2 : Int) (v3 : Int) (v4 : Int) (s0 : Int) (m : jMu) : Option (jOut Unit) :=
  jthr (f_X9_needArgument s0 m) fun r4 => (f_X5_set 4 5 80 v1 7 v2 r4.2).bind fun r5 => (f_X5_set 4 5 80 v1 8 v3 r5).bind fun r6 => (f_X5_set 4 5 80 v1 9 v4 r6).bind fun r7 => some (.inr ((), r7))
def f_X9_wear_J52 (v1 : Int) (v2 : Int) (v3 : Int) (v4 : Int) (m : jMu) : Option (jOut Unit) :=
  f_X9_wear_J53 v1 v2 v3 v4 0 m
def f_X9_wear (a0 : Int) (a1 : Int) (a2 : Int) (a3 : Int) (m : jMu) : Option (jOut Unit) :=
  (f_X5_has 4 5 80 a0 m).bind fun r1 => jthr (f_X9_needIndex r1 m) fun r2 => (f_X9_isIn a1 0 999).bind fun r3 => (if r3 = 0 then f_X9_wear_J52 a0 a1 a2 a3 r2.2 else (f_X9_isIn a2 0 999).bind fun r8 => (if r8 = 0 then f_X9_wear_J52 a0 a1 a2 a3 r2.2 else (f_X9_isIn a3 0 999).bind fun r9 => (if r9 = 0 then f_X9_wear_J52 a0 a1 a2 a3 r2.2 else f_X9_wear_J53 a0 a1 a2 a3 1 r2.2)))
theorem t_X9_wear_J53 {X : jX} (B : jB X cX9_wear RX9 5 SKF.length rm_X9_wear none) (hno : ∀ x ∈ (xc X).exceptionTable.toList, False) (v1 : Int) (v2 : Int) (v3 : Int) (v4 : Int) (s0 : Int) (m : jMu) (r : (jOut Unit)) (hf : f_X9_wear_J53 v1 v2 v3 v4 s0 m = some r) (hq : jQ X (joV r) SKF (joM r) rm_X9_wear.cells rm_X9_wear.slots) : J X SKF m 1 6 53 [(0, jR 0), (1, jI v1), (2, jI v2), (3, jI v3), (4, jI v4)] [jI s0] := by
  unfold f_X9_wear_J53 at hf
  rcases jthr_s hf with ⟨e4, h4, hf⟩ | ⟨r4, h4, hf⟩
  · cases hf
    exact B_callST B (Nat.le_refl _) hno hq ca_X9_needArgument sa_X9_needArgument lk_X9_97 (t_X9_needArgument B.tr h4) (Nat.le_refl _) rfl (rest := []) rfl rfl (Nat.le_of_ble_eq_true rfl) (by decide +kernel) (Nat.le_of_ble_eq_true rfl) (Nat.le_of_ble_eq_true rfl)
  · refine B_callS B (Nat.le_refl _) (μ' := r4.2) (k' := 2) (n' := 12) ca_X9_needArgument sa_X9_needArgument lk_X9_97 (t_X9_needArgument B.tr h4) (Nat.le_refl _) rfl (rest := []) rfl rfl (Nat.le_of_ble_eq_true rfl) (by decide +kernel) rfl rfl (st' := []) rfl ?_
    refine B_blk B jlkX9_ok jcl_SKF [.aload_n 0, .getfield 20, .getfield 101, .iload_n 1, .bipush 7, .iload_n 2] (by decide +kernel) (ls' := [(0, jR 0), (1, jI v1), (2, jI v2), (3, jI v3), (4, jI v4)]) (st' := [jI v2, jI 7, jI v1, jR 4]) rfl (p1 := 67) rfl ?_
    obtain ⟨r5, h5, hf⟩ := jbd hf
    refine B_callV B (Nat.le_refl _) (μ' := r5) (k' := 2) (n' := 12) ca_X5_set in_X5_set se_X5_set lk_X9_117 (t_X5_set B.tr jcl_SKF ⟨rfl, rfl, by decide⟩ h5) (Nat.le_refl _) rfl rfl rfl (rest := []) rfl rfl (Nat.le_of_ble_eq_true rfl) (by decide +kernel) rfl rfl (st' := []) rfl ?_
    refine B_blk B jlkX9_ok jcl_SKF [.aload_n 0, .getfield 20, .getfield 101, .iload_n 1, .bipush 8, .iload_n 3] (by decide +kernel) (ls' := [(0, jR 0), (1, jI v1), (2, jI v2), (3, jI v3), (4, jI v4)]) (st' := [jI v3, jI 8, jI v1, jR 4]) rfl (p1 := 81) rfl ?_
    obtain ⟨r6, h6, hf⟩ := jbd hf
    refine B_callV B (Nat.le_refl _) (μ' := r6) (k' := 2) (n' := 12) ca_X5_set in_X5_set se_X5_set lk_X9_117 (t_X5_set B.tr jcl_SKF ⟨rfl, rfl, by decide⟩ h6) (Nat.le_refl _) rfl rfl rfl (rest := []) rfl rfl (Nat.le_of_ble_eq_true rfl) (by decide +kernel) rfl rfl (st' := []) rfl ?_
    refine B_blk B jlkX9_ok jcl_SKF [.aload_n 0, .getfield 20, .getfield 101, .iload_n 1, .bipush 9, .iload 4] (by decide +kernel) (ls' := [(0, jR 0), (1, jI v1), (2, jI v2), (3, jI v3), (4, jI v4)]) (st' := [jI v4, jI 9, jI v1, jR 4]) rfl (p1 := 96) rfl ?_
    obtain ⟨r7, h7, hf⟩ := jbd hf
    refine B_callV B (Nat.le_refl _) (μ' := r7) (k' := 2) (n' := 12) ca_X5_set in_X5_set se_X5_set lk_X9_117 (t_X5_set B.tr jcl_SKF ⟨rfl, rfl, by decide⟩ h7) (Nat.le_refl _) rfl rfl rfl (rest := []) rfl rfl (Nat.le_of_ble_eq_true rfl) (by decide +kernel) rfl rfl (st' := []) rfl ?_
    cases hf
    exact B_retV B hq rfl (Nat.le_of_ble_eq_true rfl) (Nat.le_of_ble_eq_true rfl) (by decide +kernel)
theorem t_X9_wear_J52 {X : jX} (B : jB X cX9_wear RX9 5 SKF.length rm_X9_wear none) (hno : ∀ x ∈ (xc X).exceptionTable.toList, False) (v1 : Int) (v2 : Int) (v3 : Int) (v4 : Int) (m : jMu) (r : (jOut Unit)) (hf : f_X9_wear_J52 v1 v2 v3 v4 m = some r) (hq : jQ X (joV r) SKF (joM r) rm_X9_wear.cells rm_X9_wear.slots) : J X SKF m 1 6 52 [(0, jR 0), (1, jI v1), (2, jI v2), (3, jI v3), (4, jI v4)] [] := by
  unfold f_X9_wear_J52 at hf
  refine B_blk B jlkX9_ok jcl_SKF [.iconst 0] (by decide +kernel) (ls' := [(0, jR 0), (1, jI v1), (2, jI v2), (3, jI v3), (4, jI v4)]) (st' := [jI 0]) rfl (p1 := 53) rfl ?_
  exact t_X9_wear_J53 B hno v1 v2 v3 v4 0 m _ hf hq
theorem t_X9_wear {l : Launch} {G : jG} (hl : l.stackTraces = false) {a0 : Int} {a1 : Int} {a2 : Int} {a3 : Int} {m : jMu} {r : (jOut Unit)} (hf : f_X9_wear a0 a1 a2 a3 m = some r) : jCt l G yX9_wear (.code yX9_wear cX9_wear 5 none :: jWG) rm_X9_wear [jR 0, jI a0, jI a1, jI a2, jI a3] SKF m (joV r) SKF (joM r) := by
  unfold f_X9_wear at hf
  refine J_start (ls0 := [(0, jR 0), (1, jI a0), (2, jI a1), (3, jI a2), (4, jI a3)]) (by decide +kernel) hl (Nat.le_of_ble_eq_true rfl) rfl fun X C hN hn hR hr hnm hno hq => ?_
  have B : jB X cX9_wear RX9 5 SKF.length rm_X9_wear none := ⟨C, hN, Nat.le_of_eq hn, hR, hr⟩
  refine B_blk B jlkX9_ok jcl_SKF [.aload_n 0, .getfield 20, .getfield 101, .iload_n 1] (by decide +kernel) (ls' := [(0, jR 0), (1, jI a0), (2, jI a1), (3, jI a2), (4, jI a3)]) (st' := [jI a0, jR 4]) rfl (p1 := 8) rfl ?_
  obtain ⟨r1, h1, hf⟩ := jbd hf
  refine B_callV B (Nat.le_refl _) (μ' := m) (k' := 0) (n' := 0) ca_X5_has in_X5_has se_X5_has lk_X9_143 (t_X5_has B.tr jcl_SKF ⟨rfl, rfl, by decide⟩ h1) (Nat.le_refl _) rfl rfl rfl (rest := []) rfl rfl (Nat.le_of_ble_eq_true rfl) (by decide +kernel) rfl rfl (st' := [jI r1]) rfl ?_
  rcases jthr_s hf with ⟨e2, h2, hf⟩ | ⟨r2, h2, hf⟩
  · cases hf
    exact B_callST B (Nat.le_refl _) hno hq ca_X9_needIndex sa_X9_needIndex lk_X9_125 (t_X9_needIndex B.tr h2) (Nat.le_refl _) rfl (rest := []) rfl rfl (Nat.le_of_ble_eq_true rfl) (by decide +kernel) (Nat.le_of_ble_eq_true rfl) (Nat.le_of_ble_eq_true rfl)
  · refine B_callS B (Nat.le_refl _) (μ' := r2.2) (k' := 1) (n' := 6) ca_X9_needIndex sa_X9_needIndex lk_X9_125 (t_X9_needIndex B.tr h2) (Nat.le_refl _) rfl (rest := []) rfl rfl (Nat.le_of_ble_eq_true rfl) (by decide +kernel) rfl rfl (st' := []) rfl ?_
    refine B_blk B jlkX9_ok jcl_SKF [.iload_n 2, .iconst 0, .sipush 999] (by decide +kernel) (ls' := [(0, jR 0), (1, jI a0), (2, jI a1), (3, jI a2), (4, jI a3)]) (st' := [jI 999, jI 0, jI a1]) rfl (p1 := 19) rfl ?_
    obtain ⟨r3, h3, hf⟩ := jbd hf
    refine B_callS B (Nat.le_refl _) (μ' := r2.2) (k' := 1) (n' := 6) ca_X9_isIn sa_X9_isIn lk_X9_93 (t_X9_isIn B.tr jcl_SKF h3) (Nat.le_refl _) rfl (rest := []) rfl rfl (Nat.le_of_ble_eq_true rfl) (by decide +kernel) rfl rfl (st' := [jI r3]) rfl ?_
    refine J_if_eq B.1 (off := 30) (tgt := 52) (by decide +kernel) (by decide) hf (fun hf => ?_) (fun hf => ?_)
    · exact t_X9_wear_J52 B hno a0 a1 a2 a3 r2.2 _ hf hq
    · refine B_blk B jlkX9_ok jcl_SKF [.iload_n 3, .iconst 0, .sipush 999] (by decide +kernel) (ls' := [(0, jR 0), (1, jI a0), (2, jI a1), (3, jI a2), (4, jI a3)]) (st' := [jI 999, jI 0, jI a2]) rfl (p1 := 30) rfl ?_
      obtain ⟨r8, h8, hf⟩ := jbd hf
      refine B_callS B (Nat.le_refl _) (μ' := r2.2) (k' := 1) (n' := 6) ca_X9_isIn sa_X9_isIn lk_X9_93 (t_X9_isIn B.tr jcl_SKF h8) (Nat.le_refl _) rfl (rest := []) rfl rfl (Nat.le_of_ble_eq_true rfl) (by decide +kernel) rfl rfl (st' := [jI r8]) rfl ?_
      refine J_if_eq B.1 (off := 19) (tgt := 52) (by decide +kernel) (by decide) hf (fun hf => ?_) (fun hf => ?_)
      · exact t_X9_wear_J52 B hno a0 a1 a2 a3 r2.2 _ hf hq
      · refine B_blk B jlkX9_ok jcl_SKF [.iload 4, .iconst 0, .sipush 999] (by decide +kernel) (ls' := [(0, jR 0), (1, jI a0), (2, jI a1), (3, jI a2), (4, jI a3)]) (st' := [jI 999, jI 0, jI a3]) rfl (p1 := 42) rfl ?_
        obtain ⟨r9, h9, hf⟩ := jbd hf
        refine B_callS B (Nat.le_refl _) (μ' := r2.2) (k' := 1) (n' := 6) ca_X9_isIn sa_X9_isIn lk_X9_93 (t_X9_isIn B.tr jcl_SKF h9) (Nat.le_refl _) rfl (rest := []) rfl rfl (Nat.le_of_ble_eq_true rfl) (by decide +kernel) rfl rfl (st' := [jI r9]) rfl ?_
        refine J_if_eq B.1 (off := 7) (tgt := 52) (by decide +kernel) (by decide) hf (fun hf => ?_) (fun hf => ?_)
        · exact t_X9_wear_J52 B hno a0 a1 a2 a3 r2.2 _ hf hq
        · refine B_blk B jlkX9_ok jcl_SKF [.iconst 1, .goto 4] (by decide +kernel) (ls' := [(0, jR 0), (1, jI a0), (2, jI a1), (3, jI a2), (4, jI a3)]) (st' := [jI 1]) rfl (p1 := 53) rfl ?_
          exact t_X9_wear_J53 B hno a0 a1 a2 a3 1 r2.2 _ hf hq

def rm_X2_addBay : Room := { frames := 4, cells := 0, slots := 0, locals := 87 }
def f_X2_addBay_L25 : Nat → Int → Int → Int → Int → Int → jMu → Option (Int × Int × Int × Int × jMu)
  | 0, _, _, _, _, _, _ => none
  | q + 1, v1, v2, v4, v5, v6, m => (if 2 < v6 then some (v1, v2, v4, v5, m) else (f_X5_get 4 5 80 v1 (jW (4 + v6)) m).bind fun r1 => (if jW (v4 - r1) < 0 then f_X2_addBay_L25 q v1 v2 v4 v5 (jW (v6 + 1)) m else (if v4 < jW (v4 - r1) then f_X2_addBay_L25 q v1 v2 v4 v5 (jW (v6 + 1)) m else (f_X5_get 4 5 80 v1 (jW (7 + v6)) m).bind fun r2 => (if 0 ≤ jW (v4 - r1) ∧ jW (v4 - r1) < 501 then (jlt ((if jW (jW (m 73 (jW (v4 - r1)) + jW (r2 * 6561)) + jW (v6 * v2)) < v5 then jW (jW (m 73 (jW (v4 - r1)) + jW (r2 * 6561)) + jW (v6 * v2)) else v5)) fun x3 => f_X2_addBay_L25 q v1 v2 v4 x3 (jW (v6 + 1)) m) else none))))
def f_X2_addBay_L13 : Nat → Int → Int → Int → jMu → Option jMu
  | 0, _, _, _, _ => none
  | q + 1, v1, v2, v4, m => (if v4 < 0 then some m else (f_X2_addBay_L25 jFU v1 v2 v4 1000000000 0 m).bind fun r5 => (if 0 ≤ r5.2.2.1 ∧ r5.2.2.1 < 501 then (jlt (jup r5.2.2.2.2 73 r5.2.2.1 r5.2.2.2.1) fun m6 => f_X2_addBay_L13 q r5.1 r5.2.1 (jW (r5.2.2.1 + (-1))) m6) else none))
def f_X2_addBay (a0 : Int) (a1 : Int) (a2 : Int) (m : jMu) : Option jMu :=
  f_X2_addBay_L13 jFU a0 a1 (if 500 < a2 then 500 else a2) m
theorem t_X2_addBay_L25 {X : jX} (B : jB X cX2_addBay RX2 9 SKF.length rm_X2_addBay none) : ∀ (q : Nat) (v1 : Int) (v2 : Int) (v4 : Int) (v5 : Int) (v6 : Int) (m : jMu) (o : (Int × Int × Int × Int × jMu)), f_X2_addBay_L25 q v1 v2 v4 v5 v6 m = some o → J X SKF o.2.2.2.2 0 0 113 [(0, jR 72), (1, jI o.1), (2, jI o.2.1), (4, jI o.2.2.1), (5, jI o.2.2.2.1)] [] → J X SKF m 0 0 25 [(0, jR 72), (1, jI v1), (2, jI v2), (4, jI v4), (5, jI v5), (6, jI v6)] [] := by
  intro q
  induction q with
  | zero =>
    intro v1 v2 v4 v5 v6 m o hf
    rw [f_X2_addBay_L25] at hf
    cases hf
  | succ q ih =>
    intro v1 v2 v4 v5 v6 m o hf hx
    rw [f_X2_addBay_L25] at hf
    refine B_blk B jlkX2_ok jcl_SKF [.iload 6, .iconst 2] (by decide +kernel) (ls' := [(0, jR 72), (1, jI v1), (2, jI v2), (4, jI v4), (5, jI v5), (6, jI v6)]) (st' := [jI 2, jI v6]) rfl (p1 := 28) rfl ?_
    refine J_icmp_gt B.1 (off := 85) (tgt := 113) (by decide +kernel) (by decide) hf (fun hf => ?_) (fun hf => ?_)
    · refine J_pick [0, 1, 2, 3, 4] (ls' := [(0, jR 72), (1, jI v1), (2, jI v2), (4, jI v4), (5, jI v5)]) rfl ?_
      cases hf
      exact hx
    · refine B_blk B jlkX2_ok jcl_SKF [.iload 4, .aload_n 0, .getfield 9, .getfield 25, .iload_n 1, .iconst 4, .iload 6, .iadd] (by decide +kernel) (ls' := [(0, jR 72), (1, jI v1), (2, jI v2), (4, jI v4), (5, jI v5), (6, jI v6)]) (st' := [jI (jW (4 + v6)), jI v1, jR 4, jI v4]) rfl (p1 := 45) rfl ?_
      obtain ⟨r1, h1, hf⟩ := jbd hf
      refine B_callV B (Nat.le_refl _) (μ' := m) (k' := 0) (n' := 0) ca_X5_get in_X5_get se_X5_get lk_X2_48 (t_X5_get B.tr jcl_SKF ⟨rfl, rfl, by decide⟩ h1) (Nat.le_refl _) rfl rfl rfl (rest := [jI v4]) rfl rfl (Nat.le_of_ble_eq_true rfl) (by decide +kernel) rfl rfl (st' := [jI r1, jI v4]) rfl ?_
      refine B_blk B jlkX2_ok jcl_SKF [.isub, .istore 7, .iload 7] (by decide +kernel) (ls' := [(0, jR 72), (1, jI v1), (2, jI v2), (4, jI v4), (5, jI v5), (6, jI v6), (7, jI (jW (v4 - r1)))]) (st' := [jI (jW (v4 - r1))]) rfl (p1 := 53) rfl ?_
      refine J_if_lt B.1 (off := 54) (tgt := 107) (by decide +kernel) (by decide) hf (fun hf => ?_) (fun hf => ?_)
      · refine B_blk B jlkX2_ok jcl_SKF [.iinc 6 1, .goto (-85)] (by decide +kernel) (ls' := [(0, jR 72), (1, jI v1), (2, jI v2), (4, jI v4), (5, jI v5), (6, jI (jW (v6 + 1))), (7, jI (jW (v4 - r1)))]) (st' := []) rfl (p1 := 25) rfl ?_
        refine J_pick [0, 1, 2, 3, 4, 5] (ls' := [(0, jR 72), (1, jI v1), (2, jI v2), (4, jI v4), (5, jI v5), (6, jI (jW (v6 + 1)))]) rfl ?_
        exact ih v1 v2 v4 v5 (jW (v6 + 1)) m _ hf hx
      · refine B_blk B jlkX2_ok jcl_SKF [.iload 7, .iload 4] (by decide +kernel) (ls' := [(0, jR 72), (1, jI v1), (2, jI v2), (4, jI v4), (5, jI v5), (6, jI v6), (7, jI (jW (v4 - r1)))]) (st' := [jI v4, jI (jW (v4 - r1))]) rfl (p1 := 60) rfl ?_
        refine J_icmp_gt B.1 (off := 47) (tgt := 107) (by decide +kernel) (by decide) hf (fun hf => ?_) (fun hf => ?_)
        · refine B_blk B jlkX2_ok jcl_SKF [.iinc 6 1, .goto (-85)] (by decide +kernel) (ls' := [(0, jR 72), (1, jI v1), (2, jI v2), (4, jI v4), (5, jI v5), (6, jI (jW (v6 + 1))), (7, jI (jW (v4 - r1)))]) (st' := []) rfl (p1 := 25) rfl ?_
          refine J_pick [0, 1, 2, 3, 4, 5] (ls' := [(0, jR 72), (1, jI v1), (2, jI v2), (4, jI v4), (5, jI v5), (6, jI (jW (v6 + 1)))]) rfl ?_
          exact ih v1 v2 v4 v5 (jW (v6 + 1)) m _ hf hx
        · refine B_blk B jlkX2_ok jcl_SKF [.aload_n 0, .getfield 9, .getfield 25, .iload_n 1, .bipush 7, .iload 6, .iadd] (by decide +kernel) (ls' := [(0, jR 72), (1, jI v1), (2, jI v2), (4, jI v4), (5, jI v5), (6, jI v6), (7, jI (jW (v4 - r1)))]) (st' := [jI (jW (7 + v6)), jI v1, jR 4]) rfl (p1 := 76) rfl ?_
          obtain ⟨r2, h2, hf⟩ := jbd hf
          refine B_callV B (Nat.le_refl _) (μ' := m) (k' := 0) (n' := 0) ca_X5_get in_X5_get se_X5_get lk_X2_48 (t_X5_get B.tr jcl_SKF ⟨rfl, rfl, by decide⟩ h2) (Nat.le_refl _) rfl rfl rfl (rest := []) rfl rfl (Nat.le_of_ble_eq_true rfl) (by decide +kernel) rfl rfl (st' := [jI r2]) rfl ?_
          refine B_blk B jlkX2_ok jcl_SKF [.istore 8, .iload 5, .aload_n 0, .getfield 15, .iload 7] (by decide +kernel) (ls' := [(0, jR 72), (1, jI v1), (2, jI v2), (4, jI v4), (5, jI v5), (6, jI v6), (7, jI (jW (v4 - r1))), (8, jI r2)]) (st' := [jI (jW (v4 - r1)), jR 73, jI v5]) rfl (p1 := 89) rfl ?_
          obtain ⟨g4, hf⟩ := jgd hf
          refine K_iald (lenI := 501) B rfl rfl g4 (by decide +kernel) ?_
          refine B_blk B jlkX2_ok jcl_SKF [.iload 8, .sipush 6561, .imul, .iadd, .iload 6, .iload_n 2, .imul, .iadd] (by decide +kernel) (ls' := [(0, jR 72), (1, jI v1), (2, jI v2), (4, jI v4), (5, jI v5), (6, jI v6), (7, jI (jW (v4 - r1))), (8, jI r2)]) (st' := [jI (jW (jW (m 73 (jW (v4 - r1)) + jW (r2 * 6561)) + jW (v6 * v2))), jI v5]) rfl (p1 := 102) rfl ?_
          refine J_min B.1 lk_X2_41 sa_min ii_J9 jca_min B.2.2.2.1 (Nat.le_of_ble_eq_true rfl) (Nat.le_of_ble_eq_true rfl) (Nat.le_of_ble_eq_true rfl) (Nat.le_of_ble_eq_true rfl) (by decide +kernel) ?_
          refine B_blk B jlkX2_ok jcl_SKF [.istore 5] (by decide +kernel) (ls' := [(0, jR 72), (1, jI v1), (2, jI v2), (4, jI v4), (5, jI (if jW (jW (m 73 (jW (v4 - r1)) + jW (r2 * 6561)) + jW (v6 * v2)) < v5 then jW (jW (m 73 (jW (v4 - r1)) + jW (r2 * 6561)) + jW (v6 * v2)) else v5)), (6, jI v6), (7, jI (jW (v4 - r1))), (8, jI r2)]) (st' := []) rfl (p1 := 107) rfl ?_
          obtain ⟨x3, hx3, hf⟩ := jlt_s hf
          rw [hx3]
          refine B_blk B jlkX2_ok jcl_SKF [.iinc 6 1, .goto (-85)] (by decide +kernel) (ls' := [(0, jR 72), (1, jI v1), (2, jI v2), (4, jI v4), (5, jI x3), (6, jI (jW (v6 + 1))), (7, jI (jW (v4 - r1))), (8, jI r2)]) (st' := []) rfl (p1 := 25) rfl ?_
          refine J_pick [0, 1, 2, 3, 4, 5] (ls' := [(0, jR 72), (1, jI v1), (2, jI v2), (4, jI v4), (5, jI x3), (6, jI (jW (v6 + 1)))]) rfl ?_
          exact ih v1 v2 v4 x3 (jW (v6 + 1)) m _ hf hx
theorem t_X2_addBay_L13 {X : jX} (B : jB X cX2_addBay RX2 9 SKF.length rm_X2_addBay none) : ∀ (q : Nat) (v1 : Int) (v2 : Int) (v4 : Int) (m : jMu) (r : jMu), f_X2_addBay_L13 q v1 v2 v4 m = some r → jQ X (.inl none) SKF r rm_X2_addBay.cells rm_X2_addBay.slots → J X SKF m 0 0 13 [(0, jR 72), (1, jI v1), (2, jI v2), (4, jI v4)] [] := by
  intro q
  induction q with
  | zero =>
    intro v1 v2 v4 m r hf
    rw [f_X2_addBay_L13] at hf
    cases hf
  | succ q ih =>
    intro v1 v2 v4 m r hf hq
    rw [f_X2_addBay_L13] at hf
    refine B_blk B jlkX2_ok jcl_SKF [.iload 4] (by decide +kernel) (ls' := [(0, jR 72), (1, jI v1), (2, jI v2), (4, jI v4)]) (st' := [jI v4]) rfl (p1 := 15) rfl ?_
    refine J_if_lt B.1 (off := 113) (tgt := 128) (by decide +kernel) (by decide) hf (fun hf => ?_) (fun hf => ?_)
    · cases hf
      exact B_retV B hq rfl (Nat.le_of_ble_eq_true rfl) (Nat.le_of_ble_eq_true rfl) (by decide +kernel)
    · refine J_ldc (z := 1000000000) B.1 co_X2_47 (by decide) (by unfold jIn; omega) (by decide +kernel) ?_
      refine B_blk B jlkX2_ok jcl_SKF [.istore 5, .iconst 0, .istore 6] (by decide +kernel) (ls' := [(0, jR 72), (1, jI v1), (2, jI v2), (4, jI v4), (5, jI 1000000000), (6, jI 0)]) (st' := []) rfl (p1 := 25) rfl ?_
      obtain ⟨r5, h5, hf⟩ := jbd hf
      refine t_X2_addBay_L25 B jFU v1 v2 v4 1000000000 0 m _ h5 ?_
      refine B_blk B jlkX2_ok jcl_SKF [.aload_n 0, .getfield 15, .iload 4, .iload 5] (by decide +kernel) (ls' := [(0, jR 72), (1, jI r5.1), (2, jI r5.2.1), (4, jI r5.2.2.1), (5, jI r5.2.2.2.1)]) (st' := [jI r5.2.2.2.1, jI r5.2.2.1, jR 73]) rfl (p1 := 121) rfl ?_
      obtain ⟨g7, hf⟩ := jgd hf
      refine K_iast (lenI := 501) B rfl rfl g7 (by decide +kernel) ?_
      obtain ⟨m6, hm6, hf⟩ := jlt_s hf
      rw [hm6]
      refine B_blk B jlkX2_ok jcl_SKF [.iinc 4 (-1), .goto (-112)] (by decide +kernel) (ls' := [(0, jR 72), (1, jI r5.1), (2, jI r5.2.1), (4, jI (jW (r5.2.2.1 + (-1)))), (5, jI r5.2.2.2.1)]) (st' := []) rfl (p1 := 13) rfl ?_
      refine J_pick [0, 1, 2, 3] (ls' := [(0, jR 72), (1, jI r5.1), (2, jI r5.2.1), (4, jI (jW (r5.2.2.1 + (-1))))]) rfl ?_
      exact ih r5.1 r5.2.1 (jW (r5.2.2.1 + (-1))) m6 _ hf hq
theorem t_X2_addBay {l : Launch} {G : jG} (hl : l.stackTraces = false) {a0 : Int} {a1 : Int} {a2 : Int} {m : jMu} {r : jMu} (hf : f_X2_addBay a0 a1 a2 m = some r) : jCt l G yX2_addBay (.code yX2_addBay cX2_addBay 9 none :: jWG) rm_X2_addBay [jR 72, jI a0, jI a1, jI a2] SKF m (.inl none) SKF r := by
  unfold f_X2_addBay at hf
  refine J_start (ls0 := [(0, jR 72), (1, jI a0), (2, jI a1), (3, jI a2)]) (by decide +kernel) hl (Nat.le_of_ble_eq_true rfl) rfl fun X C hN hn hR hr hnm hno hq => ?_
  have B : jB X cX2_addBay RX2 9 SKF.length rm_X2_addBay none := ⟨C, hN, Nat.le_of_eq hn, hR, hr⟩
  refine B_blk B jlkX2_ok jcl_SKF [.iload_n 3, .aload_n 0, .getfield 15, .arraylength, .iconst 1, .isub] (by decide +kernel) (ls' := [(0, jR 72), (1, jI a0), (2, jI a1), (3, jI a2)]) (st' := [jI 500, jI a2]) rfl (p1 := 8) rfl ?_
  refine J_min B.1 lk_X2_41 sa_min ii_J9 jca_min B.2.2.2.1 (Nat.le_of_ble_eq_true rfl) (Nat.le_of_ble_eq_true rfl) (Nat.le_of_ble_eq_true rfl) (Nat.le_of_ble_eq_true rfl) (by decide +kernel) ?_
  refine B_blk B jlkX2_ok jcl_SKF [.istore 4] (by decide +kernel) (ls' := [(0, jR 72), (1, jI a0), (2, jI a1), (3, jI a2), (4, jI (if 500 < a2 then 500 else a2))]) (st' := []) rfl (p1 := 13) rfl ?_
  refine J_pick [0, 1, 2, 4] (ls' := [(0, jR 72), (1, jI a0), (2, jI a1), (4, jI (if 500 < a2 then 500 else a2))]) rfl ?_
  exact t_X2_addBay_L13 B jFU a0 a1 (if 500 < a2 then 500 else a2) m _ hf hq

def rm_X2_coatsFor : Room := { frames := 6, cells := 0, slots := 0, locals := 115 }
def f_X2_coatsFor_J83 (v2 : Int) (v4 : Int) (s0 : Int) (m : jMu) : Option (Int × jMu) :=
  (if v2 = (-1) then some (jDv s0 6561, m) else (if 1 ≤ v4 then (if v4 ≠ 0 then some (jRm (jDv (jRm s0 6561) v4) 3, m) else none) else some (jDv s0 6561, m)))
def f_X2_coatsFor_J82 (v2 : Int) (v4 : Int) (m : jMu) : Option (Int × jMu) :=
  f_X2_coatsFor_J83 v2 v4 0 m
def f_X2_coatsFor_L18 : Nat → Int → Int → Int → Int → Int → jMu → Option (Int × jMu)
  | 0, _, _, _, _, _, _ => none
  | q + 1, v1, v2, v3, v4, v5, m => (f_X5_size 4 5 80 m).bind fun r2 => (if r2 ≤ v5 then (if v1 < 0 then f_X2_coatsFor_J82 v2 v4 m else (if 501 ≤ v1 then f_X2_coatsFor_J82 v2 v4 m else (if 0 ≤ v1 ∧ v1 < 501 then f_X2_coatsFor_J83 v2 v4 (m 73 v1) m else none))) else (f_X2_addBay v5 v3 v1 m).bind fun r5 => (if v5 = v2 then f_X2_coatsFor_L18 q v1 v2 (jDv v3 3) v3 (jW (v5 + 1)) r5 else f_X2_coatsFor_L18 q v1 v2 (jDv v3 3) v4 (jW (v5 + 1)) r5))
def f_X2_coatsFor (a0 : Int) (a1 : Int) (m : jMu) : Option (Int × jMu) :=
  (f_J7_fill_53178 73 501 0 m).bind fun r1 => f_X2_coatsFor_L18 jFU a0 a1 2187 1 0 r1
theorem t_X2_coatsFor_J83 {X : jX} (B : jB X cX2_coatsFor RX2 6 SKF.length rm_X2_coatsFor (some .int)) (v2 : Int) (v4 : Int) (s0 : Int) (m : jMu) (r : (Int × jMu)) (hf : f_X2_coatsFor_J83 v2 v4 s0 m = some r) (hq : jQ X (.inl (some (jI r.1))) SKF r.2 rm_X2_coatsFor.cells rm_X2_coatsFor.slots) : J X SKF m 0 0 83 [(2, jI v2), (4, jI v4)] [jI s0] := by
  unfold f_X2_coatsFor_J83 at hf
  refine B_blk B jlkX2_ok jcl_SKF [.istore 5, .iload_n 2, .iconst (-1)] (by decide +kernel) (ls' := [(2, jI v2), (4, jI v4), (5, jI s0)]) (st' := [jI (-1), jI v2]) rfl (p1 := 87) rfl ?_
  refine J_icmp_eq B.1 (off := 9) (tgt := 96) (by decide +kernel) (by decide) hf (fun hf => ?_) (fun hf => ?_)
  · refine B_blk B jlkX2_ok jcl_SKF [.iload 5, .sipush 6561] (by decide +kernel) (ls' := [(2, jI v2), (4, jI v4), (5, jI s0)]) (st' := [jI 6561, jI s0]) rfl (p1 := 101) rfl ?_
    refine K_idiv B (by decide) (by decide +kernel) ?_
    cases hf
    exact B_retI B hq rfl (Nat.le_of_ble_eq_true rfl) (Nat.le_of_ble_eq_true rfl) (by decide +kernel)
  · refine B_blk B jlkX2_ok jcl_SKF [.iload 4, .iconst 1] (by decide +kernel) (ls' := [(2, jI v2), (4, jI v4), (5, jI s0)]) (st' := [jI 1, jI v4]) rfl (p1 := 93) rfl ?_
    refine J_icmp_ge B.1 (off := 10) (tgt := 103) (by decide +kernel) (by decide) hf (fun hf => ?_) (fun hf => ?_)
    · refine B_blk B jlkX2_ok jcl_SKF [.iload 5, .sipush 6561] (by decide +kernel) (ls' := [(2, jI v2), (4, jI v4), (5, jI s0)]) (st' := [jI 6561, jI s0]) rfl (p1 := 108) rfl ?_
      refine K_irem B (by decide) (by decide +kernel) ?_
      refine B_blk B jlkX2_ok jcl_SKF [.iload 4] (by decide +kernel) (ls' := [(2, jI v2), (4, jI v4), (5, jI s0)]) (st' := [jI v4, jI (jRm s0 6561)]) rfl (p1 := 111) rfl ?_
      obtain ⟨g3, hf⟩ := jgd hf
      refine K_idiv B g3 (by decide +kernel) ?_
      refine B_blk B jlkX2_ok jcl_SKF [.iconst 3] (by decide +kernel) (ls' := [(2, jI v2), (4, jI v4), (5, jI s0)]) (st' := [jI 3, jI (jDv (jRm s0 6561) v4)]) rfl (p1 := 113) rfl ?_
      refine K_irem B (by decide) (by decide +kernel) ?_
      cases hf
      exact B_retI B hq rfl (Nat.le_of_ble_eq_true rfl) (Nat.le_of_ble_eq_true rfl) (by decide +kernel)
    · refine B_blk B jlkX2_ok jcl_SKF [.iload 5, .sipush 6561] (by decide +kernel) (ls' := [(2, jI v2), (4, jI v4), (5, jI s0)]) (st' := [jI 6561, jI s0]) rfl (p1 := 101) rfl ?_
      refine K_idiv B (by decide) (by decide +kernel) ?_
      cases hf
      exact B_retI B hq rfl (Nat.le_of_ble_eq_true rfl) (Nat.le_of_ble_eq_true rfl) (by decide +kernel)
theorem t_X2_coatsFor_J82 {X : jX} (B : jB X cX2_coatsFor RX2 6 SKF.length rm_X2_coatsFor (some .int)) (v2 : Int) (v4 : Int) (m : jMu) (r : (Int × jMu)) (hf : f_X2_coatsFor_J82 v2 v4 m = some r) (hq : jQ X (.inl (some (jI r.1))) SKF r.2 rm_X2_coatsFor.cells rm_X2_coatsFor.slots) : J X SKF m 0 0 82 [(2, jI v2), (4, jI v4)] [] := by
  unfold f_X2_coatsFor_J82 at hf
  refine B_blk B jlkX2_ok jcl_SKF [.iconst 0] (by decide +kernel) (ls' := [(2, jI v2), (4, jI v4)]) (st' := [jI 0]) rfl (p1 := 83) rfl ?_
  exact t_X2_coatsFor_J83 B v2 v4 0 m _ hf hq
theorem t_X2_coatsFor_L18 {X : jX} (B : jB X cX2_coatsFor RX2 6 SKF.length rm_X2_coatsFor (some .int)) : ∀ (q : Nat) (v1 : Int) (v2 : Int) (v3 : Int) (v4 : Int) (v5 : Int) (m : jMu) (r : (Int × jMu)), f_X2_coatsFor_L18 q v1 v2 v3 v4 v5 m = some r → jQ X (.inl (some (jI r.1))) SKF r.2 rm_X2_coatsFor.cells rm_X2_coatsFor.slots → J X SKF m 0 0 18 [(0, jR 72), (1, jI v1), (2, jI v2), (3, jI v3), (4, jI v4), (5, jI v5)] [] := by
  intro q
  induction q with
  | zero =>
    intro v1 v2 v3 v4 v5 m r hf
    rw [f_X2_coatsFor_L18] at hf
    cases hf
  | succ q ih =>
    intro v1 v2 v3 v4 v5 m r hf hq
    rw [f_X2_coatsFor_L18] at hf
    refine B_blk B jlkX2_ok jcl_SKF [.iload 5, .aload_n 0, .getfield 9, .getfield 25] (by decide +kernel) (ls' := [(0, jR 72), (1, jI v1), (2, jI v2), (3, jI v3), (4, jI v4), (5, jI v5)]) (st' := [jR 4, jI v5]) rfl (p1 := 27) rfl ?_
    obtain ⟨r2, h2, hf⟩ := jbd hf
    refine B_callV B (Nat.le_refl _) (μ' := m) (k' := 0) (n' := 0) ca_X5_size in_X5_size se_X5_size lk_X2_31 (t_X5_size B.tr jcl_SKF ⟨rfl, rfl, by decide⟩ h2) (Nat.le_refl _) rfl rfl rfl (rest := [jI v5]) rfl rfl (Nat.le_of_ble_eq_true rfl) (by decide +kernel) rfl rfl (st' := [jI r2, jI v5]) rfl ?_
    refine J_icmp_ge B.1 (off := 30) (tgt := 60) (by decide +kernel) (by decide) hf (fun hf => ?_) (fun hf => ?_)
    · refine B_blk B jlkX2_ok jcl_SKF [.iload_n 1] (by decide +kernel) (ls' := [(0, jR 72), (1, jI v1), (2, jI v2), (3, jI v3), (4, jI v4), (5, jI v5)]) (st' := [jI v1]) rfl (p1 := 61) rfl ?_
      refine J_if_lt B.1 (off := 21) (tgt := 82) (by decide +kernel) (by decide) hf (fun hf => ?_) (fun hf => ?_)
      · refine J_pick [2, 4] (ls' := [(2, jI v2), (4, jI v4)]) rfl ?_
        exact t_X2_coatsFor_J82 B v2 v4 m _ hf hq
      · refine B_blk B jlkX2_ok jcl_SKF [.iload_n 1, .aload_n 0, .getfield 15, .arraylength] (by decide +kernel) (ls' := [(0, jR 72), (1, jI v1), (2, jI v2), (3, jI v3), (4, jI v4), (5, jI v5)]) (st' := [jI 501, jI v1]) rfl (p1 := 70) rfl ?_
        refine J_icmp_ge B.1 (off := 12) (tgt := 82) (by decide +kernel) (by decide) hf (fun hf => ?_) (fun hf => ?_)
        · refine J_pick [2, 4] (ls' := [(2, jI v2), (4, jI v4)]) rfl ?_
          exact t_X2_coatsFor_J82 B v2 v4 m _ hf hq
        · refine B_blk B jlkX2_ok jcl_SKF [.aload_n 0, .getfield 15, .iload_n 1] (by decide +kernel) (ls' := [(0, jR 72), (1, jI v1), (2, jI v2), (3, jI v3), (4, jI v4), (5, jI v5)]) (st' := [jI v1, jR 73]) rfl (p1 := 78) rfl ?_
          obtain ⟨g4, hf⟩ := jgd hf
          refine K_iald (lenI := 501) B rfl rfl g4 (by decide +kernel) ?_
          refine B_blk B jlkX2_ok jcl_SKF [.goto 4] (by decide +kernel) (ls' := [(0, jR 72), (1, jI v1), (2, jI v2), (3, jI v3), (4, jI v4), (5, jI v5)]) (st' := [jI (m 73 v1)]) rfl (p1 := 83) rfl ?_
          refine J_pick [2, 4] (ls' := [(2, jI v2), (4, jI v4)]) rfl ?_
          exact t_X2_coatsFor_J83 B v2 v4 (m 73 v1) m _ hf hq
    · refine B_blk B jlkX2_ok jcl_SKF [.aload_n 0, .iload 5, .iload_n 3, .iload_n 1] (by decide +kernel) (ls' := [(0, jR 72), (1, jI v1), (2, jI v2), (3, jI v3), (4, jI v4), (5, jI v5)]) (st' := [jI v1, jI v3, jI v5, jR 72]) rfl (p1 := 38) rfl ?_
      obtain ⟨r5, h5, hf⟩ := jbd hf
      refine B_callV B (Nat.le_refl _) (μ' := r5) (k' := 0) (n' := 0) ca_X2_addBay in_X2_addBay se_X2_addBay lk_X2_37 (t_X2_addBay B.tr h5) (Nat.le_refl _) rfl rfl rfl (rest := []) rfl rfl (Nat.le_of_ble_eq_true rfl) (by decide +kernel) rfl rfl (st' := []) rfl ?_
      refine B_blk B jlkX2_ok jcl_SKF [.iload 5, .iload_n 2] (by decide +kernel) (ls' := [(0, jR 72), (1, jI v1), (2, jI v2), (3, jI v3), (4, jI v4), (5, jI v5)]) (st' := [jI v2, jI v5]) rfl (p1 := 44) rfl ?_
      refine J_icmp_ne B.1 (off := 6) (tgt := 50) (by decide +kernel) (by decide) hf (fun hf => ?_) (fun hf => ?_)
      · refine B_blk B jlkX2_ok jcl_SKF [.iload_n 3, .istore 4, .iload_n 3, .iconst 3] (by decide +kernel) (ls' := [(0, jR 72), (1, jI v1), (2, jI v2), (3, jI v3), (4, jI v3), (5, jI v5)]) (st' := [jI 3, jI v3]) rfl (p1 := 52) rfl ?_
        refine K_idiv B (by decide) (by decide +kernel) ?_
        refine B_blk B jlkX2_ok jcl_SKF [.istore_n 3, .iinc 5 1, .goto (-39)] (by decide +kernel) (ls' := [(0, jR 72), (1, jI v1), (2, jI v2), (3, jI (jDv v3 3)), (4, jI v3), (5, jI (jW (v5 + 1)))]) (st' := []) rfl (p1 := 18) rfl ?_
        exact ih v1 v2 (jDv v3 3) v3 (jW (v5 + 1)) r5 _ hf hq
      · refine B_blk B jlkX2_ok jcl_SKF [.iload_n 3, .iconst 3] (by decide +kernel) (ls' := [(0, jR 72), (1, jI v1), (2, jI v2), (3, jI v3), (4, jI v4), (5, jI v5)]) (st' := [jI 3, jI v3]) rfl (p1 := 52) rfl ?_
        refine K_idiv B (by decide) (by decide +kernel) ?_
        refine B_blk B jlkX2_ok jcl_SKF [.istore_n 3, .iinc 5 1, .goto (-39)] (by decide +kernel) (ls' := [(0, jR 72), (1, jI v1), (2, jI v2), (3, jI (jDv v3 3)), (4, jI v4), (5, jI (jW (v5 + 1)))]) (st' := []) rfl (p1 := 18) rfl ?_
        exact ih v1 v2 (jDv v3 3) v4 (jW (v5 + 1)) r5 _ hf hq
theorem t_X2_coatsFor {l : Launch} {G : jG} (hl : l.stackTraces = false) {a0 : Int} {a1 : Int} {m : jMu} {r : (Int × jMu)} (hf : f_X2_coatsFor a0 a1 m = some r) : jCt l G yX2_coatsFor (.code yX2_coatsFor cX2_coatsFor 6 (some .int) :: jWG) rm_X2_coatsFor [jR 72, jI a0, jI a1] SKF m (.inl (some (jI r.1))) SKF r.2 := by
  unfold f_X2_coatsFor at hf
  refine J_start (ls0 := [(0, jR 72), (1, jI a0), (2, jI a1)]) (by decide +kernel) hl (Nat.le_of_ble_eq_true rfl) rfl fun X C hN hn hR hr hnm hno hq => ?_
  have B : jB X cX2_coatsFor RX2 6 SKF.length rm_X2_coatsFor (some .int) := ⟨C, hN, Nat.le_of_eq hn, hR, hr⟩
  refine B_blk B jlkX2_ok jcl_SKF [.aload_n 0, .getfield 15, .iconst 0] (by decide +kernel) (ls' := [(0, jR 72), (1, jI a0), (2, jI a1)]) (st' := [jI 0, jR 73]) rfl (p1 := 5) rfl ?_
  obtain ⟨r1, h1, hf⟩ := jbd hf
  refine B_callS B (Nat.le_refl _) (μ' := r1) (k' := 0) (n' := 0) ca_J7_fill_53178 sa_J7_fill_53178 lk_X2_19 (t_J7_fill_53178 B.tr jcl_SKF ⟨rfl, by decide⟩ h1) (Nat.le_refl _) rfl (rest := []) rfl rfl (Nat.le_of_ble_eq_true rfl) (by decide +kernel) rfl rfl (st' := []) rfl ?_
  refine B_blk B jlkX2_ok jcl_SKF [.sipush 2187, .istore_n 3, .iconst 1, .istore 4, .iconst 0, .istore 5] (by decide +kernel) (ls' := [(0, jR 72), (1, jI a0), (2, jI a1), (3, jI 2187), (4, jI 1), (5, jI 0)]) (st' := []) rfl (p1 := 18) rfl ?_
  exact t_X2_coatsFor_L18 B jFU a0 a1 2187 1 0 r1 _ hf hq

def rm_X9_spent : Room := { frames := 9, cells := 2, slots := 12, locals := 140 }
def f_X9_spent (a0 : Int) (a1 : Int) (m : jMu) : Option (jOut Int) :=
  (if a1 = (-1) then jthr (f_X9_needIndex 1 m) fun r1 => (f_X9_isIn a0 0 500).bind fun r2 => jthr (f_X9_needArgument r2 r1.2) fun r3 => (f_X2_coatsFor a0 a1 r3.2).bind fun r4 => some (.inr (r4.1, r4.2)) else (f_X5_has 4 5 80 a1 m).bind fun r5 => (if r5 = 0 then jthr (f_X9_needIndex 0 m) fun r6 => (f_X9_isIn a0 0 500).bind fun r7 => jthr (f_X9_needArgument r7 r6.2) fun r8 => (f_X2_coatsFor a0 a1 r8.2).bind fun r9 => some (.inr (r9.1, r9.2)) else jthr (f_X9_needIndex 1 m) fun r10 => (f_X9_isIn a0 0 500).bind fun r11 => jthr (f_X9_needArgument r11 r10.2) fun r12 => (f_X2_coatsFor a0 a1 r12.2).bind fun r13 => some (.inr (r13.1, r13.2))))
theorem t_X9_spent {l : Launch} {G : jG} (hl : l.stackTraces = false) {a0 : Int} {a1 : Int} {m : jMu} {r : (jOut Int)} (hf : f_X9_spent a0 a1 m = some r) : jCt l G yX9_spent (.code yX9_spent cX9_spent 3 (some .int) :: jWG) rm_X9_spent [jR 0, jI a0, jI a1] SKF m (joI r) SKF (joM r) := by
  unfold f_X9_spent at hf
  refine J_start (ls0 := [(0, jR 0), (1, jI a0), (2, jI a1)]) (by decide +kernel) hl (Nat.le_of_ble_eq_true rfl) rfl fun X C hN hn hR hr hnm hno hq => ?_
  have B : jB X cX9_spent RX9 3 SKF.length rm_X9_spent (some .int) := ⟨C, hN, Nat.le_of_eq hn, hR, hr⟩
  refine B_blk B jlkX9_ok jcl_SKF [.iload_n 2, .iconst (-1)] (by decide +kernel) (ls' := [(0, jR 0), (1, jI a0), (2, jI a1)]) (st' := [jI (-1), jI a1]) rfl (p1 := 2) rfl ?_
  refine J_icmp_eq B.1 (off := 17) (tgt := 19) (by decide +kernel) (by decide) hf (fun hf => ?_) (fun hf => ?_)
  · refine B_blk B jlkX9_ok jcl_SKF [.iconst 1, .goto 4] (by decide +kernel) (ls' := [(0, jR 0), (1, jI a0), (2, jI a1)]) (st' := [jI 1]) rfl (p1 := 24) rfl ?_
    rcases jthr_s hf with ⟨e1, h1, hf⟩ | ⟨r1, h1, hf⟩
    · cases hf
      exact B_callST B (Nat.le_refl _) hno hq ca_X9_needIndex sa_X9_needIndex lk_X9_125 (t_X9_needIndex B.tr h1) (Nat.le_refl _) rfl (rest := []) rfl rfl (Nat.le_of_ble_eq_true rfl) (by decide +kernel) (Nat.le_of_ble_eq_true rfl) (Nat.le_of_ble_eq_true rfl)
    · refine B_callS B (Nat.le_refl _) (μ' := r1.2) (k' := 1) (n' := 6) ca_X9_needIndex sa_X9_needIndex lk_X9_125 (t_X9_needIndex B.tr h1) (Nat.le_refl _) rfl (rest := []) rfl rfl (Nat.le_of_ble_eq_true rfl) (by decide +kernel) rfl rfl (st' := []) rfl ?_
      refine B_blk B jlkX9_ok jcl_SKF [.iload_n 1, .iconst 0, .sipush 500] (by decide +kernel) (ls' := [(0, jR 0), (1, jI a0), (2, jI a1)]) (st' := [jI 500, jI 0, jI a0]) rfl (p1 := 32) rfl ?_
      obtain ⟨r2, h2, hf⟩ := jbd hf
      refine B_callS B (Nat.le_refl _) (μ' := r1.2) (k' := 1) (n' := 6) ca_X9_isIn sa_X9_isIn lk_X9_93 (t_X9_isIn B.tr jcl_SKF h2) (Nat.le_refl _) rfl (rest := []) rfl rfl (Nat.le_of_ble_eq_true rfl) (by decide +kernel) rfl rfl (st' := [jI r2]) rfl ?_
      rcases jthr_s hf with ⟨e3, h3, hf⟩ | ⟨r3, h3, hf⟩
      · cases hf
        exact B_callST B (Nat.le_refl _) hno hq ca_X9_needArgument sa_X9_needArgument lk_X9_97 (t_X9_needArgument B.tr h3) (Nat.le_refl _) rfl (rest := []) rfl rfl (Nat.le_of_ble_eq_true rfl) (by decide +kernel) (Nat.le_of_ble_eq_true rfl) (Nat.le_of_ble_eq_true rfl)
      · refine B_callS B (Nat.le_refl _) (μ' := r3.2) (k' := 2) (n' := 12) ca_X9_needArgument sa_X9_needArgument lk_X9_97 (t_X9_needArgument B.tr h3) (Nat.le_refl _) rfl (rest := []) rfl rfl (Nat.le_of_ble_eq_true rfl) (by decide +kernel) rfl rfl (st' := []) rfl ?_
        refine B_blk B jlkX9_ok jcl_SKF [.aload_n 0, .getfield 63, .iload_n 1, .iload_n 2] (by decide +kernel) (ls' := [(0, jR 0), (1, jI a0), (2, jI a1)]) (st' := [jI a1, jI a0, jR 72]) rfl (p1 := 44) rfl ?_
        obtain ⟨r4, h4, hf⟩ := jbd hf
        refine B_callV B (Nat.le_refl _) (μ' := r4.2) (k' := 2) (n' := 12) ca_X2_coatsFor in_X2_coatsFor se_X2_coatsFor lk_X9_257 (t_X2_coatsFor B.tr h4) (Nat.le_refl _) rfl rfl rfl (rest := []) rfl rfl (Nat.le_of_ble_eq_true rfl) (by decide +kernel) rfl rfl (st' := [jI r4.1]) rfl ?_
        cases hf
        exact B_retI B hq rfl (Nat.le_of_ble_eq_true rfl) (Nat.le_of_ble_eq_true rfl) (by decide +kernel)
  · refine B_blk B jlkX9_ok jcl_SKF [.aload_n 0, .getfield 20, .getfield 101, .iload_n 2] (by decide +kernel) (ls' := [(0, jR 0), (1, jI a0), (2, jI a1)]) (st' := [jI a1, jR 4]) rfl (p1 := 13) rfl ?_
    obtain ⟨r5, h5, hf⟩ := jbd hf
    refine B_callV B (Nat.le_refl _) (μ' := m) (k' := 0) (n' := 0) ca_X5_has in_X5_has se_X5_has lk_X9_143 (t_X5_has B.tr jcl_SKF ⟨rfl, rfl, by decide⟩ h5) (Nat.le_refl _) rfl rfl rfl (rest := []) rfl rfl (Nat.le_of_ble_eq_true rfl) (by decide +kernel) rfl rfl (st' := [jI r5]) rfl ?_
    refine J_if_eq B.1 (off := 7) (tgt := 23) (by decide +kernel) (by decide) hf (fun hf => ?_) (fun hf => ?_)
    · refine B_blk B jlkX9_ok jcl_SKF [.iconst 0] (by decide +kernel) (ls' := [(0, jR 0), (1, jI a0), (2, jI a1)]) (st' := [jI 0]) rfl (p1 := 24) rfl ?_
      rcases jthr_s hf with ⟨e6, h6, hf⟩ | ⟨r6, h6, hf⟩
      · cases hf
        exact B_callST B (Nat.le_refl _) hno hq ca_X9_needIndex sa_X9_needIndex lk_X9_125 (t_X9_needIndex B.tr h6) (Nat.le_refl _) rfl (rest := []) rfl rfl (Nat.le_of_ble_eq_true rfl) (by decide +kernel) (Nat.le_of_ble_eq_true rfl) (Nat.le_of_ble_eq_true rfl)
      · refine B_callS B (Nat.le_refl _) (μ' := r6.2) (k' := 1) (n' := 6) ca_X9_needIndex sa_X9_needIndex lk_X9_125 (t_X9_needIndex B.tr h6) (Nat.le_refl _) rfl (rest := []) rfl rfl (Nat.le_of_ble_eq_true rfl) (by decide +kernel) rfl rfl (st' := []) rfl ?_
        refine B_blk B jlkX9_ok jcl_SKF [.iload_n 1, .iconst 0, .sipush 500] (by decide +kernel) (ls' := [(0, jR 0), (1, jI a0), (2, jI a1)]) (st' := [jI 500, jI 0, jI a0]) rfl (p1 := 32) rfl ?_
        obtain ⟨r7, h7, hf⟩ := jbd hf
        refine B_callS B (Nat.le_refl _) (μ' := r6.2) (k' := 1) (n' := 6) ca_X9_isIn sa_X9_isIn lk_X9_93 (t_X9_isIn B.tr jcl_SKF h7) (Nat.le_refl _) rfl (rest := []) rfl rfl (Nat.le_of_ble_eq_true rfl) (by decide +kernel) rfl rfl (st' := [jI r7]) rfl ?_
        rcases jthr_s hf with ⟨e8, h8, hf⟩ | ⟨r8, h8, hf⟩
        · cases hf
          exact B_callST B (Nat.le_refl _) hno hq ca_X9_needArgument sa_X9_needArgument lk_X9_97 (t_X9_needArgument B.tr h8) (Nat.le_refl _) rfl (rest := []) rfl rfl (Nat.le_of_ble_eq_true rfl) (by decide +kernel) (Nat.le_of_ble_eq_true rfl) (Nat.le_of_ble_eq_true rfl)
        · refine B_callS B (Nat.le_refl _) (μ' := r8.2) (k' := 2) (n' := 12) ca_X9_needArgument sa_X9_needArgument lk_X9_97 (t_X9_needArgument B.tr h8) (Nat.le_refl _) rfl (rest := []) rfl rfl (Nat.le_of_ble_eq_true rfl) (by decide +kernel) rfl rfl (st' := []) rfl ?_
          refine B_blk B jlkX9_ok jcl_SKF [.aload_n 0, .getfield 63, .iload_n 1, .iload_n 2] (by decide +kernel) (ls' := [(0, jR 0), (1, jI a0), (2, jI a1)]) (st' := [jI a1, jI a0, jR 72]) rfl (p1 := 44) rfl ?_
          obtain ⟨r9, h9, hf⟩ := jbd hf
          refine B_callV B (Nat.le_refl _) (μ' := r9.2) (k' := 2) (n' := 12) ca_X2_coatsFor in_X2_coatsFor se_X2_coatsFor lk_X9_257 (t_X2_coatsFor B.tr h9) (Nat.le_refl _) rfl rfl rfl (rest := []) rfl rfl (Nat.le_of_ble_eq_true rfl) (by decide +kernel) rfl rfl (st' := [jI r9.1]) rfl ?_
          cases hf
          exact B_retI B hq rfl (Nat.le_of_ble_eq_true rfl) (Nat.le_of_ble_eq_true rfl) (by decide +kernel)
    · refine B_blk B jlkX9_ok jcl_SKF [.iconst 1, .goto 4] (by decide +kernel) (ls' := [(0, jR 0), (1, jI a0), (2, jI a1)]) (st' := [jI 1]) rfl (p1 := 24) rfl ?_
      rcases jthr_s hf with ⟨e10, h10, hf⟩ | ⟨r10, h10, hf⟩
      · cases hf
        exact B_callST B (Nat.le_refl _) hno hq ca_X9_needIndex sa_X9_needIndex lk_X9_125 (t_X9_needIndex B.tr h10) (Nat.le_refl _) rfl (rest := []) rfl rfl (Nat.le_of_ble_eq_true rfl) (by decide +kernel) (Nat.le_of_ble_eq_true rfl) (Nat.le_of_ble_eq_true rfl)
      · refine B_callS B (Nat.le_refl _) (μ' := r10.2) (k' := 1) (n' := 6) ca_X9_needIndex sa_X9_needIndex lk_X9_125 (t_X9_needIndex B.tr h10) (Nat.le_refl _) rfl (rest := []) rfl rfl (Nat.le_of_ble_eq_true rfl) (by decide +kernel) rfl rfl (st' := []) rfl ?_
        refine B_blk B jlkX9_ok jcl_SKF [.iload_n 1, .iconst 0, .sipush 500] (by decide +kernel) (ls' := [(0, jR 0), (1, jI a0), (2, jI a1)]) (st' := [jI 500, jI 0, jI a0]) rfl (p1 := 32) rfl ?_
        obtain ⟨r11, h11, hf⟩ := jbd hf
        refine B_callS B (Nat.le_refl _) (μ' := r10.2) (k' := 1) (n' := 6) ca_X9_isIn sa_X9_isIn lk_X9_93 (t_X9_isIn B.tr jcl_SKF h11) (Nat.le_refl _) rfl (rest := []) rfl rfl (Nat.le_of_ble_eq_true rfl) (by decide +kernel) rfl rfl (st' := [jI r11]) rfl ?_
        rcases jthr_s hf with ⟨e12, h12, hf⟩ | ⟨r12, h12, hf⟩
        · cases hf
          exact B_callST B (Nat.le_refl _) hno hq ca_X9_needArgument sa_X9_needArgument lk_X9_97 (t_X9_needArgument B.tr h12) (Nat.le_refl _) rfl (rest := []) rfl rfl (Nat.le_of_ble_eq_true rfl) (by decide +kernel) (Nat.le_of_ble_eq_true rfl) (Nat.le_of_ble_eq_true rfl)
        · refine B_callS B (Nat.le_refl _) (μ' := r12.2) (k' := 2) (n' := 12) ca_X9_needArgument sa_X9_needArgument lk_X9_97 (t_X9_needArgument B.tr h12) (Nat.le_refl _) rfl (rest := []) rfl rfl (Nat.le_of_ble_eq_true rfl) (by decide +kernel) rfl rfl (st' := []) rfl ?_
          refine B_blk B jlkX9_ok jcl_SKF [.aload_n 0, .getfield 63, .iload_n 1, .iload_n 2] (by decide +kernel) (ls' := [(0, jR 0), (1, jI a0), (2, jI a1)]) (st' := [jI a1, jI a0, jR 72]) rfl (p1 := 44) rfl ?_
          obtain ⟨r13, h13, hf⟩ := jbd hf
          refine B_callV B (Nat.le_refl _) (μ' := r13.2) (k' := 2) (n' := 12) ca_X2_coatsFor in_X2_coatsFor se_X2_coatsFor lk_X9_257 (t_X2_coatsFor B.tr h13) (Nat.le_refl _) rfl rfl rfl (rest := []) rfl rfl (Nat.le_of_ble_eq_true rfl) (by decide +kernel) rfl rfl (st' := [jI r13.1]) rfl ?_
          cases hf
          exact B_retI B hq rfl (Nat.le_of_ble_eq_true rfl) (Nat.le_of_ble_eq_true rfl) (by decide +kernel)

def rm_X9_needWinters : Room := { frames := 9, cells := 1, slots := 6, locals := 120 }
def f_X9_needWinters (a0 : Int) (a1 : Int) (a2 : Int) (m : jMu) : Option (jOut Unit) :=
  (f_X9_isIn a0 1 20).bind fun r1 => (if r1 = 0 then jthr (f_X9_needArgument 0 m) fun r2 => some (.inr ((), r2.2)) else (f_X9_isIn a1 0 4).bind fun r3 => (if r3 = 0 then jthr (f_X9_needArgument 0 m) fun r4 => some (.inr ((), r4.2)) else (f_X9_isIn a2 1 20).bind fun r5 => (if r5 = 0 then jthr (f_X9_needArgument 0 m) fun r6 => some (.inr ((), r6.2)) else jthr (f_X9_needArgument 1 m) fun r7 => some (.inr ((), r7.2)))))
theorem t_X9_needWinters {l : Launch} {G : jG} (hl : l.stackTraces = false) {a0 : Int} {a1 : Int} {a2 : Int} {m : jMu} {r : (jOut Unit)} (hf : f_X9_needWinters a0 a1 a2 m = some r) : jCt l G yX9_needWinters (.code yX9_needWinters cX9_needWinters 3 none :: jWG) rm_X9_needWinters [jI a0, jI a1, jI a2] SKF m (joV r) SKF (joM r) := by
  unfold f_X9_needWinters at hf
  refine J_start (ls0 := [(0, jI a0), (1, jI a1), (2, jI a2)]) (by decide +kernel) hl (Nat.le_of_ble_eq_true rfl) rfl fun X C hN hn hR hr hnm hno hq => ?_
  have B : jB X cX9_needWinters RX9 3 SKF.length rm_X9_needWinters none := ⟨C, hN, Nat.le_of_eq hn, hR, hr⟩
  refine B_blk B jlkX9_ok jcl_SKF [.iload_n 0, .iconst 1, .bipush 20] (by decide +kernel) (ls' := [(0, jI a0), (1, jI a1), (2, jI a2)]) (st' := [jI 20, jI 1, jI a0]) rfl (p1 := 4) rfl ?_
  obtain ⟨r1, h1, hf⟩ := jbd hf
  refine B_callS B (Nat.le_refl _) (μ' := m) (k' := 0) (n' := 0) ca_X9_isIn sa_X9_isIn lk_X9_93 (t_X9_isIn B.tr jcl_SKF h1) (Nat.le_refl _) rfl (rest := []) rfl rfl (Nat.le_of_ble_eq_true rfl) (by decide +kernel) rfl rfl (st' := [jI r1]) rfl ?_
  refine J_if_eq B.1 (off := 26) (tgt := 33) (by decide +kernel) (by decide) hf (fun hf => ?_) (fun hf => ?_)
  · refine B_blk B jlkX9_ok jcl_SKF [.iconst 0] (by decide +kernel) (ls' := [(0, jI a0), (1, jI a1), (2, jI a2)]) (st' := [jI 0]) rfl (p1 := 34) rfl ?_
    rcases jthr_s hf with ⟨e2, h2, hf⟩ | ⟨r2, h2, hf⟩
    · cases hf
      exact B_callST B (Nat.le_refl _) hno hq ca_X9_needArgument sa_X9_needArgument lk_X9_97 (t_X9_needArgument B.tr h2) (Nat.le_refl _) rfl (rest := []) rfl rfl (Nat.le_of_ble_eq_true rfl) (by decide +kernel) (Nat.le_of_ble_eq_true rfl) (Nat.le_of_ble_eq_true rfl)
    · refine B_callS B (Nat.le_refl _) (μ' := r2.2) (k' := 1) (n' := 6) ca_X9_needArgument sa_X9_needArgument lk_X9_97 (t_X9_needArgument B.tr h2) (Nat.le_refl _) rfl (rest := []) rfl rfl (Nat.le_of_ble_eq_true rfl) (by decide +kernel) rfl rfl (st' := []) rfl ?_
      cases hf
      exact B_retV B hq rfl (Nat.le_of_ble_eq_true rfl) (Nat.le_of_ble_eq_true rfl) (by decide +kernel)
  · refine B_blk B jlkX9_ok jcl_SKF [.iload_n 1, .iconst 0, .iconst 4] (by decide +kernel) (ls' := [(0, jI a0), (1, jI a1), (2, jI a2)]) (st' := [jI 4, jI 0, jI a1]) rfl (p1 := 13) rfl ?_
    obtain ⟨r3, h3, hf⟩ := jbd hf
    refine B_callS B (Nat.le_refl _) (μ' := m) (k' := 0) (n' := 0) ca_X9_isIn sa_X9_isIn lk_X9_93 (t_X9_isIn B.tr jcl_SKF h3) (Nat.le_refl _) rfl (rest := []) rfl rfl (Nat.le_of_ble_eq_true rfl) (by decide +kernel) rfl rfl (st' := [jI r3]) rfl ?_
    refine J_if_eq B.1 (off := 17) (tgt := 33) (by decide +kernel) (by decide) hf (fun hf => ?_) (fun hf => ?_)
    · refine B_blk B jlkX9_ok jcl_SKF [.iconst 0] (by decide +kernel) (ls' := [(0, jI a0), (1, jI a1), (2, jI a2)]) (st' := [jI 0]) rfl (p1 := 34) rfl ?_
      rcases jthr_s hf with ⟨e4, h4, hf⟩ | ⟨r4, h4, hf⟩
      · cases hf
        exact B_callST B (Nat.le_refl _) hno hq ca_X9_needArgument sa_X9_needArgument lk_X9_97 (t_X9_needArgument B.tr h4) (Nat.le_refl _) rfl (rest := []) rfl rfl (Nat.le_of_ble_eq_true rfl) (by decide +kernel) (Nat.le_of_ble_eq_true rfl) (Nat.le_of_ble_eq_true rfl)
      · refine B_callS B (Nat.le_refl _) (μ' := r4.2) (k' := 1) (n' := 6) ca_X9_needArgument sa_X9_needArgument lk_X9_97 (t_X9_needArgument B.tr h4) (Nat.le_refl _) rfl (rest := []) rfl rfl (Nat.le_of_ble_eq_true rfl) (by decide +kernel) rfl rfl (st' := []) rfl ?_
        cases hf
        exact B_retV B hq rfl (Nat.le_of_ble_eq_true rfl) (Nat.le_of_ble_eq_true rfl) (by decide +kernel)
    · refine B_blk B jlkX9_ok jcl_SKF [.iload_n 2, .iconst 1, .bipush 20] (by decide +kernel) (ls' := [(0, jI a0), (1, jI a1), (2, jI a2)]) (st' := [jI 20, jI 1, jI a2]) rfl (p1 := 23) rfl ?_
      obtain ⟨r5, h5, hf⟩ := jbd hf
      refine B_callS B (Nat.le_refl _) (μ' := m) (k' := 0) (n' := 0) ca_X9_isIn sa_X9_isIn lk_X9_93 (t_X9_isIn B.tr jcl_SKF h5) (Nat.le_refl _) rfl (rest := []) rfl rfl (Nat.le_of_ble_eq_true rfl) (by decide +kernel) rfl rfl (st' := [jI r5]) rfl ?_
      refine J_if_eq B.1 (off := 7) (tgt := 33) (by decide +kernel) (by decide) hf (fun hf => ?_) (fun hf => ?_)
      · refine B_blk B jlkX9_ok jcl_SKF [.iconst 0] (by decide +kernel) (ls' := [(0, jI a0), (1, jI a1), (2, jI a2)]) (st' := [jI 0]) rfl (p1 := 34) rfl ?_
        rcases jthr_s hf with ⟨e6, h6, hf⟩ | ⟨r6, h6, hf⟩
        · cases hf
          exact B_callST B (Nat.le_refl _) hno hq ca_X9_needArgument sa_X9_needArgument lk_X9_97 (t_X9_needArgument B.tr h6) (Nat.le_refl _) rfl (rest := []) rfl rfl (Nat.le_of_ble_eq_true rfl) (by decide +kernel) (Nat.le_of_ble_eq_true rfl) (Nat.le_of_ble_eq_true rfl)
        · refine B_callS B (Nat.le_refl _) (μ' := r6.2) (k' := 1) (n' := 6) ca_X9_needArgument sa_X9_needArgument lk_X9_97 (t_X9_needArgument B.tr h6) (Nat.le_refl _) rfl (rest := []) rfl rfl (Nat.le_of_ble_eq_true rfl) (by decide +kernel) rfl rfl (st' := []) rfl ?_
          cases hf
          exact B_retV B hq rfl (Nat.le_of_ble_eq_true rfl) (Nat.le_of_ble_eq_true rfl) (by decide +kernel)
      · refine B_blk B jlkX9_ok jcl_SKF [.iconst 1, .goto 4] (by decide +kernel) (ls' := [(0, jI a0), (1, jI a1), (2, jI a2)]) (st' := [jI 1]) rfl (p1 := 34) rfl ?_
        rcases jthr_s hf with ⟨e7, h7, hf⟩ | ⟨r7, h7, hf⟩
        · cases hf
          exact B_callST B (Nat.le_refl _) hno hq ca_X9_needArgument sa_X9_needArgument lk_X9_97 (t_X9_needArgument B.tr h7) (Nat.le_refl _) rfl (rest := []) rfl rfl (Nat.le_of_ble_eq_true rfl) (by decide +kernel) (Nat.le_of_ble_eq_true rfl) (Nat.le_of_ble_eq_true rfl)
        · refine B_callS B (Nat.le_refl _) (μ' := r7.2) (k' := 1) (n' := 6) ca_X9_needArgument sa_X9_needArgument lk_X9_97 (t_X9_needArgument B.tr h7) (Nat.le_refl _) rfl (rest := []) rfl rfl (Nat.le_of_ble_eq_true rfl) (by decide +kernel) rfl rfl (st' := []) rfl ?_
          cases hf
          exact B_retV B hq rfl (Nat.le_of_ble_eq_true rfl) (Nat.le_of_ble_eq_true rfl) (by decide +kernel)

def rm_X2_chosen : Room := { frames := 2, cells := 0, slots := 0, locals := 64 }
def f_X2_chosen_L5 : Nat → Int → Int → Int → Int → Option Int
  | 0, _, _, _, _ => none
  | q + 1, v0, v1, v2, v4 => (if v1 < v4 then some v2 else (if v4 ≠ 0 then (jlt (jDvL (jV (v2 * jW (jW (v0 - v1) + v4))) v4) fun x1 => f_X2_chosen_L5 q v0 v1 x1 (jW (v4 + 1))) else none))
def f_X2_chosen (a0 : Int) (a1 : Int) : Option Int :=
  f_X2_chosen_L5 jFU a0 a1 1 1
theorem t_X2_chosen_L5 {X : jX} {S : List jSh} (hcl : jcl S) (B : jB X cX2_chosen RX2 5 S.length rm_X2_chosen (some .long)) {μ : jMu} : ∀ (q : Nat) (v0 : Int) (v1 : Int) (v2 : Int) (v4 : Int) (r : Int), f_X2_chosen_L5 q v0 v1 v2 v4 = some r → jQ X (.inl (some (jL r))) S μ rm_X2_chosen.cells rm_X2_chosen.slots → J X S μ 0 0 5 [(0, jI v0), (1, jI v1), (2, jL v2), (4, jI v4)] [] := by
  intro q
  induction q with
  | zero =>
    intro v0 v1 v2 v4 r hf
    rw [f_X2_chosen_L5] at hf
    cases hf
  | succ q ih =>
    intro v0 v1 v2 v4 r hf hq
    rw [f_X2_chosen_L5] at hf
    refine B_blk B jlkX2_ok hcl [.iload 4, .iload_n 1] (by decide +kernel) (ls' := [(0, jI v0), (1, jI v1), (2, jL v2), (4, jI v4)]) (st' := [jI v1, jI v4]) rfl (p1 := 8) rfl ?_
    refine J_icmp_gt B.1 (off := 23) (tgt := 31) (by decide +kernel) (by decide) hf (fun hf => ?_) (fun hf => ?_)
    · refine B_blk B jlkX2_ok hcl [.lload_n 2] (by decide +kernel) (ls' := [(0, jI v0), (1, jI v1), (2, jL v2), (4, jI v4)]) (st' := [jL v2]) rfl (p1 := 32) rfl ?_
      cases hf
      exact B_retL B hq rfl (Nat.le_of_ble_eq_true rfl) (Nat.le_of_ble_eq_true rfl) (by decide +kernel)
    · refine B_blk B jlkX2_ok hcl [.lload_n 2, .iload_n 0, .iload_n 1, .isub, .iload 4, .iadd, .i2l, .lmul, .iload 4, .i2l] (by decide +kernel) (ls' := [(0, jI v0), (1, jI v1), (2, jL v2), (4, jI v4)]) (st' := [jL v4, jL (jV (v2 * jW (jW (v0 - v1) + v4)))]) rfl (p1 := 23) rfl ?_
      obtain ⟨g2, hf⟩ := jgd hf
      refine K_ldiv B g2 (by decide +kernel) ?_
      refine B_blk B jlkX2_ok hcl [.lstore_n 2] (by decide +kernel) (ls' := [(0, jI v0), (1, jI v1), (2, jL (jDvL (jV (v2 * jW (jW (v0 - v1) + v4))) v4)), (4, jI v4)]) (st' := []) rfl (p1 := 25) rfl ?_
      obtain ⟨x1, hx1, hf⟩ := jlt_s hf
      rw [hx1]
      refine B_blk B jlkX2_ok hcl [.iinc 4 1, .goto (-23)] (by decide +kernel) (ls' := [(0, jI v0), (1, jI v1), (2, jL x1), (4, jI (jW (v4 + 1)))]) (st' := []) rfl (p1 := 5) rfl ?_
      exact ih v0 v1 x1 (jW (v4 + 1)) _ hf hq
theorem t_X2_chosen {l : Launch} {G : jG} (hl : l.stackTraces = false) {S : List jSh} (hcl : jcl S) {a0 : Int} {a1 : Int} {μ : jMu} {r : Int} (hf : f_X2_chosen a0 a1 = some r) : jCt l G yX2_chosen (.code yX2_chosen cX2_chosen 5 (some .long) :: jWG) rm_X2_chosen [jI a0, jI a1] S μ (.inl (some (jL r))) S μ := by
  unfold f_X2_chosen at hf
  refine J_start (ls0 := [(0, jI a0), (1, jI a1)]) (by decide +kernel) hl (Nat.le_of_ble_eq_true rfl) rfl fun X C hN hn hR hr hnm hno hq => ?_
  have B : jB X cX2_chosen RX2 5 S.length rm_X2_chosen (some .long) := ⟨C, hN, Nat.le_of_eq hn, hR, hr⟩
  refine B_blk B jlkX2_ok hcl [.lconst 1, .lstore_n 2, .iconst 1, .istore 4] (by decide +kernel) (ls' := [(0, jI a0), (1, jI a1), (2, jL 1), (4, jI 1)]) (st' := []) rfl (p1 := 5) rfl ?_
  exact t_X2_chosen_L5 hcl B jFU a0 a1 1 1 _ hf hq

def rm_X2_power : Room := { frames := 2, cells := 0, slots := 0, locals := 64 }
def f_X2_power_L5 : Nat → Int → Int → Int → Int → Option Int
  | 0, _, _, _, _ => none
  | q + 1, v0, v1, v2, v4 => (if v1 ≤ v4 then some v2 else f_X2_power_L5 q v0 v1 (jV (v2 * v0)) (jW (v4 + 1)))
def f_X2_power (a0 : Int) (a1 : Int) : Option Int :=
  f_X2_power_L5 jFU a0 a1 1 0
theorem t_X2_power_L5 {X : jX} {S : List jSh} (hcl : jcl S) (B : jB X cX2_power RX2 5 S.length rm_X2_power (some .long)) {μ : jMu} : ∀ (q : Nat) (v0 : Int) (v1 : Int) (v2 : Int) (v4 : Int) (r : Int), f_X2_power_L5 q v0 v1 v2 v4 = some r → jQ X (.inl (some (jL r))) S μ rm_X2_power.cells rm_X2_power.slots → J X S μ 0 0 5 [(0, jI v0), (1, jI v1), (2, jL v2), (4, jI v4)] [] := by
  intro q
  induction q with
  | zero =>
    intro v0 v1 v2 v4 r hf
    rw [f_X2_power_L5] at hf
    cases hf
  | succ q ih =>
    intro v0 v1 v2 v4 r hf hq
    rw [f_X2_power_L5] at hf
    refine B_blk B jlkX2_ok hcl [.iload 4, .iload_n 1] (by decide +kernel) (ls' := [(0, jI v0), (1, jI v1), (2, jL v2), (4, jI v4)]) (st' := [jI v1, jI v4]) rfl (p1 := 8) rfl ?_
    refine J_icmp_ge B.1 (off := 14) (tgt := 22) (by decide +kernel) (by decide) hf (fun hf => ?_) (fun hf => ?_)
    · refine B_blk B jlkX2_ok hcl [.lload_n 2] (by decide +kernel) (ls' := [(0, jI v0), (1, jI v1), (2, jL v2), (4, jI v4)]) (st' := [jL v2]) rfl (p1 := 23) rfl ?_
      cases hf
      exact B_retL B hq rfl (Nat.le_of_ble_eq_true rfl) (Nat.le_of_ble_eq_true rfl) (by decide +kernel)
    · refine B_blk B jlkX2_ok hcl [.lload_n 2, .iload_n 0, .i2l, .lmul, .lstore_n 2, .iinc 4 1, .goto (-14)] (by decide +kernel) (ls' := [(0, jI v0), (1, jI v1), (2, jL (jV (v2 * v0))), (4, jI (jW (v4 + 1)))]) (st' := []) rfl (p1 := 5) rfl ?_
      exact ih v0 v1 (jV (v2 * v0)) (jW (v4 + 1)) _ hf hq
theorem t_X2_power {l : Launch} {G : jG} (hl : l.stackTraces = false) {S : List jSh} (hcl : jcl S) {a0 : Int} {a1 : Int} {μ : jMu} {r : Int} (hf : f_X2_power a0 a1 = some r) : jCt l G yX2_power (.code yX2_power cX2_power 5 (some .long) :: jWG) rm_X2_power [jI a0, jI a1] S μ (.inl (some (jL r))) S μ := by
  unfold f_X2_power at hf
  refine J_start (ls0 := [(0, jI a0), (1, jI a1)]) (by decide +kernel) hl (Nat.le_of_ble_eq_true rfl) rfl fun X C hN hn hR hr hnm hno hq => ?_
  have B : jB X cX2_power RX2 5 S.length rm_X2_power (some .long) := ⟨C, hN, Nat.le_of_eq hn, hR, hr⟩
  refine B_blk B jlkX2_ok hcl [.lconst 1, .lstore_n 2, .iconst 0, .istore 4] (by decide +kernel) (ls' := [(0, jI a0), (1, jI a1), (2, jL 1), (4, jI 0)]) (st' := []) rfl (p1 := 5) rfl ?_
  exact t_X2_power_L5 hcl B jFU a0 a1 1 0 _ hf hq

def rm_X2_rowsFailed : Room := { frames := 4, cells := 0, slots := 0, locals := 88 }
def f_X2_rowsFailed_L6 : Nat → Int → Int → Int → Int → Option Int
  | 0, _, _, _, _ => none
  | q + 1, v1, v2, v4, v6 => (if v1 < v6 then some v4 else (f_X2_chosen v1 v6).bind fun r1 => (f_X2_power v2 v6).bind fun r2 => (f_X2_power (jW (4 - v2)) (jW (v1 - v6))).bind fun r3 => f_X2_rowsFailed_L6 q v1 v2 (jV (v4 + jV (jV (r1 * r2) * r3))) (jW (v6 + 1)))
def f_X2_rowsFailed (a0 : Int) (a1 : Int) (a2 : Int) : Option Int :=
  f_X2_rowsFailed_L6 jFU a0 a1 0 a2
theorem t_X2_rowsFailed_L6 {X : jX} (B : jB X cX2_rowsFailed RX2 7 SKF.length rm_X2_rowsFailed (some .long)) {μ : jMu} : ∀ (q : Nat) (v1 : Int) (v2 : Int) (v4 : Int) (v6 : Int) (r : Int), f_X2_rowsFailed_L6 q v1 v2 v4 v6 = some r → jQ X (.inl (some (jL r))) SKF μ rm_X2_rowsFailed.cells rm_X2_rowsFailed.slots → J X SKF μ 0 0 6 [(1, jI v1), (2, jI v2), (4, jL v4), (6, jI v6)] [] := by
  intro q
  induction q with
  | zero =>
    intro v1 v2 v4 v6 r hf
    rw [f_X2_rowsFailed_L6] at hf
    cases hf
  | succ q ih =>
    intro v1 v2 v4 v6 r hf hq
    rw [f_X2_rowsFailed_L6] at hf
    refine B_blk B jlkX2_ok jcl_SKF [.iload 6, .iload_n 1] (by decide +kernel) (ls' := [(1, jI v1), (2, jI v2), (4, jL v4), (6, jI v6)]) (st' := [jI v1, jI v6]) rfl (p1 := 9) rfl ?_
    refine J_icmp_gt B.1 (off := 38) (tgt := 47) (by decide +kernel) (by decide) hf (fun hf => ?_) (fun hf => ?_)
    · refine B_blk B jlkX2_ok jcl_SKF [.lload 4] (by decide +kernel) (ls' := [(1, jI v1), (2, jI v2), (4, jL v4), (6, jI v6)]) (st' := [jL v4]) rfl (p1 := 49) rfl ?_
      cases hf
      exact B_retL B hq rfl (Nat.le_of_ble_eq_true rfl) (Nat.le_of_ble_eq_true rfl) (by decide +kernel)
    · refine B_blk B jlkX2_ok jcl_SKF [.lload 4, .iload_n 1, .iload 6] (by decide +kernel) (ls' := [(1, jI v1), (2, jI v2), (4, jL v4), (6, jI v6)]) (st' := [jI v6, jI v1, jL v4]) rfl (p1 := 17) rfl ?_
      obtain ⟨r1, h1, hf⟩ := jbd hf
      refine B_callS B (Nat.le_refl _) (μ' := μ) (k' := 0) (n' := 0) ca_X2_chosen sa_X2_chosen lk_X2_51 (t_X2_chosen B.tr jcl_SKF h1) (Nat.le_refl _) rfl (rest := [jL v4]) rfl rfl (Nat.le_of_ble_eq_true rfl) (by decide +kernel) rfl rfl (st' := [jL r1, jL v4]) rfl ?_
      refine B_blk B jlkX2_ok jcl_SKF [.iload_n 2, .iload 6] (by decide +kernel) (ls' := [(1, jI v1), (2, jI v2), (4, jL v4), (6, jI v6)]) (st' := [jI v6, jI v2, jL r1, jL v4]) rfl (p1 := 23) rfl ?_
      obtain ⟨r2, h2, hf⟩ := jbd hf
      refine B_callS B (Nat.le_refl _) (μ' := μ) (k' := 0) (n' := 0) ca_X2_power sa_X2_power lk_X2_55 (t_X2_power B.tr jcl_SKF h2) (Nat.le_refl _) rfl (rest := [jL r1, jL v4]) rfl rfl (Nat.le_of_ble_eq_true rfl) (by decide +kernel) rfl rfl (st' := [jL r2, jL r1, jL v4]) rfl ?_
      refine B_blk B jlkX2_ok jcl_SKF [.lmul, .iconst 4, .iload_n 2, .isub, .iload_n 1, .iload 6, .isub] (by decide +kernel) (ls' := [(1, jI v1), (2, jI v2), (4, jL v4), (6, jI v6)]) (st' := [jI (jW (v1 - v6)), jI (jW (4 - v2)), jL (jV (r1 * r2)), jL v4]) rfl (p1 := 34) rfl ?_
      obtain ⟨r3, h3, hf⟩ := jbd hf
      refine B_callS B (Nat.le_refl _) (μ' := μ) (k' := 0) (n' := 0) ca_X2_power sa_X2_power lk_X2_55 (t_X2_power B.tr jcl_SKF h3) (Nat.le_refl _) rfl (rest := [jL (jV (r1 * r2)), jL v4]) rfl rfl (Nat.le_of_ble_eq_true rfl) (by decide +kernel) rfl rfl (st' := [jL r3, jL (jV (r1 * r2)), jL v4]) rfl ?_
      refine B_blk B jlkX2_ok jcl_SKF [.lmul, .ladd, .lstore 4, .iinc 6 1, .goto (-38)] (by decide +kernel) (ls' := [(1, jI v1), (2, jI v2), (4, jL (jV (v4 + jV (jV (r1 * r2) * r3)))), (6, jI (jW (v6 + 1)))]) (st' := []) rfl (p1 := 6) rfl ?_
      exact ih v1 v2 (jV (v4 + jV (jV (r1 * r2) * r3))) (jW (v6 + 1)) _ hf hq
theorem t_X2_rowsFailed {l : Launch} {G : jG} (hl : l.stackTraces = false) {a0 : Int} {a1 : Int} {a2 : Int} {μ : jMu} {r : Int} (hf : f_X2_rowsFailed a0 a1 a2 = some r) : jCt l G yX2_rowsFailed (.code yX2_rowsFailed cX2_rowsFailed 7 (some .long) :: jWG) rm_X2_rowsFailed [jR 72, jI a0, jI a1, jI a2] SKF μ (.inl (some (jL r))) SKF μ := by
  unfold f_X2_rowsFailed at hf
  refine J_start (ls0 := [(0, jR 72), (1, jI a0), (2, jI a1), (3, jI a2)]) (by decide +kernel) hl (Nat.le_of_ble_eq_true rfl) rfl fun X C hN hn hR hr hnm hno hq => ?_
  have B : jB X cX2_rowsFailed RX2 7 SKF.length rm_X2_rowsFailed (some .long) := ⟨C, hN, Nat.le_of_eq hn, hR, hr⟩
  refine B_blk B jlkX2_ok jcl_SKF [.lconst 0, .lstore 4, .iload_n 3, .istore 6] (by decide +kernel) (ls' := [(0, jR 72), (1, jI a0), (2, jI a1), (3, jI a2), (4, jL 0), (6, jI a2)]) (st' := []) rfl (p1 := 6) rfl ?_
  refine J_pick [1, 2, 4, 5] (ls' := [(1, jI a0), (2, jI a1), (4, jL 0), (6, jI a2)]) rfl ?_
  exact t_X2_rowsFailed_L6 B jFU a0 a1 0 a2 _ hf hq

def rm_X9_promise : Room := { frames := 11, cells := 1, slots := 6, locals := 142 }
def f_X9_promise (a0 : Int) (a1 : Int) (a2 : Int) (m : jMu) : Option (jOut Int) :=
  jthr (f_X9_needWinters a0 a1 a2 m) fun r1 => (f_X2_rowsFailed a0 a1 a2).bind fun r2 => some (.inr (r2, r1.2))
theorem t_X9_promise {l : Launch} {G : jG} (hl : l.stackTraces = false) {a0 : Int} {a1 : Int} {a2 : Int} {m : jMu} {r : (jOut Int)} (hf : f_X9_promise a0 a1 a2 m = some r) : jCt l G yX9_promise (.code yX9_promise cX9_promise 4 (some .long) :: jWG) rm_X9_promise [jR 0, jI a0, jI a1, jI a2] SKF m (joL r) SKF (joM r) := by
  unfold f_X9_promise at hf
  refine J_start (ls0 := [(0, jR 0), (1, jI a0), (2, jI a1), (3, jI a2)]) (by decide +kernel) hl (Nat.le_of_ble_eq_true rfl) rfl fun X C hN hn hR hr hnm hno hq => ?_
  have B : jB X cX9_promise RX9 4 SKF.length rm_X9_promise (some .long) := ⟨C, hN, Nat.le_of_eq hn, hR, hr⟩
  refine B_blk B jlkX9_ok jcl_SKF [.iload_n 1, .iload_n 2, .iload_n 3] (by decide +kernel) (ls' := [(0, jR 0), (1, jI a0), (2, jI a1), (3, jI a2)]) (st' := [jI a2, jI a1, jI a0]) rfl (p1 := 3) rfl ?_
  rcases jthr_s hf with ⟨e1, h1, hf⟩ | ⟨r1, h1, hf⟩
  · cases hf
    exact B_callST B (Nat.le_refl _) hno hq ca_X9_needWinters sa_X9_needWinters lk_X9_260 (t_X9_needWinters B.tr h1) (Nat.le_refl _) rfl (rest := []) rfl rfl (Nat.le_of_ble_eq_true rfl) (by decide +kernel) (Nat.le_of_ble_eq_true rfl) (Nat.le_of_ble_eq_true rfl)
  · refine B_callS B (Nat.le_refl _) (μ' := r1.2) (k' := 1) (n' := 6) ca_X9_needWinters sa_X9_needWinters lk_X9_260 (t_X9_needWinters B.tr h1) (Nat.le_refl _) rfl (rest := []) rfl rfl (Nat.le_of_ble_eq_true rfl) (by decide +kernel) rfl rfl (st' := []) rfl ?_
    refine B_blk B jlkX9_ok jcl_SKF [.aload_n 0, .getfield 63, .iload_n 1, .iload_n 2, .iload_n 3] (by decide +kernel) (ls' := [(0, jR 0), (1, jI a0), (2, jI a1), (3, jI a2)]) (st' := [jI a2, jI a1, jI a0, jR 72]) rfl (p1 := 13) rfl ?_
    obtain ⟨r2, h2, hf⟩ := jbd hf
    refine B_callV B (Nat.le_refl _) (μ' := r1.2) (k' := 1) (n' := 6) ca_X2_rowsFailed in_X2_rowsFailed se_X2_rowsFailed lk_X9_263 (t_X2_rowsFailed B.tr h2) (Nat.le_refl _) rfl rfl rfl (rest := []) rfl rfl (Nat.le_of_ble_eq_true rfl) (by decide +kernel) rfl rfl (st' := [jL r2]) rfl ?_
    cases hf
    exact B_retL B hq rfl (Nat.le_of_ble_eq_true rfl) (Nat.le_of_ble_eq_true rfl) (by decide +kernel)

def rm_X2_greatestPrice : Room := { frames := 6, cells := 0, slots := 0, locals := 114 }
def f_X2_greatestPrice (a0 : Int) (a1 : Int) (a2 : Int) (a3 : Int) : Option Int :=
  (f_X2_power 4 a0).bind fun r1 => (f_X2_rowsFailed a0 a1 a2).bind fun r2 => (if 0 < jCm (jV (r1 + r2)) 0 then (if jV (r1 + r2) ≠ 0 then (jlt (jDvL (jV (jV (a3 * a0) * r1)) (jV (r1 + r2))) fun x3 => (if jCm x3 9999 ≤ 0 then some (jW x3) else some 99999)) else none) else some 99999)
theorem t_X2_greatestPrice {l : Launch} {G : jG} (hl : l.stackTraces = false) {a0 : Int} {a1 : Int} {a2 : Int} {a3 : Int} {μ : jMu} {r : Int} (hf : f_X2_greatestPrice a0 a1 a2 a3 = some r) : jCt l G yX2_greatestPrice (.code yX2_greatestPrice cX2_greatestPrice 11 (some .int) :: jWG) rm_X2_greatestPrice [jR 72, jI a0, jI a1, jI a2, jI a3] SKF μ (.inl (some (jI r))) SKF μ := by
  unfold f_X2_greatestPrice at hf
  refine J_start (ls0 := [(0, jR 72), (1, jI a0), (2, jI a1), (3, jI a2), (4, jI a3)]) (by decide +kernel) hl (Nat.le_of_ble_eq_true rfl) rfl fun X C hN hn hR hr hnm hno hq => ?_
  have B : jB X cX2_greatestPrice RX2 11 SKF.length rm_X2_greatestPrice (some .int) := ⟨C, hN, Nat.le_of_eq hn, hR, hr⟩
  refine B_blk B jlkX2_ok jcl_SKF [.iconst 4, .iload_n 1] (by decide +kernel) (ls' := [(0, jR 72), (1, jI a0), (2, jI a1), (3, jI a2), (4, jI a3)]) (st' := [jI a0, jI 4]) rfl (p1 := 2) rfl ?_
  obtain ⟨r1, h1, hf⟩ := jbd hf
  refine B_callS B (Nat.le_refl _) (μ' := μ) (k' := 0) (n' := 0) ca_X2_power sa_X2_power lk_X2_55 (t_X2_power B.tr jcl_SKF h1) (Nat.le_refl _) rfl (rest := []) rfl rfl (Nat.le_of_ble_eq_true rfl) (by decide +kernel) rfl rfl (st' := [jL r1]) rfl ?_
  refine B_blk B jlkX2_ok jcl_SKF [.lstore 5, .lload 5, .aload_n 0, .iload_n 1, .iload_n 2, .iload_n 3] (by decide +kernel) (ls' := [(0, jR 72), (1, jI a0), (2, jI a1), (3, jI a2), (4, jI a3), (5, jL r1)]) (st' := [jI a2, jI a1, jI a0, jR 72, jL r1]) rfl (p1 := 13) rfl ?_
  obtain ⟨r2, h2, hf⟩ := jbd hf
  refine B_callV B (Nat.le_refl _) (μ' := μ) (k' := 0) (n' := 0) ca_X2_rowsFailed in_X2_rowsFailed se_X2_rowsFailed lk_X2_58 (t_X2_rowsFailed B.tr h2) (Nat.le_refl _) rfl rfl rfl (rest := [jL r1]) rfl rfl (Nat.le_of_ble_eq_true rfl) (by decide +kernel) rfl rfl (st' := [jL r2, jL r1]) rfl ?_
  refine B_blk B jlkX2_ok jcl_SKF [.ladd, .lstore 7, .lload 7, .lconst 0, .lcmp] (by decide +kernel) (ls' := [(0, jR 72), (1, jI a0), (2, jI a1), (3, jI a2), (4, jI a3), (5, jL r1), (7, jL (jV (r1 + r2)))]) (st' := [jI (jCm (jV (r1 + r2)) 0)]) rfl (p1 := 23) rfl ?_
  refine J_if_gt B.1 (off := 6) (tgt := 29) (by decide +kernel) (by decide) hf (fun hf => ?_) (fun hf => ?_)
  · refine B_blk B jlkX2_ok jcl_SKF [.iload 4, .i2l, .iload_n 1, .i2l, .lmul, .lload 5, .lmul, .lload 7] (by decide +kernel) (ls' := [(0, jR 72), (1, jI a0), (2, jI a1), (3, jI a2), (4, jI a3), (5, jL r1), (7, jL (jV (r1 + r2)))]) (st' := [jL (jV (r1 + r2)), jL (jV (jV (a3 * a0) * r1))]) rfl (p1 := 40) rfl ?_
    obtain ⟨g4, hf⟩ := jgd hf
    refine K_ldiv B g4 (by decide +kernel) ?_
    refine B_blk B jlkX2_ok jcl_SKF [.lstore 9] (by decide +kernel) (ls' := [(0, jR 72), (1, jI a0), (2, jI a1), (3, jI a2), (4, jI a3), (5, jL r1), (7, jL (jV (r1 + r2))), (9, jL (jDvL (jV (jV (a3 * a0) * r1)) (jV (r1 + r2))))]) (st' := []) rfl (p1 := 43) rfl ?_
    obtain ⟨x3, hx3, hf⟩ := jlt_s hf
    rw [hx3]
    refine B_blk B jlkX2_ok jcl_SKF [.lload 9] (by decide +kernel) (ls' := [(0, jR 72), (1, jI a0), (2, jI a1), (3, jI a2), (4, jI a3), (5, jL r1), (7, jL (jV (r1 + r2))), (9, jL x3)]) (st' := [jL x3]) rfl (p1 := 45) rfl ?_
    refine J_ldc2 (z := 9999) B.1 co_X2_63 (by decide) (by unfold jLn; omega) (by decide +kernel) ?_
    refine B_blk B jlkX2_ok jcl_SKF [.lcmp] (by decide +kernel) (ls' := [(0, jR 72), (1, jI a0), (2, jI a1), (3, jI a2), (4, jI a3), (5, jL r1), (7, jL (jV (r1 + r2))), (9, jL x3)]) (st' := [jI (jCm x3 9999)]) rfl (p1 := 49) rfl ?_
    refine J_if_le B.1 (off := 8) (tgt := 57) (by decide +kernel) (by decide) hf (fun hf => ?_) (fun hf => ?_)
    · refine B_blk B jlkX2_ok jcl_SKF [.lload 9, .l2i] (by decide +kernel) (ls' := [(0, jR 72), (1, jI a0), (2, jI a1), (3, jI a2), (4, jI a3), (5, jL r1), (7, jL (jV (r1 + r2))), (9, jL x3)]) (st' := [jI (jW x3)]) rfl (p1 := 60) rfl ?_
      cases hf
      exact B_retI B hq rfl (Nat.le_of_ble_eq_true rfl) (Nat.le_of_ble_eq_true rfl) (by decide +kernel)
    · refine J_ldc (z := 99999) B.1 co_X2_62 (by decide) (by unfold jIn; omega) (by decide +kernel) ?_
      refine B_blk B jlkX2_ok jcl_SKF [.goto 6] (by decide +kernel) (ls' := [(0, jR 72), (1, jI a0), (2, jI a1), (3, jI a2), (4, jI a3), (5, jL r1), (7, jL (jV (r1 + r2))), (9, jL x3)]) (st' := [jI 99999]) rfl (p1 := 60) rfl ?_
      cases hf
      exact B_retI B hq rfl (Nat.le_of_ble_eq_true rfl) (Nat.le_of_ble_eq_true rfl) (by decide +kernel)
  · refine J_ldc (z := 99999) B.1 co_X2_62 (by decide) (by unfold jIn; omega) (by decide +kernel) ?_
    cases hf
    exact B_retI B hq rfl (Nat.le_of_ble_eq_true rfl) (Nat.le_of_ble_eq_true rfl) (by decide +kernel)

def rm_X9_edge : Room := { frames := 11, cells := 2, slots := 12, locals := 144 }
def f_X9_edge (a0 : Int) (a1 : Int) (a2 : Int) (a3 : Int) (m : jMu) : Option (jOut Int) :=
  jthr (f_X9_needWinters a0 a1 a2 m) fun r1 => (f_X9_isIn a3 0 999).bind fun r2 => jthr (f_X9_needArgument r2 r1.2) fun r3 => (f_X2_greatestPrice a0 a1 a2 a3).bind fun r4 => some (.inr (r4, r3.2))
theorem t_X9_edge {l : Launch} {G : jG} (hl : l.stackTraces = false) {a0 : Int} {a1 : Int} {a2 : Int} {a3 : Int} {m : jMu} {r : (jOut Int)} (hf : f_X9_edge a0 a1 a2 a3 m = some r) : jCt l G yX9_edge (.code yX9_edge cX9_edge 5 (some .int) :: jWG) rm_X9_edge [jR 0, jI a0, jI a1, jI a2, jI a3] SKF m (joI r) SKF (joM r) := by
  unfold f_X9_edge at hf
  refine J_start (ls0 := [(0, jR 0), (1, jI a0), (2, jI a1), (3, jI a2), (4, jI a3)]) (by decide +kernel) hl (Nat.le_of_ble_eq_true rfl) rfl fun X C hN hn hR hr hnm hno hq => ?_
  have B : jB X cX9_edge RX9 5 SKF.length rm_X9_edge (some .int) := ⟨C, hN, Nat.le_of_eq hn, hR, hr⟩
  refine B_blk B jlkX9_ok jcl_SKF [.iload_n 1, .iload_n 2, .iload_n 3] (by decide +kernel) (ls' := [(0, jR 0), (1, jI a0), (2, jI a1), (3, jI a2), (4, jI a3)]) (st' := [jI a2, jI a1, jI a0]) rfl (p1 := 3) rfl ?_
  rcases jthr_s hf with ⟨e1, h1, hf⟩ | ⟨r1, h1, hf⟩
  · cases hf
    exact B_callST B (Nat.le_refl _) hno hq ca_X9_needWinters sa_X9_needWinters lk_X9_260 (t_X9_needWinters B.tr h1) (Nat.le_refl _) rfl (rest := []) rfl rfl (Nat.le_of_ble_eq_true rfl) (by decide +kernel) (Nat.le_of_ble_eq_true rfl) (Nat.le_of_ble_eq_true rfl)
  · refine B_callS B (Nat.le_refl _) (μ' := r1.2) (k' := 1) (n' := 6) ca_X9_needWinters sa_X9_needWinters lk_X9_260 (t_X9_needWinters B.tr h1) (Nat.le_refl _) rfl (rest := []) rfl rfl (Nat.le_of_ble_eq_true rfl) (by decide +kernel) rfl rfl (st' := []) rfl ?_
    refine B_blk B jlkX9_ok jcl_SKF [.iload 4, .iconst 0, .sipush 999] (by decide +kernel) (ls' := [(0, jR 0), (1, jI a0), (2, jI a1), (3, jI a2), (4, jI a3)]) (st' := [jI 999, jI 0, jI a3]) rfl (p1 := 12) rfl ?_
    obtain ⟨r2, h2, hf⟩ := jbd hf
    refine B_callS B (Nat.le_refl _) (μ' := r1.2) (k' := 1) (n' := 6) ca_X9_isIn sa_X9_isIn lk_X9_93 (t_X9_isIn B.tr jcl_SKF h2) (Nat.le_refl _) rfl (rest := []) rfl rfl (Nat.le_of_ble_eq_true rfl) (by decide +kernel) rfl rfl (st' := [jI r2]) rfl ?_
    rcases jthr_s hf with ⟨e3, h3, hf⟩ | ⟨r3, h3, hf⟩
    · cases hf
      exact B_callST B (Nat.le_refl _) hno hq ca_X9_needArgument sa_X9_needArgument lk_X9_97 (t_X9_needArgument B.tr h3) (Nat.le_refl _) rfl (rest := []) rfl rfl (Nat.le_of_ble_eq_true rfl) (by decide +kernel) (Nat.le_of_ble_eq_true rfl) (Nat.le_of_ble_eq_true rfl)
    · refine B_callS B (Nat.le_refl _) (μ' := r3.2) (k' := 2) (n' := 12) ca_X9_needArgument sa_X9_needArgument lk_X9_97 (t_X9_needArgument B.tr h3) (Nat.le_refl _) rfl (rest := []) rfl rfl (Nat.le_of_ble_eq_true rfl) (by decide +kernel) rfl rfl (st' := []) rfl ?_
      refine B_blk B jlkX9_ok jcl_SKF [.aload_n 0, .getfield 63, .iload_n 1, .iload_n 2, .iload_n 3, .iload 4] (by decide +kernel) (ls' := [(0, jR 0), (1, jI a0), (2, jI a1), (3, jI a2), (4, jI a3)]) (st' := [jI a3, jI a2, jI a1, jI a0, jR 72]) rfl (p1 := 27) rfl ?_
      obtain ⟨r4, h4, hf⟩ := jbd hf
      refine B_callV B (Nat.le_refl _) (μ' := r3.2) (k' := 2) (n' := 12) ca_X2_greatestPrice in_X2_greatestPrice se_X2_greatestPrice lk_X9_267 (t_X2_greatestPrice B.tr h4) (Nat.le_refl _) rfl rfl rfl (rest := []) rfl rfl (Nat.le_of_ble_eq_true rfl) (by decide +kernel) rfl rfl (st' := [jI r4]) rfl ?_
      cases hf
      exact B_retI B hq rfl (Nat.le_of_ble_eq_true rfl) (Nat.le_of_ble_eq_true rfl) (by decide +kernel)

def rm_X2_isEnough : Room := { frames := 4, cells := 0, slots := 0, locals := 87 }
def f_X2_isEnough_L8 : Nat → Int → Int → Int → Int → Int → jMu → Option Int
  | 0, _, _, _, _, _, _ => none
  | q + 1, v1, v2, v3, v4, v5, m => (f_X5_size 4 5 80 m).bind fun r1 => (if r1 ≤ v5 then (if v2 < v3 then some 0 else some 1) else (f_X5_get 4 5 80 v5 2 m).bind fun r2 => (if r2 ≤ v1 then (if jW (v4 + r2) ≤ v1 then f_X2_isEnough_L8 q v1 v2 v3 (jW (v4 + r2)) (jW (v5 + 1)) m else f_X2_isEnough_L8 q v1 v2 (jW (v3 + 1)) (jW (0 + r2)) (jW (v5 + 1)) m) else some 0))
def f_X2_isEnough (a0 : Int) (a1 : Int) (m : jMu) : Option Int :=
  f_X2_isEnough_L8 jFU a0 a1 1 0 0 m
theorem t_X2_isEnough_L8 {X : jX} (B : jB X cX2_isEnough RX2 7 SKF.length rm_X2_isEnough (some .boolean)) : ∀ (q : Nat) (v1 : Int) (v2 : Int) (v3 : Int) (v4 : Int) (v5 : Int) (m : jMu) (r : Int), f_X2_isEnough_L8 q v1 v2 v3 v4 v5 m = some r → jQ X (.inl (some (jI r))) SKF m rm_X2_isEnough.cells rm_X2_isEnough.slots → J X SKF m 0 0 8 [(0, jR 72), (1, jI v1), (2, jI v2), (3, jI v3), (4, jI v4), (5, jI v5)] [] := by
  intro q
  induction q with
  | zero =>
    intro v1 v2 v3 v4 v5 m r hf
    rw [f_X2_isEnough_L8] at hf
    cases hf
  | succ q ih =>
    intro v1 v2 v3 v4 v5 m r hf hq
    rw [f_X2_isEnough_L8] at hf
    refine B_blk B jlkX2_ok jcl_SKF [.iload 5, .aload_n 0, .getfield 9, .getfield 25] (by decide +kernel) (ls' := [(0, jR 72), (1, jI v1), (2, jI v2), (3, jI v3), (4, jI v4), (5, jI v5)]) (st' := [jR 4, jI v5]) rfl (p1 := 17) rfl ?_
    obtain ⟨r1, h1, hf⟩ := jbd hf
    refine B_callV B (Nat.le_refl _) (μ' := m) (k' := 0) (n' := 0) ca_X5_size in_X5_size se_X5_size lk_X2_31 (t_X5_size B.tr jcl_SKF ⟨rfl, rfl, by decide⟩ h1) (Nat.le_refl _) rfl rfl rfl (rest := [jI v5]) rfl rfl (Nat.le_of_ble_eq_true rfl) (by decide +kernel) rfl rfl (st' := [jI r1, jI v5]) rfl ?_
    refine J_icmp_ge B.1 (off := 54) (tgt := 74) (by decide +kernel) (by decide) hf (fun hf => ?_) (fun hf => ?_)
    · refine B_blk B jlkX2_ok jcl_SKF [.iload_n 3, .iload_n 2] (by decide +kernel) (ls' := [(0, jR 72), (1, jI v1), (2, jI v2), (3, jI v3), (4, jI v4), (5, jI v5)]) (st' := [jI v2, jI v3]) rfl (p1 := 76) rfl ?_
      refine J_icmp_gt B.1 (off := 7) (tgt := 83) (by decide +kernel) (by decide) hf (fun hf => ?_) (fun hf => ?_)
      · refine B_blk B jlkX2_ok jcl_SKF [.iconst 0] (by decide +kernel) (ls' := [(0, jR 72), (1, jI v1), (2, jI v2), (3, jI v3), (4, jI v4), (5, jI v5)]) (st' := [jI 0]) rfl (p1 := 84) rfl ?_
        cases hf
        exact B_retZ B (Or.inl rfl) hq rfl (Nat.le_of_ble_eq_true rfl) (Nat.le_of_ble_eq_true rfl) (by decide +kernel)
      · refine B_blk B jlkX2_ok jcl_SKF [.iconst 1, .goto 4] (by decide +kernel) (ls' := [(0, jR 72), (1, jI v1), (2, jI v2), (3, jI v3), (4, jI v4), (5, jI v5)]) (st' := [jI 1]) rfl (p1 := 84) rfl ?_
        cases hf
        exact B_retZ B (Or.inr rfl) hq rfl (Nat.le_of_ble_eq_true rfl) (Nat.le_of_ble_eq_true rfl) (by decide +kernel)
    · refine B_blk B jlkX2_ok jcl_SKF [.aload_n 0, .getfield 9, .getfield 25, .iload 5, .iconst 2] (by decide +kernel) (ls' := [(0, jR 72), (1, jI v1), (2, jI v2), (3, jI v3), (4, jI v4), (5, jI v5)]) (st' := [jI 2, jI v5, jR 4]) rfl (p1 := 33) rfl ?_
      obtain ⟨r2, h2, hf⟩ := jbd hf
      refine B_callV B (Nat.le_refl _) (μ' := m) (k' := 0) (n' := 0) ca_X5_get in_X5_get se_X5_get lk_X2_48 (t_X5_get B.tr jcl_SKF ⟨rfl, rfl, by decide⟩ h2) (Nat.le_refl _) rfl rfl rfl (rest := []) rfl rfl (Nat.le_of_ble_eq_true rfl) (by decide +kernel) rfl rfl (st' := [jI r2]) rfl ?_
      refine B_blk B jlkX2_ok jcl_SKF [.istore 6, .iload 6, .iload_n 1] (by decide +kernel) (ls' := [(0, jR 72), (1, jI v1), (2, jI v2), (3, jI v3), (4, jI v4), (5, jI v5), (6, jI r2)]) (st' := [jI v1, jI r2]) rfl (p1 := 41) rfl ?_
      refine J_icmp_le B.1 (off := 5) (tgt := 46) (by decide +kernel) (by decide) hf (fun hf => ?_) (fun hf => ?_)
      · refine B_blk B jlkX2_ok jcl_SKF [.iload 4, .iload 6, .iadd, .iload_n 1] (by decide +kernel) (ls' := [(0, jR 72), (1, jI v1), (2, jI v2), (3, jI v3), (4, jI v4), (5, jI v5), (6, jI r2)]) (st' := [jI v1, jI (jW (v4 + r2))]) rfl (p1 := 52) rfl ?_
        refine J_icmp_le B.1 (off := 9) (tgt := 61) (by decide +kernel) (by decide) hf (fun hf => ?_) (fun hf => ?_)
        · refine B_blk B jlkX2_ok jcl_SKF [.iload 4, .iload 6, .iadd, .istore 4, .iinc 5 1, .goto (-63)] (by decide +kernel) (ls' := [(0, jR 72), (1, jI v1), (2, jI v2), (3, jI v3), (4, jI (jW (v4 + r2))), (5, jI (jW (v5 + 1))), (6, jI r2)]) (st' := []) rfl (p1 := 8) rfl ?_
          refine J_pick [0, 1, 2, 3, 4, 5] (ls' := [(0, jR 72), (1, jI v1), (2, jI v2), (3, jI v3), (4, jI (jW (v4 + r2))), (5, jI (jW (v5 + 1)))]) rfl ?_
          exact ih v1 v2 v3 (jW (v4 + r2)) (jW (v5 + 1)) m _ hf hq
        · refine B_blk B jlkX2_ok jcl_SKF [.iinc 3 1, .iconst 0, .istore 4, .iload 4, .iload 6, .iadd, .istore 4, .iinc 5 1, .goto (-63)] (by decide +kernel) (ls' := [(0, jR 72), (1, jI v1), (2, jI v2), (3, jI (jW (v3 + 1))), (4, jI (jW (0 + r2))), (5, jI (jW (v5 + 1))), (6, jI r2)]) (st' := []) rfl (p1 := 8) rfl ?_
          refine J_pick [0, 1, 2, 3, 4, 5] (ls' := [(0, jR 72), (1, jI v1), (2, jI v2), (3, jI (jW (v3 + 1))), (4, jI (jW (0 + r2))), (5, jI (jW (v5 + 1)))]) rfl ?_
          exact ih v1 v2 (jW (v3 + 1)) (jW (0 + r2)) (jW (v5 + 1)) m _ hf hq
      · refine B_blk B jlkX2_ok jcl_SKF [.iconst 0] (by decide +kernel) (ls' := [(0, jR 72), (1, jI v1), (2, jI v2), (3, jI v3), (4, jI v4), (5, jI v5), (6, jI r2)]) (st' := [jI 0]) rfl (p1 := 45) rfl ?_
        cases hf
        exact B_retZ B (Or.inl rfl) hq rfl (Nat.le_of_ble_eq_true rfl) (Nat.le_of_ble_eq_true rfl) (by decide +kernel)
theorem t_X2_isEnough {l : Launch} {G : jG} (hl : l.stackTraces = false) {a0 : Int} {a1 : Int} {m : jMu} {r : Int} (hf : f_X2_isEnough a0 a1 m = some r) : jCt l G yX2_isEnough (.code yX2_isEnough cX2_isEnough 7 (some .boolean) :: jWG) rm_X2_isEnough [jR 72, jI a0, jI a1] SKF m (.inl (some (jI r))) SKF m := by
  unfold f_X2_isEnough at hf
  refine J_start (ls0 := [(0, jR 72), (1, jI a0), (2, jI a1)]) (by decide +kernel) hl (Nat.le_of_ble_eq_true rfl) rfl fun X C hN hn hR hr hnm hno hq => ?_
  have B : jB X cX2_isEnough RX2 7 SKF.length rm_X2_isEnough (some .boolean) := ⟨C, hN, Nat.le_of_eq hn, hR, hr⟩
  refine B_blk B jlkX2_ok jcl_SKF [.iconst 1, .istore_n 3, .iconst 0, .istore 4, .iconst 0, .istore 5] (by decide +kernel) (ls' := [(0, jR 72), (1, jI a0), (2, jI a1), (3, jI 1), (4, jI 0), (5, jI 0)]) (st' := []) rfl (p1 := 8) rfl ?_
  exact t_X2_isEnough_L8 B jFU a0 a1 1 0 0 m _ hf hq

def rm_X2_evenNeed : Room := { frames := 6, cells := 0, slots := 0, locals := 113 }
def f_X2_evenNeed_L41 : Nat → Int → Int → Int → jMu → Option Int
  | 0, _, _, _, _ => none
  | q + 1, v1, v2, v3, m => (if v2 ≤ v3 then some v2 else (f_X2_isEnough v3 v1 m).bind fun r2 => (if r2 = 0 then f_X2_evenNeed_L41 q v1 v2 (jW (v3 + 1)) m else some v3))
def f_X2_evenNeed_L4 : Nat → Int → Int → Int → jMu → Option Int
  | 0, _, _, _, _ => none
  | q + 1, v1, v2, v3, m => (f_X5_size 4 5 80 m).bind fun r1 => (if r1 ≤ v3 then f_X2_evenNeed_L41 jFU v1 v2 0 m else (f_X5_get 4 5 80 v3 2 m).bind fun r3 => f_X2_evenNeed_L4 q v1 (jW (v2 + r3)) (jW (v3 + 1)) m)
def f_X2_evenNeed (a0 : Int) (m : jMu) : Option Int :=
  f_X2_evenNeed_L4 jFU a0 0 0 m
theorem t_X2_evenNeed_L41 {X : jX} (B : jB X cX2_evenNeed RX2 4 SKF.length rm_X2_evenNeed (some .int)) : ∀ (q : Nat) (v1 : Int) (v2 : Int) (v3 : Int) (m : jMu) (r : Int), f_X2_evenNeed_L41 q v1 v2 v3 m = some r → jQ X (.inl (some (jI r))) SKF m rm_X2_evenNeed.cells rm_X2_evenNeed.slots → J X SKF m 0 0 41 [(0, jR 72), (1, jI v1), (2, jI v2), (3, jI v3)] [] := by
  intro q
  induction q with
  | zero =>
    intro v1 v2 v3 m r hf
    rw [f_X2_evenNeed_L41] at hf
    cases hf
  | succ q ih =>
    intro v1 v2 v3 m r hf hq
    rw [f_X2_evenNeed_L41] at hf
    refine B_blk B jlkX2_ok jcl_SKF [.iload_n 3, .iload_n 2] (by decide +kernel) (ls' := [(0, jR 72), (1, jI v1), (2, jI v2), (3, jI v3)]) (st' := [jI v2, jI v3]) rfl (p1 := 43) rfl ?_
    refine J_icmp_ge B.1 (off := 20) (tgt := 63) (by decide +kernel) (by decide) hf (fun hf => ?_) (fun hf => ?_)
    · refine B_blk B jlkX2_ok jcl_SKF [.iload_n 2] (by decide +kernel) (ls' := [(0, jR 72), (1, jI v1), (2, jI v2), (3, jI v3)]) (st' := [jI v2]) rfl (p1 := 64) rfl ?_
      cases hf
      exact B_retI B hq rfl (Nat.le_of_ble_eq_true rfl) (Nat.le_of_ble_eq_true rfl) (by decide +kernel)
    · refine B_blk B jlkX2_ok jcl_SKF [.aload_n 0, .iload_n 3, .iload_n 1] (by decide +kernel) (ls' := [(0, jR 72), (1, jI v1), (2, jI v2), (3, jI v3)]) (st' := [jI v1, jI v3, jR 72]) rfl (p1 := 49) rfl ?_
      obtain ⟨r2, h2, hf⟩ := jbd hf
      refine B_callV B (Nat.le_refl _) (μ' := m) (k' := 0) (n' := 0) ca_X2_isEnough in_X2_isEnough se_X2_isEnough lk_X2_65 (t_X2_isEnough B.tr h2) (Nat.le_refl _) rfl rfl rfl (rest := []) rfl rfl (Nat.le_of_ble_eq_true rfl) (by decide +kernel) rfl rfl (st' := [jI r2]) rfl ?_
      refine J_if_eq B.1 (off := 5) (tgt := 57) (by decide +kernel) (by decide) hf (fun hf => ?_) (fun hf => ?_)
      · refine B_blk B jlkX2_ok jcl_SKF [.iinc 3 1, .goto (-19)] (by decide +kernel) (ls' := [(0, jR 72), (1, jI v1), (2, jI v2), (3, jI (jW (v3 + 1)))]) (st' := []) rfl (p1 := 41) rfl ?_
        exact ih v1 v2 (jW (v3 + 1)) m _ hf hq
      · refine B_blk B jlkX2_ok jcl_SKF [.iload_n 3] (by decide +kernel) (ls' := [(0, jR 72), (1, jI v1), (2, jI v2), (3, jI v3)]) (st' := [jI v3]) rfl (p1 := 56) rfl ?_
        cases hf
        exact B_retI B hq rfl (Nat.le_of_ble_eq_true rfl) (Nat.le_of_ble_eq_true rfl) (by decide +kernel)
theorem t_X2_evenNeed_L4 {X : jX} (B : jB X cX2_evenNeed RX2 4 SKF.length rm_X2_evenNeed (some .int)) : ∀ (q : Nat) (v1 : Int) (v2 : Int) (v3 : Int) (m : jMu) (r : Int), f_X2_evenNeed_L4 q v1 v2 v3 m = some r → jQ X (.inl (some (jI r))) SKF m rm_X2_evenNeed.cells rm_X2_evenNeed.slots → J X SKF m 0 0 4 [(0, jR 72), (1, jI v1), (2, jI v2), (3, jI v3)] [] := by
  intro q
  induction q with
  | zero =>
    intro v1 v2 v3 m r hf
    rw [f_X2_evenNeed_L4] at hf
    cases hf
  | succ q ih =>
    intro v1 v2 v3 m r hf hq
    rw [f_X2_evenNeed_L4] at hf
    refine B_blk B jlkX2_ok jcl_SKF [.iload_n 3, .aload_n 0, .getfield 9, .getfield 25] (by decide +kernel) (ls' := [(0, jR 72), (1, jI v1), (2, jI v2), (3, jI v3)]) (st' := [jR 4, jI v3]) rfl (p1 := 12) rfl ?_
    obtain ⟨r1, h1, hf⟩ := jbd hf
    refine B_callV B (Nat.le_refl _) (μ' := m) (k' := 0) (n' := 0) ca_X5_size in_X5_size se_X5_size lk_X2_31 (t_X5_size B.tr jcl_SKF ⟨rfl, rfl, by decide⟩ h1) (Nat.le_refl _) rfl rfl rfl (rest := [jI v3]) rfl rfl (Nat.le_of_ble_eq_true rfl) (by decide +kernel) rfl rfl (st' := [jI r1, jI v3]) rfl ?_
    refine J_icmp_ge B.1 (off := 24) (tgt := 39) (by decide +kernel) (by decide) hf (fun hf => ?_) (fun hf => ?_)
    · refine B_blk B jlkX2_ok jcl_SKF [.iconst 0, .istore_n 3] (by decide +kernel) (ls' := [(0, jR 72), (1, jI v1), (2, jI v2), (3, jI 0)]) (st' := []) rfl (p1 := 41) rfl ?_
      exact t_X2_evenNeed_L41 B jFU v1 v2 0 m _ hf hq
    · refine B_blk B jlkX2_ok jcl_SKF [.iload_n 2, .aload_n 0, .getfield 9, .getfield 25, .iload_n 3, .iconst 2] (by decide +kernel) (ls' := [(0, jR 72), (1, jI v1), (2, jI v2), (3, jI v3)]) (st' := [jI 2, jI v3, jR 4, jI v2]) rfl (p1 := 28) rfl ?_
      obtain ⟨r3, h3, hf⟩ := jbd hf
      refine B_callV B (Nat.le_refl _) (μ' := m) (k' := 0) (n' := 0) ca_X5_get in_X5_get se_X5_get lk_X2_48 (t_X5_get B.tr jcl_SKF ⟨rfl, rfl, by decide⟩ h3) (Nat.le_refl _) rfl rfl rfl (rest := [jI v2]) rfl rfl (Nat.le_of_ble_eq_true rfl) (by decide +kernel) rfl rfl (st' := [jI r3, jI v2]) rfl ?_
      refine B_blk B jlkX2_ok jcl_SKF [.iadd, .istore_n 2, .iinc 3 1, .goto (-32)] (by decide +kernel) (ls' := [(0, jR 72), (1, jI v1), (2, jI (jW (v2 + r3))), (3, jI (jW (v3 + 1)))]) (st' := []) rfl (p1 := 4) rfl ?_
      exact ih v1 (jW (v2 + r3)) (jW (v3 + 1)) m _ hf hq
theorem t_X2_evenNeed {l : Launch} {G : jG} (hl : l.stackTraces = false) {a0 : Int} {m : jMu} {r : Int} (hf : f_X2_evenNeed a0 m = some r) : jCt l G yX2_evenNeed (.code yX2_evenNeed cX2_evenNeed 4 (some .int) :: jWG) rm_X2_evenNeed [jR 72, jI a0] SKF m (.inl (some (jI r))) SKF m := by
  unfold f_X2_evenNeed at hf
  refine J_start (ls0 := [(0, jR 72), (1, jI a0)]) (by decide +kernel) hl (Nat.le_of_ble_eq_true rfl) rfl fun X C hN hn hR hr hnm hno hq => ?_
  have B : jB X cX2_evenNeed RX2 4 SKF.length rm_X2_evenNeed (some .int) := ⟨C, hN, Nat.le_of_eq hn, hR, hr⟩
  refine B_blk B jlkX2_ok jcl_SKF [.iconst 0, .istore_n 2, .iconst 0, .istore_n 3] (by decide +kernel) (ls' := [(0, jR 72), (1, jI a0), (2, jI 0), (3, jI 0)]) (st' := []) rfl (p1 := 4) rfl ?_
  exact t_X2_evenNeed_L4 B jFU a0 0 0 m _ hf hq

def rm_X9_even : Room := { frames := 9, cells := 1, slots := 6, locals := 136 }
def f_X9_even (a0 : Int) (m : jMu) : Option (jOut Int) :=
  (f_X9_isIn a0 1 4).bind fun r1 => jthr (f_X9_needArgument r1 m) fun r2 => (f_X2_evenNeed a0 r2.2).bind fun r3 => some (.inr (r3, r2.2))
theorem t_X9_even {l : Launch} {G : jG} (hl : l.stackTraces = false) {a0 : Int} {m : jMu} {r : (jOut Int)} (hf : f_X9_even a0 m = some r) : jCt l G yX9_even (.code yX9_even cX9_even 2 (some .int) :: jWG) rm_X9_even [jR 0, jI a0] SKF m (joI r) SKF (joM r) := by
  unfold f_X9_even at hf
  refine J_start (ls0 := [(0, jR 0), (1, jI a0)]) (by decide +kernel) hl (Nat.le_of_ble_eq_true rfl) rfl fun X C hN hn hR hr hnm hno hq => ?_
  have B : jB X cX9_even RX9 2 SKF.length rm_X9_even (some .int) := ⟨C, hN, Nat.le_of_eq hn, hR, hr⟩
  refine B_blk B jlkX9_ok jcl_SKF [.iload_n 1, .iconst 1, .iconst 4] (by decide +kernel) (ls' := [(0, jR 0), (1, jI a0)]) (st' := [jI 4, jI 1, jI a0]) rfl (p1 := 3) rfl ?_
  obtain ⟨r1, h1, hf⟩ := jbd hf
  refine B_callS B (Nat.le_refl _) (μ' := m) (k' := 0) (n' := 0) ca_X9_isIn sa_X9_isIn lk_X9_93 (t_X9_isIn B.tr jcl_SKF h1) (Nat.le_refl _) rfl (rest := []) rfl rfl (Nat.le_of_ble_eq_true rfl) (by decide +kernel) rfl rfl (st' := [jI r1]) rfl ?_
  rcases jthr_s hf with ⟨e2, h2, hf⟩ | ⟨r2, h2, hf⟩
  · cases hf
    exact B_callST B (Nat.le_refl _) hno hq ca_X9_needArgument sa_X9_needArgument lk_X9_97 (t_X9_needArgument B.tr h2) (Nat.le_refl _) rfl (rest := []) rfl rfl (Nat.le_of_ble_eq_true rfl) (by decide +kernel) (Nat.le_of_ble_eq_true rfl) (Nat.le_of_ble_eq_true rfl)
  · refine B_callS B (Nat.le_refl _) (μ' := r2.2) (k' := 1) (n' := 6) ca_X9_needArgument sa_X9_needArgument lk_X9_97 (t_X9_needArgument B.tr h2) (Nat.le_refl _) rfl (rest := []) rfl rfl (Nat.le_of_ble_eq_true rfl) (by decide +kernel) rfl rfl (st' := []) rfl ?_
    refine B_blk B jlkX9_ok jcl_SKF [.aload_n 0, .getfield 63, .iload_n 1] (by decide +kernel) (ls' := [(0, jR 0), (1, jI a0)]) (st' := [jI a0, jR 72]) rfl (p1 := 14) rfl ?_
    obtain ⟨r3, h3, hf⟩ := jbd hf
    refine B_callV B (Nat.le_refl _) (μ' := r2.2) (k' := 1) (n' := 6) ca_X2_evenNeed in_X2_evenNeed se_X2_evenNeed lk_X9_271 (t_X2_evenNeed B.tr h3) (Nat.le_refl _) rfl rfl rfl (rest := []) rfl rfl (Nat.le_of_ble_eq_true rfl) (by decide +kernel) rfl rfl (st' := [jI r3]) rfl ?_
    cases hf
    exact B_retI B hq rfl (Nat.le_of_ble_eq_true rfl) (Nat.le_of_ble_eq_true rfl) (by decide +kernel)

def rm_X0_jobsOf : Room := { frames := 6, cells := 0, slots := 0, locals := 110 }
def f_X0_jobsOf_L15 : Nat → Int → Int → Int → Int → Int → jMu → Option Int
  | 0, _, _, _, _, _, _ => none
  | q + 1, v1, v2, v3, v5, v6, m => (f_X5_size 24 25 320 m).bind fun r1 => (if r1 ≤ v6 then some v5 else (f_X5_get 24 25 320 v6 1 m).bind fun r2 => (if r2 = v1 then (f_X4_isKnown v6 v2 m).bind fun r3 => (if r3 = 0 then f_X0_jobsOf_L15 q v1 v2 v3 v5 (jW (v6 + 1)) m else (if v3 = 0 then f_X0_jobsOf_L15 q v1 v2 v3 (jW (v5 + 1)) (jW (v6 + 1)) m else (f_X4_isPeeled v6 v2 m).bind fun r4 => (if r4 = 0 then f_X0_jobsOf_L15 q v1 v2 v3 v5 (jW (v6 + 1)) m else f_X0_jobsOf_L15 q v1 v2 v3 (jW (v5 + 1)) (jW (v6 + 1)) m))) else f_X0_jobsOf_L15 q v1 v2 v3 v5 (jW (v6 + 1)) m))
def f_X0_jobsOf (a0 : Int) (a1 : Int) (a2 : Int) (m : jMu) : Option Int :=
  f_X0_jobsOf_L15 jFU a0 a1 a2 0 0 m
theorem t_X0_jobsOf_L15 {X : jX} (B : jB X cX0_jobsOf RX0 8 SKF.length rm_X0_jobsOf (some .int)) : ∀ (q : Nat) (v1 : Int) (v2 : Int) (v3 : Int) (v5 : Int) (v6 : Int) (m : jMu) (r : Int), f_X0_jobsOf_L15 q v1 v2 v3 v5 v6 m = some r → jQ X (.inl (some (jI r))) SKF m rm_X0_jobsOf.cells rm_X0_jobsOf.slots → J X SKF m 0 0 15 [(0, jR 70), (1, jI v1), (2, jI v2), (3, jI v3), (4, jR 24), (5, jI v5), (6, jI v6)] [] := by
  intro q
  induction q with
  | zero =>
    intro v1 v2 v3 v5 v6 m r hf
    rw [f_X0_jobsOf_L15] at hf
    cases hf
  | succ q ih =>
    intro v1 v2 v3 v5 v6 m r hf hq
    rw [f_X0_jobsOf_L15] at hf
    refine B_blk B jlkX0_ok jcl_SKF [.iload 6, .aload 4] (by decide +kernel) (ls' := [(0, jR 70), (1, jI v1), (2, jI v2), (3, jI v3), (4, jR 24), (5, jI v5), (6, jI v6)]) (st' := [jR 24, jI v6]) rfl (p1 := 19) rfl ?_
    obtain ⟨r1, h1, hf⟩ := jbd hf
    refine B_callV B (Nat.le_refl _) (μ' := m) (k' := 0) (n' := 0) ca_X5_size in_X5_size se_X5_size lk_X0_29 (t_X5_size B.tr jcl_SKF ⟨rfl, rfl, by decide⟩ h1) (Nat.le_refl _) rfl rfl rfl (rest := [jI v6]) rfl rfl (Nat.le_of_ble_eq_true rfl) (by decide +kernel) rfl rfl (st' := [jI r1, jI v6]) rfl ?_
    refine J_icmp_ge B.1 (off := 66) (tgt := 88) (by decide +kernel) (by decide) hf (fun hf => ?_) (fun hf => ?_)
    · refine B_blk B jlkX0_ok jcl_SKF [.iload 5] (by decide +kernel) (ls' := [(0, jR 70), (1, jI v1), (2, jI v2), (3, jI v3), (4, jR 24), (5, jI v5), (6, jI v6)]) (st' := [jI v5]) rfl (p1 := 90) rfl ?_
      cases hf
      exact B_retI B hq rfl (Nat.le_of_ble_eq_true rfl) (Nat.le_of_ble_eq_true rfl) (by decide +kernel)
    · refine B_blk B jlkX0_ok jcl_SKF [.aload 4, .iload 6, .iconst 1] (by decide +kernel) (ls' := [(0, jR 70), (1, jI v1), (2, jI v2), (3, jI v3), (4, jR 24), (5, jI v5), (6, jI v6)]) (st' := [jI 1, jI v6, jR 24]) rfl (p1 := 30) rfl ?_
      obtain ⟨r2, h2, hf⟩ := jbd hf
      refine B_callV B (Nat.le_refl _) (μ' := m) (k' := 0) (n' := 0) ca_X5_get in_X5_get se_X5_get lk_X0_35 (t_X5_get B.tr jcl_SKF ⟨rfl, rfl, by decide⟩ h2) (Nat.le_refl _) rfl rfl rfl (rest := []) rfl rfl (Nat.le_of_ble_eq_true rfl) (by decide +kernel) rfl rfl (st' := [jI r2]) rfl ?_
      refine B_blk B jlkX0_ok jcl_SKF [.iload_n 1] (by decide +kernel) (ls' := [(0, jR 70), (1, jI v1), (2, jI v2), (3, jI v3), (4, jR 24), (5, jI v5), (6, jI v6)]) (st' := [jI v1, jI r2]) rfl (p1 := 34) rfl ?_
      refine J_icmp_ne B.1 (off := 20) (tgt := 54) (by decide +kernel) (by decide) hf (fun hf => ?_) (fun hf => ?_)
      · refine B_blk B jlkX0_ok jcl_SKF [.aload_n 0, .getfield 9, .iload 6, .iload_n 2] (by decide +kernel) (ls' := [(0, jR 70), (1, jI v1), (2, jI v2), (3, jI v3), (4, jR 24), (5, jI v5), (6, jI v6)]) (st' := [jI v2, jI v6, jR 1]) rfl (p1 := 44) rfl ?_
        obtain ⟨r3, h3, hf⟩ := jbd hf
        refine B_callV B (Nat.le_refl _) (μ' := m) (k' := 0) (n' := 0) ca_X4_isKnown in_X4_isKnown se_X4_isKnown lk_X0_39 (t_X4_isKnown B.tr h3) (Nat.le_refl _) rfl rfl rfl (rest := []) rfl rfl (Nat.le_of_ble_eq_true rfl) (by decide +kernel) rfl rfl (st' := [jI r3]) rfl ?_
        refine J_if_eq B.1 (off := 7) (tgt := 54) (by decide +kernel) (by decide) hf (fun hf => ?_) (fun hf => ?_)
        · refine B_blk B jlkX0_ok jcl_SKF [.iconst 0, .istore 7, .iload 7] (by decide +kernel) (ls' := [(0, jR 70), (1, jI v1), (2, jI v2), (3, jI v3), (4, jR 24), (5, jI v5), (6, jI v6), (7, jI 0)]) (st' := [jI 0]) rfl (p1 := 59) rfl ?_
          refine J_if_eq (T := some ()) (F := none) (r := ()) B.1 (off := 23) (tgt := 82) (by decide +kernel) (by decide) (if_pos (by decide)) (fun _ => ?_) (fun h => nomatch h)
          refine B_blk B jlkX0_ok jcl_SKF [.iinc 6 1, .goto (-70)] (by decide +kernel) (ls' := [(0, jR 70), (1, jI v1), (2, jI v2), (3, jI v3), (4, jR 24), (5, jI v5), (6, jI (jW (v6 + 1))), (7, jI 0)]) (st' := []) rfl (p1 := 15) rfl ?_
          refine J_pick [0, 1, 2, 3, 4, 5, 6] (ls' := [(0, jR 70), (1, jI v1), (2, jI v2), (3, jI v3), (4, jR 24), (5, jI v5), (6, jI (jW (v6 + 1)))]) rfl ?_
          exact ih v1 v2 v3 v5 (jW (v6 + 1)) m _ hf hq
        · refine B_blk B jlkX0_ok jcl_SKF [.iconst 1, .goto 4, .istore 7, .iload 7] (by decide +kernel) (ls' := [(0, jR 70), (1, jI v1), (2, jI v2), (3, jI v3), (4, jR 24), (5, jI v5), (6, jI v6), (7, jI 1)]) (st' := [jI 1]) rfl (p1 := 59) rfl ?_
          refine J_if_eq (T := none) (F := some ()) (r := ()) B.1 (off := 23) (tgt := 82) (by decide +kernel) (by decide) (if_neg (by decide)) (fun h => nomatch h) (fun _ => ?_)
          refine B_blk B jlkX0_ok jcl_SKF [.iload_n 3] (by decide +kernel) (ls' := [(0, jR 70), (1, jI v1), (2, jI v2), (3, jI v3), (4, jR 24), (5, jI v5), (6, jI v6), (7, jI 1)]) (st' := [jI v3]) rfl (p1 := 63) rfl ?_
          refine J_if_eq B.1 (off := 16) (tgt := 79) (by decide +kernel) (by decide) hf (fun hf => ?_) (fun hf => ?_)
          · refine B_blk B jlkX0_ok jcl_SKF [.iinc 5 1, .iinc 6 1, .goto (-70)] (by decide +kernel) (ls' := [(0, jR 70), (1, jI v1), (2, jI v2), (3, jI v3), (4, jR 24), (5, jI (jW (v5 + 1))), (6, jI (jW (v6 + 1))), (7, jI 1)]) (st' := []) rfl (p1 := 15) rfl ?_
            refine J_pick [0, 1, 2, 3, 4, 5, 6] (ls' := [(0, jR 70), (1, jI v1), (2, jI v2), (3, jI v3), (4, jR 24), (5, jI (jW (v5 + 1))), (6, jI (jW (v6 + 1)))]) rfl ?_
            exact ih v1 v2 v3 (jW (v5 + 1)) (jW (v6 + 1)) m _ hf hq
          · refine B_blk B jlkX0_ok jcl_SKF [.aload_n 0, .getfield 9, .iload 6, .iload_n 2] (by decide +kernel) (ls' := [(0, jR 70), (1, jI v1), (2, jI v2), (3, jI v3), (4, jR 24), (5, jI v5), (6, jI v6), (7, jI 1)]) (st' := [jI v2, jI v6, jR 1]) rfl (p1 := 73) rfl ?_
            obtain ⟨r4, h4, hf⟩ := jbd hf
            refine B_callV B (Nat.le_refl _) (μ' := m) (k' := 0) (n' := 0) ca_X4_isPeeled in_X4_isPeeled se_X4_isPeeled lk_X0_76 (t_X4_isPeeled B.tr h4) (Nat.le_refl _) rfl rfl rfl (rest := []) rfl rfl (Nat.le_of_ble_eq_true rfl) (by decide +kernel) rfl rfl (st' := [jI r4]) rfl ?_
            refine J_if_eq B.1 (off := 6) (tgt := 82) (by decide +kernel) (by decide) hf (fun hf => ?_) (fun hf => ?_)
            · refine B_blk B jlkX0_ok jcl_SKF [.iinc 6 1, .goto (-70)] (by decide +kernel) (ls' := [(0, jR 70), (1, jI v1), (2, jI v2), (3, jI v3), (4, jR 24), (5, jI v5), (6, jI (jW (v6 + 1))), (7, jI 1)]) (st' := []) rfl (p1 := 15) rfl ?_
              refine J_pick [0, 1, 2, 3, 4, 5, 6] (ls' := [(0, jR 70), (1, jI v1), (2, jI v2), (3, jI v3), (4, jR 24), (5, jI v5), (6, jI (jW (v6 + 1)))]) rfl ?_
              exact ih v1 v2 v3 v5 (jW (v6 + 1)) m _ hf hq
            · refine B_blk B jlkX0_ok jcl_SKF [.iinc 5 1, .iinc 6 1, .goto (-70)] (by decide +kernel) (ls' := [(0, jR 70), (1, jI v1), (2, jI v2), (3, jI v3), (4, jR 24), (5, jI (jW (v5 + 1))), (6, jI (jW (v6 + 1))), (7, jI 1)]) (st' := []) rfl (p1 := 15) rfl ?_
              refine J_pick [0, 1, 2, 3, 4, 5, 6] (ls' := [(0, jR 70), (1, jI v1), (2, jI v2), (3, jI v3), (4, jR 24), (5, jI (jW (v5 + 1))), (6, jI (jW (v6 + 1)))]) rfl ?_
              exact ih v1 v2 v3 (jW (v5 + 1)) (jW (v6 + 1)) m _ hf hq
      · refine B_blk B jlkX0_ok jcl_SKF [.iconst 0, .istore 7, .iload 7] (by decide +kernel) (ls' := [(0, jR 70), (1, jI v1), (2, jI v2), (3, jI v3), (4, jR 24), (5, jI v5), (6, jI v6), (7, jI 0)]) (st' := [jI 0]) rfl (p1 := 59) rfl ?_
        refine J_if_eq (T := some ()) (F := none) (r := ()) B.1 (off := 23) (tgt := 82) (by decide +kernel) (by decide) (if_pos (by decide)) (fun _ => ?_) (fun h => nomatch h)
        refine B_blk B jlkX0_ok jcl_SKF [.iinc 6 1, .goto (-70)] (by decide +kernel) (ls' := [(0, jR 70), (1, jI v1), (2, jI v2), (3, jI v3), (4, jR 24), (5, jI v5), (6, jI (jW (v6 + 1))), (7, jI 0)]) (st' := []) rfl (p1 := 15) rfl ?_
        refine J_pick [0, 1, 2, 3, 4, 5, 6] (ls' := [(0, jR 70), (1, jI v1), (2, jI v2), (3, jI v3), (4, jR 24), (5, jI v5), (6, jI (jW (v6 + 1)))]) rfl ?_
        exact ih v1 v2 v3 v5 (jW (v6 + 1)) m _ hf hq
theorem t_X0_jobsOf {l : Launch} {G : jG} (hl : l.stackTraces = false) {a0 : Int} {a1 : Int} {a2 : Int} {m : jMu} {r : Int} (hf : f_X0_jobsOf a0 a1 a2 m = some r) : jCt l G yX0_jobsOf (.code yX0_jobsOf cX0_jobsOf 8 (some .int) :: jWG) rm_X0_jobsOf [jR 70, jI a0, jI a1, jI a2] SKF m (.inl (some (jI r))) SKF m := by
  unfold f_X0_jobsOf at hf
  refine J_start (ls0 := [(0, jR 70), (1, jI a0), (2, jI a1), (3, jI a2)]) (by decide +kernel) hl (Nat.le_of_ble_eq_true rfl) rfl fun X C hN hn hR hr hnm hno hq => ?_
  have B : jB X cX0_jobsOf RX0 8 SKF.length rm_X0_jobsOf (some .int) := ⟨C, hN, Nat.le_of_eq hn, hR, hr⟩
  refine B_blk B jlkX0_ok jcl_SKF [.aload_n 0, .getfield 9, .getfield 23, .astore 4, .iconst 0, .istore 5, .iconst 0, .istore 6] (by decide +kernel) (ls' := [(0, jR 70), (1, jI a0), (2, jI a1), (3, jI a2), (4, jR 24), (5, jI 0), (6, jI 0)]) (st' := []) rfl (p1 := 15) rfl ?_
  exact t_X0_jobsOf_L15 B jFU a0 a1 a2 0 0 m _ hf hq

def rm_X9_peels : Room := { frames := 9, cells := 1, slots := 6, locals := 137 }
def f_X9_peels_J29 (v1 : Int) (v2 : Int) (v3 : Int) (m : jMu) : Option (jOut Int) :=
  jthr (f_X9_needIndex 0 m) fun r2 => (if v3 = 0 then (f_X0_jobsOf v1 v2 1 r2.2).bind fun r3 => some (.inr (r3, r2.2)) else (f_X0_jobsOf v1 v2 0 r2.2).bind fun r4 => some (.inr (r4, r2.2)))
def f_X9_peels (a0 : Int) (a1 : Int) (a2 : Int) (m : jMu) : Option (jOut Int) :=
  (f_X5_has 20 21 4 a0 m).bind fun r1 => (if r1 = 0 then f_X9_peels_J29 a0 a1 a2 m else (f_X9_isIn a1 0 199).bind fun r5 => (if r5 = 0 then f_X9_peels_J29 a0 a1 a2 m else jthr (f_X9_needIndex 1 m) fun r6 => (if a2 = 0 then (f_X0_jobsOf a0 a1 1 r6.2).bind fun r7 => some (.inr (r7, r6.2)) else (f_X0_jobsOf a0 a1 0 r6.2).bind fun r8 => some (.inr (r8, r6.2)))))
theorem t_X9_peels_J29 {X : jX} (B : jB X cX9_peels RX9 4 SKF.length rm_X9_peels (some .int)) (hno : ∀ x ∈ (xc X).exceptionTable.toList, False) (v1 : Int) (v2 : Int) (v3 : Int) (m : jMu) (r : (jOut Int)) (hf : f_X9_peels_J29 v1 v2 v3 m = some r) (hq : jQ X (joI r) SKF (joM r) rm_X9_peels.cells rm_X9_peels.slots) : J X SKF m 0 0 29 [(0, jR 0), (1, jI v1), (2, jI v2), (3, jI v3)] [] := by
  unfold f_X9_peels_J29 at hf
  refine B_blk B jlkX9_ok jcl_SKF [.iconst 0] (by decide +kernel) (ls' := [(0, jR 0), (1, jI v1), (2, jI v2), (3, jI v3)]) (st' := [jI 0]) rfl (p1 := 30) rfl ?_
  rcases jthr_s hf with ⟨e2, h2, hf⟩ | ⟨r2, h2, hf⟩
  · cases hf
    exact B_callST B (Nat.le_refl _) hno hq ca_X9_needIndex sa_X9_needIndex lk_X9_125 (t_X9_needIndex B.tr h2) (Nat.le_refl _) rfl (rest := []) rfl rfl (Nat.le_of_ble_eq_true rfl) (by decide +kernel) (Nat.le_of_ble_eq_true rfl) (Nat.le_of_ble_eq_true rfl)
  · refine B_callS B (Nat.le_refl _) (μ' := r2.2) (k' := 1) (n' := 6) ca_X9_needIndex sa_X9_needIndex lk_X9_125 (t_X9_needIndex B.tr h2) (Nat.le_refl _) rfl (rest := []) rfl rfl (Nat.le_of_ble_eq_true rfl) (by decide +kernel) rfl rfl (st' := []) rfl ?_
    refine B_blk B jlkX9_ok jcl_SKF [.aload_n 0, .getfield 56, .iload_n 1, .iload_n 2, .iload_n 3] (by decide +kernel) (ls' := [(0, jR 0), (1, jI v1), (2, jI v2), (3, jI v3)]) (st' := [jI v3, jI v2, jI v1, jR 70]) rfl (p1 := 40) rfl ?_
    refine J_if_ne B.1 (off := 7) (tgt := 47) (by decide +kernel) (by decide) hf (fun hf => ?_) (fun hf => ?_)
    · refine B_blk B jlkX9_ok jcl_SKF [.iconst 1, .goto 4] (by decide +kernel) (ls' := [(0, jR 0), (1, jI v1), (2, jI v2), (3, jI v3)]) (st' := [jI 1, jI v2, jI v1, jR 70]) rfl (p1 := 48) rfl ?_
      obtain ⟨r3, h3, hf⟩ := jbd hf
      refine B_callV B (Nat.le_refl _) (μ' := r2.2) (k' := 1) (n' := 6) ca_X0_jobsOf in_X0_jobsOf se_X0_jobsOf lk_X9_274 (t_X0_jobsOf B.tr h3) (Nat.le_refl _) rfl rfl rfl (rest := []) rfl rfl (Nat.le_of_ble_eq_true rfl) (by decide +kernel) rfl rfl (st' := [jI r3]) rfl ?_
      cases hf
      exact B_retI B hq rfl (Nat.le_of_ble_eq_true rfl) (Nat.le_of_ble_eq_true rfl) (by decide +kernel)
    · refine B_blk B jlkX9_ok jcl_SKF [.iconst 0] (by decide +kernel) (ls' := [(0, jR 0), (1, jI v1), (2, jI v2), (3, jI v3)]) (st' := [jI 0, jI v2, jI v1, jR 70]) rfl (p1 := 48) rfl ?_
      obtain ⟨r4, h4, hf⟩ := jbd hf
      refine B_callV B (Nat.le_refl _) (μ' := r2.2) (k' := 1) (n' := 6) ca_X0_jobsOf in_X0_jobsOf se_X0_jobsOf lk_X9_274 (t_X0_jobsOf B.tr h4) (Nat.le_refl _) rfl rfl rfl (rest := []) rfl rfl (Nat.le_of_ble_eq_true rfl) (by decide +kernel) rfl rfl (st' := [jI r4]) rfl ?_
      cases hf
      exact B_retI B hq rfl (Nat.le_of_ble_eq_true rfl) (Nat.le_of_ble_eq_true rfl) (by decide +kernel)
theorem t_X9_peels {l : Launch} {G : jG} (hl : l.stackTraces = false) {a0 : Int} {a1 : Int} {a2 : Int} {m : jMu} {r : (jOut Int)} (hf : f_X9_peels a0 a1 a2 m = some r) : jCt l G yX9_peels (.code yX9_peels cX9_peels 4 (some .int) :: jWG) rm_X9_peels [jR 0, jI a0, jI a1, jI a2] SKF m (joI r) SKF (joM r) := by
  unfold f_X9_peels at hf
  refine J_start (ls0 := [(0, jR 0), (1, jI a0), (2, jI a1), (3, jI a2)]) (by decide +kernel) hl (Nat.le_of_ble_eq_true rfl) rfl fun X C hN hn hR hr hnm hno hq => ?_
  have B : jB X cX9_peels RX9 4 SKF.length rm_X9_peels (some .int) := ⟨C, hN, Nat.le_of_eq hn, hR, hr⟩
  refine B_blk B jlkX9_ok jcl_SKF [.aload_n 0, .getfield 20, .getfield 180, .iload_n 1] (by decide +kernel) (ls' := [(0, jR 0), (1, jI a0), (2, jI a1), (3, jI a2)]) (st' := [jI a0, jR 20]) rfl (p1 := 8) rfl ?_
  obtain ⟨r1, h1, hf⟩ := jbd hf
  refine B_callV B (Nat.le_refl _) (μ' := m) (k' := 0) (n' := 0) ca_X5_has in_X5_has se_X5_has lk_X9_143 (t_X5_has B.tr jcl_SKF ⟨rfl, rfl, by decide⟩ h1) (Nat.le_refl _) rfl rfl rfl (rest := []) rfl rfl (Nat.le_of_ble_eq_true rfl) (by decide +kernel) rfl rfl (st' := [jI r1]) rfl ?_
  refine J_if_eq B.1 (off := 18) (tgt := 29) (by decide +kernel) (by decide) hf (fun hf => ?_) (fun hf => ?_)
  · exact t_X9_peels_J29 B hno a0 a1 a2 m _ hf hq
  · refine B_blk B jlkX9_ok jcl_SKF [.iload_n 2, .iconst 0, .sipush 199] (by decide +kernel) (ls' := [(0, jR 0), (1, jI a0), (2, jI a1), (3, jI a2)]) (st' := [jI 199, jI 0, jI a1]) rfl (p1 := 19) rfl ?_
    obtain ⟨r5, h5, hf⟩ := jbd hf
    refine B_callS B (Nat.le_refl _) (μ' := m) (k' := 0) (n' := 0) ca_X9_isIn sa_X9_isIn lk_X9_93 (t_X9_isIn B.tr jcl_SKF h5) (Nat.le_refl _) rfl (rest := []) rfl rfl (Nat.le_of_ble_eq_true rfl) (by decide +kernel) rfl rfl (st' := [jI r5]) rfl ?_
    refine J_if_eq B.1 (off := 7) (tgt := 29) (by decide +kernel) (by decide) hf (fun hf => ?_) (fun hf => ?_)
    · exact t_X9_peels_J29 B hno a0 a1 a2 m _ hf hq
    · refine B_blk B jlkX9_ok jcl_SKF [.iconst 1, .goto 4] (by decide +kernel) (ls' := [(0, jR 0), (1, jI a0), (2, jI a1), (3, jI a2)]) (st' := [jI 1]) rfl (p1 := 30) rfl ?_
      rcases jthr_s hf with ⟨e6, h6, hf⟩ | ⟨r6, h6, hf⟩
      · cases hf
        exact B_callST B (Nat.le_refl _) hno hq ca_X9_needIndex sa_X9_needIndex lk_X9_125 (t_X9_needIndex B.tr h6) (Nat.le_refl _) rfl (rest := []) rfl rfl (Nat.le_of_ble_eq_true rfl) (by decide +kernel) (Nat.le_of_ble_eq_true rfl) (Nat.le_of_ble_eq_true rfl)
      · refine B_callS B (Nat.le_refl _) (μ' := r6.2) (k' := 1) (n' := 6) ca_X9_needIndex sa_X9_needIndex lk_X9_125 (t_X9_needIndex B.tr h6) (Nat.le_refl _) rfl (rest := []) rfl rfl (Nat.le_of_ble_eq_true rfl) (by decide +kernel) rfl rfl (st' := []) rfl ?_
        refine B_blk B jlkX9_ok jcl_SKF [.aload_n 0, .getfield 56, .iload_n 1, .iload_n 2, .iload_n 3] (by decide +kernel) (ls' := [(0, jR 0), (1, jI a0), (2, jI a1), (3, jI a2)]) (st' := [jI a2, jI a1, jI a0, jR 70]) rfl (p1 := 40) rfl ?_
        refine J_if_ne B.1 (off := 7) (tgt := 47) (by decide +kernel) (by decide) hf (fun hf => ?_) (fun hf => ?_)
        · refine B_blk B jlkX9_ok jcl_SKF [.iconst 1, .goto 4] (by decide +kernel) (ls' := [(0, jR 0), (1, jI a0), (2, jI a1), (3, jI a2)]) (st' := [jI 1, jI a1, jI a0, jR 70]) rfl (p1 := 48) rfl ?_
          obtain ⟨r7, h7, hf⟩ := jbd hf
          refine B_callV B (Nat.le_refl _) (μ' := r6.2) (k' := 1) (n' := 6) ca_X0_jobsOf in_X0_jobsOf se_X0_jobsOf lk_X9_274 (t_X0_jobsOf B.tr h7) (Nat.le_refl _) rfl rfl rfl (rest := []) rfl rfl (Nat.le_of_ble_eq_true rfl) (by decide +kernel) rfl rfl (st' := [jI r7]) rfl ?_
          cases hf
          exact B_retI B hq rfl (Nat.le_of_ble_eq_true rfl) (Nat.le_of_ble_eq_true rfl) (by decide +kernel)
        · refine B_blk B jlkX9_ok jcl_SKF [.iconst 0] (by decide +kernel) (ls' := [(0, jR 0), (1, jI a0), (2, jI a1), (3, jI a2)]) (st' := [jI 0, jI a1, jI a0, jR 70]) rfl (p1 := 48) rfl ?_
          obtain ⟨r8, h8, hf⟩ := jbd hf
          refine B_callV B (Nat.le_refl _) (μ' := r6.2) (k' := 1) (n' := 6) ca_X0_jobsOf in_X0_jobsOf se_X0_jobsOf lk_X9_274 (t_X0_jobsOf B.tr h8) (Nat.le_refl _) rfl rfl rfl (rest := []) rfl rfl (Nat.le_of_ble_eq_true rfl) (by decide +kernel) rfl rfl (st' := [jI r8]) rfl ?_
          cases hf
          exact B_retI B hq rfl (Nat.le_of_ble_eq_true rfl) (Nat.le_of_ble_eq_true rfl) (by decide +kernel)

def rm_X0_worstGang : Room := { frames := 8, cells := 0, slots := 0, locals := 137 }
def f_X0_worstGang_L10 : Nat → Int → Int → Int → Int → Int → jMu → Option Int
  | 0, _, _, _, _, _, _ => none
  | q + 1, v1, v2, v3, v4, v5, m => (f_X5_size 20 21 4 m).bind fun r1 => (if r1 ≤ v5 then some v2 else (f_X0_jobsOf v5 v1 1 m).bind fun r2 => (f_X0_jobsOf v5 v1 0 m).bind fun r3 => (if jW (r2 * v4) ≤ jW (v3 * r3) then f_X0_worstGang_L10 q v1 v2 v3 v4 (jW (v5 + 1)) m else f_X0_worstGang_L10 q v1 v5 r2 r3 (jW (v5 + 1)) m))
def f_X0_worstGang (a0 : Int) (m : jMu) : Option Int :=
  f_X0_worstGang_L10 jFU a0 (-1) 0 1 0 m
theorem t_X0_worstGang_L10 {X : jX} (B : jB X cX0_worstGang RX0 8 SKF.length rm_X0_worstGang (some .int)) : ∀ (q : Nat) (v1 : Int) (v2 : Int) (v3 : Int) (v4 : Int) (v5 : Int) (m : jMu) (r : Int), f_X0_worstGang_L10 q v1 v2 v3 v4 v5 m = some r → jQ X (.inl (some (jI r))) SKF m rm_X0_worstGang.cells rm_X0_worstGang.slots → J X SKF m 0 0 10 [(0, jR 70), (1, jI v1), (2, jI v2), (3, jI v3), (4, jI v4), (5, jI v5)] [] := by
  intro q
  induction q with
  | zero =>
    intro v1 v2 v3 v4 v5 m r hf
    rw [f_X0_worstGang_L10] at hf
    cases hf
  | succ q ih =>
    intro v1 v2 v3 v4 v5 m r hf hq
    rw [f_X0_worstGang_L10] at hf
    refine B_blk B jlkX0_ok jcl_SKF [.iload 5, .aload_n 0, .getfield 9, .getfield 103] (by decide +kernel) (ls' := [(0, jR 70), (1, jI v1), (2, jI v2), (3, jI v3), (4, jI v4), (5, jI v5)]) (st' := [jR 20, jI v5]) rfl (p1 := 19) rfl ?_
    obtain ⟨r1, h1, hf⟩ := jbd hf
    refine B_callV B (Nat.le_refl _) (μ' := m) (k' := 0) (n' := 0) ca_X5_size in_X5_size se_X5_size lk_X0_29 (t_X5_size B.tr jcl_SKF ⟨rfl, rfl, by decide⟩ h1) (Nat.le_refl _) rfl rfl rfl (rest := [jI v5]) rfl rfl (Nat.le_of_ble_eq_true rfl) (by decide +kernel) rfl rfl (st' := [jI r1, jI v5]) rfl ?_
    refine J_icmp_ge B.1 (off := 51) (tgt := 73) (by decide +kernel) (by decide) hf (fun hf => ?_) (fun hf => ?_)
    · refine B_blk B jlkX0_ok jcl_SKF [.iload_n 2] (by decide +kernel) (ls' := [(0, jR 70), (1, jI v1), (2, jI v2), (3, jI v3), (4, jI v4), (5, jI v5)]) (st' := [jI v2]) rfl (p1 := 74) rfl ?_
      cases hf
      exact B_retI B hq rfl (Nat.le_of_ble_eq_true rfl) (Nat.le_of_ble_eq_true rfl) (by decide +kernel)
    · refine B_blk B jlkX0_ok jcl_SKF [.aload_n 0, .iload 5, .iload_n 1, .iconst 1] (by decide +kernel) (ls' := [(0, jR 70), (1, jI v1), (2, jI v2), (3, jI v3), (4, jI v4), (5, jI v5)]) (st' := [jI 1, jI v1, jI v5, jR 70]) rfl (p1 := 30) rfl ?_
      obtain ⟨r2, h2, hf⟩ := jbd hf
      refine B_callV B (Nat.le_refl _) (μ' := m) (k' := 0) (n' := 0) ca_X0_jobsOf in_X0_jobsOf se_X0_jobsOf lk_X0_106 (t_X0_jobsOf B.tr h2) (Nat.le_refl _) rfl rfl rfl (rest := []) rfl rfl (Nat.le_of_ble_eq_true rfl) (by decide +kernel) rfl rfl (st' := [jI r2]) rfl ?_
      refine B_blk B jlkX0_ok jcl_SKF [.istore 6, .aload_n 0, .iload 5, .iload_n 1, .iconst 0] (by decide +kernel) (ls' := [(0, jR 70), (1, jI v1), (2, jI v2), (3, jI v3), (4, jI v4), (5, jI v5), (6, jI r2)]) (st' := [jI 0, jI v1, jI v5, jR 70]) rfl (p1 := 40) rfl ?_
      obtain ⟨r3, h3, hf⟩ := jbd hf
      refine B_callV B (Nat.le_refl _) (μ' := m) (k' := 0) (n' := 0) ca_X0_jobsOf in_X0_jobsOf se_X0_jobsOf lk_X0_106 (t_X0_jobsOf B.tr h3) (Nat.le_refl _) rfl rfl rfl (rest := []) rfl rfl (Nat.le_of_ble_eq_true rfl) (by decide +kernel) rfl rfl (st' := [jI r3]) rfl ?_
      refine B_blk B jlkX0_ok jcl_SKF [.istore 7, .iload 6, .iload 4, .imul, .iload_n 3, .iload 7, .imul] (by decide +kernel) (ls' := [(0, jR 70), (1, jI v1), (2, jI v2), (3, jI v3), (4, jI v4), (5, jI v5), (6, jI r2), (7, jI r3)]) (st' := [jI (jW (v3 * r3)), jI (jW (r2 * v4))]) rfl (p1 := 54) rfl ?_
      refine J_icmp_le B.1 (off := 13) (tgt := 67) (by decide +kernel) (by decide) hf (fun hf => ?_) (fun hf => ?_)
      · refine B_blk B jlkX0_ok jcl_SKF [.iinc 5 1, .goto (-60)] (by decide +kernel) (ls' := [(0, jR 70), (1, jI v1), (2, jI v2), (3, jI v3), (4, jI v4), (5, jI (jW (v5 + 1))), (6, jI r2), (7, jI r3)]) (st' := []) rfl (p1 := 10) rfl ?_
        refine J_pick [0, 1, 2, 3, 4, 5] (ls' := [(0, jR 70), (1, jI v1), (2, jI v2), (3, jI v3), (4, jI v4), (5, jI (jW (v5 + 1)))]) rfl ?_
        exact ih v1 v2 v3 v4 (jW (v5 + 1)) m _ hf hq
      · refine B_blk B jlkX0_ok jcl_SKF [.iload 5, .istore_n 2, .iload 6, .istore_n 3, .iload 7, .istore 4, .iinc 5 1, .goto (-60)] (by decide +kernel) (ls' := [(0, jR 70), (1, jI v1), (2, jI v5), (3, jI r2), (4, jI r3), (5, jI (jW (v5 + 1))), (6, jI r2), (7, jI r3)]) (st' := []) rfl (p1 := 10) rfl ?_
        refine J_pick [0, 1, 2, 3, 4, 5] (ls' := [(0, jR 70), (1, jI v1), (2, jI v5), (3, jI r2), (4, jI r3), (5, jI (jW (v5 + 1)))]) rfl ?_
        exact ih v1 v5 r2 r3 (jW (v5 + 1)) m _ hf hq
theorem t_X0_worstGang {l : Launch} {G : jG} (hl : l.stackTraces = false) {a0 : Int} {m : jMu} {r : Int} (hf : f_X0_worstGang a0 m = some r) : jCt l G yX0_worstGang (.code yX0_worstGang cX0_worstGang 8 (some .int) :: jWG) rm_X0_worstGang [jR 70, jI a0] SKF m (.inl (some (jI r))) SKF m := by
  unfold f_X0_worstGang at hf
  refine J_start (ls0 := [(0, jR 70), (1, jI a0)]) (by decide +kernel) hl (Nat.le_of_ble_eq_true rfl) rfl fun X C hN hn hR hr hnm hno hq => ?_
  have B : jB X cX0_worstGang RX0 8 SKF.length rm_X0_worstGang (some .int) := ⟨C, hN, Nat.le_of_eq hn, hR, hr⟩
  refine B_blk B jlkX0_ok jcl_SKF [.iconst (-1), .istore_n 2, .iconst 0, .istore_n 3, .iconst 1, .istore 4, .iconst 0, .istore 5] (by decide +kernel) (ls' := [(0, jR 70), (1, jI a0), (2, jI (-1)), (3, jI 0), (4, jI 1), (5, jI 0)]) (st' := []) rfl (p1 := 10) rfl ?_
  exact t_X0_worstGang_L10 B jFU a0 (-1) 0 1 0 m _ hf hq

def rm_X9_worst : Room := { frames := 10, cells := 1, slots := 6, locals := 164 }
def f_X9_worst (a0 : Int) (m : jMu) : Option (jOut Int) :=
  (f_X9_isIn a0 0 199).bind fun r1 => jthr (f_X9_needIndex r1 m) fun r2 => (f_X0_worstGang a0 r2.2).bind fun r3 => some (.inr (r3, r2.2))
theorem t_X9_worst {l : Launch} {G : jG} (hl : l.stackTraces = false) {a0 : Int} {m : jMu} {r : (jOut Int)} (hf : f_X9_worst a0 m = some r) : jCt l G yX9_worst (.code yX9_worst cX9_worst 2 (some .int) :: jWG) rm_X9_worst [jR 0, jI a0] SKF m (joI r) SKF (joM r) := by
  unfold f_X9_worst at hf
  refine J_start (ls0 := [(0, jR 0), (1, jI a0)]) (by decide +kernel) hl (Nat.le_of_ble_eq_true rfl) rfl fun X C hN hn hR hr hnm hno hq => ?_
  have B : jB X cX9_worst RX9 2 SKF.length rm_X9_worst (some .int) := ⟨C, hN, Nat.le_of_eq hn, hR, hr⟩
  refine B_blk B jlkX9_ok jcl_SKF [.iload_n 1, .iconst 0, .sipush 199] (by decide +kernel) (ls' := [(0, jR 0), (1, jI a0)]) (st' := [jI 199, jI 0, jI a0]) rfl (p1 := 5) rfl ?_
  obtain ⟨r1, h1, hf⟩ := jbd hf
  refine B_callS B (Nat.le_refl _) (μ' := m) (k' := 0) (n' := 0) ca_X9_isIn sa_X9_isIn lk_X9_93 (t_X9_isIn B.tr jcl_SKF h1) (Nat.le_refl _) rfl (rest := []) rfl rfl (Nat.le_of_ble_eq_true rfl) (by decide +kernel) rfl rfl (st' := [jI r1]) rfl ?_
  rcases jthr_s hf with ⟨e2, h2, hf⟩ | ⟨r2, h2, hf⟩
  · cases hf
    exact B_callST B (Nat.le_refl _) hno hq ca_X9_needIndex sa_X9_needIndex lk_X9_125 (t_X9_needIndex B.tr h2) (Nat.le_refl _) rfl (rest := []) rfl rfl (Nat.le_of_ble_eq_true rfl) (by decide +kernel) (Nat.le_of_ble_eq_true rfl) (Nat.le_of_ble_eq_true rfl)
  · refine B_callS B (Nat.le_refl _) (μ' := r2.2) (k' := 1) (n' := 6) ca_X9_needIndex sa_X9_needIndex lk_X9_125 (t_X9_needIndex B.tr h2) (Nat.le_refl _) rfl (rest := []) rfl rfl (Nat.le_of_ble_eq_true rfl) (by decide +kernel) rfl rfl (st' := []) rfl ?_
    refine B_blk B jlkX9_ok jcl_SKF [.aload_n 0, .getfield 56, .iload_n 1] (by decide +kernel) (ls' := [(0, jR 0), (1, jI a0)]) (st' := [jI a0, jR 70]) rfl (p1 := 16) rfl ?_
    obtain ⟨r3, h3, hf⟩ := jbd hf
    refine B_callV B (Nat.le_refl _) (μ' := r2.2) (k' := 1) (n' := 6) ca_X0_worstGang in_X0_worstGang se_X0_worstGang lk_X9_277 (t_X0_worstGang B.tr h3) (Nat.le_refl _) rfl rfl rfl (rest := []) rfl rfl (Nat.le_of_ble_eq_true rfl) (by decide +kernel) rfl rfl (st' := [jI r3]) rfl ?_
    cases hf
    exact B_retI B hq rfl (Nat.le_of_ble_eq_true rfl) (Nat.le_of_ble_eq_true rfl) (by decide +kernel)

def rm_X1_windAtHeight : Room := { frames := 2, cells := 0, slots := 0, locals := 64 }
def f_X1_windAtHeight (m : jMu) : Option Int :=
  some (jW (m 32 7 * m 32 9))
theorem t_X1_windAtHeight {l : Launch} {G : jG} (hl : l.stackTraces = false) {m : jMu} {r : Int} (hf : f_X1_windAtHeight m = some r) : jCt l G yX1_windAtHeight (.code yX1_windAtHeight cX1_windAtHeight 1 (some .int) :: jWG) rm_X1_windAtHeight [jR 32] SKF m (.inl (some (jI r))) SKF m := by
  unfold f_X1_windAtHeight at hf
  refine J_start (ls0 := [(0, jR 32)]) (by decide +kernel) hl (Nat.le_of_ble_eq_true rfl) rfl fun X C hN hn hR hr hnm hno hq => ?_
  have B : jB X cX1_windAtHeight RX1 1 SKF.length rm_X1_windAtHeight (some .int) := ⟨C, hN, Nat.le_of_eq hn, hR, hr⟩
  refine B_blk B jlkX1_ok jcl_SKF [.aload_n 0, .getfield 86, .aload_n 0, .getfield 34, .imul] (by decide +kernel) (ls' := [(0, jR 32)]) (st' := [jI (jW (m 32 7 * m 32 9))]) rfl (p1 := 9) rfl ?_
  cases hf
  exact B_retI B hq rfl (Nat.le_of_ble_eq_true rfl) (Nat.le_of_ble_eq_true rfl) (by decide +kernel)

def rm_X0_riskOf : Room := { frames := 8, cells := 0, slots := 0, locals := 139 }
def f_X0_riskOf_L58 : Nat → Int → Int → Int → Int → Int → jMu → Option (Int × jMu)
  | 0, _, _, _, _, _, _ => none
  | q + 1, v2, v3, v4, v5, v6, m => (if v4 ≤ v6 then some (v5, m) else (f_X1_stand v2 v6 m).bind fun r5 => (f_X1_whyHere v3 r5).bind fun r6 => (if r6 = 0 then (f_X1_windAtHeight r5).bind fun r7 => f_X0_riskOf_L58 q v2 v3 v4 (jW (v5 + r7)) (jW (v6 + 1)) r5 else f_X0_riskOf_L58 q v2 v3 v4 v5 (jW (v6 + 1)) r5))
def f_X0_riskOf (a0 : Int) (m : jMu) : Option (Int × jMu) :=
  (f_X5_get 24 25 320 a0 0 m).bind fun r1 => (f_X5_get 24 25 320 a0 7 m).bind fun r2 => (f_X5_get 24 25 320 a0 4 m).bind fun r3 => (f_X5_get 24 25 320 a0 3 m).bind fun r4 => f_X0_riskOf_L58 jFU r1 r2 r3 0 r4 m
theorem t_X0_riskOf_L58 {X : jX} (B : jB X cX0_riskOf RX0 7 SKF.length rm_X0_riskOf (some .int)) : ∀ (q : Nat) (v2 : Int) (v3 : Int) (v4 : Int) (v5 : Int) (v6 : Int) (m : jMu) (r : (Int × jMu)), f_X0_riskOf_L58 q v2 v3 v4 v5 v6 m = some r → jQ X (.inl (some (jI r.1))) SKF r.2 rm_X0_riskOf.cells rm_X0_riskOf.slots → J X SKF m 0 0 58 [(0, jR 70), (2, jI v2), (3, jI v3), (4, jI v4), (5, jI v5), (6, jI v6)] [] := by
  intro q
  induction q with
  | zero =>
    intro v2 v3 v4 v5 v6 m r hf
    rw [f_X0_riskOf_L58] at hf
    cases hf
  | succ q ih =>
    intro v2 v3 v4 v5 v6 m r hf hq
    rw [f_X0_riskOf_L58] at hf
    refine B_blk B jlkX0_ok jcl_SKF [.iload 6, .iload 4] (by decide +kernel) (ls' := [(0, jR 70), (2, jI v2), (3, jI v3), (4, jI v4), (5, jI v5), (6, jI v6)]) (st' := [jI v4, jI v6]) rfl (p1 := 62) rfl ?_
    refine J_icmp_ge B.1 (off := 42) (tgt := 104) (by decide +kernel) (by decide) hf (fun hf => ?_) (fun hf => ?_)
    · refine B_blk B jlkX0_ok jcl_SKF [.iload 5] (by decide +kernel) (ls' := [(0, jR 70), (2, jI v2), (3, jI v3), (4, jI v4), (5, jI v5), (6, jI v6)]) (st' := [jI v5]) rfl (p1 := 106) rfl ?_
      cases hf
      exact B_retI B hq rfl (Nat.le_of_ble_eq_true rfl) (Nat.le_of_ble_eq_true rfl) (by decide +kernel)
    · refine B_blk B jlkX0_ok jcl_SKF [.aload_n 0, .getfield 15, .iload_n 2, .iload 6] (by decide +kernel) (ls' := [(0, jR 70), (2, jI v2), (3, jI v3), (4, jI v4), (5, jI v5), (6, jI v6)]) (st' := [jI v6, jI v2, jR 32]) rfl (p1 := 72) rfl ?_
      obtain ⟨r5, h5, hf⟩ := jbd hf
      refine B_callV B (Nat.le_refl _) (μ' := r5) (k' := 0) (n' := 0) ca_X1_stand in_X1_stand se_X1_stand lk_X0_67 (t_X1_stand B.tr h5) (Nat.le_refl _) rfl rfl rfl (rest := []) rfl rfl (Nat.le_of_ble_eq_true rfl) (by decide +kernel) rfl rfl (st' := []) rfl ?_
      refine B_blk B jlkX0_ok jcl_SKF [.aload_n 0, .getfield 15, .iload_n 3] (by decide +kernel) (ls' := [(0, jR 70), (2, jI v2), (3, jI v3), (4, jI v4), (5, jI v5), (6, jI v6)]) (st' := [jI v3, jR 32]) rfl (p1 := 80) rfl ?_
      obtain ⟨r6, h6, hf⟩ := jbd hf
      refine B_callV B (Nat.le_refl _) (μ' := r5) (k' := 0) (n' := 0) ca_X1_whyHere in_X1_whyHere se_X1_whyHere lk_X0_110 (t_X1_whyHere B.tr h6) (Nat.le_refl _) rfl rfl rfl (rest := []) rfl rfl (Nat.le_of_ble_eq_true rfl) (by decide +kernel) rfl rfl (st' := [jI r6]) rfl ?_
      refine J_if_ne B.1 (off := 15) (tgt := 98) (by decide +kernel) (by decide) hf (fun hf => ?_) (fun hf => ?_)
      · refine B_blk B jlkX0_ok jcl_SKF [.iload 5, .aload_n 0, .getfield 15] (by decide +kernel) (ls' := [(0, jR 70), (2, jI v2), (3, jI v3), (4, jI v4), (5, jI v5), (6, jI v6)]) (st' := [jR 32, jI v5]) rfl (p1 := 92) rfl ?_
        obtain ⟨r7, h7, hf⟩ := jbd hf
        refine B_callV B (Nat.le_refl _) (μ' := r5) (k' := 0) (n' := 0) ca_X1_windAtHeight in_X1_windAtHeight se_X1_windAtHeight lk_X0_113 (t_X1_windAtHeight B.tr h7) (Nat.le_refl _) rfl rfl rfl (rest := [jI v5]) rfl rfl (Nat.le_of_ble_eq_true rfl) (by decide +kernel) rfl rfl (st' := [jI r7, jI v5]) rfl ?_
        refine B_blk B jlkX0_ok jcl_SKF [.iadd, .istore 5, .iinc 6 1, .goto (-43)] (by decide +kernel) (ls' := [(0, jR 70), (2, jI v2), (3, jI v3), (4, jI v4), (5, jI (jW (v5 + r7))), (6, jI (jW (v6 + 1)))]) (st' := []) rfl (p1 := 58) rfl ?_
        exact ih v2 v3 v4 (jW (v5 + r7)) (jW (v6 + 1)) r5 _ hf hq
      · refine B_blk B jlkX0_ok jcl_SKF [.iinc 6 1, .goto (-43)] (by decide +kernel) (ls' := [(0, jR 70), (2, jI v2), (3, jI v3), (4, jI v4), (5, jI v5), (6, jI (jW (v6 + 1)))]) (st' := []) rfl (p1 := 58) rfl ?_
        exact ih v2 v3 v4 v5 (jW (v6 + 1)) r5 _ hf hq
theorem t_X0_riskOf {l : Launch} {G : jG} (hl : l.stackTraces = false) {a0 : Int} {m : jMu} {r : (Int × jMu)} (hf : f_X0_riskOf a0 m = some r) : jCt l G yX0_riskOf (.code yX0_riskOf cX0_riskOf 7 (some .int) :: jWG) rm_X0_riskOf [jR 70, jI a0] SKF m (.inl (some (jI r.1))) SKF r.2 := by
  unfold f_X0_riskOf at hf
  refine J_start (ls0 := [(0, jR 70), (1, jI a0)]) (by decide +kernel) hl (Nat.le_of_ble_eq_true rfl) rfl fun X C hN hn hR hr hnm hno hq => ?_
  have B : jB X cX0_riskOf RX0 7 SKF.length rm_X0_riskOf (some .int) := ⟨C, hN, Nat.le_of_eq hn, hR, hr⟩
  refine B_blk B jlkX0_ok jcl_SKF [.aload_n 0, .getfield 9, .getfield 23, .iload_n 1, .iconst 0] (by decide +kernel) (ls' := [(0, jR 70), (1, jI a0)]) (st' := [jI 0, jI a0, jR 24]) rfl (p1 := 9) rfl ?_
  obtain ⟨r1, h1, hf⟩ := jbd hf
  refine B_callV B (Nat.le_refl _) (μ' := m) (k' := 0) (n' := 0) ca_X5_get in_X5_get se_X5_get lk_X0_35 (t_X5_get B.tr jcl_SKF ⟨rfl, rfl, by decide⟩ h1) (Nat.le_refl _) rfl rfl rfl (rest := []) rfl rfl (Nat.le_of_ble_eq_true rfl) (by decide +kernel) rfl rfl (st' := [jI r1]) rfl ?_
  refine B_blk B jlkX0_ok jcl_SKF [.istore_n 2, .aload_n 0, .getfield 9, .getfield 23, .iload_n 1, .bipush 7] (by decide +kernel) (ls' := [(0, jR 70), (1, jI a0), (2, jI r1)]) (st' := [jI 7, jI a0, jR 24]) rfl (p1 := 23) rfl ?_
  obtain ⟨r2, h2, hf⟩ := jbd hf
  refine B_callV B (Nat.le_refl _) (μ' := m) (k' := 0) (n' := 0) ca_X5_get in_X5_get se_X5_get lk_X0_35 (t_X5_get B.tr jcl_SKF ⟨rfl, rfl, by decide⟩ h2) (Nat.le_refl _) rfl rfl rfl (rest := []) rfl rfl (Nat.le_of_ble_eq_true rfl) (by decide +kernel) rfl rfl (st' := [jI r2]) rfl ?_
  refine B_blk B jlkX0_ok jcl_SKF [.istore_n 3, .aload_n 0, .getfield 9, .getfield 23, .iload_n 1, .iconst 4] (by decide +kernel) (ls' := [(0, jR 70), (1, jI a0), (2, jI r1), (3, jI r2)]) (st' := [jI 4, jI a0, jR 24]) rfl (p1 := 36) rfl ?_
  obtain ⟨r3, h3, hf⟩ := jbd hf
  refine B_callV B (Nat.le_refl _) (μ' := m) (k' := 0) (n' := 0) ca_X5_get in_X5_get se_X5_get lk_X0_35 (t_X5_get B.tr jcl_SKF ⟨rfl, rfl, by decide⟩ h3) (Nat.le_refl _) rfl rfl rfl (rest := []) rfl rfl (Nat.le_of_ble_eq_true rfl) (by decide +kernel) rfl rfl (st' := [jI r3]) rfl ?_
  refine B_blk B jlkX0_ok jcl_SKF [.istore 4, .iconst 0, .istore 5, .aload_n 0, .getfield 9, .getfield 23, .iload_n 1, .iconst 3] (by decide +kernel) (ls' := [(0, jR 70), (1, jI a0), (2, jI r1), (3, jI r2), (4, jI r3), (5, jI 0)]) (st' := [jI 3, jI a0, jR 24]) rfl (p1 := 53) rfl ?_
  obtain ⟨r4, h4, hf⟩ := jbd hf
  refine B_callV B (Nat.le_refl _) (μ' := m) (k' := 0) (n' := 0) ca_X5_get in_X5_get se_X5_get lk_X0_35 (t_X5_get B.tr jcl_SKF ⟨rfl, rfl, by decide⟩ h4) (Nat.le_refl _) rfl rfl rfl (rest := []) rfl rfl (Nat.le_of_ble_eq_true rfl) (by decide +kernel) rfl rfl (st' := [jI r4]) rfl ?_
  refine B_blk B jlkX0_ok jcl_SKF [.istore 6] (by decide +kernel) (ls' := [(0, jR 70), (1, jI a0), (2, jI r1), (3, jI r2), (4, jI r3), (5, jI 0), (6, jI r4)]) (st' := []) rfl (p1 := 58) rfl ?_
  refine J_pick [0, 2, 3, 4, 5, 6] (ls' := [(0, jR 70), (2, jI r1), (3, jI r2), (4, jI r3), (5, jI 0), (6, jI r4)]) rfl ?_
  exact t_X0_riskOf_L58 B jFU r1 r2 r3 0 r4 m _ hf hq

def rm_X9_risk : Room := { frames := 10, cells := 1, slots := 6, locals := 165 }
def f_X9_risk (a0 : Int) (m : jMu) : Option (jOut Int) :=
  (f_X5_has 24 25 320 a0 m).bind fun r1 => jthr (f_X9_needIndex r1 m) fun r2 => (f_X0_riskOf a0 r2.2).bind fun r3 => some (.inr (r3.1, r3.2))
theorem t_X9_risk {l : Launch} {G : jG} (hl : l.stackTraces = false) {a0 : Int} {m : jMu} {r : (jOut Int)} (hf : f_X9_risk a0 m = some r) : jCt l G yX9_risk (.code yX9_risk cX9_risk 2 (some .int) :: jWG) rm_X9_risk [jR 0, jI a0] SKF m (joI r) SKF (joM r) := by
  unfold f_X9_risk at hf
  refine J_start (ls0 := [(0, jR 0), (1, jI a0)]) (by decide +kernel) hl (Nat.le_of_ble_eq_true rfl) rfl fun X C hN hn hR hr hnm hno hq => ?_
  have B : jB X cX9_risk RX9 2 SKF.length rm_X9_risk (some .int) := ⟨C, hN, Nat.le_of_eq hn, hR, hr⟩
  refine B_blk B jlkX9_ok jcl_SKF [.aload_n 0, .getfield 20, .getfield 199, .iload_n 1] (by decide +kernel) (ls' := [(0, jR 0), (1, jI a0)]) (st' := [jI a0, jR 24]) rfl (p1 := 8) rfl ?_
  obtain ⟨r1, h1, hf⟩ := jbd hf
  refine B_callV B (Nat.le_refl _) (μ' := m) (k' := 0) (n' := 0) ca_X5_has in_X5_has se_X5_has lk_X9_143 (t_X5_has B.tr jcl_SKF ⟨rfl, rfl, by decide⟩ h1) (Nat.le_refl _) rfl rfl rfl (rest := []) rfl rfl (Nat.le_of_ble_eq_true rfl) (by decide +kernel) rfl rfl (st' := [jI r1]) rfl ?_
  rcases jthr_s hf with ⟨e2, h2, hf⟩ | ⟨r2, h2, hf⟩
  · cases hf
    exact B_callST B (Nat.le_refl _) hno hq ca_X9_needIndex sa_X9_needIndex lk_X9_125 (t_X9_needIndex B.tr h2) (Nat.le_refl _) rfl (rest := []) rfl rfl (Nat.le_of_ble_eq_true rfl) (by decide +kernel) (Nat.le_of_ble_eq_true rfl) (Nat.le_of_ble_eq_true rfl)
  · refine B_callS B (Nat.le_refl _) (μ' := r2.2) (k' := 1) (n' := 6) ca_X9_needIndex sa_X9_needIndex lk_X9_125 (t_X9_needIndex B.tr h2) (Nat.le_refl _) rfl (rest := []) rfl rfl (Nat.le_of_ble_eq_true rfl) (by decide +kernel) rfl rfl (st' := []) rfl ?_
    refine B_blk B jlkX9_ok jcl_SKF [.aload_n 0, .getfield 56, .iload_n 1] (by decide +kernel) (ls' := [(0, jR 0), (1, jI a0)]) (st' := [jI a0, jR 70]) rfl (p1 := 19) rfl ?_
    obtain ⟨r3, h3, hf⟩ := jbd hf
    refine B_callV B (Nat.le_refl _) (μ' := r3.2) (k' := 1) (n' := 6) ca_X0_riskOf in_X0_riskOf se_X0_riskOf lk_X9_280 (t_X0_riskOf B.tr h3) (Nat.le_refl _) rfl rfl rfl (rest := []) rfl rfl (Nat.le_of_ble_eq_true rfl) (by decide +kernel) rfl rfl (st' := [jI r3.1]) rfl ?_
    cases hf
    exact B_retI B hq rfl (Nat.le_of_ble_eq_true rfl) (Nat.le_of_ble_eq_true rfl) (by decide +kernel)

def rm_X0_nearestBatch : Room := { frames := 8, cells := 0, slots := 0, locals := 131 }
def f_X0_nearestBatch_L18 : Nat → Int → Int → Int → Int → Int → jMu → Option Int
  | 0, _, _, _, _, _, _ => none
  | q + 1, v1, v2, v4, v5, v6, m => (f_X5_size 22 23 24 m).bind fun r1 => (if r1 ≤ v6 then some v4 else (f_X5_get 22 23 24 v6 3 m).bind fun r2 => (f_X5_get 22 23 24 v6 2 m).bind fun r3 => (jlt ((if 0 ≤ jW (r3 - v1) then jW (r3 - v1) else jW (0 - jW (r3 - v1)))) fun x4 => (if r2 = (-1) then (if v5 ≤ x4 then f_X0_nearestBatch_L18 q v1 v2 v4 v5 (jW (v6 + 1)) m else (f_X4_tinsLeft v6 m).bind fun r5 => (if r5 ≤ 0 then f_X0_nearestBatch_L18 q v1 v2 v4 v5 (jW (v6 + 1)) m else f_X0_nearestBatch_L18 q v1 v2 v6 x4 (jW (v6 + 1)) m)) else (if r2 ≤ v2 then f_X0_nearestBatch_L18 q v1 v2 v4 v5 (jW (v6 + 1)) m else (if v5 ≤ x4 then f_X0_nearestBatch_L18 q v1 v2 v4 v5 (jW (v6 + 1)) m else (f_X4_tinsLeft v6 m).bind fun r6 => (if r6 ≤ 0 then f_X0_nearestBatch_L18 q v1 v2 v4 v5 (jW (v6 + 1)) m else f_X0_nearestBatch_L18 q v1 v2 v6 x4 (jW (v6 + 1)) m))))))
def f_X0_nearestBatch (a0 : Int) (a1 : Int) (m : jMu) : Option Int :=
  f_X0_nearestBatch_L18 jFU a0 a1 (-1) 1000000000 0 m
theorem t_X0_nearestBatch_L18 {X : jX} (B : jB X cX0_nearestBatch RX0 10 SKF.length rm_X0_nearestBatch (some .int)) : ∀ (q : Nat) (v1 : Int) (v2 : Int) (v4 : Int) (v5 : Int) (v6 : Int) (m : jMu) (r : Int), f_X0_nearestBatch_L18 q v1 v2 v4 v5 v6 m = some r → jQ X (.inl (some (jI r))) SKF m rm_X0_nearestBatch.cells rm_X0_nearestBatch.slots → J X SKF m 0 0 18 [(0, jR 70), (1, jI v1), (2, jI v2), (3, jR 22), (4, jI v4), (5, jI v5), (6, jI v6)] [] := by
  intro q
  induction q with
  | zero =>
    intro v1 v2 v4 v5 v6 m r hf
    rw [f_X0_nearestBatch_L18] at hf
    cases hf
  | succ q ih =>
    intro v1 v2 v4 v5 v6 m r hf hq
    rw [f_X0_nearestBatch_L18] at hf
    refine B_blk B jlkX0_ok jcl_SKF [.iload 6, .aload_n 3] (by decide +kernel) (ls' := [(0, jR 70), (1, jI v1), (2, jI v2), (3, jR 22), (4, jI v4), (5, jI v5), (6, jI v6)]) (st' := [jR 22, jI v6]) rfl (p1 := 21) rfl ?_
    obtain ⟨r1, h1, hf⟩ := jbd hf
    refine B_callV B (Nat.le_refl _) (μ' := m) (k' := 0) (n' := 0) ca_X5_size in_X5_size se_X5_size lk_X0_29 (t_X5_size B.tr jcl_SKF ⟨rfl, rfl, by decide⟩ h1) (Nat.le_refl _) rfl rfl rfl (rest := [jI v6]) rfl rfl (Nat.le_of_ble_eq_true rfl) (by decide +kernel) rfl rfl (st' := [jI r1, jI v6]) rfl ?_
    refine J_icmp_ge B.1 (off := 83) (tgt := 107) (by decide +kernel) (by decide) hf (fun hf => ?_) (fun hf => ?_)
    · refine B_blk B jlkX0_ok jcl_SKF [.iload 4] (by decide +kernel) (ls' := [(0, jR 70), (1, jI v1), (2, jI v2), (3, jR 22), (4, jI v4), (5, jI v5), (6, jI v6)]) (st' := [jI v4]) rfl (p1 := 109) rfl ?_
      cases hf
      exact B_retI B hq rfl (Nat.le_of_ble_eq_true rfl) (Nat.le_of_ble_eq_true rfl) (by decide +kernel)
    · refine B_blk B jlkX0_ok jcl_SKF [.aload_n 3, .iload 6, .iconst 3] (by decide +kernel) (ls' := [(0, jR 70), (1, jI v1), (2, jI v2), (3, jR 22), (4, jI v4), (5, jI v5), (6, jI v6)]) (st' := [jI 3, jI v6, jR 22]) rfl (p1 := 31) rfl ?_
      obtain ⟨r2, h2, hf⟩ := jbd hf
      refine B_callV B (Nat.le_refl _) (μ' := m) (k' := 0) (n' := 0) ca_X5_get in_X5_get se_X5_get lk_X0_35 (t_X5_get B.tr jcl_SKF ⟨rfl, rfl, by decide⟩ h2) (Nat.le_refl _) rfl rfl rfl (rest := []) rfl rfl (Nat.le_of_ble_eq_true rfl) (by decide +kernel) rfl rfl (st' := [jI r2]) rfl ?_
      refine B_blk B jlkX0_ok jcl_SKF [.istore 7, .aload_n 3, .iload 6, .iconst 2] (by decide +kernel) (ls' := [(0, jR 70), (1, jI v1), (2, jI v2), (3, jR 22), (4, jI v4), (5, jI v5), (6, jI v6), (7, jI r2)]) (st' := [jI 2, jI v6, jR 22]) rfl (p1 := 40) rfl ?_
      obtain ⟨r3, h3, hf⟩ := jbd hf
      refine B_callV B (Nat.le_refl _) (μ' := m) (k' := 0) (n' := 0) ca_X5_get in_X5_get se_X5_get lk_X0_35 (t_X5_get B.tr jcl_SKF ⟨rfl, rfl, by decide⟩ h3) (Nat.le_refl _) rfl rfl rfl (rest := []) rfl rfl (Nat.le_of_ble_eq_true rfl) (by decide +kernel) rfl rfl (st' := [jI r3]) rfl ?_
      refine B_blk B jlkX0_ok jcl_SKF [.iload_n 1, .isub] (by decide +kernel) (ls' := [(0, jR 70), (1, jI v1), (2, jI v2), (3, jR 22), (4, jI v4), (5, jI v5), (6, jI v6), (7, jI r2)]) (st' := [jI (jW (r3 - v1))]) rfl (p1 := 45) rfl ?_
      refine J_abs B.1 lk_X0_117 sa_abs ii_J9 jca_abs B.2.2.2.1 (Nat.le_of_ble_eq_true rfl) (Nat.le_of_ble_eq_true rfl) (Nat.le_of_ble_eq_true rfl) (Nat.le_of_ble_eq_true rfl) (by decide +kernel) ?_
      refine B_blk B jlkX0_ok jcl_SKF [.istore 8] (by decide +kernel) (ls' := [(0, jR 70), (1, jI v1), (2, jI v2), (3, jR 22), (4, jI v4), (5, jI v5), (6, jI v6), (7, jI r2), (8, jI (if 0 ≤ jW (r3 - v1) then jW (r3 - v1) else jW (0 - jW (r3 - v1))))]) (st' := []) rfl (p1 := 50) rfl ?_
      obtain ⟨x4, hx4, hf⟩ := jlt_s hf
      rw [hx4]
      refine B_blk B jlkX0_ok jcl_SKF [.iload 7, .iconst (-1)] (by decide +kernel) (ls' := [(0, jR 70), (1, jI v1), (2, jI v2), (3, jR 22), (4, jI v4), (5, jI v5), (6, jI v6), (7, jI r2), (8, jI x4)]) (st' := [jI (-1), jI r2]) rfl (p1 := 53) rfl ?_
      refine J_icmp_eq B.1 (off := 9) (tgt := 62) (by decide +kernel) (by decide) hf (fun hf => ?_) (fun hf => ?_)
      · refine B_blk B jlkX0_ok jcl_SKF [.iconst 1, .goto 4, .istore 9, .iload 9] (by decide +kernel) (ls' := [(0, jR 70), (1, jI v1), (2, jI v2), (3, jR 22), (4, jI v4), (5, jI v5), (6, jI v6), (7, jI r2), (8, jI x4), (9, jI 1)]) (st' := [jI 1]) rfl (p1 := 71) rfl ?_
        refine J_if_eq (T := none) (F := some ()) (r := ()) B.1 (off := 30) (tgt := 101) (by decide +kernel) (by decide) (if_neg (by decide)) (fun h => nomatch h) (fun _ => ?_)
        refine B_blk B jlkX0_ok jcl_SKF [.iload 8, .iload 5] (by decide +kernel) (ls' := [(0, jR 70), (1, jI v1), (2, jI v2), (3, jR 22), (4, jI v4), (5, jI v5), (6, jI v6), (7, jI r2), (8, jI x4), (9, jI 1)]) (st' := [jI v5, jI x4]) rfl (p1 := 78) rfl ?_
        refine J_icmp_ge B.1 (off := 23) (tgt := 101) (by decide +kernel) (by decide) hf (fun hf => ?_) (fun hf => ?_)
        · refine B_blk B jlkX0_ok jcl_SKF [.iinc 6 1, .goto (-86)] (by decide +kernel) (ls' := [(0, jR 70), (1, jI v1), (2, jI v2), (3, jR 22), (4, jI v4), (5, jI v5), (6, jI (jW (v6 + 1))), (7, jI r2), (8, jI x4), (9, jI 1)]) (st' := []) rfl (p1 := 18) rfl ?_
          refine J_pick [0, 1, 2, 3, 4, 5, 6] (ls' := [(0, jR 70), (1, jI v1), (2, jI v2), (3, jR 22), (4, jI v4), (5, jI v5), (6, jI (jW (v6 + 1)))]) rfl ?_
          exact ih v1 v2 v4 v5 (jW (v6 + 1)) m _ hf hq
        · refine B_blk B jlkX0_ok jcl_SKF [.aload_n 0, .getfield 9, .iload 6] (by decide +kernel) (ls' := [(0, jR 70), (1, jI v1), (2, jI v2), (3, jR 22), (4, jI v4), (5, jI v5), (6, jI v6), (7, jI r2), (8, jI x4), (9, jI 1)]) (st' := [jI v6, jR 1]) rfl (p1 := 87) rfl ?_
          obtain ⟨r5, h5, hf⟩ := jbd hf
          refine B_callV B (Nat.le_refl _) (μ' := m) (k' := 0) (n' := 0) ca_X4_tinsLeft in_X4_tinsLeft se_X4_tinsLeft lk_X0_120 (t_X4_tinsLeft B.tr h5) (Nat.le_refl _) rfl rfl rfl (rest := []) rfl rfl (Nat.le_of_ble_eq_true rfl) (by decide +kernel) rfl rfl (st' := [jI r5]) rfl ?_
          refine J_if_le B.1 (off := 11) (tgt := 101) (by decide +kernel) (by decide) hf (fun hf => ?_) (fun hf => ?_)
          · refine B_blk B jlkX0_ok jcl_SKF [.iinc 6 1, .goto (-86)] (by decide +kernel) (ls' := [(0, jR 70), (1, jI v1), (2, jI v2), (3, jR 22), (4, jI v4), (5, jI v5), (6, jI (jW (v6 + 1))), (7, jI r2), (8, jI x4), (9, jI 1)]) (st' := []) rfl (p1 := 18) rfl ?_
            refine J_pick [0, 1, 2, 3, 4, 5, 6] (ls' := [(0, jR 70), (1, jI v1), (2, jI v2), (3, jR 22), (4, jI v4), (5, jI v5), (6, jI (jW (v6 + 1)))]) rfl ?_
            exact ih v1 v2 v4 v5 (jW (v6 + 1)) m _ hf hq
          · refine B_blk B jlkX0_ok jcl_SKF [.iload 6, .istore 4, .iload 8, .istore 5, .iinc 6 1, .goto (-86)] (by decide +kernel) (ls' := [(0, jR 70), (1, jI v1), (2, jI v2), (3, jR 22), (4, jI v6), (5, jI x4), (6, jI (jW (v6 + 1))), (7, jI r2), (8, jI x4), (9, jI 1)]) (st' := []) rfl (p1 := 18) rfl ?_
            refine J_pick [0, 1, 2, 3, 4, 5, 6] (ls' := [(0, jR 70), (1, jI v1), (2, jI v2), (3, jR 22), (4, jI v6), (5, jI x4), (6, jI (jW (v6 + 1)))]) rfl ?_
            exact ih v1 v2 v6 x4 (jW (v6 + 1)) m _ hf hq
      · refine B_blk B jlkX0_ok jcl_SKF [.iload 7, .iload_n 2] (by decide +kernel) (ls' := [(0, jR 70), (1, jI v1), (2, jI v2), (3, jR 22), (4, jI v4), (5, jI v5), (6, jI v6), (7, jI r2), (8, jI x4)]) (st' := [jI v2, jI r2]) rfl (p1 := 59) rfl ?_
        refine J_icmp_le B.1 (off := 7) (tgt := 66) (by decide +kernel) (by decide) hf (fun hf => ?_) (fun hf => ?_)
        · refine B_blk B jlkX0_ok jcl_SKF [.iconst 0, .istore 9, .iload 9] (by decide +kernel) (ls' := [(0, jR 70), (1, jI v1), (2, jI v2), (3, jR 22), (4, jI v4), (5, jI v5), (6, jI v6), (7, jI r2), (8, jI x4), (9, jI 0)]) (st' := [jI 0]) rfl (p1 := 71) rfl ?_
          refine J_if_eq (T := some ()) (F := none) (r := ()) B.1 (off := 30) (tgt := 101) (by decide +kernel) (by decide) (if_pos (by decide)) (fun _ => ?_) (fun h => nomatch h)
          refine B_blk B jlkX0_ok jcl_SKF [.iinc 6 1, .goto (-86)] (by decide +kernel) (ls' := [(0, jR 70), (1, jI v1), (2, jI v2), (3, jR 22), (4, jI v4), (5, jI v5), (6, jI (jW (v6 + 1))), (7, jI r2), (8, jI x4), (9, jI 0)]) (st' := []) rfl (p1 := 18) rfl ?_
          refine J_pick [0, 1, 2, 3, 4, 5, 6] (ls' := [(0, jR 70), (1, jI v1), (2, jI v2), (3, jR 22), (4, jI v4), (5, jI v5), (6, jI (jW (v6 + 1)))]) rfl ?_
          exact ih v1 v2 v4 v5 (jW (v6 + 1)) m _ hf hq
        · refine B_blk B jlkX0_ok jcl_SKF [.iconst 1, .goto 4, .istore 9, .iload 9] (by decide +kernel) (ls' := [(0, jR 70), (1, jI v1), (2, jI v2), (3, jR 22), (4, jI v4), (5, jI v5), (6, jI v6), (7, jI r2), (8, jI x4), (9, jI 1)]) (st' := [jI 1]) rfl (p1 := 71) rfl ?_
          refine J_if_eq (T := none) (F := some ()) (r := ()) B.1 (off := 30) (tgt := 101) (by decide +kernel) (by decide) (if_neg (by decide)) (fun h => nomatch h) (fun _ => ?_)
          refine B_blk B jlkX0_ok jcl_SKF [.iload 8, .iload 5] (by decide +kernel) (ls' := [(0, jR 70), (1, jI v1), (2, jI v2), (3, jR 22), (4, jI v4), (5, jI v5), (6, jI v6), (7, jI r2), (8, jI x4), (9, jI 1)]) (st' := [jI v5, jI x4]) rfl (p1 := 78) rfl ?_
          refine J_icmp_ge B.1 (off := 23) (tgt := 101) (by decide +kernel) (by decide) hf (fun hf => ?_) (fun hf => ?_)
          · refine B_blk B jlkX0_ok jcl_SKF [.iinc 6 1, .goto (-86)] (by decide +kernel) (ls' := [(0, jR 70), (1, jI v1), (2, jI v2), (3, jR 22), (4, jI v4), (5, jI v5), (6, jI (jW (v6 + 1))), (7, jI r2), (8, jI x4), (9, jI 1)]) (st' := []) rfl (p1 := 18) rfl ?_
            refine J_pick [0, 1, 2, 3, 4, 5, 6] (ls' := [(0, jR 70), (1, jI v1), (2, jI v2), (3, jR 22), (4, jI v4), (5, jI v5), (6, jI (jW (v6 + 1)))]) rfl ?_
            exact ih v1 v2 v4 v5 (jW (v6 + 1)) m _ hf hq
          · refine B_blk B jlkX0_ok jcl_SKF [.aload_n 0, .getfield 9, .iload 6] (by decide +kernel) (ls' := [(0, jR 70), (1, jI v1), (2, jI v2), (3, jR 22), (4, jI v4), (5, jI v5), (6, jI v6), (7, jI r2), (8, jI x4), (9, jI 1)]) (st' := [jI v6, jR 1]) rfl (p1 := 87) rfl ?_
            obtain ⟨r6, h6, hf⟩ := jbd hf
            refine B_callV B (Nat.le_refl _) (μ' := m) (k' := 0) (n' := 0) ca_X4_tinsLeft in_X4_tinsLeft se_X4_tinsLeft lk_X0_120 (t_X4_tinsLeft B.tr h6) (Nat.le_refl _) rfl rfl rfl (rest := []) rfl rfl (Nat.le_of_ble_eq_true rfl) (by decide +kernel) rfl rfl (st' := [jI r6]) rfl ?_
            refine J_if_le B.1 (off := 11) (tgt := 101) (by decide +kernel) (by decide) hf (fun hf => ?_) (fun hf => ?_)
            · refine B_blk B jlkX0_ok jcl_SKF [.iinc 6 1, .goto (-86)] (by decide +kernel) (ls' := [(0, jR 70), (1, jI v1), (2, jI v2), (3, jR 22), (4, jI v4), (5, jI v5), (6, jI (jW (v6 + 1))), (7, jI r2), (8, jI x4), (9, jI 1)]) (st' := []) rfl (p1 := 18) rfl ?_
              refine J_pick [0, 1, 2, 3, 4, 5, 6] (ls' := [(0, jR 70), (1, jI v1), (2, jI v2), (3, jR 22), (4, jI v4), (5, jI v5), (6, jI (jW (v6 + 1)))]) rfl ?_
              exact ih v1 v2 v4 v5 (jW (v6 + 1)) m _ hf hq
            · refine B_blk B jlkX0_ok jcl_SKF [.iload 6, .istore 4, .iload 8, .istore 5, .iinc 6 1, .goto (-86)] (by decide +kernel) (ls' := [(0, jR 70), (1, jI v1), (2, jI v2), (3, jR 22), (4, jI v6), (5, jI x4), (6, jI (jW (v6 + 1))), (7, jI r2), (8, jI x4), (9, jI 1)]) (st' := []) rfl (p1 := 18) rfl ?_
              refine J_pick [0, 1, 2, 3, 4, 5, 6] (ls' := [(0, jR 70), (1, jI v1), (2, jI v2), (3, jR 22), (4, jI v6), (5, jI x4), (6, jI (jW (v6 + 1)))]) rfl ?_
              exact ih v1 v2 v6 x4 (jW (v6 + 1)) m _ hf hq
theorem t_X0_nearestBatch {l : Launch} {G : jG} (hl : l.stackTraces = false) {a0 : Int} {a1 : Int} {m : jMu} {r : Int} (hf : f_X0_nearestBatch a0 a1 m = some r) : jCt l G yX0_nearestBatch (.code yX0_nearestBatch cX0_nearestBatch 10 (some .int) :: jWG) rm_X0_nearestBatch [jR 70, jI a0, jI a1] SKF m (.inl (some (jI r))) SKF m := by
  unfold f_X0_nearestBatch at hf
  refine J_start (ls0 := [(0, jR 70), (1, jI a0), (2, jI a1)]) (by decide +kernel) hl (Nat.le_of_ble_eq_true rfl) rfl fun X C hN hn hR hr hnm hno hq => ?_
  have B : jB X cX0_nearestBatch RX0 10 SKF.length rm_X0_nearestBatch (some .int) := ⟨C, hN, Nat.le_of_eq hn, hR, hr⟩
  refine B_blk B jlkX0_ok jcl_SKF [.aload_n 0, .getfield 9, .getfield 50, .astore_n 3, .iconst (-1), .istore 4] (by decide +kernel) (ls' := [(0, jR 70), (1, jI a0), (2, jI a1), (3, jR 22), (4, jI (-1))]) (st' := []) rfl (p1 := 11) rfl ?_
  refine J_ldc (z := 1000000000) B.1 co_X0_116 (by decide) (by unfold jIn; omega) (by decide +kernel) ?_
  refine B_blk B jlkX0_ok jcl_SKF [.istore 5, .iconst 0, .istore 6] (by decide +kernel) (ls' := [(0, jR 70), (1, jI a0), (2, jI a1), (3, jR 22), (4, jI (-1)), (5, jI 1000000000), (6, jI 0)]) (st' := []) rfl (p1 := 18) rfl ?_
  exact t_X0_nearestBatch_L18 B jFU a0 a1 (-1) 1000000000 0 m _ hf hq
