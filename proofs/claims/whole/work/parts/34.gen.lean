/-! printed walks -/
def rm_X9_fail : Room := { frames := 9, cells := 1, slots := 6, locals := 120 }
def f_X9_fail (a0 : Int) (m : jMu) : Option (jOut Int) :=
  (f_X5_has 22 23 24 a0 m).bind fun r1 => jthr (f_X9_needIndex r1 m) fun r2 => (f_X5_get 22 23 24 a0 3 r2.2).bind fun r3 => (if r3 = (-1) then (f_X5_set 22 23 24 a0 3 (r2.2 1 14) r2.2).bind fun r4 => some (.inr (1, r4)) else some (.inr (0, r2.2)))
theorem t_X9_fail {l : Launch} {G : jG} (hl : l.stackTraces = false) {a0 : Int} {m : jMu} {r : (jOut Int)} (hf : f_X9_fail a0 m = some r) : jCt l G yX9_fail (.code yX9_fail cX9_fail 2 (some .boolean) :: jWG) rm_X9_fail [jR 0, jI a0] SKF m (joI r) SKF (joM r) := by
  unfold f_X9_fail at hf
  refine J_start (ls0 := [(0, jR 0), (1, jI a0)]) (by decide +kernel) hl (Nat.le_of_ble_eq_true rfl) rfl fun X C hN hn hR hr hnm hno hq => ?_
  have B : jB X cX9_fail RX9 2 SKF.length rm_X9_fail (some .boolean) := ⟨C, hN, Nat.le_of_eq hn, hR, hr⟩
  refine B_blk B jlkX9_ok jcl_SKF [.aload_n 0, .getfield 20, .getfield 183, .iload_n 1] (by decide +kernel) (ls' := [(0, jR 0), (1, jI a0)]) (st' := [jI a0, jR 22]) rfl (p1 := 8) rfl ?_
  obtain ⟨r1, h1, hf⟩ := jbd hf
  refine B_callV B (Nat.le_refl _) (μ' := m) (k' := 0) (n' := 0) ca_X5_has in_X5_has se_X5_has lk_X9_143 (t_X5_has B.tr jcl_SKF ⟨rfl, rfl, by decide⟩ h1) (Nat.le_refl _) rfl rfl rfl (rest := []) rfl rfl (Nat.le_of_ble_eq_true rfl) (by decide +kernel) rfl rfl (st' := [jI r1]) rfl ?_
  rcases jthr_s hf with ⟨e2, h2, hf⟩ | ⟨r2, h2, hf⟩
  · cases hf
    exact B_callST B (Nat.le_refl _) hno hq ca_X9_needIndex sa_X9_needIndex lk_X9_125 (t_X9_needIndex B.tr h2) (Nat.le_refl _) rfl (rest := []) rfl rfl (Nat.le_of_ble_eq_true rfl) (by decide +kernel) (Nat.le_of_ble_eq_true rfl) (Nat.le_of_ble_eq_true rfl)
  · refine B_callS B (Nat.le_refl _) (μ' := r2.2) (k' := 1) (n' := 6) ca_X9_needIndex sa_X9_needIndex lk_X9_125 (t_X9_needIndex B.tr h2) (Nat.le_refl _) rfl (rest := []) rfl rfl (Nat.le_of_ble_eq_true rfl) (by decide +kernel) rfl rfl (st' := []) rfl ?_
    refine B_blk B jlkX9_ok jcl_SKF [.aload_n 0, .getfield 20, .getfield 183, .iload_n 1, .iconst 3] (by decide +kernel) (ls' := [(0, jR 0), (1, jI a0)]) (st' := [jI 3, jI a0, jR 22]) rfl (p1 := 23) rfl ?_
    obtain ⟨r3, h3, hf⟩ := jbd hf
    refine B_callV B (Nat.le_refl _) (μ' := r2.2) (k' := 1) (n' := 6) ca_X5_get in_X5_get se_X5_get lk_X9_208 (t_X5_get B.tr jcl_SKF ⟨rfl, rfl, by decide⟩ h3) (Nat.le_refl _) rfl rfl rfl (rest := []) rfl rfl (Nat.le_of_ble_eq_true rfl) (by decide +kernel) rfl rfl (st' := [jI r3]) rfl ?_
    refine B_blk B jlkX9_ok jcl_SKF [.iconst (-1)] (by decide +kernel) (ls' := [(0, jR 0), (1, jI a0)]) (st' := [jI (-1), jI r3]) rfl (p1 := 27) rfl ?_
    refine J_icmp_eq B.1 (off := 5) (tgt := 32) (by decide +kernel) (by decide) hf (fun hf => ?_) (fun hf => ?_)
    · refine B_blk B jlkX9_ok jcl_SKF [.aload_n 0, .getfield 20, .getfield 183, .iload_n 1, .iconst 3, .aload_n 0, .getfield 20, .getfield 90] (by decide +kernel) (ls' := [(0, jR 0), (1, jI a0)]) (st' := [jI (r2.2 1 14), jI 3, jI a0, jR 22]) rfl (p1 := 48) rfl ?_
      obtain ⟨r4, h4, hf⟩ := jbd hf
      refine B_callV B (Nat.le_refl _) (μ' := r4) (k' := 1) (n' := 6) ca_X5_set in_X5_set se_X5_set lk_X9_117 (t_X5_set B.tr jcl_SKF ⟨rfl, rfl, by decide⟩ h4) (Nat.le_refl _) rfl rfl rfl (rest := []) rfl rfl (Nat.le_of_ble_eq_true rfl) (by decide +kernel) rfl rfl (st' := []) rfl ?_
      refine B_blk B jlkX9_ok jcl_SKF [.iconst 1] (by decide +kernel) (ls' := [(0, jR 0), (1, jI a0)]) (st' := [jI 1]) rfl (p1 := 52) rfl ?_
      cases hf
      exact B_retZ B (Or.inr rfl) hq rfl (Nat.le_of_ble_eq_true rfl) (Nat.le_of_ble_eq_true rfl) (by decide +kernel)
    · refine B_blk B jlkX9_ok jcl_SKF [.iconst 0] (by decide +kernel) (ls' := [(0, jR 0), (1, jI a0)]) (st' := [jI 0]) rfl (p1 := 31) rfl ?_
      cases hf
      exact B_retZ B (Or.inl rfl) hq rfl (Nat.le_of_ble_eq_true rfl) (Nat.le_of_ble_eq_true rfl) (by decide +kernel)

def rm_X4_isKnown : Room := { frames := 4, cells := 0, slots := 0, locals := 87 }
def f_X4_isKnown (a0 : Int) (a1 : Int) (m : jMu) : Option Int :=
  (f_X5_get 24 25 320 a0 5 m).bind fun r1 => (if a1 < r1 then some 0 else some 1)
theorem t_X4_isKnown {l : Launch} {G : jG} (hl : l.stackTraces = false) {a0 : Int} {a1 : Int} {m : jMu} {r : Int} (hf : f_X4_isKnown a0 a1 m = some r) : jCt l G yX4_isKnown (.code yX4_isKnown cX4_isKnown 3 (some .boolean) :: jWG) rm_X4_isKnown [jR 1, jI a0, jI a1] SKF m (.inl (some (jI r))) SKF m := by
  unfold f_X4_isKnown at hf
  refine J_start (ls0 := [(0, jR 1), (1, jI a0), (2, jI a1)]) (by decide +kernel) hl (Nat.le_of_ble_eq_true rfl) rfl fun X C hN hn hR hr hnm hno hq => ?_
  have B : jB X cX4_isKnown RX4 3 SKF.length rm_X4_isKnown (some .boolean) := ⟨C, hN, Nat.le_of_eq hn, hR, hr⟩
  refine B_blk B jlkX4_ok jcl_SKF [.aload_n 0, .getfield 59, .iload_n 1, .iconst 5] (by decide +kernel) (ls' := [(0, jR 1), (1, jI a0), (2, jI a1)]) (st' := [jI 5, jI a0, jR 24]) rfl (p1 := 6) rfl ?_
  obtain ⟨r1, h1, hf⟩ := jbd hf
  refine B_callV B (Nat.le_refl _) (μ' := m) (k' := 0) (n' := 0) ca_X5_get in_X5_get se_X5_get lk_X4_85 (t_X5_get B.tr jcl_SKF ⟨rfl, rfl, by decide⟩ h1) (Nat.le_refl _) rfl rfl rfl (rest := []) rfl rfl (Nat.le_of_ble_eq_true rfl) (by decide +kernel) rfl rfl (st' := [jI r1]) rfl ?_
  refine B_blk B jlkX4_ok jcl_SKF [.iload_n 2] (by decide +kernel) (ls' := [(0, jR 1), (1, jI a0), (2, jI a1)]) (st' := [jI a1, jI r1]) rfl (p1 := 10) rfl ?_
  refine J_icmp_gt B.1 (off := 7) (tgt := 17) (by decide +kernel) (by decide) hf (fun hf => ?_) (fun hf => ?_)
  · refine B_blk B jlkX4_ok jcl_SKF [.iconst 0] (by decide +kernel) (ls' := [(0, jR 1), (1, jI a0), (2, jI a1)]) (st' := [jI 0]) rfl (p1 := 18) rfl ?_
    cases hf
    exact B_retZ B (Or.inl rfl) hq rfl (Nat.le_of_ble_eq_true rfl) (Nat.le_of_ble_eq_true rfl) (by decide +kernel)
  · refine B_blk B jlkX4_ok jcl_SKF [.iconst 1, .goto 4] (by decide +kernel) (ls' := [(0, jR 1), (1, jI a0), (2, jI a1)]) (st' := [jI 1]) rfl (p1 := 18) rfl ?_
    cases hf
    exact B_retZ B (Or.inr rfl) hq rfl (Nat.le_of_ble_eq_true rfl) (Nat.le_of_ble_eq_true rfl) (by decide +kernel)

def rm_X0_lastJob : Room := { frames := 6, cells := 0, slots := 0, locals := 109 }
def f_X0_lastJob_L18 : Nat → Int → Int → Int → Int → Int → Int → jMu → Option Int
  | 0, _, _, _, _, _, _, _ => none
  | q + 1, v1, v2, v3, v5, v6, v7, m => (f_X5_size 24 25 320 m).bind fun r1 => (if r1 ≤ v7 then some v5 else (f_X5_get 24 25 320 v7 4 m).bind fun r2 => (f_X5_get 24 25 320 v7 0 m).bind fun r3 => (if r3 = v1 then (f_X4_isKnown v7 v3 m).bind fun r4 => (if r4 = 0 then f_X0_lastJob_L18 q v1 v2 v3 v5 v6 (jW (v7 + 1)) m else (if jW (jW (v2 + 1) * 12) < r2 then f_X0_lastJob_L18 q v1 v2 v3 v5 v6 (jW (v7 + 1)) m else (if r2 < v6 then f_X0_lastJob_L18 q v1 v2 v3 v5 v6 (jW (v7 + 1)) m else f_X0_lastJob_L18 q v1 v2 v3 v7 r2 (jW (v7 + 1)) m))) else f_X0_lastJob_L18 q v1 v2 v3 v5 v6 (jW (v7 + 1)) m))
def f_X0_lastJob (a0 : Int) (a1 : Int) (a2 : Int) (m : jMu) : Option Int :=
  f_X0_lastJob_L18 jFU a0 a1 a2 (-1) (-1) 0 m
theorem t_X0_lastJob_L18 {X : jX} (B : jB X cX0_lastJob RX0 10 SKF.length rm_X0_lastJob (some .int)) : ∀ (q : Nat) (v1 : Int) (v2 : Int) (v3 : Int) (v5 : Int) (v6 : Int) (v7 : Int) (m : jMu) (r : Int), f_X0_lastJob_L18 q v1 v2 v3 v5 v6 v7 m = some r → jQ X (.inl (some (jI r))) SKF m rm_X0_lastJob.cells rm_X0_lastJob.slots → J X SKF m 0 0 18 [(0, jR 70), (1, jI v1), (2, jI v2), (3, jI v3), (4, jR 24), (5, jI v5), (6, jI v6), (7, jI v7)] [] := by
  intro q
  induction q with
  | zero =>
    intro v1 v2 v3 v5 v6 v7 m r hf
    rw [f_X0_lastJob_L18] at hf
    cases hf
  | succ q ih =>
    intro v1 v2 v3 v5 v6 v7 m r hf hq
    rw [f_X0_lastJob_L18] at hf
    refine B_blk B jlkX0_ok jcl_SKF [.iload 7, .aload 4] (by decide +kernel) (ls' := [(0, jR 70), (1, jI v1), (2, jI v2), (3, jI v3), (4, jR 24), (5, jI v5), (6, jI v6), (7, jI v7)]) (st' := [jR 24, jI v7]) rfl (p1 := 22) rfl ?_
    obtain ⟨r1, h1, hf⟩ := jbd hf
    refine B_callV B (Nat.le_refl _) (μ' := m) (k' := 0) (n' := 0) ca_X5_size in_X5_size se_X5_size lk_X0_29 (t_X5_size B.tr jcl_SKF ⟨rfl, rfl, by decide⟩ h1) (Nat.le_refl _) rfl rfl rfl (rest := [jI v7]) rfl rfl (Nat.le_of_ble_eq_true rfl) (by decide +kernel) rfl rfl (st' := [jI r1, jI v7]) rfl ?_
    refine J_icmp_ge B.1 (off := 82) (tgt := 107) (by decide +kernel) (by decide) hf (fun hf => ?_) (fun hf => ?_)
    · refine B_blk B jlkX0_ok jcl_SKF [.iload 5] (by decide +kernel) (ls' := [(0, jR 70), (1, jI v1), (2, jI v2), (3, jI v3), (4, jR 24), (5, jI v5), (6, jI v6), (7, jI v7)]) (st' := [jI v5]) rfl (p1 := 109) rfl ?_
      cases hf
      exact B_retI B hq rfl (Nat.le_of_ble_eq_true rfl) (Nat.le_of_ble_eq_true rfl) (by decide +kernel)
    · refine B_blk B jlkX0_ok jcl_SKF [.aload 4, .iload 7, .iconst 4] (by decide +kernel) (ls' := [(0, jR 70), (1, jI v1), (2, jI v2), (3, jI v3), (4, jR 24), (5, jI v5), (6, jI v6), (7, jI v7)]) (st' := [jI 4, jI v7, jR 24]) rfl (p1 := 33) rfl ?_
      obtain ⟨r2, h2, hf⟩ := jbd hf
      refine B_callV B (Nat.le_refl _) (μ' := m) (k' := 0) (n' := 0) ca_X5_get in_X5_get se_X5_get lk_X0_35 (t_X5_get B.tr jcl_SKF ⟨rfl, rfl, by decide⟩ h2) (Nat.le_refl _) rfl rfl rfl (rest := []) rfl rfl (Nat.le_of_ble_eq_true rfl) (by decide +kernel) rfl rfl (st' := [jI r2]) rfl ?_
      refine B_blk B jlkX0_ok jcl_SKF [.istore 8, .aload 4, .iload 7, .iconst 0] (by decide +kernel) (ls' := [(0, jR 70), (1, jI v1), (2, jI v2), (3, jI v3), (4, jR 24), (5, jI v5), (6, jI v6), (7, jI v7), (8, jI r2)]) (st' := [jI 0, jI v7, jR 24]) rfl (p1 := 43) rfl ?_
      obtain ⟨r3, h3, hf⟩ := jbd hf
      refine B_callV B (Nat.le_refl _) (μ' := m) (k' := 0) (n' := 0) ca_X5_get in_X5_get se_X5_get lk_X0_35 (t_X5_get B.tr jcl_SKF ⟨rfl, rfl, by decide⟩ h3) (Nat.le_refl _) rfl rfl rfl (rest := []) rfl rfl (Nat.le_of_ble_eq_true rfl) (by decide +kernel) rfl rfl (st' := [jI r3]) rfl ?_
      refine B_blk B jlkX0_ok jcl_SKF [.iload_n 1] (by decide +kernel) (ls' := [(0, jR 70), (1, jI v1), (2, jI v2), (3, jI v3), (4, jR 24), (5, jI v5), (6, jI v6), (7, jI v7), (8, jI r2)]) (st' := [jI v1, jI r3]) rfl (p1 := 47) rfl ?_
      refine J_icmp_ne B.1 (off := 20) (tgt := 67) (by decide +kernel) (by decide) hf (fun hf => ?_) (fun hf => ?_)
      · refine B_blk B jlkX0_ok jcl_SKF [.aload_n 0, .getfield 9, .iload 7, .iload_n 3] (by decide +kernel) (ls' := [(0, jR 70), (1, jI v1), (2, jI v2), (3, jI v3), (4, jR 24), (5, jI v5), (6, jI v6), (7, jI v7), (8, jI r2)]) (st' := [jI v3, jI v7, jR 1]) rfl (p1 := 57) rfl ?_
        obtain ⟨r4, h4, hf⟩ := jbd hf
        refine B_callV B (Nat.le_refl _) (μ' := m) (k' := 0) (n' := 0) ca_X4_isKnown in_X4_isKnown se_X4_isKnown lk_X0_39 (t_X4_isKnown B.tr h4) (Nat.le_refl _) rfl rfl rfl (rest := []) rfl rfl (Nat.le_of_ble_eq_true rfl) (by decide +kernel) rfl rfl (st' := [jI r4]) rfl ?_
        refine J_if_eq B.1 (off := 7) (tgt := 67) (by decide +kernel) (by decide) hf (fun hf => ?_) (fun hf => ?_)
        · refine B_blk B jlkX0_ok jcl_SKF [.iconst 0, .istore 9, .iload 9] (by decide +kernel) (ls' := [(0, jR 70), (1, jI v1), (2, jI v2), (3, jI v3), (4, jR 24), (5, jI v5), (6, jI v6), (7, jI v7), (8, jI r2), (9, jI 0)]) (st' := [jI 0]) rfl (p1 := 72) rfl ?_
          refine J_if_eq (T := some ()) (F := none) (r := ()) B.1 (off := 29) (tgt := 101) (by decide +kernel) (by decide) (if_pos (by decide)) (fun _ => ?_) (fun h => nomatch h)
          refine B_blk B jlkX0_ok jcl_SKF [.iinc 7 1, .goto (-86)] (by decide +kernel) (ls' := [(0, jR 70), (1, jI v1), (2, jI v2), (3, jI v3), (4, jR 24), (5, jI v5), (6, jI v6), (7, jI (jW (v7 + 1))), (8, jI r2), (9, jI 0)]) (st' := []) rfl (p1 := 18) rfl ?_
          refine J_pick [0, 1, 2, 3, 4, 5, 6, 7] (ls' := [(0, jR 70), (1, jI v1), (2, jI v2), (3, jI v3), (4, jR 24), (5, jI v5), (6, jI v6), (7, jI (jW (v7 + 1)))]) rfl ?_
          exact ih v1 v2 v3 v5 v6 (jW (v7 + 1)) m _ hf hq
        · refine B_blk B jlkX0_ok jcl_SKF [.iconst 1, .goto 4, .istore 9, .iload 9] (by decide +kernel) (ls' := [(0, jR 70), (1, jI v1), (2, jI v2), (3, jI v3), (4, jR 24), (5, jI v5), (6, jI v6), (7, jI v7), (8, jI r2), (9, jI 1)]) (st' := [jI 1]) rfl (p1 := 72) rfl ?_
          refine J_if_eq (T := none) (F := some ()) (r := ()) B.1 (off := 29) (tgt := 101) (by decide +kernel) (by decide) (if_neg (by decide)) (fun h => nomatch h) (fun _ => ?_)
          refine B_blk B jlkX0_ok jcl_SKF [.iload 8, .iload_n 2, .iconst 1, .iadd, .bipush 12, .imul] (by decide +kernel) (ls' := [(0, jR 70), (1, jI v1), (2, jI v2), (3, jI v3), (4, jR 24), (5, jI v5), (6, jI v6), (7, jI v7), (8, jI r2), (9, jI 1)]) (st' := [jI (jW (jW (v2 + 1) * 12)), jI r2]) rfl (p1 := 83) rfl ?_
          refine J_icmp_gt B.1 (off := 18) (tgt := 101) (by decide +kernel) (by decide) hf (fun hf => ?_) (fun hf => ?_)
          · refine B_blk B jlkX0_ok jcl_SKF [.iinc 7 1, .goto (-86)] (by decide +kernel) (ls' := [(0, jR 70), (1, jI v1), (2, jI v2), (3, jI v3), (4, jR 24), (5, jI v5), (6, jI v6), (7, jI (jW (v7 + 1))), (8, jI r2), (9, jI 1)]) (st' := []) rfl (p1 := 18) rfl ?_
            refine J_pick [0, 1, 2, 3, 4, 5, 6, 7] (ls' := [(0, jR 70), (1, jI v1), (2, jI v2), (3, jI v3), (4, jR 24), (5, jI v5), (6, jI v6), (7, jI (jW (v7 + 1)))]) rfl ?_
            exact ih v1 v2 v3 v5 v6 (jW (v7 + 1)) m _ hf hq
          · refine B_blk B jlkX0_ok jcl_SKF [.iload 8, .iload 6] (by decide +kernel) (ls' := [(0, jR 70), (1, jI v1), (2, jI v2), (3, jI v3), (4, jR 24), (5, jI v5), (6, jI v6), (7, jI v7), (8, jI r2), (9, jI 1)]) (st' := [jI v6, jI r2]) rfl (p1 := 90) rfl ?_
            refine J_icmp_lt B.1 (off := 11) (tgt := 101) (by decide +kernel) (by decide) hf (fun hf => ?_) (fun hf => ?_)
            · refine B_blk B jlkX0_ok jcl_SKF [.iinc 7 1, .goto (-86)] (by decide +kernel) (ls' := [(0, jR 70), (1, jI v1), (2, jI v2), (3, jI v3), (4, jR 24), (5, jI v5), (6, jI v6), (7, jI (jW (v7 + 1))), (8, jI r2), (9, jI 1)]) (st' := []) rfl (p1 := 18) rfl ?_
              refine J_pick [0, 1, 2, 3, 4, 5, 6, 7] (ls' := [(0, jR 70), (1, jI v1), (2, jI v2), (3, jI v3), (4, jR 24), (5, jI v5), (6, jI v6), (7, jI (jW (v7 + 1)))]) rfl ?_
              exact ih v1 v2 v3 v5 v6 (jW (v7 + 1)) m _ hf hq
            · refine B_blk B jlkX0_ok jcl_SKF [.iload 7, .istore 5, .iload 8, .istore 6, .iinc 7 1, .goto (-86)] (by decide +kernel) (ls' := [(0, jR 70), (1, jI v1), (2, jI v2), (3, jI v3), (4, jR 24), (5, jI v7), (6, jI r2), (7, jI (jW (v7 + 1))), (8, jI r2), (9, jI 1)]) (st' := []) rfl (p1 := 18) rfl ?_
              refine J_pick [0, 1, 2, 3, 4, 5, 6, 7] (ls' := [(0, jR 70), (1, jI v1), (2, jI v2), (3, jI v3), (4, jR 24), (5, jI v7), (6, jI r2), (7, jI (jW (v7 + 1)))]) rfl ?_
              exact ih v1 v2 v3 v7 r2 (jW (v7 + 1)) m _ hf hq
      · refine B_blk B jlkX0_ok jcl_SKF [.iconst 0, .istore 9, .iload 9] (by decide +kernel) (ls' := [(0, jR 70), (1, jI v1), (2, jI v2), (3, jI v3), (4, jR 24), (5, jI v5), (6, jI v6), (7, jI v7), (8, jI r2), (9, jI 0)]) (st' := [jI 0]) rfl (p1 := 72) rfl ?_
        refine J_if_eq (T := some ()) (F := none) (r := ()) B.1 (off := 29) (tgt := 101) (by decide +kernel) (by decide) (if_pos (by decide)) (fun _ => ?_) (fun h => nomatch h)
        refine B_blk B jlkX0_ok jcl_SKF [.iinc 7 1, .goto (-86)] (by decide +kernel) (ls' := [(0, jR 70), (1, jI v1), (2, jI v2), (3, jI v3), (4, jR 24), (5, jI v5), (6, jI v6), (7, jI (jW (v7 + 1))), (8, jI r2), (9, jI 0)]) (st' := []) rfl (p1 := 18) rfl ?_
        refine J_pick [0, 1, 2, 3, 4, 5, 6, 7] (ls' := [(0, jR 70), (1, jI v1), (2, jI v2), (3, jI v3), (4, jR 24), (5, jI v5), (6, jI v6), (7, jI (jW (v7 + 1)))]) rfl ?_
        exact ih v1 v2 v3 v5 v6 (jW (v7 + 1)) m _ hf hq
theorem t_X0_lastJob {l : Launch} {G : jG} (hl : l.stackTraces = false) {a0 : Int} {a1 : Int} {a2 : Int} {m : jMu} {r : Int} (hf : f_X0_lastJob a0 a1 a2 m = some r) : jCt l G yX0_lastJob (.code yX0_lastJob cX0_lastJob 10 (some .int) :: jWG) rm_X0_lastJob [jR 70, jI a0, jI a1, jI a2] SKF m (.inl (some (jI r))) SKF m := by
  unfold f_X0_lastJob at hf
  refine J_start (ls0 := [(0, jR 70), (1, jI a0), (2, jI a1), (3, jI a2)]) (by decide +kernel) hl (Nat.le_of_ble_eq_true rfl) rfl fun X C hN hn hR hr hnm hno hq => ?_
  have B : jB X cX0_lastJob RX0 10 SKF.length rm_X0_lastJob (some .int) := ⟨C, hN, Nat.le_of_eq hn, hR, hr⟩
  refine B_blk B jlkX0_ok jcl_SKF [.aload_n 0, .getfield 9, .getfield 23, .astore 4, .iconst (-1), .istore 5, .iconst (-1), .istore 6, .iconst 0, .istore 7] (by decide +kernel) (ls' := [(0, jR 70), (1, jI a0), (2, jI a1), (3, jI a2), (4, jR 24), (5, jI (-1)), (6, jI (-1)), (7, jI 0)]) (st' := []) rfl (p1 := 18) rfl ?_
  exact t_X0_lastJob_L18 B jFU a0 a1 a2 (-1) (-1) 0 m _ hf hq

def rm_X9_last : Room := { frames := 11, cells := 2, slots := 12, locals := 141 }
def f_X9_last (a0 : Int) (a1 : Int) (a2 : Int) (m : jMu) : Option (jOut Int) :=
  (f_X5_has 4 5 80 a0 m).bind fun r1 => jthr (f_X9_needIndex r1 m) fun r2 => jthr (f_X9_needDays a1 a2 r2.2) fun r3 => (f_X0_lastJob a0 a1 a2 r3.2).bind fun r4 => some (.inr (r4, r3.2))
theorem t_X9_last {l : Launch} {G : jG} (hl : l.stackTraces = false) {a0 : Int} {a1 : Int} {a2 : Int} {m : jMu} {r : (jOut Int)} (hf : f_X9_last a0 a1 a2 m = some r) : jCt l G yX9_last (.code yX9_last cX9_last 4 (some .int) :: jWG) rm_X9_last [jR 0, jI a0, jI a1, jI a2] SKF m (joI r) SKF (joM r) := by
  unfold f_X9_last at hf
  refine J_start (ls0 := [(0, jR 0), (1, jI a0), (2, jI a1), (3, jI a2)]) (by decide +kernel) hl (Nat.le_of_ble_eq_true rfl) rfl fun X C hN hn hR hr hnm hno hq => ?_
  have B : jB X cX9_last RX9 4 SKF.length rm_X9_last (some .int) := ⟨C, hN, Nat.le_of_eq hn, hR, hr⟩
  refine B_blk B jlkX9_ok jcl_SKF [.aload_n 0, .getfield 20, .getfield 101, .iload_n 1] (by decide +kernel) (ls' := [(0, jR 0), (1, jI a0), (2, jI a1), (3, jI a2)]) (st' := [jI a0, jR 4]) rfl (p1 := 8) rfl ?_
  obtain ⟨r1, h1, hf⟩ := jbd hf
  refine B_callV B (Nat.le_refl _) (μ' := m) (k' := 0) (n' := 0) ca_X5_has in_X5_has se_X5_has lk_X9_143 (t_X5_has B.tr jcl_SKF ⟨rfl, rfl, by decide⟩ h1) (Nat.le_refl _) rfl rfl rfl (rest := []) rfl rfl (Nat.le_of_ble_eq_true rfl) (by decide +kernel) rfl rfl (st' := [jI r1]) rfl ?_
  rcases jthr_s hf with ⟨e2, h2, hf⟩ | ⟨r2, h2, hf⟩
  · cases hf
    exact B_callST B (Nat.le_refl _) hno hq ca_X9_needIndex sa_X9_needIndex lk_X9_125 (t_X9_needIndex B.tr h2) (Nat.le_refl _) rfl (rest := []) rfl rfl (Nat.le_of_ble_eq_true rfl) (by decide +kernel) (Nat.le_of_ble_eq_true rfl) (Nat.le_of_ble_eq_true rfl)
  · refine B_callS B (Nat.le_refl _) (μ' := r2.2) (k' := 1) (n' := 6) ca_X9_needIndex sa_X9_needIndex lk_X9_125 (t_X9_needIndex B.tr h2) (Nat.le_refl _) rfl (rest := []) rfl rfl (Nat.le_of_ble_eq_true rfl) (by decide +kernel) rfl rfl (st' := []) rfl ?_
    refine B_blk B jlkX9_ok jcl_SKF [.iload_n 2, .iload_n 3] (by decide +kernel) (ls' := [(0, jR 0), (1, jI a0), (2, jI a1), (3, jI a2)]) (st' := [jI a2, jI a1]) rfl (p1 := 16) rfl ?_
    rcases jthr_s hf with ⟨e3, h3, hf⟩ | ⟨r3, h3, hf⟩
    · cases hf
      exact B_callST B (Nat.le_refl _) hno hq ca_X9_needDays sa_X9_needDays lk_X9_121 (t_X9_needDays B.tr h3) (Nat.le_refl _) rfl (rest := []) rfl rfl (Nat.le_of_ble_eq_true rfl) (by decide +kernel) (Nat.le_of_ble_eq_true rfl) (Nat.le_of_ble_eq_true rfl)
    · refine B_callS B (Nat.le_refl _) (μ' := r3.2) (k' := 2) (n' := 12) ca_X9_needDays sa_X9_needDays lk_X9_121 (t_X9_needDays B.tr h3) (Nat.le_refl _) rfl (rest := []) rfl rfl (Nat.le_of_ble_eq_true rfl) (by decide +kernel) rfl rfl (st' := []) rfl ?_
      refine B_blk B jlkX9_ok jcl_SKF [.aload_n 0, .getfield 56, .iload_n 1, .iload_n 2, .iload_n 3] (by decide +kernel) (ls' := [(0, jR 0), (1, jI a0), (2, jI a1), (3, jI a2)]) (st' := [jI a2, jI a1, jI a0, jR 70]) rfl (p1 := 26) rfl ?_
      obtain ⟨r4, h4, hf⟩ := jbd hf
      refine B_callV B (Nat.le_refl _) (μ' := r3.2) (k' := 2) (n' := 12) ca_X0_lastJob in_X0_lastJob se_X0_lastJob lk_X9_211 (t_X0_lastJob B.tr h4) (Nat.le_refl _) rfl rfl rfl (rest := []) rfl rfl (Nat.le_of_ble_eq_true rfl) (by decide +kernel) rfl rfl (st' := [jI r4]) rfl ?_
      cases hf
      exact B_retI B hq rfl (Nat.le_of_ble_eq_true rfl) (Nat.le_of_ble_eq_true rfl) (by decide +kernel)

def rm_X0_latestEnd : Room := { frames := 6, cells := 0, slots := 0, locals := 109 }
def f_X0_latestEnd_L15 : Nat → Int → Int → Int → Int → Int → Int → jMu → Option Int
  | 0, _, _, _, _, _, _, _ => none
  | q + 1, v1, v2, v3, v4, v6, v7, m => (f_X5_size 24 25 320 m).bind fun r1 => (if r1 ≤ v7 then some v6 else (f_X5_get 24 25 320 v7 0 m).bind fun r2 => (if r2 = v1 then (f_X4_isKnown v7 v3 m).bind fun r3 => (if r3 = 0 then (f_X5_get 24 25 320 v7 2 m).bind fun r4 => (if r4 = v2 then (if 1 = v4 then f_X0_latestEnd_L15 q v1 v2 v3 v4 v6 (jW (v7 + 1)) m else f_X0_latestEnd_L15 q v1 v2 v3 v4 v6 (jW (v7 + 1)) m) else (if 0 = v4 then f_X0_latestEnd_L15 q v1 v2 v3 v4 v6 (jW (v7 + 1)) m else f_X0_latestEnd_L15 q v1 v2 v3 v4 v6 (jW (v7 + 1)) m)) else (f_X5_get 24 25 320 v7 2 m).bind fun r5 => (if r5 = v2 then (if 1 = v4 then (f_X5_get 24 25 320 v7 4 m).bind fun r6 => (if r6 ≤ v6 then f_X0_latestEnd_L15 q v1 v2 v3 v4 v6 (jW (v7 + 1)) m else (f_X5_get 24 25 320 v7 4 m).bind fun r7 => f_X0_latestEnd_L15 q v1 v2 v3 v4 r7 (jW (v7 + 1)) m) else f_X0_latestEnd_L15 q v1 v2 v3 v4 v6 (jW (v7 + 1)) m) else (if 0 = v4 then (f_X5_get 24 25 320 v7 4 m).bind fun r8 => (if r8 ≤ v6 then f_X0_latestEnd_L15 q v1 v2 v3 v4 v6 (jW (v7 + 1)) m else (f_X5_get 24 25 320 v7 4 m).bind fun r9 => f_X0_latestEnd_L15 q v1 v2 v3 v4 r9 (jW (v7 + 1)) m) else f_X0_latestEnd_L15 q v1 v2 v3 v4 v6 (jW (v7 + 1)) m))) else (f_X5_get 24 25 320 v7 2 m).bind fun r10 => (if r10 = v2 then (if 1 = v4 then f_X0_latestEnd_L15 q v1 v2 v3 v4 v6 (jW (v7 + 1)) m else f_X0_latestEnd_L15 q v1 v2 v3 v4 v6 (jW (v7 + 1)) m) else (if 0 = v4 then f_X0_latestEnd_L15 q v1 v2 v3 v4 v6 (jW (v7 + 1)) m else f_X0_latestEnd_L15 q v1 v2 v3 v4 v6 (jW (v7 + 1)) m))))
def f_X0_latestEnd (a0 : Int) (a1 : Int) (a2 : Int) (a3 : Int) (m : jMu) : Option Int :=
  f_X0_latestEnd_L15 jFU a0 a1 a2 a3 (-1) 0 m
theorem t_X0_latestEnd_L15 {X : jX} (B : jB X cX0_latestEnd RX0 10 SKF.length rm_X0_latestEnd (some .int)) : ∀ (q : Nat) (v1 : Int) (v2 : Int) (v3 : Int) (v4 : Int) (v6 : Int) (v7 : Int) (m : jMu) (r : Int), f_X0_latestEnd_L15 q v1 v2 v3 v4 v6 v7 m = some r → jQ X (.inl (some (jI r))) SKF m rm_X0_latestEnd.cells rm_X0_latestEnd.slots → J X SKF m 0 0 15 [(0, jR 70), (1, jI v1), (2, jI v2), (3, jI v3), (4, jI v4), (5, jR 24), (6, jI v6), (7, jI v7)] [] := by
  intro q
  induction q with
  | zero =>
    intro v1 v2 v3 v4 v6 v7 m r hf
    rw [f_X0_latestEnd_L15] at hf
    cases hf
  | succ q ih =>
    intro v1 v2 v3 v4 v6 v7 m r hf hq
    rw [f_X0_latestEnd_L15] at hf
    refine B_blk B jlkX0_ok jcl_SKF [.iload 7, .aload 5] (by decide +kernel) (ls' := [(0, jR 70), (1, jI v1), (2, jI v2), (3, jI v3), (4, jI v4), (5, jR 24), (6, jI v6), (7, jI v7)]) (st' := [jR 24, jI v7]) rfl (p1 := 19) rfl ?_
    obtain ⟨r1, h1, hf⟩ := jbd hf
    refine B_callV B (Nat.le_refl _) (μ' := m) (k' := 0) (n' := 0) ca_X5_size in_X5_size se_X5_size lk_X0_29 (t_X5_size B.tr jcl_SKF ⟨rfl, rfl, by decide⟩ h1) (Nat.le_refl _) rfl rfl rfl (rest := [jI v7]) rfl rfl (Nat.le_of_ble_eq_true rfl) (by decide +kernel) rfl rfl (st' := [jI r1, jI v7]) rfl ?_
    refine J_icmp_ge B.1 (off := 103) (tgt := 125) (by decide +kernel) (by decide) hf (fun hf => ?_) (fun hf => ?_)
    · refine B_blk B jlkX0_ok jcl_SKF [.iload 6] (by decide +kernel) (ls' := [(0, jR 70), (1, jI v1), (2, jI v2), (3, jI v3), (4, jI v4), (5, jR 24), (6, jI v6), (7, jI v7)]) (st' := [jI v6]) rfl (p1 := 127) rfl ?_
      cases hf
      exact B_retI B hq rfl (Nat.le_of_ble_eq_true rfl) (Nat.le_of_ble_eq_true rfl) (by decide +kernel)
    · refine B_blk B jlkX0_ok jcl_SKF [.aload 5, .iload 7, .iconst 0] (by decide +kernel) (ls' := [(0, jR 70), (1, jI v1), (2, jI v2), (3, jI v3), (4, jI v4), (5, jR 24), (6, jI v6), (7, jI v7)]) (st' := [jI 0, jI v7, jR 24]) rfl (p1 := 30) rfl ?_
      obtain ⟨r2, h2, hf⟩ := jbd hf
      refine B_callV B (Nat.le_refl _) (μ' := m) (k' := 0) (n' := 0) ca_X5_get in_X5_get se_X5_get lk_X0_35 (t_X5_get B.tr jcl_SKF ⟨rfl, rfl, by decide⟩ h2) (Nat.le_refl _) rfl rfl rfl (rest := []) rfl rfl (Nat.le_of_ble_eq_true rfl) (by decide +kernel) rfl rfl (st' := [jI r2]) rfl ?_
      refine B_blk B jlkX0_ok jcl_SKF [.iload_n 1] (by decide +kernel) (ls' := [(0, jR 70), (1, jI v1), (2, jI v2), (3, jI v3), (4, jI v4), (5, jR 24), (6, jI v6), (7, jI v7)]) (st' := [jI v1, jI r2]) rfl (p1 := 34) rfl ?_
      refine J_icmp_ne B.1 (off := 20) (tgt := 54) (by decide +kernel) (by decide) hf (fun hf => ?_) (fun hf => ?_)
      · refine B_blk B jlkX0_ok jcl_SKF [.aload_n 0, .getfield 9, .iload 7, .iload_n 3] (by decide +kernel) (ls' := [(0, jR 70), (1, jI v1), (2, jI v2), (3, jI v3), (4, jI v4), (5, jR 24), (6, jI v6), (7, jI v7)]) (st' := [jI v3, jI v7, jR 1]) rfl (p1 := 44) rfl ?_
        obtain ⟨r3, h3, hf⟩ := jbd hf
        refine B_callV B (Nat.le_refl _) (μ' := m) (k' := 0) (n' := 0) ca_X4_isKnown in_X4_isKnown se_X4_isKnown lk_X0_39 (t_X4_isKnown B.tr h3) (Nat.le_refl _) rfl rfl rfl (rest := []) rfl rfl (Nat.le_of_ble_eq_true rfl) (by decide +kernel) rfl rfl (st' := [jI r3]) rfl ?_
        refine J_if_eq B.1 (off := 7) (tgt := 54) (by decide +kernel) (by decide) hf (fun hf => ?_) (fun hf => ?_)
        · refine B_blk B jlkX0_ok jcl_SKF [.iconst 0, .istore 8, .aload 5, .iload 7, .iconst 2] (by decide +kernel) (ls' := [(0, jR 70), (1, jI v1), (2, jI v2), (3, jI v3), (4, jI v4), (5, jR 24), (6, jI v6), (7, jI v7), (8, jI 0)]) (st' := [jI 2, jI v7, jR 24]) rfl (p1 := 62) rfl ?_
          obtain ⟨r4, h4, hf⟩ := jbd hf
          refine B_callV B (Nat.le_refl _) (μ' := m) (k' := 0) (n' := 0) ca_X5_get in_X5_get se_X5_get lk_X0_35 (t_X5_get B.tr jcl_SKF ⟨rfl, rfl, by decide⟩ h4) (Nat.le_refl _) rfl rfl rfl (rest := []) rfl rfl (Nat.le_of_ble_eq_true rfl) (by decide +kernel) rfl rfl (st' := [jI r4]) rfl ?_
          refine B_blk B jlkX0_ok jcl_SKF [.iload_n 2] (by decide +kernel) (ls' := [(0, jR 70), (1, jI v1), (2, jI v2), (3, jI v3), (4, jI v4), (5, jR 24), (6, jI v6), (7, jI v7), (8, jI 0)]) (st' := [jI v2, jI r4]) rfl (p1 := 66) rfl ?_
          refine J_icmp_ne B.1 (off := 7) (tgt := 73) (by decide +kernel) (by decide) hf (fun hf => ?_) (fun hf => ?_)
          · refine B_blk B jlkX0_ok jcl_SKF [.iconst 1, .goto 4, .iload 4] (by decide +kernel) (ls' := [(0, jR 70), (1, jI v1), (2, jI v2), (3, jI v3), (4, jI v4), (5, jR 24), (6, jI v6), (7, jI v7), (8, jI 0)]) (st' := [jI v4, jI 1]) rfl (p1 := 76) rfl ?_
            refine J_icmp_ne B.1 (off := 7) (tgt := 83) (by decide +kernel) (by decide) hf (fun hf => ?_) (fun hf => ?_)
            · refine B_blk B jlkX0_ok jcl_SKF [.iconst 1, .goto 4, .istore 9, .iload 8] (by decide +kernel) (ls' := [(0, jR 70), (1, jI v1), (2, jI v2), (3, jI v3), (4, jI v4), (5, jR 24), (6, jI v6), (7, jI v7), (8, jI 0), (9, jI 1)]) (st' := [jI 0]) rfl (p1 := 88) rfl ?_
              refine J_if_eq (T := some ()) (F := none) (r := ()) B.1 (off := 31) (tgt := 119) (by decide +kernel) (by decide) (if_pos (by decide)) (fun _ => ?_) (fun h => nomatch h)
              refine B_blk B jlkX0_ok jcl_SKF [.iinc 7 1, .goto (-107)] (by decide +kernel) (ls' := [(0, jR 70), (1, jI v1), (2, jI v2), (3, jI v3), (4, jI v4), (5, jR 24), (6, jI v6), (7, jI (jW (v7 + 1))), (8, jI 0), (9, jI 1)]) (st' := []) rfl (p1 := 15) rfl ?_
              refine J_pick [0, 1, 2, 3, 4, 5, 6, 7] (ls' := [(0, jR 70), (1, jI v1), (2, jI v2), (3, jI v3), (4, jI v4), (5, jR 24), (6, jI v6), (7, jI (jW (v7 + 1)))]) rfl ?_
              exact ih v1 v2 v3 v4 v6 (jW (v7 + 1)) m _ hf hq
            · refine B_blk B jlkX0_ok jcl_SKF [.iconst 0, .istore 9, .iload 8] (by decide +kernel) (ls' := [(0, jR 70), (1, jI v1), (2, jI v2), (3, jI v3), (4, jI v4), (5, jR 24), (6, jI v6), (7, jI v7), (8, jI 0), (9, jI 0)]) (st' := [jI 0]) rfl (p1 := 88) rfl ?_
              refine J_if_eq (T := some ()) (F := none) (r := ()) B.1 (off := 31) (tgt := 119) (by decide +kernel) (by decide) (if_pos (by decide)) (fun _ => ?_) (fun h => nomatch h)
              refine B_blk B jlkX0_ok jcl_SKF [.iinc 7 1, .goto (-107)] (by decide +kernel) (ls' := [(0, jR 70), (1, jI v1), (2, jI v2), (3, jI v3), (4, jI v4), (5, jR 24), (6, jI v6), (7, jI (jW (v7 + 1))), (8, jI 0), (9, jI 0)]) (st' := []) rfl (p1 := 15) rfl ?_
              refine J_pick [0, 1, 2, 3, 4, 5, 6, 7] (ls' := [(0, jR 70), (1, jI v1), (2, jI v2), (3, jI v3), (4, jI v4), (5, jR 24), (6, jI v6), (7, jI (jW (v7 + 1)))]) rfl ?_
              exact ih v1 v2 v3 v4 v6 (jW (v7 + 1)) m _ hf hq
          · refine B_blk B jlkX0_ok jcl_SKF [.iconst 0, .iload 4] (by decide +kernel) (ls' := [(0, jR 70), (1, jI v1), (2, jI v2), (3, jI v3), (4, jI v4), (5, jR 24), (6, jI v6), (7, jI v7), (8, jI 0)]) (st' := [jI v4, jI 0]) rfl (p1 := 76) rfl ?_
            refine J_icmp_ne B.1 (off := 7) (tgt := 83) (by decide +kernel) (by decide) hf (fun hf => ?_) (fun hf => ?_)
            · refine B_blk B jlkX0_ok jcl_SKF [.iconst 1, .goto 4, .istore 9, .iload 8] (by decide +kernel) (ls' := [(0, jR 70), (1, jI v1), (2, jI v2), (3, jI v3), (4, jI v4), (5, jR 24), (6, jI v6), (7, jI v7), (8, jI 0), (9, jI 1)]) (st' := [jI 0]) rfl (p1 := 88) rfl ?_
              refine J_if_eq (T := some ()) (F := none) (r := ()) B.1 (off := 31) (tgt := 119) (by decide +kernel) (by decide) (if_pos (by decide)) (fun _ => ?_) (fun h => nomatch h)
              refine B_blk B jlkX0_ok jcl_SKF [.iinc 7 1, .goto (-107)] (by decide +kernel) (ls' := [(0, jR 70), (1, jI v1), (2, jI v2), (3, jI v3), (4, jI v4), (5, jR 24), (6, jI v6), (7, jI (jW (v7 + 1))), (8, jI 0), (9, jI 1)]) (st' := []) rfl (p1 := 15) rfl ?_
              refine J_pick [0, 1, 2, 3, 4, 5, 6, 7] (ls' := [(0, jR 70), (1, jI v1), (2, jI v2), (3, jI v3), (4, jI v4), (5, jR 24), (6, jI v6), (7, jI (jW (v7 + 1)))]) rfl ?_
              exact ih v1 v2 v3 v4 v6 (jW (v7 + 1)) m _ hf hq
            · refine B_blk B jlkX0_ok jcl_SKF [.iconst 0, .istore 9, .iload 8] (by decide +kernel) (ls' := [(0, jR 70), (1, jI v1), (2, jI v2), (3, jI v3), (4, jI v4), (5, jR 24), (6, jI v6), (7, jI v7), (8, jI 0), (9, jI 0)]) (st' := [jI 0]) rfl (p1 := 88) rfl ?_
              refine J_if_eq (T := some ()) (F := none) (r := ()) B.1 (off := 31) (tgt := 119) (by decide +kernel) (by decide) (if_pos (by decide)) (fun _ => ?_) (fun h => nomatch h)
              refine B_blk B jlkX0_ok jcl_SKF [.iinc 7 1, .goto (-107)] (by decide +kernel) (ls' := [(0, jR 70), (1, jI v1), (2, jI v2), (3, jI v3), (4, jI v4), (5, jR 24), (6, jI v6), (7, jI (jW (v7 + 1))), (8, jI 0), (9, jI 0)]) (st' := []) rfl (p1 := 15) rfl ?_
              refine J_pick [0, 1, 2, 3, 4, 5, 6, 7] (ls' := [(0, jR 70), (1, jI v1), (2, jI v2), (3, jI v3), (4, jI v4), (5, jR 24), (6, jI v6), (7, jI (jW (v7 + 1)))]) rfl ?_
              exact ih v1 v2 v3 v4 v6 (jW (v7 + 1)) m _ hf hq
        · refine B_blk B jlkX0_ok jcl_SKF [.iconst 1, .goto 4, .istore 8, .aload 5, .iload 7, .iconst 2] (by decide +kernel) (ls' := [(0, jR 70), (1, jI v1), (2, jI v2), (3, jI v3), (4, jI v4), (5, jR 24), (6, jI v6), (7, jI v7), (8, jI 1)]) (st' := [jI 2, jI v7, jR 24]) rfl (p1 := 62) rfl ?_
          obtain ⟨r5, h5, hf⟩ := jbd hf
          refine B_callV B (Nat.le_refl _) (μ' := m) (k' := 0) (n' := 0) ca_X5_get in_X5_get se_X5_get lk_X0_35 (t_X5_get B.tr jcl_SKF ⟨rfl, rfl, by decide⟩ h5) (Nat.le_refl _) rfl rfl rfl (rest := []) rfl rfl (Nat.le_of_ble_eq_true rfl) (by decide +kernel) rfl rfl (st' := [jI r5]) rfl ?_
          refine B_blk B jlkX0_ok jcl_SKF [.iload_n 2] (by decide +kernel) (ls' := [(0, jR 70), (1, jI v1), (2, jI v2), (3, jI v3), (4, jI v4), (5, jR 24), (6, jI v6), (7, jI v7), (8, jI 1)]) (st' := [jI v2, jI r5]) rfl (p1 := 66) rfl ?_
          refine J_icmp_ne B.1 (off := 7) (tgt := 73) (by decide +kernel) (by decide) hf (fun hf => ?_) (fun hf => ?_)
          · refine B_blk B jlkX0_ok jcl_SKF [.iconst 1, .goto 4, .iload 4] (by decide +kernel) (ls' := [(0, jR 70), (1, jI v1), (2, jI v2), (3, jI v3), (4, jI v4), (5, jR 24), (6, jI v6), (7, jI v7), (8, jI 1)]) (st' := [jI v4, jI 1]) rfl (p1 := 76) rfl ?_
            refine J_icmp_ne B.1 (off := 7) (tgt := 83) (by decide +kernel) (by decide) hf (fun hf => ?_) (fun hf => ?_)
            · refine B_blk B jlkX0_ok jcl_SKF [.iconst 1, .goto 4, .istore 9, .iload 8] (by decide +kernel) (ls' := [(0, jR 70), (1, jI v1), (2, jI v2), (3, jI v3), (4, jI v4), (5, jR 24), (6, jI v6), (7, jI v7), (8, jI 1), (9, jI 1)]) (st' := [jI 1]) rfl (p1 := 88) rfl ?_
              refine J_if_eq (T := none) (F := some ()) (r := ()) B.1 (off := 31) (tgt := 119) (by decide +kernel) (by decide) (if_neg (by decide)) (fun h => nomatch h) (fun _ => ?_)
              refine B_blk B jlkX0_ok jcl_SKF [.iload 9] (by decide +kernel) (ls' := [(0, jR 70), (1, jI v1), (2, jI v2), (3, jI v3), (4, jI v4), (5, jR 24), (6, jI v6), (7, jI v7), (8, jI 1), (9, jI 1)]) (st' := [jI 1]) rfl (p1 := 93) rfl ?_
              refine J_if_eq (T := none) (F := some ()) (r := ()) B.1 (off := 26) (tgt := 119) (by decide +kernel) (by decide) (if_neg (by decide)) (fun h => nomatch h) (fun _ => ?_)
              refine B_blk B jlkX0_ok jcl_SKF [.aload 5, .iload 7, .iconst 4] (by decide +kernel) (ls' := [(0, jR 70), (1, jI v1), (2, jI v2), (3, jI v3), (4, jI v4), (5, jR 24), (6, jI v6), (7, jI v7), (8, jI 1), (9, jI 1)]) (st' := [jI 4, jI v7, jR 24]) rfl (p1 := 101) rfl ?_
              obtain ⟨r6, h6, hf⟩ := jbd hf
              refine B_callV B (Nat.le_refl _) (μ' := m) (k' := 0) (n' := 0) ca_X5_get in_X5_get se_X5_get lk_X0_35 (t_X5_get B.tr jcl_SKF ⟨rfl, rfl, by decide⟩ h6) (Nat.le_refl _) rfl rfl rfl (rest := []) rfl rfl (Nat.le_of_ble_eq_true rfl) (by decide +kernel) rfl rfl (st' := [jI r6]) rfl ?_
              refine B_blk B jlkX0_ok jcl_SKF [.iload 6] (by decide +kernel) (ls' := [(0, jR 70), (1, jI v1), (2, jI v2), (3, jI v3), (4, jI v4), (5, jR 24), (6, jI v6), (7, jI v7), (8, jI 1), (9, jI 1)]) (st' := [jI v6, jI r6]) rfl (p1 := 106) rfl ?_
              refine J_icmp_le B.1 (off := 13) (tgt := 119) (by decide +kernel) (by decide) hf (fun hf => ?_) (fun hf => ?_)
              · refine B_blk B jlkX0_ok jcl_SKF [.iinc 7 1, .goto (-107)] (by decide +kernel) (ls' := [(0, jR 70), (1, jI v1), (2, jI v2), (3, jI v3), (4, jI v4), (5, jR 24), (6, jI v6), (7, jI (jW (v7 + 1))), (8, jI 1), (9, jI 1)]) (st' := []) rfl (p1 := 15) rfl ?_
                refine J_pick [0, 1, 2, 3, 4, 5, 6, 7] (ls' := [(0, jR 70), (1, jI v1), (2, jI v2), (3, jI v3), (4, jI v4), (5, jR 24), (6, jI v6), (7, jI (jW (v7 + 1)))]) rfl ?_
                exact ih v1 v2 v3 v4 v6 (jW (v7 + 1)) m _ hf hq
              · refine B_blk B jlkX0_ok jcl_SKF [.aload 5, .iload 7, .iconst 4] (by decide +kernel) (ls' := [(0, jR 70), (1, jI v1), (2, jI v2), (3, jI v3), (4, jI v4), (5, jR 24), (6, jI v6), (7, jI v7), (8, jI 1), (9, jI 1)]) (st' := [jI 4, jI v7, jR 24]) rfl (p1 := 114) rfl ?_
                obtain ⟨r7, h7, hf⟩ := jbd hf
                refine B_callV B (Nat.le_refl _) (μ' := m) (k' := 0) (n' := 0) ca_X5_get in_X5_get se_X5_get lk_X0_35 (t_X5_get B.tr jcl_SKF ⟨rfl, rfl, by decide⟩ h7) (Nat.le_refl _) rfl rfl rfl (rest := []) rfl rfl (Nat.le_of_ble_eq_true rfl) (by decide +kernel) rfl rfl (st' := [jI r7]) rfl ?_
                refine B_blk B jlkX0_ok jcl_SKF [.istore 6, .iinc 7 1, .goto (-107)] (by decide +kernel) (ls' := [(0, jR 70), (1, jI v1), (2, jI v2), (3, jI v3), (4, jI v4), (5, jR 24), (6, jI r7), (7, jI (jW (v7 + 1))), (8, jI 1), (9, jI 1)]) (st' := []) rfl (p1 := 15) rfl ?_
                refine J_pick [0, 1, 2, 3, 4, 5, 6, 7] (ls' := [(0, jR 70), (1, jI v1), (2, jI v2), (3, jI v3), (4, jI v4), (5, jR 24), (6, jI r7), (7, jI (jW (v7 + 1)))]) rfl ?_
                exact ih v1 v2 v3 v4 r7 (jW (v7 + 1)) m _ hf hq
            · refine B_blk B jlkX0_ok jcl_SKF [.iconst 0, .istore 9, .iload 8] (by decide +kernel) (ls' := [(0, jR 70), (1, jI v1), (2, jI v2), (3, jI v3), (4, jI v4), (5, jR 24), (6, jI v6), (7, jI v7), (8, jI 1), (9, jI 0)]) (st' := [jI 1]) rfl (p1 := 88) rfl ?_
              refine J_if_eq (T := none) (F := some ()) (r := ()) B.1 (off := 31) (tgt := 119) (by decide +kernel) (by decide) (if_neg (by decide)) (fun h => nomatch h) (fun _ => ?_)
              refine B_blk B jlkX0_ok jcl_SKF [.iload 9] (by decide +kernel) (ls' := [(0, jR 70), (1, jI v1), (2, jI v2), (3, jI v3), (4, jI v4), (5, jR 24), (6, jI v6), (7, jI v7), (8, jI 1), (9, jI 0)]) (st' := [jI 0]) rfl (p1 := 93) rfl ?_
              refine J_if_eq (T := some ()) (F := none) (r := ()) B.1 (off := 26) (tgt := 119) (by decide +kernel) (by decide) (if_pos (by decide)) (fun _ => ?_) (fun h => nomatch h)
              refine B_blk B jlkX0_ok jcl_SKF [.iinc 7 1, .goto (-107)] (by decide +kernel) (ls' := [(0, jR 70), (1, jI v1), (2, jI v2), (3, jI v3), (4, jI v4), (5, jR 24), (6, jI v6), (7, jI (jW (v7 + 1))), (8, jI 1), (9, jI 0)]) (st' := []) rfl (p1 := 15) rfl ?_
              refine J_pick [0, 1, 2, 3, 4, 5, 6, 7] (ls' := [(0, jR 70), (1, jI v1), (2, jI v2), (3, jI v3), (4, jI v4), (5, jR 24), (6, jI v6), (7, jI (jW (v7 + 1)))]) rfl ?_
              exact ih v1 v2 v3 v4 v6 (jW (v7 + 1)) m _ hf hq
          · refine B_blk B jlkX0_ok jcl_SKF [.iconst 0, .iload 4] (by decide +kernel) (ls' := [(0, jR 70), (1, jI v1), (2, jI v2), (3, jI v3), (4, jI v4), (5, jR 24), (6, jI v6), (7, jI v7), (8, jI 1)]) (st' := [jI v4, jI 0]) rfl (p1 := 76) rfl ?_
            refine J_icmp_ne B.1 (off := 7) (tgt := 83) (by decide +kernel) (by decide) hf (fun hf => ?_) (fun hf => ?_)
            · refine B_blk B jlkX0_ok jcl_SKF [.iconst 1, .goto 4, .istore 9, .iload 8] (by decide +kernel) (ls' := [(0, jR 70), (1, jI v1), (2, jI v2), (3, jI v3), (4, jI v4), (5, jR 24), (6, jI v6), (7, jI v7), (8, jI 1), (9, jI 1)]) (st' := [jI 1]) rfl (p1 := 88) rfl ?_
              refine J_if_eq (T := none) (F := some ()) (r := ()) B.1 (off := 31) (tgt := 119) (by decide +kernel) (by decide) (if_neg (by decide)) (fun h => nomatch h) (fun _ => ?_)
              refine B_blk B jlkX0_ok jcl_SKF [.iload 9] (by decide +kernel) (ls' := [(0, jR 70), (1, jI v1), (2, jI v2), (3, jI v3), (4, jI v4), (5, jR 24), (6, jI v6), (7, jI v7), (8, jI 1), (9, jI 1)]) (st' := [jI 1]) rfl (p1 := 93) rfl ?_
              refine J_if_eq (T := none) (F := some ()) (r := ()) B.1 (off := 26) (tgt := 119) (by decide +kernel) (by decide) (if_neg (by decide)) (fun h => nomatch h) (fun _ => ?_)
              refine B_blk B jlkX0_ok jcl_SKF [.aload 5, .iload 7, .iconst 4] (by decide +kernel) (ls' := [(0, jR 70), (1, jI v1), (2, jI v2), (3, jI v3), (4, jI v4), (5, jR 24), (6, jI v6), (7, jI v7), (8, jI 1), (9, jI 1)]) (st' := [jI 4, jI v7, jR 24]) rfl (p1 := 101) rfl ?_
              obtain ⟨r8, h8, hf⟩ := jbd hf
              refine B_callV B (Nat.le_refl _) (μ' := m) (k' := 0) (n' := 0) ca_X5_get in_X5_get se_X5_get lk_X0_35 (t_X5_get B.tr jcl_SKF ⟨rfl, rfl, by decide⟩ h8) (Nat.le_refl _) rfl rfl rfl (rest := []) rfl rfl (Nat.le_of_ble_eq_true rfl) (by decide +kernel) rfl rfl (st' := [jI r8]) rfl ?_
              refine B_blk B jlkX0_ok jcl_SKF [.iload 6] (by decide +kernel) (ls' := [(0, jR 70), (1, jI v1), (2, jI v2), (3, jI v3), (4, jI v4), (5, jR 24), (6, jI v6), (7, jI v7), (8, jI 1), (9, jI 1)]) (st' := [jI v6, jI r8]) rfl (p1 := 106) rfl ?_
              refine J_icmp_le B.1 (off := 13) (tgt := 119) (by decide +kernel) (by decide) hf (fun hf => ?_) (fun hf => ?_)
              · refine B_blk B jlkX0_ok jcl_SKF [.iinc 7 1, .goto (-107)] (by decide +kernel) (ls' := [(0, jR 70), (1, jI v1), (2, jI v2), (3, jI v3), (4, jI v4), (5, jR 24), (6, jI v6), (7, jI (jW (v7 + 1))), (8, jI 1), (9, jI 1)]) (st' := []) rfl (p1 := 15) rfl ?_
                refine J_pick [0, 1, 2, 3, 4, 5, 6, 7] (ls' := [(0, jR 70), (1, jI v1), (2, jI v2), (3, jI v3), (4, jI v4), (5, jR 24), (6, jI v6), (7, jI (jW (v7 + 1)))]) rfl ?_
                exact ih v1 v2 v3 v4 v6 (jW (v7 + 1)) m _ hf hq
              · refine B_blk B jlkX0_ok jcl_SKF [.aload 5, .iload 7, .iconst 4] (by decide +kernel) (ls' := [(0, jR 70), (1, jI v1), (2, jI v2), (3, jI v3), (4, jI v4), (5, jR 24), (6, jI v6), (7, jI v7), (8, jI 1), (9, jI 1)]) (st' := [jI 4, jI v7, jR 24]) rfl (p1 := 114) rfl ?_
                obtain ⟨r9, h9, hf⟩ := jbd hf
                refine B_callV B (Nat.le_refl _) (μ' := m) (k' := 0) (n' := 0) ca_X5_get in_X5_get se_X5_get lk_X0_35 (t_X5_get B.tr jcl_SKF ⟨rfl, rfl, by decide⟩ h9) (Nat.le_refl _) rfl rfl rfl (rest := []) rfl rfl (Nat.le_of_ble_eq_true rfl) (by decide +kernel) rfl rfl (st' := [jI r9]) rfl ?_
                refine B_blk B jlkX0_ok jcl_SKF [.istore 6, .iinc 7 1, .goto (-107)] (by decide +kernel) (ls' := [(0, jR 70), (1, jI v1), (2, jI v2), (3, jI v3), (4, jI v4), (5, jR 24), (6, jI r9), (7, jI (jW (v7 + 1))), (8, jI 1), (9, jI 1)]) (st' := []) rfl (p1 := 15) rfl ?_
                refine J_pick [0, 1, 2, 3, 4, 5, 6, 7] (ls' := [(0, jR 70), (1, jI v1), (2, jI v2), (3, jI v3), (4, jI v4), (5, jR 24), (6, jI r9), (7, jI (jW (v7 + 1)))]) rfl ?_
                exact ih v1 v2 v3 v4 r9 (jW (v7 + 1)) m _ hf hq
            · refine B_blk B jlkX0_ok jcl_SKF [.iconst 0, .istore 9, .iload 8] (by decide +kernel) (ls' := [(0, jR 70), (1, jI v1), (2, jI v2), (3, jI v3), (4, jI v4), (5, jR 24), (6, jI v6), (7, jI v7), (8, jI 1), (9, jI 0)]) (st' := [jI 1]) rfl (p1 := 88) rfl ?_
              refine J_if_eq (T := none) (F := some ()) (r := ()) B.1 (off := 31) (tgt := 119) (by decide +kernel) (by decide) (if_neg (by decide)) (fun h => nomatch h) (fun _ => ?_)
              refine B_blk B jlkX0_ok jcl_SKF [.iload 9] (by decide +kernel) (ls' := [(0, jR 70), (1, jI v1), (2, jI v2), (3, jI v3), (4, jI v4), (5, jR 24), (6, jI v6), (7, jI v7), (8, jI 1), (9, jI 0)]) (st' := [jI 0]) rfl (p1 := 93) rfl ?_
              refine J_if_eq (T := some ()) (F := none) (r := ()) B.1 (off := 26) (tgt := 119) (by decide +kernel) (by decide) (if_pos (by decide)) (fun _ => ?_) (fun h => nomatch h)
              refine B_blk B jlkX0_ok jcl_SKF [.iinc 7 1, .goto (-107)] (by decide +kernel) (ls' := [(0, jR 70), (1, jI v1), (2, jI v2), (3, jI v3), (4, jI v4), (5, jR 24), (6, jI v6), (7, jI (jW (v7 + 1))), (8, jI 1), (9, jI 0)]) (st' := []) rfl (p1 := 15) rfl ?_
              refine J_pick [0, 1, 2, 3, 4, 5, 6, 7] (ls' := [(0, jR 70), (1, jI v1), (2, jI v2), (3, jI v3), (4, jI v4), (5, jR 24), (6, jI v6), (7, jI (jW (v7 + 1)))]) rfl ?_
              exact ih v1 v2 v3 v4 v6 (jW (v7 + 1)) m _ hf hq
      · refine B_blk B jlkX0_ok jcl_SKF [.iconst 0, .istore 8, .aload 5, .iload 7, .iconst 2] (by decide +kernel) (ls' := [(0, jR 70), (1, jI v1), (2, jI v2), (3, jI v3), (4, jI v4), (5, jR 24), (6, jI v6), (7, jI v7), (8, jI 0)]) (st' := [jI 2, jI v7, jR 24]) rfl (p1 := 62) rfl ?_
        obtain ⟨r10, h10, hf⟩ := jbd hf
        refine B_callV B (Nat.le_refl _) (μ' := m) (k' := 0) (n' := 0) ca_X5_get in_X5_get se_X5_get lk_X0_35 (t_X5_get B.tr jcl_SKF ⟨rfl, rfl, by decide⟩ h10) (Nat.le_refl _) rfl rfl rfl (rest := []) rfl rfl (Nat.le_of_ble_eq_true rfl) (by decide +kernel) rfl rfl (st' := [jI r10]) rfl ?_
        refine B_blk B jlkX0_ok jcl_SKF [.iload_n 2] (by decide +kernel) (ls' := [(0, jR 70), (1, jI v1), (2, jI v2), (3, jI v3), (4, jI v4), (5, jR 24), (6, jI v6), (7, jI v7), (8, jI 0)]) (st' := [jI v2, jI r10]) rfl (p1 := 66) rfl ?_
        refine J_icmp_ne B.1 (off := 7) (tgt := 73) (by decide +kernel) (by decide) hf (fun hf => ?_) (fun hf => ?_)
        · refine B_blk B jlkX0_ok jcl_SKF [.iconst 1, .goto 4, .iload 4] (by decide +kernel) (ls' := [(0, jR 70), (1, jI v1), (2, jI v2), (3, jI v3), (4, jI v4), (5, jR 24), (6, jI v6), (7, jI v7), (8, jI 0)]) (st' := [jI v4, jI 1]) rfl (p1 := 76) rfl ?_
          refine J_icmp_ne B.1 (off := 7) (tgt := 83) (by decide +kernel) (by decide) hf (fun hf => ?_) (fun hf => ?_)
          · refine B_blk B jlkX0_ok jcl_SKF [.iconst 1, .goto 4, .istore 9, .iload 8] (by decide +kernel) (ls' := [(0, jR 70), (1, jI v1), (2, jI v2), (3, jI v3), (4, jI v4), (5, jR 24), (6, jI v6), (7, jI v7), (8, jI 0), (9, jI 1)]) (st' := [jI 0]) rfl (p1 := 88) rfl ?_
            refine J_if_eq (T := some ()) (F := none) (r := ()) B.1 (off := 31) (tgt := 119) (by decide +kernel) (by decide) (if_pos (by decide)) (fun _ => ?_) (fun h => nomatch h)
            refine B_blk B jlkX0_ok jcl_SKF [.iinc 7 1, .goto (-107)] (by decide +kernel) (ls' := [(0, jR 70), (1, jI v1), (2, jI v2), (3, jI v3), (4, jI v4), (5, jR 24), (6, jI v6), (7, jI (jW (v7 + 1))), (8, jI 0), (9, jI 1)]) (st' := []) rfl (p1 := 15) rfl ?_
            refine J_pick [0, 1, 2, 3, 4, 5, 6, 7] (ls' := [(0, jR 70), (1, jI v1), (2, jI v2), (3, jI v3), (4, jI v4), (5, jR 24), (6, jI v6), (7, jI (jW (v7 + 1)))]) rfl ?_
            exact ih v1 v2 v3 v4 v6 (jW (v7 + 1)) m _ hf hq
          · refine B_blk B jlkX0_ok jcl_SKF [.iconst 0, .istore 9, .iload 8] (by decide +kernel) (ls' := [(0, jR 70), (1, jI v1), (2, jI v2), (3, jI v3), (4, jI v4), (5, jR 24), (6, jI v6), (7, jI v7), (8, jI 0), (9, jI 0)]) (st' := [jI 0]) rfl (p1 := 88) rfl ?_
            refine J_if_eq (T := some ()) (F := none) (r := ()) B.1 (off := 31) (tgt := 119) (by decide +kernel) (by decide) (if_pos (by decide)) (fun _ => ?_) (fun h => nomatch h)
            refine B_blk B jlkX0_ok jcl_SKF [.iinc 7 1, .goto (-107)] (by decide +kernel) (ls' := [(0, jR 70), (1, jI v1), (2, jI v2), (3, jI v3), (4, jI v4), (5, jR 24), (6, jI v6), (7, jI (jW (v7 + 1))), (8, jI 0), (9, jI 0)]) (st' := []) rfl (p1 := 15) rfl ?_
            refine J_pick [0, 1, 2, 3, 4, 5, 6, 7] (ls' := [(0, jR 70), (1, jI v1), (2, jI v2), (3, jI v3), (4, jI v4), (5, jR 24), (6, jI v6), (7, jI (jW (v7 + 1)))]) rfl ?_
            exact ih v1 v2 v3 v4 v6 (jW (v7 + 1)) m _ hf hq
        · refine B_blk B jlkX0_ok jcl_SKF [.iconst 0, .iload 4] (by decide +kernel) (ls' := [(0, jR 70), (1, jI v1), (2, jI v2), (3, jI v3), (4, jI v4), (5, jR 24), (6, jI v6), (7, jI v7), (8, jI 0)]) (st' := [jI v4, jI 0]) rfl (p1 := 76) rfl ?_
          refine J_icmp_ne B.1 (off := 7) (tgt := 83) (by decide +kernel) (by decide) hf (fun hf => ?_) (fun hf => ?_)
          · refine B_blk B jlkX0_ok jcl_SKF [.iconst 1, .goto 4, .istore 9, .iload 8] (by decide +kernel) (ls' := [(0, jR 70), (1, jI v1), (2, jI v2), (3, jI v3), (4, jI v4), (5, jR 24), (6, jI v6), (7, jI v7), (8, jI 0), (9, jI 1)]) (st' := [jI 0]) rfl (p1 := 88) rfl ?_
            refine J_if_eq (T := some ()) (F := none) (r := ()) B.1 (off := 31) (tgt := 119) (by decide +kernel) (by decide) (if_pos (by decide)) (fun _ => ?_) (fun h => nomatch h)
            refine B_blk B jlkX0_ok jcl_SKF [.iinc 7 1, .goto (-107)] (by decide +kernel) (ls' := [(0, jR 70), (1, jI v1), (2, jI v2), (3, jI v3), (4, jI v4), (5, jR 24), (6, jI v6), (7, jI (jW (v7 + 1))), (8, jI 0), (9, jI 1)]) (st' := []) rfl (p1 := 15) rfl ?_
            refine J_pick [0, 1, 2, 3, 4, 5, 6, 7] (ls' := [(0, jR 70), (1, jI v1), (2, jI v2), (3, jI v3), (4, jI v4), (5, jR 24), (6, jI v6), (7, jI (jW (v7 + 1)))]) rfl ?_
            exact ih v1 v2 v3 v4 v6 (jW (v7 + 1)) m _ hf hq
          · refine B_blk B jlkX0_ok jcl_SKF [.iconst 0, .istore 9, .iload 8] (by decide +kernel) (ls' := [(0, jR 70), (1, jI v1), (2, jI v2), (3, jI v3), (4, jI v4), (5, jR 24), (6, jI v6), (7, jI v7), (8, jI 0), (9, jI 0)]) (st' := [jI 0]) rfl (p1 := 88) rfl ?_
            refine J_if_eq (T := some ()) (F := none) (r := ()) B.1 (off := 31) (tgt := 119) (by decide +kernel) (by decide) (if_pos (by decide)) (fun _ => ?_) (fun h => nomatch h)
            refine B_blk B jlkX0_ok jcl_SKF [.iinc 7 1, .goto (-107)] (by decide +kernel) (ls' := [(0, jR 70), (1, jI v1), (2, jI v2), (3, jI v3), (4, jI v4), (5, jR 24), (6, jI v6), (7, jI (jW (v7 + 1))), (8, jI 0), (9, jI 0)]) (st' := []) rfl (p1 := 15) rfl ?_
            refine J_pick [0, 1, 2, 3, 4, 5, 6, 7] (ls' := [(0, jR 70), (1, jI v1), (2, jI v2), (3, jI v3), (4, jI v4), (5, jR 24), (6, jI v6), (7, jI (jW (v7 + 1)))]) rfl ?_
            exact ih v1 v2 v3 v4 v6 (jW (v7 + 1)) m _ hf hq
theorem t_X0_latestEnd {l : Launch} {G : jG} (hl : l.stackTraces = false) {a0 : Int} {a1 : Int} {a2 : Int} {a3 : Int} {m : jMu} {r : Int} (hf : f_X0_latestEnd a0 a1 a2 a3 m = some r) : jCt l G yX0_latestEnd (.code yX0_latestEnd cX0_latestEnd 10 (some .int) :: jWG) rm_X0_latestEnd [jR 70, jI a0, jI a1, jI a2, jI a3] SKF m (.inl (some (jI r))) SKF m := by
  unfold f_X0_latestEnd at hf
  refine J_start (ls0 := [(0, jR 70), (1, jI a0), (2, jI a1), (3, jI a2), (4, jI a3)]) (by decide +kernel) hl (Nat.le_of_ble_eq_true rfl) rfl fun X C hN hn hR hr hnm hno hq => ?_
  have B : jB X cX0_latestEnd RX0 10 SKF.length rm_X0_latestEnd (some .int) := ⟨C, hN, Nat.le_of_eq hn, hR, hr⟩
  refine B_blk B jlkX0_ok jcl_SKF [.aload_n 0, .getfield 9, .getfield 23, .astore 5, .iconst (-1), .istore 6, .iconst 0, .istore 7] (by decide +kernel) (ls' := [(0, jR 70), (1, jI a0), (2, jI a1), (3, jI a2), (4, jI a3), (5, jR 24), (6, jI (-1)), (7, jI 0)]) (st' := []) rfl (p1 := 15) rfl ?_
  exact t_X0_latestEnd_L15 B jFU a0 a1 a2 a3 (-1) 0 m _ hf hq

def rm_X0_recalled : Room := { frames := 8, cells := 0, slots := 0, locals := 138 }
def f_X0_recalled_L6 : Nat → Int → Int → Int → Int → Int → jMu → Option Int
  | 0, _, _, _, _, _, _ => none
  | q + 1, v1, v2, v3, v4, v5, m => (f_X5_size 4 5 80 m).bind fun r1 => (if r1 ≤ v5 then some v4 else (f_X0_latestEnd v5 v1 v2 1 m).bind fun r2 => (f_X0_latestEnd v5 v1 v2 0 m).bind fun r3 => (if r3 ≤ r2 then (if r2 = (-1) then f_X0_recalled_L6 q v1 v2 v3 v4 (jW (v5 + 1)) m else (if v3 = 0 then f_X0_recalled_L6 q v1 v2 v3 (jOr v4 (jSl 1 v5)) (jW (v5 + 1)) m else f_X0_recalled_L6 q v1 v2 v3 v4 (jW (v5 + 1)) m)) else (if r2 = (-1) then f_X0_recalled_L6 q v1 v2 v3 v4 (jW (v5 + 1)) m else f_X0_recalled_L6 q v1 v2 v3 (jOr v4 (jSl 1 v5)) (jW (v5 + 1)) m)))
def f_X0_recalled (a0 : Int) (a1 : Int) (a2 : Int) (m : jMu) : Option Int :=
  f_X0_recalled_L6 jFU a0 a1 a2 0 0 m
theorem t_X0_recalled_L6 {X : jX} (B : jB X cX0_recalled RX0 8 SKF.length rm_X0_recalled (some .int)) : ∀ (q : Nat) (v1 : Int) (v2 : Int) (v3 : Int) (v4 : Int) (v5 : Int) (m : jMu) (r : Int), f_X0_recalled_L6 q v1 v2 v3 v4 v5 m = some r → jQ X (.inl (some (jI r))) SKF m rm_X0_recalled.cells rm_X0_recalled.slots → J X SKF m 0 0 6 [(0, jR 70), (1, jI v1), (2, jI v2), (3, jI v3), (4, jI v4), (5, jI v5)] [] := by
  intro q
  induction q with
  | zero =>
    intro v1 v2 v3 v4 v5 m r hf
    rw [f_X0_recalled_L6] at hf
    cases hf
  | succ q ih =>
    intro v1 v2 v3 v4 v5 m r hf hq
    rw [f_X0_recalled_L6] at hf
    refine B_blk B jlkX0_ok jcl_SKF [.iload 5, .aload_n 0, .getfield 9, .getfield 43] (by decide +kernel) (ls' := [(0, jR 70), (1, jI v1), (2, jI v2), (3, jI v3), (4, jI v4), (5, jI v5)]) (st' := [jR 4, jI v5]) rfl (p1 := 15) rfl ?_
    obtain ⟨r1, h1, hf⟩ := jbd hf
    refine B_callV B (Nat.le_refl _) (μ' := m) (k' := 0) (n' := 0) ca_X5_size in_X5_size se_X5_size lk_X0_29 (t_X5_size B.tr jcl_SKF ⟨rfl, rfl, by decide⟩ h1) (Nat.le_refl _) rfl rfl rfl (rest := [jI v5]) rfl rfl (Nat.le_of_ble_eq_true rfl) (by decide +kernel) rfl rfl (st' := [jI r1, jI v5]) rfl ?_
    refine J_icmp_ge B.1 (off := 65) (tgt := 83) (by decide +kernel) (by decide) hf (fun hf => ?_) (fun hf => ?_)
    · refine B_blk B jlkX0_ok jcl_SKF [.iload 4] (by decide +kernel) (ls' := [(0, jR 70), (1, jI v1), (2, jI v2), (3, jI v3), (4, jI v4), (5, jI v5)]) (st' := [jI v4]) rfl (p1 := 85) rfl ?_
      cases hf
      exact B_retI B hq rfl (Nat.le_of_ble_eq_true rfl) (Nat.le_of_ble_eq_true rfl) (by decide +kernel)
    · refine B_blk B jlkX0_ok jcl_SKF [.aload_n 0, .iload 5, .iload_n 1, .iload_n 2, .iconst 1] (by decide +kernel) (ls' := [(0, jR 70), (1, jI v1), (2, jI v2), (3, jI v3), (4, jI v4), (5, jI v5)]) (st' := [jI 1, jI v2, jI v1, jI v5, jR 70]) rfl (p1 := 27) rfl ?_
      obtain ⟨r2, h2, hf⟩ := jbd hf
      refine B_callV B (Nat.le_refl _) (μ' := m) (k' := 0) (n' := 0) ca_X0_latestEnd in_X0_latestEnd se_X0_latestEnd lk_X0_46 (t_X0_latestEnd B.tr h2) (Nat.le_refl _) rfl rfl rfl (rest := []) rfl rfl (Nat.le_of_ble_eq_true rfl) (by decide +kernel) rfl rfl (st' := [jI r2]) rfl ?_
      refine B_blk B jlkX0_ok jcl_SKF [.istore 6, .aload_n 0, .iload 5, .iload_n 1, .iload_n 2, .iconst 0] (by decide +kernel) (ls' := [(0, jR 70), (1, jI v1), (2, jI v2), (3, jI v3), (4, jI v4), (5, jI v5), (6, jI r2)]) (st' := [jI 0, jI v2, jI v1, jI v5, jR 70]) rfl (p1 := 38) rfl ?_
      obtain ⟨r3, h3, hf⟩ := jbd hf
      refine B_callV B (Nat.le_refl _) (μ' := m) (k' := 0) (n' := 0) ca_X0_latestEnd in_X0_latestEnd se_X0_latestEnd lk_X0_46 (t_X0_latestEnd B.tr h3) (Nat.le_refl _) rfl rfl rfl (rest := []) rfl rfl (Nat.le_of_ble_eq_true rfl) (by decide +kernel) rfl rfl (st' := [jI r3]) rfl ?_
      refine B_blk B jlkX0_ok jcl_SKF [.iload 6] (by decide +kernel) (ls' := [(0, jR 70), (1, jI v1), (2, jI v2), (3, jI v3), (4, jI v4), (5, jI v5), (6, jI r2)]) (st' := [jI r2, jI r3]) rfl (p1 := 43) rfl ?_
      refine J_icmp_le B.1 (off := 7) (tgt := 50) (by decide +kernel) (by decide) hf (fun hf => ?_) (fun hf => ?_)
      · refine B_blk B jlkX0_ok jcl_SKF [.iconst 0, .istore 7, .iload 6, .iconst (-1)] (by decide +kernel) (ls' := [(0, jR 70), (1, jI v1), (2, jI v2), (3, jI v3), (4, jI v4), (5, jI v5), (6, jI r2), (7, jI 0)]) (st' := [jI (-1), jI r2]) rfl (p1 := 56) rfl ?_
        refine J_icmp_eq B.1 (off := 21) (tgt := 77) (by decide +kernel) (by decide) hf (fun hf => ?_) (fun hf => ?_)
        · refine B_blk B jlkX0_ok jcl_SKF [.iinc 5 1, .goto (-74)] (by decide +kernel) (ls' := [(0, jR 70), (1, jI v1), (2, jI v2), (3, jI v3), (4, jI v4), (5, jI (jW (v5 + 1))), (6, jI r2), (7, jI 0)]) (st' := []) rfl (p1 := 6) rfl ?_
          refine J_pick [0, 1, 2, 3, 4, 5] (ls' := [(0, jR 70), (1, jI v1), (2, jI v2), (3, jI v3), (4, jI v4), (5, jI (jW (v5 + 1)))]) rfl ?_
          exact ih v1 v2 v3 v4 (jW (v5 + 1)) m _ hf hq
        · refine B_blk B jlkX0_ok jcl_SKF [.iload 7] (by decide +kernel) (ls' := [(0, jR 70), (1, jI v1), (2, jI v2), (3, jI v3), (4, jI v4), (5, jI v5), (6, jI r2), (7, jI 0)]) (st' := [jI 0]) rfl (p1 := 61) rfl ?_
          refine J_if_ne (T := some ()) (F := none) (r := ()) B.1 (off := 7) (tgt := 68) (by decide +kernel) (by decide) (if_pos (by decide)) (fun _ => ?_) (fun h => nomatch h)
          refine B_blk B jlkX0_ok jcl_SKF [.iload_n 3] (by decide +kernel) (ls' := [(0, jR 70), (1, jI v1), (2, jI v2), (3, jI v3), (4, jI v4), (5, jI v5), (6, jI r2), (7, jI 0)]) (st' := [jI v3]) rfl (p1 := 65) rfl ?_
          refine J_if_ne B.1 (off := 12) (tgt := 77) (by decide +kernel) (by decide) hf (fun hf => ?_) (fun hf => ?_)
          · refine B_blk B jlkX0_ok jcl_SKF [.iload 4, .iconst 1, .iload 5, .ishl, .ior, .istore 4, .iinc 5 1, .goto (-74)] (by decide +kernel) (ls' := [(0, jR 70), (1, jI v1), (2, jI v2), (3, jI v3), (4, jI (jOr v4 (jSl 1 v5))), (5, jI (jW (v5 + 1))), (6, jI r2), (7, jI 0)]) (st' := []) rfl (p1 := 6) rfl ?_
            refine J_pick [0, 1, 2, 3, 4, 5] (ls' := [(0, jR 70), (1, jI v1), (2, jI v2), (3, jI v3), (4, jI (jOr v4 (jSl 1 v5))), (5, jI (jW (v5 + 1)))]) rfl ?_
            exact ih v1 v2 v3 (jOr v4 (jSl 1 v5)) (jW (v5 + 1)) m _ hf hq
          · refine B_blk B jlkX0_ok jcl_SKF [.iinc 5 1, .goto (-74)] (by decide +kernel) (ls' := [(0, jR 70), (1, jI v1), (2, jI v2), (3, jI v3), (4, jI v4), (5, jI (jW (v5 + 1))), (6, jI r2), (7, jI 0)]) (st' := []) rfl (p1 := 6) rfl ?_
            refine J_pick [0, 1, 2, 3, 4, 5] (ls' := [(0, jR 70), (1, jI v1), (2, jI v2), (3, jI v3), (4, jI v4), (5, jI (jW (v5 + 1)))]) rfl ?_
            exact ih v1 v2 v3 v4 (jW (v5 + 1)) m _ hf hq
      · refine B_blk B jlkX0_ok jcl_SKF [.iconst 1, .goto 4, .istore 7, .iload 6, .iconst (-1)] (by decide +kernel) (ls' := [(0, jR 70), (1, jI v1), (2, jI v2), (3, jI v3), (4, jI v4), (5, jI v5), (6, jI r2), (7, jI 1)]) (st' := [jI (-1), jI r2]) rfl (p1 := 56) rfl ?_
        refine J_icmp_eq B.1 (off := 21) (tgt := 77) (by decide +kernel) (by decide) hf (fun hf => ?_) (fun hf => ?_)
        · refine B_blk B jlkX0_ok jcl_SKF [.iinc 5 1, .goto (-74)] (by decide +kernel) (ls' := [(0, jR 70), (1, jI v1), (2, jI v2), (3, jI v3), (4, jI v4), (5, jI (jW (v5 + 1))), (6, jI r2), (7, jI 1)]) (st' := []) rfl (p1 := 6) rfl ?_
          refine J_pick [0, 1, 2, 3, 4, 5] (ls' := [(0, jR 70), (1, jI v1), (2, jI v2), (3, jI v3), (4, jI v4), (5, jI (jW (v5 + 1)))]) rfl ?_
          exact ih v1 v2 v3 v4 (jW (v5 + 1)) m _ hf hq
        · refine B_blk B jlkX0_ok jcl_SKF [.iload 7] (by decide +kernel) (ls' := [(0, jR 70), (1, jI v1), (2, jI v2), (3, jI v3), (4, jI v4), (5, jI v5), (6, jI r2), (7, jI 1)]) (st' := [jI 1]) rfl (p1 := 61) rfl ?_
          refine J_if_ne (T := none) (F := some ()) (r := ()) B.1 (off := 7) (tgt := 68) (by decide +kernel) (by decide) (if_neg (by decide)) (fun h => nomatch h) (fun _ => ?_)
          refine B_blk B jlkX0_ok jcl_SKF [.iload 4, .iconst 1, .iload 5, .ishl, .ior, .istore 4, .iinc 5 1, .goto (-74)] (by decide +kernel) (ls' := [(0, jR 70), (1, jI v1), (2, jI v2), (3, jI v3), (4, jI (jOr v4 (jSl 1 v5))), (5, jI (jW (v5 + 1))), (6, jI r2), (7, jI 1)]) (st' := []) rfl (p1 := 6) rfl ?_
          refine J_pick [0, 1, 2, 3, 4, 5] (ls' := [(0, jR 70), (1, jI v1), (2, jI v2), (3, jI v3), (4, jI (jOr v4 (jSl 1 v5))), (5, jI (jW (v5 + 1)))]) rfl ?_
          exact ih v1 v2 v3 (jOr v4 (jSl 1 v5)) (jW (v5 + 1)) m _ hf hq
theorem t_X0_recalled {l : Launch} {G : jG} (hl : l.stackTraces = false) {a0 : Int} {a1 : Int} {a2 : Int} {m : jMu} {r : Int} (hf : f_X0_recalled a0 a1 a2 m = some r) : jCt l G yX0_recalled (.code yX0_recalled cX0_recalled 8 (some .int) :: jWG) rm_X0_recalled [jR 70, jI a0, jI a1, jI a2] SKF m (.inl (some (jI r))) SKF m := by
  unfold f_X0_recalled at hf
  refine J_start (ls0 := [(0, jR 70), (1, jI a0), (2, jI a1), (3, jI a2)]) (by decide +kernel) hl (Nat.le_of_ble_eq_true rfl) rfl fun X C hN hn hR hr hnm hno hq => ?_
  have B : jB X cX0_recalled RX0 8 SKF.length rm_X0_recalled (some .int) := ⟨C, hN, Nat.le_of_eq hn, hR, hr⟩
  refine B_blk B jlkX0_ok jcl_SKF [.iconst 0, .istore 4, .iconst 0, .istore 5] (by decide +kernel) (ls' := [(0, jR 70), (1, jI a0), (2, jI a1), (3, jI a2), (4, jI 0), (5, jI 0)]) (st' := []) rfl (p1 := 6) rfl ?_
  exact t_X0_recalled_L6 B jFU a0 a1 a2 0 0 m _ hf hq

def rm_X9_recall : Room := { frames := 10, cells := 1, slots := 6, locals := 165 }
def f_X9_recall (a0 : Int) (a1 : Int) (a2 : Int) (m : jMu) : Option (jOut Int) :=
  (f_X5_has 22 23 24 a0 m).bind fun r1 => (if r1 = 0 then jthr (f_X9_needIndex 0 m) fun r2 => (f_X0_recalled a0 a1 a2 r2.2).bind fun r3 => some (.inr (r3, r2.2)) else (f_X9_isIn a1 0 199).bind fun r4 => (if r4 = 0 then jthr (f_X9_needIndex 0 m) fun r5 => (f_X0_recalled a0 a1 a2 r5.2).bind fun r6 => some (.inr (r6, r5.2)) else jthr (f_X9_needIndex 1 m) fun r7 => (f_X0_recalled a0 a1 a2 r7.2).bind fun r8 => some (.inr (r8, r7.2))))
theorem t_X9_recall {l : Launch} {G : jG} (hl : l.stackTraces = false) {a0 : Int} {a1 : Int} {a2 : Int} {m : jMu} {r : (jOut Int)} (hf : f_X9_recall a0 a1 a2 m = some r) : jCt l G yX9_recall (.code yX9_recall cX9_recall 4 (some .int) :: jWG) rm_X9_recall [jR 0, jI a0, jI a1, jI a2] SKF m (joI r) SKF (joM r) := by
  unfold f_X9_recall at hf
  refine J_start (ls0 := [(0, jR 0), (1, jI a0), (2, jI a1), (3, jI a2)]) (by decide +kernel) hl (Nat.le_of_ble_eq_true rfl) rfl fun X C hN hn hR hr hnm hno hq => ?_
  have B : jB X cX9_recall RX9 4 SKF.length rm_X9_recall (some .int) := ⟨C, hN, Nat.le_of_eq hn, hR, hr⟩
  refine B_blk B jlkX9_ok jcl_SKF [.aload_n 0, .getfield 20, .getfield 183, .iload_n 1] (by decide +kernel) (ls' := [(0, jR 0), (1, jI a0), (2, jI a1), (3, jI a2)]) (st' := [jI a0, jR 22]) rfl (p1 := 8) rfl ?_
  obtain ⟨r1, h1, hf⟩ := jbd hf
  refine B_callV B (Nat.le_refl _) (μ' := m) (k' := 0) (n' := 0) ca_X5_has in_X5_has se_X5_has lk_X9_143 (t_X5_has B.tr jcl_SKF ⟨rfl, rfl, by decide⟩ h1) (Nat.le_refl _) rfl rfl rfl (rest := []) rfl rfl (Nat.le_of_ble_eq_true rfl) (by decide +kernel) rfl rfl (st' := [jI r1]) rfl ?_
  refine J_if_eq B.1 (off := 18) (tgt := 29) (by decide +kernel) (by decide) hf (fun hf => ?_) (fun hf => ?_)
  · refine B_blk B jlkX9_ok jcl_SKF [.iconst 0] (by decide +kernel) (ls' := [(0, jR 0), (1, jI a0), (2, jI a1), (3, jI a2)]) (st' := [jI 0]) rfl (p1 := 30) rfl ?_
    rcases jthr_s hf with ⟨e2, h2, hf⟩ | ⟨r2, h2, hf⟩
    · cases hf
      exact B_callST B (Nat.le_refl _) hno hq ca_X9_needIndex sa_X9_needIndex lk_X9_125 (t_X9_needIndex B.tr h2) (Nat.le_refl _) rfl (rest := []) rfl rfl (Nat.le_of_ble_eq_true rfl) (by decide +kernel) (Nat.le_of_ble_eq_true rfl) (Nat.le_of_ble_eq_true rfl)
    · refine B_callS B (Nat.le_refl _) (μ' := r2.2) (k' := 1) (n' := 6) ca_X9_needIndex sa_X9_needIndex lk_X9_125 (t_X9_needIndex B.tr h2) (Nat.le_refl _) rfl (rest := []) rfl rfl (Nat.le_of_ble_eq_true rfl) (by decide +kernel) rfl rfl (st' := []) rfl ?_
      refine B_blk B jlkX9_ok jcl_SKF [.aload_n 0, .getfield 56, .iload_n 1, .iload_n 2, .iload_n 3] (by decide +kernel) (ls' := [(0, jR 0), (1, jI a0), (2, jI a1), (3, jI a2)]) (st' := [jI a2, jI a1, jI a0, jR 70]) rfl (p1 := 40) rfl ?_
      obtain ⟨r3, h3, hf⟩ := jbd hf
      refine B_callV B (Nat.le_refl _) (μ' := r2.2) (k' := 1) (n' := 6) ca_X0_recalled in_X0_recalled se_X0_recalled lk_X9_214 (t_X0_recalled B.tr h3) (Nat.le_refl _) rfl rfl rfl (rest := []) rfl rfl (Nat.le_of_ble_eq_true rfl) (by decide +kernel) rfl rfl (st' := [jI r3]) rfl ?_
      cases hf
      exact B_retI B hq rfl (Nat.le_of_ble_eq_true rfl) (Nat.le_of_ble_eq_true rfl) (by decide +kernel)
  · refine B_blk B jlkX9_ok jcl_SKF [.iload_n 2, .iconst 0, .sipush 199] (by decide +kernel) (ls' := [(0, jR 0), (1, jI a0), (2, jI a1), (3, jI a2)]) (st' := [jI 199, jI 0, jI a1]) rfl (p1 := 19) rfl ?_
    obtain ⟨r4, h4, hf⟩ := jbd hf
    refine B_callS B (Nat.le_refl _) (μ' := m) (k' := 0) (n' := 0) ca_X9_isIn sa_X9_isIn lk_X9_93 (t_X9_isIn B.tr jcl_SKF h4) (Nat.le_refl _) rfl (rest := []) rfl rfl (Nat.le_of_ble_eq_true rfl) (by decide +kernel) rfl rfl (st' := [jI r4]) rfl ?_
    refine J_if_eq B.1 (off := 7) (tgt := 29) (by decide +kernel) (by decide) hf (fun hf => ?_) (fun hf => ?_)
    · refine B_blk B jlkX9_ok jcl_SKF [.iconst 0] (by decide +kernel) (ls' := [(0, jR 0), (1, jI a0), (2, jI a1), (3, jI a2)]) (st' := [jI 0]) rfl (p1 := 30) rfl ?_
      rcases jthr_s hf with ⟨e5, h5, hf⟩ | ⟨r5, h5, hf⟩
      · cases hf
        exact B_callST B (Nat.le_refl _) hno hq ca_X9_needIndex sa_X9_needIndex lk_X9_125 (t_X9_needIndex B.tr h5) (Nat.le_refl _) rfl (rest := []) rfl rfl (Nat.le_of_ble_eq_true rfl) (by decide +kernel) (Nat.le_of_ble_eq_true rfl) (Nat.le_of_ble_eq_true rfl)
      · refine B_callS B (Nat.le_refl _) (μ' := r5.2) (k' := 1) (n' := 6) ca_X9_needIndex sa_X9_needIndex lk_X9_125 (t_X9_needIndex B.tr h5) (Nat.le_refl _) rfl (rest := []) rfl rfl (Nat.le_of_ble_eq_true rfl) (by decide +kernel) rfl rfl (st' := []) rfl ?_
        refine B_blk B jlkX9_ok jcl_SKF [.aload_n 0, .getfield 56, .iload_n 1, .iload_n 2, .iload_n 3] (by decide +kernel) (ls' := [(0, jR 0), (1, jI a0), (2, jI a1), (3, jI a2)]) (st' := [jI a2, jI a1, jI a0, jR 70]) rfl (p1 := 40) rfl ?_
        obtain ⟨r6, h6, hf⟩ := jbd hf
        refine B_callV B (Nat.le_refl _) (μ' := r5.2) (k' := 1) (n' := 6) ca_X0_recalled in_X0_recalled se_X0_recalled lk_X9_214 (t_X0_recalled B.tr h6) (Nat.le_refl _) rfl rfl rfl (rest := []) rfl rfl (Nat.le_of_ble_eq_true rfl) (by decide +kernel) rfl rfl (st' := [jI r6]) rfl ?_
        cases hf
        exact B_retI B hq rfl (Nat.le_of_ble_eq_true rfl) (Nat.le_of_ble_eq_true rfl) (by decide +kernel)
    · refine B_blk B jlkX9_ok jcl_SKF [.iconst 1, .goto 4] (by decide +kernel) (ls' := [(0, jR 0), (1, jI a0), (2, jI a1), (3, jI a2)]) (st' := [jI 1]) rfl (p1 := 30) rfl ?_
      rcases jthr_s hf with ⟨e7, h7, hf⟩ | ⟨r7, h7, hf⟩
      · cases hf
        exact B_callST B (Nat.le_refl _) hno hq ca_X9_needIndex sa_X9_needIndex lk_X9_125 (t_X9_needIndex B.tr h7) (Nat.le_refl _) rfl (rest := []) rfl rfl (Nat.le_of_ble_eq_true rfl) (by decide +kernel) (Nat.le_of_ble_eq_true rfl) (Nat.le_of_ble_eq_true rfl)
      · refine B_callS B (Nat.le_refl _) (μ' := r7.2) (k' := 1) (n' := 6) ca_X9_needIndex sa_X9_needIndex lk_X9_125 (t_X9_needIndex B.tr h7) (Nat.le_refl _) rfl (rest := []) rfl rfl (Nat.le_of_ble_eq_true rfl) (by decide +kernel) rfl rfl (st' := []) rfl ?_
        refine B_blk B jlkX9_ok jcl_SKF [.aload_n 0, .getfield 56, .iload_n 1, .iload_n 2, .iload_n 3] (by decide +kernel) (ls' := [(0, jR 0), (1, jI a0), (2, jI a1), (3, jI a2)]) (st' := [jI a2, jI a1, jI a0, jR 70]) rfl (p1 := 40) rfl ?_
        obtain ⟨r8, h8, hf⟩ := jbd hf
        refine B_callV B (Nat.le_refl _) (μ' := r7.2) (k' := 1) (n' := 6) ca_X0_recalled in_X0_recalled se_X0_recalled lk_X9_214 (t_X0_recalled B.tr h8) (Nat.le_refl _) rfl rfl rfl (rest := []) rfl rfl (Nat.le_of_ble_eq_true rfl) (by decide +kernel) rfl rfl (st' := [jI r8]) rfl ?_
        cases hf
        exact B_retI B hq rfl (Nat.le_of_ble_eq_true rfl) (Nat.le_of_ble_eq_true rfl) (by decide +kernel)

def rm_X9_left : Room := { frames := 9, cells := 1, slots := 6, locals := 131 }
def f_X9_left (a0 : Int) (m : jMu) : Option (jOut Int) :=
  (f_X5_has 22 23 24 a0 m).bind fun r1 => jthr (f_X9_needIndex r1 m) fun r2 => (f_X4_tinsLeft a0 r2.2).bind fun r3 => some (.inr (r3, r2.2))
theorem t_X9_left {l : Launch} {G : jG} (hl : l.stackTraces = false) {a0 : Int} {m : jMu} {r : (jOut Int)} (hf : f_X9_left a0 m = some r) : jCt l G yX9_left (.code yX9_left cX9_left 2 (some .int) :: jWG) rm_X9_left [jR 0, jI a0] SKF m (joI r) SKF (joM r) := by
  unfold f_X9_left at hf
  refine J_start (ls0 := [(0, jR 0), (1, jI a0)]) (by decide +kernel) hl (Nat.le_of_ble_eq_true rfl) rfl fun X C hN hn hR hr hnm hno hq => ?_
  have B : jB X cX9_left RX9 2 SKF.length rm_X9_left (some .int) := ⟨C, hN, Nat.le_of_eq hn, hR, hr⟩
  refine B_blk B jlkX9_ok jcl_SKF [.aload_n 0, .getfield 20, .getfield 183, .iload_n 1] (by decide +kernel) (ls' := [(0, jR 0), (1, jI a0)]) (st' := [jI a0, jR 22]) rfl (p1 := 8) rfl ?_
  obtain ⟨r1, h1, hf⟩ := jbd hf
  refine B_callV B (Nat.le_refl _) (μ' := m) (k' := 0) (n' := 0) ca_X5_has in_X5_has se_X5_has lk_X9_143 (t_X5_has B.tr jcl_SKF ⟨rfl, rfl, by decide⟩ h1) (Nat.le_refl _) rfl rfl rfl (rest := []) rfl rfl (Nat.le_of_ble_eq_true rfl) (by decide +kernel) rfl rfl (st' := [jI r1]) rfl ?_
  rcases jthr_s hf with ⟨e2, h2, hf⟩ | ⟨r2, h2, hf⟩
  · cases hf
    exact B_callST B (Nat.le_refl _) hno hq ca_X9_needIndex sa_X9_needIndex lk_X9_125 (t_X9_needIndex B.tr h2) (Nat.le_refl _) rfl (rest := []) rfl rfl (Nat.le_of_ble_eq_true rfl) (by decide +kernel) (Nat.le_of_ble_eq_true rfl) (Nat.le_of_ble_eq_true rfl)
  · refine B_callS B (Nat.le_refl _) (μ' := r2.2) (k' := 1) (n' := 6) ca_X9_needIndex sa_X9_needIndex lk_X9_125 (t_X9_needIndex B.tr h2) (Nat.le_refl _) rfl (rest := []) rfl rfl (Nat.le_of_ble_eq_true rfl) (by decide +kernel) rfl rfl (st' := []) rfl ?_
    refine B_blk B jlkX9_ok jcl_SKF [.aload_n 0, .getfield 20, .iload_n 1] (by decide +kernel) (ls' := [(0, jR 0), (1, jI a0)]) (st' := [jI a0, jR 1]) rfl (p1 := 19) rfl ?_
    obtain ⟨r3, h3, hf⟩ := jbd hf
    refine B_callV B (Nat.le_refl _) (μ' := r2.2) (k' := 1) (n' := 6) ca_X4_tinsLeft in_X4_tinsLeft se_X4_tinsLeft lk_X9_205 (t_X4_tinsLeft B.tr h3) (Nat.le_refl _) rfl rfl rfl (rest := []) rfl rfl (Nat.le_of_ble_eq_true rfl) (by decide +kernel) rfl rfl (st' := [jI r3]) rfl ?_
    cases hf
    exact B_retI B hq rfl (Nat.le_of_ble_eq_true rfl) (Nat.le_of_ble_eq_true rfl) (by decide +kernel)

def rm_X0_leadCaught : Room := { frames := 6, cells := 0, slots := 0, locals := 109 }
def f_X0_leadCaught_L15 : Nat → Int → Int → Int → Int → Int → jMu → Option Int
  | 0, _, _, _, _, _, _ => none
  | q + 1, v1, v2, v3, v5, v6, m => (f_X5_size 24 25 320 m).bind fun r1 => (if r1 ≤ v6 then some v5 else (f_X5_get 24 25 320 v6 3 m).bind fun r2 => (f_X4_isKnown v6 v3 m).bind fun r3 => (if r3 = 0 then f_X0_leadCaught_L15 q v1 v2 v3 v5 (jW (v6 + 1)) m else (if jDv r2 12 < v1 then f_X0_leadCaught_L15 q v1 v2 v3 v5 (jW (v6 + 1)) m else (if v2 < jDv r2 12 then f_X0_leadCaught_L15 q v1 v2 v3 v5 (jW (v6 + 1)) m else (f_X5_get 24 25 320 v6 2 m).bind fun r4 => (f_X5_get 22 23 24 r4 1 m).bind fun r5 => (f_X5_get 24 25 320 v6 0 m).bind fun r6 => (f_X4_tinsFor r6 m).bind fun r7 => f_X0_leadCaught_L15 q v1 v2 v3 (jW (v5 + jW (r5 * r7))) (jW (v6 + 1)) m))))
def f_X0_leadCaught (a0 : Int) (a1 : Int) (a2 : Int) (m : jMu) : Option Int :=
  f_X0_leadCaught_L15 jFU a0 a1 a2 0 0 m
theorem t_X0_leadCaught_L15 {X : jX} (B : jB X cX0_leadCaught RX0 9 SKF.length rm_X0_leadCaught (some .int)) : ∀ (q : Nat) (v1 : Int) (v2 : Int) (v3 : Int) (v5 : Int) (v6 : Int) (m : jMu) (r : Int), f_X0_leadCaught_L15 q v1 v2 v3 v5 v6 m = some r → jQ X (.inl (some (jI r))) SKF m rm_X0_leadCaught.cells rm_X0_leadCaught.slots → J X SKF m 0 0 15 [(0, jR 70), (1, jI v1), (2, jI v2), (3, jI v3), (4, jR 24), (5, jI v5), (6, jI v6)] [] := by
  intro q
  induction q with
  | zero =>
    intro v1 v2 v3 v5 v6 m r hf
    rw [f_X0_leadCaught_L15] at hf
    cases hf
  | succ q ih =>
    intro v1 v2 v3 v5 v6 m r hf hq
    rw [f_X0_leadCaught_L15] at hf
    refine B_blk B jlkX0_ok jcl_SKF [.iload 6, .aload 4] (by decide +kernel) (ls' := [(0, jR 70), (1, jI v1), (2, jI v2), (3, jI v3), (4, jR 24), (5, jI v5), (6, jI v6)]) (st' := [jR 24, jI v6]) rfl (p1 := 19) rfl ?_
    obtain ⟨r1, h1, hf⟩ := jbd hf
    refine B_callV B (Nat.le_refl _) (μ' := m) (k' := 0) (n' := 0) ca_X5_size in_X5_size se_X5_size lk_X0_29 (t_X5_size B.tr jcl_SKF ⟨rfl, rfl, by decide⟩ h1) (Nat.le_refl _) rfl rfl rfl (rest := [jI v6]) rfl rfl (Nat.le_of_ble_eq_true rfl) (by decide +kernel) rfl rfl (st' := [jI r1, jI v6]) rfl ?_
    refine J_icmp_ge B.1 (off := 91) (tgt := 113) (by decide +kernel) (by decide) hf (fun hf => ?_) (fun hf => ?_)
    · refine B_blk B jlkX0_ok jcl_SKF [.iload 5] (by decide +kernel) (ls' := [(0, jR 70), (1, jI v1), (2, jI v2), (3, jI v3), (4, jR 24), (5, jI v5), (6, jI v6)]) (st' := [jI v5]) rfl (p1 := 115) rfl ?_
      cases hf
      exact B_retI B hq rfl (Nat.le_of_ble_eq_true rfl) (Nat.le_of_ble_eq_true rfl) (by decide +kernel)
    · refine B_blk B jlkX0_ok jcl_SKF [.aload 4, .iload 6, .iconst 3] (by decide +kernel) (ls' := [(0, jR 70), (1, jI v1), (2, jI v2), (3, jI v3), (4, jR 24), (5, jI v5), (6, jI v6)]) (st' := [jI 3, jI v6, jR 24]) rfl (p1 := 30) rfl ?_
      obtain ⟨r2, h2, hf⟩ := jbd hf
      refine B_callV B (Nat.le_refl _) (μ' := m) (k' := 0) (n' := 0) ca_X5_get in_X5_get se_X5_get lk_X0_35 (t_X5_get B.tr jcl_SKF ⟨rfl, rfl, by decide⟩ h2) (Nat.le_refl _) rfl rfl rfl (rest := []) rfl rfl (Nat.le_of_ble_eq_true rfl) (by decide +kernel) rfl rfl (st' := [jI r2]) rfl ?_
      refine B_blk B jlkX0_ok jcl_SKF [.bipush 12] (by decide +kernel) (ls' := [(0, jR 70), (1, jI v1), (2, jI v2), (3, jI v3), (4, jR 24), (5, jI v5), (6, jI v6)]) (st' := [jI 12, jI r2]) rfl (p1 := 35) rfl ?_
      refine K_idiv B (by decide) (by decide +kernel) ?_
      refine B_blk B jlkX0_ok jcl_SKF [.istore 7, .aload_n 0, .getfield 9, .iload 6, .iload_n 3] (by decide +kernel) (ls' := [(0, jR 70), (1, jI v1), (2, jI v2), (3, jI v3), (4, jR 24), (5, jI v5), (6, jI v6), (7, jI (jDv r2 12))]) (st' := [jI v3, jI v6, jR 1]) rfl (p1 := 45) rfl ?_
      obtain ⟨r3, h3, hf⟩ := jbd hf
      refine B_callV B (Nat.le_refl _) (μ' := m) (k' := 0) (n' := 0) ca_X4_isKnown in_X4_isKnown se_X4_isKnown lk_X0_39 (t_X4_isKnown B.tr h3) (Nat.le_refl _) rfl rfl rfl (rest := []) rfl rfl (Nat.le_of_ble_eq_true rfl) (by decide +kernel) rfl rfl (st' := [jI r3]) rfl ?_
      refine J_if_eq B.1 (off := 59) (tgt := 107) (by decide +kernel) (by decide) hf (fun hf => ?_) (fun hf => ?_)
      · refine B_blk B jlkX0_ok jcl_SKF [.iinc 6 1, .goto (-95)] (by decide +kernel) (ls' := [(0, jR 70), (1, jI v1), (2, jI v2), (3, jI v3), (4, jR 24), (5, jI v5), (6, jI (jW (v6 + 1))), (7, jI (jDv r2 12))]) (st' := []) rfl (p1 := 15) rfl ?_
        refine J_pick [0, 1, 2, 3, 4, 5, 6] (ls' := [(0, jR 70), (1, jI v1), (2, jI v2), (3, jI v3), (4, jR 24), (5, jI v5), (6, jI (jW (v6 + 1)))]) rfl ?_
        exact ih v1 v2 v3 v5 (jW (v6 + 1)) m _ hf hq
      · refine B_blk B jlkX0_ok jcl_SKF [.iload 7, .iload_n 1] (by decide +kernel) (ls' := [(0, jR 70), (1, jI v1), (2, jI v2), (3, jI v3), (4, jR 24), (5, jI v5), (6, jI v6), (7, jI (jDv r2 12))]) (st' := [jI v1, jI (jDv r2 12)]) rfl (p1 := 54) rfl ?_
        refine J_icmp_lt B.1 (off := 53) (tgt := 107) (by decide +kernel) (by decide) hf (fun hf => ?_) (fun hf => ?_)
        · refine B_blk B jlkX0_ok jcl_SKF [.iinc 6 1, .goto (-95)] (by decide +kernel) (ls' := [(0, jR 70), (1, jI v1), (2, jI v2), (3, jI v3), (4, jR 24), (5, jI v5), (6, jI (jW (v6 + 1))), (7, jI (jDv r2 12))]) (st' := []) rfl (p1 := 15) rfl ?_
          refine J_pick [0, 1, 2, 3, 4, 5, 6] (ls' := [(0, jR 70), (1, jI v1), (2, jI v2), (3, jI v3), (4, jR 24), (5, jI v5), (6, jI (jW (v6 + 1)))]) rfl ?_
          exact ih v1 v2 v3 v5 (jW (v6 + 1)) m _ hf hq
        · refine B_blk B jlkX0_ok jcl_SKF [.iload 7, .iload_n 2] (by decide +kernel) (ls' := [(0, jR 70), (1, jI v1), (2, jI v2), (3, jI v3), (4, jR 24), (5, jI v5), (6, jI v6), (7, jI (jDv r2 12))]) (st' := [jI v2, jI (jDv r2 12)]) rfl (p1 := 60) rfl ?_
          refine J_icmp_gt B.1 (off := 47) (tgt := 107) (by decide +kernel) (by decide) hf (fun hf => ?_) (fun hf => ?_)
          · refine B_blk B jlkX0_ok jcl_SKF [.iinc 6 1, .goto (-95)] (by decide +kernel) (ls' := [(0, jR 70), (1, jI v1), (2, jI v2), (3, jI v3), (4, jR 24), (5, jI v5), (6, jI (jW (v6 + 1))), (7, jI (jDv r2 12))]) (st' := []) rfl (p1 := 15) rfl ?_
            refine J_pick [0, 1, 2, 3, 4, 5, 6] (ls' := [(0, jR 70), (1, jI v1), (2, jI v2), (3, jI v3), (4, jR 24), (5, jI v5), (6, jI (jW (v6 + 1)))]) rfl ?_
            exact ih v1 v2 v3 v5 (jW (v6 + 1)) m _ hf hq
          · refine B_blk B jlkX0_ok jcl_SKF [.aload_n 0, .getfield 9, .getfield 50, .aload 4, .iload 6, .iconst 2] (by decide +kernel) (ls' := [(0, jR 70), (1, jI v1), (2, jI v2), (3, jI v3), (4, jR 24), (5, jI v5), (6, jI v6), (7, jI (jDv r2 12))]) (st' := [jI 2, jI v6, jR 24, jR 22]) rfl (p1 := 75) rfl ?_
            obtain ⟨r4, h4, hf⟩ := jbd hf
            refine B_callV B (Nat.le_refl _) (μ' := m) (k' := 0) (n' := 0) ca_X5_get in_X5_get se_X5_get lk_X0_35 (t_X5_get B.tr jcl_SKF ⟨rfl, rfl, by decide⟩ h4) (Nat.le_refl _) rfl rfl rfl (rest := [jR 22]) rfl rfl (Nat.le_of_ble_eq_true rfl) (by decide +kernel) rfl rfl (st' := [jI r4, jR 22]) rfl ?_
            refine B_blk B jlkX0_ok jcl_SKF [.iconst 1] (by decide +kernel) (ls' := [(0, jR 70), (1, jI v1), (2, jI v2), (3, jI v3), (4, jR 24), (5, jI v5), (6, jI v6), (7, jI (jDv r2 12))]) (st' := [jI 1, jI r4, jR 22]) rfl (p1 := 79) rfl ?_
            obtain ⟨r5, h5, hf⟩ := jbd hf
            refine B_callV B (Nat.le_refl _) (μ' := m) (k' := 0) (n' := 0) ca_X5_get in_X5_get se_X5_get lk_X0_35 (t_X5_get B.tr jcl_SKF ⟨rfl, rfl, by decide⟩ h5) (Nat.le_refl _) rfl rfl rfl (rest := []) rfl rfl (Nat.le_of_ble_eq_true rfl) (by decide +kernel) rfl rfl (st' := [jI r5]) rfl ?_
            refine B_blk B jlkX0_ok jcl_SKF [.istore 8, .iload 5, .iload 8, .aload_n 0, .getfield 9, .aload 4, .iload 6, .iconst 0] (by decide +kernel) (ls' := [(0, jR 70), (1, jI v1), (2, jI v2), (3, jI v3), (4, jR 24), (5, jI v5), (6, jI v6), (7, jI (jDv r2 12)), (8, jI r5)]) (st' := [jI 0, jI v6, jR 24, jR 1, jI r5, jI v5]) rfl (p1 := 97) rfl ?_
            obtain ⟨r6, h6, hf⟩ := jbd hf
            refine B_callV B (Nat.le_refl _) (μ' := m) (k' := 0) (n' := 0) ca_X5_get in_X5_get se_X5_get lk_X0_35 (t_X5_get B.tr jcl_SKF ⟨rfl, rfl, by decide⟩ h6) (Nat.le_refl _) rfl rfl rfl (rest := [jR 1, jI r5, jI v5]) rfl rfl (Nat.le_of_ble_eq_true rfl) (by decide +kernel) rfl rfl (st' := [jI r6, jR 1, jI r5, jI v5]) rfl ?_
            obtain ⟨r7, h7, hf⟩ := jbd hf
            refine B_callV B (Nat.le_refl _) (μ' := m) (k' := 0) (n' := 0) ca_X4_tinsFor in_X4_tinsFor se_X4_tinsFor lk_X0_53 (t_X4_tinsFor B.tr h7) (Nat.le_refl _) rfl rfl rfl (rest := [jI r5, jI v5]) rfl rfl (Nat.le_of_ble_eq_true rfl) (by decide +kernel) rfl rfl (st' := [jI r7, jI r5, jI v5]) rfl ?_
            refine B_blk B jlkX0_ok jcl_SKF [.imul, .iadd, .istore 5, .iinc 6 1, .goto (-95)] (by decide +kernel) (ls' := [(0, jR 70), (1, jI v1), (2, jI v2), (3, jI v3), (4, jR 24), (5, jI (jW (v5 + jW (r5 * r7)))), (6, jI (jW (v6 + 1))), (7, jI (jDv r2 12)), (8, jI r5)]) (st' := []) rfl (p1 := 15) rfl ?_
            refine J_pick [0, 1, 2, 3, 4, 5, 6] (ls' := [(0, jR 70), (1, jI v1), (2, jI v2), (3, jI v3), (4, jR 24), (5, jI (jW (v5 + jW (r5 * r7)))), (6, jI (jW (v6 + 1)))]) rfl ?_
            exact ih v1 v2 v3 (jW (v5 + jW (r5 * r7))) (jW (v6 + 1)) m _ hf hq
theorem t_X0_leadCaught {l : Launch} {G : jG} (hl : l.stackTraces = false) {a0 : Int} {a1 : Int} {a2 : Int} {m : jMu} {r : Int} (hf : f_X0_leadCaught a0 a1 a2 m = some r) : jCt l G yX0_leadCaught (.code yX0_leadCaught cX0_leadCaught 9 (some .int) :: jWG) rm_X0_leadCaught [jR 70, jI a0, jI a1, jI a2] SKF m (.inl (some (jI r))) SKF m := by
  unfold f_X0_leadCaught at hf
  refine J_start (ls0 := [(0, jR 70), (1, jI a0), (2, jI a1), (3, jI a2)]) (by decide +kernel) hl (Nat.le_of_ble_eq_true rfl) rfl fun X C hN hn hR hr hnm hno hq => ?_
  have B : jB X cX0_leadCaught RX0 9 SKF.length rm_X0_leadCaught (some .int) := ⟨C, hN, Nat.le_of_eq hn, hR, hr⟩
  refine B_blk B jlkX0_ok jcl_SKF [.aload_n 0, .getfield 9, .getfield 23, .astore 4, .iconst 0, .istore 5, .iconst 0, .istore 6] (by decide +kernel) (ls' := [(0, jR 70), (1, jI a0), (2, jI a1), (3, jI a2), (4, jR 24), (5, jI 0), (6, jI 0)]) (st' := []) rfl (p1 := 15) rfl ?_
  exact t_X0_leadCaught_L15 B jFU a0 a1 a2 0 0 m _ hf hq

def rm_X9_caught : Room := { frames := 11, cells := 3, slots := 18, locals := 141 }
def f_X9_caught (a0 : Int) (a1 : Int) (a2 : Int) (m : jMu) : Option (jOut Int) :=
  jthr (f_X9_needDays a0 a1 m) fun r1 => (f_X9_isIn a2 0 199).bind fun r2 => jthr (f_X9_needIndex r2 r1.2) fun r3 => (if a1 < a0 then jthr (f_X9_needArgument 0 r3.2) fun r4 => (f_X0_leadCaught a0 a1 a2 r4.2).bind fun r5 => some (.inr (r5, r4.2)) else jthr (f_X9_needArgument 1 r3.2) fun r6 => (f_X0_leadCaught a0 a1 a2 r6.2).bind fun r7 => some (.inr (r7, r6.2)))
theorem t_X9_caught {l : Launch} {G : jG} (hl : l.stackTraces = false) {a0 : Int} {a1 : Int} {a2 : Int} {m : jMu} {r : (jOut Int)} (hf : f_X9_caught a0 a1 a2 m = some r) : jCt l G yX9_caught (.code yX9_caught cX9_caught 4 (some .int) :: jWG) rm_X9_caught [jR 0, jI a0, jI a1, jI a2] SKF m (joI r) SKF (joM r) := by
  unfold f_X9_caught at hf
  refine J_start (ls0 := [(0, jR 0), (1, jI a0), (2, jI a1), (3, jI a2)]) (by decide +kernel) hl (Nat.le_of_ble_eq_true rfl) rfl fun X C hN hn hR hr hnm hno hq => ?_
  have B : jB X cX9_caught RX9 4 SKF.length rm_X9_caught (some .int) := ⟨C, hN, Nat.le_of_eq hn, hR, hr⟩
  refine B_blk B jlkX9_ok jcl_SKF [.iload_n 1, .iload_n 2] (by decide +kernel) (ls' := [(0, jR 0), (1, jI a0), (2, jI a1), (3, jI a2)]) (st' := [jI a1, jI a0]) rfl (p1 := 2) rfl ?_
  rcases jthr_s hf with ⟨e1, h1, hf⟩ | ⟨r1, h1, hf⟩
  · cases hf
    exact B_callST B (Nat.le_refl _) hno hq ca_X9_needDays sa_X9_needDays lk_X9_121 (t_X9_needDays B.tr h1) (Nat.le_refl _) rfl (rest := []) rfl rfl (Nat.le_of_ble_eq_true rfl) (by decide +kernel) (Nat.le_of_ble_eq_true rfl) (Nat.le_of_ble_eq_true rfl)
  · refine B_callS B (Nat.le_refl _) (μ' := r1.2) (k' := 1) (n' := 6) ca_X9_needDays sa_X9_needDays lk_X9_121 (t_X9_needDays B.tr h1) (Nat.le_refl _) rfl (rest := []) rfl rfl (Nat.le_of_ble_eq_true rfl) (by decide +kernel) rfl rfl (st' := []) rfl ?_
    refine B_blk B jlkX9_ok jcl_SKF [.iload_n 3, .iconst 0, .sipush 199] (by decide +kernel) (ls' := [(0, jR 0), (1, jI a0), (2, jI a1), (3, jI a2)]) (st' := [jI 199, jI 0, jI a2]) rfl (p1 := 10) rfl ?_
    obtain ⟨r2, h2, hf⟩ := jbd hf
    refine B_callS B (Nat.le_refl _) (μ' := r1.2) (k' := 1) (n' := 6) ca_X9_isIn sa_X9_isIn lk_X9_93 (t_X9_isIn B.tr jcl_SKF h2) (Nat.le_refl _) rfl (rest := []) rfl rfl (Nat.le_of_ble_eq_true rfl) (by decide +kernel) rfl rfl (st' := [jI r2]) rfl ?_
    rcases jthr_s hf with ⟨e3, h3, hf⟩ | ⟨r3, h3, hf⟩
    · cases hf
      exact B_callST B (Nat.le_refl _) hno hq ca_X9_needIndex sa_X9_needIndex lk_X9_125 (t_X9_needIndex B.tr h3) (Nat.le_refl _) rfl (rest := []) rfl rfl (Nat.le_of_ble_eq_true rfl) (by decide +kernel) (Nat.le_of_ble_eq_true rfl) (Nat.le_of_ble_eq_true rfl)
    · refine B_callS B (Nat.le_refl _) (μ' := r3.2) (k' := 2) (n' := 12) ca_X9_needIndex sa_X9_needIndex lk_X9_125 (t_X9_needIndex B.tr h3) (Nat.le_refl _) rfl (rest := []) rfl rfl (Nat.le_of_ble_eq_true rfl) (by decide +kernel) rfl rfl (st' := []) rfl ?_
      refine B_blk B jlkX9_ok jcl_SKF [.iload_n 1, .iload_n 2] (by decide +kernel) (ls' := [(0, jR 0), (1, jI a0), (2, jI a1), (3, jI a2)]) (st' := [jI a1, jI a0]) rfl (p1 := 18) rfl ?_
      refine J_icmp_gt B.1 (off := 7) (tgt := 25) (by decide +kernel) (by decide) hf (fun hf => ?_) (fun hf => ?_)
      · refine B_blk B jlkX9_ok jcl_SKF [.iconst 0] (by decide +kernel) (ls' := [(0, jR 0), (1, jI a0), (2, jI a1), (3, jI a2)]) (st' := [jI 0]) rfl (p1 := 26) rfl ?_
        rcases jthr_s hf with ⟨e4, h4, hf⟩ | ⟨r4, h4, hf⟩
        · cases hf
          exact B_callST B (Nat.le_refl _) hno hq ca_X9_needArgument sa_X9_needArgument lk_X9_97 (t_X9_needArgument B.tr h4) (Nat.le_refl _) rfl (rest := []) rfl rfl (Nat.le_of_ble_eq_true rfl) (by decide +kernel) (Nat.le_of_ble_eq_true rfl) (Nat.le_of_ble_eq_true rfl)
        · refine B_callS B (Nat.le_refl _) (μ' := r4.2) (k' := 3) (n' := 18) ca_X9_needArgument sa_X9_needArgument lk_X9_97 (t_X9_needArgument B.tr h4) (Nat.le_refl _) rfl (rest := []) rfl rfl (Nat.le_of_ble_eq_true rfl) (by decide +kernel) rfl rfl (st' := []) rfl ?_
          refine B_blk B jlkX9_ok jcl_SKF [.aload_n 0, .getfield 56, .iload_n 1, .iload_n 2, .iload_n 3] (by decide +kernel) (ls' := [(0, jR 0), (1, jI a0), (2, jI a1), (3, jI a2)]) (st' := [jI a2, jI a1, jI a0, jR 70]) rfl (p1 := 36) rfl ?_
          obtain ⟨r5, h5, hf⟩ := jbd hf
          refine B_callV B (Nat.le_refl _) (μ' := r4.2) (k' := 3) (n' := 18) ca_X0_leadCaught in_X0_leadCaught se_X0_leadCaught lk_X9_218 (t_X0_leadCaught B.tr h5) (Nat.le_refl _) rfl rfl rfl (rest := []) rfl rfl (Nat.le_of_ble_eq_true rfl) (by decide +kernel) rfl rfl (st' := [jI r5]) rfl ?_
          cases hf
          exact B_retI B hq rfl (Nat.le_of_ble_eq_true rfl) (Nat.le_of_ble_eq_true rfl) (by decide +kernel)
      · refine B_blk B jlkX9_ok jcl_SKF [.iconst 1, .goto 4] (by decide +kernel) (ls' := [(0, jR 0), (1, jI a0), (2, jI a1), (3, jI a2)]) (st' := [jI 1]) rfl (p1 := 26) rfl ?_
        rcases jthr_s hf with ⟨e6, h6, hf⟩ | ⟨r6, h6, hf⟩
        · cases hf
          exact B_callST B (Nat.le_refl _) hno hq ca_X9_needArgument sa_X9_needArgument lk_X9_97 (t_X9_needArgument B.tr h6) (Nat.le_refl _) rfl (rest := []) rfl rfl (Nat.le_of_ble_eq_true rfl) (by decide +kernel) (Nat.le_of_ble_eq_true rfl) (Nat.le_of_ble_eq_true rfl)
        · refine B_callS B (Nat.le_refl _) (μ' := r6.2) (k' := 3) (n' := 18) ca_X9_needArgument sa_X9_needArgument lk_X9_97 (t_X9_needArgument B.tr h6) (Nat.le_refl _) rfl (rest := []) rfl rfl (Nat.le_of_ble_eq_true rfl) (by decide +kernel) rfl rfl (st' := []) rfl ?_
          refine B_blk B jlkX9_ok jcl_SKF [.aload_n 0, .getfield 56, .iload_n 1, .iload_n 2, .iload_n 3] (by decide +kernel) (ls' := [(0, jR 0), (1, jI a0), (2, jI a1), (3, jI a2)]) (st' := [jI a2, jI a1, jI a0, jR 70]) rfl (p1 := 36) rfl ?_
          obtain ⟨r7, h7, hf⟩ := jbd hf
          refine B_callV B (Nat.le_refl _) (μ' := r6.2) (k' := 3) (n' := 18) ca_X0_leadCaught in_X0_leadCaught se_X0_leadCaught lk_X9_218 (t_X0_leadCaught B.tr h7) (Nat.le_refl _) rfl rfl rfl (rest := []) rfl rfl (Nat.le_of_ble_eq_true rfl) (by decide +kernel) rfl rfl (st' := [jI r7]) rfl ?_
          cases hf
          exact B_retI B hq rfl (Nat.le_of_ble_eq_true rfl) (Nat.le_of_ble_eq_true rfl) (by decide +kernel)

def rm_X4_isPeeled : Room := { frames := 4, cells := 0, slots := 0, locals := 87 }
def f_X4_isPeeled (a0 : Int) (a1 : Int) (m : jMu) : Option Int :=
  (f_X5_get 24 25 320 a0 6 m).bind fun r1 => (if r1 = (-1) then some 0 else (if a1 < r1 then some 0 else some 1))
theorem t_X4_isPeeled {l : Launch} {G : jG} (hl : l.stackTraces = false) {a0 : Int} {a1 : Int} {m : jMu} {r : Int} (hf : f_X4_isPeeled a0 a1 m = some r) : jCt l G yX4_isPeeled (.code yX4_isPeeled cX4_isPeeled 4 (some .boolean) :: jWG) rm_X4_isPeeled [jR 1, jI a0, jI a1] SKF m (.inl (some (jI r))) SKF m := by
  unfold f_X4_isPeeled at hf
  refine J_start (ls0 := [(0, jR 1), (1, jI a0), (2, jI a1)]) (by decide +kernel) hl (Nat.le_of_ble_eq_true rfl) rfl fun X C hN hn hR hr hnm hno hq => ?_
  have B : jB X cX4_isPeeled RX4 4 SKF.length rm_X4_isPeeled (some .boolean) := ⟨C, hN, Nat.le_of_eq hn, hR, hr⟩
  refine B_blk B jlkX4_ok jcl_SKF [.aload_n 0, .getfield 59, .iload_n 1, .bipush 6] (by decide +kernel) (ls' := [(0, jR 1), (1, jI a0), (2, jI a1)]) (st' := [jI 6, jI a0, jR 24]) rfl (p1 := 7) rfl ?_
  obtain ⟨r1, h1, hf⟩ := jbd hf
  refine B_callV B (Nat.le_refl _) (μ' := m) (k' := 0) (n' := 0) ca_X5_get in_X5_get se_X5_get lk_X4_85 (t_X5_get B.tr jcl_SKF ⟨rfl, rfl, by decide⟩ h1) (Nat.le_refl _) rfl rfl rfl (rest := []) rfl rfl (Nat.le_of_ble_eq_true rfl) (by decide +kernel) rfl rfl (st' := [jI r1]) rfl ?_
  refine B_blk B jlkX4_ok jcl_SKF [.istore_n 3, .iload_n 3, .iconst (-1)] (by decide +kernel) (ls' := [(0, jR 1), (1, jI a0), (2, jI a1), (3, jI r1)]) (st' := [jI (-1), jI r1]) rfl (p1 := 13) rfl ?_
  refine J_icmp_eq B.1 (off := 12) (tgt := 25) (by decide +kernel) (by decide) hf (fun hf => ?_) (fun hf => ?_)
  · refine B_blk B jlkX4_ok jcl_SKF [.iconst 0] (by decide +kernel) (ls' := [(0, jR 1), (1, jI a0), (2, jI a1), (3, jI r1)]) (st' := [jI 0]) rfl (p1 := 26) rfl ?_
    cases hf
    exact B_retZ B (Or.inl rfl) hq rfl (Nat.le_of_ble_eq_true rfl) (Nat.le_of_ble_eq_true rfl) (by decide +kernel)
  · refine B_blk B jlkX4_ok jcl_SKF [.iload_n 3, .iload_n 2] (by decide +kernel) (ls' := [(0, jR 1), (1, jI a0), (2, jI a1), (3, jI r1)]) (st' := [jI a1, jI r1]) rfl (p1 := 18) rfl ?_
    refine J_icmp_gt B.1 (off := 7) (tgt := 25) (by decide +kernel) (by decide) hf (fun hf => ?_) (fun hf => ?_)
    · refine B_blk B jlkX4_ok jcl_SKF [.iconst 0] (by decide +kernel) (ls' := [(0, jR 1), (1, jI a0), (2, jI a1), (3, jI r1)]) (st' := [jI 0]) rfl (p1 := 26) rfl ?_
      cases hf
      exact B_retZ B (Or.inl rfl) hq rfl (Nat.le_of_ble_eq_true rfl) (Nat.le_of_ble_eq_true rfl) (by decide +kernel)
    · refine B_blk B jlkX4_ok jcl_SKF [.iconst 1, .goto 4] (by decide +kernel) (ls' := [(0, jR 1), (1, jI a0), (2, jI a1), (3, jI r1)]) (st' := [jI 1]) rfl (p1 := 26) rfl ?_
      cases hf
      exact B_retZ B (Or.inr rfl) hq rfl (Nat.le_of_ble_eq_true rfl) (Nat.le_of_ble_eq_true rfl) (by decide +kernel)

def rm_X0_markHeld : Room := { frames := 10, cells := 0, slots := 0, locals := 161 }
def f_X0_markHeld_L106 : Nat → Int → Int → jMu → Option jMu
  | 0, _, _, _ => none
  | q + 1, v5, v6, m => (if v5 < v6 then some m else (if 201 ≤ v6 then some m else (if 0 ≤ v6 ∧ v6 < 201 then (jlt (jup m 71 v6 0) fun m8 => f_X0_markHeld_L106 q v5 (jW (v6 + 1)) m8) else none)))
def f_X0_markHeld (a0 : Int) (a1 : Int) (a2 : Int) (m : jMu) : Option jMu :=
  (f_X5_get 24 25 320 a1 3 m).bind fun r1 => (f_X1_stand a0 r1 m).bind fun r2 => (f_X5_get 24 25 320 a1 4 r2).bind fun r3 => (f_X5_get 24 25 320 a1 7 r2).bind fun r4 => (f_X1_holdHere r4 r2).bind fun r5 => (f_X4_isPeeled a1 a2 r2).bind fun r6 => (if r6 = 0 then (jlt ((if jDv (jW (r3 - 1)) 12 < 0 then 0 else jDv (jW (r3 - 1)) 12)) fun x7 => f_X0_markHeld_L106 jFU (jW (jDv (jW (r3 - 1)) 12 + r5)) x7 r2) else (f_X5_get 24 25 320 a1 6 r2).bind fun r10 => (jlt ((if jW (r10 - 1) < jW (jDv (jW (r3 - 1)) 12 + r5) then jW (r10 - 1) else jW (jDv (jW (r3 - 1)) 12 + r5))) fun x11 => (jlt ((if jDv (jW (r3 - 1)) 12 < 0 then 0 else jDv (jW (r3 - 1)) 12)) fun x12 => f_X0_markHeld_L106 jFU x11 x12 r2)))
theorem t_X0_markHeld_L106 {X : jX} (B : jB X cX0_markHeld RX0 7 SKF.length rm_X0_markHeld none) : ∀ (q : Nat) (v5 : Int) (v6 : Int) (m : jMu) (r : jMu), f_X0_markHeld_L106 q v5 v6 m = some r → jQ X (.inl none) SKF r rm_X0_markHeld.cells rm_X0_markHeld.slots → J X SKF m 0 0 106 [(0, jR 70), (5, jI v5), (6, jI v6)] [] := by
  intro q
  induction q with
  | zero =>
    intro v5 v6 m r hf
    rw [f_X0_markHeld_L106] at hf
    cases hf
  | succ q ih =>
    intro v5 v6 m r hf hq
    rw [f_X0_markHeld_L106] at hf
    refine B_blk B jlkX0_ok jcl_SKF [.iload 6, .iload 5] (by decide +kernel) (ls' := [(0, jR 70), (5, jI v5), (6, jI v6)]) (st' := [jI v5, jI v6]) rfl (p1 := 110) rfl ?_
    refine J_icmp_gt B.1 (off := 27) (tgt := 137) (by decide +kernel) (by decide) hf (fun hf => ?_) (fun hf => ?_)
    · cases hf
      exact B_retV B hq rfl (Nat.le_of_ble_eq_true rfl) (Nat.le_of_ble_eq_true rfl) (by decide +kernel)
    · refine B_blk B jlkX0_ok jcl_SKF [.iload 6, .aload_n 0, .getfield 19, .arraylength] (by decide +kernel) (ls' := [(0, jR 70), (5, jI v5), (6, jI v6)]) (st' := [jI 201, jI v6]) rfl (p1 := 120) rfl ?_
      refine J_icmp_ge B.1 (off := 17) (tgt := 137) (by decide +kernel) (by decide) hf (fun hf => ?_) (fun hf => ?_)
      · cases hf
        exact B_retV B hq rfl (Nat.le_of_ble_eq_true rfl) (Nat.le_of_ble_eq_true rfl) (by decide +kernel)
      · refine B_blk B jlkX0_ok jcl_SKF [.aload_n 0, .getfield 19, .iload 6, .iconst 0] (by decide +kernel) (ls' := [(0, jR 70), (5, jI v5), (6, jI v6)]) (st' := [jI 0, jI v6, jR 71]) rfl (p1 := 130) rfl ?_
        obtain ⟨g9, hf⟩ := jgd hf
        refine K_iast (lenI := 201) B rfl rfl g9 (by decide +kernel) ?_
        obtain ⟨m8, hm8, hf⟩ := jlt_s hf
        rw [hm8]
        refine B_blk B jlkX0_ok jcl_SKF [.iinc 6 1, .goto (-28)] (by decide +kernel) (ls' := [(0, jR 70), (5, jI v5), (6, jI (jW (v6 + 1)))]) (st' := []) rfl (p1 := 106) rfl ?_
        exact ih v5 (jW (v6 + 1)) m8 _ hf hq
theorem t_X0_markHeld {l : Launch} {G : jG} (hl : l.stackTraces = false) {a0 : Int} {a1 : Int} {a2 : Int} {m : jMu} {r : jMu} (hf : f_X0_markHeld a0 a1 a2 m = some r) : jCt l G yX0_markHeld (.code yX0_markHeld cX0_markHeld 7 none :: jWG) rm_X0_markHeld [jR 70, jI a0, jI a1, jI a2] SKF m (.inl none) SKF r := by
  unfold f_X0_markHeld at hf
  refine J_start (ls0 := [(0, jR 70), (1, jI a0), (2, jI a1), (3, jI a2)]) (by decide +kernel) hl (Nat.le_of_ble_eq_true rfl) rfl fun X C hN hn hR hr hnm hno hq => ?_
  have B : jB X cX0_markHeld RX0 7 SKF.length rm_X0_markHeld none := ⟨C, hN, Nat.le_of_eq hn, hR, hr⟩
  refine B_blk B jlkX0_ok jcl_SKF [.aload_n 0, .getfield 15, .iload_n 1, .aload_n 0, .getfield 9, .getfield 23, .iload_n 2, .iconst 3] (by decide +kernel) (ls' := [(0, jR 70), (1, jI a0), (2, jI a1), (3, jI a2)]) (st' := [jI 3, jI a1, jR 24, jI a0, jR 32]) rfl (p1 := 14) rfl ?_
  obtain ⟨r1, h1, hf⟩ := jbd hf
  refine B_callV B (Nat.le_refl _) (μ' := m) (k' := 0) (n' := 0) ca_X5_get in_X5_get se_X5_get lk_X0_35 (t_X5_get B.tr jcl_SKF ⟨rfl, rfl, by decide⟩ h1) (Nat.le_refl _) rfl rfl rfl (rest := [jI a0, jR 32]) rfl rfl (Nat.le_of_ble_eq_true rfl) (by decide +kernel) rfl rfl (st' := [jI r1, jI a0, jR 32]) rfl ?_
  obtain ⟨r2, h2, hf⟩ := jbd hf
  refine B_callV B (Nat.le_refl _) (μ' := r2) (k' := 0) (n' := 0) ca_X1_stand in_X1_stand se_X1_stand lk_X0_67 (t_X1_stand B.tr h2) (Nat.le_refl _) rfl rfl rfl (rest := []) rfl rfl (Nat.le_of_ble_eq_true rfl) (by decide +kernel) rfl rfl (st' := []) rfl ?_
  refine B_blk B jlkX0_ok jcl_SKF [.aload_n 0, .getfield 9, .getfield 23, .iload_n 2, .iconst 4] (by decide +kernel) (ls' := [(0, jR 70), (1, jI a0), (2, jI a1), (3, jI a2)]) (st' := [jI 4, jI a1, jR 24]) rfl (p1 := 29) rfl ?_
  obtain ⟨r3, h3, hf⟩ := jbd hf
  refine B_callV B (Nat.le_refl _) (μ' := r2) (k' := 0) (n' := 0) ca_X5_get in_X5_get se_X5_get lk_X0_35 (t_X5_get B.tr jcl_SKF ⟨rfl, rfl, by decide⟩ h3) (Nat.le_refl _) rfl rfl rfl (rest := []) rfl rfl (Nat.le_of_ble_eq_true rfl) (by decide +kernel) rfl rfl (st' := [jI r3]) rfl ?_
  refine B_blk B jlkX0_ok jcl_SKF [.iconst 1, .isub, .bipush 12] (by decide +kernel) (ls' := [(0, jR 70), (1, jI a0), (2, jI a1), (3, jI a2)]) (st' := [jI 12, jI (jW (r3 - 1))]) rfl (p1 := 36) rfl ?_
  refine K_idiv B (by decide) (by decide +kernel) ?_
  refine B_blk B jlkX0_ok jcl_SKF [.istore 4, .iload 4, .aload_n 0, .getfield 15, .aload_n 0, .getfield 9, .getfield 23, .iload_n 2, .bipush 7] (by decide +kernel) (ls' := [(0, jR 70), (1, jI a0), (2, jI a1), (3, jI a2), (4, jI (jDv (jW (r3 - 1)) 12))]) (st' := [jI 7, jI a1, jR 24, jR 32, jI (jDv (jW (r3 - 1)) 12)]) rfl (p1 := 55) rfl ?_
  obtain ⟨r4, h4, hf⟩ := jbd hf
  refine B_callV B (Nat.le_refl _) (μ' := r2) (k' := 0) (n' := 0) ca_X5_get in_X5_get se_X5_get lk_X0_35 (t_X5_get B.tr jcl_SKF ⟨rfl, rfl, by decide⟩ h4) (Nat.le_refl _) rfl rfl rfl (rest := [jR 32, jI (jDv (jW (r3 - 1)) 12)]) rfl rfl (Nat.le_of_ble_eq_true rfl) (by decide +kernel) rfl rfl (st' := [jI r4, jR 32, jI (jDv (jW (r3 - 1)) 12)]) rfl ?_
  obtain ⟨r5, h5, hf⟩ := jbd hf
  refine B_callV B (Nat.le_refl _) (μ' := r2) (k' := 0) (n' := 0) ca_X1_holdHere in_X1_holdHere se_X1_holdHere lk_X0_73 (t_X1_holdHere B.tr h5) (Nat.le_refl _) rfl rfl rfl (rest := [jI (jDv (jW (r3 - 1)) 12)]) rfl rfl (Nat.le_of_ble_eq_true rfl) (by decide +kernel) rfl rfl (st' := [jI r5, jI (jDv (jW (r3 - 1)) 12)]) rfl ?_
  refine B_blk B jlkX0_ok jcl_SKF [.iadd, .istore 5, .aload_n 0, .getfield 9, .iload_n 2, .iload_n 3] (by decide +kernel) (ls' := [(0, jR 70), (1, jI a0), (2, jI a1), (3, jI a2), (4, jI (jDv (jW (r3 - 1)) 12)), (5, jI (jW (jDv (jW (r3 - 1)) 12 + r5)))]) (st' := [jI a2, jI a1, jR 1]) rfl (p1 := 70) rfl ?_
  obtain ⟨r6, h6, hf⟩ := jbd hf
  refine B_callV B (Nat.le_refl _) (μ' := r2) (k' := 0) (n' := 0) ca_X4_isPeeled in_X4_isPeeled se_X4_isPeeled lk_X0_76 (t_X4_isPeeled B.tr h6) (Nat.le_refl _) rfl rfl rfl (rest := []) rfl rfl (Nat.le_of_ble_eq_true rfl) (by decide +kernel) rfl rfl (st' := [jI r6]) rfl ?_
  refine J_if_eq B.1 (off := 25) (tgt := 98) (by decide +kernel) (by decide) hf (fun hf => ?_) (fun hf => ?_)
  · refine B_blk B jlkX0_ok jcl_SKF [.iload 4, .iconst 0] (by decide +kernel) (ls' := [(0, jR 70), (1, jI a0), (2, jI a1), (3, jI a2), (4, jI (jDv (jW (r3 - 1)) 12)), (5, jI (jW (jDv (jW (r3 - 1)) 12 + r5)))]) (st' := [jI 0, jI (jDv (jW (r3 - 1)) 12)]) rfl (p1 := 101) rfl ?_
    refine J_max B.1 lk_X0_84 sa_max ii_J9 jca_max B.2.2.2.1 (Nat.le_of_ble_eq_true rfl) (Nat.le_of_ble_eq_true rfl) (Nat.le_of_ble_eq_true rfl) (Nat.le_of_ble_eq_true rfl) (by decide +kernel) ?_
    refine B_blk B jlkX0_ok jcl_SKF [.istore 6] (by decide +kernel) (ls' := [(0, jR 70), (1, jI a0), (2, jI a1), (3, jI a2), (4, jI (jDv (jW (r3 - 1)) 12)), (5, jI (jW (jDv (jW (r3 - 1)) 12 + r5))), (6, jI (if jDv (jW (r3 - 1)) 12 < 0 then 0 else jDv (jW (r3 - 1)) 12))]) (st' := []) rfl (p1 := 106) rfl ?_
    obtain ⟨x7, hx7, hf⟩ := jlt_s hf
    rw [hx7]
    refine J_pick [0, 5, 6] (ls' := [(0, jR 70), (5, jI (jW (jDv (jW (r3 - 1)) 12 + r5))), (6, jI x7)]) rfl ?_
    exact t_X0_markHeld_L106 B jFU (jW (jDv (jW (r3 - 1)) 12 + r5)) x7 r2 _ hf hq
  · refine B_blk B jlkX0_ok jcl_SKF [.iload 5, .aload_n 0, .getfield 9, .getfield 23, .iload_n 2, .bipush 6] (by decide +kernel) (ls' := [(0, jR 70), (1, jI a0), (2, jI a1), (3, jI a2), (4, jI (jDv (jW (r3 - 1)) 12)), (5, jI (jW (jDv (jW (r3 - 1)) 12 + r5)))]) (st' := [jI 6, jI a1, jR 24, jI (jW (jDv (jW (r3 - 1)) 12 + r5))]) rfl (p1 := 88) rfl ?_
    obtain ⟨r10, h10, hf⟩ := jbd hf
    refine B_callV B (Nat.le_refl _) (μ' := r2) (k' := 0) (n' := 0) ca_X5_get in_X5_get se_X5_get lk_X0_35 (t_X5_get B.tr jcl_SKF ⟨rfl, rfl, by decide⟩ h10) (Nat.le_refl _) rfl rfl rfl (rest := [jI (jW (jDv (jW (r3 - 1)) 12 + r5))]) rfl rfl (Nat.le_of_ble_eq_true rfl) (by decide +kernel) rfl rfl (st' := [jI r10, jI (jW (jDv (jW (r3 - 1)) 12 + r5))]) rfl ?_
    refine B_blk B jlkX0_ok jcl_SKF [.iconst 1, .isub] (by decide +kernel) (ls' := [(0, jR 70), (1, jI a0), (2, jI a1), (3, jI a2), (4, jI (jDv (jW (r3 - 1)) 12)), (5, jI (jW (jDv (jW (r3 - 1)) 12 + r5)))]) (st' := [jI (jW (r10 - 1)), jI (jW (jDv (jW (r3 - 1)) 12 + r5))]) rfl (p1 := 93) rfl ?_
    refine J_min B.1 lk_X0_79 sa_min ii_J9 jca_min B.2.2.2.1 (Nat.le_of_ble_eq_true rfl) (Nat.le_of_ble_eq_true rfl) (Nat.le_of_ble_eq_true rfl) (Nat.le_of_ble_eq_true rfl) (by decide +kernel) ?_
    refine B_blk B jlkX0_ok jcl_SKF [.istore 5] (by decide +kernel) (ls' := [(0, jR 70), (1, jI a0), (2, jI a1), (3, jI a2), (4, jI (jDv (jW (r3 - 1)) 12)), (5, jI (if jW (r10 - 1) < jW (jDv (jW (r3 - 1)) 12 + r5) then jW (r10 - 1) else jW (jDv (jW (r3 - 1)) 12 + r5)))]) (st' := []) rfl (p1 := 98) rfl ?_
    obtain ⟨x11, hx11, hf⟩ := jlt_s hf
    rw [hx11]
    refine B_blk B jlkX0_ok jcl_SKF [.iload 4, .iconst 0] (by decide +kernel) (ls' := [(0, jR 70), (1, jI a0), (2, jI a1), (3, jI a2), (4, jI (jDv (jW (r3 - 1)) 12)), (5, jI x11)]) (st' := [jI 0, jI (jDv (jW (r3 - 1)) 12)]) rfl (p1 := 101) rfl ?_
    refine J_max B.1 lk_X0_84 sa_max ii_J9 jca_max B.2.2.2.1 (Nat.le_of_ble_eq_true rfl) (Nat.le_of_ble_eq_true rfl) (Nat.le_of_ble_eq_true rfl) (Nat.le_of_ble_eq_true rfl) (by decide +kernel) ?_
    refine B_blk B jlkX0_ok jcl_SKF [.istore 6] (by decide +kernel) (ls' := [(0, jR 70), (1, jI a0), (2, jI a1), (3, jI a2), (4, jI (jDv (jW (r3 - 1)) 12)), (5, jI x11), (6, jI (if jDv (jW (r3 - 1)) 12 < 0 then 0 else jDv (jW (r3 - 1)) 12))]) (st' := []) rfl (p1 := 106) rfl ?_
    obtain ⟨x12, hx12, hf⟩ := jlt_s hf
    rw [hx12]
    refine J_pick [0, 5, 6] (ls' := [(0, jR 70), (5, jI x11), (6, jI x12)]) rfl ?_
    exact t_X0_markHeld_L106 B jFU x11 x12 r2 _ hf hq

def rm_X0_measureBare : Room := { frames := 12, cells := 0, slots := 0, locals := 187 }
def f_X0_measureBare_L70 : Nat → Int → Int → jMu → Option jMu
  | 0, _, _, _ => none
  | q + 1, v3, v4, m => (if 201 ≤ v4 then some m else (if 0 ≤ v4 ∧ v4 < 201 then (if 0 ≤ v4 ∧ v4 < 201 then (jlt (jup m 71 v4 v3) fun m3 => f_X0_measureBare_L70 q (jW (v3 + m 71 v4)) (jW (v4 + 1)) m3) else none) else none))
def f_X0_measureBare_L10 : Nat → Int → Int → Int → jMu → Option jMu
  | 0, _, _, _, _ => none
  | q + 1, v1, v2, v3, m => (f_X5_size 24 25 320 m).bind fun r2 => (if r2 ≤ v3 then f_X0_measureBare_L70 jFU 0 0 m else (f_X5_get 24 25 320 v3 0 m).bind fun r6 => (if r6 = v1 then (f_X4_isKnown v3 v2 m).bind fun r7 => (if r7 = 0 then f_X0_measureBare_L10 q v1 v2 (jW (v3 + 1)) m else (f_X0_markHeld v1 v3 v2 m).bind fun r8 => f_X0_measureBare_L10 q v1 v2 (jW (v3 + 1)) r8) else f_X0_measureBare_L10 q v1 v2 (jW (v3 + 1)) m))
def f_X0_measureBare (a0 : Int) (a1 : Int) (m : jMu) : Option jMu :=
  (f_J7_fill_53178 71 201 1 m).bind fun r1 => f_X0_measureBare_L10 jFU a0 a1 0 r1
theorem t_X0_measureBare_L70 {X : jX} (B : jB X cX0_measureBare RX0 6 SKF.length rm_X0_measureBare none) : ∀ (q : Nat) (v3 : Int) (v4 : Int) (m : jMu) (r : jMu), f_X0_measureBare_L70 q v3 v4 m = some r → jQ X (.inl none) SKF r rm_X0_measureBare.cells rm_X0_measureBare.slots → J X SKF m 0 0 70 [(0, jR 70), (3, jI v3), (4, jI v4)] [] := by
  intro q
  induction q with
  | zero =>
    intro v3 v4 m r hf
    rw [f_X0_measureBare_L70] at hf
    cases hf
  | succ q ih =>
    intro v3 v4 m r hf hq
    rw [f_X0_measureBare_L70] at hf
    refine B_blk B jlkX0_ok jcl_SKF [.iload 4, .aload_n 0, .getfield 19, .arraylength] (by decide +kernel) (ls' := [(0, jR 70), (3, jI v3), (4, jI v4)]) (st' := [jI 201, jI v4]) rfl (p1 := 77) rfl ?_
    refine J_icmp_ge B.1 (off := 31) (tgt := 108) (by decide +kernel) (by decide) hf (fun hf => ?_) (fun hf => ?_)
    · cases hf
      exact B_retV B hq rfl (Nat.le_of_ble_eq_true rfl) (Nat.le_of_ble_eq_true rfl) (by decide +kernel)
    · refine B_blk B jlkX0_ok jcl_SKF [.aload_n 0, .getfield 19, .iload 4] (by decide +kernel) (ls' := [(0, jR 70), (3, jI v3), (4, jI v4)]) (st' := [jI v4, jR 71]) rfl (p1 := 86) rfl ?_
      obtain ⟨g5, hf⟩ := jgd hf
      refine K_iald (lenI := 201) B rfl rfl g5 (by decide +kernel) ?_
      refine B_blk B jlkX0_ok jcl_SKF [.istore 5, .aload_n 0, .getfield 19, .iload 4, .iload_n 3] (by decide +kernel) (ls' := [(0, jR 70), (3, jI v3), (4, jI v4), (5, jI (m 71 v4))]) (st' := [jI v3, jI v4, jR 71]) rfl (p1 := 96) rfl ?_
      obtain ⟨g4, hf⟩ := jgd hf
      refine K_iast (lenI := 201) B rfl rfl g4 (by decide +kernel) ?_
      obtain ⟨m3, hm3, hf⟩ := jlt_s hf
      rw [hm3]
      refine B_blk B jlkX0_ok jcl_SKF [.iload_n 3, .iload 5, .iadd, .istore_n 3, .iinc 4 1, .goto (-35)] (by decide +kernel) (ls' := [(0, jR 70), (3, jI (jW (v3 + m 71 v4))), (4, jI (jW (v4 + 1))), (5, jI (m 71 v4))]) (st' := []) rfl (p1 := 70) rfl ?_
      refine J_pick [0, 1, 2] (ls' := [(0, jR 70), (3, jI (jW (v3 + m 71 v4))), (4, jI (jW (v4 + 1)))]) rfl ?_
      exact ih (jW (v3 + m 71 v4)) (jW (v4 + 1)) m3 _ hf hq
theorem t_X0_measureBare_L10 {X : jX} (B : jB X cX0_measureBare RX0 6 SKF.length rm_X0_measureBare none) : ∀ (q : Nat) (v1 : Int) (v2 : Int) (v3 : Int) (m : jMu) (r : jMu), f_X0_measureBare_L10 q v1 v2 v3 m = some r → jQ X (.inl none) SKF r rm_X0_measureBare.cells rm_X0_measureBare.slots → J X SKF m 0 0 10 [(0, jR 70), (1, jI v1), (2, jI v2), (3, jI v3)] [] := by
  intro q
  induction q with
  | zero =>
    intro v1 v2 v3 m r hf
    rw [f_X0_measureBare_L10] at hf
    cases hf
  | succ q ih =>
    intro v1 v2 v3 m r hf hq
    rw [f_X0_measureBare_L10] at hf
    refine B_blk B jlkX0_ok jcl_SKF [.iload_n 3, .aload_n 0, .getfield 9, .getfield 23] (by decide +kernel) (ls' := [(0, jR 70), (1, jI v1), (2, jI v2), (3, jI v3)]) (st' := [jR 24, jI v3]) rfl (p1 := 18) rfl ?_
    obtain ⟨r2, h2, hf⟩ := jbd hf
    refine B_callV B (Nat.le_refl _) (μ' := m) (k' := 0) (n' := 0) ca_X5_size in_X5_size se_X5_size lk_X0_29 (t_X5_size B.tr jcl_SKF ⟨rfl, rfl, by decide⟩ h2) (Nat.le_refl _) rfl rfl rfl (rest := [jI v3]) rfl rfl (Nat.le_of_ble_eq_true rfl) (by decide +kernel) rfl rfl (st' := [jI r2, jI v3]) rfl ?_
    refine J_icmp_ge B.1 (off := 44) (tgt := 65) (by decide +kernel) (by decide) hf (fun hf => ?_) (fun hf => ?_)
    · refine B_blk B jlkX0_ok jcl_SKF [.iconst 0, .istore_n 3, .iconst 0, .istore 4] (by decide +kernel) (ls' := [(0, jR 70), (1, jI v1), (2, jI v2), (3, jI 0), (4, jI 0)]) (st' := []) rfl (p1 := 70) rfl ?_
      refine J_pick [0, 3, 4] (ls' := [(0, jR 70), (3, jI 0), (4, jI 0)]) rfl ?_
      exact t_X0_measureBare_L70 B jFU 0 0 m _ hf hq
    · refine B_blk B jlkX0_ok jcl_SKF [.aload_n 0, .getfield 9, .getfield 23, .iload_n 3, .iconst 0] (by decide +kernel) (ls' := [(0, jR 70), (1, jI v1), (2, jI v2), (3, jI v3)]) (st' := [jI 0, jI v3, jR 24]) rfl (p1 := 33) rfl ?_
      obtain ⟨r6, h6, hf⟩ := jbd hf
      refine B_callV B (Nat.le_refl _) (μ' := m) (k' := 0) (n' := 0) ca_X5_get in_X5_get se_X5_get lk_X0_35 (t_X5_get B.tr jcl_SKF ⟨rfl, rfl, by decide⟩ h6) (Nat.le_refl _) rfl rfl rfl (rest := []) rfl rfl (Nat.le_of_ble_eq_true rfl) (by decide +kernel) rfl rfl (st' := [jI r6]) rfl ?_
      refine B_blk B jlkX0_ok jcl_SKF [.iload_n 1] (by decide +kernel) (ls' := [(0, jR 70), (1, jI v1), (2, jI v2), (3, jI v3)]) (st' := [jI v1, jI r6]) rfl (p1 := 37) rfl ?_
      refine J_icmp_ne B.1 (off := 22) (tgt := 59) (by decide +kernel) (by decide) hf (fun hf => ?_) (fun hf => ?_)
      · refine B_blk B jlkX0_ok jcl_SKF [.aload_n 0, .getfield 9, .iload_n 3, .iload_n 2] (by decide +kernel) (ls' := [(0, jR 70), (1, jI v1), (2, jI v2), (3, jI v3)]) (st' := [jI v2, jI v3, jR 1]) rfl (p1 := 46) rfl ?_
        obtain ⟨r7, h7, hf⟩ := jbd hf
        refine B_callV B (Nat.le_refl _) (μ' := m) (k' := 0) (n' := 0) ca_X4_isKnown in_X4_isKnown se_X4_isKnown lk_X0_39 (t_X4_isKnown B.tr h7) (Nat.le_refl _) rfl rfl rfl (rest := []) rfl rfl (Nat.le_of_ble_eq_true rfl) (by decide +kernel) rfl rfl (st' := [jI r7]) rfl ?_
        refine J_if_eq B.1 (off := 10) (tgt := 59) (by decide +kernel) (by decide) hf (fun hf => ?_) (fun hf => ?_)
        · refine B_blk B jlkX0_ok jcl_SKF [.iinc 3 1, .goto (-52)] (by decide +kernel) (ls' := [(0, jR 70), (1, jI v1), (2, jI v2), (3, jI (jW (v3 + 1)))]) (st' := []) rfl (p1 := 10) rfl ?_
          exact ih v1 v2 (jW (v3 + 1)) m _ hf hq
        · refine B_blk B jlkX0_ok jcl_SKF [.aload_n 0, .iload_n 1, .iload_n 3, .iload_n 2] (by decide +kernel) (ls' := [(0, jR 70), (1, jI v1), (2, jI v2), (3, jI v3)]) (st' := [jI v2, jI v3, jI v1, jR 70]) rfl (p1 := 56) rfl ?_
          obtain ⟨r8, h8, hf⟩ := jbd hf
          refine B_callV B (Nat.le_refl _) (μ' := r8) (k' := 0) (n' := 0) ca_X0_markHeld in_X0_markHeld se_X0_markHeld lk_X0_63 (t_X0_markHeld B.tr h8) (Nat.le_refl _) rfl rfl rfl (rest := []) rfl rfl (Nat.le_of_ble_eq_true rfl) (by decide +kernel) rfl rfl (st' := []) rfl ?_
          refine B_blk B jlkX0_ok jcl_SKF [.iinc 3 1, .goto (-52)] (by decide +kernel) (ls' := [(0, jR 70), (1, jI v1), (2, jI v2), (3, jI (jW (v3 + 1)))]) (st' := []) rfl (p1 := 10) rfl ?_
          exact ih v1 v2 (jW (v3 + 1)) r8 _ hf hq
      · refine B_blk B jlkX0_ok jcl_SKF [.iinc 3 1, .goto (-52)] (by decide +kernel) (ls' := [(0, jR 70), (1, jI v1), (2, jI v2), (3, jI (jW (v3 + 1)))]) (st' := []) rfl (p1 := 10) rfl ?_
        exact ih v1 v2 (jW (v3 + 1)) m _ hf hq
theorem t_X0_measureBare {l : Launch} {G : jG} (hl : l.stackTraces = false) {a0 : Int} {a1 : Int} {m : jMu} {r : jMu} (hf : f_X0_measureBare a0 a1 m = some r) : jCt l G yX0_measureBare (.code yX0_measureBare cX0_measureBare 6 none :: jWG) rm_X0_measureBare [jR 70, jI a0, jI a1] SKF m (.inl none) SKF r := by
  unfold f_X0_measureBare at hf
  refine J_start (ls0 := [(0, jR 70), (1, jI a0), (2, jI a1)]) (by decide +kernel) hl (Nat.le_of_ble_eq_true rfl) rfl fun X C hN hn hR hr hnm hno hq => ?_
  have B : jB X cX0_measureBare RX0 6 SKF.length rm_X0_measureBare none := ⟨C, hN, Nat.le_of_eq hn, hR, hr⟩
  refine B_blk B jlkX0_ok jcl_SKF [.aload_n 0, .getfield 19, .iconst 1] (by decide +kernel) (ls' := [(0, jR 70), (1, jI a0), (2, jI a1)]) (st' := [jI 1, jR 71]) rfl (p1 := 5) rfl ?_
  obtain ⟨r1, h1, hf⟩ := jbd hf
  refine B_callS B (Nat.le_refl _) (μ' := r1) (k' := 0) (n' := 0) ca_J7_fill_53178 sa_J7_fill_53178 lk_X0_57 (t_J7_fill_53178 B.tr jcl_SKF ⟨rfl, by decide⟩ h1) (Nat.le_refl _) rfl (rest := []) rfl rfl (Nat.le_of_ble_eq_true rfl) (by decide +kernel) rfl rfl (st' := []) rfl ?_
  refine B_blk B jlkX0_ok jcl_SKF [.iconst 0, .istore_n 3] (by decide +kernel) (ls' := [(0, jR 70), (1, jI a0), (2, jI a1), (3, jI 0)]) (st' := []) rfl (p1 := 10) rfl ?_
  exact t_X0_measureBare_L10 B jFU a0 a1 0 r1 _ hf hq

def rm_X0_bareDays : Room := { frames := 2, cells := 0, slots := 0, locals := 64 }
def f_X0_bareDays (a0 : Int) (a1 : Int) (m : jMu) : Option Int :=
  (if a0 < 0 then some 0 else (if jW (a1 + 1) < a0 then some 0 else (if jW (a1 + 1) < 201 then (if 0 ≤ jW (a1 + 1) ∧ jW (a1 + 1) < 201 then (if 0 ≤ a0 ∧ a0 < 201 then some (jW (m 71 (jW (a1 + 1)) - m 71 a0)) else none) else none) else some 0)))
theorem t_X0_bareDays {l : Launch} {G : jG} (hl : l.stackTraces = false) {a0 : Int} {a1 : Int} {m : jMu} {r : Int} (hf : f_X0_bareDays a0 a1 m = some r) : jCt l G yX0_bareDays (.code yX0_bareDays cX0_bareDays 4 (some .int) :: jWG) rm_X0_bareDays [jR 70, jI a0, jI a1] SKF m (.inl (some (jI r))) SKF m := by
  unfold f_X0_bareDays at hf
  refine J_start (ls0 := [(0, jR 70), (1, jI a0), (2, jI a1)]) (by decide +kernel) hl (Nat.le_of_ble_eq_true rfl) rfl fun X C hN hn hR hr hnm hno hq => ?_
  have B : jB X cX0_bareDays RX0 4 SKF.length rm_X0_bareDays (some .int) := ⟨C, hN, Nat.le_of_eq hn, hR, hr⟩
  refine B_blk B jlkX0_ok jcl_SKF [.iload_n 2, .iconst 1, .iadd, .istore_n 3, .iload_n 1] (by decide +kernel) (ls' := [(0, jR 70), (1, jI a0), (2, jI a1), (3, jI (jW (a1 + 1)))]) (st' := [jI a0]) rfl (p1 := 5) rfl ?_
  refine J_if_lt B.1 (off := 17) (tgt := 22) (by decide +kernel) (by decide) hf (fun hf => ?_) (fun hf => ?_)
  · refine B_blk B jlkX0_ok jcl_SKF [.iconst 0] (by decide +kernel) (ls' := [(0, jR 70), (1, jI a0), (2, jI a1), (3, jI (jW (a1 + 1)))]) (st' := [jI 0]) rfl (p1 := 23) rfl ?_
    cases hf
    exact B_retI B hq rfl (Nat.le_of_ble_eq_true rfl) (Nat.le_of_ble_eq_true rfl) (by decide +kernel)
  · refine B_blk B jlkX0_ok jcl_SKF [.iload_n 1, .iload_n 3] (by decide +kernel) (ls' := [(0, jR 70), (1, jI a0), (2, jI a1), (3, jI (jW (a1 + 1)))]) (st' := [jI (jW (a1 + 1)), jI a0]) rfl (p1 := 10) rfl ?_
    refine J_icmp_gt B.1 (off := 12) (tgt := 22) (by decide +kernel) (by decide) hf (fun hf => ?_) (fun hf => ?_)
    · refine B_blk B jlkX0_ok jcl_SKF [.iconst 0] (by decide +kernel) (ls' := [(0, jR 70), (1, jI a0), (2, jI a1), (3, jI (jW (a1 + 1)))]) (st' := [jI 0]) rfl (p1 := 23) rfl ?_
      cases hf
      exact B_retI B hq rfl (Nat.le_of_ble_eq_true rfl) (Nat.le_of_ble_eq_true rfl) (by decide +kernel)
    · refine B_blk B jlkX0_ok jcl_SKF [.iload_n 3, .aload_n 0, .getfield 19, .arraylength] (by decide +kernel) (ls' := [(0, jR 70), (1, jI a0), (2, jI a1), (3, jI (jW (a1 + 1)))]) (st' := [jI 201, jI (jW (a1 + 1))]) rfl (p1 := 19) rfl ?_
      refine J_icmp_lt B.1 (off := 5) (tgt := 24) (by decide +kernel) (by decide) hf (fun hf => ?_) (fun hf => ?_)
      · refine B_blk B jlkX0_ok jcl_SKF [.aload_n 0, .getfield 19, .iload_n 3] (by decide +kernel) (ls' := [(0, jR 70), (1, jI a0), (2, jI a1), (3, jI (jW (a1 + 1)))]) (st' := [jI (jW (a1 + 1)), jR 71]) rfl (p1 := 29) rfl ?_
        obtain ⟨g2, hf⟩ := jgd hf
        refine K_iald (lenI := 201) B rfl rfl g2 (by decide +kernel) ?_
        refine B_blk B jlkX0_ok jcl_SKF [.aload_n 0, .getfield 19, .iload_n 1] (by decide +kernel) (ls' := [(0, jR 70), (1, jI a0), (2, jI a1), (3, jI (jW (a1 + 1)))]) (st' := [jI a0, jR 71, jI (m 71 (jW (a1 + 1)))]) rfl (p1 := 35) rfl ?_
        obtain ⟨g1, hf⟩ := jgd hf
        refine K_iald (lenI := 201) B rfl rfl g1 (by decide +kernel) ?_
        refine B_blk B jlkX0_ok jcl_SKF [.isub] (by decide +kernel) (ls' := [(0, jR 70), (1, jI a0), (2, jI a1), (3, jI (jW (a1 + 1)))]) (st' := [jI (jW (m 71 (jW (a1 + 1)) - m 71 a0))]) rfl (p1 := 37) rfl ?_
        cases hf
        exact B_retI B hq rfl (Nat.le_of_ble_eq_true rfl) (Nat.le_of_ble_eq_true rfl) (by decide +kernel)
      · refine B_blk B jlkX0_ok jcl_SKF [.iconst 0] (by decide +kernel) (ls' := [(0, jR 70), (1, jI a0), (2, jI a1), (3, jI (jW (a1 + 1)))]) (st' := [jI 0]) rfl (p1 := 23) rfl ?_
        cases hf
        exact B_retI B hq rfl (Nat.le_of_ble_eq_true rfl) (Nat.le_of_ble_eq_true rfl) (by decide +kernel)

def rm_X9_bare : Room := { frames := 14, cells := 3, slots := 18, locals := 212 }
def f_X9_bare_J31 (v1 : Int) (v2 : Int) (v3 : Int) (v4 : Int) (s0 : Int) (m : jMu) : Option (jOut Int) :=
  jthr (f_X9_needIndex s0 m) fun r2 => jthr (f_X9_needDays v2 v3 r2.2) fun r3 => (if v3 < v2 then jthr (f_X9_needArgument 0 r3.2) fun r4 => (f_X0_measureBare v1 v4 r4.2).bind fun r5 => (f_X0_bareDays v2 v3 r5).bind fun r6 => some (.inr (r6, r5)) else jthr (f_X9_needArgument 1 r3.2) fun r7 => (f_X0_measureBare v1 v4 r7.2).bind fun r8 => (f_X0_bareDays v2 v3 r8).bind fun r9 => some (.inr (r9, r8)))
def f_X9_bare_J30 (v1 : Int) (v2 : Int) (v3 : Int) (v4 : Int) (m : jMu) : Option (jOut Int) :=
  f_X9_bare_J31 v1 v2 v3 v4 0 m
def f_X9_bare (a0 : Int) (a1 : Int) (a2 : Int) (a3 : Int) (m : jMu) : Option (jOut Int) :=
  (f_X5_has 4 5 80 a0 m).bind fun r1 => (if r1 = 0 then f_X9_bare_J30 a0 a1 a2 a3 m else (f_X9_isIn a3 0 199).bind fun r10 => (if r10 = 0 then f_X9_bare_J30 a0 a1 a2 a3 m else f_X9_bare_J31 a0 a1 a2 a3 1 m))
theorem t_X9_bare_J31 {X : jX} (B : jB X cX9_bare RX9 5 SKF.length rm_X9_bare (some .int)) (hno : ∀ x ∈ (xc X).exceptionTable.toList, False) (v1 : Int) (v2 : Int) (v3 : Int) (v4 : Int) (s0 : Int) (m : jMu) (r : (jOut Int)) (hf : f_X9_bare_J31 v1 v2 v3 v4 s0 m = some r) (hq : jQ X (joI r) SKF (joM r) rm_X9_bare.cells rm_X9_bare.slots) : J X SKF m 0 0 31 [(0, jR 0), (1, jI v1), (2, jI v2), (3, jI v3), (4, jI v4)] [jI s0] := by
  unfold f_X9_bare_J31 at hf
  rcases jthr_s hf with ⟨e2, h2, hf⟩ | ⟨r2, h2, hf⟩
  · cases hf
    exact B_callST B (Nat.le_refl _) hno hq ca_X9_needIndex sa_X9_needIndex lk_X9_125 (t_X9_needIndex B.tr h2) (Nat.le_refl _) rfl (rest := []) rfl rfl (Nat.le_of_ble_eq_true rfl) (by decide +kernel) (Nat.le_of_ble_eq_true rfl) (Nat.le_of_ble_eq_true rfl)
  · refine B_callS B (Nat.le_refl _) (μ' := r2.2) (k' := 1) (n' := 6) ca_X9_needIndex sa_X9_needIndex lk_X9_125 (t_X9_needIndex B.tr h2) (Nat.le_refl _) rfl (rest := []) rfl rfl (Nat.le_of_ble_eq_true rfl) (by decide +kernel) rfl rfl (st' := []) rfl ?_
    refine B_blk B jlkX9_ok jcl_SKF [.iload_n 2, .iload_n 3] (by decide +kernel) (ls' := [(0, jR 0), (1, jI v1), (2, jI v2), (3, jI v3), (4, jI v4)]) (st' := [jI v3, jI v2]) rfl (p1 := 36) rfl ?_
    rcases jthr_s hf with ⟨e3, h3, hf⟩ | ⟨r3, h3, hf⟩
    · cases hf
      exact B_callST B (Nat.le_refl _) hno hq ca_X9_needDays sa_X9_needDays lk_X9_121 (t_X9_needDays B.tr h3) (Nat.le_refl _) rfl (rest := []) rfl rfl (Nat.le_of_ble_eq_true rfl) (by decide +kernel) (Nat.le_of_ble_eq_true rfl) (Nat.le_of_ble_eq_true rfl)
    · refine B_callS B (Nat.le_refl _) (μ' := r3.2) (k' := 2) (n' := 12) ca_X9_needDays sa_X9_needDays lk_X9_121 (t_X9_needDays B.tr h3) (Nat.le_refl _) rfl (rest := []) rfl rfl (Nat.le_of_ble_eq_true rfl) (by decide +kernel) rfl rfl (st' := []) rfl ?_
      refine B_blk B jlkX9_ok jcl_SKF [.iload_n 2, .iload_n 3] (by decide +kernel) (ls' := [(0, jR 0), (1, jI v1), (2, jI v2), (3, jI v3), (4, jI v4)]) (st' := [jI v3, jI v2]) rfl (p1 := 41) rfl ?_
      refine J_icmp_gt B.1 (off := 7) (tgt := 48) (by decide +kernel) (by decide) hf (fun hf => ?_) (fun hf => ?_)
      · refine B_blk B jlkX9_ok jcl_SKF [.iconst 0] (by decide +kernel) (ls' := [(0, jR 0), (1, jI v1), (2, jI v2), (3, jI v3), (4, jI v4)]) (st' := [jI 0]) rfl (p1 := 49) rfl ?_
        rcases jthr_s hf with ⟨e4, h4, hf⟩ | ⟨r4, h4, hf⟩
        · cases hf
          exact B_callST B (Nat.le_refl _) hno hq ca_X9_needArgument sa_X9_needArgument lk_X9_97 (t_X9_needArgument B.tr h4) (Nat.le_refl _) rfl (rest := []) rfl rfl (Nat.le_of_ble_eq_true rfl) (by decide +kernel) (Nat.le_of_ble_eq_true rfl) (Nat.le_of_ble_eq_true rfl)
        · refine B_callS B (Nat.le_refl _) (μ' := r4.2) (k' := 3) (n' := 18) ca_X9_needArgument sa_X9_needArgument lk_X9_97 (t_X9_needArgument B.tr h4) (Nat.le_refl _) rfl (rest := []) rfl rfl (Nat.le_of_ble_eq_true rfl) (by decide +kernel) rfl rfl (st' := []) rfl ?_
          refine B_blk B jlkX9_ok jcl_SKF [.aload_n 0, .getfield 56, .iload_n 1, .iload 4] (by decide +kernel) (ls' := [(0, jR 0), (1, jI v1), (2, jI v2), (3, jI v3), (4, jI v4)]) (st' := [jI v4, jI v1, jR 70]) rfl (p1 := 59) rfl ?_
          obtain ⟨r5, h5, hf⟩ := jbd hf
          refine B_callV B (Nat.le_refl _) (μ' := r5) (k' := 3) (n' := 18) ca_X0_measureBare in_X0_measureBare se_X0_measureBare lk_X9_221 (t_X0_measureBare B.tr h5) (Nat.le_refl _) rfl rfl rfl (rest := []) rfl rfl (Nat.le_of_ble_eq_true rfl) (by decide +kernel) rfl rfl (st' := []) rfl ?_
          refine B_blk B jlkX9_ok jcl_SKF [.aload_n 0, .getfield 56, .iload_n 2, .iload_n 3] (by decide +kernel) (ls' := [(0, jR 0), (1, jI v1), (2, jI v2), (3, jI v3), (4, jI v4)]) (st' := [jI v3, jI v2, jR 70]) rfl (p1 := 68) rfl ?_
          obtain ⟨r6, h6, hf⟩ := jbd hf
          refine B_callV B (Nat.le_refl _) (μ' := r5) (k' := 3) (n' := 18) ca_X0_bareDays in_X0_bareDays se_X0_bareDays lk_X9_224 (t_X0_bareDays B.tr h6) (Nat.le_refl _) rfl rfl rfl (rest := []) rfl rfl (Nat.le_of_ble_eq_true rfl) (by decide +kernel) rfl rfl (st' := [jI r6]) rfl ?_
          cases hf
          exact B_retI B hq rfl (Nat.le_of_ble_eq_true rfl) (Nat.le_of_ble_eq_true rfl) (by decide +kernel)
      · refine B_blk B jlkX9_ok jcl_SKF [.iconst 1, .goto 4] (by decide +kernel) (ls' := [(0, jR 0), (1, jI v1), (2, jI v2), (3, jI v3), (4, jI v4)]) (st' := [jI 1]) rfl (p1 := 49) rfl ?_
        rcases jthr_s hf with ⟨e7, h7, hf⟩ | ⟨r7, h7, hf⟩
        · cases hf
          exact B_callST B (Nat.le_refl _) hno hq ca_X9_needArgument sa_X9_needArgument lk_X9_97 (t_X9_needArgument B.tr h7) (Nat.le_refl _) rfl (rest := []) rfl rfl (Nat.le_of_ble_eq_true rfl) (by decide +kernel) (Nat.le_of_ble_eq_true rfl) (Nat.le_of_ble_eq_true rfl)
        · refine B_callS B (Nat.le_refl _) (μ' := r7.2) (k' := 3) (n' := 18) ca_X9_needArgument sa_X9_needArgument lk_X9_97 (t_X9_needArgument B.tr h7) (Nat.le_refl _) rfl (rest := []) rfl rfl (Nat.le_of_ble_eq_true rfl) (by decide +kernel) rfl rfl (st' := []) rfl ?_
          refine B_blk B jlkX9_ok jcl_SKF [.aload_n 0, .getfield 56, .iload_n 1, .iload 4] (by decide +kernel) (ls' := [(0, jR 0), (1, jI v1), (2, jI v2), (3, jI v3), (4, jI v4)]) (st' := [jI v4, jI v1, jR 70]) rfl (p1 := 59) rfl ?_
          obtain ⟨r8, h8, hf⟩ := jbd hf
          refine B_callV B (Nat.le_refl _) (μ' := r8) (k' := 3) (n' := 18) ca_X0_measureBare in_X0_measureBare se_X0_measureBare lk_X9_221 (t_X0_measureBare B.tr h8) (Nat.le_refl _) rfl rfl rfl (rest := []) rfl rfl (Nat.le_of_ble_eq_true rfl) (by decide +kernel) rfl rfl (st' := []) rfl ?_
          refine B_blk B jlkX9_ok jcl_SKF [.aload_n 0, .getfield 56, .iload_n 2, .iload_n 3] (by decide +kernel) (ls' := [(0, jR 0), (1, jI v1), (2, jI v2), (3, jI v3), (4, jI v4)]) (st' := [jI v3, jI v2, jR 70]) rfl (p1 := 68) rfl ?_
          obtain ⟨r9, h9, hf⟩ := jbd hf
          refine B_callV B (Nat.le_refl _) (μ' := r8) (k' := 3) (n' := 18) ca_X0_bareDays in_X0_bareDays se_X0_bareDays lk_X9_224 (t_X0_bareDays B.tr h9) (Nat.le_refl _) rfl rfl rfl (rest := []) rfl rfl (Nat.le_of_ble_eq_true rfl) (by decide +kernel) rfl rfl (st' := [jI r9]) rfl ?_
          cases hf
          exact B_retI B hq rfl (Nat.le_of_ble_eq_true rfl) (Nat.le_of_ble_eq_true rfl) (by decide +kernel)
theorem t_X9_bare_J30 {X : jX} (B : jB X cX9_bare RX9 5 SKF.length rm_X9_bare (some .int)) (hno : ∀ x ∈ (xc X).exceptionTable.toList, False) (v1 : Int) (v2 : Int) (v3 : Int) (v4 : Int) (m : jMu) (r : (jOut Int)) (hf : f_X9_bare_J30 v1 v2 v3 v4 m = some r) (hq : jQ X (joI r) SKF (joM r) rm_X9_bare.cells rm_X9_bare.slots) : J X SKF m 0 0 30 [(0, jR 0), (1, jI v1), (2, jI v2), (3, jI v3), (4, jI v4)] [] := by
  unfold f_X9_bare_J30 at hf
  refine B_blk B jlkX9_ok jcl_SKF [.iconst 0] (by decide +kernel) (ls' := [(0, jR 0), (1, jI v1), (2, jI v2), (3, jI v3), (4, jI v4)]) (st' := [jI 0]) rfl (p1 := 31) rfl ?_
  exact t_X9_bare_J31 B hno v1 v2 v3 v4 0 m _ hf hq
theorem t_X9_bare {l : Launch} {G : jG} (hl : l.stackTraces = false) {a0 : Int} {a1 : Int} {a2 : Int} {a3 : Int} {m : jMu} {r : (jOut Int)} (hf : f_X9_bare a0 a1 a2 a3 m = some r) : jCt l G yX9_bare (.code yX9_bare cX9_bare 5 (some .int) :: jWG) rm_X9_bare [jR 0, jI a0, jI a1, jI a2, jI a3] SKF m (joI r) SKF (joM r) := by
  unfold f_X9_bare at hf
  refine J_start (ls0 := [(0, jR 0), (1, jI a0), (2, jI a1), (3, jI a2), (4, jI a3)]) (by decide +kernel) hl (Nat.le_of_ble_eq_true rfl) rfl fun X C hN hn hR hr hnm hno hq => ?_
  have B : jB X cX9_bare RX9 5 SKF.length rm_X9_bare (some .int) := ⟨C, hN, Nat.le_of_eq hn, hR, hr⟩
  refine B_blk B jlkX9_ok jcl_SKF [.aload_n 0, .getfield 20, .getfield 101, .iload_n 1] (by decide +kernel) (ls' := [(0, jR 0), (1, jI a0), (2, jI a1), (3, jI a2), (4, jI a3)]) (st' := [jI a0, jR 4]) rfl (p1 := 8) rfl ?_
  obtain ⟨r1, h1, hf⟩ := jbd hf
  refine B_callV B (Nat.le_refl _) (μ' := m) (k' := 0) (n' := 0) ca_X5_has in_X5_has se_X5_has lk_X9_143 (t_X5_has B.tr jcl_SKF ⟨rfl, rfl, by decide⟩ h1) (Nat.le_refl _) rfl rfl rfl (rest := []) rfl rfl (Nat.le_of_ble_eq_true rfl) (by decide +kernel) rfl rfl (st' := [jI r1]) rfl ?_
  refine J_if_eq B.1 (off := 19) (tgt := 30) (by decide +kernel) (by decide) hf (fun hf => ?_) (fun hf => ?_)
  · exact t_X9_bare_J30 B hno a0 a1 a2 a3 m _ hf hq
  · refine B_blk B jlkX9_ok jcl_SKF [.iload 4, .iconst 0, .sipush 199] (by decide +kernel) (ls' := [(0, jR 0), (1, jI a0), (2, jI a1), (3, jI a2), (4, jI a3)]) (st' := [jI 199, jI 0, jI a3]) rfl (p1 := 20) rfl ?_
    obtain ⟨r10, h10, hf⟩ := jbd hf
    refine B_callS B (Nat.le_refl _) (μ' := m) (k' := 0) (n' := 0) ca_X9_isIn sa_X9_isIn lk_X9_93 (t_X9_isIn B.tr jcl_SKF h10) (Nat.le_refl _) rfl (rest := []) rfl rfl (Nat.le_of_ble_eq_true rfl) (by decide +kernel) rfl rfl (st' := [jI r10]) rfl ?_
    refine J_if_eq B.1 (off := 7) (tgt := 30) (by decide +kernel) (by decide) hf (fun hf => ?_) (fun hf => ?_)
    · exact t_X9_bare_J30 B hno a0 a1 a2 a3 m _ hf hq
    · refine B_blk B jlkX9_ok jcl_SKF [.iconst 1, .goto 4] (by decide +kernel) (ls' := [(0, jR 0), (1, jI a0), (2, jI a1), (3, jI a2), (4, jI a3)]) (st' := [jI 1]) rfl (p1 := 31) rfl ?_
      exact t_X9_bare_J31 B hno a0 a1 a2 a3 1 m _ hf hq

def rm_X9_rust : Room := { frames := 9, cells := 2, slots := 12, locals := 120 }
def f_X9_rust_J29 (v1 : Int) (v2 : Int) (v3 : Int) (s0 : Int) (m : jMu) : Option (jOut Unit) :=
  jthr (f_X9_needArgument s0 m) fun r3 => (f_X5_set 2 3 4 v1 0 v2 r3.2).bind fun r4 => (f_X5_set 2 3 4 v1 1 v3 r4).bind fun r5 => some (.inr ((), r5))
def f_X9_rust_J28 (v1 : Int) (v2 : Int) (v3 : Int) (m : jMu) : Option (jOut Unit) :=
  f_X9_rust_J29 v1 v2 v3 0 m
def f_X9_rust (a0 : Int) (a1 : Int) (a2 : Int) (m : jMu) : Option (jOut Unit) :=
  (f_X9_isIn a0 0 1).bind fun r1 => jthr (f_X9_needIndex r1 m) fun r2 => (if a1 < 0 then f_X9_rust_J28 a0 a1 a2 r2.2 else (if a2 < a1 then f_X9_rust_J28 a0 a1 a2 r2.2 else (if 20 < a2 then f_X9_rust_J28 a0 a1 a2 r2.2 else f_X9_rust_J29 a0 a1 a2 1 r2.2)))
theorem t_X9_rust_J29 {X : jX} (B : jB X cX9_rust RX9 4 SKF.length rm_X9_rust none) (hno : ∀ x ∈ (xc X).exceptionTable.toList, False) (v1 : Int) (v2 : Int) (v3 : Int) (s0 : Int) (m : jMu) (r : (jOut Unit)) (hf : f_X9_rust_J29 v1 v2 v3 s0 m = some r) (hq : jQ X (joV r) SKF (joM r) rm_X9_rust.cells rm_X9_rust.slots) : J X SKF m 1 6 29 [(0, jR 0), (1, jI v1), (2, jI v2), (3, jI v3)] [jI s0] := by
  unfold f_X9_rust_J29 at hf
  rcases jthr_s hf with ⟨e3, h3, hf⟩ | ⟨r3, h3, hf⟩
  · cases hf
    exact B_callST B (Nat.le_refl _) hno hq ca_X9_needArgument sa_X9_needArgument lk_X9_97 (t_X9_needArgument B.tr h3) (Nat.le_refl _) rfl (rest := []) rfl rfl (Nat.le_of_ble_eq_true rfl) (by decide +kernel) (Nat.le_of_ble_eq_true rfl) (Nat.le_of_ble_eq_true rfl)
  · refine B_callS B (Nat.le_refl _) (μ' := r3.2) (k' := 2) (n' := 12) ca_X9_needArgument sa_X9_needArgument lk_X9_97 (t_X9_needArgument B.tr h3) (Nat.le_refl _) rfl (rest := []) rfl rfl (Nat.le_of_ble_eq_true rfl) (by decide +kernel) rfl rfl (st' := []) rfl ?_
    refine B_blk B jlkX9_ok jcl_SKF [.aload_n 0, .getfield 20, .getfield 227, .iload_n 1, .iconst 0, .iload_n 2] (by decide +kernel) (ls' := [(0, jR 0), (1, jI v1), (2, jI v2), (3, jI v3)]) (st' := [jI v2, jI 0, jI v1, jR 2]) rfl (p1 := 42) rfl ?_
    obtain ⟨r4, h4, hf⟩ := jbd hf
    refine B_callV B (Nat.le_refl _) (μ' := r4) (k' := 2) (n' := 12) ca_X5_set in_X5_set se_X5_set lk_X9_117 (t_X5_set B.tr jcl_SKF ⟨rfl, rfl, by decide⟩ h4) (Nat.le_refl _) rfl rfl rfl (rest := []) rfl rfl (Nat.le_of_ble_eq_true rfl) (by decide +kernel) rfl rfl (st' := []) rfl ?_
    refine B_blk B jlkX9_ok jcl_SKF [.aload_n 0, .getfield 20, .getfield 227, .iload_n 1, .iconst 1, .iload_n 3] (by decide +kernel) (ls' := [(0, jR 0), (1, jI v1), (2, jI v2), (3, jI v3)]) (st' := [jI v3, jI 1, jI v1, jR 2]) rfl (p1 := 55) rfl ?_
    obtain ⟨r5, h5, hf⟩ := jbd hf
    refine B_callV B (Nat.le_refl _) (μ' := r5) (k' := 2) (n' := 12) ca_X5_set in_X5_set se_X5_set lk_X9_117 (t_X5_set B.tr jcl_SKF ⟨rfl, rfl, by decide⟩ h5) (Nat.le_refl _) rfl rfl rfl (rest := []) rfl rfl (Nat.le_of_ble_eq_true rfl) (by decide +kernel) rfl rfl (st' := []) rfl ?_
    cases hf
    exact B_retV B hq rfl (Nat.le_of_ble_eq_true rfl) (Nat.le_of_ble_eq_true rfl) (by decide +kernel)
theorem t_X9_rust_J28 {X : jX} (B : jB X cX9_rust RX9 4 SKF.length rm_X9_rust none) (hno : ∀ x ∈ (xc X).exceptionTable.toList, False) (v1 : Int) (v2 : Int) (v3 : Int) (m : jMu) (r : (jOut Unit)) (hf : f_X9_rust_J28 v1 v2 v3 m = some r) (hq : jQ X (joV r) SKF (joM r) rm_X9_rust.cells rm_X9_rust.slots) : J X SKF m 1 6 28 [(0, jR 0), (1, jI v1), (2, jI v2), (3, jI v3)] [] := by
  unfold f_X9_rust_J28 at hf
  refine B_blk B jlkX9_ok jcl_SKF [.iconst 0] (by decide +kernel) (ls' := [(0, jR 0), (1, jI v1), (2, jI v2), (3, jI v3)]) (st' := [jI 0]) rfl (p1 := 29) rfl ?_
  exact t_X9_rust_J29 B hno v1 v2 v3 0 m _ hf hq
theorem t_X9_rust {l : Launch} {G : jG} (hl : l.stackTraces = false) {a0 : Int} {a1 : Int} {a2 : Int} {m : jMu} {r : (jOut Unit)} (hf : f_X9_rust a0 a1 a2 m = some r) : jCt l G yX9_rust (.code yX9_rust cX9_rust 4 none :: jWG) rm_X9_rust [jR 0, jI a0, jI a1, jI a2] SKF m (joV r) SKF (joM r) := by
  unfold f_X9_rust at hf
  refine J_start (ls0 := [(0, jR 0), (1, jI a0), (2, jI a1), (3, jI a2)]) (by decide +kernel) hl (Nat.le_of_ble_eq_true rfl) rfl fun X C hN hn hR hr hnm hno hq => ?_
  have B : jB X cX9_rust RX9 4 SKF.length rm_X9_rust none := ⟨C, hN, Nat.le_of_eq hn, hR, hr⟩
  refine B_blk B jlkX9_ok jcl_SKF [.iload_n 1, .iconst 0, .iconst 1] (by decide +kernel) (ls' := [(0, jR 0), (1, jI a0), (2, jI a1), (3, jI a2)]) (st' := [jI 1, jI 0, jI a0]) rfl (p1 := 3) rfl ?_
  obtain ⟨r1, h1, hf⟩ := jbd hf
  refine B_callS B (Nat.le_refl _) (μ' := m) (k' := 0) (n' := 0) ca_X9_isIn sa_X9_isIn lk_X9_93 (t_X9_isIn B.tr jcl_SKF h1) (Nat.le_refl _) rfl (rest := []) rfl rfl (Nat.le_of_ble_eq_true rfl) (by decide +kernel) rfl rfl (st' := [jI r1]) rfl ?_
  rcases jthr_s hf with ⟨e2, h2, hf⟩ | ⟨r2, h2, hf⟩
  · cases hf
    exact B_callST B (Nat.le_refl _) hno hq ca_X9_needIndex sa_X9_needIndex lk_X9_125 (t_X9_needIndex B.tr h2) (Nat.le_refl _) rfl (rest := []) rfl rfl (Nat.le_of_ble_eq_true rfl) (by decide +kernel) (Nat.le_of_ble_eq_true rfl) (Nat.le_of_ble_eq_true rfl)
  · refine B_callS B (Nat.le_refl _) (μ' := r2.2) (k' := 1) (n' := 6) ca_X9_needIndex sa_X9_needIndex lk_X9_125 (t_X9_needIndex B.tr h2) (Nat.le_refl _) rfl (rest := []) rfl rfl (Nat.le_of_ble_eq_true rfl) (by decide +kernel) rfl rfl (st' := []) rfl ?_
    refine B_blk B jlkX9_ok jcl_SKF [.iload_n 2] (by decide +kernel) (ls' := [(0, jR 0), (1, jI a0), (2, jI a1), (3, jI a2)]) (st' := [jI a1]) rfl (p1 := 10) rfl ?_
    refine J_if_lt B.1 (off := 18) (tgt := 28) (by decide +kernel) (by decide) hf (fun hf => ?_) (fun hf => ?_)
    · exact t_X9_rust_J28 B hno a0 a1 a2 r2.2 _ hf hq
    · refine B_blk B jlkX9_ok jcl_SKF [.iload_n 2, .iload_n 3] (by decide +kernel) (ls' := [(0, jR 0), (1, jI a0), (2, jI a1), (3, jI a2)]) (st' := [jI a2, jI a1]) rfl (p1 := 15) rfl ?_
      refine J_icmp_gt B.1 (off := 13) (tgt := 28) (by decide +kernel) (by decide) hf (fun hf => ?_) (fun hf => ?_)
      · exact t_X9_rust_J28 B hno a0 a1 a2 r2.2 _ hf hq
      · refine B_blk B jlkX9_ok jcl_SKF [.iload_n 3, .bipush 20] (by decide +kernel) (ls' := [(0, jR 0), (1, jI a0), (2, jI a1), (3, jI a2)]) (st' := [jI 20, jI a2]) rfl (p1 := 21) rfl ?_
        refine J_icmp_gt B.1 (off := 7) (tgt := 28) (by decide +kernel) (by decide) hf (fun hf => ?_) (fun hf => ?_)
        · exact t_X9_rust_J28 B hno a0 a1 a2 r2.2 _ hf hq
        · refine B_blk B jlkX9_ok jcl_SKF [.iconst 1, .goto 4] (by decide +kernel) (ls' := [(0, jR 0), (1, jI a0), (2, jI a1), (3, jI a2)]) (st' := [jI 1]) rfl (p1 := 29) rfl ?_
          exact t_X9_rust_J29 B hno a0 a1 a2 1 r2.2 _ hf hq
