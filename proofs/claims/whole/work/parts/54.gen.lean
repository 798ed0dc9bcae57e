/-! printed walks -/
def f_case_40 (sx : Int → Int) (L i : Int) (m : jMu) : Option jMu :=
  (if 0 ≤ jW (i + 1) ∧ jW (i + 1) < L then (f_L_risk (sx (jW (i + 1))) m).bind fun r1 => (if 0 ≤ jW (i + 1) ∧ jW (i + 1) < L then (f_X10_risk (sx (jW (i + 1))) r1.2).bind fun r2 => (f_X10_thrown r2.2).bind fun r3 => (if r3 = r1.1 then (if r1.1 = 0 then (if jCm (r2.2 87 0) r2.1 = 0 then some r2.2 else none) else some r2.2) else none) else none) else none)
theorem t_case_40 {X : jX} {L : Int} {sx : Int → Int} (hsx : jsx (xG X) L sx) (B : jB X cL_law RL 8 0 room_1 (some .boolean)) {k n : Nat} (hk : k ≤ 8900) (hn : n ≤ 89000) {i : Int} {m o : jMu} (hf : f_case_40 sx L i m = some o) (hx : J X SKF o (k + 5) (n + 30) 3623 [(0, jR jXS), (1, jR 0), (2, jR 74), (3, jR 87), (4, jI i)] []) : J X SKF m k n 3289 [(0, jR jXS), (1, jR 0), (2, jR 74), (3, jR 87), (4, jI i)] [] := by
  unfold f_case_40 at hf
  refine B_blk B (jlkn_ok RL) jcl_SKF [.aload_n 1, .aload_n 0, .iload 4, .iconst 1, .iadd] (by decide +kernel) (ls' := [(0, jR jXS), (1, jR 0), (2, jR 74), (3, jR 87), (4, jI i)]) (st' := [jI (jW (i + 1)), jR jXS, jR 0]) rfl (p1 := 3295) rfl ?_
  obtain ⟨g5, hf⟩ := jgd hf
  refine K_xald B hsx g5 (by decide +kernel) ?_
  refine B_blk B (jlkn_ok RL) jcl_SKF [.aload_n 3] (by decide +kernel) (ls' := [(0, jR jXS), (1, jR 0), (2, jR 74), (3, jR 87), (4, jI i)]) (st' := [jR 87, jI (sx (jW (i + 1))), jR 0]) rfl (p1 := 3297) rfl ?_
  obtain ⟨r1, h1, hf⟩ := jbd hf
  refine B_callH B (Nat.zero_le _) (μ' := r1.2) (k' := k + 1) (n' := n + 6) ca_L_risk sa_L_risk lk_L_301 (t_L_risk B.tr h1) (Nat.le_refl _) (jRoom (K := 9000) (N := 90000) (by omega) (by omega) rfl) (rest := []) rfl rfl (Nat.le_of_ble_eq_true rfl) (by decide +kernel) rfl rfl (st' := [jI r1.1]) rfl ?_
  refine B_blk B (jlkn_ok RL) jcl_SKF [.istore 5, .aload_n 2, .aload_n 0, .iload 4, .iconst 1, .iadd] (by decide +kernel) (ls' := [(0, jR jXS), (1, jR 0), (2, jR 74), (3, jR 87), (4, jI i), (5, jI r1.1)]) (st' := [jI (jW (i + 1)), jR jXS, jR 74]) rfl (p1 := 3308) rfl ?_
  obtain ⟨g4, hf⟩ := jgd hf
  refine K_xald B hsx g4 (by decide +kernel) ?_
  obtain ⟨r2, h2, hf⟩ := jbd hf
  refine B_callV B (Nat.zero_le _) (μ' := r2.2) (k' := k + 1) (n' := n + 6) ca_X10_risk in_X10_risk se_X10_risk lk_L_303 (t_X10_risk B.tr h2) (Nat.le_refl _) (jRoom (K := 9000) (N := 90000) (by omega) (by omega) rfl) rfl rfl (rest := []) rfl rfl (Nat.le_of_ble_eq_true rfl) (by decide +kernel) rfl rfl (st' := [jI r2.1]) rfl ?_
  refine B_blk B (jlkn_ok RL) jcl_SKF [.istore 6, .aload_n 2] (by decide +kernel) (ls' := [(0, jR jXS), (1, jR 0), (2, jR 74), (3, jR 87), (4, jI i), (5, jI r1.1), (6, jI r2.1)]) (st' := [jR 74]) rfl (p1 := 3315) rfl ?_
  obtain ⟨r3, h3, hf⟩ := jbd hf
  refine B_callV B (Nat.zero_le _) (μ' := r2.2) (k' := k + 1) (n' := n + 6) ca_X10_thrown in_X10_thrown se_X10_thrown lk_L_174 (t_X10_thrown B.tr h3) (Nat.le_refl _) (jRoom (K := 9000) (N := 90000) (by omega) (by omega) rfl) rfl rfl (rest := []) rfl rfl (Nat.le_of_ble_eq_true rfl) (by decide +kernel) rfl rfl (st' := [jI r3]) rfl ?_
  refine B_blk B (jlkn_ok RL) jcl_SKF [.iload 5] (by decide +kernel) (ls' := [(0, jR jXS), (1, jR 0), (2, jR 74), (3, jR 87), (4, jI i), (5, jI r1.1), (6, jI r2.1)]) (st' := [jI r1.1, jI r3]) rfl (p1 := 3320) rfl ?_
  refine J_icmp_eq B.1 (off := 5) (tgt := 3325) (by decide +kernel) (by decide) hf (fun hf => ?_) (fun hf => ?_)
  · refine B_blk B (jlkn_ok RL) jcl_SKF [.iload 5] (by decide +kernel) (ls' := [(0, jR jXS), (1, jR 0), (2, jR 74), (3, jR 87), (4, jI i), (5, jI r1.1), (6, jI r2.1)]) (st' := [jI r1.1]) rfl (p1 := 3327) rfl ?_
    refine J_if_ne B.1 (off := 15) (tgt := 3342) (by decide +kernel) (by decide) hf (fun hf => ?_) (fun hf => ?_)
    · refine B_blk B (jlkn_ok RL) jcl_SKF [.aload_n 3, .iconst 0] (by decide +kernel) (ls' := [(0, jR jXS), (1, jR 0), (2, jR 74), (3, jR 87), (4, jI i), (5, jI r1.1), (6, jI r2.1)]) (st' := [jI 0, jR 87]) rfl (p1 := 3332) rfl ?_
      refine K_lald (lenI := 1) B rfl rfl (by decide) (by decide +kernel) ?_
      refine B_blk B (jlkn_ok RL) jcl_SKF [.iload 6, .i2l, .lcmp] (by decide +kernel) (ls' := [(0, jR jXS), (1, jR 0), (2, jR 74), (3, jR 87), (4, jI i), (5, jI r1.1), (6, jI r2.1)]) (st' := [jI (jCm (r2.2 87 0) r2.1)]) rfl (p1 := 3337) rfl ?_
      refine J_if_eq B.1 (off := 5) (tgt := 3342) (by decide +kernel) (by decide) hf (fun hf => ?_) (fun hf => ?_)
      · refine B_blk B (jlkn_ok RL) jcl_SKF [.goto 281] (by decide +kernel) (ls' := [(0, jR jXS), (1, jR 0), (2, jR 74), (3, jR 87), (4, jI i), (5, jI r1.1), (6, jI r2.1)]) (st' := []) rfl (p1 := 3623) rfl ?_
        refine J_pick [0, 1, 2, 3, 4] (ls' := [(0, jR jXS), (1, jR 0), (2, jR 74), (3, jR 87), (4, jI i)]) rfl ?_
        cases hf
        exact J_widen (by omega) (by omega) hx
      · refine B_blk B (jlkn_ok RL) jcl_SKF [.iconst 0] (by decide +kernel) (ls' := [(0, jR jXS), (1, jR 0), (2, jR 74), (3, jR 87), (4, jI i), (5, jI r1.1), (6, jI r2.1)]) (st' := [jI 0]) rfl (p1 := 3341) rfl ?_
        cases hf
    · refine B_blk B (jlkn_ok RL) jcl_SKF [.goto 281] (by decide +kernel) (ls' := [(0, jR jXS), (1, jR 0), (2, jR 74), (3, jR 87), (4, jI i), (5, jI r1.1), (6, jI r2.1)]) (st' := []) rfl (p1 := 3623) rfl ?_
      refine J_pick [0, 1, 2, 3, 4] (ls' := [(0, jR jXS), (1, jR 0), (2, jR 74), (3, jR 87), (4, jI i)]) rfl ?_
      cases hf
      exact J_widen (by omega) (by omega) hx
  · refine B_blk B (jlkn_ok RL) jcl_SKF [.iconst 0] (by decide +kernel) (ls' := [(0, jR jXS), (1, jR 0), (2, jR 74), (3, jR 87), (4, jI i), (5, jI r1.1), (6, jI r2.1)]) (st' := [jI 0]) rfl (p1 := 3324) rfl ?_
    cases hf

def f_case_41 (sx : Int → Int) (L i : Int) (m : jMu) : Option jMu :=
  (if 0 ≤ jW (i + 1) ∧ jW (i + 1) < L then (if 0 ≤ jW (i + 2) ∧ jW (i + 2) < L then (f_L_match (sx (jW (i + 1))) (sx (jW (i + 2))) m).bind fun r1 => (if 0 ≤ jW (i + 1) ∧ jW (i + 1) < L then (if 0 ≤ jW (i + 2) ∧ jW (i + 2) < L then (f_X10_match (sx (jW (i + 1))) (sx (jW (i + 2))) r1.2).bind fun r2 => (f_X10_thrown r2.2).bind fun r3 => (if r3 = r1.1 then (if r1.1 = 0 then (if jCm (r2.2 87 0) r2.1 = 0 then some r2.2 else none) else some r2.2) else none) else none) else none) else none) else none)
theorem t_case_41 {X : jX} {L : Int} {sx : Int → Int} (hsx : jsx (xG X) L sx) (B : jB X cL_law RL 8 0 room_1 (some .boolean)) {k n : Nat} (hk : k ≤ 8900) (hn : n ≤ 89000) {i : Int} {m o : jMu} (hf : f_case_41 sx L i m = some o) (hx : J X SKF o (k + 5) (n + 30) 3623 [(0, jR jXS), (1, jR 0), (2, jR 74), (3, jR 87), (4, jI i)] []) : J X SKF m k n 3345 [(0, jR jXS), (1, jR 0), (2, jR 74), (3, jR 87), (4, jI i)] [] := by
  unfold f_case_41 at hf
  refine B_blk B (jlkn_ok RL) jcl_SKF [.aload_n 1, .aload_n 0, .iload 4, .iconst 1, .iadd] (by decide +kernel) (ls' := [(0, jR jXS), (1, jR 0), (2, jR 74), (3, jR 87), (4, jI i)]) (st' := [jI (jW (i + 1)), jR jXS, jR 0]) rfl (p1 := 3351) rfl ?_
  obtain ⟨g7, hf⟩ := jgd hf
  refine K_xald B hsx g7 (by decide +kernel) ?_
  refine B_blk B (jlkn_ok RL) jcl_SKF [.aload_n 0, .iload 4, .iconst 2, .iadd] (by decide +kernel) (ls' := [(0, jR jXS), (1, jR 0), (2, jR 74), (3, jR 87), (4, jI i)]) (st' := [jI (jW (i + 2)), jR jXS, jI (sx (jW (i + 1))), jR 0]) rfl (p1 := 3357) rfl ?_
  obtain ⟨g6, hf⟩ := jgd hf
  refine K_xald B hsx g6 (by decide +kernel) ?_
  refine B_blk B (jlkn_ok RL) jcl_SKF [.aload_n 3] (by decide +kernel) (ls' := [(0, jR jXS), (1, jR 0), (2, jR 74), (3, jR 87), (4, jI i)]) (st' := [jR 87, jI (sx (jW (i + 2))), jI (sx (jW (i + 1))), jR 0]) rfl (p1 := 3359) rfl ?_
  obtain ⟨r1, h1, hf⟩ := jbd hf
  refine B_callH B (Nat.zero_le _) (μ' := r1.2) (k' := k + 2) (n' := n + 12) ca_L_match sa_L_match lk_L_304 (t_L_match B.tr h1) (Nat.le_refl _) (jRoom (K := 9000) (N := 90000) (by omega) (by omega) rfl) (rest := []) rfl rfl (Nat.le_of_ble_eq_true rfl) (by decide +kernel) rfl rfl (st' := [jI r1.1]) rfl ?_
  refine B_blk B (jlkn_ok RL) jcl_SKF [.istore 5, .aload_n 2, .aload_n 0, .iload 4, .iconst 1, .iadd] (by decide +kernel) (ls' := [(0, jR jXS), (1, jR 0), (2, jR 74), (3, jR 87), (4, jI i), (5, jI r1.1)]) (st' := [jI (jW (i + 1)), jR jXS, jR 74]) rfl (p1 := 3370) rfl ?_
  obtain ⟨g5, hf⟩ := jgd hf
  refine K_xald B hsx g5 (by decide +kernel) ?_
  refine B_blk B (jlkn_ok RL) jcl_SKF [.aload_n 0, .iload 4, .iconst 2, .iadd] (by decide +kernel) (ls' := [(0, jR jXS), (1, jR 0), (2, jR 74), (3, jR 87), (4, jI i), (5, jI r1.1)]) (st' := [jI (jW (i + 2)), jR jXS, jI (sx (jW (i + 1))), jR 74]) rfl (p1 := 3376) rfl ?_
  obtain ⟨g4, hf⟩ := jgd hf
  refine K_xald B hsx g4 (by decide +kernel) ?_
  obtain ⟨r2, h2, hf⟩ := jbd hf
  refine B_callV B (Nat.zero_le _) (μ' := r2.2) (k' := k + 2) (n' := n + 12) ca_X10_match in_X10_match se_X10_match lk_L_306 (t_X10_match B.tr h2) (Nat.le_refl _) (jRoom (K := 9000) (N := 90000) (by omega) (by omega) rfl) rfl rfl (rest := []) rfl rfl (Nat.le_of_ble_eq_true rfl) (by decide +kernel) rfl rfl (st' := [jI r2.1]) rfl ?_
  refine B_blk B (jlkn_ok RL) jcl_SKF [.istore 6, .aload_n 2] (by decide +kernel) (ls' := [(0, jR jXS), (1, jR 0), (2, jR 74), (3, jR 87), (4, jI i), (5, jI r1.1), (6, jI r2.1)]) (st' := [jR 74]) rfl (p1 := 3383) rfl ?_
  obtain ⟨r3, h3, hf⟩ := jbd hf
  refine B_callV B (Nat.zero_le _) (μ' := r2.2) (k' := k + 2) (n' := n + 12) ca_X10_thrown in_X10_thrown se_X10_thrown lk_L_174 (t_X10_thrown B.tr h3) (Nat.le_refl _) (jRoom (K := 9000) (N := 90000) (by omega) (by omega) rfl) rfl rfl (rest := []) rfl rfl (Nat.le_of_ble_eq_true rfl) (by decide +kernel) rfl rfl (st' := [jI r3]) rfl ?_
  refine B_blk B (jlkn_ok RL) jcl_SKF [.iload 5] (by decide +kernel) (ls' := [(0, jR jXS), (1, jR 0), (2, jR 74), (3, jR 87), (4, jI i), (5, jI r1.1), (6, jI r2.1)]) (st' := [jI r1.1, jI r3]) rfl (p1 := 3388) rfl ?_
  refine J_icmp_eq B.1 (off := 5) (tgt := 3393) (by decide +kernel) (by decide) hf (fun hf => ?_) (fun hf => ?_)
  · refine B_blk B (jlkn_ok RL) jcl_SKF [.iload 5] (by decide +kernel) (ls' := [(0, jR jXS), (1, jR 0), (2, jR 74), (3, jR 87), (4, jI i), (5, jI r1.1), (6, jI r2.1)]) (st' := [jI r1.1]) rfl (p1 := 3395) rfl ?_
    refine J_if_ne B.1 (off := 15) (tgt := 3410) (by decide +kernel) (by decide) hf (fun hf => ?_) (fun hf => ?_)
    · refine B_blk B (jlkn_ok RL) jcl_SKF [.aload_n 3, .iconst 0] (by decide +kernel) (ls' := [(0, jR jXS), (1, jR 0), (2, jR 74), (3, jR 87), (4, jI i), (5, jI r1.1), (6, jI r2.1)]) (st' := [jI 0, jR 87]) rfl (p1 := 3400) rfl ?_
      refine K_lald (lenI := 1) B rfl rfl (by decide) (by decide +kernel) ?_
      refine B_blk B (jlkn_ok RL) jcl_SKF [.iload 6, .i2l, .lcmp] (by decide +kernel) (ls' := [(0, jR jXS), (1, jR 0), (2, jR 74), (3, jR 87), (4, jI i), (5, jI r1.1), (6, jI r2.1)]) (st' := [jI (jCm (r2.2 87 0) r2.1)]) rfl (p1 := 3405) rfl ?_
      refine J_if_eq B.1 (off := 5) (tgt := 3410) (by decide +kernel) (by decide) hf (fun hf => ?_) (fun hf => ?_)
      · refine B_blk B (jlkn_ok RL) jcl_SKF [.goto 213] (by decide +kernel) (ls' := [(0, jR jXS), (1, jR 0), (2, jR 74), (3, jR 87), (4, jI i), (5, jI r1.1), (6, jI r2.1)]) (st' := []) rfl (p1 := 3623) rfl ?_
        refine J_pick [0, 1, 2, 3, 4] (ls' := [(0, jR jXS), (1, jR 0), (2, jR 74), (3, jR 87), (4, jI i)]) rfl ?_
        cases hf
        exact J_widen (by omega) (by omega) hx
      · refine B_blk B (jlkn_ok RL) jcl_SKF [.iconst 0] (by decide +kernel) (ls' := [(0, jR jXS), (1, jR 0), (2, jR 74), (3, jR 87), (4, jI i), (5, jI r1.1), (6, jI r2.1)]) (st' := [jI 0]) rfl (p1 := 3409) rfl ?_
        cases hf
    · refine B_blk B (jlkn_ok RL) jcl_SKF [.goto 213] (by decide +kernel) (ls' := [(0, jR jXS), (1, jR 0), (2, jR 74), (3, jR 87), (4, jI i), (5, jI r1.1), (6, jI r2.1)]) (st' := []) rfl (p1 := 3623) rfl ?_
      refine J_pick [0, 1, 2, 3, 4] (ls' := [(0, jR jXS), (1, jR 0), (2, jR 74), (3, jR 87), (4, jI i)]) rfl ?_
      cases hf
      exact J_widen (by omega) (by omega) hx
  · refine B_blk B (jlkn_ok RL) jcl_SKF [.iconst 0] (by decide +kernel) (ls' := [(0, jR jXS), (1, jR 0), (2, jR 74), (3, jR 87), (4, jI i), (5, jI r1.1), (6, jI r2.1)]) (st' := [jI 0]) rfl (p1 := 3392) rfl ?_
    cases hf

def f_case_42 (sx : Int → Int) (L i : Int) (m : jMu) : Option jMu :=
  (if 0 ≤ jW (i + 1) ∧ jW (i + 1) < L then (if 0 ≤ jW (i + 2) ∧ jW (i + 2) < L then (f_L_bolt (sx (jW (i + 1))) (sx (jW (i + 2))) m).bind fun r1 => (if 0 ≤ jW (i + 1) ∧ jW (i + 1) < L then (if 0 ≤ jW (i + 2) ∧ jW (i + 2) < L then (f_X10_bolt (sx (jW (i + 1))) (sx (jW (i + 2))) r1.2).bind fun r2 => (f_X10_thrown r2.2).bind fun r3 => (if r3 = r1.1 then (if r1.1 = 0 then (if jCm (r2.2 87 0) r2.1 = 0 then some r2.2 else none) else some r2.2) else none) else none) else none) else none) else none)
theorem t_case_42 {X : jX} {L : Int} {sx : Int → Int} (hsx : jsx (xG X) L sx) (B : jB X cL_law RL 8 0 room_1 (some .boolean)) {k n : Nat} (hk : k ≤ 8900) (hn : n ≤ 89000) {i : Int} {m o : jMu} (hf : f_case_42 sx L i m = some o) (hx : J X SKF o (k + 5) (n + 30) 3623 [(0, jR jXS), (1, jR 0), (2, jR 74), (3, jR 87), (4, jI i)] []) : J X SKF m k n 3413 [(0, jR jXS), (1, jR 0), (2, jR 74), (3, jR 87), (4, jI i)] [] := by
  unfold f_case_42 at hf
  refine B_blk B (jlkn_ok RL) jcl_SKF [.aload_n 1, .aload_n 0, .iload 4, .iconst 1, .iadd] (by decide +kernel) (ls' := [(0, jR jXS), (1, jR 0), (2, jR 74), (3, jR 87), (4, jI i)]) (st' := [jI (jW (i + 1)), jR jXS, jR 0]) rfl (p1 := 3419) rfl ?_
  obtain ⟨g7, hf⟩ := jgd hf
  refine K_xald B hsx g7 (by decide +kernel) ?_
  refine B_blk B (jlkn_ok RL) jcl_SKF [.aload_n 0, .iload 4, .iconst 2, .iadd] (by decide +kernel) (ls' := [(0, jR jXS), (1, jR 0), (2, jR 74), (3, jR 87), (4, jI i)]) (st' := [jI (jW (i + 2)), jR jXS, jI (sx (jW (i + 1))), jR 0]) rfl (p1 := 3425) rfl ?_
  obtain ⟨g6, hf⟩ := jgd hf
  refine K_xald B hsx g6 (by decide +kernel) ?_
  refine B_blk B (jlkn_ok RL) jcl_SKF [.aload_n 3] (by decide +kernel) (ls' := [(0, jR jXS), (1, jR 0), (2, jR 74), (3, jR 87), (4, jI i)]) (st' := [jR 87, jI (sx (jW (i + 2))), jI (sx (jW (i + 1))), jR 0]) rfl (p1 := 3427) rfl ?_
  obtain ⟨r1, h1, hf⟩ := jbd hf
  refine B_callH B (Nat.zero_le _) (μ' := r1.2) (k' := k + 1) (n' := n + 6) ca_L_bolt sa_L_bolt lk_L_307 (t_L_bolt B.tr h1) (Nat.le_refl _) (jRoom (K := 9000) (N := 90000) (by omega) (by omega) rfl) (rest := []) rfl rfl (Nat.le_of_ble_eq_true rfl) (by decide +kernel) rfl rfl (st' := [jI r1.1]) rfl ?_
  refine B_blk B (jlkn_ok RL) jcl_SKF [.istore 5, .aload_n 2, .aload_n 0, .iload 4, .iconst 1, .iadd] (by decide +kernel) (ls' := [(0, jR jXS), (1, jR 0), (2, jR 74), (3, jR 87), (4, jI i), (5, jI r1.1)]) (st' := [jI (jW (i + 1)), jR jXS, jR 74]) rfl (p1 := 3438) rfl ?_
  obtain ⟨g5, hf⟩ := jgd hf
  refine K_xald B hsx g5 (by decide +kernel) ?_
  refine B_blk B (jlkn_ok RL) jcl_SKF [.aload_n 0, .iload 4, .iconst 2, .iadd] (by decide +kernel) (ls' := [(0, jR jXS), (1, jR 0), (2, jR 74), (3, jR 87), (4, jI i), (5, jI r1.1)]) (st' := [jI (jW (i + 2)), jR jXS, jI (sx (jW (i + 1))), jR 74]) rfl (p1 := 3444) rfl ?_
  obtain ⟨g4, hf⟩ := jgd hf
  refine K_xald B hsx g4 (by decide +kernel) ?_
  obtain ⟨r2, h2, hf⟩ := jbd hf
  refine B_callV B (Nat.zero_le _) (μ' := r2.2) (k' := k + 1) (n' := n + 6) ca_X10_bolt in_X10_bolt se_X10_bolt lk_L_309 (t_X10_bolt B.tr h2) (Nat.le_refl _) (jRoom (K := 9000) (N := 90000) (by omega) (by omega) rfl) rfl rfl (rest := []) rfl rfl (Nat.le_of_ble_eq_true rfl) (by decide +kernel) rfl rfl (st' := [jI r2.1]) rfl ?_
  refine B_blk B (jlkn_ok RL) jcl_SKF [.istore 6, .aload_n 2] (by decide +kernel) (ls' := [(0, jR jXS), (1, jR 0), (2, jR 74), (3, jR 87), (4, jI i), (5, jI r1.1), (6, jI r2.1)]) (st' := [jR 74]) rfl (p1 := 3451) rfl ?_
  obtain ⟨r3, h3, hf⟩ := jbd hf
  refine B_callV B (Nat.zero_le _) (μ' := r2.2) (k' := k + 1) (n' := n + 6) ca_X10_thrown in_X10_thrown se_X10_thrown lk_L_174 (t_X10_thrown B.tr h3) (Nat.le_refl _) (jRoom (K := 9000) (N := 90000) (by omega) (by omega) rfl) rfl rfl (rest := []) rfl rfl (Nat.le_of_ble_eq_true rfl) (by decide +kernel) rfl rfl (st' := [jI r3]) rfl ?_
  refine B_blk B (jlkn_ok RL) jcl_SKF [.iload 5] (by decide +kernel) (ls' := [(0, jR jXS), (1, jR 0), (2, jR 74), (3, jR 87), (4, jI i), (5, jI r1.1), (6, jI r2.1)]) (st' := [jI r1.1, jI r3]) rfl (p1 := 3456) rfl ?_
  refine J_icmp_eq B.1 (off := 5) (tgt := 3461) (by decide +kernel) (by decide) hf (fun hf => ?_) (fun hf => ?_)
  · refine B_blk B (jlkn_ok RL) jcl_SKF [.iload 5] (by decide +kernel) (ls' := [(0, jR jXS), (1, jR 0), (2, jR 74), (3, jR 87), (4, jI i), (5, jI r1.1), (6, jI r2.1)]) (st' := [jI r1.1]) rfl (p1 := 3463) rfl ?_
    refine J_if_ne B.1 (off := 15) (tgt := 3478) (by decide +kernel) (by decide) hf (fun hf => ?_) (fun hf => ?_)
    · refine B_blk B (jlkn_ok RL) jcl_SKF [.aload_n 3, .iconst 0] (by decide +kernel) (ls' := [(0, jR jXS), (1, jR 0), (2, jR 74), (3, jR 87), (4, jI i), (5, jI r1.1), (6, jI r2.1)]) (st' := [jI 0, jR 87]) rfl (p1 := 3468) rfl ?_
      refine K_lald (lenI := 1) B rfl rfl (by decide) (by decide +kernel) ?_
      refine B_blk B (jlkn_ok RL) jcl_SKF [.iload 6, .i2l, .lcmp] (by decide +kernel) (ls' := [(0, jR jXS), (1, jR 0), (2, jR 74), (3, jR 87), (4, jI i), (5, jI r1.1), (6, jI r2.1)]) (st' := [jI (jCm (r2.2 87 0) r2.1)]) rfl (p1 := 3473) rfl ?_
      refine J_if_eq B.1 (off := 5) (tgt := 3478) (by decide +kernel) (by decide) hf (fun hf => ?_) (fun hf => ?_)
      · refine B_blk B (jlkn_ok RL) jcl_SKF [.goto 145] (by decide +kernel) (ls' := [(0, jR jXS), (1, jR 0), (2, jR 74), (3, jR 87), (4, jI i), (5, jI r1.1), (6, jI r2.1)]) (st' := []) rfl (p1 := 3623) rfl ?_
        refine J_pick [0, 1, 2, 3, 4] (ls' := [(0, jR jXS), (1, jR 0), (2, jR 74), (3, jR 87), (4, jI i)]) rfl ?_
        cases hf
        exact J_widen (by omega) (by omega) hx
      · refine B_blk B (jlkn_ok RL) jcl_SKF [.iconst 0] (by decide +kernel) (ls' := [(0, jR jXS), (1, jR 0), (2, jR 74), (3, jR 87), (4, jI i), (5, jI r1.1), (6, jI r2.1)]) (st' := [jI 0]) rfl (p1 := 3477) rfl ?_
        cases hf
    · refine B_blk B (jlkn_ok RL) jcl_SKF [.goto 145] (by decide +kernel) (ls' := [(0, jR jXS), (1, jR 0), (2, jR 74), (3, jR 87), (4, jI i), (5, jI r1.1), (6, jI r2.1)]) (st' := []) rfl (p1 := 3623) rfl ?_
      refine J_pick [0, 1, 2, 3, 4] (ls' := [(0, jR jXS), (1, jR 0), (2, jR 74), (3, jR 87), (4, jI i)]) rfl ?_
      cases hf
      exact J_widen (by omega) (by omega) hx
  · refine B_blk B (jlkn_ok RL) jcl_SKF [.iconst 0] (by decide +kernel) (ls' := [(0, jR jXS), (1, jR 0), (2, jR 74), (3, jR 87), (4, jI i), (5, jI r1.1), (6, jI r2.1)]) (st' := [jI 0]) rfl (p1 := 3460) rfl ?_
    cases hf

def f_case_43 (sx : Int → Int) (L i : Int) (m : jMu) : Option jMu :=
  (if 0 ≤ jW (i + 1) ∧ jW (i + 1) < L then (if 0 ≤ jW (i + 2) ∧ jW (i + 2) < L then (if 0 ≤ jW (i + 3) ∧ jW (i + 3) < L then (f_L_finds (sx (jW (i + 1))) (sx (jW (i + 2))) (sx (jW (i + 3))) m).bind fun r1 => (if 0 ≤ jW (i + 1) ∧ jW (i + 1) < L then (if 0 ≤ jW (i + 2) ∧ jW (i + 2) < L then (if 0 ≤ jW (i + 3) ∧ jW (i + 3) < L then (f_X10_finds (sx (jW (i + 1))) (sx (jW (i + 2))) (sx (jW (i + 3))) r1.2).bind fun r2 => (f_X10_thrown r2.2).bind fun r3 => (if r3 = r1.1 then (if r1.1 = 0 then (if jCm (r2.2 87 0) r2.1 = 0 then some r2.2 else none) else some r2.2) else none) else none) else none) else none) else none) else none) else none)
theorem t_case_43 {X : jX} {L : Int} {sx : Int → Int} (hsx : jsx (xG X) L sx) (B : jB X cL_law RL 8 0 room_1 (some .boolean)) {k n : Nat} (hk : k ≤ 8900) (hn : n ≤ 89000) {i : Int} {m o : jMu} (hf : f_case_43 sx L i m = some o) (hx : J X SKF o (k + 5) (n + 30) 3623 [(0, jR jXS), (1, jR 0), (2, jR 74), (3, jR 87), (4, jI i)] []) : J X SKF m k n 3481 [(0, jR jXS), (1, jR 0), (2, jR 74), (3, jR 87), (4, jI i)] [] := by
  unfold f_case_43 at hf
  refine B_blk B (jlkn_ok RL) jcl_SKF [.aload_n 1, .aload_n 0, .iload 4, .iconst 1, .iadd] (by decide +kernel) (ls' := [(0, jR jXS), (1, jR 0), (2, jR 74), (3, jR 87), (4, jI i)]) (st' := [jI (jW (i + 1)), jR jXS, jR 0]) rfl (p1 := 3487) rfl ?_
  obtain ⟨g9, hf⟩ := jgd hf
  refine K_xald B hsx g9 (by decide +kernel) ?_
  refine B_blk B (jlkn_ok RL) jcl_SKF [.aload_n 0, .iload 4, .iconst 2, .iadd] (by decide +kernel) (ls' := [(0, jR jXS), (1, jR 0), (2, jR 74), (3, jR 87), (4, jI i)]) (st' := [jI (jW (i + 2)), jR jXS, jI (sx (jW (i + 1))), jR 0]) rfl (p1 := 3493) rfl ?_
  obtain ⟨g8, hf⟩ := jgd hf
  refine K_xald B hsx g8 (by decide +kernel) ?_
  refine B_blk B (jlkn_ok RL) jcl_SKF [.aload_n 0, .iload 4, .iconst 3, .iadd] (by decide +kernel) (ls' := [(0, jR jXS), (1, jR 0), (2, jR 74), (3, jR 87), (4, jI i)]) (st' := [jI (jW (i + 3)), jR jXS, jI (sx (jW (i + 2))), jI (sx (jW (i + 1))), jR 0]) rfl (p1 := 3499) rfl ?_
  obtain ⟨g7, hf⟩ := jgd hf
  refine K_xald B hsx g7 (by decide +kernel) ?_
  refine B_blk B (jlkn_ok RL) jcl_SKF [.aload_n 3] (by decide +kernel) (ls' := [(0, jR jXS), (1, jR 0), (2, jR 74), (3, jR 87), (4, jI i)]) (st' := [jR 87, jI (sx (jW (i + 3))), jI (sx (jW (i + 2))), jI (sx (jW (i + 1))), jR 0]) rfl (p1 := 3501) rfl ?_
  obtain ⟨r1, h1, hf⟩ := jbd hf
  refine B_callH B (Nat.zero_le _) (μ' := r1.2) (k' := k + 3) (n' := n + 18) ca_L_finds sa_L_finds lk_L_310 (t_L_finds B.tr h1) (Nat.le_refl _) (jRoom (K := 9000) (N := 90000) (by omega) (by omega) rfl) (rest := []) rfl rfl (Nat.le_of_ble_eq_true rfl) (by decide +kernel) rfl rfl (st' := [jI r1.1]) rfl ?_
  refine B_blk B (jlkn_ok RL) jcl_SKF [.istore 5, .aload_n 2, .aload_n 0, .iload 4, .iconst 1, .iadd] (by decide +kernel) (ls' := [(0, jR jXS), (1, jR 0), (2, jR 74), (3, jR 87), (4, jI i), (5, jI r1.1)]) (st' := [jI (jW (i + 1)), jR jXS, jR 74]) rfl (p1 := 3512) rfl ?_
  obtain ⟨g6, hf⟩ := jgd hf
  refine K_xald B hsx g6 (by decide +kernel) ?_
  refine B_blk B (jlkn_ok RL) jcl_SKF [.aload_n 0, .iload 4, .iconst 2, .iadd] (by decide +kernel) (ls' := [(0, jR jXS), (1, jR 0), (2, jR 74), (3, jR 87), (4, jI i), (5, jI r1.1)]) (st' := [jI (jW (i + 2)), jR jXS, jI (sx (jW (i + 1))), jR 74]) rfl (p1 := 3518) rfl ?_
  obtain ⟨g5, hf⟩ := jgd hf
  refine K_xald B hsx g5 (by decide +kernel) ?_
  refine B_blk B (jlkn_ok RL) jcl_SKF [.aload_n 0, .iload 4, .iconst 3, .iadd] (by decide +kernel) (ls' := [(0, jR jXS), (1, jR 0), (2, jR 74), (3, jR 87), (4, jI i), (5, jI r1.1)]) (st' := [jI (jW (i + 3)), jR jXS, jI (sx (jW (i + 2))), jI (sx (jW (i + 1))), jR 74]) rfl (p1 := 3524) rfl ?_
  obtain ⟨g4, hf⟩ := jgd hf
  refine K_xald B hsx g4 (by decide +kernel) ?_
  obtain ⟨r2, h2, hf⟩ := jbd hf
  refine B_callV B (Nat.zero_le _) (μ' := r2.2) (k' := k + 3) (n' := n + 18) ca_X10_finds in_X10_finds se_X10_finds lk_L_312 (t_X10_finds B.tr h2) (Nat.le_refl _) (jRoom (K := 9000) (N := 90000) (by omega) (by omega) rfl) rfl rfl (rest := []) rfl rfl (Nat.le_of_ble_eq_true rfl) (by decide +kernel) rfl rfl (st' := [jI r2.1]) rfl ?_
  refine B_blk B (jlkn_ok RL) jcl_SKF [.istore 6, .aload_n 2] (by decide +kernel) (ls' := [(0, jR jXS), (1, jR 0), (2, jR 74), (3, jR 87), (4, jI i), (5, jI r1.1), (6, jI r2.1)]) (st' := [jR 74]) rfl (p1 := 3531) rfl ?_
  obtain ⟨r3, h3, hf⟩ := jbd hf
  refine B_callV B (Nat.zero_le _) (μ' := r2.2) (k' := k + 3) (n' := n + 18) ca_X10_thrown in_X10_thrown se_X10_thrown lk_L_174 (t_X10_thrown B.tr h3) (Nat.le_refl _) (jRoom (K := 9000) (N := 90000) (by omega) (by omega) rfl) rfl rfl (rest := []) rfl rfl (Nat.le_of_ble_eq_true rfl) (by decide +kernel) rfl rfl (st' := [jI r3]) rfl ?_
  refine B_blk B (jlkn_ok RL) jcl_SKF [.iload 5] (by decide +kernel) (ls' := [(0, jR jXS), (1, jR 0), (2, jR 74), (3, jR 87), (4, jI i), (5, jI r1.1), (6, jI r2.1)]) (st' := [jI r1.1, jI r3]) rfl (p1 := 3536) rfl ?_
  refine J_icmp_eq B.1 (off := 5) (tgt := 3541) (by decide +kernel) (by decide) hf (fun hf => ?_) (fun hf => ?_)
  · refine B_blk B (jlkn_ok RL) jcl_SKF [.iload 5] (by decide +kernel) (ls' := [(0, jR jXS), (1, jR 0), (2, jR 74), (3, jR 87), (4, jI i), (5, jI r1.1), (6, jI r2.1)]) (st' := [jI r1.1]) rfl (p1 := 3543) rfl ?_
    refine J_if_ne B.1 (off := 15) (tgt := 3558) (by decide +kernel) (by decide) hf (fun hf => ?_) (fun hf => ?_)
    · refine B_blk B (jlkn_ok RL) jcl_SKF [.aload_n 3, .iconst 0] (by decide +kernel) (ls' := [(0, jR jXS), (1, jR 0), (2, jR 74), (3, jR 87), (4, jI i), (5, jI r1.1), (6, jI r2.1)]) (st' := [jI 0, jR 87]) rfl (p1 := 3548) rfl ?_
      refine K_lald (lenI := 1) B rfl rfl (by decide) (by decide +kernel) ?_
      refine B_blk B (jlkn_ok RL) jcl_SKF [.iload 6, .i2l, .lcmp] (by decide +kernel) (ls' := [(0, jR jXS), (1, jR 0), (2, jR 74), (3, jR 87), (4, jI i), (5, jI r1.1), (6, jI r2.1)]) (st' := [jI (jCm (r2.2 87 0) r2.1)]) rfl (p1 := 3553) rfl ?_
      refine J_if_eq B.1 (off := 5) (tgt := 3558) (by decide +kernel) (by decide) hf (fun hf => ?_) (fun hf => ?_)
      · refine B_blk B (jlkn_ok RL) jcl_SKF [.goto 65] (by decide +kernel) (ls' := [(0, jR jXS), (1, jR 0), (2, jR 74), (3, jR 87), (4, jI i), (5, jI r1.1), (6, jI r2.1)]) (st' := []) rfl (p1 := 3623) rfl ?_
        refine J_pick [0, 1, 2, 3, 4] (ls' := [(0, jR jXS), (1, jR 0), (2, jR 74), (3, jR 87), (4, jI i)]) rfl ?_
        cases hf
        exact J_widen (by omega) (by omega) hx
      · refine B_blk B (jlkn_ok RL) jcl_SKF [.iconst 0] (by decide +kernel) (ls' := [(0, jR jXS), (1, jR 0), (2, jR 74), (3, jR 87), (4, jI i), (5, jI r1.1), (6, jI r2.1)]) (st' := [jI 0]) rfl (p1 := 3557) rfl ?_
        cases hf
    · refine B_blk B (jlkn_ok RL) jcl_SKF [.goto 65] (by decide +kernel) (ls' := [(0, jR jXS), (1, jR 0), (2, jR 74), (3, jR 87), (4, jI i), (5, jI r1.1), (6, jI r2.1)]) (st' := []) rfl (p1 := 3623) rfl ?_
      refine J_pick [0, 1, 2, 3, 4] (ls' := [(0, jR jXS), (1, jR 0), (2, jR 74), (3, jR 87), (4, jI i)]) rfl ?_
      cases hf
      exact J_widen (by omega) (by omega) hx
  · refine B_blk B (jlkn_ok RL) jcl_SKF [.iconst 0] (by decide +kernel) (ls' := [(0, jR jXS), (1, jR 0), (2, jR 74), (3, jR 87), (4, jI i), (5, jI r1.1), (6, jI r2.1)]) (st' := [jI 0]) rfl (p1 := 3540) rfl ?_
    cases hf

def f_case_44 (sx : Int → Int) (L i : Int) (m : jMu) : Option jMu :=
  (f_X9_thick m).bind fun r1 => (f_X10_thick m).bind fun r2 => (if r1 = r2.1 then some r2.2 else none)
theorem t_case_44 {X : jX} {L : Int} {sx : Int → Int} (hsx : jsx (xG X) L sx) (B : jB X cL_law RL 8 0 room_1 (some .boolean)) {k n : Nat} (hk : k ≤ 8900) (hn : n ≤ 89000) {i : Int} {m o : jMu} (hf : f_case_44 sx L i m = some o) (hx : J X SKF o (k + 5) (n + 30) 3623 [(0, jR jXS), (1, jR 0), (2, jR 74), (3, jR 87), (4, jI i)] []) : J X SKF m k n 3561 [(0, jR jXS), (1, jR 0), (2, jR 74), (3, jR 87), (4, jI i)] [] := by
  unfold f_case_44 at hf
  refine B_blk B (jlkn_ok RL) jcl_SKF [.aload_n 1] (by decide +kernel) (ls' := [(0, jR jXS), (1, jR 0), (2, jR 74), (3, jR 87), (4, jI i)]) (st' := [jR 0]) rfl (p1 := 3562) rfl ?_
  obtain ⟨r1, h1, hf⟩ := jbd hf
  refine B_callV B (Nat.zero_le _) (μ' := m) (k' := k) (n' := n) ca_X9_thick in_X9_thick se_X9_thick lk_L_313 (t_X9_thick B.tr h1) (Nat.le_refl _) (jRoom (K := 9000) (N := 90000) (by omega) (by omega) rfl) rfl rfl (rest := []) rfl rfl (Nat.le_of_ble_eq_true rfl) (by decide +kernel) rfl rfl (st' := [jI r1]) rfl ?_
  refine B_blk B (jlkn_ok RL) jcl_SKF [.aload_n 2] (by decide +kernel) (ls' := [(0, jR jXS), (1, jR 0), (2, jR 74), (3, jR 87), (4, jI i)]) (st' := [jR 74, jI r1]) rfl (p1 := 3566) rfl ?_
  obtain ⟨r2, h2, hf⟩ := jbd hf
  refine B_callV B (Nat.zero_le _) (μ' := r2.2) (k' := k) (n' := n) ca_X10_thick in_X10_thick se_X10_thick lk_L_316 (t_X10_thick B.tr h2) (Nat.le_refl _) (jRoom (K := 9000) (N := 90000) (by omega) (by omega) rfl) rfl rfl (rest := [jI r1]) rfl rfl (Nat.le_of_ble_eq_true rfl) (by decide +kernel) rfl rfl (st' := [jI r2.1, jI r1]) rfl ?_
  refine J_icmp_eq B.1 (off := 54) (tgt := 3623) (by decide +kernel) (by decide) hf (fun hf => ?_) (fun hf => ?_)
  · cases hf
    exact J_widen (by omega) (by omega) hx
  · refine B_blk B (jlkn_ok RL) jcl_SKF [.iconst 0] (by decide +kernel) (ls' := [(0, jR jXS), (1, jR 0), (2, jR 74), (3, jR 87), (4, jI i)]) (st' := [jI 0]) rfl (p1 := 3573) rfl ?_
    cases hf

def f_case_45 (sx : Int → Int) (L i : Int) (m : jMu) : Option jMu :=
  (f_X9_image m).bind fun r1 => (f_X10_image r1).bind fun r2 => some r2
theorem t_case_45 {X : jX} {L : Int} {sx : Int → Int} (hsx : jsx (xG X) L sx) (B : jB X cL_law RL 8 0 room_1 (some .boolean)) {k n : Nat} (hk : k ≤ 8900) (hn : n ≤ 89000) {i : Int} {m o : jMu} (hf : f_case_45 sx L i m = some o) (hx : J X SKF o (k + 5) (n + 30) 3623 [(0, jR jXS), (1, jR 0), (2, jR 74), (3, jR 87), (4, jI i)] []) : J X SKF m k n 3574 [(0, jR jXS), (1, jR 0), (2, jR 74), (3, jR 87), (4, jI i)] [] := by
  unfold f_case_45 at hf
  refine B_blk B (jlkn_ok RL) jcl_SKF [.aload_n 1] (by decide +kernel) (ls' := [(0, jR jXS), (1, jR 0), (2, jR 74), (3, jR 87), (4, jI i)]) (st' := [jR 0]) rfl (p1 := 3575) rfl ?_
  obtain ⟨r1, h1, hf⟩ := jbd hf
  refine B_callV B (Nat.zero_le _) (μ' := r1) (k' := k) (n' := n) ca_X9_image in_X9_image se_X9_image lk_L_317 (t_X9_image B.tr h1) (Nat.le_refl _) (jRoom (K := 9000) (N := 90000) (by omega) (by omega) rfl) rfl rfl (rest := []) rfl rfl (Nat.le_of_ble_eq_true rfl) (by decide +kernel) rfl rfl (st' := []) rfl ?_
  refine B_blk B (jlkn_ok RL) jcl_SKF [.aload_n 2] (by decide +kernel) (ls' := [(0, jR jXS), (1, jR 0), (2, jR 74), (3, jR 87), (4, jI i)]) (st' := [jR 74]) rfl (p1 := 3579) rfl ?_
  obtain ⟨r2, h2, hf⟩ := jbd hf
  refine B_callV B (Nat.zero_le _) (μ' := r2) (k' := k) (n' := n) ca_X10_image in_X10_image se_X10_image lk_L_320 (t_X10_image B.tr h2) (Nat.le_refl _) (jRoom (K := 9000) (N := 90000) (by omega) (by omega) rfl) rfl rfl (rest := []) rfl rfl (Nat.le_of_ble_eq_true rfl) (by decide +kernel) rfl rfl (st' := []) rfl ?_
  refine B_blk B (jlkn_ok RL) jcl_SKF [.goto 41] (by decide +kernel) (ls' := [(0, jR jXS), (1, jR 0), (2, jR 74), (3, jR 87), (4, jI i)]) (st' := []) rfl (p1 := 3623) rfl ?_
  cases hf
  exact J_widen (by omega) (by omega) hx

def f_case_46 (sx : Int → Int) (L i : Int) (m : jMu) : Option jMu :=
  (f_X9_back m).bind fun r1 => (f_X10_back r1.2).bind fun r2 => (if r1.1 = r2.1 then some r2.2 else none)
theorem t_case_46 {X : jX} {L : Int} {sx : Int → Int} (hsx : jsx (xG X) L sx) (B : jB X cL_law RL 8 0 room_1 (some .boolean)) {k n : Nat} (hk : k ≤ 8900) (hn : n ≤ 89000) {i : Int} {m o : jMu} (hf : f_case_46 sx L i m = some o) (hx : J X SKF o (k + 5) (n + 30) 3623 [(0, jR jXS), (1, jR 0), (2, jR 74), (3, jR 87), (4, jI i)] []) : J X SKF m k n 3585 [(0, jR jXS), (1, jR 0), (2, jR 74), (3, jR 87), (4, jI i)] [] := by
  unfold f_case_46 at hf
  refine B_blk B (jlkn_ok RL) jcl_SKF [.aload_n 1] (by decide +kernel) (ls' := [(0, jR jXS), (1, jR 0), (2, jR 74), (3, jR 87), (4, jI i)]) (st' := [jR 0]) rfl (p1 := 3586) rfl ?_
  obtain ⟨r1, h1, hf⟩ := jbd hf
  refine B_callV B (Nat.zero_le _) (μ' := r1.2) (k' := k) (n' := n) ca_X9_back in_X9_back se_X9_back lk_L_321 (t_X9_back B.tr h1) (Nat.le_refl _) (jRoom (K := 9000) (N := 90000) (by omega) (by omega) rfl) rfl rfl (rest := []) rfl rfl (Nat.le_of_ble_eq_true rfl) (by decide +kernel) rfl rfl (st' := [jI r1.1]) rfl ?_
  refine B_blk B (jlkn_ok RL) jcl_SKF [.aload_n 2] (by decide +kernel) (ls' := [(0, jR jXS), (1, jR 0), (2, jR 74), (3, jR 87), (4, jI i)]) (st' := [jR 74, jI r1.1]) rfl (p1 := 3590) rfl ?_
  obtain ⟨r2, h2, hf⟩ := jbd hf
  refine B_callV B (Nat.zero_le _) (μ' := r2.2) (k' := k) (n' := n) ca_X10_back in_X10_back se_X10_back lk_L_325 (t_X10_back B.tr h2) (Nat.le_refl _) (jRoom (K := 9000) (N := 90000) (by omega) (by omega) rfl) rfl rfl (rest := [jI r1.1]) rfl rfl (Nat.le_of_ble_eq_true rfl) (by decide +kernel) rfl rfl (st' := [jI r2.1, jI r1.1]) rfl ?_
  refine J_icmp_eq B.1 (off := 30) (tgt := 3623) (by decide +kernel) (by decide) hf (fun hf => ?_) (fun hf => ?_)
  · cases hf
    exact J_widen (by omega) (by omega) hx
  · refine B_blk B (jlkn_ok RL) jcl_SKF [.iconst 0] (by decide +kernel) (ls' := [(0, jR jXS), (1, jR 0), (2, jR 74), (3, jR 87), (4, jI i)]) (st' := [jI 0]) rfl (p1 := 3597) rfl ?_
    cases hf

def f_case_47 (sx : Int → Int) (L i : Int) (m : jMu) : Option jMu :=
  (if 0 ≤ jW (i + 1) ∧ jW (i + 1) < L then (f_X9_count (sx (jW (i + 1))) m).bind fun r1 => (if 0 ≤ jW (i + 1) ∧ jW (i + 1) < L then (f_X10_count (sx (jW (i + 1))) m).bind fun r2 => (if r1 = r2.1 then some r2.2 else none) else none) else none)
theorem t_case_47 {X : jX} {L : Int} {sx : Int → Int} (hsx : jsx (xG X) L sx) (B : jB X cL_law RL 8 0 room_1 (some .boolean)) {k n : Nat} (hk : k ≤ 8900) (hn : n ≤ 89000) {i : Int} {m o : jMu} (hf : f_case_47 sx L i m = some o) (hx : J X SKF o (k + 5) (n + 30) 3623 [(0, jR jXS), (1, jR 0), (2, jR 74), (3, jR 87), (4, jI i)] []) : J X SKF m k n 3598 [(0, jR jXS), (1, jR 0), (2, jR 74), (3, jR 87), (4, jI i)] [] := by
  unfold f_case_47 at hf
  refine B_blk B (jlkn_ok RL) jcl_SKF [.aload_n 1, .aload_n 0, .iload 4, .iconst 1, .iadd] (by decide +kernel) (ls' := [(0, jR jXS), (1, jR 0), (2, jR 74), (3, jR 87), (4, jI i)]) (st' := [jI (jW (i + 1)), jR jXS, jR 0]) rfl (p1 := 3604) rfl ?_
  obtain ⟨g4, hf⟩ := jgd hf
  refine K_xald B hsx g4 (by decide +kernel) ?_
  obtain ⟨r1, h1, hf⟩ := jbd hf
  refine B_callV B (Nat.zero_le _) (μ' := m) (k' := k) (n' := n) ca_X9_count in_X9_count se_X9_count lk_L_326 (t_X9_count B.tr h1) (Nat.le_refl _) (jRoom (K := 9000) (N := 90000) (by omega) (by omega) rfl) rfl rfl (rest := []) rfl rfl (Nat.le_of_ble_eq_true rfl) (by decide +kernel) rfl rfl (st' := [jI r1]) rfl ?_
  refine B_blk B (jlkn_ok RL) jcl_SKF [.aload_n 2, .aload_n 0, .iload 4, .iconst 1, .iadd] (by decide +kernel) (ls' := [(0, jR jXS), (1, jR 0), (2, jR 74), (3, jR 87), (4, jI i)]) (st' := [jI (jW (i + 1)), jR jXS, jR 74, jI r1]) rfl (p1 := 3614) rfl ?_
  obtain ⟨g3, hf⟩ := jgd hf
  refine K_xald B hsx g3 (by decide +kernel) ?_
  obtain ⟨r2, h2, hf⟩ := jbd hf
  refine B_callV B (Nat.zero_le _) (μ' := r2.2) (k' := k) (n' := n) ca_X10_count in_X10_count se_X10_count lk_L_329 (t_X10_count B.tr h2) (Nat.le_refl _) (jRoom (K := 9000) (N := 90000) (by omega) (by omega) rfl) rfl rfl (rest := [jI r1]) rfl rfl (Nat.le_of_ble_eq_true rfl) (by decide +kernel) rfl rfl (st' := [jI r2.1, jI r1]) rfl ?_
  refine J_icmp_eq B.1 (off := 5) (tgt := 3623) (by decide +kernel) (by decide) hf (fun hf => ?_) (fun hf => ?_)
  · cases hf
    exact J_widen (by omega) (by omega) hx
  · refine B_blk B (jlkn_ok RL) jcl_SKF [.iconst 0] (by decide +kernel) (ls' := [(0, jR jXS), (1, jR 0), (2, jR 74), (3, jR 87), (4, jI i)]) (st' := [jI 0]) rfl (p1 := 3622) rfl ?_
    cases hf

theorem law_out {x : Int} (c0 : ¬ x = 0) (c1 : ¬ x = 1) (c2 : ¬ x = 2) (c3 : ¬ x = 3) (c4 : ¬ x = 4) (c5 : ¬ x = 5) (c6 : ¬ x = 6) (c7 : ¬ x = 7) (c8 : ¬ x = 8) (c9 : ¬ x = 9) (c10 : ¬ x = 10) (c11 : ¬ x = 11) (c12 : ¬ x = 12) (c13 : ¬ x = 13) (c14 : ¬ x = 14) (c15 : ¬ x = 15) (c16 : ¬ x = 16) (c17 : ¬ x = 17) (c18 : ¬ x = 18) (c19 : ¬ x = 19) (c20 : ¬ x = 20) (c21 : ¬ x = 21) (c22 : ¬ x = 22) (c23 : ¬ x = 23) (c24 : ¬ x = 24) (c25 : ¬ x = 25) (c26 : ¬ x = 26) (c27 : ¬ x = 27) (c28 : ¬ x = 28) (c29 : ¬ x = 29) (c30 : ¬ x = 30) (c31 : ¬ x = 31) (c32 : ¬ x = 32) (c33 : ¬ x = 33) (c34 : ¬ x = 34) (c35 : ¬ x = 35) (c36 : ¬ x = 36) (c37 : ¬ x = 37) (c38 : ¬ x = 38) (c39 : ¬ x = 39) (c40 : ¬ x = 40) (c41 : ¬ x = 41) (c42 : ¬ x = 42) (c43 : ¬ x = 43) (c44 : ¬ x = 44) (c45 : ¬ x = 45) (c46 : ¬ x = 46) (c47 : ¬ x = 47) : x < 0 ∨ 47 < x := by omega
def f_law_step (sx : Int → Int) (L i : Int) (m : jMu) : Option jMu :=
  if 0 ≤ i ∧ i < L then (if jAn (sx i) 63 = 0 then f_case_0 sx L i m else if jAn (sx i) 63 = 1 then f_case_1 sx L i m else if jAn (sx i) 63 = 2 then f_case_2 sx L i m else if jAn (sx i) 63 = 3 then f_case_3 sx L i m else if jAn (sx i) 63 = 4 then f_case_4 sx L i m else if jAn (sx i) 63 = 5 then f_case_5 sx L i m else if jAn (sx i) 63 = 6 then f_case_6 sx L i m else if jAn (sx i) 63 = 7 then f_case_7 sx L i m else if jAn (sx i) 63 = 8 then f_case_8 sx L i m else if jAn (sx i) 63 = 9 then f_case_9 sx L i m else if jAn (sx i) 63 = 10 then f_case_10 sx L i m else if jAn (sx i) 63 = 11 then f_case_11 sx L i m else if jAn (sx i) 63 = 12 then f_case_12 sx L i m else if jAn (sx i) 63 = 13 then f_case_13 sx L i m else if jAn (sx i) 63 = 14 then f_case_14 sx L i m else if jAn (sx i) 63 = 15 then f_case_15 sx L i m else if jAn (sx i) 63 = 16 then f_case_16 sx L i m else if jAn (sx i) 63 = 17 then f_case_17 sx L i m else if jAn (sx i) 63 = 18 then f_case_18 sx L i m else if jAn (sx i) 63 = 19 then f_case_19 sx L i m else if jAn (sx i) 63 = 20 then f_case_20 sx L i m else if jAn (sx i) 63 = 21 then f_case_21 sx L i m else if jAn (sx i) 63 = 22 then f_case_22 sx L i m else if jAn (sx i) 63 = 23 then f_case_23 sx L i m else if jAn (sx i) 63 = 24 then f_case_24 sx L i m else if jAn (sx i) 63 = 25 then f_case_25 sx L i m else if jAn (sx i) 63 = 26 then f_case_26 sx L i m else if jAn (sx i) 63 = 27 then f_case_27 sx L i m else if jAn (sx i) 63 = 28 then f_case_28 sx L i m else if jAn (sx i) 63 = 29 then f_case_29 sx L i m else if jAn (sx i) 63 = 30 then f_case_30 sx L i m else if jAn (sx i) 63 = 31 then f_case_31 sx L i m else if jAn (sx i) 63 = 32 then f_case_32 sx L i m else if jAn (sx i) 63 = 33 then f_case_33 sx L i m else if jAn (sx i) 63 = 34 then f_case_34 sx L i m else if jAn (sx i) 63 = 35 then f_case_35 sx L i m else if jAn (sx i) 63 = 36 then f_case_36 sx L i m else if jAn (sx i) 63 = 37 then f_case_37 sx L i m else if jAn (sx i) 63 = 38 then f_case_38 sx L i m else if jAn (sx i) 63 = 39 then f_case_39 sx L i m else if jAn (sx i) 63 = 40 then f_case_40 sx L i m else if jAn (sx i) 63 = 41 then f_case_41 sx L i m else if jAn (sx i) 63 = 42 then f_case_42 sx L i m else if jAn (sx i) 63 = 43 then f_case_43 sx L i m else if jAn (sx i) 63 = 44 then f_case_44 sx L i m else if jAn (sx i) 63 = 45 then f_case_45 sx L i m else if jAn (sx i) 63 = 46 then f_case_46 sx L i m else if jAn (sx i) 63 = 47 then f_case_47 sx L i m else some m) else none
def f_law_L (sx : Int → Int) (L : Int) : Nat → Int → jMu → Option Unit
  | 0, _, _ => none
  | q + 1, i, m => if jW (L - 7) < i then some () else (f_law_step sx L i m).bind fun o => f_law_L sx L q (jW (i + 7)) o
theorem t_law_step {X : jX} {L : Int} {sx : Int → Int} (hsx : jsx (xG X) L sx) (B : jB X cL_law RL 8 0 room_1 (some .boolean)) {k n : Nat} (hk : k ≤ 8900) (hn : n ≤ 89000) {i : Int} {m o : jMu} (hf : f_law_step sx L i m = some o) (hx : J X SKF o (k + 5) (n + 30) 3623 [(0, jR jXS), (1, jR 0), (2, jR 74), (3, jR 87), (4, jI i)] []) : J X SKF m k n 33 [(0, jR jXS), (1, jR 0), (2, jR 74), (3, jR 87), (4, jI i)] [] := by
  unfold f_law_step at hf
  obtain ⟨g, hf⟩ := jgd hf
  refine B_blk B (jlkn_ok RL) jcl_SKF [.aload_n 0, .iload 4] (by decide +kernel) (ls' := [(0, jR jXS), (1, jR 0), (2, jR 74), (3, jR 87), (4, jI i)]) (st' := [jI i, jR jXS]) rfl (p1 := 36) rfl ?_
  refine K_xald B hsx g (by decide +kernel) ?_
  refine B_blk B (jlkn_ok RL) jcl_SKF [.bipush 63, .iand] (by decide +kernel) (ls' := [(0, jR jXS), (1, jR 0), (2, jR 74), (3, jR 87), (4, jI i)]) (st' := [jI (jAn (sx i) 63)]) rfl (p1 := 40) rfl ?_
  rcases jite hf with ⟨c0, hf⟩ | ⟨c0, hf⟩
  · exact K_tswI B (off := 208) (tgt := 248) c0 (dflt := 3583) (lo := 0) (hi := 47) (offs := #[208, 281, 306, 362, 454, 572, 608, 704, 784, 828, 841, 933, 1037, 1141, 1197, 1277, 1369, 1444, 1548, 1616, 1679, 1742, 1822, 1918, 1974, 2054, 2146, 2206, 2286, 2394, 2474, 2578, 2670, 2730, 2802, 2870, 2949, 3041, 3097, 3193, 3249, 3305, 3373, 3441, 3521, 3534, 3545, 3558]) (len := 208) (by decide +kernel) (by decide) (by decide) rfl (by decide) (t_case_0 hsx B hk hn hf hx)
  rcases jite hf with ⟨c1, hf⟩ | ⟨c1, hf⟩
  · exact K_tswI B (off := 281) (tgt := 321) c1 (dflt := 3583) (lo := 0) (hi := 47) (offs := #[208, 281, 306, 362, 454, 572, 608, 704, 784, 828, 841, 933, 1037, 1141, 1197, 1277, 1369, 1444, 1548, 1616, 1679, 1742, 1822, 1918, 1974, 2054, 2146, 2206, 2286, 2394, 2474, 2578, 2670, 2730, 2802, 2870, 2949, 3041, 3097, 3193, 3249, 3305, 3373, 3441, 3521, 3534, 3545, 3558]) (len := 208) (by decide +kernel) (by decide) (by decide) rfl (by decide) (t_case_1 hsx B hk hn hf hx)
  rcases jite hf with ⟨c2, hf⟩ | ⟨c2, hf⟩
  · exact K_tswI B (off := 306) (tgt := 346) c2 (dflt := 3583) (lo := 0) (hi := 47) (offs := #[208, 281, 306, 362, 454, 572, 608, 704, 784, 828, 841, 933, 1037, 1141, 1197, 1277, 1369, 1444, 1548, 1616, 1679, 1742, 1822, 1918, 1974, 2054, 2146, 2206, 2286, 2394, 2474, 2578, 2670, 2730, 2802, 2870, 2949, 3041, 3097, 3193, 3249, 3305, 3373, 3441, 3521, 3534, 3545, 3558]) (len := 208) (by decide +kernel) (by decide) (by decide) rfl (by decide) (t_case_2 hsx B hk hn hf hx)
  rcases jite hf with ⟨c3, hf⟩ | ⟨c3, hf⟩
  · exact K_tswI B (off := 362) (tgt := 402) c3 (dflt := 3583) (lo := 0) (hi := 47) (offs := #[208, 281, 306, 362, 454, 572, 608, 704, 784, 828, 841, 933, 1037, 1141, 1197, 1277, 1369, 1444, 1548, 1616, 1679, 1742, 1822, 1918, 1974, 2054, 2146, 2206, 2286, 2394, 2474, 2578, 2670, 2730, 2802, 2870, 2949, 3041, 3097, 3193, 3249, 3305, 3373, 3441, 3521, 3534, 3545, 3558]) (len := 208) (by decide +kernel) (by decide) (by decide) rfl (by decide) (t_case_3 hsx B hk hn hf hx)
  rcases jite hf with ⟨c4, hf⟩ | ⟨c4, hf⟩
  · exact K_tswI B (off := 454) (tgt := 494) c4 (dflt := 3583) (lo := 0) (hi := 47) (offs := #[208, 281, 306, 362, 454, 572, 608, 704, 784, 828, 841, 933, 1037, 1141, 1197, 1277, 1369, 1444, 1548, 1616, 1679, 1742, 1822, 1918, 1974, 2054, 2146, 2206, 2286, 2394, 2474, 2578, 2670, 2730, 2802, 2870, 2949, 3041, 3097, 3193, 3249, 3305, 3373, 3441, 3521, 3534, 3545, 3558]) (len := 208) (by decide +kernel) (by decide) (by decide) rfl (by decide) (t_case_4 hsx B hk hn hf hx)
  rcases jite hf with ⟨c5, hf⟩ | ⟨c5, hf⟩
  · exact K_tswI B (off := 572) (tgt := 612) c5 (dflt := 3583) (lo := 0) (hi := 47) (offs := #[208, 281, 306, 362, 454, 572, 608, 704, 784, 828, 841, 933, 1037, 1141, 1197, 1277, 1369, 1444, 1548, 1616, 1679, 1742, 1822, 1918, 1974, 2054, 2146, 2206, 2286, 2394, 2474, 2578, 2670, 2730, 2802, 2870, 2949, 3041, 3097, 3193, 3249, 3305, 3373, 3441, 3521, 3534, 3545, 3558]) (len := 208) (by decide +kernel) (by decide) (by decide) rfl (by decide) (t_case_5 hsx B hk hn hf hx)
  rcases jite hf with ⟨c6, hf⟩ | ⟨c6, hf⟩
  · exact K_tswI B (off := 608) (tgt := 648) c6 (dflt := 3583) (lo := 0) (hi := 47) (offs := #[208, 281, 306, 362, 454, 572, 608, 704, 784, 828, 841, 933, 1037, 1141, 1197, 1277, 1369, 1444, 1548, 1616, 1679, 1742, 1822, 1918, 1974, 2054, 2146, 2206, 2286, 2394, 2474, 2578, 2670, 2730, 2802, 2870, 2949, 3041, 3097, 3193, 3249, 3305, 3373, 3441, 3521, 3534, 3545, 3558]) (len := 208) (by decide +kernel) (by decide) (by decide) rfl (by decide) (t_case_6 hsx B hk hn hf hx)
  rcases jite hf with ⟨c7, hf⟩ | ⟨c7, hf⟩
  · exact K_tswI B (off := 704) (tgt := 744) c7 (dflt := 3583) (lo := 0) (hi := 47) (offs := #[208, 281, 306, 362, 454, 572, 608, 704, 784, 828, 841, 933, 1037, 1141, 1197, 1277, 1369, 1444, 1548, 1616, 1679, 1742, 1822, 1918, 1974, 2054, 2146, 2206, 2286, 2394, 2474, 2578, 2670, 2730, 2802, 2870, 2949, 3041, 3097, 3193, 3249, 3305, 3373, 3441, 3521, 3534, 3545, 3558]) (len := 208) (by decide +kernel) (by decide) (by decide) rfl (by decide) (t_case_7 hsx B hk hn hf hx)
  rcases jite hf with ⟨c8, hf⟩ | ⟨c8, hf⟩
  · exact K_tswI B (off := 784) (tgt := 824) c8 (dflt := 3583) (lo := 0) (hi := 47) (offs := #[208, 281, 306, 362, 454, 572, 608, 704, 784, 828, 841, 933, 1037, 1141, 1197, 1277, 1369, 1444, 1548, 1616, 1679, 1742, 1822, 1918, 1974, 2054, 2146, 2206, 2286, 2394, 2474, 2578, 2670, 2730, 2802, 2870, 2949, 3041, 3097, 3193, 3249, 3305, 3373, 3441, 3521, 3534, 3545, 3558]) (len := 208) (by decide +kernel) (by decide) (by decide) rfl (by decide) (t_case_8 hsx B hk hn hf hx)
  rcases jite hf with ⟨c9, hf⟩ | ⟨c9, hf⟩
  · exact K_tswI B (off := 828) (tgt := 868) c9 (dflt := 3583) (lo := 0) (hi := 47) (offs := #[208, 281, 306, 362, 454, 572, 608, 704, 784, 828, 841, 933, 1037, 1141, 1197, 1277, 1369, 1444, 1548, 1616, 1679, 1742, 1822, 1918, 1974, 2054, 2146, 2206, 2286, 2394, 2474, 2578, 2670, 2730, 2802, 2870, 2949, 3041, 3097, 3193, 3249, 3305, 3373, 3441, 3521, 3534, 3545, 3558]) (len := 208) (by decide +kernel) (by decide) (by decide) rfl (by decide) (t_case_9 hsx B hk hn hf hx)
  rcases jite hf with ⟨c10, hf⟩ | ⟨c10, hf⟩
  · exact K_tswI B (off := 841) (tgt := 881) c10 (dflt := 3583) (lo := 0) (hi := 47) (offs := #[208, 281, 306, 362, 454, 572, 608, 704, 784, 828, 841, 933, 1037, 1141, 1197, 1277, 1369, 1444, 1548, 1616, 1679, 1742, 1822, 1918, 1974, 2054, 2146, 2206, 2286, 2394, 2474, 2578, 2670, 2730, 2802, 2870, 2949, 3041, 3097, 3193, 3249, 3305, 3373, 3441, 3521, 3534, 3545, 3558]) (len := 208) (by decide +kernel) (by decide) (by decide) rfl (by decide) (t_case_10 hsx B hk hn hf hx)
  rcases jite hf with ⟨c11, hf⟩ | ⟨c11, hf⟩
  · exact K_tswI B (off := 933) (tgt := 973) c11 (dflt := 3583) (lo := 0) (hi := 47) (offs := #[208, 281, 306, 362, 454, 572, 608, 704, 784, 828, 841, 933, 1037, 1141, 1197, 1277, 1369, 1444, 1548, 1616, 1679, 1742, 1822, 1918, 1974, 2054, 2146, 2206, 2286, 2394, 2474, 2578, 2670, 2730, 2802, 2870, 2949, 3041, 3097, 3193, 3249, 3305, 3373, 3441, 3521, 3534, 3545, 3558]) (len := 208) (by decide +kernel) (by decide) (by decide) rfl (by decide) (t_case_11 hsx B hk hn hf hx)
  rcases jite hf with ⟨c12, hf⟩ | ⟨c12, hf⟩
  · exact K_tswI B (off := 1037) (tgt := 1077) c12 (dflt := 3583) (lo := 0) (hi := 47) (offs := #[208, 281, 306, 362, 454, 572, 608, 704, 784, 828, 841, 933, 1037, 1141, 1197, 1277, 1369, 1444, 1548, 1616, 1679, 1742, 1822, 1918, 1974, 2054, 2146, 2206, 2286, 2394, 2474, 2578, 2670, 2730, 2802, 2870, 2949, 3041, 3097, 3193, 3249, 3305, 3373, 3441, 3521, 3534, 3545, 3558]) (len := 208) (by decide +kernel) (by decide) (by decide) rfl (by decide) (t_case_12 hsx B hk hn hf hx)
  rcases jite hf with ⟨c13, hf⟩ | ⟨c13, hf⟩
  · exact K_tswI B (off := 1141) (tgt := 1181) c13 (dflt := 3583) (lo := 0) (hi := 47) (offs := #[208, 281, 306, 362, 454, 572, 608, 704, 784, 828, 841, 933, 1037, 1141, 1197, 1277, 1369, 1444, 1548, 1616, 1679, 1742, 1822, 1918, 1974, 2054, 2146, 2206, 2286, 2394, 2474, 2578, 2670, 2730, 2802, 2870, 2949, 3041, 3097, 3193, 3249, 3305, 3373, 3441, 3521, 3534, 3545, 3558]) (len := 208) (by decide +kernel) (by decide) (by decide) rfl (by decide) (t_case_13 hsx B hk hn hf hx)
  rcases jite hf with ⟨c14, hf⟩ | ⟨c14, hf⟩
  · exact K_tswI B (off := 1197) (tgt := 1237) c14 (dflt := 3583) (lo := 0) (hi := 47) (offs := #[208, 281, 306, 362, 454, 572, 608, 704, 784, 828, 841, 933, 1037, 1141, 1197, 1277, 1369, 1444, 1548, 1616, 1679, 1742, 1822, 1918, 1974, 2054, 2146, 2206, 2286, 2394, 2474, 2578, 2670, 2730, 2802, 2870, 2949, 3041, 3097, 3193, 3249, 3305, 3373, 3441, 3521, 3534, 3545, 3558]) (len := 208) (by decide +kernel) (by decide) (by decide) rfl (by decide) (t_case_14 hsx B hk hn hf hx)
  rcases jite hf with ⟨c15, hf⟩ | ⟨c15, hf⟩
  · exact K_tswI B (off := 1277) (tgt := 1317) c15 (dflt := 3583) (lo := 0) (hi := 47) (offs := #[208, 281, 306, 362, 454, 572, 608, 704, 784, 828, 841, 933, 1037, 1141, 1197, 1277, 1369, 1444, 1548, 1616, 1679, 1742, 1822, 1918, 1974, 2054, 2146, 2206, 2286, 2394, 2474, 2578, 2670, 2730, 2802, 2870, 2949, 3041, 3097, 3193, 3249, 3305, 3373, 3441, 3521, 3534, 3545, 3558]) (len := 208) (by decide +kernel) (by decide) (by decide) rfl (by decide) (t_case_15 hsx B hk hn hf hx)
  rcases jite hf with ⟨c16, hf⟩ | ⟨c16, hf⟩
  · exact K_tswI B (off := 1369) (tgt := 1409) c16 (dflt := 3583) (lo := 0) (hi := 47) (offs := #[208, 281, 306, 362, 454, 572, 608, 704, 784, 828, 841, 933, 1037, 1141, 1197, 1277, 1369, 1444, 1548, 1616, 1679, 1742, 1822, 1918, 1974, 2054, 2146, 2206, 2286, 2394, 2474, 2578, 2670, 2730, 2802, 2870, 2949, 3041, 3097, 3193, 3249, 3305, 3373, 3441, 3521, 3534, 3545, 3558]) (len := 208) (by decide +kernel) (by decide) (by decide) rfl (by decide) (t_case_16 hsx B hk hn hf hx)
  rcases jite hf with ⟨c17, hf⟩ | ⟨c17, hf⟩
  · exact K_tswI B (off := 1444) (tgt := 1484) c17 (dflt := 3583) (lo := 0) (hi := 47) (offs := #[208, 281, 306, 362, 454, 572, 608, 704, 784, 828, 841, 933, 1037, 1141, 1197, 1277, 1369, 1444, 1548, 1616, 1679, 1742, 1822, 1918, 1974, 2054, 2146, 2206, 2286, 2394, 2474, 2578, 2670, 2730, 2802, 2870, 2949, 3041, 3097, 3193, 3249, 3305, 3373, 3441, 3521, 3534, 3545, 3558]) (len := 208) (by decide +kernel) (by decide) (by decide) rfl (by decide) (t_case_17 hsx B hk hn hf hx)
  rcases jite hf with ⟨c18, hf⟩ | ⟨c18, hf⟩
  · exact K_tswI B (off := 1548) (tgt := 1588) c18 (dflt := 3583) (lo := 0) (hi := 47) (offs := #[208, 281, 306, 362, 454, 572, 608, 704, 784, 828, 841, 933, 1037, 1141, 1197, 1277, 1369, 1444, 1548, 1616, 1679, 1742, 1822, 1918, 1974, 2054, 2146, 2206, 2286, 2394, 2474, 2578, 2670, 2730, 2802, 2870, 2949, 3041, 3097, 3193, 3249, 3305, 3373, 3441, 3521, 3534, 3545, 3558]) (len := 208) (by decide +kernel) (by decide) (by decide) rfl (by decide) (t_case_18 hsx B hk hn hf hx)
  rcases jite hf with ⟨c19, hf⟩ | ⟨c19, hf⟩
  · exact K_tswI B (off := 1616) (tgt := 1656) c19 (dflt := 3583) (lo := 0) (hi := 47) (offs := #[208, 281, 306, 362, 454, 572, 608, 704, 784, 828, 841, 933, 1037, 1141, 1197, 1277, 1369, 1444, 1548, 1616, 1679, 1742, 1822, 1918, 1974, 2054, 2146, 2206, 2286, 2394, 2474, 2578, 2670, 2730, 2802, 2870, 2949, 3041, 3097, 3193, 3249, 3305, 3373, 3441, 3521, 3534, 3545, 3558]) (len := 208) (by decide +kernel) (by decide) (by decide) rfl (by decide) (t_case_19 hsx B hk hn hf hx)
  rcases jite hf with ⟨c20, hf⟩ | ⟨c20, hf⟩
  · exact K_tswI B (off := 1679) (tgt := 1719) c20 (dflt := 3583) (lo := 0) (hi := 47) (offs := #[208, 281, 306, 362, 454, 572, 608, 704, 784, 828, 841, 933, 1037, 1141, 1197, 1277, 1369, 1444, 1548, 1616, 1679, 1742, 1822, 1918, 1974, 2054, 2146, 2206, 2286, 2394, 2474, 2578, 2670, 2730, 2802, 2870, 2949, 3041, 3097, 3193, 3249, 3305, 3373, 3441, 3521, 3534, 3545, 3558]) (len := 208) (by decide +kernel) (by decide) (by decide) rfl (by decide) (t_case_20 hsx B hk hn hf hx)
  rcases jite hf with ⟨c21, hf⟩ | ⟨c21, hf⟩
  · exact K_tswI B (off := 1742) (tgt := 1782) c21 (dflt := 3583) (lo := 0) (hi := 47) (offs := #[208, 281, 306, 362, 454, 572, 608, 704, 784, 828, 841, 933, 1037, 1141, 1197, 1277, 1369, 1444, 1548, 1616, 1679, 1742, 1822, 1918, 1974, 2054, 2146, 2206, 2286, 2394, 2474, 2578, 2670, 2730, 2802, 2870, 2949, 3041, 3097, 3193, 3249, 3305, 3373, 3441, 3521, 3534, 3545, 3558]) (len := 208) (by decide +kernel) (by decide) (by decide) rfl (by decide) (t_case_21 hsx B hk hn hf hx)
  rcases jite hf with ⟨c22, hf⟩ | ⟨c22, hf⟩
  · exact K_tswI B (off := 1822) (tgt := 1862) c22 (dflt := 3583) (lo := 0) (hi := 47) (offs := #[208, 281, 306, 362, 454, 572, 608, 704, 784, 828, 841, 933, 1037, 1141, 1197, 1277, 1369, 1444, 1548, 1616, 1679, 1742, 1822, 1918, 1974, 2054, 2146, 2206, 2286, 2394, 2474, 2578, 2670, 2730, 2802, 2870, 2949, 3041, 3097, 3193, 3249, 3305, 3373, 3441, 3521, 3534, 3545, 3558]) (len := 208) (by decide +kernel) (by decide) (by decide) rfl (by decide) (t_case_22 hsx B hk hn hf hx)
  rcases jite hf with ⟨c23, hf⟩ | ⟨c23, hf⟩
  · exact K_tswI B (off := 1918) (tgt := 1958) c23 (dflt := 3583) (lo := 0) (hi := 47) (offs := #[208, 281, 306, 362, 454, 572, 608, 704, 784, 828, 841, 933, 1037, 1141, 1197, 1277, 1369, 1444, 1548, 1616, 1679, 1742, 1822, 1918, 1974, 2054, 2146, 2206, 2286, 2394, 2474, 2578, 2670, 2730, 2802, 2870, 2949, 3041, 3097, 3193, 3249, 3305, 3373, 3441, 3521, 3534, 3545, 3558]) (len := 208) (by decide +kernel) (by decide) (by decide) rfl (by decide) (t_case_23 hsx B hk hn hf hx)
  rcases jite hf with ⟨c24, hf⟩ | ⟨c24, hf⟩
  · exact K_tswI B (off := 1974) (tgt := 2014) c24 (dflt := 3583) (lo := 0) (hi := 47) (offs := #[208, 281, 306, 362, 454, 572, 608, 704, 784, 828, 841, 933, 1037, 1141, 1197, 1277, 1369, 1444, 1548, 1616, 1679, 1742, 1822, 1918, 1974, 2054, 2146, 2206, 2286, 2394, 2474, 2578, 2670, 2730, 2802, 2870, 2949, 3041, 3097, 3193, 3249, 3305, 3373, 3441, 3521, 3534, 3545, 3558]) (len := 208) (by decide +kernel) (by decide) (by decide) rfl (by decide) (t_case_24 hsx B hk hn hf hx)
  rcases jite hf with ⟨c25, hf⟩ | ⟨c25, hf⟩
  · exact K_tswI B (off := 2054) (tgt := 2094) c25 (dflt := 3583) (lo := 0) (hi := 47) (offs := #[208, 281, 306, 362, 454, 572, 608, 704, 784, 828, 841, 933, 1037, 1141, 1197, 1277, 1369, 1444, 1548, 1616, 1679, 1742, 1822, 1918, 1974, 2054, 2146, 2206, 2286, 2394, 2474, 2578, 2670, 2730, 2802, 2870, 2949, 3041, 3097, 3193, 3249, 3305, 3373, 3441, 3521, 3534, 3545, 3558]) (len := 208) (by decide +kernel) (by decide) (by decide) rfl (by decide) (t_case_25 hsx B hk hn hf hx)
  rcases jite hf with ⟨c26, hf⟩ | ⟨c26, hf⟩
  · exact K_tswI B (off := 2146) (tgt := 2186) c26 (dflt := 3583) (lo := 0) (hi := 47) (offs := #[208, 281, 306, 362, 454, 572, 608, 704, 784, 828, 841, 933, 1037, 1141, 1197, 1277, 1369, 1444, 1548, 1616, 1679, 1742, 1822, 1918, 1974, 2054, 2146, 2206, 2286, 2394, 2474, 2578, 2670, 2730, 2802, 2870, 2949, 3041, 3097, 3193, 3249, 3305, 3373, 3441, 3521, 3534, 3545, 3558]) (len := 208) (by decide +kernel) (by decide) (by decide) rfl (by decide) (t_case_26 hsx B hk hn hf hx)
  rcases jite hf with ⟨c27, hf⟩ | ⟨c27, hf⟩
  · exact K_tswI B (off := 2206) (tgt := 2246) c27 (dflt := 3583) (lo := 0) (hi := 47) (offs := #[208, 281, 306, 362, 454, 572, 608, 704, 784, 828, 841, 933, 1037, 1141, 1197, 1277, 1369, 1444, 1548, 1616, 1679, 1742, 1822, 1918, 1974, 2054, 2146, 2206, 2286, 2394, 2474, 2578, 2670, 2730, 2802, 2870, 2949, 3041, 3097, 3193, 3249, 3305, 3373, 3441, 3521, 3534, 3545, 3558]) (len := 208) (by decide +kernel) (by decide) (by decide) rfl (by decide) (t_case_27 hsx B hk hn hf hx)
  rcases jite hf with ⟨c28, hf⟩ | ⟨c28, hf⟩
  · exact K_tswI B (off := 2286) (tgt := 2326) c28 (dflt := 3583) (lo := 0) (hi := 47) (offs := #[208, 281, 306, 362, 454, 572, 608, 704, 784, 828, 841, 933, 1037, 1141, 1197, 1277, 1369, 1444, 1548, 1616, 1679, 1742, 1822, 1918, 1974, 2054, 2146, 2206, 2286, 2394, 2474, 2578, 2670, 2730, 2802, 2870, 2949, 3041, 3097, 3193, 3249, 3305, 3373, 3441, 3521, 3534, 3545, 3558]) (len := 208) (by decide +kernel) (by decide) (by decide) rfl (by decide) (t_case_28 hsx B hk hn hf hx)
  rcases jite hf with ⟨c29, hf⟩ | ⟨c29, hf⟩
  · exact K_tswI B (off := 2394) (tgt := 2434) c29 (dflt := 3583) (lo := 0) (hi := 47) (offs := #[208, 281, 306, 362, 454, 572, 608, 704, 784, 828, 841, 933, 1037, 1141, 1197, 1277, 1369, 1444, 1548, 1616, 1679, 1742, 1822, 1918, 1974, 2054, 2146, 2206, 2286, 2394, 2474, 2578, 2670, 2730, 2802, 2870, 2949, 3041, 3097, 3193, 3249, 3305, 3373, 3441, 3521, 3534, 3545, 3558]) (len := 208) (by decide +kernel) (by decide) (by decide) rfl (by decide) (t_case_29 hsx B hk hn hf hx)
  rcases jite hf with ⟨c30, hf⟩ | ⟨c30, hf⟩
  · exact K_tswI B (off := 2474) (tgt := 2514) c30 (dflt := 3583) (lo := 0) (hi := 47) (offs := #[208, 281, 306, 362, 454, 572, 608, 704, 784, 828, 841, 933, 1037, 1141, 1197, 1277, 1369, 1444, 1548, 1616, 1679, 1742, 1822, 1918, 1974, 2054, 2146, 2206, 2286, 2394, 2474, 2578, 2670, 2730, 2802, 2870, 2949, 3041, 3097, 3193, 3249, 3305, 3373, 3441, 3521, 3534, 3545, 3558]) (len := 208) (by decide +kernel) (by decide) (by decide) rfl (by decide) (t_case_30 hsx B hk hn hf hx)
  rcases jite hf with ⟨c31, hf⟩ | ⟨c31, hf⟩
  · exact K_tswI B (off := 2578) (tgt := 2618) c31 (dflt := 3583) (lo := 0) (hi := 47) (offs := #[208, 281, 306, 362, 454, 572, 608, 704, 784, 828, 841, 933, 1037, 1141, 1197, 1277, 1369, 1444, 1548, 1616, 1679, 1742, 1822, 1918, 1974, 2054, 2146, 2206, 2286, 2394, 2474, 2578, 2670, 2730, 2802, 2870, 2949, 3041, 3097, 3193, 3249, 3305, 3373, 3441, 3521, 3534, 3545, 3558]) (len := 208) (by decide +kernel) (by decide) (by decide) rfl (by decide) (t_case_31 hsx B hk hn hf hx)
  rcases jite hf with ⟨c32, hf⟩ | ⟨c32, hf⟩
  · exact K_tswI B (off := 2670) (tgt := 2710) c32 (dflt := 3583) (lo := 0) (hi := 47) (offs := #[208, 281, 306, 362, 454, 572, 608, 704, 784, 828, 841, 933, 1037, 1141, 1197, 1277, 1369, 1444, 1548, 1616, 1679, 1742, 1822, 1918, 1974, 2054, 2146, 2206, 2286, 2394, 2474, 2578, 2670, 2730, 2802, 2870, 2949, 3041, 3097, 3193, 3249, 3305, 3373, 3441, 3521, 3534, 3545, 3558]) (len := 208) (by decide +kernel) (by decide) (by decide) rfl (by decide) (t_case_32 hsx B hk hn hf hx)
  rcases jite hf with ⟨c33, hf⟩ | ⟨c33, hf⟩
  · exact K_tswI B (off := 2730) (tgt := 2770) c33 (dflt := 3583) (lo := 0) (hi := 47) (offs := #[208, 281, 306, 362, 454, 572, 608, 704, 784, 828, 841, 933, 1037, 1141, 1197, 1277, 1369, 1444, 1548, 1616, 1679, 1742, 1822, 1918, 1974, 2054, 2146, 2206, 2286, 2394, 2474, 2578, 2670, 2730, 2802, 2870, 2949, 3041, 3097, 3193, 3249, 3305, 3373, 3441, 3521, 3534, 3545, 3558]) (len := 208) (by decide +kernel) (by decide) (by decide) rfl (by decide) (t_case_33 hsx B hk hn hf hx)
  rcases jite hf with ⟨c34, hf⟩ | ⟨c34, hf⟩
  · exact K_tswI B (off := 2802) (tgt := 2842) c34 (dflt := 3583) (lo := 0) (hi := 47) (offs := #[208, 281, 306, 362, 454, 572, 608, 704, 784, 828, 841, 933, 1037, 1141, 1197, 1277, 1369, 1444, 1548, 1616, 1679, 1742, 1822, 1918, 1974, 2054, 2146, 2206, 2286, 2394, 2474, 2578, 2670, 2730, 2802, 2870, 2949, 3041, 3097, 3193, 3249, 3305, 3373, 3441, 3521, 3534, 3545, 3558]) (len := 208) (by decide +kernel) (by decide) (by decide) rfl (by decide) (t_case_34 hsx B hk hn hf hx)
  rcases jite hf with ⟨c35, hf⟩ | ⟨c35, hf⟩
  · exact K_tswI B (off := 2870) (tgt := 2910) c35 (dflt := 3583) (lo := 0) (hi := 47) (offs := #[208, 281, 306, 362, 454, 572, 608, 704, 784, 828, 841, 933, 1037, 1141, 1197, 1277, 1369, 1444, 1548, 1616, 1679, 1742, 1822, 1918, 1974, 2054, 2146, 2206, 2286, 2394, 2474, 2578, 2670, 2730, 2802, 2870, 2949, 3041, 3097, 3193, 3249, 3305, 3373, 3441, 3521, 3534, 3545, 3558]) (len := 208) (by decide +kernel) (by decide) (by decide) rfl (by decide) (t_case_35 hsx B hk hn hf hx)
  rcases jite hf with ⟨c36, hf⟩ | ⟨c36, hf⟩
  · exact K_tswI B (off := 2949) (tgt := 2989) c36 (dflt := 3583) (lo := 0) (hi := 47) (offs := #[208, 281, 306, 362, 454, 572, 608, 704, 784, 828, 841, 933, 1037, 1141, 1197, 1277, 1369, 1444, 1548, 1616, 1679, 1742, 1822, 1918, 1974, 2054, 2146, 2206, 2286, 2394, 2474, 2578, 2670, 2730, 2802, 2870, 2949, 3041, 3097, 3193, 3249, 3305, 3373, 3441, 3521, 3534, 3545, 3558]) (len := 208) (by decide +kernel) (by decide) (by decide) rfl (by decide) (t_case_36 hsx B hk hn hf hx)
  rcases jite hf with ⟨c37, hf⟩ | ⟨c37, hf⟩
  · exact K_tswI B (off := 3041) (tgt := 3081) c37 (dflt := 3583) (lo := 0) (hi := 47) (offs := #[208, 281, 306, 362, 454, 572, 608, 704, 784, 828, 841, 933, 1037, 1141, 1197, 1277, 1369, 1444, 1548, 1616, 1679, 1742, 1822, 1918, 1974, 2054, 2146, 2206, 2286, 2394, 2474, 2578, 2670, 2730, 2802, 2870, 2949, 3041, 3097, 3193, 3249, 3305, 3373, 3441, 3521, 3534, 3545, 3558]) (len := 208) (by decide +kernel) (by decide) (by decide) rfl (by decide) (t_case_37 hsx B hk hn hf hx)
  rcases jite hf with ⟨c38, hf⟩ | ⟨c38, hf⟩
  · exact K_tswI B (off := 3097) (tgt := 3137) c38 (dflt := 3583) (lo := 0) (hi := 47) (offs := #[208, 281, 306, 362, 454, 572, 608, 704, 784, 828, 841, 933, 1037, 1141, 1197, 1277, 1369, 1444, 1548, 1616, 1679, 1742, 1822, 1918, 1974, 2054, 2146, 2206, 2286, 2394, 2474, 2578, 2670, 2730, 2802, 2870, 2949, 3041, 3097, 3193, 3249, 3305, 3373, 3441, 3521, 3534, 3545, 3558]) (len := 208) (by decide +kernel) (by decide) (by decide) rfl (by decide) (t_case_38 hsx B hk hn hf hx)
  rcases jite hf with ⟨c39, hf⟩ | ⟨c39, hf⟩
  · exact K_tswI B (off := 3193) (tgt := 3233) c39 (dflt := 3583) (lo := 0) (hi := 47) (offs := #[208, 281, 306, 362, 454, 572, 608, 704, 784, 828, 841, 933, 1037, 1141, 1197, 1277, 1369, 1444, 1548, 1616, 1679, 1742, 1822, 1918, 1974, 2054, 2146, 2206, 2286, 2394, 2474, 2578, 2670, 2730, 2802, 2870, 2949, 3041, 3097, 3193, 3249, 3305, 3373, 3441, 3521, 3534, 3545, 3558]) (len := 208) (by decide +kernel) (by decide) (by decide) rfl (by decide) (t_case_39 hsx B hk hn hf hx)
  rcases jite hf with ⟨c40, hf⟩ | ⟨c40, hf⟩
  · exact K_tswI B (off := 3249) (tgt := 3289) c40 (dflt := 3583) (lo := 0) (hi := 47) (offs := #[208, 281, 306, 362, 454, 572, 608, 704, 784, 828, 841, 933, 1037, 1141, 1197, 1277, 1369, 1444, 1548, 1616, 1679, 1742, 1822, 1918, 1974, 2054, 2146, 2206, 2286, 2394, 2474, 2578, 2670, 2730, 2802, 2870, 2949, 3041, 3097, 3193, 3249, 3305, 3373, 3441, 3521, 3534, 3545, 3558]) (len := 208) (by decide +kernel) (by decide) (by decide) rfl (by decide) (t_case_40 hsx B hk hn hf hx)
  rcases jite hf with ⟨c41, hf⟩ | ⟨c41, hf⟩
  · exact K_tswI B (off := 3305) (tgt := 3345) c41 (dflt := 3583) (lo := 0) (hi := 47) (offs := #[208, 281, 306, 362, 454, 572, 608, 704, 784, 828, 841, 933, 1037, 1141, 1197, 1277, 1369, 1444, 1548, 1616, 1679, 1742, 1822, 1918, 1974, 2054, 2146, 2206, 2286, 2394, 2474, 2578, 2670, 2730, 2802, 2870, 2949, 3041, 3097, 3193, 3249, 3305, 3373, 3441, 3521, 3534, 3545, 3558]) (len := 208) (by decide +kernel) (by decide) (by decide) rfl (by decide) (t_case_41 hsx B hk hn hf hx)
  rcases jite hf with ⟨c42, hf⟩ | ⟨c42, hf⟩
  · exact K_tswI B (off := 3373) (tgt := 3413) c42 (dflt := 3583) (lo := 0) (hi := 47) (offs := #[208, 281, 306, 362, 454, 572, 608, 704, 784, 828, 841, 933, 1037, 1141, 1197, 1277, 1369, 1444, 1548, 1616, 1679, 1742, 1822, 1918, 1974, 2054, 2146, 2206, 2286, 2394, 2474, 2578, 2670, 2730, 2802, 2870, 2949, 3041, 3097, 3193, 3249, 3305, 3373, 3441, 3521, 3534, 3545, 3558]) (len := 208) (by decide +kernel) (by decide) (by decide) rfl (by decide) (t_case_42 hsx B hk hn hf hx)
  rcases jite hf with ⟨c43, hf⟩ | ⟨c43, hf⟩
  · exact K_tswI B (off := 3441) (tgt := 3481) c43 (dflt := 3583) (lo := 0) (hi := 47) (offs := #[208, 281, 306, 362, 454, 572, 608, 704, 784, 828, 841, 933, 1037, 1141, 1197, 1277, 1369, 1444, 1548, 1616, 1679, 1742, 1822, 1918, 1974, 2054, 2146, 2206, 2286, 2394, 2474, 2578, 2670, 2730, 2802, 2870, 2949, 3041, 3097, 3193, 3249, 3305, 3373, 3441, 3521, 3534, 3545, 3558]) (len := 208) (by decide +kernel) (by decide) (by decide) rfl (by decide) (t_case_43 hsx B hk hn hf hx)
  rcases jite hf with ⟨c44, hf⟩ | ⟨c44, hf⟩
  · exact K_tswI B (off := 3521) (tgt := 3561) c44 (dflt := 3583) (lo := 0) (hi := 47) (offs := #[208, 281, 306, 362, 454, 572, 608, 704, 784, 828, 841, 933, 1037, 1141, 1197, 1277, 1369, 1444, 1548, 1616, 1679, 1742, 1822, 1918, 1974, 2054, 2146, 2206, 2286, 2394, 2474, 2578, 2670, 2730, 2802, 2870, 2949, 3041, 3097, 3193, 3249, 3305, 3373, 3441, 3521, 3534, 3545, 3558]) (len := 208) (by decide +kernel) (by decide) (by decide) rfl (by decide) (t_case_44 hsx B hk hn hf hx)
  rcases jite hf with ⟨c45, hf⟩ | ⟨c45, hf⟩
  · exact K_tswI B (off := 3534) (tgt := 3574) c45 (dflt := 3583) (lo := 0) (hi := 47) (offs := #[208, 281, 306, 362, 454, 572, 608, 704, 784, 828, 841, 933, 1037, 1141, 1197, 1277, 1369, 1444, 1548, 1616, 1679, 1742, 1822, 1918, 1974, 2054, 2146, 2206, 2286, 2394, 2474, 2578, 2670, 2730, 2802, 2870, 2949, 3041, 3097, 3193, 3249, 3305, 3373, 3441, 3521, 3534, 3545, 3558]) (len := 208) (by decide +kernel) (by decide) (by decide) rfl (by decide) (t_case_45 hsx B hk hn hf hx)
  rcases jite hf with ⟨c46, hf⟩ | ⟨c46, hf⟩
  · exact K_tswI B (off := 3545) (tgt := 3585) c46 (dflt := 3583) (lo := 0) (hi := 47) (offs := #[208, 281, 306, 362, 454, 572, 608, 704, 784, 828, 841, 933, 1037, 1141, 1197, 1277, 1369, 1444, 1548, 1616, 1679, 1742, 1822, 1918, 1974, 2054, 2146, 2206, 2286, 2394, 2474, 2578, 2670, 2730, 2802, 2870, 2949, 3041, 3097, 3193, 3249, 3305, 3373, 3441, 3521, 3534, 3545, 3558]) (len := 208) (by decide +kernel) (by decide) (by decide) rfl (by decide) (t_case_46 hsx B hk hn hf hx)
  rcases jite hf with ⟨c47, hf⟩ | ⟨c47, hf⟩
  · exact K_tswI B (off := 3558) (tgt := 3598) c47 (dflt := 3583) (lo := 0) (hi := 47) (offs := #[208, 281, 306, 362, 454, 572, 608, 704, 784, 828, 841, 933, 1037, 1141, 1197, 1277, 1369, 1444, 1548, 1616, 1679, 1742, 1822, 1918, 1974, 2054, 2146, 2206, 2286, 2394, 2474, 2578, 2670, 2730, 2802, 2870, 2949, 3041, 3097, 3193, 3249, 3305, 3373, 3441, 3521, 3534, 3545, 3558]) (len := 208) (by decide +kernel) (by decide) (by decide) rfl (by decide) (t_case_47 hsx B hk hn hf hx)
  refine J_tswO B.1 (tgt := 3623) (dflt := 3583) (lo := 0) (hi := 47) (offs := #[208, 281, 306, 362, 454, 572, 608, 704, 784, 828, 841, 933, 1037, 1141, 1197, 1277, 1369, 1444, 1548, 1616, 1679, 1742, 1822, 1918, 1974, 2054, 2146, 2206, 2286, 2394, 2474, 2578, 2670, 2730, 2802, 2870, 2949, 3041, 3097, 3193, 3249, 3305, 3373, 3441, 3521, 3534, 3545, 3558]) (len := 208) (by decide +kernel) (law_out c0 c1 c2 c3 c4 c5 c6 c7 c8 c9 c10 c11 c12 c13 c14 c15 c16 c17 c18 c19 c20 c21 c22 c23 c24 c25 c26 c27 c28 c29 c30 c31 c32 c33 c34 c35 c36 c37 c38 c39 c40 c41 c42 c43 c44 c45 c46 c47) (by decide) ?_
  cases hf
  exact J_widen (Nat.le_add_right _ _) (Nat.le_add_right _ _) hx

theorem t_law_L {X : jX} {L : Int} {sx : Int → Int} (hsx : jsx (xG X) L sx) (B : jB X cL_law RL 8 0 room_1 (some .boolean)) (hend : ∀ (S : List jSh) (μ : jMu) (k n : Nat) (ls : List (Nat × jA)), k ≤ 9000 → n ≤ 90000 → J X S μ k n 3629 ls []) : ∀ (q : Nat) (i : Int) (m : jMu) (k n : Nat), k + 5 * q ≤ 8900 → n + 30 * q ≤ 89000 → f_law_L sx L q i m = some () → J X SKF m k n 23 [(0, jR jXS), (1, jR 0), (2, jR 74), (3, jR 87), (4, jI i)] [] := by
  intro q
  induction q with
  | zero =>
    intro i m k n _ _ hf
    cases hf
  | succ q ih =>
    intro i m k n hk hn hf
    rw [f_law_L] at hf
    refine B_blk B (jlkn_ok RL) jcl_SKF [.iload 4, .aload_n 0] (by decide +kernel) (ls' := [(0, jR jXS), (1, jR 0), (2, jR 74), (3, jR 87), (4, jI i)]) (st' := [jR jXS, jI i]) rfl (p1 := 26) rfl ?_
    refine K_xlen B hsx (by decide +kernel) ?_
    refine B_blk B (jlkn_ok RL) jcl_SKF [.bipush 7, .isub] (by decide +kernel) (ls' := [(0, jR jXS), (1, jR 0), (2, jR 74), (3, jR 87), (4, jI i)]) (st' := [jI (jW (L - 7)), jI i]) rfl (p1 := 30) rfl ?_
    refine J_icmp_gt B.1 (off := 3599) (tgt := 3629) (by decide +kernel) (by decide) hf (fun hf => ?_) (fun hf => ?_)
    · exact hend _ _ _ _ _ (by omega) (by omega)
    · obtain ⟨o, ho, hf⟩ := jbd hf
      refine t_law_step hsx B (by omega) (by omega) ho ?_
      refine B_blk B (jlkn_ok RL) jcl_SKF [.iinc 4 7, .goto (-3603)] (by decide +kernel) (ls' := [(0, jR jXS), (1, jR 0), (2, jR 74), (3, jR 87), (4, jI (jW (i + 7)))]) (st' := []) rfl (p1 := 23) rfl ?_
      exact J_sub (fun q hq => hq) (ih _ _ _ _ (by rw [Nat.mul_succ] at hk; omega) (by rw [Nat.mul_succ] at hn; omega) hf)

def f_law_start (m : jMu) : Option jMu :=
  (jlt (jzr m 0) fun m1 => (f_X9_init m1).bind fun r2 => (jlt (jzr r2 74) fun m3 => (f_X10_init m3).bind fun r4 => (jlt (jzr r4 87) fun m5 => some m5)))
theorem t_law_start {X : jX} (B : jB X cL_law RL 8 0 room_1 (some .boolean)) {m o : jMu} (hf : f_law_start m = some o) (hx : J X SKF o 88 33916 23 [(0, jR jXS), (1, jR 0), (2, jR 74), (3, jR 87), (4, jI 0)] []) : J X SKE m 0 0 0 [(0, jR jXS)] [] := by
  unfold f_law_start at hf
  refine J_new (S' := SK0) (i := 0) (rf := [some none, some none, some none, some none, some none, some none, some none, some none, none, none]) B.1 jcl_SKE rfl tyX9 tyX9_ok (by decide +kernel) (j_norf _ rfl) cl_L_8 it_X9 ii_X9 (Nat.le_trans B.2.2.1 (Nat.le_of_ble_eq_true rfl)) (Nat.le_of_ble_eq_true rfl) B.2.2.2.1 (Nat.le_of_ble_eq_true rfl) (Nat.le_of_ble_eq_true rfl) (by decide +kernel) rfl rfl ?_
  obtain ⟨m1, hm1, hf⟩ := jlt_s hf
  rw [hm1]
  refine B_blk B (jlkn_ok RL) jcl_SK0 [.dup] (by decide +kernel) (ls' := [(0, jR jXS)]) (st' := [jR 0, jR 0]) rfl (p1 := 4) rfl ?_
  obtain ⟨r2, h2, hf⟩ := jbd hf
  refine B_callI B (Nat.zero_le _) (μ' := r2) (k' := 74) (n' := 9838) ca_X9_init in_X9_init rfl lk_L_156 (t_X9_init B.tr h2) (Nat.le_of_ble_eq_true rfl) rfl (Nat.le_of_ble_eq_true rfl) (rest := [jR 0]) rfl rfl (Nat.le_of_ble_eq_true rfl) (by decide +kernel) rfl rfl (st' := [jR 0]) rfl ?_
  refine B_blk B (jlkn_ok RL) jcl_SK154 [.astore_n 1] (by decide +kernel) (ls' := [(0, jR jXS), (1, jR 0)]) (st' := []) rfl (p1 := 8) rfl ?_
  refine J_new (S' := SK155) (i := 74) (rf := [none, some none, some none, none, some none, none, none, none, none, none, none, some none, none, none, none, none, none, none, none, some none, some none, some none, some none, some none, some none, some none, some none]) B.1 jcl_SK154 rfl tyX10 tyX10_ok (by decide +kernel) (j_norf _ rfl) cl_L_157 it_X10 ii_X10 (Nat.le_trans B.2.2.1 (Nat.le_of_ble_eq_true rfl)) (Nat.le_of_ble_eq_true rfl) B.2.2.2.1 (Nat.le_of_ble_eq_true rfl) (Nat.le_of_ble_eq_true rfl) (by decide +kernel) rfl rfl ?_
  obtain ⟨m3, hm3, hf⟩ := jlt_s hf
  rw [hm3]
  refine B_blk B (jlkn_ok RL) jcl_SK155 [.dup] (by decide +kernel) (ls' := [(0, jR jXS), (1, jR 0)]) (st' := [jR 74, jR 74]) rfl (p1 := 12) rfl ?_
  obtain ⟨r4, h4, hf⟩ := jbd hf
  refine B_callI B (Nat.zero_le _) (μ' := r4) (k' := 87) (n' := 33915) ca_X10_init in_X10_init rfl lk_L_159 (t_X10_init B.tr h4) (Nat.le_of_ble_eq_true rfl) rfl (Nat.le_of_ble_eq_true rfl) (rest := [jR 74]) rfl rfl (Nat.le_of_ble_eq_true rfl) (by decide +kernel) rfl rfl (st' := [jR 74]) rfl ?_
  refine B_blk B (jlkn_ok RL) jcl_SK179 [.astore_n 2, .iconst 1] (by decide +kernel) (ls' := [(0, jR jXS), (1, jR 0), (2, jR 74)]) (st' := [jI 1]) rfl (p1 := 17) rfl ?_
  refine J_newa (S' := SKF) (i := 87) (N := 1) (ak := 2) B.1 jcl_SK179 (by decide) rfl jac_2 rfl (by decide) (Nat.le_trans B.2.2.1 (Nat.le_of_ble_eq_true rfl)) (Nat.le_of_ble_eq_true rfl) B.2.2.2.1 (Nat.le_of_ble_eq_true rfl) (Nat.le_of_ble_eq_true rfl) (by decide +kernel) rfl rfl ?_
  obtain ⟨m5, hm5, hf⟩ := jlt_s hf
  rw [hm5]
  refine B_blk B (jlkn_ok RL) jcl_SKF [.astore_n 3, .iconst 0, .istore 4] (by decide +kernel) (ls' := [(0, jR jXS), (1, jR 0), (2, jR 74), (3, jR 87), (4, jI 0)]) (st' := []) rfl (p1 := 23) rfl ?_
  cases hf
  exact hx
