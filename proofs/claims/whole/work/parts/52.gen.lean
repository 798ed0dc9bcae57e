/-! printed walks -/
def f_case_12 (sx : Int → Int) (L i : Int) (m : jMu) : Option jMu :=
  (if 0 ≤ jW (i + 1) ∧ jW (i + 1) < L then (if 0 ≤ jW (i + 2) ∧ jW (i + 2) < L then (if 0 ≤ jW (i + 3) ∧ jW (i + 3) < L then (if 0 ≤ jW (i + 4) ∧ jW (i + 4) < L then (if 0 ≤ jW (i + 5) ∧ jW (i + 5) < L then (f_L_hours (sx (jW (i + 1))) (sx (jW (i + 2))) (sx (jW (i + 3))) (sx (jW (i + 4))) (sx (jW (i + 5))) m).bind fun r1 => (if 0 ≤ jW (i + 1) ∧ jW (i + 1) < L then (if 0 ≤ jW (i + 2) ∧ jW (i + 2) < L then (if 0 ≤ jW (i + 3) ∧ jW (i + 3) < L then (if 0 ≤ jW (i + 4) ∧ jW (i + 4) < L then (if 0 ≤ jW (i + 5) ∧ jW (i + 5) < L then (f_X10_hours (sx (jW (i + 1))) (sx (jW (i + 2))) (sx (jW (i + 3))) (sx (jW (i + 4))) (sx (jW (i + 5))) r1.2).bind fun r2 => (f_X10_thrown r2.2).bind fun r3 => (if r3 = r1.1 then (if r1.1 = 0 then (if jCm (r2.2 87 0) r2.1 = 0 then some r2.2 else none) else some r2.2) else none) else none) else none) else none) else none) else none) else none) else none) else none) else none) else none)
theorem t_case_12 {X : jX} {L : Int} {sx : Int → Int} (hsx : jsx (xG X) L sx) (B : jB X cL_law RL 8 0 room_1 (some .boolean)) {k n : Nat} (hk : k ≤ 8900) (hn : n ≤ 89000) {i : Int} {m o : jMu} (hf : f_case_12 sx L i m = some o) (hx : J X SKF o (k + 5) (n + 30) 3623 [(0, jR jXS), (1, jR 0), (2, jR 74), (3, jR 87), (4, jI i)] []) : J X SKF m k n 1077 [(0, jR jXS), (1, jR 0), (2, jR 74), (3, jR 87), (4, jI i)] [] := by
  unfold f_case_12 at hf
  refine B_blk B (jlkn_ok RL) jcl_SKF [.aload_n 1, .aload_n 0, .iload 4, .iconst 1, .iadd] (by decide +kernel) (ls' := [(0, jR jXS), (1, jR 0), (2, jR 74), (3, jR 87), (4, jI i)]) (st' := [jI (jW (i + 1)), jR jXS, jR 0]) rfl (p1 := 1083) rfl ?_
  obtain ⟨g13, hf⟩ := jgd hf
  refine K_xald B hsx g13 (by decide +kernel) ?_
  refine B_blk B (jlkn_ok RL) jcl_SKF [.aload_n 0, .iload 4, .iconst 2, .iadd] (by decide +kernel) (ls' := [(0, jR jXS), (1, jR 0), (2, jR 74), (3, jR 87), (4, jI i)]) (st' := [jI (jW (i + 2)), jR jXS, jI (sx (jW (i + 1))), jR 0]) rfl (p1 := 1089) rfl ?_
  obtain ⟨g12, hf⟩ := jgd hf
  refine K_xald B hsx g12 (by decide +kernel) ?_
  refine B_blk B (jlkn_ok RL) jcl_SKF [.aload_n 0, .iload 4, .iconst 3, .iadd] (by decide +kernel) (ls' := [(0, jR jXS), (1, jR 0), (2, jR 74), (3, jR 87), (4, jI i)]) (st' := [jI (jW (i + 3)), jR jXS, jI (sx (jW (i + 2))), jI (sx (jW (i + 1))), jR 0]) rfl (p1 := 1095) rfl ?_
  obtain ⟨g11, hf⟩ := jgd hf
  refine K_xald B hsx g11 (by decide +kernel) ?_
  refine B_blk B (jlkn_ok RL) jcl_SKF [.aload_n 0, .iload 4, .iconst 4, .iadd] (by decide +kernel) (ls' := [(0, jR jXS), (1, jR 0), (2, jR 74), (3, jR 87), (4, jI i)]) (st' := [jI (jW (i + 4)), jR jXS, jI (sx (jW (i + 3))), jI (sx (jW (i + 2))), jI (sx (jW (i + 1))), jR 0]) rfl (p1 := 1101) rfl ?_
  obtain ⟨g10, hf⟩ := jgd hf
  refine K_xald B hsx g10 (by decide +kernel) ?_
  refine B_blk B (jlkn_ok RL) jcl_SKF [.aload_n 0, .iload 4, .iconst 5, .iadd] (by decide +kernel) (ls' := [(0, jR jXS), (1, jR 0), (2, jR 74), (3, jR 87), (4, jI i)]) (st' := [jI (jW (i + 5)), jR jXS, jI (sx (jW (i + 4))), jI (sx (jW (i + 3))), jI (sx (jW (i + 2))), jI (sx (jW (i + 1))), jR 0]) rfl (p1 := 1107) rfl ?_
  obtain ⟨g9, hf⟩ := jgd hf
  refine K_xald B hsx g9 (by decide +kernel) ?_
  refine B_blk B (jlkn_ok RL) jcl_SKF [.aload_n 3] (by decide +kernel) (ls' := [(0, jR jXS), (1, jR 0), (2, jR 74), (3, jR 87), (4, jI i)]) (st' := [jR 87, jI (sx (jW (i + 5))), jI (sx (jW (i + 4))), jI (sx (jW (i + 3))), jI (sx (jW (i + 2))), jI (sx (jW (i + 1))), jR 0]) rfl (p1 := 1109) rfl ?_
  obtain ⟨r1, h1, hf⟩ := jbd hf
  refine B_callH B (Nat.zero_le _) (μ' := r1.2) (k' := k + 4) (n' := n + 24) ca_L_hours sa_L_hours lk_L_212 (t_L_hours B.tr h1) (Nat.le_refl _) (jRoom (K := 9000) (N := 90000) (by omega) (by omega) rfl) (rest := []) rfl rfl (Nat.le_of_ble_eq_true rfl) (by decide +kernel) rfl rfl (st' := [jI r1.1]) rfl ?_
  refine B_blk B (jlkn_ok RL) jcl_SKF [.istore 5, .aload_n 2, .aload_n 0, .iload 4, .iconst 1, .iadd] (by decide +kernel) (ls' := [(0, jR jXS), (1, jR 0), (2, jR 74), (3, jR 87), (4, jI i), (5, jI r1.1)]) (st' := [jI (jW (i + 1)), jR jXS, jR 74]) rfl (p1 := 1120) rfl ?_
  obtain ⟨g8, hf⟩ := jgd hf
  refine K_xald B hsx g8 (by decide +kernel) ?_
  refine B_blk B (jlkn_ok RL) jcl_SKF [.aload_n 0, .iload 4, .iconst 2, .iadd] (by decide +kernel) (ls' := [(0, jR jXS), (1, jR 0), (2, jR 74), (3, jR 87), (4, jI i), (5, jI r1.1)]) (st' := [jI (jW (i + 2)), jR jXS, jI (sx (jW (i + 1))), jR 74]) rfl (p1 := 1126) rfl ?_
  obtain ⟨g7, hf⟩ := jgd hf
  refine K_xald B hsx g7 (by decide +kernel) ?_
  refine B_blk B (jlkn_ok RL) jcl_SKF [.aload_n 0, .iload 4, .iconst 3, .iadd] (by decide +kernel) (ls' := [(0, jR jXS), (1, jR 0), (2, jR 74), (3, jR 87), (4, jI i), (5, jI r1.1)]) (st' := [jI (jW (i + 3)), jR jXS, jI (sx (jW (i + 2))), jI (sx (jW (i + 1))), jR 74]) rfl (p1 := 1132) rfl ?_
  obtain ⟨g6, hf⟩ := jgd hf
  refine K_xald B hsx g6 (by decide +kernel) ?_
  refine B_blk B (jlkn_ok RL) jcl_SKF [.aload_n 0, .iload 4, .iconst 4, .iadd] (by decide +kernel) (ls' := [(0, jR jXS), (1, jR 0), (2, jR 74), (3, jR 87), (4, jI i), (5, jI r1.1)]) (st' := [jI (jW (i + 4)), jR jXS, jI (sx (jW (i + 3))), jI (sx (jW (i + 2))), jI (sx (jW (i + 1))), jR 74]) rfl (p1 := 1138) rfl ?_
  obtain ⟨g5, hf⟩ := jgd hf
  refine K_xald B hsx g5 (by decide +kernel) ?_
  refine B_blk B (jlkn_ok RL) jcl_SKF [.aload_n 0, .iload 4, .iconst 5, .iadd] (by decide +kernel) (ls' := [(0, jR jXS), (1, jR 0), (2, jR 74), (3, jR 87), (4, jI i), (5, jI r1.1)]) (st' := [jI (jW (i + 5)), jR jXS, jI (sx (jW (i + 4))), jI (sx (jW (i + 3))), jI (sx (jW (i + 2))), jI (sx (jW (i + 1))), jR 74]) rfl (p1 := 1144) rfl ?_
  obtain ⟨g4, hf⟩ := jgd hf
  refine K_xald B hsx g4 (by decide +kernel) ?_
  obtain ⟨r2, h2, hf⟩ := jbd hf
  refine B_callV B (Nat.zero_le _) (μ' := r2.2) (k' := k + 4) (n' := n + 24) ca_X10_hours in_X10_hours se_X10_hours lk_L_214 (t_X10_hours B.tr h2) (Nat.le_refl _) (jRoom (K := 9000) (N := 90000) (by omega) (by omega) rfl) rfl rfl (rest := []) rfl rfl (Nat.le_of_ble_eq_true rfl) (by decide +kernel) rfl rfl (st' := [jI r2.1]) rfl ?_
  refine B_blk B (jlkn_ok RL) jcl_SKF [.istore 6, .aload_n 2] (by decide +kernel) (ls' := [(0, jR jXS), (1, jR 0), (2, jR 74), (3, jR 87), (4, jI i), (5, jI r1.1), (6, jI r2.1)]) (st' := [jR 74]) rfl (p1 := 1151) rfl ?_
  obtain ⟨r3, h3, hf⟩ := jbd hf
  refine B_callV B (Nat.zero_le _) (μ' := r2.2) (k' := k + 4) (n' := n + 24) ca_X10_thrown in_X10_thrown se_X10_thrown lk_L_174 (t_X10_thrown B.tr h3) (Nat.le_refl _) (jRoom (K := 9000) (N := 90000) (by omega) (by omega) rfl) rfl rfl (rest := []) rfl rfl (Nat.le_of_ble_eq_true rfl) (by decide +kernel) rfl rfl (st' := [jI r3]) rfl ?_
  refine B_blk B (jlkn_ok RL) jcl_SKF [.iload 5] (by decide +kernel) (ls' := [(0, jR jXS), (1, jR 0), (2, jR 74), (3, jR 87), (4, jI i), (5, jI r1.1), (6, jI r2.1)]) (st' := [jI r1.1, jI r3]) rfl (p1 := 1156) rfl ?_
  refine J_icmp_eq B.1 (off := 5) (tgt := 1161) (by decide +kernel) (by decide) hf (fun hf => ?_) (fun hf => ?_)
  · refine B_blk B (jlkn_ok RL) jcl_SKF [.iload 5] (by decide +kernel) (ls' := [(0, jR jXS), (1, jR 0), (2, jR 74), (3, jR 87), (4, jI i), (5, jI r1.1), (6, jI r2.1)]) (st' := [jI r1.1]) rfl (p1 := 1163) rfl ?_
    refine J_if_ne B.1 (off := 15) (tgt := 1178) (by decide +kernel) (by decide) hf (fun hf => ?_) (fun hf => ?_)
    · refine B_blk B (jlkn_ok RL) jcl_SKF [.aload_n 3, .iconst 0] (by decide +kernel) (ls' := [(0, jR jXS), (1, jR 0), (2, jR 74), (3, jR 87), (4, jI i), (5, jI r1.1), (6, jI r2.1)]) (st' := [jI 0, jR 87]) rfl (p1 := 1168) rfl ?_
      refine K_lald (lenI := 1) B rfl rfl (by decide) (by decide +kernel) ?_
      refine B_blk B (jlkn_ok RL) jcl_SKF [.iload 6, .i2l, .lcmp] (by decide +kernel) (ls' := [(0, jR jXS), (1, jR 0), (2, jR 74), (3, jR 87), (4, jI i), (5, jI r1.1), (6, jI r2.1)]) (st' := [jI (jCm (r2.2 87 0) r2.1)]) rfl (p1 := 1173) rfl ?_
      refine J_if_eq B.1 (off := 5) (tgt := 1178) (by decide +kernel) (by decide) hf (fun hf => ?_) (fun hf => ?_)
      · refine B_blk B (jlkn_ok RL) jcl_SKF [.goto 2445] (by decide +kernel) (ls' := [(0, jR jXS), (1, jR 0), (2, jR 74), (3, jR 87), (4, jI i), (5, jI r1.1), (6, jI r2.1)]) (st' := []) rfl (p1 := 3623) rfl ?_
        refine J_pick [0, 1, 2, 3, 4] (ls' := [(0, jR jXS), (1, jR 0), (2, jR 74), (3, jR 87), (4, jI i)]) rfl ?_
        cases hf
        exact J_widen (by omega) (by omega) hx
      · refine B_blk B (jlkn_ok RL) jcl_SKF [.iconst 0] (by decide +kernel) (ls' := [(0, jR jXS), (1, jR 0), (2, jR 74), (3, jR 87), (4, jI i), (5, jI r1.1), (6, jI r2.1)]) (st' := [jI 0]) rfl (p1 := 1177) rfl ?_
        cases hf
    · refine B_blk B (jlkn_ok RL) jcl_SKF [.goto 2445] (by decide +kernel) (ls' := [(0, jR jXS), (1, jR 0), (2, jR 74), (3, jR 87), (4, jI i), (5, jI r1.1), (6, jI r2.1)]) (st' := []) rfl (p1 := 3623) rfl ?_
      refine J_pick [0, 1, 2, 3, 4] (ls' := [(0, jR jXS), (1, jR 0), (2, jR 74), (3, jR 87), (4, jI i)]) rfl ?_
      cases hf
      exact J_widen (by omega) (by omega) hx
  · refine B_blk B (jlkn_ok RL) jcl_SKF [.iconst 0] (by decide +kernel) (ls' := [(0, jR jXS), (1, jR 0), (2, jR 74), (3, jR 87), (4, jI i), (5, jI r1.1), (6, jI r2.1)]) (st' := [jI 0]) rfl (p1 := 1160) rfl ?_
    cases hf

def f_case_13 (sx : Int → Int) (L i : Int) (m : jMu) : Option jMu :=
  (if 0 ≤ jW (i + 1) ∧ jW (i + 1) < L then (f_L_gang (sx (jW (i + 1))) m).bind fun r1 => (if 0 ≤ jW (i + 1) ∧ jW (i + 1) < L then (f_X10_gang (sx (jW (i + 1))) r1.2).bind fun r2 => (f_X10_thrown r2.2).bind fun r3 => (if r3 = r1.1 then (if r1.1 = 0 then (if jCm (r2.2 87 0) r2.1 = 0 then some r2.2 else none) else some r2.2) else none) else none) else none)
theorem t_case_13 {X : jX} {L : Int} {sx : Int → Int} (hsx : jsx (xG X) L sx) (B : jB X cL_law RL 8 0 room_1 (some .boolean)) {k n : Nat} (hk : k ≤ 8900) (hn : n ≤ 89000) {i : Int} {m o : jMu} (hf : f_case_13 sx L i m = some o) (hx : J X SKF o (k + 5) (n + 30) 3623 [(0, jR jXS), (1, jR 0), (2, jR 74), (3, jR 87), (4, jI i)] []) : J X SKF m k n 1181 [(0, jR jXS), (1, jR 0), (2, jR 74), (3, jR 87), (4, jI i)] [] := by
  unfold f_case_13 at hf
  refine B_blk B (jlkn_ok RL) jcl_SKF [.aload_n 1, .aload_n 0, .iload 4, .iconst 1, .iadd] (by decide +kernel) (ls' := [(0, jR jXS), (1, jR 0), (2, jR 74), (3, jR 87), (4, jI i)]) (st' := [jI (jW (i + 1)), jR jXS, jR 0]) rfl (p1 := 1187) rfl ?_
  obtain ⟨g5, hf⟩ := jgd hf
  refine K_xald B hsx g5 (by decide +kernel) ?_
  refine B_blk B (jlkn_ok RL) jcl_SKF [.aload_n 3] (by decide +kernel) (ls' := [(0, jR jXS), (1, jR 0), (2, jR 74), (3, jR 87), (4, jI i)]) (st' := [jR 87, jI (sx (jW (i + 1))), jR 0]) rfl (p1 := 1189) rfl ?_
  obtain ⟨r1, h1, hf⟩ := jbd hf
  refine B_callH B (Nat.zero_le _) (μ' := r1.2) (k' := k + 2) (n' := n + 12) ca_L_gang sa_L_gang lk_L_215 (t_L_gang B.tr h1) (Nat.le_refl _) (jRoom (K := 9000) (N := 90000) (by omega) (by omega) rfl) (rest := []) rfl rfl (Nat.le_of_ble_eq_true rfl) (by decide +kernel) rfl rfl (st' := [jI r1.1]) rfl ?_
  refine B_blk B (jlkn_ok RL) jcl_SKF [.istore 5, .aload_n 2, .aload_n 0, .iload 4, .iconst 1, .iadd] (by decide +kernel) (ls' := [(0, jR jXS), (1, jR 0), (2, jR 74), (3, jR 87), (4, jI i), (5, jI r1.1)]) (st' := [jI (jW (i + 1)), jR jXS, jR 74]) rfl (p1 := 1200) rfl ?_
  obtain ⟨g4, hf⟩ := jgd hf
  refine K_xald B hsx g4 (by decide +kernel) ?_
  obtain ⟨r2, h2, hf⟩ := jbd hf
  refine B_callV B (Nat.zero_le _) (μ' := r2.2) (k' := k + 2) (n' := n + 12) ca_X10_gang in_X10_gang se_X10_gang lk_L_217 (t_X10_gang B.tr h2) (Nat.le_refl _) (jRoom (K := 9000) (N := 90000) (by omega) (by omega) rfl) rfl rfl (rest := []) rfl rfl (Nat.le_of_ble_eq_true rfl) (by decide +kernel) rfl rfl (st' := [jI r2.1]) rfl ?_
  refine B_blk B (jlkn_ok RL) jcl_SKF [.istore 6, .aload_n 2] (by decide +kernel) (ls' := [(0, jR jXS), (1, jR 0), (2, jR 74), (3, jR 87), (4, jI i), (5, jI r1.1), (6, jI r2.1)]) (st' := [jR 74]) rfl (p1 := 1207) rfl ?_
  obtain ⟨r3, h3, hf⟩ := jbd hf
  refine B_callV B (Nat.zero_le _) (μ' := r2.2) (k' := k + 2) (n' := n + 12) ca_X10_thrown in_X10_thrown se_X10_thrown lk_L_174 (t_X10_thrown B.tr h3) (Nat.le_refl _) (jRoom (K := 9000) (N := 90000) (by omega) (by omega) rfl) rfl rfl (rest := []) rfl rfl (Nat.le_of_ble_eq_true rfl) (by decide +kernel) rfl rfl (st' := [jI r3]) rfl ?_
  refine B_blk B (jlkn_ok RL) jcl_SKF [.iload 5] (by decide +kernel) (ls' := [(0, jR jXS), (1, jR 0), (2, jR 74), (3, jR 87), (4, jI i), (5, jI r1.1), (6, jI r2.1)]) (st' := [jI r1.1, jI r3]) rfl (p1 := 1212) rfl ?_
  refine J_icmp_eq B.1 (off := 5) (tgt := 1217) (by decide +kernel) (by decide) hf (fun hf => ?_) (fun hf => ?_)
  · refine B_blk B (jlkn_ok RL) jcl_SKF [.iload 5] (by decide +kernel) (ls' := [(0, jR jXS), (1, jR 0), (2, jR 74), (3, jR 87), (4, jI i), (5, jI r1.1), (6, jI r2.1)]) (st' := [jI r1.1]) rfl (p1 := 1219) rfl ?_
    refine J_if_ne B.1 (off := 15) (tgt := 1234) (by decide +kernel) (by decide) hf (fun hf => ?_) (fun hf => ?_)
    · refine B_blk B (jlkn_ok RL) jcl_SKF [.aload_n 3, .iconst 0] (by decide +kernel) (ls' := [(0, jR jXS), (1, jR 0), (2, jR 74), (3, jR 87), (4, jI i), (5, jI r1.1), (6, jI r2.1)]) (st' := [jI 0, jR 87]) rfl (p1 := 1224) rfl ?_
      refine K_lald (lenI := 1) B rfl rfl (by decide) (by decide +kernel) ?_
      refine B_blk B (jlkn_ok RL) jcl_SKF [.iload 6, .i2l, .lcmp] (by decide +kernel) (ls' := [(0, jR jXS), (1, jR 0), (2, jR 74), (3, jR 87), (4, jI i), (5, jI r1.1), (6, jI r2.1)]) (st' := [jI (jCm (r2.2 87 0) r2.1)]) rfl (p1 := 1229) rfl ?_
      refine J_if_eq B.1 (off := 5) (tgt := 1234) (by decide +kernel) (by decide) hf (fun hf => ?_) (fun hf => ?_)
      · refine B_blk B (jlkn_ok RL) jcl_SKF [.goto 2389] (by decide +kernel) (ls' := [(0, jR jXS), (1, jR 0), (2, jR 74), (3, jR 87), (4, jI i), (5, jI r1.1), (6, jI r2.1)]) (st' := []) rfl (p1 := 3623) rfl ?_
        refine J_pick [0, 1, 2, 3, 4] (ls' := [(0, jR jXS), (1, jR 0), (2, jR 74), (3, jR 87), (4, jI i)]) rfl ?_
        cases hf
        exact J_widen (by omega) (by omega) hx
      · refine B_blk B (jlkn_ok RL) jcl_SKF [.iconst 0] (by decide +kernel) (ls' := [(0, jR jXS), (1, jR 0), (2, jR 74), (3, jR 87), (4, jI i), (5, jI r1.1), (6, jI r2.1)]) (st' := [jI 0]) rfl (p1 := 1233) rfl ?_
        cases hf
    · refine B_blk B (jlkn_ok RL) jcl_SKF [.goto 2389] (by decide +kernel) (ls' := [(0, jR jXS), (1, jR 0), (2, jR 74), (3, jR 87), (4, jI i), (5, jI r1.1), (6, jI r2.1)]) (st' := []) rfl (p1 := 3623) rfl ?_
      refine J_pick [0, 1, 2, 3, 4] (ls' := [(0, jR jXS), (1, jR 0), (2, jR 74), (3, jR 87), (4, jI i)]) rfl ?_
      cases hf
      exact J_widen (by omega) (by omega) hx
  · refine B_blk B (jlkn_ok RL) jcl_SKF [.iconst 0] (by decide +kernel) (ls' := [(0, jR jXS), (1, jR 0), (2, jR 74), (3, jR 87), (4, jI i), (5, jI r1.1), (6, jI r2.1)]) (st' := [jI 0]) rfl (p1 := 1216) rfl ?_
    cases hf

def f_case_14 (sx : Int → Int) (L i : Int) (m : jMu) : Option jMu :=
  (if 0 ≤ jW (i + 1) ∧ jW (i + 1) < L then (if 0 ≤ jW (i + 2) ∧ jW (i + 2) < L then (if 0 ≤ jW (i + 3) ∧ jW (i + 3) < L then (f_L_batch (sx (jW (i + 1))) (sx (jW (i + 2))) (sx (jW (i + 3))) m).bind fun r1 => (if 0 ≤ jW (i + 1) ∧ jW (i + 1) < L then (if 0 ≤ jW (i + 2) ∧ jW (i + 2) < L then (if 0 ≤ jW (i + 3) ∧ jW (i + 3) < L then (f_X10_batch (sx (jW (i + 1))) (sx (jW (i + 2))) (sx (jW (i + 3))) r1.2).bind fun r2 => (f_X10_thrown r2.2).bind fun r3 => (if r3 = r1.1 then (if r1.1 = 0 then (if jCm (r2.2 87 0) r2.1 = 0 then some r2.2 else none) else some r2.2) else none) else none) else none) else none) else none) else none) else none)
theorem t_case_14 {X : jX} {L : Int} {sx : Int → Int} (hsx : jsx (xG X) L sx) (B : jB X cL_law RL 8 0 room_1 (some .boolean)) {k n : Nat} (hk : k ≤ 8900) (hn : n ≤ 89000) {i : Int} {m o : jMu} (hf : f_case_14 sx L i m = some o) (hx : J X SKF o (k + 5) (n + 30) 3623 [(0, jR jXS), (1, jR 0), (2, jR 74), (3, jR 87), (4, jI i)] []) : J X SKF m k n 1237 [(0, jR jXS), (1, jR 0), (2, jR 74), (3, jR 87), (4, jI i)] [] := by
  unfold f_case_14 at hf
  refine B_blk B (jlkn_ok RL) jcl_SKF [.aload_n 1, .aload_n 0, .iload 4, .iconst 1, .iadd] (by decide +kernel) (ls' := [(0, jR jXS), (1, jR 0), (2, jR 74), (3, jR 87), (4, jI i)]) (st' := [jI (jW (i + 1)), jR jXS, jR 0]) rfl (p1 := 1243) rfl ?_
  obtain ⟨g9, hf⟩ := jgd hf
  refine K_xald B hsx g9 (by decide +kernel) ?_
  refine B_blk B (jlkn_ok RL) jcl_SKF [.aload_n 0, .iload 4, .iconst 2, .iadd] (by decide +kernel) (ls' := [(0, jR jXS), (1, jR 0), (2, jR 74), (3, jR 87), (4, jI i)]) (st' := [jI (jW (i + 2)), jR jXS, jI (sx (jW (i + 1))), jR 0]) rfl (p1 := 1249) rfl ?_
  obtain ⟨g8, hf⟩ := jgd hf
  refine K_xald B hsx g8 (by decide +kernel) ?_
  refine B_blk B (jlkn_ok RL) jcl_SKF [.aload_n 0, .iload 4, .iconst 3, .iadd] (by decide +kernel) (ls' := [(0, jR jXS), (1, jR 0), (2, jR 74), (3, jR 87), (4, jI i)]) (st' := [jI (jW (i + 3)), jR jXS, jI (sx (jW (i + 2))), jI (sx (jW (i + 1))), jR 0]) rfl (p1 := 1255) rfl ?_
  obtain ⟨g7, hf⟩ := jgd hf
  refine K_xald B hsx g7 (by decide +kernel) ?_
  refine B_blk B (jlkn_ok RL) jcl_SKF [.aload_n 3] (by decide +kernel) (ls' := [(0, jR jXS), (1, jR 0), (2, jR 74), (3, jR 87), (4, jI i)]) (st' := [jR 87, jI (sx (jW (i + 3))), jI (sx (jW (i + 2))), jI (sx (jW (i + 1))), jR 0]) rfl (p1 := 1257) rfl ?_
  obtain ⟨r1, h1, hf⟩ := jbd hf
  refine B_callH B (Nat.zero_le _) (μ' := r1.2) (k' := k + 2) (n' := n + 12) ca_L_batch sa_L_batch lk_L_218 (t_L_batch B.tr h1) (Nat.le_refl _) (jRoom (K := 9000) (N := 90000) (by omega) (by omega) rfl) (rest := []) rfl rfl (Nat.le_of_ble_eq_true rfl) (by decide +kernel) rfl rfl (st' := [jI r1.1]) rfl ?_
  refine B_blk B (jlkn_ok RL) jcl_SKF [.istore 5, .aload_n 2, .aload_n 0, .iload 4, .iconst 1, .iadd] (by decide +kernel) (ls' := [(0, jR jXS), (1, jR 0), (2, jR 74), (3, jR 87), (4, jI i), (5, jI r1.1)]) (st' := [jI (jW (i + 1)), jR jXS, jR 74]) rfl (p1 := 1268) rfl ?_
  obtain ⟨g6, hf⟩ := jgd hf
  refine K_xald B hsx g6 (by decide +kernel) ?_
  refine B_blk B (jlkn_ok RL) jcl_SKF [.aload_n 0, .iload 4, .iconst 2, .iadd] (by decide +kernel) (ls' := [(0, jR jXS), (1, jR 0), (2, jR 74), (3, jR 87), (4, jI i), (5, jI r1.1)]) (st' := [jI (jW (i + 2)), jR jXS, jI (sx (jW (i + 1))), jR 74]) rfl (p1 := 1274) rfl ?_
  obtain ⟨g5, hf⟩ := jgd hf
  refine K_xald B hsx g5 (by decide +kernel) ?_
  refine B_blk B (jlkn_ok RL) jcl_SKF [.aload_n 0, .iload 4, .iconst 3, .iadd] (by decide +kernel) (ls' := [(0, jR jXS), (1, jR 0), (2, jR 74), (3, jR 87), (4, jI i), (5, jI r1.1)]) (st' := [jI (jW (i + 3)), jR jXS, jI (sx (jW (i + 2))), jI (sx (jW (i + 1))), jR 74]) rfl (p1 := 1280) rfl ?_
  obtain ⟨g4, hf⟩ := jgd hf
  refine K_xald B hsx g4 (by decide +kernel) ?_
  obtain ⟨r2, h2, hf⟩ := jbd hf
  refine B_callV B (Nat.zero_le _) (μ' := r2.2) (k' := k + 2) (n' := n + 12) ca_X10_batch in_X10_batch se_X10_batch lk_L_220 (t_X10_batch B.tr h2) (Nat.le_refl _) (jRoom (K := 9000) (N := 90000) (by omega) (by omega) rfl) rfl rfl (rest := []) rfl rfl (Nat.le_of_ble_eq_true rfl) (by decide +kernel) rfl rfl (st' := [jI r2.1]) rfl ?_
  refine B_blk B (jlkn_ok RL) jcl_SKF [.istore 6, .aload_n 2] (by decide +kernel) (ls' := [(0, jR jXS), (1, jR 0), (2, jR 74), (3, jR 87), (4, jI i), (5, jI r1.1), (6, jI r2.1)]) (st' := [jR 74]) rfl (p1 := 1287) rfl ?_
  obtain ⟨r3, h3, hf⟩ := jbd hf
  refine B_callV B (Nat.zero_le _) (μ' := r2.2) (k' := k + 2) (n' := n + 12) ca_X10_thrown in_X10_thrown se_X10_thrown lk_L_174 (t_X10_thrown B.tr h3) (Nat.le_refl _) (jRoom (K := 9000) (N := 90000) (by omega) (by omega) rfl) rfl rfl (rest := []) rfl rfl (Nat.le_of_ble_eq_true rfl) (by decide +kernel) rfl rfl (st' := [jI r3]) rfl ?_
  refine B_blk B (jlkn_ok RL) jcl_SKF [.iload 5] (by decide +kernel) (ls' := [(0, jR jXS), (1, jR 0), (2, jR 74), (3, jR 87), (4, jI i), (5, jI r1.1), (6, jI r2.1)]) (st' := [jI r1.1, jI r3]) rfl (p1 := 1292) rfl ?_
  refine J_icmp_eq B.1 (off := 5) (tgt := 1297) (by decide +kernel) (by decide) hf (fun hf => ?_) (fun hf => ?_)
  · refine B_blk B (jlkn_ok RL) jcl_SKF [.iload 5] (by decide +kernel) (ls' := [(0, jR jXS), (1, jR 0), (2, jR 74), (3, jR 87), (4, jI i), (5, jI r1.1), (6, jI r2.1)]) (st' := [jI r1.1]) rfl (p1 := 1299) rfl ?_
    refine J_if_ne B.1 (off := 15) (tgt := 1314) (by decide +kernel) (by decide) hf (fun hf => ?_) (fun hf => ?_)
    · refine B_blk B (jlkn_ok RL) jcl_SKF [.aload_n 3, .iconst 0] (by decide +kernel) (ls' := [(0, jR jXS), (1, jR 0), (2, jR 74), (3, jR 87), (4, jI i), (5, jI r1.1), (6, jI r2.1)]) (st' := [jI 0, jR 87]) rfl (p1 := 1304) rfl ?_
      refine K_lald (lenI := 1) B rfl rfl (by decide) (by decide +kernel) ?_
      refine B_blk B (jlkn_ok RL) jcl_SKF [.iload 6, .i2l, .lcmp] (by decide +kernel) (ls' := [(0, jR jXS), (1, jR 0), (2, jR 74), (3, jR 87), (4, jI i), (5, jI r1.1), (6, jI r2.1)]) (st' := [jI (jCm (r2.2 87 0) r2.1)]) rfl (p1 := 1309) rfl ?_
      refine J_if_eq B.1 (off := 5) (tgt := 1314) (by decide +kernel) (by decide) hf (fun hf => ?_) (fun hf => ?_)
      · refine B_blk B (jlkn_ok RL) jcl_SKF [.goto 2309] (by decide +kernel) (ls' := [(0, jR jXS), (1, jR 0), (2, jR 74), (3, jR 87), (4, jI i), (5, jI r1.1), (6, jI r2.1)]) (st' := []) rfl (p1 := 3623) rfl ?_
        refine J_pick [0, 1, 2, 3, 4] (ls' := [(0, jR jXS), (1, jR 0), (2, jR 74), (3, jR 87), (4, jI i)]) rfl ?_
        cases hf
        exact J_widen (by omega) (by omega) hx
      · refine B_blk B (jlkn_ok RL) jcl_SKF [.iconst 0] (by decide +kernel) (ls' := [(0, jR jXS), (1, jR 0), (2, jR 74), (3, jR 87), (4, jI i), (5, jI r1.1), (6, jI r2.1)]) (st' := [jI 0]) rfl (p1 := 1313) rfl ?_
        cases hf
    · refine B_blk B (jlkn_ok RL) jcl_SKF [.goto 2309] (by decide +kernel) (ls' := [(0, jR jXS), (1, jR 0), (2, jR 74), (3, jR 87), (4, jI i), (5, jI r1.1), (6, jI r2.1)]) (st' := []) rfl (p1 := 3623) rfl ?_
      refine J_pick [0, 1, 2, 3, 4] (ls' := [(0, jR jXS), (1, jR 0), (2, jR 74), (3, jR 87), (4, jI i)]) rfl ?_
      cases hf
      exact J_widen (by omega) (by omega) hx
  · refine B_blk B (jlkn_ok RL) jcl_SKF [.iconst 0] (by decide +kernel) (ls' := [(0, jR jXS), (1, jR 0), (2, jR 74), (3, jR 87), (4, jI i), (5, jI r1.1), (6, jI r2.1)]) (st' := [jI 0]) rfl (p1 := 1296) rfl ?_
    cases hf

def f_case_15 (sx : Int → Int) (L i : Int) (m : jMu) : Option jMu :=
  (if 0 ≤ jW (i + 1) ∧ jW (i + 1) < L then (if 0 ≤ jW (i + 2) ∧ jW (i + 2) < L then (if 0 ≤ jW (i + 3) ∧ jW (i + 3) < L then (if 0 ≤ jW (i + 4) ∧ jW (i + 4) < L then (f_L_ends (sx (jW (i + 1))) (sx (jW (i + 2))) (sx (jW (i + 3))) (sx (jW (i + 4))) m).bind fun r1 => (if 0 ≤ jW (i + 1) ∧ jW (i + 1) < L then (if 0 ≤ jW (i + 2) ∧ jW (i + 2) < L then (if 0 ≤ jW (i + 3) ∧ jW (i + 3) < L then (if 0 ≤ jW (i + 4) ∧ jW (i + 4) < L then (f_X10_ends (sx (jW (i + 1))) (sx (jW (i + 2))) (sx (jW (i + 3))) (sx (jW (i + 4))) r1.2).bind fun r2 => (f_X10_thrown r2.2).bind fun r3 => (if r3 = r1.1 then (if r1.1 = 0 then (if jCm (r2.2 87 0) r2.1 = 0 then some r2.2 else none) else some r2.2) else none) else none) else none) else none) else none) else none) else none) else none) else none)
theorem t_case_15 {X : jX} {L : Int} {sx : Int → Int} (hsx : jsx (xG X) L sx) (B : jB X cL_law RL 8 0 room_1 (some .boolean)) {k n : Nat} (hk : k ≤ 8900) (hn : n ≤ 89000) {i : Int} {m o : jMu} (hf : f_case_15 sx L i m = some o) (hx : J X SKF o (k + 5) (n + 30) 3623 [(0, jR jXS), (1, jR 0), (2, jR 74), (3, jR 87), (4, jI i)] []) : J X SKF m k n 1317 [(0, jR jXS), (1, jR 0), (2, jR 74), (3, jR 87), (4, jI i)] [] := by
  unfold f_case_15 at hf
  refine B_blk B (jlkn_ok RL) jcl_SKF [.aload_n 1, .aload_n 0, .iload 4, .iconst 1, .iadd] (by decide +kernel) (ls' := [(0, jR jXS), (1, jR 0), (2, jR 74), (3, jR 87), (4, jI i)]) (st' := [jI (jW (i + 1)), jR jXS, jR 0]) rfl (p1 := 1323) rfl ?_
  obtain ⟨g11, hf⟩ := jgd hf
  refine K_xald B hsx g11 (by decide +kernel) ?_
  refine B_blk B (jlkn_ok RL) jcl_SKF [.aload_n 0, .iload 4, .iconst 2, .iadd] (by decide +kernel) (ls' := [(0, jR jXS), (1, jR 0), (2, jR 74), (3, jR 87), (4, jI i)]) (st' := [jI (jW (i + 2)), jR jXS, jI (sx (jW (i + 1))), jR 0]) rfl (p1 := 1329) rfl ?_
  obtain ⟨g10, hf⟩ := jgd hf
  refine K_xald B hsx g10 (by decide +kernel) ?_
  refine B_blk B (jlkn_ok RL) jcl_SKF [.aload_n 0, .iload 4, .iconst 3, .iadd] (by decide +kernel) (ls' := [(0, jR jXS), (1, jR 0), (2, jR 74), (3, jR 87), (4, jI i)]) (st' := [jI (jW (i + 3)), jR jXS, jI (sx (jW (i + 2))), jI (sx (jW (i + 1))), jR 0]) rfl (p1 := 1335) rfl ?_
  obtain ⟨g9, hf⟩ := jgd hf
  refine K_xald B hsx g9 (by decide +kernel) ?_
  refine B_blk B (jlkn_ok RL) jcl_SKF [.aload_n 0, .iload 4, .iconst 4, .iadd] (by decide +kernel) (ls' := [(0, jR jXS), (1, jR 0), (2, jR 74), (3, jR 87), (4, jI i)]) (st' := [jI (jW (i + 4)), jR jXS, jI (sx (jW (i + 3))), jI (sx (jW (i + 2))), jI (sx (jW (i + 1))), jR 0]) rfl (p1 := 1341) rfl ?_
  obtain ⟨g8, hf⟩ := jgd hf
  refine K_xald B hsx g8 (by decide +kernel) ?_
  refine B_blk B (jlkn_ok RL) jcl_SKF [.aload_n 3] (by decide +kernel) (ls' := [(0, jR jXS), (1, jR 0), (2, jR 74), (3, jR 87), (4, jI i)]) (st' := [jR 87, jI (sx (jW (i + 4))), jI (sx (jW (i + 3))), jI (sx (jW (i + 2))), jI (sx (jW (i + 1))), jR 0]) rfl (p1 := 1343) rfl ?_
  obtain ⟨r1, h1, hf⟩ := jbd hf
  refine B_callH B (Nat.zero_le _) (μ' := r1.2) (k' := k + 2) (n' := n + 12) ca_L_ends sa_L_ends lk_L_221 (t_L_ends B.tr h1) (Nat.le_refl _) (jRoom (K := 9000) (N := 90000) (by omega) (by omega) rfl) (rest := []) rfl rfl (Nat.le_of_ble_eq_true rfl) (by decide +kernel) rfl rfl (st' := [jI r1.1]) rfl ?_
  refine B_blk B (jlkn_ok RL) jcl_SKF [.istore 5, .aload_n 2, .aload_n 0, .iload 4, .iconst 1, .iadd] (by decide +kernel) (ls' := [(0, jR jXS), (1, jR 0), (2, jR 74), (3, jR 87), (4, jI i), (5, jI r1.1)]) (st' := [jI (jW (i + 1)), jR jXS, jR 74]) rfl (p1 := 1354) rfl ?_
  obtain ⟨g7, hf⟩ := jgd hf
  refine K_xald B hsx g7 (by decide +kernel) ?_
  refine B_blk B (jlkn_ok RL) jcl_SKF [.aload_n 0, .iload 4, .iconst 2, .iadd] (by decide +kernel) (ls' := [(0, jR jXS), (1, jR 0), (2, jR 74), (3, jR 87), (4, jI i), (5, jI r1.1)]) (st' := [jI (jW (i + 2)), jR jXS, jI (sx (jW (i + 1))), jR 74]) rfl (p1 := 1360) rfl ?_
  obtain ⟨g6, hf⟩ := jgd hf
  refine K_xald B hsx g6 (by decide +kernel) ?_
  refine B_blk B (jlkn_ok RL) jcl_SKF [.aload_n 0, .iload 4, .iconst 3, .iadd] (by decide +kernel) (ls' := [(0, jR jXS), (1, jR 0), (2, jR 74), (3, jR 87), (4, jI i), (5, jI r1.1)]) (st' := [jI (jW (i + 3)), jR jXS, jI (sx (jW (i + 2))), jI (sx (jW (i + 1))), jR 74]) rfl (p1 := 1366) rfl ?_
  obtain ⟨g5, hf⟩ := jgd hf
  refine K_xald B hsx g5 (by decide +kernel) ?_
  refine B_blk B (jlkn_ok RL) jcl_SKF [.aload_n 0, .iload 4, .iconst 4, .iadd] (by decide +kernel) (ls' := [(0, jR jXS), (1, jR 0), (2, jR 74), (3, jR 87), (4, jI i), (5, jI r1.1)]) (st' := [jI (jW (i + 4)), jR jXS, jI (sx (jW (i + 3))), jI (sx (jW (i + 2))), jI (sx (jW (i + 1))), jR 74]) rfl (p1 := 1372) rfl ?_
  obtain ⟨g4, hf⟩ := jgd hf
  refine K_xald B hsx g4 (by decide +kernel) ?_
  obtain ⟨r2, h2, hf⟩ := jbd hf
  refine B_callV B (Nat.zero_le _) (μ' := r2.2) (k' := k + 2) (n' := n + 12) ca_X10_ends in_X10_ends se_X10_ends lk_L_223 (t_X10_ends B.tr h2) (Nat.le_refl _) (jRoom (K := 9000) (N := 90000) (by omega) (by omega) rfl) rfl rfl (rest := []) rfl rfl (Nat.le_of_ble_eq_true rfl) (by decide +kernel) rfl rfl (st' := [jI r2.1]) rfl ?_
  refine B_blk B (jlkn_ok RL) jcl_SKF [.istore 6, .aload_n 2] (by decide +kernel) (ls' := [(0, jR jXS), (1, jR 0), (2, jR 74), (3, jR 87), (4, jI i), (5, jI r1.1), (6, jI r2.1)]) (st' := [jR 74]) rfl (p1 := 1379) rfl ?_
  obtain ⟨r3, h3, hf⟩ := jbd hf
  refine B_callV B (Nat.zero_le _) (μ' := r2.2) (k' := k + 2) (n' := n + 12) ca_X10_thrown in_X10_thrown se_X10_thrown lk_L_174 (t_X10_thrown B.tr h3) (Nat.le_refl _) (jRoom (K := 9000) (N := 90000) (by omega) (by omega) rfl) rfl rfl (rest := []) rfl rfl (Nat.le_of_ble_eq_true rfl) (by decide +kernel) rfl rfl (st' := [jI r3]) rfl ?_
  refine B_blk B (jlkn_ok RL) jcl_SKF [.iload 5] (by decide +kernel) (ls' := [(0, jR jXS), (1, jR 0), (2, jR 74), (3, jR 87), (4, jI i), (5, jI r1.1), (6, jI r2.1)]) (st' := [jI r1.1, jI r3]) rfl (p1 := 1384) rfl ?_
  refine J_icmp_eq B.1 (off := 5) (tgt := 1389) (by decide +kernel) (by decide) hf (fun hf => ?_) (fun hf => ?_)
  · refine B_blk B (jlkn_ok RL) jcl_SKF [.iload 5] (by decide +kernel) (ls' := [(0, jR jXS), (1, jR 0), (2, jR 74), (3, jR 87), (4, jI i), (5, jI r1.1), (6, jI r2.1)]) (st' := [jI r1.1]) rfl (p1 := 1391) rfl ?_
    refine J_if_ne B.1 (off := 15) (tgt := 1406) (by decide +kernel) (by decide) hf (fun hf => ?_) (fun hf => ?_)
    · refine B_blk B (jlkn_ok RL) jcl_SKF [.aload_n 3, .iconst 0] (by decide +kernel) (ls' := [(0, jR jXS), (1, jR 0), (2, jR 74), (3, jR 87), (4, jI i), (5, jI r1.1), (6, jI r2.1)]) (st' := [jI 0, jR 87]) rfl (p1 := 1396) rfl ?_
      refine K_lald (lenI := 1) B rfl rfl (by decide) (by decide +kernel) ?_
      refine B_blk B (jlkn_ok RL) jcl_SKF [.iload 6, .i2l, .lcmp] (by decide +kernel) (ls' := [(0, jR jXS), (1, jR 0), (2, jR 74), (3, jR 87), (4, jI i), (5, jI r1.1), (6, jI r2.1)]) (st' := [jI (jCm (r2.2 87 0) r2.1)]) rfl (p1 := 1401) rfl ?_
      refine J_if_eq B.1 (off := 5) (tgt := 1406) (by decide +kernel) (by decide) hf (fun hf => ?_) (fun hf => ?_)
      · refine B_blk B (jlkn_ok RL) jcl_SKF [.goto 2217] (by decide +kernel) (ls' := [(0, jR jXS), (1, jR 0), (2, jR 74), (3, jR 87), (4, jI i), (5, jI r1.1), (6, jI r2.1)]) (st' := []) rfl (p1 := 3623) rfl ?_
        refine J_pick [0, 1, 2, 3, 4] (ls' := [(0, jR jXS), (1, jR 0), (2, jR 74), (3, jR 87), (4, jI i)]) rfl ?_
        cases hf
        exact J_widen (by omega) (by omega) hx
      · refine B_blk B (jlkn_ok RL) jcl_SKF [.iconst 0] (by decide +kernel) (ls' := [(0, jR jXS), (1, jR 0), (2, jR 74), (3, jR 87), (4, jI i), (5, jI r1.1), (6, jI r2.1)]) (st' := [jI 0]) rfl (p1 := 1405) rfl ?_
        cases hf
    · refine B_blk B (jlkn_ok RL) jcl_SKF [.goto 2217] (by decide +kernel) (ls' := [(0, jR jXS), (1, jR 0), (2, jR 74), (3, jR 87), (4, jI i), (5, jI r1.1), (6, jI r2.1)]) (st' := []) rfl (p1 := 3623) rfl ?_
      refine J_pick [0, 1, 2, 3, 4] (ls' := [(0, jR jXS), (1, jR 0), (2, jR 74), (3, jR 87), (4, jI i)]) rfl ?_
      cases hf
      exact J_widen (by omega) (by omega) hx
  · refine B_blk B (jlkn_ok RL) jcl_SKF [.iconst 0] (by decide +kernel) (ls' := [(0, jR jXS), (1, jR 0), (2, jR 74), (3, jR 87), (4, jI i), (5, jI r1.1), (6, jI r2.1)]) (st' := [jI 0]) rfl (p1 := 1388) rfl ?_
    cases hf

def f_case_16 (sx : Int → Int) (L i : Int) (m : jMu) : Option jMu :=
  (if 0 ≤ jW (i + 1) ∧ jW (i + 1) < L then (if 0 ≤ jW (i + 2) ∧ jW (i + 2) < L then (f_L_may (sx (jW (i + 1))) (sx (jW (i + 2))) m).bind fun r1 => (if 0 ≤ jW (i + 1) ∧ jW (i + 1) < L then (if 0 ≤ jW (i + 2) ∧ jW (i + 2) < L then (f_X10_may (sx (jW (i + 1))) (sx (jW (i + 2))) r1.2).bind fun r2 => (f_X10_thrown r2.2).bind fun r3 => (if r3 = r1.1 then (if r1.1 = 0 then (if r2.1 = 0 then (if jCm (r2.2 87 0) 0 = 0 then some r2.2 else none) else (if jCm (r2.2 87 0) 1 = 0 then some r2.2 else none)) else some r2.2) else none) else none) else none) else none) else none)
theorem t_case_16 {X : jX} {L : Int} {sx : Int → Int} (hsx : jsx (xG X) L sx) (B : jB X cL_law RL 8 0 room_1 (some .boolean)) {k n : Nat} (hk : k ≤ 8900) (hn : n ≤ 89000) {i : Int} {m o : jMu} (hf : f_case_16 sx L i m = some o) (hx : J X SKF o (k + 5) (n + 30) 3623 [(0, jR jXS), (1, jR 0), (2, jR 74), (3, jR 87), (4, jI i)] []) : J X SKF m k n 1409 [(0, jR jXS), (1, jR 0), (2, jR 74), (3, jR 87), (4, jI i)] [] := by
  unfold f_case_16 at hf
  refine B_blk B (jlkn_ok RL) jcl_SKF [.aload_n 1, .aload_n 0, .iload 4, .iconst 1, .iadd] (by decide +kernel) (ls' := [(0, jR jXS), (1, jR 0), (2, jR 74), (3, jR 87), (4, jI i)]) (st' := [jI (jW (i + 1)), jR jXS, jR 0]) rfl (p1 := 1415) rfl ?_
  obtain ⟨g7, hf⟩ := jgd hf
  refine K_xald B hsx g7 (by decide +kernel) ?_
  refine B_blk B (jlkn_ok RL) jcl_SKF [.aload_n 0, .iload 4, .iconst 2, .iadd] (by decide +kernel) (ls' := [(0, jR jXS), (1, jR 0), (2, jR 74), (3, jR 87), (4, jI i)]) (st' := [jI (jW (i + 2)), jR jXS, jI (sx (jW (i + 1))), jR 0]) rfl (p1 := 1421) rfl ?_
  obtain ⟨g6, hf⟩ := jgd hf
  refine K_xald B hsx g6 (by decide +kernel) ?_
  refine B_blk B (jlkn_ok RL) jcl_SKF [.aload_n 3] (by decide +kernel) (ls' := [(0, jR jXS), (1, jR 0), (2, jR 74), (3, jR 87), (4, jI i)]) (st' := [jR 87, jI (sx (jW (i + 2))), jI (sx (jW (i + 1))), jR 0]) rfl (p1 := 1423) rfl ?_
  obtain ⟨r1, h1, hf⟩ := jbd hf
  refine B_callH B (Nat.zero_le _) (μ' := r1.2) (k' := k + 1) (n' := n + 6) ca_L_may sa_L_may lk_L_224 (t_L_may B.tr h1) (Nat.le_refl _) (jRoom (K := 9000) (N := 90000) (by omega) (by omega) rfl) (rest := []) rfl rfl (Nat.le_of_ble_eq_true rfl) (by decide +kernel) rfl rfl (st' := [jI r1.1]) rfl ?_
  refine B_blk B (jlkn_ok RL) jcl_SKF [.istore 5, .aload_n 2, .aload_n 0, .iload 4, .iconst 1, .iadd] (by decide +kernel) (ls' := [(0, jR jXS), (1, jR 0), (2, jR 74), (3, jR 87), (4, jI i), (5, jI r1.1)]) (st' := [jI (jW (i + 1)), jR jXS, jR 74]) rfl (p1 := 1434) rfl ?_
  obtain ⟨g5, hf⟩ := jgd hf
  refine K_xald B hsx g5 (by decide +kernel) ?_
  refine B_blk B (jlkn_ok RL) jcl_SKF [.aload_n 0, .iload 4, .iconst 2, .iadd] (by decide +kernel) (ls' := [(0, jR jXS), (1, jR 0), (2, jR 74), (3, jR 87), (4, jI i), (5, jI r1.1)]) (st' := [jI (jW (i + 2)), jR jXS, jI (sx (jW (i + 1))), jR 74]) rfl (p1 := 1440) rfl ?_
  obtain ⟨g4, hf⟩ := jgd hf
  refine K_xald B hsx g4 (by decide +kernel) ?_
  obtain ⟨r2, h2, hf⟩ := jbd hf
  refine B_callV B (Nat.zero_le _) (μ' := r2.2) (k' := k + 1) (n' := n + 6) ca_X10_may in_X10_may se_X10_may lk_L_227 (t_X10_may B.tr h2) (Nat.le_refl _) (jRoom (K := 9000) (N := 90000) (by omega) (by omega) rfl) rfl rfl (rest := []) rfl rfl (Nat.le_of_ble_eq_true rfl) (by decide +kernel) rfl rfl (st' := [jI r2.1]) rfl ?_
  refine B_blk B (jlkn_ok RL) jcl_SKF [.istore 6, .aload_n 2] (by decide +kernel) (ls' := [(0, jR jXS), (1, jR 0), (2, jR 74), (3, jR 87), (4, jI i), (5, jI r1.1), (6, jI r2.1)]) (st' := [jR 74]) rfl (p1 := 1447) rfl ?_
  obtain ⟨r3, h3, hf⟩ := jbd hf
  refine B_callV B (Nat.zero_le _) (μ' := r2.2) (k' := k + 1) (n' := n + 6) ca_X10_thrown in_X10_thrown se_X10_thrown lk_L_174 (t_X10_thrown B.tr h3) (Nat.le_refl _) (jRoom (K := 9000) (N := 90000) (by omega) (by omega) rfl) rfl rfl (rest := []) rfl rfl (Nat.le_of_ble_eq_true rfl) (by decide +kernel) rfl rfl (st' := [jI r3]) rfl ?_
  refine B_blk B (jlkn_ok RL) jcl_SKF [.iload 5] (by decide +kernel) (ls' := [(0, jR jXS), (1, jR 0), (2, jR 74), (3, jR 87), (4, jI i), (5, jI r1.1), (6, jI r2.1)]) (st' := [jI r1.1, jI r3]) rfl (p1 := 1452) rfl ?_
  refine J_icmp_eq B.1 (off := 5) (tgt := 1457) (by decide +kernel) (by decide) hf (fun hf => ?_) (fun hf => ?_)
  · refine B_blk B (jlkn_ok RL) jcl_SKF [.iload 5] (by decide +kernel) (ls' := [(0, jR jXS), (1, jR 0), (2, jR 74), (3, jR 87), (4, jI i), (5, jI r1.1), (6, jI r2.1)]) (st' := [jI r1.1]) rfl (p1 := 1459) rfl ?_
    refine J_if_ne B.1 (off := 22) (tgt := 1481) (by decide +kernel) (by decide) hf (fun hf => ?_) (fun hf => ?_)
    · refine B_blk B (jlkn_ok RL) jcl_SKF [.aload_n 3, .iconst 0] (by decide +kernel) (ls' := [(0, jR jXS), (1, jR 0), (2, jR 74), (3, jR 87), (4, jI i), (5, jI r1.1), (6, jI r2.1)]) (st' := [jI 0, jR 87]) rfl (p1 := 1464) rfl ?_
      refine K_lald (lenI := 1) B rfl rfl (by decide) (by decide +kernel) ?_
      refine B_blk B (jlkn_ok RL) jcl_SKF [.iload 6] (by decide +kernel) (ls' := [(0, jR jXS), (1, jR 0), (2, jR 74), (3, jR 87), (4, jI i), (5, jI r1.1), (6, jI r2.1)]) (st' := [jI r2.1, jL (r2.2 87 0)]) rfl (p1 := 1467) rfl ?_
      refine J_if_eq B.1 (off := 7) (tgt := 1474) (by decide +kernel) (by decide) hf (fun hf => ?_) (fun hf => ?_)
      · refine B_blk B (jlkn_ok RL) jcl_SKF [.lconst 0, .lcmp] (by decide +kernel) (ls' := [(0, jR jXS), (1, jR 0), (2, jR 74), (3, jR 87), (4, jI i), (5, jI r1.1), (6, jI r2.1)]) (st' := [jI (jCm (r2.2 87 0) 0)]) rfl (p1 := 1476) rfl ?_
        refine J_if_eq B.1 (off := 5) (tgt := 1481) (by decide +kernel) (by decide) hf (fun hf => ?_) (fun hf => ?_)
        · refine B_blk B (jlkn_ok RL) jcl_SKF [.goto 2142] (by decide +kernel) (ls' := [(0, jR jXS), (1, jR 0), (2, jR 74), (3, jR 87), (4, jI i), (5, jI r1.1), (6, jI r2.1)]) (st' := []) rfl (p1 := 3623) rfl ?_
          refine J_pick [0, 1, 2, 3, 4] (ls' := [(0, jR jXS), (1, jR 0), (2, jR 74), (3, jR 87), (4, jI i)]) rfl ?_
          cases hf
          exact J_widen (by omega) (by omega) hx
        · refine B_blk B (jlkn_ok RL) jcl_SKF [.iconst 0] (by decide +kernel) (ls' := [(0, jR jXS), (1, jR 0), (2, jR 74), (3, jR 87), (4, jI i), (5, jI r1.1), (6, jI r2.1)]) (st' := [jI 0]) rfl (p1 := 1480) rfl ?_
          cases hf
      · refine B_blk B (jlkn_ok RL) jcl_SKF [.lconst 1, .goto 4, .lcmp] (by decide +kernel) (ls' := [(0, jR jXS), (1, jR 0), (2, jR 74), (3, jR 87), (4, jI i), (5, jI r1.1), (6, jI r2.1)]) (st' := [jI (jCm (r2.2 87 0) 1)]) rfl (p1 := 1476) rfl ?_
        refine J_if_eq B.1 (off := 5) (tgt := 1481) (by decide +kernel) (by decide) hf (fun hf => ?_) (fun hf => ?_)
        · refine B_blk B (jlkn_ok RL) jcl_SKF [.goto 2142] (by decide +kernel) (ls' := [(0, jR jXS), (1, jR 0), (2, jR 74), (3, jR 87), (4, jI i), (5, jI r1.1), (6, jI r2.1)]) (st' := []) rfl (p1 := 3623) rfl ?_
          refine J_pick [0, 1, 2, 3, 4] (ls' := [(0, jR jXS), (1, jR 0), (2, jR 74), (3, jR 87), (4, jI i)]) rfl ?_
          cases hf
          exact J_widen (by omega) (by omega) hx
        · refine B_blk B (jlkn_ok RL) jcl_SKF [.iconst 0] (by decide +kernel) (ls' := [(0, jR jXS), (1, jR 0), (2, jR 74), (3, jR 87), (4, jI i), (5, jI r1.1), (6, jI r2.1)]) (st' := [jI 0]) rfl (p1 := 1480) rfl ?_
          cases hf
    · refine B_blk B (jlkn_ok RL) jcl_SKF [.goto 2142] (by decide +kernel) (ls' := [(0, jR jXS), (1, jR 0), (2, jR 74), (3, jR 87), (4, jI i), (5, jI r1.1), (6, jI r2.1)]) (st' := []) rfl (p1 := 3623) rfl ?_
      refine J_pick [0, 1, 2, 3, 4] (ls' := [(0, jR jXS), (1, jR 0), (2, jR 74), (3, jR 87), (4, jI i)]) rfl ?_
      cases hf
      exact J_widen (by omega) (by omega) hx
  · refine B_blk B (jlkn_ok RL) jcl_SKF [.iconst 0] (by decide +kernel) (ls' := [(0, jR jXS), (1, jR 0), (2, jR 74), (3, jR 87), (4, jI i), (5, jI r1.1), (6, jI r2.1)]) (st' := [jI 0]) rfl (p1 := 1456) rfl ?_
    cases hf

def f_case_17 (sx : Int → Int) (L i : Int) (m : jMu) : Option jMu :=
  (if 0 ≤ jW (i + 1) ∧ jW (i + 1) < L then (if 0 ≤ jW (i + 2) ∧ jW (i + 2) < L then (if 0 ≤ jW (i + 3) ∧ jW (i + 3) < L then (if 0 ≤ jW (i + 4) ∧ jW (i + 4) < L then (if 0 ≤ jW (i + 5) ∧ jW (i + 5) < L then (f_L_job (sx (jW (i + 1))) (sx (jW (i + 2))) (sx (jW (i + 3))) (sx (jW (i + 4))) (sx (jW (i + 5))) m).bind fun r1 => (if 0 ≤ jW (i + 1) ∧ jW (i + 1) < L then (if 0 ≤ jW (i + 2) ∧ jW (i + 2) < L then (if 0 ≤ jW (i + 3) ∧ jW (i + 3) < L then (if 0 ≤ jW (i + 4) ∧ jW (i + 4) < L then (if 0 ≤ jW (i + 5) ∧ jW (i + 5) < L then (f_X10_job (sx (jW (i + 1))) (sx (jW (i + 2))) (sx (jW (i + 3))) (sx (jW (i + 4))) (sx (jW (i + 5))) r1.2).bind fun r2 => (f_X10_thrown r2.2).bind fun r3 => (if r3 = r1.1 then (if r1.1 = 0 then (if jCm (r2.2 87 0) r2.1 = 0 then some r2.2 else none) else some r2.2) else none) else none) else none) else none) else none) else none) else none) else none) else none) else none) else none)
theorem t_case_17 {X : jX} {L : Int} {sx : Int → Int} (hsx : jsx (xG X) L sx) (B : jB X cL_law RL 8 0 room_1 (some .boolean)) {k n : Nat} (hk : k ≤ 8900) (hn : n ≤ 89000) {i : Int} {m o : jMu} (hf : f_case_17 sx L i m = some o) (hx : J X SKF o (k + 5) (n + 30) 3623 [(0, jR jXS), (1, jR 0), (2, jR 74), (3, jR 87), (4, jI i)] []) : J X SKF m k n 1484 [(0, jR jXS), (1, jR 0), (2, jR 74), (3, jR 87), (4, jI i)] [] := by
  unfold f_case_17 at hf
  refine B_blk B (jlkn_ok RL) jcl_SKF [.aload_n 1, .aload_n 0, .iload 4, .iconst 1, .iadd] (by decide +kernel) (ls' := [(0, jR jXS), (1, jR 0), (2, jR 74), (3, jR 87), (4, jI i)]) (st' := [jI (jW (i + 1)), jR jXS, jR 0]) rfl (p1 := 1490) rfl ?_
  obtain ⟨g13, hf⟩ := jgd hf
  refine K_xald B hsx g13 (by decide +kernel) ?_
  refine B_blk B (jlkn_ok RL) jcl_SKF [.aload_n 0, .iload 4, .iconst 2, .iadd] (by decide +kernel) (ls' := [(0, jR jXS), (1, jR 0), (2, jR 74), (3, jR 87), (4, jI i)]) (st' := [jI (jW (i + 2)), jR jXS, jI (sx (jW (i + 1))), jR 0]) rfl (p1 := 1496) rfl ?_
  obtain ⟨g12, hf⟩ := jgd hf
  refine K_xald B hsx g12 (by decide +kernel) ?_
  refine B_blk B (jlkn_ok RL) jcl_SKF [.aload_n 0, .iload 4, .iconst 3, .iadd] (by decide +kernel) (ls' := [(0, jR jXS), (1, jR 0), (2, jR 74), (3, jR 87), (4, jI i)]) (st' := [jI (jW (i + 3)), jR jXS, jI (sx (jW (i + 2))), jI (sx (jW (i + 1))), jR 0]) rfl (p1 := 1502) rfl ?_
  obtain ⟨g11, hf⟩ := jgd hf
  refine K_xald B hsx g11 (by decide +kernel) ?_
  refine B_blk B (jlkn_ok RL) jcl_SKF [.aload_n 0, .iload 4, .iconst 4, .iadd] (by decide +kernel) (ls' := [(0, jR jXS), (1, jR 0), (2, jR 74), (3, jR 87), (4, jI i)]) (st' := [jI (jW (i + 4)), jR jXS, jI (sx (jW (i + 3))), jI (sx (jW (i + 2))), jI (sx (jW (i + 1))), jR 0]) rfl (p1 := 1508) rfl ?_
  obtain ⟨g10, hf⟩ := jgd hf
  refine K_xald B hsx g10 (by decide +kernel) ?_
  refine B_blk B (jlkn_ok RL) jcl_SKF [.aload_n 0, .iload 4, .iconst 5, .iadd] (by decide +kernel) (ls' := [(0, jR jXS), (1, jR 0), (2, jR 74), (3, jR 87), (4, jI i)]) (st' := [jI (jW (i + 5)), jR jXS, jI (sx (jW (i + 4))), jI (sx (jW (i + 3))), jI (sx (jW (i + 2))), jI (sx (jW (i + 1))), jR 0]) rfl (p1 := 1514) rfl ?_
  obtain ⟨g9, hf⟩ := jgd hf
  refine K_xald B hsx g9 (by decide +kernel) ?_
  refine B_blk B (jlkn_ok RL) jcl_SKF [.aload_n 3] (by decide +kernel) (ls' := [(0, jR jXS), (1, jR 0), (2, jR 74), (3, jR 87), (4, jI i)]) (st' := [jR 87, jI (sx (jW (i + 5))), jI (sx (jW (i + 4))), jI (sx (jW (i + 3))), jI (sx (jW (i + 2))), jI (sx (jW (i + 1))), jR 0]) rfl (p1 := 1516) rfl ?_
  obtain ⟨r1, h1, hf⟩ := jbd hf
  refine B_callH B (Nat.zero_le _) (μ' := r1.2) (k' := k + 3) (n' := n + 18) ca_L_job sa_L_job lk_L_228 (t_L_job B.tr h1) (Nat.le_refl _) (jRoom (K := 9000) (N := 90000) (by omega) (by omega) rfl) (rest := []) rfl rfl (Nat.le_of_ble_eq_true rfl) (by decide +kernel) rfl rfl (st' := [jI r1.1]) rfl ?_
  refine B_blk B (jlkn_ok RL) jcl_SKF [.istore 5, .aload_n 2, .aload_n 0, .iload 4, .iconst 1, .iadd] (by decide +kernel) (ls' := [(0, jR jXS), (1, jR 0), (2, jR 74), (3, jR 87), (4, jI i), (5, jI r1.1)]) (st' := [jI (jW (i + 1)), jR jXS, jR 74]) rfl (p1 := 1527) rfl ?_
  obtain ⟨g8, hf⟩ := jgd hf
  refine K_xald B hsx g8 (by decide +kernel) ?_
  refine B_blk B (jlkn_ok RL) jcl_SKF [.aload_n 0, .iload 4, .iconst 2, .iadd] (by decide +kernel) (ls' := [(0, jR jXS), (1, jR 0), (2, jR 74), (3, jR 87), (4, jI i), (5, jI r1.1)]) (st' := [jI (jW (i + 2)), jR jXS, jI (sx (jW (i + 1))), jR 74]) rfl (p1 := 1533) rfl ?_
  obtain ⟨g7, hf⟩ := jgd hf
  refine K_xald B hsx g7 (by decide +kernel) ?_
  refine B_blk B (jlkn_ok RL) jcl_SKF [.aload_n 0, .iload 4, .iconst 3, .iadd] (by decide +kernel) (ls' := [(0, jR jXS), (1, jR 0), (2, jR 74), (3, jR 87), (4, jI i), (5, jI r1.1)]) (st' := [jI (jW (i + 3)), jR jXS, jI (sx (jW (i + 2))), jI (sx (jW (i + 1))), jR 74]) rfl (p1 := 1539) rfl ?_
  obtain ⟨g6, hf⟩ := jgd hf
  refine K_xald B hsx g6 (by decide +kernel) ?_
  refine B_blk B (jlkn_ok RL) jcl_SKF [.aload_n 0, .iload 4, .iconst 4, .iadd] (by decide +kernel) (ls' := [(0, jR jXS), (1, jR 0), (2, jR 74), (3, jR 87), (4, jI i), (5, jI r1.1)]) (st' := [jI (jW (i + 4)), jR jXS, jI (sx (jW (i + 3))), jI (sx (jW (i + 2))), jI (sx (jW (i + 1))), jR 74]) rfl (p1 := 1545) rfl ?_
  obtain ⟨g5, hf⟩ := jgd hf
  refine K_xald B hsx g5 (by decide +kernel) ?_
  refine B_blk B (jlkn_ok RL) jcl_SKF [.aload_n 0, .iload 4, .iconst 5, .iadd] (by decide +kernel) (ls' := [(0, jR jXS), (1, jR 0), (2, jR 74), (3, jR 87), (4, jI i), (5, jI r1.1)]) (st' := [jI (jW (i + 5)), jR jXS, jI (sx (jW (i + 4))), jI (sx (jW (i + 3))), jI (sx (jW (i + 2))), jI (sx (jW (i + 1))), jR 74]) rfl (p1 := 1551) rfl ?_
  obtain ⟨g4, hf⟩ := jgd hf
  refine K_xald B hsx g4 (by decide +kernel) ?_
  obtain ⟨r2, h2, hf⟩ := jbd hf
  refine B_callV B (Nat.zero_le _) (μ' := r2.2) (k' := k + 3) (n' := n + 18) ca_X10_job in_X10_job se_X10_job lk_L_230 (t_X10_job B.tr h2) (Nat.le_refl _) (jRoom (K := 9000) (N := 90000) (by omega) (by omega) rfl) rfl rfl (rest := []) rfl rfl (Nat.le_of_ble_eq_true rfl) (by decide +kernel) rfl rfl (st' := [jI r2.1]) rfl ?_
  refine B_blk B (jlkn_ok RL) jcl_SKF [.istore 6, .aload_n 2] (by decide +kernel) (ls' := [(0, jR jXS), (1, jR 0), (2, jR 74), (3, jR 87), (4, jI i), (5, jI r1.1), (6, jI r2.1)]) (st' := [jR 74]) rfl (p1 := 1558) rfl ?_
  obtain ⟨r3, h3, hf⟩ := jbd hf
  refine B_callV B (Nat.zero_le _) (μ' := r2.2) (k' := k + 3) (n' := n + 18) ca_X10_thrown in_X10_thrown se_X10_thrown lk_L_174 (t_X10_thrown B.tr h3) (Nat.le_refl _) (jRoom (K := 9000) (N := 90000) (by omega) (by omega) rfl) rfl rfl (rest := []) rfl rfl (Nat.le_of_ble_eq_true rfl) (by decide +kernel) rfl rfl (st' := [jI r3]) rfl ?_
  refine B_blk B (jlkn_ok RL) jcl_SKF [.iload 5] (by decide +kernel) (ls' := [(0, jR jXS), (1, jR 0), (2, jR 74), (3, jR 87), (4, jI i), (5, jI r1.1), (6, jI r2.1)]) (st' := [jI r1.1, jI r3]) rfl (p1 := 1563) rfl ?_
  refine J_icmp_eq B.1 (off := 5) (tgt := 1568) (by decide +kernel) (by decide) hf (fun hf => ?_) (fun hf => ?_)
  · refine B_blk B (jlkn_ok RL) jcl_SKF [.iload 5] (by decide +kernel) (ls' := [(0, jR jXS), (1, jR 0), (2, jR 74), (3, jR 87), (4, jI i), (5, jI r1.1), (6, jI r2.1)]) (st' := [jI r1.1]) rfl (p1 := 1570) rfl ?_
    refine J_if_ne B.1 (off := 15) (tgt := 1585) (by decide +kernel) (by decide) hf (fun hf => ?_) (fun hf => ?_)
    · refine B_blk B (jlkn_ok RL) jcl_SKF [.aload_n 3, .iconst 0] (by decide +kernel) (ls' := [(0, jR jXS), (1, jR 0), (2, jR 74), (3, jR 87), (4, jI i), (5, jI r1.1), (6, jI r2.1)]) (st' := [jI 0, jR 87]) rfl (p1 := 1575) rfl ?_
      refine K_lald (lenI := 1) B rfl rfl (by decide) (by decide +kernel) ?_
      refine B_blk B (jlkn_ok RL) jcl_SKF [.iload 6, .i2l, .lcmp] (by decide +kernel) (ls' := [(0, jR jXS), (1, jR 0), (2, jR 74), (3, jR 87), (4, jI i), (5, jI r1.1), (6, jI r2.1)]) (st' := [jI (jCm (r2.2 87 0) r2.1)]) rfl (p1 := 1580) rfl ?_
      refine J_if_eq B.1 (off := 5) (tgt := 1585) (by decide +kernel) (by decide) hf (fun hf => ?_) (fun hf => ?_)
      · refine B_blk B (jlkn_ok RL) jcl_SKF [.goto 2038] (by decide +kernel) (ls' := [(0, jR jXS), (1, jR 0), (2, jR 74), (3, jR 87), (4, jI i), (5, jI r1.1), (6, jI r2.1)]) (st' := []) rfl (p1 := 3623) rfl ?_
        refine J_pick [0, 1, 2, 3, 4] (ls' := [(0, jR jXS), (1, jR 0), (2, jR 74), (3, jR 87), (4, jI i)]) rfl ?_
        cases hf
        exact J_widen (by omega) (by omega) hx
      · refine B_blk B (jlkn_ok RL) jcl_SKF [.iconst 0] (by decide +kernel) (ls' := [(0, jR jXS), (1, jR 0), (2, jR 74), (3, jR 87), (4, jI i), (5, jI r1.1), (6, jI r2.1)]) (st' := [jI 0]) rfl (p1 := 1584) rfl ?_
        cases hf
    · refine B_blk B (jlkn_ok RL) jcl_SKF [.goto 2038] (by decide +kernel) (ls' := [(0, jR jXS), (1, jR 0), (2, jR 74), (3, jR 87), (4, jI i), (5, jI r1.1), (6, jI r2.1)]) (st' := []) rfl (p1 := 3623) rfl ?_
      refine J_pick [0, 1, 2, 3, 4] (ls' := [(0, jR jXS), (1, jR 0), (2, jR 74), (3, jR 87), (4, jI i)]) rfl ?_
      cases hf
      exact J_widen (by omega) (by omega) hx
  · refine B_blk B (jlkn_ok RL) jcl_SKF [.iconst 0] (by decide +kernel) (ls' := [(0, jR jXS), (1, jR 0), (2, jR 74), (3, jR 87), (4, jI i), (5, jI r1.1), (6, jI r2.1)]) (st' := [jI 0]) rfl (p1 := 1567) rfl ?_
    cases hf

def f_case_18 (sx : Int → Int) (L i : Int) (m : jMu) : Option jMu :=
  (if 0 ≤ jW (i + 1) ∧ jW (i + 1) < L then (if 0 ≤ jW (i + 2) ∧ jW (i + 2) < L then (f_L_look (sx (jW (i + 1))) (sx (jW (i + 2))) m).bind fun r1 => (if 0 ≤ jW (i + 1) ∧ jW (i + 1) < L then (if 0 ≤ jW (i + 2) ∧ jW (i + 2) < L then (f_X10_look (sx (jW (i + 1))) (sx (jW (i + 2))) r1.2).bind fun r2 => (f_X10_thrown r2.2).bind fun r3 => (if r3 = r1.1 then (if r1.1 = 0 then (if jCm (r2.2 87 0) r2.1 = 0 then some r2.2 else none) else some r2.2) else none) else none) else none) else none) else none)
theorem t_case_18 {X : jX} {L : Int} {sx : Int → Int} (hsx : jsx (xG X) L sx) (B : jB X cL_law RL 8 0 room_1 (some .boolean)) {k n : Nat} (hk : k ≤ 8900) (hn : n ≤ 89000) {i : Int} {m o : jMu} (hf : f_case_18 sx L i m = some o) (hx : J X SKF o (k + 5) (n + 30) 3623 [(0, jR jXS), (1, jR 0), (2, jR 74), (3, jR 87), (4, jI i)] []) : J X SKF m k n 1588 [(0, jR jXS), (1, jR 0), (2, jR 74), (3, jR 87), (4, jI i)] [] := by
  unfold f_case_18 at hf
  refine B_blk B (jlkn_ok RL) jcl_SKF [.aload_n 1, .aload_n 0, .iload 4, .iconst 1, .iadd] (by decide +kernel) (ls' := [(0, jR jXS), (1, jR 0), (2, jR 74), (3, jR 87), (4, jI i)]) (st' := [jI (jW (i + 1)), jR jXS, jR 0]) rfl (p1 := 1594) rfl ?_
  obtain ⟨g7, hf⟩ := jgd hf
  refine K_xald B hsx g7 (by decide +kernel) ?_
  refine B_blk B (jlkn_ok RL) jcl_SKF [.aload_n 0, .iload 4, .iconst 2, .iadd] (by decide +kernel) (ls' := [(0, jR jXS), (1, jR 0), (2, jR 74), (3, jR 87), (4, jI i)]) (st' := [jI (jW (i + 2)), jR jXS, jI (sx (jW (i + 1))), jR 0]) rfl (p1 := 1600) rfl ?_
  obtain ⟨g6, hf⟩ := jgd hf
  refine K_xald B hsx g6 (by decide +kernel) ?_
  refine B_blk B (jlkn_ok RL) jcl_SKF [.aload_n 3] (by decide +kernel) (ls' := [(0, jR jXS), (1, jR 0), (2, jR 74), (3, jR 87), (4, jI i)]) (st' := [jR 87, jI (sx (jW (i + 2))), jI (sx (jW (i + 1))), jR 0]) rfl (p1 := 1602) rfl ?_
  obtain ⟨r1, h1, hf⟩ := jbd hf
  refine B_callH B (Nat.zero_le _) (μ' := r1.2) (k' := k + 2) (n' := n + 12) ca_L_look sa_L_look lk_L_231 (t_L_look B.tr h1) (Nat.le_refl _) (jRoom (K := 9000) (N := 90000) (by omega) (by omega) rfl) (rest := []) rfl rfl (Nat.le_of_ble_eq_true rfl) (by decide +kernel) rfl rfl (st' := [jI r1.1]) rfl ?_
  refine B_blk B (jlkn_ok RL) jcl_SKF [.istore 5, .aload_n 2, .aload_n 0, .iload 4, .iconst 1, .iadd] (by decide +kernel) (ls' := [(0, jR jXS), (1, jR 0), (2, jR 74), (3, jR 87), (4, jI i), (5, jI r1.1)]) (st' := [jI (jW (i + 1)), jR jXS, jR 74]) rfl (p1 := 1613) rfl ?_
  obtain ⟨g5, hf⟩ := jgd hf
  refine K_xald B hsx g5 (by decide +kernel) ?_
  refine B_blk B (jlkn_ok RL) jcl_SKF [.aload_n 0, .iload 4, .iconst 2, .iadd] (by decide +kernel) (ls' := [(0, jR jXS), (1, jR 0), (2, jR 74), (3, jR 87), (4, jI i), (5, jI r1.1)]) (st' := [jI (jW (i + 2)), jR jXS, jI (sx (jW (i + 1))), jR 74]) rfl (p1 := 1619) rfl ?_
  obtain ⟨g4, hf⟩ := jgd hf
  refine K_xald B hsx g4 (by decide +kernel) ?_
  obtain ⟨r2, h2, hf⟩ := jbd hf
  refine B_callV B (Nat.zero_le _) (μ' := r2.2) (k' := k + 2) (n' := n + 12) ca_X10_look in_X10_look se_X10_look lk_L_233 (t_X10_look B.tr h2) (Nat.le_refl _) (jRoom (K := 9000) (N := 90000) (by omega) (by omega) rfl) rfl rfl (rest := []) rfl rfl (Nat.le_of_ble_eq_true rfl) (by decide +kernel) rfl rfl (st' := [jI r2.1]) rfl ?_
  refine B_blk B (jlkn_ok RL) jcl_SKF [.istore 6, .aload_n 2] (by decide +kernel) (ls' := [(0, jR jXS), (1, jR 0), (2, jR 74), (3, jR 87), (4, jI i), (5, jI r1.1), (6, jI r2.1)]) (st' := [jR 74]) rfl (p1 := 1626) rfl ?_
  obtain ⟨r3, h3, hf⟩ := jbd hf
  refine B_callV B (Nat.zero_le _) (μ' := r2.2) (k' := k + 2) (n' := n + 12) ca_X10_thrown in_X10_thrown se_X10_thrown lk_L_174 (t_X10_thrown B.tr h3) (Nat.le_refl _) (jRoom (K := 9000) (N := 90000) (by omega) (by omega) rfl) rfl rfl (rest := []) rfl rfl (Nat.le_of_ble_eq_true rfl) (by decide +kernel) rfl rfl (st' := [jI r3]) rfl ?_
  refine B_blk B (jlkn_ok RL) jcl_SKF [.iload 5] (by decide +kernel) (ls' := [(0, jR jXS), (1, jR 0), (2, jR 74), (3, jR 87), (4, jI i), (5, jI r1.1), (6, jI r2.1)]) (st' := [jI r1.1, jI r3]) rfl (p1 := 1631) rfl ?_
  refine J_icmp_eq B.1 (off := 5) (tgt := 1636) (by decide +kernel) (by decide) hf (fun hf => ?_) (fun hf => ?_)
  · refine B_blk B (jlkn_ok RL) jcl_SKF [.iload 5] (by decide +kernel) (ls' := [(0, jR jXS), (1, jR 0), (2, jR 74), (3, jR 87), (4, jI i), (5, jI r1.1), (6, jI r2.1)]) (st' := [jI r1.1]) rfl (p1 := 1638) rfl ?_
    refine J_if_ne B.1 (off := 15) (tgt := 1653) (by decide +kernel) (by decide) hf (fun hf => ?_) (fun hf => ?_)
    · refine B_blk B (jlkn_ok RL) jcl_SKF [.aload_n 3, .iconst 0] (by decide +kernel) (ls' := [(0, jR jXS), (1, jR 0), (2, jR 74), (3, jR 87), (4, jI i), (5, jI r1.1), (6, jI r2.1)]) (st' := [jI 0, jR 87]) rfl (p1 := 1643) rfl ?_
      refine K_lald (lenI := 1) B rfl rfl (by decide) (by decide +kernel) ?_
      refine B_blk B (jlkn_ok RL) jcl_SKF [.iload 6, .i2l, .lcmp] (by decide +kernel) (ls' := [(0, jR jXS), (1, jR 0), (2, jR 74), (3, jR 87), (4, jI i), (5, jI r1.1), (6, jI r2.1)]) (st' := [jI (jCm (r2.2 87 0) r2.1)]) rfl (p1 := 1648) rfl ?_
      refine J_if_eq B.1 (off := 5) (tgt := 1653) (by decide +kernel) (by decide) hf (fun hf => ?_) (fun hf => ?_)
      · refine B_blk B (jlkn_ok RL) jcl_SKF [.goto 1970] (by decide +kernel) (ls' := [(0, jR jXS), (1, jR 0), (2, jR 74), (3, jR 87), (4, jI i), (5, jI r1.1), (6, jI r2.1)]) (st' := []) rfl (p1 := 3623) rfl ?_
        refine J_pick [0, 1, 2, 3, 4] (ls' := [(0, jR jXS), (1, jR 0), (2, jR 74), (3, jR 87), (4, jI i)]) rfl ?_
        cases hf
        exact J_widen (by omega) (by omega) hx
      · refine B_blk B (jlkn_ok RL) jcl_SKF [.iconst 0] (by decide +kernel) (ls' := [(0, jR jXS), (1, jR 0), (2, jR 74), (3, jR 87), (4, jI i), (5, jI r1.1), (6, jI r2.1)]) (st' := [jI 0]) rfl (p1 := 1652) rfl ?_
        cases hf
    · refine B_blk B (jlkn_ok RL) jcl_SKF [.goto 1970] (by decide +kernel) (ls' := [(0, jR jXS), (1, jR 0), (2, jR 74), (3, jR 87), (4, jI i), (5, jI r1.1), (6, jI r2.1)]) (st' := []) rfl (p1 := 3623) rfl ?_
      refine J_pick [0, 1, 2, 3, 4] (ls' := [(0, jR jXS), (1, jR 0), (2, jR 74), (3, jR 87), (4, jI i)]) rfl ?_
      cases hf
      exact J_widen (by omega) (by omega) hx
  · refine B_blk B (jlkn_ok RL) jcl_SKF [.iconst 0] (by decide +kernel) (ls' := [(0, jR jXS), (1, jR 0), (2, jR 74), (3, jR 87), (4, jI i), (5, jI r1.1), (6, jI r2.1)]) (st' := [jI 0]) rfl (p1 := 1635) rfl ?_
    cases hf

def f_case_19 (sx : Int → Int) (L i : Int) (m : jMu) : Option jMu :=
  (if 0 ≤ jW (i + 1) ∧ jW (i + 1) < L then (f_L_peel (sx (jW (i + 1))) m).bind fun r1 => (if 0 ≤ jW (i + 1) ∧ jW (i + 1) < L then (f_X10_peel (sx (jW (i + 1))) r1.2).bind fun r2 => (f_X10_thrown r2.2).bind fun r3 => (if r3 = r1.1 then (if r1.1 = 0 then (if r2.1 = 0 then (if jCm (r2.2 87 0) 0 = 0 then some r2.2 else none) else (if jCm (r2.2 87 0) 1 = 0 then some r2.2 else none)) else some r2.2) else none) else none) else none)
theorem t_case_19 {X : jX} {L : Int} {sx : Int → Int} (hsx : jsx (xG X) L sx) (B : jB X cL_law RL 8 0 room_1 (some .boolean)) {k n : Nat} (hk : k ≤ 8900) (hn : n ≤ 89000) {i : Int} {m o : jMu} (hf : f_case_19 sx L i m = some o) (hx : J X SKF o (k + 5) (n + 30) 3623 [(0, jR jXS), (1, jR 0), (2, jR 74), (3, jR 87), (4, jI i)] []) : J X SKF m k n 1656 [(0, jR jXS), (1, jR 0), (2, jR 74), (3, jR 87), (4, jI i)] [] := by
  unfold f_case_19 at hf
  refine B_blk B (jlkn_ok RL) jcl_SKF [.aload_n 1, .aload_n 0, .iload 4, .iconst 1, .iadd] (by decide +kernel) (ls' := [(0, jR jXS), (1, jR 0), (2, jR 74), (3, jR 87), (4, jI i)]) (st' := [jI (jW (i + 1)), jR jXS, jR 0]) rfl (p1 := 1662) rfl ?_
  obtain ⟨g5, hf⟩ := jgd hf
  refine K_xald B hsx g5 (by decide +kernel) ?_
  refine B_blk B (jlkn_ok RL) jcl_SKF [.aload_n 3] (by decide +kernel) (ls' := [(0, jR jXS), (1, jR 0), (2, jR 74), (3, jR 87), (4, jI i)]) (st' := [jR 87, jI (sx (jW (i + 1))), jR 0]) rfl (p1 := 1664) rfl ?_
  obtain ⟨r1, h1, hf⟩ := jbd hf
  refine B_callH B (Nat.zero_le _) (μ' := r1.2) (k' := k + 1) (n' := n + 6) ca_L_peel sa_L_peel lk_L_234 (t_L_peel B.tr h1) (Nat.le_refl _) (jRoom (K := 9000) (N := 90000) (by omega) (by omega) rfl) (rest := []) rfl rfl (Nat.le_of_ble_eq_true rfl) (by decide +kernel) rfl rfl (st' := [jI r1.1]) rfl ?_
  refine B_blk B (jlkn_ok RL) jcl_SKF [.istore 5, .aload_n 2, .aload_n 0, .iload 4, .iconst 1, .iadd] (by decide +kernel) (ls' := [(0, jR jXS), (1, jR 0), (2, jR 74), (3, jR 87), (4, jI i), (5, jI r1.1)]) (st' := [jI (jW (i + 1)), jR jXS, jR 74]) rfl (p1 := 1675) rfl ?_
  obtain ⟨g4, hf⟩ := jgd hf
  refine K_xald B hsx g4 (by decide +kernel) ?_
  obtain ⟨r2, h2, hf⟩ := jbd hf
  refine B_callV B (Nat.zero_le _) (μ' := r2.2) (k' := k + 1) (n' := n + 6) ca_X10_peel in_X10_peel se_X10_peel lk_L_236 (t_X10_peel B.tr h2) (Nat.le_refl _) (jRoom (K := 9000) (N := 90000) (by omega) (by omega) rfl) rfl rfl (rest := []) rfl rfl (Nat.le_of_ble_eq_true rfl) (by decide +kernel) rfl rfl (st' := [jI r2.1]) rfl ?_
  refine B_blk B (jlkn_ok RL) jcl_SKF [.istore 6, .aload_n 2] (by decide +kernel) (ls' := [(0, jR jXS), (1, jR 0), (2, jR 74), (3, jR 87), (4, jI i), (5, jI r1.1), (6, jI r2.1)]) (st' := [jR 74]) rfl (p1 := 1682) rfl ?_
  obtain ⟨r3, h3, hf⟩ := jbd hf
  refine B_callV B (Nat.zero_le _) (μ' := r2.2) (k' := k + 1) (n' := n + 6) ca_X10_thrown in_X10_thrown se_X10_thrown lk_L_174 (t_X10_thrown B.tr h3) (Nat.le_refl _) (jRoom (K := 9000) (N := 90000) (by omega) (by omega) rfl) rfl rfl (rest := []) rfl rfl (Nat.le_of_ble_eq_true rfl) (by decide +kernel) rfl rfl (st' := [jI r3]) rfl ?_
  refine B_blk B (jlkn_ok RL) jcl_SKF [.iload 5] (by decide +kernel) (ls' := [(0, jR jXS), (1, jR 0), (2, jR 74), (3, jR 87), (4, jI i), (5, jI r1.1), (6, jI r2.1)]) (st' := [jI r1.1, jI r3]) rfl (p1 := 1687) rfl ?_
  refine J_icmp_eq B.1 (off := 5) (tgt := 1692) (by decide +kernel) (by decide) hf (fun hf => ?_) (fun hf => ?_)
  · refine B_blk B (jlkn_ok RL) jcl_SKF [.iload 5] (by decide +kernel) (ls' := [(0, jR jXS), (1, jR 0), (2, jR 74), (3, jR 87), (4, jI i), (5, jI r1.1), (6, jI r2.1)]) (st' := [jI r1.1]) rfl (p1 := 1694) rfl ?_
    refine J_if_ne B.1 (off := 22) (tgt := 1716) (by decide +kernel) (by decide) hf (fun hf => ?_) (fun hf => ?_)
    · refine B_blk B (jlkn_ok RL) jcl_SKF [.aload_n 3, .iconst 0] (by decide +kernel) (ls' := [(0, jR jXS), (1, jR 0), (2, jR 74), (3, jR 87), (4, jI i), (5, jI r1.1), (6, jI r2.1)]) (st' := [jI 0, jR 87]) rfl (p1 := 1699) rfl ?_
      refine K_lald (lenI := 1) B rfl rfl (by decide) (by decide +kernel) ?_
      refine B_blk B (jlkn_ok RL) jcl_SKF [.iload 6] (by decide +kernel) (ls' := [(0, jR jXS), (1, jR 0), (2, jR 74), (3, jR 87), (4, jI i), (5, jI r1.1), (6, jI r2.1)]) (st' := [jI r2.1, jL (r2.2 87 0)]) rfl (p1 := 1702) rfl ?_
      refine J_if_eq B.1 (off := 7) (tgt := 1709) (by decide +kernel) (by decide) hf (fun hf => ?_) (fun hf => ?_)
      · refine B_blk B (jlkn_ok RL) jcl_SKF [.lconst 0, .lcmp] (by decide +kernel) (ls' := [(0, jR jXS), (1, jR 0), (2, jR 74), (3, jR 87), (4, jI i), (5, jI r1.1), (6, jI r2.1)]) (st' := [jI (jCm (r2.2 87 0) 0)]) rfl (p1 := 1711) rfl ?_
        refine J_if_eq B.1 (off := 5) (tgt := 1716) (by decide +kernel) (by decide) hf (fun hf => ?_) (fun hf => ?_)
        · refine B_blk B (jlkn_ok RL) jcl_SKF [.goto 1907] (by decide +kernel) (ls' := [(0, jR jXS), (1, jR 0), (2, jR 74), (3, jR 87), (4, jI i), (5, jI r1.1), (6, jI r2.1)]) (st' := []) rfl (p1 := 3623) rfl ?_
          refine J_pick [0, 1, 2, 3, 4] (ls' := [(0, jR jXS), (1, jR 0), (2, jR 74), (3, jR 87), (4, jI i)]) rfl ?_
          cases hf
          exact J_widen (by omega) (by omega) hx
        · refine B_blk B (jlkn_ok RL) jcl_SKF [.iconst 0] (by decide +kernel) (ls' := [(0, jR jXS), (1, jR 0), (2, jR 74), (3, jR 87), (4, jI i), (5, jI r1.1), (6, jI r2.1)]) (st' := [jI 0]) rfl (p1 := 1715) rfl ?_
          cases hf
      · refine B_blk B (jlkn_ok RL) jcl_SKF [.lconst 1, .goto 4, .lcmp] (by decide +kernel) (ls' := [(0, jR jXS), (1, jR 0), (2, jR 74), (3, jR 87), (4, jI i), (5, jI r1.1), (6, jI r2.1)]) (st' := [jI (jCm (r2.2 87 0) 1)]) rfl (p1 := 1711) rfl ?_
        refine J_if_eq B.1 (off := 5) (tgt := 1716) (by decide +kernel) (by decide) hf (fun hf => ?_) (fun hf => ?_)
        · refine B_blk B (jlkn_ok RL) jcl_SKF [.goto 1907] (by decide +kernel) (ls' := [(0, jR jXS), (1, jR 0), (2, jR 74), (3, jR 87), (4, jI i), (5, jI r1.1), (6, jI r2.1)]) (st' := []) rfl (p1 := 3623) rfl ?_
          refine J_pick [0, 1, 2, 3, 4] (ls' := [(0, jR jXS), (1, jR 0), (2, jR 74), (3, jR 87), (4, jI i)]) rfl ?_
          cases hf
          exact J_widen (by omega) (by omega) hx
        · refine B_blk B (jlkn_ok RL) jcl_SKF [.iconst 0] (by decide +kernel) (ls' := [(0, jR jXS), (1, jR 0), (2, jR 74), (3, jR 87), (4, jI i), (5, jI r1.1), (6, jI r2.1)]) (st' := [jI 0]) rfl (p1 := 1715) rfl ?_
          cases hf
    · refine B_blk B (jlkn_ok RL) jcl_SKF [.goto 1907] (by decide +kernel) (ls' := [(0, jR jXS), (1, jR 0), (2, jR 74), (3, jR 87), (4, jI i), (5, jI r1.1), (6, jI r2.1)]) (st' := []) rfl (p1 := 3623) rfl ?_
      refine J_pick [0, 1, 2, 3, 4] (ls' := [(0, jR jXS), (1, jR 0), (2, jR 74), (3, jR 87), (4, jI i)]) rfl ?_
      cases hf
      exact J_widen (by omega) (by omega) hx
  · refine B_blk B (jlkn_ok RL) jcl_SKF [.iconst 0] (by decide +kernel) (ls' := [(0, jR jXS), (1, jR 0), (2, jR 74), (3, jR 87), (4, jI i), (5, jI r1.1), (6, jI r2.1)]) (st' := [jI 0]) rfl (p1 := 1691) rfl ?_
    cases hf

def f_case_20 (sx : Int → Int) (L i : Int) (m : jMu) : Option jMu :=
  (if 0 ≤ jW (i + 1) ∧ jW (i + 1) < L then (f_L_fail (sx (jW (i + 1))) m).bind fun r1 => (if 0 ≤ jW (i + 1) ∧ jW (i + 1) < L then (f_X10_fail (sx (jW (i + 1))) r1.2).bind fun r2 => (f_X10_thrown r2.2).bind fun r3 => (if r3 = r1.1 then (if r1.1 = 0 then (if r2.1 = 0 then (if jCm (r2.2 87 0) 0 = 0 then some r2.2 else none) else (if jCm (r2.2 87 0) 1 = 0 then some r2.2 else none)) else some r2.2) else none) else none) else none)
theorem t_case_20 {X : jX} {L : Int} {sx : Int → Int} (hsx : jsx (xG X) L sx) (B : jB X cL_law RL 8 0 room_1 (some .boolean)) {k n : Nat} (hk : k ≤ 8900) (hn : n ≤ 89000) {i : Int} {m o : jMu} (hf : f_case_20 sx L i m = some o) (hx : J X SKF o (k + 5) (n + 30) 3623 [(0, jR jXS), (1, jR 0), (2, jR 74), (3, jR 87), (4, jI i)] []) : J X SKF m k n 1719 [(0, jR jXS), (1, jR 0), (2, jR 74), (3, jR 87), (4, jI i)] [] := by
  unfold f_case_20 at hf
  refine B_blk B (jlkn_ok RL) jcl_SKF [.aload_n 1, .aload_n 0, .iload 4, .iconst 1, .iadd] (by decide +kernel) (ls' := [(0, jR jXS), (1, jR 0), (2, jR 74), (3, jR 87), (4, jI i)]) (st' := [jI (jW (i + 1)), jR jXS, jR 0]) rfl (p1 := 1725) rfl ?_
  obtain ⟨g5, hf⟩ := jgd hf
  refine K_xald B hsx g5 (by decide +kernel) ?_
  refine B_blk B (jlkn_ok RL) jcl_SKF [.aload_n 3] (by decide +kernel) (ls' := [(0, jR jXS), (1, jR 0), (2, jR 74), (3, jR 87), (4, jI i)]) (st' := [jR 87, jI (sx (jW (i + 1))), jR 0]) rfl (p1 := 1727) rfl ?_
  obtain ⟨r1, h1, hf⟩ := jbd hf
  refine B_callH B (Nat.zero_le _) (μ' := r1.2) (k' := k + 1) (n' := n + 6) ca_L_fail sa_L_fail lk_L_237 (t_L_fail B.tr h1) (Nat.le_refl _) (jRoom (K := 9000) (N := 90000) (by omega) (by omega) rfl) (rest := []) rfl rfl (Nat.le_of_ble_eq_true rfl) (by decide +kernel) rfl rfl (st' := [jI r1.1]) rfl ?_
  refine B_blk B (jlkn_ok RL) jcl_SKF [.istore 5, .aload_n 2, .aload_n 0, .iload 4, .iconst 1, .iadd] (by decide +kernel) (ls' := [(0, jR jXS), (1, jR 0), (2, jR 74), (3, jR 87), (4, jI i), (5, jI r1.1)]) (st' := [jI (jW (i + 1)), jR jXS, jR 74]) rfl (p1 := 1738) rfl ?_
  obtain ⟨g4, hf⟩ := jgd hf
  refine K_xald B hsx g4 (by decide +kernel) ?_
  obtain ⟨r2, h2, hf⟩ := jbd hf
  refine B_callV B (Nat.zero_le _) (μ' := r2.2) (k' := k + 1) (n' := n + 6) ca_X10_fail in_X10_fail se_X10_fail lk_L_239 (t_X10_fail B.tr h2) (Nat.le_refl _) (jRoom (K := 9000) (N := 90000) (by omega) (by omega) rfl) rfl rfl (rest := []) rfl rfl (Nat.le_of_ble_eq_true rfl) (by decide +kernel) rfl rfl (st' := [jI r2.1]) rfl ?_
  refine B_blk B (jlkn_ok RL) jcl_SKF [.istore 6, .aload_n 2] (by decide +kernel) (ls' := [(0, jR jXS), (1, jR 0), (2, jR 74), (3, jR 87), (4, jI i), (5, jI r1.1), (6, jI r2.1)]) (st' := [jR 74]) rfl (p1 := 1745) rfl ?_
  obtain ⟨r3, h3, hf⟩ := jbd hf
  refine B_callV B (Nat.zero_le _) (μ' := r2.2) (k' := k + 1) (n' := n + 6) ca_X10_thrown in_X10_thrown se_X10_thrown lk_L_174 (t_X10_thrown B.tr h3) (Nat.le_refl _) (jRoom (K := 9000) (N := 90000) (by omega) (by omega) rfl) rfl rfl (rest := []) rfl rfl (Nat.le_of_ble_eq_true rfl) (by decide +kernel) rfl rfl (st' := [jI r3]) rfl ?_
  refine B_blk B (jlkn_ok RL) jcl_SKF [.iload 5] (by decide +kernel) (ls' := [(0, jR jXS), (1, jR 0), (2, jR 74), (3, jR 87), (4, jI i), (5, jI r1.1), (6, jI r2.1)]) (st' := [jI r1.1, jI r3]) rfl (p1 := 1750) rfl ?_
  refine J_icmp_eq B.1 (off := 5) (tgt := 1755) (by decide +kernel) (by decide) hf (fun hf => ?_) (fun hf => ?_)
  · refine B_blk B (jlkn_ok RL) jcl_SKF [.iload 5] (by decide +kernel) (ls' := [(0, jR jXS), (1, jR 0), (2, jR 74), (3, jR 87), (4, jI i), (5, jI r1.1), (6, jI r2.1)]) (st' := [jI r1.1]) rfl (p1 := 1757) rfl ?_
    refine J_if_ne B.1 (off := 22) (tgt := 1779) (by decide +kernel) (by decide) hf (fun hf => ?_) (fun hf => ?_)
    · refine B_blk B (jlkn_ok RL) jcl_SKF [.aload_n 3, .iconst 0] (by decide +kernel) (ls' := [(0, jR jXS), (1, jR 0), (2, jR 74), (3, jR 87), (4, jI i), (5, jI r1.1), (6, jI r2.1)]) (st' := [jI 0, jR 87]) rfl (p1 := 1762) rfl ?_
      refine K_lald (lenI := 1) B rfl rfl (by decide) (by decide +kernel) ?_
      refine B_blk B (jlkn_ok RL) jcl_SKF [.iload 6] (by decide +kernel) (ls' := [(0, jR jXS), (1, jR 0), (2, jR 74), (3, jR 87), (4, jI i), (5, jI r1.1), (6, jI r2.1)]) (st' := [jI r2.1, jL (r2.2 87 0)]) rfl (p1 := 1765) rfl ?_
      refine J_if_eq B.1 (off := 7) (tgt := 1772) (by decide +kernel) (by decide) hf (fun hf => ?_) (fun hf => ?_)
      · refine B_blk B (jlkn_ok RL) jcl_SKF [.lconst 0, .lcmp] (by decide +kernel) (ls' := [(0, jR jXS), (1, jR 0), (2, jR 74), (3, jR 87), (4, jI i), (5, jI r1.1), (6, jI r2.1)]) (st' := [jI (jCm (r2.2 87 0) 0)]) rfl (p1 := 1774) rfl ?_
        refine J_if_eq B.1 (off := 5) (tgt := 1779) (by decide +kernel) (by decide) hf (fun hf => ?_) (fun hf => ?_)
        · refine B_blk B (jlkn_ok RL) jcl_SKF [.goto 1844] (by decide +kernel) (ls' := [(0, jR jXS), (1, jR 0), (2, jR 74), (3, jR 87), (4, jI i), (5, jI r1.1), (6, jI r2.1)]) (st' := []) rfl (p1 := 3623) rfl ?_
          refine J_pick [0, 1, 2, 3, 4] (ls' := [(0, jR jXS), (1, jR 0), (2, jR 74), (3, jR 87), (4, jI i)]) rfl ?_
          cases hf
          exact J_widen (by omega) (by omega) hx
        · refine B_blk B (jlkn_ok RL) jcl_SKF [.iconst 0] (by decide +kernel) (ls' := [(0, jR jXS), (1, jR 0), (2, jR 74), (3, jR 87), (4, jI i), (5, jI r1.1), (6, jI r2.1)]) (st' := [jI 0]) rfl (p1 := 1778) rfl ?_
          cases hf
      · refine B_blk B (jlkn_ok RL) jcl_SKF [.lconst 1, .goto 4, .lcmp] (by decide +kernel) (ls' := [(0, jR jXS), (1, jR 0), (2, jR 74), (3, jR 87), (4, jI i), (5, jI r1.1), (6, jI r2.1)]) (st' := [jI (jCm (r2.2 87 0) 1)]) rfl (p1 := 1774) rfl ?_
        refine J_if_eq B.1 (off := 5) (tgt := 1779) (by decide +kernel) (by decide) hf (fun hf => ?_) (fun hf => ?_)
        · refine B_blk B (jlkn_ok RL) jcl_SKF [.goto 1844] (by decide +kernel) (ls' := [(0, jR jXS), (1, jR 0), (2, jR 74), (3, jR 87), (4, jI i), (5, jI r1.1), (6, jI r2.1)]) (st' := []) rfl (p1 := 3623) rfl ?_
          refine J_pick [0, 1, 2, 3, 4] (ls' := [(0, jR jXS), (1, jR 0), (2, jR 74), (3, jR 87), (4, jI i)]) rfl ?_
          cases hf
          exact J_widen (by omega) (by omega) hx
        · refine B_blk B (jlkn_ok RL) jcl_SKF [.iconst 0] (by decide +kernel) (ls' := [(0, jR jXS), (1, jR 0), (2, jR 74), (3, jR 87), (4, jI i), (5, jI r1.1), (6, jI r2.1)]) (st' := [jI 0]) rfl (p1 := 1778) rfl ?_
          cases hf
    · refine B_blk B (jlkn_ok RL) jcl_SKF [.goto 1844] (by decide +kernel) (ls' := [(0, jR jXS), (1, jR 0), (2, jR 74), (3, jR 87), (4, jI i), (5, jI r1.1), (6, jI r2.1)]) (st' := []) rfl (p1 := 3623) rfl ?_
      refine J_pick [0, 1, 2, 3, 4] (ls' := [(0, jR jXS), (1, jR 0), (2, jR 74), (3, jR 87), (4, jI i)]) rfl ?_
      cases hf
      exact J_widen (by omega) (by omega) hx
  · refine B_blk B (jlkn_ok RL) jcl_SKF [.iconst 0] (by decide +kernel) (ls' := [(0, jR jXS), (1, jR 0), (2, jR 74), (3, jR 87), (4, jI i), (5, jI r1.1), (6, jI r2.1)]) (st' := [jI 0]) rfl (p1 := 1754) rfl ?_
    cases hf

def f_case_21 (sx : Int → Int) (L i : Int) (m : jMu) : Option jMu :=
  (if 0 ≤ jW (i + 1) ∧ jW (i + 1) < L then (if 0 ≤ jW (i + 2) ∧ jW (i + 2) < L then (if 0 ≤ jW (i + 3) ∧ jW (i + 3) < L then (f_L_last (sx (jW (i + 1))) (sx (jW (i + 2))) (sx (jW (i + 3))) m).bind fun r1 => (if 0 ≤ jW (i + 1) ∧ jW (i + 1) < L then (if 0 ≤ jW (i + 2) ∧ jW (i + 2) < L then (if 0 ≤ jW (i + 3) ∧ jW (i + 3) < L then (f_X10_last (sx (jW (i + 1))) (sx (jW (i + 2))) (sx (jW (i + 3))) r1.2).bind fun r2 => (f_X10_thrown r2.2).bind fun r3 => (if r3 = r1.1 then (if r1.1 = 0 then (if jCm (r2.2 87 0) r2.1 = 0 then some r2.2 else none) else some r2.2) else none) else none) else none) else none) else none) else none) else none)
theorem t_case_21 {X : jX} {L : Int} {sx : Int → Int} (hsx : jsx (xG X) L sx) (B : jB X cL_law RL 8 0 room_1 (some .boolean)) {k n : Nat} (hk : k ≤ 8900) (hn : n ≤ 89000) {i : Int} {m o : jMu} (hf : f_case_21 sx L i m = some o) (hx : J X SKF o (k + 5) (n + 30) 3623 [(0, jR jXS), (1, jR 0), (2, jR 74), (3, jR 87), (4, jI i)] []) : J X SKF m k n 1782 [(0, jR jXS), (1, jR 0), (2, jR 74), (3, jR 87), (4, jI i)] [] := by
  unfold f_case_21 at hf
  refine B_blk B (jlkn_ok RL) jcl_SKF [.aload_n 1, .aload_n 0, .iload 4, .iconst 1, .iadd] (by decide +kernel) (ls' := [(0, jR jXS), (1, jR 0), (2, jR 74), (3, jR 87), (4, jI i)]) (st' := [jI (jW (i + 1)), jR jXS, jR 0]) rfl (p1 := 1788) rfl ?_
  obtain ⟨g9, hf⟩ := jgd hf
  refine K_xald B hsx g9 (by decide +kernel) ?_
  refine B_blk B (jlkn_ok RL) jcl_SKF [.aload_n 0, .iload 4, .iconst 2, .iadd] (by decide +kernel) (ls' := [(0, jR jXS), (1, jR 0), (2, jR 74), (3, jR 87), (4, jI i)]) (st' := [jI (jW (i + 2)), jR jXS, jI (sx (jW (i + 1))), jR 0]) rfl (p1 := 1794) rfl ?_
  obtain ⟨g8, hf⟩ := jgd hf
  refine K_xald B hsx g8 (by decide +kernel) ?_
  refine B_blk B (jlkn_ok RL) jcl_SKF [.aload_n 0, .iload 4, .iconst 3, .iadd] (by decide +kernel) (ls' := [(0, jR jXS), (1, jR 0), (2, jR 74), (3, jR 87), (4, jI i)]) (st' := [jI (jW (i + 3)), jR jXS, jI (sx (jW (i + 2))), jI (sx (jW (i + 1))), jR 0]) rfl (p1 := 1800) rfl ?_
  obtain ⟨g7, hf⟩ := jgd hf
  refine K_xald B hsx g7 (by decide +kernel) ?_
  refine B_blk B (jlkn_ok RL) jcl_SKF [.aload_n 3] (by decide +kernel) (ls' := [(0, jR jXS), (1, jR 0), (2, jR 74), (3, jR 87), (4, jI i)]) (st' := [jR 87, jI (sx (jW (i + 3))), jI (sx (jW (i + 2))), jI (sx (jW (i + 1))), jR 0]) rfl (p1 := 1802) rfl ?_
  obtain ⟨r1, h1, hf⟩ := jbd hf
  refine B_callH B (Nat.zero_le _) (μ' := r1.2) (k' := k + 2) (n' := n + 12) ca_L_last sa_L_last lk_L_240 (t_L_last B.tr h1) (Nat.le_refl _) (jRoom (K := 9000) (N := 90000) (by omega) (by omega) rfl) (rest := []) rfl rfl (Nat.le_of_ble_eq_true rfl) (by decide +kernel) rfl rfl (st' := [jI r1.1]) rfl ?_
  refine B_blk B (jlkn_ok RL) jcl_SKF [.istore 5, .aload_n 2, .aload_n 0, .iload 4, .iconst 1, .iadd] (by decide +kernel) (ls' := [(0, jR jXS), (1, jR 0), (2, jR 74), (3, jR 87), (4, jI i), (5, jI r1.1)]) (st' := [jI (jW (i + 1)), jR jXS, jR 74]) rfl (p1 := 1813) rfl ?_
  obtain ⟨g6, hf⟩ := jgd hf
  refine K_xald B hsx g6 (by decide +kernel) ?_
  refine B_blk B (jlkn_ok RL) jcl_SKF [.aload_n 0, .iload 4, .iconst 2, .iadd] (by decide +kernel) (ls' := [(0, jR jXS), (1, jR 0), (2, jR 74), (3, jR 87), (4, jI i), (5, jI r1.1)]) (st' := [jI (jW (i + 2)), jR jXS, jI (sx (jW (i + 1))), jR 74]) rfl (p1 := 1819) rfl ?_
  obtain ⟨g5, hf⟩ := jgd hf
  refine K_xald B hsx g5 (by decide +kernel) ?_
  refine B_blk B (jlkn_ok RL) jcl_SKF [.aload_n 0, .iload 4, .iconst 3, .iadd] (by decide +kernel) (ls' := [(0, jR jXS), (1, jR 0), (2, jR 74), (3, jR 87), (4, jI i), (5, jI r1.1)]) (st' := [jI (jW (i + 3)), jR jXS, jI (sx (jW (i + 2))), jI (sx (jW (i + 1))), jR 74]) rfl (p1 := 1825) rfl ?_
  obtain ⟨g4, hf⟩ := jgd hf
  refine K_xald B hsx g4 (by decide +kernel) ?_
  obtain ⟨r2, h2, hf⟩ := jbd hf
  refine B_callV B (Nat.zero_le _) (μ' := r2.2) (k' := k + 2) (n' := n + 12) ca_X10_last in_X10_last se_X10_last lk_L_242 (t_X10_last B.tr h2) (Nat.le_refl _) (jRoom (K := 9000) (N := 90000) (by omega) (by omega) rfl) rfl rfl (rest := []) rfl rfl (Nat.le_of_ble_eq_true rfl) (by decide +kernel) rfl rfl (st' := [jI r2.1]) rfl ?_
  refine B_blk B (jlkn_ok RL) jcl_SKF [.istore 6, .aload_n 2] (by decide +kernel) (ls' := [(0, jR jXS), (1, jR 0), (2, jR 74), (3, jR 87), (4, jI i), (5, jI r1.1), (6, jI r2.1)]) (st' := [jR 74]) rfl (p1 := 1832) rfl ?_
  obtain ⟨r3, h3, hf⟩ := jbd hf
  refine B_callV B (Nat.zero_le _) (μ' := r2.2) (k' := k + 2) (n' := n + 12) ca_X10_thrown in_X10_thrown se_X10_thrown lk_L_174 (t_X10_thrown B.tr h3) (Nat.le_refl _) (jRoom (K := 9000) (N := 90000) (by omega) (by omega) rfl) rfl rfl (rest := []) rfl rfl (Nat.le_of_ble_eq_true rfl) (by decide +kernel) rfl rfl (st' := [jI r3]) rfl ?_
  refine B_blk B (jlkn_ok RL) jcl_SKF [.iload 5] (by decide +kernel) (ls' := [(0, jR jXS), (1, jR 0), (2, jR 74), (3, jR 87), (4, jI i), (5, jI r1.1), (6, jI r2.1)]) (st' := [jI r1.1, jI r3]) rfl (p1 := 1837) rfl ?_
  refine J_icmp_eq B.1 (off := 5) (tgt := 1842) (by decide +kernel) (by decide) hf (fun hf => ?_) (fun hf => ?_)
  · refine B_blk B (jlkn_ok RL) jcl_SKF [.iload 5] (by decide +kernel) (ls' := [(0, jR jXS), (1, jR 0), (2, jR 74), (3, jR 87), (4, jI i), (5, jI r1.1), (6, jI r2.1)]) (st' := [jI r1.1]) rfl (p1 := 1844) rfl ?_
    refine J_if_ne B.1 (off := 15) (tgt := 1859) (by decide +kernel) (by decide) hf (fun hf => ?_) (fun hf => ?_)
    · refine B_blk B (jlkn_ok RL) jcl_SKF [.aload_n 3, .iconst 0] (by decide +kernel) (ls' := [(0, jR jXS), (1, jR 0), (2, jR 74), (3, jR 87), (4, jI i), (5, jI r1.1), (6, jI r2.1)]) (st' := [jI 0, jR 87]) rfl (p1 := 1849) rfl ?_
      refine K_lald (lenI := 1) B rfl rfl (by decide) (by decide +kernel) ?_
      refine B_blk B (jlkn_ok RL) jcl_SKF [.iload 6, .i2l, .lcmp] (by decide +kernel) (ls' := [(0, jR jXS), (1, jR 0), (2, jR 74), (3, jR 87), (4, jI i), (5, jI r1.1), (6, jI r2.1)]) (st' := [jI (jCm (r2.2 87 0) r2.1)]) rfl (p1 := 1854) rfl ?_
      refine J_if_eq B.1 (off := 5) (tgt := 1859) (by decide +kernel) (by decide) hf (fun hf => ?_) (fun hf => ?_)
      · refine B_blk B (jlkn_ok RL) jcl_SKF [.goto 1764] (by decide +kernel) (ls' := [(0, jR jXS), (1, jR 0), (2, jR 74), (3, jR 87), (4, jI i), (5, jI r1.1), (6, jI r2.1)]) (st' := []) rfl (p1 := 3623) rfl ?_
        refine J_pick [0, 1, 2, 3, 4] (ls' := [(0, jR jXS), (1, jR 0), (2, jR 74), (3, jR 87), (4, jI i)]) rfl ?_
        cases hf
        exact J_widen (by omega) (by omega) hx
      · refine B_blk B (jlkn_ok RL) jcl_SKF [.iconst 0] (by decide +kernel) (ls' := [(0, jR jXS), (1, jR 0), (2, jR 74), (3, jR 87), (4, jI i), (5, jI r1.1), (6, jI r2.1)]) (st' := [jI 0]) rfl (p1 := 1858) rfl ?_
        cases hf
    · refine B_blk B (jlkn_ok RL) jcl_SKF [.goto 1764] (by decide +kernel) (ls' := [(0, jR jXS), (1, jR 0), (2, jR 74), (3, jR 87), (4, jI i), (5, jI r1.1), (6, jI r2.1)]) (st' := []) rfl (p1 := 3623) rfl ?_
      refine J_pick [0, 1, 2, 3, 4] (ls' := [(0, jR jXS), (1, jR 0), (2, jR 74), (3, jR 87), (4, jI i)]) rfl ?_
      cases hf
      exact J_widen (by omega) (by omega) hx
  · refine B_blk B (jlkn_ok RL) jcl_SKF [.iconst 0] (by decide +kernel) (ls' := [(0, jR jXS), (1, jR 0), (2, jR 74), (3, jR 87), (4, jI i), (5, jI r1.1), (6, jI r2.1)]) (st' := [jI 0]) rfl (p1 := 1841) rfl ?_
    cases hf

def f_case_22 (sx : Int → Int) (L i : Int) (m : jMu) : Option jMu :=
  (if 0 ≤ jW (i + 1) ∧ jW (i + 1) < L then (if 0 ≤ jW (i + 2) ∧ jW (i + 2) < L then (if 0 ≤ jW (i + 3) ∧ jW (i + 3) < L then (if sx (jW (i + 3)) = 0 then (f_L_recall (sx (jW (i + 1))) (sx (jW (i + 2))) 0 m).bind fun r1 => (if 0 ≤ jW (i + 1) ∧ jW (i + 1) < L then (if 0 ≤ jW (i + 2) ∧ jW (i + 2) < L then (if 0 ≤ jW (i + 3) ∧ jW (i + 3) < L then (if sx (jW (i + 3)) = 0 then (f_X10_recall (sx (jW (i + 1))) (sx (jW (i + 2))) 0 r1.2).bind fun r2 => (f_X10_thrown r2.2).bind fun r3 => (if r3 = r1.1 then (if r1.1 = 0 then (if jCm (r2.2 87 0) r2.1 = 0 then some r2.2 else none) else some r2.2) else none) else (f_X10_recall (sx (jW (i + 1))) (sx (jW (i + 2))) 1 r1.2).bind fun r4 => (f_X10_thrown r4.2).bind fun r5 => (if r5 = r1.1 then (if r1.1 = 0 then (if jCm (r4.2 87 0) r4.1 = 0 then some r4.2 else none) else some r4.2) else none)) else none) else none) else none) else (f_L_recall (sx (jW (i + 1))) (sx (jW (i + 2))) 1 m).bind fun r9 => (if 0 ≤ jW (i + 1) ∧ jW (i + 1) < L then (if 0 ≤ jW (i + 2) ∧ jW (i + 2) < L then (if 0 ≤ jW (i + 3) ∧ jW (i + 3) < L then (if sx (jW (i + 3)) = 0 then (f_X10_recall (sx (jW (i + 1))) (sx (jW (i + 2))) 0 r9.2).bind fun r10 => (f_X10_thrown r10.2).bind fun r11 => (if r11 = r9.1 then (if r9.1 = 0 then (if jCm (r10.2 87 0) r10.1 = 0 then some r10.2 else none) else some r10.2) else none) else (f_X10_recall (sx (jW (i + 1))) (sx (jW (i + 2))) 1 r9.2).bind fun r12 => (f_X10_thrown r12.2).bind fun r13 => (if r13 = r9.1 then (if r9.1 = 0 then (if jCm (r12.2 87 0) r12.1 = 0 then some r12.2 else none) else some r12.2) else none)) else none) else none) else none)) else none) else none) else none)
theorem t_case_22 {X : jX} {L : Int} {sx : Int → Int} (hsx : jsx (xG X) L sx) (B : jB X cL_law RL 8 0 room_1 (some .boolean)) {k n : Nat} (hk : k ≤ 8900) (hn : n ≤ 89000) {i : Int} {m o : jMu} (hf : f_case_22 sx L i m = some o) (hx : J X SKF o (k + 5) (n + 30) 3623 [(0, jR jXS), (1, jR 0), (2, jR 74), (3, jR 87), (4, jI i)] []) : J X SKF m k n 1862 [(0, jR jXS), (1, jR 0), (2, jR 74), (3, jR 87), (4, jI i)] [] := by
  unfold f_case_22 at hf
  refine B_blk B (jlkn_ok RL) jcl_SKF [.aload_n 1, .aload_n 0, .iload 4, .iconst 1, .iadd] (by decide +kernel) (ls' := [(0, jR jXS), (1, jR 0), (2, jR 74), (3, jR 87), (4, jI i)]) (st' := [jI (jW (i + 1)), jR jXS, jR 0]) rfl (p1 := 1868) rfl ?_
  obtain ⟨g19, hf⟩ := jgd hf
  refine K_xald B hsx g19 (by decide +kernel) ?_
  refine B_blk B (jlkn_ok RL) jcl_SKF [.aload_n 0, .iload 4, .iconst 2, .iadd] (by decide +kernel) (ls' := [(0, jR jXS), (1, jR 0), (2, jR 74), (3, jR 87), (4, jI i)]) (st' := [jI (jW (i + 2)), jR jXS, jI (sx (jW (i + 1))), jR 0]) rfl (p1 := 1874) rfl ?_
  obtain ⟨g18, hf⟩ := jgd hf
  refine K_xald B hsx g18 (by decide +kernel) ?_
  refine B_blk B (jlkn_ok RL) jcl_SKF [.aload_n 0, .iload 4, .iconst 3, .iadd] (by decide +kernel) (ls' := [(0, jR jXS), (1, jR 0), (2, jR 74), (3, jR 87), (4, jI i)]) (st' := [jI (jW (i + 3)), jR jXS, jI (sx (jW (i + 2))), jI (sx (jW (i + 1))), jR 0]) rfl (p1 := 1880) rfl ?_
  obtain ⟨g17, hf⟩ := jgd hf
  refine K_xald B hsx g17 (by decide +kernel) ?_
  refine J_if_eq B.1 (off := 7) (tgt := 1888) (by decide +kernel) (by decide) hf (fun hf => ?_) (fun hf => ?_)
  · refine B_blk B (jlkn_ok RL) jcl_SKF [.iconst 0, .aload_n 3] (by decide +kernel) (ls' := [(0, jR jXS), (1, jR 0), (2, jR 74), (3, jR 87), (4, jI i)]) (st' := [jR 87, jI 0, jI (sx (jW (i + 2))), jI (sx (jW (i + 1))), jR 0]) rfl (p1 := 1890) rfl ?_
    obtain ⟨r1, h1, hf⟩ := jbd hf
    refine B_callH B (Nat.zero_le _) (μ' := r1.2) (k' := k + 1) (n' := n + 6) ca_L_recall sa_L_recall lk_L_243 (t_L_recall B.tr h1) (Nat.le_refl _) (jRoom (K := 9000) (N := 90000) (by omega) (by omega) rfl) (rest := []) rfl rfl (Nat.le_of_ble_eq_true rfl) (by decide +kernel) rfl rfl (st' := [jI r1.1]) rfl ?_
    refine B_blk B (jlkn_ok RL) jcl_SKF [.istore 5, .aload_n 2, .aload_n 0, .iload 4, .iconst 1, .iadd] (by decide +kernel) (ls' := [(0, jR jXS), (1, jR 0), (2, jR 74), (3, jR 87), (4, jI i), (5, jI r1.1)]) (st' := [jI (jW (i + 1)), jR jXS, jR 74]) rfl (p1 := 1901) rfl ?_
    obtain ⟨g8, hf⟩ := jgd hf
    refine K_xald B hsx g8 (by decide +kernel) ?_
    refine B_blk B (jlkn_ok RL) jcl_SKF [.aload_n 0, .iload 4, .iconst 2, .iadd] (by decide +kernel) (ls' := [(0, jR jXS), (1, jR 0), (2, jR 74), (3, jR 87), (4, jI i), (5, jI r1.1)]) (st' := [jI (jW (i + 2)), jR jXS, jI (sx (jW (i + 1))), jR 74]) rfl (p1 := 1907) rfl ?_
    obtain ⟨g7, hf⟩ := jgd hf
    refine K_xald B hsx g7 (by decide +kernel) ?_
    refine B_blk B (jlkn_ok RL) jcl_SKF [.aload_n 0, .iload 4, .iconst 3, .iadd] (by decide +kernel) (ls' := [(0, jR jXS), (1, jR 0), (2, jR 74), (3, jR 87), (4, jI i), (5, jI r1.1)]) (st' := [jI (jW (i + 3)), jR jXS, jI (sx (jW (i + 2))), jI (sx (jW (i + 1))), jR 74]) rfl (p1 := 1913) rfl ?_
    obtain ⟨g6, hf⟩ := jgd hf
    refine K_xald B hsx g6 (by decide +kernel) ?_
    refine J_if_eq B.1 (off := 7) (tgt := 1921) (by decide +kernel) (by decide) hf (fun hf => ?_) (fun hf => ?_)
    · refine B_blk B (jlkn_ok RL) jcl_SKF [.iconst 0] (by decide +kernel) (ls' := [(0, jR jXS), (1, jR 0), (2, jR 74), (3, jR 87), (4, jI i), (5, jI r1.1)]) (st' := [jI 0, jI (sx (jW (i + 2))), jI (sx (jW (i + 1))), jR 74]) rfl (p1 := 1922) rfl ?_
      obtain ⟨r2, h2, hf⟩ := jbd hf
      refine B_callV B (Nat.zero_le _) (μ' := r2.2) (k' := k + 1) (n' := n + 6) ca_X10_recall in_X10_recall se_X10_recall lk_L_246 (t_X10_recall B.tr h2) (Nat.le_refl _) (jRoom (K := 9000) (N := 90000) (by omega) (by omega) rfl) rfl rfl (rest := []) rfl rfl (Nat.le_of_ble_eq_true rfl) (by decide +kernel) rfl rfl (st' := [jI r2.1]) rfl ?_
      refine B_blk B (jlkn_ok RL) jcl_SKF [.istore 6, .aload_n 2] (by decide +kernel) (ls' := [(0, jR jXS), (1, jR 0), (2, jR 74), (3, jR 87), (4, jI i), (5, jI r1.1), (6, jI r2.1)]) (st' := [jR 74]) rfl (p1 := 1928) rfl ?_
      obtain ⟨r3, h3, hf⟩ := jbd hf
      refine B_callV B (Nat.zero_le _) (μ' := r2.2) (k' := k + 1) (n' := n + 6) ca_X10_thrown in_X10_thrown se_X10_thrown lk_L_174 (t_X10_thrown B.tr h3) (Nat.le_refl _) (jRoom (K := 9000) (N := 90000) (by omega) (by omega) rfl) rfl rfl (rest := []) rfl rfl (Nat.le_of_ble_eq_true rfl) (by decide +kernel) rfl rfl (st' := [jI r3]) rfl ?_
      refine B_blk B (jlkn_ok RL) jcl_SKF [.iload 5] (by decide +kernel) (ls' := [(0, jR jXS), (1, jR 0), (2, jR 74), (3, jR 87), (4, jI i), (5, jI r1.1), (6, jI r2.1)]) (st' := [jI r1.1, jI r3]) rfl (p1 := 1933) rfl ?_
      refine J_icmp_eq B.1 (off := 5) (tgt := 1938) (by decide +kernel) (by decide) hf (fun hf => ?_) (fun hf => ?_)
      · refine B_blk B (jlkn_ok RL) jcl_SKF [.iload 5] (by decide +kernel) (ls' := [(0, jR jXS), (1, jR 0), (2, jR 74), (3, jR 87), (4, jI i), (5, jI r1.1), (6, jI r2.1)]) (st' := [jI r1.1]) rfl (p1 := 1940) rfl ?_
        refine J_if_ne B.1 (off := 15) (tgt := 1955) (by decide +kernel) (by decide) hf (fun hf => ?_) (fun hf => ?_)
        · refine B_blk B (jlkn_ok RL) jcl_SKF [.aload_n 3, .iconst 0] (by decide +kernel) (ls' := [(0, jR jXS), (1, jR 0), (2, jR 74), (3, jR 87), (4, jI i), (5, jI r1.1), (6, jI r2.1)]) (st' := [jI 0, jR 87]) rfl (p1 := 1945) rfl ?_
          refine K_lald (lenI := 1) B rfl rfl (by decide) (by decide +kernel) ?_
          refine B_blk B (jlkn_ok RL) jcl_SKF [.iload 6, .i2l, .lcmp] (by decide +kernel) (ls' := [(0, jR jXS), (1, jR 0), (2, jR 74), (3, jR 87), (4, jI i), (5, jI r1.1), (6, jI r2.1)]) (st' := [jI (jCm (r2.2 87 0) r2.1)]) rfl (p1 := 1950) rfl ?_
          refine J_if_eq B.1 (off := 5) (tgt := 1955) (by decide +kernel) (by decide) hf (fun hf => ?_) (fun hf => ?_)
          · refine B_blk B (jlkn_ok RL) jcl_SKF [.goto 1668] (by decide +kernel) (ls' := [(0, jR jXS), (1, jR 0), (2, jR 74), (3, jR 87), (4, jI i), (5, jI r1.1), (6, jI r2.1)]) (st' := []) rfl (p1 := 3623) rfl ?_
            refine J_pick [0, 1, 2, 3, 4] (ls' := [(0, jR jXS), (1, jR 0), (2, jR 74), (3, jR 87), (4, jI i)]) rfl ?_
            cases hf
            exact J_widen (by omega) (by omega) hx
          · refine B_blk B (jlkn_ok RL) jcl_SKF [.iconst 0] (by decide +kernel) (ls' := [(0, jR jXS), (1, jR 0), (2, jR 74), (3, jR 87), (4, jI i), (5, jI r1.1), (6, jI r2.1)]) (st' := [jI 0]) rfl (p1 := 1954) rfl ?_
            cases hf
        · refine B_blk B (jlkn_ok RL) jcl_SKF [.goto 1668] (by decide +kernel) (ls' := [(0, jR jXS), (1, jR 0), (2, jR 74), (3, jR 87), (4, jI i), (5, jI r1.1), (6, jI r2.1)]) (st' := []) rfl (p1 := 3623) rfl ?_
          refine J_pick [0, 1, 2, 3, 4] (ls' := [(0, jR jXS), (1, jR 0), (2, jR 74), (3, jR 87), (4, jI i)]) rfl ?_
          cases hf
          exact J_widen (by omega) (by omega) hx
      · refine B_blk B (jlkn_ok RL) jcl_SKF [.iconst 0] (by decide +kernel) (ls' := [(0, jR jXS), (1, jR 0), (2, jR 74), (3, jR 87), (4, jI i), (5, jI r1.1), (6, jI r2.1)]) (st' := [jI 0]) rfl (p1 := 1937) rfl ?_
        cases hf
    · refine B_blk B (jlkn_ok RL) jcl_SKF [.iconst 1, .goto 4] (by decide +kernel) (ls' := [(0, jR jXS), (1, jR 0), (2, jR 74), (3, jR 87), (4, jI i), (5, jI r1.1)]) (st' := [jI 1, jI (sx (jW (i + 2))), jI (sx (jW (i + 1))), jR 74]) rfl (p1 := 1922) rfl ?_
      obtain ⟨r4, h4, hf⟩ := jbd hf
      refine B_callV B (Nat.zero_le _) (μ' := r4.2) (k' := k + 1) (n' := n + 6) ca_X10_recall in_X10_recall se_X10_recall lk_L_246 (t_X10_recall B.tr h4) (Nat.le_refl _) (jRoom (K := 9000) (N := 90000) (by omega) (by omega) rfl) rfl rfl (rest := []) rfl rfl (Nat.le_of_ble_eq_true rfl) (by decide +kernel) rfl rfl (st' := [jI r4.1]) rfl ?_
      refine B_blk B (jlkn_ok RL) jcl_SKF [.istore 6, .aload_n 2] (by decide +kernel) (ls' := [(0, jR jXS), (1, jR 0), (2, jR 74), (3, jR 87), (4, jI i), (5, jI r1.1), (6, jI r4.1)]) (st' := [jR 74]) rfl (p1 := 1928) rfl ?_
      obtain ⟨r5, h5, hf⟩ := jbd hf
      refine B_callV B (Nat.zero_le _) (μ' := r4.2) (k' := k + 1) (n' := n + 6) ca_X10_thrown in_X10_thrown se_X10_thrown lk_L_174 (t_X10_thrown B.tr h5) (Nat.le_refl _) (jRoom (K := 9000) (N := 90000) (by omega) (by omega) rfl) rfl rfl (rest := []) rfl rfl (Nat.le_of_ble_eq_true rfl) (by decide +kernel) rfl rfl (st' := [jI r5]) rfl ?_
      refine B_blk B (jlkn_ok RL) jcl_SKF [.iload 5] (by decide +kernel) (ls' := [(0, jR jXS), (1, jR 0), (2, jR 74), (3, jR 87), (4, jI i), (5, jI r1.1), (6, jI r4.1)]) (st' := [jI r1.1, jI r5]) rfl (p1 := 1933) rfl ?_
      refine J_icmp_eq B.1 (off := 5) (tgt := 1938) (by decide +kernel) (by decide) hf (fun hf => ?_) (fun hf => ?_)
      · refine B_blk B (jlkn_ok RL) jcl_SKF [.iload 5] (by decide +kernel) (ls' := [(0, jR jXS), (1, jR 0), (2, jR 74), (3, jR 87), (4, jI i), (5, jI r1.1), (6, jI r4.1)]) (st' := [jI r1.1]) rfl (p1 := 1940) rfl ?_
        refine J_if_ne B.1 (off := 15) (tgt := 1955) (by decide +kernel) (by decide) hf (fun hf => ?_) (fun hf => ?_)
        · refine B_blk B (jlkn_ok RL) jcl_SKF [.aload_n 3, .iconst 0] (by decide +kernel) (ls' := [(0, jR jXS), (1, jR 0), (2, jR 74), (3, jR 87), (4, jI i), (5, jI r1.1), (6, jI r4.1)]) (st' := [jI 0, jR 87]) rfl (p1 := 1945) rfl ?_
          refine K_lald (lenI := 1) B rfl rfl (by decide) (by decide +kernel) ?_
          refine B_blk B (jlkn_ok RL) jcl_SKF [.iload 6, .i2l, .lcmp] (by decide +kernel) (ls' := [(0, jR jXS), (1, jR 0), (2, jR 74), (3, jR 87), (4, jI i), (5, jI r1.1), (6, jI r4.1)]) (st' := [jI (jCm (r4.2 87 0) r4.1)]) rfl (p1 := 1950) rfl ?_
          refine J_if_eq B.1 (off := 5) (tgt := 1955) (by decide +kernel) (by decide) hf (fun hf => ?_) (fun hf => ?_)
          · refine B_blk B (jlkn_ok RL) jcl_SKF [.goto 1668] (by decide +kernel) (ls' := [(0, jR jXS), (1, jR 0), (2, jR 74), (3, jR 87), (4, jI i), (5, jI r1.1), (6, jI r4.1)]) (st' := []) rfl (p1 := 3623) rfl ?_
            refine J_pick [0, 1, 2, 3, 4] (ls' := [(0, jR jXS), (1, jR 0), (2, jR 74), (3, jR 87), (4, jI i)]) rfl ?_
            cases hf
            exact J_widen (by omega) (by omega) hx
          · refine B_blk B (jlkn_ok RL) jcl_SKF [.iconst 0] (by decide +kernel) (ls' := [(0, jR jXS), (1, jR 0), (2, jR 74), (3, jR 87), (4, jI i), (5, jI r1.1), (6, jI r4.1)]) (st' := [jI 0]) rfl (p1 := 1954) rfl ?_
            cases hf
        · refine B_blk B (jlkn_ok RL) jcl_SKF [.goto 1668] (by decide +kernel) (ls' := [(0, jR jXS), (1, jR 0), (2, jR 74), (3, jR 87), (4, jI i), (5, jI r1.1), (6, jI r4.1)]) (st' := []) rfl (p1 := 3623) rfl ?_
          refine J_pick [0, 1, 2, 3, 4] (ls' := [(0, jR jXS), (1, jR 0), (2, jR 74), (3, jR 87), (4, jI i)]) rfl ?_
          cases hf
          exact J_widen (by omega) (by omega) hx
      · refine B_blk B (jlkn_ok RL) jcl_SKF [.iconst 0] (by decide +kernel) (ls' := [(0, jR jXS), (1, jR 0), (2, jR 74), (3, jR 87), (4, jI i), (5, jI r1.1), (6, jI r4.1)]) (st' := [jI 0]) rfl (p1 := 1937) rfl ?_
        cases hf
  · refine B_blk B (jlkn_ok RL) jcl_SKF [.iconst 1, .goto 4, .aload_n 3] (by decide +kernel) (ls' := [(0, jR jXS), (1, jR 0), (2, jR 74), (3, jR 87), (4, jI i)]) (st' := [jR 87, jI 1, jI (sx (jW (i + 2))), jI (sx (jW (i + 1))), jR 0]) rfl (p1 := 1890) rfl ?_
    obtain ⟨r9, h9, hf⟩ := jbd hf
    refine B_callH B (Nat.zero_le _) (μ' := r9.2) (k' := k + 1) (n' := n + 6) ca_L_recall sa_L_recall lk_L_243 (t_L_recall B.tr h9) (Nat.le_refl _) (jRoom (K := 9000) (N := 90000) (by omega) (by omega) rfl) (rest := []) rfl rfl (Nat.le_of_ble_eq_true rfl) (by decide +kernel) rfl rfl (st' := [jI r9.1]) rfl ?_
    refine B_blk B (jlkn_ok RL) jcl_SKF [.istore 5, .aload_n 2, .aload_n 0, .iload 4, .iconst 1, .iadd] (by decide +kernel) (ls' := [(0, jR jXS), (1, jR 0), (2, jR 74), (3, jR 87), (4, jI i), (5, jI r9.1)]) (st' := [jI (jW (i + 1)), jR jXS, jR 74]) rfl (p1 := 1901) rfl ?_
    obtain ⟨g16, hf⟩ := jgd hf
    refine K_xald B hsx g16 (by decide +kernel) ?_
    refine B_blk B (jlkn_ok RL) jcl_SKF [.aload_n 0, .iload 4, .iconst 2, .iadd] (by decide +kernel) (ls' := [(0, jR jXS), (1, jR 0), (2, jR 74), (3, jR 87), (4, jI i), (5, jI r9.1)]) (st' := [jI (jW (i + 2)), jR jXS, jI (sx (jW (i + 1))), jR 74]) rfl (p1 := 1907) rfl ?_
    obtain ⟨g15, hf⟩ := jgd hf
    refine K_xald B hsx g15 (by decide +kernel) ?_
    refine B_blk B (jlkn_ok RL) jcl_SKF [.aload_n 0, .iload 4, .iconst 3, .iadd] (by decide +kernel) (ls' := [(0, jR jXS), (1, jR 0), (2, jR 74), (3, jR 87), (4, jI i), (5, jI r9.1)]) (st' := [jI (jW (i + 3)), jR jXS, jI (sx (jW (i + 2))), jI (sx (jW (i + 1))), jR 74]) rfl (p1 := 1913) rfl ?_
    obtain ⟨g14, hf⟩ := jgd hf
    refine K_xald B hsx g14 (by decide +kernel) ?_
    refine J_if_eq B.1 (off := 7) (tgt := 1921) (by decide +kernel) (by decide) hf (fun hf => ?_) (fun hf => ?_)
    · refine B_blk B (jlkn_ok RL) jcl_SKF [.iconst 0] (by decide +kernel) (ls' := [(0, jR jXS), (1, jR 0), (2, jR 74), (3, jR 87), (4, jI i), (5, jI r9.1)]) (st' := [jI 0, jI (sx (jW (i + 2))), jI (sx (jW (i + 1))), jR 74]) rfl (p1 := 1922) rfl ?_
      obtain ⟨r10, h10, hf⟩ := jbd hf
      refine B_callV B (Nat.zero_le _) (μ' := r10.2) (k' := k + 1) (n' := n + 6) ca_X10_recall in_X10_recall se_X10_recall lk_L_246 (t_X10_recall B.tr h10) (Nat.le_refl _) (jRoom (K := 9000) (N := 90000) (by omega) (by omega) rfl) rfl rfl (rest := []) rfl rfl (Nat.le_of_ble_eq_true rfl) (by decide +kernel) rfl rfl (st' := [jI r10.1]) rfl ?_
      refine B_blk B (jlkn_ok RL) jcl_SKF [.istore 6, .aload_n 2] (by decide +kernel) (ls' := [(0, jR jXS), (1, jR 0), (2, jR 74), (3, jR 87), (4, jI i), (5, jI r9.1), (6, jI r10.1)]) (st' := [jR 74]) rfl (p1 := 1928) rfl ?_
      obtain ⟨r11, h11, hf⟩ := jbd hf
      refine B_callV B (Nat.zero_le _) (μ' := r10.2) (k' := k + 1) (n' := n + 6) ca_X10_thrown in_X10_thrown se_X10_thrown lk_L_174 (t_X10_thrown B.tr h11) (Nat.le_refl _) (jRoom (K := 9000) (N := 90000) (by omega) (by omega) rfl) rfl rfl (rest := []) rfl rfl (Nat.le_of_ble_eq_true rfl) (by decide +kernel) rfl rfl (st' := [jI r11]) rfl ?_
      refine B_blk B (jlkn_ok RL) jcl_SKF [.iload 5] (by decide +kernel) (ls' := [(0, jR jXS), (1, jR 0), (2, jR 74), (3, jR 87), (4, jI i), (5, jI r9.1), (6, jI r10.1)]) (st' := [jI r9.1, jI r11]) rfl (p1 := 1933) rfl ?_
      refine J_icmp_eq B.1 (off := 5) (tgt := 1938) (by decide +kernel) (by decide) hf (fun hf => ?_) (fun hf => ?_)
      · refine B_blk B (jlkn_ok RL) jcl_SKF [.iload 5] (by decide +kernel) (ls' := [(0, jR jXS), (1, jR 0), (2, jR 74), (3, jR 87), (4, jI i), (5, jI r9.1), (6, jI r10.1)]) (st' := [jI r9.1]) rfl (p1 := 1940) rfl ?_
        refine J_if_ne B.1 (off := 15) (tgt := 1955) (by decide +kernel) (by decide) hf (fun hf => ?_) (fun hf => ?_)
        · refine B_blk B (jlkn_ok RL) jcl_SKF [.aload_n 3, .iconst 0] (by decide +kernel) (ls' := [(0, jR jXS), (1, jR 0), (2, jR 74), (3, jR 87), (4, jI i), (5, jI r9.1), (6, jI r10.1)]) (st' := [jI 0, jR 87]) rfl (p1 := 1945) rfl ?_
          refine K_lald (lenI := 1) B rfl rfl (by decide) (by decide +kernel) ?_
          refine B_blk B (jlkn_ok RL) jcl_SKF [.iload 6, .i2l, .lcmp] (by decide +kernel) (ls' := [(0, jR jXS), (1, jR 0), (2, jR 74), (3, jR 87), (4, jI i), (5, jI r9.1), (6, jI r10.1)]) (st' := [jI (jCm (r10.2 87 0) r10.1)]) rfl (p1 := 1950) rfl ?_
          refine J_if_eq B.1 (off := 5) (tgt := 1955) (by decide +kernel) (by decide) hf (fun hf => ?_) (fun hf => ?_)
          · refine B_blk B (jlkn_ok RL) jcl_SKF [.goto 1668] (by decide +kernel) (ls' := [(0, jR jXS), (1, jR 0), (2, jR 74), (3, jR 87), (4, jI i), (5, jI r9.1), (6, jI r10.1)]) (st' := []) rfl (p1 := 3623) rfl ?_
            refine J_pick [0, 1, 2, 3, 4] (ls' := [(0, jR jXS), (1, jR 0), (2, jR 74), (3, jR 87), (4, jI i)]) rfl ?_
            cases hf
            exact J_widen (by omega) (by omega) hx
          · refine B_blk B (jlkn_ok RL) jcl_SKF [.iconst 0] (by decide +kernel) (ls' := [(0, jR jXS), (1, jR 0), (2, jR 74), (3, jR 87), (4, jI i), (5, jI r9.1), (6, jI r10.1)]) (st' := [jI 0]) rfl (p1 := 1954) rfl ?_
            cases hf
        · refine B_blk B (jlkn_ok RL) jcl_SKF [.goto 1668] (by decide +kernel) (ls' := [(0, jR jXS), (1, jR 0), (2, jR 74), (3, jR 87), (4, jI i), (5, jI r9.1), (6, jI r10.1)]) (st' := []) rfl (p1 := 3623) rfl ?_
          refine J_pick [0, 1, 2, 3, 4] (ls' := [(0, jR jXS), (1, jR 0), (2, jR 74), (3, jR 87), (4, jI i)]) rfl ?_
          cases hf
          exact J_widen (by omega) (by omega) hx
      · refine B_blk B (jlkn_ok RL) jcl_SKF [.iconst 0] (by decide +kernel) (ls' := [(0, jR jXS), (1, jR 0), (2, jR 74), (3, jR 87), (4, jI i), (5, jI r9.1), (6, jI r10.1)]) (st' := [jI 0]) rfl (p1 := 1937) rfl ?_
        cases hf
    · refine B_blk B (jlkn_ok RL) jcl_SKF [.iconst 1, .goto 4] (by decide +kernel) (ls' := [(0, jR jXS), (1, jR 0), (2, jR 74), (3, jR 87), (4, jI i), (5, jI r9.1)]) (st' := [jI 1, jI (sx (jW (i + 2))), jI (sx (jW (i + 1))), jR 74]) rfl (p1 := 1922) rfl ?_
      obtain ⟨r12, h12, hf⟩ := jbd hf
      refine B_callV B (Nat.zero_le _) (μ' := r12.2) (k' := k + 1) (n' := n + 6) ca_X10_recall in_X10_recall se_X10_recall lk_L_246 (t_X10_recall B.tr h12) (Nat.le_refl _) (jRoom (K := 9000) (N := 90000) (by omega) (by omega) rfl) rfl rfl (rest := []) rfl rfl (Nat.le_of_ble_eq_true rfl) (by decide +kernel) rfl rfl (st' := [jI r12.1]) rfl ?_
      refine B_blk B (jlkn_ok RL) jcl_SKF [.istore 6, .aload_n 2] (by decide +kernel) (ls' := [(0, jR jXS), (1, jR 0), (2, jR 74), (3, jR 87), (4, jI i), (5, jI r9.1), (6, jI r12.1)]) (st' := [jR 74]) rfl (p1 := 1928) rfl ?_
      obtain ⟨r13, h13, hf⟩ := jbd hf
      refine B_callV B (Nat.zero_le _) (μ' := r12.2) (k' := k + 1) (n' := n + 6) ca_X10_thrown in_X10_thrown se_X10_thrown lk_L_174 (t_X10_thrown B.tr h13) (Nat.le_refl _) (jRoom (K := 9000) (N := 90000) (by omega) (by omega) rfl) rfl rfl (rest := []) rfl rfl (Nat.le_of_ble_eq_true rfl) (by decide +kernel) rfl rfl (st' := [jI r13]) rfl ?_
      refine B_blk B (jlkn_ok RL) jcl_SKF [.iload 5] (by decide +kernel) (ls' := [(0, jR jXS), (1, jR 0), (2, jR 74), (3, jR 87), (4, jI i), (5, jI r9.1), (6, jI r12.1)]) (st' := [jI r9.1, jI r13]) rfl (p1 := 1933) rfl ?_
      refine J_icmp_eq B.1 (off := 5) (tgt := 1938) (by decide +kernel) (by decide) hf (fun hf => ?_) (fun hf => ?_)
      · refine B_blk B (jlkn_ok RL) jcl_SKF [.iload 5] (by decide +kernel) (ls' := [(0, jR jXS), (1, jR 0), (2, jR 74), (3, jR 87), (4, jI i), (5, jI r9.1), (6, jI r12.1)]) (st' := [jI r9.1]) rfl (p1 := 1940) rfl ?_
        refine J_if_ne B.1 (off := 15) (tgt := 1955) (by decide +kernel) (by decide) hf (fun hf => ?_) (fun hf => ?_)
        · refine B_blk B (jlkn_ok RL) jcl_SKF [.aload_n 3, .iconst 0] (by decide +kernel) (ls' := [(0, jR jXS), (1, jR 0), (2, jR 74), (3, jR 87), (4, jI i), (5, jI r9.1), (6, jI r12.1)]) (st' := [jI 0, jR 87]) rfl (p1 := 1945) rfl ?_
          refine K_lald (lenI := 1) B rfl rfl (by decide) (by decide +kernel) ?_
          refine B_blk B (jlkn_ok RL) jcl_SKF [.iload 6, .i2l, .lcmp] (by decide +kernel) (ls' := [(0, jR jXS), (1, jR 0), (2, jR 74), (3, jR 87), (4, jI i), (5, jI r9.1), (6, jI r12.1)]) (st' := [jI (jCm (r12.2 87 0) r12.1)]) rfl (p1 := 1950) rfl ?_
          refine J_if_eq B.1 (off := 5) (tgt := 1955) (by decide +kernel) (by decide) hf (fun hf => ?_) (fun hf => ?_)
          · refine B_blk B (jlkn_ok RL) jcl_SKF [.goto 1668] (by decide +kernel) (ls' := [(0, jR jXS), (1, jR 0), (2, jR 74), (3, jR 87), (4, jI i), (5, jI r9.1), (6, jI r12.1)]) (st' := []) rfl (p1 := 3623) rfl ?_
            refine J_pick [0, 1, 2, 3, 4] (ls' := [(0, jR jXS), (1, jR 0), (2, jR 74), (3, jR 87), (4, jI i)]) rfl ?_
            cases hf
            exact J_widen (by omega) (by omega) hx
          · refine B_blk B (jlkn_ok RL) jcl_SKF [.iconst 0] (by decide +kernel) (ls' := [(0, jR jXS), (1, jR 0), (2, jR 74), (3, jR 87), (4, jI i), (5, jI r9.1), (6, jI r12.1)]) (st' := [jI 0]) rfl (p1 := 1954) rfl ?_
            cases hf
        · refine B_blk B (jlkn_ok RL) jcl_SKF [.goto 1668] (by decide +kernel) (ls' := [(0, jR jXS), (1, jR 0), (2, jR 74), (3, jR 87), (4, jI i), (5, jI r9.1), (6, jI r12.1)]) (st' := []) rfl (p1 := 3623) rfl ?_
          refine J_pick [0, 1, 2, 3, 4] (ls' := [(0, jR jXS), (1, jR 0), (2, jR 74), (3, jR 87), (4, jI i)]) rfl ?_
          cases hf
          exact J_widen (by omega) (by omega) hx
      · refine B_blk B (jlkn_ok RL) jcl_SKF [.iconst 0] (by decide +kernel) (ls' := [(0, jR jXS), (1, jR 0), (2, jR 74), (3, jR 87), (4, jI i), (5, jI r9.1), (6, jI r12.1)]) (st' := [jI 0]) rfl (p1 := 1937) rfl ?_
        cases hf

def f_case_23 (sx : Int → Int) (L i : Int) (m : jMu) : Option jMu :=
  (if 0 ≤ jW (i + 1) ∧ jW (i + 1) < L then (f_L_left (sx (jW (i + 1))) m).bind fun r1 => (if 0 ≤ jW (i + 1) ∧ jW (i + 1) < L then (f_X10_left (sx (jW (i + 1))) r1.2).bind fun r2 => (f_X10_thrown r2.2).bind fun r3 => (if r3 = r1.1 then (if r1.1 = 0 then (if jCm (r2.2 87 0) r2.1 = 0 then some r2.2 else none) else some r2.2) else none) else none) else none)
theorem t_case_23 {X : jX} {L : Int} {sx : Int → Int} (hsx : jsx (xG X) L sx) (B : jB X cL_law RL 8 0 room_1 (some .boolean)) {k n : Nat} (hk : k ≤ 8900) (hn : n ≤ 89000) {i : Int} {m o : jMu} (hf : f_case_23 sx L i m = some o) (hx : J X SKF o (k + 5) (n + 30) 3623 [(0, jR jXS), (1, jR 0), (2, jR 74), (3, jR 87), (4, jI i)] []) : J X SKF m k n 1958 [(0, jR jXS), (1, jR 0), (2, jR 74), (3, jR 87), (4, jI i)] [] := by
  unfold f_case_23 at hf
  refine B_blk B (jlkn_ok RL) jcl_SKF [.aload_n 1, .aload_n 0, .iload 4, .iconst 1, .iadd] (by decide +kernel) (ls' := [(0, jR jXS), (1, jR 0), (2, jR 74), (3, jR 87), (4, jI i)]) (st' := [jI (jW (i + 1)), jR jXS, jR 0]) rfl (p1 := 1964) rfl ?_
  obtain ⟨g5, hf⟩ := jgd hf
  refine K_xald B hsx g5 (by decide +kernel) ?_
  refine B_blk B (jlkn_ok RL) jcl_SKF [.aload_n 3] (by decide +kernel) (ls' := [(0, jR jXS), (1, jR 0), (2, jR 74), (3, jR 87), (4, jI i)]) (st' := [jR 87, jI (sx (jW (i + 1))), jR 0]) rfl (p1 := 1966) rfl ?_
  obtain ⟨r1, h1, hf⟩ := jbd hf
  refine B_callH B (Nat.zero_le _) (μ' := r1.2) (k' := k + 1) (n' := n + 6) ca_L_left sa_L_left lk_L_247 (t_L_left B.tr h1) (Nat.le_refl _) (jRoom (K := 9000) (N := 90000) (by omega) (by omega) rfl) (rest := []) rfl rfl (Nat.le_of_ble_eq_true rfl) (by decide +kernel) rfl rfl (st' := [jI r1.1]) rfl ?_
  refine B_blk B (jlkn_ok RL) jcl_SKF [.istore 5, .aload_n 2, .aload_n 0, .iload 4, .iconst 1, .iadd] (by decide +kernel) (ls' := [(0, jR jXS), (1, jR 0), (2, jR 74), (3, jR 87), (4, jI i), (5, jI r1.1)]) (st' := [jI (jW (i + 1)), jR jXS, jR 74]) rfl (p1 := 1977) rfl ?_
  obtain ⟨g4, hf⟩ := jgd hf
  refine K_xald B hsx g4 (by decide +kernel) ?_
  obtain ⟨r2, h2, hf⟩ := jbd hf
  refine B_callV B (Nat.zero_le _) (μ' := r2.2) (k' := k + 1) (n' := n + 6) ca_X10_left in_X10_left se_X10_left lk_L_249 (t_X10_left B.tr h2) (Nat.le_refl _) (jRoom (K := 9000) (N := 90000) (by omega) (by omega) rfl) rfl rfl (rest := []) rfl rfl (Nat.le_of_ble_eq_true rfl) (by decide +kernel) rfl rfl (st' := [jI r2.1]) rfl ?_
  refine B_blk B (jlkn_ok RL) jcl_SKF [.istore 6, .aload_n 2] (by decide +kernel) (ls' := [(0, jR jXS), (1, jR 0), (2, jR 74), (3, jR 87), (4, jI i), (5, jI r1.1), (6, jI r2.1)]) (st' := [jR 74]) rfl (p1 := 1984) rfl ?_
  obtain ⟨r3, h3, hf⟩ := jbd hf
  refine B_callV B (Nat.zero_le _) (μ' := r2.2) (k' := k + 1) (n' := n + 6) ca_X10_thrown in_X10_thrown se_X10_thrown lk_L_174 (t_X10_thrown B.tr h3) (Nat.le_refl _) (jRoom (K := 9000) (N := 90000) (by omega) (by omega) rfl) rfl rfl (rest := []) rfl rfl (Nat.le_of_ble_eq_true rfl) (by decide +kernel) rfl rfl (st' := [jI r3]) rfl ?_
  refine B_blk B (jlkn_ok RL) jcl_SKF [.iload 5] (by decide +kernel) (ls' := [(0, jR jXS), (1, jR 0), (2, jR 74), (3, jR 87), (4, jI i), (5, jI r1.1), (6, jI r2.1)]) (st' := [jI r1.1, jI r3]) rfl (p1 := 1989) rfl ?_
  refine J_icmp_eq B.1 (off := 5) (tgt := 1994) (by decide +kernel) (by decide) hf (fun hf => ?_) (fun hf => ?_)
  · refine B_blk B (jlkn_ok RL) jcl_SKF [.iload 5] (by decide +kernel) (ls' := [(0, jR jXS), (1, jR 0), (2, jR 74), (3, jR 87), (4, jI i), (5, jI r1.1), (6, jI r2.1)]) (st' := [jI r1.1]) rfl (p1 := 1996) rfl ?_
    refine J_if_ne B.1 (off := 15) (tgt := 2011) (by decide +kernel) (by decide) hf (fun hf => ?_) (fun hf => ?_)
    · refine B_blk B (jlkn_ok RL) jcl_SKF [.aload_n 3, .iconst 0] (by decide +kernel) (ls' := [(0, jR jXS), (1, jR 0), (2, jR 74), (3, jR 87), (4, jI i), (5, jI r1.1), (6, jI r2.1)]) (st' := [jI 0, jR 87]) rfl (p1 := 2001) rfl ?_
      refine K_lald (lenI := 1) B rfl rfl (by decide) (by decide +kernel) ?_
      refine B_blk B (jlkn_ok RL) jcl_SKF [.iload 6, .i2l, .lcmp] (by decide +kernel) (ls' := [(0, jR jXS), (1, jR 0), (2, jR 74), (3, jR 87), (4, jI i), (5, jI r1.1), (6, jI r2.1)]) (st' := [jI (jCm (r2.2 87 0) r2.1)]) rfl (p1 := 2006) rfl ?_
      refine J_if_eq B.1 (off := 5) (tgt := 2011) (by decide +kernel) (by decide) hf (fun hf => ?_) (fun hf => ?_)
      · refine B_blk B (jlkn_ok RL) jcl_SKF [.goto 1612] (by decide +kernel) (ls' := [(0, jR jXS), (1, jR 0), (2, jR 74), (3, jR 87), (4, jI i), (5, jI r1.1), (6, jI r2.1)]) (st' := []) rfl (p1 := 3623) rfl ?_
        refine J_pick [0, 1, 2, 3, 4] (ls' := [(0, jR jXS), (1, jR 0), (2, jR 74), (3, jR 87), (4, jI i)]) rfl ?_
        cases hf
        exact J_widen (by omega) (by omega) hx
      · refine B_blk B (jlkn_ok RL) jcl_SKF [.iconst 0] (by decide +kernel) (ls' := [(0, jR jXS), (1, jR 0), (2, jR 74), (3, jR 87), (4, jI i), (5, jI r1.1), (6, jI r2.1)]) (st' := [jI 0]) rfl (p1 := 2010) rfl ?_
        cases hf
    · refine B_blk B (jlkn_ok RL) jcl_SKF [.goto 1612] (by decide +kernel) (ls' := [(0, jR jXS), (1, jR 0), (2, jR 74), (3, jR 87), (4, jI i), (5, jI r1.1), (6, jI r2.1)]) (st' := []) rfl (p1 := 3623) rfl ?_
      refine J_pick [0, 1, 2, 3, 4] (ls' := [(0, jR jXS), (1, jR 0), (2, jR 74), (3, jR 87), (4, jI i)]) rfl ?_
      cases hf
      exact J_widen (by omega) (by omega) hx
  · refine B_blk B (jlkn_ok RL) jcl_SKF [.iconst 0] (by decide +kernel) (ls' := [(0, jR jXS), (1, jR 0), (2, jR 74), (3, jR 87), (4, jI i), (5, jI r1.1), (6, jI r2.1)]) (st' := [jI 0]) rfl (p1 := 1993) rfl ?_
    cases hf

def f_case_24 (sx : Int → Int) (L i : Int) (m : jMu) : Option jMu :=
  (if 0 ≤ jW (i + 1) ∧ jW (i + 1) < L then (if 0 ≤ jW (i + 2) ∧ jW (i + 2) < L then (if 0 ≤ jW (i + 3) ∧ jW (i + 3) < L then (f_L_caught (sx (jW (i + 1))) (sx (jW (i + 2))) (sx (jW (i + 3))) m).bind fun r1 => (if 0 ≤ jW (i + 1) ∧ jW (i + 1) < L then (if 0 ≤ jW (i + 2) ∧ jW (i + 2) < L then (if 0 ≤ jW (i + 3) ∧ jW (i + 3) < L then (f_X10_caught (sx (jW (i + 1))) (sx (jW (i + 2))) (sx (jW (i + 3))) r1.2).bind fun r2 => (f_X10_thrown r2.2).bind fun r3 => (if r3 = r1.1 then (if r1.1 = 0 then (if jCm (r2.2 87 0) r2.1 = 0 then some r2.2 else none) else some r2.2) else none) else none) else none) else none) else none) else none) else none)
theorem t_case_24 {X : jX} {L : Int} {sx : Int → Int} (hsx : jsx (xG X) L sx) (B : jB X cL_law RL 8 0 room_1 (some .boolean)) {k n : Nat} (hk : k ≤ 8900) (hn : n ≤ 89000) {i : Int} {m o : jMu} (hf : f_case_24 sx L i m = some o) (hx : J X SKF o (k + 5) (n + 30) 3623 [(0, jR jXS), (1, jR 0), (2, jR 74), (3, jR 87), (4, jI i)] []) : J X SKF m k n 2014 [(0, jR jXS), (1, jR 0), (2, jR 74), (3, jR 87), (4, jI i)] [] := by
  unfold f_case_24 at hf
  refine B_blk B (jlkn_ok RL) jcl_SKF [.aload_n 1, .aload_n 0, .iload 4, .iconst 1, .iadd] (by decide +kernel) (ls' := [(0, jR jXS), (1, jR 0), (2, jR 74), (3, jR 87), (4, jI i)]) (st' := [jI (jW (i + 1)), jR jXS, jR 0]) rfl (p1 := 2020) rfl ?_
  obtain ⟨g9, hf⟩ := jgd hf
  refine K_xald B hsx g9 (by decide +kernel) ?_
  refine B_blk B (jlkn_ok RL) jcl_SKF [.aload_n 0, .iload 4, .iconst 2, .iadd] (by decide +kernel) (ls' := [(0, jR jXS), (1, jR 0), (2, jR 74), (3, jR 87), (4, jI i)]) (st' := [jI (jW (i + 2)), jR jXS, jI (sx (jW (i + 1))), jR 0]) rfl (p1 := 2026) rfl ?_
  obtain ⟨g8, hf⟩ := jgd hf
  refine K_xald B hsx g8 (by decide +kernel) ?_
  refine B_blk B (jlkn_ok RL) jcl_SKF [.aload_n 0, .iload 4, .iconst 3, .iadd] (by decide +kernel) (ls' := [(0, jR jXS), (1, jR 0), (2, jR 74), (3, jR 87), (4, jI i)]) (st' := [jI (jW (i + 3)), jR jXS, jI (sx (jW (i + 2))), jI (sx (jW (i + 1))), jR 0]) rfl (p1 := 2032) rfl ?_
  obtain ⟨g7, hf⟩ := jgd hf
  refine K_xald B hsx g7 (by decide +kernel) ?_
  refine B_blk B (jlkn_ok RL) jcl_SKF [.aload_n 3] (by decide +kernel) (ls' := [(0, jR jXS), (1, jR 0), (2, jR 74), (3, jR 87), (4, jI i)]) (st' := [jR 87, jI (sx (jW (i + 3))), jI (sx (jW (i + 2))), jI (sx (jW (i + 1))), jR 0]) rfl (p1 := 2034) rfl ?_
  obtain ⟨r1, h1, hf⟩ := jbd hf
  refine B_callH B (Nat.zero_le _) (μ' := r1.2) (k' := k + 3) (n' := n + 18) ca_L_caught sa_L_caught lk_L_250 (t_L_caught B.tr h1) (Nat.le_refl _) (jRoom (K := 9000) (N := 90000) (by omega) (by omega) rfl) (rest := []) rfl rfl (Nat.le_of_ble_eq_true rfl) (by decide +kernel) rfl rfl (st' := [jI r1.1]) rfl ?_
  refine B_blk B (jlkn_ok RL) jcl_SKF [.istore 5, .aload_n 2, .aload_n 0, .iload 4, .iconst 1, .iadd] (by decide +kernel) (ls' := [(0, jR jXS), (1, jR 0), (2, jR 74), (3, jR 87), (4, jI i), (5, jI r1.1)]) (st' := [jI (jW (i + 1)), jR jXS, jR 74]) rfl (p1 := 2045) rfl ?_
  obtain ⟨g6, hf⟩ := jgd hf
  refine K_xald B hsx g6 (by decide +kernel) ?_
  refine B_blk B (jlkn_ok RL) jcl_SKF [.aload_n 0, .iload 4, .iconst 2, .iadd] (by decide +kernel) (ls' := [(0, jR jXS), (1, jR 0), (2, jR 74), (3, jR 87), (4, jI i), (5, jI r1.1)]) (st' := [jI (jW (i + 2)), jR jXS, jI (sx (jW (i + 1))), jR 74]) rfl (p1 := 2051) rfl ?_
  obtain ⟨g5, hf⟩ := jgd hf
  refine K_xald B hsx g5 (by decide +kernel) ?_
  refine B_blk B (jlkn_ok RL) jcl_SKF [.aload_n 0, .iload 4, .iconst 3, .iadd] (by decide +kernel) (ls' := [(0, jR jXS), (1, jR 0), (2, jR 74), (3, jR 87), (4, jI i), (5, jI r1.1)]) (st' := [jI (jW (i + 3)), jR jXS, jI (sx (jW (i + 2))), jI (sx (jW (i + 1))), jR 74]) rfl (p1 := 2057) rfl ?_
  obtain ⟨g4, hf⟩ := jgd hf
  refine K_xald B hsx g4 (by decide +kernel) ?_
  obtain ⟨r2, h2, hf⟩ := jbd hf
  refine B_callV B (Nat.zero_le _) (μ' := r2.2) (k' := k + 3) (n' := n + 18) ca_X10_caught in_X10_caught se_X10_caught lk_L_252 (t_X10_caught B.tr h2) (Nat.le_refl _) (jRoom (K := 9000) (N := 90000) (by omega) (by omega) rfl) rfl rfl (rest := []) rfl rfl (Nat.le_of_ble_eq_true rfl) (by decide +kernel) rfl rfl (st' := [jI r2.1]) rfl ?_
  refine B_blk B (jlkn_ok RL) jcl_SKF [.istore 6, .aload_n 2] (by decide +kernel) (ls' := [(0, jR jXS), (1, jR 0), (2, jR 74), (3, jR 87), (4, jI i), (5, jI r1.1), (6, jI r2.1)]) (st' := [jR 74]) rfl (p1 := 2064) rfl ?_
  obtain ⟨r3, h3, hf⟩ := jbd hf
  refine B_callV B (Nat.zero_le _) (μ' := r2.2) (k' := k + 3) (n' := n + 18) ca_X10_thrown in_X10_thrown se_X10_thrown lk_L_174 (t_X10_thrown B.tr h3) (Nat.le_refl _) (jRoom (K := 9000) (N := 90000) (by omega) (by omega) rfl) rfl rfl (rest := []) rfl rfl (Nat.le_of_ble_eq_true rfl) (by decide +kernel) rfl rfl (st' := [jI r3]) rfl ?_
  refine B_blk B (jlkn_ok RL) jcl_SKF [.iload 5] (by decide +kernel) (ls' := [(0, jR jXS), (1, jR 0), (2, jR 74), (3, jR 87), (4, jI i), (5, jI r1.1), (6, jI r2.1)]) (st' := [jI r1.1, jI r3]) rfl (p1 := 2069) rfl ?_
  refine J_icmp_eq B.1 (off := 5) (tgt := 2074) (by decide +kernel) (by decide) hf (fun hf => ?_) (fun hf => ?_)
  · refine B_blk B (jlkn_ok RL) jcl_SKF [.iload 5] (by decide +kernel) (ls' := [(0, jR jXS), (1, jR 0), (2, jR 74), (3, jR 87), (4, jI i), (5, jI r1.1), (6, jI r2.1)]) (st' := [jI r1.1]) rfl (p1 := 2076) rfl ?_
    refine J_if_ne B.1 (off := 15) (tgt := 2091) (by decide +kernel) (by decide) hf (fun hf => ?_) (fun hf => ?_)
    · refine B_blk B (jlkn_ok RL) jcl_SKF [.aload_n 3, .iconst 0] (by decide +kernel) (ls' := [(0, jR jXS), (1, jR 0), (2, jR 74), (3, jR 87), (4, jI i), (5, jI r1.1), (6, jI r2.1)]) (st' := [jI 0, jR 87]) rfl (p1 := 2081) rfl ?_
      refine K_lald (lenI := 1) B rfl rfl (by decide) (by decide +kernel) ?_
      refine B_blk B (jlkn_ok RL) jcl_SKF [.iload 6, .i2l, .lcmp] (by decide +kernel) (ls' := [(0, jR jXS), (1, jR 0), (2, jR 74), (3, jR 87), (4, jI i), (5, jI r1.1), (6, jI r2.1)]) (st' := [jI (jCm (r2.2 87 0) r2.1)]) rfl (p1 := 2086) rfl ?_
      refine J_if_eq B.1 (off := 5) (tgt := 2091) (by decide +kernel) (by decide) hf (fun hf => ?_) (fun hf => ?_)
      · refine B_blk B (jlkn_ok RL) jcl_SKF [.goto 1532] (by decide +kernel) (ls' := [(0, jR jXS), (1, jR 0), (2, jR 74), (3, jR 87), (4, jI i), (5, jI r1.1), (6, jI r2.1)]) (st' := []) rfl (p1 := 3623) rfl ?_
        refine J_pick [0, 1, 2, 3, 4] (ls' := [(0, jR jXS), (1, jR 0), (2, jR 74), (3, jR 87), (4, jI i)]) rfl ?_
        cases hf
        exact J_widen (by omega) (by omega) hx
      · refine B_blk B (jlkn_ok RL) jcl_SKF [.iconst 0] (by decide +kernel) (ls' := [(0, jR jXS), (1, jR 0), (2, jR 74), (3, jR 87), (4, jI i), (5, jI r1.1), (6, jI r2.1)]) (st' := [jI 0]) rfl (p1 := 2090) rfl ?_
        cases hf
    · refine B_blk B (jlkn_ok RL) jcl_SKF [.goto 1532] (by decide +kernel) (ls' := [(0, jR jXS), (1, jR 0), (2, jR 74), (3, jR 87), (4, jI i), (5, jI r1.1), (6, jI r2.1)]) (st' := []) rfl (p1 := 3623) rfl ?_
      refine J_pick [0, 1, 2, 3, 4] (ls' := [(0, jR jXS), (1, jR 0), (2, jR 74), (3, jR 87), (4, jI i)]) rfl ?_
      cases hf
      exact J_widen (by omega) (by omega) hx
  · refine B_blk B (jlkn_ok RL) jcl_SKF [.iconst 0] (by decide +kernel) (ls' := [(0, jR jXS), (1, jR 0), (2, jR 74), (3, jR 87), (4, jI i), (5, jI r1.1), (6, jI r2.1)]) (st' := [jI 0]) rfl (p1 := 2073) rfl ?_
    cases hf

def f_case_25 (sx : Int → Int) (L i : Int) (m : jMu) : Option jMu :=
  (if 0 ≤ jW (i + 1) ∧ jW (i + 1) < L then (if 0 ≤ jW (i + 2) ∧ jW (i + 2) < L then (if 0 ≤ jW (i + 3) ∧ jW (i + 3) < L then (if 0 ≤ jW (i + 4) ∧ jW (i + 4) < L then (f_L_bare (sx (jW (i + 1))) (sx (jW (i + 2))) (sx (jW (i + 3))) (sx (jW (i + 4))) m).bind fun r1 => (if 0 ≤ jW (i + 1) ∧ jW (i + 1) < L then (if 0 ≤ jW (i + 2) ∧ jW (i + 2) < L then (if 0 ≤ jW (i + 3) ∧ jW (i + 3) < L then (if 0 ≤ jW (i + 4) ∧ jW (i + 4) < L then (f_X10_bare (sx (jW (i + 1))) (sx (jW (i + 2))) (sx (jW (i + 3))) (sx (jW (i + 4))) r1.2).bind fun r2 => (f_X10_thrown r2.2).bind fun r3 => (if r3 = r1.1 then (if r1.1 = 0 then (if jCm (r2.2 87 0) r2.1 = 0 then some r2.2 else none) else some r2.2) else none) else none) else none) else none) else none) else none) else none) else none) else none)
theorem t_case_25 {X : jX} {L : Int} {sx : Int → Int} (hsx : jsx (xG X) L sx) (B : jB X cL_law RL 8 0 room_1 (some .boolean)) {k n : Nat} (hk : k ≤ 8900) (hn : n ≤ 89000) {i : Int} {m o : jMu} (hf : f_case_25 sx L i m = some o) (hx : J X SKF o (k + 5) (n + 30) 3623 [(0, jR jXS), (1, jR 0), (2, jR 74), (3, jR 87), (4, jI i)] []) : J X SKF m k n 2094 [(0, jR jXS), (1, jR 0), (2, jR 74), (3, jR 87), (4, jI i)] [] := by
  unfold f_case_25 at hf
  refine B_blk B (jlkn_ok RL) jcl_SKF [.aload_n 1, .aload_n 0, .iload 4, .iconst 1, .iadd] (by decide +kernel) (ls' := [(0, jR jXS), (1, jR 0), (2, jR 74), (3, jR 87), (4, jI i)]) (st' := [jI (jW (i + 1)), jR jXS, jR 0]) rfl (p1 := 2100) rfl ?_
  obtain ⟨g11, hf⟩ := jgd hf
  refine K_xald B hsx g11 (by decide +kernel) ?_
  refine B_blk B (jlkn_ok RL) jcl_SKF [.aload_n 0, .iload 4, .iconst 2, .iadd] (by decide +kernel) (ls' := [(0, jR jXS), (1, jR 0), (2, jR 74), (3, jR 87), (4, jI i)]) (st' := [jI (jW (i + 2)), jR jXS, jI (sx (jW (i + 1))), jR 0]) rfl (p1 := 2106) rfl ?_
  obtain ⟨g10, hf⟩ := jgd hf
  refine K_xald B hsx g10 (by decide +kernel) ?_
  refine B_blk B (jlkn_ok RL) jcl_SKF [.aload_n 0, .iload 4, .iconst 3, .iadd] (by decide +kernel) (ls' := [(0, jR jXS), (1, jR 0), (2, jR 74), (3, jR 87), (4, jI i)]) (st' := [jI (jW (i + 3)), jR jXS, jI (sx (jW (i + 2))), jI (sx (jW (i + 1))), jR 0]) rfl (p1 := 2112) rfl ?_
  obtain ⟨g9, hf⟩ := jgd hf
  refine K_xald B hsx g9 (by decide +kernel) ?_
  refine B_blk B (jlkn_ok RL) jcl_SKF [.aload_n 0, .iload 4, .iconst 4, .iadd] (by decide +kernel) (ls' := [(0, jR jXS), (1, jR 0), (2, jR 74), (3, jR 87), (4, jI i)]) (st' := [jI (jW (i + 4)), jR jXS, jI (sx (jW (i + 3))), jI (sx (jW (i + 2))), jI (sx (jW (i + 1))), jR 0]) rfl (p1 := 2118) rfl ?_
  obtain ⟨g8, hf⟩ := jgd hf
  refine K_xald B hsx g8 (by decide +kernel) ?_
  refine B_blk B (jlkn_ok RL) jcl_SKF [.aload_n 3] (by decide +kernel) (ls' := [(0, jR jXS), (1, jR 0), (2, jR 74), (3, jR 87), (4, jI i)]) (st' := [jR 87, jI (sx (jW (i + 4))), jI (sx (jW (i + 3))), jI (sx (jW (i + 2))), jI (sx (jW (i + 1))), jR 0]) rfl (p1 := 2120) rfl ?_
  obtain ⟨r1, h1, hf⟩ := jbd hf
  refine B_callH B (Nat.zero_le _) (μ' := r1.2) (k' := k + 3) (n' := n + 18) ca_L_bare sa_L_bare lk_L_253 (t_L_bare B.tr h1) (Nat.le_refl _) (jRoom (K := 9000) (N := 90000) (by omega) (by omega) rfl) (rest := []) rfl rfl (Nat.le_of_ble_eq_true rfl) (by decide +kernel) rfl rfl (st' := [jI r1.1]) rfl ?_
  refine B_blk B (jlkn_ok RL) jcl_SKF [.istore 5, .aload_n 2, .aload_n 0, .iload 4, .iconst 1, .iadd] (by decide +kernel) (ls' := [(0, jR jXS), (1, jR 0), (2, jR 74), (3, jR 87), (4, jI i), (5, jI r1.1)]) (st' := [jI (jW (i + 1)), jR jXS, jR 74]) rfl (p1 := 2131) rfl ?_
  obtain ⟨g7, hf⟩ := jgd hf
  refine K_xald B hsx g7 (by decide +kernel) ?_
  refine B_blk B (jlkn_ok RL) jcl_SKF [.aload_n 0, .iload 4, .iconst 2, .iadd] (by decide +kernel) (ls' := [(0, jR jXS), (1, jR 0), (2, jR 74), (3, jR 87), (4, jI i), (5, jI r1.1)]) (st' := [jI (jW (i + 2)), jR jXS, jI (sx (jW (i + 1))), jR 74]) rfl (p1 := 2137) rfl ?_
  obtain ⟨g6, hf⟩ := jgd hf
  refine K_xald B hsx g6 (by decide +kernel) ?_
  refine B_blk B (jlkn_ok RL) jcl_SKF [.aload_n 0, .iload 4, .iconst 3, .iadd] (by decide +kernel) (ls' := [(0, jR jXS), (1, jR 0), (2, jR 74), (3, jR 87), (4, jI i), (5, jI r1.1)]) (st' := [jI (jW (i + 3)), jR jXS, jI (sx (jW (i + 2))), jI (sx (jW (i + 1))), jR 74]) rfl (p1 := 2143) rfl ?_
  obtain ⟨g5, hf⟩ := jgd hf
  refine K_xald B hsx g5 (by decide +kernel) ?_
  refine B_blk B (jlkn_ok RL) jcl_SKF [.aload_n 0, .iload 4, .iconst 4, .iadd] (by decide +kernel) (ls' := [(0, jR jXS), (1, jR 0), (2, jR 74), (3, jR 87), (4, jI i), (5, jI r1.1)]) (st' := [jI (jW (i + 4)), jR jXS, jI (sx (jW (i + 3))), jI (sx (jW (i + 2))), jI (sx (jW (i + 1))), jR 74]) rfl (p1 := 2149) rfl ?_
  obtain ⟨g4, hf⟩ := jgd hf
  refine K_xald B hsx g4 (by decide +kernel) ?_
  obtain ⟨r2, h2, hf⟩ := jbd hf
  refine B_callV B (Nat.zero_le _) (μ' := r2.2) (k' := k + 3) (n' := n + 18) ca_X10_bare in_X10_bare se_X10_bare lk_L_255 (t_X10_bare B.tr h2) (Nat.le_refl _) (jRoom (K := 9000) (N := 90000) (by omega) (by omega) rfl) rfl rfl (rest := []) rfl rfl (Nat.le_of_ble_eq_true rfl) (by decide +kernel) rfl rfl (st' := [jI r2.1]) rfl ?_
  refine B_blk B (jlkn_ok RL) jcl_SKF [.istore 6, .aload_n 2] (by decide +kernel) (ls' := [(0, jR jXS), (1, jR 0), (2, jR 74), (3, jR 87), (4, jI i), (5, jI r1.1), (6, jI r2.1)]) (st' := [jR 74]) rfl (p1 := 2156) rfl ?_
  obtain ⟨r3, h3, hf⟩ := jbd hf
  refine B_callV B (Nat.zero_le _) (μ' := r2.2) (k' := k + 3) (n' := n + 18) ca_X10_thrown in_X10_thrown se_X10_thrown lk_L_174 (t_X10_thrown B.tr h3) (Nat.le_refl _) (jRoom (K := 9000) (N := 90000) (by omega) (by omega) rfl) rfl rfl (rest := []) rfl rfl (Nat.le_of_ble_eq_true rfl) (by decide +kernel) rfl rfl (st' := [jI r3]) rfl ?_
  refine B_blk B (jlkn_ok RL) jcl_SKF [.iload 5] (by decide +kernel) (ls' := [(0, jR jXS), (1, jR 0), (2, jR 74), (3, jR 87), (4, jI i), (5, jI r1.1), (6, jI r2.1)]) (st' := [jI r1.1, jI r3]) rfl (p1 := 2161) rfl ?_
  refine J_icmp_eq B.1 (off := 5) (tgt := 2166) (by decide +kernel) (by decide) hf (fun hf => ?_) (fun hf => ?_)
  · refine B_blk B (jlkn_ok RL) jcl_SKF [.iload 5] (by decide +kernel) (ls' := [(0, jR jXS), (1, jR 0), (2, jR 74), (3, jR 87), (4, jI i), (5, jI r1.1), (6, jI r2.1)]) (st' := [jI r1.1]) rfl (p1 := 2168) rfl ?_
    refine J_if_ne B.1 (off := 15) (tgt := 2183) (by decide +kernel) (by decide) hf (fun hf => ?_) (fun hf => ?_)
    · refine B_blk B (jlkn_ok RL) jcl_SKF [.aload_n 3, .iconst 0] (by decide +kernel) (ls' := [(0, jR jXS), (1, jR 0), (2, jR 74), (3, jR 87), (4, jI i), (5, jI r1.1), (6, jI r2.1)]) (st' := [jI 0, jR 87]) rfl (p1 := 2173) rfl ?_
      refine K_lald (lenI := 1) B rfl rfl (by decide) (by decide +kernel) ?_
      refine B_blk B (jlkn_ok RL) jcl_SKF [.iload 6, .i2l, .lcmp] (by decide +kernel) (ls' := [(0, jR jXS), (1, jR 0), (2, jR 74), (3, jR 87), (4, jI i), (5, jI r1.1), (6, jI r2.1)]) (st' := [jI (jCm (r2.2 87 0) r2.1)]) rfl (p1 := 2178) rfl ?_
      refine J_if_eq B.1 (off := 5) (tgt := 2183) (by decide +kernel) (by decide) hf (fun hf => ?_) (fun hf => ?_)
      · refine B_blk B (jlkn_ok RL) jcl_SKF [.goto 1440] (by decide +kernel) (ls' := [(0, jR jXS), (1, jR 0), (2, jR 74), (3, jR 87), (4, jI i), (5, jI r1.1), (6, jI r2.1)]) (st' := []) rfl (p1 := 3623) rfl ?_
        refine J_pick [0, 1, 2, 3, 4] (ls' := [(0, jR jXS), (1, jR 0), (2, jR 74), (3, jR 87), (4, jI i)]) rfl ?_
        cases hf
        exact J_widen (by omega) (by omega) hx
      · refine B_blk B (jlkn_ok RL) jcl_SKF [.iconst 0] (by decide +kernel) (ls' := [(0, jR jXS), (1, jR 0), (2, jR 74), (3, jR 87), (4, jI i), (5, jI r1.1), (6, jI r2.1)]) (st' := [jI 0]) rfl (p1 := 2182) rfl ?_
        cases hf
    · refine B_blk B (jlkn_ok RL) jcl_SKF [.goto 1440] (by decide +kernel) (ls' := [(0, jR jXS), (1, jR 0), (2, jR 74), (3, jR 87), (4, jI i), (5, jI r1.1), (6, jI r2.1)]) (st' := []) rfl (p1 := 3623) rfl ?_
      refine J_pick [0, 1, 2, 3, 4] (ls' := [(0, jR jXS), (1, jR 0), (2, jR 74), (3, jR 87), (4, jI i)]) rfl ?_
      cases hf
      exact J_widen (by omega) (by omega) hx
  · refine B_blk B (jlkn_ok RL) jcl_SKF [.iconst 0] (by decide +kernel) (ls' := [(0, jR jXS), (1, jR 0), (2, jR 74), (3, jR 87), (4, jI i), (5, jI r1.1), (6, jI r2.1)]) (st' := [jI 0]) rfl (p1 := 2165) rfl ?_
    cases hf

def f_case_26 (sx : Int → Int) (L i : Int) (m : jMu) : Option jMu :=
  (if 0 ≤ jW (i + 1) ∧ jW (i + 1) < L then (if 0 ≤ jW (i + 2) ∧ jW (i + 2) < L then (if 0 ≤ jW (i + 3) ∧ jW (i + 3) < L then (f_L_rust (sx (jW (i + 1))) (sx (jW (i + 2))) (sx (jW (i + 3))) m).bind fun r1 => (if 0 ≤ jW (i + 1) ∧ jW (i + 1) < L then (if 0 ≤ jW (i + 2) ∧ jW (i + 2) < L then (if 0 ≤ jW (i + 3) ∧ jW (i + 3) < L then (f_X10_rust (sx (jW (i + 1))) (sx (jW (i + 2))) (sx (jW (i + 3))) r1.2).bind fun r2 => (f_X10_thrown r2).bind fun r3 => (if r3 = r1.1 then some r2 else none) else none) else none) else none) else none) else none) else none)
theorem t_case_26 {X : jX} {L : Int} {sx : Int → Int} (hsx : jsx (xG X) L sx) (B : jB X cL_law RL 8 0 room_1 (some .boolean)) {k n : Nat} (hk : k ≤ 8900) (hn : n ≤ 89000) {i : Int} {m o : jMu} (hf : f_case_26 sx L i m = some o) (hx : J X SKF o (k + 5) (n + 30) 3623 [(0, jR jXS), (1, jR 0), (2, jR 74), (3, jR 87), (4, jI i)] []) : J X SKF m k n 2186 [(0, jR jXS), (1, jR 0), (2, jR 74), (3, jR 87), (4, jI i)] [] := by
  unfold f_case_26 at hf
  refine B_blk B (jlkn_ok RL) jcl_SKF [.aload_n 1, .aload_n 0, .iload 4, .iconst 1, .iadd] (by decide +kernel) (ls' := [(0, jR jXS), (1, jR 0), (2, jR 74), (3, jR 87), (4, jI i)]) (st' := [jI (jW (i + 1)), jR jXS, jR 0]) rfl (p1 := 2192) rfl ?_
  obtain ⟨g9, hf⟩ := jgd hf
  refine K_xald B hsx g9 (by decide +kernel) ?_
  refine B_blk B (jlkn_ok RL) jcl_SKF [.aload_n 0, .iload 4, .iconst 2, .iadd] (by decide +kernel) (ls' := [(0, jR jXS), (1, jR 0), (2, jR 74), (3, jR 87), (4, jI i)]) (st' := [jI (jW (i + 2)), jR jXS, jI (sx (jW (i + 1))), jR 0]) rfl (p1 := 2198) rfl ?_
  obtain ⟨g8, hf⟩ := jgd hf
  refine K_xald B hsx g8 (by decide +kernel) ?_
  refine B_blk B (jlkn_ok RL) jcl_SKF [.aload_n 0, .iload 4, .iconst 3, .iadd] (by decide +kernel) (ls' := [(0, jR jXS), (1, jR 0), (2, jR 74), (3, jR 87), (4, jI i)]) (st' := [jI (jW (i + 3)), jR jXS, jI (sx (jW (i + 2))), jI (sx (jW (i + 1))), jR 0]) rfl (p1 := 2204) rfl ?_
  obtain ⟨g7, hf⟩ := jgd hf
  refine K_xald B hsx g7 (by decide +kernel) ?_
  obtain ⟨r1, h1, hf⟩ := jbd hf
  refine B_callH B (Nat.zero_le _) (μ' := r1.2) (k' := k + 2) (n' := n + 12) ca_L_rust sa_L_rust lk_L_256 (t_L_rust B.tr h1) (Nat.le_refl _) (jRoom (K := 9000) (N := 90000) (by omega) (by omega) rfl) (rest := []) rfl rfl (Nat.le_of_ble_eq_true rfl) (by decide +kernel) rfl rfl (st' := [jI r1.1]) rfl ?_
  refine B_blk B (jlkn_ok RL) jcl_SKF [.istore 5, .aload_n 2, .aload_n 0, .iload 4, .iconst 1, .iadd] (by decide +kernel) (ls' := [(0, jR jXS), (1, jR 0), (2, jR 74), (3, jR 87), (4, jI i), (5, jI r1.1)]) (st' := [jI (jW (i + 1)), jR jXS, jR 74]) rfl (p1 := 2216) rfl ?_
  obtain ⟨g6, hf⟩ := jgd hf
  refine K_xald B hsx g6 (by decide +kernel) ?_
  refine B_blk B (jlkn_ok RL) jcl_SKF [.aload_n 0, .iload 4, .iconst 2, .iadd] (by decide +kernel) (ls' := [(0, jR jXS), (1, jR 0), (2, jR 74), (3, jR 87), (4, jI i), (5, jI r1.1)]) (st' := [jI (jW (i + 2)), jR jXS, jI (sx (jW (i + 1))), jR 74]) rfl (p1 := 2222) rfl ?_
  obtain ⟨g5, hf⟩ := jgd hf
  refine K_xald B hsx g5 (by decide +kernel) ?_
  refine B_blk B (jlkn_ok RL) jcl_SKF [.aload_n 0, .iload 4, .iconst 3, .iadd] (by decide +kernel) (ls' := [(0, jR jXS), (1, jR 0), (2, jR 74), (3, jR 87), (4, jI i), (5, jI r1.1)]) (st' := [jI (jW (i + 3)), jR jXS, jI (sx (jW (i + 2))), jI (sx (jW (i + 1))), jR 74]) rfl (p1 := 2228) rfl ?_
  obtain ⟨g4, hf⟩ := jgd hf
  refine K_xald B hsx g4 (by decide +kernel) ?_
  obtain ⟨r2, h2, hf⟩ := jbd hf
  refine B_callV B (Nat.zero_le _) (μ' := r2) (k' := k + 2) (n' := n + 12) ca_X10_rust in_X10_rust se_X10_rust lk_L_259 (t_X10_rust B.tr h2) (Nat.le_refl _) (jRoom (K := 9000) (N := 90000) (by omega) (by omega) rfl) rfl rfl (rest := []) rfl rfl (Nat.le_of_ble_eq_true rfl) (by decide +kernel) rfl rfl (st' := []) rfl ?_
  refine B_blk B (jlkn_ok RL) jcl_SKF [.aload_n 2] (by decide +kernel) (ls' := [(0, jR jXS), (1, jR 0), (2, jR 74), (3, jR 87), (4, jI i), (5, jI r1.1)]) (st' := [jR 74]) rfl (p1 := 2233) rfl ?_
  obtain ⟨r3, h3, hf⟩ := jbd hf
  refine B_callV B (Nat.zero_le _) (μ' := r2) (k' := k + 2) (n' := n + 12) ca_X10_thrown in_X10_thrown se_X10_thrown lk_L_174 (t_X10_thrown B.tr h3) (Nat.le_refl _) (jRoom (K := 9000) (N := 90000) (by omega) (by omega) rfl) rfl rfl (rest := []) rfl rfl (Nat.le_of_ble_eq_true rfl) (by decide +kernel) rfl rfl (st' := [jI r3]) rfl ?_
  refine B_blk B (jlkn_ok RL) jcl_SKF [.iload 5] (by decide +kernel) (ls' := [(0, jR jXS), (1, jR 0), (2, jR 74), (3, jR 87), (4, jI i), (5, jI r1.1)]) (st' := [jI r1.1, jI r3]) rfl (p1 := 2238) rfl ?_
  refine J_icmp_eq B.1 (off := 5) (tgt := 2243) (by decide +kernel) (by decide) hf (fun hf => ?_) (fun hf => ?_)
  · refine B_blk B (jlkn_ok RL) jcl_SKF [.goto 1380] (by decide +kernel) (ls' := [(0, jR jXS), (1, jR 0), (2, jR 74), (3, jR 87), (4, jI i), (5, jI r1.1)]) (st' := []) rfl (p1 := 3623) rfl ?_
    refine J_pick [0, 1, 2, 3, 4] (ls' := [(0, jR jXS), (1, jR 0), (2, jR 74), (3, jR 87), (4, jI i)]) rfl ?_
    cases hf
    exact J_widen (by omega) (by omega) hx
  · refine B_blk B (jlkn_ok RL) jcl_SKF [.iconst 0] (by decide +kernel) (ls' := [(0, jR jXS), (1, jR 0), (2, jR 74), (3, jR 87), (4, jI i), (5, jI r1.1)]) (st' := [jI 0]) rfl (p1 := 2242) rfl ?_
    cases hf
