/-! printed walks -/
def f_case_27 (sx : Int → Int) (L i : Int) (m : jMu) : Option jMu :=
  (if 0 ≤ jW (i + 1) ∧ jW (i + 1) < L then (if 0 ≤ jW (i + 2) ∧ jW (i + 2) < L then (if 0 ≤ jW (i + 3) ∧ jW (i + 3) < L then (f_L_reading (sx (jW (i + 1))) (sx (jW (i + 2))) (sx (jW (i + 3))) m).bind fun r1 => (if 0 ≤ jW (i + 1) ∧ jW (i + 1) < L then (if 0 ≤ jW (i + 2) ∧ jW (i + 2) < L then (if 0 ≤ jW (i + 3) ∧ jW (i + 3) < L then (f_X10_reading (sx (jW (i + 1))) (sx (jW (i + 2))) (sx (jW (i + 3))) r1.2).bind fun r2 => (f_X10_thrown r2.2).bind fun r3 => (if r3 = r1.1 then (if r1.1 = 0 then (if jCm (r2.2 87 0) r2.1 = 0 then some r2.2 else none) else some r2.2) else none) else none) else none) else none) else none) else none) else none)
theorem t_case_27 {X : jX} {L : Int} {sx : Int → Int} (hsx : jsx (xG X) L sx) (B : jB X cL_law RL 8 0 room_1 (some .boolean)) {k n : Nat} (hk : k ≤ 8900) (hn : n ≤ 89000) {i : Int} {m o : jMu} (hf : f_case_27 sx L i m = some o) (hx : J X SKF o (k + 5) (n + 30) 3623 [(0, jR jXS), (1, jR 0), (2, jR 74), (3, jR 87), (4, jI i)] []) : J X SKF m k n 2246 [(0, jR jXS), (1, jR 0), (2, jR 74), (3, jR 87), (4, jI i)] [] := by
  unfold f_case_27 at hf
  refine B_blk B (jlkn_ok RL) jcl_SKF [.aload_n 1, .aload_n 0, .iload 4, .iconst 1, .iadd] (by decide +kernel) (ls' := [(0, jR jXS), (1, jR 0), (2, jR 74), (3, jR 87), (4, jI i)]) (st' := [jI (jW (i + 1)), jR jXS, jR 0]) rfl (p1 := 2252) rfl ?_
  obtain ⟨g9, hf⟩ := jgd hf
  refine K_xald B hsx g9 (by decide +kernel) ?_
  refine B_blk B (jlkn_ok RL) jcl_SKF [.aload_n 0, .iload 4, .iconst 2, .iadd] (by decide +kernel) (ls' := [(0, jR jXS), (1, jR 0), (2, jR 74), (3, jR 87), (4, jI i)]) (st' := [jI (jW (i + 2)), jR jXS, jI (sx (jW (i + 1))), jR 0]) rfl (p1 := 2258) rfl ?_
  obtain ⟨g8, hf⟩ := jgd hf
  refine K_xald B hsx g8 (by decide +kernel) ?_
  refine B_blk B (jlkn_ok RL) jcl_SKF [.aload_n 0, .iload 4, .iconst 3, .iadd] (by decide +kernel) (ls' := [(0, jR jXS), (1, jR 0), (2, jR 74), (3, jR 87), (4, jI i)]) (st' := [jI (jW (i + 3)), jR jXS, jI (sx (jW (i + 2))), jI (sx (jW (i + 1))), jR 0]) rfl (p1 := 2264) rfl ?_
  obtain ⟨g7, hf⟩ := jgd hf
  refine K_xald B hsx g7 (by decide +kernel) ?_
  refine B_blk B (jlkn_ok RL) jcl_SKF [.aload_n 3] (by decide +kernel) (ls' := [(0, jR jXS), (1, jR 0), (2, jR 74), (3, jR 87), (4, jI i)]) (st' := [jR 87, jI (sx (jW (i + 3))), jI (sx (jW (i + 2))), jI (sx (jW (i + 1))), jR 0]) rfl (p1 := 2266) rfl ?_
  obtain ⟨r1, h1, hf⟩ := jbd hf
  refine B_callH B (Nat.zero_le _) (μ' := r1.2) (k' := k + 3) (n' := n + 18) ca_L_reading sa_L_reading lk_L_260 (t_L_reading B.tr h1) (Nat.le_refl _) (jRoom (K := 9000) (N := 90000) (by omega) (by omega) rfl) (rest := []) rfl rfl (Nat.le_of_ble_eq_true rfl) (by decide +kernel) rfl rfl (st' := [jI r1.1]) rfl ?_
  refine B_blk B (jlkn_ok RL) jcl_SKF [.istore 5, .aload_n 2, .aload_n 0, .iload 4, .iconst 1, .iadd] (by decide +kernel) (ls' := [(0, jR jXS), (1, jR 0), (2, jR 74), (3, jR 87), (4, jI i), (5, jI r1.1)]) (st' := [jI (jW (i + 1)), jR jXS, jR 74]) rfl (p1 := 2277) rfl ?_
  obtain ⟨g6, hf⟩ := jgd hf
  refine K_xald B hsx g6 (by decide +kernel) ?_
  refine B_blk B (jlkn_ok RL) jcl_SKF [.aload_n 0, .iload 4, .iconst 2, .iadd] (by decide +kernel) (ls' := [(0, jR jXS), (1, jR 0), (2, jR 74), (3, jR 87), (4, jI i), (5, jI r1.1)]) (st' := [jI (jW (i + 2)), jR jXS, jI (sx (jW (i + 1))), jR 74]) rfl (p1 := 2283) rfl ?_
  obtain ⟨g5, hf⟩ := jgd hf
  refine K_xald B hsx g5 (by decide +kernel) ?_
  refine B_blk B (jlkn_ok RL) jcl_SKF [.aload_n 0, .iload 4, .iconst 3, .iadd] (by decide +kernel) (ls' := [(0, jR jXS), (1, jR 0), (2, jR 74), (3, jR 87), (4, jI i), (5, jI r1.1)]) (st' := [jI (jW (i + 3)), jR jXS, jI (sx (jW (i + 2))), jI (sx (jW (i + 1))), jR 74]) rfl (p1 := 2289) rfl ?_
  obtain ⟨g4, hf⟩ := jgd hf
  refine K_xald B hsx g4 (by decide +kernel) ?_
  obtain ⟨r2, h2, hf⟩ := jbd hf
  refine B_callV B (Nat.zero_le _) (μ' := r2.2) (k' := k + 3) (n' := n + 18) ca_X10_reading in_X10_reading se_X10_reading lk_L_262 (t_X10_reading B.tr h2) (Nat.le_refl _) (jRoom (K := 9000) (N := 90000) (by omega) (by omega) rfl) rfl rfl (rest := []) rfl rfl (Nat.le_of_ble_eq_true rfl) (by decide +kernel) rfl rfl (st' := [jI r2.1]) rfl ?_
  refine B_blk B (jlkn_ok RL) jcl_SKF [.istore 6, .aload_n 2] (by decide +kernel) (ls' := [(0, jR jXS), (1, jR 0), (2, jR 74), (3, jR 87), (4, jI i), (5, jI r1.1), (6, jI r2.1)]) (st' := [jR 74]) rfl (p1 := 2296) rfl ?_
  obtain ⟨r3, h3, hf⟩ := jbd hf
  refine B_callV B (Nat.zero_le _) (μ' := r2.2) (k' := k + 3) (n' := n + 18) ca_X10_thrown in_X10_thrown se_X10_thrown lk_L_174 (t_X10_thrown B.tr h3) (Nat.le_refl _) (jRoom (K := 9000) (N := 90000) (by omega) (by omega) rfl) rfl rfl (rest := []) rfl rfl (Nat.le_of_ble_eq_true rfl) (by decide +kernel) rfl rfl (st' := [jI r3]) rfl ?_
  refine B_blk B (jlkn_ok RL) jcl_SKF [.iload 5] (by decide +kernel) (ls' := [(0, jR jXS), (1, jR 0), (2, jR 74), (3, jR 87), (4, jI i), (5, jI r1.1), (6, jI r2.1)]) (st' := [jI r1.1, jI r3]) rfl (p1 := 2301) rfl ?_
  refine J_icmp_eq B.1 (off := 5) (tgt := 2306) (by decide +kernel) (by decide) hf (fun hf => ?_) (fun hf => ?_)
  · refine B_blk B (jlkn_ok RL) jcl_SKF [.iload 5] (by decide +kernel) (ls' := [(0, jR jXS), (1, jR 0), (2, jR 74), (3, jR 87), (4, jI i), (5, jI r1.1), (6, jI r2.1)]) (st' := [jI r1.1]) rfl (p1 := 2308) rfl ?_
    refine J_if_ne B.1 (off := 15) (tgt := 2323) (by decide +kernel) (by decide) hf (fun hf => ?_) (fun hf => ?_)
    · refine B_blk B (jlkn_ok RL) jcl_SKF [.aload_n 3, .iconst 0] (by decide +kernel) (ls' := [(0, jR jXS), (1, jR 0), (2, jR 74), (3, jR 87), (4, jI i), (5, jI r1.1), (6, jI r2.1)]) (st' := [jI 0, jR 87]) rfl (p1 := 2313) rfl ?_
      refine K_lald (lenI := 1) B rfl rfl (by decide) (by decide +kernel) ?_
      refine B_blk B (jlkn_ok RL) jcl_SKF [.iload 6, .i2l, .lcmp] (by decide +kernel) (ls' := [(0, jR jXS), (1, jR 0), (2, jR 74), (3, jR 87), (4, jI i), (5, jI r1.1), (6, jI r2.1)]) (st' := [jI (jCm (r2.2 87 0) r2.1)]) rfl (p1 := 2318) rfl ?_
      refine J_if_eq B.1 (off := 5) (tgt := 2323) (by decide +kernel) (by decide) hf (fun hf => ?_) (fun hf => ?_)
      · refine B_blk B (jlkn_ok RL) jcl_SKF [.goto 1300] (by decide +kernel) (ls' := [(0, jR jXS), (1, jR 0), (2, jR 74), (3, jR 87), (4, jI i), (5, jI r1.1), (6, jI r2.1)]) (st' := []) rfl (p1 := 3623) rfl ?_
        refine J_pick [0, 1, 2, 3, 4] (ls' := [(0, jR jXS), (1, jR 0), (2, jR 74), (3, jR 87), (4, jI i)]) rfl ?_
        cases hf
        exact J_widen (by omega) (by omega) hx
      · refine B_blk B (jlkn_ok RL) jcl_SKF [.iconst 0] (by decide +kernel) (ls' := [(0, jR jXS), (1, jR 0), (2, jR 74), (3, jR 87), (4, jI i), (5, jI r1.1), (6, jI r2.1)]) (st' := [jI 0]) rfl (p1 := 2322) rfl ?_
        cases hf
    · refine B_blk B (jlkn_ok RL) jcl_SKF [.goto 1300] (by decide +kernel) (ls' := [(0, jR jXS), (1, jR 0), (2, jR 74), (3, jR 87), (4, jI i), (5, jI r1.1), (6, jI r2.1)]) (st' := []) rfl (p1 := 3623) rfl ?_
      refine J_pick [0, 1, 2, 3, 4] (ls' := [(0, jR jXS), (1, jR 0), (2, jR 74), (3, jR 87), (4, jI i)]) rfl ?_
      cases hf
      exact J_widen (by omega) (by omega) hx
  · refine B_blk B (jlkn_ok RL) jcl_SKF [.iconst 0] (by decide +kernel) (ls' := [(0, jR jXS), (1, jR 0), (2, jR 74), (3, jR 87), (4, jI i), (5, jI r1.1), (6, jI r2.1)]) (st' := [jI 0]) rfl (p1 := 2305) rfl ?_
    cases hf

def f_case_28 (sx : Int → Int) (L i : Int) (m : jMu) : Option jMu :=
  (if 0 ≤ jW (i + 1) ∧ jW (i + 1) < L then (if 0 ≤ jW (i + 2) ∧ jW (i + 2) < L then (if 0 ≤ jW (i + 3) ∧ jW (i + 3) < L then (if 0 ≤ jW (i + 4) ∧ jW (i + 4) < L then (if sx (jW (i + 4)) = 0 then (f_L_steel (sx (jW (i + 1))) (sx (jW (i + 2))) (sx (jW (i + 3))) 0 m).bind fun r1 => (if 0 ≤ jW (i + 1) ∧ jW (i + 1) < L then (if 0 ≤ jW (i + 2) ∧ jW (i + 2) < L then (if 0 ≤ jW (i + 3) ∧ jW (i + 3) < L then (if 0 ≤ jW (i + 4) ∧ jW (i + 4) < L then (if sx (jW (i + 4)) = 0 then (f_X10_steel (sx (jW (i + 1))) (sx (jW (i + 2))) (sx (jW (i + 3))) 0 r1.2).bind fun r2 => (f_X10_thrown r2.2).bind fun r3 => (if r3 = r1.1 then (if r1.1 = 0 then (if jCm (r2.2 87 0) r2.1 = 0 then some r2.2 else none) else some r2.2) else none) else (f_X10_steel (sx (jW (i + 1))) (sx (jW (i + 2))) (sx (jW (i + 3))) 1 r1.2).bind fun r4 => (f_X10_thrown r4.2).bind fun r5 => (if r5 = r1.1 then (if r1.1 = 0 then (if jCm (r4.2 87 0) r4.1 = 0 then some r4.2 else none) else some r4.2) else none)) else none) else none) else none) else none) else (f_L_steel (sx (jW (i + 1))) (sx (jW (i + 2))) (sx (jW (i + 3))) 1 m).bind fun r10 => (if 0 ≤ jW (i + 1) ∧ jW (i + 1) < L then (if 0 ≤ jW (i + 2) ∧ jW (i + 2) < L then (if 0 ≤ jW (i + 3) ∧ jW (i + 3) < L then (if 0 ≤ jW (i + 4) ∧ jW (i + 4) < L then (if sx (jW (i + 4)) = 0 then (f_X10_steel (sx (jW (i + 1))) (sx (jW (i + 2))) (sx (jW (i + 3))) 0 r10.2).bind fun r11 => (f_X10_thrown r11.2).bind fun r12 => (if r12 = r10.1 then (if r10.1 = 0 then (if jCm (r11.2 87 0) r11.1 = 0 then some r11.2 else none) else some r11.2) else none) else (f_X10_steel (sx (jW (i + 1))) (sx (jW (i + 2))) (sx (jW (i + 3))) 1 r10.2).bind fun r13 => (f_X10_thrown r13.2).bind fun r14 => (if r14 = r10.1 then (if r10.1 = 0 then (if jCm (r13.2 87 0) r13.1 = 0 then some r13.2 else none) else some r13.2) else none)) else none) else none) else none) else none)) else none) else none) else none) else none)
theorem t_case_28 {X : jX} {L : Int} {sx : Int → Int} (hsx : jsx (xG X) L sx) (B : jB X cL_law RL 8 0 room_1 (some .boolean)) {k n : Nat} (hk : k ≤ 8900) (hn : n ≤ 89000) {i : Int} {m o : jMu} (hf : f_case_28 sx L i m = some o) (hx : J X SKF o (k + 5) (n + 30) 3623 [(0, jR jXS), (1, jR 0), (2, jR 74), (3, jR 87), (4, jI i)] []) : J X SKF m k n 2326 [(0, jR jXS), (1, jR 0), (2, jR 74), (3, jR 87), (4, jI i)] [] := by
  unfold f_case_28 at hf
  refine B_blk B (jlkn_ok RL) jcl_SKF [.aload_n 1, .aload_n 0, .iload 4, .iconst 1, .iadd] (by decide +kernel) (ls' := [(0, jR jXS), (1, jR 0), (2, jR 74), (3, jR 87), (4, jI i)]) (st' := [jI (jW (i + 1)), jR jXS, jR 0]) rfl (p1 := 2332) rfl ?_
  obtain ⟨g22, hf⟩ := jgd hf
  refine K_xald B hsx g22 (by decide +kernel) ?_
  refine B_blk B (jlkn_ok RL) jcl_SKF [.aload_n 0, .iload 4, .iconst 2, .iadd] (by decide +kernel) (ls' := [(0, jR jXS), (1, jR 0), (2, jR 74), (3, jR 87), (4, jI i)]) (st' := [jI (jW (i + 2)), jR jXS, jI (sx (jW (i + 1))), jR 0]) rfl (p1 := 2338) rfl ?_
  obtain ⟨g21, hf⟩ := jgd hf
  refine K_xald B hsx g21 (by decide +kernel) ?_
  refine B_blk B (jlkn_ok RL) jcl_SKF [.aload_n 0, .iload 4, .iconst 3, .iadd] (by decide +kernel) (ls' := [(0, jR jXS), (1, jR 0), (2, jR 74), (3, jR 87), (4, jI i)]) (st' := [jI (jW (i + 3)), jR jXS, jI (sx (jW (i + 2))), jI (sx (jW (i + 1))), jR 0]) rfl (p1 := 2344) rfl ?_
  obtain ⟨g20, hf⟩ := jgd hf
  refine K_xald B hsx g20 (by decide +kernel) ?_
  refine B_blk B (jlkn_ok RL) jcl_SKF [.aload_n 0, .iload 4, .iconst 4, .iadd] (by decide +kernel) (ls' := [(0, jR jXS), (1, jR 0), (2, jR 74), (3, jR 87), (4, jI i)]) (st' := [jI (jW (i + 4)), jR jXS, jI (sx (jW (i + 3))), jI (sx (jW (i + 2))), jI (sx (jW (i + 1))), jR 0]) rfl (p1 := 2350) rfl ?_
  obtain ⟨g19, hf⟩ := jgd hf
  refine K_xald B hsx g19 (by decide +kernel) ?_
  refine J_if_eq B.1 (off := 7) (tgt := 2358) (by decide +kernel) (by decide) hf (fun hf => ?_) (fun hf => ?_)
  · refine B_blk B (jlkn_ok RL) jcl_SKF [.iconst 0, .aload_n 3] (by decide +kernel) (ls' := [(0, jR jXS), (1, jR 0), (2, jR 74), (3, jR 87), (4, jI i)]) (st' := [jR 87, jI 0, jI (sx (jW (i + 3))), jI (sx (jW (i + 2))), jI (sx (jW (i + 1))), jR 0]) rfl (p1 := 2360) rfl ?_
    obtain ⟨r1, h1, hf⟩ := jbd hf
    refine B_callH B (Nat.zero_le _) (μ' := r1.2) (k' := k + 2) (n' := n + 12) ca_L_steel sa_L_steel lk_L_263 (t_L_steel B.tr h1) (Nat.le_refl _) (jRoom (K := 9000) (N := 90000) (by omega) (by omega) rfl) (rest := []) rfl rfl (Nat.le_of_ble_eq_true rfl) (by decide +kernel) rfl rfl (st' := [jI r1.1]) rfl ?_
    refine B_blk B (jlkn_ok RL) jcl_SKF [.istore 5, .aload_n 2, .aload_n 0, .iload 4, .iconst 1, .iadd] (by decide +kernel) (ls' := [(0, jR jXS), (1, jR 0), (2, jR 74), (3, jR 87), (4, jI i), (5, jI r1.1)]) (st' := [jI (jW (i + 1)), jR jXS, jR 74]) rfl (p1 := 2371) rfl ?_
    obtain ⟨g9, hf⟩ := jgd hf
    refine K_xald B hsx g9 (by decide +kernel) ?_
    refine B_blk B (jlkn_ok RL) jcl_SKF [.aload_n 0, .iload 4, .iconst 2, .iadd] (by decide +kernel) (ls' := [(0, jR jXS), (1, jR 0), (2, jR 74), (3, jR 87), (4, jI i), (5, jI r1.1)]) (st' := [jI (jW (i + 2)), jR jXS, jI (sx (jW (i + 1))), jR 74]) rfl (p1 := 2377) rfl ?_
    obtain ⟨g8, hf⟩ := jgd hf
    refine K_xald B hsx g8 (by decide +kernel) ?_
    refine B_blk B (jlkn_ok RL) jcl_SKF [.aload_n 0, .iload 4, .iconst 3, .iadd] (by decide +kernel) (ls' := [(0, jR jXS), (1, jR 0), (2, jR 74), (3, jR 87), (4, jI i), (5, jI r1.1)]) (st' := [jI (jW (i + 3)), jR jXS, jI (sx (jW (i + 2))), jI (sx (jW (i + 1))), jR 74]) rfl (p1 := 2383) rfl ?_
    obtain ⟨g7, hf⟩ := jgd hf
    refine K_xald B hsx g7 (by decide +kernel) ?_
    refine B_blk B (jlkn_ok RL) jcl_SKF [.aload_n 0, .iload 4, .iconst 4, .iadd] (by decide +kernel) (ls' := [(0, jR jXS), (1, jR 0), (2, jR 74), (3, jR 87), (4, jI i), (5, jI r1.1)]) (st' := [jI (jW (i + 4)), jR jXS, jI (sx (jW (i + 3))), jI (sx (jW (i + 2))), jI (sx (jW (i + 1))), jR 74]) rfl (p1 := 2389) rfl ?_
    obtain ⟨g6, hf⟩ := jgd hf
    refine K_xald B hsx g6 (by decide +kernel) ?_
    refine J_if_eq B.1 (off := 7) (tgt := 2397) (by decide +kernel) (by decide) hf (fun hf => ?_) (fun hf => ?_)
    · refine B_blk B (jlkn_ok RL) jcl_SKF [.iconst 0] (by decide +kernel) (ls' := [(0, jR jXS), (1, jR 0), (2, jR 74), (3, jR 87), (4, jI i), (5, jI r1.1)]) (st' := [jI 0, jI (sx (jW (i + 3))), jI (sx (jW (i + 2))), jI (sx (jW (i + 1))), jR 74]) rfl (p1 := 2398) rfl ?_
      obtain ⟨r2, h2, hf⟩ := jbd hf
      refine B_callV B (Nat.zero_le _) (μ' := r2.2) (k' := k + 2) (n' := n + 12) ca_X10_steel in_X10_steel se_X10_steel lk_L_266 (t_X10_steel B.tr h2) (Nat.le_refl _) (jRoom (K := 9000) (N := 90000) (by omega) (by omega) rfl) rfl rfl (rest := []) rfl rfl (Nat.le_of_ble_eq_true rfl) (by decide +kernel) rfl rfl (st' := [jI r2.1]) rfl ?_
      refine B_blk B (jlkn_ok RL) jcl_SKF [.istore 6, .aload_n 2] (by decide +kernel) (ls' := [(0, jR jXS), (1, jR 0), (2, jR 74), (3, jR 87), (4, jI i), (5, jI r1.1), (6, jI r2.1)]) (st' := [jR 74]) rfl (p1 := 2404) rfl ?_
      obtain ⟨r3, h3, hf⟩ := jbd hf
      refine B_callV B (Nat.zero_le _) (μ' := r2.2) (k' := k + 2) (n' := n + 12) ca_X10_thrown in_X10_thrown se_X10_thrown lk_L_174 (t_X10_thrown B.tr h3) (Nat.le_refl _) (jRoom (K := 9000) (N := 90000) (by omega) (by omega) rfl) rfl rfl (rest := []) rfl rfl (Nat.le_of_ble_eq_true rfl) (by decide +kernel) rfl rfl (st' := [jI r3]) rfl ?_
      refine B_blk B (jlkn_ok RL) jcl_SKF [.iload 5] (by decide +kernel) (ls' := [(0, jR jXS), (1, jR 0), (2, jR 74), (3, jR 87), (4, jI i), (5, jI r1.1), (6, jI r2.1)]) (st' := [jI r1.1, jI r3]) rfl (p1 := 2409) rfl ?_
      refine J_icmp_eq B.1 (off := 5) (tgt := 2414) (by decide +kernel) (by decide) hf (fun hf => ?_) (fun hf => ?_)
      · refine B_blk B (jlkn_ok RL) jcl_SKF [.iload 5] (by decide +kernel) (ls' := [(0, jR jXS), (1, jR 0), (2, jR 74), (3, jR 87), (4, jI i), (5, jI r1.1), (6, jI r2.1)]) (st' := [jI r1.1]) rfl (p1 := 2416) rfl ?_
        refine J_if_ne B.1 (off := 15) (tgt := 2431) (by decide +kernel) (by decide) hf (fun hf => ?_) (fun hf => ?_)
        · refine B_blk B (jlkn_ok RL) jcl_SKF [.aload_n 3, .iconst 0] (by decide +kernel) (ls' := [(0, jR jXS), (1, jR 0), (2, jR 74), (3, jR 87), (4, jI i), (5, jI r1.1), (6, jI r2.1)]) (st' := [jI 0, jR 87]) rfl (p1 := 2421) rfl ?_
          refine K_lald (lenI := 1) B rfl rfl (by decide) (by decide +kernel) ?_
          refine B_blk B (jlkn_ok RL) jcl_SKF [.iload 6, .i2l, .lcmp] (by decide +kernel) (ls' := [(0, jR jXS), (1, jR 0), (2, jR 74), (3, jR 87), (4, jI i), (5, jI r1.1), (6, jI r2.1)]) (st' := [jI (jCm (r2.2 87 0) r2.1)]) rfl (p1 := 2426) rfl ?_
          refine J_if_eq B.1 (off := 5) (tgt := 2431) (by decide +kernel) (by decide) hf (fun hf => ?_) (fun hf => ?_)
          · refine B_blk B (jlkn_ok RL) jcl_SKF [.goto 1192] (by decide +kernel) (ls' := [(0, jR jXS), (1, jR 0), (2, jR 74), (3, jR 87), (4, jI i), (5, jI r1.1), (6, jI r2.1)]) (st' := []) rfl (p1 := 3623) rfl ?_
            refine J_pick [0, 1, 2, 3, 4] (ls' := [(0, jR jXS), (1, jR 0), (2, jR 74), (3, jR 87), (4, jI i)]) rfl ?_
            cases hf
            exact J_widen (by omega) (by omega) hx
          · refine B_blk B (jlkn_ok RL) jcl_SKF [.iconst 0] (by decide +kernel) (ls' := [(0, jR jXS), (1, jR 0), (2, jR 74), (3, jR 87), (4, jI i), (5, jI r1.1), (6, jI r2.1)]) (st' := [jI 0]) rfl (p1 := 2430) rfl ?_
            cases hf
        · refine B_blk B (jlkn_ok RL) jcl_SKF [.goto 1192] (by decide +kernel) (ls' := [(0, jR jXS), (1, jR 0), (2, jR 74), (3, jR 87), (4, jI i), (5, jI r1.1), (6, jI r2.1)]) (st' := []) rfl (p1 := 3623) rfl ?_
          refine J_pick [0, 1, 2, 3, 4] (ls' := [(0, jR jXS), (1, jR 0), (2, jR 74), (3, jR 87), (4, jI i)]) rfl ?_
          cases hf
          exact J_widen (by omega) (by omega) hx
      · refine B_blk B (jlkn_ok RL) jcl_SKF [.iconst 0] (by decide +kernel) (ls' := [(0, jR jXS), (1, jR 0), (2, jR 74), (3, jR 87), (4, jI i), (5, jI r1.1), (6, jI r2.1)]) (st' := [jI 0]) rfl (p1 := 2413) rfl ?_
        cases hf
    · refine B_blk B (jlkn_ok RL) jcl_SKF [.iconst 1, .goto 4] (by decide +kernel) (ls' := [(0, jR jXS), (1, jR 0), (2, jR 74), (3, jR 87), (4, jI i), (5, jI r1.1)]) (st' := [jI 1, jI (sx (jW (i + 3))), jI (sx (jW (i + 2))), jI (sx (jW (i + 1))), jR 74]) rfl (p1 := 2398) rfl ?_
      obtain ⟨r4, h4, hf⟩ := jbd hf
      refine B_callV B (Nat.zero_le _) (μ' := r4.2) (k' := k + 2) (n' := n + 12) ca_X10_steel in_X10_steel se_X10_steel lk_L_266 (t_X10_steel B.tr h4) (Nat.le_refl _) (jRoom (K := 9000) (N := 90000) (by omega) (by omega) rfl) rfl rfl (rest := []) rfl rfl (Nat.le_of_ble_eq_true rfl) (by decide +kernel) rfl rfl (st' := [jI r4.1]) rfl ?_
      refine B_blk B (jlkn_ok RL) jcl_SKF [.istore 6, .aload_n 2] (by decide +kernel) (ls' := [(0, jR jXS), (1, jR 0), (2, jR 74), (3, jR 87), (4, jI i), (5, jI r1.1), (6, jI r4.1)]) (st' := [jR 74]) rfl (p1 := 2404) rfl ?_
      obtain ⟨r5, h5, hf⟩ := jbd hf
      refine B_callV B (Nat.zero_le _) (μ' := r4.2) (k' := k + 2) (n' := n + 12) ca_X10_thrown in_X10_thrown se_X10_thrown lk_L_174 (t_X10_thrown B.tr h5) (Nat.le_refl _) (jRoom (K := 9000) (N := 90000) (by omega) (by omega) rfl) rfl rfl (rest := []) rfl rfl (Nat.le_of_ble_eq_true rfl) (by decide +kernel) rfl rfl (st' := [jI r5]) rfl ?_
      refine B_blk B (jlkn_ok RL) jcl_SKF [.iload 5] (by decide +kernel) (ls' := [(0, jR jXS), (1, jR 0), (2, jR 74), (3, jR 87), (4, jI i), (5, jI r1.1), (6, jI r4.1)]) (st' := [jI r1.1, jI r5]) rfl (p1 := 2409) rfl ?_
      refine J_icmp_eq B.1 (off := 5) (tgt := 2414) (by decide +kernel) (by decide) hf (fun hf => ?_) (fun hf => ?_)
      · refine B_blk B (jlkn_ok RL) jcl_SKF [.iload 5] (by decide +kernel) (ls' := [(0, jR jXS), (1, jR 0), (2, jR 74), (3, jR 87), (4, jI i), (5, jI r1.1), (6, jI r4.1)]) (st' := [jI r1.1]) rfl (p1 := 2416) rfl ?_
        refine J_if_ne B.1 (off := 15) (tgt := 2431) (by decide +kernel) (by decide) hf (fun hf => ?_) (fun hf => ?_)
        · refine B_blk B (jlkn_ok RL) jcl_SKF [.aload_n 3, .iconst 0] (by decide +kernel) (ls' := [(0, jR jXS), (1, jR 0), (2, jR 74), (3, jR 87), (4, jI i), (5, jI r1.1), (6, jI r4.1)]) (st' := [jI 0, jR 87]) rfl (p1 := 2421) rfl ?_
          refine K_lald (lenI := 1) B rfl rfl (by decide) (by decide +kernel) ?_
          refine B_blk B (jlkn_ok RL) jcl_SKF [.iload 6, .i2l, .lcmp] (by decide +kernel) (ls' := [(0, jR jXS), (1, jR 0), (2, jR 74), (3, jR 87), (4, jI i), (5, jI r1.1), (6, jI r4.1)]) (st' := [jI (jCm (r4.2 87 0) r4.1)]) rfl (p1 := 2426) rfl ?_
          refine J_if_eq B.1 (off := 5) (tgt := 2431) (by decide +kernel) (by decide) hf (fun hf => ?_) (fun hf => ?_)
          · refine B_blk B (jlkn_ok RL) jcl_SKF [.goto 1192] (by decide +kernel) (ls' := [(0, jR jXS), (1, jR 0), (2, jR 74), (3, jR 87), (4, jI i), (5, jI r1.1), (6, jI r4.1)]) (st' := []) rfl (p1 := 3623) rfl ?_
            refine J_pick [0, 1, 2, 3, 4] (ls' := [(0, jR jXS), (1, jR 0), (2, jR 74), (3, jR 87), (4, jI i)]) rfl ?_
            cases hf
            exact J_widen (by omega) (by omega) hx
          · refine B_blk B (jlkn_ok RL) jcl_SKF [.iconst 0] (by decide +kernel) (ls' := [(0, jR jXS), (1, jR 0), (2, jR 74), (3, jR 87), (4, jI i), (5, jI r1.1), (6, jI r4.1)]) (st' := [jI 0]) rfl (p1 := 2430) rfl ?_
            cases hf
        · refine B_blk B (jlkn_ok RL) jcl_SKF [.goto 1192] (by decide +kernel) (ls' := [(0, jR jXS), (1, jR 0), (2, jR 74), (3, jR 87), (4, jI i), (5, jI r1.1), (6, jI r4.1)]) (st' := []) rfl (p1 := 3623) rfl ?_
          refine J_pick [0, 1, 2, 3, 4] (ls' := [(0, jR jXS), (1, jR 0), (2, jR 74), (3, jR 87), (4, jI i)]) rfl ?_
          cases hf
          exact J_widen (by omega) (by omega) hx
      · refine B_blk B (jlkn_ok RL) jcl_SKF [.iconst 0] (by decide +kernel) (ls' := [(0, jR jXS), (1, jR 0), (2, jR 74), (3, jR 87), (4, jI i), (5, jI r1.1), (6, jI r4.1)]) (st' := [jI 0]) rfl (p1 := 2413) rfl ?_
        cases hf
  · refine B_blk B (jlkn_ok RL) jcl_SKF [.iconst 1, .goto 4, .aload_n 3] (by decide +kernel) (ls' := [(0, jR jXS), (1, jR 0), (2, jR 74), (3, jR 87), (4, jI i)]) (st' := [jR 87, jI 1, jI (sx (jW (i + 3))), jI (sx (jW (i + 2))), jI (sx (jW (i + 1))), jR 0]) rfl (p1 := 2360) rfl ?_
    obtain ⟨r10, h10, hf⟩ := jbd hf
    refine B_callH B (Nat.zero_le _) (μ' := r10.2) (k' := k + 2) (n' := n + 12) ca_L_steel sa_L_steel lk_L_263 (t_L_steel B.tr h10) (Nat.le_refl _) (jRoom (K := 9000) (N := 90000) (by omega) (by omega) rfl) (rest := []) rfl rfl (Nat.le_of_ble_eq_true rfl) (by decide +kernel) rfl rfl (st' := [jI r10.1]) rfl ?_
    refine B_blk B (jlkn_ok RL) jcl_SKF [.istore 5, .aload_n 2, .aload_n 0, .iload 4, .iconst 1, .iadd] (by decide +kernel) (ls' := [(0, jR jXS), (1, jR 0), (2, jR 74), (3, jR 87), (4, jI i), (5, jI r10.1)]) (st' := [jI (jW (i + 1)), jR jXS, jR 74]) rfl (p1 := 2371) rfl ?_
    obtain ⟨g18, hf⟩ := jgd hf
    refine K_xald B hsx g18 (by decide +kernel) ?_
    refine B_blk B (jlkn_ok RL) jcl_SKF [.aload_n 0, .iload 4, .iconst 2, .iadd] (by decide +kernel) (ls' := [(0, jR jXS), (1, jR 0), (2, jR 74), (3, jR 87), (4, jI i), (5, jI r10.1)]) (st' := [jI (jW (i + 2)), jR jXS, jI (sx (jW (i + 1))), jR 74]) rfl (p1 := 2377) rfl ?_
    obtain ⟨g17, hf⟩ := jgd hf
    refine K_xald B hsx g17 (by decide +kernel) ?_
    refine B_blk B (jlkn_ok RL) jcl_SKF [.aload_n 0, .iload 4, .iconst 3, .iadd] (by decide +kernel) (ls' := [(0, jR jXS), (1, jR 0), (2, jR 74), (3, jR 87), (4, jI i), (5, jI r10.1)]) (st' := [jI (jW (i + 3)), jR jXS, jI (sx (jW (i + 2))), jI (sx (jW (i + 1))), jR 74]) rfl (p1 := 2383) rfl ?_
    obtain ⟨g16, hf⟩ := jgd hf
    refine K_xald B hsx g16 (by decide +kernel) ?_
    refine B_blk B (jlkn_ok RL) jcl_SKF [.aload_n 0, .iload 4, .iconst 4, .iadd] (by decide +kernel) (ls' := [(0, jR jXS), (1, jR 0), (2, jR 74), (3, jR 87), (4, jI i), (5, jI r10.1)]) (st' := [jI (jW (i + 4)), jR jXS, jI (sx (jW (i + 3))), jI (sx (jW (i + 2))), jI (sx (jW (i + 1))), jR 74]) rfl (p1 := 2389) rfl ?_
    obtain ⟨g15, hf⟩ := jgd hf
    refine K_xald B hsx g15 (by decide +kernel) ?_
    refine J_if_eq B.1 (off := 7) (tgt := 2397) (by decide +kernel) (by decide) hf (fun hf => ?_) (fun hf => ?_)
    · refine B_blk B (jlkn_ok RL) jcl_SKF [.iconst 0] (by decide +kernel) (ls' := [(0, jR jXS), (1, jR 0), (2, jR 74), (3, jR 87), (4, jI i), (5, jI r10.1)]) (st' := [jI 0, jI (sx (jW (i + 3))), jI (sx (jW (i + 2))), jI (sx (jW (i + 1))), jR 74]) rfl (p1 := 2398) rfl ?_
      obtain ⟨r11, h11, hf⟩ := jbd hf
      refine B_callV B (Nat.zero_le _) (μ' := r11.2) (k' := k + 2) (n' := n + 12) ca_X10_steel in_X10_steel se_X10_steel lk_L_266 (t_X10_steel B.tr h11) (Nat.le_refl _) (jRoom (K := 9000) (N := 90000) (by omega) (by omega) rfl) rfl rfl (rest := []) rfl rfl (Nat.le_of_ble_eq_true rfl) (by decide +kernel) rfl rfl (st' := [jI r11.1]) rfl ?_
      refine B_blk B (jlkn_ok RL) jcl_SKF [.istore 6, .aload_n 2] (by decide +kernel) (ls' := [(0, jR jXS), (1, jR 0), (2, jR 74), (3, jR 87), (4, jI i), (5, jI r10.1), (6, jI r11.1)]) (st' := [jR 74]) rfl (p1 := 2404) rfl ?_
      obtain ⟨r12, h12, hf⟩ := jbd hf
      refine B_callV B (Nat.zero_le _) (μ' := r11.2) (k' := k + 2) (n' := n + 12) ca_X10_thrown in_X10_thrown se_X10_thrown lk_L_174 (t_X10_thrown B.tr h12) (Nat.le_refl _) (jRoom (K := 9000) (N := 90000) (by omega) (by omega) rfl) rfl rfl (rest := []) rfl rfl (Nat.le_of_ble_eq_true rfl) (by decide +kernel) rfl rfl (st' := [jI r12]) rfl ?_
      refine B_blk B (jlkn_ok RL) jcl_SKF [.iload 5] (by decide +kernel) (ls' := [(0, jR jXS), (1, jR 0), (2, jR 74), (3, jR 87), (4, jI i), (5, jI r10.1), (6, jI r11.1)]) (st' := [jI r10.1, jI r12]) rfl (p1 := 2409) rfl ?_
      refine J_icmp_eq B.1 (off := 5) (tgt := 2414) (by decide +kernel) (by decide) hf (fun hf => ?_) (fun hf => ?_)
      · refine B_blk B (jlkn_ok RL) jcl_SKF [.iload 5] (by decide +kernel) (ls' := [(0, jR jXS), (1, jR 0), (2, jR 74), (3, jR 87), (4, jI i), (5, jI r10.1), (6, jI r11.1)]) (st' := [jI r10.1]) rfl (p1 := 2416) rfl ?_
        refine J_if_ne B.1 (off := 15) (tgt := 2431) (by decide +kernel) (by decide) hf (fun hf => ?_) (fun hf => ?_)
        · refine B_blk B (jlkn_ok RL) jcl_SKF [.aload_n 3, .iconst 0] (by decide +kernel) (ls' := [(0, jR jXS), (1, jR 0), (2, jR 74), (3, jR 87), (4, jI i), (5, jI r10.1), (6, jI r11.1)]) (st' := [jI 0, jR 87]) rfl (p1 := 2421) rfl ?_
          refine K_lald (lenI := 1) B rfl rfl (by decide) (by decide +kernel) ?_
          refine B_blk B (jlkn_ok RL) jcl_SKF [.iload 6, .i2l, .lcmp] (by decide +kernel) (ls' := [(0, jR jXS), (1, jR 0), (2, jR 74), (3, jR 87), (4, jI i), (5, jI r10.1), (6, jI r11.1)]) (st' := [jI (jCm (r11.2 87 0) r11.1)]) rfl (p1 := 2426) rfl ?_
          refine J_if_eq B.1 (off := 5) (tgt := 2431) (by decide +kernel) (by decide) hf (fun hf => ?_) (fun hf => ?_)
          · refine B_blk B (jlkn_ok RL) jcl_SKF [.goto 1192] (by decide +kernel) (ls' := [(0, jR jXS), (1, jR 0), (2, jR 74), (3, jR 87), (4, jI i), (5, jI r10.1), (6, jI r11.1)]) (st' := []) rfl (p1 := 3623) rfl ?_
            refine J_pick [0, 1, 2, 3, 4] (ls' := [(0, jR jXS), (1, jR 0), (2, jR 74), (3, jR 87), (4, jI i)]) rfl ?_
            cases hf
            exact J_widen (by omega) (by omega) hx
          · refine B_blk B (jlkn_ok RL) jcl_SKF [.iconst 0] (by decide +kernel) (ls' := [(0, jR jXS), (1, jR 0), (2, jR 74), (3, jR 87), (4, jI i), (5, jI r10.1), (6, jI r11.1)]) (st' := [jI 0]) rfl (p1 := 2430) rfl ?_
            cases hf
        · refine B_blk B (jlkn_ok RL) jcl_SKF [.goto 1192] (by decide +kernel) (ls' := [(0, jR jXS), (1, jR 0), (2, jR 74), (3, jR 87), (4, jI i), (5, jI r10.1), (6, jI r11.1)]) (st' := []) rfl (p1 := 3623) rfl ?_
          refine J_pick [0, 1, 2, 3, 4] (ls' := [(0, jR jXS), (1, jR 0), (2, jR 74), (3, jR 87), (4, jI i)]) rfl ?_
          cases hf
          exact J_widen (by omega) (by omega) hx
      · refine B_blk B (jlkn_ok RL) jcl_SKF [.iconst 0] (by decide +kernel) (ls' := [(0, jR jXS), (1, jR 0), (2, jR 74), (3, jR 87), (4, jI i), (5, jI r10.1), (6, jI r11.1)]) (st' := [jI 0]) rfl (p1 := 2413) rfl ?_
        cases hf
    · refine B_blk B (jlkn_ok RL) jcl_SKF [.iconst 1, .goto 4] (by decide +kernel) (ls' := [(0, jR jXS), (1, jR 0), (2, jR 74), (3, jR 87), (4, jI i), (5, jI r10.1)]) (st' := [jI 1, jI (sx (jW (i + 3))), jI (sx (jW (i + 2))), jI (sx (jW (i + 1))), jR 74]) rfl (p1 := 2398) rfl ?_
      obtain ⟨r13, h13, hf⟩ := jbd hf
      refine B_callV B (Nat.zero_le _) (μ' := r13.2) (k' := k + 2) (n' := n + 12) ca_X10_steel in_X10_steel se_X10_steel lk_L_266 (t_X10_steel B.tr h13) (Nat.le_refl _) (jRoom (K := 9000) (N := 90000) (by omega) (by omega) rfl) rfl rfl (rest := []) rfl rfl (Nat.le_of_ble_eq_true rfl) (by decide +kernel) rfl rfl (st' := [jI r13.1]) rfl ?_
      refine B_blk B (jlkn_ok RL) jcl_SKF [.istore 6, .aload_n 2] (by decide +kernel) (ls' := [(0, jR jXS), (1, jR 0), (2, jR 74), (3, jR 87), (4, jI i), (5, jI r10.1), (6, jI r13.1)]) (st' := [jR 74]) rfl (p1 := 2404) rfl ?_
      obtain ⟨r14, h14, hf⟩ := jbd hf
      refine B_callV B (Nat.zero_le _) (μ' := r13.2) (k' := k + 2) (n' := n + 12) ca_X10_thrown in_X10_thrown se_X10_thrown lk_L_174 (t_X10_thrown B.tr h14) (Nat.le_refl _) (jRoom (K := 9000) (N := 90000) (by omega) (by omega) rfl) rfl rfl (rest := []) rfl rfl (Nat.le_of_ble_eq_true rfl) (by decide +kernel) rfl rfl (st' := [jI r14]) rfl ?_
      refine B_blk B (jlkn_ok RL) jcl_SKF [.iload 5] (by decide +kernel) (ls' := [(0, jR jXS), (1, jR 0), (2, jR 74), (3, jR 87), (4, jI i), (5, jI r10.1), (6, jI r13.1)]) (st' := [jI r10.1, jI r14]) rfl (p1 := 2409) rfl ?_
      refine J_icmp_eq B.1 (off := 5) (tgt := 2414) (by decide +kernel) (by decide) hf (fun hf => ?_) (fun hf => ?_)
      · refine B_blk B (jlkn_ok RL) jcl_SKF [.iload 5] (by decide +kernel) (ls' := [(0, jR jXS), (1, jR 0), (2, jR 74), (3, jR 87), (4, jI i), (5, jI r10.1), (6, jI r13.1)]) (st' := [jI r10.1]) rfl (p1 := 2416) rfl ?_
        refine J_if_ne B.1 (off := 15) (tgt := 2431) (by decide +kernel) (by decide) hf (fun hf => ?_) (fun hf => ?_)
        · refine B_blk B (jlkn_ok RL) jcl_SKF [.aload_n 3, .iconst 0] (by decide +kernel) (ls' := [(0, jR jXS), (1, jR 0), (2, jR 74), (3, jR 87), (4, jI i), (5, jI r10.1), (6, jI r13.1)]) (st' := [jI 0, jR 87]) rfl (p1 := 2421) rfl ?_
          refine K_lald (lenI := 1) B rfl rfl (by decide) (by decide +kernel) ?_
          refine B_blk B (jlkn_ok RL) jcl_SKF [.iload 6, .i2l, .lcmp] (by decide +kernel) (ls' := [(0, jR jXS), (1, jR 0), (2, jR 74), (3, jR 87), (4, jI i), (5, jI r10.1), (6, jI r13.1)]) (st' := [jI (jCm (r13.2 87 0) r13.1)]) rfl (p1 := 2426) rfl ?_
          refine J_if_eq B.1 (off := 5) (tgt := 2431) (by decide +kernel) (by decide) hf (fun hf => ?_) (fun hf => ?_)
          · refine B_blk B (jlkn_ok RL) jcl_SKF [.goto 1192] (by decide +kernel) (ls' := [(0, jR jXS), (1, jR 0), (2, jR 74), (3, jR 87), (4, jI i), (5, jI r10.1), (6, jI r13.1)]) (st' := []) rfl (p1 := 3623) rfl ?_
            refine J_pick [0, 1, 2, 3, 4] (ls' := [(0, jR jXS), (1, jR 0), (2, jR 74), (3, jR 87), (4, jI i)]) rfl ?_
            cases hf
            exact J_widen (by omega) (by omega) hx
          · refine B_blk B (jlkn_ok RL) jcl_SKF [.iconst 0] (by decide +kernel) (ls' := [(0, jR jXS), (1, jR 0), (2, jR 74), (3, jR 87), (4, jI i), (5, jI r10.1), (6, jI r13.1)]) (st' := [jI 0]) rfl (p1 := 2430) rfl ?_
            cases hf
        · refine B_blk B (jlkn_ok RL) jcl_SKF [.goto 1192] (by decide +kernel) (ls' := [(0, jR jXS), (1, jR 0), (2, jR 74), (3, jR 87), (4, jI i), (5, jI r10.1), (6, jI r13.1)]) (st' := []) rfl (p1 := 3623) rfl ?_
          refine J_pick [0, 1, 2, 3, 4] (ls' := [(0, jR jXS), (1, jR 0), (2, jR 74), (3, jR 87), (4, jI i)]) rfl ?_
          cases hf
          exact J_widen (by omega) (by omega) hx
      · refine B_blk B (jlkn_ok RL) jcl_SKF [.iconst 0] (by decide +kernel) (ls' := [(0, jR jXS), (1, jR 0), (2, jR 74), (3, jR 87), (4, jI i), (5, jI r10.1), (6, jI r13.1)]) (st' := [jI 0]) rfl (p1 := 2413) rfl ?_
        cases hf

def f_case_29 (sx : Int → Int) (L i : Int) (m : jMu) : Option jMu :=
  (if 0 ≤ jW (i + 1) ∧ jW (i + 1) < L then (if 0 ≤ jW (i + 2) ∧ jW (i + 2) < L then (if 0 ≤ jW (i + 3) ∧ jW (i + 3) < L then (f_L_below (sx (jW (i + 1))) (sx (jW (i + 2))) (sx (jW (i + 3))) m).bind fun r1 => (if 0 ≤ jW (i + 1) ∧ jW (i + 1) < L then (if 0 ≤ jW (i + 2) ∧ jW (i + 2) < L then (if 0 ≤ jW (i + 3) ∧ jW (i + 3) < L then (f_X10_below (sx (jW (i + 1))) (sx (jW (i + 2))) (sx (jW (i + 3))) r1.2).bind fun r2 => (f_X10_thrown r2.2).bind fun r3 => (if r3 = r1.1 then (if r1.1 = 0 then (if jCm (r2.2 87 0) r2.1 = 0 then some r2.2 else none) else some r2.2) else none) else none) else none) else none) else none) else none) else none)
theorem t_case_29 {X : jX} {L : Int} {sx : Int → Int} (hsx : jsx (xG X) L sx) (B : jB X cL_law RL 8 0 room_1 (some .boolean)) {k n : Nat} (hk : k ≤ 8900) (hn : n ≤ 89000) {i : Int} {m o : jMu} (hf : f_case_29 sx L i m = some o) (hx : J X SKF o (k + 5) (n + 30) 3623 [(0, jR jXS), (1, jR 0), (2, jR 74), (3, jR 87), (4, jI i)] []) : J X SKF m k n 2434 [(0, jR jXS), (1, jR 0), (2, jR 74), (3, jR 87), (4, jI i)] [] := by
  unfold f_case_29 at hf
  refine B_blk B (jlkn_ok RL) jcl_SKF [.aload_n 1, .aload_n 0, .iload 4, .iconst 1, .iadd] (by decide +kernel) (ls' := [(0, jR jXS), (1, jR 0), (2, jR 74), (3, jR 87), (4, jI i)]) (st' := [jI (jW (i + 1)), jR jXS, jR 0]) rfl (p1 := 2440) rfl ?_
  obtain ⟨g9, hf⟩ := jgd hf
  refine K_xald B hsx g9 (by decide +kernel) ?_
  refine B_blk B (jlkn_ok RL) jcl_SKF [.aload_n 0, .iload 4, .iconst 2, .iadd] (by decide +kernel) (ls' := [(0, jR jXS), (1, jR 0), (2, jR 74), (3, jR 87), (4, jI i)]) (st' := [jI (jW (i + 2)), jR jXS, jI (sx (jW (i + 1))), jR 0]) rfl (p1 := 2446) rfl ?_
  obtain ⟨g8, hf⟩ := jgd hf
  refine K_xald B hsx g8 (by decide +kernel) ?_
  refine B_blk B (jlkn_ok RL) jcl_SKF [.aload_n 0, .iload 4, .iconst 3, .iadd] (by decide +kernel) (ls' := [(0, jR jXS), (1, jR 0), (2, jR 74), (3, jR 87), (4, jI i)]) (st' := [jI (jW (i + 3)), jR jXS, jI (sx (jW (i + 2))), jI (sx (jW (i + 1))), jR 0]) rfl (p1 := 2452) rfl ?_
  obtain ⟨g7, hf⟩ := jgd hf
  refine K_xald B hsx g7 (by decide +kernel) ?_
  refine B_blk B (jlkn_ok RL) jcl_SKF [.aload_n 3] (by decide +kernel) (ls' := [(0, jR jXS), (1, jR 0), (2, jR 74), (3, jR 87), (4, jI i)]) (st' := [jR 87, jI (sx (jW (i + 3))), jI (sx (jW (i + 2))), jI (sx (jW (i + 1))), jR 0]) rfl (p1 := 2454) rfl ?_
  obtain ⟨r1, h1, hf⟩ := jbd hf
  refine B_callH B (Nat.zero_le _) (μ' := r1.2) (k' := k + 2) (n' := n + 12) ca_L_below sa_L_below lk_L_267 (t_L_below B.tr h1) (Nat.le_refl _) (jRoom (K := 9000) (N := 90000) (by omega) (by omega) rfl) (rest := []) rfl rfl (Nat.le_of_ble_eq_true rfl) (by decide +kernel) rfl rfl (st' := [jI r1.1]) rfl ?_
  refine B_blk B (jlkn_ok RL) jcl_SKF [.istore 5, .aload_n 2, .aload_n 0, .iload 4, .iconst 1, .iadd] (by decide +kernel) (ls' := [(0, jR jXS), (1, jR 0), (2, jR 74), (3, jR 87), (4, jI i), (5, jI r1.1)]) (st' := [jI (jW (i + 1)), jR jXS, jR 74]) rfl (p1 := 2465) rfl ?_
  obtain ⟨g6, hf⟩ := jgd hf
  refine K_xald B hsx g6 (by decide +kernel) ?_
  refine B_blk B (jlkn_ok RL) jcl_SKF [.aload_n 0, .iload 4, .iconst 2, .iadd] (by decide +kernel) (ls' := [(0, jR jXS), (1, jR 0), (2, jR 74), (3, jR 87), (4, jI i), (5, jI r1.1)]) (st' := [jI (jW (i + 2)), jR jXS, jI (sx (jW (i + 1))), jR 74]) rfl (p1 := 2471) rfl ?_
  obtain ⟨g5, hf⟩ := jgd hf
  refine K_xald B hsx g5 (by decide +kernel) ?_
  refine B_blk B (jlkn_ok RL) jcl_SKF [.aload_n 0, .iload 4, .iconst 3, .iadd] (by decide +kernel) (ls' := [(0, jR jXS), (1, jR 0), (2, jR 74), (3, jR 87), (4, jI i), (5, jI r1.1)]) (st' := [jI (jW (i + 3)), jR jXS, jI (sx (jW (i + 2))), jI (sx (jW (i + 1))), jR 74]) rfl (p1 := 2477) rfl ?_
  obtain ⟨g4, hf⟩ := jgd hf
  refine K_xald B hsx g4 (by decide +kernel) ?_
  obtain ⟨r2, h2, hf⟩ := jbd hf
  refine B_callV B (Nat.zero_le _) (μ' := r2.2) (k' := k + 2) (n' := n + 12) ca_X10_below in_X10_below se_X10_below lk_L_269 (t_X10_below B.tr h2) (Nat.le_refl _) (jRoom (K := 9000) (N := 90000) (by omega) (by omega) rfl) rfl rfl (rest := []) rfl rfl (Nat.le_of_ble_eq_true rfl) (by decide +kernel) rfl rfl (st' := [jI r2.1]) rfl ?_
  refine B_blk B (jlkn_ok RL) jcl_SKF [.istore 6, .aload_n 2] (by decide +kernel) (ls' := [(0, jR jXS), (1, jR 0), (2, jR 74), (3, jR 87), (4, jI i), (5, jI r1.1), (6, jI r2.1)]) (st' := [jR 74]) rfl (p1 := 2484) rfl ?_
  obtain ⟨r3, h3, hf⟩ := jbd hf
  refine B_callV B (Nat.zero_le _) (μ' := r2.2) (k' := k + 2) (n' := n + 12) ca_X10_thrown in_X10_thrown se_X10_thrown lk_L_174 (t_X10_thrown B.tr h3) (Nat.le_refl _) (jRoom (K := 9000) (N := 90000) (by omega) (by omega) rfl) rfl rfl (rest := []) rfl rfl (Nat.le_of_ble_eq_true rfl) (by decide +kernel) rfl rfl (st' := [jI r3]) rfl ?_
  refine B_blk B (jlkn_ok RL) jcl_SKF [.iload 5] (by decide +kernel) (ls' := [(0, jR jXS), (1, jR 0), (2, jR 74), (3, jR 87), (4, jI i), (5, jI r1.1), (6, jI r2.1)]) (st' := [jI r1.1, jI r3]) rfl (p1 := 2489) rfl ?_
  refine J_icmp_eq B.1 (off := 5) (tgt := 2494) (by decide +kernel) (by decide) hf (fun hf => ?_) (fun hf => ?_)
  · refine B_blk B (jlkn_ok RL) jcl_SKF [.iload 5] (by decide +kernel) (ls' := [(0, jR jXS), (1, jR 0), (2, jR 74), (3, jR 87), (4, jI i), (5, jI r1.1), (6, jI r2.1)]) (st' := [jI r1.1]) rfl (p1 := 2496) rfl ?_
    refine J_if_ne B.1 (off := 15) (tgt := 2511) (by decide +kernel) (by decide) hf (fun hf => ?_) (fun hf => ?_)
    · refine B_blk B (jlkn_ok RL) jcl_SKF [.aload_n 3, .iconst 0] (by decide +kernel) (ls' := [(0, jR jXS), (1, jR 0), (2, jR 74), (3, jR 87), (4, jI i), (5, jI r1.1), (6, jI r2.1)]) (st' := [jI 0, jR 87]) rfl (p1 := 2501) rfl ?_
      refine K_lald (lenI := 1) B rfl rfl (by decide) (by decide +kernel) ?_
      refine B_blk B (jlkn_ok RL) jcl_SKF [.iload 6, .i2l, .lcmp] (by decide +kernel) (ls' := [(0, jR jXS), (1, jR 0), (2, jR 74), (3, jR 87), (4, jI i), (5, jI r1.1), (6, jI r2.1)]) (st' := [jI (jCm (r2.2 87 0) r2.1)]) rfl (p1 := 2506) rfl ?_
      refine J_if_eq B.1 (off := 5) (tgt := 2511) (by decide +kernel) (by decide) hf (fun hf => ?_) (fun hf => ?_)
      · refine B_blk B (jlkn_ok RL) jcl_SKF [.goto 1112] (by decide +kernel) (ls' := [(0, jR jXS), (1, jR 0), (2, jR 74), (3, jR 87), (4, jI i), (5, jI r1.1), (6, jI r2.1)]) (st' := []) rfl (p1 := 3623) rfl ?_
        refine J_pick [0, 1, 2, 3, 4] (ls' := [(0, jR jXS), (1, jR 0), (2, jR 74), (3, jR 87), (4, jI i)]) rfl ?_
        cases hf
        exact J_widen (by omega) (by omega) hx
      · refine B_blk B (jlkn_ok RL) jcl_SKF [.iconst 0] (by decide +kernel) (ls' := [(0, jR jXS), (1, jR 0), (2, jR 74), (3, jR 87), (4, jI i), (5, jI r1.1), (6, jI r2.1)]) (st' := [jI 0]) rfl (p1 := 2510) rfl ?_
        cases hf
    · refine B_blk B (jlkn_ok RL) jcl_SKF [.goto 1112] (by decide +kernel) (ls' := [(0, jR jXS), (1, jR 0), (2, jR 74), (3, jR 87), (4, jI i), (5, jI r1.1), (6, jI r2.1)]) (st' := []) rfl (p1 := 3623) rfl ?_
      refine J_pick [0, 1, 2, 3, 4] (ls' := [(0, jR jXS), (1, jR 0), (2, jR 74), (3, jR 87), (4, jI i)]) rfl ?_
      cases hf
      exact J_widen (by omega) (by omega) hx
  · refine B_blk B (jlkn_ok RL) jcl_SKF [.iconst 0] (by decide +kernel) (ls' := [(0, jR jXS), (1, jR 0), (2, jR 74), (3, jR 87), (4, jI i), (5, jI r1.1), (6, jI r2.1)]) (st' := [jI 0]) rfl (p1 := 2493) rfl ?_
    cases hf

def f_case_30 (sx : Int → Int) (L i : Int) (m : jMu) : Option jMu :=
  (if 0 ≤ jW (i + 1) ∧ jW (i + 1) < L then (if 0 ≤ jW (i + 2) ∧ jW (i + 2) < L then (if 0 ≤ jW (i + 3) ∧ jW (i + 3) < L then (if 0 ≤ jW (i + 4) ∧ jW (i + 4) < L then (if 0 ≤ jW (i + 5) ∧ jW (i + 5) < L then (f_L_order (sx (jW (i + 1))) (sx (jW (i + 2))) (sx (jW (i + 3))) (sx (jW (i + 4))) (sx (jW (i + 5))) m).bind fun r1 => (if 0 ≤ jW (i + 1) ∧ jW (i + 1) < L then (if 0 ≤ jW (i + 2) ∧ jW (i + 2) < L then (if 0 ≤ jW (i + 3) ∧ jW (i + 3) < L then (if 0 ≤ jW (i + 4) ∧ jW (i + 4) < L then (if 0 ≤ jW (i + 5) ∧ jW (i + 5) < L then (f_X10_order (sx (jW (i + 1))) (sx (jW (i + 2))) (sx (jW (i + 3))) (sx (jW (i + 4))) (sx (jW (i + 5))) r1.2).bind fun r2 => (f_X10_thrown r2.2).bind fun r3 => (if r3 = r1.1 then (if r1.1 = 0 then (if jCm (r2.2 87 0) r2.1 = 0 then some r2.2 else none) else some r2.2) else none) else none) else none) else none) else none) else none) else none) else none) else none) else none) else none)
theorem t_case_30 {X : jX} {L : Int} {sx : Int → Int} (hsx : jsx (xG X) L sx) (B : jB X cL_law RL 8 0 room_1 (some .boolean)) {k n : Nat} (hk : k ≤ 8900) (hn : n ≤ 89000) {i : Int} {m o : jMu} (hf : f_case_30 sx L i m = some o) (hx : J X SKF o (k + 5) (n + 30) 3623 [(0, jR jXS), (1, jR 0), (2, jR 74), (3, jR 87), (4, jI i)] []) : J X SKF m k n 2514 [(0, jR jXS), (1, jR 0), (2, jR 74), (3, jR 87), (4, jI i)] [] := by
  unfold f_case_30 at hf
  refine B_blk B (jlkn_ok RL) jcl_SKF [.aload_n 1, .aload_n 0, .iload 4, .iconst 1, .iadd] (by decide +kernel) (ls' := [(0, jR jXS), (1, jR 0), (2, jR 74), (3, jR 87), (4, jI i)]) (st' := [jI (jW (i + 1)), jR jXS, jR 0]) rfl (p1 := 2520) rfl ?_
  obtain ⟨g13, hf⟩ := jgd hf
  refine K_xald B hsx g13 (by decide +kernel) ?_
  refine B_blk B (jlkn_ok RL) jcl_SKF [.aload_n 0, .iload 4, .iconst 2, .iadd] (by decide +kernel) (ls' := [(0, jR jXS), (1, jR 0), (2, jR 74), (3, jR 87), (4, jI i)]) (st' := [jI (jW (i + 2)), jR jXS, jI (sx (jW (i + 1))), jR 0]) rfl (p1 := 2526) rfl ?_
  obtain ⟨g12, hf⟩ := jgd hf
  refine K_xald B hsx g12 (by decide +kernel) ?_
  refine B_blk B (jlkn_ok RL) jcl_SKF [.aload_n 0, .iload 4, .iconst 3, .iadd] (by decide +kernel) (ls' := [(0, jR jXS), (1, jR 0), (2, jR 74), (3, jR 87), (4, jI i)]) (st' := [jI (jW (i + 3)), jR jXS, jI (sx (jW (i + 2))), jI (sx (jW (i + 1))), jR 0]) rfl (p1 := 2532) rfl ?_
  obtain ⟨g11, hf⟩ := jgd hf
  refine K_xald B hsx g11 (by decide +kernel) ?_
  refine B_blk B (jlkn_ok RL) jcl_SKF [.aload_n 0, .iload 4, .iconst 4, .iadd] (by decide +kernel) (ls' := [(0, jR jXS), (1, jR 0), (2, jR 74), (3, jR 87), (4, jI i)]) (st' := [jI (jW (i + 4)), jR jXS, jI (sx (jW (i + 3))), jI (sx (jW (i + 2))), jI (sx (jW (i + 1))), jR 0]) rfl (p1 := 2538) rfl ?_
  obtain ⟨g10, hf⟩ := jgd hf
  refine K_xald B hsx g10 (by decide +kernel) ?_
  refine B_blk B (jlkn_ok RL) jcl_SKF [.aload_n 0, .iload 4, .iconst 5, .iadd] (by decide +kernel) (ls' := [(0, jR jXS), (1, jR 0), (2, jR 74), (3, jR 87), (4, jI i)]) (st' := [jI (jW (i + 5)), jR jXS, jI (sx (jW (i + 4))), jI (sx (jW (i + 3))), jI (sx (jW (i + 2))), jI (sx (jW (i + 1))), jR 0]) rfl (p1 := 2544) rfl ?_
  obtain ⟨g9, hf⟩ := jgd hf
  refine K_xald B hsx g9 (by decide +kernel) ?_
  refine B_blk B (jlkn_ok RL) jcl_SKF [.aload_n 3] (by decide +kernel) (ls' := [(0, jR jXS), (1, jR 0), (2, jR 74), (3, jR 87), (4, jI i)]) (st' := [jR 87, jI (sx (jW (i + 5))), jI (sx (jW (i + 4))), jI (sx (jW (i + 3))), jI (sx (jW (i + 2))), jI (sx (jW (i + 1))), jR 0]) rfl (p1 := 2546) rfl ?_
  obtain ⟨r1, h1, hf⟩ := jbd hf
  refine B_callH B (Nat.zero_le _) (μ' := r1.2) (k' := k + 4) (n' := n + 24) ca_L_order sa_L_order lk_L_270 (t_L_order B.tr h1) (Nat.le_refl _) (jRoom (K := 9000) (N := 90000) (by omega) (by omega) rfl) (rest := []) rfl rfl (Nat.le_of_ble_eq_true rfl) (by decide +kernel) rfl rfl (st' := [jI r1.1]) rfl ?_
  refine B_blk B (jlkn_ok RL) jcl_SKF [.istore 5, .aload_n 2, .aload_n 0, .iload 4, .iconst 1, .iadd] (by decide +kernel) (ls' := [(0, jR jXS), (1, jR 0), (2, jR 74), (3, jR 87), (4, jI i), (5, jI r1.1)]) (st' := [jI (jW (i + 1)), jR jXS, jR 74]) rfl (p1 := 2557) rfl ?_
  obtain ⟨g8, hf⟩ := jgd hf
  refine K_xald B hsx g8 (by decide +kernel) ?_
  refine B_blk B (jlkn_ok RL) jcl_SKF [.aload_n 0, .iload 4, .iconst 2, .iadd] (by decide +kernel) (ls' := [(0, jR jXS), (1, jR 0), (2, jR 74), (3, jR 87), (4, jI i), (5, jI r1.1)]) (st' := [jI (jW (i + 2)), jR jXS, jI (sx (jW (i + 1))), jR 74]) rfl (p1 := 2563) rfl ?_
  obtain ⟨g7, hf⟩ := jgd hf
  refine K_xald B hsx g7 (by decide +kernel) ?_
  refine B_blk B (jlkn_ok RL) jcl_SKF [.aload_n 0, .iload 4, .iconst 3, .iadd] (by decide +kernel) (ls' := [(0, jR jXS), (1, jR 0), (2, jR 74), (3, jR 87), (4, jI i), (5, jI r1.1)]) (st' := [jI (jW (i + 3)), jR jXS, jI (sx (jW (i + 2))), jI (sx (jW (i + 1))), jR 74]) rfl (p1 := 2569) rfl ?_
  obtain ⟨g6, hf⟩ := jgd hf
  refine K_xald B hsx g6 (by decide +kernel) ?_
  refine B_blk B (jlkn_ok RL) jcl_SKF [.aload_n 0, .iload 4, .iconst 4, .iadd] (by decide +kernel) (ls' := [(0, jR jXS), (1, jR 0), (2, jR 74), (3, jR 87), (4, jI i), (5, jI r1.1)]) (st' := [jI (jW (i + 4)), jR jXS, jI (sx (jW (i + 3))), jI (sx (jW (i + 2))), jI (sx (jW (i + 1))), jR 74]) rfl (p1 := 2575) rfl ?_
  obtain ⟨g5, hf⟩ := jgd hf
  refine K_xald B hsx g5 (by decide +kernel) ?_
  refine B_blk B (jlkn_ok RL) jcl_SKF [.aload_n 0, .iload 4, .iconst 5, .iadd] (by decide +kernel) (ls' := [(0, jR jXS), (1, jR 0), (2, jR 74), (3, jR 87), (4, jI i), (5, jI r1.1)]) (st' := [jI (jW (i + 5)), jR jXS, jI (sx (jW (i + 4))), jI (sx (jW (i + 3))), jI (sx (jW (i + 2))), jI (sx (jW (i + 1))), jR 74]) rfl (p1 := 2581) rfl ?_
  obtain ⟨g4, hf⟩ := jgd hf
  refine K_xald B hsx g4 (by decide +kernel) ?_
  obtain ⟨r2, h2, hf⟩ := jbd hf
  refine B_callV B (Nat.zero_le _) (μ' := r2.2) (k' := k + 4) (n' := n + 24) ca_X10_order in_X10_order se_X10_order lk_L_272 (t_X10_order B.tr h2) (Nat.le_refl _) (jRoom (K := 9000) (N := 90000) (by omega) (by omega) rfl) rfl rfl (rest := []) rfl rfl (Nat.le_of_ble_eq_true rfl) (by decide +kernel) rfl rfl (st' := [jI r2.1]) rfl ?_
  refine B_blk B (jlkn_ok RL) jcl_SKF [.istore 6, .aload_n 2] (by decide +kernel) (ls' := [(0, jR jXS), (1, jR 0), (2, jR 74), (3, jR 87), (4, jI i), (5, jI r1.1), (6, jI r2.1)]) (st' := [jR 74]) rfl (p1 := 2588) rfl ?_
  obtain ⟨r3, h3, hf⟩ := jbd hf
  refine B_callV B (Nat.zero_le _) (μ' := r2.2) (k' := k + 4) (n' := n + 24) ca_X10_thrown in_X10_thrown se_X10_thrown lk_L_174 (t_X10_thrown B.tr h3) (Nat.le_refl _) (jRoom (K := 9000) (N := 90000) (by omega) (by omega) rfl) rfl rfl (rest := []) rfl rfl (Nat.le_of_ble_eq_true rfl) (by decide +kernel) rfl rfl (st' := [jI r3]) rfl ?_
  refine B_blk B (jlkn_ok RL) jcl_SKF [.iload 5] (by decide +kernel) (ls' := [(0, jR jXS), (1, jR 0), (2, jR 74), (3, jR 87), (4, jI i), (5, jI r1.1), (6, jI r2.1)]) (st' := [jI r1.1, jI r3]) rfl (p1 := 2593) rfl ?_
  refine J_icmp_eq B.1 (off := 5) (tgt := 2598) (by decide +kernel) (by decide) hf (fun hf => ?_) (fun hf => ?_)
  · refine B_blk B (jlkn_ok RL) jcl_SKF [.iload 5] (by decide +kernel) (ls' := [(0, jR jXS), (1, jR 0), (2, jR 74), (3, jR 87), (4, jI i), (5, jI r1.1), (6, jI r2.1)]) (st' := [jI r1.1]) rfl (p1 := 2600) rfl ?_
    refine J_if_ne B.1 (off := 15) (tgt := 2615) (by decide +kernel) (by decide) hf (fun hf => ?_) (fun hf => ?_)
    · refine B_blk B (jlkn_ok RL) jcl_SKF [.aload_n 3, .iconst 0] (by decide +kernel) (ls' := [(0, jR jXS), (1, jR 0), (2, jR 74), (3, jR 87), (4, jI i), (5, jI r1.1), (6, jI r2.1)]) (st' := [jI 0, jR 87]) rfl (p1 := 2605) rfl ?_
      refine K_lald (lenI := 1) B rfl rfl (by decide) (by decide +kernel) ?_
      refine B_blk B (jlkn_ok RL) jcl_SKF [.iload 6, .i2l, .lcmp] (by decide +kernel) (ls' := [(0, jR jXS), (1, jR 0), (2, jR 74), (3, jR 87), (4, jI i), (5, jI r1.1), (6, jI r2.1)]) (st' := [jI (jCm (r2.2 87 0) r2.1)]) rfl (p1 := 2610) rfl ?_
      refine J_if_eq B.1 (off := 5) (tgt := 2615) (by decide +kernel) (by decide) hf (fun hf => ?_) (fun hf => ?_)
      · refine B_blk B (jlkn_ok RL) jcl_SKF [.goto 1008] (by decide +kernel) (ls' := [(0, jR jXS), (1, jR 0), (2, jR 74), (3, jR 87), (4, jI i), (5, jI r1.1), (6, jI r2.1)]) (st' := []) rfl (p1 := 3623) rfl ?_
        refine J_pick [0, 1, 2, 3, 4] (ls' := [(0, jR jXS), (1, jR 0), (2, jR 74), (3, jR 87), (4, jI i)]) rfl ?_
        cases hf
        exact J_widen (by omega) (by omega) hx
      · refine B_blk B (jlkn_ok RL) jcl_SKF [.iconst 0] (by decide +kernel) (ls' := [(0, jR jXS), (1, jR 0), (2, jR 74), (3, jR 87), (4, jI i), (5, jI r1.1), (6, jI r2.1)]) (st' := [jI 0]) rfl (p1 := 2614) rfl ?_
        cases hf
    · refine B_blk B (jlkn_ok RL) jcl_SKF [.goto 1008] (by decide +kernel) (ls' := [(0, jR jXS), (1, jR 0), (2, jR 74), (3, jR 87), (4, jI i), (5, jI r1.1), (6, jI r2.1)]) (st' := []) rfl (p1 := 3623) rfl ?_
      refine J_pick [0, 1, 2, 3, 4] (ls' := [(0, jR jXS), (1, jR 0), (2, jR 74), (3, jR 87), (4, jI i)]) rfl ?_
      cases hf
      exact J_widen (by omega) (by omega) hx
  · refine B_blk B (jlkn_ok RL) jcl_SKF [.iconst 0] (by decide +kernel) (ls' := [(0, jR jXS), (1, jR 0), (2, jR 74), (3, jR 87), (4, jI i), (5, jI r1.1), (6, jI r2.1)]) (st' := [jI 0]) rfl (p1 := 2597) rfl ?_
    cases hf

def f_case_31 (sx : Int → Int) (L i : Int) (m : jMu) : Option jMu :=
  (if 0 ≤ jW (i + 1) ∧ jW (i + 1) < L then (if 0 ≤ jW (i + 2) ∧ jW (i + 2) < L then (if 0 ≤ jW (i + 3) ∧ jW (i + 3) < L then (if 0 ≤ jW (i + 4) ∧ jW (i + 4) < L then (f_L_put (sx (jW (i + 1))) (sx (jW (i + 2))) (sx (jW (i + 3))) (sx (jW (i + 4))) m).bind fun r1 => (if 0 ≤ jW (i + 1) ∧ jW (i + 1) < L then (if 0 ≤ jW (i + 2) ∧ jW (i + 2) < L then (if 0 ≤ jW (i + 3) ∧ jW (i + 3) < L then (if 0 ≤ jW (i + 4) ∧ jW (i + 4) < L then (f_X10_put (sx (jW (i + 1))) (sx (jW (i + 2))) (sx (jW (i + 3))) (sx (jW (i + 4))) r1.2).bind fun r2 => (f_X10_thrown r2.2).bind fun r3 => (if r3 = r1.1 then (if r1.1 = 0 then (if jCm (r2.2 87 0) r2.1 = 0 then some r2.2 else none) else some r2.2) else none) else none) else none) else none) else none) else none) else none) else none) else none)
theorem t_case_31 {X : jX} {L : Int} {sx : Int → Int} (hsx : jsx (xG X) L sx) (B : jB X cL_law RL 8 0 room_1 (some .boolean)) {k n : Nat} (hk : k ≤ 8900) (hn : n ≤ 89000) {i : Int} {m o : jMu} (hf : f_case_31 sx L i m = some o) (hx : J X SKF o (k + 5) (n + 30) 3623 [(0, jR jXS), (1, jR 0), (2, jR 74), (3, jR 87), (4, jI i)] []) : J X SKF m k n 2618 [(0, jR jXS), (1, jR 0), (2, jR 74), (3, jR 87), (4, jI i)] [] := by
  unfold f_case_31 at hf
  refine B_blk B (jlkn_ok RL) jcl_SKF [.aload_n 1, .aload_n 0, .iload 4, .iconst 1, .iadd] (by decide +kernel) (ls' := [(0, jR jXS), (1, jR 0), (2, jR 74), (3, jR 87), (4, jI i)]) (st' := [jI (jW (i + 1)), jR jXS, jR 0]) rfl (p1 := 2624) rfl ?_
  obtain ⟨g11, hf⟩ := jgd hf
  refine K_xald B hsx g11 (by decide +kernel) ?_
  refine B_blk B (jlkn_ok RL) jcl_SKF [.aload_n 0, .iload 4, .iconst 2, .iadd] (by decide +kernel) (ls' := [(0, jR jXS), (1, jR 0), (2, jR 74), (3, jR 87), (4, jI i)]) (st' := [jI (jW (i + 2)), jR jXS, jI (sx (jW (i + 1))), jR 0]) rfl (p1 := 2630) rfl ?_
  obtain ⟨g10, hf⟩ := jgd hf
  refine K_xald B hsx g10 (by decide +kernel) ?_
  refine B_blk B (jlkn_ok RL) jcl_SKF [.aload_n 0, .iload 4, .iconst 3, .iadd] (by decide +kernel) (ls' := [(0, jR jXS), (1, jR 0), (2, jR 74), (3, jR 87), (4, jI i)]) (st' := [jI (jW (i + 3)), jR jXS, jI (sx (jW (i + 2))), jI (sx (jW (i + 1))), jR 0]) rfl (p1 := 2636) rfl ?_
  obtain ⟨g9, hf⟩ := jgd hf
  refine K_xald B hsx g9 (by decide +kernel) ?_
  refine B_blk B (jlkn_ok RL) jcl_SKF [.aload_n 0, .iload 4, .iconst 4, .iadd] (by decide +kernel) (ls' := [(0, jR jXS), (1, jR 0), (2, jR 74), (3, jR 87), (4, jI i)]) (st' := [jI (jW (i + 4)), jR jXS, jI (sx (jW (i + 3))), jI (sx (jW (i + 2))), jI (sx (jW (i + 1))), jR 0]) rfl (p1 := 2642) rfl ?_
  obtain ⟨g8, hf⟩ := jgd hf
  refine K_xald B hsx g8 (by decide +kernel) ?_
  refine B_blk B (jlkn_ok RL) jcl_SKF [.aload_n 3] (by decide +kernel) (ls' := [(0, jR jXS), (1, jR 0), (2, jR 74), (3, jR 87), (4, jI i)]) (st' := [jR 87, jI (sx (jW (i + 4))), jI (sx (jW (i + 3))), jI (sx (jW (i + 2))), jI (sx (jW (i + 1))), jR 0]) rfl (p1 := 2644) rfl ?_
  obtain ⟨r1, h1, hf⟩ := jbd hf
  refine B_callH B (Nat.zero_le _) (μ' := r1.2) (k' := k + 3) (n' := n + 18) ca_L_put sa_L_put lk_L_273 (t_L_put B.tr h1) (Nat.le_refl _) (jRoom (K := 9000) (N := 90000) (by omega) (by omega) rfl) (rest := []) rfl rfl (Nat.le_of_ble_eq_true rfl) (by decide +kernel) rfl rfl (st' := [jI r1.1]) rfl ?_
  refine B_blk B (jlkn_ok RL) jcl_SKF [.istore 5, .aload_n 2, .aload_n 0, .iload 4, .iconst 1, .iadd] (by decide +kernel) (ls' := [(0, jR jXS), (1, jR 0), (2, jR 74), (3, jR 87), (4, jI i), (5, jI r1.1)]) (st' := [jI (jW (i + 1)), jR jXS, jR 74]) rfl (p1 := 2655) rfl ?_
  obtain ⟨g7, hf⟩ := jgd hf
  refine K_xald B hsx g7 (by decide +kernel) ?_
  refine B_blk B (jlkn_ok RL) jcl_SKF [.aload_n 0, .iload 4, .iconst 2, .iadd] (by decide +kernel) (ls' := [(0, jR jXS), (1, jR 0), (2, jR 74), (3, jR 87), (4, jI i), (5, jI r1.1)]) (st' := [jI (jW (i + 2)), jR jXS, jI (sx (jW (i + 1))), jR 74]) rfl (p1 := 2661) rfl ?_
  obtain ⟨g6, hf⟩ := jgd hf
  refine K_xald B hsx g6 (by decide +kernel) ?_
  refine B_blk B (jlkn_ok RL) jcl_SKF [.aload_n 0, .iload 4, .iconst 3, .iadd] (by decide +kernel) (ls' := [(0, jR jXS), (1, jR 0), (2, jR 74), (3, jR 87), (4, jI i), (5, jI r1.1)]) (st' := [jI (jW (i + 3)), jR jXS, jI (sx (jW (i + 2))), jI (sx (jW (i + 1))), jR 74]) rfl (p1 := 2667) rfl ?_
  obtain ⟨g5, hf⟩ := jgd hf
  refine K_xald B hsx g5 (by decide +kernel) ?_
  refine B_blk B (jlkn_ok RL) jcl_SKF [.aload_n 0, .iload 4, .iconst 4, .iadd] (by decide +kernel) (ls' := [(0, jR jXS), (1, jR 0), (2, jR 74), (3, jR 87), (4, jI i), (5, jI r1.1)]) (st' := [jI (jW (i + 4)), jR jXS, jI (sx (jW (i + 3))), jI (sx (jW (i + 2))), jI (sx (jW (i + 1))), jR 74]) rfl (p1 := 2673) rfl ?_
  obtain ⟨g4, hf⟩ := jgd hf
  refine K_xald B hsx g4 (by decide +kernel) ?_
  obtain ⟨r2, h2, hf⟩ := jbd hf
  refine B_callV B (Nat.zero_le _) (μ' := r2.2) (k' := k + 3) (n' := n + 18) ca_X10_put in_X10_put se_X10_put lk_L_275 (t_X10_put B.tr h2) (Nat.le_refl _) (jRoom (K := 9000) (N := 90000) (by omega) (by omega) rfl) rfl rfl (rest := []) rfl rfl (Nat.le_of_ble_eq_true rfl) (by decide +kernel) rfl rfl (st' := [jI r2.1]) rfl ?_
  refine B_blk B (jlkn_ok RL) jcl_SKF [.istore 6, .aload_n 2] (by decide +kernel) (ls' := [(0, jR jXS), (1, jR 0), (2, jR 74), (3, jR 87), (4, jI i), (5, jI r1.1), (6, jI r2.1)]) (st' := [jR 74]) rfl (p1 := 2680) rfl ?_
  obtain ⟨r3, h3, hf⟩ := jbd hf
  refine B_callV B (Nat.zero_le _) (μ' := r2.2) (k' := k + 3) (n' := n + 18) ca_X10_thrown in_X10_thrown se_X10_thrown lk_L_174 (t_X10_thrown B.tr h3) (Nat.le_refl _) (jRoom (K := 9000) (N := 90000) (by omega) (by omega) rfl) rfl rfl (rest := []) rfl rfl (Nat.le_of_ble_eq_true rfl) (by decide +kernel) rfl rfl (st' := [jI r3]) rfl ?_
  refine B_blk B (jlkn_ok RL) jcl_SKF [.iload 5] (by decide +kernel) (ls' := [(0, jR jXS), (1, jR 0), (2, jR 74), (3, jR 87), (4, jI i), (5, jI r1.1), (6, jI r2.1)]) (st' := [jI r1.1, jI r3]) rfl (p1 := 2685) rfl ?_
  refine J_icmp_eq B.1 (off := 5) (tgt := 2690) (by decide +kernel) (by decide) hf (fun hf => ?_) (fun hf => ?_)
  · refine B_blk B (jlkn_ok RL) jcl_SKF [.iload 5] (by decide +kernel) (ls' := [(0, jR jXS), (1, jR 0), (2, jR 74), (3, jR 87), (4, jI i), (5, jI r1.1), (6, jI r2.1)]) (st' := [jI r1.1]) rfl (p1 := 2692) rfl ?_
    refine J_if_ne B.1 (off := 15) (tgt := 2707) (by decide +kernel) (by decide) hf (fun hf => ?_) (fun hf => ?_)
    · refine B_blk B (jlkn_ok RL) jcl_SKF [.aload_n 3, .iconst 0] (by decide +kernel) (ls' := [(0, jR jXS), (1, jR 0), (2, jR 74), (3, jR 87), (4, jI i), (5, jI r1.1), (6, jI r2.1)]) (st' := [jI 0, jR 87]) rfl (p1 := 2697) rfl ?_
      refine K_lald (lenI := 1) B rfl rfl (by decide) (by decide +kernel) ?_
      refine B_blk B (jlkn_ok RL) jcl_SKF [.iload 6, .i2l, .lcmp] (by decide +kernel) (ls' := [(0, jR jXS), (1, jR 0), (2, jR 74), (3, jR 87), (4, jI i), (5, jI r1.1), (6, jI r2.1)]) (st' := [jI (jCm (r2.2 87 0) r2.1)]) rfl (p1 := 2702) rfl ?_
      refine J_if_eq B.1 (off := 5) (tgt := 2707) (by decide +kernel) (by decide) hf (fun hf => ?_) (fun hf => ?_)
      · refine B_blk B (jlkn_ok RL) jcl_SKF [.goto 916] (by decide +kernel) (ls' := [(0, jR jXS), (1, jR 0), (2, jR 74), (3, jR 87), (4, jI i), (5, jI r1.1), (6, jI r2.1)]) (st' := []) rfl (p1 := 3623) rfl ?_
        refine J_pick [0, 1, 2, 3, 4] (ls' := [(0, jR jXS), (1, jR 0), (2, jR 74), (3, jR 87), (4, jI i)]) rfl ?_
        cases hf
        exact J_widen (by omega) (by omega) hx
      · refine B_blk B (jlkn_ok RL) jcl_SKF [.iconst 0] (by decide +kernel) (ls' := [(0, jR jXS), (1, jR 0), (2, jR 74), (3, jR 87), (4, jI i), (5, jI r1.1), (6, jI r2.1)]) (st' := [jI 0]) rfl (p1 := 2706) rfl ?_
        cases hf
    · refine B_blk B (jlkn_ok RL) jcl_SKF [.goto 916] (by decide +kernel) (ls' := [(0, jR jXS), (1, jR 0), (2, jR 74), (3, jR 87), (4, jI i), (5, jI r1.1), (6, jI r2.1)]) (st' := []) rfl (p1 := 3623) rfl ?_
      refine J_pick [0, 1, 2, 3, 4] (ls' := [(0, jR jXS), (1, jR 0), (2, jR 74), (3, jR 87), (4, jI i)]) rfl ?_
      cases hf
      exact J_widen (by omega) (by omega) hx
  · refine B_blk B (jlkn_ok RL) jcl_SKF [.iconst 0] (by decide +kernel) (ls' := [(0, jR jXS), (1, jR 0), (2, jR 74), (3, jR 87), (4, jI i), (5, jI r1.1), (6, jI r2.1)]) (st' := [jI 0]) rfl (p1 := 2689) rfl ?_
    cases hf

def f_case_32 (sx : Int → Int) (L i : Int) (m : jMu) : Option jMu :=
  (if 0 ≤ jW (i + 1) ∧ jW (i + 1) < L then (if 0 ≤ jW (i + 2) ∧ jW (i + 2) < L then (if 0 ≤ jW (i + 3) ∧ jW (i + 3) < L then (f_L_cost (sx (jW (i + 1))) (sx (jW (i + 2))) (sx (jW (i + 3))) m).bind fun r1 => (if 0 ≤ jW (i + 1) ∧ jW (i + 1) < L then (if 0 ≤ jW (i + 2) ∧ jW (i + 2) < L then (if 0 ≤ jW (i + 3) ∧ jW (i + 3) < L then (f_X10_cost (sx (jW (i + 1))) (sx (jW (i + 2))) (sx (jW (i + 3))) r1.2).bind fun r2 => (f_X10_thrown r2).bind fun r3 => (if r3 = r1.1 then some r2 else none) else none) else none) else none) else none) else none) else none)
theorem t_case_32 {X : jX} {L : Int} {sx : Int → Int} (hsx : jsx (xG X) L sx) (B : jB X cL_law RL 8 0 room_1 (some .boolean)) {k n : Nat} (hk : k ≤ 8900) (hn : n ≤ 89000) {i : Int} {m o : jMu} (hf : f_case_32 sx L i m = some o) (hx : J X SKF o (k + 5) (n + 30) 3623 [(0, jR jXS), (1, jR 0), (2, jR 74), (3, jR 87), (4, jI i)] []) : J X SKF m k n 2710 [(0, jR jXS), (1, jR 0), (2, jR 74), (3, jR 87), (4, jI i)] [] := by
  unfold f_case_32 at hf
  refine B_blk B (jlkn_ok RL) jcl_SKF [.aload_n 1, .aload_n 0, .iload 4, .iconst 1, .iadd] (by decide +kernel) (ls' := [(0, jR jXS), (1, jR 0), (2, jR 74), (3, jR 87), (4, jI i)]) (st' := [jI (jW (i + 1)), jR jXS, jR 0]) rfl (p1 := 2716) rfl ?_
  obtain ⟨g9, hf⟩ := jgd hf
  refine K_xald B hsx g9 (by decide +kernel) ?_
  refine B_blk B (jlkn_ok RL) jcl_SKF [.aload_n 0, .iload 4, .iconst 2, .iadd] (by decide +kernel) (ls' := [(0, jR jXS), (1, jR 0), (2, jR 74), (3, jR 87), (4, jI i)]) (st' := [jI (jW (i + 2)), jR jXS, jI (sx (jW (i + 1))), jR 0]) rfl (p1 := 2722) rfl ?_
  obtain ⟨g8, hf⟩ := jgd hf
  refine K_xald B hsx g8 (by decide +kernel) ?_
  refine B_blk B (jlkn_ok RL) jcl_SKF [.aload_n 0, .iload 4, .iconst 3, .iadd] (by decide +kernel) (ls' := [(0, jR jXS), (1, jR 0), (2, jR 74), (3, jR 87), (4, jI i)]) (st' := [jI (jW (i + 3)), jR jXS, jI (sx (jW (i + 2))), jI (sx (jW (i + 1))), jR 0]) rfl (p1 := 2728) rfl ?_
  obtain ⟨g7, hf⟩ := jgd hf
  refine K_xald B hsx g7 (by decide +kernel) ?_
  obtain ⟨r1, h1, hf⟩ := jbd hf
  refine B_callH B (Nat.zero_le _) (μ' := r1.2) (k' := k + 2) (n' := n + 12) ca_L_cost sa_L_cost lk_L_276 (t_L_cost B.tr h1) (Nat.le_refl _) (jRoom (K := 9000) (N := 90000) (by omega) (by omega) rfl) (rest := []) rfl rfl (Nat.le_of_ble_eq_true rfl) (by decide +kernel) rfl rfl (st' := [jI r1.1]) rfl ?_
  refine B_blk B (jlkn_ok RL) jcl_SKF [.istore 5, .aload_n 2, .aload_n 0, .iload 4, .iconst 1, .iadd] (by decide +kernel) (ls' := [(0, jR jXS), (1, jR 0), (2, jR 74), (3, jR 87), (4, jI i), (5, jI r1.1)]) (st' := [jI (jW (i + 1)), jR jXS, jR 74]) rfl (p1 := 2740) rfl ?_
  obtain ⟨g6, hf⟩ := jgd hf
  refine K_xald B hsx g6 (by decide +kernel) ?_
  refine B_blk B (jlkn_ok RL) jcl_SKF [.aload_n 0, .iload 4, .iconst 2, .iadd] (by decide +kernel) (ls' := [(0, jR jXS), (1, jR 0), (2, jR 74), (3, jR 87), (4, jI i), (5, jI r1.1)]) (st' := [jI (jW (i + 2)), jR jXS, jI (sx (jW (i + 1))), jR 74]) rfl (p1 := 2746) rfl ?_
  obtain ⟨g5, hf⟩ := jgd hf
  refine K_xald B hsx g5 (by decide +kernel) ?_
  refine B_blk B (jlkn_ok RL) jcl_SKF [.aload_n 0, .iload 4, .iconst 3, .iadd] (by decide +kernel) (ls' := [(0, jR jXS), (1, jR 0), (2, jR 74), (3, jR 87), (4, jI i), (5, jI r1.1)]) (st' := [jI (jW (i + 3)), jR jXS, jI (sx (jW (i + 2))), jI (sx (jW (i + 1))), jR 74]) rfl (p1 := 2752) rfl ?_
  obtain ⟨g4, hf⟩ := jgd hf
  refine K_xald B hsx g4 (by decide +kernel) ?_
  obtain ⟨r2, h2, hf⟩ := jbd hf
  refine B_callV B (Nat.zero_le _) (μ' := r2) (k' := k + 2) (n' := n + 12) ca_X10_cost in_X10_cost se_X10_cost lk_L_278 (t_X10_cost B.tr h2) (Nat.le_refl _) (jRoom (K := 9000) (N := 90000) (by omega) (by omega) rfl) rfl rfl (rest := []) rfl rfl (Nat.le_of_ble_eq_true rfl) (by decide +kernel) rfl rfl (st' := []) rfl ?_
  refine B_blk B (jlkn_ok RL) jcl_SKF [.aload_n 2] (by decide +kernel) (ls' := [(0, jR jXS), (1, jR 0), (2, jR 74), (3, jR 87), (4, jI i), (5, jI r1.1)]) (st' := [jR 74]) rfl (p1 := 2757) rfl ?_
  obtain ⟨r3, h3, hf⟩ := jbd hf
  refine B_callV B (Nat.zero_le _) (μ' := r2) (k' := k + 2) (n' := n + 12) ca_X10_thrown in_X10_thrown se_X10_thrown lk_L_174 (t_X10_thrown B.tr h3) (Nat.le_refl _) (jRoom (K := 9000) (N := 90000) (by omega) (by omega) rfl) rfl rfl (rest := []) rfl rfl (Nat.le_of_ble_eq_true rfl) (by decide +kernel) rfl rfl (st' := [jI r3]) rfl ?_
  refine B_blk B (jlkn_ok RL) jcl_SKF [.iload 5] (by decide +kernel) (ls' := [(0, jR jXS), (1, jR 0), (2, jR 74), (3, jR 87), (4, jI i), (5, jI r1.1)]) (st' := [jI r1.1, jI r3]) rfl (p1 := 2762) rfl ?_
  refine J_icmp_eq B.1 (off := 5) (tgt := 2767) (by decide +kernel) (by decide) hf (fun hf => ?_) (fun hf => ?_)
  · refine B_blk B (jlkn_ok RL) jcl_SKF [.goto 856] (by decide +kernel) (ls' := [(0, jR jXS), (1, jR 0), (2, jR 74), (3, jR 87), (4, jI i), (5, jI r1.1)]) (st' := []) rfl (p1 := 3623) rfl ?_
    refine J_pick [0, 1, 2, 3, 4] (ls' := [(0, jR jXS), (1, jR 0), (2, jR 74), (3, jR 87), (4, jI i)]) rfl ?_
    cases hf
    exact J_widen (by omega) (by omega) hx
  · refine B_blk B (jlkn_ok RL) jcl_SKF [.iconst 0] (by decide +kernel) (ls' := [(0, jR jXS), (1, jR 0), (2, jR 74), (3, jR 87), (4, jI i), (5, jI r1.1)]) (st' := [jI 0]) rfl (p1 := 2766) rfl ?_
    cases hf

def f_case_33 (sx : Int → Int) (L i : Int) (m : jMu) : Option jMu :=
  (if 0 ≤ jW (i + 1) ∧ jW (i + 1) < L then (if 0 ≤ jW (i + 2) ∧ jW (i + 2) < L then (if 0 ≤ jW (i + 3) ∧ jW (i + 3) < L then (if 0 ≤ jW (i + 4) ∧ jW (i + 4) < L then (f_L_wear (sx (jW (i + 1))) (sx (jW (i + 2))) (sx (jW (i + 3))) (sx (jW (i + 4))) m).bind fun r1 => (if 0 ≤ jW (i + 1) ∧ jW (i + 1) < L then (if 0 ≤ jW (i + 2) ∧ jW (i + 2) < L then (if 0 ≤ jW (i + 3) ∧ jW (i + 3) < L then (if 0 ≤ jW (i + 4) ∧ jW (i + 4) < L then (f_X10_wear (sx (jW (i + 1))) (sx (jW (i + 2))) (sx (jW (i + 3))) (sx (jW (i + 4))) r1.2).bind fun r2 => (f_X10_thrown r2).bind fun r3 => (if r3 = r1.1 then some r2 else none) else none) else none) else none) else none) else none) else none) else none) else none)
theorem t_case_33 {X : jX} {L : Int} {sx : Int → Int} (hsx : jsx (xG X) L sx) (B : jB X cL_law RL 8 0 room_1 (some .boolean)) {k n : Nat} (hk : k ≤ 8900) (hn : n ≤ 89000) {i : Int} {m o : jMu} (hf : f_case_33 sx L i m = some o) (hx : J X SKF o (k + 5) (n + 30) 3623 [(0, jR jXS), (1, jR 0), (2, jR 74), (3, jR 87), (4, jI i)] []) : J X SKF m k n 2770 [(0, jR jXS), (1, jR 0), (2, jR 74), (3, jR 87), (4, jI i)] [] := by
  unfold f_case_33 at hf
  refine B_blk B (jlkn_ok RL) jcl_SKF [.aload_n 1, .aload_n 0, .iload 4, .iconst 1, .iadd] (by decide +kernel) (ls' := [(0, jR jXS), (1, jR 0), (2, jR 74), (3, jR 87), (4, jI i)]) (st' := [jI (jW (i + 1)), jR jXS, jR 0]) rfl (p1 := 2776) rfl ?_
  obtain ⟨g11, hf⟩ := jgd hf
  refine K_xald B hsx g11 (by decide +kernel) ?_
  refine B_blk B (jlkn_ok RL) jcl_SKF [.aload_n 0, .iload 4, .iconst 2, .iadd] (by decide +kernel) (ls' := [(0, jR jXS), (1, jR 0), (2, jR 74), (3, jR 87), (4, jI i)]) (st' := [jI (jW (i + 2)), jR jXS, jI (sx (jW (i + 1))), jR 0]) rfl (p1 := 2782) rfl ?_
  obtain ⟨g10, hf⟩ := jgd hf
  refine K_xald B hsx g10 (by decide +kernel) ?_
  refine B_blk B (jlkn_ok RL) jcl_SKF [.aload_n 0, .iload 4, .iconst 3, .iadd] (by decide +kernel) (ls' := [(0, jR jXS), (1, jR 0), (2, jR 74), (3, jR 87), (4, jI i)]) (st' := [jI (jW (i + 3)), jR jXS, jI (sx (jW (i + 2))), jI (sx (jW (i + 1))), jR 0]) rfl (p1 := 2788) rfl ?_
  obtain ⟨g9, hf⟩ := jgd hf
  refine K_xald B hsx g9 (by decide +kernel) ?_
  refine B_blk B (jlkn_ok RL) jcl_SKF [.aload_n 0, .iload 4, .iconst 4, .iadd] (by decide +kernel) (ls' := [(0, jR jXS), (1, jR 0), (2, jR 74), (3, jR 87), (4, jI i)]) (st' := [jI (jW (i + 4)), jR jXS, jI (sx (jW (i + 3))), jI (sx (jW (i + 2))), jI (sx (jW (i + 1))), jR 0]) rfl (p1 := 2794) rfl ?_
  obtain ⟨g8, hf⟩ := jgd hf
  refine K_xald B hsx g8 (by decide +kernel) ?_
  obtain ⟨r1, h1, hf⟩ := jbd hf
  refine B_callH B (Nat.zero_le _) (μ' := r1.2) (k' := k + 2) (n' := n + 12) ca_L_wear sa_L_wear lk_L_279 (t_L_wear B.tr h1) (Nat.le_refl _) (jRoom (K := 9000) (N := 90000) (by omega) (by omega) rfl) (rest := []) rfl rfl (Nat.le_of_ble_eq_true rfl) (by decide +kernel) rfl rfl (st' := [jI r1.1]) rfl ?_
  refine B_blk B (jlkn_ok RL) jcl_SKF [.istore 5, .aload_n 2, .aload_n 0, .iload 4, .iconst 1, .iadd] (by decide +kernel) (ls' := [(0, jR jXS), (1, jR 0), (2, jR 74), (3, jR 87), (4, jI i), (5, jI r1.1)]) (st' := [jI (jW (i + 1)), jR jXS, jR 74]) rfl (p1 := 2806) rfl ?_
  obtain ⟨g7, hf⟩ := jgd hf
  refine K_xald B hsx g7 (by decide +kernel) ?_
  refine B_blk B (jlkn_ok RL) jcl_SKF [.aload_n 0, .iload 4, .iconst 2, .iadd] (by decide +kernel) (ls' := [(0, jR jXS), (1, jR 0), (2, jR 74), (3, jR 87), (4, jI i), (5, jI r1.1)]) (st' := [jI (jW (i + 2)), jR jXS, jI (sx (jW (i + 1))), jR 74]) rfl (p1 := 2812) rfl ?_
  obtain ⟨g6, hf⟩ := jgd hf
  refine K_xald B hsx g6 (by decide +kernel) ?_
  refine B_blk B (jlkn_ok RL) jcl_SKF [.aload_n 0, .iload 4, .iconst 3, .iadd] (by decide +kernel) (ls' := [(0, jR jXS), (1, jR 0), (2, jR 74), (3, jR 87), (4, jI i), (5, jI r1.1)]) (st' := [jI (jW (i + 3)), jR jXS, jI (sx (jW (i + 2))), jI (sx (jW (i + 1))), jR 74]) rfl (p1 := 2818) rfl ?_
  obtain ⟨g5, hf⟩ := jgd hf
  refine K_xald B hsx g5 (by decide +kernel) ?_
  refine B_blk B (jlkn_ok RL) jcl_SKF [.aload_n 0, .iload 4, .iconst 4, .iadd] (by decide +kernel) (ls' := [(0, jR jXS), (1, jR 0), (2, jR 74), (3, jR 87), (4, jI i), (5, jI r1.1)]) (st' := [jI (jW (i + 4)), jR jXS, jI (sx (jW (i + 3))), jI (sx (jW (i + 2))), jI (sx (jW (i + 1))), jR 74]) rfl (p1 := 2824) rfl ?_
  obtain ⟨g4, hf⟩ := jgd hf
  refine K_xald B hsx g4 (by decide +kernel) ?_
  obtain ⟨r2, h2, hf⟩ := jbd hf
  refine B_callV B (Nat.zero_le _) (μ' := r2) (k' := k + 2) (n' := n + 12) ca_X10_wear in_X10_wear se_X10_wear lk_L_282 (t_X10_wear B.tr h2) (Nat.le_refl _) (jRoom (K := 9000) (N := 90000) (by omega) (by omega) rfl) rfl rfl (rest := []) rfl rfl (Nat.le_of_ble_eq_true rfl) (by decide +kernel) rfl rfl (st' := []) rfl ?_
  refine B_blk B (jlkn_ok RL) jcl_SKF [.aload_n 2] (by decide +kernel) (ls' := [(0, jR jXS), (1, jR 0), (2, jR 74), (3, jR 87), (4, jI i), (5, jI r1.1)]) (st' := [jR 74]) rfl (p1 := 2829) rfl ?_
  obtain ⟨r3, h3, hf⟩ := jbd hf
  refine B_callV B (Nat.zero_le _) (μ' := r2) (k' := k + 2) (n' := n + 12) ca_X10_thrown in_X10_thrown se_X10_thrown lk_L_174 (t_X10_thrown B.tr h3) (Nat.le_refl _) (jRoom (K := 9000) (N := 90000) (by omega) (by omega) rfl) rfl rfl (rest := []) rfl rfl (Nat.le_of_ble_eq_true rfl) (by decide +kernel) rfl rfl (st' := [jI r3]) rfl ?_
  refine B_blk B (jlkn_ok RL) jcl_SKF [.iload 5] (by decide +kernel) (ls' := [(0, jR jXS), (1, jR 0), (2, jR 74), (3, jR 87), (4, jI i), (5, jI r1.1)]) (st' := [jI r1.1, jI r3]) rfl (p1 := 2834) rfl ?_
  refine J_icmp_eq B.1 (off := 5) (tgt := 2839) (by decide +kernel) (by decide) hf (fun hf => ?_) (fun hf => ?_)
  · refine B_blk B (jlkn_ok RL) jcl_SKF [.goto 784] (by decide +kernel) (ls' := [(0, jR jXS), (1, jR 0), (2, jR 74), (3, jR 87), (4, jI i), (5, jI r1.1)]) (st' := []) rfl (p1 := 3623) rfl ?_
    refine J_pick [0, 1, 2, 3, 4] (ls' := [(0, jR jXS), (1, jR 0), (2, jR 74), (3, jR 87), (4, jI i)]) rfl ?_
    cases hf
    exact J_widen (by omega) (by omega) hx
  · refine B_blk B (jlkn_ok RL) jcl_SKF [.iconst 0] (by decide +kernel) (ls' := [(0, jR jXS), (1, jR 0), (2, jR 74), (3, jR 87), (4, jI i), (5, jI r1.1)]) (st' := [jI 0]) rfl (p1 := 2838) rfl ?_
    cases hf

def f_case_34 (sx : Int → Int) (L i : Int) (m : jMu) : Option jMu :=
  (if 0 ≤ jW (i + 1) ∧ jW (i + 1) < L then (if 0 ≤ jW (i + 2) ∧ jW (i + 2) < L then (f_L_spent (sx (jW (i + 1))) (sx (jW (i + 2))) m).bind fun r1 => (if 0 ≤ jW (i + 1) ∧ jW (i + 1) < L then (if 0 ≤ jW (i + 2) ∧ jW (i + 2) < L then (f_X10_spent (sx (jW (i + 1))) (sx (jW (i + 2))) r1.2).bind fun r2 => (f_X10_thrown r2.2).bind fun r3 => (if r3 = r1.1 then (if r1.1 = 0 then (if jCm (r2.2 87 0) r2.1 = 0 then some r2.2 else none) else some r2.2) else none) else none) else none) else none) else none)
theorem t_case_34 {X : jX} {L : Int} {sx : Int → Int} (hsx : jsx (xG X) L sx) (B : jB X cL_law RL 8 0 room_1 (some .boolean)) {k n : Nat} (hk : k ≤ 8900) (hn : n ≤ 89000) {i : Int} {m o : jMu} (hf : f_case_34 sx L i m = some o) (hx : J X SKF o (k + 5) (n + 30) 3623 [(0, jR jXS), (1, jR 0), (2, jR 74), (3, jR 87), (4, jI i)] []) : J X SKF m k n 2842 [(0, jR jXS), (1, jR 0), (2, jR 74), (3, jR 87), (4, jI i)] [] := by
  unfold f_case_34 at hf
  refine B_blk B (jlkn_ok RL) jcl_SKF [.aload_n 1, .aload_n 0, .iload 4, .iconst 1, .iadd] (by decide +kernel) (ls' := [(0, jR jXS), (1, jR 0), (2, jR 74), (3, jR 87), (4, jI i)]) (st' := [jI (jW (i + 1)), jR jXS, jR 0]) rfl (p1 := 2848) rfl ?_
  obtain ⟨g7, hf⟩ := jgd hf
  refine K_xald B hsx g7 (by decide +kernel) ?_
  refine B_blk B (jlkn_ok RL) jcl_SKF [.aload_n 0, .iload 4, .iconst 2, .iadd] (by decide +kernel) (ls' := [(0, jR jXS), (1, jR 0), (2, jR 74), (3, jR 87), (4, jI i)]) (st' := [jI (jW (i + 2)), jR jXS, jI (sx (jW (i + 1))), jR 0]) rfl (p1 := 2854) rfl ?_
  obtain ⟨g6, hf⟩ := jgd hf
  refine K_xald B hsx g6 (by decide +kernel) ?_
  refine B_blk B (jlkn_ok RL) jcl_SKF [.aload_n 3] (by decide +kernel) (ls' := [(0, jR jXS), (1, jR 0), (2, jR 74), (3, jR 87), (4, jI i)]) (st' := [jR 87, jI (sx (jW (i + 2))), jI (sx (jW (i + 1))), jR 0]) rfl (p1 := 2856) rfl ?_
  obtain ⟨r1, h1, hf⟩ := jbd hf
  refine B_callH B (Nat.zero_le _) (μ' := r1.2) (k' := k + 2) (n' := n + 12) ca_L_spent sa_L_spent lk_L_283 (t_L_spent B.tr h1) (Nat.le_refl _) (jRoom (K := 9000) (N := 90000) (by omega) (by omega) rfl) (rest := []) rfl rfl (Nat.le_of_ble_eq_true rfl) (by decide +kernel) rfl rfl (st' := [jI r1.1]) rfl ?_
  refine B_blk B (jlkn_ok RL) jcl_SKF [.istore 5, .aload_n 2, .aload_n 0, .iload 4, .iconst 1, .iadd] (by decide +kernel) (ls' := [(0, jR jXS), (1, jR 0), (2, jR 74), (3, jR 87), (4, jI i), (5, jI r1.1)]) (st' := [jI (jW (i + 1)), jR jXS, jR 74]) rfl (p1 := 2867) rfl ?_
  obtain ⟨g5, hf⟩ := jgd hf
  refine K_xald B hsx g5 (by decide +kernel) ?_
  refine B_blk B (jlkn_ok RL) jcl_SKF [.aload_n 0, .iload 4, .iconst 2, .iadd] (by decide +kernel) (ls' := [(0, jR jXS), (1, jR 0), (2, jR 74), (3, jR 87), (4, jI i), (5, jI r1.1)]) (st' := [jI (jW (i + 2)), jR jXS, jI (sx (jW (i + 1))), jR 74]) rfl (p1 := 2873) rfl ?_
  obtain ⟨g4, hf⟩ := jgd hf
  refine K_xald B hsx g4 (by decide +kernel) ?_
  obtain ⟨r2, h2, hf⟩ := jbd hf
  refine B_callV B (Nat.zero_le _) (μ' := r2.2) (k' := k + 2) (n' := n + 12) ca_X10_spent in_X10_spent se_X10_spent lk_L_285 (t_X10_spent B.tr h2) (Nat.le_refl _) (jRoom (K := 9000) (N := 90000) (by omega) (by omega) rfl) rfl rfl (rest := []) rfl rfl (Nat.le_of_ble_eq_true rfl) (by decide +kernel) rfl rfl (st' := [jI r2.1]) rfl ?_
  refine B_blk B (jlkn_ok RL) jcl_SKF [.istore 6, .aload_n 2] (by decide +kernel) (ls' := [(0, jR jXS), (1, jR 0), (2, jR 74), (3, jR 87), (4, jI i), (5, jI r1.1), (6, jI r2.1)]) (st' := [jR 74]) rfl (p1 := 2880) rfl ?_
  obtain ⟨r3, h3, hf⟩ := jbd hf
  refine B_callV B (Nat.zero_le _) (μ' := r2.2) (k' := k + 2) (n' := n + 12) ca_X10_thrown in_X10_thrown se_X10_thrown lk_L_174 (t_X10_thrown B.tr h3) (Nat.le_refl _) (jRoom (K := 9000) (N := 90000) (by omega) (by omega) rfl) rfl rfl (rest := []) rfl rfl (Nat.le_of_ble_eq_true rfl) (by decide +kernel) rfl rfl (st' := [jI r3]) rfl ?_
  refine B_blk B (jlkn_ok RL) jcl_SKF [.iload 5] (by decide +kernel) (ls' := [(0, jR jXS), (1, jR 0), (2, jR 74), (3, jR 87), (4, jI i), (5, jI r1.1), (6, jI r2.1)]) (st' := [jI r1.1, jI r3]) rfl (p1 := 2885) rfl ?_
  refine J_icmp_eq B.1 (off := 5) (tgt := 2890) (by decide +kernel) (by decide) hf (fun hf => ?_) (fun hf => ?_)
  · refine B_blk B (jlkn_ok RL) jcl_SKF [.iload 5] (by decide +kernel) (ls' := [(0, jR jXS), (1, jR 0), (2, jR 74), (3, jR 87), (4, jI i), (5, jI r1.1), (6, jI r2.1)]) (st' := [jI r1.1]) rfl (p1 := 2892) rfl ?_
    refine J_if_ne B.1 (off := 15) (tgt := 2907) (by decide +kernel) (by decide) hf (fun hf => ?_) (fun hf => ?_)
    · refine B_blk B (jlkn_ok RL) jcl_SKF [.aload_n 3, .iconst 0] (by decide +kernel) (ls' := [(0, jR jXS), (1, jR 0), (2, jR 74), (3, jR 87), (4, jI i), (5, jI r1.1), (6, jI r2.1)]) (st' := [jI 0, jR 87]) rfl (p1 := 2897) rfl ?_
      refine K_lald (lenI := 1) B rfl rfl (by decide) (by decide +kernel) ?_
      refine B_blk B (jlkn_ok RL) jcl_SKF [.iload 6, .i2l, .lcmp] (by decide +kernel) (ls' := [(0, jR jXS), (1, jR 0), (2, jR 74), (3, jR 87), (4, jI i), (5, jI r1.1), (6, jI r2.1)]) (st' := [jI (jCm (r2.2 87 0) r2.1)]) rfl (p1 := 2902) rfl ?_
      refine J_if_eq B.1 (off := 5) (tgt := 2907) (by decide +kernel) (by decide) hf (fun hf => ?_) (fun hf => ?_)
      · refine B_blk B (jlkn_ok RL) jcl_SKF [.goto 716] (by decide +kernel) (ls' := [(0, jR jXS), (1, jR 0), (2, jR 74), (3, jR 87), (4, jI i), (5, jI r1.1), (6, jI r2.1)]) (st' := []) rfl (p1 := 3623) rfl ?_
        refine J_pick [0, 1, 2, 3, 4] (ls' := [(0, jR jXS), (1, jR 0), (2, jR 74), (3, jR 87), (4, jI i)]) rfl ?_
        cases hf
        exact J_widen (by omega) (by omega) hx
      · refine B_blk B (jlkn_ok RL) jcl_SKF [.iconst 0] (by decide +kernel) (ls' := [(0, jR jXS), (1, jR 0), (2, jR 74), (3, jR 87), (4, jI i), (5, jI r1.1), (6, jI r2.1)]) (st' := [jI 0]) rfl (p1 := 2906) rfl ?_
        cases hf
    · refine B_blk B (jlkn_ok RL) jcl_SKF [.goto 716] (by decide +kernel) (ls' := [(0, jR jXS), (1, jR 0), (2, jR 74), (3, jR 87), (4, jI i), (5, jI r1.1), (6, jI r2.1)]) (st' := []) rfl (p1 := 3623) rfl ?_
      refine J_pick [0, 1, 2, 3, 4] (ls' := [(0, jR jXS), (1, jR 0), (2, jR 74), (3, jR 87), (4, jI i)]) rfl ?_
      cases hf
      exact J_widen (by omega) (by omega) hx
  · refine B_blk B (jlkn_ok RL) jcl_SKF [.iconst 0] (by decide +kernel) (ls' := [(0, jR jXS), (1, jR 0), (2, jR 74), (3, jR 87), (4, jI i), (5, jI r1.1), (6, jI r2.1)]) (st' := [jI 0]) rfl (p1 := 2889) rfl ?_
    cases hf

def f_case_35 (sx : Int → Int) (L i : Int) (m : jMu) : Option jMu :=
  (if 0 ≤ jW (i + 1) ∧ jW (i + 1) < L then (if 0 ≤ jW (i + 2) ∧ jW (i + 2) < L then (if 0 ≤ jW (i + 3) ∧ jW (i + 3) < L then (f_L_promise (sx (jW (i + 1))) (sx (jW (i + 2))) (sx (jW (i + 3))) m).bind fun r1 => (if 0 ≤ jW (i + 1) ∧ jW (i + 1) < L then (if 0 ≤ jW (i + 2) ∧ jW (i + 2) < L then (if 0 ≤ jW (i + 3) ∧ jW (i + 3) < L then (f_X10_promise (sx (jW (i + 1))) (sx (jW (i + 2))) (sx (jW (i + 3))) r1.2).bind fun r2 => (f_X10_thrown r2.2).bind fun r3 => (if r3 = r1.1 then (if r1.1 = 0 then (if jCm (r2.2 87 0) r2.1 = 0 then some r2.2 else none) else some r2.2) else none) else none) else none) else none) else none) else none) else none)
theorem t_case_35 {X : jX} {L : Int} {sx : Int → Int} (hsx : jsx (xG X) L sx) (B : jB X cL_law RL 8 0 room_1 (some .boolean)) {k n : Nat} (hk : k ≤ 8900) (hn : n ≤ 89000) {i : Int} {m o : jMu} (hf : f_case_35 sx L i m = some o) (hx : J X SKF o (k + 5) (n + 30) 3623 [(0, jR jXS), (1, jR 0), (2, jR 74), (3, jR 87), (4, jI i)] []) : J X SKF m k n 2910 [(0, jR jXS), (1, jR 0), (2, jR 74), (3, jR 87), (4, jI i)] [] := by
  unfold f_case_35 at hf
  refine B_blk B (jlkn_ok RL) jcl_SKF [.aload_n 1, .aload_n 0, .iload 4, .iconst 1, .iadd] (by decide +kernel) (ls' := [(0, jR jXS), (1, jR 0), (2, jR 74), (3, jR 87), (4, jI i)]) (st' := [jI (jW (i + 1)), jR jXS, jR 0]) rfl (p1 := 2916) rfl ?_
  obtain ⟨g9, hf⟩ := jgd hf
  refine K_xald B hsx g9 (by decide +kernel) ?_
  refine B_blk B (jlkn_ok RL) jcl_SKF [.aload_n 0, .iload 4, .iconst 2, .iadd] (by decide +kernel) (ls' := [(0, jR jXS), (1, jR 0), (2, jR 74), (3, jR 87), (4, jI i)]) (st' := [jI (jW (i + 2)), jR jXS, jI (sx (jW (i + 1))), jR 0]) rfl (p1 := 2922) rfl ?_
  obtain ⟨g8, hf⟩ := jgd hf
  refine K_xald B hsx g8 (by decide +kernel) ?_
  refine B_blk B (jlkn_ok RL) jcl_SKF [.aload_n 0, .iload 4, .iconst 3, .iadd] (by decide +kernel) (ls' := [(0, jR jXS), (1, jR 0), (2, jR 74), (3, jR 87), (4, jI i)]) (st' := [jI (jW (i + 3)), jR jXS, jI (sx (jW (i + 2))), jI (sx (jW (i + 1))), jR 0]) rfl (p1 := 2928) rfl ?_
  obtain ⟨g7, hf⟩ := jgd hf
  refine K_xald B hsx g7 (by decide +kernel) ?_
  refine B_blk B (jlkn_ok RL) jcl_SKF [.aload_n 3] (by decide +kernel) (ls' := [(0, jR jXS), (1, jR 0), (2, jR 74), (3, jR 87), (4, jI i)]) (st' := [jR 87, jI (sx (jW (i + 3))), jI (sx (jW (i + 2))), jI (sx (jW (i + 1))), jR 0]) rfl (p1 := 2930) rfl ?_
  obtain ⟨r1, h1, hf⟩ := jbd hf
  refine B_callH B (Nat.zero_le _) (μ' := r1.2) (k' := k + 1) (n' := n + 6) ca_L_promise sa_L_promise lk_L_286 (t_L_promise B.tr h1) (Nat.le_refl _) (jRoom (K := 9000) (N := 90000) (by omega) (by omega) rfl) (rest := []) rfl rfl (Nat.le_of_ble_eq_true rfl) (by decide +kernel) rfl rfl (st' := [jI r1.1]) rfl ?_
  refine B_blk B (jlkn_ok RL) jcl_SKF [.istore 5, .aload_n 2, .aload_n 0, .iload 4, .iconst 1, .iadd] (by decide +kernel) (ls' := [(0, jR jXS), (1, jR 0), (2, jR 74), (3, jR 87), (4, jI i), (5, jI r1.1)]) (st' := [jI (jW (i + 1)), jR jXS, jR 74]) rfl (p1 := 2941) rfl ?_
  obtain ⟨g6, hf⟩ := jgd hf
  refine K_xald B hsx g6 (by decide +kernel) ?_
  refine B_blk B (jlkn_ok RL) jcl_SKF [.aload_n 0, .iload 4, .iconst 2, .iadd] (by decide +kernel) (ls' := [(0, jR jXS), (1, jR 0), (2, jR 74), (3, jR 87), (4, jI i), (5, jI r1.1)]) (st' := [jI (jW (i + 2)), jR jXS, jI (sx (jW (i + 1))), jR 74]) rfl (p1 := 2947) rfl ?_
  obtain ⟨g5, hf⟩ := jgd hf
  refine K_xald B hsx g5 (by decide +kernel) ?_
  refine B_blk B (jlkn_ok RL) jcl_SKF [.aload_n 0, .iload 4, .iconst 3, .iadd] (by decide +kernel) (ls' := [(0, jR jXS), (1, jR 0), (2, jR 74), (3, jR 87), (4, jI i), (5, jI r1.1)]) (st' := [jI (jW (i + 3)), jR jXS, jI (sx (jW (i + 2))), jI (sx (jW (i + 1))), jR 74]) rfl (p1 := 2953) rfl ?_
  obtain ⟨g4, hf⟩ := jgd hf
  refine K_xald B hsx g4 (by decide +kernel) ?_
  obtain ⟨r2, h2, hf⟩ := jbd hf
  refine B_callV B (Nat.zero_le _) (μ' := r2.2) (k' := k + 1) (n' := n + 6) ca_X10_promise in_X10_promise se_X10_promise lk_L_288 (t_X10_promise B.tr h2) (Nat.le_refl _) (jRoom (K := 9000) (N := 90000) (by omega) (by omega) rfl) rfl rfl (rest := []) rfl rfl (Nat.le_of_ble_eq_true rfl) (by decide +kernel) rfl rfl (st' := [jL r2.1]) rfl ?_
  refine B_blk B (jlkn_ok RL) jcl_SKF [.lstore 6, .aload_n 2] (by decide +kernel) (ls' := [(0, jR jXS), (1, jR 0), (2, jR 74), (3, jR 87), (4, jI i), (5, jI r1.1), (6, jL r2.1)]) (st' := [jR 74]) rfl (p1 := 2960) rfl ?_
  obtain ⟨r3, h3, hf⟩ := jbd hf
  refine B_callV B (Nat.zero_le _) (μ' := r2.2) (k' := k + 1) (n' := n + 6) ca_X10_thrown in_X10_thrown se_X10_thrown lk_L_174 (t_X10_thrown B.tr h3) (Nat.le_refl _) (jRoom (K := 9000) (N := 90000) (by omega) (by omega) rfl) rfl rfl (rest := []) rfl rfl (Nat.le_of_ble_eq_true rfl) (by decide +kernel) rfl rfl (st' := [jI r3]) rfl ?_
  refine B_blk B (jlkn_ok RL) jcl_SKF [.iload 5] (by decide +kernel) (ls' := [(0, jR jXS), (1, jR 0), (2, jR 74), (3, jR 87), (4, jI i), (5, jI r1.1), (6, jL r2.1)]) (st' := [jI r1.1, jI r3]) rfl (p1 := 2965) rfl ?_
  refine J_icmp_eq B.1 (off := 5) (tgt := 2970) (by decide +kernel) (by decide) hf (fun hf => ?_) (fun hf => ?_)
  · refine B_blk B (jlkn_ok RL) jcl_SKF [.iload 5] (by decide +kernel) (ls' := [(0, jR jXS), (1, jR 0), (2, jR 74), (3, jR 87), (4, jI i), (5, jI r1.1), (6, jL r2.1)]) (st' := [jI r1.1]) rfl (p1 := 2972) rfl ?_
    refine J_if_ne B.1 (off := 14) (tgt := 2986) (by decide +kernel) (by decide) hf (fun hf => ?_) (fun hf => ?_)
    · refine B_blk B (jlkn_ok RL) jcl_SKF [.aload_n 3, .iconst 0] (by decide +kernel) (ls' := [(0, jR jXS), (1, jR 0), (2, jR 74), (3, jR 87), (4, jI i), (5, jI r1.1), (6, jL r2.1)]) (st' := [jI 0, jR 87]) rfl (p1 := 2977) rfl ?_
      refine K_lald (lenI := 1) B rfl rfl (by decide) (by decide +kernel) ?_
      refine B_blk B (jlkn_ok RL) jcl_SKF [.lload 6, .lcmp] (by decide +kernel) (ls' := [(0, jR jXS), (1, jR 0), (2, jR 74), (3, jR 87), (4, jI i), (5, jI r1.1), (6, jL r2.1)]) (st' := [jI (jCm (r2.2 87 0) r2.1)]) rfl (p1 := 2981) rfl ?_
      refine J_if_eq B.1 (off := 5) (tgt := 2986) (by decide +kernel) (by decide) hf (fun hf => ?_) (fun hf => ?_)
      · refine B_blk B (jlkn_ok RL) jcl_SKF [.goto 637] (by decide +kernel) (ls' := [(0, jR jXS), (1, jR 0), (2, jR 74), (3, jR 87), (4, jI i), (5, jI r1.1), (6, jL r2.1)]) (st' := []) rfl (p1 := 3623) rfl ?_
        refine J_pick [0, 1, 2, 3, 4] (ls' := [(0, jR jXS), (1, jR 0), (2, jR 74), (3, jR 87), (4, jI i)]) rfl ?_
        cases hf
        exact J_widen (by omega) (by omega) hx
      · refine B_blk B (jlkn_ok RL) jcl_SKF [.iconst 0] (by decide +kernel) (ls' := [(0, jR jXS), (1, jR 0), (2, jR 74), (3, jR 87), (4, jI i), (5, jI r1.1), (6, jL r2.1)]) (st' := [jI 0]) rfl (p1 := 2985) rfl ?_
        cases hf
    · refine B_blk B (jlkn_ok RL) jcl_SKF [.goto 637] (by decide +kernel) (ls' := [(0, jR jXS), (1, jR 0), (2, jR 74), (3, jR 87), (4, jI i), (5, jI r1.1), (6, jL r2.1)]) (st' := []) rfl (p1 := 3623) rfl ?_
      refine J_pick [0, 1, 2, 3, 4] (ls' := [(0, jR jXS), (1, jR 0), (2, jR 74), (3, jR 87), (4, jI i)]) rfl ?_
      cases hf
      exact J_widen (by omega) (by omega) hx
  · refine B_blk B (jlkn_ok RL) jcl_SKF [.iconst 0] (by decide +kernel) (ls' := [(0, jR jXS), (1, jR 0), (2, jR 74), (3, jR 87), (4, jI i), (5, jI r1.1), (6, jL r2.1)]) (st' := [jI 0]) rfl (p1 := 2969) rfl ?_
    cases hf

def f_case_36 (sx : Int → Int) (L i : Int) (m : jMu) : Option jMu :=
  (if 0 ≤ jW (i + 1) ∧ jW (i + 1) < L then (if 0 ≤ jW (i + 2) ∧ jW (i + 2) < L then (if 0 ≤ jW (i + 3) ∧ jW (i + 3) < L then (if 0 ≤ jW (i + 4) ∧ jW (i + 4) < L then (f_L_edge (sx (jW (i + 1))) (sx (jW (i + 2))) (sx (jW (i + 3))) (sx (jW (i + 4))) m).bind fun r1 => (if 0 ≤ jW (i + 1) ∧ jW (i + 1) < L then (if 0 ≤ jW (i + 2) ∧ jW (i + 2) < L then (if 0 ≤ jW (i + 3) ∧ jW (i + 3) < L then (if 0 ≤ jW (i + 4) ∧ jW (i + 4) < L then (f_X10_edge (sx (jW (i + 1))) (sx (jW (i + 2))) (sx (jW (i + 3))) (sx (jW (i + 4))) r1.2).bind fun r2 => (f_X10_thrown r2.2).bind fun r3 => (if r3 = r1.1 then (if r1.1 = 0 then (if jCm (r2.2 87 0) r2.1 = 0 then some r2.2 else none) else some r2.2) else none) else none) else none) else none) else none) else none) else none) else none) else none)
theorem t_case_36 {X : jX} {L : Int} {sx : Int → Int} (hsx : jsx (xG X) L sx) (B : jB X cL_law RL 8 0 room_1 (some .boolean)) {k n : Nat} (hk : k ≤ 8900) (hn : n ≤ 89000) {i : Int} {m o : jMu} (hf : f_case_36 sx L i m = some o) (hx : J X SKF o (k + 5) (n + 30) 3623 [(0, jR jXS), (1, jR 0), (2, jR 74), (3, jR 87), (4, jI i)] []) : J X SKF m k n 2989 [(0, jR jXS), (1, jR 0), (2, jR 74), (3, jR 87), (4, jI i)] [] := by
  unfold f_case_36 at hf
  refine B_blk B (jlkn_ok RL) jcl_SKF [.aload_n 1, .aload_n 0, .iload 4, .iconst 1, .iadd] (by decide +kernel) (ls' := [(0, jR jXS), (1, jR 0), (2, jR 74), (3, jR 87), (4, jI i)]) (st' := [jI (jW (i + 1)), jR jXS, jR 0]) rfl (p1 := 2995) rfl ?_
  obtain ⟨g11, hf⟩ := jgd hf
  refine K_xald B hsx g11 (by decide +kernel) ?_
  refine B_blk B (jlkn_ok RL) jcl_SKF [.aload_n 0, .iload 4, .iconst 2, .iadd] (by decide +kernel) (ls' := [(0, jR jXS), (1, jR 0), (2, jR 74), (3, jR 87), (4, jI i)]) (st' := [jI (jW (i + 2)), jR jXS, jI (sx (jW (i + 1))), jR 0]) rfl (p1 := 3001) rfl ?_
  obtain ⟨g10, hf⟩ := jgd hf
  refine K_xald B hsx g10 (by decide +kernel) ?_
  refine B_blk B (jlkn_ok RL) jcl_SKF [.aload_n 0, .iload 4, .iconst 3, .iadd] (by decide +kernel) (ls' := [(0, jR jXS), (1, jR 0), (2, jR 74), (3, jR 87), (4, jI i)]) (st' := [jI (jW (i + 3)), jR jXS, jI (sx (jW (i + 2))), jI (sx (jW (i + 1))), jR 0]) rfl (p1 := 3007) rfl ?_
  obtain ⟨g9, hf⟩ := jgd hf
  refine K_xald B hsx g9 (by decide +kernel) ?_
  refine B_blk B (jlkn_ok RL) jcl_SKF [.aload_n 0, .iload 4, .iconst 4, .iadd] (by decide +kernel) (ls' := [(0, jR jXS), (1, jR 0), (2, jR 74), (3, jR 87), (4, jI i)]) (st' := [jI (jW (i + 4)), jR jXS, jI (sx (jW (i + 3))), jI (sx (jW (i + 2))), jI (sx (jW (i + 1))), jR 0]) rfl (p1 := 3013) rfl ?_
  obtain ⟨g8, hf⟩ := jgd hf
  refine K_xald B hsx g8 (by decide +kernel) ?_
  refine B_blk B (jlkn_ok RL) jcl_SKF [.aload_n 3] (by decide +kernel) (ls' := [(0, jR jXS), (1, jR 0), (2, jR 74), (3, jR 87), (4, jI i)]) (st' := [jR 87, jI (sx (jW (i + 4))), jI (sx (jW (i + 3))), jI (sx (jW (i + 2))), jI (sx (jW (i + 1))), jR 0]) rfl (p1 := 3015) rfl ?_
  obtain ⟨r1, h1, hf⟩ := jbd hf
  refine B_callH B (Nat.zero_le _) (μ' := r1.2) (k' := k + 2) (n' := n + 12) ca_L_edge sa_L_edge lk_L_289 (t_L_edge B.tr h1) (Nat.le_refl _) (jRoom (K := 9000) (N := 90000) (by omega) (by omega) rfl) (rest := []) rfl rfl (Nat.le_of_ble_eq_true rfl) (by decide +kernel) rfl rfl (st' := [jI r1.1]) rfl ?_
  refine B_blk B (jlkn_ok RL) jcl_SKF [.istore 5, .aload_n 2, .aload_n 0, .iload 4, .iconst 1, .iadd] (by decide +kernel) (ls' := [(0, jR jXS), (1, jR 0), (2, jR 74), (3, jR 87), (4, jI i), (5, jI r1.1)]) (st' := [jI (jW (i + 1)), jR jXS, jR 74]) rfl (p1 := 3026) rfl ?_
  obtain ⟨g7, hf⟩ := jgd hf
  refine K_xald B hsx g7 (by decide +kernel) ?_
  refine B_blk B (jlkn_ok RL) jcl_SKF [.aload_n 0, .iload 4, .iconst 2, .iadd] (by decide +kernel) (ls' := [(0, jR jXS), (1, jR 0), (2, jR 74), (3, jR 87), (4, jI i), (5, jI r1.1)]) (st' := [jI (jW (i + 2)), jR jXS, jI (sx (jW (i + 1))), jR 74]) rfl (p1 := 3032) rfl ?_
  obtain ⟨g6, hf⟩ := jgd hf
  refine K_xald B hsx g6 (by decide +kernel) ?_
  refine B_blk B (jlkn_ok RL) jcl_SKF [.aload_n 0, .iload 4, .iconst 3, .iadd] (by decide +kernel) (ls' := [(0, jR jXS), (1, jR 0), (2, jR 74), (3, jR 87), (4, jI i), (5, jI r1.1)]) (st' := [jI (jW (i + 3)), jR jXS, jI (sx (jW (i + 2))), jI (sx (jW (i + 1))), jR 74]) rfl (p1 := 3038) rfl ?_
  obtain ⟨g5, hf⟩ := jgd hf
  refine K_xald B hsx g5 (by decide +kernel) ?_
  refine B_blk B (jlkn_ok RL) jcl_SKF [.aload_n 0, .iload 4, .iconst 4, .iadd] (by decide +kernel) (ls' := [(0, jR jXS), (1, jR 0), (2, jR 74), (3, jR 87), (4, jI i), (5, jI r1.1)]) (st' := [jI (jW (i + 4)), jR jXS, jI (sx (jW (i + 3))), jI (sx (jW (i + 2))), jI (sx (jW (i + 1))), jR 74]) rfl (p1 := 3044) rfl ?_
  obtain ⟨g4, hf⟩ := jgd hf
  refine K_xald B hsx g4 (by decide +kernel) ?_
  obtain ⟨r2, h2, hf⟩ := jbd hf
  refine B_callV B (Nat.zero_le _) (μ' := r2.2) (k' := k + 2) (n' := n + 12) ca_X10_edge in_X10_edge se_X10_edge lk_L_291 (t_X10_edge B.tr h2) (Nat.le_refl _) (jRoom (K := 9000) (N := 90000) (by omega) (by omega) rfl) rfl rfl (rest := []) rfl rfl (Nat.le_of_ble_eq_true rfl) (by decide +kernel) rfl rfl (st' := [jI r2.1]) rfl ?_
  refine B_blk B (jlkn_ok RL) jcl_SKF [.istore 6, .aload_n 2] (by decide +kernel) (ls' := [(0, jR jXS), (1, jR 0), (2, jR 74), (3, jR 87), (4, jI i), (5, jI r1.1), (6, jI r2.1)]) (st' := [jR 74]) rfl (p1 := 3051) rfl ?_
  obtain ⟨r3, h3, hf⟩ := jbd hf
  refine B_callV B (Nat.zero_le _) (μ' := r2.2) (k' := k + 2) (n' := n + 12) ca_X10_thrown in_X10_thrown se_X10_thrown lk_L_174 (t_X10_thrown B.tr h3) (Nat.le_refl _) (jRoom (K := 9000) (N := 90000) (by omega) (by omega) rfl) rfl rfl (rest := []) rfl rfl (Nat.le_of_ble_eq_true rfl) (by decide +kernel) rfl rfl (st' := [jI r3]) rfl ?_
  refine B_blk B (jlkn_ok RL) jcl_SKF [.iload 5] (by decide +kernel) (ls' := [(0, jR jXS), (1, jR 0), (2, jR 74), (3, jR 87), (4, jI i), (5, jI r1.1), (6, jI r2.1)]) (st' := [jI r1.1, jI r3]) rfl (p1 := 3056) rfl ?_
  refine J_icmp_eq B.1 (off := 5) (tgt := 3061) (by decide +kernel) (by decide) hf (fun hf => ?_) (fun hf => ?_)
  · refine B_blk B (jlkn_ok RL) jcl_SKF [.iload 5] (by decide +kernel) (ls' := [(0, jR jXS), (1, jR 0), (2, jR 74), (3, jR 87), (4, jI i), (5, jI r1.1), (6, jI r2.1)]) (st' := [jI r1.1]) rfl (p1 := 3063) rfl ?_
    refine J_if_ne B.1 (off := 15) (tgt := 3078) (by decide +kernel) (by decide) hf (fun hf => ?_) (fun hf => ?_)
    · refine B_blk B (jlkn_ok RL) jcl_SKF [.aload_n 3, .iconst 0] (by decide +kernel) (ls' := [(0, jR jXS), (1, jR 0), (2, jR 74), (3, jR 87), (4, jI i), (5, jI r1.1), (6, jI r2.1)]) (st' := [jI 0, jR 87]) rfl (p1 := 3068) rfl ?_
      refine K_lald (lenI := 1) B rfl rfl (by decide) (by decide +kernel) ?_
      refine B_blk B (jlkn_ok RL) jcl_SKF [.iload 6, .i2l, .lcmp] (by decide +kernel) (ls' := [(0, jR jXS), (1, jR 0), (2, jR 74), (3, jR 87), (4, jI i), (5, jI r1.1), (6, jI r2.1)]) (st' := [jI (jCm (r2.2 87 0) r2.1)]) rfl (p1 := 3073) rfl ?_
      refine J_if_eq B.1 (off := 5) (tgt := 3078) (by decide +kernel) (by decide) hf (fun hf => ?_) (fun hf => ?_)
      · refine B_blk B (jlkn_ok RL) jcl_SKF [.goto 545] (by decide +kernel) (ls' := [(0, jR jXS), (1, jR 0), (2, jR 74), (3, jR 87), (4, jI i), (5, jI r1.1), (6, jI r2.1)]) (st' := []) rfl (p1 := 3623) rfl ?_
        refine J_pick [0, 1, 2, 3, 4] (ls' := [(0, jR jXS), (1, jR 0), (2, jR 74), (3, jR 87), (4, jI i)]) rfl ?_
        cases hf
        exact J_widen (by omega) (by omega) hx
      · refine B_blk B (jlkn_ok RL) jcl_SKF [.iconst 0] (by decide +kernel) (ls' := [(0, jR jXS), (1, jR 0), (2, jR 74), (3, jR 87), (4, jI i), (5, jI r1.1), (6, jI r2.1)]) (st' := [jI 0]) rfl (p1 := 3077) rfl ?_
        cases hf
    · refine B_blk B (jlkn_ok RL) jcl_SKF [.goto 545] (by decide +kernel) (ls' := [(0, jR jXS), (1, jR 0), (2, jR 74), (3, jR 87), (4, jI i), (5, jI r1.1), (6, jI r2.1)]) (st' := []) rfl (p1 := 3623) rfl ?_
      refine J_pick [0, 1, 2, 3, 4] (ls' := [(0, jR jXS), (1, jR 0), (2, jR 74), (3, jR 87), (4, jI i)]) rfl ?_
      cases hf
      exact J_widen (by omega) (by omega) hx
  · refine B_blk B (jlkn_ok RL) jcl_SKF [.iconst 0] (by decide +kernel) (ls' := [(0, jR jXS), (1, jR 0), (2, jR 74), (3, jR 87), (4, jI i), (5, jI r1.1), (6, jI r2.1)]) (st' := [jI 0]) rfl (p1 := 3060) rfl ?_
    cases hf

def f_case_37 (sx : Int → Int) (L i : Int) (m : jMu) : Option jMu :=
  (if 0 ≤ jW (i + 1) ∧ jW (i + 1) < L then (f_L_even (sx (jW (i + 1))) m).bind fun r1 => (if 0 ≤ jW (i + 1) ∧ jW (i + 1) < L then (f_X10_even (sx (jW (i + 1))) r1.2).bind fun r2 => (f_X10_thrown r2.2).bind fun r3 => (if r3 = r1.1 then (if r1.1 = 0 then (if jCm (r2.2 87 0) r2.1 = 0 then some r2.2 else none) else some r2.2) else none) else none) else none)
theorem t_case_37 {X : jX} {L : Int} {sx : Int → Int} (hsx : jsx (xG X) L sx) (B : jB X cL_law RL 8 0 room_1 (some .boolean)) {k n : Nat} (hk : k ≤ 8900) (hn : n ≤ 89000) {i : Int} {m o : jMu} (hf : f_case_37 sx L i m = some o) (hx : J X SKF o (k + 5) (n + 30) 3623 [(0, jR jXS), (1, jR 0), (2, jR 74), (3, jR 87), (4, jI i)] []) : J X SKF m k n 3081 [(0, jR jXS), (1, jR 0), (2, jR 74), (3, jR 87), (4, jI i)] [] := by
  unfold f_case_37 at hf
  refine B_blk B (jlkn_ok RL) jcl_SKF [.aload_n 1, .aload_n 0, .iload 4, .iconst 1, .iadd] (by decide +kernel) (ls' := [(0, jR jXS), (1, jR 0), (2, jR 74), (3, jR 87), (4, jI i)]) (st' := [jI (jW (i + 1)), jR jXS, jR 0]) rfl (p1 := 3087) rfl ?_
  obtain ⟨g5, hf⟩ := jgd hf
  refine K_xald B hsx g5 (by decide +kernel) ?_
  refine B_blk B (jlkn_ok RL) jcl_SKF [.aload_n 3] (by decide +kernel) (ls' := [(0, jR jXS), (1, jR 0), (2, jR 74), (3, jR 87), (4, jI i)]) (st' := [jR 87, jI (sx (jW (i + 1))), jR 0]) rfl (p1 := 3089) rfl ?_
  obtain ⟨r1, h1, hf⟩ := jbd hf
  refine B_callH B (Nat.zero_le _) (μ' := r1.2) (k' := k + 1) (n' := n + 6) ca_L_even sa_L_even lk_L_292 (t_L_even B.tr h1) (Nat.le_refl _) (jRoom (K := 9000) (N := 90000) (by omega) (by omega) rfl) (rest := []) rfl rfl (Nat.le_of_ble_eq_true rfl) (by decide +kernel) rfl rfl (st' := [jI r1.1]) rfl ?_
  refine B_blk B (jlkn_ok RL) jcl_SKF [.istore 5, .aload_n 2, .aload_n 0, .iload 4, .iconst 1, .iadd] (by decide +kernel) (ls' := [(0, jR jXS), (1, jR 0), (2, jR 74), (3, jR 87), (4, jI i), (5, jI r1.1)]) (st' := [jI (jW (i + 1)), jR jXS, jR 74]) rfl (p1 := 3100) rfl ?_
  obtain ⟨g4, hf⟩ := jgd hf
  refine K_xald B hsx g4 (by decide +kernel) ?_
  obtain ⟨r2, h2, hf⟩ := jbd hf
  refine B_callV B (Nat.zero_le _) (μ' := r2.2) (k' := k + 1) (n' := n + 6) ca_X10_even in_X10_even se_X10_even lk_L_294 (t_X10_even B.tr h2) (Nat.le_refl _) (jRoom (K := 9000) (N := 90000) (by omega) (by omega) rfl) rfl rfl (rest := []) rfl rfl (Nat.le_of_ble_eq_true rfl) (by decide +kernel) rfl rfl (st' := [jI r2.1]) rfl ?_
  refine B_blk B (jlkn_ok RL) jcl_SKF [.istore 6, .aload_n 2] (by decide +kernel) (ls' := [(0, jR jXS), (1, jR 0), (2, jR 74), (3, jR 87), (4, jI i), (5, jI r1.1), (6, jI r2.1)]) (st' := [jR 74]) rfl (p1 := 3107) rfl ?_
  obtain ⟨r3, h3, hf⟩ := jbd hf
  refine B_callV B (Nat.zero_le _) (μ' := r2.2) (k' := k + 1) (n' := n + 6) ca_X10_thrown in_X10_thrown se_X10_thrown lk_L_174 (t_X10_thrown B.tr h3) (Nat.le_refl _) (jRoom (K := 9000) (N := 90000) (by omega) (by omega) rfl) rfl rfl (rest := []) rfl rfl (Nat.le_of_ble_eq_true rfl) (by decide +kernel) rfl rfl (st' := [jI r3]) rfl ?_
  refine B_blk B (jlkn_ok RL) jcl_SKF [.iload 5] (by decide +kernel) (ls' := [(0, jR jXS), (1, jR 0), (2, jR 74), (3, jR 87), (4, jI i), (5, jI r1.1), (6, jI r2.1)]) (st' := [jI r1.1, jI r3]) rfl (p1 := 3112) rfl ?_
  refine J_icmp_eq B.1 (off := 5) (tgt := 3117) (by decide +kernel) (by decide) hf (fun hf => ?_) (fun hf => ?_)
  · refine B_blk B (jlkn_ok RL) jcl_SKF [.iload 5] (by decide +kernel) (ls' := [(0, jR jXS), (1, jR 0), (2, jR 74), (3, jR 87), (4, jI i), (5, jI r1.1), (6, jI r2.1)]) (st' := [jI r1.1]) rfl (p1 := 3119) rfl ?_
    refine J_if_ne B.1 (off := 15) (tgt := 3134) (by decide +kernel) (by decide) hf (fun hf => ?_) (fun hf => ?_)
    · refine B_blk B (jlkn_ok RL) jcl_SKF [.aload_n 3, .iconst 0] (by decide +kernel) (ls' := [(0, jR jXS), (1, jR 0), (2, jR 74), (3, jR 87), (4, jI i), (5, jI r1.1), (6, jI r2.1)]) (st' := [jI 0, jR 87]) rfl (p1 := 3124) rfl ?_
      refine K_lald (lenI := 1) B rfl rfl (by decide) (by decide +kernel) ?_
      refine B_blk B (jlkn_ok RL) jcl_SKF [.iload 6, .i2l, .lcmp] (by decide +kernel) (ls' := [(0, jR jXS), (1, jR 0), (2, jR 74), (3, jR 87), (4, jI i), (5, jI r1.1), (6, jI r2.1)]) (st' := [jI (jCm (r2.2 87 0) r2.1)]) rfl (p1 := 3129) rfl ?_
      refine J_if_eq B.1 (off := 5) (tgt := 3134) (by decide +kernel) (by decide) hf (fun hf => ?_) (fun hf => ?_)
      · refine B_blk B (jlkn_ok RL) jcl_SKF [.goto 489] (by decide +kernel) (ls' := [(0, jR jXS), (1, jR 0), (2, jR 74), (3, jR 87), (4, jI i), (5, jI r1.1), (6, jI r2.1)]) (st' := []) rfl (p1 := 3623) rfl ?_
        refine J_pick [0, 1, 2, 3, 4] (ls' := [(0, jR jXS), (1, jR 0), (2, jR 74), (3, jR 87), (4, jI i)]) rfl ?_
        cases hf
        exact J_widen (by omega) (by omega) hx
      · refine B_blk B (jlkn_ok RL) jcl_SKF [.iconst 0] (by decide +kernel) (ls' := [(0, jR jXS), (1, jR 0), (2, jR 74), (3, jR 87), (4, jI i), (5, jI r1.1), (6, jI r2.1)]) (st' := [jI 0]) rfl (p1 := 3133) rfl ?_
        cases hf
    · refine B_blk B (jlkn_ok RL) jcl_SKF [.goto 489] (by decide +kernel) (ls' := [(0, jR jXS), (1, jR 0), (2, jR 74), (3, jR 87), (4, jI i), (5, jI r1.1), (6, jI r2.1)]) (st' := []) rfl (p1 := 3623) rfl ?_
      refine J_pick [0, 1, 2, 3, 4] (ls' := [(0, jR jXS), (1, jR 0), (2, jR 74), (3, jR 87), (4, jI i)]) rfl ?_
      cases hf
      exact J_widen (by omega) (by omega) hx
  · refine B_blk B (jlkn_ok RL) jcl_SKF [.iconst 0] (by decide +kernel) (ls' := [(0, jR jXS), (1, jR 0), (2, jR 74), (3, jR 87), (4, jI i), (5, jI r1.1), (6, jI r2.1)]) (st' := [jI 0]) rfl (p1 := 3116) rfl ?_
    cases hf

def f_case_38 (sx : Int → Int) (L i : Int) (m : jMu) : Option jMu :=
  (if 0 ≤ jW (i + 1) ∧ jW (i + 1) < L then (if 0 ≤ jW (i + 2) ∧ jW (i + 2) < L then (if 0 ≤ jW (i + 3) ∧ jW (i + 3) < L then (if sx (jW (i + 3)) = 0 then (f_L_peels (sx (jW (i + 1))) (sx (jW (i + 2))) 0 m).bind fun r1 => (if 0 ≤ jW (i + 1) ∧ jW (i + 1) < L then (if 0 ≤ jW (i + 2) ∧ jW (i + 2) < L then (if 0 ≤ jW (i + 3) ∧ jW (i + 3) < L then (if sx (jW (i + 3)) = 0 then (f_X10_peels (sx (jW (i + 1))) (sx (jW (i + 2))) 0 r1.2).bind fun r2 => (f_X10_thrown r2.2).bind fun r3 => (if r3 = r1.1 then (if r1.1 = 0 then (if jCm (r2.2 87 0) r2.1 = 0 then some r2.2 else none) else some r2.2) else none) else (f_X10_peels (sx (jW (i + 1))) (sx (jW (i + 2))) 1 r1.2).bind fun r4 => (f_X10_thrown r4.2).bind fun r5 => (if r5 = r1.1 then (if r1.1 = 0 then (if jCm (r4.2 87 0) r4.1 = 0 then some r4.2 else none) else some r4.2) else none)) else none) else none) else none) else (f_L_peels (sx (jW (i + 1))) (sx (jW (i + 2))) 1 m).bind fun r9 => (if 0 ≤ jW (i + 1) ∧ jW (i + 1) < L then (if 0 ≤ jW (i + 2) ∧ jW (i + 2) < L then (if 0 ≤ jW (i + 3) ∧ jW (i + 3) < L then (if sx (jW (i + 3)) = 0 then (f_X10_peels (sx (jW (i + 1))) (sx (jW (i + 2))) 0 r9.2).bind fun r10 => (f_X10_thrown r10.2).bind fun r11 => (if r11 = r9.1 then (if r9.1 = 0 then (if jCm (r10.2 87 0) r10.1 = 0 then some r10.2 else none) else some r10.2) else none) else (f_X10_peels (sx (jW (i + 1))) (sx (jW (i + 2))) 1 r9.2).bind fun r12 => (f_X10_thrown r12.2).bind fun r13 => (if r13 = r9.1 then (if r9.1 = 0 then (if jCm (r12.2 87 0) r12.1 = 0 then some r12.2 else none) else some r12.2) else none)) else none) else none) else none)) else none) else none) else none)
theorem t_case_38 {X : jX} {L : Int} {sx : Int → Int} (hsx : jsx (xG X) L sx) (B : jB X cL_law RL 8 0 room_1 (some .boolean)) {k n : Nat} (hk : k ≤ 8900) (hn : n ≤ 89000) {i : Int} {m o : jMu} (hf : f_case_38 sx L i m = some o) (hx : J X SKF o (k + 5) (n + 30) 3623 [(0, jR jXS), (1, jR 0), (2, jR 74), (3, jR 87), (4, jI i)] []) : J X SKF m k n 3137 [(0, jR jXS), (1, jR 0), (2, jR 74), (3, jR 87), (4, jI i)] [] := by
  unfold f_case_38 at hf
  refine B_blk B (jlkn_ok RL) jcl_SKF [.aload_n 1, .aload_n 0, .iload 4, .iconst 1, .iadd] (by decide +kernel) (ls' := [(0, jR jXS), (1, jR 0), (2, jR 74), (3, jR 87), (4, jI i)]) (st' := [jI (jW (i + 1)), jR jXS, jR 0]) rfl (p1 := 3143) rfl ?_
  obtain ⟨g19, hf⟩ := jgd hf
  refine K_xald B hsx g19 (by decide +kernel) ?_
  refine B_blk B (jlkn_ok RL) jcl_SKF [.aload_n 0, .iload 4, .iconst 2, .iadd] (by decide +kernel) (ls' := [(0, jR jXS), (1, jR 0), (2, jR 74), (3, jR 87), (4, jI i)]) (st' := [jI (jW (i + 2)), jR jXS, jI (sx (jW (i + 1))), jR 0]) rfl (p1 := 3149) rfl ?_
  obtain ⟨g18, hf⟩ := jgd hf
  refine K_xald B hsx g18 (by decide +kernel) ?_
  refine B_blk B (jlkn_ok RL) jcl_SKF [.aload_n 0, .iload 4, .iconst 3, .iadd] (by decide +kernel) (ls' := [(0, jR jXS), (1, jR 0), (2, jR 74), (3, jR 87), (4, jI i)]) (st' := [jI (jW (i + 3)), jR jXS, jI (sx (jW (i + 2))), jI (sx (jW (i + 1))), jR 0]) rfl (p1 := 3155) rfl ?_
  obtain ⟨g17, hf⟩ := jgd hf
  refine K_xald B hsx g17 (by decide +kernel) ?_
  refine J_if_eq B.1 (off := 7) (tgt := 3163) (by decide +kernel) (by decide) hf (fun hf => ?_) (fun hf => ?_)
  · refine B_blk B (jlkn_ok RL) jcl_SKF [.iconst 0, .aload_n 3] (by decide +kernel) (ls' := [(0, jR jXS), (1, jR 0), (2, jR 74), (3, jR 87), (4, jI i)]) (st' := [jR 87, jI 0, jI (sx (jW (i + 2))), jI (sx (jW (i + 1))), jR 0]) rfl (p1 := 3165) rfl ?_
    obtain ⟨r1, h1, hf⟩ := jbd hf
    refine B_callH B (Nat.zero_le _) (μ' := r1.2) (k' := k + 1) (n' := n + 6) ca_L_peels sa_L_peels lk_L_295 (t_L_peels B.tr h1) (Nat.le_refl _) (jRoom (K := 9000) (N := 90000) (by omega) (by omega) rfl) (rest := []) rfl rfl (Nat.le_of_ble_eq_true rfl) (by decide +kernel) rfl rfl (st' := [jI r1.1]) rfl ?_
    refine B_blk B (jlkn_ok RL) jcl_SKF [.istore 5, .aload_n 2, .aload_n 0, .iload 4, .iconst 1, .iadd] (by decide +kernel) (ls' := [(0, jR jXS), (1, jR 0), (2, jR 74), (3, jR 87), (4, jI i), (5, jI r1.1)]) (st' := [jI (jW (i + 1)), jR jXS, jR 74]) rfl (p1 := 3176) rfl ?_
    obtain ⟨g8, hf⟩ := jgd hf
    refine K_xald B hsx g8 (by decide +kernel) ?_
    refine B_blk B (jlkn_ok RL) jcl_SKF [.aload_n 0, .iload 4, .iconst 2, .iadd] (by decide +kernel) (ls' := [(0, jR jXS), (1, jR 0), (2, jR 74), (3, jR 87), (4, jI i), (5, jI r1.1)]) (st' := [jI (jW (i + 2)), jR jXS, jI (sx (jW (i + 1))), jR 74]) rfl (p1 := 3182) rfl ?_
    obtain ⟨g7, hf⟩ := jgd hf
    refine K_xald B hsx g7 (by decide +kernel) ?_
    refine B_blk B (jlkn_ok RL) jcl_SKF [.aload_n 0, .iload 4, .iconst 3, .iadd] (by decide +kernel) (ls' := [(0, jR jXS), (1, jR 0), (2, jR 74), (3, jR 87), (4, jI i), (5, jI r1.1)]) (st' := [jI (jW (i + 3)), jR jXS, jI (sx (jW (i + 2))), jI (sx (jW (i + 1))), jR 74]) rfl (p1 := 3188) rfl ?_
    obtain ⟨g6, hf⟩ := jgd hf
    refine K_xald B hsx g6 (by decide +kernel) ?_
    refine J_if_eq B.1 (off := 7) (tgt := 3196) (by decide +kernel) (by decide) hf (fun hf => ?_) (fun hf => ?_)
    · refine B_blk B (jlkn_ok RL) jcl_SKF [.iconst 0] (by decide +kernel) (ls' := [(0, jR jXS), (1, jR 0), (2, jR 74), (3, jR 87), (4, jI i), (5, jI r1.1)]) (st' := [jI 0, jI (sx (jW (i + 2))), jI (sx (jW (i + 1))), jR 74]) rfl (p1 := 3197) rfl ?_
      obtain ⟨r2, h2, hf⟩ := jbd hf
      refine B_callV B (Nat.zero_le _) (μ' := r2.2) (k' := k + 1) (n' := n + 6) ca_X10_peels in_X10_peels se_X10_peels lk_L_297 (t_X10_peels B.tr h2) (Nat.le_refl _) (jRoom (K := 9000) (N := 90000) (by omega) (by omega) rfl) rfl rfl (rest := []) rfl rfl (Nat.le_of_ble_eq_true rfl) (by decide +kernel) rfl rfl (st' := [jI r2.1]) rfl ?_
      refine B_blk B (jlkn_ok RL) jcl_SKF [.istore 6, .aload_n 2] (by decide +kernel) (ls' := [(0, jR jXS), (1, jR 0), (2, jR 74), (3, jR 87), (4, jI i), (5, jI r1.1), (6, jI r2.1)]) (st' := [jR 74]) rfl (p1 := 3203) rfl ?_
      obtain ⟨r3, h3, hf⟩ := jbd hf
      refine B_callV B (Nat.zero_le _) (μ' := r2.2) (k' := k + 1) (n' := n + 6) ca_X10_thrown in_X10_thrown se_X10_thrown lk_L_174 (t_X10_thrown B.tr h3) (Nat.le_refl _) (jRoom (K := 9000) (N := 90000) (by omega) (by omega) rfl) rfl rfl (rest := []) rfl rfl (Nat.le_of_ble_eq_true rfl) (by decide +kernel) rfl rfl (st' := [jI r3]) rfl ?_
      refine B_blk B (jlkn_ok RL) jcl_SKF [.iload 5] (by decide +kernel) (ls' := [(0, jR jXS), (1, jR 0), (2, jR 74), (3, jR 87), (4, jI i), (5, jI r1.1), (6, jI r2.1)]) (st' := [jI r1.1, jI r3]) rfl (p1 := 3208) rfl ?_
      refine J_icmp_eq B.1 (off := 5) (tgt := 3213) (by decide +kernel) (by decide) hf (fun hf => ?_) (fun hf => ?_)
      · refine B_blk B (jlkn_ok RL) jcl_SKF [.iload 5] (by decide +kernel) (ls' := [(0, jR jXS), (1, jR 0), (2, jR 74), (3, jR 87), (4, jI i), (5, jI r1.1), (6, jI r2.1)]) (st' := [jI r1.1]) rfl (p1 := 3215) rfl ?_
        refine J_if_ne B.1 (off := 15) (tgt := 3230) (by decide +kernel) (by decide) hf (fun hf => ?_) (fun hf => ?_)
        · refine B_blk B (jlkn_ok RL) jcl_SKF [.aload_n 3, .iconst 0] (by decide +kernel) (ls' := [(0, jR jXS), (1, jR 0), (2, jR 74), (3, jR 87), (4, jI i), (5, jI r1.1), (6, jI r2.1)]) (st' := [jI 0, jR 87]) rfl (p1 := 3220) rfl ?_
          refine K_lald (lenI := 1) B rfl rfl (by decide) (by decide +kernel) ?_
          refine B_blk B (jlkn_ok RL) jcl_SKF [.iload 6, .i2l, .lcmp] (by decide +kernel) (ls' := [(0, jR jXS), (1, jR 0), (2, jR 74), (3, jR 87), (4, jI i), (5, jI r1.1), (6, jI r2.1)]) (st' := [jI (jCm (r2.2 87 0) r2.1)]) rfl (p1 := 3225) rfl ?_
          refine J_if_eq B.1 (off := 5) (tgt := 3230) (by decide +kernel) (by decide) hf (fun hf => ?_) (fun hf => ?_)
          · refine B_blk B (jlkn_ok RL) jcl_SKF [.goto 393] (by decide +kernel) (ls' := [(0, jR jXS), (1, jR 0), (2, jR 74), (3, jR 87), (4, jI i), (5, jI r1.1), (6, jI r2.1)]) (st' := []) rfl (p1 := 3623) rfl ?_
            refine J_pick [0, 1, 2, 3, 4] (ls' := [(0, jR jXS), (1, jR 0), (2, jR 74), (3, jR 87), (4, jI i)]) rfl ?_
            cases hf
            exact J_widen (by omega) (by omega) hx
          · refine B_blk B (jlkn_ok RL) jcl_SKF [.iconst 0] (by decide +kernel) (ls' := [(0, jR jXS), (1, jR 0), (2, jR 74), (3, jR 87), (4, jI i), (5, jI r1.1), (6, jI r2.1)]) (st' := [jI 0]) rfl (p1 := 3229) rfl ?_
            cases hf
        · refine B_blk B (jlkn_ok RL) jcl_SKF [.goto 393] (by decide +kernel) (ls' := [(0, jR jXS), (1, jR 0), (2, jR 74), (3, jR 87), (4, jI i), (5, jI r1.1), (6, jI r2.1)]) (st' := []) rfl (p1 := 3623) rfl ?_
          refine J_pick [0, 1, 2, 3, 4] (ls' := [(0, jR jXS), (1, jR 0), (2, jR 74), (3, jR 87), (4, jI i)]) rfl ?_
          cases hf
          exact J_widen (by omega) (by omega) hx
      · refine B_blk B (jlkn_ok RL) jcl_SKF [.iconst 0] (by decide +kernel) (ls' := [(0, jR jXS), (1, jR 0), (2, jR 74), (3, jR 87), (4, jI i), (5, jI r1.1), (6, jI r2.1)]) (st' := [jI 0]) rfl (p1 := 3212) rfl ?_
        cases hf
    · refine B_blk B (jlkn_ok RL) jcl_SKF [.iconst 1, .goto 4] (by decide +kernel) (ls' := [(0, jR jXS), (1, jR 0), (2, jR 74), (3, jR 87), (4, jI i), (5, jI r1.1)]) (st' := [jI 1, jI (sx (jW (i + 2))), jI (sx (jW (i + 1))), jR 74]) rfl (p1 := 3197) rfl ?_
      obtain ⟨r4, h4, hf⟩ := jbd hf
      refine B_callV B (Nat.zero_le _) (μ' := r4.2) (k' := k + 1) (n' := n + 6) ca_X10_peels in_X10_peels se_X10_peels lk_L_297 (t_X10_peels B.tr h4) (Nat.le_refl _) (jRoom (K := 9000) (N := 90000) (by omega) (by omega) rfl) rfl rfl (rest := []) rfl rfl (Nat.le_of_ble_eq_true rfl) (by decide +kernel) rfl rfl (st' := [jI r4.1]) rfl ?_
      refine B_blk B (jlkn_ok RL) jcl_SKF [.istore 6, .aload_n 2] (by decide +kernel) (ls' := [(0, jR jXS), (1, jR 0), (2, jR 74), (3, jR 87), (4, jI i), (5, jI r1.1), (6, jI r4.1)]) (st' := [jR 74]) rfl (p1 := 3203) rfl ?_
      obtain ⟨r5, h5, hf⟩ := jbd hf
      refine B_callV B (Nat.zero_le _) (μ' := r4.2) (k' := k + 1) (n' := n + 6) ca_X10_thrown in_X10_thrown se_X10_thrown lk_L_174 (t_X10_thrown B.tr h5) (Nat.le_refl _) (jRoom (K := 9000) (N := 90000) (by omega) (by omega) rfl) rfl rfl (rest := []) rfl rfl (Nat.le_of_ble_eq_true rfl) (by decide +kernel) rfl rfl (st' := [jI r5]) rfl ?_
      refine B_blk B (jlkn_ok RL) jcl_SKF [.iload 5] (by decide +kernel) (ls' := [(0, jR jXS), (1, jR 0), (2, jR 74), (3, jR 87), (4, jI i), (5, jI r1.1), (6, jI r4.1)]) (st' := [jI r1.1, jI r5]) rfl (p1 := 3208) rfl ?_
      refine J_icmp_eq B.1 (off := 5) (tgt := 3213) (by decide +kernel) (by decide) hf (fun hf => ?_) (fun hf => ?_)
      · refine B_blk B (jlkn_ok RL) jcl_SKF [.iload 5] (by decide +kernel) (ls' := [(0, jR jXS), (1, jR 0), (2, jR 74), (3, jR 87), (4, jI i), (5, jI r1.1), (6, jI r4.1)]) (st' := [jI r1.1]) rfl (p1 := 3215) rfl ?_
        refine J_if_ne B.1 (off := 15) (tgt := 3230) (by decide +kernel) (by decide) hf (fun hf => ?_) (fun hf => ?_)
        · refine B_blk B (jlkn_ok RL) jcl_SKF [.aload_n 3, .iconst 0] (by decide +kernel) (ls' := [(0, jR jXS), (1, jR 0), (2, jR 74), (3, jR 87), (4, jI i), (5, jI r1.1), (6, jI r4.1)]) (st' := [jI 0, jR 87]) rfl (p1 := 3220) rfl ?_
          refine K_lald (lenI := 1) B rfl rfl (by decide) (by decide +kernel) ?_
          refine B_blk B (jlkn_ok RL) jcl_SKF [.iload 6, .i2l, .lcmp] (by decide +kernel) (ls' := [(0, jR jXS), (1, jR 0), (2, jR 74), (3, jR 87), (4, jI i), (5, jI r1.1), (6, jI r4.1)]) (st' := [jI (jCm (r4.2 87 0) r4.1)]) rfl (p1 := 3225) rfl ?_
          refine J_if_eq B.1 (off := 5) (tgt := 3230) (by decide +kernel) (by decide) hf (fun hf => ?_) (fun hf => ?_)
          · refine B_blk B (jlkn_ok RL) jcl_SKF [.goto 393] (by decide +kernel) (ls' := [(0, jR jXS), (1, jR 0), (2, jR 74), (3, jR 87), (4, jI i), (5, jI r1.1), (6, jI r4.1)]) (st' := []) rfl (p1 := 3623) rfl ?_
            refine J_pick [0, 1, 2, 3, 4] (ls' := [(0, jR jXS), (1, jR 0), (2, jR 74), (3, jR 87), (4, jI i)]) rfl ?_
            cases hf
            exact J_widen (by omega) (by omega) hx
          · refine B_blk B (jlkn_ok RL) jcl_SKF [.iconst 0] (by decide +kernel) (ls' := [(0, jR jXS), (1, jR 0), (2, jR 74), (3, jR 87), (4, jI i), (5, jI r1.1), (6, jI r4.1)]) (st' := [jI 0]) rfl (p1 := 3229) rfl ?_
            cases hf
        · refine B_blk B (jlkn_ok RL) jcl_SKF [.goto 393] (by decide +kernel) (ls' := [(0, jR jXS), (1, jR 0), (2, jR 74), (3, jR 87), (4, jI i), (5, jI r1.1), (6, jI r4.1)]) (st' := []) rfl (p1 := 3623) rfl ?_
          refine J_pick [0, 1, 2, 3, 4] (ls' := [(0, jR jXS), (1, jR 0), (2, jR 74), (3, jR 87), (4, jI i)]) rfl ?_
          cases hf
          exact J_widen (by omega) (by omega) hx
      · refine B_blk B (jlkn_ok RL) jcl_SKF [.iconst 0] (by decide +kernel) (ls' := [(0, jR jXS), (1, jR 0), (2, jR 74), (3, jR 87), (4, jI i), (5, jI r1.1), (6, jI r4.1)]) (st' := [jI 0]) rfl (p1 := 3212) rfl ?_
        cases hf
  · refine B_blk B (jlkn_ok RL) jcl_SKF [.iconst 1, .goto 4, .aload_n 3] (by decide +kernel) (ls' := [(0, jR jXS), (1, jR 0), (2, jR 74), (3, jR 87), (4, jI i)]) (st' := [jR 87, jI 1, jI (sx (jW (i + 2))), jI (sx (jW (i + 1))), jR 0]) rfl (p1 := 3165) rfl ?_
    obtain ⟨r9, h9, hf⟩ := jbd hf
    refine B_callH B (Nat.zero_le _) (μ' := r9.2) (k' := k + 1) (n' := n + 6) ca_L_peels sa_L_peels lk_L_295 (t_L_peels B.tr h9) (Nat.le_refl _) (jRoom (K := 9000) (N := 90000) (by omega) (by omega) rfl) (rest := []) rfl rfl (Nat.le_of_ble_eq_true rfl) (by decide +kernel) rfl rfl (st' := [jI r9.1]) rfl ?_
    refine B_blk B (jlkn_ok RL) jcl_SKF [.istore 5, .aload_n 2, .aload_n 0, .iload 4, .iconst 1, .iadd] (by decide +kernel) (ls' := [(0, jR jXS), (1, jR 0), (2, jR 74), (3, jR 87), (4, jI i), (5, jI r9.1)]) (st' := [jI (jW (i + 1)), jR jXS, jR 74]) rfl (p1 := 3176) rfl ?_
    obtain ⟨g16, hf⟩ := jgd hf
    refine K_xald B hsx g16 (by decide +kernel) ?_
    refine B_blk B (jlkn_ok RL) jcl_SKF [.aload_n 0, .iload 4, .iconst 2, .iadd] (by decide +kernel) (ls' := [(0, jR jXS), (1, jR 0), (2, jR 74), (3, jR 87), (4, jI i), (5, jI r9.1)]) (st' := [jI (jW (i + 2)), jR jXS, jI (sx (jW (i + 1))), jR 74]) rfl (p1 := 3182) rfl ?_
    obtain ⟨g15, hf⟩ := jgd hf
    refine K_xald B hsx g15 (by decide +kernel) ?_
    refine B_blk B (jlkn_ok RL) jcl_SKF [.aload_n 0, .iload 4, .iconst 3, .iadd] (by decide +kernel) (ls' := [(0, jR jXS), (1, jR 0), (2, jR 74), (3, jR 87), (4, jI i), (5, jI r9.1)]) (st' := [jI (jW (i + 3)), jR jXS, jI (sx (jW (i + 2))), jI (sx (jW (i + 1))), jR 74]) rfl (p1 := 3188) rfl ?_
    obtain ⟨g14, hf⟩ := jgd hf
    refine K_xald B hsx g14 (by decide +kernel) ?_
    refine J_if_eq B.1 (off := 7) (tgt := 3196) (by decide +kernel) (by decide) hf (fun hf => ?_) (fun hf => ?_)
    · refine B_blk B (jlkn_ok RL) jcl_SKF [.iconst 0] (by decide +kernel) (ls' := [(0, jR jXS), (1, jR 0), (2, jR 74), (3, jR 87), (4, jI i), (5, jI r9.1)]) (st' := [jI 0, jI (sx (jW (i + 2))), jI (sx (jW (i + 1))), jR 74]) rfl (p1 := 3197) rfl ?_
      obtain ⟨r10, h10, hf⟩ := jbd hf
      refine B_callV B (Nat.zero_le _) (μ' := r10.2) (k' := k + 1) (n' := n + 6) ca_X10_peels in_X10_peels se_X10_peels lk_L_297 (t_X10_peels B.tr h10) (Nat.le_refl _) (jRoom (K := 9000) (N := 90000) (by omega) (by omega) rfl) rfl rfl (rest := []) rfl rfl (Nat.le_of_ble_eq_true rfl) (by decide +kernel) rfl rfl (st' := [jI r10.1]) rfl ?_
      refine B_blk B (jlkn_ok RL) jcl_SKF [.istore 6, .aload_n 2] (by decide +kernel) (ls' := [(0, jR jXS), (1, jR 0), (2, jR 74), (3, jR 87), (4, jI i), (5, jI r9.1), (6, jI r10.1)]) (st' := [jR 74]) rfl (p1 := 3203) rfl ?_
      obtain ⟨r11, h11, hf⟩ := jbd hf
      refine B_callV B (Nat.zero_le _) (μ' := r10.2) (k' := k + 1) (n' := n + 6) ca_X10_thrown in_X10_thrown se_X10_thrown lk_L_174 (t_X10_thrown B.tr h11) (Nat.le_refl _) (jRoom (K := 9000) (N := 90000) (by omega) (by omega) rfl) rfl rfl (rest := []) rfl rfl (Nat.le_of_ble_eq_true rfl) (by decide +kernel) rfl rfl (st' := [jI r11]) rfl ?_
      refine B_blk B (jlkn_ok RL) jcl_SKF [.iload 5] (by decide +kernel) (ls' := [(0, jR jXS), (1, jR 0), (2, jR 74), (3, jR 87), (4, jI i), (5, jI r9.1), (6, jI r10.1)]) (st' := [jI r9.1, jI r11]) rfl (p1 := 3208) rfl ?_
      refine J_icmp_eq B.1 (off := 5) (tgt := 3213) (by decide +kernel) (by decide) hf (fun hf => ?_) (fun hf => ?_)
      · refine B_blk B (jlkn_ok RL) jcl_SKF [.iload 5] (by decide +kernel) (ls' := [(0, jR jXS), (1, jR 0), (2, jR 74), (3, jR 87), (4, jI i), (5, jI r9.1), (6, jI r10.1)]) (st' := [jI r9.1]) rfl (p1 := 3215) rfl ?_
        refine J_if_ne B.1 (off := 15) (tgt := 3230) (by decide +kernel) (by decide) hf (fun hf => ?_) (fun hf => ?_)
        · refine B_blk B (jlkn_ok RL) jcl_SKF [.aload_n 3, .iconst 0] (by decide +kernel) (ls' := [(0, jR jXS), (1, jR 0), (2, jR 74), (3, jR 87), (4, jI i), (5, jI r9.1), (6, jI r10.1)]) (st' := [jI 0, jR 87]) rfl (p1 := 3220) rfl ?_
          refine K_lald (lenI := 1) B rfl rfl (by decide) (by decide +kernel) ?_
          refine B_blk B (jlkn_ok RL) jcl_SKF [.iload 6, .i2l, .lcmp] (by decide +kernel) (ls' := [(0, jR jXS), (1, jR 0), (2, jR 74), (3, jR 87), (4, jI i), (5, jI r9.1), (6, jI r10.1)]) (st' := [jI (jCm (r10.2 87 0) r10.1)]) rfl (p1 := 3225) rfl ?_
          refine J_if_eq B.1 (off := 5) (tgt := 3230) (by decide +kernel) (by decide) hf (fun hf => ?_) (fun hf => ?_)
          · refine B_blk B (jlkn_ok RL) jcl_SKF [.goto 393] (by decide +kernel) (ls' := [(0, jR jXS), (1, jR 0), (2, jR 74), (3, jR 87), (4, jI i), (5, jI r9.1), (6, jI r10.1)]) (st' := []) rfl (p1 := 3623) rfl ?_
            refine J_pick [0, 1, 2, 3, 4] (ls' := [(0, jR jXS), (1, jR 0), (2, jR 74), (3, jR 87), (4, jI i)]) rfl ?_
            cases hf
            exact J_widen (by omega) (by omega) hx
          · refine B_blk B (jlkn_ok RL) jcl_SKF [.iconst 0] (by decide +kernel) (ls' := [(0, jR jXS), (1, jR 0), (2, jR 74), (3, jR 87), (4, jI i), (5, jI r9.1), (6, jI r10.1)]) (st' := [jI 0]) rfl (p1 := 3229) rfl ?_
            cases hf
        · refine B_blk B (jlkn_ok RL) jcl_SKF [.goto 393] (by decide +kernel) (ls' := [(0, jR jXS), (1, jR 0), (2, jR 74), (3, jR 87), (4, jI i), (5, jI r9.1), (6, jI r10.1)]) (st' := []) rfl (p1 := 3623) rfl ?_
          refine J_pick [0, 1, 2, 3, 4] (ls' := [(0, jR jXS), (1, jR 0), (2, jR 74), (3, jR 87), (4, jI i)]) rfl ?_
          cases hf
          exact J_widen (by omega) (by omega) hx
      · refine B_blk B (jlkn_ok RL) jcl_SKF [.iconst 0] (by decide +kernel) (ls' := [(0, jR jXS), (1, jR 0), (2, jR 74), (3, jR 87), (4, jI i), (5, jI r9.1), (6, jI r10.1)]) (st' := [jI 0]) rfl (p1 := 3212) rfl ?_
        cases hf
    · refine B_blk B (jlkn_ok RL) jcl_SKF [.iconst 1, .goto 4] (by decide +kernel) (ls' := [(0, jR jXS), (1, jR 0), (2, jR 74), (3, jR 87), (4, jI i), (5, jI r9.1)]) (st' := [jI 1, jI (sx (jW (i + 2))), jI (sx (jW (i + 1))), jR 74]) rfl (p1 := 3197) rfl ?_
      obtain ⟨r12, h12, hf⟩ := jbd hf
      refine B_callV B (Nat.zero_le _) (μ' := r12.2) (k' := k + 1) (n' := n + 6) ca_X10_peels in_X10_peels se_X10_peels lk_L_297 (t_X10_peels B.tr h12) (Nat.le_refl _) (jRoom (K := 9000) (N := 90000) (by omega) (by omega) rfl) rfl rfl (rest := []) rfl rfl (Nat.le_of_ble_eq_true rfl) (by decide +kernel) rfl rfl (st' := [jI r12.1]) rfl ?_
      refine B_blk B (jlkn_ok RL) jcl_SKF [.istore 6, .aload_n 2] (by decide +kernel) (ls' := [(0, jR jXS), (1, jR 0), (2, jR 74), (3, jR 87), (4, jI i), (5, jI r9.1), (6, jI r12.1)]) (st' := [jR 74]) rfl (p1 := 3203) rfl ?_
      obtain ⟨r13, h13, hf⟩ := jbd hf
      refine B_callV B (Nat.zero_le _) (μ' := r12.2) (k' := k + 1) (n' := n + 6) ca_X10_thrown in_X10_thrown se_X10_thrown lk_L_174 (t_X10_thrown B.tr h13) (Nat.le_refl _) (jRoom (K := 9000) (N := 90000) (by omega) (by omega) rfl) rfl rfl (rest := []) rfl rfl (Nat.le_of_ble_eq_true rfl) (by decide +kernel) rfl rfl (st' := [jI r13]) rfl ?_
      refine B_blk B (jlkn_ok RL) jcl_SKF [.iload 5] (by decide +kernel) (ls' := [(0, jR jXS), (1, jR 0), (2, jR 74), (3, jR 87), (4, jI i), (5, jI r9.1), (6, jI r12.1)]) (st' := [jI r9.1, jI r13]) rfl (p1 := 3208) rfl ?_
      refine J_icmp_eq B.1 (off := 5) (tgt := 3213) (by decide +kernel) (by decide) hf (fun hf => ?_) (fun hf => ?_)
      · refine B_blk B (jlkn_ok RL) jcl_SKF [.iload 5] (by decide +kernel) (ls' := [(0, jR jXS), (1, jR 0), (2, jR 74), (3, jR 87), (4, jI i), (5, jI r9.1), (6, jI r12.1)]) (st' := [jI r9.1]) rfl (p1 := 3215) rfl ?_
        refine J_if_ne B.1 (off := 15) (tgt := 3230) (by decide +kernel) (by decide) hf (fun hf => ?_) (fun hf => ?_)
        · refine B_blk B (jlkn_ok RL) jcl_SKF [.aload_n 3, .iconst 0] (by decide +kernel) (ls' := [(0, jR jXS), (1, jR 0), (2, jR 74), (3, jR 87), (4, jI i), (5, jI r9.1), (6, jI r12.1)]) (st' := [jI 0, jR 87]) rfl (p1 := 3220) rfl ?_
          refine K_lald (lenI := 1) B rfl rfl (by decide) (by decide +kernel) ?_
          refine B_blk B (jlkn_ok RL) jcl_SKF [.iload 6, .i2l, .lcmp] (by decide +kernel) (ls' := [(0, jR jXS), (1, jR 0), (2, jR 74), (3, jR 87), (4, jI i), (5, jI r9.1), (6, jI r12.1)]) (st' := [jI (jCm (r12.2 87 0) r12.1)]) rfl (p1 := 3225) rfl ?_
          refine J_if_eq B.1 (off := 5) (tgt := 3230) (by decide +kernel) (by decide) hf (fun hf => ?_) (fun hf => ?_)
          · refine B_blk B (jlkn_ok RL) jcl_SKF [.goto 393] (by decide +kernel) (ls' := [(0, jR jXS), (1, jR 0), (2, jR 74), (3, jR 87), (4, jI i), (5, jI r9.1), (6, jI r12.1)]) (st' := []) rfl (p1 := 3623) rfl ?_
            refine J_pick [0, 1, 2, 3, 4] (ls' := [(0, jR jXS), (1, jR 0), (2, jR 74), (3, jR 87), (4, jI i)]) rfl ?_
            cases hf
            exact J_widen (by omega) (by omega) hx
          · refine B_blk B (jlkn_ok RL) jcl_SKF [.iconst 0] (by decide +kernel) (ls' := [(0, jR jXS), (1, jR 0), (2, jR 74), (3, jR 87), (4, jI i), (5, jI r9.1), (6, jI r12.1)]) (st' := [jI 0]) rfl (p1 := 3229) rfl ?_
            cases hf
        · refine B_blk B (jlkn_ok RL) jcl_SKF [.goto 393] (by decide +kernel) (ls' := [(0, jR jXS), (1, jR 0), (2, jR 74), (3, jR 87), (4, jI i), (5, jI r9.1), (6, jI r12.1)]) (st' := []) rfl (p1 := 3623) rfl ?_
          refine J_pick [0, 1, 2, 3, 4] (ls' := [(0, jR jXS), (1, jR 0), (2, jR 74), (3, jR 87), (4, jI i)]) rfl ?_
          cases hf
          exact J_widen (by omega) (by omega) hx
      · refine B_blk B (jlkn_ok RL) jcl_SKF [.iconst 0] (by decide +kernel) (ls' := [(0, jR jXS), (1, jR 0), (2, jR 74), (3, jR 87), (4, jI i), (5, jI r9.1), (6, jI r12.1)]) (st' := [jI 0]) rfl (p1 := 3212) rfl ?_
        cases hf

def f_case_39 (sx : Int → Int) (L i : Int) (m : jMu) : Option jMu :=
  (if 0 ≤ jW (i + 1) ∧ jW (i + 1) < L then (f_L_worst (sx (jW (i + 1))) m).bind fun r1 => (if 0 ≤ jW (i + 1) ∧ jW (i + 1) < L then (f_X10_worst (sx (jW (i + 1))) r1.2).bind fun r2 => (f_X10_thrown r2.2).bind fun r3 => (if r3 = r1.1 then (if r1.1 = 0 then (if jCm (r2.2 87 0) r2.1 = 0 then some r2.2 else none) else some r2.2) else none) else none) else none)
theorem t_case_39 {X : jX} {L : Int} {sx : Int → Int} (hsx : jsx (xG X) L sx) (B : jB X cL_law RL 8 0 room_1 (some .boolean)) {k n : Nat} (hk : k ≤ 8900) (hn : n ≤ 89000) {i : Int} {m o : jMu} (hf : f_case_39 sx L i m = some o) (hx : J X SKF o (k + 5) (n + 30) 3623 [(0, jR jXS), (1, jR 0), (2, jR 74), (3, jR 87), (4, jI i)] []) : J X SKF m k n 3233 [(0, jR jXS), (1, jR 0), (2, jR 74), (3, jR 87), (4, jI i)] [] := by
  unfold f_case_39 at hf
  refine B_blk B (jlkn_ok RL) jcl_SKF [.aload_n 1, .aload_n 0, .iload 4, .iconst 1, .iadd] (by decide +kernel) (ls' := [(0, jR jXS), (1, jR 0), (2, jR 74), (3, jR 87), (4, jI i)]) (st' := [jI (jW (i + 1)), jR jXS, jR 0]) rfl (p1 := 3239) rfl ?_
  obtain ⟨g5, hf⟩ := jgd hf
  refine K_xald B hsx g5 (by decide +kernel) ?_
  refine B_blk B (jlkn_ok RL) jcl_SKF [.aload_n 3] (by decide +kernel) (ls' := [(0, jR jXS), (1, jR 0), (2, jR 74), (3, jR 87), (4, jI i)]) (st' := [jR 87, jI (sx (jW (i + 1))), jR 0]) rfl (p1 := 3241) rfl ?_
  obtain ⟨r1, h1, hf⟩ := jbd hf
  refine B_callH B (Nat.zero_le _) (μ' := r1.2) (k' := k + 1) (n' := n + 6) ca_L_worst sa_L_worst lk_L_298 (t_L_worst B.tr h1) (Nat.le_refl _) (jRoom (K := 9000) (N := 90000) (by omega) (by omega) rfl) (rest := []) rfl rfl (Nat.le_of_ble_eq_true rfl) (by decide +kernel) rfl rfl (st' := [jI r1.1]) rfl ?_
  refine B_blk B (jlkn_ok RL) jcl_SKF [.istore 5, .aload_n 2, .aload_n 0, .iload 4, .iconst 1, .iadd] (by decide +kernel) (ls' := [(0, jR jXS), (1, jR 0), (2, jR 74), (3, jR 87), (4, jI i), (5, jI r1.1)]) (st' := [jI (jW (i + 1)), jR jXS, jR 74]) rfl (p1 := 3252) rfl ?_
  obtain ⟨g4, hf⟩ := jgd hf
  refine K_xald B hsx g4 (by decide +kernel) ?_
  obtain ⟨r2, h2, hf⟩ := jbd hf
  refine B_callV B (Nat.zero_le _) (μ' := r2.2) (k' := k + 1) (n' := n + 6) ca_X10_worst in_X10_worst se_X10_worst lk_L_300 (t_X10_worst B.tr h2) (Nat.le_refl _) (jRoom (K := 9000) (N := 90000) (by omega) (by omega) rfl) rfl rfl (rest := []) rfl rfl (Nat.le_of_ble_eq_true rfl) (by decide +kernel) rfl rfl (st' := [jI r2.1]) rfl ?_
  refine B_blk B (jlkn_ok RL) jcl_SKF [.istore 6, .aload_n 2] (by decide +kernel) (ls' := [(0, jR jXS), (1, jR 0), (2, jR 74), (3, jR 87), (4, jI i), (5, jI r1.1), (6, jI r2.1)]) (st' := [jR 74]) rfl (p1 := 3259) rfl ?_
  obtain ⟨r3, h3, hf⟩ := jbd hf
  refine B_callV B (Nat.zero_le _) (μ' := r2.2) (k' := k + 1) (n' := n + 6) ca_X10_thrown in_X10_thrown se_X10_thrown lk_L_174 (t_X10_thrown B.tr h3) (Nat.le_refl _) (jRoom (K := 9000) (N := 90000) (by omega) (by omega) rfl) rfl rfl (rest := []) rfl rfl (Nat.le_of_ble_eq_true rfl) (by decide +kernel) rfl rfl (st' := [jI r3]) rfl ?_
  refine B_blk B (jlkn_ok RL) jcl_SKF [.iload 5] (by decide +kernel) (ls' := [(0, jR jXS), (1, jR 0), (2, jR 74), (3, jR 87), (4, jI i), (5, jI r1.1), (6, jI r2.1)]) (st' := [jI r1.1, jI r3]) rfl (p1 := 3264) rfl ?_
  refine J_icmp_eq B.1 (off := 5) (tgt := 3269) (by decide +kernel) (by decide) hf (fun hf => ?_) (fun hf => ?_)
  · refine B_blk B (jlkn_ok RL) jcl_SKF [.iload 5] (by decide +kernel) (ls' := [(0, jR jXS), (1, jR 0), (2, jR 74), (3, jR 87), (4, jI i), (5, jI r1.1), (6, jI r2.1)]) (st' := [jI r1.1]) rfl (p1 := 3271) rfl ?_
    refine J_if_ne B.1 (off := 15) (tgt := 3286) (by decide +kernel) (by decide) hf (fun hf => ?_) (fun hf => ?_)
    · refine B_blk B (jlkn_ok RL) jcl_SKF [.aload_n 3, .iconst 0] (by decide +kernel) (ls' := [(0, jR jXS), (1, jR 0), (2, jR 74), (3, jR 87), (4, jI i), (5, jI r1.1), (6, jI r2.1)]) (st' := [jI 0, jR 87]) rfl (p1 := 3276) rfl ?_
      refine K_lald (lenI := 1) B rfl rfl (by decide) (by decide +kernel) ?_
      refine B_blk B (jlkn_ok RL) jcl_SKF [.iload 6, .i2l, .lcmp] (by decide +kernel) (ls' := [(0, jR jXS), (1, jR 0), (2, jR 74), (3, jR 87), (4, jI i), (5, jI r1.1), (6, jI r2.1)]) (st' := [jI (jCm (r2.2 87 0) r2.1)]) rfl (p1 := 3281) rfl ?_
      refine J_if_eq B.1 (off := 5) (tgt := 3286) (by decide +kernel) (by decide) hf (fun hf => ?_) (fun hf => ?_)
      · refine B_blk B (jlkn_ok RL) jcl_SKF [.goto 337] (by decide +kernel) (ls' := [(0, jR jXS), (1, jR 0), (2, jR 74), (3, jR 87), (4, jI i), (5, jI r1.1), (6, jI r2.1)]) (st' := []) rfl (p1 := 3623) rfl ?_
        refine J_pick [0, 1, 2, 3, 4] (ls' := [(0, jR jXS), (1, jR 0), (2, jR 74), (3, jR 87), (4, jI i)]) rfl ?_
        cases hf
        exact J_widen (by omega) (by omega) hx
      · refine B_blk B (jlkn_ok RL) jcl_SKF [.iconst 0] (by decide +kernel) (ls' := [(0, jR jXS), (1, jR 0), (2, jR 74), (3, jR 87), (4, jI i), (5, jI r1.1), (6, jI r2.1)]) (st' := [jI 0]) rfl (p1 := 3285) rfl ?_
        cases hf
    · refine B_blk B (jlkn_ok RL) jcl_SKF [.goto 337] (by decide +kernel) (ls' := [(0, jR jXS), (1, jR 0), (2, jR 74), (3, jR 87), (4, jI i), (5, jI r1.1), (6, jI r2.1)]) (st' := []) rfl (p1 := 3623) rfl ?_
      refine J_pick [0, 1, 2, 3, 4] (ls' := [(0, jR jXS), (1, jR 0), (2, jR 74), (3, jR 87), (4, jI i)]) rfl ?_
      cases hf
      exact J_widen (by omega) (by omega) hx
  · refine B_blk B (jlkn_ok RL) jcl_SKF [.iconst 0] (by decide +kernel) (ls' := [(0, jR jXS), (1, jR 0), (2, jR 74), (3, jR 87), (4, jI i), (5, jI r1.1), (6, jI r2.1)]) (st' := [jI 0]) rfl (p1 := 3268) rfl ?_
    cases hf
