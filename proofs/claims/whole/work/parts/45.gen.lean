/-! printed walks -/
def rm_X10_goes : Room := { frames := 8, cells := 0, slots := 0, locals := 135 }
def f_X10_goes_L6 : Nat → Int → Int → Int → Int → jMu → Option Int
  | 0, _, _, _, _, _ => none
  | q + 1, v1, v2, v4, v5, m => (if v1 ≤ v5 then some v4 else (if 0 ≤ v5 ∧ v5 < 6 then (f_X10_endFrom (m 82 v5) v2 v4 m).bind fun r1 => (if r1 = (-1) then some (-1) else (if v1 ≤ jW (v5 + 1) then f_X10_goes_L6 q v1 v2 r1 (jW (v5 + 1)) m else (if 0 ≤ jW (v5 + 1) ∧ jW (v5 + 1) < 6 then (if 0 ≤ v5 ∧ v5 < 6 then (if m 82 (jW (v5 + 1)) ≤ m 82 v5 then (if 0 ≤ v5 ∧ v5 < 6 then (if 0 ≤ jW (v5 + 1) ∧ jW (v5 + 1) < 6 then (jlt (jW (r1 + jW (m 82 v5 - m 82 (jW (v5 + 1))))) fun x2 => f_X10_goes_L6 q v1 v2 x2 (jW (v5 + 1)) m) else none) else none) else (if 0 ≤ jW (v5 + 1) ∧ jW (v5 + 1) < 6 then (if 0 ≤ v5 ∧ v5 < 6 then (jlt (jW (r1 + jW (m 82 (jW (v5 + 1)) - m 82 v5))) fun x5 => f_X10_goes_L6 q v1 v2 x5 (jW (v5 + 1)) m) else none) else none)) else none) else none))) else none))
def f_X10_goes (a0 : Int) (a1 : Int) (a2 : Int) (m : jMu) : Option Int :=
  f_X10_goes_L6 jFU a0 a1 a2 0 m
theorem t_X10_goes_L6 {X : jX} (B : jB X cX10_goes RX10 7 SKF.length rm_X10_goes (some .int)) : ∀ (q : Nat) (v1 : Int) (v2 : Int) (v4 : Int) (v5 : Int) (m : jMu) (r : Int), f_X10_goes_L6 q v1 v2 v4 v5 m = some r → jQ X (.inl (some (jI r))) SKF m rm_X10_goes.cells rm_X10_goes.slots → J X SKF m 0 0 6 [(0, jR 74), (1, jI v1), (2, jI v2), (4, jI v4), (5, jI v5)] [] := by
  intro q
  induction q with
  | zero =>
    intro v1 v2 v4 v5 m r hf
    rw [f_X10_goes_L6] at hf
    cases hf
  | succ q ih =>
    intro v1 v2 v4 v5 m r hf hq
    rw [f_X10_goes_L6] at hf
    refine B_blk B jlkX10_ok jcl_SKF [.iload 5, .iload_n 1] (by decide +kernel) (ls' := [(0, jR 74), (1, jI v1), (2, jI v2), (4, jI v4), (5, jI v5)]) (st' := [jI v1, jI v5]) rfl (p1 := 9) rfl ?_
    refine J_icmp_ge B.1 (off := 106) (tgt := 115) (by decide +kernel) (by decide) hf (fun hf => ?_) (fun hf => ?_)
    · refine B_blk B jlkX10_ok jcl_SKF [.iload 4] (by decide +kernel) (ls' := [(0, jR 74), (1, jI v1), (2, jI v2), (4, jI v4), (5, jI v5)]) (st' := [jI v4]) rfl (p1 := 117) rfl ?_
      cases hf
      exact B_retI B hq rfl (Nat.le_of_ble_eq_true rfl) (Nat.le_of_ble_eq_true rfl) (by decide +kernel)
    · refine B_blk B jlkX10_ok jcl_SKF [.aload_n 0, .aload_n 0, .getfield 36, .iload 5] (by decide +kernel) (ls' := [(0, jR 74), (1, jI v1), (2, jI v2), (4, jI v4), (5, jI v5)]) (st' := [jI v5, jR 82, jR 74]) rfl (p1 := 19) rfl ?_
      obtain ⟨g10, hf⟩ := jgd hf
      refine K_iald (lenI := 6) B rfl rfl g10 (by decide +kernel) ?_
      refine B_blk B jlkX10_ok jcl_SKF [.iload_n 2, .iload 4] (by decide +kernel) (ls' := [(0, jR 74), (1, jI v1), (2, jI v2), (4, jI v4), (5, jI v5)]) (st' := [jI v4, jI v2, jI (m 82 v5), jR 74]) rfl (p1 := 23) rfl ?_
      obtain ⟨r1, h1, hf⟩ := jbd hf
      refine B_callV B (Nat.le_refl _) (μ' := m) (k' := 0) (n' := 0) ca_X10_endFrom in_X10_endFrom se_X10_endFrom lk_X10_263 (t_X10_endFrom B.tr h1) (Nat.le_refl _) rfl rfl rfl (rest := []) rfl rfl (Nat.le_of_ble_eq_true rfl) (by decide +kernel) rfl rfl (st' := [jI r1]) rfl ?_
      refine B_blk B jlkX10_ok jcl_SKF [.istore 6, .iload 6, .iconst (-1)] (by decide +kernel) (ls' := [(0, jR 74), (1, jI v1), (2, jI v2), (4, jI v4), (5, jI v5), (6, jI r1)]) (st' := [jI (-1), jI r1]) rfl (p1 := 31) rfl ?_
      refine J_icmp_ne B.1 (off := 5) (tgt := 36) (by decide +kernel) (by decide) hf (fun hf => ?_) (fun hf => ?_)
      · refine B_blk B jlkX10_ok jcl_SKF [.iconst (-1)] (by decide +kernel) (ls' := [(0, jR 74), (1, jI v1), (2, jI v2), (4, jI v4), (5, jI v5), (6, jI r1)]) (st' := [jI (-1)]) rfl (p1 := 35) rfl ?_
        cases hf
        exact B_retI B hq rfl (Nat.le_of_ble_eq_true rfl) (Nat.le_of_ble_eq_true rfl) (by decide +kernel)
      · refine B_blk B jlkX10_ok jcl_SKF [.iload 6, .istore 4, .iload 5, .iconst 1, .iadd, .iload_n 1] (by decide +kernel) (ls' := [(0, jR 74), (1, jI v1), (2, jI v2), (4, jI r1), (5, jI v5), (6, jI r1)]) (st' := [jI v1, jI (jW (v5 + 1))]) rfl (p1 := 45) rfl ?_
        refine J_icmp_ge B.1 (off := 64) (tgt := 109) (by decide +kernel) (by decide) hf (fun hf => ?_) (fun hf => ?_)
        · refine B_blk B jlkX10_ok jcl_SKF [.iinc 5 1, .goto (-106)] (by decide +kernel) (ls' := [(0, jR 74), (1, jI v1), (2, jI v2), (4, jI r1), (5, jI (jW (v5 + 1))), (6, jI r1)]) (st' := []) rfl (p1 := 6) rfl ?_
          refine J_pick [0, 1, 2, 3, 4] (ls' := [(0, jR 74), (1, jI v1), (2, jI v2), (4, jI r1), (5, jI (jW (v5 + 1)))]) rfl ?_
          exact ih v1 v2 r1 (jW (v5 + 1)) m _ hf hq
        · refine B_blk B jlkX10_ok jcl_SKF [.iload 4, .aload_n 0, .getfield 36, .iload 5, .iconst 1, .iadd] (by decide +kernel) (ls' := [(0, jR 74), (1, jI v1), (2, jI v2), (4, jI r1), (5, jI v5), (6, jI r1)]) (st' := [jI (jW (v5 + 1)), jR 82, jI r1]) rfl (p1 := 58) rfl ?_
          obtain ⟨g9, hf⟩ := jgd hf
          refine K_iald (lenI := 6) B rfl rfl g9 (by decide +kernel) ?_
          refine B_blk B jlkX10_ok jcl_SKF [.aload_n 0, .getfield 36, .iload 5] (by decide +kernel) (ls' := [(0, jR 74), (1, jI v1), (2, jI v2), (4, jI r1), (5, jI v5), (6, jI r1)]) (st' := [jI v5, jR 82, jI (m 82 (jW (v5 + 1))), jI r1]) rfl (p1 := 65) rfl ?_
          obtain ⟨g8, hf⟩ := jgd hf
          refine K_iald (lenI := 6) B rfl rfl g8 (by decide +kernel) ?_
          refine J_icmp_le B.1 (off := 23) (tgt := 89) (by decide +kernel) (by decide) hf (fun hf => ?_) (fun hf => ?_)
          · refine B_blk B jlkX10_ok jcl_SKF [.aload_n 0, .getfield 36, .iload 5] (by decide +kernel) (ls' := [(0, jR 74), (1, jI v1), (2, jI v2), (4, jI r1), (5, jI v5), (6, jI r1)]) (st' := [jI v5, jR 82, jI r1]) rfl (p1 := 95) rfl ?_
            obtain ⟨g4, hf⟩ := jgd hf
            refine K_iald (lenI := 6) B rfl rfl g4 (by decide +kernel) ?_
            refine B_blk B jlkX10_ok jcl_SKF [.aload_n 0, .getfield 36, .iload 5, .iconst 1, .iadd] (by decide +kernel) (ls' := [(0, jR 74), (1, jI v1), (2, jI v2), (4, jI r1), (5, jI v5), (6, jI r1)]) (st' := [jI (jW (v5 + 1)), jR 82, jI (m 82 v5), jI r1]) rfl (p1 := 104) rfl ?_
            obtain ⟨g3, hf⟩ := jgd hf
            refine K_iald (lenI := 6) B rfl rfl g3 (by decide +kernel) ?_
            refine B_blk B jlkX10_ok jcl_SKF [.isub, .iadd, .istore 4] (by decide +kernel) (ls' := [(0, jR 74), (1, jI v1), (2, jI v2), (4, jI (jW (r1 + jW (m 82 v5 - m 82 (jW (v5 + 1)))))), (5, jI v5), (6, jI r1)]) (st' := []) rfl (p1 := 109) rfl ?_
            obtain ⟨x2, hx2, hf⟩ := jlt_s hf
            rw [hx2]
            refine B_blk B jlkX10_ok jcl_SKF [.iinc 5 1, .goto (-106)] (by decide +kernel) (ls' := [(0, jR 74), (1, jI v1), (2, jI v2), (4, jI x2), (5, jI (jW (v5 + 1))), (6, jI r1)]) (st' := []) rfl (p1 := 6) rfl ?_
            refine J_pick [0, 1, 2, 3, 4] (ls' := [(0, jR 74), (1, jI v1), (2, jI v2), (4, jI x2), (5, jI (jW (v5 + 1)))]) rfl ?_
            exact ih v1 v2 x2 (jW (v5 + 1)) m _ hf hq
          · refine B_blk B jlkX10_ok jcl_SKF [.aload_n 0, .getfield 36, .iload 5, .iconst 1, .iadd] (by decide +kernel) (ls' := [(0, jR 74), (1, jI v1), (2, jI v2), (4, jI r1), (5, jI v5), (6, jI r1)]) (st' := [jI (jW (v5 + 1)), jR 82, jI r1]) rfl (p1 := 77) rfl ?_
            obtain ⟨g7, hf⟩ := jgd hf
            refine K_iald (lenI := 6) B rfl rfl g7 (by decide +kernel) ?_
            refine B_blk B jlkX10_ok jcl_SKF [.aload_n 0, .getfield 36, .iload 5] (by decide +kernel) (ls' := [(0, jR 74), (1, jI v1), (2, jI v2), (4, jI r1), (5, jI v5), (6, jI r1)]) (st' := [jI v5, jR 82, jI (m 82 (jW (v5 + 1))), jI r1]) rfl (p1 := 84) rfl ?_
            obtain ⟨g6, hf⟩ := jgd hf
            refine K_iald (lenI := 6) B rfl rfl g6 (by decide +kernel) ?_
            refine B_blk B jlkX10_ok jcl_SKF [.isub, .goto 20, .iadd, .istore 4] (by decide +kernel) (ls' := [(0, jR 74), (1, jI v1), (2, jI v2), (4, jI (jW (r1 + jW (m 82 (jW (v5 + 1)) - m 82 v5)))), (5, jI v5), (6, jI r1)]) (st' := []) rfl (p1 := 109) rfl ?_
            obtain ⟨x5, hx5, hf⟩ := jlt_s hf
            rw [hx5]
            refine B_blk B jlkX10_ok jcl_SKF [.iinc 5 1, .goto (-106)] (by decide +kernel) (ls' := [(0, jR 74), (1, jI v1), (2, jI v2), (4, jI x5), (5, jI (jW (v5 + 1))), (6, jI r1)]) (st' := []) rfl (p1 := 6) rfl ?_
            refine J_pick [0, 1, 2, 3, 4] (ls' := [(0, jR 74), (1, jI v1), (2, jI v2), (4, jI x5), (5, jI (jW (v5 + 1)))]) rfl ?_
            exact ih v1 v2 x5 (jW (v5 + 1)) m _ hf hq
theorem t_X10_goes {l : Launch} {G : jG} (hl : l.stackTraces = false) {a0 : Int} {a1 : Int} {a2 : Int} {m : jMu} {r : Int} (hf : f_X10_goes a0 a1 a2 m = some r) : jCt l G yX10_goes (.code yX10_goes cX10_goes 7 (some .int) :: jWG) rm_X10_goes [jR 74, jI a0, jI a1, jI a2] SKF m (.inl (some (jI r))) SKF m := by
  unfold f_X10_goes at hf
  refine J_start (ls0 := [(0, jR 74), (1, jI a0), (2, jI a1), (3, jI a2)]) (by decide +kernel) hl (Nat.le_of_ble_eq_true rfl) rfl fun X C hN hn hR hr hnm hno hq => ?_
  have B : jB X cX10_goes RX10 7 SKF.length rm_X10_goes (some .int) := ⟨C, hN, Nat.le_of_eq hn, hR, hr⟩
  refine B_blk B jlkX10_ok jcl_SKF [.iload_n 3, .istore 4, .iconst 0, .istore 5] (by decide +kernel) (ls' := [(0, jR 74), (1, jI a0), (2, jI a1), (3, jI a2), (4, jI a2), (5, jI 0)]) (st' := []) rfl (p1 := 6) rfl ?_
  refine J_pick [0, 1, 2, 4, 5] (ls' := [(0, jR 74), (1, jI a0), (2, jI a1), (4, jI a2), (5, jI 0)]) rfl ?_
  exact t_X10_goes_L6 B jFU a0 a1 a2 0 m _ hf hq

def rm_X10_nextOrder : Room := { frames := 2, cells := 0, slots := 0, locals := 64 }
def f_X10_nextOrder_L100 : Nat → Int → Int → jMu → Option (Int × jMu)
  | 0, _, _, _ => none
  | q + 1, v5, v6, m => (if v6 ≤ v5 then some (1, m) else (if 0 ≤ v5 ∧ v5 < 6 then (if 0 ≤ v6 ∧ v6 < 6 then (if 0 ≤ v5 ∧ v5 < 6 then (jlt (jup m 82 v5 (m 82 v6)) fun m3 => (if 0 ≤ v6 ∧ v6 < 6 then (jlt (jup m3 82 v6 (m 82 v5)) fun m4 => f_X10_nextOrder_L100 q (jW (v5 + 1)) (jW (v6 + (-1))) m4) else none)) else none) else none) else none))
def f_X10_nextOrder_L41 : Nat → Int → Int → Int → jMu → Option (Int × jMu)
  | 0, _, _, _, _ => none
  | q + 1, v1, v2, v3, m => (if 0 ≤ v3 ∧ v3 < 6 then (if 0 ≤ v2 ∧ v2 < 6 then (if m 82 v2 ≤ m 82 v3 then (if 0 ≤ v2 ∧ v2 < 6 then (if 0 ≤ v3 ∧ v3 < 6 then (if 0 ≤ v2 ∧ v2 < 6 then (jlt (jup m 82 v2 (m 82 v3)) fun m1 => (if 0 ≤ v3 ∧ v3 < 6 then (jlt (jup m1 82 v3 (m 82 v2)) fun m2 => f_X10_nextOrder_L100 jFU (jW (v2 + 1)) (jW (v1 - 1)) m2) else none)) else none) else none) else none) else f_X10_nextOrder_L41 q v1 v2 (jW (v3 + (-1))) m) else none) else none)
def f_X10_nextOrder_L4 : Nat → Int → Int → jMu → Option (Int × jMu)
  | 0, _, _, _ => none
  | q + 1, v1, v2, m => (if v2 < 0 then (if 0 ≤ v2 then f_X10_nextOrder_L41 jFU v1 v2 (jW (v1 - 1)) m else some (0, m)) else (if 0 ≤ v2 ∧ v2 < 6 then (if 0 ≤ jW (v2 + 1) ∧ jW (v2 + 1) < 6 then (if m 82 v2 ≤ m 82 (jW (v2 + 1)) then (if 0 ≤ v2 then f_X10_nextOrder_L41 jFU v1 v2 (jW (v1 - 1)) m else some (0, m)) else f_X10_nextOrder_L4 q v1 (jW (v2 + (-1))) m) else none) else none))
def f_X10_nextOrder (a0 : Int) (m : jMu) : Option (Int × jMu) :=
  f_X10_nextOrder_L4 jFU a0 (jW (a0 - 2)) m
theorem t_X10_nextOrder_L100 {X : jX} (B : jB X cX10_nextOrder RX10 7 SKF.length rm_X10_nextOrder (some .boolean)) : ∀ (q : Nat) (v5 : Int) (v6 : Int) (m : jMu) (r : (Int × jMu)), f_X10_nextOrder_L100 q v5 v6 m = some r → jQ X (.inl (some (jI r.1))) SKF r.2 rm_X10_nextOrder.cells rm_X10_nextOrder.slots → J X SKF m 0 0 100 [(0, jR 74), (5, jI v5), (6, jI v6)] [] := by
  intro q
  induction q with
  | zero =>
    intro v5 v6 m r hf
    rw [f_X10_nextOrder_L100] at hf
    cases hf
  | succ q ih =>
    intro v5 v6 m r hf hq
    rw [f_X10_nextOrder_L100] at hf
    refine B_blk B jlkX10_ok jcl_SKF [.iload 5, .iload 6] (by decide +kernel) (ls' := [(0, jR 74), (5, jI v5), (6, jI v6)]) (st' := [jI v6, jI v5]) rfl (p1 := 104) rfl ?_
    refine J_icmp_ge B.1 (off := 44) (tgt := 148) (by decide +kernel) (by decide) hf (fun hf => ?_) (fun hf => ?_)
    · refine B_blk B jlkX10_ok jcl_SKF [.iconst 1] (by decide +kernel) (ls' := [(0, jR 74), (5, jI v5), (6, jI v6)]) (st' := [jI 1]) rfl (p1 := 149) rfl ?_
      cases hf
      exact B_retZ B (Or.inr rfl) hq rfl (Nat.le_of_ble_eq_true rfl) (Nat.le_of_ble_eq_true rfl) (by decide +kernel)
    · refine B_blk B jlkX10_ok jcl_SKF [.aload_n 0, .getfield 36, .iload 5] (by decide +kernel) (ls' := [(0, jR 74), (5, jI v5), (6, jI v6)]) (st' := [jI v5, jR 82]) rfl (p1 := 113) rfl ?_
      obtain ⟨g8, hf⟩ := jgd hf
      refine K_iald (lenI := 6) B rfl rfl g8 (by decide +kernel) ?_
      refine B_blk B jlkX10_ok jcl_SKF [.istore 4, .aload_n 0, .getfield 36, .iload 5, .aload_n 0, .getfield 36, .iload 6] (by decide +kernel) (ls' := [(0, jR 74), (4, jI (m 82 v5)), (5, jI v5), (6, jI v6)]) (st' := [jI v6, jR 82, jI v5, jR 82]) rfl (p1 := 128) rfl ?_
      obtain ⟨g7, hf⟩ := jgd hf
      refine K_iald (lenI := 6) B rfl rfl g7 (by decide +kernel) ?_
      obtain ⟨g6, hf⟩ := jgd hf
      refine K_iast (lenI := 6) B rfl rfl g6 (by decide +kernel) ?_
      obtain ⟨m3, hm3, hf⟩ := jlt_s hf
      rw [hm3]
      refine B_blk B jlkX10_ok jcl_SKF [.aload_n 0, .getfield 36, .iload 6, .iload 4] (by decide +kernel) (ls' := [(0, jR 74), (4, jI (m 82 v5)), (5, jI v5), (6, jI v6)]) (st' := [jI (m 82 v5), jI v6, jR 82]) rfl (p1 := 138) rfl ?_
      obtain ⟨g5, hf⟩ := jgd hf
      refine K_iast (lenI := 6) B rfl rfl g5 (by decide +kernel) ?_
      obtain ⟨m4, hm4, hf⟩ := jlt_s hf
      rw [hm4]
      refine B_blk B jlkX10_ok jcl_SKF [.iinc 5 1, .iinc 6 (-1), .goto (-45)] (by decide +kernel) (ls' := [(0, jR 74), (4, jI (m 82 v5)), (5, jI (jW (v5 + 1))), (6, jI (jW (v6 + (-1))))]) (st' := []) rfl (p1 := 100) rfl ?_
      refine J_pick [0, 2, 3] (ls' := [(0, jR 74), (5, jI (jW (v5 + 1))), (6, jI (jW (v6 + (-1))))]) rfl ?_
      exact ih (jW (v5 + 1)) (jW (v6 + (-1))) m4 _ hf hq
theorem t_X10_nextOrder_L41 {X : jX} (B : jB X cX10_nextOrder RX10 7 SKF.length rm_X10_nextOrder (some .boolean)) : ∀ (q : Nat) (v1 : Int) (v2 : Int) (v3 : Int) (m : jMu) (r : (Int × jMu)), f_X10_nextOrder_L41 q v1 v2 v3 m = some r → jQ X (.inl (some (jI r.1))) SKF r.2 rm_X10_nextOrder.cells rm_X10_nextOrder.slots → J X SKF m 0 0 41 [(0, jR 74), (1, jI v1), (2, jI v2), (3, jI v3)] [] := by
  intro q
  induction q with
  | zero =>
    intro v1 v2 v3 m r hf
    rw [f_X10_nextOrder_L41] at hf
    cases hf
  | succ q ih =>
    intro v1 v2 v3 m r hf hq
    rw [f_X10_nextOrder_L41] at hf
    refine B_blk B jlkX10_ok jcl_SKF [.aload_n 0, .getfield 36, .iload_n 3] (by decide +kernel) (ls' := [(0, jR 74), (1, jI v1), (2, jI v2), (3, jI v3)]) (st' := [jI v3, jR 82]) rfl (p1 := 46) rfl ?_
    obtain ⟨g14, hf⟩ := jgd hf
    refine K_iald (lenI := 6) B rfl rfl g14 (by decide +kernel) ?_
    refine B_blk B jlkX10_ok jcl_SKF [.aload_n 0, .getfield 36, .iload_n 2] (by decide +kernel) (ls' := [(0, jR 74), (1, jI v1), (2, jI v2), (3, jI v3)]) (st' := [jI v2, jR 82, jI (m 82 v3)]) rfl (p1 := 52) rfl ?_
    obtain ⟨g13, hf⟩ := jgd hf
    refine K_iald (lenI := 6) B rfl rfl g13 (by decide +kernel) ?_
    refine J_icmp_ge B.1 (off := 9) (tgt := 62) (by decide +kernel) (by decide) hf (fun hf => ?_) (fun hf => ?_)
    · refine B_blk B jlkX10_ok jcl_SKF [.aload_n 0, .getfield 36, .iload_n 2] (by decide +kernel) (ls' := [(0, jR 74), (1, jI v1), (2, jI v2), (3, jI v3)]) (st' := [jI v2, jR 82]) rfl (p1 := 67) rfl ?_
      obtain ⟨g12, hf⟩ := jgd hf
      refine K_iald (lenI := 6) B rfl rfl g12 (by decide +kernel) ?_
      refine B_blk B jlkX10_ok jcl_SKF [.istore 4, .aload_n 0, .getfield 36, .iload_n 2, .aload_n 0, .getfield 36, .iload_n 3] (by decide +kernel) (ls' := [(0, jR 74), (1, jI v1), (2, jI v2), (3, jI v3), (4, jI (m 82 v2))]) (st' := [jI v3, jR 82, jI v2, jR 82]) rfl (p1 := 80) rfl ?_
      obtain ⟨g11, hf⟩ := jgd hf
      refine K_iald (lenI := 6) B rfl rfl g11 (by decide +kernel) ?_
      obtain ⟨g10, hf⟩ := jgd hf
      refine K_iast (lenI := 6) B rfl rfl g10 (by decide +kernel) ?_
      obtain ⟨m1, hm1, hf⟩ := jlt_s hf
      rw [hm1]
      refine B_blk B jlkX10_ok jcl_SKF [.aload_n 0, .getfield 36, .iload_n 3, .iload 4] (by decide +kernel) (ls' := [(0, jR 74), (1, jI v1), (2, jI v2), (3, jI v3), (4, jI (m 82 v2))]) (st' := [jI (m 82 v2), jI v3, jR 82]) rfl (p1 := 89) rfl ?_
      obtain ⟨g9, hf⟩ := jgd hf
      refine K_iast (lenI := 6) B rfl rfl g9 (by decide +kernel) ?_
      obtain ⟨m2, hm2, hf⟩ := jlt_s hf
      rw [hm2]
      refine B_blk B jlkX10_ok jcl_SKF [.iload_n 2, .iconst 1, .iadd, .istore 5, .iload_n 1, .iconst 1, .isub, .istore 6] (by decide +kernel) (ls' := [(0, jR 74), (1, jI v1), (2, jI v2), (3, jI v3), (4, jI (m 82 v2)), (5, jI (jW (v2 + 1))), (6, jI (jW (v1 - 1)))]) (st' := []) rfl (p1 := 100) rfl ?_
      refine J_pick [0, 5, 6] (ls' := [(0, jR 74), (5, jI (jW (v2 + 1))), (6, jI (jW (v1 - 1)))]) rfl ?_
      exact t_X10_nextOrder_L100 B jFU (jW (v2 + 1)) (jW (v1 - 1)) m2 _ hf hq
    · refine B_blk B jlkX10_ok jcl_SKF [.iinc 3 (-1), .goto (-18)] (by decide +kernel) (ls' := [(0, jR 74), (1, jI v1), (2, jI v2), (3, jI (jW (v3 + (-1))))]) (st' := []) rfl (p1 := 41) rfl ?_
      exact ih v1 v2 (jW (v3 + (-1))) m _ hf hq
theorem t_X10_nextOrder_L4 {X : jX} (B : jB X cX10_nextOrder RX10 7 SKF.length rm_X10_nextOrder (some .boolean)) : ∀ (q : Nat) (v1 : Int) (v2 : Int) (m : jMu) (r : (Int × jMu)), f_X10_nextOrder_L4 q v1 v2 m = some r → jQ X (.inl (some (jI r.1))) SKF r.2 rm_X10_nextOrder.cells rm_X10_nextOrder.slots → J X SKF m 0 0 4 [(0, jR 74), (1, jI v1), (2, jI v2)] [] := by
  intro q
  induction q with
  | zero =>
    intro v1 v2 m r hf
    rw [f_X10_nextOrder_L4] at hf
    cases hf
  | succ q ih =>
    intro v1 v2 m r hf hq
    rw [f_X10_nextOrder_L4] at hf
    refine B_blk B jlkX10_ok jcl_SKF [.iload_n 2] (by decide +kernel) (ls' := [(0, jR 74), (1, jI v1), (2, jI v2)]) (st' := [jI v2]) rfl (p1 := 5) rfl ?_
    refine J_if_lt B.1 (off := 26) (tgt := 31) (by decide +kernel) (by decide) hf (fun hf => ?_) (fun hf => ?_)
    · refine B_blk B jlkX10_ok jcl_SKF [.iload_n 2] (by decide +kernel) (ls' := [(0, jR 74), (1, jI v1), (2, jI v2)]) (st' := [jI v2]) rfl (p1 := 32) rfl ?_
      refine J_if_ge B.1 (off := 5) (tgt := 37) (by decide +kernel) (by decide) hf (fun hf => ?_) (fun hf => ?_)
      · refine B_blk B jlkX10_ok jcl_SKF [.iload_n 1, .iconst 1, .isub, .istore_n 3] (by decide +kernel) (ls' := [(0, jR 74), (1, jI v1), (2, jI v2), (3, jI (jW (v1 - 1)))]) (st' := []) rfl (p1 := 41) rfl ?_
        exact t_X10_nextOrder_L41 B jFU v1 v2 (jW (v1 - 1)) m _ hf hq
      · refine B_blk B jlkX10_ok jcl_SKF [.iconst 0] (by decide +kernel) (ls' := [(0, jR 74), (1, jI v1), (2, jI v2)]) (st' := [jI 0]) rfl (p1 := 36) rfl ?_
        cases hf
        exact B_retZ B (Or.inl rfl) hq rfl (Nat.le_of_ble_eq_true rfl) (Nat.le_of_ble_eq_true rfl) (by decide +kernel)
    · refine B_blk B jlkX10_ok jcl_SKF [.aload_n 0, .getfield 36, .iload_n 2] (by decide +kernel) (ls' := [(0, jR 74), (1, jI v1), (2, jI v2)]) (st' := [jI v2, jR 82]) rfl (p1 := 13) rfl ?_
      obtain ⟨g16, hf⟩ := jgd hf
      refine K_iald (lenI := 6) B rfl rfl g16 (by decide +kernel) ?_
      refine B_blk B jlkX10_ok jcl_SKF [.aload_n 0, .getfield 36, .iload_n 2, .iconst 1, .iadd] (by decide +kernel) (ls' := [(0, jR 74), (1, jI v1), (2, jI v2)]) (st' := [jI (jW (v2 + 1)), jR 82, jI (m 82 v2)]) rfl (p1 := 21) rfl ?_
      obtain ⟨g15, hf⟩ := jgd hf
      refine K_iald (lenI := 6) B rfl rfl g15 (by decide +kernel) ?_
      refine J_icmp_le B.1 (off := 9) (tgt := 31) (by decide +kernel) (by decide) hf (fun hf => ?_) (fun hf => ?_)
      · refine B_blk B jlkX10_ok jcl_SKF [.iload_n 2] (by decide +kernel) (ls' := [(0, jR 74), (1, jI v1), (2, jI v2)]) (st' := [jI v2]) rfl (p1 := 32) rfl ?_
        refine J_if_ge B.1 (off := 5) (tgt := 37) (by decide +kernel) (by decide) hf (fun hf => ?_) (fun hf => ?_)
        · refine B_blk B jlkX10_ok jcl_SKF [.iload_n 1, .iconst 1, .isub, .istore_n 3] (by decide +kernel) (ls' := [(0, jR 74), (1, jI v1), (2, jI v2), (3, jI (jW (v1 - 1)))]) (st' := []) rfl (p1 := 41) rfl ?_
          exact t_X10_nextOrder_L41 B jFU v1 v2 (jW (v1 - 1)) m _ hf hq
        · refine B_blk B jlkX10_ok jcl_SKF [.iconst 0] (by decide +kernel) (ls' := [(0, jR 74), (1, jI v1), (2, jI v2)]) (st' := [jI 0]) rfl (p1 := 36) rfl ?_
          cases hf
          exact B_retZ B (Or.inl rfl) hq rfl (Nat.le_of_ble_eq_true rfl) (Nat.le_of_ble_eq_true rfl) (by decide +kernel)
      · refine B_blk B jlkX10_ok jcl_SKF [.iinc 2 (-1), .goto (-24)] (by decide +kernel) (ls' := [(0, jR 74), (1, jI v1), (2, jI (jW (v2 + (-1))))]) (st' := []) rfl (p1 := 4) rfl ?_
        exact ih v1 (jW (v2 + (-1))) m _ hf hq
theorem t_X10_nextOrder {l : Launch} {G : jG} (hl : l.stackTraces = false) {a0 : Int} {m : jMu} {r : (Int × jMu)} (hf : f_X10_nextOrder a0 m = some r) : jCt l G yX10_nextOrder (.code yX10_nextOrder cX10_nextOrder 7 (some .boolean) :: jWG) rm_X10_nextOrder [jR 74, jI a0] SKF m (.inl (some (jI r.1))) SKF r.2 := by
  unfold f_X10_nextOrder at hf
  refine J_start (ls0 := [(0, jR 74), (1, jI a0)]) (by decide +kernel) hl (Nat.le_of_ble_eq_true rfl) rfl fun X C hN hn hR hr hnm hno hq => ?_
  have B : jB X cX10_nextOrder RX10 7 SKF.length rm_X10_nextOrder (some .boolean) := ⟨C, hN, Nat.le_of_eq hn, hR, hr⟩
  refine B_blk B jlkX10_ok jcl_SKF [.iload_n 1, .iconst 2, .isub, .istore_n 2] (by decide +kernel) (ls' := [(0, jR 74), (1, jI a0), (2, jI (jW (a0 - 2)))]) (st' := []) rfl (p1 := 4) rfl ?_
  exact t_X10_nextOrder_L4 B jFU a0 (jW (a0 - 2)) m _ hf hq

def rm_X10_count1 : Room := { frames := 2, cells := 0, slots := 0, locals := 64 }
def f_X10_count1_L4 : Nat → Int → Int → Int → Option Int
  | 0, _, _, _ => none
  | q + 1, v0, v1, v2 => (if 8 ≤ v2 then some v1 else f_X10_count1_L4 q v0 (jW (v1 + jAn (jSr v0 v2) 1)) (jW (v2 + 1)))
def f_X10_count1 (a0 : Int) : Option Int :=
  f_X10_count1_L4 jFU a0 0 0
theorem t_X10_count1_L4 {X : jX} {S : List jSh} (hcl : jcl S) (B : jB X cX10_count1 RX10 3 S.length rm_X10_count1 (some .int)) {μ : jMu} : ∀ (q : Nat) (v0 : Int) (v1 : Int) (v2 : Int) (r : Int), f_X10_count1_L4 q v0 v1 v2 = some r → jQ X (.inl (some (jI r))) S μ rm_X10_count1.cells rm_X10_count1.slots → J X S μ 0 0 4 [(0, jI v0), (1, jI v1), (2, jI v2)] [] := by
  intro q
  induction q with
  | zero =>
    intro v0 v1 v2 r hf
    rw [f_X10_count1_L4] at hf
    cases hf
  | succ q ih =>
    intro v0 v1 v2 r hf hq
    rw [f_X10_count1_L4] at hf
    refine B_blk B jlkX10_ok hcl [.iload_n 2, .bipush 8] (by decide +kernel) (ls' := [(0, jI v0), (1, jI v1), (2, jI v2)]) (st' := [jI 8, jI v2]) rfl (p1 := 7) rfl ?_
    refine J_icmp_ge B.1 (off := 17) (tgt := 24) (by decide +kernel) (by decide) hf (fun hf => ?_) (fun hf => ?_)
    · refine B_blk B jlkX10_ok hcl [.iload_n 1] (by decide +kernel) (ls' := [(0, jI v0), (1, jI v1), (2, jI v2)]) (st' := [jI v1]) rfl (p1 := 25) rfl ?_
      cases hf
      exact B_retI B hq rfl (Nat.le_of_ble_eq_true rfl) (Nat.le_of_ble_eq_true rfl) (by decide +kernel)
    · refine B_blk B jlkX10_ok hcl [.iload_n 1, .iload_n 0, .iload_n 2, .ishr, .iconst 1, .iand, .iadd, .istore_n 1, .iinc 2 1, .goto (-17)] (by decide +kernel) (ls' := [(0, jI v0), (1, jI (jW (v1 + jAn (jSr v0 v2) 1))), (2, jI (jW (v2 + 1)))]) (st' := []) rfl (p1 := 4) rfl ?_
      exact ih v0 (jW (v1 + jAn (jSr v0 v2) 1)) (jW (v2 + 1)) _ hf hq
theorem t_X10_count1 {l : Launch} {G : jG} (hl : l.stackTraces = false) {S : List jSh} (hcl : jcl S) {a0 : Int} {μ : jMu} {r : Int} (hf : f_X10_count1 a0 = some r) : jCt l G yX10_count1 (.code yX10_count1 cX10_count1 3 (some .int) :: jWG) rm_X10_count1 [jI a0] S μ (.inl (some (jI r))) S μ := by
  unfold f_X10_count1 at hf
  refine J_start (ls0 := [(0, jI a0)]) (by decide +kernel) hl (Nat.le_of_ble_eq_true rfl) rfl fun X C hN hn hR hr hnm hno hq => ?_
  have B : jB X cX10_count1 RX10 3 S.length rm_X10_count1 (some .int) := ⟨C, hN, Nat.le_of_eq hn, hR, hr⟩
  refine B_blk B jlkX10_ok hcl [.iconst 0, .istore_n 1, .iconst 0, .istore_n 2] (by decide +kernel) (ls' := [(0, jI a0), (1, jI 0), (2, jI 0)]) (st' := []) rfl (p1 := 4) rfl ?_
  exact t_X10_count1_L4 hcl B jFU a0 0 0 _ hf hq

def rm_X10_order : Room := { frames := 75, cells := 0, slots := 0, locals := 1081 }
def f_X10_order_L175 : Nat → Int → Int → Int → Int → Int → Int → Int → jMu → Option (Int × jMu)
  | 0, _, _, _, _, _, _, _, _ => none
  | q + 1, v2, v4, v5, v7, v8, v9, v10, m => (if v10 = 0 then (if v5 = 0 then some (v8, m) else some (v9, m)) else (f_X10_goes v7 v2 v4 m).bind fun r5 => (if r5 = (-1) then (f_X10_nextOrder v7 m).bind fun r6 => f_X10_order_L175 q v2 v4 v5 v7 v8 v9 r6.1 r6.2 else (if v8 = (-1) then (f_X10_nextOrder v7 m).bind fun r7 => f_X10_order_L175 q v2 v4 v5 v7 r5 (m 82 0) r7.1 r7.2 else (if v8 ≤ r5 then (f_X10_nextOrder v7 m).bind fun r8 => f_X10_order_L175 q v2 v4 v5 v7 v8 v9 r8.1 r8.2 else (f_X10_nextOrder v7 m).bind fun r9 => f_X10_order_L175 q v2 v4 v5 v7 r5 (m 82 0) r9.1 r9.2))))
def f_X10_order_L109 : Nat → Int → Int → Int → Int → Int → Int → jMu → Option (Int × jMu)
  | 0, _, _, _, _, _, _, _ => none
  | q + 1, v2, v3, v4, v5, v7, v8, m => (if m 75 0 ≤ v8 then (if v5 = 1 then (f_X10_goes v7 v2 v4 m).bind fun r4 => some (r4, m) else f_X10_order_L175 jFU v2 v4 v5 v7 (-1) (-1) 1 m) else (if jAn (jSr v3 v8) 1 = 0 then f_X10_order_L109 q v2 v3 v4 v5 v7 (jW (v8 + 1)) m else (if 0 ≤ v7 ∧ v7 < 6 then (jlt (jup m 82 v7 v8) fun m10 => f_X10_order_L109 q v2 v3 v4 v5 (jW (v7 + 1)) (jW (v8 + 1)) m10) else none)))
def f_X10_order_J67 (v1 : Int) (v2 : Int) (v3 : Int) (v4 : Int) (v5 : Int) (m : jMu) : Option (Int × jMu) :=
  (jlt (jup m 74 0 2) fun m2 => (if m2 74 0 ≤ 0 then (f_X10_lays v1 m2).bind fun r3 => f_X10_order_L109 jFU v2 v3 v4 v5 0 0 r3 else some (0, m2)))
def f_X10_order_J29 (v1 : Int) (v2 : Int) (v3 : Int) (v4 : Int) (v5 : Int) (s0 : Int) (m : jMu) : Option (Int × jMu) :=
  (if s0 = 0 then (if v3 < 1 then f_X10_order_J67 v1 v2 v3 v4 v5 m else (if jSl 1 (m 75 0) ≤ v3 then f_X10_order_J67 v1 v2 v3 v4 v5 m else (f_X10_count1 v3).bind fun r12 => (if r12 ≤ 6 then (f_X10_isIn v5 0 2).bind fun r13 => (if r13 = 0 then (jlt (jup m 74 0 3) fun m14 => (if m14 74 0 ≤ 0 then (f_X10_lays v1 m14).bind fun r15 => f_X10_order_L109 jFU v2 v3 v4 v5 0 0 r15 else some (0, m14))) else (jlt (jup m 74 0 0) fun m16 => (if m16 74 0 ≤ 0 then (f_X10_lays v1 m16).bind fun r17 => f_X10_order_L109 jFU v2 v3 v4 v5 0 0 r17 else some (0, m16)))) else f_X10_order_J67 v1 v2 v3 v4 v5 m))) else (jlt (jup m 74 0 1) fun m18 => (if m18 74 0 ≤ 0 then (f_X10_lays v1 m18).bind fun r19 => f_X10_order_L109 jFU v2 v3 v4 v5 0 0 r19 else some (0, m18))))
def f_X10_order_J24 (v1 : Int) (v2 : Int) (v3 : Int) (v4 : Int) (v5 : Int) (m : jMu) : Option (Int × jMu) :=
  f_X10_order_J29 v1 v2 v3 v4 v5 1 m
def f_X10_order (a0 : Int) (a1 : Int) (a2 : Int) (a3 : Int) (a4 : Int) (m : jMu) : Option (Int × jMu) :=
  (f_X10_isTerms a0 m).bind fun r1 => (if r1 = 0 then f_X10_order_J24 a0 a1 a2 a3 a4 m else (f_X10_isGang a1 m).bind fun r20 => (if r20 = 0 then f_X10_order_J24 a0 a1 a2 a3 a4 m else (f_X10_isMoment a3).bind fun r21 => (if r21 = 0 then f_X10_order_J24 a0 a1 a2 a3 a4 m else f_X10_order_J29 a0 a1 a2 a3 a4 0 m)))
theorem t_X10_order_L175 {X : jX} (B : jB X cX10_order RX10 12 SKF.length rm_X10_order (some .int)) : ∀ (q : Nat) (v2 : Int) (v4 : Int) (v5 : Int) (v7 : Int) (v8 : Int) (v9 : Int) (v10 : Int) (m : jMu) (r : (Int × jMu)), f_X10_order_L175 q v2 v4 v5 v7 v8 v9 v10 m = some r → jQ X (.inl (some (jI r.1))) SKF r.2 rm_X10_order.cells rm_X10_order.slots → J X SKF m 0 0 175 [(0, jR 74), (2, jI v2), (4, jI v4), (5, jI v5), (7, jI v7), (8, jI v8), (9, jI v9), (10, jI v10)] [] := by
  intro q
  induction q with
  | zero =>
    intro v2 v4 v5 v7 v8 v9 v10 m r hf
    rw [f_X10_order_L175] at hf
    cases hf
  | succ q ih =>
    intro v2 v4 v5 v7 v8 v9 v10 m r hf hq
    rw [f_X10_order_L175] at hf
    refine B_blk B jlkX10_ok jcl_SKF [.iload 10] (by decide +kernel) (ls' := [(0, jR 74), (2, jI v2), (4, jI v4), (5, jI v5), (7, jI v7), (8, jI v8), (9, jI v9), (10, jI v10)]) (st' := [jI v10]) rfl (p1 := 177) rfl ?_
    refine J_if_eq B.1 (off := 56) (tgt := 233) (by decide +kernel) (by decide) hf (fun hf => ?_) (fun hf => ?_)
    · refine B_blk B jlkX10_ok jcl_SKF [.iload 5] (by decide +kernel) (ls' := [(0, jR 74), (2, jI v2), (4, jI v4), (5, jI v5), (7, jI v7), (8, jI v8), (9, jI v9), (10, jI v10)]) (st' := [jI v5]) rfl (p1 := 235) rfl ?_
      refine J_if_ne B.1 (off := 8) (tgt := 243) (by decide +kernel) (by decide) hf (fun hf => ?_) (fun hf => ?_)
      · refine B_blk B jlkX10_ok jcl_SKF [.iload 8, .goto 5] (by decide +kernel) (ls' := [(0, jR 74), (2, jI v2), (4, jI v4), (5, jI v5), (7, jI v7), (8, jI v8), (9, jI v9), (10, jI v10)]) (st' := [jI v8]) rfl (p1 := 245) rfl ?_
        cases hf
        exact B_retI B hq rfl (Nat.le_of_ble_eq_true rfl) (Nat.le_of_ble_eq_true rfl) (by decide +kernel)
      · refine B_blk B jlkX10_ok jcl_SKF [.iload 9] (by decide +kernel) (ls' := [(0, jR 74), (2, jI v2), (4, jI v4), (5, jI v5), (7, jI v7), (8, jI v8), (9, jI v9), (10, jI v10)]) (st' := [jI v9]) rfl (p1 := 245) rfl ?_
        cases hf
        exact B_retI B hq rfl (Nat.le_of_ble_eq_true rfl) (Nat.le_of_ble_eq_true rfl) (by decide +kernel)
    · refine B_blk B jlkX10_ok jcl_SKF [.aload_n 0, .iload 7, .iload_n 2, .iload 4] (by decide +kernel) (ls' := [(0, jR 74), (2, jI v2), (4, jI v4), (5, jI v5), (7, jI v7), (8, jI v8), (9, jI v9), (10, jI v10)]) (st' := [jI v4, jI v2, jI v7, jR 74]) rfl (p1 := 186) rfl ?_
      obtain ⟨r5, h5, hf⟩ := jbd hf
      refine B_callV B (Nat.le_refl _) (μ' := m) (k' := 0) (n' := 0) ca_X10_goes in_X10_goes se_X10_goes lk_X10_272 (t_X10_goes B.tr h5) (Nat.le_refl _) rfl rfl rfl (rest := []) rfl rfl (Nat.le_of_ble_eq_true rfl) (by decide +kernel) rfl rfl (st' := [jI r5]) rfl ?_
      refine B_blk B jlkX10_ok jcl_SKF [.istore 11, .iload 11, .iconst (-1)] (by decide +kernel) (ls' := [(0, jR 74), (2, jI v2), (4, jI v4), (5, jI v5), (7, jI v7), (8, jI v8), (9, jI v9), (10, jI v10), (11, jI r5)]) (st' := [jI (-1), jI r5]) rfl (p1 := 194) rfl ?_
      refine J_icmp_eq B.1 (off := 28) (tgt := 222) (by decide +kernel) (by decide) hf (fun hf => ?_) (fun hf => ?_)
      · refine B_blk B jlkX10_ok jcl_SKF [.aload_n 0, .iload 7] (by decide +kernel) (ls' := [(0, jR 74), (2, jI v2), (4, jI v4), (5, jI v5), (7, jI v7), (8, jI v8), (9, jI v9), (10, jI v10), (11, jI r5)]) (st' := [jI v7, jR 74]) rfl (p1 := 225) rfl ?_
        obtain ⟨r6, h6, hf⟩ := jbd hf
        refine B_callV B (Nat.le_refl _) (μ' := r6.2) (k' := 0) (n' := 0) ca_X10_nextOrder in_X10_nextOrder se_X10_nextOrder lk_X10_275 (t_X10_nextOrder B.tr h6) (Nat.le_refl _) rfl rfl rfl (rest := []) rfl rfl (Nat.le_of_ble_eq_true rfl) (by decide +kernel) rfl rfl (st' := [jI r6.1]) rfl ?_
        refine B_blk B jlkX10_ok jcl_SKF [.istore 10, .goto (-55)] (by decide +kernel) (ls' := [(0, jR 74), (2, jI v2), (4, jI v4), (5, jI v5), (7, jI v7), (8, jI v8), (9, jI v9), (10, jI r6.1), (11, jI r5)]) (st' := []) rfl (p1 := 175) rfl ?_
        refine J_pick [0, 1, 2, 3, 4, 5, 6, 7] (ls' := [(0, jR 74), (2, jI v2), (4, jI v4), (5, jI v5), (7, jI v7), (8, jI v8), (9, jI v9), (10, jI r6.1)]) rfl ?_
        exact ih v2 v4 v5 v7 v8 v9 r6.1 r6.2 _ hf hq
      · refine B_blk B jlkX10_ok jcl_SKF [.iload 8, .iconst (-1)] (by decide +kernel) (ls' := [(0, jR 74), (2, jI v2), (4, jI v4), (5, jI v5), (7, jI v7), (8, jI v8), (9, jI v9), (10, jI v10), (11, jI r5)]) (st' := [jI (-1), jI v8]) rfl (p1 := 200) rfl ?_
        refine J_icmp_eq B.1 (off := 10) (tgt := 210) (by decide +kernel) (by decide) hf (fun hf => ?_) (fun hf => ?_)
        · refine B_blk B jlkX10_ok jcl_SKF [.iload 11, .istore 8, .aload_n 0, .getfield 36, .iconst 0] (by decide +kernel) (ls' := [(0, jR 74), (2, jI v2), (4, jI v4), (5, jI v5), (7, jI v7), (8, jI r5), (9, jI v9), (10, jI v10), (11, jI r5)]) (st' := [jI 0, jR 82]) rfl (p1 := 219) rfl ?_
          refine K_iald (lenI := 6) B rfl rfl (by decide) (by decide +kernel) ?_
          refine B_blk B jlkX10_ok jcl_SKF [.istore 9, .aload_n 0, .iload 7] (by decide +kernel) (ls' := [(0, jR 74), (2, jI v2), (4, jI v4), (5, jI v5), (7, jI v7), (8, jI r5), (9, jI (m 82 0)), (10, jI v10), (11, jI r5)]) (st' := [jI v7, jR 74]) rfl (p1 := 225) rfl ?_
          obtain ⟨r7, h7, hf⟩ := jbd hf
          refine B_callV B (Nat.le_refl _) (μ' := r7.2) (k' := 0) (n' := 0) ca_X10_nextOrder in_X10_nextOrder se_X10_nextOrder lk_X10_275 (t_X10_nextOrder B.tr h7) (Nat.le_refl _) rfl rfl rfl (rest := []) rfl rfl (Nat.le_of_ble_eq_true rfl) (by decide +kernel) rfl rfl (st' := [jI r7.1]) rfl ?_
          refine B_blk B jlkX10_ok jcl_SKF [.istore 10, .goto (-55)] (by decide +kernel) (ls' := [(0, jR 74), (2, jI v2), (4, jI v4), (5, jI v5), (7, jI v7), (8, jI r5), (9, jI (m 82 0)), (10, jI r7.1), (11, jI r5)]) (st' := []) rfl (p1 := 175) rfl ?_
          refine J_pick [0, 1, 2, 3, 4, 5, 6, 7] (ls' := [(0, jR 74), (2, jI v2), (4, jI v4), (5, jI v5), (7, jI v7), (8, jI r5), (9, jI (m 82 0)), (10, jI r7.1)]) rfl ?_
          exact ih v2 v4 v5 v7 r5 (m 82 0) r7.1 r7.2 _ hf hq
        · refine B_blk B jlkX10_ok jcl_SKF [.iload 11, .iload 8] (by decide +kernel) (ls' := [(0, jR 74), (2, jI v2), (4, jI v4), (5, jI v5), (7, jI v7), (8, jI v8), (9, jI v9), (10, jI v10), (11, jI r5)]) (st' := [jI v8, jI r5]) rfl (p1 := 207) rfl ?_
          refine J_icmp_ge B.1 (off := 15) (tgt := 222) (by decide +kernel) (by decide) hf (fun hf => ?_) (fun hf => ?_)
          · refine B_blk B jlkX10_ok jcl_SKF [.aload_n 0, .iload 7] (by decide +kernel) (ls' := [(0, jR 74), (2, jI v2), (4, jI v4), (5, jI v5), (7, jI v7), (8, jI v8), (9, jI v9), (10, jI v10), (11, jI r5)]) (st' := [jI v7, jR 74]) rfl (p1 := 225) rfl ?_
            obtain ⟨r8, h8, hf⟩ := jbd hf
            refine B_callV B (Nat.le_refl _) (μ' := r8.2) (k' := 0) (n' := 0) ca_X10_nextOrder in_X10_nextOrder se_X10_nextOrder lk_X10_275 (t_X10_nextOrder B.tr h8) (Nat.le_refl _) rfl rfl rfl (rest := []) rfl rfl (Nat.le_of_ble_eq_true rfl) (by decide +kernel) rfl rfl (st' := [jI r8.1]) rfl ?_
            refine B_blk B jlkX10_ok jcl_SKF [.istore 10, .goto (-55)] (by decide +kernel) (ls' := [(0, jR 74), (2, jI v2), (4, jI v4), (5, jI v5), (7, jI v7), (8, jI v8), (9, jI v9), (10, jI r8.1), (11, jI r5)]) (st' := []) rfl (p1 := 175) rfl ?_
            refine J_pick [0, 1, 2, 3, 4, 5, 6, 7] (ls' := [(0, jR 74), (2, jI v2), (4, jI v4), (5, jI v5), (7, jI v7), (8, jI v8), (9, jI v9), (10, jI r8.1)]) rfl ?_
            exact ih v2 v4 v5 v7 v8 v9 r8.1 r8.2 _ hf hq
          · refine B_blk B jlkX10_ok jcl_SKF [.iload 11, .istore 8, .aload_n 0, .getfield 36, .iconst 0] (by decide +kernel) (ls' := [(0, jR 74), (2, jI v2), (4, jI v4), (5, jI v5), (7, jI v7), (8, jI r5), (9, jI v9), (10, jI v10), (11, jI r5)]) (st' := [jI 0, jR 82]) rfl (p1 := 219) rfl ?_
            refine K_iald (lenI := 6) B rfl rfl (by decide) (by decide +kernel) ?_
            refine B_blk B jlkX10_ok jcl_SKF [.istore 9, .aload_n 0, .iload 7] (by decide +kernel) (ls' := [(0, jR 74), (2, jI v2), (4, jI v4), (5, jI v5), (7, jI v7), (8, jI r5), (9, jI (m 82 0)), (10, jI v10), (11, jI r5)]) (st' := [jI v7, jR 74]) rfl (p1 := 225) rfl ?_
            obtain ⟨r9, h9, hf⟩ := jbd hf
            refine B_callV B (Nat.le_refl _) (μ' := r9.2) (k' := 0) (n' := 0) ca_X10_nextOrder in_X10_nextOrder se_X10_nextOrder lk_X10_275 (t_X10_nextOrder B.tr h9) (Nat.le_refl _) rfl rfl rfl (rest := []) rfl rfl (Nat.le_of_ble_eq_true rfl) (by decide +kernel) rfl rfl (st' := [jI r9.1]) rfl ?_
            refine B_blk B jlkX10_ok jcl_SKF [.istore 10, .goto (-55)] (by decide +kernel) (ls' := [(0, jR 74), (2, jI v2), (4, jI v4), (5, jI v5), (7, jI v7), (8, jI r5), (9, jI (m 82 0)), (10, jI r9.1), (11, jI r5)]) (st' := []) rfl (p1 := 175) rfl ?_
            refine J_pick [0, 1, 2, 3, 4, 5, 6, 7] (ls' := [(0, jR 74), (2, jI v2), (4, jI v4), (5, jI v5), (7, jI v7), (8, jI r5), (9, jI (m 82 0)), (10, jI r9.1)]) rfl ?_
            exact ih v2 v4 v5 v7 r5 (m 82 0) r9.1 r9.2 _ hf hq
theorem t_X10_order_L109 {X : jX} (B : jB X cX10_order RX10 12 SKF.length rm_X10_order (some .int)) : ∀ (q : Nat) (v2 : Int) (v3 : Int) (v4 : Int) (v5 : Int) (v7 : Int) (v8 : Int) (m : jMu) (r : (Int × jMu)), f_X10_order_L109 q v2 v3 v4 v5 v7 v8 m = some r → jQ X (.inl (some (jI r.1))) SKF r.2 rm_X10_order.cells rm_X10_order.slots → J X SKF m 0 0 109 [(0, jR 74), (2, jI v2), (3, jI v3), (4, jI v4), (5, jI v5), (7, jI v7), (8, jI v8)] [] := by
  intro q
  induction q with
  | zero =>
    intro v2 v3 v4 v5 v7 v8 m r hf
    rw [f_X10_order_L109] at hf
    cases hf
  | succ q ih =>
    intro v2 v3 v4 v5 v7 v8 m r hf hq
    rw [f_X10_order_L109] at hf
    refine B_blk B jlkX10_ok jcl_SKF [.iload 8, .aload_n 0, .getfield 7, .iconst 0] (by decide +kernel) (ls' := [(0, jR 74), (2, jI v2), (3, jI v3), (4, jI v4), (5, jI v5), (7, jI v7), (8, jI v8)]) (st' := [jI 0, jR 75, jI v8]) rfl (p1 := 116) rfl ?_
    refine K_iald (lenI := 2083) B rfl rfl (by decide) (by decide +kernel) ?_
    refine J_icmp_ge B.1 (off := 33) (tgt := 150) (by decide +kernel) (by decide) hf (fun hf => ?_) (fun hf => ?_)
    · refine B_blk B jlkX10_ok jcl_SKF [.iload 5, .iconst 1] (by decide +kernel) (ls' := [(0, jR 74), (2, jI v2), (3, jI v3), (4, jI v4), (5, jI v5), (7, jI v7), (8, jI v8)]) (st' := [jI 1, jI v5]) rfl (p1 := 153) rfl ?_
      refine J_icmp_ne B.1 (off := 13) (tgt := 166) (by decide +kernel) (by decide) hf (fun hf => ?_) (fun hf => ?_)
      · refine B_blk B jlkX10_ok jcl_SKF [.aload_n 0, .iload 7, .iload_n 2, .iload 4] (by decide +kernel) (ls' := [(0, jR 74), (2, jI v2), (3, jI v3), (4, jI v4), (5, jI v5), (7, jI v7), (8, jI v8)]) (st' := [jI v4, jI v2, jI v7, jR 74]) rfl (p1 := 162) rfl ?_
        obtain ⟨r4, h4, hf⟩ := jbd hf
        refine B_callV B (Nat.le_refl _) (μ' := m) (k' := 0) (n' := 0) ca_X10_goes in_X10_goes se_X10_goes lk_X10_272 (t_X10_goes B.tr h4) (Nat.le_refl _) rfl rfl rfl (rest := []) rfl rfl (Nat.le_of_ble_eq_true rfl) (by decide +kernel) rfl rfl (st' := [jI r4]) rfl ?_
        cases hf
        exact B_retI B hq rfl (Nat.le_of_ble_eq_true rfl) (Nat.le_of_ble_eq_true rfl) (by decide +kernel)
      · refine B_blk B jlkX10_ok jcl_SKF [.iconst (-1), .istore 8, .iconst (-1), .istore 9, .iconst 1, .istore 10] (by decide +kernel) (ls' := [(0, jR 74), (2, jI v2), (3, jI v3), (4, jI v4), (5, jI v5), (7, jI v7), (8, jI (-1)), (9, jI (-1)), (10, jI 1)]) (st' := []) rfl (p1 := 175) rfl ?_
        refine J_pick [0, 1, 3, 4, 5, 6, 7, 8] (ls' := [(0, jR 74), (2, jI v2), (4, jI v4), (5, jI v5), (7, jI v7), (8, jI (-1)), (9, jI (-1)), (10, jI 1)]) rfl ?_
        exact t_X10_order_L175 B jFU v2 v4 v5 v7 (-1) (-1) 1 m _ hf hq
    · refine B_blk B jlkX10_ok jcl_SKF [.iload_n 3, .iload 8, .ishr, .iconst 1, .iand] (by decide +kernel) (ls' := [(0, jR 74), (2, jI v2), (3, jI v3), (4, jI v4), (5, jI v5), (7, jI v7), (8, jI v8)]) (st' := [jI (jAn (jSr v3 v8) 1)]) rfl (p1 := 126) rfl ?_
      refine J_if_ne B.1 (off := 6) (tgt := 132) (by decide +kernel) (by decide) hf (fun hf => ?_) (fun hf => ?_)
      · refine B_blk B jlkX10_ok jcl_SKF [.goto 15, .iinc 8 1, .goto (-38)] (by decide +kernel) (ls' := [(0, jR 74), (2, jI v2), (3, jI v3), (4, jI v4), (5, jI v5), (7, jI v7), (8, jI (jW (v8 + 1)))]) (st' := []) rfl (p1 := 109) rfl ?_
        exact ih v2 v3 v4 v5 v7 (jW (v8 + 1)) m _ hf hq
      · refine B_blk B jlkX10_ok jcl_SKF [.aload_n 0, .getfield 36, .iload 7, .iload 8] (by decide +kernel) (ls' := [(0, jR 74), (2, jI v2), (3, jI v3), (4, jI v4), (5, jI v5), (7, jI v7), (8, jI v8)]) (st' := [jI v8, jI v7, jR 82]) rfl (p1 := 140) rfl ?_
        obtain ⟨g11, hf⟩ := jgd hf
        refine K_iast (lenI := 6) B rfl rfl g11 (by decide +kernel) ?_
        obtain ⟨m10, hm10, hf⟩ := jlt_s hf
        rw [hm10]
        refine B_blk B jlkX10_ok jcl_SKF [.iinc 7 1, .iinc 8 1, .goto (-38)] (by decide +kernel) (ls' := [(0, jR 74), (2, jI v2), (3, jI v3), (4, jI v4), (5, jI v5), (7, jI (jW (v7 + 1))), (8, jI (jW (v8 + 1)))]) (st' := []) rfl (p1 := 109) rfl ?_
        exact ih v2 v3 v4 v5 (jW (v7 + 1)) (jW (v8 + 1)) m10 _ hf hq
theorem t_X10_order_J67 {X : jX} (B : jB X cX10_order RX10 12 SKF.length rm_X10_order (some .int)) (v1 : Int) (v2 : Int) (v3 : Int) (v4 : Int) (v5 : Int) (m : jMu) (r : (Int × jMu)) (hf : f_X10_order_J67 v1 v2 v3 v4 v5 m = some r) (hq : jQ X (.inl (some (jI r.1))) SKF r.2 rm_X10_order.cells rm_X10_order.slots) : J X SKF m 0 0 67 [(0, jR 74), (1, jI v1), (2, jI v2), (3, jI v3), (4, jI v4), (5, jI v5)] [jR 74] := by
  unfold f_X10_order_J67 at hf
  refine B_blk B jlkX10_ok jcl_SKF [.iconst 2, .goto 18] (by decide +kernel) (ls' := [(0, jR 74), (1, jI v1), (2, jI v2), (3, jI v3), (4, jI v4), (5, jI v5)]) (st' := [jI 2, jR 74]) rfl (p1 := 86) rfl ?_
  refine K_putI (jI' := 0) B jp_X10_51 rfl rfl rfl (by decide +kernel) ?_
  obtain ⟨m2, hm2, hf⟩ := jlt_s hf
  rw [hm2]
  refine B_blk B jlkX10_ok jcl_SKF [.aload_n 0, .getfield 51] (by decide +kernel) (ls' := [(0, jR 74), (1, jI v1), (2, jI v2), (3, jI v3), (4, jI v4), (5, jI v5)]) (st' := [jI (m2 74 0)]) rfl (p1 := 93) rfl ?_
  refine J_if_le B.1 (off := 5) (tgt := 98) (by decide +kernel) (by decide) hf (fun hf => ?_) (fun hf => ?_)
  · refine B_blk B jlkX10_ok jcl_SKF [.aload_n 0, .iload_n 1] (by decide +kernel) (ls' := [(0, jR 74), (1, jI v1), (2, jI v2), (3, jI v3), (4, jI v4), (5, jI v5)]) (st' := [jI v1, jR 74]) rfl (p1 := 100) rfl ?_
    obtain ⟨r3, h3, hf⟩ := jbd hf
    refine B_callV B (Nat.le_refl _) (μ' := r3) (k' := 0) (n' := 0) ca_X10_lays in_X10_lays se_X10_lays lk_X10_269 (t_X10_lays B.tr h3) (Nat.le_refl _) rfl rfl rfl (rest := []) rfl rfl (Nat.le_of_ble_eq_true rfl) (by decide +kernel) rfl rfl (st' := []) rfl ?_
    refine B_blk B jlkX10_ok jcl_SKF [.iconst 0, .istore 7, .iconst 0, .istore 8] (by decide +kernel) (ls' := [(0, jR 74), (1, jI v1), (2, jI v2), (3, jI v3), (4, jI v4), (5, jI v5), (7, jI 0), (8, jI 0)]) (st' := []) rfl (p1 := 109) rfl ?_
    refine J_pick [0, 2, 3, 4, 5, 6, 7] (ls' := [(0, jR 74), (2, jI v2), (3, jI v3), (4, jI v4), (5, jI v5), (7, jI 0), (8, jI 0)]) rfl ?_
    exact t_X10_order_L109 B jFU v2 v3 v4 v5 0 0 r3 _ hf hq
  · refine B_blk B jlkX10_ok jcl_SKF [.iconst 0] (by decide +kernel) (ls' := [(0, jR 74), (1, jI v1), (2, jI v2), (3, jI v3), (4, jI v4), (5, jI v5)]) (st' := [jI 0]) rfl (p1 := 97) rfl ?_
    cases hf
    exact B_retI B hq rfl (Nat.le_of_ble_eq_true rfl) (Nat.le_of_ble_eq_true rfl) (by decide +kernel)
theorem t_X10_order_J29 {X : jX} (B : jB X cX10_order RX10 12 SKF.length rm_X10_order (some .int)) (v1 : Int) (v2 : Int) (v3 : Int) (v4 : Int) (v5 : Int) (s0 : Int) (m : jMu) (r : (Int × jMu)) (hf : f_X10_order_J29 v1 v2 v3 v4 v5 s0 m = some r) (hq : jQ X (.inl (some (jI r.1))) SKF r.2 rm_X10_order.cells rm_X10_order.slots) : J X SKF m 0 0 29 [(0, jR 74), (1, jI v1), (2, jI v2), (3, jI v3), (4, jI v4), (5, jI v5)] [jI s0] := by
  unfold f_X10_order_J29 at hf
  refine B_blk B jlkX10_ok jcl_SKF [.istore 6, .aload_n 0, .iload 6] (by decide +kernel) (ls' := [(0, jR 74), (1, jI v1), (2, jI v2), (3, jI v3), (4, jI v4), (5, jI v5), (6, jI s0)]) (st' := [jI s0, jR 74]) rfl (p1 := 34) rfl ?_
  refine J_if_eq B.1 (off := 7) (tgt := 41) (by decide +kernel) (by decide) hf (fun hf => ?_) (fun hf => ?_)
  · refine B_blk B jlkX10_ok jcl_SKF [.iload_n 3, .iconst 1] (by decide +kernel) (ls' := [(0, jR 74), (1, jI v1), (2, jI v2), (3, jI v3), (4, jI v4), (5, jI v5), (6, jI s0)]) (st' := [jI 1, jI v3, jR 74]) rfl (p1 := 43) rfl ?_
    refine J_icmp_lt B.1 (off := 24) (tgt := 67) (by decide +kernel) (by decide) hf (fun hf => ?_) (fun hf => ?_)
    · refine J_pick [0, 1, 2, 3, 4, 5] (ls' := [(0, jR 74), (1, jI v1), (2, jI v2), (3, jI v3), (4, jI v4), (5, jI v5)]) rfl ?_
      exact t_X10_order_J67 B v1 v2 v3 v4 v5 m _ hf hq
    · refine B_blk B jlkX10_ok jcl_SKF [.iload_n 3, .iconst 1, .aload_n 0, .getfield 7, .iconst 0] (by decide +kernel) (ls' := [(0, jR 74), (1, jI v1), (2, jI v2), (3, jI v3), (4, jI v4), (5, jI v5), (6, jI s0)]) (st' := [jI 0, jR 75, jI 1, jI v3, jR 74]) rfl (p1 := 53) rfl ?_
      refine K_iald (lenI := 2083) B rfl rfl (by decide) (by decide +kernel) ?_
      refine B_blk B jlkX10_ok jcl_SKF [.ishl] (by decide +kernel) (ls' := [(0, jR 74), (1, jI v1), (2, jI v2), (3, jI v3), (4, jI v4), (5, jI v5), (6, jI s0)]) (st' := [jI (jSl 1 (m 75 0)), jI v3, jR 74]) rfl (p1 := 55) rfl ?_
      refine J_icmp_ge B.1 (off := 12) (tgt := 67) (by decide +kernel) (by decide) hf (fun hf => ?_) (fun hf => ?_)
      · refine J_pick [0, 1, 2, 3, 4, 5] (ls' := [(0, jR 74), (1, jI v1), (2, jI v2), (3, jI v3), (4, jI v4), (5, jI v5)]) rfl ?_
        exact t_X10_order_J67 B v1 v2 v3 v4 v5 m _ hf hq
      · refine B_blk B jlkX10_ok jcl_SKF [.iload_n 3] (by decide +kernel) (ls' := [(0, jR 74), (1, jI v1), (2, jI v2), (3, jI v3), (4, jI v4), (5, jI v5), (6, jI s0)]) (st' := [jI v3, jR 74]) rfl (p1 := 59) rfl ?_
        obtain ⟨r12, h12, hf⟩ := jbd hf
        refine B_callS B (Nat.le_refl _) (μ' := m) (k' := 0) (n' := 0) ca_X10_count1 sa_X10_count1 lk_X10_266 (t_X10_count1 B.tr jcl_SKF h12) (Nat.le_refl _) rfl (rest := [jR 74]) rfl rfl (Nat.le_of_ble_eq_true rfl) (by decide +kernel) rfl rfl (st' := [jI r12, jR 74]) rfl ?_
        refine B_blk B jlkX10_ok jcl_SKF [.bipush 6] (by decide +kernel) (ls' := [(0, jR 74), (1, jI v1), (2, jI v2), (3, jI v3), (4, jI v4), (5, jI v5), (6, jI s0)]) (st' := [jI 6, jI r12, jR 74]) rfl (p1 := 64) rfl ?_
        refine J_icmp_le B.1 (off := 7) (tgt := 71) (by decide +kernel) (by decide) hf (fun hf => ?_) (fun hf => ?_)
        · refine B_blk B jlkX10_ok jcl_SKF [.iload 5, .iconst 0, .iconst 2] (by decide +kernel) (ls' := [(0, jR 74), (1, jI v1), (2, jI v2), (3, jI v3), (4, jI v4), (5, jI v5), (6, jI s0)]) (st' := [jI 2, jI 0, jI v5, jR 74]) rfl (p1 := 75) rfl ?_
          obtain ⟨r13, h13, hf⟩ := jbd hf
          refine B_callS B (Nat.le_refl _) (μ' := m) (k' := 0) (n' := 0) ca_X10_isIn sa_X10_isIn lk_X10_54 (t_X10_isIn B.tr jcl_SKF h13) (Nat.le_refl _) rfl (rest := [jR 74]) rfl rfl (Nat.le_of_ble_eq_true rfl) (by decide +kernel) rfl rfl (st' := [jI r13, jR 74]) rfl ?_
          refine J_if_ne B.1 (off := 7) (tgt := 85) (by decide +kernel) (by decide) hf (fun hf => ?_) (fun hf => ?_)
          · refine B_blk B jlkX10_ok jcl_SKF [.iconst 3, .goto 4] (by decide +kernel) (ls' := [(0, jR 74), (1, jI v1), (2, jI v2), (3, jI v3), (4, jI v4), (5, jI v5), (6, jI s0)]) (st' := [jI 3, jR 74]) rfl (p1 := 86) rfl ?_
            refine K_putI (jI' := 0) B jp_X10_51 rfl rfl rfl (by decide +kernel) ?_
            obtain ⟨m14, hm14, hf⟩ := jlt_s hf
            rw [hm14]
            refine B_blk B jlkX10_ok jcl_SKF [.aload_n 0, .getfield 51] (by decide +kernel) (ls' := [(0, jR 74), (1, jI v1), (2, jI v2), (3, jI v3), (4, jI v4), (5, jI v5), (6, jI s0)]) (st' := [jI (m14 74 0)]) rfl (p1 := 93) rfl ?_
            refine J_if_le B.1 (off := 5) (tgt := 98) (by decide +kernel) (by decide) hf (fun hf => ?_) (fun hf => ?_)
            · refine B_blk B jlkX10_ok jcl_SKF [.aload_n 0, .iload_n 1] (by decide +kernel) (ls' := [(0, jR 74), (1, jI v1), (2, jI v2), (3, jI v3), (4, jI v4), (5, jI v5), (6, jI s0)]) (st' := [jI v1, jR 74]) rfl (p1 := 100) rfl ?_
              obtain ⟨r15, h15, hf⟩ := jbd hf
              refine B_callV B (Nat.le_refl _) (μ' := r15) (k' := 0) (n' := 0) ca_X10_lays in_X10_lays se_X10_lays lk_X10_269 (t_X10_lays B.tr h15) (Nat.le_refl _) rfl rfl rfl (rest := []) rfl rfl (Nat.le_of_ble_eq_true rfl) (by decide +kernel) rfl rfl (st' := []) rfl ?_
              refine B_blk B jlkX10_ok jcl_SKF [.iconst 0, .istore 7, .iconst 0, .istore 8] (by decide +kernel) (ls' := [(0, jR 74), (1, jI v1), (2, jI v2), (3, jI v3), (4, jI v4), (5, jI v5), (6, jI s0), (7, jI 0), (8, jI 0)]) (st' := []) rfl (p1 := 109) rfl ?_
              refine J_pick [0, 2, 3, 4, 5, 7, 8] (ls' := [(0, jR 74), (2, jI v2), (3, jI v3), (4, jI v4), (5, jI v5), (7, jI 0), (8, jI 0)]) rfl ?_
              exact t_X10_order_L109 B jFU v2 v3 v4 v5 0 0 r15 _ hf hq
            · refine B_blk B jlkX10_ok jcl_SKF [.iconst 0] (by decide +kernel) (ls' := [(0, jR 74), (1, jI v1), (2, jI v2), (3, jI v3), (4, jI v4), (5, jI v5), (6, jI s0)]) (st' := [jI 0]) rfl (p1 := 97) rfl ?_
              cases hf
              exact B_retI B hq rfl (Nat.le_of_ble_eq_true rfl) (Nat.le_of_ble_eq_true rfl) (by decide +kernel)
          · refine B_blk B jlkX10_ok jcl_SKF [.iconst 0] (by decide +kernel) (ls' := [(0, jR 74), (1, jI v1), (2, jI v2), (3, jI v3), (4, jI v4), (5, jI v5), (6, jI s0)]) (st' := [jI 0, jR 74]) rfl (p1 := 86) rfl ?_
            refine K_putI (jI' := 0) B jp_X10_51 rfl rfl rfl (by decide +kernel) ?_
            obtain ⟨m16, hm16, hf⟩ := jlt_s hf
            rw [hm16]
            refine B_blk B jlkX10_ok jcl_SKF [.aload_n 0, .getfield 51] (by decide +kernel) (ls' := [(0, jR 74), (1, jI v1), (2, jI v2), (3, jI v3), (4, jI v4), (5, jI v5), (6, jI s0)]) (st' := [jI (m16 74 0)]) rfl (p1 := 93) rfl ?_
            refine J_if_le B.1 (off := 5) (tgt := 98) (by decide +kernel) (by decide) hf (fun hf => ?_) (fun hf => ?_)
            · refine B_blk B jlkX10_ok jcl_SKF [.aload_n 0, .iload_n 1] (by decide +kernel) (ls' := [(0, jR 74), (1, jI v1), (2, jI v2), (3, jI v3), (4, jI v4), (5, jI v5), (6, jI s0)]) (st' := [jI v1, jR 74]) rfl (p1 := 100) rfl ?_
              obtain ⟨r17, h17, hf⟩ := jbd hf
              refine B_callV B (Nat.le_refl _) (μ' := r17) (k' := 0) (n' := 0) ca_X10_lays in_X10_lays se_X10_lays lk_X10_269 (t_X10_lays B.tr h17) (Nat.le_refl _) rfl rfl rfl (rest := []) rfl rfl (Nat.le_of_ble_eq_true rfl) (by decide +kernel) rfl rfl (st' := []) rfl ?_
              refine B_blk B jlkX10_ok jcl_SKF [.iconst 0, .istore 7, .iconst 0, .istore 8] (by decide +kernel) (ls' := [(0, jR 74), (1, jI v1), (2, jI v2), (3, jI v3), (4, jI v4), (5, jI v5), (6, jI s0), (7, jI 0), (8, jI 0)]) (st' := []) rfl (p1 := 109) rfl ?_
              refine J_pick [0, 2, 3, 4, 5, 7, 8] (ls' := [(0, jR 74), (2, jI v2), (3, jI v3), (4, jI v4), (5, jI v5), (7, jI 0), (8, jI 0)]) rfl ?_
              exact t_X10_order_L109 B jFU v2 v3 v4 v5 0 0 r17 _ hf hq
            · refine B_blk B jlkX10_ok jcl_SKF [.iconst 0] (by decide +kernel) (ls' := [(0, jR 74), (1, jI v1), (2, jI v2), (3, jI v3), (4, jI v4), (5, jI v5), (6, jI s0)]) (st' := [jI 0]) rfl (p1 := 97) rfl ?_
              cases hf
              exact B_retI B hq rfl (Nat.le_of_ble_eq_true rfl) (Nat.le_of_ble_eq_true rfl) (by decide +kernel)
        · refine J_pick [0, 1, 2, 3, 4, 5] (ls' := [(0, jR 74), (1, jI v1), (2, jI v2), (3, jI v3), (4, jI v4), (5, jI v5)]) rfl ?_
          exact t_X10_order_J67 B v1 v2 v3 v4 v5 m _ hf hq
  · refine B_blk B jlkX10_ok jcl_SKF [.iconst 1, .goto 48] (by decide +kernel) (ls' := [(0, jR 74), (1, jI v1), (2, jI v2), (3, jI v3), (4, jI v4), (5, jI v5), (6, jI s0)]) (st' := [jI 1, jR 74]) rfl (p1 := 86) rfl ?_
    refine K_putI (jI' := 0) B jp_X10_51 rfl rfl rfl (by decide +kernel) ?_
    obtain ⟨m18, hm18, hf⟩ := jlt_s hf
    rw [hm18]
    refine B_blk B jlkX10_ok jcl_SKF [.aload_n 0, .getfield 51] (by decide +kernel) (ls' := [(0, jR 74), (1, jI v1), (2, jI v2), (3, jI v3), (4, jI v4), (5, jI v5), (6, jI s0)]) (st' := [jI (m18 74 0)]) rfl (p1 := 93) rfl ?_
    refine J_if_le B.1 (off := 5) (tgt := 98) (by decide +kernel) (by decide) hf (fun hf => ?_) (fun hf => ?_)
    · refine B_blk B jlkX10_ok jcl_SKF [.aload_n 0, .iload_n 1] (by decide +kernel) (ls' := [(0, jR 74), (1, jI v1), (2, jI v2), (3, jI v3), (4, jI v4), (5, jI v5), (6, jI s0)]) (st' := [jI v1, jR 74]) rfl (p1 := 100) rfl ?_
      obtain ⟨r19, h19, hf⟩ := jbd hf
      refine B_callV B (Nat.le_refl _) (μ' := r19) (k' := 0) (n' := 0) ca_X10_lays in_X10_lays se_X10_lays lk_X10_269 (t_X10_lays B.tr h19) (Nat.le_refl _) rfl rfl rfl (rest := []) rfl rfl (Nat.le_of_ble_eq_true rfl) (by decide +kernel) rfl rfl (st' := []) rfl ?_
      refine B_blk B jlkX10_ok jcl_SKF [.iconst 0, .istore 7, .iconst 0, .istore 8] (by decide +kernel) (ls' := [(0, jR 74), (1, jI v1), (2, jI v2), (3, jI v3), (4, jI v4), (5, jI v5), (6, jI s0), (7, jI 0), (8, jI 0)]) (st' := []) rfl (p1 := 109) rfl ?_
      refine J_pick [0, 2, 3, 4, 5, 7, 8] (ls' := [(0, jR 74), (2, jI v2), (3, jI v3), (4, jI v4), (5, jI v5), (7, jI 0), (8, jI 0)]) rfl ?_
      exact t_X10_order_L109 B jFU v2 v3 v4 v5 0 0 r19 _ hf hq
    · refine B_blk B jlkX10_ok jcl_SKF [.iconst 0] (by decide +kernel) (ls' := [(0, jR 74), (1, jI v1), (2, jI v2), (3, jI v3), (4, jI v4), (5, jI v5), (6, jI s0)]) (st' := [jI 0]) rfl (p1 := 97) rfl ?_
      cases hf
      exact B_retI B hq rfl (Nat.le_of_ble_eq_true rfl) (Nat.le_of_ble_eq_true rfl) (by decide +kernel)
theorem t_X10_order_J24 {X : jX} (B : jB X cX10_order RX10 12 SKF.length rm_X10_order (some .int)) (v1 : Int) (v2 : Int) (v3 : Int) (v4 : Int) (v5 : Int) (m : jMu) (r : (Int × jMu)) (hf : f_X10_order_J24 v1 v2 v3 v4 v5 m = some r) (hq : jQ X (.inl (some (jI r.1))) SKF r.2 rm_X10_order.cells rm_X10_order.slots) : J X SKF m 0 0 24 [(0, jR 74), (1, jI v1), (2, jI v2), (3, jI v3), (4, jI v4), (5, jI v5)] [] := by
  unfold f_X10_order_J24 at hf
  refine B_blk B jlkX10_ok jcl_SKF [.iconst 1, .goto 4] (by decide +kernel) (ls' := [(0, jR 74), (1, jI v1), (2, jI v2), (3, jI v3), (4, jI v4), (5, jI v5)]) (st' := [jI 1]) rfl (p1 := 29) rfl ?_
  exact t_X10_order_J29 B v1 v2 v3 v4 v5 1 m _ hf hq
theorem t_X10_order {l : Launch} {G : jG} (hl : l.stackTraces = false) {a0 : Int} {a1 : Int} {a2 : Int} {a3 : Int} {a4 : Int} {m : jMu} {r : (Int × jMu)} (hf : f_X10_order a0 a1 a2 a3 a4 m = some r) : jCt l G yX10_order (.code yX10_order cX10_order 12 (some .int) :: jWG) rm_X10_order [jR 74, jI a0, jI a1, jI a2, jI a3, jI a4] SKF m (.inl (some (jI r.1))) SKF r.2 := by
  unfold f_X10_order at hf
  refine J_start (ls0 := [(0, jR 74), (1, jI a0), (2, jI a1), (3, jI a2), (4, jI a3), (5, jI a4)]) (by decide +kernel) hl (Nat.le_of_ble_eq_true rfl) rfl fun X C hN hn hR hr hnm hno hq => ?_
  have B : jB X cX10_order RX10 12 SKF.length rm_X10_order (some .int) := ⟨C, hN, Nat.le_of_eq hn, hR, hr⟩
  refine B_blk B jlkX10_ok jcl_SKF [.aload_n 0, .iload_n 1] (by decide +kernel) (ls' := [(0, jR 74), (1, jI a0), (2, jI a1), (3, jI a2), (4, jI a3), (5, jI a4)]) (st' := [jI a0, jR 74]) rfl (p1 := 2) rfl ?_
  obtain ⟨r1, h1, hf⟩ := jbd hf
  refine B_callV B (Nat.le_refl _) (μ' := m) (k' := 0) (n' := 0) ca_X10_isTerms in_X10_isTerms se_X10_isTerms lk_X10_203 (t_X10_isTerms B.tr h1) (Nat.le_refl _) rfl rfl rfl (rest := []) rfl rfl (Nat.le_of_ble_eq_true rfl) (by decide +kernel) rfl rfl (st' := [jI r1]) rfl ?_
  refine J_if_eq B.1 (off := 19) (tgt := 24) (by decide +kernel) (by decide) hf (fun hf => ?_) (fun hf => ?_)
  · exact t_X10_order_J24 B a0 a1 a2 a3 a4 m _ hf hq
  · refine B_blk B jlkX10_ok jcl_SKF [.aload_n 0, .iload_n 2] (by decide +kernel) (ls' := [(0, jR 74), (1, jI a0), (2, jI a1), (3, jI a2), (4, jI a3), (5, jI a4)]) (st' := [jI a1, jR 74]) rfl (p1 := 10) rfl ?_
    obtain ⟨r20, h20, hf⟩ := jbd hf
    refine B_callV B (Nat.le_refl _) (μ' := m) (k' := 0) (n' := 0) ca_X10_isGang in_X10_isGang se_X10_isGang lk_X10_224 (t_X10_isGang B.tr h20) (Nat.le_refl _) rfl rfl rfl (rest := []) rfl rfl (Nat.le_of_ble_eq_true rfl) (by decide +kernel) rfl rfl (st' := [jI r20]) rfl ?_
    refine J_if_eq B.1 (off := 11) (tgt := 24) (by decide +kernel) (by decide) hf (fun hf => ?_) (fun hf => ?_)
    · exact t_X10_order_J24 B a0 a1 a2 a3 a4 m _ hf hq
    · refine B_blk B jlkX10_ok jcl_SKF [.iload 4] (by decide +kernel) (ls' := [(0, jR 74), (1, jI a0), (2, jI a1), (3, jI a2), (4, jI a3), (5, jI a4)]) (st' := [jI a3]) rfl (p1 := 18) rfl ?_
      obtain ⟨r21, h21, hf⟩ := jbd hf
      refine B_callS B (Nat.le_refl _) (μ' := m) (k' := 0) (n' := 0) ca_X10_isMoment sa_X10_isMoment lk_X10_227 (t_X10_isMoment B.tr jcl_SKF h21) (Nat.le_refl _) rfl (rest := []) rfl rfl (Nat.le_of_ble_eq_true rfl) (by decide +kernel) rfl rfl (st' := [jI r21]) rfl ?_
      refine J_if_ne B.1 (off := 7) (tgt := 28) (by decide +kernel) (by decide) hf (fun hf => ?_) (fun hf => ?_)
      · exact t_X10_order_J24 B a0 a1 a2 a3 a4 m _ hf hq
      · refine B_blk B jlkX10_ok jcl_SKF [.iconst 0] (by decide +kernel) (ls' := [(0, jR 74), (1, jI a0), (2, jI a1), (3, jI a2), (4, jI a3), (5, jI a4)]) (st' := [jI 0]) rfl (p1 := 29) rfl ?_
        exact t_X10_order_J29 B a0 a1 a2 a3 a4 0 m _ hf hq

def rm_X10_put : Room := { frames := 75, cells := 0, slots := 0, locals := 1081 }
def f_X10_put_L160 : Nat → Int → Int → Int → Int → Int → Int → Int → Int → Int → Int → Int → jMu → Option (Int × Int × Int × Int × Int × Int × Int × Int × jMu)
  | 0, _, _, _, _, _, _, _, _, _, _, _, _ => none
  | q + 1, v2, v3, v4, v6, v7, v8, v9, v10, v11, v12, v13, m => (if v13 < 0 then some (v2, v3, v4, v6, v7, v8, v11, v12, m) else (if v12 = 0 then some (v2, v3, v4, v6, v7, v8, v11, v12, m) else (if 0 ≤ v13 ∧ v13 < 8 then (jlt (jup m 83 v13 (-1)) fun m6 => (if jAn (jSr v2 v13) 1 = 0 then f_X10_put_L160 q v2 v3 v4 v6 v7 v8 v9 v10 v11 v12 (jW (v13 + (-1))) m6 else (if m6 75 6 ≠ 0 then (if m6 75 6 ≠ 0 then (if 0 ≤ v13 ∧ v13 < 8 then (jlt (jup m6 83 v13 (jRm v9 (m6 75 6))) fun m7 => (if jAn (jSr v10 (jRm v9 (m6 75 6))) 1 = 1 then f_X10_put_L160 q v2 v3 v4 v6 v7 v8 (jDv v9 (m6 75 6)) (jOr v10 (jSl 1 (jRm v9 (m6 75 6)))) (jW (v11 + (-1))) 0 (jW (v13 + (-1))) m7 else (f_X10_endFrom v13 (jRm v9 (m6 75 6)) v3 m7).bind fun r8 => (if r8 = (-1) then f_X10_put_L160 q v2 v3 v4 v6 v7 v8 (jDv v9 (m6 75 6)) (jOr v10 (jSl 1 (jRm v9 (m6 75 6)))) (jW (v11 + r8)) 0 (jW (v13 + (-1))) m7 else f_X10_put_L160 q v2 v3 v4 v6 v7 v8 (jDv v9 (m6 75 6)) (jOr v10 (jSl 1 (jRm v9 (m6 75 6)))) (jW (v11 + r8)) 1 (jW (v13 + (-1))) m7))) else none) else none) else none))) else none)))
def f_X10_put_L312 : Nat → Int → Int → Int → Int → Int → Int → Int → jMu → Option (Int × Int × Int × Int × Int × Int × jMu)
  | 0, _, _, _, _, _, _, _, _ => none
  | q + 1, v2, v3, v4, v6, v7, v8, v13, m => (if m 75 0 ≤ v13 then some (v2, v3, v4, v6, v7, v8, m) else (if 0 ≤ v13 ∧ v13 < 8 then (if 0 ≤ v13 ∧ v13 < 8 then (jlt (jup m 84 v13 (m 83 v13)) fun m14 => f_X10_put_L312 q v2 v3 v4 v6 v7 v8 (jW (v13 + 1)) m14) else none) else none))
def f_X10_put_L130 : Nat → Int → Int → Int → Int → Int → Int → jMu → Option (Int × jMu)
  | 0, _, _, _, _, _, _, _ => none
  | q + 1, v2, v3, v4, v6, v7, v8, m => (if v6 ≤ v8 then (if v7 = (-1) then some (v7, m) else (if v4 = (-1) then some (v7, m) else (if 0 ≤ v4 ∧ v4 < 8 then some (m 84 v4, m) else none))) else (f_X10_put_L160 jFU v2 v3 v4 v6 v7 v8 v8 0 0 1 (jW (m 75 0 - 1)) m).bind fun r13 => (if r13.2.2.2.2.2.2.2.1 = 0 then f_X10_put_L130 q r13.1 r13.2.1 r13.2.2.1 r13.2.2.2.1 r13.2.2.2.2.1 (jW (r13.2.2.2.2.2.1 + 1)) r13.2.2.2.2.2.2.2.2 else (if r13.2.2.2.2.1 = (-1) then (f_X10_put_L312 jFU r13.1 r13.2.1 r13.2.2.1 r13.2.2.2.1 r13.2.2.2.2.2.2.1 r13.2.2.2.2.2.1 0 r13.2.2.2.2.2.2.2.2).bind fun r17 => f_X10_put_L130 q r17.1 r17.2.1 r17.2.2.1 r17.2.2.2.1 r17.2.2.2.2.1 (jW (r17.2.2.2.2.2.1 + 1)) r17.2.2.2.2.2.2 else (if r13.2.2.2.2.2.2.1 < r13.2.2.2.2.1 then (f_X10_put_L312 jFU r13.1 r13.2.1 r13.2.2.1 r13.2.2.2.1 r13.2.2.2.2.2.2.1 r13.2.2.2.2.2.1 0 r13.2.2.2.2.2.2.2.2).bind fun r18 => f_X10_put_L130 q r18.1 r18.2.1 r18.2.2.1 r18.2.2.2.1 r18.2.2.2.2.1 (jW (r18.2.2.2.2.2.1 + 1)) r18.2.2.2.2.2.2 else f_X10_put_L130 q r13.1 r13.2.1 r13.2.2.1 r13.2.2.2.1 r13.2.2.2.2.1 (jW (r13.2.2.2.2.2.1 + 1)) r13.2.2.2.2.2.2.2.2))))
def f_X10_put_L99 : Nat → Int → Int → Int → Int → Int → Int → jMu → Option (Int × jMu)
  | 0, _, _, _, _, _, _, _ => none
  | q + 1, v2, v3, v4, v5, v6, v7, m => (if v5 ≤ v7 then f_X10_put_L130 jFU v2 v3 v4 v6 (-1) 0 m else f_X10_put_L99 q v2 v3 v4 v5 (jW (v6 * m 75 6)) (jW (v7 + 1)) m)
def f_X10_put_J56 (v1 : Int) (v2 : Int) (v3 : Int) (v4 : Int) (s1 : Int) (m : jMu) : Option (Int × jMu) :=
  (jlt (jup m 74 0 s1) fun m2 => (if m2 74 0 ≤ 0 then (f_X10_lays v1 m2).bind fun r3 => (f_X10_count1 v2).bind fun r4 => (if r4 ≤ r3 75 6 then f_X10_put_L99 jFU v2 v3 v4 r4 1 0 r3 else some ((-1), r3)) else some (0, m2)))
def f_X10_put_J31 (v1 : Int) (v2 : Int) (v3 : Int) (v4 : Int) (m : jMu) : Option (Int × jMu) :=
  f_X10_put_J56 v1 v2 v3 v4 1 m
def f_X10_put_J51 (v1 : Int) (v2 : Int) (v3 : Int) (v4 : Int) (m : jMu) : Option (Int × jMu) :=
  f_X10_put_J56 v1 v2 v3 v4 2 m
def f_X10_put_J35 (v1 : Int) (v2 : Int) (v3 : Int) (v4 : Int) (m : jMu) : Option (Int × jMu) :=
  (if v2 < 0 then f_X10_put_J51 v1 v2 v3 v4 m else (if v2 < jSl 1 (m 75 0) then f_X10_put_J56 v1 v2 v3 v4 0 m else f_X10_put_J51 v1 v2 v3 v4 m))
def f_X10_put (a0 : Int) (a1 : Int) (a2 : Int) (a3 : Int) (m : jMu) : Option (Int × jMu) :=
  (f_X10_isTerms a0 m).bind fun r1 => (if r1 = 0 then f_X10_put_J31 a0 a1 a2 a3 m else (f_X10_isMoment a2).bind fun r19 => (if r19 = 0 then f_X10_put_J31 a0 a1 a2 a3 m else (if a3 = (-1) then f_X10_put_J35 a0 a1 a2 a3 m else (f_X10_isBay a3 m).bind fun r20 => (if r20 = 0 then f_X10_put_J31 a0 a1 a2 a3 m else f_X10_put_J35 a0 a1 a2 a3 m))))
theorem t_X10_put_L160 {X : jX} (B : jB X cX10_put RX10 16 SKF.length rm_X10_put (some .int)) : ∀ (q : Nat) (v2 : Int) (v3 : Int) (v4 : Int) (v6 : Int) (v7 : Int) (v8 : Int) (v9 : Int) (v10 : Int) (v11 : Int) (v12 : Int) (v13 : Int) (m : jMu) (o : (Int × Int × Int × Int × Int × Int × Int × Int × jMu)), f_X10_put_L160 q v2 v3 v4 v6 v7 v8 v9 v10 v11 v12 v13 m = some o → J X SKF o.2.2.2.2.2.2.2.2 0 0 284 [(0, jR 74), (2, jI o.1), (3, jI o.2.1), (4, jI o.2.2.1), (6, jI o.2.2.2.1), (7, jI o.2.2.2.2.1), (8, jI o.2.2.2.2.2.1), (11, jI o.2.2.2.2.2.2.1), (12, jI o.2.2.2.2.2.2.2.1)] [] → J X SKF m 0 0 160 [(0, jR 74), (2, jI v2), (3, jI v3), (4, jI v4), (6, jI v6), (7, jI v7), (8, jI v8), (9, jI v9), (10, jI v10), (11, jI v11), (12, jI v12), (13, jI v13)] [] := by
  intro q
  induction q with
  | zero =>
    intro v2 v3 v4 v6 v7 v8 v9 v10 v11 v12 v13 m o hf
    rw [f_X10_put_L160] at hf
    cases hf
  | succ q ih =>
    intro v2 v3 v4 v6 v7 v8 v9 v10 v11 v12 v13 m o hf hx
    rw [f_X10_put_L160] at hf
    refine B_blk B jlkX10_ok jcl_SKF [.iload 13] (by decide +kernel) (ls' := [(0, jR 74), (2, jI v2), (3, jI v3), (4, jI v4), (6, jI v6), (7, jI v7), (8, jI v8), (9, jI v9), (10, jI v10), (11, jI v11), (12, jI v12), (13, jI v13)]) (st' := [jI v13]) rfl (p1 := 162) rfl ?_
    refine J_if_lt B.1 (off := 122) (tgt := 284) (by decide +kernel) (by decide) hf (fun hf => ?_) (fun hf => ?_)
    · refine J_pick [0, 1, 2, 3, 4, 5, 6, 9, 10] (ls' := [(0, jR 74), (2, jI v2), (3, jI v3), (4, jI v4), (6, jI v6), (7, jI v7), (8, jI v8), (11, jI v11), (12, jI v12)]) rfl ?_
      cases hf
      exact hx
    · refine B_blk B jlkX10_ok jcl_SKF [.iload 12] (by decide +kernel) (ls' := [(0, jR 74), (2, jI v2), (3, jI v3), (4, jI v4), (6, jI v6), (7, jI v7), (8, jI v8), (9, jI v9), (10, jI v10), (11, jI v11), (12, jI v12), (13, jI v13)]) (st' := [jI v12]) rfl (p1 := 167) rfl ?_
      refine J_if_eq B.1 (off := 117) (tgt := 284) (by decide +kernel) (by decide) hf (fun hf => ?_) (fun hf => ?_)
      · refine J_pick [0, 1, 2, 3, 4, 5, 6, 9, 10] (ls' := [(0, jR 74), (2, jI v2), (3, jI v3), (4, jI v4), (6, jI v6), (7, jI v7), (8, jI v8), (11, jI v11), (12, jI v12)]) rfl ?_
        cases hf
        exact hx
      · refine B_blk B jlkX10_ok jcl_SKF [.aload_n 0, .getfield 39, .iload 13, .iconst (-1)] (by decide +kernel) (ls' := [(0, jR 74), (2, jI v2), (3, jI v3), (4, jI v4), (6, jI v6), (7, jI v7), (8, jI v8), (9, jI v9), (10, jI v10), (11, jI v11), (12, jI v12), (13, jI v13)]) (st' := [jI (-1), jI v13, jR 83]) rfl (p1 := 177) rfl ?_
        obtain ⟨g12, hf⟩ := jgd hf
        refine K_iast (lenI := 8) B rfl rfl g12 (by decide +kernel) ?_
        obtain ⟨m6, hm6, hf⟩ := jlt_s hf
        rw [hm6]
        refine B_blk B jlkX10_ok jcl_SKF [.iload_n 2, .iload 13, .ishr, .iconst 1, .iand] (by decide +kernel) (ls' := [(0, jR 74), (2, jI v2), (3, jI v3), (4, jI v4), (6, jI v6), (7, jI v7), (8, jI v8), (9, jI v9), (10, jI v10), (11, jI v11), (12, jI v12), (13, jI v13)]) (st' := [jI (jAn (jSr v2 v13) 1)]) rfl (p1 := 184) rfl ?_
        refine J_if_ne B.1 (off := 6) (tgt := 190) (by decide +kernel) (by decide) hf (fun hf => ?_) (fun hf => ?_)
        · refine B_blk B jlkX10_ok jcl_SKF [.goto 91, .iinc 13 (-1), .goto (-121)] (by decide +kernel) (ls' := [(0, jR 74), (2, jI v2), (3, jI v3), (4, jI v4), (6, jI v6), (7, jI v7), (8, jI v8), (9, jI v9), (10, jI v10), (11, jI v11), (12, jI v12), (13, jI (jW (v13 + (-1))))]) (st' := []) rfl (p1 := 160) rfl ?_
          exact ih v2 v3 v4 v6 v7 v8 v9 v10 v11 v12 (jW (v13 + (-1))) m6 _ hf hx
        · refine B_blk B jlkX10_ok jcl_SKF [.iload 9, .aload_n 0, .getfield 7, .bipush 6] (by decide +kernel) (ls' := [(0, jR 74), (2, jI v2), (3, jI v3), (4, jI v4), (6, jI v6), (7, jI v7), (8, jI v8), (9, jI v9), (10, jI v10), (11, jI v11), (12, jI v12), (13, jI v13)]) (st' := [jI 6, jR 75, jI v9]) rfl (p1 := 198) rfl ?_
          refine K_iald (lenI := 2083) B rfl rfl (by decide) (by decide +kernel) ?_
          obtain ⟨g11, hf⟩ := jgd hf
          refine K_irem B g11 (by decide +kernel) ?_
          refine B_blk B jlkX10_ok jcl_SKF [.istore 14, .iload 9, .aload_n 0, .getfield 7, .bipush 6] (by decide +kernel) (ls' := [(0, jR 74), (2, jI v2), (3, jI v3), (4, jI v4), (6, jI v6), (7, jI v7), (8, jI v8), (9, jI v9), (10, jI v10), (11, jI v11), (12, jI v12), (13, jI v13), (14, jI (jRm v9 (m6 75 6)))]) (st' := [jI 6, jR 75, jI v9]) rfl (p1 := 210) rfl ?_
          refine K_iald (lenI := 2083) B rfl rfl (by decide) (by decide +kernel) ?_
          obtain ⟨g10, hf⟩ := jgd hf
          refine K_idiv B g10 (by decide +kernel) ?_
          refine B_blk B jlkX10_ok jcl_SKF [.istore 9, .aload_n 0, .getfield 39, .iload 13, .iload 14] (by decide +kernel) (ls' := [(0, jR 74), (2, jI v2), (3, jI v3), (4, jI v4), (6, jI v6), (7, jI v7), (8, jI v8), (9, jI (jDv v9 (m6 75 6))), (10, jI v10), (11, jI v11), (12, jI v12), (13, jI v13), (14, jI (jRm v9 (m6 75 6)))]) (st' := [jI (jRm v9 (m6 75 6)), jI v13, jR 83]) rfl (p1 := 222) rfl ?_
          obtain ⟨g9, hf⟩ := jgd hf
          refine K_iast (lenI := 8) B rfl rfl g9 (by decide +kernel) ?_
          obtain ⟨m7, hm7, hf⟩ := jlt_s hf
          rw [hm7]
          refine B_blk B jlkX10_ok jcl_SKF [.iload 10, .iload 14, .ishr, .iconst 1, .iand, .iconst 1] (by decide +kernel) (ls' := [(0, jR 74), (2, jI v2), (3, jI v3), (4, jI v4), (6, jI v6), (7, jI v7), (8, jI v8), (9, jI (jDv v9 (m6 75 6))), (10, jI v10), (11, jI v11), (12, jI v12), (13, jI v13), (14, jI (jRm v9 (m6 75 6)))]) (st' := [jI 1, jI (jAn (jSr v10 (jRm v9 (m6 75 6))) 1)]) rfl (p1 := 231) rfl ?_
          refine J_icmp_ne B.1 (off := 7) (tgt := 238) (by decide +kernel) (by decide) hf (fun hf => ?_) (fun hf => ?_)
          · refine B_blk B jlkX10_ok jcl_SKF [.iconst (-1), .goto 12, .istore 15, .iload 15, .iconst (-1)] (by decide +kernel) (ls' := [(0, jR 74), (2, jI v2), (3, jI v3), (4, jI v4), (6, jI v6), (7, jI v7), (8, jI v8), (9, jI (jDv v9 (m6 75 6))), (10, jI v10), (11, jI v11), (12, jI v12), (13, jI v13), (14, jI (jRm v9 (m6 75 6))), (15, jI (-1))]) (st' := [jI (-1), jI (-1)]) rfl (p1 := 252) rfl ?_
            refine J_icmp_eq (T := some ()) (F := none) (r := ()) B.1 (off := 7) (tgt := 259) (by decide +kernel) (by decide) (if_pos (by decide)) (fun _ => ?_) (fun h => nomatch h)
            refine B_blk B jlkX10_ok jcl_SKF [.iconst 0, .istore 12, .iload 10, .iconst 1, .iload 14, .ishl, .ior, .istore 10, .iload 11, .iload 15, .iadd, .istore 11, .iinc 13 (-1), .goto (-121)] (by decide +kernel) (ls' := [(0, jR 74), (2, jI v2), (3, jI v3), (4, jI v4), (6, jI v6), (7, jI v7), (8, jI v8), (9, jI (jDv v9 (m6 75 6))), (10, jI (jOr v10 (jSl 1 (jRm v9 (m6 75 6))))), (11, jI (jW (v11 + (-1)))), (12, jI 0), (13, jI (jW (v13 + (-1)))), (14, jI (jRm v9 (m6 75 6))), (15, jI (-1))]) (st' := []) rfl (p1 := 160) rfl ?_
            refine J_pick [0, 1, 2, 3, 4, 5, 6, 7, 8, 9, 10, 11] (ls' := [(0, jR 74), (2, jI v2), (3, jI v3), (4, jI v4), (6, jI v6), (7, jI v7), (8, jI v8), (9, jI (jDv v9 (m6 75 6))), (10, jI (jOr v10 (jSl 1 (jRm v9 (m6 75 6))))), (11, jI (jW (v11 + (-1)))), (12, jI 0), (13, jI (jW (v13 + (-1))))]) rfl ?_
            exact ih v2 v3 v4 v6 v7 v8 (jDv v9 (m6 75 6)) (jOr v10 (jSl 1 (jRm v9 (m6 75 6)))) (jW (v11 + (-1))) 0 (jW (v13 + (-1))) m7 _ hf hx
          · refine B_blk B jlkX10_ok jcl_SKF [.aload_n 0, .iload 13, .iload 14, .iload_n 3] (by decide +kernel) (ls' := [(0, jR 74), (2, jI v2), (3, jI v3), (4, jI v4), (6, jI v6), (7, jI v7), (8, jI v8), (9, jI (jDv v9 (m6 75 6))), (10, jI v10), (11, jI v11), (12, jI v12), (13, jI v13), (14, jI (jRm v9 (m6 75 6)))]) (st' := [jI v3, jI (jRm v9 (m6 75 6)), jI v13, jR 74]) rfl (p1 := 244) rfl ?_
            obtain ⟨r8, h8, hf⟩ := jbd hf
            refine B_callV B (Nat.le_refl _) (μ' := m7) (k' := 0) (n' := 0) ca_X10_endFrom in_X10_endFrom se_X10_endFrom lk_X10_263 (t_X10_endFrom B.tr h8) (Nat.le_refl _) rfl rfl rfl (rest := []) rfl rfl (Nat.le_of_ble_eq_true rfl) (by decide +kernel) rfl rfl (st' := [jI r8]) rfl ?_
            refine B_blk B jlkX10_ok jcl_SKF [.istore 15, .iload 15, .iconst (-1)] (by decide +kernel) (ls' := [(0, jR 74), (2, jI v2), (3, jI v3), (4, jI v4), (6, jI v6), (7, jI v7), (8, jI v8), (9, jI (jDv v9 (m6 75 6))), (10, jI v10), (11, jI v11), (12, jI v12), (13, jI v13), (14, jI (jRm v9 (m6 75 6))), (15, jI r8)]) (st' := [jI (-1), jI r8]) rfl (p1 := 252) rfl ?_
            refine J_icmp_eq B.1 (off := 7) (tgt := 259) (by decide +kernel) (by decide) hf (fun hf => ?_) (fun hf => ?_)
            · refine B_blk B jlkX10_ok jcl_SKF [.iconst 0, .istore 12, .iload 10, .iconst 1, .iload 14, .ishl, .ior, .istore 10, .iload 11, .iload 15, .iadd, .istore 11, .iinc 13 (-1), .goto (-121)] (by decide +kernel) (ls' := [(0, jR 74), (2, jI v2), (3, jI v3), (4, jI v4), (6, jI v6), (7, jI v7), (8, jI v8), (9, jI (jDv v9 (m6 75 6))), (10, jI (jOr v10 (jSl 1 (jRm v9 (m6 75 6))))), (11, jI (jW (v11 + r8))), (12, jI 0), (13, jI (jW (v13 + (-1)))), (14, jI (jRm v9 (m6 75 6))), (15, jI r8)]) (st' := []) rfl (p1 := 160) rfl ?_
              refine J_pick [0, 1, 2, 3, 4, 5, 6, 7, 8, 9, 10, 11] (ls' := [(0, jR 74), (2, jI v2), (3, jI v3), (4, jI v4), (6, jI v6), (7, jI v7), (8, jI v8), (9, jI (jDv v9 (m6 75 6))), (10, jI (jOr v10 (jSl 1 (jRm v9 (m6 75 6))))), (11, jI (jW (v11 + r8))), (12, jI 0), (13, jI (jW (v13 + (-1))))]) rfl ?_
              exact ih v2 v3 v4 v6 v7 v8 (jDv v9 (m6 75 6)) (jOr v10 (jSl 1 (jRm v9 (m6 75 6)))) (jW (v11 + r8)) 0 (jW (v13 + (-1))) m7 _ hf hx
            · refine B_blk B jlkX10_ok jcl_SKF [.iconst 1, .goto 4, .istore 12, .iload 10, .iconst 1, .iload 14, .ishl, .ior, .istore 10, .iload 11, .iload 15, .iadd, .istore 11, .iinc 13 (-1), .goto (-121)] (by decide +kernel) (ls' := [(0, jR 74), (2, jI v2), (3, jI v3), (4, jI v4), (6, jI v6), (7, jI v7), (8, jI v8), (9, jI (jDv v9 (m6 75 6))), (10, jI (jOr v10 (jSl 1 (jRm v9 (m6 75 6))))), (11, jI (jW (v11 + r8))), (12, jI 1), (13, jI (jW (v13 + (-1)))), (14, jI (jRm v9 (m6 75 6))), (15, jI r8)]) (st' := []) rfl (p1 := 160) rfl ?_
              refine J_pick [0, 1, 2, 3, 4, 5, 6, 7, 8, 9, 10, 11] (ls' := [(0, jR 74), (2, jI v2), (3, jI v3), (4, jI v4), (6, jI v6), (7, jI v7), (8, jI v8), (9, jI (jDv v9 (m6 75 6))), (10, jI (jOr v10 (jSl 1 (jRm v9 (m6 75 6))))), (11, jI (jW (v11 + r8))), (12, jI 1), (13, jI (jW (v13 + (-1))))]) rfl ?_
              exact ih v2 v3 v4 v6 v7 v8 (jDv v9 (m6 75 6)) (jOr v10 (jSl 1 (jRm v9 (m6 75 6)))) (jW (v11 + r8)) 1 (jW (v13 + (-1))) m7 _ hf hx
theorem t_X10_put_L312 {X : jX} (B : jB X cX10_put RX10 16 SKF.length rm_X10_put (some .int)) : ∀ (q : Nat) (v2 : Int) (v3 : Int) (v4 : Int) (v6 : Int) (v7 : Int) (v8 : Int) (v13 : Int) (m : jMu) (o : (Int × Int × Int × Int × Int × Int × jMu)), f_X10_put_L312 q v2 v3 v4 v6 v7 v8 v13 m = some o → J X SKF o.2.2.2.2.2.2 0 0 343 [(0, jR 74), (2, jI o.1), (3, jI o.2.1), (4, jI o.2.2.1), (6, jI o.2.2.2.1), (7, jI o.2.2.2.2.1), (8, jI o.2.2.2.2.2.1)] [] → J X SKF m 0 0 312 [(0, jR 74), (2, jI v2), (3, jI v3), (4, jI v4), (6, jI v6), (7, jI v7), (8, jI v8), (13, jI v13)] [] := by
  intro q
  induction q with
  | zero =>
    intro v2 v3 v4 v6 v7 v8 v13 m o hf
    rw [f_X10_put_L312] at hf
    cases hf
  | succ q ih =>
    intro v2 v3 v4 v6 v7 v8 v13 m o hf hx
    rw [f_X10_put_L312] at hf
    refine B_blk B jlkX10_ok jcl_SKF [.iload 13, .aload_n 0, .getfield 7, .iconst 0] (by decide +kernel) (ls' := [(0, jR 74), (2, jI v2), (3, jI v3), (4, jI v4), (6, jI v6), (7, jI v7), (8, jI v8), (13, jI v13)]) (st' := [jI 0, jR 75, jI v13]) rfl (p1 := 319) rfl ?_
    refine K_iald (lenI := 2083) B rfl rfl (by decide) (by decide +kernel) ?_
    refine J_icmp_ge B.1 (off := 23) (tgt := 343) (by decide +kernel) (by decide) hf (fun hf => ?_) (fun hf => ?_)
    · refine J_pick [0, 1, 2, 3, 4, 5, 6] (ls' := [(0, jR 74), (2, jI v2), (3, jI v3), (4, jI v4), (6, jI v6), (7, jI v7), (8, jI v8)]) rfl ?_
      cases hf
      exact hx
    · refine B_blk B jlkX10_ok jcl_SKF [.aload_n 0, .getfield 42, .iload 13, .aload_n 0, .getfield 39, .iload 13] (by decide +kernel) (ls' := [(0, jR 74), (2, jI v2), (3, jI v3), (4, jI v4), (6, jI v6), (7, jI v7), (8, jI v8), (13, jI v13)]) (st' := [jI v13, jR 83, jI v13, jR 84]) rfl (p1 := 335) rfl ?_
      obtain ⟨g16, hf⟩ := jgd hf
      refine K_iald (lenI := 8) B rfl rfl g16 (by decide +kernel) ?_
      obtain ⟨g15, hf⟩ := jgd hf
      refine K_iast (lenI := 8) B rfl rfl g15 (by decide +kernel) ?_
      obtain ⟨m14, hm14, hf⟩ := jlt_s hf
      rw [hm14]
      refine B_blk B jlkX10_ok jcl_SKF [.iinc 13 1, .goto (-28)] (by decide +kernel) (ls' := [(0, jR 74), (2, jI v2), (3, jI v3), (4, jI v4), (6, jI v6), (7, jI v7), (8, jI v8), (13, jI (jW (v13 + 1)))]) (st' := []) rfl (p1 := 312) rfl ?_
      exact ih v2 v3 v4 v6 v7 v8 (jW (v13 + 1)) m14 _ hf hx
theorem t_X10_put_L130 {X : jX} (B : jB X cX10_put RX10 16 SKF.length rm_X10_put (some .int)) : ∀ (q : Nat) (v2 : Int) (v3 : Int) (v4 : Int) (v6 : Int) (v7 : Int) (v8 : Int) (m : jMu) (r : (Int × jMu)), f_X10_put_L130 q v2 v3 v4 v6 v7 v8 m = some r → jQ X (.inl (some (jI r.1))) SKF r.2 rm_X10_put.cells rm_X10_put.slots → J X SKF m 0 0 130 [(0, jR 74), (2, jI v2), (3, jI v3), (4, jI v4), (6, jI v6), (7, jI v7), (8, jI v8)] [] := by
  intro q
  induction q with
  | zero =>
    intro v2 v3 v4 v6 v7 v8 m r hf
    rw [f_X10_put_L130] at hf
    cases hf
  | succ q ih =>
    intro v2 v3 v4 v6 v7 v8 m r hf hq
    rw [f_X10_put_L130] at hf
    refine B_blk B jlkX10_ok jcl_SKF [.iload 8, .iload 6] (by decide +kernel) (ls' := [(0, jR 74), (2, jI v2), (3, jI v3), (4, jI v4), (6, jI v6), (7, jI v7), (8, jI v8)]) (st' := [jI v6, jI v8]) rfl (p1 := 134) rfl ?_
    refine J_icmp_ge B.1 (off := 215) (tgt := 349) (by decide +kernel) (by decide) hf (fun hf => ?_) (fun hf => ?_)
    · refine B_blk B jlkX10_ok jcl_SKF [.iload 7, .iconst (-1)] (by decide +kernel) (ls' := [(0, jR 74), (2, jI v2), (3, jI v3), (4, jI v4), (6, jI v6), (7, jI v7), (8, jI v8)]) (st' := [jI (-1), jI v7]) rfl (p1 := 352) rfl ?_
      refine J_icmp_eq B.1 (off := 9) (tgt := 361) (by decide +kernel) (by decide) hf (fun hf => ?_) (fun hf => ?_)
      · refine B_blk B jlkX10_ok jcl_SKF [.iload 7, .goto 10] (by decide +kernel) (ls' := [(0, jR 74), (2, jI v2), (3, jI v3), (4, jI v4), (6, jI v6), (7, jI v7), (8, jI v8)]) (st' := [jI v7]) rfl (p1 := 373) rfl ?_
        cases hf
        exact B_retI B hq rfl (Nat.le_of_ble_eq_true rfl) (Nat.le_of_ble_eq_true rfl) (by decide +kernel)
      · refine B_blk B jlkX10_ok jcl_SKF [.iload 4, .iconst (-1)] (by decide +kernel) (ls' := [(0, jR 74), (2, jI v2), (3, jI v3), (4, jI v4), (6, jI v6), (7, jI v7), (8, jI v8)]) (st' := [jI (-1), jI v4]) rfl (p1 := 358) rfl ?_
        refine J_icmp_ne B.1 (off := 8) (tgt := 366) (by decide +kernel) (by decide) hf (fun hf => ?_) (fun hf => ?_)
        · refine B_blk B jlkX10_ok jcl_SKF [.iload 7, .goto 10] (by decide +kernel) (ls' := [(0, jR 74), (2, jI v2), (3, jI v3), (4, jI v4), (6, jI v6), (7, jI v7), (8, jI v8)]) (st' := [jI v7]) rfl (p1 := 373) rfl ?_
          cases hf
          exact B_retI B hq rfl (Nat.le_of_ble_eq_true rfl) (Nat.le_of_ble_eq_true rfl) (by decide +kernel)
        · refine B_blk B jlkX10_ok jcl_SKF [.aload_n 0, .getfield 42, .iload 4] (by decide +kernel) (ls' := [(0, jR 74), (2, jI v2), (3, jI v3), (4, jI v4), (6, jI v6), (7, jI v7), (8, jI v8)]) (st' := [jI v4, jR 84]) rfl (p1 := 372) rfl ?_
          obtain ⟨g5, hf⟩ := jgd hf
          refine K_iald (lenI := 8) B rfl rfl g5 (by decide +kernel) ?_
          cases hf
          exact B_retI B hq rfl (Nat.le_of_ble_eq_true rfl) (Nat.le_of_ble_eq_true rfl) (by decide +kernel)
    · refine B_blk B jlkX10_ok jcl_SKF [.iload 8, .istore 9, .iconst 0, .istore 10, .iconst 0, .istore 11, .iconst 1, .istore 12, .aload_n 0, .getfield 7, .iconst 0] (by decide +kernel) (ls' := [(0, jR 74), (2, jI v2), (3, jI v3), (4, jI v4), (6, jI v6), (7, jI v7), (8, jI v8), (9, jI v8), (10, jI 0), (11, jI 0), (12, jI 1)]) (st' := [jI 0, jR 75]) rfl (p1 := 155) rfl ?_
      refine K_iald (lenI := 2083) B rfl rfl (by decide) (by decide +kernel) ?_
      refine B_blk B jlkX10_ok jcl_SKF [.iconst 1, .isub, .istore 13] (by decide +kernel) (ls' := [(0, jR 74), (2, jI v2), (3, jI v3), (4, jI v4), (6, jI v6), (7, jI v7), (8, jI v8), (9, jI v8), (10, jI 0), (11, jI 0), (12, jI 1), (13, jI (jW (m 75 0 - 1)))]) (st' := []) rfl (p1 := 160) rfl ?_
      obtain ⟨r13, h13, hf⟩ := jbd hf
      refine t_X10_put_L160 B jFU v2 v3 v4 v6 v7 v8 v8 0 0 1 (jW (m 75 0 - 1)) m _ h13 ?_
      refine B_blk B jlkX10_ok jcl_SKF [.iload 12] (by decide +kernel) (ls' := [(0, jR 74), (2, jI r13.1), (3, jI r13.2.1), (4, jI r13.2.2.1), (6, jI r13.2.2.2.1), (7, jI r13.2.2.2.2.1), (8, jI r13.2.2.2.2.2.1), (11, jI r13.2.2.2.2.2.2.1), (12, jI r13.2.2.2.2.2.2.2.1)]) (st' := [jI r13.2.2.2.2.2.2.2.1]) rfl (p1 := 286) rfl ?_
      refine J_if_eq B.1 (off := 57) (tgt := 343) (by decide +kernel) (by decide) hf (fun hf => ?_) (fun hf => ?_)
      · refine B_blk B jlkX10_ok jcl_SKF [.iinc 8 1, .goto (-216)] (by decide +kernel) (ls' := [(0, jR 74), (2, jI r13.1), (3, jI r13.2.1), (4, jI r13.2.2.1), (6, jI r13.2.2.2.1), (7, jI r13.2.2.2.2.1), (8, jI (jW (r13.2.2.2.2.2.1 + 1))), (11, jI r13.2.2.2.2.2.2.1), (12, jI r13.2.2.2.2.2.2.2.1)]) (st' := []) rfl (p1 := 130) rfl ?_
        refine J_pick [0, 1, 2, 3, 4, 5, 6] (ls' := [(0, jR 74), (2, jI r13.1), (3, jI r13.2.1), (4, jI r13.2.2.1), (6, jI r13.2.2.2.1), (7, jI r13.2.2.2.2.1), (8, jI (jW (r13.2.2.2.2.2.1 + 1)))]) rfl ?_
        exact ih r13.1 r13.2.1 r13.2.2.1 r13.2.2.2.1 r13.2.2.2.2.1 (jW (r13.2.2.2.2.2.1 + 1)) r13.2.2.2.2.2.2.2.2 _ hf hq
      · refine B_blk B jlkX10_ok jcl_SKF [.iload 7, .iconst (-1)] (by decide +kernel) (ls' := [(0, jR 74), (2, jI r13.1), (3, jI r13.2.1), (4, jI r13.2.2.1), (6, jI r13.2.2.2.1), (7, jI r13.2.2.2.2.1), (8, jI r13.2.2.2.2.2.1), (11, jI r13.2.2.2.2.2.2.1), (12, jI r13.2.2.2.2.2.2.2.1)]) (st' := [jI (-1), jI r13.2.2.2.2.1]) rfl (p1 := 292) rfl ?_
        refine J_icmp_eq B.1 (off := 13) (tgt := 305) (by decide +kernel) (by decide) hf (fun hf => ?_) (fun hf => ?_)
        · refine B_blk B jlkX10_ok jcl_SKF [.iload 11, .istore 7, .iconst 0, .istore 13] (by decide +kernel) (ls' := [(0, jR 74), (2, jI r13.1), (3, jI r13.2.1), (4, jI r13.2.2.1), (6, jI r13.2.2.2.1), (7, jI r13.2.2.2.2.2.2.1), (8, jI r13.2.2.2.2.2.1), (11, jI r13.2.2.2.2.2.2.1), (12, jI r13.2.2.2.2.2.2.2.1), (13, jI 0)]) (st' := []) rfl (p1 := 312) rfl ?_
          refine J_pick [0, 1, 2, 3, 4, 5, 6, 9] (ls' := [(0, jR 74), (2, jI r13.1), (3, jI r13.2.1), (4, jI r13.2.2.1), (6, jI r13.2.2.2.1), (7, jI r13.2.2.2.2.2.2.1), (8, jI r13.2.2.2.2.2.1), (13, jI 0)]) rfl ?_
          obtain ⟨r17, h17, hf⟩ := jbd hf
          refine t_X10_put_L312 B jFU r13.1 r13.2.1 r13.2.2.1 r13.2.2.2.1 r13.2.2.2.2.2.2.1 r13.2.2.2.2.2.1 0 r13.2.2.2.2.2.2.2.2 _ h17 ?_
          refine B_blk B jlkX10_ok jcl_SKF [.iinc 8 1, .goto (-216)] (by decide +kernel) (ls' := [(0, jR 74), (2, jI r17.1), (3, jI r17.2.1), (4, jI r17.2.2.1), (6, jI r17.2.2.2.1), (7, jI r17.2.2.2.2.1), (8, jI (jW (r17.2.2.2.2.2.1 + 1)))]) (st' := []) rfl (p1 := 130) rfl ?_
          exact ih r17.1 r17.2.1 r17.2.2.1 r17.2.2.2.1 r17.2.2.2.2.1 (jW (r17.2.2.2.2.2.1 + 1)) r17.2.2.2.2.2.2 _ hf hq
        · refine B_blk B jlkX10_ok jcl_SKF [.iload 11, .iload 7] (by decide +kernel) (ls' := [(0, jR 74), (2, jI r13.1), (3, jI r13.2.1), (4, jI r13.2.2.1), (6, jI r13.2.2.2.1), (7, jI r13.2.2.2.2.1), (8, jI r13.2.2.2.2.2.1), (11, jI r13.2.2.2.2.2.2.1), (12, jI r13.2.2.2.2.2.2.2.1)]) (st' := [jI r13.2.2.2.2.1, jI r13.2.2.2.2.2.2.1]) rfl (p1 := 299) rfl ?_
          refine J_icmp_lt B.1 (off := 6) (tgt := 305) (by decide +kernel) (by decide) hf (fun hf => ?_) (fun hf => ?_)
          · refine B_blk B jlkX10_ok jcl_SKF [.iload 11, .istore 7, .iconst 0, .istore 13] (by decide +kernel) (ls' := [(0, jR 74), (2, jI r13.1), (3, jI r13.2.1), (4, jI r13.2.2.1), (6, jI r13.2.2.2.1), (7, jI r13.2.2.2.2.2.2.1), (8, jI r13.2.2.2.2.2.1), (11, jI r13.2.2.2.2.2.2.1), (12, jI r13.2.2.2.2.2.2.2.1), (13, jI 0)]) (st' := []) rfl (p1 := 312) rfl ?_
            refine J_pick [0, 1, 2, 3, 4, 5, 6, 9] (ls' := [(0, jR 74), (2, jI r13.1), (3, jI r13.2.1), (4, jI r13.2.2.1), (6, jI r13.2.2.2.1), (7, jI r13.2.2.2.2.2.2.1), (8, jI r13.2.2.2.2.2.1), (13, jI 0)]) rfl ?_
            obtain ⟨r18, h18, hf⟩ := jbd hf
            refine t_X10_put_L312 B jFU r13.1 r13.2.1 r13.2.2.1 r13.2.2.2.1 r13.2.2.2.2.2.2.1 r13.2.2.2.2.2.1 0 r13.2.2.2.2.2.2.2.2 _ h18 ?_
            refine B_blk B jlkX10_ok jcl_SKF [.iinc 8 1, .goto (-216)] (by decide +kernel) (ls' := [(0, jR 74), (2, jI r18.1), (3, jI r18.2.1), (4, jI r18.2.2.1), (6, jI r18.2.2.2.1), (7, jI r18.2.2.2.2.1), (8, jI (jW (r18.2.2.2.2.2.1 + 1)))]) (st' := []) rfl (p1 := 130) rfl ?_
            exact ih r18.1 r18.2.1 r18.2.2.1 r18.2.2.2.1 r18.2.2.2.2.1 (jW (r18.2.2.2.2.2.1 + 1)) r18.2.2.2.2.2.2 _ hf hq
          · refine B_blk B jlkX10_ok jcl_SKF [.goto 41, .iinc 8 1, .goto (-216)] (by decide +kernel) (ls' := [(0, jR 74), (2, jI r13.1), (3, jI r13.2.1), (4, jI r13.2.2.1), (6, jI r13.2.2.2.1), (7, jI r13.2.2.2.2.1), (8, jI (jW (r13.2.2.2.2.2.1 + 1))), (11, jI r13.2.2.2.2.2.2.1), (12, jI r13.2.2.2.2.2.2.2.1)]) (st' := []) rfl (p1 := 130) rfl ?_
            refine J_pick [0, 1, 2, 3, 4, 5, 6] (ls' := [(0, jR 74), (2, jI r13.1), (3, jI r13.2.1), (4, jI r13.2.2.1), (6, jI r13.2.2.2.1), (7, jI r13.2.2.2.2.1), (8, jI (jW (r13.2.2.2.2.2.1 + 1)))]) rfl ?_
            exact ih r13.1 r13.2.1 r13.2.2.1 r13.2.2.2.1 r13.2.2.2.2.1 (jW (r13.2.2.2.2.2.1 + 1)) r13.2.2.2.2.2.2.2.2 _ hf hq
theorem t_X10_put_L99 {X : jX} (B : jB X cX10_put RX10 16 SKF.length rm_X10_put (some .int)) : ∀ (q : Nat) (v2 : Int) (v3 : Int) (v4 : Int) (v5 : Int) (v6 : Int) (v7 : Int) (m : jMu) (r : (Int × jMu)), f_X10_put_L99 q v2 v3 v4 v5 v6 v7 m = some r → jQ X (.inl (some (jI r.1))) SKF r.2 rm_X10_put.cells rm_X10_put.slots → J X SKF m 0 0 99 [(0, jR 74), (2, jI v2), (3, jI v3), (4, jI v4), (5, jI v5), (6, jI v6), (7, jI v7)] [] := by
  intro q
  induction q with
  | zero =>
    intro v2 v3 v4 v5 v6 v7 m r hf
    rw [f_X10_put_L99] at hf
    cases hf
  | succ q ih =>
    intro v2 v3 v4 v5 v6 v7 m r hf hq
    rw [f_X10_put_L99] at hf
    refine B_blk B jlkX10_ok jcl_SKF [.iload 7, .iload 5] (by decide +kernel) (ls' := [(0, jR 74), (2, jI v2), (3, jI v3), (4, jI v4), (5, jI v5), (6, jI v6), (7, jI v7)]) (st' := [jI v5, jI v7]) rfl (p1 := 103) rfl ?_
    refine J_icmp_ge B.1 (off := 21) (tgt := 124) (by decide +kernel) (by decide) hf (fun hf => ?_) (fun hf => ?_)
    · refine B_blk B jlkX10_ok jcl_SKF [.iconst (-1), .istore 7, .iconst 0, .istore 8] (by decide +kernel) (ls' := [(0, jR 74), (2, jI v2), (3, jI v3), (4, jI v4), (5, jI v5), (6, jI v6), (7, jI (-1)), (8, jI 0)]) (st' := []) rfl (p1 := 130) rfl ?_
      refine J_pick [0, 1, 2, 3, 5, 6, 7] (ls' := [(0, jR 74), (2, jI v2), (3, jI v3), (4, jI v4), (6, jI v6), (7, jI (-1)), (8, jI 0)]) rfl ?_
      exact t_X10_put_L130 B jFU v2 v3 v4 v6 (-1) 0 m _ hf hq
    · refine B_blk B jlkX10_ok jcl_SKF [.iload 6, .aload_n 0, .getfield 7, .bipush 6] (by decide +kernel) (ls' := [(0, jR 74), (2, jI v2), (3, jI v3), (4, jI v4), (5, jI v5), (6, jI v6), (7, jI v7)]) (st' := [jI 6, jR 75, jI v6]) rfl (p1 := 114) rfl ?_
      refine K_iald (lenI := 2083) B rfl rfl (by decide) (by decide +kernel) ?_
      refine B_blk B jlkX10_ok jcl_SKF [.imul, .istore 6, .iinc 7 1, .goto (-22)] (by decide +kernel) (ls' := [(0, jR 74), (2, jI v2), (3, jI v3), (4, jI v4), (5, jI v5), (6, jI (jW (v6 * m 75 6))), (7, jI (jW (v7 + 1)))]) (st' := []) rfl (p1 := 99) rfl ?_
      exact ih v2 v3 v4 v5 (jW (v6 * m 75 6)) (jW (v7 + 1)) m _ hf hq
theorem t_X10_put_J56 {X : jX} (B : jB X cX10_put RX10 16 SKF.length rm_X10_put (some .int)) (v1 : Int) (v2 : Int) (v3 : Int) (v4 : Int) (s1 : Int) (m : jMu) (r : (Int × jMu)) (hf : f_X10_put_J56 v1 v2 v3 v4 s1 m = some r) (hq : jQ X (.inl (some (jI r.1))) SKF r.2 rm_X10_put.cells rm_X10_put.slots) : J X SKF m 0 0 56 [(0, jR 74), (1, jI v1), (2, jI v2), (3, jI v3), (4, jI v4)] [jI s1, jR 74] := by
  unfold f_X10_put_J56 at hf
  refine K_putI (jI' := 0) B jp_X10_51 rfl rfl rfl (by decide +kernel) ?_
  obtain ⟨m2, hm2, hf⟩ := jlt_s hf
  rw [hm2]
  refine B_blk B jlkX10_ok jcl_SKF [.aload_n 0, .getfield 51] (by decide +kernel) (ls' := [(0, jR 74), (1, jI v1), (2, jI v2), (3, jI v3), (4, jI v4)]) (st' := [jI (m2 74 0)]) rfl (p1 := 63) rfl ?_
  refine J_if_le B.1 (off := 5) (tgt := 68) (by decide +kernel) (by decide) hf (fun hf => ?_) (fun hf => ?_)
  · refine B_blk B jlkX10_ok jcl_SKF [.aload_n 0, .iload_n 1] (by decide +kernel) (ls' := [(0, jR 74), (1, jI v1), (2, jI v2), (3, jI v3), (4, jI v4)]) (st' := [jI v1, jR 74]) rfl (p1 := 70) rfl ?_
    obtain ⟨r3, h3, hf⟩ := jbd hf
    refine B_callV B (Nat.le_refl _) (μ' := r3) (k' := 0) (n' := 0) ca_X10_lays in_X10_lays se_X10_lays lk_X10_269 (t_X10_lays B.tr h3) (Nat.le_refl _) rfl rfl rfl (rest := []) rfl rfl (Nat.le_of_ble_eq_true rfl) (by decide +kernel) rfl rfl (st' := []) rfl ?_
    refine B_blk B jlkX10_ok jcl_SKF [.iload_n 2] (by decide +kernel) (ls' := [(0, jR 74), (1, jI v1), (2, jI v2), (3, jI v3), (4, jI v4)]) (st' := [jI v2]) rfl (p1 := 74) rfl ?_
    obtain ⟨r4, h4, hf⟩ := jbd hf
    refine B_callS B (Nat.le_refl _) (μ' := r3) (k' := 0) (n' := 0) ca_X10_count1 sa_X10_count1 lk_X10_266 (t_X10_count1 B.tr jcl_SKF h4) (Nat.le_refl _) rfl (rest := []) rfl rfl (Nat.le_of_ble_eq_true rfl) (by decide +kernel) rfl rfl (st' := [jI r4]) rfl ?_
    refine B_blk B jlkX10_ok jcl_SKF [.istore 5, .iload 5, .aload_n 0, .getfield 7, .bipush 6] (by decide +kernel) (ls' := [(0, jR 74), (1, jI v1), (2, jI v2), (3, jI v3), (4, jI v4), (5, jI r4)]) (st' := [jI 6, jR 75, jI r4]) rfl (p1 := 87) rfl ?_
    refine K_iald (lenI := 2083) B rfl rfl (by decide) (by decide +kernel) ?_
    refine J_icmp_le B.1 (off := 5) (tgt := 93) (by decide +kernel) (by decide) hf (fun hf => ?_) (fun hf => ?_)
    · refine B_blk B jlkX10_ok jcl_SKF [.iconst 1, .istore 6, .iconst 0, .istore 7] (by decide +kernel) (ls' := [(0, jR 74), (1, jI v1), (2, jI v2), (3, jI v3), (4, jI v4), (5, jI r4), (6, jI 1), (7, jI 0)]) (st' := []) rfl (p1 := 99) rfl ?_
      refine J_pick [0, 2, 3, 4, 5, 6, 7] (ls' := [(0, jR 74), (2, jI v2), (3, jI v3), (4, jI v4), (5, jI r4), (6, jI 1), (7, jI 0)]) rfl ?_
      exact t_X10_put_L99 B jFU v2 v3 v4 r4 1 0 r3 _ hf hq
    · refine B_blk B jlkX10_ok jcl_SKF [.iconst (-1)] (by decide +kernel) (ls' := [(0, jR 74), (1, jI v1), (2, jI v2), (3, jI v3), (4, jI v4), (5, jI r4)]) (st' := [jI (-1)]) rfl (p1 := 92) rfl ?_
      cases hf
      exact B_retI B hq rfl (Nat.le_of_ble_eq_true rfl) (Nat.le_of_ble_eq_true rfl) (by decide +kernel)
  · refine B_blk B jlkX10_ok jcl_SKF [.iconst 0] (by decide +kernel) (ls' := [(0, jR 74), (1, jI v1), (2, jI v2), (3, jI v3), (4, jI v4)]) (st' := [jI 0]) rfl (p1 := 67) rfl ?_
    cases hf
    exact B_retI B hq rfl (Nat.le_of_ble_eq_true rfl) (Nat.le_of_ble_eq_true rfl) (by decide +kernel)
theorem t_X10_put_J31 {X : jX} (B : jB X cX10_put RX10 16 SKF.length rm_X10_put (some .int)) (v1 : Int) (v2 : Int) (v3 : Int) (v4 : Int) (m : jMu) (r : (Int × jMu)) (hf : f_X10_put_J31 v1 v2 v3 v4 m = some r) (hq : jQ X (.inl (some (jI r.1))) SKF r.2 rm_X10_put.cells rm_X10_put.slots) : J X SKF m 0 0 31 [(0, jR 74), (1, jI v1), (2, jI v2), (3, jI v3), (4, jI v4)] [jR 74] := by
  unfold f_X10_put_J31 at hf
  refine B_blk B jlkX10_ok jcl_SKF [.iconst 1, .goto 24] (by decide +kernel) (ls' := [(0, jR 74), (1, jI v1), (2, jI v2), (3, jI v3), (4, jI v4)]) (st' := [jI 1, jR 74]) rfl (p1 := 56) rfl ?_
  exact t_X10_put_J56 B v1 v2 v3 v4 1 m _ hf hq
theorem t_X10_put_J51 {X : jX} (B : jB X cX10_put RX10 16 SKF.length rm_X10_put (some .int)) (v1 : Int) (v2 : Int) (v3 : Int) (v4 : Int) (m : jMu) (r : (Int × jMu)) (hf : f_X10_put_J51 v1 v2 v3 v4 m = some r) (hq : jQ X (.inl (some (jI r.1))) SKF r.2 rm_X10_put.cells rm_X10_put.slots) : J X SKF m 0 0 51 [(0, jR 74), (1, jI v1), (2, jI v2), (3, jI v3), (4, jI v4)] [jR 74] := by
  unfold f_X10_put_J51 at hf
  refine B_blk B jlkX10_ok jcl_SKF [.iconst 2, .goto 4] (by decide +kernel) (ls' := [(0, jR 74), (1, jI v1), (2, jI v2), (3, jI v3), (4, jI v4)]) (st' := [jI 2, jR 74]) rfl (p1 := 56) rfl ?_
  exact t_X10_put_J56 B v1 v2 v3 v4 2 m _ hf hq
theorem t_X10_put_J35 {X : jX} (B : jB X cX10_put RX10 16 SKF.length rm_X10_put (some .int)) (v1 : Int) (v2 : Int) (v3 : Int) (v4 : Int) (m : jMu) (r : (Int × jMu)) (hf : f_X10_put_J35 v1 v2 v3 v4 m = some r) (hq : jQ X (.inl (some (jI r.1))) SKF r.2 rm_X10_put.cells rm_X10_put.slots) : J X SKF m 0 0 35 [(0, jR 74), (1, jI v1), (2, jI v2), (3, jI v3), (4, jI v4)] [jR 74] := by
  unfold f_X10_put_J35 at hf
  refine B_blk B jlkX10_ok jcl_SKF [.iload_n 2] (by decide +kernel) (ls' := [(0, jR 74), (1, jI v1), (2, jI v2), (3, jI v3), (4, jI v4)]) (st' := [jI v2, jR 74]) rfl (p1 := 36) rfl ?_
  refine J_if_lt B.1 (off := 15) (tgt := 51) (by decide +kernel) (by decide) hf (fun hf => ?_) (fun hf => ?_)
  · exact t_X10_put_J51 B v1 v2 v3 v4 m _ hf hq
  · refine B_blk B jlkX10_ok jcl_SKF [.iload_n 2, .iconst 1, .aload_n 0, .getfield 7, .iconst 0] (by decide +kernel) (ls' := [(0, jR 74), (1, jI v1), (2, jI v2), (3, jI v3), (4, jI v4)]) (st' := [jI 0, jR 75, jI 1, jI v2, jR 74]) rfl (p1 := 46) rfl ?_
    refine K_iald (lenI := 2083) B rfl rfl (by decide) (by decide +kernel) ?_
    refine B_blk B jlkX10_ok jcl_SKF [.ishl] (by decide +kernel) (ls' := [(0, jR 74), (1, jI v1), (2, jI v2), (3, jI v3), (4, jI v4)]) (st' := [jI (jSl 1 (m 75 0)), jI v2, jR 74]) rfl (p1 := 48) rfl ?_
    refine J_icmp_lt B.1 (off := 7) (tgt := 55) (by decide +kernel) (by decide) hf (fun hf => ?_) (fun hf => ?_)
    · refine B_blk B jlkX10_ok jcl_SKF [.iconst 0] (by decide +kernel) (ls' := [(0, jR 74), (1, jI v1), (2, jI v2), (3, jI v3), (4, jI v4)]) (st' := [jI 0, jR 74]) rfl (p1 := 56) rfl ?_
      exact t_X10_put_J56 B v1 v2 v3 v4 0 m _ hf hq
    · exact t_X10_put_J51 B v1 v2 v3 v4 m _ hf hq
theorem t_X10_put {l : Launch} {G : jG} (hl : l.stackTraces = false) {a0 : Int} {a1 : Int} {a2 : Int} {a3 : Int} {m : jMu} {r : (Int × jMu)} (hf : f_X10_put a0 a1 a2 a3 m = some r) : jCt l G yX10_put (.code yX10_put cX10_put 16 (some .int) :: jWG) rm_X10_put [jR 74, jI a0, jI a1, jI a2, jI a3] SKF m (.inl (some (jI r.1))) SKF r.2 := by
  unfold f_X10_put at hf
  refine J_start (ls0 := [(0, jR 74), (1, jI a0), (2, jI a1), (3, jI a2), (4, jI a3)]) (by decide +kernel) hl (Nat.le_of_ble_eq_true rfl) rfl fun X C hN hn hR hr hnm hno hq => ?_
  have B : jB X cX10_put RX10 16 SKF.length rm_X10_put (some .int) := ⟨C, hN, Nat.le_of_eq hn, hR, hr⟩
  refine B_blk B jlkX10_ok jcl_SKF [.aload_n 0, .aload_n 0, .iload_n 1] (by decide +kernel) (ls' := [(0, jR 74), (1, jI a0), (2, jI a1), (3, jI a2), (4, jI a3)]) (st' := [jI a0, jR 74, jR 74]) rfl (p1 := 3) rfl ?_
  obtain ⟨r1, h1, hf⟩ := jbd hf
  refine B_callV B (Nat.le_refl _) (μ' := m) (k' := 0) (n' := 0) ca_X10_isTerms in_X10_isTerms se_X10_isTerms lk_X10_203 (t_X10_isTerms B.tr h1) (Nat.le_refl _) rfl rfl rfl (rest := [jR 74]) rfl rfl (Nat.le_of_ble_eq_true rfl) (by decide +kernel) rfl rfl (st' := [jI r1, jR 74]) rfl ?_
  refine J_if_eq B.1 (off := 25) (tgt := 31) (by decide +kernel) (by decide) hf (fun hf => ?_) (fun hf => ?_)
  · exact t_X10_put_J31 B a0 a1 a2 a3 m _ hf hq
  · refine B_blk B jlkX10_ok jcl_SKF [.iload_n 3] (by decide +kernel) (ls' := [(0, jR 74), (1, jI a0), (2, jI a1), (3, jI a2), (4, jI a3)]) (st' := [jI a2, jR 74]) rfl (p1 := 10) rfl ?_
    obtain ⟨r19, h19, hf⟩ := jbd hf
    refine B_callS B (Nat.le_refl _) (μ' := m) (k' := 0) (n' := 0) ca_X10_isMoment sa_X10_isMoment lk_X10_227 (t_X10_isMoment B.tr jcl_SKF h19) (Nat.le_refl _) rfl (rest := [jR 74]) rfl rfl (Nat.le_of_ble_eq_true rfl) (by decide +kernel) rfl rfl (st' := [jI r19, jR 74]) rfl ?_
    refine J_if_eq B.1 (off := 18) (tgt := 31) (by decide +kernel) (by decide) hf (fun hf => ?_) (fun hf => ?_)
    · exact t_X10_put_J31 B a0 a1 a2 a3 m _ hf hq
    · refine B_blk B jlkX10_ok jcl_SKF [.iload 4, .iconst (-1)] (by decide +kernel) (ls' := [(0, jR 74), (1, jI a0), (2, jI a1), (3, jI a2), (4, jI a3)]) (st' := [jI (-1), jI a3, jR 74]) rfl (p1 := 19) rfl ?_
      refine J_icmp_eq B.1 (off := 16) (tgt := 35) (by decide +kernel) (by decide) hf (fun hf => ?_) (fun hf => ?_)
      · exact t_X10_put_J35 B a0 a1 a2 a3 m _ hf hq
      · refine B_blk B jlkX10_ok jcl_SKF [.aload_n 0, .iload 4] (by decide +kernel) (ls' := [(0, jR 74), (1, jI a0), (2, jI a1), (3, jI a2), (4, jI a3)]) (st' := [jI a3, jR 74, jR 74]) rfl (p1 := 25) rfl ?_
        obtain ⟨r20, h20, hf⟩ := jbd hf
        refine B_callV B (Nat.le_refl _) (μ' := m) (k' := 0) (n' := 0) ca_X10_isBay in_X10_isBay se_X10_isBay lk_X10_206 (t_X10_isBay B.tr h20) (Nat.le_refl _) rfl rfl rfl (rest := [jR 74]) rfl rfl (Nat.le_of_ble_eq_true rfl) (by decide +kernel) rfl rfl (st' := [jI r20, jR 74]) rfl ?_
        refine J_if_ne B.1 (off := 7) (tgt := 35) (by decide +kernel) (by decide) hf (fun hf => ?_) (fun hf => ?_)
        · exact t_X10_put_J31 B a0 a1 a2 a3 m _ hf hq
        · exact t_X10_put_J35 B a0 a1 a2 a3 m _ hf hq

def rm_X10_cost : Room := { frames := 6, cells := 0, slots := 0, locals := 107 }
def f_X10_cost_J38 (v1 : Int) (v2 : Int) (v3 : Int) (s1 : Int) (m : jMu) : Option jMu :=
  (jlt (jup m 74 0 s1) fun m2 => (if m2 74 0 ≤ 0 then (if 0 ≤ jW (jW (20 + jW (9 * v1)) + 4) ∧ jW (jW (20 + jW (9 * v1)) + 4) < 2083 then (jlt (jup m2 75 (jW (jW (20 + jW (9 * v1)) + 4)) v2) fun m3 => (if 0 ≤ jW (jW (jW (20 + jW (9 * v1)) + 4) + 1) ∧ jW (jW (jW (20 + jW (9 * v1)) + 4) + 1) < 2083 then (jlt (jup m3 75 (jW (jW (jW (20 + jW (9 * v1)) + 4) + 1)) v3) fun m4 => some m4) else none)) else none) else some m2))
def f_X10_cost_J33 (v1 : Int) (v2 : Int) (v3 : Int) (m : jMu) : Option jMu :=
  f_X10_cost_J38 v1 v2 v3 2 m
def f_X10_cost (a0 : Int) (a1 : Int) (a2 : Int) (m : jMu) : Option jMu :=
  (f_X10_isBay a0 m).bind fun r1 => (if r1 = 0 then f_X10_cost_J38 a0 a1 a2 1 m else (f_X10_isIn a1 0 99).bind fun r7 => (if r7 = 0 then f_X10_cost_J33 a0 a1 a2 m else (f_X10_isIn a2 0 99).bind fun r8 => (if r8 = 0 then f_X10_cost_J33 a0 a1 a2 m else f_X10_cost_J38 a0 a1 a2 0 m)))
theorem t_X10_cost_J38 {X : jX} (B : jB X cX10_cost RX10 4 SKF.length rm_X10_cost none) (v1 : Int) (v2 : Int) (v3 : Int) (s1 : Int) (m : jMu) (r : jMu) (hf : f_X10_cost_J38 v1 v2 v3 s1 m = some r) (hq : jQ X (.inl none) SKF r rm_X10_cost.cells rm_X10_cost.slots) : J X SKF m 0 0 38 [(0, jR 74), (1, jI v1), (2, jI v2), (3, jI v3)] [jI s1, jR 74] := by
  unfold f_X10_cost_J38 at hf
  refine K_putI (jI' := 0) B jp_X10_51 rfl rfl rfl (by decide +kernel) ?_
  obtain ⟨m2, hm2, hf⟩ := jlt_s hf
  rw [hm2]
  refine B_blk B jlkX10_ok jcl_SKF [.aload_n 0, .getfield 51] (by decide +kernel) (ls' := [(0, jR 74), (1, jI v1), (2, jI v2), (3, jI v3)]) (st' := [jI (m2 74 0)]) rfl (p1 := 45) rfl ?_
  refine J_if_le B.1 (off := 4) (tgt := 49) (by decide +kernel) (by decide) hf (fun hf => ?_) (fun hf => ?_)
  · refine B_blk B jlkX10_ok jcl_SKF [.aload_n 0, .getfield 7, .bipush 20, .bipush 9, .iload_n 1, .imul, .iadd, .iconst 4, .iadd, .iload_n 2] (by decide +kernel) (ls' := [(0, jR 74), (1, jI v1), (2, jI v2), (3, jI v3)]) (st' := [jI v2, jI (jW (jW (20 + jW (9 * v1)) + 4)), jR 75]) rfl (p1 := 63) rfl ?_
    obtain ⟨g6, hf⟩ := jgd hf
    refine K_iast (lenI := 2083) B rfl rfl g6 (by decide +kernel) ?_
    obtain ⟨m3, hm3, hf⟩ := jlt_s hf
    rw [hm3]
    refine B_blk B jlkX10_ok jcl_SKF [.aload_n 0, .getfield 7, .bipush 20, .bipush 9, .iload_n 1, .imul, .iadd, .iconst 4, .iadd, .iconst 1, .iadd, .iload_n 3] (by decide +kernel) (ls' := [(0, jR 74), (1, jI v1), (2, jI v2), (3, jI v3)]) (st' := [jI v3, jI (jW (jW (jW (20 + jW (9 * v1)) + 4) + 1)), jR 75]) rfl (p1 := 80) rfl ?_
    obtain ⟨g5, hf⟩ := jgd hf
    refine K_iast (lenI := 2083) B rfl rfl g5 (by decide +kernel) ?_
    obtain ⟨m4, hm4, hf⟩ := jlt_s hf
    rw [hm4]
    cases hf
    exact B_retV B hq rfl (Nat.le_of_ble_eq_true rfl) (Nat.le_of_ble_eq_true rfl) (by decide +kernel)
  · cases hf
    exact B_retV B hq rfl (Nat.le_of_ble_eq_true rfl) (Nat.le_of_ble_eq_true rfl) (by decide +kernel)
theorem t_X10_cost_J33 {X : jX} (B : jB X cX10_cost RX10 4 SKF.length rm_X10_cost none) (v1 : Int) (v2 : Int) (v3 : Int) (m : jMu) (r : jMu) (hf : f_X10_cost_J33 v1 v2 v3 m = some r) (hq : jQ X (.inl none) SKF r rm_X10_cost.cells rm_X10_cost.slots) : J X SKF m 0 0 33 [(0, jR 74), (1, jI v1), (2, jI v2), (3, jI v3)] [jR 74] := by
  unfold f_X10_cost_J33 at hf
  refine B_blk B jlkX10_ok jcl_SKF [.iconst 2, .goto 4] (by decide +kernel) (ls' := [(0, jR 74), (1, jI v1), (2, jI v2), (3, jI v3)]) (st' := [jI 2, jR 74]) rfl (p1 := 38) rfl ?_
  exact t_X10_cost_J38 B v1 v2 v3 2 m _ hf hq
theorem t_X10_cost {l : Launch} {G : jG} (hl : l.stackTraces = false) {a0 : Int} {a1 : Int} {a2 : Int} {m : jMu} {r : jMu} (hf : f_X10_cost a0 a1 a2 m = some r) : jCt l G yX10_cost (.code yX10_cost cX10_cost 4 none :: jWG) rm_X10_cost [jR 74, jI a0, jI a1, jI a2] SKF m (.inl none) SKF r := by
  unfold f_X10_cost at hf
  refine J_start (ls0 := [(0, jR 74), (1, jI a0), (2, jI a1), (3, jI a2)]) (by decide +kernel) hl (Nat.le_of_ble_eq_true rfl) rfl fun X C hN hn hR hr hnm hno hq => ?_
  have B : jB X cX10_cost RX10 4 SKF.length rm_X10_cost none := ⟨C, hN, Nat.le_of_eq hn, hR, hr⟩
  refine B_blk B jlkX10_ok jcl_SKF [.aload_n 0, .aload_n 0, .iload_n 1] (by decide +kernel) (ls' := [(0, jR 74), (1, jI a0), (2, jI a1), (3, jI a2)]) (st' := [jI a0, jR 74, jR 74]) rfl (p1 := 3) rfl ?_
  obtain ⟨r1, h1, hf⟩ := jbd hf
  refine B_callV B (Nat.le_refl _) (μ' := m) (k' := 0) (n' := 0) ca_X10_isBay in_X10_isBay se_X10_isBay lk_X10_206 (t_X10_isBay B.tr h1) (Nat.le_refl _) rfl rfl rfl (rest := [jR 74]) rfl rfl (Nat.le_of_ble_eq_true rfl) (by decide +kernel) rfl rfl (st' := [jI r1, jR 74]) rfl ?_
  refine J_if_ne B.1 (off := 7) (tgt := 13) (by decide +kernel) (by decide) hf (fun hf => ?_) (fun hf => ?_)
  · refine B_blk B jlkX10_ok jcl_SKF [.iconst 1, .goto 28] (by decide +kernel) (ls' := [(0, jR 74), (1, jI a0), (2, jI a1), (3, jI a2)]) (st' := [jI 1, jR 74]) rfl (p1 := 38) rfl ?_
    exact t_X10_cost_J38 B a0 a1 a2 1 m _ hf hq
  · refine B_blk B jlkX10_ok jcl_SKF [.iload_n 2, .iconst 0, .bipush 99] (by decide +kernel) (ls' := [(0, jR 74), (1, jI a0), (2, jI a1), (3, jI a2)]) (st' := [jI 99, jI 0, jI a1, jR 74]) rfl (p1 := 17) rfl ?_
    obtain ⟨r7, h7, hf⟩ := jbd hf
    refine B_callS B (Nat.le_refl _) (μ' := m) (k' := 0) (n' := 0) ca_X10_isIn sa_X10_isIn lk_X10_54 (t_X10_isIn B.tr jcl_SKF h7) (Nat.le_refl _) rfl (rest := [jR 74]) rfl rfl (Nat.le_of_ble_eq_true rfl) (by decide +kernel) rfl rfl (st' := [jI r7, jR 74]) rfl ?_
    refine J_if_eq B.1 (off := 13) (tgt := 33) (by decide +kernel) (by decide) hf (fun hf => ?_) (fun hf => ?_)
    · exact t_X10_cost_J33 B a0 a1 a2 m _ hf hq
    · refine B_blk B jlkX10_ok jcl_SKF [.iload_n 3, .iconst 0, .bipush 99] (by decide +kernel) (ls' := [(0, jR 74), (1, jI a0), (2, jI a1), (3, jI a2)]) (st' := [jI 99, jI 0, jI a2, jR 74]) rfl (p1 := 27) rfl ?_
      obtain ⟨r8, h8, hf⟩ := jbd hf
      refine B_callS B (Nat.le_refl _) (μ' := m) (k' := 0) (n' := 0) ca_X10_isIn sa_X10_isIn lk_X10_54 (t_X10_isIn B.tr jcl_SKF h8) (Nat.le_refl _) rfl (rest := [jR 74]) rfl rfl (Nat.le_of_ble_eq_true rfl) (by decide +kernel) rfl rfl (st' := [jI r8, jR 74]) rfl ?_
      refine J_if_ne B.1 (off := 7) (tgt := 37) (by decide +kernel) (by decide) hf (fun hf => ?_) (fun hf => ?_)
      · exact t_X10_cost_J33 B a0 a1 a2 m _ hf hq
      · refine B_blk B jlkX10_ok jcl_SKF [.iconst 0] (by decide +kernel) (ls' := [(0, jR 74), (1, jI a0), (2, jI a1), (3, jI a2)]) (st' := [jI 0, jR 74]) rfl (p1 := 38) rfl ?_
        exact t_X10_cost_J38 B a0 a1 a2 0 m _ hf hq

def rm_X10_wear : Room := { frames := 6, cells := 0, slots := 0, locals := 107 }
def f_X10_wear_J52 (v1 : Int) (v2 : Int) (v3 : Int) (v4 : Int) (s1 : Int) (m : jMu) : Option jMu :=
  (jlt (jup m 74 0 s1) fun m2 => (if m2 74 0 ≤ 0 then (if 0 ≤ jW (jW (20 + jW (9 * v1)) + 6) ∧ jW (jW (20 + jW (9 * v1)) + 6) < 2083 then (jlt (jup m2 75 (jW (jW (20 + jW (9 * v1)) + 6)) v2) fun m3 => (if 0 ≤ jW (jW (jW (20 + jW (9 * v1)) + 6) + 1) ∧ jW (jW (jW (20 + jW (9 * v1)) + 6) + 1) < 2083 then (jlt (jup m3 75 (jW (jW (jW (20 + jW (9 * v1)) + 6) + 1)) v3) fun m4 => (if 0 ≤ jW (jW (jW (20 + jW (9 * v1)) + 6) + 2) ∧ jW (jW (jW (20 + jW (9 * v1)) + 6) + 2) < 2083 then (jlt (jup m4 75 (jW (jW (jW (20 + jW (9 * v1)) + 6) + 2)) v4) fun m5 => some m5) else none)) else none)) else none) else some m2))
def f_X10_wear_J47 (v1 : Int) (v2 : Int) (v3 : Int) (v4 : Int) (m : jMu) : Option jMu :=
  f_X10_wear_J52 v1 v2 v3 v4 2 m
def f_X10_wear (a0 : Int) (a1 : Int) (a2 : Int) (a3 : Int) (m : jMu) : Option jMu :=
  (f_X10_isBay a0 m).bind fun r1 => (if r1 = 0 then f_X10_wear_J52 a0 a1 a2 a3 1 m else (f_X10_isIn a1 0 999).bind fun r9 => (if r9 = 0 then f_X10_wear_J47 a0 a1 a2 a3 m else (f_X10_isIn a2 0 999).bind fun r10 => (if r10 = 0 then f_X10_wear_J47 a0 a1 a2 a3 m else (f_X10_isIn a3 0 999).bind fun r11 => (if r11 = 0 then f_X10_wear_J47 a0 a1 a2 a3 m else f_X10_wear_J52 a0 a1 a2 a3 0 m))))
theorem t_X10_wear_J52 {X : jX} (B : jB X cX10_wear RX10 5 SKF.length rm_X10_wear none) (v1 : Int) (v2 : Int) (v3 : Int) (v4 : Int) (s1 : Int) (m : jMu) (r : jMu) (hf : f_X10_wear_J52 v1 v2 v3 v4 s1 m = some r) (hq : jQ X (.inl none) SKF r rm_X10_wear.cells rm_X10_wear.slots) : J X SKF m 0 0 52 [(0, jR 74), (1, jI v1), (2, jI v2), (3, jI v3), (4, jI v4)] [jI s1, jR 74] := by
  unfold f_X10_wear_J52 at hf
  refine K_putI (jI' := 0) B jp_X10_51 rfl rfl rfl (by decide +kernel) ?_
  obtain ⟨m2, hm2, hf⟩ := jlt_s hf
  rw [hm2]
  refine B_blk B jlkX10_ok jcl_SKF [.aload_n 0, .getfield 51] (by decide +kernel) (ls' := [(0, jR 74), (1, jI v1), (2, jI v2), (3, jI v3), (4, jI v4)]) (st' := [jI (m2 74 0)]) rfl (p1 := 59) rfl ?_
  refine J_if_le B.1 (off := 4) (tgt := 63) (by decide +kernel) (by decide) hf (fun hf => ?_) (fun hf => ?_)
  · refine B_blk B jlkX10_ok jcl_SKF [.aload_n 0, .getfield 7, .bipush 20, .bipush 9, .iload_n 1, .imul, .iadd, .bipush 6, .iadd, .iload_n 2] (by decide +kernel) (ls' := [(0, jR 74), (1, jI v1), (2, jI v2), (3, jI v3), (4, jI v4)]) (st' := [jI v2, jI (jW (jW (20 + jW (9 * v1)) + 6)), jR 75]) rfl (p1 := 78) rfl ?_
    obtain ⟨g8, hf⟩ := jgd hf
    refine K_iast (lenI := 2083) B rfl rfl g8 (by decide +kernel) ?_
    obtain ⟨m3, hm3, hf⟩ := jlt_s hf
    rw [hm3]
    refine B_blk B jlkX10_ok jcl_SKF [.aload_n 0, .getfield 7, .bipush 20, .bipush 9, .iload_n 1, .imul, .iadd, .bipush 6, .iadd, .iconst 1, .iadd, .iload_n 3] (by decide +kernel) (ls' := [(0, jR 74), (1, jI v1), (2, jI v2), (3, jI v3), (4, jI v4)]) (st' := [jI v3, jI (jW (jW (jW (20 + jW (9 * v1)) + 6) + 1)), jR 75]) rfl (p1 := 96) rfl ?_
    obtain ⟨g7, hf⟩ := jgd hf
    refine K_iast (lenI := 2083) B rfl rfl g7 (by decide +kernel) ?_
    obtain ⟨m4, hm4, hf⟩ := jlt_s hf
    rw [hm4]
    refine B_blk B jlkX10_ok jcl_SKF [.aload_n 0, .getfield 7, .bipush 20, .bipush 9, .iload_n 1, .imul, .iadd, .bipush 6, .iadd, .iconst 2, .iadd, .iload 4] (by decide +kernel) (ls' := [(0, jR 74), (1, jI v1), (2, jI v2), (3, jI v3), (4, jI v4)]) (st' := [jI v4, jI (jW (jW (jW (20 + jW (9 * v1)) + 6) + 2)), jR 75]) rfl (p1 := 115) rfl ?_
    obtain ⟨g6, hf⟩ := jgd hf
    refine K_iast (lenI := 2083) B rfl rfl g6 (by decide +kernel) ?_
    obtain ⟨m5, hm5, hf⟩ := jlt_s hf
    rw [hm5]
    cases hf
    exact B_retV B hq rfl (Nat.le_of_ble_eq_true rfl) (Nat.le_of_ble_eq_true rfl) (by decide +kernel)
  · cases hf
    exact B_retV B hq rfl (Nat.le_of_ble_eq_true rfl) (Nat.le_of_ble_eq_true rfl) (by decide +kernel)
theorem t_X10_wear_J47 {X : jX} (B : jB X cX10_wear RX10 5 SKF.length rm_X10_wear none) (v1 : Int) (v2 : Int) (v3 : Int) (v4 : Int) (m : jMu) (r : jMu) (hf : f_X10_wear_J47 v1 v2 v3 v4 m = some r) (hq : jQ X (.inl none) SKF r rm_X10_wear.cells rm_X10_wear.slots) : J X SKF m 0 0 47 [(0, jR 74), (1, jI v1), (2, jI v2), (3, jI v3), (4, jI v4)] [jR 74] := by
  unfold f_X10_wear_J47 at hf
  refine B_blk B jlkX10_ok jcl_SKF [.iconst 2, .goto 4] (by decide +kernel) (ls' := [(0, jR 74), (1, jI v1), (2, jI v2), (3, jI v3), (4, jI v4)]) (st' := [jI 2, jR 74]) rfl (p1 := 52) rfl ?_
  exact t_X10_wear_J52 B v1 v2 v3 v4 2 m _ hf hq
theorem t_X10_wear {l : Launch} {G : jG} (hl : l.stackTraces = false) {a0 : Int} {a1 : Int} {a2 : Int} {a3 : Int} {m : jMu} {r : jMu} (hf : f_X10_wear a0 a1 a2 a3 m = some r) : jCt l G yX10_wear (.code yX10_wear cX10_wear 5 none :: jWG) rm_X10_wear [jR 74, jI a0, jI a1, jI a2, jI a3] SKF m (.inl none) SKF r := by
  unfold f_X10_wear at hf
  refine J_start (ls0 := [(0, jR 74), (1, jI a0), (2, jI a1), (3, jI a2), (4, jI a3)]) (by decide +kernel) hl (Nat.le_of_ble_eq_true rfl) rfl fun X C hN hn hR hr hnm hno hq => ?_
  have B : jB X cX10_wear RX10 5 SKF.length rm_X10_wear none := ⟨C, hN, Nat.le_of_eq hn, hR, hr⟩
  refine B_blk B jlkX10_ok jcl_SKF [.aload_n 0, .aload_n 0, .iload_n 1] (by decide +kernel) (ls' := [(0, jR 74), (1, jI a0), (2, jI a1), (3, jI a2), (4, jI a3)]) (st' := [jI a0, jR 74, jR 74]) rfl (p1 := 3) rfl ?_
  obtain ⟨r1, h1, hf⟩ := jbd hf
  refine B_callV B (Nat.le_refl _) (μ' := m) (k' := 0) (n' := 0) ca_X10_isBay in_X10_isBay se_X10_isBay lk_X10_206 (t_X10_isBay B.tr h1) (Nat.le_refl _) rfl rfl rfl (rest := [jR 74]) rfl rfl (Nat.le_of_ble_eq_true rfl) (by decide +kernel) rfl rfl (st' := [jI r1, jR 74]) rfl ?_
  refine J_if_ne B.1 (off := 7) (tgt := 13) (by decide +kernel) (by decide) hf (fun hf => ?_) (fun hf => ?_)
  · refine B_blk B jlkX10_ok jcl_SKF [.iconst 1, .goto 42] (by decide +kernel) (ls' := [(0, jR 74), (1, jI a0), (2, jI a1), (3, jI a2), (4, jI a3)]) (st' := [jI 1, jR 74]) rfl (p1 := 52) rfl ?_
    exact t_X10_wear_J52 B a0 a1 a2 a3 1 m _ hf hq
  · refine B_blk B jlkX10_ok jcl_SKF [.iload_n 2, .iconst 0, .sipush 999] (by decide +kernel) (ls' := [(0, jR 74), (1, jI a0), (2, jI a1), (3, jI a2), (4, jI a3)]) (st' := [jI 999, jI 0, jI a1, jR 74]) rfl (p1 := 18) rfl ?_
    obtain ⟨r9, h9, hf⟩ := jbd hf
    refine B_callS B (Nat.le_refl _) (μ' := m) (k' := 0) (n' := 0) ca_X10_isIn sa_X10_isIn lk_X10_54 (t_X10_isIn B.tr jcl_SKF h9) (Nat.le_refl _) rfl (rest := [jR 74]) rfl rfl (Nat.le_of_ble_eq_true rfl) (by decide +kernel) rfl rfl (st' := [jI r9, jR 74]) rfl ?_
    refine J_if_eq B.1 (off := 26) (tgt := 47) (by decide +kernel) (by decide) hf (fun hf => ?_) (fun hf => ?_)
    · exact t_X10_wear_J47 B a0 a1 a2 a3 m _ hf hq
    · refine B_blk B jlkX10_ok jcl_SKF [.iload_n 3, .iconst 0, .sipush 999] (by decide +kernel) (ls' := [(0, jR 74), (1, jI a0), (2, jI a1), (3, jI a2), (4, jI a3)]) (st' := [jI 999, jI 0, jI a2, jR 74]) rfl (p1 := 29) rfl ?_
      obtain ⟨r10, h10, hf⟩ := jbd hf
      refine B_callS B (Nat.le_refl _) (μ' := m) (k' := 0) (n' := 0) ca_X10_isIn sa_X10_isIn lk_X10_54 (t_X10_isIn B.tr jcl_SKF h10) (Nat.le_refl _) rfl (rest := [jR 74]) rfl rfl (Nat.le_of_ble_eq_true rfl) (by decide +kernel) rfl rfl (st' := [jI r10, jR 74]) rfl ?_
      refine J_if_eq B.1 (off := 15) (tgt := 47) (by decide +kernel) (by decide) hf (fun hf => ?_) (fun hf => ?_)
      · exact t_X10_wear_J47 B a0 a1 a2 a3 m _ hf hq
      · refine B_blk B jlkX10_ok jcl_SKF [.iload 4, .iconst 0, .sipush 999] (by decide +kernel) (ls' := [(0, jR 74), (1, jI a0), (2, jI a1), (3, jI a2), (4, jI a3)]) (st' := [jI 999, jI 0, jI a3, jR 74]) rfl (p1 := 41) rfl ?_
        obtain ⟨r11, h11, hf⟩ := jbd hf
        refine B_callS B (Nat.le_refl _) (μ' := m) (k' := 0) (n' := 0) ca_X10_isIn sa_X10_isIn lk_X10_54 (t_X10_isIn B.tr jcl_SKF h11) (Nat.le_refl _) rfl (rest := [jR 74]) rfl rfl (Nat.le_of_ble_eq_true rfl) (by decide +kernel) rfl rfl (st' := [jI r11, jR 74]) rfl ?_
        refine J_if_ne B.1 (off := 7) (tgt := 51) (by decide +kernel) (by decide) hf (fun hf => ?_) (fun hf => ?_)
        · exact t_X10_wear_J47 B a0 a1 a2 a3 m _ hf hq
        · refine B_blk B jlkX10_ok jcl_SKF [.iconst 0] (by decide +kernel) (ls' := [(0, jR 74), (1, jI a0), (2, jI a1), (3, jI a2), (4, jI a3)]) (st' := [jI 0, jR 74]) rfl (p1 := 52) rfl ?_
          exact t_X10_wear_J52 B a0 a1 a2 a3 0 m _ hf hq

def rm_X10_spent : Room := { frames := 6, cells := 0, slots := 0, locals := 107 }
def f_X10_spent_L104 : Nat → Int → Int → Int → Int → Int → Int → Int → Int → Int → jMu → Option (Int × Int × Int × Int × Int × Int × Int × jMu)
  | 0, _, _, _, _, _, _, _, _, _, _ => none
  | q + 1, v1, v2, v3, v4, v5, v6, v7, v8, v9, m => (if v9 < 0 then some (v1, v2, v3, v4, v5, v7, v8, m) else (if 0 ≤ v9 ∧ v9 < 8 then (jlt (jup m 85 v9 (jRm v6 3)) fun m4 => (if 0 ≤ v9 ∧ v9 < 8 then (if m4 85 v9 = 0 then (if 0 ≤ v9 ∧ v9 < 8 then (f_X10_ofBay v9 (jW (6 + m4 85 v9)) m4).bind fun r5 => f_X10_spent_L104 q v1 v2 v3 v4 v5 (jDv v6 3) (jW (v7 + 0)) (jW (v8 + r5)) (jW (v9 + (-1))) m4 else none) else (if 0 ≤ v9 ∧ v9 < 8 then (f_X10_ofBay v9 (jW (jW (4 + m4 85 v9) - 1)) m4).bind fun r7 => (if 0 ≤ v9 ∧ v9 < 8 then (f_X10_ofBay v9 (jW (6 + m4 85 v9)) m4).bind fun r8 => f_X10_spent_L104 q v1 v2 v3 v4 v5 (jDv v6 3) (jW (v7 + r7)) (jW (v8 + r8)) (jW (v9 + (-1))) m4 else none) else none)) else none)) else none))
def f_X10_spent_L218 : Nat → Int → Int → Int → Int → Int → Int → jMu → Option (Int × Int × Int × Int × Int × jMu)
  | 0, _, _, _, _, _, _, _ => none
  | q + 1, v1, v2, v3, v4, v5, v9, m => (if m 75 0 ≤ v9 then some (v1, v2, v3, v4, v5, m) else (if 0 ≤ v9 ∧ v9 < 8 then (if 0 ≤ v9 ∧ v9 < 8 then (jlt (jup m 86 v9 (m 85 v9)) fun m14 => f_X10_spent_L218 q v1 v2 v3 v4 v5 (jW (v9 + 1)) m14) else none) else none))
def f_X10_spent_L78 : Nat → Int → Int → Int → Int → Int → jMu → Option (Int × jMu)
  | 0, _, _, _, _, _, _ => none
  | q + 1, v1, v2, v3, v4, v5, m => (if v3 ≤ v5 then (if v2 = (-1) then some (v4, m) else (if 0 ≤ v2 ∧ v2 < 8 then some (m 86 v2, m) else none)) else (f_X10_spent_L104 jFU v1 v2 v3 v4 v5 v5 0 0 (jW (m 75 0 - 1)) m).bind fun r13 => (if r13.1 < r13.2.2.2.2.2.1 then f_X10_spent_L78 q r13.1 r13.2.1 r13.2.2.1 r13.2.2.2.1 (jW (r13.2.2.2.2.1 + 1)) r13.2.2.2.2.2.2.2 else (if r13.2.2.2.1 = (-1) then (f_X10_spent_L218 jFU r13.1 r13.2.1 r13.2.2.1 r13.2.2.2.2.2.2.1 r13.2.2.2.2.1 0 r13.2.2.2.2.2.2.2).bind fun r17 => f_X10_spent_L78 q r17.1 r17.2.1 r17.2.2.1 r17.2.2.2.1 (jW (r17.2.2.2.2.1 + 1)) r17.2.2.2.2.2 else (if r13.2.2.2.2.2.2.1 < r13.2.2.2.1 then (f_X10_spent_L218 jFU r13.1 r13.2.1 r13.2.2.1 r13.2.2.2.2.2.2.1 r13.2.2.2.2.1 0 r13.2.2.2.2.2.2.2).bind fun r18 => f_X10_spent_L78 q r18.1 r18.2.1 r18.2.2.1 r18.2.2.2.1 (jW (r18.2.2.2.2.1 + 1)) r18.2.2.2.2.2 else f_X10_spent_L78 q r13.1 r13.2.1 r13.2.2.1 r13.2.2.2.1 (jW (r13.2.2.2.2.1 + 1)) r13.2.2.2.2.2.2.2))))
def f_X10_spent_L51 : Nat → Int → Int → Int → Int → jMu → Option (Int × jMu)
  | 0, _, _, _, _, _ => none
  | q + 1, v1, v2, v3, v4, m => (if m 75 0 ≤ v4 then f_X10_spent_L78 jFU v1 v2 v3 (-1) 0 m else f_X10_spent_L51 q v1 v2 (jW (v3 * 3)) (jW (v4 + 1)) m)
def f_X10_spent_J18 (v1 : Int) (v2 : Int) (m : jMu) : Option (Int × jMu) :=
  (f_X10_isIn v1 0 500).bind fun r1 => (if r1 = 0 then (jlt (jup m 74 0 2) fun m2 => (if m2 74 0 ≤ 0 then f_X10_spent_L51 jFU v1 v2 1 0 m2 else some (0, m2))) else (jlt (jup m 74 0 0) fun m19 => (if m19 74 0 ≤ 0 then f_X10_spent_L51 jFU v1 v2 1 0 m19 else some (0, m19))))
def f_X10_spent (a0 : Int) (a1 : Int) (m : jMu) : Option (Int × jMu) :=
  (if a1 = (-1) then f_X10_spent_J18 a0 a1 m else (f_X10_isBay a1 m).bind fun r20 => (if r20 = 0 then (jlt (jup m 74 0 1) fun m21 => (if m21 74 0 ≤ 0 then f_X10_spent_L51 jFU a0 a1 1 0 m21 else some (0, m21))) else f_X10_spent_J18 a0 a1 m))
theorem t_X10_spent_L104 {X : jX} (B : jB X cX10_spent RX10 10 SKF.length rm_X10_spent (some .int)) : ∀ (q : Nat) (v1 : Int) (v2 : Int) (v3 : Int) (v4 : Int) (v5 : Int) (v6 : Int) (v7 : Int) (v8 : Int) (v9 : Int) (m : jMu) (o : (Int × Int × Int × Int × Int × Int × Int × jMu)), f_X10_spent_L104 q v1 v2 v3 v4 v5 v6 v7 v8 v9 m = some o → J X SKF o.2.2.2.2.2.2.2 0 0 189 [(0, jR 74), (1, jI o.1), (2, jI o.2.1), (3, jI o.2.2.1), (4, jI o.2.2.2.1), (5, jI o.2.2.2.2.1), (7, jI o.2.2.2.2.2.1), (8, jI o.2.2.2.2.2.2.1)] [] → J X SKF m 0 0 104 [(0, jR 74), (1, jI v1), (2, jI v2), (3, jI v3), (4, jI v4), (5, jI v5), (6, jI v6), (7, jI v7), (8, jI v8), (9, jI v9)] [] := by
  intro q
  induction q with
  | zero =>
    intro v1 v2 v3 v4 v5 v6 v7 v8 v9 m o hf
    rw [f_X10_spent_L104] at hf
    cases hf
  | succ q ih =>
    intro v1 v2 v3 v4 v5 v6 v7 v8 v9 m o hf hx
    rw [f_X10_spent_L104] at hf
    refine B_blk B jlkX10_ok jcl_SKF [.iload 9] (by decide +kernel) (ls' := [(0, jR 74), (1, jI v1), (2, jI v2), (3, jI v3), (4, jI v4), (5, jI v5), (6, jI v6), (7, jI v7), (8, jI v8), (9, jI v9)]) (st' := [jI v9]) rfl (p1 := 106) rfl ?_
    refine J_if_lt B.1 (off := 83) (tgt := 189) (by decide +kernel) (by decide) hf (fun hf => ?_) (fun hf => ?_)
    · refine J_pick [0, 1, 2, 3, 4, 5, 7, 8] (ls' := [(0, jR 74), (1, jI v1), (2, jI v2), (3, jI v3), (4, jI v4), (5, jI v5), (7, jI v7), (8, jI v8)]) rfl ?_
      cases hf
      exact hx
    · refine B_blk B jlkX10_ok jcl_SKF [.aload_n 0, .getfield 45, .iload 9, .iload 6, .iconst 3] (by decide +kernel) (ls' := [(0, jR 74), (1, jI v1), (2, jI v2), (3, jI v3), (4, jI v4), (5, jI v5), (6, jI v6), (7, jI v7), (8, jI v8), (9, jI v9)]) (st' := [jI 3, jI v6, jI v9, jR 85]) rfl (p1 := 118) rfl ?_
      refine K_irem B (by decide) (by decide +kernel) ?_
      obtain ⟨g12, hf⟩ := jgd hf
      refine K_iast (lenI := 8) B rfl rfl g12 (by decide +kernel) ?_
      obtain ⟨m4, hm4, hf⟩ := jlt_s hf
      rw [hm4]
      refine B_blk B jlkX10_ok jcl_SKF [.iload 6, .iconst 3] (by decide +kernel) (ls' := [(0, jR 74), (1, jI v1), (2, jI v2), (3, jI v3), (4, jI v4), (5, jI v5), (6, jI v6), (7, jI v7), (8, jI v8), (9, jI v9)]) (st' := [jI 3, jI v6]) rfl (p1 := 123) rfl ?_
      refine K_idiv B (by decide) (by decide +kernel) ?_
      refine B_blk B jlkX10_ok jcl_SKF [.istore 6, .iload 7, .aload_n 0, .getfield 45, .iload 9] (by decide +kernel) (ls' := [(0, jR 74), (1, jI v1), (2, jI v2), (3, jI v3), (4, jI v4), (5, jI v5), (6, jI (jDv v6 3)), (7, jI v7), (8, jI v8), (9, jI v9)]) (st' := [jI v9, jR 85, jI v7]) rfl (p1 := 134) rfl ?_
      obtain ⟨g11, hf⟩ := jgd hf
      refine K_iald (lenI := 8) B rfl rfl g11 (by decide +kernel) ?_
      refine J_if_ne B.1 (off := 7) (tgt := 142) (by decide +kernel) (by decide) hf (fun hf => ?_) (fun hf => ?_)
      · refine B_blk B jlkX10_ok jcl_SKF [.iconst 0, .goto 20, .iadd, .istore 7, .iload 8, .aload_n 0, .iload 9, .bipush 6, .aload_n 0, .getfield 45, .iload 9] (by decide +kernel) (ls' := [(0, jR 74), (1, jI v1), (2, jI v2), (3, jI v3), (4, jI v4), (5, jI v5), (6, jI (jDv v6 3)), (7, jI (jW (v7 + 0))), (8, jI v8), (9, jI v9)]) (st' := [jI v9, jR 85, jI 6, jI v9, jR 74, jI v8]) rfl (p1 := 175) rfl ?_
        obtain ⟨g6, hf⟩ := jgd hf
        refine K_iald (lenI := 8) B rfl rfl g6 (by decide +kernel) ?_
        refine B_blk B jlkX10_ok jcl_SKF [.iadd] (by decide +kernel) (ls' := [(0, jR 74), (1, jI v1), (2, jI v2), (3, jI v3), (4, jI v4), (5, jI v5), (6, jI (jDv v6 3)), (7, jI (jW (v7 + 0))), (8, jI v8), (9, jI v9)]) (st' := [jI (jW (6 + m4 85 v9)), jI v9, jR 74, jI v8]) rfl (p1 := 177) rfl ?_
        obtain ⟨r5, h5, hf⟩ := jbd hf
        refine B_callV B (Nat.le_refl _) (μ' := m4) (k' := 0) (n' := 0) ca_X10_ofBay in_X10_ofBay se_X10_ofBay lk_X10_182 (t_X10_ofBay B.tr h5) (Nat.le_refl _) rfl rfl rfl (rest := [jI v8]) rfl rfl (Nat.le_of_ble_eq_true rfl) (by decide +kernel) rfl rfl (st' := [jI r5, jI v8]) rfl ?_
        refine B_blk B jlkX10_ok jcl_SKF [.iadd, .istore 8, .iinc 9 (-1), .goto (-82)] (by decide +kernel) (ls' := [(0, jR 74), (1, jI v1), (2, jI v2), (3, jI v3), (4, jI v4), (5, jI v5), (6, jI (jDv v6 3)), (7, jI (jW (v7 + 0))), (8, jI (jW (v8 + r5))), (9, jI (jW (v9 + (-1))))]) (st' := []) rfl (p1 := 104) rfl ?_
        exact ih v1 v2 v3 v4 v5 (jDv v6 3) (jW (v7 + 0)) (jW (v8 + r5)) (jW (v9 + (-1))) m4 _ hf hx
      · refine B_blk B jlkX10_ok jcl_SKF [.aload_n 0, .iload 9, .iconst 4, .aload_n 0, .getfield 45, .iload 9] (by decide +kernel) (ls' := [(0, jR 74), (1, jI v1), (2, jI v2), (3, jI v3), (4, jI v4), (5, jI v5), (6, jI (jDv v6 3)), (7, jI v7), (8, jI v8), (9, jI v9)]) (st' := [jI v9, jR 85, jI 4, jI v9, jR 74, jI v7]) rfl (p1 := 152) rfl ?_
        obtain ⟨g10, hf⟩ := jgd hf
        refine K_iald (lenI := 8) B rfl rfl g10 (by decide +kernel) ?_
        refine B_blk B jlkX10_ok jcl_SKF [.iadd, .iconst 1, .isub] (by decide +kernel) (ls' := [(0, jR 74), (1, jI v1), (2, jI v2), (3, jI v3), (4, jI v4), (5, jI v5), (6, jI (jDv v6 3)), (7, jI v7), (8, jI v8), (9, jI v9)]) (st' := [jI (jW (jW (4 + m4 85 v9) - 1)), jI v9, jR 74, jI v7]) rfl (p1 := 156) rfl ?_
        obtain ⟨r7, h7, hf⟩ := jbd hf
        refine B_callV B (Nat.le_refl _) (μ' := m4) (k' := 0) (n' := 0) ca_X10_ofBay in_X10_ofBay se_X10_ofBay lk_X10_182 (t_X10_ofBay B.tr h7) (Nat.le_refl _) rfl rfl rfl (rest := [jI v7]) rfl rfl (Nat.le_of_ble_eq_true rfl) (by decide +kernel) rfl rfl (st' := [jI r7, jI v7]) rfl ?_
        refine B_blk B jlkX10_ok jcl_SKF [.iadd, .istore 7, .iload 8, .aload_n 0, .iload 9, .bipush 6, .aload_n 0, .getfield 45, .iload 9] (by decide +kernel) (ls' := [(0, jR 74), (1, jI v1), (2, jI v2), (3, jI v3), (4, jI v4), (5, jI v5), (6, jI (jDv v6 3)), (7, jI (jW (v7 + r7))), (8, jI v8), (9, jI v9)]) (st' := [jI v9, jR 85, jI 6, jI v9, jR 74, jI v8]) rfl (p1 := 175) rfl ?_
        obtain ⟨g9, hf⟩ := jgd hf
        refine K_iald (lenI := 8) B rfl rfl g9 (by decide +kernel) ?_
        refine B_blk B jlkX10_ok jcl_SKF [.iadd] (by decide +kernel) (ls' := [(0, jR 74), (1, jI v1), (2, jI v2), (3, jI v3), (4, jI v4), (5, jI v5), (6, jI (jDv v6 3)), (7, jI (jW (v7 + r7))), (8, jI v8), (9, jI v9)]) (st' := [jI (jW (6 + m4 85 v9)), jI v9, jR 74, jI v8]) rfl (p1 := 177) rfl ?_
        obtain ⟨r8, h8, hf⟩ := jbd hf
        refine B_callV B (Nat.le_refl _) (μ' := m4) (k' := 0) (n' := 0) ca_X10_ofBay in_X10_ofBay se_X10_ofBay lk_X10_182 (t_X10_ofBay B.tr h8) (Nat.le_refl _) rfl rfl rfl (rest := [jI v8]) rfl rfl (Nat.le_of_ble_eq_true rfl) (by decide +kernel) rfl rfl (st' := [jI r8, jI v8]) rfl ?_
        refine B_blk B jlkX10_ok jcl_SKF [.iadd, .istore 8, .iinc 9 (-1), .goto (-82)] (by decide +kernel) (ls' := [(0, jR 74), (1, jI v1), (2, jI v2), (3, jI v3), (4, jI v4), (5, jI v5), (6, jI (jDv v6 3)), (7, jI (jW (v7 + r7))), (8, jI (jW (v8 + r8))), (9, jI (jW (v9 + (-1))))]) (st' := []) rfl (p1 := 104) rfl ?_
        exact ih v1 v2 v3 v4 v5 (jDv v6 3) (jW (v7 + r7)) (jW (v8 + r8)) (jW (v9 + (-1))) m4 _ hf hx
theorem t_X10_spent_L218 {X : jX} (B : jB X cX10_spent RX10 10 SKF.length rm_X10_spent (some .int)) : ∀ (q : Nat) (v1 : Int) (v2 : Int) (v3 : Int) (v4 : Int) (v5 : Int) (v9 : Int) (m : jMu) (o : (Int × Int × Int × Int × Int × jMu)), f_X10_spent_L218 q v1 v2 v3 v4 v5 v9 m = some o → J X SKF o.2.2.2.2.2 0 0 249 [(0, jR 74), (1, jI o.1), (2, jI o.2.1), (3, jI o.2.2.1), (4, jI o.2.2.2.1), (5, jI o.2.2.2.2.1)] [] → J X SKF m 0 0 218 [(0, jR 74), (1, jI v1), (2, jI v2), (3, jI v3), (4, jI v4), (5, jI v5), (9, jI v9)] [] := by
  intro q
  induction q with
  | zero =>
    intro v1 v2 v3 v4 v5 v9 m o hf
    rw [f_X10_spent_L218] at hf
    cases hf
  | succ q ih =>
    intro v1 v2 v3 v4 v5 v9 m o hf hx
    rw [f_X10_spent_L218] at hf
    refine B_blk B jlkX10_ok jcl_SKF [.iload 9, .aload_n 0, .getfield 7, .iconst 0] (by decide +kernel) (ls' := [(0, jR 74), (1, jI v1), (2, jI v2), (3, jI v3), (4, jI v4), (5, jI v5), (9, jI v9)]) (st' := [jI 0, jR 75, jI v9]) rfl (p1 := 225) rfl ?_
    refine K_iald (lenI := 2083) B rfl rfl (by decide) (by decide +kernel) ?_
    refine J_icmp_ge B.1 (off := 23) (tgt := 249) (by decide +kernel) (by decide) hf (fun hf => ?_) (fun hf => ?_)
    · refine J_pick [0, 1, 2, 3, 4, 5] (ls' := [(0, jR 74), (1, jI v1), (2, jI v2), (3, jI v3), (4, jI v4), (5, jI v5)]) rfl ?_
      cases hf
      exact hx
    · refine B_blk B jlkX10_ok jcl_SKF [.aload_n 0, .getfield 48, .iload 9, .aload_n 0, .getfield 45, .iload 9] (by decide +kernel) (ls' := [(0, jR 74), (1, jI v1), (2, jI v2), (3, jI v3), (4, jI v4), (5, jI v5), (9, jI v9)]) (st' := [jI v9, jR 85, jI v9, jR 86]) rfl (p1 := 241) rfl ?_
      obtain ⟨g16, hf⟩ := jgd hf
      refine K_iald (lenI := 8) B rfl rfl g16 (by decide +kernel) ?_
      obtain ⟨g15, hf⟩ := jgd hf
      refine K_iast (lenI := 8) B rfl rfl g15 (by decide +kernel) ?_
      obtain ⟨m14, hm14, hf⟩ := jlt_s hf
      rw [hm14]
      refine B_blk B jlkX10_ok jcl_SKF [.iinc 9 1, .goto (-28)] (by decide +kernel) (ls' := [(0, jR 74), (1, jI v1), (2, jI v2), (3, jI v3), (4, jI v4), (5, jI v5), (9, jI (jW (v9 + 1)))]) (st' := []) rfl (p1 := 218) rfl ?_
      exact ih v1 v2 v3 v4 v5 (jW (v9 + 1)) m14 _ hf hx
theorem t_X10_spent_L78 {X : jX} (B : jB X cX10_spent RX10 10 SKF.length rm_X10_spent (some .int)) : ∀ (q : Nat) (v1 : Int) (v2 : Int) (v3 : Int) (v4 : Int) (v5 : Int) (m : jMu) (r : (Int × jMu)), f_X10_spent_L78 q v1 v2 v3 v4 v5 m = some r → jQ X (.inl (some (jI r.1))) SKF r.2 rm_X10_spent.cells rm_X10_spent.slots → J X SKF m 0 0 78 [(0, jR 74), (1, jI v1), (2, jI v2), (3, jI v3), (4, jI v4), (5, jI v5)] [] := by
  intro q
  induction q with
  | zero =>
    intro v1 v2 v3 v4 v5 m r hf
    rw [f_X10_spent_L78] at hf
    cases hf
  | succ q ih =>
    intro v1 v2 v3 v4 v5 m r hf hq
    rw [f_X10_spent_L78] at hf
    refine B_blk B jlkX10_ok jcl_SKF [.iload 5, .iload_n 3] (by decide +kernel) (ls' := [(0, jR 74), (1, jI v1), (2, jI v2), (3, jI v3), (4, jI v4), (5, jI v5)]) (st' := [jI v3, jI v5]) rfl (p1 := 81) rfl ?_
    refine J_icmp_ge B.1 (off := 174) (tgt := 255) (by decide +kernel) (by decide) hf (fun hf => ?_) (fun hf => ?_)
    · refine B_blk B jlkX10_ok jcl_SKF [.iload_n 2, .iconst (-1)] (by decide +kernel) (ls' := [(0, jR 74), (1, jI v1), (2, jI v2), (3, jI v3), (4, jI v4), (5, jI v5)]) (st' := [jI (-1), jI v2]) rfl (p1 := 257) rfl ?_
      refine J_icmp_ne B.1 (off := 8) (tgt := 265) (by decide +kernel) (by decide) hf (fun hf => ?_) (fun hf => ?_)
      · refine B_blk B jlkX10_ok jcl_SKF [.iload 4, .goto 9] (by decide +kernel) (ls' := [(0, jR 74), (1, jI v1), (2, jI v2), (3, jI v3), (4, jI v4), (5, jI v5)]) (st' := [jI v4]) rfl (p1 := 271) rfl ?_
        cases hf
        exact B_retI B hq rfl (Nat.le_of_ble_eq_true rfl) (Nat.le_of_ble_eq_true rfl) (by decide +kernel)
      · refine B_blk B jlkX10_ok jcl_SKF [.aload_n 0, .getfield 48, .iload_n 2] (by decide +kernel) (ls' := [(0, jR 74), (1, jI v1), (2, jI v2), (3, jI v3), (4, jI v4), (5, jI v5)]) (st' := [jI v2, jR 86]) rfl (p1 := 270) rfl ?_
        obtain ⟨g3, hf⟩ := jgd hf
        refine K_iald (lenI := 8) B rfl rfl g3 (by decide +kernel) ?_
        cases hf
        exact B_retI B hq rfl (Nat.le_of_ble_eq_true rfl) (Nat.le_of_ble_eq_true rfl) (by decide +kernel)
    · refine B_blk B jlkX10_ok jcl_SKF [.iload 5, .istore 6, .iconst 0, .istore 7, .iconst 0, .istore 8, .aload_n 0, .getfield 7, .iconst 0] (by decide +kernel) (ls' := [(0, jR 74), (1, jI v1), (2, jI v2), (3, jI v3), (4, jI v4), (5, jI v5), (6, jI v5), (7, jI 0), (8, jI 0)]) (st' := [jI 0, jR 75]) rfl (p1 := 99) rfl ?_
      refine K_iald (lenI := 2083) B rfl rfl (by decide) (by decide +kernel) ?_
      refine B_blk B jlkX10_ok jcl_SKF [.iconst 1, .isub, .istore 9] (by decide +kernel) (ls' := [(0, jR 74), (1, jI v1), (2, jI v2), (3, jI v3), (4, jI v4), (5, jI v5), (6, jI v5), (7, jI 0), (8, jI 0), (9, jI (jW (m 75 0 - 1)))]) (st' := []) rfl (p1 := 104) rfl ?_
      obtain ⟨r13, h13, hf⟩ := jbd hf
      refine t_X10_spent_L104 B jFU v1 v2 v3 v4 v5 v5 0 0 (jW (m 75 0 - 1)) m _ h13 ?_
      refine B_blk B jlkX10_ok jcl_SKF [.iload 7, .iload_n 1] (by decide +kernel) (ls' := [(0, jR 74), (1, jI r13.1), (2, jI r13.2.1), (3, jI r13.2.2.1), (4, jI r13.2.2.2.1), (5, jI r13.2.2.2.2.1), (7, jI r13.2.2.2.2.2.1), (8, jI r13.2.2.2.2.2.2.1)]) (st' := [jI r13.1, jI r13.2.2.2.2.2.1]) rfl (p1 := 192) rfl ?_
      refine J_icmp_gt B.1 (off := 57) (tgt := 249) (by decide +kernel) (by decide) hf (fun hf => ?_) (fun hf => ?_)
      · refine B_blk B jlkX10_ok jcl_SKF [.iinc 5 1, .goto (-174)] (by decide +kernel) (ls' := [(0, jR 74), (1, jI r13.1), (2, jI r13.2.1), (3, jI r13.2.2.1), (4, jI r13.2.2.2.1), (5, jI (jW (r13.2.2.2.2.1 + 1))), (7, jI r13.2.2.2.2.2.1), (8, jI r13.2.2.2.2.2.2.1)]) (st' := []) rfl (p1 := 78) rfl ?_
        refine J_pick [0, 1, 2, 3, 4, 5] (ls' := [(0, jR 74), (1, jI r13.1), (2, jI r13.2.1), (3, jI r13.2.2.1), (4, jI r13.2.2.2.1), (5, jI (jW (r13.2.2.2.2.1 + 1)))]) rfl ?_
        exact ih r13.1 r13.2.1 r13.2.2.1 r13.2.2.2.1 (jW (r13.2.2.2.2.1 + 1)) r13.2.2.2.2.2.2.2 _ hf hq
      · refine B_blk B jlkX10_ok jcl_SKF [.iload 4, .iconst (-1)] (by decide +kernel) (ls' := [(0, jR 74), (1, jI r13.1), (2, jI r13.2.1), (3, jI r13.2.2.1), (4, jI r13.2.2.2.1), (5, jI r13.2.2.2.2.1), (7, jI r13.2.2.2.2.2.1), (8, jI r13.2.2.2.2.2.2.1)]) (st' := [jI (-1), jI r13.2.2.2.1]) rfl (p1 := 198) rfl ?_
        refine J_icmp_eq B.1 (off := 13) (tgt := 211) (by decide +kernel) (by decide) hf (fun hf => ?_) (fun hf => ?_)
        · refine B_blk B jlkX10_ok jcl_SKF [.iload 8, .istore 4, .iconst 0, .istore 9] (by decide +kernel) (ls' := [(0, jR 74), (1, jI r13.1), (2, jI r13.2.1), (3, jI r13.2.2.1), (4, jI r13.2.2.2.2.2.2.1), (5, jI r13.2.2.2.2.1), (7, jI r13.2.2.2.2.2.1), (8, jI r13.2.2.2.2.2.2.1), (9, jI 0)]) (st' := []) rfl (p1 := 218) rfl ?_
          refine J_pick [0, 1, 2, 3, 4, 5, 8] (ls' := [(0, jR 74), (1, jI r13.1), (2, jI r13.2.1), (3, jI r13.2.2.1), (4, jI r13.2.2.2.2.2.2.1), (5, jI r13.2.2.2.2.1), (9, jI 0)]) rfl ?_
          obtain ⟨r17, h17, hf⟩ := jbd hf
          refine t_X10_spent_L218 B jFU r13.1 r13.2.1 r13.2.2.1 r13.2.2.2.2.2.2.1 r13.2.2.2.2.1 0 r13.2.2.2.2.2.2.2 _ h17 ?_
          refine B_blk B jlkX10_ok jcl_SKF [.iinc 5 1, .goto (-174)] (by decide +kernel) (ls' := [(0, jR 74), (1, jI r17.1), (2, jI r17.2.1), (3, jI r17.2.2.1), (4, jI r17.2.2.2.1), (5, jI (jW (r17.2.2.2.2.1 + 1)))]) (st' := []) rfl (p1 := 78) rfl ?_
          exact ih r17.1 r17.2.1 r17.2.2.1 r17.2.2.2.1 (jW (r17.2.2.2.2.1 + 1)) r17.2.2.2.2.2 _ hf hq
        · refine B_blk B jlkX10_ok jcl_SKF [.iload 8, .iload 4] (by decide +kernel) (ls' := [(0, jR 74), (1, jI r13.1), (2, jI r13.2.1), (3, jI r13.2.2.1), (4, jI r13.2.2.2.1), (5, jI r13.2.2.2.2.1), (7, jI r13.2.2.2.2.2.1), (8, jI r13.2.2.2.2.2.2.1)]) (st' := [jI r13.2.2.2.1, jI r13.2.2.2.2.2.2.1]) rfl (p1 := 205) rfl ?_
          refine J_icmp_lt B.1 (off := 6) (tgt := 211) (by decide +kernel) (by decide) hf (fun hf => ?_) (fun hf => ?_)
          · refine B_blk B jlkX10_ok jcl_SKF [.iload 8, .istore 4, .iconst 0, .istore 9] (by decide +kernel) (ls' := [(0, jR 74), (1, jI r13.1), (2, jI r13.2.1), (3, jI r13.2.2.1), (4, jI r13.2.2.2.2.2.2.1), (5, jI r13.2.2.2.2.1), (7, jI r13.2.2.2.2.2.1), (8, jI r13.2.2.2.2.2.2.1), (9, jI 0)]) (st' := []) rfl (p1 := 218) rfl ?_
            refine J_pick [0, 1, 2, 3, 4, 5, 8] (ls' := [(0, jR 74), (1, jI r13.1), (2, jI r13.2.1), (3, jI r13.2.2.1), (4, jI r13.2.2.2.2.2.2.1), (5, jI r13.2.2.2.2.1), (9, jI 0)]) rfl ?_
            obtain ⟨r18, h18, hf⟩ := jbd hf
            refine t_X10_spent_L218 B jFU r13.1 r13.2.1 r13.2.2.1 r13.2.2.2.2.2.2.1 r13.2.2.2.2.1 0 r13.2.2.2.2.2.2.2 _ h18 ?_
            refine B_blk B jlkX10_ok jcl_SKF [.iinc 5 1, .goto (-174)] (by decide +kernel) (ls' := [(0, jR 74), (1, jI r18.1), (2, jI r18.2.1), (3, jI r18.2.2.1), (4, jI r18.2.2.2.1), (5, jI (jW (r18.2.2.2.2.1 + 1)))]) (st' := []) rfl (p1 := 78) rfl ?_
            exact ih r18.1 r18.2.1 r18.2.2.1 r18.2.2.2.1 (jW (r18.2.2.2.2.1 + 1)) r18.2.2.2.2.2 _ hf hq
          · refine B_blk B jlkX10_ok jcl_SKF [.goto 41, .iinc 5 1, .goto (-174)] (by decide +kernel) (ls' := [(0, jR 74), (1, jI r13.1), (2, jI r13.2.1), (3, jI r13.2.2.1), (4, jI r13.2.2.2.1), (5, jI (jW (r13.2.2.2.2.1 + 1))), (7, jI r13.2.2.2.2.2.1), (8, jI r13.2.2.2.2.2.2.1)]) (st' := []) rfl (p1 := 78) rfl ?_
            refine J_pick [0, 1, 2, 3, 4, 5] (ls' := [(0, jR 74), (1, jI r13.1), (2, jI r13.2.1), (3, jI r13.2.2.1), (4, jI r13.2.2.2.1), (5, jI (jW (r13.2.2.2.2.1 + 1)))]) rfl ?_
            exact ih r13.1 r13.2.1 r13.2.2.1 r13.2.2.2.1 (jW (r13.2.2.2.2.1 + 1)) r13.2.2.2.2.2.2.2 _ hf hq
theorem t_X10_spent_L51 {X : jX} (B : jB X cX10_spent RX10 10 SKF.length rm_X10_spent (some .int)) : ∀ (q : Nat) (v1 : Int) (v2 : Int) (v3 : Int) (v4 : Int) (m : jMu) (r : (Int × jMu)), f_X10_spent_L51 q v1 v2 v3 v4 m = some r → jQ X (.inl (some (jI r.1))) SKF r.2 rm_X10_spent.cells rm_X10_spent.slots → J X SKF m 0 0 51 [(0, jR 74), (1, jI v1), (2, jI v2), (3, jI v3), (4, jI v4)] [] := by
  intro q
  induction q with
  | zero =>
    intro v1 v2 v3 v4 m r hf
    rw [f_X10_spent_L51] at hf
    cases hf
  | succ q ih =>
    intro v1 v2 v3 v4 m r hf hq
    rw [f_X10_spent_L51] at hf
    refine B_blk B jlkX10_ok jcl_SKF [.iload 4, .aload_n 0, .getfield 7, .iconst 0] (by decide +kernel) (ls' := [(0, jR 74), (1, jI v1), (2, jI v2), (3, jI v3), (4, jI v4)]) (st' := [jI 0, jR 75, jI v4]) rfl (p1 := 58) rfl ?_
    refine K_iald (lenI := 2083) B rfl rfl (by decide) (by decide +kernel) ?_
    refine J_icmp_ge B.1 (off := 13) (tgt := 72) (by decide +kernel) (by decide) hf (fun hf => ?_) (fun hf => ?_)
    · refine B_blk B jlkX10_ok jcl_SKF [.iconst (-1), .istore 4, .iconst 0, .istore 5] (by decide +kernel) (ls' := [(0, jR 74), (1, jI v1), (2, jI v2), (3, jI v3), (4, jI (-1)), (5, jI 0)]) (st' := []) rfl (p1 := 78) rfl ?_
      exact t_X10_spent_L78 B jFU v1 v2 v3 (-1) 0 m _ hf hq
    · refine B_blk B jlkX10_ok jcl_SKF [.iload_n 3, .iconst 3, .imul, .istore_n 3, .iinc 4 1, .goto (-18)] (by decide +kernel) (ls' := [(0, jR 74), (1, jI v1), (2, jI v2), (3, jI (jW (v3 * 3))), (4, jI (jW (v4 + 1)))]) (st' := []) rfl (p1 := 51) rfl ?_
      exact ih v1 v2 (jW (v3 * 3)) (jW (v4 + 1)) m _ hf hq
theorem t_X10_spent_J18 {X : jX} (B : jB X cX10_spent RX10 10 SKF.length rm_X10_spent (some .int)) (v1 : Int) (v2 : Int) (m : jMu) (r : (Int × jMu)) (hf : f_X10_spent_J18 v1 v2 m = some r) (hq : jQ X (.inl (some (jI r.1))) SKF r.2 rm_X10_spent.cells rm_X10_spent.slots) : J X SKF m 0 0 18 [(0, jR 74), (1, jI v1), (2, jI v2)] [jR 74] := by
  unfold f_X10_spent_J18 at hf
  refine B_blk B jlkX10_ok jcl_SKF [.iload_n 1, .iconst 0, .sipush 500] (by decide +kernel) (ls' := [(0, jR 74), (1, jI v1), (2, jI v2)]) (st' := [jI 500, jI 0, jI v1, jR 74]) rfl (p1 := 23) rfl ?_
  obtain ⟨r1, h1, hf⟩ := jbd hf
  refine B_callS B (Nat.le_refl _) (μ' := m) (k' := 0) (n' := 0) ca_X10_isIn sa_X10_isIn lk_X10_54 (t_X10_isIn B.tr jcl_SKF h1) (Nat.le_refl _) rfl (rest := [jR 74]) rfl rfl (Nat.le_of_ble_eq_true rfl) (by decide +kernel) rfl rfl (st' := [jI r1, jR 74]) rfl ?_
  refine J_if_ne B.1 (off := 7) (tgt := 33) (by decide +kernel) (by decide) hf (fun hf => ?_) (fun hf => ?_)
  · refine B_blk B jlkX10_ok jcl_SKF [.iconst 2, .goto 4] (by decide +kernel) (ls' := [(0, jR 74), (1, jI v1), (2, jI v2)]) (st' := [jI 2, jR 74]) rfl (p1 := 34) rfl ?_
    refine K_putI (jI' := 0) B jp_X10_51 rfl rfl rfl (by decide +kernel) ?_
    obtain ⟨m2, hm2, hf⟩ := jlt_s hf
    rw [hm2]
    refine B_blk B jlkX10_ok jcl_SKF [.aload_n 0, .getfield 51] (by decide +kernel) (ls' := [(0, jR 74), (1, jI v1), (2, jI v2)]) (st' := [jI (m2 74 0)]) rfl (p1 := 41) rfl ?_
    refine J_if_le B.1 (off := 5) (tgt := 46) (by decide +kernel) (by decide) hf (fun hf => ?_) (fun hf => ?_)
    · refine B_blk B jlkX10_ok jcl_SKF [.iconst 1, .istore_n 3, .iconst 0, .istore 4] (by decide +kernel) (ls' := [(0, jR 74), (1, jI v1), (2, jI v2), (3, jI 1), (4, jI 0)]) (st' := []) rfl (p1 := 51) rfl ?_
      exact t_X10_spent_L51 B jFU v1 v2 1 0 m2 _ hf hq
    · refine B_blk B jlkX10_ok jcl_SKF [.iconst 0] (by decide +kernel) (ls' := [(0, jR 74), (1, jI v1), (2, jI v2)]) (st' := [jI 0]) rfl (p1 := 45) rfl ?_
      cases hf
      exact B_retI B hq rfl (Nat.le_of_ble_eq_true rfl) (Nat.le_of_ble_eq_true rfl) (by decide +kernel)
  · refine B_blk B jlkX10_ok jcl_SKF [.iconst 0] (by decide +kernel) (ls' := [(0, jR 74), (1, jI v1), (2, jI v2)]) (st' := [jI 0, jR 74]) rfl (p1 := 34) rfl ?_
    refine K_putI (jI' := 0) B jp_X10_51 rfl rfl rfl (by decide +kernel) ?_
    obtain ⟨m19, hm19, hf⟩ := jlt_s hf
    rw [hm19]
    refine B_blk B jlkX10_ok jcl_SKF [.aload_n 0, .getfield 51] (by decide +kernel) (ls' := [(0, jR 74), (1, jI v1), (2, jI v2)]) (st' := [jI (m19 74 0)]) rfl (p1 := 41) rfl ?_
    refine J_if_le B.1 (off := 5) (tgt := 46) (by decide +kernel) (by decide) hf (fun hf => ?_) (fun hf => ?_)
    · refine B_blk B jlkX10_ok jcl_SKF [.iconst 1, .istore_n 3, .iconst 0, .istore 4] (by decide +kernel) (ls' := [(0, jR 74), (1, jI v1), (2, jI v2), (3, jI 1), (4, jI 0)]) (st' := []) rfl (p1 := 51) rfl ?_
      exact t_X10_spent_L51 B jFU v1 v2 1 0 m19 _ hf hq
    · refine B_blk B jlkX10_ok jcl_SKF [.iconst 0] (by decide +kernel) (ls' := [(0, jR 74), (1, jI v1), (2, jI v2)]) (st' := [jI 0]) rfl (p1 := 45) rfl ?_
      cases hf
      exact B_retI B hq rfl (Nat.le_of_ble_eq_true rfl) (Nat.le_of_ble_eq_true rfl) (by decide +kernel)
theorem t_X10_spent {l : Launch} {G : jG} (hl : l.stackTraces = false) {a0 : Int} {a1 : Int} {m : jMu} {r : (Int × jMu)} (hf : f_X10_spent a0 a1 m = some r) : jCt l G yX10_spent (.code yX10_spent cX10_spent 10 (some .int) :: jWG) rm_X10_spent [jR 74, jI a0, jI a1] SKF m (.inl (some (jI r.1))) SKF r.2 := by
  unfold f_X10_spent at hf
  refine J_start (ls0 := [(0, jR 74), (1, jI a0), (2, jI a1)]) (by decide +kernel) hl (Nat.le_of_ble_eq_true rfl) rfl fun X C hN hn hR hr hnm hno hq => ?_
  have B : jB X cX10_spent RX10 10 SKF.length rm_X10_spent (some .int) := ⟨C, hN, Nat.le_of_eq hn, hR, hr⟩
  refine B_blk B jlkX10_ok jcl_SKF [.aload_n 0, .iload_n 2, .iconst (-1)] (by decide +kernel) (ls' := [(0, jR 74), (1, jI a0), (2, jI a1)]) (st' := [jI (-1), jI a1, jR 74]) rfl (p1 := 3) rfl ?_
  refine J_icmp_eq B.1 (off := 15) (tgt := 18) (by decide +kernel) (by decide) hf (fun hf => ?_) (fun hf => ?_)
  · exact t_X10_spent_J18 B a0 a1 m _ hf hq
  · refine B_blk B jlkX10_ok jcl_SKF [.aload_n 0, .iload_n 2] (by decide +kernel) (ls' := [(0, jR 74), (1, jI a0), (2, jI a1)]) (st' := [jI a1, jR 74, jR 74]) rfl (p1 := 8) rfl ?_
    obtain ⟨r20, h20, hf⟩ := jbd hf
    refine B_callV B (Nat.le_refl _) (μ' := m) (k' := 0) (n' := 0) ca_X10_isBay in_X10_isBay se_X10_isBay lk_X10_206 (t_X10_isBay B.tr h20) (Nat.le_refl _) rfl rfl rfl (rest := [jR 74]) rfl rfl (Nat.le_of_ble_eq_true rfl) (by decide +kernel) rfl rfl (st' := [jI r20, jR 74]) rfl ?_
    refine J_if_ne B.1 (off := 7) (tgt := 18) (by decide +kernel) (by decide) hf (fun hf => ?_) (fun hf => ?_)
    · refine B_blk B jlkX10_ok jcl_SKF [.iconst 1, .goto 19] (by decide +kernel) (ls' := [(0, jR 74), (1, jI a0), (2, jI a1)]) (st' := [jI 1, jR 74]) rfl (p1 := 34) rfl ?_
      refine K_putI (jI' := 0) B jp_X10_51 rfl rfl rfl (by decide +kernel) ?_
      obtain ⟨m21, hm21, hf⟩ := jlt_s hf
      rw [hm21]
      refine B_blk B jlkX10_ok jcl_SKF [.aload_n 0, .getfield 51] (by decide +kernel) (ls' := [(0, jR 74), (1, jI a0), (2, jI a1)]) (st' := [jI (m21 74 0)]) rfl (p1 := 41) rfl ?_
      refine J_if_le B.1 (off := 5) (tgt := 46) (by decide +kernel) (by decide) hf (fun hf => ?_) (fun hf => ?_)
      · refine B_blk B jlkX10_ok jcl_SKF [.iconst 1, .istore_n 3, .iconst 0, .istore 4] (by decide +kernel) (ls' := [(0, jR 74), (1, jI a0), (2, jI a1), (3, jI 1), (4, jI 0)]) (st' := []) rfl (p1 := 51) rfl ?_
        exact t_X10_spent_L51 B jFU a0 a1 1 0 m21 _ hf hq
      · refine B_blk B jlkX10_ok jcl_SKF [.iconst 0] (by decide +kernel) (ls' := [(0, jR 74), (1, jI a0), (2, jI a1)]) (st' := [jI 0]) rfl (p1 := 45) rfl ?_
        cases hf
        exact B_retI B hq rfl (Nat.le_of_ble_eq_true rfl) (Nat.le_of_ble_eq_true rfl) (by decide +kernel)
    · exact t_X10_spent_J18 B a0 a1 m _ hf hq
