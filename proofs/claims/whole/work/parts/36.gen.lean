/-! printed walks -/
def rm_X8_leastEnd_5 : Room := { frames := 20, cells := 0, slots := 0, locals := 321 }
theorem t_X8_leastEnd_L64_5 {X : jX} (B : jB X cX8_leastEnd RX8 14 SKF.length rm_X8_leastEnd_5 (some .int)) : ∀ (q : Nat) (v1 : Int) (v3 : Int) (v6 : Int) (v7 : Int) (v8 : Int) (v9 : Int) (v10 : Int) (v11 : Int) (m : jMu) (r : (Int × jMu)), f_X8_leastEnd_L64 (fr_X8_leastEnd 4) q v1 v3 v6 v7 v8 v9 v10 v11 m = some r → jQ X (.inl (some (jI r.1))) SKF r.2 rm_X8_leastEnd_5.cells rm_X8_leastEnd_5.slots → J X SKF m 0 0 64 [(0, jR 66), (1, jI v1), (3, jI v3), (6, jI v6), (7, jI v7), (8, jI v8), (9, jI v9), (10, jI v10), (11, jI v11)] [] := by
  intro q
  induction q with
  | zero =>
    intro v1 v3 v6 v7 v8 v9 v10 v11 m r hf
    rw [f_X8_leastEnd_L64] at hf
    cases hf
  | succ q ih =>
    intro v1 v3 v6 v7 v8 v9 v10 v11 m r hf hq
    rw [f_X8_leastEnd_L64] at hf
    refine B_blk B jlkX8_ok jcl_SKF [.iload 11, .bipush 8] (by decide +kernel) (ls' := [(0, jR 66), (1, jI v1), (3, jI v3), (6, jI v6), (7, jI v7), (8, jI v8), (9, jI v9), (10, jI v10), (11, jI v11)]) (st' := [jI 8, jI v11]) rfl (p1 := 68) rfl ?_
    refine J_icmp_ge B.1 (off := 75) (tgt := 143) (by decide +kernel) (by decide) hf (fun hf => ?_) (fun hf => ?_)
    · refine B_blk B jlkX8_ok jcl_SKF [.iload 9] (by decide +kernel) (ls' := [(0, jR 66), (1, jI v1), (3, jI v3), (6, jI v6), (7, jI v7), (8, jI v8), (9, jI v9), (10, jI v10), (11, jI v11)]) (st' := [jI v9]) rfl (p1 := 145) rfl ?_
      cases hf
      exact B_retI B hq rfl (Nat.le_of_ble_eq_true rfl) (Nat.le_of_ble_eq_true rfl) (by decide +kernel)
    · refine B_blk B jlkX8_ok jcl_SKF [.iload 8, .iload 11, .ishr, .iconst 1, .iand, .iconst 1] (by decide +kernel) (ls' := [(0, jR 66), (1, jI v1), (3, jI v3), (6, jI v6), (7, jI v7), (8, jI v8), (9, jI v9), (10, jI v10), (11, jI v11)]) (st' := [jI 1, jI (jAn (jSr v8 v11) 1)]) rfl (p1 := 79) rfl ?_
      refine J_icmp_ne B.1 (off := 58) (tgt := 137) (by decide +kernel) (by decide) hf (fun hf => ?_) (fun hf => ?_)
      · refine B_blk B jlkX8_ok jcl_SKF [.iload 11, .iload_n 3] (by decide +kernel) (ls' := [(0, jR 66), (1, jI v1), (3, jI v3), (6, jI v6), (7, jI v7), (8, jI v8), (9, jI v9), (10, jI v10), (11, jI v11)]) (st' := [jI v3, jI v11]) rfl (p1 := 85) rfl ?_
        refine J_icmp_ge B.1 (off := 10) (tgt := 95) (by decide +kernel) (by decide) hf (fun hf => ?_) (fun hf => ?_)
        · refine B_blk B jlkX8_ok jcl_SKF [.iload 11, .iload_n 3, .isub, .istore 12, .aload_n 0, .iload_n 1, .iload 8, .iload 11, .iload 7, .iload 12, .iadd, .iload 10, .iload 6, .iconst 1, .iadd] (by decide +kernel) (ls' := [(0, jR 66), (1, jI v1), (3, jI v3), (6, jI v6), (7, jI v7), (8, jI v8), (9, jI v9), (10, jI v10), (11, jI v11), (12, jI (jW (v11 - v3)))]) (st' := [jI (jW (v6 + 1)), jI v10, jI (jW (v7 + jW (v11 - v3))), jI v11, jI v8, jI v1, jR 66]) rfl (p1 := 118) rfl ?_
          obtain ⟨r3, h3, hf⟩ := jbd hf
          refine B_callS B (Nat.le_refl _) (μ' := r3.2) (k' := 0) (n' := 0) ca_X8_leastEnd sa_X8_leastEnd lk_X8_92 (t_X8_leastEnd_4 B.tr h3) (Nat.le_refl _) rfl (rest := []) rfl rfl (Nat.le_of_ble_eq_true rfl) (by decide +kernel) rfl rfl (st' := [jI r3.1]) rfl ?_
          refine B_blk B jlkX8_ok jcl_SKF [.istore 13, .iload 13, .iconst (-1)] (by decide +kernel) (ls' := [(0, jR 66), (1, jI v1), (3, jI v3), (6, jI v6), (7, jI v7), (8, jI v8), (9, jI v9), (10, jI v10), (11, jI v11), (12, jI (jW (v11 - v3))), (13, jI r3.1)]) (st' := [jI (-1), jI r3.1]) rfl (p1 := 126) rfl ?_
          refine J_icmp_eq B.1 (off := 11) (tgt := 137) (by decide +kernel) (by decide) hf (fun hf => ?_) (fun hf => ?_)
          · refine B_blk B jlkX8_ok jcl_SKF [.iinc 11 1, .goto (-76)] (by decide +kernel) (ls' := [(0, jR 66), (1, jI v1), (3, jI v3), (6, jI v6), (7, jI v7), (8, jI v8), (9, jI v9), (10, jI v10), (11, jI (jW (v11 + 1))), (12, jI (jW (v11 - v3))), (13, jI r3.1)]) (st' := []) rfl (p1 := 64) rfl ?_
            refine J_pick [0, 1, 2, 3, 4, 5, 6, 7, 8] (ls' := [(0, jR 66), (1, jI v1), (3, jI v3), (6, jI v6), (7, jI v7), (8, jI v8), (9, jI v9), (10, jI v10), (11, jI (jW (v11 + 1)))]) rfl ?_
            exact ih v1 v3 v6 v7 v8 v9 v10 (jW (v11 + 1)) r3.2 _ hf hq
          · refine B_blk B jlkX8_ok jcl_SKF [.iload 13, .istore 9, .iload 13, .istore 10, .iinc 11 1, .goto (-76)] (by decide +kernel) (ls' := [(0, jR 66), (1, jI v1), (3, jI v3), (6, jI v6), (7, jI v7), (8, jI v8), (9, jI r3.1), (10, jI r3.1), (11, jI (jW (v11 + 1))), (12, jI (jW (v11 - v3))), (13, jI r3.1)]) (st' := []) rfl (p1 := 64) rfl ?_
            refine J_pick [0, 1, 2, 3, 4, 5, 6, 7, 8] (ls' := [(0, jR 66), (1, jI v1), (3, jI v3), (6, jI v6), (7, jI v7), (8, jI v8), (9, jI r3.1), (10, jI r3.1), (11, jI (jW (v11 + 1)))]) rfl ?_
            exact ih v1 v3 v6 v7 v8 r3.1 r3.1 (jW (v11 + 1)) r3.2 _ hf hq
        · refine B_blk B jlkX8_ok jcl_SKF [.iload_n 3, .iload 11, .isub, .goto 7, .istore 12, .aload_n 0, .iload_n 1, .iload 8, .iload 11, .iload 7, .iload 12, .iadd, .iload 10, .iload 6, .iconst 1, .iadd] (by decide +kernel) (ls' := [(0, jR 66), (1, jI v1), (3, jI v3), (6, jI v6), (7, jI v7), (8, jI v8), (9, jI v9), (10, jI v10), (11, jI v11), (12, jI (jW (v3 - v11)))]) (st' := [jI (jW (v6 + 1)), jI v10, jI (jW (v7 + jW (v3 - v11))), jI v11, jI v8, jI v1, jR 66]) rfl (p1 := 118) rfl ?_
          obtain ⟨r4, h4, hf⟩ := jbd hf
          refine B_callS B (Nat.le_refl _) (μ' := r4.2) (k' := 0) (n' := 0) ca_X8_leastEnd sa_X8_leastEnd lk_X8_92 (t_X8_leastEnd_4 B.tr h4) (Nat.le_refl _) rfl (rest := []) rfl rfl (Nat.le_of_ble_eq_true rfl) (by decide +kernel) rfl rfl (st' := [jI r4.1]) rfl ?_
          refine B_blk B jlkX8_ok jcl_SKF [.istore 13, .iload 13, .iconst (-1)] (by decide +kernel) (ls' := [(0, jR 66), (1, jI v1), (3, jI v3), (6, jI v6), (7, jI v7), (8, jI v8), (9, jI v9), (10, jI v10), (11, jI v11), (12, jI (jW (v3 - v11))), (13, jI r4.1)]) (st' := [jI (-1), jI r4.1]) rfl (p1 := 126) rfl ?_
          refine J_icmp_eq B.1 (off := 11) (tgt := 137) (by decide +kernel) (by decide) hf (fun hf => ?_) (fun hf => ?_)
          · refine B_blk B jlkX8_ok jcl_SKF [.iinc 11 1, .goto (-76)] (by decide +kernel) (ls' := [(0, jR 66), (1, jI v1), (3, jI v3), (6, jI v6), (7, jI v7), (8, jI v8), (9, jI v9), (10, jI v10), (11, jI (jW (v11 + 1))), (12, jI (jW (v3 - v11))), (13, jI r4.1)]) (st' := []) rfl (p1 := 64) rfl ?_
            refine J_pick [0, 1, 2, 3, 4, 5, 6, 7, 8] (ls' := [(0, jR 66), (1, jI v1), (3, jI v3), (6, jI v6), (7, jI v7), (8, jI v8), (9, jI v9), (10, jI v10), (11, jI (jW (v11 + 1)))]) rfl ?_
            exact ih v1 v3 v6 v7 v8 v9 v10 (jW (v11 + 1)) r4.2 _ hf hq
          · refine B_blk B jlkX8_ok jcl_SKF [.iload 13, .istore 9, .iload 13, .istore 10, .iinc 11 1, .goto (-76)] (by decide +kernel) (ls' := [(0, jR 66), (1, jI v1), (3, jI v3), (6, jI v6), (7, jI v7), (8, jI v8), (9, jI r4.1), (10, jI r4.1), (11, jI (jW (v11 + 1))), (12, jI (jW (v3 - v11))), (13, jI r4.1)]) (st' := []) rfl (p1 := 64) rfl ?_
            refine J_pick [0, 1, 2, 3, 4, 5, 6, 7, 8] (ls' := [(0, jR 66), (1, jI v1), (3, jI v3), (6, jI v6), (7, jI v7), (8, jI v8), (9, jI r4.1), (10, jI r4.1), (11, jI (jW (v11 + 1)))]) rfl ?_
            exact ih v1 v3 v6 v7 v8 r4.1 r4.1 (jW (v11 + 1)) r4.2 _ hf hq
      · refine B_blk B jlkX8_ok jcl_SKF [.iinc 11 1, .goto (-76)] (by decide +kernel) (ls' := [(0, jR 66), (1, jI v1), (3, jI v3), (6, jI v6), (7, jI v7), (8, jI v8), (9, jI v9), (10, jI v10), (11, jI (jW (v11 + 1)))]) (st' := []) rfl (p1 := 64) rfl ?_
        exact ih v1 v3 v6 v7 v8 v9 v10 (jW (v11 + 1)) m _ hf hq
theorem t_X8_leastEnd_5 {l : Launch} {G : jG} (hl : l.stackTraces = false) {a0 : Int} {a1 : Int} {a2 : Int} {a3 : Int} {a4 : Int} {a5 : Int} {m : jMu} {r : (Int × jMu)} (hf : fr_X8_leastEnd 5 a0 a1 a2 a3 a4 a5 m = some r) : jCt l G yX8_leastEnd (.code yX8_leastEnd cX8_leastEnd 14 (some .int) :: jWG) rm_X8_leastEnd_5 [jR 66, jI a0, jI a1, jI a2, jI a3, jI a4, jI a5] SKF m (.inl (some (jI r.1))) SKF r.2 := by
  rw [fr_X8_leastEnd] at hf
  unfold f_X8_leastEnd at hf
  refine J_start (ls0 := [(0, jR 66), (1, jI a0), (2, jI a1), (3, jI a2), (4, jI a3), (5, jI a4), (6, jI a5)]) (by decide +kernel) hl (Nat.le_of_ble_eq_true rfl) rfl fun X C hN hn hR hr hnm hno hq => ?_
  have B : jB X cX8_leastEnd RX8 14 SKF.length rm_X8_leastEnd_5 (some .int) := ⟨C, hN, Nat.le_of_eq hn, hR, hr⟩
  refine B_blk B jlkX8_ok jcl_SKF [.aload_n 0, .iload_n 3, .iload_n 1, .aload_n 0, .iload_n 3, .iload 4] (by decide +kernel) (ls' := [(0, jR 66), (1, jI a0), (2, jI a1), (3, jI a2), (4, jI a3), (5, jI a4), (6, jI a5)]) (st' := [jI a3, jI a2, jR 66, jI a0, jI a2, jR 66]) rfl (p1 := 7) rfl ?_
  obtain ⟨r1, h1, hf⟩ := jbd hf
  refine B_callV B (Nat.le_refl _) (μ' := m) (k' := 0) (n' := 0) ca_X8_firstMoment in_X8_firstMoment se_X8_firstMoment lk_X8_85 (t_X8_firstMoment B.tr h1) (Nat.le_refl _) rfl rfl rfl (rest := [jI a0, jI a2, jR 66]) rfl rfl (Nat.le_of_ble_eq_true rfl) (by decide +kernel) rfl rfl (st' := [jI r1, jI a0, jI a2, jR 66]) rfl ?_
  obtain ⟨r2, h2, hf⟩ := jbd hf
  refine B_callV B (Nat.le_refl _) (μ' := r2.2) (k' := 0) (n' := 0) ca_X8_workEnd in_X8_workEnd se_X8_workEnd lk_X8_88 (t_X8_workEnd B.tr h2) (Nat.le_refl _) rfl rfl rfl (rest := []) rfl rfl (Nat.le_of_ble_eq_true rfl) (by decide +kernel) rfl rfl (st' := [jI r2.1]) rfl ?_
  refine B_blk B jlkX8_ok jcl_SKF [.istore 7, .iload 7, .iconst (-1)] (by decide +kernel) (ls' := [(0, jR 66), (1, jI a0), (2, jI a1), (3, jI a2), (4, jI a3), (5, jI a4), (6, jI a5), (7, jI r2.1)]) (st' := [jI (-1), jI r2.1]) rfl (p1 := 18) rfl ?_
  refine J_icmp_eq B.1 (off := 17) (tgt := 35) (by decide +kernel) (by decide) hf (fun hf => ?_) (fun hf => ?_)
  · refine B_blk B jlkX8_ok jcl_SKF [.iconst (-1)] (by decide +kernel) (ls' := [(0, jR 66), (1, jI a0), (2, jI a1), (3, jI a2), (4, jI a3), (5, jI a4), (6, jI a5), (7, jI r2.1)]) (st' := [jI (-1)]) rfl (p1 := 36) rfl ?_
    cases hf
    exact B_retI B hq rfl (Nat.le_of_ble_eq_true rfl) (Nat.le_of_ble_eq_true rfl) (by decide +kernel)
  · refine B_blk B jlkX8_ok jcl_SKF [.iload 7, .iload 5] (by decide +kernel) (ls' := [(0, jR 66), (1, jI a0), (2, jI a1), (3, jI a2), (4, jI a3), (5, jI a4), (6, jI a5), (7, jI r2.1)]) (st' := [jI a4, jI r2.1]) rfl (p1 := 25) rfl ?_
    refine J_icmp_ge B.1 (off := 10) (tgt := 35) (by decide +kernel) (by decide) hf (fun hf => ?_) (fun hf => ?_)
    · refine B_blk B jlkX8_ok jcl_SKF [.iconst (-1)] (by decide +kernel) (ls' := [(0, jR 66), (1, jI a0), (2, jI a1), (3, jI a2), (4, jI a3), (5, jI a4), (6, jI a5), (7, jI r2.1)]) (st' := [jI (-1)]) rfl (p1 := 36) rfl ?_
      cases hf
      exact B_retI B hq rfl (Nat.le_of_ble_eq_true rfl) (Nat.le_of_ble_eq_true rfl) (by decide +kernel)
    · refine B_blk B jlkX8_ok jcl_SKF [.iload 6, .bipush 6] (by decide +kernel) (ls' := [(0, jR 66), (1, jI a0), (2, jI a1), (3, jI a2), (4, jI a3), (5, jI a4), (6, jI a5), (7, jI r2.1)]) (st' := [jI 6, jI a5]) rfl (p1 := 32) rfl ?_
      refine J_icmp_le B.1 (off := 5) (tgt := 37) (by decide +kernel) (by decide) hf (fun hf => ?_) (fun hf => ?_)
      · refine B_blk B jlkX8_ok jcl_SKF [.iload_n 2, .iconst 1, .iload_n 3, .ishl, .iconst (-1), .ixor, .iand, .istore 8, .iload 8] (by decide +kernel) (ls' := [(0, jR 66), (1, jI a0), (2, jI a1), (3, jI a2), (4, jI a3), (5, jI a4), (6, jI a5), (7, jI r2.1), (8, jI (jAn a1 (jXo (jSl 1 a2) (-1))))]) (st' := [jI (jAn a1 (jXo (jSl 1 a2) (-1)))]) rfl (p1 := 48) rfl ?_
        refine J_if_ne B.1 (off := 6) (tgt := 54) (by decide +kernel) (by decide) hf (fun hf => ?_) (fun hf => ?_)
        · refine B_blk B jlkX8_ok jcl_SKF [.iload 7] (by decide +kernel) (ls' := [(0, jR 66), (1, jI a0), (2, jI a1), (3, jI a2), (4, jI a3), (5, jI a4), (6, jI a5), (7, jI r2.1), (8, jI (jAn a1 (jXo (jSl 1 a2) (-1))))]) (st' := [jI r2.1]) rfl (p1 := 53) rfl ?_
          cases hf
          exact B_retI B hq rfl (Nat.le_of_ble_eq_true rfl) (Nat.le_of_ble_eq_true rfl) (by decide +kernel)
        · refine B_blk B jlkX8_ok jcl_SKF [.iconst (-1), .istore 9, .iload 5, .istore 10, .iconst 0, .istore 11] (by decide +kernel) (ls' := [(0, jR 66), (1, jI a0), (2, jI a1), (3, jI a2), (4, jI a3), (5, jI a4), (6, jI a5), (7, jI r2.1), (8, jI (jAn a1 (jXo (jSl 1 a2) (-1)))), (9, jI (-1)), (10, jI a4), (11, jI 0)]) (st' := []) rfl (p1 := 64) rfl ?_
          refine J_pick [0, 1, 3, 6, 7, 8, 9, 10, 11] (ls' := [(0, jR 66), (1, jI a0), (3, jI a2), (6, jI a5), (7, jI r2.1), (8, jI (jAn a1 (jXo (jSl 1 a2) (-1)))), (9, jI (-1)), (10, jI a4), (11, jI 0)]) rfl ?_
          exact t_X8_leastEnd_L64_5 B jFU a0 a2 a5 r2.1 (jAn a1 (jXo (jSl 1 a2) (-1))) (-1) a4 0 r2.2 _ hf hq
      · refine B_blk B jlkX8_ok jcl_SKF [.iconst (-1)] (by decide +kernel) (ls' := [(0, jR 66), (1, jI a0), (2, jI a1), (3, jI a2), (4, jI a3), (5, jI a4), (6, jI a5), (7, jI r2.1)]) (st' := [jI (-1)]) rfl (p1 := 36) rfl ?_
        cases hf
        exact B_retI B hq rfl (Nat.le_of_ble_eq_true rfl) (Nat.le_of_ble_eq_true rfl) (by decide +kernel)

def rm_X8_leastEnd_6 : Room := { frames := 22, cells := 0, slots := 0, locals := 354 }
theorem t_X8_leastEnd_L64_6 {X : jX} (B : jB X cX8_leastEnd RX8 14 SKF.length rm_X8_leastEnd_6 (some .int)) : ∀ (q : Nat) (v1 : Int) (v3 : Int) (v6 : Int) (v7 : Int) (v8 : Int) (v9 : Int) (v10 : Int) (v11 : Int) (m : jMu) (r : (Int × jMu)), f_X8_leastEnd_L64 (fr_X8_leastEnd 5) q v1 v3 v6 v7 v8 v9 v10 v11 m = some r → jQ X (.inl (some (jI r.1))) SKF r.2 rm_X8_leastEnd_6.cells rm_X8_leastEnd_6.slots → J X SKF m 0 0 64 [(0, jR 66), (1, jI v1), (3, jI v3), (6, jI v6), (7, jI v7), (8, jI v8), (9, jI v9), (10, jI v10), (11, jI v11)] [] := by
  intro q
  induction q with
  | zero =>
    intro v1 v3 v6 v7 v8 v9 v10 v11 m r hf
    rw [f_X8_leastEnd_L64] at hf
    cases hf
  | succ q ih =>
    intro v1 v3 v6 v7 v8 v9 v10 v11 m r hf hq
    rw [f_X8_leastEnd_L64] at hf
    refine B_blk B jlkX8_ok jcl_SKF [.iload 11, .bipush 8] (by decide +kernel) (ls' := [(0, jR 66), (1, jI v1), (3, jI v3), (6, jI v6), (7, jI v7), (8, jI v8), (9, jI v9), (10, jI v10), (11, jI v11)]) (st' := [jI 8, jI v11]) rfl (p1 := 68) rfl ?_
    refine J_icmp_ge B.1 (off := 75) (tgt := 143) (by decide +kernel) (by decide) hf (fun hf => ?_) (fun hf => ?_)
    · refine B_blk B jlkX8_ok jcl_SKF [.iload 9] (by decide +kernel) (ls' := [(0, jR 66), (1, jI v1), (3, jI v3), (6, jI v6), (7, jI v7), (8, jI v8), (9, jI v9), (10, jI v10), (11, jI v11)]) (st' := [jI v9]) rfl (p1 := 145) rfl ?_
      cases hf
      exact B_retI B hq rfl (Nat.le_of_ble_eq_true rfl) (Nat.le_of_ble_eq_true rfl) (by decide +kernel)
    · refine B_blk B jlkX8_ok jcl_SKF [.iload 8, .iload 11, .ishr, .iconst 1, .iand, .iconst 1] (by decide +kernel) (ls' := [(0, jR 66), (1, jI v1), (3, jI v3), (6, jI v6), (7, jI v7), (8, jI v8), (9, jI v9), (10, jI v10), (11, jI v11)]) (st' := [jI 1, jI (jAn (jSr v8 v11) 1)]) rfl (p1 := 79) rfl ?_
      refine J_icmp_ne B.1 (off := 58) (tgt := 137) (by decide +kernel) (by decide) hf (fun hf => ?_) (fun hf => ?_)
      · refine B_blk B jlkX8_ok jcl_SKF [.iload 11, .iload_n 3] (by decide +kernel) (ls' := [(0, jR 66), (1, jI v1), (3, jI v3), (6, jI v6), (7, jI v7), (8, jI v8), (9, jI v9), (10, jI v10), (11, jI v11)]) (st' := [jI v3, jI v11]) rfl (p1 := 85) rfl ?_
        refine J_icmp_ge B.1 (off := 10) (tgt := 95) (by decide +kernel) (by decide) hf (fun hf => ?_) (fun hf => ?_)
        · refine B_blk B jlkX8_ok jcl_SKF [.iload 11, .iload_n 3, .isub, .istore 12, .aload_n 0, .iload_n 1, .iload 8, .iload 11, .iload 7, .iload 12, .iadd, .iload 10, .iload 6, .iconst 1, .iadd] (by decide +kernel) (ls' := [(0, jR 66), (1, jI v1), (3, jI v3), (6, jI v6), (7, jI v7), (8, jI v8), (9, jI v9), (10, jI v10), (11, jI v11), (12, jI (jW (v11 - v3)))]) (st' := [jI (jW (v6 + 1)), jI v10, jI (jW (v7 + jW (v11 - v3))), jI v11, jI v8, jI v1, jR 66]) rfl (p1 := 118) rfl ?_
          obtain ⟨r3, h3, hf⟩ := jbd hf
          refine B_callS B (Nat.le_refl _) (μ' := r3.2) (k' := 0) (n' := 0) ca_X8_leastEnd sa_X8_leastEnd lk_X8_92 (t_X8_leastEnd_5 B.tr h3) (Nat.le_refl _) rfl (rest := []) rfl rfl (Nat.le_of_ble_eq_true rfl) (by decide +kernel) rfl rfl (st' := [jI r3.1]) rfl ?_
          refine B_blk B jlkX8_ok jcl_SKF [.istore 13, .iload 13, .iconst (-1)] (by decide +kernel) (ls' := [(0, jR 66), (1, jI v1), (3, jI v3), (6, jI v6), (7, jI v7), (8, jI v8), (9, jI v9), (10, jI v10), (11, jI v11), (12, jI (jW (v11 - v3))), (13, jI r3.1)]) (st' := [jI (-1), jI r3.1]) rfl (p1 := 126) rfl ?_
          refine J_icmp_eq B.1 (off := 11) (tgt := 137) (by decide +kernel) (by decide) hf (fun hf => ?_) (fun hf => ?_)
          · refine B_blk B jlkX8_ok jcl_SKF [.iinc 11 1, .goto (-76)] (by decide +kernel) (ls' := [(0, jR 66), (1, jI v1), (3, jI v3), (6, jI v6), (7, jI v7), (8, jI v8), (9, jI v9), (10, jI v10), (11, jI (jW (v11 + 1))), (12, jI (jW (v11 - v3))), (13, jI r3.1)]) (st' := []) rfl (p1 := 64) rfl ?_
            refine J_pick [0, 1, 2, 3, 4, 5, 6, 7, 8] (ls' := [(0, jR 66), (1, jI v1), (3, jI v3), (6, jI v6), (7, jI v7), (8, jI v8), (9, jI v9), (10, jI v10), (11, jI (jW (v11 + 1)))]) rfl ?_
            exact ih v1 v3 v6 v7 v8 v9 v10 (jW (v11 + 1)) r3.2 _ hf hq
          · refine B_blk B jlkX8_ok jcl_SKF [.iload 13, .istore 9, .iload 13, .istore 10, .iinc 11 1, .goto (-76)] (by decide +kernel) (ls' := [(0, jR 66), (1, jI v1), (3, jI v3), (6, jI v6), (7, jI v7), (8, jI v8), (9, jI r3.1), (10, jI r3.1), (11, jI (jW (v11 + 1))), (12, jI (jW (v11 - v3))), (13, jI r3.1)]) (st' := []) rfl (p1 := 64) rfl ?_
            refine J_pick [0, 1, 2, 3, 4, 5, 6, 7, 8] (ls' := [(0, jR 66), (1, jI v1), (3, jI v3), (6, jI v6), (7, jI v7), (8, jI v8), (9, jI r3.1), (10, jI r3.1), (11, jI (jW (v11 + 1)))]) rfl ?_
            exact ih v1 v3 v6 v7 v8 r3.1 r3.1 (jW (v11 + 1)) r3.2 _ hf hq
        · refine B_blk B jlkX8_ok jcl_SKF [.iload_n 3, .iload 11, .isub, .goto 7, .istore 12, .aload_n 0, .iload_n 1, .iload 8, .iload 11, .iload 7, .iload 12, .iadd, .iload 10, .iload 6, .iconst 1, .iadd] (by decide +kernel) (ls' := [(0, jR 66), (1, jI v1), (3, jI v3), (6, jI v6), (7, jI v7), (8, jI v8), (9, jI v9), (10, jI v10), (11, jI v11), (12, jI (jW (v3 - v11)))]) (st' := [jI (jW (v6 + 1)), jI v10, jI (jW (v7 + jW (v3 - v11))), jI v11, jI v8, jI v1, jR 66]) rfl (p1 := 118) rfl ?_
          obtain ⟨r4, h4, hf⟩ := jbd hf
          refine B_callS B (Nat.le_refl _) (μ' := r4.2) (k' := 0) (n' := 0) ca_X8_leastEnd sa_X8_leastEnd lk_X8_92 (t_X8_leastEnd_5 B.tr h4) (Nat.le_refl _) rfl (rest := []) rfl rfl (Nat.le_of_ble_eq_true rfl) (by decide +kernel) rfl rfl (st' := [jI r4.1]) rfl ?_
          refine B_blk B jlkX8_ok jcl_SKF [.istore 13, .iload 13, .iconst (-1)] (by decide +kernel) (ls' := [(0, jR 66), (1, jI v1), (3, jI v3), (6, jI v6), (7, jI v7), (8, jI v8), (9, jI v9), (10, jI v10), (11, jI v11), (12, jI (jW (v3 - v11))), (13, jI r4.1)]) (st' := [jI (-1), jI r4.1]) rfl (p1 := 126) rfl ?_
          refine J_icmp_eq B.1 (off := 11) (tgt := 137) (by decide +kernel) (by decide) hf (fun hf => ?_) (fun hf => ?_)
          · refine B_blk B jlkX8_ok jcl_SKF [.iinc 11 1, .goto (-76)] (by decide +kernel) (ls' := [(0, jR 66), (1, jI v1), (3, jI v3), (6, jI v6), (7, jI v7), (8, jI v8), (9, jI v9), (10, jI v10), (11, jI (jW (v11 + 1))), (12, jI (jW (v3 - v11))), (13, jI r4.1)]) (st' := []) rfl (p1 := 64) rfl ?_
            refine J_pick [0, 1, 2, 3, 4, 5, 6, 7, 8] (ls' := [(0, jR 66), (1, jI v1), (3, jI v3), (6, jI v6), (7, jI v7), (8, jI v8), (9, jI v9), (10, jI v10), (11, jI (jW (v11 + 1)))]) rfl ?_
            exact ih v1 v3 v6 v7 v8 v9 v10 (jW (v11 + 1)) r4.2 _ hf hq
          · refine B_blk B jlkX8_ok jcl_SKF [.iload 13, .istore 9, .iload 13, .istore 10, .iinc 11 1, .goto (-76)] (by decide +kernel) (ls' := [(0, jR 66), (1, jI v1), (3, jI v3), (6, jI v6), (7, jI v7), (8, jI v8), (9, jI r4.1), (10, jI r4.1), (11, jI (jW (v11 + 1))), (12, jI (jW (v3 - v11))), (13, jI r4.1)]) (st' := []) rfl (p1 := 64) rfl ?_
            refine J_pick [0, 1, 2, 3, 4, 5, 6, 7, 8] (ls' := [(0, jR 66), (1, jI v1), (3, jI v3), (6, jI v6), (7, jI v7), (8, jI v8), (9, jI r4.1), (10, jI r4.1), (11, jI (jW (v11 + 1)))]) rfl ?_
            exact ih v1 v3 v6 v7 v8 r4.1 r4.1 (jW (v11 + 1)) r4.2 _ hf hq
      · refine B_blk B jlkX8_ok jcl_SKF [.iinc 11 1, .goto (-76)] (by decide +kernel) (ls' := [(0, jR 66), (1, jI v1), (3, jI v3), (6, jI v6), (7, jI v7), (8, jI v8), (9, jI v9), (10, jI v10), (11, jI (jW (v11 + 1)))]) (st' := []) rfl (p1 := 64) rfl ?_
        exact ih v1 v3 v6 v7 v8 v9 v10 (jW (v11 + 1)) m _ hf hq
theorem t_X8_leastEnd_6 {l : Launch} {G : jG} (hl : l.stackTraces = false) {a0 : Int} {a1 : Int} {a2 : Int} {a3 : Int} {a4 : Int} {a5 : Int} {m : jMu} {r : (Int × jMu)} (hf : fr_X8_leastEnd 6 a0 a1 a2 a3 a4 a5 m = some r) : jCt l G yX8_leastEnd (.code yX8_leastEnd cX8_leastEnd 14 (some .int) :: jWG) rm_X8_leastEnd_6 [jR 66, jI a0, jI a1, jI a2, jI a3, jI a4, jI a5] SKF m (.inl (some (jI r.1))) SKF r.2 := by
  rw [fr_X8_leastEnd] at hf
  unfold f_X8_leastEnd at hf
  refine J_start (ls0 := [(0, jR 66), (1, jI a0), (2, jI a1), (3, jI a2), (4, jI a3), (5, jI a4), (6, jI a5)]) (by decide +kernel) hl (Nat.le_of_ble_eq_true rfl) rfl fun X C hN hn hR hr hnm hno hq => ?_
  have B : jB X cX8_leastEnd RX8 14 SKF.length rm_X8_leastEnd_6 (some .int) := ⟨C, hN, Nat.le_of_eq hn, hR, hr⟩
  refine B_blk B jlkX8_ok jcl_SKF [.aload_n 0, .iload_n 3, .iload_n 1, .aload_n 0, .iload_n 3, .iload 4] (by decide +kernel) (ls' := [(0, jR 66), (1, jI a0), (2, jI a1), (3, jI a2), (4, jI a3), (5, jI a4), (6, jI a5)]) (st' := [jI a3, jI a2, jR 66, jI a0, jI a2, jR 66]) rfl (p1 := 7) rfl ?_
  obtain ⟨r1, h1, hf⟩ := jbd hf
  refine B_callV B (Nat.le_refl _) (μ' := m) (k' := 0) (n' := 0) ca_X8_firstMoment in_X8_firstMoment se_X8_firstMoment lk_X8_85 (t_X8_firstMoment B.tr h1) (Nat.le_refl _) rfl rfl rfl (rest := [jI a0, jI a2, jR 66]) rfl rfl (Nat.le_of_ble_eq_true rfl) (by decide +kernel) rfl rfl (st' := [jI r1, jI a0, jI a2, jR 66]) rfl ?_
  obtain ⟨r2, h2, hf⟩ := jbd hf
  refine B_callV B (Nat.le_refl _) (μ' := r2.2) (k' := 0) (n' := 0) ca_X8_workEnd in_X8_workEnd se_X8_workEnd lk_X8_88 (t_X8_workEnd B.tr h2) (Nat.le_refl _) rfl rfl rfl (rest := []) rfl rfl (Nat.le_of_ble_eq_true rfl) (by decide +kernel) rfl rfl (st' := [jI r2.1]) rfl ?_
  refine B_blk B jlkX8_ok jcl_SKF [.istore 7, .iload 7, .iconst (-1)] (by decide +kernel) (ls' := [(0, jR 66), (1, jI a0), (2, jI a1), (3, jI a2), (4, jI a3), (5, jI a4), (6, jI a5), (7, jI r2.1)]) (st' := [jI (-1), jI r2.1]) rfl (p1 := 18) rfl ?_
  refine J_icmp_eq B.1 (off := 17) (tgt := 35) (by decide +kernel) (by decide) hf (fun hf => ?_) (fun hf => ?_)
  · refine B_blk B jlkX8_ok jcl_SKF [.iconst (-1)] (by decide +kernel) (ls' := [(0, jR 66), (1, jI a0), (2, jI a1), (3, jI a2), (4, jI a3), (5, jI a4), (6, jI a5), (7, jI r2.1)]) (st' := [jI (-1)]) rfl (p1 := 36) rfl ?_
    cases hf
    exact B_retI B hq rfl (Nat.le_of_ble_eq_true rfl) (Nat.le_of_ble_eq_true rfl) (by decide +kernel)
  · refine B_blk B jlkX8_ok jcl_SKF [.iload 7, .iload 5] (by decide +kernel) (ls' := [(0, jR 66), (1, jI a0), (2, jI a1), (3, jI a2), (4, jI a3), (5, jI a4), (6, jI a5), (7, jI r2.1)]) (st' := [jI a4, jI r2.1]) rfl (p1 := 25) rfl ?_
    refine J_icmp_ge B.1 (off := 10) (tgt := 35) (by decide +kernel) (by decide) hf (fun hf => ?_) (fun hf => ?_)
    · refine B_blk B jlkX8_ok jcl_SKF [.iconst (-1)] (by decide +kernel) (ls' := [(0, jR 66), (1, jI a0), (2, jI a1), (3, jI a2), (4, jI a3), (5, jI a4), (6, jI a5), (7, jI r2.1)]) (st' := [jI (-1)]) rfl (p1 := 36) rfl ?_
      cases hf
      exact B_retI B hq rfl (Nat.le_of_ble_eq_true rfl) (Nat.le_of_ble_eq_true rfl) (by decide +kernel)
    · refine B_blk B jlkX8_ok jcl_SKF [.iload 6, .bipush 6] (by decide +kernel) (ls' := [(0, jR 66), (1, jI a0), (2, jI a1), (3, jI a2), (4, jI a3), (5, jI a4), (6, jI a5), (7, jI r2.1)]) (st' := [jI 6, jI a5]) rfl (p1 := 32) rfl ?_
      refine J_icmp_le B.1 (off := 5) (tgt := 37) (by decide +kernel) (by decide) hf (fun hf => ?_) (fun hf => ?_)
      · refine B_blk B jlkX8_ok jcl_SKF [.iload_n 2, .iconst 1, .iload_n 3, .ishl, .iconst (-1), .ixor, .iand, .istore 8, .iload 8] (by decide +kernel) (ls' := [(0, jR 66), (1, jI a0), (2, jI a1), (3, jI a2), (4, jI a3), (5, jI a4), (6, jI a5), (7, jI r2.1), (8, jI (jAn a1 (jXo (jSl 1 a2) (-1))))]) (st' := [jI (jAn a1 (jXo (jSl 1 a2) (-1)))]) rfl (p1 := 48) rfl ?_
        refine J_if_ne B.1 (off := 6) (tgt := 54) (by decide +kernel) (by decide) hf (fun hf => ?_) (fun hf => ?_)
        · refine B_blk B jlkX8_ok jcl_SKF [.iload 7] (by decide +kernel) (ls' := [(0, jR 66), (1, jI a0), (2, jI a1), (3, jI a2), (4, jI a3), (5, jI a4), (6, jI a5), (7, jI r2.1), (8, jI (jAn a1 (jXo (jSl 1 a2) (-1))))]) (st' := [jI r2.1]) rfl (p1 := 53) rfl ?_
          cases hf
          exact B_retI B hq rfl (Nat.le_of_ble_eq_true rfl) (Nat.le_of_ble_eq_true rfl) (by decide +kernel)
        · refine B_blk B jlkX8_ok jcl_SKF [.iconst (-1), .istore 9, .iload 5, .istore 10, .iconst 0, .istore 11] (by decide +kernel) (ls' := [(0, jR 66), (1, jI a0), (2, jI a1), (3, jI a2), (4, jI a3), (5, jI a4), (6, jI a5), (7, jI r2.1), (8, jI (jAn a1 (jXo (jSl 1 a2) (-1)))), (9, jI (-1)), (10, jI a4), (11, jI 0)]) (st' := []) rfl (p1 := 64) rfl ?_
          refine J_pick [0, 1, 3, 6, 7, 8, 9, 10, 11] (ls' := [(0, jR 66), (1, jI a0), (3, jI a2), (6, jI a5), (7, jI r2.1), (8, jI (jAn a1 (jXo (jSl 1 a2) (-1)))), (9, jI (-1)), (10, jI a4), (11, jI 0)]) rfl ?_
          exact t_X8_leastEnd_L64_6 B jFU a0 a2 a5 r2.1 (jAn a1 (jXo (jSl 1 a2) (-1))) (-1) a4 0 r2.2 _ hf hq
      · refine B_blk B jlkX8_ok jcl_SKF [.iconst (-1)] (by decide +kernel) (ls' := [(0, jR 66), (1, jI a0), (2, jI a1), (3, jI a2), (4, jI a3), (5, jI a4), (6, jI a5), (7, jI r2.1)]) (st' := [jI (-1)]) rfl (p1 := 36) rfl ?_
        cases hf
        exact B_retI B hq rfl (Nat.le_of_ble_eq_true rfl) (Nat.le_of_ble_eq_true rfl) (by decide +kernel)

def rm_X8_leastEnd_7 : Room := { frames := 24, cells := 0, slots := 0, locals := 387 }
theorem t_X8_leastEnd_L64_7 {X : jX} (B : jB X cX8_leastEnd RX8 14 SKF.length rm_X8_leastEnd_7 (some .int)) : ∀ (q : Nat) (v1 : Int) (v3 : Int) (v6 : Int) (v7 : Int) (v8 : Int) (v9 : Int) (v10 : Int) (v11 : Int) (m : jMu) (r : (Int × jMu)), f_X8_leastEnd_L64 (fr_X8_leastEnd 6) q v1 v3 v6 v7 v8 v9 v10 v11 m = some r → jQ X (.inl (some (jI r.1))) SKF r.2 rm_X8_leastEnd_7.cells rm_X8_leastEnd_7.slots → J X SKF m 0 0 64 [(0, jR 66), (1, jI v1), (3, jI v3), (6, jI v6), (7, jI v7), (8, jI v8), (9, jI v9), (10, jI v10), (11, jI v11)] [] := by
  intro q
  induction q with
  | zero =>
    intro v1 v3 v6 v7 v8 v9 v10 v11 m r hf
    rw [f_X8_leastEnd_L64] at hf
    cases hf
  | succ q ih =>
    intro v1 v3 v6 v7 v8 v9 v10 v11 m r hf hq
    rw [f_X8_leastEnd_L64] at hf
    refine B_blk B jlkX8_ok jcl_SKF [.iload 11, .bipush 8] (by decide +kernel) (ls' := [(0, jR 66), (1, jI v1), (3, jI v3), (6, jI v6), (7, jI v7), (8, jI v8), (9, jI v9), (10, jI v10), (11, jI v11)]) (st' := [jI 8, jI v11]) rfl (p1 := 68) rfl ?_
    refine J_icmp_ge B.1 (off := 75) (tgt := 143) (by decide +kernel) (by decide) hf (fun hf => ?_) (fun hf => ?_)
    · refine B_blk B jlkX8_ok jcl_SKF [.iload 9] (by decide +kernel) (ls' := [(0, jR 66), (1, jI v1), (3, jI v3), (6, jI v6), (7, jI v7), (8, jI v8), (9, jI v9), (10, jI v10), (11, jI v11)]) (st' := [jI v9]) rfl (p1 := 145) rfl ?_
      cases hf
      exact B_retI B hq rfl (Nat.le_of_ble_eq_true rfl) (Nat.le_of_ble_eq_true rfl) (by decide +kernel)
    · refine B_blk B jlkX8_ok jcl_SKF [.iload 8, .iload 11, .ishr, .iconst 1, .iand, .iconst 1] (by decide +kernel) (ls' := [(0, jR 66), (1, jI v1), (3, jI v3), (6, jI v6), (7, jI v7), (8, jI v8), (9, jI v9), (10, jI v10), (11, jI v11)]) (st' := [jI 1, jI (jAn (jSr v8 v11) 1)]) rfl (p1 := 79) rfl ?_
      refine J_icmp_ne B.1 (off := 58) (tgt := 137) (by decide +kernel) (by decide) hf (fun hf => ?_) (fun hf => ?_)
      · refine B_blk B jlkX8_ok jcl_SKF [.iload 11, .iload_n 3] (by decide +kernel) (ls' := [(0, jR 66), (1, jI v1), (3, jI v3), (6, jI v6), (7, jI v7), (8, jI v8), (9, jI v9), (10, jI v10), (11, jI v11)]) (st' := [jI v3, jI v11]) rfl (p1 := 85) rfl ?_
        refine J_icmp_ge B.1 (off := 10) (tgt := 95) (by decide +kernel) (by decide) hf (fun hf => ?_) (fun hf => ?_)
        · refine B_blk B jlkX8_ok jcl_SKF [.iload 11, .iload_n 3, .isub, .istore 12, .aload_n 0, .iload_n 1, .iload 8, .iload 11, .iload 7, .iload 12, .iadd, .iload 10, .iload 6, .iconst 1, .iadd] (by decide +kernel) (ls' := [(0, jR 66), (1, jI v1), (3, jI v3), (6, jI v6), (7, jI v7), (8, jI v8), (9, jI v9), (10, jI v10), (11, jI v11), (12, jI (jW (v11 - v3)))]) (st' := [jI (jW (v6 + 1)), jI v10, jI (jW (v7 + jW (v11 - v3))), jI v11, jI v8, jI v1, jR 66]) rfl (p1 := 118) rfl ?_
          obtain ⟨r3, h3, hf⟩ := jbd hf
          refine B_callS B (Nat.le_refl _) (μ' := r3.2) (k' := 0) (n' := 0) ca_X8_leastEnd sa_X8_leastEnd lk_X8_92 (t_X8_leastEnd_6 B.tr h3) (Nat.le_refl _) rfl (rest := []) rfl rfl (Nat.le_of_ble_eq_true rfl) (by decide +kernel) rfl rfl (st' := [jI r3.1]) rfl ?_
          refine B_blk B jlkX8_ok jcl_SKF [.istore 13, .iload 13, .iconst (-1)] (by decide +kernel) (ls' := [(0, jR 66), (1, jI v1), (3, jI v3), (6, jI v6), (7, jI v7), (8, jI v8), (9, jI v9), (10, jI v10), (11, jI v11), (12, jI (jW (v11 - v3))), (13, jI r3.1)]) (st' := [jI (-1), jI r3.1]) rfl (p1 := 126) rfl ?_
          refine J_icmp_eq B.1 (off := 11) (tgt := 137) (by decide +kernel) (by decide) hf (fun hf => ?_) (fun hf => ?_)
          · refine B_blk B jlkX8_ok jcl_SKF [.iinc 11 1, .goto (-76)] (by decide +kernel) (ls' := [(0, jR 66), (1, jI v1), (3, jI v3), (6, jI v6), (7, jI v7), (8, jI v8), (9, jI v9), (10, jI v10), (11, jI (jW (v11 + 1))), (12, jI (jW (v11 - v3))), (13, jI r3.1)]) (st' := []) rfl (p1 := 64) rfl ?_
            refine J_pick [0, 1, 2, 3, 4, 5, 6, 7, 8] (ls' := [(0, jR 66), (1, jI v1), (3, jI v3), (6, jI v6), (7, jI v7), (8, jI v8), (9, jI v9), (10, jI v10), (11, jI (jW (v11 + 1)))]) rfl ?_
            exact ih v1 v3 v6 v7 v8 v9 v10 (jW (v11 + 1)) r3.2 _ hf hq
          · refine B_blk B jlkX8_ok jcl_SKF [.iload 13, .istore 9, .iload 13, .istore 10, .iinc 11 1, .goto (-76)] (by decide +kernel) (ls' := [(0, jR 66), (1, jI v1), (3, jI v3), (6, jI v6), (7, jI v7), (8, jI v8), (9, jI r3.1), (10, jI r3.1), (11, jI (jW (v11 + 1))), (12, jI (jW (v11 - v3))), (13, jI r3.1)]) (st' := []) rfl (p1 := 64) rfl ?_
            refine J_pick [0, 1, 2, 3, 4, 5, 6, 7, 8] (ls' := [(0, jR 66), (1, jI v1), (3, jI v3), (6, jI v6), (7, jI v7), (8, jI v8), (9, jI r3.1), (10, jI r3.1), (11, jI (jW (v11 + 1)))]) rfl ?_
            exact ih v1 v3 v6 v7 v8 r3.1 r3.1 (jW (v11 + 1)) r3.2 _ hf hq
        · refine B_blk B jlkX8_ok jcl_SKF [.iload_n 3, .iload 11, .isub, .goto 7, .istore 12, .aload_n 0, .iload_n 1, .iload 8, .iload 11, .iload 7, .iload 12, .iadd, .iload 10, .iload 6, .iconst 1, .iadd] (by decide +kernel) (ls' := [(0, jR 66), (1, jI v1), (3, jI v3), (6, jI v6), (7, jI v7), (8, jI v8), (9, jI v9), (10, jI v10), (11, jI v11), (12, jI (jW (v3 - v11)))]) (st' := [jI (jW (v6 + 1)), jI v10, jI (jW (v7 + jW (v3 - v11))), jI v11, jI v8, jI v1, jR 66]) rfl (p1 := 118) rfl ?_
          obtain ⟨r4, h4, hf⟩ := jbd hf
          refine B_callS B (Nat.le_refl _) (μ' := r4.2) (k' := 0) (n' := 0) ca_X8_leastEnd sa_X8_leastEnd lk_X8_92 (t_X8_leastEnd_6 B.tr h4) (Nat.le_refl _) rfl (rest := []) rfl rfl (Nat.le_of_ble_eq_true rfl) (by decide +kernel) rfl rfl (st' := [jI r4.1]) rfl ?_
          refine B_blk B jlkX8_ok jcl_SKF [.istore 13, .iload 13, .iconst (-1)] (by decide +kernel) (ls' := [(0, jR 66), (1, jI v1), (3, jI v3), (6, jI v6), (7, jI v7), (8, jI v8), (9, jI v9), (10, jI v10), (11, jI v11), (12, jI (jW (v3 - v11))), (13, jI r4.1)]) (st' := [jI (-1), jI r4.1]) rfl (p1 := 126) rfl ?_
          refine J_icmp_eq B.1 (off := 11) (tgt := 137) (by decide +kernel) (by decide) hf (fun hf => ?_) (fun hf => ?_)
          · refine B_blk B jlkX8_ok jcl_SKF [.iinc 11 1, .goto (-76)] (by decide +kernel) (ls' := [(0, jR 66), (1, jI v1), (3, jI v3), (6, jI v6), (7, jI v7), (8, jI v8), (9, jI v9), (10, jI v10), (11, jI (jW (v11 + 1))), (12, jI (jW (v3 - v11))), (13, jI r4.1)]) (st' := []) rfl (p1 := 64) rfl ?_
            refine J_pick [0, 1, 2, 3, 4, 5, 6, 7, 8] (ls' := [(0, jR 66), (1, jI v1), (3, jI v3), (6, jI v6), (7, jI v7), (8, jI v8), (9, jI v9), (10, jI v10), (11, jI (jW (v11 + 1)))]) rfl ?_
            exact ih v1 v3 v6 v7 v8 v9 v10 (jW (v11 + 1)) r4.2 _ hf hq
          · refine B_blk B jlkX8_ok jcl_SKF [.iload 13, .istore 9, .iload 13, .istore 10, .iinc 11 1, .goto (-76)] (by decide +kernel) (ls' := [(0, jR 66), (1, jI v1), (3, jI v3), (6, jI v6), (7, jI v7), (8, jI v8), (9, jI r4.1), (10, jI r4.1), (11, jI (jW (v11 + 1))), (12, jI (jW (v3 - v11))), (13, jI r4.1)]) (st' := []) rfl (p1 := 64) rfl ?_
            refine J_pick [0, 1, 2, 3, 4, 5, 6, 7, 8] (ls' := [(0, jR 66), (1, jI v1), (3, jI v3), (6, jI v6), (7, jI v7), (8, jI v8), (9, jI r4.1), (10, jI r4.1), (11, jI (jW (v11 + 1)))]) rfl ?_
            exact ih v1 v3 v6 v7 v8 r4.1 r4.1 (jW (v11 + 1)) r4.2 _ hf hq
      · refine B_blk B jlkX8_ok jcl_SKF [.iinc 11 1, .goto (-76)] (by decide +kernel) (ls' := [(0, jR 66), (1, jI v1), (3, jI v3), (6, jI v6), (7, jI v7), (8, jI v8), (9, jI v9), (10, jI v10), (11, jI (jW (v11 + 1)))]) (st' := []) rfl (p1 := 64) rfl ?_
        exact ih v1 v3 v6 v7 v8 v9 v10 (jW (v11 + 1)) m _ hf hq
theorem t_X8_leastEnd_7 {l : Launch} {G : jG} (hl : l.stackTraces = false) {a0 : Int} {a1 : Int} {a2 : Int} {a3 : Int} {a4 : Int} {a5 : Int} {m : jMu} {r : (Int × jMu)} (hf : fr_X8_leastEnd 7 a0 a1 a2 a3 a4 a5 m = some r) : jCt l G yX8_leastEnd (.code yX8_leastEnd cX8_leastEnd 14 (some .int) :: jWG) rm_X8_leastEnd_7 [jR 66, jI a0, jI a1, jI a2, jI a3, jI a4, jI a5] SKF m (.inl (some (jI r.1))) SKF r.2 := by
  rw [fr_X8_leastEnd] at hf
  unfold f_X8_leastEnd at hf
  refine J_start (ls0 := [(0, jR 66), (1, jI a0), (2, jI a1), (3, jI a2), (4, jI a3), (5, jI a4), (6, jI a5)]) (by decide +kernel) hl (Nat.le_of_ble_eq_true rfl) rfl fun X C hN hn hR hr hnm hno hq => ?_
  have B : jB X cX8_leastEnd RX8 14 SKF.length rm_X8_leastEnd_7 (some .int) := ⟨C, hN, Nat.le_of_eq hn, hR, hr⟩
  refine B_blk B jlkX8_ok jcl_SKF [.aload_n 0, .iload_n 3, .iload_n 1, .aload_n 0, .iload_n 3, .iload 4] (by decide +kernel) (ls' := [(0, jR 66), (1, jI a0), (2, jI a1), (3, jI a2), (4, jI a3), (5, jI a4), (6, jI a5)]) (st' := [jI a3, jI a2, jR 66, jI a0, jI a2, jR 66]) rfl (p1 := 7) rfl ?_
  obtain ⟨r1, h1, hf⟩ := jbd hf
  refine B_callV B (Nat.le_refl _) (μ' := m) (k' := 0) (n' := 0) ca_X8_firstMoment in_X8_firstMoment se_X8_firstMoment lk_X8_85 (t_X8_firstMoment B.tr h1) (Nat.le_refl _) rfl rfl rfl (rest := [jI a0, jI a2, jR 66]) rfl rfl (Nat.le_of_ble_eq_true rfl) (by decide +kernel) rfl rfl (st' := [jI r1, jI a0, jI a2, jR 66]) rfl ?_
  obtain ⟨r2, h2, hf⟩ := jbd hf
  refine B_callV B (Nat.le_refl _) (μ' := r2.2) (k' := 0) (n' := 0) ca_X8_workEnd in_X8_workEnd se_X8_workEnd lk_X8_88 (t_X8_workEnd B.tr h2) (Nat.le_refl _) rfl rfl rfl (rest := []) rfl rfl (Nat.le_of_ble_eq_true rfl) (by decide +kernel) rfl rfl (st' := [jI r2.1]) rfl ?_
  refine B_blk B jlkX8_ok jcl_SKF [.istore 7, .iload 7, .iconst (-1)] (by decide +kernel) (ls' := [(0, jR 66), (1, jI a0), (2, jI a1), (3, jI a2), (4, jI a3), (5, jI a4), (6, jI a5), (7, jI r2.1)]) (st' := [jI (-1), jI r2.1]) rfl (p1 := 18) rfl ?_
  refine J_icmp_eq B.1 (off := 17) (tgt := 35) (by decide +kernel) (by decide) hf (fun hf => ?_) (fun hf => ?_)
  · refine B_blk B jlkX8_ok jcl_SKF [.iconst (-1)] (by decide +kernel) (ls' := [(0, jR 66), (1, jI a0), (2, jI a1), (3, jI a2), (4, jI a3), (5, jI a4), (6, jI a5), (7, jI r2.1)]) (st' := [jI (-1)]) rfl (p1 := 36) rfl ?_
    cases hf
    exact B_retI B hq rfl (Nat.le_of_ble_eq_true rfl) (Nat.le_of_ble_eq_true rfl) (by decide +kernel)
  · refine B_blk B jlkX8_ok jcl_SKF [.iload 7, .iload 5] (by decide +kernel) (ls' := [(0, jR 66), (1, jI a0), (2, jI a1), (3, jI a2), (4, jI a3), (5, jI a4), (6, jI a5), (7, jI r2.1)]) (st' := [jI a4, jI r2.1]) rfl (p1 := 25) rfl ?_
    refine J_icmp_ge B.1 (off := 10) (tgt := 35) (by decide +kernel) (by decide) hf (fun hf => ?_) (fun hf => ?_)
    · refine B_blk B jlkX8_ok jcl_SKF [.iconst (-1)] (by decide +kernel) (ls' := [(0, jR 66), (1, jI a0), (2, jI a1), (3, jI a2), (4, jI a3), (5, jI a4), (6, jI a5), (7, jI r2.1)]) (st' := [jI (-1)]) rfl (p1 := 36) rfl ?_
      cases hf
      exact B_retI B hq rfl (Nat.le_of_ble_eq_true rfl) (Nat.le_of_ble_eq_true rfl) (by decide +kernel)
    · refine B_blk B jlkX8_ok jcl_SKF [.iload 6, .bipush 6] (by decide +kernel) (ls' := [(0, jR 66), (1, jI a0), (2, jI a1), (3, jI a2), (4, jI a3), (5, jI a4), (6, jI a5), (7, jI r2.1)]) (st' := [jI 6, jI a5]) rfl (p1 := 32) rfl ?_
      refine J_icmp_le B.1 (off := 5) (tgt := 37) (by decide +kernel) (by decide) hf (fun hf => ?_) (fun hf => ?_)
      · refine B_blk B jlkX8_ok jcl_SKF [.iload_n 2, .iconst 1, .iload_n 3, .ishl, .iconst (-1), .ixor, .iand, .istore 8, .iload 8] (by decide +kernel) (ls' := [(0, jR 66), (1, jI a0), (2, jI a1), (3, jI a2), (4, jI a3), (5, jI a4), (6, jI a5), (7, jI r2.1), (8, jI (jAn a1 (jXo (jSl 1 a2) (-1))))]) (st' := [jI (jAn a1 (jXo (jSl 1 a2) (-1)))]) rfl (p1 := 48) rfl ?_
        refine J_if_ne B.1 (off := 6) (tgt := 54) (by decide +kernel) (by decide) hf (fun hf => ?_) (fun hf => ?_)
        · refine B_blk B jlkX8_ok jcl_SKF [.iload 7] (by decide +kernel) (ls' := [(0, jR 66), (1, jI a0), (2, jI a1), (3, jI a2), (4, jI a3), (5, jI a4), (6, jI a5), (7, jI r2.1), (8, jI (jAn a1 (jXo (jSl 1 a2) (-1))))]) (st' := [jI r2.1]) rfl (p1 := 53) rfl ?_
          cases hf
          exact B_retI B hq rfl (Nat.le_of_ble_eq_true rfl) (Nat.le_of_ble_eq_true rfl) (by decide +kernel)
        · refine B_blk B jlkX8_ok jcl_SKF [.iconst (-1), .istore 9, .iload 5, .istore 10, .iconst 0, .istore 11] (by decide +kernel) (ls' := [(0, jR 66), (1, jI a0), (2, jI a1), (3, jI a2), (4, jI a3), (5, jI a4), (6, jI a5), (7, jI r2.1), (8, jI (jAn a1 (jXo (jSl 1 a2) (-1)))), (9, jI (-1)), (10, jI a4), (11, jI 0)]) (st' := []) rfl (p1 := 64) rfl ?_
          refine J_pick [0, 1, 3, 6, 7, 8, 9, 10, 11] (ls' := [(0, jR 66), (1, jI a0), (3, jI a2), (6, jI a5), (7, jI r2.1), (8, jI (jAn a1 (jXo (jSl 1 a2) (-1)))), (9, jI (-1)), (10, jI a4), (11, jI 0)]) rfl ?_
          exact t_X8_leastEnd_L64_7 B jFU a0 a2 a5 r2.1 (jAn a1 (jXo (jSl 1 a2) (-1))) (-1) a4 0 r2.2 _ hf hq
      · refine B_blk B jlkX8_ok jcl_SKF [.iconst (-1)] (by decide +kernel) (ls' := [(0, jR 66), (1, jI a0), (2, jI a1), (3, jI a2), (4, jI a3), (5, jI a4), (6, jI a5), (7, jI r2.1)]) (st' := [jI (-1)]) rfl (p1 := 36) rfl ?_
        cases hf
        exact B_retI B hq rfl (Nat.le_of_ble_eq_true rfl) (Nat.le_of_ble_eq_true rfl) (by decide +kernel)

def rm_X8_leastEnd_8 : Room := { frames := 26, cells := 0, slots := 0, locals := 420 }
theorem t_X8_leastEnd_L64_8 {X : jX} (B : jB X cX8_leastEnd RX8 14 SKF.length rm_X8_leastEnd_8 (some .int)) : ∀ (q : Nat) (v1 : Int) (v3 : Int) (v6 : Int) (v7 : Int) (v8 : Int) (v9 : Int) (v10 : Int) (v11 : Int) (m : jMu) (r : (Int × jMu)), f_X8_leastEnd_L64 (fr_X8_leastEnd 7) q v1 v3 v6 v7 v8 v9 v10 v11 m = some r → jQ X (.inl (some (jI r.1))) SKF r.2 rm_X8_leastEnd_8.cells rm_X8_leastEnd_8.slots → J X SKF m 0 0 64 [(0, jR 66), (1, jI v1), (3, jI v3), (6, jI v6), (7, jI v7), (8, jI v8), (9, jI v9), (10, jI v10), (11, jI v11)] [] := by
  intro q
  induction q with
  | zero =>
    intro v1 v3 v6 v7 v8 v9 v10 v11 m r hf
    rw [f_X8_leastEnd_L64] at hf
    cases hf
  | succ q ih =>
    intro v1 v3 v6 v7 v8 v9 v10 v11 m r hf hq
    rw [f_X8_leastEnd_L64] at hf
    refine B_blk B jlkX8_ok jcl_SKF [.iload 11, .bipush 8] (by decide +kernel) (ls' := [(0, jR 66), (1, jI v1), (3, jI v3), (6, jI v6), (7, jI v7), (8, jI v8), (9, jI v9), (10, jI v10), (11, jI v11)]) (st' := [jI 8, jI v11]) rfl (p1 := 68) rfl ?_
    refine J_icmp_ge B.1 (off := 75) (tgt := 143) (by decide +kernel) (by decide) hf (fun hf => ?_) (fun hf => ?_)
    · refine B_blk B jlkX8_ok jcl_SKF [.iload 9] (by decide +kernel) (ls' := [(0, jR 66), (1, jI v1), (3, jI v3), (6, jI v6), (7, jI v7), (8, jI v8), (9, jI v9), (10, jI v10), (11, jI v11)]) (st' := [jI v9]) rfl (p1 := 145) rfl ?_
      cases hf
      exact B_retI B hq rfl (Nat.le_of_ble_eq_true rfl) (Nat.le_of_ble_eq_true rfl) (by decide +kernel)
    · refine B_blk B jlkX8_ok jcl_SKF [.iload 8, .iload 11, .ishr, .iconst 1, .iand, .iconst 1] (by decide +kernel) (ls' := [(0, jR 66), (1, jI v1), (3, jI v3), (6, jI v6), (7, jI v7), (8, jI v8), (9, jI v9), (10, jI v10), (11, jI v11)]) (st' := [jI 1, jI (jAn (jSr v8 v11) 1)]) rfl (p1 := 79) rfl ?_
      refine J_icmp_ne B.1 (off := 58) (tgt := 137) (by decide +kernel) (by decide) hf (fun hf => ?_) (fun hf => ?_)
      · refine B_blk B jlkX8_ok jcl_SKF [.iload 11, .iload_n 3] (by decide +kernel) (ls' := [(0, jR 66), (1, jI v1), (3, jI v3), (6, jI v6), (7, jI v7), (8, jI v8), (9, jI v9), (10, jI v10), (11, jI v11)]) (st' := [jI v3, jI v11]) rfl (p1 := 85) rfl ?_
        refine J_icmp_ge B.1 (off := 10) (tgt := 95) (by decide +kernel) (by decide) hf (fun hf => ?_) (fun hf => ?_)
        · refine B_blk B jlkX8_ok jcl_SKF [.iload 11, .iload_n 3, .isub, .istore 12, .aload_n 0, .iload_n 1, .iload 8, .iload 11, .iload 7, .iload 12, .iadd, .iload 10, .iload 6, .iconst 1, .iadd] (by decide +kernel) (ls' := [(0, jR 66), (1, jI v1), (3, jI v3), (6, jI v6), (7, jI v7), (8, jI v8), (9, jI v9), (10, jI v10), (11, jI v11), (12, jI (jW (v11 - v3)))]) (st' := [jI (jW (v6 + 1)), jI v10, jI (jW (v7 + jW (v11 - v3))), jI v11, jI v8, jI v1, jR 66]) rfl (p1 := 118) rfl ?_
          obtain ⟨r3, h3, hf⟩ := jbd hf
          refine B_callS B (Nat.le_refl _) (μ' := r3.2) (k' := 0) (n' := 0) ca_X8_leastEnd sa_X8_leastEnd lk_X8_92 (t_X8_leastEnd_7 B.tr h3) (Nat.le_refl _) rfl (rest := []) rfl rfl (Nat.le_of_ble_eq_true rfl) (by decide +kernel) rfl rfl (st' := [jI r3.1]) rfl ?_
          refine B_blk B jlkX8_ok jcl_SKF [.istore 13, .iload 13, .iconst (-1)] (by decide +kernel) (ls' := [(0, jR 66), (1, jI v1), (3, jI v3), (6, jI v6), (7, jI v7), (8, jI v8), (9, jI v9), (10, jI v10), (11, jI v11), (12, jI (jW (v11 - v3))), (13, jI r3.1)]) (st' := [jI (-1), jI r3.1]) rfl (p1 := 126) rfl ?_
          refine J_icmp_eq B.1 (off := 11) (tgt := 137) (by decide +kernel) (by decide) hf (fun hf => ?_) (fun hf => ?_)
          · refine B_blk B jlkX8_ok jcl_SKF [.iinc 11 1, .goto (-76)] (by decide +kernel) (ls' := [(0, jR 66), (1, jI v1), (3, jI v3), (6, jI v6), (7, jI v7), (8, jI v8), (9, jI v9), (10, jI v10), (11, jI (jW (v11 + 1))), (12, jI (jW (v11 - v3))), (13, jI r3.1)]) (st' := []) rfl (p1 := 64) rfl ?_
            refine J_pick [0, 1, 2, 3, 4, 5, 6, 7, 8] (ls' := [(0, jR 66), (1, jI v1), (3, jI v3), (6, jI v6), (7, jI v7), (8, jI v8), (9, jI v9), (10, jI v10), (11, jI (jW (v11 + 1)))]) rfl ?_
            exact ih v1 v3 v6 v7 v8 v9 v10 (jW (v11 + 1)) r3.2 _ hf hq
          · refine B_blk B jlkX8_ok jcl_SKF [.iload 13, .istore 9, .iload 13, .istore 10, .iinc 11 1, .goto (-76)] (by decide +kernel) (ls' := [(0, jR 66), (1, jI v1), (3, jI v3), (6, jI v6), (7, jI v7), (8, jI v8), (9, jI r3.1), (10, jI r3.1), (11, jI (jW (v11 + 1))), (12, jI (jW (v11 - v3))), (13, jI r3.1)]) (st' := []) rfl (p1 := 64) rfl ?_
            refine J_pick [0, 1, 2, 3, 4, 5, 6, 7, 8] (ls' := [(0, jR 66), (1, jI v1), (3, jI v3), (6, jI v6), (7, jI v7), (8, jI v8), (9, jI r3.1), (10, jI r3.1), (11, jI (jW (v11 + 1)))]) rfl ?_
            exact ih v1 v3 v6 v7 v8 r3.1 r3.1 (jW (v11 + 1)) r3.2 _ hf hq
        · refine B_blk B jlkX8_ok jcl_SKF [.iload_n 3, .iload 11, .isub, .goto 7, .istore 12, .aload_n 0, .iload_n 1, .iload 8, .iload 11, .iload 7, .iload 12, .iadd, .iload 10, .iload 6, .iconst 1, .iadd] (by decide +kernel) (ls' := [(0, jR 66), (1, jI v1), (3, jI v3), (6, jI v6), (7, jI v7), (8, jI v8), (9, jI v9), (10, jI v10), (11, jI v11), (12, jI (jW (v3 - v11)))]) (st' := [jI (jW (v6 + 1)), jI v10, jI (jW (v7 + jW (v3 - v11))), jI v11, jI v8, jI v1, jR 66]) rfl (p1 := 118) rfl ?_
          obtain ⟨r4, h4, hf⟩ := jbd hf
          refine B_callS B (Nat.le_refl _) (μ' := r4.2) (k' := 0) (n' := 0) ca_X8_leastEnd sa_X8_leastEnd lk_X8_92 (t_X8_leastEnd_7 B.tr h4) (Nat.le_refl _) rfl (rest := []) rfl rfl (Nat.le_of_ble_eq_true rfl) (by decide +kernel) rfl rfl (st' := [jI r4.1]) rfl ?_
          refine B_blk B jlkX8_ok jcl_SKF [.istore 13, .iload 13, .iconst (-1)] (by decide +kernel) (ls' := [(0, jR 66), (1, jI v1), (3, jI v3), (6, jI v6), (7, jI v7), (8, jI v8), (9, jI v9), (10, jI v10), (11, jI v11), (12, jI (jW (v3 - v11))), (13, jI r4.1)]) (st' := [jI (-1), jI r4.1]) rfl (p1 := 126) rfl ?_
          refine J_icmp_eq B.1 (off := 11) (tgt := 137) (by decide +kernel) (by decide) hf (fun hf => ?_) (fun hf => ?_)
          · refine B_blk B jlkX8_ok jcl_SKF [.iinc 11 1, .goto (-76)] (by decide +kernel) (ls' := [(0, jR 66), (1, jI v1), (3, jI v3), (6, jI v6), (7, jI v7), (8, jI v8), (9, jI v9), (10, jI v10), (11, jI (jW (v11 + 1))), (12, jI (jW (v3 - v11))), (13, jI r4.1)]) (st' := []) rfl (p1 := 64) rfl ?_
            refine J_pick [0, 1, 2, 3, 4, 5, 6, 7, 8] (ls' := [(0, jR 66), (1, jI v1), (3, jI v3), (6, jI v6), (7, jI v7), (8, jI v8), (9, jI v9), (10, jI v10), (11, jI (jW (v11 + 1)))]) rfl ?_
            exact ih v1 v3 v6 v7 v8 v9 v10 (jW (v11 + 1)) r4.2 _ hf hq
          · refine B_blk B jlkX8_ok jcl_SKF [.iload 13, .istore 9, .iload 13, .istore 10, .iinc 11 1, .goto (-76)] (by decide +kernel) (ls' := [(0, jR 66), (1, jI v1), (3, jI v3), (6, jI v6), (7, jI v7), (8, jI v8), (9, jI r4.1), (10, jI r4.1), (11, jI (jW (v11 + 1))), (12, jI (jW (v3 - v11))), (13, jI r4.1)]) (st' := []) rfl (p1 := 64) rfl ?_
            refine J_pick [0, 1, 2, 3, 4, 5, 6, 7, 8] (ls' := [(0, jR 66), (1, jI v1), (3, jI v3), (6, jI v6), (7, jI v7), (8, jI v8), (9, jI r4.1), (10, jI r4.1), (11, jI (jW (v11 + 1)))]) rfl ?_
            exact ih v1 v3 v6 v7 v8 r4.1 r4.1 (jW (v11 + 1)) r4.2 _ hf hq
      · refine B_blk B jlkX8_ok jcl_SKF [.iinc 11 1, .goto (-76)] (by decide +kernel) (ls' := [(0, jR 66), (1, jI v1), (3, jI v3), (6, jI v6), (7, jI v7), (8, jI v8), (9, jI v9), (10, jI v10), (11, jI (jW (v11 + 1)))]) (st' := []) rfl (p1 := 64) rfl ?_
        exact ih v1 v3 v6 v7 v8 v9 v10 (jW (v11 + 1)) m _ hf hq
theorem t_X8_leastEnd_8 {l : Launch} {G : jG} (hl : l.stackTraces = false) {a0 : Int} {a1 : Int} {a2 : Int} {a3 : Int} {a4 : Int} {a5 : Int} {m : jMu} {r : (Int × jMu)} (hf : fr_X8_leastEnd 8 a0 a1 a2 a3 a4 a5 m = some r) : jCt l G yX8_leastEnd (.code yX8_leastEnd cX8_leastEnd 14 (some .int) :: jWG) rm_X8_leastEnd_8 [jR 66, jI a0, jI a1, jI a2, jI a3, jI a4, jI a5] SKF m (.inl (some (jI r.1))) SKF r.2 := by
  rw [fr_X8_leastEnd] at hf
  unfold f_X8_leastEnd at hf
  refine J_start (ls0 := [(0, jR 66), (1, jI a0), (2, jI a1), (3, jI a2), (4, jI a3), (5, jI a4), (6, jI a5)]) (by decide +kernel) hl (Nat.le_of_ble_eq_true rfl) rfl fun X C hN hn hR hr hnm hno hq => ?_
  have B : jB X cX8_leastEnd RX8 14 SKF.length rm_X8_leastEnd_8 (some .int) := ⟨C, hN, Nat.le_of_eq hn, hR, hr⟩
  refine B_blk B jlkX8_ok jcl_SKF [.aload_n 0, .iload_n 3, .iload_n 1, .aload_n 0, .iload_n 3, .iload 4] (by decide +kernel) (ls' := [(0, jR 66), (1, jI a0), (2, jI a1), (3, jI a2), (4, jI a3), (5, jI a4), (6, jI a5)]) (st' := [jI a3, jI a2, jR 66, jI a0, jI a2, jR 66]) rfl (p1 := 7) rfl ?_
  obtain ⟨r1, h1, hf⟩ := jbd hf
  refine B_callV B (Nat.le_refl _) (μ' := m) (k' := 0) (n' := 0) ca_X8_firstMoment in_X8_firstMoment se_X8_firstMoment lk_X8_85 (t_X8_firstMoment B.tr h1) (Nat.le_refl _) rfl rfl rfl (rest := [jI a0, jI a2, jR 66]) rfl rfl (Nat.le_of_ble_eq_true rfl) (by decide +kernel) rfl rfl (st' := [jI r1, jI a0, jI a2, jR 66]) rfl ?_
  obtain ⟨r2, h2, hf⟩ := jbd hf
  refine B_callV B (Nat.le_refl _) (μ' := r2.2) (k' := 0) (n' := 0) ca_X8_workEnd in_X8_workEnd se_X8_workEnd lk_X8_88 (t_X8_workEnd B.tr h2) (Nat.le_refl _) rfl rfl rfl (rest := []) rfl rfl (Nat.le_of_ble_eq_true rfl) (by decide +kernel) rfl rfl (st' := [jI r2.1]) rfl ?_
  refine B_blk B jlkX8_ok jcl_SKF [.istore 7, .iload 7, .iconst (-1)] (by decide +kernel) (ls' := [(0, jR 66), (1, jI a0), (2, jI a1), (3, jI a2), (4, jI a3), (5, jI a4), (6, jI a5), (7, jI r2.1)]) (st' := [jI (-1), jI r2.1]) rfl (p1 := 18) rfl ?_
  refine J_icmp_eq B.1 (off := 17) (tgt := 35) (by decide +kernel) (by decide) hf (fun hf => ?_) (fun hf => ?_)
  · refine B_blk B jlkX8_ok jcl_SKF [.iconst (-1)] (by decide +kernel) (ls' := [(0, jR 66), (1, jI a0), (2, jI a1), (3, jI a2), (4, jI a3), (5, jI a4), (6, jI a5), (7, jI r2.1)]) (st' := [jI (-1)]) rfl (p1 := 36) rfl ?_
    cases hf
    exact B_retI B hq rfl (Nat.le_of_ble_eq_true rfl) (Nat.le_of_ble_eq_true rfl) (by decide +kernel)
  · refine B_blk B jlkX8_ok jcl_SKF [.iload 7, .iload 5] (by decide +kernel) (ls' := [(0, jR 66), (1, jI a0), (2, jI a1), (3, jI a2), (4, jI a3), (5, jI a4), (6, jI a5), (7, jI r2.1)]) (st' := [jI a4, jI r2.1]) rfl (p1 := 25) rfl ?_
    refine J_icmp_ge B.1 (off := 10) (tgt := 35) (by decide +kernel) (by decide) hf (fun hf => ?_) (fun hf => ?_)
    · refine B_blk B jlkX8_ok jcl_SKF [.iconst (-1)] (by decide +kernel) (ls' := [(0, jR 66), (1, jI a0), (2, jI a1), (3, jI a2), (4, jI a3), (5, jI a4), (6, jI a5), (7, jI r2.1)]) (st' := [jI (-1)]) rfl (p1 := 36) rfl ?_
      cases hf
      exact B_retI B hq rfl (Nat.le_of_ble_eq_true rfl) (Nat.le_of_ble_eq_true rfl) (by decide +kernel)
    · refine B_blk B jlkX8_ok jcl_SKF [.iload 6, .bipush 6] (by decide +kernel) (ls' := [(0, jR 66), (1, jI a0), (2, jI a1), (3, jI a2), (4, jI a3), (5, jI a4), (6, jI a5), (7, jI r2.1)]) (st' := [jI 6, jI a5]) rfl (p1 := 32) rfl ?_
      refine J_icmp_le B.1 (off := 5) (tgt := 37) (by decide +kernel) (by decide) hf (fun hf => ?_) (fun hf => ?_)
      · refine B_blk B jlkX8_ok jcl_SKF [.iload_n 2, .iconst 1, .iload_n 3, .ishl, .iconst (-1), .ixor, .iand, .istore 8, .iload 8] (by decide +kernel) (ls' := [(0, jR 66), (1, jI a0), (2, jI a1), (3, jI a2), (4, jI a3), (5, jI a4), (6, jI a5), (7, jI r2.1), (8, jI (jAn a1 (jXo (jSl 1 a2) (-1))))]) (st' := [jI (jAn a1 (jXo (jSl 1 a2) (-1)))]) rfl (p1 := 48) rfl ?_
        refine J_if_ne B.1 (off := 6) (tgt := 54) (by decide +kernel) (by decide) hf (fun hf => ?_) (fun hf => ?_)
        · refine B_blk B jlkX8_ok jcl_SKF [.iload 7] (by decide +kernel) (ls' := [(0, jR 66), (1, jI a0), (2, jI a1), (3, jI a2), (4, jI a3), (5, jI a4), (6, jI a5), (7, jI r2.1), (8, jI (jAn a1 (jXo (jSl 1 a2) (-1))))]) (st' := [jI r2.1]) rfl (p1 := 53) rfl ?_
          cases hf
          exact B_retI B hq rfl (Nat.le_of_ble_eq_true rfl) (Nat.le_of_ble_eq_true rfl) (by decide +kernel)
        · refine B_blk B jlkX8_ok jcl_SKF [.iconst (-1), .istore 9, .iload 5, .istore 10, .iconst 0, .istore 11] (by decide +kernel) (ls' := [(0, jR 66), (1, jI a0), (2, jI a1), (3, jI a2), (4, jI a3), (5, jI a4), (6, jI a5), (7, jI r2.1), (8, jI (jAn a1 (jXo (jSl 1 a2) (-1)))), (9, jI (-1)), (10, jI a4), (11, jI 0)]) (st' := []) rfl (p1 := 64) rfl ?_
          refine J_pick [0, 1, 3, 6, 7, 8, 9, 10, 11] (ls' := [(0, jR 66), (1, jI a0), (3, jI a2), (6, jI a5), (7, jI r2.1), (8, jI (jAn a1 (jXo (jSl 1 a2) (-1)))), (9, jI (-1)), (10, jI a4), (11, jI 0)]) rfl ?_
          exact t_X8_leastEnd_L64_8 B jFU a0 a2 a5 r2.1 (jAn a1 (jXo (jSl 1 a2) (-1))) (-1) a4 0 r2.2 _ hf hq
      · refine B_blk B jlkX8_ok jcl_SKF [.iconst (-1)] (by decide +kernel) (ls' := [(0, jR 66), (1, jI a0), (2, jI a1), (3, jI a2), (4, jI a3), (5, jI a4), (6, jI a5), (7, jI r2.1)]) (st' := [jI (-1)]) rfl (p1 := 36) rfl ?_
        cases hf
        exact B_retI B hq rfl (Nat.le_of_ble_eq_true rfl) (Nat.le_of_ble_eq_true rfl) (by decide +kernel)

def rm_X8_bestOrder : Room := { frames := 28, cells := 0, slots := 0, locals := 453 }
def f_X8_bestOrder_L11 : Nat → Int → Int → Int → Int → Int → Int → Int → jMu → Option (Int × jMu)
  | 0, _, _, _, _, _, _, _, _ => none
  | q + 1, v1, v2, v3, v4, v5, v6, v7, m => (if 8 ≤ v7 then (if v4 = 0 then (if v6 = (-1) then some (v6, m) else some (v5, m)) else some (v6, m)) else (if jAn (jSr v2 v7) 1 = 1 then (fr_X8_leastEnd 8 v1 v2 v7 v3 v5 1 m).bind fun r1 => (if r1.1 = (-1) then f_X8_bestOrder_L11 q v1 v2 v3 v4 v5 v6 (jW (v7 + 1)) r1.2 else f_X8_bestOrder_L11 q v1 v2 v3 v4 r1.1 v7 (jW (v7 + 1)) r1.2) else f_X8_bestOrder_L11 q v1 v2 v3 v4 v5 v6 (jW (v7 + 1)) m))
def f_X8_bestOrder (a0 : Int) (a1 : Int) (a2 : Int) (a3 : Int) (m : jMu) : Option (Int × jMu) :=
  f_X8_bestOrder_L11 jFU a0 a1 a2 a3 2401 (-1) 0 m
theorem t_X8_bestOrder_L11 {X : jX} (B : jB X cX8_bestOrder RX8 9 SKF.length rm_X8_bestOrder (some .int)) : ∀ (q : Nat) (v1 : Int) (v2 : Int) (v3 : Int) (v4 : Int) (v5 : Int) (v6 : Int) (v7 : Int) (m : jMu) (r : (Int × jMu)), f_X8_bestOrder_L11 q v1 v2 v3 v4 v5 v6 v7 m = some r → jQ X (.inl (some (jI r.1))) SKF r.2 rm_X8_bestOrder.cells rm_X8_bestOrder.slots → J X SKF m 0 0 11 [(0, jR 66), (1, jI v1), (2, jI v2), (3, jI v3), (4, jI v4), (5, jI v5), (6, jI v6), (7, jI v7)] [] := by
  intro q
  induction q with
  | zero =>
    intro v1 v2 v3 v4 v5 v6 v7 m r hf
    rw [f_X8_bestOrder_L11] at hf
    cases hf
  | succ q ih =>
    intro v1 v2 v3 v4 v5 v6 v7 m r hf hq
    rw [f_X8_bestOrder_L11] at hf
    refine B_blk B jlkX8_ok jcl_SKF [.iload 7, .bipush 8] (by decide +kernel) (ls' := [(0, jR 66), (1, jI v1), (2, jI v2), (3, jI v3), (4, jI v4), (5, jI v5), (6, jI v6), (7, jI v7)]) (st' := [jI 8, jI v7]) rfl (p1 := 15) rfl ?_
    refine J_icmp_ge B.1 (off := 47) (tgt := 62) (by decide +kernel) (by decide) hf (fun hf => ?_) (fun hf => ?_)
    · refine B_blk B jlkX8_ok jcl_SKF [.iload 4] (by decide +kernel) (ls' := [(0, jR 66), (1, jI v1), (2, jI v2), (3, jI v3), (4, jI v4), (5, jI v5), (6, jI v6), (7, jI v7)]) (st' := [jI v4]) rfl (p1 := 64) rfl ?_
      refine J_if_ne B.1 (off := 9) (tgt := 73) (by decide +kernel) (by decide) hf (fun hf => ?_) (fun hf => ?_)
      · refine B_blk B jlkX8_ok jcl_SKF [.iload 6, .iconst (-1)] (by decide +kernel) (ls' := [(0, jR 66), (1, jI v1), (2, jI v2), (3, jI v3), (4, jI v4), (5, jI v5), (6, jI v6), (7, jI v7)]) (st' := [jI (-1), jI v6]) rfl (p1 := 70) rfl ?_
        refine J_icmp_ne B.1 (off := 8) (tgt := 78) (by decide +kernel) (by decide) hf (fun hf => ?_) (fun hf => ?_)
        · refine B_blk B jlkX8_ok jcl_SKF [.iload 6, .goto 5] (by decide +kernel) (ls' := [(0, jR 66), (1, jI v1), (2, jI v2), (3, jI v3), (4, jI v4), (5, jI v5), (6, jI v6), (7, jI v7)]) (st' := [jI v6]) rfl (p1 := 80) rfl ?_
          cases hf
          exact B_retI B hq rfl (Nat.le_of_ble_eq_true rfl) (Nat.le_of_ble_eq_true rfl) (by decide +kernel)
        · refine B_blk B jlkX8_ok jcl_SKF [.iload 5] (by decide +kernel) (ls' := [(0, jR 66), (1, jI v1), (2, jI v2), (3, jI v3), (4, jI v4), (5, jI v5), (6, jI v6), (7, jI v7)]) (st' := [jI v5]) rfl (p1 := 80) rfl ?_
          cases hf
          exact B_retI B hq rfl (Nat.le_of_ble_eq_true rfl) (Nat.le_of_ble_eq_true rfl) (by decide +kernel)
      · refine B_blk B jlkX8_ok jcl_SKF [.iload 6, .goto 5] (by decide +kernel) (ls' := [(0, jR 66), (1, jI v1), (2, jI v2), (3, jI v3), (4, jI v4), (5, jI v5), (6, jI v6), (7, jI v7)]) (st' := [jI v6]) rfl (p1 := 80) rfl ?_
        cases hf
        exact B_retI B hq rfl (Nat.le_of_ble_eq_true rfl) (Nat.le_of_ble_eq_true rfl) (by decide +kernel)
    · refine B_blk B jlkX8_ok jcl_SKF [.iload_n 2, .iload 7, .ishr, .iconst 1, .iand, .iconst 1] (by decide +kernel) (ls' := [(0, jR 66), (1, jI v1), (2, jI v2), (3, jI v3), (4, jI v4), (5, jI v5), (6, jI v6), (7, jI v7)]) (st' := [jI 1, jI (jAn (jSr v2 v7) 1)]) rfl (p1 := 25) rfl ?_
      refine J_icmp_ne B.1 (off := 31) (tgt := 56) (by decide +kernel) (by decide) hf (fun hf => ?_) (fun hf => ?_)
      · refine B_blk B jlkX8_ok jcl_SKF [.aload_n 0, .iload_n 1, .iload_n 2, .iload 7, .iload_n 3, .iload 5, .iconst 1] (by decide +kernel) (ls' := [(0, jR 66), (1, jI v1), (2, jI v2), (3, jI v3), (4, jI v4), (5, jI v5), (6, jI v6), (7, jI v7)]) (st' := [jI 1, jI v5, jI v3, jI v7, jI v2, jI v1, jR 66]) rfl (p1 := 37) rfl ?_
        obtain ⟨r1, h1, hf⟩ := jbd hf
        refine B_callS B (Nat.le_refl _) (μ' := r1.2) (k' := 0) (n' := 0) ca_X8_leastEnd sa_X8_leastEnd lk_X8_92 (t_X8_leastEnd_8 B.tr h1) (Nat.le_refl _) rfl (rest := []) rfl rfl (Nat.le_of_ble_eq_true rfl) (by decide +kernel) rfl rfl (st' := [jI r1.1]) rfl ?_
        refine B_blk B jlkX8_ok jcl_SKF [.istore 8, .iload 8, .iconst (-1)] (by decide +kernel) (ls' := [(0, jR 66), (1, jI v1), (2, jI v2), (3, jI v3), (4, jI v4), (5, jI v5), (6, jI v6), (7, jI v7), (8, jI r1.1)]) (st' := [jI (-1), jI r1.1]) rfl (p1 := 45) rfl ?_
        refine J_icmp_eq B.1 (off := 11) (tgt := 56) (by decide +kernel) (by decide) hf (fun hf => ?_) (fun hf => ?_)
        · refine B_blk B jlkX8_ok jcl_SKF [.iinc 7 1, .goto (-48)] (by decide +kernel) (ls' := [(0, jR 66), (1, jI v1), (2, jI v2), (3, jI v3), (4, jI v4), (5, jI v5), (6, jI v6), (7, jI (jW (v7 + 1))), (8, jI r1.1)]) (st' := []) rfl (p1 := 11) rfl ?_
          refine J_pick [0, 1, 2, 3, 4, 5, 6, 7] (ls' := [(0, jR 66), (1, jI v1), (2, jI v2), (3, jI v3), (4, jI v4), (5, jI v5), (6, jI v6), (7, jI (jW (v7 + 1)))]) rfl ?_
          exact ih v1 v2 v3 v4 v5 v6 (jW (v7 + 1)) r1.2 _ hf hq
        · refine B_blk B jlkX8_ok jcl_SKF [.iload 8, .istore 5, .iload 7, .istore 6, .iinc 7 1, .goto (-48)] (by decide +kernel) (ls' := [(0, jR 66), (1, jI v1), (2, jI v2), (3, jI v3), (4, jI v4), (5, jI r1.1), (6, jI v7), (7, jI (jW (v7 + 1))), (8, jI r1.1)]) (st' := []) rfl (p1 := 11) rfl ?_
          refine J_pick [0, 1, 2, 3, 4, 5, 6, 7] (ls' := [(0, jR 66), (1, jI v1), (2, jI v2), (3, jI v3), (4, jI v4), (5, jI r1.1), (6, jI v7), (7, jI (jW (v7 + 1)))]) rfl ?_
          exact ih v1 v2 v3 v4 r1.1 v7 (jW (v7 + 1)) r1.2 _ hf hq
      · refine B_blk B jlkX8_ok jcl_SKF [.iinc 7 1, .goto (-48)] (by decide +kernel) (ls' := [(0, jR 66), (1, jI v1), (2, jI v2), (3, jI v3), (4, jI v4), (5, jI v5), (6, jI v6), (7, jI (jW (v7 + 1)))]) (st' := []) rfl (p1 := 11) rfl ?_
        exact ih v1 v2 v3 v4 v5 v6 (jW (v7 + 1)) m _ hf hq
theorem t_X8_bestOrder {l : Launch} {G : jG} (hl : l.stackTraces = false) {a0 : Int} {a1 : Int} {a2 : Int} {a3 : Int} {m : jMu} {r : (Int × jMu)} (hf : f_X8_bestOrder a0 a1 a2 a3 m = some r) : jCt l G yX8_bestOrder (.code yX8_bestOrder cX8_bestOrder 9 (some .int) :: jWG) rm_X8_bestOrder [jR 66, jI a0, jI a1, jI a2, jI a3] SKF m (.inl (some (jI r.1))) SKF r.2 := by
  unfold f_X8_bestOrder at hf
  refine J_start (ls0 := [(0, jR 66), (1, jI a0), (2, jI a1), (3, jI a2), (4, jI a3)]) (by decide +kernel) hl (Nat.le_of_ble_eq_true rfl) rfl fun X C hN hn hR hr hnm hno hq => ?_
  have B : jB X cX8_bestOrder RX8 9 SKF.length rm_X8_bestOrder (some .int) := ⟨C, hN, Nat.le_of_eq hn, hR, hr⟩
  refine B_blk B jlkX8_ok jcl_SKF [.sipush 2401, .istore 5, .iconst (-1), .istore 6, .iconst 0, .istore 7] (by decide +kernel) (ls' := [(0, jR 66), (1, jI a0), (2, jI a1), (3, jI a2), (4, jI a3), (5, jI 2401), (6, jI (-1)), (7, jI 0)]) (st' := []) rfl (p1 := 11) rfl ?_
  exact t_X8_bestOrder_L11 B jFU a0 a1 a2 a3 2401 (-1) 0 m _ hf hq

def rm_J6_bitCount_0f7a4 : Room := { frames := 2, cells := 0, slots := 0, locals := 64 }
def f_J6_bitCount_0f7a4 (a0 : Int) : Option Int :=
  (jlt (jW (jAn (jW (a0 - jAn (jUr a0 1) 1431655765)) 858993459 + jAn (jUr (jW (a0 - jAn (jUr a0 1) 1431655765)) 2) 858993459)) fun x1 => (jlt (jW (jAn (jW (x1 + jUr x1 4)) 252645135 + jUr (jAn (jW (x1 + jUr x1 4)) 252645135) 8)) fun x2 => some (jAn (jW (x2 + jUr x2 16)) 63)))
theorem t_J6_bitCount_0f7a4 {l : Launch} {G : jG} (hl : l.stackTraces = false) {S : List jSh} (hcl : jcl S) {a0 : Int} {μ : jMu} {r : Int} (hf : f_J6_bitCount_0f7a4 a0 = some r) : jCt l G yJ6_bitCount_0f7a4 (.code yJ6_bitCount_0f7a4 cJ6_bitCount_0f7a4 1 (some .int) :: jWG) rm_J6_bitCount_0f7a4 [jI a0] S μ (.inl (some (jI r))) S μ := by
  unfold f_J6_bitCount_0f7a4 at hf
  refine J_start (ls0 := [(0, jI a0)]) (by decide +kernel) hl (Nat.le_of_ble_eq_true rfl) rfl fun X C hN hn hR hr hnm hno hq => ?_
  have B : jB X cJ6_bitCount_0f7a4 RJ6 1 S.length rm_J6_bitCount_0f7a4 (some .int) := ⟨C, hN, Nat.le_of_eq hn, hR, hr⟩
  refine B_blk B (jlkn_ok RJ6) hcl [.iload_n 0, .iload_n 0, .iconst 1, .iushr] (by decide +kernel) (ls' := [(0, jI a0)]) (st' := [jI (jUr a0 1), jI a0]) rfl (p1 := 4) rfl ?_
  refine J_ldcw (z := 1431655765) B.1 co_J6_265 (by decide) (by unfold jIn; omega) (by decide +kernel) ?_
  refine B_blk B (jlkn_ok RJ6) hcl [.iand, .isub, .istore_n 0, .iload_n 0] (by decide +kernel) (ls' := [(0, jI (jW (a0 - jAn (jUr a0 1) 1431655765)))]) (st' := [jI (jW (a0 - jAn (jUr a0 1) 1431655765))]) rfl (p1 := 11) rfl ?_
  refine J_ldcw (z := 858993459) B.1 co_J6_266 (by decide) (by unfold jIn; omega) (by decide +kernel) ?_
  refine B_blk B (jlkn_ok RJ6) hcl [.iand, .iload_n 0, .iconst 2, .iushr] (by decide +kernel) (ls' := [(0, jI (jW (a0 - jAn (jUr a0 1) 1431655765)))]) (st' := [jI (jUr (jW (a0 - jAn (jUr a0 1) 1431655765)) 2), jI (jAn (jW (a0 - jAn (jUr a0 1) 1431655765)) 858993459)]) rfl (p1 := 18) rfl ?_
  refine J_ldcw (z := 858993459) B.1 co_J6_266 (by decide) (by unfold jIn; omega) (by decide +kernel) ?_
  refine B_blk B (jlkn_ok RJ6) hcl [.iand, .iadd, .istore_n 0] (by decide +kernel) (ls' := [(0, jI (jW (jAn (jW (a0 - jAn (jUr a0 1) 1431655765)) 858993459 + jAn (jUr (jW (a0 - jAn (jUr a0 1) 1431655765)) 2) 858993459)))]) (st' := []) rfl (p1 := 24) rfl ?_
  obtain ⟨x1, hx1, hf⟩ := jlt_s hf
  rw [hx1]
  refine B_blk B (jlkn_ok RJ6) hcl [.iload_n 0, .iload_n 0, .iconst 4, .iushr, .iadd] (by decide +kernel) (ls' := [(0, jI x1)]) (st' := [jI (jW (x1 + jUr x1 4))]) rfl (p1 := 29) rfl ?_
  refine J_ldcw (z := 252645135) B.1 co_J6_267 (by decide) (by unfold jIn; omega) (by decide +kernel) ?_
  refine B_blk B (jlkn_ok RJ6) hcl [.iand, .istore_n 0, .iload_n 0, .iload_n 0, .bipush 8, .iushr, .iadd, .istore_n 0] (by decide +kernel) (ls' := [(0, jI (jW (jAn (jW (x1 + jUr x1 4)) 252645135 + jUr (jAn (jW (x1 + jUr x1 4)) 252645135) 8)))]) (st' := []) rfl (p1 := 41) rfl ?_
  obtain ⟨x2, hx2, hf⟩ := jlt_s hf
  rw [hx2]
  refine B_blk B (jlkn_ok RJ6) hcl [.iload_n 0, .iload_n 0, .bipush 16, .iushr, .iadd, .istore_n 0, .iload_n 0, .bipush 63, .iand] (by decide +kernel) (ls' := [(0, jI (jW (x2 + jUr x2 16)))]) (st' := [jI (jAn (jW (x2 + jUr x2 16)) 63)]) rfl (p1 := 52) rfl ?_
  cases hf
  exact B_retI B hq rfl (Nat.le_of_ble_eq_true rfl) (Nat.le_of_ble_eq_true rfl) (by decide +kernel)

def rm_X9_order : Room := { frames := 30, cells := 4, slots := 24, locals := 481 }
def f_X9_order_J77 (v1 : Int) (v2 : Int) (v3 : Int) (v4 : Int) (v5 : Int) (s0 : Int) (m : jMu) : Option (jOut Int) :=
  jthr (f_X9_needArgument s0 m) fun r7 => (f_X9_isIn v5 0 2).bind fun r8 => jthr (f_X9_needElement r8 r7.2) fun r9 => (f_X8_begin v1 v3 r9.2).bind fun r10 => (if v5 = 1 then (f_X8_walkedEnd v2 v3 v4 r10).bind fun r11 => some (.inr (r11.1, r11.2)) else (if v5 = 2 then (f_X8_bestOrder v2 v3 v4 1 r10).bind fun r12 => some (.inr (r12.1, r12.2)) else (f_X8_bestOrder v2 v3 v4 0 r10).bind fun r13 => some (.inr (r13.1, r13.2))))
def f_X9_order_J76 (v1 : Int) (v2 : Int) (v3 : Int) (v4 : Int) (v5 : Int) (m : jMu) : Option (jOut Int) :=
  f_X9_order_J77 v1 v2 v3 v4 v5 0 m
def f_X9_order_J33 (v1 : Int) (v2 : Int) (v3 : Int) (v4 : Int) (v5 : Int) (s0 : Int) (m : jMu) : Option (jOut Int) :=
  jthr (f_X9_needIndex s0 m) fun r2 => (f_X9_isIn v4 0 2399).bind fun r3 => jthr (f_X9_needIndex r3 r2.2) fun r4 => (f_X4_baySet r4.2).bind fun r5 => (f_X9_isIn v3 1 r5).bind fun r6 => (if r6 = 0 then f_X9_order_J76 v1 v2 v3 v4 v5 r4.2 else (f_J6_bitCount_0f7a4 v3).bind fun r14 => (if 6 < r14 then f_X9_order_J76 v1 v2 v3 v4 v5 r4.2 else f_X9_order_J77 v1 v2 v3 v4 v5 1 r4.2))
def f_X9_order_J32 (v1 : Int) (v2 : Int) (v3 : Int) (v4 : Int) (v5 : Int) (m : jMu) : Option (jOut Int) :=
  f_X9_order_J33 v1 v2 v3 v4 v5 0 m
def f_X9_order (a0 : Int) (a1 : Int) (a2 : Int) (a3 : Int) (a4 : Int) (m : jMu) : Option (jOut Int) :=
  (f_X5_has 14 15 6 a0 m).bind fun r1 => (if r1 = 0 then f_X9_order_J32 a0 a1 a2 a3 a4 m else (f_X5_has 20 21 4 a1 m).bind fun r15 => (if r15 = 0 then f_X9_order_J32 a0 a1 a2 a3 a4 m else f_X9_order_J33 a0 a1 a2 a3 a4 1 m))
theorem t_X9_order_J77 {X : jX} (B : jB X cX9_order RX9 6 SKF.length rm_X9_order (some .int)) (hno : ∀ x ∈ (xc X).exceptionTable.toList, False) (v1 : Int) (v2 : Int) (v3 : Int) (v4 : Int) (v5 : Int) (s0 : Int) (m : jMu) (r : (jOut Int)) (hf : f_X9_order_J77 v1 v2 v3 v4 v5 s0 m = some r) (hq : jQ X (joI r) SKF (joM r) rm_X9_order.cells rm_X9_order.slots) : J X SKF m 2 12 77 [(0, jR 0), (1, jI v1), (2, jI v2), (3, jI v3), (4, jI v4), (5, jI v5)] [jI s0] := by
  unfold f_X9_order_J77 at hf
  rcases jthr_s hf with ⟨e7, h7, hf⟩ | ⟨r7, h7, hf⟩
  · cases hf
    exact B_callST B (Nat.le_refl _) hno hq ca_X9_needArgument sa_X9_needArgument lk_X9_97 (t_X9_needArgument B.tr h7) (Nat.le_refl _) rfl (rest := []) rfl rfl (Nat.le_of_ble_eq_true rfl) (by decide +kernel) (Nat.le_of_ble_eq_true rfl) (Nat.le_of_ble_eq_true rfl)
  · refine B_callS B (Nat.le_refl _) (μ' := r7.2) (k' := 3) (n' := 18) ca_X9_needArgument sa_X9_needArgument lk_X9_97 (t_X9_needArgument B.tr h7) (Nat.le_refl _) rfl (rest := []) rfl rfl (Nat.le_of_ble_eq_true rfl) (by decide +kernel) rfl rfl (st' := []) rfl ?_
    refine B_blk B jlkX9_ok jcl_SKF [.iload 5, .iconst 0, .iconst 2] (by decide +kernel) (ls' := [(0, jR 0), (1, jI v1), (2, jI v2), (3, jI v3), (4, jI v4), (5, jI v5)]) (st' := [jI 2, jI 0, jI v5]) rfl (p1 := 84) rfl ?_
    obtain ⟨r8, h8, hf⟩ := jbd hf
    refine B_callS B (Nat.le_refl _) (μ' := r7.2) (k' := 3) (n' := 18) ca_X9_isIn sa_X9_isIn lk_X9_93 (t_X9_isIn B.tr jcl_SKF h8) (Nat.le_refl _) rfl (rest := []) rfl rfl (Nat.le_of_ble_eq_true rfl) (by decide +kernel) rfl rfl (st' := [jI r8]) rfl ?_
    rcases jthr_s hf with ⟨e9, h9, hf⟩ | ⟨r9, h9, hf⟩
    · cases hf
      exact B_callST B (Nat.le_refl _) hno hq ca_X9_needElement sa_X9_needElement lk_X9_170 (t_X9_needElement B.tr h9) (Nat.le_refl _) rfl (rest := []) rfl rfl (Nat.le_of_ble_eq_true rfl) (by decide +kernel) (Nat.le_of_ble_eq_true rfl) (Nat.le_of_ble_eq_true rfl)
    · refine B_callS B (Nat.le_refl _) (μ' := r9.2) (k' := 4) (n' := 24) ca_X9_needElement sa_X9_needElement lk_X9_170 (t_X9_needElement B.tr h9) (Nat.le_refl _) rfl (rest := []) rfl rfl (Nat.le_of_ble_eq_true rfl) (by decide +kernel) rfl rfl (st' := []) rfl ?_
      refine B_blk B jlkX9_ok jcl_SKF [.aload_n 0, .getfield 49, .iload_n 1, .iload_n 3] (by decide +kernel) (ls' := [(0, jR 0), (1, jI v1), (2, jI v2), (3, jI v3), (4, jI v4), (5, jI v5)]) (st' := [jI v3, jI v1, jR 66]) rfl (p1 := 96) rfl ?_
      obtain ⟨r10, h10, hf⟩ := jbd hf
      refine B_callV B (Nat.le_refl _) (μ' := r10) (k' := 4) (n' := 24) ca_X8_begin in_X8_begin se_X8_begin lk_X9_186 (t_X8_begin B.tr h10) (Nat.le_refl _) rfl rfl rfl (rest := []) rfl rfl (Nat.le_of_ble_eq_true rfl) (by decide +kernel) rfl rfl (st' := []) rfl ?_
      refine B_blk B jlkX9_ok jcl_SKF [.iload 5, .iconst 1] (by decide +kernel) (ls' := [(0, jR 0), (1, jI v1), (2, jI v2), (3, jI v3), (4, jI v4), (5, jI v5)]) (st' := [jI 1, jI v5]) rfl (p1 := 102) rfl ?_
      refine J_icmp_ne B.1 (off := 15) (tgt := 117) (by decide +kernel) (by decide) hf (fun hf => ?_) (fun hf => ?_)
      · refine B_blk B jlkX9_ok jcl_SKF [.aload_n 0, .getfield 49, .iload_n 2, .iload_n 3, .iload 4] (by decide +kernel) (ls' := [(0, jR 0), (1, jI v1), (2, jI v2), (3, jI v3), (4, jI v4), (5, jI v5)]) (st' := [jI v4, jI v3, jI v2, jR 66]) rfl (p1 := 113) rfl ?_
        obtain ⟨r11, h11, hf⟩ := jbd hf
        refine B_callV B (Nat.le_refl _) (μ' := r11.2) (k' := 4) (n' := 24) ca_X8_walkedEnd in_X8_walkedEnd se_X8_walkedEnd lk_X9_248 (t_X8_walkedEnd B.tr h11) (Nat.le_refl _) rfl rfl rfl (rest := []) rfl rfl (Nat.le_of_ble_eq_true rfl) (by decide +kernel) rfl rfl (st' := [jI r11.1]) rfl ?_
        cases hf
        exact B_retI B hq rfl (Nat.le_of_ble_eq_true rfl) (Nat.le_of_ble_eq_true rfl) (by decide +kernel)
      · refine B_blk B jlkX9_ok jcl_SKF [.aload_n 0, .getfield 49, .iload_n 2, .iload_n 3, .iload 4, .iload 5, .iconst 2] (by decide +kernel) (ls' := [(0, jR 0), (1, jI v1), (2, jI v2), (3, jI v3), (4, jI v4), (5, jI v5)]) (st' := [jI 2, jI v5, jI v4, jI v3, jI v2, jR 66]) rfl (p1 := 128) rfl ?_
        refine J_icmp_ne B.1 (off := 7) (tgt := 135) (by decide +kernel) (by decide) hf (fun hf => ?_) (fun hf => ?_)
        · refine B_blk B jlkX9_ok jcl_SKF [.iconst 1, .goto 4] (by decide +kernel) (ls' := [(0, jR 0), (1, jI v1), (2, jI v2), (3, jI v3), (4, jI v4), (5, jI v5)]) (st' := [jI 1, jI v4, jI v3, jI v2, jR 66]) rfl (p1 := 136) rfl ?_
          obtain ⟨r12, h12, hf⟩ := jbd hf
          refine B_callV B (Nat.le_refl _) (μ' := r12.2) (k' := 4) (n' := 24) ca_X8_bestOrder in_X8_bestOrder se_X8_bestOrder lk_X9_251 (t_X8_bestOrder B.tr h12) (Nat.le_refl _) rfl rfl rfl (rest := []) rfl rfl (Nat.le_of_ble_eq_true rfl) (by decide +kernel) rfl rfl (st' := [jI r12.1]) rfl ?_
          cases hf
          exact B_retI B hq rfl (Nat.le_of_ble_eq_true rfl) (Nat.le_of_ble_eq_true rfl) (by decide +kernel)
        · refine B_blk B jlkX9_ok jcl_SKF [.iconst 0] (by decide +kernel) (ls' := [(0, jR 0), (1, jI v1), (2, jI v2), (3, jI v3), (4, jI v4), (5, jI v5)]) (st' := [jI 0, jI v4, jI v3, jI v2, jR 66]) rfl (p1 := 136) rfl ?_
          obtain ⟨r13, h13, hf⟩ := jbd hf
          refine B_callV B (Nat.le_refl _) (μ' := r13.2) (k' := 4) (n' := 24) ca_X8_bestOrder in_X8_bestOrder se_X8_bestOrder lk_X9_251 (t_X8_bestOrder B.tr h13) (Nat.le_refl _) rfl rfl rfl (rest := []) rfl rfl (Nat.le_of_ble_eq_true rfl) (by decide +kernel) rfl rfl (st' := [jI r13.1]) rfl ?_
          cases hf
          exact B_retI B hq rfl (Nat.le_of_ble_eq_true rfl) (Nat.le_of_ble_eq_true rfl) (by decide +kernel)
theorem t_X9_order_J76 {X : jX} (B : jB X cX9_order RX9 6 SKF.length rm_X9_order (some .int)) (hno : ∀ x ∈ (xc X).exceptionTable.toList, False) (v1 : Int) (v2 : Int) (v3 : Int) (v4 : Int) (v5 : Int) (m : jMu) (r : (jOut Int)) (hf : f_X9_order_J76 v1 v2 v3 v4 v5 m = some r) (hq : jQ X (joI r) SKF (joM r) rm_X9_order.cells rm_X9_order.slots) : J X SKF m 2 12 76 [(0, jR 0), (1, jI v1), (2, jI v2), (3, jI v3), (4, jI v4), (5, jI v5)] [] := by
  unfold f_X9_order_J76 at hf
  refine B_blk B jlkX9_ok jcl_SKF [.iconst 0] (by decide +kernel) (ls' := [(0, jR 0), (1, jI v1), (2, jI v2), (3, jI v3), (4, jI v4), (5, jI v5)]) (st' := [jI 0]) rfl (p1 := 77) rfl ?_
  exact t_X9_order_J77 B hno v1 v2 v3 v4 v5 0 m _ hf hq
theorem t_X9_order_J33 {X : jX} (B : jB X cX9_order RX9 6 SKF.length rm_X9_order (some .int)) (hno : ∀ x ∈ (xc X).exceptionTable.toList, False) (v1 : Int) (v2 : Int) (v3 : Int) (v4 : Int) (v5 : Int) (s0 : Int) (m : jMu) (r : (jOut Int)) (hf : f_X9_order_J33 v1 v2 v3 v4 v5 s0 m = some r) (hq : jQ X (joI r) SKF (joM r) rm_X9_order.cells rm_X9_order.slots) : J X SKF m 0 0 33 [(0, jR 0), (1, jI v1), (2, jI v2), (3, jI v3), (4, jI v4), (5, jI v5)] [jI s0] := by
  unfold f_X9_order_J33 at hf
  rcases jthr_s hf with ⟨e2, h2, hf⟩ | ⟨r2, h2, hf⟩
  · cases hf
    exact B_callST B (Nat.le_refl _) hno hq ca_X9_needIndex sa_X9_needIndex lk_X9_125 (t_X9_needIndex B.tr h2) (Nat.le_refl _) rfl (rest := []) rfl rfl (Nat.le_of_ble_eq_true rfl) (by decide +kernel) (Nat.le_of_ble_eq_true rfl) (Nat.le_of_ble_eq_true rfl)
  · refine B_callS B (Nat.le_refl _) (μ' := r2.2) (k' := 1) (n' := 6) ca_X9_needIndex sa_X9_needIndex lk_X9_125 (t_X9_needIndex B.tr h2) (Nat.le_refl _) rfl (rest := []) rfl rfl (Nat.le_of_ble_eq_true rfl) (by decide +kernel) rfl rfl (st' := []) rfl ?_
    refine B_blk B jlkX9_ok jcl_SKF [.iload 4, .iconst 0, .sipush 2399] (by decide +kernel) (ls' := [(0, jR 0), (1, jI v1), (2, jI v2), (3, jI v3), (4, jI v4), (5, jI v5)]) (st' := [jI 2399, jI 0, jI v4]) rfl (p1 := 42) rfl ?_
    obtain ⟨r3, h3, hf⟩ := jbd hf
    refine B_callS B (Nat.le_refl _) (μ' := r2.2) (k' := 1) (n' := 6) ca_X9_isIn sa_X9_isIn lk_X9_93 (t_X9_isIn B.tr jcl_SKF h3) (Nat.le_refl _) rfl (rest := []) rfl rfl (Nat.le_of_ble_eq_true rfl) (by decide +kernel) rfl rfl (st' := [jI r3]) rfl ?_
    rcases jthr_s hf with ⟨e4, h4, hf⟩ | ⟨r4, h4, hf⟩
    · cases hf
      exact B_callST B (Nat.le_refl _) hno hq ca_X9_needIndex sa_X9_needIndex lk_X9_125 (t_X9_needIndex B.tr h4) (Nat.le_refl _) rfl (rest := []) rfl rfl (Nat.le_of_ble_eq_true rfl) (by decide +kernel) (Nat.le_of_ble_eq_true rfl) (Nat.le_of_ble_eq_true rfl)
    · refine B_callS B (Nat.le_refl _) (μ' := r4.2) (k' := 2) (n' := 12) ca_X9_needIndex sa_X9_needIndex lk_X9_125 (t_X9_needIndex B.tr h4) (Nat.le_refl _) rfl (rest := []) rfl rfl (Nat.le_of_ble_eq_true rfl) (by decide +kernel) rfl rfl (st' := []) rfl ?_
      refine B_blk B jlkX9_ok jcl_SKF [.iload_n 3, .iconst 1, .aload_n 0, .getfield 20] (by decide +kernel) (ls' := [(0, jR 0), (1, jI v1), (2, jI v2), (3, jI v3), (4, jI v4), (5, jI v5)]) (st' := [jR 1, jI 1, jI v3]) rfl (p1 := 54) rfl ?_
      obtain ⟨r5, h5, hf⟩ := jbd hf
      refine B_callV B (Nat.le_refl _) (μ' := r4.2) (k' := 2) (n' := 12) ca_X4_baySet in_X4_baySet se_X4_baySet lk_X9_240 (t_X4_baySet B.tr h5) (Nat.le_refl _) rfl rfl rfl (rest := [jI 1, jI v3]) rfl rfl (Nat.le_of_ble_eq_true rfl) (by decide +kernel) rfl rfl (st' := [jI r5, jI 1, jI v3]) rfl ?_
      obtain ⟨r6, h6, hf⟩ := jbd hf
      refine B_callS B (Nat.le_refl _) (μ' := r4.2) (k' := 2) (n' := 12) ca_X9_isIn sa_X9_isIn lk_X9_93 (t_X9_isIn B.tr jcl_SKF h6) (Nat.le_refl _) rfl (rest := []) rfl rfl (Nat.le_of_ble_eq_true rfl) (by decide +kernel) rfl rfl (st' := [jI r6]) rfl ?_
      refine J_if_eq B.1 (off := 16) (tgt := 76) (by decide +kernel) (by decide) hf (fun hf => ?_) (fun hf => ?_)
      · exact t_X9_order_J76 B hno v1 v2 v3 v4 v5 r4.2 _ hf hq
      · refine B_blk B jlkX9_ok jcl_SKF [.iload_n 3] (by decide +kernel) (ls' := [(0, jR 0), (1, jI v1), (2, jI v2), (3, jI v3), (4, jI v4), (5, jI v5)]) (st' := [jI v3]) rfl (p1 := 64) rfl ?_
        obtain ⟨r14, h14, hf⟩ := jbd hf
        refine B_callS B (Nat.le_refl _) (μ' := r4.2) (k' := 2) (n' := 12) ca_J6_bitCount_0f7a4 sa_J6_bitCount_0f7a4 lk_X9_243 (t_J6_bitCount_0f7a4 B.tr jcl_SKF h14) (Nat.le_refl _) rfl (rest := []) rfl rfl (Nat.le_of_ble_eq_true rfl) (by decide +kernel) rfl rfl (st' := [jI r14]) rfl ?_
        refine B_blk B jlkX9_ok jcl_SKF [.bipush 6] (by decide +kernel) (ls' := [(0, jR 0), (1, jI v1), (2, jI v2), (3, jI v3), (4, jI v4), (5, jI v5)]) (st' := [jI 6, jI r14]) rfl (p1 := 69) rfl ?_
        refine J_icmp_gt B.1 (off := 7) (tgt := 76) (by decide +kernel) (by decide) hf (fun hf => ?_) (fun hf => ?_)
        · exact t_X9_order_J76 B hno v1 v2 v3 v4 v5 r4.2 _ hf hq
        · refine B_blk B jlkX9_ok jcl_SKF [.iconst 1, .goto 4] (by decide +kernel) (ls' := [(0, jR 0), (1, jI v1), (2, jI v2), (3, jI v3), (4, jI v4), (5, jI v5)]) (st' := [jI 1]) rfl (p1 := 77) rfl ?_
          exact t_X9_order_J77 B hno v1 v2 v3 v4 v5 1 r4.2 _ hf hq
theorem t_X9_order_J32 {X : jX} (B : jB X cX9_order RX9 6 SKF.length rm_X9_order (some .int)) (hno : ∀ x ∈ (xc X).exceptionTable.toList, False) (v1 : Int) (v2 : Int) (v3 : Int) (v4 : Int) (v5 : Int) (m : jMu) (r : (jOut Int)) (hf : f_X9_order_J32 v1 v2 v3 v4 v5 m = some r) (hq : jQ X (joI r) SKF (joM r) rm_X9_order.cells rm_X9_order.slots) : J X SKF m 0 0 32 [(0, jR 0), (1, jI v1), (2, jI v2), (3, jI v3), (4, jI v4), (5, jI v5)] [] := by
  unfold f_X9_order_J32 at hf
  refine B_blk B jlkX9_ok jcl_SKF [.iconst 0] (by decide +kernel) (ls' := [(0, jR 0), (1, jI v1), (2, jI v2), (3, jI v3), (4, jI v4), (5, jI v5)]) (st' := [jI 0]) rfl (p1 := 33) rfl ?_
  exact t_X9_order_J33 B hno v1 v2 v3 v4 v5 0 m _ hf hq
theorem t_X9_order {l : Launch} {G : jG} (hl : l.stackTraces = false) {a0 : Int} {a1 : Int} {a2 : Int} {a3 : Int} {a4 : Int} {m : jMu} {r : (jOut Int)} (hf : f_X9_order a0 a1 a2 a3 a4 m = some r) : jCt l G yX9_order (.code yX9_order cX9_order 6 (some .int) :: jWG) rm_X9_order [jR 0, jI a0, jI a1, jI a2, jI a3, jI a4] SKF m (joI r) SKF (joM r) := by
  unfold f_X9_order at hf
  refine J_start (ls0 := [(0, jR 0), (1, jI a0), (2, jI a1), (3, jI a2), (4, jI a3), (5, jI a4)]) (by decide +kernel) hl (Nat.le_of_ble_eq_true rfl) rfl fun X C hN hn hR hr hnm hno hq => ?_
  have B : jB X cX9_order RX9 6 SKF.length rm_X9_order (some .int) := ⟨C, hN, Nat.le_of_eq hn, hR, hr⟩
  refine B_blk B jlkX9_ok jcl_SKF [.aload_n 0, .getfield 20, .getfield 158, .iload_n 1] (by decide +kernel) (ls' := [(0, jR 0), (1, jI a0), (2, jI a1), (3, jI a2), (4, jI a3), (5, jI a4)]) (st' := [jI a0, jR 14]) rfl (p1 := 8) rfl ?_
  obtain ⟨r1, h1, hf⟩ := jbd hf
  refine B_callV B (Nat.le_refl _) (μ' := m) (k' := 0) (n' := 0) ca_X5_has in_X5_has se_X5_has lk_X9_143 (t_X5_has B.tr jcl_SKF ⟨rfl, rfl, by decide⟩ h1) (Nat.le_refl _) rfl rfl rfl (rest := []) rfl rfl (Nat.le_of_ble_eq_true rfl) (by decide +kernel) rfl rfl (st' := [jI r1]) rfl ?_
  refine J_if_eq B.1 (off := 21) (tgt := 32) (by decide +kernel) (by decide) hf (fun hf => ?_) (fun hf => ?_)
  · exact t_X9_order_J32 B hno a0 a1 a2 a3 a4 m _ hf hq
  · refine B_blk B jlkX9_ok jcl_SKF [.aload_n 0, .getfield 20, .getfield 180, .iload_n 2] (by decide +kernel) (ls' := [(0, jR 0), (1, jI a0), (2, jI a1), (3, jI a2), (4, jI a3), (5, jI a4)]) (st' := [jI a1, jR 20]) rfl (p1 := 22) rfl ?_
    obtain ⟨r15, h15, hf⟩ := jbd hf
    refine B_callV B (Nat.le_refl _) (μ' := m) (k' := 0) (n' := 0) ca_X5_has in_X5_has se_X5_has lk_X9_143 (t_X5_has B.tr jcl_SKF ⟨rfl, rfl, by decide⟩ h15) (Nat.le_refl _) rfl rfl rfl (rest := []) rfl rfl (Nat.le_of_ble_eq_true rfl) (by decide +kernel) rfl rfl (st' := [jI r15]) rfl ?_
    refine J_if_eq B.1 (off := 7) (tgt := 32) (by decide +kernel) (by decide) hf (fun hf => ?_) (fun hf => ?_)
    · exact t_X9_order_J32 B hno a0 a1 a2 a3 a4 m _ hf hq
    · refine B_blk B jlkX9_ok jcl_SKF [.iconst 1, .goto 4] (by decide +kernel) (ls' := [(0, jR 0), (1, jI a0), (2, jI a1), (3, jI a2), (4, jI a3), (5, jI a4)]) (st' := [jI 1]) rfl (p1 := 33) rfl ?_
      exact t_X9_order_J33 B hno a0 a1 a2 a3 a4 1 m _ hf hq

def rm_X8_measurePuts : Room := { frames := 12, cells := 0, slots := 0, locals := 189 }
def f_X8_measurePuts_L34 : Nat → Int → Int → Int → Int → Int → Int → jMu → Option (Int × Int × Int × Int × jMu)
  | 0, _, _, _, _, _, _, _ => none
  | q + 1, v1, v2, v3, v4, v5, v6, m => (if 4 ≤ v6 then some (v1, v2, v3, v4, m) else (if 16 ≤ jW (jW (v3 * 4) + v6) then f_X8_measurePuts_L34 q v1 v2 v3 v4 v5 (jW (v6 + 1)) m else (f_X8_workEnd v4 v6 v5 m).bind fun r2 => (if 0 ≤ jW (jW (v3 * 4) + v6) ∧ jW (jW (v3 * 4) + v6) < 16 then (jlt (jup r2.2 69 (jW (jW (v3 * 4) + v6)) r2.1) fun m3 => f_X8_measurePuts_L34 q v1 v2 v3 v4 v5 (jW (v6 + 1)) m3) else none)))
def f_X8_measurePuts_L5 : Nat → Int → Int → Int → Int → jMu → Option jMu
  | 0, _, _, _, _, _ => none
  | q + 1, v1, v2, v3, v4, m => (if 8 ≤ v4 then some m else (if jAn (jSr v1 v4) 1 = 1 then (f_X8_firstMoment v4 v2 m).bind fun r1 => (f_X8_measurePuts_L34 jFU v1 v2 v3 v4 r1 0 m).bind fun r5 => f_X8_measurePuts_L5 q r5.1 r5.2.1 (jW (r5.2.2.1 + 1)) (jW (r5.2.2.2.1 + 1)) r5.2.2.2.2 else f_X8_measurePuts_L5 q v1 v2 v3 (jW (v4 + 1)) m))
def f_X8_measurePuts (a0 : Int) (a1 : Int) (m : jMu) : Option jMu :=
  f_X8_measurePuts_L5 jFU a0 a1 0 0 m
theorem t_X8_measurePuts_L34 {X : jX} (B : jB X cX8_measurePuts RX8 8 SKF.length rm_X8_measurePuts none) : ∀ (q : Nat) (v1 : Int) (v2 : Int) (v3 : Int) (v4 : Int) (v5 : Int) (v6 : Int) (m : jMu) (o : (Int × Int × Int × Int × jMu)), f_X8_measurePuts_L34 q v1 v2 v3 v4 v5 v6 m = some o → J X SKF o.2.2.2.2 0 0 81 [(0, jR 66), (1, jI o.1), (2, jI o.2.1), (3, jI o.2.2.1), (4, jI o.2.2.2.1)] [] → J X SKF m 0 0 34 [(0, jR 66), (1, jI v1), (2, jI v2), (3, jI v3), (4, jI v4), (5, jI v5), (6, jI v6)] [] := by
  intro q
  induction q with
  | zero =>
    intro v1 v2 v3 v4 v5 v6 m o hf
    rw [f_X8_measurePuts_L34] at hf
    cases hf
  | succ q ih =>
    intro v1 v2 v3 v4 v5 v6 m o hf hx
    rw [f_X8_measurePuts_L34] at hf
    refine B_blk B jlkX8_ok jcl_SKF [.iload 6, .iconst 4] (by decide +kernel) (ls' := [(0, jR 66), (1, jI v1), (2, jI v2), (3, jI v3), (4, jI v4), (5, jI v5), (6, jI v6)]) (st' := [jI 4, jI v6]) rfl (p1 := 37) rfl ?_
    refine J_icmp_ge B.1 (off := 44) (tgt := 81) (by decide +kernel) (by decide) hf (fun hf => ?_) (fun hf => ?_)
    · refine J_pick [0, 1, 2, 3, 4] (ls' := [(0, jR 66), (1, jI v1), (2, jI v2), (3, jI v3), (4, jI v4)]) rfl ?_
      cases hf
      exact hx
    · refine B_blk B jlkX8_ok jcl_SKF [.iload_n 3, .iconst 4, .imul, .iload 6, .iadd, .istore 7, .iload 7, .aload_n 0, .getfield 28, .arraylength] (by decide +kernel) (ls' := [(0, jR 66), (1, jI v1), (2, jI v2), (3, jI v3), (4, jI v4), (5, jI v5), (6, jI v6), (7, jI (jW (jW (v3 * 4) + v6)))]) (st' := [jI 16, jI (jW (jW (v3 * 4) + v6))]) rfl (p1 := 55) rfl ?_
      refine J_icmp_ge B.1 (off := 20) (tgt := 75) (by decide +kernel) (by decide) hf (fun hf => ?_) (fun hf => ?_)
      · refine B_blk B jlkX8_ok jcl_SKF [.iinc 6 1, .goto (-44)] (by decide +kernel) (ls' := [(0, jR 66), (1, jI v1), (2, jI v2), (3, jI v3), (4, jI v4), (5, jI v5), (6, jI (jW (v6 + 1))), (7, jI (jW (jW (v3 * 4) + v6)))]) (st' := []) rfl (p1 := 34) rfl ?_
        refine J_pick [0, 1, 2, 3, 4, 5, 6] (ls' := [(0, jR 66), (1, jI v1), (2, jI v2), (3, jI v3), (4, jI v4), (5, jI v5), (6, jI (jW (v6 + 1)))]) rfl ?_
        exact ih v1 v2 v3 v4 v5 (jW (v6 + 1)) m _ hf hx
      · refine B_blk B jlkX8_ok jcl_SKF [.aload_n 0, .getfield 28, .iload 7, .aload_n 0, .iload 4, .iload 6, .iload 5] (by decide +kernel) (ls' := [(0, jR 66), (1, jI v1), (2, jI v2), (3, jI v3), (4, jI v4), (5, jI v5), (6, jI v6), (7, jI (jW (jW (v3 * 4) + v6)))]) (st' := [jI v5, jI v6, jI v4, jR 66, jI (jW (jW (v3 * 4) + v6)), jR 69]) rfl (p1 := 71) rfl ?_
        obtain ⟨r2, h2, hf⟩ := jbd hf
        refine B_callV B (Nat.le_refl _) (μ' := r2.2) (k' := 0) (n' := 0) ca_X8_workEnd in_X8_workEnd se_X8_workEnd lk_X8_88 (t_X8_workEnd B.tr h2) (Nat.le_refl _) rfl rfl rfl (rest := [jI (jW (jW (v3 * 4) + v6)), jR 69]) rfl rfl (Nat.le_of_ble_eq_true rfl) (by decide +kernel) rfl rfl (st' := [jI r2.1, jI (jW (jW (v3 * 4) + v6)), jR 69]) rfl ?_
        obtain ⟨g4, hf⟩ := jgd hf
        refine K_iast (lenI := 16) B rfl rfl g4 (by decide +kernel) ?_
        obtain ⟨m3, hm3, hf⟩ := jlt_s hf
        rw [hm3]
        refine B_blk B jlkX8_ok jcl_SKF [.iinc 6 1, .goto (-44)] (by decide +kernel) (ls' := [(0, jR 66), (1, jI v1), (2, jI v2), (3, jI v3), (4, jI v4), (5, jI v5), (6, jI (jW (v6 + 1))), (7, jI (jW (jW (v3 * 4) + v6)))]) (st' := []) rfl (p1 := 34) rfl ?_
        refine J_pick [0, 1, 2, 3, 4, 5, 6] (ls' := [(0, jR 66), (1, jI v1), (2, jI v2), (3, jI v3), (4, jI v4), (5, jI v5), (6, jI (jW (v6 + 1)))]) rfl ?_
        exact ih v1 v2 v3 v4 v5 (jW (v6 + 1)) m3 _ hf hx
theorem t_X8_measurePuts_L5 {X : jX} (B : jB X cX8_measurePuts RX8 8 SKF.length rm_X8_measurePuts none) : ∀ (q : Nat) (v1 : Int) (v2 : Int) (v3 : Int) (v4 : Int) (m : jMu) (r : jMu), f_X8_measurePuts_L5 q v1 v2 v3 v4 m = some r → jQ X (.inl none) SKF r rm_X8_measurePuts.cells rm_X8_measurePuts.slots → J X SKF m 0 0 5 [(0, jR 66), (1, jI v1), (2, jI v2), (3, jI v3), (4, jI v4)] [] := by
  intro q
  induction q with
  | zero =>
    intro v1 v2 v3 v4 m r hf
    rw [f_X8_measurePuts_L5] at hf
    cases hf
  | succ q ih =>
    intro v1 v2 v3 v4 m r hf hq
    rw [f_X8_measurePuts_L5] at hf
    refine B_blk B jlkX8_ok jcl_SKF [.iload 4, .bipush 8] (by decide +kernel) (ls' := [(0, jR 66), (1, jI v1), (2, jI v2), (3, jI v3), (4, jI v4)]) (st' := [jI 8, jI v4]) rfl (p1 := 9) rfl ?_
    refine J_icmp_ge B.1 (off := 81) (tgt := 90) (by decide +kernel) (by decide) hf (fun hf => ?_) (fun hf => ?_)
    · cases hf
      exact B_retV B hq rfl (Nat.le_of_ble_eq_true rfl) (Nat.le_of_ble_eq_true rfl) (by decide +kernel)
    · refine B_blk B jlkX8_ok jcl_SKF [.iload_n 1, .iload 4, .ishr, .iconst 1, .iand, .iconst 1] (by decide +kernel) (ls' := [(0, jR 66), (1, jI v1), (2, jI v2), (3, jI v3), (4, jI v4)]) (st' := [jI 1, jI (jAn (jSr v1 v4) 1)]) rfl (p1 := 19) rfl ?_
      refine J_icmp_ne B.1 (off := 65) (tgt := 84) (by decide +kernel) (by decide) hf (fun hf => ?_) (fun hf => ?_)
      · refine B_blk B jlkX8_ok jcl_SKF [.aload_n 0, .iload 4, .iload_n 2] (by decide +kernel) (ls' := [(0, jR 66), (1, jI v1), (2, jI v2), (3, jI v3), (4, jI v4)]) (st' := [jI v2, jI v4, jR 66]) rfl (p1 := 26) rfl ?_
        obtain ⟨r1, h1, hf⟩ := jbd hf
        refine B_callV B (Nat.le_refl _) (μ' := m) (k' := 0) (n' := 0) ca_X8_firstMoment in_X8_firstMoment se_X8_firstMoment lk_X8_85 (t_X8_firstMoment B.tr h1) (Nat.le_refl _) rfl rfl rfl (rest := []) rfl rfl (Nat.le_of_ble_eq_true rfl) (by decide +kernel) rfl rfl (st' := [jI r1]) rfl ?_
        refine B_blk B jlkX8_ok jcl_SKF [.istore 5, .iconst 0, .istore 6] (by decide +kernel) (ls' := [(0, jR 66), (1, jI v1), (2, jI v2), (3, jI v3), (4, jI v4), (5, jI r1), (6, jI 0)]) (st' := []) rfl (p1 := 34) rfl ?_
        obtain ⟨r5, h5, hf⟩ := jbd hf
        refine t_X8_measurePuts_L34 B jFU v1 v2 v3 v4 r1 0 m _ h5 ?_
        refine B_blk B jlkX8_ok jcl_SKF [.iinc 3 1, .iinc 4 1, .goto (-82)] (by decide +kernel) (ls' := [(0, jR 66), (1, jI r5.1), (2, jI r5.2.1), (3, jI (jW (r5.2.2.1 + 1))), (4, jI (jW (r5.2.2.2.1 + 1)))]) (st' := []) rfl (p1 := 5) rfl ?_
        exact ih r5.1 r5.2.1 (jW (r5.2.2.1 + 1)) (jW (r5.2.2.2.1 + 1)) r5.2.2.2.2 _ hf hq
      · refine B_blk B jlkX8_ok jcl_SKF [.iinc 4 1, .goto (-82)] (by decide +kernel) (ls' := [(0, jR 66), (1, jI v1), (2, jI v2), (3, jI v3), (4, jI (jW (v4 + 1)))]) (st' := []) rfl (p1 := 5) rfl ?_
        exact ih v1 v2 v3 (jW (v4 + 1)) m _ hf hq
theorem t_X8_measurePuts {l : Launch} {G : jG} (hl : l.stackTraces = false) {a0 : Int} {a1 : Int} {m : jMu} {r : jMu} (hf : f_X8_measurePuts a0 a1 m = some r) : jCt l G yX8_measurePuts (.code yX8_measurePuts cX8_measurePuts 8 none :: jWG) rm_X8_measurePuts [jR 66, jI a0, jI a1] SKF m (.inl none) SKF r := by
  unfold f_X8_measurePuts at hf
  refine J_start (ls0 := [(0, jR 66), (1, jI a0), (2, jI a1)]) (by decide +kernel) hl (Nat.le_of_ble_eq_true rfl) rfl fun X C hN hn hR hr hnm hno hq => ?_
  have B : jB X cX8_measurePuts RX8 8 SKF.length rm_X8_measurePuts none := ⟨C, hN, Nat.le_of_eq hn, hR, hr⟩
  refine B_blk B jlkX8_ok jcl_SKF [.iconst 0, .istore_n 3, .iconst 0, .istore 4] (by decide +kernel) (ls' := [(0, jR 66), (1, jI a0), (2, jI a1), (3, jI 0), (4, jI 0)]) (st' := []) rfl (p1 := 5) rfl ?_
  exact t_X8_measurePuts_L5 B jFU a0 a1 0 0 m _ hf hq

def rm_X8_endsTogether : Room := { frames := 2, cells := 0, slots := 0, locals := 64 }
def f_X8_endsTogether_L8 : Nat → Int → Int → Int → Int → Int → jMu → Option Int
  | 0, _, _, _, _, _, _ => none
  | q + 1, v1, v2, v3, v4, v5, m => (if v2 ≤ v5 then some v4 else (jlt (jAn (jSr v1 (jW (2 * jW (jW (v2 - 1) - v5)))) 3) fun x1 => (if 16 ≤ jW (jW (v5 * 4) + x1) then some (-1) else (if 0 ≤ jW (jW (v5 * 4) + x1) ∧ jW (jW (v5 * 4) + x1) < 16 then (if m 69 (jW (jW (v5 * 4) + x1)) = (-1) then some (-1) else (if jAn (jSr v3 x1) 1 = 1 then some (-1) else f_X8_endsTogether_L8 q v1 v2 (jOr v3 (jSl 1 x1)) (jW (v4 + m 69 (jW (jW (v5 * 4) + x1)))) (jW (v5 + 1)) m)) else none))))
def f_X8_endsTogether (a0 : Int) (a1 : Int) (m : jMu) : Option Int :=
  f_X8_endsTogether_L8 jFU a0 a1 0 0 0 m
theorem t_X8_endsTogether_L8 {X : jX} (B : jB X cX8_endsTogether RX8 9 SKF.length rm_X8_endsTogether (some .int)) : ∀ (q : Nat) (v1 : Int) (v2 : Int) (v3 : Int) (v4 : Int) (v5 : Int) (m : jMu) (r : Int), f_X8_endsTogether_L8 q v1 v2 v3 v4 v5 m = some r → jQ X (.inl (some (jI r))) SKF m rm_X8_endsTogether.cells rm_X8_endsTogether.slots → J X SKF m 0 0 8 [(0, jR 66), (1, jI v1), (2, jI v2), (3, jI v3), (4, jI v4), (5, jI v5)] [] := by
  intro q
  induction q with
  | zero =>
    intro v1 v2 v3 v4 v5 m r hf
    rw [f_X8_endsTogether_L8] at hf
    cases hf
  | succ q ih =>
    intro v1 v2 v3 v4 v5 m r hf hq
    rw [f_X8_endsTogether_L8] at hf
    refine B_blk B jlkX8_ok jcl_SKF [.iload 5, .iload_n 2] (by decide +kernel) (ls' := [(0, jR 66), (1, jI v1), (2, jI v2), (3, jI v3), (4, jI v4), (5, jI v5)]) (st' := [jI v2, jI v5]) rfl (p1 := 11) rfl ?_
    refine J_icmp_ge B.1 (off := 87) (tgt := 98) (by decide +kernel) (by decide) hf (fun hf => ?_) (fun hf => ?_)
    · refine B_blk B jlkX8_ok jcl_SKF [.iload 4] (by decide +kernel) (ls' := [(0, jR 66), (1, jI v1), (2, jI v2), (3, jI v3), (4, jI v4), (5, jI v5)]) (st' := [jI v4]) rfl (p1 := 100) rfl ?_
      cases hf
      exact B_retI B hq rfl (Nat.le_of_ble_eq_true rfl) (Nat.le_of_ble_eq_true rfl) (by decide +kernel)
    · refine B_blk B jlkX8_ok jcl_SKF [.iload_n 1, .iconst 2, .iload_n 2, .iconst 1, .isub, .iload 5, .isub, .imul, .ishr, .iconst 3, .iand, .istore 6] (by decide +kernel) (ls' := [(0, jR 66), (1, jI v1), (2, jI v2), (3, jI v3), (4, jI v4), (5, jI v5), (6, jI (jAn (jSr v1 (jW (2 * jW (jW (v2 - 1) - v5)))) 3))]) (st' := []) rfl (p1 := 28) rfl ?_
      obtain ⟨x1, hx1, hf⟩ := jlt_s hf
      rw [hx1]
      refine B_blk B jlkX8_ok jcl_SKF [.iload 5, .iconst 4, .imul, .iload 6, .iadd, .istore 7, .iload 7, .aload_n 0, .getfield 28, .arraylength] (by decide +kernel) (ls' := [(0, jR 66), (1, jI v1), (2, jI v2), (3, jI v3), (4, jI v4), (5, jI v5), (6, jI x1), (7, jI (jW (jW (v5 * 4) + x1)))]) (st' := [jI 16, jI (jW (jW (v5 * 4) + x1))]) rfl (p1 := 44) rfl ?_
      refine J_icmp_ge B.1 (off := 13) (tgt := 57) (by decide +kernel) (by decide) hf (fun hf => ?_) (fun hf => ?_)
      · refine B_blk B jlkX8_ok jcl_SKF [.iconst (-1), .istore 8, .iload 8, .iconst (-1)] (by decide +kernel) (ls' := [(0, jR 66), (1, jI v1), (2, jI v2), (3, jI v3), (4, jI v4), (5, jI v5), (6, jI x1), (7, jI (jW (jW (v5 * 4) + x1))), (8, jI (-1))]) (st' := [jI (-1), jI (-1)]) rfl (p1 := 63) rfl ?_
        refine J_icmp_eq (T := some ()) (F := none) (r := ()) B.1 (off := 13) (tgt := 76) (by decide +kernel) (by decide) (if_pos (by decide)) (fun _ => ?_) (fun h => nomatch h)
        refine B_blk B jlkX8_ok jcl_SKF [.iconst (-1)] (by decide +kernel) (ls' := [(0, jR 66), (1, jI v1), (2, jI v2), (3, jI v3), (4, jI v4), (5, jI v5), (6, jI x1), (7, jI (jW (jW (v5 * 4) + x1))), (8, jI (-1))]) (st' := [jI (-1)]) rfl (p1 := 77) rfl ?_
        cases hf
        exact B_retI B hq rfl (Nat.le_of_ble_eq_true rfl) (Nat.le_of_ble_eq_true rfl) (by decide +kernel)
      · refine B_blk B jlkX8_ok jcl_SKF [.aload_n 0, .getfield 28, .iload 7] (by decide +kernel) (ls' := [(0, jR 66), (1, jI v1), (2, jI v2), (3, jI v3), (4, jI v4), (5, jI v5), (6, jI x1), (7, jI (jW (jW (v5 * 4) + x1)))]) (st' := [jI (jW (jW (v5 * 4) + x1)), jR 69]) rfl (p1 := 53) rfl ?_
        obtain ⟨g2, hf⟩ := jgd hf
        refine K_iald (lenI := 16) B rfl rfl g2 (by decide +kernel) ?_
        refine B_blk B jlkX8_ok jcl_SKF [.goto 4, .istore 8, .iload 8, .iconst (-1)] (by decide +kernel) (ls' := [(0, jR 66), (1, jI v1), (2, jI v2), (3, jI v3), (4, jI v4), (5, jI v5), (6, jI x1), (7, jI (jW (jW (v5 * 4) + x1))), (8, jI (m 69 (jW (jW (v5 * 4) + x1))))]) (st' := [jI (-1), jI (m 69 (jW (jW (v5 * 4) + x1)))]) rfl (p1 := 63) rfl ?_
        refine J_icmp_eq B.1 (off := 13) (tgt := 76) (by decide +kernel) (by decide) hf (fun hf => ?_) (fun hf => ?_)
        · refine B_blk B jlkX8_ok jcl_SKF [.iconst (-1)] (by decide +kernel) (ls' := [(0, jR 66), (1, jI v1), (2, jI v2), (3, jI v3), (4, jI v4), (5, jI v5), (6, jI x1), (7, jI (jW (jW (v5 * 4) + x1))), (8, jI (m 69 (jW (jW (v5 * 4) + x1))))]) (st' := [jI (-1)]) rfl (p1 := 77) rfl ?_
          cases hf
          exact B_retI B hq rfl (Nat.le_of_ble_eq_true rfl) (Nat.le_of_ble_eq_true rfl) (by decide +kernel)
        · refine B_blk B jlkX8_ok jcl_SKF [.iload_n 3, .iload 6, .ishr, .iconst 1, .iand, .iconst 1] (by decide +kernel) (ls' := [(0, jR 66), (1, jI v1), (2, jI v2), (3, jI v3), (4, jI v4), (5, jI v5), (6, jI x1), (7, jI (jW (jW (v5 * 4) + x1))), (8, jI (m 69 (jW (jW (v5 * 4) + x1))))]) (st' := [jI 1, jI (jAn (jSr v3 x1) 1)]) rfl (p1 := 73) rfl ?_
          refine J_icmp_ne B.1 (off := 5) (tgt := 78) (by decide +kernel) (by decide) hf (fun hf => ?_) (fun hf => ?_)
          · refine B_blk B jlkX8_ok jcl_SKF [.iconst (-1)] (by decide +kernel) (ls' := [(0, jR 66), (1, jI v1), (2, jI v2), (3, jI v3), (4, jI v4), (5, jI v5), (6, jI x1), (7, jI (jW (jW (v5 * 4) + x1))), (8, jI (m 69 (jW (jW (v5 * 4) + x1))))]) (st' := [jI (-1)]) rfl (p1 := 77) rfl ?_
            cases hf
            exact B_retI B hq rfl (Nat.le_of_ble_eq_true rfl) (Nat.le_of_ble_eq_true rfl) (by decide +kernel)
          · refine B_blk B jlkX8_ok jcl_SKF [.iload_n 3, .iconst 1, .iload 6, .ishl, .ior, .istore_n 3, .iload 4, .iload 8, .iadd, .istore 4, .iinc 5 1, .goto (-87)] (by decide +kernel) (ls' := [(0, jR 66), (1, jI v1), (2, jI v2), (3, jI (jOr v3 (jSl 1 x1))), (4, jI (jW (v4 + m 69 (jW (jW (v5 * 4) + x1))))), (5, jI (jW (v5 + 1))), (6, jI x1), (7, jI (jW (jW (v5 * 4) + x1))), (8, jI (m 69 (jW (jW (v5 * 4) + x1))))]) (st' := []) rfl (p1 := 8) rfl ?_
            refine J_pick [0, 1, 2, 3, 4, 5] (ls' := [(0, jR 66), (1, jI v1), (2, jI v2), (3, jI (jOr v3 (jSl 1 x1))), (4, jI (jW (v4 + m 69 (jW (jW (v5 * 4) + x1))))), (5, jI (jW (v5 + 1)))]) rfl ?_
            exact ih v1 v2 (jOr v3 (jSl 1 x1)) (jW (v4 + m 69 (jW (jW (v5 * 4) + x1)))) (jW (v5 + 1)) m _ hf hq
theorem t_X8_endsTogether {l : Launch} {G : jG} (hl : l.stackTraces = false) {a0 : Int} {a1 : Int} {m : jMu} {r : Int} (hf : f_X8_endsTogether a0 a1 m = some r) : jCt l G yX8_endsTogether (.code yX8_endsTogether cX8_endsTogether 9 (some .int) :: jWG) rm_X8_endsTogether [jR 66, jI a0, jI a1] SKF m (.inl (some (jI r))) SKF m := by
  unfold f_X8_endsTogether at hf
  refine J_start (ls0 := [(0, jR 66), (1, jI a0), (2, jI a1)]) (by decide +kernel) hl (Nat.le_of_ble_eq_true rfl) rfl fun X C hN hn hR hr hnm hno hq => ?_
  have B : jB X cX8_endsTogether RX8 9 SKF.length rm_X8_endsTogether (some .int) := ⟨C, hN, Nat.le_of_eq hn, hR, hr⟩
  refine B_blk B jlkX8_ok jcl_SKF [.iconst 0, .istore_n 3, .iconst 0, .istore 4, .iconst 0, .istore 5] (by decide +kernel) (ls' := [(0, jR 66), (1, jI a0), (2, jI a1), (3, jI 0), (4, jI 0), (5, jI 0)]) (st' := []) rfl (p1 := 8) rfl ?_
  exact t_X8_endsTogether_L8 B jFU a0 a1 0 0 0 m _ hf hq

def rm_X8_putGangs : Room := { frames := 14, cells := 0, slots := 0, locals := 216 }
def f_X8_putGangs_L45 : Nat → Int → Int → Int → Int → Int → Int → jMu → Option (Int × jMu)
  | 0, _, _, _, _, _, _, _ => none
  | q + 1, v1, v3, v4, v5, v6, v7, m => (if jSl 1 (jW (2 * v4)) ≤ v7 then (if v5 = (-1) then (if v5 = (-1) then some ((-1), m) else some (v6, m)) else (if v3 = (-1) then (if v5 = (-1) then some ((-1), m) else some (v6, m)) else (if jAn (jSr v1 v3) 1 = 0 then some ((-1), m) else (f_J6_bitCount_0f7a4 (jSr v1 v3)).bind fun r4 => some (jAn (jSr v5 (jW (2 * jW (r4 - 1)))) 3, m)))) else (f_X8_endsTogether v7 v4 m).bind fun r5 => (if r5 = (-1) then f_X8_putGangs_L45 q v1 v3 v4 v5 v6 (jW (v7 + 1)) m else (if v6 ≤ r5 then f_X8_putGangs_L45 q v1 v3 v4 v5 v6 (jW (v7 + 1)) m else f_X8_putGangs_L45 q v1 v3 v4 v7 r5 (jW (v7 + 1)) m)))
def f_X8_putGangs (a0 : Int) (a1 : Int) (a2 : Int) (m : jMu) : Option (Int × jMu) :=
  (f_J6_bitCount_0f7a4 a0).bind fun r1 => (f_X5_size 20 21 4 m).bind fun r2 => (if r2 < r1 then some ((-1), m) else (if r1 ≤ 4 then (f_X8_measurePuts a0 a1 m).bind fun r3 => f_X8_putGangs_L45 jFU a0 a2 r1 (-1) 1000000000 0 r3 else some ((-1), m)))
theorem t_X8_putGangs_L45 {X : jX} (B : jB X cX8_putGangs RX8 9 SKF.length rm_X8_putGangs (some .int)) : ∀ (q : Nat) (v1 : Int) (v3 : Int) (v4 : Int) (v5 : Int) (v6 : Int) (v7 : Int) (m : jMu) (r : (Int × jMu)), f_X8_putGangs_L45 q v1 v3 v4 v5 v6 v7 m = some r → jQ X (.inl (some (jI r.1))) SKF r.2 rm_X8_putGangs.cells rm_X8_putGangs.slots → J X SKF m 0 0 45 [(0, jR 66), (1, jI v1), (3, jI v3), (4, jI v4), (5, jI v5), (6, jI v6), (7, jI v7)] [] := by
  intro q
  induction q with
  | zero =>
    intro v1 v3 v4 v5 v6 v7 m r hf
    rw [f_X8_putGangs_L45] at hf
    cases hf
  | succ q ih =>
    intro v1 v3 v4 v5 v6 v7 m r hf hq
    rw [f_X8_putGangs_L45] at hf
    refine B_blk B jlkX8_ok jcl_SKF [.iload 7, .iconst 1, .iconst 2, .iload 4, .imul, .ishl] (by decide +kernel) (ls' := [(0, jR 66), (1, jI v1), (3, jI v3), (4, jI v4), (5, jI v5), (6, jI v6), (7, jI v7)]) (st' := [jI (jSl 1 (jW (2 * v4))), jI v7]) rfl (p1 := 53) rfl ?_
    refine J_icmp_ge B.1 (off := 40) (tgt := 93) (by decide +kernel) (by decide) hf (fun hf => ?_) (fun hf => ?_)
    · refine B_blk B jlkX8_ok jcl_SKF [.iload 5, .iconst (-1)] (by decide +kernel) (ls' := [(0, jR 66), (1, jI v1), (3, jI v3), (4, jI v4), (5, jI v5), (6, jI v6), (7, jI v7)]) (st' := [jI (-1), jI v5]) rfl (p1 := 96) rfl ?_
      refine J_icmp_eq B.1 (off := 8) (tgt := 104) (by decide +kernel) (by decide) hf (fun hf => ?_) (fun hf => ?_)
      · refine B_blk B jlkX8_ok jcl_SKF [.iload 5, .iconst (-1)] (by decide +kernel) (ls' := [(0, jR 66), (1, jI v1), (3, jI v3), (4, jI v4), (5, jI v5), (6, jI v6), (7, jI v7)]) (st' := [jI (-1), jI v5]) rfl (p1 := 107) rfl ?_
        refine J_icmp_ne B.1 (off := 7) (tgt := 114) (by decide +kernel) (by decide) hf (fun hf => ?_) (fun hf => ?_)
        · refine B_blk B jlkX8_ok jcl_SKF [.iconst (-1), .goto 5] (by decide +kernel) (ls' := [(0, jR 66), (1, jI v1), (3, jI v3), (4, jI v4), (5, jI v5), (6, jI v6), (7, jI v7)]) (st' := [jI (-1)]) rfl (p1 := 116) rfl ?_
          cases hf
          exact B_retI B hq rfl (Nat.le_of_ble_eq_true rfl) (Nat.le_of_ble_eq_true rfl) (by decide +kernel)
        · refine B_blk B jlkX8_ok jcl_SKF [.iload 6] (by decide +kernel) (ls' := [(0, jR 66), (1, jI v1), (3, jI v3), (4, jI v4), (5, jI v5), (6, jI v6), (7, jI v7)]) (st' := [jI v6]) rfl (p1 := 116) rfl ?_
          cases hf
          exact B_retI B hq rfl (Nat.le_of_ble_eq_true rfl) (Nat.le_of_ble_eq_true rfl) (by decide +kernel)
      · refine B_blk B jlkX8_ok jcl_SKF [.iload_n 3, .iconst (-1)] (by decide +kernel) (ls' := [(0, jR 66), (1, jI v1), (3, jI v3), (4, jI v4), (5, jI v5), (6, jI v6), (7, jI v7)]) (st' := [jI (-1), jI v3]) rfl (p1 := 101) rfl ?_
        refine J_icmp_ne B.1 (off := 16) (tgt := 117) (by decide +kernel) (by decide) hf (fun hf => ?_) (fun hf => ?_)
        · refine B_blk B jlkX8_ok jcl_SKF [.iload 5, .iconst (-1)] (by decide +kernel) (ls' := [(0, jR 66), (1, jI v1), (3, jI v3), (4, jI v4), (5, jI v5), (6, jI v6), (7, jI v7)]) (st' := [jI (-1), jI v5]) rfl (p1 := 107) rfl ?_
          refine J_icmp_ne B.1 (off := 7) (tgt := 114) (by decide +kernel) (by decide) hf (fun hf => ?_) (fun hf => ?_)
          · refine B_blk B jlkX8_ok jcl_SKF [.iconst (-1), .goto 5] (by decide +kernel) (ls' := [(0, jR 66), (1, jI v1), (3, jI v3), (4, jI v4), (5, jI v5), (6, jI v6), (7, jI v7)]) (st' := [jI (-1)]) rfl (p1 := 116) rfl ?_
            cases hf
            exact B_retI B hq rfl (Nat.le_of_ble_eq_true rfl) (Nat.le_of_ble_eq_true rfl) (by decide +kernel)
          · refine B_blk B jlkX8_ok jcl_SKF [.iload 6] (by decide +kernel) (ls' := [(0, jR 66), (1, jI v1), (3, jI v3), (4, jI v4), (5, jI v5), (6, jI v6), (7, jI v7)]) (st' := [jI v6]) rfl (p1 := 116) rfl ?_
            cases hf
            exact B_retI B hq rfl (Nat.le_of_ble_eq_true rfl) (Nat.le_of_ble_eq_true rfl) (by decide +kernel)
        · refine B_blk B jlkX8_ok jcl_SKF [.iload_n 1, .iload_n 3, .ishr, .iconst 1, .iand] (by decide +kernel) (ls' := [(0, jR 66), (1, jI v1), (3, jI v3), (4, jI v4), (5, jI v5), (6, jI v6), (7, jI v7)]) (st' := [jI (jAn (jSr v1 v3) 1)]) rfl (p1 := 122) rfl ?_
          refine J_if_ne B.1 (off := 5) (tgt := 127) (by decide +kernel) (by decide) hf (fun hf => ?_) (fun hf => ?_)
          · refine B_blk B jlkX8_ok jcl_SKF [.iconst (-1)] (by decide +kernel) (ls' := [(0, jR 66), (1, jI v1), (3, jI v3), (4, jI v4), (5, jI v5), (6, jI v6), (7, jI v7)]) (st' := [jI (-1)]) rfl (p1 := 126) rfl ?_
            cases hf
            exact B_retI B hq rfl (Nat.le_of_ble_eq_true rfl) (Nat.le_of_ble_eq_true rfl) (by decide +kernel)
          · refine B_blk B jlkX8_ok jcl_SKF [.iload_n 1, .iload_n 3, .ishr] (by decide +kernel) (ls' := [(0, jR 66), (1, jI v1), (3, jI v3), (4, jI v4), (5, jI v5), (6, jI v6), (7, jI v7)]) (st' := [jI (jSr v1 v3)]) rfl (p1 := 130) rfl ?_
            obtain ⟨r4, h4, hf⟩ := jbd hf
            refine B_callS B (Nat.le_refl _) (μ' := m) (k' := 0) (n' := 0) ca_J6_bitCount_0f7a4 sa_J6_bitCount_0f7a4 lk_X8_96 (t_J6_bitCount_0f7a4 B.tr jcl_SKF h4) (Nat.le_refl _) rfl (rest := []) rfl rfl (Nat.le_of_ble_eq_true rfl) (by decide +kernel) rfl rfl (st' := [jI r4]) rfl ?_
            refine B_blk B jlkX8_ok jcl_SKF [.iconst 1, .isub, .istore 7, .iload 5, .iconst 2, .iload 7, .imul, .ishr, .iconst 3, .iand] (by decide +kernel) (ls' := [(0, jR 66), (1, jI v1), (3, jI v3), (4, jI v4), (5, jI v5), (6, jI v6), (7, jI (jW (r4 - 1)))]) (st' := [jI (jAn (jSr v5 (jW (2 * jW (r4 - 1)))) 3)]) rfl (p1 := 146) rfl ?_
            cases hf
            exact B_retI B hq rfl (Nat.le_of_ble_eq_true rfl) (Nat.le_of_ble_eq_true rfl) (by decide +kernel)
    · refine B_blk B jlkX8_ok jcl_SKF [.aload_n 0, .iload 7, .iload 4] (by decide +kernel) (ls' := [(0, jR 66), (1, jI v1), (3, jI v3), (4, jI v4), (5, jI v5), (6, jI v6), (7, jI v7)]) (st' := [jI v4, jI v7, jR 66]) rfl (p1 := 61) rfl ?_
      obtain ⟨r5, h5, hf⟩ := jbd hf
      refine B_callV B (Nat.le_refl _) (μ' := m) (k' := 0) (n' := 0) ca_X8_endsTogether in_X8_endsTogether se_X8_endsTogether lk_X8_105 (t_X8_endsTogether B.tr h5) (Nat.le_refl _) rfl rfl rfl (rest := []) rfl rfl (Nat.le_of_ble_eq_true rfl) (by decide +kernel) rfl rfl (st' := [jI r5]) rfl ?_
      refine B_blk B jlkX8_ok jcl_SKF [.istore 8, .iload 8, .iconst (-1)] (by decide +kernel) (ls' := [(0, jR 66), (1, jI v1), (3, jI v3), (4, jI v4), (5, jI v5), (6, jI v6), (7, jI v7), (8, jI r5)]) (st' := [jI (-1), jI r5]) rfl (p1 := 69) rfl ?_
      refine J_icmp_eq B.1 (off := 18) (tgt := 87) (by decide +kernel) (by decide) hf (fun hf => ?_) (fun hf => ?_)
      · refine B_blk B jlkX8_ok jcl_SKF [.iinc 7 1, .goto (-45)] (by decide +kernel) (ls' := [(0, jR 66), (1, jI v1), (3, jI v3), (4, jI v4), (5, jI v5), (6, jI v6), (7, jI (jW (v7 + 1))), (8, jI r5)]) (st' := []) rfl (p1 := 45) rfl ?_
        refine J_pick [0, 1, 2, 3, 4, 5, 6] (ls' := [(0, jR 66), (1, jI v1), (3, jI v3), (4, jI v4), (5, jI v5), (6, jI v6), (7, jI (jW (v7 + 1)))]) rfl ?_
        exact ih v1 v3 v4 v5 v6 (jW (v7 + 1)) m _ hf hq
      · refine B_blk B jlkX8_ok jcl_SKF [.iload 8, .iload 6] (by decide +kernel) (ls' := [(0, jR 66), (1, jI v1), (3, jI v3), (4, jI v4), (5, jI v5), (6, jI v6), (7, jI v7), (8, jI r5)]) (st' := [jI v6, jI r5]) rfl (p1 := 76) rfl ?_
        refine J_icmp_ge B.1 (off := 11) (tgt := 87) (by decide +kernel) (by decide) hf (fun hf => ?_) (fun hf => ?_)
        · refine B_blk B jlkX8_ok jcl_SKF [.iinc 7 1, .goto (-45)] (by decide +kernel) (ls' := [(0, jR 66), (1, jI v1), (3, jI v3), (4, jI v4), (5, jI v5), (6, jI v6), (7, jI (jW (v7 + 1))), (8, jI r5)]) (st' := []) rfl (p1 := 45) rfl ?_
          refine J_pick [0, 1, 2, 3, 4, 5, 6] (ls' := [(0, jR 66), (1, jI v1), (3, jI v3), (4, jI v4), (5, jI v5), (6, jI v6), (7, jI (jW (v7 + 1)))]) rfl ?_
          exact ih v1 v3 v4 v5 v6 (jW (v7 + 1)) m _ hf hq
        · refine B_blk B jlkX8_ok jcl_SKF [.iload 7, .istore 5, .iload 8, .istore 6, .iinc 7 1, .goto (-45)] (by decide +kernel) (ls' := [(0, jR 66), (1, jI v1), (3, jI v3), (4, jI v4), (5, jI v7), (6, jI r5), (7, jI (jW (v7 + 1))), (8, jI r5)]) (st' := []) rfl (p1 := 45) rfl ?_
          refine J_pick [0, 1, 2, 3, 4, 5, 6] (ls' := [(0, jR 66), (1, jI v1), (3, jI v3), (4, jI v4), (5, jI v7), (6, jI r5), (7, jI (jW (v7 + 1)))]) rfl ?_
          exact ih v1 v3 v4 v7 r5 (jW (v7 + 1)) m _ hf hq
theorem t_X8_putGangs {l : Launch} {G : jG} (hl : l.stackTraces = false) {a0 : Int} {a1 : Int} {a2 : Int} {m : jMu} {r : (Int × jMu)} (hf : f_X8_putGangs a0 a1 a2 m = some r) : jCt l G yX8_putGangs (.code yX8_putGangs cX8_putGangs 9 (some .int) :: jWG) rm_X8_putGangs [jR 66, jI a0, jI a1, jI a2] SKF m (.inl (some (jI r.1))) SKF r.2 := by
  unfold f_X8_putGangs at hf
  refine J_start (ls0 := [(0, jR 66), (1, jI a0), (2, jI a1), (3, jI a2)]) (by decide +kernel) hl (Nat.le_of_ble_eq_true rfl) rfl fun X C hN hn hR hr hnm hno hq => ?_
  have B : jB X cX8_putGangs RX8 9 SKF.length rm_X8_putGangs (some .int) := ⟨C, hN, Nat.le_of_eq hn, hR, hr⟩
  refine B_blk B jlkX8_ok jcl_SKF [.iload_n 1] (by decide +kernel) (ls' := [(0, jR 66), (1, jI a0), (2, jI a1), (3, jI a2)]) (st' := [jI a0]) rfl (p1 := 1) rfl ?_
  obtain ⟨r1, h1, hf⟩ := jbd hf
  refine B_callS B (Nat.le_refl _) (μ' := m) (k' := 0) (n' := 0) ca_J6_bitCount_0f7a4 sa_J6_bitCount_0f7a4 lk_X8_96 (t_J6_bitCount_0f7a4 B.tr jcl_SKF h1) (Nat.le_refl _) rfl (rest := []) rfl rfl (Nat.le_of_ble_eq_true rfl) (by decide +kernel) rfl rfl (st' := [jI r1]) rfl ?_
  refine B_blk B jlkX8_ok jcl_SKF [.istore 4, .iload 4, .aload_n 0, .getfield 9, .getfield 72] (by decide +kernel) (ls' := [(0, jR 66), (1, jI a0), (2, jI a1), (3, jI a2), (4, jI r1)]) (st' := [jR 20, jI r1]) rfl (p1 := 15) rfl ?_
  obtain ⟨r2, h2, hf⟩ := jbd hf
  refine B_callV B (Nat.le_refl _) (μ' := m) (k' := 0) (n' := 0) ca_X5_size in_X5_size se_X5_size lk_X8_49 (t_X5_size B.tr jcl_SKF ⟨rfl, rfl, by decide⟩ h2) (Nat.le_refl _) rfl rfl rfl (rest := [jI r1]) rfl rfl (Nat.le_of_ble_eq_true rfl) (by decide +kernel) rfl rfl (st' := [jI r2, jI r1]) rfl ?_
  refine J_icmp_gt B.1 (off := 9) (tgt := 27) (by decide +kernel) (by decide) hf (fun hf => ?_) (fun hf => ?_)
  · refine B_blk B jlkX8_ok jcl_SKF [.iconst (-1)] (by decide +kernel) (ls' := [(0, jR 66), (1, jI a0), (2, jI a1), (3, jI a2), (4, jI r1)]) (st' := [jI (-1)]) rfl (p1 := 28) rfl ?_
    cases hf
    exact B_retI B hq rfl (Nat.le_of_ble_eq_true rfl) (Nat.le_of_ble_eq_true rfl) (by decide +kernel)
  · refine B_blk B jlkX8_ok jcl_SKF [.iload 4, .iconst 4] (by decide +kernel) (ls' := [(0, jR 66), (1, jI a0), (2, jI a1), (3, jI a2), (4, jI r1)]) (st' := [jI 4, jI r1]) rfl (p1 := 24) rfl ?_
    refine J_icmp_le B.1 (off := 5) (tgt := 29) (by decide +kernel) (by decide) hf (fun hf => ?_) (fun hf => ?_)
    · refine B_blk B jlkX8_ok jcl_SKF [.aload_n 0, .iload_n 1, .iload_n 2] (by decide +kernel) (ls' := [(0, jR 66), (1, jI a0), (2, jI a1), (3, jI a2), (4, jI r1)]) (st' := [jI a1, jI a0, jR 66]) rfl (p1 := 32) rfl ?_
      obtain ⟨r3, h3, hf⟩ := jbd hf
      refine B_callV B (Nat.le_refl _) (μ' := r3) (k' := 0) (n' := 0) ca_X8_measurePuts in_X8_measurePuts se_X8_measurePuts lk_X8_101 (t_X8_measurePuts B.tr h3) (Nat.le_refl _) rfl rfl rfl (rest := []) rfl rfl (Nat.le_of_ble_eq_true rfl) (by decide +kernel) rfl rfl (st' := []) rfl ?_
      refine B_blk B jlkX8_ok jcl_SKF [.iconst (-1), .istore 5] (by decide +kernel) (ls' := [(0, jR 66), (1, jI a0), (2, jI a1), (3, jI a2), (4, jI r1), (5, jI (-1))]) (st' := []) rfl (p1 := 38) rfl ?_
      refine J_ldc (z := 1000000000) B.1 co_X8_104 (by decide) (by unfold jIn; omega) (by decide +kernel) ?_
      refine B_blk B jlkX8_ok jcl_SKF [.istore 6, .iconst 0, .istore 7] (by decide +kernel) (ls' := [(0, jR 66), (1, jI a0), (2, jI a1), (3, jI a2), (4, jI r1), (5, jI (-1)), (6, jI 1000000000), (7, jI 0)]) (st' := []) rfl (p1 := 45) rfl ?_
      refine J_pick [0, 1, 3, 4, 5, 6, 7] (ls' := [(0, jR 66), (1, jI a0), (3, jI a2), (4, jI r1), (5, jI (-1)), (6, jI 1000000000), (7, jI 0)]) rfl ?_
      exact t_X8_putGangs_L45 B jFU a0 a2 r1 (-1) 1000000000 0 r3 _ hf hq
    · refine B_blk B jlkX8_ok jcl_SKF [.iconst (-1)] (by decide +kernel) (ls' := [(0, jR 66), (1, jI a0), (2, jI a1), (3, jI a2), (4, jI r1)]) (st' := [jI (-1)]) rfl (p1 := 28) rfl ?_
      cases hf
      exact B_retI B hq rfl (Nat.le_of_ble_eq_true rfl) (Nat.le_of_ble_eq_true rfl) (by decide +kernel)

def rm_X9_put : Room := { frames := 16, cells := 3, slots := 18, locals := 244 }
def f_X9_put_J59 (v1 : Int) (v2 : Int) (v3 : Int) (v4 : Int) (s0 : Int) (m : jMu) : Option (jOut Int) :=
  jthr (f_X9_needIndex s0 m) fun r3 => (f_X4_baySet r3.2).bind fun r4 => (f_X9_isIn v2 0 r4).bind fun r5 => jthr (f_X9_needArgument r5 r3.2) fun r6 => (f_X8_begin v1 v2 r6.2).bind fun r7 => (f_X8_putGangs v2 v3 v4 r7).bind fun r8 => some (.inr (r8.1, r8.2))
def f_X9_put_J54 (v1 : Int) (v2 : Int) (v3 : Int) (v4 : Int) (m : jMu) : Option (jOut Int) :=
  f_X9_put_J59 v1 v2 v3 v4 1 m
def f_X9_put_J30 (v1 : Int) (v2 : Int) (v3 : Int) (v4 : Int) (s0 : Int) (m : jMu) : Option (jOut Int) :=
  jthr (f_X9_needIndex s0 m) fun r2 => (if v4 = (-1) then f_X9_put_J54 v1 v2 v3 v4 r2.2 else (f_X5_has 4 5 80 v4 r2.2).bind fun r9 => (if r9 = 0 then f_X9_put_J59 v1 v2 v3 v4 0 r2.2 else f_X9_put_J54 v1 v2 v3 v4 r2.2))
def f_X9_put_J29 (v1 : Int) (v2 : Int) (v3 : Int) (v4 : Int) (m : jMu) : Option (jOut Int) :=
  f_X9_put_J30 v1 v2 v3 v4 0 m
def f_X9_put (a0 : Int) (a1 : Int) (a2 : Int) (a3 : Int) (m : jMu) : Option (jOut Int) :=
  (f_X5_has 14 15 6 a0 m).bind fun r1 => (if r1 = 0 then f_X9_put_J29 a0 a1 a2 a3 m else (f_X9_isIn a2 0 2399).bind fun r10 => (if r10 = 0 then f_X9_put_J29 a0 a1 a2 a3 m else f_X9_put_J30 a0 a1 a2 a3 1 m))
theorem t_X9_put_J59 {X : jX} (B : jB X cX9_put RX9 5 SKF.length rm_X9_put (some .int)) (hno : ∀ x ∈ (xc X).exceptionTable.toList, False) (v1 : Int) (v2 : Int) (v3 : Int) (v4 : Int) (s0 : Int) (m : jMu) (r : (jOut Int)) (hf : f_X9_put_J59 v1 v2 v3 v4 s0 m = some r) (hq : jQ X (joI r) SKF (joM r) rm_X9_put.cells rm_X9_put.slots) : J X SKF m 1 6 59 [(0, jR 0), (1, jI v1), (2, jI v2), (3, jI v3), (4, jI v4)] [jI s0] := by
  unfold f_X9_put_J59 at hf
  rcases jthr_s hf with ⟨e3, h3, hf⟩ | ⟨r3, h3, hf⟩
  · cases hf
    exact B_callST B (Nat.le_refl _) hno hq ca_X9_needIndex sa_X9_needIndex lk_X9_125 (t_X9_needIndex B.tr h3) (Nat.le_refl _) rfl (rest := []) rfl rfl (Nat.le_of_ble_eq_true rfl) (by decide +kernel) (Nat.le_of_ble_eq_true rfl) (Nat.le_of_ble_eq_true rfl)
  · refine B_callS B (Nat.le_refl _) (μ' := r3.2) (k' := 2) (n' := 12) ca_X9_needIndex sa_X9_needIndex lk_X9_125 (t_X9_needIndex B.tr h3) (Nat.le_refl _) rfl (rest := []) rfl rfl (Nat.le_of_ble_eq_true rfl) (by decide +kernel) rfl rfl (st' := []) rfl ?_
    refine B_blk B jlkX9_ok jcl_SKF [.iload_n 2, .iconst 0, .aload_n 0, .getfield 20] (by decide +kernel) (ls' := [(0, jR 0), (1, jI v1), (2, jI v2), (3, jI v3), (4, jI v4)]) (st' := [jR 1, jI 0, jI v2]) rfl (p1 := 68) rfl ?_
    obtain ⟨r4, h4, hf⟩ := jbd hf
    refine B_callV B (Nat.le_refl _) (μ' := r3.2) (k' := 2) (n' := 12) ca_X4_baySet in_X4_baySet se_X4_baySet lk_X9_240 (t_X4_baySet B.tr h4) (Nat.le_refl _) rfl rfl rfl (rest := [jI 0, jI v2]) rfl rfl (Nat.le_of_ble_eq_true rfl) (by decide +kernel) rfl rfl (st' := [jI r4, jI 0, jI v2]) rfl ?_
    obtain ⟨r5, h5, hf⟩ := jbd hf
    refine B_callS B (Nat.le_refl _) (μ' := r3.2) (k' := 2) (n' := 12) ca_X9_isIn sa_X9_isIn lk_X9_93 (t_X9_isIn B.tr jcl_SKF h5) (Nat.le_refl _) rfl (rest := []) rfl rfl (Nat.le_of_ble_eq_true rfl) (by decide +kernel) rfl rfl (st' := [jI r5]) rfl ?_
    rcases jthr_s hf with ⟨e6, h6, hf⟩ | ⟨r6, h6, hf⟩
    · cases hf
      exact B_callST B (Nat.le_refl _) hno hq ca_X9_needArgument sa_X9_needArgument lk_X9_97 (t_X9_needArgument B.tr h6) (Nat.le_refl _) rfl (rest := []) rfl rfl (Nat.le_of_ble_eq_true rfl) (by decide +kernel) (Nat.le_of_ble_eq_true rfl) (Nat.le_of_ble_eq_true rfl)
    · refine B_callS B (Nat.le_refl _) (μ' := r6.2) (k' := 3) (n' := 18) ca_X9_needArgument sa_X9_needArgument lk_X9_97 (t_X9_needArgument B.tr h6) (Nat.le_refl _) rfl (rest := []) rfl rfl (Nat.le_of_ble_eq_true rfl) (by decide +kernel) rfl rfl (st' := []) rfl ?_
      refine B_blk B jlkX9_ok jcl_SKF [.aload_n 0, .getfield 49, .iload_n 1, .iload_n 2] (by decide +kernel) (ls' := [(0, jR 0), (1, jI v1), (2, jI v2), (3, jI v3), (4, jI v4)]) (st' := [jI v2, jI v1, jR 66]) rfl (p1 := 83) rfl ?_
      obtain ⟨r7, h7, hf⟩ := jbd hf
      refine B_callV B (Nat.le_refl _) (μ' := r7) (k' := 3) (n' := 18) ca_X8_begin in_X8_begin se_X8_begin lk_X9_186 (t_X8_begin B.tr h7) (Nat.le_refl _) rfl rfl rfl (rest := []) rfl rfl (Nat.le_of_ble_eq_true rfl) (by decide +kernel) rfl rfl (st' := []) rfl ?_
      refine B_blk B jlkX9_ok jcl_SKF [.aload_n 0, .getfield 49, .iload_n 2, .iload_n 3, .iload 4] (by decide +kernel) (ls' := [(0, jR 0), (1, jI v1), (2, jI v2), (3, jI v3), (4, jI v4)]) (st' := [jI v4, jI v3, jI v2, jR 66]) rfl (p1 := 94) rfl ?_
      obtain ⟨r8, h8, hf⟩ := jbd hf
      refine B_callV B (Nat.le_refl _) (μ' := r8.2) (k' := 3) (n' := 18) ca_X8_putGangs in_X8_putGangs se_X8_putGangs lk_X9_254 (t_X8_putGangs B.tr h8) (Nat.le_refl _) rfl rfl rfl (rest := []) rfl rfl (Nat.le_of_ble_eq_true rfl) (by decide +kernel) rfl rfl (st' := [jI r8.1]) rfl ?_
      cases hf
      exact B_retI B hq rfl (Nat.le_of_ble_eq_true rfl) (Nat.le_of_ble_eq_true rfl) (by decide +kernel)
theorem t_X9_put_J54 {X : jX} (B : jB X cX9_put RX9 5 SKF.length rm_X9_put (some .int)) (hno : ∀ x ∈ (xc X).exceptionTable.toList, False) (v1 : Int) (v2 : Int) (v3 : Int) (v4 : Int) (m : jMu) (r : (jOut Int)) (hf : f_X9_put_J54 v1 v2 v3 v4 m = some r) (hq : jQ X (joI r) SKF (joM r) rm_X9_put.cells rm_X9_put.slots) : J X SKF m 1 6 54 [(0, jR 0), (1, jI v1), (2, jI v2), (3, jI v3), (4, jI v4)] [] := by
  unfold f_X9_put_J54 at hf
  refine B_blk B jlkX9_ok jcl_SKF [.iconst 1, .goto 4] (by decide +kernel) (ls' := [(0, jR 0), (1, jI v1), (2, jI v2), (3, jI v3), (4, jI v4)]) (st' := [jI 1]) rfl (p1 := 59) rfl ?_
  exact t_X9_put_J59 B hno v1 v2 v3 v4 1 m _ hf hq
theorem t_X9_put_J30 {X : jX} (B : jB X cX9_put RX9 5 SKF.length rm_X9_put (some .int)) (hno : ∀ x ∈ (xc X).exceptionTable.toList, False) (v1 : Int) (v2 : Int) (v3 : Int) (v4 : Int) (s0 : Int) (m : jMu) (r : (jOut Int)) (hf : f_X9_put_J30 v1 v2 v3 v4 s0 m = some r) (hq : jQ X (joI r) SKF (joM r) rm_X9_put.cells rm_X9_put.slots) : J X SKF m 0 0 30 [(0, jR 0), (1, jI v1), (2, jI v2), (3, jI v3), (4, jI v4)] [jI s0] := by
  unfold f_X9_put_J30 at hf
  rcases jthr_s hf with ⟨e2, h2, hf⟩ | ⟨r2, h2, hf⟩
  · cases hf
    exact B_callST B (Nat.le_refl _) hno hq ca_X9_needIndex sa_X9_needIndex lk_X9_125 (t_X9_needIndex B.tr h2) (Nat.le_refl _) rfl (rest := []) rfl rfl (Nat.le_of_ble_eq_true rfl) (by decide +kernel) (Nat.le_of_ble_eq_true rfl) (Nat.le_of_ble_eq_true rfl)
  · refine B_callS B (Nat.le_refl _) (μ' := r2.2) (k' := 1) (n' := 6) ca_X9_needIndex sa_X9_needIndex lk_X9_125 (t_X9_needIndex B.tr h2) (Nat.le_refl _) rfl (rest := []) rfl rfl (Nat.le_of_ble_eq_true rfl) (by decide +kernel) rfl rfl (st' := []) rfl ?_
    refine B_blk B jlkX9_ok jcl_SKF [.iload 4, .iconst (-1)] (by decide +kernel) (ls' := [(0, jR 0), (1, jI v1), (2, jI v2), (3, jI v3), (4, jI v4)]) (st' := [jI (-1), jI v4]) rfl (p1 := 36) rfl ?_
    refine J_icmp_eq B.1 (off := 18) (tgt := 54) (by decide +kernel) (by decide) hf (fun hf => ?_) (fun hf => ?_)
    · exact t_X9_put_J54 B hno v1 v2 v3 v4 r2.2 _ hf hq
    · refine B_blk B jlkX9_ok jcl_SKF [.aload_n 0, .getfield 20, .getfield 101, .iload 4] (by decide +kernel) (ls' := [(0, jR 0), (1, jI v1), (2, jI v2), (3, jI v3), (4, jI v4)]) (st' := [jI v4, jR 4]) rfl (p1 := 48) rfl ?_
      obtain ⟨r9, h9, hf⟩ := jbd hf
      refine B_callV B (Nat.le_refl _) (μ' := r2.2) (k' := 1) (n' := 6) ca_X5_has in_X5_has se_X5_has lk_X9_143 (t_X5_has B.tr jcl_SKF ⟨rfl, rfl, by decide⟩ h9) (Nat.le_refl _) rfl rfl rfl (rest := []) rfl rfl (Nat.le_of_ble_eq_true rfl) (by decide +kernel) rfl rfl (st' := [jI r9]) rfl ?_
      refine J_if_eq B.1 (off := 7) (tgt := 58) (by decide +kernel) (by decide) hf (fun hf => ?_) (fun hf => ?_)
      · refine B_blk B jlkX9_ok jcl_SKF [.iconst 0] (by decide +kernel) (ls' := [(0, jR 0), (1, jI v1), (2, jI v2), (3, jI v3), (4, jI v4)]) (st' := [jI 0]) rfl (p1 := 59) rfl ?_
        exact t_X9_put_J59 B hno v1 v2 v3 v4 0 r2.2 _ hf hq
      · exact t_X9_put_J54 B hno v1 v2 v3 v4 r2.2 _ hf hq
theorem t_X9_put_J29 {X : jX} (B : jB X cX9_put RX9 5 SKF.length rm_X9_put (some .int)) (hno : ∀ x ∈ (xc X).exceptionTable.toList, False) (v1 : Int) (v2 : Int) (v3 : Int) (v4 : Int) (m : jMu) (r : (jOut Int)) (hf : f_X9_put_J29 v1 v2 v3 v4 m = some r) (hq : jQ X (joI r) SKF (joM r) rm_X9_put.cells rm_X9_put.slots) : J X SKF m 0 0 29 [(0, jR 0), (1, jI v1), (2, jI v2), (3, jI v3), (4, jI v4)] [] := by
  unfold f_X9_put_J29 at hf
  refine B_blk B jlkX9_ok jcl_SKF [.iconst 0] (by decide +kernel) (ls' := [(0, jR 0), (1, jI v1), (2, jI v2), (3, jI v3), (4, jI v4)]) (st' := [jI 0]) rfl (p1 := 30) rfl ?_
  exact t_X9_put_J30 B hno v1 v2 v3 v4 0 m _ hf hq
theorem t_X9_put {l : Launch} {G : jG} (hl : l.stackTraces = false) {a0 : Int} {a1 : Int} {a2 : Int} {a3 : Int} {m : jMu} {r : (jOut Int)} (hf : f_X9_put a0 a1 a2 a3 m = some r) : jCt l G yX9_put (.code yX9_put cX9_put 5 (some .int) :: jWG) rm_X9_put [jR 0, jI a0, jI a1, jI a2, jI a3] SKF m (joI r) SKF (joM r) := by
  unfold f_X9_put at hf
  refine J_start (ls0 := [(0, jR 0), (1, jI a0), (2, jI a1), (3, jI a2), (4, jI a3)]) (by decide +kernel) hl (Nat.le_of_ble_eq_true rfl) rfl fun X C hN hn hR hr hnm hno hq => ?_
  have B : jB X cX9_put RX9 5 SKF.length rm_X9_put (some .int) := ⟨C, hN, Nat.le_of_eq hn, hR, hr⟩
  refine B_blk B jlkX9_ok jcl_SKF [.aload_n 0, .getfield 20, .getfield 158, .iload_n 1] (by decide +kernel) (ls' := [(0, jR 0), (1, jI a0), (2, jI a1), (3, jI a2), (4, jI a3)]) (st' := [jI a0, jR 14]) rfl (p1 := 8) rfl ?_
  obtain ⟨r1, h1, hf⟩ := jbd hf
  refine B_callV B (Nat.le_refl _) (μ' := m) (k' := 0) (n' := 0) ca_X5_has in_X5_has se_X5_has lk_X9_143 (t_X5_has B.tr jcl_SKF ⟨rfl, rfl, by decide⟩ h1) (Nat.le_refl _) rfl rfl rfl (rest := []) rfl rfl (Nat.le_of_ble_eq_true rfl) (by decide +kernel) rfl rfl (st' := [jI r1]) rfl ?_
  refine J_if_eq B.1 (off := 18) (tgt := 29) (by decide +kernel) (by decide) hf (fun hf => ?_) (fun hf => ?_)
  · exact t_X9_put_J29 B hno a0 a1 a2 a3 m _ hf hq
  · refine B_blk B jlkX9_ok jcl_SKF [.iload_n 3, .iconst 0, .sipush 2399] (by decide +kernel) (ls' := [(0, jR 0), (1, jI a0), (2, jI a1), (3, jI a2), (4, jI a3)]) (st' := [jI 2399, jI 0, jI a2]) rfl (p1 := 19) rfl ?_
    obtain ⟨r10, h10, hf⟩ := jbd hf
    refine B_callS B (Nat.le_refl _) (μ' := m) (k' := 0) (n' := 0) ca_X9_isIn sa_X9_isIn lk_X9_93 (t_X9_isIn B.tr jcl_SKF h10) (Nat.le_refl _) rfl (rest := []) rfl rfl (Nat.le_of_ble_eq_true rfl) (by decide +kernel) rfl rfl (st' := [jI r10]) rfl ?_
    refine J_if_eq B.1 (off := 7) (tgt := 29) (by decide +kernel) (by decide) hf (fun hf => ?_) (fun hf => ?_)
    · exact t_X9_put_J29 B hno a0 a1 a2 a3 m _ hf hq
    · refine B_blk B jlkX9_ok jcl_SKF [.iconst 1, .goto 4] (by decide +kernel) (ls' := [(0, jR 0), (1, jI a0), (2, jI a1), (3, jI a2), (4, jI a3)]) (st' := [jI 1]) rfl (p1 := 30) rfl ?_
      exact t_X9_put_J30 B hno a0 a1 a2 a3 1 m _ hf hq

def rm_X9_cost : Room := { frames := 9, cells := 2, slots := 12, locals := 120 }
def f_X9_cost_J39 (v1 : Int) (v2 : Int) (v3 : Int) (s0 : Int) (m : jMu) : Option (jOut Unit) :=
  jthr (f_X9_needArgument s0 m) fun r4 => (f_X5_set 4 5 80 v1 5 v2 r4.2).bind fun r5 => (f_X5_set 4 5 80 v1 6 v3 r5).bind fun r6 => some (.inr ((), r6))
def f_X9_cost_J38 (v1 : Int) (v2 : Int) (v3 : Int) (m : jMu) : Option (jOut Unit) :=
  f_X9_cost_J39 v1 v2 v3 0 m
def f_X9_cost (a0 : Int) (a1 : Int) (a2 : Int) (m : jMu) : Option (jOut Unit) :=
  (f_X5_has 4 5 80 a0 m).bind fun r1 => jthr (f_X9_needIndex r1 m) fun r2 => (f_X9_isIn a1 0 99).bind fun r3 => (if r3 = 0 then f_X9_cost_J38 a0 a1 a2 r2.2 else (f_X9_isIn a2 0 99).bind fun r7 => (if r7 = 0 then f_X9_cost_J38 a0 a1 a2 r2.2 else f_X9_cost_J39 a0 a1 a2 1 r2.2))
theorem t_X9_cost_J39 {X : jX} (B : jB X cX9_cost RX9 4 SKF.length rm_X9_cost none) (hno : ∀ x ∈ (xc X).exceptionTable.toList, False) (v1 : Int) (v2 : Int) (v3 : Int) (s0 : Int) (m : jMu) (r : (jOut Unit)) (hf : f_X9_cost_J39 v1 v2 v3 s0 m = some r) (hq : jQ X (joV r) SKF (joM r) rm_X9_cost.cells rm_X9_cost.slots) : J X SKF m 1 6 39 [(0, jR 0), (1, jI v1), (2, jI v2), (3, jI v3)] [jI s0] := by
  unfold f_X9_cost_J39 at hf
  rcases jthr_s hf with ⟨e4, h4, hf⟩ | ⟨r4, h4, hf⟩
  · cases hf
    exact B_callST B (Nat.le_refl _) hno hq ca_X9_needArgument sa_X9_needArgument lk_X9_97 (t_X9_needArgument B.tr h4) (Nat.le_refl _) rfl (rest := []) rfl rfl (Nat.le_of_ble_eq_true rfl) (by decide +kernel) (Nat.le_of_ble_eq_true rfl) (Nat.le_of_ble_eq_true rfl)
  · refine B_callS B (Nat.le_refl _) (μ' := r4.2) (k' := 2) (n' := 12) ca_X9_needArgument sa_X9_needArgument lk_X9_97 (t_X9_needArgument B.tr h4) (Nat.le_refl _) rfl (rest := []) rfl rfl (Nat.le_of_ble_eq_true rfl) (by decide +kernel) rfl rfl (st' := []) rfl ?_
    refine B_blk B jlkX9_ok jcl_SKF [.aload_n 0, .getfield 20, .getfield 101, .iload_n 1, .iconst 5, .iload_n 2] (by decide +kernel) (ls' := [(0, jR 0), (1, jI v1), (2, jI v2), (3, jI v3)]) (st' := [jI v2, jI 5, jI v1, jR 4]) rfl (p1 := 52) rfl ?_
    obtain ⟨r5, h5, hf⟩ := jbd hf
    refine B_callV B (Nat.le_refl _) (μ' := r5) (k' := 2) (n' := 12) ca_X5_set in_X5_set se_X5_set lk_X9_117 (t_X5_set B.tr jcl_SKF ⟨rfl, rfl, by decide⟩ h5) (Nat.le_refl _) rfl rfl rfl (rest := []) rfl rfl (Nat.le_of_ble_eq_true rfl) (by decide +kernel) rfl rfl (st' := []) rfl ?_
    refine B_blk B jlkX9_ok jcl_SKF [.aload_n 0, .getfield 20, .getfield 101, .iload_n 1, .bipush 6, .iload_n 3] (by decide +kernel) (ls' := [(0, jR 0), (1, jI v1), (2, jI v2), (3, jI v3)]) (st' := [jI v3, jI 6, jI v1, jR 4]) rfl (p1 := 66) rfl ?_
    obtain ⟨r6, h6, hf⟩ := jbd hf
    refine B_callV B (Nat.le_refl _) (μ' := r6) (k' := 2) (n' := 12) ca_X5_set in_X5_set se_X5_set lk_X9_117 (t_X5_set B.tr jcl_SKF ⟨rfl, rfl, by decide⟩ h6) (Nat.le_refl _) rfl rfl rfl (rest := []) rfl rfl (Nat.le_of_ble_eq_true rfl) (by decide +kernel) rfl rfl (st' := []) rfl ?_
    cases hf
    exact B_retV B hq rfl (Nat.le_of_ble_eq_true rfl) (Nat.le_of_ble_eq_true rfl) (by decide +kernel)
theorem t_X9_cost_J38 {X : jX} (B : jB X cX9_cost RX9 4 SKF.length rm_X9_cost none) (hno : ∀ x ∈ (xc X).exceptionTable.toList, False) (v1 : Int) (v2 : Int) (v3 : Int) (m : jMu) (r : (jOut Unit)) (hf : f_X9_cost_J38 v1 v2 v3 m = some r) (hq : jQ X (joV r) SKF (joM r) rm_X9_cost.cells rm_X9_cost.slots) : J X SKF m 1 6 38 [(0, jR 0), (1, jI v1), (2, jI v2), (3, jI v3)] [] := by
  unfold f_X9_cost_J38 at hf
  refine B_blk B jlkX9_ok jcl_SKF [.iconst 0] (by decide +kernel) (ls' := [(0, jR 0), (1, jI v1), (2, jI v2), (3, jI v3)]) (st' := [jI 0]) rfl (p1 := 39) rfl ?_
  exact t_X9_cost_J39 B hno v1 v2 v3 0 m _ hf hq
theorem t_X9_cost {l : Launch} {G : jG} (hl : l.stackTraces = false) {a0 : Int} {a1 : Int} {a2 : Int} {m : jMu} {r : (jOut Unit)} (hf : f_X9_cost a0 a1 a2 m = some r) : jCt l G yX9_cost (.code yX9_cost cX9_cost 4 none :: jWG) rm_X9_cost [jR 0, jI a0, jI a1, jI a2] SKF m (joV r) SKF (joM r) := by
  unfold f_X9_cost at hf
  refine J_start (ls0 := [(0, jR 0), (1, jI a0), (2, jI a1), (3, jI a2)]) (by decide +kernel) hl (Nat.le_of_ble_eq_true rfl) rfl fun X C hN hn hR hr hnm hno hq => ?_
  have B : jB X cX9_cost RX9 4 SKF.length rm_X9_cost none := ⟨C, hN, Nat.le_of_eq hn, hR, hr⟩
  refine B_blk B jlkX9_ok jcl_SKF [.aload_n 0, .getfield 20, .getfield 101, .iload_n 1] (by decide +kernel) (ls' := [(0, jR 0), (1, jI a0), (2, jI a1), (3, jI a2)]) (st' := [jI a0, jR 4]) rfl (p1 := 8) rfl ?_
  obtain ⟨r1, h1, hf⟩ := jbd hf
  refine B_callV B (Nat.le_refl _) (μ' := m) (k' := 0) (n' := 0) ca_X5_has in_X5_has se_X5_has lk_X9_143 (t_X5_has B.tr jcl_SKF ⟨rfl, rfl, by decide⟩ h1) (Nat.le_refl _) rfl rfl rfl (rest := []) rfl rfl (Nat.le_of_ble_eq_true rfl) (by decide +kernel) rfl rfl (st' := [jI r1]) rfl ?_
  rcases jthr_s hf with ⟨e2, h2, hf⟩ | ⟨r2, h2, hf⟩
  · cases hf
    exact B_callST B (Nat.le_refl _) hno hq ca_X9_needIndex sa_X9_needIndex lk_X9_125 (t_X9_needIndex B.tr h2) (Nat.le_refl _) rfl (rest := []) rfl rfl (Nat.le_of_ble_eq_true rfl) (by decide +kernel) (Nat.le_of_ble_eq_true rfl) (Nat.le_of_ble_eq_true rfl)
  · refine B_callS B (Nat.le_refl _) (μ' := r2.2) (k' := 1) (n' := 6) ca_X9_needIndex sa_X9_needIndex lk_X9_125 (t_X9_needIndex B.tr h2) (Nat.le_refl _) rfl (rest := []) rfl rfl (Nat.le_of_ble_eq_true rfl) (by decide +kernel) rfl rfl (st' := []) rfl ?_
    refine B_blk B jlkX9_ok jcl_SKF [.iload_n 2, .iconst 0, .bipush 99] (by decide +kernel) (ls' := [(0, jR 0), (1, jI a0), (2, jI a1), (3, jI a2)]) (st' := [jI 99, jI 0, jI a1]) rfl (p1 := 18) rfl ?_
    obtain ⟨r3, h3, hf⟩ := jbd hf
    refine B_callS B (Nat.le_refl _) (μ' := r2.2) (k' := 1) (n' := 6) ca_X9_isIn sa_X9_isIn lk_X9_93 (t_X9_isIn B.tr jcl_SKF h3) (Nat.le_refl _) rfl (rest := []) rfl rfl (Nat.le_of_ble_eq_true rfl) (by decide +kernel) rfl rfl (st' := [jI r3]) rfl ?_
    refine J_if_eq B.1 (off := 17) (tgt := 38) (by decide +kernel) (by decide) hf (fun hf => ?_) (fun hf => ?_)
    · exact t_X9_cost_J38 B hno a0 a1 a2 r2.2 _ hf hq
    · refine B_blk B jlkX9_ok jcl_SKF [.iload_n 3, .iconst 0, .bipush 99] (by decide +kernel) (ls' := [(0, jR 0), (1, jI a0), (2, jI a1), (3, jI a2)]) (st' := [jI 99, jI 0, jI a2]) rfl (p1 := 28) rfl ?_
      obtain ⟨r7, h7, hf⟩ := jbd hf
      refine B_callS B (Nat.le_refl _) (μ' := r2.2) (k' := 1) (n' := 6) ca_X9_isIn sa_X9_isIn lk_X9_93 (t_X9_isIn B.tr jcl_SKF h7) (Nat.le_refl _) rfl (rest := []) rfl rfl (Nat.le_of_ble_eq_true rfl) (by decide +kernel) rfl rfl (st' := [jI r7]) rfl ?_
      refine J_if_eq B.1 (off := 7) (tgt := 38) (by decide +kernel) (by decide) hf (fun hf => ?_) (fun hf => ?_)
      · exact t_X9_cost_J38 B hno a0 a1 a2 r2.2 _ hf hq
      · refine B_blk B jlkX9_ok jcl_SKF [.iconst 1, .goto 4] (by decide +kernel) (ls' := [(0, jR 0), (1, jI a0), (2, jI a1), (3, jI a2)]) (st' := [jI 1]) rfl (p1 := 39) rfl ?_
        exact t_X9_cost_J39 B hno a0 a1 a2 1 r2.2 _ hf hq
