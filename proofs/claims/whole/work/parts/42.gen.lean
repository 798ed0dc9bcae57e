/-! printed walks -/
def rm_X10_isTerms : Room := { frames := 4, cells := 0, slots := 0, locals := 86 }
def f_X10_isTerms (a0 : Int) (m : jMu) : Option Int :=
  (f_X10_isIn a0 0 (jW (m 75 5 - 1))).bind fun r1 => (if r1 = 0 ∨ r1 = 1 then some r1 else none)
theorem t_X10_isTerms {l : Launch} {G : jG} (hl : l.stackTraces = false) {a0 : Int} {m : jMu} {r : Int} (hf : f_X10_isTerms a0 m = some r) : jCt l G yX10_isTerms (.code yX10_isTerms cX10_isTerms 2 (some .boolean) :: jWG) rm_X10_isTerms [jR 74, jI a0] SKF m (.inl (some (jI r))) SKF m := by
  unfold f_X10_isTerms at hf
  refine J_start (ls0 := [(0, jR 74), (1, jI a0)]) (by decide +kernel) hl (Nat.le_of_ble_eq_true rfl) rfl fun X C hN hn hR hr hnm hno hq => ?_
  have B : jB X cX10_isTerms RX10 2 SKF.length rm_X10_isTerms (some .boolean) := ⟨C, hN, Nat.le_of_eq hn, hR, hr⟩
  refine B_blk B jlkX10_ok jcl_SKF [.iload_n 1, .iconst 0, .aload_n 0, .getfield 7, .iconst 5] (by decide +kernel) (ls' := [(0, jR 74), (1, jI a0)]) (st' := [jI 5, jR 75, jI 0, jI a0]) rfl (p1 := 7) rfl ?_
  refine K_iald (lenI := 2083) B rfl rfl (by decide) (by decide +kernel) ?_
  refine B_blk B jlkX10_ok jcl_SKF [.iconst 1, .isub] (by decide +kernel) (ls' := [(0, jR 74), (1, jI a0)]) (st' := [jI (jW (m 75 5 - 1)), jI 0, jI a0]) rfl (p1 := 10) rfl ?_
  obtain ⟨r1, h1, hf⟩ := jbd hf
  refine B_callS B (Nat.le_refl _) (μ' := m) (k' := 0) (n' := 0) ca_X10_isIn sa_X10_isIn lk_X10_54 (t_X10_isIn B.tr jcl_SKF h1) (Nat.le_refl _) rfl (rest := []) rfl rfl (Nat.le_of_ble_eq_true rfl) (by decide +kernel) rfl rfl (st' := [jI r1]) rfl ?_
  obtain ⟨gz, hf⟩ := jgd hf
  cases hf
  exact B_retZ B gz hq rfl (Nat.le_of_ble_eq_true rfl) (Nat.le_of_ble_eq_true rfl) (by decide +kernel)

def rm_X10_ofBay : Room := { frames := 2, cells := 0, slots := 0, locals := 64 }
def f_X10_ofBay (a0 : Int) (a1 : Int) (m : jMu) : Option Int :=
  (if 0 ≤ jW (jW (20 + jW (9 * a0)) + a1) ∧ jW (jW (20 + jW (9 * a0)) + a1) < 2083 then some (m 75 (jW (jW (20 + jW (9 * a0)) + a1))) else none)
theorem t_X10_ofBay {l : Launch} {G : jG} (hl : l.stackTraces = false) {a0 : Int} {a1 : Int} {m : jMu} {r : Int} (hf : f_X10_ofBay a0 a1 m = some r) : jCt l G yX10_ofBay (.code yX10_ofBay cX10_ofBay 3 (some .int) :: jWG) rm_X10_ofBay [jR 74, jI a0, jI a1] SKF m (.inl (some (jI r))) SKF m := by
  unfold f_X10_ofBay at hf
  refine J_start (ls0 := [(0, jR 74), (1, jI a0), (2, jI a1)]) (by decide +kernel) hl (Nat.le_of_ble_eq_true rfl) rfl fun X C hN hn hR hr hnm hno hq => ?_
  have B : jB X cX10_ofBay RX10 3 SKF.length rm_X10_ofBay (some .int) := ⟨C, hN, Nat.le_of_eq hn, hR, hr⟩
  refine B_blk B jlkX10_ok jcl_SKF [.aload_n 0, .getfield 7, .bipush 20, .bipush 9, .iload_n 1, .imul, .iadd, .iload_n 2, .iadd] (by decide +kernel) (ls' := [(0, jR 74), (1, jI a0), (2, jI a1)]) (st' := [jI (jW (jW (20 + jW (9 * a0)) + a1)), jR 75]) rfl (p1 := 13) rfl ?_
  obtain ⟨g1, hf⟩ := jgd hf
  refine K_iald (lenI := 2083) B rfl rfl g1 (by decide +kernel) ?_
  cases hf
  exact B_retI B hq rfl (Nat.le_of_ble_eq_true rfl) (Nat.le_of_ble_eq_true rfl) (by decide +kernel)

def rm_X10_isHad : Room := { frames := 4, cells := 0, slots := 0, locals := 86 }
def f_X10_isHad_L2 : Nat → Int → Int → jMu → Option Int
  | 0, _, _, _ => none
  | q + 1, v1, v2, m => (if m 75 2 ≤ v2 then some 0 else (if 0 ≤ jW (302 + jW (2 * v2)) ∧ jW (302 + jW (2 * v2)) < 2083 then (if 0 ≤ jW (jW (302 + jW (2 * v2)) + 1) ∧ jW (jW (302 + jW (2 * v2)) + 1) < 2083 then (f_X10_isIn v1 (m 75 (jW (302 + jW (2 * v2)))) (m 75 (jW (jW (302 + jW (2 * v2)) + 1)))).bind fun r1 => (if r1 = 0 then f_X10_isHad_L2 q v1 (jW (v2 + 1)) m else some 1) else none) else none))
def f_X10_isHad (a0 : Int) (m : jMu) : Option Int :=
  f_X10_isHad_L2 jFU a0 0 m
theorem t_X10_isHad_L2 {X : jX} (B : jB X cX10_isHad RX10 3 SKF.length rm_X10_isHad (some .boolean)) : ∀ (q : Nat) (v1 : Int) (v2 : Int) (m : jMu) (r : Int), f_X10_isHad_L2 q v1 v2 m = some r → jQ X (.inl (some (jI r))) SKF m rm_X10_isHad.cells rm_X10_isHad.slots → J X SKF m 0 0 2 [(0, jR 74), (1, jI v1), (2, jI v2)] [] := by
  intro q
  induction q with
  | zero =>
    intro v1 v2 m r hf
    rw [f_X10_isHad_L2] at hf
    cases hf
  | succ q ih =>
    intro v1 v2 m r hf hq
    rw [f_X10_isHad_L2] at hf
    refine B_blk B jlkX10_ok jcl_SKF [.iload_n 2, .aload_n 0, .getfield 7, .iconst 2] (by decide +kernel) (ls' := [(0, jR 74), (1, jI v1), (2, jI v2)]) (st' := [jI 2, jR 75, jI v2]) rfl (p1 := 8) rfl ?_
    refine K_iald (lenI := 2083) B rfl rfl (by decide) (by decide +kernel) ?_
    refine J_icmp_ge B.1 (off := 44) (tgt := 53) (by decide +kernel) (by decide) hf (fun hf => ?_) (fun hf => ?_)
    · refine B_blk B jlkX10_ok jcl_SKF [.iconst 0] (by decide +kernel) (ls' := [(0, jR 74), (1, jI v1), (2, jI v2)]) (st' := [jI 0]) rfl (p1 := 54) rfl ?_
      cases hf
      exact B_retZ B (Or.inl rfl) hq rfl (Nat.le_of_ble_eq_true rfl) (Nat.le_of_ble_eq_true rfl) (by decide +kernel)
    · refine B_blk B jlkX10_ok jcl_SKF [.iload_n 1, .aload_n 0, .getfield 7, .sipush 302, .iconst 2, .iload_n 2, .imul, .iadd] (by decide +kernel) (ls' := [(0, jR 74), (1, jI v1), (2, jI v2)]) (st' := [jI (jW (302 + jW (2 * v2))), jR 75, jI v1]) rfl (p1 := 24) rfl ?_
      obtain ⟨g3, hf⟩ := jgd hf
      refine K_iald (lenI := 2083) B rfl rfl g3 (by decide +kernel) ?_
      refine B_blk B jlkX10_ok jcl_SKF [.aload_n 0, .getfield 7, .sipush 302, .iconst 2, .iload_n 2, .imul, .iadd, .iconst 1, .iadd] (by decide +kernel) (ls' := [(0, jR 74), (1, jI v1), (2, jI v2)]) (st' := [jI (jW (jW (302 + jW (2 * v2)) + 1)), jR 75, jI (m 75 (jW (302 + jW (2 * v2)))), jI v1]) rfl (p1 := 38) rfl ?_
      obtain ⟨g2, hf⟩ := jgd hf
      refine K_iald (lenI := 2083) B rfl rfl g2 (by decide +kernel) ?_
      obtain ⟨r1, h1, hf⟩ := jbd hf
      refine B_callS B (Nat.le_refl _) (μ' := m) (k' := 0) (n' := 0) ca_X10_isIn sa_X10_isIn lk_X10_54 (t_X10_isIn B.tr jcl_SKF h1) (Nat.le_refl _) rfl (rest := []) rfl rfl (Nat.le_of_ble_eq_true rfl) (by decide +kernel) rfl rfl (st' := [jI r1]) rfl ?_
      refine J_if_eq B.1 (off := 5) (tgt := 47) (by decide +kernel) (by decide) hf (fun hf => ?_) (fun hf => ?_)
      · refine B_blk B jlkX10_ok jcl_SKF [.iinc 2 1, .goto (-48)] (by decide +kernel) (ls' := [(0, jR 74), (1, jI v1), (2, jI (jW (v2 + 1)))]) (st' := []) rfl (p1 := 2) rfl ?_
        exact ih v1 (jW (v2 + 1)) m _ hf hq
      · refine B_blk B jlkX10_ok jcl_SKF [.iconst 1] (by decide +kernel) (ls' := [(0, jR 74), (1, jI v1), (2, jI v2)]) (st' := [jI 1]) rfl (p1 := 46) rfl ?_
        cases hf
        exact B_retZ B (Or.inr rfl) hq rfl (Nat.le_of_ble_eq_true rfl) (Nat.le_of_ble_eq_true rfl) (by decide +kernel)
theorem t_X10_isHad {l : Launch} {G : jG} (hl : l.stackTraces = false) {a0 : Int} {m : jMu} {r : Int} (hf : f_X10_isHad a0 m = some r) : jCt l G yX10_isHad (.code yX10_isHad cX10_isHad 3 (some .boolean) :: jWG) rm_X10_isHad [jR 74, jI a0] SKF m (.inl (some (jI r))) SKF m := by
  unfold f_X10_isHad at hf
  refine J_start (ls0 := [(0, jR 74), (1, jI a0)]) (by decide +kernel) hl (Nat.le_of_ble_eq_true rfl) rfl fun X C hN hn hR hr hnm hno hq => ?_
  have B : jB X cX10_isHad RX10 3 SKF.length rm_X10_isHad (some .boolean) := ⟨C, hN, Nat.le_of_eq hn, hR, hr⟩
  refine B_blk B jlkX10_ok jcl_SKF [.iconst 0, .istore_n 2] (by decide +kernel) (ls' := [(0, jR 74), (1, jI a0), (2, jI 0)]) (st' := []) rfl (p1 := 2) rfl ?_
  exact t_X10_isHad_L2 B jFU a0 0 m _ hf hq

def rm_X10_stands : Room := { frames := 6, cells := 0, slots := 0, locals := 108 }
def f_X10_stands_L246 : Nat → Int → Int → Int → jMu → Option jMu
  | 0, _, _, _, _ => none
  | q + 1, v1, v3, v5, m => (if m 75 4 ≤ v5 then some m else (if m 74 14 = 0 then (if 0 ≤ jW (324 + jW (3 * v5)) ∧ jW (324 + jW (3 * v5)) < 2083 then (if m 75 (jW (324 + jW (3 * v5))) = v1 then (if 0 ≤ jW (jW (324 + jW (3 * v5)) + 1) ∧ jW (jW (324 + jW (3 * v5)) + 1) < 2083 then (if 0 ≤ jW (jW (324 + jW (3 * v5)) + 2) ∧ jW (jW (324 + jW (3 * v5)) + 2) < 2083 then (f_X10_isIn v3 (m 75 (jW (jW (324 + jW (3 * v5)) + 1))) (m 75 (jW (jW (324 + jW (3 * v5)) + 2)))).bind fun r13 => (if r13 = 0 then (jlt (jup m 74 14 0) fun m14 => f_X10_stands_L246 q v1 v3 (jW (v5 + 1)) m14) else (jlt (jup m 74 14 1) fun m15 => f_X10_stands_L246 q v1 v3 (jW (v5 + 1)) m15)) else none) else none) else (jlt (jup m 74 14 0) fun m18 => f_X10_stands_L246 q v1 v3 (jW (v5 + 1)) m18)) else none) else (jlt (jup m 74 14 1) fun m20 => f_X10_stands_L246 q v1 v3 (jW (v5 + 1)) m20)))
def f_X10_stands_L73 : Nat → Int → Int → Int → Int → jMu → Option jMu
  | 0, _, _, _, _, _ => none
  | q + 1, v1, v3, v4, v5, m => (if m 75 1 ≤ v5 then (if jAn (jSr (m 75 12) v4) 1 = 1 then (f_X10_isHad v3 m).bind fun r10 => (if r10 = 0 then (jlt (jup m 74 13 1) fun m11 => (jlt (jup m11 74 14 0) fun m12 => f_X10_stands_L246 jFU v1 v3 0 m12)) else (jlt (jup m 74 13 0) fun m21 => (jlt (jup m21 74 14 0) fun m22 => f_X10_stands_L246 jFU v1 v3 0 m22))) else (jlt (jup m 74 13 0) fun m23 => (jlt (jup m23 74 14 0) fun m24 => f_X10_stands_L246 jFU v1 v3 0 m24))) else (if 0 ≤ jW (92 + jW (7 * v5)) ∧ jW (92 + jW (7 * v5)) < 2083 then (if 0 ≤ jW (jW (92 + jW (7 * v5)) + 1) ∧ jW (jW (92 + jW (7 * v5)) + 1) < 2083 then (f_X10_isIn v3 (m 75 (jW (92 + jW (7 * v5)))) (m 75 (jW (jW (92 + jW (7 * v5)) + 1)))).bind fun r25 => (if r25 = 0 then f_X10_stands_L73 q v1 v3 v4 (jW (v5 + 1)) m else (if 0 ≤ jW (jW (92 + jW (7 * v5)) + 2) ∧ jW (jW (92 + jW (7 * v5)) + 2) < 2083 then (if 0 ≤ jW (jW (92 + jW (7 * v5)) + 3) ∧ jW (jW (92 + jW (7 * v5)) + 3) < 2083 then (f_X10_isIn v4 (m 75 (jW (jW (92 + jW (7 * v5)) + 2))) (m 75 (jW (jW (92 + jW (7 * v5)) + 3)))).bind fun r26 => (if r26 = 0 then f_X10_stands_L73 q v1 v3 v4 (jW (v5 + 1)) m else (if 0 ≤ jW (jW (92 + jW (7 * v5)) + 4) ∧ jW (jW (92 + jW (7 * v5)) + 4) < 2083 then (if m 75 (jW (jW (92 + jW (7 * v5)) + 4)) = 1 then (jlt (jup m 74 12 1) fun m27 => (if 0 ≤ jW (jW (92 + jW (7 * v5)) + 5) ∧ jW (jW (92 + jW (7 * v5)) + 5) < 2083 then (jlt (jup m27 78 2 (m27 75 (jW (jW (92 + jW (7 * v5)) + 5)))) fun m28 => (if 0 ≤ jW (jW (92 + jW (7 * v5)) + 6) ∧ jW (jW (92 + jW (7 * v5)) + 6) < 2083 then (jlt (jup m28 78 3 (m28 75 (jW (jW (92 + jW (7 * v5)) + 6)))) fun m29 => f_X10_stands_L73 q v1 v3 v4 (jW (v5 + 1)) m29) else none)) else none)) else (jlt (jup m 74 12 0) fun m32 => (if 0 ≤ jW (jW (92 + jW (7 * v5)) + 5) ∧ jW (jW (92 + jW (7 * v5)) + 5) < 2083 then (jlt (jup m32 78 2 (m32 75 (jW (jW (92 + jW (7 * v5)) + 5)))) fun m33 => (if 0 ≤ jW (jW (92 + jW (7 * v5)) + 6) ∧ jW (jW (92 + jW (7 * v5)) + 6) < 2083 then (jlt (jup m33 78 3 (m33 75 (jW (jW (92 + jW (7 * v5)) + 6)))) fun m34 => f_X10_stands_L73 q v1 v3 v4 (jW (v5 + 1)) m34) else none)) else none))) else none)) else none) else none)) else none) else none))
def f_X10_stands (a0 : Int) (a1 : Int) (m : jMu) : Option jMu :=
  (jlt (jup m 78 0 (jDv a1 12)) fun m1 => (jlt (jup m1 78 1 (jRm a1 12)) fun m2 => (jlt (jup m2 78 2 0) fun m3 => (jlt (jup m3 78 3 10) fun m4 => (f_X10_ofBay a0 1 m4).bind fun r5 => (jlt (jup m4 78 4 r5) fun m6 => (f_X10_ofBay a0 0 m6).bind fun r7 => (jlt (jup m6 78 5 r7) fun m8 => (jlt (jup m8 74 12 0) fun m9 => f_X10_stands_L73 jFU a0 (jDv a1 12) (jRm a1 12) 0 m9)))))))
theorem t_X10_stands_L246 {X : jX} (B : jB X cX10_stands RX10 7 SKF.length rm_X10_stands none) : ∀ (q : Nat) (v1 : Int) (v3 : Int) (v5 : Int) (m : jMu) (r : jMu), f_X10_stands_L246 q v1 v3 v5 m = some r → jQ X (.inl none) SKF r rm_X10_stands.cells rm_X10_stands.slots → J X SKF m 0 0 246 [(0, jR 74), (1, jI v1), (3, jI v3), (5, jI v5)] [] := by
  intro q
  induction q with
  | zero =>
    intro v1 v3 v5 m r hf
    rw [f_X10_stands_L246] at hf
    cases hf
  | succ q ih =>
    intro v1 v3 v5 m r hf hq
    rw [f_X10_stands_L246] at hf
    refine B_blk B jlkX10_ok jcl_SKF [.iload 5, .aload_n 0, .getfield 7, .iconst 4] (by decide +kernel) (ls' := [(0, jR 74), (1, jI v1), (3, jI v3), (5, jI v5)]) (st' := [jI 4, jR 75, jI v5]) rfl (p1 := 253) rfl ?_
    refine K_iald (lenI := 2083) B rfl rfl (by decide) (by decide +kernel) ?_
    refine J_icmp_ge B.1 (off := 71) (tgt := 325) (by decide +kernel) (by decide) hf (fun hf => ?_) (fun hf => ?_)
    · cases hf
      exact B_retV B hq rfl (Nat.le_of_ble_eq_true rfl) (Nat.le_of_ble_eq_true rfl) (by decide +kernel)
    · refine B_blk B jlkX10_ok jcl_SKF [.sipush 324, .iconst 3, .iload 5, .imul, .iadd, .istore 6, .aload_n 0, .aload_n 0, .getfield 130] (by decide +kernel) (ls' := [(0, jR 74), (1, jI v1), (3, jI v3), (5, jI v5), (6, jI (jW (324 + jW (3 * v5))))]) (st' := [jI (m 74 14), jR 74]) rfl (p1 := 272) rfl ?_
      refine J_if_ne B.1 (off := 39) (tgt := 311) (by decide +kernel) (by decide) hf (fun hf => ?_) (fun hf => ?_)
      · refine B_blk B jlkX10_ok jcl_SKF [.aload_n 0, .getfield 7, .iload 6] (by decide +kernel) (ls' := [(0, jR 74), (1, jI v1), (3, jI v3), (5, jI v5), (6, jI (jW (324 + jW (3 * v5))))]) (st' := [jI (jW (324 + jW (3 * v5))), jR 75, jR 74]) rfl (p1 := 281) rfl ?_
        obtain ⟨g19, hf⟩ := jgd hf
        refine K_iald (lenI := 2083) B rfl rfl g19 (by decide +kernel) ?_
        refine B_blk B jlkX10_ok jcl_SKF [.iload_n 1] (by decide +kernel) (ls' := [(0, jR 74), (1, jI v1), (3, jI v3), (5, jI v5), (6, jI (jW (324 + jW (3 * v5))))]) (st' := [jI v1, jI (m 75 (jW (324 + jW (3 * v5)))), jR 74]) rfl (p1 := 283) rfl ?_
        refine J_icmp_ne B.1 (off := 32) (tgt := 315) (by decide +kernel) (by decide) hf (fun hf => ?_) (fun hf => ?_)
        · refine B_blk B jlkX10_ok jcl_SKF [.iload_n 3, .aload_n 0, .getfield 7, .iload 6, .iconst 1, .iadd] (by decide +kernel) (ls' := [(0, jR 74), (1, jI v1), (3, jI v3), (5, jI v5), (6, jI (jW (324 + jW (3 * v5))))]) (st' := [jI (jW (jW (324 + jW (3 * v5)) + 1)), jR 75, jI v3, jR 74]) rfl (p1 := 295) rfl ?_
          obtain ⟨g17, hf⟩ := jgd hf
          refine K_iald (lenI := 2083) B rfl rfl g17 (by decide +kernel) ?_
          refine B_blk B jlkX10_ok jcl_SKF [.aload_n 0, .getfield 7, .iload 6, .iconst 2, .iadd] (by decide +kernel) (ls' := [(0, jR 74), (1, jI v1), (3, jI v3), (5, jI v5), (6, jI (jW (324 + jW (3 * v5))))]) (st' := [jI (jW (jW (324 + jW (3 * v5)) + 2)), jR 75, jI (m 75 (jW (jW (324 + jW (3 * v5)) + 1))), jI v3, jR 74]) rfl (p1 := 304) rfl ?_
          obtain ⟨g16, hf⟩ := jgd hf
          refine K_iald (lenI := 2083) B rfl rfl g16 (by decide +kernel) ?_
          obtain ⟨r13, h13, hf⟩ := jbd hf
          refine B_callS B (Nat.le_refl _) (μ' := m) (k' := 0) (n' := 0) ca_X10_isIn sa_X10_isIn lk_X10_54 (t_X10_isIn B.tr jcl_SKF h13) (Nat.le_refl _) rfl (rest := [jR 74]) rfl rfl (Nat.le_of_ble_eq_true rfl) (by decide +kernel) rfl rfl (st' := [jI r13, jR 74]) rfl ?_
          refine J_if_eq B.1 (off := 7) (tgt := 315) (by decide +kernel) (by decide) hf (fun hf => ?_) (fun hf => ?_)
          · refine B_blk B jlkX10_ok jcl_SKF [.iconst 0] (by decide +kernel) (ls' := [(0, jR 74), (1, jI v1), (3, jI v3), (5, jI v5), (6, jI (jW (324 + jW (3 * v5))))]) (st' := [jI 0, jR 74]) rfl (p1 := 316) rfl ?_
            refine K_putZ (jI' := 14) B jp_X10_130 rfl rfl rfl (Or.inl rfl) (by decide +kernel) ?_
            obtain ⟨m14, hm14, hf⟩ := jlt_s hf
            rw [hm14]
            refine B_blk B jlkX10_ok jcl_SKF [.iinc 5 1, .goto (-76)] (by decide +kernel) (ls' := [(0, jR 74), (1, jI v1), (3, jI v3), (5, jI (jW (v5 + 1))), (6, jI (jW (324 + jW (3 * v5))))]) (st' := []) rfl (p1 := 246) rfl ?_
            refine J_pick [0, 1, 2, 3] (ls' := [(0, jR 74), (1, jI v1), (3, jI v3), (5, jI (jW (v5 + 1)))]) rfl ?_
            exact ih v1 v3 (jW (v5 + 1)) m14 _ hf hq
          · refine B_blk B jlkX10_ok jcl_SKF [.iconst 1, .goto 4] (by decide +kernel) (ls' := [(0, jR 74), (1, jI v1), (3, jI v3), (5, jI v5), (6, jI (jW (324 + jW (3 * v5))))]) (st' := [jI 1, jR 74]) rfl (p1 := 316) rfl ?_
            refine K_putZ (jI' := 14) B jp_X10_130 rfl rfl rfl (Or.inr rfl) (by decide +kernel) ?_
            obtain ⟨m15, hm15, hf⟩ := jlt_s hf
            rw [hm15]
            refine B_blk B jlkX10_ok jcl_SKF [.iinc 5 1, .goto (-76)] (by decide +kernel) (ls' := [(0, jR 74), (1, jI v1), (3, jI v3), (5, jI (jW (v5 + 1))), (6, jI (jW (324 + jW (3 * v5))))]) (st' := []) rfl (p1 := 246) rfl ?_
            refine J_pick [0, 1, 2, 3] (ls' := [(0, jR 74), (1, jI v1), (3, jI v3), (5, jI (jW (v5 + 1)))]) rfl ?_
            exact ih v1 v3 (jW (v5 + 1)) m15 _ hf hq
        · refine B_blk B jlkX10_ok jcl_SKF [.iconst 0] (by decide +kernel) (ls' := [(0, jR 74), (1, jI v1), (3, jI v3), (5, jI v5), (6, jI (jW (324 + jW (3 * v5))))]) (st' := [jI 0, jR 74]) rfl (p1 := 316) rfl ?_
          refine K_putZ (jI' := 14) B jp_X10_130 rfl rfl rfl (Or.inl rfl) (by decide +kernel) ?_
          obtain ⟨m18, hm18, hf⟩ := jlt_s hf
          rw [hm18]
          refine B_blk B jlkX10_ok jcl_SKF [.iinc 5 1, .goto (-76)] (by decide +kernel) (ls' := [(0, jR 74), (1, jI v1), (3, jI v3), (5, jI (jW (v5 + 1))), (6, jI (jW (324 + jW (3 * v5))))]) (st' := []) rfl (p1 := 246) rfl ?_
          refine J_pick [0, 1, 2, 3] (ls' := [(0, jR 74), (1, jI v1), (3, jI v3), (5, jI (jW (v5 + 1)))]) rfl ?_
          exact ih v1 v3 (jW (v5 + 1)) m18 _ hf hq
      · refine B_blk B jlkX10_ok jcl_SKF [.iconst 1, .goto 4] (by decide +kernel) (ls' := [(0, jR 74), (1, jI v1), (3, jI v3), (5, jI v5), (6, jI (jW (324 + jW (3 * v5))))]) (st' := [jI 1, jR 74]) rfl (p1 := 316) rfl ?_
        refine K_putZ (jI' := 14) B jp_X10_130 rfl rfl rfl (Or.inr rfl) (by decide +kernel) ?_
        obtain ⟨m20, hm20, hf⟩ := jlt_s hf
        rw [hm20]
        refine B_blk B jlkX10_ok jcl_SKF [.iinc 5 1, .goto (-76)] (by decide +kernel) (ls' := [(0, jR 74), (1, jI v1), (3, jI v3), (5, jI (jW (v5 + 1))), (6, jI (jW (324 + jW (3 * v5))))]) (st' := []) rfl (p1 := 246) rfl ?_
        refine J_pick [0, 1, 2, 3] (ls' := [(0, jR 74), (1, jI v1), (3, jI v3), (5, jI (jW (v5 + 1)))]) rfl ?_
        exact ih v1 v3 (jW (v5 + 1)) m20 _ hf hq
theorem t_X10_stands_L73 {X : jX} (B : jB X cX10_stands RX10 7 SKF.length rm_X10_stands none) : ∀ (q : Nat) (v1 : Int) (v3 : Int) (v4 : Int) (v5 : Int) (m : jMu) (r : jMu), f_X10_stands_L73 q v1 v3 v4 v5 m = some r → jQ X (.inl none) SKF r rm_X10_stands.cells rm_X10_stands.slots → J X SKF m 0 0 73 [(0, jR 74), (1, jI v1), (3, jI v3), (4, jI v4), (5, jI v5)] [] := by
  intro q
  induction q with
  | zero =>
    intro v1 v3 v4 v5 m r hf
    rw [f_X10_stands_L73] at hf
    cases hf
  | succ q ih =>
    intro v1 v3 v4 v5 m r hf hq
    rw [f_X10_stands_L73] at hf
    refine B_blk B jlkX10_ok jcl_SKF [.iload 5, .aload_n 0, .getfield 7, .iconst 1] (by decide +kernel) (ls' := [(0, jR 74), (1, jI v1), (3, jI v3), (4, jI v4), (5, jI v5)]) (st' := [jI 1, jR 75, jI v5]) rfl (p1 := 80) rfl ?_
    refine K_iald (lenI := 2083) B rfl rfl (by decide) (by decide +kernel) ?_
    refine J_icmp_ge B.1 (off := 124) (tgt := 205) (by decide +kernel) (by decide) hf (fun hf => ?_) (fun hf => ?_)
    · refine B_blk B jlkX10_ok jcl_SKF [.aload_n 0, .aload_n 0, .getfield 7, .bipush 12] (by decide +kernel) (ls' := [(0, jR 74), (1, jI v1), (3, jI v3), (4, jI v4), (5, jI v5)]) (st' := [jI 12, jR 75, jR 74]) rfl (p1 := 212) rfl ?_
      refine K_iald (lenI := 2083) B rfl rfl (by decide) (by decide +kernel) ?_
      refine B_blk B jlkX10_ok jcl_SKF [.iload 4, .ishr, .iconst 1, .iand, .iconst 1] (by decide +kernel) (ls' := [(0, jR 74), (1, jI v1), (3, jI v3), (4, jI v4), (5, jI v5)]) (st' := [jI 1, jI (jAn (jSr (m 75 12) v4) 1), jR 74]) rfl (p1 := 219) rfl ?_
      refine J_icmp_ne B.1 (off := 15) (tgt := 234) (by decide +kernel) (by decide) hf (fun hf => ?_) (fun hf => ?_)
      · refine B_blk B jlkX10_ok jcl_SKF [.aload_n 0, .iload_n 3] (by decide +kernel) (ls' := [(0, jR 74), (1, jI v1), (3, jI v3), (4, jI v4), (5, jI v5)]) (st' := [jI v3, jR 74, jR 74]) rfl (p1 := 224) rfl ?_
        obtain ⟨r10, h10, hf⟩ := jbd hf
        refine B_callV B (Nat.le_refl _) (μ' := m) (k' := 0) (n' := 0) ca_X10_isHad in_X10_isHad se_X10_isHad lk_X10_186 (t_X10_isHad B.tr h10) (Nat.le_refl _) rfl rfl rfl (rest := [jR 74]) rfl rfl (Nat.le_of_ble_eq_true rfl) (by decide +kernel) rfl rfl (st' := [jI r10, jR 74]) rfl ?_
        refine J_if_ne B.1 (off := 7) (tgt := 234) (by decide +kernel) (by decide) hf (fun hf => ?_) (fun hf => ?_)
        · refine B_blk B jlkX10_ok jcl_SKF [.iconst 1, .goto 4] (by decide +kernel) (ls' := [(0, jR 74), (1, jI v1), (3, jI v3), (4, jI v4), (5, jI v5)]) (st' := [jI 1, jR 74]) rfl (p1 := 235) rfl ?_
          refine K_putZ (jI' := 13) B jp_X10_125 rfl rfl rfl (Or.inr rfl) (by decide +kernel) ?_
          obtain ⟨m11, hm11, hf⟩ := jlt_s hf
          rw [hm11]
          refine B_blk B jlkX10_ok jcl_SKF [.aload_n 0, .iconst 0] (by decide +kernel) (ls' := [(0, jR 74), (1, jI v1), (3, jI v3), (4, jI v4), (5, jI v5)]) (st' := [jI 0, jR 74]) rfl (p1 := 240) rfl ?_
          refine K_putZ (jI' := 14) B jp_X10_130 rfl rfl rfl (Or.inl rfl) (by decide +kernel) ?_
          obtain ⟨m12, hm12, hf⟩ := jlt_s hf
          rw [hm12]
          refine B_blk B jlkX10_ok jcl_SKF [.iconst 0, .istore 5] (by decide +kernel) (ls' := [(0, jR 74), (1, jI v1), (3, jI v3), (4, jI v4), (5, jI 0)]) (st' := []) rfl (p1 := 246) rfl ?_
          refine J_pick [0, 1, 2, 4] (ls' := [(0, jR 74), (1, jI v1), (3, jI v3), (5, jI 0)]) rfl ?_
          exact t_X10_stands_L246 B jFU v1 v3 0 m12 _ hf hq
        · refine B_blk B jlkX10_ok jcl_SKF [.iconst 0] (by decide +kernel) (ls' := [(0, jR 74), (1, jI v1), (3, jI v3), (4, jI v4), (5, jI v5)]) (st' := [jI 0, jR 74]) rfl (p1 := 235) rfl ?_
          refine K_putZ (jI' := 13) B jp_X10_125 rfl rfl rfl (Or.inl rfl) (by decide +kernel) ?_
          obtain ⟨m21, hm21, hf⟩ := jlt_s hf
          rw [hm21]
          refine B_blk B jlkX10_ok jcl_SKF [.aload_n 0, .iconst 0] (by decide +kernel) (ls' := [(0, jR 74), (1, jI v1), (3, jI v3), (4, jI v4), (5, jI v5)]) (st' := [jI 0, jR 74]) rfl (p1 := 240) rfl ?_
          refine K_putZ (jI' := 14) B jp_X10_130 rfl rfl rfl (Or.inl rfl) (by decide +kernel) ?_
          obtain ⟨m22, hm22, hf⟩ := jlt_s hf
          rw [hm22]
          refine B_blk B jlkX10_ok jcl_SKF [.iconst 0, .istore 5] (by decide +kernel) (ls' := [(0, jR 74), (1, jI v1), (3, jI v3), (4, jI v4), (5, jI 0)]) (st' := []) rfl (p1 := 246) rfl ?_
          refine J_pick [0, 1, 2, 4] (ls' := [(0, jR 74), (1, jI v1), (3, jI v3), (5, jI 0)]) rfl ?_
          exact t_X10_stands_L246 B jFU v1 v3 0 m22 _ hf hq
      · refine B_blk B jlkX10_ok jcl_SKF [.iconst 0] (by decide +kernel) (ls' := [(0, jR 74), (1, jI v1), (3, jI v3), (4, jI v4), (5, jI v5)]) (st' := [jI 0, jR 74]) rfl (p1 := 235) rfl ?_
        refine K_putZ (jI' := 13) B jp_X10_125 rfl rfl rfl (Or.inl rfl) (by decide +kernel) ?_
        obtain ⟨m23, hm23, hf⟩ := jlt_s hf
        rw [hm23]
        refine B_blk B jlkX10_ok jcl_SKF [.aload_n 0, .iconst 0] (by decide +kernel) (ls' := [(0, jR 74), (1, jI v1), (3, jI v3), (4, jI v4), (5, jI v5)]) (st' := [jI 0, jR 74]) rfl (p1 := 240) rfl ?_
        refine K_putZ (jI' := 14) B jp_X10_130 rfl rfl rfl (Or.inl rfl) (by decide +kernel) ?_
        obtain ⟨m24, hm24, hf⟩ := jlt_s hf
        rw [hm24]
        refine B_blk B jlkX10_ok jcl_SKF [.iconst 0, .istore 5] (by decide +kernel) (ls' := [(0, jR 74), (1, jI v1), (3, jI v3), (4, jI v4), (5, jI 0)]) (st' := []) rfl (p1 := 246) rfl ?_
        refine J_pick [0, 1, 2, 4] (ls' := [(0, jR 74), (1, jI v1), (3, jI v3), (5, jI 0)]) rfl ?_
        exact t_X10_stands_L246 B jFU v1 v3 0 m24 _ hf hq
    · refine B_blk B jlkX10_ok jcl_SKF [.bipush 92, .bipush 7, .iload 5, .imul, .iadd, .istore 6, .iload_n 3, .aload_n 0, .getfield 7, .iload 6] (by decide +kernel) (ls' := [(0, jR 74), (1, jI v1), (3, jI v3), (4, jI v4), (5, jI v5), (6, jI (jW (92 + jW (7 * v5))))]) (st' := [jI (jW (92 + jW (7 * v5))), jR 75, jI v3]) rfl (p1 := 101) rfl ?_
      obtain ⟨g41, hf⟩ := jgd hf
      refine K_iald (lenI := 2083) B rfl rfl g41 (by decide +kernel) ?_
      refine B_blk B jlkX10_ok jcl_SKF [.aload_n 0, .getfield 7, .iload 6, .iconst 1, .iadd] (by decide +kernel) (ls' := [(0, jR 74), (1, jI v1), (3, jI v3), (4, jI v4), (5, jI v5), (6, jI (jW (92 + jW (7 * v5))))]) (st' := [jI (jW (jW (92 + jW (7 * v5)) + 1)), jR 75, jI (m 75 (jW (92 + jW (7 * v5)))), jI v3]) rfl (p1 := 110) rfl ?_
      obtain ⟨g40, hf⟩ := jgd hf
      refine K_iald (lenI := 2083) B rfl rfl g40 (by decide +kernel) ?_
      obtain ⟨r25, h25, hf⟩ := jbd hf
      refine B_callS B (Nat.le_refl _) (μ' := m) (k' := 0) (n' := 0) ca_X10_isIn sa_X10_isIn lk_X10_54 (t_X10_isIn B.tr jcl_SKF h25) (Nat.le_refl _) rfl (rest := []) rfl rfl (Nat.le_of_ble_eq_true rfl) (by decide +kernel) rfl rfl (st' := [jI r25]) rfl ?_
      refine J_if_eq B.1 (off := 85) (tgt := 199) (by decide +kernel) (by decide) hf (fun hf => ?_) (fun hf => ?_)
      · refine B_blk B jlkX10_ok jcl_SKF [.iinc 5 1, .goto (-129)] (by decide +kernel) (ls' := [(0, jR 74), (1, jI v1), (3, jI v3), (4, jI v4), (5, jI (jW (v5 + 1))), (6, jI (jW (92 + jW (7 * v5))))]) (st' := []) rfl (p1 := 73) rfl ?_
        refine J_pick [0, 1, 2, 3, 4] (ls' := [(0, jR 74), (1, jI v1), (3, jI v3), (4, jI v4), (5, jI (jW (v5 + 1)))]) rfl ?_
        exact ih v1 v3 v4 (jW (v5 + 1)) m _ hf hq
      · refine B_blk B jlkX10_ok jcl_SKF [.iload 4, .aload_n 0, .getfield 7, .iload 6, .iconst 2, .iadd] (by decide +kernel) (ls' := [(0, jR 74), (1, jI v1), (3, jI v3), (4, jI v4), (5, jI v5), (6, jI (jW (92 + jW (7 * v5))))]) (st' := [jI (jW (jW (92 + jW (7 * v5)) + 2)), jR 75, jI v4]) rfl (p1 := 127) rfl ?_
        obtain ⟨g39, hf⟩ := jgd hf
        refine K_iald (lenI := 2083) B rfl rfl g39 (by decide +kernel) ?_
        refine B_blk B jlkX10_ok jcl_SKF [.aload_n 0, .getfield 7, .iload 6, .iconst 3, .iadd] (by decide +kernel) (ls' := [(0, jR 74), (1, jI v1), (3, jI v3), (4, jI v4), (5, jI v5), (6, jI (jW (92 + jW (7 * v5))))]) (st' := [jI (jW (jW (92 + jW (7 * v5)) + 3)), jR 75, jI (m 75 (jW (jW (92 + jW (7 * v5)) + 2))), jI v4]) rfl (p1 := 136) rfl ?_
        obtain ⟨g38, hf⟩ := jgd hf
        refine K_iald (lenI := 2083) B rfl rfl g38 (by decide +kernel) ?_
        obtain ⟨r26, h26, hf⟩ := jbd hf
        refine B_callS B (Nat.le_refl _) (μ' := m) (k' := 0) (n' := 0) ca_X10_isIn sa_X10_isIn lk_X10_54 (t_X10_isIn B.tr jcl_SKF h26) (Nat.le_refl _) rfl (rest := []) rfl rfl (Nat.le_of_ble_eq_true rfl) (by decide +kernel) rfl rfl (st' := [jI r26]) rfl ?_
        refine J_if_ne B.1 (off := 6) (tgt := 146) (by decide +kernel) (by decide) hf (fun hf => ?_) (fun hf => ?_)
        · refine B_blk B jlkX10_ok jcl_SKF [.goto 56, .iinc 5 1, .goto (-129)] (by decide +kernel) (ls' := [(0, jR 74), (1, jI v1), (3, jI v3), (4, jI v4), (5, jI (jW (v5 + 1))), (6, jI (jW (92 + jW (7 * v5))))]) (st' := []) rfl (p1 := 73) rfl ?_
          refine J_pick [0, 1, 2, 3, 4] (ls' := [(0, jR 74), (1, jI v1), (3, jI v3), (4, jI v4), (5, jI (jW (v5 + 1)))]) rfl ?_
          exact ih v1 v3 v4 (jW (v5 + 1)) m _ hf hq
        · refine B_blk B jlkX10_ok jcl_SKF [.aload_n 0, .aload_n 0, .getfield 7, .iload 6, .iconst 4, .iadd] (by decide +kernel) (ls' := [(0, jR 74), (1, jI v1), (3, jI v3), (4, jI v4), (5, jI v5), (6, jI (jW (92 + jW (7 * v5))))]) (st' := [jI (jW (jW (92 + jW (7 * v5)) + 4)), jR 75, jR 74]) rfl (p1 := 155) rfl ?_
          obtain ⟨g37, hf⟩ := jgd hf
          refine K_iald (lenI := 2083) B rfl rfl g37 (by decide +kernel) ?_
          refine B_blk B jlkX10_ok jcl_SKF [.iconst 1] (by decide +kernel) (ls' := [(0, jR 74), (1, jI v1), (3, jI v3), (4, jI v4), (5, jI v5), (6, jI (jW (92 + jW (7 * v5))))]) (st' := [jI 1, jI (m 75 (jW (jW (92 + jW (7 * v5)) + 4))), jR 74]) rfl (p1 := 157) rfl ?_
          refine J_icmp_ne B.1 (off := 7) (tgt := 164) (by decide +kernel) (by decide) hf (fun hf => ?_) (fun hf => ?_)
          · refine B_blk B jlkX10_ok jcl_SKF [.iconst 1, .goto 4] (by decide +kernel) (ls' := [(0, jR 74), (1, jI v1), (3, jI v3), (4, jI v4), (5, jI v5), (6, jI (jW (92 + jW (7 * v5))))]) (st' := [jI 1, jR 74]) rfl (p1 := 165) rfl ?_
            refine K_putZ (jI' := 12) B jp_X10_119 rfl rfl rfl (Or.inr rfl) (by decide +kernel) ?_
            obtain ⟨m27, hm27, hf⟩ := jlt_s hf
            rw [hm27]
            refine B_blk B jlkX10_ok jcl_SKF [.aload_n 0, .getfield 23, .iconst 2, .aload_n 0, .getfield 7, .iload 6, .iconst 5, .iadd] (by decide +kernel) (ls' := [(0, jR 74), (1, jI v1), (3, jI v3), (4, jI v4), (5, jI v5), (6, jI (jW (92 + jW (7 * v5))))]) (st' := [jI (jW (jW (92 + jW (7 * v5)) + 5)), jR 75, jI 2, jR 78]) rfl (p1 := 181) rfl ?_
            obtain ⟨g31, hf⟩ := jgd hf
            refine K_iald (lenI := 2083) B rfl rfl g31 (by decide +kernel) ?_
            refine K_iast (lenI := 6) B rfl rfl (by decide) (by decide +kernel) ?_
            obtain ⟨m28, hm28, hf⟩ := jlt_s hf
            rw [hm28]
            refine B_blk B jlkX10_ok jcl_SKF [.aload_n 0, .getfield 23, .iconst 3, .aload_n 0, .getfield 7, .iload 6, .bipush 6, .iadd] (by decide +kernel) (ls' := [(0, jR 74), (1, jI v1), (3, jI v3), (4, jI v4), (5, jI v5), (6, jI (jW (92 + jW (7 * v5))))]) (st' := [jI (jW (jW (92 + jW (7 * v5)) + 6)), jR 75, jI 3, jR 78]) rfl (p1 := 197) rfl ?_
            obtain ⟨g30, hf⟩ := jgd hf
            refine K_iald (lenI := 2083) B rfl rfl g30 (by decide +kernel) ?_
            refine K_iast (lenI := 6) B rfl rfl (by decide) (by decide +kernel) ?_
            obtain ⟨m29, hm29, hf⟩ := jlt_s hf
            rw [hm29]
            refine B_blk B jlkX10_ok jcl_SKF [.iinc 5 1, .goto (-129)] (by decide +kernel) (ls' := [(0, jR 74), (1, jI v1), (3, jI v3), (4, jI v4), (5, jI (jW (v5 + 1))), (6, jI (jW (92 + jW (7 * v5))))]) (st' := []) rfl (p1 := 73) rfl ?_
            refine J_pick [0, 1, 2, 3, 4] (ls' := [(0, jR 74), (1, jI v1), (3, jI v3), (4, jI v4), (5, jI (jW (v5 + 1)))]) rfl ?_
            exact ih v1 v3 v4 (jW (v5 + 1)) m29 _ hf hq
          · refine B_blk B jlkX10_ok jcl_SKF [.iconst 0] (by decide +kernel) (ls' := [(0, jR 74), (1, jI v1), (3, jI v3), (4, jI v4), (5, jI v5), (6, jI (jW (92 + jW (7 * v5))))]) (st' := [jI 0, jR 74]) rfl (p1 := 165) rfl ?_
            refine K_putZ (jI' := 12) B jp_X10_119 rfl rfl rfl (Or.inl rfl) (by decide +kernel) ?_
            obtain ⟨m32, hm32, hf⟩ := jlt_s hf
            rw [hm32]
            refine B_blk B jlkX10_ok jcl_SKF [.aload_n 0, .getfield 23, .iconst 2, .aload_n 0, .getfield 7, .iload 6, .iconst 5, .iadd] (by decide +kernel) (ls' := [(0, jR 74), (1, jI v1), (3, jI v3), (4, jI v4), (5, jI v5), (6, jI (jW (92 + jW (7 * v5))))]) (st' := [jI (jW (jW (92 + jW (7 * v5)) + 5)), jR 75, jI 2, jR 78]) rfl (p1 := 181) rfl ?_
            obtain ⟨g36, hf⟩ := jgd hf
            refine K_iald (lenI := 2083) B rfl rfl g36 (by decide +kernel) ?_
            refine K_iast (lenI := 6) B rfl rfl (by decide) (by decide +kernel) ?_
            obtain ⟨m33, hm33, hf⟩ := jlt_s hf
            rw [hm33]
            refine B_blk B jlkX10_ok jcl_SKF [.aload_n 0, .getfield 23, .iconst 3, .aload_n 0, .getfield 7, .iload 6, .bipush 6, .iadd] (by decide +kernel) (ls' := [(0, jR 74), (1, jI v1), (3, jI v3), (4, jI v4), (5, jI v5), (6, jI (jW (92 + jW (7 * v5))))]) (st' := [jI (jW (jW (92 + jW (7 * v5)) + 6)), jR 75, jI 3, jR 78]) rfl (p1 := 197) rfl ?_
            obtain ⟨g35, hf⟩ := jgd hf
            refine K_iald (lenI := 2083) B rfl rfl g35 (by decide +kernel) ?_
            refine K_iast (lenI := 6) B rfl rfl (by decide) (by decide +kernel) ?_
            obtain ⟨m34, hm34, hf⟩ := jlt_s hf
            rw [hm34]
            refine B_blk B jlkX10_ok jcl_SKF [.iinc 5 1, .goto (-129)] (by decide +kernel) (ls' := [(0, jR 74), (1, jI v1), (3, jI v3), (4, jI v4), (5, jI (jW (v5 + 1))), (6, jI (jW (92 + jW (7 * v5))))]) (st' := []) rfl (p1 := 73) rfl ?_
            refine J_pick [0, 1, 2, 3, 4] (ls' := [(0, jR 74), (1, jI v1), (3, jI v3), (4, jI v4), (5, jI (jW (v5 + 1)))]) rfl ?_
            exact ih v1 v3 v4 (jW (v5 + 1)) m34 _ hf hq
theorem t_X10_stands {l : Launch} {G : jG} (hl : l.stackTraces = false) {a0 : Int} {a1 : Int} {m : jMu} {r : jMu} (hf : f_X10_stands a0 a1 m = some r) : jCt l G yX10_stands (.code yX10_stands cX10_stands 7 none :: jWG) rm_X10_stands [jR 74, jI a0, jI a1] SKF m (.inl none) SKF r := by
  unfold f_X10_stands at hf
  refine J_start (ls0 := [(0, jR 74), (1, jI a0), (2, jI a1)]) (by decide +kernel) hl (Nat.le_of_ble_eq_true rfl) rfl fun X C hN hn hR hr hnm hno hq => ?_
  have B : jB X cX10_stands RX10 7 SKF.length rm_X10_stands none := ⟨C, hN, Nat.le_of_eq hn, hR, hr⟩
  refine B_blk B jlkX10_ok jcl_SKF [.iload_n 2, .bipush 12] (by decide +kernel) (ls' := [(0, jR 74), (1, jI a0), (2, jI a1)]) (st' := [jI 12, jI a1]) rfl (p1 := 3) rfl ?_
  refine K_idiv B (by decide) (by decide +kernel) ?_
  refine B_blk B jlkX10_ok jcl_SKF [.istore_n 3, .iload_n 2, .bipush 12] (by decide +kernel) (ls' := [(0, jR 74), (1, jI a0), (2, jI a1), (3, jI (jDv a1 12))]) (st' := [jI 12, jI a1]) rfl (p1 := 8) rfl ?_
  refine K_irem B (by decide) (by decide +kernel) ?_
  refine B_blk B jlkX10_ok jcl_SKF [.istore 4, .aload_n 0, .getfield 23, .iconst 0, .iload_n 3] (by decide +kernel) (ls' := [(0, jR 74), (1, jI a0), (2, jI a1), (3, jI (jDv a1 12)), (4, jI (jRm a1 12))]) (st' := [jI (jDv a1 12), jI 0, jR 78]) rfl (p1 := 17) rfl ?_
  refine K_iast (lenI := 6) B rfl rfl (by decide) (by decide +kernel) ?_
  obtain ⟨m1, hm1, hf⟩ := jlt_s hf
  rw [hm1]
  refine B_blk B jlkX10_ok jcl_SKF [.aload_n 0, .getfield 23, .iconst 1, .iload 4] (by decide +kernel) (ls' := [(0, jR 74), (1, jI a0), (2, jI a1), (3, jI (jDv a1 12)), (4, jI (jRm a1 12))]) (st' := [jI (jRm a1 12), jI 1, jR 78]) rfl (p1 := 25) rfl ?_
  refine K_iast (lenI := 6) B rfl rfl (by decide) (by decide +kernel) ?_
  obtain ⟨m2, hm2, hf⟩ := jlt_s hf
  rw [hm2]
  refine B_blk B jlkX10_ok jcl_SKF [.aload_n 0, .getfield 23, .iconst 2, .iconst 0] (by decide +kernel) (ls' := [(0, jR 74), (1, jI a0), (2, jI a1), (3, jI (jDv a1 12)), (4, jI (jRm a1 12))]) (st' := [jI 0, jI 2, jR 78]) rfl (p1 := 32) rfl ?_
  refine K_iast (lenI := 6) B rfl rfl (by decide) (by decide +kernel) ?_
  obtain ⟨m3, hm3, hf⟩ := jlt_s hf
  rw [hm3]
  refine B_blk B jlkX10_ok jcl_SKF [.aload_n 0, .getfield 23, .iconst 3, .bipush 10] (by decide +kernel) (ls' := [(0, jR 74), (1, jI a0), (2, jI a1), (3, jI (jDv a1 12)), (4, jI (jRm a1 12))]) (st' := [jI 10, jI 3, jR 78]) rfl (p1 := 40) rfl ?_
  refine K_iast (lenI := 6) B rfl rfl (by decide) (by decide +kernel) ?_
  obtain ⟨m4, hm4, hf⟩ := jlt_s hf
  rw [hm4]
  refine B_blk B jlkX10_ok jcl_SKF [.aload_n 0, .getfield 23, .iconst 4, .aload_n 0, .iload_n 1, .iconst 1] (by decide +kernel) (ls' := [(0, jR 74), (1, jI a0), (2, jI a1), (3, jI (jDv a1 12)), (4, jI (jRm a1 12))]) (st' := [jI 1, jI a0, jR 74, jI 4, jR 78]) rfl (p1 := 49) rfl ?_
  obtain ⟨r5, h5, hf⟩ := jbd hf
  refine B_callV B (Nat.le_refl _) (μ' := m4) (k' := 0) (n' := 0) ca_X10_ofBay in_X10_ofBay se_X10_ofBay lk_X10_182 (t_X10_ofBay B.tr h5) (Nat.le_refl _) rfl rfl rfl (rest := [jI 4, jR 78]) rfl rfl (Nat.le_of_ble_eq_true rfl) (by decide +kernel) rfl rfl (st' := [jI r5, jI 4, jR 78]) rfl ?_
  refine K_iast (lenI := 6) B rfl rfl (by decide) (by decide +kernel) ?_
  obtain ⟨m6, hm6, hf⟩ := jlt_s hf
  rw [hm6]
  refine B_blk B jlkX10_ok jcl_SKF [.aload_n 0, .getfield 23, .iconst 5, .aload_n 0, .iload_n 1, .iconst 0] (by decide +kernel) (ls' := [(0, jR 74), (1, jI a0), (2, jI a1), (3, jI (jDv a1 12)), (4, jI (jRm a1 12))]) (st' := [jI 0, jI a0, jR 74, jI 5, jR 78]) rfl (p1 := 61) rfl ?_
  obtain ⟨r7, h7, hf⟩ := jbd hf
  refine B_callV B (Nat.le_refl _) (μ' := m6) (k' := 0) (n' := 0) ca_X10_ofBay in_X10_ofBay se_X10_ofBay lk_X10_182 (t_X10_ofBay B.tr h7) (Nat.le_refl _) rfl rfl rfl (rest := [jI 5, jR 78]) rfl rfl (Nat.le_of_ble_eq_true rfl) (by decide +kernel) rfl rfl (st' := [jI r7, jI 5, jR 78]) rfl ?_
  refine K_iast (lenI := 6) B rfl rfl (by decide) (by decide +kernel) ?_
  obtain ⟨m8, hm8, hf⟩ := jlt_s hf
  rw [hm8]
  refine B_blk B jlkX10_ok jcl_SKF [.aload_n 0, .iconst 0] (by decide +kernel) (ls' := [(0, jR 74), (1, jI a0), (2, jI a1), (3, jI (jDv a1 12)), (4, jI (jRm a1 12))]) (st' := [jI 0, jR 74]) rfl (p1 := 67) rfl ?_
  refine K_putZ (jI' := 12) B jp_X10_119 rfl rfl rfl (Or.inl rfl) (by decide +kernel) ?_
  obtain ⟨m9, hm9, hf⟩ := jlt_s hf
  rw [hm9]
  refine B_blk B jlkX10_ok jcl_SKF [.iconst 0, .istore 5] (by decide +kernel) (ls' := [(0, jR 74), (1, jI a0), (2, jI a1), (3, jI (jDv a1 12)), (4, jI (jRm a1 12)), (5, jI 0)]) (st' := []) rfl (p1 := 73) rfl ?_
  refine J_pick [0, 1, 3, 4, 5] (ls' := [(0, jR 74), (1, jI a0), (3, jI (jDv a1 12)), (4, jI (jRm a1 12)), (5, jI 0)]) rfl ?_
  exact t_X10_stands_L73 B jFU a0 (jDv a1 12) (jRm a1 12) 0 m9 _ hf hq

def rm_X10_asks : Room := { frames := 67, cells := 0, slots := 0, locals := 994 }
def f_X10_asks (a0 : Int) (m : jMu) : Option jMu :=
  (jlt (jup m 74 9 (-1)) fun m1 => (jlt (jup m1 74 6 (jW (jW (880 + jW (401 * a0)) + 1))) fun m2 => (if 0 ≤ jW (m2 74 6 - 1) ∧ jW (m2 74 6 - 1) < 2083 then (jlt (jup m2 74 7 (m2 75 (jW (m2 74 6 - 1)))) fun m3 => (f_X10_lines m3).bind fun r4 => (jlt (jup r4 74 9 (m 74 9)) fun m5 => some m5)) else none)))
theorem t_X10_asks {l : Launch} {G : jG} (hl : l.stackTraces = false) {a0 : Int} {m : jMu} {r : jMu} (hf : f_X10_asks a0 m = some r) : jCt l G yX10_asks (.code yX10_asks cX10_asks 3 none :: jWG) rm_X10_asks [jR 74, jI a0] SKF m (.inl none) SKF r := by
  unfold f_X10_asks at hf
  refine J_start (ls0 := [(0, jR 74), (1, jI a0)]) (by decide +kernel) hl (Nat.le_of_ble_eq_true rfl) rfl fun X C hN hn hR hr hnm hno hq => ?_
  have B : jB X cX10_asks RX10 3 SKF.length rm_X10_asks none := ⟨C, hN, Nat.le_of_eq hn, hR, hr⟩
  refine B_blk B jlkX10_ok jcl_SKF [.aload_n 0, .getfield 19, .istore_n 2, .aload_n 0, .iconst (-1)] (by decide +kernel) (ls' := [(0, jR 74), (1, jI a0), (2, jI (m 74 9))]) (st' := [jI (-1), jR 74]) rfl (p1 := 7) rfl ?_
  refine K_putI (jI' := 9) B jp_X10_19 rfl rfl rfl (by decide +kernel) ?_
  obtain ⟨m1, hm1, hf⟩ := jlt_s hf
  rw [hm1]
  refine B_blk B jlkX10_ok jcl_SKF [.aload_n 0, .sipush 880, .sipush 401, .iload_n 1, .imul, .iadd, .iconst 1, .iadd] (by decide +kernel) (ls' := [(0, jR 74), (1, jI a0), (2, jI (m 74 9))]) (st' := [jI (jW (jW (880 + jW (401 * a0)) + 1)), jR 74]) rfl (p1 := 22) rfl ?_
  refine K_putI (jI' := 6) B jp_X10_61 rfl rfl rfl (by decide +kernel) ?_
  obtain ⟨m2, hm2, hf⟩ := jlt_s hf
  rw [hm2]
  refine B_blk B jlkX10_ok jcl_SKF [.aload_n 0, .aload_n 0, .getfield 7, .aload_n 0, .getfield 61, .iconst 1, .isub] (by decide +kernel) (ls' := [(0, jR 74), (1, jI a0), (2, jI (m 74 9))]) (st' := [jI (jW (m2 74 6 - 1)), jR 75, jR 74]) rfl (p1 := 36) rfl ?_
  obtain ⟨g6, hf⟩ := jgd hf
  refine K_iald (lenI := 2083) B rfl rfl g6 (by decide +kernel) ?_
  refine K_putI (jI' := 7) B jp_X10_67 rfl rfl rfl (by decide +kernel) ?_
  obtain ⟨m3, hm3, hf⟩ := jlt_s hf
  rw [hm3]
  refine B_blk B jlkX10_ok jcl_SKF [.aload_n 0] (by decide +kernel) (ls' := [(0, jR 74), (1, jI a0), (2, jI (m 74 9))]) (st' := [jR 74]) rfl (p1 := 41) rfl ?_
  obtain ⟨r4, h4, hf⟩ := jbd hf
  refine B_callV B (Nat.le_refl _) (μ' := r4) (k' := 0) (n' := 0) ca_X10_lines in_X10_lines se_X10_lines lk_X10_179 (t_X10_lines B.tr h4) (Nat.le_refl _) rfl rfl rfl (rest := []) rfl rfl (Nat.le_of_ble_eq_true rfl) (by decide +kernel) rfl rfl (st' := []) rfl ?_
  refine B_blk B jlkX10_ok jcl_SKF [.aload_n 0, .iload_n 2] (by decide +kernel) (ls' := [(0, jR 74), (1, jI a0), (2, jI (m 74 9))]) (st' := [jI (m 74 9), jR 74]) rfl (p1 := 46) rfl ?_
  refine K_putI (jI' := 9) B jp_X10_19 rfl rfl rfl (by decide +kernel) ?_
  obtain ⟨m5, hm5, hf⟩ := jlt_s hf
  rw [hm5]
  cases hf
  exact B_retV B hq rfl (Nat.le_of_ble_eq_true rfl) (Nat.le_of_ble_eq_true rfl) (by decide +kernel)

def rm_X10_isStrike : Room := { frames := 4, cells := 0, slots := 0, locals := 86 }
def f_X10_isStrike_L2 : Nat → Int → Int → jMu → Option Int
  | 0, _, _, _ => none
  | q + 1, v1, v2, m => (if m 75 3 ≤ v2 then some 0 else (if 0 ≤ jW (314 + jW (2 * v2)) ∧ jW (314 + jW (2 * v2)) < 2083 then (if 0 ≤ jW (jW (314 + jW (2 * v2)) + 1) ∧ jW (jW (314 + jW (2 * v2)) + 1) < 2083 then (f_X10_isIn v1 (m 75 (jW (314 + jW (2 * v2)))) (m 75 (jW (jW (314 + jW (2 * v2)) + 1)))).bind fun r1 => (if r1 = 0 then f_X10_isStrike_L2 q v1 (jW (v2 + 1)) m else some 1) else none) else none))
def f_X10_isStrike (a0 : Int) (m : jMu) : Option Int :=
  f_X10_isStrike_L2 jFU a0 0 m
theorem t_X10_isStrike_L2 {X : jX} (B : jB X cX10_isStrike RX10 3 SKF.length rm_X10_isStrike (some .boolean)) : ∀ (q : Nat) (v1 : Int) (v2 : Int) (m : jMu) (r : Int), f_X10_isStrike_L2 q v1 v2 m = some r → jQ X (.inl (some (jI r))) SKF m rm_X10_isStrike.cells rm_X10_isStrike.slots → J X SKF m 0 0 2 [(0, jR 74), (1, jI v1), (2, jI v2)] [] := by
  intro q
  induction q with
  | zero =>
    intro v1 v2 m r hf
    rw [f_X10_isStrike_L2] at hf
    cases hf
  | succ q ih =>
    intro v1 v2 m r hf hq
    rw [f_X10_isStrike_L2] at hf
    refine B_blk B jlkX10_ok jcl_SKF [.iload_n 2, .aload_n 0, .getfield 7, .iconst 3] (by decide +kernel) (ls' := [(0, jR 74), (1, jI v1), (2, jI v2)]) (st' := [jI 3, jR 75, jI v2]) rfl (p1 := 8) rfl ?_
    refine K_iald (lenI := 2083) B rfl rfl (by decide) (by decide +kernel) ?_
    refine J_icmp_ge B.1 (off := 44) (tgt := 53) (by decide +kernel) (by decide) hf (fun hf => ?_) (fun hf => ?_)
    · refine B_blk B jlkX10_ok jcl_SKF [.iconst 0] (by decide +kernel) (ls' := [(0, jR 74), (1, jI v1), (2, jI v2)]) (st' := [jI 0]) rfl (p1 := 54) rfl ?_
      cases hf
      exact B_retZ B (Or.inl rfl) hq rfl (Nat.le_of_ble_eq_true rfl) (Nat.le_of_ble_eq_true rfl) (by decide +kernel)
    · refine B_blk B jlkX10_ok jcl_SKF [.iload_n 1, .aload_n 0, .getfield 7, .sipush 314, .iconst 2, .iload_n 2, .imul, .iadd] (by decide +kernel) (ls' := [(0, jR 74), (1, jI v1), (2, jI v2)]) (st' := [jI (jW (314 + jW (2 * v2))), jR 75, jI v1]) rfl (p1 := 24) rfl ?_
      obtain ⟨g3, hf⟩ := jgd hf
      refine K_iald (lenI := 2083) B rfl rfl g3 (by decide +kernel) ?_
      refine B_blk B jlkX10_ok jcl_SKF [.aload_n 0, .getfield 7, .sipush 314, .iconst 2, .iload_n 2, .imul, .iadd, .iconst 1, .iadd] (by decide +kernel) (ls' := [(0, jR 74), (1, jI v1), (2, jI v2)]) (st' := [jI (jW (jW (314 + jW (2 * v2)) + 1)), jR 75, jI (m 75 (jW (314 + jW (2 * v2)))), jI v1]) rfl (p1 := 38) rfl ?_
      obtain ⟨g2, hf⟩ := jgd hf
      refine K_iald (lenI := 2083) B rfl rfl g2 (by decide +kernel) ?_
      obtain ⟨r1, h1, hf⟩ := jbd hf
      refine B_callS B (Nat.le_refl _) (μ' := m) (k' := 0) (n' := 0) ca_X10_isIn sa_X10_isIn lk_X10_54 (t_X10_isIn B.tr jcl_SKF h1) (Nat.le_refl _) rfl (rest := []) rfl rfl (Nat.le_of_ble_eq_true rfl) (by decide +kernel) rfl rfl (st' := [jI r1]) rfl ?_
      refine J_if_eq B.1 (off := 5) (tgt := 47) (by decide +kernel) (by decide) hf (fun hf => ?_) (fun hf => ?_)
      · refine B_blk B jlkX10_ok jcl_SKF [.iinc 2 1, .goto (-48)] (by decide +kernel) (ls' := [(0, jR 74), (1, jI v1), (2, jI (jW (v2 + 1)))]) (st' := []) rfl (p1 := 2) rfl ?_
        exact ih v1 (jW (v2 + 1)) m _ hf hq
      · refine B_blk B jlkX10_ok jcl_SKF [.iconst 1] (by decide +kernel) (ls' := [(0, jR 74), (1, jI v1), (2, jI v2)]) (st' := [jI 1]) rfl (p1 := 46) rfl ?_
        cases hf
        exact B_retZ B (Or.inr rfl) hq rfl (Nat.le_of_ble_eq_true rfl) (Nat.le_of_ble_eq_true rfl) (by decide +kernel)
theorem t_X10_isStrike {l : Launch} {G : jG} (hl : l.stackTraces = false) {a0 : Int} {m : jMu} {r : Int} (hf : f_X10_isStrike a0 m = some r) : jCt l G yX10_isStrike (.code yX10_isStrike cX10_isStrike 3 (some .boolean) :: jWG) rm_X10_isStrike [jR 74, jI a0] SKF m (.inl (some (jI r))) SKF m := by
  unfold f_X10_isStrike at hf
  refine J_start (ls0 := [(0, jR 74), (1, jI a0)]) (by decide +kernel) hl (Nat.le_of_ble_eq_true rfl) rfl fun X C hN hn hR hr hnm hno hq => ?_
  have B : jB X cX10_isStrike RX10 3 SKF.length rm_X10_isStrike (some .boolean) := ⟨C, hN, Nat.le_of_eq hn, hR, hr⟩
  refine B_blk B jlkX10_ok jcl_SKF [.iconst 0, .istore_n 2] (by decide +kernel) (ls' := [(0, jR 74), (1, jI a0), (2, jI 0)]) (st' := []) rfl (p1 := 2) rfl ?_
  exact t_X10_isStrike_L2 B jFU a0 0 m _ hf hq

def rm_X10_whyOf : Room := { frames := 69, cells := 0, slots := 0, locals := 1016 }
def f_X10_whyOf (a0 : Int) (a1 : Int) (a2 : Int) (m : jMu) : Option (Int × jMu) :=
  (f_X10_stands a1 a2 m).bind fun r1 => (f_X10_asks a0 r1).bind fun r2 => (f_X10_isStrike (jDv a2 12) r2).bind fun r3 => (if r3 = 0 then (if r2 74 15 = (-1) then some (0, r2) else some (jW (2 + r2 74 15), r2)) else some (1, r2))
theorem t_X10_whyOf {l : Launch} {G : jG} (hl : l.stackTraces = false) {a0 : Int} {a1 : Int} {a2 : Int} {m : jMu} {r : (Int × jMu)} (hf : f_X10_whyOf a0 a1 a2 m = some r) : jCt l G yX10_whyOf (.code yX10_whyOf cX10_whyOf 4 (some .int) :: jWG) rm_X10_whyOf [jR 74, jI a0, jI a1, jI a2] SKF m (.inl (some (jI r.1))) SKF r.2 := by
  unfold f_X10_whyOf at hf
  refine J_start (ls0 := [(0, jR 74), (1, jI a0), (2, jI a1), (3, jI a2)]) (by decide +kernel) hl (Nat.le_of_ble_eq_true rfl) rfl fun X C hN hn hR hr hnm hno hq => ?_
  have B : jB X cX10_whyOf RX10 4 SKF.length rm_X10_whyOf (some .int) := ⟨C, hN, Nat.le_of_eq hn, hR, hr⟩
  refine B_blk B jlkX10_ok jcl_SKF [.aload_n 0, .iload_n 2, .iload_n 3] (by decide +kernel) (ls' := [(0, jR 74), (1, jI a0), (2, jI a1), (3, jI a2)]) (st' := [jI a2, jI a1, jR 74]) rfl (p1 := 3) rfl ?_
  obtain ⟨r1, h1, hf⟩ := jbd hf
  refine B_callV B (Nat.le_refl _) (μ' := r1) (k' := 0) (n' := 0) ca_X10_stands in_X10_stands se_X10_stands lk_X10_189 (t_X10_stands B.tr h1) (Nat.le_refl _) rfl rfl rfl (rest := []) rfl rfl (Nat.le_of_ble_eq_true rfl) (by decide +kernel) rfl rfl (st' := []) rfl ?_
  refine B_blk B jlkX10_ok jcl_SKF [.aload_n 0, .iload_n 1] (by decide +kernel) (ls' := [(0, jR 74), (1, jI a0), (2, jI a1), (3, jI a2)]) (st' := [jI a0, jR 74]) rfl (p1 := 8) rfl ?_
  obtain ⟨r2, h2, hf⟩ := jbd hf
  refine B_callV B (Nat.le_refl _) (μ' := r2) (k' := 0) (n' := 0) ca_X10_asks in_X10_asks se_X10_asks lk_X10_193 (t_X10_asks B.tr h2) (Nat.le_refl _) rfl rfl rfl (rest := []) rfl rfl (Nat.le_of_ble_eq_true rfl) (by decide +kernel) rfl rfl (st' := []) rfl ?_
  refine B_blk B jlkX10_ok jcl_SKF [.aload_n 0, .iload_n 3, .bipush 12] (by decide +kernel) (ls' := [(0, jR 74), (1, jI a0), (2, jI a1), (3, jI a2)]) (st' := [jI 12, jI a2, jR 74]) rfl (p1 := 15) rfl ?_
  refine K_idiv B (by decide) (by decide +kernel) ?_
  obtain ⟨r3, h3, hf⟩ := jbd hf
  refine B_callV B (Nat.le_refl _) (μ' := r2) (k' := 0) (n' := 0) ca_X10_isStrike in_X10_isStrike se_X10_isStrike lk_X10_196 (t_X10_isStrike B.tr h3) (Nat.le_refl _) rfl rfl rfl (rest := []) rfl rfl (Nat.le_of_ble_eq_true rfl) (by decide +kernel) rfl rfl (st' := [jI r3]) rfl ?_
  refine J_if_eq B.1 (off := 7) (tgt := 26) (by decide +kernel) (by decide) hf (fun hf => ?_) (fun hf => ?_)
  · refine B_blk B jlkX10_ok jcl_SKF [.aload_n 0, .getfield 168, .iconst (-1)] (by decide +kernel) (ls' := [(0, jR 74), (1, jI a0), (2, jI a1), (3, jI a2)]) (st' := [jI (-1), jI (r2 74 15)]) rfl (p1 := 31) rfl ?_
    refine J_icmp_ne B.1 (off := 7) (tgt := 38) (by decide +kernel) (by decide) hf (fun hf => ?_) (fun hf => ?_)
    · refine B_blk B jlkX10_ok jcl_SKF [.iconst 0, .goto 9] (by decide +kernel) (ls' := [(0, jR 74), (1, jI a0), (2, jI a1), (3, jI a2)]) (st' := [jI 0]) rfl (p1 := 44) rfl ?_
      cases hf
      exact B_retI B hq rfl (Nat.le_of_ble_eq_true rfl) (Nat.le_of_ble_eq_true rfl) (by decide +kernel)
    · refine B_blk B jlkX10_ok jcl_SKF [.iconst 2, .aload_n 0, .getfield 168, .iadd] (by decide +kernel) (ls' := [(0, jR 74), (1, jI a0), (2, jI a1), (3, jI a2)]) (st' := [jI (jW (2 + r2 74 15))]) rfl (p1 := 44) rfl ?_
      cases hf
      exact B_retI B hq rfl (Nat.le_of_ble_eq_true rfl) (Nat.le_of_ble_eq_true rfl) (by decide +kernel)
  · refine B_blk B jlkX10_ok jcl_SKF [.iconst 1, .goto 21] (by decide +kernel) (ls' := [(0, jR 74), (1, jI a0), (2, jI a1), (3, jI a2)]) (st' := [jI 1]) rfl (p1 := 44) rfl ?_
    cases hf
    exact B_retI B hq rfl (Nat.le_of_ble_eq_true rfl) (Nat.le_of_ble_eq_true rfl) (by decide +kernel)

def rm_X10_why : Room := { frames := 71, cells := 0, slots := 0, locals := 1039 }
def f_X10_why_J37 (v1 : Int) (v2 : Int) (v3 : Int) (v4 : Int) (s1 : Int) (m : jMu) : Option (Int × jMu) :=
  (jlt (jup m 74 0 s1) fun m2 => (if m2 74 0 ≤ 0 then (f_X10_whyOf v1 v2 (jW (jW (12 * v3) + v4)) m2).bind fun r3 => some (r3.1, r3.2) else some (0, m2)))
def f_X10_why_J32 (v1 : Int) (v2 : Int) (v3 : Int) (v4 : Int) (m : jMu) : Option (Int × jMu) :=
  f_X10_why_J37 v1 v2 v3 v4 1 m
def f_X10_why (a0 : Int) (a1 : Int) (a2 : Int) (a3 : Int) (m : jMu) : Option (Int × jMu) :=
  (f_X10_isTerms a0 m).bind fun r1 => (if r1 = 0 then f_X10_why_J32 a0 a1 a2 a3 m else (f_X10_isBay a1 m).bind fun r4 => (if r4 = 0 then f_X10_why_J32 a0 a1 a2 a3 m else (f_X10_isDay a2).bind fun r5 => (if r5 = 0 then f_X10_why_J32 a0 a1 a2 a3 m else (f_X10_isHour a3).bind fun r6 => (if r6 = 0 then f_X10_why_J32 a0 a1 a2 a3 m else f_X10_why_J37 a0 a1 a2 a3 0 m))))
theorem t_X10_why_J37 {X : jX} (B : jB X cX10_why RX10 5 SKF.length rm_X10_why (some .int)) (v1 : Int) (v2 : Int) (v3 : Int) (v4 : Int) (s1 : Int) (m : jMu) (r : (Int × jMu)) (hf : f_X10_why_J37 v1 v2 v3 v4 s1 m = some r) (hq : jQ X (.inl (some (jI r.1))) SKF r.2 rm_X10_why.cells rm_X10_why.slots) : J X SKF m 0 0 37 [(0, jR 74), (1, jI v1), (2, jI v2), (3, jI v3), (4, jI v4)] [jI s1, jR 74] := by
  unfold f_X10_why_J37 at hf
  refine K_putI (jI' := 0) B jp_X10_51 rfl rfl rfl (by decide +kernel) ?_
  obtain ⟨m2, hm2, hf⟩ := jlt_s hf
  rw [hm2]
  refine B_blk B jlkX10_ok jcl_SKF [.aload_n 0, .getfield 51] (by decide +kernel) (ls' := [(0, jR 74), (1, jI v1), (2, jI v2), (3, jI v3), (4, jI v4)]) (st' := [jI (m2 74 0)]) rfl (p1 := 44) rfl ?_
  refine J_if_le B.1 (off := 5) (tgt := 49) (by decide +kernel) (by decide) hf (fun hf => ?_) (fun hf => ?_)
  · refine B_blk B jlkX10_ok jcl_SKF [.aload_n 0, .iload_n 1, .iload_n 2, .bipush 12, .iload_n 3, .imul, .iload 4, .iadd] (by decide +kernel) (ls' := [(0, jR 74), (1, jI v1), (2, jI v2), (3, jI v3), (4, jI v4)]) (st' := [jI (jW (jW (12 * v3) + v4)), jI v2, jI v1, jR 74]) rfl (p1 := 59) rfl ?_
    obtain ⟨r3, h3, hf⟩ := jbd hf
    refine B_callV B (Nat.le_refl _) (μ' := r3.2) (k' := 0) (n' := 0) ca_X10_whyOf in_X10_whyOf se_X10_whyOf lk_X10_199 (t_X10_whyOf B.tr h3) (Nat.le_refl _) rfl rfl rfl (rest := []) rfl rfl (Nat.le_of_ble_eq_true rfl) (by decide +kernel) rfl rfl (st' := [jI r3.1]) rfl ?_
    cases hf
    exact B_retI B hq rfl (Nat.le_of_ble_eq_true rfl) (Nat.le_of_ble_eq_true rfl) (by decide +kernel)
  · refine B_blk B jlkX10_ok jcl_SKF [.iconst 0] (by decide +kernel) (ls' := [(0, jR 74), (1, jI v1), (2, jI v2), (3, jI v3), (4, jI v4)]) (st' := [jI 0]) rfl (p1 := 48) rfl ?_
    cases hf
    exact B_retI B hq rfl (Nat.le_of_ble_eq_true rfl) (Nat.le_of_ble_eq_true rfl) (by decide +kernel)
theorem t_X10_why_J32 {X : jX} (B : jB X cX10_why RX10 5 SKF.length rm_X10_why (some .int)) (v1 : Int) (v2 : Int) (v3 : Int) (v4 : Int) (m : jMu) (r : (Int × jMu)) (hf : f_X10_why_J32 v1 v2 v3 v4 m = some r) (hq : jQ X (.inl (some (jI r.1))) SKF r.2 rm_X10_why.cells rm_X10_why.slots) : J X SKF m 0 0 32 [(0, jR 74), (1, jI v1), (2, jI v2), (3, jI v3), (4, jI v4)] [jR 74] := by
  unfold f_X10_why_J32 at hf
  refine B_blk B jlkX10_ok jcl_SKF [.iconst 1, .goto 4] (by decide +kernel) (ls' := [(0, jR 74), (1, jI v1), (2, jI v2), (3, jI v3), (4, jI v4)]) (st' := [jI 1, jR 74]) rfl (p1 := 37) rfl ?_
  exact t_X10_why_J37 B v1 v2 v3 v4 1 m _ hf hq
theorem t_X10_why {l : Launch} {G : jG} (hl : l.stackTraces = false) {a0 : Int} {a1 : Int} {a2 : Int} {a3 : Int} {m : jMu} {r : (Int × jMu)} (hf : f_X10_why a0 a1 a2 a3 m = some r) : jCt l G yX10_why (.code yX10_why cX10_why 5 (some .int) :: jWG) rm_X10_why [jR 74, jI a0, jI a1, jI a2, jI a3] SKF m (.inl (some (jI r.1))) SKF r.2 := by
  unfold f_X10_why at hf
  refine J_start (ls0 := [(0, jR 74), (1, jI a0), (2, jI a1), (3, jI a2), (4, jI a3)]) (by decide +kernel) hl (Nat.le_of_ble_eq_true rfl) rfl fun X C hN hn hR hr hnm hno hq => ?_
  have B : jB X cX10_why RX10 5 SKF.length rm_X10_why (some .int) := ⟨C, hN, Nat.le_of_eq hn, hR, hr⟩
  refine B_blk B jlkX10_ok jcl_SKF [.aload_n 0, .aload_n 0, .iload_n 1] (by decide +kernel) (ls' := [(0, jR 74), (1, jI a0), (2, jI a1), (3, jI a2), (4, jI a3)]) (st' := [jI a0, jR 74, jR 74]) rfl (p1 := 3) rfl ?_
  obtain ⟨r1, h1, hf⟩ := jbd hf
  refine B_callV B (Nat.le_refl _) (μ' := m) (k' := 0) (n' := 0) ca_X10_isTerms in_X10_isTerms se_X10_isTerms lk_X10_203 (t_X10_isTerms B.tr h1) (Nat.le_refl _) rfl rfl rfl (rest := [jR 74]) rfl rfl (Nat.le_of_ble_eq_true rfl) (by decide +kernel) rfl rfl (st' := [jI r1, jR 74]) rfl ?_
  refine J_if_eq B.1 (off := 26) (tgt := 32) (by decide +kernel) (by decide) hf (fun hf => ?_) (fun hf => ?_)
  · exact t_X10_why_J32 B a0 a1 a2 a3 m _ hf hq
  · refine B_blk B jlkX10_ok jcl_SKF [.aload_n 0, .iload_n 2] (by decide +kernel) (ls' := [(0, jR 74), (1, jI a0), (2, jI a1), (3, jI a2), (4, jI a3)]) (st' := [jI a1, jR 74, jR 74]) rfl (p1 := 11) rfl ?_
    obtain ⟨r4, h4, hf⟩ := jbd hf
    refine B_callV B (Nat.le_refl _) (μ' := m) (k' := 0) (n' := 0) ca_X10_isBay in_X10_isBay se_X10_isBay lk_X10_206 (t_X10_isBay B.tr h4) (Nat.le_refl _) rfl rfl rfl (rest := [jR 74]) rfl rfl (Nat.le_of_ble_eq_true rfl) (by decide +kernel) rfl rfl (st' := [jI r4, jR 74]) rfl ?_
    refine J_if_eq B.1 (off := 18) (tgt := 32) (by decide +kernel) (by decide) hf (fun hf => ?_) (fun hf => ?_)
    · exact t_X10_why_J32 B a0 a1 a2 a3 m _ hf hq
    · refine B_blk B jlkX10_ok jcl_SKF [.iload_n 3] (by decide +kernel) (ls' := [(0, jR 74), (1, jI a0), (2, jI a1), (3, jI a2), (4, jI a3)]) (st' := [jI a2, jR 74]) rfl (p1 := 18) rfl ?_
      obtain ⟨r5, h5, hf⟩ := jbd hf
      refine B_callS B (Nat.le_refl _) (μ' := m) (k' := 0) (n' := 0) ca_X10_isDay sa_X10_isDay lk_X10_209 (t_X10_isDay B.tr jcl_SKF h5) (Nat.le_refl _) rfl (rest := [jR 74]) rfl rfl (Nat.le_of_ble_eq_true rfl) (by decide +kernel) rfl rfl (st' := [jI r5, jR 74]) rfl ?_
      refine J_if_eq B.1 (off := 11) (tgt := 32) (by decide +kernel) (by decide) hf (fun hf => ?_) (fun hf => ?_)
      · exact t_X10_why_J32 B a0 a1 a2 a3 m _ hf hq
      · refine B_blk B jlkX10_ok jcl_SKF [.iload 4] (by decide +kernel) (ls' := [(0, jR 74), (1, jI a0), (2, jI a1), (3, jI a2), (4, jI a3)]) (st' := [jI a3, jR 74]) rfl (p1 := 26) rfl ?_
        obtain ⟨r6, h6, hf⟩ := jbd hf
        refine B_callS B (Nat.le_refl _) (μ' := m) (k' := 0) (n' := 0) ca_X10_isHour sa_X10_isHour lk_X10_212 (t_X10_isHour B.tr jcl_SKF h6) (Nat.le_refl _) rfl (rest := [jR 74]) rfl rfl (Nat.le_of_ble_eq_true rfl) (by decide +kernel) rfl rfl (st' := [jI r6, jR 74]) rfl ?_
        refine J_if_ne B.1 (off := 7) (tgt := 36) (by decide +kernel) (by decide) hf (fun hf => ?_) (fun hf => ?_)
        · exact t_X10_why_J32 B a0 a1 a2 a3 m _ hf hq
        · refine B_blk B jlkX10_ok jcl_SKF [.iconst 0] (by decide +kernel) (ls' := [(0, jR 74), (1, jI a0), (2, jI a1), (3, jI a2), (4, jI a3)]) (st' := [jI 0, jR 74]) rfl (p1 := 37) rfl ?_
          exact t_X10_why_J37 B a0 a1 a2 a3 0 m _ hf hq

def rm_X10_at : Room := { frames := 69, cells := 0, slots := 0, locals := 1016 }
def f_X10_at_J52 (v1 : Int) (v2 : Int) (v3 : Int) (v4 : Int) (v5 : Int) (s1 : Int) (m : jMu) : Option (Int × jMu) :=
  (jlt (jup m 74 0 s1) fun m2 => (if m2 74 0 ≤ 0 then (f_X10_stands v2 (jW (jW (12 * v3) + v4)) m2).bind fun r3 => (f_X10_asks v1 r3).bind fun r4 => (if v5 = 0 then some (r4 74 16, r4) else (if v5 = 1 then some (r4 74 17, r4) else (if v5 = 2 then some (r4 74 18, r4) else (if v5 = 3 then some (r4 78 2, r4) else (if v5 = 4 then some (r4 78 3, r4) else (if v5 = 5 then (if r4 74 12 = 0 then some (0, r4) else some (1, r4)) else (if v5 = 6 then (if r4 74 13 = 0 then some (0, r4) else some (1, r4)) else (if r4 74 14 = 0 then some (0, r4) else some (1, r4))))))))) else some (0, m2)))
def f_X10_at_J32 (v1 : Int) (v2 : Int) (v3 : Int) (v4 : Int) (v5 : Int) (m : jMu) : Option (Int × jMu) :=
  f_X10_at_J52 v1 v2 v3 v4 v5 1 m
def f_X10_at (a0 : Int) (a1 : Int) (a2 : Int) (a3 : Int) (a4 : Int) (m : jMu) : Option (Int × jMu) :=
  (f_X10_isTerms a0 m).bind fun r1 => (if r1 = 0 then f_X10_at_J32 a0 a1 a2 a3 a4 m else (f_X10_isBay a1 m).bind fun r5 => (if r5 = 0 then f_X10_at_J32 a0 a1 a2 a3 a4 m else (f_X10_isDay a2).bind fun r6 => (if r6 = 0 then f_X10_at_J32 a0 a1 a2 a3 a4 m else (f_X10_isHour a3).bind fun r7 => (if r7 = 0 then f_X10_at_J32 a0 a1 a2 a3 a4 m else (f_X10_isIn a4 0 7).bind fun r8 => (if r8 = 0 then f_X10_at_J52 a0 a1 a2 a3 a4 2 m else f_X10_at_J52 a0 a1 a2 a3 a4 0 m)))))
theorem t_X10_at_J52 {X : jX} (B : jB X cX10_at RX10 6 SKF.length rm_X10_at (some .int)) (v1 : Int) (v2 : Int) (v3 : Int) (v4 : Int) (v5 : Int) (s1 : Int) (m : jMu) (r : (Int × jMu)) (hf : f_X10_at_J52 v1 v2 v3 v4 v5 s1 m = some r) (hq : jQ X (.inl (some (jI r.1))) SKF r.2 rm_X10_at.cells rm_X10_at.slots) : J X SKF m 0 0 52 [(0, jR 74), (1, jI v1), (2, jI v2), (3, jI v3), (4, jI v4), (5, jI v5)] [jI s1, jR 74] := by
  unfold f_X10_at_J52 at hf
  refine K_putI (jI' := 0) B jp_X10_51 rfl rfl rfl (by decide +kernel) ?_
  obtain ⟨m2, hm2, hf⟩ := jlt_s hf
  rw [hm2]
  refine B_blk B jlkX10_ok jcl_SKF [.aload_n 0, .getfield 51] (by decide +kernel) (ls' := [(0, jR 74), (1, jI v1), (2, jI v2), (3, jI v3), (4, jI v4), (5, jI v5)]) (st' := [jI (m2 74 0)]) rfl (p1 := 59) rfl ?_
  refine J_if_le B.1 (off := 5) (tgt := 64) (by decide +kernel) (by decide) hf (fun hf => ?_) (fun hf => ?_)
  · refine B_blk B jlkX10_ok jcl_SKF [.aload_n 0, .iload_n 2, .bipush 12, .iload_n 3, .imul, .iload 4, .iadd] (by decide +kernel) (ls' := [(0, jR 74), (1, jI v1), (2, jI v2), (3, jI v3), (4, jI v4), (5, jI v5)]) (st' := [jI (jW (jW (12 * v3) + v4)), jI v2, jR 74]) rfl (p1 := 73) rfl ?_
    obtain ⟨r3, h3, hf⟩ := jbd hf
    refine B_callV B (Nat.le_refl _) (μ' := r3) (k' := 0) (n' := 0) ca_X10_stands in_X10_stands se_X10_stands lk_X10_189 (t_X10_stands B.tr h3) (Nat.le_refl _) rfl rfl rfl (rest := []) rfl rfl (Nat.le_of_ble_eq_true rfl) (by decide +kernel) rfl rfl (st' := []) rfl ?_
    refine B_blk B jlkX10_ok jcl_SKF [.aload_n 0, .iload_n 1] (by decide +kernel) (ls' := [(0, jR 74), (1, jI v1), (2, jI v2), (3, jI v3), (4, jI v4), (5, jI v5)]) (st' := [jI v1, jR 74]) rfl (p1 := 78) rfl ?_
    obtain ⟨r4, h4, hf⟩ := jbd hf
    refine B_callV B (Nat.le_refl _) (μ' := r4) (k' := 0) (n' := 0) ca_X10_asks in_X10_asks se_X10_asks lk_X10_193 (t_X10_asks B.tr h4) (Nat.le_refl _) rfl rfl rfl (rest := []) rfl rfl (Nat.le_of_ble_eq_true rfl) (by decide +kernel) rfl rfl (st' := []) rfl ?_
    refine B_blk B jlkX10_ok jcl_SKF [.iload 5] (by decide +kernel) (ls' := [(0, jR 74), (1, jI v1), (2, jI v2), (3, jI v3), (4, jI v4), (5, jI v5)]) (st' := [jI v5]) rfl (p1 := 83) rfl ?_
    refine J_if_ne B.1 (off := 10) (tgt := 93) (by decide +kernel) (by decide) hf (fun hf => ?_) (fun hf => ?_)
    · refine B_blk B jlkX10_ok jcl_SKF [.aload_n 0, .getfield 170, .goto 104] (by decide +kernel) (ls' := [(0, jR 74), (1, jI v1), (2, jI v2), (3, jI v3), (4, jI v4), (5, jI v5)]) (st' := [jI (r4 74 16)]) rfl (p1 := 194) rfl ?_
      cases hf
      exact B_retI B hq rfl (Nat.le_of_ble_eq_true rfl) (Nat.le_of_ble_eq_true rfl) (by decide +kernel)
    · refine B_blk B jlkX10_ok jcl_SKF [.iload 5, .iconst 1] (by decide +kernel) (ls' := [(0, jR 74), (1, jI v1), (2, jI v2), (3, jI v3), (4, jI v4), (5, jI v5)]) (st' := [jI 1, jI v5]) rfl (p1 := 96) rfl ?_
      refine J_icmp_ne B.1 (off := 10) (tgt := 106) (by decide +kernel) (by decide) hf (fun hf => ?_) (fun hf => ?_)
      · refine B_blk B jlkX10_ok jcl_SKF [.aload_n 0, .getfield 172, .goto 91] (by decide +kernel) (ls' := [(0, jR 74), (1, jI v1), (2, jI v2), (3, jI v3), (4, jI v4), (5, jI v5)]) (st' := [jI (r4 74 17)]) rfl (p1 := 194) rfl ?_
        cases hf
        exact B_retI B hq rfl (Nat.le_of_ble_eq_true rfl) (Nat.le_of_ble_eq_true rfl) (by decide +kernel)
      · refine B_blk B jlkX10_ok jcl_SKF [.iload 5, .iconst 2] (by decide +kernel) (ls' := [(0, jR 74), (1, jI v1), (2, jI v2), (3, jI v3), (4, jI v4), (5, jI v5)]) (st' := [jI 2, jI v5]) rfl (p1 := 109) rfl ?_
        refine J_icmp_ne B.1 (off := 10) (tgt := 119) (by decide +kernel) (by decide) hf (fun hf => ?_) (fun hf => ?_)
        · refine B_blk B jlkX10_ok jcl_SKF [.aload_n 0, .getfield 174, .goto 78] (by decide +kernel) (ls' := [(0, jR 74), (1, jI v1), (2, jI v2), (3, jI v3), (4, jI v4), (5, jI v5)]) (st' := [jI (r4 74 18)]) rfl (p1 := 194) rfl ?_
          cases hf
          exact B_retI B hq rfl (Nat.le_of_ble_eq_true rfl) (Nat.le_of_ble_eq_true rfl) (by decide +kernel)
        · refine B_blk B jlkX10_ok jcl_SKF [.iload 5, .iconst 3] (by decide +kernel) (ls' := [(0, jR 74), (1, jI v1), (2, jI v2), (3, jI v3), (4, jI v4), (5, jI v5)]) (st' := [jI 3, jI v5]) rfl (p1 := 122) rfl ?_
          refine J_icmp_ne B.1 (off := 12) (tgt := 134) (by decide +kernel) (by decide) hf (fun hf => ?_) (fun hf => ?_)
          · refine B_blk B jlkX10_ok jcl_SKF [.aload_n 0, .getfield 23, .iconst 2] (by decide +kernel) (ls' := [(0, jR 74), (1, jI v1), (2, jI v2), (3, jI v3), (4, jI v4), (5, jI v5)]) (st' := [jI 2, jR 78]) rfl (p1 := 130) rfl ?_
            refine K_iald (lenI := 6) B rfl rfl (by decide) (by decide +kernel) ?_
            refine B_blk B jlkX10_ok jcl_SKF [.goto 63] (by decide +kernel) (ls' := [(0, jR 74), (1, jI v1), (2, jI v2), (3, jI v3), (4, jI v4), (5, jI v5)]) (st' := [jI (r4 78 2)]) rfl (p1 := 194) rfl ?_
            cases hf
            exact B_retI B hq rfl (Nat.le_of_ble_eq_true rfl) (Nat.le_of_ble_eq_true rfl) (by decide +kernel)
          · refine B_blk B jlkX10_ok jcl_SKF [.iload 5, .iconst 4] (by decide +kernel) (ls' := [(0, jR 74), (1, jI v1), (2, jI v2), (3, jI v3), (4, jI v4), (5, jI v5)]) (st' := [jI 4, jI v5]) rfl (p1 := 137) rfl ?_
            refine J_icmp_ne B.1 (off := 12) (tgt := 149) (by decide +kernel) (by decide) hf (fun hf => ?_) (fun hf => ?_)
            · refine B_blk B jlkX10_ok jcl_SKF [.aload_n 0, .getfield 23, .iconst 3] (by decide +kernel) (ls' := [(0, jR 74), (1, jI v1), (2, jI v2), (3, jI v3), (4, jI v4), (5, jI v5)]) (st' := [jI 3, jR 78]) rfl (p1 := 145) rfl ?_
              refine K_iald (lenI := 6) B rfl rfl (by decide) (by decide +kernel) ?_
              refine B_blk B jlkX10_ok jcl_SKF [.goto 48] (by decide +kernel) (ls' := [(0, jR 74), (1, jI v1), (2, jI v2), (3, jI v3), (4, jI v4), (5, jI v5)]) (st' := [jI (r4 78 3)]) rfl (p1 := 194) rfl ?_
              cases hf
              exact B_retI B hq rfl (Nat.le_of_ble_eq_true rfl) (Nat.le_of_ble_eq_true rfl) (by decide +kernel)
            · refine B_blk B jlkX10_ok jcl_SKF [.iload 5, .iconst 5] (by decide +kernel) (ls' := [(0, jR 74), (1, jI v1), (2, jI v2), (3, jI v3), (4, jI v4), (5, jI v5)]) (st' := [jI 5, jI v5]) rfl (p1 := 152) rfl ?_
              refine J_icmp_ne B.1 (off := 13) (tgt := 165) (by decide +kernel) (by decide) hf (fun hf => ?_) (fun hf => ?_)
              · refine B_blk B jlkX10_ok jcl_SKF [.aload_n 0, .getfield 119] (by decide +kernel) (ls' := [(0, jR 74), (1, jI v1), (2, jI v2), (3, jI v3), (4, jI v4), (5, jI v5)]) (st' := [jI (r4 74 12)]) rfl (p1 := 159) rfl ?_
                refine J_if_eq B.1 (off := 34) (tgt := 193) (by decide +kernel) (by decide) hf (fun hf => ?_) (fun hf => ?_)
                · refine B_blk B jlkX10_ok jcl_SKF [.iconst 0] (by decide +kernel) (ls' := [(0, jR 74), (1, jI v1), (2, jI v2), (3, jI v3), (4, jI v4), (5, jI v5)]) (st' := [jI 0]) rfl (p1 := 194) rfl ?_
                  cases hf
                  exact B_retI B hq rfl (Nat.le_of_ble_eq_true rfl) (Nat.le_of_ble_eq_true rfl) (by decide +kernel)
                · refine B_blk B jlkX10_ok jcl_SKF [.goto 27, .iconst 1, .goto 4] (by decide +kernel) (ls' := [(0, jR 74), (1, jI v1), (2, jI v2), (3, jI v3), (4, jI v4), (5, jI v5)]) (st' := [jI 1]) rfl (p1 := 194) rfl ?_
                  cases hf
                  exact B_retI B hq rfl (Nat.le_of_ble_eq_true rfl) (Nat.le_of_ble_eq_true rfl) (by decide +kernel)
              · refine B_blk B jlkX10_ok jcl_SKF [.iload 5, .bipush 6] (by decide +kernel) (ls' := [(0, jR 74), (1, jI v1), (2, jI v2), (3, jI v3), (4, jI v4), (5, jI v5)]) (st' := [jI 6, jI v5]) rfl (p1 := 169) rfl ?_
                refine J_icmp_ne B.1 (off := 13) (tgt := 182) (by decide +kernel) (by decide) hf (fun hf => ?_) (fun hf => ?_)
                · refine B_blk B jlkX10_ok jcl_SKF [.aload_n 0, .getfield 125] (by decide +kernel) (ls' := [(0, jR 74), (1, jI v1), (2, jI v2), (3, jI v3), (4, jI v4), (5, jI v5)]) (st' := [jI (r4 74 13)]) rfl (p1 := 176) rfl ?_
                  refine J_if_eq B.1 (off := 17) (tgt := 193) (by decide +kernel) (by decide) hf (fun hf => ?_) (fun hf => ?_)
                  · refine B_blk B jlkX10_ok jcl_SKF [.iconst 0] (by decide +kernel) (ls' := [(0, jR 74), (1, jI v1), (2, jI v2), (3, jI v3), (4, jI v4), (5, jI v5)]) (st' := [jI 0]) rfl (p1 := 194) rfl ?_
                    cases hf
                    exact B_retI B hq rfl (Nat.le_of_ble_eq_true rfl) (Nat.le_of_ble_eq_true rfl) (by decide +kernel)
                  · refine B_blk B jlkX10_ok jcl_SKF [.goto 10, .iconst 1, .goto 4] (by decide +kernel) (ls' := [(0, jR 74), (1, jI v1), (2, jI v2), (3, jI v3), (4, jI v4), (5, jI v5)]) (st' := [jI 1]) rfl (p1 := 194) rfl ?_
                    cases hf
                    exact B_retI B hq rfl (Nat.le_of_ble_eq_true rfl) (Nat.le_of_ble_eq_true rfl) (by decide +kernel)
                · refine B_blk B jlkX10_ok jcl_SKF [.aload_n 0, .getfield 130] (by decide +kernel) (ls' := [(0, jR 74), (1, jI v1), (2, jI v2), (3, jI v3), (4, jI v4), (5, jI v5)]) (st' := [jI (r4 74 14)]) rfl (p1 := 186) rfl ?_
                  refine J_if_eq B.1 (off := 7) (tgt := 193) (by decide +kernel) (by decide) hf (fun hf => ?_) (fun hf => ?_)
                  · refine B_blk B jlkX10_ok jcl_SKF [.iconst 0] (by decide +kernel) (ls' := [(0, jR 74), (1, jI v1), (2, jI v2), (3, jI v3), (4, jI v4), (5, jI v5)]) (st' := [jI 0]) rfl (p1 := 194) rfl ?_
                    cases hf
                    exact B_retI B hq rfl (Nat.le_of_ble_eq_true rfl) (Nat.le_of_ble_eq_true rfl) (by decide +kernel)
                  · refine B_blk B jlkX10_ok jcl_SKF [.iconst 1, .goto 4] (by decide +kernel) (ls' := [(0, jR 74), (1, jI v1), (2, jI v2), (3, jI v3), (4, jI v4), (5, jI v5)]) (st' := [jI 1]) rfl (p1 := 194) rfl ?_
                    cases hf
                    exact B_retI B hq rfl (Nat.le_of_ble_eq_true rfl) (Nat.le_of_ble_eq_true rfl) (by decide +kernel)
  · refine B_blk B jlkX10_ok jcl_SKF [.iconst 0] (by decide +kernel) (ls' := [(0, jR 74), (1, jI v1), (2, jI v2), (3, jI v3), (4, jI v4), (5, jI v5)]) (st' := [jI 0]) rfl (p1 := 63) rfl ?_
    cases hf
    exact B_retI B hq rfl (Nat.le_of_ble_eq_true rfl) (Nat.le_of_ble_eq_true rfl) (by decide +kernel)
theorem t_X10_at_J32 {X : jX} (B : jB X cX10_at RX10 6 SKF.length rm_X10_at (some .int)) (v1 : Int) (v2 : Int) (v3 : Int) (v4 : Int) (v5 : Int) (m : jMu) (r : (Int × jMu)) (hf : f_X10_at_J32 v1 v2 v3 v4 v5 m = some r) (hq : jQ X (.inl (some (jI r.1))) SKF r.2 rm_X10_at.cells rm_X10_at.slots) : J X SKF m 0 0 32 [(0, jR 74), (1, jI v1), (2, jI v2), (3, jI v3), (4, jI v4), (5, jI v5)] [jR 74] := by
  unfold f_X10_at_J32 at hf
  refine B_blk B jlkX10_ok jcl_SKF [.iconst 1, .goto 19] (by decide +kernel) (ls' := [(0, jR 74), (1, jI v1), (2, jI v2), (3, jI v3), (4, jI v4), (5, jI v5)]) (st' := [jI 1, jR 74]) rfl (p1 := 52) rfl ?_
  exact t_X10_at_J52 B v1 v2 v3 v4 v5 1 m _ hf hq
theorem t_X10_at {l : Launch} {G : jG} (hl : l.stackTraces = false) {a0 : Int} {a1 : Int} {a2 : Int} {a3 : Int} {a4 : Int} {m : jMu} {r : (Int × jMu)} (hf : f_X10_at a0 a1 a2 a3 a4 m = some r) : jCt l G yX10_at (.code yX10_at cX10_at 6 (some .int) :: jWG) rm_X10_at [jR 74, jI a0, jI a1, jI a2, jI a3, jI a4] SKF m (.inl (some (jI r.1))) SKF r.2 := by
  unfold f_X10_at at hf
  refine J_start (ls0 := [(0, jR 74), (1, jI a0), (2, jI a1), (3, jI a2), (4, jI a3), (5, jI a4)]) (by decide +kernel) hl (Nat.le_of_ble_eq_true rfl) rfl fun X C hN hn hR hr hnm hno hq => ?_
  have B : jB X cX10_at RX10 6 SKF.length rm_X10_at (some .int) := ⟨C, hN, Nat.le_of_eq hn, hR, hr⟩
  refine B_blk B jlkX10_ok jcl_SKF [.aload_n 0, .aload_n 0, .iload_n 1] (by decide +kernel) (ls' := [(0, jR 74), (1, jI a0), (2, jI a1), (3, jI a2), (4, jI a3), (5, jI a4)]) (st' := [jI a0, jR 74, jR 74]) rfl (p1 := 3) rfl ?_
  obtain ⟨r1, h1, hf⟩ := jbd hf
  refine B_callV B (Nat.le_refl _) (μ' := m) (k' := 0) (n' := 0) ca_X10_isTerms in_X10_isTerms se_X10_isTerms lk_X10_203 (t_X10_isTerms B.tr h1) (Nat.le_refl _) rfl rfl rfl (rest := [jR 74]) rfl rfl (Nat.le_of_ble_eq_true rfl) (by decide +kernel) rfl rfl (st' := [jI r1, jR 74]) rfl ?_
  refine J_if_eq B.1 (off := 26) (tgt := 32) (by decide +kernel) (by decide) hf (fun hf => ?_) (fun hf => ?_)
  · exact t_X10_at_J32 B a0 a1 a2 a3 a4 m _ hf hq
  · refine B_blk B jlkX10_ok jcl_SKF [.aload_n 0, .iload_n 2] (by decide +kernel) (ls' := [(0, jR 74), (1, jI a0), (2, jI a1), (3, jI a2), (4, jI a3), (5, jI a4)]) (st' := [jI a1, jR 74, jR 74]) rfl (p1 := 11) rfl ?_
    obtain ⟨r5, h5, hf⟩ := jbd hf
    refine B_callV B (Nat.le_refl _) (μ' := m) (k' := 0) (n' := 0) ca_X10_isBay in_X10_isBay se_X10_isBay lk_X10_206 (t_X10_isBay B.tr h5) (Nat.le_refl _) rfl rfl rfl (rest := [jR 74]) rfl rfl (Nat.le_of_ble_eq_true rfl) (by decide +kernel) rfl rfl (st' := [jI r5, jR 74]) rfl ?_
    refine J_if_eq B.1 (off := 18) (tgt := 32) (by decide +kernel) (by decide) hf (fun hf => ?_) (fun hf => ?_)
    · exact t_X10_at_J32 B a0 a1 a2 a3 a4 m _ hf hq
    · refine B_blk B jlkX10_ok jcl_SKF [.iload_n 3] (by decide +kernel) (ls' := [(0, jR 74), (1, jI a0), (2, jI a1), (3, jI a2), (4, jI a3), (5, jI a4)]) (st' := [jI a2, jR 74]) rfl (p1 := 18) rfl ?_
      obtain ⟨r6, h6, hf⟩ := jbd hf
      refine B_callS B (Nat.le_refl _) (μ' := m) (k' := 0) (n' := 0) ca_X10_isDay sa_X10_isDay lk_X10_209 (t_X10_isDay B.tr jcl_SKF h6) (Nat.le_refl _) rfl (rest := [jR 74]) rfl rfl (Nat.le_of_ble_eq_true rfl) (by decide +kernel) rfl rfl (st' := [jI r6, jR 74]) rfl ?_
      refine J_if_eq B.1 (off := 11) (tgt := 32) (by decide +kernel) (by decide) hf (fun hf => ?_) (fun hf => ?_)
      · exact t_X10_at_J32 B a0 a1 a2 a3 a4 m _ hf hq
      · refine B_blk B jlkX10_ok jcl_SKF [.iload 4] (by decide +kernel) (ls' := [(0, jR 74), (1, jI a0), (2, jI a1), (3, jI a2), (4, jI a3), (5, jI a4)]) (st' := [jI a3, jR 74]) rfl (p1 := 26) rfl ?_
        obtain ⟨r7, h7, hf⟩ := jbd hf
        refine B_callS B (Nat.le_refl _) (μ' := m) (k' := 0) (n' := 0) ca_X10_isHour sa_X10_isHour lk_X10_212 (t_X10_isHour B.tr jcl_SKF h7) (Nat.le_refl _) rfl (rest := [jR 74]) rfl rfl (Nat.le_of_ble_eq_true rfl) (by decide +kernel) rfl rfl (st' := [jI r7, jR 74]) rfl ?_
        refine J_if_ne B.1 (off := 7) (tgt := 36) (by decide +kernel) (by decide) hf (fun hf => ?_) (fun hf => ?_)
        · exact t_X10_at_J32 B a0 a1 a2 a3 a4 m _ hf hq
        · refine B_blk B jlkX10_ok jcl_SKF [.iload 5, .iconst 0, .bipush 7] (by decide +kernel) (ls' := [(0, jR 74), (1, jI a0), (2, jI a1), (3, jI a2), (4, jI a3), (5, jI a4)]) (st' := [jI 7, jI 0, jI a4, jR 74]) rfl (p1 := 41) rfl ?_
          obtain ⟨r8, h8, hf⟩ := jbd hf
          refine B_callS B (Nat.le_refl _) (μ' := m) (k' := 0) (n' := 0) ca_X10_isIn sa_X10_isIn lk_X10_54 (t_X10_isIn B.tr jcl_SKF h8) (Nat.le_refl _) rfl (rest := [jR 74]) rfl rfl (Nat.le_of_ble_eq_true rfl) (by decide +kernel) rfl rfl (st' := [jI r8, jR 74]) rfl ?_
          refine J_if_ne B.1 (off := 7) (tgt := 51) (by decide +kernel) (by decide) hf (fun hf => ?_) (fun hf => ?_)
          · refine B_blk B jlkX10_ok jcl_SKF [.iconst 2, .goto 4] (by decide +kernel) (ls' := [(0, jR 74), (1, jI a0), (2, jI a1), (3, jI a2), (4, jI a3), (5, jI a4)]) (st' := [jI 2, jR 74]) rfl (p1 := 52) rfl ?_
            exact t_X10_at_J52 B a0 a1 a2 a3 a4 2 m _ hf hq
          · refine B_blk B jlkX10_ok jcl_SKF [.iconst 0] (by decide +kernel) (ls' := [(0, jR 74), (1, jI a0), (2, jI a1), (3, jI a2), (4, jI a3), (5, jI a4)]) (st' := [jI 0, jR 74]) rfl (p1 := 52) rfl ?_
            exact t_X10_at_J52 B a0 a1 a2 a3 a4 0 m _ hf hq

def rm_X10_isLost : Room := { frames := 71, cells := 0, slots := 0, locals := 1039 }
def f_X10_isLost (a0 : Int) (a1 : Int) (a2 : Int) (m : jMu) : Option (Int × jMu) :=
  (f_X10_whyOf a0 a1 a2 m).bind fun r1 => (if r1.1 = 0 then some (0, r1.2) else (if r1.2 74 13 = 0 then some (0, r1.2) else (jlt (jup r1.2 74 13 0) fun m2 => (f_X10_asks a0 m2).bind fun r3 => (if r3 74 15 = (-1) then (f_X10_isStrike (jDv a2 12) r3).bind fun r4 => (if r4 = 0 then (jlt (jup r3 74 18 (r1.2 74 18)) fun m5 => some (1, m5)) else (jlt (jup r3 74 18 (r1.2 74 18)) fun m6 => some (0, m6))) else (jlt (jup r3 74 18 (r1.2 74 18)) fun m7 => some (0, m7))))))
theorem t_X10_isLost {l : Launch} {G : jG} (hl : l.stackTraces = false) {a0 : Int} {a1 : Int} {a2 : Int} {m : jMu} {r : (Int × jMu)} (hf : f_X10_isLost a0 a1 a2 m = some r) : jCt l G yX10_isLost (.code yX10_isLost cX10_isLost 6 (some .boolean) :: jWG) rm_X10_isLost [jR 74, jI a0, jI a1, jI a2] SKF m (.inl (some (jI r.1))) SKF r.2 := by
  unfold f_X10_isLost at hf
  refine J_start (ls0 := [(0, jR 74), (1, jI a0), (2, jI a1), (3, jI a2)]) (by decide +kernel) hl (Nat.le_of_ble_eq_true rfl) rfl fun X C hN hn hR hr hnm hno hq => ?_
  have B : jB X cX10_isLost RX10 6 SKF.length rm_X10_isLost (some .boolean) := ⟨C, hN, Nat.le_of_eq hn, hR, hr⟩
  refine B_blk B jlkX10_ok jcl_SKF [.aload_n 0, .iload_n 1, .iload_n 2, .iload_n 3] (by decide +kernel) (ls' := [(0, jR 74), (1, jI a0), (2, jI a1), (3, jI a2)]) (st' := [jI a2, jI a1, jI a0, jR 74]) rfl (p1 := 4) rfl ?_
  obtain ⟨r1, h1, hf⟩ := jbd hf
  refine B_callV B (Nat.le_refl _) (μ' := r1.2) (k' := 0) (n' := 0) ca_X10_whyOf in_X10_whyOf se_X10_whyOf lk_X10_199 (t_X10_whyOf B.tr h1) (Nat.le_refl _) rfl rfl rfl (rest := []) rfl rfl (Nat.le_of_ble_eq_true rfl) (by decide +kernel) rfl rfl (st' := [jI r1.1]) rfl ?_
  refine J_if_eq B.1 (off := 10) (tgt := 17) (by decide +kernel) (by decide) hf (fun hf => ?_) (fun hf => ?_)
  · refine B_blk B jlkX10_ok jcl_SKF [.iconst 0] (by decide +kernel) (ls' := [(0, jR 74), (1, jI a0), (2, jI a1), (3, jI a2)]) (st' := [jI 0]) rfl (p1 := 18) rfl ?_
    cases hf
    exact B_retZ B (Or.inl rfl) hq rfl (Nat.le_of_ble_eq_true rfl) (Nat.le_of_ble_eq_true rfl) (by decide +kernel)
  · refine B_blk B jlkX10_ok jcl_SKF [.aload_n 0, .getfield 125] (by decide +kernel) (ls' := [(0, jR 74), (1, jI a0), (2, jI a1), (3, jI a2)]) (st' := [jI (r1.2 74 13)]) rfl (p1 := 14) rfl ?_
    refine J_if_ne B.1 (off := 5) (tgt := 19) (by decide +kernel) (by decide) hf (fun hf => ?_) (fun hf => ?_)
    · refine B_blk B jlkX10_ok jcl_SKF [.iconst 0] (by decide +kernel) (ls' := [(0, jR 74), (1, jI a0), (2, jI a1), (3, jI a2)]) (st' := [jI 0]) rfl (p1 := 18) rfl ?_
      cases hf
      exact B_retZ B (Or.inl rfl) hq rfl (Nat.le_of_ble_eq_true rfl) (Nat.le_of_ble_eq_true rfl) (by decide +kernel)
    · refine B_blk B jlkX10_ok jcl_SKF [.aload_n 0, .getfield 174, .istore 4, .aload_n 0, .iconst 0] (by decide +kernel) (ls' := [(0, jR 74), (1, jI a0), (2, jI a1), (3, jI a2), (4, jI (r1.2 74 18))]) (st' := [jI 0, jR 74]) rfl (p1 := 27) rfl ?_
      refine K_putZ (jI' := 13) B jp_X10_125 rfl rfl rfl (Or.inl rfl) (by decide +kernel) ?_
      obtain ⟨m2, hm2, hf⟩ := jlt_s hf
      rw [hm2]
      refine B_blk B jlkX10_ok jcl_SKF [.aload_n 0, .iload_n 1] (by decide +kernel) (ls' := [(0, jR 74), (1, jI a0), (2, jI a1), (3, jI a2), (4, jI (r1.2 74 18))]) (st' := [jI a0, jR 74]) rfl (p1 := 32) rfl ?_
      obtain ⟨r3, h3, hf⟩ := jbd hf
      refine B_callV B (Nat.le_refl _) (μ' := r3) (k' := 0) (n' := 0) ca_X10_asks in_X10_asks se_X10_asks lk_X10_193 (t_X10_asks B.tr h3) (Nat.le_refl _) rfl rfl rfl (rest := []) rfl rfl (Nat.le_of_ble_eq_true rfl) (by decide +kernel) rfl rfl (st' := []) rfl ?_
      refine B_blk B jlkX10_ok jcl_SKF [.aload_n 0, .getfield 168, .iconst (-1)] (by decide +kernel) (ls' := [(0, jR 74), (1, jI a0), (2, jI a1), (3, jI a2), (4, jI (r1.2 74 18))]) (st' := [jI (-1), jI (r3 74 15)]) rfl (p1 := 40) rfl ?_
      refine J_icmp_ne B.1 (off := 18) (tgt := 58) (by decide +kernel) (by decide) hf (fun hf => ?_) (fun hf => ?_)
      · refine B_blk B jlkX10_ok jcl_SKF [.aload_n 0, .iload_n 3, .bipush 12] (by decide +kernel) (ls' := [(0, jR 74), (1, jI a0), (2, jI a1), (3, jI a2), (4, jI (r1.2 74 18))]) (st' := [jI 12, jI a2, jR 74]) rfl (p1 := 47) rfl ?_
        refine K_idiv B (by decide) (by decide +kernel) ?_
        obtain ⟨r4, h4, hf⟩ := jbd hf
        refine B_callV B (Nat.le_refl _) (μ' := r3) (k' := 0) (n' := 0) ca_X10_isStrike in_X10_isStrike se_X10_isStrike lk_X10_196 (t_X10_isStrike B.tr h4) (Nat.le_refl _) rfl rfl rfl (rest := []) rfl rfl (Nat.le_of_ble_eq_true rfl) (by decide +kernel) rfl rfl (st' := [jI r4]) rfl ?_
        refine J_if_ne B.1 (off := 7) (tgt := 58) (by decide +kernel) (by decide) hf (fun hf => ?_) (fun hf => ?_)
        · refine B_blk B jlkX10_ok jcl_SKF [.iconst 1, .goto 4, .istore 5, .aload_n 0, .iload 4] (by decide +kernel) (ls' := [(0, jR 74), (1, jI a0), (2, jI a1), (3, jI a2), (4, jI (r1.2 74 18)), (5, jI 1)]) (st' := [jI (r1.2 74 18), jR 74]) rfl (p1 := 64) rfl ?_
          refine K_putI (jI' := 18) B jp_X10_174 rfl rfl rfl (by decide +kernel) ?_
          obtain ⟨m5, hm5, hf⟩ := jlt_s hf
          rw [hm5]
          refine B_blk B jlkX10_ok jcl_SKF [.iload 5] (by decide +kernel) (ls' := [(0, jR 74), (1, jI a0), (2, jI a1), (3, jI a2), (4, jI (r1.2 74 18)), (5, jI 1)]) (st' := [jI 1]) rfl (p1 := 69) rfl ?_
          cases hf
          exact B_retZ B (Or.inr rfl) hq rfl (Nat.le_of_ble_eq_true rfl) (Nat.le_of_ble_eq_true rfl) (by decide +kernel)
        · refine B_blk B jlkX10_ok jcl_SKF [.iconst 0, .istore 5, .aload_n 0, .iload 4] (by decide +kernel) (ls' := [(0, jR 74), (1, jI a0), (2, jI a1), (3, jI a2), (4, jI (r1.2 74 18)), (5, jI 0)]) (st' := [jI (r1.2 74 18), jR 74]) rfl (p1 := 64) rfl ?_
          refine K_putI (jI' := 18) B jp_X10_174 rfl rfl rfl (by decide +kernel) ?_
          obtain ⟨m6, hm6, hf⟩ := jlt_s hf
          rw [hm6]
          refine B_blk B jlkX10_ok jcl_SKF [.iload 5] (by decide +kernel) (ls' := [(0, jR 74), (1, jI a0), (2, jI a1), (3, jI a2), (4, jI (r1.2 74 18)), (5, jI 0)]) (st' := [jI 0]) rfl (p1 := 69) rfl ?_
          cases hf
          exact B_retZ B (Or.inl rfl) hq rfl (Nat.le_of_ble_eq_true rfl) (Nat.le_of_ble_eq_true rfl) (by decide +kernel)
      · refine B_blk B jlkX10_ok jcl_SKF [.iconst 0, .istore 5, .aload_n 0, .iload 4] (by decide +kernel) (ls' := [(0, jR 74), (1, jI a0), (2, jI a1), (3, jI a2), (4, jI (r1.2 74 18)), (5, jI 0)]) (st' := [jI (r1.2 74 18), jR 74]) rfl (p1 := 64) rfl ?_
        refine K_putI (jI' := 18) B jp_X10_174 rfl rfl rfl (by decide +kernel) ?_
        obtain ⟨m7, hm7, hf⟩ := jlt_s hf
        rw [hm7]
        refine B_blk B jlkX10_ok jcl_SKF [.iload 5] (by decide +kernel) (ls' := [(0, jR 74), (1, jI a0), (2, jI a1), (3, jI a2), (4, jI (r1.2 74 18)), (5, jI 0)]) (st' := [jI 0]) rfl (p1 := 69) rfl ?_
        cases hf
        exact B_retZ B (Or.inl rfl) hq rfl (Nat.le_of_ble_eq_true rfl) (Nat.le_of_ble_eq_true rfl) (by decide +kernel)

def rm_X10_hours : Room := { frames := 73, cells := 0, slots := 0, locals := 1064 }
def f_X10_hours_L82 : Nat → Int → Int → Int → Int → Int → Int → jMu → Option (Int × jMu)
  | 0, _, _, _, _, _, _, _ => none
  | q + 1, v1, v2, v4, v5, v6, v7, m => (if jW (jW (12 * v4) + 12) ≤ v7 then some (v6, m) else (if v5 ≤ 1 then (f_X10_whyOf v1 v2 v7 m).bind fun r3 => (if r3.1 = 0 then (if v5 = 0 then (if v5 = 3 then f_X10_hours_L82 q v1 v2 v4 v5 (jW (v6 + r3.2 74 18)) (jW (v7 + 1)) r3.2 else f_X10_hours_L82 q v1 v2 v4 v5 (jW (v6 + 1)) (jW (v7 + 1)) r3.2) else f_X10_hours_L82 q v1 v2 v4 v5 (jW (v6 + 0)) (jW (v7 + 1)) r3.2) else (if v5 = 0 then f_X10_hours_L82 q v1 v2 v4 v5 (jW (v6 + 0)) (jW (v7 + 1)) r3.2 else (if v5 = 3 then f_X10_hours_L82 q v1 v2 v4 v5 (jW (v6 + r3.2 74 18)) (jW (v7 + 1)) r3.2 else f_X10_hours_L82 q v1 v2 v4 v5 (jW (v6 + 1)) (jW (v7 + 1)) r3.2))) else (f_X10_isLost v1 v2 v7 m).bind fun r4 => (if r4.1 = 0 then f_X10_hours_L82 q v1 v2 v4 v5 (jW (v6 + 0)) (jW (v7 + 1)) r4.2 else (if v5 = 3 then f_X10_hours_L82 q v1 v2 v4 v5 (jW (v6 + r4.2 74 18)) (jW (v7 + 1)) r4.2 else f_X10_hours_L82 q v1 v2 v4 v5 (jW (v6 + 1)) (jW (v7 + 1)) r4.2))))
def f_X10_hours_J32 (v1 : Int) (v2 : Int) (v3 : Int) (v4 : Int) (v5 : Int) (m : jMu) : Option (Int × jMu) :=
  (jlt (jup m 74 0 1) fun m2 => (if m2 74 0 ≤ 0 then f_X10_hours_L82 jFU v1 v2 v4 v5 0 (jW (12 * v3)) m2 else some (0, m2)))
def f_X10_hours (a0 : Int) (a1 : Int) (a2 : Int) (a3 : Int) (a4 : Int) (m : jMu) : Option (Int × jMu) :=
  (f_X10_isTerms a0 m).bind fun r1 => (if r1 = 0 then f_X10_hours_J32 a0 a1 a2 a3 a4 m else (f_X10_isBay a1 m).bind fun r5 => (if r5 = 0 then f_X10_hours_J32 a0 a1 a2 a3 a4 m else (f_X10_isDay a2).bind fun r6 => (if r6 = 0 then f_X10_hours_J32 a0 a1 a2 a3 a4 m else (f_X10_isDay a3).bind fun r7 => (if r7 = 0 then f_X10_hours_J32 a0 a1 a2 a3 a4 m else (if a2 ≤ a3 then (f_X10_isIn a4 0 3).bind fun r8 => (if r8 = 0 then (jlt (jup m 74 0 3) fun m9 => (if m9 74 0 ≤ 0 then f_X10_hours_L82 jFU a0 a1 a3 a4 0 (jW (12 * a2)) m9 else some (0, m9))) else (jlt (jup m 74 0 0) fun m10 => (if m10 74 0 ≤ 0 then f_X10_hours_L82 jFU a0 a1 a3 a4 0 (jW (12 * a2)) m10 else some (0, m10)))) else (jlt (jup m 74 0 2) fun m11 => (if m11 74 0 ≤ 0 then f_X10_hours_L82 jFU a0 a1 a3 a4 0 (jW (12 * a2)) m11 else some (0, m11))))))))
theorem t_X10_hours_L82 {X : jX} (B : jB X cX10_hours RX10 9 SKF.length rm_X10_hours (some .int)) : ∀ (q : Nat) (v1 : Int) (v2 : Int) (v4 : Int) (v5 : Int) (v6 : Int) (v7 : Int) (m : jMu) (r : (Int × jMu)), f_X10_hours_L82 q v1 v2 v4 v5 v6 v7 m = some r → jQ X (.inl (some (jI r.1))) SKF r.2 rm_X10_hours.cells rm_X10_hours.slots → J X SKF m 0 0 82 [(0, jR 74), (1, jI v1), (2, jI v2), (4, jI v4), (5, jI v5), (6, jI v6), (7, jI v7)] [] := by
  intro q
  induction q with
  | zero =>
    intro v1 v2 v4 v5 v6 v7 m r hf
    rw [f_X10_hours_L82] at hf
    cases hf
  | succ q ih =>
    intro v1 v2 v4 v5 v6 v7 m r hf hq
    rw [f_X10_hours_L82] at hf
    refine B_blk B jlkX10_ok jcl_SKF [.iload 7, .bipush 12, .iload 4, .imul, .bipush 12, .iadd] (by decide +kernel) (ls' := [(0, jR 74), (1, jI v1), (2, jI v2), (4, jI v4), (5, jI v5), (6, jI v6), (7, jI v7)]) (st' := [jI (jW (jW (12 * v4) + 12)), jI v7]) rfl (p1 := 92) rfl ?_
    refine J_icmp_ge B.1 (off := 90) (tgt := 182) (by decide +kernel) (by decide) hf (fun hf => ?_) (fun hf => ?_)
    · refine B_blk B jlkX10_ok jcl_SKF [.iload 6] (by decide +kernel) (ls' := [(0, jR 74), (1, jI v1), (2, jI v2), (4, jI v4), (5, jI v5), (6, jI v6), (7, jI v7)]) (st' := [jI v6]) rfl (p1 := 184) rfl ?_
      cases hf
      exact B_retI B hq rfl (Nat.le_of_ble_eq_true rfl) (Nat.le_of_ble_eq_true rfl) (by decide +kernel)
    · refine B_blk B jlkX10_ok jcl_SKF [.iload 5, .iconst 1] (by decide +kernel) (ls' := [(0, jR 74), (1, jI v1), (2, jI v2), (4, jI v4), (5, jI v5), (6, jI v6), (7, jI v7)]) (st' := [jI 1, jI v5]) rfl (p1 := 98) rfl ?_
      refine J_icmp_le B.1 (off := 14) (tgt := 112) (by decide +kernel) (by decide) hf (fun hf => ?_) (fun hf => ?_)
      · refine B_blk B jlkX10_ok jcl_SKF [.aload_n 0, .iload_n 1, .iload_n 2, .iload 7] (by decide +kernel) (ls' := [(0, jR 74), (1, jI v1), (2, jI v2), (4, jI v4), (5, jI v5), (6, jI v6), (7, jI v7)]) (st' := [jI v7, jI v2, jI v1, jR 74]) rfl (p1 := 117) rfl ?_
        obtain ⟨r3, h3, hf⟩ := jbd hf
        refine B_callV B (Nat.le_refl _) (μ' := r3.2) (k' := 0) (n' := 0) ca_X10_whyOf in_X10_whyOf se_X10_whyOf lk_X10_199 (t_X10_whyOf B.tr h3) (Nat.le_refl _) rfl rfl rfl (rest := []) rfl rfl (Nat.le_of_ble_eq_true rfl) (by decide +kernel) rfl rfl (st' := [jI r3.1]) rfl ?_
        refine J_if_ne B.1 (off := 7) (tgt := 127) (by decide +kernel) (by decide) hf (fun hf => ?_) (fun hf => ?_)
        · refine B_blk B jlkX10_ok jcl_SKF [.iconst 1, .goto 4, .iload 5] (by decide +kernel) (ls' := [(0, jR 74), (1, jI v1), (2, jI v2), (4, jI v4), (5, jI v5), (6, jI v6), (7, jI v7)]) (st' := [jI v5, jI 1]) rfl (p1 := 130) rfl ?_
          refine J_if_ne B.1 (off := 7) (tgt := 137) (by decide +kernel) (by decide) hf (fun hf => ?_) (fun hf => ?_)
          · refine B_blk B jlkX10_ok jcl_SKF [.iconst 1, .goto 4] (by decide +kernel) (ls' := [(0, jR 74), (1, jI v1), (2, jI v2), (4, jI v4), (5, jI v5), (6, jI v6), (7, jI v7)]) (st' := [jI 1, jI 1]) rfl (p1 := 138) rfl ?_
            refine J_icmp_ne (T := some ()) (F := none) (r := ()) B.1 (off := 7) (tgt := 145) (by decide +kernel) (by decide) (if_pos (by decide)) (fun _ => ?_) (fun h => nomatch h)
            refine B_blk B jlkX10_ok jcl_SKF [.iconst 1, .goto 4, .istore 8, .iload 6, .iload 8] (by decide +kernel) (ls' := [(0, jR 74), (1, jI v1), (2, jI v2), (4, jI v4), (5, jI v5), (6, jI v6), (7, jI v7), (8, jI 1)]) (st' := [jI 1, jI v6]) rfl (p1 := 152) rfl ?_
            refine J_if_eq (T := none) (F := some ()) (r := ()) B.1 (off := 20) (tgt := 172) (by decide +kernel) (by decide) (if_neg (by decide)) (fun h => nomatch h) (fun _ => ?_)
            refine B_blk B jlkX10_ok jcl_SKF [.iload 5, .iconst 3] (by decide +kernel) (ls' := [(0, jR 74), (1, jI v1), (2, jI v2), (4, jI v4), (5, jI v5), (6, jI v6), (7, jI v7), (8, jI 1)]) (st' := [jI 3, jI v5, jI v6]) rfl (p1 := 158) rfl ?_
            refine J_icmp_ne B.1 (off := 10) (tgt := 168) (by decide +kernel) (by decide) hf (fun hf => ?_) (fun hf => ?_)
            · refine B_blk B jlkX10_ok jcl_SKF [.aload_n 0, .getfield 174, .goto 8, .iadd, .istore 6, .iinc 7 1, .goto (-97)] (by decide +kernel) (ls' := [(0, jR 74), (1, jI v1), (2, jI v2), (4, jI v4), (5, jI v5), (6, jI (jW (v6 + r3.2 74 18))), (7, jI (jW (v7 + 1))), (8, jI 1)]) (st' := []) rfl (p1 := 82) rfl ?_
              refine J_pick [0, 1, 2, 3, 4, 5, 6] (ls' := [(0, jR 74), (1, jI v1), (2, jI v2), (4, jI v4), (5, jI v5), (6, jI (jW (v6 + r3.2 74 18))), (7, jI (jW (v7 + 1)))]) rfl ?_
              exact ih v1 v2 v4 v5 (jW (v6 + r3.2 74 18)) (jW (v7 + 1)) r3.2 _ hf hq
            · refine B_blk B jlkX10_ok jcl_SKF [.iconst 1, .goto 4, .iadd, .istore 6, .iinc 7 1, .goto (-97)] (by decide +kernel) (ls' := [(0, jR 74), (1, jI v1), (2, jI v2), (4, jI v4), (5, jI v5), (6, jI (jW (v6 + 1))), (7, jI (jW (v7 + 1))), (8, jI 1)]) (st' := []) rfl (p1 := 82) rfl ?_
              refine J_pick [0, 1, 2, 3, 4, 5, 6] (ls' := [(0, jR 74), (1, jI v1), (2, jI v2), (4, jI v4), (5, jI v5), (6, jI (jW (v6 + 1))), (7, jI (jW (v7 + 1)))]) rfl ?_
              exact ih v1 v2 v4 v5 (jW (v6 + 1)) (jW (v7 + 1)) r3.2 _ hf hq
          · refine B_blk B jlkX10_ok jcl_SKF [.iconst 0] (by decide +kernel) (ls' := [(0, jR 74), (1, jI v1), (2, jI v2), (4, jI v4), (5, jI v5), (6, jI v6), (7, jI v7)]) (st' := [jI 0, jI 1]) rfl (p1 := 138) rfl ?_
            refine J_icmp_ne (T := none) (F := some ()) (r := ()) B.1 (off := 7) (tgt := 145) (by decide +kernel) (by decide) (if_neg (by decide)) (fun h => nomatch h) (fun _ => ?_)
            refine B_blk B jlkX10_ok jcl_SKF [.iconst 0, .istore 8, .iload 6, .iload 8] (by decide +kernel) (ls' := [(0, jR 74), (1, jI v1), (2, jI v2), (4, jI v4), (5, jI v5), (6, jI v6), (7, jI v7), (8, jI 0)]) (st' := [jI 0, jI v6]) rfl (p1 := 152) rfl ?_
            refine J_if_eq (T := some ()) (F := none) (r := ()) B.1 (off := 20) (tgt := 172) (by decide +kernel) (by decide) (if_pos (by decide)) (fun _ => ?_) (fun h => nomatch h)
            refine B_blk B jlkX10_ok jcl_SKF [.iconst 0, .iadd, .istore 6, .iinc 7 1, .goto (-97)] (by decide +kernel) (ls' := [(0, jR 74), (1, jI v1), (2, jI v2), (4, jI v4), (5, jI v5), (6, jI (jW (v6 + 0))), (7, jI (jW (v7 + 1))), (8, jI 0)]) (st' := []) rfl (p1 := 82) rfl ?_
            refine J_pick [0, 1, 2, 3, 4, 5, 6] (ls' := [(0, jR 74), (1, jI v1), (2, jI v2), (4, jI v4), (5, jI v5), (6, jI (jW (v6 + 0))), (7, jI (jW (v7 + 1)))]) rfl ?_
            exact ih v1 v2 v4 v5 (jW (v6 + 0)) (jW (v7 + 1)) r3.2 _ hf hq
        · refine B_blk B jlkX10_ok jcl_SKF [.iconst 0, .iload 5] (by decide +kernel) (ls' := [(0, jR 74), (1, jI v1), (2, jI v2), (4, jI v4), (5, jI v5), (6, jI v6), (7, jI v7)]) (st' := [jI v5, jI 0]) rfl (p1 := 130) rfl ?_
          refine J_if_ne B.1 (off := 7) (tgt := 137) (by decide +kernel) (by decide) hf (fun hf => ?_) (fun hf => ?_)
          · refine B_blk B jlkX10_ok jcl_SKF [.iconst 1, .goto 4] (by decide +kernel) (ls' := [(0, jR 74), (1, jI v1), (2, jI v2), (4, jI v4), (5, jI v5), (6, jI v6), (7, jI v7)]) (st' := [jI 1, jI 0]) rfl (p1 := 138) rfl ?_
            refine J_icmp_ne (T := none) (F := some ()) (r := ()) B.1 (off := 7) (tgt := 145) (by decide +kernel) (by decide) (if_neg (by decide)) (fun h => nomatch h) (fun _ => ?_)
            refine B_blk B jlkX10_ok jcl_SKF [.iconst 0, .istore 8, .iload 6, .iload 8] (by decide +kernel) (ls' := [(0, jR 74), (1, jI v1), (2, jI v2), (4, jI v4), (5, jI v5), (6, jI v6), (7, jI v7), (8, jI 0)]) (st' := [jI 0, jI v6]) rfl (p1 := 152) rfl ?_
            refine J_if_eq (T := some ()) (F := none) (r := ()) B.1 (off := 20) (tgt := 172) (by decide +kernel) (by decide) (if_pos (by decide)) (fun _ => ?_) (fun h => nomatch h)
            refine B_blk B jlkX10_ok jcl_SKF [.iconst 0, .iadd, .istore 6, .iinc 7 1, .goto (-97)] (by decide +kernel) (ls' := [(0, jR 74), (1, jI v1), (2, jI v2), (4, jI v4), (5, jI v5), (6, jI (jW (v6 + 0))), (7, jI (jW (v7 + 1))), (8, jI 0)]) (st' := []) rfl (p1 := 82) rfl ?_
            refine J_pick [0, 1, 2, 3, 4, 5, 6] (ls' := [(0, jR 74), (1, jI v1), (2, jI v2), (4, jI v4), (5, jI v5), (6, jI (jW (v6 + 0))), (7, jI (jW (v7 + 1)))]) rfl ?_
            exact ih v1 v2 v4 v5 (jW (v6 + 0)) (jW (v7 + 1)) r3.2 _ hf hq
          · refine B_blk B jlkX10_ok jcl_SKF [.iconst 0] (by decide +kernel) (ls' := [(0, jR 74), (1, jI v1), (2, jI v2), (4, jI v4), (5, jI v5), (6, jI v6), (7, jI v7)]) (st' := [jI 0, jI 0]) rfl (p1 := 138) rfl ?_
            refine J_icmp_ne (T := some ()) (F := none) (r := ()) B.1 (off := 7) (tgt := 145) (by decide +kernel) (by decide) (if_pos (by decide)) (fun _ => ?_) (fun h => nomatch h)
            refine B_blk B jlkX10_ok jcl_SKF [.iconst 1, .goto 4, .istore 8, .iload 6, .iload 8] (by decide +kernel) (ls' := [(0, jR 74), (1, jI v1), (2, jI v2), (4, jI v4), (5, jI v5), (6, jI v6), (7, jI v7), (8, jI 1)]) (st' := [jI 1, jI v6]) rfl (p1 := 152) rfl ?_
            refine J_if_eq (T := none) (F := some ()) (r := ()) B.1 (off := 20) (tgt := 172) (by decide +kernel) (by decide) (if_neg (by decide)) (fun h => nomatch h) (fun _ => ?_)
            refine B_blk B jlkX10_ok jcl_SKF [.iload 5, .iconst 3] (by decide +kernel) (ls' := [(0, jR 74), (1, jI v1), (2, jI v2), (4, jI v4), (5, jI v5), (6, jI v6), (7, jI v7), (8, jI 1)]) (st' := [jI 3, jI v5, jI v6]) rfl (p1 := 158) rfl ?_
            refine J_icmp_ne B.1 (off := 10) (tgt := 168) (by decide +kernel) (by decide) hf (fun hf => ?_) (fun hf => ?_)
            · refine B_blk B jlkX10_ok jcl_SKF [.aload_n 0, .getfield 174, .goto 8, .iadd, .istore 6, .iinc 7 1, .goto (-97)] (by decide +kernel) (ls' := [(0, jR 74), (1, jI v1), (2, jI v2), (4, jI v4), (5, jI v5), (6, jI (jW (v6 + r3.2 74 18))), (7, jI (jW (v7 + 1))), (8, jI 1)]) (st' := []) rfl (p1 := 82) rfl ?_
              refine J_pick [0, 1, 2, 3, 4, 5, 6] (ls' := [(0, jR 74), (1, jI v1), (2, jI v2), (4, jI v4), (5, jI v5), (6, jI (jW (v6 + r3.2 74 18))), (7, jI (jW (v7 + 1)))]) rfl ?_
              exact ih v1 v2 v4 v5 (jW (v6 + r3.2 74 18)) (jW (v7 + 1)) r3.2 _ hf hq
            · refine B_blk B jlkX10_ok jcl_SKF [.iconst 1, .goto 4, .iadd, .istore 6, .iinc 7 1, .goto (-97)] (by decide +kernel) (ls' := [(0, jR 74), (1, jI v1), (2, jI v2), (4, jI v4), (5, jI v5), (6, jI (jW (v6 + 1))), (7, jI (jW (v7 + 1))), (8, jI 1)]) (st' := []) rfl (p1 := 82) rfl ?_
              refine J_pick [0, 1, 2, 3, 4, 5, 6] (ls' := [(0, jR 74), (1, jI v1), (2, jI v2), (4, jI v4), (5, jI v5), (6, jI (jW (v6 + 1))), (7, jI (jW (v7 + 1)))]) rfl ?_
              exact ih v1 v2 v4 v5 (jW (v6 + 1)) (jW (v7 + 1)) r3.2 _ hf hq
      · refine B_blk B jlkX10_ok jcl_SKF [.aload_n 0, .iload_n 1, .iload_n 2, .iload 7] (by decide +kernel) (ls' := [(0, jR 74), (1, jI v1), (2, jI v2), (4, jI v4), (5, jI v5), (6, jI v6), (7, jI v7)]) (st' := [jI v7, jI v2, jI v1, jR 74]) rfl (p1 := 106) rfl ?_
        obtain ⟨r4, h4, hf⟩ := jbd hf
        refine B_callV B (Nat.le_refl _) (μ' := r4.2) (k' := 0) (n' := 0) ca_X10_isLost in_X10_isLost se_X10_isLost lk_X10_215 (t_X10_isLost B.tr h4) (Nat.le_refl _) rfl rfl rfl (rest := []) rfl rfl (Nat.le_of_ble_eq_true rfl) (by decide +kernel) rfl rfl (st' := [jI r4.1]) rfl ?_
        refine B_blk B jlkX10_ok jcl_SKF [.goto 37, .istore 8, .iload 6, .iload 8] (by decide +kernel) (ls' := [(0, jR 74), (1, jI v1), (2, jI v2), (4, jI v4), (5, jI v5), (6, jI v6), (7, jI v7), (8, jI r4.1)]) (st' := [jI r4.1, jI v6]) rfl (p1 := 152) rfl ?_
        refine J_if_eq B.1 (off := 20) (tgt := 172) (by decide +kernel) (by decide) hf (fun hf => ?_) (fun hf => ?_)
        · refine B_blk B jlkX10_ok jcl_SKF [.iconst 0, .iadd, .istore 6, .iinc 7 1, .goto (-97)] (by decide +kernel) (ls' := [(0, jR 74), (1, jI v1), (2, jI v2), (4, jI v4), (5, jI v5), (6, jI (jW (v6 + 0))), (7, jI (jW (v7 + 1))), (8, jI r4.1)]) (st' := []) rfl (p1 := 82) rfl ?_
          refine J_pick [0, 1, 2, 3, 4, 5, 6] (ls' := [(0, jR 74), (1, jI v1), (2, jI v2), (4, jI v4), (5, jI v5), (6, jI (jW (v6 + 0))), (7, jI (jW (v7 + 1)))]) rfl ?_
          exact ih v1 v2 v4 v5 (jW (v6 + 0)) (jW (v7 + 1)) r4.2 _ hf hq
        · refine B_blk B jlkX10_ok jcl_SKF [.iload 5, .iconst 3] (by decide +kernel) (ls' := [(0, jR 74), (1, jI v1), (2, jI v2), (4, jI v4), (5, jI v5), (6, jI v6), (7, jI v7), (8, jI r4.1)]) (st' := [jI 3, jI v5, jI v6]) rfl (p1 := 158) rfl ?_
          refine J_icmp_ne B.1 (off := 10) (tgt := 168) (by decide +kernel) (by decide) hf (fun hf => ?_) (fun hf => ?_)
          · refine B_blk B jlkX10_ok jcl_SKF [.aload_n 0, .getfield 174, .goto 8, .iadd, .istore 6, .iinc 7 1, .goto (-97)] (by decide +kernel) (ls' := [(0, jR 74), (1, jI v1), (2, jI v2), (4, jI v4), (5, jI v5), (6, jI (jW (v6 + r4.2 74 18))), (7, jI (jW (v7 + 1))), (8, jI r4.1)]) (st' := []) rfl (p1 := 82) rfl ?_
            refine J_pick [0, 1, 2, 3, 4, 5, 6] (ls' := [(0, jR 74), (1, jI v1), (2, jI v2), (4, jI v4), (5, jI v5), (6, jI (jW (v6 + r4.2 74 18))), (7, jI (jW (v7 + 1)))]) rfl ?_
            exact ih v1 v2 v4 v5 (jW (v6 + r4.2 74 18)) (jW (v7 + 1)) r4.2 _ hf hq
          · refine B_blk B jlkX10_ok jcl_SKF [.iconst 1, .goto 4, .iadd, .istore 6, .iinc 7 1, .goto (-97)] (by decide +kernel) (ls' := [(0, jR 74), (1, jI v1), (2, jI v2), (4, jI v4), (5, jI v5), (6, jI (jW (v6 + 1))), (7, jI (jW (v7 + 1))), (8, jI r4.1)]) (st' := []) rfl (p1 := 82) rfl ?_
            refine J_pick [0, 1, 2, 3, 4, 5, 6] (ls' := [(0, jR 74), (1, jI v1), (2, jI v2), (4, jI v4), (5, jI v5), (6, jI (jW (v6 + 1))), (7, jI (jW (v7 + 1)))]) rfl ?_
            exact ih v1 v2 v4 v5 (jW (v6 + 1)) (jW (v7 + 1)) r4.2 _ hf hq
theorem t_X10_hours_J32 {X : jX} (B : jB X cX10_hours RX10 9 SKF.length rm_X10_hours (some .int)) (v1 : Int) (v2 : Int) (v3 : Int) (v4 : Int) (v5 : Int) (m : jMu) (r : (Int × jMu)) (hf : f_X10_hours_J32 v1 v2 v3 v4 v5 m = some r) (hq : jQ X (.inl (some (jI r.1))) SKF r.2 rm_X10_hours.cells rm_X10_hours.slots) : J X SKF m 0 0 32 [(0, jR 74), (1, jI v1), (2, jI v2), (3, jI v3), (4, jI v4), (5, jI v5)] [jR 74] := by
  unfold f_X10_hours_J32 at hf
  refine B_blk B jlkX10_ok jcl_SKF [.iconst 1, .goto 28] (by decide +kernel) (ls' := [(0, jR 74), (1, jI v1), (2, jI v2), (3, jI v3), (4, jI v4), (5, jI v5)]) (st' := [jI 1, jR 74]) rfl (p1 := 61) rfl ?_
  refine K_putI (jI' := 0) B jp_X10_51 rfl rfl rfl (by decide +kernel) ?_
  obtain ⟨m2, hm2, hf⟩ := jlt_s hf
  rw [hm2]
  refine B_blk B jlkX10_ok jcl_SKF [.aload_n 0, .getfield 51] (by decide +kernel) (ls' := [(0, jR 74), (1, jI v1), (2, jI v2), (3, jI v3), (4, jI v4), (5, jI v5)]) (st' := [jI (m2 74 0)]) rfl (p1 := 68) rfl ?_
  refine J_if_le B.1 (off := 5) (tgt := 73) (by decide +kernel) (by decide) hf (fun hf => ?_) (fun hf => ?_)
  · refine B_blk B jlkX10_ok jcl_SKF [.iconst 0, .istore 6, .bipush 12, .iload_n 3, .imul, .istore 7] (by decide +kernel) (ls' := [(0, jR 74), (1, jI v1), (2, jI v2), (3, jI v3), (4, jI v4), (5, jI v5), (6, jI 0), (7, jI (jW (12 * v3)))]) (st' := []) rfl (p1 := 82) rfl ?_
    refine J_pick [0, 1, 2, 4, 5, 6, 7] (ls' := [(0, jR 74), (1, jI v1), (2, jI v2), (4, jI v4), (5, jI v5), (6, jI 0), (7, jI (jW (12 * v3)))]) rfl ?_
    exact t_X10_hours_L82 B jFU v1 v2 v4 v5 0 (jW (12 * v3)) m2 _ hf hq
  · refine B_blk B jlkX10_ok jcl_SKF [.iconst 0] (by decide +kernel) (ls' := [(0, jR 74), (1, jI v1), (2, jI v2), (3, jI v3), (4, jI v4), (5, jI v5)]) (st' := [jI 0]) rfl (p1 := 72) rfl ?_
    cases hf
    exact B_retI B hq rfl (Nat.le_of_ble_eq_true rfl) (Nat.le_of_ble_eq_true rfl) (by decide +kernel)
theorem t_X10_hours {l : Launch} {G : jG} (hl : l.stackTraces = false) {a0 : Int} {a1 : Int} {a2 : Int} {a3 : Int} {a4 : Int} {m : jMu} {r : (Int × jMu)} (hf : f_X10_hours a0 a1 a2 a3 a4 m = some r) : jCt l G yX10_hours (.code yX10_hours cX10_hours 9 (some .int) :: jWG) rm_X10_hours [jR 74, jI a0, jI a1, jI a2, jI a3, jI a4] SKF m (.inl (some (jI r.1))) SKF r.2 := by
  unfold f_X10_hours at hf
  refine J_start (ls0 := [(0, jR 74), (1, jI a0), (2, jI a1), (3, jI a2), (4, jI a3), (5, jI a4)]) (by decide +kernel) hl (Nat.le_of_ble_eq_true rfl) rfl fun X C hN hn hR hr hnm hno hq => ?_
  have B : jB X cX10_hours RX10 9 SKF.length rm_X10_hours (some .int) := ⟨C, hN, Nat.le_of_eq hn, hR, hr⟩
  refine B_blk B jlkX10_ok jcl_SKF [.aload_n 0, .aload_n 0, .iload_n 1] (by decide +kernel) (ls' := [(0, jR 74), (1, jI a0), (2, jI a1), (3, jI a2), (4, jI a3), (5, jI a4)]) (st' := [jI a0, jR 74, jR 74]) rfl (p1 := 3) rfl ?_
  obtain ⟨r1, h1, hf⟩ := jbd hf
  refine B_callV B (Nat.le_refl _) (μ' := m) (k' := 0) (n' := 0) ca_X10_isTerms in_X10_isTerms se_X10_isTerms lk_X10_203 (t_X10_isTerms B.tr h1) (Nat.le_refl _) rfl rfl rfl (rest := [jR 74]) rfl rfl (Nat.le_of_ble_eq_true rfl) (by decide +kernel) rfl rfl (st' := [jI r1, jR 74]) rfl ?_
  refine J_if_eq B.1 (off := 26) (tgt := 32) (by decide +kernel) (by decide) hf (fun hf => ?_) (fun hf => ?_)
  · exact t_X10_hours_J32 B a0 a1 a2 a3 a4 m _ hf hq
  · refine B_blk B jlkX10_ok jcl_SKF [.aload_n 0, .iload_n 2] (by decide +kernel) (ls' := [(0, jR 74), (1, jI a0), (2, jI a1), (3, jI a2), (4, jI a3), (5, jI a4)]) (st' := [jI a1, jR 74, jR 74]) rfl (p1 := 11) rfl ?_
    obtain ⟨r5, h5, hf⟩ := jbd hf
    refine B_callV B (Nat.le_refl _) (μ' := m) (k' := 0) (n' := 0) ca_X10_isBay in_X10_isBay se_X10_isBay lk_X10_206 (t_X10_isBay B.tr h5) (Nat.le_refl _) rfl rfl rfl (rest := [jR 74]) rfl rfl (Nat.le_of_ble_eq_true rfl) (by decide +kernel) rfl rfl (st' := [jI r5, jR 74]) rfl ?_
    refine J_if_eq B.1 (off := 18) (tgt := 32) (by decide +kernel) (by decide) hf (fun hf => ?_) (fun hf => ?_)
    · exact t_X10_hours_J32 B a0 a1 a2 a3 a4 m _ hf hq
    · refine B_blk B jlkX10_ok jcl_SKF [.iload_n 3] (by decide +kernel) (ls' := [(0, jR 74), (1, jI a0), (2, jI a1), (3, jI a2), (4, jI a3), (5, jI a4)]) (st' := [jI a2, jR 74]) rfl (p1 := 18) rfl ?_
      obtain ⟨r6, h6, hf⟩ := jbd hf
      refine B_callS B (Nat.le_refl _) (μ' := m) (k' := 0) (n' := 0) ca_X10_isDay sa_X10_isDay lk_X10_209 (t_X10_isDay B.tr jcl_SKF h6) (Nat.le_refl _) rfl (rest := [jR 74]) rfl rfl (Nat.le_of_ble_eq_true rfl) (by decide +kernel) rfl rfl (st' := [jI r6, jR 74]) rfl ?_
      refine J_if_eq B.1 (off := 11) (tgt := 32) (by decide +kernel) (by decide) hf (fun hf => ?_) (fun hf => ?_)
      · exact t_X10_hours_J32 B a0 a1 a2 a3 a4 m _ hf hq
      · refine B_blk B jlkX10_ok jcl_SKF [.iload 4] (by decide +kernel) (ls' := [(0, jR 74), (1, jI a0), (2, jI a1), (3, jI a2), (4, jI a3), (5, jI a4)]) (st' := [jI a3, jR 74]) rfl (p1 := 26) rfl ?_
        obtain ⟨r7, h7, hf⟩ := jbd hf
        refine B_callS B (Nat.le_refl _) (μ' := m) (k' := 0) (n' := 0) ca_X10_isDay sa_X10_isDay lk_X10_209 (t_X10_isDay B.tr jcl_SKF h7) (Nat.le_refl _) rfl (rest := [jR 74]) rfl rfl (Nat.le_of_ble_eq_true rfl) (by decide +kernel) rfl rfl (st' := [jI r7, jR 74]) rfl ?_
        refine J_if_ne B.1 (off := 7) (tgt := 36) (by decide +kernel) (by decide) hf (fun hf => ?_) (fun hf => ?_)
        · exact t_X10_hours_J32 B a0 a1 a2 a3 a4 m _ hf hq
        · refine B_blk B jlkX10_ok jcl_SKF [.iload 4, .iload_n 3] (by decide +kernel) (ls' := [(0, jR 74), (1, jI a0), (2, jI a1), (3, jI a2), (4, jI a3), (5, jI a4)]) (st' := [jI a2, jI a3, jR 74]) rfl (p1 := 39) rfl ?_
          refine J_icmp_ge B.1 (off := 7) (tgt := 46) (by decide +kernel) (by decide) hf (fun hf => ?_) (fun hf => ?_)
          · refine B_blk B jlkX10_ok jcl_SKF [.iload 5, .iconst 0, .iconst 3] (by decide +kernel) (ls' := [(0, jR 74), (1, jI a0), (2, jI a1), (3, jI a2), (4, jI a3), (5, jI a4)]) (st' := [jI 3, jI 0, jI a4, jR 74]) rfl (p1 := 50) rfl ?_
            obtain ⟨r8, h8, hf⟩ := jbd hf
            refine B_callS B (Nat.le_refl _) (μ' := m) (k' := 0) (n' := 0) ca_X10_isIn sa_X10_isIn lk_X10_54 (t_X10_isIn B.tr jcl_SKF h8) (Nat.le_refl _) rfl (rest := [jR 74]) rfl rfl (Nat.le_of_ble_eq_true rfl) (by decide +kernel) rfl rfl (st' := [jI r8, jR 74]) rfl ?_
            refine J_if_ne B.1 (off := 7) (tgt := 60) (by decide +kernel) (by decide) hf (fun hf => ?_) (fun hf => ?_)
            · refine B_blk B jlkX10_ok jcl_SKF [.iconst 3, .goto 4] (by decide +kernel) (ls' := [(0, jR 74), (1, jI a0), (2, jI a1), (3, jI a2), (4, jI a3), (5, jI a4)]) (st' := [jI 3, jR 74]) rfl (p1 := 61) rfl ?_
              refine K_putI (jI' := 0) B jp_X10_51 rfl rfl rfl (by decide +kernel) ?_
              obtain ⟨m9, hm9, hf⟩ := jlt_s hf
              rw [hm9]
              refine B_blk B jlkX10_ok jcl_SKF [.aload_n 0, .getfield 51] (by decide +kernel) (ls' := [(0, jR 74), (1, jI a0), (2, jI a1), (3, jI a2), (4, jI a3), (5, jI a4)]) (st' := [jI (m9 74 0)]) rfl (p1 := 68) rfl ?_
              refine J_if_le B.1 (off := 5) (tgt := 73) (by decide +kernel) (by decide) hf (fun hf => ?_) (fun hf => ?_)
              · refine B_blk B jlkX10_ok jcl_SKF [.iconst 0, .istore 6, .bipush 12, .iload_n 3, .imul, .istore 7] (by decide +kernel) (ls' := [(0, jR 74), (1, jI a0), (2, jI a1), (3, jI a2), (4, jI a3), (5, jI a4), (6, jI 0), (7, jI (jW (12 * a2)))]) (st' := []) rfl (p1 := 82) rfl ?_
                refine J_pick [0, 1, 2, 4, 5, 6, 7] (ls' := [(0, jR 74), (1, jI a0), (2, jI a1), (4, jI a3), (5, jI a4), (6, jI 0), (7, jI (jW (12 * a2)))]) rfl ?_
                exact t_X10_hours_L82 B jFU a0 a1 a3 a4 0 (jW (12 * a2)) m9 _ hf hq
              · refine B_blk B jlkX10_ok jcl_SKF [.iconst 0] (by decide +kernel) (ls' := [(0, jR 74), (1, jI a0), (2, jI a1), (3, jI a2), (4, jI a3), (5, jI a4)]) (st' := [jI 0]) rfl (p1 := 72) rfl ?_
                cases hf
                exact B_retI B hq rfl (Nat.le_of_ble_eq_true rfl) (Nat.le_of_ble_eq_true rfl) (by decide +kernel)
            · refine B_blk B jlkX10_ok jcl_SKF [.iconst 0] (by decide +kernel) (ls' := [(0, jR 74), (1, jI a0), (2, jI a1), (3, jI a2), (4, jI a3), (5, jI a4)]) (st' := [jI 0, jR 74]) rfl (p1 := 61) rfl ?_
              refine K_putI (jI' := 0) B jp_X10_51 rfl rfl rfl (by decide +kernel) ?_
              obtain ⟨m10, hm10, hf⟩ := jlt_s hf
              rw [hm10]
              refine B_blk B jlkX10_ok jcl_SKF [.aload_n 0, .getfield 51] (by decide +kernel) (ls' := [(0, jR 74), (1, jI a0), (2, jI a1), (3, jI a2), (4, jI a3), (5, jI a4)]) (st' := [jI (m10 74 0)]) rfl (p1 := 68) rfl ?_
              refine J_if_le B.1 (off := 5) (tgt := 73) (by decide +kernel) (by decide) hf (fun hf => ?_) (fun hf => ?_)
              · refine B_blk B jlkX10_ok jcl_SKF [.iconst 0, .istore 6, .bipush 12, .iload_n 3, .imul, .istore 7] (by decide +kernel) (ls' := [(0, jR 74), (1, jI a0), (2, jI a1), (3, jI a2), (4, jI a3), (5, jI a4), (6, jI 0), (7, jI (jW (12 * a2)))]) (st' := []) rfl (p1 := 82) rfl ?_
                refine J_pick [0, 1, 2, 4, 5, 6, 7] (ls' := [(0, jR 74), (1, jI a0), (2, jI a1), (4, jI a3), (5, jI a4), (6, jI 0), (7, jI (jW (12 * a2)))]) rfl ?_
                exact t_X10_hours_L82 B jFU a0 a1 a3 a4 0 (jW (12 * a2)) m10 _ hf hq
              · refine B_blk B jlkX10_ok jcl_SKF [.iconst 0] (by decide +kernel) (ls' := [(0, jR 74), (1, jI a0), (2, jI a1), (3, jI a2), (4, jI a3), (5, jI a4)]) (st' := [jI 0]) rfl (p1 := 72) rfl ?_
                cases hf
                exact B_retI B hq rfl (Nat.le_of_ble_eq_true rfl) (Nat.le_of_ble_eq_true rfl) (by decide +kernel)
          · refine B_blk B jlkX10_ok jcl_SKF [.iconst 2, .goto 18] (by decide +kernel) (ls' := [(0, jR 74), (1, jI a0), (2, jI a1), (3, jI a2), (4, jI a3), (5, jI a4)]) (st' := [jI 2, jR 74]) rfl (p1 := 61) rfl ?_
            refine K_putI (jI' := 0) B jp_X10_51 rfl rfl rfl (by decide +kernel) ?_
            obtain ⟨m11, hm11, hf⟩ := jlt_s hf
            rw [hm11]
            refine B_blk B jlkX10_ok jcl_SKF [.aload_n 0, .getfield 51] (by decide +kernel) (ls' := [(0, jR 74), (1, jI a0), (2, jI a1), (3, jI a2), (4, jI a3), (5, jI a4)]) (st' := [jI (m11 74 0)]) rfl (p1 := 68) rfl ?_
            refine J_if_le B.1 (off := 5) (tgt := 73) (by decide +kernel) (by decide) hf (fun hf => ?_) (fun hf => ?_)
            · refine B_blk B jlkX10_ok jcl_SKF [.iconst 0, .istore 6, .bipush 12, .iload_n 3, .imul, .istore 7] (by decide +kernel) (ls' := [(0, jR 74), (1, jI a0), (2, jI a1), (3, jI a2), (4, jI a3), (5, jI a4), (6, jI 0), (7, jI (jW (12 * a2)))]) (st' := []) rfl (p1 := 82) rfl ?_
              refine J_pick [0, 1, 2, 4, 5, 6, 7] (ls' := [(0, jR 74), (1, jI a0), (2, jI a1), (4, jI a3), (5, jI a4), (6, jI 0), (7, jI (jW (12 * a2)))]) rfl ?_
              exact t_X10_hours_L82 B jFU a0 a1 a3 a4 0 (jW (12 * a2)) m11 _ hf hq
            · refine B_blk B jlkX10_ok jcl_SKF [.iconst 0] (by decide +kernel) (ls' := [(0, jR 74), (1, jI a0), (2, jI a1), (3, jI a2), (4, jI a3), (5, jI a4)]) (st' := [jI 0]) rfl (p1 := 72) rfl ?_
              cases hf
              exact B_retI B hq rfl (Nat.le_of_ble_eq_true rfl) (Nat.le_of_ble_eq_true rfl) (by decide +kernel)

def rm_X10_gang : Room := { frames := 4, cells := 0, slots := 0, locals := 86 }
def f_X10_gang_J30 (v1 : Int) (s1 : Int) (m : jMu) : Option (Int × jMu) :=
  (jlt (jup m 74 0 s1) fun m2 => (if m2 74 0 ≤ 0 then (if 0 ≤ jW (348 + m2 75 6) ∧ jW (348 + m2 75 6) < 2083 then (jlt (jup m2 75 (jW (348 + m2 75 6)) v1) fun m3 => (jlt (jup m3 75 6 (jW (m3 75 6 + 1))) fun m4 => some (jW (m4 75 6 - 1), m4))) else none) else some (0, m2)))
def f_X10_gang (a0 : Int) (m : jMu) : Option (Int × jMu) :=
  (f_X10_isIn a0 1 5).bind fun r1 => (if r1 = 0 then f_X10_gang_J30 a0 1 m else (if m 75 6 = 4 then f_X10_gang_J30 a0 2 m else f_X10_gang_J30 a0 0 m))
theorem t_X10_gang_J30 {X : jX} (B : jB X cX10_gang RX10 2 SKF.length rm_X10_gang (some .int)) (v1 : Int) (s1 : Int) (m : jMu) (r : (Int × jMu)) (hf : f_X10_gang_J30 v1 s1 m = some r) (hq : jQ X (.inl (some (jI r.1))) SKF r.2 rm_X10_gang.cells rm_X10_gang.slots) : J X SKF m 0 0 30 [(0, jR 74), (1, jI v1)] [jI s1, jR 74] := by
  unfold f_X10_gang_J30 at hf
  refine K_putI (jI' := 0) B jp_X10_51 rfl rfl rfl (by decide +kernel) ?_
  obtain ⟨m2, hm2, hf⟩ := jlt_s hf
  rw [hm2]
  refine B_blk B jlkX10_ok jcl_SKF [.aload_n 0, .getfield 51] (by decide +kernel) (ls' := [(0, jR 74), (1, jI v1)]) (st' := [jI (m2 74 0)]) rfl (p1 := 37) rfl ?_
  refine J_if_le B.1 (off := 5) (tgt := 42) (by decide +kernel) (by decide) hf (fun hf => ?_) (fun hf => ?_)
  · refine B_blk B jlkX10_ok jcl_SKF [.aload_n 0, .getfield 7, .sipush 348, .aload_n 0, .getfield 7, .bipush 6] (by decide +kernel) (ls' := [(0, jR 74), (1, jI v1)]) (st' := [jI 6, jR 75, jI 348, jR 75]) rfl (p1 := 55) rfl ?_
    refine K_iald (lenI := 2083) B rfl rfl (by decide) (by decide +kernel) ?_
    refine B_blk B jlkX10_ok jcl_SKF [.iadd, .iload_n 1] (by decide +kernel) (ls' := [(0, jR 74), (1, jI v1)]) (st' := [jI v1, jI (jW (348 + m2 75 6)), jR 75]) rfl (p1 := 58) rfl ?_
    obtain ⟨g5, hf⟩ := jgd hf
    refine K_iast (lenI := 2083) B rfl rfl g5 (by decide +kernel) ?_
    obtain ⟨m3, hm3, hf⟩ := jlt_s hf
    rw [hm3]
    refine B_blk B jlkX10_ok jcl_SKF [.aload_n 0, .getfield 7, .bipush 6, .dup2] (by decide +kernel) (ls' := [(0, jR 74), (1, jI v1)]) (st' := [jI 6, jR 75, jI 6, jR 75]) rfl (p1 := 66) rfl ?_
    refine K_iald (lenI := 2083) B rfl rfl (by decide) (by decide +kernel) ?_
    refine B_blk B jlkX10_ok jcl_SKF [.iconst 1, .iadd] (by decide +kernel) (ls' := [(0, jR 74), (1, jI v1)]) (st' := [jI (jW (m3 75 6 + 1)), jI 6, jR 75]) rfl (p1 := 69) rfl ?_
    refine K_iast (lenI := 2083) B rfl rfl (by decide) (by decide +kernel) ?_
    obtain ⟨m4, hm4, hf⟩ := jlt_s hf
    rw [hm4]
    refine B_blk B jlkX10_ok jcl_SKF [.aload_n 0, .getfield 7, .bipush 6] (by decide +kernel) (ls' := [(0, jR 74), (1, jI v1)]) (st' := [jI 6, jR 75]) rfl (p1 := 76) rfl ?_
    refine K_iald (lenI := 2083) B rfl rfl (by decide) (by decide +kernel) ?_
    refine B_blk B jlkX10_ok jcl_SKF [.iconst 1, .isub] (by decide +kernel) (ls' := [(0, jR 74), (1, jI v1)]) (st' := [jI (jW (m4 75 6 - 1))]) rfl (p1 := 79) rfl ?_
    cases hf
    exact B_retI B hq rfl (Nat.le_of_ble_eq_true rfl) (Nat.le_of_ble_eq_true rfl) (by decide +kernel)
  · refine B_blk B jlkX10_ok jcl_SKF [.iconst 0] (by decide +kernel) (ls' := [(0, jR 74), (1, jI v1)]) (st' := [jI 0]) rfl (p1 := 41) rfl ?_
    cases hf
    exact B_retI B hq rfl (Nat.le_of_ble_eq_true rfl) (Nat.le_of_ble_eq_true rfl) (by decide +kernel)
theorem t_X10_gang {l : Launch} {G : jG} (hl : l.stackTraces = false) {a0 : Int} {m : jMu} {r : (Int × jMu)} (hf : f_X10_gang a0 m = some r) : jCt l G yX10_gang (.code yX10_gang cX10_gang 2 (some .int) :: jWG) rm_X10_gang [jR 74, jI a0] SKF m (.inl (some (jI r.1))) SKF r.2 := by
  unfold f_X10_gang at hf
  refine J_start (ls0 := [(0, jR 74), (1, jI a0)]) (by decide +kernel) hl (Nat.le_of_ble_eq_true rfl) rfl fun X C hN hn hR hr hnm hno hq => ?_
  have B : jB X cX10_gang RX10 2 SKF.length rm_X10_gang (some .int) := ⟨C, hN, Nat.le_of_eq hn, hR, hr⟩
  refine B_blk B jlkX10_ok jcl_SKF [.aload_n 0, .iload_n 1, .iconst 1, .iconst 5] (by decide +kernel) (ls' := [(0, jR 74), (1, jI a0)]) (st' := [jI 5, jI 1, jI a0, jR 74]) rfl (p1 := 4) rfl ?_
  obtain ⟨r1, h1, hf⟩ := jbd hf
  refine B_callS B (Nat.le_refl _) (μ' := m) (k' := 0) (n' := 0) ca_X10_isIn sa_X10_isIn lk_X10_54 (t_X10_isIn B.tr jcl_SKF h1) (Nat.le_refl _) rfl (rest := [jR 74]) rfl rfl (Nat.le_of_ble_eq_true rfl) (by decide +kernel) rfl rfl (st' := [jI r1, jR 74]) rfl ?_
  refine J_if_ne B.1 (off := 7) (tgt := 14) (by decide +kernel) (by decide) hf (fun hf => ?_) (fun hf => ?_)
  · refine B_blk B jlkX10_ok jcl_SKF [.iconst 1, .goto 19] (by decide +kernel) (ls' := [(0, jR 74), (1, jI a0)]) (st' := [jI 1, jR 74]) rfl (p1 := 30) rfl ?_
    exact t_X10_gang_J30 B a0 1 m _ hf hq
  · refine B_blk B jlkX10_ok jcl_SKF [.aload_n 0, .getfield 7, .bipush 6] (by decide +kernel) (ls' := [(0, jR 74), (1, jI a0)]) (st' := [jI 6, jR 75, jR 74]) rfl (p1 := 20) rfl ?_
    refine K_iald (lenI := 2083) B rfl rfl (by decide) (by decide +kernel) ?_
    refine B_blk B jlkX10_ok jcl_SKF [.iconst 4] (by decide +kernel) (ls' := [(0, jR 74), (1, jI a0)]) (st' := [jI 4, jI (m 75 6), jR 74]) rfl (p1 := 22) rfl ?_
    refine J_icmp_ne B.1 (off := 7) (tgt := 29) (by decide +kernel) (by decide) hf (fun hf => ?_) (fun hf => ?_)
    · refine B_blk B jlkX10_ok jcl_SKF [.iconst 2, .goto 4] (by decide +kernel) (ls' := [(0, jR 74), (1, jI a0)]) (st' := [jI 2, jR 74]) rfl (p1 := 30) rfl ?_
      exact t_X10_gang_J30 B a0 2 m _ hf hq
    · refine B_blk B jlkX10_ok jcl_SKF [.iconst 0] (by decide +kernel) (ls' := [(0, jR 74), (1, jI a0)]) (st' := [jI 0, jR 74]) rfl (p1 := 30) rfl ?_
      exact t_X10_gang_J30 B a0 0 m _ hf hq

def rm_X10_batch : Room := { frames := 4, cells := 0, slots := 0, locals := 86 }
def f_X10_batch_J53 (v1 : Int) (v2 : Int) (v3 : Int) (s1 : Int) (m : jMu) : Option (Int × jMu) :=
  (jlt (jup m 74 0 s1) fun m2 => (if m2 74 0 ≤ 0 then (if 0 ≤ jW (352 + jW (4 * m2 75 7)) ∧ jW (352 + jW (4 * m2 75 7)) < 2083 then (jlt (jup m2 75 (jW (352 + jW (4 * m2 75 7))) v1) fun m3 => (if 0 ≤ jW (jW (352 + jW (4 * m2 75 7)) + 1) ∧ jW (jW (352 + jW (4 * m2 75 7)) + 1) < 2083 then (jlt (jup m3 75 (jW (jW (352 + jW (4 * m2 75 7)) + 1)) v2) fun m4 => (if 0 ≤ jW (jW (352 + jW (4 * m2 75 7)) + 2) ∧ jW (jW (352 + jW (4 * m2 75 7)) + 2) < 2083 then (jlt (jup m4 75 (jW (jW (352 + jW (4 * m2 75 7)) + 2)) v3) fun m5 => (if 0 ≤ jW (jW (352 + jW (4 * m2 75 7)) + 3) ∧ jW (jW (352 + jW (4 * m2 75 7)) + 3) < 2083 then (jlt (jup m5 75 (jW (jW (352 + jW (4 * m2 75 7)) + 3)) (-1)) fun m6 => (jlt (jup m6 75 7 (jW (m6 75 7 + 1))) fun m7 => some (jW (m7 75 7 - 1), m7))) else none)) else none)) else none)) else none) else some (0, m2)))
def f_X10_batch_J32 (v1 : Int) (v2 : Int) (v3 : Int) (m : jMu) : Option (Int × jMu) :=
  f_X10_batch_J53 v1 v2 v3 1 m
def f_X10_batch (a0 : Int) (a1 : Int) (a2 : Int) (m : jMu) : Option (Int × jMu) :=
  (f_X10_isIn a0 0 99).bind fun r1 => (if r1 = 0 then f_X10_batch_J32 a0 a1 a2 m else (f_X10_isIn a1 0 50).bind fun r12 => (if r12 = 0 then f_X10_batch_J32 a0 a1 a2 m else (f_X10_isIn a2 0 255).bind fun r13 => (if r13 = 0 then f_X10_batch_J32 a0 a1 a2 m else (if m 75 7 = 6 then f_X10_batch_J53 a0 a1 a2 2 m else f_X10_batch_J53 a0 a1 a2 0 m))))
theorem t_X10_batch_J53 {X : jX} (B : jB X cX10_batch RX10 5 SKF.length rm_X10_batch (some .int)) (v1 : Int) (v2 : Int) (v3 : Int) (s1 : Int) (m : jMu) (r : (Int × jMu)) (hf : f_X10_batch_J53 v1 v2 v3 s1 m = some r) (hq : jQ X (.inl (some (jI r.1))) SKF r.2 rm_X10_batch.cells rm_X10_batch.slots) : J X SKF m 0 0 53 [(0, jR 74), (1, jI v1), (2, jI v2), (3, jI v3)] [jI s1, jR 74] := by
  unfold f_X10_batch_J53 at hf
  refine K_putI (jI' := 0) B jp_X10_51 rfl rfl rfl (by decide +kernel) ?_
  obtain ⟨m2, hm2, hf⟩ := jlt_s hf
  rw [hm2]
  refine B_blk B jlkX10_ok jcl_SKF [.aload_n 0, .getfield 51] (by decide +kernel) (ls' := [(0, jR 74), (1, jI v1), (2, jI v2), (3, jI v3)]) (st' := [jI (m2 74 0)]) rfl (p1 := 60) rfl ?_
  refine J_if_le B.1 (off := 5) (tgt := 65) (by decide +kernel) (by decide) hf (fun hf => ?_) (fun hf => ?_)
  · refine B_blk B jlkX10_ok jcl_SKF [.sipush 352, .iconst 4, .aload_n 0, .getfield 7, .bipush 7] (by decide +kernel) (ls' := [(0, jR 74), (1, jI v1), (2, jI v2), (3, jI v3)]) (st' := [jI 7, jR 75, jI 4, jI 352]) rfl (p1 := 75) rfl ?_
    refine K_iald (lenI := 2083) B rfl rfl (by decide) (by decide +kernel) ?_
    refine B_blk B jlkX10_ok jcl_SKF [.imul, .iadd, .istore 4, .aload_n 0, .getfield 7, .iload 4, .iload_n 1] (by decide +kernel) (ls' := [(0, jR 74), (1, jI v1), (2, jI v2), (3, jI v3), (4, jI (jW (352 + jW (4 * m2 75 7))))]) (st' := [jI v1, jI (jW (352 + jW (4 * m2 75 7))), jR 75]) rfl (p1 := 87) rfl ?_
    obtain ⟨g11, hf⟩ := jgd hf
    refine K_iast (lenI := 2083) B rfl rfl g11 (by decide +kernel) ?_
    obtain ⟨m3, hm3, hf⟩ := jlt_s hf
    rw [hm3]
    refine B_blk B jlkX10_ok jcl_SKF [.aload_n 0, .getfield 7, .iload 4, .iconst 1, .iadd, .iload_n 2] (by decide +kernel) (ls' := [(0, jR 74), (1, jI v1), (2, jI v2), (3, jI v3), (4, jI (jW (352 + jW (4 * m2 75 7))))]) (st' := [jI v2, jI (jW (jW (352 + jW (4 * m2 75 7)) + 1)), jR 75]) rfl (p1 := 97) rfl ?_
    obtain ⟨g10, hf⟩ := jgd hf
    refine K_iast (lenI := 2083) B rfl rfl g10 (by decide +kernel) ?_
    obtain ⟨m4, hm4, hf⟩ := jlt_s hf
    rw [hm4]
    refine B_blk B jlkX10_ok jcl_SKF [.aload_n 0, .getfield 7, .iload 4, .iconst 2, .iadd, .iload_n 3] (by decide +kernel) (ls' := [(0, jR 74), (1, jI v1), (2, jI v2), (3, jI v3), (4, jI (jW (352 + jW (4 * m2 75 7))))]) (st' := [jI v3, jI (jW (jW (352 + jW (4 * m2 75 7)) + 2)), jR 75]) rfl (p1 := 107) rfl ?_
    obtain ⟨g9, hf⟩ := jgd hf
    refine K_iast (lenI := 2083) B rfl rfl g9 (by decide +kernel) ?_
    obtain ⟨m5, hm5, hf⟩ := jlt_s hf
    rw [hm5]
    refine B_blk B jlkX10_ok jcl_SKF [.aload_n 0, .getfield 7, .iload 4, .iconst 3, .iadd, .iconst (-1)] (by decide +kernel) (ls' := [(0, jR 74), (1, jI v1), (2, jI v2), (3, jI v3), (4, jI (jW (352 + jW (4 * m2 75 7))))]) (st' := [jI (-1), jI (jW (jW (352 + jW (4 * m2 75 7)) + 3)), jR 75]) rfl (p1 := 117) rfl ?_
    obtain ⟨g8, hf⟩ := jgd hf
    refine K_iast (lenI := 2083) B rfl rfl g8 (by decide +kernel) ?_
    obtain ⟨m6, hm6, hf⟩ := jlt_s hf
    rw [hm6]
    refine B_blk B jlkX10_ok jcl_SKF [.aload_n 0, .getfield 7, .bipush 7, .dup2] (by decide +kernel) (ls' := [(0, jR 74), (1, jI v1), (2, jI v2), (3, jI v3), (4, jI (jW (352 + jW (4 * m2 75 7))))]) (st' := [jI 7, jR 75, jI 7, jR 75]) rfl (p1 := 125) rfl ?_
    refine K_iald (lenI := 2083) B rfl rfl (by decide) (by decide +kernel) ?_
    refine B_blk B jlkX10_ok jcl_SKF [.iconst 1, .iadd] (by decide +kernel) (ls' := [(0, jR 74), (1, jI v1), (2, jI v2), (3, jI v3), (4, jI (jW (352 + jW (4 * m2 75 7))))]) (st' := [jI (jW (m6 75 7 + 1)), jI 7, jR 75]) rfl (p1 := 128) rfl ?_
    refine K_iast (lenI := 2083) B rfl rfl (by decide) (by decide +kernel) ?_
    obtain ⟨m7, hm7, hf⟩ := jlt_s hf
    rw [hm7]
    refine B_blk B jlkX10_ok jcl_SKF [.aload_n 0, .getfield 7, .bipush 7] (by decide +kernel) (ls' := [(0, jR 74), (1, jI v1), (2, jI v2), (3, jI v3), (4, jI (jW (352 + jW (4 * m2 75 7))))]) (st' := [jI 7, jR 75]) rfl (p1 := 135) rfl ?_
    refine K_iald (lenI := 2083) B rfl rfl (by decide) (by decide +kernel) ?_
    refine B_blk B jlkX10_ok jcl_SKF [.iconst 1, .isub] (by decide +kernel) (ls' := [(0, jR 74), (1, jI v1), (2, jI v2), (3, jI v3), (4, jI (jW (352 + jW (4 * m2 75 7))))]) (st' := [jI (jW (m7 75 7 - 1))]) rfl (p1 := 138) rfl ?_
    cases hf
    exact B_retI B hq rfl (Nat.le_of_ble_eq_true rfl) (Nat.le_of_ble_eq_true rfl) (by decide +kernel)
  · refine B_blk B jlkX10_ok jcl_SKF [.iconst 0] (by decide +kernel) (ls' := [(0, jR 74), (1, jI v1), (2, jI v2), (3, jI v3)]) (st' := [jI 0]) rfl (p1 := 64) rfl ?_
    cases hf
    exact B_retI B hq rfl (Nat.le_of_ble_eq_true rfl) (Nat.le_of_ble_eq_true rfl) (by decide +kernel)
theorem t_X10_batch_J32 {X : jX} (B : jB X cX10_batch RX10 5 SKF.length rm_X10_batch (some .int)) (v1 : Int) (v2 : Int) (v3 : Int) (m : jMu) (r : (Int × jMu)) (hf : f_X10_batch_J32 v1 v2 v3 m = some r) (hq : jQ X (.inl (some (jI r.1))) SKF r.2 rm_X10_batch.cells rm_X10_batch.slots) : J X SKF m 0 0 32 [(0, jR 74), (1, jI v1), (2, jI v2), (3, jI v3)] [jR 74] := by
  unfold f_X10_batch_J32 at hf
  refine B_blk B jlkX10_ok jcl_SKF [.iconst 1, .goto 20] (by decide +kernel) (ls' := [(0, jR 74), (1, jI v1), (2, jI v2), (3, jI v3)]) (st' := [jI 1, jR 74]) rfl (p1 := 53) rfl ?_
  exact t_X10_batch_J53 B v1 v2 v3 1 m _ hf hq
theorem t_X10_batch {l : Launch} {G : jG} (hl : l.stackTraces = false) {a0 : Int} {a1 : Int} {a2 : Int} {m : jMu} {r : (Int × jMu)} (hf : f_X10_batch a0 a1 a2 m = some r) : jCt l G yX10_batch (.code yX10_batch cX10_batch 5 (some .int) :: jWG) rm_X10_batch [jR 74, jI a0, jI a1, jI a2] SKF m (.inl (some (jI r.1))) SKF r.2 := by
  unfold f_X10_batch at hf
  refine J_start (ls0 := [(0, jR 74), (1, jI a0), (2, jI a1), (3, jI a2)]) (by decide +kernel) hl (Nat.le_of_ble_eq_true rfl) rfl fun X C hN hn hR hr hnm hno hq => ?_
  have B : jB X cX10_batch RX10 5 SKF.length rm_X10_batch (some .int) := ⟨C, hN, Nat.le_of_eq hn, hR, hr⟩
  refine B_blk B jlkX10_ok jcl_SKF [.aload_n 0, .iload_n 1, .iconst 0, .bipush 99] (by decide +kernel) (ls' := [(0, jR 74), (1, jI a0), (2, jI a1), (3, jI a2)]) (st' := [jI 99, jI 0, jI a0, jR 74]) rfl (p1 := 5) rfl ?_
  obtain ⟨r1, h1, hf⟩ := jbd hf
  refine B_callS B (Nat.le_refl _) (μ' := m) (k' := 0) (n' := 0) ca_X10_isIn sa_X10_isIn lk_X10_54 (t_X10_isIn B.tr jcl_SKF h1) (Nat.le_refl _) rfl (rest := [jR 74]) rfl rfl (Nat.le_of_ble_eq_true rfl) (by decide +kernel) rfl rfl (st' := [jI r1, jR 74]) rfl ?_
  refine J_if_eq B.1 (off := 24) (tgt := 32) (by decide +kernel) (by decide) hf (fun hf => ?_) (fun hf => ?_)
  · exact t_X10_batch_J32 B a0 a1 a2 m _ hf hq
  · refine B_blk B jlkX10_ok jcl_SKF [.iload_n 2, .iconst 0, .bipush 50] (by decide +kernel) (ls' := [(0, jR 74), (1, jI a0), (2, jI a1), (3, jI a2)]) (st' := [jI 50, jI 0, jI a1, jR 74]) rfl (p1 := 15) rfl ?_
    obtain ⟨r12, h12, hf⟩ := jbd hf
    refine B_callS B (Nat.le_refl _) (μ' := m) (k' := 0) (n' := 0) ca_X10_isIn sa_X10_isIn lk_X10_54 (t_X10_isIn B.tr jcl_SKF h12) (Nat.le_refl _) rfl (rest := [jR 74]) rfl rfl (Nat.le_of_ble_eq_true rfl) (by decide +kernel) rfl rfl (st' := [jI r12, jR 74]) rfl ?_
    refine J_if_eq B.1 (off := 14) (tgt := 32) (by decide +kernel) (by decide) hf (fun hf => ?_) (fun hf => ?_)
    · exact t_X10_batch_J32 B a0 a1 a2 m _ hf hq
    · refine B_blk B jlkX10_ok jcl_SKF [.iload_n 3, .iconst 0, .sipush 255] (by decide +kernel) (ls' := [(0, jR 74), (1, jI a0), (2, jI a1), (3, jI a2)]) (st' := [jI 255, jI 0, jI a2, jR 74]) rfl (p1 := 26) rfl ?_
      obtain ⟨r13, h13, hf⟩ := jbd hf
      refine B_callS B (Nat.le_refl _) (μ' := m) (k' := 0) (n' := 0) ca_X10_isIn sa_X10_isIn lk_X10_54 (t_X10_isIn B.tr jcl_SKF h13) (Nat.le_refl _) rfl (rest := [jR 74]) rfl rfl (Nat.le_of_ble_eq_true rfl) (by decide +kernel) rfl rfl (st' := [jI r13, jR 74]) rfl ?_
      refine J_if_ne B.1 (off := 7) (tgt := 36) (by decide +kernel) (by decide) hf (fun hf => ?_) (fun hf => ?_)
      · exact t_X10_batch_J32 B a0 a1 a2 m _ hf hq
      · refine B_blk B jlkX10_ok jcl_SKF [.aload_n 0, .getfield 7, .bipush 7] (by decide +kernel) (ls' := [(0, jR 74), (1, jI a0), (2, jI a1), (3, jI a2)]) (st' := [jI 7, jR 75, jR 74]) rfl (p1 := 42) rfl ?_
        refine K_iald (lenI := 2083) B rfl rfl (by decide) (by decide +kernel) ?_
        refine B_blk B jlkX10_ok jcl_SKF [.bipush 6] (by decide +kernel) (ls' := [(0, jR 74), (1, jI a0), (2, jI a1), (3, jI a2)]) (st' := [jI 6, jI (m 75 7), jR 74]) rfl (p1 := 45) rfl ?_
        refine J_icmp_ne B.1 (off := 7) (tgt := 52) (by decide +kernel) (by decide) hf (fun hf => ?_) (fun hf => ?_)
        · refine B_blk B jlkX10_ok jcl_SKF [.iconst 2, .goto 4] (by decide +kernel) (ls' := [(0, jR 74), (1, jI a0), (2, jI a1), (3, jI a2)]) (st' := [jI 2, jR 74]) rfl (p1 := 53) rfl ?_
          exact t_X10_batch_J53 B a0 a1 a2 2 m _ hf hq
        · refine B_blk B jlkX10_ok jcl_SKF [.iconst 0] (by decide +kernel) (ls' := [(0, jR 74), (1, jI a0), (2, jI a1), (3, jI a2)]) (st' := [jI 0, jR 74]) rfl (p1 := 53) rfl ?_
          exact t_X10_batch_J53 B a0 a1 a2 0 m _ hf hq
