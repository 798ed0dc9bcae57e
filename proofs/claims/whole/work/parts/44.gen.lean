/-! printed walks -/
def rm_X10_left : Room := { frames := 8, cells := 0, slots := 0, locals := 130 }
def f_X10_left (a0 : Int) (m : jMu) : Option (Int × jMu) :=
  (f_X10_isBatch a0 m).bind fun r1 => (if r1 = 0 then (jlt (jup m 74 0 1) fun m2 => (if m2 74 0 ≤ 0 then (f_X10_leftOf a0 m2).bind fun r3 => some (r3, m2) else some (0, m2))) else (jlt (jup m 74 0 0) fun m4 => (if m4 74 0 ≤ 0 then (f_X10_leftOf a0 m4).bind fun r5 => some (r5, m4) else some (0, m4))))
theorem t_X10_left {l : Launch} {G : jG} (hl : l.stackTraces = false) {a0 : Int} {m : jMu} {r : (Int × jMu)} (hf : f_X10_left a0 m = some r) : jCt l G yX10_left (.code yX10_left cX10_left 2 (some .int) :: jWG) rm_X10_left [jR 74, jI a0] SKF m (.inl (some (jI r.1))) SKF r.2 := by
  unfold f_X10_left at hf
  refine J_start (ls0 := [(0, jR 74), (1, jI a0)]) (by decide +kernel) hl (Nat.le_of_ble_eq_true rfl) rfl fun X C hN hn hR hr hnm hno hq => ?_
  have B : jB X cX10_left RX10 2 SKF.length rm_X10_left (some .int) := ⟨C, hN, Nat.le_of_eq hn, hR, hr⟩
  refine B_blk B jlkX10_ok jcl_SKF [.aload_n 0, .aload_n 0, .iload_n 1] (by decide +kernel) (ls' := [(0, jR 74), (1, jI a0)]) (st' := [jI a0, jR 74, jR 74]) rfl (p1 := 3) rfl ?_
  obtain ⟨r1, h1, hf⟩ := jbd hf
  refine B_callV B (Nat.le_refl _) (μ' := m) (k' := 0) (n' := 0) ca_X10_isBatch in_X10_isBatch se_X10_isBatch lk_X10_244 (t_X10_isBatch B.tr h1) (Nat.le_refl _) rfl rfl rfl (rest := [jR 74]) rfl rfl (Nat.le_of_ble_eq_true rfl) (by decide +kernel) rfl rfl (st' := [jI r1, jR 74]) rfl ?_
  refine J_if_ne B.1 (off := 7) (tgt := 13) (by decide +kernel) (by decide) hf (fun hf => ?_) (fun hf => ?_)
  · refine B_blk B jlkX10_ok jcl_SKF [.iconst 1, .goto 4] (by decide +kernel) (ls' := [(0, jR 74), (1, jI a0)]) (st' := [jI 1, jR 74]) rfl (p1 := 14) rfl ?_
    refine K_putI (jI' := 0) B jp_X10_51 rfl rfl rfl (by decide +kernel) ?_
    obtain ⟨m2, hm2, hf⟩ := jlt_s hf
    rw [hm2]
    refine B_blk B jlkX10_ok jcl_SKF [.aload_n 0, .getfield 51] (by decide +kernel) (ls' := [(0, jR 74), (1, jI a0)]) (st' := [jI (m2 74 0)]) rfl (p1 := 21) rfl ?_
    refine J_if_le B.1 (off := 5) (tgt := 26) (by decide +kernel) (by decide) hf (fun hf => ?_) (fun hf => ?_)
    · refine B_blk B jlkX10_ok jcl_SKF [.aload_n 0, .iload_n 1] (by decide +kernel) (ls' := [(0, jR 74), (1, jI a0)]) (st' := [jI a0, jR 74]) rfl (p1 := 28) rfl ?_
      obtain ⟨r3, h3, hf⟩ := jbd hf
      refine B_callV B (Nat.le_refl _) (μ' := m2) (k' := 0) (n' := 0) ca_X10_leftOf in_X10_leftOf se_X10_leftOf lk_X10_247 (t_X10_leftOf B.tr h3) (Nat.le_refl _) rfl rfl rfl (rest := []) rfl rfl (Nat.le_of_ble_eq_true rfl) (by decide +kernel) rfl rfl (st' := [jI r3]) rfl ?_
      cases hf
      exact B_retI B hq rfl (Nat.le_of_ble_eq_true rfl) (Nat.le_of_ble_eq_true rfl) (by decide +kernel)
    · refine B_blk B jlkX10_ok jcl_SKF [.iconst 0] (by decide +kernel) (ls' := [(0, jR 74), (1, jI a0)]) (st' := [jI 0]) rfl (p1 := 25) rfl ?_
      cases hf
      exact B_retI B hq rfl (Nat.le_of_ble_eq_true rfl) (Nat.le_of_ble_eq_true rfl) (by decide +kernel)
  · refine B_blk B jlkX10_ok jcl_SKF [.iconst 0] (by decide +kernel) (ls' := [(0, jR 74), (1, jI a0)]) (st' := [jI 0, jR 74]) rfl (p1 := 14) rfl ?_
    refine K_putI (jI' := 0) B jp_X10_51 rfl rfl rfl (by decide +kernel) ?_
    obtain ⟨m4, hm4, hf⟩ := jlt_s hf
    rw [hm4]
    refine B_blk B jlkX10_ok jcl_SKF [.aload_n 0, .getfield 51] (by decide +kernel) (ls' := [(0, jR 74), (1, jI a0)]) (st' := [jI (m4 74 0)]) rfl (p1 := 21) rfl ?_
    refine J_if_le B.1 (off := 5) (tgt := 26) (by decide +kernel) (by decide) hf (fun hf => ?_) (fun hf => ?_)
    · refine B_blk B jlkX10_ok jcl_SKF [.aload_n 0, .iload_n 1] (by decide +kernel) (ls' := [(0, jR 74), (1, jI a0)]) (st' := [jI a0, jR 74]) rfl (p1 := 28) rfl ?_
      obtain ⟨r5, h5, hf⟩ := jbd hf
      refine B_callV B (Nat.le_refl _) (μ' := m4) (k' := 0) (n' := 0) ca_X10_leftOf in_X10_leftOf se_X10_leftOf lk_X10_247 (t_X10_leftOf B.tr h5) (Nat.le_refl _) rfl rfl rfl (rest := []) rfl rfl (Nat.le_of_ble_eq_true rfl) (by decide +kernel) rfl rfl (st' := [jI r5]) rfl ?_
      cases hf
      exact B_retI B hq rfl (Nat.le_of_ble_eq_true rfl) (Nat.le_of_ble_eq_true rfl) (by decide +kernel)
    · refine B_blk B jlkX10_ok jcl_SKF [.iconst 0] (by decide +kernel) (ls' := [(0, jR 74), (1, jI a0)]) (st' := [jI 0]) rfl (p1 := 25) rfl ?_
      cases hf
      exact B_retI B hq rfl (Nat.le_of_ble_eq_true rfl) (Nat.le_of_ble_eq_true rfl) (by decide +kernel)

def rm_X10_caught : Room := { frames := 6, cells := 0, slots := 0, locals := 108 }
def f_X10_caught_L54 : Nat → Int → Int → Int → Int → Int → jMu → Option (Int × jMu)
  | 0, _, _, _, _, _, _ => none
  | q + 1, v1, v2, v3, v4, v5, m => (if m 75 8 ≤ v5 then some (v4, m) else (f_X10_isKnown v5 v3 m).bind fun r3 => (if r3 = 0 then f_X10_caught_L54 q v1 v2 v3 (jW (v4 + 0)) (jW (v5 + 1)) m else (f_X10_ofJob v5 3 m).bind fun r4 => (f_X10_isIn (jDv r4 12) v1 v2).bind fun r5 => (if r5 = 0 then f_X10_caught_L54 q v1 v2 v3 (jW (v4 + 0)) (jW (v5 + 1)) m else (f_X10_ofJob v5 0 m).bind fun r6 => (f_X10_tinsFor r6 m).bind fun r7 => (f_X10_ofJob v5 2 m).bind fun r8 => (if 0 ≤ jW (jW (352 + jW (4 * r8)) + 1) ∧ jW (jW (352 + jW (4 * r8)) + 1) < 2083 then (jlt (jW (v4 + jW (r7 * m 75 (jW (jW (352 + jW (4 * r8)) + 1))))) fun x9 => f_X10_caught_L54 q v1 v2 v3 x9 (jW (v5 + 1)) m) else none))))
def f_X10_caught (a0 : Int) (a1 : Int) (a2 : Int) (m : jMu) : Option (Int × jMu) :=
  (f_X10_isDay a0).bind fun r1 => (if r1 = 0 then (jlt (jup m 74 0 1) fun m2 => (if m2 74 0 ≤ 0 then f_X10_caught_L54 jFU a0 a1 a2 0 0 m2 else some (0, m2))) else (f_X10_isDay a1).bind fun r11 => (if r11 = 0 then (jlt (jup m 74 0 1) fun m12 => (if m12 74 0 ≤ 0 then f_X10_caught_L54 jFU a0 a1 a2 0 0 m12 else some (0, m12))) else (f_X10_isDay a2).bind fun r13 => (if r13 = 0 then (jlt (jup m 74 0 1) fun m14 => (if m14 74 0 ≤ 0 then f_X10_caught_L54 jFU a0 a1 a2 0 0 m14 else some (0, m14))) else (if a0 ≤ a1 then (jlt (jup m 74 0 0) fun m15 => (if m15 74 0 ≤ 0 then f_X10_caught_L54 jFU a0 a1 a2 0 0 m15 else some (0, m15))) else (jlt (jup m 74 0 2) fun m16 => (if m16 74 0 ≤ 0 then f_X10_caught_L54 jFU a0 a1 a2 0 0 m16 else some (0, m16)))))))
theorem t_X10_caught_L54 {X : jX} (B : jB X cX10_caught RX10 6 SKF.length rm_X10_caught (some .int)) : ∀ (q : Nat) (v1 : Int) (v2 : Int) (v3 : Int) (v4 : Int) (v5 : Int) (m : jMu) (r : (Int × jMu)), f_X10_caught_L54 q v1 v2 v3 v4 v5 m = some r → jQ X (.inl (some (jI r.1))) SKF r.2 rm_X10_caught.cells rm_X10_caught.slots → J X SKF m 0 0 54 [(0, jR 74), (1, jI v1), (2, jI v2), (3, jI v3), (4, jI v4), (5, jI v5)] [] := by
  intro q
  induction q with
  | zero =>
    intro v1 v2 v3 v4 v5 m r hf
    rw [f_X10_caught_L54] at hf
    cases hf
  | succ q ih =>
    intro v1 v2 v3 v4 v5 m r hf hq
    rw [f_X10_caught_L54] at hf
    refine B_blk B jlkX10_ok jcl_SKF [.iload 5, .aload_n 0, .getfield 7, .bipush 8] (by decide +kernel) (ls' := [(0, jR 74), (1, jI v1), (2, jI v2), (3, jI v3), (4, jI v4), (5, jI v5)]) (st' := [jI 8, jR 75, jI v5]) rfl (p1 := 62) rfl ?_
    refine K_iald (lenI := 2083) B rfl rfl (by decide) (by decide +kernel) ?_
    refine J_icmp_ge B.1 (off := 78) (tgt := 141) (by decide +kernel) (by decide) hf (fun hf => ?_) (fun hf => ?_)
    · refine B_blk B jlkX10_ok jcl_SKF [.iload 4] (by decide +kernel) (ls' := [(0, jR 74), (1, jI v1), (2, jI v2), (3, jI v3), (4, jI v4), (5, jI v5)]) (st' := [jI v4]) rfl (p1 := 143) rfl ?_
      cases hf
      exact B_retI B hq rfl (Nat.le_of_ble_eq_true rfl) (Nat.le_of_ble_eq_true rfl) (by decide +kernel)
    · refine B_blk B jlkX10_ok jcl_SKF [.iload 4, .aload_n 0, .iload 5, .iload_n 3] (by decide +kernel) (ls' := [(0, jR 74), (1, jI v1), (2, jI v2), (3, jI v3), (4, jI v4), (5, jI v5)]) (st' := [jI v3, jI v5, jR 74, jI v4]) rfl (p1 := 72) rfl ?_
      obtain ⟨r3, h3, hf⟩ := jbd hf
      refine B_callV B (Nat.le_refl _) (μ' := m) (k' := 0) (n' := 0) ca_X10_isKnown in_X10_isKnown se_X10_isKnown lk_X10_253 (t_X10_isKnown B.tr h3) (Nat.le_refl _) rfl rfl rfl (rest := [jI v4]) rfl rfl (Nat.le_of_ble_eq_true rfl) (by decide +kernel) rfl rfl (st' := [jI r3, jI v4]) rfl ?_
      refine J_if_eq B.1 (off := 56) (tgt := 131) (by decide +kernel) (by decide) hf (fun hf => ?_) (fun hf => ?_)
      · refine B_blk B jlkX10_ok jcl_SKF [.iconst 0, .iadd, .istore 4, .iinc 5 1, .goto (-84)] (by decide +kernel) (ls' := [(0, jR 74), (1, jI v1), (2, jI v2), (3, jI v3), (4, jI (jW (v4 + 0))), (5, jI (jW (v5 + 1)))]) (st' := []) rfl (p1 := 54) rfl ?_
        exact ih v1 v2 v3 (jW (v4 + 0)) (jW (v5 + 1)) m _ hf hq
      · refine B_blk B jlkX10_ok jcl_SKF [.aload_n 0, .iload 5, .iconst 3] (by decide +kernel) (ls' := [(0, jR 74), (1, jI v1), (2, jI v2), (3, jI v3), (4, jI v4), (5, jI v5)]) (st' := [jI 3, jI v5, jR 74, jI v4]) rfl (p1 := 82) rfl ?_
        obtain ⟨r4, h4, hf⟩ := jbd hf
        refine B_callV B (Nat.le_refl _) (μ' := m) (k' := 0) (n' := 0) ca_X10_ofJob in_X10_ofJob se_X10_ofJob lk_X10_218 (t_X10_ofJob B.tr h4) (Nat.le_refl _) rfl rfl rfl (rest := [jI v4]) rfl rfl (Nat.le_of_ble_eq_true rfl) (by decide +kernel) rfl rfl (st' := [jI r4, jI v4]) rfl ?_
        refine B_blk B jlkX10_ok jcl_SKF [.bipush 12] (by decide +kernel) (ls' := [(0, jR 74), (1, jI v1), (2, jI v2), (3, jI v3), (4, jI v4), (5, jI v5)]) (st' := [jI 12, jI r4, jI v4]) rfl (p1 := 87) rfl ?_
        refine K_idiv B (by decide) (by decide +kernel) ?_
        refine B_blk B jlkX10_ok jcl_SKF [.iload_n 1, .iload_n 2] (by decide +kernel) (ls' := [(0, jR 74), (1, jI v1), (2, jI v2), (3, jI v3), (4, jI v4), (5, jI v5)]) (st' := [jI v2, jI v1, jI (jDv r4 12), jI v4]) rfl (p1 := 90) rfl ?_
        obtain ⟨r5, h5, hf⟩ := jbd hf
        refine B_callS B (Nat.le_refl _) (μ' := m) (k' := 0) (n' := 0) ca_X10_isIn sa_X10_isIn lk_X10_54 (t_X10_isIn B.tr jcl_SKF h5) (Nat.le_refl _) rfl (rest := [jI v4]) rfl rfl (Nat.le_of_ble_eq_true rfl) (by decide +kernel) rfl rfl (st' := [jI r5, jI v4]) rfl ?_
        refine J_if_eq B.1 (off := 38) (tgt := 131) (by decide +kernel) (by decide) hf (fun hf => ?_) (fun hf => ?_)
        · refine B_blk B jlkX10_ok jcl_SKF [.iconst 0, .iadd, .istore 4, .iinc 5 1, .goto (-84)] (by decide +kernel) (ls' := [(0, jR 74), (1, jI v1), (2, jI v2), (3, jI v3), (4, jI (jW (v4 + 0))), (5, jI (jW (v5 + 1)))]) (st' := []) rfl (p1 := 54) rfl ?_
          exact ih v1 v2 v3 (jW (v4 + 0)) (jW (v5 + 1)) m _ hf hq
        · refine B_blk B jlkX10_ok jcl_SKF [.aload_n 0, .aload_n 0, .iload 5, .iconst 0] (by decide +kernel) (ls' := [(0, jR 74), (1, jI v1), (2, jI v2), (3, jI v3), (4, jI v4), (5, jI v5)]) (st' := [jI 0, jI v5, jR 74, jR 74, jI v4]) rfl (p1 := 101) rfl ?_
          obtain ⟨r6, h6, hf⟩ := jbd hf
          refine B_callV B (Nat.le_refl _) (μ' := m) (k' := 0) (n' := 0) ca_X10_ofJob in_X10_ofJob se_X10_ofJob lk_X10_218 (t_X10_ofJob B.tr h6) (Nat.le_refl _) rfl rfl rfl (rest := [jR 74, jI v4]) rfl rfl (Nat.le_of_ble_eq_true rfl) (by decide +kernel) rfl rfl (st' := [jI r6, jR 74, jI v4]) rfl ?_
          obtain ⟨r7, h7, hf⟩ := jbd hf
          refine B_callV B (Nat.le_refl _) (μ' := m) (k' := 0) (n' := 0) ca_X10_tinsFor in_X10_tinsFor se_X10_tinsFor lk_X10_241 (t_X10_tinsFor B.tr h7) (Nat.le_refl _) rfl rfl rfl (rest := [jI v4]) rfl rfl (Nat.le_of_ble_eq_true rfl) (by decide +kernel) rfl rfl (st' := [jI r7, jI v4]) rfl ?_
          refine B_blk B jlkX10_ok jcl_SKF [.aload_n 0, .getfield 7, .sipush 352, .iconst 4, .aload_n 0, .iload 5, .iconst 2] (by decide +kernel) (ls' := [(0, jR 74), (1, jI v1), (2, jI v2), (3, jI v3), (4, jI v4), (5, jI v5)]) (st' := [jI 2, jI v5, jR 74, jI 4, jI 352, jR 75, jI r7, jI v4]) rfl (p1 := 119) rfl ?_
          obtain ⟨r8, h8, hf⟩ := jbd hf
          refine B_callV B (Nat.le_refl _) (μ' := m) (k' := 0) (n' := 0) ca_X10_ofJob in_X10_ofJob se_X10_ofJob lk_X10_218 (t_X10_ofJob B.tr h8) (Nat.le_refl _) rfl rfl rfl (rest := [jI 4, jI 352, jR 75, jI r7, jI v4]) rfl rfl (Nat.le_of_ble_eq_true rfl) (by decide +kernel) rfl rfl (st' := [jI r8, jI 4, jI 352, jR 75, jI r7, jI v4]) rfl ?_
          refine B_blk B jlkX10_ok jcl_SKF [.imul, .iadd, .iconst 1, .iadd] (by decide +kernel) (ls' := [(0, jR 74), (1, jI v1), (2, jI v2), (3, jI v3), (4, jI v4), (5, jI v5)]) (st' := [jI (jW (jW (352 + jW (4 * r8)) + 1)), jR 75, jI r7, jI v4]) rfl (p1 := 126) rfl ?_
          obtain ⟨g10, hf⟩ := jgd hf
          refine K_iald (lenI := 2083) B rfl rfl g10 (by decide +kernel) ?_
          refine B_blk B jlkX10_ok jcl_SKF [.imul, .goto 4, .iadd, .istore 4] (by decide +kernel) (ls' := [(0, jR 74), (1, jI v1), (2, jI v2), (3, jI v3), (4, jI (jW (v4 + jW (r7 * m 75 (jW (jW (352 + jW (4 * r8)) + 1)))))), (5, jI v5)]) (st' := []) rfl (p1 := 135) rfl ?_
          obtain ⟨x9, hx9, hf⟩ := jlt_s hf
          rw [hx9]
          refine B_blk B jlkX10_ok jcl_SKF [.iinc 5 1, .goto (-84)] (by decide +kernel) (ls' := [(0, jR 74), (1, jI v1), (2, jI v2), (3, jI v3), (4, jI x9), (5, jI (jW (v5 + 1)))]) (st' := []) rfl (p1 := 54) rfl ?_
          exact ih v1 v2 v3 x9 (jW (v5 + 1)) m _ hf hq
theorem t_X10_caught {l : Launch} {G : jG} (hl : l.stackTraces = false) {a0 : Int} {a1 : Int} {a2 : Int} {m : jMu} {r : (Int × jMu)} (hf : f_X10_caught a0 a1 a2 m = some r) : jCt l G yX10_caught (.code yX10_caught cX10_caught 6 (some .int) :: jWG) rm_X10_caught [jR 74, jI a0, jI a1, jI a2] SKF m (.inl (some (jI r.1))) SKF r.2 := by
  unfold f_X10_caught at hf
  refine J_start (ls0 := [(0, jR 74), (1, jI a0), (2, jI a1), (3, jI a2)]) (by decide +kernel) hl (Nat.le_of_ble_eq_true rfl) rfl fun X C hN hn hR hr hnm hno hq => ?_
  have B : jB X cX10_caught RX10 6 SKF.length rm_X10_caught (some .int) := ⟨C, hN, Nat.le_of_eq hn, hR, hr⟩
  refine B_blk B jlkX10_ok jcl_SKF [.aload_n 0, .iload_n 1] (by decide +kernel) (ls' := [(0, jR 74), (1, jI a0), (2, jI a1), (3, jI a2)]) (st' := [jI a0, jR 74]) rfl (p1 := 2) rfl ?_
  obtain ⟨r1, h1, hf⟩ := jbd hf
  refine B_callS B (Nat.le_refl _) (μ' := m) (k' := 0) (n' := 0) ca_X10_isDay sa_X10_isDay lk_X10_209 (t_X10_isDay B.tr jcl_SKF h1) (Nat.le_refl _) rfl (rest := [jR 74]) rfl rfl (Nat.le_of_ble_eq_true rfl) (by decide +kernel) rfl rfl (st' := [jI r1, jR 74]) rfl ?_
  refine J_if_eq B.1 (off := 17) (tgt := 22) (by decide +kernel) (by decide) hf (fun hf => ?_) (fun hf => ?_)
  · refine B_blk B jlkX10_ok jcl_SKF [.iconst 1, .goto 13] (by decide +kernel) (ls' := [(0, jR 74), (1, jI a0), (2, jI a1), (3, jI a2)]) (st' := [jI 1, jR 74]) rfl (p1 := 36) rfl ?_
    refine K_putI (jI' := 0) B jp_X10_51 rfl rfl rfl (by decide +kernel) ?_
    obtain ⟨m2, hm2, hf⟩ := jlt_s hf
    rw [hm2]
    refine B_blk B jlkX10_ok jcl_SKF [.aload_n 0, .getfield 51] (by decide +kernel) (ls' := [(0, jR 74), (1, jI a0), (2, jI a1), (3, jI a2)]) (st' := [jI (m2 74 0)]) rfl (p1 := 43) rfl ?_
    refine J_if_le B.1 (off := 5) (tgt := 48) (by decide +kernel) (by decide) hf (fun hf => ?_) (fun hf => ?_)
    · refine B_blk B jlkX10_ok jcl_SKF [.iconst 0, .istore 4, .iconst 0, .istore 5] (by decide +kernel) (ls' := [(0, jR 74), (1, jI a0), (2, jI a1), (3, jI a2), (4, jI 0), (5, jI 0)]) (st' := []) rfl (p1 := 54) rfl ?_
      exact t_X10_caught_L54 B jFU a0 a1 a2 0 0 m2 _ hf hq
    · refine B_blk B jlkX10_ok jcl_SKF [.iconst 0] (by decide +kernel) (ls' := [(0, jR 74), (1, jI a0), (2, jI a1), (3, jI a2)]) (st' := [jI 0]) rfl (p1 := 47) rfl ?_
      cases hf
      exact B_retI B hq rfl (Nat.le_of_ble_eq_true rfl) (Nat.le_of_ble_eq_true rfl) (by decide +kernel)
  · refine B_blk B jlkX10_ok jcl_SKF [.iload_n 2] (by decide +kernel) (ls' := [(0, jR 74), (1, jI a0), (2, jI a1), (3, jI a2)]) (st' := [jI a1, jR 74]) rfl (p1 := 9) rfl ?_
    obtain ⟨r11, h11, hf⟩ := jbd hf
    refine B_callS B (Nat.le_refl _) (μ' := m) (k' := 0) (n' := 0) ca_X10_isDay sa_X10_isDay lk_X10_209 (t_X10_isDay B.tr jcl_SKF h11) (Nat.le_refl _) rfl (rest := [jR 74]) rfl rfl (Nat.le_of_ble_eq_true rfl) (by decide +kernel) rfl rfl (st' := [jI r11, jR 74]) rfl ?_
    refine J_if_eq B.1 (off := 10) (tgt := 22) (by decide +kernel) (by decide) hf (fun hf => ?_) (fun hf => ?_)
    · refine B_blk B jlkX10_ok jcl_SKF [.iconst 1, .goto 13] (by decide +kernel) (ls' := [(0, jR 74), (1, jI a0), (2, jI a1), (3, jI a2)]) (st' := [jI 1, jR 74]) rfl (p1 := 36) rfl ?_
      refine K_putI (jI' := 0) B jp_X10_51 rfl rfl rfl (by decide +kernel) ?_
      obtain ⟨m12, hm12, hf⟩ := jlt_s hf
      rw [hm12]
      refine B_blk B jlkX10_ok jcl_SKF [.aload_n 0, .getfield 51] (by decide +kernel) (ls' := [(0, jR 74), (1, jI a0), (2, jI a1), (3, jI a2)]) (st' := [jI (m12 74 0)]) rfl (p1 := 43) rfl ?_
      refine J_if_le B.1 (off := 5) (tgt := 48) (by decide +kernel) (by decide) hf (fun hf => ?_) (fun hf => ?_)
      · refine B_blk B jlkX10_ok jcl_SKF [.iconst 0, .istore 4, .iconst 0, .istore 5] (by decide +kernel) (ls' := [(0, jR 74), (1, jI a0), (2, jI a1), (3, jI a2), (4, jI 0), (5, jI 0)]) (st' := []) rfl (p1 := 54) rfl ?_
        exact t_X10_caught_L54 B jFU a0 a1 a2 0 0 m12 _ hf hq
      · refine B_blk B jlkX10_ok jcl_SKF [.iconst 0] (by decide +kernel) (ls' := [(0, jR 74), (1, jI a0), (2, jI a1), (3, jI a2)]) (st' := [jI 0]) rfl (p1 := 47) rfl ?_
        cases hf
        exact B_retI B hq rfl (Nat.le_of_ble_eq_true rfl) (Nat.le_of_ble_eq_true rfl) (by decide +kernel)
    · refine B_blk B jlkX10_ok jcl_SKF [.iload_n 3] (by decide +kernel) (ls' := [(0, jR 74), (1, jI a0), (2, jI a1), (3, jI a2)]) (st' := [jI a2, jR 74]) rfl (p1 := 16) rfl ?_
      obtain ⟨r13, h13, hf⟩ := jbd hf
      refine B_callS B (Nat.le_refl _) (μ' := m) (k' := 0) (n' := 0) ca_X10_isDay sa_X10_isDay lk_X10_209 (t_X10_isDay B.tr jcl_SKF h13) (Nat.le_refl _) rfl (rest := [jR 74]) rfl rfl (Nat.le_of_ble_eq_true rfl) (by decide +kernel) rfl rfl (st' := [jI r13, jR 74]) rfl ?_
      refine J_if_ne B.1 (off := 7) (tgt := 26) (by decide +kernel) (by decide) hf (fun hf => ?_) (fun hf => ?_)
      · refine B_blk B jlkX10_ok jcl_SKF [.iconst 1, .goto 13] (by decide +kernel) (ls' := [(0, jR 74), (1, jI a0), (2, jI a1), (3, jI a2)]) (st' := [jI 1, jR 74]) rfl (p1 := 36) rfl ?_
        refine K_putI (jI' := 0) B jp_X10_51 rfl rfl rfl (by decide +kernel) ?_
        obtain ⟨m14, hm14, hf⟩ := jlt_s hf
        rw [hm14]
        refine B_blk B jlkX10_ok jcl_SKF [.aload_n 0, .getfield 51] (by decide +kernel) (ls' := [(0, jR 74), (1, jI a0), (2, jI a1), (3, jI a2)]) (st' := [jI (m14 74 0)]) rfl (p1 := 43) rfl ?_
        refine J_if_le B.1 (off := 5) (tgt := 48) (by decide +kernel) (by decide) hf (fun hf => ?_) (fun hf => ?_)
        · refine B_blk B jlkX10_ok jcl_SKF [.iconst 0, .istore 4, .iconst 0, .istore 5] (by decide +kernel) (ls' := [(0, jR 74), (1, jI a0), (2, jI a1), (3, jI a2), (4, jI 0), (5, jI 0)]) (st' := []) rfl (p1 := 54) rfl ?_
          exact t_X10_caught_L54 B jFU a0 a1 a2 0 0 m14 _ hf hq
        · refine B_blk B jlkX10_ok jcl_SKF [.iconst 0] (by decide +kernel) (ls' := [(0, jR 74), (1, jI a0), (2, jI a1), (3, jI a2)]) (st' := [jI 0]) rfl (p1 := 47) rfl ?_
          cases hf
          exact B_retI B hq rfl (Nat.le_of_ble_eq_true rfl) (Nat.le_of_ble_eq_true rfl) (by decide +kernel)
      · refine B_blk B jlkX10_ok jcl_SKF [.iload_n 2, .iload_n 1] (by decide +kernel) (ls' := [(0, jR 74), (1, jI a0), (2, jI a1), (3, jI a2)]) (st' := [jI a0, jI a1, jR 74]) rfl (p1 := 28) rfl ?_
        refine J_icmp_ge B.1 (off := 7) (tgt := 35) (by decide +kernel) (by decide) hf (fun hf => ?_) (fun hf => ?_)
        · refine B_blk B jlkX10_ok jcl_SKF [.iconst 0] (by decide +kernel) (ls' := [(0, jR 74), (1, jI a0), (2, jI a1), (3, jI a2)]) (st' := [jI 0, jR 74]) rfl (p1 := 36) rfl ?_
          refine K_putI (jI' := 0) B jp_X10_51 rfl rfl rfl (by decide +kernel) ?_
          obtain ⟨m15, hm15, hf⟩ := jlt_s hf
          rw [hm15]
          refine B_blk B jlkX10_ok jcl_SKF [.aload_n 0, .getfield 51] (by decide +kernel) (ls' := [(0, jR 74), (1, jI a0), (2, jI a1), (3, jI a2)]) (st' := [jI (m15 74 0)]) rfl (p1 := 43) rfl ?_
          refine J_if_le B.1 (off := 5) (tgt := 48) (by decide +kernel) (by decide) hf (fun hf => ?_) (fun hf => ?_)
          · refine B_blk B jlkX10_ok jcl_SKF [.iconst 0, .istore 4, .iconst 0, .istore 5] (by decide +kernel) (ls' := [(0, jR 74), (1, jI a0), (2, jI a1), (3, jI a2), (4, jI 0), (5, jI 0)]) (st' := []) rfl (p1 := 54) rfl ?_
            exact t_X10_caught_L54 B jFU a0 a1 a2 0 0 m15 _ hf hq
          · refine B_blk B jlkX10_ok jcl_SKF [.iconst 0] (by decide +kernel) (ls' := [(0, jR 74), (1, jI a0), (2, jI a1), (3, jI a2)]) (st' := [jI 0]) rfl (p1 := 47) rfl ?_
            cases hf
            exact B_retI B hq rfl (Nat.le_of_ble_eq_true rfl) (Nat.le_of_ble_eq_true rfl) (by decide +kernel)
        · refine B_blk B jlkX10_ok jcl_SKF [.iconst 2, .goto 4] (by decide +kernel) (ls' := [(0, jR 74), (1, jI a0), (2, jI a1), (3, jI a2)]) (st' := [jI 2, jR 74]) rfl (p1 := 36) rfl ?_
          refine K_putI (jI' := 0) B jp_X10_51 rfl rfl rfl (by decide +kernel) ?_
          obtain ⟨m16, hm16, hf⟩ := jlt_s hf
          rw [hm16]
          refine B_blk B jlkX10_ok jcl_SKF [.aload_n 0, .getfield 51] (by decide +kernel) (ls' := [(0, jR 74), (1, jI a0), (2, jI a1), (3, jI a2)]) (st' := [jI (m16 74 0)]) rfl (p1 := 43) rfl ?_
          refine J_if_le B.1 (off := 5) (tgt := 48) (by decide +kernel) (by decide) hf (fun hf => ?_) (fun hf => ?_)
          · refine B_blk B jlkX10_ok jcl_SKF [.iconst 0, .istore 4, .iconst 0, .istore 5] (by decide +kernel) (ls' := [(0, jR 74), (1, jI a0), (2, jI a1), (3, jI a2), (4, jI 0), (5, jI 0)]) (st' := []) rfl (p1 := 54) rfl ?_
            exact t_X10_caught_L54 B jFU a0 a1 a2 0 0 m16 _ hf hq
          · refine B_blk B jlkX10_ok jcl_SKF [.iconst 0] (by decide +kernel) (ls' := [(0, jR 74), (1, jI a0), (2, jI a1), (3, jI a2)]) (st' := [jI 0]) rfl (p1 := 47) rfl ?_
            cases hf
            exact B_retI B hq rfl (Nat.le_of_ble_eq_true rfl) (Nat.le_of_ble_eq_true rfl) (by decide +kernel)

def rm_X10_bares : Room := { frames := 69, cells := 0, slots := 0, locals := 1016 }
def f_X10_bares_L141 : Nat → Int → Int → Int → Int → Int → jMu → Option (Int × Int × Int × jMu)
  | 0, _, _, _, _, _, _ => none
  | q + 1, v1, v2, v3, v5, v7, m => (if v5 < v7 then some (v1, v2, v3, m) else (if 200 ≤ v7 then some (v1, v2, v3, m) else (if 0 ≤ v7 ∧ v7 < 200 then (jlt (jup m 81 v7 0) fun m9 => f_X10_bares_L141 q v1 v2 v3 v5 (jW (v7 + 1)) m9) else none)))
def f_X10_bares_L24 : Nat → Int → Int → Int → jMu → Option jMu
  | 0, _, _, _, _ => none
  | q + 1, v1, v2, v3, m => (if m 75 8 ≤ v3 then some m else (f_X10_ofJob v3 0 m).bind fun r1 => (if r1 = v1 then (f_X10_isKnown v3 v2 m).bind fun r2 => (if r2 = 0 then f_X10_bares_L24 q v1 v2 (jW (v3 + 1)) m else (f_X10_ofJob v3 3 m).bind fun r3 => (f_X10_stands v1 r3 m).bind fun r4 => (f_X10_ofJob v3 7 r4).bind fun r5 => (f_X10_asks r5 r4).bind fun r6 => (f_X10_ofJob v3 4 r6).bind fun r7 => (f_X10_ofJob v3 6 r6).bind fun r8 => (if r8 = (-1) then (f_X10_bares_L141 jFU v1 v2 v3 (jW (jDv (jW (r7 - 1)) 12 + r6 74 17)) (jDv (jW (r7 - 1)) 12) r6).bind fun r11 => f_X10_bares_L24 q r11.1 r11.2.1 (jW (r11.2.2.1 + 1)) r11.2.2.2 else (if v2 < r8 then (f_X10_bares_L141 jFU v1 v2 v3 (jW (jDv (jW (r7 - 1)) 12 + r6 74 17)) (jDv (jW (r7 - 1)) 12) r6).bind fun r12 => f_X10_bares_L24 q r12.1 r12.2.1 (jW (r12.2.2.1 + 1)) r12.2.2.2 else (if jW (jDv (jW (r7 - 1)) 12 + r6 74 17) ≤ jW (r8 - 1) then (f_X10_bares_L141 jFU v1 v2 v3 (jW (jDv (jW (r7 - 1)) 12 + r6 74 17)) (jDv (jW (r7 - 1)) 12) r6).bind fun r13 => f_X10_bares_L24 q r13.1 r13.2.1 (jW (r13.2.2.1 + 1)) r13.2.2.2 else (f_X10_bares_L141 jFU v1 v2 v3 (jW (r8 - 1)) (jDv (jW (r7 - 1)) 12) r6).bind fun r14 => f_X10_bares_L24 q r14.1 r14.2.1 (jW (r14.2.2.1 + 1)) r14.2.2.2)))) else f_X10_bares_L24 q v1 v2 (jW (v3 + 1)) m))
def f_X10_bares_L2 : Nat → Int → Int → Int → jMu → Option jMu
  | 0, _, _, _, _ => none
  | q + 1, v1, v2, v3, m => (if 200 ≤ v3 then f_X10_bares_L24 jFU v1 v2 0 m else (if 0 ≤ v3 ∧ v3 < 200 then (jlt (jup m 81 v3 1) fun m15 => f_X10_bares_L2 q v1 v2 (jW (v3 + 1)) m15) else none))
def f_X10_bares (a0 : Int) (a1 : Int) (m : jMu) : Option jMu :=
  f_X10_bares_L2 jFU a0 a1 0 m
theorem t_X10_bares_L141 {X : jX} (B : jB X cX10_bares RX10 8 SKF.length rm_X10_bares none) : ∀ (q : Nat) (v1 : Int) (v2 : Int) (v3 : Int) (v5 : Int) (v7 : Int) (m : jMu) (o : (Int × Int × Int × jMu)), f_X10_bares_L141 q v1 v2 v3 v5 v7 m = some o → J X SKF o.2.2.2 0 0 170 [(0, jR 74), (1, jI o.1), (2, jI o.2.1), (3, jI o.2.2.1)] [] → J X SKF m 0 0 141 [(0, jR 74), (1, jI v1), (2, jI v2), (3, jI v3), (5, jI v5), (7, jI v7)] [] := by
  intro q
  induction q with
  | zero =>
    intro v1 v2 v3 v5 v7 m o hf
    rw [f_X10_bares_L141] at hf
    cases hf
  | succ q ih =>
    intro v1 v2 v3 v5 v7 m o hf hx
    rw [f_X10_bares_L141] at hf
    refine B_blk B jlkX10_ok jcl_SKF [.iload 7, .iload 5] (by decide +kernel) (ls' := [(0, jR 74), (1, jI v1), (2, jI v2), (3, jI v3), (5, jI v5), (7, jI v7)]) (st' := [jI v5, jI v7]) rfl (p1 := 145) rfl ?_
    refine J_icmp_gt B.1 (off := 25) (tgt := 170) (by decide +kernel) (by decide) hf (fun hf => ?_) (fun hf => ?_)
    · refine J_pick [0, 1, 2, 3] (ls' := [(0, jR 74), (1, jI v1), (2, jI v2), (3, jI v3)]) rfl ?_
      cases hf
      exact hx
    · refine B_blk B jlkX10_ok jcl_SKF [.iload 7, .sipush 200] (by decide +kernel) (ls' := [(0, jR 74), (1, jI v1), (2, jI v2), (3, jI v3), (5, jI v5), (7, jI v7)]) (st' := [jI 200, jI v7]) rfl (p1 := 153) rfl ?_
      refine J_icmp_ge B.1 (off := 17) (tgt := 170) (by decide +kernel) (by decide) hf (fun hf => ?_) (fun hf => ?_)
      · refine J_pick [0, 1, 2, 3] (ls' := [(0, jR 74), (1, jI v1), (2, jI v2), (3, jI v3)]) rfl ?_
        cases hf
        exact hx
      · refine B_blk B jlkX10_ok jcl_SKF [.aload_n 0, .getfield 33, .iload 7, .iconst 0] (by decide +kernel) (ls' := [(0, jR 74), (1, jI v1), (2, jI v2), (3, jI v3), (5, jI v5), (7, jI v7)]) (st' := [jI 0, jI v7, jR 81]) rfl (p1 := 163) rfl ?_
        obtain ⟨g10, hf⟩ := jgd hf
        refine K_zast (lenI := 200) B rfl rfl g10 (Or.inl rfl) (by decide +kernel) ?_
        obtain ⟨m9, hm9, hf⟩ := jlt_s hf
        rw [hm9]
        refine B_blk B jlkX10_ok jcl_SKF [.iinc 7 1, .goto (-26)] (by decide +kernel) (ls' := [(0, jR 74), (1, jI v1), (2, jI v2), (3, jI v3), (5, jI v5), (7, jI (jW (v7 + 1)))]) (st' := []) rfl (p1 := 141) rfl ?_
        exact ih v1 v2 v3 v5 (jW (v7 + 1)) m9 _ hf hx
theorem t_X10_bares_L24 {X : jX} (B : jB X cX10_bares RX10 8 SKF.length rm_X10_bares none) : ∀ (q : Nat) (v1 : Int) (v2 : Int) (v3 : Int) (m : jMu) (r : jMu), f_X10_bares_L24 q v1 v2 v3 m = some r → jQ X (.inl none) SKF r rm_X10_bares.cells rm_X10_bares.slots → J X SKF m 0 0 24 [(0, jR 74), (1, jI v1), (2, jI v2), (3, jI v3)] [] := by
  intro q
  induction q with
  | zero =>
    intro v1 v2 v3 m r hf
    rw [f_X10_bares_L24] at hf
    cases hf
  | succ q ih =>
    intro v1 v2 v3 m r hf hq
    rw [f_X10_bares_L24] at hf
    refine B_blk B jlkX10_ok jcl_SKF [.iload_n 3, .aload_n 0, .getfield 7, .bipush 8] (by decide +kernel) (ls' := [(0, jR 74), (1, jI v1), (2, jI v2), (3, jI v3)]) (st' := [jI 8, jR 75, jI v3]) rfl (p1 := 31) rfl ?_
    refine K_iald (lenI := 2083) B rfl rfl (by decide) (by decide +kernel) ?_
    refine J_icmp_ge B.1 (off := 144) (tgt := 176) (by decide +kernel) (by decide) hf (fun hf => ?_) (fun hf => ?_)
    · cases hf
      exact B_retV B hq rfl (Nat.le_of_ble_eq_true rfl) (Nat.le_of_ble_eq_true rfl) (by decide +kernel)
    · refine B_blk B jlkX10_ok jcl_SKF [.aload_n 0, .iload_n 3, .iconst 0] (by decide +kernel) (ls' := [(0, jR 74), (1, jI v1), (2, jI v2), (3, jI v3)]) (st' := [jI 0, jI v3, jR 74]) rfl (p1 := 38) rfl ?_
      obtain ⟨r1, h1, hf⟩ := jbd hf
      refine B_callV B (Nat.le_refl _) (μ' := m) (k' := 0) (n' := 0) ca_X10_ofJob in_X10_ofJob se_X10_ofJob lk_X10_218 (t_X10_ofJob B.tr h1) (Nat.le_refl _) rfl rfl rfl (rest := []) rfl rfl (Nat.le_of_ble_eq_true rfl) (by decide +kernel) rfl rfl (st' := [jI r1]) rfl ?_
      refine B_blk B jlkX10_ok jcl_SKF [.iload_n 1] (by decide +kernel) (ls' := [(0, jR 74), (1, jI v1), (2, jI v2), (3, jI v3)]) (st' := [jI v1, jI r1]) rfl (p1 := 42) rfl ?_
      refine J_icmp_ne B.1 (off := 128) (tgt := 170) (by decide +kernel) (by decide) hf (fun hf => ?_) (fun hf => ?_)
      · refine B_blk B jlkX10_ok jcl_SKF [.aload_n 0, .iload_n 3, .iload_n 2] (by decide +kernel) (ls' := [(0, jR 74), (1, jI v1), (2, jI v2), (3, jI v3)]) (st' := [jI v2, jI v3, jR 74]) rfl (p1 := 48) rfl ?_
        obtain ⟨r2, h2, hf⟩ := jbd hf
        refine B_callV B (Nat.le_refl _) (μ' := m) (k' := 0) (n' := 0) ca_X10_isKnown in_X10_isKnown se_X10_isKnown lk_X10_253 (t_X10_isKnown B.tr h2) (Nat.le_refl _) rfl rfl rfl (rest := []) rfl rfl (Nat.le_of_ble_eq_true rfl) (by decide +kernel) rfl rfl (st' := [jI r2]) rfl ?_
        refine J_if_ne B.1 (off := 6) (tgt := 57) (by decide +kernel) (by decide) hf (fun hf => ?_) (fun hf => ?_)
        · refine B_blk B jlkX10_ok jcl_SKF [.goto 116, .iinc 3 1, .goto (-149)] (by decide +kernel) (ls' := [(0, jR 74), (1, jI v1), (2, jI v2), (3, jI (jW (v3 + 1)))]) (st' := []) rfl (p1 := 24) rfl ?_
          exact ih v1 v2 (jW (v3 + 1)) m _ hf hq
        · refine B_blk B jlkX10_ok jcl_SKF [.aload_n 0, .iload_n 1, .aload_n 0, .iload_n 3, .iconst 3] (by decide +kernel) (ls' := [(0, jR 74), (1, jI v1), (2, jI v2), (3, jI v3)]) (st' := [jI 3, jI v3, jR 74, jI v1, jR 74]) rfl (p1 := 62) rfl ?_
          obtain ⟨r3, h3, hf⟩ := jbd hf
          refine B_callV B (Nat.le_refl _) (μ' := m) (k' := 0) (n' := 0) ca_X10_ofJob in_X10_ofJob se_X10_ofJob lk_X10_218 (t_X10_ofJob B.tr h3) (Nat.le_refl _) rfl rfl rfl (rest := [jI v1, jR 74]) rfl rfl (Nat.le_of_ble_eq_true rfl) (by decide +kernel) rfl rfl (st' := [jI r3, jI v1, jR 74]) rfl ?_
          obtain ⟨r4, h4, hf⟩ := jbd hf
          refine B_callV B (Nat.le_refl _) (μ' := r4) (k' := 0) (n' := 0) ca_X10_stands in_X10_stands se_X10_stands lk_X10_189 (t_X10_stands B.tr h4) (Nat.le_refl _) rfl rfl rfl (rest := []) rfl rfl (Nat.le_of_ble_eq_true rfl) (by decide +kernel) rfl rfl (st' := []) rfl ?_
          refine B_blk B jlkX10_ok jcl_SKF [.aload_n 0, .aload_n 0, .iload_n 3, .bipush 7] (by decide +kernel) (ls' := [(0, jR 74), (1, jI v1), (2, jI v2), (3, jI v3)]) (st' := [jI 7, jI v3, jR 74, jR 74]) rfl (p1 := 73) rfl ?_
          obtain ⟨r5, h5, hf⟩ := jbd hf
          refine B_callV B (Nat.le_refl _) (μ' := r4) (k' := 0) (n' := 0) ca_X10_ofJob in_X10_ofJob se_X10_ofJob lk_X10_218 (t_X10_ofJob B.tr h5) (Nat.le_refl _) rfl rfl rfl (rest := [jR 74]) rfl rfl (Nat.le_of_ble_eq_true rfl) (by decide +kernel) rfl rfl (st' := [jI r5, jR 74]) rfl ?_
          obtain ⟨r6, h6, hf⟩ := jbd hf
          refine B_callV B (Nat.le_refl _) (μ' := r6) (k' := 0) (n' := 0) ca_X10_asks in_X10_asks se_X10_asks lk_X10_193 (t_X10_asks B.tr h6) (Nat.le_refl _) rfl rfl rfl (rest := []) rfl rfl (Nat.le_of_ble_eq_true rfl) (by decide +kernel) rfl rfl (st' := []) rfl ?_
          refine B_blk B jlkX10_ok jcl_SKF [.aload_n 0, .iload_n 3, .iconst 4] (by decide +kernel) (ls' := [(0, jR 74), (1, jI v1), (2, jI v2), (3, jI v3)]) (st' := [jI 4, jI v3, jR 74]) rfl (p1 := 82) rfl ?_
          obtain ⟨r7, h7, hf⟩ := jbd hf
          refine B_callV B (Nat.le_refl _) (μ' := r6) (k' := 0) (n' := 0) ca_X10_ofJob in_X10_ofJob se_X10_ofJob lk_X10_218 (t_X10_ofJob B.tr h7) (Nat.le_refl _) rfl rfl rfl (rest := []) rfl rfl (Nat.le_of_ble_eq_true rfl) (by decide +kernel) rfl rfl (st' := [jI r7]) rfl ?_
          refine B_blk B jlkX10_ok jcl_SKF [.iconst 1, .isub, .bipush 12] (by decide +kernel) (ls' := [(0, jR 74), (1, jI v1), (2, jI v2), (3, jI v3)]) (st' := [jI 12, jI (jW (r7 - 1))]) rfl (p1 := 89) rfl ?_
          refine K_idiv B (by decide) (by decide +kernel) ?_
          refine B_blk B jlkX10_ok jcl_SKF [.istore 4, .iload 4, .aload_n 0, .getfield 172, .iadd, .istore 5, .aload_n 0, .iload_n 3, .bipush 6] (by decide +kernel) (ls' := [(0, jR 74), (1, jI v1), (2, jI v2), (3, jI v3), (4, jI (jDv (jW (r7 - 1)) 12)), (5, jI (jW (jDv (jW (r7 - 1)) 12 + r6 74 17)))]) (st' := [jI 6, jI v3, jR 74]) rfl (p1 := 105) rfl ?_
          obtain ⟨r8, h8, hf⟩ := jbd hf
          refine B_callV B (Nat.le_refl _) (μ' := r6) (k' := 0) (n' := 0) ca_X10_ofJob in_X10_ofJob se_X10_ofJob lk_X10_218 (t_X10_ofJob B.tr h8) (Nat.le_refl _) rfl rfl rfl (rest := []) rfl rfl (Nat.le_of_ble_eq_true rfl) (by decide +kernel) rfl rfl (st' := [jI r8]) rfl ?_
          refine B_blk B jlkX10_ok jcl_SKF [.istore 6, .iload 6, .iconst (-1)] (by decide +kernel) (ls' := [(0, jR 74), (1, jI v1), (2, jI v2), (3, jI v3), (4, jI (jDv (jW (r7 - 1)) 12)), (5, jI (jW (jDv (jW (r7 - 1)) 12 + r6 74 17))), (6, jI r8)]) (st' := [jI (-1), jI r8]) rfl (p1 := 113) rfl ?_
          refine J_icmp_eq B.1 (off := 24) (tgt := 137) (by decide +kernel) (by decide) hf (fun hf => ?_) (fun hf => ?_)
          · refine B_blk B jlkX10_ok jcl_SKF [.iload 4, .istore 7] (by decide +kernel) (ls' := [(0, jR 74), (1, jI v1), (2, jI v2), (3, jI v3), (4, jI (jDv (jW (r7 - 1)) 12)), (5, jI (jW (jDv (jW (r7 - 1)) 12 + r6 74 17))), (6, jI r8), (7, jI (jDv (jW (r7 - 1)) 12))]) (st' := []) rfl (p1 := 141) rfl ?_
            refine J_pick [0, 1, 2, 3, 5, 7] (ls' := [(0, jR 74), (1, jI v1), (2, jI v2), (3, jI v3), (5, jI (jW (jDv (jW (r7 - 1)) 12 + r6 74 17))), (7, jI (jDv (jW (r7 - 1)) 12))]) rfl ?_
            obtain ⟨r11, h11, hf⟩ := jbd hf
            refine t_X10_bares_L141 B jFU v1 v2 v3 (jW (jDv (jW (r7 - 1)) 12 + r6 74 17)) (jDv (jW (r7 - 1)) 12) r6 _ h11 ?_
            refine B_blk B jlkX10_ok jcl_SKF [.iinc 3 1, .goto (-149)] (by decide +kernel) (ls' := [(0, jR 74), (1, jI r11.1), (2, jI r11.2.1), (3, jI (jW (r11.2.2.1 + 1)))]) (st' := []) rfl (p1 := 24) rfl ?_
            exact ih r11.1 r11.2.1 (jW (r11.2.2.1 + 1)) r11.2.2.2 _ hf hq
          · refine B_blk B jlkX10_ok jcl_SKF [.iload 6, .iload_n 2] (by decide +kernel) (ls' := [(0, jR 74), (1, jI v1), (2, jI v2), (3, jI v3), (4, jI (jDv (jW (r7 - 1)) 12)), (5, jI (jW (jDv (jW (r7 - 1)) 12 + r6 74 17))), (6, jI r8)]) (st' := [jI v2, jI r8]) rfl (p1 := 119) rfl ?_
            refine J_icmp_gt B.1 (off := 18) (tgt := 137) (by decide +kernel) (by decide) hf (fun hf => ?_) (fun hf => ?_)
            · refine B_blk B jlkX10_ok jcl_SKF [.iload 4, .istore 7] (by decide +kernel) (ls' := [(0, jR 74), (1, jI v1), (2, jI v2), (3, jI v3), (4, jI (jDv (jW (r7 - 1)) 12)), (5, jI (jW (jDv (jW (r7 - 1)) 12 + r6 74 17))), (6, jI r8), (7, jI (jDv (jW (r7 - 1)) 12))]) (st' := []) rfl (p1 := 141) rfl ?_
              refine J_pick [0, 1, 2, 3, 5, 7] (ls' := [(0, jR 74), (1, jI v1), (2, jI v2), (3, jI v3), (5, jI (jW (jDv (jW (r7 - 1)) 12 + r6 74 17))), (7, jI (jDv (jW (r7 - 1)) 12))]) rfl ?_
              obtain ⟨r12, h12, hf⟩ := jbd hf
              refine t_X10_bares_L141 B jFU v1 v2 v3 (jW (jDv (jW (r7 - 1)) 12 + r6 74 17)) (jDv (jW (r7 - 1)) 12) r6 _ h12 ?_
              refine B_blk B jlkX10_ok jcl_SKF [.iinc 3 1, .goto (-149)] (by decide +kernel) (ls' := [(0, jR 74), (1, jI r12.1), (2, jI r12.2.1), (3, jI (jW (r12.2.2.1 + 1)))]) (st' := []) rfl (p1 := 24) rfl ?_
              exact ih r12.1 r12.2.1 (jW (r12.2.2.1 + 1)) r12.2.2.2 _ hf hq
            · refine B_blk B jlkX10_ok jcl_SKF [.iload 6, .iconst 1, .isub, .iload 5] (by decide +kernel) (ls' := [(0, jR 74), (1, jI v1), (2, jI v2), (3, jI v3), (4, jI (jDv (jW (r7 - 1)) 12)), (5, jI (jW (jDv (jW (r7 - 1)) 12 + r6 74 17))), (6, jI r8)]) (st' := [jI (jW (jDv (jW (r7 - 1)) 12 + r6 74 17)), jI (jW (r8 - 1))]) rfl (p1 := 128) rfl ?_
              refine J_icmp_ge B.1 (off := 9) (tgt := 137) (by decide +kernel) (by decide) hf (fun hf => ?_) (fun hf => ?_)
              · refine B_blk B jlkX10_ok jcl_SKF [.iload 4, .istore 7] (by decide +kernel) (ls' := [(0, jR 74), (1, jI v1), (2, jI v2), (3, jI v3), (4, jI (jDv (jW (r7 - 1)) 12)), (5, jI (jW (jDv (jW (r7 - 1)) 12 + r6 74 17))), (6, jI r8), (7, jI (jDv (jW (r7 - 1)) 12))]) (st' := []) rfl (p1 := 141) rfl ?_
                refine J_pick [0, 1, 2, 3, 5, 7] (ls' := [(0, jR 74), (1, jI v1), (2, jI v2), (3, jI v3), (5, jI (jW (jDv (jW (r7 - 1)) 12 + r6 74 17))), (7, jI (jDv (jW (r7 - 1)) 12))]) rfl ?_
                obtain ⟨r13, h13, hf⟩ := jbd hf
                refine t_X10_bares_L141 B jFU v1 v2 v3 (jW (jDv (jW (r7 - 1)) 12 + r6 74 17)) (jDv (jW (r7 - 1)) 12) r6 _ h13 ?_
                refine B_blk B jlkX10_ok jcl_SKF [.iinc 3 1, .goto (-149)] (by decide +kernel) (ls' := [(0, jR 74), (1, jI r13.1), (2, jI r13.2.1), (3, jI (jW (r13.2.2.1 + 1)))]) (st' := []) rfl (p1 := 24) rfl ?_
                exact ih r13.1 r13.2.1 (jW (r13.2.2.1 + 1)) r13.2.2.2 _ hf hq
              · refine B_blk B jlkX10_ok jcl_SKF [.iload 6, .iconst 1, .isub, .istore 5, .iload 4, .istore 7] (by decide +kernel) (ls' := [(0, jR 74), (1, jI v1), (2, jI v2), (3, jI v3), (4, jI (jDv (jW (r7 - 1)) 12)), (5, jI (jW (r8 - 1))), (6, jI r8), (7, jI (jDv (jW (r7 - 1)) 12))]) (st' := []) rfl (p1 := 141) rfl ?_
                refine J_pick [0, 1, 2, 3, 5, 7] (ls' := [(0, jR 74), (1, jI v1), (2, jI v2), (3, jI v3), (5, jI (jW (r8 - 1))), (7, jI (jDv (jW (r7 - 1)) 12))]) rfl ?_
                obtain ⟨r14, h14, hf⟩ := jbd hf
                refine t_X10_bares_L141 B jFU v1 v2 v3 (jW (r8 - 1)) (jDv (jW (r7 - 1)) 12) r6 _ h14 ?_
                refine B_blk B jlkX10_ok jcl_SKF [.iinc 3 1, .goto (-149)] (by decide +kernel) (ls' := [(0, jR 74), (1, jI r14.1), (2, jI r14.2.1), (3, jI (jW (r14.2.2.1 + 1)))]) (st' := []) rfl (p1 := 24) rfl ?_
                exact ih r14.1 r14.2.1 (jW (r14.2.2.1 + 1)) r14.2.2.2 _ hf hq
      · refine B_blk B jlkX10_ok jcl_SKF [.iinc 3 1, .goto (-149)] (by decide +kernel) (ls' := [(0, jR 74), (1, jI v1), (2, jI v2), (3, jI (jW (v3 + 1)))]) (st' := []) rfl (p1 := 24) rfl ?_
        exact ih v1 v2 (jW (v3 + 1)) m _ hf hq
theorem t_X10_bares_L2 {X : jX} (B : jB X cX10_bares RX10 8 SKF.length rm_X10_bares none) : ∀ (q : Nat) (v1 : Int) (v2 : Int) (v3 : Int) (m : jMu) (r : jMu), f_X10_bares_L2 q v1 v2 v3 m = some r → jQ X (.inl none) SKF r rm_X10_bares.cells rm_X10_bares.slots → J X SKF m 0 0 2 [(0, jR 74), (1, jI v1), (2, jI v2), (3, jI v3)] [] := by
  intro q
  induction q with
  | zero =>
    intro v1 v2 v3 m r hf
    rw [f_X10_bares_L2] at hf
    cases hf
  | succ q ih =>
    intro v1 v2 v3 m r hf hq
    rw [f_X10_bares_L2] at hf
    refine B_blk B jlkX10_ok jcl_SKF [.iload_n 3, .sipush 200] (by decide +kernel) (ls' := [(0, jR 74), (1, jI v1), (2, jI v2), (3, jI v3)]) (st' := [jI 200, jI v3]) rfl (p1 := 6) rfl ?_
    refine J_icmp_ge B.1 (off := 16) (tgt := 22) (by decide +kernel) (by decide) hf (fun hf => ?_) (fun hf => ?_)
    · refine B_blk B jlkX10_ok jcl_SKF [.iconst 0, .istore_n 3] (by decide +kernel) (ls' := [(0, jR 74), (1, jI v1), (2, jI v2), (3, jI 0)]) (st' := []) rfl (p1 := 24) rfl ?_
      exact t_X10_bares_L24 B jFU v1 v2 0 m _ hf hq
    · refine B_blk B jlkX10_ok jcl_SKF [.aload_n 0, .getfield 33, .iload_n 3, .iconst 1] (by decide +kernel) (ls' := [(0, jR 74), (1, jI v1), (2, jI v2), (3, jI v3)]) (st' := [jI 1, jI v3, jR 81]) rfl (p1 := 15) rfl ?_
      obtain ⟨g16, hf⟩ := jgd hf
      refine K_zast (lenI := 200) B rfl rfl g16 (Or.inr rfl) (by decide +kernel) ?_
      obtain ⟨m15, hm15, hf⟩ := jlt_s hf
      rw [hm15]
      refine B_blk B jlkX10_ok jcl_SKF [.iinc 3 1, .goto (-17)] (by decide +kernel) (ls' := [(0, jR 74), (1, jI v1), (2, jI v2), (3, jI (jW (v3 + 1)))]) (st' := []) rfl (p1 := 2) rfl ?_
      exact ih v1 v2 (jW (v3 + 1)) m15 _ hf hq
theorem t_X10_bares {l : Launch} {G : jG} (hl : l.stackTraces = false) {a0 : Int} {a1 : Int} {m : jMu} {r : jMu} (hf : f_X10_bares a0 a1 m = some r) : jCt l G yX10_bares (.code yX10_bares cX10_bares 8 none :: jWG) rm_X10_bares [jR 74, jI a0, jI a1] SKF m (.inl none) SKF r := by
  unfold f_X10_bares at hf
  refine J_start (ls0 := [(0, jR 74), (1, jI a0), (2, jI a1)]) (by decide +kernel) hl (Nat.le_of_ble_eq_true rfl) rfl fun X C hN hn hR hr hnm hno hq => ?_
  have B : jB X cX10_bares RX10 8 SKF.length rm_X10_bares none := ⟨C, hN, Nat.le_of_eq hn, hR, hr⟩
  refine B_blk B jlkX10_ok jcl_SKF [.iconst 0, .istore_n 3] (by decide +kernel) (ls' := [(0, jR 74), (1, jI a0), (2, jI a1), (3, jI 0)]) (st' := []) rfl (p1 := 2) rfl ?_
  exact t_X10_bares_L2 B jFU a0 a1 0 m _ hf hq

def rm_X10_bare : Room := { frames := 71, cells := 0, slots := 0, locals := 1043 }
def f_X10_bare_L70 : Nat → Int → Int → Int → jMu → Option (Int × jMu)
  | 0, _, _, _, _ => none
  | q + 1, v3, v5, v6, m => (if v3 < v6 then some (v5, m) else (if 0 ≤ v6 ∧ v6 < 200 then (if m 81 v6 = 0 then f_X10_bare_L70 q v3 (jW (v5 + 0)) (jW (v6 + 1)) m else f_X10_bare_L70 q v3 (jW (v5 + 1)) (jW (v6 + 1)) m) else none))
def f_X10_bare_J45 (v1 : Int) (v2 : Int) (v3 : Int) (v4 : Int) (s1 : Int) (m : jMu) : Option (Int × jMu) :=
  (jlt (jup m 74 0 s1) fun m2 => (if m2 74 0 ≤ 0 then (f_X10_bares v1 v4 m2).bind fun r3 => f_X10_bare_L70 jFU v3 0 v2 r3 else some (0, m2)))
def f_X10_bare_J31 (v1 : Int) (v2 : Int) (v3 : Int) (v4 : Int) (m : jMu) : Option (Int × jMu) :=
  f_X10_bare_J45 v1 v2 v3 v4 1 m
def f_X10_bare (a0 : Int) (a1 : Int) (a2 : Int) (a3 : Int) (m : jMu) : Option (Int × jMu) :=
  (f_X10_isBay a0 m).bind fun r1 => (if r1 = 0 then f_X10_bare_J31 a0 a1 a2 a3 m else (f_X10_isDay a1).bind fun r5 => (if r5 = 0 then f_X10_bare_J31 a0 a1 a2 a3 m else (f_X10_isDay a2).bind fun r6 => (if r6 = 0 then f_X10_bare_J31 a0 a1 a2 a3 m else (f_X10_isDay a3).bind fun r7 => (if r7 = 0 then f_X10_bare_J31 a0 a1 a2 a3 m else (if a1 ≤ a2 then f_X10_bare_J45 a0 a1 a2 a3 0 m else f_X10_bare_J45 a0 a1 a2 a3 2 m)))))
theorem t_X10_bare_L70 {X : jX} (B : jB X cX10_bare RX10 7 SKF.length rm_X10_bare (some .int)) : ∀ (q : Nat) (v3 : Int) (v5 : Int) (v6 : Int) (m : jMu) (r : (Int × jMu)), f_X10_bare_L70 q v3 v5 v6 m = some r → jQ X (.inl (some (jI r.1))) SKF r.2 rm_X10_bare.cells rm_X10_bare.slots → J X SKF m 0 0 70 [(0, jR 74), (3, jI v3), (5, jI v5), (6, jI v6)] [] := by
  intro q
  induction q with
  | zero =>
    intro v3 v5 v6 m r hf
    rw [f_X10_bare_L70] at hf
    cases hf
  | succ q ih =>
    intro v3 v5 v6 m r hf hq
    rw [f_X10_bare_L70] at hf
    refine B_blk B jlkX10_ok jcl_SKF [.iload 6, .iload_n 3] (by decide +kernel) (ls' := [(0, jR 74), (3, jI v3), (5, jI v5), (6, jI v6)]) (st' := [jI v3, jI v6]) rfl (p1 := 73) rfl ?_
    refine J_icmp_gt B.1 (off := 29) (tgt := 102) (by decide +kernel) (by decide) hf (fun hf => ?_) (fun hf => ?_)
    · refine B_blk B jlkX10_ok jcl_SKF [.iload 5] (by decide +kernel) (ls' := [(0, jR 74), (3, jI v3), (5, jI v5), (6, jI v6)]) (st' := [jI v5]) rfl (p1 := 104) rfl ?_
      cases hf
      exact B_retI B hq rfl (Nat.le_of_ble_eq_true rfl) (Nat.le_of_ble_eq_true rfl) (by decide +kernel)
    · refine B_blk B jlkX10_ok jcl_SKF [.iload 5, .aload_n 0, .getfield 33, .iload 6] (by decide +kernel) (ls' := [(0, jR 74), (3, jI v3), (5, jI v5), (6, jI v6)]) (st' := [jI v6, jR 81, jI v5]) rfl (p1 := 84) rfl ?_
      obtain ⟨g4, hf⟩ := jgd hf
      refine K_zald (lenI := 200) B rfl rfl g4 (by decide +kernel) ?_
      refine J_if_eq B.1 (off := 7) (tgt := 92) (by decide +kernel) (by decide) hf (fun hf => ?_) (fun hf => ?_)
      · refine B_blk B jlkX10_ok jcl_SKF [.iconst 0, .iadd, .istore 5, .iinc 6 1, .goto (-29)] (by decide +kernel) (ls' := [(0, jR 74), (3, jI v3), (5, jI (jW (v5 + 0))), (6, jI (jW (v6 + 1)))]) (st' := []) rfl (p1 := 70) rfl ?_
        exact ih v3 (jW (v5 + 0)) (jW (v6 + 1)) m _ hf hq
      · refine B_blk B jlkX10_ok jcl_SKF [.iconst 1, .goto 4, .iadd, .istore 5, .iinc 6 1, .goto (-29)] (by decide +kernel) (ls' := [(0, jR 74), (3, jI v3), (5, jI (jW (v5 + 1))), (6, jI (jW (v6 + 1)))]) (st' := []) rfl (p1 := 70) rfl ?_
        exact ih v3 (jW (v5 + 1)) (jW (v6 + 1)) m _ hf hq
theorem t_X10_bare_J45 {X : jX} (B : jB X cX10_bare RX10 7 SKF.length rm_X10_bare (some .int)) (v1 : Int) (v2 : Int) (v3 : Int) (v4 : Int) (s1 : Int) (m : jMu) (r : (Int × jMu)) (hf : f_X10_bare_J45 v1 v2 v3 v4 s1 m = some r) (hq : jQ X (.inl (some (jI r.1))) SKF r.2 rm_X10_bare.cells rm_X10_bare.slots) : J X SKF m 0 0 45 [(0, jR 74), (1, jI v1), (2, jI v2), (3, jI v3), (4, jI v4)] [jI s1, jR 74] := by
  unfold f_X10_bare_J45 at hf
  refine K_putI (jI' := 0) B jp_X10_51 rfl rfl rfl (by decide +kernel) ?_
  obtain ⟨m2, hm2, hf⟩ := jlt_s hf
  rw [hm2]
  refine B_blk B jlkX10_ok jcl_SKF [.aload_n 0, .getfield 51] (by decide +kernel) (ls' := [(0, jR 74), (1, jI v1), (2, jI v2), (3, jI v3), (4, jI v4)]) (st' := [jI (m2 74 0)]) rfl (p1 := 52) rfl ?_
  refine J_if_le B.1 (off := 5) (tgt := 57) (by decide +kernel) (by decide) hf (fun hf => ?_) (fun hf => ?_)
  · refine B_blk B jlkX10_ok jcl_SKF [.aload_n 0, .iload_n 1, .iload 4] (by decide +kernel) (ls' := [(0, jR 74), (1, jI v1), (2, jI v2), (3, jI v3), (4, jI v4)]) (st' := [jI v4, jI v1, jR 74]) rfl (p1 := 61) rfl ?_
    obtain ⟨r3, h3, hf⟩ := jbd hf
    refine B_callV B (Nat.le_refl _) (μ' := r3) (k' := 0) (n' := 0) ca_X10_bares in_X10_bares se_X10_bares lk_X10_256 (t_X10_bares B.tr h3) (Nat.le_refl _) rfl rfl rfl (rest := []) rfl rfl (Nat.le_of_ble_eq_true rfl) (by decide +kernel) rfl rfl (st' := []) rfl ?_
    refine B_blk B jlkX10_ok jcl_SKF [.iconst 0, .istore 5, .iload_n 2, .istore 6] (by decide +kernel) (ls' := [(0, jR 74), (1, jI v1), (2, jI v2), (3, jI v3), (4, jI v4), (5, jI 0), (6, jI v2)]) (st' := []) rfl (p1 := 70) rfl ?_
    refine J_pick [0, 3, 5, 6] (ls' := [(0, jR 74), (3, jI v3), (5, jI 0), (6, jI v2)]) rfl ?_
    exact t_X10_bare_L70 B jFU v3 0 v2 r3 _ hf hq
  · refine B_blk B jlkX10_ok jcl_SKF [.iconst 0] (by decide +kernel) (ls' := [(0, jR 74), (1, jI v1), (2, jI v2), (3, jI v3), (4, jI v4)]) (st' := [jI 0]) rfl (p1 := 56) rfl ?_
    cases hf
    exact B_retI B hq rfl (Nat.le_of_ble_eq_true rfl) (Nat.le_of_ble_eq_true rfl) (by decide +kernel)
theorem t_X10_bare_J31 {X : jX} (B : jB X cX10_bare RX10 7 SKF.length rm_X10_bare (some .int)) (v1 : Int) (v2 : Int) (v3 : Int) (v4 : Int) (m : jMu) (r : (Int × jMu)) (hf : f_X10_bare_J31 v1 v2 v3 v4 m = some r) (hq : jQ X (.inl (some (jI r.1))) SKF r.2 rm_X10_bare.cells rm_X10_bare.slots) : J X SKF m 0 0 31 [(0, jR 74), (1, jI v1), (2, jI v2), (3, jI v3), (4, jI v4)] [jR 74] := by
  unfold f_X10_bare_J31 at hf
  refine B_blk B jlkX10_ok jcl_SKF [.iconst 1, .goto 13] (by decide +kernel) (ls' := [(0, jR 74), (1, jI v1), (2, jI v2), (3, jI v3), (4, jI v4)]) (st' := [jI 1, jR 74]) rfl (p1 := 45) rfl ?_
  exact t_X10_bare_J45 B v1 v2 v3 v4 1 m _ hf hq
theorem t_X10_bare {l : Launch} {G : jG} (hl : l.stackTraces = false) {a0 : Int} {a1 : Int} {a2 : Int} {a3 : Int} {m : jMu} {r : (Int × jMu)} (hf : f_X10_bare a0 a1 a2 a3 m = some r) : jCt l G yX10_bare (.code yX10_bare cX10_bare 7 (some .int) :: jWG) rm_X10_bare [jR 74, jI a0, jI a1, jI a2, jI a3] SKF m (.inl (some (jI r.1))) SKF r.2 := by
  unfold f_X10_bare at hf
  refine J_start (ls0 := [(0, jR 74), (1, jI a0), (2, jI a1), (3, jI a2), (4, jI a3)]) (by decide +kernel) hl (Nat.le_of_ble_eq_true rfl) rfl fun X C hN hn hR hr hnm hno hq => ?_
  have B : jB X cX10_bare RX10 7 SKF.length rm_X10_bare (some .int) := ⟨C, hN, Nat.le_of_eq hn, hR, hr⟩
  refine B_blk B jlkX10_ok jcl_SKF [.aload_n 0, .aload_n 0, .iload_n 1] (by decide +kernel) (ls' := [(0, jR 74), (1, jI a0), (2, jI a1), (3, jI a2), (4, jI a3)]) (st' := [jI a0, jR 74, jR 74]) rfl (p1 := 3) rfl ?_
  obtain ⟨r1, h1, hf⟩ := jbd hf
  refine B_callV B (Nat.le_refl _) (μ' := m) (k' := 0) (n' := 0) ca_X10_isBay in_X10_isBay se_X10_isBay lk_X10_206 (t_X10_isBay B.tr h1) (Nat.le_refl _) rfl rfl rfl (rest := [jR 74]) rfl rfl (Nat.le_of_ble_eq_true rfl) (by decide +kernel) rfl rfl (st' := [jI r1, jR 74]) rfl ?_
  refine J_if_eq B.1 (off := 25) (tgt := 31) (by decide +kernel) (by decide) hf (fun hf => ?_) (fun hf => ?_)
  · exact t_X10_bare_J31 B a0 a1 a2 a3 m _ hf hq
  · refine B_blk B jlkX10_ok jcl_SKF [.iload_n 2] (by decide +kernel) (ls' := [(0, jR 74), (1, jI a0), (2, jI a1), (3, jI a2), (4, jI a3)]) (st' := [jI a1, jR 74]) rfl (p1 := 10) rfl ?_
    obtain ⟨r5, h5, hf⟩ := jbd hf
    refine B_callS B (Nat.le_refl _) (μ' := m) (k' := 0) (n' := 0) ca_X10_isDay sa_X10_isDay lk_X10_209 (t_X10_isDay B.tr jcl_SKF h5) (Nat.le_refl _) rfl (rest := [jR 74]) rfl rfl (Nat.le_of_ble_eq_true rfl) (by decide +kernel) rfl rfl (st' := [jI r5, jR 74]) rfl ?_
    refine J_if_eq B.1 (off := 18) (tgt := 31) (by decide +kernel) (by decide) hf (fun hf => ?_) (fun hf => ?_)
    · exact t_X10_bare_J31 B a0 a1 a2 a3 m _ hf hq
    · refine B_blk B jlkX10_ok jcl_SKF [.iload_n 3] (by decide +kernel) (ls' := [(0, jR 74), (1, jI a0), (2, jI a1), (3, jI a2), (4, jI a3)]) (st' := [jI a2, jR 74]) rfl (p1 := 17) rfl ?_
      obtain ⟨r6, h6, hf⟩ := jbd hf
      refine B_callS B (Nat.le_refl _) (μ' := m) (k' := 0) (n' := 0) ca_X10_isDay sa_X10_isDay lk_X10_209 (t_X10_isDay B.tr jcl_SKF h6) (Nat.le_refl _) rfl (rest := [jR 74]) rfl rfl (Nat.le_of_ble_eq_true rfl) (by decide +kernel) rfl rfl (st' := [jI r6, jR 74]) rfl ?_
      refine J_if_eq B.1 (off := 11) (tgt := 31) (by decide +kernel) (by decide) hf (fun hf => ?_) (fun hf => ?_)
      · exact t_X10_bare_J31 B a0 a1 a2 a3 m _ hf hq
      · refine B_blk B jlkX10_ok jcl_SKF [.iload 4] (by decide +kernel) (ls' := [(0, jR 74), (1, jI a0), (2, jI a1), (3, jI a2), (4, jI a3)]) (st' := [jI a3, jR 74]) rfl (p1 := 25) rfl ?_
        obtain ⟨r7, h7, hf⟩ := jbd hf
        refine B_callS B (Nat.le_refl _) (μ' := m) (k' := 0) (n' := 0) ca_X10_isDay sa_X10_isDay lk_X10_209 (t_X10_isDay B.tr jcl_SKF h7) (Nat.le_refl _) rfl (rest := [jR 74]) rfl rfl (Nat.le_of_ble_eq_true rfl) (by decide +kernel) rfl rfl (st' := [jI r7, jR 74]) rfl ?_
        refine J_if_ne B.1 (off := 7) (tgt := 35) (by decide +kernel) (by decide) hf (fun hf => ?_) (fun hf => ?_)
        · exact t_X10_bare_J31 B a0 a1 a2 a3 m _ hf hq
        · refine B_blk B jlkX10_ok jcl_SKF [.iload_n 3, .iload_n 2] (by decide +kernel) (ls' := [(0, jR 74), (1, jI a0), (2, jI a1), (3, jI a2), (4, jI a3)]) (st' := [jI a1, jI a2, jR 74]) rfl (p1 := 37) rfl ?_
          refine J_icmp_ge B.1 (off := 7) (tgt := 44) (by decide +kernel) (by decide) hf (fun hf => ?_) (fun hf => ?_)
          · refine B_blk B jlkX10_ok jcl_SKF [.iconst 0] (by decide +kernel) (ls' := [(0, jR 74), (1, jI a0), (2, jI a1), (3, jI a2), (4, jI a3)]) (st' := [jI 0, jR 74]) rfl (p1 := 45) rfl ?_
            exact t_X10_bare_J45 B a0 a1 a2 a3 0 m _ hf hq
          · refine B_blk B jlkX10_ok jcl_SKF [.iconst 2, .goto 4] (by decide +kernel) (ls' := [(0, jR 74), (1, jI a0), (2, jI a1), (3, jI a2), (4, jI a3)]) (st' := [jI 2, jR 74]) rfl (p1 := 45) rfl ?_
            exact t_X10_bare_J45 B a0 a1 a2 a3 2 m _ hf hq

def rm_X10_rust : Room := { frames := 4, cells := 0, slots := 0, locals := 86 }
def f_X10_rust_J39 (v1 : Int) (v2 : Int) (v3 : Int) (s1 : Int) (m : jMu) : Option jMu :=
  (jlt (jup m 74 0 s1) fun m2 => (if m2 74 0 ≤ 0 then (if 0 ≤ jW (876 + jW (2 * v1)) ∧ jW (876 + jW (2 * v1)) < 2083 then (jlt (jup m2 75 (jW (876 + jW (2 * v1))) v2) fun m3 => (if 0 ≤ jW (jW (876 + jW (2 * v1)) + 1) ∧ jW (jW (876 + jW (2 * v1)) + 1) < 2083 then (jlt (jup m3 75 (jW (jW (876 + jW (2 * v1)) + 1)) v3) fun m4 => some m4) else none)) else none) else some m2))
def f_X10_rust_J34 (v1 : Int) (v2 : Int) (v3 : Int) (m : jMu) : Option jMu :=
  f_X10_rust_J39 v1 v2 v3 2 m
def f_X10_rust (a0 : Int) (a1 : Int) (a2 : Int) (m : jMu) : Option jMu :=
  (f_X10_isIn a0 0 1).bind fun r1 => (if r1 = 0 then f_X10_rust_J39 a0 a1 a2 1 m else (f_X10_isIn a1 0 20).bind fun r7 => (if r7 = 0 then f_X10_rust_J34 a0 a1 a2 m else (f_X10_isIn a2 a1 20).bind fun r8 => (if r8 = 0 then f_X10_rust_J34 a0 a1 a2 m else f_X10_rust_J39 a0 a1 a2 0 m)))
theorem t_X10_rust_J39 {X : jX} (B : jB X cX10_rust RX10 4 SKF.length rm_X10_rust none) (v1 : Int) (v2 : Int) (v3 : Int) (s1 : Int) (m : jMu) (r : jMu) (hf : f_X10_rust_J39 v1 v2 v3 s1 m = some r) (hq : jQ X (.inl none) SKF r rm_X10_rust.cells rm_X10_rust.slots) : J X SKF m 0 0 39 [(0, jR 74), (1, jI v1), (2, jI v2), (3, jI v3)] [jI s1, jR 74] := by
  unfold f_X10_rust_J39 at hf
  refine K_putI (jI' := 0) B jp_X10_51 rfl rfl rfl (by decide +kernel) ?_
  obtain ⟨m2, hm2, hf⟩ := jlt_s hf
  rw [hm2]
  refine B_blk B jlkX10_ok jcl_SKF [.aload_n 0, .getfield 51] (by decide +kernel) (ls' := [(0, jR 74), (1, jI v1), (2, jI v2), (3, jI v3)]) (st' := [jI (m2 74 0)]) rfl (p1 := 46) rfl ?_
  refine J_if_le B.1 (off := 4) (tgt := 50) (by decide +kernel) (by decide) hf (fun hf => ?_) (fun hf => ?_)
  · refine B_blk B jlkX10_ok jcl_SKF [.aload_n 0, .getfield 7, .sipush 876, .iconst 2, .iload_n 1, .imul, .iadd, .iload_n 2] (by decide +kernel) (ls' := [(0, jR 74), (1, jI v1), (2, jI v2), (3, jI v3)]) (st' := [jI v2, jI (jW (876 + jW (2 * v1))), jR 75]) rfl (p1 := 62) rfl ?_
    obtain ⟨g6, hf⟩ := jgd hf
    refine K_iast (lenI := 2083) B rfl rfl g6 (by decide +kernel) ?_
    obtain ⟨m3, hm3, hf⟩ := jlt_s hf
    rw [hm3]
    refine B_blk B jlkX10_ok jcl_SKF [.aload_n 0, .getfield 7, .sipush 876, .iconst 2, .iload_n 1, .imul, .iadd, .iconst 1, .iadd, .iload_n 3] (by decide +kernel) (ls' := [(0, jR 74), (1, jI v1), (2, jI v2), (3, jI v3)]) (st' := [jI v3, jI (jW (jW (876 + jW (2 * v1)) + 1)), jR 75]) rfl (p1 := 77) rfl ?_
    obtain ⟨g5, hf⟩ := jgd hf
    refine K_iast (lenI := 2083) B rfl rfl g5 (by decide +kernel) ?_
    obtain ⟨m4, hm4, hf⟩ := jlt_s hf
    rw [hm4]
    cases hf
    exact B_retV B hq rfl (Nat.le_of_ble_eq_true rfl) (Nat.le_of_ble_eq_true rfl) (by decide +kernel)
  · cases hf
    exact B_retV B hq rfl (Nat.le_of_ble_eq_true rfl) (Nat.le_of_ble_eq_true rfl) (by decide +kernel)
theorem t_X10_rust_J34 {X : jX} (B : jB X cX10_rust RX10 4 SKF.length rm_X10_rust none) (v1 : Int) (v2 : Int) (v3 : Int) (m : jMu) (r : jMu) (hf : f_X10_rust_J34 v1 v2 v3 m = some r) (hq : jQ X (.inl none) SKF r rm_X10_rust.cells rm_X10_rust.slots) : J X SKF m 0 0 34 [(0, jR 74), (1, jI v1), (2, jI v2), (3, jI v3)] [jR 74] := by
  unfold f_X10_rust_J34 at hf
  refine B_blk B jlkX10_ok jcl_SKF [.iconst 2, .goto 4] (by decide +kernel) (ls' := [(0, jR 74), (1, jI v1), (2, jI v2), (3, jI v3)]) (st' := [jI 2, jR 74]) rfl (p1 := 39) rfl ?_
  exact t_X10_rust_J39 B v1 v2 v3 2 m _ hf hq
theorem t_X10_rust {l : Launch} {G : jG} (hl : l.stackTraces = false) {a0 : Int} {a1 : Int} {a2 : Int} {m : jMu} {r : jMu} (hf : f_X10_rust a0 a1 a2 m = some r) : jCt l G yX10_rust (.code yX10_rust cX10_rust 4 none :: jWG) rm_X10_rust [jR 74, jI a0, jI a1, jI a2] SKF m (.inl none) SKF r := by
  unfold f_X10_rust at hf
  refine J_start (ls0 := [(0, jR 74), (1, jI a0), (2, jI a1), (3, jI a2)]) (by decide +kernel) hl (Nat.le_of_ble_eq_true rfl) rfl fun X C hN hn hR hr hnm hno hq => ?_
  have B : jB X cX10_rust RX10 4 SKF.length rm_X10_rust none := ⟨C, hN, Nat.le_of_eq hn, hR, hr⟩
  refine B_blk B jlkX10_ok jcl_SKF [.aload_n 0, .iload_n 1, .iconst 0, .iconst 1] (by decide +kernel) (ls' := [(0, jR 74), (1, jI a0), (2, jI a1), (3, jI a2)]) (st' := [jI 1, jI 0, jI a0, jR 74]) rfl (p1 := 4) rfl ?_
  obtain ⟨r1, h1, hf⟩ := jbd hf
  refine B_callS B (Nat.le_refl _) (μ' := m) (k' := 0) (n' := 0) ca_X10_isIn sa_X10_isIn lk_X10_54 (t_X10_isIn B.tr jcl_SKF h1) (Nat.le_refl _) rfl (rest := [jR 74]) rfl rfl (Nat.le_of_ble_eq_true rfl) (by decide +kernel) rfl rfl (st' := [jI r1, jR 74]) rfl ?_
  refine J_if_ne B.1 (off := 7) (tgt := 14) (by decide +kernel) (by decide) hf (fun hf => ?_) (fun hf => ?_)
  · refine B_blk B jlkX10_ok jcl_SKF [.iconst 1, .goto 28] (by decide +kernel) (ls' := [(0, jR 74), (1, jI a0), (2, jI a1), (3, jI a2)]) (st' := [jI 1, jR 74]) rfl (p1 := 39) rfl ?_
    exact t_X10_rust_J39 B a0 a1 a2 1 m _ hf hq
  · refine B_blk B jlkX10_ok jcl_SKF [.iload_n 2, .iconst 0, .bipush 20] (by decide +kernel) (ls' := [(0, jR 74), (1, jI a0), (2, jI a1), (3, jI a2)]) (st' := [jI 20, jI 0, jI a1, jR 74]) rfl (p1 := 18) rfl ?_
    obtain ⟨r7, h7, hf⟩ := jbd hf
    refine B_callS B (Nat.le_refl _) (μ' := m) (k' := 0) (n' := 0) ca_X10_isIn sa_X10_isIn lk_X10_54 (t_X10_isIn B.tr jcl_SKF h7) (Nat.le_refl _) rfl (rest := [jR 74]) rfl rfl (Nat.le_of_ble_eq_true rfl) (by decide +kernel) rfl rfl (st' := [jI r7, jR 74]) rfl ?_
    refine J_if_eq B.1 (off := 13) (tgt := 34) (by decide +kernel) (by decide) hf (fun hf => ?_) (fun hf => ?_)
    · exact t_X10_rust_J34 B a0 a1 a2 m _ hf hq
    · refine B_blk B jlkX10_ok jcl_SKF [.iload_n 3, .iload_n 2, .bipush 20] (by decide +kernel) (ls' := [(0, jR 74), (1, jI a0), (2, jI a1), (3, jI a2)]) (st' := [jI 20, jI a1, jI a2, jR 74]) rfl (p1 := 28) rfl ?_
      obtain ⟨r8, h8, hf⟩ := jbd hf
      refine B_callS B (Nat.le_refl _) (μ' := m) (k' := 0) (n' := 0) ca_X10_isIn sa_X10_isIn lk_X10_54 (t_X10_isIn B.tr jcl_SKF h8) (Nat.le_refl _) rfl (rest := [jR 74]) rfl rfl (Nat.le_of_ble_eq_true rfl) (by decide +kernel) rfl rfl (st' := [jI r8, jR 74]) rfl ?_
      refine J_if_ne B.1 (off := 7) (tgt := 38) (by decide +kernel) (by decide) hf (fun hf => ?_) (fun hf => ?_)
      · exact t_X10_rust_J34 B a0 a1 a2 m _ hf hq
      · refine B_blk B jlkX10_ok jcl_SKF [.iconst 0] (by decide +kernel) (ls' := [(0, jR 74), (1, jI a0), (2, jI a1), (3, jI a2)]) (st' := [jI 0, jR 74]) rfl (p1 := 39) rfl ?_
        exact t_X10_rust_J39 B a0 a1 a2 0 m _ hf hq

def rm_X10_reading : Room := { frames := 6, cells := 0, slots := 0, locals := 107 }
def f_X10_reading_J52 (v1 : Int) (v2 : Int) (v3 : Int) (s1 : Int) (m : jMu) : Option (Int × jMu) :=
  (jlt (jup m 74 0 s1) fun m2 => (if m2 74 0 ≤ 0 then (if 0 ≤ jW (696 + jW (4 * m2 75 9)) ∧ jW (696 + jW (4 * m2 75 9)) < 2083 then (jlt (jup m2 75 (jW (696 + jW (4 * m2 75 9))) v1) fun m3 => (if 0 ≤ jW (jW (696 + jW (4 * m2 75 9)) + 1) ∧ jW (jW (696 + jW (4 * m2 75 9)) + 1) < 2083 then (jlt (jup m3 75 (jW (jW (696 + jW (4 * m2 75 9)) + 1)) v2) fun m4 => (if 0 ≤ jW (jW (696 + jW (4 * m2 75 9)) + 2) ∧ jW (jW (696 + jW (4 * m2 75 9)) + 2) < 2083 then (jlt (jup m4 75 (jW (jW (696 + jW (4 * m2 75 9)) + 2)) v3) fun m5 => (if 0 ≤ jW (jW (696 + jW (4 * m2 75 9)) + 3) ∧ jW (jW (696 + jW (4 * m2 75 9)) + 3) < 2083 then (jlt (jup m5 75 (jW (jW (696 + jW (4 * m2 75 9)) + 3)) (m5 75 11)) fun m6 => (jlt (jup m6 75 9 (jW (m6 75 9 + 1))) fun m7 => some (jW (m7 75 9 - 1), m7))) else none)) else none)) else none)) else none) else some (0, m2)))
def f_X10_reading_J16 (v1 : Int) (v2 : Int) (v3 : Int) (m : jMu) : Option (Int × jMu) :=
  f_X10_reading_J52 v1 v2 v3 1 m
def f_X10_reading (a0 : Int) (a1 : Int) (a2 : Int) (m : jMu) : Option (Int × jMu) :=
  (f_X10_isBay a0 m).bind fun r1 => (if r1 = 0 then f_X10_reading_J16 a0 a1 a2 m else (f_X10_isDay a1).bind fun r12 => (if r12 = 0 then f_X10_reading_J16 a0 a1 a2 m else (f_X10_isIn a2 0 500).bind fun r13 => (if r13 = 0 then f_X10_reading_J52 a0 a1 a2 2 m else (if m 75 9 = 30 then f_X10_reading_J52 a0 a1 a2 3 m else f_X10_reading_J52 a0 a1 a2 0 m))))
theorem t_X10_reading_J52 {X : jX} (B : jB X cX10_reading RX10 5 SKF.length rm_X10_reading (some .int)) (v1 : Int) (v2 : Int) (v3 : Int) (s1 : Int) (m : jMu) (r : (Int × jMu)) (hf : f_X10_reading_J52 v1 v2 v3 s1 m = some r) (hq : jQ X (.inl (some (jI r.1))) SKF r.2 rm_X10_reading.cells rm_X10_reading.slots) : J X SKF m 0 0 52 [(0, jR 74), (1, jI v1), (2, jI v2), (3, jI v3)] [jI s1, jR 74] := by
  unfold f_X10_reading_J52 at hf
  refine K_putI (jI' := 0) B jp_X10_51 rfl rfl rfl (by decide +kernel) ?_
  obtain ⟨m2, hm2, hf⟩ := jlt_s hf
  rw [hm2]
  refine B_blk B jlkX10_ok jcl_SKF [.aload_n 0, .getfield 51] (by decide +kernel) (ls' := [(0, jR 74), (1, jI v1), (2, jI v2), (3, jI v3)]) (st' := [jI (m2 74 0)]) rfl (p1 := 59) rfl ?_
  refine J_if_le B.1 (off := 5) (tgt := 64) (by decide +kernel) (by decide) hf (fun hf => ?_) (fun hf => ?_)
  · refine B_blk B jlkX10_ok jcl_SKF [.sipush 696, .iconst 4, .aload_n 0, .getfield 7, .bipush 9] (by decide +kernel) (ls' := [(0, jR 74), (1, jI v1), (2, jI v2), (3, jI v3)]) (st' := [jI 9, jR 75, jI 4, jI 696]) rfl (p1 := 74) rfl ?_
    refine K_iald (lenI := 2083) B rfl rfl (by decide) (by decide +kernel) ?_
    refine B_blk B jlkX10_ok jcl_SKF [.imul, .iadd, .istore 4, .aload_n 0, .getfield 7, .iload 4, .iload_n 1] (by decide +kernel) (ls' := [(0, jR 74), (1, jI v1), (2, jI v2), (3, jI v3), (4, jI (jW (696 + jW (4 * m2 75 9))))]) (st' := [jI v1, jI (jW (696 + jW (4 * m2 75 9))), jR 75]) rfl (p1 := 86) rfl ?_
    obtain ⟨g11, hf⟩ := jgd hf
    refine K_iast (lenI := 2083) B rfl rfl g11 (by decide +kernel) ?_
    obtain ⟨m3, hm3, hf⟩ := jlt_s hf
    rw [hm3]
    refine B_blk B jlkX10_ok jcl_SKF [.aload_n 0, .getfield 7, .iload 4, .iconst 1, .iadd, .iload_n 2] (by decide +kernel) (ls' := [(0, jR 74), (1, jI v1), (2, jI v2), (3, jI v3), (4, jI (jW (696 + jW (4 * m2 75 9))))]) (st' := [jI v2, jI (jW (jW (696 + jW (4 * m2 75 9)) + 1)), jR 75]) rfl (p1 := 96) rfl ?_
    obtain ⟨g10, hf⟩ := jgd hf
    refine K_iast (lenI := 2083) B rfl rfl g10 (by decide +kernel) ?_
    obtain ⟨m4, hm4, hf⟩ := jlt_s hf
    rw [hm4]
    refine B_blk B jlkX10_ok jcl_SKF [.aload_n 0, .getfield 7, .iload 4, .iconst 2, .iadd, .iload_n 3] (by decide +kernel) (ls' := [(0, jR 74), (1, jI v1), (2, jI v2), (3, jI v3), (4, jI (jW (696 + jW (4 * m2 75 9))))]) (st' := [jI v3, jI (jW (jW (696 + jW (4 * m2 75 9)) + 2)), jR 75]) rfl (p1 := 106) rfl ?_
    obtain ⟨g9, hf⟩ := jgd hf
    refine K_iast (lenI := 2083) B rfl rfl g9 (by decide +kernel) ?_
    obtain ⟨m5, hm5, hf⟩ := jlt_s hf
    rw [hm5]
    refine B_blk B jlkX10_ok jcl_SKF [.aload_n 0, .getfield 7, .iload 4, .iconst 3, .iadd, .aload_n 0, .getfield 7, .bipush 11] (by decide +kernel) (ls' := [(0, jR 74), (1, jI v1), (2, jI v2), (3, jI v3), (4, jI (jW (696 + jW (4 * m2 75 9))))]) (st' := [jI 11, jR 75, jI (jW (jW (696 + jW (4 * m2 75 9)) + 3)), jR 75]) rfl (p1 := 121) rfl ?_
    refine K_iald (lenI := 2083) B rfl rfl (by decide) (by decide +kernel) ?_
    obtain ⟨g8, hf⟩ := jgd hf
    refine K_iast (lenI := 2083) B rfl rfl g8 (by decide +kernel) ?_
    obtain ⟨m6, hm6, hf⟩ := jlt_s hf
    rw [hm6]
    refine B_blk B jlkX10_ok jcl_SKF [.aload_n 0, .getfield 7, .bipush 9, .dup2] (by decide +kernel) (ls' := [(0, jR 74), (1, jI v1), (2, jI v2), (3, jI v3), (4, jI (jW (696 + jW (4 * m2 75 9))))]) (st' := [jI 9, jR 75, jI 9, jR 75]) rfl (p1 := 130) rfl ?_
    refine K_iald (lenI := 2083) B rfl rfl (by decide) (by decide +kernel) ?_
    refine B_blk B jlkX10_ok jcl_SKF [.iconst 1, .iadd] (by decide +kernel) (ls' := [(0, jR 74), (1, jI v1), (2, jI v2), (3, jI v3), (4, jI (jW (696 + jW (4 * m2 75 9))))]) (st' := [jI (jW (m6 75 9 + 1)), jI 9, jR 75]) rfl (p1 := 133) rfl ?_
    refine K_iast (lenI := 2083) B rfl rfl (by decide) (by decide +kernel) ?_
    obtain ⟨m7, hm7, hf⟩ := jlt_s hf
    rw [hm7]
    refine B_blk B jlkX10_ok jcl_SKF [.aload_n 0, .getfield 7, .bipush 9] (by decide +kernel) (ls' := [(0, jR 74), (1, jI v1), (2, jI v2), (3, jI v3), (4, jI (jW (696 + jW (4 * m2 75 9))))]) (st' := [jI 9, jR 75]) rfl (p1 := 140) rfl ?_
    refine K_iald (lenI := 2083) B rfl rfl (by decide) (by decide +kernel) ?_
    refine B_blk B jlkX10_ok jcl_SKF [.iconst 1, .isub] (by decide +kernel) (ls' := [(0, jR 74), (1, jI v1), (2, jI v2), (3, jI v3), (4, jI (jW (696 + jW (4 * m2 75 9))))]) (st' := [jI (jW (m7 75 9 - 1))]) rfl (p1 := 143) rfl ?_
    cases hf
    exact B_retI B hq rfl (Nat.le_of_ble_eq_true rfl) (Nat.le_of_ble_eq_true rfl) (by decide +kernel)
  · refine B_blk B jlkX10_ok jcl_SKF [.iconst 0] (by decide +kernel) (ls' := [(0, jR 74), (1, jI v1), (2, jI v2), (3, jI v3)]) (st' := [jI 0]) rfl (p1 := 63) rfl ?_
    cases hf
    exact B_retI B hq rfl (Nat.le_of_ble_eq_true rfl) (Nat.le_of_ble_eq_true rfl) (by decide +kernel)
theorem t_X10_reading_J16 {X : jX} (B : jB X cX10_reading RX10 5 SKF.length rm_X10_reading (some .int)) (v1 : Int) (v2 : Int) (v3 : Int) (m : jMu) (r : (Int × jMu)) (hf : f_X10_reading_J16 v1 v2 v3 m = some r) (hq : jQ X (.inl (some (jI r.1))) SKF r.2 rm_X10_reading.cells rm_X10_reading.slots) : J X SKF m 0 0 16 [(0, jR 74), (1, jI v1), (2, jI v2), (3, jI v3)] [jR 74] := by
  unfold f_X10_reading_J16 at hf
  refine B_blk B jlkX10_ok jcl_SKF [.iconst 1, .goto 35] (by decide +kernel) (ls' := [(0, jR 74), (1, jI v1), (2, jI v2), (3, jI v3)]) (st' := [jI 1, jR 74]) rfl (p1 := 52) rfl ?_
  exact t_X10_reading_J52 B v1 v2 v3 1 m _ hf hq
theorem t_X10_reading {l : Launch} {G : jG} (hl : l.stackTraces = false) {a0 : Int} {a1 : Int} {a2 : Int} {m : jMu} {r : (Int × jMu)} (hf : f_X10_reading a0 a1 a2 m = some r) : jCt l G yX10_reading (.code yX10_reading cX10_reading 5 (some .int) :: jWG) rm_X10_reading [jR 74, jI a0, jI a1, jI a2] SKF m (.inl (some (jI r.1))) SKF r.2 := by
  unfold f_X10_reading at hf
  refine J_start (ls0 := [(0, jR 74), (1, jI a0), (2, jI a1), (3, jI a2)]) (by decide +kernel) hl (Nat.le_of_ble_eq_true rfl) rfl fun X C hN hn hR hr hnm hno hq => ?_
  have B : jB X cX10_reading RX10 5 SKF.length rm_X10_reading (some .int) := ⟨C, hN, Nat.le_of_eq hn, hR, hr⟩
  refine B_blk B jlkX10_ok jcl_SKF [.aload_n 0, .aload_n 0, .iload_n 1] (by decide +kernel) (ls' := [(0, jR 74), (1, jI a0), (2, jI a1), (3, jI a2)]) (st' := [jI a0, jR 74, jR 74]) rfl (p1 := 3) rfl ?_
  obtain ⟨r1, h1, hf⟩ := jbd hf
  refine B_callV B (Nat.le_refl _) (μ' := m) (k' := 0) (n' := 0) ca_X10_isBay in_X10_isBay se_X10_isBay lk_X10_206 (t_X10_isBay B.tr h1) (Nat.le_refl _) rfl rfl rfl (rest := [jR 74]) rfl rfl (Nat.le_of_ble_eq_true rfl) (by decide +kernel) rfl rfl (st' := [jI r1, jR 74]) rfl ?_
  refine J_if_eq B.1 (off := 10) (tgt := 16) (by decide +kernel) (by decide) hf (fun hf => ?_) (fun hf => ?_)
  · exact t_X10_reading_J16 B a0 a1 a2 m _ hf hq
  · refine B_blk B jlkX10_ok jcl_SKF [.iload_n 2] (by decide +kernel) (ls' := [(0, jR 74), (1, jI a0), (2, jI a1), (3, jI a2)]) (st' := [jI a1, jR 74]) rfl (p1 := 10) rfl ?_
    obtain ⟨r12, h12, hf⟩ := jbd hf
    refine B_callS B (Nat.le_refl _) (μ' := m) (k' := 0) (n' := 0) ca_X10_isDay sa_X10_isDay lk_X10_209 (t_X10_isDay B.tr jcl_SKF h12) (Nat.le_refl _) rfl (rest := [jR 74]) rfl rfl (Nat.le_of_ble_eq_true rfl) (by decide +kernel) rfl rfl (st' := [jI r12, jR 74]) rfl ?_
    refine J_if_ne B.1 (off := 7) (tgt := 20) (by decide +kernel) (by decide) hf (fun hf => ?_) (fun hf => ?_)
    · exact t_X10_reading_J16 B a0 a1 a2 m _ hf hq
    · refine B_blk B jlkX10_ok jcl_SKF [.iload_n 3, .iconst 0, .sipush 500] (by decide +kernel) (ls' := [(0, jR 74), (1, jI a0), (2, jI a1), (3, jI a2)]) (st' := [jI 500, jI 0, jI a2, jR 74]) rfl (p1 := 25) rfl ?_
      obtain ⟨r13, h13, hf⟩ := jbd hf
      refine B_callS B (Nat.le_refl _) (μ' := m) (k' := 0) (n' := 0) ca_X10_isIn sa_X10_isIn lk_X10_54 (t_X10_isIn B.tr jcl_SKF h13) (Nat.le_refl _) rfl (rest := [jR 74]) rfl rfl (Nat.le_of_ble_eq_true rfl) (by decide +kernel) rfl rfl (st' := [jI r13, jR 74]) rfl ?_
      refine J_if_ne B.1 (off := 7) (tgt := 35) (by decide +kernel) (by decide) hf (fun hf => ?_) (fun hf => ?_)
      · refine B_blk B jlkX10_ok jcl_SKF [.iconst 2, .goto 20] (by decide +kernel) (ls' := [(0, jR 74), (1, jI a0), (2, jI a1), (3, jI a2)]) (st' := [jI 2, jR 74]) rfl (p1 := 52) rfl ?_
        exact t_X10_reading_J52 B a0 a1 a2 2 m _ hf hq
      · refine B_blk B jlkX10_ok jcl_SKF [.aload_n 0, .getfield 7, .bipush 9] (by decide +kernel) (ls' := [(0, jR 74), (1, jI a0), (2, jI a1), (3, jI a2)]) (st' := [jI 9, jR 75, jR 74]) rfl (p1 := 41) rfl ?_
        refine K_iald (lenI := 2083) B rfl rfl (by decide) (by decide +kernel) ?_
        refine B_blk B jlkX10_ok jcl_SKF [.bipush 30] (by decide +kernel) (ls' := [(0, jR 74), (1, jI a0), (2, jI a1), (3, jI a2)]) (st' := [jI 30, jI (m 75 9), jR 74]) rfl (p1 := 44) rfl ?_
        refine J_icmp_ne B.1 (off := 7) (tgt := 51) (by decide +kernel) (by decide) hf (fun hf => ?_) (fun hf => ?_)
        · refine B_blk B jlkX10_ok jcl_SKF [.iconst 3, .goto 4] (by decide +kernel) (ls' := [(0, jR 74), (1, jI a0), (2, jI a1), (3, jI a2)]) (st' := [jI 3, jR 74]) rfl (p1 := 52) rfl ?_
          exact t_X10_reading_J52 B a0 a1 a2 3 m _ hf hq
        · refine B_blk B jlkX10_ok jcl_SKF [.iconst 0] (by decide +kernel) (ls' := [(0, jR 74), (1, jI a0), (2, jI a1), (3, jI a2)]) (st' := [jI 0, jR 74]) rfl (p1 := 52) rfl ?_
          exact t_X10_reading_J52 B a0 a1 a2 0 m _ hf hq

def rm_X10_steelOf : Room := { frames := 4, cells := 0, slots := 0, locals := 86 }
def f_X10_steelOf_L243 : Nat → Int → Int → Int → Int → jMu → Option Int
  | 0, _, _, _, _, _ => none
  | q + 1, v2, v7, v8, v9, m => (if v2 ≤ v9 then (if 0 ≤ v7 then some v7 else some 0) else (if 0 ≤ v9 ∧ v9 < 200 then (if m 81 v9 = 0 then f_X10_steelOf_L243 q v2 (jW (v7 - 0)) v8 (jW (v9 + 1)) m else f_X10_steelOf_L243 q v2 (jW (v7 - v8)) v8 (jW (v9 + 1)) m) else none))
def f_X10_steelOf_J207 (v1 : Int) (v2 : Int) (v4 : Int) (v6 : Int) (s0 : Int) (m : jMu) : Option Int :=
  (f_X10_ofBay v1 0 m).bind fun r2 => (if v4 = 0 then (if 0 ≤ jW (jW (876 + jW (2 * r2)) + 1) ∧ jW (jW (876 + jW (2 * r2)) + 1) < 2083 then f_X10_steelOf_L243 jFU v2 s0 (m 75 (jW (jW (876 + jW (2 * r2)) + 1))) v6 m else none) else (if 0 ≤ jW (jW (876 + jW (2 * r2)) + 0) ∧ jW (jW (876 + jW (2 * r2)) + 0) < 2083 then f_X10_steelOf_L243 jFU v2 s0 (m 75 (jW (jW (876 + jW (2 * r2)) + 0))) v6 m else none))
def f_X10_steelOf_J180 (v1 : Int) (v2 : Int) (v4 : Int) (v6 : Int) (s0 : Int) (m : jMu) : Option Int :=
  (if 0 ≤ s0 then (if s0 ≤ 500 then f_X10_steelOf_J207 v1 v2 v4 v6 s0 m else f_X10_steelOf_J207 v1 v2 v4 v6 500 m) else f_X10_steelOf_J207 v1 v2 v4 v6 0 m)
def f_X10_steelOf_J179 (v1 : Int) (v2 : Int) (v4 : Int) (v6 : Int) (s0 : Int) (s1 : Int) (m : jMu) : Option Int :=
  f_X10_steelOf_J180 v1 v2 v4 v6 (jW (s0 + s1)) m
def f_X10_steelOf_J136 (v1 : Int) (v2 : Int) (v4 : Int) (v5 : Int) (s0 : Int) (m : jMu) : Option Int :=
  (if v5 = (-1) then (f_X10_ofBay v1 3 m).bind fun r1 => f_X10_steelOf_J180 v1 v2 v4 s0 r1 m else (if 0 ≤ jW (jW (696 + jW (4 * v5)) + 2) ∧ jW (jW (696 + jW (4 * v5)) + 2) < 2083 then (if v4 = 0 then f_X10_steelOf_J179 v1 v2 v4 s0 (m 75 (jW (jW (696 + jW (4 * v5)) + 2))) (-2) m else f_X10_steelOf_J179 v1 v2 v4 s0 (m 75 (jW (jW (696 + jW (4 * v5)) + 2))) 2 m) else none))
def f_X10_steelOf_L6 : Nat → Int → Int → Int → Int → Int → Int → jMu → Option Int
  | 0, _, _, _, _, _, _, _ => none
  | q + 1, v1, v2, v3, v4, v5, v6, m => (if m 75 9 ≤ v6 then (if v5 = (-1) then f_X10_steelOf_J136 v1 v2 v4 v5 0 m else (if 0 ≤ jW (jW (696 + jW (4 * v5)) + 1) ∧ jW (jW (696 + jW (4 * v5)) + 1) < 2083 then f_X10_steelOf_J136 v1 v2 v4 v5 (m 75 (jW (jW (696 + jW (4 * v5)) + 1))) m else none)) else (if 0 ≤ jW (696 + jW (4 * v6)) ∧ jW (696 + jW (4 * v6)) < 2083 then (if m 75 (jW (696 + jW (4 * v6))) = v1 then (if 0 ≤ jW (jW (696 + jW (4 * v6)) + 1) ∧ jW (jW (696 + jW (4 * v6)) + 1) < 2083 then (if v2 < m 75 (jW (jW (696 + jW (4 * v6)) + 1)) then f_X10_steelOf_L6 q v1 v2 v3 v4 v5 (jW (v6 + 1)) m else (if 0 ≤ jW (jW (696 + jW (4 * v6)) + 3) ∧ jW (jW (696 + jW (4 * v6)) + 3) < 2083 then (if m 75 (jW (jW (696 + jW (4 * v6)) + 3)) ≤ v3 then (if v5 = (-1) then f_X10_steelOf_L6 q v1 v2 v3 v4 v6 (jW (v6 + 1)) m else (if 0 ≤ jW (jW (696 + jW (4 * v6)) + 1) ∧ jW (jW (696 + jW (4 * v6)) + 1) < 2083 then (if 0 ≤ jW (jW (696 + jW (4 * v5)) + 1) ∧ jW (jW (696 + jW (4 * v5)) + 1) < 2083 then (if m 75 (jW (jW (696 + jW (4 * v6)) + 1)) < m 75 (jW (jW (696 + jW (4 * v5)) + 1)) then f_X10_steelOf_L6 q v1 v2 v3 v4 v5 (jW (v6 + 1)) m else f_X10_steelOf_L6 q v1 v2 v3 v4 v6 (jW (v6 + 1)) m) else none) else none)) else f_X10_steelOf_L6 q v1 v2 v3 v4 v5 (jW (v6 + 1)) m) else none)) else none) else f_X10_steelOf_L6 q v1 v2 v3 v4 v5 (jW (v6 + 1)) m) else none))
def f_X10_steelOf (a0 : Int) (a1 : Int) (a2 : Int) (a3 : Int) (m : jMu) : Option Int :=
  f_X10_steelOf_L6 jFU a0 a1 a2 a3 (-1) 0 m
theorem t_X10_steelOf_L243 {X : jX} (B : jB X cX10_steelOf RX10 10 SKF.length rm_X10_steelOf (some .int)) : ∀ (q : Nat) (v2 : Int) (v7 : Int) (v8 : Int) (v9 : Int) (m : jMu) (r : Int), f_X10_steelOf_L243 q v2 v7 v8 v9 m = some r → jQ X (.inl (some (jI r))) SKF m rm_X10_steelOf.cells rm_X10_steelOf.slots → J X SKF m 0 0 243 [(0, jR 74), (2, jI v2), (7, jI v7), (8, jI v8), (9, jI v9)] [] := by
  intro q
  induction q with
  | zero =>
    intro v2 v7 v8 v9 m r hf
    rw [f_X10_steelOf_L243] at hf
    cases hf
  | succ q ih =>
    intro v2 v7 v8 v9 m r hf hq
    rw [f_X10_steelOf_L243] at hf
    refine B_blk B jlkX10_ok jcl_SKF [.iload 9, .iload_n 2] (by decide +kernel) (ls' := [(0, jR 74), (2, jI v2), (7, jI v7), (8, jI v8), (9, jI v9)]) (st' := [jI v2, jI v9]) rfl (p1 := 246) rfl ?_
    refine J_icmp_ge B.1 (off := 30) (tgt := 276) (by decide +kernel) (by decide) hf (fun hf => ?_) (fun hf => ?_)
    · refine B_blk B jlkX10_ok jcl_SKF [.iload 7] (by decide +kernel) (ls' := [(0, jR 74), (2, jI v2), (7, jI v7), (8, jI v8), (9, jI v9)]) (st' := [jI v7]) rfl (p1 := 278) rfl ?_
      refine J_if_ge B.1 (off := 7) (tgt := 285) (by decide +kernel) (by decide) hf (fun hf => ?_) (fun hf => ?_)
      · refine B_blk B jlkX10_ok jcl_SKF [.iload 7] (by decide +kernel) (ls' := [(0, jR 74), (2, jI v2), (7, jI v7), (8, jI v8), (9, jI v9)]) (st' := [jI v7]) rfl (p1 := 287) rfl ?_
        cases hf
        exact B_retI B hq rfl (Nat.le_of_ble_eq_true rfl) (Nat.le_of_ble_eq_true rfl) (by decide +kernel)
      · refine B_blk B jlkX10_ok jcl_SKF [.iconst 0, .goto 5] (by decide +kernel) (ls' := [(0, jR 74), (2, jI v2), (7, jI v7), (8, jI v8), (9, jI v9)]) (st' := [jI 0]) rfl (p1 := 287) rfl ?_
        cases hf
        exact B_retI B hq rfl (Nat.le_of_ble_eq_true rfl) (Nat.le_of_ble_eq_true rfl) (by decide +kernel)
    · refine B_blk B jlkX10_ok jcl_SKF [.iload 7, .aload_n 0, .getfield 33, .iload 9] (by decide +kernel) (ls' := [(0, jR 74), (2, jI v2), (7, jI v7), (8, jI v8), (9, jI v9)]) (st' := [jI v9, jR 81, jI v7]) rfl (p1 := 257) rfl ?_
      obtain ⟨g3, hf⟩ := jgd hf
      refine K_zald (lenI := 200) B rfl rfl g3 (by decide +kernel) ?_
      refine J_if_eq B.1 (off := 8) (tgt := 266) (by decide +kernel) (by decide) hf (fun hf => ?_) (fun hf => ?_)
      · refine B_blk B jlkX10_ok jcl_SKF [.iconst 0, .isub, .istore 7, .iinc 9 1, .goto (-30)] (by decide +kernel) (ls' := [(0, jR 74), (2, jI v2), (7, jI (jW (v7 - 0))), (8, jI v8), (9, jI (jW (v9 + 1)))]) (st' := []) rfl (p1 := 243) rfl ?_
        exact ih v2 (jW (v7 - 0)) v8 (jW (v9 + 1)) m _ hf hq
      · refine B_blk B jlkX10_ok jcl_SKF [.iload 8, .goto 4, .isub, .istore 7, .iinc 9 1, .goto (-30)] (by decide +kernel) (ls' := [(0, jR 74), (2, jI v2), (7, jI (jW (v7 - v8))), (8, jI v8), (9, jI (jW (v9 + 1)))]) (st' := []) rfl (p1 := 243) rfl ?_
        exact ih v2 (jW (v7 - v8)) v8 (jW (v9 + 1)) m _ hf hq
theorem t_X10_steelOf_J207 {X : jX} (B : jB X cX10_steelOf RX10 10 SKF.length rm_X10_steelOf (some .int)) (v1 : Int) (v2 : Int) (v4 : Int) (v6 : Int) (s0 : Int) (m : jMu) (r : Int) (hf : f_X10_steelOf_J207 v1 v2 v4 v6 s0 m = some r) (hq : jQ X (.inl (some (jI r))) SKF m rm_X10_steelOf.cells rm_X10_steelOf.slots) : J X SKF m 0 0 207 [(0, jR 74), (1, jI v1), (2, jI v2), (4, jI v4), (6, jI v6)] [jI s0] := by
  unfold f_X10_steelOf_J207 at hf
  refine B_blk B jlkX10_ok jcl_SKF [.istore 7, .aload_n 0, .getfield 7, .sipush 876, .iconst 2, .aload_n 0, .iload_n 1, .iconst 0] (by decide +kernel) (ls' := [(0, jR 74), (1, jI v1), (2, jI v2), (4, jI v4), (6, jI v6), (7, jI s0)]) (st' := [jI 0, jI v1, jR 74, jI 2, jI 876, jR 75]) rfl (p1 := 220) rfl ?_
  obtain ⟨r2, h2, hf⟩ := jbd hf
  refine B_callV B (Nat.le_refl _) (μ' := m) (k' := 0) (n' := 0) ca_X10_ofBay in_X10_ofBay se_X10_ofBay lk_X10_182 (t_X10_ofBay B.tr h2) (Nat.le_refl _) rfl rfl rfl (rest := [jI 2, jI 876, jR 75]) rfl rfl (Nat.le_of_ble_eq_true rfl) (by decide +kernel) rfl rfl (st' := [jI r2, jI 2, jI 876, jR 75]) rfl ?_
  refine B_blk B jlkX10_ok jcl_SKF [.imul, .iadd, .iload 4] (by decide +kernel) (ls' := [(0, jR 74), (1, jI v1), (2, jI v2), (4, jI v4), (6, jI v6), (7, jI s0)]) (st' := [jI v4, jI (jW (876 + jW (2 * r2))), jR 75]) rfl (p1 := 227) rfl ?_
  refine J_if_eq B.1 (off := 7) (tgt := 234) (by decide +kernel) (by decide) hf (fun hf => ?_) (fun hf => ?_)
  · refine B_blk B jlkX10_ok jcl_SKF [.iconst 1, .iadd] (by decide +kernel) (ls' := [(0, jR 74), (1, jI v1), (2, jI v2), (4, jI v4), (6, jI v6), (7, jI s0)]) (st' := [jI (jW (jW (876 + jW (2 * r2)) + 1)), jR 75]) rfl (p1 := 236) rfl ?_
    obtain ⟨g4, hf⟩ := jgd hf
    refine K_iald (lenI := 2083) B rfl rfl g4 (by decide +kernel) ?_
    refine B_blk B jlkX10_ok jcl_SKF [.istore 8, .iload 6, .istore 9] (by decide +kernel) (ls' := [(0, jR 74), (1, jI v1), (2, jI v2), (4, jI v4), (6, jI v6), (7, jI s0), (8, jI (m 75 (jW (jW (876 + jW (2 * r2)) + 1)))), (9, jI v6)]) (st' := []) rfl (p1 := 243) rfl ?_
    refine J_pick [0, 2, 5, 6, 7] (ls' := [(0, jR 74), (2, jI v2), (7, jI s0), (8, jI (m 75 (jW (jW (876 + jW (2 * r2)) + 1)))), (9, jI v6)]) rfl ?_
    exact t_X10_steelOf_L243 B jFU v2 s0 (m 75 (jW (jW (876 + jW (2 * r2)) + 1))) v6 m _ hf hq
  · refine B_blk B jlkX10_ok jcl_SKF [.iconst 0, .goto 4, .iadd] (by decide +kernel) (ls' := [(0, jR 74), (1, jI v1), (2, jI v2), (4, jI v4), (6, jI v6), (7, jI s0)]) (st' := [jI (jW (jW (876 + jW (2 * r2)) + 0)), jR 75]) rfl (p1 := 236) rfl ?_
    obtain ⟨g5, hf⟩ := jgd hf
    refine K_iald (lenI := 2083) B rfl rfl g5 (by decide +kernel) ?_
    refine B_blk B jlkX10_ok jcl_SKF [.istore 8, .iload 6, .istore 9] (by decide +kernel) (ls' := [(0, jR 74), (1, jI v1), (2, jI v2), (4, jI v4), (6, jI v6), (7, jI s0), (8, jI (m 75 (jW (jW (876 + jW (2 * r2)) + 0)))), (9, jI v6)]) (st' := []) rfl (p1 := 243) rfl ?_
    refine J_pick [0, 2, 5, 6, 7] (ls' := [(0, jR 74), (2, jI v2), (7, jI s0), (8, jI (m 75 (jW (jW (876 + jW (2 * r2)) + 0)))), (9, jI v6)]) rfl ?_
    exact t_X10_steelOf_L243 B jFU v2 s0 (m 75 (jW (jW (876 + jW (2 * r2)) + 0))) v6 m _ hf hq
theorem t_X10_steelOf_J180 {X : jX} (B : jB X cX10_steelOf RX10 10 SKF.length rm_X10_steelOf (some .int)) (v1 : Int) (v2 : Int) (v4 : Int) (v6 : Int) (s0 : Int) (m : jMu) (r : Int) (hf : f_X10_steelOf_J180 v1 v2 v4 v6 s0 m = some r) (hq : jQ X (.inl (some (jI r))) SKF m rm_X10_steelOf.cells rm_X10_steelOf.slots) : J X SKF m 0 0 180 [(0, jR 74), (1, jI v1), (2, jI v2), (4, jI v4), (6, jI v6)] [jI s0] := by
  unfold f_X10_steelOf_J180 at hf
  refine B_blk B jlkX10_ok jcl_SKF [.istore 7, .iload 7] (by decide +kernel) (ls' := [(0, jR 74), (1, jI v1), (2, jI v2), (4, jI v4), (6, jI v6), (7, jI s0)]) (st' := [jI s0]) rfl (p1 := 184) rfl ?_
  refine J_if_ge B.1 (off := 7) (tgt := 191) (by decide +kernel) (by decide) hf (fun hf => ?_) (fun hf => ?_)
  · refine B_blk B jlkX10_ok jcl_SKF [.iload 7, .sipush 500] (by decide +kernel) (ls' := [(0, jR 74), (1, jI v1), (2, jI v2), (4, jI v4), (6, jI v6), (7, jI s0)]) (st' := [jI 500, jI s0]) rfl (p1 := 196) rfl ?_
    refine J_icmp_le B.1 (off := 9) (tgt := 205) (by decide +kernel) (by decide) hf (fun hf => ?_) (fun hf => ?_)
    · refine B_blk B jlkX10_ok jcl_SKF [.iload 7] (by decide +kernel) (ls' := [(0, jR 74), (1, jI v1), (2, jI v2), (4, jI v4), (6, jI v6), (7, jI s0)]) (st' := [jI s0]) rfl (p1 := 207) rfl ?_
      refine J_pick [0, 1, 2, 3, 4] (ls' := [(0, jR 74), (1, jI v1), (2, jI v2), (4, jI v4), (6, jI v6)]) rfl ?_
      exact t_X10_steelOf_J207 B v1 v2 v4 v6 s0 m _ hf hq
    · refine B_blk B jlkX10_ok jcl_SKF [.sipush 500, .goto 5] (by decide +kernel) (ls' := [(0, jR 74), (1, jI v1), (2, jI v2), (4, jI v4), (6, jI v6), (7, jI s0)]) (st' := [jI 500]) rfl (p1 := 207) rfl ?_
      refine J_pick [0, 1, 2, 3, 4] (ls' := [(0, jR 74), (1, jI v1), (2, jI v2), (4, jI v4), (6, jI v6)]) rfl ?_
      exact t_X10_steelOf_J207 B v1 v2 v4 v6 500 m _ hf hq
  · refine B_blk B jlkX10_ok jcl_SKF [.iconst 0, .goto 19] (by decide +kernel) (ls' := [(0, jR 74), (1, jI v1), (2, jI v2), (4, jI v4), (6, jI v6), (7, jI s0)]) (st' := [jI 0]) rfl (p1 := 207) rfl ?_
    refine J_pick [0, 1, 2, 3, 4] (ls' := [(0, jR 74), (1, jI v1), (2, jI v2), (4, jI v4), (6, jI v6)]) rfl ?_
    exact t_X10_steelOf_J207 B v1 v2 v4 v6 0 m _ hf hq
theorem t_X10_steelOf_J179 {X : jX} (B : jB X cX10_steelOf RX10 10 SKF.length rm_X10_steelOf (some .int)) (v1 : Int) (v2 : Int) (v4 : Int) (v6 : Int) (s0 : Int) (s1 : Int) (m : jMu) (r : Int) (hf : f_X10_steelOf_J179 v1 v2 v4 v6 s0 s1 m = some r) (hq : jQ X (.inl (some (jI r))) SKF m rm_X10_steelOf.cells rm_X10_steelOf.slots) : J X SKF m 0 0 179 [(0, jR 74), (1, jI v1), (2, jI v2), (4, jI v4), (6, jI v6)] [jI s1, jI s0] := by
  unfold f_X10_steelOf_J179 at hf
  refine B_blk B jlkX10_ok jcl_SKF [.iadd] (by decide +kernel) (ls' := [(0, jR 74), (1, jI v1), (2, jI v2), (4, jI v4), (6, jI v6)]) (st' := [jI (jW (s0 + s1))]) rfl (p1 := 180) rfl ?_
  exact t_X10_steelOf_J180 B v1 v2 v4 v6 (jW (s0 + s1)) m _ hf hq
theorem t_X10_steelOf_J136 {X : jX} (B : jB X cX10_steelOf RX10 10 SKF.length rm_X10_steelOf (some .int)) (v1 : Int) (v2 : Int) (v4 : Int) (v5 : Int) (s0 : Int) (m : jMu) (r : Int) (hf : f_X10_steelOf_J136 v1 v2 v4 v5 s0 m = some r) (hq : jQ X (.inl (some (jI r))) SKF m rm_X10_steelOf.cells rm_X10_steelOf.slots) : J X SKF m 0 0 136 [(0, jR 74), (1, jI v1), (2, jI v2), (4, jI v4), (5, jI v5)] [jI s0] := by
  unfold f_X10_steelOf_J136 at hf
  refine B_blk B jlkX10_ok jcl_SKF [.istore 6, .iload 5, .iconst (-1)] (by decide +kernel) (ls' := [(0, jR 74), (1, jI v1), (2, jI v2), (4, jI v4), (5, jI v5), (6, jI s0)]) (st' := [jI (-1), jI v5]) rfl (p1 := 141) rfl ?_
  refine J_icmp_ne B.1 (off := 12) (tgt := 153) (by decide +kernel) (by decide) hf (fun hf => ?_) (fun hf => ?_)
  · refine B_blk B jlkX10_ok jcl_SKF [.aload_n 0, .iload_n 1, .iconst 3] (by decide +kernel) (ls' := [(0, jR 74), (1, jI v1), (2, jI v2), (4, jI v4), (5, jI v5), (6, jI s0)]) (st' := [jI 3, jI v1, jR 74]) rfl (p1 := 147) rfl ?_
    obtain ⟨r1, h1, hf⟩ := jbd hf
    refine B_callV B (Nat.le_refl _) (μ' := m) (k' := 0) (n' := 0) ca_X10_ofBay in_X10_ofBay se_X10_ofBay lk_X10_182 (t_X10_ofBay B.tr h1) (Nat.le_refl _) rfl rfl rfl (rest := []) rfl rfl (Nat.le_of_ble_eq_true rfl) (by decide +kernel) rfl rfl (st' := [jI r1]) rfl ?_
    refine B_blk B jlkX10_ok jcl_SKF [.goto 30] (by decide +kernel) (ls' := [(0, jR 74), (1, jI v1), (2, jI v2), (4, jI v4), (5, jI v5), (6, jI s0)]) (st' := [jI r1]) rfl (p1 := 180) rfl ?_
    refine J_pick [0, 1, 2, 3, 5] (ls' := [(0, jR 74), (1, jI v1), (2, jI v2), (4, jI v4), (6, jI s0)]) rfl ?_
    exact t_X10_steelOf_J180 B v1 v2 v4 s0 r1 m _ hf hq
  · refine B_blk B jlkX10_ok jcl_SKF [.aload_n 0, .getfield 7, .sipush 696, .iconst 4, .iload 5, .imul, .iadd, .iconst 2, .iadd] (by decide +kernel) (ls' := [(0, jR 74), (1, jI v1), (2, jI v2), (4, jI v4), (5, jI v5), (6, jI s0)]) (st' := [jI (jW (jW (696 + jW (4 * v5)) + 2)), jR 75]) rfl (p1 := 167) rfl ?_
    obtain ⟨g6, hf⟩ := jgd hf
    refine K_iald (lenI := 2083) B rfl rfl g6 (by decide +kernel) ?_
    refine B_blk B jlkX10_ok jcl_SKF [.iload 4] (by decide +kernel) (ls' := [(0, jR 74), (1, jI v1), (2, jI v2), (4, jI v4), (5, jI v5), (6, jI s0)]) (st' := [jI v4, jI (m 75 (jW (jW (696 + jW (4 * v5)) + 2)))]) rfl (p1 := 170) rfl ?_
    refine J_if_eq B.1 (off := 7) (tgt := 177) (by decide +kernel) (by decide) hf (fun hf => ?_) (fun hf => ?_)
    · refine B_blk B jlkX10_ok jcl_SKF [.bipush (-2)] (by decide +kernel) (ls' := [(0, jR 74), (1, jI v1), (2, jI v2), (4, jI v4), (5, jI v5), (6, jI s0)]) (st' := [jI (-2), jI (m 75 (jW (jW (696 + jW (4 * v5)) + 2)))]) rfl (p1 := 179) rfl ?_
      refine J_pick [0, 1, 2, 3, 5] (ls' := [(0, jR 74), (1, jI v1), (2, jI v2), (4, jI v4), (6, jI s0)]) rfl ?_
      exact t_X10_steelOf_J179 B v1 v2 v4 s0 (m 75 (jW (jW (696 + jW (4 * v5)) + 2))) (-2) m _ hf hq
    · refine B_blk B jlkX10_ok jcl_SKF [.iconst 2, .goto 5] (by decide +kernel) (ls' := [(0, jR 74), (1, jI v1), (2, jI v2), (4, jI v4), (5, jI v5), (6, jI s0)]) (st' := [jI 2, jI (m 75 (jW (jW (696 + jW (4 * v5)) + 2)))]) rfl (p1 := 179) rfl ?_
      refine J_pick [0, 1, 2, 3, 5] (ls' := [(0, jR 74), (1, jI v1), (2, jI v2), (4, jI v4), (6, jI s0)]) rfl ?_
      exact t_X10_steelOf_J179 B v1 v2 v4 s0 (m 75 (jW (jW (696 + jW (4 * v5)) + 2))) 2 m _ hf hq
theorem t_X10_steelOf_L6 {X : jX} (B : jB X cX10_steelOf RX10 10 SKF.length rm_X10_steelOf (some .int)) : ∀ (q : Nat) (v1 : Int) (v2 : Int) (v3 : Int) (v4 : Int) (v5 : Int) (v6 : Int) (m : jMu) (r : Int), f_X10_steelOf_L6 q v1 v2 v3 v4 v5 v6 m = some r → jQ X (.inl (some (jI r))) SKF m rm_X10_steelOf.cells rm_X10_steelOf.slots → J X SKF m 0 0 6 [(0, jR 74), (1, jI v1), (2, jI v2), (3, jI v3), (4, jI v4), (5, jI v5), (6, jI v6)] [] := by
  intro q
  induction q with
  | zero =>
    intro v1 v2 v3 v4 v5 v6 m r hf
    rw [f_X10_steelOf_L6] at hf
    cases hf
  | succ q ih =>
    intro v1 v2 v3 v4 v5 v6 m r hf hq
    rw [f_X10_steelOf_L6] at hf
    refine B_blk B jlkX10_ok jcl_SKF [.iload 6, .aload_n 0, .getfield 7, .bipush 9] (by decide +kernel) (ls' := [(0, jR 74), (1, jI v1), (2, jI v2), (3, jI v3), (4, jI v4), (5, jI v5), (6, jI v6)]) (st' := [jI 9, jR 75, jI v6]) rfl (p1 := 14) rfl ?_
    refine K_iald (lenI := 2083) B rfl rfl (by decide) (by decide +kernel) ?_
    refine J_icmp_ge B.1 (off := 96) (tgt := 111) (by decide +kernel) (by decide) hf (fun hf => ?_) (fun hf => ?_)
    · refine B_blk B jlkX10_ok jcl_SKF [.iload 5, .iconst (-1)] (by decide +kernel) (ls' := [(0, jR 74), (1, jI v1), (2, jI v2), (3, jI v3), (4, jI v4), (5, jI v5), (6, jI v6)]) (st' := [jI (-1), jI v5]) rfl (p1 := 114) rfl ?_
      refine J_icmp_ne B.1 (off := 7) (tgt := 121) (by decide +kernel) (by decide) hf (fun hf => ?_) (fun hf => ?_)
      · refine B_blk B jlkX10_ok jcl_SKF [.iconst 0, .goto 18] (by decide +kernel) (ls' := [(0, jR 74), (1, jI v1), (2, jI v2), (3, jI v3), (4, jI v4), (5, jI v5), (6, jI v6)]) (st' := [jI 0]) rfl (p1 := 136) rfl ?_
        refine J_pick [0, 1, 2, 4, 5] (ls' := [(0, jR 74), (1, jI v1), (2, jI v2), (4, jI v4), (5, jI v5)]) rfl ?_
        exact t_X10_steelOf_J136 B v1 v2 v4 v5 0 m _ hf hq
      · refine B_blk B jlkX10_ok jcl_SKF [.aload_n 0, .getfield 7, .sipush 696, .iconst 4, .iload 5, .imul, .iadd, .iconst 1, .iadd] (by decide +kernel) (ls' := [(0, jR 74), (1, jI v1), (2, jI v2), (3, jI v3), (4, jI v4), (5, jI v5), (6, jI v6)]) (st' := [jI (jW (jW (696 + jW (4 * v5)) + 1)), jR 75]) rfl (p1 := 135) rfl ?_
        obtain ⟨g7, hf⟩ := jgd hf
        refine K_iald (lenI := 2083) B rfl rfl g7 (by decide +kernel) ?_
        refine J_pick [0, 1, 2, 4, 5] (ls' := [(0, jR 74), (1, jI v1), (2, jI v2), (4, jI v4), (5, jI v5)]) rfl ?_
        exact t_X10_steelOf_J136 B v1 v2 v4 v5 (m 75 (jW (jW (696 + jW (4 * v5)) + 1))) m _ hf hq
    · refine B_blk B jlkX10_ok jcl_SKF [.sipush 696, .iconst 4, .iload 6, .imul, .iadd, .istore 7, .aload_n 0, .getfield 7, .iload 7] (by decide +kernel) (ls' := [(0, jR 74), (1, jI v1), (2, jI v2), (3, jI v3), (4, jI v4), (5, jI v5), (6, jI v6), (7, jI (jW (696 + jW (4 * v6))))]) (st' := [jI (jW (696 + jW (4 * v6))), jR 75]) rfl (p1 := 34) rfl ?_
      obtain ⟨g12, hf⟩ := jgd hf
      refine K_iald (lenI := 2083) B rfl rfl g12 (by decide +kernel) ?_
      refine B_blk B jlkX10_ok jcl_SKF [.iload_n 1] (by decide +kernel) (ls' := [(0, jR 74), (1, jI v1), (2, jI v2), (3, jI v3), (4, jI v4), (5, jI v5), (6, jI v6), (7, jI (jW (696 + jW (4 * v6))))]) (st' := [jI v1, jI (m 75 (jW (696 + jW (4 * v6))))]) rfl (p1 := 36) rfl ?_
      refine J_icmp_ne B.1 (off := 69) (tgt := 105) (by decide +kernel) (by decide) hf (fun hf => ?_) (fun hf => ?_)
      · refine B_blk B jlkX10_ok jcl_SKF [.aload_n 0, .getfield 7, .iload 7, .iconst 1, .iadd] (by decide +kernel) (ls' := [(0, jR 74), (1, jI v1), (2, jI v2), (3, jI v3), (4, jI v4), (5, jI v5), (6, jI v6), (7, jI (jW (696 + jW (4 * v6))))]) (st' := [jI (jW (jW (696 + jW (4 * v6)) + 1)), jR 75]) rfl (p1 := 47) rfl ?_
        obtain ⟨g11, hf⟩ := jgd hf
        refine K_iald (lenI := 2083) B rfl rfl g11 (by decide +kernel) ?_
        refine B_blk B jlkX10_ok jcl_SKF [.iload_n 2] (by decide +kernel) (ls' := [(0, jR 74), (1, jI v1), (2, jI v2), (3, jI v3), (4, jI v4), (5, jI v5), (6, jI v6), (7, jI (jW (696 + jW (4 * v6))))]) (st' := [jI v2, jI (m 75 (jW (jW (696 + jW (4 * v6)) + 1)))]) rfl (p1 := 49) rfl ?_
        refine J_icmp_gt B.1 (off := 56) (tgt := 105) (by decide +kernel) (by decide) hf (fun hf => ?_) (fun hf => ?_)
        · refine B_blk B jlkX10_ok jcl_SKF [.iinc 6 1, .goto (-102)] (by decide +kernel) (ls' := [(0, jR 74), (1, jI v1), (2, jI v2), (3, jI v3), (4, jI v4), (5, jI v5), (6, jI (jW (v6 + 1))), (7, jI (jW (696 + jW (4 * v6))))]) (st' := []) rfl (p1 := 6) rfl ?_
          refine J_pick [0, 1, 2, 3, 4, 5, 6] (ls' := [(0, jR 74), (1, jI v1), (2, jI v2), (3, jI v3), (4, jI v4), (5, jI v5), (6, jI (jW (v6 + 1)))]) rfl ?_
          exact ih v1 v2 v3 v4 v5 (jW (v6 + 1)) m _ hf hq
        · refine B_blk B jlkX10_ok jcl_SKF [.aload_n 0, .getfield 7, .iload 7, .iconst 3, .iadd] (by decide +kernel) (ls' := [(0, jR 74), (1, jI v1), (2, jI v2), (3, jI v3), (4, jI v4), (5, jI v5), (6, jI v6), (7, jI (jW (696 + jW (4 * v6))))]) (st' := [jI (jW (jW (696 + jW (4 * v6)) + 3)), jR 75]) rfl (p1 := 60) rfl ?_
          obtain ⟨g10, hf⟩ := jgd hf
          refine K_iald (lenI := 2083) B rfl rfl g10 (by decide +kernel) ?_
          refine B_blk B jlkX10_ok jcl_SKF [.iload_n 3] (by decide +kernel) (ls' := [(0, jR 74), (1, jI v1), (2, jI v2), (3, jI v3), (4, jI v4), (5, jI v5), (6, jI v6), (7, jI (jW (696 + jW (4 * v6))))]) (st' := [jI v3, jI (m 75 (jW (jW (696 + jW (4 * v6)) + 3)))]) rfl (p1 := 62) rfl ?_
          refine J_icmp_le B.1 (off := 6) (tgt := 68) (by decide +kernel) (by decide) hf (fun hf => ?_) (fun hf => ?_)
          · refine B_blk B jlkX10_ok jcl_SKF [.iload 5, .iconst (-1)] (by decide +kernel) (ls' := [(0, jR 74), (1, jI v1), (2, jI v2), (3, jI v3), (4, jI v4), (5, jI v5), (6, jI v6), (7, jI (jW (696 + jW (4 * v6))))]) (st' := [jI (-1), jI v5]) rfl (p1 := 71) rfl ?_
            refine J_icmp_eq B.1 (off := 30) (tgt := 101) (by decide +kernel) (by decide) hf (fun hf => ?_) (fun hf => ?_)
            · refine B_blk B jlkX10_ok jcl_SKF [.iload 6, .istore 5, .iinc 6 1, .goto (-102)] (by decide +kernel) (ls' := [(0, jR 74), (1, jI v1), (2, jI v2), (3, jI v3), (4, jI v4), (5, jI v6), (6, jI (jW (v6 + 1))), (7, jI (jW (696 + jW (4 * v6))))]) (st' := []) rfl (p1 := 6) rfl ?_
              refine J_pick [0, 1, 2, 3, 4, 5, 6] (ls' := [(0, jR 74), (1, jI v1), (2, jI v2), (3, jI v3), (4, jI v4), (5, jI v6), (6, jI (jW (v6 + 1)))]) rfl ?_
              exact ih v1 v2 v3 v4 v6 (jW (v6 + 1)) m _ hf hq
            · refine B_blk B jlkX10_ok jcl_SKF [.aload_n 0, .getfield 7, .iload 7, .iconst 1, .iadd] (by decide +kernel) (ls' := [(0, jR 74), (1, jI v1), (2, jI v2), (3, jI v3), (4, jI v4), (5, jI v5), (6, jI v6), (7, jI (jW (696 + jW (4 * v6))))]) (st' := [jI (jW (jW (696 + jW (4 * v6)) + 1)), jR 75]) rfl (p1 := 82) rfl ?_
              obtain ⟨g9, hf⟩ := jgd hf
              refine K_iald (lenI := 2083) B rfl rfl g9 (by decide +kernel) ?_
              refine B_blk B jlkX10_ok jcl_SKF [.aload_n 0, .getfield 7, .sipush 696, .iconst 4, .iload 5, .imul, .iadd, .iconst 1, .iadd] (by decide +kernel) (ls' := [(0, jR 74), (1, jI v1), (2, jI v2), (3, jI v3), (4, jI v4), (5, jI v5), (6, jI v6), (7, jI (jW (696 + jW (4 * v6))))]) (st' := [jI (jW (jW (696 + jW (4 * v5)) + 1)), jR 75, jI (m 75 (jW (jW (696 + jW (4 * v6)) + 1)))]) rfl (p1 := 97) rfl ?_
              obtain ⟨g8, hf⟩ := jgd hf
              refine K_iald (lenI := 2083) B rfl rfl g8 (by decide +kernel) ?_
              refine J_icmp_lt B.1 (off := 7) (tgt := 105) (by decide +kernel) (by decide) hf (fun hf => ?_) (fun hf => ?_)
              · refine B_blk B jlkX10_ok jcl_SKF [.iinc 6 1, .goto (-102)] (by decide +kernel) (ls' := [(0, jR 74), (1, jI v1), (2, jI v2), (3, jI v3), (4, jI v4), (5, jI v5), (6, jI (jW (v6 + 1))), (7, jI (jW (696 + jW (4 * v6))))]) (st' := []) rfl (p1 := 6) rfl ?_
                refine J_pick [0, 1, 2, 3, 4, 5, 6] (ls' := [(0, jR 74), (1, jI v1), (2, jI v2), (3, jI v3), (4, jI v4), (5, jI v5), (6, jI (jW (v6 + 1)))]) rfl ?_
                exact ih v1 v2 v3 v4 v5 (jW (v6 + 1)) m _ hf hq
              · refine B_blk B jlkX10_ok jcl_SKF [.iload 6, .istore 5, .iinc 6 1, .goto (-102)] (by decide +kernel) (ls' := [(0, jR 74), (1, jI v1), (2, jI v2), (3, jI v3), (4, jI v4), (5, jI v6), (6, jI (jW (v6 + 1))), (7, jI (jW (696 + jW (4 * v6))))]) (st' := []) rfl (p1 := 6) rfl ?_
                refine J_pick [0, 1, 2, 3, 4, 5, 6] (ls' := [(0, jR 74), (1, jI v1), (2, jI v2), (3, jI v3), (4, jI v4), (5, jI v6), (6, jI (jW (v6 + 1)))]) rfl ?_
                exact ih v1 v2 v3 v4 v6 (jW (v6 + 1)) m _ hf hq
          · refine B_blk B jlkX10_ok jcl_SKF [.goto 40, .iinc 6 1, .goto (-102)] (by decide +kernel) (ls' := [(0, jR 74), (1, jI v1), (2, jI v2), (3, jI v3), (4, jI v4), (5, jI v5), (6, jI (jW (v6 + 1))), (7, jI (jW (696 + jW (4 * v6))))]) (st' := []) rfl (p1 := 6) rfl ?_
            refine J_pick [0, 1, 2, 3, 4, 5, 6] (ls' := [(0, jR 74), (1, jI v1), (2, jI v2), (3, jI v3), (4, jI v4), (5, jI v5), (6, jI (jW (v6 + 1)))]) rfl ?_
            exact ih v1 v2 v3 v4 v5 (jW (v6 + 1)) m _ hf hq
      · refine B_blk B jlkX10_ok jcl_SKF [.iinc 6 1, .goto (-102)] (by decide +kernel) (ls' := [(0, jR 74), (1, jI v1), (2, jI v2), (3, jI v3), (4, jI v4), (5, jI v5), (6, jI (jW (v6 + 1))), (7, jI (jW (696 + jW (4 * v6))))]) (st' := []) rfl (p1 := 6) rfl ?_
        refine J_pick [0, 1, 2, 3, 4, 5, 6] (ls' := [(0, jR 74), (1, jI v1), (2, jI v2), (3, jI v3), (4, jI v4), (5, jI v5), (6, jI (jW (v6 + 1)))]) rfl ?_
        exact ih v1 v2 v3 v4 v5 (jW (v6 + 1)) m _ hf hq
theorem t_X10_steelOf {l : Launch} {G : jG} (hl : l.stackTraces = false) {a0 : Int} {a1 : Int} {a2 : Int} {a3 : Int} {m : jMu} {r : Int} (hf : f_X10_steelOf a0 a1 a2 a3 m = some r) : jCt l G yX10_steelOf (.code yX10_steelOf cX10_steelOf 10 (some .int) :: jWG) rm_X10_steelOf [jR 74, jI a0, jI a1, jI a2, jI a3] SKF m (.inl (some (jI r))) SKF m := by
  unfold f_X10_steelOf at hf
  refine J_start (ls0 := [(0, jR 74), (1, jI a0), (2, jI a1), (3, jI a2), (4, jI a3)]) (by decide +kernel) hl (Nat.le_of_ble_eq_true rfl) rfl fun X C hN hn hR hr hnm hno hq => ?_
  have B : jB X cX10_steelOf RX10 10 SKF.length rm_X10_steelOf (some .int) := ⟨C, hN, Nat.le_of_eq hn, hR, hr⟩
  refine B_blk B jlkX10_ok jcl_SKF [.iconst (-1), .istore 5, .iconst 0, .istore 6] (by decide +kernel) (ls' := [(0, jR 74), (1, jI a0), (2, jI a1), (3, jI a2), (4, jI a3), (5, jI (-1)), (6, jI 0)]) (st' := []) rfl (p1 := 6) rfl ?_
  exact t_X10_steelOf_L6 B jFU a0 a1 a2 a3 (-1) 0 m _ hf hq

def rm_X10_steel : Room := { frames := 71, cells := 0, slots := 0, locals := 1043 }
def f_X10_steel_J28 (v1 : Int) (v2 : Int) (v3 : Int) (v4 : Int) (s1 : Int) (m : jMu) : Option (Int × jMu) :=
  (jlt (jup m 74 0 s1) fun m2 => (if m2 74 0 ≤ 0 then (f_X10_bares v1 v3 m2).bind fun r3 => (f_X10_steelOf v1 v2 v3 v4 r3).bind fun r4 => some (r4, r3) else some (0, m2)))
def f_X10_steel_J23 (v1 : Int) (v2 : Int) (v3 : Int) (v4 : Int) (m : jMu) : Option (Int × jMu) :=
  f_X10_steel_J28 v1 v2 v3 v4 1 m
def f_X10_steel (a0 : Int) (a1 : Int) (a2 : Int) (a3 : Int) (m : jMu) : Option (Int × jMu) :=
  (f_X10_isBay a0 m).bind fun r1 => (if r1 = 0 then f_X10_steel_J23 a0 a1 a2 a3 m else (f_X10_isDay a1).bind fun r5 => (if r5 = 0 then f_X10_steel_J23 a0 a1 a2 a3 m else (f_X10_isDay a2).bind fun r6 => (if r6 = 0 then f_X10_steel_J23 a0 a1 a2 a3 m else f_X10_steel_J28 a0 a1 a2 a3 0 m)))
theorem t_X10_steel_J28 {X : jX} (B : jB X cX10_steel RX10 5 SKF.length rm_X10_steel (some .int)) (v1 : Int) (v2 : Int) (v3 : Int) (v4 : Int) (s1 : Int) (m : jMu) (r : (Int × jMu)) (hf : f_X10_steel_J28 v1 v2 v3 v4 s1 m = some r) (hq : jQ X (.inl (some (jI r.1))) SKF r.2 rm_X10_steel.cells rm_X10_steel.slots) : J X SKF m 0 0 28 [(0, jR 74), (1, jI v1), (2, jI v2), (3, jI v3), (4, jI v4)] [jI s1, jR 74] := by
  unfold f_X10_steel_J28 at hf
  refine K_putI (jI' := 0) B jp_X10_51 rfl rfl rfl (by decide +kernel) ?_
  obtain ⟨m2, hm2, hf⟩ := jlt_s hf
  rw [hm2]
  refine B_blk B jlkX10_ok jcl_SKF [.aload_n 0, .getfield 51] (by decide +kernel) (ls' := [(0, jR 74), (1, jI v1), (2, jI v2), (3, jI v3), (4, jI v4)]) (st' := [jI (m2 74 0)]) rfl (p1 := 35) rfl ?_
  refine J_if_le B.1 (off := 5) (tgt := 40) (by decide +kernel) (by decide) hf (fun hf => ?_) (fun hf => ?_)
  · refine B_blk B jlkX10_ok jcl_SKF [.aload_n 0, .iload_n 1, .iload_n 3] (by decide +kernel) (ls' := [(0, jR 74), (1, jI v1), (2, jI v2), (3, jI v3), (4, jI v4)]) (st' := [jI v3, jI v1, jR 74]) rfl (p1 := 43) rfl ?_
    obtain ⟨r3, h3, hf⟩ := jbd hf
    refine B_callV B (Nat.le_refl _) (μ' := r3) (k' := 0) (n' := 0) ca_X10_bares in_X10_bares se_X10_bares lk_X10_256 (t_X10_bares B.tr h3) (Nat.le_refl _) rfl rfl rfl (rest := []) rfl rfl (Nat.le_of_ble_eq_true rfl) (by decide +kernel) rfl rfl (st' := []) rfl ?_
    refine B_blk B jlkX10_ok jcl_SKF [.aload_n 0, .iload_n 1, .iload_n 2, .iload_n 3, .iload 4] (by decide +kernel) (ls' := [(0, jR 74), (1, jI v1), (2, jI v2), (3, jI v3), (4, jI v4)]) (st' := [jI v4, jI v3, jI v2, jI v1, jR 74]) rfl (p1 := 52) rfl ?_
    obtain ⟨r4, h4, hf⟩ := jbd hf
    refine B_callV B (Nat.le_refl _) (μ' := r3) (k' := 0) (n' := 0) ca_X10_steelOf in_X10_steelOf se_X10_steelOf lk_X10_259 (t_X10_steelOf B.tr h4) (Nat.le_refl _) rfl rfl rfl (rest := []) rfl rfl (Nat.le_of_ble_eq_true rfl) (by decide +kernel) rfl rfl (st' := [jI r4]) rfl ?_
    cases hf
    exact B_retI B hq rfl (Nat.le_of_ble_eq_true rfl) (Nat.le_of_ble_eq_true rfl) (by decide +kernel)
  · refine B_blk B jlkX10_ok jcl_SKF [.iconst 0] (by decide +kernel) (ls' := [(0, jR 74), (1, jI v1), (2, jI v2), (3, jI v3), (4, jI v4)]) (st' := [jI 0]) rfl (p1 := 39) rfl ?_
    cases hf
    exact B_retI B hq rfl (Nat.le_of_ble_eq_true rfl) (Nat.le_of_ble_eq_true rfl) (by decide +kernel)
theorem t_X10_steel_J23 {X : jX} (B : jB X cX10_steel RX10 5 SKF.length rm_X10_steel (some .int)) (v1 : Int) (v2 : Int) (v3 : Int) (v4 : Int) (m : jMu) (r : (Int × jMu)) (hf : f_X10_steel_J23 v1 v2 v3 v4 m = some r) (hq : jQ X (.inl (some (jI r.1))) SKF r.2 rm_X10_steel.cells rm_X10_steel.slots) : J X SKF m 0 0 23 [(0, jR 74), (1, jI v1), (2, jI v2), (3, jI v3), (4, jI v4)] [jR 74] := by
  unfold f_X10_steel_J23 at hf
  refine B_blk B jlkX10_ok jcl_SKF [.iconst 1, .goto 4] (by decide +kernel) (ls' := [(0, jR 74), (1, jI v1), (2, jI v2), (3, jI v3), (4, jI v4)]) (st' := [jI 1, jR 74]) rfl (p1 := 28) rfl ?_
  exact t_X10_steel_J28 B v1 v2 v3 v4 1 m _ hf hq
theorem t_X10_steel {l : Launch} {G : jG} (hl : l.stackTraces = false) {a0 : Int} {a1 : Int} {a2 : Int} {a3 : Int} {m : jMu} {r : (Int × jMu)} (hf : f_X10_steel a0 a1 a2 a3 m = some r) : jCt l G yX10_steel (.code yX10_steel cX10_steel 5 (some .int) :: jWG) rm_X10_steel [jR 74, jI a0, jI a1, jI a2, jI a3] SKF m (.inl (some (jI r.1))) SKF r.2 := by
  unfold f_X10_steel at hf
  refine J_start (ls0 := [(0, jR 74), (1, jI a0), (2, jI a1), (3, jI a2), (4, jI a3)]) (by decide +kernel) hl (Nat.le_of_ble_eq_true rfl) rfl fun X C hN hn hR hr hnm hno hq => ?_
  have B : jB X cX10_steel RX10 5 SKF.length rm_X10_steel (some .int) := ⟨C, hN, Nat.le_of_eq hn, hR, hr⟩
  refine B_blk B jlkX10_ok jcl_SKF [.aload_n 0, .aload_n 0, .iload_n 1] (by decide +kernel) (ls' := [(0, jR 74), (1, jI a0), (2, jI a1), (3, jI a2), (4, jI a3)]) (st' := [jI a0, jR 74, jR 74]) rfl (p1 := 3) rfl ?_
  obtain ⟨r1, h1, hf⟩ := jbd hf
  refine B_callV B (Nat.le_refl _) (μ' := m) (k' := 0) (n' := 0) ca_X10_isBay in_X10_isBay se_X10_isBay lk_X10_206 (t_X10_isBay B.tr h1) (Nat.le_refl _) rfl rfl rfl (rest := [jR 74]) rfl rfl (Nat.le_of_ble_eq_true rfl) (by decide +kernel) rfl rfl (st' := [jI r1, jR 74]) rfl ?_
  refine J_if_eq B.1 (off := 17) (tgt := 23) (by decide +kernel) (by decide) hf (fun hf => ?_) (fun hf => ?_)
  · exact t_X10_steel_J23 B a0 a1 a2 a3 m _ hf hq
  · refine B_blk B jlkX10_ok jcl_SKF [.iload_n 2] (by decide +kernel) (ls' := [(0, jR 74), (1, jI a0), (2, jI a1), (3, jI a2), (4, jI a3)]) (st' := [jI a1, jR 74]) rfl (p1 := 10) rfl ?_
    obtain ⟨r5, h5, hf⟩ := jbd hf
    refine B_callS B (Nat.le_refl _) (μ' := m) (k' := 0) (n' := 0) ca_X10_isDay sa_X10_isDay lk_X10_209 (t_X10_isDay B.tr jcl_SKF h5) (Nat.le_refl _) rfl (rest := [jR 74]) rfl rfl (Nat.le_of_ble_eq_true rfl) (by decide +kernel) rfl rfl (st' := [jI r5, jR 74]) rfl ?_
    refine J_if_eq B.1 (off := 10) (tgt := 23) (by decide +kernel) (by decide) hf (fun hf => ?_) (fun hf => ?_)
    · exact t_X10_steel_J23 B a0 a1 a2 a3 m _ hf hq
    · refine B_blk B jlkX10_ok jcl_SKF [.iload_n 3] (by decide +kernel) (ls' := [(0, jR 74), (1, jI a0), (2, jI a1), (3, jI a2), (4, jI a3)]) (st' := [jI a2, jR 74]) rfl (p1 := 17) rfl ?_
      obtain ⟨r6, h6, hf⟩ := jbd hf
      refine B_callS B (Nat.le_refl _) (μ' := m) (k' := 0) (n' := 0) ca_X10_isDay sa_X10_isDay lk_X10_209 (t_X10_isDay B.tr jcl_SKF h6) (Nat.le_refl _) rfl (rest := [jR 74]) rfl rfl (Nat.le_of_ble_eq_true rfl) (by decide +kernel) rfl rfl (st' := [jI r6, jR 74]) rfl ?_
      refine J_if_ne B.1 (off := 7) (tgt := 27) (by decide +kernel) (by decide) hf (fun hf => ?_) (fun hf => ?_)
      · exact t_X10_steel_J23 B a0 a1 a2 a3 m _ hf hq
      · refine B_blk B jlkX10_ok jcl_SKF [.iconst 0] (by decide +kernel) (ls' := [(0, jR 74), (1, jI a0), (2, jI a1), (3, jI a2), (4, jI a3)]) (st' := [jI 0, jR 74]) rfl (p1 := 28) rfl ?_
        exact t_X10_steel_J28 B a0 a1 a2 a3 0 m _ hf hq

def rm_X10_below : Room := { frames := 71, cells := 0, slots := 0, locals := 1043 }
def f_X10_below_L57 : Nat → Int → Int → Int → Int → jMu → Option (Int × jMu)
  | 0, _, _, _, _, _ => none
  | q + 1, v1, v2, v3, v4, m => (if 200 ≤ v4 then some ((-1), m) else (f_X10_steelOf v1 v4 v3 0 m).bind fun r4 => (if v2 ≤ r4 then f_X10_below_L57 q v1 v2 v3 (jW (v4 + 1)) m else some (v4, m)))
def f_X10_below_J16 (v1 : Int) (v2 : Int) (v3 : Int) (m : jMu) : Option (Int × jMu) :=
  (jlt (jup m 74 0 1) fun m2 => (if m2 74 0 ≤ 0 then (f_X10_bares v1 v3 m2).bind fun r3 => f_X10_below_L57 jFU v1 v2 v3 0 r3 else some (0, m2)))
def f_X10_below (a0 : Int) (a1 : Int) (a2 : Int) (m : jMu) : Option (Int × jMu) :=
  (f_X10_isBay a0 m).bind fun r1 => (if r1 = 0 then f_X10_below_J16 a0 a1 a2 m else (f_X10_isDay a2).bind fun r5 => (if r5 = 0 then f_X10_below_J16 a0 a1 a2 m else (f_X10_isIn a1 1 500).bind fun r6 => (if r6 = 0 then (jlt (jup m 74 0 2) fun m7 => (if m7 74 0 ≤ 0 then (f_X10_bares a0 a2 m7).bind fun r8 => f_X10_below_L57 jFU a0 a1 a2 0 r8 else some (0, m7))) else (jlt (jup m 74 0 0) fun m9 => (if m9 74 0 ≤ 0 then (f_X10_bares a0 a2 m9).bind fun r10 => f_X10_below_L57 jFU a0 a1 a2 0 r10 else some (0, m9))))))
theorem t_X10_below_L57 {X : jX} (B : jB X cX10_below RX10 5 SKF.length rm_X10_below (some .int)) : ∀ (q : Nat) (v1 : Int) (v2 : Int) (v3 : Int) (v4 : Int) (m : jMu) (r : (Int × jMu)), f_X10_below_L57 q v1 v2 v3 v4 m = some r → jQ X (.inl (some (jI r.1))) SKF r.2 rm_X10_below.cells rm_X10_below.slots → J X SKF m 0 0 57 [(0, jR 74), (1, jI v1), (2, jI v2), (3, jI v3), (4, jI v4)] [] := by
  intro q
  induction q with
  | zero =>
    intro v1 v2 v3 v4 m r hf
    rw [f_X10_below_L57] at hf
    cases hf
  | succ q ih =>
    intro v1 v2 v3 v4 m r hf hq
    rw [f_X10_below_L57] at hf
    refine B_blk B jlkX10_ok jcl_SKF [.iload 4, .sipush 200] (by decide +kernel) (ls' := [(0, jR 74), (1, jI v1), (2, jI v2), (3, jI v3), (4, jI v4)]) (st' := [jI 200, jI v4]) rfl (p1 := 62) rfl ?_
    refine J_icmp_ge B.1 (off := 25) (tgt := 87) (by decide +kernel) (by decide) hf (fun hf => ?_) (fun hf => ?_)
    · refine B_blk B jlkX10_ok jcl_SKF [.iconst (-1)] (by decide +kernel) (ls' := [(0, jR 74), (1, jI v1), (2, jI v2), (3, jI v3), (4, jI v4)]) (st' := [jI (-1)]) rfl (p1 := 88) rfl ?_
      cases hf
      exact B_retI B hq rfl (Nat.le_of_ble_eq_true rfl) (Nat.le_of_ble_eq_true rfl) (by decide +kernel)
    · refine B_blk B jlkX10_ok jcl_SKF [.aload_n 0, .iload_n 1, .iload 4, .iload_n 3, .iconst 0] (by decide +kernel) (ls' := [(0, jR 74), (1, jI v1), (2, jI v2), (3, jI v3), (4, jI v4)]) (st' := [jI 0, jI v3, jI v4, jI v1, jR 74]) rfl (p1 := 71) rfl ?_
      obtain ⟨r4, h4, hf⟩ := jbd hf
      refine B_callV B (Nat.le_refl _) (μ' := m) (k' := 0) (n' := 0) ca_X10_steelOf in_X10_steelOf se_X10_steelOf lk_X10_259 (t_X10_steelOf B.tr h4) (Nat.le_refl _) rfl rfl rfl (rest := []) rfl rfl (Nat.le_of_ble_eq_true rfl) (by decide +kernel) rfl rfl (st' := [jI r4]) rfl ?_
      refine B_blk B jlkX10_ok jcl_SKF [.iload_n 2] (by decide +kernel) (ls' := [(0, jR 74), (1, jI v1), (2, jI v2), (3, jI v3), (4, jI v4)]) (st' := [jI v2, jI r4]) rfl (p1 := 75) rfl ?_
      refine J_icmp_ge B.1 (off := 6) (tgt := 81) (by decide +kernel) (by decide) hf (fun hf => ?_) (fun hf => ?_)
      · refine B_blk B jlkX10_ok jcl_SKF [.iinc 4 1, .goto (-27)] (by decide +kernel) (ls' := [(0, jR 74), (1, jI v1), (2, jI v2), (3, jI v3), (4, jI (jW (v4 + 1)))]) (st' := []) rfl (p1 := 57) rfl ?_
        exact ih v1 v2 v3 (jW (v4 + 1)) m _ hf hq
      · refine B_blk B jlkX10_ok jcl_SKF [.iload 4] (by decide +kernel) (ls' := [(0, jR 74), (1, jI v1), (2, jI v2), (3, jI v3), (4, jI v4)]) (st' := [jI v4]) rfl (p1 := 80) rfl ?_
        cases hf
        exact B_retI B hq rfl (Nat.le_of_ble_eq_true rfl) (Nat.le_of_ble_eq_true rfl) (by decide +kernel)
theorem t_X10_below_J16 {X : jX} (B : jB X cX10_below RX10 5 SKF.length rm_X10_below (some .int)) (v1 : Int) (v2 : Int) (v3 : Int) (m : jMu) (r : (Int × jMu)) (hf : f_X10_below_J16 v1 v2 v3 m = some r) (hq : jQ X (.inl (some (jI r.1))) SKF r.2 rm_X10_below.cells rm_X10_below.slots) : J X SKF m 0 0 16 [(0, jR 74), (1, jI v1), (2, jI v2), (3, jI v3)] [jR 74] := by
  unfold f_X10_below_J16 at hf
  refine B_blk B jlkX10_ok jcl_SKF [.iconst 1, .goto 19] (by decide +kernel) (ls' := [(0, jR 74), (1, jI v1), (2, jI v2), (3, jI v3)]) (st' := [jI 1, jR 74]) rfl (p1 := 36) rfl ?_
  refine K_putI (jI' := 0) B jp_X10_51 rfl rfl rfl (by decide +kernel) ?_
  obtain ⟨m2, hm2, hf⟩ := jlt_s hf
  rw [hm2]
  refine B_blk B jlkX10_ok jcl_SKF [.aload_n 0, .getfield 51] (by decide +kernel) (ls' := [(0, jR 74), (1, jI v1), (2, jI v2), (3, jI v3)]) (st' := [jI (m2 74 0)]) rfl (p1 := 43) rfl ?_
  refine J_if_le B.1 (off := 5) (tgt := 48) (by decide +kernel) (by decide) hf (fun hf => ?_) (fun hf => ?_)
  · refine B_blk B jlkX10_ok jcl_SKF [.aload_n 0, .iload_n 1, .iload_n 3] (by decide +kernel) (ls' := [(0, jR 74), (1, jI v1), (2, jI v2), (3, jI v3)]) (st' := [jI v3, jI v1, jR 74]) rfl (p1 := 51) rfl ?_
    obtain ⟨r3, h3, hf⟩ := jbd hf
    refine B_callV B (Nat.le_refl _) (μ' := r3) (k' := 0) (n' := 0) ca_X10_bares in_X10_bares se_X10_bares lk_X10_256 (t_X10_bares B.tr h3) (Nat.le_refl _) rfl rfl rfl (rest := []) rfl rfl (Nat.le_of_ble_eq_true rfl) (by decide +kernel) rfl rfl (st' := []) rfl ?_
    refine B_blk B jlkX10_ok jcl_SKF [.iconst 0, .istore 4] (by decide +kernel) (ls' := [(0, jR 74), (1, jI v1), (2, jI v2), (3, jI v3), (4, jI 0)]) (st' := []) rfl (p1 := 57) rfl ?_
    exact t_X10_below_L57 B jFU v1 v2 v3 0 r3 _ hf hq
  · refine B_blk B jlkX10_ok jcl_SKF [.iconst 0] (by decide +kernel) (ls' := [(0, jR 74), (1, jI v1), (2, jI v2), (3, jI v3)]) (st' := [jI 0]) rfl (p1 := 47) rfl ?_
    cases hf
    exact B_retI B hq rfl (Nat.le_of_ble_eq_true rfl) (Nat.le_of_ble_eq_true rfl) (by decide +kernel)
theorem t_X10_below {l : Launch} {G : jG} (hl : l.stackTraces = false) {a0 : Int} {a1 : Int} {a2 : Int} {m : jMu} {r : (Int × jMu)} (hf : f_X10_below a0 a1 a2 m = some r) : jCt l G yX10_below (.code yX10_below cX10_below 5 (some .int) :: jWG) rm_X10_below [jR 74, jI a0, jI a1, jI a2] SKF m (.inl (some (jI r.1))) SKF r.2 := by
  unfold f_X10_below at hf
  refine J_start (ls0 := [(0, jR 74), (1, jI a0), (2, jI a1), (3, jI a2)]) (by decide +kernel) hl (Nat.le_of_ble_eq_true rfl) rfl fun X C hN hn hR hr hnm hno hq => ?_
  have B : jB X cX10_below RX10 5 SKF.length rm_X10_below (some .int) := ⟨C, hN, Nat.le_of_eq hn, hR, hr⟩
  refine B_blk B jlkX10_ok jcl_SKF [.aload_n 0, .aload_n 0, .iload_n 1] (by decide +kernel) (ls' := [(0, jR 74), (1, jI a0), (2, jI a1), (3, jI a2)]) (st' := [jI a0, jR 74, jR 74]) rfl (p1 := 3) rfl ?_
  obtain ⟨r1, h1, hf⟩ := jbd hf
  refine B_callV B (Nat.le_refl _) (μ' := m) (k' := 0) (n' := 0) ca_X10_isBay in_X10_isBay se_X10_isBay lk_X10_206 (t_X10_isBay B.tr h1) (Nat.le_refl _) rfl rfl rfl (rest := [jR 74]) rfl rfl (Nat.le_of_ble_eq_true rfl) (by decide +kernel) rfl rfl (st' := [jI r1, jR 74]) rfl ?_
  refine J_if_eq B.1 (off := 10) (tgt := 16) (by decide +kernel) (by decide) hf (fun hf => ?_) (fun hf => ?_)
  · exact t_X10_below_J16 B a0 a1 a2 m _ hf hq
  · refine B_blk B jlkX10_ok jcl_SKF [.iload_n 3] (by decide +kernel) (ls' := [(0, jR 74), (1, jI a0), (2, jI a1), (3, jI a2)]) (st' := [jI a2, jR 74]) rfl (p1 := 10) rfl ?_
    obtain ⟨r5, h5, hf⟩ := jbd hf
    refine B_callS B (Nat.le_refl _) (μ' := m) (k' := 0) (n' := 0) ca_X10_isDay sa_X10_isDay lk_X10_209 (t_X10_isDay B.tr jcl_SKF h5) (Nat.le_refl _) rfl (rest := [jR 74]) rfl rfl (Nat.le_of_ble_eq_true rfl) (by decide +kernel) rfl rfl (st' := [jI r5, jR 74]) rfl ?_
    refine J_if_ne B.1 (off := 7) (tgt := 20) (by decide +kernel) (by decide) hf (fun hf => ?_) (fun hf => ?_)
    · exact t_X10_below_J16 B a0 a1 a2 m _ hf hq
    · refine B_blk B jlkX10_ok jcl_SKF [.iload_n 2, .iconst 1, .sipush 500] (by decide +kernel) (ls' := [(0, jR 74), (1, jI a0), (2, jI a1), (3, jI a2)]) (st' := [jI 500, jI 1, jI a1, jR 74]) rfl (p1 := 25) rfl ?_
      obtain ⟨r6, h6, hf⟩ := jbd hf
      refine B_callS B (Nat.le_refl _) (μ' := m) (k' := 0) (n' := 0) ca_X10_isIn sa_X10_isIn lk_X10_54 (t_X10_isIn B.tr jcl_SKF h6) (Nat.le_refl _) rfl (rest := [jR 74]) rfl rfl (Nat.le_of_ble_eq_true rfl) (by decide +kernel) rfl rfl (st' := [jI r6, jR 74]) rfl ?_
      refine J_if_ne B.1 (off := 7) (tgt := 35) (by decide +kernel) (by decide) hf (fun hf => ?_) (fun hf => ?_)
      · refine B_blk B jlkX10_ok jcl_SKF [.iconst 2, .goto 4] (by decide +kernel) (ls' := [(0, jR 74), (1, jI a0), (2, jI a1), (3, jI a2)]) (st' := [jI 2, jR 74]) rfl (p1 := 36) rfl ?_
        refine K_putI (jI' := 0) B jp_X10_51 rfl rfl rfl (by decide +kernel) ?_
        obtain ⟨m7, hm7, hf⟩ := jlt_s hf
        rw [hm7]
        refine B_blk B jlkX10_ok jcl_SKF [.aload_n 0, .getfield 51] (by decide +kernel) (ls' := [(0, jR 74), (1, jI a0), (2, jI a1), (3, jI a2)]) (st' := [jI (m7 74 0)]) rfl (p1 := 43) rfl ?_
        refine J_if_le B.1 (off := 5) (tgt := 48) (by decide +kernel) (by decide) hf (fun hf => ?_) (fun hf => ?_)
        · refine B_blk B jlkX10_ok jcl_SKF [.aload_n 0, .iload_n 1, .iload_n 3] (by decide +kernel) (ls' := [(0, jR 74), (1, jI a0), (2, jI a1), (3, jI a2)]) (st' := [jI a2, jI a0, jR 74]) rfl (p1 := 51) rfl ?_
          obtain ⟨r8, h8, hf⟩ := jbd hf
          refine B_callV B (Nat.le_refl _) (μ' := r8) (k' := 0) (n' := 0) ca_X10_bares in_X10_bares se_X10_bares lk_X10_256 (t_X10_bares B.tr h8) (Nat.le_refl _) rfl rfl rfl (rest := []) rfl rfl (Nat.le_of_ble_eq_true rfl) (by decide +kernel) rfl rfl (st' := []) rfl ?_
          refine B_blk B jlkX10_ok jcl_SKF [.iconst 0, .istore 4] (by decide +kernel) (ls' := [(0, jR 74), (1, jI a0), (2, jI a1), (3, jI a2), (4, jI 0)]) (st' := []) rfl (p1 := 57) rfl ?_
          exact t_X10_below_L57 B jFU a0 a1 a2 0 r8 _ hf hq
        · refine B_blk B jlkX10_ok jcl_SKF [.iconst 0] (by decide +kernel) (ls' := [(0, jR 74), (1, jI a0), (2, jI a1), (3, jI a2)]) (st' := [jI 0]) rfl (p1 := 47) rfl ?_
          cases hf
          exact B_retI B hq rfl (Nat.le_of_ble_eq_true rfl) (Nat.le_of_ble_eq_true rfl) (by decide +kernel)
      · refine B_blk B jlkX10_ok jcl_SKF [.iconst 0] (by decide +kernel) (ls' := [(0, jR 74), (1, jI a0), (2, jI a1), (3, jI a2)]) (st' := [jI 0, jR 74]) rfl (p1 := 36) rfl ?_
        refine K_putI (jI' := 0) B jp_X10_51 rfl rfl rfl (by decide +kernel) ?_
        obtain ⟨m9, hm9, hf⟩ := jlt_s hf
        rw [hm9]
        refine B_blk B jlkX10_ok jcl_SKF [.aload_n 0, .getfield 51] (by decide +kernel) (ls' := [(0, jR 74), (1, jI a0), (2, jI a1), (3, jI a2)]) (st' := [jI (m9 74 0)]) rfl (p1 := 43) rfl ?_
        refine J_if_le B.1 (off := 5) (tgt := 48) (by decide +kernel) (by decide) hf (fun hf => ?_) (fun hf => ?_)
        · refine B_blk B jlkX10_ok jcl_SKF [.aload_n 0, .iload_n 1, .iload_n 3] (by decide +kernel) (ls' := [(0, jR 74), (1, jI a0), (2, jI a1), (3, jI a2)]) (st' := [jI a2, jI a0, jR 74]) rfl (p1 := 51) rfl ?_
          obtain ⟨r10, h10, hf⟩ := jbd hf
          refine B_callV B (Nat.le_refl _) (μ' := r10) (k' := 0) (n' := 0) ca_X10_bares in_X10_bares se_X10_bares lk_X10_256 (t_X10_bares B.tr h10) (Nat.le_refl _) rfl rfl rfl (rest := []) rfl rfl (Nat.le_of_ble_eq_true rfl) (by decide +kernel) rfl rfl (st' := []) rfl ?_
          refine B_blk B jlkX10_ok jcl_SKF [.iconst 0, .istore 4] (by decide +kernel) (ls' := [(0, jR 74), (1, jI a0), (2, jI a1), (3, jI a2), (4, jI 0)]) (st' := []) rfl (p1 := 57) rfl ?_
          exact t_X10_below_L57 B jFU a0 a1 a2 0 r10 _ hf hq
        · refine B_blk B jlkX10_ok jcl_SKF [.iconst 0] (by decide +kernel) (ls' := [(0, jR 74), (1, jI a0), (2, jI a1), (3, jI a2)]) (st' := [jI 0]) rfl (p1 := 47) rfl ?_
          cases hf
          exact B_retI B hq rfl (Nat.le_of_ble_eq_true rfl) (Nat.le_of_ble_eq_true rfl) (by decide +kernel)

def rm_X10_lays : Room := { frames := 73, cells := 0, slots := 0, locals := 1058 }
def f_X10_lays_L18 : Nat → Int → Int → Int → jMu → Option (Int × Int × jMu)
  | 0, _, _, _, _ => none
  | q + 1, v1, v2, v3, m => (if 2400 ≤ v3 then some (v1, v2, m) else (f_X10_whyOf v1 v2 v3 m).bind fun r2 => (if r2.1 = 0 then (if 0 ≤ jW (jW (2400 * v2) + v3) ∧ jW (jW (2400 * v2) + v3) < 19200 then (jlt (jup r2.2 79 (jW (jW (2400 * v2) + v3)) 1) fun m3 => f_X10_lays_L18 q v1 v2 (jW (v3 + 1)) m3) else none) else (if 0 ≤ jW (jW (2400 * v2) + v3) ∧ jW (jW (2400 * v2) + v3) < 19200 then (jlt (jup r2.2 79 (jW (jW (2400 * v2) + v3)) 0) fun m5 => f_X10_lays_L18 q v1 v2 (jW (v3 + 1)) m5) else none)))
def f_X10_lays_L6 : Nat → Int → Int → jMu → Option jMu
  | 0, _, _, _ => none
  | q + 1, v1, v2, m => (if m 75 0 ≤ v2 then some m else (f_X10_lays_L18 jFU v1 v2 0 m).bind fun r7 => f_X10_lays_L6 q r7.1 (jW (r7.2.1 + 1)) r7.2.2)
def f_X10_lays (a0 : Int) (m : jMu) : Option jMu :=
  (f_X10_dry1 m).bind fun r1 => f_X10_lays_L6 jFU a0 0 r1
theorem t_X10_lays_L18 {X : jX} (B : jB X cX10_lays RX10 4 SKF.length rm_X10_lays none) : ∀ (q : Nat) (v1 : Int) (v2 : Int) (v3 : Int) (m : jMu) (o : (Int × Int × jMu)), f_X10_lays_L18 q v1 v2 v3 m = some o → J X SKF o.2.2 0 0 58 [(0, jR 74), (1, jI o.1), (2, jI o.2.1)] [] → J X SKF m 0 0 18 [(0, jR 74), (1, jI v1), (2, jI v2), (3, jI v3)] [] := by
  intro q
  induction q with
  | zero =>
    intro v1 v2 v3 m o hf
    rw [f_X10_lays_L18] at hf
    cases hf
  | succ q ih =>
    intro v1 v2 v3 m o hf hx
    rw [f_X10_lays_L18] at hf
    refine B_blk B jlkX10_ok jcl_SKF [.iload_n 3, .sipush 2400] (by decide +kernel) (ls' := [(0, jR 74), (1, jI v1), (2, jI v2), (3, jI v3)]) (st' := [jI 2400, jI v3]) rfl (p1 := 22) rfl ?_
    refine J_icmp_ge B.1 (off := 36) (tgt := 58) (by decide +kernel) (by decide) hf (fun hf => ?_) (fun hf => ?_)
    · refine J_pick [0, 1, 2] (ls' := [(0, jR 74), (1, jI v1), (2, jI v2)]) rfl ?_
      cases hf
      exact hx
    · refine B_blk B jlkX10_ok jcl_SKF [.aload_n 0, .getfield 26, .sipush 2400, .iload_n 2, .imul, .iload_n 3, .iadd, .aload_n 0, .iload_n 1, .iload_n 2, .iload_n 3] (by decide +kernel) (ls' := [(0, jR 74), (1, jI v1), (2, jI v2), (3, jI v3)]) (st' := [jI v3, jI v2, jI v1, jR 74, jI (jW (jW (2400 * v2) + v3)), jR 79]) rfl (p1 := 40) rfl ?_
      obtain ⟨r2, h2, hf⟩ := jbd hf
      refine B_callV B (Nat.le_refl _) (μ' := r2.2) (k' := 0) (n' := 0) ca_X10_whyOf in_X10_whyOf se_X10_whyOf lk_X10_199 (t_X10_whyOf B.tr h2) (Nat.le_refl _) rfl rfl rfl (rest := [jI (jW (jW (2400 * v2) + v3)), jR 79]) rfl rfl (Nat.le_of_ble_eq_true rfl) (by decide +kernel) rfl rfl (st' := [jI r2.1, jI (jW (jW (2400 * v2) + v3)), jR 79]) rfl ?_
      refine J_if_ne B.1 (off := 7) (tgt := 50) (by decide +kernel) (by decide) hf (fun hf => ?_) (fun hf => ?_)
      · refine B_blk B jlkX10_ok jcl_SKF [.iconst 1, .goto 4] (by decide +kernel) (ls' := [(0, jR 74), (1, jI v1), (2, jI v2), (3, jI v3)]) (st' := [jI 1, jI (jW (jW (2400 * v2) + v3)), jR 79]) rfl (p1 := 51) rfl ?_
        obtain ⟨g4, hf⟩ := jgd hf
        refine K_zast (lenI := 19200) B rfl rfl g4 (Or.inr rfl) (by decide +kernel) ?_
        obtain ⟨m3, hm3, hf⟩ := jlt_s hf
        rw [hm3]
        refine B_blk B jlkX10_ok jcl_SKF [.iinc 3 1, .goto (-37)] (by decide +kernel) (ls' := [(0, jR 74), (1, jI v1), (2, jI v2), (3, jI (jW (v3 + 1)))]) (st' := []) rfl (p1 := 18) rfl ?_
        exact ih v1 v2 (jW (v3 + 1)) m3 _ hf hx
      · refine B_blk B jlkX10_ok jcl_SKF [.iconst 0] (by decide +kernel) (ls' := [(0, jR 74), (1, jI v1), (2, jI v2), (3, jI v3)]) (st' := [jI 0, jI (jW (jW (2400 * v2) + v3)), jR 79]) rfl (p1 := 51) rfl ?_
        obtain ⟨g6, hf⟩ := jgd hf
        refine K_zast (lenI := 19200) B rfl rfl g6 (Or.inl rfl) (by decide +kernel) ?_
        obtain ⟨m5, hm5, hf⟩ := jlt_s hf
        rw [hm5]
        refine B_blk B jlkX10_ok jcl_SKF [.iinc 3 1, .goto (-37)] (by decide +kernel) (ls' := [(0, jR 74), (1, jI v1), (2, jI v2), (3, jI (jW (v3 + 1)))]) (st' := []) rfl (p1 := 18) rfl ?_
        exact ih v1 v2 (jW (v3 + 1)) m5 _ hf hx
theorem t_X10_lays_L6 {X : jX} (B : jB X cX10_lays RX10 4 SKF.length rm_X10_lays none) : ∀ (q : Nat) (v1 : Int) (v2 : Int) (m : jMu) (r : jMu), f_X10_lays_L6 q v1 v2 m = some r → jQ X (.inl none) SKF r rm_X10_lays.cells rm_X10_lays.slots → J X SKF m 0 0 6 [(0, jR 74), (1, jI v1), (2, jI v2)] [] := by
  intro q
  induction q with
  | zero =>
    intro v1 v2 m r hf
    rw [f_X10_lays_L6] at hf
    cases hf
  | succ q ih =>
    intro v1 v2 m r hf hq
    rw [f_X10_lays_L6] at hf
    refine B_blk B jlkX10_ok jcl_SKF [.iload_n 2, .aload_n 0, .getfield 7, .iconst 0] (by decide +kernel) (ls' := [(0, jR 74), (1, jI v1), (2, jI v2)]) (st' := [jI 0, jR 75, jI v2]) rfl (p1 := 12) rfl ?_
    refine K_iald (lenI := 2083) B rfl rfl (by decide) (by decide +kernel) ?_
    refine J_icmp_ge B.1 (off := 51) (tgt := 64) (by decide +kernel) (by decide) hf (fun hf => ?_) (fun hf => ?_)
    · cases hf
      exact B_retV B hq rfl (Nat.le_of_ble_eq_true rfl) (Nat.le_of_ble_eq_true rfl) (by decide +kernel)
    · refine B_blk B jlkX10_ok jcl_SKF [.iconst 0, .istore_n 3] (by decide +kernel) (ls' := [(0, jR 74), (1, jI v1), (2, jI v2), (3, jI 0)]) (st' := []) rfl (p1 := 18) rfl ?_
      obtain ⟨r7, h7, hf⟩ := jbd hf
      refine t_X10_lays_L18 B jFU v1 v2 0 m _ h7 ?_
      refine B_blk B jlkX10_ok jcl_SKF [.iinc 2 1, .goto (-55)] (by decide +kernel) (ls' := [(0, jR 74), (1, jI r7.1), (2, jI (jW (r7.2.1 + 1)))]) (st' := []) rfl (p1 := 6) rfl ?_
      exact ih r7.1 (jW (r7.2.1 + 1)) r7.2.2 _ hf hq
theorem t_X10_lays {l : Launch} {G : jG} (hl : l.stackTraces = false) {a0 : Int} {m : jMu} {r : jMu} (hf : f_X10_lays a0 m = some r) : jCt l G yX10_lays (.code yX10_lays cX10_lays 4 none :: jWG) rm_X10_lays [jR 74, jI a0] SKF m (.inl none) SKF r := by
  unfold f_X10_lays at hf
  refine J_start (ls0 := [(0, jR 74), (1, jI a0)]) (by decide +kernel) hl (Nat.le_of_ble_eq_true rfl) rfl fun X C hN hn hR hr hnm hno hq => ?_
  have B : jB X cX10_lays RX10 4 SKF.length rm_X10_lays none := ⟨C, hN, Nat.le_of_eq hn, hR, hr⟩
  refine B_blk B jlkX10_ok jcl_SKF [.aload_n 0] (by decide +kernel) (ls' := [(0, jR 74), (1, jI a0)]) (st' := [jR 74]) rfl (p1 := 1) rfl ?_
  obtain ⟨r1, h1, hf⟩ := jbd hf
  refine B_callV B (Nat.le_refl _) (μ' := r1) (k' := 0) (n' := 0) ca_X10_dry1 in_X10_dry1 se_X10_dry1 lk_X10_234 (t_X10_dry1 B.tr h1) (Nat.le_refl _) rfl rfl rfl (rest := []) rfl rfl (Nat.le_of_ble_eq_true rfl) (by decide +kernel) rfl rfl (st' := []) rfl ?_
  refine B_blk B jlkX10_ok jcl_SKF [.iconst 0, .istore_n 2] (by decide +kernel) (ls' := [(0, jR 74), (1, jI a0), (2, jI 0)]) (st' := []) rfl (p1 := 6) rfl ?_
  exact t_X10_lays_L6 B jFU a0 0 r1 _ hf hq

def rm_X10_endFrom : Room := { frames := 6, cells := 0, slots := 0, locals := 110 }
def f_X10_endFrom_L59 : Nat → Int → Int → Int → jMu → Option Int
  | 0, _, _, _, _ => none
  | q + 1, v1, v4, v5, m => (if 2400 ≤ v4 then some (-1) else (if 0 ≤ jW (jW (2400 * v1) + v4) ∧ jW (jW (2400 * v1) + v4) < 19200 then (if m 79 (jW (jW (2400 * v1) + v4)) = 0 then (if jW (v5 - 0) = 0 then some (jW (v4 + 1)) else f_X10_endFrom_L59 q v1 (jW (v4 + 1)) (jW (v5 - 0)) m) else (if jW (v5 - 1) = 0 then some (jW (v4 + 1)) else f_X10_endFrom_L59 q v1 (jW (v4 + 1)) (jW (v5 - 1)) m)) else none))
def f_X10_endFrom_J27 (v1 : Int) (v2 : Int) (v4 : Int) (m : jMu) : Option Int :=
  (f_X10_ofBay v1 2 m).bind fun r1 => (if 0 ≤ jW (348 + v2) ∧ jW (348 + v2) < 2083 then (if 0 ≤ jW (348 + v2) ∧ jW (348 + v2) < 2083 then (if m 75 (jW (348 + v2)) ≠ 0 then (jlt (jDv (jW (jW (r1 + m 75 (jW (348 + v2))) - 1)) (m 75 (jW (348 + v2)))) fun x2 => f_X10_endFrom_L59 jFU v1 v4 x2 m) else none) else none) else none)
def f_X10_endFrom_L3 : Nat → Int → Int → Int → jMu → Option Int
  | 0, _, _, _, _ => none
  | q + 1, v1, v2, v4, m => (if 2400 ≤ v4 then f_X10_endFrom_J27 v1 v2 v4 m else (f_X10_mayBegin v1 v4 m).bind fun r7 => (if r7 = 0 then f_X10_endFrom_L3 q v1 v2 (jW (v4 + 1)) m else f_X10_endFrom_J27 v1 v2 v4 m))
def f_X10_endFrom (a0 : Int) (a1 : Int) (a2 : Int) (m : jMu) : Option Int :=
  f_X10_endFrom_L3 jFU a0 a1 a2 m
theorem t_X10_endFrom_L59 {X : jX} (B : jB X cX10_endFrom RX10 6 SKF.length rm_X10_endFrom (some .int)) : ∀ (q : Nat) (v1 : Int) (v4 : Int) (v5 : Int) (m : jMu) (r : Int), f_X10_endFrom_L59 q v1 v4 v5 m = some r → jQ X (.inl (some (jI r))) SKF m rm_X10_endFrom.cells rm_X10_endFrom.slots → J X SKF m 0 0 59 [(0, jR 74), (1, jI v1), (4, jI v4), (5, jI v5)] [] := by
  intro q
  induction q with
  | zero =>
    intro v1 v4 v5 m r hf
    rw [f_X10_endFrom_L59] at hf
    cases hf
  | succ q ih =>
    intro v1 v4 v5 m r hf hq
    rw [f_X10_endFrom_L59] at hf
    refine B_blk B jlkX10_ok jcl_SKF [.iload 4, .sipush 2400] (by decide +kernel) (ls' := [(0, jR 74), (1, jI v1), (4, jI v4), (5, jI v5)]) (st' := [jI 2400, jI v4]) rfl (p1 := 64) rfl ?_
    refine J_icmp_ge B.1 (off := 45) (tgt := 109) (by decide +kernel) (by decide) hf (fun hf => ?_) (fun hf => ?_)
    · refine B_blk B jlkX10_ok jcl_SKF [.iconst (-1)] (by decide +kernel) (ls' := [(0, jR 74), (1, jI v1), (4, jI v4), (5, jI v5)]) (st' := [jI (-1)]) rfl (p1 := 110) rfl ?_
      cases hf
      exact B_retI B hq rfl (Nat.le_of_ble_eq_true rfl) (Nat.le_of_ble_eq_true rfl) (by decide +kernel)
    · refine B_blk B jlkX10_ok jcl_SKF [.iload 5, .aload_n 0, .getfield 26, .sipush 2400, .iload_n 1, .imul, .iload 4, .iadd] (by decide +kernel) (ls' := [(0, jR 74), (1, jI v1), (4, jI v4), (5, jI v5)]) (st' := [jI (jW (jW (2400 * v1) + v4)), jR 79, jI v5]) rfl (p1 := 81) rfl ?_
      obtain ⟨g3, hf⟩ := jgd hf
      refine K_zald (lenI := 19200) B rfl rfl g3 (by decide +kernel) ?_
      refine J_if_eq B.1 (off := 7) (tgt := 89) (by decide +kernel) (by decide) hf (fun hf => ?_) (fun hf => ?_)
      · refine B_blk B jlkX10_ok jcl_SKF [.iconst 0, .isub, .istore 5, .iload 5] (by decide +kernel) (ls' := [(0, jR 74), (1, jI v1), (4, jI v4), (5, jI (jW (v5 - 0)))]) (st' := [jI (jW (v5 - 0))]) rfl (p1 := 95) rfl ?_
        refine J_if_ne B.1 (off := 8) (tgt := 103) (by decide +kernel) (by decide) hf (fun hf => ?_) (fun hf => ?_)
        · refine B_blk B jlkX10_ok jcl_SKF [.iload 4, .iconst 1, .iadd] (by decide +kernel) (ls' := [(0, jR 74), (1, jI v1), (4, jI v4), (5, jI (jW (v5 - 0)))]) (st' := [jI (jW (v4 + 1))]) rfl (p1 := 102) rfl ?_
          cases hf
          exact B_retI B hq rfl (Nat.le_of_ble_eq_true rfl) (Nat.le_of_ble_eq_true rfl) (by decide +kernel)
        · refine B_blk B jlkX10_ok jcl_SKF [.iinc 4 1, .goto (-47)] (by decide +kernel) (ls' := [(0, jR 74), (1, jI v1), (4, jI (jW (v4 + 1))), (5, jI (jW (v5 - 0)))]) (st' := []) rfl (p1 := 59) rfl ?_
          exact ih v1 (jW (v4 + 1)) (jW (v5 - 0)) m _ hf hq
      · refine B_blk B jlkX10_ok jcl_SKF [.iconst 1, .goto 4, .isub, .istore 5, .iload 5] (by decide +kernel) (ls' := [(0, jR 74), (1, jI v1), (4, jI v4), (5, jI (jW (v5 - 1)))]) (st' := [jI (jW (v5 - 1))]) rfl (p1 := 95) rfl ?_
        refine J_if_ne B.1 (off := 8) (tgt := 103) (by decide +kernel) (by decide) hf (fun hf => ?_) (fun hf => ?_)
        · refine B_blk B jlkX10_ok jcl_SKF [.iload 4, .iconst 1, .iadd] (by decide +kernel) (ls' := [(0, jR 74), (1, jI v1), (4, jI v4), (5, jI (jW (v5 - 1)))]) (st' := [jI (jW (v4 + 1))]) rfl (p1 := 102) rfl ?_
          cases hf
          exact B_retI B hq rfl (Nat.le_of_ble_eq_true rfl) (Nat.le_of_ble_eq_true rfl) (by decide +kernel)
        · refine B_blk B jlkX10_ok jcl_SKF [.iinc 4 1, .goto (-47)] (by decide +kernel) (ls' := [(0, jR 74), (1, jI v1), (4, jI (jW (v4 + 1))), (5, jI (jW (v5 - 1)))]) (st' := []) rfl (p1 := 59) rfl ?_
          exact ih v1 (jW (v4 + 1)) (jW (v5 - 1)) m _ hf hq
theorem t_X10_endFrom_J27 {X : jX} (B : jB X cX10_endFrom RX10 6 SKF.length rm_X10_endFrom (some .int)) (v1 : Int) (v2 : Int) (v4 : Int) (m : jMu) (r : Int) (hf : f_X10_endFrom_J27 v1 v2 v4 m = some r) (hq : jQ X (.inl (some (jI r))) SKF m rm_X10_endFrom.cells rm_X10_endFrom.slots) : J X SKF m 0 0 27 [(0, jR 74), (1, jI v1), (2, jI v2), (4, jI v4)] [] := by
  unfold f_X10_endFrom_J27 at hf
  refine B_blk B jlkX10_ok jcl_SKF [.aload_n 0, .iload_n 1, .iconst 2] (by decide +kernel) (ls' := [(0, jR 74), (1, jI v1), (2, jI v2), (4, jI v4)]) (st' := [jI 2, jI v1, jR 74]) rfl (p1 := 30) rfl ?_
  obtain ⟨r1, h1, hf⟩ := jbd hf
  refine B_callV B (Nat.le_refl _) (μ' := m) (k' := 0) (n' := 0) ca_X10_ofBay in_X10_ofBay se_X10_ofBay lk_X10_182 (t_X10_ofBay B.tr h1) (Nat.le_refl _) rfl rfl rfl (rest := []) rfl rfl (Nat.le_of_ble_eq_true rfl) (by decide +kernel) rfl rfl (st' := [jI r1]) rfl ?_
  refine B_blk B jlkX10_ok jcl_SKF [.aload_n 0, .getfield 7, .sipush 348, .iload_n 2, .iadd] (by decide +kernel) (ls' := [(0, jR 74), (1, jI v1), (2, jI v2), (4, jI v4)]) (st' := [jI (jW (348 + v2)), jR 75, jI r1]) rfl (p1 := 42) rfl ?_
  obtain ⟨g6, hf⟩ := jgd hf
  refine K_iald (lenI := 2083) B rfl rfl g6 (by decide +kernel) ?_
  refine B_blk B jlkX10_ok jcl_SKF [.iadd, .iconst 1, .isub, .aload_n 0, .getfield 7, .sipush 348, .iload_n 2, .iadd] (by decide +kernel) (ls' := [(0, jR 74), (1, jI v1), (2, jI v2), (4, jI v4)]) (st' := [jI (jW (348 + v2)), jR 75, jI (jW (jW (r1 + m 75 (jW (348 + v2))) - 1))]) rfl (p1 := 55) rfl ?_
  obtain ⟨g5, hf⟩ := jgd hf
  refine K_iald (lenI := 2083) B rfl rfl g5 (by decide +kernel) ?_
  obtain ⟨g4, hf⟩ := jgd hf
  refine K_idiv B g4 (by decide +kernel) ?_
  refine B_blk B jlkX10_ok jcl_SKF [.istore 5] (by decide +kernel) (ls' := [(0, jR 74), (1, jI v1), (2, jI v2), (4, jI v4), (5, jI (jDv (jW (jW (r1 + m 75 (jW (348 + v2))) - 1)) (m 75 (jW (348 + v2)))))]) (st' := []) rfl (p1 := 59) rfl ?_
  obtain ⟨x2, hx2, hf⟩ := jlt_s hf
  rw [hx2]
  refine J_pick [0, 1, 3, 4] (ls' := [(0, jR 74), (1, jI v1), (4, jI v4), (5, jI x2)]) rfl ?_
  exact t_X10_endFrom_L59 B jFU v1 v4 x2 m _ hf hq
theorem t_X10_endFrom_L3 {X : jX} (B : jB X cX10_endFrom RX10 6 SKF.length rm_X10_endFrom (some .int)) : ∀ (q : Nat) (v1 : Int) (v2 : Int) (v4 : Int) (m : jMu) (r : Int), f_X10_endFrom_L3 q v1 v2 v4 m = some r → jQ X (.inl (some (jI r))) SKF m rm_X10_endFrom.cells rm_X10_endFrom.slots → J X SKF m 0 0 3 [(0, jR 74), (1, jI v1), (2, jI v2), (4, jI v4)] [] := by
  intro q
  induction q with
  | zero =>
    intro v1 v2 v4 m r hf
    rw [f_X10_endFrom_L3] at hf
    cases hf
  | succ q ih =>
    intro v1 v2 v4 m r hf hq
    rw [f_X10_endFrom_L3] at hf
    refine B_blk B jlkX10_ok jcl_SKF [.iload 4, .sipush 2400] (by decide +kernel) (ls' := [(0, jR 74), (1, jI v1), (2, jI v2), (4, jI v4)]) (st' := [jI 2400, jI v4]) rfl (p1 := 8) rfl ?_
    refine J_icmp_ge B.1 (off := 19) (tgt := 27) (by decide +kernel) (by decide) hf (fun hf => ?_) (fun hf => ?_)
    · exact t_X10_endFrom_J27 B v1 v2 v4 m _ hf hq
    · refine B_blk B jlkX10_ok jcl_SKF [.aload_n 0, .iload_n 1, .iload 4] (by decide +kernel) (ls' := [(0, jR 74), (1, jI v1), (2, jI v2), (4, jI v4)]) (st' := [jI v4, jI v1, jR 74]) rfl (p1 := 15) rfl ?_
      obtain ⟨r7, h7, hf⟩ := jbd hf
      refine B_callV B (Nat.le_refl _) (μ' := m) (k' := 0) (n' := 0) ca_X10_mayBegin in_X10_mayBegin se_X10_mayBegin lk_X10_237 (t_X10_mayBegin B.tr h7) (Nat.le_refl _) rfl rfl rfl (rest := []) rfl rfl (Nat.le_of_ble_eq_true rfl) (by decide +kernel) rfl rfl (st' := [jI r7]) rfl ?_
      refine J_if_ne B.1 (off := 9) (tgt := 27) (by decide +kernel) (by decide) hf (fun hf => ?_) (fun hf => ?_)
      · refine B_blk B jlkX10_ok jcl_SKF [.iinc 4 1, .goto (-21)] (by decide +kernel) (ls' := [(0, jR 74), (1, jI v1), (2, jI v2), (4, jI (jW (v4 + 1)))]) (st' := []) rfl (p1 := 3) rfl ?_
        exact ih v1 v2 (jW (v4 + 1)) m _ hf hq
      · exact t_X10_endFrom_J27 B v1 v2 v4 m _ hf hq
theorem t_X10_endFrom {l : Launch} {G : jG} (hl : l.stackTraces = false) {a0 : Int} {a1 : Int} {a2 : Int} {m : jMu} {r : Int} (hf : f_X10_endFrom a0 a1 a2 m = some r) : jCt l G yX10_endFrom (.code yX10_endFrom cX10_endFrom 6 (some .int) :: jWG) rm_X10_endFrom [jR 74, jI a0, jI a1, jI a2] SKF m (.inl (some (jI r))) SKF m := by
  unfold f_X10_endFrom at hf
  refine J_start (ls0 := [(0, jR 74), (1, jI a0), (2, jI a1), (3, jI a2)]) (by decide +kernel) hl (Nat.le_of_ble_eq_true rfl) rfl fun X C hN hn hR hr hnm hno hq => ?_
  have B : jB X cX10_endFrom RX10 6 SKF.length rm_X10_endFrom (some .int) := ⟨C, hN, Nat.le_of_eq hn, hR, hr⟩
  refine B_blk B jlkX10_ok jcl_SKF [.iload_n 3, .istore 4] (by decide +kernel) (ls' := [(0, jR 74), (1, jI a0), (2, jI a1), (3, jI a2), (4, jI a2)]) (st' := []) rfl (p1 := 3) rfl ?_
  refine J_pick [0, 1, 2, 4] (ls' := [(0, jR 74), (1, jI a0), (2, jI a1), (4, jI a2)]) rfl ?_
  exact t_X10_endFrom_L3 B jFU a0 a1 a2 m _ hf hq
