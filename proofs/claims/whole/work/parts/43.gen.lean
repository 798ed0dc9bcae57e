/-! printed walks -/
def rm_X10_endOf : Room := { frames := 71, cells := 0, slots := 0, locals := 1039 }
def f_X10_endOf_L36 : Nat → Int → Int → Int → Int → jMu → Option (Int × jMu)
  | 0, _, _, _, _, _ => none
  | q + 1, v1, v2, v5, v6, m => (if 2400 ≤ v6 then some ((-1), m) else (f_X10_whyOf v1 v2 v6 m).bind fun r3 => (if r3.1 = 0 then (if jW (v5 + (-1)) = 0 then some (jW (v6 + 1), r3.2) else f_X10_endOf_L36 q v1 v2 (jW (v5 + (-1))) (jW (v6 + 1)) r3.2) else f_X10_endOf_L36 q v1 v2 v5 (jW (v6 + 1)) r3.2))
def f_X10_endOf (a0 : Int) (a1 : Int) (a2 : Int) (a3 : Int) (m : jMu) : Option (Int × jMu) :=
  (f_X10_ofBay a1 2 m).bind fun r1 => (if 0 ≤ jW (348 + a2) ∧ jW (348 + a2) < 2083 then (if 0 ≤ jW (348 + a2) ∧ jW (348 + a2) < 2083 then (if m 75 (jW (348 + a2)) ≠ 0 then (jlt (jDv (jW (jW (r1 + m 75 (jW (348 + a2))) - 1)) (m 75 (jW (348 + a2)))) fun x2 => f_X10_endOf_L36 jFU a0 a1 x2 a3 m) else none) else none) else none)
theorem t_X10_endOf_L36 {X : jX} (B : jB X cX10_endOf RX10 7 SKF.length rm_X10_endOf (some .int)) : ∀ (q : Nat) (v1 : Int) (v2 : Int) (v5 : Int) (v6 : Int) (m : jMu) (r : (Int × jMu)), f_X10_endOf_L36 q v1 v2 v5 v6 m = some r → jQ X (.inl (some (jI r.1))) SKF r.2 rm_X10_endOf.cells rm_X10_endOf.slots → J X SKF m 0 0 36 [(0, jR 74), (1, jI v1), (2, jI v2), (5, jI v5), (6, jI v6)] [] := by
  intro q
  induction q with
  | zero =>
    intro v1 v2 v5 v6 m r hf
    rw [f_X10_endOf_L36] at hf
    cases hf
  | succ q ih =>
    intro v1 v2 v5 v6 m r hf hq
    rw [f_X10_endOf_L36] at hf
    refine B_blk B jlkX10_ok jcl_SKF [.iload 6, .sipush 2400] (by decide +kernel) (ls' := [(0, jR 74), (1, jI v1), (2, jI v2), (5, jI v5), (6, jI v6)]) (st' := [jI 2400, jI v6]) rfl (p1 := 41) rfl ?_
    refine J_icmp_ge B.1 (off := 36) (tgt := 77) (by decide +kernel) (by decide) hf (fun hf => ?_) (fun hf => ?_)
    · refine B_blk B jlkX10_ok jcl_SKF [.iconst (-1)] (by decide +kernel) (ls' := [(0, jR 74), (1, jI v1), (2, jI v2), (5, jI v5), (6, jI v6)]) (st' := [jI (-1)]) rfl (p1 := 78) rfl ?_
      cases hf
      exact B_retI B hq rfl (Nat.le_of_ble_eq_true rfl) (Nat.le_of_ble_eq_true rfl) (by decide +kernel)
    · refine B_blk B jlkX10_ok jcl_SKF [.aload_n 0, .iload_n 1, .iload_n 2, .iload 6] (by decide +kernel) (ls' := [(0, jR 74), (1, jI v1), (2, jI v2), (5, jI v5), (6, jI v6)]) (st' := [jI v6, jI v2, jI v1, jR 74]) rfl (p1 := 49) rfl ?_
      obtain ⟨r3, h3, hf⟩ := jbd hf
      refine B_callV B (Nat.le_refl _) (μ' := r3.2) (k' := 0) (n' := 0) ca_X10_whyOf in_X10_whyOf se_X10_whyOf lk_X10_199 (t_X10_whyOf B.tr h3) (Nat.le_refl _) rfl rfl rfl (rest := []) rfl rfl (Nat.le_of_ble_eq_true rfl) (by decide +kernel) rfl rfl (st' := [jI r3.1]) rfl ?_
      refine J_if_eq B.1 (off := 6) (tgt := 58) (by decide +kernel) (by decide) hf (fun hf => ?_) (fun hf => ?_)
      · refine B_blk B jlkX10_ok jcl_SKF [.iinc 5 (-1), .iload 5] (by decide +kernel) (ls' := [(0, jR 74), (1, jI v1), (2, jI v2), (5, jI (jW (v5 + (-1)))), (6, jI v6)]) (st' := [jI (jW (v5 + (-1)))]) rfl (p1 := 63) rfl ?_
        refine J_if_ne B.1 (off := 8) (tgt := 71) (by decide +kernel) (by decide) hf (fun hf => ?_) (fun hf => ?_)
        · refine B_blk B jlkX10_ok jcl_SKF [.iload 6, .iconst 1, .iadd] (by decide +kernel) (ls' := [(0, jR 74), (1, jI v1), (2, jI v2), (5, jI (jW (v5 + (-1)))), (6, jI v6)]) (st' := [jI (jW (v6 + 1))]) rfl (p1 := 70) rfl ?_
          cases hf
          exact B_retI B hq rfl (Nat.le_of_ble_eq_true rfl) (Nat.le_of_ble_eq_true rfl) (by decide +kernel)
        · refine B_blk B jlkX10_ok jcl_SKF [.iinc 6 1, .goto (-38)] (by decide +kernel) (ls' := [(0, jR 74), (1, jI v1), (2, jI v2), (5, jI (jW (v5 + (-1)))), (6, jI (jW (v6 + 1)))]) (st' := []) rfl (p1 := 36) rfl ?_
          exact ih v1 v2 (jW (v5 + (-1))) (jW (v6 + 1)) r3.2 _ hf hq
      · refine B_blk B jlkX10_ok jcl_SKF [.goto 16, .iinc 6 1, .goto (-38)] (by decide +kernel) (ls' := [(0, jR 74), (1, jI v1), (2, jI v2), (5, jI v5), (6, jI (jW (v6 + 1)))]) (st' := []) rfl (p1 := 36) rfl ?_
        exact ih v1 v2 v5 (jW (v6 + 1)) r3.2 _ hf hq
theorem t_X10_endOf {l : Launch} {G : jG} (hl : l.stackTraces = false) {a0 : Int} {a1 : Int} {a2 : Int} {a3 : Int} {m : jMu} {r : (Int × jMu)} (hf : f_X10_endOf a0 a1 a2 a3 m = some r) : jCt l G yX10_endOf (.code yX10_endOf cX10_endOf 7 (some .int) :: jWG) rm_X10_endOf [jR 74, jI a0, jI a1, jI a2, jI a3] SKF m (.inl (some (jI r.1))) SKF r.2 := by
  unfold f_X10_endOf at hf
  refine J_start (ls0 := [(0, jR 74), (1, jI a0), (2, jI a1), (3, jI a2), (4, jI a3)]) (by decide +kernel) hl (Nat.le_of_ble_eq_true rfl) rfl fun X C hN hn hR hr hnm hno hq => ?_
  have B : jB X cX10_endOf RX10 7 SKF.length rm_X10_endOf (some .int) := ⟨C, hN, Nat.le_of_eq hn, hR, hr⟩
  refine B_blk B jlkX10_ok jcl_SKF [.aload_n 0, .iload_n 2, .iconst 2] (by decide +kernel) (ls' := [(0, jR 74), (1, jI a0), (2, jI a1), (3, jI a2), (4, jI a3)]) (st' := [jI 2, jI a1, jR 74]) rfl (p1 := 3) rfl ?_
  obtain ⟨r1, h1, hf⟩ := jbd hf
  refine B_callV B (Nat.le_refl _) (μ' := m) (k' := 0) (n' := 0) ca_X10_ofBay in_X10_ofBay se_X10_ofBay lk_X10_182 (t_X10_ofBay B.tr h1) (Nat.le_refl _) rfl rfl rfl (rest := []) rfl rfl (Nat.le_of_ble_eq_true rfl) (by decide +kernel) rfl rfl (st' := [jI r1]) rfl ?_
  refine B_blk B jlkX10_ok jcl_SKF [.aload_n 0, .getfield 7, .sipush 348, .iload_n 3, .iadd] (by decide +kernel) (ls' := [(0, jR 74), (1, jI a0), (2, jI a1), (3, jI a2), (4, jI a3)]) (st' := [jI (jW (348 + a2)), jR 75, jI r1]) rfl (p1 := 15) rfl ?_
  obtain ⟨g6, hf⟩ := jgd hf
  refine K_iald (lenI := 2083) B rfl rfl g6 (by decide +kernel) ?_
  refine B_blk B jlkX10_ok jcl_SKF [.iadd, .iconst 1, .isub, .aload_n 0, .getfield 7, .sipush 348, .iload_n 3, .iadd] (by decide +kernel) (ls' := [(0, jR 74), (1, jI a0), (2, jI a1), (3, jI a2), (4, jI a3)]) (st' := [jI (jW (348 + a2)), jR 75, jI (jW (jW (r1 + m 75 (jW (348 + a2))) - 1))]) rfl (p1 := 28) rfl ?_
  obtain ⟨g5, hf⟩ := jgd hf
  refine K_iald (lenI := 2083) B rfl rfl g5 (by decide +kernel) ?_
  obtain ⟨g4, hf⟩ := jgd hf
  refine K_idiv B g4 (by decide +kernel) ?_
  refine B_blk B jlkX10_ok jcl_SKF [.istore 5] (by decide +kernel) (ls' := [(0, jR 74), (1, jI a0), (2, jI a1), (3, jI a2), (4, jI a3), (5, jI (jDv (jW (jW (r1 + m 75 (jW (348 + a2))) - 1)) (m 75 (jW (348 + a2)))))]) (st' := []) rfl (p1 := 32) rfl ?_
  obtain ⟨x2, hx2, hf⟩ := jlt_s hf
  rw [hx2]
  refine B_blk B jlkX10_ok jcl_SKF [.iload 4, .istore 6] (by decide +kernel) (ls' := [(0, jR 74), (1, jI a0), (2, jI a1), (3, jI a2), (4, jI a3), (5, jI x2), (6, jI a3)]) (st' := []) rfl (p1 := 36) rfl ?_
  refine J_pick [0, 1, 2, 5, 6] (ls' := [(0, jR 74), (1, jI a0), (2, jI a1), (5, jI x2), (6, jI a3)]) rfl ?_
  exact t_X10_endOf_L36 B jFU a0 a1 x2 a3 m _ hf hq

def rm_X10_isGang : Room := { frames := 4, cells := 0, slots := 0, locals := 86 }
def f_X10_isGang (a0 : Int) (m : jMu) : Option Int :=
  (f_X10_isIn a0 0 (jW (m 75 6 - 1))).bind fun r1 => (if r1 = 0 ∨ r1 = 1 then some r1 else none)
theorem t_X10_isGang {l : Launch} {G : jG} (hl : l.stackTraces = false) {a0 : Int} {m : jMu} {r : Int} (hf : f_X10_isGang a0 m = some r) : jCt l G yX10_isGang (.code yX10_isGang cX10_isGang 2 (some .boolean) :: jWG) rm_X10_isGang [jR 74, jI a0] SKF m (.inl (some (jI r))) SKF m := by
  unfold f_X10_isGang at hf
  refine J_start (ls0 := [(0, jR 74), (1, jI a0)]) (by decide +kernel) hl (Nat.le_of_ble_eq_true rfl) rfl fun X C hN hn hR hr hnm hno hq => ?_
  have B : jB X cX10_isGang RX10 2 SKF.length rm_X10_isGang (some .boolean) := ⟨C, hN, Nat.le_of_eq hn, hR, hr⟩
  refine B_blk B jlkX10_ok jcl_SKF [.iload_n 1, .iconst 0, .aload_n 0, .getfield 7, .bipush 6] (by decide +kernel) (ls' := [(0, jR 74), (1, jI a0)]) (st' := [jI 6, jR 75, jI 0, jI a0]) rfl (p1 := 8) rfl ?_
  refine K_iald (lenI := 2083) B rfl rfl (by decide) (by decide +kernel) ?_
  refine B_blk B jlkX10_ok jcl_SKF [.iconst 1, .isub] (by decide +kernel) (ls' := [(0, jR 74), (1, jI a0)]) (st' := [jI (jW (m 75 6 - 1)), jI 0, jI a0]) rfl (p1 := 11) rfl ?_
  obtain ⟨r1, h1, hf⟩ := jbd hf
  refine B_callS B (Nat.le_refl _) (μ' := m) (k' := 0) (n' := 0) ca_X10_isIn sa_X10_isIn lk_X10_54 (t_X10_isIn B.tr jcl_SKF h1) (Nat.le_refl _) rfl (rest := []) rfl rfl (Nat.le_of_ble_eq_true rfl) (by decide +kernel) rfl rfl (st' := [jI r1]) rfl ?_
  obtain ⟨gz, hf⟩ := jgd hf
  cases hf
  exact B_retZ B gz hq rfl (Nat.le_of_ble_eq_true rfl) (Nat.le_of_ble_eq_true rfl) (by decide +kernel)

def rm_X10_isMoment : Room := { frames := 4, cells := 0, slots := 0, locals := 86 }
def f_X10_isMoment (a0 : Int) : Option Int :=
  (f_X10_isIn a0 0 2399).bind fun r1 => (if r1 = 0 ∨ r1 = 1 then some r1 else none)
theorem t_X10_isMoment {l : Launch} {G : jG} (hl : l.stackTraces = false) {S : List jSh} (hcl : jcl S) {a0 : Int} {μ : jMu} {r : Int} (hf : f_X10_isMoment a0 = some r) : jCt l G yX10_isMoment (.code yX10_isMoment cX10_isMoment 1 (some .boolean) :: jWG) rm_X10_isMoment [jI a0] S μ (.inl (some (jI r))) S μ := by
  unfold f_X10_isMoment at hf
  refine J_start (ls0 := [(0, jI a0)]) (by decide +kernel) hl (Nat.le_of_ble_eq_true rfl) rfl fun X C hN hn hR hr hnm hno hq => ?_
  have B : jB X cX10_isMoment RX10 1 S.length rm_X10_isMoment (some .boolean) := ⟨C, hN, Nat.le_of_eq hn, hR, hr⟩
  refine B_blk B jlkX10_ok hcl [.iload_n 0, .iconst 0, .sipush 2399] (by decide +kernel) (ls' := [(0, jI a0)]) (st' := [jI 2399, jI 0, jI a0]) rfl (p1 := 5) rfl ?_
  obtain ⟨r1, h1, hf⟩ := jbd hf
  refine B_callS B (Nat.le_refl _) (μ' := μ) (k' := 0) (n' := 0) ca_X10_isIn sa_X10_isIn lk_X10_54 (t_X10_isIn B.tr hcl h1) (Nat.le_refl _) rfl (rest := []) rfl rfl (Nat.le_of_ble_eq_true rfl) (by decide +kernel) rfl rfl (st' := [jI r1]) rfl ?_
  obtain ⟨gz, hf⟩ := jgd hf
  cases hf
  exact B_retZ B gz hq rfl (Nat.le_of_ble_eq_true rfl) (Nat.le_of_ble_eq_true rfl) (by decide +kernel)

def rm_X10_ends : Room := { frames := 73, cells := 0, slots := 0, locals := 1065 }
def f_X10_ends_J33 (v1 : Int) (v2 : Int) (v3 : Int) (v4 : Int) (m : jMu) : Option (Int × jMu) :=
  (jlt (jup m 74 0 1) fun m2 => (if m2 74 0 ≤ 0 then (f_X10_endOf v1 v2 v3 v4 m2).bind fun r3 => some (r3.1, r3.2) else some (0, m2)))
def f_X10_ends (a0 : Int) (a1 : Int) (a2 : Int) (a3 : Int) (m : jMu) : Option (Int × jMu) :=
  (f_X10_isTerms a0 m).bind fun r1 => (if r1 = 0 then f_X10_ends_J33 a0 a1 a2 a3 m else (f_X10_isBay a1 m).bind fun r4 => (if r4 = 0 then f_X10_ends_J33 a0 a1 a2 a3 m else (f_X10_isGang a2 m).bind fun r5 => (if r5 = 0 then f_X10_ends_J33 a0 a1 a2 a3 m else (f_X10_isMoment a3).bind fun r6 => (if r6 = 0 then f_X10_ends_J33 a0 a1 a2 a3 m else (jlt (jup m 74 0 0) fun m7 => (if m7 74 0 ≤ 0 then (f_X10_endOf a0 a1 a2 a3 m7).bind fun r8 => some (r8.1, r8.2) else some (0, m7)))))))
theorem t_X10_ends_J33 {X : jX} (B : jB X cX10_ends RX10 5 SKF.length rm_X10_ends (some .int)) (v1 : Int) (v2 : Int) (v3 : Int) (v4 : Int) (m : jMu) (r : (Int × jMu)) (hf : f_X10_ends_J33 v1 v2 v3 v4 m = some r) (hq : jQ X (.inl (some (jI r.1))) SKF r.2 rm_X10_ends.cells rm_X10_ends.slots) : J X SKF m 0 0 33 [(0, jR 74), (1, jI v1), (2, jI v2), (3, jI v3), (4, jI v4)] [jR 74] := by
  unfold f_X10_ends_J33 at hf
  refine B_blk B jlkX10_ok jcl_SKF [.iconst 1, .goto 4] (by decide +kernel) (ls' := [(0, jR 74), (1, jI v1), (2, jI v2), (3, jI v3), (4, jI v4)]) (st' := [jI 1, jR 74]) rfl (p1 := 38) rfl ?_
  refine K_putI (jI' := 0) B jp_X10_51 rfl rfl rfl (by decide +kernel) ?_
  obtain ⟨m2, hm2, hf⟩ := jlt_s hf
  rw [hm2]
  refine B_blk B jlkX10_ok jcl_SKF [.aload_n 0, .getfield 51] (by decide +kernel) (ls' := [(0, jR 74), (1, jI v1), (2, jI v2), (3, jI v3), (4, jI v4)]) (st' := [jI (m2 74 0)]) rfl (p1 := 45) rfl ?_
  refine J_if_le B.1 (off := 5) (tgt := 50) (by decide +kernel) (by decide) hf (fun hf => ?_) (fun hf => ?_)
  · refine B_blk B jlkX10_ok jcl_SKF [.aload_n 0, .iload_n 1, .iload_n 2, .iload_n 3, .iload 4] (by decide +kernel) (ls' := [(0, jR 74), (1, jI v1), (2, jI v2), (3, jI v3), (4, jI v4)]) (st' := [jI v4, jI v3, jI v2, jI v1, jR 74]) rfl (p1 := 56) rfl ?_
    obtain ⟨r3, h3, hf⟩ := jbd hf
    refine B_callV B (Nat.le_refl _) (μ' := r3.2) (k' := 0) (n' := 0) ca_X10_endOf in_X10_endOf se_X10_endOf lk_X10_230 (t_X10_endOf B.tr h3) (Nat.le_refl _) rfl rfl rfl (rest := []) rfl rfl (Nat.le_of_ble_eq_true rfl) (by decide +kernel) rfl rfl (st' := [jI r3.1]) rfl ?_
    cases hf
    exact B_retI B hq rfl (Nat.le_of_ble_eq_true rfl) (Nat.le_of_ble_eq_true rfl) (by decide +kernel)
  · refine B_blk B jlkX10_ok jcl_SKF [.iconst 0] (by decide +kernel) (ls' := [(0, jR 74), (1, jI v1), (2, jI v2), (3, jI v3), (4, jI v4)]) (st' := [jI 0]) rfl (p1 := 49) rfl ?_
    cases hf
    exact B_retI B hq rfl (Nat.le_of_ble_eq_true rfl) (Nat.le_of_ble_eq_true rfl) (by decide +kernel)
theorem t_X10_ends {l : Launch} {G : jG} (hl : l.stackTraces = false) {a0 : Int} {a1 : Int} {a2 : Int} {a3 : Int} {m : jMu} {r : (Int × jMu)} (hf : f_X10_ends a0 a1 a2 a3 m = some r) : jCt l G yX10_ends (.code yX10_ends cX10_ends 5 (some .int) :: jWG) rm_X10_ends [jR 74, jI a0, jI a1, jI a2, jI a3] SKF m (.inl (some (jI r.1))) SKF r.2 := by
  unfold f_X10_ends at hf
  refine J_start (ls0 := [(0, jR 74), (1, jI a0), (2, jI a1), (3, jI a2), (4, jI a3)]) (by decide +kernel) hl (Nat.le_of_ble_eq_true rfl) rfl fun X C hN hn hR hr hnm hno hq => ?_
  have B : jB X cX10_ends RX10 5 SKF.length rm_X10_ends (some .int) := ⟨C, hN, Nat.le_of_eq hn, hR, hr⟩
  refine B_blk B jlkX10_ok jcl_SKF [.aload_n 0, .aload_n 0, .iload_n 1] (by decide +kernel) (ls' := [(0, jR 74), (1, jI a0), (2, jI a1), (3, jI a2), (4, jI a3)]) (st' := [jI a0, jR 74, jR 74]) rfl (p1 := 3) rfl ?_
  obtain ⟨r1, h1, hf⟩ := jbd hf
  refine B_callV B (Nat.le_refl _) (μ' := m) (k' := 0) (n' := 0) ca_X10_isTerms in_X10_isTerms se_X10_isTerms lk_X10_203 (t_X10_isTerms B.tr h1) (Nat.le_refl _) rfl rfl rfl (rest := [jR 74]) rfl rfl (Nat.le_of_ble_eq_true rfl) (by decide +kernel) rfl rfl (st' := [jI r1, jR 74]) rfl ?_
  refine J_if_eq B.1 (off := 27) (tgt := 33) (by decide +kernel) (by decide) hf (fun hf => ?_) (fun hf => ?_)
  · exact t_X10_ends_J33 B a0 a1 a2 a3 m _ hf hq
  · refine B_blk B jlkX10_ok jcl_SKF [.aload_n 0, .iload_n 2] (by decide +kernel) (ls' := [(0, jR 74), (1, jI a0), (2, jI a1), (3, jI a2), (4, jI a3)]) (st' := [jI a1, jR 74, jR 74]) rfl (p1 := 11) rfl ?_
    obtain ⟨r4, h4, hf⟩ := jbd hf
    refine B_callV B (Nat.le_refl _) (μ' := m) (k' := 0) (n' := 0) ca_X10_isBay in_X10_isBay se_X10_isBay lk_X10_206 (t_X10_isBay B.tr h4) (Nat.le_refl _) rfl rfl rfl (rest := [jR 74]) rfl rfl (Nat.le_of_ble_eq_true rfl) (by decide +kernel) rfl rfl (st' := [jI r4, jR 74]) rfl ?_
    refine J_if_eq B.1 (off := 19) (tgt := 33) (by decide +kernel) (by decide) hf (fun hf => ?_) (fun hf => ?_)
    · exact t_X10_ends_J33 B a0 a1 a2 a3 m _ hf hq
    · refine B_blk B jlkX10_ok jcl_SKF [.aload_n 0, .iload_n 3] (by decide +kernel) (ls' := [(0, jR 74), (1, jI a0), (2, jI a1), (3, jI a2), (4, jI a3)]) (st' := [jI a2, jR 74, jR 74]) rfl (p1 := 19) rfl ?_
      obtain ⟨r5, h5, hf⟩ := jbd hf
      refine B_callV B (Nat.le_refl _) (μ' := m) (k' := 0) (n' := 0) ca_X10_isGang in_X10_isGang se_X10_isGang lk_X10_224 (t_X10_isGang B.tr h5) (Nat.le_refl _) rfl rfl rfl (rest := [jR 74]) rfl rfl (Nat.le_of_ble_eq_true rfl) (by decide +kernel) rfl rfl (st' := [jI r5, jR 74]) rfl ?_
      refine J_if_eq B.1 (off := 11) (tgt := 33) (by decide +kernel) (by decide) hf (fun hf => ?_) (fun hf => ?_)
      · exact t_X10_ends_J33 B a0 a1 a2 a3 m _ hf hq
      · refine B_blk B jlkX10_ok jcl_SKF [.iload 4] (by decide +kernel) (ls' := [(0, jR 74), (1, jI a0), (2, jI a1), (3, jI a2), (4, jI a3)]) (st' := [jI a3, jR 74]) rfl (p1 := 27) rfl ?_
        obtain ⟨r6, h6, hf⟩ := jbd hf
        refine B_callS B (Nat.le_refl _) (μ' := m) (k' := 0) (n' := 0) ca_X10_isMoment sa_X10_isMoment lk_X10_227 (t_X10_isMoment B.tr jcl_SKF h6) (Nat.le_refl _) rfl (rest := [jR 74]) rfl rfl (Nat.le_of_ble_eq_true rfl) (by decide +kernel) rfl rfl (st' := [jI r6, jR 74]) rfl ?_
        refine J_if_ne B.1 (off := 7) (tgt := 37) (by decide +kernel) (by decide) hf (fun hf => ?_) (fun hf => ?_)
        · exact t_X10_ends_J33 B a0 a1 a2 a3 m _ hf hq
        · refine B_blk B jlkX10_ok jcl_SKF [.iconst 0] (by decide +kernel) (ls' := [(0, jR 74), (1, jI a0), (2, jI a1), (3, jI a2), (4, jI a3)]) (st' := [jI 0, jR 74]) rfl (p1 := 38) rfl ?_
          refine K_putI (jI' := 0) B jp_X10_51 rfl rfl rfl (by decide +kernel) ?_
          obtain ⟨m7, hm7, hf⟩ := jlt_s hf
          rw [hm7]
          refine B_blk B jlkX10_ok jcl_SKF [.aload_n 0, .getfield 51] (by decide +kernel) (ls' := [(0, jR 74), (1, jI a0), (2, jI a1), (3, jI a2), (4, jI a3)]) (st' := [jI (m7 74 0)]) rfl (p1 := 45) rfl ?_
          refine J_if_le B.1 (off := 5) (tgt := 50) (by decide +kernel) (by decide) hf (fun hf => ?_) (fun hf => ?_)
          · refine B_blk B jlkX10_ok jcl_SKF [.aload_n 0, .iload_n 1, .iload_n 2, .iload_n 3, .iload 4] (by decide +kernel) (ls' := [(0, jR 74), (1, jI a0), (2, jI a1), (3, jI a2), (4, jI a3)]) (st' := [jI a3, jI a2, jI a1, jI a0, jR 74]) rfl (p1 := 56) rfl ?_
            obtain ⟨r8, h8, hf⟩ := jbd hf
            refine B_callV B (Nat.le_refl _) (μ' := r8.2) (k' := 0) (n' := 0) ca_X10_endOf in_X10_endOf se_X10_endOf lk_X10_230 (t_X10_endOf B.tr h8) (Nat.le_refl _) rfl rfl rfl (rest := []) rfl rfl (Nat.le_of_ble_eq_true rfl) (by decide +kernel) rfl rfl (st' := [jI r8.1]) rfl ?_
            cases hf
            exact B_retI B hq rfl (Nat.le_of_ble_eq_true rfl) (Nat.le_of_ble_eq_true rfl) (by decide +kernel)
          · refine B_blk B jlkX10_ok jcl_SKF [.iconst 0] (by decide +kernel) (ls' := [(0, jR 74), (1, jI a0), (2, jI a1), (3, jI a2), (4, jI a3)]) (st' := [jI 0]) rfl (p1 := 49) rfl ?_
            cases hf
            exact B_retI B hq rfl (Nat.le_of_ble_eq_true rfl) (Nat.le_of_ble_eq_true rfl) (by decide +kernel)

def rm_X10_ofJob : Room := { frames := 2, cells := 0, slots := 0, locals := 64 }
def f_X10_ofJob (a0 : Int) (a1 : Int) (m : jMu) : Option Int :=
  (if 0 ≤ jW (jW (376 + jW (8 * a0)) + a1) ∧ jW (jW (376 + jW (8 * a0)) + a1) < 2083 then some (m 75 (jW (jW (376 + jW (8 * a0)) + a1))) else none)
theorem t_X10_ofJob {l : Launch} {G : jG} (hl : l.stackTraces = false) {a0 : Int} {a1 : Int} {m : jMu} {r : Int} (hf : f_X10_ofJob a0 a1 m = some r) : jCt l G yX10_ofJob (.code yX10_ofJob cX10_ofJob 3 (some .int) :: jWG) rm_X10_ofJob [jR 74, jI a0, jI a1] SKF m (.inl (some (jI r))) SKF m := by
  unfold f_X10_ofJob at hf
  refine J_start (ls0 := [(0, jR 74), (1, jI a0), (2, jI a1)]) (by decide +kernel) hl (Nat.le_of_ble_eq_true rfl) rfl fun X C hN hn hR hr hnm hno hq => ?_
  have B : jB X cX10_ofJob RX10 3 SKF.length rm_X10_ofJob (some .int) := ⟨C, hN, Nat.le_of_eq hn, hR, hr⟩
  refine B_blk B jlkX10_ok jcl_SKF [.aload_n 0, .getfield 7, .sipush 376, .bipush 8, .iload_n 1, .imul, .iadd, .iload_n 2, .iadd] (by decide +kernel) (ls' := [(0, jR 74), (1, jI a0), (2, jI a1)]) (st' := [jI (jW (jW (376 + jW (8 * a0)) + a1)), jR 75]) rfl (p1 := 14) rfl ?_
  obtain ⟨g1, hf⟩ := jgd hf
  refine K_iald (lenI := 2083) B rfl rfl g1 (by decide +kernel) ?_
  cases hf
  exact B_retI B hq rfl (Nat.le_of_ble_eq_true rfl) (Nat.le_of_ble_eq_true rfl) (by decide +kernel)

def rm_X10_dryOf : Room := { frames := 69, cells := 0, slots := 0, locals := 1016 }
def f_X10_dryOf (a0 : Int) (m : jMu) : Option (Int × jMu) :=
  (f_X10_ofJob a0 0 m).bind fun r1 => (f_X10_ofJob a0 4 m).bind fun r2 => (f_X10_stands r1 (jW (r2 - 1)) m).bind fun r3 => (f_X10_ofJob a0 7 r3).bind fun r4 => (f_X10_asks r4 r3).bind fun r5 => some (r5 74 16, r5)
theorem t_X10_dryOf {l : Launch} {G : jG} (hl : l.stackTraces = false) {a0 : Int} {m : jMu} {r : (Int × jMu)} (hf : f_X10_dryOf a0 m = some r) : jCt l G yX10_dryOf (.code yX10_dryOf cX10_dryOf 2 (some .int) :: jWG) rm_X10_dryOf [jR 74, jI a0] SKF m (.inl (some (jI r.1))) SKF r.2 := by
  unfold f_X10_dryOf at hf
  refine J_start (ls0 := [(0, jR 74), (1, jI a0)]) (by decide +kernel) hl (Nat.le_of_ble_eq_true rfl) rfl fun X C hN hn hR hr hnm hno hq => ?_
  have B : jB X cX10_dryOf RX10 2 SKF.length rm_X10_dryOf (some .int) := ⟨C, hN, Nat.le_of_eq hn, hR, hr⟩
  refine B_blk B jlkX10_ok jcl_SKF [.aload_n 0, .aload_n 0, .iload_n 1, .iconst 0] (by decide +kernel) (ls' := [(0, jR 74), (1, jI a0)]) (st' := [jI 0, jI a0, jR 74, jR 74]) rfl (p1 := 4) rfl ?_
  obtain ⟨r1, h1, hf⟩ := jbd hf
  refine B_callV B (Nat.le_refl _) (μ' := m) (k' := 0) (n' := 0) ca_X10_ofJob in_X10_ofJob se_X10_ofJob lk_X10_218 (t_X10_ofJob B.tr h1) (Nat.le_refl _) rfl rfl rfl (rest := [jR 74]) rfl rfl (Nat.le_of_ble_eq_true rfl) (by decide +kernel) rfl rfl (st' := [jI r1, jR 74]) rfl ?_
  refine B_blk B jlkX10_ok jcl_SKF [.aload_n 0, .iload_n 1, .iconst 4] (by decide +kernel) (ls' := [(0, jR 74), (1, jI a0)]) (st' := [jI 4, jI a0, jR 74, jI r1, jR 74]) rfl (p1 := 10) rfl ?_
  obtain ⟨r2, h2, hf⟩ := jbd hf
  refine B_callV B (Nat.le_refl _) (μ' := m) (k' := 0) (n' := 0) ca_X10_ofJob in_X10_ofJob se_X10_ofJob lk_X10_218 (t_X10_ofJob B.tr h2) (Nat.le_refl _) rfl rfl rfl (rest := [jI r1, jR 74]) rfl rfl (Nat.le_of_ble_eq_true rfl) (by decide +kernel) rfl rfl (st' := [jI r2, jI r1, jR 74]) rfl ?_
  refine B_blk B jlkX10_ok jcl_SKF [.iconst 1, .isub] (by decide +kernel) (ls' := [(0, jR 74), (1, jI a0)]) (st' := [jI (jW (r2 - 1)), jI r1, jR 74]) rfl (p1 := 15) rfl ?_
  obtain ⟨r3, h3, hf⟩ := jbd hf
  refine B_callV B (Nat.le_refl _) (μ' := r3) (k' := 0) (n' := 0) ca_X10_stands in_X10_stands se_X10_stands lk_X10_189 (t_X10_stands B.tr h3) (Nat.le_refl _) rfl rfl rfl (rest := []) rfl rfl (Nat.le_of_ble_eq_true rfl) (by decide +kernel) rfl rfl (st' := []) rfl ?_
  refine B_blk B jlkX10_ok jcl_SKF [.aload_n 0, .aload_n 0, .iload_n 1, .bipush 7] (by decide +kernel) (ls' := [(0, jR 74), (1, jI a0)]) (st' := [jI 7, jI a0, jR 74, jR 74]) rfl (p1 := 23) rfl ?_
  obtain ⟨r4, h4, hf⟩ := jbd hf
  refine B_callV B (Nat.le_refl _) (μ' := r3) (k' := 0) (n' := 0) ca_X10_ofJob in_X10_ofJob se_X10_ofJob lk_X10_218 (t_X10_ofJob B.tr h4) (Nat.le_refl _) rfl rfl rfl (rest := [jR 74]) rfl rfl (Nat.le_of_ble_eq_true rfl) (by decide +kernel) rfl rfl (st' := [jI r4, jR 74]) rfl ?_
  obtain ⟨r5, h5, hf⟩ := jbd hf
  refine B_callV B (Nat.le_refl _) (μ' := r5) (k' := 0) (n' := 0) ca_X10_asks in_X10_asks se_X10_asks lk_X10_193 (t_X10_asks B.tr h5) (Nat.le_refl _) rfl rfl rfl (rest := []) rfl rfl (Nat.le_of_ble_eq_true rfl) (by decide +kernel) rfl rfl (st' := []) rfl ?_
  refine B_blk B jlkX10_ok jcl_SKF [.aload_n 0, .getfield 170] (by decide +kernel) (ls' := [(0, jR 74), (1, jI a0)]) (st' := [jI (r5 74 16)]) rfl (p1 := 33) rfl ?_
  cases hf
  exact B_retI B hq rfl (Nat.le_of_ble_eq_true rfl) (Nat.le_of_ble_eq_true rfl) (by decide +kernel)

def rm_X10_dry1 : Room := { frames := 71, cells := 0, slots := 0, locals := 1037 }
def f_X10_dry1_L2 : Nat → Int → jMu → Option jMu
  | 0, _, _ => none
  | q + 1, v1, m => (if m 75 8 ≤ v1 then some m else (f_X10_dryOf v1 m).bind fun r1 => (if 0 ≤ v1 ∧ v1 < 40 then (jlt (jup r1.2 80 v1 r1.1) fun m2 => f_X10_dry1_L2 q (jW (v1 + 1)) m2) else none))
def f_X10_dry1 (m : jMu) : Option jMu :=
  f_X10_dry1_L2 jFU 0 m
theorem t_X10_dry1_L2 {X : jX} (B : jB X cX10_dry1 RX10 2 SKF.length rm_X10_dry1 none) : ∀ (q : Nat) (v1 : Int) (m : jMu) (r : jMu), f_X10_dry1_L2 q v1 m = some r → jQ X (.inl none) SKF r rm_X10_dry1.cells rm_X10_dry1.slots → J X SKF m 0 0 2 [(0, jR 74), (1, jI v1)] [] := by
  intro q
  induction q with
  | zero =>
    intro v1 m r hf
    rw [f_X10_dry1_L2] at hf
    cases hf
  | succ q ih =>
    intro v1 m r hf hq
    rw [f_X10_dry1_L2] at hf
    refine B_blk B jlkX10_ok jcl_SKF [.iload_n 1, .aload_n 0, .getfield 7, .bipush 8] (by decide +kernel) (ls' := [(0, jR 74), (1, jI v1)]) (st' := [jI 8, jR 75, jI v1]) rfl (p1 := 9) rfl ?_
    refine K_iald (lenI := 2083) B rfl rfl (by decide) (by decide +kernel) ?_
    refine J_icmp_ge B.1 (off := 20) (tgt := 30) (by decide +kernel) (by decide) hf (fun hf => ?_) (fun hf => ?_)
    · cases hf
      exact B_retV B hq rfl (Nat.le_of_ble_eq_true rfl) (Nat.le_of_ble_eq_true rfl) (by decide +kernel)
    · refine B_blk B jlkX10_ok jcl_SKF [.aload_n 0, .getfield 30, .iload_n 1, .aload_n 0, .iload_n 1] (by decide +kernel) (ls' := [(0, jR 74), (1, jI v1)]) (st' := [jI v1, jR 74, jI v1, jR 80]) rfl (p1 := 20) rfl ?_
      obtain ⟨r1, h1, hf⟩ := jbd hf
      refine B_callV B (Nat.le_refl _) (μ' := r1.2) (k' := 0) (n' := 0) ca_X10_dryOf in_X10_dryOf se_X10_dryOf lk_X10_221 (t_X10_dryOf B.tr h1) (Nat.le_refl _) rfl rfl rfl (rest := [jI v1, jR 80]) rfl rfl (Nat.le_of_ble_eq_true rfl) (by decide +kernel) rfl rfl (st' := [jI r1.1, jI v1, jR 80]) rfl ?_
      obtain ⟨g3, hf⟩ := jgd hf
      refine K_iast (lenI := 40) B rfl rfl g3 (by decide +kernel) ?_
      obtain ⟨m2, hm2, hf⟩ := jlt_s hf
      rw [hm2]
      refine B_blk B jlkX10_ok jcl_SKF [.iinc 1 1, .goto (-25)] (by decide +kernel) (ls' := [(0, jR 74), (1, jI (jW (v1 + 1)))]) (st' := []) rfl (p1 := 2) rfl ?_
      exact ih (jW (v1 + 1)) m2 _ hf hq
theorem t_X10_dry1 {l : Launch} {G : jG} (hl : l.stackTraces = false) {m : jMu} {r : jMu} (hf : f_X10_dry1 m = some r) : jCt l G yX10_dry1 (.code yX10_dry1 cX10_dry1 2 none :: jWG) rm_X10_dry1 [jR 74] SKF m (.inl none) SKF r := by
  unfold f_X10_dry1 at hf
  refine J_start (ls0 := [(0, jR 74)]) (by decide +kernel) hl (Nat.le_of_ble_eq_true rfl) rfl fun X C hN hn hR hr hnm hno hq => ?_
  have B : jB X cX10_dry1 RX10 2 SKF.length rm_X10_dry1 none := ⟨C, hN, Nat.le_of_eq hn, hR, hr⟩
  refine B_blk B jlkX10_ok jcl_SKF [.iconst 0, .istore_n 1] (by decide +kernel) (ls' := [(0, jR 74), (1, jI 0)]) (st' := []) rfl (p1 := 2) rfl ?_
  exact t_X10_dry1_L2 B jFU 0 m _ hf hq

def rm_X10_mayBegin : Room := { frames := 4, cells := 0, slots := 0, locals := 86 }
def f_X10_mayBegin_L2 : Nat → Int → Int → Int → jMu → Option Int
  | 0, _, _, _, _ => none
  | q + 1, v1, v2, v3, m => (if m 75 8 ≤ v3 then some 1 else (f_X10_ofJob v3 0 m).bind fun r1 => (if r1 = v1 then (f_X10_ofJob v3 4 m).bind fun r2 => (if v2 < r2 then (if r2 ≤ v2 then f_X10_mayBegin_L2 q v1 v2 (jW (v3 + 1)) m else (f_X10_ofJob v3 3 m).bind fun r3 => (if v2 < r3 then f_X10_mayBegin_L2 q v1 v2 (jW (v3 + 1)) m else some 0)) else (if 0 ≤ v3 ∧ v3 < 40 then (if jW (r2 + m 80 v3) ≤ v2 then (if r2 ≤ v2 then f_X10_mayBegin_L2 q v1 v2 (jW (v3 + 1)) m else (f_X10_ofJob v3 3 m).bind fun r4 => (if v2 < r4 then f_X10_mayBegin_L2 q v1 v2 (jW (v3 + 1)) m else some 0)) else some 0) else none)) else f_X10_mayBegin_L2 q v1 v2 (jW (v3 + 1)) m))
def f_X10_mayBegin (a0 : Int) (a1 : Int) (m : jMu) : Option Int :=
  f_X10_mayBegin_L2 jFU a0 a1 0 m
theorem t_X10_mayBegin_L2 {X : jX} (B : jB X cX10_mayBegin RX10 5 SKF.length rm_X10_mayBegin (some .boolean)) : ∀ (q : Nat) (v1 : Int) (v2 : Int) (v3 : Int) (m : jMu) (r : Int), f_X10_mayBegin_L2 q v1 v2 v3 m = some r → jQ X (.inl (some (jI r))) SKF m rm_X10_mayBegin.cells rm_X10_mayBegin.slots → J X SKF m 0 0 2 [(0, jR 74), (1, jI v1), (2, jI v2), (3, jI v3)] [] := by
  intro q
  induction q with
  | zero =>
    intro v1 v2 v3 m r hf
    rw [f_X10_mayBegin_L2] at hf
    cases hf
  | succ q ih =>
    intro v1 v2 v3 m r hf hq
    rw [f_X10_mayBegin_L2] at hf
    refine B_blk B jlkX10_ok jcl_SKF [.iload_n 3, .aload_n 0, .getfield 7, .bipush 8] (by decide +kernel) (ls' := [(0, jR 74), (1, jI v1), (2, jI v2), (3, jI v3)]) (st' := [jI 8, jR 75, jI v3]) rfl (p1 := 9) rfl ?_
    refine K_iald (lenI := 2083) B rfl rfl (by decide) (by decide +kernel) ?_
    refine J_icmp_ge B.1 (off := 69) (tgt := 79) (by decide +kernel) (by decide) hf (fun hf => ?_) (fun hf => ?_)
    · refine B_blk B jlkX10_ok jcl_SKF [.iconst 1] (by decide +kernel) (ls' := [(0, jR 74), (1, jI v1), (2, jI v2), (3, jI v3)]) (st' := [jI 1]) rfl (p1 := 80) rfl ?_
      cases hf
      exact B_retZ B (Or.inr rfl) hq rfl (Nat.le_of_ble_eq_true rfl) (Nat.le_of_ble_eq_true rfl) (by decide +kernel)
    · refine B_blk B jlkX10_ok jcl_SKF [.aload_n 0, .iload_n 3, .iconst 0] (by decide +kernel) (ls' := [(0, jR 74), (1, jI v1), (2, jI v2), (3, jI v3)]) (st' := [jI 0, jI v3, jR 74]) rfl (p1 := 16) rfl ?_
      obtain ⟨r1, h1, hf⟩ := jbd hf
      refine B_callV B (Nat.le_refl _) (μ' := m) (k' := 0) (n' := 0) ca_X10_ofJob in_X10_ofJob se_X10_ofJob lk_X10_218 (t_X10_ofJob B.tr h1) (Nat.le_refl _) rfl rfl rfl (rest := []) rfl rfl (Nat.le_of_ble_eq_true rfl) (by decide +kernel) rfl rfl (st' := [jI r1]) rfl ?_
      refine B_blk B jlkX10_ok jcl_SKF [.iload_n 1] (by decide +kernel) (ls' := [(0, jR 74), (1, jI v1), (2, jI v2), (3, jI v3)]) (st' := [jI v1, jI r1]) rfl (p1 := 20) rfl ?_
      refine J_icmp_eq B.1 (off := 6) (tgt := 26) (by decide +kernel) (by decide) hf (fun hf => ?_) (fun hf => ?_)
      · refine B_blk B jlkX10_ok jcl_SKF [.aload_n 0, .iload_n 3, .iconst 4] (by decide +kernel) (ls' := [(0, jR 74), (1, jI v1), (2, jI v2), (3, jI v3)]) (st' := [jI 4, jI v3, jR 74]) rfl (p1 := 29) rfl ?_
        obtain ⟨r2, h2, hf⟩ := jbd hf
        refine B_callV B (Nat.le_refl _) (μ' := m) (k' := 0) (n' := 0) ca_X10_ofJob in_X10_ofJob se_X10_ofJob lk_X10_218 (t_X10_ofJob B.tr h2) (Nat.le_refl _) rfl rfl rfl (rest := []) rfl rfl (Nat.le_of_ble_eq_true rfl) (by decide +kernel) rfl rfl (st' := [jI r2]) rfl ?_
        refine B_blk B jlkX10_ok jcl_SKF [.istore 4, .iload 4, .iload_n 2] (by decide +kernel) (ls' := [(0, jR 74), (1, jI v1), (2, jI v2), (3, jI v3), (4, jI r2)]) (st' := [jI v2, jI r2]) rfl (p1 := 37) rfl ?_
        refine J_icmp_gt B.1 (off := 18) (tgt := 55) (by decide +kernel) (by decide) hf (fun hf => ?_) (fun hf => ?_)
        · refine B_blk B jlkX10_ok jcl_SKF [.iload 4, .iload_n 2] (by decide +kernel) (ls' := [(0, jR 74), (1, jI v1), (2, jI v2), (3, jI v3), (4, jI r2)]) (st' := [jI v2, jI r2]) rfl (p1 := 58) rfl ?_
          refine J_icmp_le B.1 (off := 15) (tgt := 73) (by decide +kernel) (by decide) hf (fun hf => ?_) (fun hf => ?_)
          · refine B_blk B jlkX10_ok jcl_SKF [.iinc 3 1, .goto (-74)] (by decide +kernel) (ls' := [(0, jR 74), (1, jI v1), (2, jI v2), (3, jI (jW (v3 + 1))), (4, jI r2)]) (st' := []) rfl (p1 := 2) rfl ?_
            refine J_pick [0, 1, 2, 3] (ls' := [(0, jR 74), (1, jI v1), (2, jI v2), (3, jI (jW (v3 + 1)))]) rfl ?_
            exact ih v1 v2 (jW (v3 + 1)) m _ hf hq
          · refine B_blk B jlkX10_ok jcl_SKF [.iload_n 2, .aload_n 0, .iload_n 3, .iconst 3] (by decide +kernel) (ls' := [(0, jR 74), (1, jI v1), (2, jI v2), (3, jI v3), (4, jI r2)]) (st' := [jI 3, jI v3, jR 74, jI v2]) rfl (p1 := 65) rfl ?_
            obtain ⟨r3, h3, hf⟩ := jbd hf
            refine B_callV B (Nat.le_refl _) (μ' := m) (k' := 0) (n' := 0) ca_X10_ofJob in_X10_ofJob se_X10_ofJob lk_X10_218 (t_X10_ofJob B.tr h3) (Nat.le_refl _) rfl rfl rfl (rest := [jI v2]) rfl rfl (Nat.le_of_ble_eq_true rfl) (by decide +kernel) rfl rfl (st' := [jI r3, jI v2]) rfl ?_
            refine J_icmp_lt B.1 (off := 5) (tgt := 73) (by decide +kernel) (by decide) hf (fun hf => ?_) (fun hf => ?_)
            · refine B_blk B jlkX10_ok jcl_SKF [.iinc 3 1, .goto (-74)] (by decide +kernel) (ls' := [(0, jR 74), (1, jI v1), (2, jI v2), (3, jI (jW (v3 + 1))), (4, jI r2)]) (st' := []) rfl (p1 := 2) rfl ?_
              refine J_pick [0, 1, 2, 3] (ls' := [(0, jR 74), (1, jI v1), (2, jI v2), (3, jI (jW (v3 + 1)))]) rfl ?_
              exact ih v1 v2 (jW (v3 + 1)) m _ hf hq
            · refine B_blk B jlkX10_ok jcl_SKF [.iconst 0] (by decide +kernel) (ls' := [(0, jR 74), (1, jI v1), (2, jI v2), (3, jI v3), (4, jI r2)]) (st' := [jI 0]) rfl (p1 := 72) rfl ?_
              cases hf
              exact B_retZ B (Or.inl rfl) hq rfl (Nat.le_of_ble_eq_true rfl) (Nat.le_of_ble_eq_true rfl) (by decide +kernel)
        · refine B_blk B jlkX10_ok jcl_SKF [.iload_n 2, .iload 4, .aload_n 0, .getfield 30, .iload_n 3] (by decide +kernel) (ls' := [(0, jR 74), (1, jI v1), (2, jI v2), (3, jI v3), (4, jI r2)]) (st' := [jI v3, jR 80, jI r2, jI v2]) rfl (p1 := 48) rfl ?_
          obtain ⟨g5, hf⟩ := jgd hf
          refine K_iald (lenI := 40) B rfl rfl g5 (by decide +kernel) ?_
          refine B_blk B jlkX10_ok jcl_SKF [.iadd] (by decide +kernel) (ls' := [(0, jR 74), (1, jI v1), (2, jI v2), (3, jI v3), (4, jI r2)]) (st' := [jI (jW (r2 + m 80 v3)), jI v2]) rfl (p1 := 50) rfl ?_
          refine J_icmp_ge B.1 (off := 5) (tgt := 55) (by decide +kernel) (by decide) hf (fun hf => ?_) (fun hf => ?_)
          · refine B_blk B jlkX10_ok jcl_SKF [.iload 4, .iload_n 2] (by decide +kernel) (ls' := [(0, jR 74), (1, jI v1), (2, jI v2), (3, jI v3), (4, jI r2)]) (st' := [jI v2, jI r2]) rfl (p1 := 58) rfl ?_
            refine J_icmp_le B.1 (off := 15) (tgt := 73) (by decide +kernel) (by decide) hf (fun hf => ?_) (fun hf => ?_)
            · refine B_blk B jlkX10_ok jcl_SKF [.iinc 3 1, .goto (-74)] (by decide +kernel) (ls' := [(0, jR 74), (1, jI v1), (2, jI v2), (3, jI (jW (v3 + 1))), (4, jI r2)]) (st' := []) rfl (p1 := 2) rfl ?_
              refine J_pick [0, 1, 2, 3] (ls' := [(0, jR 74), (1, jI v1), (2, jI v2), (3, jI (jW (v3 + 1)))]) rfl ?_
              exact ih v1 v2 (jW (v3 + 1)) m _ hf hq
            · refine B_blk B jlkX10_ok jcl_SKF [.iload_n 2, .aload_n 0, .iload_n 3, .iconst 3] (by decide +kernel) (ls' := [(0, jR 74), (1, jI v1), (2, jI v2), (3, jI v3), (4, jI r2)]) (st' := [jI 3, jI v3, jR 74, jI v2]) rfl (p1 := 65) rfl ?_
              obtain ⟨r4, h4, hf⟩ := jbd hf
              refine B_callV B (Nat.le_refl _) (μ' := m) (k' := 0) (n' := 0) ca_X10_ofJob in_X10_ofJob se_X10_ofJob lk_X10_218 (t_X10_ofJob B.tr h4) (Nat.le_refl _) rfl rfl rfl (rest := [jI v2]) rfl rfl (Nat.le_of_ble_eq_true rfl) (by decide +kernel) rfl rfl (st' := [jI r4, jI v2]) rfl ?_
              refine J_icmp_lt B.1 (off := 5) (tgt := 73) (by decide +kernel) (by decide) hf (fun hf => ?_) (fun hf => ?_)
              · refine B_blk B jlkX10_ok jcl_SKF [.iinc 3 1, .goto (-74)] (by decide +kernel) (ls' := [(0, jR 74), (1, jI v1), (2, jI v2), (3, jI (jW (v3 + 1))), (4, jI r2)]) (st' := []) rfl (p1 := 2) rfl ?_
                refine J_pick [0, 1, 2, 3] (ls' := [(0, jR 74), (1, jI v1), (2, jI v2), (3, jI (jW (v3 + 1)))]) rfl ?_
                exact ih v1 v2 (jW (v3 + 1)) m _ hf hq
              · refine B_blk B jlkX10_ok jcl_SKF [.iconst 0] (by decide +kernel) (ls' := [(0, jR 74), (1, jI v1), (2, jI v2), (3, jI v3), (4, jI r2)]) (st' := [jI 0]) rfl (p1 := 72) rfl ?_
                cases hf
                exact B_retZ B (Or.inl rfl) hq rfl (Nat.le_of_ble_eq_true rfl) (Nat.le_of_ble_eq_true rfl) (by decide +kernel)
          · refine B_blk B jlkX10_ok jcl_SKF [.iconst 0] (by decide +kernel) (ls' := [(0, jR 74), (1, jI v1), (2, jI v2), (3, jI v3), (4, jI r2)]) (st' := [jI 0]) rfl (p1 := 54) rfl ?_
            cases hf
            exact B_retZ B (Or.inl rfl) hq rfl (Nat.le_of_ble_eq_true rfl) (Nat.le_of_ble_eq_true rfl) (by decide +kernel)
      · refine B_blk B jlkX10_ok jcl_SKF [.goto 50, .iinc 3 1, .goto (-74)] (by decide +kernel) (ls' := [(0, jR 74), (1, jI v1), (2, jI v2), (3, jI (jW (v3 + 1)))]) (st' := []) rfl (p1 := 2) rfl ?_
        exact ih v1 v2 (jW (v3 + 1)) m _ hf hq
theorem t_X10_mayBegin {l : Launch} {G : jG} (hl : l.stackTraces = false) {a0 : Int} {a1 : Int} {m : jMu} {r : Int} (hf : f_X10_mayBegin a0 a1 m = some r) : jCt l G yX10_mayBegin (.code yX10_mayBegin cX10_mayBegin 5 (some .boolean) :: jWG) rm_X10_mayBegin [jR 74, jI a0, jI a1] SKF m (.inl (some (jI r))) SKF m := by
  unfold f_X10_mayBegin at hf
  refine J_start (ls0 := [(0, jR 74), (1, jI a0), (2, jI a1)]) (by decide +kernel) hl (Nat.le_of_ble_eq_true rfl) rfl fun X C hN hn hR hr hnm hno hq => ?_
  have B : jB X cX10_mayBegin RX10 5 SKF.length rm_X10_mayBegin (some .boolean) := ⟨C, hN, Nat.le_of_eq hn, hR, hr⟩
  refine B_blk B jlkX10_ok jcl_SKF [.iconst 0, .istore_n 3] (by decide +kernel) (ls' := [(0, jR 74), (1, jI a0), (2, jI a1), (3, jI 0)]) (st' := []) rfl (p1 := 2) rfl ?_
  exact t_X10_mayBegin_L2 B jFU a0 a1 0 m _ hf hq

def rm_X10_may : Room := { frames := 73, cells := 0, slots := 0, locals := 1058 }
def f_X10_may_J16 (v1 : Int) (v2 : Int) (m : jMu) : Option (Int × jMu) :=
  (jlt (jup m 74 0 1) fun m2 => (if m2 74 0 ≤ 0 then (f_X10_dry1 m2).bind fun r3 => (f_X10_mayBegin v1 v2 r3).bind fun r4 => (if r4 = 0 ∨ r4 = 1 then some (r4, r3) else none) else some (0, m2)))
def f_X10_may (a0 : Int) (a1 : Int) (m : jMu) : Option (Int × jMu) :=
  (f_X10_isBay a0 m).bind fun r1 => (if r1 = 0 then f_X10_may_J16 a0 a1 m else (f_X10_isMoment a1).bind fun r5 => (if r5 = 0 then f_X10_may_J16 a0 a1 m else (jlt (jup m 74 0 0) fun m6 => (if m6 74 0 ≤ 0 then (f_X10_dry1 m6).bind fun r7 => (f_X10_mayBegin a0 a1 r7).bind fun r8 => (if r8 = 0 ∨ r8 = 1 then some (r8, r7) else none) else some (0, m6)))))
theorem t_X10_may_J16 {X : jX} (B : jB X cX10_may RX10 3 SKF.length rm_X10_may (some .boolean)) (v1 : Int) (v2 : Int) (m : jMu) (r : (Int × jMu)) (hf : f_X10_may_J16 v1 v2 m = some r) (hq : jQ X (.inl (some (jI r.1))) SKF r.2 rm_X10_may.cells rm_X10_may.slots) : J X SKF m 0 0 16 [(0, jR 74), (1, jI v1), (2, jI v2)] [jR 74] := by
  unfold f_X10_may_J16 at hf
  refine B_blk B jlkX10_ok jcl_SKF [.iconst 1, .goto 4] (by decide +kernel) (ls' := [(0, jR 74), (1, jI v1), (2, jI v2)]) (st' := [jI 1, jR 74]) rfl (p1 := 21) rfl ?_
  refine K_putI (jI' := 0) B jp_X10_51 rfl rfl rfl (by decide +kernel) ?_
  obtain ⟨m2, hm2, hf⟩ := jlt_s hf
  rw [hm2]
  refine B_blk B jlkX10_ok jcl_SKF [.aload_n 0, .getfield 51] (by decide +kernel) (ls' := [(0, jR 74), (1, jI v1), (2, jI v2)]) (st' := [jI (m2 74 0)]) rfl (p1 := 28) rfl ?_
  refine J_if_le B.1 (off := 5) (tgt := 33) (by decide +kernel) (by decide) hf (fun hf => ?_) (fun hf => ?_)
  · refine B_blk B jlkX10_ok jcl_SKF [.aload_n 0] (by decide +kernel) (ls' := [(0, jR 74), (1, jI v1), (2, jI v2)]) (st' := [jR 74]) rfl (p1 := 34) rfl ?_
    obtain ⟨r3, h3, hf⟩ := jbd hf
    refine B_callV B (Nat.le_refl _) (μ' := r3) (k' := 0) (n' := 0) ca_X10_dry1 in_X10_dry1 se_X10_dry1 lk_X10_234 (t_X10_dry1 B.tr h3) (Nat.le_refl _) rfl rfl rfl (rest := []) rfl rfl (Nat.le_of_ble_eq_true rfl) (by decide +kernel) rfl rfl (st' := []) rfl ?_
    refine B_blk B jlkX10_ok jcl_SKF [.aload_n 0, .iload_n 1, .iload_n 2] (by decide +kernel) (ls' := [(0, jR 74), (1, jI v1), (2, jI v2)]) (st' := [jI v2, jI v1, jR 74]) rfl (p1 := 40) rfl ?_
    obtain ⟨r4, h4, hf⟩ := jbd hf
    refine B_callV B (Nat.le_refl _) (μ' := r3) (k' := 0) (n' := 0) ca_X10_mayBegin in_X10_mayBegin se_X10_mayBegin lk_X10_237 (t_X10_mayBegin B.tr h4) (Nat.le_refl _) rfl rfl rfl (rest := []) rfl rfl (Nat.le_of_ble_eq_true rfl) (by decide +kernel) rfl rfl (st' := [jI r4]) rfl ?_
    obtain ⟨gz, hf⟩ := jgd hf
    cases hf
    exact B_retZ B gz hq rfl (Nat.le_of_ble_eq_true rfl) (Nat.le_of_ble_eq_true rfl) (by decide +kernel)
  · refine B_blk B jlkX10_ok jcl_SKF [.iconst 0] (by decide +kernel) (ls' := [(0, jR 74), (1, jI v1), (2, jI v2)]) (st' := [jI 0]) rfl (p1 := 32) rfl ?_
    cases hf
    exact B_retZ B (Or.inl rfl) hq rfl (Nat.le_of_ble_eq_true rfl) (Nat.le_of_ble_eq_true rfl) (by decide +kernel)
theorem t_X10_may {l : Launch} {G : jG} (hl : l.stackTraces = false) {a0 : Int} {a1 : Int} {m : jMu} {r : (Int × jMu)} (hf : f_X10_may a0 a1 m = some r) : jCt l G yX10_may (.code yX10_may cX10_may 3 (some .boolean) :: jWG) rm_X10_may [jR 74, jI a0, jI a1] SKF m (.inl (some (jI r.1))) SKF r.2 := by
  unfold f_X10_may at hf
  refine J_start (ls0 := [(0, jR 74), (1, jI a0), (2, jI a1)]) (by decide +kernel) hl (Nat.le_of_ble_eq_true rfl) rfl fun X C hN hn hR hr hnm hno hq => ?_
  have B : jB X cX10_may RX10 3 SKF.length rm_X10_may (some .boolean) := ⟨C, hN, Nat.le_of_eq hn, hR, hr⟩
  refine B_blk B jlkX10_ok jcl_SKF [.aload_n 0, .aload_n 0, .iload_n 1] (by decide +kernel) (ls' := [(0, jR 74), (1, jI a0), (2, jI a1)]) (st' := [jI a0, jR 74, jR 74]) rfl (p1 := 3) rfl ?_
  obtain ⟨r1, h1, hf⟩ := jbd hf
  refine B_callV B (Nat.le_refl _) (μ' := m) (k' := 0) (n' := 0) ca_X10_isBay in_X10_isBay se_X10_isBay lk_X10_206 (t_X10_isBay B.tr h1) (Nat.le_refl _) rfl rfl rfl (rest := [jR 74]) rfl rfl (Nat.le_of_ble_eq_true rfl) (by decide +kernel) rfl rfl (st' := [jI r1, jR 74]) rfl ?_
  refine J_if_eq B.1 (off := 10) (tgt := 16) (by decide +kernel) (by decide) hf (fun hf => ?_) (fun hf => ?_)
  · exact t_X10_may_J16 B a0 a1 m _ hf hq
  · refine B_blk B jlkX10_ok jcl_SKF [.iload_n 2] (by decide +kernel) (ls' := [(0, jR 74), (1, jI a0), (2, jI a1)]) (st' := [jI a1, jR 74]) rfl (p1 := 10) rfl ?_
    obtain ⟨r5, h5, hf⟩ := jbd hf
    refine B_callS B (Nat.le_refl _) (μ' := m) (k' := 0) (n' := 0) ca_X10_isMoment sa_X10_isMoment lk_X10_227 (t_X10_isMoment B.tr jcl_SKF h5) (Nat.le_refl _) rfl (rest := [jR 74]) rfl rfl (Nat.le_of_ble_eq_true rfl) (by decide +kernel) rfl rfl (st' := [jI r5, jR 74]) rfl ?_
    refine J_if_ne B.1 (off := 7) (tgt := 20) (by decide +kernel) (by decide) hf (fun hf => ?_) (fun hf => ?_)
    · exact t_X10_may_J16 B a0 a1 m _ hf hq
    · refine B_blk B jlkX10_ok jcl_SKF [.iconst 0] (by decide +kernel) (ls' := [(0, jR 74), (1, jI a0), (2, jI a1)]) (st' := [jI 0, jR 74]) rfl (p1 := 21) rfl ?_
      refine K_putI (jI' := 0) B jp_X10_51 rfl rfl rfl (by decide +kernel) ?_
      obtain ⟨m6, hm6, hf⟩ := jlt_s hf
      rw [hm6]
      refine B_blk B jlkX10_ok jcl_SKF [.aload_n 0, .getfield 51] (by decide +kernel) (ls' := [(0, jR 74), (1, jI a0), (2, jI a1)]) (st' := [jI (m6 74 0)]) rfl (p1 := 28) rfl ?_
      refine J_if_le B.1 (off := 5) (tgt := 33) (by decide +kernel) (by decide) hf (fun hf => ?_) (fun hf => ?_)
      · refine B_blk B jlkX10_ok jcl_SKF [.aload_n 0] (by decide +kernel) (ls' := [(0, jR 74), (1, jI a0), (2, jI a1)]) (st' := [jR 74]) rfl (p1 := 34) rfl ?_
        obtain ⟨r7, h7, hf⟩ := jbd hf
        refine B_callV B (Nat.le_refl _) (μ' := r7) (k' := 0) (n' := 0) ca_X10_dry1 in_X10_dry1 se_X10_dry1 lk_X10_234 (t_X10_dry1 B.tr h7) (Nat.le_refl _) rfl rfl rfl (rest := []) rfl rfl (Nat.le_of_ble_eq_true rfl) (by decide +kernel) rfl rfl (st' := []) rfl ?_
        refine B_blk B jlkX10_ok jcl_SKF [.aload_n 0, .iload_n 1, .iload_n 2] (by decide +kernel) (ls' := [(0, jR 74), (1, jI a0), (2, jI a1)]) (st' := [jI a1, jI a0, jR 74]) rfl (p1 := 40) rfl ?_
        obtain ⟨r8, h8, hf⟩ := jbd hf
        refine B_callV B (Nat.le_refl _) (μ' := r7) (k' := 0) (n' := 0) ca_X10_mayBegin in_X10_mayBegin se_X10_mayBegin lk_X10_237 (t_X10_mayBegin B.tr h8) (Nat.le_refl _) rfl rfl rfl (rest := []) rfl rfl (Nat.le_of_ble_eq_true rfl) (by decide +kernel) rfl rfl (st' := [jI r8]) rfl ?_
        obtain ⟨gz, hf⟩ := jgd hf
        cases hf
        exact B_retZ B gz hq rfl (Nat.le_of_ble_eq_true rfl) (Nat.le_of_ble_eq_true rfl) (by decide +kernel)
      · refine B_blk B jlkX10_ok jcl_SKF [.iconst 0] (by decide +kernel) (ls' := [(0, jR 74), (1, jI a0), (2, jI a1)]) (st' := [jI 0]) rfl (p1 := 32) rfl ?_
        cases hf
        exact B_retZ B (Or.inl rfl) hq rfl (Nat.le_of_ble_eq_true rfl) (Nat.le_of_ble_eq_true rfl) (by decide +kernel)

def rm_X10_tinsFor : Room := { frames := 4, cells := 0, slots := 0, locals := 86 }
def f_X10_tinsFor (a0 : Int) (m : jMu) : Option Int :=
  (f_X10_ofBay a0 2 m).bind fun r1 => some (jDv (jW (r1 + 3)) 4)
theorem t_X10_tinsFor {l : Launch} {G : jG} (hl : l.stackTraces = false) {a0 : Int} {m : jMu} {r : Int} (hf : f_X10_tinsFor a0 m = some r) : jCt l G yX10_tinsFor (.code yX10_tinsFor cX10_tinsFor 2 (some .int) :: jWG) rm_X10_tinsFor [jR 74, jI a0] SKF m (.inl (some (jI r))) SKF m := by
  unfold f_X10_tinsFor at hf
  refine J_start (ls0 := [(0, jR 74), (1, jI a0)]) (by decide +kernel) hl (Nat.le_of_ble_eq_true rfl) rfl fun X C hN hn hR hr hnm hno hq => ?_
  have B : jB X cX10_tinsFor RX10 2 SKF.length rm_X10_tinsFor (some .int) := ⟨C, hN, Nat.le_of_eq hn, hR, hr⟩
  refine B_blk B jlkX10_ok jcl_SKF [.aload_n 0, .iload_n 1, .iconst 2] (by decide +kernel) (ls' := [(0, jR 74), (1, jI a0)]) (st' := [jI 2, jI a0, jR 74]) rfl (p1 := 3) rfl ?_
  obtain ⟨r1, h1, hf⟩ := jbd hf
  refine B_callV B (Nat.le_refl _) (μ' := m) (k' := 0) (n' := 0) ca_X10_ofBay in_X10_ofBay se_X10_ofBay lk_X10_182 (t_X10_ofBay B.tr h1) (Nat.le_refl _) rfl rfl rfl (rest := []) rfl rfl (Nat.le_of_ble_eq_true rfl) (by decide +kernel) rfl rfl (st' := [jI r1]) rfl ?_
  refine B_blk B jlkX10_ok jcl_SKF [.iconst 3, .iadd, .iconst 4] (by decide +kernel) (ls' := [(0, jR 74), (1, jI a0)]) (st' := [jI 4, jI (jW (r1 + 3))]) rfl (p1 := 9) rfl ?_
  refine K_idiv B (by decide) (by decide +kernel) ?_
  cases hf
  exact B_retI B hq rfl (Nat.le_of_ble_eq_true rfl) (Nat.le_of_ble_eq_true rfl) (by decide +kernel)

def rm_X10_leftOf : Room := { frames := 6, cells := 0, slots := 0, locals := 107 }
def f_X10_leftOf_L15 : Nat → Int → Int → Int → jMu → Option Int
  | 0, _, _, _, _ => none
  | q + 1, v1, v2, v3, m => (if m 75 8 ≤ v3 then some v2 else (f_X10_ofJob v3 2 m).bind fun r1 => (if r1 = v1 then (f_X10_ofJob v3 0 m).bind fun r2 => (f_X10_tinsFor r2 m).bind fun r3 => f_X10_leftOf_L15 q v1 (jW (v2 - r3)) (jW (v3 + 1)) m else f_X10_leftOf_L15 q v1 (jW (v2 - 0)) (jW (v3 + 1)) m))
def f_X10_leftOf (a0 : Int) (m : jMu) : Option Int :=
  (if 0 ≤ jW (352 + jW (4 * a0)) ∧ jW (352 + jW (4 * a0)) < 2083 then f_X10_leftOf_L15 jFU a0 (m 75 (jW (352 + jW (4 * a0)))) 0 m else none)
theorem t_X10_leftOf_L15 {X : jX} (B : jB X cX10_leftOf RX10 4 SKF.length rm_X10_leftOf (some .int)) : ∀ (q : Nat) (v1 : Int) (v2 : Int) (v3 : Int) (m : jMu) (r : Int), f_X10_leftOf_L15 q v1 v2 v3 m = some r → jQ X (.inl (some (jI r))) SKF m rm_X10_leftOf.cells rm_X10_leftOf.slots → J X SKF m 0 0 15 [(0, jR 74), (1, jI v1), (2, jI v2), (3, jI v3)] [] := by
  intro q
  induction q with
  | zero =>
    intro v1 v2 v3 m r hf
    rw [f_X10_leftOf_L15] at hf
    cases hf
  | succ q ih =>
    intro v1 v2 v3 m r hf hq
    rw [f_X10_leftOf_L15] at hf
    refine B_blk B jlkX10_ok jcl_SKF [.iload_n 3, .aload_n 0, .getfield 7, .bipush 8] (by decide +kernel) (ls' := [(0, jR 74), (1, jI v1), (2, jI v2), (3, jI v3)]) (st' := [jI 8, jR 75, jI v3]) rfl (p1 := 22) rfl ?_
    refine K_iald (lenI := 2083) B rfl rfl (by decide) (by decide +kernel) ?_
    refine J_icmp_ge B.1 (off := 36) (tgt := 59) (by decide +kernel) (by decide) hf (fun hf => ?_) (fun hf => ?_)
    · refine B_blk B jlkX10_ok jcl_SKF [.iload_n 2] (by decide +kernel) (ls' := [(0, jR 74), (1, jI v1), (2, jI v2), (3, jI v3)]) (st' := [jI v2]) rfl (p1 := 60) rfl ?_
      cases hf
      exact B_retI B hq rfl (Nat.le_of_ble_eq_true rfl) (Nat.le_of_ble_eq_true rfl) (by decide +kernel)
    · refine B_blk B jlkX10_ok jcl_SKF [.iload_n 2, .aload_n 0, .iload_n 3, .iconst 2] (by decide +kernel) (ls' := [(0, jR 74), (1, jI v1), (2, jI v2), (3, jI v3)]) (st' := [jI 2, jI v3, jR 74, jI v2]) rfl (p1 := 30) rfl ?_
      obtain ⟨r1, h1, hf⟩ := jbd hf
      refine B_callV B (Nat.le_refl _) (μ' := m) (k' := 0) (n' := 0) ca_X10_ofJob in_X10_ofJob se_X10_ofJob lk_X10_218 (t_X10_ofJob B.tr h1) (Nat.le_refl _) rfl rfl rfl (rest := [jI v2]) rfl rfl (Nat.le_of_ble_eq_true rfl) (by decide +kernel) rfl rfl (st' := [jI r1, jI v2]) rfl ?_
      refine B_blk B jlkX10_ok jcl_SKF [.iload_n 1] (by decide +kernel) (ls' := [(0, jR 74), (1, jI v1), (2, jI v2), (3, jI v3)]) (st' := [jI v1, jI r1, jI v2]) rfl (p1 := 34) rfl ?_
      refine J_icmp_ne B.1 (off := 16) (tgt := 50) (by decide +kernel) (by decide) hf (fun hf => ?_) (fun hf => ?_)
      · refine B_blk B jlkX10_ok jcl_SKF [.aload_n 0, .aload_n 0, .iload_n 3, .iconst 0] (by decide +kernel) (ls' := [(0, jR 74), (1, jI v1), (2, jI v2), (3, jI v3)]) (st' := [jI 0, jI v3, jR 74, jR 74, jI v2]) rfl (p1 := 41) rfl ?_
        obtain ⟨r2, h2, hf⟩ := jbd hf
        refine B_callV B (Nat.le_refl _) (μ' := m) (k' := 0) (n' := 0) ca_X10_ofJob in_X10_ofJob se_X10_ofJob lk_X10_218 (t_X10_ofJob B.tr h2) (Nat.le_refl _) rfl rfl rfl (rest := [jR 74, jI v2]) rfl rfl (Nat.le_of_ble_eq_true rfl) (by decide +kernel) rfl rfl (st' := [jI r2, jR 74, jI v2]) rfl ?_
        obtain ⟨r3, h3, hf⟩ := jbd hf
        refine B_callV B (Nat.le_refl _) (μ' := m) (k' := 0) (n' := 0) ca_X10_tinsFor in_X10_tinsFor se_X10_tinsFor lk_X10_241 (t_X10_tinsFor B.tr h3) (Nat.le_refl _) rfl rfl rfl (rest := [jI v2]) rfl rfl (Nat.le_of_ble_eq_true rfl) (by decide +kernel) rfl rfl (st' := [jI r3, jI v2]) rfl ?_
        refine B_blk B jlkX10_ok jcl_SKF [.goto 4, .isub, .istore_n 2, .iinc 3 1, .goto (-41)] (by decide +kernel) (ls' := [(0, jR 74), (1, jI v1), (2, jI (jW (v2 - r3))), (3, jI (jW (v3 + 1)))]) (st' := []) rfl (p1 := 15) rfl ?_
        exact ih v1 (jW (v2 - r3)) (jW (v3 + 1)) m _ hf hq
      · refine B_blk B jlkX10_ok jcl_SKF [.iconst 0, .isub, .istore_n 2, .iinc 3 1, .goto (-41)] (by decide +kernel) (ls' := [(0, jR 74), (1, jI v1), (2, jI (jW (v2 - 0))), (3, jI (jW (v3 + 1)))]) (st' := []) rfl (p1 := 15) rfl ?_
        exact ih v1 (jW (v2 - 0)) (jW (v3 + 1)) m _ hf hq
theorem t_X10_leftOf {l : Launch} {G : jG} (hl : l.stackTraces = false) {a0 : Int} {m : jMu} {r : Int} (hf : f_X10_leftOf a0 m = some r) : jCt l G yX10_leftOf (.code yX10_leftOf cX10_leftOf 4 (some .int) :: jWG) rm_X10_leftOf [jR 74, jI a0] SKF m (.inl (some (jI r))) SKF m := by
  unfold f_X10_leftOf at hf
  refine J_start (ls0 := [(0, jR 74), (1, jI a0)]) (by decide +kernel) hl (Nat.le_of_ble_eq_true rfl) rfl fun X C hN hn hR hr hnm hno hq => ?_
  have B : jB X cX10_leftOf RX10 4 SKF.length rm_X10_leftOf (some .int) := ⟨C, hN, Nat.le_of_eq hn, hR, hr⟩
  refine B_blk B jlkX10_ok jcl_SKF [.aload_n 0, .getfield 7, .sipush 352, .iconst 4, .iload_n 1, .imul, .iadd] (by decide +kernel) (ls' := [(0, jR 74), (1, jI a0)]) (st' := [jI (jW (352 + jW (4 * a0))), jR 75]) rfl (p1 := 11) rfl ?_
  obtain ⟨g4, hf⟩ := jgd hf
  refine K_iald (lenI := 2083) B rfl rfl g4 (by decide +kernel) ?_
  refine B_blk B jlkX10_ok jcl_SKF [.istore_n 2, .iconst 0, .istore_n 3] (by decide +kernel) (ls' := [(0, jR 74), (1, jI a0), (2, jI (m 75 (jW (352 + jW (4 * a0))))), (3, jI 0)]) (st' := []) rfl (p1 := 15) rfl ?_
  exact t_X10_leftOf_L15 B jFU a0 (m 75 (jW (352 + jW (4 * a0)))) 0 m _ hf hq

def rm_X10_isBatch : Room := { frames := 4, cells := 0, slots := 0, locals := 86 }
def f_X10_isBatch (a0 : Int) (m : jMu) : Option Int :=
  (f_X10_isIn a0 0 (jW (m 75 7 - 1))).bind fun r1 => (if r1 = 0 ∨ r1 = 1 then some r1 else none)
theorem t_X10_isBatch {l : Launch} {G : jG} (hl : l.stackTraces = false) {a0 : Int} {m : jMu} {r : Int} (hf : f_X10_isBatch a0 m = some r) : jCt l G yX10_isBatch (.code yX10_isBatch cX10_isBatch 2 (some .boolean) :: jWG) rm_X10_isBatch [jR 74, jI a0] SKF m (.inl (some (jI r))) SKF m := by
  unfold f_X10_isBatch at hf
  refine J_start (ls0 := [(0, jR 74), (1, jI a0)]) (by decide +kernel) hl (Nat.le_of_ble_eq_true rfl) rfl fun X C hN hn hR hr hnm hno hq => ?_
  have B : jB X cX10_isBatch RX10 2 SKF.length rm_X10_isBatch (some .boolean) := ⟨C, hN, Nat.le_of_eq hn, hR, hr⟩
  refine B_blk B jlkX10_ok jcl_SKF [.iload_n 1, .iconst 0, .aload_n 0, .getfield 7, .bipush 7] (by decide +kernel) (ls' := [(0, jR 74), (1, jI a0)]) (st' := [jI 7, jR 75, jI 0, jI a0]) rfl (p1 := 8) rfl ?_
  refine K_iald (lenI := 2083) B rfl rfl (by decide) (by decide +kernel) ?_
  refine B_blk B jlkX10_ok jcl_SKF [.iconst 1, .isub] (by decide +kernel) (ls' := [(0, jR 74), (1, jI a0)]) (st' := [jI (jW (m 75 7 - 1)), jI 0, jI a0]) rfl (p1 := 11) rfl ?_
  obtain ⟨r1, h1, hf⟩ := jbd hf
  refine B_callS B (Nat.le_refl _) (μ' := m) (k' := 0) (n' := 0) ca_X10_isIn sa_X10_isIn lk_X10_54 (t_X10_isIn B.tr jcl_SKF h1) (Nat.le_refl _) rfl (rest := []) rfl rfl (Nat.le_of_ble_eq_true rfl) (by decide +kernel) rfl rfl (st' := [jI r1]) rfl ?_
  obtain ⟨gz, hf⟩ := jgd hf
  cases hf
  exact B_retZ B gz hq rfl (Nat.le_of_ble_eq_true rfl) (Nat.le_of_ble_eq_true rfl) (by decide +kernel)

def rm_X10_job : Room := { frames := 73, cells := 0, slots := 0, locals := 1065 }
def f_X10_job_J63 (v1 : Int) (v2 : Int) (v3 : Int) (v4 : Int) (v5 : Int) (s1 : Int) (m : jMu) : Option (Int × jMu) :=
  (jlt (jup m 74 0 s1) fun m2 => (if m2 74 0 ≤ 0 then (f_X10_dry1 m2).bind fun r3 => (f_X10_mayBegin v2 v5 r3).bind fun r4 => (if r4 = 0 then some ((-1), r3) else (f_X10_leftOf v4 r3).bind fun r5 => (f_X10_tinsFor v2 r3).bind fun r6 => (if r6 ≤ r5 then (f_X10_endOf v1 v2 v3 v5 r3).bind fun r7 => (if r7.1 = (-1) then some ((-1), r7.2) else (if 0 ≤ jW (376 + jW (8 * r7.2 75 8)) ∧ jW (376 + jW (8 * r7.2 75 8)) < 2083 then (jlt (jup r7.2 75 (jW (376 + jW (8 * r7.2 75 8))) v2) fun m8 => (if 0 ≤ jW (jW (376 + jW (8 * r7.2 75 8)) + 1) ∧ jW (jW (376 + jW (8 * r7.2 75 8)) + 1) < 2083 then (jlt (jup m8 75 (jW (jW (376 + jW (8 * r7.2 75 8)) + 1)) v3) fun m9 => (if 0 ≤ jW (jW (376 + jW (8 * r7.2 75 8)) + 2) ∧ jW (jW (376 + jW (8 * r7.2 75 8)) + 2) < 2083 then (jlt (jup m9 75 (jW (jW (376 + jW (8 * r7.2 75 8)) + 2)) v4) fun m10 => (if 0 ≤ jW (jW (376 + jW (8 * r7.2 75 8)) + 3) ∧ jW (jW (376 + jW (8 * r7.2 75 8)) + 3) < 2083 then (jlt (jup m10 75 (jW (jW (376 + jW (8 * r7.2 75 8)) + 3)) v5) fun m11 => (if 0 ≤ jW (jW (376 + jW (8 * r7.2 75 8)) + 4) ∧ jW (jW (376 + jW (8 * r7.2 75 8)) + 4) < 2083 then (jlt (jup m11 75 (jW (jW (376 + jW (8 * r7.2 75 8)) + 4)) r7.1) fun m12 => (if 0 ≤ jW (jW (376 + jW (8 * r7.2 75 8)) + 5) ∧ jW (jW (376 + jW (8 * r7.2 75 8)) + 5) < 2083 then (jlt (jup m12 75 (jW (jW (376 + jW (8 * r7.2 75 8)) + 5)) (m12 75 11)) fun m13 => (if 0 ≤ jW (jW (376 + jW (8 * r7.2 75 8)) + 6) ∧ jW (jW (376 + jW (8 * r7.2 75 8)) + 6) < 2083 then (jlt (jup m13 75 (jW (jW (376 + jW (8 * r7.2 75 8)) + 6)) (-1)) fun m14 => (if 0 ≤ jW (jW (376 + jW (8 * r7.2 75 8)) + 7) ∧ jW (jW (376 + jW (8 * r7.2 75 8)) + 7) < 2083 then (jlt (jup m14 75 (jW (jW (376 + jW (8 * r7.2 75 8)) + 7)) v1) fun m15 => (jlt (jup m15 75 8 (jW (m15 75 8 + 1))) fun m16 => some (jW (m16 75 8 - 1), m16))) else none)) else none)) else none)) else none)) else none)) else none)) else none)) else none)) else some ((-1), r3))) else some (0, m2)))
def f_X10_job_J42 (v1 : Int) (v2 : Int) (v3 : Int) (v4 : Int) (v5 : Int) (m : jMu) : Option (Int × jMu) :=
  f_X10_job_J63 v1 v2 v3 v4 v5 1 m
def f_X10_job (a0 : Int) (a1 : Int) (a2 : Int) (a3 : Int) (a4 : Int) (m : jMu) : Option (Int × jMu) :=
  (f_X10_isTerms a0 m).bind fun r1 => (if r1 = 0 then f_X10_job_J42 a0 a1 a2 a3 a4 m else (f_X10_isBay a1 m).bind fun r25 => (if r25 = 0 then f_X10_job_J42 a0 a1 a2 a3 a4 m else (f_X10_isGang a2 m).bind fun r26 => (if r26 = 0 then f_X10_job_J42 a0 a1 a2 a3 a4 m else (f_X10_isBatch a3 m).bind fun r27 => (if r27 = 0 then f_X10_job_J42 a0 a1 a2 a3 a4 m else (f_X10_isMoment a4).bind fun r28 => (if r28 = 0 then f_X10_job_J42 a0 a1 a2 a3 a4 m else (if m 75 8 = 40 then f_X10_job_J63 a0 a1 a2 a3 a4 2 m else f_X10_job_J63 a0 a1 a2 a3 a4 0 m))))))
theorem t_X10_job_J63 {X : jX} (B : jB X cX10_job RX10 8 SKF.length rm_X10_job (some .int)) (v1 : Int) (v2 : Int) (v3 : Int) (v4 : Int) (v5 : Int) (s1 : Int) (m : jMu) (r : (Int × jMu)) (hf : f_X10_job_J63 v1 v2 v3 v4 v5 s1 m = some r) (hq : jQ X (.inl (some (jI r.1))) SKF r.2 rm_X10_job.cells rm_X10_job.slots) : J X SKF m 0 0 63 [(0, jR 74), (1, jI v1), (2, jI v2), (3, jI v3), (4, jI v4), (5, jI v5)] [jI s1, jR 74] := by
  unfold f_X10_job_J63 at hf
  refine K_putI (jI' := 0) B jp_X10_51 rfl rfl rfl (by decide +kernel) ?_
  obtain ⟨m2, hm2, hf⟩ := jlt_s hf
  rw [hm2]
  refine B_blk B jlkX10_ok jcl_SKF [.aload_n 0, .getfield 51] (by decide +kernel) (ls' := [(0, jR 74), (1, jI v1), (2, jI v2), (3, jI v3), (4, jI v4), (5, jI v5)]) (st' := [jI (m2 74 0)]) rfl (p1 := 70) rfl ?_
  refine J_if_le B.1 (off := 5) (tgt := 75) (by decide +kernel) (by decide) hf (fun hf => ?_) (fun hf => ?_)
  · refine B_blk B jlkX10_ok jcl_SKF [.aload_n 0] (by decide +kernel) (ls' := [(0, jR 74), (1, jI v1), (2, jI v2), (3, jI v3), (4, jI v4), (5, jI v5)]) (st' := [jR 74]) rfl (p1 := 76) rfl ?_
    obtain ⟨r3, h3, hf⟩ := jbd hf
    refine B_callV B (Nat.le_refl _) (μ' := r3) (k' := 0) (n' := 0) ca_X10_dry1 in_X10_dry1 se_X10_dry1 lk_X10_234 (t_X10_dry1 B.tr h3) (Nat.le_refl _) rfl rfl rfl (rest := []) rfl rfl (Nat.le_of_ble_eq_true rfl) (by decide +kernel) rfl rfl (st' := []) rfl ?_
    refine B_blk B jlkX10_ok jcl_SKF [.aload_n 0, .iload_n 2, .iload 5] (by decide +kernel) (ls' := [(0, jR 74), (1, jI v1), (2, jI v2), (3, jI v3), (4, jI v4), (5, jI v5)]) (st' := [jI v5, jI v2, jR 74]) rfl (p1 := 83) rfl ?_
    obtain ⟨r4, h4, hf⟩ := jbd hf
    refine B_callV B (Nat.le_refl _) (μ' := r3) (k' := 0) (n' := 0) ca_X10_mayBegin in_X10_mayBegin se_X10_mayBegin lk_X10_237 (t_X10_mayBegin B.tr h4) (Nat.le_refl _) rfl rfl rfl (rest := []) rfl rfl (Nat.le_of_ble_eq_true rfl) (by decide +kernel) rfl rfl (st' := [jI r4]) rfl ?_
    refine J_if_eq B.1 (off := 17) (tgt := 103) (by decide +kernel) (by decide) hf (fun hf => ?_) (fun hf => ?_)
    · refine B_blk B jlkX10_ok jcl_SKF [.iconst (-1)] (by decide +kernel) (ls' := [(0, jR 74), (1, jI v1), (2, jI v2), (3, jI v3), (4, jI v4), (5, jI v5)]) (st' := [jI (-1)]) rfl (p1 := 104) rfl ?_
      cases hf
      exact B_retI B hq rfl (Nat.le_of_ble_eq_true rfl) (Nat.le_of_ble_eq_true rfl) (by decide +kernel)
    · refine B_blk B jlkX10_ok jcl_SKF [.aload_n 0, .iload 4] (by decide +kernel) (ls' := [(0, jR 74), (1, jI v1), (2, jI v2), (3, jI v3), (4, jI v4), (5, jI v5)]) (st' := [jI v4, jR 74]) rfl (p1 := 92) rfl ?_
      obtain ⟨r5, h5, hf⟩ := jbd hf
      refine B_callV B (Nat.le_refl _) (μ' := r3) (k' := 0) (n' := 0) ca_X10_leftOf in_X10_leftOf se_X10_leftOf lk_X10_247 (t_X10_leftOf B.tr h5) (Nat.le_refl _) rfl rfl rfl (rest := []) rfl rfl (Nat.le_of_ble_eq_true rfl) (by decide +kernel) rfl rfl (st' := [jI r5]) rfl ?_
      refine B_blk B jlkX10_ok jcl_SKF [.aload_n 0, .iload_n 2] (by decide +kernel) (ls' := [(0, jR 74), (1, jI v1), (2, jI v2), (3, jI v3), (4, jI v4), (5, jI v5)]) (st' := [jI v2, jR 74, jI r5]) rfl (p1 := 97) rfl ?_
      obtain ⟨r6, h6, hf⟩ := jbd hf
      refine B_callV B (Nat.le_refl _) (μ' := r3) (k' := 0) (n' := 0) ca_X10_tinsFor in_X10_tinsFor se_X10_tinsFor lk_X10_241 (t_X10_tinsFor B.tr h6) (Nat.le_refl _) rfl rfl rfl (rest := [jI r5]) rfl rfl (Nat.le_of_ble_eq_true rfl) (by decide +kernel) rfl rfl (st' := [jI r6, jI r5]) rfl ?_
      refine J_icmp_ge B.1 (off := 5) (tgt := 105) (by decide +kernel) (by decide) hf (fun hf => ?_) (fun hf => ?_)
      · refine B_blk B jlkX10_ok jcl_SKF [.aload_n 0, .iload_n 1, .iload_n 2, .iload_n 3, .iload 5] (by decide +kernel) (ls' := [(0, jR 74), (1, jI v1), (2, jI v2), (3, jI v3), (4, jI v4), (5, jI v5)]) (st' := [jI v5, jI v3, jI v2, jI v1, jR 74]) rfl (p1 := 111) rfl ?_
        obtain ⟨r7, h7, hf⟩ := jbd hf
        refine B_callV B (Nat.le_refl _) (μ' := r7.2) (k' := 0) (n' := 0) ca_X10_endOf in_X10_endOf se_X10_endOf lk_X10_230 (t_X10_endOf B.tr h7) (Nat.le_refl _) rfl rfl rfl (rest := []) rfl rfl (Nat.le_of_ble_eq_true rfl) (by decide +kernel) rfl rfl (st' := [jI r7.1]) rfl ?_
        refine B_blk B jlkX10_ok jcl_SKF [.istore 6, .iload 6, .iconst (-1)] (by decide +kernel) (ls' := [(0, jR 74), (1, jI v1), (2, jI v2), (3, jI v3), (4, jI v4), (5, jI v5), (6, jI r7.1)]) (st' := [jI (-1), jI r7.1]) rfl (p1 := 119) rfl ?_
        refine J_icmp_ne B.1 (off := 5) (tgt := 124) (by decide +kernel) (by decide) hf (fun hf => ?_) (fun hf => ?_)
        · refine B_blk B jlkX10_ok jcl_SKF [.iconst (-1)] (by decide +kernel) (ls' := [(0, jR 74), (1, jI v1), (2, jI v2), (3, jI v3), (4, jI v4), (5, jI v5), (6, jI r7.1)]) (st' := [jI (-1)]) rfl (p1 := 123) rfl ?_
          cases hf
          exact B_retI B hq rfl (Nat.le_of_ble_eq_true rfl) (Nat.le_of_ble_eq_true rfl) (by decide +kernel)
        · refine B_blk B jlkX10_ok jcl_SKF [.sipush 376, .bipush 8, .aload_n 0, .getfield 7, .bipush 8] (by decide +kernel) (ls' := [(0, jR 74), (1, jI v1), (2, jI v2), (3, jI v3), (4, jI v4), (5, jI v5), (6, jI r7.1)]) (st' := [jI 8, jR 75, jI 8, jI 376]) rfl (p1 := 135) rfl ?_
          refine K_iald (lenI := 2083) B rfl rfl (by decide) (by decide +kernel) ?_
          refine B_blk B jlkX10_ok jcl_SKF [.imul, .iadd, .istore 7, .aload_n 0, .getfield 7, .iload 7, .iload_n 2] (by decide +kernel) (ls' := [(0, jR 74), (1, jI v1), (2, jI v2), (3, jI v3), (4, jI v4), (5, jI v5), (6, jI r7.1), (7, jI (jW (376 + jW (8 * r7.2 75 8))))]) (st' := [jI v2, jI (jW (376 + jW (8 * r7.2 75 8))), jR 75]) rfl (p1 := 147) rfl ?_
          obtain ⟨g24, hf⟩ := jgd hf
          refine K_iast (lenI := 2083) B rfl rfl g24 (by decide +kernel) ?_
          obtain ⟨m8, hm8, hf⟩ := jlt_s hf
          rw [hm8]
          refine B_blk B jlkX10_ok jcl_SKF [.aload_n 0, .getfield 7, .iload 7, .iconst 1, .iadd, .iload_n 3] (by decide +kernel) (ls' := [(0, jR 74), (1, jI v1), (2, jI v2), (3, jI v3), (4, jI v4), (5, jI v5), (6, jI r7.1), (7, jI (jW (376 + jW (8 * r7.2 75 8))))]) (st' := [jI v3, jI (jW (jW (376 + jW (8 * r7.2 75 8)) + 1)), jR 75]) rfl (p1 := 157) rfl ?_
          obtain ⟨g23, hf⟩ := jgd hf
          refine K_iast (lenI := 2083) B rfl rfl g23 (by decide +kernel) ?_
          obtain ⟨m9, hm9, hf⟩ := jlt_s hf
          rw [hm9]
          refine B_blk B jlkX10_ok jcl_SKF [.aload_n 0, .getfield 7, .iload 7, .iconst 2, .iadd, .iload 4] (by decide +kernel) (ls' := [(0, jR 74), (1, jI v1), (2, jI v2), (3, jI v3), (4, jI v4), (5, jI v5), (6, jI r7.1), (7, jI (jW (376 + jW (8 * r7.2 75 8))))]) (st' := [jI v4, jI (jW (jW (376 + jW (8 * r7.2 75 8)) + 2)), jR 75]) rfl (p1 := 168) rfl ?_
          obtain ⟨g22, hf⟩ := jgd hf
          refine K_iast (lenI := 2083) B rfl rfl g22 (by decide +kernel) ?_
          obtain ⟨m10, hm10, hf⟩ := jlt_s hf
          rw [hm10]
          refine B_blk B jlkX10_ok jcl_SKF [.aload_n 0, .getfield 7, .iload 7, .iconst 3, .iadd, .iload 5] (by decide +kernel) (ls' := [(0, jR 74), (1, jI v1), (2, jI v2), (3, jI v3), (4, jI v4), (5, jI v5), (6, jI r7.1), (7, jI (jW (376 + jW (8 * r7.2 75 8))))]) (st' := [jI v5, jI (jW (jW (376 + jW (8 * r7.2 75 8)) + 3)), jR 75]) rfl (p1 := 179) rfl ?_
          obtain ⟨g21, hf⟩ := jgd hf
          refine K_iast (lenI := 2083) B rfl rfl g21 (by decide +kernel) ?_
          obtain ⟨m11, hm11, hf⟩ := jlt_s hf
          rw [hm11]
          refine B_blk B jlkX10_ok jcl_SKF [.aload_n 0, .getfield 7, .iload 7, .iconst 4, .iadd, .iload 6] (by decide +kernel) (ls' := [(0, jR 74), (1, jI v1), (2, jI v2), (3, jI v3), (4, jI v4), (5, jI v5), (6, jI r7.1), (7, jI (jW (376 + jW (8 * r7.2 75 8))))]) (st' := [jI r7.1, jI (jW (jW (376 + jW (8 * r7.2 75 8)) + 4)), jR 75]) rfl (p1 := 190) rfl ?_
          obtain ⟨g20, hf⟩ := jgd hf
          refine K_iast (lenI := 2083) B rfl rfl g20 (by decide +kernel) ?_
          obtain ⟨m12, hm12, hf⟩ := jlt_s hf
          rw [hm12]
          refine B_blk B jlkX10_ok jcl_SKF [.aload_n 0, .getfield 7, .iload 7, .iconst 5, .iadd, .aload_n 0, .getfield 7, .bipush 11] (by decide +kernel) (ls' := [(0, jR 74), (1, jI v1), (2, jI v2), (3, jI v3), (4, jI v4), (5, jI v5), (6, jI r7.1), (7, jI (jW (376 + jW (8 * r7.2 75 8))))]) (st' := [jI 11, jR 75, jI (jW (jW (376 + jW (8 * r7.2 75 8)) + 5)), jR 75]) rfl (p1 := 205) rfl ?_
          refine K_iald (lenI := 2083) B rfl rfl (by decide) (by decide +kernel) ?_
          obtain ⟨g19, hf⟩ := jgd hf
          refine K_iast (lenI := 2083) B rfl rfl g19 (by decide +kernel) ?_
          obtain ⟨m13, hm13, hf⟩ := jlt_s hf
          rw [hm13]
          refine B_blk B jlkX10_ok jcl_SKF [.aload_n 0, .getfield 7, .iload 7, .bipush 6, .iadd, .iconst (-1)] (by decide +kernel) (ls' := [(0, jR 74), (1, jI v1), (2, jI v2), (3, jI v3), (4, jI v4), (5, jI v5), (6, jI r7.1), (7, jI (jW (376 + jW (8 * r7.2 75 8))))]) (st' := [jI (-1), jI (jW (jW (376 + jW (8 * r7.2 75 8)) + 6)), jR 75]) rfl (p1 := 217) rfl ?_
          obtain ⟨g18, hf⟩ := jgd hf
          refine K_iast (lenI := 2083) B rfl rfl g18 (by decide +kernel) ?_
          obtain ⟨m14, hm14, hf⟩ := jlt_s hf
          rw [hm14]
          refine B_blk B jlkX10_ok jcl_SKF [.aload_n 0, .getfield 7, .iload 7, .bipush 7, .iadd, .iload_n 1] (by decide +kernel) (ls' := [(0, jR 74), (1, jI v1), (2, jI v2), (3, jI v3), (4, jI v4), (5, jI v5), (6, jI r7.1), (7, jI (jW (376 + jW (8 * r7.2 75 8))))]) (st' := [jI v1, jI (jW (jW (376 + jW (8 * r7.2 75 8)) + 7)), jR 75]) rfl (p1 := 228) rfl ?_
          obtain ⟨g17, hf⟩ := jgd hf
          refine K_iast (lenI := 2083) B rfl rfl g17 (by decide +kernel) ?_
          obtain ⟨m15, hm15, hf⟩ := jlt_s hf
          rw [hm15]
          refine B_blk B jlkX10_ok jcl_SKF [.aload_n 0, .getfield 7, .bipush 8, .dup2] (by decide +kernel) (ls' := [(0, jR 74), (1, jI v1), (2, jI v2), (3, jI v3), (4, jI v4), (5, jI v5), (6, jI r7.1), (7, jI (jW (376 + jW (8 * r7.2 75 8))))]) (st' := [jI 8, jR 75, jI 8, jR 75]) rfl (p1 := 236) rfl ?_
          refine K_iald (lenI := 2083) B rfl rfl (by decide) (by decide +kernel) ?_
          refine B_blk B jlkX10_ok jcl_SKF [.iconst 1, .iadd] (by decide +kernel) (ls' := [(0, jR 74), (1, jI v1), (2, jI v2), (3, jI v3), (4, jI v4), (5, jI v5), (6, jI r7.1), (7, jI (jW (376 + jW (8 * r7.2 75 8))))]) (st' := [jI (jW (m15 75 8 + 1)), jI 8, jR 75]) rfl (p1 := 239) rfl ?_
          refine K_iast (lenI := 2083) B rfl rfl (by decide) (by decide +kernel) ?_
          obtain ⟨m16, hm16, hf⟩ := jlt_s hf
          rw [hm16]
          refine B_blk B jlkX10_ok jcl_SKF [.aload_n 0, .getfield 7, .bipush 8] (by decide +kernel) (ls' := [(0, jR 74), (1, jI v1), (2, jI v2), (3, jI v3), (4, jI v4), (5, jI v5), (6, jI r7.1), (7, jI (jW (376 + jW (8 * r7.2 75 8))))]) (st' := [jI 8, jR 75]) rfl (p1 := 246) rfl ?_
          refine K_iald (lenI := 2083) B rfl rfl (by decide) (by decide +kernel) ?_
          refine B_blk B jlkX10_ok jcl_SKF [.iconst 1, .isub] (by decide +kernel) (ls' := [(0, jR 74), (1, jI v1), (2, jI v2), (3, jI v3), (4, jI v4), (5, jI v5), (6, jI r7.1), (7, jI (jW (376 + jW (8 * r7.2 75 8))))]) (st' := [jI (jW (m16 75 8 - 1))]) rfl (p1 := 249) rfl ?_
          cases hf
          exact B_retI B hq rfl (Nat.le_of_ble_eq_true rfl) (Nat.le_of_ble_eq_true rfl) (by decide +kernel)
      · refine B_blk B jlkX10_ok jcl_SKF [.iconst (-1)] (by decide +kernel) (ls' := [(0, jR 74), (1, jI v1), (2, jI v2), (3, jI v3), (4, jI v4), (5, jI v5)]) (st' := [jI (-1)]) rfl (p1 := 104) rfl ?_
        cases hf
        exact B_retI B hq rfl (Nat.le_of_ble_eq_true rfl) (Nat.le_of_ble_eq_true rfl) (by decide +kernel)
  · refine B_blk B jlkX10_ok jcl_SKF [.iconst 0] (by decide +kernel) (ls' := [(0, jR 74), (1, jI v1), (2, jI v2), (3, jI v3), (4, jI v4), (5, jI v5)]) (st' := [jI 0]) rfl (p1 := 74) rfl ?_
    cases hf
    exact B_retI B hq rfl (Nat.le_of_ble_eq_true rfl) (Nat.le_of_ble_eq_true rfl) (by decide +kernel)
theorem t_X10_job_J42 {X : jX} (B : jB X cX10_job RX10 8 SKF.length rm_X10_job (some .int)) (v1 : Int) (v2 : Int) (v3 : Int) (v4 : Int) (v5 : Int) (m : jMu) (r : (Int × jMu)) (hf : f_X10_job_J42 v1 v2 v3 v4 v5 m = some r) (hq : jQ X (.inl (some (jI r.1))) SKF r.2 rm_X10_job.cells rm_X10_job.slots) : J X SKF m 0 0 42 [(0, jR 74), (1, jI v1), (2, jI v2), (3, jI v3), (4, jI v4), (5, jI v5)] [jR 74] := by
  unfold f_X10_job_J42 at hf
  refine B_blk B jlkX10_ok jcl_SKF [.iconst 1, .goto 20] (by decide +kernel) (ls' := [(0, jR 74), (1, jI v1), (2, jI v2), (3, jI v3), (4, jI v4), (5, jI v5)]) (st' := [jI 1, jR 74]) rfl (p1 := 63) rfl ?_
  exact t_X10_job_J63 B v1 v2 v3 v4 v5 1 m _ hf hq
theorem t_X10_job {l : Launch} {G : jG} (hl : l.stackTraces = false) {a0 : Int} {a1 : Int} {a2 : Int} {a3 : Int} {a4 : Int} {m : jMu} {r : (Int × jMu)} (hf : f_X10_job a0 a1 a2 a3 a4 m = some r) : jCt l G yX10_job (.code yX10_job cX10_job 8 (some .int) :: jWG) rm_X10_job [jR 74, jI a0, jI a1, jI a2, jI a3, jI a4] SKF m (.inl (some (jI r.1))) SKF r.2 := by
  unfold f_X10_job at hf
  refine J_start (ls0 := [(0, jR 74), (1, jI a0), (2, jI a1), (3, jI a2), (4, jI a3), (5, jI a4)]) (by decide +kernel) hl (Nat.le_of_ble_eq_true rfl) rfl fun X C hN hn hR hr hnm hno hq => ?_
  have B : jB X cX10_job RX10 8 SKF.length rm_X10_job (some .int) := ⟨C, hN, Nat.le_of_eq hn, hR, hr⟩
  refine B_blk B jlkX10_ok jcl_SKF [.aload_n 0, .aload_n 0, .iload_n 1] (by decide +kernel) (ls' := [(0, jR 74), (1, jI a0), (2, jI a1), (3, jI a2), (4, jI a3), (5, jI a4)]) (st' := [jI a0, jR 74, jR 74]) rfl (p1 := 3) rfl ?_
  obtain ⟨r1, h1, hf⟩ := jbd hf
  refine B_callV B (Nat.le_refl _) (μ' := m) (k' := 0) (n' := 0) ca_X10_isTerms in_X10_isTerms se_X10_isTerms lk_X10_203 (t_X10_isTerms B.tr h1) (Nat.le_refl _) rfl rfl rfl (rest := [jR 74]) rfl rfl (Nat.le_of_ble_eq_true rfl) (by decide +kernel) rfl rfl (st' := [jI r1, jR 74]) rfl ?_
  refine J_if_eq B.1 (off := 36) (tgt := 42) (by decide +kernel) (by decide) hf (fun hf => ?_) (fun hf => ?_)
  · exact t_X10_job_J42 B a0 a1 a2 a3 a4 m _ hf hq
  · refine B_blk B jlkX10_ok jcl_SKF [.aload_n 0, .iload_n 2] (by decide +kernel) (ls' := [(0, jR 74), (1, jI a0), (2, jI a1), (3, jI a2), (4, jI a3), (5, jI a4)]) (st' := [jI a1, jR 74, jR 74]) rfl (p1 := 11) rfl ?_
    obtain ⟨r25, h25, hf⟩ := jbd hf
    refine B_callV B (Nat.le_refl _) (μ' := m) (k' := 0) (n' := 0) ca_X10_isBay in_X10_isBay se_X10_isBay lk_X10_206 (t_X10_isBay B.tr h25) (Nat.le_refl _) rfl rfl rfl (rest := [jR 74]) rfl rfl (Nat.le_of_ble_eq_true rfl) (by decide +kernel) rfl rfl (st' := [jI r25, jR 74]) rfl ?_
    refine J_if_eq B.1 (off := 28) (tgt := 42) (by decide +kernel) (by decide) hf (fun hf => ?_) (fun hf => ?_)
    · exact t_X10_job_J42 B a0 a1 a2 a3 a4 m _ hf hq
    · refine B_blk B jlkX10_ok jcl_SKF [.aload_n 0, .iload_n 3] (by decide +kernel) (ls' := [(0, jR 74), (1, jI a0), (2, jI a1), (3, jI a2), (4, jI a3), (5, jI a4)]) (st' := [jI a2, jR 74, jR 74]) rfl (p1 := 19) rfl ?_
      obtain ⟨r26, h26, hf⟩ := jbd hf
      refine B_callV B (Nat.le_refl _) (μ' := m) (k' := 0) (n' := 0) ca_X10_isGang in_X10_isGang se_X10_isGang lk_X10_224 (t_X10_isGang B.tr h26) (Nat.le_refl _) rfl rfl rfl (rest := [jR 74]) rfl rfl (Nat.le_of_ble_eq_true rfl) (by decide +kernel) rfl rfl (st' := [jI r26, jR 74]) rfl ?_
      refine J_if_eq B.1 (off := 20) (tgt := 42) (by decide +kernel) (by decide) hf (fun hf => ?_) (fun hf => ?_)
      · exact t_X10_job_J42 B a0 a1 a2 a3 a4 m _ hf hq
      · refine B_blk B jlkX10_ok jcl_SKF [.aload_n 0, .iload 4] (by decide +kernel) (ls' := [(0, jR 74), (1, jI a0), (2, jI a1), (3, jI a2), (4, jI a3), (5, jI a4)]) (st' := [jI a3, jR 74, jR 74]) rfl (p1 := 28) rfl ?_
        obtain ⟨r27, h27, hf⟩ := jbd hf
        refine B_callV B (Nat.le_refl _) (μ' := m) (k' := 0) (n' := 0) ca_X10_isBatch in_X10_isBatch se_X10_isBatch lk_X10_244 (t_X10_isBatch B.tr h27) (Nat.le_refl _) rfl rfl rfl (rest := [jR 74]) rfl rfl (Nat.le_of_ble_eq_true rfl) (by decide +kernel) rfl rfl (st' := [jI r27, jR 74]) rfl ?_
        refine J_if_eq B.1 (off := 11) (tgt := 42) (by decide +kernel) (by decide) hf (fun hf => ?_) (fun hf => ?_)
        · exact t_X10_job_J42 B a0 a1 a2 a3 a4 m _ hf hq
        · refine B_blk B jlkX10_ok jcl_SKF [.iload 5] (by decide +kernel) (ls' := [(0, jR 74), (1, jI a0), (2, jI a1), (3, jI a2), (4, jI a3), (5, jI a4)]) (st' := [jI a4, jR 74]) rfl (p1 := 36) rfl ?_
          obtain ⟨r28, h28, hf⟩ := jbd hf
          refine B_callS B (Nat.le_refl _) (μ' := m) (k' := 0) (n' := 0) ca_X10_isMoment sa_X10_isMoment lk_X10_227 (t_X10_isMoment B.tr jcl_SKF h28) (Nat.le_refl _) rfl (rest := [jR 74]) rfl rfl (Nat.le_of_ble_eq_true rfl) (by decide +kernel) rfl rfl (st' := [jI r28, jR 74]) rfl ?_
          refine J_if_ne B.1 (off := 7) (tgt := 46) (by decide +kernel) (by decide) hf (fun hf => ?_) (fun hf => ?_)
          · exact t_X10_job_J42 B a0 a1 a2 a3 a4 m _ hf hq
          · refine B_blk B jlkX10_ok jcl_SKF [.aload_n 0, .getfield 7, .bipush 8] (by decide +kernel) (ls' := [(0, jR 74), (1, jI a0), (2, jI a1), (3, jI a2), (4, jI a3), (5, jI a4)]) (st' := [jI 8, jR 75, jR 74]) rfl (p1 := 52) rfl ?_
            refine K_iald (lenI := 2083) B rfl rfl (by decide) (by decide +kernel) ?_
            refine B_blk B jlkX10_ok jcl_SKF [.bipush 40] (by decide +kernel) (ls' := [(0, jR 74), (1, jI a0), (2, jI a1), (3, jI a2), (4, jI a3), (5, jI a4)]) (st' := [jI 40, jI (m 75 8), jR 74]) rfl (p1 := 55) rfl ?_
            refine J_icmp_ne B.1 (off := 7) (tgt := 62) (by decide +kernel) (by decide) hf (fun hf => ?_) (fun hf => ?_)
            · refine B_blk B jlkX10_ok jcl_SKF [.iconst 2, .goto 4] (by decide +kernel) (ls' := [(0, jR 74), (1, jI a0), (2, jI a1), (3, jI a2), (4, jI a3), (5, jI a4)]) (st' := [jI 2, jR 74]) rfl (p1 := 63) rfl ?_
              exact t_X10_job_J63 B a0 a1 a2 a3 a4 2 m _ hf hq
            · refine B_blk B jlkX10_ok jcl_SKF [.iconst 0] (by decide +kernel) (ls' := [(0, jR 74), (1, jI a0), (2, jI a1), (3, jI a2), (4, jI a3), (5, jI a4)]) (st' := [jI 0, jR 74]) rfl (p1 := 63) rfl ?_
              exact t_X10_job_J63 B a0 a1 a2 a3 a4 0 m _ hf hq

def rm_X10_isJob : Room := { frames := 4, cells := 0, slots := 0, locals := 86 }
def f_X10_isJob (a0 : Int) (m : jMu) : Option Int :=
  (f_X10_isIn a0 0 (jW (m 75 8 - 1))).bind fun r1 => (if r1 = 0 ∨ r1 = 1 then some r1 else none)
theorem t_X10_isJob {l : Launch} {G : jG} (hl : l.stackTraces = false) {a0 : Int} {m : jMu} {r : Int} (hf : f_X10_isJob a0 m = some r) : jCt l G yX10_isJob (.code yX10_isJob cX10_isJob 2 (some .boolean) :: jWG) rm_X10_isJob [jR 74, jI a0] SKF m (.inl (some (jI r))) SKF m := by
  unfold f_X10_isJob at hf
  refine J_start (ls0 := [(0, jR 74), (1, jI a0)]) (by decide +kernel) hl (Nat.le_of_ble_eq_true rfl) rfl fun X C hN hn hR hr hnm hno hq => ?_
  have B : jB X cX10_isJob RX10 2 SKF.length rm_X10_isJob (some .boolean) := ⟨C, hN, Nat.le_of_eq hn, hR, hr⟩
  refine B_blk B jlkX10_ok jcl_SKF [.iload_n 1, .iconst 0, .aload_n 0, .getfield 7, .bipush 8] (by decide +kernel) (ls' := [(0, jR 74), (1, jI a0)]) (st' := [jI 8, jR 75, jI 0, jI a0]) rfl (p1 := 8) rfl ?_
  refine K_iald (lenI := 2083) B rfl rfl (by decide) (by decide +kernel) ?_
  refine B_blk B jlkX10_ok jcl_SKF [.iconst 1, .isub] (by decide +kernel) (ls' := [(0, jR 74), (1, jI a0)]) (st' := [jI (jW (m 75 8 - 1)), jI 0, jI a0]) rfl (p1 := 11) rfl ?_
  obtain ⟨r1, h1, hf⟩ := jbd hf
  refine B_callS B (Nat.le_refl _) (μ' := m) (k' := 0) (n' := 0) ca_X10_isIn sa_X10_isIn lk_X10_54 (t_X10_isIn B.tr jcl_SKF h1) (Nat.le_refl _) rfl (rest := []) rfl rfl (Nat.le_of_ble_eq_true rfl) (by decide +kernel) rfl rfl (st' := [jI r1]) rfl ?_
  obtain ⟨gz, hf⟩ := jgd hf
  cases hf
  exact B_retZ B gz hq rfl (Nat.le_of_ble_eq_true rfl) (Nat.le_of_ble_eq_true rfl) (by decide +kernel)

def rm_X10_look : Room := { frames := 6, cells := 0, slots := 0, locals := 107 }
def f_X10_look (a0 : Int) (a1 : Int) (m : jMu) : Option (Int × jMu) :=
  (f_X10_isJob a0 m).bind fun r1 => (if r1 = 0 then (jlt (jup m 74 0 1) fun m2 => (if m2 74 0 ≤ 0 then (f_X10_ofJob a0 a1 m2).bind fun r3 => some (r3, m2) else some (0, m2))) else (f_X10_isIn a1 0 7).bind fun r4 => (if r4 = 0 then (jlt (jup m 74 0 2) fun m5 => (if m5 74 0 ≤ 0 then (f_X10_ofJob a0 a1 m5).bind fun r6 => some (r6, m5) else some (0, m5))) else (jlt (jup m 74 0 0) fun m7 => (if m7 74 0 ≤ 0 then (f_X10_ofJob a0 a1 m7).bind fun r8 => some (r8, m7) else some (0, m7)))))
theorem t_X10_look {l : Launch} {G : jG} (hl : l.stackTraces = false) {a0 : Int} {a1 : Int} {m : jMu} {r : (Int × jMu)} (hf : f_X10_look a0 a1 m = some r) : jCt l G yX10_look (.code yX10_look cX10_look 3 (some .int) :: jWG) rm_X10_look [jR 74, jI a0, jI a1] SKF m (.inl (some (jI r.1))) SKF r.2 := by
  unfold f_X10_look at hf
  refine J_start (ls0 := [(0, jR 74), (1, jI a0), (2, jI a1)]) (by decide +kernel) hl (Nat.le_of_ble_eq_true rfl) rfl fun X C hN hn hR hr hnm hno hq => ?_
  have B : jB X cX10_look RX10 3 SKF.length rm_X10_look (some .int) := ⟨C, hN, Nat.le_of_eq hn, hR, hr⟩
  refine B_blk B jlkX10_ok jcl_SKF [.aload_n 0, .aload_n 0, .iload_n 1] (by decide +kernel) (ls' := [(0, jR 74), (1, jI a0), (2, jI a1)]) (st' := [jI a0, jR 74, jR 74]) rfl (p1 := 3) rfl ?_
  obtain ⟨r1, h1, hf⟩ := jbd hf
  refine B_callV B (Nat.le_refl _) (μ' := m) (k' := 0) (n' := 0) ca_X10_isJob in_X10_isJob se_X10_isJob lk_X10_250 (t_X10_isJob B.tr h1) (Nat.le_refl _) rfl rfl rfl (rest := [jR 74]) rfl rfl (Nat.le_of_ble_eq_true rfl) (by decide +kernel) rfl rfl (st' := [jI r1, jR 74]) rfl ?_
  refine J_if_ne B.1 (off := 7) (tgt := 13) (by decide +kernel) (by decide) hf (fun hf => ?_) (fun hf => ?_)
  · refine B_blk B jlkX10_ok jcl_SKF [.iconst 1, .goto 18] (by decide +kernel) (ls' := [(0, jR 74), (1, jI a0), (2, jI a1)]) (st' := [jI 1, jR 74]) rfl (p1 := 28) rfl ?_
    refine K_putI (jI' := 0) B jp_X10_51 rfl rfl rfl (by decide +kernel) ?_
    obtain ⟨m2, hm2, hf⟩ := jlt_s hf
    rw [hm2]
    refine B_blk B jlkX10_ok jcl_SKF [.aload_n 0, .getfield 51] (by decide +kernel) (ls' := [(0, jR 74), (1, jI a0), (2, jI a1)]) (st' := [jI (m2 74 0)]) rfl (p1 := 35) rfl ?_
    refine J_if_le B.1 (off := 5) (tgt := 40) (by decide +kernel) (by decide) hf (fun hf => ?_) (fun hf => ?_)
    · refine B_blk B jlkX10_ok jcl_SKF [.aload_n 0, .iload_n 1, .iload_n 2] (by decide +kernel) (ls' := [(0, jR 74), (1, jI a0), (2, jI a1)]) (st' := [jI a1, jI a0, jR 74]) rfl (p1 := 43) rfl ?_
      obtain ⟨r3, h3, hf⟩ := jbd hf
      refine B_callV B (Nat.le_refl _) (μ' := m2) (k' := 0) (n' := 0) ca_X10_ofJob in_X10_ofJob se_X10_ofJob lk_X10_218 (t_X10_ofJob B.tr h3) (Nat.le_refl _) rfl rfl rfl (rest := []) rfl rfl (Nat.le_of_ble_eq_true rfl) (by decide +kernel) rfl rfl (st' := [jI r3]) rfl ?_
      cases hf
      exact B_retI B hq rfl (Nat.le_of_ble_eq_true rfl) (Nat.le_of_ble_eq_true rfl) (by decide +kernel)
    · refine B_blk B jlkX10_ok jcl_SKF [.iconst 0] (by decide +kernel) (ls' := [(0, jR 74), (1, jI a0), (2, jI a1)]) (st' := [jI 0]) rfl (p1 := 39) rfl ?_
      cases hf
      exact B_retI B hq rfl (Nat.le_of_ble_eq_true rfl) (Nat.le_of_ble_eq_true rfl) (by decide +kernel)
  · refine B_blk B jlkX10_ok jcl_SKF [.iload_n 2, .iconst 0, .bipush 7] (by decide +kernel) (ls' := [(0, jR 74), (1, jI a0), (2, jI a1)]) (st' := [jI 7, jI 0, jI a1, jR 74]) rfl (p1 := 17) rfl ?_
    obtain ⟨r4, h4, hf⟩ := jbd hf
    refine B_callS B (Nat.le_refl _) (μ' := m) (k' := 0) (n' := 0) ca_X10_isIn sa_X10_isIn lk_X10_54 (t_X10_isIn B.tr jcl_SKF h4) (Nat.le_refl _) rfl (rest := [jR 74]) rfl rfl (Nat.le_of_ble_eq_true rfl) (by decide +kernel) rfl rfl (st' := [jI r4, jR 74]) rfl ?_
    refine J_if_ne B.1 (off := 7) (tgt := 27) (by decide +kernel) (by decide) hf (fun hf => ?_) (fun hf => ?_)
    · refine B_blk B jlkX10_ok jcl_SKF [.iconst 2, .goto 4] (by decide +kernel) (ls' := [(0, jR 74), (1, jI a0), (2, jI a1)]) (st' := [jI 2, jR 74]) rfl (p1 := 28) rfl ?_
      refine K_putI (jI' := 0) B jp_X10_51 rfl rfl rfl (by decide +kernel) ?_
      obtain ⟨m5, hm5, hf⟩ := jlt_s hf
      rw [hm5]
      refine B_blk B jlkX10_ok jcl_SKF [.aload_n 0, .getfield 51] (by decide +kernel) (ls' := [(0, jR 74), (1, jI a0), (2, jI a1)]) (st' := [jI (m5 74 0)]) rfl (p1 := 35) rfl ?_
      refine J_if_le B.1 (off := 5) (tgt := 40) (by decide +kernel) (by decide) hf (fun hf => ?_) (fun hf => ?_)
      · refine B_blk B jlkX10_ok jcl_SKF [.aload_n 0, .iload_n 1, .iload_n 2] (by decide +kernel) (ls' := [(0, jR 74), (1, jI a0), (2, jI a1)]) (st' := [jI a1, jI a0, jR 74]) rfl (p1 := 43) rfl ?_
        obtain ⟨r6, h6, hf⟩ := jbd hf
        refine B_callV B (Nat.le_refl _) (μ' := m5) (k' := 0) (n' := 0) ca_X10_ofJob in_X10_ofJob se_X10_ofJob lk_X10_218 (t_X10_ofJob B.tr h6) (Nat.le_refl _) rfl rfl rfl (rest := []) rfl rfl (Nat.le_of_ble_eq_true rfl) (by decide +kernel) rfl rfl (st' := [jI r6]) rfl ?_
        cases hf
        exact B_retI B hq rfl (Nat.le_of_ble_eq_true rfl) (Nat.le_of_ble_eq_true rfl) (by decide +kernel)
      · refine B_blk B jlkX10_ok jcl_SKF [.iconst 0] (by decide +kernel) (ls' := [(0, jR 74), (1, jI a0), (2, jI a1)]) (st' := [jI 0]) rfl (p1 := 39) rfl ?_
        cases hf
        exact B_retI B hq rfl (Nat.le_of_ble_eq_true rfl) (Nat.le_of_ble_eq_true rfl) (by decide +kernel)
    · refine B_blk B jlkX10_ok jcl_SKF [.iconst 0] (by decide +kernel) (ls' := [(0, jR 74), (1, jI a0), (2, jI a1)]) (st' := [jI 0, jR 74]) rfl (p1 := 28) rfl ?_
      refine K_putI (jI' := 0) B jp_X10_51 rfl rfl rfl (by decide +kernel) ?_
      obtain ⟨m7, hm7, hf⟩ := jlt_s hf
      rw [hm7]
      refine B_blk B jlkX10_ok jcl_SKF [.aload_n 0, .getfield 51] (by decide +kernel) (ls' := [(0, jR 74), (1, jI a0), (2, jI a1)]) (st' := [jI (m7 74 0)]) rfl (p1 := 35) rfl ?_
      refine J_if_le B.1 (off := 5) (tgt := 40) (by decide +kernel) (by decide) hf (fun hf => ?_) (fun hf => ?_)
      · refine B_blk B jlkX10_ok jcl_SKF [.aload_n 0, .iload_n 1, .iload_n 2] (by decide +kernel) (ls' := [(0, jR 74), (1, jI a0), (2, jI a1)]) (st' := [jI a1, jI a0, jR 74]) rfl (p1 := 43) rfl ?_
        obtain ⟨r8, h8, hf⟩ := jbd hf
        refine B_callV B (Nat.le_refl _) (μ' := m7) (k' := 0) (n' := 0) ca_X10_ofJob in_X10_ofJob se_X10_ofJob lk_X10_218 (t_X10_ofJob B.tr h8) (Nat.le_refl _) rfl rfl rfl (rest := []) rfl rfl (Nat.le_of_ble_eq_true rfl) (by decide +kernel) rfl rfl (st' := [jI r8]) rfl ?_
        cases hf
        exact B_retI B hq rfl (Nat.le_of_ble_eq_true rfl) (Nat.le_of_ble_eq_true rfl) (by decide +kernel)
      · refine B_blk B jlkX10_ok jcl_SKF [.iconst 0] (by decide +kernel) (ls' := [(0, jR 74), (1, jI a0), (2, jI a1)]) (st' := [jI 0]) rfl (p1 := 39) rfl ?_
        cases hf
        exact B_retI B hq rfl (Nat.le_of_ble_eq_true rfl) (Nat.le_of_ble_eq_true rfl) (by decide +kernel)

def rm_X10_peel : Room := { frames := 6, cells := 0, slots := 0, locals := 107 }
def f_X10_peel_J14 (v1 : Int) (s1 : Int) (m : jMu) : Option (Int × jMu) :=
  (jlt (jup m 74 0 s1) fun m2 => (if 0 < m2 74 0 then some (0, m2) else (f_X10_ofJob v1 6 m2).bind fun r3 => (if r3 = (-1) then (if 0 ≤ jW (jW (376 + jW (8 * v1)) + 6) ∧ jW (jW (376 + jW (8 * v1)) + 6) < 2083 then (jlt (jup m2 75 (jW (jW (376 + jW (8 * v1)) + 6)) (m2 75 11)) fun m4 => some (1, m4)) else none) else some (0, m2))))
def f_X10_peel (a0 : Int) (m : jMu) : Option (Int × jMu) :=
  (f_X10_isJob a0 m).bind fun r1 => (if r1 = 0 then f_X10_peel_J14 a0 1 m else f_X10_peel_J14 a0 0 m)
theorem t_X10_peel_J14 {X : jX} (B : jB X cX10_peel RX10 2 SKF.length rm_X10_peel (some .boolean)) (v1 : Int) (s1 : Int) (m : jMu) (r : (Int × jMu)) (hf : f_X10_peel_J14 v1 s1 m = some r) (hq : jQ X (.inl (some (jI r.1))) SKF r.2 rm_X10_peel.cells rm_X10_peel.slots) : J X SKF m 0 0 14 [(0, jR 74), (1, jI v1)] [jI s1, jR 74] := by
  unfold f_X10_peel_J14 at hf
  refine K_putI (jI' := 0) B jp_X10_51 rfl rfl rfl (by decide +kernel) ?_
  obtain ⟨m2, hm2, hf⟩ := jlt_s hf
  rw [hm2]
  refine B_blk B jlkX10_ok jcl_SKF [.aload_n 0, .getfield 51] (by decide +kernel) (ls' := [(0, jR 74), (1, jI v1)]) (st' := [jI (m2 74 0)]) rfl (p1 := 21) rfl ?_
  refine J_if_gt B.1 (off := 14) (tgt := 35) (by decide +kernel) (by decide) hf (fun hf => ?_) (fun hf => ?_)
  · refine B_blk B jlkX10_ok jcl_SKF [.iconst 0] (by decide +kernel) (ls' := [(0, jR 74), (1, jI v1)]) (st' := [jI 0]) rfl (p1 := 36) rfl ?_
    cases hf
    exact B_retZ B (Or.inl rfl) hq rfl (Nat.le_of_ble_eq_true rfl) (Nat.le_of_ble_eq_true rfl) (by decide +kernel)
  · refine B_blk B jlkX10_ok jcl_SKF [.aload_n 0, .iload_n 1, .bipush 6] (by decide +kernel) (ls' := [(0, jR 74), (1, jI v1)]) (st' := [jI 6, jI v1, jR 74]) rfl (p1 := 28) rfl ?_
    obtain ⟨r3, h3, hf⟩ := jbd hf
    refine B_callV B (Nat.le_refl _) (μ' := m2) (k' := 0) (n' := 0) ca_X10_ofJob in_X10_ofJob se_X10_ofJob lk_X10_218 (t_X10_ofJob B.tr h3) (Nat.le_refl _) rfl rfl rfl (rest := []) rfl rfl (Nat.le_of_ble_eq_true rfl) (by decide +kernel) rfl rfl (st' := [jI r3]) rfl ?_
    refine B_blk B jlkX10_ok jcl_SKF [.iconst (-1)] (by decide +kernel) (ls' := [(0, jR 74), (1, jI v1)]) (st' := [jI (-1), jI r3]) rfl (p1 := 32) rfl ?_
    refine J_icmp_eq B.1 (off := 5) (tgt := 37) (by decide +kernel) (by decide) hf (fun hf => ?_) (fun hf => ?_)
    · refine B_blk B jlkX10_ok jcl_SKF [.aload_n 0, .getfield 7, .sipush 376, .bipush 8, .iload_n 1, .imul, .iadd, .bipush 6, .iadd, .aload_n 0, .getfield 7, .bipush 11] (by decide +kernel) (ls' := [(0, jR 74), (1, jI v1)]) (st' := [jI 11, jR 75, jI (jW (jW (376 + jW (8 * v1)) + 6)), jR 75]) rfl (p1 := 58) rfl ?_
      refine K_iald (lenI := 2083) B rfl rfl (by decide) (by decide +kernel) ?_
      obtain ⟨g5, hf⟩ := jgd hf
      refine K_iast (lenI := 2083) B rfl rfl g5 (by decide +kernel) ?_
      obtain ⟨m4, hm4, hf⟩ := jlt_s hf
      rw [hm4]
      refine B_blk B jlkX10_ok jcl_SKF [.iconst 1] (by decide +kernel) (ls' := [(0, jR 74), (1, jI v1)]) (st' := [jI 1]) rfl (p1 := 61) rfl ?_
      cases hf
      exact B_retZ B (Or.inr rfl) hq rfl (Nat.le_of_ble_eq_true rfl) (Nat.le_of_ble_eq_true rfl) (by decide +kernel)
    · refine B_blk B jlkX10_ok jcl_SKF [.iconst 0] (by decide +kernel) (ls' := [(0, jR 74), (1, jI v1)]) (st' := [jI 0]) rfl (p1 := 36) rfl ?_
      cases hf
      exact B_retZ B (Or.inl rfl) hq rfl (Nat.le_of_ble_eq_true rfl) (Nat.le_of_ble_eq_true rfl) (by decide +kernel)
theorem t_X10_peel {l : Launch} {G : jG} (hl : l.stackTraces = false) {a0 : Int} {m : jMu} {r : (Int × jMu)} (hf : f_X10_peel a0 m = some r) : jCt l G yX10_peel (.code yX10_peel cX10_peel 2 (some .boolean) :: jWG) rm_X10_peel [jR 74, jI a0] SKF m (.inl (some (jI r.1))) SKF r.2 := by
  unfold f_X10_peel at hf
  refine J_start (ls0 := [(0, jR 74), (1, jI a0)]) (by decide +kernel) hl (Nat.le_of_ble_eq_true rfl) rfl fun X C hN hn hR hr hnm hno hq => ?_
  have B : jB X cX10_peel RX10 2 SKF.length rm_X10_peel (some .boolean) := ⟨C, hN, Nat.le_of_eq hn, hR, hr⟩
  refine B_blk B jlkX10_ok jcl_SKF [.aload_n 0, .aload_n 0, .iload_n 1] (by decide +kernel) (ls' := [(0, jR 74), (1, jI a0)]) (st' := [jI a0, jR 74, jR 74]) rfl (p1 := 3) rfl ?_
  obtain ⟨r1, h1, hf⟩ := jbd hf
  refine B_callV B (Nat.le_refl _) (μ' := m) (k' := 0) (n' := 0) ca_X10_isJob in_X10_isJob se_X10_isJob lk_X10_250 (t_X10_isJob B.tr h1) (Nat.le_refl _) rfl rfl rfl (rest := [jR 74]) rfl rfl (Nat.le_of_ble_eq_true rfl) (by decide +kernel) rfl rfl (st' := [jI r1, jR 74]) rfl ?_
  refine J_if_ne B.1 (off := 7) (tgt := 13) (by decide +kernel) (by decide) hf (fun hf => ?_) (fun hf => ?_)
  · refine B_blk B jlkX10_ok jcl_SKF [.iconst 1, .goto 4] (by decide +kernel) (ls' := [(0, jR 74), (1, jI a0)]) (st' := [jI 1, jR 74]) rfl (p1 := 14) rfl ?_
    exact t_X10_peel_J14 B a0 1 m _ hf hq
  · refine B_blk B jlkX10_ok jcl_SKF [.iconst 0] (by decide +kernel) (ls' := [(0, jR 74), (1, jI a0)]) (st' := [jI 0, jR 74]) rfl (p1 := 14) rfl ?_
    exact t_X10_peel_J14 B a0 0 m _ hf hq

def rm_X10_fail : Room := { frames := 6, cells := 0, slots := 0, locals := 107 }
def f_X10_fail_J14 (v1 : Int) (s1 : Int) (m : jMu) : Option (Int × jMu) :=
  (jlt (jup m 74 0 s1) fun m2 => (if 0 < m2 74 0 then some (0, m2) else (if 0 ≤ jW (jW (352 + jW (4 * v1)) + 3) ∧ jW (jW (352 + jW (4 * v1)) + 3) < 2083 then (if m2 75 (jW (jW (352 + jW (4 * v1)) + 3)) = (-1) then (if 0 ≤ jW (jW (352 + jW (4 * v1)) + 3) ∧ jW (jW (352 + jW (4 * v1)) + 3) < 2083 then (jlt (jup m2 75 (jW (jW (352 + jW (4 * v1)) + 3)) (m2 75 11)) fun m3 => some (1, m3)) else none) else some (0, m2)) else none)))
def f_X10_fail (a0 : Int) (m : jMu) : Option (Int × jMu) :=
  (f_X10_isBatch a0 m).bind fun r1 => (if r1 = 0 then f_X10_fail_J14 a0 1 m else f_X10_fail_J14 a0 0 m)
theorem t_X10_fail_J14 {X : jX} (B : jB X cX10_fail RX10 2 SKF.length rm_X10_fail (some .boolean)) (v1 : Int) (s1 : Int) (m : jMu) (r : (Int × jMu)) (hf : f_X10_fail_J14 v1 s1 m = some r) (hq : jQ X (.inl (some (jI r.1))) SKF r.2 rm_X10_fail.cells rm_X10_fail.slots) : J X SKF m 0 0 14 [(0, jR 74), (1, jI v1)] [jI s1, jR 74] := by
  unfold f_X10_fail_J14 at hf
  refine K_putI (jI' := 0) B jp_X10_51 rfl rfl rfl (by decide +kernel) ?_
  obtain ⟨m2, hm2, hf⟩ := jlt_s hf
  rw [hm2]
  refine B_blk B jlkX10_ok jcl_SKF [.aload_n 0, .getfield 51] (by decide +kernel) (ls' := [(0, jR 74), (1, jI v1)]) (st' := [jI (m2 74 0)]) rfl (p1 := 21) rfl ?_
  refine J_if_gt B.1 (off := 21) (tgt := 42) (by decide +kernel) (by decide) hf (fun hf => ?_) (fun hf => ?_)
  · refine B_blk B jlkX10_ok jcl_SKF [.iconst 0] (by decide +kernel) (ls' := [(0, jR 74), (1, jI v1)]) (st' := [jI 0]) rfl (p1 := 43) rfl ?_
    cases hf
    exact B_retZ B (Or.inl rfl) hq rfl (Nat.le_of_ble_eq_true rfl) (Nat.le_of_ble_eq_true rfl) (by decide +kernel)
  · refine B_blk B jlkX10_ok jcl_SKF [.aload_n 0, .getfield 7, .sipush 352, .iconst 4, .iload_n 1, .imul, .iadd, .iconst 3, .iadd] (by decide +kernel) (ls' := [(0, jR 74), (1, jI v1)]) (st' := [jI (jW (jW (352 + jW (4 * v1)) + 3)), jR 75]) rfl (p1 := 37) rfl ?_
    obtain ⟨g5, hf⟩ := jgd hf
    refine K_iald (lenI := 2083) B rfl rfl g5 (by decide +kernel) ?_
    refine B_blk B jlkX10_ok jcl_SKF [.iconst (-1)] (by decide +kernel) (ls' := [(0, jR 74), (1, jI v1)]) (st' := [jI (-1), jI (m2 75 (jW (jW (352 + jW (4 * v1)) + 3)))]) rfl (p1 := 39) rfl ?_
    refine J_icmp_eq B.1 (off := 5) (tgt := 44) (by decide +kernel) (by decide) hf (fun hf => ?_) (fun hf => ?_)
    · refine B_blk B jlkX10_ok jcl_SKF [.aload_n 0, .getfield 7, .sipush 352, .iconst 4, .iload_n 1, .imul, .iadd, .iconst 3, .iadd, .aload_n 0, .getfield 7, .bipush 11] (by decide +kernel) (ls' := [(0, jR 74), (1, jI v1)]) (st' := [jI 11, jR 75, jI (jW (jW (352 + jW (4 * v1)) + 3)), jR 75]) rfl (p1 := 63) rfl ?_
      refine K_iald (lenI := 2083) B rfl rfl (by decide) (by decide +kernel) ?_
      obtain ⟨g4, hf⟩ := jgd hf
      refine K_iast (lenI := 2083) B rfl rfl g4 (by decide +kernel) ?_
      obtain ⟨m3, hm3, hf⟩ := jlt_s hf
      rw [hm3]
      refine B_blk B jlkX10_ok jcl_SKF [.iconst 1] (by decide +kernel) (ls' := [(0, jR 74), (1, jI v1)]) (st' := [jI 1]) rfl (p1 := 66) rfl ?_
      cases hf
      exact B_retZ B (Or.inr rfl) hq rfl (Nat.le_of_ble_eq_true rfl) (Nat.le_of_ble_eq_true rfl) (by decide +kernel)
    · refine B_blk B jlkX10_ok jcl_SKF [.iconst 0] (by decide +kernel) (ls' := [(0, jR 74), (1, jI v1)]) (st' := [jI 0]) rfl (p1 := 43) rfl ?_
      cases hf
      exact B_retZ B (Or.inl rfl) hq rfl (Nat.le_of_ble_eq_true rfl) (Nat.le_of_ble_eq_true rfl) (by decide +kernel)
theorem t_X10_fail {l : Launch} {G : jG} (hl : l.stackTraces = false) {a0 : Int} {m : jMu} {r : (Int × jMu)} (hf : f_X10_fail a0 m = some r) : jCt l G yX10_fail (.code yX10_fail cX10_fail 2 (some .boolean) :: jWG) rm_X10_fail [jR 74, jI a0] SKF m (.inl (some (jI r.1))) SKF r.2 := by
  unfold f_X10_fail at hf
  refine J_start (ls0 := [(0, jR 74), (1, jI a0)]) (by decide +kernel) hl (Nat.le_of_ble_eq_true rfl) rfl fun X C hN hn hR hr hnm hno hq => ?_
  have B : jB X cX10_fail RX10 2 SKF.length rm_X10_fail (some .boolean) := ⟨C, hN, Nat.le_of_eq hn, hR, hr⟩
  refine B_blk B jlkX10_ok jcl_SKF [.aload_n 0, .aload_n 0, .iload_n 1] (by decide +kernel) (ls' := [(0, jR 74), (1, jI a0)]) (st' := [jI a0, jR 74, jR 74]) rfl (p1 := 3) rfl ?_
  obtain ⟨r1, h1, hf⟩ := jbd hf
  refine B_callV B (Nat.le_refl _) (μ' := m) (k' := 0) (n' := 0) ca_X10_isBatch in_X10_isBatch se_X10_isBatch lk_X10_244 (t_X10_isBatch B.tr h1) (Nat.le_refl _) rfl rfl rfl (rest := [jR 74]) rfl rfl (Nat.le_of_ble_eq_true rfl) (by decide +kernel) rfl rfl (st' := [jI r1, jR 74]) rfl ?_
  refine J_if_ne B.1 (off := 7) (tgt := 13) (by decide +kernel) (by decide) hf (fun hf => ?_) (fun hf => ?_)
  · refine B_blk B jlkX10_ok jcl_SKF [.iconst 1, .goto 4] (by decide +kernel) (ls' := [(0, jR 74), (1, jI a0)]) (st' := [jI 1, jR 74]) rfl (p1 := 14) rfl ?_
    exact t_X10_fail_J14 B a0 1 m _ hf hq
  · refine B_blk B jlkX10_ok jcl_SKF [.iconst 0] (by decide +kernel) (ls' := [(0, jR 74), (1, jI a0)]) (st' := [jI 0, jR 74]) rfl (p1 := 14) rfl ?_
    exact t_X10_fail_J14 B a0 0 m _ hf hq

def rm_X10_isKnown : Room := { frames := 4, cells := 0, slots := 0, locals := 86 }
def f_X10_isKnown (a0 : Int) (a1 : Int) (m : jMu) : Option Int :=
  (f_X10_ofJob a0 5 m).bind fun r1 => (if a1 < r1 then some 0 else some 1)
theorem t_X10_isKnown {l : Launch} {G : jG} (hl : l.stackTraces = false) {a0 : Int} {a1 : Int} {m : jMu} {r : Int} (hf : f_X10_isKnown a0 a1 m = some r) : jCt l G yX10_isKnown (.code yX10_isKnown cX10_isKnown 3 (some .boolean) :: jWG) rm_X10_isKnown [jR 74, jI a0, jI a1] SKF m (.inl (some (jI r))) SKF m := by
  unfold f_X10_isKnown at hf
  refine J_start (ls0 := [(0, jR 74), (1, jI a0), (2, jI a1)]) (by decide +kernel) hl (Nat.le_of_ble_eq_true rfl) rfl fun X C hN hn hR hr hnm hno hq => ?_
  have B : jB X cX10_isKnown RX10 3 SKF.length rm_X10_isKnown (some .boolean) := ⟨C, hN, Nat.le_of_eq hn, hR, hr⟩
  refine B_blk B jlkX10_ok jcl_SKF [.aload_n 0, .iload_n 1, .iconst 5] (by decide +kernel) (ls' := [(0, jR 74), (1, jI a0), (2, jI a1)]) (st' := [jI 5, jI a0, jR 74]) rfl (p1 := 3) rfl ?_
  obtain ⟨r1, h1, hf⟩ := jbd hf
  refine B_callV B (Nat.le_refl _) (μ' := m) (k' := 0) (n' := 0) ca_X10_ofJob in_X10_ofJob se_X10_ofJob lk_X10_218 (t_X10_ofJob B.tr h1) (Nat.le_refl _) rfl rfl rfl (rest := []) rfl rfl (Nat.le_of_ble_eq_true rfl) (by decide +kernel) rfl rfl (st' := [jI r1]) rfl ?_
  refine B_blk B jlkX10_ok jcl_SKF [.iload_n 2] (by decide +kernel) (ls' := [(0, jR 74), (1, jI a0), (2, jI a1)]) (st' := [jI a1, jI r1]) rfl (p1 := 7) rfl ?_
  refine J_icmp_gt B.1 (off := 7) (tgt := 14) (by decide +kernel) (by decide) hf (fun hf => ?_) (fun hf => ?_)
  · refine B_blk B jlkX10_ok jcl_SKF [.iconst 0] (by decide +kernel) (ls' := [(0, jR 74), (1, jI a0), (2, jI a1)]) (st' := [jI 0]) rfl (p1 := 15) rfl ?_
    cases hf
    exact B_retZ B (Or.inl rfl) hq rfl (Nat.le_of_ble_eq_true rfl) (Nat.le_of_ble_eq_true rfl) (by decide +kernel)
  · refine B_blk B jlkX10_ok jcl_SKF [.iconst 1, .goto 4] (by decide +kernel) (ls' := [(0, jR 74), (1, jI a0), (2, jI a1)]) (st' := [jI 1]) rfl (p1 := 15) rfl ?_
    cases hf
    exact B_retZ B (Or.inr rfl) hq rfl (Nat.le_of_ble_eq_true rfl) (Nat.le_of_ble_eq_true rfl) (by decide +kernel)

def rm_X10_last : Room := { frames := 6, cells := 0, slots := 0, locals := 108 }
def f_X10_last_L46 : Nat → Int → Int → Int → Int → Int → jMu → Option (Int × jMu)
  | 0, _, _, _, _, _, _ => none
  | q + 1, v1, v2, v3, v4, v5, m => (if m 75 8 ≤ v5 then some (v4, m) else (f_X10_ofJob v5 0 m).bind fun r3 => (if r3 = v1 then (f_X10_isKnown v5 v3 m).bind fun r4 => (if r4 = 0 then f_X10_last_L46 q v1 v2 v3 v4 (jW (v5 + 1)) m else (f_X10_ofJob v5 4 m).bind fun r5 => (if r5 ≤ jW (jW (12 * v2) + 12) then (if v4 = (-1) then f_X10_last_L46 q v1 v2 v3 v5 (jW (v5 + 1)) m else (f_X10_ofJob v5 4 m).bind fun r6 => (f_X10_ofJob v4 4 m).bind fun r7 => (if r6 < r7 then f_X10_last_L46 q v1 v2 v3 v4 (jW (v5 + 1)) m else f_X10_last_L46 q v1 v2 v3 v5 (jW (v5 + 1)) m)) else f_X10_last_L46 q v1 v2 v3 v4 (jW (v5 + 1)) m)) else f_X10_last_L46 q v1 v2 v3 v4 (jW (v5 + 1)) m))
def f_X10_last (a0 : Int) (a1 : Int) (a2 : Int) (m : jMu) : Option (Int × jMu) :=
  (f_X10_isBay a0 m).bind fun r1 => (if r1 = 0 then (jlt (jup m 74 0 1) fun m2 => (if m2 74 0 ≤ 0 then f_X10_last_L46 jFU a0 a1 a2 (-1) 0 m2 else some (0, m2))) else (f_X10_isDay a1).bind fun r8 => (if r8 = 0 then (jlt (jup m 74 0 1) fun m9 => (if m9 74 0 ≤ 0 then f_X10_last_L46 jFU a0 a1 a2 (-1) 0 m9 else some (0, m9))) else (f_X10_isDay a2).bind fun r10 => (if r10 = 0 then (jlt (jup m 74 0 1) fun m11 => (if m11 74 0 ≤ 0 then f_X10_last_L46 jFU a0 a1 a2 (-1) 0 m11 else some (0, m11))) else (jlt (jup m 74 0 0) fun m12 => (if m12 74 0 ≤ 0 then f_X10_last_L46 jFU a0 a1 a2 (-1) 0 m12 else some (0, m12))))))
theorem t_X10_last_L46 {X : jX} (B : jB X cX10_last RX10 6 SKF.length rm_X10_last (some .int)) : ∀ (q : Nat) (v1 : Int) (v2 : Int) (v3 : Int) (v4 : Int) (v5 : Int) (m : jMu) (r : (Int × jMu)), f_X10_last_L46 q v1 v2 v3 v4 v5 m = some r → jQ X (.inl (some (jI r.1))) SKF r.2 rm_X10_last.cells rm_X10_last.slots → J X SKF m 0 0 46 [(0, jR 74), (1, jI v1), (2, jI v2), (3, jI v3), (4, jI v4), (5, jI v5)] [] := by
  intro q
  induction q with
  | zero =>
    intro v1 v2 v3 v4 v5 m r hf
    rw [f_X10_last_L46] at hf
    cases hf
  | succ q ih =>
    intro v1 v2 v3 v4 v5 m r hf hq
    rw [f_X10_last_L46] at hf
    refine B_blk B jlkX10_ok jcl_SKF [.iload 5, .aload_n 0, .getfield 7, .bipush 8] (by decide +kernel) (ls' := [(0, jR 74), (1, jI v1), (2, jI v2), (3, jI v3), (4, jI v4), (5, jI v5)]) (st' := [jI 8, jR 75, jI v5]) rfl (p1 := 54) rfl ?_
    refine K_iald (lenI := 2083) B rfl rfl (by decide) (by decide +kernel) ?_
    refine J_icmp_ge B.1 (off := 77) (tgt := 132) (by decide +kernel) (by decide) hf (fun hf => ?_) (fun hf => ?_)
    · refine B_blk B jlkX10_ok jcl_SKF [.iload 4] (by decide +kernel) (ls' := [(0, jR 74), (1, jI v1), (2, jI v2), (3, jI v3), (4, jI v4), (5, jI v5)]) (st' := [jI v4]) rfl (p1 := 134) rfl ?_
      cases hf
      exact B_retI B hq rfl (Nat.le_of_ble_eq_true rfl) (Nat.le_of_ble_eq_true rfl) (by decide +kernel)
    · refine B_blk B jlkX10_ok jcl_SKF [.aload_n 0, .iload 5, .iconst 0] (by decide +kernel) (ls' := [(0, jR 74), (1, jI v1), (2, jI v2), (3, jI v3), (4, jI v4), (5, jI v5)]) (st' := [jI 0, jI v5, jR 74]) rfl (p1 := 62) rfl ?_
      obtain ⟨r3, h3, hf⟩ := jbd hf
      refine B_callV B (Nat.le_refl _) (μ' := m) (k' := 0) (n' := 0) ca_X10_ofJob in_X10_ofJob se_X10_ofJob lk_X10_218 (t_X10_ofJob B.tr h3) (Nat.le_refl _) rfl rfl rfl (rest := []) rfl rfl (Nat.le_of_ble_eq_true rfl) (by decide +kernel) rfl rfl (st' := [jI r3]) rfl ?_
      refine B_blk B jlkX10_ok jcl_SKF [.iload_n 1] (by decide +kernel) (ls' := [(0, jR 74), (1, jI v1), (2, jI v2), (3, jI v3), (4, jI v4), (5, jI v5)]) (st' := [jI v1, jI r3]) rfl (p1 := 66) rfl ?_
      refine J_icmp_ne B.1 (off := 60) (tgt := 126) (by decide +kernel) (by decide) hf (fun hf => ?_) (fun hf => ?_)
      · refine B_blk B jlkX10_ok jcl_SKF [.aload_n 0, .iload 5, .iload_n 3] (by decide +kernel) (ls' := [(0, jR 74), (1, jI v1), (2, jI v2), (3, jI v3), (4, jI v4), (5, jI v5)]) (st' := [jI v3, jI v5, jR 74]) rfl (p1 := 73) rfl ?_
        obtain ⟨r4, h4, hf⟩ := jbd hf
        refine B_callV B (Nat.le_refl _) (μ' := m) (k' := 0) (n' := 0) ca_X10_isKnown in_X10_isKnown se_X10_isKnown lk_X10_253 (t_X10_isKnown B.tr h4) (Nat.le_refl _) rfl rfl rfl (rest := []) rfl rfl (Nat.le_of_ble_eq_true rfl) (by decide +kernel) rfl rfl (st' := [jI r4]) rfl ?_
        refine J_if_eq B.1 (off := 50) (tgt := 126) (by decide +kernel) (by decide) hf (fun hf => ?_) (fun hf => ?_)
        · refine B_blk B jlkX10_ok jcl_SKF [.iinc 5 1, .goto (-83)] (by decide +kernel) (ls' := [(0, jR 74), (1, jI v1), (2, jI v2), (3, jI v3), (4, jI v4), (5, jI (jW (v5 + 1)))]) (st' := []) rfl (p1 := 46) rfl ?_
          exact ih v1 v2 v3 v4 (jW (v5 + 1)) m _ hf hq
        · refine B_blk B jlkX10_ok jcl_SKF [.aload_n 0, .iload 5, .iconst 4] (by decide +kernel) (ls' := [(0, jR 74), (1, jI v1), (2, jI v2), (3, jI v3), (4, jI v4), (5, jI v5)]) (st' := [jI 4, jI v5, jR 74]) rfl (p1 := 83) rfl ?_
          obtain ⟨r5, h5, hf⟩ := jbd hf
          refine B_callV B (Nat.le_refl _) (μ' := m) (k' := 0) (n' := 0) ca_X10_ofJob in_X10_ofJob se_X10_ofJob lk_X10_218 (t_X10_ofJob B.tr h5) (Nat.le_refl _) rfl rfl rfl (rest := []) rfl rfl (Nat.le_of_ble_eq_true rfl) (by decide +kernel) rfl rfl (st' := [jI r5]) rfl ?_
          refine B_blk B jlkX10_ok jcl_SKF [.bipush 12, .iload_n 2, .imul, .bipush 12, .iadd] (by decide +kernel) (ls' := [(0, jR 74), (1, jI v1), (2, jI v2), (3, jI v3), (4, jI v4), (5, jI v5)]) (st' := [jI (jW (jW (12 * v2) + 12)), jI r5]) rfl (p1 := 93) rfl ?_
          refine J_icmp_le B.1 (off := 6) (tgt := 99) (by decide +kernel) (by decide) hf (fun hf => ?_) (fun hf => ?_)
          · refine B_blk B jlkX10_ok jcl_SKF [.iload 4, .iconst (-1)] (by decide +kernel) (ls' := [(0, jR 74), (1, jI v1), (2, jI v2), (3, jI v3), (4, jI v4), (5, jI v5)]) (st' := [jI (-1), jI v4]) rfl (p1 := 102) rfl ?_
            refine J_icmp_eq B.1 (off := 20) (tgt := 122) (by decide +kernel) (by decide) hf (fun hf => ?_) (fun hf => ?_)
            · refine B_blk B jlkX10_ok jcl_SKF [.iload 5, .istore 4, .iinc 5 1, .goto (-83)] (by decide +kernel) (ls' := [(0, jR 74), (1, jI v1), (2, jI v2), (3, jI v3), (4, jI v5), (5, jI (jW (v5 + 1)))]) (st' := []) rfl (p1 := 46) rfl ?_
              exact ih v1 v2 v3 v5 (jW (v5 + 1)) m _ hf hq
            · refine B_blk B jlkX10_ok jcl_SKF [.aload_n 0, .iload 5, .iconst 4] (by decide +kernel) (ls' := [(0, jR 74), (1, jI v1), (2, jI v2), (3, jI v3), (4, jI v4), (5, jI v5)]) (st' := [jI 4, jI v5, jR 74]) rfl (p1 := 109) rfl ?_
              obtain ⟨r6, h6, hf⟩ := jbd hf
              refine B_callV B (Nat.le_refl _) (μ' := m) (k' := 0) (n' := 0) ca_X10_ofJob in_X10_ofJob se_X10_ofJob lk_X10_218 (t_X10_ofJob B.tr h6) (Nat.le_refl _) rfl rfl rfl (rest := []) rfl rfl (Nat.le_of_ble_eq_true rfl) (by decide +kernel) rfl rfl (st' := [jI r6]) rfl ?_
              refine B_blk B jlkX10_ok jcl_SKF [.aload_n 0, .iload 4, .iconst 4] (by decide +kernel) (ls' := [(0, jR 74), (1, jI v1), (2, jI v2), (3, jI v3), (4, jI v4), (5, jI v5)]) (st' := [jI 4, jI v4, jR 74, jI r6]) rfl (p1 := 116) rfl ?_
              obtain ⟨r7, h7, hf⟩ := jbd hf
              refine B_callV B (Nat.le_refl _) (μ' := m) (k' := 0) (n' := 0) ca_X10_ofJob in_X10_ofJob se_X10_ofJob lk_X10_218 (t_X10_ofJob B.tr h7) (Nat.le_refl _) rfl rfl rfl (rest := [jI r6]) rfl rfl (Nat.le_of_ble_eq_true rfl) (by decide +kernel) rfl rfl (st' := [jI r7, jI r6]) rfl ?_
              refine J_icmp_lt B.1 (off := 7) (tgt := 126) (by decide +kernel) (by decide) hf (fun hf => ?_) (fun hf => ?_)
              · refine B_blk B jlkX10_ok jcl_SKF [.iinc 5 1, .goto (-83)] (by decide +kernel) (ls' := [(0, jR 74), (1, jI v1), (2, jI v2), (3, jI v3), (4, jI v4), (5, jI (jW (v5 + 1)))]) (st' := []) rfl (p1 := 46) rfl ?_
                exact ih v1 v2 v3 v4 (jW (v5 + 1)) m _ hf hq
              · refine B_blk B jlkX10_ok jcl_SKF [.iload 5, .istore 4, .iinc 5 1, .goto (-83)] (by decide +kernel) (ls' := [(0, jR 74), (1, jI v1), (2, jI v2), (3, jI v3), (4, jI v5), (5, jI (jW (v5 + 1)))]) (st' := []) rfl (p1 := 46) rfl ?_
                exact ih v1 v2 v3 v5 (jW (v5 + 1)) m _ hf hq
          · refine B_blk B jlkX10_ok jcl_SKF [.goto 30, .iinc 5 1, .goto (-83)] (by decide +kernel) (ls' := [(0, jR 74), (1, jI v1), (2, jI v2), (3, jI v3), (4, jI v4), (5, jI (jW (v5 + 1)))]) (st' := []) rfl (p1 := 46) rfl ?_
            exact ih v1 v2 v3 v4 (jW (v5 + 1)) m _ hf hq
      · refine B_blk B jlkX10_ok jcl_SKF [.iinc 5 1, .goto (-83)] (by decide +kernel) (ls' := [(0, jR 74), (1, jI v1), (2, jI v2), (3, jI v3), (4, jI v4), (5, jI (jW (v5 + 1)))]) (st' := []) rfl (p1 := 46) rfl ?_
        exact ih v1 v2 v3 v4 (jW (v5 + 1)) m _ hf hq
theorem t_X10_last {l : Launch} {G : jG} (hl : l.stackTraces = false) {a0 : Int} {a1 : Int} {a2 : Int} {m : jMu} {r : (Int × jMu)} (hf : f_X10_last a0 a1 a2 m = some r) : jCt l G yX10_last (.code yX10_last cX10_last 6 (some .int) :: jWG) rm_X10_last [jR 74, jI a0, jI a1, jI a2] SKF m (.inl (some (jI r.1))) SKF r.2 := by
  unfold f_X10_last at hf
  refine J_start (ls0 := [(0, jR 74), (1, jI a0), (2, jI a1), (3, jI a2)]) (by decide +kernel) hl (Nat.le_of_ble_eq_true rfl) rfl fun X C hN hn hR hr hnm hno hq => ?_
  have B : jB X cX10_last RX10 6 SKF.length rm_X10_last (some .int) := ⟨C, hN, Nat.le_of_eq hn, hR, hr⟩
  refine B_blk B jlkX10_ok jcl_SKF [.aload_n 0, .aload_n 0, .iload_n 1] (by decide +kernel) (ls' := [(0, jR 74), (1, jI a0), (2, jI a1), (3, jI a2)]) (st' := [jI a0, jR 74, jR 74]) rfl (p1 := 3) rfl ?_
  obtain ⟨r1, h1, hf⟩ := jbd hf
  refine B_callV B (Nat.le_refl _) (μ' := m) (k' := 0) (n' := 0) ca_X10_isBay in_X10_isBay se_X10_isBay lk_X10_206 (t_X10_isBay B.tr h1) (Nat.le_refl _) rfl rfl rfl (rest := [jR 74]) rfl rfl (Nat.le_of_ble_eq_true rfl) (by decide +kernel) rfl rfl (st' := [jI r1, jR 74]) rfl ?_
  refine J_if_eq B.1 (off := 17) (tgt := 23) (by decide +kernel) (by decide) hf (fun hf => ?_) (fun hf => ?_)
  · refine B_blk B jlkX10_ok jcl_SKF [.iconst 1, .goto 4] (by decide +kernel) (ls' := [(0, jR 74), (1, jI a0), (2, jI a1), (3, jI a2)]) (st' := [jI 1, jR 74]) rfl (p1 := 28) rfl ?_
    refine K_putI (jI' := 0) B jp_X10_51 rfl rfl rfl (by decide +kernel) ?_
    obtain ⟨m2, hm2, hf⟩ := jlt_s hf
    rw [hm2]
    refine B_blk B jlkX10_ok jcl_SKF [.aload_n 0, .getfield 51] (by decide +kernel) (ls' := [(0, jR 74), (1, jI a0), (2, jI a1), (3, jI a2)]) (st' := [jI (m2 74 0)]) rfl (p1 := 35) rfl ?_
    refine J_if_le B.1 (off := 5) (tgt := 40) (by decide +kernel) (by decide) hf (fun hf => ?_) (fun hf => ?_)
    · refine B_blk B jlkX10_ok jcl_SKF [.iconst (-1), .istore 4, .iconst 0, .istore 5] (by decide +kernel) (ls' := [(0, jR 74), (1, jI a0), (2, jI a1), (3, jI a2), (4, jI (-1)), (5, jI 0)]) (st' := []) rfl (p1 := 46) rfl ?_
      exact t_X10_last_L46 B jFU a0 a1 a2 (-1) 0 m2 _ hf hq
    · refine B_blk B jlkX10_ok jcl_SKF [.iconst 0] (by decide +kernel) (ls' := [(0, jR 74), (1, jI a0), (2, jI a1), (3, jI a2)]) (st' := [jI 0]) rfl (p1 := 39) rfl ?_
      cases hf
      exact B_retI B hq rfl (Nat.le_of_ble_eq_true rfl) (Nat.le_of_ble_eq_true rfl) (by decide +kernel)
  · refine B_blk B jlkX10_ok jcl_SKF [.iload_n 2] (by decide +kernel) (ls' := [(0, jR 74), (1, jI a0), (2, jI a1), (3, jI a2)]) (st' := [jI a1, jR 74]) rfl (p1 := 10) rfl ?_
    obtain ⟨r8, h8, hf⟩ := jbd hf
    refine B_callS B (Nat.le_refl _) (μ' := m) (k' := 0) (n' := 0) ca_X10_isDay sa_X10_isDay lk_X10_209 (t_X10_isDay B.tr jcl_SKF h8) (Nat.le_refl _) rfl (rest := [jR 74]) rfl rfl (Nat.le_of_ble_eq_true rfl) (by decide +kernel) rfl rfl (st' := [jI r8, jR 74]) rfl ?_
    refine J_if_eq B.1 (off := 10) (tgt := 23) (by decide +kernel) (by decide) hf (fun hf => ?_) (fun hf => ?_)
    · refine B_blk B jlkX10_ok jcl_SKF [.iconst 1, .goto 4] (by decide +kernel) (ls' := [(0, jR 74), (1, jI a0), (2, jI a1), (3, jI a2)]) (st' := [jI 1, jR 74]) rfl (p1 := 28) rfl ?_
      refine K_putI (jI' := 0) B jp_X10_51 rfl rfl rfl (by decide +kernel) ?_
      obtain ⟨m9, hm9, hf⟩ := jlt_s hf
      rw [hm9]
      refine B_blk B jlkX10_ok jcl_SKF [.aload_n 0, .getfield 51] (by decide +kernel) (ls' := [(0, jR 74), (1, jI a0), (2, jI a1), (3, jI a2)]) (st' := [jI (m9 74 0)]) rfl (p1 := 35) rfl ?_
      refine J_if_le B.1 (off := 5) (tgt := 40) (by decide +kernel) (by decide) hf (fun hf => ?_) (fun hf => ?_)
      · refine B_blk B jlkX10_ok jcl_SKF [.iconst (-1), .istore 4, .iconst 0, .istore 5] (by decide +kernel) (ls' := [(0, jR 74), (1, jI a0), (2, jI a1), (3, jI a2), (4, jI (-1)), (5, jI 0)]) (st' := []) rfl (p1 := 46) rfl ?_
        exact t_X10_last_L46 B jFU a0 a1 a2 (-1) 0 m9 _ hf hq
      · refine B_blk B jlkX10_ok jcl_SKF [.iconst 0] (by decide +kernel) (ls' := [(0, jR 74), (1, jI a0), (2, jI a1), (3, jI a2)]) (st' := [jI 0]) rfl (p1 := 39) rfl ?_
        cases hf
        exact B_retI B hq rfl (Nat.le_of_ble_eq_true rfl) (Nat.le_of_ble_eq_true rfl) (by decide +kernel)
    · refine B_blk B jlkX10_ok jcl_SKF [.iload_n 3] (by decide +kernel) (ls' := [(0, jR 74), (1, jI a0), (2, jI a1), (3, jI a2)]) (st' := [jI a2, jR 74]) rfl (p1 := 17) rfl ?_
      obtain ⟨r10, h10, hf⟩ := jbd hf
      refine B_callS B (Nat.le_refl _) (μ' := m) (k' := 0) (n' := 0) ca_X10_isDay sa_X10_isDay lk_X10_209 (t_X10_isDay B.tr jcl_SKF h10) (Nat.le_refl _) rfl (rest := [jR 74]) rfl rfl (Nat.le_of_ble_eq_true rfl) (by decide +kernel) rfl rfl (st' := [jI r10, jR 74]) rfl ?_
      refine J_if_ne B.1 (off := 7) (tgt := 27) (by decide +kernel) (by decide) hf (fun hf => ?_) (fun hf => ?_)
      · refine B_blk B jlkX10_ok jcl_SKF [.iconst 1, .goto 4] (by decide +kernel) (ls' := [(0, jR 74), (1, jI a0), (2, jI a1), (3, jI a2)]) (st' := [jI 1, jR 74]) rfl (p1 := 28) rfl ?_
        refine K_putI (jI' := 0) B jp_X10_51 rfl rfl rfl (by decide +kernel) ?_
        obtain ⟨m11, hm11, hf⟩ := jlt_s hf
        rw [hm11]
        refine B_blk B jlkX10_ok jcl_SKF [.aload_n 0, .getfield 51] (by decide +kernel) (ls' := [(0, jR 74), (1, jI a0), (2, jI a1), (3, jI a2)]) (st' := [jI (m11 74 0)]) rfl (p1 := 35) rfl ?_
        refine J_if_le B.1 (off := 5) (tgt := 40) (by decide +kernel) (by decide) hf (fun hf => ?_) (fun hf => ?_)
        · refine B_blk B jlkX10_ok jcl_SKF [.iconst (-1), .istore 4, .iconst 0, .istore 5] (by decide +kernel) (ls' := [(0, jR 74), (1, jI a0), (2, jI a1), (3, jI a2), (4, jI (-1)), (5, jI 0)]) (st' := []) rfl (p1 := 46) rfl ?_
          exact t_X10_last_L46 B jFU a0 a1 a2 (-1) 0 m11 _ hf hq
        · refine B_blk B jlkX10_ok jcl_SKF [.iconst 0] (by decide +kernel) (ls' := [(0, jR 74), (1, jI a0), (2, jI a1), (3, jI a2)]) (st' := [jI 0]) rfl (p1 := 39) rfl ?_
          cases hf
          exact B_retI B hq rfl (Nat.le_of_ble_eq_true rfl) (Nat.le_of_ble_eq_true rfl) (by decide +kernel)
      · refine B_blk B jlkX10_ok jcl_SKF [.iconst 0] (by decide +kernel) (ls' := [(0, jR 74), (1, jI a0), (2, jI a1), (3, jI a2)]) (st' := [jI 0, jR 74]) rfl (p1 := 28) rfl ?_
        refine K_putI (jI' := 0) B jp_X10_51 rfl rfl rfl (by decide +kernel) ?_
        obtain ⟨m12, hm12, hf⟩ := jlt_s hf
        rw [hm12]
        refine B_blk B jlkX10_ok jcl_SKF [.aload_n 0, .getfield 51] (by decide +kernel) (ls' := [(0, jR 74), (1, jI a0), (2, jI a1), (3, jI a2)]) (st' := [jI (m12 74 0)]) rfl (p1 := 35) rfl ?_
        refine J_if_le B.1 (off := 5) (tgt := 40) (by decide +kernel) (by decide) hf (fun hf => ?_) (fun hf => ?_)
        · refine B_blk B jlkX10_ok jcl_SKF [.iconst (-1), .istore 4, .iconst 0, .istore 5] (by decide +kernel) (ls' := [(0, jR 74), (1, jI a0), (2, jI a1), (3, jI a2), (4, jI (-1)), (5, jI 0)]) (st' := []) rfl (p1 := 46) rfl ?_
          exact t_X10_last_L46 B jFU a0 a1 a2 (-1) 0 m12 _ hf hq
        · refine B_blk B jlkX10_ok jcl_SKF [.iconst 0] (by decide +kernel) (ls' := [(0, jR 74), (1, jI a0), (2, jI a1), (3, jI a2)]) (st' := [jI 0]) rfl (p1 := 39) rfl ?_
          cases hf
          exact B_retI B hq rfl (Nat.le_of_ble_eq_true rfl) (Nat.le_of_ble_eq_true rfl) (by decide +kernel)

def rm_X10_recall : Room := { frames := 6, cells := 0, slots := 0, locals := 108 }
def f_X10_recall_L59 : Nat → Int → Int → Int → Int → Int → Int → Int → Int → jMu → Option (Int × Int × Int × Int × Int × Int × Int × jMu)
  | 0, _, _, _, _, _, _, _, _, _ => none
  | q + 1, v1, v2, v3, v4, v5, v6, v7, v8, m => (if m 75 8 ≤ v8 then some (v1, v2, v3, v4, v5, v6, v7, m) else (f_X10_ofJob v8 0 m).bind fun r3 => (if r3 = v5 then (f_X10_isKnown v8 v2 m).bind fun r4 => (if r4 = 0 then f_X10_recall_L59 q v1 v2 v3 v4 v5 v6 v7 (jW (v8 + 1)) m else (f_X10_ofJob v8 4 m).bind fun r5 => (f_X10_ofJob v8 2 m).bind fun r6 => (if r6 = v1 then (if r5 ≤ v6 then f_X10_recall_L59 q v1 v2 v3 v4 v5 v6 v7 (jW (v8 + 1)) m else f_X10_recall_L59 q v1 v2 v3 v4 v5 r5 v7 (jW (v8 + 1)) m) else (if r5 ≤ v7 then f_X10_recall_L59 q v1 v2 v3 v4 v5 v6 v7 (jW (v8 + 1)) m else f_X10_recall_L59 q v1 v2 v3 v4 v5 v6 r5 (jW (v8 + 1)) m))) else f_X10_recall_L59 q v1 v2 v3 v4 v5 v6 v7 (jW (v8 + 1)) m))
def f_X10_recall_L39 : Nat → Int → Int → Int → Int → Int → jMu → Option (Int × jMu)
  | 0, _, _, _, _, _, _ => none
  | q + 1, v1, v2, v3, v4, v5, m => (if m 75 0 ≤ v5 then some (v4, m) else (f_X10_recall_L59 jFU v1 v2 v3 v4 v5 (-1) (-1) 0 m).bind fun r7 => (if r7.2.2.2.2.2.1 = (-1) then f_X10_recall_L39 q r7.1 r7.2.1 r7.2.2.1 r7.2.2.2.1 (jW (r7.2.2.2.2.1 + 1)) r7.2.2.2.2.2.2.2 else (if r7.2.2.1 = 0 then f_X10_recall_L39 q r7.1 r7.2.1 r7.2.2.1 (jOr r7.2.2.2.1 (jSl 1 r7.2.2.2.2.1)) (jW (r7.2.2.2.2.1 + 1)) r7.2.2.2.2.2.2.2 else (if r7.2.2.2.2.2.2.1 ≤ r7.2.2.2.2.2.1 then f_X10_recall_L39 q r7.1 r7.2.1 r7.2.2.1 r7.2.2.2.1 (jW (r7.2.2.2.2.1 + 1)) r7.2.2.2.2.2.2.2 else f_X10_recall_L39 q r7.1 r7.2.1 r7.2.2.1 (jOr r7.2.2.2.1 (jSl 1 r7.2.2.2.2.1)) (jW (r7.2.2.2.2.1 + 1)) r7.2.2.2.2.2.2.2))))
def f_X10_recall (a0 : Int) (a1 : Int) (a2 : Int) (m : jMu) : Option (Int × jMu) :=
  (f_X10_isBatch a0 m).bind fun r1 => (if r1 = 0 then (jlt (jup m 74 0 1) fun m2 => (if m2 74 0 ≤ 0 then f_X10_recall_L39 jFU a0 a1 a2 0 0 m2 else some (0, m2))) else (f_X10_isDay a1).bind fun r8 => (if r8 = 0 then (jlt (jup m 74 0 1) fun m9 => (if m9 74 0 ≤ 0 then f_X10_recall_L39 jFU a0 a1 a2 0 0 m9 else some (0, m9))) else (jlt (jup m 74 0 0) fun m10 => (if m10 74 0 ≤ 0 then f_X10_recall_L39 jFU a0 a1 a2 0 0 m10 else some (0, m10)))))
theorem t_X10_recall_L59 {X : jX} (B : jB X cX10_recall RX10 10 SKF.length rm_X10_recall (some .int)) : ∀ (q : Nat) (v1 : Int) (v2 : Int) (v3 : Int) (v4 : Int) (v5 : Int) (v6 : Int) (v7 : Int) (v8 : Int) (m : jMu) (o : (Int × Int × Int × Int × Int × Int × Int × jMu)), f_X10_recall_L59 q v1 v2 v3 v4 v5 v6 v7 v8 m = some o → J X SKF o.2.2.2.2.2.2.2 0 0 157 [(0, jR 74), (1, jI o.1), (2, jI o.2.1), (3, jI o.2.2.1), (4, jI o.2.2.2.1), (5, jI o.2.2.2.2.1), (6, jI o.2.2.2.2.2.1), (7, jI o.2.2.2.2.2.2.1)] [] → J X SKF m 0 0 59 [(0, jR 74), (1, jI v1), (2, jI v2), (3, jI v3), (4, jI v4), (5, jI v5), (6, jI v6), (7, jI v7), (8, jI v8)] [] := by
  intro q
  induction q with
  | zero =>
    intro v1 v2 v3 v4 v5 v6 v7 v8 m o hf
    rw [f_X10_recall_L59] at hf
    cases hf
  | succ q ih =>
    intro v1 v2 v3 v4 v5 v6 v7 v8 m o hf hx
    rw [f_X10_recall_L59] at hf
    refine B_blk B jlkX10_ok jcl_SKF [.iload 8, .aload_n 0, .getfield 7, .bipush 8] (by decide +kernel) (ls' := [(0, jR 74), (1, jI v1), (2, jI v2), (3, jI v3), (4, jI v4), (5, jI v5), (6, jI v6), (7, jI v7), (8, jI v8)]) (st' := [jI 8, jR 75, jI v8]) rfl (p1 := 67) rfl ?_
    refine K_iald (lenI := 2083) B rfl rfl (by decide) (by decide +kernel) ?_
    refine J_icmp_ge B.1 (off := 89) (tgt := 157) (by decide +kernel) (by decide) hf (fun hf => ?_) (fun hf => ?_)
    · refine J_pick [0, 1, 2, 3, 4, 5, 6, 7] (ls' := [(0, jR 74), (1, jI v1), (2, jI v2), (3, jI v3), (4, jI v4), (5, jI v5), (6, jI v6), (7, jI v7)]) rfl ?_
      cases hf
      exact hx
    · refine B_blk B jlkX10_ok jcl_SKF [.aload_n 0, .iload 8, .iconst 0] (by decide +kernel) (ls' := [(0, jR 74), (1, jI v1), (2, jI v2), (3, jI v3), (4, jI v4), (5, jI v5), (6, jI v6), (7, jI v7), (8, jI v8)]) (st' := [jI 0, jI v8, jR 74]) rfl (p1 := 75) rfl ?_
      obtain ⟨r3, h3, hf⟩ := jbd hf
      refine B_callV B (Nat.le_refl _) (μ' := m) (k' := 0) (n' := 0) ca_X10_ofJob in_X10_ofJob se_X10_ofJob lk_X10_218 (t_X10_ofJob B.tr h3) (Nat.le_refl _) rfl rfl rfl (rest := []) rfl rfl (Nat.le_of_ble_eq_true rfl) (by decide +kernel) rfl rfl (st' := [jI r3]) rfl ?_
      refine B_blk B jlkX10_ok jcl_SKF [.iload 5] (by decide +kernel) (ls' := [(0, jR 74), (1, jI v1), (2, jI v2), (3, jI v3), (4, jI v4), (5, jI v5), (6, jI v6), (7, jI v7), (8, jI v8)]) (st' := [jI v5, jI r3]) rfl (p1 := 80) rfl ?_
      refine J_icmp_ne B.1 (off := 71) (tgt := 151) (by decide +kernel) (by decide) hf (fun hf => ?_) (fun hf => ?_)
      · refine B_blk B jlkX10_ok jcl_SKF [.aload_n 0, .iload 8, .iload_n 2] (by decide +kernel) (ls' := [(0, jR 74), (1, jI v1), (2, jI v2), (3, jI v3), (4, jI v4), (5, jI v5), (6, jI v6), (7, jI v7), (8, jI v8)]) (st' := [jI v2, jI v8, jR 74]) rfl (p1 := 87) rfl ?_
        obtain ⟨r4, h4, hf⟩ := jbd hf
        refine B_callV B (Nat.le_refl _) (μ' := m) (k' := 0) (n' := 0) ca_X10_isKnown in_X10_isKnown se_X10_isKnown lk_X10_253 (t_X10_isKnown B.tr h4) (Nat.le_refl _) rfl rfl rfl (rest := []) rfl rfl (Nat.le_of_ble_eq_true rfl) (by decide +kernel) rfl rfl (st' := [jI r4]) rfl ?_
        refine J_if_ne B.1 (off := 6) (tgt := 96) (by decide +kernel) (by decide) hf (fun hf => ?_) (fun hf => ?_)
        · refine B_blk B jlkX10_ok jcl_SKF [.goto 58, .iinc 8 1, .goto (-95)] (by decide +kernel) (ls' := [(0, jR 74), (1, jI v1), (2, jI v2), (3, jI v3), (4, jI v4), (5, jI v5), (6, jI v6), (7, jI v7), (8, jI (jW (v8 + 1)))]) (st' := []) rfl (p1 := 59) rfl ?_
          exact ih v1 v2 v3 v4 v5 v6 v7 (jW (v8 + 1)) m _ hf hx
        · refine B_blk B jlkX10_ok jcl_SKF [.aload_n 0, .iload 8, .iconst 4] (by decide +kernel) (ls' := [(0, jR 74), (1, jI v1), (2, jI v2), (3, jI v3), (4, jI v4), (5, jI v5), (6, jI v6), (7, jI v7), (8, jI v8)]) (st' := [jI 4, jI v8, jR 74]) rfl (p1 := 100) rfl ?_
          obtain ⟨r5, h5, hf⟩ := jbd hf
          refine B_callV B (Nat.le_refl _) (μ' := m) (k' := 0) (n' := 0) ca_X10_ofJob in_X10_ofJob se_X10_ofJob lk_X10_218 (t_X10_ofJob B.tr h5) (Nat.le_refl _) rfl rfl rfl (rest := []) rfl rfl (Nat.le_of_ble_eq_true rfl) (by decide +kernel) rfl rfl (st' := [jI r5]) rfl ?_
          refine B_blk B jlkX10_ok jcl_SKF [.istore 9, .aload_n 0, .iload 8, .iconst 2] (by decide +kernel) (ls' := [(0, jR 74), (1, jI v1), (2, jI v2), (3, jI v3), (4, jI v4), (5, jI v5), (6, jI v6), (7, jI v7), (8, jI v8), (9, jI r5)]) (st' := [jI 2, jI v8, jR 74]) rfl (p1 := 109) rfl ?_
          obtain ⟨r6, h6, hf⟩ := jbd hf
          refine B_callV B (Nat.le_refl _) (μ' := m) (k' := 0) (n' := 0) ca_X10_ofJob in_X10_ofJob se_X10_ofJob lk_X10_218 (t_X10_ofJob B.tr h6) (Nat.le_refl _) rfl rfl rfl (rest := []) rfl rfl (Nat.le_of_ble_eq_true rfl) (by decide +kernel) rfl rfl (st' := [jI r6]) rfl ?_
          refine B_blk B jlkX10_ok jcl_SKF [.iload_n 1] (by decide +kernel) (ls' := [(0, jR 74), (1, jI v1), (2, jI v2), (3, jI v3), (4, jI v4), (5, jI v5), (6, jI v6), (7, jI v7), (8, jI v8), (9, jI r5)]) (st' := [jI v1, jI r6]) rfl (p1 := 113) rfl ?_
          refine J_icmp_ne B.1 (off := 22) (tgt := 135) (by decide +kernel) (by decide) hf (fun hf => ?_) (fun hf => ?_)
          · refine B_blk B jlkX10_ok jcl_SKF [.iload 9, .iload 6] (by decide +kernel) (ls' := [(0, jR 74), (1, jI v1), (2, jI v2), (3, jI v3), (4, jI v4), (5, jI v5), (6, jI v6), (7, jI v7), (8, jI v8), (9, jI r5)]) (st' := [jI v6, jI r5]) rfl (p1 := 120) rfl ?_
            refine J_icmp_le B.1 (off := 8) (tgt := 128) (by decide +kernel) (by decide) hf (fun hf => ?_) (fun hf => ?_)
            · refine B_blk B jlkX10_ok jcl_SKF [.iload 6, .istore 6, .goto 19, .iinc 8 1, .goto (-95)] (by decide +kernel) (ls' := [(0, jR 74), (1, jI v1), (2, jI v2), (3, jI v3), (4, jI v4), (5, jI v5), (6, jI v6), (7, jI v7), (8, jI (jW (v8 + 1))), (9, jI r5)]) (st' := []) rfl (p1 := 59) rfl ?_
              refine J_pick [0, 1, 2, 3, 4, 5, 6, 7, 8] (ls' := [(0, jR 74), (1, jI v1), (2, jI v2), (3, jI v3), (4, jI v4), (5, jI v5), (6, jI v6), (7, jI v7), (8, jI (jW (v8 + 1)))]) rfl ?_
              exact ih v1 v2 v3 v4 v5 v6 v7 (jW (v8 + 1)) m _ hf hx
            · refine B_blk B jlkX10_ok jcl_SKF [.iload 9, .goto 5, .istore 6, .goto 19, .iinc 8 1, .goto (-95)] (by decide +kernel) (ls' := [(0, jR 74), (1, jI v1), (2, jI v2), (3, jI v3), (4, jI v4), (5, jI v5), (6, jI r5), (7, jI v7), (8, jI (jW (v8 + 1))), (9, jI r5)]) (st' := []) rfl (p1 := 59) rfl ?_
              refine J_pick [0, 1, 2, 3, 4, 5, 6, 7, 8] (ls' := [(0, jR 74), (1, jI v1), (2, jI v2), (3, jI v3), (4, jI v4), (5, jI v5), (6, jI r5), (7, jI v7), (8, jI (jW (v8 + 1)))]) rfl ?_
              exact ih v1 v2 v3 v4 v5 r5 v7 (jW (v8 + 1)) m _ hf hx
          · refine B_blk B jlkX10_ok jcl_SKF [.iload 9, .iload 7] (by decide +kernel) (ls' := [(0, jR 74), (1, jI v1), (2, jI v2), (3, jI v3), (4, jI v4), (5, jI v5), (6, jI v6), (7, jI v7), (8, jI v8), (9, jI r5)]) (st' := [jI v7, jI r5]) rfl (p1 := 139) rfl ?_
            refine J_icmp_le B.1 (off := 8) (tgt := 147) (by decide +kernel) (by decide) hf (fun hf => ?_) (fun hf => ?_)
            · refine B_blk B jlkX10_ok jcl_SKF [.iload 7, .istore 7, .iinc 8 1, .goto (-95)] (by decide +kernel) (ls' := [(0, jR 74), (1, jI v1), (2, jI v2), (3, jI v3), (4, jI v4), (5, jI v5), (6, jI v6), (7, jI v7), (8, jI (jW (v8 + 1))), (9, jI r5)]) (st' := []) rfl (p1 := 59) rfl ?_
              refine J_pick [0, 1, 2, 3, 4, 5, 6, 7, 8] (ls' := [(0, jR 74), (1, jI v1), (2, jI v2), (3, jI v3), (4, jI v4), (5, jI v5), (6, jI v6), (7, jI v7), (8, jI (jW (v8 + 1)))]) rfl ?_
              exact ih v1 v2 v3 v4 v5 v6 v7 (jW (v8 + 1)) m _ hf hx
            · refine B_blk B jlkX10_ok jcl_SKF [.iload 9, .goto 5, .istore 7, .iinc 8 1, .goto (-95)] (by decide +kernel) (ls' := [(0, jR 74), (1, jI v1), (2, jI v2), (3, jI v3), (4, jI v4), (5, jI v5), (6, jI v6), (7, jI r5), (8, jI (jW (v8 + 1))), (9, jI r5)]) (st' := []) rfl (p1 := 59) rfl ?_
              refine J_pick [0, 1, 2, 3, 4, 5, 6, 7, 8] (ls' := [(0, jR 74), (1, jI v1), (2, jI v2), (3, jI v3), (4, jI v4), (5, jI v5), (6, jI v6), (7, jI r5), (8, jI (jW (v8 + 1)))]) rfl ?_
              exact ih v1 v2 v3 v4 v5 v6 r5 (jW (v8 + 1)) m _ hf hx
      · refine B_blk B jlkX10_ok jcl_SKF [.iinc 8 1, .goto (-95)] (by decide +kernel) (ls' := [(0, jR 74), (1, jI v1), (2, jI v2), (3, jI v3), (4, jI v4), (5, jI v5), (6, jI v6), (7, jI v7), (8, jI (jW (v8 + 1)))]) (st' := []) rfl (p1 := 59) rfl ?_
        exact ih v1 v2 v3 v4 v5 v6 v7 (jW (v8 + 1)) m _ hf hx
theorem t_X10_recall_L39 {X : jX} (B : jB X cX10_recall RX10 10 SKF.length rm_X10_recall (some .int)) : ∀ (q : Nat) (v1 : Int) (v2 : Int) (v3 : Int) (v4 : Int) (v5 : Int) (m : jMu) (r : (Int × jMu)), f_X10_recall_L39 q v1 v2 v3 v4 v5 m = some r → jQ X (.inl (some (jI r.1))) SKF r.2 rm_X10_recall.cells rm_X10_recall.slots → J X SKF m 0 0 39 [(0, jR 74), (1, jI v1), (2, jI v2), (3, jI v3), (4, jI v4), (5, jI v5)] [] := by
  intro q
  induction q with
  | zero =>
    intro v1 v2 v3 v4 v5 m r hf
    rw [f_X10_recall_L39] at hf
    cases hf
  | succ q ih =>
    intro v1 v2 v3 v4 v5 m r hf hq
    rw [f_X10_recall_L39] at hf
    refine B_blk B jlkX10_ok jcl_SKF [.iload 5, .aload_n 0, .getfield 7, .iconst 0] (by decide +kernel) (ls' := [(0, jR 74), (1, jI v1), (2, jI v2), (3, jI v3), (4, jI v4), (5, jI v5)]) (st' := [jI 0, jR 75, jI v5]) rfl (p1 := 46) rfl ?_
    refine K_iald (lenI := 2083) B rfl rfl (by decide) (by decide +kernel) ?_
    refine J_icmp_ge B.1 (off := 142) (tgt := 189) (by decide +kernel) (by decide) hf (fun hf => ?_) (fun hf => ?_)
    · refine B_blk B jlkX10_ok jcl_SKF [.iload 4] (by decide +kernel) (ls' := [(0, jR 74), (1, jI v1), (2, jI v2), (3, jI v3), (4, jI v4), (5, jI v5)]) (st' := [jI v4]) rfl (p1 := 191) rfl ?_
      cases hf
      exact B_retI B hq rfl (Nat.le_of_ble_eq_true rfl) (Nat.le_of_ble_eq_true rfl) (by decide +kernel)
    · refine B_blk B jlkX10_ok jcl_SKF [.iconst (-1), .istore 6, .iconst (-1), .istore 7, .iconst 0, .istore 8] (by decide +kernel) (ls' := [(0, jR 74), (1, jI v1), (2, jI v2), (3, jI v3), (4, jI v4), (5, jI v5), (6, jI (-1)), (7, jI (-1)), (8, jI 0)]) (st' := []) rfl (p1 := 59) rfl ?_
      obtain ⟨r7, h7, hf⟩ := jbd hf
      refine t_X10_recall_L59 B jFU v1 v2 v3 v4 v5 (-1) (-1) 0 m _ h7 ?_
      refine B_blk B jlkX10_ok jcl_SKF [.iload 6, .iconst (-1)] (by decide +kernel) (ls' := [(0, jR 74), (1, jI r7.1), (2, jI r7.2.1), (3, jI r7.2.2.1), (4, jI r7.2.2.2.1), (5, jI r7.2.2.2.2.1), (6, jI r7.2.2.2.2.2.1), (7, jI r7.2.2.2.2.2.2.1)]) (st' := [jI (-1), jI r7.2.2.2.2.2.1]) rfl (p1 := 160) rfl ?_
      refine J_icmp_eq B.1 (off := 23) (tgt := 183) (by decide +kernel) (by decide) hf (fun hf => ?_) (fun hf => ?_)
      · refine B_blk B jlkX10_ok jcl_SKF [.iinc 5 1, .goto (-147)] (by decide +kernel) (ls' := [(0, jR 74), (1, jI r7.1), (2, jI r7.2.1), (3, jI r7.2.2.1), (4, jI r7.2.2.2.1), (5, jI (jW (r7.2.2.2.2.1 + 1))), (6, jI r7.2.2.2.2.2.1), (7, jI r7.2.2.2.2.2.2.1)]) (st' := []) rfl (p1 := 39) rfl ?_
        refine J_pick [0, 1, 2, 3, 4, 5] (ls' := [(0, jR 74), (1, jI r7.1), (2, jI r7.2.1), (3, jI r7.2.2.1), (4, jI r7.2.2.2.1), (5, jI (jW (r7.2.2.2.2.1 + 1)))]) rfl ?_
        exact ih r7.1 r7.2.1 r7.2.2.1 r7.2.2.2.1 (jW (r7.2.2.2.2.1 + 1)) r7.2.2.2.2.2.2.2 _ hf hq
      · refine B_blk B jlkX10_ok jcl_SKF [.iload_n 3] (by decide +kernel) (ls' := [(0, jR 74), (1, jI r7.1), (2, jI r7.2.1), (3, jI r7.2.2.1), (4, jI r7.2.2.2.1), (5, jI r7.2.2.2.2.1), (6, jI r7.2.2.2.2.2.1), (7, jI r7.2.2.2.2.2.2.1)]) (st' := [jI r7.2.2.1]) rfl (p1 := 164) rfl ?_
        refine J_if_eq B.1 (off := 10) (tgt := 174) (by decide +kernel) (by decide) hf (fun hf => ?_) (fun hf => ?_)
        · refine B_blk B jlkX10_ok jcl_SKF [.iload 4, .iconst 1, .iload 5, .ishl, .ior, .istore 4, .iinc 5 1, .goto (-147)] (by decide +kernel) (ls' := [(0, jR 74), (1, jI r7.1), (2, jI r7.2.1), (3, jI r7.2.2.1), (4, jI (jOr r7.2.2.2.1 (jSl 1 r7.2.2.2.2.1))), (5, jI (jW (r7.2.2.2.2.1 + 1))), (6, jI r7.2.2.2.2.2.1), (7, jI r7.2.2.2.2.2.2.1)]) (st' := []) rfl (p1 := 39) rfl ?_
          refine J_pick [0, 1, 2, 3, 4, 5] (ls' := [(0, jR 74), (1, jI r7.1), (2, jI r7.2.1), (3, jI r7.2.2.1), (4, jI (jOr r7.2.2.2.1 (jSl 1 r7.2.2.2.2.1))), (5, jI (jW (r7.2.2.2.2.1 + 1)))]) rfl ?_
          exact ih r7.1 r7.2.1 r7.2.2.1 (jOr r7.2.2.2.1 (jSl 1 r7.2.2.2.2.1)) (jW (r7.2.2.2.2.1 + 1)) r7.2.2.2.2.2.2.2 _ hf hq
        · refine B_blk B jlkX10_ok jcl_SKF [.iload 7, .iload 6] (by decide +kernel) (ls' := [(0, jR 74), (1, jI r7.1), (2, jI r7.2.1), (3, jI r7.2.2.1), (4, jI r7.2.2.2.1), (5, jI r7.2.2.2.2.1), (6, jI r7.2.2.2.2.2.1), (7, jI r7.2.2.2.2.2.2.1)]) (st' := [jI r7.2.2.2.2.2.1, jI r7.2.2.2.2.2.2.1]) rfl (p1 := 171) rfl ?_
          refine J_icmp_le B.1 (off := 12) (tgt := 183) (by decide +kernel) (by decide) hf (fun hf => ?_) (fun hf => ?_)
          · refine B_blk B jlkX10_ok jcl_SKF [.iinc 5 1, .goto (-147)] (by decide +kernel) (ls' := [(0, jR 74), (1, jI r7.1), (2, jI r7.2.1), (3, jI r7.2.2.1), (4, jI r7.2.2.2.1), (5, jI (jW (r7.2.2.2.2.1 + 1))), (6, jI r7.2.2.2.2.2.1), (7, jI r7.2.2.2.2.2.2.1)]) (st' := []) rfl (p1 := 39) rfl ?_
            refine J_pick [0, 1, 2, 3, 4, 5] (ls' := [(0, jR 74), (1, jI r7.1), (2, jI r7.2.1), (3, jI r7.2.2.1), (4, jI r7.2.2.2.1), (5, jI (jW (r7.2.2.2.2.1 + 1)))]) rfl ?_
            exact ih r7.1 r7.2.1 r7.2.2.1 r7.2.2.2.1 (jW (r7.2.2.2.2.1 + 1)) r7.2.2.2.2.2.2.2 _ hf hq
          · refine B_blk B jlkX10_ok jcl_SKF [.iload 4, .iconst 1, .iload 5, .ishl, .ior, .istore 4, .iinc 5 1, .goto (-147)] (by decide +kernel) (ls' := [(0, jR 74), (1, jI r7.1), (2, jI r7.2.1), (3, jI r7.2.2.1), (4, jI (jOr r7.2.2.2.1 (jSl 1 r7.2.2.2.2.1))), (5, jI (jW (r7.2.2.2.2.1 + 1))), (6, jI r7.2.2.2.2.2.1), (7, jI r7.2.2.2.2.2.2.1)]) (st' := []) rfl (p1 := 39) rfl ?_
            refine J_pick [0, 1, 2, 3, 4, 5] (ls' := [(0, jR 74), (1, jI r7.1), (2, jI r7.2.1), (3, jI r7.2.2.1), (4, jI (jOr r7.2.2.2.1 (jSl 1 r7.2.2.2.2.1))), (5, jI (jW (r7.2.2.2.2.1 + 1)))]) rfl ?_
            exact ih r7.1 r7.2.1 r7.2.2.1 (jOr r7.2.2.2.1 (jSl 1 r7.2.2.2.2.1)) (jW (r7.2.2.2.2.1 + 1)) r7.2.2.2.2.2.2.2 _ hf hq
theorem t_X10_recall {l : Launch} {G : jG} (hl : l.stackTraces = false) {a0 : Int} {a1 : Int} {a2 : Int} {m : jMu} {r : (Int × jMu)} (hf : f_X10_recall a0 a1 a2 m = some r) : jCt l G yX10_recall (.code yX10_recall cX10_recall 10 (some .int) :: jWG) rm_X10_recall [jR 74, jI a0, jI a1, jI a2] SKF m (.inl (some (jI r.1))) SKF r.2 := by
  unfold f_X10_recall at hf
  refine J_start (ls0 := [(0, jR 74), (1, jI a0), (2, jI a1), (3, jI a2)]) (by decide +kernel) hl (Nat.le_of_ble_eq_true rfl) rfl fun X C hN hn hR hr hnm hno hq => ?_
  have B : jB X cX10_recall RX10 10 SKF.length rm_X10_recall (some .int) := ⟨C, hN, Nat.le_of_eq hn, hR, hr⟩
  refine B_blk B jlkX10_ok jcl_SKF [.aload_n 0, .aload_n 0, .iload_n 1] (by decide +kernel) (ls' := [(0, jR 74), (1, jI a0), (2, jI a1), (3, jI a2)]) (st' := [jI a0, jR 74, jR 74]) rfl (p1 := 3) rfl ?_
  obtain ⟨r1, h1, hf⟩ := jbd hf
  refine B_callV B (Nat.le_refl _) (μ' := m) (k' := 0) (n' := 0) ca_X10_isBatch in_X10_isBatch se_X10_isBatch lk_X10_244 (t_X10_isBatch B.tr h1) (Nat.le_refl _) rfl rfl rfl (rest := [jR 74]) rfl rfl (Nat.le_of_ble_eq_true rfl) (by decide +kernel) rfl rfl (st' := [jI r1, jR 74]) rfl ?_
  refine J_if_eq B.1 (off := 10) (tgt := 16) (by decide +kernel) (by decide) hf (fun hf => ?_) (fun hf => ?_)
  · refine B_blk B jlkX10_ok jcl_SKF [.iconst 1, .goto 4] (by decide +kernel) (ls' := [(0, jR 74), (1, jI a0), (2, jI a1), (3, jI a2)]) (st' := [jI 1, jR 74]) rfl (p1 := 21) rfl ?_
    refine K_putI (jI' := 0) B jp_X10_51 rfl rfl rfl (by decide +kernel) ?_
    obtain ⟨m2, hm2, hf⟩ := jlt_s hf
    rw [hm2]
    refine B_blk B jlkX10_ok jcl_SKF [.aload_n 0, .getfield 51] (by decide +kernel) (ls' := [(0, jR 74), (1, jI a0), (2, jI a1), (3, jI a2)]) (st' := [jI (m2 74 0)]) rfl (p1 := 28) rfl ?_
    refine J_if_le B.1 (off := 5) (tgt := 33) (by decide +kernel) (by decide) hf (fun hf => ?_) (fun hf => ?_)
    · refine B_blk B jlkX10_ok jcl_SKF [.iconst 0, .istore 4, .iconst 0, .istore 5] (by decide +kernel) (ls' := [(0, jR 74), (1, jI a0), (2, jI a1), (3, jI a2), (4, jI 0), (5, jI 0)]) (st' := []) rfl (p1 := 39) rfl ?_
      exact t_X10_recall_L39 B jFU a0 a1 a2 0 0 m2 _ hf hq
    · refine B_blk B jlkX10_ok jcl_SKF [.iconst 0] (by decide +kernel) (ls' := [(0, jR 74), (1, jI a0), (2, jI a1), (3, jI a2)]) (st' := [jI 0]) rfl (p1 := 32) rfl ?_
      cases hf
      exact B_retI B hq rfl (Nat.le_of_ble_eq_true rfl) (Nat.le_of_ble_eq_true rfl) (by decide +kernel)
  · refine B_blk B jlkX10_ok jcl_SKF [.iload_n 2] (by decide +kernel) (ls' := [(0, jR 74), (1, jI a0), (2, jI a1), (3, jI a2)]) (st' := [jI a1, jR 74]) rfl (p1 := 10) rfl ?_
    obtain ⟨r8, h8, hf⟩ := jbd hf
    refine B_callS B (Nat.le_refl _) (μ' := m) (k' := 0) (n' := 0) ca_X10_isDay sa_X10_isDay lk_X10_209 (t_X10_isDay B.tr jcl_SKF h8) (Nat.le_refl _) rfl (rest := [jR 74]) rfl rfl (Nat.le_of_ble_eq_true rfl) (by decide +kernel) rfl rfl (st' := [jI r8, jR 74]) rfl ?_
    refine J_if_ne B.1 (off := 7) (tgt := 20) (by decide +kernel) (by decide) hf (fun hf => ?_) (fun hf => ?_)
    · refine B_blk B jlkX10_ok jcl_SKF [.iconst 1, .goto 4] (by decide +kernel) (ls' := [(0, jR 74), (1, jI a0), (2, jI a1), (3, jI a2)]) (st' := [jI 1, jR 74]) rfl (p1 := 21) rfl ?_
      refine K_putI (jI' := 0) B jp_X10_51 rfl rfl rfl (by decide +kernel) ?_
      obtain ⟨m9, hm9, hf⟩ := jlt_s hf
      rw [hm9]
      refine B_blk B jlkX10_ok jcl_SKF [.aload_n 0, .getfield 51] (by decide +kernel) (ls' := [(0, jR 74), (1, jI a0), (2, jI a1), (3, jI a2)]) (st' := [jI (m9 74 0)]) rfl (p1 := 28) rfl ?_
      refine J_if_le B.1 (off := 5) (tgt := 33) (by decide +kernel) (by decide) hf (fun hf => ?_) (fun hf => ?_)
      · refine B_blk B jlkX10_ok jcl_SKF [.iconst 0, .istore 4, .iconst 0, .istore 5] (by decide +kernel) (ls' := [(0, jR 74), (1, jI a0), (2, jI a1), (3, jI a2), (4, jI 0), (5, jI 0)]) (st' := []) rfl (p1 := 39) rfl ?_
        exact t_X10_recall_L39 B jFU a0 a1 a2 0 0 m9 _ hf hq
      · refine B_blk B jlkX10_ok jcl_SKF [.iconst 0] (by decide +kernel) (ls' := [(0, jR 74), (1, jI a0), (2, jI a1), (3, jI a2)]) (st' := [jI 0]) rfl (p1 := 32) rfl ?_
        cases hf
        exact B_retI B hq rfl (Nat.le_of_ble_eq_true rfl) (Nat.le_of_ble_eq_true rfl) (by decide +kernel)
    · refine B_blk B jlkX10_ok jcl_SKF [.iconst 0] (by decide +kernel) (ls' := [(0, jR 74), (1, jI a0), (2, jI a1), (3, jI a2)]) (st' := [jI 0, jR 74]) rfl (p1 := 21) rfl ?_
      refine K_putI (jI' := 0) B jp_X10_51 rfl rfl rfl (by decide +kernel) ?_
      obtain ⟨m10, hm10, hf⟩ := jlt_s hf
      rw [hm10]
      refine B_blk B jlkX10_ok jcl_SKF [.aload_n 0, .getfield 51] (by decide +kernel) (ls' := [(0, jR 74), (1, jI a0), (2, jI a1), (3, jI a2)]) (st' := [jI (m10 74 0)]) rfl (p1 := 28) rfl ?_
      refine J_if_le B.1 (off := 5) (tgt := 33) (by decide +kernel) (by decide) hf (fun hf => ?_) (fun hf => ?_)
      · refine B_blk B jlkX10_ok jcl_SKF [.iconst 0, .istore 4, .iconst 0, .istore 5] (by decide +kernel) (ls' := [(0, jR 74), (1, jI a0), (2, jI a1), (3, jI a2), (4, jI 0), (5, jI 0)]) (st' := []) rfl (p1 := 39) rfl ?_
        exact t_X10_recall_L39 B jFU a0 a1 a2 0 0 m10 _ hf hq
      · refine B_blk B jlkX10_ok jcl_SKF [.iconst 0] (by decide +kernel) (ls' := [(0, jR 74), (1, jI a0), (2, jI a1), (3, jI a2)]) (st' := [jI 0]) rfl (p1 := 32) rfl ?_
        cases hf
        exact B_retI B hq rfl (Nat.le_of_ble_eq_true rfl) (Nat.le_of_ble_eq_true rfl) (by decide +kernel)
