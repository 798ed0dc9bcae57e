/-! printed walks -/
def rm_X10_power : Room := { frames := 2, cells := 0, slots := 0, locals := 64 }
def f_X10_power_L5 : Nat → Int → Int → Int → Int → Option Int
  | 0, _, _, _, _ => none
  | q + 1, v0, v1, v2, v4 => (if v1 ≤ v4 then some v2 else f_X10_power_L5 q v0 v1 (jV (v2 * v0)) (jW (v4 + 1)))
def f_X10_power (a0 : Int) (a1 : Int) : Option Int :=
  f_X10_power_L5 jFU a0 a1 1 0
theorem t_X10_power_L5 {X : jX} {S : List jSh} (hcl : jcl S) (B : jB X cX10_power RX10 5 S.length rm_X10_power (some .long)) {μ : jMu} : ∀ (q : Nat) (v0 : Int) (v1 : Int) (v2 : Int) (v4 : Int) (r : Int), f_X10_power_L5 q v0 v1 v2 v4 = some r → jQ X (.inl (some (jL r))) S μ rm_X10_power.cells rm_X10_power.slots → J X S μ 0 0 5 [(0, jI v0), (1, jI v1), (2, jL v2), (4, jI v4)] [] := by
  intro q
  induction q with
  | zero =>
    intro v0 v1 v2 v4 r hf
    rw [f_X10_power_L5] at hf
    cases hf
  | succ q ih =>
    intro v0 v1 v2 v4 r hf hq
    rw [f_X10_power_L5] at hf
    refine B_blk B jlkX10_ok hcl [.iload 4, .iload_n 1] (by decide +kernel) (ls' := [(0, jI v0), (1, jI v1), (2, jL v2), (4, jI v4)]) (st' := [jI v1, jI v4]) rfl (p1 := 8) rfl ?_
    refine J_icmp_ge B.1 (off := 14) (tgt := 22) (by decide +kernel) (by decide) hf (fun hf => ?_) (fun hf => ?_)
    · refine B_blk B jlkX10_ok hcl [.lload_n 2] (by decide +kernel) (ls' := [(0, jI v0), (1, jI v1), (2, jL v2), (4, jI v4)]) (st' := [jL v2]) rfl (p1 := 23) rfl ?_
      cases hf
      exact B_retL B hq rfl (Nat.le_of_ble_eq_true rfl) (Nat.le_of_ble_eq_true rfl) (by decide +kernel)
    · refine B_blk B jlkX10_ok hcl [.lload_n 2, .iload_n 0, .i2l, .lmul, .lstore_n 2, .iinc 4 1, .goto (-14)] (by decide +kernel) (ls' := [(0, jI v0), (1, jI v1), (2, jL (jV (v2 * v0))), (4, jI (jW (v4 + 1)))]) (st' := []) rfl (p1 := 5) rfl ?_
      exact ih v0 v1 (jV (v2 * v0)) (jW (v4 + 1)) _ hf hq
theorem t_X10_power {l : Launch} {G : jG} (hl : l.stackTraces = false) {S : List jSh} (hcl : jcl S) {a0 : Int} {a1 : Int} {μ : jMu} {r : Int} (hf : f_X10_power a0 a1 = some r) : jCt l G yX10_power (.code yX10_power cX10_power 5 (some .long) :: jWG) rm_X10_power [jI a0, jI a1] S μ (.inl (some (jL r))) S μ := by
  unfold f_X10_power at hf
  refine J_start (ls0 := [(0, jI a0), (1, jI a1)]) (by decide +kernel) hl (Nat.le_of_ble_eq_true rfl) rfl fun X C hN hn hR hr hnm hno hq => ?_
  have B : jB X cX10_power RX10 5 S.length rm_X10_power (some .long) := ⟨C, hN, Nat.le_of_eq hn, hR, hr⟩
  refine B_blk B jlkX10_ok hcl [.lconst 1, .lstore_n 2, .iconst 0, .istore 4] (by decide +kernel) (ls' := [(0, jI a0), (1, jI a1), (2, jL 1), (4, jI 0)]) (st' := []) rfl (p1 := 5) rfl ?_
  exact t_X10_power_L5 hcl B jFU a0 a1 1 0 _ hf hq

def rm_X10_fails : Room := { frames := 4, cells := 0, slots := 0, locals := 88 }
def f_X10_fails_L8 : Nat → Int → Int → Int → Int → Int → Int → Option Int
  | 0, _, _, _, _, _, _ => none
  | q + 1, v0, v1, v2, v3, v5, v7 => (if v0 < v7 then some v3 else (if v7 ≤ 0 then (if v7 < v2 then f_X10_fails_L8 q v0 v1 v2 v3 v5 (jW (v7 + 1)) else (f_X10_power v1 v7).bind fun r1 => (f_X10_power (jW (4 - v1)) (jW (v0 - v7))).bind fun r2 => f_X10_fails_L8 q v0 v1 v2 (jV (v3 + jV (jV (v5 * r1) * r2))) v5 (jW (v7 + 1))) else (if v7 ≠ 0 then (jlt (jDvL (jV (v5 * jW (jW (v0 - v7) + 1))) v7) fun x3 => (if v7 < v2 then f_X10_fails_L8 q v0 v1 v2 v3 x3 (jW (v7 + 1)) else (f_X10_power v1 v7).bind fun r4 => (f_X10_power (jW (4 - v1)) (jW (v0 - v7))).bind fun r5 => f_X10_fails_L8 q v0 v1 v2 (jV (v3 + jV (jV (x3 * r4) * r5))) x3 (jW (v7 + 1)))) else none)))
def f_X10_fails (a0 : Int) (a1 : Int) (a2 : Int) : Option Int :=
  f_X10_fails_L8 jFU a0 a1 a2 0 1 0
theorem t_X10_fails_L8 {X : jX} {S : List jSh} (hcl : jcl S) (B : jB X cX10_fails RX10 8 S.length rm_X10_fails (some .long)) {μ : jMu} : ∀ (q : Nat) (v0 : Int) (v1 : Int) (v2 : Int) (v3 : Int) (v5 : Int) (v7 : Int) (r : Int), f_X10_fails_L8 q v0 v1 v2 v3 v5 v7 = some r → jQ X (.inl (some (jL r))) S μ rm_X10_fails.cells rm_X10_fails.slots → J X S μ 0 0 8 [(0, jI v0), (1, jI v1), (2, jI v2), (3, jL v3), (5, jL v5), (7, jI v7)] [] := by
  intro q
  induction q with
  | zero =>
    intro v0 v1 v2 v3 v5 v7 r hf
    rw [f_X10_fails_L8] at hf
    cases hf
  | succ q ih =>
    intro v0 v1 v2 v3 v5 v7 r hf hq
    rw [f_X10_fails_L8] at hf
    refine B_blk B jlkX10_ok hcl [.iload 7, .iload_n 0] (by decide +kernel) (ls' := [(0, jI v0), (1, jI v1), (2, jI v2), (3, jL v3), (5, jL v5), (7, jI v7)]) (st' := [jI v0, jI v7]) rfl (p1 := 11) rfl ?_
    refine J_icmp_gt B.1 (off := 59) (tgt := 70) (by decide +kernel) (by decide) hf (fun hf => ?_) (fun hf => ?_)
    · refine B_blk B jlkX10_ok hcl [.lload_n 3] (by decide +kernel) (ls' := [(0, jI v0), (1, jI v1), (2, jI v2), (3, jL v3), (5, jL v5), (7, jI v7)]) (st' := [jL v3]) rfl (p1 := 71) rfl ?_
      cases hf
      exact B_retL B hq rfl (Nat.le_of_ble_eq_true rfl) (Nat.le_of_ble_eq_true rfl) (by decide +kernel)
    · refine B_blk B jlkX10_ok hcl [.iload 7] (by decide +kernel) (ls' := [(0, jI v0), (1, jI v1), (2, jI v2), (3, jL v3), (5, jL v5), (7, jI v7)]) (st' := [jI v7]) rfl (p1 := 16) rfl ?_
      refine J_if_le B.1 (off := 19) (tgt := 35) (by decide +kernel) (by decide) hf (fun hf => ?_) (fun hf => ?_)
      · refine B_blk B jlkX10_ok hcl [.iload 7, .iload_n 2] (by decide +kernel) (ls' := [(0, jI v0), (1, jI v1), (2, jI v2), (3, jL v3), (5, jL v5), (7, jI v7)]) (st' := [jI v2, jI v7]) rfl (p1 := 38) rfl ?_
        refine J_icmp_lt B.1 (off := 26) (tgt := 64) (by decide +kernel) (by decide) hf (fun hf => ?_) (fun hf => ?_)
        · refine B_blk B jlkX10_ok hcl [.iinc 7 1, .goto (-59)] (by decide +kernel) (ls' := [(0, jI v0), (1, jI v1), (2, jI v2), (3, jL v3), (5, jL v5), (7, jI (jW (v7 + 1)))]) (st' := []) rfl (p1 := 8) rfl ?_
          exact ih v0 v1 v2 v3 v5 (jW (v7 + 1)) _ hf hq
        · refine B_blk B jlkX10_ok hcl [.lload_n 3, .lload 5, .iload_n 1, .iload 7] (by decide +kernel) (ls' := [(0, jI v0), (1, jI v1), (2, jI v2), (3, jL v3), (5, jL v5), (7, jI v7)]) (st' := [jI v7, jI v1, jL v5, jL v3]) rfl (p1 := 47) rfl ?_
          obtain ⟨r1, h1, hf⟩ := jbd hf
          refine B_callS B (Nat.le_refl _) (μ' := μ) (k' := 0) (n' := 0) ca_X10_power sa_X10_power lk_X10_278 (t_X10_power B.tr hcl h1) (Nat.le_refl _) rfl (rest := [jL v5, jL v3]) rfl rfl (Nat.le_of_ble_eq_true rfl) (by decide +kernel) rfl rfl (st' := [jL r1, jL v5, jL v3]) rfl ?_
          refine B_blk B jlkX10_ok hcl [.lmul, .iconst 4, .iload_n 1, .isub, .iload_n 0, .iload 7, .isub] (by decide +kernel) (ls' := [(0, jI v0), (1, jI v1), (2, jI v2), (3, jL v3), (5, jL v5), (7, jI v7)]) (st' := [jI (jW (v0 - v7)), jI (jW (4 - v1)), jL (jV (v5 * r1)), jL v3]) rfl (p1 := 58) rfl ?_
          obtain ⟨r2, h2, hf⟩ := jbd hf
          refine B_callS B (Nat.le_refl _) (μ' := μ) (k' := 0) (n' := 0) ca_X10_power sa_X10_power lk_X10_278 (t_X10_power B.tr hcl h2) (Nat.le_refl _) rfl (rest := [jL (jV (v5 * r1)), jL v3]) rfl rfl (Nat.le_of_ble_eq_true rfl) (by decide +kernel) rfl rfl (st' := [jL r2, jL (jV (v5 * r1)), jL v3]) rfl ?_
          refine B_blk B jlkX10_ok hcl [.lmul, .ladd, .lstore_n 3, .iinc 7 1, .goto (-59)] (by decide +kernel) (ls' := [(0, jI v0), (1, jI v1), (2, jI v2), (3, jL (jV (v3 + jV (jV (v5 * r1) * r2)))), (5, jL v5), (7, jI (jW (v7 + 1)))]) (st' := []) rfl (p1 := 8) rfl ?_
          exact ih v0 v1 v2 (jV (v3 + jV (jV (v5 * r1) * r2))) v5 (jW (v7 + 1)) _ hf hq
      · refine B_blk B jlkX10_ok hcl [.lload 5, .iload_n 0, .iload 7, .isub, .iconst 1, .iadd, .i2l, .lmul, .iload 7, .i2l] (by decide +kernel) (ls' := [(0, jI v0), (1, jI v1), (2, jI v2), (3, jL v3), (5, jL v5), (7, jI v7)]) (st' := [jL v7, jL (jV (v5 * jW (jW (v0 - v7) + 1)))]) rfl (p1 := 32) rfl ?_
        obtain ⟨g6, hf⟩ := jgd hf
        refine K_ldiv B g6 (by decide +kernel) ?_
        refine B_blk B jlkX10_ok hcl [.lstore 5] (by decide +kernel) (ls' := [(0, jI v0), (1, jI v1), (2, jI v2), (3, jL v3), (5, jL (jDvL (jV (v5 * jW (jW (v0 - v7) + 1))) v7)), (7, jI v7)]) (st' := []) rfl (p1 := 35) rfl ?_
        obtain ⟨x3, hx3, hf⟩ := jlt_s hf
        rw [hx3]
        refine B_blk B jlkX10_ok hcl [.iload 7, .iload_n 2] (by decide +kernel) (ls' := [(0, jI v0), (1, jI v1), (2, jI v2), (3, jL v3), (5, jL x3), (7, jI v7)]) (st' := [jI v2, jI v7]) rfl (p1 := 38) rfl ?_
        refine J_icmp_lt B.1 (off := 26) (tgt := 64) (by decide +kernel) (by decide) hf (fun hf => ?_) (fun hf => ?_)
        · refine B_blk B jlkX10_ok hcl [.iinc 7 1, .goto (-59)] (by decide +kernel) (ls' := [(0, jI v0), (1, jI v1), (2, jI v2), (3, jL v3), (5, jL x3), (7, jI (jW (v7 + 1)))]) (st' := []) rfl (p1 := 8) rfl ?_
          exact ih v0 v1 v2 v3 x3 (jW (v7 + 1)) _ hf hq
        · refine B_blk B jlkX10_ok hcl [.lload_n 3, .lload 5, .iload_n 1, .iload 7] (by decide +kernel) (ls' := [(0, jI v0), (1, jI v1), (2, jI v2), (3, jL v3), (5, jL x3), (7, jI v7)]) (st' := [jI v7, jI v1, jL x3, jL v3]) rfl (p1 := 47) rfl ?_
          obtain ⟨r4, h4, hf⟩ := jbd hf
          refine B_callS B (Nat.le_refl _) (μ' := μ) (k' := 0) (n' := 0) ca_X10_power sa_X10_power lk_X10_278 (t_X10_power B.tr hcl h4) (Nat.le_refl _) rfl (rest := [jL x3, jL v3]) rfl rfl (Nat.le_of_ble_eq_true rfl) (by decide +kernel) rfl rfl (st' := [jL r4, jL x3, jL v3]) rfl ?_
          refine B_blk B jlkX10_ok hcl [.lmul, .iconst 4, .iload_n 1, .isub, .iload_n 0, .iload 7, .isub] (by decide +kernel) (ls' := [(0, jI v0), (1, jI v1), (2, jI v2), (3, jL v3), (5, jL x3), (7, jI v7)]) (st' := [jI (jW (v0 - v7)), jI (jW (4 - v1)), jL (jV (x3 * r4)), jL v3]) rfl (p1 := 58) rfl ?_
          obtain ⟨r5, h5, hf⟩ := jbd hf
          refine B_callS B (Nat.le_refl _) (μ' := μ) (k' := 0) (n' := 0) ca_X10_power sa_X10_power lk_X10_278 (t_X10_power B.tr hcl h5) (Nat.le_refl _) rfl (rest := [jL (jV (x3 * r4)), jL v3]) rfl rfl (Nat.le_of_ble_eq_true rfl) (by decide +kernel) rfl rfl (st' := [jL r5, jL (jV (x3 * r4)), jL v3]) rfl ?_
          refine B_blk B jlkX10_ok hcl [.lmul, .ladd, .lstore_n 3, .iinc 7 1, .goto (-59)] (by decide +kernel) (ls' := [(0, jI v0), (1, jI v1), (2, jI v2), (3, jL (jV (v3 + jV (jV (x3 * r4) * r5)))), (5, jL x3), (7, jI (jW (v7 + 1)))]) (st' := []) rfl (p1 := 8) rfl ?_
          exact ih v0 v1 v2 (jV (v3 + jV (jV (x3 * r4) * r5))) x3 (jW (v7 + 1)) _ hf hq
theorem t_X10_fails {l : Launch} {G : jG} (hl : l.stackTraces = false) {S : List jSh} (hcl : jcl S) {a0 : Int} {a1 : Int} {a2 : Int} {μ : jMu} {r : Int} (hf : f_X10_fails a0 a1 a2 = some r) : jCt l G yX10_fails (.code yX10_fails cX10_fails 8 (some .long) :: jWG) rm_X10_fails [jI a0, jI a1, jI a2] S μ (.inl (some (jL r))) S μ := by
  unfold f_X10_fails at hf
  refine J_start (ls0 := [(0, jI a0), (1, jI a1), (2, jI a2)]) (by decide +kernel) hl (Nat.le_of_ble_eq_true rfl) rfl fun X C hN hn hR hr hnm hno hq => ?_
  have B : jB X cX10_fails RX10 8 S.length rm_X10_fails (some .long) := ⟨C, hN, Nat.le_of_eq hn, hR, hr⟩
  refine B_blk B jlkX10_ok hcl [.lconst 0, .lstore_n 3, .lconst 1, .lstore 5, .iconst 0, .istore 7] (by decide +kernel) (ls' := [(0, jI a0), (1, jI a1), (2, jI a2), (3, jL 0), (5, jL 1), (7, jI 0)]) (st' := []) rfl (p1 := 8) rfl ?_
  exact t_X10_fails_L8 hcl B jFU a0 a1 a2 0 1 0 _ hf hq

def rm_X10_promise : Room := { frames := 6, cells := 0, slots := 0, locals := 115 }
def f_X10_promise (a0 : Int) (a1 : Int) (a2 : Int) (m : jMu) : Option (Int × jMu) :=
  (f_X10_isIn a0 1 20).bind fun r1 => (if r1 = 0 then (jlt (jup m 74 0 1) fun m2 => (if m2 74 0 ≤ 0 then (f_X10_fails a0 a1 a2).bind fun r3 => some (r3, m2) else some (0, m2))) else (f_X10_isIn a1 0 4).bind fun r4 => (if r4 = 0 then (jlt (jup m 74 0 1) fun m5 => (if m5 74 0 ≤ 0 then (f_X10_fails a0 a1 a2).bind fun r6 => some (r6, m5) else some (0, m5))) else (f_X10_isIn a2 1 20).bind fun r7 => (if r7 = 0 then (jlt (jup m 74 0 1) fun m8 => (if m8 74 0 ≤ 0 then (f_X10_fails a0 a1 a2).bind fun r9 => some (r9, m8) else some (0, m8))) else (jlt (jup m 74 0 0) fun m10 => (if m10 74 0 ≤ 0 then (f_X10_fails a0 a1 a2).bind fun r11 => some (r11, m10) else some (0, m10))))))
theorem t_X10_promise {l : Launch} {G : jG} (hl : l.stackTraces = false) {a0 : Int} {a1 : Int} {a2 : Int} {m : jMu} {r : (Int × jMu)} (hf : f_X10_promise a0 a1 a2 m = some r) : jCt l G yX10_promise (.code yX10_promise cX10_promise 4 (some .long) :: jWG) rm_X10_promise [jR 74, jI a0, jI a1, jI a2] SKF m (.inl (some (jL r.1))) SKF r.2 := by
  unfold f_X10_promise at hf
  refine J_start (ls0 := [(0, jR 74), (1, jI a0), (2, jI a1), (3, jI a2)]) (by decide +kernel) hl (Nat.le_of_ble_eq_true rfl) rfl fun X C hN hn hR hr hnm hno hq => ?_
  have B : jB X cX10_promise RX10 4 SKF.length rm_X10_promise (some .long) := ⟨C, hN, Nat.le_of_eq hn, hR, hr⟩
  refine B_blk B jlkX10_ok jcl_SKF [.aload_n 0, .iload_n 1, .iconst 1, .bipush 20] (by decide +kernel) (ls' := [(0, jR 74), (1, jI a0), (2, jI a1), (3, jI a2)]) (st' := [jI 20, jI 1, jI a0, jR 74]) rfl (p1 := 5) rfl ?_
  obtain ⟨r1, h1, hf⟩ := jbd hf
  refine B_callS B (Nat.le_refl _) (μ' := m) (k' := 0) (n' := 0) ca_X10_isIn sa_X10_isIn lk_X10_54 (t_X10_isIn B.tr jcl_SKF h1) (Nat.le_refl _) rfl (rest := [jR 74]) rfl rfl (Nat.le_of_ble_eq_true rfl) (by decide +kernel) rfl rfl (st' := [jI r1, jR 74]) rfl ?_
  refine J_if_eq B.1 (off := 22) (tgt := 30) (by decide +kernel) (by decide) hf (fun hf => ?_) (fun hf => ?_)
  · refine B_blk B jlkX10_ok jcl_SKF [.iconst 1, .goto 4] (by decide +kernel) (ls' := [(0, jR 74), (1, jI a0), (2, jI a1), (3, jI a2)]) (st' := [jI 1, jR 74]) rfl (p1 := 35) rfl ?_
    refine K_putI (jI' := 0) B jp_X10_51 rfl rfl rfl (by decide +kernel) ?_
    obtain ⟨m2, hm2, hf⟩ := jlt_s hf
    rw [hm2]
    refine B_blk B jlkX10_ok jcl_SKF [.aload_n 0, .getfield 51] (by decide +kernel) (ls' := [(0, jR 74), (1, jI a0), (2, jI a1), (3, jI a2)]) (st' := [jI (m2 74 0)]) rfl (p1 := 42) rfl ?_
    refine J_if_le B.1 (off := 5) (tgt := 47) (by decide +kernel) (by decide) hf (fun hf => ?_) (fun hf => ?_)
    · refine B_blk B jlkX10_ok jcl_SKF [.iload_n 1, .iload_n 2, .iload_n 3] (by decide +kernel) (ls' := [(0, jR 74), (1, jI a0), (2, jI a1), (3, jI a2)]) (st' := [jI a2, jI a1, jI a0]) rfl (p1 := 50) rfl ?_
      obtain ⟨r3, h3, hf⟩ := jbd hf
      refine B_callS B (Nat.le_refl _) (μ' := m2) (k' := 0) (n' := 0) ca_X10_fails sa_X10_fails lk_X10_282 (t_X10_fails B.tr jcl_SKF h3) (Nat.le_refl _) rfl (rest := []) rfl rfl (Nat.le_of_ble_eq_true rfl) (by decide +kernel) rfl rfl (st' := [jL r3]) rfl ?_
      cases hf
      exact B_retL B hq rfl (Nat.le_of_ble_eq_true rfl) (Nat.le_of_ble_eq_true rfl) (by decide +kernel)
    · refine B_blk B jlkX10_ok jcl_SKF [.lconst 0] (by decide +kernel) (ls' := [(0, jR 74), (1, jI a0), (2, jI a1), (3, jI a2)]) (st' := [jL 0]) rfl (p1 := 46) rfl ?_
      cases hf
      exact B_retL B hq rfl (Nat.le_of_ble_eq_true rfl) (Nat.le_of_ble_eq_true rfl) (by decide +kernel)
  · refine B_blk B jlkX10_ok jcl_SKF [.iload_n 2, .iconst 0, .iconst 4] (by decide +kernel) (ls' := [(0, jR 74), (1, jI a0), (2, jI a1), (3, jI a2)]) (st' := [jI 4, jI 0, jI a1, jR 74]) rfl (p1 := 14) rfl ?_
    obtain ⟨r4, h4, hf⟩ := jbd hf
    refine B_callS B (Nat.le_refl _) (μ' := m) (k' := 0) (n' := 0) ca_X10_isIn sa_X10_isIn lk_X10_54 (t_X10_isIn B.tr jcl_SKF h4) (Nat.le_refl _) rfl (rest := [jR 74]) rfl rfl (Nat.le_of_ble_eq_true rfl) (by decide +kernel) rfl rfl (st' := [jI r4, jR 74]) rfl ?_
    refine J_if_eq B.1 (off := 13) (tgt := 30) (by decide +kernel) (by decide) hf (fun hf => ?_) (fun hf => ?_)
    · refine B_blk B jlkX10_ok jcl_SKF [.iconst 1, .goto 4] (by decide +kernel) (ls' := [(0, jR 74), (1, jI a0), (2, jI a1), (3, jI a2)]) (st' := [jI 1, jR 74]) rfl (p1 := 35) rfl ?_
      refine K_putI (jI' := 0) B jp_X10_51 rfl rfl rfl (by decide +kernel) ?_
      obtain ⟨m5, hm5, hf⟩ := jlt_s hf
      rw [hm5]
      refine B_blk B jlkX10_ok jcl_SKF [.aload_n 0, .getfield 51] (by decide +kernel) (ls' := [(0, jR 74), (1, jI a0), (2, jI a1), (3, jI a2)]) (st' := [jI (m5 74 0)]) rfl (p1 := 42) rfl ?_
      refine J_if_le B.1 (off := 5) (tgt := 47) (by decide +kernel) (by decide) hf (fun hf => ?_) (fun hf => ?_)
      · refine B_blk B jlkX10_ok jcl_SKF [.iload_n 1, .iload_n 2, .iload_n 3] (by decide +kernel) (ls' := [(0, jR 74), (1, jI a0), (2, jI a1), (3, jI a2)]) (st' := [jI a2, jI a1, jI a0]) rfl (p1 := 50) rfl ?_
        obtain ⟨r6, h6, hf⟩ := jbd hf
        refine B_callS B (Nat.le_refl _) (μ' := m5) (k' := 0) (n' := 0) ca_X10_fails sa_X10_fails lk_X10_282 (t_X10_fails B.tr jcl_SKF h6) (Nat.le_refl _) rfl (rest := []) rfl rfl (Nat.le_of_ble_eq_true rfl) (by decide +kernel) rfl rfl (st' := [jL r6]) rfl ?_
        cases hf
        exact B_retL B hq rfl (Nat.le_of_ble_eq_true rfl) (Nat.le_of_ble_eq_true rfl) (by decide +kernel)
      · refine B_blk B jlkX10_ok jcl_SKF [.lconst 0] (by decide +kernel) (ls' := [(0, jR 74), (1, jI a0), (2, jI a1), (3, jI a2)]) (st' := [jL 0]) rfl (p1 := 46) rfl ?_
        cases hf
        exact B_retL B hq rfl (Nat.le_of_ble_eq_true rfl) (Nat.le_of_ble_eq_true rfl) (by decide +kernel)
    · refine B_blk B jlkX10_ok jcl_SKF [.iload_n 3, .iconst 1, .bipush 20] (by decide +kernel) (ls' := [(0, jR 74), (1, jI a0), (2, jI a1), (3, jI a2)]) (st' := [jI 20, jI 1, jI a2, jR 74]) rfl (p1 := 24) rfl ?_
      obtain ⟨r7, h7, hf⟩ := jbd hf
      refine B_callS B (Nat.le_refl _) (μ' := m) (k' := 0) (n' := 0) ca_X10_isIn sa_X10_isIn lk_X10_54 (t_X10_isIn B.tr jcl_SKF h7) (Nat.le_refl _) rfl (rest := [jR 74]) rfl rfl (Nat.le_of_ble_eq_true rfl) (by decide +kernel) rfl rfl (st' := [jI r7, jR 74]) rfl ?_
      refine J_if_ne B.1 (off := 7) (tgt := 34) (by decide +kernel) (by decide) hf (fun hf => ?_) (fun hf => ?_)
      · refine B_blk B jlkX10_ok jcl_SKF [.iconst 1, .goto 4] (by decide +kernel) (ls' := [(0, jR 74), (1, jI a0), (2, jI a1), (3, jI a2)]) (st' := [jI 1, jR 74]) rfl (p1 := 35) rfl ?_
        refine K_putI (jI' := 0) B jp_X10_51 rfl rfl rfl (by decide +kernel) ?_
        obtain ⟨m8, hm8, hf⟩ := jlt_s hf
        rw [hm8]
        refine B_blk B jlkX10_ok jcl_SKF [.aload_n 0, .getfield 51] (by decide +kernel) (ls' := [(0, jR 74), (1, jI a0), (2, jI a1), (3, jI a2)]) (st' := [jI (m8 74 0)]) rfl (p1 := 42) rfl ?_
        refine J_if_le B.1 (off := 5) (tgt := 47) (by decide +kernel) (by decide) hf (fun hf => ?_) (fun hf => ?_)
        · refine B_blk B jlkX10_ok jcl_SKF [.iload_n 1, .iload_n 2, .iload_n 3] (by decide +kernel) (ls' := [(0, jR 74), (1, jI a0), (2, jI a1), (3, jI a2)]) (st' := [jI a2, jI a1, jI a0]) rfl (p1 := 50) rfl ?_
          obtain ⟨r9, h9, hf⟩ := jbd hf
          refine B_callS B (Nat.le_refl _) (μ' := m8) (k' := 0) (n' := 0) ca_X10_fails sa_X10_fails lk_X10_282 (t_X10_fails B.tr jcl_SKF h9) (Nat.le_refl _) rfl (rest := []) rfl rfl (Nat.le_of_ble_eq_true rfl) (by decide +kernel) rfl rfl (st' := [jL r9]) rfl ?_
          cases hf
          exact B_retL B hq rfl (Nat.le_of_ble_eq_true rfl) (Nat.le_of_ble_eq_true rfl) (by decide +kernel)
        · refine B_blk B jlkX10_ok jcl_SKF [.lconst 0] (by decide +kernel) (ls' := [(0, jR 74), (1, jI a0), (2, jI a1), (3, jI a2)]) (st' := [jL 0]) rfl (p1 := 46) rfl ?_
          cases hf
          exact B_retL B hq rfl (Nat.le_of_ble_eq_true rfl) (Nat.le_of_ble_eq_true rfl) (by decide +kernel)
      · refine B_blk B jlkX10_ok jcl_SKF [.iconst 0] (by decide +kernel) (ls' := [(0, jR 74), (1, jI a0), (2, jI a1), (3, jI a2)]) (st' := [jI 0, jR 74]) rfl (p1 := 35) rfl ?_
        refine K_putI (jI' := 0) B jp_X10_51 rfl rfl rfl (by decide +kernel) ?_
        obtain ⟨m10, hm10, hf⟩ := jlt_s hf
        rw [hm10]
        refine B_blk B jlkX10_ok jcl_SKF [.aload_n 0, .getfield 51] (by decide +kernel) (ls' := [(0, jR 74), (1, jI a0), (2, jI a1), (3, jI a2)]) (st' := [jI (m10 74 0)]) rfl (p1 := 42) rfl ?_
        refine J_if_le B.1 (off := 5) (tgt := 47) (by decide +kernel) (by decide) hf (fun hf => ?_) (fun hf => ?_)
        · refine B_blk B jlkX10_ok jcl_SKF [.iload_n 1, .iload_n 2, .iload_n 3] (by decide +kernel) (ls' := [(0, jR 74), (1, jI a0), (2, jI a1), (3, jI a2)]) (st' := [jI a2, jI a1, jI a0]) rfl (p1 := 50) rfl ?_
          obtain ⟨r11, h11, hf⟩ := jbd hf
          refine B_callS B (Nat.le_refl _) (μ' := m10) (k' := 0) (n' := 0) ca_X10_fails sa_X10_fails lk_X10_282 (t_X10_fails B.tr jcl_SKF h11) (Nat.le_refl _) rfl (rest := []) rfl rfl (Nat.le_of_ble_eq_true rfl) (by decide +kernel) rfl rfl (st' := [jL r11]) rfl ?_
          cases hf
          exact B_retL B hq rfl (Nat.le_of_ble_eq_true rfl) (Nat.le_of_ble_eq_true rfl) (by decide +kernel)
        · refine B_blk B jlkX10_ok jcl_SKF [.lconst 0] (by decide +kernel) (ls' := [(0, jR 74), (1, jI a0), (2, jI a1), (3, jI a2)]) (st' := [jL 0]) rfl (p1 := 46) rfl ?_
          cases hf
          exact B_retL B hq rfl (Nat.le_of_ble_eq_true rfl) (Nat.le_of_ble_eq_true rfl) (by decide +kernel)

def rm_X10_edge : Room := { frames := 6, cells := 0, slots := 0, locals := 115 }
def f_X10_edge_J47 (v1 : Int) (v2 : Int) (v3 : Int) (v4 : Int) (s1 : Int) (m : jMu) : Option (Int × jMu) :=
  (jlt (jup m 74 0 s1) fun m2 => (if m2 74 0 ≤ 0 then (f_X10_power 4 v1).bind fun r3 => (f_X10_fails v1 v2 v3).bind fun r4 => (if jV (r3 + r4) ≠ 0 then (jlt (jDvL (jV (jV (v4 * v1) * r3)) (jV (r3 + r4))) fun x5 => (if jCm x5 9999 ≤ 0 then some (jW x5, m2) else some (99999, m2))) else none) else some (0, m2)))
def f_X10_edge_J42 (v1 : Int) (v2 : Int) (v3 : Int) (v4 : Int) (m : jMu) : Option (Int × jMu) :=
  f_X10_edge_J47 v1 v2 v3 v4 1 m
def f_X10_edge (a0 : Int) (a1 : Int) (a2 : Int) (a3 : Int) (m : jMu) : Option (Int × jMu) :=
  (f_X10_isIn a0 1 20).bind fun r1 => (if r1 = 0 then f_X10_edge_J42 a0 a1 a2 a3 m else (f_X10_isIn a1 0 4).bind fun r7 => (if r7 = 0 then f_X10_edge_J42 a0 a1 a2 a3 m else (f_X10_isIn a2 1 20).bind fun r8 => (if r8 = 0 then f_X10_edge_J42 a0 a1 a2 a3 m else (f_X10_isIn a3 0 999).bind fun r9 => (if r9 = 0 then f_X10_edge_J42 a0 a1 a2 a3 m else f_X10_edge_J47 a0 a1 a2 a3 0 m))))
theorem t_X10_edge_J47 {X : jX} (B : jB X cX10_edge RX10 9 SKF.length rm_X10_edge (some .int)) (v1 : Int) (v2 : Int) (v3 : Int) (v4 : Int) (s1 : Int) (m : jMu) (r : (Int × jMu)) (hf : f_X10_edge_J47 v1 v2 v3 v4 s1 m = some r) (hq : jQ X (.inl (some (jI r.1))) SKF r.2 rm_X10_edge.cells rm_X10_edge.slots) : J X SKF m 0 0 47 [(0, jR 74), (1, jI v1), (2, jI v2), (3, jI v3), (4, jI v4)] [jI s1, jR 74] := by
  unfold f_X10_edge_J47 at hf
  refine K_putI (jI' := 0) B jp_X10_51 rfl rfl rfl (by decide +kernel) ?_
  obtain ⟨m2, hm2, hf⟩ := jlt_s hf
  rw [hm2]
  refine B_blk B jlkX10_ok jcl_SKF [.aload_n 0, .getfield 51] (by decide +kernel) (ls' := [(0, jR 74), (1, jI v1), (2, jI v2), (3, jI v3), (4, jI v4)]) (st' := [jI (m2 74 0)]) rfl (p1 := 54) rfl ?_
  refine J_if_le B.1 (off := 5) (tgt := 59) (by decide +kernel) (by decide) hf (fun hf => ?_) (fun hf => ?_)
  · refine B_blk B jlkX10_ok jcl_SKF [.iconst 4, .iload_n 1] (by decide +kernel) (ls' := [(0, jR 74), (1, jI v1), (2, jI v2), (3, jI v3), (4, jI v4)]) (st' := [jI v1, jI 4]) rfl (p1 := 61) rfl ?_
    obtain ⟨r3, h3, hf⟩ := jbd hf
    refine B_callS B (Nat.le_refl _) (μ' := m2) (k' := 0) (n' := 0) ca_X10_power sa_X10_power lk_X10_278 (t_X10_power B.tr jcl_SKF h3) (Nat.le_refl _) rfl (rest := []) rfl rfl (Nat.le_of_ble_eq_true rfl) (by decide +kernel) rfl rfl (st' := [jL r3]) rfl ?_
    refine B_blk B jlkX10_ok jcl_SKF [.lstore 5, .iload 4, .i2l, .iload_n 1, .i2l, .lmul, .lload 5, .lmul, .lload 5, .iload_n 1, .iload_n 2, .iload_n 3] (by decide +kernel) (ls' := [(0, jR 74), (1, jI v1), (2, jI v2), (3, jI v3), (4, jI v4), (5, jL r3)]) (st' := [jI v3, jI v2, jI v1, jL r3, jL (jV (jV (v4 * v1) * r3))]) rfl (p1 := 80) rfl ?_
    obtain ⟨r4, h4, hf⟩ := jbd hf
    refine B_callS B (Nat.le_refl _) (μ' := m2) (k' := 0) (n' := 0) ca_X10_fails sa_X10_fails lk_X10_282 (t_X10_fails B.tr jcl_SKF h4) (Nat.le_refl _) rfl (rest := [jL r3, jL (jV (jV (v4 * v1) * r3))]) rfl rfl (Nat.le_of_ble_eq_true rfl) (by decide +kernel) rfl rfl (st' := [jL r4, jL r3, jL (jV (jV (v4 * v1) * r3))]) rfl ?_
    refine B_blk B jlkX10_ok jcl_SKF [.ladd] (by decide +kernel) (ls' := [(0, jR 74), (1, jI v1), (2, jI v2), (3, jI v3), (4, jI v4), (5, jL r3)]) (st' := [jL (jV (r3 + r4)), jL (jV (jV (v4 * v1) * r3))]) rfl (p1 := 84) rfl ?_
    obtain ⟨g6, hf⟩ := jgd hf
    refine K_ldiv B g6 (by decide +kernel) ?_
    refine B_blk B jlkX10_ok jcl_SKF [.lstore 7] (by decide +kernel) (ls' := [(0, jR 74), (1, jI v1), (2, jI v2), (3, jI v3), (4, jI v4), (5, jL r3), (7, jL (jDvL (jV (jV (v4 * v1) * r3)) (jV (r3 + r4))))]) (st' := []) rfl (p1 := 87) rfl ?_
    obtain ⟨x5, hx5, hf⟩ := jlt_s hf
    rw [hx5]
    refine B_blk B jlkX10_ok jcl_SKF [.lload 7] (by decide +kernel) (ls' := [(0, jR 74), (1, jI v1), (2, jI v2), (3, jI v3), (4, jI v4), (5, jL r3), (7, jL x5)]) (st' := [jL x5]) rfl (p1 := 89) rfl ?_
    refine J_ldc2 (z := 9999) B.1 co_X10_286 (by decide) (by unfold jLn; omega) (by decide +kernel) ?_
    refine B_blk B jlkX10_ok jcl_SKF [.lcmp] (by decide +kernel) (ls' := [(0, jR 74), (1, jI v1), (2, jI v2), (3, jI v3), (4, jI v4), (5, jL r3), (7, jL x5)]) (st' := [jI (jCm x5 9999)]) rfl (p1 := 93) rfl ?_
    refine J_if_le B.1 (off := 9) (tgt := 102) (by decide +kernel) (by decide) hf (fun hf => ?_) (fun hf => ?_)
    · refine B_blk B jlkX10_ok jcl_SKF [.lload 7, .l2i] (by decide +kernel) (ls' := [(0, jR 74), (1, jI v1), (2, jI v2), (3, jI v3), (4, jI v4), (5, jL r3), (7, jL x5)]) (st' := [jI (jW x5)]) rfl (p1 := 105) rfl ?_
      cases hf
      exact B_retI B hq rfl (Nat.le_of_ble_eq_true rfl) (Nat.le_of_ble_eq_true rfl) (by decide +kernel)
    · refine J_ldcw (z := 99999) B.1 co_X10_288 (by decide) (by unfold jIn; omega) (by decide +kernel) ?_
      refine B_blk B jlkX10_ok jcl_SKF [.goto 6] (by decide +kernel) (ls' := [(0, jR 74), (1, jI v1), (2, jI v2), (3, jI v3), (4, jI v4), (5, jL r3), (7, jL x5)]) (st' := [jI 99999]) rfl (p1 := 105) rfl ?_
      cases hf
      exact B_retI B hq rfl (Nat.le_of_ble_eq_true rfl) (Nat.le_of_ble_eq_true rfl) (by decide +kernel)
  · refine B_blk B jlkX10_ok jcl_SKF [.iconst 0] (by decide +kernel) (ls' := [(0, jR 74), (1, jI v1), (2, jI v2), (3, jI v3), (4, jI v4)]) (st' := [jI 0]) rfl (p1 := 58) rfl ?_
    cases hf
    exact B_retI B hq rfl (Nat.le_of_ble_eq_true rfl) (Nat.le_of_ble_eq_true rfl) (by decide +kernel)
theorem t_X10_edge_J42 {X : jX} (B : jB X cX10_edge RX10 9 SKF.length rm_X10_edge (some .int)) (v1 : Int) (v2 : Int) (v3 : Int) (v4 : Int) (m : jMu) (r : (Int × jMu)) (hf : f_X10_edge_J42 v1 v2 v3 v4 m = some r) (hq : jQ X (.inl (some (jI r.1))) SKF r.2 rm_X10_edge.cells rm_X10_edge.slots) : J X SKF m 0 0 42 [(0, jR 74), (1, jI v1), (2, jI v2), (3, jI v3), (4, jI v4)] [jR 74] := by
  unfold f_X10_edge_J42 at hf
  refine B_blk B jlkX10_ok jcl_SKF [.iconst 1, .goto 4] (by decide +kernel) (ls' := [(0, jR 74), (1, jI v1), (2, jI v2), (3, jI v3), (4, jI v4)]) (st' := [jI 1, jR 74]) rfl (p1 := 47) rfl ?_
  exact t_X10_edge_J47 B v1 v2 v3 v4 1 m _ hf hq
theorem t_X10_edge {l : Launch} {G : jG} (hl : l.stackTraces = false) {a0 : Int} {a1 : Int} {a2 : Int} {a3 : Int} {m : jMu} {r : (Int × jMu)} (hf : f_X10_edge a0 a1 a2 a3 m = some r) : jCt l G yX10_edge (.code yX10_edge cX10_edge 9 (some .int) :: jWG) rm_X10_edge [jR 74, jI a0, jI a1, jI a2, jI a3] SKF m (.inl (some (jI r.1))) SKF r.2 := by
  unfold f_X10_edge at hf
  refine J_start (ls0 := [(0, jR 74), (1, jI a0), (2, jI a1), (3, jI a2), (4, jI a3)]) (by decide +kernel) hl (Nat.le_of_ble_eq_true rfl) rfl fun X C hN hn hR hr hnm hno hq => ?_
  have B : jB X cX10_edge RX10 9 SKF.length rm_X10_edge (some .int) := ⟨C, hN, Nat.le_of_eq hn, hR, hr⟩
  refine B_blk B jlkX10_ok jcl_SKF [.aload_n 0, .iload_n 1, .iconst 1, .bipush 20] (by decide +kernel) (ls' := [(0, jR 74), (1, jI a0), (2, jI a1), (3, jI a2), (4, jI a3)]) (st' := [jI 20, jI 1, jI a0, jR 74]) rfl (p1 := 5) rfl ?_
  obtain ⟨r1, h1, hf⟩ := jbd hf
  refine B_callS B (Nat.le_refl _) (μ' := m) (k' := 0) (n' := 0) ca_X10_isIn sa_X10_isIn lk_X10_54 (t_X10_isIn B.tr jcl_SKF h1) (Nat.le_refl _) rfl (rest := [jR 74]) rfl rfl (Nat.le_of_ble_eq_true rfl) (by decide +kernel) rfl rfl (st' := [jI r1, jR 74]) rfl ?_
  refine J_if_eq B.1 (off := 34) (tgt := 42) (by decide +kernel) (by decide) hf (fun hf => ?_) (fun hf => ?_)
  · exact t_X10_edge_J42 B a0 a1 a2 a3 m _ hf hq
  · refine B_blk B jlkX10_ok jcl_SKF [.iload_n 2, .iconst 0, .iconst 4] (by decide +kernel) (ls' := [(0, jR 74), (1, jI a0), (2, jI a1), (3, jI a2), (4, jI a3)]) (st' := [jI 4, jI 0, jI a1, jR 74]) rfl (p1 := 14) rfl ?_
    obtain ⟨r7, h7, hf⟩ := jbd hf
    refine B_callS B (Nat.le_refl _) (μ' := m) (k' := 0) (n' := 0) ca_X10_isIn sa_X10_isIn lk_X10_54 (t_X10_isIn B.tr jcl_SKF h7) (Nat.le_refl _) rfl (rest := [jR 74]) rfl rfl (Nat.le_of_ble_eq_true rfl) (by decide +kernel) rfl rfl (st' := [jI r7, jR 74]) rfl ?_
    refine J_if_eq B.1 (off := 25) (tgt := 42) (by decide +kernel) (by decide) hf (fun hf => ?_) (fun hf => ?_)
    · exact t_X10_edge_J42 B a0 a1 a2 a3 m _ hf hq
    · refine B_blk B jlkX10_ok jcl_SKF [.iload_n 3, .iconst 1, .bipush 20] (by decide +kernel) (ls' := [(0, jR 74), (1, jI a0), (2, jI a1), (3, jI a2), (4, jI a3)]) (st' := [jI 20, jI 1, jI a2, jR 74]) rfl (p1 := 24) rfl ?_
      obtain ⟨r8, h8, hf⟩ := jbd hf
      refine B_callS B (Nat.le_refl _) (μ' := m) (k' := 0) (n' := 0) ca_X10_isIn sa_X10_isIn lk_X10_54 (t_X10_isIn B.tr jcl_SKF h8) (Nat.le_refl _) rfl (rest := [jR 74]) rfl rfl (Nat.le_of_ble_eq_true rfl) (by decide +kernel) rfl rfl (st' := [jI r8, jR 74]) rfl ?_
      refine J_if_eq B.1 (off := 15) (tgt := 42) (by decide +kernel) (by decide) hf (fun hf => ?_) (fun hf => ?_)
      · exact t_X10_edge_J42 B a0 a1 a2 a3 m _ hf hq
      · refine B_blk B jlkX10_ok jcl_SKF [.iload 4, .iconst 0, .sipush 999] (by decide +kernel) (ls' := [(0, jR 74), (1, jI a0), (2, jI a1), (3, jI a2), (4, jI a3)]) (st' := [jI 999, jI 0, jI a3, jR 74]) rfl (p1 := 36) rfl ?_
        obtain ⟨r9, h9, hf⟩ := jbd hf
        refine B_callS B (Nat.le_refl _) (μ' := m) (k' := 0) (n' := 0) ca_X10_isIn sa_X10_isIn lk_X10_54 (t_X10_isIn B.tr jcl_SKF h9) (Nat.le_refl _) rfl (rest := [jR 74]) rfl rfl (Nat.le_of_ble_eq_true rfl) (by decide +kernel) rfl rfl (st' := [jI r9, jR 74]) rfl ?_
        refine J_if_ne B.1 (off := 7) (tgt := 46) (by decide +kernel) (by decide) hf (fun hf => ?_) (fun hf => ?_)
        · exact t_X10_edge_J42 B a0 a1 a2 a3 m _ hf hq
        · refine B_blk B jlkX10_ok jcl_SKF [.iconst 0] (by decide +kernel) (ls' := [(0, jR 74), (1, jI a0), (2, jI a1), (3, jI a2), (4, jI a3)]) (st' := [jI 0, jR 74]) rfl (p1 := 47) rfl ?_
          exact t_X10_edge_J47 B a0 a1 a2 a3 0 m _ hf hq

def rm_X10_isEnough : Room := { frames := 4, cells := 0, slots := 0, locals := 86 }
def f_X10_isEnough_L8 : Nat → Int → Int → Int → Int → Int → jMu → Option Int
  | 0, _, _, _, _, _, _ => none
  | q + 1, v1, v2, v3, v4, v5, m => (if m 75 0 ≤ v5 then (if v2 < v3 then some 0 else some 1) else (f_X10_ofBay v5 2 m).bind fun r1 => (if r1 ≤ v1 then (if jW (v4 + r1) ≤ v1 then f_X10_isEnough_L8 q v1 v2 v3 (jW (v4 + r1)) (jW (v5 + 1)) m else f_X10_isEnough_L8 q v1 v2 (jW (v3 + 1)) (jW (0 + r1)) (jW (v5 + 1)) m) else some 0))
def f_X10_isEnough (a0 : Int) (a1 : Int) (m : jMu) : Option Int :=
  f_X10_isEnough_L8 jFU a0 a1 1 0 0 m
theorem t_X10_isEnough_L8 {X : jX} (B : jB X cX10_isEnough RX10 7 SKF.length rm_X10_isEnough (some .boolean)) : ∀ (q : Nat) (v1 : Int) (v2 : Int) (v3 : Int) (v4 : Int) (v5 : Int) (m : jMu) (r : Int), f_X10_isEnough_L8 q v1 v2 v3 v4 v5 m = some r → jQ X (.inl (some (jI r))) SKF m rm_X10_isEnough.cells rm_X10_isEnough.slots → J X SKF m 0 0 8 [(0, jR 74), (1, jI v1), (2, jI v2), (3, jI v3), (4, jI v4), (5, jI v5)] [] := by
  intro q
  induction q with
  | zero =>
    intro v1 v2 v3 v4 v5 m r hf
    rw [f_X10_isEnough_L8] at hf
    cases hf
  | succ q ih =>
    intro v1 v2 v3 v4 v5 m r hf hq
    rw [f_X10_isEnough_L8] at hf
    refine B_blk B jlkX10_ok jcl_SKF [.iload 5, .aload_n 0, .getfield 7, .iconst 0] (by decide +kernel) (ls' := [(0, jR 74), (1, jI v1), (2, jI v2), (3, jI v3), (4, jI v4), (5, jI v5)]) (st' := [jI 0, jR 75, jI v5]) rfl (p1 := 15) rfl ?_
    refine K_iald (lenI := 2083) B rfl rfl (by decide) (by decide +kernel) ?_
    refine J_icmp_ge B.1 (off := 48) (tgt := 64) (by decide +kernel) (by decide) hf (fun hf => ?_) (fun hf => ?_)
    · refine B_blk B jlkX10_ok jcl_SKF [.iload_n 3, .iload_n 2] (by decide +kernel) (ls' := [(0, jR 74), (1, jI v1), (2, jI v2), (3, jI v3), (4, jI v4), (5, jI v5)]) (st' := [jI v2, jI v3]) rfl (p1 := 66) rfl ?_
      refine J_icmp_gt B.1 (off := 7) (tgt := 73) (by decide +kernel) (by decide) hf (fun hf => ?_) (fun hf => ?_)
      · refine B_blk B jlkX10_ok jcl_SKF [.iconst 0] (by decide +kernel) (ls' := [(0, jR 74), (1, jI v1), (2, jI v2), (3, jI v3), (4, jI v4), (5, jI v5)]) (st' := [jI 0]) rfl (p1 := 74) rfl ?_
        cases hf
        exact B_retZ B (Or.inl rfl) hq rfl (Nat.le_of_ble_eq_true rfl) (Nat.le_of_ble_eq_true rfl) (by decide +kernel)
      · refine B_blk B jlkX10_ok jcl_SKF [.iconst 1, .goto 4] (by decide +kernel) (ls' := [(0, jR 74), (1, jI v1), (2, jI v2), (3, jI v3), (4, jI v4), (5, jI v5)]) (st' := [jI 1]) rfl (p1 := 74) rfl ?_
        cases hf
        exact B_retZ B (Or.inr rfl) hq rfl (Nat.le_of_ble_eq_true rfl) (Nat.le_of_ble_eq_true rfl) (by decide +kernel)
    · refine B_blk B jlkX10_ok jcl_SKF [.aload_n 0, .iload 5, .iconst 2] (by decide +kernel) (ls' := [(0, jR 74), (1, jI v1), (2, jI v2), (3, jI v3), (4, jI v4), (5, jI v5)]) (st' := [jI 2, jI v5, jR 74]) rfl (p1 := 23) rfl ?_
      obtain ⟨r1, h1, hf⟩ := jbd hf
      refine B_callV B (Nat.le_refl _) (μ' := m) (k' := 0) (n' := 0) ca_X10_ofBay in_X10_ofBay se_X10_ofBay lk_X10_182 (t_X10_ofBay B.tr h1) (Nat.le_refl _) rfl rfl rfl (rest := []) rfl rfl (Nat.le_of_ble_eq_true rfl) (by decide +kernel) rfl rfl (st' := [jI r1]) rfl ?_
      refine B_blk B jlkX10_ok jcl_SKF [.istore 6, .iload 6, .iload_n 1] (by decide +kernel) (ls' := [(0, jR 74), (1, jI v1), (2, jI v2), (3, jI v3), (4, jI v4), (5, jI v5), (6, jI r1)]) (st' := [jI v1, jI r1]) rfl (p1 := 31) rfl ?_
      refine J_icmp_le B.1 (off := 5) (tgt := 36) (by decide +kernel) (by decide) hf (fun hf => ?_) (fun hf => ?_)
      · refine B_blk B jlkX10_ok jcl_SKF [.iload 4, .iload 6, .iadd, .iload_n 1] (by decide +kernel) (ls' := [(0, jR 74), (1, jI v1), (2, jI v2), (3, jI v3), (4, jI v4), (5, jI v5), (6, jI r1)]) (st' := [jI v1, jI (jW (v4 + r1))]) rfl (p1 := 42) rfl ?_
        refine J_icmp_le B.1 (off := 9) (tgt := 51) (by decide +kernel) (by decide) hf (fun hf => ?_) (fun hf => ?_)
        · refine B_blk B jlkX10_ok jcl_SKF [.iload 4, .iload 6, .iadd, .istore 4, .iinc 5 1, .goto (-53)] (by decide +kernel) (ls' := [(0, jR 74), (1, jI v1), (2, jI v2), (3, jI v3), (4, jI (jW (v4 + r1))), (5, jI (jW (v5 + 1))), (6, jI r1)]) (st' := []) rfl (p1 := 8) rfl ?_
          refine J_pick [0, 1, 2, 3, 4, 5] (ls' := [(0, jR 74), (1, jI v1), (2, jI v2), (3, jI v3), (4, jI (jW (v4 + r1))), (5, jI (jW (v5 + 1)))]) rfl ?_
          exact ih v1 v2 v3 (jW (v4 + r1)) (jW (v5 + 1)) m _ hf hq
        · refine B_blk B jlkX10_ok jcl_SKF [.iinc 3 1, .iconst 0, .istore 4, .iload 4, .iload 6, .iadd, .istore 4, .iinc 5 1, .goto (-53)] (by decide +kernel) (ls' := [(0, jR 74), (1, jI v1), (2, jI v2), (3, jI (jW (v3 + 1))), (4, jI (jW (0 + r1))), (5, jI (jW (v5 + 1))), (6, jI r1)]) (st' := []) rfl (p1 := 8) rfl ?_
          refine J_pick [0, 1, 2, 3, 4, 5] (ls' := [(0, jR 74), (1, jI v1), (2, jI v2), (3, jI (jW (v3 + 1))), (4, jI (jW (0 + r1))), (5, jI (jW (v5 + 1)))]) rfl ?_
          exact ih v1 v2 (jW (v3 + 1)) (jW (0 + r1)) (jW (v5 + 1)) m _ hf hq
      · refine B_blk B jlkX10_ok jcl_SKF [.iconst 0] (by decide +kernel) (ls' := [(0, jR 74), (1, jI v1), (2, jI v2), (3, jI v3), (4, jI v4), (5, jI v5), (6, jI r1)]) (st' := [jI 0]) rfl (p1 := 35) rfl ?_
        cases hf
        exact B_retZ B (Or.inl rfl) hq rfl (Nat.le_of_ble_eq_true rfl) (Nat.le_of_ble_eq_true rfl) (by decide +kernel)
theorem t_X10_isEnough {l : Launch} {G : jG} (hl : l.stackTraces = false) {a0 : Int} {a1 : Int} {m : jMu} {r : Int} (hf : f_X10_isEnough a0 a1 m = some r) : jCt l G yX10_isEnough (.code yX10_isEnough cX10_isEnough 7 (some .boolean) :: jWG) rm_X10_isEnough [jR 74, jI a0, jI a1] SKF m (.inl (some (jI r))) SKF m := by
  unfold f_X10_isEnough at hf
  refine J_start (ls0 := [(0, jR 74), (1, jI a0), (2, jI a1)]) (by decide +kernel) hl (Nat.le_of_ble_eq_true rfl) rfl fun X C hN hn hR hr hnm hno hq => ?_
  have B : jB X cX10_isEnough RX10 7 SKF.length rm_X10_isEnough (some .boolean) := ⟨C, hN, Nat.le_of_eq hn, hR, hr⟩
  refine B_blk B jlkX10_ok jcl_SKF [.iconst 1, .istore_n 3, .iconst 0, .istore 4, .iconst 0, .istore 5] (by decide +kernel) (ls' := [(0, jR 74), (1, jI a0), (2, jI a1), (3, jI 1), (4, jI 0), (5, jI 0)]) (st' := []) rfl (p1 := 8) rfl ?_
  exact t_X10_isEnough_L8 B jFU a0 a1 1 0 0 m _ hf hq

def rm_X10_even : Room := { frames := 6, cells := 0, slots := 0, locals := 112 }
def f_X10_even_L29 : Nat → Int → Int → jMu → Option (Int × jMu)
  | 0, _, _, _ => none
  | q + 1, v1, v2, m => (f_X10_isEnough v2 v1 m).bind fun r3 => (if r3 = 0 then f_X10_even_L29 q v1 (jW (v2 + 1)) m else some (v2, m))
def f_X10_even (a0 : Int) (m : jMu) : Option (Int × jMu) :=
  (f_X10_isIn a0 1 4).bind fun r1 => (if r1 = 0 then (jlt (jup m 74 0 1) fun m2 => (if m2 74 0 ≤ 0 then f_X10_even_L29 jFU a0 0 m2 else some (0, m2))) else (jlt (jup m 74 0 0) fun m4 => (if m4 74 0 ≤ 0 then f_X10_even_L29 jFU a0 0 m4 else some (0, m4))))
theorem t_X10_even_L29 {X : jX} (B : jB X cX10_even RX10 3 SKF.length rm_X10_even (some .int)) : ∀ (q : Nat) (v1 : Int) (v2 : Int) (m : jMu) (r : (Int × jMu)), f_X10_even_L29 q v1 v2 m = some r → jQ X (.inl (some (jI r.1))) SKF r.2 rm_X10_even.cells rm_X10_even.slots → J X SKF m 0 0 29 [(0, jR 74), (1, jI v1), (2, jI v2)] [] := by
  intro q
  induction q with
  | zero =>
    intro v1 v2 m r hf
    rw [f_X10_even_L29] at hf
    cases hf
  | succ q ih =>
    intro v1 v2 m r hf hq
    rw [f_X10_even_L29] at hf
    refine B_blk B jlkX10_ok jcl_SKF [.aload_n 0, .iload_n 2, .iload_n 1] (by decide +kernel) (ls' := [(0, jR 74), (1, jI v1), (2, jI v2)]) (st' := [jI v1, jI v2, jR 74]) rfl (p1 := 32) rfl ?_
    obtain ⟨r3, h3, hf⟩ := jbd hf
    refine B_callV B (Nat.le_refl _) (μ' := m) (k' := 0) (n' := 0) ca_X10_isEnough in_X10_isEnough se_X10_isEnough lk_X10_289 (t_X10_isEnough B.tr h3) (Nat.le_refl _) rfl rfl rfl (rest := []) rfl rfl (Nat.le_of_ble_eq_true rfl) (by decide +kernel) rfl rfl (st' := [jI r3]) rfl ?_
    refine J_if_ne B.1 (off := 9) (tgt := 44) (by decide +kernel) (by decide) hf (fun hf => ?_) (fun hf => ?_)
    · refine B_blk B jlkX10_ok jcl_SKF [.iinc 2 1, .goto (-12)] (by decide +kernel) (ls' := [(0, jR 74), (1, jI v1), (2, jI (jW (v2 + 1)))]) (st' := []) rfl (p1 := 29) rfl ?_
      exact ih v1 (jW (v2 + 1)) m _ hf hq
    · refine B_blk B jlkX10_ok jcl_SKF [.iload_n 2] (by decide +kernel) (ls' := [(0, jR 74), (1, jI v1), (2, jI v2)]) (st' := [jI v2]) rfl (p1 := 45) rfl ?_
      cases hf
      exact B_retI B hq rfl (Nat.le_of_ble_eq_true rfl) (Nat.le_of_ble_eq_true rfl) (by decide +kernel)
theorem t_X10_even {l : Launch} {G : jG} (hl : l.stackTraces = false) {a0 : Int} {m : jMu} {r : (Int × jMu)} (hf : f_X10_even a0 m = some r) : jCt l G yX10_even (.code yX10_even cX10_even 3 (some .int) :: jWG) rm_X10_even [jR 74, jI a0] SKF m (.inl (some (jI r.1))) SKF r.2 := by
  unfold f_X10_even at hf
  refine J_start (ls0 := [(0, jR 74), (1, jI a0)]) (by decide +kernel) hl (Nat.le_of_ble_eq_true rfl) rfl fun X C hN hn hR hr hnm hno hq => ?_
  have B : jB X cX10_even RX10 3 SKF.length rm_X10_even (some .int) := ⟨C, hN, Nat.le_of_eq hn, hR, hr⟩
  refine B_blk B jlkX10_ok jcl_SKF [.aload_n 0, .iload_n 1, .iconst 1, .iconst 4] (by decide +kernel) (ls' := [(0, jR 74), (1, jI a0)]) (st' := [jI 4, jI 1, jI a0, jR 74]) rfl (p1 := 4) rfl ?_
  obtain ⟨r1, h1, hf⟩ := jbd hf
  refine B_callS B (Nat.le_refl _) (μ' := m) (k' := 0) (n' := 0) ca_X10_isIn sa_X10_isIn lk_X10_54 (t_X10_isIn B.tr jcl_SKF h1) (Nat.le_refl _) rfl (rest := [jR 74]) rfl rfl (Nat.le_of_ble_eq_true rfl) (by decide +kernel) rfl rfl (st' := [jI r1, jR 74]) rfl ?_
  refine J_if_ne B.1 (off := 7) (tgt := 14) (by decide +kernel) (by decide) hf (fun hf => ?_) (fun hf => ?_)
  · refine B_blk B jlkX10_ok jcl_SKF [.iconst 1, .goto 4] (by decide +kernel) (ls' := [(0, jR 74), (1, jI a0)]) (st' := [jI 1, jR 74]) rfl (p1 := 15) rfl ?_
    refine K_putI (jI' := 0) B jp_X10_51 rfl rfl rfl (by decide +kernel) ?_
    obtain ⟨m2, hm2, hf⟩ := jlt_s hf
    rw [hm2]
    refine B_blk B jlkX10_ok jcl_SKF [.aload_n 0, .getfield 51] (by decide +kernel) (ls' := [(0, jR 74), (1, jI a0)]) (st' := [jI (m2 74 0)]) rfl (p1 := 22) rfl ?_
    refine J_if_le B.1 (off := 5) (tgt := 27) (by decide +kernel) (by decide) hf (fun hf => ?_) (fun hf => ?_)
    · refine B_blk B jlkX10_ok jcl_SKF [.iconst 0, .istore_n 2] (by decide +kernel) (ls' := [(0, jR 74), (1, jI a0), (2, jI 0)]) (st' := []) rfl (p1 := 29) rfl ?_
      exact t_X10_even_L29 B jFU a0 0 m2 _ hf hq
    · refine B_blk B jlkX10_ok jcl_SKF [.iconst 0] (by decide +kernel) (ls' := [(0, jR 74), (1, jI a0)]) (st' := [jI 0]) rfl (p1 := 26) rfl ?_
      cases hf
      exact B_retI B hq rfl (Nat.le_of_ble_eq_true rfl) (Nat.le_of_ble_eq_true rfl) (by decide +kernel)
  · refine B_blk B jlkX10_ok jcl_SKF [.iconst 0] (by decide +kernel) (ls' := [(0, jR 74), (1, jI a0)]) (st' := [jI 0, jR 74]) rfl (p1 := 15) rfl ?_
    refine K_putI (jI' := 0) B jp_X10_51 rfl rfl rfl (by decide +kernel) ?_
    obtain ⟨m4, hm4, hf⟩ := jlt_s hf
    rw [hm4]
    refine B_blk B jlkX10_ok jcl_SKF [.aload_n 0, .getfield 51] (by decide +kernel) (ls' := [(0, jR 74), (1, jI a0)]) (st' := [jI (m4 74 0)]) rfl (p1 := 22) rfl ?_
    refine J_if_le B.1 (off := 5) (tgt := 27) (by decide +kernel) (by decide) hf (fun hf => ?_) (fun hf => ?_)
    · refine B_blk B jlkX10_ok jcl_SKF [.iconst 0, .istore_n 2] (by decide +kernel) (ls' := [(0, jR 74), (1, jI a0), (2, jI 0)]) (st' := []) rfl (p1 := 29) rfl ?_
      exact t_X10_even_L29 B jFU a0 0 m4 _ hf hq
    · refine B_blk B jlkX10_ok jcl_SKF [.iconst 0] (by decide +kernel) (ls' := [(0, jR 74), (1, jI a0)]) (st' := [jI 0]) rfl (p1 := 26) rfl ?_
      cases hf
      exact B_retI B hq rfl (Nat.le_of_ble_eq_true rfl) (Nat.le_of_ble_eq_true rfl) (by decide +kernel)

def rm_X10_peelsOf : Room := { frames := 6, cells := 0, slots := 0, locals := 108 }
def f_X10_peelsOf_L6 : Nat → Int → Int → Int → Int → Int → jMu → Option Int
  | 0, _, _, _, _, _, _ => none
  | q + 1, v1, v2, v3, v4, v5, m => (if m 75 8 ≤ v5 then some v4 else (f_X10_ofJob v5 1 m).bind fun r1 => (if r1 = v1 then (f_X10_isKnown v5 v2 m).bind fun r2 => (if r2 = 0 then f_X10_peelsOf_L6 q v1 v2 v3 v4 (jW (v5 + 1)) m else (if v3 = 0 then (f_X10_ofJob v5 6 m).bind fun r3 => (if r3 = (-1) then f_X10_peelsOf_L6 q v1 v2 v3 (jW (v4 + 0)) (jW (v5 + 1)) m else (f_X10_ofJob v5 6 m).bind fun r4 => (if v2 < r4 then f_X10_peelsOf_L6 q v1 v2 v3 (jW (v4 + 0)) (jW (v5 + 1)) m else f_X10_peelsOf_L6 q v1 v2 v3 (jW (v4 + 1)) (jW (v5 + 1)) m)) else f_X10_peelsOf_L6 q v1 v2 v3 (jW (v4 + 1)) (jW (v5 + 1)) m)) else f_X10_peelsOf_L6 q v1 v2 v3 v4 (jW (v5 + 1)) m))
def f_X10_peelsOf (a0 : Int) (a1 : Int) (a2 : Int) (m : jMu) : Option Int :=
  f_X10_peelsOf_L6 jFU a0 a1 a2 0 0 m
theorem t_X10_peelsOf_L6 {X : jX} (B : jB X cX10_peelsOf RX10 6 SKF.length rm_X10_peelsOf (some .int)) : ∀ (q : Nat) (v1 : Int) (v2 : Int) (v3 : Int) (v4 : Int) (v5 : Int) (m : jMu) (r : Int), f_X10_peelsOf_L6 q v1 v2 v3 v4 v5 m = some r → jQ X (.inl (some (jI r))) SKF m rm_X10_peelsOf.cells rm_X10_peelsOf.slots → J X SKF m 0 0 6 [(0, jR 74), (1, jI v1), (2, jI v2), (3, jI v3), (4, jI v4), (5, jI v5)] [] := by
  intro q
  induction q with
  | zero =>
    intro v1 v2 v3 v4 v5 m r hf
    rw [f_X10_peelsOf_L6] at hf
    cases hf
  | succ q ih =>
    intro v1 v2 v3 v4 v5 m r hf hq
    rw [f_X10_peelsOf_L6] at hf
    refine B_blk B jlkX10_ok jcl_SKF [.iload 5, .aload_n 0, .getfield 7, .bipush 8] (by decide +kernel) (ls' := [(0, jR 74), (1, jI v1), (2, jI v2), (3, jI v3), (4, jI v4), (5, jI v5)]) (st' := [jI 8, jR 75, jI v5]) rfl (p1 := 14) rfl ?_
    refine K_iald (lenI := 2083) B rfl rfl (by decide) (by decide +kernel) ?_
    refine J_icmp_ge B.1 (off := 71) (tgt := 86) (by decide +kernel) (by decide) hf (fun hf => ?_) (fun hf => ?_)
    · refine B_blk B jlkX10_ok jcl_SKF [.iload 4] (by decide +kernel) (ls' := [(0, jR 74), (1, jI v1), (2, jI v2), (3, jI v3), (4, jI v4), (5, jI v5)]) (st' := [jI v4]) rfl (p1 := 88) rfl ?_
      cases hf
      exact B_retI B hq rfl (Nat.le_of_ble_eq_true rfl) (Nat.le_of_ble_eq_true rfl) (by decide +kernel)
    · refine B_blk B jlkX10_ok jcl_SKF [.aload_n 0, .iload 5, .iconst 1] (by decide +kernel) (ls' := [(0, jR 74), (1, jI v1), (2, jI v2), (3, jI v3), (4, jI v4), (5, jI v5)]) (st' := [jI 1, jI v5, jR 74]) rfl (p1 := 22) rfl ?_
      obtain ⟨r1, h1, hf⟩ := jbd hf
      refine B_callV B (Nat.le_refl _) (μ' := m) (k' := 0) (n' := 0) ca_X10_ofJob in_X10_ofJob se_X10_ofJob lk_X10_218 (t_X10_ofJob B.tr h1) (Nat.le_refl _) rfl rfl rfl (rest := []) rfl rfl (Nat.le_of_ble_eq_true rfl) (by decide +kernel) rfl rfl (st' := [jI r1]) rfl ?_
      refine B_blk B jlkX10_ok jcl_SKF [.iload_n 1] (by decide +kernel) (ls' := [(0, jR 74), (1, jI v1), (2, jI v2), (3, jI v3), (4, jI v4), (5, jI v5)]) (st' := [jI v1, jI r1]) rfl (p1 := 26) rfl ?_
      refine J_icmp_ne B.1 (off := 54) (tgt := 80) (by decide +kernel) (by decide) hf (fun hf => ?_) (fun hf => ?_)
      · refine B_blk B jlkX10_ok jcl_SKF [.aload_n 0, .iload 5, .iload_n 2] (by decide +kernel) (ls' := [(0, jR 74), (1, jI v1), (2, jI v2), (3, jI v3), (4, jI v4), (5, jI v5)]) (st' := [jI v2, jI v5, jR 74]) rfl (p1 := 33) rfl ?_
        obtain ⟨r2, h2, hf⟩ := jbd hf
        refine B_callV B (Nat.le_refl _) (μ' := m) (k' := 0) (n' := 0) ca_X10_isKnown in_X10_isKnown se_X10_isKnown lk_X10_253 (t_X10_isKnown B.tr h2) (Nat.le_refl _) rfl rfl rfl (rest := []) rfl rfl (Nat.le_of_ble_eq_true rfl) (by decide +kernel) rfl rfl (st' := [jI r2]) rfl ?_
        refine J_if_ne B.1 (off := 6) (tgt := 42) (by decide +kernel) (by decide) hf (fun hf => ?_) (fun hf => ?_)
        · refine B_blk B jlkX10_ok jcl_SKF [.goto 41, .iinc 5 1, .goto (-77)] (by decide +kernel) (ls' := [(0, jR 74), (1, jI v1), (2, jI v2), (3, jI v3), (4, jI v4), (5, jI (jW (v5 + 1)))]) (st' := []) rfl (p1 := 6) rfl ?_
          exact ih v1 v2 v3 v4 (jW (v5 + 1)) m _ hf hq
        · refine B_blk B jlkX10_ok jcl_SKF [.iload 4, .iload_n 3] (by decide +kernel) (ls' := [(0, jR 74), (1, jI v1), (2, jI v2), (3, jI v3), (4, jI v4), (5, jI v5)]) (st' := [jI v3, jI v4]) rfl (p1 := 45) rfl ?_
          refine J_if_ne B.1 (off := 27) (tgt := 72) (by decide +kernel) (by decide) hf (fun hf => ?_) (fun hf => ?_)
          · refine B_blk B jlkX10_ok jcl_SKF [.aload_n 0, .iload 5, .bipush 6] (by decide +kernel) (ls' := [(0, jR 74), (1, jI v1), (2, jI v2), (3, jI v3), (4, jI v4), (5, jI v5)]) (st' := [jI 6, jI v5, jR 74, jI v4]) rfl (p1 := 53) rfl ?_
            obtain ⟨r3, h3, hf⟩ := jbd hf
            refine B_callV B (Nat.le_refl _) (μ' := m) (k' := 0) (n' := 0) ca_X10_ofJob in_X10_ofJob se_X10_ofJob lk_X10_218 (t_X10_ofJob B.tr h3) (Nat.le_refl _) rfl rfl rfl (rest := [jI v4]) rfl rfl (Nat.le_of_ble_eq_true rfl) (by decide +kernel) rfl rfl (st' := [jI r3, jI v4]) rfl ?_
            refine B_blk B jlkX10_ok jcl_SKF [.iconst (-1)] (by decide +kernel) (ls' := [(0, jR 74), (1, jI v1), (2, jI v2), (3, jI v3), (4, jI v4), (5, jI v5)]) (st' := [jI (-1), jI r3, jI v4]) rfl (p1 := 57) rfl ?_
            refine J_icmp_eq B.1 (off := 19) (tgt := 76) (by decide +kernel) (by decide) hf (fun hf => ?_) (fun hf => ?_)
            · refine B_blk B jlkX10_ok jcl_SKF [.iconst 0, .iadd, .istore 4, .iinc 5 1, .goto (-77)] (by decide +kernel) (ls' := [(0, jR 74), (1, jI v1), (2, jI v2), (3, jI v3), (4, jI (jW (v4 + 0))), (5, jI (jW (v5 + 1)))]) (st' := []) rfl (p1 := 6) rfl ?_
              exact ih v1 v2 v3 (jW (v4 + 0)) (jW (v5 + 1)) m _ hf hq
            · refine B_blk B jlkX10_ok jcl_SKF [.aload_n 0, .iload 5, .bipush 6] (by decide +kernel) (ls' := [(0, jR 74), (1, jI v1), (2, jI v2), (3, jI v3), (4, jI v4), (5, jI v5)]) (st' := [jI 6, jI v5, jR 74, jI v4]) rfl (p1 := 65) rfl ?_
              obtain ⟨r4, h4, hf⟩ := jbd hf
              refine B_callV B (Nat.le_refl _) (μ' := m) (k' := 0) (n' := 0) ca_X10_ofJob in_X10_ofJob se_X10_ofJob lk_X10_218 (t_X10_ofJob B.tr h4) (Nat.le_refl _) rfl rfl rfl (rest := [jI v4]) rfl rfl (Nat.le_of_ble_eq_true rfl) (by decide +kernel) rfl rfl (st' := [jI r4, jI v4]) rfl ?_
              refine B_blk B jlkX10_ok jcl_SKF [.iload_n 2] (by decide +kernel) (ls' := [(0, jR 74), (1, jI v1), (2, jI v2), (3, jI v3), (4, jI v4), (5, jI v5)]) (st' := [jI v2, jI r4, jI v4]) rfl (p1 := 69) rfl ?_
              refine J_icmp_gt B.1 (off := 7) (tgt := 76) (by decide +kernel) (by decide) hf (fun hf => ?_) (fun hf => ?_)
              · refine B_blk B jlkX10_ok jcl_SKF [.iconst 0, .iadd, .istore 4, .iinc 5 1, .goto (-77)] (by decide +kernel) (ls' := [(0, jR 74), (1, jI v1), (2, jI v2), (3, jI v3), (4, jI (jW (v4 + 0))), (5, jI (jW (v5 + 1)))]) (st' := []) rfl (p1 := 6) rfl ?_
                exact ih v1 v2 v3 (jW (v4 + 0)) (jW (v5 + 1)) m _ hf hq
              · refine B_blk B jlkX10_ok jcl_SKF [.iconst 1, .goto 4, .iadd, .istore 4, .iinc 5 1, .goto (-77)] (by decide +kernel) (ls' := [(0, jR 74), (1, jI v1), (2, jI v2), (3, jI v3), (4, jI (jW (v4 + 1))), (5, jI (jW (v5 + 1)))]) (st' := []) rfl (p1 := 6) rfl ?_
                exact ih v1 v2 v3 (jW (v4 + 1)) (jW (v5 + 1)) m _ hf hq
          · refine B_blk B jlkX10_ok jcl_SKF [.iconst 1, .goto 4, .iadd, .istore 4, .iinc 5 1, .goto (-77)] (by decide +kernel) (ls' := [(0, jR 74), (1, jI v1), (2, jI v2), (3, jI v3), (4, jI (jW (v4 + 1))), (5, jI (jW (v5 + 1)))]) (st' := []) rfl (p1 := 6) rfl ?_
            exact ih v1 v2 v3 (jW (v4 + 1)) (jW (v5 + 1)) m _ hf hq
      · refine B_blk B jlkX10_ok jcl_SKF [.iinc 5 1, .goto (-77)] (by decide +kernel) (ls' := [(0, jR 74), (1, jI v1), (2, jI v2), (3, jI v3), (4, jI v4), (5, jI (jW (v5 + 1)))]) (st' := []) rfl (p1 := 6) rfl ?_
        exact ih v1 v2 v3 v4 (jW (v5 + 1)) m _ hf hq
theorem t_X10_peelsOf {l : Launch} {G : jG} (hl : l.stackTraces = false) {a0 : Int} {a1 : Int} {a2 : Int} {m : jMu} {r : Int} (hf : f_X10_peelsOf a0 a1 a2 m = some r) : jCt l G yX10_peelsOf (.code yX10_peelsOf cX10_peelsOf 6 (some .int) :: jWG) rm_X10_peelsOf [jR 74, jI a0, jI a1, jI a2] SKF m (.inl (some (jI r))) SKF m := by
  unfold f_X10_peelsOf at hf
  refine J_start (ls0 := [(0, jR 74), (1, jI a0), (2, jI a1), (3, jI a2)]) (by decide +kernel) hl (Nat.le_of_ble_eq_true rfl) rfl fun X C hN hn hR hr hnm hno hq => ?_
  have B : jB X cX10_peelsOf RX10 6 SKF.length rm_X10_peelsOf (some .int) := ⟨C, hN, Nat.le_of_eq hn, hR, hr⟩
  refine B_blk B jlkX10_ok jcl_SKF [.iconst 0, .istore 4, .iconst 0, .istore 5] (by decide +kernel) (ls' := [(0, jR 74), (1, jI a0), (2, jI a1), (3, jI a2), (4, jI 0), (5, jI 0)]) (st' := []) rfl (p1 := 6) rfl ?_
  exact t_X10_peelsOf_L6 B jFU a0 a1 a2 0 0 m _ hf hq

def rm_X10_peels : Room := { frames := 8, cells := 0, slots := 0, locals := 133 }
def f_X10_peels (a0 : Int) (a1 : Int) (a2 : Int) (m : jMu) : Option (Int × jMu) :=
  (f_X10_isGang a0 m).bind fun r1 => (if r1 = 0 then (jlt (jup m 74 0 1) fun m2 => (if m2 74 0 ≤ 0 then (f_X10_peelsOf a0 a1 a2 m2).bind fun r3 => some (r3, m2) else some (0, m2))) else (f_X10_isDay a1).bind fun r4 => (if r4 = 0 then (jlt (jup m 74 0 1) fun m5 => (if m5 74 0 ≤ 0 then (f_X10_peelsOf a0 a1 a2 m5).bind fun r6 => some (r6, m5) else some (0, m5))) else (jlt (jup m 74 0 0) fun m7 => (if m7 74 0 ≤ 0 then (f_X10_peelsOf a0 a1 a2 m7).bind fun r8 => some (r8, m7) else some (0, m7)))))
theorem t_X10_peels {l : Launch} {G : jG} (hl : l.stackTraces = false) {a0 : Int} {a1 : Int} {a2 : Int} {m : jMu} {r : (Int × jMu)} (hf : f_X10_peels a0 a1 a2 m = some r) : jCt l G yX10_peels (.code yX10_peels cX10_peels 4 (some .int) :: jWG) rm_X10_peels [jR 74, jI a0, jI a1, jI a2] SKF m (.inl (some (jI r.1))) SKF r.2 := by
  unfold f_X10_peels at hf
  refine J_start (ls0 := [(0, jR 74), (1, jI a0), (2, jI a1), (3, jI a2)]) (by decide +kernel) hl (Nat.le_of_ble_eq_true rfl) rfl fun X C hN hn hR hr hnm hno hq => ?_
  have B : jB X cX10_peels RX10 4 SKF.length rm_X10_peels (some .int) := ⟨C, hN, Nat.le_of_eq hn, hR, hr⟩
  refine B_blk B jlkX10_ok jcl_SKF [.aload_n 0, .aload_n 0, .iload_n 1] (by decide +kernel) (ls' := [(0, jR 74), (1, jI a0), (2, jI a1), (3, jI a2)]) (st' := [jI a0, jR 74, jR 74]) rfl (p1 := 3) rfl ?_
  obtain ⟨r1, h1, hf⟩ := jbd hf
  refine B_callV B (Nat.le_refl _) (μ' := m) (k' := 0) (n' := 0) ca_X10_isGang in_X10_isGang se_X10_isGang lk_X10_224 (t_X10_isGang B.tr h1) (Nat.le_refl _) rfl rfl rfl (rest := [jR 74]) rfl rfl (Nat.le_of_ble_eq_true rfl) (by decide +kernel) rfl rfl (st' := [jI r1, jR 74]) rfl ?_
  refine J_if_eq B.1 (off := 10) (tgt := 16) (by decide +kernel) (by decide) hf (fun hf => ?_) (fun hf => ?_)
  · refine B_blk B jlkX10_ok jcl_SKF [.iconst 1, .goto 4] (by decide +kernel) (ls' := [(0, jR 74), (1, jI a0), (2, jI a1), (3, jI a2)]) (st' := [jI 1, jR 74]) rfl (p1 := 21) rfl ?_
    refine K_putI (jI' := 0) B jp_X10_51 rfl rfl rfl (by decide +kernel) ?_
    obtain ⟨m2, hm2, hf⟩ := jlt_s hf
    rw [hm2]
    refine B_blk B jlkX10_ok jcl_SKF [.aload_n 0, .getfield 51] (by decide +kernel) (ls' := [(0, jR 74), (1, jI a0), (2, jI a1), (3, jI a2)]) (st' := [jI (m2 74 0)]) rfl (p1 := 28) rfl ?_
    refine J_if_le B.1 (off := 5) (tgt := 33) (by decide +kernel) (by decide) hf (fun hf => ?_) (fun hf => ?_)
    · refine B_blk B jlkX10_ok jcl_SKF [.aload_n 0, .iload_n 1, .iload_n 2, .iload_n 3] (by decide +kernel) (ls' := [(0, jR 74), (1, jI a0), (2, jI a1), (3, jI a2)]) (st' := [jI a2, jI a1, jI a0, jR 74]) rfl (p1 := 37) rfl ?_
      obtain ⟨r3, h3, hf⟩ := jbd hf
      refine B_callV B (Nat.le_refl _) (μ' := m2) (k' := 0) (n' := 0) ca_X10_peelsOf in_X10_peelsOf se_X10_peelsOf lk_X10_292 (t_X10_peelsOf B.tr h3) (Nat.le_refl _) rfl rfl rfl (rest := []) rfl rfl (Nat.le_of_ble_eq_true rfl) (by decide +kernel) rfl rfl (st' := [jI r3]) rfl ?_
      cases hf
      exact B_retI B hq rfl (Nat.le_of_ble_eq_true rfl) (Nat.le_of_ble_eq_true rfl) (by decide +kernel)
    · refine B_blk B jlkX10_ok jcl_SKF [.iconst 0] (by decide +kernel) (ls' := [(0, jR 74), (1, jI a0), (2, jI a1), (3, jI a2)]) (st' := [jI 0]) rfl (p1 := 32) rfl ?_
      cases hf
      exact B_retI B hq rfl (Nat.le_of_ble_eq_true rfl) (Nat.le_of_ble_eq_true rfl) (by decide +kernel)
  · refine B_blk B jlkX10_ok jcl_SKF [.iload_n 2] (by decide +kernel) (ls' := [(0, jR 74), (1, jI a0), (2, jI a1), (3, jI a2)]) (st' := [jI a1, jR 74]) rfl (p1 := 10) rfl ?_
    obtain ⟨r4, h4, hf⟩ := jbd hf
    refine B_callS B (Nat.le_refl _) (μ' := m) (k' := 0) (n' := 0) ca_X10_isDay sa_X10_isDay lk_X10_209 (t_X10_isDay B.tr jcl_SKF h4) (Nat.le_refl _) rfl (rest := [jR 74]) rfl rfl (Nat.le_of_ble_eq_true rfl) (by decide +kernel) rfl rfl (st' := [jI r4, jR 74]) rfl ?_
    refine J_if_ne B.1 (off := 7) (tgt := 20) (by decide +kernel) (by decide) hf (fun hf => ?_) (fun hf => ?_)
    · refine B_blk B jlkX10_ok jcl_SKF [.iconst 1, .goto 4] (by decide +kernel) (ls' := [(0, jR 74), (1, jI a0), (2, jI a1), (3, jI a2)]) (st' := [jI 1, jR 74]) rfl (p1 := 21) rfl ?_
      refine K_putI (jI' := 0) B jp_X10_51 rfl rfl rfl (by decide +kernel) ?_
      obtain ⟨m5, hm5, hf⟩ := jlt_s hf
      rw [hm5]
      refine B_blk B jlkX10_ok jcl_SKF [.aload_n 0, .getfield 51] (by decide +kernel) (ls' := [(0, jR 74), (1, jI a0), (2, jI a1), (3, jI a2)]) (st' := [jI (m5 74 0)]) rfl (p1 := 28) rfl ?_
      refine J_if_le B.1 (off := 5) (tgt := 33) (by decide +kernel) (by decide) hf (fun hf => ?_) (fun hf => ?_)
      · refine B_blk B jlkX10_ok jcl_SKF [.aload_n 0, .iload_n 1, .iload_n 2, .iload_n 3] (by decide +kernel) (ls' := [(0, jR 74), (1, jI a0), (2, jI a1), (3, jI a2)]) (st' := [jI a2, jI a1, jI a0, jR 74]) rfl (p1 := 37) rfl ?_
        obtain ⟨r6, h6, hf⟩ := jbd hf
        refine B_callV B (Nat.le_refl _) (μ' := m5) (k' := 0) (n' := 0) ca_X10_peelsOf in_X10_peelsOf se_X10_peelsOf lk_X10_292 (t_X10_peelsOf B.tr h6) (Nat.le_refl _) rfl rfl rfl (rest := []) rfl rfl (Nat.le_of_ble_eq_true rfl) (by decide +kernel) rfl rfl (st' := [jI r6]) rfl ?_
        cases hf
        exact B_retI B hq rfl (Nat.le_of_ble_eq_true rfl) (Nat.le_of_ble_eq_true rfl) (by decide +kernel)
      · refine B_blk B jlkX10_ok jcl_SKF [.iconst 0] (by decide +kernel) (ls' := [(0, jR 74), (1, jI a0), (2, jI a1), (3, jI a2)]) (st' := [jI 0]) rfl (p1 := 32) rfl ?_
        cases hf
        exact B_retI B hq rfl (Nat.le_of_ble_eq_true rfl) (Nat.le_of_ble_eq_true rfl) (by decide +kernel)
    · refine B_blk B jlkX10_ok jcl_SKF [.iconst 0] (by decide +kernel) (ls' := [(0, jR 74), (1, jI a0), (2, jI a1), (3, jI a2)]) (st' := [jI 0, jR 74]) rfl (p1 := 21) rfl ?_
      refine K_putI (jI' := 0) B jp_X10_51 rfl rfl rfl (by decide +kernel) ?_
      obtain ⟨m7, hm7, hf⟩ := jlt_s hf
      rw [hm7]
      refine B_blk B jlkX10_ok jcl_SKF [.aload_n 0, .getfield 51] (by decide +kernel) (ls' := [(0, jR 74), (1, jI a0), (2, jI a1), (3, jI a2)]) (st' := [jI (m7 74 0)]) rfl (p1 := 28) rfl ?_
      refine J_if_le B.1 (off := 5) (tgt := 33) (by decide +kernel) (by decide) hf (fun hf => ?_) (fun hf => ?_)
      · refine B_blk B jlkX10_ok jcl_SKF [.aload_n 0, .iload_n 1, .iload_n 2, .iload_n 3] (by decide +kernel) (ls' := [(0, jR 74), (1, jI a0), (2, jI a1), (3, jI a2)]) (st' := [jI a2, jI a1, jI a0, jR 74]) rfl (p1 := 37) rfl ?_
        obtain ⟨r8, h8, hf⟩ := jbd hf
        refine B_callV B (Nat.le_refl _) (μ' := m7) (k' := 0) (n' := 0) ca_X10_peelsOf in_X10_peelsOf se_X10_peelsOf lk_X10_292 (t_X10_peelsOf B.tr h8) (Nat.le_refl _) rfl rfl rfl (rest := []) rfl rfl (Nat.le_of_ble_eq_true rfl) (by decide +kernel) rfl rfl (st' := [jI r8]) rfl ?_
        cases hf
        exact B_retI B hq rfl (Nat.le_of_ble_eq_true rfl) (Nat.le_of_ble_eq_true rfl) (by decide +kernel)
      · refine B_blk B jlkX10_ok jcl_SKF [.iconst 0] (by decide +kernel) (ls' := [(0, jR 74), (1, jI a0), (2, jI a1), (3, jI a2)]) (st' := [jI 0]) rfl (p1 := 32) rfl ?_
        cases hf
        exact B_retI B hq rfl (Nat.le_of_ble_eq_true rfl) (Nat.le_of_ble_eq_true rfl) (by decide +kernel)

def rm_X10_worst : Room := { frames := 8, cells := 0, slots := 0, locals := 133 }
def f_X10_worst_L35 : Nat → Int → Int → Int → Int → Int → jMu → Option (Int × jMu)
  | 0, _, _, _, _, _, _ => none
  | q + 1, v1, v2, v3, v4, v5, m => (if m 75 6 ≤ v5 then some (v2, m) else (f_X10_peelsOf v5 v1 0 m).bind fun r3 => (f_X10_peelsOf v5 v1 1 m).bind fun r4 => (if r4 = 0 then f_X10_worst_L35 q v1 v2 v3 v4 (jW (v5 + 1)) m else (if jW (v3 * r4) < jW (r3 * v4) then f_X10_worst_L35 q v1 v5 r3 r4 (jW (v5 + 1)) m else f_X10_worst_L35 q v1 v2 v3 v4 (jW (v5 + 1)) m)))
def f_X10_worst_J13 (v1 : Int) (s1 : Int) (m : jMu) : Option (Int × jMu) :=
  (jlt (jup m 74 0 s1) fun m2 => (if m2 74 0 ≤ 0 then f_X10_worst_L35 jFU v1 (-1) 0 1 0 m2 else some (0, m2)))
def f_X10_worst (a0 : Int) (m : jMu) : Option (Int × jMu) :=
  (f_X10_isDay a0).bind fun r1 => (if r1 = 0 then f_X10_worst_J13 a0 1 m else f_X10_worst_J13 a0 0 m)
theorem t_X10_worst_L35 {X : jX} (B : jB X cX10_worst RX10 8 SKF.length rm_X10_worst (some .int)) : ∀ (q : Nat) (v1 : Int) (v2 : Int) (v3 : Int) (v4 : Int) (v5 : Int) (m : jMu) (r : (Int × jMu)), f_X10_worst_L35 q v1 v2 v3 v4 v5 m = some r → jQ X (.inl (some (jI r.1))) SKF r.2 rm_X10_worst.cells rm_X10_worst.slots → J X SKF m 0 0 35 [(0, jR 74), (1, jI v1), (2, jI v2), (3, jI v3), (4, jI v4), (5, jI v5)] [] := by
  intro q
  induction q with
  | zero =>
    intro v1 v2 v3 v4 v5 m r hf
    rw [f_X10_worst_L35] at hf
    cases hf
  | succ q ih =>
    intro v1 v2 v3 v4 v5 m r hf hq
    rw [f_X10_worst_L35] at hf
    refine B_blk B jlkX10_ok jcl_SKF [.iload 5, .aload_n 0, .getfield 7, .bipush 6] (by decide +kernel) (ls' := [(0, jR 74), (1, jI v1), (2, jI v2), (3, jI v3), (4, jI v4), (5, jI v5)]) (st' := [jI 6, jR 75, jI v5]) rfl (p1 := 43) rfl ?_
    refine K_iald (lenI := 2083) B rfl rfl (by decide) (by decide +kernel) ?_
    refine J_icmp_ge B.1 (off := 59) (tgt := 103) (by decide +kernel) (by decide) hf (fun hf => ?_) (fun hf => ?_)
    · refine B_blk B jlkX10_ok jcl_SKF [.iload_n 2] (by decide +kernel) (ls' := [(0, jR 74), (1, jI v1), (2, jI v2), (3, jI v3), (4, jI v4), (5, jI v5)]) (st' := [jI v2]) rfl (p1 := 104) rfl ?_
      cases hf
      exact B_retI B hq rfl (Nat.le_of_ble_eq_true rfl) (Nat.le_of_ble_eq_true rfl) (by decide +kernel)
    · refine B_blk B jlkX10_ok jcl_SKF [.aload_n 0, .iload 5, .iload_n 1, .iconst 0] (by decide +kernel) (ls' := [(0, jR 74), (1, jI v1), (2, jI v2), (3, jI v3), (4, jI v4), (5, jI v5)]) (st' := [jI 0, jI v1, jI v5, jR 74]) rfl (p1 := 52) rfl ?_
      obtain ⟨r3, h3, hf⟩ := jbd hf
      refine B_callV B (Nat.le_refl _) (μ' := m) (k' := 0) (n' := 0) ca_X10_peelsOf in_X10_peelsOf se_X10_peelsOf lk_X10_292 (t_X10_peelsOf B.tr h3) (Nat.le_refl _) rfl rfl rfl (rest := []) rfl rfl (Nat.le_of_ble_eq_true rfl) (by decide +kernel) rfl rfl (st' := [jI r3]) rfl ?_
      refine B_blk B jlkX10_ok jcl_SKF [.istore 6, .aload_n 0, .iload 5, .iload_n 1, .iconst 1] (by decide +kernel) (ls' := [(0, jR 74), (1, jI v1), (2, jI v2), (3, jI v3), (4, jI v4), (5, jI v5), (6, jI r3)]) (st' := [jI 1, jI v1, jI v5, jR 74]) rfl (p1 := 62) rfl ?_
      obtain ⟨r4, h4, hf⟩ := jbd hf
      refine B_callV B (Nat.le_refl _) (μ' := m) (k' := 0) (n' := 0) ca_X10_peelsOf in_X10_peelsOf se_X10_peelsOf lk_X10_292 (t_X10_peelsOf B.tr h4) (Nat.le_refl _) rfl rfl rfl (rest := []) rfl rfl (Nat.le_of_ble_eq_true rfl) (by decide +kernel) rfl rfl (st' := [jI r4]) rfl ?_
      refine B_blk B jlkX10_ok jcl_SKF [.istore 7, .iload 7] (by decide +kernel) (ls' := [(0, jR 74), (1, jI v1), (2, jI v2), (3, jI v3), (4, jI v4), (5, jI v5), (6, jI r3), (7, jI r4)]) (st' := [jI r4]) rfl (p1 := 69) rfl ?_
      refine J_if_eq B.1 (off := 28) (tgt := 97) (by decide +kernel) (by decide) hf (fun hf => ?_) (fun hf => ?_)
      · refine B_blk B jlkX10_ok jcl_SKF [.iinc 5 1, .goto (-65)] (by decide +kernel) (ls' := [(0, jR 74), (1, jI v1), (2, jI v2), (3, jI v3), (4, jI v4), (5, jI (jW (v5 + 1))), (6, jI r3), (7, jI r4)]) (st' := []) rfl (p1 := 35) rfl ?_
        refine J_pick [0, 1, 2, 3, 4, 5] (ls' := [(0, jR 74), (1, jI v1), (2, jI v2), (3, jI v3), (4, jI v4), (5, jI (jW (v5 + 1)))]) rfl ?_
        exact ih v1 v2 v3 v4 (jW (v5 + 1)) m _ hf hq
      · refine B_blk B jlkX10_ok jcl_SKF [.iload 6, .iload 4, .imul, .iload_n 3, .iload 7, .imul] (by decide +kernel) (ls' := [(0, jR 74), (1, jI v1), (2, jI v2), (3, jI v3), (4, jI v4), (5, jI v5), (6, jI r3), (7, jI r4)]) (st' := [jI (jW (v3 * r4)), jI (jW (r3 * v4))]) rfl (p1 := 81) rfl ?_
        refine J_icmp_gt B.1 (off := 6) (tgt := 87) (by decide +kernel) (by decide) hf (fun hf => ?_) (fun hf => ?_)
        · refine B_blk B jlkX10_ok jcl_SKF [.iload 5, .istore_n 2, .iload 6, .istore_n 3, .iload 7, .istore 4, .iinc 5 1, .goto (-65)] (by decide +kernel) (ls' := [(0, jR 74), (1, jI v1), (2, jI v5), (3, jI r3), (4, jI r4), (5, jI (jW (v5 + 1))), (6, jI r3), (7, jI r4)]) (st' := []) rfl (p1 := 35) rfl ?_
          refine J_pick [0, 1, 2, 3, 4, 5] (ls' := [(0, jR 74), (1, jI v1), (2, jI v5), (3, jI r3), (4, jI r4), (5, jI (jW (v5 + 1)))]) rfl ?_
          exact ih v1 v5 r3 r4 (jW (v5 + 1)) m _ hf hq
        · refine B_blk B jlkX10_ok jcl_SKF [.goto 13, .iinc 5 1, .goto (-65)] (by decide +kernel) (ls' := [(0, jR 74), (1, jI v1), (2, jI v2), (3, jI v3), (4, jI v4), (5, jI (jW (v5 + 1))), (6, jI r3), (7, jI r4)]) (st' := []) rfl (p1 := 35) rfl ?_
          refine J_pick [0, 1, 2, 3, 4, 5] (ls' := [(0, jR 74), (1, jI v1), (2, jI v2), (3, jI v3), (4, jI v4), (5, jI (jW (v5 + 1)))]) rfl ?_
          exact ih v1 v2 v3 v4 (jW (v5 + 1)) m _ hf hq
theorem t_X10_worst_J13 {X : jX} (B : jB X cX10_worst RX10 8 SKF.length rm_X10_worst (some .int)) (v1 : Int) (s1 : Int) (m : jMu) (r : (Int × jMu)) (hf : f_X10_worst_J13 v1 s1 m = some r) (hq : jQ X (.inl (some (jI r.1))) SKF r.2 rm_X10_worst.cells rm_X10_worst.slots) : J X SKF m 0 0 13 [(0, jR 74), (1, jI v1)] [jI s1, jR 74] := by
  unfold f_X10_worst_J13 at hf
  refine K_putI (jI' := 0) B jp_X10_51 rfl rfl rfl (by decide +kernel) ?_
  obtain ⟨m2, hm2, hf⟩ := jlt_s hf
  rw [hm2]
  refine B_blk B jlkX10_ok jcl_SKF [.aload_n 0, .getfield 51] (by decide +kernel) (ls' := [(0, jR 74), (1, jI v1)]) (st' := [jI (m2 74 0)]) rfl (p1 := 20) rfl ?_
  refine J_if_le B.1 (off := 5) (tgt := 25) (by decide +kernel) (by decide) hf (fun hf => ?_) (fun hf => ?_)
  · refine B_blk B jlkX10_ok jcl_SKF [.iconst (-1), .istore_n 2, .iconst 0, .istore_n 3, .iconst 1, .istore 4, .iconst 0, .istore 5] (by decide +kernel) (ls' := [(0, jR 74), (1, jI v1), (2, jI (-1)), (3, jI 0), (4, jI 1), (5, jI 0)]) (st' := []) rfl (p1 := 35) rfl ?_
    exact t_X10_worst_L35 B jFU v1 (-1) 0 1 0 m2 _ hf hq
  · refine B_blk B jlkX10_ok jcl_SKF [.iconst 0] (by decide +kernel) (ls' := [(0, jR 74), (1, jI v1)]) (st' := [jI 0]) rfl (p1 := 24) rfl ?_
    cases hf
    exact B_retI B hq rfl (Nat.le_of_ble_eq_true rfl) (Nat.le_of_ble_eq_true rfl) (by decide +kernel)
theorem t_X10_worst {l : Launch} {G : jG} (hl : l.stackTraces = false) {a0 : Int} {m : jMu} {r : (Int × jMu)} (hf : f_X10_worst a0 m = some r) : jCt l G yX10_worst (.code yX10_worst cX10_worst 8 (some .int) :: jWG) rm_X10_worst [jR 74, jI a0] SKF m (.inl (some (jI r.1))) SKF r.2 := by
  unfold f_X10_worst at hf
  refine J_start (ls0 := [(0, jR 74), (1, jI a0)]) (by decide +kernel) hl (Nat.le_of_ble_eq_true rfl) rfl fun X C hN hn hR hr hnm hno hq => ?_
  have B : jB X cX10_worst RX10 8 SKF.length rm_X10_worst (some .int) := ⟨C, hN, Nat.le_of_eq hn, hR, hr⟩
  refine B_blk B jlkX10_ok jcl_SKF [.aload_n 0, .iload_n 1] (by decide +kernel) (ls' := [(0, jR 74), (1, jI a0)]) (st' := [jI a0, jR 74]) rfl (p1 := 2) rfl ?_
  obtain ⟨r1, h1, hf⟩ := jbd hf
  refine B_callS B (Nat.le_refl _) (μ' := m) (k' := 0) (n' := 0) ca_X10_isDay sa_X10_isDay lk_X10_209 (t_X10_isDay B.tr jcl_SKF h1) (Nat.le_refl _) rfl (rest := [jR 74]) rfl rfl (Nat.le_of_ble_eq_true rfl) (by decide +kernel) rfl rfl (st' := [jI r1, jR 74]) rfl ?_
  refine J_if_ne B.1 (off := 7) (tgt := 12) (by decide +kernel) (by decide) hf (fun hf => ?_) (fun hf => ?_)
  · refine B_blk B jlkX10_ok jcl_SKF [.iconst 1, .goto 4] (by decide +kernel) (ls' := [(0, jR 74), (1, jI a0)]) (st' := [jI 1, jR 74]) rfl (p1 := 13) rfl ?_
    exact t_X10_worst_J13 B a0 1 m _ hf hq
  · refine B_blk B jlkX10_ok jcl_SKF [.iconst 0] (by decide +kernel) (ls' := [(0, jR 74), (1, jI a0)]) (st' := [jI 0, jR 74]) rfl (p1 := 13) rfl ?_
    exact t_X10_worst_J13 B a0 0 m _ hf hq

def rm_X10_risk : Room := { frames := 71, cells := 0, slots := 0, locals := 1039 }
def f_X10_risk_L35 : Nat → Int → Int → Int → jMu → Option (Int × jMu)
  | 0, _, _, _, _ => none
  | q + 1, v1, v2, v3, m => (f_X10_ofJob v1 4 m).bind fun r4 => (if r4 ≤ v3 then some (v2, m) else (f_X10_ofJob v1 7 m).bind fun r5 => (f_X10_ofJob v1 0 m).bind fun r6 => (f_X10_whyOf r5 r6 v3 m).bind fun r7 => (if r7.1 = 0 then f_X10_risk_L35 q v1 (jW (v2 + jW (r7.2 78 2 * r7.2 78 4))) (jW (v3 + 1)) r7.2 else f_X10_risk_L35 q v1 (jW (v2 + 0)) (jW (v3 + 1)) r7.2))
def f_X10_risk (a0 : Int) (m : jMu) : Option (Int × jMu) :=
  (f_X10_isJob a0 m).bind fun r1 => (if r1 = 0 then (jlt (jup m 74 0 1) fun m2 => (if m2 74 0 ≤ 0 then (f_X10_ofJob a0 3 m2).bind fun r3 => f_X10_risk_L35 jFU a0 0 r3 m2 else some (0, m2))) else (jlt (jup m 74 0 0) fun m8 => (if m8 74 0 ≤ 0 then (f_X10_ofJob a0 3 m8).bind fun r9 => f_X10_risk_L35 jFU a0 0 r9 m8 else some (0, m8))))
theorem t_X10_risk_L35 {X : jX} (B : jB X cX10_risk RX10 4 SKF.length rm_X10_risk (some .int)) : ∀ (q : Nat) (v1 : Int) (v2 : Int) (v3 : Int) (m : jMu) (r : (Int × jMu)), f_X10_risk_L35 q v1 v2 v3 m = some r → jQ X (.inl (some (jI r.1))) SKF r.2 rm_X10_risk.cells rm_X10_risk.slots → J X SKF m 0 0 35 [(0, jR 74), (1, jI v1), (2, jI v2), (3, jI v3)] [] := by
  intro q
  induction q with
  | zero =>
    intro v1 v2 v3 m r hf
    rw [f_X10_risk_L35] at hf
    cases hf
  | succ q ih =>
    intro v1 v2 v3 m r hf hq
    rw [f_X10_risk_L35] at hf
    refine B_blk B jlkX10_ok jcl_SKF [.iload_n 3, .aload_n 0, .iload_n 1, .iconst 4] (by decide +kernel) (ls' := [(0, jR 74), (1, jI v1), (2, jI v2), (3, jI v3)]) (st' := [jI 4, jI v1, jR 74, jI v3]) rfl (p1 := 39) rfl ?_
    obtain ⟨r4, h4, hf⟩ := jbd hf
    refine B_callV B (Nat.le_refl _) (μ' := m) (k' := 0) (n' := 0) ca_X10_ofJob in_X10_ofJob se_X10_ofJob lk_X10_218 (t_X10_ofJob B.tr h4) (Nat.le_refl _) rfl rfl rfl (rest := [jI v3]) rfl rfl (Nat.le_of_ble_eq_true rfl) (by decide +kernel) rfl rfl (st' := [jI r4, jI v3]) rfl ?_
    refine J_icmp_ge B.1 (off := 50) (tgt := 92) (by decide +kernel) (by decide) hf (fun hf => ?_) (fun hf => ?_)
    · refine B_blk B jlkX10_ok jcl_SKF [.iload_n 2] (by decide +kernel) (ls' := [(0, jR 74), (1, jI v1), (2, jI v2), (3, jI v3)]) (st' := [jI v2]) rfl (p1 := 93) rfl ?_
      cases hf
      exact B_retI B hq rfl (Nat.le_of_ble_eq_true rfl) (Nat.le_of_ble_eq_true rfl) (by decide +kernel)
    · refine B_blk B jlkX10_ok jcl_SKF [.iload_n 2, .aload_n 0, .aload_n 0, .iload_n 1, .bipush 7] (by decide +kernel) (ls' := [(0, jR 74), (1, jI v1), (2, jI v2), (3, jI v3)]) (st' := [jI 7, jI v1, jR 74, jR 74, jI v2]) rfl (p1 := 51) rfl ?_
      obtain ⟨r5, h5, hf⟩ := jbd hf
      refine B_callV B (Nat.le_refl _) (μ' := m) (k' := 0) (n' := 0) ca_X10_ofJob in_X10_ofJob se_X10_ofJob lk_X10_218 (t_X10_ofJob B.tr h5) (Nat.le_refl _) rfl rfl rfl (rest := [jR 74, jI v2]) rfl rfl (Nat.le_of_ble_eq_true rfl) (by decide +kernel) rfl rfl (st' := [jI r5, jR 74, jI v2]) rfl ?_
      refine B_blk B jlkX10_ok jcl_SKF [.aload_n 0, .iload_n 1, .iconst 0] (by decide +kernel) (ls' := [(0, jR 74), (1, jI v1), (2, jI v2), (3, jI v3)]) (st' := [jI 0, jI v1, jR 74, jI r5, jR 74, jI v2]) rfl (p1 := 57) rfl ?_
      obtain ⟨r6, h6, hf⟩ := jbd hf
      refine B_callV B (Nat.le_refl _) (μ' := m) (k' := 0) (n' := 0) ca_X10_ofJob in_X10_ofJob se_X10_ofJob lk_X10_218 (t_X10_ofJob B.tr h6) (Nat.le_refl _) rfl rfl rfl (rest := [jI r5, jR 74, jI v2]) rfl rfl (Nat.le_of_ble_eq_true rfl) (by decide +kernel) rfl rfl (st' := [jI r6, jI r5, jR 74, jI v2]) rfl ?_
      refine B_blk B jlkX10_ok jcl_SKF [.iload_n 3] (by decide +kernel) (ls' := [(0, jR 74), (1, jI v1), (2, jI v2), (3, jI v3)]) (st' := [jI v3, jI r6, jI r5, jR 74, jI v2]) rfl (p1 := 61) rfl ?_
      obtain ⟨r7, h7, hf⟩ := jbd hf
      refine B_callV B (Nat.le_refl _) (μ' := r7.2) (k' := 0) (n' := 0) ca_X10_whyOf in_X10_whyOf se_X10_whyOf lk_X10_199 (t_X10_whyOf B.tr h7) (Nat.le_refl _) rfl rfl rfl (rest := [jI v2]) rfl rfl (Nat.le_of_ble_eq_true rfl) (by decide +kernel) rfl rfl (st' := [jI r7.1, jI v2]) rfl ?_
      refine J_if_ne B.1 (off := 19) (tgt := 83) (by decide +kernel) (by decide) hf (fun hf => ?_) (fun hf => ?_)
      · refine B_blk B jlkX10_ok jcl_SKF [.aload_n 0, .getfield 23, .iconst 2] (by decide +kernel) (ls' := [(0, jR 74), (1, jI v1), (2, jI v2), (3, jI v3)]) (st' := [jI 2, jR 78, jI v2]) rfl (p1 := 72) rfl ?_
        refine K_iald (lenI := 6) B rfl rfl (by decide) (by decide +kernel) ?_
        refine B_blk B jlkX10_ok jcl_SKF [.aload_n 0, .getfield 23, .iconst 4] (by decide +kernel) (ls' := [(0, jR 74), (1, jI v1), (2, jI v2), (3, jI v3)]) (st' := [jI 4, jR 78, jI (r7.2 78 2), jI v2]) rfl (p1 := 78) rfl ?_
        refine K_iald (lenI := 6) B rfl rfl (by decide) (by decide +kernel) ?_
        refine B_blk B jlkX10_ok jcl_SKF [.imul, .goto 4, .iadd, .istore_n 2, .iinc 3 1, .goto (-54)] (by decide +kernel) (ls' := [(0, jR 74), (1, jI v1), (2, jI (jW (v2 + jW (r7.2 78 2 * r7.2 78 4)))), (3, jI (jW (v3 + 1)))]) (st' := []) rfl (p1 := 35) rfl ?_
        exact ih v1 (jW (v2 + jW (r7.2 78 2 * r7.2 78 4))) (jW (v3 + 1)) r7.2 _ hf hq
      · refine B_blk B jlkX10_ok jcl_SKF [.iconst 0, .iadd, .istore_n 2, .iinc 3 1, .goto (-54)] (by decide +kernel) (ls' := [(0, jR 74), (1, jI v1), (2, jI (jW (v2 + 0))), (3, jI (jW (v3 + 1)))]) (st' := []) rfl (p1 := 35) rfl ?_
        exact ih v1 (jW (v2 + 0)) (jW (v3 + 1)) r7.2 _ hf hq
theorem t_X10_risk {l : Launch} {G : jG} (hl : l.stackTraces = false) {a0 : Int} {m : jMu} {r : (Int × jMu)} (hf : f_X10_risk a0 m = some r) : jCt l G yX10_risk (.code yX10_risk cX10_risk 4 (some .int) :: jWG) rm_X10_risk [jR 74, jI a0] SKF m (.inl (some (jI r.1))) SKF r.2 := by
  unfold f_X10_risk at hf
  refine J_start (ls0 := [(0, jR 74), (1, jI a0)]) (by decide +kernel) hl (Nat.le_of_ble_eq_true rfl) rfl fun X C hN hn hR hr hnm hno hq => ?_
  have B : jB X cX10_risk RX10 4 SKF.length rm_X10_risk (some .int) := ⟨C, hN, Nat.le_of_eq hn, hR, hr⟩
  refine B_blk B jlkX10_ok jcl_SKF [.aload_n 0, .aload_n 0, .iload_n 1] (by decide +kernel) (ls' := [(0, jR 74), (1, jI a0)]) (st' := [jI a0, jR 74, jR 74]) rfl (p1 := 3) rfl ?_
  obtain ⟨r1, h1, hf⟩ := jbd hf
  refine B_callV B (Nat.le_refl _) (μ' := m) (k' := 0) (n' := 0) ca_X10_isJob in_X10_isJob se_X10_isJob lk_X10_250 (t_X10_isJob B.tr h1) (Nat.le_refl _) rfl rfl rfl (rest := [jR 74]) rfl rfl (Nat.le_of_ble_eq_true rfl) (by decide +kernel) rfl rfl (st' := [jI r1, jR 74]) rfl ?_
  refine J_if_ne B.1 (off := 7) (tgt := 13) (by decide +kernel) (by decide) hf (fun hf => ?_) (fun hf => ?_)
  · refine B_blk B jlkX10_ok jcl_SKF [.iconst 1, .goto 4] (by decide +kernel) (ls' := [(0, jR 74), (1, jI a0)]) (st' := [jI 1, jR 74]) rfl (p1 := 14) rfl ?_
    refine K_putI (jI' := 0) B jp_X10_51 rfl rfl rfl (by decide +kernel) ?_
    obtain ⟨m2, hm2, hf⟩ := jlt_s hf
    rw [hm2]
    refine B_blk B jlkX10_ok jcl_SKF [.aload_n 0, .getfield 51] (by decide +kernel) (ls' := [(0, jR 74), (1, jI a0)]) (st' := [jI (m2 74 0)]) rfl (p1 := 21) rfl ?_
    refine J_if_le B.1 (off := 5) (tgt := 26) (by decide +kernel) (by decide) hf (fun hf => ?_) (fun hf => ?_)
    · refine B_blk B jlkX10_ok jcl_SKF [.iconst 0, .istore_n 2, .aload_n 0, .iload_n 1, .iconst 3] (by decide +kernel) (ls' := [(0, jR 74), (1, jI a0), (2, jI 0)]) (st' := [jI 3, jI a0, jR 74]) rfl (p1 := 31) rfl ?_
      obtain ⟨r3, h3, hf⟩ := jbd hf
      refine B_callV B (Nat.le_refl _) (μ' := m2) (k' := 0) (n' := 0) ca_X10_ofJob in_X10_ofJob se_X10_ofJob lk_X10_218 (t_X10_ofJob B.tr h3) (Nat.le_refl _) rfl rfl rfl (rest := []) rfl rfl (Nat.le_of_ble_eq_true rfl) (by decide +kernel) rfl rfl (st' := [jI r3]) rfl ?_
      refine B_blk B jlkX10_ok jcl_SKF [.istore_n 3] (by decide +kernel) (ls' := [(0, jR 74), (1, jI a0), (2, jI 0), (3, jI r3)]) (st' := []) rfl (p1 := 35) rfl ?_
      exact t_X10_risk_L35 B jFU a0 0 r3 m2 _ hf hq
    · refine B_blk B jlkX10_ok jcl_SKF [.iconst 0] (by decide +kernel) (ls' := [(0, jR 74), (1, jI a0)]) (st' := [jI 0]) rfl (p1 := 25) rfl ?_
      cases hf
      exact B_retI B hq rfl (Nat.le_of_ble_eq_true rfl) (Nat.le_of_ble_eq_true rfl) (by decide +kernel)
  · refine B_blk B jlkX10_ok jcl_SKF [.iconst 0] (by decide +kernel) (ls' := [(0, jR 74), (1, jI a0)]) (st' := [jI 0, jR 74]) rfl (p1 := 14) rfl ?_
    refine K_putI (jI' := 0) B jp_X10_51 rfl rfl rfl (by decide +kernel) ?_
    obtain ⟨m8, hm8, hf⟩ := jlt_s hf
    rw [hm8]
    refine B_blk B jlkX10_ok jcl_SKF [.aload_n 0, .getfield 51] (by decide +kernel) (ls' := [(0, jR 74), (1, jI a0)]) (st' := [jI (m8 74 0)]) rfl (p1 := 21) rfl ?_
    refine J_if_le B.1 (off := 5) (tgt := 26) (by decide +kernel) (by decide) hf (fun hf => ?_) (fun hf => ?_)
    · refine B_blk B jlkX10_ok jcl_SKF [.iconst 0, .istore_n 2, .aload_n 0, .iload_n 1, .iconst 3] (by decide +kernel) (ls' := [(0, jR 74), (1, jI a0), (2, jI 0)]) (st' := [jI 3, jI a0, jR 74]) rfl (p1 := 31) rfl ?_
      obtain ⟨r9, h9, hf⟩ := jbd hf
      refine B_callV B (Nat.le_refl _) (μ' := m8) (k' := 0) (n' := 0) ca_X10_ofJob in_X10_ofJob se_X10_ofJob lk_X10_218 (t_X10_ofJob B.tr h9) (Nat.le_refl _) rfl rfl rfl (rest := []) rfl rfl (Nat.le_of_ble_eq_true rfl) (by decide +kernel) rfl rfl (st' := [jI r9]) rfl ?_
      refine B_blk B jlkX10_ok jcl_SKF [.istore_n 3] (by decide +kernel) (ls' := [(0, jR 74), (1, jI a0), (2, jI 0), (3, jI r9)]) (st' := []) rfl (p1 := 35) rfl ?_
      exact t_X10_risk_L35 B jFU a0 0 r9 m8 _ hf hq
    · refine B_blk B jlkX10_ok jcl_SKF [.iconst 0] (by decide +kernel) (ls' := [(0, jR 74), (1, jI a0)]) (st' := [jI 0]) rfl (p1 := 25) rfl ?_
      cases hf
      exact B_retI B hq rfl (Nat.le_of_ble_eq_true rfl) (Nat.le_of_ble_eq_true rfl) (by decide +kernel)

def rm_X10_match : Room := { frames := 8, cells := 0, slots := 0, locals := 130 }
def f_X10_match_L48 : Nat → Int → Int → Int → Int → Int → jMu → Option (Int × jMu)
  | 0, _, _, _, _, _, _ => none
  | q + 1, v1, v2, v3, v4, v5, m => (if m 75 7 ≤ v5 then some (v3, m) else (if 0 ≤ jW (jW (352 + jW (4 * v5)) + 3) ∧ jW (jW (352 + jW (4 * v5)) + 3) < 2083 then (if m 75 (jW (jW (352 + jW (4 * v5)) + 3)) = (-1) then (f_X10_leftOf v5 m).bind fun r3 => (if 0 < r3 then (if 0 ≤ jW (jW (352 + jW (4 * v5)) + 2) ∧ jW (jW (352 + jW (4 * v5)) + 2) < 2083 then (if m 75 (jW (jW (352 + jW (4 * v5)) + 2)) ≤ v1 then (if 0 ≤ jW (jW (352 + jW (4 * v5)) + 2) ∧ jW (jW (352 + jW (4 * v5)) + 2) < 2083 then (jlt (jW (v1 - m 75 (jW (jW (352 + jW (4 * v5)) + 2)))) fun x4 => (if v3 = (-1) then f_X10_match_L48 q v1 v2 v5 x4 (jW (v5 + 1)) m else (if x4 < v4 then f_X10_match_L48 q v1 v2 v5 x4 (jW (v5 + 1)) m else f_X10_match_L48 q v1 v2 v3 v4 (jW (v5 + 1)) m))) else none) else (if 0 ≤ jW (jW (352 + jW (4 * v5)) + 2) ∧ jW (jW (352 + jW (4 * v5)) + 2) < 2083 then (jlt (jW (m 75 (jW (jW (352 + jW (4 * v5)) + 2)) - v1)) fun x6 => (if v3 = (-1) then f_X10_match_L48 q v1 v2 v5 x6 (jW (v5 + 1)) m else (if x6 < v4 then f_X10_match_L48 q v1 v2 v5 x6 (jW (v5 + 1)) m else f_X10_match_L48 q v1 v2 v3 v4 (jW (v5 + 1)) m))) else none)) else none) else f_X10_match_L48 q v1 v2 v3 v4 (jW (v5 + 1)) m) else (if 0 ≤ jW (jW (352 + jW (4 * v5)) + 3) ∧ jW (jW (352 + jW (4 * v5)) + 3) < 2083 then (if m 75 (jW (jW (352 + jW (4 * v5)) + 3)) ≤ v2 then f_X10_match_L48 q v1 v2 v3 v4 (jW (v5 + 1)) m else (f_X10_leftOf v5 m).bind fun r9 => (if 0 < r9 then (if 0 ≤ jW (jW (352 + jW (4 * v5)) + 2) ∧ jW (jW (352 + jW (4 * v5)) + 2) < 2083 then (if m 75 (jW (jW (352 + jW (4 * v5)) + 2)) ≤ v1 then (if 0 ≤ jW (jW (352 + jW (4 * v5)) + 2) ∧ jW (jW (352 + jW (4 * v5)) + 2) < 2083 then (jlt (jW (v1 - m 75 (jW (jW (352 + jW (4 * v5)) + 2)))) fun x10 => (if v3 = (-1) then f_X10_match_L48 q v1 v2 v5 x10 (jW (v5 + 1)) m else (if x10 < v4 then f_X10_match_L48 q v1 v2 v5 x10 (jW (v5 + 1)) m else f_X10_match_L48 q v1 v2 v3 v4 (jW (v5 + 1)) m))) else none) else (if 0 ≤ jW (jW (352 + jW (4 * v5)) + 2) ∧ jW (jW (352 + jW (4 * v5)) + 2) < 2083 then (jlt (jW (m 75 (jW (jW (352 + jW (4 * v5)) + 2)) - v1)) fun x12 => (if v3 = (-1) then f_X10_match_L48 q v1 v2 v5 x12 (jW (v5 + 1)) m else (if x12 < v4 then f_X10_match_L48 q v1 v2 v5 x12 (jW (v5 + 1)) m else f_X10_match_L48 q v1 v2 v3 v4 (jW (v5 + 1)) m))) else none)) else none) else f_X10_match_L48 q v1 v2 v3 v4 (jW (v5 + 1)) m)) else none)) else none))
def f_X10_match (a0 : Int) (a1 : Int) (m : jMu) : Option (Int × jMu) :=
  (f_X10_isDay a1).bind fun r1 => (if r1 = 0 then (jlt (jup m 74 0 1) fun m2 => (if m2 74 0 ≤ 0 then f_X10_match_L48 jFU a0 a1 (-1) 0 0 m2 else some (0, m2))) else (f_X10_isIn a0 0 255).bind fun r17 => (if r17 = 0 then (jlt (jup m 74 0 2) fun m18 => (if m18 74 0 ≤ 0 then f_X10_match_L48 jFU a0 a1 (-1) 0 0 m18 else some (0, m18))) else (jlt (jup m 74 0 0) fun m19 => (if m19 74 0 ≤ 0 then f_X10_match_L48 jFU a0 a1 (-1) 0 0 m19 else some (0, m19)))))
theorem t_X10_match_L48 {X : jX} (B : jB X cX10_match RX10 8 SKF.length rm_X10_match (some .int)) : ∀ (q : Nat) (v1 : Int) (v2 : Int) (v3 : Int) (v4 : Int) (v5 : Int) (m : jMu) (r : (Int × jMu)), f_X10_match_L48 q v1 v2 v3 v4 v5 m = some r → jQ X (.inl (some (jI r.1))) SKF r.2 rm_X10_match.cells rm_X10_match.slots → J X SKF m 0 0 48 [(0, jR 74), (1, jI v1), (2, jI v2), (3, jI v3), (4, jI v4), (5, jI v5)] [] := by
  intro q
  induction q with
  | zero =>
    intro v1 v2 v3 v4 v5 m r hf
    rw [f_X10_match_L48] at hf
    cases hf
  | succ q ih =>
    intro v1 v2 v3 v4 v5 m r hf hq
    rw [f_X10_match_L48] at hf
    refine B_blk B jlkX10_ok jcl_SKF [.iload 5, .aload_n 0, .getfield 7, .bipush 7] (by decide +kernel) (ls' := [(0, jR 74), (1, jI v1), (2, jI v2), (3, jI v3), (4, jI v4), (5, jI v5)]) (st' := [jI 7, jR 75, jI v5]) rfl (p1 := 56) rfl ?_
    refine K_iald (lenI := 2083) B rfl rfl (by decide) (by decide +kernel) ?_
    refine J_icmp_ge B.1 (off := 119) (tgt := 176) (by decide +kernel) (by decide) hf (fun hf => ?_) (fun hf => ?_)
    · refine B_blk B jlkX10_ok jcl_SKF [.iload_n 3] (by decide +kernel) (ls' := [(0, jR 74), (1, jI v1), (2, jI v2), (3, jI v3), (4, jI v4), (5, jI v5)]) (st' := [jI v3]) rfl (p1 := 177) rfl ?_
      cases hf
      exact B_retI B hq rfl (Nat.le_of_ble_eq_true rfl) (Nat.le_of_ble_eq_true rfl) (by decide +kernel)
    · refine B_blk B jlkX10_ok jcl_SKF [.sipush 352, .iconst 4, .iload 5, .imul, .iadd, .istore 6, .aload_n 0, .getfield 7, .iload 6, .iconst 3, .iadd] (by decide +kernel) (ls' := [(0, jR 74), (1, jI v1), (2, jI v2), (3, jI v3), (4, jI v4), (5, jI v5), (6, jI (jW (352 + jW (4 * v5))))]) (st' := [jI (jW (jW (352 + jW (4 * v5)) + 3)), jR 75]) rfl (p1 := 78) rfl ?_
      obtain ⟨g16, hf⟩ := jgd hf
      refine K_iald (lenI := 2083) B rfl rfl g16 (by decide +kernel) ?_
      refine B_blk B jlkX10_ok jcl_SKF [.iconst (-1)] (by decide +kernel) (ls' := [(0, jR 74), (1, jI v1), (2, jI v2), (3, jI v3), (4, jI v4), (5, jI v5), (6, jI (jW (352 + jW (4 * v5))))]) (st' := [jI (-1), jI (m 75 (jW (jW (352 + jW (4 * v5)) + 3)))]) rfl (p1 := 80) rfl ?_
      refine J_icmp_eq B.1 (off := 16) (tgt := 96) (by decide +kernel) (by decide) hf (fun hf => ?_) (fun hf => ?_)
      · refine B_blk B jlkX10_ok jcl_SKF [.aload_n 0, .iload 5] (by decide +kernel) (ls' := [(0, jR 74), (1, jI v1), (2, jI v2), (3, jI v3), (4, jI v4), (5, jI v5), (6, jI (jW (352 + jW (4 * v5))))]) (st' := [jI v5, jR 74]) rfl (p1 := 99) rfl ?_
        obtain ⟨r3, h3, hf⟩ := jbd hf
        refine B_callV B (Nat.le_refl _) (μ' := m) (k' := 0) (n' := 0) ca_X10_leftOf in_X10_leftOf se_X10_leftOf lk_X10_247 (t_X10_leftOf B.tr h3) (Nat.le_refl _) rfl rfl rfl (rest := []) rfl rfl (Nat.le_of_ble_eq_true rfl) (by decide +kernel) rfl rfl (st' := [jI r3]) rfl ?_
        refine J_if_gt B.1 (off := 6) (tgt := 108) (by decide +kernel) (by decide) hf (fun hf => ?_) (fun hf => ?_)
        · refine B_blk B jlkX10_ok jcl_SKF [.aload_n 0, .getfield 7, .iload 6, .iconst 2, .iadd] (by decide +kernel) (ls' := [(0, jR 74), (1, jI v1), (2, jI v2), (3, jI v3), (4, jI v4), (5, jI v5), (6, jI (jW (352 + jW (4 * v5))))]) (st' := [jI (jW (jW (352 + jW (4 * v5)) + 2)), jR 75]) rfl (p1 := 116) rfl ?_
          obtain ⟨g8, hf⟩ := jgd hf
          refine K_iald (lenI := 2083) B rfl rfl g8 (by decide +kernel) ?_
          refine B_blk B jlkX10_ok jcl_SKF [.iload_n 1] (by decide +kernel) (ls' := [(0, jR 74), (1, jI v1), (2, jI v2), (3, jI v3), (4, jI v4), (5, jI v5), (6, jI (jW (352 + jW (4 * v5))))]) (st' := [jI v1, jI (m 75 (jW (jW (352 + jW (4 * v5)) + 2)))]) rfl (p1 := 118) rfl ?_
          refine J_icmp_le B.1 (off := 17) (tgt := 135) (by decide +kernel) (by decide) hf (fun hf => ?_) (fun hf => ?_)
          · refine B_blk B jlkX10_ok jcl_SKF [.iload_n 1, .aload_n 0, .getfield 7, .iload 6, .iconst 2, .iadd] (by decide +kernel) (ls' := [(0, jR 74), (1, jI v1), (2, jI v2), (3, jI v3), (4, jI v4), (5, jI v5), (6, jI (jW (352 + jW (4 * v5))))]) (st' := [jI (jW (jW (352 + jW (4 * v5)) + 2)), jR 75, jI v1]) rfl (p1 := 144) rfl ?_
            obtain ⟨g5, hf⟩ := jgd hf
            refine K_iald (lenI := 2083) B rfl rfl g5 (by decide +kernel) ?_
            refine B_blk B jlkX10_ok jcl_SKF [.isub, .istore 7] (by decide +kernel) (ls' := [(0, jR 74), (1, jI v1), (2, jI v2), (3, jI v3), (4, jI v4), (5, jI v5), (6, jI (jW (352 + jW (4 * v5)))), (7, jI (jW (v1 - m 75 (jW (jW (352 + jW (4 * v5)) + 2)))))]) (st' := []) rfl (p1 := 148) rfl ?_
            obtain ⟨x4, hx4, hf⟩ := jlt_s hf
            rw [hx4]
            refine B_blk B jlkX10_ok jcl_SKF [.iload_n 3, .iconst (-1)] (by decide +kernel) (ls' := [(0, jR 74), (1, jI v1), (2, jI v2), (3, jI v3), (4, jI v4), (5, jI v5), (6, jI (jW (352 + jW (4 * v5)))), (7, jI x4)]) (st' := [jI (-1), jI v3]) rfl (p1 := 150) rfl ?_
            refine J_icmp_eq B.1 (off := 13) (tgt := 163) (by decide +kernel) (by decide) hf (fun hf => ?_) (fun hf => ?_)
            · refine B_blk B jlkX10_ok jcl_SKF [.iload 5, .istore_n 3, .iload 7, .istore 4, .iinc 5 1, .goto (-125)] (by decide +kernel) (ls' := [(0, jR 74), (1, jI v1), (2, jI v2), (3, jI v5), (4, jI x4), (5, jI (jW (v5 + 1))), (6, jI (jW (352 + jW (4 * v5)))), (7, jI x4)]) (st' := []) rfl (p1 := 48) rfl ?_
              refine J_pick [0, 1, 2, 3, 4, 5] (ls' := [(0, jR 74), (1, jI v1), (2, jI v2), (3, jI v5), (4, jI x4), (5, jI (jW (v5 + 1)))]) rfl ?_
              exact ih v1 v2 v5 x4 (jW (v5 + 1)) m _ hf hq
            · refine B_blk B jlkX10_ok jcl_SKF [.iload 7, .iload 4] (by decide +kernel) (ls' := [(0, jR 74), (1, jI v1), (2, jI v2), (3, jI v3), (4, jI v4), (5, jI v5), (6, jI (jW (352 + jW (4 * v5)))), (7, jI x4)]) (st' := [jI v4, jI x4]) rfl (p1 := 157) rfl ?_
              refine J_icmp_lt B.1 (off := 6) (tgt := 163) (by decide +kernel) (by decide) hf (fun hf => ?_) (fun hf => ?_)
              · refine B_blk B jlkX10_ok jcl_SKF [.iload 5, .istore_n 3, .iload 7, .istore 4, .iinc 5 1, .goto (-125)] (by decide +kernel) (ls' := [(0, jR 74), (1, jI v1), (2, jI v2), (3, jI v5), (4, jI x4), (5, jI (jW (v5 + 1))), (6, jI (jW (352 + jW (4 * v5)))), (7, jI x4)]) (st' := []) rfl (p1 := 48) rfl ?_
                refine J_pick [0, 1, 2, 3, 4, 5] (ls' := [(0, jR 74), (1, jI v1), (2, jI v2), (3, jI v5), (4, jI x4), (5, jI (jW (v5 + 1)))]) rfl ?_
                exact ih v1 v2 v5 x4 (jW (v5 + 1)) m _ hf hq
              · refine B_blk B jlkX10_ok jcl_SKF [.goto 10, .iinc 5 1, .goto (-125)] (by decide +kernel) (ls' := [(0, jR 74), (1, jI v1), (2, jI v2), (3, jI v3), (4, jI v4), (5, jI (jW (v5 + 1))), (6, jI (jW (352 + jW (4 * v5)))), (7, jI x4)]) (st' := []) rfl (p1 := 48) rfl ?_
                refine J_pick [0, 1, 2, 3, 4, 5] (ls' := [(0, jR 74), (1, jI v1), (2, jI v2), (3, jI v3), (4, jI v4), (5, jI (jW (v5 + 1)))]) rfl ?_
                exact ih v1 v2 v3 v4 (jW (v5 + 1)) m _ hf hq
          · refine B_blk B jlkX10_ok jcl_SKF [.aload_n 0, .getfield 7, .iload 6, .iconst 2, .iadd] (by decide +kernel) (ls' := [(0, jR 74), (1, jI v1), (2, jI v2), (3, jI v3), (4, jI v4), (5, jI v5), (6, jI (jW (352 + jW (4 * v5))))]) (st' := [jI (jW (jW (352 + jW (4 * v5)) + 2)), jR 75]) rfl (p1 := 129) rfl ?_
            obtain ⟨g7, hf⟩ := jgd hf
            refine K_iald (lenI := 2083) B rfl rfl g7 (by decide +kernel) ?_
            refine B_blk B jlkX10_ok jcl_SKF [.iload_n 1, .isub, .goto 14, .istore 7] (by decide +kernel) (ls' := [(0, jR 74), (1, jI v1), (2, jI v2), (3, jI v3), (4, jI v4), (5, jI v5), (6, jI (jW (352 + jW (4 * v5)))), (7, jI (jW (m 75 (jW (jW (352 + jW (4 * v5)) + 2)) - v1)))]) (st' := []) rfl (p1 := 148) rfl ?_
            obtain ⟨x6, hx6, hf⟩ := jlt_s hf
            rw [hx6]
            refine B_blk B jlkX10_ok jcl_SKF [.iload_n 3, .iconst (-1)] (by decide +kernel) (ls' := [(0, jR 74), (1, jI v1), (2, jI v2), (3, jI v3), (4, jI v4), (5, jI v5), (6, jI (jW (352 + jW (4 * v5)))), (7, jI x6)]) (st' := [jI (-1), jI v3]) rfl (p1 := 150) rfl ?_
            refine J_icmp_eq B.1 (off := 13) (tgt := 163) (by decide +kernel) (by decide) hf (fun hf => ?_) (fun hf => ?_)
            · refine B_blk B jlkX10_ok jcl_SKF [.iload 5, .istore_n 3, .iload 7, .istore 4, .iinc 5 1, .goto (-125)] (by decide +kernel) (ls' := [(0, jR 74), (1, jI v1), (2, jI v2), (3, jI v5), (4, jI x6), (5, jI (jW (v5 + 1))), (6, jI (jW (352 + jW (4 * v5)))), (7, jI x6)]) (st' := []) rfl (p1 := 48) rfl ?_
              refine J_pick [0, 1, 2, 3, 4, 5] (ls' := [(0, jR 74), (1, jI v1), (2, jI v2), (3, jI v5), (4, jI x6), (5, jI (jW (v5 + 1)))]) rfl ?_
              exact ih v1 v2 v5 x6 (jW (v5 + 1)) m _ hf hq
            · refine B_blk B jlkX10_ok jcl_SKF [.iload 7, .iload 4] (by decide +kernel) (ls' := [(0, jR 74), (1, jI v1), (2, jI v2), (3, jI v3), (4, jI v4), (5, jI v5), (6, jI (jW (352 + jW (4 * v5)))), (7, jI x6)]) (st' := [jI v4, jI x6]) rfl (p1 := 157) rfl ?_
              refine J_icmp_lt B.1 (off := 6) (tgt := 163) (by decide +kernel) (by decide) hf (fun hf => ?_) (fun hf => ?_)
              · refine B_blk B jlkX10_ok jcl_SKF [.iload 5, .istore_n 3, .iload 7, .istore 4, .iinc 5 1, .goto (-125)] (by decide +kernel) (ls' := [(0, jR 74), (1, jI v1), (2, jI v2), (3, jI v5), (4, jI x6), (5, jI (jW (v5 + 1))), (6, jI (jW (352 + jW (4 * v5)))), (7, jI x6)]) (st' := []) rfl (p1 := 48) rfl ?_
                refine J_pick [0, 1, 2, 3, 4, 5] (ls' := [(0, jR 74), (1, jI v1), (2, jI v2), (3, jI v5), (4, jI x6), (5, jI (jW (v5 + 1)))]) rfl ?_
                exact ih v1 v2 v5 x6 (jW (v5 + 1)) m _ hf hq
              · refine B_blk B jlkX10_ok jcl_SKF [.goto 10, .iinc 5 1, .goto (-125)] (by decide +kernel) (ls' := [(0, jR 74), (1, jI v1), (2, jI v2), (3, jI v3), (4, jI v4), (5, jI (jW (v5 + 1))), (6, jI (jW (352 + jW (4 * v5)))), (7, jI x6)]) (st' := []) rfl (p1 := 48) rfl ?_
                refine J_pick [0, 1, 2, 3, 4, 5] (ls' := [(0, jR 74), (1, jI v1), (2, jI v2), (3, jI v3), (4, jI v4), (5, jI (jW (v5 + 1)))]) rfl ?_
                exact ih v1 v2 v3 v4 (jW (v5 + 1)) m _ hf hq
        · refine B_blk B jlkX10_ok jcl_SKF [.goto 65, .iinc 5 1, .goto (-125)] (by decide +kernel) (ls' := [(0, jR 74), (1, jI v1), (2, jI v2), (3, jI v3), (4, jI v4), (5, jI (jW (v5 + 1))), (6, jI (jW (352 + jW (4 * v5))))]) (st' := []) rfl (p1 := 48) rfl ?_
          refine J_pick [0, 1, 2, 3, 4, 5] (ls' := [(0, jR 74), (1, jI v1), (2, jI v2), (3, jI v3), (4, jI v4), (5, jI (jW (v5 + 1)))]) rfl ?_
          exact ih v1 v2 v3 v4 (jW (v5 + 1)) m _ hf hq
      · refine B_blk B jlkX10_ok jcl_SKF [.aload_n 0, .getfield 7, .iload 6, .iconst 3, .iadd] (by decide +kernel) (ls' := [(0, jR 74), (1, jI v1), (2, jI v2), (3, jI v3), (4, jI v4), (5, jI v5), (6, jI (jW (352 + jW (4 * v5))))]) (st' := [jI (jW (jW (352 + jW (4 * v5)) + 3)), jR 75]) rfl (p1 := 91) rfl ?_
        obtain ⟨g15, hf⟩ := jgd hf
        refine K_iald (lenI := 2083) B rfl rfl g15 (by decide +kernel) ?_
        refine B_blk B jlkX10_ok jcl_SKF [.iload_n 2] (by decide +kernel) (ls' := [(0, jR 74), (1, jI v1), (2, jI v2), (3, jI v3), (4, jI v4), (5, jI v5), (6, jI (jW (352 + jW (4 * v5))))]) (st' := [jI v2, jI (m 75 (jW (jW (352 + jW (4 * v5)) + 3)))]) rfl (p1 := 93) rfl ?_
        refine J_icmp_le B.1 (off := 77) (tgt := 170) (by decide +kernel) (by decide) hf (fun hf => ?_) (fun hf => ?_)
        · refine B_blk B jlkX10_ok jcl_SKF [.iinc 5 1, .goto (-125)] (by decide +kernel) (ls' := [(0, jR 74), (1, jI v1), (2, jI v2), (3, jI v3), (4, jI v4), (5, jI (jW (v5 + 1))), (6, jI (jW (352 + jW (4 * v5))))]) (st' := []) rfl (p1 := 48) rfl ?_
          refine J_pick [0, 1, 2, 3, 4, 5] (ls' := [(0, jR 74), (1, jI v1), (2, jI v2), (3, jI v3), (4, jI v4), (5, jI (jW (v5 + 1)))]) rfl ?_
          exact ih v1 v2 v3 v4 (jW (v5 + 1)) m _ hf hq
        · refine B_blk B jlkX10_ok jcl_SKF [.aload_n 0, .iload 5] (by decide +kernel) (ls' := [(0, jR 74), (1, jI v1), (2, jI v2), (3, jI v3), (4, jI v4), (5, jI v5), (6, jI (jW (352 + jW (4 * v5))))]) (st' := [jI v5, jR 74]) rfl (p1 := 99) rfl ?_
          obtain ⟨r9, h9, hf⟩ := jbd hf
          refine B_callV B (Nat.le_refl _) (μ' := m) (k' := 0) (n' := 0) ca_X10_leftOf in_X10_leftOf se_X10_leftOf lk_X10_247 (t_X10_leftOf B.tr h9) (Nat.le_refl _) rfl rfl rfl (rest := []) rfl rfl (Nat.le_of_ble_eq_true rfl) (by decide +kernel) rfl rfl (st' := [jI r9]) rfl ?_
          refine J_if_gt B.1 (off := 6) (tgt := 108) (by decide +kernel) (by decide) hf (fun hf => ?_) (fun hf => ?_)
          · refine B_blk B jlkX10_ok jcl_SKF [.aload_n 0, .getfield 7, .iload 6, .iconst 2, .iadd] (by decide +kernel) (ls' := [(0, jR 74), (1, jI v1), (2, jI v2), (3, jI v3), (4, jI v4), (5, jI v5), (6, jI (jW (352 + jW (4 * v5))))]) (st' := [jI (jW (jW (352 + jW (4 * v5)) + 2)), jR 75]) rfl (p1 := 116) rfl ?_
            obtain ⟨g14, hf⟩ := jgd hf
            refine K_iald (lenI := 2083) B rfl rfl g14 (by decide +kernel) ?_
            refine B_blk B jlkX10_ok jcl_SKF [.iload_n 1] (by decide +kernel) (ls' := [(0, jR 74), (1, jI v1), (2, jI v2), (3, jI v3), (4, jI v4), (5, jI v5), (6, jI (jW (352 + jW (4 * v5))))]) (st' := [jI v1, jI (m 75 (jW (jW (352 + jW (4 * v5)) + 2)))]) rfl (p1 := 118) rfl ?_
            refine J_icmp_le B.1 (off := 17) (tgt := 135) (by decide +kernel) (by decide) hf (fun hf => ?_) (fun hf => ?_)
            · refine B_blk B jlkX10_ok jcl_SKF [.iload_n 1, .aload_n 0, .getfield 7, .iload 6, .iconst 2, .iadd] (by decide +kernel) (ls' := [(0, jR 74), (1, jI v1), (2, jI v2), (3, jI v3), (4, jI v4), (5, jI v5), (6, jI (jW (352 + jW (4 * v5))))]) (st' := [jI (jW (jW (352 + jW (4 * v5)) + 2)), jR 75, jI v1]) rfl (p1 := 144) rfl ?_
              obtain ⟨g11, hf⟩ := jgd hf
              refine K_iald (lenI := 2083) B rfl rfl g11 (by decide +kernel) ?_
              refine B_blk B jlkX10_ok jcl_SKF [.isub, .istore 7] (by decide +kernel) (ls' := [(0, jR 74), (1, jI v1), (2, jI v2), (3, jI v3), (4, jI v4), (5, jI v5), (6, jI (jW (352 + jW (4 * v5)))), (7, jI (jW (v1 - m 75 (jW (jW (352 + jW (4 * v5)) + 2)))))]) (st' := []) rfl (p1 := 148) rfl ?_
              obtain ⟨x10, hx10, hf⟩ := jlt_s hf
              rw [hx10]
              refine B_blk B jlkX10_ok jcl_SKF [.iload_n 3, .iconst (-1)] (by decide +kernel) (ls' := [(0, jR 74), (1, jI v1), (2, jI v2), (3, jI v3), (4, jI v4), (5, jI v5), (6, jI (jW (352 + jW (4 * v5)))), (7, jI x10)]) (st' := [jI (-1), jI v3]) rfl (p1 := 150) rfl ?_
              refine J_icmp_eq B.1 (off := 13) (tgt := 163) (by decide +kernel) (by decide) hf (fun hf => ?_) (fun hf => ?_)
              · refine B_blk B jlkX10_ok jcl_SKF [.iload 5, .istore_n 3, .iload 7, .istore 4, .iinc 5 1, .goto (-125)] (by decide +kernel) (ls' := [(0, jR 74), (1, jI v1), (2, jI v2), (3, jI v5), (4, jI x10), (5, jI (jW (v5 + 1))), (6, jI (jW (352 + jW (4 * v5)))), (7, jI x10)]) (st' := []) rfl (p1 := 48) rfl ?_
                refine J_pick [0, 1, 2, 3, 4, 5] (ls' := [(0, jR 74), (1, jI v1), (2, jI v2), (3, jI v5), (4, jI x10), (5, jI (jW (v5 + 1)))]) rfl ?_
                exact ih v1 v2 v5 x10 (jW (v5 + 1)) m _ hf hq
              · refine B_blk B jlkX10_ok jcl_SKF [.iload 7, .iload 4] (by decide +kernel) (ls' := [(0, jR 74), (1, jI v1), (2, jI v2), (3, jI v3), (4, jI v4), (5, jI v5), (6, jI (jW (352 + jW (4 * v5)))), (7, jI x10)]) (st' := [jI v4, jI x10]) rfl (p1 := 157) rfl ?_
                refine J_icmp_lt B.1 (off := 6) (tgt := 163) (by decide +kernel) (by decide) hf (fun hf => ?_) (fun hf => ?_)
                · refine B_blk B jlkX10_ok jcl_SKF [.iload 5, .istore_n 3, .iload 7, .istore 4, .iinc 5 1, .goto (-125)] (by decide +kernel) (ls' := [(0, jR 74), (1, jI v1), (2, jI v2), (3, jI v5), (4, jI x10), (5, jI (jW (v5 + 1))), (6, jI (jW (352 + jW (4 * v5)))), (7, jI x10)]) (st' := []) rfl (p1 := 48) rfl ?_
                  refine J_pick [0, 1, 2, 3, 4, 5] (ls' := [(0, jR 74), (1, jI v1), (2, jI v2), (3, jI v5), (4, jI x10), (5, jI (jW (v5 + 1)))]) rfl ?_
                  exact ih v1 v2 v5 x10 (jW (v5 + 1)) m _ hf hq
                · refine B_blk B jlkX10_ok jcl_SKF [.goto 10, .iinc 5 1, .goto (-125)] (by decide +kernel) (ls' := [(0, jR 74), (1, jI v1), (2, jI v2), (3, jI v3), (4, jI v4), (5, jI (jW (v5 + 1))), (6, jI (jW (352 + jW (4 * v5)))), (7, jI x10)]) (st' := []) rfl (p1 := 48) rfl ?_
                  refine J_pick [0, 1, 2, 3, 4, 5] (ls' := [(0, jR 74), (1, jI v1), (2, jI v2), (3, jI v3), (4, jI v4), (5, jI (jW (v5 + 1)))]) rfl ?_
                  exact ih v1 v2 v3 v4 (jW (v5 + 1)) m _ hf hq
            · refine B_blk B jlkX10_ok jcl_SKF [.aload_n 0, .getfield 7, .iload 6, .iconst 2, .iadd] (by decide +kernel) (ls' := [(0, jR 74), (1, jI v1), (2, jI v2), (3, jI v3), (4, jI v4), (5, jI v5), (6, jI (jW (352 + jW (4 * v5))))]) (st' := [jI (jW (jW (352 + jW (4 * v5)) + 2)), jR 75]) rfl (p1 := 129) rfl ?_
              obtain ⟨g13, hf⟩ := jgd hf
              refine K_iald (lenI := 2083) B rfl rfl g13 (by decide +kernel) ?_
              refine B_blk B jlkX10_ok jcl_SKF [.iload_n 1, .isub, .goto 14, .istore 7] (by decide +kernel) (ls' := [(0, jR 74), (1, jI v1), (2, jI v2), (3, jI v3), (4, jI v4), (5, jI v5), (6, jI (jW (352 + jW (4 * v5)))), (7, jI (jW (m 75 (jW (jW (352 + jW (4 * v5)) + 2)) - v1)))]) (st' := []) rfl (p1 := 148) rfl ?_
              obtain ⟨x12, hx12, hf⟩ := jlt_s hf
              rw [hx12]
              refine B_blk B jlkX10_ok jcl_SKF [.iload_n 3, .iconst (-1)] (by decide +kernel) (ls' := [(0, jR 74), (1, jI v1), (2, jI v2), (3, jI v3), (4, jI v4), (5, jI v5), (6, jI (jW (352 + jW (4 * v5)))), (7, jI x12)]) (st' := [jI (-1), jI v3]) rfl (p1 := 150) rfl ?_
              refine J_icmp_eq B.1 (off := 13) (tgt := 163) (by decide +kernel) (by decide) hf (fun hf => ?_) (fun hf => ?_)
              · refine B_blk B jlkX10_ok jcl_SKF [.iload 5, .istore_n 3, .iload 7, .istore 4, .iinc 5 1, .goto (-125)] (by decide +kernel) (ls' := [(0, jR 74), (1, jI v1), (2, jI v2), (3, jI v5), (4, jI x12), (5, jI (jW (v5 + 1))), (6, jI (jW (352 + jW (4 * v5)))), (7, jI x12)]) (st' := []) rfl (p1 := 48) rfl ?_
                refine J_pick [0, 1, 2, 3, 4, 5] (ls' := [(0, jR 74), (1, jI v1), (2, jI v2), (3, jI v5), (4, jI x12), (5, jI (jW (v5 + 1)))]) rfl ?_
                exact ih v1 v2 v5 x12 (jW (v5 + 1)) m _ hf hq
              · refine B_blk B jlkX10_ok jcl_SKF [.iload 7, .iload 4] (by decide +kernel) (ls' := [(0, jR 74), (1, jI v1), (2, jI v2), (3, jI v3), (4, jI v4), (5, jI v5), (6, jI (jW (352 + jW (4 * v5)))), (7, jI x12)]) (st' := [jI v4, jI x12]) rfl (p1 := 157) rfl ?_
                refine J_icmp_lt B.1 (off := 6) (tgt := 163) (by decide +kernel) (by decide) hf (fun hf => ?_) (fun hf => ?_)
                · refine B_blk B jlkX10_ok jcl_SKF [.iload 5, .istore_n 3, .iload 7, .istore 4, .iinc 5 1, .goto (-125)] (by decide +kernel) (ls' := [(0, jR 74), (1, jI v1), (2, jI v2), (3, jI v5), (4, jI x12), (5, jI (jW (v5 + 1))), (6, jI (jW (352 + jW (4 * v5)))), (7, jI x12)]) (st' := []) rfl (p1 := 48) rfl ?_
                  refine J_pick [0, 1, 2, 3, 4, 5] (ls' := [(0, jR 74), (1, jI v1), (2, jI v2), (3, jI v5), (4, jI x12), (5, jI (jW (v5 + 1)))]) rfl ?_
                  exact ih v1 v2 v5 x12 (jW (v5 + 1)) m _ hf hq
                · refine B_blk B jlkX10_ok jcl_SKF [.goto 10, .iinc 5 1, .goto (-125)] (by decide +kernel) (ls' := [(0, jR 74), (1, jI v1), (2, jI v2), (3, jI v3), (4, jI v4), (5, jI (jW (v5 + 1))), (6, jI (jW (352 + jW (4 * v5)))), (7, jI x12)]) (st' := []) rfl (p1 := 48) rfl ?_
                  refine J_pick [0, 1, 2, 3, 4, 5] (ls' := [(0, jR 74), (1, jI v1), (2, jI v2), (3, jI v3), (4, jI v4), (5, jI (jW (v5 + 1)))]) rfl ?_
                  exact ih v1 v2 v3 v4 (jW (v5 + 1)) m _ hf hq
          · refine B_blk B jlkX10_ok jcl_SKF [.goto 65, .iinc 5 1, .goto (-125)] (by decide +kernel) (ls' := [(0, jR 74), (1, jI v1), (2, jI v2), (3, jI v3), (4, jI v4), (5, jI (jW (v5 + 1))), (6, jI (jW (352 + jW (4 * v5))))]) (st' := []) rfl (p1 := 48) rfl ?_
            refine J_pick [0, 1, 2, 3, 4, 5] (ls' := [(0, jR 74), (1, jI v1), (2, jI v2), (3, jI v3), (4, jI v4), (5, jI (jW (v5 + 1)))]) rfl ?_
            exact ih v1 v2 v3 v4 (jW (v5 + 1)) m _ hf hq
theorem t_X10_match {l : Launch} {G : jG} (hl : l.stackTraces = false) {a0 : Int} {a1 : Int} {m : jMu} {r : (Int × jMu)} (hf : f_X10_match a0 a1 m = some r) : jCt l G yX10_match (.code yX10_match cX10_match 8 (some .int) :: jWG) rm_X10_match [jR 74, jI a0, jI a1] SKF m (.inl (some (jI r.1))) SKF r.2 := by
  unfold f_X10_match at hf
  refine J_start (ls0 := [(0, jR 74), (1, jI a0), (2, jI a1)]) (by decide +kernel) hl (Nat.le_of_ble_eq_true rfl) rfl fun X C hN hn hR hr hnm hno hq => ?_
  have B : jB X cX10_match RX10 8 SKF.length rm_X10_match (some .int) := ⟨C, hN, Nat.le_of_eq hn, hR, hr⟩
  refine B_blk B jlkX10_ok jcl_SKF [.aload_n 0, .iload_n 2] (by decide +kernel) (ls' := [(0, jR 74), (1, jI a0), (2, jI a1)]) (st' := [jI a1, jR 74]) rfl (p1 := 2) rfl ?_
  obtain ⟨r1, h1, hf⟩ := jbd hf
  refine B_callS B (Nat.le_refl _) (μ' := m) (k' := 0) (n' := 0) ca_X10_isDay sa_X10_isDay lk_X10_209 (t_X10_isDay B.tr jcl_SKF h1) (Nat.le_refl _) rfl (rest := [jR 74]) rfl rfl (Nat.le_of_ble_eq_true rfl) (by decide +kernel) rfl rfl (st' := [jI r1, jR 74]) rfl ?_
  refine J_if_ne B.1 (off := 7) (tgt := 12) (by decide +kernel) (by decide) hf (fun hf => ?_) (fun hf => ?_)
  · refine B_blk B jlkX10_ok jcl_SKF [.iconst 1, .goto 19] (by decide +kernel) (ls' := [(0, jR 74), (1, jI a0), (2, jI a1)]) (st' := [jI 1, jR 74]) rfl (p1 := 28) rfl ?_
    refine K_putI (jI' := 0) B jp_X10_51 rfl rfl rfl (by decide +kernel) ?_
    obtain ⟨m2, hm2, hf⟩ := jlt_s hf
    rw [hm2]
    refine B_blk B jlkX10_ok jcl_SKF [.aload_n 0, .getfield 51] (by decide +kernel) (ls' := [(0, jR 74), (1, jI a0), (2, jI a1)]) (st' := [jI (m2 74 0)]) rfl (p1 := 35) rfl ?_
    refine J_if_le B.1 (off := 5) (tgt := 40) (by decide +kernel) (by decide) hf (fun hf => ?_) (fun hf => ?_)
    · refine B_blk B jlkX10_ok jcl_SKF [.iconst (-1), .istore_n 3, .iconst 0, .istore 4, .iconst 0, .istore 5] (by decide +kernel) (ls' := [(0, jR 74), (1, jI a0), (2, jI a1), (3, jI (-1)), (4, jI 0), (5, jI 0)]) (st' := []) rfl (p1 := 48) rfl ?_
      exact t_X10_match_L48 B jFU a0 a1 (-1) 0 0 m2 _ hf hq
    · refine B_blk B jlkX10_ok jcl_SKF [.iconst 0] (by decide +kernel) (ls' := [(0, jR 74), (1, jI a0), (2, jI a1)]) (st' := [jI 0]) rfl (p1 := 39) rfl ?_
      cases hf
      exact B_retI B hq rfl (Nat.le_of_ble_eq_true rfl) (Nat.le_of_ble_eq_true rfl) (by decide +kernel)
  · refine B_blk B jlkX10_ok jcl_SKF [.iload_n 1, .iconst 0, .sipush 255] (by decide +kernel) (ls' := [(0, jR 74), (1, jI a0), (2, jI a1)]) (st' := [jI 255, jI 0, jI a0, jR 74]) rfl (p1 := 17) rfl ?_
    obtain ⟨r17, h17, hf⟩ := jbd hf
    refine B_callS B (Nat.le_refl _) (μ' := m) (k' := 0) (n' := 0) ca_X10_isIn sa_X10_isIn lk_X10_54 (t_X10_isIn B.tr jcl_SKF h17) (Nat.le_refl _) rfl (rest := [jR 74]) rfl rfl (Nat.le_of_ble_eq_true rfl) (by decide +kernel) rfl rfl (st' := [jI r17, jR 74]) rfl ?_
    refine J_if_ne B.1 (off := 7) (tgt := 27) (by decide +kernel) (by decide) hf (fun hf => ?_) (fun hf => ?_)
    · refine B_blk B jlkX10_ok jcl_SKF [.iconst 2, .goto 4] (by decide +kernel) (ls' := [(0, jR 74), (1, jI a0), (2, jI a1)]) (st' := [jI 2, jR 74]) rfl (p1 := 28) rfl ?_
      refine K_putI (jI' := 0) B jp_X10_51 rfl rfl rfl (by decide +kernel) ?_
      obtain ⟨m18, hm18, hf⟩ := jlt_s hf
      rw [hm18]
      refine B_blk B jlkX10_ok jcl_SKF [.aload_n 0, .getfield 51] (by decide +kernel) (ls' := [(0, jR 74), (1, jI a0), (2, jI a1)]) (st' := [jI (m18 74 0)]) rfl (p1 := 35) rfl ?_
      refine J_if_le B.1 (off := 5) (tgt := 40) (by decide +kernel) (by decide) hf (fun hf => ?_) (fun hf => ?_)
      · refine B_blk B jlkX10_ok jcl_SKF [.iconst (-1), .istore_n 3, .iconst 0, .istore 4, .iconst 0, .istore 5] (by decide +kernel) (ls' := [(0, jR 74), (1, jI a0), (2, jI a1), (3, jI (-1)), (4, jI 0), (5, jI 0)]) (st' := []) rfl (p1 := 48) rfl ?_
        exact t_X10_match_L48 B jFU a0 a1 (-1) 0 0 m18 _ hf hq
      · refine B_blk B jlkX10_ok jcl_SKF [.iconst 0] (by decide +kernel) (ls' := [(0, jR 74), (1, jI a0), (2, jI a1)]) (st' := [jI 0]) rfl (p1 := 39) rfl ?_
        cases hf
        exact B_retI B hq rfl (Nat.le_of_ble_eq_true rfl) (Nat.le_of_ble_eq_true rfl) (by decide +kernel)
    · refine B_blk B jlkX10_ok jcl_SKF [.iconst 0] (by decide +kernel) (ls' := [(0, jR 74), (1, jI a0), (2, jI a1)]) (st' := [jI 0, jR 74]) rfl (p1 := 28) rfl ?_
      refine K_putI (jI' := 0) B jp_X10_51 rfl rfl rfl (by decide +kernel) ?_
      obtain ⟨m19, hm19, hf⟩ := jlt_s hf
      rw [hm19]
      refine B_blk B jlkX10_ok jcl_SKF [.aload_n 0, .getfield 51] (by decide +kernel) (ls' := [(0, jR 74), (1, jI a0), (2, jI a1)]) (st' := [jI (m19 74 0)]) rfl (p1 := 35) rfl ?_
      refine J_if_le B.1 (off := 5) (tgt := 40) (by decide +kernel) (by decide) hf (fun hf => ?_) (fun hf => ?_)
      · refine B_blk B jlkX10_ok jcl_SKF [.iconst (-1), .istore_n 3, .iconst 0, .istore 4, .iconst 0, .istore 5] (by decide +kernel) (ls' := [(0, jR 74), (1, jI a0), (2, jI a1), (3, jI (-1)), (4, jI 0), (5, jI 0)]) (st' := []) rfl (p1 := 48) rfl ?_
        exact t_X10_match_L48 B jFU a0 a1 (-1) 0 0 m19 _ hf hq
      · refine B_blk B jlkX10_ok jcl_SKF [.iconst 0] (by decide +kernel) (ls' := [(0, jR 74), (1, jI a0), (2, jI a1)]) (st' := [jI 0]) rfl (p1 := 39) rfl ?_
        cases hf
        exact B_retI B hq rfl (Nat.le_of_ble_eq_true rfl) (Nat.le_of_ble_eq_true rfl) (by decide +kernel)

def rm_X10_bolt : Room := { frames := 6, cells := 0, slots := 0, locals := 107 }
def f_X10_bolt_J21 (v1 : Int) (v2 : Int) (s1 : Int) (m : jMu) : Option (Int × jMu) :=
  (jlt (jup m 74 0 s1) fun m2 => (if m2 74 0 ≤ 0 then (if m2 75 10 = 30 then some ((-1), m2) else (if 0 ≤ jW (816 + jW (2 * m2 75 10)) ∧ jW (816 + jW (2 * m2 75 10)) < 2083 then (jlt (jup m2 75 (jW (816 + jW (2 * m2 75 10))) v1) fun m3 => (if 0 ≤ jW (jW (816 + jW (2 * m3 75 10)) + 1) ∧ jW (jW (816 + jW (2 * m3 75 10)) + 1) < 2083 then (jlt (jup m3 75 (jW (jW (816 + jW (2 * m3 75 10)) + 1)) v2) fun m4 => (jlt (jup m4 75 10 (jW (m4 75 10 + 1))) fun m5 => some (m5 75 10, m5))) else none)) else none)) else some (0, m2)))
def f_X10_bolt_J16 (v1 : Int) (v2 : Int) (m : jMu) : Option (Int × jMu) :=
  f_X10_bolt_J21 v1 v2 1 m
def f_X10_bolt (a0 : Int) (a1 : Int) (m : jMu) : Option (Int × jMu) :=
  (f_X10_isBay a0 m).bind fun r1 => (if r1 = 0 then f_X10_bolt_J16 a0 a1 m else (f_X10_isDay a1).bind fun r8 => (if r8 = 0 then f_X10_bolt_J16 a0 a1 m else f_X10_bolt_J21 a0 a1 0 m))
theorem t_X10_bolt_J21 {X : jX} (B : jB X cX10_bolt RX10 3 SKF.length rm_X10_bolt (some .int)) (v1 : Int) (v2 : Int) (s1 : Int) (m : jMu) (r : (Int × jMu)) (hf : f_X10_bolt_J21 v1 v2 s1 m = some r) (hq : jQ X (.inl (some (jI r.1))) SKF r.2 rm_X10_bolt.cells rm_X10_bolt.slots) : J X SKF m 0 0 21 [(0, jR 74), (1, jI v1), (2, jI v2)] [jI s1, jR 74] := by
  unfold f_X10_bolt_J21 at hf
  refine K_putI (jI' := 0) B jp_X10_51 rfl rfl rfl (by decide +kernel) ?_
  obtain ⟨m2, hm2, hf⟩ := jlt_s hf
  rw [hm2]
  refine B_blk B jlkX10_ok jcl_SKF [.aload_n 0, .getfield 51] (by decide +kernel) (ls' := [(0, jR 74), (1, jI v1), (2, jI v2)]) (st' := [jI (m2 74 0)]) rfl (p1 := 28) rfl ?_
  refine J_if_le B.1 (off := 5) (tgt := 33) (by decide +kernel) (by decide) hf (fun hf => ?_) (fun hf => ?_)
  · refine B_blk B jlkX10_ok jcl_SKF [.aload_n 0, .getfield 7, .bipush 10] (by decide +kernel) (ls' := [(0, jR 74), (1, jI v1), (2, jI v2)]) (st' := [jI 10, jR 75]) rfl (p1 := 39) rfl ?_
    refine K_iald (lenI := 2083) B rfl rfl (by decide) (by decide +kernel) ?_
    refine B_blk B jlkX10_ok jcl_SKF [.bipush 30] (by decide +kernel) (ls' := [(0, jR 74), (1, jI v1), (2, jI v2)]) (st' := [jI 30, jI (m2 75 10)]) rfl (p1 := 42) rfl ?_
    refine J_icmp_ne B.1 (off := 5) (tgt := 47) (by decide +kernel) (by decide) hf (fun hf => ?_) (fun hf => ?_)
    · refine B_blk B jlkX10_ok jcl_SKF [.iconst (-1)] (by decide +kernel) (ls' := [(0, jR 74), (1, jI v1), (2, jI v2)]) (st' := [jI (-1)]) rfl (p1 := 46) rfl ?_
      cases hf
      exact B_retI B hq rfl (Nat.le_of_ble_eq_true rfl) (Nat.le_of_ble_eq_true rfl) (by decide +kernel)
    · refine B_blk B jlkX10_ok jcl_SKF [.aload_n 0, .getfield 7, .sipush 816, .iconst 2, .aload_n 0, .getfield 7, .bipush 10] (by decide +kernel) (ls' := [(0, jR 74), (1, jI v1), (2, jI v2)]) (st' := [jI 10, jR 75, jI 2, jI 816, jR 75]) rfl (p1 := 61) rfl ?_
      refine K_iald (lenI := 2083) B rfl rfl (by decide) (by decide +kernel) ?_
      refine B_blk B jlkX10_ok jcl_SKF [.imul, .iadd, .iload_n 1] (by decide +kernel) (ls' := [(0, jR 74), (1, jI v1), (2, jI v2)]) (st' := [jI v1, jI (jW (816 + jW (2 * m2 75 10))), jR 75]) rfl (p1 := 65) rfl ?_
      obtain ⟨g7, hf⟩ := jgd hf
      refine K_iast (lenI := 2083) B rfl rfl g7 (by decide +kernel) ?_
      obtain ⟨m3, hm3, hf⟩ := jlt_s hf
      rw [hm3]
      refine B_blk B jlkX10_ok jcl_SKF [.aload_n 0, .getfield 7, .sipush 816, .iconst 2, .aload_n 0, .getfield 7, .bipush 10] (by decide +kernel) (ls' := [(0, jR 74), (1, jI v1), (2, jI v2)]) (st' := [jI 10, jR 75, jI 2, jI 816, jR 75]) rfl (p1 := 80) rfl ?_
      refine K_iald (lenI := 2083) B rfl rfl (by decide) (by decide +kernel) ?_
      refine B_blk B jlkX10_ok jcl_SKF [.imul, .iadd, .iconst 1, .iadd, .iload_n 2] (by decide +kernel) (ls' := [(0, jR 74), (1, jI v1), (2, jI v2)]) (st' := [jI v2, jI (jW (jW (816 + jW (2 * m3 75 10)) + 1)), jR 75]) rfl (p1 := 86) rfl ?_
      obtain ⟨g6, hf⟩ := jgd hf
      refine K_iast (lenI := 2083) B rfl rfl g6 (by decide +kernel) ?_
      obtain ⟨m4, hm4, hf⟩ := jlt_s hf
      rw [hm4]
      refine B_blk B jlkX10_ok jcl_SKF [.aload_n 0, .getfield 7, .bipush 10, .dup2] (by decide +kernel) (ls' := [(0, jR 74), (1, jI v1), (2, jI v2)]) (st' := [jI 10, jR 75, jI 10, jR 75]) rfl (p1 := 94) rfl ?_
      refine K_iald (lenI := 2083) B rfl rfl (by decide) (by decide +kernel) ?_
      refine B_blk B jlkX10_ok jcl_SKF [.iconst 1, .iadd] (by decide +kernel) (ls' := [(0, jR 74), (1, jI v1), (2, jI v2)]) (st' := [jI (jW (m4 75 10 + 1)), jI 10, jR 75]) rfl (p1 := 97) rfl ?_
      refine K_iast (lenI := 2083) B rfl rfl (by decide) (by decide +kernel) ?_
      obtain ⟨m5, hm5, hf⟩ := jlt_s hf
      rw [hm5]
      refine B_blk B jlkX10_ok jcl_SKF [.aload_n 0, .getfield 7, .bipush 10] (by decide +kernel) (ls' := [(0, jR 74), (1, jI v1), (2, jI v2)]) (st' := [jI 10, jR 75]) rfl (p1 := 104) rfl ?_
      refine K_iald (lenI := 2083) B rfl rfl (by decide) (by decide +kernel) ?_
      cases hf
      exact B_retI B hq rfl (Nat.le_of_ble_eq_true rfl) (Nat.le_of_ble_eq_true rfl) (by decide +kernel)
  · refine B_blk B jlkX10_ok jcl_SKF [.iconst 0] (by decide +kernel) (ls' := [(0, jR 74), (1, jI v1), (2, jI v2)]) (st' := [jI 0]) rfl (p1 := 32) rfl ?_
    cases hf
    exact B_retI B hq rfl (Nat.le_of_ble_eq_true rfl) (Nat.le_of_ble_eq_true rfl) (by decide +kernel)
theorem t_X10_bolt_J16 {X : jX} (B : jB X cX10_bolt RX10 3 SKF.length rm_X10_bolt (some .int)) (v1 : Int) (v2 : Int) (m : jMu) (r : (Int × jMu)) (hf : f_X10_bolt_J16 v1 v2 m = some r) (hq : jQ X (.inl (some (jI r.1))) SKF r.2 rm_X10_bolt.cells rm_X10_bolt.slots) : J X SKF m 0 0 16 [(0, jR 74), (1, jI v1), (2, jI v2)] [jR 74] := by
  unfold f_X10_bolt_J16 at hf
  refine B_blk B jlkX10_ok jcl_SKF [.iconst 1, .goto 4] (by decide +kernel) (ls' := [(0, jR 74), (1, jI v1), (2, jI v2)]) (st' := [jI 1, jR 74]) rfl (p1 := 21) rfl ?_
  exact t_X10_bolt_J21 B v1 v2 1 m _ hf hq
theorem t_X10_bolt {l : Launch} {G : jG} (hl : l.stackTraces = false) {a0 : Int} {a1 : Int} {m : jMu} {r : (Int × jMu)} (hf : f_X10_bolt a0 a1 m = some r) : jCt l G yX10_bolt (.code yX10_bolt cX10_bolt 3 (some .int) :: jWG) rm_X10_bolt [jR 74, jI a0, jI a1] SKF m (.inl (some (jI r.1))) SKF r.2 := by
  unfold f_X10_bolt at hf
  refine J_start (ls0 := [(0, jR 74), (1, jI a0), (2, jI a1)]) (by decide +kernel) hl (Nat.le_of_ble_eq_true rfl) rfl fun X C hN hn hR hr hnm hno hq => ?_
  have B : jB X cX10_bolt RX10 3 SKF.length rm_X10_bolt (some .int) := ⟨C, hN, Nat.le_of_eq hn, hR, hr⟩
  refine B_blk B jlkX10_ok jcl_SKF [.aload_n 0, .aload_n 0, .iload_n 1] (by decide +kernel) (ls' := [(0, jR 74), (1, jI a0), (2, jI a1)]) (st' := [jI a0, jR 74, jR 74]) rfl (p1 := 3) rfl ?_
  obtain ⟨r1, h1, hf⟩ := jbd hf
  refine B_callV B (Nat.le_refl _) (μ' := m) (k' := 0) (n' := 0) ca_X10_isBay in_X10_isBay se_X10_isBay lk_X10_206 (t_X10_isBay B.tr h1) (Nat.le_refl _) rfl rfl rfl (rest := [jR 74]) rfl rfl (Nat.le_of_ble_eq_true rfl) (by decide +kernel) rfl rfl (st' := [jI r1, jR 74]) rfl ?_
  refine J_if_eq B.1 (off := 10) (tgt := 16) (by decide +kernel) (by decide) hf (fun hf => ?_) (fun hf => ?_)
  · exact t_X10_bolt_J16 B a0 a1 m _ hf hq
  · refine B_blk B jlkX10_ok jcl_SKF [.iload_n 2] (by decide +kernel) (ls' := [(0, jR 74), (1, jI a0), (2, jI a1)]) (st' := [jI a1, jR 74]) rfl (p1 := 10) rfl ?_
    obtain ⟨r8, h8, hf⟩ := jbd hf
    refine B_callS B (Nat.le_refl _) (μ' := m) (k' := 0) (n' := 0) ca_X10_isDay sa_X10_isDay lk_X10_209 (t_X10_isDay B.tr jcl_SKF h8) (Nat.le_refl _) rfl (rest := [jR 74]) rfl rfl (Nat.le_of_ble_eq_true rfl) (by decide +kernel) rfl rfl (st' := [jI r8, jR 74]) rfl ?_
    refine J_if_ne B.1 (off := 7) (tgt := 20) (by decide +kernel) (by decide) hf (fun hf => ?_) (fun hf => ?_)
    · exact t_X10_bolt_J16 B a0 a1 m _ hf hq
    · refine B_blk B jlkX10_ok jcl_SKF [.iconst 0] (by decide +kernel) (ls' := [(0, jR 74), (1, jI a0), (2, jI a1)]) (st' := [jI 0, jR 74]) rfl (p1 := 21) rfl ?_
      exact t_X10_bolt_J21 B a0 a1 0 m _ hf hq

def rm_X10_found : Room := { frames := 4, cells := 0, slots := 0, locals := 86 }
def f_X10_found_L6 : Nat → Int → Int → Int → Int → Int → jMu → Option Int
  | 0, _, _, _, _, _, _ => none
  | q + 1, v1, v2, v3, v4, v5, m => (if m 75 10 ≤ v5 then some v4 else (if 0 ≤ jW (816 + jW (2 * v5)) ∧ jW (816 + jW (2 * v5)) < 2083 then (if m 75 (jW (816 + jW (2 * v5))) = v1 then (if 0 ≤ jW (jW (816 + jW (2 * v5)) + 1) ∧ jW (jW (816 + jW (2 * v5)) + 1) < 2083 then (f_X10_isIn (m 75 (jW (jW (816 + jW (2 * v5)) + 1))) v2 v3).bind fun r1 => (if r1 = 0 then f_X10_found_L6 q v1 v2 v3 (jW (v4 + 0)) (jW (v5 + 1)) m else f_X10_found_L6 q v1 v2 v3 (jW (v4 + 1)) (jW (v5 + 1)) m) else none) else f_X10_found_L6 q v1 v2 v3 (jW (v4 + 0)) (jW (v5 + 1)) m) else none))
def f_X10_found (a0 : Int) (a1 : Int) (a2 : Int) (m : jMu) : Option Int :=
  f_X10_found_L6 jFU a0 a1 a2 0 0 m
theorem t_X10_found_L6 {X : jX} (B : jB X cX10_found RX10 6 SKF.length rm_X10_found (some .int)) : ∀ (q : Nat) (v1 : Int) (v2 : Int) (v3 : Int) (v4 : Int) (v5 : Int) (m : jMu) (r : Int), f_X10_found_L6 q v1 v2 v3 v4 v5 m = some r → jQ X (.inl (some (jI r))) SKF m rm_X10_found.cells rm_X10_found.slots → J X SKF m 0 0 6 [(0, jR 74), (1, jI v1), (2, jI v2), (3, jI v3), (4, jI v4), (5, jI v5)] [] := by
  intro q
  induction q with
  | zero =>
    intro v1 v2 v3 v4 v5 m r hf
    rw [f_X10_found_L6] at hf
    cases hf
  | succ q ih =>
    intro v1 v2 v3 v4 v5 m r hf hq
    rw [f_X10_found_L6] at hf
    refine B_blk B jlkX10_ok jcl_SKF [.iload 5, .aload_n 0, .getfield 7, .bipush 10] (by decide +kernel) (ls' := [(0, jR 74), (1, jI v1), (2, jI v2), (3, jI v3), (4, jI v4), (5, jI v5)]) (st' := [jI 10, jR 75, jI v5]) rfl (p1 := 14) rfl ?_
    refine K_iald (lenI := 2083) B rfl rfl (by decide) (by decide +kernel) ?_
    refine J_icmp_ge B.1 (off := 59) (tgt := 74) (by decide +kernel) (by decide) hf (fun hf => ?_) (fun hf => ?_)
    · refine B_blk B jlkX10_ok jcl_SKF [.iload 4] (by decide +kernel) (ls' := [(0, jR 74), (1, jI v1), (2, jI v2), (3, jI v3), (4, jI v4), (5, jI v5)]) (st' := [jI v4]) rfl (p1 := 76) rfl ?_
      cases hf
      exact B_retI B hq rfl (Nat.le_of_ble_eq_true rfl) (Nat.le_of_ble_eq_true rfl) (by decide +kernel)
    · refine B_blk B jlkX10_ok jcl_SKF [.iload 4, .aload_n 0, .getfield 7, .sipush 816, .iconst 2, .iload 5, .imul, .iadd] (by decide +kernel) (ls' := [(0, jR 74), (1, jI v1), (2, jI v2), (3, jI v3), (4, jI v4), (5, jI v5)]) (st' := [jI (jW (816 + jW (2 * v5))), jR 75, jI v4]) rfl (p1 := 32) rfl ?_
      obtain ⟨g3, hf⟩ := jgd hf
      refine K_iald (lenI := 2083) B rfl rfl g3 (by decide +kernel) ?_
      refine B_blk B jlkX10_ok jcl_SKF [.iload_n 1] (by decide +kernel) (ls' := [(0, jR 74), (1, jI v1), (2, jI v2), (3, jI v3), (4, jI v4), (5, jI v5)]) (st' := [jI v1, jI (m 75 (jW (816 + jW (2 * v5)))), jI v4]) rfl (p1 := 34) rfl ?_
      refine J_icmp_ne B.1 (off := 30) (tgt := 64) (by decide +kernel) (by decide) hf (fun hf => ?_) (fun hf => ?_)
      · refine B_blk B jlkX10_ok jcl_SKF [.aload_n 0, .getfield 7, .sipush 816, .iconst 2, .iload 5, .imul, .iadd, .iconst 1, .iadd] (by decide +kernel) (ls' := [(0, jR 74), (1, jI v1), (2, jI v2), (3, jI v3), (4, jI v4), (5, jI v5)]) (st' := [jI (jW (jW (816 + jW (2 * v5)) + 1)), jR 75, jI v4]) rfl (p1 := 51) rfl ?_
        obtain ⟨g2, hf⟩ := jgd hf
        refine K_iald (lenI := 2083) B rfl rfl g2 (by decide +kernel) ?_
        refine B_blk B jlkX10_ok jcl_SKF [.iload_n 2, .iload_n 3] (by decide +kernel) (ls' := [(0, jR 74), (1, jI v1), (2, jI v2), (3, jI v3), (4, jI v4), (5, jI v5)]) (st' := [jI v3, jI v2, jI (m 75 (jW (jW (816 + jW (2 * v5)) + 1))), jI v4]) rfl (p1 := 54) rfl ?_
        obtain ⟨r1, h1, hf⟩ := jbd hf
        refine B_callS B (Nat.le_refl _) (μ' := m) (k' := 0) (n' := 0) ca_X10_isIn sa_X10_isIn lk_X10_54 (t_X10_isIn B.tr jcl_SKF h1) (Nat.le_refl _) rfl (rest := [jI v4]) rfl rfl (Nat.le_of_ble_eq_true rfl) (by decide +kernel) rfl rfl (st' := [jI r1, jI v4]) rfl ?_
        refine J_if_eq B.1 (off := 7) (tgt := 64) (by decide +kernel) (by decide) hf (fun hf => ?_) (fun hf => ?_)
        · refine B_blk B jlkX10_ok jcl_SKF [.iconst 0, .iadd, .istore 4, .iinc 5 1, .goto (-65)] (by decide +kernel) (ls' := [(0, jR 74), (1, jI v1), (2, jI v2), (3, jI v3), (4, jI (jW (v4 + 0))), (5, jI (jW (v5 + 1)))]) (st' := []) rfl (p1 := 6) rfl ?_
          exact ih v1 v2 v3 (jW (v4 + 0)) (jW (v5 + 1)) m _ hf hq
        · refine B_blk B jlkX10_ok jcl_SKF [.iconst 1, .goto 4, .iadd, .istore 4, .iinc 5 1, .goto (-65)] (by decide +kernel) (ls' := [(0, jR 74), (1, jI v1), (2, jI v2), (3, jI v3), (4, jI (jW (v4 + 1))), (5, jI (jW (v5 + 1)))]) (st' := []) rfl (p1 := 6) rfl ?_
          exact ih v1 v2 v3 (jW (v4 + 1)) (jW (v5 + 1)) m _ hf hq
      · refine B_blk B jlkX10_ok jcl_SKF [.iconst 0, .iadd, .istore 4, .iinc 5 1, .goto (-65)] (by decide +kernel) (ls' := [(0, jR 74), (1, jI v1), (2, jI v2), (3, jI v3), (4, jI (jW (v4 + 0))), (5, jI (jW (v5 + 1)))]) (st' := []) rfl (p1 := 6) rfl ?_
        exact ih v1 v2 v3 (jW (v4 + 0)) (jW (v5 + 1)) m _ hf hq
theorem t_X10_found {l : Launch} {G : jG} (hl : l.stackTraces = false) {a0 : Int} {a1 : Int} {a2 : Int} {m : jMu} {r : Int} (hf : f_X10_found a0 a1 a2 m = some r) : jCt l G yX10_found (.code yX10_found cX10_found 6 (some .int) :: jWG) rm_X10_found [jR 74, jI a0, jI a1, jI a2] SKF m (.inl (some (jI r))) SKF m := by
  unfold f_X10_found at hf
  refine J_start (ls0 := [(0, jR 74), (1, jI a0), (2, jI a1), (3, jI a2)]) (by decide +kernel) hl (Nat.le_of_ble_eq_true rfl) rfl fun X C hN hn hR hr hnm hno hq => ?_
  have B : jB X cX10_found RX10 6 SKF.length rm_X10_found (some .int) := ⟨C, hN, Nat.le_of_eq hn, hR, hr⟩
  refine B_blk B jlkX10_ok jcl_SKF [.iconst 0, .istore 4, .iconst 0, .istore 5] (by decide +kernel) (ls' := [(0, jR 74), (1, jI a0), (2, jI a1), (3, jI a2), (4, jI 0), (5, jI 0)]) (st' := []) rfl (p1 := 6) rfl ?_
  exact t_X10_found_L6 B jFU a0 a1 a2 0 0 m _ hf hq

def rm_X10_finds : Room := { frames := 6, cells := 0, slots := 0, locals := 111 }
def f_X10_finds (a0 : Int) (a1 : Int) (a2 : Int) (m : jMu) : Option (Int × jMu) :=
  (f_X10_isBay a0 m).bind fun r1 => (if r1 = 0 then (jlt (jup m 74 0 1) fun m2 => (if m2 74 0 ≤ 0 then (f_X10_found a0 a1 a2 m2).bind fun r3 => some (r3, m2) else some (0, m2))) else (f_X10_isDay a1).bind fun r4 => (if r4 = 0 then (jlt (jup m 74 0 1) fun m5 => (if m5 74 0 ≤ 0 then (f_X10_found a0 a1 a2 m5).bind fun r6 => some (r6, m5) else some (0, m5))) else (f_X10_isDay a2).bind fun r7 => (if r7 = 0 then (jlt (jup m 74 0 1) fun m8 => (if m8 74 0 ≤ 0 then (f_X10_found a0 a1 a2 m8).bind fun r9 => some (r9, m8) else some (0, m8))) else (if a1 ≤ a2 then (jlt (jup m 74 0 0) fun m10 => (if m10 74 0 ≤ 0 then (f_X10_found a0 a1 a2 m10).bind fun r11 => some (r11, m10) else some (0, m10))) else (jlt (jup m 74 0 2) fun m12 => (if m12 74 0 ≤ 0 then (f_X10_found a0 a1 a2 m12).bind fun r13 => some (r13, m12) else some (0, m12)))))))
theorem t_X10_finds {l : Launch} {G : jG} (hl : l.stackTraces = false) {a0 : Int} {a1 : Int} {a2 : Int} {m : jMu} {r : (Int × jMu)} (hf : f_X10_finds a0 a1 a2 m = some r) : jCt l G yX10_finds (.code yX10_finds cX10_finds 4 (some .int) :: jWG) rm_X10_finds [jR 74, jI a0, jI a1, jI a2] SKF m (.inl (some (jI r.1))) SKF r.2 := by
  unfold f_X10_finds at hf
  refine J_start (ls0 := [(0, jR 74), (1, jI a0), (2, jI a1), (3, jI a2)]) (by decide +kernel) hl (Nat.le_of_ble_eq_true rfl) rfl fun X C hN hn hR hr hnm hno hq => ?_
  have B : jB X cX10_finds RX10 4 SKF.length rm_X10_finds (some .int) := ⟨C, hN, Nat.le_of_eq hn, hR, hr⟩
  refine B_blk B jlkX10_ok jcl_SKF [.aload_n 0, .aload_n 0, .iload_n 1] (by decide +kernel) (ls' := [(0, jR 74), (1, jI a0), (2, jI a1), (3, jI a2)]) (st' := [jI a0, jR 74, jR 74]) rfl (p1 := 3) rfl ?_
  obtain ⟨r1, h1, hf⟩ := jbd hf
  refine B_callV B (Nat.le_refl _) (μ' := m) (k' := 0) (n' := 0) ca_X10_isBay in_X10_isBay se_X10_isBay lk_X10_206 (t_X10_isBay B.tr h1) (Nat.le_refl _) rfl rfl rfl (rest := [jR 74]) rfl rfl (Nat.le_of_ble_eq_true rfl) (by decide +kernel) rfl rfl (st' := [jI r1, jR 74]) rfl ?_
  refine J_if_eq B.1 (off := 17) (tgt := 23) (by decide +kernel) (by decide) hf (fun hf => ?_) (fun hf => ?_)
  · refine B_blk B jlkX10_ok jcl_SKF [.iconst 1, .goto 13] (by decide +kernel) (ls' := [(0, jR 74), (1, jI a0), (2, jI a1), (3, jI a2)]) (st' := [jI 1, jR 74]) rfl (p1 := 37) rfl ?_
    refine K_putI (jI' := 0) B jp_X10_51 rfl rfl rfl (by decide +kernel) ?_
    obtain ⟨m2, hm2, hf⟩ := jlt_s hf
    rw [hm2]
    refine B_blk B jlkX10_ok jcl_SKF [.aload_n 0, .getfield 51] (by decide +kernel) (ls' := [(0, jR 74), (1, jI a0), (2, jI a1), (3, jI a2)]) (st' := [jI (m2 74 0)]) rfl (p1 := 44) rfl ?_
    refine J_if_le B.1 (off := 5) (tgt := 49) (by decide +kernel) (by decide) hf (fun hf => ?_) (fun hf => ?_)
    · refine B_blk B jlkX10_ok jcl_SKF [.aload_n 0, .iload_n 1, .iload_n 2, .iload_n 3] (by decide +kernel) (ls' := [(0, jR 74), (1, jI a0), (2, jI a1), (3, jI a2)]) (st' := [jI a2, jI a1, jI a0, jR 74]) rfl (p1 := 53) rfl ?_
      obtain ⟨r3, h3, hf⟩ := jbd hf
      refine B_callV B (Nat.le_refl _) (μ' := m2) (k' := 0) (n' := 0) ca_X10_found in_X10_found se_X10_found lk_X10_296 (t_X10_found B.tr h3) (Nat.le_refl _) rfl rfl rfl (rest := []) rfl rfl (Nat.le_of_ble_eq_true rfl) (by decide +kernel) rfl rfl (st' := [jI r3]) rfl ?_
      cases hf
      exact B_retI B hq rfl (Nat.le_of_ble_eq_true rfl) (Nat.le_of_ble_eq_true rfl) (by decide +kernel)
    · refine B_blk B jlkX10_ok jcl_SKF [.iconst 0] (by decide +kernel) (ls' := [(0, jR 74), (1, jI a0), (2, jI a1), (3, jI a2)]) (st' := [jI 0]) rfl (p1 := 48) rfl ?_
      cases hf
      exact B_retI B hq rfl (Nat.le_of_ble_eq_true rfl) (Nat.le_of_ble_eq_true rfl) (by decide +kernel)
  · refine B_blk B jlkX10_ok jcl_SKF [.iload_n 2] (by decide +kernel) (ls' := [(0, jR 74), (1, jI a0), (2, jI a1), (3, jI a2)]) (st' := [jI a1, jR 74]) rfl (p1 := 10) rfl ?_
    obtain ⟨r4, h4, hf⟩ := jbd hf
    refine B_callS B (Nat.le_refl _) (μ' := m) (k' := 0) (n' := 0) ca_X10_isDay sa_X10_isDay lk_X10_209 (t_X10_isDay B.tr jcl_SKF h4) (Nat.le_refl _) rfl (rest := [jR 74]) rfl rfl (Nat.le_of_ble_eq_true rfl) (by decide +kernel) rfl rfl (st' := [jI r4, jR 74]) rfl ?_
    refine J_if_eq B.1 (off := 10) (tgt := 23) (by decide +kernel) (by decide) hf (fun hf => ?_) (fun hf => ?_)
    · refine B_blk B jlkX10_ok jcl_SKF [.iconst 1, .goto 13] (by decide +kernel) (ls' := [(0, jR 74), (1, jI a0), (2, jI a1), (3, jI a2)]) (st' := [jI 1, jR 74]) rfl (p1 := 37) rfl ?_
      refine K_putI (jI' := 0) B jp_X10_51 rfl rfl rfl (by decide +kernel) ?_
      obtain ⟨m5, hm5, hf⟩ := jlt_s hf
      rw [hm5]
      refine B_blk B jlkX10_ok jcl_SKF [.aload_n 0, .getfield 51] (by decide +kernel) (ls' := [(0, jR 74), (1, jI a0), (2, jI a1), (3, jI a2)]) (st' := [jI (m5 74 0)]) rfl (p1 := 44) rfl ?_
      refine J_if_le B.1 (off := 5) (tgt := 49) (by decide +kernel) (by decide) hf (fun hf => ?_) (fun hf => ?_)
      · refine B_blk B jlkX10_ok jcl_SKF [.aload_n 0, .iload_n 1, .iload_n 2, .iload_n 3] (by decide +kernel) (ls' := [(0, jR 74), (1, jI a0), (2, jI a1), (3, jI a2)]) (st' := [jI a2, jI a1, jI a0, jR 74]) rfl (p1 := 53) rfl ?_
        obtain ⟨r6, h6, hf⟩ := jbd hf
        refine B_callV B (Nat.le_refl _) (μ' := m5) (k' := 0) (n' := 0) ca_X10_found in_X10_found se_X10_found lk_X10_296 (t_X10_found B.tr h6) (Nat.le_refl _) rfl rfl rfl (rest := []) rfl rfl (Nat.le_of_ble_eq_true rfl) (by decide +kernel) rfl rfl (st' := [jI r6]) rfl ?_
        cases hf
        exact B_retI B hq rfl (Nat.le_of_ble_eq_true rfl) (Nat.le_of_ble_eq_true rfl) (by decide +kernel)
      · refine B_blk B jlkX10_ok jcl_SKF [.iconst 0] (by decide +kernel) (ls' := [(0, jR 74), (1, jI a0), (2, jI a1), (3, jI a2)]) (st' := [jI 0]) rfl (p1 := 48) rfl ?_
        cases hf
        exact B_retI B hq rfl (Nat.le_of_ble_eq_true rfl) (Nat.le_of_ble_eq_true rfl) (by decide +kernel)
    · refine B_blk B jlkX10_ok jcl_SKF [.iload_n 3] (by decide +kernel) (ls' := [(0, jR 74), (1, jI a0), (2, jI a1), (3, jI a2)]) (st' := [jI a2, jR 74]) rfl (p1 := 17) rfl ?_
      obtain ⟨r7, h7, hf⟩ := jbd hf
      refine B_callS B (Nat.le_refl _) (μ' := m) (k' := 0) (n' := 0) ca_X10_isDay sa_X10_isDay lk_X10_209 (t_X10_isDay B.tr jcl_SKF h7) (Nat.le_refl _) rfl (rest := [jR 74]) rfl rfl (Nat.le_of_ble_eq_true rfl) (by decide +kernel) rfl rfl (st' := [jI r7, jR 74]) rfl ?_
      refine J_if_ne B.1 (off := 7) (tgt := 27) (by decide +kernel) (by decide) hf (fun hf => ?_) (fun hf => ?_)
      · refine B_blk B jlkX10_ok jcl_SKF [.iconst 1, .goto 13] (by decide +kernel) (ls' := [(0, jR 74), (1, jI a0), (2, jI a1), (3, jI a2)]) (st' := [jI 1, jR 74]) rfl (p1 := 37) rfl ?_
        refine K_putI (jI' := 0) B jp_X10_51 rfl rfl rfl (by decide +kernel) ?_
        obtain ⟨m8, hm8, hf⟩ := jlt_s hf
        rw [hm8]
        refine B_blk B jlkX10_ok jcl_SKF [.aload_n 0, .getfield 51] (by decide +kernel) (ls' := [(0, jR 74), (1, jI a0), (2, jI a1), (3, jI a2)]) (st' := [jI (m8 74 0)]) rfl (p1 := 44) rfl ?_
        refine J_if_le B.1 (off := 5) (tgt := 49) (by decide +kernel) (by decide) hf (fun hf => ?_) (fun hf => ?_)
        · refine B_blk B jlkX10_ok jcl_SKF [.aload_n 0, .iload_n 1, .iload_n 2, .iload_n 3] (by decide +kernel) (ls' := [(0, jR 74), (1, jI a0), (2, jI a1), (3, jI a2)]) (st' := [jI a2, jI a1, jI a0, jR 74]) rfl (p1 := 53) rfl ?_
          obtain ⟨r9, h9, hf⟩ := jbd hf
          refine B_callV B (Nat.le_refl _) (μ' := m8) (k' := 0) (n' := 0) ca_X10_found in_X10_found se_X10_found lk_X10_296 (t_X10_found B.tr h9) (Nat.le_refl _) rfl rfl rfl (rest := []) rfl rfl (Nat.le_of_ble_eq_true rfl) (by decide +kernel) rfl rfl (st' := [jI r9]) rfl ?_
          cases hf
          exact B_retI B hq rfl (Nat.le_of_ble_eq_true rfl) (Nat.le_of_ble_eq_true rfl) (by decide +kernel)
        · refine B_blk B jlkX10_ok jcl_SKF [.iconst 0] (by decide +kernel) (ls' := [(0, jR 74), (1, jI a0), (2, jI a1), (3, jI a2)]) (st' := [jI 0]) rfl (p1 := 48) rfl ?_
          cases hf
          exact B_retI B hq rfl (Nat.le_of_ble_eq_true rfl) (Nat.le_of_ble_eq_true rfl) (by decide +kernel)
      · refine B_blk B jlkX10_ok jcl_SKF [.iload_n 3, .iload_n 2] (by decide +kernel) (ls' := [(0, jR 74), (1, jI a0), (2, jI a1), (3, jI a2)]) (st' := [jI a1, jI a2, jR 74]) rfl (p1 := 29) rfl ?_
        refine J_icmp_ge B.1 (off := 7) (tgt := 36) (by decide +kernel) (by decide) hf (fun hf => ?_) (fun hf => ?_)
        · refine B_blk B jlkX10_ok jcl_SKF [.iconst 0] (by decide +kernel) (ls' := [(0, jR 74), (1, jI a0), (2, jI a1), (3, jI a2)]) (st' := [jI 0, jR 74]) rfl (p1 := 37) rfl ?_
          refine K_putI (jI' := 0) B jp_X10_51 rfl rfl rfl (by decide +kernel) ?_
          obtain ⟨m10, hm10, hf⟩ := jlt_s hf
          rw [hm10]
          refine B_blk B jlkX10_ok jcl_SKF [.aload_n 0, .getfield 51] (by decide +kernel) (ls' := [(0, jR 74), (1, jI a0), (2, jI a1), (3, jI a2)]) (st' := [jI (m10 74 0)]) rfl (p1 := 44) rfl ?_
          refine J_if_le B.1 (off := 5) (tgt := 49) (by decide +kernel) (by decide) hf (fun hf => ?_) (fun hf => ?_)
          · refine B_blk B jlkX10_ok jcl_SKF [.aload_n 0, .iload_n 1, .iload_n 2, .iload_n 3] (by decide +kernel) (ls' := [(0, jR 74), (1, jI a0), (2, jI a1), (3, jI a2)]) (st' := [jI a2, jI a1, jI a0, jR 74]) rfl (p1 := 53) rfl ?_
            obtain ⟨r11, h11, hf⟩ := jbd hf
            refine B_callV B (Nat.le_refl _) (μ' := m10) (k' := 0) (n' := 0) ca_X10_found in_X10_found se_X10_found lk_X10_296 (t_X10_found B.tr h11) (Nat.le_refl _) rfl rfl rfl (rest := []) rfl rfl (Nat.le_of_ble_eq_true rfl) (by decide +kernel) rfl rfl (st' := [jI r11]) rfl ?_
            cases hf
            exact B_retI B hq rfl (Nat.le_of_ble_eq_true rfl) (Nat.le_of_ble_eq_true rfl) (by decide +kernel)
          · refine B_blk B jlkX10_ok jcl_SKF [.iconst 0] (by decide +kernel) (ls' := [(0, jR 74), (1, jI a0), (2, jI a1), (3, jI a2)]) (st' := [jI 0]) rfl (p1 := 48) rfl ?_
            cases hf
            exact B_retI B hq rfl (Nat.le_of_ble_eq_true rfl) (Nat.le_of_ble_eq_true rfl) (by decide +kernel)
        · refine B_blk B jlkX10_ok jcl_SKF [.iconst 2, .goto 4] (by decide +kernel) (ls' := [(0, jR 74), (1, jI a0), (2, jI a1), (3, jI a2)]) (st' := [jI 2, jR 74]) rfl (p1 := 37) rfl ?_
          refine K_putI (jI' := 0) B jp_X10_51 rfl rfl rfl (by decide +kernel) ?_
          obtain ⟨m12, hm12, hf⟩ := jlt_s hf
          rw [hm12]
          refine B_blk B jlkX10_ok jcl_SKF [.aload_n 0, .getfield 51] (by decide +kernel) (ls' := [(0, jR 74), (1, jI a0), (2, jI a1), (3, jI a2)]) (st' := [jI (m12 74 0)]) rfl (p1 := 44) rfl ?_
          refine J_if_le B.1 (off := 5) (tgt := 49) (by decide +kernel) (by decide) hf (fun hf => ?_) (fun hf => ?_)
          · refine B_blk B jlkX10_ok jcl_SKF [.aload_n 0, .iload_n 1, .iload_n 2, .iload_n 3] (by decide +kernel) (ls' := [(0, jR 74), (1, jI a0), (2, jI a1), (3, jI a2)]) (st' := [jI a2, jI a1, jI a0, jR 74]) rfl (p1 := 53) rfl ?_
            obtain ⟨r13, h13, hf⟩ := jbd hf
            refine B_callV B (Nat.le_refl _) (μ' := m12) (k' := 0) (n' := 0) ca_X10_found in_X10_found se_X10_found lk_X10_296 (t_X10_found B.tr h13) (Nat.le_refl _) rfl rfl rfl (rest := []) rfl rfl (Nat.le_of_ble_eq_true rfl) (by decide +kernel) rfl rfl (st' := [jI r13]) rfl ?_
            cases hf
            exact B_retI B hq rfl (Nat.le_of_ble_eq_true rfl) (Nat.le_of_ble_eq_true rfl) (by decide +kernel)
          · refine B_blk B jlkX10_ok jcl_SKF [.iconst 0] (by decide +kernel) (ls' := [(0, jR 74), (1, jI a0), (2, jI a1), (3, jI a2)]) (st' := [jI 0]) rfl (p1 := 48) rfl ?_
            cases hf
            exact B_retI B hq rfl (Nat.le_of_ble_eq_true rfl) (Nat.le_of_ble_eq_true rfl) (by decide +kernel)
