/-! printed walks -/
def rm_X3_step : Room := { frames := 2, cells := 0, slots := 0, locals := 64 }
def f_X3_step (m : jMu) : Option jMu :=
  (if m 62 8 < 0 then some m else (if m 62 5 ≤ m 62 8 then some m else (if 401 ≤ m 62 8 then some m else (if 401 ≤ m 62 8 then some m else (if 0 ≤ m 62 8 ∧ m 62 8 < 401 then (jlt (jup m 62 9 (m 63 (m 62 8))) fun m1 => (if 0 ≤ m1 62 8 ∧ m1 62 8 < 401 then (jlt (jup m1 62 10 (m1 64 (m1 62 8))) fun m2 => (jlt (jup m2 62 8 (jW (m2 62 8 + 1))) fun m3 => some m3)) else none)) else none)))))
theorem t_X3_step {l : Launch} {G : jG} (hl : l.stackTraces = false) {m : jMu} {r : jMu} (hf : f_X3_step m = some r) : jCt l G yX3_step (.code yX3_step cX3_step 1 none :: jWG) rm_X3_step [jR 62] SKF m (.inl none) SKF r := by
  unfold f_X3_step at hf
  refine J_start (ls0 := [(0, jR 62)]) (by decide +kernel) hl (Nat.le_of_ble_eq_true rfl) rfl fun X C hN hn hR hr hnm hno hq => ?_
  have B : jB X cX3_step RX3 1 SKF.length rm_X3_step none := ⟨C, hN, Nat.le_of_eq hn, hR, hr⟩
  refine B_blk B jlkX3_ok jcl_SKF [.aload_n 0, .getfield 34] (by decide +kernel) (ls' := [(0, jR 62)]) (st' := [jI (m 62 8)]) rfl (p1 := 4) rfl ?_
  refine J_if_lt B.1 (off := 74) (tgt := 78) (by decide +kernel) (by decide) hf (fun hf => ?_) (fun hf => ?_)
  · cases hf
    exact B_retV B hq rfl (Nat.le_of_ble_eq_true rfl) (Nat.le_of_ble_eq_true rfl) (by decide +kernel)
  · refine B_blk B jlkX3_ok jcl_SKF [.aload_n 0, .getfield 34, .aload_n 0, .getfield 53] (by decide +kernel) (ls' := [(0, jR 62)]) (st' := [jI (m 62 5), jI (m 62 8)]) rfl (p1 := 15) rfl ?_
    refine J_icmp_ge B.1 (off := 63) (tgt := 78) (by decide +kernel) (by decide) hf (fun hf => ?_) (fun hf => ?_)
    · cases hf
      exact B_retV B hq rfl (Nat.le_of_ble_eq_true rfl) (Nat.le_of_ble_eq_true rfl) (by decide +kernel)
    · refine B_blk B jlkX3_ok jcl_SKF [.aload_n 0, .getfield 34, .aload_n 0, .getfield 21, .arraylength] (by decide +kernel) (ls' := [(0, jR 62)]) (st' := [jI 401, jI (m 62 8)]) rfl (p1 := 27) rfl ?_
      refine J_icmp_ge B.1 (off := 51) (tgt := 78) (by decide +kernel) (by decide) hf (fun hf => ?_) (fun hf => ?_)
      · cases hf
        exact B_retV B hq rfl (Nat.le_of_ble_eq_true rfl) (Nat.le_of_ble_eq_true rfl) (by decide +kernel)
      · refine B_blk B jlkX3_ok jcl_SKF [.aload_n 0, .getfield 34, .aload_n 0, .getfield 25, .arraylength] (by decide +kernel) (ls' := [(0, jR 62)]) (st' := [jI 401, jI (m 62 8)]) rfl (p1 := 39) rfl ?_
        refine J_icmp_ge B.1 (off := 39) (tgt := 78) (by decide +kernel) (by decide) hf (fun hf => ?_) (fun hf => ?_)
        · cases hf
          exact B_retV B hq rfl (Nat.le_of_ble_eq_true rfl) (Nat.le_of_ble_eq_true rfl) (by decide +kernel)
        · refine B_blk B jlkX3_ok jcl_SKF [.aload_n 0, .aload_n 0, .getfield 21, .aload_n 0, .getfield 34] (by decide +kernel) (ls' := [(0, jR 62)]) (st' := [jI (m 62 8), jR 63, jR 62]) rfl (p1 := 51) rfl ?_
          obtain ⟨g5, hf⟩ := jgd hf
          refine K_iald (lenI := 401) B rfl rfl g5 (by decide +kernel) ?_
          refine K_putI (jI' := 9) B jp_X3_41 rfl rfl rfl (by decide +kernel) ?_
          obtain ⟨m1, hm1, hf⟩ := jlt_s hf
          rw [hm1]
          refine B_blk B jlkX3_ok jcl_SKF [.aload_n 0, .aload_n 0, .getfield 25, .aload_n 0, .getfield 34] (by decide +kernel) (ls' := [(0, jR 62)]) (st' := [jI (m1 62 8), jR 64, jR 62]) rfl (p1 := 64) rfl ?_
          obtain ⟨g4, hf⟩ := jgd hf
          refine K_iald (lenI := 401) B rfl rfl g4 (by decide +kernel) ?_
          refine K_putI (jI' := 10) B jp_X3_50 rfl rfl rfl (by decide +kernel) ?_
          obtain ⟨m2, hm2, hf⟩ := jlt_s hf
          rw [hm2]
          refine B_blk B jlkX3_ok jcl_SKF [.aload_n 0, .dup, .getfield 34, .iconst 1, .iadd] (by decide +kernel) (ls' := [(0, jR 62)]) (st' := [jI (jW (m2 62 8 + 1)), jR 62]) rfl (p1 := 75) rfl ?_
          refine K_putI (jI' := 8) B jp_X3_34 rfl rfl rfl (by decide +kernel) ?_
          obtain ⟨m3, hm3, hf⟩ := jlt_s hf
          rw [hm3]
          cases hf
          exact B_retV B hq rfl (Nat.le_of_ble_eq_true rfl) (Nat.le_of_ble_eq_true rfl) (by decide +kernel)

def rm_X3_lastWaiting : Room := { frames := 2, cells := 0, slots := 0, locals := 64 }
def f_X3_lastWaiting (m : jMu) : Option Int :=
  (if jW (m 62 6 - 1) < 0 then some (-1) else (if 21 ≤ jW (m 62 6 - 1) then some (-1) else (if 0 ≤ jW (m 62 6 - 1) ∧ jW (m 62 6 - 1) < 21 then some (m 65 (jW (m 62 6 - 1))) else none)))
theorem t_X3_lastWaiting {l : Launch} {G : jG} (hl : l.stackTraces = false) {m : jMu} {r : Int} (hf : f_X3_lastWaiting m = some r) : jCt l G yX3_lastWaiting (.code yX3_lastWaiting cX3_lastWaiting 2 (some .int) :: jWG) rm_X3_lastWaiting [jR 62] SKF m (.inl (some (jI r))) SKF m := by
  unfold f_X3_lastWaiting at hf
  refine J_start (ls0 := [(0, jR 62)]) (by decide +kernel) hl (Nat.le_of_ble_eq_true rfl) rfl fun X C hN hn hR hr hnm hno hq => ?_
  have B : jB X cX3_lastWaiting RX3 2 SKF.length rm_X3_lastWaiting (some .int) := ⟨C, hN, Nat.le_of_eq hn, hR, hr⟩
  refine B_blk B jlkX3_ok jcl_SKF [.aload_n 0, .getfield 136, .iconst 1, .isub, .istore_n 1, .iload_n 1] (by decide +kernel) (ls' := [(0, jR 62), (1, jI (jW (m 62 6 - 1)))]) (st' := [jI (jW (m 62 6 - 1))]) rfl (p1 := 8) rfl ?_
  refine J_if_lt B.1 (off := 21) (tgt := 29) (by decide +kernel) (by decide) hf (fun hf => ?_) (fun hf => ?_)
  · refine B_blk B jlkX3_ok jcl_SKF [.iconst (-1)] (by decide +kernel) (ls' := [(0, jR 62), (1, jI (jW (m 62 6 - 1)))]) (st' := [jI (-1)]) rfl (p1 := 30) rfl ?_
    cases hf
    exact B_retI B hq rfl (Nat.le_of_ble_eq_true rfl) (Nat.le_of_ble_eq_true rfl) (by decide +kernel)
  · refine B_blk B jlkX3_ok jcl_SKF [.iload_n 1, .aload_n 0, .getfield 28, .arraylength] (by decide +kernel) (ls' := [(0, jR 62), (1, jI (jW (m 62 6 - 1)))]) (st' := [jI 21, jI (jW (m 62 6 - 1))]) rfl (p1 := 17) rfl ?_
    refine J_icmp_ge B.1 (off := 12) (tgt := 29) (by decide +kernel) (by decide) hf (fun hf => ?_) (fun hf => ?_)
    · refine B_blk B jlkX3_ok jcl_SKF [.iconst (-1)] (by decide +kernel) (ls' := [(0, jR 62), (1, jI (jW (m 62 6 - 1)))]) (st' := [jI (-1)]) rfl (p1 := 30) rfl ?_
      cases hf
      exact B_retI B hq rfl (Nat.le_of_ble_eq_true rfl) (Nat.le_of_ble_eq_true rfl) (by decide +kernel)
    · refine B_blk B jlkX3_ok jcl_SKF [.aload_n 0, .getfield 28, .iload_n 1] (by decide +kernel) (ls' := [(0, jR 62), (1, jI (jW (m 62 6 - 1)))]) (st' := [jI (jW (m 62 6 - 1)), jR 65]) rfl (p1 := 25) rfl ?_
      obtain ⟨g1, hf⟩ := jgd hf
      refine K_iald (lenI := 21) B rfl rfl g1 (by decide +kernel) ?_
      refine B_blk B jlkX3_ok jcl_SKF [.goto 4] (by decide +kernel) (ls' := [(0, jR 62), (1, jI (jW (m 62 6 - 1)))]) (st' := [jI (m 65 (jW (m 62 6 - 1)))]) rfl (p1 := 30) rfl ?_
      cases hf
      exact B_retI B hq rfl (Nat.le_of_ble_eq_true rfl) (Nat.le_of_ble_eq_true rfl) (by decide +kernel)

def rm_X3_write : Room := { frames := 4, cells := 0, slots := 0, locals := 88 }
def f_X3_write (a0 : Int) (m : jMu) : Option jMu :=
  (f_X5_addRow 18 19 1600 m).bind fun r1 => (f_X5_set 18 19 1600 r1.1 0 a0 r1.2).bind fun r2 => some r2
theorem t_X3_write {l : Launch} {G : jG} (hl : l.stackTraces = false) {a0 : Int} {m : jMu} {r : jMu} (hf : f_X3_write a0 m = some r) : jCt l G yX3_write (.code yX3_write cX3_write 2 none :: jWG) rm_X3_write [jR 62, jI a0] SKF m (.inl none) SKF r := by
  unfold f_X3_write at hf
  refine J_start (ls0 := [(0, jR 62), (1, jI a0)]) (by decide +kernel) hl (Nat.le_of_ble_eq_true rfl) rfl fun X C hN hn hR hr hnm hno hq => ?_
  have B : jB X cX3_write RX3 2 SKF.length rm_X3_write none := ⟨C, hN, Nat.le_of_eq hn, hR, hr⟩
  refine B_blk B jlkX3_ok jcl_SKF [.aload_n 0, .getfield 15, .getfield 112, .aload_n 0, .getfield 15, .getfield 112] (by decide +kernel) (ls' := [(0, jR 62), (1, jI a0)]) (st' := [jR 18, jR 18]) rfl (p1 := 14) rfl ?_
  obtain ⟨r1, h1, hf⟩ := jbd hf
  refine B_callV B (Nat.le_refl _) (μ' := r1.2) (k' := 0) (n' := 0) ca_X5_addRow in_X5_addRow se_X5_addRow lk_X3_129 (t_X5_addRow B.tr jcl_SKF ⟨rfl, rfl, by decide⟩ h1) (Nat.le_refl _) rfl rfl rfl (rest := [jR 18]) rfl rfl (Nat.le_of_ble_eq_true rfl) (by decide +kernel) rfl rfl (st' := [jI r1.1, jR 18]) rfl ?_
  refine B_blk B jlkX3_ok jcl_SKF [.iconst 0, .iload_n 1] (by decide +kernel) (ls' := [(0, jR 62), (1, jI a0)]) (st' := [jI a0, jI 0, jI r1.1, jR 18]) rfl (p1 := 19) rfl ?_
  obtain ⟨r2, h2, hf⟩ := jbd hf
  refine B_callV B (Nat.le_refl _) (μ' := r2) (k' := 0) (n' := 0) ca_X5_set in_X5_set se_X5_set lk_X3_132 (t_X5_set B.tr jcl_SKF ⟨rfl, rfl, by decide⟩ h2) (Nat.le_refl _) rfl rfl rfl (rest := []) rfl rfl (Nat.le_of_ble_eq_true rfl) (by decide +kernel) rfl rfl (st' := []) rfl ?_
  cases hf
  exact B_retV B hq rfl (Nat.le_of_ble_eq_true rfl) (Nat.le_of_ble_eq_true rfl) (by decide +kernel)

def rm_X3_writeWaiting : Room := { frames := 6, cells := 0, slots := 0, locals := 109 }
def f_X3_writeWaiting_L2 : Nat → Int → Int → jMu → Option jMu
  | 0, _, _, _ => none
  | q + 1, v1, v2, m => (if 21 < v2 then some m else (f_X3_lastWaiting m).bind fun r1 => (if r1 = 106 then (f_X3_write r1 m).bind fun r2 => (jlt (jup r2 62 6 (jW (r2 62 6 - 1))) fun m3 => f_X3_writeWaiting_L2 q v1 (jW (v2 + 1)) m3) else (if r1 = 105 then (if v1 = 105 then (f_X3_write r1 m).bind fun r4 => (jlt (jup r4 62 6 (jW (r4 62 6 - 1))) fun m5 => f_X3_writeWaiting_L2 q v1 (jW (v2 + 1)) m5) else some m) else some m)))
def f_X3_writeWaiting (a0 : Int) (m : jMu) : Option jMu :=
  f_X3_writeWaiting_L2 jFU a0 0 m
theorem t_X3_writeWaiting_L2 {X : jX} (B : jB X cX3_writeWaiting RX3 4 SKF.length rm_X3_writeWaiting none) : ∀ (q : Nat) (v1 : Int) (v2 : Int) (m : jMu) (r : jMu), f_X3_writeWaiting_L2 q v1 v2 m = some r → jQ X (.inl none) SKF r rm_X3_writeWaiting.cells rm_X3_writeWaiting.slots → J X SKF m 0 0 2 [(0, jR 62), (1, jI v1), (2, jI v2)] [] := by
  intro q
  induction q with
  | zero =>
    intro v1 v2 m r hf
    rw [f_X3_writeWaiting_L2] at hf
    cases hf
  | succ q ih =>
    intro v1 v2 m r hf hq
    rw [f_X3_writeWaiting_L2] at hf
    refine B_blk B jlkX3_ok jcl_SKF [.iload_n 2, .bipush 21] (by decide +kernel) (ls' := [(0, jR 62), (1, jI v1), (2, jI v2)]) (st' := [jI 21, jI v2]) rfl (p1 := 5) rfl ?_
    refine J_icmp_gt B.1 (off := 48) (tgt := 53) (by decide +kernel) (by decide) hf (fun hf => ?_) (fun hf => ?_)
    · cases hf
      exact B_retV B hq rfl (Nat.le_of_ble_eq_true rfl) (Nat.le_of_ble_eq_true rfl) (by decide +kernel)
    · refine B_blk B jlkX3_ok jcl_SKF [.aload_n 0] (by decide +kernel) (ls' := [(0, jR 62), (1, jI v1), (2, jI v2)]) (st' := [jR 62]) rfl (p1 := 9) rfl ?_
      obtain ⟨r1, h1, hf⟩ := jbd hf
      refine B_callV B (Nat.le_refl _) (μ' := m) (k' := 0) (n' := 0) ca_X3_lastWaiting in_X3_lastWaiting se_X3_lastWaiting lk_X3_167 (t_X3_lastWaiting B.tr h1) (Nat.le_refl _) rfl rfl rfl (rest := []) rfl rfl (Nat.le_of_ble_eq_true rfl) (by decide +kernel) rfl rfl (st' := [jI r1]) rfl ?_
      refine B_blk B jlkX3_ok jcl_SKF [.istore_n 3, .iload_n 3, .bipush 106] (by decide +kernel) (ls' := [(0, jR 62), (1, jI v1), (2, jI v2), (3, jI r1)]) (st' := [jI 106, jI r1]) rfl (p1 := 16) rfl ?_
      refine J_icmp_eq B.1 (off := 16) (tgt := 32) (by decide +kernel) (by decide) hf (fun hf => ?_) (fun hf => ?_)
      · refine B_blk B jlkX3_ok jcl_SKF [.aload_n 0, .iload_n 3] (by decide +kernel) (ls' := [(0, jR 62), (1, jI v1), (2, jI v2), (3, jI r1)]) (st' := [jI r1, jR 62]) rfl (p1 := 34) rfl ?_
        obtain ⟨r2, h2, hf⟩ := jbd hf
        refine B_callV B (Nat.le_refl _) (μ' := r2) (k' := 0) (n' := 0) ca_X3_write in_X3_write se_X3_write lk_X3_158 (t_X3_write B.tr h2) (Nat.le_refl _) rfl rfl rfl (rest := []) rfl rfl (Nat.le_of_ble_eq_true rfl) (by decide +kernel) rfl rfl (st' := []) rfl ?_
        refine B_blk B jlkX3_ok jcl_SKF [.aload_n 0, .dup, .getfield 136, .iconst 1, .isub] (by decide +kernel) (ls' := [(0, jR 62), (1, jI v1), (2, jI v2), (3, jI r1)]) (st' := [jI (jW (r2 62 6 - 1)), jR 62]) rfl (p1 := 44) rfl ?_
        refine K_putI (jI' := 6) B jp_X3_136 rfl rfl rfl (by decide +kernel) ?_
        obtain ⟨m3, hm3, hf⟩ := jlt_s hf
        rw [hm3]
        refine B_blk B jlkX3_ok jcl_SKF [.iinc 2 1, .goto (-48)] (by decide +kernel) (ls' := [(0, jR 62), (1, jI v1), (2, jI (jW (v2 + 1))), (3, jI r1)]) (st' := []) rfl (p1 := 2) rfl ?_
        refine J_pick [0, 1, 2] (ls' := [(0, jR 62), (1, jI v1), (2, jI (jW (v2 + 1)))]) rfl ?_
        exact ih v1 (jW (v2 + 1)) m3 _ hf hq
      · refine B_blk B jlkX3_ok jcl_SKF [.iload_n 3, .bipush 105] (by decide +kernel) (ls' := [(0, jR 62), (1, jI v1), (2, jI v2), (3, jI r1)]) (st' := [jI 105, jI r1]) rfl (p1 := 22) rfl ?_
        refine J_icmp_ne B.1 (off := 9) (tgt := 31) (by decide +kernel) (by decide) hf (fun hf => ?_) (fun hf => ?_)
        · refine B_blk B jlkX3_ok jcl_SKF [.iload_n 1, .bipush 105] (by decide +kernel) (ls' := [(0, jR 62), (1, jI v1), (2, jI v2), (3, jI r1)]) (st' := [jI 105, jI v1]) rfl (p1 := 28) rfl ?_
          refine J_icmp_eq B.1 (off := 4) (tgt := 32) (by decide +kernel) (by decide) hf (fun hf => ?_) (fun hf => ?_)
          · refine B_blk B jlkX3_ok jcl_SKF [.aload_n 0, .iload_n 3] (by decide +kernel) (ls' := [(0, jR 62), (1, jI v1), (2, jI v2), (3, jI r1)]) (st' := [jI r1, jR 62]) rfl (p1 := 34) rfl ?_
            obtain ⟨r4, h4, hf⟩ := jbd hf
            refine B_callV B (Nat.le_refl _) (μ' := r4) (k' := 0) (n' := 0) ca_X3_write in_X3_write se_X3_write lk_X3_158 (t_X3_write B.tr h4) (Nat.le_refl _) rfl rfl rfl (rest := []) rfl rfl (Nat.le_of_ble_eq_true rfl) (by decide +kernel) rfl rfl (st' := []) rfl ?_
            refine B_blk B jlkX3_ok jcl_SKF [.aload_n 0, .dup, .getfield 136, .iconst 1, .isub] (by decide +kernel) (ls' := [(0, jR 62), (1, jI v1), (2, jI v2), (3, jI r1)]) (st' := [jI (jW (r4 62 6 - 1)), jR 62]) rfl (p1 := 44) rfl ?_
            refine K_putI (jI' := 6) B jp_X3_136 rfl rfl rfl (by decide +kernel) ?_
            obtain ⟨m5, hm5, hf⟩ := jlt_s hf
            rw [hm5]
            refine B_blk B jlkX3_ok jcl_SKF [.iinc 2 1, .goto (-48)] (by decide +kernel) (ls' := [(0, jR 62), (1, jI v1), (2, jI (jW (v2 + 1))), (3, jI r1)]) (st' := []) rfl (p1 := 2) rfl ?_
            refine J_pick [0, 1, 2] (ls' := [(0, jR 62), (1, jI v1), (2, jI (jW (v2 + 1)))]) rfl ?_
            exact ih v1 (jW (v2 + 1)) m5 _ hf hq
          · cases hf
            exact B_retV B hq rfl (Nat.le_of_ble_eq_true rfl) (Nat.le_of_ble_eq_true rfl) (by decide +kernel)
        · cases hf
          exact B_retV B hq rfl (Nat.le_of_ble_eq_true rfl) (Nat.le_of_ble_eq_true rfl) (by decide +kernel)
theorem t_X3_writeWaiting {l : Launch} {G : jG} (hl : l.stackTraces = false) {a0 : Int} {m : jMu} {r : jMu} (hf : f_X3_writeWaiting a0 m = some r) : jCt l G yX3_writeWaiting (.code yX3_writeWaiting cX3_writeWaiting 4 none :: jWG) rm_X3_writeWaiting [jR 62, jI a0] SKF m (.inl none) SKF r := by
  unfold f_X3_writeWaiting at hf
  refine J_start (ls0 := [(0, jR 62), (1, jI a0)]) (by decide +kernel) hl (Nat.le_of_ble_eq_true rfl) rfl fun X C hN hn hR hr hnm hno hq => ?_
  have B : jB X cX3_writeWaiting RX3 4 SKF.length rm_X3_writeWaiting none := ⟨C, hN, Nat.le_of_eq hn, hR, hr⟩
  refine B_blk B jlkX3_ok jcl_SKF [.iconst 0, .istore_n 2] (by decide +kernel) (ls' := [(0, jR 62), (1, jI a0), (2, jI 0)]) (st' := []) rfl (p1 := 2) rfl ?_
  exact t_X3_writeWaiting_L2 B jFU a0 0 m _ hf hq

def rm_X7_isTag : Room := { frames := 2, cells := 0, slots := 0, locals := 64 }
def f_X7_isTag (a0 : Int) : Option Int :=
  (if a0 < 108 then some 0 else (if 110 < a0 then some 0 else some 1))
theorem t_X7_isTag {l : Launch} {G : jG} (hl : l.stackTraces = false) {S : List jSh} (hcl : jcl S) {a0 : Int} {μ : jMu} {r : Int} (hf : f_X7_isTag a0 = some r) : jCt l G yX7_isTag (.code yX7_isTag cX7_isTag 1 (some .boolean) :: jWG) rm_X7_isTag [jI a0] S μ (.inl (some (jI r))) S μ := by
  unfold f_X7_isTag at hf
  refine J_start (ls0 := [(0, jI a0)]) (by decide +kernel) hl (Nat.le_of_ble_eq_true rfl) rfl fun X C hN hn hR hr hnm hno hq => ?_
  have B : jB X cX7_isTag RX7 1 S.length rm_X7_isTag (some .boolean) := ⟨C, hN, Nat.le_of_eq hn, hR, hr⟩
  refine B_blk B (jlkn_ok RX7) hcl [.iload_n 0, .bipush 108] (by decide +kernel) (ls' := [(0, jI a0)]) (st' := [jI 108, jI a0]) rfl (p1 := 3) rfl ?_
  refine J_icmp_lt B.1 (off := 13) (tgt := 16) (by decide +kernel) (by decide) hf (fun hf => ?_) (fun hf => ?_)
  · refine B_blk B (jlkn_ok RX7) hcl [.iconst 0] (by decide +kernel) (ls' := [(0, jI a0)]) (st' := [jI 0]) rfl (p1 := 17) rfl ?_
    cases hf
    exact B_retZ B (Or.inl rfl) hq rfl (Nat.le_of_ble_eq_true rfl) (Nat.le_of_ble_eq_true rfl) (by decide +kernel)
  · refine B_blk B (jlkn_ok RX7) hcl [.iload_n 0, .bipush 110] (by decide +kernel) (ls' := [(0, jI a0)]) (st' := [jI 110, jI a0]) rfl (p1 := 9) rfl ?_
    refine J_icmp_gt B.1 (off := 7) (tgt := 16) (by decide +kernel) (by decide) hf (fun hf => ?_) (fun hf => ?_)
    · refine B_blk B (jlkn_ok RX7) hcl [.iconst 0] (by decide +kernel) (ls' := [(0, jI a0)]) (st' := [jI 0]) rfl (p1 := 17) rfl ?_
      cases hf
      exact B_retZ B (Or.inl rfl) hq rfl (Nat.le_of_ble_eq_true rfl) (Nat.le_of_ble_eq_true rfl) (by decide +kernel)
    · refine B_blk B (jlkn_ok RX7) hcl [.iconst 1, .goto 4] (by decide +kernel) (ls' := [(0, jI a0)]) (st' := [jI 1]) rfl (p1 := 17) rfl ?_
      cases hf
      exact B_retZ B (Or.inr rfl) hq rfl (Nat.le_of_ble_eq_true rfl) (Nat.le_of_ble_eq_true rfl) (by decide +kernel)

def rm_X7_isNumber : Room := { frames := 2, cells := 0, slots := 0, locals := 64 }
def f_X7_isNumber (a0 : Int) : Option Int :=
  (if a0 < 0 then some 0 else (if 100 ≤ a0 then some 0 else some 1))
theorem t_X7_isNumber {l : Launch} {G : jG} (hl : l.stackTraces = false) {S : List jSh} (hcl : jcl S) {a0 : Int} {μ : jMu} {r : Int} (hf : f_X7_isNumber a0 = some r) : jCt l G yX7_isNumber (.code yX7_isNumber cX7_isNumber 1 (some .boolean) :: jWG) rm_X7_isNumber [jI a0] S μ (.inl (some (jI r))) S μ := by
  unfold f_X7_isNumber at hf
  refine J_start (ls0 := [(0, jI a0)]) (by decide +kernel) hl (Nat.le_of_ble_eq_true rfl) rfl fun X C hN hn hR hr hnm hno hq => ?_
  have B : jB X cX7_isNumber RX7 1 S.length rm_X7_isNumber (some .boolean) := ⟨C, hN, Nat.le_of_eq hn, hR, hr⟩
  refine B_blk B (jlkn_ok RX7) hcl [.iload_n 0] (by decide +kernel) (ls' := [(0, jI a0)]) (st' := [jI a0]) rfl (p1 := 1) rfl ?_
  refine J_if_lt B.1 (off := 13) (tgt := 14) (by decide +kernel) (by decide) hf (fun hf => ?_) (fun hf => ?_)
  · refine B_blk B (jlkn_ok RX7) hcl [.iconst 0] (by decide +kernel) (ls' := [(0, jI a0)]) (st' := [jI 0]) rfl (p1 := 15) rfl ?_
    cases hf
    exact B_retZ B (Or.inl rfl) hq rfl (Nat.le_of_ble_eq_true rfl) (Nat.le_of_ble_eq_true rfl) (by decide +kernel)
  · refine B_blk B (jlkn_ok RX7) hcl [.iload_n 0, .bipush 100] (by decide +kernel) (ls' := [(0, jI a0)]) (st' := [jI 100, jI a0]) rfl (p1 := 7) rfl ?_
    refine J_icmp_ge B.1 (off := 7) (tgt := 14) (by decide +kernel) (by decide) hf (fun hf => ?_) (fun hf => ?_)
    · refine B_blk B (jlkn_ok RX7) hcl [.iconst 0] (by decide +kernel) (ls' := [(0, jI a0)]) (st' := [jI 0]) rfl (p1 := 15) rfl ?_
      cases hf
      exact B_retZ B (Or.inl rfl) hq rfl (Nat.le_of_ble_eq_true rfl) (Nat.le_of_ble_eq_true rfl) (by decide +kernel)
    · refine B_blk B (jlkn_ok RX7) hcl [.iconst 1, .goto 4] (by decide +kernel) (ls' := [(0, jI a0)]) (st' := [jI 1]) rfl (p1 := 15) rfl ?_
      cases hf
      exact B_retZ B (Or.inr rfl) hq rfl (Nat.le_of_ble_eq_true rfl) (Nat.le_of_ble_eq_true rfl) (by decide +kernel)

def rm_X7_isFact : Room := { frames := 2, cells := 0, slots := 0, locals := 64 }
def f_X7_isFact (a0 : Int) : Option Int :=
  (if a0 < 111 then some 0 else (if 116 < a0 then some 0 else some 1))
theorem t_X7_isFact {l : Launch} {G : jG} (hl : l.stackTraces = false) {S : List jSh} (hcl : jcl S) {a0 : Int} {μ : jMu} {r : Int} (hf : f_X7_isFact a0 = some r) : jCt l G yX7_isFact (.code yX7_isFact cX7_isFact 1 (some .boolean) :: jWG) rm_X7_isFact [jI a0] S μ (.inl (some (jI r))) S μ := by
  unfold f_X7_isFact at hf
  refine J_start (ls0 := [(0, jI a0)]) (by decide +kernel) hl (Nat.le_of_ble_eq_true rfl) rfl fun X C hN hn hR hr hnm hno hq => ?_
  have B : jB X cX7_isFact RX7 1 S.length rm_X7_isFact (some .boolean) := ⟨C, hN, Nat.le_of_eq hn, hR, hr⟩
  refine B_blk B (jlkn_ok RX7) hcl [.iload_n 0, .bipush 111] (by decide +kernel) (ls' := [(0, jI a0)]) (st' := [jI 111, jI a0]) rfl (p1 := 3) rfl ?_
  refine J_icmp_lt B.1 (off := 13) (tgt := 16) (by decide +kernel) (by decide) hf (fun hf => ?_) (fun hf => ?_)
  · refine B_blk B (jlkn_ok RX7) hcl [.iconst 0] (by decide +kernel) (ls' := [(0, jI a0)]) (st' := [jI 0]) rfl (p1 := 17) rfl ?_
    cases hf
    exact B_retZ B (Or.inl rfl) hq rfl (Nat.le_of_ble_eq_true rfl) (Nat.le_of_ble_eq_true rfl) (by decide +kernel)
  · refine B_blk B (jlkn_ok RX7) hcl [.iload_n 0, .bipush 116] (by decide +kernel) (ls' := [(0, jI a0)]) (st' := [jI 116, jI a0]) rfl (p1 := 9) rfl ?_
    refine J_icmp_gt B.1 (off := 7) (tgt := 16) (by decide +kernel) (by decide) hf (fun hf => ?_) (fun hf => ?_)
    · refine B_blk B (jlkn_ok RX7) hcl [.iconst 0] (by decide +kernel) (ls' := [(0, jI a0)]) (st' := [jI 0]) rfl (p1 := 17) rfl ?_
      cases hf
      exact B_retZ B (Or.inl rfl) hq rfl (Nat.le_of_ble_eq_true rfl) (Nat.le_of_ble_eq_true rfl) (by decide +kernel)
    · refine B_blk B (jlkn_ok RX7) hcl [.iconst 1, .goto 4] (by decide +kernel) (ls' := [(0, jI a0)]) (st' := [jI 1]) rfl (p1 := 17) rfl ?_
      cases hf
      exact B_retZ B (Or.inr rfl) hq rfl (Nat.le_of_ble_eq_true rfl) (Nat.le_of_ble_eq_true rfl) (by decide +kernel)

def rm_X3_readComparison : Room := { frames := 6, cells := 0, slots := 0, locals := 109 }
def f_X3_readComparison_L4 : Nat → Int → Int → jMu → Option (Int × jMu)
  | 0, _, _, _ => none
  | q + 1, v1, v2, m => (if 400 < v2 then some (0, m) else (f_X7_isNumber (m 62 9)).bind fun r1 => (if r1 = 0 then (f_X7_isFact (m 62 9)).bind fun r2 => (if r2 = 0 then some (0, m) else (f_X3_write (m 62 9) m).bind fun r3 => (f_X3_step r3).bind fun r4 => (if r4 62 9 = 123 then (f_X3_step r4).bind fun r5 => f_X3_readComparison_L4 q v1 (jW (v2 + 1)) r5 else (if v1 = (-1) then (if r4 62 9 = 124 then (f_X3_write 132 r4).bind fun r6 => (f_X3_step r6).bind fun r7 => f_X3_readComparison_L4 q (r4 62 9) (jW (v2 + 1)) r7 else (if r4 62 9 = 125 then (f_X3_write 132 r4).bind fun r8 => (f_X3_step r8).bind fun r9 => f_X3_readComparison_L4 q (r4 62 9) (jW (v2 + 1)) r9 else some (0, r4))) else (f_X3_write v1 r4).bind fun r10 => some (1, r10)))) else (f_X3_write (m 62 9) m).bind fun r11 => (f_X3_step r11).bind fun r12 => (if r12 62 9 = 123 then (f_X3_step r12).bind fun r13 => f_X3_readComparison_L4 q v1 (jW (v2 + 1)) r13 else (if v1 = (-1) then (if r12 62 9 = 124 then (f_X3_write 132 r12).bind fun r14 => (f_X3_step r14).bind fun r15 => f_X3_readComparison_L4 q (r12 62 9) (jW (v2 + 1)) r15 else (if r12 62 9 = 125 then (f_X3_write 132 r12).bind fun r16 => (f_X3_step r16).bind fun r17 => f_X3_readComparison_L4 q (r12 62 9) (jW (v2 + 1)) r17 else some (0, r12))) else (f_X3_write v1 r12).bind fun r18 => some (1, r18)))))
def f_X3_readComparison (m : jMu) : Option (Int × jMu) :=
  f_X3_readComparison_L4 jFU (-1) 0 m
theorem t_X3_readComparison_L4 {X : jX} (B : jB X cX3_readComparison RX3 3 SKF.length rm_X3_readComparison (some .boolean)) : ∀ (q : Nat) (v1 : Int) (v2 : Int) (m : jMu) (r : (Int × jMu)), f_X3_readComparison_L4 q v1 v2 m = some r → jQ X (.inl (some (jI r.1))) SKF r.2 rm_X3_readComparison.cells rm_X3_readComparison.slots → J X SKF m 0 0 4 [(0, jR 62), (1, jI v1), (2, jI v2)] [] := by
  intro q
  induction q with
  | zero =>
    intro v1 v2 m r hf
    rw [f_X3_readComparison_L4] at hf
    cases hf
  | succ q ih =>
    intro v1 v2 m r hf hq
    rw [f_X3_readComparison_L4] at hf
    refine B_blk B jlkX3_ok jcl_SKF [.iload_n 2, .sipush 400] (by decide +kernel) (ls' := [(0, jR 62), (1, jI v1), (2, jI v2)]) (st' := [jI 400, jI v2]) rfl (p1 := 8) rfl ?_
    refine J_icmp_gt B.1 (off := 110) (tgt := 118) (by decide +kernel) (by decide) hf (fun hf => ?_) (fun hf => ?_)
    · refine B_blk B jlkX3_ok jcl_SKF [.iconst 0] (by decide +kernel) (ls' := [(0, jR 62), (1, jI v1), (2, jI v2)]) (st' := [jI 0]) rfl (p1 := 119) rfl ?_
      cases hf
      exact B_retZ B (Or.inl rfl) hq rfl (Nat.le_of_ble_eq_true rfl) (Nat.le_of_ble_eq_true rfl) (by decide +kernel)
    · refine B_blk B jlkX3_ok jcl_SKF [.aload_n 0, .getfield 41] (by decide +kernel) (ls' := [(0, jR 62), (1, jI v1), (2, jI v2)]) (st' := [jI (m 62 9)]) rfl (p1 := 15) rfl ?_
      obtain ⟨r1, h1, hf⟩ := jbd hf
      refine B_callS B (Nat.le_refl _) (μ' := m) (k' := 0) (n' := 0) ca_X7_isNumber sa_X7_isNumber lk_X3_109 (t_X7_isNumber B.tr jcl_SKF h1) (Nat.le_refl _) rfl (rest := []) rfl rfl (Nat.le_of_ble_eq_true rfl) (by decide +kernel) rfl rfl (st' := [jI r1]) rfl ?_
      refine J_if_ne B.1 (off := 15) (tgt := 33) (by decide +kernel) (by decide) hf (fun hf => ?_) (fun hf => ?_)
      · refine B_blk B jlkX3_ok jcl_SKF [.aload_n 0, .getfield 41] (by decide +kernel) (ls' := [(0, jR 62), (1, jI v1), (2, jI v2)]) (st' := [jI (m 62 9)]) rfl (p1 := 25) rfl ?_
        obtain ⟨r2, h2, hf⟩ := jbd hf
        refine B_callS B (Nat.le_refl _) (μ' := m) (k' := 0) (n' := 0) ca_X7_isFact sa_X7_isFact lk_X3_164 (t_X7_isFact B.tr jcl_SKF h2) (Nat.le_refl _) rfl (rest := []) rfl rfl (Nat.le_of_ble_eq_true rfl) (by decide +kernel) rfl rfl (st' := [jI r2]) rfl ?_
        refine J_if_ne B.1 (off := 5) (tgt := 33) (by decide +kernel) (by decide) hf (fun hf => ?_) (fun hf => ?_)
        · refine B_blk B jlkX3_ok jcl_SKF [.iconst 0] (by decide +kernel) (ls' := [(0, jR 62), (1, jI v1), (2, jI v2)]) (st' := [jI 0]) rfl (p1 := 32) rfl ?_
          cases hf
          exact B_retZ B (Or.inl rfl) hq rfl (Nat.le_of_ble_eq_true rfl) (Nat.le_of_ble_eq_true rfl) (by decide +kernel)
        · refine B_blk B jlkX3_ok jcl_SKF [.aload_n 0, .aload_n 0, .getfield 41] (by decide +kernel) (ls' := [(0, jR 62), (1, jI v1), (2, jI v2)]) (st' := [jI (m 62 9), jR 62]) rfl (p1 := 38) rfl ?_
          obtain ⟨r3, h3, hf⟩ := jbd hf
          refine B_callV B (Nat.le_refl _) (μ' := r3) (k' := 0) (n' := 0) ca_X3_write in_X3_write se_X3_write lk_X3_158 (t_X3_write B.tr h3) (Nat.le_refl _) rfl rfl rfl (rest := []) rfl rfl (Nat.le_of_ble_eq_true rfl) (by decide +kernel) rfl rfl (st' := []) rfl ?_
          refine B_blk B jlkX3_ok jcl_SKF [.aload_n 0] (by decide +kernel) (ls' := [(0, jR 62), (1, jI v1), (2, jI v2)]) (st' := [jR 62]) rfl (p1 := 42) rfl ?_
          obtain ⟨r4, h4, hf⟩ := jbd hf
          refine B_callV B (Nat.le_refl _) (μ' := r4) (k' := 0) (n' := 0) ca_X3_step in_X3_step se_X3_step lk_X3_38 (t_X3_step B.tr h4) (Nat.le_refl _) rfl rfl rfl (rest := []) rfl rfl (Nat.le_of_ble_eq_true rfl) (by decide +kernel) rfl rfl (st' := []) rfl ?_
          refine B_blk B jlkX3_ok jcl_SKF [.aload_n 0, .getfield 41, .bipush 123] (by decide +kernel) (ls' := [(0, jR 62), (1, jI v1), (2, jI v2)]) (st' := [jI 123, jI (r4 62 9)]) rfl (p1 := 51) rfl ?_
          refine J_icmp_ne B.1 (off := 10) (tgt := 61) (by decide +kernel) (by decide) hf (fun hf => ?_) (fun hf => ?_)
          · refine B_blk B jlkX3_ok jcl_SKF [.aload_n 0] (by decide +kernel) (ls' := [(0, jR 62), (1, jI v1), (2, jI v2)]) (st' := [jR 62]) rfl (p1 := 55) rfl ?_
            obtain ⟨r5, h5, hf⟩ := jbd hf
            refine B_callV B (Nat.le_refl _) (μ' := r5) (k' := 0) (n' := 0) ca_X3_step in_X3_step se_X3_step lk_X3_38 (t_X3_step B.tr h5) (Nat.le_refl _) rfl rfl rfl (rest := []) rfl rfl (Nat.le_of_ble_eq_true rfl) (by decide +kernel) rfl rfl (st' := []) rfl ?_
            refine B_blk B jlkX3_ok jcl_SKF [.goto 54, .iinc 2 1, .goto (-111)] (by decide +kernel) (ls' := [(0, jR 62), (1, jI v1), (2, jI (jW (v2 + 1)))]) (st' := []) rfl (p1 := 4) rfl ?_
            exact ih v1 (jW (v2 + 1)) r5 _ hf hq
          · refine B_blk B jlkX3_ok jcl_SKF [.iload_n 1, .iconst (-1)] (by decide +kernel) (ls' := [(0, jR 62), (1, jI v1), (2, jI v2)]) (st' := [jI (-1), jI v1]) rfl (p1 := 63) rfl ?_
            refine J_icmp_eq B.1 (off := 10) (tgt := 73) (by decide +kernel) (by decide) hf (fun hf => ?_) (fun hf => ?_)
            · refine B_blk B jlkX3_ok jcl_SKF [.aload_n 0, .getfield 41, .bipush 124] (by decide +kernel) (ls' := [(0, jR 62), (1, jI v1), (2, jI v2)]) (st' := [jI 124, jI (r4 62 9)]) rfl (p1 := 79) rfl ?_
              refine J_icmp_eq B.1 (off := 12) (tgt := 91) (by decide +kernel) (by decide) hf (fun hf => ?_) (fun hf => ?_)
              · refine B_blk B jlkX3_ok jcl_SKF [.aload_n 0, .getfield 41, .istore_n 1, .aload_n 0, .sipush 132] (by decide +kernel) (ls' := [(0, jR 62), (1, jI (r4 62 9)), (2, jI v2)]) (st' := [jI 132, jR 62]) rfl (p1 := 100) rfl ?_
                obtain ⟨r6, h6, hf⟩ := jbd hf
                refine B_callV B (Nat.le_refl _) (μ' := r6) (k' := 0) (n' := 0) ca_X3_write in_X3_write se_X3_write lk_X3_158 (t_X3_write B.tr h6) (Nat.le_refl _) rfl rfl rfl (rest := []) rfl rfl (Nat.le_of_ble_eq_true rfl) (by decide +kernel) rfl rfl (st' := []) rfl ?_
                refine B_blk B jlkX3_ok jcl_SKF [.aload_n 0] (by decide +kernel) (ls' := [(0, jR 62), (1, jI (r4 62 9)), (2, jI v2)]) (st' := [jR 62]) rfl (p1 := 104) rfl ?_
                obtain ⟨r7, h7, hf⟩ := jbd hf
                refine B_callV B (Nat.le_refl _) (μ' := r7) (k' := 0) (n' := 0) ca_X3_step in_X3_step se_X3_step lk_X3_38 (t_X3_step B.tr h7) (Nat.le_refl _) rfl rfl rfl (rest := []) rfl rfl (Nat.le_of_ble_eq_true rfl) (by decide +kernel) rfl rfl (st' := []) rfl ?_
                refine B_blk B jlkX3_ok jcl_SKF [.goto 5, .iinc 2 1, .goto (-111)] (by decide +kernel) (ls' := [(0, jR 62), (1, jI (r4 62 9)), (2, jI (jW (v2 + 1)))]) (st' := []) rfl (p1 := 4) rfl ?_
                exact ih (r4 62 9) (jW (v2 + 1)) r7 _ hf hq
              · refine B_blk B jlkX3_ok jcl_SKF [.aload_n 0, .getfield 41, .bipush 125] (by decide +kernel) (ls' := [(0, jR 62), (1, jI v1), (2, jI v2)]) (st' := [jI 125, jI (r4 62 9)]) rfl (p1 := 88) rfl ?_
                refine J_icmp_ne B.1 (off := 22) (tgt := 110) (by decide +kernel) (by decide) hf (fun hf => ?_) (fun hf => ?_)
                · refine B_blk B jlkX3_ok jcl_SKF [.aload_n 0, .getfield 41, .istore_n 1, .aload_n 0, .sipush 132] (by decide +kernel) (ls' := [(0, jR 62), (1, jI (r4 62 9)), (2, jI v2)]) (st' := [jI 132, jR 62]) rfl (p1 := 100) rfl ?_
                  obtain ⟨r8, h8, hf⟩ := jbd hf
                  refine B_callV B (Nat.le_refl _) (μ' := r8) (k' := 0) (n' := 0) ca_X3_write in_X3_write se_X3_write lk_X3_158 (t_X3_write B.tr h8) (Nat.le_refl _) rfl rfl rfl (rest := []) rfl rfl (Nat.le_of_ble_eq_true rfl) (by decide +kernel) rfl rfl (st' := []) rfl ?_
                  refine B_blk B jlkX3_ok jcl_SKF [.aload_n 0] (by decide +kernel) (ls' := [(0, jR 62), (1, jI (r4 62 9)), (2, jI v2)]) (st' := [jR 62]) rfl (p1 := 104) rfl ?_
                  obtain ⟨r9, h9, hf⟩ := jbd hf
                  refine B_callV B (Nat.le_refl _) (μ' := r9) (k' := 0) (n' := 0) ca_X3_step in_X3_step se_X3_step lk_X3_38 (t_X3_step B.tr h9) (Nat.le_refl _) rfl rfl rfl (rest := []) rfl rfl (Nat.le_of_ble_eq_true rfl) (by decide +kernel) rfl rfl (st' := []) rfl ?_
                  refine B_blk B jlkX3_ok jcl_SKF [.goto 5, .iinc 2 1, .goto (-111)] (by decide +kernel) (ls' := [(0, jR 62), (1, jI (r4 62 9)), (2, jI (jW (v2 + 1)))]) (st' := []) rfl (p1 := 4) rfl ?_
                  exact ih (r4 62 9) (jW (v2 + 1)) r9 _ hf hq
                · refine B_blk B jlkX3_ok jcl_SKF [.iconst 0] (by decide +kernel) (ls' := [(0, jR 62), (1, jI v1), (2, jI v2)]) (st' := [jI 0]) rfl (p1 := 111) rfl ?_
                  cases hf
                  exact B_retZ B (Or.inl rfl) hq rfl (Nat.le_of_ble_eq_true rfl) (Nat.le_of_ble_eq_true rfl) (by decide +kernel)
            · refine B_blk B jlkX3_ok jcl_SKF [.aload_n 0, .iload_n 1] (by decide +kernel) (ls' := [(0, jR 62), (1, jI v1), (2, jI v2)]) (st' := [jI v1, jR 62]) rfl (p1 := 68) rfl ?_
              obtain ⟨r10, h10, hf⟩ := jbd hf
              refine B_callV B (Nat.le_refl _) (μ' := r10) (k' := 0) (n' := 0) ca_X3_write in_X3_write se_X3_write lk_X3_158 (t_X3_write B.tr h10) (Nat.le_refl _) rfl rfl rfl (rest := []) rfl rfl (Nat.le_of_ble_eq_true rfl) (by decide +kernel) rfl rfl (st' := []) rfl ?_
              refine B_blk B jlkX3_ok jcl_SKF [.iconst 1] (by decide +kernel) (ls' := [(0, jR 62), (1, jI v1), (2, jI v2)]) (st' := [jI 1]) rfl (p1 := 72) rfl ?_
              cases hf
              exact B_retZ B (Or.inr rfl) hq rfl (Nat.le_of_ble_eq_true rfl) (Nat.le_of_ble_eq_true rfl) (by decide +kernel)
      · refine B_blk B jlkX3_ok jcl_SKF [.aload_n 0, .aload_n 0, .getfield 41] (by decide +kernel) (ls' := [(0, jR 62), (1, jI v1), (2, jI v2)]) (st' := [jI (m 62 9), jR 62]) rfl (p1 := 38) rfl ?_
        obtain ⟨r11, h11, hf⟩ := jbd hf
        refine B_callV B (Nat.le_refl _) (μ' := r11) (k' := 0) (n' := 0) ca_X3_write in_X3_write se_X3_write lk_X3_158 (t_X3_write B.tr h11) (Nat.le_refl _) rfl rfl rfl (rest := []) rfl rfl (Nat.le_of_ble_eq_true rfl) (by decide +kernel) rfl rfl (st' := []) rfl ?_
        refine B_blk B jlkX3_ok jcl_SKF [.aload_n 0] (by decide +kernel) (ls' := [(0, jR 62), (1, jI v1), (2, jI v2)]) (st' := [jR 62]) rfl (p1 := 42) rfl ?_
        obtain ⟨r12, h12, hf⟩ := jbd hf
        refine B_callV B (Nat.le_refl _) (μ' := r12) (k' := 0) (n' := 0) ca_X3_step in_X3_step se_X3_step lk_X3_38 (t_X3_step B.tr h12) (Nat.le_refl _) rfl rfl rfl (rest := []) rfl rfl (Nat.le_of_ble_eq_true rfl) (by decide +kernel) rfl rfl (st' := []) rfl ?_
        refine B_blk B jlkX3_ok jcl_SKF [.aload_n 0, .getfield 41, .bipush 123] (by decide +kernel) (ls' := [(0, jR 62), (1, jI v1), (2, jI v2)]) (st' := [jI 123, jI (r12 62 9)]) rfl (p1 := 51) rfl ?_
        refine J_icmp_ne B.1 (off := 10) (tgt := 61) (by decide +kernel) (by decide) hf (fun hf => ?_) (fun hf => ?_)
        · refine B_blk B jlkX3_ok jcl_SKF [.aload_n 0] (by decide +kernel) (ls' := [(0, jR 62), (1, jI v1), (2, jI v2)]) (st' := [jR 62]) rfl (p1 := 55) rfl ?_
          obtain ⟨r13, h13, hf⟩ := jbd hf
          refine B_callV B (Nat.le_refl _) (μ' := r13) (k' := 0) (n' := 0) ca_X3_step in_X3_step se_X3_step lk_X3_38 (t_X3_step B.tr h13) (Nat.le_refl _) rfl rfl rfl (rest := []) rfl rfl (Nat.le_of_ble_eq_true rfl) (by decide +kernel) rfl rfl (st' := []) rfl ?_
          refine B_blk B jlkX3_ok jcl_SKF [.goto 54, .iinc 2 1, .goto (-111)] (by decide +kernel) (ls' := [(0, jR 62), (1, jI v1), (2, jI (jW (v2 + 1)))]) (st' := []) rfl (p1 := 4) rfl ?_
          exact ih v1 (jW (v2 + 1)) r13 _ hf hq
        · refine B_blk B jlkX3_ok jcl_SKF [.iload_n 1, .iconst (-1)] (by decide +kernel) (ls' := [(0, jR 62), (1, jI v1), (2, jI v2)]) (st' := [jI (-1), jI v1]) rfl (p1 := 63) rfl ?_
          refine J_icmp_eq B.1 (off := 10) (tgt := 73) (by decide +kernel) (by decide) hf (fun hf => ?_) (fun hf => ?_)
          · refine B_blk B jlkX3_ok jcl_SKF [.aload_n 0, .getfield 41, .bipush 124] (by decide +kernel) (ls' := [(0, jR 62), (1, jI v1), (2, jI v2)]) (st' := [jI 124, jI (r12 62 9)]) rfl (p1 := 79) rfl ?_
            refine J_icmp_eq B.1 (off := 12) (tgt := 91) (by decide +kernel) (by decide) hf (fun hf => ?_) (fun hf => ?_)
            · refine B_blk B jlkX3_ok jcl_SKF [.aload_n 0, .getfield 41, .istore_n 1, .aload_n 0, .sipush 132] (by decide +kernel) (ls' := [(0, jR 62), (1, jI (r12 62 9)), (2, jI v2)]) (st' := [jI 132, jR 62]) rfl (p1 := 100) rfl ?_
              obtain ⟨r14, h14, hf⟩ := jbd hf
              refine B_callV B (Nat.le_refl _) (μ' := r14) (k' := 0) (n' := 0) ca_X3_write in_X3_write se_X3_write lk_X3_158 (t_X3_write B.tr h14) (Nat.le_refl _) rfl rfl rfl (rest := []) rfl rfl (Nat.le_of_ble_eq_true rfl) (by decide +kernel) rfl rfl (st' := []) rfl ?_
              refine B_blk B jlkX3_ok jcl_SKF [.aload_n 0] (by decide +kernel) (ls' := [(0, jR 62), (1, jI (r12 62 9)), (2, jI v2)]) (st' := [jR 62]) rfl (p1 := 104) rfl ?_
              obtain ⟨r15, h15, hf⟩ := jbd hf
              refine B_callV B (Nat.le_refl _) (μ' := r15) (k' := 0) (n' := 0) ca_X3_step in_X3_step se_X3_step lk_X3_38 (t_X3_step B.tr h15) (Nat.le_refl _) rfl rfl rfl (rest := []) rfl rfl (Nat.le_of_ble_eq_true rfl) (by decide +kernel) rfl rfl (st' := []) rfl ?_
              refine B_blk B jlkX3_ok jcl_SKF [.goto 5, .iinc 2 1, .goto (-111)] (by decide +kernel) (ls' := [(0, jR 62), (1, jI (r12 62 9)), (2, jI (jW (v2 + 1)))]) (st' := []) rfl (p1 := 4) rfl ?_
              exact ih (r12 62 9) (jW (v2 + 1)) r15 _ hf hq
            · refine B_blk B jlkX3_ok jcl_SKF [.aload_n 0, .getfield 41, .bipush 125] (by decide +kernel) (ls' := [(0, jR 62), (1, jI v1), (2, jI v2)]) (st' := [jI 125, jI (r12 62 9)]) rfl (p1 := 88) rfl ?_
              refine J_icmp_ne B.1 (off := 22) (tgt := 110) (by decide +kernel) (by decide) hf (fun hf => ?_) (fun hf => ?_)
              · refine B_blk B jlkX3_ok jcl_SKF [.aload_n 0, .getfield 41, .istore_n 1, .aload_n 0, .sipush 132] (by decide +kernel) (ls' := [(0, jR 62), (1, jI (r12 62 9)), (2, jI v2)]) (st' := [jI 132, jR 62]) rfl (p1 := 100) rfl ?_
                obtain ⟨r16, h16, hf⟩ := jbd hf
                refine B_callV B (Nat.le_refl _) (μ' := r16) (k' := 0) (n' := 0) ca_X3_write in_X3_write se_X3_write lk_X3_158 (t_X3_write B.tr h16) (Nat.le_refl _) rfl rfl rfl (rest := []) rfl rfl (Nat.le_of_ble_eq_true rfl) (by decide +kernel) rfl rfl (st' := []) rfl ?_
                refine B_blk B jlkX3_ok jcl_SKF [.aload_n 0] (by decide +kernel) (ls' := [(0, jR 62), (1, jI (r12 62 9)), (2, jI v2)]) (st' := [jR 62]) rfl (p1 := 104) rfl ?_
                obtain ⟨r17, h17, hf⟩ := jbd hf
                refine B_callV B (Nat.le_refl _) (μ' := r17) (k' := 0) (n' := 0) ca_X3_step in_X3_step se_X3_step lk_X3_38 (t_X3_step B.tr h17) (Nat.le_refl _) rfl rfl rfl (rest := []) rfl rfl (Nat.le_of_ble_eq_true rfl) (by decide +kernel) rfl rfl (st' := []) rfl ?_
                refine B_blk B jlkX3_ok jcl_SKF [.goto 5, .iinc 2 1, .goto (-111)] (by decide +kernel) (ls' := [(0, jR 62), (1, jI (r12 62 9)), (2, jI (jW (v2 + 1)))]) (st' := []) rfl (p1 := 4) rfl ?_
                exact ih (r12 62 9) (jW (v2 + 1)) r17 _ hf hq
              · refine B_blk B jlkX3_ok jcl_SKF [.iconst 0] (by decide +kernel) (ls' := [(0, jR 62), (1, jI v1), (2, jI v2)]) (st' := [jI 0]) rfl (p1 := 111) rfl ?_
                cases hf
                exact B_retZ B (Or.inl rfl) hq rfl (Nat.le_of_ble_eq_true rfl) (Nat.le_of_ble_eq_true rfl) (by decide +kernel)
          · refine B_blk B jlkX3_ok jcl_SKF [.aload_n 0, .iload_n 1] (by decide +kernel) (ls' := [(0, jR 62), (1, jI v1), (2, jI v2)]) (st' := [jI v1, jR 62]) rfl (p1 := 68) rfl ?_
            obtain ⟨r18, h18, hf⟩ := jbd hf
            refine B_callV B (Nat.le_refl _) (μ' := r18) (k' := 0) (n' := 0) ca_X3_write in_X3_write se_X3_write lk_X3_158 (t_X3_write B.tr h18) (Nat.le_refl _) rfl rfl rfl (rest := []) rfl rfl (Nat.le_of_ble_eq_true rfl) (by decide +kernel) rfl rfl (st' := []) rfl ?_
            refine B_blk B jlkX3_ok jcl_SKF [.iconst 1] (by decide +kernel) (ls' := [(0, jR 62), (1, jI v1), (2, jI v2)]) (st' := [jI 1]) rfl (p1 := 72) rfl ?_
            cases hf
            exact B_retZ B (Or.inr rfl) hq rfl (Nat.le_of_ble_eq_true rfl) (Nat.le_of_ble_eq_true rfl) (by decide +kernel)
theorem t_X3_readComparison {l : Launch} {G : jG} (hl : l.stackTraces = false) {m : jMu} {r : (Int × jMu)} (hf : f_X3_readComparison m = some r) : jCt l G yX3_readComparison (.code yX3_readComparison cX3_readComparison 3 (some .boolean) :: jWG) rm_X3_readComparison [jR 62] SKF m (.inl (some (jI r.1))) SKF r.2 := by
  unfold f_X3_readComparison at hf
  refine J_start (ls0 := [(0, jR 62)]) (by decide +kernel) hl (Nat.le_of_ble_eq_true rfl) rfl fun X C hN hn hR hr hnm hno hq => ?_
  have B : jB X cX3_readComparison RX3 3 SKF.length rm_X3_readComparison (some .boolean) := ⟨C, hN, Nat.le_of_eq hn, hR, hr⟩
  refine B_blk B jlkX3_ok jcl_SKF [.iconst (-1), .istore_n 1, .iconst 0, .istore_n 2] (by decide +kernel) (ls' := [(0, jR 62), (1, jI (-1)), (2, jI 0)]) (st' := []) rfl (p1 := 4) rfl ?_
  exact t_X3_readComparison_L4 B jFU (-1) 0 m _ hf hq

def rm_X3_addWaiting : Room := { frames := 2, cells := 0, slots := 0, locals := 64 }
def f_X3_addWaiting (a0 : Int) (m : jMu) : Option jMu :=
  (if m 62 6 < 0 then some m else (if 21 ≤ m 62 6 then some m else (if 0 ≤ m 62 6 ∧ m 62 6 < 21 then (jlt (jup m 65 (m 62 6) a0) fun m1 => (jlt (jup m1 62 6 (jW (m1 62 6 + 1))) fun m2 => some m2)) else none)))
theorem t_X3_addWaiting {l : Launch} {G : jG} (hl : l.stackTraces = false) {a0 : Int} {m : jMu} {r : jMu} (hf : f_X3_addWaiting a0 m = some r) : jCt l G yX3_addWaiting (.code yX3_addWaiting cX3_addWaiting 2 none :: jWG) rm_X3_addWaiting [jR 62, jI a0] SKF m (.inl none) SKF r := by
  unfold f_X3_addWaiting at hf
  refine J_start (ls0 := [(0, jR 62), (1, jI a0)]) (by decide +kernel) hl (Nat.le_of_ble_eq_true rfl) rfl fun X C hN hn hR hr hnm hno hq => ?_
  have B : jB X cX3_addWaiting RX3 2 SKF.length rm_X3_addWaiting none := ⟨C, hN, Nat.le_of_eq hn, hR, hr⟩
  refine B_blk B jlkX3_ok jcl_SKF [.aload_n 0, .getfield 136] (by decide +kernel) (ls' := [(0, jR 62), (1, jI a0)]) (st' := [jI (m 62 6)]) rfl (p1 := 4) rfl ?_
  refine J_if_lt B.1 (off := 35) (tgt := 39) (by decide +kernel) (by decide) hf (fun hf => ?_) (fun hf => ?_)
  · cases hf
    exact B_retV B hq rfl (Nat.le_of_ble_eq_true rfl) (Nat.le_of_ble_eq_true rfl) (by decide +kernel)
  · refine B_blk B jlkX3_ok jcl_SKF [.aload_n 0, .getfield 136, .aload_n 0, .getfield 28, .arraylength] (by decide +kernel) (ls' := [(0, jR 62), (1, jI a0)]) (st' := [jI 21, jI (m 62 6)]) rfl (p1 := 16) rfl ?_
    refine J_icmp_ge B.1 (off := 23) (tgt := 39) (by decide +kernel) (by decide) hf (fun hf => ?_) (fun hf => ?_)
    · cases hf
      exact B_retV B hq rfl (Nat.le_of_ble_eq_true rfl) (Nat.le_of_ble_eq_true rfl) (by decide +kernel)
    · refine B_blk B jlkX3_ok jcl_SKF [.aload_n 0, .getfield 28, .aload_n 0, .getfield 136, .iload_n 1] (by decide +kernel) (ls' := [(0, jR 62), (1, jI a0)]) (st' := [jI a0, jI (m 62 6), jR 65]) rfl (p1 := 28) rfl ?_
      obtain ⟨g3, hf⟩ := jgd hf
      refine K_iast (lenI := 21) B rfl rfl g3 (by decide +kernel) ?_
      obtain ⟨m1, hm1, hf⟩ := jlt_s hf
      rw [hm1]
      refine B_blk B jlkX3_ok jcl_SKF [.aload_n 0, .dup, .getfield 136, .iconst 1, .iadd] (by decide +kernel) (ls' := [(0, jR 62), (1, jI a0)]) (st' := [jI (jW (m1 62 6 + 1)), jR 62]) rfl (p1 := 36) rfl ?_
      refine K_putI (jI' := 6) B jp_X3_136 rfl rfl rfl (by decide +kernel) ?_
      obtain ⟨m2, hm2, hf⟩ := jlt_s hf
      rw [hm2]
      cases hf
      exact B_retV B hq rfl (Nat.le_of_ble_eq_true rfl) (Nat.le_of_ble_eq_true rfl) (by decide +kernel)

def rm_X3_readAtom : Room := { frames := 8, cells := 0, slots := 0, locals := 131 }
def f_X3_readAtom_J52 (m : jMu) : Option (Int × jMu) :=
  (f_X7_isTag (m 62 9)).bind fun r1 => (if r1 = 0 then (f_X3_readComparison m).bind fun r2 => (if r2.1 = 0 ∨ r2.1 = 1 then some (r2.1, r2.2) else none) else (f_X3_write (m 62 9) m).bind fun r3 => (f_X3_step r3).bind fun r4 => some (1, r4))
def f_X3_readAtom_L0 : Nat → jMu → Option (Int × jMu)
  | 0, _ => none
  | q + 1, m => (if 6 ≤ m 62 7 then f_X3_readAtom_J52 m else (if m 62 9 = 107 then (jlt (jup m 62 7 (jW (m 62 7 + 1))) fun m5 => (f_X3_addWaiting (m5 62 9) m5).bind fun r6 => (f_X3_step r6).bind fun r7 => f_X3_readAtom_L0 q r7) else (if m 62 9 = 120 then (jlt (jup m 62 7 (jW (m 62 7 + 1))) fun m8 => (f_X3_addWaiting (m8 62 9) m8).bind fun r9 => (f_X3_step r9).bind fun r10 => f_X3_readAtom_L0 q r10) else f_X3_readAtom_J52 m)))
def f_X3_readAtom (m : jMu) : Option (Int × jMu) :=
  f_X3_readAtom_L0 jFU m
theorem t_X3_readAtom_J52 {X : jX} (B : jB X cX3_readAtom RX3 1 SKF.length rm_X3_readAtom (some .boolean)) (m : jMu) (r : (Int × jMu)) (hf : f_X3_readAtom_J52 m = some r) (hq : jQ X (.inl (some (jI r.1))) SKF r.2 rm_X3_readAtom.cells rm_X3_readAtom.slots) : J X SKF m 0 0 52 [(0, jR 62)] [] := by
  unfold f_X3_readAtom_J52 at hf
  refine B_blk B jlkX3_ok jcl_SKF [.aload_n 0, .getfield 41] (by decide +kernel) (ls' := [(0, jR 62)]) (st' := [jI (m 62 9)]) rfl (p1 := 56) rfl ?_
  obtain ⟨r1, h1, hf⟩ := jbd hf
  refine B_callS B (Nat.le_refl _) (μ' := m) (k' := 0) (n' := 0) ca_X7_isTag sa_X7_isTag lk_X3_155 (t_X7_isTag B.tr jcl_SKF h1) (Nat.le_refl _) rfl (rest := []) rfl rfl (Nat.le_of_ble_eq_true rfl) (by decide +kernel) rfl rfl (st' := [jI r1]) rfl ?_
  refine J_if_eq B.1 (off := 17) (tgt := 76) (by decide +kernel) (by decide) hf (fun hf => ?_) (fun hf => ?_)
  · refine B_blk B jlkX3_ok jcl_SKF [.aload_n 0] (by decide +kernel) (ls' := [(0, jR 62)]) (st' := [jR 62]) rfl (p1 := 77) rfl ?_
    obtain ⟨r2, h2, hf⟩ := jbd hf
    refine B_callV B (Nat.le_refl _) (μ' := r2.2) (k' := 0) (n' := 0) ca_X3_readComparison in_X3_readComparison se_X3_readComparison lk_X3_161 (t_X3_readComparison B.tr h2) (Nat.le_refl _) rfl rfl rfl (rest := []) rfl rfl (Nat.le_of_ble_eq_true rfl) (by decide +kernel) rfl rfl (st' := [jI r2.1]) rfl ?_
    obtain ⟨gz, hf⟩ := jgd hf
    cases hf
    exact B_retZ B gz hq rfl (Nat.le_of_ble_eq_true rfl) (Nat.le_of_ble_eq_true rfl) (by decide +kernel)
  · refine B_blk B jlkX3_ok jcl_SKF [.aload_n 0, .aload_n 0, .getfield 41] (by decide +kernel) (ls' := [(0, jR 62)]) (st' := [jI (m 62 9), jR 62]) rfl (p1 := 67) rfl ?_
    obtain ⟨r3, h3, hf⟩ := jbd hf
    refine B_callV B (Nat.le_refl _) (μ' := r3) (k' := 0) (n' := 0) ca_X3_write in_X3_write se_X3_write lk_X3_158 (t_X3_write B.tr h3) (Nat.le_refl _) rfl rfl rfl (rest := []) rfl rfl (Nat.le_of_ble_eq_true rfl) (by decide +kernel) rfl rfl (st' := []) rfl ?_
    refine B_blk B jlkX3_ok jcl_SKF [.aload_n 0] (by decide +kernel) (ls' := [(0, jR 62)]) (st' := [jR 62]) rfl (p1 := 71) rfl ?_
    obtain ⟨r4, h4, hf⟩ := jbd hf
    refine B_callV B (Nat.le_refl _) (μ' := r4) (k' := 0) (n' := 0) ca_X3_step in_X3_step se_X3_step lk_X3_38 (t_X3_step B.tr h4) (Nat.le_refl _) rfl rfl rfl (rest := []) rfl rfl (Nat.le_of_ble_eq_true rfl) (by decide +kernel) rfl rfl (st' := []) rfl ?_
    refine B_blk B jlkX3_ok jcl_SKF [.iconst 1] (by decide +kernel) (ls' := [(0, jR 62)]) (st' := [jI 1]) rfl (p1 := 75) rfl ?_
    cases hf
    exact B_retZ B (Or.inr rfl) hq rfl (Nat.le_of_ble_eq_true rfl) (Nat.le_of_ble_eq_true rfl) (by decide +kernel)
theorem t_X3_readAtom_L0 {X : jX} (B : jB X cX3_readAtom RX3 1 SKF.length rm_X3_readAtom (some .boolean)) : ∀ (q : Nat) (m : jMu) (r : (Int × jMu)), f_X3_readAtom_L0 q m = some r → jQ X (.inl (some (jI r.1))) SKF r.2 rm_X3_readAtom.cells rm_X3_readAtom.slots → J X SKF m 0 0 0 [(0, jR 62)] [] := by
  intro q
  induction q with
  | zero =>
    intro m r hf
    rw [f_X3_readAtom_L0] at hf
    cases hf
  | succ q ih =>
    intro m r hf hq
    rw [f_X3_readAtom_L0] at hf
    refine B_blk B jlkX3_ok jcl_SKF [.aload_n 0, .getfield 139, .bipush 6] (by decide +kernel) (ls' := [(0, jR 62)]) (st' := [jI 6, jI (m 62 7)]) rfl (p1 := 6) rfl ?_
    refine J_icmp_ge B.1 (off := 46) (tgt := 52) (by decide +kernel) (by decide) hf (fun hf => ?_) (fun hf => ?_)
    · exact t_X3_readAtom_J52 B m _ hf hq
    · refine B_blk B jlkX3_ok jcl_SKF [.aload_n 0, .getfield 41, .bipush 107] (by decide +kernel) (ls' := [(0, jR 62)]) (st' := [jI 107, jI (m 62 9)]) rfl (p1 := 15) rfl ?_
      refine J_icmp_eq B.1 (off := 12) (tgt := 27) (by decide +kernel) (by decide) hf (fun hf => ?_) (fun hf => ?_)
      · refine B_blk B jlkX3_ok jcl_SKF [.aload_n 0, .dup, .getfield 139, .iconst 1, .iadd] (by decide +kernel) (ls' := [(0, jR 62)]) (st' := [jI (jW (m 62 7 + 1)), jR 62]) rfl (p1 := 34) rfl ?_
        refine K_putI (jI' := 7) B jp_X3_139 rfl rfl rfl (by decide +kernel) ?_
        obtain ⟨m5, hm5, hf⟩ := jlt_s hf
        rw [hm5]
        refine B_blk B jlkX3_ok jcl_SKF [.aload_n 0, .aload_n 0, .getfield 41] (by decide +kernel) (ls' := [(0, jR 62)]) (st' := [jI (m5 62 9), jR 62]) rfl (p1 := 42) rfl ?_
        obtain ⟨r6, h6, hf⟩ := jbd hf
        refine B_callV B (Nat.le_refl _) (μ' := r6) (k' := 0) (n' := 0) ca_X3_addWaiting in_X3_addWaiting se_X3_addWaiting lk_X3_152 (t_X3_addWaiting B.tr h6) (Nat.le_refl _) rfl rfl rfl (rest := []) rfl rfl (Nat.le_of_ble_eq_true rfl) (by decide +kernel) rfl rfl (st' := []) rfl ?_
        refine B_blk B jlkX3_ok jcl_SKF [.aload_n 0] (by decide +kernel) (ls' := [(0, jR 62)]) (st' := [jR 62]) rfl (p1 := 46) rfl ?_
        obtain ⟨r7, h7, hf⟩ := jbd hf
        refine B_callV B (Nat.le_refl _) (μ' := r7) (k' := 0) (n' := 0) ca_X3_step in_X3_step se_X3_step lk_X3_38 (t_X3_step B.tr h7) (Nat.le_refl _) rfl rfl rfl (rest := []) rfl rfl (Nat.le_of_ble_eq_true rfl) (by decide +kernel) rfl rfl (st' := []) rfl ?_
        refine B_blk B jlkX3_ok jcl_SKF [.goto (-49)] (by decide +kernel) (ls' := [(0, jR 62)]) (st' := []) rfl (p1 := 0) rfl ?_
        exact ih r7 _ hf hq
      · refine B_blk B jlkX3_ok jcl_SKF [.aload_n 0, .getfield 41, .bipush 120] (by decide +kernel) (ls' := [(0, jR 62)]) (st' := [jI 120, jI (m 62 9)]) rfl (p1 := 24) rfl ?_
        refine J_icmp_ne B.1 (off := 28) (tgt := 52) (by decide +kernel) (by decide) hf (fun hf => ?_) (fun hf => ?_)
        · refine B_blk B jlkX3_ok jcl_SKF [.aload_n 0, .dup, .getfield 139, .iconst 1, .iadd] (by decide +kernel) (ls' := [(0, jR 62)]) (st' := [jI (jW (m 62 7 + 1)), jR 62]) rfl (p1 := 34) rfl ?_
          refine K_putI (jI' := 7) B jp_X3_139 rfl rfl rfl (by decide +kernel) ?_
          obtain ⟨m8, hm8, hf⟩ := jlt_s hf
          rw [hm8]
          refine B_blk B jlkX3_ok jcl_SKF [.aload_n 0, .aload_n 0, .getfield 41] (by decide +kernel) (ls' := [(0, jR 62)]) (st' := [jI (m8 62 9), jR 62]) rfl (p1 := 42) rfl ?_
          obtain ⟨r9, h9, hf⟩ := jbd hf
          refine B_callV B (Nat.le_refl _) (μ' := r9) (k' := 0) (n' := 0) ca_X3_addWaiting in_X3_addWaiting se_X3_addWaiting lk_X3_152 (t_X3_addWaiting B.tr h9) (Nat.le_refl _) rfl rfl rfl (rest := []) rfl rfl (Nat.le_of_ble_eq_true rfl) (by decide +kernel) rfl rfl (st' := []) rfl ?_
          refine B_blk B jlkX3_ok jcl_SKF [.aload_n 0] (by decide +kernel) (ls' := [(0, jR 62)]) (st' := [jR 62]) rfl (p1 := 46) rfl ?_
          obtain ⟨r10, h10, hf⟩ := jbd hf
          refine B_callV B (Nat.le_refl _) (μ' := r10) (k' := 0) (n' := 0) ca_X3_step in_X3_step se_X3_step lk_X3_38 (t_X3_step B.tr h10) (Nat.le_refl _) rfl rfl rfl (rest := []) rfl rfl (Nat.le_of_ble_eq_true rfl) (by decide +kernel) rfl rfl (st' := []) rfl ?_
          refine B_blk B jlkX3_ok jcl_SKF [.goto (-49)] (by decide +kernel) (ls' := [(0, jR 62)]) (st' := []) rfl (p1 := 0) rfl ?_
          exact ih r10 _ hf hq
        · exact t_X3_readAtom_J52 B m _ hf hq
theorem t_X3_readAtom {l : Launch} {G : jG} (hl : l.stackTraces = false) {m : jMu} {r : (Int × jMu)} (hf : f_X3_readAtom m = some r) : jCt l G yX3_readAtom (.code yX3_readAtom cX3_readAtom 1 (some .boolean) :: jWG) rm_X3_readAtom [jR 62] SKF m (.inl (some (jI r.1))) SKF r.2 := by
  unfold f_X3_readAtom at hf
  refine J_start (ls0 := [(0, jR 62)]) (by decide +kernel) hl (Nat.le_of_ble_eq_true rfl) rfl fun X C hN hn hR hr hnm hno hq => ?_
  have B : jB X cX3_readAtom RX3 1 SKF.length rm_X3_readAtom (some .boolean) := ⟨C, hN, Nat.le_of_eq hn, hR, hr⟩
  exact t_X3_readAtom_L0 B jFU m _ hf hq

def rm_X3_hasOpening : Room := { frames := 2, cells := 0, slots := 0, locals := 64 }
def f_X3_hasOpening_L2 : Nat → Int → jMu → Option Int
  | 0, _, _ => none
  | q + 1, v1, m => (if m 62 6 ≤ v1 then some 0 else (if 21 ≤ v1 then some 0 else (if 0 ≤ v1 ∧ v1 < 21 then (if m 65 v1 = 120 then some 1 else f_X3_hasOpening_L2 q (jW (v1 + 1)) m) else none)))
def f_X3_hasOpening (m : jMu) : Option Int :=
  f_X3_hasOpening_L2 jFU 0 m
theorem t_X3_hasOpening_L2 {X : jX} (B : jB X cX3_hasOpening RX3 2 SKF.length rm_X3_hasOpening (some .boolean)) : ∀ (q : Nat) (v1 : Int) (m : jMu) (r : Int), f_X3_hasOpening_L2 q v1 m = some r → jQ X (.inl (some (jI r))) SKF m rm_X3_hasOpening.cells rm_X3_hasOpening.slots → J X SKF m 0 0 2 [(0, jR 62), (1, jI v1)] [] := by
  intro q
  induction q with
  | zero =>
    intro v1 m r hf
    rw [f_X3_hasOpening_L2] at hf
    cases hf
  | succ q ih =>
    intro v1 m r hf hq
    rw [f_X3_hasOpening_L2] at hf
    refine B_blk B jlkX3_ok jcl_SKF [.iload_n 1, .aload_n 0, .getfield 136] (by decide +kernel) (ls' := [(0, jR 62), (1, jI v1)]) (st' := [jI (m 62 6), jI v1]) rfl (p1 := 7) rfl ?_
    refine J_icmp_ge B.1 (off := 31) (tgt := 38) (by decide +kernel) (by decide) hf (fun hf => ?_) (fun hf => ?_)
    · refine B_blk B jlkX3_ok jcl_SKF [.iconst 0] (by decide +kernel) (ls' := [(0, jR 62), (1, jI v1)]) (st' := [jI 0]) rfl (p1 := 39) rfl ?_
      cases hf
      exact B_retZ B (Or.inl rfl) hq rfl (Nat.le_of_ble_eq_true rfl) (Nat.le_of_ble_eq_true rfl) (by decide +kernel)
    · refine B_blk B jlkX3_ok jcl_SKF [.iload_n 1, .aload_n 0, .getfield 28, .arraylength] (by decide +kernel) (ls' := [(0, jR 62), (1, jI v1)]) (st' := [jI 21, jI v1]) rfl (p1 := 16) rfl ?_
      refine J_icmp_ge B.1 (off := 22) (tgt := 38) (by decide +kernel) (by decide) hf (fun hf => ?_) (fun hf => ?_)
      · refine B_blk B jlkX3_ok jcl_SKF [.iconst 0] (by decide +kernel) (ls' := [(0, jR 62), (1, jI v1)]) (st' := [jI 0]) rfl (p1 := 39) rfl ?_
        cases hf
        exact B_retZ B (Or.inl rfl) hq rfl (Nat.le_of_ble_eq_true rfl) (Nat.le_of_ble_eq_true rfl) (by decide +kernel)
      · refine B_blk B jlkX3_ok jcl_SKF [.aload_n 0, .getfield 28, .iload_n 1] (by decide +kernel) (ls' := [(0, jR 62), (1, jI v1)]) (st' := [jI v1, jR 65]) rfl (p1 := 24) rfl ?_
        obtain ⟨g1, hf⟩ := jgd hf
        refine K_iald (lenI := 21) B rfl rfl g1 (by decide +kernel) ?_
        refine B_blk B jlkX3_ok jcl_SKF [.bipush 120] (by decide +kernel) (ls' := [(0, jR 62), (1, jI v1)]) (st' := [jI 120, jI (m 65 v1)]) rfl (p1 := 27) rfl ?_
        refine J_icmp_ne B.1 (off := 5) (tgt := 32) (by decide +kernel) (by decide) hf (fun hf => ?_) (fun hf => ?_)
        · refine B_blk B jlkX3_ok jcl_SKF [.iconst 1] (by decide +kernel) (ls' := [(0, jR 62), (1, jI v1)]) (st' := [jI 1]) rfl (p1 := 31) rfl ?_
          cases hf
          exact B_retZ B (Or.inr rfl) hq rfl (Nat.le_of_ble_eq_true rfl) (Nat.le_of_ble_eq_true rfl) (by decide +kernel)
        · refine B_blk B jlkX3_ok jcl_SKF [.iinc 1 1, .goto (-33)] (by decide +kernel) (ls' := [(0, jR 62), (1, jI (jW (v1 + 1)))]) (st' := []) rfl (p1 := 2) rfl ?_
          exact ih (jW (v1 + 1)) m _ hf hq
theorem t_X3_hasOpening {l : Launch} {G : jG} (hl : l.stackTraces = false) {m : jMu} {r : Int} (hf : f_X3_hasOpening m = some r) : jCt l G yX3_hasOpening (.code yX3_hasOpening cX3_hasOpening 2 (some .boolean) :: jWG) rm_X3_hasOpening [jR 62] SKF m (.inl (some (jI r))) SKF m := by
  unfold f_X3_hasOpening at hf
  refine J_start (ls0 := [(0, jR 62)]) (by decide +kernel) hl (Nat.le_of_ble_eq_true rfl) rfl fun X C hN hn hR hr hnm hno hq => ?_
  have B : jB X cX3_hasOpening RX3 2 SKF.length rm_X3_hasOpening (some .boolean) := ⟨C, hN, Nat.le_of_eq hn, hR, hr⟩
  refine B_blk B jlkX3_ok jcl_SKF [.iconst 0, .istore_n 1] (by decide +kernel) (ls' := [(0, jR 62), (1, jI 0)]) (st' := []) rfl (p1 := 2) rfl ?_
  exact t_X3_hasOpening_L2 B jFU 0 m _ hf hq

def rm_X3_closeParts : Room := { frames := 8, cells := 0, slots := 0, locals := 132 }
def f_X3_closeParts_L2 : Nat → Int → jMu → Option jMu
  | 0, _, _ => none
  | q + 1, v1, m => (if 21 < v1 then some m else (f_X3_lastWaiting m).bind fun r1 => (if r1 = 107 then (f_X3_write 107 m).bind fun r2 => (jlt (jup r2 62 6 (jW (r2 62 6 - 1))) fun m3 => (jlt (jup m3 62 7 (jW (m3 62 7 - 1))) fun m4 => f_X3_closeParts_L2 q (jW (v1 + 1)) m4)) else (if m 62 9 = 121 then (f_X3_hasOpening m).bind fun r5 => (if r5 = 0 then some m else (f_X3_writeWaiting 105 m).bind fun r6 => (jlt (jup r6 62 6 (jW (r6 62 6 - 1))) fun m7 => (jlt (jup m7 62 7 (jW (m7 62 7 - 1))) fun m8 => (f_X3_step m8).bind fun r9 => f_X3_closeParts_L2 q (jW (v1 + 1)) r9))) else some m)))
def f_X3_closeParts (m : jMu) : Option jMu :=
  f_X3_closeParts_L2 jFU 0 m
theorem t_X3_closeParts_L2 {X : jX} (B : jB X cX3_closeParts RX3 2 SKF.length rm_X3_closeParts none) : ∀ (q : Nat) (v1 : Int) (m : jMu) (r : jMu), f_X3_closeParts_L2 q v1 m = some r → jQ X (.inl none) SKF r rm_X3_closeParts.cells rm_X3_closeParts.slots → J X SKF m 0 0 2 [(0, jR 62), (1, jI v1)] [] := by
  intro q
  induction q with
  | zero =>
    intro v1 m r hf
    rw [f_X3_closeParts_L2] at hf
    cases hf
  | succ q ih =>
    intro v1 m r hf hq
    rw [f_X3_closeParts_L2] at hf
    refine B_blk B jlkX3_ok jcl_SKF [.iload_n 1, .bipush 21] (by decide +kernel) (ls' := [(0, jR 62), (1, jI v1)]) (st' := [jI 21, jI v1]) rfl (p1 := 5) rfl ?_
    refine J_icmp_gt B.1 (off := 97) (tgt := 102) (by decide +kernel) (by decide) hf (fun hf => ?_) (fun hf => ?_)
    · cases hf
      exact B_retV B hq rfl (Nat.le_of_ble_eq_true rfl) (Nat.le_of_ble_eq_true rfl) (by decide +kernel)
    · refine B_blk B jlkX3_ok jcl_SKF [.aload_n 0] (by decide +kernel) (ls' := [(0, jR 62), (1, jI v1)]) (st' := [jR 62]) rfl (p1 := 9) rfl ?_
      obtain ⟨r1, h1, hf⟩ := jbd hf
      refine B_callV B (Nat.le_refl _) (μ' := m) (k' := 0) (n' := 0) ca_X3_lastWaiting in_X3_lastWaiting se_X3_lastWaiting lk_X3_167 (t_X3_lastWaiting B.tr h1) (Nat.le_refl _) rfl rfl rfl (rest := []) rfl rfl (Nat.le_of_ble_eq_true rfl) (by decide +kernel) rfl rfl (st' := [jI r1]) rfl ?_
      refine B_blk B jlkX3_ok jcl_SKF [.bipush 107] (by decide +kernel) (ls' := [(0, jR 62), (1, jI v1)]) (st' := [jI 107, jI r1]) rfl (p1 := 14) rfl ?_
      refine J_icmp_ne B.1 (off := 32) (tgt := 46) (by decide +kernel) (by decide) hf (fun hf => ?_) (fun hf => ?_)
      · refine B_blk B jlkX3_ok jcl_SKF [.aload_n 0, .bipush 107] (by decide +kernel) (ls' := [(0, jR 62), (1, jI v1)]) (st' := [jI 107, jR 62]) rfl (p1 := 20) rfl ?_
        obtain ⟨r2, h2, hf⟩ := jbd hf
        refine B_callV B (Nat.le_refl _) (μ' := r2) (k' := 0) (n' := 0) ca_X3_write in_X3_write se_X3_write lk_X3_158 (t_X3_write B.tr h2) (Nat.le_refl _) rfl rfl rfl (rest := []) rfl rfl (Nat.le_of_ble_eq_true rfl) (by decide +kernel) rfl rfl (st' := []) rfl ?_
        refine B_blk B jlkX3_ok jcl_SKF [.aload_n 0, .dup, .getfield 136, .iconst 1, .isub] (by decide +kernel) (ls' := [(0, jR 62), (1, jI v1)]) (st' := [jI (jW (r2 62 6 - 1)), jR 62]) rfl (p1 := 30) rfl ?_
        refine K_putI (jI' := 6) B jp_X3_136 rfl rfl rfl (by decide +kernel) ?_
        obtain ⟨m3, hm3, hf⟩ := jlt_s hf
        rw [hm3]
        refine B_blk B jlkX3_ok jcl_SKF [.aload_n 0, .dup, .getfield 139, .iconst 1, .isub] (by decide +kernel) (ls' := [(0, jR 62), (1, jI v1)]) (st' := [jI (jW (m3 62 7 - 1)), jR 62]) rfl (p1 := 40) rfl ?_
        refine K_putI (jI' := 7) B jp_X3_139 rfl rfl rfl (by decide +kernel) ?_
        obtain ⟨m4, hm4, hf⟩ := jlt_s hf
        rw [hm4]
        refine B_blk B jlkX3_ok jcl_SKF [.goto 53, .iinc 1 1, .goto (-97)] (by decide +kernel) (ls' := [(0, jR 62), (1, jI (jW (v1 + 1)))]) (st' := []) rfl (p1 := 2) rfl ?_
        exact ih (jW (v1 + 1)) m4 _ hf hq
      · refine B_blk B jlkX3_ok jcl_SKF [.aload_n 0, .getfield 41, .bipush 121] (by decide +kernel) (ls' := [(0, jR 62), (1, jI v1)]) (st' := [jI 121, jI (m 62 9)]) rfl (p1 := 52) rfl ?_
        refine J_icmp_ne B.1 (off := 43) (tgt := 95) (by decide +kernel) (by decide) hf (fun hf => ?_) (fun hf => ?_)
        · refine B_blk B jlkX3_ok jcl_SKF [.aload_n 0] (by decide +kernel) (ls' := [(0, jR 62), (1, jI v1)]) (st' := [jR 62]) rfl (p1 := 56) rfl ?_
          obtain ⟨r5, h5, hf⟩ := jbd hf
          refine B_callV B (Nat.le_refl _) (μ' := m) (k' := 0) (n' := 0) ca_X3_hasOpening in_X3_hasOpening se_X3_hasOpening lk_X3_170 (t_X3_hasOpening B.tr h5) (Nat.le_refl _) rfl rfl rfl (rest := []) rfl rfl (Nat.le_of_ble_eq_true rfl) (by decide +kernel) rfl rfl (st' := [jI r5]) rfl ?_
          refine J_if_eq B.1 (off := 36) (tgt := 95) (by decide +kernel) (by decide) hf (fun hf => ?_) (fun hf => ?_)
          · cases hf
            exact B_retV B hq rfl (Nat.le_of_ble_eq_true rfl) (Nat.le_of_ble_eq_true rfl) (by decide +kernel)
          · refine B_blk B jlkX3_ok jcl_SKF [.aload_n 0, .bipush 105] (by decide +kernel) (ls' := [(0, jR 62), (1, jI v1)]) (st' := [jI 105, jR 62]) rfl (p1 := 65) rfl ?_
            obtain ⟨r6, h6, hf⟩ := jbd hf
            refine B_callV B (Nat.le_refl _) (μ' := r6) (k' := 0) (n' := 0) ca_X3_writeWaiting in_X3_writeWaiting se_X3_writeWaiting lk_X3_148 (t_X3_writeWaiting B.tr h6) (Nat.le_refl _) rfl rfl rfl (rest := []) rfl rfl (Nat.le_of_ble_eq_true rfl) (by decide +kernel) rfl rfl (st' := []) rfl ?_
            refine B_blk B jlkX3_ok jcl_SKF [.aload_n 0, .dup, .getfield 136, .iconst 1, .isub] (by decide +kernel) (ls' := [(0, jR 62), (1, jI v1)]) (st' := [jI (jW (r6 62 6 - 1)), jR 62]) rfl (p1 := 75) rfl ?_
            refine K_putI (jI' := 6) B jp_X3_136 rfl rfl rfl (by decide +kernel) ?_
            obtain ⟨m7, hm7, hf⟩ := jlt_s hf
            rw [hm7]
            refine B_blk B jlkX3_ok jcl_SKF [.aload_n 0, .dup, .getfield 139, .iconst 1, .isub] (by decide +kernel) (ls' := [(0, jR 62), (1, jI v1)]) (st' := [jI (jW (m7 62 7 - 1)), jR 62]) rfl (p1 := 85) rfl ?_
            refine K_putI (jI' := 7) B jp_X3_139 rfl rfl rfl (by decide +kernel) ?_
            obtain ⟨m8, hm8, hf⟩ := jlt_s hf
            rw [hm8]
            refine B_blk B jlkX3_ok jcl_SKF [.aload_n 0] (by decide +kernel) (ls' := [(0, jR 62), (1, jI v1)]) (st' := [jR 62]) rfl (p1 := 89) rfl ?_
            obtain ⟨r9, h9, hf⟩ := jbd hf
            refine B_callV B (Nat.le_refl _) (μ' := r9) (k' := 0) (n' := 0) ca_X3_step in_X3_step se_X3_step lk_X3_38 (t_X3_step B.tr h9) (Nat.le_refl _) rfl rfl rfl (rest := []) rfl rfl (Nat.le_of_ble_eq_true rfl) (by decide +kernel) rfl rfl (st' := []) rfl ?_
            refine B_blk B jlkX3_ok jcl_SKF [.goto 4, .iinc 1 1, .goto (-97)] (by decide +kernel) (ls' := [(0, jR 62), (1, jI (jW (v1 + 1)))]) (st' := []) rfl (p1 := 2) rfl ?_
            exact ih (jW (v1 + 1)) r9 _ hf hq
        · cases hf
          exact B_retV B hq rfl (Nat.le_of_ble_eq_true rfl) (Nat.le_of_ble_eq_true rfl) (by decide +kernel)
theorem t_X3_closeParts {l : Launch} {G : jG} (hl : l.stackTraces = false) {m : jMu} {r : jMu} (hf : f_X3_closeParts m = some r) : jCt l G yX3_closeParts (.code yX3_closeParts cX3_closeParts 2 none :: jWG) rm_X3_closeParts [jR 62] SKF m (.inl none) SKF r := by
  unfold f_X3_closeParts at hf
  refine J_start (ls0 := [(0, jR 62)]) (by decide +kernel) hl (Nat.le_of_ble_eq_true rfl) rfl fun X C hN hn hR hr hnm hno hq => ?_
  have B : jB X cX3_closeParts RX3 2 SKF.length rm_X3_closeParts none := ⟨C, hN, Nat.le_of_eq hn, hR, hr⟩
  refine B_blk B jlkX3_ok jcl_SKF [.iconst 0, .istore_n 1] (by decide +kernel) (ls' := [(0, jR 62), (1, jI 0)]) (st' := []) rfl (p1 := 2) rfl ?_
  exact t_X3_closeParts_L2 B jFU 0 m _ hf hq

def rm_X3_readCondition : Room := { frames := 10, cells := 0, slots := 0, locals := 153 }
def f_X3_readCondition_L14 : Nat → Int → Int → jMu → Option (Int × jMu)
  | 0, _, _, _ => none
  | q + 1, v1, v2, m => (if 400 < v2 then (f_X3_writeWaiting 105 m).bind fun r3 => (if r3 62 6 = 0 then some (1, r3) else some (0, r3)) else (if v1 = 0 then (f_X3_writeWaiting 105 m).bind fun r4 => (if r4 62 6 = 0 then some (1, r4) else some (0, r4)) else (f_X3_readAtom m).bind fun r5 => (if r5.1 = 0 then some (0, r5.2) else (f_X3_closeParts r5.2).bind fun r6 => (if r6 62 9 = 106 then (f_X3_writeWaiting (r6 62 9) r6).bind fun r7 => (f_X3_addWaiting (r7 62 9) r7).bind fun r8 => (f_X3_step r8).bind fun r9 => f_X3_readCondition_L14 q 1 (jW (v2 + 1)) r9 else (if r6 62 9 = 105 then (f_X3_writeWaiting (r6 62 9) r6).bind fun r10 => (f_X3_addWaiting (r10 62 9) r10).bind fun r11 => (f_X3_step r11).bind fun r12 => f_X3_readCondition_L14 q 1 (jW (v2 + 1)) r12 else f_X3_readCondition_L14 q 0 (jW (v2 + 1)) r6)))))
def f_X3_readCondition (m : jMu) : Option (Int × jMu) :=
  (jlt (jup m 62 6 0) fun m1 => (jlt (jup m1 62 7 0) fun m2 => f_X3_readCondition_L14 jFU 1 0 m2))
theorem t_X3_readCondition_L14 {X : jX} (B : jB X cX3_readCondition RX3 3 SKF.length rm_X3_readCondition (some .boolean)) : ∀ (q : Nat) (v1 : Int) (v2 : Int) (m : jMu) (r : (Int × jMu)), f_X3_readCondition_L14 q v1 v2 m = some r → jQ X (.inl (some (jI r.1))) SKF r.2 rm_X3_readCondition.cells rm_X3_readCondition.slots → J X SKF m 0 0 14 [(0, jR 62), (1, jI v1), (2, jI v2)] [] := by
  intro q
  induction q with
  | zero =>
    intro v1 v2 m r hf
    rw [f_X3_readCondition_L14] at hf
    cases hf
  | succ q ih =>
    intro v1 v2 m r hf hq
    rw [f_X3_readCondition_L14] at hf
    refine B_blk B jlkX3_ok jcl_SKF [.iload_n 2, .sipush 400] (by decide +kernel) (ls' := [(0, jR 62), (1, jI v1), (2, jI v2)]) (st' := [jI 400, jI v2]) rfl (p1 := 18) rfl ?_
    refine J_icmp_gt B.1 (off := 74) (tgt := 92) (by decide +kernel) (by decide) hf (fun hf => ?_) (fun hf => ?_)
    · refine B_blk B jlkX3_ok jcl_SKF [.aload_n 0, .bipush 105] (by decide +kernel) (ls' := [(0, jR 62), (1, jI v1), (2, jI v2)]) (st' := [jI 105, jR 62]) rfl (p1 := 95) rfl ?_
      obtain ⟨r3, h3, hf⟩ := jbd hf
      refine B_callV B (Nat.le_refl _) (μ' := r3) (k' := 0) (n' := 0) ca_X3_writeWaiting in_X3_writeWaiting se_X3_writeWaiting lk_X3_148 (t_X3_writeWaiting B.tr h3) (Nat.le_refl _) rfl rfl rfl (rest := []) rfl rfl (Nat.le_of_ble_eq_true rfl) (by decide +kernel) rfl rfl (st' := []) rfl ?_
      refine B_blk B jlkX3_ok jcl_SKF [.aload_n 0, .getfield 136] (by decide +kernel) (ls' := [(0, jR 62), (1, jI v1), (2, jI v2)]) (st' := [jI (r3 62 6)]) rfl (p1 := 102) rfl ?_
      refine J_if_ne B.1 (off := 7) (tgt := 109) (by decide +kernel) (by decide) hf (fun hf => ?_) (fun hf => ?_)
      · refine B_blk B jlkX3_ok jcl_SKF [.iconst 1, .goto 4] (by decide +kernel) (ls' := [(0, jR 62), (1, jI v1), (2, jI v2)]) (st' := [jI 1]) rfl (p1 := 110) rfl ?_
        cases hf
        exact B_retZ B (Or.inr rfl) hq rfl (Nat.le_of_ble_eq_true rfl) (Nat.le_of_ble_eq_true rfl) (by decide +kernel)
      · refine B_blk B jlkX3_ok jcl_SKF [.iconst 0] (by decide +kernel) (ls' := [(0, jR 62), (1, jI v1), (2, jI v2)]) (st' := [jI 0]) rfl (p1 := 110) rfl ?_
        cases hf
        exact B_retZ B (Or.inl rfl) hq rfl (Nat.le_of_ble_eq_true rfl) (Nat.le_of_ble_eq_true rfl) (by decide +kernel)
    · refine B_blk B jlkX3_ok jcl_SKF [.iload_n 1] (by decide +kernel) (ls' := [(0, jR 62), (1, jI v1), (2, jI v2)]) (st' := [jI v1]) rfl (p1 := 22) rfl ?_
      refine J_if_eq B.1 (off := 70) (tgt := 92) (by decide +kernel) (by decide) hf (fun hf => ?_) (fun hf => ?_)
      · refine B_blk B jlkX3_ok jcl_SKF [.aload_n 0, .bipush 105] (by decide +kernel) (ls' := [(0, jR 62), (1, jI v1), (2, jI v2)]) (st' := [jI 105, jR 62]) rfl (p1 := 95) rfl ?_
        obtain ⟨r4, h4, hf⟩ := jbd hf
        refine B_callV B (Nat.le_refl _) (μ' := r4) (k' := 0) (n' := 0) ca_X3_writeWaiting in_X3_writeWaiting se_X3_writeWaiting lk_X3_148 (t_X3_writeWaiting B.tr h4) (Nat.le_refl _) rfl rfl rfl (rest := []) rfl rfl (Nat.le_of_ble_eq_true rfl) (by decide +kernel) rfl rfl (st' := []) rfl ?_
        refine B_blk B jlkX3_ok jcl_SKF [.aload_n 0, .getfield 136] (by decide +kernel) (ls' := [(0, jR 62), (1, jI v1), (2, jI v2)]) (st' := [jI (r4 62 6)]) rfl (p1 := 102) rfl ?_
        refine J_if_ne B.1 (off := 7) (tgt := 109) (by decide +kernel) (by decide) hf (fun hf => ?_) (fun hf => ?_)
        · refine B_blk B jlkX3_ok jcl_SKF [.iconst 1, .goto 4] (by decide +kernel) (ls' := [(0, jR 62), (1, jI v1), (2, jI v2)]) (st' := [jI 1]) rfl (p1 := 110) rfl ?_
          cases hf
          exact B_retZ B (Or.inr rfl) hq rfl (Nat.le_of_ble_eq_true rfl) (Nat.le_of_ble_eq_true rfl) (by decide +kernel)
        · refine B_blk B jlkX3_ok jcl_SKF [.iconst 0] (by decide +kernel) (ls' := [(0, jR 62), (1, jI v1), (2, jI v2)]) (st' := [jI 0]) rfl (p1 := 110) rfl ?_
          cases hf
          exact B_retZ B (Or.inl rfl) hq rfl (Nat.le_of_ble_eq_true rfl) (Nat.le_of_ble_eq_true rfl) (by decide +kernel)
      · refine B_blk B jlkX3_ok jcl_SKF [.aload_n 0] (by decide +kernel) (ls' := [(0, jR 62), (1, jI v1), (2, jI v2)]) (st' := [jR 62]) rfl (p1 := 26) rfl ?_
        obtain ⟨r5, h5, hf⟩ := jbd hf
        refine B_callV B (Nat.le_refl _) (μ' := r5.2) (k' := 0) (n' := 0) ca_X3_readAtom in_X3_readAtom se_X3_readAtom lk_X3_142 (t_X3_readAtom B.tr h5) (Nat.le_refl _) rfl rfl rfl (rest := []) rfl rfl (Nat.le_of_ble_eq_true rfl) (by decide +kernel) rfl rfl (st' := [jI r5.1]) rfl ?_
        refine J_if_ne B.1 (off := 5) (tgt := 34) (by decide +kernel) (by decide) hf (fun hf => ?_) (fun hf => ?_)
        · refine B_blk B jlkX3_ok jcl_SKF [.iconst 0] (by decide +kernel) (ls' := [(0, jR 62), (1, jI v1), (2, jI v2)]) (st' := [jI 0]) rfl (p1 := 33) rfl ?_
          cases hf
          exact B_retZ B (Or.inl rfl) hq rfl (Nat.le_of_ble_eq_true rfl) (Nat.le_of_ble_eq_true rfl) (by decide +kernel)
        · refine B_blk B jlkX3_ok jcl_SKF [.aload_n 0] (by decide +kernel) (ls' := [(0, jR 62), (1, jI v1), (2, jI v2)]) (st' := [jR 62]) rfl (p1 := 35) rfl ?_
          obtain ⟨r6, h6, hf⟩ := jbd hf
          refine B_callV B (Nat.le_refl _) (μ' := r6) (k' := 0) (n' := 0) ca_X3_closeParts in_X3_closeParts se_X3_closeParts lk_X3_145 (t_X3_closeParts B.tr h6) (Nat.le_refl _) rfl rfl rfl (rest := []) rfl rfl (Nat.le_of_ble_eq_true rfl) (by decide +kernel) rfl rfl (st' := []) rfl ?_
          refine B_blk B jlkX3_ok jcl_SKF [.aload_n 0, .getfield 41, .bipush 106] (by decide +kernel) (ls' := [(0, jR 62), (1, jI v1), (2, jI v2)]) (st' := [jI 106, jI (r6 62 9)]) rfl (p1 := 44) rfl ?_
          refine J_icmp_eq B.1 (off := 12) (tgt := 56) (by decide +kernel) (by decide) hf (fun hf => ?_) (fun hf => ?_)
          · refine B_blk B jlkX3_ok jcl_SKF [.iconst 1, .goto 4, .istore_n 1, .iload_n 1] (by decide +kernel) (ls' := [(0, jR 62), (1, jI 1), (2, jI v2)]) (st' := [jI 1]) rfl (p1 := 63) rfl ?_
            refine J_if_eq (T := none) (F := some ()) (r := ()) B.1 (off := 23) (tgt := 86) (by decide +kernel) (by decide) (if_neg (by decide)) (fun h => nomatch h) (fun _ => ?_)
            refine B_blk B jlkX3_ok jcl_SKF [.aload_n 0, .aload_n 0, .getfield 41] (by decide +kernel) (ls' := [(0, jR 62), (1, jI 1), (2, jI v2)]) (st' := [jI (r6 62 9), jR 62]) rfl (p1 := 71) rfl ?_
            obtain ⟨r7, h7, hf⟩ := jbd hf
            refine B_callV B (Nat.le_refl _) (μ' := r7) (k' := 0) (n' := 0) ca_X3_writeWaiting in_X3_writeWaiting se_X3_writeWaiting lk_X3_148 (t_X3_writeWaiting B.tr h7) (Nat.le_refl _) rfl rfl rfl (rest := []) rfl rfl (Nat.le_of_ble_eq_true rfl) (by decide +kernel) rfl rfl (st' := []) rfl ?_
            refine B_blk B jlkX3_ok jcl_SKF [.aload_n 0, .aload_n 0, .getfield 41] (by decide +kernel) (ls' := [(0, jR 62), (1, jI 1), (2, jI v2)]) (st' := [jI (r7 62 9), jR 62]) rfl (p1 := 79) rfl ?_
            obtain ⟨r8, h8, hf⟩ := jbd hf
            refine B_callV B (Nat.le_refl _) (μ' := r8) (k' := 0) (n' := 0) ca_X3_addWaiting in_X3_addWaiting se_X3_addWaiting lk_X3_152 (t_X3_addWaiting B.tr h8) (Nat.le_refl _) rfl rfl rfl (rest := []) rfl rfl (Nat.le_of_ble_eq_true rfl) (by decide +kernel) rfl rfl (st' := []) rfl ?_
            refine B_blk B jlkX3_ok jcl_SKF [.aload_n 0] (by decide +kernel) (ls' := [(0, jR 62), (1, jI 1), (2, jI v2)]) (st' := [jR 62]) rfl (p1 := 83) rfl ?_
            obtain ⟨r9, h9, hf⟩ := jbd hf
            refine B_callV B (Nat.le_refl _) (μ' := r9) (k' := 0) (n' := 0) ca_X3_step in_X3_step se_X3_step lk_X3_38 (t_X3_step B.tr h9) (Nat.le_refl _) rfl rfl rfl (rest := []) rfl rfl (Nat.le_of_ble_eq_true rfl) (by decide +kernel) rfl rfl (st' := []) rfl ?_
            refine B_blk B jlkX3_ok jcl_SKF [.iinc 2 1, .goto (-75)] (by decide +kernel) (ls' := [(0, jR 62), (1, jI 1), (2, jI (jW (v2 + 1)))]) (st' := []) rfl (p1 := 14) rfl ?_
            exact ih 1 (jW (v2 + 1)) r9 _ hf hq
          · refine B_blk B jlkX3_ok jcl_SKF [.aload_n 0, .getfield 41, .bipush 105] (by decide +kernel) (ls' := [(0, jR 62), (1, jI v1), (2, jI v2)]) (st' := [jI 105, jI (r6 62 9)]) rfl (p1 := 53) rfl ?_
            refine J_icmp_ne B.1 (off := 7) (tgt := 60) (by decide +kernel) (by decide) hf (fun hf => ?_) (fun hf => ?_)
            · refine B_blk B jlkX3_ok jcl_SKF [.iconst 1, .goto 4, .istore_n 1, .iload_n 1] (by decide +kernel) (ls' := [(0, jR 62), (1, jI 1), (2, jI v2)]) (st' := [jI 1]) rfl (p1 := 63) rfl ?_
              refine J_if_eq (T := none) (F := some ()) (r := ()) B.1 (off := 23) (tgt := 86) (by decide +kernel) (by decide) (if_neg (by decide)) (fun h => nomatch h) (fun _ => ?_)
              refine B_blk B jlkX3_ok jcl_SKF [.aload_n 0, .aload_n 0, .getfield 41] (by decide +kernel) (ls' := [(0, jR 62), (1, jI 1), (2, jI v2)]) (st' := [jI (r6 62 9), jR 62]) rfl (p1 := 71) rfl ?_
              obtain ⟨r10, h10, hf⟩ := jbd hf
              refine B_callV B (Nat.le_refl _) (μ' := r10) (k' := 0) (n' := 0) ca_X3_writeWaiting in_X3_writeWaiting se_X3_writeWaiting lk_X3_148 (t_X3_writeWaiting B.tr h10) (Nat.le_refl _) rfl rfl rfl (rest := []) rfl rfl (Nat.le_of_ble_eq_true rfl) (by decide +kernel) rfl rfl (st' := []) rfl ?_
              refine B_blk B jlkX3_ok jcl_SKF [.aload_n 0, .aload_n 0, .getfield 41] (by decide +kernel) (ls' := [(0, jR 62), (1, jI 1), (2, jI v2)]) (st' := [jI (r10 62 9), jR 62]) rfl (p1 := 79) rfl ?_
              obtain ⟨r11, h11, hf⟩ := jbd hf
              refine B_callV B (Nat.le_refl _) (μ' := r11) (k' := 0) (n' := 0) ca_X3_addWaiting in_X3_addWaiting se_X3_addWaiting lk_X3_152 (t_X3_addWaiting B.tr h11) (Nat.le_refl _) rfl rfl rfl (rest := []) rfl rfl (Nat.le_of_ble_eq_true rfl) (by decide +kernel) rfl rfl (st' := []) rfl ?_
              refine B_blk B jlkX3_ok jcl_SKF [.aload_n 0] (by decide +kernel) (ls' := [(0, jR 62), (1, jI 1), (2, jI v2)]) (st' := [jR 62]) rfl (p1 := 83) rfl ?_
              obtain ⟨r12, h12, hf⟩ := jbd hf
              refine B_callV B (Nat.le_refl _) (μ' := r12) (k' := 0) (n' := 0) ca_X3_step in_X3_step se_X3_step lk_X3_38 (t_X3_step B.tr h12) (Nat.le_refl _) rfl rfl rfl (rest := []) rfl rfl (Nat.le_of_ble_eq_true rfl) (by decide +kernel) rfl rfl (st' := []) rfl ?_
              refine B_blk B jlkX3_ok jcl_SKF [.iinc 2 1, .goto (-75)] (by decide +kernel) (ls' := [(0, jR 62), (1, jI 1), (2, jI (jW (v2 + 1)))]) (st' := []) rfl (p1 := 14) rfl ?_
              exact ih 1 (jW (v2 + 1)) r12 _ hf hq
            · refine B_blk B jlkX3_ok jcl_SKF [.iconst 0, .istore_n 1, .iload_n 1] (by decide +kernel) (ls' := [(0, jR 62), (1, jI 0), (2, jI v2)]) (st' := [jI 0]) rfl (p1 := 63) rfl ?_
              refine J_if_eq (T := some ()) (F := none) (r := ()) B.1 (off := 23) (tgt := 86) (by decide +kernel) (by decide) (if_pos (by decide)) (fun _ => ?_) (fun h => nomatch h)
              refine B_blk B jlkX3_ok jcl_SKF [.iinc 2 1, .goto (-75)] (by decide +kernel) (ls' := [(0, jR 62), (1, jI 0), (2, jI (jW (v2 + 1)))]) (st' := []) rfl (p1 := 14) rfl ?_
              exact ih 0 (jW (v2 + 1)) r6 _ hf hq
theorem t_X3_readCondition {l : Launch} {G : jG} (hl : l.stackTraces = false) {m : jMu} {r : (Int × jMu)} (hf : f_X3_readCondition m = some r) : jCt l G yX3_readCondition (.code yX3_readCondition cX3_readCondition 3 (some .boolean) :: jWG) rm_X3_readCondition [jR 62] SKF m (.inl (some (jI r.1))) SKF r.2 := by
  unfold f_X3_readCondition at hf
  refine J_start (ls0 := [(0, jR 62)]) (by decide +kernel) hl (Nat.le_of_ble_eq_true rfl) rfl fun X C hN hn hR hr hnm hno hq => ?_
  have B : jB X cX3_readCondition RX3 3 SKF.length rm_X3_readCondition (some .boolean) := ⟨C, hN, Nat.le_of_eq hn, hR, hr⟩
  refine B_blk B jlkX3_ok jcl_SKF [.aload_n 0, .iconst 0] (by decide +kernel) (ls' := [(0, jR 62)]) (st' := [jI 0, jR 62]) rfl (p1 := 2) rfl ?_
  refine K_putI (jI' := 6) B jp_X3_136 rfl rfl rfl (by decide +kernel) ?_
  obtain ⟨m1, hm1, hf⟩ := jlt_s hf
  rw [hm1]
  refine B_blk B jlkX3_ok jcl_SKF [.aload_n 0, .iconst 0] (by decide +kernel) (ls' := [(0, jR 62)]) (st' := [jI 0, jR 62]) rfl (p1 := 7) rfl ?_
  refine K_putI (jI' := 7) B jp_X3_139 rfl rfl rfl (by decide +kernel) ?_
  obtain ⟨m2, hm2, hf⟩ := jlt_s hf
  rw [hm2]
  refine B_blk B jlkX3_ok jcl_SKF [.iconst 1, .istore_n 1, .iconst 0, .istore_n 2] (by decide +kernel) (ls' := [(0, jR 62), (1, jI 1), (2, jI 0)]) (st' := []) rfl (p1 := 14) rfl ?_
  exact t_X3_readCondition_L14 B jFU 1 0 m2 _ hf hq

def rm_X3_readLine : Room := { frames := 12, cells := 0, slots := 0, locals := 175 }
def f_X3_readLine_J108 (v1 : Int) (v2 : Int) (v3 : Int) (m : jMu) : Option (Int × jMu) :=
  (f_X5_addRow 16 17 160 m).bind fun r5 => (f_X5_set 16 17 160 r5.1 0 v1 r5.2).bind fun r6 => (f_X5_set 16 17 160 r5.1 1 v2 r6).bind fun r7 => (f_X5_set 16 17 160 r5.1 2 v3 r7).bind fun r8 => (f_X5_size 18 19 1600 r8).bind fun r9 => (f_X5_set 16 17 160 r5.1 3 r9 r8).bind fun r10 => some (1, r10)
def f_X3_readLine_J67 (v1 : Int) (v2 : Int) (m : jMu) : Option (Int × jMu) :=
  (f_X5_size 18 19 1600 m).bind fun r2 => (if m 62 9 = 104 then (f_X3_step m).bind fun r3 => (f_X3_readCondition r3).bind fun r4 => (if r4.1 = 0 then some (0, r4.2) else f_X3_readLine_J108 v1 v2 r2 r4.2) else (if v1 = 100 then some (0, m) else f_X3_readLine_J108 v1 v2 r2 m))
def f_X3_readLine_J58 (v1 : Int) (m : jMu) : Option (Int × jMu) :=
  (f_X3_step m).bind fun r12 => f_X3_readLine_J67 v1 (m 62 9) r12
def f_X3_readLine (m : jMu) : Option (Int × jMu) :=
  (if m 62 9 < 100 then some (0, m) else (if m 62 9 ≤ 103 then (f_X3_step m).bind fun r1 => (if m 62 9 = 100 then f_X3_readLine_J67 (m 62 9) 0 r1 else (f_X7_isNumber (r1 62 9)).bind fun r11 => (if r11 = 0 then some (0, r1) else (if m 62 9 = 101 then (if r1 62 9 ≤ 48 then f_X3_readLine_J58 (m 62 9) r1 else some (0, r1)) else f_X3_readLine_J58 (m 62 9) r1))) else some (0, m)))
theorem t_X3_readLine_J108 {X : jX} (B : jB X cX3_readLine RX3 5 SKF.length rm_X3_readLine (some .boolean)) (v1 : Int) (v2 : Int) (v3 : Int) (m : jMu) (r : (Int × jMu)) (hf : f_X3_readLine_J108 v1 v2 v3 m = some r) (hq : jQ X (.inl (some (jI r.1))) SKF r.2 rm_X3_readLine.cells rm_X3_readLine.slots) : J X SKF m 0 0 108 [(0, jR 62), (1, jI v1), (2, jI v2), (3, jI v3)] [] := by
  unfold f_X3_readLine_J108 at hf
  refine B_blk B jlkX3_ok jcl_SKF [.aload_n 0, .getfield 15, .getfield 126] (by decide +kernel) (ls' := [(0, jR 62), (1, jI v1), (2, jI v2), (3, jI v3)]) (st' := [jR 16]) rfl (p1 := 115) rfl ?_
  obtain ⟨r5, h5, hf⟩ := jbd hf
  refine B_callV B (Nat.le_refl _) (μ' := r5.2) (k' := 0) (n' := 0) ca_X5_addRow in_X5_addRow se_X5_addRow lk_X3_129 (t_X5_addRow B.tr jcl_SKF ⟨rfl, rfl, by decide⟩ h5) (Nat.le_refl _) rfl rfl rfl (rest := []) rfl rfl (Nat.le_of_ble_eq_true rfl) (by decide +kernel) rfl rfl (st' := [jI r5.1]) rfl ?_
  refine B_blk B jlkX3_ok jcl_SKF [.istore 4, .aload_n 0, .getfield 15, .getfield 126, .iload 4, .iconst 0, .iload_n 1] (by decide +kernel) (ls' := [(0, jR 62), (1, jI v1), (2, jI v2), (3, jI v3), (4, jI r5.1)]) (st' := [jI v1, jI 0, jI r5.1, jR 16]) rfl (p1 := 131) rfl ?_
  obtain ⟨r6, h6, hf⟩ := jbd hf
  refine B_callV B (Nat.le_refl _) (μ' := r6) (k' := 0) (n' := 0) ca_X5_set in_X5_set se_X5_set lk_X3_132 (t_X5_set B.tr jcl_SKF ⟨rfl, rfl, by decide⟩ h6) (Nat.le_refl _) rfl rfl rfl (rest := []) rfl rfl (Nat.le_of_ble_eq_true rfl) (by decide +kernel) rfl rfl (st' := []) rfl ?_
  refine B_blk B jlkX3_ok jcl_SKF [.aload_n 0, .getfield 15, .getfield 126, .iload 4, .iconst 1, .iload_n 2] (by decide +kernel) (ls' := [(0, jR 62), (1, jI v1), (2, jI v2), (3, jI v3), (4, jI r5.1)]) (st' := [jI v2, jI 1, jI r5.1, jR 16]) rfl (p1 := 145) rfl ?_
  obtain ⟨r7, h7, hf⟩ := jbd hf
  refine B_callV B (Nat.le_refl _) (μ' := r7) (k' := 0) (n' := 0) ca_X5_set in_X5_set se_X5_set lk_X3_132 (t_X5_set B.tr jcl_SKF ⟨rfl, rfl, by decide⟩ h7) (Nat.le_refl _) rfl rfl rfl (rest := []) rfl rfl (Nat.le_of_ble_eq_true rfl) (by decide +kernel) rfl rfl (st' := []) rfl ?_
  refine B_blk B jlkX3_ok jcl_SKF [.aload_n 0, .getfield 15, .getfield 126, .iload 4, .iconst 2, .iload_n 3] (by decide +kernel) (ls' := [(0, jR 62), (1, jI v1), (2, jI v2), (3, jI v3), (4, jI r5.1)]) (st' := [jI v3, jI 2, jI r5.1, jR 16]) rfl (p1 := 159) rfl ?_
  obtain ⟨r8, h8, hf⟩ := jbd hf
  refine B_callV B (Nat.le_refl _) (μ' := r8) (k' := 0) (n' := 0) ca_X5_set in_X5_set se_X5_set lk_X3_132 (t_X5_set B.tr jcl_SKF ⟨rfl, rfl, by decide⟩ h8) (Nat.le_refl _) rfl rfl rfl (rest := []) rfl rfl (Nat.le_of_ble_eq_true rfl) (by decide +kernel) rfl rfl (st' := []) rfl ?_
  refine B_blk B jlkX3_ok jcl_SKF [.aload_n 0, .getfield 15, .getfield 126, .iload 4, .iconst 3, .aload_n 0, .getfield 15, .getfield 112] (by decide +kernel) (ls' := [(0, jR 62), (1, jI v1), (2, jI v2), (3, jI v3), (4, jI r5.1)]) (st' := [jR 18, jI 3, jI r5.1, jR 16]) rfl (p1 := 179) rfl ?_
  obtain ⟨r9, h9, hf⟩ := jbd hf
  refine B_callV B (Nat.le_refl _) (μ' := r8) (k' := 0) (n' := 0) ca_X5_size in_X5_size se_X5_size lk_X3_118 (t_X5_size B.tr jcl_SKF ⟨rfl, rfl, by decide⟩ h9) (Nat.le_refl _) rfl rfl rfl (rest := [jI 3, jI r5.1, jR 16]) rfl rfl (Nat.le_of_ble_eq_true rfl) (by decide +kernel) rfl rfl (st' := [jI r9, jI 3, jI r5.1, jR 16]) rfl ?_
  obtain ⟨r10, h10, hf⟩ := jbd hf
  refine B_callV B (Nat.le_refl _) (μ' := r10) (k' := 0) (n' := 0) ca_X5_set in_X5_set se_X5_set lk_X3_132 (t_X5_set B.tr jcl_SKF ⟨rfl, rfl, by decide⟩ h10) (Nat.le_refl _) rfl rfl rfl (rest := []) rfl rfl (Nat.le_of_ble_eq_true rfl) (by decide +kernel) rfl rfl (st' := []) rfl ?_
  refine B_blk B jlkX3_ok jcl_SKF [.iconst 1] (by decide +kernel) (ls' := [(0, jR 62), (1, jI v1), (2, jI v2), (3, jI v3), (4, jI r5.1)]) (st' := [jI 1]) rfl (p1 := 186) rfl ?_
  cases hf
  exact B_retZ B (Or.inr rfl) hq rfl (Nat.le_of_ble_eq_true rfl) (Nat.le_of_ble_eq_true rfl) (by decide +kernel)
theorem t_X3_readLine_J67 {X : jX} (B : jB X cX3_readLine RX3 5 SKF.length rm_X3_readLine (some .boolean)) (v1 : Int) (v2 : Int) (m : jMu) (r : (Int × jMu)) (hf : f_X3_readLine_J67 v1 v2 m = some r) (hq : jQ X (.inl (some (jI r.1))) SKF r.2 rm_X3_readLine.cells rm_X3_readLine.slots) : J X SKF m 0 0 67 [(0, jR 62), (1, jI v1), (2, jI v2)] [] := by
  unfold f_X3_readLine_J67 at hf
  refine B_blk B jlkX3_ok jcl_SKF [.aload_n 0, .getfield 15, .getfield 112] (by decide +kernel) (ls' := [(0, jR 62), (1, jI v1), (2, jI v2)]) (st' := [jR 18]) rfl (p1 := 74) rfl ?_
  obtain ⟨r2, h2, hf⟩ := jbd hf
  refine B_callV B (Nat.le_refl _) (μ' := m) (k' := 0) (n' := 0) ca_X5_size in_X5_size se_X5_size lk_X3_118 (t_X5_size B.tr jcl_SKF ⟨rfl, rfl, by decide⟩ h2) (Nat.le_refl _) rfl rfl rfl (rest := []) rfl rfl (Nat.le_of_ble_eq_true rfl) (by decide +kernel) rfl rfl (st' := [jI r2]) rfl ?_
  refine B_blk B jlkX3_ok jcl_SKF [.istore_n 3, .aload_n 0, .getfield 41, .bipush 104] (by decide +kernel) (ls' := [(0, jR 62), (1, jI v1), (2, jI v2), (3, jI r2)]) (st' := [jI 104, jI (m 62 9)]) rfl (p1 := 84) rfl ?_
  refine J_icmp_ne B.1 (off := 16) (tgt := 100) (by decide +kernel) (by decide) hf (fun hf => ?_) (fun hf => ?_)
  · refine B_blk B jlkX3_ok jcl_SKF [.aload_n 0] (by decide +kernel) (ls' := [(0, jR 62), (1, jI v1), (2, jI v2), (3, jI r2)]) (st' := [jR 62]) rfl (p1 := 88) rfl ?_
    obtain ⟨r3, h3, hf⟩ := jbd hf
    refine B_callV B (Nat.le_refl _) (μ' := r3) (k' := 0) (n' := 0) ca_X3_step in_X3_step se_X3_step lk_X3_38 (t_X3_step B.tr h3) (Nat.le_refl _) rfl rfl rfl (rest := []) rfl rfl (Nat.le_of_ble_eq_true rfl) (by decide +kernel) rfl rfl (st' := []) rfl ?_
    refine B_blk B jlkX3_ok jcl_SKF [.aload_n 0] (by decide +kernel) (ls' := [(0, jR 62), (1, jI v1), (2, jI v2), (3, jI r2)]) (st' := [jR 62]) rfl (p1 := 92) rfl ?_
    obtain ⟨r4, h4, hf⟩ := jbd hf
    refine B_callV B (Nat.le_refl _) (μ' := r4.2) (k' := 0) (n' := 0) ca_X3_readCondition in_X3_readCondition se_X3_readCondition lk_X3_123 (t_X3_readCondition B.tr h4) (Nat.le_refl _) rfl rfl rfl (rest := []) rfl rfl (Nat.le_of_ble_eq_true rfl) (by decide +kernel) rfl rfl (st' := [jI r4.1]) rfl ?_
    refine J_if_ne B.1 (off := 13) (tgt := 108) (by decide +kernel) (by decide) hf (fun hf => ?_) (fun hf => ?_)
    · refine B_blk B jlkX3_ok jcl_SKF [.iconst 0] (by decide +kernel) (ls' := [(0, jR 62), (1, jI v1), (2, jI v2), (3, jI r2)]) (st' := [jI 0]) rfl (p1 := 99) rfl ?_
      cases hf
      exact B_retZ B (Or.inl rfl) hq rfl (Nat.le_of_ble_eq_true rfl) (Nat.le_of_ble_eq_true rfl) (by decide +kernel)
    · exact t_X3_readLine_J108 B v1 v2 r2 r4.2 _ hf hq
  · refine B_blk B jlkX3_ok jcl_SKF [.iload_n 1, .bipush 100] (by decide +kernel) (ls' := [(0, jR 62), (1, jI v1), (2, jI v2), (3, jI r2)]) (st' := [jI 100, jI v1]) rfl (p1 := 103) rfl ?_
    refine J_icmp_ne B.1 (off := 5) (tgt := 108) (by decide +kernel) (by decide) hf (fun hf => ?_) (fun hf => ?_)
    · refine B_blk B jlkX3_ok jcl_SKF [.iconst 0] (by decide +kernel) (ls' := [(0, jR 62), (1, jI v1), (2, jI v2), (3, jI r2)]) (st' := [jI 0]) rfl (p1 := 107) rfl ?_
      cases hf
      exact B_retZ B (Or.inl rfl) hq rfl (Nat.le_of_ble_eq_true rfl) (Nat.le_of_ble_eq_true rfl) (by decide +kernel)
    · exact t_X3_readLine_J108 B v1 v2 r2 m _ hf hq
theorem t_X3_readLine_J58 {X : jX} (B : jB X cX3_readLine RX3 5 SKF.length rm_X3_readLine (some .boolean)) (v1 : Int) (m : jMu) (r : (Int × jMu)) (hf : f_X3_readLine_J58 v1 m = some r) (hq : jQ X (.inl (some (jI r.1))) SKF r.2 rm_X3_readLine.cells rm_X3_readLine.slots) : J X SKF m 0 0 58 [(0, jR 62), (1, jI v1)] [] := by
  unfold f_X3_readLine_J58 at hf
  refine B_blk B jlkX3_ok jcl_SKF [.aload_n 0, .getfield 41, .istore_n 2, .aload_n 0] (by decide +kernel) (ls' := [(0, jR 62), (1, jI v1), (2, jI (m 62 9))]) (st' := [jR 62]) rfl (p1 := 64) rfl ?_
  obtain ⟨r12, h12, hf⟩ := jbd hf
  refine B_callV B (Nat.le_refl _) (μ' := r12) (k' := 0) (n' := 0) ca_X3_step in_X3_step se_X3_step lk_X3_38 (t_X3_step B.tr h12) (Nat.le_refl _) rfl rfl rfl (rest := []) rfl rfl (Nat.le_of_ble_eq_true rfl) (by decide +kernel) rfl rfl (st' := []) rfl ?_
  exact t_X3_readLine_J67 B v1 (m 62 9) r12 _ hf hq
theorem t_X3_readLine {l : Launch} {G : jG} (hl : l.stackTraces = false) {m : jMu} {r : (Int × jMu)} (hf : f_X3_readLine m = some r) : jCt l G yX3_readLine (.code yX3_readLine cX3_readLine 5 (some .boolean) :: jWG) rm_X3_readLine [jR 62] SKF m (.inl (some (jI r.1))) SKF r.2 := by
  unfold f_X3_readLine at hf
  refine J_start (ls0 := [(0, jR 62)]) (by decide +kernel) hl (Nat.le_of_ble_eq_true rfl) rfl fun X C hN hn hR hr hnm hno hq => ?_
  have B : jB X cX3_readLine RX3 5 SKF.length rm_X3_readLine (some .boolean) := ⟨C, hN, Nat.le_of_eq hn, hR, hr⟩
  refine B_blk B jlkX3_ok jcl_SKF [.aload_n 0, .getfield 41, .istore_n 1, .iconst 0, .istore_n 2, .iload_n 1, .bipush 100] (by decide +kernel) (ls' := [(0, jR 62), (1, jI (m 62 9)), (2, jI 0)]) (st' := [jI 100, jI (m 62 9)]) rfl (p1 := 10) rfl ?_
  refine J_icmp_lt B.1 (off := 9) (tgt := 19) (by decide +kernel) (by decide) hf (fun hf => ?_) (fun hf => ?_)
  · refine B_blk B jlkX3_ok jcl_SKF [.iconst 0] (by decide +kernel) (ls' := [(0, jR 62), (1, jI (m 62 9)), (2, jI 0)]) (st' := [jI 0]) rfl (p1 := 20) rfl ?_
    cases hf
    exact B_retZ B (Or.inl rfl) hq rfl (Nat.le_of_ble_eq_true rfl) (Nat.le_of_ble_eq_true rfl) (by decide +kernel)
  · refine B_blk B jlkX3_ok jcl_SKF [.iload_n 1, .bipush 103] (by decide +kernel) (ls' := [(0, jR 62), (1, jI (m 62 9)), (2, jI 0)]) (st' := [jI 103, jI (m 62 9)]) rfl (p1 := 16) rfl ?_
    refine J_icmp_le B.1 (off := 5) (tgt := 21) (by decide +kernel) (by decide) hf (fun hf => ?_) (fun hf => ?_)
    · refine B_blk B jlkX3_ok jcl_SKF [.aload_n 0] (by decide +kernel) (ls' := [(0, jR 62), (1, jI (m 62 9)), (2, jI 0)]) (st' := [jR 62]) rfl (p1 := 22) rfl ?_
      obtain ⟨r1, h1, hf⟩ := jbd hf
      refine B_callV B (Nat.le_refl _) (μ' := r1) (k' := 0) (n' := 0) ca_X3_step in_X3_step se_X3_step lk_X3_38 (t_X3_step B.tr h1) (Nat.le_refl _) rfl rfl rfl (rest := []) rfl rfl (Nat.le_of_ble_eq_true rfl) (by decide +kernel) rfl rfl (st' := []) rfl ?_
      refine B_blk B jlkX3_ok jcl_SKF [.iload_n 1, .bipush 100] (by decide +kernel) (ls' := [(0, jR 62), (1, jI (m 62 9)), (2, jI 0)]) (st' := [jI 100, jI (m 62 9)]) rfl (p1 := 28) rfl ?_
      refine J_icmp_eq B.1 (off := 39) (tgt := 67) (by decide +kernel) (by decide) hf (fun hf => ?_) (fun hf => ?_)
      · exact t_X3_readLine_J67 B (m 62 9) 0 r1 _ hf hq
      · refine B_blk B jlkX3_ok jcl_SKF [.aload_n 0, .getfield 41] (by decide +kernel) (ls' := [(0, jR 62), (1, jI (m 62 9)), (2, jI 0)]) (st' := [jI (r1 62 9)]) rfl (p1 := 35) rfl ?_
        obtain ⟨r11, h11, hf⟩ := jbd hf
        refine B_callS B (Nat.le_refl _) (μ' := r1) (k' := 0) (n' := 0) ca_X7_isNumber sa_X7_isNumber lk_X3_109 (t_X7_isNumber B.tr jcl_SKF h11) (Nat.le_refl _) rfl (rest := []) rfl rfl (Nat.le_of_ble_eq_true rfl) (by decide +kernel) rfl rfl (st' := [jI r11]) rfl ?_
        refine J_if_eq B.1 (off := 18) (tgt := 56) (by decide +kernel) (by decide) hf (fun hf => ?_) (fun hf => ?_)
        · refine B_blk B jlkX3_ok jcl_SKF [.iconst 0] (by decide +kernel) (ls' := [(0, jR 62), (1, jI (m 62 9)), (2, jI 0)]) (st' := [jI 0]) rfl (p1 := 57) rfl ?_
          cases hf
          exact B_retZ B (Or.inl rfl) hq rfl (Nat.le_of_ble_eq_true rfl) (Nat.le_of_ble_eq_true rfl) (by decide +kernel)
        · refine B_blk B jlkX3_ok jcl_SKF [.iload_n 1, .bipush 101] (by decide +kernel) (ls' := [(0, jR 62), (1, jI (m 62 9)), (2, jI 0)]) (st' := [jI 101, jI (m 62 9)]) rfl (p1 := 44) rfl ?_
          refine J_icmp_ne B.1 (off := 14) (tgt := 58) (by decide +kernel) (by decide) hf (fun hf => ?_) (fun hf => ?_)
          · refine B_blk B jlkX3_ok jcl_SKF [.aload_n 0, .getfield 41, .bipush 48] (by decide +kernel) (ls' := [(0, jR 62), (1, jI (m 62 9)), (2, jI 0)]) (st' := [jI 48, jI (r1 62 9)]) rfl (p1 := 53) rfl ?_
            refine J_icmp_le B.1 (off := 5) (tgt := 58) (by decide +kernel) (by decide) hf (fun hf => ?_) (fun hf => ?_)
            · refine J_pick [0, 1] (ls' := [(0, jR 62), (1, jI (m 62 9))]) rfl ?_
              exact t_X3_readLine_J58 B (m 62 9) r1 _ hf hq
            · refine B_blk B jlkX3_ok jcl_SKF [.iconst 0] (by decide +kernel) (ls' := [(0, jR 62), (1, jI (m 62 9)), (2, jI 0)]) (st' := [jI 0]) rfl (p1 := 57) rfl ?_
              cases hf
              exact B_retZ B (Or.inl rfl) hq rfl (Nat.le_of_ble_eq_true rfl) (Nat.le_of_ble_eq_true rfl) (by decide +kernel)
          · refine J_pick [0, 1] (ls' := [(0, jR 62), (1, jI (m 62 9))]) rfl ?_
            exact t_X3_readLine_J58 B (m 62 9) r1 _ hf hq
    · refine B_blk B jlkX3_ok jcl_SKF [.iconst 0] (by decide +kernel) (ls' := [(0, jR 62), (1, jI (m 62 9)), (2, jI 0)]) (st' := [jI 0]) rfl (p1 := 20) rfl ?_
      cases hf
      exact B_retZ B (Or.inl rfl) hq rfl (Nat.le_of_ble_eq_true rfl) (Nat.le_of_ble_eq_true rfl) (by decide +kernel)

def rm_X3_readText : Room := { frames := 14, cells := 0, slots := 0, locals := 396 }
def f_X3_readText_L27 : Nat → Int → jMu → Option (Int × jMu)
  | 0, _, _ => none
  | q + 1, v1, m => (if 10 ≤ v1 then some (m 62 10, m) else (f_X3_readLine m).bind fun r4 => (if r4.1 = 0 then some (r4.2 62 10, r4.2) else (if r4.2 62 9 = 130 then some ((-1), r4.2) else (if r4.2 62 9 = 122 then (f_X3_step r4.2).bind fun r5 => f_X3_readText_L27 q (jW (v1 + 1)) r5 else some (r4.2 62 10, r4.2)))))
def f_X3_readText (m : jMu) : Option (Int × jMu) :=
  (f_X3_splitWords m).bind fun r1 => (jlt (jup r1 62 8 0) fun m2 => (f_X3_step m2).bind fun r3 => (if r3 62 9 = 130 then some ((-1), r3) else f_X3_readText_L27 jFU 0 r3))
theorem t_X3_readText_L27 {X : jX} (B : jB X cX3_readText RX3 2 SKF.length rm_X3_readText (some .int)) : ∀ (q : Nat) (v1 : Int) (m : jMu) (r : (Int × jMu)), f_X3_readText_L27 q v1 m = some r → jQ X (.inl (some (jI r.1))) SKF r.2 rm_X3_readText.cells rm_X3_readText.slots → J X SKF m 0 0 27 [(0, jR 62), (1, jI v1)] [] := by
  intro q
  induction q with
  | zero =>
    intro v1 m r hf
    rw [f_X3_readText_L27] at hf
    cases hf
  | succ q ih =>
    intro v1 m r hf hq
    rw [f_X3_readText_L27] at hf
    refine B_blk B jlkX3_ok jcl_SKF [.iload_n 1, .bipush 10] (by decide +kernel) (ls' := [(0, jR 62), (1, jI v1)]) (st' := [jI 10, jI v1]) rfl (p1 := 30) rfl ?_
    refine J_icmp_ge B.1 (off := 51) (tgt := 81) (by decide +kernel) (by decide) hf (fun hf => ?_) (fun hf => ?_)
    · refine B_blk B jlkX3_ok jcl_SKF [.aload_n 0, .getfield 50] (by decide +kernel) (ls' := [(0, jR 62), (1, jI v1)]) (st' := [jI (m 62 10)]) rfl (p1 := 85) rfl ?_
      cases hf
      exact B_retI B hq rfl (Nat.le_of_ble_eq_true rfl) (Nat.le_of_ble_eq_true rfl) (by decide +kernel)
    · refine B_blk B jlkX3_ok jcl_SKF [.aload_n 0] (by decide +kernel) (ls' := [(0, jR 62), (1, jI v1)]) (st' := [jR 62]) rfl (p1 := 34) rfl ?_
      obtain ⟨r4, h4, hf⟩ := jbd hf
      refine B_callV B (Nat.le_refl _) (μ' := r4.2) (k' := 0) (n' := 0) ca_X3_readLine in_X3_readLine se_X3_readLine lk_X3_46 (t_X3_readLine B.tr h4) (Nat.le_refl _) rfl rfl rfl (rest := []) rfl rfl (Nat.le_of_ble_eq_true rfl) (by decide +kernel) rfl rfl (st' := [jI r4.1]) rfl ?_
      refine J_if_ne B.1 (off := 8) (tgt := 45) (by decide +kernel) (by decide) hf (fun hf => ?_) (fun hf => ?_)
      · refine B_blk B jlkX3_ok jcl_SKF [.aload_n 0, .getfield 50] (by decide +kernel) (ls' := [(0, jR 62), (1, jI v1)]) (st' := [jI (r4.2 62 10)]) rfl (p1 := 44) rfl ?_
        cases hf
        exact B_retI B hq rfl (Nat.le_of_ble_eq_true rfl) (Nat.le_of_ble_eq_true rfl) (by decide +kernel)
      · refine B_blk B jlkX3_ok jcl_SKF [.aload_n 0, .getfield 41, .sipush 130] (by decide +kernel) (ls' := [(0, jR 62), (1, jI v1)]) (st' := [jI 130, jI (r4.2 62 9)]) rfl (p1 := 52) rfl ?_
        refine J_icmp_ne B.1 (off := 5) (tgt := 57) (by decide +kernel) (by decide) hf (fun hf => ?_) (fun hf => ?_)
        · refine B_blk B jlkX3_ok jcl_SKF [.iconst (-1)] (by decide +kernel) (ls' := [(0, jR 62), (1, jI v1)]) (st' := [jI (-1)]) rfl (p1 := 56) rfl ?_
          cases hf
          exact B_retI B hq rfl (Nat.le_of_ble_eq_true rfl) (Nat.le_of_ble_eq_true rfl) (by decide +kernel)
        · refine B_blk B jlkX3_ok jcl_SKF [.aload_n 0, .getfield 41, .bipush 122] (by decide +kernel) (ls' := [(0, jR 62), (1, jI v1)]) (st' := [jI 122, jI (r4.2 62 9)]) rfl (p1 := 63) rfl ?_
          refine J_icmp_eq B.1 (off := 8) (tgt := 71) (by decide +kernel) (by decide) hf (fun hf => ?_) (fun hf => ?_)
          · refine B_blk B jlkX3_ok jcl_SKF [.aload_n 0] (by decide +kernel) (ls' := [(0, jR 62), (1, jI v1)]) (st' := [jR 62]) rfl (p1 := 72) rfl ?_
            obtain ⟨r5, h5, hf⟩ := jbd hf
            refine B_callV B (Nat.le_refl _) (μ' := r5) (k' := 0) (n' := 0) ca_X3_step in_X3_step se_X3_step lk_X3_38 (t_X3_step B.tr h5) (Nat.le_refl _) rfl rfl rfl (rest := []) rfl rfl (Nat.le_of_ble_eq_true rfl) (by decide +kernel) rfl rfl (st' := []) rfl ?_
            refine B_blk B jlkX3_ok jcl_SKF [.iinc 1 1, .goto (-51)] (by decide +kernel) (ls' := [(0, jR 62), (1, jI (jW (v1 + 1)))]) (st' := []) rfl (p1 := 27) rfl ?_
            exact ih (jW (v1 + 1)) r5 _ hf hq
          · refine B_blk B jlkX3_ok jcl_SKF [.aload_n 0, .getfield 50] (by decide +kernel) (ls' := [(0, jR 62), (1, jI v1)]) (st' := [jI (r4.2 62 10)]) rfl (p1 := 70) rfl ?_
            cases hf
            exact B_retI B hq rfl (Nat.le_of_ble_eq_true rfl) (Nat.le_of_ble_eq_true rfl) (by decide +kernel)
theorem t_X3_readText {l : Launch} {G : jG} (hl : l.stackTraces = false) {m : jMu} {r : (Int × jMu)} (hf : f_X3_readText m = some r) : jCt l G yX3_readText (.code yX3_readText cX3_readText 2 (some .int) :: jWG) rm_X3_readText [jR 62] SKF m (.inl (some (jI r.1))) SKF r.2 := by
  unfold f_X3_readText at hf
  refine J_start (ls0 := [(0, jR 62)]) (by decide +kernel) hl (Nat.le_of_ble_eq_true rfl) rfl fun X C hN hn hR hr hnm hno hq => ?_
  have B : jB X cX3_readText RX3 2 SKF.length rm_X3_readText (some .int) := ⟨C, hN, Nat.le_of_eq hn, hR, hr⟩
  refine B_blk B jlkX3_ok jcl_SKF [.aload_n 0] (by decide +kernel) (ls' := [(0, jR 62)]) (st' := [jR 62]) rfl (p1 := 1) rfl ?_
  obtain ⟨r1, h1, hf⟩ := jbd hf
  refine B_callV B (Nat.le_refl _) (μ' := r1) (k' := 0) (n' := 0) ca_X3_splitWords in_X3_splitWords se_X3_splitWords lk_X3_31 (t_X3_splitWords B.tr h1) (Nat.le_refl _) rfl rfl rfl (rest := []) rfl rfl (Nat.le_of_ble_eq_true rfl) (by decide +kernel) rfl rfl (st' := []) rfl ?_
  refine B_blk B jlkX3_ok jcl_SKF [.aload_n 0, .iconst 0] (by decide +kernel) (ls' := [(0, jR 62)]) (st' := [jI 0, jR 62]) rfl (p1 := 6) rfl ?_
  refine K_putI (jI' := 8) B jp_X3_34 rfl rfl rfl (by decide +kernel) ?_
  obtain ⟨m2, hm2, hf⟩ := jlt_s hf
  rw [hm2]
  refine B_blk B jlkX3_ok jcl_SKF [.aload_n 0] (by decide +kernel) (ls' := [(0, jR 62)]) (st' := [jR 62]) rfl (p1 := 10) rfl ?_
  obtain ⟨r3, h3, hf⟩ := jbd hf
  refine B_callV B (Nat.le_refl _) (μ' := r3) (k' := 0) (n' := 0) ca_X3_step in_X3_step se_X3_step lk_X3_38 (t_X3_step B.tr h3) (Nat.le_refl _) rfl rfl rfl (rest := []) rfl rfl (Nat.le_of_ble_eq_true rfl) (by decide +kernel) rfl rfl (st' := []) rfl ?_
  refine B_blk B jlkX3_ok jcl_SKF [.aload_n 0, .getfield 41, .sipush 130] (by decide +kernel) (ls' := [(0, jR 62)]) (st' := [jI 130, jI (r3 62 9)]) rfl (p1 := 20) rfl ?_
  refine J_icmp_ne B.1 (off := 5) (tgt := 25) (by decide +kernel) (by decide) hf (fun hf => ?_) (fun hf => ?_)
  · refine B_blk B jlkX3_ok jcl_SKF [.iconst (-1)] (by decide +kernel) (ls' := [(0, jR 62)]) (st' := [jI (-1)]) rfl (p1 := 24) rfl ?_
    cases hf
    exact B_retI B hq rfl (Nat.le_of_ble_eq_true rfl) (Nat.le_of_ble_eq_true rfl) (by decide +kernel)
  · refine B_blk B jlkX3_ok jcl_SKF [.iconst 0, .istore_n 1] (by decide +kernel) (ls' := [(0, jR 62), (1, jI 0)]) (st' := []) rfl (p1 := 27) rfl ?_
    exact t_X3_readText_L27 B jFU 0 r3 _ hf hq

def rm_X6_cut : Room := { frames := 2, cells := 0, slots := 0, locals := 64 }
def f_X6_cut (a0 : Int) (m : jMu) : Option (Int × jMu) :=
  (if a0 < 0 then some (0, m) else (if a0 ≤ m 30 1 then (jlt (jup m 30 1 a0) fun m1 => some (1, m1)) else some (0, m)))
theorem t_X6_cut {l : Launch} {G : jG} (hl : l.stackTraces = false) {a0 : Int} {m : jMu} {r : (Int × jMu)} (hf : f_X6_cut a0 m = some r) : jCt l G yX6_cut (.code yX6_cut cX6_cut 2 (some .boolean) :: jWG) rm_X6_cut [jR 30, jI a0] SKF m (.inl (some (jI r.1))) SKF r.2 := by
  unfold f_X6_cut at hf
  refine J_start (ls0 := [(0, jR 30), (1, jI a0)]) (by decide +kernel) hl (Nat.le_of_ble_eq_true rfl) rfl fun X C hN hn hR hr hnm hno hq => ?_
  have B : jB X cX6_cut RX6 2 SKF.length rm_X6_cut (some .boolean) := ⟨C, hN, Nat.le_of_eq hn, hR, hr⟩
  refine B_blk B jlkX6_ok jcl_SKF [.iload_n 1] (by decide +kernel) (ls' := [(0, jR 30), (1, jI a0)]) (st' := [jI a0]) rfl (p1 := 1) rfl ?_
  refine J_if_lt B.1 (off := 11) (tgt := 12) (by decide +kernel) (by decide) hf (fun hf => ?_) (fun hf => ?_)
  · refine B_blk B jlkX6_ok jcl_SKF [.iconst 0] (by decide +kernel) (ls' := [(0, jR 30), (1, jI a0)]) (st' := [jI 0]) rfl (p1 := 13) rfl ?_
    cases hf
    exact B_retZ B (Or.inl rfl) hq rfl (Nat.le_of_ble_eq_true rfl) (Nat.le_of_ble_eq_true rfl) (by decide +kernel)
  · refine B_blk B jlkX6_ok jcl_SKF [.iload_n 1, .aload_n 0, .getfield 15] (by decide +kernel) (ls' := [(0, jR 30), (1, jI a0)]) (st' := [jI (m 30 1), jI a0]) rfl (p1 := 9) rfl ?_
    refine J_icmp_le B.1 (off := 5) (tgt := 14) (by decide +kernel) (by decide) hf (fun hf => ?_) (fun hf => ?_)
    · refine B_blk B jlkX6_ok jcl_SKF [.aload_n 0, .iload_n 1] (by decide +kernel) (ls' := [(0, jR 30), (1, jI a0)]) (st' := [jI a0, jR 30]) rfl (p1 := 16) rfl ?_
      refine K_putI (jI' := 1) B jp_X6_15 rfl rfl rfl (by decide +kernel) ?_
      obtain ⟨m1, hm1, hf⟩ := jlt_s hf
      rw [hm1]
      refine B_blk B jlkX6_ok jcl_SKF [.iconst 1] (by decide +kernel) (ls' := [(0, jR 30), (1, jI a0)]) (st' := [jI 1]) rfl (p1 := 20) rfl ?_
      cases hf
      exact B_retZ B (Or.inr rfl) hq rfl (Nat.le_of_ble_eq_true rfl) (Nat.le_of_ble_eq_true rfl) (by decide +kernel)
    · refine B_blk B jlkX6_ok jcl_SKF [.iconst 0] (by decide +kernel) (ls' := [(0, jR 30), (1, jI a0)]) (st' := [jI 0]) rfl (p1 := 13) rfl ?_
      cases hf
      exact B_retZ B (Or.inl rfl) hq rfl (Nat.le_of_ble_eq_true rfl) (Nat.le_of_ble_eq_true rfl) (by decide +kernel)

def rm_X5_cut : Room := { frames := 2, cells := 0, slots := 0, locals := 64 }
def f_X5_cut (t a w : Nat) (a0 : Int) (m : jMu) : Option jMu :=
  (if a0 < 0 then some m else (if m t 3 ≤ a0 then some m else (jlt (jup m t 3 a0) fun m1 => some m1)))
theorem t_X5_cut {l : Launch} {G : jG} (hl : l.stackTraces = false) {S : List jSh} (hcl : jcl S) {t a w : Nat} (hfacts : jTb S t a w) {a0 : Int} {m : jMu} {r : jMu} (hf : f_X5_cut t a w a0 m = some r) : jCt l G yX5_cut (.code yX5_cut cX5_cut 2 none :: jWG) rm_X5_cut [jR t, jI a0] S m (.inl none) S r := by
  unfold f_X5_cut at hf
  refine J_start (ls0 := [(0, jR t), (1, jI a0)]) (by decide +kernel) hl (Nat.le_of_ble_eq_true rfl) rfl fun X C hN hn hR hr hnm hno hq => ?_
  have B : jB X cX5_cut RX5 2 S.length rm_X5_cut none := ⟨C, hN, Nat.le_of_eq hn, hR, hr⟩
  refine B_blk B jlkX5_ok hcl [.iload_n 1] (by decide +kernel) (ls' := [(0, jR t), (1, jI a0)]) (st' := [jI a0]) rfl (p1 := 1) rfl ?_
  refine J_if_lt B.1 (off := 16) (tgt := 17) (by decide +kernel) (by decide) hf (fun hf => ?_) (fun hf => ?_)
  · cases hf
    exact B_retV B hq rfl (Nat.le_of_ble_eq_true rfl) (Nat.le_of_ble_eq_true rfl) (by decide +kernel)
  · refine B_blk B jlkX5_ok hcl [.iload_n 1, .aload_n 0] (by decide +kernel) (ls' := [(0, jR t), (1, jI a0)]) (st' := [jR t, jI a0]) rfl (p1 := 6) rfl ?_
    refine K_get (v := jI (m t 3)) B jlkX5_ok hcl (idx := 22) rfl hfacts.1 rfl rfl (by decide +kernel) ?_
    refine J_icmp_ge B.1 (off := 8) (tgt := 17) (by decide +kernel) (by decide) hf (fun hf => ?_) (fun hf => ?_)
    · cases hf
      exact B_retV B hq rfl (Nat.le_of_ble_eq_true rfl) (Nat.le_of_ble_eq_true rfl) (by decide +kernel)
    · refine B_blk B jlkX5_ok hcl [.aload_n 0, .iload_n 1] (by decide +kernel) (ls' := [(0, jR t), (1, jI a0)]) (st' := [jI a0, jR t]) rfl (p1 := 14) rfl ?_
      refine K_putI (jI' := 3) B jp_X5_22 hfacts.1 rfl rfl (by decide +kernel) ?_
      obtain ⟨m1, hm1, hf⟩ := jlt_s hf
      rw [hm1]
      cases hf
      exact B_retV B hq rfl (Nat.le_of_ble_eq_true rfl) (Nat.le_of_ble_eq_true rfl) (by decide +kernel)

def rm_X9_terms : Room := { frames := 16, cells := 2, slots := 12, locals := 417 }
def f_X9_terms_J99 (v1 : Int) (v3 : Int) (v4 : Int) (m : jMu) : Option (jOut Int) :=
  jthr (f_X9_needArgument v3 m) fun r9 => jthr (f_X9_needRoom v4 r9.2) fun r10 => (f_X5_addRow 14 15 6 r10.2).bind fun r11 => (f_X5_set 14 15 6 r11.1 0 v1 r11.2).bind fun r12 => (f_X5_size 16 17 160 r12).bind fun r13 => (f_X5_set 14 15 6 r11.1 1 r13 r12).bind fun r14 => some (.inr (r11.1, r14))
def f_X9_terms_J77 (v1 : Int) (v2 : Int) (v3 : Int) (v4 : Int) (m : jMu) : Option (jOut Int) :=
  (f_X5_cut 16 17 160 v1 m).bind fun r7 => (f_X5_cut 18 19 1600 v2 r7).bind fun r8 => f_X9_terms_J99 v1 v3 v4 r8
def f_X9_terms_J55 (v1 : Int) (v2 : Int) (s0 : Int) (m : jMu) : Option (jOut Int) :=
  (f_X5_hasRoom 14 15 6 m).bind fun r6 => (if s0 = 0 then f_X9_terms_J77 v1 v2 s0 r6 m else (if r6 = 0 then f_X9_terms_J77 v1 v2 s0 r6 m else f_X9_terms_J99 v1 s0 r6 m))
def f_X9_terms (m : jMu) : Option (jOut Int) :=
  (f_X5_size 16 17 160 m).bind fun r1 => (f_X5_size 18 19 1600 m).bind fun r2 => (f_X3_readText m).bind fun r3 => (jlt (jup r3.2 0 9 r3.1) fun m4 => (f_X6_cut 0 m4).bind fun r5 => (if r5.2 0 9 = (-1) then f_X9_terms_J55 r1 r2 1 r5.2 else f_X9_terms_J55 r1 r2 0 r5.2))
theorem t_X9_terms_J99 {X : jX} (B : jB X cX9_terms RX9 6 SKF.length rm_X9_terms (some .int)) (hno : ∀ x ∈ (xc X).exceptionTable.toList, False) (v1 : Int) (v3 : Int) (v4 : Int) (m : jMu) (r : (jOut Int)) (hf : f_X9_terms_J99 v1 v3 v4 m = some r) (hq : jQ X (joI r) SKF (joM r) rm_X9_terms.cells rm_X9_terms.slots) : J X SKF m 0 0 99 [(0, jR 0), (1, jI v1), (3, jI v3), (4, jI v4)] [] := by
  unfold f_X9_terms_J99 at hf
  refine B_blk B jlkX9_ok jcl_SKF [.iload_n 3] (by decide +kernel) (ls' := [(0, jR 0), (1, jI v1), (3, jI v3), (4, jI v4)]) (st' := [jI v3]) rfl (p1 := 100) rfl ?_
  rcases jthr_s hf with ⟨e9, h9, hf⟩ | ⟨r9, h9, hf⟩
  · cases hf
    exact B_callST B (Nat.le_refl _) hno hq ca_X9_needArgument sa_X9_needArgument lk_X9_97 (t_X9_needArgument B.tr h9) (Nat.le_refl _) rfl (rest := []) rfl rfl (Nat.le_of_ble_eq_true rfl) (by decide +kernel) (Nat.le_of_ble_eq_true rfl) (Nat.le_of_ble_eq_true rfl)
  · refine B_callS B (Nat.le_refl _) (μ' := r9.2) (k' := 1) (n' := 6) ca_X9_needArgument sa_X9_needArgument lk_X9_97 (t_X9_needArgument B.tr h9) (Nat.le_refl _) rfl (rest := []) rfl rfl (Nat.le_of_ble_eq_true rfl) (by decide +kernel) rfl rfl (st' := []) rfl ?_
    refine B_blk B jlkX9_ok jcl_SKF [.iload 4] (by decide +kernel) (ls' := [(0, jR 0), (1, jI v1), (3, jI v3), (4, jI v4)]) (st' := [jI v4]) rfl (p1 := 105) rfl ?_
    rcases jthr_s hf with ⟨e10, h10, hf⟩ | ⟨r10, h10, hf⟩
    · cases hf
      exact B_callST B (Nat.le_refl _) hno hq ca_X9_needRoom sa_X9_needRoom lk_X9_111 (t_X9_needRoom B.tr h10) (Nat.le_refl _) rfl (rest := []) rfl rfl (Nat.le_of_ble_eq_true rfl) (by decide +kernel) (Nat.le_of_ble_eq_true rfl) (Nat.le_of_ble_eq_true rfl)
    · refine B_callS B (Nat.le_refl _) (μ' := r10.2) (k' := 2) (n' := 12) ca_X9_needRoom sa_X9_needRoom lk_X9_111 (t_X9_needRoom B.tr h10) (Nat.le_refl _) rfl (rest := []) rfl rfl (Nat.le_of_ble_eq_true rfl) (by decide +kernel) rfl rfl (st' := []) rfl ?_
      refine B_blk B jlkX9_ok jcl_SKF [.aload_n 0, .getfield 20, .getfield 158] (by decide +kernel) (ls' := [(0, jR 0), (1, jI v1), (3, jI v3), (4, jI v4)]) (st' := [jR 14]) rfl (p1 := 115) rfl ?_
      obtain ⟨r11, h11, hf⟩ := jbd hf
      refine B_callV B (Nat.le_refl _) (μ' := r11.2) (k' := 2) (n' := 12) ca_X5_addRow in_X5_addRow se_X5_addRow lk_X9_114 (t_X5_addRow B.tr jcl_SKF ⟨rfl, rfl, by decide⟩ h11) (Nat.le_refl _) rfl rfl rfl (rest := []) rfl rfl (Nat.le_of_ble_eq_true rfl) (by decide +kernel) rfl rfl (st' := [jI r11.1]) rfl ?_
      refine B_blk B jlkX9_ok jcl_SKF [.istore 5, .aload_n 0, .getfield 20, .getfield 158, .iload 5, .iconst 0, .iload_n 1] (by decide +kernel) (ls' := [(0, jR 0), (1, jI v1), (3, jI v3), (4, jI v4), (5, jI r11.1)]) (st' := [jI v1, jI 0, jI r11.1, jR 14]) rfl (p1 := 131) rfl ?_
      obtain ⟨r12, h12, hf⟩ := jbd hf
      refine B_callV B (Nat.le_refl _) (μ' := r12) (k' := 2) (n' := 12) ca_X5_set in_X5_set se_X5_set lk_X9_117 (t_X5_set B.tr jcl_SKF ⟨rfl, rfl, by decide⟩ h12) (Nat.le_refl _) rfl rfl rfl (rest := []) rfl rfl (Nat.le_of_ble_eq_true rfl) (by decide +kernel) rfl rfl (st' := []) rfl ?_
      refine B_blk B jlkX9_ok jcl_SKF [.aload_n 0, .getfield 20, .getfield 158, .iload 5, .iconst 1, .aload_n 0, .getfield 20, .getfield 149] (by decide +kernel) (ls' := [(0, jR 0), (1, jI v1), (3, jI v3), (4, jI v4), (5, jI r11.1)]) (st' := [jR 16, jI 1, jI r11.1, jR 14]) rfl (p1 := 151) rfl ?_
      obtain ⟨r13, h13, hf⟩ := jbd hf
      refine B_callV B (Nat.le_refl _) (μ' := r12) (k' := 2) (n' := 12) ca_X5_size in_X5_size se_X5_size lk_X9_140 (t_X5_size B.tr jcl_SKF ⟨rfl, rfl, by decide⟩ h13) (Nat.le_refl _) rfl rfl rfl (rest := [jI 1, jI r11.1, jR 14]) rfl rfl (Nat.le_of_ble_eq_true rfl) (by decide +kernel) rfl rfl (st' := [jI r13, jI 1, jI r11.1, jR 14]) rfl ?_
      obtain ⟨r14, h14, hf⟩ := jbd hf
      refine B_callV B (Nat.le_refl _) (μ' := r14) (k' := 2) (n' := 12) ca_X5_set in_X5_set se_X5_set lk_X9_117 (t_X5_set B.tr jcl_SKF ⟨rfl, rfl, by decide⟩ h14) (Nat.le_refl _) rfl rfl rfl (rest := []) rfl rfl (Nat.le_of_ble_eq_true rfl) (by decide +kernel) rfl rfl (st' := []) rfl ?_
      refine B_blk B jlkX9_ok jcl_SKF [.iload 5] (by decide +kernel) (ls' := [(0, jR 0), (1, jI v1), (3, jI v3), (4, jI v4), (5, jI r11.1)]) (st' := [jI r11.1]) rfl (p1 := 159) rfl ?_
      cases hf
      exact B_retI B hq rfl (Nat.le_of_ble_eq_true rfl) (Nat.le_of_ble_eq_true rfl) (by decide +kernel)
theorem t_X9_terms_J77 {X : jX} (B : jB X cX9_terms RX9 6 SKF.length rm_X9_terms (some .int)) (hno : ∀ x ∈ (xc X).exceptionTable.toList, False) (v1 : Int) (v2 : Int) (v3 : Int) (v4 : Int) (m : jMu) (r : (jOut Int)) (hf : f_X9_terms_J77 v1 v2 v3 v4 m = some r) (hq : jQ X (joI r) SKF (joM r) rm_X9_terms.cells rm_X9_terms.slots) : J X SKF m 0 0 77 [(0, jR 0), (1, jI v1), (2, jI v2), (3, jI v3), (4, jI v4)] [] := by
  unfold f_X9_terms_J77 at hf
  refine B_blk B jlkX9_ok jcl_SKF [.aload_n 0, .getfield 20, .getfield 149, .iload_n 1] (by decide +kernel) (ls' := [(0, jR 0), (1, jI v1), (2, jI v2), (3, jI v3), (4, jI v4)]) (st' := [jI v1, jR 16]) rfl (p1 := 85) rfl ?_
  obtain ⟨r7, h7, hf⟩ := jbd hf
  refine B_callV B (Nat.le_refl _) (μ' := r7) (k' := 0) (n' := 0) ca_X5_cut in_X5_cut se_X5_cut lk_X9_161 (t_X5_cut B.tr jcl_SKF ⟨rfl, rfl, by decide⟩ h7) (Nat.le_refl _) rfl rfl rfl (rest := []) rfl rfl (Nat.le_of_ble_eq_true rfl) (by decide +kernel) rfl rfl (st' := []) rfl ?_
  refine B_blk B jlkX9_ok jcl_SKF [.aload_n 0, .getfield 20, .getfield 152, .iload_n 2] (by decide +kernel) (ls' := [(0, jR 0), (1, jI v1), (2, jI v2), (3, jI v3), (4, jI v4)]) (st' := [jI v2, jR 18]) rfl (p1 := 96) rfl ?_
  obtain ⟨r8, h8, hf⟩ := jbd hf
  refine B_callV B (Nat.le_refl _) (μ' := r8) (k' := 0) (n' := 0) ca_X5_cut in_X5_cut se_X5_cut lk_X9_161 (t_X5_cut B.tr jcl_SKF ⟨rfl, rfl, by decide⟩ h8) (Nat.le_refl _) rfl rfl rfl (rest := []) rfl rfl (Nat.le_of_ble_eq_true rfl) (by decide +kernel) rfl rfl (st' := []) rfl ?_
  refine J_pick [0, 1, 3, 4] (ls' := [(0, jR 0), (1, jI v1), (3, jI v3), (4, jI v4)]) rfl ?_
  exact t_X9_terms_J99 B hno v1 v3 v4 r8 _ hf hq
theorem t_X9_terms_J55 {X : jX} (B : jB X cX9_terms RX9 6 SKF.length rm_X9_terms (some .int)) (hno : ∀ x ∈ (xc X).exceptionTable.toList, False) (v1 : Int) (v2 : Int) (s0 : Int) (m : jMu) (r : (jOut Int)) (hf : f_X9_terms_J55 v1 v2 s0 m = some r) (hq : jQ X (joI r) SKF (joM r) rm_X9_terms.cells rm_X9_terms.slots) : J X SKF m 0 0 55 [(0, jR 0), (1, jI v1), (2, jI v2)] [jI s0] := by
  unfold f_X9_terms_J55 at hf
  refine B_blk B jlkX9_ok jcl_SKF [.istore_n 3, .aload_n 0, .getfield 20, .getfield 158] (by decide +kernel) (ls' := [(0, jR 0), (1, jI v1), (2, jI v2), (3, jI s0)]) (st' := [jR 14]) rfl (p1 := 63) rfl ?_
  obtain ⟨r6, h6, hf⟩ := jbd hf
  refine B_callV B (Nat.le_refl _) (μ' := m) (k' := 0) (n' := 0) ca_X5_hasRoom in_X5_hasRoom se_X5_hasRoom lk_X9_105 (t_X5_hasRoom B.tr jcl_SKF ⟨rfl, rfl, by decide⟩ h6) (Nat.le_refl _) rfl rfl rfl (rest := []) rfl rfl (Nat.le_of_ble_eq_true rfl) (by decide +kernel) rfl rfl (st' := [jI r6]) rfl ?_
  refine B_blk B jlkX9_ok jcl_SKF [.istore 4, .iload_n 3] (by decide +kernel) (ls' := [(0, jR 0), (1, jI v1), (2, jI v2), (3, jI s0), (4, jI r6)]) (st' := [jI s0]) rfl (p1 := 69) rfl ?_
  refine J_if_eq B.1 (off := 8) (tgt := 77) (by decide +kernel) (by decide) hf (fun hf => ?_) (fun hf => ?_)
  · exact t_X9_terms_J77 B hno v1 v2 s0 r6 m _ hf hq
  · refine B_blk B jlkX9_ok jcl_SKF [.iload 4] (by decide +kernel) (ls' := [(0, jR 0), (1, jI v1), (2, jI v2), (3, jI s0), (4, jI r6)]) (st' := [jI r6]) rfl (p1 := 74) rfl ?_
    refine J_if_ne B.1 (off := 25) (tgt := 99) (by decide +kernel) (by decide) hf (fun hf => ?_) (fun hf => ?_)
    · exact t_X9_terms_J77 B hno v1 v2 s0 r6 m _ hf hq
    · refine J_pick [0, 1, 3, 4] (ls' := [(0, jR 0), (1, jI v1), (3, jI s0), (4, jI r6)]) rfl ?_
      exact t_X9_terms_J99 B hno v1 s0 r6 m _ hf hq
theorem t_X9_terms {l : Launch} {G : jG} (hl : l.stackTraces = false) {m : jMu} {r : (jOut Int)} (hf : f_X9_terms m = some r) : jCt l G yX9_terms (.code yX9_terms cX9_terms 6 (some .int) :: jWG) rm_X9_terms [jR 0] SKF m (joI r) SKF (joM r) := by
  unfold f_X9_terms at hf
  refine J_start (ls0 := [(0, jR 0)]) (by decide +kernel) hl (Nat.le_of_ble_eq_true rfl) rfl fun X C hN hn hR hr hnm hno hq => ?_
  have B : jB X cX9_terms RX9 6 SKF.length rm_X9_terms (some .int) := ⟨C, hN, Nat.le_of_eq hn, hR, hr⟩
  refine B_blk B jlkX9_ok jcl_SKF [.aload_n 0, .getfield 20, .getfield 149] (by decide +kernel) (ls' := [(0, jR 0)]) (st' := [jR 16]) rfl (p1 := 7) rfl ?_
  obtain ⟨r1, h1, hf⟩ := jbd hf
  refine B_callV B (Nat.le_refl _) (μ' := m) (k' := 0) (n' := 0) ca_X5_size in_X5_size se_X5_size lk_X9_140 (t_X5_size B.tr jcl_SKF ⟨rfl, rfl, by decide⟩ h1) (Nat.le_refl _) rfl rfl rfl (rest := []) rfl rfl (Nat.le_of_ble_eq_true rfl) (by decide +kernel) rfl rfl (st' := [jI r1]) rfl ?_
  refine B_blk B jlkX9_ok jcl_SKF [.istore_n 1, .aload_n 0, .getfield 20, .getfield 152] (by decide +kernel) (ls' := [(0, jR 0), (1, jI r1)]) (st' := [jR 18]) rfl (p1 := 18) rfl ?_
  obtain ⟨r2, h2, hf⟩ := jbd hf
  refine B_callV B (Nat.le_refl _) (μ' := m) (k' := 0) (n' := 0) ca_X5_size in_X5_size se_X5_size lk_X9_140 (t_X5_size B.tr jcl_SKF ⟨rfl, rfl, by decide⟩ h2) (Nat.le_refl _) rfl rfl rfl (rest := []) rfl rfl (Nat.le_of_ble_eq_true rfl) (by decide +kernel) rfl rfl (st' := [jI r2]) rfl ?_
  refine B_blk B jlkX9_ok jcl_SKF [.istore_n 2, .aload_n 0, .aload_n 0, .getfield 36] (by decide +kernel) (ls' := [(0, jR 0), (1, jI r1), (2, jI r2)]) (st' := [jR 62, jR 0]) rfl (p1 := 27) rfl ?_
  obtain ⟨r3, h3, hf⟩ := jbd hf
  refine B_callV B (Nat.le_refl _) (μ' := r3.2) (k' := 0) (n' := 0) ca_X3_readText in_X3_readText se_X3_readText lk_X9_155 (t_X3_readText B.tr h3) (Nat.le_refl _) rfl rfl rfl (rest := [jR 0]) rfl rfl (Nat.le_of_ble_eq_true rfl) (by decide +kernel) rfl rfl (st' := [jI r3.1, jR 0]) rfl ?_
  refine K_putI (jI' := 9) B jp_X9_71 rfl rfl rfl (by decide +kernel) ?_
  obtain ⟨m4, hm4, hf⟩ := jlt_s hf
  rw [hm4]
  refine B_blk B jlkX9_ok jcl_SKF [.aload_n 0, .getfield 27, .iconst 0] (by decide +kernel) (ls' := [(0, jR 0), (1, jI r1), (2, jI r2)]) (st' := [jI 0, jR 30]) rfl (p1 := 38) rfl ?_
  obtain ⟨r5, h5, hf⟩ := jbd hf
  refine B_callV B (Nat.le_refl _) (μ' := r5.2) (k' := 0) (n' := 0) ca_X6_cut in_X6_cut se_X6_cut lk_X9_87 (t_X6_cut B.tr h5) (Nat.le_refl _) rfl rfl rfl (rest := []) rfl rfl (Nat.le_of_ble_eq_true rfl) (by decide +kernel) rfl rfl (st' := [jI r5.1]) rfl ?_
  refine B_blk B jlkX9_ok jcl_SKF [.pop, .aload_n 0, .getfield 71, .iconst (-1)] (by decide +kernel) (ls' := [(0, jR 0), (1, jI r1), (2, jI r2)]) (st' := [jI (-1), jI (r5.2 0 9)]) rfl (p1 := 47) rfl ?_
  refine J_icmp_ne B.1 (off := 7) (tgt := 54) (by decide +kernel) (by decide) hf (fun hf => ?_) (fun hf => ?_)
  · refine B_blk B jlkX9_ok jcl_SKF [.iconst 1, .goto 4] (by decide +kernel) (ls' := [(0, jR 0), (1, jI r1), (2, jI r2)]) (st' := [jI 1]) rfl (p1 := 55) rfl ?_
    exact t_X9_terms_J55 B hno r1 r2 1 r5.2 _ hf hq
  · refine B_blk B jlkX9_ok jcl_SKF [.iconst 0] (by decide +kernel) (ls' := [(0, jR 0), (1, jI r1), (2, jI r2)]) (st' := [jI 0]) rfl (p1 := 55) rfl ?_
    exact t_X9_terms_J55 B hno r1 r2 0 r5.2 _ hf hq

def rm_X5_get : Room := { frames := 2, cells := 0, slots := 0, locals := 64 }
def f_X5_get (t a w : Nat) (a0 : Int) (a1 : Int) (m : jMu) : Option Int :=
  (if a0 < 0 then some 0 else (if m t 3 ≤ a0 then some 0 else (if a1 < 0 then some 0 else (if m t 1 ≤ a1 then some 0 else (if jW (jW (a0 * m t 1) + a1) < (w : Int) then (if 0 ≤ jW (jW (a0 * m t 1) + a1) ∧ jW (jW (a0 * m t 1) + a1) < (w : Int) then some (m a (jW (jW (a0 * m t 1) + a1))) else none) else some 0)))))
theorem t_X5_get {l : Launch} {G : jG} (hl : l.stackTraces = false) {S : List jSh} (hcl : jcl S) {t a w : Nat} (hfacts : jTb S t a w) {a0 : Int} {a1 : Int} {m : jMu} {r : Int} (hf : f_X5_get t a w a0 a1 m = some r) : jCt l G yX5_get (.code yX5_get cX5_get 4 (some .int) :: jWG) rm_X5_get [jR t, jI a0, jI a1] S m (.inl (some (jI r))) S m := by
  unfold f_X5_get at hf
  refine J_start (ls0 := [(0, jR t), (1, jI a0), (2, jI a1)]) (by decide +kernel) hl (Nat.le_of_ble_eq_true rfl) rfl fun X C hN hn hR hr hnm hno hq => ?_
  have B : jB X cX5_get RX5 4 S.length rm_X5_get (some .int) := ⟨C, hN, Nat.le_of_eq hn, hR, hr⟩
  refine B_blk B jlkX5_ok hcl [.iload_n 1, .aload_n 0] (by decide +kernel) (ls' := [(0, jR t), (1, jI a0), (2, jI a1)]) (st' := [jR t, jI a0]) rfl (p1 := 2) rfl ?_
  refine K_get (v := jI (m t 1)) B jlkX5_ok hcl (idx := 15) rfl hfacts.1 rfl rfl (by decide +kernel) ?_
  refine B_blk B jlkX5_ok hcl [.imul, .iload_n 2, .iadd, .istore_n 3, .iload_n 1] (by decide +kernel) (ls' := [(0, jR t), (1, jI a0), (2, jI a1), (3, jI (jW (jW (a0 * m t 1) + a1)))]) (st' := [jI a0]) rfl (p1 := 10) rfl ?_
  refine J_if_lt B.1 (off := 32) (tgt := 42) (by decide +kernel) (by decide) hf (fun hf => ?_) (fun hf => ?_)
  · refine B_blk B jlkX5_ok hcl [.iconst 0] (by decide +kernel) (ls' := [(0, jR t), (1, jI a0), (2, jI a1), (3, jI (jW (jW (a0 * m t 1) + a1)))]) (st' := [jI 0]) rfl (p1 := 43) rfl ?_
    cases hf
    exact B_retI B hq rfl (Nat.le_of_ble_eq_true rfl) (Nat.le_of_ble_eq_true rfl) (by decide +kernel)
  · refine B_blk B jlkX5_ok hcl [.iload_n 1, .aload_n 0] (by decide +kernel) (ls' := [(0, jR t), (1, jI a0), (2, jI a1), (3, jI (jW (jW (a0 * m t 1) + a1)))]) (st' := [jR t, jI a0]) rfl (p1 := 15) rfl ?_
    refine K_get (v := jI (m t 3)) B jlkX5_ok hcl (idx := 22) rfl hfacts.1 rfl rfl (by decide +kernel) ?_
    refine J_icmp_ge B.1 (off := 24) (tgt := 42) (by decide +kernel) (by decide) hf (fun hf => ?_) (fun hf => ?_)
    · refine B_blk B jlkX5_ok hcl [.iconst 0] (by decide +kernel) (ls' := [(0, jR t), (1, jI a0), (2, jI a1), (3, jI (jW (jW (a0 * m t 1) + a1)))]) (st' := [jI 0]) rfl (p1 := 43) rfl ?_
      cases hf
      exact B_retI B hq rfl (Nat.le_of_ble_eq_true rfl) (Nat.le_of_ble_eq_true rfl) (by decide +kernel)
    · refine B_blk B jlkX5_ok hcl [.iload_n 2] (by decide +kernel) (ls' := [(0, jR t), (1, jI a0), (2, jI a1), (3, jI (jW (jW (a0 * m t 1) + a1)))]) (st' := [jI a1]) rfl (p1 := 22) rfl ?_
      refine J_if_lt B.1 (off := 20) (tgt := 42) (by decide +kernel) (by decide) hf (fun hf => ?_) (fun hf => ?_)
      · refine B_blk B jlkX5_ok hcl [.iconst 0] (by decide +kernel) (ls' := [(0, jR t), (1, jI a0), (2, jI a1), (3, jI (jW (jW (a0 * m t 1) + a1)))]) (st' := [jI 0]) rfl (p1 := 43) rfl ?_
        cases hf
        exact B_retI B hq rfl (Nat.le_of_ble_eq_true rfl) (Nat.le_of_ble_eq_true rfl) (by decide +kernel)
      · refine B_blk B jlkX5_ok hcl [.iload_n 2, .aload_n 0] (by decide +kernel) (ls' := [(0, jR t), (1, jI a0), (2, jI a1), (3, jI (jW (jW (a0 * m t 1) + a1)))]) (st' := [jR t, jI a1]) rfl (p1 := 27) rfl ?_
        refine K_get (v := jI (m t 1)) B jlkX5_ok hcl (idx := 15) rfl hfacts.1 rfl rfl (by decide +kernel) ?_
        refine J_icmp_ge B.1 (off := 12) (tgt := 42) (by decide +kernel) (by decide) hf (fun hf => ?_) (fun hf => ?_)
        · refine B_blk B jlkX5_ok hcl [.iconst 0] (by decide +kernel) (ls' := [(0, jR t), (1, jI a0), (2, jI a1), (3, jI (jW (jW (a0 * m t 1) + a1)))]) (st' := [jI 0]) rfl (p1 := 43) rfl ?_
          cases hf
          exact B_retI B hq rfl (Nat.le_of_ble_eq_true rfl) (Nat.le_of_ble_eq_true rfl) (by decide +kernel)
        · refine B_blk B jlkX5_ok hcl [.iload_n 3, .aload_n 0] (by decide +kernel) (ls' := [(0, jR t), (1, jI a0), (2, jI a1), (3, jI (jW (jW (a0 * m t 1) + a1)))]) (st' := [jR t, jI (jW (jW (a0 * m t 1) + a1))]) rfl (p1 := 35) rfl ?_
          refine K_get (v := jR a) B jlkX5_ok hcl (idx := 18) rfl hfacts.1 rfl rfl (by decide +kernel) ?_
          refine K_alen (lenI := (w : Int)) B hcl hfacts.2.1 (by decide) rfl hfacts.2.2 (by decide +kernel) ?_
          refine J_icmp_lt B.1 (off := 5) (tgt := 44) (by decide +kernel) (by decide) hf (fun hf => ?_) (fun hf => ?_)
          · refine B_blk B jlkX5_ok hcl [.aload_n 0] (by decide +kernel) (ls' := [(0, jR t), (1, jI a0), (2, jI a1), (3, jI (jW (jW (a0 * m t 1) + a1)))]) (st' := [jR t]) rfl (p1 := 45) rfl ?_
            refine K_get (v := jR a) B jlkX5_ok hcl (idx := 18) rfl hfacts.1 rfl rfl (by decide +kernel) ?_
            refine B_blk B jlkX5_ok hcl [.iload_n 3] (by decide +kernel) (ls' := [(0, jR t), (1, jI a0), (2, jI a1), (3, jI (jW (jW (a0 * m t 1) + a1)))]) (st' := [jI (jW (jW (a0 * m t 1) + a1)), jR a]) rfl (p1 := 49) rfl ?_
            obtain ⟨g1, hf⟩ := jgd hf
            refine K_iald (lenI := (w : Int)) B hfacts.2.1 rfl g1 (by decide +kernel) ?_
            cases hf
            exact B_retI B hq rfl (Nat.le_of_ble_eq_true rfl) (Nat.le_of_ble_eq_true rfl) (by decide +kernel)
          · refine B_blk B jlkX5_ok hcl [.iconst 0] (by decide +kernel) (ls' := [(0, jR t), (1, jI a0), (2, jI a1), (3, jI (jW (jW (a0 * m t 1) + a1)))]) (st' := [jI 0]) rfl (p1 := 43) rfl ?_
            cases hf
            exact B_retI B hq rfl (Nat.le_of_ble_eq_true rfl) (Nat.le_of_ble_eq_true rfl) (by decide +kernel)

def rm_X5_isSpanned : Room := { frames := 2, cells := 0, slots := 0, locals := 64 }
def f_X5_isSpanned (t a w : Nat) (a0 : Int) (a1 : Int) (m : jMu) : Option Int :=
  (if a0 < 0 then some 0 else (if m t 3 ≤ a0 then some 0 else (if m t 1 < 2 then some 0 else (if jW (jW (a0 * m t 1) + 1) < (w : Int) then (if 0 ≤ jW (a0 * m t 1) ∧ jW (a0 * m t 1) < (w : Int) then (if a1 < m a (jW (a0 * m t 1)) then some 0 else (if 0 ≤ jW (jW (a0 * m t 1) + 1) ∧ jW (jW (a0 * m t 1) + 1) < (w : Int) then (if m a (jW (jW (a0 * m t 1) + 1)) < a1 then some 0 else some 1) else none)) else none) else some 0))))
theorem t_X5_isSpanned {l : Launch} {G : jG} (hl : l.stackTraces = false) {S : List jSh} (hcl : jcl S) {t a w : Nat} (hfacts : jTb S t a w) {a0 : Int} {a1 : Int} {m : jMu} {r : Int} (hf : f_X5_isSpanned t a w a0 a1 m = some r) : jCt l G yX5_isSpanned (.code yX5_isSpanned cX5_isSpanned 4 (some .boolean) :: jWG) rm_X5_isSpanned [jR t, jI a0, jI a1] S m (.inl (some (jI r))) S m := by
  unfold f_X5_isSpanned at hf
  refine J_start (ls0 := [(0, jR t), (1, jI a0), (2, jI a1)]) (by decide +kernel) hl (Nat.le_of_ble_eq_true rfl) rfl fun X C hN hn hR hr hnm hno hq => ?_
  have B : jB X cX5_isSpanned RX5 4 S.length rm_X5_isSpanned (some .boolean) := ⟨C, hN, Nat.le_of_eq hn, hR, hr⟩
  refine B_blk B jlkX5_ok hcl [.iload_n 1, .aload_n 0] (by decide +kernel) (ls' := [(0, jR t), (1, jI a0), (2, jI a1)]) (st' := [jR t, jI a0]) rfl (p1 := 2) rfl ?_
  refine K_get (v := jI (m t 1)) B jlkX5_ok hcl (idx := 15) rfl hfacts.1 rfl rfl (by decide +kernel) ?_
  refine B_blk B jlkX5_ok hcl [.imul, .istore_n 3, .iload_n 1] (by decide +kernel) (ls' := [(0, jR t), (1, jI a0), (2, jI a1), (3, jI (jW (a0 * m t 1)))]) (st' := [jI a0]) rfl (p1 := 8) rfl ?_
  refine J_if_lt B.1 (off := 30) (tgt := 38) (by decide +kernel) (by decide) hf (fun hf => ?_) (fun hf => ?_)
  · refine B_blk B jlkX5_ok hcl [.iconst 0] (by decide +kernel) (ls' := [(0, jR t), (1, jI a0), (2, jI a1), (3, jI (jW (a0 * m t 1)))]) (st' := [jI 0]) rfl (p1 := 39) rfl ?_
    cases hf
    exact B_retZ B (Or.inl rfl) hq rfl (Nat.le_of_ble_eq_true rfl) (Nat.le_of_ble_eq_true rfl) (by decide +kernel)
  · refine B_blk B jlkX5_ok hcl [.iload_n 1, .aload_n 0] (by decide +kernel) (ls' := [(0, jR t), (1, jI a0), (2, jI a1), (3, jI (jW (a0 * m t 1)))]) (st' := [jR t, jI a0]) rfl (p1 := 13) rfl ?_
    refine K_get (v := jI (m t 3)) B jlkX5_ok hcl (idx := 22) rfl hfacts.1 rfl rfl (by decide +kernel) ?_
    refine J_icmp_ge B.1 (off := 22) (tgt := 38) (by decide +kernel) (by decide) hf (fun hf => ?_) (fun hf => ?_)
    · refine B_blk B jlkX5_ok hcl [.iconst 0] (by decide +kernel) (ls' := [(0, jR t), (1, jI a0), (2, jI a1), (3, jI (jW (a0 * m t 1)))]) (st' := [jI 0]) rfl (p1 := 39) rfl ?_
      cases hf
      exact B_retZ B (Or.inl rfl) hq rfl (Nat.le_of_ble_eq_true rfl) (Nat.le_of_ble_eq_true rfl) (by decide +kernel)
    · refine B_blk B jlkX5_ok hcl [.aload_n 0] (by decide +kernel) (ls' := [(0, jR t), (1, jI a0), (2, jI a1), (3, jI (jW (a0 * m t 1)))]) (st' := [jR t]) rfl (p1 := 20) rfl ?_
      refine K_get (v := jI (m t 1)) B jlkX5_ok hcl (idx := 15) rfl hfacts.1 rfl rfl (by decide +kernel) ?_
      refine B_blk B jlkX5_ok hcl [.iconst 2] (by decide +kernel) (ls' := [(0, jR t), (1, jI a0), (2, jI a1), (3, jI (jW (a0 * m t 1)))]) (st' := [jI 2, jI (m t 1)]) rfl (p1 := 24) rfl ?_
      refine J_icmp_lt B.1 (off := 14) (tgt := 38) (by decide +kernel) (by decide) hf (fun hf => ?_) (fun hf => ?_)
      · refine B_blk B jlkX5_ok hcl [.iconst 0] (by decide +kernel) (ls' := [(0, jR t), (1, jI a0), (2, jI a1), (3, jI (jW (a0 * m t 1)))]) (st' := [jI 0]) rfl (p1 := 39) rfl ?_
        cases hf
        exact B_retZ B (Or.inl rfl) hq rfl (Nat.le_of_ble_eq_true rfl) (Nat.le_of_ble_eq_true rfl) (by decide +kernel)
      · refine B_blk B jlkX5_ok hcl [.iload_n 3, .iconst 1, .iadd, .aload_n 0] (by decide +kernel) (ls' := [(0, jR t), (1, jI a0), (2, jI a1), (3, jI (jW (a0 * m t 1)))]) (st' := [jR t, jI (jW (jW (a0 * m t 1) + 1))]) rfl (p1 := 31) rfl ?_
        refine K_get (v := jR a) B jlkX5_ok hcl (idx := 18) rfl hfacts.1 rfl rfl (by decide +kernel) ?_
        refine K_alen (lenI := (w : Int)) B hcl hfacts.2.1 (by decide) rfl hfacts.2.2 (by decide +kernel) ?_
        refine J_icmp_lt B.1 (off := 5) (tgt := 40) (by decide +kernel) (by decide) hf (fun hf => ?_) (fun hf => ?_)
        · refine B_blk B jlkX5_ok hcl [.iload_n 2, .aload_n 0] (by decide +kernel) (ls' := [(0, jR t), (1, jI a0), (2, jI a1), (3, jI (jW (a0 * m t 1)))]) (st' := [jR t, jI a1]) rfl (p1 := 42) rfl ?_
          refine K_get (v := jR a) B jlkX5_ok hcl (idx := 18) rfl hfacts.1 rfl rfl (by decide +kernel) ?_
          refine B_blk B jlkX5_ok hcl [.iload_n 3] (by decide +kernel) (ls' := [(0, jR t), (1, jI a0), (2, jI a1), (3, jI (jW (a0 * m t 1)))]) (st' := [jI (jW (a0 * m t 1)), jR a, jI a1]) rfl (p1 := 46) rfl ?_
          obtain ⟨g2, hf⟩ := jgd hf
          refine K_iald (lenI := (w : Int)) B hfacts.2.1 rfl g2 (by decide +kernel) ?_
          refine J_icmp_lt B.1 (off := 19) (tgt := 66) (by decide +kernel) (by decide) hf (fun hf => ?_) (fun hf => ?_)
          · refine B_blk B jlkX5_ok hcl [.iconst 0] (by decide +kernel) (ls' := [(0, jR t), (1, jI a0), (2, jI a1), (3, jI (jW (a0 * m t 1)))]) (st' := [jI 0]) rfl (p1 := 67) rfl ?_
            cases hf
            exact B_retZ B (Or.inl rfl) hq rfl (Nat.le_of_ble_eq_true rfl) (Nat.le_of_ble_eq_true rfl) (by decide +kernel)
          · refine B_blk B jlkX5_ok hcl [.iload_n 2, .aload_n 0] (by decide +kernel) (ls' := [(0, jR t), (1, jI a0), (2, jI a1), (3, jI (jW (a0 * m t 1)))]) (st' := [jR t, jI a1]) rfl (p1 := 52) rfl ?_
            refine K_get (v := jR a) B jlkX5_ok hcl (idx := 18) rfl hfacts.1 rfl rfl (by decide +kernel) ?_
            refine B_blk B jlkX5_ok hcl [.iload_n 3, .iconst 1, .iadd] (by decide +kernel) (ls' := [(0, jR t), (1, jI a0), (2, jI a1), (3, jI (jW (a0 * m t 1)))]) (st' := [jI (jW (jW (a0 * m t 1) + 1)), jR a, jI a1]) rfl (p1 := 58) rfl ?_
            obtain ⟨g1, hf⟩ := jgd hf
            refine K_iald (lenI := (w : Int)) B hfacts.2.1 rfl g1 (by decide +kernel) ?_
            refine J_icmp_gt B.1 (off := 7) (tgt := 66) (by decide +kernel) (by decide) hf (fun hf => ?_) (fun hf => ?_)
            · refine B_blk B jlkX5_ok hcl [.iconst 0] (by decide +kernel) (ls' := [(0, jR t), (1, jI a0), (2, jI a1), (3, jI (jW (a0 * m t 1)))]) (st' := [jI 0]) rfl (p1 := 67) rfl ?_
              cases hf
              exact B_retZ B (Or.inl rfl) hq rfl (Nat.le_of_ble_eq_true rfl) (Nat.le_of_ble_eq_true rfl) (by decide +kernel)
            · refine B_blk B jlkX5_ok hcl [.iconst 1, .goto 4] (by decide +kernel) (ls' := [(0, jR t), (1, jI a0), (2, jI a1), (3, jI (jW (a0 * m t 1)))]) (st' := [jI 1]) rfl (p1 := 67) rfl ?_
              cases hf
              exact B_retZ B (Or.inr rfl) hq rfl (Nat.le_of_ble_eq_true rfl) (Nat.le_of_ble_eq_true rfl) (by decide +kernel)
        · refine B_blk B jlkX5_ok hcl [.iconst 0] (by decide +kernel) (ls' := [(0, jR t), (1, jI a0), (2, jI a1), (3, jI (jW (a0 * m t 1)))]) (st' := [jI 0]) rfl (p1 := 39) rfl ?_
          cases hf
          exact B_retZ B (Or.inl rfl) hq rfl (Nat.le_of_ble_eq_true rfl) (Nat.le_of_ble_eq_true rfl) (by decide +kernel)
