/-! printed walks -/
def rm_X10_thick : Room := { frames := 6, cells := 0, slots := 0, locals := 111 }
def f_X10_thick_L9 : Nat → Int → Int → jMu → Option (Int × jMu)
  | 0, _, _, _ => none
  | q + 1, v1, v2, m => (if m 75 0 ≤ v2 then some (v1, m) else (f_X10_found v2 0 200 m).bind fun r2 => (if v1 = (-1) then (if r2 ≤ 0 then f_X10_thick_L9 q v1 (jW (v2 + 1)) m else f_X10_thick_L9 q v2 (jW (v2 + 1)) m) else (f_X10_found v1 0 200 m).bind fun r3 => (if r2 ≤ r3 then f_X10_thick_L9 q v1 (jW (v2 + 1)) m else f_X10_thick_L9 q v2 (jW (v2 + 1)) m)))
def f_X10_thick (m : jMu) : Option (Int × jMu) :=
  (jlt (jup m 74 0 0) fun m1 => f_X10_thick_L9 jFU (-1) 0 m1)
theorem t_X10_thick_L9 {X : jX} (B : jB X cX10_thick RX10 3 SKF.length rm_X10_thick (some .int)) : ∀ (q : Nat) (v1 : Int) (v2 : Int) (m : jMu) (r : (Int × jMu)), f_X10_thick_L9 q v1 v2 m = some r → jQ X (.inl (some (jI r.1))) SKF r.2 rm_X10_thick.cells rm_X10_thick.slots → J X SKF m 0 0 9 [(0, jR 74), (1, jI v1), (2, jI v2)] [] := by
  intro q
  induction q with
  | zero =>
    intro v1 v2 m r hf
    rw [f_X10_thick_L9] at hf
    cases hf
  | succ q ih =>
    intro v1 v2 m r hf hq
    rw [f_X10_thick_L9] at hf
    refine B_blk B jlkX10_ok jcl_SKF [.iload_n 2, .aload_n 0, .getfield 7, .iconst 0] (by decide +kernel) (ls' := [(0, jR 74), (1, jI v1), (2, jI v2)]) (st' := [jI 0, jR 75, jI v2]) rfl (p1 := 15) rfl ?_
    refine K_iald (lenI := 2083) B rfl rfl (by decide) (by decide +kernel) ?_
    refine J_icmp_ge B.1 (off := 41) (tgt := 57) (by decide +kernel) (by decide) hf (fun hf => ?_) (fun hf => ?_)
    · refine B_blk B jlkX10_ok jcl_SKF [.iload_n 1] (by decide +kernel) (ls' := [(0, jR 74), (1, jI v1), (2, jI v2)]) (st' := [jI v1]) rfl (p1 := 58) rfl ?_
      cases hf
      exact B_retI B hq rfl (Nat.le_of_ble_eq_true rfl) (Nat.le_of_ble_eq_true rfl) (by decide +kernel)
    · refine B_blk B jlkX10_ok jcl_SKF [.aload_n 0, .iload_n 2, .iconst 0, .sipush 200] (by decide +kernel) (ls' := [(0, jR 74), (1, jI v1), (2, jI v2)]) (st' := [jI 200, jI 0, jI v2, jR 74]) rfl (p1 := 25) rfl ?_
      obtain ⟨r2, h2, hf⟩ := jbd hf
      refine B_callV B (Nat.le_refl _) (μ' := m) (k' := 0) (n' := 0) ca_X10_found in_X10_found se_X10_found lk_X10_296 (t_X10_found B.tr h2) (Nat.le_refl _) rfl rfl rfl (rest := []) rfl rfl (Nat.le_of_ble_eq_true rfl) (by decide +kernel) rfl rfl (st' := [jI r2]) rfl ?_
      refine B_blk B jlkX10_ok jcl_SKF [.iload_n 1, .iconst (-1)] (by decide +kernel) (ls' := [(0, jR 74), (1, jI v1), (2, jI v2)]) (st' := [jI (-1), jI v1, jI r2]) rfl (p1 := 30) rfl ?_
      refine J_icmp_ne B.1 (off := 7) (tgt := 37) (by decide +kernel) (by decide) hf (fun hf => ?_) (fun hf => ?_)
      · refine B_blk B jlkX10_ok jcl_SKF [.iconst 0, .goto 12] (by decide +kernel) (ls' := [(0, jR 74), (1, jI v1), (2, jI v2)]) (st' := [jI 0, jI r2]) rfl (p1 := 46) rfl ?_
        refine J_icmp_le B.1 (off := 5) (tgt := 51) (by decide +kernel) (by decide) hf (fun hf => ?_) (fun hf => ?_)
        · refine B_blk B jlkX10_ok jcl_SKF [.iinc 2 1, .goto (-45)] (by decide +kernel) (ls' := [(0, jR 74), (1, jI v1), (2, jI (jW (v2 + 1)))]) (st' := []) rfl (p1 := 9) rfl ?_
          exact ih v1 (jW (v2 + 1)) m _ hf hq
        · refine B_blk B jlkX10_ok jcl_SKF [.iload_n 2, .istore_n 1, .iinc 2 1, .goto (-45)] (by decide +kernel) (ls' := [(0, jR 74), (1, jI v2), (2, jI (jW (v2 + 1)))]) (st' := []) rfl (p1 := 9) rfl ?_
          exact ih v2 (jW (v2 + 1)) m _ hf hq
      · refine B_blk B jlkX10_ok jcl_SKF [.aload_n 0, .iload_n 1, .iconst 0, .sipush 200] (by decide +kernel) (ls' := [(0, jR 74), (1, jI v1), (2, jI v2)]) (st' := [jI 200, jI 0, jI v1, jR 74, jI r2]) rfl (p1 := 43) rfl ?_
        obtain ⟨r3, h3, hf⟩ := jbd hf
        refine B_callV B (Nat.le_refl _) (μ' := m) (k' := 0) (n' := 0) ca_X10_found in_X10_found se_X10_found lk_X10_296 (t_X10_found B.tr h3) (Nat.le_refl _) rfl rfl rfl (rest := [jI r2]) rfl rfl (Nat.le_of_ble_eq_true rfl) (by decide +kernel) rfl rfl (st' := [jI r3, jI r2]) rfl ?_
        refine J_icmp_le B.1 (off := 5) (tgt := 51) (by decide +kernel) (by decide) hf (fun hf => ?_) (fun hf => ?_)
        · refine B_blk B jlkX10_ok jcl_SKF [.iinc 2 1, .goto (-45)] (by decide +kernel) (ls' := [(0, jR 74), (1, jI v1), (2, jI (jW (v2 + 1)))]) (st' := []) rfl (p1 := 9) rfl ?_
          exact ih v1 (jW (v2 + 1)) m _ hf hq
        · refine B_blk B jlkX10_ok jcl_SKF [.iload_n 2, .istore_n 1, .iinc 2 1, .goto (-45)] (by decide +kernel) (ls' := [(0, jR 74), (1, jI v2), (2, jI (jW (v2 + 1)))]) (st' := []) rfl (p1 := 9) rfl ?_
          exact ih v2 (jW (v2 + 1)) m _ hf hq
theorem t_X10_thick {l : Launch} {G : jG} (hl : l.stackTraces = false) {m : jMu} {r : (Int × jMu)} (hf : f_X10_thick m = some r) : jCt l G yX10_thick (.code yX10_thick cX10_thick 3 (some .int) :: jWG) rm_X10_thick [jR 74] SKF m (.inl (some (jI r.1))) SKF r.2 := by
  unfold f_X10_thick at hf
  refine J_start (ls0 := [(0, jR 74)]) (by decide +kernel) hl (Nat.le_of_ble_eq_true rfl) rfl fun X C hN hn hR hr hnm hno hq => ?_
  have B : jB X cX10_thick RX10 3 SKF.length rm_X10_thick (some .int) := ⟨C, hN, Nat.le_of_eq hn, hR, hr⟩
  refine B_blk B jlkX10_ok jcl_SKF [.aload_n 0, .iconst 0] (by decide +kernel) (ls' := [(0, jR 74)]) (st' := [jI 0, jR 74]) rfl (p1 := 2) rfl ?_
  refine K_putI (jI' := 0) B jp_X10_51 rfl rfl rfl (by decide +kernel) ?_
  obtain ⟨m1, hm1, hf⟩ := jlt_s hf
  rw [hm1]
  refine B_blk B jlkX10_ok jcl_SKF [.iconst (-1), .istore_n 1, .iconst 0, .istore_n 2] (by decide +kernel) (ls' := [(0, jR 74), (1, jI (-1)), (2, jI 0)]) (st' := []) rfl (p1 := 9) rfl ?_
  exact t_X10_thick_L9 B jFU (-1) 0 m1 _ hf hq

def rm_X10_image : Room := { frames := 2, cells := 0, slots := 0, locals := 64 }
def f_X10_image_L7 : Nat → Int → jMu → Option jMu
  | 0, _, _ => none
  | q + 1, v1, m => (if 2083 ≤ v1 then (jlt (jup m 74 3 1) fun m2 => some m2) else (if 0 ≤ v1 ∧ v1 < 2083 then (if 0 ≤ v1 ∧ v1 < 2083 then (jlt (jup m 76 v1 (m 75 v1)) fun m3 => f_X10_image_L7 q (jW (v1 + 1)) m3) else none) else none))
def f_X10_image (m : jMu) : Option jMu :=
  (jlt (jup m 74 0 0) fun m1 => f_X10_image_L7 jFU 0 m1)
theorem t_X10_image_L7 {X : jX} (B : jB X cX10_image RX10 2 SKF.length rm_X10_image none) : ∀ (q : Nat) (v1 : Int) (m : jMu) (r : jMu), f_X10_image_L7 q v1 m = some r → jQ X (.inl none) SKF r rm_X10_image.cells rm_X10_image.slots → J X SKF m 0 0 7 [(0, jR 74), (1, jI v1)] [] := by
  intro q
  induction q with
  | zero =>
    intro v1 m r hf
    rw [f_X10_image_L7] at hf
    cases hf
  | succ q ih =>
    intro v1 m r hf hq
    rw [f_X10_image_L7] at hf
    refine B_blk B jlkX10_ok jcl_SKF [.iload_n 1, .sipush 2083] (by decide +kernel) (ls' := [(0, jR 74), (1, jI v1)]) (st' := [jI 2083, jI v1]) rfl (p1 := 11) rfl ?_
    refine J_icmp_ge B.1 (off := 21) (tgt := 32) (by decide +kernel) (by decide) hf (fun hf => ?_) (fun hf => ?_)
    · refine B_blk B jlkX10_ok jcl_SKF [.aload_n 0, .iconst 1] (by decide +kernel) (ls' := [(0, jR 74), (1, jI v1)]) (st' := [jI 1, jR 74]) rfl (p1 := 34) rfl ?_
      refine K_putZ (jI' := 3) B jp_X10_299 rfl rfl rfl (Or.inr rfl) (by decide +kernel) ?_
      obtain ⟨m2, hm2, hf⟩ := jlt_s hf
      rw [hm2]
      cases hf
      exact B_retV B hq rfl (Nat.le_of_ble_eq_true rfl) (Nat.le_of_ble_eq_true rfl) (by decide +kernel)
    · refine B_blk B jlkX10_ok jcl_SKF [.aload_n 0, .getfield 13, .iload_n 1, .aload_n 0, .getfield 7, .iload_n 1] (by decide +kernel) (ls' := [(0, jR 74), (1, jI v1)]) (st' := [jI v1, jR 75, jI v1, jR 76]) rfl (p1 := 24) rfl ?_
      obtain ⟨g5, hf⟩ := jgd hf
      refine K_iald (lenI := 2083) B rfl rfl g5 (by decide +kernel) ?_
      obtain ⟨g4, hf⟩ := jgd hf
      refine K_iast (lenI := 2083) B rfl rfl g4 (by decide +kernel) ?_
      obtain ⟨m3, hm3, hf⟩ := jlt_s hf
      rw [hm3]
      refine B_blk B jlkX10_ok jcl_SKF [.iinc 1 1, .goto (-22)] (by decide +kernel) (ls' := [(0, jR 74), (1, jI (jW (v1 + 1)))]) (st' := []) rfl (p1 := 7) rfl ?_
      exact ih (jW (v1 + 1)) m3 _ hf hq
theorem t_X10_image {l : Launch} {G : jG} (hl : l.stackTraces = false) {m : jMu} {r : jMu} (hf : f_X10_image m = some r) : jCt l G yX10_image (.code yX10_image cX10_image 2 none :: jWG) rm_X10_image [jR 74] SKF m (.inl none) SKF r := by
  unfold f_X10_image at hf
  refine J_start (ls0 := [(0, jR 74)]) (by decide +kernel) hl (Nat.le_of_ble_eq_true rfl) rfl fun X C hN hn hR hr hnm hno hq => ?_
  have B : jB X cX10_image RX10 2 SKF.length rm_X10_image none := ⟨C, hN, Nat.le_of_eq hn, hR, hr⟩
  refine B_blk B jlkX10_ok jcl_SKF [.aload_n 0, .iconst 0] (by decide +kernel) (ls' := [(0, jR 74)]) (st' := [jI 0, jR 74]) rfl (p1 := 2) rfl ?_
  refine K_putI (jI' := 0) B jp_X10_51 rfl rfl rfl (by decide +kernel) ?_
  obtain ⟨m1, hm1, hf⟩ := jlt_s hf
  rw [hm1]
  refine B_blk B jlkX10_ok jcl_SKF [.iconst 0, .istore_n 1] (by decide +kernel) (ls' := [(0, jR 74), (1, jI 0)]) (st' := []) rfl (p1 := 7) rfl ?_
  exact t_X10_image_L7 B jFU 0 m1 _ hf hq

def rm_X10_back : Room := { frames := 2, cells := 0, slots := 0, locals := 64 }
def f_X10_back_L16 : Nat → Int → jMu → Option (Int × jMu)
  | 0, _, _ => none
  | q + 1, v1, m => (if 2083 ≤ v1 then some (1, m) else (if 0 ≤ v1 ∧ v1 < 2083 then (if 0 ≤ v1 ∧ v1 < 2083 then (jlt (jup m 75 v1 (m 76 v1)) fun m2 => f_X10_back_L16 q (jW (v1 + 1)) m2) else none) else none))
def f_X10_back (m : jMu) : Option (Int × jMu) :=
  (jlt (jup m 74 0 0) fun m1 => (if m1 74 3 = 0 then some (0, m1) else f_X10_back_L16 jFU 0 m1))
theorem t_X10_back_L16 {X : jX} (B : jB X cX10_back RX10 2 SKF.length rm_X10_back (some .boolean)) : ∀ (q : Nat) (v1 : Int) (m : jMu) (r : (Int × jMu)), f_X10_back_L16 q v1 m = some r → jQ X (.inl (some (jI r.1))) SKF r.2 rm_X10_back.cells rm_X10_back.slots → J X SKF m 0 0 16 [(0, jR 74), (1, jI v1)] [] := by
  intro q
  induction q with
  | zero =>
    intro v1 m r hf
    rw [f_X10_back_L16] at hf
    cases hf
  | succ q ih =>
    intro v1 m r hf hq
    rw [f_X10_back_L16] at hf
    refine B_blk B jlkX10_ok jcl_SKF [.iload_n 1, .sipush 2083] (by decide +kernel) (ls' := [(0, jR 74), (1, jI v1)]) (st' := [jI 2083, jI v1]) rfl (p1 := 20) rfl ?_
    refine J_icmp_ge B.1 (off := 21) (tgt := 41) (by decide +kernel) (by decide) hf (fun hf => ?_) (fun hf => ?_)
    · refine B_blk B jlkX10_ok jcl_SKF [.iconst 1] (by decide +kernel) (ls' := [(0, jR 74), (1, jI v1)]) (st' := [jI 1]) rfl (p1 := 42) rfl ?_
      cases hf
      exact B_retZ B (Or.inr rfl) hq rfl (Nat.le_of_ble_eq_true rfl) (Nat.le_of_ble_eq_true rfl) (by decide +kernel)
    · refine B_blk B jlkX10_ok jcl_SKF [.aload_n 0, .getfield 7, .iload_n 1, .aload_n 0, .getfield 13, .iload_n 1] (by decide +kernel) (ls' := [(0, jR 74), (1, jI v1)]) (st' := [jI v1, jR 76, jI v1, jR 75]) rfl (p1 := 33) rfl ?_
      obtain ⟨g4, hf⟩ := jgd hf
      refine K_iald (lenI := 2083) B rfl rfl g4 (by decide +kernel) ?_
      obtain ⟨g3, hf⟩ := jgd hf
      refine K_iast (lenI := 2083) B rfl rfl g3 (by decide +kernel) ?_
      obtain ⟨m2, hm2, hf⟩ := jlt_s hf
      rw [hm2]
      refine B_blk B jlkX10_ok jcl_SKF [.iinc 1 1, .goto (-22)] (by decide +kernel) (ls' := [(0, jR 74), (1, jI (jW (v1 + 1)))]) (st' := []) rfl (p1 := 16) rfl ?_
      exact ih (jW (v1 + 1)) m2 _ hf hq
theorem t_X10_back {l : Launch} {G : jG} (hl : l.stackTraces = false) {m : jMu} {r : (Int × jMu)} (hf : f_X10_back m = some r) : jCt l G yX10_back (.code yX10_back cX10_back 2 (some .boolean) :: jWG) rm_X10_back [jR 74] SKF m (.inl (some (jI r.1))) SKF r.2 := by
  unfold f_X10_back at hf
  refine J_start (ls0 := [(0, jR 74)]) (by decide +kernel) hl (Nat.le_of_ble_eq_true rfl) rfl fun X C hN hn hR hr hnm hno hq => ?_
  have B : jB X cX10_back RX10 2 SKF.length rm_X10_back (some .boolean) := ⟨C, hN, Nat.le_of_eq hn, hR, hr⟩
  refine B_blk B jlkX10_ok jcl_SKF [.aload_n 0, .iconst 0] (by decide +kernel) (ls' := [(0, jR 74)]) (st' := [jI 0, jR 74]) rfl (p1 := 2) rfl ?_
  refine K_putI (jI' := 0) B jp_X10_51 rfl rfl rfl (by decide +kernel) ?_
  obtain ⟨m1, hm1, hf⟩ := jlt_s hf
  rw [hm1]
  refine B_blk B jlkX10_ok jcl_SKF [.aload_n 0, .getfield 299] (by decide +kernel) (ls' := [(0, jR 74)]) (st' := [jI (m1 74 3)]) rfl (p1 := 9) rfl ?_
  refine J_if_ne B.1 (off := 5) (tgt := 14) (by decide +kernel) (by decide) hf (fun hf => ?_) (fun hf => ?_)
  · refine B_blk B jlkX10_ok jcl_SKF [.iconst 0] (by decide +kernel) (ls' := [(0, jR 74)]) (st' := [jI 0]) rfl (p1 := 13) rfl ?_
    cases hf
    exact B_retZ B (Or.inl rfl) hq rfl (Nat.le_of_ble_eq_true rfl) (Nat.le_of_ble_eq_true rfl) (by decide +kernel)
  · refine B_blk B jlkX10_ok jcl_SKF [.iconst 0, .istore_n 1] (by decide +kernel) (ls' := [(0, jR 74), (1, jI 0)]) (st' := []) rfl (p1 := 16) rfl ?_
    exact t_X10_back_L16 B jFU 0 m1 _ hf hq

def rm_X10_count : Room := { frames := 2, cells := 0, slots := 0, locals := 64 }
def f_X10_count (a0 : Int) (m : jMu) : Option (Int × jMu) :=
  (jlt (jup m 74 0 0) fun m1 => (if a0 = 0 then some (m1 75 0, m1) else (if a0 = 1 then some (m1 75 5, m1) else (if a0 = 2 then some (m1 75 6, m1) else (if a0 = 3 then some (m1 75 7, m1) else (if a0 = 4 then some (m1 75 8, m1) else (if a0 = 5 then some (m1 75 9, m1) else (if a0 = 6 then some (m1 75 10, m1) else (if a0 = 7 then some (m1 75 11, m1) else (if a0 = 8 then some (m1 75 4, m1) else (if a0 = 9 then some (m1 75 1, m1) else some ((-1), m1))))))))))))
theorem t_X10_count {l : Launch} {G : jG} (hl : l.stackTraces = false) {a0 : Int} {m : jMu} {r : (Int × jMu)} (hf : f_X10_count a0 m = some r) : jCt l G yX10_count (.code yX10_count cX10_count 2 (some .int) :: jWG) rm_X10_count [jR 74, jI a0] SKF m (.inl (some (jI r.1))) SKF r.2 := by
  unfold f_X10_count at hf
  refine J_start (ls0 := [(0, jR 74), (1, jI a0)]) (by decide +kernel) hl (Nat.le_of_ble_eq_true rfl) rfl fun X C hN hn hR hr hnm hno hq => ?_
  have B : jB X cX10_count RX10 2 SKF.length rm_X10_count (some .int) := ⟨C, hN, Nat.le_of_eq hn, hR, hr⟩
  refine B_blk B jlkX10_ok jcl_SKF [.aload_n 0, .iconst 0] (by decide +kernel) (ls' := [(0, jR 74), (1, jI a0)]) (st' := [jI 0, jR 74]) rfl (p1 := 2) rfl ?_
  refine K_putI (jI' := 0) B jp_X10_51 rfl rfl rfl (by decide +kernel) ?_
  obtain ⟨m1, hm1, hf⟩ := jlt_s hf
  rw [hm1]
  refine B_blk B jlkX10_ok jcl_SKF [.iload_n 1] (by decide +kernel) (ls' := [(0, jR 74), (1, jI a0)]) (st' := [jI a0]) rfl (p1 := 6) rfl ?_
  refine J_if_ne B.1 (off := 12) (tgt := 18) (by decide +kernel) (by decide) hf (fun hf => ?_) (fun hf => ?_)
  · refine B_blk B jlkX10_ok jcl_SKF [.aload_n 0, .getfield 7, .iconst 0] (by decide +kernel) (ls' := [(0, jR 74), (1, jI a0)]) (st' := [jI 0, jR 75]) rfl (p1 := 14) rfl ?_
    refine K_iald (lenI := 2083) B rfl rfl (by decide) (by decide +kernel) ?_
    refine B_blk B jlkX10_ok jcl_SKF [.goto 140] (by decide +kernel) (ls' := [(0, jR 74), (1, jI a0)]) (st' := [jI (m1 75 0)]) rfl (p1 := 155) rfl ?_
    cases hf
    exact B_retI B hq rfl (Nat.le_of_ble_eq_true rfl) (Nat.le_of_ble_eq_true rfl) (by decide +kernel)
  · refine B_blk B jlkX10_ok jcl_SKF [.iload_n 1, .iconst 1] (by decide +kernel) (ls' := [(0, jR 74), (1, jI a0)]) (st' := [jI 1, jI a0]) rfl (p1 := 20) rfl ?_
    refine J_icmp_ne B.1 (off := 12) (tgt := 32) (by decide +kernel) (by decide) hf (fun hf => ?_) (fun hf => ?_)
    · refine B_blk B jlkX10_ok jcl_SKF [.aload_n 0, .getfield 7, .iconst 5] (by decide +kernel) (ls' := [(0, jR 74), (1, jI a0)]) (st' := [jI 5, jR 75]) rfl (p1 := 28) rfl ?_
      refine K_iald (lenI := 2083) B rfl rfl (by decide) (by decide +kernel) ?_
      refine B_blk B jlkX10_ok jcl_SKF [.goto 126] (by decide +kernel) (ls' := [(0, jR 74), (1, jI a0)]) (st' := [jI (m1 75 5)]) rfl (p1 := 155) rfl ?_
      cases hf
      exact B_retI B hq rfl (Nat.le_of_ble_eq_true rfl) (Nat.le_of_ble_eq_true rfl) (by decide +kernel)
    · refine B_blk B jlkX10_ok jcl_SKF [.iload_n 1, .iconst 2] (by decide +kernel) (ls' := [(0, jR 74), (1, jI a0)]) (st' := [jI 2, jI a0]) rfl (p1 := 34) rfl ?_
      refine J_icmp_ne B.1 (off := 13) (tgt := 47) (by decide +kernel) (by decide) hf (fun hf => ?_) (fun hf => ?_)
      · refine B_blk B jlkX10_ok jcl_SKF [.aload_n 0, .getfield 7, .bipush 6] (by decide +kernel) (ls' := [(0, jR 74), (1, jI a0)]) (st' := [jI 6, jR 75]) rfl (p1 := 43) rfl ?_
        refine K_iald (lenI := 2083) B rfl rfl (by decide) (by decide +kernel) ?_
        refine B_blk B jlkX10_ok jcl_SKF [.goto 111] (by decide +kernel) (ls' := [(0, jR 74), (1, jI a0)]) (st' := [jI (m1 75 6)]) rfl (p1 := 155) rfl ?_
        cases hf
        exact B_retI B hq rfl (Nat.le_of_ble_eq_true rfl) (Nat.le_of_ble_eq_true rfl) (by decide +kernel)
      · refine B_blk B jlkX10_ok jcl_SKF [.iload_n 1, .iconst 3] (by decide +kernel) (ls' := [(0, jR 74), (1, jI a0)]) (st' := [jI 3, jI a0]) rfl (p1 := 49) rfl ?_
        refine J_icmp_ne B.1 (off := 13) (tgt := 62) (by decide +kernel) (by decide) hf (fun hf => ?_) (fun hf => ?_)
        · refine B_blk B jlkX10_ok jcl_SKF [.aload_n 0, .getfield 7, .bipush 7] (by decide +kernel) (ls' := [(0, jR 74), (1, jI a0)]) (st' := [jI 7, jR 75]) rfl (p1 := 58) rfl ?_
          refine K_iald (lenI := 2083) B rfl rfl (by decide) (by decide +kernel) ?_
          refine B_blk B jlkX10_ok jcl_SKF [.goto 96] (by decide +kernel) (ls' := [(0, jR 74), (1, jI a0)]) (st' := [jI (m1 75 7)]) rfl (p1 := 155) rfl ?_
          cases hf
          exact B_retI B hq rfl (Nat.le_of_ble_eq_true rfl) (Nat.le_of_ble_eq_true rfl) (by decide +kernel)
        · refine B_blk B jlkX10_ok jcl_SKF [.iload_n 1, .iconst 4] (by decide +kernel) (ls' := [(0, jR 74), (1, jI a0)]) (st' := [jI 4, jI a0]) rfl (p1 := 64) rfl ?_
          refine J_icmp_ne B.1 (off := 13) (tgt := 77) (by decide +kernel) (by decide) hf (fun hf => ?_) (fun hf => ?_)
          · refine B_blk B jlkX10_ok jcl_SKF [.aload_n 0, .getfield 7, .bipush 8] (by decide +kernel) (ls' := [(0, jR 74), (1, jI a0)]) (st' := [jI 8, jR 75]) rfl (p1 := 73) rfl ?_
            refine K_iald (lenI := 2083) B rfl rfl (by decide) (by decide +kernel) ?_
            refine B_blk B jlkX10_ok jcl_SKF [.goto 81] (by decide +kernel) (ls' := [(0, jR 74), (1, jI a0)]) (st' := [jI (m1 75 8)]) rfl (p1 := 155) rfl ?_
            cases hf
            exact B_retI B hq rfl (Nat.le_of_ble_eq_true rfl) (Nat.le_of_ble_eq_true rfl) (by decide +kernel)
          · refine B_blk B jlkX10_ok jcl_SKF [.iload_n 1, .iconst 5] (by decide +kernel) (ls' := [(0, jR 74), (1, jI a0)]) (st' := [jI 5, jI a0]) rfl (p1 := 79) rfl ?_
            refine J_icmp_ne B.1 (off := 13) (tgt := 92) (by decide +kernel) (by decide) hf (fun hf => ?_) (fun hf => ?_)
            · refine B_blk B jlkX10_ok jcl_SKF [.aload_n 0, .getfield 7, .bipush 9] (by decide +kernel) (ls' := [(0, jR 74), (1, jI a0)]) (st' := [jI 9, jR 75]) rfl (p1 := 88) rfl ?_
              refine K_iald (lenI := 2083) B rfl rfl (by decide) (by decide +kernel) ?_
              refine B_blk B jlkX10_ok jcl_SKF [.goto 66] (by decide +kernel) (ls' := [(0, jR 74), (1, jI a0)]) (st' := [jI (m1 75 9)]) rfl (p1 := 155) rfl ?_
              cases hf
              exact B_retI B hq rfl (Nat.le_of_ble_eq_true rfl) (Nat.le_of_ble_eq_true rfl) (by decide +kernel)
            · refine B_blk B jlkX10_ok jcl_SKF [.iload_n 1, .bipush 6] (by decide +kernel) (ls' := [(0, jR 74), (1, jI a0)]) (st' := [jI 6, jI a0]) rfl (p1 := 95) rfl ?_
              refine J_icmp_ne B.1 (off := 13) (tgt := 108) (by decide +kernel) (by decide) hf (fun hf => ?_) (fun hf => ?_)
              · refine B_blk B jlkX10_ok jcl_SKF [.aload_n 0, .getfield 7, .bipush 10] (by decide +kernel) (ls' := [(0, jR 74), (1, jI a0)]) (st' := [jI 10, jR 75]) rfl (p1 := 104) rfl ?_
                refine K_iald (lenI := 2083) B rfl rfl (by decide) (by decide +kernel) ?_
                refine B_blk B jlkX10_ok jcl_SKF [.goto 50] (by decide +kernel) (ls' := [(0, jR 74), (1, jI a0)]) (st' := [jI (m1 75 10)]) rfl (p1 := 155) rfl ?_
                cases hf
                exact B_retI B hq rfl (Nat.le_of_ble_eq_true rfl) (Nat.le_of_ble_eq_true rfl) (by decide +kernel)
              · refine B_blk B jlkX10_ok jcl_SKF [.iload_n 1, .bipush 7] (by decide +kernel) (ls' := [(0, jR 74), (1, jI a0)]) (st' := [jI 7, jI a0]) rfl (p1 := 111) rfl ?_
                refine J_icmp_ne B.1 (off := 13) (tgt := 124) (by decide +kernel) (by decide) hf (fun hf => ?_) (fun hf => ?_)
                · refine B_blk B jlkX10_ok jcl_SKF [.aload_n 0, .getfield 7, .bipush 11] (by decide +kernel) (ls' := [(0, jR 74), (1, jI a0)]) (st' := [jI 11, jR 75]) rfl (p1 := 120) rfl ?_
                  refine K_iald (lenI := 2083) B rfl rfl (by decide) (by decide +kernel) ?_
                  refine B_blk B jlkX10_ok jcl_SKF [.goto 34] (by decide +kernel) (ls' := [(0, jR 74), (1, jI a0)]) (st' := [jI (m1 75 11)]) rfl (p1 := 155) rfl ?_
                  cases hf
                  exact B_retI B hq rfl (Nat.le_of_ble_eq_true rfl) (Nat.le_of_ble_eq_true rfl) (by decide +kernel)
                · refine B_blk B jlkX10_ok jcl_SKF [.iload_n 1, .bipush 8] (by decide +kernel) (ls' := [(0, jR 74), (1, jI a0)]) (st' := [jI 8, jI a0]) rfl (p1 := 127) rfl ?_
                  refine J_icmp_ne B.1 (off := 12) (tgt := 139) (by decide +kernel) (by decide) hf (fun hf => ?_) (fun hf => ?_)
                  · refine B_blk B jlkX10_ok jcl_SKF [.aload_n 0, .getfield 7, .iconst 4] (by decide +kernel) (ls' := [(0, jR 74), (1, jI a0)]) (st' := [jI 4, jR 75]) rfl (p1 := 135) rfl ?_
                    refine K_iald (lenI := 2083) B rfl rfl (by decide) (by decide +kernel) ?_
                    refine B_blk B jlkX10_ok jcl_SKF [.goto 19] (by decide +kernel) (ls' := [(0, jR 74), (1, jI a0)]) (st' := [jI (m1 75 4)]) rfl (p1 := 155) rfl ?_
                    cases hf
                    exact B_retI B hq rfl (Nat.le_of_ble_eq_true rfl) (Nat.le_of_ble_eq_true rfl) (by decide +kernel)
                  · refine B_blk B jlkX10_ok jcl_SKF [.iload_n 1, .bipush 9] (by decide +kernel) (ls' := [(0, jR 74), (1, jI a0)]) (st' := [jI 9, jI a0]) rfl (p1 := 142) rfl ?_
                    refine J_icmp_ne B.1 (off := 12) (tgt := 154) (by decide +kernel) (by decide) hf (fun hf => ?_) (fun hf => ?_)
                    · refine B_blk B jlkX10_ok jcl_SKF [.aload_n 0, .getfield 7, .iconst 1] (by decide +kernel) (ls' := [(0, jR 74), (1, jI a0)]) (st' := [jI 1, jR 75]) rfl (p1 := 150) rfl ?_
                      refine K_iald (lenI := 2083) B rfl rfl (by decide) (by decide +kernel) ?_
                      refine B_blk B jlkX10_ok jcl_SKF [.goto 4] (by decide +kernel) (ls' := [(0, jR 74), (1, jI a0)]) (st' := [jI (m1 75 1)]) rfl (p1 := 155) rfl ?_
                      cases hf
                      exact B_retI B hq rfl (Nat.le_of_ble_eq_true rfl) (Nat.le_of_ble_eq_true rfl) (by decide +kernel)
                    · refine B_blk B jlkX10_ok jcl_SKF [.iconst (-1)] (by decide +kernel) (ls' := [(0, jR 74), (1, jI a0)]) (st' := [jI (-1)]) rfl (p1 := 155) rfl ?_
                      cases hf
                      exact B_retI B hq rfl (Nat.le_of_ble_eq_true rfl) (Nat.le_of_ble_eq_true rfl) (by decide +kernel)
