/-! printed walks -/
def SK0 : List jSh := [.inl (8, [some none, some none, some none, some none, some none, some none, some none, some none, none, none])]
theorem jcl_SK0 : jcl SK0 := jcl_of (by decide +kernel)

def SK1 : List jSh := [.inl (8, [some none, some none, some none, some none, some none, some none, some none, some none, none, none]), .inl (4, [some none, some none, some none, some none, some none, some none, some none, some none, some none, some none, some none, some none, some none, some none, none, none])]
theorem jcl_SK1 : jcl SK1 := jcl_of (by decide +kernel)

def SK2 : List jSh := [.inl (8, [some none, some none, some none, some none, some none, some none, some none, some none, none, none]), .inl (4, [some none, some none, some none, some none, some none, some none, some none, some none, some none, some none, some none, some none, some none, some none, none, none]), .inl (5, [none, none, some none, none])]
theorem jcl_SK2 : jcl SK2 := jcl_of (by decide +kernel)

def SK3 : List jSh := [.inl (8, [some none, some none, some none, some none, some none, some none, some none, some none, none, none]), .inl (4, [some none, some none, some none, some none, some none, some none, some none, some none, some none, some none, some none, some none, some none, some none, none, none]), .inl (5, [none, none, some none, none]), .inr (0, 4)]
theorem jcl_SK3 : jcl SK3 := jcl_of (by decide +kernel)

def SK4 : List jSh := [.inl (8, [some none, some none, some none, some none, some none, some none, some none, some none, none, none]), .inl (4, [some none, some none, some none, some none, some none, some none, some none, some none, some none, some none, some none, some none, some none, some none, none, none]), .inl (5, [none, none, some (some 3), none]), .inr (0, 4)]
theorem jcl_SK4 : jcl SK4 := jcl_of (by decide +kernel)

def rm_X5_init : Room := { frames := 3, cells := 1, slots := 4, locals := 64 }
def f_X5_init (m : jMu) : Option jMu :=
  (jlt (jup m 2 0 2) fun m1 => (jlt (jup m1 2 1 2) fun m2 => (jlt (jzr m2 3) fun m3 => (jlt (jup m3 2 3 0) fun m4 => some m4))))
theorem t_X5_init {l : Launch} {G : jG} (hl : l.stackTraces = false) {m : jMu} {r : jMu} (hf : f_X5_init m = some r) : jCt l G yX5_init (.code yX5_init cX5_init 4 none :: jWG) rm_X5_init [jR 2, jI 2, jI 2] SK2 m (.inl none) SK4 r := by
  unfold f_X5_init at hf
  refine J_start (ls0 := [(0, jR 2), (1, jI 2), (2, jI 2)]) (by decide +kernel) hl (Nat.le_of_ble_eq_true rfl) rfl fun X C hN hn hR hr hnm hno hq => ?_
  have B : jB X cX5_init RX5 4 SK2.length rm_X5_init none := ⟨C, hN, Nat.le_of_eq hn, hR, hr⟩
  refine B_blk B jlkX5_ok jcl_SK2 [.aload_n 0] (by decide +kernel) (ls' := [(0, jR 2), (1, jI 2), (2, jI 2)]) (st' := [jR 2]) rfl (p1 := 1) rfl ?_
  refine J_obj B.1 lk_X5_3 in_object co_obj B.2.2.2.1 (Nat.le_of_ble_eq_true rfl) (Nat.le_of_ble_eq_true rfl) (by decide +kernel) ?_
  refine B_blk B jlkX5_ok jcl_SK2 [.iload_n 1, .iload_n 2, .imul, .istore_n 3, .aload_n 0, .iload_n 1] (by decide +kernel) (ls' := [(0, jR 2), (1, jI 2), (2, jI 2), (3, jI 4)]) (st' := [jI 2, jR 2]) rfl (p1 := 10) rfl ?_
  refine K_putF (jI' := 0) B hnm jp_X5_9 rfl rfl rfl (by decide +kernel) ?_
  obtain ⟨m1, hm1, hf⟩ := jlt_s hf
  rw [hm1]
  refine B_blk B jlkX5_ok jcl_SK2 [.aload_n 0, .iload_n 2] (by decide +kernel) (ls' := [(0, jR 2), (1, jI 2), (2, jI 2), (3, jI 4)]) (st' := [jI 2, jR 2]) rfl (p1 := 15) rfl ?_
  refine K_putF (jI' := 1) B hnm jp_X5_15 rfl rfl rfl (by decide +kernel) ?_
  obtain ⟨m2, hm2, hf⟩ := jlt_s hf
  rw [hm2]
  refine B_blk B jlkX5_ok jcl_SK2 [.aload_n 0, .iload_n 3] (by decide +kernel) (ls' := [(0, jR 2), (1, jI 2), (2, jI 2), (3, jI 4)]) (st' := [jI 4, jR 2]) rfl (p1 := 20) rfl ?_
  refine J_if_le (T := none) (F := some ()) (r := ()) B.1 (off := 7) (tgt := 27) (by decide +kernel) (by decide) (if_neg (by decide)) (fun h => nomatch h) (fun _ => ?_)
  refine B_blk B jlkX5_ok jcl_SK2 [.iload_n 3, .goto 4] (by decide +kernel) (ls' := [(0, jR 2), (1, jI 2), (2, jI 2), (3, jI 4)]) (st' := [jI 4, jR 2]) rfl (p1 := 28) rfl ?_
  refine J_newa (S' := SK3) (i := 3) (N := 4) (ak := 0) B.1 jcl_SK2 (by decide) rfl jac_0 rfl (by decide) (Nat.le_trans B.2.2.1 (Nat.le_of_ble_eq_true rfl)) (Nat.le_of_ble_eq_true rfl) B.2.2.2.1 (Nat.le_of_ble_eq_true rfl) (Nat.le_of_ble_eq_true rfl) (by decide +kernel) rfl rfl ?_
  obtain ⟨m3, hm3, hf⟩ := jlt_s hf
  rw [hm3]
  refine K_putR (S' := SK4) B hnm jp_X5_18 rfl rfl (by decide) rfl rfl (by decide +kernel) ?_
  refine B_blk B jlkX5_ok jcl_SK4 [.aload_n 0, .iconst 0] (by decide +kernel) (ls' := [(0, jR 2), (1, jI 2), (2, jI 2), (3, jI 4)]) (st' := [jI 0, jR 2]) rfl (p1 := 35) rfl ?_
  refine K_putI (jI' := 3) B jp_X5_22 rfl rfl rfl (by decide +kernel) ?_
  obtain ⟨m4, hm4, hf⟩ := jlt_s hf
  rw [hm4]
  cases hf
  exact B_retV B hq rfl (Nat.le_of_ble_eq_true rfl) (Nat.le_of_ble_eq_true rfl) (by decide +kernel)

def rm_X5_addRow : Room := { frames := 2, cells := 0, slots := 0, locals := 64 }
def f_X5_addRow_L32 (t a w : Nat) : Nat → Int → Int → jMu → Option (Int × jMu)
  | 0, _, _, _ => none
  | q + 1, v1, v2, m => (if jW (m t 3 * m t 1) ≤ v2 then some (v1, m) else (if (w : Int) ≤ v2 then some (v1, m) else (if 0 ≤ v2 ∧ v2 < (w : Int) then (jlt (jup m a v2 0) fun m2 => f_X5_addRow_L32 t a w q v1 (jW (v2 + 1)) m2) else none)))
def f_X5_addRow (t a w : Nat) (m : jMu) : Option (Int × jMu) :=
  (if m t 3 < m t 0 then (jlt (jup m t 3 (jW (m t 3 + 1))) fun m1 => f_X5_addRow_L32 t a w jFU (m t 3) (jW (m t 3 * m1 t 1)) m1) else some ((-1), m))
theorem t_X5_addRow_L32 {X : jX} {S : List jSh} (hcl : jcl S) {t a w : Nat} (hfacts : jTb S t a w) (B : jB X cX5_addRow RX5 3 S.length rm_X5_addRow (some .int)) : ∀ (q : Nat) (v1 : Int) (v2 : Int) (m : jMu) (r : (Int × jMu)), f_X5_addRow_L32 t a w q v1 v2 m = some r → jQ X (.inl (some (jI r.1))) S r.2 rm_X5_addRow.cells rm_X5_addRow.slots → J X S m 0 0 32 [(0, jR t), (1, jI v1), (2, jI v2)] [] := by
  intro q
  induction q with
  | zero =>
    intro v1 v2 m r hf
    rw [f_X5_addRow_L32] at hf
    cases hf
  | succ q ih =>
    intro v1 v2 m r hf hq
    rw [f_X5_addRow_L32] at hf
    refine B_blk B jlkX5_ok hcl [.iload_n 2, .aload_n 0] (by decide +kernel) (ls' := [(0, jR t), (1, jI v1), (2, jI v2)]) (st' := [jR t, jI v2]) rfl (p1 := 34) rfl ?_
    refine K_get (v := jI (m t 3)) B jlkX5_ok hcl (idx := 22) rfl hfacts.1 rfl rfl (by decide +kernel) ?_
    refine B_blk B jlkX5_ok hcl [.aload_n 0] (by decide +kernel) (ls' := [(0, jR t), (1, jI v1), (2, jI v2)]) (st' := [jR t, jI (m t 3), jI v2]) rfl (p1 := 38) rfl ?_
    refine K_get (v := jI (m t 1)) B jlkX5_ok hcl (idx := 15) rfl hfacts.1 rfl rfl (by decide +kernel) ?_
    refine B_blk B jlkX5_ok hcl [.imul] (by decide +kernel) (ls' := [(0, jR t), (1, jI v1), (2, jI v2)]) (st' := [jI (jW (m t 3 * m t 1)), jI v2]) rfl (p1 := 42) rfl ?_
    refine J_icmp_ge B.1 (off := 25) (tgt := 67) (by decide +kernel) (by decide) hf (fun hf => ?_) (fun hf => ?_)
    · refine B_blk B jlkX5_ok hcl [.iload_n 1] (by decide +kernel) (ls' := [(0, jR t), (1, jI v1), (2, jI v2)]) (st' := [jI v1]) rfl (p1 := 68) rfl ?_
      cases hf
      exact B_retI B hq rfl (Nat.le_of_ble_eq_true rfl) (Nat.le_of_ble_eq_true rfl) (by decide +kernel)
    · refine B_blk B jlkX5_ok hcl [.iload_n 2, .aload_n 0] (by decide +kernel) (ls' := [(0, jR t), (1, jI v1), (2, jI v2)]) (st' := [jR t, jI v2]) rfl (p1 := 47) rfl ?_
      refine K_get (v := jR a) B jlkX5_ok hcl (idx := 18) rfl hfacts.1 rfl rfl (by decide +kernel) ?_
      refine K_alen (lenI := (w : Int)) B hcl hfacts.2.1 (by decide) rfl hfacts.2.2 (by decide +kernel) ?_
      refine J_icmp_ge B.1 (off := 16) (tgt := 67) (by decide +kernel) (by decide) hf (fun hf => ?_) (fun hf => ?_)
      · refine B_blk B jlkX5_ok hcl [.iload_n 1] (by decide +kernel) (ls' := [(0, jR t), (1, jI v1), (2, jI v2)]) (st' := [jI v1]) rfl (p1 := 68) rfl ?_
        cases hf
        exact B_retI B hq rfl (Nat.le_of_ble_eq_true rfl) (Nat.le_of_ble_eq_true rfl) (by decide +kernel)
      · refine B_blk B jlkX5_ok hcl [.aload_n 0] (by decide +kernel) (ls' := [(0, jR t), (1, jI v1), (2, jI v2)]) (st' := [jR t]) rfl (p1 := 55) rfl ?_
        refine K_get (v := jR a) B jlkX5_ok hcl (idx := 18) rfl hfacts.1 rfl rfl (by decide +kernel) ?_
        refine B_blk B jlkX5_ok hcl [.iload_n 2, .iconst 0] (by decide +kernel) (ls' := [(0, jR t), (1, jI v1), (2, jI v2)]) (st' := [jI 0, jI v2, jR a]) rfl (p1 := 60) rfl ?_
        obtain ⟨g3, hf⟩ := jgd hf
        refine K_iast (lenI := (w : Int)) B hfacts.2.1 rfl g3 (by decide +kernel) ?_
        obtain ⟨m2, hm2, hf⟩ := jlt_s hf
        rw [hm2]
        refine B_blk B jlkX5_ok hcl [.iinc 2 1, .goto (-32)] (by decide +kernel) (ls' := [(0, jR t), (1, jI v1), (2, jI (jW (v2 + 1)))]) (st' := []) rfl (p1 := 32) rfl ?_
        exact ih v1 (jW (v2 + 1)) m2 _ hf hq
theorem t_X5_addRow {l : Launch} {G : jG} (hl : l.stackTraces = false) {S : List jSh} (hcl : jcl S) {t a w : Nat} (hfacts : jTb S t a w) {m : jMu} {r : (Int × jMu)} (hf : f_X5_addRow t a w m = some r) : jCt l G yX5_addRow (.code yX5_addRow cX5_addRow 3 (some .int) :: jWG) rm_X5_addRow [jR t] S m (.inl (some (jI r.1))) S r.2 := by
  unfold f_X5_addRow at hf
  refine J_start (ls0 := [(0, jR t)]) (by decide +kernel) hl (Nat.le_of_ble_eq_true rfl) rfl fun X C hN hn hR hr hnm hno hq => ?_
  have B : jB X cX5_addRow RX5 3 S.length rm_X5_addRow (some .int) := ⟨C, hN, Nat.le_of_eq hn, hR, hr⟩
  refine B_blk B jlkX5_ok hcl [.aload_n 0] (by decide +kernel) (ls' := [(0, jR t)]) (st' := [jR t]) rfl (p1 := 1) rfl ?_
  refine K_get (v := jI (m t 3)) B jlkX5_ok hcl (idx := 22) rfl hfacts.1 rfl rfl (by decide +kernel) ?_
  refine B_blk B jlkX5_ok hcl [.aload_n 0] (by decide +kernel) (ls' := [(0, jR t)]) (st' := [jR t, jI (m t 3)]) rfl (p1 := 5) rfl ?_
  refine K_get (v := jI (m t 0)) B jlkX5_ok hcl (idx := 9) rfl hfacts.1 rfl rfl (by decide +kernel) ?_
  refine J_icmp_lt B.1 (off := 5) (tgt := 13) (by decide +kernel) (by decide) hf (fun hf => ?_) (fun hf => ?_)
  · refine B_blk B jlkX5_ok hcl [.aload_n 0] (by decide +kernel) (ls' := [(0, jR t)]) (st' := [jR t]) rfl (p1 := 14) rfl ?_
    refine K_get (v := jI (m t 3)) B jlkX5_ok hcl (idx := 22) rfl hfacts.1 rfl rfl (by decide +kernel) ?_
    refine B_blk B jlkX5_ok hcl [.istore_n 1, .aload_n 0, .iload_n 1, .iconst 1, .iadd] (by decide +kernel) (ls' := [(0, jR t), (1, jI (m t 3))]) (st' := [jI (jW (m t 3 + 1)), jR t]) rfl (p1 := 22) rfl ?_
    refine K_putI (jI' := 3) B jp_X5_22 hfacts.1 rfl rfl (by decide +kernel) ?_
    obtain ⟨m1, hm1, hf⟩ := jlt_s hf
    rw [hm1]
    refine B_blk B jlkX5_ok hcl [.iload_n 1, .aload_n 0] (by decide +kernel) (ls' := [(0, jR t), (1, jI (m t 3))]) (st' := [jR t, jI (m t 3)]) rfl (p1 := 27) rfl ?_
    refine K_get (v := jI (m1 t 1)) B jlkX5_ok hcl (idx := 15) rfl hfacts.1 rfl rfl (by decide +kernel) ?_
    refine B_blk B jlkX5_ok hcl [.imul, .istore_n 2] (by decide +kernel) (ls' := [(0, jR t), (1, jI (m t 3)), (2, jI (jW (m t 3 * m1 t 1)))]) (st' := []) rfl (p1 := 32) rfl ?_
    exact t_X5_addRow_L32 hcl hfacts B jFU (m t 3) (jW (m t 3 * m1 t 1)) m1 _ hf hq
  · refine B_blk B jlkX5_ok hcl [.iconst (-1)] (by decide +kernel) (ls' := [(0, jR t)]) (st' := [jI (-1)]) rfl (p1 := 12) rfl ?_
    cases hf
    exact B_retI B hq rfl (Nat.le_of_ble_eq_true rfl) (Nat.le_of_ble_eq_true rfl) (by decide +kernel)

def rm_X5_set : Room := { frames := 2, cells := 0, slots := 0, locals := 64 }
def f_X5_set (t a w : Nat) (a0 : Int) (a1 : Int) (a2 : Int) (m : jMu) : Option jMu :=
  (if a0 < 0 then some m else (if m t 3 ≤ a0 then some m else (if a1 < 0 then some m else (if m t 1 ≤ a1 then some m else (if jW (jW (a0 * m t 1) + a1) < (w : Int) then (if 0 ≤ jW (jW (a0 * m t 1) + a1) ∧ jW (jW (a0 * m t 1) + a1) < (w : Int) then (jlt (jup m a (jW (jW (a0 * m t 1) + a1)) a2) fun m1 => some m1) else none) else some m)))))
theorem t_X5_set {l : Launch} {G : jG} (hl : l.stackTraces = false) {S : List jSh} (hcl : jcl S) {t a w : Nat} (hfacts : jTb S t a w) {a0 : Int} {a1 : Int} {a2 : Int} {m : jMu} {r : jMu} (hf : f_X5_set t a w a0 a1 a2 m = some r) : jCt l G yX5_set (.code yX5_set cX5_set 5 none :: jWG) rm_X5_set [jR t, jI a0, jI a1, jI a2] S m (.inl none) S r := by
  unfold f_X5_set at hf
  refine J_start (ls0 := [(0, jR t), (1, jI a0), (2, jI a1), (3, jI a2)]) (by decide +kernel) hl (Nat.le_of_ble_eq_true rfl) rfl fun X C hN hn hR hr hnm hno hq => ?_
  have B : jB X cX5_set RX5 5 S.length rm_X5_set none := ⟨C, hN, Nat.le_of_eq hn, hR, hr⟩
  refine B_blk B jlkX5_ok hcl [.iload_n 1, .aload_n 0] (by decide +kernel) (ls' := [(0, jR t), (1, jI a0), (2, jI a1), (3, jI a2)]) (st' := [jR t, jI a0]) rfl (p1 := 2) rfl ?_
  refine K_get (v := jI (m t 1)) B jlkX5_ok hcl (idx := 15) rfl hfacts.1 rfl rfl (by decide +kernel) ?_
  refine B_blk B jlkX5_ok hcl [.imul, .iload_n 2, .iadd, .istore 4, .iload_n 1] (by decide +kernel) (ls' := [(0, jR t), (1, jI a0), (2, jI a1), (3, jI a2), (4, jI (jW (jW (a0 * m t 1) + a1)))]) (st' := [jI a0]) rfl (p1 := 11) rfl ?_
  refine J_if_lt B.1 (off := 33) (tgt := 44) (by decide +kernel) (by decide) hf (fun hf => ?_) (fun hf => ?_)
  · cases hf
    exact B_retV B hq rfl (Nat.le_of_ble_eq_true rfl) (Nat.le_of_ble_eq_true rfl) (by decide +kernel)
  · refine B_blk B jlkX5_ok hcl [.iload_n 1, .aload_n 0] (by decide +kernel) (ls' := [(0, jR t), (1, jI a0), (2, jI a1), (3, jI a2), (4, jI (jW (jW (a0 * m t 1) + a1)))]) (st' := [jR t, jI a0]) rfl (p1 := 16) rfl ?_
    refine K_get (v := jI (m t 3)) B jlkX5_ok hcl (idx := 22) rfl hfacts.1 rfl rfl (by decide +kernel) ?_
    refine J_icmp_ge B.1 (off := 25) (tgt := 44) (by decide +kernel) (by decide) hf (fun hf => ?_) (fun hf => ?_)
    · cases hf
      exact B_retV B hq rfl (Nat.le_of_ble_eq_true rfl) (Nat.le_of_ble_eq_true rfl) (by decide +kernel)
    · refine B_blk B jlkX5_ok hcl [.iload_n 2] (by decide +kernel) (ls' := [(0, jR t), (1, jI a0), (2, jI a1), (3, jI a2), (4, jI (jW (jW (a0 * m t 1) + a1)))]) (st' := [jI a1]) rfl (p1 := 23) rfl ?_
      refine J_if_lt B.1 (off := 21) (tgt := 44) (by decide +kernel) (by decide) hf (fun hf => ?_) (fun hf => ?_)
      · cases hf
        exact B_retV B hq rfl (Nat.le_of_ble_eq_true rfl) (Nat.le_of_ble_eq_true rfl) (by decide +kernel)
      · refine B_blk B jlkX5_ok hcl [.iload_n 2, .aload_n 0] (by decide +kernel) (ls' := [(0, jR t), (1, jI a0), (2, jI a1), (3, jI a2), (4, jI (jW (jW (a0 * m t 1) + a1)))]) (st' := [jR t, jI a1]) rfl (p1 := 28) rfl ?_
        refine K_get (v := jI (m t 1)) B jlkX5_ok hcl (idx := 15) rfl hfacts.1 rfl rfl (by decide +kernel) ?_
        refine J_icmp_ge B.1 (off := 13) (tgt := 44) (by decide +kernel) (by decide) hf (fun hf => ?_) (fun hf => ?_)
        · cases hf
          exact B_retV B hq rfl (Nat.le_of_ble_eq_true rfl) (Nat.le_of_ble_eq_true rfl) (by decide +kernel)
        · refine B_blk B jlkX5_ok hcl [.iload 4, .aload_n 0] (by decide +kernel) (ls' := [(0, jR t), (1, jI a0), (2, jI a1), (3, jI a2), (4, jI (jW (jW (a0 * m t 1) + a1)))]) (st' := [jR t, jI (jW (jW (a0 * m t 1) + a1))]) rfl (p1 := 37) rfl ?_
          refine K_get (v := jR a) B jlkX5_ok hcl (idx := 18) rfl hfacts.1 rfl rfl (by decide +kernel) ?_
          refine K_alen (lenI := (w : Int)) B hcl hfacts.2.1 (by decide) rfl hfacts.2.2 (by decide +kernel) ?_
          refine J_icmp_lt B.1 (off := 4) (tgt := 45) (by decide +kernel) (by decide) hf (fun hf => ?_) (fun hf => ?_)
          · refine B_blk B jlkX5_ok hcl [.aload_n 0] (by decide +kernel) (ls' := [(0, jR t), (1, jI a0), (2, jI a1), (3, jI a2), (4, jI (jW (jW (a0 * m t 1) + a1)))]) (st' := [jR t]) rfl (p1 := 46) rfl ?_
            refine K_get (v := jR a) B jlkX5_ok hcl (idx := 18) rfl hfacts.1 rfl rfl (by decide +kernel) ?_
            refine B_blk B jlkX5_ok hcl [.iload 4, .iload_n 3] (by decide +kernel) (ls' := [(0, jR t), (1, jI a0), (2, jI a1), (3, jI a2), (4, jI (jW (jW (a0 * m t 1) + a1)))]) (st' := [jI a2, jI (jW (jW (a0 * m t 1) + a1)), jR a]) rfl (p1 := 52) rfl ?_
            obtain ⟨g2, hf⟩ := jgd hf
            refine K_iast (lenI := (w : Int)) B hfacts.2.1 rfl g2 (by decide +kernel) ?_
            obtain ⟨m1, hm1, hf⟩ := jlt_s hf
            rw [hm1]
            cases hf
            exact B_retV B hq rfl (Nat.le_of_ble_eq_true rfl) (Nat.le_of_ble_eq_true rfl) (by decide +kernel)
          · cases hf
            exact B_retV B hq rfl (Nat.le_of_ble_eq_true rfl) (Nat.le_of_ble_eq_true rfl) (by decide +kernel)

def SK5 : List jSh := [.inl (8, [some none, some none, some none, some none, some none, some none, some none, some none, none, none]), .inl (4, [some none, some none, some none, some none, some none, some none, some none, some none, some none, some none, some none, some none, some none, some none, none, none]), .inl (5, [none, none, some (some 3), none]), .inr (0, 4), .inl (5, [none, none, some none, none])]
theorem jcl_SK5 : jcl SK5 := jcl_of (by decide +kernel)

def SK6 : List jSh := [.inl (8, [some none, some none, some none, some none, some none, some none, some none, some none, none, none]), .inl (4, [some none, some none, some none, some none, some none, some none, some none, some none, some none, some none, some none, some none, some none, some none, none, none]), .inl (5, [none, none, some (some 3), none]), .inr (0, 4), .inl (5, [none, none, some none, none]), .inr (0, 80)]
theorem jcl_SK6 : jcl SK6 := jcl_of (by decide +kernel)

def SK7 : List jSh := [.inl (8, [some none, some none, some none, some none, some none, some none, some none, some none, none, none]), .inl (4, [some none, some none, some none, some none, some none, some none, some none, some none, some none, some none, some none, some none, some none, some none, none, none]), .inl (5, [none, none, some (some 3), none]), .inr (0, 4), .inl (5, [none, none, some (some 5), none]), .inr (0, 80)]
theorem jcl_SK7 : jcl SK7 := jcl_of (by decide +kernel)

def rm_X5_init_2 : Room := { frames := 3, cells := 1, slots := 80, locals := 64 }
def f_X5_init_2 (m : jMu) : Option jMu :=
  (jlt (jup m 4 0 8) fun m1 => (jlt (jup m1 4 1 10) fun m2 => (jlt (jzr m2 5) fun m3 => (jlt (jup m3 4 3 0) fun m4 => some m4))))
theorem t_X5_init_2 {l : Launch} {G : jG} (hl : l.stackTraces = false) {m : jMu} {r : jMu} (hf : f_X5_init_2 m = some r) : jCt l G yX5_init (.code yX5_init cX5_init 4 none :: jWG) rm_X5_init_2 [jR 4, jI 8, jI 10] SK5 m (.inl none) SK7 r := by
  unfold f_X5_init_2 at hf
  refine J_start (ls0 := [(0, jR 4), (1, jI 8), (2, jI 10)]) (by decide +kernel) hl (Nat.le_of_ble_eq_true rfl) rfl fun X C hN hn hR hr hnm hno hq => ?_
  have B : jB X cX5_init RX5 4 SK5.length rm_X5_init_2 none := ⟨C, hN, Nat.le_of_eq hn, hR, hr⟩
  refine B_blk B jlkX5_ok jcl_SK5 [.aload_n 0] (by decide +kernel) (ls' := [(0, jR 4), (1, jI 8), (2, jI 10)]) (st' := [jR 4]) rfl (p1 := 1) rfl ?_
  refine J_obj B.1 lk_X5_3 in_object co_obj B.2.2.2.1 (Nat.le_of_ble_eq_true rfl) (Nat.le_of_ble_eq_true rfl) (by decide +kernel) ?_
  refine B_blk B jlkX5_ok jcl_SK5 [.iload_n 1, .iload_n 2, .imul, .istore_n 3, .aload_n 0, .iload_n 1] (by decide +kernel) (ls' := [(0, jR 4), (1, jI 8), (2, jI 10), (3, jI 80)]) (st' := [jI 8, jR 4]) rfl (p1 := 10) rfl ?_
  refine K_putF (jI' := 0) B hnm jp_X5_9 rfl rfl rfl (by decide +kernel) ?_
  obtain ⟨m1, hm1, hf⟩ := jlt_s hf
  rw [hm1]
  refine B_blk B jlkX5_ok jcl_SK5 [.aload_n 0, .iload_n 2] (by decide +kernel) (ls' := [(0, jR 4), (1, jI 8), (2, jI 10), (3, jI 80)]) (st' := [jI 10, jR 4]) rfl (p1 := 15) rfl ?_
  refine K_putF (jI' := 1) B hnm jp_X5_15 rfl rfl rfl (by decide +kernel) ?_
  obtain ⟨m2, hm2, hf⟩ := jlt_s hf
  rw [hm2]
  refine B_blk B jlkX5_ok jcl_SK5 [.aload_n 0, .iload_n 3] (by decide +kernel) (ls' := [(0, jR 4), (1, jI 8), (2, jI 10), (3, jI 80)]) (st' := [jI 80, jR 4]) rfl (p1 := 20) rfl ?_
  refine J_if_le (T := none) (F := some ()) (r := ()) B.1 (off := 7) (tgt := 27) (by decide +kernel) (by decide) (if_neg (by decide)) (fun h => nomatch h) (fun _ => ?_)
  refine B_blk B jlkX5_ok jcl_SK5 [.iload_n 3, .goto 4] (by decide +kernel) (ls' := [(0, jR 4), (1, jI 8), (2, jI 10), (3, jI 80)]) (st' := [jI 80, jR 4]) rfl (p1 := 28) rfl ?_
  refine J_newa (S' := SK6) (i := 5) (N := 80) (ak := 0) B.1 jcl_SK5 (by decide) rfl jac_0 rfl (by decide) (Nat.le_trans B.2.2.1 (Nat.le_of_ble_eq_true rfl)) (Nat.le_of_ble_eq_true rfl) B.2.2.2.1 (Nat.le_of_ble_eq_true rfl) (Nat.le_of_ble_eq_true rfl) (by decide +kernel) rfl rfl ?_
  obtain ⟨m3, hm3, hf⟩ := jlt_s hf
  rw [hm3]
  refine K_putR (S' := SK7) B hnm jp_X5_18 rfl rfl (by decide) rfl rfl (by decide +kernel) ?_
  refine B_blk B jlkX5_ok jcl_SK7 [.aload_n 0, .iconst 0] (by decide +kernel) (ls' := [(0, jR 4), (1, jI 8), (2, jI 10), (3, jI 80)]) (st' := [jI 0, jR 4]) rfl (p1 := 35) rfl ?_
  refine K_putI (jI' := 3) B jp_X5_22 rfl rfl rfl (by decide +kernel) ?_
  obtain ⟨m4, hm4, hf⟩ := jlt_s hf
  rw [hm4]
  cases hf
  exact B_retV B hq rfl (Nat.le_of_ble_eq_true rfl) (Nat.le_of_ble_eq_true rfl) (by decide +kernel)

def SK8 : List jSh := [.inl (8, [some none, some none, some none, some none, some none, some none, some none, some none, none, none]), .inl (4, [some (some 4), some none, some none, some none, some none, some none, some none, some none, some none, some none, some none, some none, some none, some none, none, none]), .inl (5, [none, none, some (some 3), none]), .inr (0, 4), .inl (5, [none, none, some (some 5), none]), .inr (0, 80)]
theorem jcl_SK8 : jcl SK8 := jcl_of (by decide +kernel)

def SK9 : List jSh := [.inl (8, [some none, some none, some none, some none, some none, some none, some none, some none, none, none]), .inl (4, [some (some 4), some none, some none, some none, some none, some none, some none, some none, some none, some none, some none, some none, some none, some none, none, none]), .inl (5, [none, none, some (some 3), none]), .inr (0, 4), .inl (5, [none, none, some (some 5), none]), .inr (0, 80), .inl (5, [none, none, some none, none])]
theorem jcl_SK9 : jcl SK9 := jcl_of (by decide +kernel)

def SK10 : List jSh := [.inl (8, [some none, some none, some none, some none, some none, some none, some none, some none, none, none]), .inl (4, [some (some 4), some none, some none, some none, some none, some none, some none, some none, some none, some none, some none, some none, some none, some none, none, none]), .inl (5, [none, none, some (some 3), none]), .inr (0, 4), .inl (5, [none, none, some (some 5), none]), .inr (0, 80), .inl (5, [none, none, some none, none]), .inr (0, 210)]
theorem jcl_SK10 : jcl SK10 := jcl_of (by decide +kernel)

def SK11 : List jSh := [.inl (8, [some none, some none, some none, some none, some none, some none, some none, some none, none, none]), .inl (4, [some (some 4), some none, some none, some none, some none, some none, some none, some none, some none, some none, some none, some none, some none, some none, none, none]), .inl (5, [none, none, some (some 3), none]), .inr (0, 4), .inl (5, [none, none, some (some 5), none]), .inr (0, 80), .inl (5, [none, none, some (some 7), none]), .inr (0, 210)]
theorem jcl_SK11 : jcl SK11 := jcl_of (by decide +kernel)

def rm_X5_init_3 : Room := { frames := 3, cells := 1, slots := 210, locals := 64 }
def f_X5_init_3 (m : jMu) : Option jMu :=
  (jlt (jup m 6 0 30) fun m1 => (jlt (jup m1 6 1 7) fun m2 => (jlt (jzr m2 7) fun m3 => (jlt (jup m3 6 3 0) fun m4 => some m4))))
theorem t_X5_init_3 {l : Launch} {G : jG} (hl : l.stackTraces = false) {m : jMu} {r : jMu} (hf : f_X5_init_3 m = some r) : jCt l G yX5_init (.code yX5_init cX5_init 4 none :: jWG) rm_X5_init_3 [jR 6, jI 30, jI 7] SK9 m (.inl none) SK11 r := by
  unfold f_X5_init_3 at hf
  refine J_start (ls0 := [(0, jR 6), (1, jI 30), (2, jI 7)]) (by decide +kernel) hl (Nat.le_of_ble_eq_true rfl) rfl fun X C hN hn hR hr hnm hno hq => ?_
  have B : jB X cX5_init RX5 4 SK9.length rm_X5_init_3 none := ⟨C, hN, Nat.le_of_eq hn, hR, hr⟩
  refine B_blk B jlkX5_ok jcl_SK9 [.aload_n 0] (by decide +kernel) (ls' := [(0, jR 6), (1, jI 30), (2, jI 7)]) (st' := [jR 6]) rfl (p1 := 1) rfl ?_
  refine J_obj B.1 lk_X5_3 in_object co_obj B.2.2.2.1 (Nat.le_of_ble_eq_true rfl) (Nat.le_of_ble_eq_true rfl) (by decide +kernel) ?_
  refine B_blk B jlkX5_ok jcl_SK9 [.iload_n 1, .iload_n 2, .imul, .istore_n 3, .aload_n 0, .iload_n 1] (by decide +kernel) (ls' := [(0, jR 6), (1, jI 30), (2, jI 7), (3, jI 210)]) (st' := [jI 30, jR 6]) rfl (p1 := 10) rfl ?_
  refine K_putF (jI' := 0) B hnm jp_X5_9 rfl rfl rfl (by decide +kernel) ?_
  obtain ⟨m1, hm1, hf⟩ := jlt_s hf
  rw [hm1]
  refine B_blk B jlkX5_ok jcl_SK9 [.aload_n 0, .iload_n 2] (by decide +kernel) (ls' := [(0, jR 6), (1, jI 30), (2, jI 7), (3, jI 210)]) (st' := [jI 7, jR 6]) rfl (p1 := 15) rfl ?_
  refine K_putF (jI' := 1) B hnm jp_X5_15 rfl rfl rfl (by decide +kernel) ?_
  obtain ⟨m2, hm2, hf⟩ := jlt_s hf
  rw [hm2]
  refine B_blk B jlkX5_ok jcl_SK9 [.aload_n 0, .iload_n 3] (by decide +kernel) (ls' := [(0, jR 6), (1, jI 30), (2, jI 7), (3, jI 210)]) (st' := [jI 210, jR 6]) rfl (p1 := 20) rfl ?_
  refine J_if_le (T := none) (F := some ()) (r := ()) B.1 (off := 7) (tgt := 27) (by decide +kernel) (by decide) (if_neg (by decide)) (fun h => nomatch h) (fun _ => ?_)
  refine B_blk B jlkX5_ok jcl_SK9 [.iload_n 3, .goto 4] (by decide +kernel) (ls' := [(0, jR 6), (1, jI 30), (2, jI 7), (3, jI 210)]) (st' := [jI 210, jR 6]) rfl (p1 := 28) rfl ?_
  refine J_newa (S' := SK10) (i := 7) (N := 210) (ak := 0) B.1 jcl_SK9 (by decide) rfl jac_0 rfl (by decide) (Nat.le_trans B.2.2.1 (Nat.le_of_ble_eq_true rfl)) (Nat.le_of_ble_eq_true rfl) B.2.2.2.1 (Nat.le_of_ble_eq_true rfl) (Nat.le_of_ble_eq_true rfl) (by decide +kernel) rfl rfl ?_
  obtain ⟨m3, hm3, hf⟩ := jlt_s hf
  rw [hm3]
  refine K_putR (S' := SK11) B hnm jp_X5_18 rfl rfl (by decide) rfl rfl (by decide +kernel) ?_
  refine B_blk B jlkX5_ok jcl_SK11 [.aload_n 0, .iconst 0] (by decide +kernel) (ls' := [(0, jR 6), (1, jI 30), (2, jI 7), (3, jI 210)]) (st' := [jI 0, jR 6]) rfl (p1 := 35) rfl ?_
  refine K_putI (jI' := 3) B jp_X5_22 rfl rfl rfl (by decide +kernel) ?_
  obtain ⟨m4, hm4, hf⟩ := jlt_s hf
  rw [hm4]
  cases hf
  exact B_retV B hq rfl (Nat.le_of_ble_eq_true rfl) (Nat.le_of_ble_eq_true rfl) (by decide +kernel)

def SK12 : List jSh := [.inl (8, [some none, some none, some none, some none, some none, some none, some none, some none, none, none]), .inl (4, [some (some 4), some (some 6), some none, some none, some none, some none, some none, some none, some none, some none, some none, some none, some none, some none, none, none]), .inl (5, [none, none, some (some 3), none]), .inr (0, 4), .inl (5, [none, none, some (some 5), none]), .inr (0, 80), .inl (5, [none, none, some (some 7), none]), .inr (0, 210)]
theorem jcl_SK12 : jcl SK12 := jcl_of (by decide +kernel)

def SK13 : List jSh := [.inl (8, [some none, some none, some none, some none, some none, some none, some none, some none, none, none]), .inl (4, [some (some 4), some (some 6), some none, some none, some none, some none, some none, some none, some none, some none, some none, some none, some none, some none, none, none]), .inl (5, [none, none, some (some 3), none]), .inr (0, 4), .inl (5, [none, none, some (some 5), none]), .inr (0, 80), .inl (5, [none, none, some (some 7), none]), .inr (0, 210), .inl (5, [none, none, some none, none])]
theorem jcl_SK13 : jcl SK13 := jcl_of (by decide +kernel)

def SK14 : List jSh := [.inl (8, [some none, some none, some none, some none, some none, some none, some none, some none, none, none]), .inl (4, [some (some 4), some (some 6), some none, some none, some none, some none, some none, some none, some none, some none, some none, some none, some none, some none, none, none]), .inl (5, [none, none, some (some 3), none]), .inr (0, 4), .inl (5, [none, none, some (some 5), none]), .inr (0, 80), .inl (5, [none, none, some (some 7), none]), .inr (0, 210), .inl (5, [none, none, some none, none]), .inr (0, 12)]
theorem jcl_SK14 : jcl SK14 := jcl_of (by decide +kernel)

def SK15 : List jSh := [.inl (8, [some none, some none, some none, some none, some none, some none, some none, some none, none, none]), .inl (4, [some (some 4), some (some 6), some none, some none, some none, some none, some none, some none, some none, some none, some none, some none, some none, some none, none, none]), .inl (5, [none, none, some (some 3), none]), .inr (0, 4), .inl (5, [none, none, some (some 5), none]), .inr (0, 80), .inl (5, [none, none, some (some 7), none]), .inr (0, 210), .inl (5, [none, none, some (some 9), none]), .inr (0, 12)]
theorem jcl_SK15 : jcl SK15 := jcl_of (by decide +kernel)

def rm_X5_init_4 : Room := { frames := 3, cells := 1, slots := 12, locals := 64 }
def f_X5_init_4 (m : jMu) : Option jMu :=
  (jlt (jup m 8 0 6) fun m1 => (jlt (jup m1 8 1 2) fun m2 => (jlt (jzr m2 9) fun m3 => (jlt (jup m3 8 3 0) fun m4 => some m4))))
theorem t_X5_init_4 {l : Launch} {G : jG} (hl : l.stackTraces = false) {m : jMu} {r : jMu} (hf : f_X5_init_4 m = some r) : jCt l G yX5_init (.code yX5_init cX5_init 4 none :: jWG) rm_X5_init_4 [jR 8, jI 6, jI 2] SK13 m (.inl none) SK15 r := by
  unfold f_X5_init_4 at hf
  refine J_start (ls0 := [(0, jR 8), (1, jI 6), (2, jI 2)]) (by decide +kernel) hl (Nat.le_of_ble_eq_true rfl) rfl fun X C hN hn hR hr hnm hno hq => ?_
  have B : jB X cX5_init RX5 4 SK13.length rm_X5_init_4 none := ⟨C, hN, Nat.le_of_eq hn, hR, hr⟩
  refine B_blk B jlkX5_ok jcl_SK13 [.aload_n 0] (by decide +kernel) (ls' := [(0, jR 8), (1, jI 6), (2, jI 2)]) (st' := [jR 8]) rfl (p1 := 1) rfl ?_
  refine J_obj B.1 lk_X5_3 in_object co_obj B.2.2.2.1 (Nat.le_of_ble_eq_true rfl) (Nat.le_of_ble_eq_true rfl) (by decide +kernel) ?_
  refine B_blk B jlkX5_ok jcl_SK13 [.iload_n 1, .iload_n 2, .imul, .istore_n 3, .aload_n 0, .iload_n 1] (by decide +kernel) (ls' := [(0, jR 8), (1, jI 6), (2, jI 2), (3, jI 12)]) (st' := [jI 6, jR 8]) rfl (p1 := 10) rfl ?_
  refine K_putF (jI' := 0) B hnm jp_X5_9 rfl rfl rfl (by decide +kernel) ?_
  obtain ⟨m1, hm1, hf⟩ := jlt_s hf
  rw [hm1]
  refine B_blk B jlkX5_ok jcl_SK13 [.aload_n 0, .iload_n 2] (by decide +kernel) (ls' := [(0, jR 8), (1, jI 6), (2, jI 2), (3, jI 12)]) (st' := [jI 2, jR 8]) rfl (p1 := 15) rfl ?_
  refine K_putF (jI' := 1) B hnm jp_X5_15 rfl rfl rfl (by decide +kernel) ?_
  obtain ⟨m2, hm2, hf⟩ := jlt_s hf
  rw [hm2]
  refine B_blk B jlkX5_ok jcl_SK13 [.aload_n 0, .iload_n 3] (by decide +kernel) (ls' := [(0, jR 8), (1, jI 6), (2, jI 2), (3, jI 12)]) (st' := [jI 12, jR 8]) rfl (p1 := 20) rfl ?_
  refine J_if_le (T := none) (F := some ()) (r := ()) B.1 (off := 7) (tgt := 27) (by decide +kernel) (by decide) (if_neg (by decide)) (fun h => nomatch h) (fun _ => ?_)
  refine B_blk B jlkX5_ok jcl_SK13 [.iload_n 3, .goto 4] (by decide +kernel) (ls' := [(0, jR 8), (1, jI 6), (2, jI 2), (3, jI 12)]) (st' := [jI 12, jR 8]) rfl (p1 := 28) rfl ?_
  refine J_newa (S' := SK14) (i := 9) (N := 12) (ak := 0) B.1 jcl_SK13 (by decide) rfl jac_0 rfl (by decide) (Nat.le_trans B.2.2.1 (Nat.le_of_ble_eq_true rfl)) (Nat.le_of_ble_eq_true rfl) B.2.2.2.1 (Nat.le_of_ble_eq_true rfl) (Nat.le_of_ble_eq_true rfl) (by decide +kernel) rfl rfl ?_
  obtain ⟨m3, hm3, hf⟩ := jlt_s hf
  rw [hm3]
  refine K_putR (S' := SK15) B hnm jp_X5_18 rfl rfl (by decide) rfl rfl (by decide +kernel) ?_
  refine B_blk B jlkX5_ok jcl_SK15 [.aload_n 0, .iconst 0] (by decide +kernel) (ls' := [(0, jR 8), (1, jI 6), (2, jI 2), (3, jI 12)]) (st' := [jI 0, jR 8]) rfl (p1 := 35) rfl ?_
  refine K_putI (jI' := 3) B jp_X5_22 rfl rfl rfl (by decide +kernel) ?_
  obtain ⟨m4, hm4, hf⟩ := jlt_s hf
  rw [hm4]
  cases hf
  exact B_retV B hq rfl (Nat.le_of_ble_eq_true rfl) (Nat.le_of_ble_eq_true rfl) (by decide +kernel)

def SK16 : List jSh := [.inl (8, [some none, some none, some none, some none, some none, some none, some none, some none, none, none]), .inl (4, [some (some 4), some (some 6), some (some 8), some none, some none, some none, some none, some none, some none, some none, some none, some none, some none, some none, none, none]), .inl (5, [none, none, some (some 3), none]), .inr (0, 4), .inl (5, [none, none, some (some 5), none]), .inr (0, 80), .inl (5, [none, none, some (some 7), none]), .inr (0, 210), .inl (5, [none, none, some (some 9), none]), .inr (0, 12)]
theorem jcl_SK16 : jcl SK16 := jcl_of (by decide +kernel)

def SK17 : List jSh := [.inl (8, [some none, some none, some none, some none, some none, some none, some none, some none, none, none]), .inl (4, [some (some 4), some (some 6), some (some 8), some none, some none, some none, some none, some none, some none, some none, some none, some none, some none, some none, none, none]), .inl (5, [none, none, some (some 3), none]), .inr (0, 4), .inl (5, [none, none, some (some 5), none]), .inr (0, 80), .inl (5, [none, none, some (some 7), none]), .inr (0, 210), .inl (5, [none, none, some (some 9), none]), .inr (0, 12), .inl (5, [none, none, some none, none])]
theorem jcl_SK17 : jcl SK17 := jcl_of (by decide +kernel)

def SK18 : List jSh := [.inl (8, [some none, some none, some none, some none, some none, some none, some none, some none, none, none]), .inl (4, [some (some 4), some (some 6), some (some 8), some none, some none, some none, some none, some none, some none, some none, some none, some none, some none, some none, none, none]), .inl (5, [none, none, some (some 3), none]), .inr (0, 4), .inl (5, [none, none, some (some 5), none]), .inr (0, 80), .inl (5, [none, none, some (some 7), none]), .inr (0, 210), .inl (5, [none, none, some (some 9), none]), .inr (0, 12), .inl (5, [none, none, some none, none]), .inr (0, 10)]
theorem jcl_SK18 : jcl SK18 := jcl_of (by decide +kernel)

def SK19 : List jSh := [.inl (8, [some none, some none, some none, some none, some none, some none, some none, some none, none, none]), .inl (4, [some (some 4), some (some 6), some (some 8), some none, some none, some none, some none, some none, some none, some none, some none, some none, some none, some none, none, none]), .inl (5, [none, none, some (some 3), none]), .inr (0, 4), .inl (5, [none, none, some (some 5), none]), .inr (0, 80), .inl (5, [none, none, some (some 7), none]), .inr (0, 210), .inl (5, [none, none, some (some 9), none]), .inr (0, 12), .inl (5, [none, none, some (some 11), none]), .inr (0, 10)]
theorem jcl_SK19 : jcl SK19 := jcl_of (by decide +kernel)

def rm_X5_init_5 : Room := { frames := 3, cells := 1, slots := 10, locals := 64 }
def f_X5_init_5 (m : jMu) : Option jMu :=
  (jlt (jup m 10 0 5) fun m1 => (jlt (jup m1 10 1 2) fun m2 => (jlt (jzr m2 11) fun m3 => (jlt (jup m3 10 3 0) fun m4 => some m4))))
theorem t_X5_init_5 {l : Launch} {G : jG} (hl : l.stackTraces = false) {m : jMu} {r : jMu} (hf : f_X5_init_5 m = some r) : jCt l G yX5_init (.code yX5_init cX5_init 4 none :: jWG) rm_X5_init_5 [jR 10, jI 5, jI 2] SK17 m (.inl none) SK19 r := by
  unfold f_X5_init_5 at hf
  refine J_start (ls0 := [(0, jR 10), (1, jI 5), (2, jI 2)]) (by decide +kernel) hl (Nat.le_of_ble_eq_true rfl) rfl fun X C hN hn hR hr hnm hno hq => ?_
  have B : jB X cX5_init RX5 4 SK17.length rm_X5_init_5 none := ⟨C, hN, Nat.le_of_eq hn, hR, hr⟩
  refine B_blk B jlkX5_ok jcl_SK17 [.aload_n 0] (by decide +kernel) (ls' := [(0, jR 10), (1, jI 5), (2, jI 2)]) (st' := [jR 10]) rfl (p1 := 1) rfl ?_
  refine J_obj B.1 lk_X5_3 in_object co_obj B.2.2.2.1 (Nat.le_of_ble_eq_true rfl) (Nat.le_of_ble_eq_true rfl) (by decide +kernel) ?_
  refine B_blk B jlkX5_ok jcl_SK17 [.iload_n 1, .iload_n 2, .imul, .istore_n 3, .aload_n 0, .iload_n 1] (by decide +kernel) (ls' := [(0, jR 10), (1, jI 5), (2, jI 2), (3, jI 10)]) (st' := [jI 5, jR 10]) rfl (p1 := 10) rfl ?_
  refine K_putF (jI' := 0) B hnm jp_X5_9 rfl rfl rfl (by decide +kernel) ?_
  obtain ⟨m1, hm1, hf⟩ := jlt_s hf
  rw [hm1]
  refine B_blk B jlkX5_ok jcl_SK17 [.aload_n 0, .iload_n 2] (by decide +kernel) (ls' := [(0, jR 10), (1, jI 5), (2, jI 2), (3, jI 10)]) (st' := [jI 2, jR 10]) rfl (p1 := 15) rfl ?_
  refine K_putF (jI' := 1) B hnm jp_X5_15 rfl rfl rfl (by decide +kernel) ?_
  obtain ⟨m2, hm2, hf⟩ := jlt_s hf
  rw [hm2]
  refine B_blk B jlkX5_ok jcl_SK17 [.aload_n 0, .iload_n 3] (by decide +kernel) (ls' := [(0, jR 10), (1, jI 5), (2, jI 2), (3, jI 10)]) (st' := [jI 10, jR 10]) rfl (p1 := 20) rfl ?_
  refine J_if_le (T := none) (F := some ()) (r := ()) B.1 (off := 7) (tgt := 27) (by decide +kernel) (by decide) (if_neg (by decide)) (fun h => nomatch h) (fun _ => ?_)
  refine B_blk B jlkX5_ok jcl_SK17 [.iload_n 3, .goto 4] (by decide +kernel) (ls' := [(0, jR 10), (1, jI 5), (2, jI 2), (3, jI 10)]) (st' := [jI 10, jR 10]) rfl (p1 := 28) rfl ?_
  refine J_newa (S' := SK18) (i := 11) (N := 10) (ak := 0) B.1 jcl_SK17 (by decide) rfl jac_0 rfl (by decide) (Nat.le_trans B.2.2.1 (Nat.le_of_ble_eq_true rfl)) (Nat.le_of_ble_eq_true rfl) B.2.2.2.1 (Nat.le_of_ble_eq_true rfl) (Nat.le_of_ble_eq_true rfl) (by decide +kernel) rfl rfl ?_
  obtain ⟨m3, hm3, hf⟩ := jlt_s hf
  rw [hm3]
  refine K_putR (S' := SK19) B hnm jp_X5_18 rfl rfl (by decide) rfl rfl (by decide +kernel) ?_
  refine B_blk B jlkX5_ok jcl_SK19 [.aload_n 0, .iconst 0] (by decide +kernel) (ls' := [(0, jR 10), (1, jI 5), (2, jI 2), (3, jI 10)]) (st' := [jI 0, jR 10]) rfl (p1 := 35) rfl ?_
  refine K_putI (jI' := 3) B jp_X5_22 rfl rfl rfl (by decide +kernel) ?_
  obtain ⟨m4, hm4, hf⟩ := jlt_s hf
  rw [hm4]
  cases hf
  exact B_retV B hq rfl (Nat.le_of_ble_eq_true rfl) (Nat.le_of_ble_eq_true rfl) (by decide +kernel)

def SK20 : List jSh := [.inl (8, [some none, some none, some none, some none, some none, some none, some none, some none, none, none]), .inl (4, [some (some 4), some (some 6), some (some 8), some (some 10), some none, some none, some none, some none, some none, some none, some none, some none, some none, some none, none, none]), .inl (5, [none, none, some (some 3), none]), .inr (0, 4), .inl (5, [none, none, some (some 5), none]), .inr (0, 80), .inl (5, [none, none, some (some 7), none]), .inr (0, 210), .inl (5, [none, none, some (some 9), none]), .inr (0, 12), .inl (5, [none, none, some (some 11), none]), .inr (0, 10)]
theorem jcl_SK20 : jcl SK20 := jcl_of (by decide +kernel)

def SK21 : List jSh := [.inl (8, [some none, some none, some none, some none, some none, some none, some none, some none, none, none]), .inl (4, [some (some 4), some (some 6), some (some 8), some (some 10), some none, some none, some none, some none, some none, some none, some none, some none, some none, some none, none, none]), .inl (5, [none, none, some (some 3), none]), .inr (0, 4), .inl (5, [none, none, some (some 5), none]), .inr (0, 80), .inl (5, [none, none, some (some 7), none]), .inr (0, 210), .inl (5, [none, none, some (some 9), none]), .inr (0, 12), .inl (5, [none, none, some (some 11), none]), .inr (0, 10), .inl (5, [none, none, some none, none])]
theorem jcl_SK21 : jcl SK21 := jcl_of (by decide +kernel)

def SK22 : List jSh := [.inl (8, [some none, some none, some none, some none, some none, some none, some none, some none, none, none]), .inl (4, [some (some 4), some (some 6), some (some 8), some (some 10), some none, some none, some none, some none, some none, some none, some none, some none, some none, some none, none, none]), .inl (5, [none, none, some (some 3), none]), .inr (0, 4), .inl (5, [none, none, some (some 5), none]), .inr (0, 80), .inl (5, [none, none, some (some 7), none]), .inr (0, 210), .inl (5, [none, none, some (some 9), none]), .inr (0, 12), .inl (5, [none, none, some (some 11), none]), .inr (0, 10), .inl (5, [none, none, some none, none]), .inr (0, 24)]
theorem jcl_SK22 : jcl SK22 := jcl_of (by decide +kernel)

def SK23 : List jSh := [.inl (8, [some none, some none, some none, some none, some none, some none, some none, some none, none, none]), .inl (4, [some (some 4), some (some 6), some (some 8), some (some 10), some none, some none, some none, some none, some none, some none, some none, some none, some none, some none, none, none]), .inl (5, [none, none, some (some 3), none]), .inr (0, 4), .inl (5, [none, none, some (some 5), none]), .inr (0, 80), .inl (5, [none, none, some (some 7), none]), .inr (0, 210), .inl (5, [none, none, some (some 9), none]), .inr (0, 12), .inl (5, [none, none, some (some 11), none]), .inr (0, 10), .inl (5, [none, none, some (some 13), none]), .inr (0, 24)]
theorem jcl_SK23 : jcl SK23 := jcl_of (by decide +kernel)

def rm_X5_init_6 : Room := { frames := 3, cells := 1, slots := 24, locals := 64 }
def f_X5_init_6 (m : jMu) : Option jMu :=
  (jlt (jup m 12 0 8) fun m1 => (jlt (jup m1 12 1 3) fun m2 => (jlt (jzr m2 13) fun m3 => (jlt (jup m3 12 3 0) fun m4 => some m4))))
theorem t_X5_init_6 {l : Launch} {G : jG} (hl : l.stackTraces = false) {m : jMu} {r : jMu} (hf : f_X5_init_6 m = some r) : jCt l G yX5_init (.code yX5_init cX5_init 4 none :: jWG) rm_X5_init_6 [jR 12, jI 8, jI 3] SK21 m (.inl none) SK23 r := by
  unfold f_X5_init_6 at hf
  refine J_start (ls0 := [(0, jR 12), (1, jI 8), (2, jI 3)]) (by decide +kernel) hl (Nat.le_of_ble_eq_true rfl) rfl fun X C hN hn hR hr hnm hno hq => ?_
  have B : jB X cX5_init RX5 4 SK21.length rm_X5_init_6 none := ⟨C, hN, Nat.le_of_eq hn, hR, hr⟩
  refine B_blk B jlkX5_ok jcl_SK21 [.aload_n 0] (by decide +kernel) (ls' := [(0, jR 12), (1, jI 8), (2, jI 3)]) (st' := [jR 12]) rfl (p1 := 1) rfl ?_
  refine J_obj B.1 lk_X5_3 in_object co_obj B.2.2.2.1 (Nat.le_of_ble_eq_true rfl) (Nat.le_of_ble_eq_true rfl) (by decide +kernel) ?_
  refine B_blk B jlkX5_ok jcl_SK21 [.iload_n 1, .iload_n 2, .imul, .istore_n 3, .aload_n 0, .iload_n 1] (by decide +kernel) (ls' := [(0, jR 12), (1, jI 8), (2, jI 3), (3, jI 24)]) (st' := [jI 8, jR 12]) rfl (p1 := 10) rfl ?_
  refine K_putF (jI' := 0) B hnm jp_X5_9 rfl rfl rfl (by decide +kernel) ?_
  obtain ⟨m1, hm1, hf⟩ := jlt_s hf
  rw [hm1]
  refine B_blk B jlkX5_ok jcl_SK21 [.aload_n 0, .iload_n 2] (by decide +kernel) (ls' := [(0, jR 12), (1, jI 8), (2, jI 3), (3, jI 24)]) (st' := [jI 3, jR 12]) rfl (p1 := 15) rfl ?_
  refine K_putF (jI' := 1) B hnm jp_X5_15 rfl rfl rfl (by decide +kernel) ?_
  obtain ⟨m2, hm2, hf⟩ := jlt_s hf
  rw [hm2]
  refine B_blk B jlkX5_ok jcl_SK21 [.aload_n 0, .iload_n 3] (by decide +kernel) (ls' := [(0, jR 12), (1, jI 8), (2, jI 3), (3, jI 24)]) (st' := [jI 24, jR 12]) rfl (p1 := 20) rfl ?_
  refine J_if_le (T := none) (F := some ()) (r := ()) B.1 (off := 7) (tgt := 27) (by decide +kernel) (by decide) (if_neg (by decide)) (fun h => nomatch h) (fun _ => ?_)
  refine B_blk B jlkX5_ok jcl_SK21 [.iload_n 3, .goto 4] (by decide +kernel) (ls' := [(0, jR 12), (1, jI 8), (2, jI 3), (3, jI 24)]) (st' := [jI 24, jR 12]) rfl (p1 := 28) rfl ?_
  refine J_newa (S' := SK22) (i := 13) (N := 24) (ak := 0) B.1 jcl_SK21 (by decide) rfl jac_0 rfl (by decide) (Nat.le_trans B.2.2.1 (Nat.le_of_ble_eq_true rfl)) (Nat.le_of_ble_eq_true rfl) B.2.2.2.1 (Nat.le_of_ble_eq_true rfl) (Nat.le_of_ble_eq_true rfl) (by decide +kernel) rfl rfl ?_
  obtain ⟨m3, hm3, hf⟩ := jlt_s hf
  rw [hm3]
  refine K_putR (S' := SK23) B hnm jp_X5_18 rfl rfl (by decide) rfl rfl (by decide +kernel) ?_
  refine B_blk B jlkX5_ok jcl_SK23 [.aload_n 0, .iconst 0] (by decide +kernel) (ls' := [(0, jR 12), (1, jI 8), (2, jI 3), (3, jI 24)]) (st' := [jI 0, jR 12]) rfl (p1 := 35) rfl ?_
  refine K_putI (jI' := 3) B jp_X5_22 rfl rfl rfl (by decide +kernel) ?_
  obtain ⟨m4, hm4, hf⟩ := jlt_s hf
  rw [hm4]
  cases hf
  exact B_retV B hq rfl (Nat.le_of_ble_eq_true rfl) (Nat.le_of_ble_eq_true rfl) (by decide +kernel)

def SK24 : List jSh := [.inl (8, [some none, some none, some none, some none, some none, some none, some none, some none, none, none]), .inl (4, [some (some 4), some (some 6), some (some 8), some (some 10), some (some 12), some none, some none, some none, some none, some none, some none, some none, some none, some none, none, none]), .inl (5, [none, none, some (some 3), none]), .inr (0, 4), .inl (5, [none, none, some (some 5), none]), .inr (0, 80), .inl (5, [none, none, some (some 7), none]), .inr (0, 210), .inl (5, [none, none, some (some 9), none]), .inr (0, 12), .inl (5, [none, none, some (some 11), none]), .inr (0, 10), .inl (5, [none, none, some (some 13), none]), .inr (0, 24)]
theorem jcl_SK24 : jcl SK24 := jcl_of (by decide +kernel)

def SK25 : List jSh := [.inl (8, [some none, some none, some none, some none, some none, some none, some none, some none, none, none]), .inl (4, [some (some 4), some (some 6), some (some 8), some (some 10), some (some 12), some none, some none, some none, some none, some none, some none, some none, some none, some none, none, none]), .inl (5, [none, none, some (some 3), none]), .inr (0, 4), .inl (5, [none, none, some (some 5), none]), .inr (0, 80), .inl (5, [none, none, some (some 7), none]), .inr (0, 210), .inl (5, [none, none, some (some 9), none]), .inr (0, 12), .inl (5, [none, none, some (some 11), none]), .inr (0, 10), .inl (5, [none, none, some (some 13), none]), .inr (0, 24), .inl (5, [none, none, some none, none])]
theorem jcl_SK25 : jcl SK25 := jcl_of (by decide +kernel)

def SK26 : List jSh := [.inl (8, [some none, some none, some none, some none, some none, some none, some none, some none, none, none]), .inl (4, [some (some 4), some (some 6), some (some 8), some (some 10), some (some 12), some none, some none, some none, some none, some none, some none, some none, some none, some none, none, none]), .inl (5, [none, none, some (some 3), none]), .inr (0, 4), .inl (5, [none, none, some (some 5), none]), .inr (0, 80), .inl (5, [none, none, some (some 7), none]), .inr (0, 210), .inl (5, [none, none, some (some 9), none]), .inr (0, 12), .inl (5, [none, none, some (some 11), none]), .inr (0, 10), .inl (5, [none, none, some (some 13), none]), .inr (0, 24), .inl (5, [none, none, some none, none]), .inr (0, 6)]
theorem jcl_SK26 : jcl SK26 := jcl_of (by decide +kernel)

def SK27 : List jSh := [.inl (8, [some none, some none, some none, some none, some none, some none, some none, some none, none, none]), .inl (4, [some (some 4), some (some 6), some (some 8), some (some 10), some (some 12), some none, some none, some none, some none, some none, some none, some none, some none, some none, none, none]), .inl (5, [none, none, some (some 3), none]), .inr (0, 4), .inl (5, [none, none, some (some 5), none]), .inr (0, 80), .inl (5, [none, none, some (some 7), none]), .inr (0, 210), .inl (5, [none, none, some (some 9), none]), .inr (0, 12), .inl (5, [none, none, some (some 11), none]), .inr (0, 10), .inl (5, [none, none, some (some 13), none]), .inr (0, 24), .inl (5, [none, none, some (some 15), none]), .inr (0, 6)]
theorem jcl_SK27 : jcl SK27 := jcl_of (by decide +kernel)

def rm_X5_init_7 : Room := { frames := 3, cells := 1, slots := 6, locals := 64 }
def f_X5_init_7 (m : jMu) : Option jMu :=
  (jlt (jup m 14 0 3) fun m1 => (jlt (jup m1 14 1 2) fun m2 => (jlt (jzr m2 15) fun m3 => (jlt (jup m3 14 3 0) fun m4 => some m4))))
theorem t_X5_init_7 {l : Launch} {G : jG} (hl : l.stackTraces = false) {m : jMu} {r : jMu} (hf : f_X5_init_7 m = some r) : jCt l G yX5_init (.code yX5_init cX5_init 4 none :: jWG) rm_X5_init_7 [jR 14, jI 3, jI 2] SK25 m (.inl none) SK27 r := by
  unfold f_X5_init_7 at hf
  refine J_start (ls0 := [(0, jR 14), (1, jI 3), (2, jI 2)]) (by decide +kernel) hl (Nat.le_of_ble_eq_true rfl) rfl fun X C hN hn hR hr hnm hno hq => ?_
  have B : jB X cX5_init RX5 4 SK25.length rm_X5_init_7 none := ⟨C, hN, Nat.le_of_eq hn, hR, hr⟩
  refine B_blk B jlkX5_ok jcl_SK25 [.aload_n 0] (by decide +kernel) (ls' := [(0, jR 14), (1, jI 3), (2, jI 2)]) (st' := [jR 14]) rfl (p1 := 1) rfl ?_
  refine J_obj B.1 lk_X5_3 in_object co_obj B.2.2.2.1 (Nat.le_of_ble_eq_true rfl) (Nat.le_of_ble_eq_true rfl) (by decide +kernel) ?_
  refine B_blk B jlkX5_ok jcl_SK25 [.iload_n 1, .iload_n 2, .imul, .istore_n 3, .aload_n 0, .iload_n 1] (by decide +kernel) (ls' := [(0, jR 14), (1, jI 3), (2, jI 2), (3, jI 6)]) (st' := [jI 3, jR 14]) rfl (p1 := 10) rfl ?_
  refine K_putF (jI' := 0) B hnm jp_X5_9 rfl rfl rfl (by decide +kernel) ?_
  obtain ⟨m1, hm1, hf⟩ := jlt_s hf
  rw [hm1]
  refine B_blk B jlkX5_ok jcl_SK25 [.aload_n 0, .iload_n 2] (by decide +kernel) (ls' := [(0, jR 14), (1, jI 3), (2, jI 2), (3, jI 6)]) (st' := [jI 2, jR 14]) rfl (p1 := 15) rfl ?_
  refine K_putF (jI' := 1) B hnm jp_X5_15 rfl rfl rfl (by decide +kernel) ?_
  obtain ⟨m2, hm2, hf⟩ := jlt_s hf
  rw [hm2]
  refine B_blk B jlkX5_ok jcl_SK25 [.aload_n 0, .iload_n 3] (by decide +kernel) (ls' := [(0, jR 14), (1, jI 3), (2, jI 2), (3, jI 6)]) (st' := [jI 6, jR 14]) rfl (p1 := 20) rfl ?_
  refine J_if_le (T := none) (F := some ()) (r := ()) B.1 (off := 7) (tgt := 27) (by decide +kernel) (by decide) (if_neg (by decide)) (fun h => nomatch h) (fun _ => ?_)
  refine B_blk B jlkX5_ok jcl_SK25 [.iload_n 3, .goto 4] (by decide +kernel) (ls' := [(0, jR 14), (1, jI 3), (2, jI 2), (3, jI 6)]) (st' := [jI 6, jR 14]) rfl (p1 := 28) rfl ?_
  refine J_newa (S' := SK26) (i := 15) (N := 6) (ak := 0) B.1 jcl_SK25 (by decide) rfl jac_0 rfl (by decide) (Nat.le_trans B.2.2.1 (Nat.le_of_ble_eq_true rfl)) (Nat.le_of_ble_eq_true rfl) B.2.2.2.1 (Nat.le_of_ble_eq_true rfl) (Nat.le_of_ble_eq_true rfl) (by decide +kernel) rfl rfl ?_
  obtain ⟨m3, hm3, hf⟩ := jlt_s hf
  rw [hm3]
  refine K_putR (S' := SK27) B hnm jp_X5_18 rfl rfl (by decide) rfl rfl (by decide +kernel) ?_
  refine B_blk B jlkX5_ok jcl_SK27 [.aload_n 0, .iconst 0] (by decide +kernel) (ls' := [(0, jR 14), (1, jI 3), (2, jI 2), (3, jI 6)]) (st' := [jI 0, jR 14]) rfl (p1 := 35) rfl ?_
  refine K_putI (jI' := 3) B jp_X5_22 rfl rfl rfl (by decide +kernel) ?_
  obtain ⟨m4, hm4, hf⟩ := jlt_s hf
  rw [hm4]
  cases hf
  exact B_retV B hq rfl (Nat.le_of_ble_eq_true rfl) (Nat.le_of_ble_eq_true rfl) (by decide +kernel)

def SK28 : List jSh := [.inl (8, [some none, some none, some none, some none, some none, some none, some none, some none, none, none]), .inl (4, [some (some 4), some (some 6), some (some 8), some (some 10), some (some 12), some (some 14), some none, some none, some none, some none, some none, some none, some none, some none, none, none]), .inl (5, [none, none, some (some 3), none]), .inr (0, 4), .inl (5, [none, none, some (some 5), none]), .inr (0, 80), .inl (5, [none, none, some (some 7), none]), .inr (0, 210), .inl (5, [none, none, some (some 9), none]), .inr (0, 12), .inl (5, [none, none, some (some 11), none]), .inr (0, 10), .inl (5, [none, none, some (some 13), none]), .inr (0, 24), .inl (5, [none, none, some (some 15), none]), .inr (0, 6)]
theorem jcl_SK28 : jcl SK28 := jcl_of (by decide +kernel)

def SK29 : List jSh := [.inl (8, [some none, some none, some none, some none, some none, some none, some none, some none, none, none]), .inl (4, [some (some 4), some (some 6), some (some 8), some (some 10), some (some 12), some (some 14), some none, some none, some none, some none, some none, some none, some none, some none, none, none]), .inl (5, [none, none, some (some 3), none]), .inr (0, 4), .inl (5, [none, none, some (some 5), none]), .inr (0, 80), .inl (5, [none, none, some (some 7), none]), .inr (0, 210), .inl (5, [none, none, some (some 9), none]), .inr (0, 12), .inl (5, [none, none, some (some 11), none]), .inr (0, 10), .inl (5, [none, none, some (some 13), none]), .inr (0, 24), .inl (5, [none, none, some (some 15), none]), .inr (0, 6), .inl (5, [none, none, some none, none])]
theorem jcl_SK29 : jcl SK29 := jcl_of (by decide +kernel)

def SK30 : List jSh := [.inl (8, [some none, some none, some none, some none, some none, some none, some none, some none, none, none]), .inl (4, [some (some 4), some (some 6), some (some 8), some (some 10), some (some 12), some (some 14), some none, some none, some none, some none, some none, some none, some none, some none, none, none]), .inl (5, [none, none, some (some 3), none]), .inr (0, 4), .inl (5, [none, none, some (some 5), none]), .inr (0, 80), .inl (5, [none, none, some (some 7), none]), .inr (0, 210), .inl (5, [none, none, some (some 9), none]), .inr (0, 12), .inl (5, [none, none, some (some 11), none]), .inr (0, 10), .inl (5, [none, none, some (some 13), none]), .inr (0, 24), .inl (5, [none, none, some (some 15), none]), .inr (0, 6), .inl (5, [none, none, some none, none]), .inr (0, 160)]
theorem jcl_SK30 : jcl SK30 := jcl_of (by decide +kernel)

def SK31 : List jSh := [.inl (8, [some none, some none, some none, some none, some none, some none, some none, some none, none, none]), .inl (4, [some (some 4), some (some 6), some (some 8), some (some 10), some (some 12), some (some 14), some none, some none, some none, some none, some none, some none, some none, some none, none, none]), .inl (5, [none, none, some (some 3), none]), .inr (0, 4), .inl (5, [none, none, some (some 5), none]), .inr (0, 80), .inl (5, [none, none, some (some 7), none]), .inr (0, 210), .inl (5, [none, none, some (some 9), none]), .inr (0, 12), .inl (5, [none, none, some (some 11), none]), .inr (0, 10), .inl (5, [none, none, some (some 13), none]), .inr (0, 24), .inl (5, [none, none, some (some 15), none]), .inr (0, 6), .inl (5, [none, none, some (some 17), none]), .inr (0, 160)]
theorem jcl_SK31 : jcl SK31 := jcl_of (by decide +kernel)

def rm_X5_init_8 : Room := { frames := 3, cells := 1, slots := 160, locals := 64 }
def f_X5_init_8 (m : jMu) : Option jMu :=
  (jlt (jup m 16 0 40) fun m1 => (jlt (jup m1 16 1 4) fun m2 => (jlt (jzr m2 17) fun m3 => (jlt (jup m3 16 3 0) fun m4 => some m4))))
theorem t_X5_init_8 {l : Launch} {G : jG} (hl : l.stackTraces = false) {m : jMu} {r : jMu} (hf : f_X5_init_8 m = some r) : jCt l G yX5_init (.code yX5_init cX5_init 4 none :: jWG) rm_X5_init_8 [jR 16, jI 40, jI 4] SK29 m (.inl none) SK31 r := by
  unfold f_X5_init_8 at hf
  refine J_start (ls0 := [(0, jR 16), (1, jI 40), (2, jI 4)]) (by decide +kernel) hl (Nat.le_of_ble_eq_true rfl) rfl fun X C hN hn hR hr hnm hno hq => ?_
  have B : jB X cX5_init RX5 4 SK29.length rm_X5_init_8 none := ⟨C, hN, Nat.le_of_eq hn, hR, hr⟩
  refine B_blk B jlkX5_ok jcl_SK29 [.aload_n 0] (by decide +kernel) (ls' := [(0, jR 16), (1, jI 40), (2, jI 4)]) (st' := [jR 16]) rfl (p1 := 1) rfl ?_
  refine J_obj B.1 lk_X5_3 in_object co_obj B.2.2.2.1 (Nat.le_of_ble_eq_true rfl) (Nat.le_of_ble_eq_true rfl) (by decide +kernel) ?_
  refine B_blk B jlkX5_ok jcl_SK29 [.iload_n 1, .iload_n 2, .imul, .istore_n 3, .aload_n 0, .iload_n 1] (by decide +kernel) (ls' := [(0, jR 16), (1, jI 40), (2, jI 4), (3, jI 160)]) (st' := [jI 40, jR 16]) rfl (p1 := 10) rfl ?_
  refine K_putF (jI' := 0) B hnm jp_X5_9 rfl rfl rfl (by decide +kernel) ?_
  obtain ⟨m1, hm1, hf⟩ := jlt_s hf
  rw [hm1]
  refine B_blk B jlkX5_ok jcl_SK29 [.aload_n 0, .iload_n 2] (by decide +kernel) (ls' := [(0, jR 16), (1, jI 40), (2, jI 4), (3, jI 160)]) (st' := [jI 4, jR 16]) rfl (p1 := 15) rfl ?_
  refine K_putF (jI' := 1) B hnm jp_X5_15 rfl rfl rfl (by decide +kernel) ?_
  obtain ⟨m2, hm2, hf⟩ := jlt_s hf
  rw [hm2]
  refine B_blk B jlkX5_ok jcl_SK29 [.aload_n 0, .iload_n 3] (by decide +kernel) (ls' := [(0, jR 16), (1, jI 40), (2, jI 4), (3, jI 160)]) (st' := [jI 160, jR 16]) rfl (p1 := 20) rfl ?_
  refine J_if_le (T := none) (F := some ()) (r := ()) B.1 (off := 7) (tgt := 27) (by decide +kernel) (by decide) (if_neg (by decide)) (fun h => nomatch h) (fun _ => ?_)
  refine B_blk B jlkX5_ok jcl_SK29 [.iload_n 3, .goto 4] (by decide +kernel) (ls' := [(0, jR 16), (1, jI 40), (2, jI 4), (3, jI 160)]) (st' := [jI 160, jR 16]) rfl (p1 := 28) rfl ?_
  refine J_newa (S' := SK30) (i := 17) (N := 160) (ak := 0) B.1 jcl_SK29 (by decide) rfl jac_0 rfl (by decide) (Nat.le_trans B.2.2.1 (Nat.le_of_ble_eq_true rfl)) (Nat.le_of_ble_eq_true rfl) B.2.2.2.1 (Nat.le_of_ble_eq_true rfl) (Nat.le_of_ble_eq_true rfl) (by decide +kernel) rfl rfl ?_
  obtain ⟨m3, hm3, hf⟩ := jlt_s hf
  rw [hm3]
  refine K_putR (S' := SK31) B hnm jp_X5_18 rfl rfl (by decide) rfl rfl (by decide +kernel) ?_
  refine B_blk B jlkX5_ok jcl_SK31 [.aload_n 0, .iconst 0] (by decide +kernel) (ls' := [(0, jR 16), (1, jI 40), (2, jI 4), (3, jI 160)]) (st' := [jI 0, jR 16]) rfl (p1 := 35) rfl ?_
  refine K_putI (jI' := 3) B jp_X5_22 rfl rfl rfl (by decide +kernel) ?_
  obtain ⟨m4, hm4, hf⟩ := jlt_s hf
  rw [hm4]
  cases hf
  exact B_retV B hq rfl (Nat.le_of_ble_eq_true rfl) (Nat.le_of_ble_eq_true rfl) (by decide +kernel)

def SK32 : List jSh := [.inl (8, [some none, some none, some none, some none, some none, some none, some none, some none, none, none]), .inl (4, [some (some 4), some (some 6), some (some 8), some (some 10), some (some 12), some (some 14), some (some 16), some none, some none, some none, some none, some none, some none, some none, none, none]), .inl (5, [none, none, some (some 3), none]), .inr (0, 4), .inl (5, [none, none, some (some 5), none]), .inr (0, 80), .inl (5, [none, none, some (some 7), none]), .inr (0, 210), .inl (5, [none, none, some (some 9), none]), .inr (0, 12), .inl (5, [none, none, some (some 11), none]), .inr (0, 10), .inl (5, [none, none, some (some 13), none]), .inr (0, 24), .inl (5, [none, none, some (some 15), none]), .inr (0, 6), .inl (5, [none, none, some (some 17), none]), .inr (0, 160)]
theorem jcl_SK32 : jcl SK32 := jcl_of (by decide +kernel)

def SK33 : List jSh := [.inl (8, [some none, some none, some none, some none, some none, some none, some none, some none, none, none]), .inl (4, [some (some 4), some (some 6), some (some 8), some (some 10), some (some 12), some (some 14), some (some 16), some none, some none, some none, some none, some none, some none, some none, none, none]), .inl (5, [none, none, some (some 3), none]), .inr (0, 4), .inl (5, [none, none, some (some 5), none]), .inr (0, 80), .inl (5, [none, none, some (some 7), none]), .inr (0, 210), .inl (5, [none, none, some (some 9), none]), .inr (0, 12), .inl (5, [none, none, some (some 11), none]), .inr (0, 10), .inl (5, [none, none, some (some 13), none]), .inr (0, 24), .inl (5, [none, none, some (some 15), none]), .inr (0, 6), .inl (5, [none, none, some (some 17), none]), .inr (0, 160), .inl (5, [none, none, some none, none])]
theorem jcl_SK33 : jcl SK33 := jcl_of (by decide +kernel)

def SK34 : List jSh := [.inl (8, [some none, some none, some none, some none, some none, some none, some none, some none, none, none]), .inl (4, [some (some 4), some (some 6), some (some 8), some (some 10), some (some 12), some (some 14), some (some 16), some none, some none, some none, some none, some none, some none, some none, none, none]), .inl (5, [none, none, some (some 3), none]), .inr (0, 4), .inl (5, [none, none, some (some 5), none]), .inr (0, 80), .inl (5, [none, none, some (some 7), none]), .inr (0, 210), .inl (5, [none, none, some (some 9), none]), .inr (0, 12), .inl (5, [none, none, some (some 11), none]), .inr (0, 10), .inl (5, [none, none, some (some 13), none]), .inr (0, 24), .inl (5, [none, none, some (some 15), none]), .inr (0, 6), .inl (5, [none, none, some (some 17), none]), .inr (0, 160), .inl (5, [none, none, some none, none]), .inr (0, 1600)]
theorem jcl_SK34 : jcl SK34 := jcl_of (by decide +kernel)

def SK35 : List jSh := [.inl (8, [some none, some none, some none, some none, some none, some none, some none, some none, none, none]), .inl (4, [some (some 4), some (some 6), some (some 8), some (some 10), some (some 12), some (some 14), some (some 16), some none, some none, some none, some none, some none, some none, some none, none, none]), .inl (5, [none, none, some (some 3), none]), .inr (0, 4), .inl (5, [none, none, some (some 5), none]), .inr (0, 80), .inl (5, [none, none, some (some 7), none]), .inr (0, 210), .inl (5, [none, none, some (some 9), none]), .inr (0, 12), .inl (5, [none, none, some (some 11), none]), .inr (0, 10), .inl (5, [none, none, some (some 13), none]), .inr (0, 24), .inl (5, [none, none, some (some 15), none]), .inr (0, 6), .inl (5, [none, none, some (some 17), none]), .inr (0, 160), .inl (5, [none, none, some (some 19), none]), .inr (0, 1600)]
theorem jcl_SK35 : jcl SK35 := jcl_of (by decide +kernel)

def rm_X5_init_9 : Room := { frames := 3, cells := 1, slots := 1600, locals := 64 }
def f_X5_init_9 (m : jMu) : Option jMu :=
  (jlt (jup m 18 0 1600) fun m1 => (jlt (jup m1 18 1 1) fun m2 => (jlt (jzr m2 19) fun m3 => (jlt (jup m3 18 3 0) fun m4 => some m4))))
theorem t_X5_init_9 {l : Launch} {G : jG} (hl : l.stackTraces = false) {m : jMu} {r : jMu} (hf : f_X5_init_9 m = some r) : jCt l G yX5_init (.code yX5_init cX5_init 4 none :: jWG) rm_X5_init_9 [jR 18, jI 1600, jI 1] SK33 m (.inl none) SK35 r := by
  unfold f_X5_init_9 at hf
  refine J_start (ls0 := [(0, jR 18), (1, jI 1600), (2, jI 1)]) (by decide +kernel) hl (Nat.le_of_ble_eq_true rfl) rfl fun X C hN hn hR hr hnm hno hq => ?_
  have B : jB X cX5_init RX5 4 SK33.length rm_X5_init_9 none := ⟨C, hN, Nat.le_of_eq hn, hR, hr⟩
  refine B_blk B jlkX5_ok jcl_SK33 [.aload_n 0] (by decide +kernel) (ls' := [(0, jR 18), (1, jI 1600), (2, jI 1)]) (st' := [jR 18]) rfl (p1 := 1) rfl ?_
  refine J_obj B.1 lk_X5_3 in_object co_obj B.2.2.2.1 (Nat.le_of_ble_eq_true rfl) (Nat.le_of_ble_eq_true rfl) (by decide +kernel) ?_
  refine B_blk B jlkX5_ok jcl_SK33 [.iload_n 1, .iload_n 2, .imul, .istore_n 3, .aload_n 0, .iload_n 1] (by decide +kernel) (ls' := [(0, jR 18), (1, jI 1600), (2, jI 1), (3, jI 1600)]) (st' := [jI 1600, jR 18]) rfl (p1 := 10) rfl ?_
  refine K_putF (jI' := 0) B hnm jp_X5_9 rfl rfl rfl (by decide +kernel) ?_
  obtain ⟨m1, hm1, hf⟩ := jlt_s hf
  rw [hm1]
  refine B_blk B jlkX5_ok jcl_SK33 [.aload_n 0, .iload_n 2] (by decide +kernel) (ls' := [(0, jR 18), (1, jI 1600), (2, jI 1), (3, jI 1600)]) (st' := [jI 1, jR 18]) rfl (p1 := 15) rfl ?_
  refine K_putF (jI' := 1) B hnm jp_X5_15 rfl rfl rfl (by decide +kernel) ?_
  obtain ⟨m2, hm2, hf⟩ := jlt_s hf
  rw [hm2]
  refine B_blk B jlkX5_ok jcl_SK33 [.aload_n 0, .iload_n 3] (by decide +kernel) (ls' := [(0, jR 18), (1, jI 1600), (2, jI 1), (3, jI 1600)]) (st' := [jI 1600, jR 18]) rfl (p1 := 20) rfl ?_
  refine J_if_le (T := none) (F := some ()) (r := ()) B.1 (off := 7) (tgt := 27) (by decide +kernel) (by decide) (if_neg (by decide)) (fun h => nomatch h) (fun _ => ?_)
  refine B_blk B jlkX5_ok jcl_SK33 [.iload_n 3, .goto 4] (by decide +kernel) (ls' := [(0, jR 18), (1, jI 1600), (2, jI 1), (3, jI 1600)]) (st' := [jI 1600, jR 18]) rfl (p1 := 28) rfl ?_
  refine J_newa (S' := SK34) (i := 19) (N := 1600) (ak := 0) B.1 jcl_SK33 (by decide) rfl jac_0 rfl (by decide) (Nat.le_trans B.2.2.1 (Nat.le_of_ble_eq_true rfl)) (Nat.le_of_ble_eq_true rfl) B.2.2.2.1 (Nat.le_of_ble_eq_true rfl) (Nat.le_of_ble_eq_true rfl) (by decide +kernel) rfl rfl ?_
  obtain ⟨m3, hm3, hf⟩ := jlt_s hf
  rw [hm3]
  refine K_putR (S' := SK35) B hnm jp_X5_18 rfl rfl (by decide) rfl rfl (by decide +kernel) ?_
  refine B_blk B jlkX5_ok jcl_SK35 [.aload_n 0, .iconst 0] (by decide +kernel) (ls' := [(0, jR 18), (1, jI 1600), (2, jI 1), (3, jI 1600)]) (st' := [jI 0, jR 18]) rfl (p1 := 35) rfl ?_
  refine K_putI (jI' := 3) B jp_X5_22 rfl rfl rfl (by decide +kernel) ?_
  obtain ⟨m4, hm4, hf⟩ := jlt_s hf
  rw [hm4]
  cases hf
  exact B_retV B hq rfl (Nat.le_of_ble_eq_true rfl) (Nat.le_of_ble_eq_true rfl) (by decide +kernel)

def SK36 : List jSh := [.inl (8, [some none, some none, some none, some none, some none, some none, some none, some none, none, none]), .inl (4, [some (some 4), some (some 6), some (some 8), some (some 10), some (some 12), some (some 14), some (some 16), some (some 18), some none, some none, some none, some none, some none, some none, none, none]), .inl (5, [none, none, some (some 3), none]), .inr (0, 4), .inl (5, [none, none, some (some 5), none]), .inr (0, 80), .inl (5, [none, none, some (some 7), none]), .inr (0, 210), .inl (5, [none, none, some (some 9), none]), .inr (0, 12), .inl (5, [none, none, some (some 11), none]), .inr (0, 10), .inl (5, [none, none, some (some 13), none]), .inr (0, 24), .inl (5, [none, none, some (some 15), none]), .inr (0, 6), .inl (5, [none, none, some (some 17), none]), .inr (0, 160), .inl (5, [none, none, some (some 19), none]), .inr (0, 1600)]
theorem jcl_SK36 : jcl SK36 := jcl_of (by decide +kernel)

def SK37 : List jSh := [.inl (8, [some none, some none, some none, some none, some none, some none, some none, some none, none, none]), .inl (4, [some (some 4), some (some 6), some (some 8), some (some 10), some (some 12), some (some 14), some (some 16), some (some 18), some none, some none, some none, some none, some none, some none, none, none]), .inl (5, [none, none, some (some 3), none]), .inr (0, 4), .inl (5, [none, none, some (some 5), none]), .inr (0, 80), .inl (5, [none, none, some (some 7), none]), .inr (0, 210), .inl (5, [none, none, some (some 9), none]), .inr (0, 12), .inl (5, [none, none, some (some 11), none]), .inr (0, 10), .inl (5, [none, none, some (some 13), none]), .inr (0, 24), .inl (5, [none, none, some (some 15), none]), .inr (0, 6), .inl (5, [none, none, some (some 17), none]), .inr (0, 160), .inl (5, [none, none, some (some 19), none]), .inr (0, 1600), .inl (5, [none, none, some none, none])]
theorem jcl_SK37 : jcl SK37 := jcl_of (by decide +kernel)

def SK38 : List jSh := [.inl (8, [some none, some none, some none, some none, some none, some none, some none, some none, none, none]), .inl (4, [some (some 4), some (some 6), some (some 8), some (some 10), some (some 12), some (some 14), some (some 16), some (some 18), some none, some none, some none, some none, some none, some none, none, none]), .inl (5, [none, none, some (some 3), none]), .inr (0, 4), .inl (5, [none, none, some (some 5), none]), .inr (0, 80), .inl (5, [none, none, some (some 7), none]), .inr (0, 210), .inl (5, [none, none, some (some 9), none]), .inr (0, 12), .inl (5, [none, none, some (some 11), none]), .inr (0, 10), .inl (5, [none, none, some (some 13), none]), .inr (0, 24), .inl (5, [none, none, some (some 15), none]), .inr (0, 6), .inl (5, [none, none, some (some 17), none]), .inr (0, 160), .inl (5, [none, none, some (some 19), none]), .inr (0, 1600), .inl (5, [none, none, some none, none]), .inr (0, 4)]
theorem jcl_SK38 : jcl SK38 := jcl_of (by decide +kernel)

def SK39 : List jSh := [.inl (8, [some none, some none, some none, some none, some none, some none, some none, some none, none, none]), .inl (4, [some (some 4), some (some 6), some (some 8), some (some 10), some (some 12), some (some 14), some (some 16), some (some 18), some none, some none, some none, some none, some none, some none, none, none]), .inl (5, [none, none, some (some 3), none]), .inr (0, 4), .inl (5, [none, none, some (some 5), none]), .inr (0, 80), .inl (5, [none, none, some (some 7), none]), .inr (0, 210), .inl (5, [none, none, some (some 9), none]), .inr (0, 12), .inl (5, [none, none, some (some 11), none]), .inr (0, 10), .inl (5, [none, none, some (some 13), none]), .inr (0, 24), .inl (5, [none, none, some (some 15), none]), .inr (0, 6), .inl (5, [none, none, some (some 17), none]), .inr (0, 160), .inl (5, [none, none, some (some 19), none]), .inr (0, 1600), .inl (5, [none, none, some (some 21), none]), .inr (0, 4)]
theorem jcl_SK39 : jcl SK39 := jcl_of (by decide +kernel)

def rm_X5_init_10 : Room := { frames := 3, cells := 1, slots := 4, locals := 64 }
def f_X5_init_10 (m : jMu) : Option jMu :=
  (jlt (jup m 20 0 4) fun m1 => (jlt (jup m1 20 1 1) fun m2 => (jlt (jzr m2 21) fun m3 => (jlt (jup m3 20 3 0) fun m4 => some m4))))
theorem t_X5_init_10 {l : Launch} {G : jG} (hl : l.stackTraces = false) {m : jMu} {r : jMu} (hf : f_X5_init_10 m = some r) : jCt l G yX5_init (.code yX5_init cX5_init 4 none :: jWG) rm_X5_init_10 [jR 20, jI 4, jI 1] SK37 m (.inl none) SK39 r := by
  unfold f_X5_init_10 at hf
  refine J_start (ls0 := [(0, jR 20), (1, jI 4), (2, jI 1)]) (by decide +kernel) hl (Nat.le_of_ble_eq_true rfl) rfl fun X C hN hn hR hr hnm hno hq => ?_
  have B : jB X cX5_init RX5 4 SK37.length rm_X5_init_10 none := ⟨C, hN, Nat.le_of_eq hn, hR, hr⟩
  refine B_blk B jlkX5_ok jcl_SK37 [.aload_n 0] (by decide +kernel) (ls' := [(0, jR 20), (1, jI 4), (2, jI 1)]) (st' := [jR 20]) rfl (p1 := 1) rfl ?_
  refine J_obj B.1 lk_X5_3 in_object co_obj B.2.2.2.1 (Nat.le_of_ble_eq_true rfl) (Nat.le_of_ble_eq_true rfl) (by decide +kernel) ?_
  refine B_blk B jlkX5_ok jcl_SK37 [.iload_n 1, .iload_n 2, .imul, .istore_n 3, .aload_n 0, .iload_n 1] (by decide +kernel) (ls' := [(0, jR 20), (1, jI 4), (2, jI 1), (3, jI 4)]) (st' := [jI 4, jR 20]) rfl (p1 := 10) rfl ?_
  refine K_putF (jI' := 0) B hnm jp_X5_9 rfl rfl rfl (by decide +kernel) ?_
  obtain ⟨m1, hm1, hf⟩ := jlt_s hf
  rw [hm1]
  refine B_blk B jlkX5_ok jcl_SK37 [.aload_n 0, .iload_n 2] (by decide +kernel) (ls' := [(0, jR 20), (1, jI 4), (2, jI 1), (3, jI 4)]) (st' := [jI 1, jR 20]) rfl (p1 := 15) rfl ?_
  refine K_putF (jI' := 1) B hnm jp_X5_15 rfl rfl rfl (by decide +kernel) ?_
  obtain ⟨m2, hm2, hf⟩ := jlt_s hf
  rw [hm2]
  refine B_blk B jlkX5_ok jcl_SK37 [.aload_n 0, .iload_n 3] (by decide +kernel) (ls' := [(0, jR 20), (1, jI 4), (2, jI 1), (3, jI 4)]) (st' := [jI 4, jR 20]) rfl (p1 := 20) rfl ?_
  refine J_if_le (T := none) (F := some ()) (r := ()) B.1 (off := 7) (tgt := 27) (by decide +kernel) (by decide) (if_neg (by decide)) (fun h => nomatch h) (fun _ => ?_)
  refine B_blk B jlkX5_ok jcl_SK37 [.iload_n 3, .goto 4] (by decide +kernel) (ls' := [(0, jR 20), (1, jI 4), (2, jI 1), (3, jI 4)]) (st' := [jI 4, jR 20]) rfl (p1 := 28) rfl ?_
  refine J_newa (S' := SK38) (i := 21) (N := 4) (ak := 0) B.1 jcl_SK37 (by decide) rfl jac_0 rfl (by decide) (Nat.le_trans B.2.2.1 (Nat.le_of_ble_eq_true rfl)) (Nat.le_of_ble_eq_true rfl) B.2.2.2.1 (Nat.le_of_ble_eq_true rfl) (Nat.le_of_ble_eq_true rfl) (by decide +kernel) rfl rfl ?_
  obtain ⟨m3, hm3, hf⟩ := jlt_s hf
  rw [hm3]
  refine K_putR (S' := SK39) B hnm jp_X5_18 rfl rfl (by decide) rfl rfl (by decide +kernel) ?_
  refine B_blk B jlkX5_ok jcl_SK39 [.aload_n 0, .iconst 0] (by decide +kernel) (ls' := [(0, jR 20), (1, jI 4), (2, jI 1), (3, jI 4)]) (st' := [jI 0, jR 20]) rfl (p1 := 35) rfl ?_
  refine K_putI (jI' := 3) B jp_X5_22 rfl rfl rfl (by decide +kernel) ?_
  obtain ⟨m4, hm4, hf⟩ := jlt_s hf
  rw [hm4]
  cases hf
  exact B_retV B hq rfl (Nat.le_of_ble_eq_true rfl) (Nat.le_of_ble_eq_true rfl) (by decide +kernel)

def SK40 : List jSh := [.inl (8, [some none, some none, some none, some none, some none, some none, some none, some none, none, none]), .inl (4, [some (some 4), some (some 6), some (some 8), some (some 10), some (some 12), some (some 14), some (some 16), some (some 18), some (some 20), some none, some none, some none, some none, some none, none, none]), .inl (5, [none, none, some (some 3), none]), .inr (0, 4), .inl (5, [none, none, some (some 5), none]), .inr (0, 80), .inl (5, [none, none, some (some 7), none]), .inr (0, 210), .inl (5, [none, none, some (some 9), none]), .inr (0, 12), .inl (5, [none, none, some (some 11), none]), .inr (0, 10), .inl (5, [none, none, some (some 13), none]), .inr (0, 24), .inl (5, [none, none, some (some 15), none]), .inr (0, 6), .inl (5, [none, none, some (some 17), none]), .inr (0, 160), .inl (5, [none, none, some (some 19), none]), .inr (0, 1600), .inl (5, [none, none, some (some 21), none]), .inr (0, 4)]
theorem jcl_SK40 : jcl SK40 := jcl_of (by decide +kernel)

def SK41 : List jSh := [.inl (8, [some none, some none, some none, some none, some none, some none, some none, some none, none, none]), .inl (4, [some (some 4), some (some 6), some (some 8), some (some 10), some (some 12), some (some 14), some (some 16), some (some 18), some (some 20), some none, some none, some none, some none, some none, none, none]), .inl (5, [none, none, some (some 3), none]), .inr (0, 4), .inl (5, [none, none, some (some 5), none]), .inr (0, 80), .inl (5, [none, none, some (some 7), none]), .inr (0, 210), .inl (5, [none, none, some (some 9), none]), .inr (0, 12), .inl (5, [none, none, some (some 11), none]), .inr (0, 10), .inl (5, [none, none, some (some 13), none]), .inr (0, 24), .inl (5, [none, none, some (some 15), none]), .inr (0, 6), .inl (5, [none, none, some (some 17), none]), .inr (0, 160), .inl (5, [none, none, some (some 19), none]), .inr (0, 1600), .inl (5, [none, none, some (some 21), none]), .inr (0, 4), .inl (5, [none, none, some none, none])]
theorem jcl_SK41 : jcl SK41 := jcl_of (by decide +kernel)

def SK42 : List jSh := [.inl (8, [some none, some none, some none, some none, some none, some none, some none, some none, none, none]), .inl (4, [some (some 4), some (some 6), some (some 8), some (some 10), some (some 12), some (some 14), some (some 16), some (some 18), some (some 20), some none, some none, some none, some none, some none, none, none]), .inl (5, [none, none, some (some 3), none]), .inr (0, 4), .inl (5, [none, none, some (some 5), none]), .inr (0, 80), .inl (5, [none, none, some (some 7), none]), .inr (0, 210), .inl (5, [none, none, some (some 9), none]), .inr (0, 12), .inl (5, [none, none, some (some 11), none]), .inr (0, 10), .inl (5, [none, none, some (some 13), none]), .inr (0, 24), .inl (5, [none, none, some (some 15), none]), .inr (0, 6), .inl (5, [none, none, some (some 17), none]), .inr (0, 160), .inl (5, [none, none, some (some 19), none]), .inr (0, 1600), .inl (5, [none, none, some (some 21), none]), .inr (0, 4), .inl (5, [none, none, some none, none]), .inr (0, 24)]
theorem jcl_SK42 : jcl SK42 := jcl_of (by decide +kernel)

def SK43 : List jSh := [.inl (8, [some none, some none, some none, some none, some none, some none, some none, some none, none, none]), .inl (4, [some (some 4), some (some 6), some (some 8), some (some 10), some (some 12), some (some 14), some (some 16), some (some 18), some (some 20), some none, some none, some none, some none, some none, none, none]), .inl (5, [none, none, some (some 3), none]), .inr (0, 4), .inl (5, [none, none, some (some 5), none]), .inr (0, 80), .inl (5, [none, none, some (some 7), none]), .inr (0, 210), .inl (5, [none, none, some (some 9), none]), .inr (0, 12), .inl (5, [none, none, some (some 11), none]), .inr (0, 10), .inl (5, [none, none, some (some 13), none]), .inr (0, 24), .inl (5, [none, none, some (some 15), none]), .inr (0, 6), .inl (5, [none, none, some (some 17), none]), .inr (0, 160), .inl (5, [none, none, some (some 19), none]), .inr (0, 1600), .inl (5, [none, none, some (some 21), none]), .inr (0, 4), .inl (5, [none, none, some (some 23), none]), .inr (0, 24)]
theorem jcl_SK43 : jcl SK43 := jcl_of (by decide +kernel)

def rm_X5_init_11 : Room := { frames := 3, cells := 1, slots := 24, locals := 64 }
def f_X5_init_11 (m : jMu) : Option jMu :=
  (jlt (jup m 22 0 6) fun m1 => (jlt (jup m1 22 1 4) fun m2 => (jlt (jzr m2 23) fun m3 => (jlt (jup m3 22 3 0) fun m4 => some m4))))
theorem t_X5_init_11 {l : Launch} {G : jG} (hl : l.stackTraces = false) {m : jMu} {r : jMu} (hf : f_X5_init_11 m = some r) : jCt l G yX5_init (.code yX5_init cX5_init 4 none :: jWG) rm_X5_init_11 [jR 22, jI 6, jI 4] SK41 m (.inl none) SK43 r := by
  unfold f_X5_init_11 at hf
  refine J_start (ls0 := [(0, jR 22), (1, jI 6), (2, jI 4)]) (by decide +kernel) hl (Nat.le_of_ble_eq_true rfl) rfl fun X C hN hn hR hr hnm hno hq => ?_
  have B : jB X cX5_init RX5 4 SK41.length rm_X5_init_11 none := ⟨C, hN, Nat.le_of_eq hn, hR, hr⟩
  refine B_blk B jlkX5_ok jcl_SK41 [.aload_n 0] (by decide +kernel) (ls' := [(0, jR 22), (1, jI 6), (2, jI 4)]) (st' := [jR 22]) rfl (p1 := 1) rfl ?_
  refine J_obj B.1 lk_X5_3 in_object co_obj B.2.2.2.1 (Nat.le_of_ble_eq_true rfl) (Nat.le_of_ble_eq_true rfl) (by decide +kernel) ?_
  refine B_blk B jlkX5_ok jcl_SK41 [.iload_n 1, .iload_n 2, .imul, .istore_n 3, .aload_n 0, .iload_n 1] (by decide +kernel) (ls' := [(0, jR 22), (1, jI 6), (2, jI 4), (3, jI 24)]) (st' := [jI 6, jR 22]) rfl (p1 := 10) rfl ?_
  refine K_putF (jI' := 0) B hnm jp_X5_9 rfl rfl rfl (by decide +kernel) ?_
  obtain ⟨m1, hm1, hf⟩ := jlt_s hf
  rw [hm1]
  refine B_blk B jlkX5_ok jcl_SK41 [.aload_n 0, .iload_n 2] (by decide +kernel) (ls' := [(0, jR 22), (1, jI 6), (2, jI 4), (3, jI 24)]) (st' := [jI 4, jR 22]) rfl (p1 := 15) rfl ?_
  refine K_putF (jI' := 1) B hnm jp_X5_15 rfl rfl rfl (by decide +kernel) ?_
  obtain ⟨m2, hm2, hf⟩ := jlt_s hf
  rw [hm2]
  refine B_blk B jlkX5_ok jcl_SK41 [.aload_n 0, .iload_n 3] (by decide +kernel) (ls' := [(0, jR 22), (1, jI 6), (2, jI 4), (3, jI 24)]) (st' := [jI 24, jR 22]) rfl (p1 := 20) rfl ?_
  refine J_if_le (T := none) (F := some ()) (r := ()) B.1 (off := 7) (tgt := 27) (by decide +kernel) (by decide) (if_neg (by decide)) (fun h => nomatch h) (fun _ => ?_)
  refine B_blk B jlkX5_ok jcl_SK41 [.iload_n 3, .goto 4] (by decide +kernel) (ls' := [(0, jR 22), (1, jI 6), (2, jI 4), (3, jI 24)]) (st' := [jI 24, jR 22]) rfl (p1 := 28) rfl ?_
  refine J_newa (S' := SK42) (i := 23) (N := 24) (ak := 0) B.1 jcl_SK41 (by decide) rfl jac_0 rfl (by decide) (Nat.le_trans B.2.2.1 (Nat.le_of_ble_eq_true rfl)) (Nat.le_of_ble_eq_true rfl) B.2.2.2.1 (Nat.le_of_ble_eq_true rfl) (Nat.le_of_ble_eq_true rfl) (by decide +kernel) rfl rfl ?_
  obtain ⟨m3, hm3, hf⟩ := jlt_s hf
  rw [hm3]
  refine K_putR (S' := SK43) B hnm jp_X5_18 rfl rfl (by decide) rfl rfl (by decide +kernel) ?_
  refine B_blk B jlkX5_ok jcl_SK43 [.aload_n 0, .iconst 0] (by decide +kernel) (ls' := [(0, jR 22), (1, jI 6), (2, jI 4), (3, jI 24)]) (st' := [jI 0, jR 22]) rfl (p1 := 35) rfl ?_
  refine K_putI (jI' := 3) B jp_X5_22 rfl rfl rfl (by decide +kernel) ?_
  obtain ⟨m4, hm4, hf⟩ := jlt_s hf
  rw [hm4]
  cases hf
  exact B_retV B hq rfl (Nat.le_of_ble_eq_true rfl) (Nat.le_of_ble_eq_true rfl) (by decide +kernel)

def SK44 : List jSh := [.inl (8, [some none, some none, some none, some none, some none, some none, some none, some none, none, none]), .inl (4, [some (some 4), some (some 6), some (some 8), some (some 10), some (some 12), some (some 14), some (some 16), some (some 18), some (some 20), some (some 22), some none, some none, some none, some none, none, none]), .inl (5, [none, none, some (some 3), none]), .inr (0, 4), .inl (5, [none, none, some (some 5), none]), .inr (0, 80), .inl (5, [none, none, some (some 7), none]), .inr (0, 210), .inl (5, [none, none, some (some 9), none]), .inr (0, 12), .inl (5, [none, none, some (some 11), none]), .inr (0, 10), .inl (5, [none, none, some (some 13), none]), .inr (0, 24), .inl (5, [none, none, some (some 15), none]), .inr (0, 6), .inl (5, [none, none, some (some 17), none]), .inr (0, 160), .inl (5, [none, none, some (some 19), none]), .inr (0, 1600), .inl (5, [none, none, some (some 21), none]), .inr (0, 4), .inl (5, [none, none, some (some 23), none]), .inr (0, 24)]
theorem jcl_SK44 : jcl SK44 := jcl_of (by decide +kernel)

def SK45 : List jSh := [.inl (8, [some none, some none, some none, some none, some none, some none, some none, some none, none, none]), .inl (4, [some (some 4), some (some 6), some (some 8), some (some 10), some (some 12), some (some 14), some (some 16), some (some 18), some (some 20), some (some 22), some none, some none, some none, some none, none, none]), .inl (5, [none, none, some (some 3), none]), .inr (0, 4), .inl (5, [none, none, some (some 5), none]), .inr (0, 80), .inl (5, [none, none, some (some 7), none]), .inr (0, 210), .inl (5, [none, none, some (some 9), none]), .inr (0, 12), .inl (5, [none, none, some (some 11), none]), .inr (0, 10), .inl (5, [none, none, some (some 13), none]), .inr (0, 24), .inl (5, [none, none, some (some 15), none]), .inr (0, 6), .inl (5, [none, none, some (some 17), none]), .inr (0, 160), .inl (5, [none, none, some (some 19), none]), .inr (0, 1600), .inl (5, [none, none, some (some 21), none]), .inr (0, 4), .inl (5, [none, none, some (some 23), none]), .inr (0, 24), .inl (5, [none, none, some none, none])]
theorem jcl_SK45 : jcl SK45 := jcl_of (by decide +kernel)

def SK46 : List jSh := [.inl (8, [some none, some none, some none, some none, some none, some none, some none, some none, none, none]), .inl (4, [some (some 4), some (some 6), some (some 8), some (some 10), some (some 12), some (some 14), some (some 16), some (some 18), some (some 20), some (some 22), some none, some none, some none, some none, none, none]), .inl (5, [none, none, some (some 3), none]), .inr (0, 4), .inl (5, [none, none, some (some 5), none]), .inr (0, 80), .inl (5, [none, none, some (some 7), none]), .inr (0, 210), .inl (5, [none, none, some (some 9), none]), .inr (0, 12), .inl (5, [none, none, some (some 11), none]), .inr (0, 10), .inl (5, [none, none, some (some 13), none]), .inr (0, 24), .inl (5, [none, none, some (some 15), none]), .inr (0, 6), .inl (5, [none, none, some (some 17), none]), .inr (0, 160), .inl (5, [none, none, some (some 19), none]), .inr (0, 1600), .inl (5, [none, none, some (some 21), none]), .inr (0, 4), .inl (5, [none, none, some (some 23), none]), .inr (0, 24), .inl (5, [none, none, some none, none]), .inr (0, 320)]
theorem jcl_SK46 : jcl SK46 := jcl_of (by decide +kernel)

def SK47 : List jSh := [.inl (8, [some none, some none, some none, some none, some none, some none, some none, some none, none, none]), .inl (4, [some (some 4), some (some 6), some (some 8), some (some 10), some (some 12), some (some 14), some (some 16), some (some 18), some (some 20), some (some 22), some none, some none, some none, some none, none, none]), .inl (5, [none, none, some (some 3), none]), .inr (0, 4), .inl (5, [none, none, some (some 5), none]), .inr (0, 80), .inl (5, [none, none, some (some 7), none]), .inr (0, 210), .inl (5, [none, none, some (some 9), none]), .inr (0, 12), .inl (5, [none, none, some (some 11), none]), .inr (0, 10), .inl (5, [none, none, some (some 13), none]), .inr (0, 24), .inl (5, [none, none, some (some 15), none]), .inr (0, 6), .inl (5, [none, none, some (some 17), none]), .inr (0, 160), .inl (5, [none, none, some (some 19), none]), .inr (0, 1600), .inl (5, [none, none, some (some 21), none]), .inr (0, 4), .inl (5, [none, none, some (some 23), none]), .inr (0, 24), .inl (5, [none, none, some (some 25), none]), .inr (0, 320)]
theorem jcl_SK47 : jcl SK47 := jcl_of (by decide +kernel)

def rm_X5_init_12 : Room := { frames := 3, cells := 1, slots := 320, locals := 64 }
def f_X5_init_12 (m : jMu) : Option jMu :=
  (jlt (jup m 24 0 40) fun m1 => (jlt (jup m1 24 1 8) fun m2 => (jlt (jzr m2 25) fun m3 => (jlt (jup m3 24 3 0) fun m4 => some m4))))
theorem t_X5_init_12 {l : Launch} {G : jG} (hl : l.stackTraces = false) {m : jMu} {r : jMu} (hf : f_X5_init_12 m = some r) : jCt l G yX5_init (.code yX5_init cX5_init 4 none :: jWG) rm_X5_init_12 [jR 24, jI 40, jI 8] SK45 m (.inl none) SK47 r := by
  unfold f_X5_init_12 at hf
  refine J_start (ls0 := [(0, jR 24), (1, jI 40), (2, jI 8)]) (by decide +kernel) hl (Nat.le_of_ble_eq_true rfl) rfl fun X C hN hn hR hr hnm hno hq => ?_
  have B : jB X cX5_init RX5 4 SK45.length rm_X5_init_12 none := ⟨C, hN, Nat.le_of_eq hn, hR, hr⟩
  refine B_blk B jlkX5_ok jcl_SK45 [.aload_n 0] (by decide +kernel) (ls' := [(0, jR 24), (1, jI 40), (2, jI 8)]) (st' := [jR 24]) rfl (p1 := 1) rfl ?_
  refine J_obj B.1 lk_X5_3 in_object co_obj B.2.2.2.1 (Nat.le_of_ble_eq_true rfl) (Nat.le_of_ble_eq_true rfl) (by decide +kernel) ?_
  refine B_blk B jlkX5_ok jcl_SK45 [.iload_n 1, .iload_n 2, .imul, .istore_n 3, .aload_n 0, .iload_n 1] (by decide +kernel) (ls' := [(0, jR 24), (1, jI 40), (2, jI 8), (3, jI 320)]) (st' := [jI 40, jR 24]) rfl (p1 := 10) rfl ?_
  refine K_putF (jI' := 0) B hnm jp_X5_9 rfl rfl rfl (by decide +kernel) ?_
  obtain ⟨m1, hm1, hf⟩ := jlt_s hf
  rw [hm1]
  refine B_blk B jlkX5_ok jcl_SK45 [.aload_n 0, .iload_n 2] (by decide +kernel) (ls' := [(0, jR 24), (1, jI 40), (2, jI 8), (3, jI 320)]) (st' := [jI 8, jR 24]) rfl (p1 := 15) rfl ?_
  refine K_putF (jI' := 1) B hnm jp_X5_15 rfl rfl rfl (by decide +kernel) ?_
  obtain ⟨m2, hm2, hf⟩ := jlt_s hf
  rw [hm2]
  refine B_blk B jlkX5_ok jcl_SK45 [.aload_n 0, .iload_n 3] (by decide +kernel) (ls' := [(0, jR 24), (1, jI 40), (2, jI 8), (3, jI 320)]) (st' := [jI 320, jR 24]) rfl (p1 := 20) rfl ?_
  refine J_if_le (T := none) (F := some ()) (r := ()) B.1 (off := 7) (tgt := 27) (by decide +kernel) (by decide) (if_neg (by decide)) (fun h => nomatch h) (fun _ => ?_)
  refine B_blk B jlkX5_ok jcl_SK45 [.iload_n 3, .goto 4] (by decide +kernel) (ls' := [(0, jR 24), (1, jI 40), (2, jI 8), (3, jI 320)]) (st' := [jI 320, jR 24]) rfl (p1 := 28) rfl ?_
  refine J_newa (S' := SK46) (i := 25) (N := 320) (ak := 0) B.1 jcl_SK45 (by decide) rfl jac_0 rfl (by decide) (Nat.le_trans B.2.2.1 (Nat.le_of_ble_eq_true rfl)) (Nat.le_of_ble_eq_true rfl) B.2.2.2.1 (Nat.le_of_ble_eq_true rfl) (Nat.le_of_ble_eq_true rfl) (by decide +kernel) rfl rfl ?_
  obtain ⟨m3, hm3, hf⟩ := jlt_s hf
  rw [hm3]
  refine K_putR (S' := SK47) B hnm jp_X5_18 rfl rfl (by decide) rfl rfl (by decide +kernel) ?_
  refine B_blk B jlkX5_ok jcl_SK47 [.aload_n 0, .iconst 0] (by decide +kernel) (ls' := [(0, jR 24), (1, jI 40), (2, jI 8), (3, jI 320)]) (st' := [jI 0, jR 24]) rfl (p1 := 35) rfl ?_
  refine K_putI (jI' := 3) B jp_X5_22 rfl rfl rfl (by decide +kernel) ?_
  obtain ⟨m4, hm4, hf⟩ := jlt_s hf
  rw [hm4]
  cases hf
  exact B_retV B hq rfl (Nat.le_of_ble_eq_true rfl) (Nat.le_of_ble_eq_true rfl) (by decide +kernel)

def SK48 : List jSh := [.inl (8, [some none, some none, some none, some none, some none, some none, some none, some none, none, none]), .inl (4, [some (some 4), some (some 6), some (some 8), some (some 10), some (some 12), some (some 14), some (some 16), some (some 18), some (some 20), some (some 22), some (some 24), some none, some none, some none, none, none]), .inl (5, [none, none, some (some 3), none]), .inr (0, 4), .inl (5, [none, none, some (some 5), none]), .inr (0, 80), .inl (5, [none, none, some (some 7), none]), .inr (0, 210), .inl (5, [none, none, some (some 9), none]), .inr (0, 12), .inl (5, [none, none, some (some 11), none]), .inr (0, 10), .inl (5, [none, none, some (some 13), none]), .inr (0, 24), .inl (5, [none, none, some (some 15), none]), .inr (0, 6), .inl (5, [none, none, some (some 17), none]), .inr (0, 160), .inl (5, [none, none, some (some 19), none]), .inr (0, 1600), .inl (5, [none, none, some (some 21), none]), .inr (0, 4), .inl (5, [none, none, some (some 23), none]), .inr (0, 24), .inl (5, [none, none, some (some 25), none]), .inr (0, 320)]
theorem jcl_SK48 : jcl SK48 := jcl_of (by decide +kernel)

def SK49 : List jSh := [.inl (8, [some none, some none, some none, some none, some none, some none, some none, some none, none, none]), .inl (4, [some (some 4), some (some 6), some (some 8), some (some 10), some (some 12), some (some 14), some (some 16), some (some 18), some (some 20), some (some 22), some (some 24), some (some 2), some none, some none, none, none]), .inl (5, [none, none, some (some 3), none]), .inr (0, 4), .inl (5, [none, none, some (some 5), none]), .inr (0, 80), .inl (5, [none, none, some (some 7), none]), .inr (0, 210), .inl (5, [none, none, some (some 9), none]), .inr (0, 12), .inl (5, [none, none, some (some 11), none]), .inr (0, 10), .inl (5, [none, none, some (some 13), none]), .inr (0, 24), .inl (5, [none, none, some (some 15), none]), .inr (0, 6), .inl (5, [none, none, some (some 17), none]), .inr (0, 160), .inl (5, [none, none, some (some 19), none]), .inr (0, 1600), .inl (5, [none, none, some (some 21), none]), .inr (0, 4), .inl (5, [none, none, some (some 23), none]), .inr (0, 24), .inl (5, [none, none, some (some 25), none]), .inr (0, 320)]
theorem jcl_SK49 : jcl SK49 := jcl_of (by decide +kernel)

def SK50 : List jSh := [.inl (8, [some none, some none, some none, some none, some none, some none, some none, some none, none, none]), .inl (4, [some (some 4), some (some 6), some (some 8), some (some 10), some (some 12), some (some 14), some (some 16), some (some 18), some (some 20), some (some 22), some (some 24), some (some 2), some none, some none, none, none]), .inl (5, [none, none, some (some 3), none]), .inr (0, 4), .inl (5, [none, none, some (some 5), none]), .inr (0, 80), .inl (5, [none, none, some (some 7), none]), .inr (0, 210), .inl (5, [none, none, some (some 9), none]), .inr (0, 12), .inl (5, [none, none, some (some 11), none]), .inr (0, 10), .inl (5, [none, none, some (some 13), none]), .inr (0, 24), .inl (5, [none, none, some (some 15), none]), .inr (0, 6), .inl (5, [none, none, some (some 17), none]), .inr (0, 160), .inl (5, [none, none, some (some 19), none]), .inr (0, 1600), .inl (5, [none, none, some (some 21), none]), .inr (0, 4), .inl (5, [none, none, some (some 23), none]), .inr (0, 24), .inl (5, [none, none, some (some 25), none]), .inr (0, 320), .inl (5, [none, none, some none, none])]
theorem jcl_SK50 : jcl SK50 := jcl_of (by decide +kernel)

def SK51 : List jSh := [.inl (8, [some none, some none, some none, some none, some none, some none, some none, some none, none, none]), .inl (4, [some (some 4), some (some 6), some (some 8), some (some 10), some (some 12), some (some 14), some (some 16), some (some 18), some (some 20), some (some 22), some (some 24), some (some 2), some none, some none, none, none]), .inl (5, [none, none, some (some 3), none]), .inr (0, 4), .inl (5, [none, none, some (some 5), none]), .inr (0, 80), .inl (5, [none, none, some (some 7), none]), .inr (0, 210), .inl (5, [none, none, some (some 9), none]), .inr (0, 12), .inl (5, [none, none, some (some 11), none]), .inr (0, 10), .inl (5, [none, none, some (some 13), none]), .inr (0, 24), .inl (5, [none, none, some (some 15), none]), .inr (0, 6), .inl (5, [none, none, some (some 17), none]), .inr (0, 160), .inl (5, [none, none, some (some 19), none]), .inr (0, 1600), .inl (5, [none, none, some (some 21), none]), .inr (0, 4), .inl (5, [none, none, some (some 23), none]), .inr (0, 24), .inl (5, [none, none, some (some 25), none]), .inr (0, 320), .inl (5, [none, none, some none, none]), .inr (0, 120)]
theorem jcl_SK51 : jcl SK51 := jcl_of (by decide +kernel)

def SK52 : List jSh := [.inl (8, [some none, some none, some none, some none, some none, some none, some none, some none, none, none]), .inl (4, [some (some 4), some (some 6), some (some 8), some (some 10), some (some 12), some (some 14), some (some 16), some (some 18), some (some 20), some (some 22), some (some 24), some (some 2), some none, some none, none, none]), .inl (5, [none, none, some (some 3), none]), .inr (0, 4), .inl (5, [none, none, some (some 5), none]), .inr (0, 80), .inl (5, [none, none, some (some 7), none]), .inr (0, 210), .inl (5, [none, none, some (some 9), none]), .inr (0, 12), .inl (5, [none, none, some (some 11), none]), .inr (0, 10), .inl (5, [none, none, some (some 13), none]), .inr (0, 24), .inl (5, [none, none, some (some 15), none]), .inr (0, 6), .inl (5, [none, none, some (some 17), none]), .inr (0, 160), .inl (5, [none, none, some (some 19), none]), .inr (0, 1600), .inl (5, [none, none, some (some 21), none]), .inr (0, 4), .inl (5, [none, none, some (some 23), none]), .inr (0, 24), .inl (5, [none, none, some (some 25), none]), .inr (0, 320), .inl (5, [none, none, some (some 27), none]), .inr (0, 120)]
theorem jcl_SK52 : jcl SK52 := jcl_of (by decide +kernel)

def rm_X5_init_13 : Room := { frames := 3, cells := 1, slots := 120, locals := 64 }
def f_X5_init_13 (m : jMu) : Option jMu :=
  (jlt (jup m 26 0 30) fun m1 => (jlt (jup m1 26 1 4) fun m2 => (jlt (jzr m2 27) fun m3 => (jlt (jup m3 26 3 0) fun m4 => some m4))))
theorem t_X5_init_13 {l : Launch} {G : jG} (hl : l.stackTraces = false) {m : jMu} {r : jMu} (hf : f_X5_init_13 m = some r) : jCt l G yX5_init (.code yX5_init cX5_init 4 none :: jWG) rm_X5_init_13 [jR 26, jI 30, jI 4] SK50 m (.inl none) SK52 r := by
  unfold f_X5_init_13 at hf
  refine J_start (ls0 := [(0, jR 26), (1, jI 30), (2, jI 4)]) (by decide +kernel) hl (Nat.le_of_ble_eq_true rfl) rfl fun X C hN hn hR hr hnm hno hq => ?_
  have B : jB X cX5_init RX5 4 SK50.length rm_X5_init_13 none := ⟨C, hN, Nat.le_of_eq hn, hR, hr⟩
  refine B_blk B jlkX5_ok jcl_SK50 [.aload_n 0] (by decide +kernel) (ls' := [(0, jR 26), (1, jI 30), (2, jI 4)]) (st' := [jR 26]) rfl (p1 := 1) rfl ?_
  refine J_obj B.1 lk_X5_3 in_object co_obj B.2.2.2.1 (Nat.le_of_ble_eq_true rfl) (Nat.le_of_ble_eq_true rfl) (by decide +kernel) ?_
  refine B_blk B jlkX5_ok jcl_SK50 [.iload_n 1, .iload_n 2, .imul, .istore_n 3, .aload_n 0, .iload_n 1] (by decide +kernel) (ls' := [(0, jR 26), (1, jI 30), (2, jI 4), (3, jI 120)]) (st' := [jI 30, jR 26]) rfl (p1 := 10) rfl ?_
  refine K_putF (jI' := 0) B hnm jp_X5_9 rfl rfl rfl (by decide +kernel) ?_
  obtain ⟨m1, hm1, hf⟩ := jlt_s hf
  rw [hm1]
  refine B_blk B jlkX5_ok jcl_SK50 [.aload_n 0, .iload_n 2] (by decide +kernel) (ls' := [(0, jR 26), (1, jI 30), (2, jI 4), (3, jI 120)]) (st' := [jI 4, jR 26]) rfl (p1 := 15) rfl ?_
  refine K_putF (jI' := 1) B hnm jp_X5_15 rfl rfl rfl (by decide +kernel) ?_
  obtain ⟨m2, hm2, hf⟩ := jlt_s hf
  rw [hm2]
  refine B_blk B jlkX5_ok jcl_SK50 [.aload_n 0, .iload_n 3] (by decide +kernel) (ls' := [(0, jR 26), (1, jI 30), (2, jI 4), (3, jI 120)]) (st' := [jI 120, jR 26]) rfl (p1 := 20) rfl ?_
  refine J_if_le (T := none) (F := some ()) (r := ()) B.1 (off := 7) (tgt := 27) (by decide +kernel) (by decide) (if_neg (by decide)) (fun h => nomatch h) (fun _ => ?_)
  refine B_blk B jlkX5_ok jcl_SK50 [.iload_n 3, .goto 4] (by decide +kernel) (ls' := [(0, jR 26), (1, jI 30), (2, jI 4), (3, jI 120)]) (st' := [jI 120, jR 26]) rfl (p1 := 28) rfl ?_
  refine J_newa (S' := SK51) (i := 27) (N := 120) (ak := 0) B.1 jcl_SK50 (by decide) rfl jac_0 rfl (by decide) (Nat.le_trans B.2.2.1 (Nat.le_of_ble_eq_true rfl)) (Nat.le_of_ble_eq_true rfl) B.2.2.2.1 (Nat.le_of_ble_eq_true rfl) (Nat.le_of_ble_eq_true rfl) (by decide +kernel) rfl rfl ?_
  obtain ⟨m3, hm3, hf⟩ := jlt_s hf
  rw [hm3]
  refine K_putR (S' := SK52) B hnm jp_X5_18 rfl rfl (by decide) rfl rfl (by decide +kernel) ?_
  refine B_blk B jlkX5_ok jcl_SK52 [.aload_n 0, .iconst 0] (by decide +kernel) (ls' := [(0, jR 26), (1, jI 30), (2, jI 4), (3, jI 120)]) (st' := [jI 0, jR 26]) rfl (p1 := 35) rfl ?_
  refine K_putI (jI' := 3) B jp_X5_22 rfl rfl rfl (by decide +kernel) ?_
  obtain ⟨m4, hm4, hf⟩ := jlt_s hf
  rw [hm4]
  cases hf
  exact B_retV B hq rfl (Nat.le_of_ble_eq_true rfl) (Nat.le_of_ble_eq_true rfl) (by decide +kernel)

def SK53 : List jSh := [.inl (8, [some none, some none, some none, some none, some none, some none, some none, some none, none, none]), .inl (4, [some (some 4), some (some 6), some (some 8), some (some 10), some (some 12), some (some 14), some (some 16), some (some 18), some (some 20), some (some 22), some (some 24), some (some 2), some (some 26), some none, none, none]), .inl (5, [none, none, some (some 3), none]), .inr (0, 4), .inl (5, [none, none, some (some 5), none]), .inr (0, 80), .inl (5, [none, none, some (some 7), none]), .inr (0, 210), .inl (5, [none, none, some (some 9), none]), .inr (0, 12), .inl (5, [none, none, some (some 11), none]), .inr (0, 10), .inl (5, [none, none, some (some 13), none]), .inr (0, 24), .inl (5, [none, none, some (some 15), none]), .inr (0, 6), .inl (5, [none, none, some (some 17), none]), .inr (0, 160), .inl (5, [none, none, some (some 19), none]), .inr (0, 1600), .inl (5, [none, none, some (some 21), none]), .inr (0, 4), .inl (5, [none, none, some (some 23), none]), .inr (0, 24), .inl (5, [none, none, some (some 25), none]), .inr (0, 320), .inl (5, [none, none, some (some 27), none]), .inr (0, 120)]
theorem jcl_SK53 : jcl SK53 := jcl_of (by decide +kernel)

def SK54 : List jSh := [.inl (8, [some none, some none, some none, some none, some none, some none, some none, some none, none, none]), .inl (4, [some (some 4), some (some 6), some (some 8), some (some 10), some (some 12), some (some 14), some (some 16), some (some 18), some (some 20), some (some 22), some (some 24), some (some 2), some (some 26), some none, none, none]), .inl (5, [none, none, some (some 3), none]), .inr (0, 4), .inl (5, [none, none, some (some 5), none]), .inr (0, 80), .inl (5, [none, none, some (some 7), none]), .inr (0, 210), .inl (5, [none, none, some (some 9), none]), .inr (0, 12), .inl (5, [none, none, some (some 11), none]), .inr (0, 10), .inl (5, [none, none, some (some 13), none]), .inr (0, 24), .inl (5, [none, none, some (some 15), none]), .inr (0, 6), .inl (5, [none, none, some (some 17), none]), .inr (0, 160), .inl (5, [none, none, some (some 19), none]), .inr (0, 1600), .inl (5, [none, none, some (some 21), none]), .inr (0, 4), .inl (5, [none, none, some (some 23), none]), .inr (0, 24), .inl (5, [none, none, some (some 25), none]), .inr (0, 320), .inl (5, [none, none, some (some 27), none]), .inr (0, 120), .inl (5, [none, none, some none, none])]
theorem jcl_SK54 : jcl SK54 := jcl_of (by decide +kernel)

def SK55 : List jSh := [.inl (8, [some none, some none, some none, some none, some none, some none, some none, some none, none, none]), .inl (4, [some (some 4), some (some 6), some (some 8), some (some 10), some (some 12), some (some 14), some (some 16), some (some 18), some (some 20), some (some 22), some (some 24), some (some 2), some (some 26), some none, none, none]), .inl (5, [none, none, some (some 3), none]), .inr (0, 4), .inl (5, [none, none, some (some 5), none]), .inr (0, 80), .inl (5, [none, none, some (some 7), none]), .inr (0, 210), .inl (5, [none, none, some (some 9), none]), .inr (0, 12), .inl (5, [none, none, some (some 11), none]), .inr (0, 10), .inl (5, [none, none, some (some 13), none]), .inr (0, 24), .inl (5, [none, none, some (some 15), none]), .inr (0, 6), .inl (5, [none, none, some (some 17), none]), .inr (0, 160), .inl (5, [none, none, some (some 19), none]), .inr (0, 1600), .inl (5, [none, none, some (some 21), none]), .inr (0, 4), .inl (5, [none, none, some (some 23), none]), .inr (0, 24), .inl (5, [none, none, some (some 25), none]), .inr (0, 320), .inl (5, [none, none, some (some 27), none]), .inr (0, 120), .inl (5, [none, none, some none, none]), .inr (0, 60)]
theorem jcl_SK55 : jcl SK55 := jcl_of (by decide +kernel)

def SK56 : List jSh := [.inl (8, [some none, some none, some none, some none, some none, some none, some none, some none, none, none]), .inl (4, [some (some 4), some (some 6), some (some 8), some (some 10), some (some 12), some (some 14), some (some 16), some (some 18), some (some 20), some (some 22), some (some 24), some (some 2), some (some 26), some none, none, none]), .inl (5, [none, none, some (some 3), none]), .inr (0, 4), .inl (5, [none, none, some (some 5), none]), .inr (0, 80), .inl (5, [none, none, some (some 7), none]), .inr (0, 210), .inl (5, [none, none, some (some 9), none]), .inr (0, 12), .inl (5, [none, none, some (some 11), none]), .inr (0, 10), .inl (5, [none, none, some (some 13), none]), .inr (0, 24), .inl (5, [none, none, some (some 15), none]), .inr (0, 6), .inl (5, [none, none, some (some 17), none]), .inr (0, 160), .inl (5, [none, none, some (some 19), none]), .inr (0, 1600), .inl (5, [none, none, some (some 21), none]), .inr (0, 4), .inl (5, [none, none, some (some 23), none]), .inr (0, 24), .inl (5, [none, none, some (some 25), none]), .inr (0, 320), .inl (5, [none, none, some (some 27), none]), .inr (0, 120), .inl (5, [none, none, some (some 29), none]), .inr (0, 60)]
theorem jcl_SK56 : jcl SK56 := jcl_of (by decide +kernel)

def rm_X5_init_14 : Room := { frames := 3, cells := 1, slots := 60, locals := 64 }
def f_X5_init_14 (m : jMu) : Option jMu :=
  (jlt (jup m 28 0 30) fun m1 => (jlt (jup m1 28 1 2) fun m2 => (jlt (jzr m2 29) fun m3 => (jlt (jup m3 28 3 0) fun m4 => some m4))))
theorem t_X5_init_14 {l : Launch} {G : jG} (hl : l.stackTraces = false) {m : jMu} {r : jMu} (hf : f_X5_init_14 m = some r) : jCt l G yX5_init (.code yX5_init cX5_init 4 none :: jWG) rm_X5_init_14 [jR 28, jI 30, jI 2] SK54 m (.inl none) SK56 r := by
  unfold f_X5_init_14 at hf
  refine J_start (ls0 := [(0, jR 28), (1, jI 30), (2, jI 2)]) (by decide +kernel) hl (Nat.le_of_ble_eq_true rfl) rfl fun X C hN hn hR hr hnm hno hq => ?_
  have B : jB X cX5_init RX5 4 SK54.length rm_X5_init_14 none := ⟨C, hN, Nat.le_of_eq hn, hR, hr⟩
  refine B_blk B jlkX5_ok jcl_SK54 [.aload_n 0] (by decide +kernel) (ls' := [(0, jR 28), (1, jI 30), (2, jI 2)]) (st' := [jR 28]) rfl (p1 := 1) rfl ?_
  refine J_obj B.1 lk_X5_3 in_object co_obj B.2.2.2.1 (Nat.le_of_ble_eq_true rfl) (Nat.le_of_ble_eq_true rfl) (by decide +kernel) ?_
  refine B_blk B jlkX5_ok jcl_SK54 [.iload_n 1, .iload_n 2, .imul, .istore_n 3, .aload_n 0, .iload_n 1] (by decide +kernel) (ls' := [(0, jR 28), (1, jI 30), (2, jI 2), (3, jI 60)]) (st' := [jI 30, jR 28]) rfl (p1 := 10) rfl ?_
  refine K_putF (jI' := 0) B hnm jp_X5_9 rfl rfl rfl (by decide +kernel) ?_
  obtain ⟨m1, hm1, hf⟩ := jlt_s hf
  rw [hm1]
  refine B_blk B jlkX5_ok jcl_SK54 [.aload_n 0, .iload_n 2] (by decide +kernel) (ls' := [(0, jR 28), (1, jI 30), (2, jI 2), (3, jI 60)]) (st' := [jI 2, jR 28]) rfl (p1 := 15) rfl ?_
  refine K_putF (jI' := 1) B hnm jp_X5_15 rfl rfl rfl (by decide +kernel) ?_
  obtain ⟨m2, hm2, hf⟩ := jlt_s hf
  rw [hm2]
  refine B_blk B jlkX5_ok jcl_SK54 [.aload_n 0, .iload_n 3] (by decide +kernel) (ls' := [(0, jR 28), (1, jI 30), (2, jI 2), (3, jI 60)]) (st' := [jI 60, jR 28]) rfl (p1 := 20) rfl ?_
  refine J_if_le (T := none) (F := some ()) (r := ()) B.1 (off := 7) (tgt := 27) (by decide +kernel) (by decide) (if_neg (by decide)) (fun h => nomatch h) (fun _ => ?_)
  refine B_blk B jlkX5_ok jcl_SK54 [.iload_n 3, .goto 4] (by decide +kernel) (ls' := [(0, jR 28), (1, jI 30), (2, jI 2), (3, jI 60)]) (st' := [jI 60, jR 28]) rfl (p1 := 28) rfl ?_
  refine J_newa (S' := SK55) (i := 29) (N := 60) (ak := 0) B.1 jcl_SK54 (by decide) rfl jac_0 rfl (by decide) (Nat.le_trans B.2.2.1 (Nat.le_of_ble_eq_true rfl)) (Nat.le_of_ble_eq_true rfl) B.2.2.2.1 (Nat.le_of_ble_eq_true rfl) (Nat.le_of_ble_eq_true rfl) (by decide +kernel) rfl rfl ?_
  obtain ⟨m3, hm3, hf⟩ := jlt_s hf
  rw [hm3]
  refine K_putR (S' := SK56) B hnm jp_X5_18 rfl rfl (by decide) rfl rfl (by decide +kernel) ?_
  refine B_blk B jlkX5_ok jcl_SK56 [.aload_n 0, .iconst 0] (by decide +kernel) (ls' := [(0, jR 28), (1, jI 30), (2, jI 2), (3, jI 60)]) (st' := [jI 0, jR 28]) rfl (p1 := 35) rfl ?_
  refine K_putI (jI' := 3) B jp_X5_22 rfl rfl rfl (by decide +kernel) ?_
  obtain ⟨m4, hm4, hf⟩ := jlt_s hf
  rw [hm4]
  cases hf
  exact B_retV B hq rfl (Nat.le_of_ble_eq_true rfl) (Nat.le_of_ble_eq_true rfl) (by decide +kernel)

def SK57 : List jSh := [.inl (8, [some none, some none, some none, some none, some none, some none, some none, some none, none, none]), .inl (4, [some (some 4), some (some 6), some (some 8), some (some 10), some (some 12), some (some 14), some (some 16), some (some 18), some (some 20), some (some 22), some (some 24), some (some 2), some (some 26), some (some 28), none, none]), .inl (5, [none, none, some (some 3), none]), .inr (0, 4), .inl (5, [none, none, some (some 5), none]), .inr (0, 80), .inl (5, [none, none, some (some 7), none]), .inr (0, 210), .inl (5, [none, none, some (some 9), none]), .inr (0, 12), .inl (5, [none, none, some (some 11), none]), .inr (0, 10), .inl (5, [none, none, some (some 13), none]), .inr (0, 24), .inl (5, [none, none, some (some 15), none]), .inr (0, 6), .inl (5, [none, none, some (some 17), none]), .inr (0, 160), .inl (5, [none, none, some (some 19), none]), .inr (0, 1600), .inl (5, [none, none, some (some 21), none]), .inr (0, 4), .inl (5, [none, none, some (some 23), none]), .inr (0, 24), .inl (5, [none, none, some (some 25), none]), .inr (0, 320), .inl (5, [none, none, some (some 27), none]), .inr (0, 120), .inl (5, [none, none, some (some 29), none]), .inr (0, 60)]
theorem jcl_SK57 : jcl SK57 := jcl_of (by decide +kernel)

def rm_X4_init : Room := { frames := 5, cells := 28, slots := 2690, locals := 88 }
def f_X4_init (m : jMu) : Option jMu :=
  (jlt (jzr m 2) fun m1 => (f_X5_init m1).bind fun r2 => (f_X5_addRow 2 3 4 r2).bind fun r3 => (f_X5_set 2 3 4 0 0 1 r3.2).bind fun r4 => (f_X5_set 2 3 4 0 1 2 r4).bind fun r5 => (f_X5_addRow 2 3 4 r5).bind fun r6 => (f_X5_set 2 3 4 1 0 1 r6.2).bind fun r7 => (f_X5_set 2 3 4 1 1 2 r7).bind fun r8 => (jlt (jzr r8 4) fun m9 => (f_X5_init_2 m9).bind fun r10 => (jlt (jzr r10 6) fun m11 => (f_X5_init_3 m11).bind fun r12 => (jlt (jzr r12 8) fun m13 => (f_X5_init_4 m13).bind fun r14 => (jlt (jzr r14 10) fun m15 => (f_X5_init_5 m15).bind fun r16 => (jlt (jzr r16 12) fun m17 => (f_X5_init_6 m17).bind fun r18 => (jlt (jzr r18 14) fun m19 => (f_X5_init_7 m19).bind fun r20 => (jlt (jzr r20 16) fun m21 => (f_X5_init_8 m21).bind fun r22 => (jlt (jzr r22 18) fun m23 => (f_X5_init_9 m23).bind fun r24 => (jlt (jzr r24 20) fun m25 => (f_X5_init_10 m25).bind fun r26 => (jlt (jzr r26 22) fun m27 => (f_X5_init_11 m27).bind fun r28 => (jlt (jzr r28 24) fun m29 => (f_X5_init_12 m29).bind fun r30 => (jlt (jzr r30 26) fun m31 => (f_X5_init_13 m31).bind fun r32 => (jlt (jzr r32 28) fun m33 => (f_X5_init_14 m33).bind fun r34 => (jlt (jup r34 1 14 0) fun m35 => (jlt (jup m35 1 15 0) fun m36 => some m36))))))))))))))))
theorem t_X4_init {l : Launch} {G : jG} (hl : l.stackTraces = false) {m : jMu} {r : jMu} (hf : f_X4_init m = some r) : jCt l G yX4_init (.code yX4_init cX4_init 3 none :: jWG) rm_X4_init [jR 1] SK1 m (.inl none) SK57 r := by
  unfold f_X4_init at hf
  refine J_start (ls0 := [(0, jR 1)]) (by decide +kernel) hl (Nat.le_of_ble_eq_true rfl) rfl fun X C hN hn hR hr hnm hno hq => ?_
  have B : jB X cX4_init RX4 3 SK1.length rm_X4_init none := ⟨C, hN, Nat.le_of_eq hn, hR, hr⟩
  refine B_blk B jlkX4_ok jcl_SK1 [.aload_n 0] (by decide +kernel) (ls' := [(0, jR 1)]) (st' := [jR 1]) rfl (p1 := 1) rfl ?_
  refine J_obj B.1 lk_X4_3 in_object co_obj B.2.2.2.1 (Nat.le_of_ble_eq_true rfl) (Nat.le_of_ble_eq_true rfl) (by decide +kernel) ?_
  refine J_new (S' := SK2) (i := 2) (rf := [none, none, some none, none]) B.1 jcl_SK1 rfl tyX5 tyX5_ok (by decide +kernel) (j_norf _ rfl) cl_X4_9 it_X5 ii_X5 (Nat.le_trans B.2.2.1 (Nat.le_of_ble_eq_true rfl)) (Nat.le_of_ble_eq_true rfl) B.2.2.2.1 (Nat.le_of_ble_eq_true rfl) (Nat.le_of_ble_eq_true rfl) (by decide +kernel) rfl rfl ?_
  obtain ⟨m1, hm1, hf⟩ := jlt_s hf
  rw [hm1]
  refine B_blk B jlkX4_ok jcl_SK2 [.dup, .iconst 2, .iconst 2] (by decide +kernel) (ls' := [(0, jR 1)]) (st' := [jI 2, jI 2, jR 2, jR 2]) rfl (p1 := 10) rfl ?_
  obtain ⟨r2, h2, hf⟩ := jbd hf
  refine B_callI B (Nat.le_of_ble_eq_true rfl) (μ' := r2) (k' := 2) (n' := 8) ca_X5_init in_X5_init rfl lk_X4_11 (t_X5_init B.tr h2) (Nat.le_of_ble_eq_true rfl) rfl (Nat.le_of_ble_eq_true rfl) (rest := [jR 2]) rfl rfl (Nat.le_of_ble_eq_true rfl) (by decide +kernel) rfl rfl (st' := [jR 2]) rfl ?_
  refine B_blk B jlkX4_ok jcl_SK4 [.astore_n 1, .iconst 0, .istore_n 2, .iload_n 2, .iconst 2] (by decide +kernel) (ls' := [(0, jR 1), (1, jR 2), (2, jI 0)]) (st' := [jI 2, jI 0]) rfl (p1 := 18) rfl ?_
  refine J_icmp_ge (T := none) (F := some ()) (r := ()) B.1 (off := 28) (tgt := 46) (by decide +kernel) (by decide) (if_neg (by decide)) (fun h => nomatch h) (fun _ => ?_)
  refine B_blk B jlkX4_ok jcl_SK4 [.aload_n 1] (by decide +kernel) (ls' := [(0, jR 1), (1, jR 2), (2, jI 0)]) (st' := [jR 2]) rfl (p1 := 22) rfl ?_
  obtain ⟨r3, h3, hf⟩ := jbd hf
  refine B_callV B (Nat.le_of_ble_eq_true rfl) (μ' := r3.2) (k' := 2) (n' := 8) ca_X5_addRow in_X5_addRow se_X5_addRow lk_X4_14 (t_X5_addRow B.tr jcl_SK4 ⟨rfl, rfl, by decide⟩ h3) (Nat.le_refl _) rfl rfl rfl (rest := []) rfl rfl (Nat.le_of_ble_eq_true rfl) (by decide +kernel) rfl rfl (st' := [jI r3.1]) rfl ?_
  refine B_blk B jlkX4_ok jcl_SK4 [.pop, .aload_n 1, .iload_n 2, .iconst 0, .iconst 1] (by decide +kernel) (ls' := [(0, jR 1), (1, jR 2), (2, jI 0)]) (st' := [jI 1, jI 0, jI 0, jR 2]) rfl (p1 := 30) rfl ?_
  obtain ⟨r4, h4, hf⟩ := jbd hf
  refine B_callV B (Nat.le_of_ble_eq_true rfl) (μ' := r4) (k' := 2) (n' := 8) ca_X5_set in_X5_set se_X5_set lk_X4_20 (t_X5_set B.tr jcl_SK4 ⟨rfl, rfl, by decide⟩ h4) (Nat.le_refl _) rfl rfl rfl (rest := []) rfl rfl (Nat.le_of_ble_eq_true rfl) (by decide +kernel) rfl rfl (st' := []) rfl ?_
  refine B_blk B jlkX4_ok jcl_SK4 [.aload_n 1, .iload_n 2, .iconst 1, .iconst 2] (by decide +kernel) (ls' := [(0, jR 1), (1, jR 2), (2, jI 0)]) (st' := [jI 2, jI 1, jI 0, jR 2]) rfl (p1 := 37) rfl ?_
  obtain ⟨r5, h5, hf⟩ := jbd hf
  refine B_callV B (Nat.le_of_ble_eq_true rfl) (μ' := r5) (k' := 2) (n' := 8) ca_X5_set in_X5_set se_X5_set lk_X4_20 (t_X5_set B.tr jcl_SK4 ⟨rfl, rfl, by decide⟩ h5) (Nat.le_refl _) rfl rfl rfl (rest := []) rfl rfl (Nat.le_of_ble_eq_true rfl) (by decide +kernel) rfl rfl (st' := []) rfl ?_
  refine B_blk B jlkX4_ok jcl_SK4 [.iinc 2 1, .goto (-27), .iload_n 2, .iconst 2] (by decide +kernel) (ls' := [(0, jR 1), (1, jR 2), (2, jI 1)]) (st' := [jI 2, jI 1]) rfl (p1 := 18) rfl ?_
  refine J_icmp_ge (T := none) (F := some ()) (r := ()) B.1 (off := 28) (tgt := 46) (by decide +kernel) (by decide) (if_neg (by decide)) (fun h => nomatch h) (fun _ => ?_)
  refine B_blk B jlkX4_ok jcl_SK4 [.aload_n 1] (by decide +kernel) (ls' := [(0, jR 1), (1, jR 2), (2, jI 1)]) (st' := [jR 2]) rfl (p1 := 22) rfl ?_
  obtain ⟨r6, h6, hf⟩ := jbd hf
  refine B_callV B (Nat.le_of_ble_eq_true rfl) (μ' := r6.2) (k' := 2) (n' := 8) ca_X5_addRow in_X5_addRow se_X5_addRow lk_X4_14 (t_X5_addRow B.tr jcl_SK4 ⟨rfl, rfl, by decide⟩ h6) (Nat.le_refl _) rfl rfl rfl (rest := []) rfl rfl (Nat.le_of_ble_eq_true rfl) (by decide +kernel) rfl rfl (st' := [jI r6.1]) rfl ?_
  refine B_blk B jlkX4_ok jcl_SK4 [.pop, .aload_n 1, .iload_n 2, .iconst 0, .iconst 1] (by decide +kernel) (ls' := [(0, jR 1), (1, jR 2), (2, jI 1)]) (st' := [jI 1, jI 0, jI 1, jR 2]) rfl (p1 := 30) rfl ?_
  obtain ⟨r7, h7, hf⟩ := jbd hf
  refine B_callV B (Nat.le_of_ble_eq_true rfl) (μ' := r7) (k' := 2) (n' := 8) ca_X5_set in_X5_set se_X5_set lk_X4_20 (t_X5_set B.tr jcl_SK4 ⟨rfl, rfl, by decide⟩ h7) (Nat.le_refl _) rfl rfl rfl (rest := []) rfl rfl (Nat.le_of_ble_eq_true rfl) (by decide +kernel) rfl rfl (st' := []) rfl ?_
  refine B_blk B jlkX4_ok jcl_SK4 [.aload_n 1, .iload_n 2, .iconst 1, .iconst 2] (by decide +kernel) (ls' := [(0, jR 1), (1, jR 2), (2, jI 1)]) (st' := [jI 2, jI 1, jI 1, jR 2]) rfl (p1 := 37) rfl ?_
  obtain ⟨r8, h8, hf⟩ := jbd hf
  refine B_callV B (Nat.le_of_ble_eq_true rfl) (μ' := r8) (k' := 2) (n' := 8) ca_X5_set in_X5_set se_X5_set lk_X4_20 (t_X5_set B.tr jcl_SK4 ⟨rfl, rfl, by decide⟩ h8) (Nat.le_refl _) rfl rfl rfl (rest := []) rfl rfl (Nat.le_of_ble_eq_true rfl) (by decide +kernel) rfl rfl (st' := []) rfl ?_
  refine B_blk B jlkX4_ok jcl_SK4 [.iinc 2 1, .goto (-27), .iload_n 2, .iconst 2] (by decide +kernel) (ls' := [(0, jR 1), (1, jR 2), (2, jI 2)]) (st' := [jI 2, jI 2]) rfl (p1 := 18) rfl ?_
  refine J_icmp_ge (T := some ()) (F := none) (r := ()) B.1 (off := 28) (tgt := 46) (by decide +kernel) (by decide) (if_pos (by decide)) (fun _ => ?_) (fun h => nomatch h)
  refine B_blk B jlkX4_ok jcl_SK4 [.aload_n 0] (by decide +kernel) (ls' := [(0, jR 1), (1, jR 2), (2, jI 2)]) (st' := [jR 1]) rfl (p1 := 47) rfl ?_
  refine J_new (S' := SK5) (i := 4) (rf := [none, none, some none, none]) B.1 jcl_SK4 rfl tyX5 tyX5_ok (by decide +kernel) (j_norf _ rfl) cl_X4_9 it_X5 ii_X5 (Nat.le_trans B.2.2.1 (Nat.le_of_ble_eq_true rfl)) (Nat.le_of_ble_eq_true rfl) B.2.2.2.1 (Nat.le_of_ble_eq_true rfl) (Nat.le_of_ble_eq_true rfl) (by decide +kernel) rfl rfl ?_
  obtain ⟨m9, hm9, hf⟩ := jlt_s hf
  rw [hm9]
  refine B_blk B jlkX4_ok jcl_SK5 [.dup, .bipush 8, .bipush 10] (by decide +kernel) (ls' := [(0, jR 1), (1, jR 2), (2, jI 2)]) (st' := [jI 10, jI 8, jR 4, jR 4, jR 1]) rfl (p1 := 55) rfl ?_
  obtain ⟨r10, h10, hf⟩ := jbd hf
  refine B_callI B (Nat.le_of_ble_eq_true rfl) (μ' := r10) (k' := 4) (n' := 92) ca_X5_init in_X5_init rfl lk_X4_11 (t_X5_init_2 B.tr h10) (Nat.le_of_ble_eq_true rfl) rfl (Nat.le_of_ble_eq_true rfl) (rest := [jR 4, jR 1]) rfl rfl (Nat.le_of_ble_eq_true rfl) (by decide +kernel) rfl rfl (st' := [jR 4, jR 1]) rfl ?_
  refine K_putR (S' := SK8) B hnm jp_X4_24 rfl rfl (by decide) rfl rfl (by decide +kernel) ?_
  refine B_blk B jlkX4_ok jcl_SK8 [.aload_n 0] (by decide +kernel) (ls' := [(0, jR 1), (1, jR 2), (2, jI 2)]) (st' := [jR 1]) rfl (p1 := 62) rfl ?_
  refine J_new (S' := SK9) (i := 6) (rf := [none, none, some none, none]) B.1 jcl_SK8 rfl tyX5 tyX5_ok (by decide +kernel) (j_norf _ rfl) cl_X4_9 it_X5 ii_X5 (Nat.le_trans B.2.2.1 (Nat.le_of_ble_eq_true rfl)) (Nat.le_of_ble_eq_true rfl) B.2.2.2.1 (Nat.le_of_ble_eq_true rfl) (Nat.le_of_ble_eq_true rfl) (by decide +kernel) rfl rfl ?_
  obtain ⟨m11, hm11, hf⟩ := jlt_s hf
  rw [hm11]
  refine B_blk B jlkX4_ok jcl_SK9 [.dup, .bipush 30, .bipush 7] (by decide +kernel) (ls' := [(0, jR 1), (1, jR 2), (2, jI 2)]) (st' := [jI 7, jI 30, jR 6, jR 6, jR 1]) rfl (p1 := 70) rfl ?_
  obtain ⟨r12, h12, hf⟩ := jbd hf
  refine B_callI B (Nat.le_of_ble_eq_true rfl) (μ' := r12) (k' := 6) (n' := 306) ca_X5_init in_X5_init rfl lk_X4_11 (t_X5_init_3 B.tr h12) (Nat.le_of_ble_eq_true rfl) rfl (Nat.le_of_ble_eq_true rfl) (rest := [jR 6, jR 1]) rfl rfl (Nat.le_of_ble_eq_true rfl) (by decide +kernel) rfl rfl (st' := [jR 6, jR 1]) rfl ?_
  refine K_putR (S' := SK12) B hnm jp_X4_28 rfl rfl (by decide) rfl rfl (by decide +kernel) ?_
  refine B_blk B jlkX4_ok jcl_SK12 [.aload_n 0] (by decide +kernel) (ls' := [(0, jR 1), (1, jR 2), (2, jI 2)]) (st' := [jR 1]) rfl (p1 := 77) rfl ?_
  refine J_new (S' := SK13) (i := 8) (rf := [none, none, some none, none]) B.1 jcl_SK12 rfl tyX5 tyX5_ok (by decide +kernel) (j_norf _ rfl) cl_X4_9 it_X5 ii_X5 (Nat.le_trans B.2.2.1 (Nat.le_of_ble_eq_true rfl)) (Nat.le_of_ble_eq_true rfl) B.2.2.2.1 (Nat.le_of_ble_eq_true rfl) (Nat.le_of_ble_eq_true rfl) (by decide +kernel) rfl rfl ?_
  obtain ⟨m13, hm13, hf⟩ := jlt_s hf
  rw [hm13]
  refine B_blk B jlkX4_ok jcl_SK13 [.dup, .bipush 6, .iconst 2] (by decide +kernel) (ls' := [(0, jR 1), (1, jR 2), (2, jI 2)]) (st' := [jI 2, jI 6, jR 8, jR 8, jR 1]) rfl (p1 := 84) rfl ?_
  obtain ⟨r14, h14, hf⟩ := jbd hf
  refine B_callI B (Nat.le_of_ble_eq_true rfl) (μ' := r14) (k' := 8) (n' := 322) ca_X5_init in_X5_init rfl lk_X4_11 (t_X5_init_4 B.tr h14) (Nat.le_of_ble_eq_true rfl) rfl (Nat.le_of_ble_eq_true rfl) (rest := [jR 8, jR 1]) rfl rfl (Nat.le_of_ble_eq_true rfl) (by decide +kernel) rfl rfl (st' := [jR 8, jR 1]) rfl ?_
  refine K_putR (S' := SK16) B hnm jp_X4_31 rfl rfl (by decide) rfl rfl (by decide +kernel) ?_
  refine B_blk B jlkX4_ok jcl_SK16 [.aload_n 0] (by decide +kernel) (ls' := [(0, jR 1), (1, jR 2), (2, jI 2)]) (st' := [jR 1]) rfl (p1 := 91) rfl ?_
  refine J_new (S' := SK17) (i := 10) (rf := [none, none, some none, none]) B.1 jcl_SK16 rfl tyX5 tyX5_ok (by decide +kernel) (j_norf _ rfl) cl_X4_9 it_X5 ii_X5 (Nat.le_trans B.2.2.1 (Nat.le_of_ble_eq_true rfl)) (Nat.le_of_ble_eq_true rfl) B.2.2.2.1 (Nat.le_of_ble_eq_true rfl) (Nat.le_of_ble_eq_true rfl) (by decide +kernel) rfl rfl ?_
  obtain ⟨m15, hm15, hf⟩ := jlt_s hf
  rw [hm15]
  refine B_blk B jlkX4_ok jcl_SK17 [.dup, .iconst 5, .iconst 2] (by decide +kernel) (ls' := [(0, jR 1), (1, jR 2), (2, jI 2)]) (st' := [jI 2, jI 5, jR 10, jR 10, jR 1]) rfl (p1 := 97) rfl ?_
  obtain ⟨r16, h16, hf⟩ := jbd hf
  refine B_callI B (Nat.le_of_ble_eq_true rfl) (μ' := r16) (k' := 10) (n' := 336) ca_X5_init in_X5_init rfl lk_X4_11 (t_X5_init_5 B.tr h16) (Nat.le_of_ble_eq_true rfl) rfl (Nat.le_of_ble_eq_true rfl) (rest := [jR 10, jR 1]) rfl rfl (Nat.le_of_ble_eq_true rfl) (by decide +kernel) rfl rfl (st' := [jR 10, jR 1]) rfl ?_
  refine K_putR (S' := SK20) B hnm jp_X4_34 rfl rfl (by decide) rfl rfl (by decide +kernel) ?_
  refine B_blk B jlkX4_ok jcl_SK20 [.aload_n 0] (by decide +kernel) (ls' := [(0, jR 1), (1, jR 2), (2, jI 2)]) (st' := [jR 1]) rfl (p1 := 104) rfl ?_
  refine J_new (S' := SK21) (i := 12) (rf := [none, none, some none, none]) B.1 jcl_SK20 rfl tyX5 tyX5_ok (by decide +kernel) (j_norf _ rfl) cl_X4_9 it_X5 ii_X5 (Nat.le_trans B.2.2.1 (Nat.le_of_ble_eq_true rfl)) (Nat.le_of_ble_eq_true rfl) B.2.2.2.1 (Nat.le_of_ble_eq_true rfl) (Nat.le_of_ble_eq_true rfl) (by decide +kernel) rfl rfl ?_
  obtain ⟨m17, hm17, hf⟩ := jlt_s hf
  rw [hm17]
  refine B_blk B jlkX4_ok jcl_SK21 [.dup, .bipush 8, .iconst 3] (by decide +kernel) (ls' := [(0, jR 1), (1, jR 2), (2, jI 2)]) (st' := [jI 3, jI 8, jR 12, jR 12, jR 1]) rfl (p1 := 111) rfl ?_
  obtain ⟨r18, h18, hf⟩ := jbd hf
  refine B_callI B (Nat.le_of_ble_eq_true rfl) (μ' := r18) (k' := 12) (n' := 364) ca_X5_init in_X5_init rfl lk_X4_11 (t_X5_init_6 B.tr h18) (Nat.le_of_ble_eq_true rfl) rfl (Nat.le_of_ble_eq_true rfl) (rest := [jR 12, jR 1]) rfl rfl (Nat.le_of_ble_eq_true rfl) (by decide +kernel) rfl rfl (st' := [jR 12, jR 1]) rfl ?_
  refine K_putR (S' := SK24) B hnm jp_X4_37 rfl rfl (by decide) rfl rfl (by decide +kernel) ?_
  refine B_blk B jlkX4_ok jcl_SK24 [.aload_n 0] (by decide +kernel) (ls' := [(0, jR 1), (1, jR 2), (2, jI 2)]) (st' := [jR 1]) rfl (p1 := 118) rfl ?_
  refine J_new (S' := SK25) (i := 14) (rf := [none, none, some none, none]) B.1 jcl_SK24 rfl tyX5 tyX5_ok (by decide +kernel) (j_norf _ rfl) cl_X4_9 it_X5 ii_X5 (Nat.le_trans B.2.2.1 (Nat.le_of_ble_eq_true rfl)) (Nat.le_of_ble_eq_true rfl) B.2.2.2.1 (Nat.le_of_ble_eq_true rfl) (Nat.le_of_ble_eq_true rfl) (by decide +kernel) rfl rfl ?_
  obtain ⟨m19, hm19, hf⟩ := jlt_s hf
  rw [hm19]
  refine B_blk B jlkX4_ok jcl_SK25 [.dup, .iconst 3, .iconst 2] (by decide +kernel) (ls' := [(0, jR 1), (1, jR 2), (2, jI 2)]) (st' := [jI 2, jI 3, jR 14, jR 14, jR 1]) rfl (p1 := 124) rfl ?_
  obtain ⟨r20, h20, hf⟩ := jbd hf
  refine B_callI B (Nat.le_of_ble_eq_true rfl) (μ' := r20) (k' := 14) (n' := 374) ca_X5_init in_X5_init rfl lk_X4_11 (t_X5_init_7 B.tr h20) (Nat.le_of_ble_eq_true rfl) rfl (Nat.le_of_ble_eq_true rfl) (rest := [jR 14, jR 1]) rfl rfl (Nat.le_of_ble_eq_true rfl) (by decide +kernel) rfl rfl (st' := [jR 14, jR 1]) rfl ?_
  refine K_putR (S' := SK28) B hnm jp_X4_40 rfl rfl (by decide) rfl rfl (by decide +kernel) ?_
  refine B_blk B jlkX4_ok jcl_SK28 [.aload_n 0] (by decide +kernel) (ls' := [(0, jR 1), (1, jR 2), (2, jI 2)]) (st' := [jR 1]) rfl (p1 := 131) rfl ?_
  refine J_new (S' := SK29) (i := 16) (rf := [none, none, some none, none]) B.1 jcl_SK28 rfl tyX5 tyX5_ok (by decide +kernel) (j_norf _ rfl) cl_X4_9 it_X5 ii_X5 (Nat.le_trans B.2.2.1 (Nat.le_of_ble_eq_true rfl)) (Nat.le_of_ble_eq_true rfl) B.2.2.2.1 (Nat.le_of_ble_eq_true rfl) (Nat.le_of_ble_eq_true rfl) (by decide +kernel) rfl rfl ?_
  obtain ⟨m21, hm21, hf⟩ := jlt_s hf
  rw [hm21]
  refine B_blk B jlkX4_ok jcl_SK29 [.dup, .bipush 40, .iconst 4] (by decide +kernel) (ls' := [(0, jR 1), (1, jR 2), (2, jI 2)]) (st' := [jI 4, jI 40, jR 16, jR 16, jR 1]) rfl (p1 := 138) rfl ?_
  obtain ⟨r22, h22, hf⟩ := jbd hf
  refine B_callI B (Nat.le_of_ble_eq_true rfl) (μ' := r22) (k' := 16) (n' := 538) ca_X5_init in_X5_init rfl lk_X4_11 (t_X5_init_8 B.tr h22) (Nat.le_of_ble_eq_true rfl) rfl (Nat.le_of_ble_eq_true rfl) (rest := [jR 16, jR 1]) rfl rfl (Nat.le_of_ble_eq_true rfl) (by decide +kernel) rfl rfl (st' := [jR 16, jR 1]) rfl ?_
  refine K_putR (S' := SK32) B hnm jp_X4_45 rfl rfl (by decide) rfl rfl (by decide +kernel) ?_
  refine B_blk B jlkX4_ok jcl_SK32 [.aload_n 0] (by decide +kernel) (ls' := [(0, jR 1), (1, jR 2), (2, jI 2)]) (st' := [jR 1]) rfl (p1 := 145) rfl ?_
  refine J_new (S' := SK33) (i := 18) (rf := [none, none, some none, none]) B.1 jcl_SK32 rfl tyX5 tyX5_ok (by decide +kernel) (j_norf _ rfl) cl_X4_9 it_X5 ii_X5 (Nat.le_trans B.2.2.1 (Nat.le_of_ble_eq_true rfl)) (Nat.le_of_ble_eq_true rfl) B.2.2.2.1 (Nat.le_of_ble_eq_true rfl) (Nat.le_of_ble_eq_true rfl) (by decide +kernel) rfl rfl ?_
  obtain ⟨m23, hm23, hf⟩ := jlt_s hf
  rw [hm23]
  refine B_blk B jlkX4_ok jcl_SK33 [.dup, .sipush 1600, .iconst 1] (by decide +kernel) (ls' := [(0, jR 1), (1, jR 2), (2, jI 2)]) (st' := [jI 1, jI 1600, jR 18, jR 18, jR 1]) rfl (p1 := 153) rfl ?_
  obtain ⟨r24, h24, hf⟩ := jbd hf
  refine B_callI B (Nat.le_of_ble_eq_true rfl) (μ' := r24) (k' := 18) (n' := 2142) ca_X5_init in_X5_init rfl lk_X4_11 (t_X5_init_9 B.tr h24) (Nat.le_of_ble_eq_true rfl) rfl (Nat.le_of_ble_eq_true rfl) (rest := [jR 18, jR 1]) rfl rfl (Nat.le_of_ble_eq_true rfl) (by decide +kernel) rfl rfl (st' := [jR 18, jR 1]) rfl ?_
  refine K_putR (S' := SK36) B hnm jp_X4_50 rfl rfl (by decide) rfl rfl (by decide +kernel) ?_
  refine B_blk B jlkX4_ok jcl_SK36 [.aload_n 0] (by decide +kernel) (ls' := [(0, jR 1), (1, jR 2), (2, jI 2)]) (st' := [jR 1]) rfl (p1 := 160) rfl ?_
  refine J_new (S' := SK37) (i := 20) (rf := [none, none, some none, none]) B.1 jcl_SK36 rfl tyX5 tyX5_ok (by decide +kernel) (j_norf _ rfl) cl_X4_9 it_X5 ii_X5 (Nat.le_trans B.2.2.1 (Nat.le_of_ble_eq_true rfl)) (Nat.le_of_ble_eq_true rfl) B.2.2.2.1 (Nat.le_of_ble_eq_true rfl) (Nat.le_of_ble_eq_true rfl) (by decide +kernel) rfl rfl ?_
  obtain ⟨m25, hm25, hf⟩ := jlt_s hf
  rw [hm25]
  refine B_blk B jlkX4_ok jcl_SK37 [.dup, .iconst 4, .iconst 1] (by decide +kernel) (ls' := [(0, jR 1), (1, jR 2), (2, jI 2)]) (st' := [jI 1, jI 4, jR 20, jR 20, jR 1]) rfl (p1 := 166) rfl ?_
  obtain ⟨r26, h26, hf⟩ := jbd hf
  refine B_callI B (Nat.le_of_ble_eq_true rfl) (μ' := r26) (k' := 20) (n' := 2150) ca_X5_init in_X5_init rfl lk_X4_11 (t_X5_init_10 B.tr h26) (Nat.le_of_ble_eq_true rfl) rfl (Nat.le_of_ble_eq_true rfl) (rest := [jR 20, jR 1]) rfl rfl (Nat.le_of_ble_eq_true rfl) (by decide +kernel) rfl rfl (st' := [jR 20, jR 1]) rfl ?_
  refine K_putR (S' := SK40) B hnm jp_X4_53 rfl rfl (by decide) rfl rfl (by decide +kernel) ?_
  refine B_blk B jlkX4_ok jcl_SK40 [.aload_n 0] (by decide +kernel) (ls' := [(0, jR 1), (1, jR 2), (2, jI 2)]) (st' := [jR 1]) rfl (p1 := 173) rfl ?_
  refine J_new (S' := SK41) (i := 22) (rf := [none, none, some none, none]) B.1 jcl_SK40 rfl tyX5 tyX5_ok (by decide +kernel) (j_norf _ rfl) cl_X4_9 it_X5 ii_X5 (Nat.le_trans B.2.2.1 (Nat.le_of_ble_eq_true rfl)) (Nat.le_of_ble_eq_true rfl) B.2.2.2.1 (Nat.le_of_ble_eq_true rfl) (Nat.le_of_ble_eq_true rfl) (by decide +kernel) rfl rfl ?_
  obtain ⟨m27, hm27, hf⟩ := jlt_s hf
  rw [hm27]
  refine B_blk B jlkX4_ok jcl_SK41 [.dup, .bipush 6, .iconst 4] (by decide +kernel) (ls' := [(0, jR 1), (1, jR 2), (2, jI 2)]) (st' := [jI 4, jI 6, jR 22, jR 22, jR 1]) rfl (p1 := 180) rfl ?_
  obtain ⟨r28, h28, hf⟩ := jbd hf
  refine B_callI B (Nat.le_of_ble_eq_true rfl) (μ' := r28) (k' := 22) (n' := 2178) ca_X5_init in_X5_init rfl lk_X4_11 (t_X5_init_11 B.tr h28) (Nat.le_of_ble_eq_true rfl) rfl (Nat.le_of_ble_eq_true rfl) (rest := [jR 22, jR 1]) rfl rfl (Nat.le_of_ble_eq_true rfl) (by decide +kernel) rfl rfl (st' := [jR 22, jR 1]) rfl ?_
  refine K_putR (S' := SK44) B hnm jp_X4_56 rfl rfl (by decide) rfl rfl (by decide +kernel) ?_
  refine B_blk B jlkX4_ok jcl_SK44 [.aload_n 0] (by decide +kernel) (ls' := [(0, jR 1), (1, jR 2), (2, jI 2)]) (st' := [jR 1]) rfl (p1 := 187) rfl ?_
  refine J_new (S' := SK45) (i := 24) (rf := [none, none, some none, none]) B.1 jcl_SK44 rfl tyX5 tyX5_ok (by decide +kernel) (j_norf _ rfl) cl_X4_9 it_X5 ii_X5 (Nat.le_trans B.2.2.1 (Nat.le_of_ble_eq_true rfl)) (Nat.le_of_ble_eq_true rfl) B.2.2.2.1 (Nat.le_of_ble_eq_true rfl) (Nat.le_of_ble_eq_true rfl) (by decide +kernel) rfl rfl ?_
  obtain ⟨m29, hm29, hf⟩ := jlt_s hf
  rw [hm29]
  refine B_blk B jlkX4_ok jcl_SK45 [.dup, .bipush 40, .bipush 8] (by decide +kernel) (ls' := [(0, jR 1), (1, jR 2), (2, jI 2)]) (st' := [jI 8, jI 40, jR 24, jR 24, jR 1]) rfl (p1 := 195) rfl ?_
  obtain ⟨r30, h30, hf⟩ := jbd hf
  refine B_callI B (Nat.le_of_ble_eq_true rfl) (μ' := r30) (k' := 24) (n' := 2502) ca_X5_init in_X5_init rfl lk_X4_11 (t_X5_init_12 B.tr h30) (Nat.le_of_ble_eq_true rfl) rfl (Nat.le_of_ble_eq_true rfl) (rest := [jR 24, jR 1]) rfl rfl (Nat.le_of_ble_eq_true rfl) (by decide +kernel) rfl rfl (st' := [jR 24, jR 1]) rfl ?_
  refine K_putR (S' := SK48) B hnm jp_X4_59 rfl rfl (by decide) rfl rfl (by decide +kernel) ?_
  refine B_blk B jlkX4_ok jcl_SK48 [.aload_n 0, .aload_n 1] (by decide +kernel) (ls' := [(0, jR 1), (1, jR 2), (2, jI 2)]) (st' := [jR 2, jR 1]) rfl (p1 := 203) rfl ?_
  refine K_putR (S' := SK49) B hnm jp_X4_62 rfl rfl (by decide) rfl rfl (by decide +kernel) ?_
  refine B_blk B jlkX4_ok jcl_SK49 [.aload_n 0] (by decide +kernel) (ls' := [(0, jR 1), (1, jR 2), (2, jI 2)]) (st' := [jR 1]) rfl (p1 := 207) rfl ?_
  refine J_new (S' := SK50) (i := 26) (rf := [none, none, some none, none]) B.1 jcl_SK49 rfl tyX5 tyX5_ok (by decide +kernel) (j_norf _ rfl) cl_X4_9 it_X5 ii_X5 (Nat.le_trans B.2.2.1 (Nat.le_of_ble_eq_true rfl)) (Nat.le_of_ble_eq_true rfl) B.2.2.2.1 (Nat.le_of_ble_eq_true rfl) (Nat.le_of_ble_eq_true rfl) (by decide +kernel) rfl rfl ?_
  obtain ⟨m31, hm31, hf⟩ := jlt_s hf
  rw [hm31]
  refine B_blk B jlkX4_ok jcl_SK50 [.dup, .bipush 30, .iconst 4] (by decide +kernel) (ls' := [(0, jR 1), (1, jR 2), (2, jI 2)]) (st' := [jI 4, jI 30, jR 26, jR 26, jR 1]) rfl (p1 := 214) rfl ?_
  obtain ⟨r32, h32, hf⟩ := jbd hf
  refine B_callI B (Nat.le_of_ble_eq_true rfl) (μ' := r32) (k' := 26) (n' := 2626) ca_X5_init in_X5_init rfl lk_X4_11 (t_X5_init_13 B.tr h32) (Nat.le_of_ble_eq_true rfl) rfl (Nat.le_of_ble_eq_true rfl) (rest := [jR 26, jR 1]) rfl rfl (Nat.le_of_ble_eq_true rfl) (by decide +kernel) rfl rfl (st' := [jR 26, jR 1]) rfl ?_
  refine K_putR (S' := SK53) B hnm jp_X4_65 rfl rfl (by decide) rfl rfl (by decide +kernel) ?_
  refine B_blk B jlkX4_ok jcl_SK53 [.aload_n 0] (by decide +kernel) (ls' := [(0, jR 1), (1, jR 2), (2, jI 2)]) (st' := [jR 1]) rfl (p1 := 221) rfl ?_
  refine J_new (S' := SK54) (i := 28) (rf := [none, none, some none, none]) B.1 jcl_SK53 rfl tyX5 tyX5_ok (by decide +kernel) (j_norf _ rfl) cl_X4_9 it_X5 ii_X5 (Nat.le_trans B.2.2.1 (Nat.le_of_ble_eq_true rfl)) (Nat.le_of_ble_eq_true rfl) B.2.2.2.1 (Nat.le_of_ble_eq_true rfl) (Nat.le_of_ble_eq_true rfl) (by decide +kernel) rfl rfl ?_
  obtain ⟨m33, hm33, hf⟩ := jlt_s hf
  rw [hm33]
  refine B_blk B jlkX4_ok jcl_SK54 [.dup, .bipush 30, .iconst 2] (by decide +kernel) (ls' := [(0, jR 1), (1, jR 2), (2, jI 2)]) (st' := [jI 2, jI 30, jR 28, jR 28, jR 1]) rfl (p1 := 228) rfl ?_
  obtain ⟨r34, h34, hf⟩ := jbd hf
  refine B_callI B (Nat.le_of_ble_eq_true rfl) (μ' := r34) (k' := 28) (n' := 2690) ca_X5_init in_X5_init rfl lk_X4_11 (t_X5_init_14 B.tr h34) (Nat.le_of_ble_eq_true rfl) rfl (Nat.le_of_ble_eq_true rfl) (rest := [jR 28, jR 1]) rfl rfl (Nat.le_of_ble_eq_true rfl) (by decide +kernel) rfl rfl (st' := [jR 28, jR 1]) rfl ?_
  refine K_putR (S' := SK57) B hnm jp_X4_68 rfl rfl (by decide) rfl rfl (by decide +kernel) ?_
  refine B_blk B jlkX4_ok jcl_SK57 [.aload_n 0, .iconst 0] (by decide +kernel) (ls' := [(0, jR 1), (1, jR 2), (2, jI 2)]) (st' := [jI 0, jR 1]) rfl (p1 := 236) rfl ?_
  refine K_putI (jI' := 14) B jp_X4_71 rfl rfl rfl (by decide +kernel) ?_
  obtain ⟨m35, hm35, hf⟩ := jlt_s hf
  rw [hm35]
  refine B_blk B jlkX4_ok jcl_SK57 [.aload_n 0, .iconst 0] (by decide +kernel) (ls' := [(0, jR 1), (1, jR 2), (2, jI 2)]) (st' := [jI 0, jR 1]) rfl (p1 := 241) rfl ?_
  refine K_putI (jI' := 15) B jp_X4_75 rfl rfl rfl (by decide +kernel) ?_
  obtain ⟨m36, hm36, hf⟩ := jlt_s hf
  rw [hm36]
  cases hf
  exact B_retV B hq rfl (Nat.le_of_ble_eq_true rfl) (Nat.le_of_ble_eq_true rfl) (by decide +kernel)

def SK58 : List jSh := [.inl (8, [some none, some none, some none, some none, some none, some none, some none, some none, none, none]), .inl (4, [some (some 4), some (some 6), some (some 8), some (some 10), some (some 12), some (some 14), some (some 16), some (some 18), some (some 20), some (some 22), some (some 24), some (some 2), some (some 26), some (some 28), none, none]), .inl (5, [none, none, some (some 3), none]), .inr (0, 4), .inl (5, [none, none, some (some 5), none]), .inr (0, 80), .inl (5, [none, none, some (some 7), none]), .inr (0, 210), .inl (5, [none, none, some (some 9), none]), .inr (0, 12), .inl (5, [none, none, some (some 11), none]), .inr (0, 10), .inl (5, [none, none, some (some 13), none]), .inr (0, 24), .inl (5, [none, none, some (some 15), none]), .inr (0, 6), .inl (5, [none, none, some (some 17), none]), .inr (0, 160), .inl (5, [none, none, some (some 19), none]), .inr (0, 1600), .inl (5, [none, none, some (some 21), none]), .inr (0, 4), .inl (5, [none, none, some (some 23), none]), .inr (0, 24), .inl (5, [none, none, some (some 25), none]), .inr (0, 320), .inl (5, [none, none, some (some 27), none]), .inr (0, 120), .inl (5, [none, none, some (some 29), none]), .inr (0, 60), .inl (6, [some none, none])]
theorem jcl_SK58 : jcl SK58 := jcl_of (by decide +kernel)

def SK59 : List jSh := [.inl (8, [some none, some none, some none, some none, some none, some none, some none, some none, none, none]), .inl (4, [some (some 4), some (some 6), some (some 8), some (some 10), some (some 12), some (some 14), some (some 16), some (some 18), some (some 20), some (some 22), some (some 24), some (some 2), some (some 26), some (some 28), none, none]), .inl (5, [none, none, some (some 3), none]), .inr (0, 4), .inl (5, [none, none, some (some 5), none]), .inr (0, 80), .inl (5, [none, none, some (some 7), none]), .inr (0, 210), .inl (5, [none, none, some (some 9), none]), .inr (0, 12), .inl (5, [none, none, some (some 11), none]), .inr (0, 10), .inl (5, [none, none, some (some 13), none]), .inr (0, 24), .inl (5, [none, none, some (some 15), none]), .inr (0, 6), .inl (5, [none, none, some (some 17), none]), .inr (0, 160), .inl (5, [none, none, some (some 19), none]), .inr (0, 1600), .inl (5, [none, none, some (some 21), none]), .inr (0, 4), .inl (5, [none, none, some (some 23), none]), .inr (0, 24), .inl (5, [none, none, some (some 25), none]), .inr (0, 320), .inl (5, [none, none, some (some 27), none]), .inr (0, 120), .inl (5, [none, none, some (some 29), none]), .inr (0, 60), .inl (6, [some none, none]), .inr (0, 400)]
theorem jcl_SK59 : jcl SK59 := jcl_of (by decide +kernel)

def SK60 : List jSh := [.inl (8, [some none, some none, some none, some none, some none, some none, some none, some none, none, none]), .inl (4, [some (some 4), some (some 6), some (some 8), some (some 10), some (some 12), some (some 14), some (some 16), some (some 18), some (some 20), some (some 22), some (some 24), some (some 2), some (some 26), some (some 28), none, none]), .inl (5, [none, none, some (some 3), none]), .inr (0, 4), .inl (5, [none, none, some (some 5), none]), .inr (0, 80), .inl (5, [none, none, some (some 7), none]), .inr (0, 210), .inl (5, [none, none, some (some 9), none]), .inr (0, 12), .inl (5, [none, none, some (some 11), none]), .inr (0, 10), .inl (5, [none, none, some (some 13), none]), .inr (0, 24), .inl (5, [none, none, some (some 15), none]), .inr (0, 6), .inl (5, [none, none, some (some 17), none]), .inr (0, 160), .inl (5, [none, none, some (some 19), none]), .inr (0, 1600), .inl (5, [none, none, some (some 21), none]), .inr (0, 4), .inl (5, [none, none, some (some 23), none]), .inr (0, 24), .inl (5, [none, none, some (some 25), none]), .inr (0, 320), .inl (5, [none, none, some (some 27), none]), .inr (0, 120), .inl (5, [none, none, some (some 29), none]), .inr (0, 60), .inl (6, [some (some 31), none]), .inr (0, 400)]
theorem jcl_SK60 : jcl SK60 := jcl_of (by decide +kernel)

def rm_X6_init : Room := { frames := 3, cells := 1, slots := 400, locals := 64 }
def f_X6_init (m : jMu) : Option jMu :=
  (jlt (jzr m 31) fun m1 => (jlt (jup m1 30 1 0) fun m2 => some m2))
theorem t_X6_init {l : Launch} {G : jG} (hl : l.stackTraces = false) {m : jMu} {r : jMu} (hf : f_X6_init m = some r) : jCt l G yX6_init (.code yX6_init cX6_init 1 none :: jWG) rm_X6_init [jR 30] SK58 m (.inl none) SK60 r := by
  unfold f_X6_init at hf
  refine J_start (ls0 := [(0, jR 30)]) (by decide +kernel) hl (Nat.le_of_ble_eq_true rfl) rfl fun X C hN hn hR hr hnm hno hq => ?_
  have B : jB X cX6_init RX6 1 SK58.length rm_X6_init none := ⟨C, hN, Nat.le_of_eq hn, hR, hr⟩
  refine B_blk B jlkX6_ok jcl_SK58 [.aload_n 0] (by decide +kernel) (ls' := [(0, jR 30)]) (st' := [jR 30]) rfl (p1 := 1) rfl ?_
  refine J_obj B.1 lk_X6_3 in_object co_obj B.2.2.2.1 (Nat.le_of_ble_eq_true rfl) (Nat.le_of_ble_eq_true rfl) (by decide +kernel) ?_
  refine B_blk B jlkX6_ok jcl_SK58 [.aload_n 0, .sipush 400] (by decide +kernel) (ls' := [(0, jR 30)]) (st' := [jI 400, jR 30]) rfl (p1 := 8) rfl ?_
  refine J_newa (S' := SK59) (i := 31) (N := 400) (ak := 0) B.1 jcl_SK58 (by decide) rfl jac_0 rfl (by decide) (Nat.le_trans B.2.2.1 (Nat.le_of_ble_eq_true rfl)) (Nat.le_of_ble_eq_true rfl) B.2.2.2.1 (Nat.le_of_ble_eq_true rfl) (Nat.le_of_ble_eq_true rfl) (by decide +kernel) rfl rfl ?_
  obtain ⟨m1, hm1, hf⟩ := jlt_s hf
  rw [hm1]
  refine K_putR (S' := SK60) B hnm jp_X6_11 rfl rfl (by decide) rfl rfl (by decide +kernel) ?_
  refine B_blk B jlkX6_ok jcl_SK60 [.aload_n 0, .iconst 0] (by decide +kernel) (ls' := [(0, jR 30)]) (st' := [jI 0, jR 30]) rfl (p1 := 15) rfl ?_
  refine K_putI (jI' := 1) B jp_X6_15 rfl rfl rfl (by decide +kernel) ?_
  obtain ⟨m2, hm2, hf⟩ := jlt_s hf
  rw [hm2]
  cases hf
  exact B_retV B hq rfl (Nat.le_of_ble_eq_true rfl) (Nat.le_of_ble_eq_true rfl) (by decide +kernel)

def SK61 : List jSh := [.inl (8, [some none, some none, some none, some none, some none, some none, some none, some none, none, none]), .inl (4, [some (some 4), some (some 6), some (some 8), some (some 10), some (some 12), some (some 14), some (some 16), some (some 18), some (some 20), some (some 22), some (some 24), some (some 2), some (some 26), some (some 28), none, none]), .inl (5, [none, none, some (some 3), none]), .inr (0, 4), .inl (5, [none, none, some (some 5), none]), .inr (0, 80), .inl (5, [none, none, some (some 7), none]), .inr (0, 210), .inl (5, [none, none, some (some 9), none]), .inr (0, 12), .inl (5, [none, none, some (some 11), none]), .inr (0, 10), .inl (5, [none, none, some (some 13), none]), .inr (0, 24), .inl (5, [none, none, some (some 15), none]), .inr (0, 6), .inl (5, [none, none, some (some 17), none]), .inr (0, 160), .inl (5, [none, none, some (some 19), none]), .inr (0, 1600), .inl (5, [none, none, some (some 21), none]), .inr (0, 4), .inl (5, [none, none, some (some 23), none]), .inr (0, 24), .inl (5, [none, none, some (some 25), none]), .inr (0, 320), .inl (5, [none, none, some (some 27), none]), .inr (0, 120), .inl (5, [none, none, some (some 29), none]), .inr (0, 60), .inl (6, [some (some 31), none]), .inr (0, 400), .inl (1, [some none, none, none, none, none, none, none, none, none, none, none])]
theorem jcl_SK61 : jcl SK61 := jcl_of (by decide +kernel)

def SK62 : List jSh := [.inl (8, [some none, some none, some none, some none, some none, some none, some none, some none, none, none]), .inl (4, [some (some 4), some (some 6), some (some 8), some (some 10), some (some 12), some (some 14), some (some 16), some (some 18), some (some 20), some (some 22), some (some 24), some (some 2), some (some 26), some (some 28), none, none]), .inl (5, [none, none, some (some 3), none]), .inr (0, 4), .inl (5, [none, none, some (some 5), none]), .inr (0, 80), .inl (5, [none, none, some (some 7), none]), .inr (0, 210), .inl (5, [none, none, some (some 9), none]), .inr (0, 12), .inl (5, [none, none, some (some 11), none]), .inr (0, 10), .inl (5, [none, none, some (some 13), none]), .inr (0, 24), .inl (5, [none, none, some (some 15), none]), .inr (0, 6), .inl (5, [none, none, some (some 17), none]), .inr (0, 160), .inl (5, [none, none, some (some 19), none]), .inr (0, 1600), .inl (5, [none, none, some (some 21), none]), .inr (0, 4), .inl (5, [none, none, some (some 23), none]), .inr (0, 24), .inl (5, [none, none, some (some 25), none]), .inr (0, 320), .inl (5, [none, none, some (some 27), none]), .inr (0, 120), .inl (5, [none, none, some (some 29), none]), .inr (0, 60), .inl (6, [some (some 31), none]), .inr (0, 400), .inl (1, [some (some 1), none, none, none, none, none, none, none, none, none, none])]
theorem jcl_SK62 : jcl SK62 := jcl_of (by decide +kernel)

def rm_X1_init : Room := { frames := 3, cells := 0, slots := 0, locals := 64 }
def f_X1_init (m : jMu) : Option jMu :=
  some m
theorem t_X1_init {l : Launch} {G : jG} (hl : l.stackTraces = false) {m : jMu} {r : jMu} (hf : f_X1_init m = some r) : jCt l G yX1_init (.code yX1_init cX1_init 2 none :: jWG) rm_X1_init [jR 32, jR 1] SK61 m (.inl none) SK62 r := by
  unfold f_X1_init at hf
  refine J_start (ls0 := [(0, jR 32), (1, jR 1)]) (by decide +kernel) hl (Nat.le_of_ble_eq_true rfl) rfl fun X C hN hn hR hr hnm hno hq => ?_
  have B : jB X cX1_init RX1 2 SK61.length rm_X1_init none := ⟨C, hN, Nat.le_of_eq hn, hR, hr⟩
  refine B_blk B jlkX1_ok jcl_SK61 [.aload_n 0] (by decide +kernel) (ls' := [(0, jR 32), (1, jR 1)]) (st' := [jR 32]) rfl (p1 := 1) rfl ?_
  refine J_obj B.1 lk_X1_3 in_object co_obj B.2.2.2.1 (Nat.le_of_ble_eq_true rfl) (Nat.le_of_ble_eq_true rfl) (by decide +kernel) ?_
  refine B_blk B jlkX1_ok jcl_SK61 [.aload_n 0, .aload_n 1] (by decide +kernel) (ls' := [(0, jR 32), (1, jR 1)]) (st' := [jR 1, jR 32]) rfl (p1 := 6) rfl ?_
  refine K_putR (S' := SK62) B hnm jp_X1_9 rfl rfl (by decide) rfl rfl (by decide +kernel) ?_
  cases hf
  exact B_retV B hq rfl (Nat.le_of_ble_eq_true rfl) (Nat.le_of_ble_eq_true rfl) (by decide +kernel)

def SK63 : List jSh := [.inl (8, [some (some 1), some none, some none, some none, some none, some none, some none, some none, none, none]), .inl (4, [some (some 4), some (some 6), some (some 8), some (some 10), some (some 12), some (some 14), some (some 16), some (some 18), some (some 20), some (some 22), some (some 24), some (some 2), some (some 26), some (some 28), none, none]), .inl (5, [none, none, some (some 3), none]), .inr (0, 4), .inl (5, [none, none, some (some 5), none]), .inr (0, 80), .inl (5, [none, none, some (some 7), none]), .inr (0, 210), .inl (5, [none, none, some (some 9), none]), .inr (0, 12), .inl (5, [none, none, some (some 11), none]), .inr (0, 10), .inl (5, [none, none, some (some 13), none]), .inr (0, 24), .inl (5, [none, none, some (some 15), none]), .inr (0, 6), .inl (5, [none, none, some (some 17), none]), .inr (0, 160), .inl (5, [none, none, some (some 19), none]), .inr (0, 1600), .inl (5, [none, none, some (some 21), none]), .inr (0, 4), .inl (5, [none, none, some (some 23), none]), .inr (0, 24), .inl (5, [none, none, some (some 25), none]), .inr (0, 320), .inl (5, [none, none, some (some 27), none]), .inr (0, 120), .inl (5, [none, none, some (some 29), none]), .inr (0, 60), .inl (6, [some (some 31), none]), .inr (0, 400), .inl (1, [some (some 1), none, none, none, none, none, none, none, none, none, none])]
theorem jcl_SK63 : jcl SK63 := jcl_of (by decide +kernel)

def SK64 : List jSh := [.inl (8, [some (some 1), some none, some none, some none, some none, some none, some none, some none, none, none]), .inl (4, [some (some 4), some (some 6), some (some 8), some (some 10), some (some 12), some (some 14), some (some 16), some (some 18), some (some 20), some (some 22), some (some 24), some (some 2), some (some 26), some (some 28), none, none]), .inl (5, [none, none, some (some 3), none]), .inr (0, 4), .inl (5, [none, none, some (some 5), none]), .inr (0, 80), .inl (5, [none, none, some (some 7), none]), .inr (0, 210), .inl (5, [none, none, some (some 9), none]), .inr (0, 12), .inl (5, [none, none, some (some 11), none]), .inr (0, 10), .inl (5, [none, none, some (some 13), none]), .inr (0, 24), .inl (5, [none, none, some (some 15), none]), .inr (0, 6), .inl (5, [none, none, some (some 17), none]), .inr (0, 160), .inl (5, [none, none, some (some 19), none]), .inr (0, 1600), .inl (5, [none, none, some (some 21), none]), .inr (0, 4), .inl (5, [none, none, some (some 23), none]), .inr (0, 24), .inl (5, [none, none, some (some 25), none]), .inr (0, 320), .inl (5, [none, none, some (some 27), none]), .inr (0, 120), .inl (5, [none, none, some (some 29), none]), .inr (0, 60), .inl (6, [some (some 31), none]), .inr (0, 400), .inl (1, [some (some 1), none, none, none, none, none, none, none, none, none, none]), .inl (4, [some none, some none, some none, some none, some none, some none, some none, some none, some none, some none, some none, some none, some none, some none, none, none])]
theorem jcl_SK64 : jcl SK64 := jcl_of (by decide +kernel)

def SK65 : List jSh := [.inl (8, [some (some 1), some none, some none, some none, some none, some none, some none, some none, none, none]), .inl (4, [some (some 4), some (some 6), some (some 8), some (some 10), some (some 12), some (some 14), some (some 16), some (some 18), some (some 20), some (some 22), some (some 24), some (some 2), some (some 26), some (some 28), none, none]), .inl (5, [none, none, some (some 3), none]), .inr (0, 4), .inl (5, [none, none, some (some 5), none]), .inr (0, 80), .inl (5, [none, none, some (some 7), none]), .inr (0, 210), .inl (5, [none, none, some (some 9), none]), .inr (0, 12), .inl (5, [none, none, some (some 11), none]), .inr (0, 10), .inl (5, [none, none, some (some 13), none]), .inr (0, 24), .inl (5, [none, none, some (some 15), none]), .inr (0, 6), .inl (5, [none, none, some (some 17), none]), .inr (0, 160), .inl (5, [none, none, some (some 19), none]), .inr (0, 1600), .inl (5, [none, none, some (some 21), none]), .inr (0, 4), .inl (5, [none, none, some (some 23), none]), .inr (0, 24), .inl (5, [none, none, some (some 25), none]), .inr (0, 320), .inl (5, [none, none, some (some 27), none]), .inr (0, 120), .inl (5, [none, none, some (some 29), none]), .inr (0, 60), .inl (6, [some (some 31), none]), .inr (0, 400), .inl (1, [some (some 1), none, none, none, none, none, none, none, none, none, none]), .inl (4, [some none, some none, some none, some none, some none, some none, some none, some none, some none, some none, some none, some none, some none, some none, none, none]), .inl (5, [none, none, some none, none])]
theorem jcl_SK65 : jcl SK65 := jcl_of (by decide +kernel)

def SK66 : List jSh := [.inl (8, [some (some 1), some none, some none, some none, some none, some none, some none, some none, none, none]), .inl (4, [some (some 4), some (some 6), some (some 8), some (some 10), some (some 12), some (some 14), some (some 16), some (some 18), some (some 20), some (some 22), some (some 24), some (some 2), some (some 26), some (some 28), none, none]), .inl (5, [none, none, some (some 3), none]), .inr (0, 4), .inl (5, [none, none, some (some 5), none]), .inr (0, 80), .inl (5, [none, none, some (some 7), none]), .inr (0, 210), .inl (5, [none, none, some (some 9), none]), .inr (0, 12), .inl (5, [none, none, some (some 11), none]), .inr (0, 10), .inl (5, [none, none, some (some 13), none]), .inr (0, 24), .inl (5, [none, none, some (some 15), none]), .inr (0, 6), .inl (5, [none, none, some (some 17), none]), .inr (0, 160), .inl (5, [none, none, some (some 19), none]), .inr (0, 1600), .inl (5, [none, none, some (some 21), none]), .inr (0, 4), .inl (5, [none, none, some (some 23), none]), .inr (0, 24), .inl (5, [none, none, some (some 25), none]), .inr (0, 320), .inl (5, [none, none, some (some 27), none]), .inr (0, 120), .inl (5, [none, none, some (some 29), none]), .inr (0, 60), .inl (6, [some (some 31), none]), .inr (0, 400), .inl (1, [some (some 1), none, none, none, none, none, none, none, none, none, none]), .inl (4, [some none, some none, some none, some none, some none, some none, some none, some none, some none, some none, some none, some none, some none, some none, none, none]), .inl (5, [none, none, some none, none]), .inr (0, 4)]
theorem jcl_SK66 : jcl SK66 := jcl_of (by decide +kernel)

def SK67 : List jSh := [.inl (8, [some (some 1), some none, some none, some none, some none, some none, some none, some none, none, none]), .inl (4, [some (some 4), some (some 6), some (some 8), some (some 10), some (some 12), some (some 14), some (some 16), some (some 18), some (some 20), some (some 22), some (some 24), some (some 2), some (some 26), some (some 28), none, none]), .inl (5, [none, none, some (some 3), none]), .inr (0, 4), .inl (5, [none, none, some (some 5), none]), .inr (0, 80), .inl (5, [none, none, some (some 7), none]), .inr (0, 210), .inl (5, [none, none, some (some 9), none]), .inr (0, 12), .inl (5, [none, none, some (some 11), none]), .inr (0, 10), .inl (5, [none, none, some (some 13), none]), .inr (0, 24), .inl (5, [none, none, some (some 15), none]), .inr (0, 6), .inl (5, [none, none, some (some 17), none]), .inr (0, 160), .inl (5, [none, none, some (some 19), none]), .inr (0, 1600), .inl (5, [none, none, some (some 21), none]), .inr (0, 4), .inl (5, [none, none, some (some 23), none]), .inr (0, 24), .inl (5, [none, none, some (some 25), none]), .inr (0, 320), .inl (5, [none, none, some (some 27), none]), .inr (0, 120), .inl (5, [none, none, some (some 29), none]), .inr (0, 60), .inl (6, [some (some 31), none]), .inr (0, 400), .inl (1, [some (some 1), none, none, none, none, none, none, none, none, none, none]), .inl (4, [some none, some none, some none, some none, some none, some none, some none, some none, some none, some none, some none, some none, some none, some none, none, none]), .inl (5, [none, none, some (some 35), none]), .inr (0, 4)]
theorem jcl_SK67 : jcl SK67 := jcl_of (by decide +kernel)

def rm_X5_init_15 : Room := { frames := 3, cells := 1, slots := 4, locals := 64 }
def f_X5_init_15 (m : jMu) : Option jMu :=
  (jlt (jup m 34 0 2) fun m1 => (jlt (jup m1 34 1 2) fun m2 => (jlt (jzr m2 35) fun m3 => (jlt (jup m3 34 3 0) fun m4 => some m4))))
theorem t_X5_init_15 {l : Launch} {G : jG} (hl : l.stackTraces = false) {m : jMu} {r : jMu} (hf : f_X5_init_15 m = some r) : jCt l G yX5_init (.code yX5_init cX5_init 4 none :: jWG) rm_X5_init_15 [jR 34, jI 2, jI 2] SK65 m (.inl none) SK67 r := by
  unfold f_X5_init_15 at hf
  refine J_start (ls0 := [(0, jR 34), (1, jI 2), (2, jI 2)]) (by decide +kernel) hl (Nat.le_of_ble_eq_true rfl) rfl fun X C hN hn hR hr hnm hno hq => ?_
  have B : jB X cX5_init RX5 4 SK65.length rm_X5_init_15 none := ⟨C, hN, Nat.le_of_eq hn, hR, hr⟩
  refine B_blk B jlkX5_ok jcl_SK65 [.aload_n 0] (by decide +kernel) (ls' := [(0, jR 34), (1, jI 2), (2, jI 2)]) (st' := [jR 34]) rfl (p1 := 1) rfl ?_
  refine J_obj B.1 lk_X5_3 in_object co_obj B.2.2.2.1 (Nat.le_of_ble_eq_true rfl) (Nat.le_of_ble_eq_true rfl) (by decide +kernel) ?_
  refine B_blk B jlkX5_ok jcl_SK65 [.iload_n 1, .iload_n 2, .imul, .istore_n 3, .aload_n 0, .iload_n 1] (by decide +kernel) (ls' := [(0, jR 34), (1, jI 2), (2, jI 2), (3, jI 4)]) (st' := [jI 2, jR 34]) rfl (p1 := 10) rfl ?_
  refine K_putF (jI' := 0) B hnm jp_X5_9 rfl rfl rfl (by decide +kernel) ?_
  obtain ⟨m1, hm1, hf⟩ := jlt_s hf
  rw [hm1]
  refine B_blk B jlkX5_ok jcl_SK65 [.aload_n 0, .iload_n 2] (by decide +kernel) (ls' := [(0, jR 34), (1, jI 2), (2, jI 2), (3, jI 4)]) (st' := [jI 2, jR 34]) rfl (p1 := 15) rfl ?_
  refine K_putF (jI' := 1) B hnm jp_X5_15 rfl rfl rfl (by decide +kernel) ?_
  obtain ⟨m2, hm2, hf⟩ := jlt_s hf
  rw [hm2]
  refine B_blk B jlkX5_ok jcl_SK65 [.aload_n 0, .iload_n 3] (by decide +kernel) (ls' := [(0, jR 34), (1, jI 2), (2, jI 2), (3, jI 4)]) (st' := [jI 4, jR 34]) rfl (p1 := 20) rfl ?_
  refine J_if_le (T := none) (F := some ()) (r := ()) B.1 (off := 7) (tgt := 27) (by decide +kernel) (by decide) (if_neg (by decide)) (fun h => nomatch h) (fun _ => ?_)
  refine B_blk B jlkX5_ok jcl_SK65 [.iload_n 3, .goto 4] (by decide +kernel) (ls' := [(0, jR 34), (1, jI 2), (2, jI 2), (3, jI 4)]) (st' := [jI 4, jR 34]) rfl (p1 := 28) rfl ?_
  refine J_newa (S' := SK66) (i := 35) (N := 4) (ak := 0) B.1 jcl_SK65 (by decide) rfl jac_0 rfl (by decide) (Nat.le_trans B.2.2.1 (Nat.le_of_ble_eq_true rfl)) (Nat.le_of_ble_eq_true rfl) B.2.2.2.1 (Nat.le_of_ble_eq_true rfl) (Nat.le_of_ble_eq_true rfl) (by decide +kernel) rfl rfl ?_
  obtain ⟨m3, hm3, hf⟩ := jlt_s hf
  rw [hm3]
  refine K_putR (S' := SK67) B hnm jp_X5_18 rfl rfl (by decide) rfl rfl (by decide +kernel) ?_
  refine B_blk B jlkX5_ok jcl_SK67 [.aload_n 0, .iconst 0] (by decide +kernel) (ls' := [(0, jR 34), (1, jI 2), (2, jI 2), (3, jI 4)]) (st' := [jI 0, jR 34]) rfl (p1 := 35) rfl ?_
  refine K_putI (jI' := 3) B jp_X5_22 rfl rfl rfl (by decide +kernel) ?_
  obtain ⟨m4, hm4, hf⟩ := jlt_s hf
  rw [hm4]
  cases hf
  exact B_retV B hq rfl (Nat.le_of_ble_eq_true rfl) (Nat.le_of_ble_eq_true rfl) (by decide +kernel)

def SK68 : List jSh := [.inl (8, [some (some 1), some none, some none, some none, some none, some none, some none, some none, none, none]), .inl (4, [some (some 4), some (some 6), some (some 8), some (some 10), some (some 12), some (some 14), some (some 16), some (some 18), some (some 20), some (some 22), some (some 24), some (some 2), some (some 26), some (some 28), none, none]), .inl (5, [none, none, some (some 3), none]), .inr (0, 4), .inl (5, [none, none, some (some 5), none]), .inr (0, 80), .inl (5, [none, none, some (some 7), none]), .inr (0, 210), .inl (5, [none, none, some (some 9), none]), .inr (0, 12), .inl (5, [none, none, some (some 11), none]), .inr (0, 10), .inl (5, [none, none, some (some 13), none]), .inr (0, 24), .inl (5, [none, none, some (some 15), none]), .inr (0, 6), .inl (5, [none, none, some (some 17), none]), .inr (0, 160), .inl (5, [none, none, some (some 19), none]), .inr (0, 1600), .inl (5, [none, none, some (some 21), none]), .inr (0, 4), .inl (5, [none, none, some (some 23), none]), .inr (0, 24), .inl (5, [none, none, some (some 25), none]), .inr (0, 320), .inl (5, [none, none, some (some 27), none]), .inr (0, 120), .inl (5, [none, none, some (some 29), none]), .inr (0, 60), .inl (6, [some (some 31), none]), .inr (0, 400), .inl (1, [some (some 1), none, none, none, none, none, none, none, none, none, none]), .inl (4, [some none, some none, some none, some none, some none, some none, some none, some none, some none, some none, some none, some none, some none, some none, none, none]), .inl (5, [none, none, some (some 35), none]), .inr (0, 4), .inl (5, [none, none, some none, none])]
theorem jcl_SK68 : jcl SK68 := jcl_of (by decide +kernel)

def SK69 : List jSh := [.inl (8, [some (some 1), some none, some none, some none, some none, some none, some none, some none, none, none]), .inl (4, [some (some 4), some (some 6), some (some 8), some (some 10), some (some 12), some (some 14), some (some 16), some (some 18), some (some 20), some (some 22), some (some 24), some (some 2), some (some 26), some (some 28), none, none]), .inl (5, [none, none, some (some 3), none]), .inr (0, 4), .inl (5, [none, none, some (some 5), none]), .inr (0, 80), .inl (5, [none, none, some (some 7), none]), .inr (0, 210), .inl (5, [none, none, some (some 9), none]), .inr (0, 12), .inl (5, [none, none, some (some 11), none]), .inr (0, 10), .inl (5, [none, none, some (some 13), none]), .inr (0, 24), .inl (5, [none, none, some (some 15), none]), .inr (0, 6), .inl (5, [none, none, some (some 17), none]), .inr (0, 160), .inl (5, [none, none, some (some 19), none]), .inr (0, 1600), .inl (5, [none, none, some (some 21), none]), .inr (0, 4), .inl (5, [none, none, some (some 23), none]), .inr (0, 24), .inl (5, [none, none, some (some 25), none]), .inr (0, 320), .inl (5, [none, none, some (some 27), none]), .inr (0, 120), .inl (5, [none, none, some (some 29), none]), .inr (0, 60), .inl (6, [some (some 31), none]), .inr (0, 400), .inl (1, [some (some 1), none, none, none, none, none, none, none, none, none, none]), .inl (4, [some none, some none, some none, some none, some none, some none, some none, some none, some none, some none, some none, some none, some none, some none, none, none]), .inl (5, [none, none, some (some 35), none]), .inr (0, 4), .inl (5, [none, none, some none, none]), .inr (0, 80)]
theorem jcl_SK69 : jcl SK69 := jcl_of (by decide +kernel)

def SK70 : List jSh := [.inl (8, [some (some 1), some none, some none, some none, some none, some none, some none, some none, none, none]), .inl (4, [some (some 4), some (some 6), some (some 8), some (some 10), some (some 12), some (some 14), some (some 16), some (some 18), some (some 20), some (some 22), some (some 24), some (some 2), some (some 26), some (some 28), none, none]), .inl (5, [none, none, some (some 3), none]), .inr (0, 4), .inl (5, [none, none, some (some 5), none]), .inr (0, 80), .inl (5, [none, none, some (some 7), none]), .inr (0, 210), .inl (5, [none, none, some (some 9), none]), .inr (0, 12), .inl (5, [none, none, some (some 11), none]), .inr (0, 10), .inl (5, [none, none, some (some 13), none]), .inr (0, 24), .inl (5, [none, none, some (some 15), none]), .inr (0, 6), .inl (5, [none, none, some (some 17), none]), .inr (0, 160), .inl (5, [none, none, some (some 19), none]), .inr (0, 1600), .inl (5, [none, none, some (some 21), none]), .inr (0, 4), .inl (5, [none, none, some (some 23), none]), .inr (0, 24), .inl (5, [none, none, some (some 25), none]), .inr (0, 320), .inl (5, [none, none, some (some 27), none]), .inr (0, 120), .inl (5, [none, none, some (some 29), none]), .inr (0, 60), .inl (6, [some (some 31), none]), .inr (0, 400), .inl (1, [some (some 1), none, none, none, none, none, none, none, none, none, none]), .inl (4, [some none, some none, some none, some none, some none, some none, some none, some none, some none, some none, some none, some none, some none, some none, none, none]), .inl (5, [none, none, some (some 35), none]), .inr (0, 4), .inl (5, [none, none, some (some 37), none]), .inr (0, 80)]
theorem jcl_SK70 : jcl SK70 := jcl_of (by decide +kernel)

def rm_X5_init_16 : Room := { frames := 3, cells := 1, slots := 80, locals := 64 }
def f_X5_init_16 (m : jMu) : Option jMu :=
  (jlt (jup m 36 0 8) fun m1 => (jlt (jup m1 36 1 10) fun m2 => (jlt (jzr m2 37) fun m3 => (jlt (jup m3 36 3 0) fun m4 => some m4))))
theorem t_X5_init_16 {l : Launch} {G : jG} (hl : l.stackTraces = false) {m : jMu} {r : jMu} (hf : f_X5_init_16 m = some r) : jCt l G yX5_init (.code yX5_init cX5_init 4 none :: jWG) rm_X5_init_16 [jR 36, jI 8, jI 10] SK68 m (.inl none) SK70 r := by
  unfold f_X5_init_16 at hf
  refine J_start (ls0 := [(0, jR 36), (1, jI 8), (2, jI 10)]) (by decide +kernel) hl (Nat.le_of_ble_eq_true rfl) rfl fun X C hN hn hR hr hnm hno hq => ?_
  have B : jB X cX5_init RX5 4 SK68.length rm_X5_init_16 none := ⟨C, hN, Nat.le_of_eq hn, hR, hr⟩
  refine B_blk B jlkX5_ok jcl_SK68 [.aload_n 0] (by decide +kernel) (ls' := [(0, jR 36), (1, jI 8), (2, jI 10)]) (st' := [jR 36]) rfl (p1 := 1) rfl ?_
  refine J_obj B.1 lk_X5_3 in_object co_obj B.2.2.2.1 (Nat.le_of_ble_eq_true rfl) (Nat.le_of_ble_eq_true rfl) (by decide +kernel) ?_
  refine B_blk B jlkX5_ok jcl_SK68 [.iload_n 1, .iload_n 2, .imul, .istore_n 3, .aload_n 0, .iload_n 1] (by decide +kernel) (ls' := [(0, jR 36), (1, jI 8), (2, jI 10), (3, jI 80)]) (st' := [jI 8, jR 36]) rfl (p1 := 10) rfl ?_
  refine K_putF (jI' := 0) B hnm jp_X5_9 rfl rfl rfl (by decide +kernel) ?_
  obtain ⟨m1, hm1, hf⟩ := jlt_s hf
  rw [hm1]
  refine B_blk B jlkX5_ok jcl_SK68 [.aload_n 0, .iload_n 2] (by decide +kernel) (ls' := [(0, jR 36), (1, jI 8), (2, jI 10), (3, jI 80)]) (st' := [jI 10, jR 36]) rfl (p1 := 15) rfl ?_
  refine K_putF (jI' := 1) B hnm jp_X5_15 rfl rfl rfl (by decide +kernel) ?_
  obtain ⟨m2, hm2, hf⟩ := jlt_s hf
  rw [hm2]
  refine B_blk B jlkX5_ok jcl_SK68 [.aload_n 0, .iload_n 3] (by decide +kernel) (ls' := [(0, jR 36), (1, jI 8), (2, jI 10), (3, jI 80)]) (st' := [jI 80, jR 36]) rfl (p1 := 20) rfl ?_
  refine J_if_le (T := none) (F := some ()) (r := ()) B.1 (off := 7) (tgt := 27) (by decide +kernel) (by decide) (if_neg (by decide)) (fun h => nomatch h) (fun _ => ?_)
  refine B_blk B jlkX5_ok jcl_SK68 [.iload_n 3, .goto 4] (by decide +kernel) (ls' := [(0, jR 36), (1, jI 8), (2, jI 10), (3, jI 80)]) (st' := [jI 80, jR 36]) rfl (p1 := 28) rfl ?_
  refine J_newa (S' := SK69) (i := 37) (N := 80) (ak := 0) B.1 jcl_SK68 (by decide) rfl jac_0 rfl (by decide) (Nat.le_trans B.2.2.1 (Nat.le_of_ble_eq_true rfl)) (Nat.le_of_ble_eq_true rfl) B.2.2.2.1 (Nat.le_of_ble_eq_true rfl) (Nat.le_of_ble_eq_true rfl) (by decide +kernel) rfl rfl ?_
  obtain ⟨m3, hm3, hf⟩ := jlt_s hf
  rw [hm3]
  refine K_putR (S' := SK70) B hnm jp_X5_18 rfl rfl (by decide) rfl rfl (by decide +kernel) ?_
  refine B_blk B jlkX5_ok jcl_SK70 [.aload_n 0, .iconst 0] (by decide +kernel) (ls' := [(0, jR 36), (1, jI 8), (2, jI 10), (3, jI 80)]) (st' := [jI 0, jR 36]) rfl (p1 := 35) rfl ?_
  refine K_putI (jI' := 3) B jp_X5_22 rfl rfl rfl (by decide +kernel) ?_
  obtain ⟨m4, hm4, hf⟩ := jlt_s hf
  rw [hm4]
  cases hf
  exact B_retV B hq rfl (Nat.le_of_ble_eq_true rfl) (Nat.le_of_ble_eq_true rfl) (by decide +kernel)

def SK71 : List jSh := [.inl (8, [some (some 1), some none, some none, some none, some none, some none, some none, some none, none, none]), .inl (4, [some (some 4), some (some 6), some (some 8), some (some 10), some (some 12), some (some 14), some (some 16), some (some 18), some (some 20), some (some 22), some (some 24), some (some 2), some (some 26), some (some 28), none, none]), .inl (5, [none, none, some (some 3), none]), .inr (0, 4), .inl (5, [none, none, some (some 5), none]), .inr (0, 80), .inl (5, [none, none, some (some 7), none]), .inr (0, 210), .inl (5, [none, none, some (some 9), none]), .inr (0, 12), .inl (5, [none, none, some (some 11), none]), .inr (0, 10), .inl (5, [none, none, some (some 13), none]), .inr (0, 24), .inl (5, [none, none, some (some 15), none]), .inr (0, 6), .inl (5, [none, none, some (some 17), none]), .inr (0, 160), .inl (5, [none, none, some (some 19), none]), .inr (0, 1600), .inl (5, [none, none, some (some 21), none]), .inr (0, 4), .inl (5, [none, none, some (some 23), none]), .inr (0, 24), .inl (5, [none, none, some (some 25), none]), .inr (0, 320), .inl (5, [none, none, some (some 27), none]), .inr (0, 120), .inl (5, [none, none, some (some 29), none]), .inr (0, 60), .inl (6, [some (some 31), none]), .inr (0, 400), .inl (1, [some (some 1), none, none, none, none, none, none, none, none, none, none]), .inl (4, [some (some 36), some none, some none, some none, some none, some none, some none, some none, some none, some none, some none, some none, some none, some none, none, none]), .inl (5, [none, none, some (some 35), none]), .inr (0, 4), .inl (5, [none, none, some (some 37), none]), .inr (0, 80)]
theorem jcl_SK71 : jcl SK71 := jcl_of (by decide +kernel)

def SK72 : List jSh := [.inl (8, [some (some 1), some none, some none, some none, some none, some none, some none, some none, none, none]), .inl (4, [some (some 4), some (some 6), some (some 8), some (some 10), some (some 12), some (some 14), some (some 16), some (some 18), some (some 20), some (some 22), some (some 24), some (some 2), some (some 26), some (some 28), none, none]), .inl (5, [none, none, some (some 3), none]), .inr (0, 4), .inl (5, [none, none, some (some 5), none]), .inr (0, 80), .inl (5, [none, none, some (some 7), none]), .inr (0, 210), .inl (5, [none, none, some (some 9), none]), .inr (0, 12), .inl (5, [none, none, some (some 11), none]), .inr (0, 10), .inl (5, [none, none, some (some 13), none]), .inr (0, 24), .inl (5, [none, none, some (some 15), none]), .inr (0, 6), .inl (5, [none, none, some (some 17), none]), .inr (0, 160), .inl (5, [none, none, some (some 19), none]), .inr (0, 1600), .inl (5, [none, none, some (some 21), none]), .inr (0, 4), .inl (5, [none, none, some (some 23), none]), .inr (0, 24), .inl (5, [none, none, some (some 25), none]), .inr (0, 320), .inl (5, [none, none, some (some 27), none]), .inr (0, 120), .inl (5, [none, none, some (some 29), none]), .inr (0, 60), .inl (6, [some (some 31), none]), .inr (0, 400), .inl (1, [some (some 1), none, none, none, none, none, none, none, none, none, none]), .inl (4, [some (some 36), some none, some none, some none, some none, some none, some none, some none, some none, some none, some none, some none, some none, some none, none, none]), .inl (5, [none, none, some (some 35), none]), .inr (0, 4), .inl (5, [none, none, some (some 37), none]), .inr (0, 80), .inl (5, [none, none, some none, none])]
theorem jcl_SK72 : jcl SK72 := jcl_of (by decide +kernel)

def SK73 : List jSh := [.inl (8, [some (some 1), some none, some none, some none, some none, some none, some none, some none, none, none]), .inl (4, [some (some 4), some (some 6), some (some 8), some (some 10), some (some 12), some (some 14), some (some 16), some (some 18), some (some 20), some (some 22), some (some 24), some (some 2), some (some 26), some (some 28), none, none]), .inl (5, [none, none, some (some 3), none]), .inr (0, 4), .inl (5, [none, none, some (some 5), none]), .inr (0, 80), .inl (5, [none, none, some (some 7), none]), .inr (0, 210), .inl (5, [none, none, some (some 9), none]), .inr (0, 12), .inl (5, [none, none, some (some 11), none]), .inr (0, 10), .inl (5, [none, none, some (some 13), none]), .inr (0, 24), .inl (5, [none, none, some (some 15), none]), .inr (0, 6), .inl (5, [none, none, some (some 17), none]), .inr (0, 160), .inl (5, [none, none, some (some 19), none]), .inr (0, 1600), .inl (5, [none, none, some (some 21), none]), .inr (0, 4), .inl (5, [none, none, some (some 23), none]), .inr (0, 24), .inl (5, [none, none, some (some 25), none]), .inr (0, 320), .inl (5, [none, none, some (some 27), none]), .inr (0, 120), .inl (5, [none, none, some (some 29), none]), .inr (0, 60), .inl (6, [some (some 31), none]), .inr (0, 400), .inl (1, [some (some 1), none, none, none, none, none, none, none, none, none, none]), .inl (4, [some (some 36), some none, some none, some none, some none, some none, some none, some none, some none, some none, some none, some none, some none, some none, none, none]), .inl (5, [none, none, some (some 35), none]), .inr (0, 4), .inl (5, [none, none, some (some 37), none]), .inr (0, 80), .inl (5, [none, none, some none, none]), .inr (0, 210)]
theorem jcl_SK73 : jcl SK73 := jcl_of (by decide +kernel)

def SK74 : List jSh := [.inl (8, [some (some 1), some none, some none, some none, some none, some none, some none, some none, none, none]), .inl (4, [some (some 4), some (some 6), some (some 8), some (some 10), some (some 12), some (some 14), some (some 16), some (some 18), some (some 20), some (some 22), some (some 24), some (some 2), some (some 26), some (some 28), none, none]), .inl (5, [none, none, some (some 3), none]), .inr (0, 4), .inl (5, [none, none, some (some 5), none]), .inr (0, 80), .inl (5, [none, none, some (some 7), none]), .inr (0, 210), .inl (5, [none, none, some (some 9), none]), .inr (0, 12), .inl (5, [none, none, some (some 11), none]), .inr (0, 10), .inl (5, [none, none, some (some 13), none]), .inr (0, 24), .inl (5, [none, none, some (some 15), none]), .inr (0, 6), .inl (5, [none, none, some (some 17), none]), .inr (0, 160), .inl (5, [none, none, some (some 19), none]), .inr (0, 1600), .inl (5, [none, none, some (some 21), none]), .inr (0, 4), .inl (5, [none, none, some (some 23), none]), .inr (0, 24), .inl (5, [none, none, some (some 25), none]), .inr (0, 320), .inl (5, [none, none, some (some 27), none]), .inr (0, 120), .inl (5, [none, none, some (some 29), none]), .inr (0, 60), .inl (6, [some (some 31), none]), .inr (0, 400), .inl (1, [some (some 1), none, none, none, none, none, none, none, none, none, none]), .inl (4, [some (some 36), some none, some none, some none, some none, some none, some none, some none, some none, some none, some none, some none, some none, some none, none, none]), .inl (5, [none, none, some (some 35), none]), .inr (0, 4), .inl (5, [none, none, some (some 37), none]), .inr (0, 80), .inl (5, [none, none, some (some 39), none]), .inr (0, 210)]
theorem jcl_SK74 : jcl SK74 := jcl_of (by decide +kernel)

def rm_X5_init_17 : Room := { frames := 3, cells := 1, slots := 210, locals := 64 }
def f_X5_init_17 (m : jMu) : Option jMu :=
  (jlt (jup m 38 0 30) fun m1 => (jlt (jup m1 38 1 7) fun m2 => (jlt (jzr m2 39) fun m3 => (jlt (jup m3 38 3 0) fun m4 => some m4))))
theorem t_X5_init_17 {l : Launch} {G : jG} (hl : l.stackTraces = false) {m : jMu} {r : jMu} (hf : f_X5_init_17 m = some r) : jCt l G yX5_init (.code yX5_init cX5_init 4 none :: jWG) rm_X5_init_17 [jR 38, jI 30, jI 7] SK72 m (.inl none) SK74 r := by
  unfold f_X5_init_17 at hf
  refine J_start (ls0 := [(0, jR 38), (1, jI 30), (2, jI 7)]) (by decide +kernel) hl (Nat.le_of_ble_eq_true rfl) rfl fun X C hN hn hR hr hnm hno hq => ?_
  have B : jB X cX5_init RX5 4 SK72.length rm_X5_init_17 none := ⟨C, hN, Nat.le_of_eq hn, hR, hr⟩
  refine B_blk B jlkX5_ok jcl_SK72 [.aload_n 0] (by decide +kernel) (ls' := [(0, jR 38), (1, jI 30), (2, jI 7)]) (st' := [jR 38]) rfl (p1 := 1) rfl ?_
  refine J_obj B.1 lk_X5_3 in_object co_obj B.2.2.2.1 (Nat.le_of_ble_eq_true rfl) (Nat.le_of_ble_eq_true rfl) (by decide +kernel) ?_
  refine B_blk B jlkX5_ok jcl_SK72 [.iload_n 1, .iload_n 2, .imul, .istore_n 3, .aload_n 0, .iload_n 1] (by decide +kernel) (ls' := [(0, jR 38), (1, jI 30), (2, jI 7), (3, jI 210)]) (st' := [jI 30, jR 38]) rfl (p1 := 10) rfl ?_
  refine K_putF (jI' := 0) B hnm jp_X5_9 rfl rfl rfl (by decide +kernel) ?_
  obtain ⟨m1, hm1, hf⟩ := jlt_s hf
  rw [hm1]
  refine B_blk B jlkX5_ok jcl_SK72 [.aload_n 0, .iload_n 2] (by decide +kernel) (ls' := [(0, jR 38), (1, jI 30), (2, jI 7), (3, jI 210)]) (st' := [jI 7, jR 38]) rfl (p1 := 15) rfl ?_
  refine K_putF (jI' := 1) B hnm jp_X5_15 rfl rfl rfl (by decide +kernel) ?_
  obtain ⟨m2, hm2, hf⟩ := jlt_s hf
  rw [hm2]
  refine B_blk B jlkX5_ok jcl_SK72 [.aload_n 0, .iload_n 3] (by decide +kernel) (ls' := [(0, jR 38), (1, jI 30), (2, jI 7), (3, jI 210)]) (st' := [jI 210, jR 38]) rfl (p1 := 20) rfl ?_
  refine J_if_le (T := none) (F := some ()) (r := ()) B.1 (off := 7) (tgt := 27) (by decide +kernel) (by decide) (if_neg (by decide)) (fun h => nomatch h) (fun _ => ?_)
  refine B_blk B jlkX5_ok jcl_SK72 [.iload_n 3, .goto 4] (by decide +kernel) (ls' := [(0, jR 38), (1, jI 30), (2, jI 7), (3, jI 210)]) (st' := [jI 210, jR 38]) rfl (p1 := 28) rfl ?_
  refine J_newa (S' := SK73) (i := 39) (N := 210) (ak := 0) B.1 jcl_SK72 (by decide) rfl jac_0 rfl (by decide) (Nat.le_trans B.2.2.1 (Nat.le_of_ble_eq_true rfl)) (Nat.le_of_ble_eq_true rfl) B.2.2.2.1 (Nat.le_of_ble_eq_true rfl) (Nat.le_of_ble_eq_true rfl) (by decide +kernel) rfl rfl ?_
  obtain ⟨m3, hm3, hf⟩ := jlt_s hf
  rw [hm3]
  refine K_putR (S' := SK74) B hnm jp_X5_18 rfl rfl (by decide) rfl rfl (by decide +kernel) ?_
  refine B_blk B jlkX5_ok jcl_SK74 [.aload_n 0, .iconst 0] (by decide +kernel) (ls' := [(0, jR 38), (1, jI 30), (2, jI 7), (3, jI 210)]) (st' := [jI 0, jR 38]) rfl (p1 := 35) rfl ?_
  refine K_putI (jI' := 3) B jp_X5_22 rfl rfl rfl (by decide +kernel) ?_
  obtain ⟨m4, hm4, hf⟩ := jlt_s hf
  rw [hm4]
  cases hf
  exact B_retV B hq rfl (Nat.le_of_ble_eq_true rfl) (Nat.le_of_ble_eq_true rfl) (by decide +kernel)

def SK75 : List jSh := [.inl (8, [some (some 1), some none, some none, some none, some none, some none, some none, some none, none, none]), .inl (4, [some (some 4), some (some 6), some (some 8), some (some 10), some (some 12), some (some 14), some (some 16), some (some 18), some (some 20), some (some 22), some (some 24), some (some 2), some (some 26), some (some 28), none, none]), .inl (5, [none, none, some (some 3), none]), .inr (0, 4), .inl (5, [none, none, some (some 5), none]), .inr (0, 80), .inl (5, [none, none, some (some 7), none]), .inr (0, 210), .inl (5, [none, none, some (some 9), none]), .inr (0, 12), .inl (5, [none, none, some (some 11), none]), .inr (0, 10), .inl (5, [none, none, some (some 13), none]), .inr (0, 24), .inl (5, [none, none, some (some 15), none]), .inr (0, 6), .inl (5, [none, none, some (some 17), none]), .inr (0, 160), .inl (5, [none, none, some (some 19), none]), .inr (0, 1600), .inl (5, [none, none, some (some 21), none]), .inr (0, 4), .inl (5, [none, none, some (some 23), none]), .inr (0, 24), .inl (5, [none, none, some (some 25), none]), .inr (0, 320), .inl (5, [none, none, some (some 27), none]), .inr (0, 120), .inl (5, [none, none, some (some 29), none]), .inr (0, 60), .inl (6, [some (some 31), none]), .inr (0, 400), .inl (1, [some (some 1), none, none, none, none, none, none, none, none, none, none]), .inl (4, [some (some 36), some (some 38), some none, some none, some none, some none, some none, some none, some none, some none, some none, some none, some none, some none, none, none]), .inl (5, [none, none, some (some 35), none]), .inr (0, 4), .inl (5, [none, none, some (some 37), none]), .inr (0, 80), .inl (5, [none, none, some (some 39), none]), .inr (0, 210)]
theorem jcl_SK75 : jcl SK75 := jcl_of (by decide +kernel)

def SK76 : List jSh := [.inl (8, [some (some 1), some none, some none, some none, some none, some none, some none, some none, none, none]), .inl (4, [some (some 4), some (some 6), some (some 8), some (some 10), some (some 12), some (some 14), some (some 16), some (some 18), some (some 20), some (some 22), some (some 24), some (some 2), some (some 26), some (some 28), none, none]), .inl (5, [none, none, some (some 3), none]), .inr (0, 4), .inl (5, [none, none, some (some 5), none]), .inr (0, 80), .inl (5, [none, none, some (some 7), none]), .inr (0, 210), .inl (5, [none, none, some (some 9), none]), .inr (0, 12), .inl (5, [none, none, some (some 11), none]), .inr (0, 10), .inl (5, [none, none, some (some 13), none]), .inr (0, 24), .inl (5, [none, none, some (some 15), none]), .inr (0, 6), .inl (5, [none, none, some (some 17), none]), .inr (0, 160), .inl (5, [none, none, some (some 19), none]), .inr (0, 1600), .inl (5, [none, none, some (some 21), none]), .inr (0, 4), .inl (5, [none, none, some (some 23), none]), .inr (0, 24), .inl (5, [none, none, some (some 25), none]), .inr (0, 320), .inl (5, [none, none, some (some 27), none]), .inr (0, 120), .inl (5, [none, none, some (some 29), none]), .inr (0, 60), .inl (6, [some (some 31), none]), .inr (0, 400), .inl (1, [some (some 1), none, none, none, none, none, none, none, none, none, none]), .inl (4, [some (some 36), some (some 38), some none, some none, some none, some none, some none, some none, some none, some none, some none, some none, some none, some none, none, none]), .inl (5, [none, none, some (some 35), none]), .inr (0, 4), .inl (5, [none, none, some (some 37), none]), .inr (0, 80), .inl (5, [none, none, some (some 39), none]), .inr (0, 210), .inl (5, [none, none, some none, none])]
theorem jcl_SK76 : jcl SK76 := jcl_of (by decide +kernel)

def SK77 : List jSh := [.inl (8, [some (some 1), some none, some none, some none, some none, some none, some none, some none, none, none]), .inl (4, [some (some 4), some (some 6), some (some 8), some (some 10), some (some 12), some (some 14), some (some 16), some (some 18), some (some 20), some (some 22), some (some 24), some (some 2), some (some 26), some (some 28), none, none]), .inl (5, [none, none, some (some 3), none]), .inr (0, 4), .inl (5, [none, none, some (some 5), none]), .inr (0, 80), .inl (5, [none, none, some (some 7), none]), .inr (0, 210), .inl (5, [none, none, some (some 9), none]), .inr (0, 12), .inl (5, [none, none, some (some 11), none]), .inr (0, 10), .inl (5, [none, none, some (some 13), none]), .inr (0, 24), .inl (5, [none, none, some (some 15), none]), .inr (0, 6), .inl (5, [none, none, some (some 17), none]), .inr (0, 160), .inl (5, [none, none, some (some 19), none]), .inr (0, 1600), .inl (5, [none, none, some (some 21), none]), .inr (0, 4), .inl (5, [none, none, some (some 23), none]), .inr (0, 24), .inl (5, [none, none, some (some 25), none]), .inr (0, 320), .inl (5, [none, none, some (some 27), none]), .inr (0, 120), .inl (5, [none, none, some (some 29), none]), .inr (0, 60), .inl (6, [some (some 31), none]), .inr (0, 400), .inl (1, [some (some 1), none, none, none, none, none, none, none, none, none, none]), .inl (4, [some (some 36), some (some 38), some none, some none, some none, some none, some none, some none, some none, some none, some none, some none, some none, some none, none, none]), .inl (5, [none, none, some (some 35), none]), .inr (0, 4), .inl (5, [none, none, some (some 37), none]), .inr (0, 80), .inl (5, [none, none, some (some 39), none]), .inr (0, 210), .inl (5, [none, none, some none, none]), .inr (0, 12)]
theorem jcl_SK77 : jcl SK77 := jcl_of (by decide +kernel)

def SK78 : List jSh := [.inl (8, [some (some 1), some none, some none, some none, some none, some none, some none, some none, none, none]), .inl (4, [some (some 4), some (some 6), some (some 8), some (some 10), some (some 12), some (some 14), some (some 16), some (some 18), some (some 20), some (some 22), some (some 24), some (some 2), some (some 26), some (some 28), none, none]), .inl (5, [none, none, some (some 3), none]), .inr (0, 4), .inl (5, [none, none, some (some 5), none]), .inr (0, 80), .inl (5, [none, none, some (some 7), none]), .inr (0, 210), .inl (5, [none, none, some (some 9), none]), .inr (0, 12), .inl (5, [none, none, some (some 11), none]), .inr (0, 10), .inl (5, [none, none, some (some 13), none]), .inr (0, 24), .inl (5, [none, none, some (some 15), none]), .inr (0, 6), .inl (5, [none, none, some (some 17), none]), .inr (0, 160), .inl (5, [none, none, some (some 19), none]), .inr (0, 1600), .inl (5, [none, none, some (some 21), none]), .inr (0, 4), .inl (5, [none, none, some (some 23), none]), .inr (0, 24), .inl (5, [none, none, some (some 25), none]), .inr (0, 320), .inl (5, [none, none, some (some 27), none]), .inr (0, 120), .inl (5, [none, none, some (some 29), none]), .inr (0, 60), .inl (6, [some (some 31), none]), .inr (0, 400), .inl (1, [some (some 1), none, none, none, none, none, none, none, none, none, none]), .inl (4, [some (some 36), some (some 38), some none, some none, some none, some none, some none, some none, some none, some none, some none, some none, some none, some none, none, none]), .inl (5, [none, none, some (some 35), none]), .inr (0, 4), .inl (5, [none, none, some (some 37), none]), .inr (0, 80), .inl (5, [none, none, some (some 39), none]), .inr (0, 210), .inl (5, [none, none, some (some 41), none]), .inr (0, 12)]
theorem jcl_SK78 : jcl SK78 := jcl_of (by decide +kernel)

def rm_X5_init_18 : Room := { frames := 3, cells := 1, slots := 12, locals := 64 }
def f_X5_init_18 (m : jMu) : Option jMu :=
  (jlt (jup m 40 0 6) fun m1 => (jlt (jup m1 40 1 2) fun m2 => (jlt (jzr m2 41) fun m3 => (jlt (jup m3 40 3 0) fun m4 => some m4))))
theorem t_X5_init_18 {l : Launch} {G : jG} (hl : l.stackTraces = false) {m : jMu} {r : jMu} (hf : f_X5_init_18 m = some r) : jCt l G yX5_init (.code yX5_init cX5_init 4 none :: jWG) rm_X5_init_18 [jR 40, jI 6, jI 2] SK76 m (.inl none) SK78 r := by
  unfold f_X5_init_18 at hf
  refine J_start (ls0 := [(0, jR 40), (1, jI 6), (2, jI 2)]) (by decide +kernel) hl (Nat.le_of_ble_eq_true rfl) rfl fun X C hN hn hR hr hnm hno hq => ?_
  have B : jB X cX5_init RX5 4 SK76.length rm_X5_init_18 none := ⟨C, hN, Nat.le_of_eq hn, hR, hr⟩
  refine B_blk B jlkX5_ok jcl_SK76 [.aload_n 0] (by decide +kernel) (ls' := [(0, jR 40), (1, jI 6), (2, jI 2)]) (st' := [jR 40]) rfl (p1 := 1) rfl ?_
  refine J_obj B.1 lk_X5_3 in_object co_obj B.2.2.2.1 (Nat.le_of_ble_eq_true rfl) (Nat.le_of_ble_eq_true rfl) (by decide +kernel) ?_
  refine B_blk B jlkX5_ok jcl_SK76 [.iload_n 1, .iload_n 2, .imul, .istore_n 3, .aload_n 0, .iload_n 1] (by decide +kernel) (ls' := [(0, jR 40), (1, jI 6), (2, jI 2), (3, jI 12)]) (st' := [jI 6, jR 40]) rfl (p1 := 10) rfl ?_
  refine K_putF (jI' := 0) B hnm jp_X5_9 rfl rfl rfl (by decide +kernel) ?_
  obtain ⟨m1, hm1, hf⟩ := jlt_s hf
  rw [hm1]
  refine B_blk B jlkX5_ok jcl_SK76 [.aload_n 0, .iload_n 2] (by decide +kernel) (ls' := [(0, jR 40), (1, jI 6), (2, jI 2), (3, jI 12)]) (st' := [jI 2, jR 40]) rfl (p1 := 15) rfl ?_
  refine K_putF (jI' := 1) B hnm jp_X5_15 rfl rfl rfl (by decide +kernel) ?_
  obtain ⟨m2, hm2, hf⟩ := jlt_s hf
  rw [hm2]
  refine B_blk B jlkX5_ok jcl_SK76 [.aload_n 0, .iload_n 3] (by decide +kernel) (ls' := [(0, jR 40), (1, jI 6), (2, jI 2), (3, jI 12)]) (st' := [jI 12, jR 40]) rfl (p1 := 20) rfl ?_
  refine J_if_le (T := none) (F := some ()) (r := ()) B.1 (off := 7) (tgt := 27) (by decide +kernel) (by decide) (if_neg (by decide)) (fun h => nomatch h) (fun _ => ?_)
  refine B_blk B jlkX5_ok jcl_SK76 [.iload_n 3, .goto 4] (by decide +kernel) (ls' := [(0, jR 40), (1, jI 6), (2, jI 2), (3, jI 12)]) (st' := [jI 12, jR 40]) rfl (p1 := 28) rfl ?_
  refine J_newa (S' := SK77) (i := 41) (N := 12) (ak := 0) B.1 jcl_SK76 (by decide) rfl jac_0 rfl (by decide) (Nat.le_trans B.2.2.1 (Nat.le_of_ble_eq_true rfl)) (Nat.le_of_ble_eq_true rfl) B.2.2.2.1 (Nat.le_of_ble_eq_true rfl) (Nat.le_of_ble_eq_true rfl) (by decide +kernel) rfl rfl ?_
  obtain ⟨m3, hm3, hf⟩ := jlt_s hf
  rw [hm3]
  refine K_putR (S' := SK78) B hnm jp_X5_18 rfl rfl (by decide) rfl rfl (by decide +kernel) ?_
  refine B_blk B jlkX5_ok jcl_SK78 [.aload_n 0, .iconst 0] (by decide +kernel) (ls' := [(0, jR 40), (1, jI 6), (2, jI 2), (3, jI 12)]) (st' := [jI 0, jR 40]) rfl (p1 := 35) rfl ?_
  refine K_putI (jI' := 3) B jp_X5_22 rfl rfl rfl (by decide +kernel) ?_
  obtain ⟨m4, hm4, hf⟩ := jlt_s hf
  rw [hm4]
  cases hf
  exact B_retV B hq rfl (Nat.le_of_ble_eq_true rfl) (Nat.le_of_ble_eq_true rfl) (by decide +kernel)

def SK79 : List jSh := [.inl (8, [some (some 1), some none, some none, some none, some none, some none, some none, some none, none, none]), .inl (4, [some (some 4), some (some 6), some (some 8), some (some 10), some (some 12), some (some 14), some (some 16), some (some 18), some (some 20), some (some 22), some (some 24), some (some 2), some (some 26), some (some 28), none, none]), .inl (5, [none, none, some (some 3), none]), .inr (0, 4), .inl (5, [none, none, some (some 5), none]), .inr (0, 80), .inl (5, [none, none, some (some 7), none]), .inr (0, 210), .inl (5, [none, none, some (some 9), none]), .inr (0, 12), .inl (5, [none, none, some (some 11), none]), .inr (0, 10), .inl (5, [none, none, some (some 13), none]), .inr (0, 24), .inl (5, [none, none, some (some 15), none]), .inr (0, 6), .inl (5, [none, none, some (some 17), none]), .inr (0, 160), .inl (5, [none, none, some (some 19), none]), .inr (0, 1600), .inl (5, [none, none, some (some 21), none]), .inr (0, 4), .inl (5, [none, none, some (some 23), none]), .inr (0, 24), .inl (5, [none, none, some (some 25), none]), .inr (0, 320), .inl (5, [none, none, some (some 27), none]), .inr (0, 120), .inl (5, [none, none, some (some 29), none]), .inr (0, 60), .inl (6, [some (some 31), none]), .inr (0, 400), .inl (1, [some (some 1), none, none, none, none, none, none, none, none, none, none]), .inl (4, [some (some 36), some (some 38), some (some 40), some none, some none, some none, some none, some none, some none, some none, some none, some none, some none, some none, none, none]), .inl (5, [none, none, some (some 35), none]), .inr (0, 4), .inl (5, [none, none, some (some 37), none]), .inr (0, 80), .inl (5, [none, none, some (some 39), none]), .inr (0, 210), .inl (5, [none, none, some (some 41), none]), .inr (0, 12)]
theorem jcl_SK79 : jcl SK79 := jcl_of (by decide +kernel)

def SK80 : List jSh := [.inl (8, [some (some 1), some none, some none, some none, some none, some none, some none, some none, none, none]), .inl (4, [some (some 4), some (some 6), some (some 8), some (some 10), some (some 12), some (some 14), some (some 16), some (some 18), some (some 20), some (some 22), some (some 24), some (some 2), some (some 26), some (some 28), none, none]), .inl (5, [none, none, some (some 3), none]), .inr (0, 4), .inl (5, [none, none, some (some 5), none]), .inr (0, 80), .inl (5, [none, none, some (some 7), none]), .inr (0, 210), .inl (5, [none, none, some (some 9), none]), .inr (0, 12), .inl (5, [none, none, some (some 11), none]), .inr (0, 10), .inl (5, [none, none, some (some 13), none]), .inr (0, 24), .inl (5, [none, none, some (some 15), none]), .inr (0, 6), .inl (5, [none, none, some (some 17), none]), .inr (0, 160), .inl (5, [none, none, some (some 19), none]), .inr (0, 1600), .inl (5, [none, none, some (some 21), none]), .inr (0, 4), .inl (5, [none, none, some (some 23), none]), .inr (0, 24), .inl (5, [none, none, some (some 25), none]), .inr (0, 320), .inl (5, [none, none, some (some 27), none]), .inr (0, 120), .inl (5, [none, none, some (some 29), none]), .inr (0, 60), .inl (6, [some (some 31), none]), .inr (0, 400), .inl (1, [some (some 1), none, none, none, none, none, none, none, none, none, none]), .inl (4, [some (some 36), some (some 38), some (some 40), some none, some none, some none, some none, some none, some none, some none, some none, some none, some none, some none, none, none]), .inl (5, [none, none, some (some 35), none]), .inr (0, 4), .inl (5, [none, none, some (some 37), none]), .inr (0, 80), .inl (5, [none, none, some (some 39), none]), .inr (0, 210), .inl (5, [none, none, some (some 41), none]), .inr (0, 12), .inl (5, [none, none, some none, none])]
theorem jcl_SK80 : jcl SK80 := jcl_of (by decide +kernel)

def SK81 : List jSh := [.inl (8, [some (some 1), some none, some none, some none, some none, some none, some none, some none, none, none]), .inl (4, [some (some 4), some (some 6), some (some 8), some (some 10), some (some 12), some (some 14), some (some 16), some (some 18), some (some 20), some (some 22), some (some 24), some (some 2), some (some 26), some (some 28), none, none]), .inl (5, [none, none, some (some 3), none]), .inr (0, 4), .inl (5, [none, none, some (some 5), none]), .inr (0, 80), .inl (5, [none, none, some (some 7), none]), .inr (0, 210), .inl (5, [none, none, some (some 9), none]), .inr (0, 12), .inl (5, [none, none, some (some 11), none]), .inr (0, 10), .inl (5, [none, none, some (some 13), none]), .inr (0, 24), .inl (5, [none, none, some (some 15), none]), .inr (0, 6), .inl (5, [none, none, some (some 17), none]), .inr (0, 160), .inl (5, [none, none, some (some 19), none]), .inr (0, 1600), .inl (5, [none, none, some (some 21), none]), .inr (0, 4), .inl (5, [none, none, some (some 23), none]), .inr (0, 24), .inl (5, [none, none, some (some 25), none]), .inr (0, 320), .inl (5, [none, none, some (some 27), none]), .inr (0, 120), .inl (5, [none, none, some (some 29), none]), .inr (0, 60), .inl (6, [some (some 31), none]), .inr (0, 400), .inl (1, [some (some 1), none, none, none, none, none, none, none, none, none, none]), .inl (4, [some (some 36), some (some 38), some (some 40), some none, some none, some none, some none, some none, some none, some none, some none, some none, some none, some none, none, none]), .inl (5, [none, none, some (some 35), none]), .inr (0, 4), .inl (5, [none, none, some (some 37), none]), .inr (0, 80), .inl (5, [none, none, some (some 39), none]), .inr (0, 210), .inl (5, [none, none, some (some 41), none]), .inr (0, 12), .inl (5, [none, none, some none, none]), .inr (0, 10)]
theorem jcl_SK81 : jcl SK81 := jcl_of (by decide +kernel)

def SK82 : List jSh := [.inl (8, [some (some 1), some none, some none, some none, some none, some none, some none, some none, none, none]), .inl (4, [some (some 4), some (some 6), some (some 8), some (some 10), some (some 12), some (some 14), some (some 16), some (some 18), some (some 20), some (some 22), some (some 24), some (some 2), some (some 26), some (some 28), none, none]), .inl (5, [none, none, some (some 3), none]), .inr (0, 4), .inl (5, [none, none, some (some 5), none]), .inr (0, 80), .inl (5, [none, none, some (some 7), none]), .inr (0, 210), .inl (5, [none, none, some (some 9), none]), .inr (0, 12), .inl (5, [none, none, some (some 11), none]), .inr (0, 10), .inl (5, [none, none, some (some 13), none]), .inr (0, 24), .inl (5, [none, none, some (some 15), none]), .inr (0, 6), .inl (5, [none, none, some (some 17), none]), .inr (0, 160), .inl (5, [none, none, some (some 19), none]), .inr (0, 1600), .inl (5, [none, none, some (some 21), none]), .inr (0, 4), .inl (5, [none, none, some (some 23), none]), .inr (0, 24), .inl (5, [none, none, some (some 25), none]), .inr (0, 320), .inl (5, [none, none, some (some 27), none]), .inr (0, 120), .inl (5, [none, none, some (some 29), none]), .inr (0, 60), .inl (6, [some (some 31), none]), .inr (0, 400), .inl (1, [some (some 1), none, none, none, none, none, none, none, none, none, none]), .inl (4, [some (some 36), some (some 38), some (some 40), some none, some none, some none, some none, some none, some none, some none, some none, some none, some none, some none, none, none]), .inl (5, [none, none, some (some 35), none]), .inr (0, 4), .inl (5, [none, none, some (some 37), none]), .inr (0, 80), .inl (5, [none, none, some (some 39), none]), .inr (0, 210), .inl (5, [none, none, some (some 41), none]), .inr (0, 12), .inl (5, [none, none, some (some 43), none]), .inr (0, 10)]
theorem jcl_SK82 : jcl SK82 := jcl_of (by decide +kernel)

def rm_X5_init_19 : Room := { frames := 3, cells := 1, slots := 10, locals := 64 }
def f_X5_init_19 (m : jMu) : Option jMu :=
  (jlt (jup m 42 0 5) fun m1 => (jlt (jup m1 42 1 2) fun m2 => (jlt (jzr m2 43) fun m3 => (jlt (jup m3 42 3 0) fun m4 => some m4))))
theorem t_X5_init_19 {l : Launch} {G : jG} (hl : l.stackTraces = false) {m : jMu} {r : jMu} (hf : f_X5_init_19 m = some r) : jCt l G yX5_init (.code yX5_init cX5_init 4 none :: jWG) rm_X5_init_19 [jR 42, jI 5, jI 2] SK80 m (.inl none) SK82 r := by
  unfold f_X5_init_19 at hf
  refine J_start (ls0 := [(0, jR 42), (1, jI 5), (2, jI 2)]) (by decide +kernel) hl (Nat.le_of_ble_eq_true rfl) rfl fun X C hN hn hR hr hnm hno hq => ?_
  have B : jB X cX5_init RX5 4 SK80.length rm_X5_init_19 none := ⟨C, hN, Nat.le_of_eq hn, hR, hr⟩
  refine B_blk B jlkX5_ok jcl_SK80 [.aload_n 0] (by decide +kernel) (ls' := [(0, jR 42), (1, jI 5), (2, jI 2)]) (st' := [jR 42]) rfl (p1 := 1) rfl ?_
  refine J_obj B.1 lk_X5_3 in_object co_obj B.2.2.2.1 (Nat.le_of_ble_eq_true rfl) (Nat.le_of_ble_eq_true rfl) (by decide +kernel) ?_
  refine B_blk B jlkX5_ok jcl_SK80 [.iload_n 1, .iload_n 2, .imul, .istore_n 3, .aload_n 0, .iload_n 1] (by decide +kernel) (ls' := [(0, jR 42), (1, jI 5), (2, jI 2), (3, jI 10)]) (st' := [jI 5, jR 42]) rfl (p1 := 10) rfl ?_
  refine K_putF (jI' := 0) B hnm jp_X5_9 rfl rfl rfl (by decide +kernel) ?_
  obtain ⟨m1, hm1, hf⟩ := jlt_s hf
  rw [hm1]
  refine B_blk B jlkX5_ok jcl_SK80 [.aload_n 0, .iload_n 2] (by decide +kernel) (ls' := [(0, jR 42), (1, jI 5), (2, jI 2), (3, jI 10)]) (st' := [jI 2, jR 42]) rfl (p1 := 15) rfl ?_
  refine K_putF (jI' := 1) B hnm jp_X5_15 rfl rfl rfl (by decide +kernel) ?_
  obtain ⟨m2, hm2, hf⟩ := jlt_s hf
  rw [hm2]
  refine B_blk B jlkX5_ok jcl_SK80 [.aload_n 0, .iload_n 3] (by decide +kernel) (ls' := [(0, jR 42), (1, jI 5), (2, jI 2), (3, jI 10)]) (st' := [jI 10, jR 42]) rfl (p1 := 20) rfl ?_
  refine J_if_le (T := none) (F := some ()) (r := ()) B.1 (off := 7) (tgt := 27) (by decide +kernel) (by decide) (if_neg (by decide)) (fun h => nomatch h) (fun _ => ?_)
  refine B_blk B jlkX5_ok jcl_SK80 [.iload_n 3, .goto 4] (by decide +kernel) (ls' := [(0, jR 42), (1, jI 5), (2, jI 2), (3, jI 10)]) (st' := [jI 10, jR 42]) rfl (p1 := 28) rfl ?_
  refine J_newa (S' := SK81) (i := 43) (N := 10) (ak := 0) B.1 jcl_SK80 (by decide) rfl jac_0 rfl (by decide) (Nat.le_trans B.2.2.1 (Nat.le_of_ble_eq_true rfl)) (Nat.le_of_ble_eq_true rfl) B.2.2.2.1 (Nat.le_of_ble_eq_true rfl) (Nat.le_of_ble_eq_true rfl) (by decide +kernel) rfl rfl ?_
  obtain ⟨m3, hm3, hf⟩ := jlt_s hf
  rw [hm3]
  refine K_putR (S' := SK82) B hnm jp_X5_18 rfl rfl (by decide) rfl rfl (by decide +kernel) ?_
  refine B_blk B jlkX5_ok jcl_SK82 [.aload_n 0, .iconst 0] (by decide +kernel) (ls' := [(0, jR 42), (1, jI 5), (2, jI 2), (3, jI 10)]) (st' := [jI 0, jR 42]) rfl (p1 := 35) rfl ?_
  refine K_putI (jI' := 3) B jp_X5_22 rfl rfl rfl (by decide +kernel) ?_
  obtain ⟨m4, hm4, hf⟩ := jlt_s hf
  rw [hm4]
  cases hf
  exact B_retV B hq rfl (Nat.le_of_ble_eq_true rfl) (Nat.le_of_ble_eq_true rfl) (by decide +kernel)

def SK83 : List jSh := [.inl (8, [some (some 1), some none, some none, some none, some none, some none, some none, some none, none, none]), .inl (4, [some (some 4), some (some 6), some (some 8), some (some 10), some (some 12), some (some 14), some (some 16), some (some 18), some (some 20), some (some 22), some (some 24), some (some 2), some (some 26), some (some 28), none, none]), .inl (5, [none, none, some (some 3), none]), .inr (0, 4), .inl (5, [none, none, some (some 5), none]), .inr (0, 80), .inl (5, [none, none, some (some 7), none]), .inr (0, 210), .inl (5, [none, none, some (some 9), none]), .inr (0, 12), .inl (5, [none, none, some (some 11), none]), .inr (0, 10), .inl (5, [none, none, some (some 13), none]), .inr (0, 24), .inl (5, [none, none, some (some 15), none]), .inr (0, 6), .inl (5, [none, none, some (some 17), none]), .inr (0, 160), .inl (5, [none, none, some (some 19), none]), .inr (0, 1600), .inl (5, [none, none, some (some 21), none]), .inr (0, 4), .inl (5, [none, none, some (some 23), none]), .inr (0, 24), .inl (5, [none, none, some (some 25), none]), .inr (0, 320), .inl (5, [none, none, some (some 27), none]), .inr (0, 120), .inl (5, [none, none, some (some 29), none]), .inr (0, 60), .inl (6, [some (some 31), none]), .inr (0, 400), .inl (1, [some (some 1), none, none, none, none, none, none, none, none, none, none]), .inl (4, [some (some 36), some (some 38), some (some 40), some (some 42), some none, some none, some none, some none, some none, some none, some none, some none, some none, some none, none, none]), .inl (5, [none, none, some (some 35), none]), .inr (0, 4), .inl (5, [none, none, some (some 37), none]), .inr (0, 80), .inl (5, [none, none, some (some 39), none]), .inr (0, 210), .inl (5, [none, none, some (some 41), none]), .inr (0, 12), .inl (5, [none, none, some (some 43), none]), .inr (0, 10)]
theorem jcl_SK83 : jcl SK83 := jcl_of (by decide +kernel)

def SK84 : List jSh := [.inl (8, [some (some 1), some none, some none, some none, some none, some none, some none, some none, none, none]), .inl (4, [some (some 4), some (some 6), some (some 8), some (some 10), some (some 12), some (some 14), some (some 16), some (some 18), some (some 20), some (some 22), some (some 24), some (some 2), some (some 26), some (some 28), none, none]), .inl (5, [none, none, some (some 3), none]), .inr (0, 4), .inl (5, [none, none, some (some 5), none]), .inr (0, 80), .inl (5, [none, none, some (some 7), none]), .inr (0, 210), .inl (5, [none, none, some (some 9), none]), .inr (0, 12), .inl (5, [none, none, some (some 11), none]), .inr (0, 10), .inl (5, [none, none, some (some 13), none]), .inr (0, 24), .inl (5, [none, none, some (some 15), none]), .inr (0, 6), .inl (5, [none, none, some (some 17), none]), .inr (0, 160), .inl (5, [none, none, some (some 19), none]), .inr (0, 1600), .inl (5, [none, none, some (some 21), none]), .inr (0, 4), .inl (5, [none, none, some (some 23), none]), .inr (0, 24), .inl (5, [none, none, some (some 25), none]), .inr (0, 320), .inl (5, [none, none, some (some 27), none]), .inr (0, 120), .inl (5, [none, none, some (some 29), none]), .inr (0, 60), .inl (6, [some (some 31), none]), .inr (0, 400), .inl (1, [some (some 1), none, none, none, none, none, none, none, none, none, none]), .inl (4, [some (some 36), some (some 38), some (some 40), some (some 42), some none, some none, some none, some none, some none, some none, some none, some none, some none, some none, none, none]), .inl (5, [none, none, some (some 35), none]), .inr (0, 4), .inl (5, [none, none, some (some 37), none]), .inr (0, 80), .inl (5, [none, none, some (some 39), none]), .inr (0, 210), .inl (5, [none, none, some (some 41), none]), .inr (0, 12), .inl (5, [none, none, some (some 43), none]), .inr (0, 10), .inl (5, [none, none, some none, none])]
theorem jcl_SK84 : jcl SK84 := jcl_of (by decide +kernel)

def SK85 : List jSh := [.inl (8, [some (some 1), some none, some none, some none, some none, some none, some none, some none, none, none]), .inl (4, [some (some 4), some (some 6), some (some 8), some (some 10), some (some 12), some (some 14), some (some 16), some (some 18), some (some 20), some (some 22), some (some 24), some (some 2), some (some 26), some (some 28), none, none]), .inl (5, [none, none, some (some 3), none]), .inr (0, 4), .inl (5, [none, none, some (some 5), none]), .inr (0, 80), .inl (5, [none, none, some (some 7), none]), .inr (0, 210), .inl (5, [none, none, some (some 9), none]), .inr (0, 12), .inl (5, [none, none, some (some 11), none]), .inr (0, 10), .inl (5, [none, none, some (some 13), none]), .inr (0, 24), .inl (5, [none, none, some (some 15), none]), .inr (0, 6), .inl (5, [none, none, some (some 17), none]), .inr (0, 160), .inl (5, [none, none, some (some 19), none]), .inr (0, 1600), .inl (5, [none, none, some (some 21), none]), .inr (0, 4), .inl (5, [none, none, some (some 23), none]), .inr (0, 24), .inl (5, [none, none, some (some 25), none]), .inr (0, 320), .inl (5, [none, none, some (some 27), none]), .inr (0, 120), .inl (5, [none, none, some (some 29), none]), .inr (0, 60), .inl (6, [some (some 31), none]), .inr (0, 400), .inl (1, [some (some 1), none, none, none, none, none, none, none, none, none, none]), .inl (4, [some (some 36), some (some 38), some (some 40), some (some 42), some none, some none, some none, some none, some none, some none, some none, some none, some none, some none, none, none]), .inl (5, [none, none, some (some 35), none]), .inr (0, 4), .inl (5, [none, none, some (some 37), none]), .inr (0, 80), .inl (5, [none, none, some (some 39), none]), .inr (0, 210), .inl (5, [none, none, some (some 41), none]), .inr (0, 12), .inl (5, [none, none, some (some 43), none]), .inr (0, 10), .inl (5, [none, none, some none, none]), .inr (0, 24)]
theorem jcl_SK85 : jcl SK85 := jcl_of (by decide +kernel)

def SK86 : List jSh := [.inl (8, [some (some 1), some none, some none, some none, some none, some none, some none, some none, none, none]), .inl (4, [some (some 4), some (some 6), some (some 8), some (some 10), some (some 12), some (some 14), some (some 16), some (some 18), some (some 20), some (some 22), some (some 24), some (some 2), some (some 26), some (some 28), none, none]), .inl (5, [none, none, some (some 3), none]), .inr (0, 4), .inl (5, [none, none, some (some 5), none]), .inr (0, 80), .inl (5, [none, none, some (some 7), none]), .inr (0, 210), .inl (5, [none, none, some (some 9), none]), .inr (0, 12), .inl (5, [none, none, some (some 11), none]), .inr (0, 10), .inl (5, [none, none, some (some 13), none]), .inr (0, 24), .inl (5, [none, none, some (some 15), none]), .inr (0, 6), .inl (5, [none, none, some (some 17), none]), .inr (0, 160), .inl (5, [none, none, some (some 19), none]), .inr (0, 1600), .inl (5, [none, none, some (some 21), none]), .inr (0, 4), .inl (5, [none, none, some (some 23), none]), .inr (0, 24), .inl (5, [none, none, some (some 25), none]), .inr (0, 320), .inl (5, [none, none, some (some 27), none]), .inr (0, 120), .inl (5, [none, none, some (some 29), none]), .inr (0, 60), .inl (6, [some (some 31), none]), .inr (0, 400), .inl (1, [some (some 1), none, none, none, none, none, none, none, none, none, none]), .inl (4, [some (some 36), some (some 38), some (some 40), some (some 42), some none, some none, some none, some none, some none, some none, some none, some none, some none, some none, none, none]), .inl (5, [none, none, some (some 35), none]), .inr (0, 4), .inl (5, [none, none, some (some 37), none]), .inr (0, 80), .inl (5, [none, none, some (some 39), none]), .inr (0, 210), .inl (5, [none, none, some (some 41), none]), .inr (0, 12), .inl (5, [none, none, some (some 43), none]), .inr (0, 10), .inl (5, [none, none, some (some 45), none]), .inr (0, 24)]
theorem jcl_SK86 : jcl SK86 := jcl_of (by decide +kernel)

def rm_X5_init_20 : Room := { frames := 3, cells := 1, slots := 24, locals := 64 }
def f_X5_init_20 (m : jMu) : Option jMu :=
  (jlt (jup m 44 0 8) fun m1 => (jlt (jup m1 44 1 3) fun m2 => (jlt (jzr m2 45) fun m3 => (jlt (jup m3 44 3 0) fun m4 => some m4))))
theorem t_X5_init_20 {l : Launch} {G : jG} (hl : l.stackTraces = false) {m : jMu} {r : jMu} (hf : f_X5_init_20 m = some r) : jCt l G yX5_init (.code yX5_init cX5_init 4 none :: jWG) rm_X5_init_20 [jR 44, jI 8, jI 3] SK84 m (.inl none) SK86 r := by
  unfold f_X5_init_20 at hf
  refine J_start (ls0 := [(0, jR 44), (1, jI 8), (2, jI 3)]) (by decide +kernel) hl (Nat.le_of_ble_eq_true rfl) rfl fun X C hN hn hR hr hnm hno hq => ?_
  have B : jB X cX5_init RX5 4 SK84.length rm_X5_init_20 none := ⟨C, hN, Nat.le_of_eq hn, hR, hr⟩
  refine B_blk B jlkX5_ok jcl_SK84 [.aload_n 0] (by decide +kernel) (ls' := [(0, jR 44), (1, jI 8), (2, jI 3)]) (st' := [jR 44]) rfl (p1 := 1) rfl ?_
  refine J_obj B.1 lk_X5_3 in_object co_obj B.2.2.2.1 (Nat.le_of_ble_eq_true rfl) (Nat.le_of_ble_eq_true rfl) (by decide +kernel) ?_
  refine B_blk B jlkX5_ok jcl_SK84 [.iload_n 1, .iload_n 2, .imul, .istore_n 3, .aload_n 0, .iload_n 1] (by decide +kernel) (ls' := [(0, jR 44), (1, jI 8), (2, jI 3), (3, jI 24)]) (st' := [jI 8, jR 44]) rfl (p1 := 10) rfl ?_
  refine K_putF (jI' := 0) B hnm jp_X5_9 rfl rfl rfl (by decide +kernel) ?_
  obtain ⟨m1, hm1, hf⟩ := jlt_s hf
  rw [hm1]
  refine B_blk B jlkX5_ok jcl_SK84 [.aload_n 0, .iload_n 2] (by decide +kernel) (ls' := [(0, jR 44), (1, jI 8), (2, jI 3), (3, jI 24)]) (st' := [jI 3, jR 44]) rfl (p1 := 15) rfl ?_
  refine K_putF (jI' := 1) B hnm jp_X5_15 rfl rfl rfl (by decide +kernel) ?_
  obtain ⟨m2, hm2, hf⟩ := jlt_s hf
  rw [hm2]
  refine B_blk B jlkX5_ok jcl_SK84 [.aload_n 0, .iload_n 3] (by decide +kernel) (ls' := [(0, jR 44), (1, jI 8), (2, jI 3), (3, jI 24)]) (st' := [jI 24, jR 44]) rfl (p1 := 20) rfl ?_
  refine J_if_le (T := none) (F := some ()) (r := ()) B.1 (off := 7) (tgt := 27) (by decide +kernel) (by decide) (if_neg (by decide)) (fun h => nomatch h) (fun _ => ?_)
  refine B_blk B jlkX5_ok jcl_SK84 [.iload_n 3, .goto 4] (by decide +kernel) (ls' := [(0, jR 44), (1, jI 8), (2, jI 3), (3, jI 24)]) (st' := [jI 24, jR 44]) rfl (p1 := 28) rfl ?_
  refine J_newa (S' := SK85) (i := 45) (N := 24) (ak := 0) B.1 jcl_SK84 (by decide) rfl jac_0 rfl (by decide) (Nat.le_trans B.2.2.1 (Nat.le_of_ble_eq_true rfl)) (Nat.le_of_ble_eq_true rfl) B.2.2.2.1 (Nat.le_of_ble_eq_true rfl) (Nat.le_of_ble_eq_true rfl) (by decide +kernel) rfl rfl ?_
  obtain ⟨m3, hm3, hf⟩ := jlt_s hf
  rw [hm3]
  refine K_putR (S' := SK86) B hnm jp_X5_18 rfl rfl (by decide) rfl rfl (by decide +kernel) ?_
  refine B_blk B jlkX5_ok jcl_SK86 [.aload_n 0, .iconst 0] (by decide +kernel) (ls' := [(0, jR 44), (1, jI 8), (2, jI 3), (3, jI 24)]) (st' := [jI 0, jR 44]) rfl (p1 := 35) rfl ?_
  refine K_putI (jI' := 3) B jp_X5_22 rfl rfl rfl (by decide +kernel) ?_
  obtain ⟨m4, hm4, hf⟩ := jlt_s hf
  rw [hm4]
  cases hf
  exact B_retV B hq rfl (Nat.le_of_ble_eq_true rfl) (Nat.le_of_ble_eq_true rfl) (by decide +kernel)

def SK87 : List jSh := [.inl (8, [some (some 1), some none, some none, some none, some none, some none, some none, some none, none, none]), .inl (4, [some (some 4), some (some 6), some (some 8), some (some 10), some (some 12), some (some 14), some (some 16), some (some 18), some (some 20), some (some 22), some (some 24), some (some 2), some (some 26), some (some 28), none, none]), .inl (5, [none, none, some (some 3), none]), .inr (0, 4), .inl (5, [none, none, some (some 5), none]), .inr (0, 80), .inl (5, [none, none, some (some 7), none]), .inr (0, 210), .inl (5, [none, none, some (some 9), none]), .inr (0, 12), .inl (5, [none, none, some (some 11), none]), .inr (0, 10), .inl (5, [none, none, some (some 13), none]), .inr (0, 24), .inl (5, [none, none, some (some 15), none]), .inr (0, 6), .inl (5, [none, none, some (some 17), none]), .inr (0, 160), .inl (5, [none, none, some (some 19), none]), .inr (0, 1600), .inl (5, [none, none, some (some 21), none]), .inr (0, 4), .inl (5, [none, none, some (some 23), none]), .inr (0, 24), .inl (5, [none, none, some (some 25), none]), .inr (0, 320), .inl (5, [none, none, some (some 27), none]), .inr (0, 120), .inl (5, [none, none, some (some 29), none]), .inr (0, 60), .inl (6, [some (some 31), none]), .inr (0, 400), .inl (1, [some (some 1), none, none, none, none, none, none, none, none, none, none]), .inl (4, [some (some 36), some (some 38), some (some 40), some (some 42), some (some 44), some none, some none, some none, some none, some none, some none, some none, some none, some none, none, none]), .inl (5, [none, none, some (some 35), none]), .inr (0, 4), .inl (5, [none, none, some (some 37), none]), .inr (0, 80), .inl (5, [none, none, some (some 39), none]), .inr (0, 210), .inl (5, [none, none, some (some 41), none]), .inr (0, 12), .inl (5, [none, none, some (some 43), none]), .inr (0, 10), .inl (5, [none, none, some (some 45), none]), .inr (0, 24)]
theorem jcl_SK87 : jcl SK87 := jcl_of (by decide +kernel)

def SK88 : List jSh := [.inl (8, [some (some 1), some none, some none, some none, some none, some none, some none, some none, none, none]), .inl (4, [some (some 4), some (some 6), some (some 8), some (some 10), some (some 12), some (some 14), some (some 16), some (some 18), some (some 20), some (some 22), some (some 24), some (some 2), some (some 26), some (some 28), none, none]), .inl (5, [none, none, some (some 3), none]), .inr (0, 4), .inl (5, [none, none, some (some 5), none]), .inr (0, 80), .inl (5, [none, none, some (some 7), none]), .inr (0, 210), .inl (5, [none, none, some (some 9), none]), .inr (0, 12), .inl (5, [none, none, some (some 11), none]), .inr (0, 10), .inl (5, [none, none, some (some 13), none]), .inr (0, 24), .inl (5, [none, none, some (some 15), none]), .inr (0, 6), .inl (5, [none, none, some (some 17), none]), .inr (0, 160), .inl (5, [none, none, some (some 19), none]), .inr (0, 1600), .inl (5, [none, none, some (some 21), none]), .inr (0, 4), .inl (5, [none, none, some (some 23), none]), .inr (0, 24), .inl (5, [none, none, some (some 25), none]), .inr (0, 320), .inl (5, [none, none, some (some 27), none]), .inr (0, 120), .inl (5, [none, none, some (some 29), none]), .inr (0, 60), .inl (6, [some (some 31), none]), .inr (0, 400), .inl (1, [some (some 1), none, none, none, none, none, none, none, none, none, none]), .inl (4, [some (some 36), some (some 38), some (some 40), some (some 42), some (some 44), some none, some none, some none, some none, some none, some none, some none, some none, some none, none, none]), .inl (5, [none, none, some (some 35), none]), .inr (0, 4), .inl (5, [none, none, some (some 37), none]), .inr (0, 80), .inl (5, [none, none, some (some 39), none]), .inr (0, 210), .inl (5, [none, none, some (some 41), none]), .inr (0, 12), .inl (5, [none, none, some (some 43), none]), .inr (0, 10), .inl (5, [none, none, some (some 45), none]), .inr (0, 24), .inl (5, [none, none, some none, none])]
theorem jcl_SK88 : jcl SK88 := jcl_of (by decide +kernel)
