/-! printed walks -/
def rm_X5_isSpannedByAny : Room := { frames := 4, cells := 0, slots := 0, locals := 87 }
def f_X5_isSpannedByAny_L2 (t a w : Nat) : Nat → Int → Int → jMu → Option Int
  | 0, _, _, _ => none
  | q + 1, v1, v2, m => (if m t 3 ≤ v2 then some 0 else (f_X5_isSpanned t a w v2 v1 m).bind fun r1 => (if r1 = 0 then f_X5_isSpannedByAny_L2 t a w q v1 (jW (v2 + 1)) m else some 1))
def f_X5_isSpannedByAny (t a w : Nat) (a0 : Int) (m : jMu) : Option Int :=
  f_X5_isSpannedByAny_L2 t a w jFU a0 0 m
theorem t_X5_isSpannedByAny_L2 {X : jX} {S : List jSh} (hcl : jcl S) {t a w : Nat} (hfacts : jTb S t a w) (B : jB X cX5_isSpannedByAny RX5 3 S.length rm_X5_isSpannedByAny (some .boolean)) : ∀ (q : Nat) (v1 : Int) (v2 : Int) (m : jMu) (r : Int), f_X5_isSpannedByAny_L2 t a w q v1 v2 m = some r → jQ X (.inl (some (jI r))) S m rm_X5_isSpannedByAny.cells rm_X5_isSpannedByAny.slots → J X S m 0 0 2 [(0, jR t), (1, jI v1), (2, jI v2)] [] := by
  intro q
  induction q with
  | zero =>
    intro v1 v2 m r hf
    rw [f_X5_isSpannedByAny_L2] at hf
    cases hf
  | succ q ih =>
    intro v1 v2 m r hf hq
    rw [f_X5_isSpannedByAny_L2] at hf
    refine B_blk B jlkX5_ok hcl [.iload_n 2, .aload_n 0] (by decide +kernel) (ls' := [(0, jR t), (1, jI v1), (2, jI v2)]) (st' := [jR t, jI v2]) rfl (p1 := 4) rfl ?_
    refine K_get (v := jI (m t 3)) B jlkX5_ok hcl (idx := 22) rfl hfacts.1 rfl rfl (by decide +kernel) ?_
    refine J_icmp_ge B.1 (off := 20) (tgt := 27) (by decide +kernel) (by decide) hf (fun hf => ?_) (fun hf => ?_)
    · refine B_blk B jlkX5_ok hcl [.iconst 0] (by decide +kernel) (ls' := [(0, jR t), (1, jI v1), (2, jI v2)]) (st' := [jI 0]) rfl (p1 := 28) rfl ?_
      cases hf
      exact B_retZ B (Or.inl rfl) hq rfl (Nat.le_of_ble_eq_true rfl) (Nat.le_of_ble_eq_true rfl) (by decide +kernel)
    · refine B_blk B jlkX5_ok hcl [.aload_n 0, .iload_n 2, .iload_n 1] (by decide +kernel) (ls' := [(0, jR t), (1, jI v1), (2, jI v2)]) (st' := [jI v1, jI v2, jR t]) rfl (p1 := 13) rfl ?_
      obtain ⟨r1, h1, hf⟩ := jbd hf
      refine B_callV B (Nat.le_refl _) (μ' := m) (k' := 0) (n' := 0) ca_X5_isSpanned in_X5_isSpanned se_X5_isSpanned lk_X5_25 (t_X5_isSpanned B.tr hcl hfacts h1) (Nat.le_refl _) rfl hfacts.1 rfl (rest := []) rfl rfl (Nat.le_of_ble_eq_true rfl) (by decide +kernel) rfl rfl (st' := [jI r1]) rfl ?_
      refine J_if_eq B.1 (off := 5) (tgt := 21) (by decide +kernel) (by decide) hf (fun hf => ?_) (fun hf => ?_)
      · refine B_blk B jlkX5_ok hcl [.iinc 2 1, .goto (-22)] (by decide +kernel) (ls' := [(0, jR t), (1, jI v1), (2, jI (jW (v2 + 1)))]) (st' := []) rfl (p1 := 2) rfl ?_
        exact ih v1 (jW (v2 + 1)) m _ hf hq
      · refine B_blk B jlkX5_ok hcl [.iconst 1] (by decide +kernel) (ls' := [(0, jR t), (1, jI v1), (2, jI v2)]) (st' := [jI 1]) rfl (p1 := 20) rfl ?_
        cases hf
        exact B_retZ B (Or.inr rfl) hq rfl (Nat.le_of_ble_eq_true rfl) (Nat.le_of_ble_eq_true rfl) (by decide +kernel)
theorem t_X5_isSpannedByAny {l : Launch} {G : jG} (hl : l.stackTraces = false) {S : List jSh} (hcl : jcl S) {t a w : Nat} (hfacts : jTb S t a w) {a0 : Int} {m : jMu} {r : Int} (hf : f_X5_isSpannedByAny t a w a0 m = some r) : jCt l G yX5_isSpannedByAny (.code yX5_isSpannedByAny cX5_isSpannedByAny 3 (some .boolean) :: jWG) rm_X5_isSpannedByAny [jR t, jI a0] S m (.inl (some (jI r))) S m := by
  unfold f_X5_isSpannedByAny at hf
  refine J_start (ls0 := [(0, jR t), (1, jI a0)]) (by decide +kernel) hl (Nat.le_of_ble_eq_true rfl) rfl fun X C hN hn hR hr hnm hno hq => ?_
  have B : jB X cX5_isSpannedByAny RX5 3 S.length rm_X5_isSpannedByAny (some .boolean) := ⟨C, hN, Nat.le_of_eq hn, hR, hr⟩
  refine B_blk B jlkX5_ok hcl [.iconst 0, .istore_n 2] (by decide +kernel) (ls' := [(0, jR t), (1, jI a0), (2, jI 0)]) (st' := []) rfl (p1 := 2) rfl ?_
  exact t_X5_isSpannedByAny_L2 hcl hfacts B jFU a0 0 m _ hf hq

def rm_X1_hasNest : Room := { frames := 4, cells := 0, slots := 0, locals := 87 }
def f_X1_hasNest_L10 : Nat → Int → Int → jMu → Option Int
  | 0, _, _, _ => none
  | q + 1, v1, v3, m => (f_X5_size 12 13 24 m).bind fun r1 => (if r1 ≤ v3 then some 0 else (f_X5_get 12 13 24 v3 2 m).bind fun r2 => (if r2 = v1 then (f_X5_isSpanned 12 13 24 v3 (m 32 5) m).bind fun r3 => (if r3 = 0 then f_X1_hasNest_L10 q v1 (jW (v3 + 1)) m else some 1) else f_X1_hasNest_L10 q v1 (jW (v3 + 1)) m))
def f_X1_hasNest (a0 : Int) (m : jMu) : Option Int :=
  f_X1_hasNest_L10 jFU a0 0 m
theorem t_X1_hasNest_L10 {X : jX} (B : jB X cX1_hasNest RX1 4 SKF.length rm_X1_hasNest (some .boolean)) : ∀ (q : Nat) (v1 : Int) (v3 : Int) (m : jMu) (r : Int), f_X1_hasNest_L10 q v1 v3 m = some r → jQ X (.inl (some (jI r))) SKF m rm_X1_hasNest.cells rm_X1_hasNest.slots → J X SKF m 0 0 10 [(0, jR 32), (1, jI v1), (2, jR 12), (3, jI v3)] [] := by
  intro q
  induction q with
  | zero =>
    intro v1 v3 m r hf
    rw [f_X1_hasNest_L10] at hf
    cases hf
  | succ q ih =>
    intro v1 v3 m r hf hq
    rw [f_X1_hasNest_L10] at hf
    refine B_blk B jlkX1_ok jcl_SKF [.iload_n 3, .aload_n 2] (by decide +kernel) (ls' := [(0, jR 32), (1, jI v1), (2, jR 12), (3, jI v3)]) (st' := [jR 12, jI v3]) rfl (p1 := 12) rfl ?_
    obtain ⟨r1, h1, hf⟩ := jbd hf
    refine B_callV B (Nat.le_refl _) (μ' := m) (k' := 0) (n' := 0) ca_X5_size in_X5_size se_X5_size lk_X1_72 (t_X5_size B.tr jcl_SKF ⟨rfl, rfl, by decide⟩ h1) (Nat.le_refl _) rfl rfl rfl (rest := [jI v3]) rfl rfl (Nat.le_of_ble_eq_true rfl) (by decide +kernel) rfl rfl (st' := [jI r1, jI v3]) rfl ?_
    refine J_icmp_ge B.1 (off := 33) (tgt := 48) (by decide +kernel) (by decide) hf (fun hf => ?_) (fun hf => ?_)
    · refine B_blk B jlkX1_ok jcl_SKF [.iconst 0] (by decide +kernel) (ls' := [(0, jR 32), (1, jI v1), (2, jR 12), (3, jI v3)]) (st' := [jI 0]) rfl (p1 := 49) rfl ?_
      cases hf
      exact B_retZ B (Or.inl rfl) hq rfl (Nat.le_of_ble_eq_true rfl) (Nat.le_of_ble_eq_true rfl) (by decide +kernel)
    · refine B_blk B jlkX1_ok jcl_SKF [.aload_n 2, .iload_n 3, .iconst 2] (by decide +kernel) (ls' := [(0, jR 32), (1, jI v1), (2, jR 12), (3, jI v3)]) (st' := [jI 2, jI v3, jR 12]) rfl (p1 := 21) rfl ?_
      obtain ⟨r2, h2, hf⟩ := jbd hf
      refine B_callV B (Nat.le_refl _) (μ' := m) (k' := 0) (n' := 0) ca_X5_get in_X5_get se_X5_get lk_X1_28 (t_X5_get B.tr jcl_SKF ⟨rfl, rfl, by decide⟩ h2) (Nat.le_refl _) rfl rfl rfl (rest := []) rfl rfl (Nat.le_of_ble_eq_true rfl) (by decide +kernel) rfl rfl (st' := [jI r2]) rfl ?_
      refine B_blk B jlkX1_ok jcl_SKF [.iload_n 1] (by decide +kernel) (ls' := [(0, jR 32), (1, jI v1), (2, jR 12), (3, jI v3)]) (st' := [jI v1, jI r2]) rfl (p1 := 25) rfl ?_
      refine J_icmp_ne B.1 (off := 17) (tgt := 42) (by decide +kernel) (by decide) hf (fun hf => ?_) (fun hf => ?_)
      · refine B_blk B jlkX1_ok jcl_SKF [.aload_n 2, .iload_n 3, .aload_n 0, .getfield 15] (by decide +kernel) (ls' := [(0, jR 32), (1, jI v1), (2, jR 12), (3, jI v3)]) (st' := [jI (m 32 5), jI v3, jR 12]) rfl (p1 := 34) rfl ?_
        obtain ⟨r3, h3, hf⟩ := jbd hf
        refine B_callV B (Nat.le_refl _) (μ' := m) (k' := 0) (n' := 0) ca_X5_isSpanned in_X5_isSpanned se_X5_isSpanned lk_X1_76 (t_X5_isSpanned B.tr jcl_SKF ⟨rfl, rfl, by decide⟩ h3) (Nat.le_refl _) rfl rfl rfl (rest := []) rfl rfl (Nat.le_of_ble_eq_true rfl) (by decide +kernel) rfl rfl (st' := [jI r3]) rfl ?_
        refine J_if_eq B.1 (off := 5) (tgt := 42) (by decide +kernel) (by decide) hf (fun hf => ?_) (fun hf => ?_)
        · refine B_blk B jlkX1_ok jcl_SKF [.iinc 3 1, .goto (-35)] (by decide +kernel) (ls' := [(0, jR 32), (1, jI v1), (2, jR 12), (3, jI (jW (v3 + 1)))]) (st' := []) rfl (p1 := 10) rfl ?_
          exact ih v1 (jW (v3 + 1)) m _ hf hq
        · refine B_blk B jlkX1_ok jcl_SKF [.iconst 1] (by decide +kernel) (ls' := [(0, jR 32), (1, jI v1), (2, jR 12), (3, jI v3)]) (st' := [jI 1]) rfl (p1 := 41) rfl ?_
          cases hf
          exact B_retZ B (Or.inr rfl) hq rfl (Nat.le_of_ble_eq_true rfl) (Nat.le_of_ble_eq_true rfl) (by decide +kernel)
      · refine B_blk B jlkX1_ok jcl_SKF [.iinc 3 1, .goto (-35)] (by decide +kernel) (ls' := [(0, jR 32), (1, jI v1), (2, jR 12), (3, jI (jW (v3 + 1)))]) (st' := []) rfl (p1 := 10) rfl ?_
        exact ih v1 (jW (v3 + 1)) m _ hf hq
theorem t_X1_hasNest {l : Launch} {G : jG} (hl : l.stackTraces = false) {a0 : Int} {m : jMu} {r : Int} (hf : f_X1_hasNest a0 m = some r) : jCt l G yX1_hasNest (.code yX1_hasNest cX1_hasNest 4 (some .boolean) :: jWG) rm_X1_hasNest [jR 32, jI a0] SKF m (.inl (some (jI r))) SKF m := by
  unfold f_X1_hasNest at hf
  refine J_start (ls0 := [(0, jR 32), (1, jI a0)]) (by decide +kernel) hl (Nat.le_of_ble_eq_true rfl) rfl fun X C hN hn hR hr hnm hno hq => ?_
  have B : jB X cX1_hasNest RX1 4 SKF.length rm_X1_hasNest (some .boolean) := ⟨C, hN, Nat.le_of_eq hn, hR, hr⟩
  refine B_blk B jlkX1_ok jcl_SKF [.aload_n 0, .getfield 9, .getfield 69, .astore_n 2, .iconst 0, .istore_n 3] (by decide +kernel) (ls' := [(0, jR 32), (1, jI a0), (2, jR 12), (3, jI 0)]) (st' := []) rfl (p1 := 10) rfl ?_
  exact t_X1_hasNest_L10 B jFU a0 0 m _ hf hq

def rm_X1_feelWeather : Room := { frames := 4, cells := 0, slots := 0, locals := 87 }
def f_X1_feelWeather_L15 : Nat → Int → jMu → Option jMu
  | 0, _, _ => none
  | q + 1, v2, m => (if v2 < 0 then (jlt (jup m 32 2 0) fun m2 => (jlt (jup m2 32 7 0) fun m3 => (jlt (jup m3 32 8 10) fun m4 => some m4))) else (f_X5_get 6 7 210 v2 2 m).bind fun r5 => (if m 32 6 < r5 then f_X1_feelWeather_L15 q (jW (v2 + (-1))) m else (f_X5_get 6 7 210 v2 3 m).bind fun r6 => (if r6 < m 32 6 then f_X1_feelWeather_L15 q (jW (v2 + (-1))) m else (f_X5_isSpanned 6 7 210 v2 (m 32 5) m).bind fun r7 => (if r7 = 0 then f_X1_feelWeather_L15 q (jW (v2 + (-1))) m else (f_X5_get 6 7 210 v2 4 m).bind fun r8 => (jlt (jup m 32 2 r8) fun m9 => (f_X5_get 6 7 210 v2 5 m9).bind fun r10 => (jlt (jup m9 32 7 r10) fun m11 => (f_X5_get 6 7 210 v2 6 m11).bind fun r12 => (jlt (jup m11 32 8 r12) fun m13 => some m13)))))))
def f_X1_feelWeather (m : jMu) : Option jMu :=
  (f_X5_size 6 7 210 m).bind fun r1 => f_X1_feelWeather_L15 jFU (jW (r1 - 1)) m
theorem t_X1_feelWeather_L15 {X : jX} (B : jB X cX1_feelWeather RX1 4 SKF.length rm_X1_feelWeather none) : ∀ (q : Nat) (v2 : Int) (m : jMu) (r : jMu), f_X1_feelWeather_L15 q v2 m = some r → jQ X (.inl none) SKF r rm_X1_feelWeather.cells rm_X1_feelWeather.slots → J X SKF m 0 0 15 [(0, jR 32), (1, jR 6), (2, jI v2)] [] := by
  intro q
  induction q with
  | zero =>
    intro v2 m r hf
    rw [f_X1_feelWeather_L15] at hf
    cases hf
  | succ q ih =>
    intro v2 m r hf hq
    rw [f_X1_feelWeather_L15] at hf
    refine B_blk B jlkX1_ok jcl_SKF [.iload_n 2] (by decide +kernel) (ls' := [(0, jR 32), (1, jR 6), (2, jI v2)]) (st' := [jI v2]) rfl (p1 := 16) rfl ?_
    refine J_if_lt B.1 (off := 89) (tgt := 105) (by decide +kernel) (by decide) hf (fun hf => ?_) (fun hf => ?_)
    · refine B_blk B jlkX1_ok jcl_SKF [.aload_n 0, .iconst 0] (by decide +kernel) (ls' := [(0, jR 32), (1, jR 6), (2, jI v2)]) (st' := [jI 0, jR 32]) rfl (p1 := 107) rfl ?_
      refine K_putI (jI' := 2) B jp_X1_83 rfl rfl rfl (by decide +kernel) ?_
      obtain ⟨m2, hm2, hf⟩ := jlt_s hf
      rw [hm2]
      refine B_blk B jlkX1_ok jcl_SKF [.aload_n 0, .iconst 0] (by decide +kernel) (ls' := [(0, jR 32), (1, jR 6), (2, jI v2)]) (st' := [jI 0, jR 32]) rfl (p1 := 112) rfl ?_
      refine K_putI (jI' := 7) B jp_X1_86 rfl rfl rfl (by decide +kernel) ?_
      obtain ⟨m3, hm3, hf⟩ := jlt_s hf
      rw [hm3]
      refine B_blk B jlkX1_ok jcl_SKF [.aload_n 0, .bipush 10] (by decide +kernel) (ls' := [(0, jR 32), (1, jR 6), (2, jI v2)]) (st' := [jI 10, jR 32]) rfl (p1 := 118) rfl ?_
      refine K_putI (jI' := 8) B jp_X1_89 rfl rfl rfl (by decide +kernel) ?_
      obtain ⟨m4, hm4, hf⟩ := jlt_s hf
      rw [hm4]
      cases hf
      exact B_retV B hq rfl (Nat.le_of_ble_eq_true rfl) (Nat.le_of_ble_eq_true rfl) (by decide +kernel)
    · refine B_blk B jlkX1_ok jcl_SKF [.aload_n 0, .getfield 19, .aload_n 1, .iload_n 2, .iconst 2] (by decide +kernel) (ls' := [(0, jR 32), (1, jR 6), (2, jI v2)]) (st' := [jI 2, jI v2, jR 6, jI (m 32 6)]) rfl (p1 := 26) rfl ?_
      obtain ⟨r5, h5, hf⟩ := jbd hf
      refine B_callV B (Nat.le_refl _) (μ' := m) (k' := 0) (n' := 0) ca_X5_get in_X5_get se_X5_get lk_X1_28 (t_X5_get B.tr jcl_SKF ⟨rfl, rfl, by decide⟩ h5) (Nat.le_refl _) rfl rfl rfl (rest := [jI (m 32 6)]) rfl rfl (Nat.le_of_ble_eq_true rfl) (by decide +kernel) rfl rfl (st' := [jI r5, jI (m 32 6)]) rfl ?_
      refine J_icmp_lt B.1 (off := 20) (tgt := 49) (by decide +kernel) (by decide) hf (fun hf => ?_) (fun hf => ?_)
      · refine B_blk B jlkX1_ok jcl_SKF [.iconst 0, .istore_n 3, .iload_n 3] (by decide +kernel) (ls' := [(0, jR 32), (1, jR 6), (2, jI v2), (3, jI 0)]) (st' := [jI 0]) rfl (p1 := 52) rfl ?_
        refine J_if_eq (T := some ()) (F := none) (r := ()) B.1 (off := 47) (tgt := 99) (by decide +kernel) (by decide) (if_pos (by decide)) (fun _ => ?_) (fun h => nomatch h)
        refine B_blk B jlkX1_ok jcl_SKF [.iinc 2 (-1), .goto (-87)] (by decide +kernel) (ls' := [(0, jR 32), (1, jR 6), (2, jI (jW (v2 + (-1)))), (3, jI 0)]) (st' := []) rfl (p1 := 15) rfl ?_
        refine J_pick [0, 1, 2] (ls' := [(0, jR 32), (1, jR 6), (2, jI (jW (v2 + (-1))))]) rfl ?_
        exact ih (jW (v2 + (-1))) m _ hf hq
      · refine B_blk B jlkX1_ok jcl_SKF [.aload_n 0, .getfield 19, .aload_n 1, .iload_n 2, .iconst 3] (by decide +kernel) (ls' := [(0, jR 32), (1, jR 6), (2, jI v2)]) (st' := [jI 3, jI v2, jR 6, jI (m 32 6)]) rfl (p1 := 39) rfl ?_
        obtain ⟨r6, h6, hf⟩ := jbd hf
        refine B_callV B (Nat.le_refl _) (μ' := m) (k' := 0) (n' := 0) ca_X5_get in_X5_get se_X5_get lk_X1_28 (t_X5_get B.tr jcl_SKF ⟨rfl, rfl, by decide⟩ h6) (Nat.le_refl _) rfl rfl rfl (rest := [jI (m 32 6)]) rfl rfl (Nat.le_of_ble_eq_true rfl) (by decide +kernel) rfl rfl (st' := [jI r6, jI (m 32 6)]) rfl ?_
        refine J_icmp_gt B.1 (off := 7) (tgt := 49) (by decide +kernel) (by decide) hf (fun hf => ?_) (fun hf => ?_)
        · refine B_blk B jlkX1_ok jcl_SKF [.iconst 0, .istore_n 3, .iload_n 3] (by decide +kernel) (ls' := [(0, jR 32), (1, jR 6), (2, jI v2), (3, jI 0)]) (st' := [jI 0]) rfl (p1 := 52) rfl ?_
          refine J_if_eq (T := some ()) (F := none) (r := ()) B.1 (off := 47) (tgt := 99) (by decide +kernel) (by decide) (if_pos (by decide)) (fun _ => ?_) (fun h => nomatch h)
          refine B_blk B jlkX1_ok jcl_SKF [.iinc 2 (-1), .goto (-87)] (by decide +kernel) (ls' := [(0, jR 32), (1, jR 6), (2, jI (jW (v2 + (-1)))), (3, jI 0)]) (st' := []) rfl (p1 := 15) rfl ?_
          refine J_pick [0, 1, 2] (ls' := [(0, jR 32), (1, jR 6), (2, jI (jW (v2 + (-1))))]) rfl ?_
          exact ih (jW (v2 + (-1))) m _ hf hq
        · refine B_blk B jlkX1_ok jcl_SKF [.iconst 1, .goto 4, .istore_n 3, .iload_n 3] (by decide +kernel) (ls' := [(0, jR 32), (1, jR 6), (2, jI v2), (3, jI 1)]) (st' := [jI 1]) rfl (p1 := 52) rfl ?_
          refine J_if_eq (T := none) (F := some ()) (r := ()) B.1 (off := 47) (tgt := 99) (by decide +kernel) (by decide) (if_neg (by decide)) (fun h => nomatch h) (fun _ => ?_)
          refine B_blk B jlkX1_ok jcl_SKF [.aload_n 1, .iload_n 2, .aload_n 0, .getfield 15] (by decide +kernel) (ls' := [(0, jR 32), (1, jR 6), (2, jI v2), (3, jI 1)]) (st' := [jI (m 32 5), jI v2, jR 6]) rfl (p1 := 61) rfl ?_
          obtain ⟨r7, h7, hf⟩ := jbd hf
          refine B_callV B (Nat.le_refl _) (μ' := m) (k' := 0) (n' := 0) ca_X5_isSpanned in_X5_isSpanned se_X5_isSpanned lk_X1_76 (t_X5_isSpanned B.tr jcl_SKF ⟨rfl, rfl, by decide⟩ h7) (Nat.le_refl _) rfl rfl rfl (rest := []) rfl rfl (Nat.le_of_ble_eq_true rfl) (by decide +kernel) rfl rfl (st' := [jI r7]) rfl ?_
          refine J_if_eq B.1 (off := 35) (tgt := 99) (by decide +kernel) (by decide) hf (fun hf => ?_) (fun hf => ?_)
          · refine B_blk B jlkX1_ok jcl_SKF [.iinc 2 (-1), .goto (-87)] (by decide +kernel) (ls' := [(0, jR 32), (1, jR 6), (2, jI (jW (v2 + (-1)))), (3, jI 1)]) (st' := []) rfl (p1 := 15) rfl ?_
            refine J_pick [0, 1, 2] (ls' := [(0, jR 32), (1, jR 6), (2, jI (jW (v2 + (-1))))]) rfl ?_
            exact ih (jW (v2 + (-1))) m _ hf hq
          · refine B_blk B jlkX1_ok jcl_SKF [.aload_n 0, .aload_n 1, .iload_n 2, .iconst 4] (by decide +kernel) (ls' := [(0, jR 32), (1, jR 6), (2, jI v2), (3, jI 1)]) (st' := [jI 4, jI v2, jR 6, jR 32]) rfl (p1 := 71) rfl ?_
            obtain ⟨r8, h8, hf⟩ := jbd hf
            refine B_callV B (Nat.le_refl _) (μ' := m) (k' := 0) (n' := 0) ca_X5_get in_X5_get se_X5_get lk_X1_28 (t_X5_get B.tr jcl_SKF ⟨rfl, rfl, by decide⟩ h8) (Nat.le_refl _) rfl rfl rfl (rest := [jR 32]) rfl rfl (Nat.le_of_ble_eq_true rfl) (by decide +kernel) rfl rfl (st' := [jI r8, jR 32]) rfl ?_
            refine K_putI (jI' := 2) B jp_X1_83 rfl rfl rfl (by decide +kernel) ?_
            obtain ⟨m9, hm9, hf⟩ := jlt_s hf
            rw [hm9]
            refine B_blk B jlkX1_ok jcl_SKF [.aload_n 0, .aload_n 1, .iload_n 2, .iconst 5] (by decide +kernel) (ls' := [(0, jR 32), (1, jR 6), (2, jI v2), (3, jI 1)]) (st' := [jI 5, jI v2, jR 6, jR 32]) rfl (p1 := 81) rfl ?_
            obtain ⟨r10, h10, hf⟩ := jbd hf
            refine B_callV B (Nat.le_refl _) (μ' := m9) (k' := 0) (n' := 0) ca_X5_get in_X5_get se_X5_get lk_X1_28 (t_X5_get B.tr jcl_SKF ⟨rfl, rfl, by decide⟩ h10) (Nat.le_refl _) rfl rfl rfl (rest := [jR 32]) rfl rfl (Nat.le_of_ble_eq_true rfl) (by decide +kernel) rfl rfl (st' := [jI r10, jR 32]) rfl ?_
            refine K_putI (jI' := 7) B jp_X1_86 rfl rfl rfl (by decide +kernel) ?_
            obtain ⟨m11, hm11, hf⟩ := jlt_s hf
            rw [hm11]
            refine B_blk B jlkX1_ok jcl_SKF [.aload_n 0, .aload_n 1, .iload_n 2, .bipush 6] (by decide +kernel) (ls' := [(0, jR 32), (1, jR 6), (2, jI v2), (3, jI 1)]) (st' := [jI 6, jI v2, jR 6, jR 32]) rfl (p1 := 92) rfl ?_
            obtain ⟨r12, h12, hf⟩ := jbd hf
            refine B_callV B (Nat.le_refl _) (μ' := m11) (k' := 0) (n' := 0) ca_X5_get in_X5_get se_X5_get lk_X1_28 (t_X5_get B.tr jcl_SKF ⟨rfl, rfl, by decide⟩ h12) (Nat.le_refl _) rfl rfl rfl (rest := [jR 32]) rfl rfl (Nat.le_of_ble_eq_true rfl) (by decide +kernel) rfl rfl (st' := [jI r12, jR 32]) rfl ?_
            refine K_putI (jI' := 8) B jp_X1_89 rfl rfl rfl (by decide +kernel) ?_
            obtain ⟨m13, hm13, hf⟩ := jlt_s hf
            rw [hm13]
            cases hf
            exact B_retV B hq rfl (Nat.le_of_ble_eq_true rfl) (Nat.le_of_ble_eq_true rfl) (by decide +kernel)
theorem t_X1_feelWeather {l : Launch} {G : jG} (hl : l.stackTraces = false) {m : jMu} {r : jMu} (hf : f_X1_feelWeather m = some r) : jCt l G yX1_feelWeather (.code yX1_feelWeather cX1_feelWeather 4 none :: jWG) rm_X1_feelWeather [jR 32] SKF m (.inl none) SKF r := by
  unfold f_X1_feelWeather at hf
  refine J_start (ls0 := [(0, jR 32)]) (by decide +kernel) hl (Nat.le_of_ble_eq_true rfl) rfl fun X C hN hn hR hr hnm hno hq => ?_
  have B : jB X cX1_feelWeather RX1 4 SKF.length rm_X1_feelWeather none := ⟨C, hN, Nat.le_of_eq hn, hR, hr⟩
  refine B_blk B jlkX1_ok jcl_SKF [.aload_n 0, .getfield 9, .getfield 80, .astore_n 1, .aload_n 1] (by decide +kernel) (ls' := [(0, jR 32), (1, jR 6)]) (st' := [jR 6]) rfl (p1 := 9) rfl ?_
  obtain ⟨r1, h1, hf⟩ := jbd hf
  refine B_callV B (Nat.le_refl _) (μ' := m) (k' := 0) (n' := 0) ca_X5_size in_X5_size se_X5_size lk_X1_72 (t_X5_size B.tr jcl_SKF ⟨rfl, rfl, by decide⟩ h1) (Nat.le_refl _) rfl rfl rfl (rest := []) rfl rfl (Nat.le_of_ble_eq_true rfl) (by decide +kernel) rfl rfl (st' := [jI r1]) rfl ?_
  refine B_blk B jlkX1_ok jcl_SKF [.iconst 1, .isub, .istore_n 2] (by decide +kernel) (ls' := [(0, jR 32), (1, jR 6), (2, jI (jW (r1 - 1)))]) (st' := []) rfl (p1 := 15) rfl ?_
  exact t_X1_feelWeather_L15 B jFU (jW (r1 - 1)) m _ hf hq

def rm_X1_stand : Room := { frames := 6, cells := 0, slots := 0, locals := 110 }
def f_X1_stand_J117 (v1 : Int) (s1 : Int) (m : jMu) : Option jMu :=
  (jlt (jup m 32 3 s1) fun m9 => (f_X1_hasNest v1 m9).bind fun r10 => (if r10 = 0 then (jlt (jup m9 32 4 0) fun m11 => (f_X1_feelWeather m11).bind fun r12 => some r12) else (jlt (jup m9 32 4 1) fun m13 => (f_X1_feelWeather m13).bind fun r14 => some r14)))
def f_X1_stand_J116 (v1 : Int) (m : jMu) : Option jMu :=
  f_X1_stand_J117 v1 0 m
def f_X1_stand_J89 (v1 : Int) (s0 : Int) (m : jMu) : Option jMu :=
  (if s0 = 0 then f_X1_stand_J116 v1 m else (f_X5_isSpannedByAny 8 9 12 (m 32 5) m).bind fun r15 => (if r15 = 0 then f_X1_stand_J117 v1 1 m else f_X1_stand_J116 v1 m))
def f_X1_stand (a0 : Int) (a1 : Int) (m : jMu) : Option jMu :=
  (jlt (jup m 32 5 (jDv a1 12)) fun m1 => (jlt (jup m1 32 6 (jRm a1 12)) fun m2 => (f_X5_get 4 5 80 a0 1 m2).bind fun r3 => (jlt (jup m2 32 9 r3) fun m4 => (f_X5_get 4 5 80 a0 0 m4).bind fun r5 => (jlt (jup m4 32 10 r5) fun m6 => (f_X5_isSpannedByAny 10 11 10 (m6 32 5) m6).bind fun r7 => (if r7 = 0 ∨ r7 = 1 then (jlt (jup m6 32 1 r7) fun m8 => (if jAn (jSr (m8 1 15) (m8 32 6)) 1 = 1 then f_X1_stand_J89 a0 1 m8 else f_X1_stand_J89 a0 0 m8)) else none)))))
theorem t_X1_stand_J117 {X : jX} (B : jB X cX1_stand RX1 4 SKF.length rm_X1_stand none) (v1 : Int) (s1 : Int) (m : jMu) (r : jMu) (hf : f_X1_stand_J117 v1 s1 m = some r) (hq : jQ X (.inl none) SKF r rm_X1_stand.cells rm_X1_stand.slots) : J X SKF m 0 0 117 [(0, jR 32), (1, jI v1)] [jI s1, jR 32] := by
  unfold f_X1_stand_J117 at hf
  refine K_putI (jI' := 3) B jp_X1_57 rfl rfl rfl (by decide +kernel) ?_
  obtain ⟨m9, hm9, hf⟩ := jlt_s hf
  rw [hm9]
  refine B_blk B jlkX1_ok jcl_SKF [.aload_n 0, .aload_n 0, .iload_n 1] (by decide +kernel) (ls' := [(0, jR 32), (1, jI v1)]) (st' := [jI v1, jR 32, jR 32]) rfl (p1 := 123) rfl ?_
  obtain ⟨r10, h10, hf⟩ := jbd hf
  refine B_callV B (Nat.le_refl _) (μ' := m9) (k' := 0) (n' := 0) ca_X1_hasNest in_X1_hasNest se_X1_hasNest lk_X1_60 (t_X1_hasNest B.tr h10) (Nat.le_refl _) rfl rfl rfl (rest := [jR 32]) rfl rfl (Nat.le_of_ble_eq_true rfl) (by decide +kernel) rfl rfl (st' := [jI r10, jR 32]) rfl ?_
  refine J_if_eq B.1 (off := 7) (tgt := 133) (by decide +kernel) (by decide) hf (fun hf => ?_) (fun hf => ?_)
  · refine B_blk B jlkX1_ok jcl_SKF [.iconst 0] (by decide +kernel) (ls' := [(0, jR 32), (1, jI v1)]) (st' := [jI 0, jR 32]) rfl (p1 := 134) rfl ?_
    refine K_putI (jI' := 4) B jp_X1_63 rfl rfl rfl (by decide +kernel) ?_
    obtain ⟨m11, hm11, hf⟩ := jlt_s hf
    rw [hm11]
    refine B_blk B jlkX1_ok jcl_SKF [.aload_n 0] (by decide +kernel) (ls' := [(0, jR 32), (1, jI v1)]) (st' := [jR 32]) rfl (p1 := 138) rfl ?_
    obtain ⟨r12, h12, hf⟩ := jbd hf
    refine B_callV B (Nat.le_refl _) (μ' := r12) (k' := 0) (n' := 0) ca_X1_feelWeather in_X1_feelWeather se_X1_feelWeather lk_X1_66 (t_X1_feelWeather B.tr h12) (Nat.le_refl _) rfl rfl rfl (rest := []) rfl rfl (Nat.le_of_ble_eq_true rfl) (by decide +kernel) rfl rfl (st' := []) rfl ?_
    cases hf
    exact B_retV B hq rfl (Nat.le_of_ble_eq_true rfl) (Nat.le_of_ble_eq_true rfl) (by decide +kernel)
  · refine B_blk B jlkX1_ok jcl_SKF [.iconst 1, .goto 4] (by decide +kernel) (ls' := [(0, jR 32), (1, jI v1)]) (st' := [jI 1, jR 32]) rfl (p1 := 134) rfl ?_
    refine K_putI (jI' := 4) B jp_X1_63 rfl rfl rfl (by decide +kernel) ?_
    obtain ⟨m13, hm13, hf⟩ := jlt_s hf
    rw [hm13]
    refine B_blk B jlkX1_ok jcl_SKF [.aload_n 0] (by decide +kernel) (ls' := [(0, jR 32), (1, jI v1)]) (st' := [jR 32]) rfl (p1 := 138) rfl ?_
    obtain ⟨r14, h14, hf⟩ := jbd hf
    refine B_callV B (Nat.le_refl _) (μ' := r14) (k' := 0) (n' := 0) ca_X1_feelWeather in_X1_feelWeather se_X1_feelWeather lk_X1_66 (t_X1_feelWeather B.tr h14) (Nat.le_refl _) rfl rfl rfl (rest := []) rfl rfl (Nat.le_of_ble_eq_true rfl) (by decide +kernel) rfl rfl (st' := []) rfl ?_
    cases hf
    exact B_retV B hq rfl (Nat.le_of_ble_eq_true rfl) (Nat.le_of_ble_eq_true rfl) (by decide +kernel)
theorem t_X1_stand_J116 {X : jX} (B : jB X cX1_stand RX1 4 SKF.length rm_X1_stand none) (v1 : Int) (m : jMu) (r : jMu) (hf : f_X1_stand_J116 v1 m = some r) (hq : jQ X (.inl none) SKF r rm_X1_stand.cells rm_X1_stand.slots) : J X SKF m 0 0 116 [(0, jR 32), (1, jI v1)] [jR 32] := by
  unfold f_X1_stand_J116 at hf
  refine B_blk B jlkX1_ok jcl_SKF [.iconst 0] (by decide +kernel) (ls' := [(0, jR 32), (1, jI v1)]) (st' := [jI 0, jR 32]) rfl (p1 := 117) rfl ?_
  exact t_X1_stand_J117 B v1 0 m _ hf hq
theorem t_X1_stand_J89 {X : jX} (B : jB X cX1_stand RX1 4 SKF.length rm_X1_stand none) (v1 : Int) (s0 : Int) (m : jMu) (r : jMu) (hf : f_X1_stand_J89 v1 s0 m = some r) (hq : jQ X (.inl none) SKF r rm_X1_stand.cells rm_X1_stand.slots) : J X SKF m 0 0 89 [(0, jR 32), (1, jI v1)] [jI s0] := by
  unfold f_X1_stand_J89 at hf
  refine B_blk B jlkX1_ok jcl_SKF [.istore_n 3, .aload_n 0, .iload_n 3] (by decide +kernel) (ls' := [(0, jR 32), (1, jI v1), (3, jI s0)]) (st' := [jI s0, jR 32]) rfl (p1 := 92) rfl ?_
  refine J_if_eq B.1 (off := 24) (tgt := 116) (by decide +kernel) (by decide) hf (fun hf => ?_) (fun hf => ?_)
  · refine J_pick [0, 1] (ls' := [(0, jR 32), (1, jI v1)]) rfl ?_
    exact t_X1_stand_J116 B v1 m _ hf hq
  · refine B_blk B jlkX1_ok jcl_SKF [.aload_n 0, .getfield 9, .getfield 54, .aload_n 0, .getfield 15] (by decide +kernel) (ls' := [(0, jR 32), (1, jI v1), (3, jI s0)]) (st' := [jI (m 32 5), jR 8, jR 32]) rfl (p1 := 106) rfl ?_
    obtain ⟨r15, h15, hf⟩ := jbd hf
    refine B_callV B (Nat.le_refl _) (μ' := m) (k' := 0) (n' := 0) ca_X5_isSpannedByAny in_X5_isSpannedByAny se_X5_isSpannedByAny lk_X1_43 (t_X5_isSpannedByAny B.tr jcl_SKF ⟨rfl, rfl, by decide⟩ h15) (Nat.le_refl _) rfl rfl rfl (rest := [jR 32]) rfl rfl (Nat.le_of_ble_eq_true rfl) (by decide +kernel) rfl rfl (st' := [jI r15, jR 32]) rfl ?_
    refine J_if_ne B.1 (off := 7) (tgt := 116) (by decide +kernel) (by decide) hf (fun hf => ?_) (fun hf => ?_)
    · refine B_blk B jlkX1_ok jcl_SKF [.iconst 1, .goto 4] (by decide +kernel) (ls' := [(0, jR 32), (1, jI v1), (3, jI s0)]) (st' := [jI 1, jR 32]) rfl (p1 := 117) rfl ?_
      refine J_pick [0, 1] (ls' := [(0, jR 32), (1, jI v1)]) rfl ?_
      exact t_X1_stand_J117 B v1 1 m _ hf hq
    · refine J_pick [0, 1] (ls' := [(0, jR 32), (1, jI v1)]) rfl ?_
      exact t_X1_stand_J116 B v1 m _ hf hq
theorem t_X1_stand {l : Launch} {G : jG} (hl : l.stackTraces = false) {a0 : Int} {a1 : Int} {m : jMu} {r : jMu} (hf : f_X1_stand a0 a1 m = some r) : jCt l G yX1_stand (.code yX1_stand cX1_stand 4 none :: jWG) rm_X1_stand [jR 32, jI a0, jI a1] SKF m (.inl none) SKF r := by
  unfold f_X1_stand at hf
  refine J_start (ls0 := [(0, jR 32), (1, jI a0), (2, jI a1)]) (by decide +kernel) hl (Nat.le_of_ble_eq_true rfl) rfl fun X C hN hn hR hr hnm hno hq => ?_
  have B : jB X cX1_stand RX1 4 SKF.length rm_X1_stand none := ⟨C, hN, Nat.le_of_eq hn, hR, hr⟩
  refine B_blk B jlkX1_ok jcl_SKF [.aload_n 0, .iload_n 2, .bipush 12] (by decide +kernel) (ls' := [(0, jR 32), (1, jI a0), (2, jI a1)]) (st' := [jI 12, jI a1, jR 32]) rfl (p1 := 4) rfl ?_
  refine K_idiv B (by decide) (by decide +kernel) ?_
  refine K_putI (jI' := 5) B jp_X1_15 rfl rfl rfl (by decide +kernel) ?_
  obtain ⟨m1, hm1, hf⟩ := jlt_s hf
  rw [hm1]
  refine B_blk B jlkX1_ok jcl_SKF [.aload_n 0, .iload_n 2, .bipush 12] (by decide +kernel) (ls' := [(0, jR 32), (1, jI a0), (2, jI a1)]) (st' := [jI 12, jI a1, jR 32]) rfl (p1 := 12) rfl ?_
  refine K_irem B (by decide) (by decide +kernel) ?_
  refine K_putI (jI' := 6) B jp_X1_19 rfl rfl rfl (by decide +kernel) ?_
  obtain ⟨m2, hm2, hf⟩ := jlt_s hf
  rw [hm2]
  refine B_blk B jlkX1_ok jcl_SKF [.aload_n 0, .aload_n 0, .getfield 9, .getfield 22, .iload_n 1, .iconst 1] (by decide +kernel) (ls' := [(0, jR 32), (1, jI a0), (2, jI a1)]) (st' := [jI 1, jI a0, jR 4, jR 32]) rfl (p1 := 26) rfl ?_
  obtain ⟨r3, h3, hf⟩ := jbd hf
  refine B_callV B (Nat.le_refl _) (μ' := m2) (k' := 0) (n' := 0) ca_X5_get in_X5_get se_X5_get lk_X1_28 (t_X5_get B.tr jcl_SKF ⟨rfl, rfl, by decide⟩ h3) (Nat.le_refl _) rfl rfl rfl (rest := [jR 32]) rfl rfl (Nat.le_of_ble_eq_true rfl) (by decide +kernel) rfl rfl (st' := [jI r3, jR 32]) rfl ?_
  refine K_putI (jI' := 9) B jp_X1_34 rfl rfl rfl (by decide +kernel) ?_
  obtain ⟨m4, hm4, hf⟩ := jlt_s hf
  rw [hm4]
  refine B_blk B jlkX1_ok jcl_SKF [.aload_n 0, .aload_n 0, .getfield 9, .getfield 22, .iload_n 1, .iconst 0] (by decide +kernel) (ls' := [(0, jR 32), (1, jI a0), (2, jI a1)]) (st' := [jI 0, jI a0, jR 4, jR 32]) rfl (p1 := 42) rfl ?_
  obtain ⟨r5, h5, hf⟩ := jbd hf
  refine B_callV B (Nat.le_refl _) (μ' := m4) (k' := 0) (n' := 0) ca_X5_get in_X5_get se_X5_get lk_X1_28 (t_X5_get B.tr jcl_SKF ⟨rfl, rfl, by decide⟩ h5) (Nat.le_refl _) rfl rfl rfl (rest := [jR 32]) rfl rfl (Nat.le_of_ble_eq_true rfl) (by decide +kernel) rfl rfl (st' := [jI r5, jR 32]) rfl ?_
  refine K_putI (jI' := 10) B jp_X1_37 rfl rfl rfl (by decide +kernel) ?_
  obtain ⟨m6, hm6, hf⟩ := jlt_s hf
  rw [hm6]
  refine B_blk B jlkX1_ok jcl_SKF [.aload_n 0, .aload_n 0, .getfield 9, .getfield 40, .aload_n 0, .getfield 15] (by decide +kernel) (ls' := [(0, jR 32), (1, jI a0), (2, jI a1)]) (st' := [jI (m6 32 5), jR 10, jR 32]) rfl (p1 := 60) rfl ?_
  obtain ⟨r7, h7, hf⟩ := jbd hf
  refine B_callV B (Nat.le_refl _) (μ' := m6) (k' := 0) (n' := 0) ca_X5_isSpannedByAny in_X5_isSpannedByAny se_X5_isSpannedByAny lk_X1_43 (t_X5_isSpannedByAny B.tr jcl_SKF ⟨rfl, rfl, by decide⟩ h7) (Nat.le_refl _) rfl rfl rfl (rest := [jR 32]) rfl rfl (Nat.le_of_ble_eq_true rfl) (by decide +kernel) rfl rfl (st' := [jI r7, jR 32]) rfl ?_
  obtain ⟨g16, hf⟩ := jgd hf
  refine K_putZ (jI' := 1) B jp_X1_47 rfl rfl rfl g16 (by decide +kernel) ?_
  obtain ⟨m8, hm8, hf⟩ := jlt_s hf
  rw [hm8]
  refine B_blk B jlkX1_ok jcl_SKF [.aload_n 0, .getfield 9, .getfield 51, .aload_n 0, .getfield 19, .ishr, .iconst 1, .iand, .iconst 1] (by decide +kernel) (ls' := [(0, jR 32), (1, jI a0), (2, jI a1)]) (st' := [jI 1, jI (jAn (jSr (m8 1 15) (m8 32 6)) 1)]) rfl (p1 := 81) rfl ?_
  refine J_icmp_ne B.1 (off := 7) (tgt := 88) (by decide +kernel) (by decide) hf (fun hf => ?_) (fun hf => ?_)
  · refine B_blk B jlkX1_ok jcl_SKF [.iconst 1, .goto 4] (by decide +kernel) (ls' := [(0, jR 32), (1, jI a0), (2, jI a1)]) (st' := [jI 1]) rfl (p1 := 89) rfl ?_
    refine J_pick [0, 1] (ls' := [(0, jR 32), (1, jI a0)]) rfl ?_
    exact t_X1_stand_J89 B a0 1 m8 _ hf hq
  · refine B_blk B jlkX1_ok jcl_SKF [.iconst 0] (by decide +kernel) (ls' := [(0, jR 32), (1, jI a0), (2, jI a1)]) (st' := [jI 0]) rfl (p1 := 89) rfl ?_
    refine J_pick [0, 1] (ls' := [(0, jR 32), (1, jI a0)]) rfl ?_
    exact t_X1_stand_J89 B a0 0 m8 _ hf hq

def rm_X1_joined : Room := { frames := 2, cells := 0, slots := 0, locals := 64 }
def f_X1_joined (a0 : Int) (a1 : Int) : Option Int :=
  (if a1 = 105 then some (jOr (jSr a0 1) (jAn a0 1)) else (if a1 = 106 then some (jAn (jSr a0 1) (jOr a0 (-2))) else (if a1 = 107 then some (jXo a0 1) else some a0)))
theorem t_X1_joined {l : Launch} {G : jG} (hl : l.stackTraces = false) {S : List jSh} (hcl : jcl S) {a0 : Int} {a1 : Int} {μ : jMu} {r : Int} (hf : f_X1_joined a0 a1 = some r) : jCt l G yX1_joined (.code yX1_joined cX1_joined 2 (some .int) :: jWG) rm_X1_joined [jI a0, jI a1] S μ (.inl (some (jI r))) S μ := by
  unfold f_X1_joined at hf
  refine J_start (ls0 := [(0, jI a0), (1, jI a1)]) (by decide +kernel) hl (Nat.le_of_ble_eq_true rfl) rfl fun X C hN hn hR hr hnm hno hq => ?_
  have B : jB X cX1_joined RX1 2 S.length rm_X1_joined (some .int) := ⟨C, hN, Nat.le_of_eq hn, hR, hr⟩
  refine B_blk B jlkX1_ok hcl [.iload_n 1] (by decide +kernel) (ls' := [(0, jI a0), (1, jI a1)]) (st' := [jI a1]) rfl (p1 := 1) rfl ?_
  rcases jite hf with ⟨c3, hf⟩ | ⟨c3, hf⟩
  · refine K_tswI B (off := 40) (tgt := 41) c3 (dflt := 48) (lo := 105) (hi := 107) (offs := #[40, 31, 27]) (len := 27) (by decide +kernel) (by decide) (by decide) rfl (by decide) ?_
    refine B_blk B jlkX1_ok hcl [.iload_n 0, .iconst 1, .ishr, .iload_n 0, .iconst 1, .iand, .ior] (by decide +kernel) (ls' := [(0, jI a0), (1, jI a1)]) (st' := [jI (jOr (jSr a0 1) (jAn a0 1))]) rfl (p1 := 48) rfl ?_
    cases hf
    exact B_retI B hq rfl (Nat.le_of_ble_eq_true rfl) (Nat.le_of_ble_eq_true rfl) (by decide +kernel)
  · rcases jite hf with ⟨c2, hf⟩ | ⟨c2, hf⟩
    · refine K_tswI B (off := 31) (tgt := 32) c2 (dflt := 48) (lo := 105) (hi := 107) (offs := #[40, 31, 27]) (len := 27) (by decide +kernel) (by decide) (by decide) rfl (by decide) ?_
      refine B_blk B jlkX1_ok hcl [.iload_n 0, .iconst 1, .ishr, .iload_n 0, .bipush (-2), .ior, .iand] (by decide +kernel) (ls' := [(0, jI a0), (1, jI a1)]) (st' := [jI (jAn (jSr a0 1) (jOr a0 (-2)))]) rfl (p1 := 40) rfl ?_
      cases hf
      exact B_retI B hq rfl (Nat.le_of_ble_eq_true rfl) (Nat.le_of_ble_eq_true rfl) (by decide +kernel)
    · rcases jite hf with ⟨c1, hf⟩ | ⟨c1, hf⟩
      · refine K_tswI B (off := 27) (tgt := 28) c1 (dflt := 48) (lo := 105) (hi := 107) (offs := #[40, 31, 27]) (len := 27) (by decide +kernel) (by decide) (by decide) rfl (by decide) ?_
        refine B_blk B jlkX1_ok hcl [.iload_n 0, .iconst 1, .ixor] (by decide +kernel) (ls' := [(0, jI a0), (1, jI a1)]) (st' := [jI (jXo a0 1)]) rfl (p1 := 31) rfl ?_
        cases hf
        exact B_retI B hq rfl (Nat.le_of_ble_eq_true rfl) (Nat.le_of_ble_eq_true rfl) (by decide +kernel)
      · refine J_tswO B.1 (tgt := 49) (dflt := 48) (lo := 105) (hi := 107) (offs := #[40, 31, 27]) (len := 27) (by decide +kernel) (by omega) (by decide) ?_
        refine B_blk B jlkX1_ok hcl [.iload_n 0] (by decide +kernel) (ls' := [(0, jI a0), (1, jI a1)]) (st' := [jI a0]) rfl (p1 := 50) rfl ?_
        cases hf
        exact B_retI B hq rfl (Nat.le_of_ble_eq_true rfl) (Nat.le_of_ble_eq_true rfl) (by decide +kernel)

def rm_X1_factHere : Room := { frames := 2, cells := 0, slots := 0, locals := 64 }
def f_X1_factHere (a0 : Int) (m : jMu) : Option Int :=
  (if a0 = 108 then some (m 32 2) else (if a0 = 109 then some (m 32 3) else (if a0 = 110 then some (m 32 4) else (if a0 = 111 then some (m 32 5) else (if a0 = 112 then some (m 32 6) else (if a0 = 113 then some (m 32 7) else (if a0 = 114 then some (m 32 8) else (if a0 = 115 then some (m 32 9) else (if a0 = 116 then some (m 32 10) else some 0)))))))))
theorem t_X1_factHere {l : Launch} {G : jG} (hl : l.stackTraces = false) {a0 : Int} {m : jMu} {r : Int} (hf : f_X1_factHere a0 m = some r) : jCt l G yX1_factHere (.code yX1_factHere cX1_factHere 2 (some .int) :: jWG) rm_X1_factHere [jR 32, jI a0] SKF m (.inl (some (jI r))) SKF m := by
  unfold f_X1_factHere at hf
  refine J_start (ls0 := [(0, jR 32), (1, jI a0)]) (by decide +kernel) hl (Nat.le_of_ble_eq_true rfl) rfl fun X C hN hn hR hr hnm hno hq => ?_
  have B : jB X cX1_factHere RX1 2 SKF.length rm_X1_factHere (some .int) := ⟨C, hN, Nat.le_of_eq hn, hR, hr⟩
  refine B_blk B jlkX1_ok jcl_SKF [.iload_n 1] (by decide +kernel) (ls' := [(0, jR 32), (1, jI a0)]) (st' := [jI a0]) rfl (p1 := 1) rfl ?_
  rcases jite hf with ⟨c9, hf⟩ | ⟨c9, hf⟩
  · refine K_tswI B (off := 51) (tgt := 52) c9 (dflt := 96) (lo := 108) (hi := 116) (offs := #[51, 56, 61, 66, 71, 76, 81, 86, 91]) (len := 51) (by decide +kernel) (by decide) (by decide) rfl (by decide) ?_
    refine B_blk B jlkX1_ok jcl_SKF [.aload_n 0, .getfield 83] (by decide +kernel) (ls' := [(0, jR 32), (1, jI a0)]) (st' := [jI (m 32 2)]) rfl (p1 := 56) rfl ?_
    cases hf
    exact B_retI B hq rfl (Nat.le_of_ble_eq_true rfl) (Nat.le_of_ble_eq_true rfl) (by decide +kernel)
  · rcases jite hf with ⟨c8, hf⟩ | ⟨c8, hf⟩
    · refine K_tswI B (off := 56) (tgt := 57) c8 (dflt := 96) (lo := 108) (hi := 116) (offs := #[51, 56, 61, 66, 71, 76, 81, 86, 91]) (len := 51) (by decide +kernel) (by decide) (by decide) rfl (by decide) ?_
      refine B_blk B jlkX1_ok jcl_SKF [.aload_n 0, .getfield 57] (by decide +kernel) (ls' := [(0, jR 32), (1, jI a0)]) (st' := [jI (m 32 3)]) rfl (p1 := 61) rfl ?_
      cases hf
      exact B_retI B hq rfl (Nat.le_of_ble_eq_true rfl) (Nat.le_of_ble_eq_true rfl) (by decide +kernel)
    · rcases jite hf with ⟨c7, hf⟩ | ⟨c7, hf⟩
      · refine K_tswI B (off := 61) (tgt := 62) c7 (dflt := 96) (lo := 108) (hi := 116) (offs := #[51, 56, 61, 66, 71, 76, 81, 86, 91]) (len := 51) (by decide +kernel) (by decide) (by decide) rfl (by decide) ?_
        refine B_blk B jlkX1_ok jcl_SKF [.aload_n 0, .getfield 63] (by decide +kernel) (ls' := [(0, jR 32), (1, jI a0)]) (st' := [jI (m 32 4)]) rfl (p1 := 66) rfl ?_
        cases hf
        exact B_retI B hq rfl (Nat.le_of_ble_eq_true rfl) (Nat.le_of_ble_eq_true rfl) (by decide +kernel)
      · rcases jite hf with ⟨c6, hf⟩ | ⟨c6, hf⟩
        · refine K_tswI B (off := 66) (tgt := 67) c6 (dflt := 96) (lo := 108) (hi := 116) (offs := #[51, 56, 61, 66, 71, 76, 81, 86, 91]) (len := 51) (by decide +kernel) (by decide) (by decide) rfl (by decide) ?_
          refine B_blk B jlkX1_ok jcl_SKF [.aload_n 0, .getfield 15] (by decide +kernel) (ls' := [(0, jR 32), (1, jI a0)]) (st' := [jI (m 32 5)]) rfl (p1 := 71) rfl ?_
          cases hf
          exact B_retI B hq rfl (Nat.le_of_ble_eq_true rfl) (Nat.le_of_ble_eq_true rfl) (by decide +kernel)
        · rcases jite hf with ⟨c5, hf⟩ | ⟨c5, hf⟩
          · refine K_tswI B (off := 71) (tgt := 72) c5 (dflt := 96) (lo := 108) (hi := 116) (offs := #[51, 56, 61, 66, 71, 76, 81, 86, 91]) (len := 51) (by decide +kernel) (by decide) (by decide) rfl (by decide) ?_
            refine B_blk B jlkX1_ok jcl_SKF [.aload_n 0, .getfield 19] (by decide +kernel) (ls' := [(0, jR 32), (1, jI a0)]) (st' := [jI (m 32 6)]) rfl (p1 := 76) rfl ?_
            cases hf
            exact B_retI B hq rfl (Nat.le_of_ble_eq_true rfl) (Nat.le_of_ble_eq_true rfl) (by decide +kernel)
          · rcases jite hf with ⟨c4, hf⟩ | ⟨c4, hf⟩
            · refine K_tswI B (off := 76) (tgt := 77) c4 (dflt := 96) (lo := 108) (hi := 116) (offs := #[51, 56, 61, 66, 71, 76, 81, 86, 91]) (len := 51) (by decide +kernel) (by decide) (by decide) rfl (by decide) ?_
              refine B_blk B jlkX1_ok jcl_SKF [.aload_n 0, .getfield 86] (by decide +kernel) (ls' := [(0, jR 32), (1, jI a0)]) (st' := [jI (m 32 7)]) rfl (p1 := 81) rfl ?_
              cases hf
              exact B_retI B hq rfl (Nat.le_of_ble_eq_true rfl) (Nat.le_of_ble_eq_true rfl) (by decide +kernel)
            · rcases jite hf with ⟨c3, hf⟩ | ⟨c3, hf⟩
              · refine K_tswI B (off := 81) (tgt := 82) c3 (dflt := 96) (lo := 108) (hi := 116) (offs := #[51, 56, 61, 66, 71, 76, 81, 86, 91]) (len := 51) (by decide +kernel) (by decide) (by decide) rfl (by decide) ?_
                refine B_blk B jlkX1_ok jcl_SKF [.aload_n 0, .getfield 89] (by decide +kernel) (ls' := [(0, jR 32), (1, jI a0)]) (st' := [jI (m 32 8)]) rfl (p1 := 86) rfl ?_
                cases hf
                exact B_retI B hq rfl (Nat.le_of_ble_eq_true rfl) (Nat.le_of_ble_eq_true rfl) (by decide +kernel)
              · rcases jite hf with ⟨c2, hf⟩ | ⟨c2, hf⟩
                · refine K_tswI B (off := 86) (tgt := 87) c2 (dflt := 96) (lo := 108) (hi := 116) (offs := #[51, 56, 61, 66, 71, 76, 81, 86, 91]) (len := 51) (by decide +kernel) (by decide) (by decide) rfl (by decide) ?_
                  refine B_blk B jlkX1_ok jcl_SKF [.aload_n 0, .getfield 34] (by decide +kernel) (ls' := [(0, jR 32), (1, jI a0)]) (st' := [jI (m 32 9)]) rfl (p1 := 91) rfl ?_
                  cases hf
                  exact B_retI B hq rfl (Nat.le_of_ble_eq_true rfl) (Nat.le_of_ble_eq_true rfl) (by decide +kernel)
                · rcases jite hf with ⟨c1, hf⟩ | ⟨c1, hf⟩
                  · refine K_tswI B (off := 91) (tgt := 92) c1 (dflt := 96) (lo := 108) (hi := 116) (offs := #[51, 56, 61, 66, 71, 76, 81, 86, 91]) (len := 51) (by decide +kernel) (by decide) (by decide) rfl (by decide) ?_
                    refine B_blk B jlkX1_ok jcl_SKF [.aload_n 0, .getfield 37] (by decide +kernel) (ls' := [(0, jR 32), (1, jI a0)]) (st' := [jI (m 32 10)]) rfl (p1 := 96) rfl ?_
                    cases hf
                    exact B_retI B hq rfl (Nat.le_of_ble_eq_true rfl) (Nat.le_of_ble_eq_true rfl) (by decide +kernel)
                  · refine J_tswO B.1 (tgt := 97) (dflt := 96) (lo := 108) (hi := 116) (offs := #[51, 56, 61, 66, 71, 76, 81, 86, 91]) (len := 51) (by decide +kernel) (by omega) (by decide) ?_
                    refine B_blk B jlkX1_ok jcl_SKF [.iconst 0] (by decide +kernel) (ls' := [(0, jR 32), (1, jI a0)]) (st' := [jI 0]) rfl (p1 := 98) rfl ?_
                    cases hf
                    exact B_retI B hq rfl (Nat.le_of_ble_eq_true rfl) (Nat.le_of_ble_eq_true rfl) (by decide +kernel)

def rm_X1_holdsHere : Room := { frames := 4, cells := 0, slots := 0, locals := 87 }
def f_X1_holdsHere_L35 : Nat → Int → Int → Int → Int → Int → jMu → Option Int
  | 0, _, _, _, _, _, _ => none
  | q + 1, v2, v3, v4, v5, v6, m => (if v2 ≤ v6 then (if jAn v3 1 = 1 then some 1 else some 0) else (f_X5_get 18 19 1600 v6 0 m).bind fun r3 => (f_X7_isNumber r3).bind fun r4 => (if r4 = 0 then (f_X7_isFact r3).bind fun r5 => (if r5 = 0 then (f_X7_isTag r3).bind fun r6 => (if r6 = 0 then (if r3 = 132 then f_X1_holdsHere_L35 q v2 v3 v5 0 (jW (v6 + 1)) m else (if r3 = 124 then (if r3 = 124 then (if v5 ≤ v4 then f_X1_holdsHere_L35 q v2 (jOr (jSl v3 1) 0) v4 0 (jW (v6 + 1)) m else f_X1_holdsHere_L35 q v2 (jOr (jSl v3 1) 1) v4 0 (jW (v6 + 1)) m) else (if v4 ≤ v5 then f_X1_holdsHere_L35 q v2 (jOr (jSl v3 1) 0) v4 0 (jW (v6 + 1)) m else f_X1_holdsHere_L35 q v2 (jOr (jSl v3 1) 1) v4 0 (jW (v6 + 1)) m)) else (if r3 = 125 then (if r3 = 124 then (if v5 ≤ v4 then f_X1_holdsHere_L35 q v2 (jOr (jSl v3 1) 0) v4 0 (jW (v6 + 1)) m else f_X1_holdsHere_L35 q v2 (jOr (jSl v3 1) 1) v4 0 (jW (v6 + 1)) m) else (if v4 ≤ v5 then f_X1_holdsHere_L35 q v2 (jOr (jSl v3 1) 0) v4 0 (jW (v6 + 1)) m else f_X1_holdsHere_L35 q v2 (jOr (jSl v3 1) 1) v4 0 (jW (v6 + 1)) m)) else (f_X1_joined v3 r3).bind fun r7 => f_X1_holdsHere_L35 q v2 r7 v4 v5 (jW (v6 + 1)) m))) else (f_X1_factHere r3 m).bind fun r8 => f_X1_holdsHere_L35 q v2 (jOr (jSl v3 1) r8) v4 v5 (jW (v6 + 1)) m) else (f_X1_factHere r3 m).bind fun r9 => f_X1_holdsHere_L35 q v2 v3 v4 (jW (v5 + r9)) (jW (v6 + 1)) m) else f_X1_holdsHere_L35 q v2 v3 v4 (jW (v5 + r3)) (jW (v6 + 1)) m))
def f_X1_holdsHere (a0 : Int) (m : jMu) : Option Int :=
  (f_X5_get 16 17 160 a0 3 m).bind fun r1 => (f_X5_get 16 17 160 a0 2 m).bind fun r2 => f_X1_holdsHere_L35 jFU r1 1 0 0 r2 m
theorem t_X1_holdsHere_L35 {X : jX} (B : jB X cX1_holdsHere RX1 9 SKF.length rm_X1_holdsHere (some .boolean)) : ∀ (q : Nat) (v2 : Int) (v3 : Int) (v4 : Int) (v5 : Int) (v6 : Int) (m : jMu) (r : Int), f_X1_holdsHere_L35 q v2 v3 v4 v5 v6 m = some r → jQ X (.inl (some (jI r))) SKF m rm_X1_holdsHere.cells rm_X1_holdsHere.slots → J X SKF m 0 0 35 [(0, jR 32), (2, jI v2), (3, jI v3), (4, jI v4), (5, jI v5), (6, jI v6)] [] := by
  intro q
  induction q with
  | zero =>
    intro v2 v3 v4 v5 v6 m r hf
    rw [f_X1_holdsHere_L35] at hf
    cases hf
  | succ q ih =>
    intro v2 v3 v4 v5 v6 m r hf hq
    rw [f_X1_holdsHere_L35] at hf
    refine B_blk B jlkX1_ok jcl_SKF [.iload 6, .iload_n 2] (by decide +kernel) (ls' := [(0, jR 32), (2, jI v2), (3, jI v3), (4, jI v4), (5, jI v5), (6, jI v6)]) (st' := [jI v2, jI v6]) rfl (p1 := 38) rfl ?_
    refine J_icmp_ge B.1 (off := 182) (tgt := 220) (by decide +kernel) (by decide) hf (fun hf => ?_) (fun hf => ?_)
    · refine B_blk B jlkX1_ok jcl_SKF [.iload_n 3, .iconst 1, .iand, .iconst 1] (by decide +kernel) (ls' := [(0, jR 32), (2, jI v2), (3, jI v3), (4, jI v4), (5, jI v5), (6, jI v6)]) (st' := [jI 1, jI (jAn v3 1)]) rfl (p1 := 224) rfl ?_
      refine J_icmp_ne B.1 (off := 7) (tgt := 231) (by decide +kernel) (by decide) hf (fun hf => ?_) (fun hf => ?_)
      · refine B_blk B jlkX1_ok jcl_SKF [.iconst 1, .goto 4] (by decide +kernel) (ls' := [(0, jR 32), (2, jI v2), (3, jI v3), (4, jI v4), (5, jI v5), (6, jI v6)]) (st' := [jI 1]) rfl (p1 := 232) rfl ?_
        cases hf
        exact B_retZ B (Or.inr rfl) hq rfl (Nat.le_of_ble_eq_true rfl) (Nat.le_of_ble_eq_true rfl) (by decide +kernel)
      · refine B_blk B jlkX1_ok jcl_SKF [.iconst 0] (by decide +kernel) (ls' := [(0, jR 32), (2, jI v2), (3, jI v3), (4, jI v4), (5, jI v5), (6, jI v6)]) (st' := [jI 0]) rfl (p1 := 232) rfl ?_
        cases hf
        exact B_retZ B (Or.inl rfl) hq rfl (Nat.le_of_ble_eq_true rfl) (Nat.le_of_ble_eq_true rfl) (by decide +kernel)
    · refine B_blk B jlkX1_ok jcl_SKF [.aload_n 0, .getfield 9, .getfield 123, .iload 6, .iconst 0] (by decide +kernel) (ls' := [(0, jR 32), (2, jI v2), (3, jI v3), (4, jI v4), (5, jI v5), (6, jI v6)]) (st' := [jI 0, jI v6, jR 18]) rfl (p1 := 51) rfl ?_
      obtain ⟨r3, h3, hf⟩ := jbd hf
      refine B_callV B (Nat.le_refl _) (μ' := m) (k' := 0) (n' := 0) ca_X5_get in_X5_get se_X5_get lk_X1_28 (t_X5_get B.tr jcl_SKF ⟨rfl, rfl, by decide⟩ h3) (Nat.le_refl _) rfl rfl rfl (rest := []) rfl rfl (Nat.le_of_ble_eq_true rfl) (by decide +kernel) rfl rfl (st' := [jI r3]) rfl ?_
      refine B_blk B jlkX1_ok jcl_SKF [.istore 7, .iload 7] (by decide +kernel) (ls' := [(0, jR 32), (2, jI v2), (3, jI v3), (4, jI v4), (5, jI v5), (6, jI v6), (7, jI r3)]) (st' := [jI r3]) rfl (p1 := 58) rfl ?_
      obtain ⟨r4, h4, hf⟩ := jbd hf
      refine B_callS B (Nat.le_refl _) (μ' := m) (k' := 0) (n' := 0) ca_X7_isNumber sa_X7_isNumber lk_X1_126 (t_X7_isNumber B.tr jcl_SKF h4) (Nat.le_refl _) rfl (rest := []) rfl rfl (Nat.le_of_ble_eq_true rfl) (by decide +kernel) rfl rfl (st' := [jI r4]) rfl ?_
      refine J_if_eq B.1 (off := 13) (tgt := 74) (by decide +kernel) (by decide) hf (fun hf => ?_) (fun hf => ?_)
      · refine B_blk B jlkX1_ok jcl_SKF [.iload 7] (by decide +kernel) (ls' := [(0, jR 32), (2, jI v2), (3, jI v3), (4, jI v4), (5, jI v5), (6, jI v6), (7, jI r3)]) (st' := [jI r3]) rfl (p1 := 76) rfl ?_
        obtain ⟨r5, h5, hf⟩ := jbd hf
        refine B_callS B (Nat.le_refl _) (μ' := m) (k' := 0) (n' := 0) ca_X7_isFact sa_X7_isFact lk_X1_129 (t_X7_isFact B.tr jcl_SKF h5) (Nat.le_refl _) rfl (rest := []) rfl rfl (Nat.le_of_ble_eq_true rfl) (by decide +kernel) rfl rfl (st' := [jI r5]) rfl ?_
        refine J_if_eq B.1 (off := 17) (tgt := 96) (by decide +kernel) (by decide) hf (fun hf => ?_) (fun hf => ?_)
        · refine B_blk B jlkX1_ok jcl_SKF [.iload 7] (by decide +kernel) (ls' := [(0, jR 32), (2, jI v2), (3, jI v3), (4, jI v4), (5, jI v5), (6, jI v6), (7, jI r3)]) (st' := [jI r3]) rfl (p1 := 98) rfl ?_
          obtain ⟨r6, h6, hf⟩ := jbd hf
          refine B_callS B (Nat.le_refl _) (μ' := m) (k' := 0) (n' := 0) ca_X7_isTag sa_X7_isTag lk_X1_135 (t_X7_isTag B.tr jcl_SKF h6) (Nat.le_refl _) rfl (rest := []) rfl rfl (Nat.le_of_ble_eq_true rfl) (by decide +kernel) rfl rfl (st' := [jI r6]) rfl ?_
          refine J_if_eq B.1 (off := 17) (tgt := 118) (by decide +kernel) (by decide) hf (fun hf => ?_) (fun hf => ?_)
          · refine B_blk B jlkX1_ok jcl_SKF [.iload 7, .sipush 132] (by decide +kernel) (ls' := [(0, jR 32), (2, jI v2), (3, jI v3), (4, jI v4), (5, jI v5), (6, jI v6), (7, jI r3)]) (st' := [jI 132, jI r3]) rfl (p1 := 123) rfl ?_
            refine J_icmp_ne B.1 (off := 13) (tgt := 136) (by decide +kernel) (by decide) hf (fun hf => ?_) (fun hf => ?_)
            · refine B_blk B jlkX1_ok jcl_SKF [.iload 5, .istore 4, .iconst 0, .istore 5, .goto 81, .iinc 6 1, .goto (-182)] (by decide +kernel) (ls' := [(0, jR 32), (2, jI v2), (3, jI v3), (4, jI v5), (5, jI 0), (6, jI (jW (v6 + 1))), (7, jI r3)]) (st' := []) rfl (p1 := 35) rfl ?_
              refine J_pick [0, 1, 2, 3, 4, 5] (ls' := [(0, jR 32), (2, jI v2), (3, jI v3), (4, jI v5), (5, jI 0), (6, jI (jW (v6 + 1)))]) rfl ?_
              exact ih v2 v3 v5 0 (jW (v6 + 1)) m _ hf hq
            · refine B_blk B jlkX1_ok jcl_SKF [.iload 7, .bipush 124] (by decide +kernel) (ls' := [(0, jR 32), (2, jI v2), (3, jI v3), (4, jI v4), (5, jI v5), (6, jI v6), (7, jI r3)]) (st' := [jI 124, jI r3]) rfl (p1 := 140) rfl ?_
              refine J_icmp_eq B.1 (off := 10) (tgt := 150) (by decide +kernel) (by decide) hf (fun hf => ?_) (fun hf => ?_)
              · refine B_blk B jlkX1_ok jcl_SKF [.iload 7, .bipush 124] (by decide +kernel) (ls' := [(0, jR 32), (2, jI v2), (3, jI v3), (4, jI v4), (5, jI v5), (6, jI v6), (7, jI r3)]) (st' := [jI 124, jI r3]) rfl (p1 := 154) rfl ?_
                refine J_icmp_ne B.1 (off := 18) (tgt := 172) (by decide +kernel) (by decide) hf (fun hf => ?_) (fun hf => ?_)
                · refine B_blk B jlkX1_ok jcl_SKF [.iload 4, .iload 5] (by decide +kernel) (ls' := [(0, jR 32), (2, jI v2), (3, jI v3), (4, jI v4), (5, jI v5), (6, jI v6), (7, jI r3)]) (st' := [jI v5, jI v4]) rfl (p1 := 161) rfl ?_
                  refine J_icmp_ge B.1 (off := 7) (tgt := 168) (by decide +kernel) (by decide) hf (fun hf => ?_) (fun hf => ?_)
                  · refine B_blk B jlkX1_ok jcl_SKF [.iconst 0, .goto 15, .istore 8, .iload_n 3, .iconst 1, .ishl, .iload 8] (by decide +kernel) (ls' := [(0, jR 32), (2, jI v2), (3, jI v3), (4, jI v4), (5, jI v5), (6, jI v6), (7, jI r3), (8, jI 0)]) (st' := [jI 0, jI (jSl v3 1)]) rfl (p1 := 191) rfl ?_
                    refine J_if_eq (T := some ()) (F := none) (r := ()) B.1 (off := 7) (tgt := 198) (by decide +kernel) (by decide) (if_pos (by decide)) (fun _ => ?_) (fun h => nomatch h)
                    refine B_blk B jlkX1_ok jcl_SKF [.iconst 0, .ior, .istore_n 3, .iconst 0, .istore 5, .goto 10, .iinc 6 1, .goto (-182)] (by decide +kernel) (ls' := [(0, jR 32), (2, jI v2), (3, jI (jOr (jSl v3 1) 0)), (4, jI v4), (5, jI 0), (6, jI (jW (v6 + 1))), (7, jI r3), (8, jI 0)]) (st' := []) rfl (p1 := 35) rfl ?_
                    refine J_pick [0, 1, 2, 3, 4, 5] (ls' := [(0, jR 32), (2, jI v2), (3, jI (jOr (jSl v3 1) 0)), (4, jI v4), (5, jI 0), (6, jI (jW (v6 + 1)))]) rfl ?_
                    exact ih v2 (jOr (jSl v3 1) 0) v4 0 (jW (v6 + 1)) m _ hf hq
                  · refine B_blk B jlkX1_ok jcl_SKF [.iconst 1, .goto 19, .istore 8, .iload_n 3, .iconst 1, .ishl, .iload 8] (by decide +kernel) (ls' := [(0, jR 32), (2, jI v2), (3, jI v3), (4, jI v4), (5, jI v5), (6, jI v6), (7, jI r3), (8, jI 1)]) (st' := [jI 1, jI (jSl v3 1)]) rfl (p1 := 191) rfl ?_
                    refine J_if_eq (T := none) (F := some ()) (r := ()) B.1 (off := 7) (tgt := 198) (by decide +kernel) (by decide) (if_neg (by decide)) (fun h => nomatch h) (fun _ => ?_)
                    refine B_blk B jlkX1_ok jcl_SKF [.iconst 1, .goto 4, .ior, .istore_n 3, .iconst 0, .istore 5, .goto 10, .iinc 6 1, .goto (-182)] (by decide +kernel) (ls' := [(0, jR 32), (2, jI v2), (3, jI (jOr (jSl v3 1) 1)), (4, jI v4), (5, jI 0), (6, jI (jW (v6 + 1))), (7, jI r3), (8, jI 1)]) (st' := []) rfl (p1 := 35) rfl ?_
                    refine J_pick [0, 1, 2, 3, 4, 5] (ls' := [(0, jR 32), (2, jI v2), (3, jI (jOr (jSl v3 1) 1)), (4, jI v4), (5, jI 0), (6, jI (jW (v6 + 1)))]) rfl ?_
                    exact ih v2 (jOr (jSl v3 1) 1) v4 0 (jW (v6 + 1)) m _ hf hq
                · refine B_blk B jlkX1_ok jcl_SKF [.iload 4, .iload 5] (by decide +kernel) (ls' := [(0, jR 32), (2, jI v2), (3, jI v3), (4, jI v4), (5, jI v5), (6, jI v6), (7, jI r3)]) (st' := [jI v5, jI v4]) rfl (p1 := 176) rfl ?_
                  refine J_icmp_le B.1 (off := 7) (tgt := 183) (by decide +kernel) (by decide) hf (fun hf => ?_) (fun hf => ?_)
                  · refine B_blk B jlkX1_ok jcl_SKF [.iconst 0, .istore 8, .iload_n 3, .iconst 1, .ishl, .iload 8] (by decide +kernel) (ls' := [(0, jR 32), (2, jI v2), (3, jI v3), (4, jI v4), (5, jI v5), (6, jI v6), (7, jI r3), (8, jI 0)]) (st' := [jI 0, jI (jSl v3 1)]) rfl (p1 := 191) rfl ?_
                    refine J_if_eq (T := some ()) (F := none) (r := ()) B.1 (off := 7) (tgt := 198) (by decide +kernel) (by decide) (if_pos (by decide)) (fun _ => ?_) (fun h => nomatch h)
                    refine B_blk B jlkX1_ok jcl_SKF [.iconst 0, .ior, .istore_n 3, .iconst 0, .istore 5, .goto 10, .iinc 6 1, .goto (-182)] (by decide +kernel) (ls' := [(0, jR 32), (2, jI v2), (3, jI (jOr (jSl v3 1) 0)), (4, jI v4), (5, jI 0), (6, jI (jW (v6 + 1))), (7, jI r3), (8, jI 0)]) (st' := []) rfl (p1 := 35) rfl ?_
                    refine J_pick [0, 1, 2, 3, 4, 5] (ls' := [(0, jR 32), (2, jI v2), (3, jI (jOr (jSl v3 1) 0)), (4, jI v4), (5, jI 0), (6, jI (jW (v6 + 1)))]) rfl ?_
                    exact ih v2 (jOr (jSl v3 1) 0) v4 0 (jW (v6 + 1)) m _ hf hq
                  · refine B_blk B jlkX1_ok jcl_SKF [.iconst 1, .goto 4, .istore 8, .iload_n 3, .iconst 1, .ishl, .iload 8] (by decide +kernel) (ls' := [(0, jR 32), (2, jI v2), (3, jI v3), (4, jI v4), (5, jI v5), (6, jI v6), (7, jI r3), (8, jI 1)]) (st' := [jI 1, jI (jSl v3 1)]) rfl (p1 := 191) rfl ?_
                    refine J_if_eq (T := none) (F := some ()) (r := ()) B.1 (off := 7) (tgt := 198) (by decide +kernel) (by decide) (if_neg (by decide)) (fun h => nomatch h) (fun _ => ?_)
                    refine B_blk B jlkX1_ok jcl_SKF [.iconst 1, .goto 4, .ior, .istore_n 3, .iconst 0, .istore 5, .goto 10, .iinc 6 1, .goto (-182)] (by decide +kernel) (ls' := [(0, jR 32), (2, jI v2), (3, jI (jOr (jSl v3 1) 1)), (4, jI v4), (5, jI 0), (6, jI (jW (v6 + 1))), (7, jI r3), (8, jI 1)]) (st' := []) rfl (p1 := 35) rfl ?_
                    refine J_pick [0, 1, 2, 3, 4, 5] (ls' := [(0, jR 32), (2, jI v2), (3, jI (jOr (jSl v3 1) 1)), (4, jI v4), (5, jI 0), (6, jI (jW (v6 + 1)))]) rfl ?_
                    exact ih v2 (jOr (jSl v3 1) 1) v4 0 (jW (v6 + 1)) m _ hf hq
              · refine B_blk B jlkX1_ok jcl_SKF [.iload 7, .bipush 125] (by decide +kernel) (ls' := [(0, jR 32), (2, jI v2), (3, jI v3), (4, jI v4), (5, jI v5), (6, jI v6), (7, jI r3)]) (st' := [jI 125, jI r3]) rfl (p1 := 147) rfl ?_
                refine J_icmp_ne B.1 (off := 60) (tgt := 207) (by decide +kernel) (by decide) hf (fun hf => ?_) (fun hf => ?_)
                · refine B_blk B jlkX1_ok jcl_SKF [.iload 7, .bipush 124] (by decide +kernel) (ls' := [(0, jR 32), (2, jI v2), (3, jI v3), (4, jI v4), (5, jI v5), (6, jI v6), (7, jI r3)]) (st' := [jI 124, jI r3]) rfl (p1 := 154) rfl ?_
                  refine J_icmp_ne B.1 (off := 18) (tgt := 172) (by decide +kernel) (by decide) hf (fun hf => ?_) (fun hf => ?_)
                  · refine B_blk B jlkX1_ok jcl_SKF [.iload 4, .iload 5] (by decide +kernel) (ls' := [(0, jR 32), (2, jI v2), (3, jI v3), (4, jI v4), (5, jI v5), (6, jI v6), (7, jI r3)]) (st' := [jI v5, jI v4]) rfl (p1 := 161) rfl ?_
                    refine J_icmp_ge B.1 (off := 7) (tgt := 168) (by decide +kernel) (by decide) hf (fun hf => ?_) (fun hf => ?_)
                    · refine B_blk B jlkX1_ok jcl_SKF [.iconst 0, .goto 15, .istore 8, .iload_n 3, .iconst 1, .ishl, .iload 8] (by decide +kernel) (ls' := [(0, jR 32), (2, jI v2), (3, jI v3), (4, jI v4), (5, jI v5), (6, jI v6), (7, jI r3), (8, jI 0)]) (st' := [jI 0, jI (jSl v3 1)]) rfl (p1 := 191) rfl ?_
                      refine J_if_eq (T := some ()) (F := none) (r := ()) B.1 (off := 7) (tgt := 198) (by decide +kernel) (by decide) (if_pos (by decide)) (fun _ => ?_) (fun h => nomatch h)
                      refine B_blk B jlkX1_ok jcl_SKF [.iconst 0, .ior, .istore_n 3, .iconst 0, .istore 5, .goto 10, .iinc 6 1, .goto (-182)] (by decide +kernel) (ls' := [(0, jR 32), (2, jI v2), (3, jI (jOr (jSl v3 1) 0)), (4, jI v4), (5, jI 0), (6, jI (jW (v6 + 1))), (7, jI r3), (8, jI 0)]) (st' := []) rfl (p1 := 35) rfl ?_
                      refine J_pick [0, 1, 2, 3, 4, 5] (ls' := [(0, jR 32), (2, jI v2), (3, jI (jOr (jSl v3 1) 0)), (4, jI v4), (5, jI 0), (6, jI (jW (v6 + 1)))]) rfl ?_
                      exact ih v2 (jOr (jSl v3 1) 0) v4 0 (jW (v6 + 1)) m _ hf hq
                    · refine B_blk B jlkX1_ok jcl_SKF [.iconst 1, .goto 19, .istore 8, .iload_n 3, .iconst 1, .ishl, .iload 8] (by decide +kernel) (ls' := [(0, jR 32), (2, jI v2), (3, jI v3), (4, jI v4), (5, jI v5), (6, jI v6), (7, jI r3), (8, jI 1)]) (st' := [jI 1, jI (jSl v3 1)]) rfl (p1 := 191) rfl ?_
                      refine J_if_eq (T := none) (F := some ()) (r := ()) B.1 (off := 7) (tgt := 198) (by decide +kernel) (by decide) (if_neg (by decide)) (fun h => nomatch h) (fun _ => ?_)
                      refine B_blk B jlkX1_ok jcl_SKF [.iconst 1, .goto 4, .ior, .istore_n 3, .iconst 0, .istore 5, .goto 10, .iinc 6 1, .goto (-182)] (by decide +kernel) (ls' := [(0, jR 32), (2, jI v2), (3, jI (jOr (jSl v3 1) 1)), (4, jI v4), (5, jI 0), (6, jI (jW (v6 + 1))), (7, jI r3), (8, jI 1)]) (st' := []) rfl (p1 := 35) rfl ?_
                      refine J_pick [0, 1, 2, 3, 4, 5] (ls' := [(0, jR 32), (2, jI v2), (3, jI (jOr (jSl v3 1) 1)), (4, jI v4), (5, jI 0), (6, jI (jW (v6 + 1)))]) rfl ?_
                      exact ih v2 (jOr (jSl v3 1) 1) v4 0 (jW (v6 + 1)) m _ hf hq
                  · refine B_blk B jlkX1_ok jcl_SKF [.iload 4, .iload 5] (by decide +kernel) (ls' := [(0, jR 32), (2, jI v2), (3, jI v3), (4, jI v4), (5, jI v5), (6, jI v6), (7, jI r3)]) (st' := [jI v5, jI v4]) rfl (p1 := 176) rfl ?_
                    refine J_icmp_le B.1 (off := 7) (tgt := 183) (by decide +kernel) (by decide) hf (fun hf => ?_) (fun hf => ?_)
                    · refine B_blk B jlkX1_ok jcl_SKF [.iconst 0, .istore 8, .iload_n 3, .iconst 1, .ishl, .iload 8] (by decide +kernel) (ls' := [(0, jR 32), (2, jI v2), (3, jI v3), (4, jI v4), (5, jI v5), (6, jI v6), (7, jI r3), (8, jI 0)]) (st' := [jI 0, jI (jSl v3 1)]) rfl (p1 := 191) rfl ?_
                      refine J_if_eq (T := some ()) (F := none) (r := ()) B.1 (off := 7) (tgt := 198) (by decide +kernel) (by decide) (if_pos (by decide)) (fun _ => ?_) (fun h => nomatch h)
                      refine B_blk B jlkX1_ok jcl_SKF [.iconst 0, .ior, .istore_n 3, .iconst 0, .istore 5, .goto 10, .iinc 6 1, .goto (-182)] (by decide +kernel) (ls' := [(0, jR 32), (2, jI v2), (3, jI (jOr (jSl v3 1) 0)), (4, jI v4), (5, jI 0), (6, jI (jW (v6 + 1))), (7, jI r3), (8, jI 0)]) (st' := []) rfl (p1 := 35) rfl ?_
                      refine J_pick [0, 1, 2, 3, 4, 5] (ls' := [(0, jR 32), (2, jI v2), (3, jI (jOr (jSl v3 1) 0)), (4, jI v4), (5, jI 0), (6, jI (jW (v6 + 1)))]) rfl ?_
                      exact ih v2 (jOr (jSl v3 1) 0) v4 0 (jW (v6 + 1)) m _ hf hq
                    · refine B_blk B jlkX1_ok jcl_SKF [.iconst 1, .goto 4, .istore 8, .iload_n 3, .iconst 1, .ishl, .iload 8] (by decide +kernel) (ls' := [(0, jR 32), (2, jI v2), (3, jI v3), (4, jI v4), (5, jI v5), (6, jI v6), (7, jI r3), (8, jI 1)]) (st' := [jI 1, jI (jSl v3 1)]) rfl (p1 := 191) rfl ?_
                      refine J_if_eq (T := none) (F := some ()) (r := ()) B.1 (off := 7) (tgt := 198) (by decide +kernel) (by decide) (if_neg (by decide)) (fun h => nomatch h) (fun _ => ?_)
                      refine B_blk B jlkX1_ok jcl_SKF [.iconst 1, .goto 4, .ior, .istore_n 3, .iconst 0, .istore 5, .goto 10, .iinc 6 1, .goto (-182)] (by decide +kernel) (ls' := [(0, jR 32), (2, jI v2), (3, jI (jOr (jSl v3 1) 1)), (4, jI v4), (5, jI 0), (6, jI (jW (v6 + 1))), (7, jI r3), (8, jI 1)]) (st' := []) rfl (p1 := 35) rfl ?_
                      refine J_pick [0, 1, 2, 3, 4, 5] (ls' := [(0, jR 32), (2, jI v2), (3, jI (jOr (jSl v3 1) 1)), (4, jI v4), (5, jI 0), (6, jI (jW (v6 + 1)))]) rfl ?_
                      exact ih v2 (jOr (jSl v3 1) 1) v4 0 (jW (v6 + 1)) m _ hf hq
                · refine B_blk B jlkX1_ok jcl_SKF [.iload_n 3, .iload 7] (by decide +kernel) (ls' := [(0, jR 32), (2, jI v2), (3, jI v3), (4, jI v4), (5, jI v5), (6, jI v6), (7, jI r3)]) (st' := [jI r3, jI v3]) rfl (p1 := 210) rfl ?_
                  obtain ⟨r7, h7, hf⟩ := jbd hf
                  refine B_callS B (Nat.le_refl _) (μ' := m) (k' := 0) (n' := 0) ca_X1_joined sa_X1_joined lk_X1_138 (t_X1_joined B.tr jcl_SKF h7) (Nat.le_refl _) rfl (rest := []) rfl rfl (Nat.le_of_ble_eq_true rfl) (by decide +kernel) rfl rfl (st' := [jI r7]) rfl ?_
                  refine B_blk B jlkX1_ok jcl_SKF [.istore_n 3, .iinc 6 1, .goto (-182)] (by decide +kernel) (ls' := [(0, jR 32), (2, jI v2), (3, jI r7), (4, jI v4), (5, jI v5), (6, jI (jW (v6 + 1))), (7, jI r3)]) (st' := []) rfl (p1 := 35) rfl ?_
                  refine J_pick [0, 1, 2, 3, 4, 5] (ls' := [(0, jR 32), (2, jI v2), (3, jI r7), (4, jI v4), (5, jI v5), (6, jI (jW (v6 + 1)))]) rfl ?_
                  exact ih v2 r7 v4 v5 (jW (v6 + 1)) m _ hf hq
          · refine B_blk B jlkX1_ok jcl_SKF [.iload_n 3, .iconst 1, .ishl, .aload_n 0, .iload 7] (by decide +kernel) (ls' := [(0, jR 32), (2, jI v2), (3, jI v3), (4, jI v4), (5, jI v5), (6, jI v6), (7, jI r3)]) (st' := [jI r3, jR 32, jI (jSl v3 1)]) rfl (p1 := 110) rfl ?_
            obtain ⟨r8, h8, hf⟩ := jbd hf
            refine B_callV B (Nat.le_refl _) (μ' := m) (k' := 0) (n' := 0) ca_X1_factHere in_X1_factHere se_X1_factHere lk_X1_132 (t_X1_factHere B.tr h8) (Nat.le_refl _) rfl rfl rfl (rest := [jI (jSl v3 1)]) rfl rfl (Nat.le_of_ble_eq_true rfl) (by decide +kernel) rfl rfl (st' := [jI r8, jI (jSl v3 1)]) rfl ?_
            refine B_blk B jlkX1_ok jcl_SKF [.ior, .istore_n 3, .goto 99, .iinc 6 1, .goto (-182)] (by decide +kernel) (ls' := [(0, jR 32), (2, jI v2), (3, jI (jOr (jSl v3 1) r8)), (4, jI v4), (5, jI v5), (6, jI (jW (v6 + 1))), (7, jI r3)]) (st' := []) rfl (p1 := 35) rfl ?_
            refine J_pick [0, 1, 2, 3, 4, 5] (ls' := [(0, jR 32), (2, jI v2), (3, jI (jOr (jSl v3 1) r8)), (4, jI v4), (5, jI v5), (6, jI (jW (v6 + 1)))]) rfl ?_
            exact ih v2 (jOr (jSl v3 1) r8) v4 v5 (jW (v6 + 1)) m _ hf hq
        · refine B_blk B jlkX1_ok jcl_SKF [.iload 5, .aload_n 0, .iload 7] (by decide +kernel) (ls' := [(0, jR 32), (2, jI v2), (3, jI v3), (4, jI v4), (5, jI v5), (6, jI v6), (7, jI r3)]) (st' := [jI r3, jR 32, jI v5]) rfl (p1 := 87) rfl ?_
          obtain ⟨r9, h9, hf⟩ := jbd hf
          refine B_callV B (Nat.le_refl _) (μ' := m) (k' := 0) (n' := 0) ca_X1_factHere in_X1_factHere se_X1_factHere lk_X1_132 (t_X1_factHere B.tr h9) (Nat.le_refl _) rfl rfl rfl (rest := [jI v5]) rfl rfl (Nat.le_of_ble_eq_true rfl) (by decide +kernel) rfl rfl (st' := [jI r9, jI v5]) rfl ?_
          refine B_blk B jlkX1_ok jcl_SKF [.iadd, .istore 5, .goto 121, .iinc 6 1, .goto (-182)] (by decide +kernel) (ls' := [(0, jR 32), (2, jI v2), (3, jI v3), (4, jI v4), (5, jI (jW (v5 + r9))), (6, jI (jW (v6 + 1))), (7, jI r3)]) (st' := []) rfl (p1 := 35) rfl ?_
          refine J_pick [0, 1, 2, 3, 4, 5] (ls' := [(0, jR 32), (2, jI v2), (3, jI v3), (4, jI v4), (5, jI (jW (v5 + r9))), (6, jI (jW (v6 + 1)))]) rfl ?_
          exact ih v2 v3 v4 (jW (v5 + r9)) (jW (v6 + 1)) m _ hf hq
      · refine B_blk B jlkX1_ok jcl_SKF [.iload 5, .iload 7, .iadd, .istore 5, .goto 143, .iinc 6 1, .goto (-182)] (by decide +kernel) (ls' := [(0, jR 32), (2, jI v2), (3, jI v3), (4, jI v4), (5, jI (jW (v5 + r3))), (6, jI (jW (v6 + 1))), (7, jI r3)]) (st' := []) rfl (p1 := 35) rfl ?_
        refine J_pick [0, 1, 2, 3, 4, 5] (ls' := [(0, jR 32), (2, jI v2), (3, jI v3), (4, jI v4), (5, jI (jW (v5 + r3))), (6, jI (jW (v6 + 1)))]) rfl ?_
        exact ih v2 v3 v4 (jW (v5 + r3)) (jW (v6 + 1)) m _ hf hq
theorem t_X1_holdsHere {l : Launch} {G : jG} (hl : l.stackTraces = false) {a0 : Int} {m : jMu} {r : Int} (hf : f_X1_holdsHere a0 m = some r) : jCt l G yX1_holdsHere (.code yX1_holdsHere cX1_holdsHere 9 (some .boolean) :: jWG) rm_X1_holdsHere [jR 32, jI a0] SKF m (.inl (some (jI r))) SKF m := by
  unfold f_X1_holdsHere at hf
  refine J_start (ls0 := [(0, jR 32), (1, jI a0)]) (by decide +kernel) hl (Nat.le_of_ble_eq_true rfl) rfl fun X C hN hn hR hr hnm hno hq => ?_
  have B : jB X cX1_holdsHere RX1 9 SKF.length rm_X1_holdsHere (some .boolean) := ⟨C, hN, Nat.le_of_eq hn, hR, hr⟩
  refine B_blk B jlkX1_ok jcl_SKF [.aload_n 0, .getfield 9, .getfield 95, .iload_n 1, .iconst 3] (by decide +kernel) (ls' := [(0, jR 32), (1, jI a0)]) (st' := [jI 3, jI a0, jR 16]) rfl (p1 := 9) rfl ?_
  obtain ⟨r1, h1, hf⟩ := jbd hf
  refine B_callV B (Nat.le_refl _) (μ' := m) (k' := 0) (n' := 0) ca_X5_get in_X5_get se_X5_get lk_X1_28 (t_X5_get B.tr jcl_SKF ⟨rfl, rfl, by decide⟩ h1) (Nat.le_refl _) rfl rfl rfl (rest := []) rfl rfl (Nat.le_of_ble_eq_true rfl) (by decide +kernel) rfl rfl (st' := [jI r1]) rfl ?_
  refine B_blk B jlkX1_ok jcl_SKF [.istore_n 2, .iconst 1, .istore_n 3, .iconst 0, .istore 4, .iconst 0, .istore 5, .aload_n 0, .getfield 9, .getfield 95, .iload_n 1, .iconst 2] (by decide +kernel) (ls' := [(0, jR 32), (1, jI a0), (2, jI r1), (3, jI 1), (4, jI 0), (5, jI 0)]) (st' := [jI 2, jI a0, jR 16]) rfl (p1 := 30) rfl ?_
  obtain ⟨r2, h2, hf⟩ := jbd hf
  refine B_callV B (Nat.le_refl _) (μ' := m) (k' := 0) (n' := 0) ca_X5_get in_X5_get se_X5_get lk_X1_28 (t_X5_get B.tr jcl_SKF ⟨rfl, rfl, by decide⟩ h2) (Nat.le_refl _) rfl rfl rfl (rest := []) rfl rfl (Nat.le_of_ble_eq_true rfl) (by decide +kernel) rfl rfl (st' := [jI r2]) rfl ?_
  refine B_blk B jlkX1_ok jcl_SKF [.istore 6] (by decide +kernel) (ls' := [(0, jR 32), (1, jI a0), (2, jI r1), (3, jI 1), (4, jI 0), (5, jI 0), (6, jI r2)]) (st' := []) rfl (p1 := 35) rfl ?_
  refine J_pick [0, 2, 3, 4, 5, 6] (ls' := [(0, jR 32), (2, jI r1), (3, jI 1), (4, jI 0), (5, jI 0), (6, jI r2)]) rfl ?_
  exact t_X1_holdsHere_L35 B jFU r1 1 0 0 r2 m _ hf hq

def rm_X1_whyHere : Room := { frames := 6, cells := 0, slots := 0, locals := 115 }
def f_X1_whyHere_L38 : Nat → Int → Int → Int → jMu → Option Int
  | 0, _, _, _, _ => none
  | q + 1, v2, v3, v4, m => (if v3 ≤ v4 then some 0 else (f_X5_get 16 17 160 v4 0 m).bind fun r3 => (if r3 = 100 then (f_X1_holdsHere v4 m).bind fun r4 => (if r4 = 0 then f_X1_whyHere_L38 q v2 v3 (jW (v4 + 1)) m else some (jW (jW (2 + v4) - v2))) else f_X1_whyHere_L38 q v2 v3 (jW (v4 + 1)) m))
def f_X1_whyHere (a0 : Int) (m : jMu) : Option Int :=
  (if m 32 1 = 0 then (f_X5_get 14 15 6 a0 0 m).bind fun r1 => (f_X5_get 14 15 6 a0 1 m).bind fun r2 => f_X1_whyHere_L38 jFU r1 r2 r1 m else some 1)
theorem t_X1_whyHere_L38 {X : jX} (B : jB X cX1_whyHere RX1 5 SKF.length rm_X1_whyHere (some .int)) : ∀ (q : Nat) (v2 : Int) (v3 : Int) (v4 : Int) (m : jMu) (r : Int), f_X1_whyHere_L38 q v2 v3 v4 m = some r → jQ X (.inl (some (jI r))) SKF m rm_X1_whyHere.cells rm_X1_whyHere.slots → J X SKF m 0 0 38 [(0, jR 32), (2, jI v2), (3, jI v3), (4, jI v4)] [] := by
  intro q
  induction q with
  | zero =>
    intro v2 v3 v4 m r hf
    rw [f_X1_whyHere_L38] at hf
    cases hf
  | succ q ih =>
    intro v2 v3 v4 m r hf hq
    rw [f_X1_whyHere_L38] at hf
    refine B_blk B jlkX1_ok jcl_SKF [.iload 4, .iload_n 3] (by decide +kernel) (ls' := [(0, jR 32), (2, jI v2), (3, jI v3), (4, jI v4)]) (st' := [jI v3, jI v4]) rfl (p1 := 41) rfl ?_
    refine J_icmp_ge B.1 (off := 43) (tgt := 84) (by decide +kernel) (by decide) hf (fun hf => ?_) (fun hf => ?_)
    · refine B_blk B jlkX1_ok jcl_SKF [.iconst 0] (by decide +kernel) (ls' := [(0, jR 32), (2, jI v2), (3, jI v3), (4, jI v4)]) (st' := [jI 0]) rfl (p1 := 85) rfl ?_
      cases hf
      exact B_retI B hq rfl (Nat.le_of_ble_eq_true rfl) (Nat.le_of_ble_eq_true rfl) (by decide +kernel)
    · refine B_blk B jlkX1_ok jcl_SKF [.aload_n 0, .getfield 9, .getfield 95, .iload 4, .iconst 0] (by decide +kernel) (ls' := [(0, jR 32), (2, jI v2), (3, jI v3), (4, jI v4)]) (st' := [jI 0, jI v4, jR 16]) rfl (p1 := 54) rfl ?_
      obtain ⟨r3, h3, hf⟩ := jbd hf
      refine B_callV B (Nat.le_refl _) (μ' := m) (k' := 0) (n' := 0) ca_X5_get in_X5_get se_X5_get lk_X1_28 (t_X5_get B.tr jcl_SKF ⟨rfl, rfl, by decide⟩ h3) (Nat.le_refl _) rfl rfl rfl (rest := []) rfl rfl (Nat.le_of_ble_eq_true rfl) (by decide +kernel) rfl rfl (st' := [jI r3]) rfl ?_
      refine B_blk B jlkX1_ok jcl_SKF [.bipush 100] (by decide +kernel) (ls' := [(0, jR 32), (2, jI v2), (3, jI v3), (4, jI v4)]) (st' := [jI 100, jI r3]) rfl (p1 := 59) rfl ?_
      refine J_icmp_ne B.1 (off := 19) (tgt := 78) (by decide +kernel) (by decide) hf (fun hf => ?_) (fun hf => ?_)
      · refine B_blk B jlkX1_ok jcl_SKF [.aload_n 0, .iload 4] (by decide +kernel) (ls' := [(0, jR 32), (2, jI v2), (3, jI v3), (4, jI v4)]) (st' := [jI v4, jR 32]) rfl (p1 := 65) rfl ?_
        obtain ⟨r4, h4, hf⟩ := jbd hf
        refine B_callV B (Nat.le_refl _) (μ' := m) (k' := 0) (n' := 0) ca_X1_holdsHere in_X1_holdsHere se_X1_holdsHere lk_X1_100 (t_X1_holdsHere B.tr h4) (Nat.le_refl _) rfl rfl rfl (rest := []) rfl rfl (Nat.le_of_ble_eq_true rfl) (by decide +kernel) rfl rfl (st' := [jI r4]) rfl ?_
        refine J_if_eq B.1 (off := 10) (tgt := 78) (by decide +kernel) (by decide) hf (fun hf => ?_) (fun hf => ?_)
        · refine B_blk B jlkX1_ok jcl_SKF [.iinc 4 1, .goto (-43)] (by decide +kernel) (ls' := [(0, jR 32), (2, jI v2), (3, jI v3), (4, jI (jW (v4 + 1)))]) (st' := []) rfl (p1 := 38) rfl ?_
          exact ih v2 v3 (jW (v4 + 1)) m _ hf hq
        · refine B_blk B jlkX1_ok jcl_SKF [.iconst 2, .iload 4, .iadd, .iload_n 2, .isub] (by decide +kernel) (ls' := [(0, jR 32), (2, jI v2), (3, jI v3), (4, jI v4)]) (st' := [jI (jW (jW (2 + v4) - v2))]) rfl (p1 := 77) rfl ?_
          cases hf
          exact B_retI B hq rfl (Nat.le_of_ble_eq_true rfl) (Nat.le_of_ble_eq_true rfl) (by decide +kernel)
      · refine B_blk B jlkX1_ok jcl_SKF [.iinc 4 1, .goto (-43)] (by decide +kernel) (ls' := [(0, jR 32), (2, jI v2), (3, jI v3), (4, jI (jW (v4 + 1)))]) (st' := []) rfl (p1 := 38) rfl ?_
        exact ih v2 v3 (jW (v4 + 1)) m _ hf hq
theorem t_X1_whyHere {l : Launch} {G : jG} (hl : l.stackTraces = false) {a0 : Int} {m : jMu} {r : Int} (hf : f_X1_whyHere a0 m = some r) : jCt l G yX1_whyHere (.code yX1_whyHere cX1_whyHere 5 (some .int) :: jWG) rm_X1_whyHere [jR 32, jI a0] SKF m (.inl (some (jI r))) SKF m := by
  unfold f_X1_whyHere at hf
  refine J_start (ls0 := [(0, jR 32), (1, jI a0)]) (by decide +kernel) hl (Nat.le_of_ble_eq_true rfl) rfl fun X C hN hn hR hr hnm hno hq => ?_
  have B : jB X cX1_whyHere RX1 5 SKF.length rm_X1_whyHere (some .int) := ⟨C, hN, Nat.le_of_eq hn, hR, hr⟩
  refine B_blk B jlkX1_ok jcl_SKF [.aload_n 0, .getfield 47] (by decide +kernel) (ls' := [(0, jR 32), (1, jI a0)]) (st' := [jI (m 32 1)]) rfl (p1 := 4) rfl ?_
  refine J_if_eq B.1 (off := 5) (tgt := 9) (by decide +kernel) (by decide) hf (fun hf => ?_) (fun hf => ?_)
  · refine B_blk B jlkX1_ok jcl_SKF [.aload_n 0, .getfield 9, .getfield 92, .iload_n 1, .iconst 0] (by decide +kernel) (ls' := [(0, jR 32), (1, jI a0)]) (st' := [jI 0, jI a0, jR 14]) rfl (p1 := 18) rfl ?_
    obtain ⟨r1, h1, hf⟩ := jbd hf
    refine B_callV B (Nat.le_refl _) (μ' := m) (k' := 0) (n' := 0) ca_X5_get in_X5_get se_X5_get lk_X1_28 (t_X5_get B.tr jcl_SKF ⟨rfl, rfl, by decide⟩ h1) (Nat.le_refl _) rfl rfl rfl (rest := []) rfl rfl (Nat.le_of_ble_eq_true rfl) (by decide +kernel) rfl rfl (st' := [jI r1]) rfl ?_
    refine B_blk B jlkX1_ok jcl_SKF [.istore_n 2, .aload_n 0, .getfield 9, .getfield 92, .iload_n 1, .iconst 1] (by decide +kernel) (ls' := [(0, jR 32), (1, jI a0), (2, jI r1)]) (st' := [jI 1, jI a0, jR 14]) rfl (p1 := 31) rfl ?_
    obtain ⟨r2, h2, hf⟩ := jbd hf
    refine B_callV B (Nat.le_refl _) (μ' := m) (k' := 0) (n' := 0) ca_X5_get in_X5_get se_X5_get lk_X1_28 (t_X5_get B.tr jcl_SKF ⟨rfl, rfl, by decide⟩ h2) (Nat.le_refl _) rfl rfl rfl (rest := []) rfl rfl (Nat.le_of_ble_eq_true rfl) (by decide +kernel) rfl rfl (st' := [jI r2]) rfl ?_
    refine B_blk B jlkX1_ok jcl_SKF [.istore_n 3, .iload_n 2, .istore 4] (by decide +kernel) (ls' := [(0, jR 32), (1, jI a0), (2, jI r1), (3, jI r2), (4, jI r1)]) (st' := []) rfl (p1 := 38) rfl ?_
    refine J_pick [0, 2, 3, 4] (ls' := [(0, jR 32), (2, jI r1), (3, jI r2), (4, jI r1)]) rfl ?_
    exact t_X1_whyHere_L38 B jFU r1 r2 r1 m _ hf hq
  · refine B_blk B jlkX1_ok jcl_SKF [.iconst 1] (by decide +kernel) (ls' := [(0, jR 32), (1, jI a0)]) (st' := [jI 1]) rfl (p1 := 8) rfl ?_
    cases hf
    exact B_retI B hq rfl (Nat.le_of_ble_eq_true rfl) (Nat.le_of_ble_eq_true rfl) (by decide +kernel)

def rm_X9_why : Room := { frames := 9, cells := 2, slots := 12, locals := 139 }
def f_X9_why_J63 (v1 : Int) (v2 : Int) (v3 : Int) (v4 : Int) (s0 : Int) (m : jMu) : Option (jOut Int) :=
  jthr (f_X9_needIndex s0 m) fun r4 => (f_X1_stand v2 (jW (jW (v3 * 12) + v4)) r4.2).bind fun r5 => (f_X1_whyHere v1 r5).bind fun r6 => some (.inr (r6, r5))
def f_X9_why_J62 (v1 : Int) (v2 : Int) (v3 : Int) (v4 : Int) (m : jMu) : Option (jOut Int) :=
  f_X9_why_J63 v1 v2 v3 v4 0 m
def f_X9_why_J33 (v1 : Int) (v2 : Int) (v3 : Int) (v4 : Int) (s0 : Int) (m : jMu) : Option (jOut Int) :=
  jthr (f_X9_needIndex s0 m) fun r2 => (f_X9_isIn v3 0 199).bind fun r3 => (if r3 = 0 then f_X9_why_J62 v1 v2 v3 v4 r2.2 else (f_X9_isIn v4 0 11).bind fun r7 => (if r7 = 0 then f_X9_why_J62 v1 v2 v3 v4 r2.2 else f_X9_why_J63 v1 v2 v3 v4 1 r2.2))
def f_X9_why_J32 (v1 : Int) (v2 : Int) (v3 : Int) (v4 : Int) (m : jMu) : Option (jOut Int) :=
  f_X9_why_J33 v1 v2 v3 v4 0 m
def f_X9_why (a0 : Int) (a1 : Int) (a2 : Int) (a3 : Int) (m : jMu) : Option (jOut Int) :=
  (f_X5_has 14 15 6 a0 m).bind fun r1 => (if r1 = 0 then f_X9_why_J32 a0 a1 a2 a3 m else (f_X5_has 4 5 80 a1 m).bind fun r8 => (if r8 = 0 then f_X9_why_J32 a0 a1 a2 a3 m else f_X9_why_J33 a0 a1 a2 a3 1 m))
theorem t_X9_why_J63 {X : jX} (B : jB X cX9_why RX9 5 SKF.length rm_X9_why (some .int)) (hno : ∀ x ∈ (xc X).exceptionTable.toList, False) (v1 : Int) (v2 : Int) (v3 : Int) (v4 : Int) (s0 : Int) (m : jMu) (r : (jOut Int)) (hf : f_X9_why_J63 v1 v2 v3 v4 s0 m = some r) (hq : jQ X (joI r) SKF (joM r) rm_X9_why.cells rm_X9_why.slots) : J X SKF m 1 6 63 [(0, jR 0), (1, jI v1), (2, jI v2), (3, jI v3), (4, jI v4)] [jI s0] := by
  unfold f_X9_why_J63 at hf
  rcases jthr_s hf with ⟨e4, h4, hf⟩ | ⟨r4, h4, hf⟩
  · cases hf
    exact B_callST B (Nat.le_refl _) hno hq ca_X9_needIndex sa_X9_needIndex lk_X9_125 (t_X9_needIndex B.tr h4) (Nat.le_refl _) rfl (rest := []) rfl rfl (Nat.le_of_ble_eq_true rfl) (by decide +kernel) (Nat.le_of_ble_eq_true rfl) (Nat.le_of_ble_eq_true rfl)
  · refine B_callS B (Nat.le_refl _) (μ' := r4.2) (k' := 2) (n' := 12) ca_X9_needIndex sa_X9_needIndex lk_X9_125 (t_X9_needIndex B.tr h4) (Nat.le_refl _) rfl (rest := []) rfl rfl (Nat.le_of_ble_eq_true rfl) (by decide +kernel) rfl rfl (st' := []) rfl ?_
    refine B_blk B jlkX9_ok jcl_SKF [.aload_n 0, .getfield 40, .iload_n 2, .iload_n 3, .bipush 12, .imul, .iload 4, .iadd] (by decide +kernel) (ls' := [(0, jR 0), (1, jI v1), (2, jI v2), (3, jI v3), (4, jI v4)]) (st' := [jI (jW (jW (v3 * 12) + v4)), jI v2, jR 32]) rfl (p1 := 78) rfl ?_
    obtain ⟨r5, h5, hf⟩ := jbd hf
    refine B_callV B (Nat.le_refl _) (μ' := r5) (k' := 2) (n' := 12) ca_X1_stand in_X1_stand se_X1_stand lk_X9_163 (t_X1_stand B.tr h5) (Nat.le_refl _) rfl rfl rfl (rest := []) rfl rfl (Nat.le_of_ble_eq_true rfl) (by decide +kernel) rfl rfl (st' := []) rfl ?_
    refine B_blk B jlkX9_ok jcl_SKF [.aload_n 0, .getfield 40, .iload_n 1] (by decide +kernel) (ls' := [(0, jR 0), (1, jI v1), (2, jI v2), (3, jI v3), (4, jI v4)]) (st' := [jI v1, jR 32]) rfl (p1 := 86) rfl ?_
    obtain ⟨r6, h6, hf⟩ := jbd hf
    refine B_callV B (Nat.le_refl _) (μ' := r5) (k' := 2) (n' := 12) ca_X1_whyHere in_X1_whyHere se_X1_whyHere lk_X9_166 (t_X1_whyHere B.tr h6) (Nat.le_refl _) rfl rfl rfl (rest := []) rfl rfl (Nat.le_of_ble_eq_true rfl) (by decide +kernel) rfl rfl (st' := [jI r6]) rfl ?_
    cases hf
    exact B_retI B hq rfl (Nat.le_of_ble_eq_true rfl) (Nat.le_of_ble_eq_true rfl) (by decide +kernel)
theorem t_X9_why_J62 {X : jX} (B : jB X cX9_why RX9 5 SKF.length rm_X9_why (some .int)) (hno : ∀ x ∈ (xc X).exceptionTable.toList, False) (v1 : Int) (v2 : Int) (v3 : Int) (v4 : Int) (m : jMu) (r : (jOut Int)) (hf : f_X9_why_J62 v1 v2 v3 v4 m = some r) (hq : jQ X (joI r) SKF (joM r) rm_X9_why.cells rm_X9_why.slots) : J X SKF m 1 6 62 [(0, jR 0), (1, jI v1), (2, jI v2), (3, jI v3), (4, jI v4)] [] := by
  unfold f_X9_why_J62 at hf
  refine B_blk B jlkX9_ok jcl_SKF [.iconst 0] (by decide +kernel) (ls' := [(0, jR 0), (1, jI v1), (2, jI v2), (3, jI v3), (4, jI v4)]) (st' := [jI 0]) rfl (p1 := 63) rfl ?_
  exact t_X9_why_J63 B hno v1 v2 v3 v4 0 m _ hf hq
theorem t_X9_why_J33 {X : jX} (B : jB X cX9_why RX9 5 SKF.length rm_X9_why (some .int)) (hno : ∀ x ∈ (xc X).exceptionTable.toList, False) (v1 : Int) (v2 : Int) (v3 : Int) (v4 : Int) (s0 : Int) (m : jMu) (r : (jOut Int)) (hf : f_X9_why_J33 v1 v2 v3 v4 s0 m = some r) (hq : jQ X (joI r) SKF (joM r) rm_X9_why.cells rm_X9_why.slots) : J X SKF m 0 0 33 [(0, jR 0), (1, jI v1), (2, jI v2), (3, jI v3), (4, jI v4)] [jI s0] := by
  unfold f_X9_why_J33 at hf
  rcases jthr_s hf with ⟨e2, h2, hf⟩ | ⟨r2, h2, hf⟩
  · cases hf
    exact B_callST B (Nat.le_refl _) hno hq ca_X9_needIndex sa_X9_needIndex lk_X9_125 (t_X9_needIndex B.tr h2) (Nat.le_refl _) rfl (rest := []) rfl rfl (Nat.le_of_ble_eq_true rfl) (by decide +kernel) (Nat.le_of_ble_eq_true rfl) (Nat.le_of_ble_eq_true rfl)
  · refine B_callS B (Nat.le_refl _) (μ' := r2.2) (k' := 1) (n' := 6) ca_X9_needIndex sa_X9_needIndex lk_X9_125 (t_X9_needIndex B.tr h2) (Nat.le_refl _) rfl (rest := []) rfl rfl (Nat.le_of_ble_eq_true rfl) (by decide +kernel) rfl rfl (st' := []) rfl ?_
    refine B_blk B jlkX9_ok jcl_SKF [.iload_n 3, .iconst 0, .sipush 199] (by decide +kernel) (ls' := [(0, jR 0), (1, jI v1), (2, jI v2), (3, jI v3), (4, jI v4)]) (st' := [jI 199, jI 0, jI v3]) rfl (p1 := 41) rfl ?_
    obtain ⟨r3, h3, hf⟩ := jbd hf
    refine B_callS B (Nat.le_refl _) (μ' := r2.2) (k' := 1) (n' := 6) ca_X9_isIn sa_X9_isIn lk_X9_93 (t_X9_isIn B.tr jcl_SKF h3) (Nat.le_refl _) rfl (rest := []) rfl rfl (Nat.le_of_ble_eq_true rfl) (by decide +kernel) rfl rfl (st' := [jI r3]) rfl ?_
    refine J_if_eq B.1 (off := 18) (tgt := 62) (by decide +kernel) (by decide) hf (fun hf => ?_) (fun hf => ?_)
    · exact t_X9_why_J62 B hno v1 v2 v3 v4 r2.2 _ hf hq
    · refine B_blk B jlkX9_ok jcl_SKF [.iload 4, .iconst 0, .bipush 11] (by decide +kernel) (ls' := [(0, jR 0), (1, jI v1), (2, jI v2), (3, jI v3), (4, jI v4)]) (st' := [jI 11, jI 0, jI v4]) rfl (p1 := 52) rfl ?_
      obtain ⟨r7, h7, hf⟩ := jbd hf
      refine B_callS B (Nat.le_refl _) (μ' := r2.2) (k' := 1) (n' := 6) ca_X9_isIn sa_X9_isIn lk_X9_93 (t_X9_isIn B.tr jcl_SKF h7) (Nat.le_refl _) rfl (rest := []) rfl rfl (Nat.le_of_ble_eq_true rfl) (by decide +kernel) rfl rfl (st' := [jI r7]) rfl ?_
      refine J_if_eq B.1 (off := 7) (tgt := 62) (by decide +kernel) (by decide) hf (fun hf => ?_) (fun hf => ?_)
      · exact t_X9_why_J62 B hno v1 v2 v3 v4 r2.2 _ hf hq
      · refine B_blk B jlkX9_ok jcl_SKF [.iconst 1, .goto 4] (by decide +kernel) (ls' := [(0, jR 0), (1, jI v1), (2, jI v2), (3, jI v3), (4, jI v4)]) (st' := [jI 1]) rfl (p1 := 63) rfl ?_
        exact t_X9_why_J63 B hno v1 v2 v3 v4 1 r2.2 _ hf hq
theorem t_X9_why_J32 {X : jX} (B : jB X cX9_why RX9 5 SKF.length rm_X9_why (some .int)) (hno : ∀ x ∈ (xc X).exceptionTable.toList, False) (v1 : Int) (v2 : Int) (v3 : Int) (v4 : Int) (m : jMu) (r : (jOut Int)) (hf : f_X9_why_J32 v1 v2 v3 v4 m = some r) (hq : jQ X (joI r) SKF (joM r) rm_X9_why.cells rm_X9_why.slots) : J X SKF m 0 0 32 [(0, jR 0), (1, jI v1), (2, jI v2), (3, jI v3), (4, jI v4)] [] := by
  unfold f_X9_why_J32 at hf
  refine B_blk B jlkX9_ok jcl_SKF [.iconst 0] (by decide +kernel) (ls' := [(0, jR 0), (1, jI v1), (2, jI v2), (3, jI v3), (4, jI v4)]) (st' := [jI 0]) rfl (p1 := 33) rfl ?_
  exact t_X9_why_J33 B hno v1 v2 v3 v4 0 m _ hf hq
theorem t_X9_why {l : Launch} {G : jG} (hl : l.stackTraces = false) {a0 : Int} {a1 : Int} {a2 : Int} {a3 : Int} {m : jMu} {r : (jOut Int)} (hf : f_X9_why a0 a1 a2 a3 m = some r) : jCt l G yX9_why (.code yX9_why cX9_why 5 (some .int) :: jWG) rm_X9_why [jR 0, jI a0, jI a1, jI a2, jI a3] SKF m (joI r) SKF (joM r) := by
  unfold f_X9_why at hf
  refine J_start (ls0 := [(0, jR 0), (1, jI a0), (2, jI a1), (3, jI a2), (4, jI a3)]) (by decide +kernel) hl (Nat.le_of_ble_eq_true rfl) rfl fun X C hN hn hR hr hnm hno hq => ?_
  have B : jB X cX9_why RX9 5 SKF.length rm_X9_why (some .int) := ⟨C, hN, Nat.le_of_eq hn, hR, hr⟩
  refine B_blk B jlkX9_ok jcl_SKF [.aload_n 0, .getfield 20, .getfield 158, .iload_n 1] (by decide +kernel) (ls' := [(0, jR 0), (1, jI a0), (2, jI a1), (3, jI a2), (4, jI a3)]) (st' := [jI a0, jR 14]) rfl (p1 := 8) rfl ?_
  obtain ⟨r1, h1, hf⟩ := jbd hf
  refine B_callV B (Nat.le_refl _) (μ' := m) (k' := 0) (n' := 0) ca_X5_has in_X5_has se_X5_has lk_X9_143 (t_X5_has B.tr jcl_SKF ⟨rfl, rfl, by decide⟩ h1) (Nat.le_refl _) rfl rfl rfl (rest := []) rfl rfl (Nat.le_of_ble_eq_true rfl) (by decide +kernel) rfl rfl (st' := [jI r1]) rfl ?_
  refine J_if_eq B.1 (off := 21) (tgt := 32) (by decide +kernel) (by decide) hf (fun hf => ?_) (fun hf => ?_)
  · exact t_X9_why_J32 B hno a0 a1 a2 a3 m _ hf hq
  · refine B_blk B jlkX9_ok jcl_SKF [.aload_n 0, .getfield 20, .getfield 101, .iload_n 2] (by decide +kernel) (ls' := [(0, jR 0), (1, jI a0), (2, jI a1), (3, jI a2), (4, jI a3)]) (st' := [jI a1, jR 4]) rfl (p1 := 22) rfl ?_
    obtain ⟨r8, h8, hf⟩ := jbd hf
    refine B_callV B (Nat.le_refl _) (μ' := m) (k' := 0) (n' := 0) ca_X5_has in_X5_has se_X5_has lk_X9_143 (t_X5_has B.tr jcl_SKF ⟨rfl, rfl, by decide⟩ h8) (Nat.le_refl _) rfl rfl rfl (rest := []) rfl rfl (Nat.le_of_ble_eq_true rfl) (by decide +kernel) rfl rfl (st' := [jI r8]) rfl ?_
    refine J_if_eq B.1 (off := 7) (tgt := 32) (by decide +kernel) (by decide) hf (fun hf => ?_) (fun hf => ?_)
    · exact t_X9_why_J32 B hno a0 a1 a2 a3 m _ hf hq
    · refine B_blk B jlkX9_ok jcl_SKF [.iconst 1, .goto 4] (by decide +kernel) (ls' := [(0, jR 0), (1, jI a0), (2, jI a1), (3, jI a2), (4, jI a3)]) (st' := [jI 1]) rfl (p1 := 33) rfl ?_
      exact t_X9_why_J33 B hno a0 a1 a2 a3 1 m _ hf hq

def rm_X9_needElement : Room := { frames := 7, cells := 1, slots := 6, locals := 100 }
def f_X9_needElement (a0 : Int) (m : jMu) : Option (jOut Unit) :=
  (if a0 = 0 then some (.inl ("java/util/NoSuchElementException", m)) else some (.inr ((), m)))
theorem t_X9_needElement {l : Launch} {G : jG} (hl : l.stackTraces = false) {a0 : Int} {m : jMu} {r : (jOut Unit)} (hf : f_X9_needElement a0 m = some r) : jCt l G yX9_needElement (.code yX9_needElement cX9_needElement 1 none :: jWG) rm_X9_needElement [jI a0] SKF m (joV r) SKF (joM r) := by
  unfold f_X9_needElement at hf
  refine J_start (ls0 := [(0, jI a0)]) (by decide +kernel) hl (Nat.le_of_ble_eq_true rfl) rfl fun X C hN hn hR hr hnm hno hq => ?_
  have B : jB X cX9_needElement RX9 1 SKF.length rm_X9_needElement none := ⟨C, hN, Nat.le_of_eq hn, hR, hr⟩
  refine B_blk B jlkX9_ok jcl_SKF [.iload_n 0] (by decide +kernel) (ls' := [(0, jI a0)]) (st' := [jI a0]) rfl (p1 := 1) rfl ?_
  refine J_if_ne B.1 (off := 11) (tgt := 12) (by decide +kernel) (by decide) hf (fun hf => ?_) (fun hf => ?_)
  · cases hf
    exact J_throw (E := "java/util/NoSuchElementException") B.1 (by decide) hq hno (by decide +kernel) cl_X9_307 ii_java_util_NoSuchElementException jat_309 jau_309 jav_309 B.2.2.2.1 (Nat.le_of_ble_eq_true rfl) (Nat.le_of_ble_eq_true rfl) (Nat.le_of_ble_eq_true rfl) (Nat.le_of_ble_eq_true rfl) (Nat.le_of_ble_eq_true rfl) (Nat.le_of_ble_eq_true rfl) (by decide +kernel) (by decide +kernel) (by decide +kernel) (by decide +kernel)
  · cases hf
    exact B_retV B hq rfl (Nat.le_of_ble_eq_true rfl) (Nat.le_of_ble_eq_true rfl) (by decide +kernel)

def rm_X1_numberHere : Room := { frames := 6, cells := 0, slots := 0, locals := 115 }
def f_X1_numberHere_L30 : Nat → Int → Int → Int → Int → jMu → Option Int
  | 0, _, _, _, _, _ => none
  | q + 1, v2, v3, v4, v5, m => (if v5 < v4 then some v3 else (f_X5_get 16 17 160 v5 0 m).bind fun r3 => (if r3 = v2 then (f_X1_holdsHere v5 m).bind fun r4 => (if r4 = 0 then f_X1_numberHere_L30 q v2 v3 v4 (jW (v5 + (-1))) m else (f_X5_get 16 17 160 v5 1 m).bind fun r5 => some r5) else f_X1_numberHere_L30 q v2 v3 v4 (jW (v5 + (-1))) m))
def f_X1_numberHere (a0 : Int) (a1 : Int) (a2 : Int) (m : jMu) : Option Int :=
  (f_X5_get 14 15 6 a0 0 m).bind fun r1 => (f_X5_get 14 15 6 a0 1 m).bind fun r2 => f_X1_numberHere_L30 jFU a1 a2 r1 (jW (r2 - 1)) m
theorem t_X1_numberHere_L30 {X : jX} (B : jB X cX1_numberHere RX1 6 SKF.length rm_X1_numberHere (some .int)) : ∀ (q : Nat) (v2 : Int) (v3 : Int) (v4 : Int) (v5 : Int) (m : jMu) (r : Int), f_X1_numberHere_L30 q v2 v3 v4 v5 m = some r → jQ X (.inl (some (jI r))) SKF m rm_X1_numberHere.cells rm_X1_numberHere.slots → J X SKF m 0 0 30 [(0, jR 32), (2, jI v2), (3, jI v3), (4, jI v4), (5, jI v5)] [] := by
  intro q
  induction q with
  | zero =>
    intro v2 v3 v4 v5 m r hf
    rw [f_X1_numberHere_L30] at hf
    cases hf
  | succ q ih =>
    intro v2 v3 v4 v5 m r hf hq
    rw [f_X1_numberHere_L30] at hf
    refine B_blk B jlkX1_ok jcl_SKF [.iload 5, .iload 4] (by decide +kernel) (ls' := [(0, jR 32), (2, jI v2), (3, jI v3), (4, jI v4), (5, jI v5)]) (st' := [jI v4, jI v5]) rfl (p1 := 34) rfl ?_
    refine J_icmp_lt B.1 (off := 49) (tgt := 83) (by decide +kernel) (by decide) hf (fun hf => ?_) (fun hf => ?_)
    · refine B_blk B jlkX1_ok jcl_SKF [.iload_n 3] (by decide +kernel) (ls' := [(0, jR 32), (2, jI v2), (3, jI v3), (4, jI v4), (5, jI v5)]) (st' := [jI v3]) rfl (p1 := 84) rfl ?_
      cases hf
      exact B_retI B hq rfl (Nat.le_of_ble_eq_true rfl) (Nat.le_of_ble_eq_true rfl) (by decide +kernel)
    · refine B_blk B jlkX1_ok jcl_SKF [.aload_n 0, .getfield 9, .getfield 95, .iload 5, .iconst 0] (by decide +kernel) (ls' := [(0, jR 32), (2, jI v2), (3, jI v3), (4, jI v4), (5, jI v5)]) (st' := [jI 0, jI v5, jR 16]) rfl (p1 := 47) rfl ?_
      obtain ⟨r3, h3, hf⟩ := jbd hf
      refine B_callV B (Nat.le_refl _) (μ' := m) (k' := 0) (n' := 0) ca_X5_get in_X5_get se_X5_get lk_X1_28 (t_X5_get B.tr jcl_SKF ⟨rfl, rfl, by decide⟩ h3) (Nat.le_refl _) rfl rfl rfl (rest := []) rfl rfl (Nat.le_of_ble_eq_true rfl) (by decide +kernel) rfl rfl (st' := [jI r3]) rfl ?_
      refine B_blk B jlkX1_ok jcl_SKF [.iload_n 2] (by decide +kernel) (ls' := [(0, jR 32), (2, jI v2), (3, jI v3), (4, jI v4), (5, jI v5)]) (st' := [jI v2, jI r3]) rfl (p1 := 51) rfl ?_
      refine J_icmp_ne B.1 (off := 26) (tgt := 77) (by decide +kernel) (by decide) hf (fun hf => ?_) (fun hf => ?_)
      · refine B_blk B jlkX1_ok jcl_SKF [.aload_n 0, .iload 5] (by decide +kernel) (ls' := [(0, jR 32), (2, jI v2), (3, jI v3), (4, jI v4), (5, jI v5)]) (st' := [jI v5, jR 32]) rfl (p1 := 57) rfl ?_
        obtain ⟨r4, h4, hf⟩ := jbd hf
        refine B_callV B (Nat.le_refl _) (μ' := m) (k' := 0) (n' := 0) ca_X1_holdsHere in_X1_holdsHere se_X1_holdsHere lk_X1_100 (t_X1_holdsHere B.tr h4) (Nat.le_refl _) rfl rfl rfl (rest := []) rfl rfl (Nat.le_of_ble_eq_true rfl) (by decide +kernel) rfl rfl (st' := [jI r4]) rfl ?_
        refine J_if_eq B.1 (off := 17) (tgt := 77) (by decide +kernel) (by decide) hf (fun hf => ?_) (fun hf => ?_)
        · refine B_blk B jlkX1_ok jcl_SKF [.iinc 5 (-1), .goto (-50)] (by decide +kernel) (ls' := [(0, jR 32), (2, jI v2), (3, jI v3), (4, jI v4), (5, jI (jW (v5 + (-1))))]) (st' := []) rfl (p1 := 30) rfl ?_
          exact ih v2 v3 v4 (jW (v5 + (-1))) m _ hf hq
        · refine B_blk B jlkX1_ok jcl_SKF [.aload_n 0, .getfield 9, .getfield 95, .iload 5, .iconst 1] (by decide +kernel) (ls' := [(0, jR 32), (2, jI v2), (3, jI v3), (4, jI v4), (5, jI v5)]) (st' := [jI 1, jI v5, jR 16]) rfl (p1 := 73) rfl ?_
          obtain ⟨r5, h5, hf⟩ := jbd hf
          refine B_callV B (Nat.le_refl _) (μ' := m) (k' := 0) (n' := 0) ca_X5_get in_X5_get se_X5_get lk_X1_28 (t_X5_get B.tr jcl_SKF ⟨rfl, rfl, by decide⟩ h5) (Nat.le_refl _) rfl rfl rfl (rest := []) rfl rfl (Nat.le_of_ble_eq_true rfl) (by decide +kernel) rfl rfl (st' := [jI r5]) rfl ?_
          cases hf
          exact B_retI B hq rfl (Nat.le_of_ble_eq_true rfl) (Nat.le_of_ble_eq_true rfl) (by decide +kernel)
      · refine B_blk B jlkX1_ok jcl_SKF [.iinc 5 (-1), .goto (-50)] (by decide +kernel) (ls' := [(0, jR 32), (2, jI v2), (3, jI v3), (4, jI v4), (5, jI (jW (v5 + (-1))))]) (st' := []) rfl (p1 := 30) rfl ?_
        exact ih v2 v3 v4 (jW (v5 + (-1))) m _ hf hq
theorem t_X1_numberHere {l : Launch} {G : jG} (hl : l.stackTraces = false) {a0 : Int} {a1 : Int} {a2 : Int} {m : jMu} {r : Int} (hf : f_X1_numberHere a0 a1 a2 m = some r) : jCt l G yX1_numberHere (.code yX1_numberHere cX1_numberHere 6 (some .int) :: jWG) rm_X1_numberHere [jR 32, jI a0, jI a1, jI a2] SKF m (.inl (some (jI r))) SKF m := by
  unfold f_X1_numberHere at hf
  refine J_start (ls0 := [(0, jR 32), (1, jI a0), (2, jI a1), (3, jI a2)]) (by decide +kernel) hl (Nat.le_of_ble_eq_true rfl) rfl fun X C hN hn hR hr hnm hno hq => ?_
  have B : jB X cX1_numberHere RX1 6 SKF.length rm_X1_numberHere (some .int) := ⟨C, hN, Nat.le_of_eq hn, hR, hr⟩
  refine B_blk B jlkX1_ok jcl_SKF [.aload_n 0, .getfield 9, .getfield 92, .iload_n 1, .iconst 0] (by decide +kernel) (ls' := [(0, jR 32), (1, jI a0), (2, jI a1), (3, jI a2)]) (st' := [jI 0, jI a0, jR 14]) rfl (p1 := 9) rfl ?_
  obtain ⟨r1, h1, hf⟩ := jbd hf
  refine B_callV B (Nat.le_refl _) (μ' := m) (k' := 0) (n' := 0) ca_X5_get in_X5_get se_X5_get lk_X1_28 (t_X5_get B.tr jcl_SKF ⟨rfl, rfl, by decide⟩ h1) (Nat.le_refl _) rfl rfl rfl (rest := []) rfl rfl (Nat.le_of_ble_eq_true rfl) (by decide +kernel) rfl rfl (st' := [jI r1]) rfl ?_
  refine B_blk B jlkX1_ok jcl_SKF [.istore 4, .aload_n 0, .getfield 9, .getfield 92, .iload_n 1, .iconst 1] (by decide +kernel) (ls' := [(0, jR 32), (1, jI a0), (2, jI a1), (3, jI a2), (4, jI r1)]) (st' := [jI 1, jI a0, jR 14]) rfl (p1 := 23) rfl ?_
  obtain ⟨r2, h2, hf⟩ := jbd hf
  refine B_callV B (Nat.le_refl _) (μ' := m) (k' := 0) (n' := 0) ca_X5_get in_X5_get se_X5_get lk_X1_28 (t_X5_get B.tr jcl_SKF ⟨rfl, rfl, by decide⟩ h2) (Nat.le_refl _) rfl rfl rfl (rest := []) rfl rfl (Nat.le_of_ble_eq_true rfl) (by decide +kernel) rfl rfl (st' := [jI r2]) rfl ?_
  refine B_blk B jlkX1_ok jcl_SKF [.iconst 1, .isub, .istore 5] (by decide +kernel) (ls' := [(0, jR 32), (1, jI a0), (2, jI a1), (3, jI a2), (4, jI r1), (5, jI (jW (r2 - 1)))]) (st' := []) rfl (p1 := 30) rfl ?_
  refine J_pick [0, 2, 3, 4, 5] (ls' := [(0, jR 32), (2, jI a1), (3, jI a2), (4, jI r1), (5, jI (jW (r2 - 1)))]) rfl ?_
  exact t_X1_numberHere_L30 B jFU a1 a2 r1 (jW (r2 - 1)) m _ hf hq

def rm_X1_dryHere : Room := { frames := 8, cells := 0, slots := 0, locals := 140 }
def f_X1_dryHere (a0 : Int) (m : jMu) : Option Int :=
  (f_X1_numberHere a0 101 0 m).bind fun r1 => some r1
theorem t_X1_dryHere {l : Launch} {G : jG} (hl : l.stackTraces = false) {a0 : Int} {m : jMu} {r : Int} (hf : f_X1_dryHere a0 m = some r) : jCt l G yX1_dryHere (.code yX1_dryHere cX1_dryHere 2 (some .int) :: jWG) rm_X1_dryHere [jR 32, jI a0] SKF m (.inl (some (jI r))) SKF m := by
  unfold f_X1_dryHere at hf
  refine J_start (ls0 := [(0, jR 32), (1, jI a0)]) (by decide +kernel) hl (Nat.le_of_ble_eq_true rfl) rfl fun X C hN hn hR hr hnm hno hq => ?_
  have B : jB X cX1_dryHere RX1 2 SKF.length rm_X1_dryHere (some .int) := ⟨C, hN, Nat.le_of_eq hn, hR, hr⟩
  refine B_blk B jlkX1_ok jcl_SKF [.aload_n 0, .iload_n 1, .bipush 101, .iconst 0] (by decide +kernel) (ls' := [(0, jR 32), (1, jI a0)]) (st' := [jI 0, jI 101, jI a0, jR 32]) rfl (p1 := 5) rfl ?_
  obtain ⟨r1, h1, hf⟩ := jbd hf
  refine B_callV B (Nat.le_refl _) (μ' := m) (k' := 0) (n' := 0) ca_X1_numberHere in_X1_numberHere se_X1_numberHere lk_X1_103 (t_X1_numberHere B.tr h1) (Nat.le_refl _) rfl rfl rfl (rest := []) rfl rfl (Nat.le_of_ble_eq_true rfl) (by decide +kernel) rfl rfl (st' := [jI r1]) rfl ?_
  cases hf
  exact B_retI B hq rfl (Nat.le_of_ble_eq_true rfl) (Nat.le_of_ble_eq_true rfl) (by decide +kernel)

def rm_X1_holdHere : Room := { frames := 8, cells := 0, slots := 0, locals := 140 }
def f_X1_holdHere (a0 : Int) (m : jMu) : Option Int :=
  (f_X1_numberHere a0 102 30 m).bind fun r1 => some r1
theorem t_X1_holdHere {l : Launch} {G : jG} (hl : l.stackTraces = false) {a0 : Int} {m : jMu} {r : Int} (hf : f_X1_holdHere a0 m = some r) : jCt l G yX1_holdHere (.code yX1_holdHere cX1_holdHere 2 (some .int) :: jWG) rm_X1_holdHere [jR 32, jI a0] SKF m (.inl (some (jI r))) SKF m := by
  unfold f_X1_holdHere at hf
  refine J_start (ls0 := [(0, jR 32), (1, jI a0)]) (by decide +kernel) hl (Nat.le_of_ble_eq_true rfl) rfl fun X C hN hn hR hr hnm hno hq => ?_
  have B : jB X cX1_holdHere RX1 2 SKF.length rm_X1_holdHere (some .int) := ⟨C, hN, Nat.le_of_eq hn, hR, hr⟩
  refine B_blk B jlkX1_ok jcl_SKF [.aload_n 0, .iload_n 1, .bipush 102, .bipush 30] (by decide +kernel) (ls' := [(0, jR 32), (1, jI a0)]) (st' := [jI 30, jI 102, jI a0, jR 32]) rfl (p1 := 6) rfl ?_
  obtain ⟨r1, h1, hf⟩ := jbd hf
  refine B_callV B (Nat.le_refl _) (μ' := m) (k' := 0) (n' := 0) ca_X1_numberHere in_X1_numberHere se_X1_numberHere lk_X1_103 (t_X1_numberHere B.tr h1) (Nat.le_refl _) rfl rfl rfl (rest := []) rfl rfl (Nat.le_of_ble_eq_true rfl) (by decide +kernel) rfl rfl (st' := [jI r1]) rfl ?_
  cases hf
  exact B_retI B hq rfl (Nat.le_of_ble_eq_true rfl) (Nat.le_of_ble_eq_true rfl) (by decide +kernel)

def rm_X1_payHere : Room := { frames := 8, cells := 0, slots := 0, locals := 140 }
def f_X1_payHere (a0 : Int) (m : jMu) : Option Int :=
  (f_X1_numberHere a0 103 0 m).bind fun r1 => some r1
theorem t_X1_payHere {l : Launch} {G : jG} (hl : l.stackTraces = false) {a0 : Int} {m : jMu} {r : Int} (hf : f_X1_payHere a0 m = some r) : jCt l G yX1_payHere (.code yX1_payHere cX1_payHere 2 (some .int) :: jWG) rm_X1_payHere [jR 32, jI a0] SKF m (.inl (some (jI r))) SKF m := by
  unfold f_X1_payHere at hf
  refine J_start (ls0 := [(0, jR 32), (1, jI a0)]) (by decide +kernel) hl (Nat.le_of_ble_eq_true rfl) rfl fun X C hN hn hR hr hnm hno hq => ?_
  have B : jB X cX1_payHere RX1 2 SKF.length rm_X1_payHere (some .int) := ⟨C, hN, Nat.le_of_eq hn, hR, hr⟩
  refine B_blk B jlkX1_ok jcl_SKF [.aload_n 0, .iload_n 1, .bipush 103, .iconst 0] (by decide +kernel) (ls' := [(0, jR 32), (1, jI a0)]) (st' := [jI 0, jI 103, jI a0, jR 32]) rfl (p1 := 5) rfl ?_
  obtain ⟨r1, h1, hf⟩ := jbd hf
  refine B_callV B (Nat.le_refl _) (μ' := m) (k' := 0) (n' := 0) ca_X1_numberHere in_X1_numberHere se_X1_numberHere lk_X1_103 (t_X1_numberHere B.tr h1) (Nat.le_refl _) rfl rfl rfl (rest := []) rfl rfl (Nat.le_of_ble_eq_true rfl) (by decide +kernel) rfl rfl (st' := [jI r1]) rfl ?_
  cases hf
  exact B_retI B hq rfl (Nat.le_of_ble_eq_true rfl) (Nat.le_of_ble_eq_true rfl) (by decide +kernel)

def rm_X1_askedHere : Room := { frames := 10, cells := 0, slots := 0, locals := 161 }
def f_X1_askedHere (a0 : Int) (a1 : Int) (m : jMu) : Option Int :=
  (if a1 = 0 then (f_X1_dryHere a0 m).bind fun r1 => some r1 else (if a1 = 1 then (f_X1_holdHere a0 m).bind fun r2 => some r2 else (if a1 = 2 then (f_X1_payHere a0 m).bind fun r3 => some r3 else (if a1 = 3 then some (m 32 7) else (if a1 = 4 then some (m 32 8) else (if a1 = 5 then some (m 32 2) else (if a1 = 6 then some (m 32 3) else some (m 32 4))))))))
theorem t_X1_askedHere {l : Launch} {G : jG} (hl : l.stackTraces = false) {a0 : Int} {a1 : Int} {m : jMu} {r : Int} (hf : f_X1_askedHere a0 a1 m = some r) : jCt l G yX1_askedHere (.code yX1_askedHere cX1_askedHere 3 (some .int) :: jWG) rm_X1_askedHere [jR 32, jI a0, jI a1] SKF m (.inl (some (jI r))) SKF m := by
  unfold f_X1_askedHere at hf
  refine J_start (ls0 := [(0, jR 32), (1, jI a0), (2, jI a1)]) (by decide +kernel) hl (Nat.le_of_ble_eq_true rfl) rfl fun X C hN hn hR hr hnm hno hq => ?_
  have B : jB X cX1_askedHere RX1 3 SKF.length rm_X1_askedHere (some .int) := ⟨C, hN, Nat.le_of_eq hn, hR, hr⟩
  refine B_blk B jlkX1_ok jcl_SKF [.iload_n 2] (by decide +kernel) (ls' := [(0, jR 32), (1, jI a0), (2, jI a1)]) (st' := [jI a1]) rfl (p1 := 1) rfl ?_
  rcases jite hf with ⟨c10, hf⟩ | ⟨c10, hf⟩
  · refine K_tswI B (off := 43) (tgt := 44) c10 (dflt := 81) (lo := 0) (hi := 6) (offs := #[43, 49, 55, 61, 66, 71, 76]) (len := 43) (by decide +kernel) (by decide) (by decide) rfl (by decide) ?_
    refine B_blk B jlkX1_ok jcl_SKF [.aload_n 0, .iload_n 1] (by decide +kernel) (ls' := [(0, jR 32), (1, jI a0), (2, jI a1)]) (st' := [jI a0, jR 32]) rfl (p1 := 46) rfl ?_
    obtain ⟨r1, h1, hf⟩ := jbd hf
    refine B_callV B (Nat.le_refl _) (μ' := m) (k' := 0) (n' := 0) ca_X1_dryHere in_X1_dryHere se_X1_dryHere lk_X1_117 (t_X1_dryHere B.tr h1) (Nat.le_refl _) rfl rfl rfl (rest := []) rfl rfl (Nat.le_of_ble_eq_true rfl) (by decide +kernel) rfl rfl (st' := [jI r1]) rfl ?_
    cases hf
    exact B_retI B hq rfl (Nat.le_of_ble_eq_true rfl) (Nat.le_of_ble_eq_true rfl) (by decide +kernel)
  · rcases jite hf with ⟨c9, hf⟩ | ⟨c9, hf⟩
    · refine K_tswI B (off := 49) (tgt := 50) c9 (dflt := 81) (lo := 0) (hi := 6) (offs := #[43, 49, 55, 61, 66, 71, 76]) (len := 43) (by decide +kernel) (by decide) (by decide) rfl (by decide) ?_
      refine B_blk B jlkX1_ok jcl_SKF [.aload_n 0, .iload_n 1] (by decide +kernel) (ls' := [(0, jR 32), (1, jI a0), (2, jI a1)]) (st' := [jI a0, jR 32]) rfl (p1 := 52) rfl ?_
      obtain ⟨r2, h2, hf⟩ := jbd hf
      refine B_callV B (Nat.le_refl _) (μ' := m) (k' := 0) (n' := 0) ca_X1_holdHere in_X1_holdHere se_X1_holdHere lk_X1_120 (t_X1_holdHere B.tr h2) (Nat.le_refl _) rfl rfl rfl (rest := []) rfl rfl (Nat.le_of_ble_eq_true rfl) (by decide +kernel) rfl rfl (st' := [jI r2]) rfl ?_
      cases hf
      exact B_retI B hq rfl (Nat.le_of_ble_eq_true rfl) (Nat.le_of_ble_eq_true rfl) (by decide +kernel)
    · rcases jite hf with ⟨c8, hf⟩ | ⟨c8, hf⟩
      · refine K_tswI B (off := 55) (tgt := 56) c8 (dflt := 81) (lo := 0) (hi := 6) (offs := #[43, 49, 55, 61, 66, 71, 76]) (len := 43) (by decide +kernel) (by decide) (by decide) rfl (by decide) ?_
        refine B_blk B jlkX1_ok jcl_SKF [.aload_n 0, .iload_n 1] (by decide +kernel) (ls' := [(0, jR 32), (1, jI a0), (2, jI a1)]) (st' := [jI a0, jR 32]) rfl (p1 := 58) rfl ?_
        obtain ⟨r3, h3, hf⟩ := jbd hf
        refine B_callV B (Nat.le_refl _) (μ' := m) (k' := 0) (n' := 0) ca_X1_payHere in_X1_payHere se_X1_payHere lk_X1_114 (t_X1_payHere B.tr h3) (Nat.le_refl _) rfl rfl rfl (rest := []) rfl rfl (Nat.le_of_ble_eq_true rfl) (by decide +kernel) rfl rfl (st' := [jI r3]) rfl ?_
        cases hf
        exact B_retI B hq rfl (Nat.le_of_ble_eq_true rfl) (Nat.le_of_ble_eq_true rfl) (by decide +kernel)
      · rcases jite hf with ⟨c7, hf⟩ | ⟨c7, hf⟩
        · refine K_tswI B (off := 61) (tgt := 62) c7 (dflt := 81) (lo := 0) (hi := 6) (offs := #[43, 49, 55, 61, 66, 71, 76]) (len := 43) (by decide +kernel) (by decide) (by decide) rfl (by decide) ?_
          refine B_blk B jlkX1_ok jcl_SKF [.aload_n 0, .getfield 86] (by decide +kernel) (ls' := [(0, jR 32), (1, jI a0), (2, jI a1)]) (st' := [jI (m 32 7)]) rfl (p1 := 66) rfl ?_
          cases hf
          exact B_retI B hq rfl (Nat.le_of_ble_eq_true rfl) (Nat.le_of_ble_eq_true rfl) (by decide +kernel)
        · rcases jite hf with ⟨c6, hf⟩ | ⟨c6, hf⟩
          · refine K_tswI B (off := 66) (tgt := 67) c6 (dflt := 81) (lo := 0) (hi := 6) (offs := #[43, 49, 55, 61, 66, 71, 76]) (len := 43) (by decide +kernel) (by decide) (by decide) rfl (by decide) ?_
            refine B_blk B jlkX1_ok jcl_SKF [.aload_n 0, .getfield 89] (by decide +kernel) (ls' := [(0, jR 32), (1, jI a0), (2, jI a1)]) (st' := [jI (m 32 8)]) rfl (p1 := 71) rfl ?_
            cases hf
            exact B_retI B hq rfl (Nat.le_of_ble_eq_true rfl) (Nat.le_of_ble_eq_true rfl) (by decide +kernel)
          · rcases jite hf with ⟨c5, hf⟩ | ⟨c5, hf⟩
            · refine K_tswI B (off := 71) (tgt := 72) c5 (dflt := 81) (lo := 0) (hi := 6) (offs := #[43, 49, 55, 61, 66, 71, 76]) (len := 43) (by decide +kernel) (by decide) (by decide) rfl (by decide) ?_
              refine B_blk B jlkX1_ok jcl_SKF [.aload_n 0, .getfield 83] (by decide +kernel) (ls' := [(0, jR 32), (1, jI a0), (2, jI a1)]) (st' := [jI (m 32 2)]) rfl (p1 := 76) rfl ?_
              cases hf
              exact B_retI B hq rfl (Nat.le_of_ble_eq_true rfl) (Nat.le_of_ble_eq_true rfl) (by decide +kernel)
            · rcases jite hf with ⟨c4, hf⟩ | ⟨c4, hf⟩
              · refine K_tswI B (off := 76) (tgt := 77) c4 (dflt := 81) (lo := 0) (hi := 6) (offs := #[43, 49, 55, 61, 66, 71, 76]) (len := 43) (by decide +kernel) (by decide) (by decide) rfl (by decide) ?_
                refine B_blk B jlkX1_ok jcl_SKF [.aload_n 0, .getfield 57] (by decide +kernel) (ls' := [(0, jR 32), (1, jI a0), (2, jI a1)]) (st' := [jI (m 32 3)]) rfl (p1 := 81) rfl ?_
                cases hf
                exact B_retI B hq rfl (Nat.le_of_ble_eq_true rfl) (Nat.le_of_ble_eq_true rfl) (by decide +kernel)
              · refine J_tswO B.1 (tgt := 82) (dflt := 81) (lo := 0) (hi := 6) (offs := #[43, 49, 55, 61, 66, 71, 76]) (len := 43) (by decide +kernel) (by omega) (by decide) ?_
                refine B_blk B jlkX1_ok jcl_SKF [.aload_n 0, .getfield 63] (by decide +kernel) (ls' := [(0, jR 32), (1, jI a0), (2, jI a1)]) (st' := [jI (m 32 4)]) rfl (p1 := 86) rfl ?_
                cases hf
                exact B_retI B hq rfl (Nat.le_of_ble_eq_true rfl) (Nat.le_of_ble_eq_true rfl) (by decide +kernel)

def rm_X9_at : Room := { frames := 12, cells := 3, slots := 18, locals := 183 }
def f_X9_at_J63 (v1 : Int) (v2 : Int) (v3 : Int) (v4 : Int) (v5 : Int) (s0 : Int) (m : jMu) : Option (jOut Int) :=
  jthr (f_X9_needIndex s0 m) fun r4 => (f_X9_isIn v5 0 7).bind fun r5 => jthr (f_X9_needElement r5 r4.2) fun r6 => (f_X1_stand v2 (jW (jW (v3 * 12) + v4)) r6.2).bind fun r7 => (f_X1_askedHere v1 v5 r7).bind fun r8 => some (.inr (r8, r7))
def f_X9_at_J62 (v1 : Int) (v2 : Int) (v3 : Int) (v4 : Int) (v5 : Int) (m : jMu) : Option (jOut Int) :=
  f_X9_at_J63 v1 v2 v3 v4 v5 0 m
def f_X9_at_J33 (v1 : Int) (v2 : Int) (v3 : Int) (v4 : Int) (v5 : Int) (s0 : Int) (m : jMu) : Option (jOut Int) :=
  jthr (f_X9_needIndex s0 m) fun r2 => (f_X9_isIn v3 0 199).bind fun r3 => (if r3 = 0 then f_X9_at_J62 v1 v2 v3 v4 v5 r2.2 else (f_X9_isIn v4 0 11).bind fun r9 => (if r9 = 0 then f_X9_at_J62 v1 v2 v3 v4 v5 r2.2 else f_X9_at_J63 v1 v2 v3 v4 v5 1 r2.2))
def f_X9_at_J32 (v1 : Int) (v2 : Int) (v3 : Int) (v4 : Int) (v5 : Int) (m : jMu) : Option (jOut Int) :=
  f_X9_at_J33 v1 v2 v3 v4 v5 0 m
def f_X9_at (a0 : Int) (a1 : Int) (a2 : Int) (a3 : Int) (a4 : Int) (m : jMu) : Option (jOut Int) :=
  (f_X5_has 14 15 6 a0 m).bind fun r1 => (if r1 = 0 then f_X9_at_J32 a0 a1 a2 a3 a4 m else (f_X5_has 4 5 80 a1 m).bind fun r10 => (if r10 = 0 then f_X9_at_J32 a0 a1 a2 a3 a4 m else f_X9_at_J33 a0 a1 a2 a3 a4 1 m))
theorem t_X9_at_J63 {X : jX} (B : jB X cX9_at RX9 6 SKF.length rm_X9_at (some .int)) (hno : ∀ x ∈ (xc X).exceptionTable.toList, False) (v1 : Int) (v2 : Int) (v3 : Int) (v4 : Int) (v5 : Int) (s0 : Int) (m : jMu) (r : (jOut Int)) (hf : f_X9_at_J63 v1 v2 v3 v4 v5 s0 m = some r) (hq : jQ X (joI r) SKF (joM r) rm_X9_at.cells rm_X9_at.slots) : J X SKF m 1 6 63 [(0, jR 0), (1, jI v1), (2, jI v2), (3, jI v3), (4, jI v4), (5, jI v5)] [jI s0] := by
  unfold f_X9_at_J63 at hf
  rcases jthr_s hf with ⟨e4, h4, hf⟩ | ⟨r4, h4, hf⟩
  · cases hf
    exact B_callST B (Nat.le_refl _) hno hq ca_X9_needIndex sa_X9_needIndex lk_X9_125 (t_X9_needIndex B.tr h4) (Nat.le_refl _) rfl (rest := []) rfl rfl (Nat.le_of_ble_eq_true rfl) (by decide +kernel) (Nat.le_of_ble_eq_true rfl) (Nat.le_of_ble_eq_true rfl)
  · refine B_callS B (Nat.le_refl _) (μ' := r4.2) (k' := 2) (n' := 12) ca_X9_needIndex sa_X9_needIndex lk_X9_125 (t_X9_needIndex B.tr h4) (Nat.le_refl _) rfl (rest := []) rfl rfl (Nat.le_of_ble_eq_true rfl) (by decide +kernel) rfl rfl (st' := []) rfl ?_
    refine B_blk B jlkX9_ok jcl_SKF [.iload 5, .iconst 0, .bipush 7] (by decide +kernel) (ls' := [(0, jR 0), (1, jI v1), (2, jI v2), (3, jI v3), (4, jI v4), (5, jI v5)]) (st' := [jI 7, jI 0, jI v5]) rfl (p1 := 71) rfl ?_
    obtain ⟨r5, h5, hf⟩ := jbd hf
    refine B_callS B (Nat.le_refl _) (μ' := r4.2) (k' := 2) (n' := 12) ca_X9_isIn sa_X9_isIn lk_X9_93 (t_X9_isIn B.tr jcl_SKF h5) (Nat.le_refl _) rfl (rest := []) rfl rfl (Nat.le_of_ble_eq_true rfl) (by decide +kernel) rfl rfl (st' := [jI r5]) rfl ?_
    rcases jthr_s hf with ⟨e6, h6, hf⟩ | ⟨r6, h6, hf⟩
    · cases hf
      exact B_callST B (Nat.le_refl _) hno hq ca_X9_needElement sa_X9_needElement lk_X9_170 (t_X9_needElement B.tr h6) (Nat.le_refl _) rfl (rest := []) rfl rfl (Nat.le_of_ble_eq_true rfl) (by decide +kernel) (Nat.le_of_ble_eq_true rfl) (Nat.le_of_ble_eq_true rfl)
    · refine B_callS B (Nat.le_refl _) (μ' := r6.2) (k' := 3) (n' := 18) ca_X9_needElement sa_X9_needElement lk_X9_170 (t_X9_needElement B.tr h6) (Nat.le_refl _) rfl (rest := []) rfl rfl (Nat.le_of_ble_eq_true rfl) (by decide +kernel) rfl rfl (st' := []) rfl ?_
      refine B_blk B jlkX9_ok jcl_SKF [.aload_n 0, .getfield 40, .iload_n 2, .iload_n 3, .bipush 12, .imul, .iload 4, .iadd] (by decide +kernel) (ls' := [(0, jR 0), (1, jI v1), (2, jI v2), (3, jI v3), (4, jI v4), (5, jI v5)]) (st' := [jI (jW (jW (v3 * 12) + v4)), jI v2, jR 32]) rfl (p1 := 89) rfl ?_
      obtain ⟨r7, h7, hf⟩ := jbd hf
      refine B_callV B (Nat.le_refl _) (μ' := r7) (k' := 3) (n' := 18) ca_X1_stand in_X1_stand se_X1_stand lk_X9_163 (t_X1_stand B.tr h7) (Nat.le_refl _) rfl rfl rfl (rest := []) rfl rfl (Nat.le_of_ble_eq_true rfl) (by decide +kernel) rfl rfl (st' := []) rfl ?_
      refine B_blk B jlkX9_ok jcl_SKF [.aload_n 0, .getfield 40, .iload_n 1, .iload 5] (by decide +kernel) (ls' := [(0, jR 0), (1, jI v1), (2, jI v2), (3, jI v3), (4, jI v4), (5, jI v5)]) (st' := [jI v5, jI v1, jR 32]) rfl (p1 := 99) rfl ?_
      obtain ⟨r8, h8, hf⟩ := jbd hf
      refine B_callV B (Nat.le_refl _) (μ' := r7) (k' := 3) (n' := 18) ca_X1_askedHere in_X1_askedHere se_X1_askedHere lk_X9_173 (t_X1_askedHere B.tr h8) (Nat.le_refl _) rfl rfl rfl (rest := []) rfl rfl (Nat.le_of_ble_eq_true rfl) (by decide +kernel) rfl rfl (st' := [jI r8]) rfl ?_
      cases hf
      exact B_retI B hq rfl (Nat.le_of_ble_eq_true rfl) (Nat.le_of_ble_eq_true rfl) (by decide +kernel)
theorem t_X9_at_J62 {X : jX} (B : jB X cX9_at RX9 6 SKF.length rm_X9_at (some .int)) (hno : ∀ x ∈ (xc X).exceptionTable.toList, False) (v1 : Int) (v2 : Int) (v3 : Int) (v4 : Int) (v5 : Int) (m : jMu) (r : (jOut Int)) (hf : f_X9_at_J62 v1 v2 v3 v4 v5 m = some r) (hq : jQ X (joI r) SKF (joM r) rm_X9_at.cells rm_X9_at.slots) : J X SKF m 1 6 62 [(0, jR 0), (1, jI v1), (2, jI v2), (3, jI v3), (4, jI v4), (5, jI v5)] [] := by
  unfold f_X9_at_J62 at hf
  refine B_blk B jlkX9_ok jcl_SKF [.iconst 0] (by decide +kernel) (ls' := [(0, jR 0), (1, jI v1), (2, jI v2), (3, jI v3), (4, jI v4), (5, jI v5)]) (st' := [jI 0]) rfl (p1 := 63) rfl ?_
  exact t_X9_at_J63 B hno v1 v2 v3 v4 v5 0 m _ hf hq
theorem t_X9_at_J33 {X : jX} (B : jB X cX9_at RX9 6 SKF.length rm_X9_at (some .int)) (hno : ∀ x ∈ (xc X).exceptionTable.toList, False) (v1 : Int) (v2 : Int) (v3 : Int) (v4 : Int) (v5 : Int) (s0 : Int) (m : jMu) (r : (jOut Int)) (hf : f_X9_at_J33 v1 v2 v3 v4 v5 s0 m = some r) (hq : jQ X (joI r) SKF (joM r) rm_X9_at.cells rm_X9_at.slots) : J X SKF m 0 0 33 [(0, jR 0), (1, jI v1), (2, jI v2), (3, jI v3), (4, jI v4), (5, jI v5)] [jI s0] := by
  unfold f_X9_at_J33 at hf
  rcases jthr_s hf with ⟨e2, h2, hf⟩ | ⟨r2, h2, hf⟩
  · cases hf
    exact B_callST B (Nat.le_refl _) hno hq ca_X9_needIndex sa_X9_needIndex lk_X9_125 (t_X9_needIndex B.tr h2) (Nat.le_refl _) rfl (rest := []) rfl rfl (Nat.le_of_ble_eq_true rfl) (by decide +kernel) (Nat.le_of_ble_eq_true rfl) (Nat.le_of_ble_eq_true rfl)
  · refine B_callS B (Nat.le_refl _) (μ' := r2.2) (k' := 1) (n' := 6) ca_X9_needIndex sa_X9_needIndex lk_X9_125 (t_X9_needIndex B.tr h2) (Nat.le_refl _) rfl (rest := []) rfl rfl (Nat.le_of_ble_eq_true rfl) (by decide +kernel) rfl rfl (st' := []) rfl ?_
    refine B_blk B jlkX9_ok jcl_SKF [.iload_n 3, .iconst 0, .sipush 199] (by decide +kernel) (ls' := [(0, jR 0), (1, jI v1), (2, jI v2), (3, jI v3), (4, jI v4), (5, jI v5)]) (st' := [jI 199, jI 0, jI v3]) rfl (p1 := 41) rfl ?_
    obtain ⟨r3, h3, hf⟩ := jbd hf
    refine B_callS B (Nat.le_refl _) (μ' := r2.2) (k' := 1) (n' := 6) ca_X9_isIn sa_X9_isIn lk_X9_93 (t_X9_isIn B.tr jcl_SKF h3) (Nat.le_refl _) rfl (rest := []) rfl rfl (Nat.le_of_ble_eq_true rfl) (by decide +kernel) rfl rfl (st' := [jI r3]) rfl ?_
    refine J_if_eq B.1 (off := 18) (tgt := 62) (by decide +kernel) (by decide) hf (fun hf => ?_) (fun hf => ?_)
    · exact t_X9_at_J62 B hno v1 v2 v3 v4 v5 r2.2 _ hf hq
    · refine B_blk B jlkX9_ok jcl_SKF [.iload 4, .iconst 0, .bipush 11] (by decide +kernel) (ls' := [(0, jR 0), (1, jI v1), (2, jI v2), (3, jI v3), (4, jI v4), (5, jI v5)]) (st' := [jI 11, jI 0, jI v4]) rfl (p1 := 52) rfl ?_
      obtain ⟨r9, h9, hf⟩ := jbd hf
      refine B_callS B (Nat.le_refl _) (μ' := r2.2) (k' := 1) (n' := 6) ca_X9_isIn sa_X9_isIn lk_X9_93 (t_X9_isIn B.tr jcl_SKF h9) (Nat.le_refl _) rfl (rest := []) rfl rfl (Nat.le_of_ble_eq_true rfl) (by decide +kernel) rfl rfl (st' := [jI r9]) rfl ?_
      refine J_if_eq B.1 (off := 7) (tgt := 62) (by decide +kernel) (by decide) hf (fun hf => ?_) (fun hf => ?_)
      · exact t_X9_at_J62 B hno v1 v2 v3 v4 v5 r2.2 _ hf hq
      · refine B_blk B jlkX9_ok jcl_SKF [.iconst 1, .goto 4] (by decide +kernel) (ls' := [(0, jR 0), (1, jI v1), (2, jI v2), (3, jI v3), (4, jI v4), (5, jI v5)]) (st' := [jI 1]) rfl (p1 := 63) rfl ?_
        exact t_X9_at_J63 B hno v1 v2 v3 v4 v5 1 r2.2 _ hf hq
theorem t_X9_at_J32 {X : jX} (B : jB X cX9_at RX9 6 SKF.length rm_X9_at (some .int)) (hno : ∀ x ∈ (xc X).exceptionTable.toList, False) (v1 : Int) (v2 : Int) (v3 : Int) (v4 : Int) (v5 : Int) (m : jMu) (r : (jOut Int)) (hf : f_X9_at_J32 v1 v2 v3 v4 v5 m = some r) (hq : jQ X (joI r) SKF (joM r) rm_X9_at.cells rm_X9_at.slots) : J X SKF m 0 0 32 [(0, jR 0), (1, jI v1), (2, jI v2), (3, jI v3), (4, jI v4), (5, jI v5)] [] := by
  unfold f_X9_at_J32 at hf
  refine B_blk B jlkX9_ok jcl_SKF [.iconst 0] (by decide +kernel) (ls' := [(0, jR 0), (1, jI v1), (2, jI v2), (3, jI v3), (4, jI v4), (5, jI v5)]) (st' := [jI 0]) rfl (p1 := 33) rfl ?_
  exact t_X9_at_J33 B hno v1 v2 v3 v4 v5 0 m _ hf hq
theorem t_X9_at {l : Launch} {G : jG} (hl : l.stackTraces = false) {a0 : Int} {a1 : Int} {a2 : Int} {a3 : Int} {a4 : Int} {m : jMu} {r : (jOut Int)} (hf : f_X9_at a0 a1 a2 a3 a4 m = some r) : jCt l G yX9_at (.code yX9_at cX9_at 6 (some .int) :: jWG) rm_X9_at [jR 0, jI a0, jI a1, jI a2, jI a3, jI a4] SKF m (joI r) SKF (joM r) := by
  unfold f_X9_at at hf
  refine J_start (ls0 := [(0, jR 0), (1, jI a0), (2, jI a1), (3, jI a2), (4, jI a3), (5, jI a4)]) (by decide +kernel) hl (Nat.le_of_ble_eq_true rfl) rfl fun X C hN hn hR hr hnm hno hq => ?_
  have B : jB X cX9_at RX9 6 SKF.length rm_X9_at (some .int) := ⟨C, hN, Nat.le_of_eq hn, hR, hr⟩
  refine B_blk B jlkX9_ok jcl_SKF [.aload_n 0, .getfield 20, .getfield 158, .iload_n 1] (by decide +kernel) (ls' := [(0, jR 0), (1, jI a0), (2, jI a1), (3, jI a2), (4, jI a3), (5, jI a4)]) (st' := [jI a0, jR 14]) rfl (p1 := 8) rfl ?_
  obtain ⟨r1, h1, hf⟩ := jbd hf
  refine B_callV B (Nat.le_refl _) (μ' := m) (k' := 0) (n' := 0) ca_X5_has in_X5_has se_X5_has lk_X9_143 (t_X5_has B.tr jcl_SKF ⟨rfl, rfl, by decide⟩ h1) (Nat.le_refl _) rfl rfl rfl (rest := []) rfl rfl (Nat.le_of_ble_eq_true rfl) (by decide +kernel) rfl rfl (st' := [jI r1]) rfl ?_
  refine J_if_eq B.1 (off := 21) (tgt := 32) (by decide +kernel) (by decide) hf (fun hf => ?_) (fun hf => ?_)
  · exact t_X9_at_J32 B hno a0 a1 a2 a3 a4 m _ hf hq
  · refine B_blk B jlkX9_ok jcl_SKF [.aload_n 0, .getfield 20, .getfield 101, .iload_n 2] (by decide +kernel) (ls' := [(0, jR 0), (1, jI a0), (2, jI a1), (3, jI a2), (4, jI a3), (5, jI a4)]) (st' := [jI a1, jR 4]) rfl (p1 := 22) rfl ?_
    obtain ⟨r10, h10, hf⟩ := jbd hf
    refine B_callV B (Nat.le_refl _) (μ' := m) (k' := 0) (n' := 0) ca_X5_has in_X5_has se_X5_has lk_X9_143 (t_X5_has B.tr jcl_SKF ⟨rfl, rfl, by decide⟩ h10) (Nat.le_refl _) rfl rfl rfl (rest := []) rfl rfl (Nat.le_of_ble_eq_true rfl) (by decide +kernel) rfl rfl (st' := [jI r10]) rfl ?_
    refine J_if_eq B.1 (off := 7) (tgt := 32) (by decide +kernel) (by decide) hf (fun hf => ?_) (fun hf => ?_)
    · exact t_X9_at_J32 B hno a0 a1 a2 a3 a4 m _ hf hq
    · refine B_blk B jlkX9_ok jcl_SKF [.iconst 1, .goto 4] (by decide +kernel) (ls' := [(0, jR 0), (1, jI a0), (2, jI a1), (3, jI a2), (4, jI a3), (5, jI a4)]) (st' := [jI 1]) rfl (p1 := 33) rfl ?_
      exact t_X9_at_J33 B hno a0 a1 a2 a3 a4 1 m _ hf hq

def rm_X1_isLost : Room := { frames := 8, cells := 0, slots := 0, locals := 139 }
def f_X1_isLost (a0 : Int) (m : jMu) : Option (Int × jMu) :=
  (if m 32 3 = 0 then some (0, m) else (f_X1_whyHere a0 m).bind fun r1 => (if r1 = 0 then some (0, m) else (jlt (jup m 32 3 0) fun m2 => (f_X1_whyHere a0 m2).bind fun r3 => (if r3 = 0 then (jlt (jup m2 32 3 1) fun m4 => some (1, m4)) else (jlt (jup m2 32 3 1) fun m5 => some (0, m5))))))
theorem t_X1_isLost {l : Launch} {G : jG} (hl : l.stackTraces = false) {a0 : Int} {m : jMu} {r : (Int × jMu)} (hf : f_X1_isLost a0 m = some r) : jCt l G yX1_isLost (.code yX1_isLost cX1_isLost 3 (some .boolean) :: jWG) rm_X1_isLost [jR 32, jI a0] SKF m (.inl (some (jI r.1))) SKF r.2 := by
  unfold f_X1_isLost at hf
  refine J_start (ls0 := [(0, jR 32), (1, jI a0)]) (by decide +kernel) hl (Nat.le_of_ble_eq_true rfl) rfl fun X C hN hn hR hr hnm hno hq => ?_
  have B : jB X cX1_isLost RX1 3 SKF.length rm_X1_isLost (some .boolean) := ⟨C, hN, Nat.le_of_eq hn, hR, hr⟩
  refine B_blk B jlkX1_ok jcl_SKF [.aload_n 0, .getfield 57] (by decide +kernel) (ls' := [(0, jR 32), (1, jI a0)]) (st' := [jI (m 32 3)]) rfl (p1 := 4) rfl ?_
  refine J_if_eq B.1 (off := 11) (tgt := 15) (by decide +kernel) (by decide) hf (fun hf => ?_) (fun hf => ?_)
  · refine B_blk B jlkX1_ok jcl_SKF [.iconst 0] (by decide +kernel) (ls' := [(0, jR 32), (1, jI a0)]) (st' := [jI 0]) rfl (p1 := 16) rfl ?_
    cases hf
    exact B_retZ B (Or.inl rfl) hq rfl (Nat.le_of_ble_eq_true rfl) (Nat.le_of_ble_eq_true rfl) (by decide +kernel)
  · refine B_blk B jlkX1_ok jcl_SKF [.aload_n 0, .iload_n 1] (by decide +kernel) (ls' := [(0, jR 32), (1, jI a0)]) (st' := [jI a0, jR 32]) rfl (p1 := 9) rfl ?_
    obtain ⟨r1, h1, hf⟩ := jbd hf
    refine B_callV B (Nat.le_refl _) (μ' := m) (k' := 0) (n' := 0) ca_X1_whyHere in_X1_whyHere se_X1_whyHere lk_X1_107 (t_X1_whyHere B.tr h1) (Nat.le_refl _) rfl rfl rfl (rest := []) rfl rfl (Nat.le_of_ble_eq_true rfl) (by decide +kernel) rfl rfl (st' := [jI r1]) rfl ?_
    refine J_if_ne B.1 (off := 5) (tgt := 17) (by decide +kernel) (by decide) hf (fun hf => ?_) (fun hf => ?_)
    · refine B_blk B jlkX1_ok jcl_SKF [.iconst 0] (by decide +kernel) (ls' := [(0, jR 32), (1, jI a0)]) (st' := [jI 0]) rfl (p1 := 16) rfl ?_
      cases hf
      exact B_retZ B (Or.inl rfl) hq rfl (Nat.le_of_ble_eq_true rfl) (Nat.le_of_ble_eq_true rfl) (by decide +kernel)
    · refine B_blk B jlkX1_ok jcl_SKF [.aload_n 0, .iconst 0] (by decide +kernel) (ls' := [(0, jR 32), (1, jI a0)]) (st' := [jI 0, jR 32]) rfl (p1 := 19) rfl ?_
      refine K_putI (jI' := 3) B jp_X1_57 rfl rfl rfl (by decide +kernel) ?_
      obtain ⟨m2, hm2, hf⟩ := jlt_s hf
      rw [hm2]
      refine B_blk B jlkX1_ok jcl_SKF [.aload_n 0, .iload_n 1] (by decide +kernel) (ls' := [(0, jR 32), (1, jI a0)]) (st' := [jI a0, jR 32]) rfl (p1 := 24) rfl ?_
      obtain ⟨r3, h3, hf⟩ := jbd hf
      refine B_callV B (Nat.le_refl _) (μ' := m2) (k' := 0) (n' := 0) ca_X1_whyHere in_X1_whyHere se_X1_whyHere lk_X1_107 (t_X1_whyHere B.tr h3) (Nat.le_refl _) rfl rfl rfl (rest := []) rfl rfl (Nat.le_of_ble_eq_true rfl) (by decide +kernel) rfl rfl (st' := [jI r3]) rfl ?_
      refine J_if_ne B.1 (off := 7) (tgt := 34) (by decide +kernel) (by decide) hf (fun hf => ?_) (fun hf => ?_)
      · refine B_blk B jlkX1_ok jcl_SKF [.iconst 1, .goto 4, .istore_n 2, .aload_n 0, .iconst 1] (by decide +kernel) (ls' := [(0, jR 32), (1, jI a0), (2, jI 1)]) (st' := [jI 1, jR 32]) rfl (p1 := 38) rfl ?_
        refine K_putI (jI' := 3) B jp_X1_57 rfl rfl rfl (by decide +kernel) ?_
        obtain ⟨m4, hm4, hf⟩ := jlt_s hf
        rw [hm4]
        refine B_blk B jlkX1_ok jcl_SKF [.iload_n 2] (by decide +kernel) (ls' := [(0, jR 32), (1, jI a0), (2, jI 1)]) (st' := [jI 1]) rfl (p1 := 42) rfl ?_
        cases hf
        exact B_retZ B (Or.inr rfl) hq rfl (Nat.le_of_ble_eq_true rfl) (Nat.le_of_ble_eq_true rfl) (by decide +kernel)
      · refine B_blk B jlkX1_ok jcl_SKF [.iconst 0, .istore_n 2, .aload_n 0, .iconst 1] (by decide +kernel) (ls' := [(0, jR 32), (1, jI a0), (2, jI 0)]) (st' := [jI 1, jR 32]) rfl (p1 := 38) rfl ?_
        refine K_putI (jI' := 3) B jp_X1_57 rfl rfl rfl (by decide +kernel) ?_
        obtain ⟨m5, hm5, hf⟩ := jlt_s hf
        rw [hm5]
        refine B_blk B jlkX1_ok jcl_SKF [.iload_n 2] (by decide +kernel) (ls' := [(0, jR 32), (1, jI a0), (2, jI 0)]) (st' := [jI 0]) rfl (p1 := 42) rfl ?_
        cases hf
        exact B_retZ B (Or.inl rfl) hq rfl (Nat.le_of_ble_eq_true rfl) (Nat.le_of_ble_eq_true rfl) (by decide +kernel)

def rm_X1_countHere : Room := { frames := 10, cells := 0, slots := 0, locals := 161 }
def f_X1_countHere (a0 : Int) (a1 : Int) (m : jMu) : Option (Int × jMu) :=
  (if a1 = 0 then (f_X1_whyHere a0 m).bind fun r1 => (if r1 = 0 then some (1, m) else some (0, m)) else (if a1 = 1 then (f_X1_whyHere a0 m).bind fun r2 => (if r2 = 0 then some (0, m) else some (1, m)) else (if a1 = 2 then (f_X1_isLost a0 m).bind fun r3 => (if r3.1 = 0 then some (0, r3.2) else some (1, r3.2)) else (f_X1_isLost a0 m).bind fun r4 => (if r4.1 = 0 then some (0, r4.2) else (f_X1_payHere a0 r4.2).bind fun r5 => some (r5, r4.2)))))
theorem t_X1_countHere {l : Launch} {G : jG} (hl : l.stackTraces = false) {a0 : Int} {a1 : Int} {m : jMu} {r : (Int × jMu)} (hf : f_X1_countHere a0 a1 m = some r) : jCt l G yX1_countHere (.code yX1_countHere cX1_countHere 3 (some .int) :: jWG) rm_X1_countHere [jR 32, jI a0, jI a1] SKF m (.inl (some (jI r.1))) SKF r.2 := by
  unfold f_X1_countHere at hf
  refine J_start (ls0 := [(0, jR 32), (1, jI a0), (2, jI a1)]) (by decide +kernel) hl (Nat.le_of_ble_eq_true rfl) rfl fun X C hN hn hR hr hnm hno hq => ?_
  have B : jB X cX1_countHere RX1 3 SKF.length rm_X1_countHere (some .int) := ⟨C, hN, Nat.le_of_eq hn, hR, hr⟩
  refine B_blk B jlkX1_ok jcl_SKF [.iload_n 2] (by decide +kernel) (ls' := [(0, jR 32), (1, jI a0), (2, jI a1)]) (st' := [jI a1]) rfl (p1 := 1) rfl ?_
  rcases jite hf with ⟨c8, hf⟩ | ⟨c8, hf⟩
  · refine K_tswI B (off := 27) (tgt := 28) c8 (dflt := 69) (lo := 0) (hi := 2) (offs := #[27, 41, 55]) (len := 27) (by decide +kernel) (by decide) (by decide) rfl (by decide) ?_
    refine B_blk B jlkX1_ok jcl_SKF [.aload_n 0, .iload_n 1] (by decide +kernel) (ls' := [(0, jR 32), (1, jI a0), (2, jI a1)]) (st' := [jI a0, jR 32]) rfl (p1 := 30) rfl ?_
    obtain ⟨r1, h1, hf⟩ := jbd hf
    refine B_callV B (Nat.le_refl _) (μ' := m) (k' := 0) (n' := 0) ca_X1_whyHere in_X1_whyHere se_X1_whyHere lk_X1_107 (t_X1_whyHere B.tr h1) (Nat.le_refl _) rfl rfl rfl (rest := []) rfl rfl (Nat.le_of_ble_eq_true rfl) (by decide +kernel) rfl rfl (st' := [jI r1]) rfl ?_
    refine J_if_ne B.1 (off := 7) (tgt := 40) (by decide +kernel) (by decide) hf (fun hf => ?_) (fun hf => ?_)
    · refine B_blk B jlkX1_ok jcl_SKF [.iconst 1, .goto 4] (by decide +kernel) (ls' := [(0, jR 32), (1, jI a0), (2, jI a1)]) (st' := [jI 1]) rfl (p1 := 41) rfl ?_
      cases hf
      exact B_retI B hq rfl (Nat.le_of_ble_eq_true rfl) (Nat.le_of_ble_eq_true rfl) (by decide +kernel)
    · refine B_blk B jlkX1_ok jcl_SKF [.iconst 0] (by decide +kernel) (ls' := [(0, jR 32), (1, jI a0), (2, jI a1)]) (st' := [jI 0]) rfl (p1 := 41) rfl ?_
      cases hf
      exact B_retI B hq rfl (Nat.le_of_ble_eq_true rfl) (Nat.le_of_ble_eq_true rfl) (by decide +kernel)
  · rcases jite hf with ⟨c7, hf⟩ | ⟨c7, hf⟩
    · refine K_tswI B (off := 41) (tgt := 42) c7 (dflt := 69) (lo := 0) (hi := 2) (offs := #[27, 41, 55]) (len := 27) (by decide +kernel) (by decide) (by decide) rfl (by decide) ?_
      refine B_blk B jlkX1_ok jcl_SKF [.aload_n 0, .iload_n 1] (by decide +kernel) (ls' := [(0, jR 32), (1, jI a0), (2, jI a1)]) (st' := [jI a0, jR 32]) rfl (p1 := 44) rfl ?_
      obtain ⟨r2, h2, hf⟩ := jbd hf
      refine B_callV B (Nat.le_refl _) (μ' := m) (k' := 0) (n' := 0) ca_X1_whyHere in_X1_whyHere se_X1_whyHere lk_X1_107 (t_X1_whyHere B.tr h2) (Nat.le_refl _) rfl rfl rfl (rest := []) rfl rfl (Nat.le_of_ble_eq_true rfl) (by decide +kernel) rfl rfl (st' := [jI r2]) rfl ?_
      refine J_if_ne B.1 (off := 7) (tgt := 54) (by decide +kernel) (by decide) hf (fun hf => ?_) (fun hf => ?_)
      · refine B_blk B jlkX1_ok jcl_SKF [.iconst 0, .goto 4] (by decide +kernel) (ls' := [(0, jR 32), (1, jI a0), (2, jI a1)]) (st' := [jI 0]) rfl (p1 := 55) rfl ?_
        cases hf
        exact B_retI B hq rfl (Nat.le_of_ble_eq_true rfl) (Nat.le_of_ble_eq_true rfl) (by decide +kernel)
      · refine B_blk B jlkX1_ok jcl_SKF [.iconst 1] (by decide +kernel) (ls' := [(0, jR 32), (1, jI a0), (2, jI a1)]) (st' := [jI 1]) rfl (p1 := 55) rfl ?_
        cases hf
        exact B_retI B hq rfl (Nat.le_of_ble_eq_true rfl) (Nat.le_of_ble_eq_true rfl) (by decide +kernel)
    · rcases jite hf with ⟨c6, hf⟩ | ⟨c6, hf⟩
      · refine K_tswI B (off := 55) (tgt := 56) c6 (dflt := 69) (lo := 0) (hi := 2) (offs := #[27, 41, 55]) (len := 27) (by decide +kernel) (by decide) (by decide) rfl (by decide) ?_
        refine B_blk B jlkX1_ok jcl_SKF [.aload_n 0, .iload_n 1] (by decide +kernel) (ls' := [(0, jR 32), (1, jI a0), (2, jI a1)]) (st' := [jI a0, jR 32]) rfl (p1 := 58) rfl ?_
        obtain ⟨r3, h3, hf⟩ := jbd hf
        refine B_callV B (Nat.le_refl _) (μ' := r3.2) (k' := 0) (n' := 0) ca_X1_isLost in_X1_isLost se_X1_isLost lk_X1_111 (t_X1_isLost B.tr h3) (Nat.le_refl _) rfl rfl rfl (rest := []) rfl rfl (Nat.le_of_ble_eq_true rfl) (by decide +kernel) rfl rfl (st' := [jI r3.1]) rfl ?_
        refine J_if_eq B.1 (off := 7) (tgt := 68) (by decide +kernel) (by decide) hf (fun hf => ?_) (fun hf => ?_)
        · refine B_blk B jlkX1_ok jcl_SKF [.iconst 0] (by decide +kernel) (ls' := [(0, jR 32), (1, jI a0), (2, jI a1)]) (st' := [jI 0]) rfl (p1 := 69) rfl ?_
          cases hf
          exact B_retI B hq rfl (Nat.le_of_ble_eq_true rfl) (Nat.le_of_ble_eq_true rfl) (by decide +kernel)
        · refine B_blk B jlkX1_ok jcl_SKF [.iconst 1, .goto 4] (by decide +kernel) (ls' := [(0, jR 32), (1, jI a0), (2, jI a1)]) (st' := [jI 1]) rfl (p1 := 69) rfl ?_
          cases hf
          exact B_retI B hq rfl (Nat.le_of_ble_eq_true rfl) (Nat.le_of_ble_eq_true rfl) (by decide +kernel)
      · refine J_tswO B.1 (tgt := 70) (dflt := 69) (lo := 0) (hi := 2) (offs := #[27, 41, 55]) (len := 27) (by decide +kernel) (by omega) (by decide) ?_
        refine B_blk B jlkX1_ok jcl_SKF [.aload_n 0, .iload_n 1] (by decide +kernel) (ls' := [(0, jR 32), (1, jI a0), (2, jI a1)]) (st' := [jI a0, jR 32]) rfl (p1 := 72) rfl ?_
        obtain ⟨r4, h4, hf⟩ := jbd hf
        refine B_callV B (Nat.le_refl _) (μ' := r4.2) (k' := 0) (n' := 0) ca_X1_isLost in_X1_isLost se_X1_isLost lk_X1_111 (t_X1_isLost B.tr h4) (Nat.le_refl _) rfl rfl rfl (rest := []) rfl rfl (Nat.le_of_ble_eq_true rfl) (by decide +kernel) rfl rfl (st' := [jI r4.1]) rfl ?_
        refine J_if_eq B.1 (off := 11) (tgt := 86) (by decide +kernel) (by decide) hf (fun hf => ?_) (fun hf => ?_)
        · refine B_blk B jlkX1_ok jcl_SKF [.iconst 0] (by decide +kernel) (ls' := [(0, jR 32), (1, jI a0), (2, jI a1)]) (st' := [jI 0]) rfl (p1 := 87) rfl ?_
          cases hf
          exact B_retI B hq rfl (Nat.le_of_ble_eq_true rfl) (Nat.le_of_ble_eq_true rfl) (by decide +kernel)
        · refine B_blk B jlkX1_ok jcl_SKF [.aload_n 0, .iload_n 1] (by decide +kernel) (ls' := [(0, jR 32), (1, jI a0), (2, jI a1)]) (st' := [jI a0, jR 32]) rfl (p1 := 80) rfl ?_
          obtain ⟨r5, h5, hf⟩ := jbd hf
          refine B_callV B (Nat.le_refl _) (μ' := r4.2) (k' := 0) (n' := 0) ca_X1_payHere in_X1_payHere se_X1_payHere lk_X1_114 (t_X1_payHere B.tr h5) (Nat.le_refl _) rfl rfl rfl (rest := []) rfl rfl (Nat.le_of_ble_eq_true rfl) (by decide +kernel) rfl rfl (st' := [jI r5]) rfl ?_
          refine B_blk B jlkX1_ok jcl_SKF [.goto 4] (by decide +kernel) (ls' := [(0, jR 32), (1, jI a0), (2, jI a1)]) (st' := [jI r5]) rfl (p1 := 87) rfl ?_
          cases hf
          exact B_retI B hq rfl (Nat.le_of_ble_eq_true rfl) (Nat.le_of_ble_eq_true rfl) (by decide +kernel)
