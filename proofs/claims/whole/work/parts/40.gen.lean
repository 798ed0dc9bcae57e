/-! printed walks -/
def rm_X10_atom_1 : Room := { frames := 15, cells := 0, slots := 0, locals := 411 }
theorem t_X10_atom_J44_1 {X : jX} (B : jB X cX10_atom RX10 4 SKF.length rm_X10_atom_1 (some .boolean)) (v1 : Int) (v2 : Int) (m : jMu) (r : (Int × jMu)) (hf : f_X10_atom_J44 (fr_X10_atom 0) v1 v2 m = some r) (hq : jQ X (.inl (some (jI r.1))) SKF r.2 rm_X10_atom_1.cells rm_X10_atom_1.slots) : J X SKF m 0 0 44 [(0, jR 74), (1, jI v1), (2, jI v2)] [] := by
  unfold f_X10_atom_J44 at hf
  refine B_blk B jlkX10_ok jcl_SKF [.aload_n 0, .getfield 142, .bipush 6] (by decide +kernel) (ls' := [(0, jR 74), (1, jI v1), (2, jI v2)]) (st' := [jI 6, jI (m 74 10)]) rfl (p1 := 50) rfl ?_
  refine J_icmp_ne B.1 (off := 10) (tgt := 60) (by decide +kernel) (by decide) hf (fun hf => ?_) (fun hf => ?_)
  · refine B_blk B jlkX10_ok jcl_SKF [.aload_n 0, .iload_n 1] (by decide +kernel) (ls' := [(0, jR 74), (1, jI v1), (2, jI v2)]) (st' := [jI v1, jR 74]) rfl (p1 := 55) rfl ?_
    obtain ⟨r5, h5, hf⟩ := jbd hf
    refine B_callV B (Nat.le_refl _) (μ' := r5) (k' := 0) (n' := 0) ca_X10_wrong in_X10_wrong se_X10_wrong lk_X10_87 (t_X10_wrong B.tr h5) (Nat.le_refl _) rfl rfl rfl (rest := []) rfl rfl (Nat.le_of_ble_eq_true rfl) (by decide +kernel) rfl rfl (st' := []) rfl ?_
    refine B_blk B jlkX10_ok jcl_SKF [.iconst 0] (by decide +kernel) (ls' := [(0, jR 74), (1, jI v1), (2, jI v2)]) (st' := [jI 0]) rfl (p1 := 59) rfl ?_
    cases hf
    exact B_retZ B (Or.inl rfl) hq rfl (Nat.le_of_ble_eq_true rfl) (Nat.le_of_ble_eq_true rfl) (by decide +kernel)
  · refine B_blk B jlkX10_ok jcl_SKF [.aload_n 0, .dup, .getfield 142, .iconst 1, .iadd] (by decide +kernel) (ls' := [(0, jR 74), (1, jI v1), (2, jI v2)]) (st' := [jI (jW (m 74 10 + 1)), jR 74]) rfl (p1 := 67) rfl ?_
    refine K_putI (jI' := 10) B jp_X10_142 rfl rfl rfl (by decide +kernel) ?_
    obtain ⟨m6, hm6, hf⟩ := jlt_s hf
    rw [hm6]
    refine B_blk B jlkX10_ok jcl_SKF [.iconst 0, .istore_n 3, .iload_n 2] (by decide +kernel) (ls' := [(0, jR 74), (1, jI v1), (2, jI v2), (3, jI 0)]) (st' := [jI v2]) rfl (p1 := 73) rfl ?_
    refine J_if_eq B.1 (off := 19) (tgt := 92) (by decide +kernel) (by decide) hf (fun hf => ?_) (fun hf => ?_)
    · refine B_blk B jlkX10_ok jcl_SKF [.aload_n 0, .dup, .getfield 64, .iconst 1, .iadd] (by decide +kernel) (ls' := [(0, jR 74), (1, jI v1), (2, jI v2), (3, jI 0)]) (st' := [jI (jW (m6 74 8 + 1)), jR 74]) rfl (p1 := 99) rfl ?_
      refine K_putI (jI' := 8) B jp_X10_64 rfl rfl rfl (by decide +kernel) ?_
      obtain ⟨m7, hm7, hf⟩ := jlt_s hf
      rw [hm7]
      refine B_blk B jlkX10_ok jcl_SKF [.aload_n 0] (by decide +kernel) (ls' := [(0, jR 74), (1, jI v1), (2, jI v2), (3, jI 0)]) (st' := [jR 74]) rfl (p1 := 103) rfl ?_
      obtain ⟨r8, h8, hf⟩ := jbd hf
      refine B_callV B (Nat.le_refl _) (μ' := r8.2) (k' := 0) (n' := 0) ca_X10_some in_X10_some se_X10_some lk_X10_148 (t_X10_some_0 B.tr h8) (Nat.le_refl _) rfl rfl rfl (rest := []) rfl rfl (Nat.le_of_ble_eq_true rfl) (by decide +kernel) rfl rfl (st' := [jI r8.1]) rfl ?_
      refine B_blk B jlkX10_ok jcl_SKF [.istore_n 3, .aload_n 0, .getfield 19, .iconst (-1)] (by decide +kernel) (ls' := [(0, jR 74), (1, jI v1), (2, jI v2), (3, jI r8.1)]) (st' := [jI (-1), jI (r8.2 74 9)]) rfl (p1 := 112) rfl ?_
      refine J_icmp_ne B.1 (off := 20) (tgt := 132) (by decide +kernel) (by decide) hf (fun hf => ?_) (fun hf => ?_)
      · refine B_blk B jlkX10_ok jcl_SKF [.aload_n 0, .bipush 41] (by decide +kernel) (ls' := [(0, jR 74), (1, jI v1), (2, jI v2), (3, jI r8.1)]) (st' := [jI 41, jR 74]) rfl (p1 := 118) rfl ?_
        obtain ⟨r9, h9, hf⟩ := jbd hf
        refine B_callV B (Nat.le_refl _) (μ' := r9.2) (k' := 0) (n' := 0) ca_X10_isSign in_X10_isSign se_X10_isSign lk_X10_113 (t_X10_isSign B.tr h9) (Nat.le_refl _) rfl rfl rfl (rest := []) rfl rfl (Nat.le_of_ble_eq_true rfl) (by decide +kernel) rfl rfl (st' := [jI r9.1]) rfl ?_
        refine J_if_ne B.1 (off := 11) (tgt := 132) (by decide +kernel) (by decide) hf (fun hf => ?_) (fun hf => ?_)
        · refine B_blk B jlkX10_ok jcl_SKF [.aload_n 0, .aload_n 0, .getfield 64] (by decide +kernel) (ls' := [(0, jR 74), (1, jI v1), (2, jI v2), (3, jI r8.1)]) (st' := [jI (r9.2 74 8), jR 74]) rfl (p1 := 129) rfl ?_
          obtain ⟨r10, h10, hf⟩ := jbd hf
          refine B_callV B (Nat.le_refl _) (μ' := r10) (k' := 0) (n' := 0) ca_X10_wrong in_X10_wrong se_X10_wrong lk_X10_87 (t_X10_wrong B.tr h10) (Nat.le_refl _) rfl rfl rfl (rest := []) rfl rfl (Nat.le_of_ble_eq_true rfl) (by decide +kernel) rfl rfl (st' := []) rfl ?_
          refine B_blk B jlkX10_ok jcl_SKF [.aload_n 0, .dup, .getfield 64, .iconst 1, .iadd] (by decide +kernel) (ls' := [(0, jR 74), (1, jI v1), (2, jI v2), (3, jI r8.1)]) (st' := [jI (jW (r10 74 8 + 1)), jR 74]) rfl (p1 := 139) rfl ?_
          refine K_putI (jI' := 8) B jp_X10_64 rfl rfl rfl (by decide +kernel) ?_
          obtain ⟨m11, hm11, hf⟩ := jlt_s hf
          rw [hm11]
          refine B_blk B jlkX10_ok jcl_SKF [.aload_n 0, .dup, .getfield 142, .iconst 1, .isub] (by decide +kernel) (ls' := [(0, jR 74), (1, jI v1), (2, jI v2), (3, jI r8.1)]) (st' := [jI (jW (m11 74 10 - 1)), jR 74]) rfl (p1 := 149) rfl ?_
          refine K_putI (jI' := 10) B jp_X10_142 rfl rfl rfl (by decide +kernel) ?_
          obtain ⟨m12, hm12, hf⟩ := jlt_s hf
          rw [hm12]
          refine B_blk B jlkX10_ok jcl_SKF [.iload_n 3] (by decide +kernel) (ls' := [(0, jR 74), (1, jI v1), (2, jI v2), (3, jI r8.1)]) (st' := [jI r8.1]) rfl (p1 := 153) rfl ?_
          obtain ⟨gz, hf⟩ := jgd hf
          cases hf
          exact B_retZ B gz hq rfl (Nat.le_of_ble_eq_true rfl) (Nat.le_of_ble_eq_true rfl) (by decide +kernel)
        · refine B_blk B jlkX10_ok jcl_SKF [.aload_n 0, .dup, .getfield 64, .iconst 1, .iadd] (by decide +kernel) (ls' := [(0, jR 74), (1, jI v1), (2, jI v2), (3, jI r8.1)]) (st' := [jI (jW (r9.2 74 8 + 1)), jR 74]) rfl (p1 := 139) rfl ?_
          refine K_putI (jI' := 8) B jp_X10_64 rfl rfl rfl (by decide +kernel) ?_
          obtain ⟨m13, hm13, hf⟩ := jlt_s hf
          rw [hm13]
          refine B_blk B jlkX10_ok jcl_SKF [.aload_n 0, .dup, .getfield 142, .iconst 1, .isub] (by decide +kernel) (ls' := [(0, jR 74), (1, jI v1), (2, jI v2), (3, jI r8.1)]) (st' := [jI (jW (m13 74 10 - 1)), jR 74]) rfl (p1 := 149) rfl ?_
          refine K_putI (jI' := 10) B jp_X10_142 rfl rfl rfl (by decide +kernel) ?_
          obtain ⟨m14, hm14, hf⟩ := jlt_s hf
          rw [hm14]
          refine B_blk B jlkX10_ok jcl_SKF [.iload_n 3] (by decide +kernel) (ls' := [(0, jR 74), (1, jI v1), (2, jI v2), (3, jI r8.1)]) (st' := [jI r8.1]) rfl (p1 := 153) rfl ?_
          obtain ⟨gz, hf⟩ := jgd hf
          cases hf
          exact B_retZ B gz hq rfl (Nat.le_of_ble_eq_true rfl) (Nat.le_of_ble_eq_true rfl) (by decide +kernel)
      · refine B_blk B jlkX10_ok jcl_SKF [.aload_n 0, .dup, .getfield 64, .iconst 1, .iadd] (by decide +kernel) (ls' := [(0, jR 74), (1, jI v1), (2, jI v2), (3, jI r8.1)]) (st' := [jI (jW (r8.2 74 8 + 1)), jR 74]) rfl (p1 := 139) rfl ?_
        refine K_putI (jI' := 8) B jp_X10_64 rfl rfl rfl (by decide +kernel) ?_
        obtain ⟨m15, hm15, hf⟩ := jlt_s hf
        rw [hm15]
        refine B_blk B jlkX10_ok jcl_SKF [.aload_n 0, .dup, .getfield 142, .iconst 1, .isub] (by decide +kernel) (ls' := [(0, jR 74), (1, jI v1), (2, jI v2), (3, jI r8.1)]) (st' := [jI (jW (m15 74 10 - 1)), jR 74]) rfl (p1 := 149) rfl ?_
        refine K_putI (jI' := 10) B jp_X10_142 rfl rfl rfl (by decide +kernel) ?_
        obtain ⟨m16, hm16, hf⟩ := jlt_s hf
        rw [hm16]
        refine B_blk B jlkX10_ok jcl_SKF [.iload_n 3] (by decide +kernel) (ls' := [(0, jR 74), (1, jI v1), (2, jI v2), (3, jI r8.1)]) (st' := [jI r8.1]) rfl (p1 := 153) rfl ?_
        obtain ⟨gz, hf⟩ := jgd hf
        cases hf
        exact B_retZ B gz hq rfl (Nat.le_of_ble_eq_true rfl) (Nat.le_of_ble_eq_true rfl) (by decide +kernel)
    · refine B_blk B jlkX10_ok jcl_SKF [.aload_n 0] (by decide +kernel) (ls' := [(0, jR 74), (1, jI v1), (2, jI v2), (3, jI 0)]) (st' := [jR 74]) rfl (p1 := 77) rfl ?_
      obtain ⟨r17, h17, hf⟩ := jbd hf
      refine B_callV B (Nat.le_refl _) (μ' := r17.2) (k' := 0) (n' := 0) ca_X10_atom in_X10_atom se_X10_atom lk_X10_145 (t_X10_atom_0 B.tr h17) (Nat.le_refl _) rfl rfl rfl (rest := []) rfl rfl (Nat.le_of_ble_eq_true rfl) (by decide +kernel) rfl rfl (st' := [jI r17.1]) rfl ?_
      refine J_if_ne B.1 (off := 7) (tgt := 87) (by decide +kernel) (by decide) hf (fun hf => ?_) (fun hf => ?_)
      · refine B_blk B jlkX10_ok jcl_SKF [.iconst 1, .goto 4, .istore_n 3, .goto 53, .aload_n 0, .dup, .getfield 142, .iconst 1, .isub] (by decide +kernel) (ls' := [(0, jR 74), (1, jI v1), (2, jI v2), (3, jI 1)]) (st' := [jI (jW (r17.2 74 10 - 1)), jR 74]) rfl (p1 := 149) rfl ?_
        refine K_putI (jI' := 10) B jp_X10_142 rfl rfl rfl (by decide +kernel) ?_
        obtain ⟨m18, hm18, hf⟩ := jlt_s hf
        rw [hm18]
        refine B_blk B jlkX10_ok jcl_SKF [.iload_n 3] (by decide +kernel) (ls' := [(0, jR 74), (1, jI v1), (2, jI v2), (3, jI 1)]) (st' := [jI 1]) rfl (p1 := 153) rfl ?_
        cases hf
        exact B_retZ B (Or.inr rfl) hq rfl (Nat.le_of_ble_eq_true rfl) (Nat.le_of_ble_eq_true rfl) (by decide +kernel)
      · refine B_blk B jlkX10_ok jcl_SKF [.iconst 0, .istore_n 3, .goto 53, .aload_n 0, .dup, .getfield 142, .iconst 1, .isub] (by decide +kernel) (ls' := [(0, jR 74), (1, jI v1), (2, jI v2), (3, jI 0)]) (st' := [jI (jW (r17.2 74 10 - 1)), jR 74]) rfl (p1 := 149) rfl ?_
        refine K_putI (jI' := 10) B jp_X10_142 rfl rfl rfl (by decide +kernel) ?_
        obtain ⟨m19, hm19, hf⟩ := jlt_s hf
        rw [hm19]
        refine B_blk B jlkX10_ok jcl_SKF [.iload_n 3] (by decide +kernel) (ls' := [(0, jR 74), (1, jI v1), (2, jI v2), (3, jI 0)]) (st' := [jI 0]) rfl (p1 := 153) rfl ?_
        cases hf
        exact B_retZ B (Or.inl rfl) hq rfl (Nat.le_of_ble_eq_true rfl) (Nat.le_of_ble_eq_true rfl) (by decide +kernel)
theorem t_X10_atom_1 {l : Launch} {G : jG} (hl : l.stackTraces = false) {m : jMu} {r : (Int × jMu)} (hf : fr_X10_atom 1 m = some r) : jCt l G yX10_atom (.code yX10_atom cX10_atom 4 (some .boolean) :: jWG) rm_X10_atom_1 [jR 74] SKF m (.inl (some (jI r.1))) SKF r.2 := by
  rw [fr_X10_atom] at hf
  unfold f_X10_atom at hf
  refine J_start (ls0 := [(0, jR 74)]) (by decide +kernel) hl (Nat.le_of_ble_eq_true rfl) rfl fun X C hN hn hR hr hnm hno hq => ?_
  have B : jB X cX10_atom RX10 4 SKF.length rm_X10_atom_1 (some .boolean) := ⟨C, hN, Nat.le_of_eq hn, hR, hr⟩
  refine B_blk B jlkX10_ok jcl_SKF [.aload_n 0, .getfield 19, .iconst (-1)] (by decide +kernel) (ls' := [(0, jR 74)]) (st' := [jI (-1), jI (m 74 9)]) rfl (p1 := 5) rfl ?_
  refine J_icmp_eq B.1 (off := 5) (tgt := 10) (by decide +kernel) (by decide) hf (fun hf => ?_) (fun hf => ?_)
  · refine B_blk B jlkX10_ok jcl_SKF [.aload_n 0] (by decide +kernel) (ls' := [(0, jR 74)]) (st' := [jR 74]) rfl (p1 := 11) rfl ?_
    obtain ⟨r1, h1, hf⟩ := jbd hf
    refine B_callV B (Nat.le_refl _) (μ' := r1) (k' := 0) (n' := 0) ca_X10_skip in_X10_skip se_X10_skip lk_X10_74 (t_X10_skip B.tr h1) (Nat.le_refl _) rfl rfl rfl (rest := []) rfl rfl (Nat.le_of_ble_eq_true rfl) (by decide +kernel) rfl rfl (st' := []) rfl ?_
    refine B_blk B jlkX10_ok jcl_SKF [.aload_n 0, .getfield 64, .istore_n 1, .aload_n 0] (by decide +kernel) (ls' := [(0, jR 74), (1, jI (r1 74 8))]) (st' := [jR 74]) rfl (p1 := 20) rfl ?_
    refine J_ldcS (i := 7) (r := jXK + 7) B.1 rfl rfl (by decide) (by decide +kernel) ?_
    obtain ⟨r2, h2, hf⟩ := jbd hf
    refine B_callV B (Nat.le_refl _) (μ' := r2.2) (k' := 0) (n' := 0) ca_X10_has in_X10_has se_X10_has lk_X10_96 (t_X10_has B.tr (by decide) h2) (Nat.le_refl _) rfl rfl rfl (rest := []) rfl rfl (Nat.le_of_ble_eq_true rfl) (by decide +kernel) rfl rfl (st' := [jI r2.1]) rfl ?_
    refine B_blk B jlkX10_ok jcl_SKF [.istore_n 2, .iload_n 2] (by decide +kernel) (ls' := [(0, jR 74), (1, jI (r1 74 8)), (2, jI r2.1)]) (st' := [jI r2.1]) rfl (p1 := 27) rfl ?_
    refine J_if_ne B.1 (off := 17) (tgt := 44) (by decide +kernel) (by decide) hf (fun hf => ?_) (fun hf => ?_)
    · refine B_blk B jlkX10_ok jcl_SKF [.aload_n 0, .bipush 40] (by decide +kernel) (ls' := [(0, jR 74), (1, jI (r1 74 8)), (2, jI r2.1)]) (st' := [jI 40, jR 74]) rfl (p1 := 33) rfl ?_
      obtain ⟨r3, h3, hf⟩ := jbd hf
      refine B_callV B (Nat.le_refl _) (μ' := r3.2) (k' := 0) (n' := 0) ca_X10_isSign in_X10_isSign se_X10_isSign lk_X10_113 (t_X10_isSign B.tr h3) (Nat.le_refl _) rfl rfl rfl (rest := []) rfl rfl (Nat.le_of_ble_eq_true rfl) (by decide +kernel) rfl rfl (st' := [jI r3.1]) rfl ?_
      refine J_if_ne B.1 (off := 8) (tgt := 44) (by decide +kernel) (by decide) hf (fun hf => ?_) (fun hf => ?_)
      · refine B_blk B jlkX10_ok jcl_SKF [.aload_n 0] (by decide +kernel) (ls' := [(0, jR 74), (1, jI (r1 74 8)), (2, jI r2.1)]) (st' := [jR 74]) rfl (p1 := 40) rfl ?_
        obtain ⟨r4, h4, hf⟩ := jbd hf
        refine B_callV B (Nat.le_refl _) (μ' := r4.2) (k' := 0) (n' := 0) ca_X10_plain in_X10_plain se_X10_plain lk_X10_138 (t_X10_plain B.tr h4) (Nat.le_refl _) rfl rfl rfl (rest := []) rfl rfl (Nat.le_of_ble_eq_true rfl) (by decide +kernel) rfl rfl (st' := [jI r4.1]) rfl ?_
        obtain ⟨gz, hf⟩ := jgd hf
        cases hf
        exact B_retZ B gz hq rfl (Nat.le_of_ble_eq_true rfl) (Nat.le_of_ble_eq_true rfl) (by decide +kernel)
      · exact t_X10_atom_J44_1 B (r1 74 8) r2.1 r3.2 _ hf hq
    · exact t_X10_atom_J44_1 B (r1 74 8) r2.1 r2.2 _ hf hq
  · refine B_blk B jlkX10_ok jcl_SKF [.iconst 0] (by decide +kernel) (ls' := [(0, jR 74)]) (st' := [jI 0]) rfl (p1 := 9) rfl ?_
    cases hf
    exact B_retZ B (Or.inl rfl) hq rfl (Nat.le_of_ble_eq_true rfl) (Nat.le_of_ble_eq_true rfl) (by decide +kernel)

def rm_X10_every_1 : Room := { frames := 17, cells := 0, slots := 0, locals := 434 }
theorem t_X10_every_L5_1 {X : jX} (B : jB X cX10_every RX10 3 SKF.length rm_X10_every_1 (some .boolean)) : ∀ (q : Nat) (v1 : Int) (m : jMu) (r : (Int × jMu)), f_X10_every_L5 (fr_X10_atom 1) q v1 m = some r → jQ X (.inl (some (jI r.1))) SKF r.2 rm_X10_every_1.cells rm_X10_every_1.slots → J X SKF m 0 0 5 [(0, jR 74), (1, jI v1)] [] := by
  intro q
  induction q with
  | zero =>
    intro v1 m r hf
    rw [f_X10_every_L5] at hf
    cases hf
  | succ q ih =>
    intro v1 m r hf hq
    rw [f_X10_every_L5] at hf
    refine B_blk B jlkX10_ok jcl_SKF [.aload_n 0, .getfield 19, .iconst (-1)] (by decide +kernel) (ls' := [(0, jR 74), (1, jI v1)]) (st' := [jI (-1), jI (m 74 9)]) rfl (p1 := 10) rfl ?_
    refine J_icmp_ne B.1 (off := 34) (tgt := 44) (by decide +kernel) (by decide) hf (fun hf => ?_) (fun hf => ?_)
    · refine B_blk B jlkX10_ok jcl_SKF [.aload_n 0] (by decide +kernel) (ls' := [(0, jR 74), (1, jI v1)]) (st' := [jR 74]) rfl (p1 := 14) rfl ?_
      refine J_ldcS (i := 17) (r := jXK + 17) B.1 rfl rfl (by decide) (by decide +kernel) ?_
      obtain ⟨r2, h2, hf⟩ := jbd hf
      refine B_callV B (Nat.le_refl _) (μ' := r2.2) (k' := 0) (n' := 0) ca_X10_has in_X10_has se_X10_has lk_X10_96 (t_X10_has B.tr (by decide) h2) (Nat.le_refl _) rfl rfl rfl (rest := []) rfl rfl (Nat.le_of_ble_eq_true rfl) (by decide +kernel) rfl rfl (st' := [jI r2.1]) rfl ?_
      refine J_if_eq B.1 (off := 25) (tgt := 44) (by decide +kernel) (by decide) hf (fun hf => ?_) (fun hf => ?_)
      · refine B_blk B jlkX10_ok jcl_SKF [.iload_n 1] (by decide +kernel) (ls' := [(0, jR 74), (1, jI v1)]) (st' := [jI v1]) rfl (p1 := 45) rfl ?_
        obtain ⟨gz, hf⟩ := jgd hf
        cases hf
        exact B_retZ B gz hq rfl (Nat.le_of_ble_eq_true rfl) (Nat.le_of_ble_eq_true rfl) (by decide +kernel)
      · refine B_blk B jlkX10_ok jcl_SKF [.aload_n 0] (by decide +kernel) (ls' := [(0, jR 74), (1, jI v1)]) (st' := [jR 74]) rfl (p1 := 23) rfl ?_
        obtain ⟨r3, h3, hf⟩ := jbd hf
        refine B_callV B (Nat.le_refl _) (μ' := r3.2) (k' := 0) (n' := 0) ca_X10_atom in_X10_atom se_X10_atom lk_X10_145 (t_X10_atom_1 B.tr h3) (Nat.le_refl _) rfl rfl rfl (rest := []) rfl rfl (Nat.le_of_ble_eq_true rfl) (by decide +kernel) rfl rfl (st' := [jI r3.1]) rfl ?_
        refine B_blk B jlkX10_ok jcl_SKF [.istore_n 2, .iload_n 1] (by decide +kernel) (ls' := [(0, jR 74), (1, jI v1), (2, jI r3.1)]) (st' := [jI v1]) rfl (p1 := 28) rfl ?_
        refine J_if_eq B.1 (off := 11) (tgt := 39) (by decide +kernel) (by decide) hf (fun hf => ?_) (fun hf => ?_)
        · refine B_blk B jlkX10_ok jcl_SKF [.iconst 0, .istore_n 1, .goto (-36)] (by decide +kernel) (ls' := [(0, jR 74), (1, jI 0), (2, jI r3.1)]) (st' := []) rfl (p1 := 5) rfl ?_
          refine J_pick [0, 1] (ls' := [(0, jR 74), (1, jI 0)]) rfl ?_
          exact ih 0 r3.2 _ hf hq
        · refine B_blk B jlkX10_ok jcl_SKF [.iload_n 2] (by decide +kernel) (ls' := [(0, jR 74), (1, jI v1), (2, jI r3.1)]) (st' := [jI r3.1]) rfl (p1 := 32) rfl ?_
          refine J_if_eq B.1 (off := 7) (tgt := 39) (by decide +kernel) (by decide) hf (fun hf => ?_) (fun hf => ?_)
          · refine B_blk B jlkX10_ok jcl_SKF [.iconst 0, .istore_n 1, .goto (-36)] (by decide +kernel) (ls' := [(0, jR 74), (1, jI 0), (2, jI r3.1)]) (st' := []) rfl (p1 := 5) rfl ?_
            refine J_pick [0, 1] (ls' := [(0, jR 74), (1, jI 0)]) rfl ?_
            exact ih 0 r3.2 _ hf hq
          · refine B_blk B jlkX10_ok jcl_SKF [.iconst 1, .goto 4, .istore_n 1, .goto (-36)] (by decide +kernel) (ls' := [(0, jR 74), (1, jI 1), (2, jI r3.1)]) (st' := []) rfl (p1 := 5) rfl ?_
            refine J_pick [0, 1] (ls' := [(0, jR 74), (1, jI 1)]) rfl ?_
            exact ih 1 r3.2 _ hf hq
    · refine B_blk B jlkX10_ok jcl_SKF [.iload_n 1] (by decide +kernel) (ls' := [(0, jR 74), (1, jI v1)]) (st' := [jI v1]) rfl (p1 := 45) rfl ?_
      obtain ⟨gz, hf⟩ := jgd hf
      cases hf
      exact B_retZ B gz hq rfl (Nat.le_of_ble_eq_true rfl) (Nat.le_of_ble_eq_true rfl) (by decide +kernel)
theorem t_X10_every_1 {l : Launch} {G : jG} (hl : l.stackTraces = false) {m : jMu} {r : (Int × jMu)} (hf : f_X10_every (fr_X10_atom 1) m = some r) : jCt l G yX10_every (.code yX10_every cX10_every 3 (some .boolean) :: jWG) rm_X10_every_1 [jR 74] SKF m (.inl (some (jI r.1))) SKF r.2 := by
  unfold f_X10_every at hf
  refine J_start (ls0 := [(0, jR 74)]) (by decide +kernel) hl (Nat.le_of_ble_eq_true rfl) rfl fun X C hN hn hR hr hnm hno hq => ?_
  have B : jB X cX10_every RX10 3 SKF.length rm_X10_every_1 (some .boolean) := ⟨C, hN, Nat.le_of_eq hn, hR, hr⟩
  refine B_blk B jlkX10_ok jcl_SKF [.aload_n 0] (by decide +kernel) (ls' := [(0, jR 74)]) (st' := [jR 74]) rfl (p1 := 1) rfl ?_
  obtain ⟨r1, h1, hf⟩ := jbd hf
  refine B_callV B (Nat.le_refl _) (μ' := r1.2) (k' := 0) (n' := 0) ca_X10_atom in_X10_atom se_X10_atom lk_X10_145 (t_X10_atom_1 B.tr h1) (Nat.le_refl _) rfl rfl rfl (rest := []) rfl rfl (Nat.le_of_ble_eq_true rfl) (by decide +kernel) rfl rfl (st' := [jI r1.1]) rfl ?_
  refine B_blk B jlkX10_ok jcl_SKF [.istore_n 1] (by decide +kernel) (ls' := [(0, jR 74), (1, jI r1.1)]) (st' := []) rfl (p1 := 5) rfl ?_
  exact t_X10_every_L5_1 B jFU r1.1 r1.2 _ hf hq

def rm_X10_some_1 : Room := { frames := 19, cells := 0, slots := 0, locals := 456 }
theorem t_X10_some_L5_1 {X : jX} (B : jB X cX10_some RX10 3 SKF.length rm_X10_some_1 (some .boolean)) : ∀ (q : Nat) (v1 : Int) (m : jMu) (r : (Int × jMu)), f_X10_some_L5 (fr_X10_atom 1) q v1 m = some r → jQ X (.inl (some (jI r.1))) SKF r.2 rm_X10_some_1.cells rm_X10_some_1.slots → J X SKF m 0 0 5 [(0, jR 74), (1, jI v1)] [] := by
  intro q
  induction q with
  | zero =>
    intro v1 m r hf
    rw [f_X10_some_L5] at hf
    cases hf
  | succ q ih =>
    intro v1 m r hf hq
    rw [f_X10_some_L5] at hf
    refine B_blk B jlkX10_ok jcl_SKF [.aload_n 0, .getfield 19, .iconst (-1)] (by decide +kernel) (ls' := [(0, jR 74), (1, jI v1)]) (st' := [jI (-1), jI (m 74 9)]) rfl (p1 := 10) rfl ?_
    refine J_icmp_ne B.1 (off := 34) (tgt := 44) (by decide +kernel) (by decide) hf (fun hf => ?_) (fun hf => ?_)
    · refine B_blk B jlkX10_ok jcl_SKF [.aload_n 0] (by decide +kernel) (ls' := [(0, jR 74), (1, jI v1)]) (st' := [jR 74]) rfl (p1 := 14) rfl ?_
      refine J_ldcS (i := 18) (r := jXK + 18) B.1 rfl rfl (by decide) (by decide +kernel) ?_
      obtain ⟨r2, h2, hf⟩ := jbd hf
      refine B_callV B (Nat.le_refl _) (μ' := r2.2) (k' := 0) (n' := 0) ca_X10_has in_X10_has se_X10_has lk_X10_96 (t_X10_has B.tr (by decide) h2) (Nat.le_refl _) rfl rfl rfl (rest := []) rfl rfl (Nat.le_of_ble_eq_true rfl) (by decide +kernel) rfl rfl (st' := [jI r2.1]) rfl ?_
      refine J_if_eq B.1 (off := 25) (tgt := 44) (by decide +kernel) (by decide) hf (fun hf => ?_) (fun hf => ?_)
      · refine B_blk B jlkX10_ok jcl_SKF [.iload_n 1] (by decide +kernel) (ls' := [(0, jR 74), (1, jI v1)]) (st' := [jI v1]) rfl (p1 := 45) rfl ?_
        obtain ⟨gz, hf⟩ := jgd hf
        cases hf
        exact B_retZ B gz hq rfl (Nat.le_of_ble_eq_true rfl) (Nat.le_of_ble_eq_true rfl) (by decide +kernel)
      · refine B_blk B jlkX10_ok jcl_SKF [.aload_n 0] (by decide +kernel) (ls' := [(0, jR 74), (1, jI v1)]) (st' := [jR 74]) rfl (p1 := 23) rfl ?_
        obtain ⟨r3, h3, hf⟩ := jbd hf
        refine B_callV B (Nat.le_refl _) (μ' := r3.2) (k' := 0) (n' := 0) ca_X10_every in_X10_every se_X10_every lk_X10_153 (t_X10_every_1 B.tr h3) (Nat.le_refl _) rfl rfl rfl (rest := []) rfl rfl (Nat.le_of_ble_eq_true rfl) (by decide +kernel) rfl rfl (st' := [jI r3.1]) rfl ?_
        refine B_blk B jlkX10_ok jcl_SKF [.istore_n 2, .iload_n 1] (by decide +kernel) (ls' := [(0, jR 74), (1, jI v1), (2, jI r3.1)]) (st' := [jI v1]) rfl (p1 := 28) rfl ?_
        refine J_if_ne B.1 (off := 7) (tgt := 35) (by decide +kernel) (by decide) hf (fun hf => ?_) (fun hf => ?_)
        · refine B_blk B jlkX10_ok jcl_SKF [.iload_n 2] (by decide +kernel) (ls' := [(0, jR 74), (1, jI v1), (2, jI r3.1)]) (st' := [jI r3.1]) rfl (p1 := 32) rfl ?_
          refine J_if_eq B.1 (off := 7) (tgt := 39) (by decide +kernel) (by decide) hf (fun hf => ?_) (fun hf => ?_)
          · refine B_blk B jlkX10_ok jcl_SKF [.iconst 0, .istore_n 1, .goto (-36)] (by decide +kernel) (ls' := [(0, jR 74), (1, jI 0), (2, jI r3.1)]) (st' := []) rfl (p1 := 5) rfl ?_
            refine J_pick [0, 1] (ls' := [(0, jR 74), (1, jI 0)]) rfl ?_
            exact ih 0 r3.2 _ hf hq
          · refine B_blk B jlkX10_ok jcl_SKF [.iconst 1, .goto 4, .istore_n 1, .goto (-36)] (by decide +kernel) (ls' := [(0, jR 74), (1, jI 1), (2, jI r3.1)]) (st' := []) rfl (p1 := 5) rfl ?_
            refine J_pick [0, 1] (ls' := [(0, jR 74), (1, jI 1)]) rfl ?_
            exact ih 1 r3.2 _ hf hq
        · refine B_blk B jlkX10_ok jcl_SKF [.iconst 1, .goto 4, .istore_n 1, .goto (-36)] (by decide +kernel) (ls' := [(0, jR 74), (1, jI 1), (2, jI r3.1)]) (st' := []) rfl (p1 := 5) rfl ?_
          refine J_pick [0, 1] (ls' := [(0, jR 74), (1, jI 1)]) rfl ?_
          exact ih 1 r3.2 _ hf hq
    · refine B_blk B jlkX10_ok jcl_SKF [.iload_n 1] (by decide +kernel) (ls' := [(0, jR 74), (1, jI v1)]) (st' := [jI v1]) rfl (p1 := 45) rfl ?_
      obtain ⟨gz, hf⟩ := jgd hf
      cases hf
      exact B_retZ B gz hq rfl (Nat.le_of_ble_eq_true rfl) (Nat.le_of_ble_eq_true rfl) (by decide +kernel)
theorem t_X10_some_1 {l : Launch} {G : jG} (hl : l.stackTraces = false) {m : jMu} {r : (Int × jMu)} (hf : f_X10_some (fr_X10_atom 1) m = some r) : jCt l G yX10_some (.code yX10_some cX10_some 3 (some .boolean) :: jWG) rm_X10_some_1 [jR 74] SKF m (.inl (some (jI r.1))) SKF r.2 := by
  unfold f_X10_some at hf
  refine J_start (ls0 := [(0, jR 74)]) (by decide +kernel) hl (Nat.le_of_ble_eq_true rfl) rfl fun X C hN hn hR hr hnm hno hq => ?_
  have B : jB X cX10_some RX10 3 SKF.length rm_X10_some_1 (some .boolean) := ⟨C, hN, Nat.le_of_eq hn, hR, hr⟩
  refine B_blk B jlkX10_ok jcl_SKF [.aload_n 0] (by decide +kernel) (ls' := [(0, jR 74)]) (st' := [jR 74]) rfl (p1 := 1) rfl ?_
  obtain ⟨r1, h1, hf⟩ := jbd hf
  refine B_callV B (Nat.le_refl _) (μ' := r1.2) (k' := 0) (n' := 0) ca_X10_every in_X10_every se_X10_every lk_X10_153 (t_X10_every_1 B.tr h1) (Nat.le_refl _) rfl rfl rfl (rest := []) rfl rfl (Nat.le_of_ble_eq_true rfl) (by decide +kernel) rfl rfl (st' := [jI r1.1]) rfl ?_
  refine B_blk B jlkX10_ok jcl_SKF [.istore_n 1] (by decide +kernel) (ls' := [(0, jR 74), (1, jI r1.1)]) (st' := []) rfl (p1 := 5) rfl ?_
  exact t_X10_some_L5_1 B jFU r1.1 r1.2 _ hf hq

def rm_X10_atom_2 : Room := { frames := 21, cells := 0, slots := 0, locals := 478 }
theorem t_X10_atom_J44_2 {X : jX} (B : jB X cX10_atom RX10 4 SKF.length rm_X10_atom_2 (some .boolean)) (v1 : Int) (v2 : Int) (m : jMu) (r : (Int × jMu)) (hf : f_X10_atom_J44 (fr_X10_atom 1) v1 v2 m = some r) (hq : jQ X (.inl (some (jI r.1))) SKF r.2 rm_X10_atom_2.cells rm_X10_atom_2.slots) : J X SKF m 0 0 44 [(0, jR 74), (1, jI v1), (2, jI v2)] [] := by
  unfold f_X10_atom_J44 at hf
  refine B_blk B jlkX10_ok jcl_SKF [.aload_n 0, .getfield 142, .bipush 6] (by decide +kernel) (ls' := [(0, jR 74), (1, jI v1), (2, jI v2)]) (st' := [jI 6, jI (m 74 10)]) rfl (p1 := 50) rfl ?_
  refine J_icmp_ne B.1 (off := 10) (tgt := 60) (by decide +kernel) (by decide) hf (fun hf => ?_) (fun hf => ?_)
  · refine B_blk B jlkX10_ok jcl_SKF [.aload_n 0, .iload_n 1] (by decide +kernel) (ls' := [(0, jR 74), (1, jI v1), (2, jI v2)]) (st' := [jI v1, jR 74]) rfl (p1 := 55) rfl ?_
    obtain ⟨r5, h5, hf⟩ := jbd hf
    refine B_callV B (Nat.le_refl _) (μ' := r5) (k' := 0) (n' := 0) ca_X10_wrong in_X10_wrong se_X10_wrong lk_X10_87 (t_X10_wrong B.tr h5) (Nat.le_refl _) rfl rfl rfl (rest := []) rfl rfl (Nat.le_of_ble_eq_true rfl) (by decide +kernel) rfl rfl (st' := []) rfl ?_
    refine B_blk B jlkX10_ok jcl_SKF [.iconst 0] (by decide +kernel) (ls' := [(0, jR 74), (1, jI v1), (2, jI v2)]) (st' := [jI 0]) rfl (p1 := 59) rfl ?_
    cases hf
    exact B_retZ B (Or.inl rfl) hq rfl (Nat.le_of_ble_eq_true rfl) (Nat.le_of_ble_eq_true rfl) (by decide +kernel)
  · refine B_blk B jlkX10_ok jcl_SKF [.aload_n 0, .dup, .getfield 142, .iconst 1, .iadd] (by decide +kernel) (ls' := [(0, jR 74), (1, jI v1), (2, jI v2)]) (st' := [jI (jW (m 74 10 + 1)), jR 74]) rfl (p1 := 67) rfl ?_
    refine K_putI (jI' := 10) B jp_X10_142 rfl rfl rfl (by decide +kernel) ?_
    obtain ⟨m6, hm6, hf⟩ := jlt_s hf
    rw [hm6]
    refine B_blk B jlkX10_ok jcl_SKF [.iconst 0, .istore_n 3, .iload_n 2] (by decide +kernel) (ls' := [(0, jR 74), (1, jI v1), (2, jI v2), (3, jI 0)]) (st' := [jI v2]) rfl (p1 := 73) rfl ?_
    refine J_if_eq B.1 (off := 19) (tgt := 92) (by decide +kernel) (by decide) hf (fun hf => ?_) (fun hf => ?_)
    · refine B_blk B jlkX10_ok jcl_SKF [.aload_n 0, .dup, .getfield 64, .iconst 1, .iadd] (by decide +kernel) (ls' := [(0, jR 74), (1, jI v1), (2, jI v2), (3, jI 0)]) (st' := [jI (jW (m6 74 8 + 1)), jR 74]) rfl (p1 := 99) rfl ?_
      refine K_putI (jI' := 8) B jp_X10_64 rfl rfl rfl (by decide +kernel) ?_
      obtain ⟨m7, hm7, hf⟩ := jlt_s hf
      rw [hm7]
      refine B_blk B jlkX10_ok jcl_SKF [.aload_n 0] (by decide +kernel) (ls' := [(0, jR 74), (1, jI v1), (2, jI v2), (3, jI 0)]) (st' := [jR 74]) rfl (p1 := 103) rfl ?_
      obtain ⟨r8, h8, hf⟩ := jbd hf
      refine B_callV B (Nat.le_refl _) (μ' := r8.2) (k' := 0) (n' := 0) ca_X10_some in_X10_some se_X10_some lk_X10_148 (t_X10_some_1 B.tr h8) (Nat.le_refl _) rfl rfl rfl (rest := []) rfl rfl (Nat.le_of_ble_eq_true rfl) (by decide +kernel) rfl rfl (st' := [jI r8.1]) rfl ?_
      refine B_blk B jlkX10_ok jcl_SKF [.istore_n 3, .aload_n 0, .getfield 19, .iconst (-1)] (by decide +kernel) (ls' := [(0, jR 74), (1, jI v1), (2, jI v2), (3, jI r8.1)]) (st' := [jI (-1), jI (r8.2 74 9)]) rfl (p1 := 112) rfl ?_
      refine J_icmp_ne B.1 (off := 20) (tgt := 132) (by decide +kernel) (by decide) hf (fun hf => ?_) (fun hf => ?_)
      · refine B_blk B jlkX10_ok jcl_SKF [.aload_n 0, .bipush 41] (by decide +kernel) (ls' := [(0, jR 74), (1, jI v1), (2, jI v2), (3, jI r8.1)]) (st' := [jI 41, jR 74]) rfl (p1 := 118) rfl ?_
        obtain ⟨r9, h9, hf⟩ := jbd hf
        refine B_callV B (Nat.le_refl _) (μ' := r9.2) (k' := 0) (n' := 0) ca_X10_isSign in_X10_isSign se_X10_isSign lk_X10_113 (t_X10_isSign B.tr h9) (Nat.le_refl _) rfl rfl rfl (rest := []) rfl rfl (Nat.le_of_ble_eq_true rfl) (by decide +kernel) rfl rfl (st' := [jI r9.1]) rfl ?_
        refine J_if_ne B.1 (off := 11) (tgt := 132) (by decide +kernel) (by decide) hf (fun hf => ?_) (fun hf => ?_)
        · refine B_blk B jlkX10_ok jcl_SKF [.aload_n 0, .aload_n 0, .getfield 64] (by decide +kernel) (ls' := [(0, jR 74), (1, jI v1), (2, jI v2), (3, jI r8.1)]) (st' := [jI (r9.2 74 8), jR 74]) rfl (p1 := 129) rfl ?_
          obtain ⟨r10, h10, hf⟩ := jbd hf
          refine B_callV B (Nat.le_refl _) (μ' := r10) (k' := 0) (n' := 0) ca_X10_wrong in_X10_wrong se_X10_wrong lk_X10_87 (t_X10_wrong B.tr h10) (Nat.le_refl _) rfl rfl rfl (rest := []) rfl rfl (Nat.le_of_ble_eq_true rfl) (by decide +kernel) rfl rfl (st' := []) rfl ?_
          refine B_blk B jlkX10_ok jcl_SKF [.aload_n 0, .dup, .getfield 64, .iconst 1, .iadd] (by decide +kernel) (ls' := [(0, jR 74), (1, jI v1), (2, jI v2), (3, jI r8.1)]) (st' := [jI (jW (r10 74 8 + 1)), jR 74]) rfl (p1 := 139) rfl ?_
          refine K_putI (jI' := 8) B jp_X10_64 rfl rfl rfl (by decide +kernel) ?_
          obtain ⟨m11, hm11, hf⟩ := jlt_s hf
          rw [hm11]
          refine B_blk B jlkX10_ok jcl_SKF [.aload_n 0, .dup, .getfield 142, .iconst 1, .isub] (by decide +kernel) (ls' := [(0, jR 74), (1, jI v1), (2, jI v2), (3, jI r8.1)]) (st' := [jI (jW (m11 74 10 - 1)), jR 74]) rfl (p1 := 149) rfl ?_
          refine K_putI (jI' := 10) B jp_X10_142 rfl rfl rfl (by decide +kernel) ?_
          obtain ⟨m12, hm12, hf⟩ := jlt_s hf
          rw [hm12]
          refine B_blk B jlkX10_ok jcl_SKF [.iload_n 3] (by decide +kernel) (ls' := [(0, jR 74), (1, jI v1), (2, jI v2), (3, jI r8.1)]) (st' := [jI r8.1]) rfl (p1 := 153) rfl ?_
          obtain ⟨gz, hf⟩ := jgd hf
          cases hf
          exact B_retZ B gz hq rfl (Nat.le_of_ble_eq_true rfl) (Nat.le_of_ble_eq_true rfl) (by decide +kernel)
        · refine B_blk B jlkX10_ok jcl_SKF [.aload_n 0, .dup, .getfield 64, .iconst 1, .iadd] (by decide +kernel) (ls' := [(0, jR 74), (1, jI v1), (2, jI v2), (3, jI r8.1)]) (st' := [jI (jW (r9.2 74 8 + 1)), jR 74]) rfl (p1 := 139) rfl ?_
          refine K_putI (jI' := 8) B jp_X10_64 rfl rfl rfl (by decide +kernel) ?_
          obtain ⟨m13, hm13, hf⟩ := jlt_s hf
          rw [hm13]
          refine B_blk B jlkX10_ok jcl_SKF [.aload_n 0, .dup, .getfield 142, .iconst 1, .isub] (by decide +kernel) (ls' := [(0, jR 74), (1, jI v1), (2, jI v2), (3, jI r8.1)]) (st' := [jI (jW (m13 74 10 - 1)), jR 74]) rfl (p1 := 149) rfl ?_
          refine K_putI (jI' := 10) B jp_X10_142 rfl rfl rfl (by decide +kernel) ?_
          obtain ⟨m14, hm14, hf⟩ := jlt_s hf
          rw [hm14]
          refine B_blk B jlkX10_ok jcl_SKF [.iload_n 3] (by decide +kernel) (ls' := [(0, jR 74), (1, jI v1), (2, jI v2), (3, jI r8.1)]) (st' := [jI r8.1]) rfl (p1 := 153) rfl ?_
          obtain ⟨gz, hf⟩ := jgd hf
          cases hf
          exact B_retZ B gz hq rfl (Nat.le_of_ble_eq_true rfl) (Nat.le_of_ble_eq_true rfl) (by decide +kernel)
      · refine B_blk B jlkX10_ok jcl_SKF [.aload_n 0, .dup, .getfield 64, .iconst 1, .iadd] (by decide +kernel) (ls' := [(0, jR 74), (1, jI v1), (2, jI v2), (3, jI r8.1)]) (st' := [jI (jW (r8.2 74 8 + 1)), jR 74]) rfl (p1 := 139) rfl ?_
        refine K_putI (jI' := 8) B jp_X10_64 rfl rfl rfl (by decide +kernel) ?_
        obtain ⟨m15, hm15, hf⟩ := jlt_s hf
        rw [hm15]
        refine B_blk B jlkX10_ok jcl_SKF [.aload_n 0, .dup, .getfield 142, .iconst 1, .isub] (by decide +kernel) (ls' := [(0, jR 74), (1, jI v1), (2, jI v2), (3, jI r8.1)]) (st' := [jI (jW (m15 74 10 - 1)), jR 74]) rfl (p1 := 149) rfl ?_
        refine K_putI (jI' := 10) B jp_X10_142 rfl rfl rfl (by decide +kernel) ?_
        obtain ⟨m16, hm16, hf⟩ := jlt_s hf
        rw [hm16]
        refine B_blk B jlkX10_ok jcl_SKF [.iload_n 3] (by decide +kernel) (ls' := [(0, jR 74), (1, jI v1), (2, jI v2), (3, jI r8.1)]) (st' := [jI r8.1]) rfl (p1 := 153) rfl ?_
        obtain ⟨gz, hf⟩ := jgd hf
        cases hf
        exact B_retZ B gz hq rfl (Nat.le_of_ble_eq_true rfl) (Nat.le_of_ble_eq_true rfl) (by decide +kernel)
    · refine B_blk B jlkX10_ok jcl_SKF [.aload_n 0] (by decide +kernel) (ls' := [(0, jR 74), (1, jI v1), (2, jI v2), (3, jI 0)]) (st' := [jR 74]) rfl (p1 := 77) rfl ?_
      obtain ⟨r17, h17, hf⟩ := jbd hf
      refine B_callV B (Nat.le_refl _) (μ' := r17.2) (k' := 0) (n' := 0) ca_X10_atom in_X10_atom se_X10_atom lk_X10_145 (t_X10_atom_1 B.tr h17) (Nat.le_refl _) rfl rfl rfl (rest := []) rfl rfl (Nat.le_of_ble_eq_true rfl) (by decide +kernel) rfl rfl (st' := [jI r17.1]) rfl ?_
      refine J_if_ne B.1 (off := 7) (tgt := 87) (by decide +kernel) (by decide) hf (fun hf => ?_) (fun hf => ?_)
      · refine B_blk B jlkX10_ok jcl_SKF [.iconst 1, .goto 4, .istore_n 3, .goto 53, .aload_n 0, .dup, .getfield 142, .iconst 1, .isub] (by decide +kernel) (ls' := [(0, jR 74), (1, jI v1), (2, jI v2), (3, jI 1)]) (st' := [jI (jW (r17.2 74 10 - 1)), jR 74]) rfl (p1 := 149) rfl ?_
        refine K_putI (jI' := 10) B jp_X10_142 rfl rfl rfl (by decide +kernel) ?_
        obtain ⟨m18, hm18, hf⟩ := jlt_s hf
        rw [hm18]
        refine B_blk B jlkX10_ok jcl_SKF [.iload_n 3] (by decide +kernel) (ls' := [(0, jR 74), (1, jI v1), (2, jI v2), (3, jI 1)]) (st' := [jI 1]) rfl (p1 := 153) rfl ?_
        cases hf
        exact B_retZ B (Or.inr rfl) hq rfl (Nat.le_of_ble_eq_true rfl) (Nat.le_of_ble_eq_true rfl) (by decide +kernel)
      · refine B_blk B jlkX10_ok jcl_SKF [.iconst 0, .istore_n 3, .goto 53, .aload_n 0, .dup, .getfield 142, .iconst 1, .isub] (by decide +kernel) (ls' := [(0, jR 74), (1, jI v1), (2, jI v2), (3, jI 0)]) (st' := [jI (jW (r17.2 74 10 - 1)), jR 74]) rfl (p1 := 149) rfl ?_
        refine K_putI (jI' := 10) B jp_X10_142 rfl rfl rfl (by decide +kernel) ?_
        obtain ⟨m19, hm19, hf⟩ := jlt_s hf
        rw [hm19]
        refine B_blk B jlkX10_ok jcl_SKF [.iload_n 3] (by decide +kernel) (ls' := [(0, jR 74), (1, jI v1), (2, jI v2), (3, jI 0)]) (st' := [jI 0]) rfl (p1 := 153) rfl ?_
        cases hf
        exact B_retZ B (Or.inl rfl) hq rfl (Nat.le_of_ble_eq_true rfl) (Nat.le_of_ble_eq_true rfl) (by decide +kernel)
theorem t_X10_atom_2 {l : Launch} {G : jG} (hl : l.stackTraces = false) {m : jMu} {r : (Int × jMu)} (hf : fr_X10_atom 2 m = some r) : jCt l G yX10_atom (.code yX10_atom cX10_atom 4 (some .boolean) :: jWG) rm_X10_atom_2 [jR 74] SKF m (.inl (some (jI r.1))) SKF r.2 := by
  rw [fr_X10_atom] at hf
  unfold f_X10_atom at hf
  refine J_start (ls0 := [(0, jR 74)]) (by decide +kernel) hl (Nat.le_of_ble_eq_true rfl) rfl fun X C hN hn hR hr hnm hno hq => ?_
  have B : jB X cX10_atom RX10 4 SKF.length rm_X10_atom_2 (some .boolean) := ⟨C, hN, Nat.le_of_eq hn, hR, hr⟩
  refine B_blk B jlkX10_ok jcl_SKF [.aload_n 0, .getfield 19, .iconst (-1)] (by decide +kernel) (ls' := [(0, jR 74)]) (st' := [jI (-1), jI (m 74 9)]) rfl (p1 := 5) rfl ?_
  refine J_icmp_eq B.1 (off := 5) (tgt := 10) (by decide +kernel) (by decide) hf (fun hf => ?_) (fun hf => ?_)
  · refine B_blk B jlkX10_ok jcl_SKF [.aload_n 0] (by decide +kernel) (ls' := [(0, jR 74)]) (st' := [jR 74]) rfl (p1 := 11) rfl ?_
    obtain ⟨r1, h1, hf⟩ := jbd hf
    refine B_callV B (Nat.le_refl _) (μ' := r1) (k' := 0) (n' := 0) ca_X10_skip in_X10_skip se_X10_skip lk_X10_74 (t_X10_skip B.tr h1) (Nat.le_refl _) rfl rfl rfl (rest := []) rfl rfl (Nat.le_of_ble_eq_true rfl) (by decide +kernel) rfl rfl (st' := []) rfl ?_
    refine B_blk B jlkX10_ok jcl_SKF [.aload_n 0, .getfield 64, .istore_n 1, .aload_n 0] (by decide +kernel) (ls' := [(0, jR 74), (1, jI (r1 74 8))]) (st' := [jR 74]) rfl (p1 := 20) rfl ?_
    refine J_ldcS (i := 7) (r := jXK + 7) B.1 rfl rfl (by decide) (by decide +kernel) ?_
    obtain ⟨r2, h2, hf⟩ := jbd hf
    refine B_callV B (Nat.le_refl _) (μ' := r2.2) (k' := 0) (n' := 0) ca_X10_has in_X10_has se_X10_has lk_X10_96 (t_X10_has B.tr (by decide) h2) (Nat.le_refl _) rfl rfl rfl (rest := []) rfl rfl (Nat.le_of_ble_eq_true rfl) (by decide +kernel) rfl rfl (st' := [jI r2.1]) rfl ?_
    refine B_blk B jlkX10_ok jcl_SKF [.istore_n 2, .iload_n 2] (by decide +kernel) (ls' := [(0, jR 74), (1, jI (r1 74 8)), (2, jI r2.1)]) (st' := [jI r2.1]) rfl (p1 := 27) rfl ?_
    refine J_if_ne B.1 (off := 17) (tgt := 44) (by decide +kernel) (by decide) hf (fun hf => ?_) (fun hf => ?_)
    · refine B_blk B jlkX10_ok jcl_SKF [.aload_n 0, .bipush 40] (by decide +kernel) (ls' := [(0, jR 74), (1, jI (r1 74 8)), (2, jI r2.1)]) (st' := [jI 40, jR 74]) rfl (p1 := 33) rfl ?_
      obtain ⟨r3, h3, hf⟩ := jbd hf
      refine B_callV B (Nat.le_refl _) (μ' := r3.2) (k' := 0) (n' := 0) ca_X10_isSign in_X10_isSign se_X10_isSign lk_X10_113 (t_X10_isSign B.tr h3) (Nat.le_refl _) rfl rfl rfl (rest := []) rfl rfl (Nat.le_of_ble_eq_true rfl) (by decide +kernel) rfl rfl (st' := [jI r3.1]) rfl ?_
      refine J_if_ne B.1 (off := 8) (tgt := 44) (by decide +kernel) (by decide) hf (fun hf => ?_) (fun hf => ?_)
      · refine B_blk B jlkX10_ok jcl_SKF [.aload_n 0] (by decide +kernel) (ls' := [(0, jR 74), (1, jI (r1 74 8)), (2, jI r2.1)]) (st' := [jR 74]) rfl (p1 := 40) rfl ?_
        obtain ⟨r4, h4, hf⟩ := jbd hf
        refine B_callV B (Nat.le_refl _) (μ' := r4.2) (k' := 0) (n' := 0) ca_X10_plain in_X10_plain se_X10_plain lk_X10_138 (t_X10_plain B.tr h4) (Nat.le_refl _) rfl rfl rfl (rest := []) rfl rfl (Nat.le_of_ble_eq_true rfl) (by decide +kernel) rfl rfl (st' := [jI r4.1]) rfl ?_
        obtain ⟨gz, hf⟩ := jgd hf
        cases hf
        exact B_retZ B gz hq rfl (Nat.le_of_ble_eq_true rfl) (Nat.le_of_ble_eq_true rfl) (by decide +kernel)
      · exact t_X10_atom_J44_2 B (r1 74 8) r2.1 r3.2 _ hf hq
    · exact t_X10_atom_J44_2 B (r1 74 8) r2.1 r2.2 _ hf hq
  · refine B_blk B jlkX10_ok jcl_SKF [.iconst 0] (by decide +kernel) (ls' := [(0, jR 74)]) (st' := [jI 0]) rfl (p1 := 9) rfl ?_
    cases hf
    exact B_retZ B (Or.inl rfl) hq rfl (Nat.le_of_ble_eq_true rfl) (Nat.le_of_ble_eq_true rfl) (by decide +kernel)

def rm_X10_every_2 : Room := { frames := 23, cells := 0, slots := 0, locals := 501 }
theorem t_X10_every_L5_2 {X : jX} (B : jB X cX10_every RX10 3 SKF.length rm_X10_every_2 (some .boolean)) : ∀ (q : Nat) (v1 : Int) (m : jMu) (r : (Int × jMu)), f_X10_every_L5 (fr_X10_atom 2) q v1 m = some r → jQ X (.inl (some (jI r.1))) SKF r.2 rm_X10_every_2.cells rm_X10_every_2.slots → J X SKF m 0 0 5 [(0, jR 74), (1, jI v1)] [] := by
  intro q
  induction q with
  | zero =>
    intro v1 m r hf
    rw [f_X10_every_L5] at hf
    cases hf
  | succ q ih =>
    intro v1 m r hf hq
    rw [f_X10_every_L5] at hf
    refine B_blk B jlkX10_ok jcl_SKF [.aload_n 0, .getfield 19, .iconst (-1)] (by decide +kernel) (ls' := [(0, jR 74), (1, jI v1)]) (st' := [jI (-1), jI (m 74 9)]) rfl (p1 := 10) rfl ?_
    refine J_icmp_ne B.1 (off := 34) (tgt := 44) (by decide +kernel) (by decide) hf (fun hf => ?_) (fun hf => ?_)
    · refine B_blk B jlkX10_ok jcl_SKF [.aload_n 0] (by decide +kernel) (ls' := [(0, jR 74), (1, jI v1)]) (st' := [jR 74]) rfl (p1 := 14) rfl ?_
      refine J_ldcS (i := 17) (r := jXK + 17) B.1 rfl rfl (by decide) (by decide +kernel) ?_
      obtain ⟨r2, h2, hf⟩ := jbd hf
      refine B_callV B (Nat.le_refl _) (μ' := r2.2) (k' := 0) (n' := 0) ca_X10_has in_X10_has se_X10_has lk_X10_96 (t_X10_has B.tr (by decide) h2) (Nat.le_refl _) rfl rfl rfl (rest := []) rfl rfl (Nat.le_of_ble_eq_true rfl) (by decide +kernel) rfl rfl (st' := [jI r2.1]) rfl ?_
      refine J_if_eq B.1 (off := 25) (tgt := 44) (by decide +kernel) (by decide) hf (fun hf => ?_) (fun hf => ?_)
      · refine B_blk B jlkX10_ok jcl_SKF [.iload_n 1] (by decide +kernel) (ls' := [(0, jR 74), (1, jI v1)]) (st' := [jI v1]) rfl (p1 := 45) rfl ?_
        obtain ⟨gz, hf⟩ := jgd hf
        cases hf
        exact B_retZ B gz hq rfl (Nat.le_of_ble_eq_true rfl) (Nat.le_of_ble_eq_true rfl) (by decide +kernel)
      · refine B_blk B jlkX10_ok jcl_SKF [.aload_n 0] (by decide +kernel) (ls' := [(0, jR 74), (1, jI v1)]) (st' := [jR 74]) rfl (p1 := 23) rfl ?_
        obtain ⟨r3, h3, hf⟩ := jbd hf
        refine B_callV B (Nat.le_refl _) (μ' := r3.2) (k' := 0) (n' := 0) ca_X10_atom in_X10_atom se_X10_atom lk_X10_145 (t_X10_atom_2 B.tr h3) (Nat.le_refl _) rfl rfl rfl (rest := []) rfl rfl (Nat.le_of_ble_eq_true rfl) (by decide +kernel) rfl rfl (st' := [jI r3.1]) rfl ?_
        refine B_blk B jlkX10_ok jcl_SKF [.istore_n 2, .iload_n 1] (by decide +kernel) (ls' := [(0, jR 74), (1, jI v1), (2, jI r3.1)]) (st' := [jI v1]) rfl (p1 := 28) rfl ?_
        refine J_if_eq B.1 (off := 11) (tgt := 39) (by decide +kernel) (by decide) hf (fun hf => ?_) (fun hf => ?_)
        · refine B_blk B jlkX10_ok jcl_SKF [.iconst 0, .istore_n 1, .goto (-36)] (by decide +kernel) (ls' := [(0, jR 74), (1, jI 0), (2, jI r3.1)]) (st' := []) rfl (p1 := 5) rfl ?_
          refine J_pick [0, 1] (ls' := [(0, jR 74), (1, jI 0)]) rfl ?_
          exact ih 0 r3.2 _ hf hq
        · refine B_blk B jlkX10_ok jcl_SKF [.iload_n 2] (by decide +kernel) (ls' := [(0, jR 74), (1, jI v1), (2, jI r3.1)]) (st' := [jI r3.1]) rfl (p1 := 32) rfl ?_
          refine J_if_eq B.1 (off := 7) (tgt := 39) (by decide +kernel) (by decide) hf (fun hf => ?_) (fun hf => ?_)
          · refine B_blk B jlkX10_ok jcl_SKF [.iconst 0, .istore_n 1, .goto (-36)] (by decide +kernel) (ls' := [(0, jR 74), (1, jI 0), (2, jI r3.1)]) (st' := []) rfl (p1 := 5) rfl ?_
            refine J_pick [0, 1] (ls' := [(0, jR 74), (1, jI 0)]) rfl ?_
            exact ih 0 r3.2 _ hf hq
          · refine B_blk B jlkX10_ok jcl_SKF [.iconst 1, .goto 4, .istore_n 1, .goto (-36)] (by decide +kernel) (ls' := [(0, jR 74), (1, jI 1), (2, jI r3.1)]) (st' := []) rfl (p1 := 5) rfl ?_
            refine J_pick [0, 1] (ls' := [(0, jR 74), (1, jI 1)]) rfl ?_
            exact ih 1 r3.2 _ hf hq
    · refine B_blk B jlkX10_ok jcl_SKF [.iload_n 1] (by decide +kernel) (ls' := [(0, jR 74), (1, jI v1)]) (st' := [jI v1]) rfl (p1 := 45) rfl ?_
      obtain ⟨gz, hf⟩ := jgd hf
      cases hf
      exact B_retZ B gz hq rfl (Nat.le_of_ble_eq_true rfl) (Nat.le_of_ble_eq_true rfl) (by decide +kernel)
theorem t_X10_every_2 {l : Launch} {G : jG} (hl : l.stackTraces = false) {m : jMu} {r : (Int × jMu)} (hf : f_X10_every (fr_X10_atom 2) m = some r) : jCt l G yX10_every (.code yX10_every cX10_every 3 (some .boolean) :: jWG) rm_X10_every_2 [jR 74] SKF m (.inl (some (jI r.1))) SKF r.2 := by
  unfold f_X10_every at hf
  refine J_start (ls0 := [(0, jR 74)]) (by decide +kernel) hl (Nat.le_of_ble_eq_true rfl) rfl fun X C hN hn hR hr hnm hno hq => ?_
  have B : jB X cX10_every RX10 3 SKF.length rm_X10_every_2 (some .boolean) := ⟨C, hN, Nat.le_of_eq hn, hR, hr⟩
  refine B_blk B jlkX10_ok jcl_SKF [.aload_n 0] (by decide +kernel) (ls' := [(0, jR 74)]) (st' := [jR 74]) rfl (p1 := 1) rfl ?_
  obtain ⟨r1, h1, hf⟩ := jbd hf
  refine B_callV B (Nat.le_refl _) (μ' := r1.2) (k' := 0) (n' := 0) ca_X10_atom in_X10_atom se_X10_atom lk_X10_145 (t_X10_atom_2 B.tr h1) (Nat.le_refl _) rfl rfl rfl (rest := []) rfl rfl (Nat.le_of_ble_eq_true rfl) (by decide +kernel) rfl rfl (st' := [jI r1.1]) rfl ?_
  refine B_blk B jlkX10_ok jcl_SKF [.istore_n 1] (by decide +kernel) (ls' := [(0, jR 74), (1, jI r1.1)]) (st' := []) rfl (p1 := 5) rfl ?_
  exact t_X10_every_L5_2 B jFU r1.1 r1.2 _ hf hq

def rm_X10_some_2 : Room := { frames := 25, cells := 0, slots := 0, locals := 523 }
theorem t_X10_some_L5_2 {X : jX} (B : jB X cX10_some RX10 3 SKF.length rm_X10_some_2 (some .boolean)) : ∀ (q : Nat) (v1 : Int) (m : jMu) (r : (Int × jMu)), f_X10_some_L5 (fr_X10_atom 2) q v1 m = some r → jQ X (.inl (some (jI r.1))) SKF r.2 rm_X10_some_2.cells rm_X10_some_2.slots → J X SKF m 0 0 5 [(0, jR 74), (1, jI v1)] [] := by
  intro q
  induction q with
  | zero =>
    intro v1 m r hf
    rw [f_X10_some_L5] at hf
    cases hf
  | succ q ih =>
    intro v1 m r hf hq
    rw [f_X10_some_L5] at hf
    refine B_blk B jlkX10_ok jcl_SKF [.aload_n 0, .getfield 19, .iconst (-1)] (by decide +kernel) (ls' := [(0, jR 74), (1, jI v1)]) (st' := [jI (-1), jI (m 74 9)]) rfl (p1 := 10) rfl ?_
    refine J_icmp_ne B.1 (off := 34) (tgt := 44) (by decide +kernel) (by decide) hf (fun hf => ?_) (fun hf => ?_)
    · refine B_blk B jlkX10_ok jcl_SKF [.aload_n 0] (by decide +kernel) (ls' := [(0, jR 74), (1, jI v1)]) (st' := [jR 74]) rfl (p1 := 14) rfl ?_
      refine J_ldcS (i := 18) (r := jXK + 18) B.1 rfl rfl (by decide) (by decide +kernel) ?_
      obtain ⟨r2, h2, hf⟩ := jbd hf
      refine B_callV B (Nat.le_refl _) (μ' := r2.2) (k' := 0) (n' := 0) ca_X10_has in_X10_has se_X10_has lk_X10_96 (t_X10_has B.tr (by decide) h2) (Nat.le_refl _) rfl rfl rfl (rest := []) rfl rfl (Nat.le_of_ble_eq_true rfl) (by decide +kernel) rfl rfl (st' := [jI r2.1]) rfl ?_
      refine J_if_eq B.1 (off := 25) (tgt := 44) (by decide +kernel) (by decide) hf (fun hf => ?_) (fun hf => ?_)
      · refine B_blk B jlkX10_ok jcl_SKF [.iload_n 1] (by decide +kernel) (ls' := [(0, jR 74), (1, jI v1)]) (st' := [jI v1]) rfl (p1 := 45) rfl ?_
        obtain ⟨gz, hf⟩ := jgd hf
        cases hf
        exact B_retZ B gz hq rfl (Nat.le_of_ble_eq_true rfl) (Nat.le_of_ble_eq_true rfl) (by decide +kernel)
      · refine B_blk B jlkX10_ok jcl_SKF [.aload_n 0] (by decide +kernel) (ls' := [(0, jR 74), (1, jI v1)]) (st' := [jR 74]) rfl (p1 := 23) rfl ?_
        obtain ⟨r3, h3, hf⟩ := jbd hf
        refine B_callV B (Nat.le_refl _) (μ' := r3.2) (k' := 0) (n' := 0) ca_X10_every in_X10_every se_X10_every lk_X10_153 (t_X10_every_2 B.tr h3) (Nat.le_refl _) rfl rfl rfl (rest := []) rfl rfl (Nat.le_of_ble_eq_true rfl) (by decide +kernel) rfl rfl (st' := [jI r3.1]) rfl ?_
        refine B_blk B jlkX10_ok jcl_SKF [.istore_n 2, .iload_n 1] (by decide +kernel) (ls' := [(0, jR 74), (1, jI v1), (2, jI r3.1)]) (st' := [jI v1]) rfl (p1 := 28) rfl ?_
        refine J_if_ne B.1 (off := 7) (tgt := 35) (by decide +kernel) (by decide) hf (fun hf => ?_) (fun hf => ?_)
        · refine B_blk B jlkX10_ok jcl_SKF [.iload_n 2] (by decide +kernel) (ls' := [(0, jR 74), (1, jI v1), (2, jI r3.1)]) (st' := [jI r3.1]) rfl (p1 := 32) rfl ?_
          refine J_if_eq B.1 (off := 7) (tgt := 39) (by decide +kernel) (by decide) hf (fun hf => ?_) (fun hf => ?_)
          · refine B_blk B jlkX10_ok jcl_SKF [.iconst 0, .istore_n 1, .goto (-36)] (by decide +kernel) (ls' := [(0, jR 74), (1, jI 0), (2, jI r3.1)]) (st' := []) rfl (p1 := 5) rfl ?_
            refine J_pick [0, 1] (ls' := [(0, jR 74), (1, jI 0)]) rfl ?_
            exact ih 0 r3.2 _ hf hq
          · refine B_blk B jlkX10_ok jcl_SKF [.iconst 1, .goto 4, .istore_n 1, .goto (-36)] (by decide +kernel) (ls' := [(0, jR 74), (1, jI 1), (2, jI r3.1)]) (st' := []) rfl (p1 := 5) rfl ?_
            refine J_pick [0, 1] (ls' := [(0, jR 74), (1, jI 1)]) rfl ?_
            exact ih 1 r3.2 _ hf hq
        · refine B_blk B jlkX10_ok jcl_SKF [.iconst 1, .goto 4, .istore_n 1, .goto (-36)] (by decide +kernel) (ls' := [(0, jR 74), (1, jI 1), (2, jI r3.1)]) (st' := []) rfl (p1 := 5) rfl ?_
          refine J_pick [0, 1] (ls' := [(0, jR 74), (1, jI 1)]) rfl ?_
          exact ih 1 r3.2 _ hf hq
    · refine B_blk B jlkX10_ok jcl_SKF [.iload_n 1] (by decide +kernel) (ls' := [(0, jR 74), (1, jI v1)]) (st' := [jI v1]) rfl (p1 := 45) rfl ?_
      obtain ⟨gz, hf⟩ := jgd hf
      cases hf
      exact B_retZ B gz hq rfl (Nat.le_of_ble_eq_true rfl) (Nat.le_of_ble_eq_true rfl) (by decide +kernel)
theorem t_X10_some_2 {l : Launch} {G : jG} (hl : l.stackTraces = false) {m : jMu} {r : (Int × jMu)} (hf : f_X10_some (fr_X10_atom 2) m = some r) : jCt l G yX10_some (.code yX10_some cX10_some 3 (some .boolean) :: jWG) rm_X10_some_2 [jR 74] SKF m (.inl (some (jI r.1))) SKF r.2 := by
  unfold f_X10_some at hf
  refine J_start (ls0 := [(0, jR 74)]) (by decide +kernel) hl (Nat.le_of_ble_eq_true rfl) rfl fun X C hN hn hR hr hnm hno hq => ?_
  have B : jB X cX10_some RX10 3 SKF.length rm_X10_some_2 (some .boolean) := ⟨C, hN, Nat.le_of_eq hn, hR, hr⟩
  refine B_blk B jlkX10_ok jcl_SKF [.aload_n 0] (by decide +kernel) (ls' := [(0, jR 74)]) (st' := [jR 74]) rfl (p1 := 1) rfl ?_
  obtain ⟨r1, h1, hf⟩ := jbd hf
  refine B_callV B (Nat.le_refl _) (μ' := r1.2) (k' := 0) (n' := 0) ca_X10_every in_X10_every se_X10_every lk_X10_153 (t_X10_every_2 B.tr h1) (Nat.le_refl _) rfl rfl rfl (rest := []) rfl rfl (Nat.le_of_ble_eq_true rfl) (by decide +kernel) rfl rfl (st' := [jI r1.1]) rfl ?_
  refine B_blk B jlkX10_ok jcl_SKF [.istore_n 1] (by decide +kernel) (ls' := [(0, jR 74), (1, jI r1.1)]) (st' := []) rfl (p1 := 5) rfl ?_
  exact t_X10_some_L5_2 B jFU r1.1 r1.2 _ hf hq

def rm_X10_atom_3 : Room := { frames := 27, cells := 0, slots := 0, locals := 545 }
theorem t_X10_atom_J44_3 {X : jX} (B : jB X cX10_atom RX10 4 SKF.length rm_X10_atom_3 (some .boolean)) (v1 : Int) (v2 : Int) (m : jMu) (r : (Int × jMu)) (hf : f_X10_atom_J44 (fr_X10_atom 2) v1 v2 m = some r) (hq : jQ X (.inl (some (jI r.1))) SKF r.2 rm_X10_atom_3.cells rm_X10_atom_3.slots) : J X SKF m 0 0 44 [(0, jR 74), (1, jI v1), (2, jI v2)] [] := by
  unfold f_X10_atom_J44 at hf
  refine B_blk B jlkX10_ok jcl_SKF [.aload_n 0, .getfield 142, .bipush 6] (by decide +kernel) (ls' := [(0, jR 74), (1, jI v1), (2, jI v2)]) (st' := [jI 6, jI (m 74 10)]) rfl (p1 := 50) rfl ?_
  refine J_icmp_ne B.1 (off := 10) (tgt := 60) (by decide +kernel) (by decide) hf (fun hf => ?_) (fun hf => ?_)
  · refine B_blk B jlkX10_ok jcl_SKF [.aload_n 0, .iload_n 1] (by decide +kernel) (ls' := [(0, jR 74), (1, jI v1), (2, jI v2)]) (st' := [jI v1, jR 74]) rfl (p1 := 55) rfl ?_
    obtain ⟨r5, h5, hf⟩ := jbd hf
    refine B_callV B (Nat.le_refl _) (μ' := r5) (k' := 0) (n' := 0) ca_X10_wrong in_X10_wrong se_X10_wrong lk_X10_87 (t_X10_wrong B.tr h5) (Nat.le_refl _) rfl rfl rfl (rest := []) rfl rfl (Nat.le_of_ble_eq_true rfl) (by decide +kernel) rfl rfl (st' := []) rfl ?_
    refine B_blk B jlkX10_ok jcl_SKF [.iconst 0] (by decide +kernel) (ls' := [(0, jR 74), (1, jI v1), (2, jI v2)]) (st' := [jI 0]) rfl (p1 := 59) rfl ?_
    cases hf
    exact B_retZ B (Or.inl rfl) hq rfl (Nat.le_of_ble_eq_true rfl) (Nat.le_of_ble_eq_true rfl) (by decide +kernel)
  · refine B_blk B jlkX10_ok jcl_SKF [.aload_n 0, .dup, .getfield 142, .iconst 1, .iadd] (by decide +kernel) (ls' := [(0, jR 74), (1, jI v1), (2, jI v2)]) (st' := [jI (jW (m 74 10 + 1)), jR 74]) rfl (p1 := 67) rfl ?_
    refine K_putI (jI' := 10) B jp_X10_142 rfl rfl rfl (by decide +kernel) ?_
    obtain ⟨m6, hm6, hf⟩ := jlt_s hf
    rw [hm6]
    refine B_blk B jlkX10_ok jcl_SKF [.iconst 0, .istore_n 3, .iload_n 2] (by decide +kernel) (ls' := [(0, jR 74), (1, jI v1), (2, jI v2), (3, jI 0)]) (st' := [jI v2]) rfl (p1 := 73) rfl ?_
    refine J_if_eq B.1 (off := 19) (tgt := 92) (by decide +kernel) (by decide) hf (fun hf => ?_) (fun hf => ?_)
    · refine B_blk B jlkX10_ok jcl_SKF [.aload_n 0, .dup, .getfield 64, .iconst 1, .iadd] (by decide +kernel) (ls' := [(0, jR 74), (1, jI v1), (2, jI v2), (3, jI 0)]) (st' := [jI (jW (m6 74 8 + 1)), jR 74]) rfl (p1 := 99) rfl ?_
      refine K_putI (jI' := 8) B jp_X10_64 rfl rfl rfl (by decide +kernel) ?_
      obtain ⟨m7, hm7, hf⟩ := jlt_s hf
      rw [hm7]
      refine B_blk B jlkX10_ok jcl_SKF [.aload_n 0] (by decide +kernel) (ls' := [(0, jR 74), (1, jI v1), (2, jI v2), (3, jI 0)]) (st' := [jR 74]) rfl (p1 := 103) rfl ?_
      obtain ⟨r8, h8, hf⟩ := jbd hf
      refine B_callV B (Nat.le_refl _) (μ' := r8.2) (k' := 0) (n' := 0) ca_X10_some in_X10_some se_X10_some lk_X10_148 (t_X10_some_2 B.tr h8) (Nat.le_refl _) rfl rfl rfl (rest := []) rfl rfl (Nat.le_of_ble_eq_true rfl) (by decide +kernel) rfl rfl (st' := [jI r8.1]) rfl ?_
      refine B_blk B jlkX10_ok jcl_SKF [.istore_n 3, .aload_n 0, .getfield 19, .iconst (-1)] (by decide +kernel) (ls' := [(0, jR 74), (1, jI v1), (2, jI v2), (3, jI r8.1)]) (st' := [jI (-1), jI (r8.2 74 9)]) rfl (p1 := 112) rfl ?_
      refine J_icmp_ne B.1 (off := 20) (tgt := 132) (by decide +kernel) (by decide) hf (fun hf => ?_) (fun hf => ?_)
      · refine B_blk B jlkX10_ok jcl_SKF [.aload_n 0, .bipush 41] (by decide +kernel) (ls' := [(0, jR 74), (1, jI v1), (2, jI v2), (3, jI r8.1)]) (st' := [jI 41, jR 74]) rfl (p1 := 118) rfl ?_
        obtain ⟨r9, h9, hf⟩ := jbd hf
        refine B_callV B (Nat.le_refl _) (μ' := r9.2) (k' := 0) (n' := 0) ca_X10_isSign in_X10_isSign se_X10_isSign lk_X10_113 (t_X10_isSign B.tr h9) (Nat.le_refl _) rfl rfl rfl (rest := []) rfl rfl (Nat.le_of_ble_eq_true rfl) (by decide +kernel) rfl rfl (st' := [jI r9.1]) rfl ?_
        refine J_if_ne B.1 (off := 11) (tgt := 132) (by decide +kernel) (by decide) hf (fun hf => ?_) (fun hf => ?_)
        · refine B_blk B jlkX10_ok jcl_SKF [.aload_n 0, .aload_n 0, .getfield 64] (by decide +kernel) (ls' := [(0, jR 74), (1, jI v1), (2, jI v2), (3, jI r8.1)]) (st' := [jI (r9.2 74 8), jR 74]) rfl (p1 := 129) rfl ?_
          obtain ⟨r10, h10, hf⟩ := jbd hf
          refine B_callV B (Nat.le_refl _) (μ' := r10) (k' := 0) (n' := 0) ca_X10_wrong in_X10_wrong se_X10_wrong lk_X10_87 (t_X10_wrong B.tr h10) (Nat.le_refl _) rfl rfl rfl (rest := []) rfl rfl (Nat.le_of_ble_eq_true rfl) (by decide +kernel) rfl rfl (st' := []) rfl ?_
          refine B_blk B jlkX10_ok jcl_SKF [.aload_n 0, .dup, .getfield 64, .iconst 1, .iadd] (by decide +kernel) (ls' := [(0, jR 74), (1, jI v1), (2, jI v2), (3, jI r8.1)]) (st' := [jI (jW (r10 74 8 + 1)), jR 74]) rfl (p1 := 139) rfl ?_
          refine K_putI (jI' := 8) B jp_X10_64 rfl rfl rfl (by decide +kernel) ?_
          obtain ⟨m11, hm11, hf⟩ := jlt_s hf
          rw [hm11]
          refine B_blk B jlkX10_ok jcl_SKF [.aload_n 0, .dup, .getfield 142, .iconst 1, .isub] (by decide +kernel) (ls' := [(0, jR 74), (1, jI v1), (2, jI v2), (3, jI r8.1)]) (st' := [jI (jW (m11 74 10 - 1)), jR 74]) rfl (p1 := 149) rfl ?_
          refine K_putI (jI' := 10) B jp_X10_142 rfl rfl rfl (by decide +kernel) ?_
          obtain ⟨m12, hm12, hf⟩ := jlt_s hf
          rw [hm12]
          refine B_blk B jlkX10_ok jcl_SKF [.iload_n 3] (by decide +kernel) (ls' := [(0, jR 74), (1, jI v1), (2, jI v2), (3, jI r8.1)]) (st' := [jI r8.1]) rfl (p1 := 153) rfl ?_
          obtain ⟨gz, hf⟩ := jgd hf
          cases hf
          exact B_retZ B gz hq rfl (Nat.le_of_ble_eq_true rfl) (Nat.le_of_ble_eq_true rfl) (by decide +kernel)
        · refine B_blk B jlkX10_ok jcl_SKF [.aload_n 0, .dup, .getfield 64, .iconst 1, .iadd] (by decide +kernel) (ls' := [(0, jR 74), (1, jI v1), (2, jI v2), (3, jI r8.1)]) (st' := [jI (jW (r9.2 74 8 + 1)), jR 74]) rfl (p1 := 139) rfl ?_
          refine K_putI (jI' := 8) B jp_X10_64 rfl rfl rfl (by decide +kernel) ?_
          obtain ⟨m13, hm13, hf⟩ := jlt_s hf
          rw [hm13]
          refine B_blk B jlkX10_ok jcl_SKF [.aload_n 0, .dup, .getfield 142, .iconst 1, .isub] (by decide +kernel) (ls' := [(0, jR 74), (1, jI v1), (2, jI v2), (3, jI r8.1)]) (st' := [jI (jW (m13 74 10 - 1)), jR 74]) rfl (p1 := 149) rfl ?_
          refine K_putI (jI' := 10) B jp_X10_142 rfl rfl rfl (by decide +kernel) ?_
          obtain ⟨m14, hm14, hf⟩ := jlt_s hf
          rw [hm14]
          refine B_blk B jlkX10_ok jcl_SKF [.iload_n 3] (by decide +kernel) (ls' := [(0, jR 74), (1, jI v1), (2, jI v2), (3, jI r8.1)]) (st' := [jI r8.1]) rfl (p1 := 153) rfl ?_
          obtain ⟨gz, hf⟩ := jgd hf
          cases hf
          exact B_retZ B gz hq rfl (Nat.le_of_ble_eq_true rfl) (Nat.le_of_ble_eq_true rfl) (by decide +kernel)
      · refine B_blk B jlkX10_ok jcl_SKF [.aload_n 0, .dup, .getfield 64, .iconst 1, .iadd] (by decide +kernel) (ls' := [(0, jR 74), (1, jI v1), (2, jI v2), (3, jI r8.1)]) (st' := [jI (jW (r8.2 74 8 + 1)), jR 74]) rfl (p1 := 139) rfl ?_
        refine K_putI (jI' := 8) B jp_X10_64 rfl rfl rfl (by decide +kernel) ?_
        obtain ⟨m15, hm15, hf⟩ := jlt_s hf
        rw [hm15]
        refine B_blk B jlkX10_ok jcl_SKF [.aload_n 0, .dup, .getfield 142, .iconst 1, .isub] (by decide +kernel) (ls' := [(0, jR 74), (1, jI v1), (2, jI v2), (3, jI r8.1)]) (st' := [jI (jW (m15 74 10 - 1)), jR 74]) rfl (p1 := 149) rfl ?_
        refine K_putI (jI' := 10) B jp_X10_142 rfl rfl rfl (by decide +kernel) ?_
        obtain ⟨m16, hm16, hf⟩ := jlt_s hf
        rw [hm16]
        refine B_blk B jlkX10_ok jcl_SKF [.iload_n 3] (by decide +kernel) (ls' := [(0, jR 74), (1, jI v1), (2, jI v2), (3, jI r8.1)]) (st' := [jI r8.1]) rfl (p1 := 153) rfl ?_
        obtain ⟨gz, hf⟩ := jgd hf
        cases hf
        exact B_retZ B gz hq rfl (Nat.le_of_ble_eq_true rfl) (Nat.le_of_ble_eq_true rfl) (by decide +kernel)
    · refine B_blk B jlkX10_ok jcl_SKF [.aload_n 0] (by decide +kernel) (ls' := [(0, jR 74), (1, jI v1), (2, jI v2), (3, jI 0)]) (st' := [jR 74]) rfl (p1 := 77) rfl ?_
      obtain ⟨r17, h17, hf⟩ := jbd hf
      refine B_callV B (Nat.le_refl _) (μ' := r17.2) (k' := 0) (n' := 0) ca_X10_atom in_X10_atom se_X10_atom lk_X10_145 (t_X10_atom_2 B.tr h17) (Nat.le_refl _) rfl rfl rfl (rest := []) rfl rfl (Nat.le_of_ble_eq_true rfl) (by decide +kernel) rfl rfl (st' := [jI r17.1]) rfl ?_
      refine J_if_ne B.1 (off := 7) (tgt := 87) (by decide +kernel) (by decide) hf (fun hf => ?_) (fun hf => ?_)
      · refine B_blk B jlkX10_ok jcl_SKF [.iconst 1, .goto 4, .istore_n 3, .goto 53, .aload_n 0, .dup, .getfield 142, .iconst 1, .isub] (by decide +kernel) (ls' := [(0, jR 74), (1, jI v1), (2, jI v2), (3, jI 1)]) (st' := [jI (jW (r17.2 74 10 - 1)), jR 74]) rfl (p1 := 149) rfl ?_
        refine K_putI (jI' := 10) B jp_X10_142 rfl rfl rfl (by decide +kernel) ?_
        obtain ⟨m18, hm18, hf⟩ := jlt_s hf
        rw [hm18]
        refine B_blk B jlkX10_ok jcl_SKF [.iload_n 3] (by decide +kernel) (ls' := [(0, jR 74), (1, jI v1), (2, jI v2), (3, jI 1)]) (st' := [jI 1]) rfl (p1 := 153) rfl ?_
        cases hf
        exact B_retZ B (Or.inr rfl) hq rfl (Nat.le_of_ble_eq_true rfl) (Nat.le_of_ble_eq_true rfl) (by decide +kernel)
      · refine B_blk B jlkX10_ok jcl_SKF [.iconst 0, .istore_n 3, .goto 53, .aload_n 0, .dup, .getfield 142, .iconst 1, .isub] (by decide +kernel) (ls' := [(0, jR 74), (1, jI v1), (2, jI v2), (3, jI 0)]) (st' := [jI (jW (r17.2 74 10 - 1)), jR 74]) rfl (p1 := 149) rfl ?_
        refine K_putI (jI' := 10) B jp_X10_142 rfl rfl rfl (by decide +kernel) ?_
        obtain ⟨m19, hm19, hf⟩ := jlt_s hf
        rw [hm19]
        refine B_blk B jlkX10_ok jcl_SKF [.iload_n 3] (by decide +kernel) (ls' := [(0, jR 74), (1, jI v1), (2, jI v2), (3, jI 0)]) (st' := [jI 0]) rfl (p1 := 153) rfl ?_
        cases hf
        exact B_retZ B (Or.inl rfl) hq rfl (Nat.le_of_ble_eq_true rfl) (Nat.le_of_ble_eq_true rfl) (by decide +kernel)
theorem t_X10_atom_3 {l : Launch} {G : jG} (hl : l.stackTraces = false) {m : jMu} {r : (Int × jMu)} (hf : fr_X10_atom 3 m = some r) : jCt l G yX10_atom (.code yX10_atom cX10_atom 4 (some .boolean) :: jWG) rm_X10_atom_3 [jR 74] SKF m (.inl (some (jI r.1))) SKF r.2 := by
  rw [fr_X10_atom] at hf
  unfold f_X10_atom at hf
  refine J_start (ls0 := [(0, jR 74)]) (by decide +kernel) hl (Nat.le_of_ble_eq_true rfl) rfl fun X C hN hn hR hr hnm hno hq => ?_
  have B : jB X cX10_atom RX10 4 SKF.length rm_X10_atom_3 (some .boolean) := ⟨C, hN, Nat.le_of_eq hn, hR, hr⟩
  refine B_blk B jlkX10_ok jcl_SKF [.aload_n 0, .getfield 19, .iconst (-1)] (by decide +kernel) (ls' := [(0, jR 74)]) (st' := [jI (-1), jI (m 74 9)]) rfl (p1 := 5) rfl ?_
  refine J_icmp_eq B.1 (off := 5) (tgt := 10) (by decide +kernel) (by decide) hf (fun hf => ?_) (fun hf => ?_)
  · refine B_blk B jlkX10_ok jcl_SKF [.aload_n 0] (by decide +kernel) (ls' := [(0, jR 74)]) (st' := [jR 74]) rfl (p1 := 11) rfl ?_
    obtain ⟨r1, h1, hf⟩ := jbd hf
    refine B_callV B (Nat.le_refl _) (μ' := r1) (k' := 0) (n' := 0) ca_X10_skip in_X10_skip se_X10_skip lk_X10_74 (t_X10_skip B.tr h1) (Nat.le_refl _) rfl rfl rfl (rest := []) rfl rfl (Nat.le_of_ble_eq_true rfl) (by decide +kernel) rfl rfl (st' := []) rfl ?_
    refine B_blk B jlkX10_ok jcl_SKF [.aload_n 0, .getfield 64, .istore_n 1, .aload_n 0] (by decide +kernel) (ls' := [(0, jR 74), (1, jI (r1 74 8))]) (st' := [jR 74]) rfl (p1 := 20) rfl ?_
    refine J_ldcS (i := 7) (r := jXK + 7) B.1 rfl rfl (by decide) (by decide +kernel) ?_
    obtain ⟨r2, h2, hf⟩ := jbd hf
    refine B_callV B (Nat.le_refl _) (μ' := r2.2) (k' := 0) (n' := 0) ca_X10_has in_X10_has se_X10_has lk_X10_96 (t_X10_has B.tr (by decide) h2) (Nat.le_refl _) rfl rfl rfl (rest := []) rfl rfl (Nat.le_of_ble_eq_true rfl) (by decide +kernel) rfl rfl (st' := [jI r2.1]) rfl ?_
    refine B_blk B jlkX10_ok jcl_SKF [.istore_n 2, .iload_n 2] (by decide +kernel) (ls' := [(0, jR 74), (1, jI (r1 74 8)), (2, jI r2.1)]) (st' := [jI r2.1]) rfl (p1 := 27) rfl ?_
    refine J_if_ne B.1 (off := 17) (tgt := 44) (by decide +kernel) (by decide) hf (fun hf => ?_) (fun hf => ?_)
    · refine B_blk B jlkX10_ok jcl_SKF [.aload_n 0, .bipush 40] (by decide +kernel) (ls' := [(0, jR 74), (1, jI (r1 74 8)), (2, jI r2.1)]) (st' := [jI 40, jR 74]) rfl (p1 := 33) rfl ?_
      obtain ⟨r3, h3, hf⟩ := jbd hf
      refine B_callV B (Nat.le_refl _) (μ' := r3.2) (k' := 0) (n' := 0) ca_X10_isSign in_X10_isSign se_X10_isSign lk_X10_113 (t_X10_isSign B.tr h3) (Nat.le_refl _) rfl rfl rfl (rest := []) rfl rfl (Nat.le_of_ble_eq_true rfl) (by decide +kernel) rfl rfl (st' := [jI r3.1]) rfl ?_
      refine J_if_ne B.1 (off := 8) (tgt := 44) (by decide +kernel) (by decide) hf (fun hf => ?_) (fun hf => ?_)
      · refine B_blk B jlkX10_ok jcl_SKF [.aload_n 0] (by decide +kernel) (ls' := [(0, jR 74), (1, jI (r1 74 8)), (2, jI r2.1)]) (st' := [jR 74]) rfl (p1 := 40) rfl ?_
        obtain ⟨r4, h4, hf⟩ := jbd hf
        refine B_callV B (Nat.le_refl _) (μ' := r4.2) (k' := 0) (n' := 0) ca_X10_plain in_X10_plain se_X10_plain lk_X10_138 (t_X10_plain B.tr h4) (Nat.le_refl _) rfl rfl rfl (rest := []) rfl rfl (Nat.le_of_ble_eq_true rfl) (by decide +kernel) rfl rfl (st' := [jI r4.1]) rfl ?_
        obtain ⟨gz, hf⟩ := jgd hf
        cases hf
        exact B_retZ B gz hq rfl (Nat.le_of_ble_eq_true rfl) (Nat.le_of_ble_eq_true rfl) (by decide +kernel)
      · exact t_X10_atom_J44_3 B (r1 74 8) r2.1 r3.2 _ hf hq
    · exact t_X10_atom_J44_3 B (r1 74 8) r2.1 r2.2 _ hf hq
  · refine B_blk B jlkX10_ok jcl_SKF [.iconst 0] (by decide +kernel) (ls' := [(0, jR 74)]) (st' := [jI 0]) rfl (p1 := 9) rfl ?_
    cases hf
    exact B_retZ B (Or.inl rfl) hq rfl (Nat.le_of_ble_eq_true rfl) (Nat.le_of_ble_eq_true rfl) (by decide +kernel)

def rm_X10_every_3 : Room := { frames := 29, cells := 0, slots := 0, locals := 568 }
theorem t_X10_every_L5_3 {X : jX} (B : jB X cX10_every RX10 3 SKF.length rm_X10_every_3 (some .boolean)) : ∀ (q : Nat) (v1 : Int) (m : jMu) (r : (Int × jMu)), f_X10_every_L5 (fr_X10_atom 3) q v1 m = some r → jQ X (.inl (some (jI r.1))) SKF r.2 rm_X10_every_3.cells rm_X10_every_3.slots → J X SKF m 0 0 5 [(0, jR 74), (1, jI v1)] [] := by
  intro q
  induction q with
  | zero =>
    intro v1 m r hf
    rw [f_X10_every_L5] at hf
    cases hf
  | succ q ih =>
    intro v1 m r hf hq
    rw [f_X10_every_L5] at hf
    refine B_blk B jlkX10_ok jcl_SKF [.aload_n 0, .getfield 19, .iconst (-1)] (by decide +kernel) (ls' := [(0, jR 74), (1, jI v1)]) (st' := [jI (-1), jI (m 74 9)]) rfl (p1 := 10) rfl ?_
    refine J_icmp_ne B.1 (off := 34) (tgt := 44) (by decide +kernel) (by decide) hf (fun hf => ?_) (fun hf => ?_)
    · refine B_blk B jlkX10_ok jcl_SKF [.aload_n 0] (by decide +kernel) (ls' := [(0, jR 74), (1, jI v1)]) (st' := [jR 74]) rfl (p1 := 14) rfl ?_
      refine J_ldcS (i := 17) (r := jXK + 17) B.1 rfl rfl (by decide) (by decide +kernel) ?_
      obtain ⟨r2, h2, hf⟩ := jbd hf
      refine B_callV B (Nat.le_refl _) (μ' := r2.2) (k' := 0) (n' := 0) ca_X10_has in_X10_has se_X10_has lk_X10_96 (t_X10_has B.tr (by decide) h2) (Nat.le_refl _) rfl rfl rfl (rest := []) rfl rfl (Nat.le_of_ble_eq_true rfl) (by decide +kernel) rfl rfl (st' := [jI r2.1]) rfl ?_
      refine J_if_eq B.1 (off := 25) (tgt := 44) (by decide +kernel) (by decide) hf (fun hf => ?_) (fun hf => ?_)
      · refine B_blk B jlkX10_ok jcl_SKF [.iload_n 1] (by decide +kernel) (ls' := [(0, jR 74), (1, jI v1)]) (st' := [jI v1]) rfl (p1 := 45) rfl ?_
        obtain ⟨gz, hf⟩ := jgd hf
        cases hf
        exact B_retZ B gz hq rfl (Nat.le_of_ble_eq_true rfl) (Nat.le_of_ble_eq_true rfl) (by decide +kernel)
      · refine B_blk B jlkX10_ok jcl_SKF [.aload_n 0] (by decide +kernel) (ls' := [(0, jR 74), (1, jI v1)]) (st' := [jR 74]) rfl (p1 := 23) rfl ?_
        obtain ⟨r3, h3, hf⟩ := jbd hf
        refine B_callV B (Nat.le_refl _) (μ' := r3.2) (k' := 0) (n' := 0) ca_X10_atom in_X10_atom se_X10_atom lk_X10_145 (t_X10_atom_3 B.tr h3) (Nat.le_refl _) rfl rfl rfl (rest := []) rfl rfl (Nat.le_of_ble_eq_true rfl) (by decide +kernel) rfl rfl (st' := [jI r3.1]) rfl ?_
        refine B_blk B jlkX10_ok jcl_SKF [.istore_n 2, .iload_n 1] (by decide +kernel) (ls' := [(0, jR 74), (1, jI v1), (2, jI r3.1)]) (st' := [jI v1]) rfl (p1 := 28) rfl ?_
        refine J_if_eq B.1 (off := 11) (tgt := 39) (by decide +kernel) (by decide) hf (fun hf => ?_) (fun hf => ?_)
        · refine B_blk B jlkX10_ok jcl_SKF [.iconst 0, .istore_n 1, .goto (-36)] (by decide +kernel) (ls' := [(0, jR 74), (1, jI 0), (2, jI r3.1)]) (st' := []) rfl (p1 := 5) rfl ?_
          refine J_pick [0, 1] (ls' := [(0, jR 74), (1, jI 0)]) rfl ?_
          exact ih 0 r3.2 _ hf hq
        · refine B_blk B jlkX10_ok jcl_SKF [.iload_n 2] (by decide +kernel) (ls' := [(0, jR 74), (1, jI v1), (2, jI r3.1)]) (st' := [jI r3.1]) rfl (p1 := 32) rfl ?_
          refine J_if_eq B.1 (off := 7) (tgt := 39) (by decide +kernel) (by decide) hf (fun hf => ?_) (fun hf => ?_)
          · refine B_blk B jlkX10_ok jcl_SKF [.iconst 0, .istore_n 1, .goto (-36)] (by decide +kernel) (ls' := [(0, jR 74), (1, jI 0), (2, jI r3.1)]) (st' := []) rfl (p1 := 5) rfl ?_
            refine J_pick [0, 1] (ls' := [(0, jR 74), (1, jI 0)]) rfl ?_
            exact ih 0 r3.2 _ hf hq
          · refine B_blk B jlkX10_ok jcl_SKF [.iconst 1, .goto 4, .istore_n 1, .goto (-36)] (by decide +kernel) (ls' := [(0, jR 74), (1, jI 1), (2, jI r3.1)]) (st' := []) rfl (p1 := 5) rfl ?_
            refine J_pick [0, 1] (ls' := [(0, jR 74), (1, jI 1)]) rfl ?_
            exact ih 1 r3.2 _ hf hq
    · refine B_blk B jlkX10_ok jcl_SKF [.iload_n 1] (by decide +kernel) (ls' := [(0, jR 74), (1, jI v1)]) (st' := [jI v1]) rfl (p1 := 45) rfl ?_
      obtain ⟨gz, hf⟩ := jgd hf
      cases hf
      exact B_retZ B gz hq rfl (Nat.le_of_ble_eq_true rfl) (Nat.le_of_ble_eq_true rfl) (by decide +kernel)
theorem t_X10_every_3 {l : Launch} {G : jG} (hl : l.stackTraces = false) {m : jMu} {r : (Int × jMu)} (hf : f_X10_every (fr_X10_atom 3) m = some r) : jCt l G yX10_every (.code yX10_every cX10_every 3 (some .boolean) :: jWG) rm_X10_every_3 [jR 74] SKF m (.inl (some (jI r.1))) SKF r.2 := by
  unfold f_X10_every at hf
  refine J_start (ls0 := [(0, jR 74)]) (by decide +kernel) hl (Nat.le_of_ble_eq_true rfl) rfl fun X C hN hn hR hr hnm hno hq => ?_
  have B : jB X cX10_every RX10 3 SKF.length rm_X10_every_3 (some .boolean) := ⟨C, hN, Nat.le_of_eq hn, hR, hr⟩
  refine B_blk B jlkX10_ok jcl_SKF [.aload_n 0] (by decide +kernel) (ls' := [(0, jR 74)]) (st' := [jR 74]) rfl (p1 := 1) rfl ?_
  obtain ⟨r1, h1, hf⟩ := jbd hf
  refine B_callV B (Nat.le_refl _) (μ' := r1.2) (k' := 0) (n' := 0) ca_X10_atom in_X10_atom se_X10_atom lk_X10_145 (t_X10_atom_3 B.tr h1) (Nat.le_refl _) rfl rfl rfl (rest := []) rfl rfl (Nat.le_of_ble_eq_true rfl) (by decide +kernel) rfl rfl (st' := [jI r1.1]) rfl ?_
  refine B_blk B jlkX10_ok jcl_SKF [.istore_n 1] (by decide +kernel) (ls' := [(0, jR 74), (1, jI r1.1)]) (st' := []) rfl (p1 := 5) rfl ?_
  exact t_X10_every_L5_3 B jFU r1.1 r1.2 _ hf hq

def rm_X10_some_3 : Room := { frames := 31, cells := 0, slots := 0, locals := 590 }
theorem t_X10_some_L5_3 {X : jX} (B : jB X cX10_some RX10 3 SKF.length rm_X10_some_3 (some .boolean)) : ∀ (q : Nat) (v1 : Int) (m : jMu) (r : (Int × jMu)), f_X10_some_L5 (fr_X10_atom 3) q v1 m = some r → jQ X (.inl (some (jI r.1))) SKF r.2 rm_X10_some_3.cells rm_X10_some_3.slots → J X SKF m 0 0 5 [(0, jR 74), (1, jI v1)] [] := by
  intro q
  induction q with
  | zero =>
    intro v1 m r hf
    rw [f_X10_some_L5] at hf
    cases hf
  | succ q ih =>
    intro v1 m r hf hq
    rw [f_X10_some_L5] at hf
    refine B_blk B jlkX10_ok jcl_SKF [.aload_n 0, .getfield 19, .iconst (-1)] (by decide +kernel) (ls' := [(0, jR 74), (1, jI v1)]) (st' := [jI (-1), jI (m 74 9)]) rfl (p1 := 10) rfl ?_
    refine J_icmp_ne B.1 (off := 34) (tgt := 44) (by decide +kernel) (by decide) hf (fun hf => ?_) (fun hf => ?_)
    · refine B_blk B jlkX10_ok jcl_SKF [.aload_n 0] (by decide +kernel) (ls' := [(0, jR 74), (1, jI v1)]) (st' := [jR 74]) rfl (p1 := 14) rfl ?_
      refine J_ldcS (i := 18) (r := jXK + 18) B.1 rfl rfl (by decide) (by decide +kernel) ?_
      obtain ⟨r2, h2, hf⟩ := jbd hf
      refine B_callV B (Nat.le_refl _) (μ' := r2.2) (k' := 0) (n' := 0) ca_X10_has in_X10_has se_X10_has lk_X10_96 (t_X10_has B.tr (by decide) h2) (Nat.le_refl _) rfl rfl rfl (rest := []) rfl rfl (Nat.le_of_ble_eq_true rfl) (by decide +kernel) rfl rfl (st' := [jI r2.1]) rfl ?_
      refine J_if_eq B.1 (off := 25) (tgt := 44) (by decide +kernel) (by decide) hf (fun hf => ?_) (fun hf => ?_)
      · refine B_blk B jlkX10_ok jcl_SKF [.iload_n 1] (by decide +kernel) (ls' := [(0, jR 74), (1, jI v1)]) (st' := [jI v1]) rfl (p1 := 45) rfl ?_
        obtain ⟨gz, hf⟩ := jgd hf
        cases hf
        exact B_retZ B gz hq rfl (Nat.le_of_ble_eq_true rfl) (Nat.le_of_ble_eq_true rfl) (by decide +kernel)
      · refine B_blk B jlkX10_ok jcl_SKF [.aload_n 0] (by decide +kernel) (ls' := [(0, jR 74), (1, jI v1)]) (st' := [jR 74]) rfl (p1 := 23) rfl ?_
        obtain ⟨r3, h3, hf⟩ := jbd hf
        refine B_callV B (Nat.le_refl _) (μ' := r3.2) (k' := 0) (n' := 0) ca_X10_every in_X10_every se_X10_every lk_X10_153 (t_X10_every_3 B.tr h3) (Nat.le_refl _) rfl rfl rfl (rest := []) rfl rfl (Nat.le_of_ble_eq_true rfl) (by decide +kernel) rfl rfl (st' := [jI r3.1]) rfl ?_
        refine B_blk B jlkX10_ok jcl_SKF [.istore_n 2, .iload_n 1] (by decide +kernel) (ls' := [(0, jR 74), (1, jI v1), (2, jI r3.1)]) (st' := [jI v1]) rfl (p1 := 28) rfl ?_
        refine J_if_ne B.1 (off := 7) (tgt := 35) (by decide +kernel) (by decide) hf (fun hf => ?_) (fun hf => ?_)
        · refine B_blk B jlkX10_ok jcl_SKF [.iload_n 2] (by decide +kernel) (ls' := [(0, jR 74), (1, jI v1), (2, jI r3.1)]) (st' := [jI r3.1]) rfl (p1 := 32) rfl ?_
          refine J_if_eq B.1 (off := 7) (tgt := 39) (by decide +kernel) (by decide) hf (fun hf => ?_) (fun hf => ?_)
          · refine B_blk B jlkX10_ok jcl_SKF [.iconst 0, .istore_n 1, .goto (-36)] (by decide +kernel) (ls' := [(0, jR 74), (1, jI 0), (2, jI r3.1)]) (st' := []) rfl (p1 := 5) rfl ?_
            refine J_pick [0, 1] (ls' := [(0, jR 74), (1, jI 0)]) rfl ?_
            exact ih 0 r3.2 _ hf hq
          · refine B_blk B jlkX10_ok jcl_SKF [.iconst 1, .goto 4, .istore_n 1, .goto (-36)] (by decide +kernel) (ls' := [(0, jR 74), (1, jI 1), (2, jI r3.1)]) (st' := []) rfl (p1 := 5) rfl ?_
            refine J_pick [0, 1] (ls' := [(0, jR 74), (1, jI 1)]) rfl ?_
            exact ih 1 r3.2 _ hf hq
        · refine B_blk B jlkX10_ok jcl_SKF [.iconst 1, .goto 4, .istore_n 1, .goto (-36)] (by decide +kernel) (ls' := [(0, jR 74), (1, jI 1), (2, jI r3.1)]) (st' := []) rfl (p1 := 5) rfl ?_
          refine J_pick [0, 1] (ls' := [(0, jR 74), (1, jI 1)]) rfl ?_
          exact ih 1 r3.2 _ hf hq
    · refine B_blk B jlkX10_ok jcl_SKF [.iload_n 1] (by decide +kernel) (ls' := [(0, jR 74), (1, jI v1)]) (st' := [jI v1]) rfl (p1 := 45) rfl ?_
      obtain ⟨gz, hf⟩ := jgd hf
      cases hf
      exact B_retZ B gz hq rfl (Nat.le_of_ble_eq_true rfl) (Nat.le_of_ble_eq_true rfl) (by decide +kernel)
theorem t_X10_some_3 {l : Launch} {G : jG} (hl : l.stackTraces = false) {m : jMu} {r : (Int × jMu)} (hf : f_X10_some (fr_X10_atom 3) m = some r) : jCt l G yX10_some (.code yX10_some cX10_some 3 (some .boolean) :: jWG) rm_X10_some_3 [jR 74] SKF m (.inl (some (jI r.1))) SKF r.2 := by
  unfold f_X10_some at hf
  refine J_start (ls0 := [(0, jR 74)]) (by decide +kernel) hl (Nat.le_of_ble_eq_true rfl) rfl fun X C hN hn hR hr hnm hno hq => ?_
  have B : jB X cX10_some RX10 3 SKF.length rm_X10_some_3 (some .boolean) := ⟨C, hN, Nat.le_of_eq hn, hR, hr⟩
  refine B_blk B jlkX10_ok jcl_SKF [.aload_n 0] (by decide +kernel) (ls' := [(0, jR 74)]) (st' := [jR 74]) rfl (p1 := 1) rfl ?_
  obtain ⟨r1, h1, hf⟩ := jbd hf
  refine B_callV B (Nat.le_refl _) (μ' := r1.2) (k' := 0) (n' := 0) ca_X10_every in_X10_every se_X10_every lk_X10_153 (t_X10_every_3 B.tr h1) (Nat.le_refl _) rfl rfl rfl (rest := []) rfl rfl (Nat.le_of_ble_eq_true rfl) (by decide +kernel) rfl rfl (st' := [jI r1.1]) rfl ?_
  refine B_blk B jlkX10_ok jcl_SKF [.istore_n 1] (by decide +kernel) (ls' := [(0, jR 74), (1, jI r1.1)]) (st' := []) rfl (p1 := 5) rfl ?_
  exact t_X10_some_L5_3 B jFU r1.1 r1.2 _ hf hq

def rm_X10_atom_4 : Room := { frames := 33, cells := 0, slots := 0, locals := 612 }
theorem t_X10_atom_J44_4 {X : jX} (B : jB X cX10_atom RX10 4 SKF.length rm_X10_atom_4 (some .boolean)) (v1 : Int) (v2 : Int) (m : jMu) (r : (Int × jMu)) (hf : f_X10_atom_J44 (fr_X10_atom 3) v1 v2 m = some r) (hq : jQ X (.inl (some (jI r.1))) SKF r.2 rm_X10_atom_4.cells rm_X10_atom_4.slots) : J X SKF m 0 0 44 [(0, jR 74), (1, jI v1), (2, jI v2)] [] := by
  unfold f_X10_atom_J44 at hf
  refine B_blk B jlkX10_ok jcl_SKF [.aload_n 0, .getfield 142, .bipush 6] (by decide +kernel) (ls' := [(0, jR 74), (1, jI v1), (2, jI v2)]) (st' := [jI 6, jI (m 74 10)]) rfl (p1 := 50) rfl ?_
  refine J_icmp_ne B.1 (off := 10) (tgt := 60) (by decide +kernel) (by decide) hf (fun hf => ?_) (fun hf => ?_)
  · refine B_blk B jlkX10_ok jcl_SKF [.aload_n 0, .iload_n 1] (by decide +kernel) (ls' := [(0, jR 74), (1, jI v1), (2, jI v2)]) (st' := [jI v1, jR 74]) rfl (p1 := 55) rfl ?_
    obtain ⟨r5, h5, hf⟩ := jbd hf
    refine B_callV B (Nat.le_refl _) (μ' := r5) (k' := 0) (n' := 0) ca_X10_wrong in_X10_wrong se_X10_wrong lk_X10_87 (t_X10_wrong B.tr h5) (Nat.le_refl _) rfl rfl rfl (rest := []) rfl rfl (Nat.le_of_ble_eq_true rfl) (by decide +kernel) rfl rfl (st' := []) rfl ?_
    refine B_blk B jlkX10_ok jcl_SKF [.iconst 0] (by decide +kernel) (ls' := [(0, jR 74), (1, jI v1), (2, jI v2)]) (st' := [jI 0]) rfl (p1 := 59) rfl ?_
    cases hf
    exact B_retZ B (Or.inl rfl) hq rfl (Nat.le_of_ble_eq_true rfl) (Nat.le_of_ble_eq_true rfl) (by decide +kernel)
  · refine B_blk B jlkX10_ok jcl_SKF [.aload_n 0, .dup, .getfield 142, .iconst 1, .iadd] (by decide +kernel) (ls' := [(0, jR 74), (1, jI v1), (2, jI v2)]) (st' := [jI (jW (m 74 10 + 1)), jR 74]) rfl (p1 := 67) rfl ?_
    refine K_putI (jI' := 10) B jp_X10_142 rfl rfl rfl (by decide +kernel) ?_
    obtain ⟨m6, hm6, hf⟩ := jlt_s hf
    rw [hm6]
    refine B_blk B jlkX10_ok jcl_SKF [.iconst 0, .istore_n 3, .iload_n 2] (by decide +kernel) (ls' := [(0, jR 74), (1, jI v1), (2, jI v2), (3, jI 0)]) (st' := [jI v2]) rfl (p1 := 73) rfl ?_
    refine J_if_eq B.1 (off := 19) (tgt := 92) (by decide +kernel) (by decide) hf (fun hf => ?_) (fun hf => ?_)
    · refine B_blk B jlkX10_ok jcl_SKF [.aload_n 0, .dup, .getfield 64, .iconst 1, .iadd] (by decide +kernel) (ls' := [(0, jR 74), (1, jI v1), (2, jI v2), (3, jI 0)]) (st' := [jI (jW (m6 74 8 + 1)), jR 74]) rfl (p1 := 99) rfl ?_
      refine K_putI (jI' := 8) B jp_X10_64 rfl rfl rfl (by decide +kernel) ?_
      obtain ⟨m7, hm7, hf⟩ := jlt_s hf
      rw [hm7]
      refine B_blk B jlkX10_ok jcl_SKF [.aload_n 0] (by decide +kernel) (ls' := [(0, jR 74), (1, jI v1), (2, jI v2), (3, jI 0)]) (st' := [jR 74]) rfl (p1 := 103) rfl ?_
      obtain ⟨r8, h8, hf⟩ := jbd hf
      refine B_callV B (Nat.le_refl _) (μ' := r8.2) (k' := 0) (n' := 0) ca_X10_some in_X10_some se_X10_some lk_X10_148 (t_X10_some_3 B.tr h8) (Nat.le_refl _) rfl rfl rfl (rest := []) rfl rfl (Nat.le_of_ble_eq_true rfl) (by decide +kernel) rfl rfl (st' := [jI r8.1]) rfl ?_
      refine B_blk B jlkX10_ok jcl_SKF [.istore_n 3, .aload_n 0, .getfield 19, .iconst (-1)] (by decide +kernel) (ls' := [(0, jR 74), (1, jI v1), (2, jI v2), (3, jI r8.1)]) (st' := [jI (-1), jI (r8.2 74 9)]) rfl (p1 := 112) rfl ?_
      refine J_icmp_ne B.1 (off := 20) (tgt := 132) (by decide +kernel) (by decide) hf (fun hf => ?_) (fun hf => ?_)
      · refine B_blk B jlkX10_ok jcl_SKF [.aload_n 0, .bipush 41] (by decide +kernel) (ls' := [(0, jR 74), (1, jI v1), (2, jI v2), (3, jI r8.1)]) (st' := [jI 41, jR 74]) rfl (p1 := 118) rfl ?_
        obtain ⟨r9, h9, hf⟩ := jbd hf
        refine B_callV B (Nat.le_refl _) (μ' := r9.2) (k' := 0) (n' := 0) ca_X10_isSign in_X10_isSign se_X10_isSign lk_X10_113 (t_X10_isSign B.tr h9) (Nat.le_refl _) rfl rfl rfl (rest := []) rfl rfl (Nat.le_of_ble_eq_true rfl) (by decide +kernel) rfl rfl (st' := [jI r9.1]) rfl ?_
        refine J_if_ne B.1 (off := 11) (tgt := 132) (by decide +kernel) (by decide) hf (fun hf => ?_) (fun hf => ?_)
        · refine B_blk B jlkX10_ok jcl_SKF [.aload_n 0, .aload_n 0, .getfield 64] (by decide +kernel) (ls' := [(0, jR 74), (1, jI v1), (2, jI v2), (3, jI r8.1)]) (st' := [jI (r9.2 74 8), jR 74]) rfl (p1 := 129) rfl ?_
          obtain ⟨r10, h10, hf⟩ := jbd hf
          refine B_callV B (Nat.le_refl _) (μ' := r10) (k' := 0) (n' := 0) ca_X10_wrong in_X10_wrong se_X10_wrong lk_X10_87 (t_X10_wrong B.tr h10) (Nat.le_refl _) rfl rfl rfl (rest := []) rfl rfl (Nat.le_of_ble_eq_true rfl) (by decide +kernel) rfl rfl (st' := []) rfl ?_
          refine B_blk B jlkX10_ok jcl_SKF [.aload_n 0, .dup, .getfield 64, .iconst 1, .iadd] (by decide +kernel) (ls' := [(0, jR 74), (1, jI v1), (2, jI v2), (3, jI r8.1)]) (st' := [jI (jW (r10 74 8 + 1)), jR 74]) rfl (p1 := 139) rfl ?_
          refine K_putI (jI' := 8) B jp_X10_64 rfl rfl rfl (by decide +kernel) ?_
          obtain ⟨m11, hm11, hf⟩ := jlt_s hf
          rw [hm11]
          refine B_blk B jlkX10_ok jcl_SKF [.aload_n 0, .dup, .getfield 142, .iconst 1, .isub] (by decide +kernel) (ls' := [(0, jR 74), (1, jI v1), (2, jI v2), (3, jI r8.1)]) (st' := [jI (jW (m11 74 10 - 1)), jR 74]) rfl (p1 := 149) rfl ?_
          refine K_putI (jI' := 10) B jp_X10_142 rfl rfl rfl (by decide +kernel) ?_
          obtain ⟨m12, hm12, hf⟩ := jlt_s hf
          rw [hm12]
          refine B_blk B jlkX10_ok jcl_SKF [.iload_n 3] (by decide +kernel) (ls' := [(0, jR 74), (1, jI v1), (2, jI v2), (3, jI r8.1)]) (st' := [jI r8.1]) rfl (p1 := 153) rfl ?_
          obtain ⟨gz, hf⟩ := jgd hf
          cases hf
          exact B_retZ B gz hq rfl (Nat.le_of_ble_eq_true rfl) (Nat.le_of_ble_eq_true rfl) (by decide +kernel)
        · refine B_blk B jlkX10_ok jcl_SKF [.aload_n 0, .dup, .getfield 64, .iconst 1, .iadd] (by decide +kernel) (ls' := [(0, jR 74), (1, jI v1), (2, jI v2), (3, jI r8.1)]) (st' := [jI (jW (r9.2 74 8 + 1)), jR 74]) rfl (p1 := 139) rfl ?_
          refine K_putI (jI' := 8) B jp_X10_64 rfl rfl rfl (by decide +kernel) ?_
          obtain ⟨m13, hm13, hf⟩ := jlt_s hf
          rw [hm13]
          refine B_blk B jlkX10_ok jcl_SKF [.aload_n 0, .dup, .getfield 142, .iconst 1, .isub] (by decide +kernel) (ls' := [(0, jR 74), (1, jI v1), (2, jI v2), (3, jI r8.1)]) (st' := [jI (jW (m13 74 10 - 1)), jR 74]) rfl (p1 := 149) rfl ?_
          refine K_putI (jI' := 10) B jp_X10_142 rfl rfl rfl (by decide +kernel) ?_
          obtain ⟨m14, hm14, hf⟩ := jlt_s hf
          rw [hm14]
          refine B_blk B jlkX10_ok jcl_SKF [.iload_n 3] (by decide +kernel) (ls' := [(0, jR 74), (1, jI v1), (2, jI v2), (3, jI r8.1)]) (st' := [jI r8.1]) rfl (p1 := 153) rfl ?_
          obtain ⟨gz, hf⟩ := jgd hf
          cases hf
          exact B_retZ B gz hq rfl (Nat.le_of_ble_eq_true rfl) (Nat.le_of_ble_eq_true rfl) (by decide +kernel)
      · refine B_blk B jlkX10_ok jcl_SKF [.aload_n 0, .dup, .getfield 64, .iconst 1, .iadd] (by decide +kernel) (ls' := [(0, jR 74), (1, jI v1), (2, jI v2), (3, jI r8.1)]) (st' := [jI (jW (r8.2 74 8 + 1)), jR 74]) rfl (p1 := 139) rfl ?_
        refine K_putI (jI' := 8) B jp_X10_64 rfl rfl rfl (by decide +kernel) ?_
        obtain ⟨m15, hm15, hf⟩ := jlt_s hf
        rw [hm15]
        refine B_blk B jlkX10_ok jcl_SKF [.aload_n 0, .dup, .getfield 142, .iconst 1, .isub] (by decide +kernel) (ls' := [(0, jR 74), (1, jI v1), (2, jI v2), (3, jI r8.1)]) (st' := [jI (jW (m15 74 10 - 1)), jR 74]) rfl (p1 := 149) rfl ?_
        refine K_putI (jI' := 10) B jp_X10_142 rfl rfl rfl (by decide +kernel) ?_
        obtain ⟨m16, hm16, hf⟩ := jlt_s hf
        rw [hm16]
        refine B_blk B jlkX10_ok jcl_SKF [.iload_n 3] (by decide +kernel) (ls' := [(0, jR 74), (1, jI v1), (2, jI v2), (3, jI r8.1)]) (st' := [jI r8.1]) rfl (p1 := 153) rfl ?_
        obtain ⟨gz, hf⟩ := jgd hf
        cases hf
        exact B_retZ B gz hq rfl (Nat.le_of_ble_eq_true rfl) (Nat.le_of_ble_eq_true rfl) (by decide +kernel)
    · refine B_blk B jlkX10_ok jcl_SKF [.aload_n 0] (by decide +kernel) (ls' := [(0, jR 74), (1, jI v1), (2, jI v2), (3, jI 0)]) (st' := [jR 74]) rfl (p1 := 77) rfl ?_
      obtain ⟨r17, h17, hf⟩ := jbd hf
      refine B_callV B (Nat.le_refl _) (μ' := r17.2) (k' := 0) (n' := 0) ca_X10_atom in_X10_atom se_X10_atom lk_X10_145 (t_X10_atom_3 B.tr h17) (Nat.le_refl _) rfl rfl rfl (rest := []) rfl rfl (Nat.le_of_ble_eq_true rfl) (by decide +kernel) rfl rfl (st' := [jI r17.1]) rfl ?_
      refine J_if_ne B.1 (off := 7) (tgt := 87) (by decide +kernel) (by decide) hf (fun hf => ?_) (fun hf => ?_)
      · refine B_blk B jlkX10_ok jcl_SKF [.iconst 1, .goto 4, .istore_n 3, .goto 53, .aload_n 0, .dup, .getfield 142, .iconst 1, .isub] (by decide +kernel) (ls' := [(0, jR 74), (1, jI v1), (2, jI v2), (3, jI 1)]) (st' := [jI (jW (r17.2 74 10 - 1)), jR 74]) rfl (p1 := 149) rfl ?_
        refine K_putI (jI' := 10) B jp_X10_142 rfl rfl rfl (by decide +kernel) ?_
        obtain ⟨m18, hm18, hf⟩ := jlt_s hf
        rw [hm18]
        refine B_blk B jlkX10_ok jcl_SKF [.iload_n 3] (by decide +kernel) (ls' := [(0, jR 74), (1, jI v1), (2, jI v2), (3, jI 1)]) (st' := [jI 1]) rfl (p1 := 153) rfl ?_
        cases hf
        exact B_retZ B (Or.inr rfl) hq rfl (Nat.le_of_ble_eq_true rfl) (Nat.le_of_ble_eq_true rfl) (by decide +kernel)
      · refine B_blk B jlkX10_ok jcl_SKF [.iconst 0, .istore_n 3, .goto 53, .aload_n 0, .dup, .getfield 142, .iconst 1, .isub] (by decide +kernel) (ls' := [(0, jR 74), (1, jI v1), (2, jI v2), (3, jI 0)]) (st' := [jI (jW (r17.2 74 10 - 1)), jR 74]) rfl (p1 := 149) rfl ?_
        refine K_putI (jI' := 10) B jp_X10_142 rfl rfl rfl (by decide +kernel) ?_
        obtain ⟨m19, hm19, hf⟩ := jlt_s hf
        rw [hm19]
        refine B_blk B jlkX10_ok jcl_SKF [.iload_n 3] (by decide +kernel) (ls' := [(0, jR 74), (1, jI v1), (2, jI v2), (3, jI 0)]) (st' := [jI 0]) rfl (p1 := 153) rfl ?_
        cases hf
        exact B_retZ B (Or.inl rfl) hq rfl (Nat.le_of_ble_eq_true rfl) (Nat.le_of_ble_eq_true rfl) (by decide +kernel)
theorem t_X10_atom_4 {l : Launch} {G : jG} (hl : l.stackTraces = false) {m : jMu} {r : (Int × jMu)} (hf : fr_X10_atom 4 m = some r) : jCt l G yX10_atom (.code yX10_atom cX10_atom 4 (some .boolean) :: jWG) rm_X10_atom_4 [jR 74] SKF m (.inl (some (jI r.1))) SKF r.2 := by
  rw [fr_X10_atom] at hf
  unfold f_X10_atom at hf
  refine J_start (ls0 := [(0, jR 74)]) (by decide +kernel) hl (Nat.le_of_ble_eq_true rfl) rfl fun X C hN hn hR hr hnm hno hq => ?_
  have B : jB X cX10_atom RX10 4 SKF.length rm_X10_atom_4 (some .boolean) := ⟨C, hN, Nat.le_of_eq hn, hR, hr⟩
  refine B_blk B jlkX10_ok jcl_SKF [.aload_n 0, .getfield 19, .iconst (-1)] (by decide +kernel) (ls' := [(0, jR 74)]) (st' := [jI (-1), jI (m 74 9)]) rfl (p1 := 5) rfl ?_
  refine J_icmp_eq B.1 (off := 5) (tgt := 10) (by decide +kernel) (by decide) hf (fun hf => ?_) (fun hf => ?_)
  · refine B_blk B jlkX10_ok jcl_SKF [.aload_n 0] (by decide +kernel) (ls' := [(0, jR 74)]) (st' := [jR 74]) rfl (p1 := 11) rfl ?_
    obtain ⟨r1, h1, hf⟩ := jbd hf
    refine B_callV B (Nat.le_refl _) (μ' := r1) (k' := 0) (n' := 0) ca_X10_skip in_X10_skip se_X10_skip lk_X10_74 (t_X10_skip B.tr h1) (Nat.le_refl _) rfl rfl rfl (rest := []) rfl rfl (Nat.le_of_ble_eq_true rfl) (by decide +kernel) rfl rfl (st' := []) rfl ?_
    refine B_blk B jlkX10_ok jcl_SKF [.aload_n 0, .getfield 64, .istore_n 1, .aload_n 0] (by decide +kernel) (ls' := [(0, jR 74), (1, jI (r1 74 8))]) (st' := [jR 74]) rfl (p1 := 20) rfl ?_
    refine J_ldcS (i := 7) (r := jXK + 7) B.1 rfl rfl (by decide) (by decide +kernel) ?_
    obtain ⟨r2, h2, hf⟩ := jbd hf
    refine B_callV B (Nat.le_refl _) (μ' := r2.2) (k' := 0) (n' := 0) ca_X10_has in_X10_has se_X10_has lk_X10_96 (t_X10_has B.tr (by decide) h2) (Nat.le_refl _) rfl rfl rfl (rest := []) rfl rfl (Nat.le_of_ble_eq_true rfl) (by decide +kernel) rfl rfl (st' := [jI r2.1]) rfl ?_
    refine B_blk B jlkX10_ok jcl_SKF [.istore_n 2, .iload_n 2] (by decide +kernel) (ls' := [(0, jR 74), (1, jI (r1 74 8)), (2, jI r2.1)]) (st' := [jI r2.1]) rfl (p1 := 27) rfl ?_
    refine J_if_ne B.1 (off := 17) (tgt := 44) (by decide +kernel) (by decide) hf (fun hf => ?_) (fun hf => ?_)
    · refine B_blk B jlkX10_ok jcl_SKF [.aload_n 0, .bipush 40] (by decide +kernel) (ls' := [(0, jR 74), (1, jI (r1 74 8)), (2, jI r2.1)]) (st' := [jI 40, jR 74]) rfl (p1 := 33) rfl ?_
      obtain ⟨r3, h3, hf⟩ := jbd hf
      refine B_callV B (Nat.le_refl _) (μ' := r3.2) (k' := 0) (n' := 0) ca_X10_isSign in_X10_isSign se_X10_isSign lk_X10_113 (t_X10_isSign B.tr h3) (Nat.le_refl _) rfl rfl rfl (rest := []) rfl rfl (Nat.le_of_ble_eq_true rfl) (by decide +kernel) rfl rfl (st' := [jI r3.1]) rfl ?_
      refine J_if_ne B.1 (off := 8) (tgt := 44) (by decide +kernel) (by decide) hf (fun hf => ?_) (fun hf => ?_)
      · refine B_blk B jlkX10_ok jcl_SKF [.aload_n 0] (by decide +kernel) (ls' := [(0, jR 74), (1, jI (r1 74 8)), (2, jI r2.1)]) (st' := [jR 74]) rfl (p1 := 40) rfl ?_
        obtain ⟨r4, h4, hf⟩ := jbd hf
        refine B_callV B (Nat.le_refl _) (μ' := r4.2) (k' := 0) (n' := 0) ca_X10_plain in_X10_plain se_X10_plain lk_X10_138 (t_X10_plain B.tr h4) (Nat.le_refl _) rfl rfl rfl (rest := []) rfl rfl (Nat.le_of_ble_eq_true rfl) (by decide +kernel) rfl rfl (st' := [jI r4.1]) rfl ?_
        obtain ⟨gz, hf⟩ := jgd hf
        cases hf
        exact B_retZ B gz hq rfl (Nat.le_of_ble_eq_true rfl) (Nat.le_of_ble_eq_true rfl) (by decide +kernel)
      · exact t_X10_atom_J44_4 B (r1 74 8) r2.1 r3.2 _ hf hq
    · exact t_X10_atom_J44_4 B (r1 74 8) r2.1 r2.2 _ hf hq
  · refine B_blk B jlkX10_ok jcl_SKF [.iconst 0] (by decide +kernel) (ls' := [(0, jR 74)]) (st' := [jI 0]) rfl (p1 := 9) rfl ?_
    cases hf
    exact B_retZ B (Or.inl rfl) hq rfl (Nat.le_of_ble_eq_true rfl) (Nat.le_of_ble_eq_true rfl) (by decide +kernel)

def rm_X10_every_4 : Room := { frames := 35, cells := 0, slots := 0, locals := 635 }
theorem t_X10_every_L5_4 {X : jX} (B : jB X cX10_every RX10 3 SKF.length rm_X10_every_4 (some .boolean)) : ∀ (q : Nat) (v1 : Int) (m : jMu) (r : (Int × jMu)), f_X10_every_L5 (fr_X10_atom 4) q v1 m = some r → jQ X (.inl (some (jI r.1))) SKF r.2 rm_X10_every_4.cells rm_X10_every_4.slots → J X SKF m 0 0 5 [(0, jR 74), (1, jI v1)] [] := by
  intro q
  induction q with
  | zero =>
    intro v1 m r hf
    rw [f_X10_every_L5] at hf
    cases hf
  | succ q ih =>
    intro v1 m r hf hq
    rw [f_X10_every_L5] at hf
    refine B_blk B jlkX10_ok jcl_SKF [.aload_n 0, .getfield 19, .iconst (-1)] (by decide +kernel) (ls' := [(0, jR 74), (1, jI v1)]) (st' := [jI (-1), jI (m 74 9)]) rfl (p1 := 10) rfl ?_
    refine J_icmp_ne B.1 (off := 34) (tgt := 44) (by decide +kernel) (by decide) hf (fun hf => ?_) (fun hf => ?_)
    · refine B_blk B jlkX10_ok jcl_SKF [.aload_n 0] (by decide +kernel) (ls' := [(0, jR 74), (1, jI v1)]) (st' := [jR 74]) rfl (p1 := 14) rfl ?_
      refine J_ldcS (i := 17) (r := jXK + 17) B.1 rfl rfl (by decide) (by decide +kernel) ?_
      obtain ⟨r2, h2, hf⟩ := jbd hf
      refine B_callV B (Nat.le_refl _) (μ' := r2.2) (k' := 0) (n' := 0) ca_X10_has in_X10_has se_X10_has lk_X10_96 (t_X10_has B.tr (by decide) h2) (Nat.le_refl _) rfl rfl rfl (rest := []) rfl rfl (Nat.le_of_ble_eq_true rfl) (by decide +kernel) rfl rfl (st' := [jI r2.1]) rfl ?_
      refine J_if_eq B.1 (off := 25) (tgt := 44) (by decide +kernel) (by decide) hf (fun hf => ?_) (fun hf => ?_)
      · refine B_blk B jlkX10_ok jcl_SKF [.iload_n 1] (by decide +kernel) (ls' := [(0, jR 74), (1, jI v1)]) (st' := [jI v1]) rfl (p1 := 45) rfl ?_
        obtain ⟨gz, hf⟩ := jgd hf
        cases hf
        exact B_retZ B gz hq rfl (Nat.le_of_ble_eq_true rfl) (Nat.le_of_ble_eq_true rfl) (by decide +kernel)
      · refine B_blk B jlkX10_ok jcl_SKF [.aload_n 0] (by decide +kernel) (ls' := [(0, jR 74), (1, jI v1)]) (st' := [jR 74]) rfl (p1 := 23) rfl ?_
        obtain ⟨r3, h3, hf⟩ := jbd hf
        refine B_callV B (Nat.le_refl _) (μ' := r3.2) (k' := 0) (n' := 0) ca_X10_atom in_X10_atom se_X10_atom lk_X10_145 (t_X10_atom_4 B.tr h3) (Nat.le_refl _) rfl rfl rfl (rest := []) rfl rfl (Nat.le_of_ble_eq_true rfl) (by decide +kernel) rfl rfl (st' := [jI r3.1]) rfl ?_
        refine B_blk B jlkX10_ok jcl_SKF [.istore_n 2, .iload_n 1] (by decide +kernel) (ls' := [(0, jR 74), (1, jI v1), (2, jI r3.1)]) (st' := [jI v1]) rfl (p1 := 28) rfl ?_
        refine J_if_eq B.1 (off := 11) (tgt := 39) (by decide +kernel) (by decide) hf (fun hf => ?_) (fun hf => ?_)
        · refine B_blk B jlkX10_ok jcl_SKF [.iconst 0, .istore_n 1, .goto (-36)] (by decide +kernel) (ls' := [(0, jR 74), (1, jI 0), (2, jI r3.1)]) (st' := []) rfl (p1 := 5) rfl ?_
          refine J_pick [0, 1] (ls' := [(0, jR 74), (1, jI 0)]) rfl ?_
          exact ih 0 r3.2 _ hf hq
        · refine B_blk B jlkX10_ok jcl_SKF [.iload_n 2] (by decide +kernel) (ls' := [(0, jR 74), (1, jI v1), (2, jI r3.1)]) (st' := [jI r3.1]) rfl (p1 := 32) rfl ?_
          refine J_if_eq B.1 (off := 7) (tgt := 39) (by decide +kernel) (by decide) hf (fun hf => ?_) (fun hf => ?_)
          · refine B_blk B jlkX10_ok jcl_SKF [.iconst 0, .istore_n 1, .goto (-36)] (by decide +kernel) (ls' := [(0, jR 74), (1, jI 0), (2, jI r3.1)]) (st' := []) rfl (p1 := 5) rfl ?_
            refine J_pick [0, 1] (ls' := [(0, jR 74), (1, jI 0)]) rfl ?_
            exact ih 0 r3.2 _ hf hq
          · refine B_blk B jlkX10_ok jcl_SKF [.iconst 1, .goto 4, .istore_n 1, .goto (-36)] (by decide +kernel) (ls' := [(0, jR 74), (1, jI 1), (2, jI r3.1)]) (st' := []) rfl (p1 := 5) rfl ?_
            refine J_pick [0, 1] (ls' := [(0, jR 74), (1, jI 1)]) rfl ?_
            exact ih 1 r3.2 _ hf hq
    · refine B_blk B jlkX10_ok jcl_SKF [.iload_n 1] (by decide +kernel) (ls' := [(0, jR 74), (1, jI v1)]) (st' := [jI v1]) rfl (p1 := 45) rfl ?_
      obtain ⟨gz, hf⟩ := jgd hf
      cases hf
      exact B_retZ B gz hq rfl (Nat.le_of_ble_eq_true rfl) (Nat.le_of_ble_eq_true rfl) (by decide +kernel)
theorem t_X10_every_4 {l : Launch} {G : jG} (hl : l.stackTraces = false) {m : jMu} {r : (Int × jMu)} (hf : f_X10_every (fr_X10_atom 4) m = some r) : jCt l G yX10_every (.code yX10_every cX10_every 3 (some .boolean) :: jWG) rm_X10_every_4 [jR 74] SKF m (.inl (some (jI r.1))) SKF r.2 := by
  unfold f_X10_every at hf
  refine J_start (ls0 := [(0, jR 74)]) (by decide +kernel) hl (Nat.le_of_ble_eq_true rfl) rfl fun X C hN hn hR hr hnm hno hq => ?_
  have B : jB X cX10_every RX10 3 SKF.length rm_X10_every_4 (some .boolean) := ⟨C, hN, Nat.le_of_eq hn, hR, hr⟩
  refine B_blk B jlkX10_ok jcl_SKF [.aload_n 0] (by decide +kernel) (ls' := [(0, jR 74)]) (st' := [jR 74]) rfl (p1 := 1) rfl ?_
  obtain ⟨r1, h1, hf⟩ := jbd hf
  refine B_callV B (Nat.le_refl _) (μ' := r1.2) (k' := 0) (n' := 0) ca_X10_atom in_X10_atom se_X10_atom lk_X10_145 (t_X10_atom_4 B.tr h1) (Nat.le_refl _) rfl rfl rfl (rest := []) rfl rfl (Nat.le_of_ble_eq_true rfl) (by decide +kernel) rfl rfl (st' := [jI r1.1]) rfl ?_
  refine B_blk B jlkX10_ok jcl_SKF [.istore_n 1] (by decide +kernel) (ls' := [(0, jR 74), (1, jI r1.1)]) (st' := []) rfl (p1 := 5) rfl ?_
  exact t_X10_every_L5_4 B jFU r1.1 r1.2 _ hf hq

def rm_X10_some_4 : Room := { frames := 37, cells := 0, slots := 0, locals := 657 }
theorem t_X10_some_L5_4 {X : jX} (B : jB X cX10_some RX10 3 SKF.length rm_X10_some_4 (some .boolean)) : ∀ (q : Nat) (v1 : Int) (m : jMu) (r : (Int × jMu)), f_X10_some_L5 (fr_X10_atom 4) q v1 m = some r → jQ X (.inl (some (jI r.1))) SKF r.2 rm_X10_some_4.cells rm_X10_some_4.slots → J X SKF m 0 0 5 [(0, jR 74), (1, jI v1)] [] := by
  intro q
  induction q with
  | zero =>
    intro v1 m r hf
    rw [f_X10_some_L5] at hf
    cases hf
  | succ q ih =>
    intro v1 m r hf hq
    rw [f_X10_some_L5] at hf
    refine B_blk B jlkX10_ok jcl_SKF [.aload_n 0, .getfield 19, .iconst (-1)] (by decide +kernel) (ls' := [(0, jR 74), (1, jI v1)]) (st' := [jI (-1), jI (m 74 9)]) rfl (p1 := 10) rfl ?_
    refine J_icmp_ne B.1 (off := 34) (tgt := 44) (by decide +kernel) (by decide) hf (fun hf => ?_) (fun hf => ?_)
    · refine B_blk B jlkX10_ok jcl_SKF [.aload_n 0] (by decide +kernel) (ls' := [(0, jR 74), (1, jI v1)]) (st' := [jR 74]) rfl (p1 := 14) rfl ?_
      refine J_ldcS (i := 18) (r := jXK + 18) B.1 rfl rfl (by decide) (by decide +kernel) ?_
      obtain ⟨r2, h2, hf⟩ := jbd hf
      refine B_callV B (Nat.le_refl _) (μ' := r2.2) (k' := 0) (n' := 0) ca_X10_has in_X10_has se_X10_has lk_X10_96 (t_X10_has B.tr (by decide) h2) (Nat.le_refl _) rfl rfl rfl (rest := []) rfl rfl (Nat.le_of_ble_eq_true rfl) (by decide +kernel) rfl rfl (st' := [jI r2.1]) rfl ?_
      refine J_if_eq B.1 (off := 25) (tgt := 44) (by decide +kernel) (by decide) hf (fun hf => ?_) (fun hf => ?_)
      · refine B_blk B jlkX10_ok jcl_SKF [.iload_n 1] (by decide +kernel) (ls' := [(0, jR 74), (1, jI v1)]) (st' := [jI v1]) rfl (p1 := 45) rfl ?_
        obtain ⟨gz, hf⟩ := jgd hf
        cases hf
        exact B_retZ B gz hq rfl (Nat.le_of_ble_eq_true rfl) (Nat.le_of_ble_eq_true rfl) (by decide +kernel)
      · refine B_blk B jlkX10_ok jcl_SKF [.aload_n 0] (by decide +kernel) (ls' := [(0, jR 74), (1, jI v1)]) (st' := [jR 74]) rfl (p1 := 23) rfl ?_
        obtain ⟨r3, h3, hf⟩ := jbd hf
        refine B_callV B (Nat.le_refl _) (μ' := r3.2) (k' := 0) (n' := 0) ca_X10_every in_X10_every se_X10_every lk_X10_153 (t_X10_every_4 B.tr h3) (Nat.le_refl _) rfl rfl rfl (rest := []) rfl rfl (Nat.le_of_ble_eq_true rfl) (by decide +kernel) rfl rfl (st' := [jI r3.1]) rfl ?_
        refine B_blk B jlkX10_ok jcl_SKF [.istore_n 2, .iload_n 1] (by decide +kernel) (ls' := [(0, jR 74), (1, jI v1), (2, jI r3.1)]) (st' := [jI v1]) rfl (p1 := 28) rfl ?_
        refine J_if_ne B.1 (off := 7) (tgt := 35) (by decide +kernel) (by decide) hf (fun hf => ?_) (fun hf => ?_)
        · refine B_blk B jlkX10_ok jcl_SKF [.iload_n 2] (by decide +kernel) (ls' := [(0, jR 74), (1, jI v1), (2, jI r3.1)]) (st' := [jI r3.1]) rfl (p1 := 32) rfl ?_
          refine J_if_eq B.1 (off := 7) (tgt := 39) (by decide +kernel) (by decide) hf (fun hf => ?_) (fun hf => ?_)
          · refine B_blk B jlkX10_ok jcl_SKF [.iconst 0, .istore_n 1, .goto (-36)] (by decide +kernel) (ls' := [(0, jR 74), (1, jI 0), (2, jI r3.1)]) (st' := []) rfl (p1 := 5) rfl ?_
            refine J_pick [0, 1] (ls' := [(0, jR 74), (1, jI 0)]) rfl ?_
            exact ih 0 r3.2 _ hf hq
          · refine B_blk B jlkX10_ok jcl_SKF [.iconst 1, .goto 4, .istore_n 1, .goto (-36)] (by decide +kernel) (ls' := [(0, jR 74), (1, jI 1), (2, jI r3.1)]) (st' := []) rfl (p1 := 5) rfl ?_
            refine J_pick [0, 1] (ls' := [(0, jR 74), (1, jI 1)]) rfl ?_
            exact ih 1 r3.2 _ hf hq
        · refine B_blk B jlkX10_ok jcl_SKF [.iconst 1, .goto 4, .istore_n 1, .goto (-36)] (by decide +kernel) (ls' := [(0, jR 74), (1, jI 1), (2, jI r3.1)]) (st' := []) rfl (p1 := 5) rfl ?_
          refine J_pick [0, 1] (ls' := [(0, jR 74), (1, jI 1)]) rfl ?_
          exact ih 1 r3.2 _ hf hq
    · refine B_blk B jlkX10_ok jcl_SKF [.iload_n 1] (by decide +kernel) (ls' := [(0, jR 74), (1, jI v1)]) (st' := [jI v1]) rfl (p1 := 45) rfl ?_
      obtain ⟨gz, hf⟩ := jgd hf
      cases hf
      exact B_retZ B gz hq rfl (Nat.le_of_ble_eq_true rfl) (Nat.le_of_ble_eq_true rfl) (by decide +kernel)
theorem t_X10_some_4 {l : Launch} {G : jG} (hl : l.stackTraces = false) {m : jMu} {r : (Int × jMu)} (hf : f_X10_some (fr_X10_atom 4) m = some r) : jCt l G yX10_some (.code yX10_some cX10_some 3 (some .boolean) :: jWG) rm_X10_some_4 [jR 74] SKF m (.inl (some (jI r.1))) SKF r.2 := by
  unfold f_X10_some at hf
  refine J_start (ls0 := [(0, jR 74)]) (by decide +kernel) hl (Nat.le_of_ble_eq_true rfl) rfl fun X C hN hn hR hr hnm hno hq => ?_
  have B : jB X cX10_some RX10 3 SKF.length rm_X10_some_4 (some .boolean) := ⟨C, hN, Nat.le_of_eq hn, hR, hr⟩
  refine B_blk B jlkX10_ok jcl_SKF [.aload_n 0] (by decide +kernel) (ls' := [(0, jR 74)]) (st' := [jR 74]) rfl (p1 := 1) rfl ?_
  obtain ⟨r1, h1, hf⟩ := jbd hf
  refine B_callV B (Nat.le_refl _) (μ' := r1.2) (k' := 0) (n' := 0) ca_X10_every in_X10_every se_X10_every lk_X10_153 (t_X10_every_4 B.tr h1) (Nat.le_refl _) rfl rfl rfl (rest := []) rfl rfl (Nat.le_of_ble_eq_true rfl) (by decide +kernel) rfl rfl (st' := [jI r1.1]) rfl ?_
  refine B_blk B jlkX10_ok jcl_SKF [.istore_n 1] (by decide +kernel) (ls' := [(0, jR 74), (1, jI r1.1)]) (st' := []) rfl (p1 := 5) rfl ?_
  exact t_X10_some_L5_4 B jFU r1.1 r1.2 _ hf hq

def rm_X10_atom_5 : Room := { frames := 39, cells := 0, slots := 0, locals := 679 }
theorem t_X10_atom_J44_5 {X : jX} (B : jB X cX10_atom RX10 4 SKF.length rm_X10_atom_5 (some .boolean)) (v1 : Int) (v2 : Int) (m : jMu) (r : (Int × jMu)) (hf : f_X10_atom_J44 (fr_X10_atom 4) v1 v2 m = some r) (hq : jQ X (.inl (some (jI r.1))) SKF r.2 rm_X10_atom_5.cells rm_X10_atom_5.slots) : J X SKF m 0 0 44 [(0, jR 74), (1, jI v1), (2, jI v2)] [] := by
  unfold f_X10_atom_J44 at hf
  refine B_blk B jlkX10_ok jcl_SKF [.aload_n 0, .getfield 142, .bipush 6] (by decide +kernel) (ls' := [(0, jR 74), (1, jI v1), (2, jI v2)]) (st' := [jI 6, jI (m 74 10)]) rfl (p1 := 50) rfl ?_
  refine J_icmp_ne B.1 (off := 10) (tgt := 60) (by decide +kernel) (by decide) hf (fun hf => ?_) (fun hf => ?_)
  · refine B_blk B jlkX10_ok jcl_SKF [.aload_n 0, .iload_n 1] (by decide +kernel) (ls' := [(0, jR 74), (1, jI v1), (2, jI v2)]) (st' := [jI v1, jR 74]) rfl (p1 := 55) rfl ?_
    obtain ⟨r5, h5, hf⟩ := jbd hf
    refine B_callV B (Nat.le_refl _) (μ' := r5) (k' := 0) (n' := 0) ca_X10_wrong in_X10_wrong se_X10_wrong lk_X10_87 (t_X10_wrong B.tr h5) (Nat.le_refl _) rfl rfl rfl (rest := []) rfl rfl (Nat.le_of_ble_eq_true rfl) (by decide +kernel) rfl rfl (st' := []) rfl ?_
    refine B_blk B jlkX10_ok jcl_SKF [.iconst 0] (by decide +kernel) (ls' := [(0, jR 74), (1, jI v1), (2, jI v2)]) (st' := [jI 0]) rfl (p1 := 59) rfl ?_
    cases hf
    exact B_retZ B (Or.inl rfl) hq rfl (Nat.le_of_ble_eq_true rfl) (Nat.le_of_ble_eq_true rfl) (by decide +kernel)
  · refine B_blk B jlkX10_ok jcl_SKF [.aload_n 0, .dup, .getfield 142, .iconst 1, .iadd] (by decide +kernel) (ls' := [(0, jR 74), (1, jI v1), (2, jI v2)]) (st' := [jI (jW (m 74 10 + 1)), jR 74]) rfl (p1 := 67) rfl ?_
    refine K_putI (jI' := 10) B jp_X10_142 rfl rfl rfl (by decide +kernel) ?_
    obtain ⟨m6, hm6, hf⟩ := jlt_s hf
    rw [hm6]
    refine B_blk B jlkX10_ok jcl_SKF [.iconst 0, .istore_n 3, .iload_n 2] (by decide +kernel) (ls' := [(0, jR 74), (1, jI v1), (2, jI v2), (3, jI 0)]) (st' := [jI v2]) rfl (p1 := 73) rfl ?_
    refine J_if_eq B.1 (off := 19) (tgt := 92) (by decide +kernel) (by decide) hf (fun hf => ?_) (fun hf => ?_)
    · refine B_blk B jlkX10_ok jcl_SKF [.aload_n 0, .dup, .getfield 64, .iconst 1, .iadd] (by decide +kernel) (ls' := [(0, jR 74), (1, jI v1), (2, jI v2), (3, jI 0)]) (st' := [jI (jW (m6 74 8 + 1)), jR 74]) rfl (p1 := 99) rfl ?_
      refine K_putI (jI' := 8) B jp_X10_64 rfl rfl rfl (by decide +kernel) ?_
      obtain ⟨m7, hm7, hf⟩ := jlt_s hf
      rw [hm7]
      refine B_blk B jlkX10_ok jcl_SKF [.aload_n 0] (by decide +kernel) (ls' := [(0, jR 74), (1, jI v1), (2, jI v2), (3, jI 0)]) (st' := [jR 74]) rfl (p1 := 103) rfl ?_
      obtain ⟨r8, h8, hf⟩ := jbd hf
      refine B_callV B (Nat.le_refl _) (μ' := r8.2) (k' := 0) (n' := 0) ca_X10_some in_X10_some se_X10_some lk_X10_148 (t_X10_some_4 B.tr h8) (Nat.le_refl _) rfl rfl rfl (rest := []) rfl rfl (Nat.le_of_ble_eq_true rfl) (by decide +kernel) rfl rfl (st' := [jI r8.1]) rfl ?_
      refine B_blk B jlkX10_ok jcl_SKF [.istore_n 3, .aload_n 0, .getfield 19, .iconst (-1)] (by decide +kernel) (ls' := [(0, jR 74), (1, jI v1), (2, jI v2), (3, jI r8.1)]) (st' := [jI (-1), jI (r8.2 74 9)]) rfl (p1 := 112) rfl ?_
      refine J_icmp_ne B.1 (off := 20) (tgt := 132) (by decide +kernel) (by decide) hf (fun hf => ?_) (fun hf => ?_)
      · refine B_blk B jlkX10_ok jcl_SKF [.aload_n 0, .bipush 41] (by decide +kernel) (ls' := [(0, jR 74), (1, jI v1), (2, jI v2), (3, jI r8.1)]) (st' := [jI 41, jR 74]) rfl (p1 := 118) rfl ?_
        obtain ⟨r9, h9, hf⟩ := jbd hf
        refine B_callV B (Nat.le_refl _) (μ' := r9.2) (k' := 0) (n' := 0) ca_X10_isSign in_X10_isSign se_X10_isSign lk_X10_113 (t_X10_isSign B.tr h9) (Nat.le_refl _) rfl rfl rfl (rest := []) rfl rfl (Nat.le_of_ble_eq_true rfl) (by decide +kernel) rfl rfl (st' := [jI r9.1]) rfl ?_
        refine J_if_ne B.1 (off := 11) (tgt := 132) (by decide +kernel) (by decide) hf (fun hf => ?_) (fun hf => ?_)
        · refine B_blk B jlkX10_ok jcl_SKF [.aload_n 0, .aload_n 0, .getfield 64] (by decide +kernel) (ls' := [(0, jR 74), (1, jI v1), (2, jI v2), (3, jI r8.1)]) (st' := [jI (r9.2 74 8), jR 74]) rfl (p1 := 129) rfl ?_
          obtain ⟨r10, h10, hf⟩ := jbd hf
          refine B_callV B (Nat.le_refl _) (μ' := r10) (k' := 0) (n' := 0) ca_X10_wrong in_X10_wrong se_X10_wrong lk_X10_87 (t_X10_wrong B.tr h10) (Nat.le_refl _) rfl rfl rfl (rest := []) rfl rfl (Nat.le_of_ble_eq_true rfl) (by decide +kernel) rfl rfl (st' := []) rfl ?_
          refine B_blk B jlkX10_ok jcl_SKF [.aload_n 0, .dup, .getfield 64, .iconst 1, .iadd] (by decide +kernel) (ls' := [(0, jR 74), (1, jI v1), (2, jI v2), (3, jI r8.1)]) (st' := [jI (jW (r10 74 8 + 1)), jR 74]) rfl (p1 := 139) rfl ?_
          refine K_putI (jI' := 8) B jp_X10_64 rfl rfl rfl (by decide +kernel) ?_
          obtain ⟨m11, hm11, hf⟩ := jlt_s hf
          rw [hm11]
          refine B_blk B jlkX10_ok jcl_SKF [.aload_n 0, .dup, .getfield 142, .iconst 1, .isub] (by decide +kernel) (ls' := [(0, jR 74), (1, jI v1), (2, jI v2), (3, jI r8.1)]) (st' := [jI (jW (m11 74 10 - 1)), jR 74]) rfl (p1 := 149) rfl ?_
          refine K_putI (jI' := 10) B jp_X10_142 rfl rfl rfl (by decide +kernel) ?_
          obtain ⟨m12, hm12, hf⟩ := jlt_s hf
          rw [hm12]
          refine B_blk B jlkX10_ok jcl_SKF [.iload_n 3] (by decide +kernel) (ls' := [(0, jR 74), (1, jI v1), (2, jI v2), (3, jI r8.1)]) (st' := [jI r8.1]) rfl (p1 := 153) rfl ?_
          obtain ⟨gz, hf⟩ := jgd hf
          cases hf
          exact B_retZ B gz hq rfl (Nat.le_of_ble_eq_true rfl) (Nat.le_of_ble_eq_true rfl) (by decide +kernel)
        · refine B_blk B jlkX10_ok jcl_SKF [.aload_n 0, .dup, .getfield 64, .iconst 1, .iadd] (by decide +kernel) (ls' := [(0, jR 74), (1, jI v1), (2, jI v2), (3, jI r8.1)]) (st' := [jI (jW (r9.2 74 8 + 1)), jR 74]) rfl (p1 := 139) rfl ?_
          refine K_putI (jI' := 8) B jp_X10_64 rfl rfl rfl (by decide +kernel) ?_
          obtain ⟨m13, hm13, hf⟩ := jlt_s hf
          rw [hm13]
          refine B_blk B jlkX10_ok jcl_SKF [.aload_n 0, .dup, .getfield 142, .iconst 1, .isub] (by decide +kernel) (ls' := [(0, jR 74), (1, jI v1), (2, jI v2), (3, jI r8.1)]) (st' := [jI (jW (m13 74 10 - 1)), jR 74]) rfl (p1 := 149) rfl ?_
          refine K_putI (jI' := 10) B jp_X10_142 rfl rfl rfl (by decide +kernel) ?_
          obtain ⟨m14, hm14, hf⟩ := jlt_s hf
          rw [hm14]
          refine B_blk B jlkX10_ok jcl_SKF [.iload_n 3] (by decide +kernel) (ls' := [(0, jR 74), (1, jI v1), (2, jI v2), (3, jI r8.1)]) (st' := [jI r8.1]) rfl (p1 := 153) rfl ?_
          obtain ⟨gz, hf⟩ := jgd hf
          cases hf
          exact B_retZ B gz hq rfl (Nat.le_of_ble_eq_true rfl) (Nat.le_of_ble_eq_true rfl) (by decide +kernel)
      · refine B_blk B jlkX10_ok jcl_SKF [.aload_n 0, .dup, .getfield 64, .iconst 1, .iadd] (by decide +kernel) (ls' := [(0, jR 74), (1, jI v1), (2, jI v2), (3, jI r8.1)]) (st' := [jI (jW (r8.2 74 8 + 1)), jR 74]) rfl (p1 := 139) rfl ?_
        refine K_putI (jI' := 8) B jp_X10_64 rfl rfl rfl (by decide +kernel) ?_
        obtain ⟨m15, hm15, hf⟩ := jlt_s hf
        rw [hm15]
        refine B_blk B jlkX10_ok jcl_SKF [.aload_n 0, .dup, .getfield 142, .iconst 1, .isub] (by decide +kernel) (ls' := [(0, jR 74), (1, jI v1), (2, jI v2), (3, jI r8.1)]) (st' := [jI (jW (m15 74 10 - 1)), jR 74]) rfl (p1 := 149) rfl ?_
        refine K_putI (jI' := 10) B jp_X10_142 rfl rfl rfl (by decide +kernel) ?_
        obtain ⟨m16, hm16, hf⟩ := jlt_s hf
        rw [hm16]
        refine B_blk B jlkX10_ok jcl_SKF [.iload_n 3] (by decide +kernel) (ls' := [(0, jR 74), (1, jI v1), (2, jI v2), (3, jI r8.1)]) (st' := [jI r8.1]) rfl (p1 := 153) rfl ?_
        obtain ⟨gz, hf⟩ := jgd hf
        cases hf
        exact B_retZ B gz hq rfl (Nat.le_of_ble_eq_true rfl) (Nat.le_of_ble_eq_true rfl) (by decide +kernel)
    · refine B_blk B jlkX10_ok jcl_SKF [.aload_n 0] (by decide +kernel) (ls' := [(0, jR 74), (1, jI v1), (2, jI v2), (3, jI 0)]) (st' := [jR 74]) rfl (p1 := 77) rfl ?_
      obtain ⟨r17, h17, hf⟩ := jbd hf
      refine B_callV B (Nat.le_refl _) (μ' := r17.2) (k' := 0) (n' := 0) ca_X10_atom in_X10_atom se_X10_atom lk_X10_145 (t_X10_atom_4 B.tr h17) (Nat.le_refl _) rfl rfl rfl (rest := []) rfl rfl (Nat.le_of_ble_eq_true rfl) (by decide +kernel) rfl rfl (st' := [jI r17.1]) rfl ?_
      refine J_if_ne B.1 (off := 7) (tgt := 87) (by decide +kernel) (by decide) hf (fun hf => ?_) (fun hf => ?_)
      · refine B_blk B jlkX10_ok jcl_SKF [.iconst 1, .goto 4, .istore_n 3, .goto 53, .aload_n 0, .dup, .getfield 142, .iconst 1, .isub] (by decide +kernel) (ls' := [(0, jR 74), (1, jI v1), (2, jI v2), (3, jI 1)]) (st' := [jI (jW (r17.2 74 10 - 1)), jR 74]) rfl (p1 := 149) rfl ?_
        refine K_putI (jI' := 10) B jp_X10_142 rfl rfl rfl (by decide +kernel) ?_
        obtain ⟨m18, hm18, hf⟩ := jlt_s hf
        rw [hm18]
        refine B_blk B jlkX10_ok jcl_SKF [.iload_n 3] (by decide +kernel) (ls' := [(0, jR 74), (1, jI v1), (2, jI v2), (3, jI 1)]) (st' := [jI 1]) rfl (p1 := 153) rfl ?_
        cases hf
        exact B_retZ B (Or.inr rfl) hq rfl (Nat.le_of_ble_eq_true rfl) (Nat.le_of_ble_eq_true rfl) (by decide +kernel)
      · refine B_blk B jlkX10_ok jcl_SKF [.iconst 0, .istore_n 3, .goto 53, .aload_n 0, .dup, .getfield 142, .iconst 1, .isub] (by decide +kernel) (ls' := [(0, jR 74), (1, jI v1), (2, jI v2), (3, jI 0)]) (st' := [jI (jW (r17.2 74 10 - 1)), jR 74]) rfl (p1 := 149) rfl ?_
        refine K_putI (jI' := 10) B jp_X10_142 rfl rfl rfl (by decide +kernel) ?_
        obtain ⟨m19, hm19, hf⟩ := jlt_s hf
        rw [hm19]
        refine B_blk B jlkX10_ok jcl_SKF [.iload_n 3] (by decide +kernel) (ls' := [(0, jR 74), (1, jI v1), (2, jI v2), (3, jI 0)]) (st' := [jI 0]) rfl (p1 := 153) rfl ?_
        cases hf
        exact B_retZ B (Or.inl rfl) hq rfl (Nat.le_of_ble_eq_true rfl) (Nat.le_of_ble_eq_true rfl) (by decide +kernel)
theorem t_X10_atom_5 {l : Launch} {G : jG} (hl : l.stackTraces = false) {m : jMu} {r : (Int × jMu)} (hf : fr_X10_atom 5 m = some r) : jCt l G yX10_atom (.code yX10_atom cX10_atom 4 (some .boolean) :: jWG) rm_X10_atom_5 [jR 74] SKF m (.inl (some (jI r.1))) SKF r.2 := by
  rw [fr_X10_atom] at hf
  unfold f_X10_atom at hf
  refine J_start (ls0 := [(0, jR 74)]) (by decide +kernel) hl (Nat.le_of_ble_eq_true rfl) rfl fun X C hN hn hR hr hnm hno hq => ?_
  have B : jB X cX10_atom RX10 4 SKF.length rm_X10_atom_5 (some .boolean) := ⟨C, hN, Nat.le_of_eq hn, hR, hr⟩
  refine B_blk B jlkX10_ok jcl_SKF [.aload_n 0, .getfield 19, .iconst (-1)] (by decide +kernel) (ls' := [(0, jR 74)]) (st' := [jI (-1), jI (m 74 9)]) rfl (p1 := 5) rfl ?_
  refine J_icmp_eq B.1 (off := 5) (tgt := 10) (by decide +kernel) (by decide) hf (fun hf => ?_) (fun hf => ?_)
  · refine B_blk B jlkX10_ok jcl_SKF [.aload_n 0] (by decide +kernel) (ls' := [(0, jR 74)]) (st' := [jR 74]) rfl (p1 := 11) rfl ?_
    obtain ⟨r1, h1, hf⟩ := jbd hf
    refine B_callV B (Nat.le_refl _) (μ' := r1) (k' := 0) (n' := 0) ca_X10_skip in_X10_skip se_X10_skip lk_X10_74 (t_X10_skip B.tr h1) (Nat.le_refl _) rfl rfl rfl (rest := []) rfl rfl (Nat.le_of_ble_eq_true rfl) (by decide +kernel) rfl rfl (st' := []) rfl ?_
    refine B_blk B jlkX10_ok jcl_SKF [.aload_n 0, .getfield 64, .istore_n 1, .aload_n 0] (by decide +kernel) (ls' := [(0, jR 74), (1, jI (r1 74 8))]) (st' := [jR 74]) rfl (p1 := 20) rfl ?_
    refine J_ldcS (i := 7) (r := jXK + 7) B.1 rfl rfl (by decide) (by decide +kernel) ?_
    obtain ⟨r2, h2, hf⟩ := jbd hf
    refine B_callV B (Nat.le_refl _) (μ' := r2.2) (k' := 0) (n' := 0) ca_X10_has in_X10_has se_X10_has lk_X10_96 (t_X10_has B.tr (by decide) h2) (Nat.le_refl _) rfl rfl rfl (rest := []) rfl rfl (Nat.le_of_ble_eq_true rfl) (by decide +kernel) rfl rfl (st' := [jI r2.1]) rfl ?_
    refine B_blk B jlkX10_ok jcl_SKF [.istore_n 2, .iload_n 2] (by decide +kernel) (ls' := [(0, jR 74), (1, jI (r1 74 8)), (2, jI r2.1)]) (st' := [jI r2.1]) rfl (p1 := 27) rfl ?_
    refine J_if_ne B.1 (off := 17) (tgt := 44) (by decide +kernel) (by decide) hf (fun hf => ?_) (fun hf => ?_)
    · refine B_blk B jlkX10_ok jcl_SKF [.aload_n 0, .bipush 40] (by decide +kernel) (ls' := [(0, jR 74), (1, jI (r1 74 8)), (2, jI r2.1)]) (st' := [jI 40, jR 74]) rfl (p1 := 33) rfl ?_
      obtain ⟨r3, h3, hf⟩ := jbd hf
      refine B_callV B (Nat.le_refl _) (μ' := r3.2) (k' := 0) (n' := 0) ca_X10_isSign in_X10_isSign se_X10_isSign lk_X10_113 (t_X10_isSign B.tr h3) (Nat.le_refl _) rfl rfl rfl (rest := []) rfl rfl (Nat.le_of_ble_eq_true rfl) (by decide +kernel) rfl rfl (st' := [jI r3.1]) rfl ?_
      refine J_if_ne B.1 (off := 8) (tgt := 44) (by decide +kernel) (by decide) hf (fun hf => ?_) (fun hf => ?_)
      · refine B_blk B jlkX10_ok jcl_SKF [.aload_n 0] (by decide +kernel) (ls' := [(0, jR 74), (1, jI (r1 74 8)), (2, jI r2.1)]) (st' := [jR 74]) rfl (p1 := 40) rfl ?_
        obtain ⟨r4, h4, hf⟩ := jbd hf
        refine B_callV B (Nat.le_refl _) (μ' := r4.2) (k' := 0) (n' := 0) ca_X10_plain in_X10_plain se_X10_plain lk_X10_138 (t_X10_plain B.tr h4) (Nat.le_refl _) rfl rfl rfl (rest := []) rfl rfl (Nat.le_of_ble_eq_true rfl) (by decide +kernel) rfl rfl (st' := [jI r4.1]) rfl ?_
        obtain ⟨gz, hf⟩ := jgd hf
        cases hf
        exact B_retZ B gz hq rfl (Nat.le_of_ble_eq_true rfl) (Nat.le_of_ble_eq_true rfl) (by decide +kernel)
      · exact t_X10_atom_J44_5 B (r1 74 8) r2.1 r3.2 _ hf hq
    · exact t_X10_atom_J44_5 B (r1 74 8) r2.1 r2.2 _ hf hq
  · refine B_blk B jlkX10_ok jcl_SKF [.iconst 0] (by decide +kernel) (ls' := [(0, jR 74)]) (st' := [jI 0]) rfl (p1 := 9) rfl ?_
    cases hf
    exact B_retZ B (Or.inl rfl) hq rfl (Nat.le_of_ble_eq_true rfl) (Nat.le_of_ble_eq_true rfl) (by decide +kernel)

def rm_X10_every_5 : Room := { frames := 41, cells := 0, slots := 0, locals := 702 }
theorem t_X10_every_L5_5 {X : jX} (B : jB X cX10_every RX10 3 SKF.length rm_X10_every_5 (some .boolean)) : ∀ (q : Nat) (v1 : Int) (m : jMu) (r : (Int × jMu)), f_X10_every_L5 (fr_X10_atom 5) q v1 m = some r → jQ X (.inl (some (jI r.1))) SKF r.2 rm_X10_every_5.cells rm_X10_every_5.slots → J X SKF m 0 0 5 [(0, jR 74), (1, jI v1)] [] := by
  intro q
  induction q with
  | zero =>
    intro v1 m r hf
    rw [f_X10_every_L5] at hf
    cases hf
  | succ q ih =>
    intro v1 m r hf hq
    rw [f_X10_every_L5] at hf
    refine B_blk B jlkX10_ok jcl_SKF [.aload_n 0, .getfield 19, .iconst (-1)] (by decide +kernel) (ls' := [(0, jR 74), (1, jI v1)]) (st' := [jI (-1), jI (m 74 9)]) rfl (p1 := 10) rfl ?_
    refine J_icmp_ne B.1 (off := 34) (tgt := 44) (by decide +kernel) (by decide) hf (fun hf => ?_) (fun hf => ?_)
    · refine B_blk B jlkX10_ok jcl_SKF [.aload_n 0] (by decide +kernel) (ls' := [(0, jR 74), (1, jI v1)]) (st' := [jR 74]) rfl (p1 := 14) rfl ?_
      refine J_ldcS (i := 17) (r := jXK + 17) B.1 rfl rfl (by decide) (by decide +kernel) ?_
      obtain ⟨r2, h2, hf⟩ := jbd hf
      refine B_callV B (Nat.le_refl _) (μ' := r2.2) (k' := 0) (n' := 0) ca_X10_has in_X10_has se_X10_has lk_X10_96 (t_X10_has B.tr (by decide) h2) (Nat.le_refl _) rfl rfl rfl (rest := []) rfl rfl (Nat.le_of_ble_eq_true rfl) (by decide +kernel) rfl rfl (st' := [jI r2.1]) rfl ?_
      refine J_if_eq B.1 (off := 25) (tgt := 44) (by decide +kernel) (by decide) hf (fun hf => ?_) (fun hf => ?_)
      · refine B_blk B jlkX10_ok jcl_SKF [.iload_n 1] (by decide +kernel) (ls' := [(0, jR 74), (1, jI v1)]) (st' := [jI v1]) rfl (p1 := 45) rfl ?_
        obtain ⟨gz, hf⟩ := jgd hf
        cases hf
        exact B_retZ B gz hq rfl (Nat.le_of_ble_eq_true rfl) (Nat.le_of_ble_eq_true rfl) (by decide +kernel)
      · refine B_blk B jlkX10_ok jcl_SKF [.aload_n 0] (by decide +kernel) (ls' := [(0, jR 74), (1, jI v1)]) (st' := [jR 74]) rfl (p1 := 23) rfl ?_
        obtain ⟨r3, h3, hf⟩ := jbd hf
        refine B_callV B (Nat.le_refl _) (μ' := r3.2) (k' := 0) (n' := 0) ca_X10_atom in_X10_atom se_X10_atom lk_X10_145 (t_X10_atom_5 B.tr h3) (Nat.le_refl _) rfl rfl rfl (rest := []) rfl rfl (Nat.le_of_ble_eq_true rfl) (by decide +kernel) rfl rfl (st' := [jI r3.1]) rfl ?_
        refine B_blk B jlkX10_ok jcl_SKF [.istore_n 2, .iload_n 1] (by decide +kernel) (ls' := [(0, jR 74), (1, jI v1), (2, jI r3.1)]) (st' := [jI v1]) rfl (p1 := 28) rfl ?_
        refine J_if_eq B.1 (off := 11) (tgt := 39) (by decide +kernel) (by decide) hf (fun hf => ?_) (fun hf => ?_)
        · refine B_blk B jlkX10_ok jcl_SKF [.iconst 0, .istore_n 1, .goto (-36)] (by decide +kernel) (ls' := [(0, jR 74), (1, jI 0), (2, jI r3.1)]) (st' := []) rfl (p1 := 5) rfl ?_
          refine J_pick [0, 1] (ls' := [(0, jR 74), (1, jI 0)]) rfl ?_
          exact ih 0 r3.2 _ hf hq
        · refine B_blk B jlkX10_ok jcl_SKF [.iload_n 2] (by decide +kernel) (ls' := [(0, jR 74), (1, jI v1), (2, jI r3.1)]) (st' := [jI r3.1]) rfl (p1 := 32) rfl ?_
          refine J_if_eq B.1 (off := 7) (tgt := 39) (by decide +kernel) (by decide) hf (fun hf => ?_) (fun hf => ?_)
          · refine B_blk B jlkX10_ok jcl_SKF [.iconst 0, .istore_n 1, .goto (-36)] (by decide +kernel) (ls' := [(0, jR 74), (1, jI 0), (2, jI r3.1)]) (st' := []) rfl (p1 := 5) rfl ?_
            refine J_pick [0, 1] (ls' := [(0, jR 74), (1, jI 0)]) rfl ?_
            exact ih 0 r3.2 _ hf hq
          · refine B_blk B jlkX10_ok jcl_SKF [.iconst 1, .goto 4, .istore_n 1, .goto (-36)] (by decide +kernel) (ls' := [(0, jR 74), (1, jI 1), (2, jI r3.1)]) (st' := []) rfl (p1 := 5) rfl ?_
            refine J_pick [0, 1] (ls' := [(0, jR 74), (1, jI 1)]) rfl ?_
            exact ih 1 r3.2 _ hf hq
    · refine B_blk B jlkX10_ok jcl_SKF [.iload_n 1] (by decide +kernel) (ls' := [(0, jR 74), (1, jI v1)]) (st' := [jI v1]) rfl (p1 := 45) rfl ?_
      obtain ⟨gz, hf⟩ := jgd hf
      cases hf
      exact B_retZ B gz hq rfl (Nat.le_of_ble_eq_true rfl) (Nat.le_of_ble_eq_true rfl) (by decide +kernel)
theorem t_X10_every_5 {l : Launch} {G : jG} (hl : l.stackTraces = false) {m : jMu} {r : (Int × jMu)} (hf : f_X10_every (fr_X10_atom 5) m = some r) : jCt l G yX10_every (.code yX10_every cX10_every 3 (some .boolean) :: jWG) rm_X10_every_5 [jR 74] SKF m (.inl (some (jI r.1))) SKF r.2 := by
  unfold f_X10_every at hf
  refine J_start (ls0 := [(0, jR 74)]) (by decide +kernel) hl (Nat.le_of_ble_eq_true rfl) rfl fun X C hN hn hR hr hnm hno hq => ?_
  have B : jB X cX10_every RX10 3 SKF.length rm_X10_every_5 (some .boolean) := ⟨C, hN, Nat.le_of_eq hn, hR, hr⟩
  refine B_blk B jlkX10_ok jcl_SKF [.aload_n 0] (by decide +kernel) (ls' := [(0, jR 74)]) (st' := [jR 74]) rfl (p1 := 1) rfl ?_
  obtain ⟨r1, h1, hf⟩ := jbd hf
  refine B_callV B (Nat.le_refl _) (μ' := r1.2) (k' := 0) (n' := 0) ca_X10_atom in_X10_atom se_X10_atom lk_X10_145 (t_X10_atom_5 B.tr h1) (Nat.le_refl _) rfl rfl rfl (rest := []) rfl rfl (Nat.le_of_ble_eq_true rfl) (by decide +kernel) rfl rfl (st' := [jI r1.1]) rfl ?_
  refine B_blk B jlkX10_ok jcl_SKF [.istore_n 1] (by decide +kernel) (ls' := [(0, jR 74), (1, jI r1.1)]) (st' := []) rfl (p1 := 5) rfl ?_
  exact t_X10_every_L5_5 B jFU r1.1 r1.2 _ hf hq

def rm_X10_some_5 : Room := { frames := 43, cells := 0, slots := 0, locals := 724 }
theorem t_X10_some_L5_5 {X : jX} (B : jB X cX10_some RX10 3 SKF.length rm_X10_some_5 (some .boolean)) : ∀ (q : Nat) (v1 : Int) (m : jMu) (r : (Int × jMu)), f_X10_some_L5 (fr_X10_atom 5) q v1 m = some r → jQ X (.inl (some (jI r.1))) SKF r.2 rm_X10_some_5.cells rm_X10_some_5.slots → J X SKF m 0 0 5 [(0, jR 74), (1, jI v1)] [] := by
  intro q
  induction q with
  | zero =>
    intro v1 m r hf
    rw [f_X10_some_L5] at hf
    cases hf
  | succ q ih =>
    intro v1 m r hf hq
    rw [f_X10_some_L5] at hf
    refine B_blk B jlkX10_ok jcl_SKF [.aload_n 0, .getfield 19, .iconst (-1)] (by decide +kernel) (ls' := [(0, jR 74), (1, jI v1)]) (st' := [jI (-1), jI (m 74 9)]) rfl (p1 := 10) rfl ?_
    refine J_icmp_ne B.1 (off := 34) (tgt := 44) (by decide +kernel) (by decide) hf (fun hf => ?_) (fun hf => ?_)
    · refine B_blk B jlkX10_ok jcl_SKF [.aload_n 0] (by decide +kernel) (ls' := [(0, jR 74), (1, jI v1)]) (st' := [jR 74]) rfl (p1 := 14) rfl ?_
      refine J_ldcS (i := 18) (r := jXK + 18) B.1 rfl rfl (by decide) (by decide +kernel) ?_
      obtain ⟨r2, h2, hf⟩ := jbd hf
      refine B_callV B (Nat.le_refl _) (μ' := r2.2) (k' := 0) (n' := 0) ca_X10_has in_X10_has se_X10_has lk_X10_96 (t_X10_has B.tr (by decide) h2) (Nat.le_refl _) rfl rfl rfl (rest := []) rfl rfl (Nat.le_of_ble_eq_true rfl) (by decide +kernel) rfl rfl (st' := [jI r2.1]) rfl ?_
      refine J_if_eq B.1 (off := 25) (tgt := 44) (by decide +kernel) (by decide) hf (fun hf => ?_) (fun hf => ?_)
      · refine B_blk B jlkX10_ok jcl_SKF [.iload_n 1] (by decide +kernel) (ls' := [(0, jR 74), (1, jI v1)]) (st' := [jI v1]) rfl (p1 := 45) rfl ?_
        obtain ⟨gz, hf⟩ := jgd hf
        cases hf
        exact B_retZ B gz hq rfl (Nat.le_of_ble_eq_true rfl) (Nat.le_of_ble_eq_true rfl) (by decide +kernel)
      · refine B_blk B jlkX10_ok jcl_SKF [.aload_n 0] (by decide +kernel) (ls' := [(0, jR 74), (1, jI v1)]) (st' := [jR 74]) rfl (p1 := 23) rfl ?_
        obtain ⟨r3, h3, hf⟩ := jbd hf
        refine B_callV B (Nat.le_refl _) (μ' := r3.2) (k' := 0) (n' := 0) ca_X10_every in_X10_every se_X10_every lk_X10_153 (t_X10_every_5 B.tr h3) (Nat.le_refl _) rfl rfl rfl (rest := []) rfl rfl (Nat.le_of_ble_eq_true rfl) (by decide +kernel) rfl rfl (st' := [jI r3.1]) rfl ?_
        refine B_blk B jlkX10_ok jcl_SKF [.istore_n 2, .iload_n 1] (by decide +kernel) (ls' := [(0, jR 74), (1, jI v1), (2, jI r3.1)]) (st' := [jI v1]) rfl (p1 := 28) rfl ?_
        refine J_if_ne B.1 (off := 7) (tgt := 35) (by decide +kernel) (by decide) hf (fun hf => ?_) (fun hf => ?_)
        · refine B_blk B jlkX10_ok jcl_SKF [.iload_n 2] (by decide +kernel) (ls' := [(0, jR 74), (1, jI v1), (2, jI r3.1)]) (st' := [jI r3.1]) rfl (p1 := 32) rfl ?_
          refine J_if_eq B.1 (off := 7) (tgt := 39) (by decide +kernel) (by decide) hf (fun hf => ?_) (fun hf => ?_)
          · refine B_blk B jlkX10_ok jcl_SKF [.iconst 0, .istore_n 1, .goto (-36)] (by decide +kernel) (ls' := [(0, jR 74), (1, jI 0), (2, jI r3.1)]) (st' := []) rfl (p1 := 5) rfl ?_
            refine J_pick [0, 1] (ls' := [(0, jR 74), (1, jI 0)]) rfl ?_
            exact ih 0 r3.2 _ hf hq
          · refine B_blk B jlkX10_ok jcl_SKF [.iconst 1, .goto 4, .istore_n 1, .goto (-36)] (by decide +kernel) (ls' := [(0, jR 74), (1, jI 1), (2, jI r3.1)]) (st' := []) rfl (p1 := 5) rfl ?_
            refine J_pick [0, 1] (ls' := [(0, jR 74), (1, jI 1)]) rfl ?_
            exact ih 1 r3.2 _ hf hq
        · refine B_blk B jlkX10_ok jcl_SKF [.iconst 1, .goto 4, .istore_n 1, .goto (-36)] (by decide +kernel) (ls' := [(0, jR 74), (1, jI 1), (2, jI r3.1)]) (st' := []) rfl (p1 := 5) rfl ?_
          refine J_pick [0, 1] (ls' := [(0, jR 74), (1, jI 1)]) rfl ?_
          exact ih 1 r3.2 _ hf hq
    · refine B_blk B jlkX10_ok jcl_SKF [.iload_n 1] (by decide +kernel) (ls' := [(0, jR 74), (1, jI v1)]) (st' := [jI v1]) rfl (p1 := 45) rfl ?_
      obtain ⟨gz, hf⟩ := jgd hf
      cases hf
      exact B_retZ B gz hq rfl (Nat.le_of_ble_eq_true rfl) (Nat.le_of_ble_eq_true rfl) (by decide +kernel)
theorem t_X10_some_5 {l : Launch} {G : jG} (hl : l.stackTraces = false) {m : jMu} {r : (Int × jMu)} (hf : f_X10_some (fr_X10_atom 5) m = some r) : jCt l G yX10_some (.code yX10_some cX10_some 3 (some .boolean) :: jWG) rm_X10_some_5 [jR 74] SKF m (.inl (some (jI r.1))) SKF r.2 := by
  unfold f_X10_some at hf
  refine J_start (ls0 := [(0, jR 74)]) (by decide +kernel) hl (Nat.le_of_ble_eq_true rfl) rfl fun X C hN hn hR hr hnm hno hq => ?_
  have B : jB X cX10_some RX10 3 SKF.length rm_X10_some_5 (some .boolean) := ⟨C, hN, Nat.le_of_eq hn, hR, hr⟩
  refine B_blk B jlkX10_ok jcl_SKF [.aload_n 0] (by decide +kernel) (ls' := [(0, jR 74)]) (st' := [jR 74]) rfl (p1 := 1) rfl ?_
  obtain ⟨r1, h1, hf⟩ := jbd hf
  refine B_callV B (Nat.le_refl _) (μ' := r1.2) (k' := 0) (n' := 0) ca_X10_every in_X10_every se_X10_every lk_X10_153 (t_X10_every_5 B.tr h1) (Nat.le_refl _) rfl rfl rfl (rest := []) rfl rfl (Nat.le_of_ble_eq_true rfl) (by decide +kernel) rfl rfl (st' := [jI r1.1]) rfl ?_
  refine B_blk B jlkX10_ok jcl_SKF [.istore_n 1] (by decide +kernel) (ls' := [(0, jR 74), (1, jI r1.1)]) (st' := []) rfl (p1 := 5) rfl ?_
  exact t_X10_some_L5_5 B jFU r1.1 r1.2 _ hf hq
