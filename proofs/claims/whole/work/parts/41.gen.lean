/-! printed walks -/
def rm_X10_atom_6 : Room := { frames := 45, cells := 0, slots := 0, locals := 746 }
theorem t_X10_atom_J44_6 {X : jX} (B : jB X cX10_atom RX10 4 SKF.length rm_X10_atom_6 (some .boolean)) (v1 : Int) (v2 : Int) (m : jMu) (r : (Int × jMu)) (hf : f_X10_atom_J44 (fr_X10_atom 5) v1 v2 m = some r) (hq : jQ X (.inl (some (jI r.1))) SKF r.2 rm_X10_atom_6.cells rm_X10_atom_6.slots) : J X SKF m 0 0 44 [(0, jR 74), (1, jI v1), (2, jI v2)] [] := by
  unfold f_X10_atom_J44 at hf
  refine B_blk B jlkX10_ok jcl_SKF [.aload_n 0, .getfield 142, .bipush 6] (by decide +kernel) (ls' := [(0, jR 74), (1, jI v1), (2, jI v2)]) (st' := [jI 6, jI (m 74 10)]) rfl (p1 := 50) rfl ?_
  refine J_icmp_ne B.1 (off := 10) (tgt := 60) (by decide +kernel) (by decide) hf (fun hf => ?_) (fun hf => ?_)
  · refine B_blk B jlkX10_ok jcl_SKF [.aload_n 0, .iload_n 1] (by decide +kernel) (ls' := [(0, jR 74), (1, jI v1), (2, jI v2)]) (st' := [jI v1, jR 74]) rfl (p1 := 55) rfl ?_
    obtain ⟨r5, h5, hf⟩ := jbd hf
    refine B_callV B (Nat.le_refl _) (μ' := r5) (k' := 0) (n' := 0) ca_X10_wrong in_X10_wrong se_X10_wrong lk_X10_87 (t_X10_wrong B.tr h5) (Nat.le_refl _) rfl rfl rfl (rest := []) rfl rfl (Nat.le_of_ble_eq_true rfl) (by decide +kernel) rfl rfl (st' := []) rfl ?_
    refine B_blk B jlkX10_ok jcl_SKF [.iconst 0] (by decide +kernel) (ls' := [(0, jR 74), (1, jI v1), (2, jI v2)]) (st' := [jI 0]) rfl (p1 := 59) rfl ?_
    cases hf
    exact B_retZ B (Or.inl rfl) hq rfl (Nat.le_of_ble_eq_true rfl) (Nat.le_of_ble_eq_true rfl) (by decide +kernel)
  · refine B_blk B jlkX10_ok jcl_SKF [.aload_n 0, .dup, .getfield 142, .iconst 1, .iadd] (by decide +kernel) (ls' := [(0, jR 74), (1, jI v1), (2, jI v2)]) (st' := [jI (jW (m 74 10 + 1)), jR 74]) rfl (p1 := 67) rfl ?_
    refine K_putI (jI' := 10) B jp_X10_142 rfl rfl rfl (by decide +kernel) ?_
    obtain ⟨m6, hm6, hf⟩ := jlt_s hf
    rw [hm6]
    refine B_blk B jlkX10_ok jcl_SKF [.iconst 0, .istore_n 3, .iload_n 2] (by decide +kernel) (ls' := [(0, jR 74), (1, jI v1), (2, jI v2), (3, jI 0)]) (st' := [jI v2]) rfl (p1 := 73) rfl ?_
    refine J_if_eq B.1 (off := 19) (tgt := 92) (by decide +kernel) (by decide) hf (fun hf => ?_) (fun hf => ?_)
    · refine B_blk B jlkX10_ok jcl_SKF [.aload_n 0, .dup, .getfield 64, .iconst 1, .iadd] (by decide +kernel) (ls' := [(0, jR 74), (1, jI v1), (2, jI v2), (3, jI 0)]) (st' := [jI (jW (m6 74 8 + 1)), jR 74]) rfl (p1 := 99) rfl ?_
      refine K_putI (jI' := 8) B jp_X10_64 rfl rfl rfl (by decide +kernel) ?_
      obtain ⟨m7, hm7, hf⟩ := jlt_s hf
      rw [hm7]
      refine B_blk B jlkX10_ok jcl_SKF [.aload_n 0] (by decide +kernel) (ls' := [(0, jR 74), (1, jI v1), (2, jI v2), (3, jI 0)]) (st' := [jR 74]) rfl (p1 := 103) rfl ?_
      obtain ⟨r8, h8, hf⟩ := jbd hf
      refine B_callV B (Nat.le_refl _) (μ' := r8.2) (k' := 0) (n' := 0) ca_X10_some in_X10_some se_X10_some lk_X10_148 (t_X10_some_5 B.tr h8) (Nat.le_refl _) rfl rfl rfl (rest := []) rfl rfl (Nat.le_of_ble_eq_true rfl) (by decide +kernel) rfl rfl (st' := [jI r8.1]) rfl ?_
      refine B_blk B jlkX10_ok jcl_SKF [.istore_n 3, .aload_n 0, .getfield 19, .iconst (-1)] (by decide +kernel) (ls' := [(0, jR 74), (1, jI v1), (2, jI v2), (3, jI r8.1)]) (st' := [jI (-1), jI (r8.2 74 9)]) rfl (p1 := 112) rfl ?_
      refine J_icmp_ne B.1 (off := 20) (tgt := 132) (by decide +kernel) (by decide) hf (fun hf => ?_) (fun hf => ?_)
      · refine B_blk B jlkX10_ok jcl_SKF [.aload_n 0, .bipush 41] (by decide +kernel) (ls' := [(0, jR 74), (1, jI v1), (2, jI v2), (3, jI r8.1)]) (st' := [jI 41, jR 74]) rfl (p1 := 118) rfl ?_
        obtain ⟨r9, h9, hf⟩ := jbd hf
        refine B_callV B (Nat.le_refl _) (μ' := r9.2) (k' := 0) (n' := 0) ca_X10_isSign in_X10_isSign se_X10_isSign lk_X10_113 (t_X10_isSign B.tr h9) (Nat.le_refl _) rfl rfl rfl (rest := []) rfl rfl (Nat.le_of_ble_eq_true rfl) (by decide +kernel) rfl rfl (st' := [jI r9.1]) rfl ?_
        refine J_if_ne B.1 (off := 11) (tgt := 132) (by decide +kernel) (by decide) hf (fun hf => ?_) (fun hf => ?_)
        · refine B_blk B jlkX10_ok jcl_SKF [.aload_n 0, .aload_n 0, .getfield 64] (by decide +kernel) (ls' := [(0, jR 74), (1, jI v1), (2, jI v2), (3, jI r8.1)]) (st' := [jI (r9.2 74 8), jR 74]) rfl (p1 := 129) rfl ?_
          obtain ⟨r10, h10, hf⟩ := jbd hf
          refine B_callV B (Nat.le_refl _) (μ' := r10) (k' := 0) (n' := 0) ca_X10_wrong in_X10_wrong se_X10_wrong lk_X10_87 (t_X10_wrong B.tr h10) (Nat.le_refl _) rfl rfl rfl (rest := []) rfl rfl (Nat.le_of_ble_eq_true rfl) (by decide +kernel) rfl rfl (st' := []) rfl ?_
          refine B_blk B jlkX10_ok jcl_SKF [.aload_n 0, .dup, .getfield 64, .iconst 1, .iadd] (by decide +kernel) (ls' := [(0, jR 74), (1, jI v1), (2, jI v2), (3, jI r8.1)]) (st' := [jI (jW (r10 74 8 + 1)), jR 74]) rfl (p1 := 139) rfl ?_
          refine K_putI (jI' := 8) B jp_X10_64 rfl rfl rfl (by decide +kernel) ?_
          obtain ⟨m11, hm11, hf⟩ := jlt_s hf
          rw [hm11]
          refine B_blk B jlkX10_ok jcl_SKF [.aload_n 0, .dup, .getfield 142, .iconst 1, .isub] (by decide +kernel) (ls' := [(0, jR 74), (1, jI v1), (2, jI v2), (3, jI r8.1)]) (st' := [jI (jW (m11 74 10 - 1)), jR 74]) rfl (p1 := 149) rfl ?_
          refine K_putI (jI' := 10) B jp_X10_142 rfl rfl rfl (by decide +kernel) ?_
          obtain ⟨m12, hm12, hf⟩ := jlt_s hf
          rw [hm12]
          refine B_blk B jlkX10_ok jcl_SKF [.iload_n 3] (by decide +kernel) (ls' := [(0, jR 74), (1, jI v1), (2, jI v2), (3, jI r8.1)]) (st' := [jI r8.1]) rfl (p1 := 153) rfl ?_
          obtain ⟨gz, hf⟩ := jgd hf
          cases hf
          exact B_retZ B gz hq rfl (Nat.le_of_ble_eq_true rfl) (Nat.le_of_ble_eq_true rfl) (by decide +kernel)
        · refine B_blk B jlkX10_ok jcl_SKF [.aload_n 0, .dup, .getfield 64, .iconst 1, .iadd] (by decide +kernel) (ls' := [(0, jR 74), (1, jI v1), (2, jI v2), (3, jI r8.1)]) (st' := [jI (jW (r9.2 74 8 + 1)), jR 74]) rfl (p1 := 139) rfl ?_
          refine K_putI (jI' := 8) B jp_X10_64 rfl rfl rfl (by decide +kernel) ?_
          obtain ⟨m13, hm13, hf⟩ := jlt_s hf
          rw [hm13]
          refine B_blk B jlkX10_ok jcl_SKF [.aload_n 0, .dup, .getfield 142, .iconst 1, .isub] (by decide +kernel) (ls' := [(0, jR 74), (1, jI v1), (2, jI v2), (3, jI r8.1)]) (st' := [jI (jW (m13 74 10 - 1)), jR 74]) rfl (p1 := 149) rfl ?_
          refine K_putI (jI' := 10) B jp_X10_142 rfl rfl rfl (by decide +kernel) ?_
          obtain ⟨m14, hm14, hf⟩ := jlt_s hf
          rw [hm14]
          refine B_blk B jlkX10_ok jcl_SKF [.iload_n 3] (by decide +kernel) (ls' := [(0, jR 74), (1, jI v1), (2, jI v2), (3, jI r8.1)]) (st' := [jI r8.1]) rfl (p1 := 153) rfl ?_
          obtain ⟨gz, hf⟩ := jgd hf
          cases hf
          exact B_retZ B gz hq rfl (Nat.le_of_ble_eq_true rfl) (Nat.le_of_ble_eq_true rfl) (by decide +kernel)
      · refine B_blk B jlkX10_ok jcl_SKF [.aload_n 0, .dup, .getfield 64, .iconst 1, .iadd] (by decide +kernel) (ls' := [(0, jR 74), (1, jI v1), (2, jI v2), (3, jI r8.1)]) (st' := [jI (jW (r8.2 74 8 + 1)), jR 74]) rfl (p1 := 139) rfl ?_
        refine K_putI (jI' := 8) B jp_X10_64 rfl rfl rfl (by decide +kernel) ?_
        obtain ⟨m15, hm15, hf⟩ := jlt_s hf
        rw [hm15]
        refine B_blk B jlkX10_ok jcl_SKF [.aload_n 0, .dup, .getfield 142, .iconst 1, .isub] (by decide +kernel) (ls' := [(0, jR 74), (1, jI v1), (2, jI v2), (3, jI r8.1)]) (st' := [jI (jW (m15 74 10 - 1)), jR 74]) rfl (p1 := 149) rfl ?_
        refine K_putI (jI' := 10) B jp_X10_142 rfl rfl rfl (by decide +kernel) ?_
        obtain ⟨m16, hm16, hf⟩ := jlt_s hf
        rw [hm16]
        refine B_blk B jlkX10_ok jcl_SKF [.iload_n 3] (by decide +kernel) (ls' := [(0, jR 74), (1, jI v1), (2, jI v2), (3, jI r8.1)]) (st' := [jI r8.1]) rfl (p1 := 153) rfl ?_
        obtain ⟨gz, hf⟩ := jgd hf
        cases hf
        exact B_retZ B gz hq rfl (Nat.le_of_ble_eq_true rfl) (Nat.le_of_ble_eq_true rfl) (by decide +kernel)
    · refine B_blk B jlkX10_ok jcl_SKF [.aload_n 0] (by decide +kernel) (ls' := [(0, jR 74), (1, jI v1), (2, jI v2), (3, jI 0)]) (st' := [jR 74]) rfl (p1 := 77) rfl ?_
      obtain ⟨r17, h17, hf⟩ := jbd hf
      refine B_callV B (Nat.le_refl _) (μ' := r17.2) (k' := 0) (n' := 0) ca_X10_atom in_X10_atom se_X10_atom lk_X10_145 (t_X10_atom_5 B.tr h17) (Nat.le_refl _) rfl rfl rfl (rest := []) rfl rfl (Nat.le_of_ble_eq_true rfl) (by decide +kernel) rfl rfl (st' := [jI r17.1]) rfl ?_
      refine J_if_ne B.1 (off := 7) (tgt := 87) (by decide +kernel) (by decide) hf (fun hf => ?_) (fun hf => ?_)
      · refine B_blk B jlkX10_ok jcl_SKF [.iconst 1, .goto 4, .istore_n 3, .goto 53, .aload_n 0, .dup, .getfield 142, .iconst 1, .isub] (by decide +kernel) (ls' := [(0, jR 74), (1, jI v1), (2, jI v2), (3, jI 1)]) (st' := [jI (jW (r17.2 74 10 - 1)), jR 74]) rfl (p1 := 149) rfl ?_
        refine K_putI (jI' := 10) B jp_X10_142 rfl rfl rfl (by decide +kernel) ?_
        obtain ⟨m18, hm18, hf⟩ := jlt_s hf
        rw [hm18]
        refine B_blk B jlkX10_ok jcl_SKF [.iload_n 3] (by decide +kernel) (ls' := [(0, jR 74), (1, jI v1), (2, jI v2), (3, jI 1)]) (st' := [jI 1]) rfl (p1 := 153) rfl ?_
        cases hf
        exact B_retZ B (Or.inr rfl) hq rfl (Nat.le_of_ble_eq_true rfl) (Nat.le_of_ble_eq_true rfl) (by decide +kernel)
      · refine B_blk B jlkX10_ok jcl_SKF [.iconst 0, .istore_n 3, .goto 53, .aload_n 0, .dup, .getfield 142, .iconst 1, .isub] (by decide +kernel) (ls' := [(0, jR 74), (1, jI v1), (2, jI v2), (3, jI 0)]) (st' := [jI (jW (r17.2 74 10 - 1)), jR 74]) rfl (p1 := 149) rfl ?_
        refine K_putI (jI' := 10) B jp_X10_142 rfl rfl rfl (by decide +kernel) ?_
        obtain ⟨m19, hm19, hf⟩ := jlt_s hf
        rw [hm19]
        refine B_blk B jlkX10_ok jcl_SKF [.iload_n 3] (by decide +kernel) (ls' := [(0, jR 74), (1, jI v1), (2, jI v2), (3, jI 0)]) (st' := [jI 0]) rfl (p1 := 153) rfl ?_
        cases hf
        exact B_retZ B (Or.inl rfl) hq rfl (Nat.le_of_ble_eq_true rfl) (Nat.le_of_ble_eq_true rfl) (by decide +kernel)
theorem t_X10_atom_6 {l : Launch} {G : jG} (hl : l.stackTraces = false) {m : jMu} {r : (Int × jMu)} (hf : fr_X10_atom 6 m = some r) : jCt l G yX10_atom (.code yX10_atom cX10_atom 4 (some .boolean) :: jWG) rm_X10_atom_6 [jR 74] SKF m (.inl (some (jI r.1))) SKF r.2 := by
  rw [fr_X10_atom] at hf
  unfold f_X10_atom at hf
  refine J_start (ls0 := [(0, jR 74)]) (by decide +kernel) hl (Nat.le_of_ble_eq_true rfl) rfl fun X C hN hn hR hr hnm hno hq => ?_
  have B : jB X cX10_atom RX10 4 SKF.length rm_X10_atom_6 (some .boolean) := ⟨C, hN, Nat.le_of_eq hn, hR, hr⟩
  refine B_blk B jlkX10_ok jcl_SKF [.aload_n 0, .getfield 19, .iconst (-1)] (by decide +kernel) (ls' := [(0, jR 74)]) (st' := [jI (-1), jI (m 74 9)]) rfl (p1 := 5) rfl ?_
  refine J_icmp_eq B.1 (off := 5) (tgt := 10) (by decide +kernel) (by decide) hf (fun hf => ?_) (fun hf => ?_)
  · refine B_blk B jlkX10_ok jcl_SKF [.aload_n 0] (by decide +kernel) (ls' := [(0, jR 74)]) (st' := [jR 74]) rfl (p1 := 11) rfl ?_
    obtain ⟨r1, h1, hf⟩ := jbd hf
    refine B_callV B (Nat.le_refl _) (μ' := r1) (k' := 0) (n' := 0) ca_X10_skip in_X10_skip se_X10_skip lk_X10_74 (t_X10_skip B.tr h1) (Nat.le_refl _) rfl rfl rfl (rest := []) rfl rfl (Nat.le_of_ble_eq_true rfl) (by decide +kernel) rfl rfl (st' := []) rfl ?_
    refine B_blk B jlkX10_ok jcl_SKF [.aload_n 0, .getfield 64, .istore_n 1, .aload_n 0] (by decide +kernel) (ls' := [(0, jR 74), (1, jI (r1 74 8))]) (st' := [jR 74]) rfl (p1 := 20) rfl ?_
    refine J_ldcS (i := 7) (r := jXK + 7) B.1 rfl rfl (by decide) (by decide +kernel) ?_
    obtain ⟨r2, h2, hf⟩ := jbd hf
    refine B_callV B (Nat.le_refl _) (μ' := r2.2) (k' := 0) (n' := 0) ca_X10_has in_X10_has se_X10_has lk_X10_96 (t_X10_has B.tr (by decide) h2) (Nat.le_refl _) rfl rfl rfl (rest := []) rfl rfl (Nat.le_of_ble_eq_true rfl) (by decide +kernel) rfl rfl (st' := [jI r2.1]) rfl ?_
    refine B_blk B jlkX10_ok jcl_SKF [.istore_n 2, .iload_n 2] (by decide +kernel) (ls' := [(0, jR 74), (1, jI (r1 74 8)), (2, jI r2.1)]) (st' := [jI r2.1]) rfl (p1 := 27) rfl ?_
    refine J_if_ne B.1 (off := 17) (tgt := 44) (by decide +kernel) (by decide) hf (fun hf => ?_) (fun hf => ?_)
    · refine B_blk B jlkX10_ok jcl_SKF [.aload_n 0, .bipush 40] (by decide +kernel) (ls' := [(0, jR 74), (1, jI (r1 74 8)), (2, jI r2.1)]) (st' := [jI 40, jR 74]) rfl (p1 := 33) rfl ?_
      obtain ⟨r3, h3, hf⟩ := jbd hf
      refine B_callV B (Nat.le_refl _) (μ' := r3.2) (k' := 0) (n' := 0) ca_X10_isSign in_X10_isSign se_X10_isSign lk_X10_113 (t_X10_isSign B.tr h3) (Nat.le_refl _) rfl rfl rfl (rest := []) rfl rfl (Nat.le_of_ble_eq_true rfl) (by decide +kernel) rfl rfl (st' := [jI r3.1]) rfl ?_
      refine J_if_ne B.1 (off := 8) (tgt := 44) (by decide +kernel) (by decide) hf (fun hf => ?_) (fun hf => ?_)
      · refine B_blk B jlkX10_ok jcl_SKF [.aload_n 0] (by decide +kernel) (ls' := [(0, jR 74), (1, jI (r1 74 8)), (2, jI r2.1)]) (st' := [jR 74]) rfl (p1 := 40) rfl ?_
        obtain ⟨r4, h4, hf⟩ := jbd hf
        refine B_callV B (Nat.le_refl _) (μ' := r4.2) (k' := 0) (n' := 0) ca_X10_plain in_X10_plain se_X10_plain lk_X10_138 (t_X10_plain B.tr h4) (Nat.le_refl _) rfl rfl rfl (rest := []) rfl rfl (Nat.le_of_ble_eq_true rfl) (by decide +kernel) rfl rfl (st' := [jI r4.1]) rfl ?_
        obtain ⟨gz, hf⟩ := jgd hf
        cases hf
        exact B_retZ B gz hq rfl (Nat.le_of_ble_eq_true rfl) (Nat.le_of_ble_eq_true rfl) (by decide +kernel)
      · exact t_X10_atom_J44_6 B (r1 74 8) r2.1 r3.2 _ hf hq
    · exact t_X10_atom_J44_6 B (r1 74 8) r2.1 r2.2 _ hf hq
  · refine B_blk B jlkX10_ok jcl_SKF [.iconst 0] (by decide +kernel) (ls' := [(0, jR 74)]) (st' := [jI 0]) rfl (p1 := 9) rfl ?_
    cases hf
    exact B_retZ B (Or.inl rfl) hq rfl (Nat.le_of_ble_eq_true rfl) (Nat.le_of_ble_eq_true rfl) (by decide +kernel)

def rm_X10_every_6 : Room := { frames := 47, cells := 0, slots := 0, locals := 769 }
theorem t_X10_every_L5_6 {X : jX} (B : jB X cX10_every RX10 3 SKF.length rm_X10_every_6 (some .boolean)) : ∀ (q : Nat) (v1 : Int) (m : jMu) (r : (Int × jMu)), f_X10_every_L5 (fr_X10_atom 6) q v1 m = some r → jQ X (.inl (some (jI r.1))) SKF r.2 rm_X10_every_6.cells rm_X10_every_6.slots → J X SKF m 0 0 5 [(0, jR 74), (1, jI v1)] [] := by
  intro q
  induction q with
  | zero =>
    intro v1 m r hf
    rw [f_X10_every_L5] at hf
    cases hf
  | succ q ih =>
    intro v1 m r hf hq
    rw [f_X10_every_L5] at hf
    refine B_blk B jlkX10_ok jcl_SKF [.aload_n 0, .getfield 19, .iconst (-1)] (by decide +kernel) (ls' := [(0, jR 74), (1, jI v1)]) (st' := [jI (-1), jI (m 74 9)]) rfl (p1 := 10) rfl ?_
    refine J_icmp_ne B.1 (off := 34) (tgt := 44) (by decide +kernel) (by decide) hf (fun hf => ?_) (fun hf => ?_)
    · refine B_blk B jlkX10_ok jcl_SKF [.aload_n 0] (by decide +kernel) (ls' := [(0, jR 74), (1, jI v1)]) (st' := [jR 74]) rfl (p1 := 14) rfl ?_
      refine J_ldcS (i := 17) (r := jXK + 17) B.1 rfl rfl (by decide) (by decide +kernel) ?_
      obtain ⟨r2, h2, hf⟩ := jbd hf
      refine B_callV B (Nat.le_refl _) (μ' := r2.2) (k' := 0) (n' := 0) ca_X10_has in_X10_has se_X10_has lk_X10_96 (t_X10_has B.tr (by decide) h2) (Nat.le_refl _) rfl rfl rfl (rest := []) rfl rfl (Nat.le_of_ble_eq_true rfl) (by decide +kernel) rfl rfl (st' := [jI r2.1]) rfl ?_
      refine J_if_eq B.1 (off := 25) (tgt := 44) (by decide +kernel) (by decide) hf (fun hf => ?_) (fun hf => ?_)
      · refine B_blk B jlkX10_ok jcl_SKF [.iload_n 1] (by decide +kernel) (ls' := [(0, jR 74), (1, jI v1)]) (st' := [jI v1]) rfl (p1 := 45) rfl ?_
        obtain ⟨gz, hf⟩ := jgd hf
        cases hf
        exact B_retZ B gz hq rfl (Nat.le_of_ble_eq_true rfl) (Nat.le_of_ble_eq_true rfl) (by decide +kernel)
      · refine B_blk B jlkX10_ok jcl_SKF [.aload_n 0] (by decide +kernel) (ls' := [(0, jR 74), (1, jI v1)]) (st' := [jR 74]) rfl (p1 := 23) rfl ?_
        obtain ⟨r3, h3, hf⟩ := jbd hf
        refine B_callV B (Nat.le_refl _) (μ' := r3.2) (k' := 0) (n' := 0) ca_X10_atom in_X10_atom se_X10_atom lk_X10_145 (t_X10_atom_6 B.tr h3) (Nat.le_refl _) rfl rfl rfl (rest := []) rfl rfl (Nat.le_of_ble_eq_true rfl) (by decide +kernel) rfl rfl (st' := [jI r3.1]) rfl ?_
        refine B_blk B jlkX10_ok jcl_SKF [.istore_n 2, .iload_n 1] (by decide +kernel) (ls' := [(0, jR 74), (1, jI v1), (2, jI r3.1)]) (st' := [jI v1]) rfl (p1 := 28) rfl ?_
        refine J_if_eq B.1 (off := 11) (tgt := 39) (by decide +kernel) (by decide) hf (fun hf => ?_) (fun hf => ?_)
        · refine B_blk B jlkX10_ok jcl_SKF [.iconst 0, .istore_n 1, .goto (-36)] (by decide +kernel) (ls' := [(0, jR 74), (1, jI 0), (2, jI r3.1)]) (st' := []) rfl (p1 := 5) rfl ?_
          refine J_pick [0, 1] (ls' := [(0, jR 74), (1, jI 0)]) rfl ?_
          exact ih 0 r3.2 _ hf hq
        · refine B_blk B jlkX10_ok jcl_SKF [.iload_n 2] (by decide +kernel) (ls' := [(0, jR 74), (1, jI v1), (2, jI r3.1)]) (st' := [jI r3.1]) rfl (p1 := 32) rfl ?_
          refine J_if_eq B.1 (off := 7) (tgt := 39) (by decide +kernel) (by decide) hf (fun hf => ?_) (fun hf => ?_)
          · refine B_blk B jlkX10_ok jcl_SKF [.iconst 0, .istore_n 1, .goto (-36)] (by decide +kernel) (ls' := [(0, jR 74), (1, jI 0), (2, jI r3.1)]) (st' := []) rfl (p1 := 5) rfl ?_
            refine J_pick [0, 1] (ls' := [(0, jR 74), (1, jI 0)]) rfl ?_
            exact ih 0 r3.2 _ hf hq
          · refine B_blk B jlkX10_ok jcl_SKF [.iconst 1, .goto 4, .istore_n 1, .goto (-36)] (by decide +kernel) (ls' := [(0, jR 74), (1, jI 1), (2, jI r3.1)]) (st' := []) rfl (p1 := 5) rfl ?_
            refine J_pick [0, 1] (ls' := [(0, jR 74), (1, jI 1)]) rfl ?_
            exact ih 1 r3.2 _ hf hq
    · refine B_blk B jlkX10_ok jcl_SKF [.iload_n 1] (by decide +kernel) (ls' := [(0, jR 74), (1, jI v1)]) (st' := [jI v1]) rfl (p1 := 45) rfl ?_
      obtain ⟨gz, hf⟩ := jgd hf
      cases hf
      exact B_retZ B gz hq rfl (Nat.le_of_ble_eq_true rfl) (Nat.le_of_ble_eq_true rfl) (by decide +kernel)
theorem t_X10_every_6 {l : Launch} {G : jG} (hl : l.stackTraces = false) {m : jMu} {r : (Int × jMu)} (hf : f_X10_every (fr_X10_atom 6) m = some r) : jCt l G yX10_every (.code yX10_every cX10_every 3 (some .boolean) :: jWG) rm_X10_every_6 [jR 74] SKF m (.inl (some (jI r.1))) SKF r.2 := by
  unfold f_X10_every at hf
  refine J_start (ls0 := [(0, jR 74)]) (by decide +kernel) hl (Nat.le_of_ble_eq_true rfl) rfl fun X C hN hn hR hr hnm hno hq => ?_
  have B : jB X cX10_every RX10 3 SKF.length rm_X10_every_6 (some .boolean) := ⟨C, hN, Nat.le_of_eq hn, hR, hr⟩
  refine B_blk B jlkX10_ok jcl_SKF [.aload_n 0] (by decide +kernel) (ls' := [(0, jR 74)]) (st' := [jR 74]) rfl (p1 := 1) rfl ?_
  obtain ⟨r1, h1, hf⟩ := jbd hf
  refine B_callV B (Nat.le_refl _) (μ' := r1.2) (k' := 0) (n' := 0) ca_X10_atom in_X10_atom se_X10_atom lk_X10_145 (t_X10_atom_6 B.tr h1) (Nat.le_refl _) rfl rfl rfl (rest := []) rfl rfl (Nat.le_of_ble_eq_true rfl) (by decide +kernel) rfl rfl (st' := [jI r1.1]) rfl ?_
  refine B_blk B jlkX10_ok jcl_SKF [.istore_n 1] (by decide +kernel) (ls' := [(0, jR 74), (1, jI r1.1)]) (st' := []) rfl (p1 := 5) rfl ?_
  exact t_X10_every_L5_6 B jFU r1.1 r1.2 _ hf hq

def rm_X10_some_6 : Room := { frames := 49, cells := 0, slots := 0, locals := 791 }
theorem t_X10_some_L5_6 {X : jX} (B : jB X cX10_some RX10 3 SKF.length rm_X10_some_6 (some .boolean)) : ∀ (q : Nat) (v1 : Int) (m : jMu) (r : (Int × jMu)), f_X10_some_L5 (fr_X10_atom 6) q v1 m = some r → jQ X (.inl (some (jI r.1))) SKF r.2 rm_X10_some_6.cells rm_X10_some_6.slots → J X SKF m 0 0 5 [(0, jR 74), (1, jI v1)] [] := by
  intro q
  induction q with
  | zero =>
    intro v1 m r hf
    rw [f_X10_some_L5] at hf
    cases hf
  | succ q ih =>
    intro v1 m r hf hq
    rw [f_X10_some_L5] at hf
    refine B_blk B jlkX10_ok jcl_SKF [.aload_n 0, .getfield 19, .iconst (-1)] (by decide +kernel) (ls' := [(0, jR 74), (1, jI v1)]) (st' := [jI (-1), jI (m 74 9)]) rfl (p1 := 10) rfl ?_
    refine J_icmp_ne B.1 (off := 34) (tgt := 44) (by decide +kernel) (by decide) hf (fun hf => ?_) (fun hf => ?_)
    · refine B_blk B jlkX10_ok jcl_SKF [.aload_n 0] (by decide +kernel) (ls' := [(0, jR 74), (1, jI v1)]) (st' := [jR 74]) rfl (p1 := 14) rfl ?_
      refine J_ldcS (i := 18) (r := jXK + 18) B.1 rfl rfl (by decide) (by decide +kernel) ?_
      obtain ⟨r2, h2, hf⟩ := jbd hf
      refine B_callV B (Nat.le_refl _) (μ' := r2.2) (k' := 0) (n' := 0) ca_X10_has in_X10_has se_X10_has lk_X10_96 (t_X10_has B.tr (by decide) h2) (Nat.le_refl _) rfl rfl rfl (rest := []) rfl rfl (Nat.le_of_ble_eq_true rfl) (by decide +kernel) rfl rfl (st' := [jI r2.1]) rfl ?_
      refine J_if_eq B.1 (off := 25) (tgt := 44) (by decide +kernel) (by decide) hf (fun hf => ?_) (fun hf => ?_)
      · refine B_blk B jlkX10_ok jcl_SKF [.iload_n 1] (by decide +kernel) (ls' := [(0, jR 74), (1, jI v1)]) (st' := [jI v1]) rfl (p1 := 45) rfl ?_
        obtain ⟨gz, hf⟩ := jgd hf
        cases hf
        exact B_retZ B gz hq rfl (Nat.le_of_ble_eq_true rfl) (Nat.le_of_ble_eq_true rfl) (by decide +kernel)
      · refine B_blk B jlkX10_ok jcl_SKF [.aload_n 0] (by decide +kernel) (ls' := [(0, jR 74), (1, jI v1)]) (st' := [jR 74]) rfl (p1 := 23) rfl ?_
        obtain ⟨r3, h3, hf⟩ := jbd hf
        refine B_callV B (Nat.le_refl _) (μ' := r3.2) (k' := 0) (n' := 0) ca_X10_every in_X10_every se_X10_every lk_X10_153 (t_X10_every_6 B.tr h3) (Nat.le_refl _) rfl rfl rfl (rest := []) rfl rfl (Nat.le_of_ble_eq_true rfl) (by decide +kernel) rfl rfl (st' := [jI r3.1]) rfl ?_
        refine B_blk B jlkX10_ok jcl_SKF [.istore_n 2, .iload_n 1] (by decide +kernel) (ls' := [(0, jR 74), (1, jI v1), (2, jI r3.1)]) (st' := [jI v1]) rfl (p1 := 28) rfl ?_
        refine J_if_ne B.1 (off := 7) (tgt := 35) (by decide +kernel) (by decide) hf (fun hf => ?_) (fun hf => ?_)
        · refine B_blk B jlkX10_ok jcl_SKF [.iload_n 2] (by decide +kernel) (ls' := [(0, jR 74), (1, jI v1), (2, jI r3.1)]) (st' := [jI r3.1]) rfl (p1 := 32) rfl ?_
          refine J_if_eq B.1 (off := 7) (tgt := 39) (by decide +kernel) (by decide) hf (fun hf => ?_) (fun hf => ?_)
          · refine B_blk B jlkX10_ok jcl_SKF [.iconst 0, .istore_n 1, .goto (-36)] (by decide +kernel) (ls' := [(0, jR 74), (1, jI 0), (2, jI r3.1)]) (st' := []) rfl (p1 := 5) rfl ?_
            refine J_pick [0, 1] (ls' := [(0, jR 74), (1, jI 0)]) rfl ?_
            exact ih 0 r3.2 _ hf hq
          · refine B_blk B jlkX10_ok jcl_SKF [.iconst 1, .goto 4, .istore_n 1, .goto (-36)] (by decide +kernel) (ls' := [(0, jR 74), (1, jI 1), (2, jI r3.1)]) (st' := []) rfl (p1 := 5) rfl ?_
            refine J_pick [0, 1] (ls' := [(0, jR 74), (1, jI 1)]) rfl ?_
            exact ih 1 r3.2 _ hf hq
        · refine B_blk B jlkX10_ok jcl_SKF [.iconst 1, .goto 4, .istore_n 1, .goto (-36)] (by decide +kernel) (ls' := [(0, jR 74), (1, jI 1), (2, jI r3.1)]) (st' := []) rfl (p1 := 5) rfl ?_
          refine J_pick [0, 1] (ls' := [(0, jR 74), (1, jI 1)]) rfl ?_
          exact ih 1 r3.2 _ hf hq
    · refine B_blk B jlkX10_ok jcl_SKF [.iload_n 1] (by decide +kernel) (ls' := [(0, jR 74), (1, jI v1)]) (st' := [jI v1]) rfl (p1 := 45) rfl ?_
      obtain ⟨gz, hf⟩ := jgd hf
      cases hf
      exact B_retZ B gz hq rfl (Nat.le_of_ble_eq_true rfl) (Nat.le_of_ble_eq_true rfl) (by decide +kernel)
theorem t_X10_some_6 {l : Launch} {G : jG} (hl : l.stackTraces = false) {m : jMu} {r : (Int × jMu)} (hf : f_X10_some (fr_X10_atom 6) m = some r) : jCt l G yX10_some (.code yX10_some cX10_some 3 (some .boolean) :: jWG) rm_X10_some_6 [jR 74] SKF m (.inl (some (jI r.1))) SKF r.2 := by
  unfold f_X10_some at hf
  refine J_start (ls0 := [(0, jR 74)]) (by decide +kernel) hl (Nat.le_of_ble_eq_true rfl) rfl fun X C hN hn hR hr hnm hno hq => ?_
  have B : jB X cX10_some RX10 3 SKF.length rm_X10_some_6 (some .boolean) := ⟨C, hN, Nat.le_of_eq hn, hR, hr⟩
  refine B_blk B jlkX10_ok jcl_SKF [.aload_n 0] (by decide +kernel) (ls' := [(0, jR 74)]) (st' := [jR 74]) rfl (p1 := 1) rfl ?_
  obtain ⟨r1, h1, hf⟩ := jbd hf
  refine B_callV B (Nat.le_refl _) (μ' := r1.2) (k' := 0) (n' := 0) ca_X10_every in_X10_every se_X10_every lk_X10_153 (t_X10_every_6 B.tr h1) (Nat.le_refl _) rfl rfl rfl (rest := []) rfl rfl (Nat.le_of_ble_eq_true rfl) (by decide +kernel) rfl rfl (st' := [jI r1.1]) rfl ?_
  refine B_blk B jlkX10_ok jcl_SKF [.istore_n 1] (by decide +kernel) (ls' := [(0, jR 74), (1, jI r1.1)]) (st' := []) rfl (p1 := 5) rfl ?_
  exact t_X10_some_L5_6 B jFU r1.1 r1.2 _ hf hq

def rm_X10_atom_7 : Room := { frames := 51, cells := 0, slots := 0, locals := 813 }
theorem t_X10_atom_J44_7 {X : jX} (B : jB X cX10_atom RX10 4 SKF.length rm_X10_atom_7 (some .boolean)) (v1 : Int) (v2 : Int) (m : jMu) (r : (Int × jMu)) (hf : f_X10_atom_J44 (fr_X10_atom 6) v1 v2 m = some r) (hq : jQ X (.inl (some (jI r.1))) SKF r.2 rm_X10_atom_7.cells rm_X10_atom_7.slots) : J X SKF m 0 0 44 [(0, jR 74), (1, jI v1), (2, jI v2)] [] := by
  unfold f_X10_atom_J44 at hf
  refine B_blk B jlkX10_ok jcl_SKF [.aload_n 0, .getfield 142, .bipush 6] (by decide +kernel) (ls' := [(0, jR 74), (1, jI v1), (2, jI v2)]) (st' := [jI 6, jI (m 74 10)]) rfl (p1 := 50) rfl ?_
  refine J_icmp_ne B.1 (off := 10) (tgt := 60) (by decide +kernel) (by decide) hf (fun hf => ?_) (fun hf => ?_)
  · refine B_blk B jlkX10_ok jcl_SKF [.aload_n 0, .iload_n 1] (by decide +kernel) (ls' := [(0, jR 74), (1, jI v1), (2, jI v2)]) (st' := [jI v1, jR 74]) rfl (p1 := 55) rfl ?_
    obtain ⟨r5, h5, hf⟩ := jbd hf
    refine B_callV B (Nat.le_refl _) (μ' := r5) (k' := 0) (n' := 0) ca_X10_wrong in_X10_wrong se_X10_wrong lk_X10_87 (t_X10_wrong B.tr h5) (Nat.le_refl _) rfl rfl rfl (rest := []) rfl rfl (Nat.le_of_ble_eq_true rfl) (by decide +kernel) rfl rfl (st' := []) rfl ?_
    refine B_blk B jlkX10_ok jcl_SKF [.iconst 0] (by decide +kernel) (ls' := [(0, jR 74), (1, jI v1), (2, jI v2)]) (st' := [jI 0]) rfl (p1 := 59) rfl ?_
    cases hf
    exact B_retZ B (Or.inl rfl) hq rfl (Nat.le_of_ble_eq_true rfl) (Nat.le_of_ble_eq_true rfl) (by decide +kernel)
  · refine B_blk B jlkX10_ok jcl_SKF [.aload_n 0, .dup, .getfield 142, .iconst 1, .iadd] (by decide +kernel) (ls' := [(0, jR 74), (1, jI v1), (2, jI v2)]) (st' := [jI (jW (m 74 10 + 1)), jR 74]) rfl (p1 := 67) rfl ?_
    refine K_putI (jI' := 10) B jp_X10_142 rfl rfl rfl (by decide +kernel) ?_
    obtain ⟨m6, hm6, hf⟩ := jlt_s hf
    rw [hm6]
    refine B_blk B jlkX10_ok jcl_SKF [.iconst 0, .istore_n 3, .iload_n 2] (by decide +kernel) (ls' := [(0, jR 74), (1, jI v1), (2, jI v2), (3, jI 0)]) (st' := [jI v2]) rfl (p1 := 73) rfl ?_
    refine J_if_eq B.1 (off := 19) (tgt := 92) (by decide +kernel) (by decide) hf (fun hf => ?_) (fun hf => ?_)
    · refine B_blk B jlkX10_ok jcl_SKF [.aload_n 0, .dup, .getfield 64, .iconst 1, .iadd] (by decide +kernel) (ls' := [(0, jR 74), (1, jI v1), (2, jI v2), (3, jI 0)]) (st' := [jI (jW (m6 74 8 + 1)), jR 74]) rfl (p1 := 99) rfl ?_
      refine K_putI (jI' := 8) B jp_X10_64 rfl rfl rfl (by decide +kernel) ?_
      obtain ⟨m7, hm7, hf⟩ := jlt_s hf
      rw [hm7]
      refine B_blk B jlkX10_ok jcl_SKF [.aload_n 0] (by decide +kernel) (ls' := [(0, jR 74), (1, jI v1), (2, jI v2), (3, jI 0)]) (st' := [jR 74]) rfl (p1 := 103) rfl ?_
      obtain ⟨r8, h8, hf⟩ := jbd hf
      refine B_callV B (Nat.le_refl _) (μ' := r8.2) (k' := 0) (n' := 0) ca_X10_some in_X10_some se_X10_some lk_X10_148 (t_X10_some_6 B.tr h8) (Nat.le_refl _) rfl rfl rfl (rest := []) rfl rfl (Nat.le_of_ble_eq_true rfl) (by decide +kernel) rfl rfl (st' := [jI r8.1]) rfl ?_
      refine B_blk B jlkX10_ok jcl_SKF [.istore_n 3, .aload_n 0, .getfield 19, .iconst (-1)] (by decide +kernel) (ls' := [(0, jR 74), (1, jI v1), (2, jI v2), (3, jI r8.1)]) (st' := [jI (-1), jI (r8.2 74 9)]) rfl (p1 := 112) rfl ?_
      refine J_icmp_ne B.1 (off := 20) (tgt := 132) (by decide +kernel) (by decide) hf (fun hf => ?_) (fun hf => ?_)
      · refine B_blk B jlkX10_ok jcl_SKF [.aload_n 0, .bipush 41] (by decide +kernel) (ls' := [(0, jR 74), (1, jI v1), (2, jI v2), (3, jI r8.1)]) (st' := [jI 41, jR 74]) rfl (p1 := 118) rfl ?_
        obtain ⟨r9, h9, hf⟩ := jbd hf
        refine B_callV B (Nat.le_refl _) (μ' := r9.2) (k' := 0) (n' := 0) ca_X10_isSign in_X10_isSign se_X10_isSign lk_X10_113 (t_X10_isSign B.tr h9) (Nat.le_refl _) rfl rfl rfl (rest := []) rfl rfl (Nat.le_of_ble_eq_true rfl) (by decide +kernel) rfl rfl (st' := [jI r9.1]) rfl ?_
        refine J_if_ne B.1 (off := 11) (tgt := 132) (by decide +kernel) (by decide) hf (fun hf => ?_) (fun hf => ?_)
        · refine B_blk B jlkX10_ok jcl_SKF [.aload_n 0, .aload_n 0, .getfield 64] (by decide +kernel) (ls' := [(0, jR 74), (1, jI v1), (2, jI v2), (3, jI r8.1)]) (st' := [jI (r9.2 74 8), jR 74]) rfl (p1 := 129) rfl ?_
          obtain ⟨r10, h10, hf⟩ := jbd hf
          refine B_callV B (Nat.le_refl _) (μ' := r10) (k' := 0) (n' := 0) ca_X10_wrong in_X10_wrong se_X10_wrong lk_X10_87 (t_X10_wrong B.tr h10) (Nat.le_refl _) rfl rfl rfl (rest := []) rfl rfl (Nat.le_of_ble_eq_true rfl) (by decide +kernel) rfl rfl (st' := []) rfl ?_
          refine B_blk B jlkX10_ok jcl_SKF [.aload_n 0, .dup, .getfield 64, .iconst 1, .iadd] (by decide +kernel) (ls' := [(0, jR 74), (1, jI v1), (2, jI v2), (3, jI r8.1)]) (st' := [jI (jW (r10 74 8 + 1)), jR 74]) rfl (p1 := 139) rfl ?_
          refine K_putI (jI' := 8) B jp_X10_64 rfl rfl rfl (by decide +kernel) ?_
          obtain ⟨m11, hm11, hf⟩ := jlt_s hf
          rw [hm11]
          refine B_blk B jlkX10_ok jcl_SKF [.aload_n 0, .dup, .getfield 142, .iconst 1, .isub] (by decide +kernel) (ls' := [(0, jR 74), (1, jI v1), (2, jI v2), (3, jI r8.1)]) (st' := [jI (jW (m11 74 10 - 1)), jR 74]) rfl (p1 := 149) rfl ?_
          refine K_putI (jI' := 10) B jp_X10_142 rfl rfl rfl (by decide +kernel) ?_
          obtain ⟨m12, hm12, hf⟩ := jlt_s hf
          rw [hm12]
          refine B_blk B jlkX10_ok jcl_SKF [.iload_n 3] (by decide +kernel) (ls' := [(0, jR 74), (1, jI v1), (2, jI v2), (3, jI r8.1)]) (st' := [jI r8.1]) rfl (p1 := 153) rfl ?_
          obtain ⟨gz, hf⟩ := jgd hf
          cases hf
          exact B_retZ B gz hq rfl (Nat.le_of_ble_eq_true rfl) (Nat.le_of_ble_eq_true rfl) (by decide +kernel)
        · refine B_blk B jlkX10_ok jcl_SKF [.aload_n 0, .dup, .getfield 64, .iconst 1, .iadd] (by decide +kernel) (ls' := [(0, jR 74), (1, jI v1), (2, jI v2), (3, jI r8.1)]) (st' := [jI (jW (r9.2 74 8 + 1)), jR 74]) rfl (p1 := 139) rfl ?_
          refine K_putI (jI' := 8) B jp_X10_64 rfl rfl rfl (by decide +kernel) ?_
          obtain ⟨m13, hm13, hf⟩ := jlt_s hf
          rw [hm13]
          refine B_blk B jlkX10_ok jcl_SKF [.aload_n 0, .dup, .getfield 142, .iconst 1, .isub] (by decide +kernel) (ls' := [(0, jR 74), (1, jI v1), (2, jI v2), (3, jI r8.1)]) (st' := [jI (jW (m13 74 10 - 1)), jR 74]) rfl (p1 := 149) rfl ?_
          refine K_putI (jI' := 10) B jp_X10_142 rfl rfl rfl (by decide +kernel) ?_
          obtain ⟨m14, hm14, hf⟩ := jlt_s hf
          rw [hm14]
          refine B_blk B jlkX10_ok jcl_SKF [.iload_n 3] (by decide +kernel) (ls' := [(0, jR 74), (1, jI v1), (2, jI v2), (3, jI r8.1)]) (st' := [jI r8.1]) rfl (p1 := 153) rfl ?_
          obtain ⟨gz, hf⟩ := jgd hf
          cases hf
          exact B_retZ B gz hq rfl (Nat.le_of_ble_eq_true rfl) (Nat.le_of_ble_eq_true rfl) (by decide +kernel)
      · refine B_blk B jlkX10_ok jcl_SKF [.aload_n 0, .dup, .getfield 64, .iconst 1, .iadd] (by decide +kernel) (ls' := [(0, jR 74), (1, jI v1), (2, jI v2), (3, jI r8.1)]) (st' := [jI (jW (r8.2 74 8 + 1)), jR 74]) rfl (p1 := 139) rfl ?_
        refine K_putI (jI' := 8) B jp_X10_64 rfl rfl rfl (by decide +kernel) ?_
        obtain ⟨m15, hm15, hf⟩ := jlt_s hf
        rw [hm15]
        refine B_blk B jlkX10_ok jcl_SKF [.aload_n 0, .dup, .getfield 142, .iconst 1, .isub] (by decide +kernel) (ls' := [(0, jR 74), (1, jI v1), (2, jI v2), (3, jI r8.1)]) (st' := [jI (jW (m15 74 10 - 1)), jR 74]) rfl (p1 := 149) rfl ?_
        refine K_putI (jI' := 10) B jp_X10_142 rfl rfl rfl (by decide +kernel) ?_
        obtain ⟨m16, hm16, hf⟩ := jlt_s hf
        rw [hm16]
        refine B_blk B jlkX10_ok jcl_SKF [.iload_n 3] (by decide +kernel) (ls' := [(0, jR 74), (1, jI v1), (2, jI v2), (3, jI r8.1)]) (st' := [jI r8.1]) rfl (p1 := 153) rfl ?_
        obtain ⟨gz, hf⟩ := jgd hf
        cases hf
        exact B_retZ B gz hq rfl (Nat.le_of_ble_eq_true rfl) (Nat.le_of_ble_eq_true rfl) (by decide +kernel)
    · refine B_blk B jlkX10_ok jcl_SKF [.aload_n 0] (by decide +kernel) (ls' := [(0, jR 74), (1, jI v1), (2, jI v2), (3, jI 0)]) (st' := [jR 74]) rfl (p1 := 77) rfl ?_
      obtain ⟨r17, h17, hf⟩ := jbd hf
      refine B_callV B (Nat.le_refl _) (μ' := r17.2) (k' := 0) (n' := 0) ca_X10_atom in_X10_atom se_X10_atom lk_X10_145 (t_X10_atom_6 B.tr h17) (Nat.le_refl _) rfl rfl rfl (rest := []) rfl rfl (Nat.le_of_ble_eq_true rfl) (by decide +kernel) rfl rfl (st' := [jI r17.1]) rfl ?_
      refine J_if_ne B.1 (off := 7) (tgt := 87) (by decide +kernel) (by decide) hf (fun hf => ?_) (fun hf => ?_)
      · refine B_blk B jlkX10_ok jcl_SKF [.iconst 1, .goto 4, .istore_n 3, .goto 53, .aload_n 0, .dup, .getfield 142, .iconst 1, .isub] (by decide +kernel) (ls' := [(0, jR 74), (1, jI v1), (2, jI v2), (3, jI 1)]) (st' := [jI (jW (r17.2 74 10 - 1)), jR 74]) rfl (p1 := 149) rfl ?_
        refine K_putI (jI' := 10) B jp_X10_142 rfl rfl rfl (by decide +kernel) ?_
        obtain ⟨m18, hm18, hf⟩ := jlt_s hf
        rw [hm18]
        refine B_blk B jlkX10_ok jcl_SKF [.iload_n 3] (by decide +kernel) (ls' := [(0, jR 74), (1, jI v1), (2, jI v2), (3, jI 1)]) (st' := [jI 1]) rfl (p1 := 153) rfl ?_
        cases hf
        exact B_retZ B (Or.inr rfl) hq rfl (Nat.le_of_ble_eq_true rfl) (Nat.le_of_ble_eq_true rfl) (by decide +kernel)
      · refine B_blk B jlkX10_ok jcl_SKF [.iconst 0, .istore_n 3, .goto 53, .aload_n 0, .dup, .getfield 142, .iconst 1, .isub] (by decide +kernel) (ls' := [(0, jR 74), (1, jI v1), (2, jI v2), (3, jI 0)]) (st' := [jI (jW (r17.2 74 10 - 1)), jR 74]) rfl (p1 := 149) rfl ?_
        refine K_putI (jI' := 10) B jp_X10_142 rfl rfl rfl (by decide +kernel) ?_
        obtain ⟨m19, hm19, hf⟩ := jlt_s hf
        rw [hm19]
        refine B_blk B jlkX10_ok jcl_SKF [.iload_n 3] (by decide +kernel) (ls' := [(0, jR 74), (1, jI v1), (2, jI v2), (3, jI 0)]) (st' := [jI 0]) rfl (p1 := 153) rfl ?_
        cases hf
        exact B_retZ B (Or.inl rfl) hq rfl (Nat.le_of_ble_eq_true rfl) (Nat.le_of_ble_eq_true rfl) (by decide +kernel)
theorem t_X10_atom_7 {l : Launch} {G : jG} (hl : l.stackTraces = false) {m : jMu} {r : (Int × jMu)} (hf : fr_X10_atom 7 m = some r) : jCt l G yX10_atom (.code yX10_atom cX10_atom 4 (some .boolean) :: jWG) rm_X10_atom_7 [jR 74] SKF m (.inl (some (jI r.1))) SKF r.2 := by
  rw [fr_X10_atom] at hf
  unfold f_X10_atom at hf
  refine J_start (ls0 := [(0, jR 74)]) (by decide +kernel) hl (Nat.le_of_ble_eq_true rfl) rfl fun X C hN hn hR hr hnm hno hq => ?_
  have B : jB X cX10_atom RX10 4 SKF.length rm_X10_atom_7 (some .boolean) := ⟨C, hN, Nat.le_of_eq hn, hR, hr⟩
  refine B_blk B jlkX10_ok jcl_SKF [.aload_n 0, .getfield 19, .iconst (-1)] (by decide +kernel) (ls' := [(0, jR 74)]) (st' := [jI (-1), jI (m 74 9)]) rfl (p1 := 5) rfl ?_
  refine J_icmp_eq B.1 (off := 5) (tgt := 10) (by decide +kernel) (by decide) hf (fun hf => ?_) (fun hf => ?_)
  · refine B_blk B jlkX10_ok jcl_SKF [.aload_n 0] (by decide +kernel) (ls' := [(0, jR 74)]) (st' := [jR 74]) rfl (p1 := 11) rfl ?_
    obtain ⟨r1, h1, hf⟩ := jbd hf
    refine B_callV B (Nat.le_refl _) (μ' := r1) (k' := 0) (n' := 0) ca_X10_skip in_X10_skip se_X10_skip lk_X10_74 (t_X10_skip B.tr h1) (Nat.le_refl _) rfl rfl rfl (rest := []) rfl rfl (Nat.le_of_ble_eq_true rfl) (by decide +kernel) rfl rfl (st' := []) rfl ?_
    refine B_blk B jlkX10_ok jcl_SKF [.aload_n 0, .getfield 64, .istore_n 1, .aload_n 0] (by decide +kernel) (ls' := [(0, jR 74), (1, jI (r1 74 8))]) (st' := [jR 74]) rfl (p1 := 20) rfl ?_
    refine J_ldcS (i := 7) (r := jXK + 7) B.1 rfl rfl (by decide) (by decide +kernel) ?_
    obtain ⟨r2, h2, hf⟩ := jbd hf
    refine B_callV B (Nat.le_refl _) (μ' := r2.2) (k' := 0) (n' := 0) ca_X10_has in_X10_has se_X10_has lk_X10_96 (t_X10_has B.tr (by decide) h2) (Nat.le_refl _) rfl rfl rfl (rest := []) rfl rfl (Nat.le_of_ble_eq_true rfl) (by decide +kernel) rfl rfl (st' := [jI r2.1]) rfl ?_
    refine B_blk B jlkX10_ok jcl_SKF [.istore_n 2, .iload_n 2] (by decide +kernel) (ls' := [(0, jR 74), (1, jI (r1 74 8)), (2, jI r2.1)]) (st' := [jI r2.1]) rfl (p1 := 27) rfl ?_
    refine J_if_ne B.1 (off := 17) (tgt := 44) (by decide +kernel) (by decide) hf (fun hf => ?_) (fun hf => ?_)
    · refine B_blk B jlkX10_ok jcl_SKF [.aload_n 0, .bipush 40] (by decide +kernel) (ls' := [(0, jR 74), (1, jI (r1 74 8)), (2, jI r2.1)]) (st' := [jI 40, jR 74]) rfl (p1 := 33) rfl ?_
      obtain ⟨r3, h3, hf⟩ := jbd hf
      refine B_callV B (Nat.le_refl _) (μ' := r3.2) (k' := 0) (n' := 0) ca_X10_isSign in_X10_isSign se_X10_isSign lk_X10_113 (t_X10_isSign B.tr h3) (Nat.le_refl _) rfl rfl rfl (rest := []) rfl rfl (Nat.le_of_ble_eq_true rfl) (by decide +kernel) rfl rfl (st' := [jI r3.1]) rfl ?_
      refine J_if_ne B.1 (off := 8) (tgt := 44) (by decide +kernel) (by decide) hf (fun hf => ?_) (fun hf => ?_)
      · refine B_blk B jlkX10_ok jcl_SKF [.aload_n 0] (by decide +kernel) (ls' := [(0, jR 74), (1, jI (r1 74 8)), (2, jI r2.1)]) (st' := [jR 74]) rfl (p1 := 40) rfl ?_
        obtain ⟨r4, h4, hf⟩ := jbd hf
        refine B_callV B (Nat.le_refl _) (μ' := r4.2) (k' := 0) (n' := 0) ca_X10_plain in_X10_plain se_X10_plain lk_X10_138 (t_X10_plain B.tr h4) (Nat.le_refl _) rfl rfl rfl (rest := []) rfl rfl (Nat.le_of_ble_eq_true rfl) (by decide +kernel) rfl rfl (st' := [jI r4.1]) rfl ?_
        obtain ⟨gz, hf⟩ := jgd hf
        cases hf
        exact B_retZ B gz hq rfl (Nat.le_of_ble_eq_true rfl) (Nat.le_of_ble_eq_true rfl) (by decide +kernel)
      · exact t_X10_atom_J44_7 B (r1 74 8) r2.1 r3.2 _ hf hq
    · exact t_X10_atom_J44_7 B (r1 74 8) r2.1 r2.2 _ hf hq
  · refine B_blk B jlkX10_ok jcl_SKF [.iconst 0] (by decide +kernel) (ls' := [(0, jR 74)]) (st' := [jI 0]) rfl (p1 := 9) rfl ?_
    cases hf
    exact B_retZ B (Or.inl rfl) hq rfl (Nat.le_of_ble_eq_true rfl) (Nat.le_of_ble_eq_true rfl) (by decide +kernel)

def rm_X10_every_7 : Room := { frames := 53, cells := 0, slots := 0, locals := 836 }
theorem t_X10_every_L5_7 {X : jX} (B : jB X cX10_every RX10 3 SKF.length rm_X10_every_7 (some .boolean)) : ∀ (q : Nat) (v1 : Int) (m : jMu) (r : (Int × jMu)), f_X10_every_L5 (fr_X10_atom 7) q v1 m = some r → jQ X (.inl (some (jI r.1))) SKF r.2 rm_X10_every_7.cells rm_X10_every_7.slots → J X SKF m 0 0 5 [(0, jR 74), (1, jI v1)] [] := by
  intro q
  induction q with
  | zero =>
    intro v1 m r hf
    rw [f_X10_every_L5] at hf
    cases hf
  | succ q ih =>
    intro v1 m r hf hq
    rw [f_X10_every_L5] at hf
    refine B_blk B jlkX10_ok jcl_SKF [.aload_n 0, .getfield 19, .iconst (-1)] (by decide +kernel) (ls' := [(0, jR 74), (1, jI v1)]) (st' := [jI (-1), jI (m 74 9)]) rfl (p1 := 10) rfl ?_
    refine J_icmp_ne B.1 (off := 34) (tgt := 44) (by decide +kernel) (by decide) hf (fun hf => ?_) (fun hf => ?_)
    · refine B_blk B jlkX10_ok jcl_SKF [.aload_n 0] (by decide +kernel) (ls' := [(0, jR 74), (1, jI v1)]) (st' := [jR 74]) rfl (p1 := 14) rfl ?_
      refine J_ldcS (i := 17) (r := jXK + 17) B.1 rfl rfl (by decide) (by decide +kernel) ?_
      obtain ⟨r2, h2, hf⟩ := jbd hf
      refine B_callV B (Nat.le_refl _) (μ' := r2.2) (k' := 0) (n' := 0) ca_X10_has in_X10_has se_X10_has lk_X10_96 (t_X10_has B.tr (by decide) h2) (Nat.le_refl _) rfl rfl rfl (rest := []) rfl rfl (Nat.le_of_ble_eq_true rfl) (by decide +kernel) rfl rfl (st' := [jI r2.1]) rfl ?_
      refine J_if_eq B.1 (off := 25) (tgt := 44) (by decide +kernel) (by decide) hf (fun hf => ?_) (fun hf => ?_)
      · refine B_blk B jlkX10_ok jcl_SKF [.iload_n 1] (by decide +kernel) (ls' := [(0, jR 74), (1, jI v1)]) (st' := [jI v1]) rfl (p1 := 45) rfl ?_
        obtain ⟨gz, hf⟩ := jgd hf
        cases hf
        exact B_retZ B gz hq rfl (Nat.le_of_ble_eq_true rfl) (Nat.le_of_ble_eq_true rfl) (by decide +kernel)
      · refine B_blk B jlkX10_ok jcl_SKF [.aload_n 0] (by decide +kernel) (ls' := [(0, jR 74), (1, jI v1)]) (st' := [jR 74]) rfl (p1 := 23) rfl ?_
        obtain ⟨r3, h3, hf⟩ := jbd hf
        refine B_callV B (Nat.le_refl _) (μ' := r3.2) (k' := 0) (n' := 0) ca_X10_atom in_X10_atom se_X10_atom lk_X10_145 (t_X10_atom_7 B.tr h3) (Nat.le_refl _) rfl rfl rfl (rest := []) rfl rfl (Nat.le_of_ble_eq_true rfl) (by decide +kernel) rfl rfl (st' := [jI r3.1]) rfl ?_
        refine B_blk B jlkX10_ok jcl_SKF [.istore_n 2, .iload_n 1] (by decide +kernel) (ls' := [(0, jR 74), (1, jI v1), (2, jI r3.1)]) (st' := [jI v1]) rfl (p1 := 28) rfl ?_
        refine J_if_eq B.1 (off := 11) (tgt := 39) (by decide +kernel) (by decide) hf (fun hf => ?_) (fun hf => ?_)
        · refine B_blk B jlkX10_ok jcl_SKF [.iconst 0, .istore_n 1, .goto (-36)] (by decide +kernel) (ls' := [(0, jR 74), (1, jI 0), (2, jI r3.1)]) (st' := []) rfl (p1 := 5) rfl ?_
          refine J_pick [0, 1] (ls' := [(0, jR 74), (1, jI 0)]) rfl ?_
          exact ih 0 r3.2 _ hf hq
        · refine B_blk B jlkX10_ok jcl_SKF [.iload_n 2] (by decide +kernel) (ls' := [(0, jR 74), (1, jI v1), (2, jI r3.1)]) (st' := [jI r3.1]) rfl (p1 := 32) rfl ?_
          refine J_if_eq B.1 (off := 7) (tgt := 39) (by decide +kernel) (by decide) hf (fun hf => ?_) (fun hf => ?_)
          · refine B_blk B jlkX10_ok jcl_SKF [.iconst 0, .istore_n 1, .goto (-36)] (by decide +kernel) (ls' := [(0, jR 74), (1, jI 0), (2, jI r3.1)]) (st' := []) rfl (p1 := 5) rfl ?_
            refine J_pick [0, 1] (ls' := [(0, jR 74), (1, jI 0)]) rfl ?_
            exact ih 0 r3.2 _ hf hq
          · refine B_blk B jlkX10_ok jcl_SKF [.iconst 1, .goto 4, .istore_n 1, .goto (-36)] (by decide +kernel) (ls' := [(0, jR 74), (1, jI 1), (2, jI r3.1)]) (st' := []) rfl (p1 := 5) rfl ?_
            refine J_pick [0, 1] (ls' := [(0, jR 74), (1, jI 1)]) rfl ?_
            exact ih 1 r3.2 _ hf hq
    · refine B_blk B jlkX10_ok jcl_SKF [.iload_n 1] (by decide +kernel) (ls' := [(0, jR 74), (1, jI v1)]) (st' := [jI v1]) rfl (p1 := 45) rfl ?_
      obtain ⟨gz, hf⟩ := jgd hf
      cases hf
      exact B_retZ B gz hq rfl (Nat.le_of_ble_eq_true rfl) (Nat.le_of_ble_eq_true rfl) (by decide +kernel)
theorem t_X10_every_7 {l : Launch} {G : jG} (hl : l.stackTraces = false) {m : jMu} {r : (Int × jMu)} (hf : f_X10_every (fr_X10_atom 7) m = some r) : jCt l G yX10_every (.code yX10_every cX10_every 3 (some .boolean) :: jWG) rm_X10_every_7 [jR 74] SKF m (.inl (some (jI r.1))) SKF r.2 := by
  unfold f_X10_every at hf
  refine J_start (ls0 := [(0, jR 74)]) (by decide +kernel) hl (Nat.le_of_ble_eq_true rfl) rfl fun X C hN hn hR hr hnm hno hq => ?_
  have B : jB X cX10_every RX10 3 SKF.length rm_X10_every_7 (some .boolean) := ⟨C, hN, Nat.le_of_eq hn, hR, hr⟩
  refine B_blk B jlkX10_ok jcl_SKF [.aload_n 0] (by decide +kernel) (ls' := [(0, jR 74)]) (st' := [jR 74]) rfl (p1 := 1) rfl ?_
  obtain ⟨r1, h1, hf⟩ := jbd hf
  refine B_callV B (Nat.le_refl _) (μ' := r1.2) (k' := 0) (n' := 0) ca_X10_atom in_X10_atom se_X10_atom lk_X10_145 (t_X10_atom_7 B.tr h1) (Nat.le_refl _) rfl rfl rfl (rest := []) rfl rfl (Nat.le_of_ble_eq_true rfl) (by decide +kernel) rfl rfl (st' := [jI r1.1]) rfl ?_
  refine B_blk B jlkX10_ok jcl_SKF [.istore_n 1] (by decide +kernel) (ls' := [(0, jR 74), (1, jI r1.1)]) (st' := []) rfl (p1 := 5) rfl ?_
  exact t_X10_every_L5_7 B jFU r1.1 r1.2 _ hf hq

def rm_X10_some_7 : Room := { frames := 55, cells := 0, slots := 0, locals := 858 }
theorem t_X10_some_L5_7 {X : jX} (B : jB X cX10_some RX10 3 SKF.length rm_X10_some_7 (some .boolean)) : ∀ (q : Nat) (v1 : Int) (m : jMu) (r : (Int × jMu)), f_X10_some_L5 (fr_X10_atom 7) q v1 m = some r → jQ X (.inl (some (jI r.1))) SKF r.2 rm_X10_some_7.cells rm_X10_some_7.slots → J X SKF m 0 0 5 [(0, jR 74), (1, jI v1)] [] := by
  intro q
  induction q with
  | zero =>
    intro v1 m r hf
    rw [f_X10_some_L5] at hf
    cases hf
  | succ q ih =>
    intro v1 m r hf hq
    rw [f_X10_some_L5] at hf
    refine B_blk B jlkX10_ok jcl_SKF [.aload_n 0, .getfield 19, .iconst (-1)] (by decide +kernel) (ls' := [(0, jR 74), (1, jI v1)]) (st' := [jI (-1), jI (m 74 9)]) rfl (p1 := 10) rfl ?_
    refine J_icmp_ne B.1 (off := 34) (tgt := 44) (by decide +kernel) (by decide) hf (fun hf => ?_) (fun hf => ?_)
    · refine B_blk B jlkX10_ok jcl_SKF [.aload_n 0] (by decide +kernel) (ls' := [(0, jR 74), (1, jI v1)]) (st' := [jR 74]) rfl (p1 := 14) rfl ?_
      refine J_ldcS (i := 18) (r := jXK + 18) B.1 rfl rfl (by decide) (by decide +kernel) ?_
      obtain ⟨r2, h2, hf⟩ := jbd hf
      refine B_callV B (Nat.le_refl _) (μ' := r2.2) (k' := 0) (n' := 0) ca_X10_has in_X10_has se_X10_has lk_X10_96 (t_X10_has B.tr (by decide) h2) (Nat.le_refl _) rfl rfl rfl (rest := []) rfl rfl (Nat.le_of_ble_eq_true rfl) (by decide +kernel) rfl rfl (st' := [jI r2.1]) rfl ?_
      refine J_if_eq B.1 (off := 25) (tgt := 44) (by decide +kernel) (by decide) hf (fun hf => ?_) (fun hf => ?_)
      · refine B_blk B jlkX10_ok jcl_SKF [.iload_n 1] (by decide +kernel) (ls' := [(0, jR 74), (1, jI v1)]) (st' := [jI v1]) rfl (p1 := 45) rfl ?_
        obtain ⟨gz, hf⟩ := jgd hf
        cases hf
        exact B_retZ B gz hq rfl (Nat.le_of_ble_eq_true rfl) (Nat.le_of_ble_eq_true rfl) (by decide +kernel)
      · refine B_blk B jlkX10_ok jcl_SKF [.aload_n 0] (by decide +kernel) (ls' := [(0, jR 74), (1, jI v1)]) (st' := [jR 74]) rfl (p1 := 23) rfl ?_
        obtain ⟨r3, h3, hf⟩ := jbd hf
        refine B_callV B (Nat.le_refl _) (μ' := r3.2) (k' := 0) (n' := 0) ca_X10_every in_X10_every se_X10_every lk_X10_153 (t_X10_every_7 B.tr h3) (Nat.le_refl _) rfl rfl rfl (rest := []) rfl rfl (Nat.le_of_ble_eq_true rfl) (by decide +kernel) rfl rfl (st' := [jI r3.1]) rfl ?_
        refine B_blk B jlkX10_ok jcl_SKF [.istore_n 2, .iload_n 1] (by decide +kernel) (ls' := [(0, jR 74), (1, jI v1), (2, jI r3.1)]) (st' := [jI v1]) rfl (p1 := 28) rfl ?_
        refine J_if_ne B.1 (off := 7) (tgt := 35) (by decide +kernel) (by decide) hf (fun hf => ?_) (fun hf => ?_)
        · refine B_blk B jlkX10_ok jcl_SKF [.iload_n 2] (by decide +kernel) (ls' := [(0, jR 74), (1, jI v1), (2, jI r3.1)]) (st' := [jI r3.1]) rfl (p1 := 32) rfl ?_
          refine J_if_eq B.1 (off := 7) (tgt := 39) (by decide +kernel) (by decide) hf (fun hf => ?_) (fun hf => ?_)
          · refine B_blk B jlkX10_ok jcl_SKF [.iconst 0, .istore_n 1, .goto (-36)] (by decide +kernel) (ls' := [(0, jR 74), (1, jI 0), (2, jI r3.1)]) (st' := []) rfl (p1 := 5) rfl ?_
            refine J_pick [0, 1] (ls' := [(0, jR 74), (1, jI 0)]) rfl ?_
            exact ih 0 r3.2 _ hf hq
          · refine B_blk B jlkX10_ok jcl_SKF [.iconst 1, .goto 4, .istore_n 1, .goto (-36)] (by decide +kernel) (ls' := [(0, jR 74), (1, jI 1), (2, jI r3.1)]) (st' := []) rfl (p1 := 5) rfl ?_
            refine J_pick [0, 1] (ls' := [(0, jR 74), (1, jI 1)]) rfl ?_
            exact ih 1 r3.2 _ hf hq
        · refine B_blk B jlkX10_ok jcl_SKF [.iconst 1, .goto 4, .istore_n 1, .goto (-36)] (by decide +kernel) (ls' := [(0, jR 74), (1, jI 1), (2, jI r3.1)]) (st' := []) rfl (p1 := 5) rfl ?_
          refine J_pick [0, 1] (ls' := [(0, jR 74), (1, jI 1)]) rfl ?_
          exact ih 1 r3.2 _ hf hq
    · refine B_blk B jlkX10_ok jcl_SKF [.iload_n 1] (by decide +kernel) (ls' := [(0, jR 74), (1, jI v1)]) (st' := [jI v1]) rfl (p1 := 45) rfl ?_
      obtain ⟨gz, hf⟩ := jgd hf
      cases hf
      exact B_retZ B gz hq rfl (Nat.le_of_ble_eq_true rfl) (Nat.le_of_ble_eq_true rfl) (by decide +kernel)
theorem t_X10_some_7 {l : Launch} {G : jG} (hl : l.stackTraces = false) {m : jMu} {r : (Int × jMu)} (hf : f_X10_some (fr_X10_atom 7) m = some r) : jCt l G yX10_some (.code yX10_some cX10_some 3 (some .boolean) :: jWG) rm_X10_some_7 [jR 74] SKF m (.inl (some (jI r.1))) SKF r.2 := by
  unfold f_X10_some at hf
  refine J_start (ls0 := [(0, jR 74)]) (by decide +kernel) hl (Nat.le_of_ble_eq_true rfl) rfl fun X C hN hn hR hr hnm hno hq => ?_
  have B : jB X cX10_some RX10 3 SKF.length rm_X10_some_7 (some .boolean) := ⟨C, hN, Nat.le_of_eq hn, hR, hr⟩
  refine B_blk B jlkX10_ok jcl_SKF [.aload_n 0] (by decide +kernel) (ls' := [(0, jR 74)]) (st' := [jR 74]) rfl (p1 := 1) rfl ?_
  obtain ⟨r1, h1, hf⟩ := jbd hf
  refine B_callV B (Nat.le_refl _) (μ' := r1.2) (k' := 0) (n' := 0) ca_X10_every in_X10_every se_X10_every lk_X10_153 (t_X10_every_7 B.tr h1) (Nat.le_refl _) rfl rfl rfl (rest := []) rfl rfl (Nat.le_of_ble_eq_true rfl) (by decide +kernel) rfl rfl (st' := [jI r1.1]) rfl ?_
  refine B_blk B jlkX10_ok jcl_SKF [.istore_n 1] (by decide +kernel) (ls' := [(0, jR 74), (1, jI r1.1)]) (st' := []) rfl (p1 := 5) rfl ?_
  exact t_X10_some_L5_7 B jFU r1.1 r1.2 _ hf hq

def rm_X10_atom_8 : Room := { frames := 57, cells := 0, slots := 0, locals := 880 }
theorem t_X10_atom_J44_8 {X : jX} (B : jB X cX10_atom RX10 4 SKF.length rm_X10_atom_8 (some .boolean)) (v1 : Int) (v2 : Int) (m : jMu) (r : (Int × jMu)) (hf : f_X10_atom_J44 (fr_X10_atom 7) v1 v2 m = some r) (hq : jQ X (.inl (some (jI r.1))) SKF r.2 rm_X10_atom_8.cells rm_X10_atom_8.slots) : J X SKF m 0 0 44 [(0, jR 74), (1, jI v1), (2, jI v2)] [] := by
  unfold f_X10_atom_J44 at hf
  refine B_blk B jlkX10_ok jcl_SKF [.aload_n 0, .getfield 142, .bipush 6] (by decide +kernel) (ls' := [(0, jR 74), (1, jI v1), (2, jI v2)]) (st' := [jI 6, jI (m 74 10)]) rfl (p1 := 50) rfl ?_
  refine J_icmp_ne B.1 (off := 10) (tgt := 60) (by decide +kernel) (by decide) hf (fun hf => ?_) (fun hf => ?_)
  · refine B_blk B jlkX10_ok jcl_SKF [.aload_n 0, .iload_n 1] (by decide +kernel) (ls' := [(0, jR 74), (1, jI v1), (2, jI v2)]) (st' := [jI v1, jR 74]) rfl (p1 := 55) rfl ?_
    obtain ⟨r5, h5, hf⟩ := jbd hf
    refine B_callV B (Nat.le_refl _) (μ' := r5) (k' := 0) (n' := 0) ca_X10_wrong in_X10_wrong se_X10_wrong lk_X10_87 (t_X10_wrong B.tr h5) (Nat.le_refl _) rfl rfl rfl (rest := []) rfl rfl (Nat.le_of_ble_eq_true rfl) (by decide +kernel) rfl rfl (st' := []) rfl ?_
    refine B_blk B jlkX10_ok jcl_SKF [.iconst 0] (by decide +kernel) (ls' := [(0, jR 74), (1, jI v1), (2, jI v2)]) (st' := [jI 0]) rfl (p1 := 59) rfl ?_
    cases hf
    exact B_retZ B (Or.inl rfl) hq rfl (Nat.le_of_ble_eq_true rfl) (Nat.le_of_ble_eq_true rfl) (by decide +kernel)
  · refine B_blk B jlkX10_ok jcl_SKF [.aload_n 0, .dup, .getfield 142, .iconst 1, .iadd] (by decide +kernel) (ls' := [(0, jR 74), (1, jI v1), (2, jI v2)]) (st' := [jI (jW (m 74 10 + 1)), jR 74]) rfl (p1 := 67) rfl ?_
    refine K_putI (jI' := 10) B jp_X10_142 rfl rfl rfl (by decide +kernel) ?_
    obtain ⟨m6, hm6, hf⟩ := jlt_s hf
    rw [hm6]
    refine B_blk B jlkX10_ok jcl_SKF [.iconst 0, .istore_n 3, .iload_n 2] (by decide +kernel) (ls' := [(0, jR 74), (1, jI v1), (2, jI v2), (3, jI 0)]) (st' := [jI v2]) rfl (p1 := 73) rfl ?_
    refine J_if_eq B.1 (off := 19) (tgt := 92) (by decide +kernel) (by decide) hf (fun hf => ?_) (fun hf => ?_)
    · refine B_blk B jlkX10_ok jcl_SKF [.aload_n 0, .dup, .getfield 64, .iconst 1, .iadd] (by decide +kernel) (ls' := [(0, jR 74), (1, jI v1), (2, jI v2), (3, jI 0)]) (st' := [jI (jW (m6 74 8 + 1)), jR 74]) rfl (p1 := 99) rfl ?_
      refine K_putI (jI' := 8) B jp_X10_64 rfl rfl rfl (by decide +kernel) ?_
      obtain ⟨m7, hm7, hf⟩ := jlt_s hf
      rw [hm7]
      refine B_blk B jlkX10_ok jcl_SKF [.aload_n 0] (by decide +kernel) (ls' := [(0, jR 74), (1, jI v1), (2, jI v2), (3, jI 0)]) (st' := [jR 74]) rfl (p1 := 103) rfl ?_
      obtain ⟨r8, h8, hf⟩ := jbd hf
      refine B_callV B (Nat.le_refl _) (μ' := r8.2) (k' := 0) (n' := 0) ca_X10_some in_X10_some se_X10_some lk_X10_148 (t_X10_some_7 B.tr h8) (Nat.le_refl _) rfl rfl rfl (rest := []) rfl rfl (Nat.le_of_ble_eq_true rfl) (by decide +kernel) rfl rfl (st' := [jI r8.1]) rfl ?_
      refine B_blk B jlkX10_ok jcl_SKF [.istore_n 3, .aload_n 0, .getfield 19, .iconst (-1)] (by decide +kernel) (ls' := [(0, jR 74), (1, jI v1), (2, jI v2), (3, jI r8.1)]) (st' := [jI (-1), jI (r8.2 74 9)]) rfl (p1 := 112) rfl ?_
      refine J_icmp_ne B.1 (off := 20) (tgt := 132) (by decide +kernel) (by decide) hf (fun hf => ?_) (fun hf => ?_)
      · refine B_blk B jlkX10_ok jcl_SKF [.aload_n 0, .bipush 41] (by decide +kernel) (ls' := [(0, jR 74), (1, jI v1), (2, jI v2), (3, jI r8.1)]) (st' := [jI 41, jR 74]) rfl (p1 := 118) rfl ?_
        obtain ⟨r9, h9, hf⟩ := jbd hf
        refine B_callV B (Nat.le_refl _) (μ' := r9.2) (k' := 0) (n' := 0) ca_X10_isSign in_X10_isSign se_X10_isSign lk_X10_113 (t_X10_isSign B.tr h9) (Nat.le_refl _) rfl rfl rfl (rest := []) rfl rfl (Nat.le_of_ble_eq_true rfl) (by decide +kernel) rfl rfl (st' := [jI r9.1]) rfl ?_
        refine J_if_ne B.1 (off := 11) (tgt := 132) (by decide +kernel) (by decide) hf (fun hf => ?_) (fun hf => ?_)
        · refine B_blk B jlkX10_ok jcl_SKF [.aload_n 0, .aload_n 0, .getfield 64] (by decide +kernel) (ls' := [(0, jR 74), (1, jI v1), (2, jI v2), (3, jI r8.1)]) (st' := [jI (r9.2 74 8), jR 74]) rfl (p1 := 129) rfl ?_
          obtain ⟨r10, h10, hf⟩ := jbd hf
          refine B_callV B (Nat.le_refl _) (μ' := r10) (k' := 0) (n' := 0) ca_X10_wrong in_X10_wrong se_X10_wrong lk_X10_87 (t_X10_wrong B.tr h10) (Nat.le_refl _) rfl rfl rfl (rest := []) rfl rfl (Nat.le_of_ble_eq_true rfl) (by decide +kernel) rfl rfl (st' := []) rfl ?_
          refine B_blk B jlkX10_ok jcl_SKF [.aload_n 0, .dup, .getfield 64, .iconst 1, .iadd] (by decide +kernel) (ls' := [(0, jR 74), (1, jI v1), (2, jI v2), (3, jI r8.1)]) (st' := [jI (jW (r10 74 8 + 1)), jR 74]) rfl (p1 := 139) rfl ?_
          refine K_putI (jI' := 8) B jp_X10_64 rfl rfl rfl (by decide +kernel) ?_
          obtain ⟨m11, hm11, hf⟩ := jlt_s hf
          rw [hm11]
          refine B_blk B jlkX10_ok jcl_SKF [.aload_n 0, .dup, .getfield 142, .iconst 1, .isub] (by decide +kernel) (ls' := [(0, jR 74), (1, jI v1), (2, jI v2), (3, jI r8.1)]) (st' := [jI (jW (m11 74 10 - 1)), jR 74]) rfl (p1 := 149) rfl ?_
          refine K_putI (jI' := 10) B jp_X10_142 rfl rfl rfl (by decide +kernel) ?_
          obtain ⟨m12, hm12, hf⟩ := jlt_s hf
          rw [hm12]
          refine B_blk B jlkX10_ok jcl_SKF [.iload_n 3] (by decide +kernel) (ls' := [(0, jR 74), (1, jI v1), (2, jI v2), (3, jI r8.1)]) (st' := [jI r8.1]) rfl (p1 := 153) rfl ?_
          obtain ⟨gz, hf⟩ := jgd hf
          cases hf
          exact B_retZ B gz hq rfl (Nat.le_of_ble_eq_true rfl) (Nat.le_of_ble_eq_true rfl) (by decide +kernel)
        · refine B_blk B jlkX10_ok jcl_SKF [.aload_n 0, .dup, .getfield 64, .iconst 1, .iadd] (by decide +kernel) (ls' := [(0, jR 74), (1, jI v1), (2, jI v2), (3, jI r8.1)]) (st' := [jI (jW (r9.2 74 8 + 1)), jR 74]) rfl (p1 := 139) rfl ?_
          refine K_putI (jI' := 8) B jp_X10_64 rfl rfl rfl (by decide +kernel) ?_
          obtain ⟨m13, hm13, hf⟩ := jlt_s hf
          rw [hm13]
          refine B_blk B jlkX10_ok jcl_SKF [.aload_n 0, .dup, .getfield 142, .iconst 1, .isub] (by decide +kernel) (ls' := [(0, jR 74), (1, jI v1), (2, jI v2), (3, jI r8.1)]) (st' := [jI (jW (m13 74 10 - 1)), jR 74]) rfl (p1 := 149) rfl ?_
          refine K_putI (jI' := 10) B jp_X10_142 rfl rfl rfl (by decide +kernel) ?_
          obtain ⟨m14, hm14, hf⟩ := jlt_s hf
          rw [hm14]
          refine B_blk B jlkX10_ok jcl_SKF [.iload_n 3] (by decide +kernel) (ls' := [(0, jR 74), (1, jI v1), (2, jI v2), (3, jI r8.1)]) (st' := [jI r8.1]) rfl (p1 := 153) rfl ?_
          obtain ⟨gz, hf⟩ := jgd hf
          cases hf
          exact B_retZ B gz hq rfl (Nat.le_of_ble_eq_true rfl) (Nat.le_of_ble_eq_true rfl) (by decide +kernel)
      · refine B_blk B jlkX10_ok jcl_SKF [.aload_n 0, .dup, .getfield 64, .iconst 1, .iadd] (by decide +kernel) (ls' := [(0, jR 74), (1, jI v1), (2, jI v2), (3, jI r8.1)]) (st' := [jI (jW (r8.2 74 8 + 1)), jR 74]) rfl (p1 := 139) rfl ?_
        refine K_putI (jI' := 8) B jp_X10_64 rfl rfl rfl (by decide +kernel) ?_
        obtain ⟨m15, hm15, hf⟩ := jlt_s hf
        rw [hm15]
        refine B_blk B jlkX10_ok jcl_SKF [.aload_n 0, .dup, .getfield 142, .iconst 1, .isub] (by decide +kernel) (ls' := [(0, jR 74), (1, jI v1), (2, jI v2), (3, jI r8.1)]) (st' := [jI (jW (m15 74 10 - 1)), jR 74]) rfl (p1 := 149) rfl ?_
        refine K_putI (jI' := 10) B jp_X10_142 rfl rfl rfl (by decide +kernel) ?_
        obtain ⟨m16, hm16, hf⟩ := jlt_s hf
        rw [hm16]
        refine B_blk B jlkX10_ok jcl_SKF [.iload_n 3] (by decide +kernel) (ls' := [(0, jR 74), (1, jI v1), (2, jI v2), (3, jI r8.1)]) (st' := [jI r8.1]) rfl (p1 := 153) rfl ?_
        obtain ⟨gz, hf⟩ := jgd hf
        cases hf
        exact B_retZ B gz hq rfl (Nat.le_of_ble_eq_true rfl) (Nat.le_of_ble_eq_true rfl) (by decide +kernel)
    · refine B_blk B jlkX10_ok jcl_SKF [.aload_n 0] (by decide +kernel) (ls' := [(0, jR 74), (1, jI v1), (2, jI v2), (3, jI 0)]) (st' := [jR 74]) rfl (p1 := 77) rfl ?_
      obtain ⟨r17, h17, hf⟩ := jbd hf
      refine B_callV B (Nat.le_refl _) (μ' := r17.2) (k' := 0) (n' := 0) ca_X10_atom in_X10_atom se_X10_atom lk_X10_145 (t_X10_atom_7 B.tr h17) (Nat.le_refl _) rfl rfl rfl (rest := []) rfl rfl (Nat.le_of_ble_eq_true rfl) (by decide +kernel) rfl rfl (st' := [jI r17.1]) rfl ?_
      refine J_if_ne B.1 (off := 7) (tgt := 87) (by decide +kernel) (by decide) hf (fun hf => ?_) (fun hf => ?_)
      · refine B_blk B jlkX10_ok jcl_SKF [.iconst 1, .goto 4, .istore_n 3, .goto 53, .aload_n 0, .dup, .getfield 142, .iconst 1, .isub] (by decide +kernel) (ls' := [(0, jR 74), (1, jI v1), (2, jI v2), (3, jI 1)]) (st' := [jI (jW (r17.2 74 10 - 1)), jR 74]) rfl (p1 := 149) rfl ?_
        refine K_putI (jI' := 10) B jp_X10_142 rfl rfl rfl (by decide +kernel) ?_
        obtain ⟨m18, hm18, hf⟩ := jlt_s hf
        rw [hm18]
        refine B_blk B jlkX10_ok jcl_SKF [.iload_n 3] (by decide +kernel) (ls' := [(0, jR 74), (1, jI v1), (2, jI v2), (3, jI 1)]) (st' := [jI 1]) rfl (p1 := 153) rfl ?_
        cases hf
        exact B_retZ B (Or.inr rfl) hq rfl (Nat.le_of_ble_eq_true rfl) (Nat.le_of_ble_eq_true rfl) (by decide +kernel)
      · refine B_blk B jlkX10_ok jcl_SKF [.iconst 0, .istore_n 3, .goto 53, .aload_n 0, .dup, .getfield 142, .iconst 1, .isub] (by decide +kernel) (ls' := [(0, jR 74), (1, jI v1), (2, jI v2), (3, jI 0)]) (st' := [jI (jW (r17.2 74 10 - 1)), jR 74]) rfl (p1 := 149) rfl ?_
        refine K_putI (jI' := 10) B jp_X10_142 rfl rfl rfl (by decide +kernel) ?_
        obtain ⟨m19, hm19, hf⟩ := jlt_s hf
        rw [hm19]
        refine B_blk B jlkX10_ok jcl_SKF [.iload_n 3] (by decide +kernel) (ls' := [(0, jR 74), (1, jI v1), (2, jI v2), (3, jI 0)]) (st' := [jI 0]) rfl (p1 := 153) rfl ?_
        cases hf
        exact B_retZ B (Or.inl rfl) hq rfl (Nat.le_of_ble_eq_true rfl) (Nat.le_of_ble_eq_true rfl) (by decide +kernel)
theorem t_X10_atom_8 {l : Launch} {G : jG} (hl : l.stackTraces = false) {m : jMu} {r : (Int × jMu)} (hf : fr_X10_atom 8 m = some r) : jCt l G yX10_atom (.code yX10_atom cX10_atom 4 (some .boolean) :: jWG) rm_X10_atom_8 [jR 74] SKF m (.inl (some (jI r.1))) SKF r.2 := by
  rw [fr_X10_atom] at hf
  unfold f_X10_atom at hf
  refine J_start (ls0 := [(0, jR 74)]) (by decide +kernel) hl (Nat.le_of_ble_eq_true rfl) rfl fun X C hN hn hR hr hnm hno hq => ?_
  have B : jB X cX10_atom RX10 4 SKF.length rm_X10_atom_8 (some .boolean) := ⟨C, hN, Nat.le_of_eq hn, hR, hr⟩
  refine B_blk B jlkX10_ok jcl_SKF [.aload_n 0, .getfield 19, .iconst (-1)] (by decide +kernel) (ls' := [(0, jR 74)]) (st' := [jI (-1), jI (m 74 9)]) rfl (p1 := 5) rfl ?_
  refine J_icmp_eq B.1 (off := 5) (tgt := 10) (by decide +kernel) (by decide) hf (fun hf => ?_) (fun hf => ?_)
  · refine B_blk B jlkX10_ok jcl_SKF [.aload_n 0] (by decide +kernel) (ls' := [(0, jR 74)]) (st' := [jR 74]) rfl (p1 := 11) rfl ?_
    obtain ⟨r1, h1, hf⟩ := jbd hf
    refine B_callV B (Nat.le_refl _) (μ' := r1) (k' := 0) (n' := 0) ca_X10_skip in_X10_skip se_X10_skip lk_X10_74 (t_X10_skip B.tr h1) (Nat.le_refl _) rfl rfl rfl (rest := []) rfl rfl (Nat.le_of_ble_eq_true rfl) (by decide +kernel) rfl rfl (st' := []) rfl ?_
    refine B_blk B jlkX10_ok jcl_SKF [.aload_n 0, .getfield 64, .istore_n 1, .aload_n 0] (by decide +kernel) (ls' := [(0, jR 74), (1, jI (r1 74 8))]) (st' := [jR 74]) rfl (p1 := 20) rfl ?_
    refine J_ldcS (i := 7) (r := jXK + 7) B.1 rfl rfl (by decide) (by decide +kernel) ?_
    obtain ⟨r2, h2, hf⟩ := jbd hf
    refine B_callV B (Nat.le_refl _) (μ' := r2.2) (k' := 0) (n' := 0) ca_X10_has in_X10_has se_X10_has lk_X10_96 (t_X10_has B.tr (by decide) h2) (Nat.le_refl _) rfl rfl rfl (rest := []) rfl rfl (Nat.le_of_ble_eq_true rfl) (by decide +kernel) rfl rfl (st' := [jI r2.1]) rfl ?_
    refine B_blk B jlkX10_ok jcl_SKF [.istore_n 2, .iload_n 2] (by decide +kernel) (ls' := [(0, jR 74), (1, jI (r1 74 8)), (2, jI r2.1)]) (st' := [jI r2.1]) rfl (p1 := 27) rfl ?_
    refine J_if_ne B.1 (off := 17) (tgt := 44) (by decide +kernel) (by decide) hf (fun hf => ?_) (fun hf => ?_)
    · refine B_blk B jlkX10_ok jcl_SKF [.aload_n 0, .bipush 40] (by decide +kernel) (ls' := [(0, jR 74), (1, jI (r1 74 8)), (2, jI r2.1)]) (st' := [jI 40, jR 74]) rfl (p1 := 33) rfl ?_
      obtain ⟨r3, h3, hf⟩ := jbd hf
      refine B_callV B (Nat.le_refl _) (μ' := r3.2) (k' := 0) (n' := 0) ca_X10_isSign in_X10_isSign se_X10_isSign lk_X10_113 (t_X10_isSign B.tr h3) (Nat.le_refl _) rfl rfl rfl (rest := []) rfl rfl (Nat.le_of_ble_eq_true rfl) (by decide +kernel) rfl rfl (st' := [jI r3.1]) rfl ?_
      refine J_if_ne B.1 (off := 8) (tgt := 44) (by decide +kernel) (by decide) hf (fun hf => ?_) (fun hf => ?_)
      · refine B_blk B jlkX10_ok jcl_SKF [.aload_n 0] (by decide +kernel) (ls' := [(0, jR 74), (1, jI (r1 74 8)), (2, jI r2.1)]) (st' := [jR 74]) rfl (p1 := 40) rfl ?_
        obtain ⟨r4, h4, hf⟩ := jbd hf
        refine B_callV B (Nat.le_refl _) (μ' := r4.2) (k' := 0) (n' := 0) ca_X10_plain in_X10_plain se_X10_plain lk_X10_138 (t_X10_plain B.tr h4) (Nat.le_refl _) rfl rfl rfl (rest := []) rfl rfl (Nat.le_of_ble_eq_true rfl) (by decide +kernel) rfl rfl (st' := [jI r4.1]) rfl ?_
        obtain ⟨gz, hf⟩ := jgd hf
        cases hf
        exact B_retZ B gz hq rfl (Nat.le_of_ble_eq_true rfl) (Nat.le_of_ble_eq_true rfl) (by decide +kernel)
      · exact t_X10_atom_J44_8 B (r1 74 8) r2.1 r3.2 _ hf hq
    · exact t_X10_atom_J44_8 B (r1 74 8) r2.1 r2.2 _ hf hq
  · refine B_blk B jlkX10_ok jcl_SKF [.iconst 0] (by decide +kernel) (ls' := [(0, jR 74)]) (st' := [jI 0]) rfl (p1 := 9) rfl ?_
    cases hf
    exact B_retZ B (Or.inl rfl) hq rfl (Nat.le_of_ble_eq_true rfl) (Nat.le_of_ble_eq_true rfl) (by decide +kernel)

def rm_X10_every_8 : Room := { frames := 59, cells := 0, slots := 0, locals := 903 }
theorem t_X10_every_L5_8 {X : jX} (B : jB X cX10_every RX10 3 SKF.length rm_X10_every_8 (some .boolean)) : ∀ (q : Nat) (v1 : Int) (m : jMu) (r : (Int × jMu)), f_X10_every_L5 (fr_X10_atom 8) q v1 m = some r → jQ X (.inl (some (jI r.1))) SKF r.2 rm_X10_every_8.cells rm_X10_every_8.slots → J X SKF m 0 0 5 [(0, jR 74), (1, jI v1)] [] := by
  intro q
  induction q with
  | zero =>
    intro v1 m r hf
    rw [f_X10_every_L5] at hf
    cases hf
  | succ q ih =>
    intro v1 m r hf hq
    rw [f_X10_every_L5] at hf
    refine B_blk B jlkX10_ok jcl_SKF [.aload_n 0, .getfield 19, .iconst (-1)] (by decide +kernel) (ls' := [(0, jR 74), (1, jI v1)]) (st' := [jI (-1), jI (m 74 9)]) rfl (p1 := 10) rfl ?_
    refine J_icmp_ne B.1 (off := 34) (tgt := 44) (by decide +kernel) (by decide) hf (fun hf => ?_) (fun hf => ?_)
    · refine B_blk B jlkX10_ok jcl_SKF [.aload_n 0] (by decide +kernel) (ls' := [(0, jR 74), (1, jI v1)]) (st' := [jR 74]) rfl (p1 := 14) rfl ?_
      refine J_ldcS (i := 17) (r := jXK + 17) B.1 rfl rfl (by decide) (by decide +kernel) ?_
      obtain ⟨r2, h2, hf⟩ := jbd hf
      refine B_callV B (Nat.le_refl _) (μ' := r2.2) (k' := 0) (n' := 0) ca_X10_has in_X10_has se_X10_has lk_X10_96 (t_X10_has B.tr (by decide) h2) (Nat.le_refl _) rfl rfl rfl (rest := []) rfl rfl (Nat.le_of_ble_eq_true rfl) (by decide +kernel) rfl rfl (st' := [jI r2.1]) rfl ?_
      refine J_if_eq B.1 (off := 25) (tgt := 44) (by decide +kernel) (by decide) hf (fun hf => ?_) (fun hf => ?_)
      · refine B_blk B jlkX10_ok jcl_SKF [.iload_n 1] (by decide +kernel) (ls' := [(0, jR 74), (1, jI v1)]) (st' := [jI v1]) rfl (p1 := 45) rfl ?_
        obtain ⟨gz, hf⟩ := jgd hf
        cases hf
        exact B_retZ B gz hq rfl (Nat.le_of_ble_eq_true rfl) (Nat.le_of_ble_eq_true rfl) (by decide +kernel)
      · refine B_blk B jlkX10_ok jcl_SKF [.aload_n 0] (by decide +kernel) (ls' := [(0, jR 74), (1, jI v1)]) (st' := [jR 74]) rfl (p1 := 23) rfl ?_
        obtain ⟨r3, h3, hf⟩ := jbd hf
        refine B_callV B (Nat.le_refl _) (μ' := r3.2) (k' := 0) (n' := 0) ca_X10_atom in_X10_atom se_X10_atom lk_X10_145 (t_X10_atom_8 B.tr h3) (Nat.le_refl _) rfl rfl rfl (rest := []) rfl rfl (Nat.le_of_ble_eq_true rfl) (by decide +kernel) rfl rfl (st' := [jI r3.1]) rfl ?_
        refine B_blk B jlkX10_ok jcl_SKF [.istore_n 2, .iload_n 1] (by decide +kernel) (ls' := [(0, jR 74), (1, jI v1), (2, jI r3.1)]) (st' := [jI v1]) rfl (p1 := 28) rfl ?_
        refine J_if_eq B.1 (off := 11) (tgt := 39) (by decide +kernel) (by decide) hf (fun hf => ?_) (fun hf => ?_)
        · refine B_blk B jlkX10_ok jcl_SKF [.iconst 0, .istore_n 1, .goto (-36)] (by decide +kernel) (ls' := [(0, jR 74), (1, jI 0), (2, jI r3.1)]) (st' := []) rfl (p1 := 5) rfl ?_
          refine J_pick [0, 1] (ls' := [(0, jR 74), (1, jI 0)]) rfl ?_
          exact ih 0 r3.2 _ hf hq
        · refine B_blk B jlkX10_ok jcl_SKF [.iload_n 2] (by decide +kernel) (ls' := [(0, jR 74), (1, jI v1), (2, jI r3.1)]) (st' := [jI r3.1]) rfl (p1 := 32) rfl ?_
          refine J_if_eq B.1 (off := 7) (tgt := 39) (by decide +kernel) (by decide) hf (fun hf => ?_) (fun hf => ?_)
          · refine B_blk B jlkX10_ok jcl_SKF [.iconst 0, .istore_n 1, .goto (-36)] (by decide +kernel) (ls' := [(0, jR 74), (1, jI 0), (2, jI r3.1)]) (st' := []) rfl (p1 := 5) rfl ?_
            refine J_pick [0, 1] (ls' := [(0, jR 74), (1, jI 0)]) rfl ?_
            exact ih 0 r3.2 _ hf hq
          · refine B_blk B jlkX10_ok jcl_SKF [.iconst 1, .goto 4, .istore_n 1, .goto (-36)] (by decide +kernel) (ls' := [(0, jR 74), (1, jI 1), (2, jI r3.1)]) (st' := []) rfl (p1 := 5) rfl ?_
            refine J_pick [0, 1] (ls' := [(0, jR 74), (1, jI 1)]) rfl ?_
            exact ih 1 r3.2 _ hf hq
    · refine B_blk B jlkX10_ok jcl_SKF [.iload_n 1] (by decide +kernel) (ls' := [(0, jR 74), (1, jI v1)]) (st' := [jI v1]) rfl (p1 := 45) rfl ?_
      obtain ⟨gz, hf⟩ := jgd hf
      cases hf
      exact B_retZ B gz hq rfl (Nat.le_of_ble_eq_true rfl) (Nat.le_of_ble_eq_true rfl) (by decide +kernel)
theorem t_X10_every_8 {l : Launch} {G : jG} (hl : l.stackTraces = false) {m : jMu} {r : (Int × jMu)} (hf : f_X10_every (fr_X10_atom 8) m = some r) : jCt l G yX10_every (.code yX10_every cX10_every 3 (some .boolean) :: jWG) rm_X10_every_8 [jR 74] SKF m (.inl (some (jI r.1))) SKF r.2 := by
  unfold f_X10_every at hf
  refine J_start (ls0 := [(0, jR 74)]) (by decide +kernel) hl (Nat.le_of_ble_eq_true rfl) rfl fun X C hN hn hR hr hnm hno hq => ?_
  have B : jB X cX10_every RX10 3 SKF.length rm_X10_every_8 (some .boolean) := ⟨C, hN, Nat.le_of_eq hn, hR, hr⟩
  refine B_blk B jlkX10_ok jcl_SKF [.aload_n 0] (by decide +kernel) (ls' := [(0, jR 74)]) (st' := [jR 74]) rfl (p1 := 1) rfl ?_
  obtain ⟨r1, h1, hf⟩ := jbd hf
  refine B_callV B (Nat.le_refl _) (μ' := r1.2) (k' := 0) (n' := 0) ca_X10_atom in_X10_atom se_X10_atom lk_X10_145 (t_X10_atom_8 B.tr h1) (Nat.le_refl _) rfl rfl rfl (rest := []) rfl rfl (Nat.le_of_ble_eq_true rfl) (by decide +kernel) rfl rfl (st' := [jI r1.1]) rfl ?_
  refine B_blk B jlkX10_ok jcl_SKF [.istore_n 1] (by decide +kernel) (ls' := [(0, jR 74), (1, jI r1.1)]) (st' := []) rfl (p1 := 5) rfl ?_
  exact t_X10_every_L5_8 B jFU r1.1 r1.2 _ hf hq

def rm_X10_some_8 : Room := { frames := 61, cells := 0, slots := 0, locals := 925 }
theorem t_X10_some_L5_8 {X : jX} (B : jB X cX10_some RX10 3 SKF.length rm_X10_some_8 (some .boolean)) : ∀ (q : Nat) (v1 : Int) (m : jMu) (r : (Int × jMu)), f_X10_some_L5 (fr_X10_atom 8) q v1 m = some r → jQ X (.inl (some (jI r.1))) SKF r.2 rm_X10_some_8.cells rm_X10_some_8.slots → J X SKF m 0 0 5 [(0, jR 74), (1, jI v1)] [] := by
  intro q
  induction q with
  | zero =>
    intro v1 m r hf
    rw [f_X10_some_L5] at hf
    cases hf
  | succ q ih =>
    intro v1 m r hf hq
    rw [f_X10_some_L5] at hf
    refine B_blk B jlkX10_ok jcl_SKF [.aload_n 0, .getfield 19, .iconst (-1)] (by decide +kernel) (ls' := [(0, jR 74), (1, jI v1)]) (st' := [jI (-1), jI (m 74 9)]) rfl (p1 := 10) rfl ?_
    refine J_icmp_ne B.1 (off := 34) (tgt := 44) (by decide +kernel) (by decide) hf (fun hf => ?_) (fun hf => ?_)
    · refine B_blk B jlkX10_ok jcl_SKF [.aload_n 0] (by decide +kernel) (ls' := [(0, jR 74), (1, jI v1)]) (st' := [jR 74]) rfl (p1 := 14) rfl ?_
      refine J_ldcS (i := 18) (r := jXK + 18) B.1 rfl rfl (by decide) (by decide +kernel) ?_
      obtain ⟨r2, h2, hf⟩ := jbd hf
      refine B_callV B (Nat.le_refl _) (μ' := r2.2) (k' := 0) (n' := 0) ca_X10_has in_X10_has se_X10_has lk_X10_96 (t_X10_has B.tr (by decide) h2) (Nat.le_refl _) rfl rfl rfl (rest := []) rfl rfl (Nat.le_of_ble_eq_true rfl) (by decide +kernel) rfl rfl (st' := [jI r2.1]) rfl ?_
      refine J_if_eq B.1 (off := 25) (tgt := 44) (by decide +kernel) (by decide) hf (fun hf => ?_) (fun hf => ?_)
      · refine B_blk B jlkX10_ok jcl_SKF [.iload_n 1] (by decide +kernel) (ls' := [(0, jR 74), (1, jI v1)]) (st' := [jI v1]) rfl (p1 := 45) rfl ?_
        obtain ⟨gz, hf⟩ := jgd hf
        cases hf
        exact B_retZ B gz hq rfl (Nat.le_of_ble_eq_true rfl) (Nat.le_of_ble_eq_true rfl) (by decide +kernel)
      · refine B_blk B jlkX10_ok jcl_SKF [.aload_n 0] (by decide +kernel) (ls' := [(0, jR 74), (1, jI v1)]) (st' := [jR 74]) rfl (p1 := 23) rfl ?_
        obtain ⟨r3, h3, hf⟩ := jbd hf
        refine B_callV B (Nat.le_refl _) (μ' := r3.2) (k' := 0) (n' := 0) ca_X10_every in_X10_every se_X10_every lk_X10_153 (t_X10_every_8 B.tr h3) (Nat.le_refl _) rfl rfl rfl (rest := []) rfl rfl (Nat.le_of_ble_eq_true rfl) (by decide +kernel) rfl rfl (st' := [jI r3.1]) rfl ?_
        refine B_blk B jlkX10_ok jcl_SKF [.istore_n 2, .iload_n 1] (by decide +kernel) (ls' := [(0, jR 74), (1, jI v1), (2, jI r3.1)]) (st' := [jI v1]) rfl (p1 := 28) rfl ?_
        refine J_if_ne B.1 (off := 7) (tgt := 35) (by decide +kernel) (by decide) hf (fun hf => ?_) (fun hf => ?_)
        · refine B_blk B jlkX10_ok jcl_SKF [.iload_n 2] (by decide +kernel) (ls' := [(0, jR 74), (1, jI v1), (2, jI r3.1)]) (st' := [jI r3.1]) rfl (p1 := 32) rfl ?_
          refine J_if_eq B.1 (off := 7) (tgt := 39) (by decide +kernel) (by decide) hf (fun hf => ?_) (fun hf => ?_)
          · refine B_blk B jlkX10_ok jcl_SKF [.iconst 0, .istore_n 1, .goto (-36)] (by decide +kernel) (ls' := [(0, jR 74), (1, jI 0), (2, jI r3.1)]) (st' := []) rfl (p1 := 5) rfl ?_
            refine J_pick [0, 1] (ls' := [(0, jR 74), (1, jI 0)]) rfl ?_
            exact ih 0 r3.2 _ hf hq
          · refine B_blk B jlkX10_ok jcl_SKF [.iconst 1, .goto 4, .istore_n 1, .goto (-36)] (by decide +kernel) (ls' := [(0, jR 74), (1, jI 1), (2, jI r3.1)]) (st' := []) rfl (p1 := 5) rfl ?_
            refine J_pick [0, 1] (ls' := [(0, jR 74), (1, jI 1)]) rfl ?_
            exact ih 1 r3.2 _ hf hq
        · refine B_blk B jlkX10_ok jcl_SKF [.iconst 1, .goto 4, .istore_n 1, .goto (-36)] (by decide +kernel) (ls' := [(0, jR 74), (1, jI 1), (2, jI r3.1)]) (st' := []) rfl (p1 := 5) rfl ?_
          refine J_pick [0, 1] (ls' := [(0, jR 74), (1, jI 1)]) rfl ?_
          exact ih 1 r3.2 _ hf hq
    · refine B_blk B jlkX10_ok jcl_SKF [.iload_n 1] (by decide +kernel) (ls' := [(0, jR 74), (1, jI v1)]) (st' := [jI v1]) rfl (p1 := 45) rfl ?_
      obtain ⟨gz, hf⟩ := jgd hf
      cases hf
      exact B_retZ B gz hq rfl (Nat.le_of_ble_eq_true rfl) (Nat.le_of_ble_eq_true rfl) (by decide +kernel)
theorem t_X10_some_8 {l : Launch} {G : jG} (hl : l.stackTraces = false) {m : jMu} {r : (Int × jMu)} (hf : f_X10_some (fr_X10_atom 8) m = some r) : jCt l G yX10_some (.code yX10_some cX10_some 3 (some .boolean) :: jWG) rm_X10_some_8 [jR 74] SKF m (.inl (some (jI r.1))) SKF r.2 := by
  unfold f_X10_some at hf
  refine J_start (ls0 := [(0, jR 74)]) (by decide +kernel) hl (Nat.le_of_ble_eq_true rfl) rfl fun X C hN hn hR hr hnm hno hq => ?_
  have B : jB X cX10_some RX10 3 SKF.length rm_X10_some_8 (some .boolean) := ⟨C, hN, Nat.le_of_eq hn, hR, hr⟩
  refine B_blk B jlkX10_ok jcl_SKF [.aload_n 0] (by decide +kernel) (ls' := [(0, jR 74)]) (st' := [jR 74]) rfl (p1 := 1) rfl ?_
  obtain ⟨r1, h1, hf⟩ := jbd hf
  refine B_callV B (Nat.le_refl _) (μ' := r1.2) (k' := 0) (n' := 0) ca_X10_every in_X10_every se_X10_every lk_X10_153 (t_X10_every_8 B.tr h1) (Nat.le_refl _) rfl rfl rfl (rest := []) rfl rfl (Nat.le_of_ble_eq_true rfl) (by decide +kernel) rfl rfl (st' := [jI r1.1]) rfl ?_
  refine B_blk B jlkX10_ok jcl_SKF [.istore_n 1] (by decide +kernel) (ls' := [(0, jR 74), (1, jI r1.1)]) (st' := []) rfl (p1 := 5) rfl ?_
  exact t_X10_some_L5_8 B jFU r1.1 r1.2 _ hf hq

def rm_X10_line : Room := { frames := 63, cells := 0, slots := 0, locals := 947 }
def f_X10_line_J186 (v2 : Int) (v3 : Int) (m : jMu) : Option jMu :=
  (if v2 = 2 then (jlt (jup m 74 17 v3) fun m10 => (if v2 = 3 then (jlt (jup m10 74 18 v3) fun m11 => some m11) else some m10)) else (if v2 = 3 then (jlt (jup m 74 18 v3) fun m12 => some m12) else some m))
def f_X10_line_J176 (v2 : Int) (v3 : Int) (m : jMu) : Option jMu :=
  (if v2 = 1 then (jlt (jup m 74 16 v3) fun m9 => f_X10_line_J186 v2 v3 m9) else f_X10_line_J186 v2 v3 m)
def f_X10_line_J143 (v1 : Int) (v2 : Int) (v3 : Int) (s0 : Int) (m : jMu) : Option jMu :=
  (if s0 = 0 then some m else (if m 74 9 = (-1) then (if v2 = 0 then (if m 74 15 = (-1) then (jlt (jup m 74 15 v1) fun m8 => f_X10_line_J176 v2 v3 m8) else f_X10_line_J176 v2 v3 m) else f_X10_line_J176 v2 v3 m) else some m))
def f_X10_line_J138 (v1 : Int) (v2 : Int) (v3 : Int) (m : jMu) : Option jMu :=
  f_X10_line_J143 v1 v2 v3 1 m
def f_X10_line_J126 (v1 : Int) (v2 : Int) (v3 : Int) (v4 : Int) (m : jMu) : Option jMu :=
  (if v4 = 0 then f_X10_line_J138 v1 v2 v3 m else (f_X10_some (fr_X10_atom 8) m).bind fun r13 => (if r13.1 = 0 then f_X10_line_J143 v1 v2 v3 0 r13.2 else f_X10_line_J138 v1 v2 v3 r13.2))
def f_X10_line_J91 (v1 : Int) (v2 : Int) (s0 : Int) (m : jMu) : Option jMu :=
  (if m 74 9 = (-1) then (f_X10_has 6 m).bind fun r6 => (if v2 = 0 then (if r6.1 = 0 then (f_X10_wrong (r6.2 74 8) r6.2).bind fun r7 => f_X10_line_J126 v1 v2 s0 r6.1 r7 else f_X10_line_J126 v1 v2 s0 r6.1 r6.2) else f_X10_line_J126 v1 v2 s0 r6.1 r6.2) else some m)
def f_X10_line_J88 (v1 : Int) (v2 : Int) (s1 : Int) (m : jMu) : Option jMu :=
  (f_X10_number s1 m).bind fun r14 => f_X10_line_J91 v1 v2 r14.1 r14.2
def f_X10_line_J67 (v1 : Int) (v2 : Int) (m : jMu) : Option jMu :=
  (if v2 = 0 then f_X10_line_J91 v1 v2 0 m else (if v2 = 1 then f_X10_line_J88 v1 v2 48 m else f_X10_line_J88 v1 v2 99 m))
def f_X10_line_J53 (v1 : Int) (s0 : Int) (m : jMu) : Option jMu :=
  (if s0 = (-1) then (f_X10_wrong (m 74 8) m).bind fun r5 => f_X10_line_J67 v1 s0 r5 else f_X10_line_J67 v1 s0 m)
def f_X10_line (a0 : Int) (m : jMu) : Option jMu :=
  (f_X10_has 2 m).bind fun r1 => (if r1.1 = 0 then (f_X10_has 3 r1.2).bind fun r2 => (if r2.1 = 0 then (f_X10_has 4 r2.2).bind fun r3 => (if r3.1 = 0 then (f_X10_has 5 r3.2).bind fun r4 => (if r4.1 = 0 then f_X10_line_J53 a0 (-1) r4.2 else f_X10_line_J53 a0 3 r4.2) else f_X10_line_J53 a0 2 r3.2) else f_X10_line_J53 a0 1 r2.2) else f_X10_line_J53 a0 0 r1.2)
theorem t_X10_line_J186 {X : jX} (B : jB X cX10_line RX10 6 SKF.length rm_X10_line none) (v2 : Int) (v3 : Int) (m : jMu) (r : jMu) (hf : f_X10_line_J186 v2 v3 m = some r) (hq : jQ X (.inl none) SKF r rm_X10_line.cells rm_X10_line.slots) : J X SKF m 0 0 186 [(0, jR 74), (2, jI v2), (3, jI v3)] [] := by
  unfold f_X10_line_J186 at hf
  refine B_blk B jlkX10_ok jcl_SKF [.iload_n 2, .iconst 2] (by decide +kernel) (ls' := [(0, jR 74), (2, jI v2), (3, jI v3)]) (st' := [jI 2, jI v2]) rfl (p1 := 188) rfl ?_
  refine J_icmp_ne B.1 (off := 8) (tgt := 196) (by decide +kernel) (by decide) hf (fun hf => ?_) (fun hf => ?_)
  · refine B_blk B jlkX10_ok jcl_SKF [.aload_n 0, .iload_n 3] (by decide +kernel) (ls' := [(0, jR 74), (2, jI v2), (3, jI v3)]) (st' := [jI v3, jR 74]) rfl (p1 := 193) rfl ?_
    refine K_putI (jI' := 17) B jp_X10_172 rfl rfl rfl (by decide +kernel) ?_
    obtain ⟨m10, hm10, hf⟩ := jlt_s hf
    rw [hm10]
    refine B_blk B jlkX10_ok jcl_SKF [.iload_n 2, .iconst 3] (by decide +kernel) (ls' := [(0, jR 74), (2, jI v2), (3, jI v3)]) (st' := [jI 3, jI v2]) rfl (p1 := 198) rfl ?_
    refine J_icmp_ne B.1 (off := 8) (tgt := 206) (by decide +kernel) (by decide) hf (fun hf => ?_) (fun hf => ?_)
    · refine B_blk B jlkX10_ok jcl_SKF [.aload_n 0, .iload_n 3] (by decide +kernel) (ls' := [(0, jR 74), (2, jI v2), (3, jI v3)]) (st' := [jI v3, jR 74]) rfl (p1 := 203) rfl ?_
      refine K_putI (jI' := 18) B jp_X10_174 rfl rfl rfl (by decide +kernel) ?_
      obtain ⟨m11, hm11, hf⟩ := jlt_s hf
      rw [hm11]
      cases hf
      exact B_retV B hq rfl (Nat.le_of_ble_eq_true rfl) (Nat.le_of_ble_eq_true rfl) (by decide +kernel)
    · cases hf
      exact B_retV B hq rfl (Nat.le_of_ble_eq_true rfl) (Nat.le_of_ble_eq_true rfl) (by decide +kernel)
  · refine B_blk B jlkX10_ok jcl_SKF [.iload_n 2, .iconst 3] (by decide +kernel) (ls' := [(0, jR 74), (2, jI v2), (3, jI v3)]) (st' := [jI 3, jI v2]) rfl (p1 := 198) rfl ?_
    refine J_icmp_ne B.1 (off := 8) (tgt := 206) (by decide +kernel) (by decide) hf (fun hf => ?_) (fun hf => ?_)
    · refine B_blk B jlkX10_ok jcl_SKF [.aload_n 0, .iload_n 3] (by decide +kernel) (ls' := [(0, jR 74), (2, jI v2), (3, jI v3)]) (st' := [jI v3, jR 74]) rfl (p1 := 203) rfl ?_
      refine K_putI (jI' := 18) B jp_X10_174 rfl rfl rfl (by decide +kernel) ?_
      obtain ⟨m12, hm12, hf⟩ := jlt_s hf
      rw [hm12]
      cases hf
      exact B_retV B hq rfl (Nat.le_of_ble_eq_true rfl) (Nat.le_of_ble_eq_true rfl) (by decide +kernel)
    · cases hf
      exact B_retV B hq rfl (Nat.le_of_ble_eq_true rfl) (Nat.le_of_ble_eq_true rfl) (by decide +kernel)
theorem t_X10_line_J176 {X : jX} (B : jB X cX10_line RX10 6 SKF.length rm_X10_line none) (v2 : Int) (v3 : Int) (m : jMu) (r : jMu) (hf : f_X10_line_J176 v2 v3 m = some r) (hq : jQ X (.inl none) SKF r rm_X10_line.cells rm_X10_line.slots) : J X SKF m 0 0 176 [(0, jR 74), (2, jI v2), (3, jI v3)] [] := by
  unfold f_X10_line_J176 at hf
  refine B_blk B jlkX10_ok jcl_SKF [.iload_n 2, .iconst 1] (by decide +kernel) (ls' := [(0, jR 74), (2, jI v2), (3, jI v3)]) (st' := [jI 1, jI v2]) rfl (p1 := 178) rfl ?_
  refine J_icmp_ne B.1 (off := 8) (tgt := 186) (by decide +kernel) (by decide) hf (fun hf => ?_) (fun hf => ?_)
  · refine B_blk B jlkX10_ok jcl_SKF [.aload_n 0, .iload_n 3] (by decide +kernel) (ls' := [(0, jR 74), (2, jI v2), (3, jI v3)]) (st' := [jI v3, jR 74]) rfl (p1 := 183) rfl ?_
    refine K_putI (jI' := 16) B jp_X10_170 rfl rfl rfl (by decide +kernel) ?_
    obtain ⟨m9, hm9, hf⟩ := jlt_s hf
    rw [hm9]
    exact t_X10_line_J186 B v2 v3 m9 _ hf hq
  · exact t_X10_line_J186 B v2 v3 m _ hf hq
theorem t_X10_line_J143 {X : jX} (B : jB X cX10_line RX10 6 SKF.length rm_X10_line none) (v1 : Int) (v2 : Int) (v3 : Int) (s0 : Int) (m : jMu) (r : jMu) (hf : f_X10_line_J143 v1 v2 v3 s0 m = some r) (hq : jQ X (.inl none) SKF r rm_X10_line.cells rm_X10_line.slots) : J X SKF m 0 0 143 [(0, jR 74), (1, jI v1), (2, jI v2), (3, jI v3)] [jI s0] := by
  unfold f_X10_line_J143 at hf
  refine B_blk B jlkX10_ok jcl_SKF [.istore 5, .iload 5] (by decide +kernel) (ls' := [(0, jR 74), (1, jI v1), (2, jI v2), (3, jI v3), (5, jI s0)]) (st' := [jI s0]) rfl (p1 := 147) rfl ?_
  refine J_if_eq B.1 (off := 11) (tgt := 158) (by decide +kernel) (by decide) hf (fun hf => ?_) (fun hf => ?_)
  · cases hf
    exact B_retV B hq rfl (Nat.le_of_ble_eq_true rfl) (Nat.le_of_ble_eq_true rfl) (by decide +kernel)
  · refine B_blk B jlkX10_ok jcl_SKF [.aload_n 0, .getfield 19, .iconst (-1)] (by decide +kernel) (ls' := [(0, jR 74), (1, jI v1), (2, jI v2), (3, jI v3), (5, jI s0)]) (st' := [jI (-1), jI (m 74 9)]) rfl (p1 := 155) rfl ?_
    refine J_icmp_eq B.1 (off := 4) (tgt := 159) (by decide +kernel) (by decide) hf (fun hf => ?_) (fun hf => ?_)
    · refine B_blk B jlkX10_ok jcl_SKF [.iload_n 2] (by decide +kernel) (ls' := [(0, jR 74), (1, jI v1), (2, jI v2), (3, jI v3), (5, jI s0)]) (st' := [jI v2]) rfl (p1 := 160) rfl ?_
      refine J_if_ne B.1 (off := 16) (tgt := 176) (by decide +kernel) (by decide) hf (fun hf => ?_) (fun hf => ?_)
      · refine B_blk B jlkX10_ok jcl_SKF [.aload_n 0, .getfield 168, .iconst (-1)] (by decide +kernel) (ls' := [(0, jR 74), (1, jI v1), (2, jI v2), (3, jI v3), (5, jI s0)]) (st' := [jI (-1), jI (m 74 15)]) rfl (p1 := 168) rfl ?_
        refine J_icmp_ne B.1 (off := 8) (tgt := 176) (by decide +kernel) (by decide) hf (fun hf => ?_) (fun hf => ?_)
        · refine B_blk B jlkX10_ok jcl_SKF [.aload_n 0, .iload_n 1] (by decide +kernel) (ls' := [(0, jR 74), (1, jI v1), (2, jI v2), (3, jI v3), (5, jI s0)]) (st' := [jI v1, jR 74]) rfl (p1 := 173) rfl ?_
          refine K_putI (jI' := 15) B jp_X10_168 rfl rfl rfl (by decide +kernel) ?_
          obtain ⟨m8, hm8, hf⟩ := jlt_s hf
          rw [hm8]
          refine J_pick [0, 2, 3] (ls' := [(0, jR 74), (2, jI v2), (3, jI v3)]) rfl ?_
          exact t_X10_line_J176 B v2 v3 m8 _ hf hq
        · refine J_pick [0, 2, 3] (ls' := [(0, jR 74), (2, jI v2), (3, jI v3)]) rfl ?_
          exact t_X10_line_J176 B v2 v3 m _ hf hq
      · refine J_pick [0, 2, 3] (ls' := [(0, jR 74), (2, jI v2), (3, jI v3)]) rfl ?_
        exact t_X10_line_J176 B v2 v3 m _ hf hq
    · cases hf
      exact B_retV B hq rfl (Nat.le_of_ble_eq_true rfl) (Nat.le_of_ble_eq_true rfl) (by decide +kernel)
theorem t_X10_line_J138 {X : jX} (B : jB X cX10_line RX10 6 SKF.length rm_X10_line none) (v1 : Int) (v2 : Int) (v3 : Int) (m : jMu) (r : jMu) (hf : f_X10_line_J138 v1 v2 v3 m = some r) (hq : jQ X (.inl none) SKF r rm_X10_line.cells rm_X10_line.slots) : J X SKF m 0 0 138 [(0, jR 74), (1, jI v1), (2, jI v2), (3, jI v3)] [] := by
  unfold f_X10_line_J138 at hf
  refine B_blk B jlkX10_ok jcl_SKF [.iconst 1, .goto 4] (by decide +kernel) (ls' := [(0, jR 74), (1, jI v1), (2, jI v2), (3, jI v3)]) (st' := [jI 1]) rfl (p1 := 143) rfl ?_
  exact t_X10_line_J143 B v1 v2 v3 1 m _ hf hq
theorem t_X10_line_J126 {X : jX} (B : jB X cX10_line RX10 6 SKF.length rm_X10_line none) (v1 : Int) (v2 : Int) (v3 : Int) (v4 : Int) (m : jMu) (r : jMu) (hf : f_X10_line_J126 v1 v2 v3 v4 m = some r) (hq : jQ X (.inl none) SKF r rm_X10_line.cells rm_X10_line.slots) : J X SKF m 0 0 126 [(0, jR 74), (1, jI v1), (2, jI v2), (3, jI v3), (4, jI v4)] [] := by
  unfold f_X10_line_J126 at hf
  refine B_blk B jlkX10_ok jcl_SKF [.iload 4] (by decide +kernel) (ls' := [(0, jR 74), (1, jI v1), (2, jI v2), (3, jI v3), (4, jI v4)]) (st' := [jI v4]) rfl (p1 := 128) rfl ?_
  refine J_if_eq B.1 (off := 10) (tgt := 138) (by decide +kernel) (by decide) hf (fun hf => ?_) (fun hf => ?_)
  · refine J_pick [0, 1, 2, 3] (ls' := [(0, jR 74), (1, jI v1), (2, jI v2), (3, jI v3)]) rfl ?_
    exact t_X10_line_J138 B v1 v2 v3 m _ hf hq
  · refine B_blk B jlkX10_ok jcl_SKF [.aload_n 0] (by decide +kernel) (ls' := [(0, jR 74), (1, jI v1), (2, jI v2), (3, jI v3), (4, jI v4)]) (st' := [jR 74]) rfl (p1 := 132) rfl ?_
    obtain ⟨r13, h13, hf⟩ := jbd hf
    refine B_callV B (Nat.le_refl _) (μ' := r13.2) (k' := 0) (n' := 0) ca_X10_some in_X10_some se_X10_some lk_X10_148 (t_X10_some_8 B.tr h13) (Nat.le_refl _) rfl rfl rfl (rest := []) rfl rfl (Nat.le_of_ble_eq_true rfl) (by decide +kernel) rfl rfl (st' := [jI r13.1]) rfl ?_
    refine J_if_eq B.1 (off := 7) (tgt := 142) (by decide +kernel) (by decide) hf (fun hf => ?_) (fun hf => ?_)
    · refine B_blk B jlkX10_ok jcl_SKF [.iconst 0] (by decide +kernel) (ls' := [(0, jR 74), (1, jI v1), (2, jI v2), (3, jI v3), (4, jI v4)]) (st' := [jI 0]) rfl (p1 := 143) rfl ?_
      refine J_pick [0, 1, 2, 3] (ls' := [(0, jR 74), (1, jI v1), (2, jI v2), (3, jI v3)]) rfl ?_
      exact t_X10_line_J143 B v1 v2 v3 0 r13.2 _ hf hq
    · refine J_pick [0, 1, 2, 3] (ls' := [(0, jR 74), (1, jI v1), (2, jI v2), (3, jI v3)]) rfl ?_
      exact t_X10_line_J138 B v1 v2 v3 r13.2 _ hf hq
theorem t_X10_line_J91 {X : jX} (B : jB X cX10_line RX10 6 SKF.length rm_X10_line none) (v1 : Int) (v2 : Int) (s0 : Int) (m : jMu) (r : jMu) (hf : f_X10_line_J91 v1 v2 s0 m = some r) (hq : jQ X (.inl none) SKF r rm_X10_line.cells rm_X10_line.slots) : J X SKF m 0 0 91 [(0, jR 74), (1, jI v1), (2, jI v2)] [jI s0] := by
  unfold f_X10_line_J91 at hf
  refine B_blk B jlkX10_ok jcl_SKF [.istore_n 3, .aload_n 0, .getfield 19, .iconst (-1)] (by decide +kernel) (ls' := [(0, jR 74), (1, jI v1), (2, jI v2), (3, jI s0)]) (st' := [jI (-1), jI (m 74 9)]) rfl (p1 := 97) rfl ?_
  refine J_icmp_eq B.1 (off := 4) (tgt := 101) (by decide +kernel) (by decide) hf (fun hf => ?_) (fun hf => ?_)
  · refine B_blk B jlkX10_ok jcl_SKF [.aload_n 0] (by decide +kernel) (ls' := [(0, jR 74), (1, jI v1), (2, jI v2), (3, jI s0)]) (st' := [jR 74]) rfl (p1 := 102) rfl ?_
    refine J_ldcS (i := 6) (r := jXK + 6) B.1 rfl rfl (by decide) (by decide +kernel) ?_
    obtain ⟨r6, h6, hf⟩ := jbd hf
    refine B_callV B (Nat.le_refl _) (μ' := r6.2) (k' := 0) (n' := 0) ca_X10_has in_X10_has se_X10_has lk_X10_96 (t_X10_has B.tr (by decide) h6) (Nat.le_refl _) rfl rfl rfl (rest := []) rfl rfl (Nat.le_of_ble_eq_true rfl) (by decide +kernel) rfl rfl (st' := [jI r6.1]) rfl ?_
    refine B_blk B jlkX10_ok jcl_SKF [.istore 4, .iload_n 2] (by decide +kernel) (ls' := [(0, jR 74), (1, jI v1), (2, jI v2), (3, jI s0), (4, jI r6.1)]) (st' := [jI v2]) rfl (p1 := 110) rfl ?_
    refine J_if_ne B.1 (off := 16) (tgt := 126) (by decide +kernel) (by decide) hf (fun hf => ?_) (fun hf => ?_)
    · refine B_blk B jlkX10_ok jcl_SKF [.iload 4] (by decide +kernel) (ls' := [(0, jR 74), (1, jI v1), (2, jI v2), (3, jI s0), (4, jI r6.1)]) (st' := [jI r6.1]) rfl (p1 := 115) rfl ?_
      refine J_if_ne B.1 (off := 11) (tgt := 126) (by decide +kernel) (by decide) hf (fun hf => ?_) (fun hf => ?_)
      · refine B_blk B jlkX10_ok jcl_SKF [.aload_n 0, .aload_n 0, .getfield 64] (by decide +kernel) (ls' := [(0, jR 74), (1, jI v1), (2, jI v2), (3, jI s0), (4, jI r6.1)]) (st' := [jI (r6.2 74 8), jR 74]) rfl (p1 := 123) rfl ?_
        obtain ⟨r7, h7, hf⟩ := jbd hf
        refine B_callV B (Nat.le_refl _) (μ' := r7) (k' := 0) (n' := 0) ca_X10_wrong in_X10_wrong se_X10_wrong lk_X10_87 (t_X10_wrong B.tr h7) (Nat.le_refl _) rfl rfl rfl (rest := []) rfl rfl (Nat.le_of_ble_eq_true rfl) (by decide +kernel) rfl rfl (st' := []) rfl ?_
        exact t_X10_line_J126 B v1 v2 s0 r6.1 r7 _ hf hq
      · exact t_X10_line_J126 B v1 v2 s0 r6.1 r6.2 _ hf hq
    · exact t_X10_line_J126 B v1 v2 s0 r6.1 r6.2 _ hf hq
  · cases hf
    exact B_retV B hq rfl (Nat.le_of_ble_eq_true rfl) (Nat.le_of_ble_eq_true rfl) (by decide +kernel)
theorem t_X10_line_J88 {X : jX} (B : jB X cX10_line RX10 6 SKF.length rm_X10_line none) (v1 : Int) (v2 : Int) (s1 : Int) (m : jMu) (r : jMu) (hf : f_X10_line_J88 v1 v2 s1 m = some r) (hq : jQ X (.inl none) SKF r rm_X10_line.cells rm_X10_line.slots) : J X SKF m 0 0 88 [(0, jR 74), (1, jI v1), (2, jI v2)] [jI s1, jR 74] := by
  unfold f_X10_line_J88 at hf
  obtain ⟨r14, h14, hf⟩ := jbd hf
  refine B_callV B (Nat.le_refl _) (μ' := r14.2) (k' := 0) (n' := 0) ca_X10_number in_X10_number se_X10_number lk_X10_91 (t_X10_number B.tr h14) (Nat.le_refl _) rfl rfl rfl (rest := []) rfl rfl (Nat.le_of_ble_eq_true rfl) (by decide +kernel) rfl rfl (st' := [jI r14.1]) rfl ?_
  exact t_X10_line_J91 B v1 v2 r14.1 r14.2 _ hf hq
theorem t_X10_line_J67 {X : jX} (B : jB X cX10_line RX10 6 SKF.length rm_X10_line none) (v1 : Int) (v2 : Int) (m : jMu) (r : jMu) (hf : f_X10_line_J67 v1 v2 m = some r) (hq : jQ X (.inl none) SKF r rm_X10_line.cells rm_X10_line.slots) : J X SKF m 0 0 67 [(0, jR 74), (1, jI v1), (2, jI v2)] [] := by
  unfold f_X10_line_J67 at hf
  refine B_blk B jlkX10_ok jcl_SKF [.iload_n 2] (by decide +kernel) (ls' := [(0, jR 74), (1, jI v1), (2, jI v2)]) (st' := [jI v2]) rfl (p1 := 68) rfl ?_
  refine J_if_ne B.1 (off := 7) (tgt := 75) (by decide +kernel) (by decide) hf (fun hf => ?_) (fun hf => ?_)
  · refine B_blk B jlkX10_ok jcl_SKF [.iconst 0, .goto 19] (by decide +kernel) (ls' := [(0, jR 74), (1, jI v1), (2, jI v2)]) (st' := [jI 0]) rfl (p1 := 91) rfl ?_
    exact t_X10_line_J91 B v1 v2 0 m _ hf hq
  · refine B_blk B jlkX10_ok jcl_SKF [.aload_n 0, .iload_n 2, .iconst 1] (by decide +kernel) (ls' := [(0, jR 74), (1, jI v1), (2, jI v2)]) (st' := [jI 1, jI v2, jR 74]) rfl (p1 := 78) rfl ?_
    refine J_icmp_ne B.1 (off := 8) (tgt := 86) (by decide +kernel) (by decide) hf (fun hf => ?_) (fun hf => ?_)
    · refine B_blk B jlkX10_ok jcl_SKF [.bipush 48, .goto 5] (by decide +kernel) (ls' := [(0, jR 74), (1, jI v1), (2, jI v2)]) (st' := [jI 48, jR 74]) rfl (p1 := 88) rfl ?_
      exact t_X10_line_J88 B v1 v2 48 m _ hf hq
    · refine B_blk B jlkX10_ok jcl_SKF [.bipush 99] (by decide +kernel) (ls' := [(0, jR 74), (1, jI v1), (2, jI v2)]) (st' := [jI 99, jR 74]) rfl (p1 := 88) rfl ?_
      exact t_X10_line_J88 B v1 v2 99 m _ hf hq
theorem t_X10_line_J53 {X : jX} (B : jB X cX10_line RX10 6 SKF.length rm_X10_line none) (v1 : Int) (s0 : Int) (m : jMu) (r : jMu) (hf : f_X10_line_J53 v1 s0 m = some r) (hq : jQ X (.inl none) SKF r rm_X10_line.cells rm_X10_line.slots) : J X SKF m 0 0 53 [(0, jR 74), (1, jI v1)] [jI s0] := by
  unfold f_X10_line_J53 at hf
  refine B_blk B jlkX10_ok jcl_SKF [.istore_n 2, .iload_n 2, .iconst (-1)] (by decide +kernel) (ls' := [(0, jR 74), (1, jI v1), (2, jI s0)]) (st' := [jI (-1), jI s0]) rfl (p1 := 56) rfl ?_
  refine J_icmp_ne B.1 (off := 11) (tgt := 67) (by decide +kernel) (by decide) hf (fun hf => ?_) (fun hf => ?_)
  · refine B_blk B jlkX10_ok jcl_SKF [.aload_n 0, .aload_n 0, .getfield 64] (by decide +kernel) (ls' := [(0, jR 74), (1, jI v1), (2, jI s0)]) (st' := [jI (m 74 8), jR 74]) rfl (p1 := 64) rfl ?_
    obtain ⟨r5, h5, hf⟩ := jbd hf
    refine B_callV B (Nat.le_refl _) (μ' := r5) (k' := 0) (n' := 0) ca_X10_wrong in_X10_wrong se_X10_wrong lk_X10_87 (t_X10_wrong B.tr h5) (Nat.le_refl _) rfl rfl rfl (rest := []) rfl rfl (Nat.le_of_ble_eq_true rfl) (by decide +kernel) rfl rfl (st' := []) rfl ?_
    exact t_X10_line_J67 B v1 s0 r5 _ hf hq
  · exact t_X10_line_J67 B v1 s0 m _ hf hq
theorem t_X10_line {l : Launch} {G : jG} (hl : l.stackTraces = false) {a0 : Int} {m : jMu} {r : jMu} (hf : f_X10_line a0 m = some r) : jCt l G yX10_line (.code yX10_line cX10_line 6 none :: jWG) rm_X10_line [jR 74, jI a0] SKF m (.inl none) SKF r := by
  unfold f_X10_line at hf
  refine J_start (ls0 := [(0, jR 74), (1, jI a0)]) (by decide +kernel) hl (Nat.le_of_ble_eq_true rfl) rfl fun X C hN hn hR hr hnm hno hq => ?_
  have B : jB X cX10_line RX10 6 SKF.length rm_X10_line none := ⟨C, hN, Nat.le_of_eq hn, hR, hr⟩
  refine B_blk B jlkX10_ok jcl_SKF [.aload_n 0] (by decide +kernel) (ls' := [(0, jR 74), (1, jI a0)]) (st' := [jR 74]) rfl (p1 := 1) rfl ?_
  refine J_ldcS (i := 2) (r := jXK + 2) B.1 rfl rfl (by decide) (by decide +kernel) ?_
  obtain ⟨r1, h1, hf⟩ := jbd hf
  refine B_callV B (Nat.le_refl _) (μ' := r1.2) (k' := 0) (n' := 0) ca_X10_has in_X10_has se_X10_has lk_X10_96 (t_X10_has B.tr (by decide) h1) (Nat.le_refl _) rfl rfl rfl (rest := []) rfl rfl (Nat.le_of_ble_eq_true rfl) (by decide +kernel) rfl rfl (st' := [jI r1.1]) rfl ?_
  refine J_if_eq B.1 (off := 7) (tgt := 13) (by decide +kernel) (by decide) hf (fun hf => ?_) (fun hf => ?_)
  · refine B_blk B jlkX10_ok jcl_SKF [.aload_n 0] (by decide +kernel) (ls' := [(0, jR 74), (1, jI a0)]) (st' := [jR 74]) rfl (p1 := 14) rfl ?_
    refine J_ldcS (i := 3) (r := jXK + 3) B.1 rfl rfl (by decide) (by decide +kernel) ?_
    obtain ⟨r2, h2, hf⟩ := jbd hf
    refine B_callV B (Nat.le_refl _) (μ' := r2.2) (k' := 0) (n' := 0) ca_X10_has in_X10_has se_X10_has lk_X10_96 (t_X10_has B.tr (by decide) h2) (Nat.le_refl _) rfl rfl rfl (rest := []) rfl rfl (Nat.le_of_ble_eq_true rfl) (by decide +kernel) rfl rfl (st' := [jI r2.1]) rfl ?_
    refine J_if_eq B.1 (off := 7) (tgt := 26) (by decide +kernel) (by decide) hf (fun hf => ?_) (fun hf => ?_)
    · refine B_blk B jlkX10_ok jcl_SKF [.aload_n 0] (by decide +kernel) (ls' := [(0, jR 74), (1, jI a0)]) (st' := [jR 74]) rfl (p1 := 27) rfl ?_
      refine J_ldcS (i := 4) (r := jXK + 4) B.1 rfl rfl (by decide) (by decide +kernel) ?_
      obtain ⟨r3, h3, hf⟩ := jbd hf
      refine B_callV B (Nat.le_refl _) (μ' := r3.2) (k' := 0) (n' := 0) ca_X10_has in_X10_has se_X10_has lk_X10_96 (t_X10_has B.tr (by decide) h3) (Nat.le_refl _) rfl rfl rfl (rest := []) rfl rfl (Nat.le_of_ble_eq_true rfl) (by decide +kernel) rfl rfl (st' := [jI r3.1]) rfl ?_
      refine J_if_eq B.1 (off := 7) (tgt := 39) (by decide +kernel) (by decide) hf (fun hf => ?_) (fun hf => ?_)
      · refine B_blk B jlkX10_ok jcl_SKF [.aload_n 0] (by decide +kernel) (ls' := [(0, jR 74), (1, jI a0)]) (st' := [jR 74]) rfl (p1 := 40) rfl ?_
        refine J_ldcS (i := 5) (r := jXK + 5) B.1 rfl rfl (by decide) (by decide +kernel) ?_
        obtain ⟨r4, h4, hf⟩ := jbd hf
        refine B_callV B (Nat.le_refl _) (μ' := r4.2) (k' := 0) (n' := 0) ca_X10_has in_X10_has se_X10_has lk_X10_96 (t_X10_has B.tr (by decide) h4) (Nat.le_refl _) rfl rfl rfl (rest := []) rfl rfl (Nat.le_of_ble_eq_true rfl) (by decide +kernel) rfl rfl (st' := [jI r4.1]) rfl ?_
        refine J_if_eq B.1 (off := 7) (tgt := 52) (by decide +kernel) (by decide) hf (fun hf => ?_) (fun hf => ?_)
        · refine B_blk B jlkX10_ok jcl_SKF [.iconst (-1)] (by decide +kernel) (ls' := [(0, jR 74), (1, jI a0)]) (st' := [jI (-1)]) rfl (p1 := 53) rfl ?_
          exact t_X10_line_J53 B a0 (-1) r4.2 _ hf hq
        · refine B_blk B jlkX10_ok jcl_SKF [.iconst 3, .goto 4] (by decide +kernel) (ls' := [(0, jR 74), (1, jI a0)]) (st' := [jI 3]) rfl (p1 := 53) rfl ?_
          exact t_X10_line_J53 B a0 3 r4.2 _ hf hq
      · refine B_blk B jlkX10_ok jcl_SKF [.iconst 2, .goto 17] (by decide +kernel) (ls' := [(0, jR 74), (1, jI a0)]) (st' := [jI 2]) rfl (p1 := 53) rfl ?_
        exact t_X10_line_J53 B a0 2 r3.2 _ hf hq
    · refine B_blk B jlkX10_ok jcl_SKF [.iconst 1, .goto 30] (by decide +kernel) (ls' := [(0, jR 74), (1, jI a0)]) (st' := [jI 1]) rfl (p1 := 53) rfl ?_
      exact t_X10_line_J53 B a0 1 r2.2 _ hf hq
  · refine B_blk B jlkX10_ok jcl_SKF [.iconst 0, .goto 43] (by decide +kernel) (ls' := [(0, jR 74), (1, jI a0)]) (st' := [jI 0]) rfl (p1 := 53) rfl ?_
    exact t_X10_line_J53 B a0 0 r1.2 _ hf hq

def rm_X10_lines : Room := { frames := 65, cells := 0, slots := 0, locals := 972 }
def f_X10_lines_L54 : Nat → Int → Int → jMu → Option jMu
  | 0, _, _, _ => none
  | q + 1, v1, v2, m => (if v1 = 0 then some m else (if m 74 9 = (-1) then (f_X10_skip m).bind fun r8 => (if v2 = 10 then (f_X10_wrong (r8 74 8) r8).bind fun r9 => (f_X10_skip r9).bind fun r10 => (if r10 74 9 = (-1) then (if r10 74 8 = r10 74 7 then f_X10_lines_L54 q 0 (jW (v2 + 1)) r10 else (f_X10_isSign 59 r10).bind fun r11 => (if r11.1 = 0 then (f_X10_wrong (r11.2 74 8) r11.2).bind fun r12 => f_X10_lines_L54 q v1 (jW (v2 + 1)) r12 else (jlt (jup r11.2 74 8 (jW (r11.2 74 8 + 1))) fun m13 => f_X10_lines_L54 q v1 (jW (v2 + 1)) m13))) else f_X10_lines_L54 q 0 (jW (v2 + 1)) r10) else (f_X10_line v2 r8).bind fun r14 => (f_X10_skip r14).bind fun r15 => (if r15 74 9 = (-1) then (if r15 74 8 = r15 74 7 then f_X10_lines_L54 q 0 (jW (v2 + 1)) r15 else (f_X10_isSign 59 r15).bind fun r16 => (if r16.1 = 0 then (f_X10_wrong (r16.2 74 8) r16.2).bind fun r17 => f_X10_lines_L54 q v1 (jW (v2 + 1)) r17 else (jlt (jup r16.2 74 8 (jW (r16.2 74 8 + 1))) fun m18 => f_X10_lines_L54 q v1 (jW (v2 + 1)) m18))) else f_X10_lines_L54 q 0 (jW (v2 + 1)) r15)) else some m))
def f_X10_lines (m : jMu) : Option jMu :=
  (jlt (jup m 74 8 0) fun m1 => (jlt (jup m1 74 10 0) fun m2 => (jlt (jup m2 74 15 (-1)) fun m3 => (jlt (jup m3 74 16 0) fun m4 => (jlt (jup m4 74 17 30) fun m5 => (jlt (jup m5 74 18 0) fun m6 => (f_X10_skip m6).bind fun r7 => (if r7 74 7 ≤ r7 74 8 then f_X10_lines_L54 jFU 0 0 r7 else f_X10_lines_L54 jFU 1 0 r7)))))))
theorem t_X10_lines_L54 {X : jX} (B : jB X cX10_lines RX10 3 SKF.length rm_X10_lines none) : ∀ (q : Nat) (v1 : Int) (v2 : Int) (m : jMu) (r : jMu), f_X10_lines_L54 q v1 v2 m = some r → jQ X (.inl none) SKF r rm_X10_lines.cells rm_X10_lines.slots → J X SKF m 0 0 54 [(0, jR 74), (1, jI v1), (2, jI v2)] [] := by
  intro q
  induction q with
  | zero =>
    intro v1 v2 m r hf
    rw [f_X10_lines_L54] at hf
    cases hf
  | succ q ih =>
    intro v1 v2 m r hf hq
    rw [f_X10_lines_L54] at hf
    refine B_blk B jlkX10_ok jcl_SKF [.iload_n 1] (by decide +kernel) (ls' := [(0, jR 74), (1, jI v1), (2, jI v2)]) (st' := [jI v1]) rfl (p1 := 55) rfl ?_
    refine J_if_eq B.1 (off := 101) (tgt := 156) (by decide +kernel) (by decide) hf (fun hf => ?_) (fun hf => ?_)
    · cases hf
      exact B_retV B hq rfl (Nat.le_of_ble_eq_true rfl) (Nat.le_of_ble_eq_true rfl) (by decide +kernel)
    · refine B_blk B jlkX10_ok jcl_SKF [.aload_n 0, .getfield 19, .iconst (-1)] (by decide +kernel) (ls' := [(0, jR 74), (1, jI v1), (2, jI v2)]) (st' := [jI (-1), jI (m 74 9)]) rfl (p1 := 63) rfl ?_
      refine J_icmp_ne B.1 (off := 93) (tgt := 156) (by decide +kernel) (by decide) hf (fun hf => ?_) (fun hf => ?_)
      · refine B_blk B jlkX10_ok jcl_SKF [.aload_n 0] (by decide +kernel) (ls' := [(0, jR 74), (1, jI v1), (2, jI v2)]) (st' := [jR 74]) rfl (p1 := 67) rfl ?_
        obtain ⟨r8, h8, hf⟩ := jbd hf
        refine B_callV B (Nat.le_refl _) (μ' := r8) (k' := 0) (n' := 0) ca_X10_skip in_X10_skip se_X10_skip lk_X10_74 (t_X10_skip B.tr h8) (Nat.le_refl _) rfl rfl rfl (rest := []) rfl rfl (Nat.le_of_ble_eq_true rfl) (by decide +kernel) rfl rfl (st' := []) rfl ?_
        refine B_blk B jlkX10_ok jcl_SKF [.iload_n 2, .bipush 10] (by decide +kernel) (ls' := [(0, jR 74), (1, jI v1), (2, jI v2)]) (st' := [jI 10, jI v2]) rfl (p1 := 73) rfl ?_
        refine J_icmp_ne B.1 (off := 14) (tgt := 87) (by decide +kernel) (by decide) hf (fun hf => ?_) (fun hf => ?_)
        · refine B_blk B jlkX10_ok jcl_SKF [.aload_n 0, .aload_n 0, .getfield 64] (by decide +kernel) (ls' := [(0, jR 74), (1, jI v1), (2, jI v2)]) (st' := [jI (r8 74 8), jR 74]) rfl (p1 := 81) rfl ?_
          obtain ⟨r9, h9, hf⟩ := jbd hf
          refine B_callV B (Nat.le_refl _) (μ' := r9) (k' := 0) (n' := 0) ca_X10_wrong in_X10_wrong se_X10_wrong lk_X10_87 (t_X10_wrong B.tr h9) (Nat.le_refl _) rfl rfl rfl (rest := []) rfl rfl (Nat.le_of_ble_eq_true rfl) (by decide +kernel) rfl rfl (st' := []) rfl ?_
          refine B_blk B jlkX10_ok jcl_SKF [.goto 8, .iinc 2 1, .aload_n 0] (by decide +kernel) (ls' := [(0, jR 74), (1, jI v1), (2, jI (jW (v2 + 1)))]) (st' := [jR 74]) rfl (p1 := 96) rfl ?_
          obtain ⟨r10, h10, hf⟩ := jbd hf
          refine B_callV B (Nat.le_refl _) (μ' := r10) (k' := 0) (n' := 0) ca_X10_skip in_X10_skip se_X10_skip lk_X10_74 (t_X10_skip B.tr h10) (Nat.le_refl _) rfl rfl rfl (rest := []) rfl rfl (Nat.le_of_ble_eq_true rfl) (by decide +kernel) rfl rfl (st' := []) rfl ?_
          refine B_blk B jlkX10_ok jcl_SKF [.aload_n 0, .getfield 19, .iconst (-1)] (by decide +kernel) (ls' := [(0, jR 74), (1, jI v1), (2, jI (jW (v2 + 1)))]) (st' := [jI (-1), jI (r10 74 9)]) rfl (p1 := 104) rfl ?_
          refine J_icmp_ne B.1 (off := 14) (tgt := 118) (by decide +kernel) (by decide) hf (fun hf => ?_) (fun hf => ?_)
          · refine B_blk B jlkX10_ok jcl_SKF [.aload_n 0, .getfield 64, .aload_n 0, .getfield 67] (by decide +kernel) (ls' := [(0, jR 74), (1, jI v1), (2, jI (jW (v2 + 1)))]) (st' := [jI (r10 74 7), jI (r10 74 8)]) rfl (p1 := 115) rfl ?_
            refine J_icmp_ne B.1 (off := 8) (tgt := 123) (by decide +kernel) (by decide) hf (fun hf => ?_) (fun hf => ?_)
            · refine B_blk B jlkX10_ok jcl_SKF [.iconst 0, .istore_n 1, .goto (-66)] (by decide +kernel) (ls' := [(0, jR 74), (1, jI 0), (2, jI (jW (v2 + 1)))]) (st' := []) rfl (p1 := 54) rfl ?_
              exact ih 0 (jW (v2 + 1)) r10 _ hf hq
            · refine B_blk B jlkX10_ok jcl_SKF [.aload_n 0, .bipush 59] (by decide +kernel) (ls' := [(0, jR 74), (1, jI v1), (2, jI (jW (v2 + 1)))]) (st' := [jI 59, jR 74]) rfl (p1 := 126) rfl ?_
              obtain ⟨r11, h11, hf⟩ := jbd hf
              refine B_callV B (Nat.le_refl _) (μ' := r11.2) (k' := 0) (n' := 0) ca_X10_isSign in_X10_isSign se_X10_isSign lk_X10_113 (t_X10_isSign B.tr h11) (Nat.le_refl _) rfl rfl rfl (rest := []) rfl rfl (Nat.le_of_ble_eq_true rfl) (by decide +kernel) rfl rfl (st' := [jI r11.1]) rfl ?_
              refine J_if_eq B.1 (off := 16) (tgt := 145) (by decide +kernel) (by decide) hf (fun hf => ?_) (fun hf => ?_)
              · refine B_blk B jlkX10_ok jcl_SKF [.aload_n 0, .aload_n 0, .getfield 64] (by decide +kernel) (ls' := [(0, jR 74), (1, jI v1), (2, jI (jW (v2 + 1)))]) (st' := [jI (r11.2 74 8), jR 74]) rfl (p1 := 150) rfl ?_
                obtain ⟨r12, h12, hf⟩ := jbd hf
                refine B_callV B (Nat.le_refl _) (μ' := r12) (k' := 0) (n' := 0) ca_X10_wrong in_X10_wrong se_X10_wrong lk_X10_87 (t_X10_wrong B.tr h12) (Nat.le_refl _) rfl rfl rfl (rest := []) rfl rfl (Nat.le_of_ble_eq_true rfl) (by decide +kernel) rfl rfl (st' := []) rfl ?_
                refine B_blk B jlkX10_ok jcl_SKF [.goto (-99)] (by decide +kernel) (ls' := [(0, jR 74), (1, jI v1), (2, jI (jW (v2 + 1)))]) (st' := []) rfl (p1 := 54) rfl ?_
                exact ih v1 (jW (v2 + 1)) r12 _ hf hq
              · refine B_blk B jlkX10_ok jcl_SKF [.aload_n 0, .dup, .getfield 64, .iconst 1, .iadd] (by decide +kernel) (ls' := [(0, jR 74), (1, jI v1), (2, jI (jW (v2 + 1)))]) (st' := [jI (jW (r11.2 74 8 + 1)), jR 74]) rfl (p1 := 139) rfl ?_
                refine K_putI (jI' := 8) B jp_X10_64 rfl rfl rfl (by decide +kernel) ?_
                obtain ⟨m13, hm13, hf⟩ := jlt_s hf
                rw [hm13]
                refine B_blk B jlkX10_ok jcl_SKF [.goto (-88)] (by decide +kernel) (ls' := [(0, jR 74), (1, jI v1), (2, jI (jW (v2 + 1)))]) (st' := []) rfl (p1 := 54) rfl ?_
                exact ih v1 (jW (v2 + 1)) m13 _ hf hq
          · refine B_blk B jlkX10_ok jcl_SKF [.iconst 0, .istore_n 1, .goto (-66)] (by decide +kernel) (ls' := [(0, jR 74), (1, jI 0), (2, jI (jW (v2 + 1)))]) (st' := []) rfl (p1 := 54) rfl ?_
            exact ih 0 (jW (v2 + 1)) r10 _ hf hq
        · refine B_blk B jlkX10_ok jcl_SKF [.aload_n 0, .iload_n 2] (by decide +kernel) (ls' := [(0, jR 74), (1, jI v1), (2, jI v2)]) (st' := [jI v2, jR 74]) rfl (p1 := 89) rfl ?_
          obtain ⟨r14, h14, hf⟩ := jbd hf
          refine B_callV B (Nat.le_refl _) (μ' := r14) (k' := 0) (n' := 0) ca_X10_line in_X10_line se_X10_line lk_X10_176 (t_X10_line B.tr h14) (Nat.le_refl _) rfl rfl rfl (rest := []) rfl rfl (Nat.le_of_ble_eq_true rfl) (by decide +kernel) rfl rfl (st' := []) rfl ?_
          refine B_blk B jlkX10_ok jcl_SKF [.iinc 2 1, .aload_n 0] (by decide +kernel) (ls' := [(0, jR 74), (1, jI v1), (2, jI (jW (v2 + 1)))]) (st' := [jR 74]) rfl (p1 := 96) rfl ?_
          obtain ⟨r15, h15, hf⟩ := jbd hf
          refine B_callV B (Nat.le_refl _) (μ' := r15) (k' := 0) (n' := 0) ca_X10_skip in_X10_skip se_X10_skip lk_X10_74 (t_X10_skip B.tr h15) (Nat.le_refl _) rfl rfl rfl (rest := []) rfl rfl (Nat.le_of_ble_eq_true rfl) (by decide +kernel) rfl rfl (st' := []) rfl ?_
          refine B_blk B jlkX10_ok jcl_SKF [.aload_n 0, .getfield 19, .iconst (-1)] (by decide +kernel) (ls' := [(0, jR 74), (1, jI v1), (2, jI (jW (v2 + 1)))]) (st' := [jI (-1), jI (r15 74 9)]) rfl (p1 := 104) rfl ?_
          refine J_icmp_ne B.1 (off := 14) (tgt := 118) (by decide +kernel) (by decide) hf (fun hf => ?_) (fun hf => ?_)
          · refine B_blk B jlkX10_ok jcl_SKF [.aload_n 0, .getfield 64, .aload_n 0, .getfield 67] (by decide +kernel) (ls' := [(0, jR 74), (1, jI v1), (2, jI (jW (v2 + 1)))]) (st' := [jI (r15 74 7), jI (r15 74 8)]) rfl (p1 := 115) rfl ?_
            refine J_icmp_ne B.1 (off := 8) (tgt := 123) (by decide +kernel) (by decide) hf (fun hf => ?_) (fun hf => ?_)
            · refine B_blk B jlkX10_ok jcl_SKF [.iconst 0, .istore_n 1, .goto (-66)] (by decide +kernel) (ls' := [(0, jR 74), (1, jI 0), (2, jI (jW (v2 + 1)))]) (st' := []) rfl (p1 := 54) rfl ?_
              exact ih 0 (jW (v2 + 1)) r15 _ hf hq
            · refine B_blk B jlkX10_ok jcl_SKF [.aload_n 0, .bipush 59] (by decide +kernel) (ls' := [(0, jR 74), (1, jI v1), (2, jI (jW (v2 + 1)))]) (st' := [jI 59, jR 74]) rfl (p1 := 126) rfl ?_
              obtain ⟨r16, h16, hf⟩ := jbd hf
              refine B_callV B (Nat.le_refl _) (μ' := r16.2) (k' := 0) (n' := 0) ca_X10_isSign in_X10_isSign se_X10_isSign lk_X10_113 (t_X10_isSign B.tr h16) (Nat.le_refl _) rfl rfl rfl (rest := []) rfl rfl (Nat.le_of_ble_eq_true rfl) (by decide +kernel) rfl rfl (st' := [jI r16.1]) rfl ?_
              refine J_if_eq B.1 (off := 16) (tgt := 145) (by decide +kernel) (by decide) hf (fun hf => ?_) (fun hf => ?_)
              · refine B_blk B jlkX10_ok jcl_SKF [.aload_n 0, .aload_n 0, .getfield 64] (by decide +kernel) (ls' := [(0, jR 74), (1, jI v1), (2, jI (jW (v2 + 1)))]) (st' := [jI (r16.2 74 8), jR 74]) rfl (p1 := 150) rfl ?_
                obtain ⟨r17, h17, hf⟩ := jbd hf
                refine B_callV B (Nat.le_refl _) (μ' := r17) (k' := 0) (n' := 0) ca_X10_wrong in_X10_wrong se_X10_wrong lk_X10_87 (t_X10_wrong B.tr h17) (Nat.le_refl _) rfl rfl rfl (rest := []) rfl rfl (Nat.le_of_ble_eq_true rfl) (by decide +kernel) rfl rfl (st' := []) rfl ?_
                refine B_blk B jlkX10_ok jcl_SKF [.goto (-99)] (by decide +kernel) (ls' := [(0, jR 74), (1, jI v1), (2, jI (jW (v2 + 1)))]) (st' := []) rfl (p1 := 54) rfl ?_
                exact ih v1 (jW (v2 + 1)) r17 _ hf hq
              · refine B_blk B jlkX10_ok jcl_SKF [.aload_n 0, .dup, .getfield 64, .iconst 1, .iadd] (by decide +kernel) (ls' := [(0, jR 74), (1, jI v1), (2, jI (jW (v2 + 1)))]) (st' := [jI (jW (r16.2 74 8 + 1)), jR 74]) rfl (p1 := 139) rfl ?_
                refine K_putI (jI' := 8) B jp_X10_64 rfl rfl rfl (by decide +kernel) ?_
                obtain ⟨m18, hm18, hf⟩ := jlt_s hf
                rw [hm18]
                refine B_blk B jlkX10_ok jcl_SKF [.goto (-88)] (by decide +kernel) (ls' := [(0, jR 74), (1, jI v1), (2, jI (jW (v2 + 1)))]) (st' := []) rfl (p1 := 54) rfl ?_
                exact ih v1 (jW (v2 + 1)) m18 _ hf hq
          · refine B_blk B jlkX10_ok jcl_SKF [.iconst 0, .istore_n 1, .goto (-66)] (by decide +kernel) (ls' := [(0, jR 74), (1, jI 0), (2, jI (jW (v2 + 1)))]) (st' := []) rfl (p1 := 54) rfl ?_
            exact ih 0 (jW (v2 + 1)) r15 _ hf hq
      · cases hf
        exact B_retV B hq rfl (Nat.le_of_ble_eq_true rfl) (Nat.le_of_ble_eq_true rfl) (by decide +kernel)
theorem t_X10_lines {l : Launch} {G : jG} (hl : l.stackTraces = false) {m : jMu} {r : jMu} (hf : f_X10_lines m = some r) : jCt l G yX10_lines (.code yX10_lines cX10_lines 3 none :: jWG) rm_X10_lines [jR 74] SKF m (.inl none) SKF r := by
  unfold f_X10_lines at hf
  refine J_start (ls0 := [(0, jR 74)]) (by decide +kernel) hl (Nat.le_of_ble_eq_true rfl) rfl fun X C hN hn hR hr hnm hno hq => ?_
  have B : jB X cX10_lines RX10 3 SKF.length rm_X10_lines none := ⟨C, hN, Nat.le_of_eq hn, hR, hr⟩
  refine B_blk B jlkX10_ok jcl_SKF [.aload_n 0, .iconst 0] (by decide +kernel) (ls' := [(0, jR 74)]) (st' := [jI 0, jR 74]) rfl (p1 := 2) rfl ?_
  refine K_putI (jI' := 8) B jp_X10_64 rfl rfl rfl (by decide +kernel) ?_
  obtain ⟨m1, hm1, hf⟩ := jlt_s hf
  rw [hm1]
  refine B_blk B jlkX10_ok jcl_SKF [.aload_n 0, .iconst 0] (by decide +kernel) (ls' := [(0, jR 74)]) (st' := [jI 0, jR 74]) rfl (p1 := 7) rfl ?_
  refine K_putI (jI' := 10) B jp_X10_142 rfl rfl rfl (by decide +kernel) ?_
  obtain ⟨m2, hm2, hf⟩ := jlt_s hf
  rw [hm2]
  refine B_blk B jlkX10_ok jcl_SKF [.aload_n 0, .iconst (-1)] (by decide +kernel) (ls' := [(0, jR 74)]) (st' := [jI (-1), jR 74]) rfl (p1 := 12) rfl ?_
  refine K_putI (jI' := 15) B jp_X10_168 rfl rfl rfl (by decide +kernel) ?_
  obtain ⟨m3, hm3, hf⟩ := jlt_s hf
  rw [hm3]
  refine B_blk B jlkX10_ok jcl_SKF [.aload_n 0, .iconst 0] (by decide +kernel) (ls' := [(0, jR 74)]) (st' := [jI 0, jR 74]) rfl (p1 := 17) rfl ?_
  refine K_putI (jI' := 16) B jp_X10_170 rfl rfl rfl (by decide +kernel) ?_
  obtain ⟨m4, hm4, hf⟩ := jlt_s hf
  rw [hm4]
  refine B_blk B jlkX10_ok jcl_SKF [.aload_n 0, .bipush 30] (by decide +kernel) (ls' := [(0, jR 74)]) (st' := [jI 30, jR 74]) rfl (p1 := 23) rfl ?_
  refine K_putI (jI' := 17) B jp_X10_172 rfl rfl rfl (by decide +kernel) ?_
  obtain ⟨m5, hm5, hf⟩ := jlt_s hf
  rw [hm5]
  refine B_blk B jlkX10_ok jcl_SKF [.aload_n 0, .iconst 0] (by decide +kernel) (ls' := [(0, jR 74)]) (st' := [jI 0, jR 74]) rfl (p1 := 28) rfl ?_
  refine K_putI (jI' := 18) B jp_X10_174 rfl rfl rfl (by decide +kernel) ?_
  obtain ⟨m6, hm6, hf⟩ := jlt_s hf
  rw [hm6]
  refine B_blk B jlkX10_ok jcl_SKF [.aload_n 0] (by decide +kernel) (ls' := [(0, jR 74)]) (st' := [jR 74]) rfl (p1 := 32) rfl ?_
  obtain ⟨r7, h7, hf⟩ := jbd hf
  refine B_callV B (Nat.le_refl _) (μ' := r7) (k' := 0) (n' := 0) ca_X10_skip in_X10_skip se_X10_skip lk_X10_74 (t_X10_skip B.tr h7) (Nat.le_refl _) rfl rfl rfl (rest := []) rfl rfl (Nat.le_of_ble_eq_true rfl) (by decide +kernel) rfl rfl (st' := []) rfl ?_
  refine B_blk B jlkX10_ok jcl_SKF [.aload_n 0, .getfield 64, .aload_n 0, .getfield 67] (by decide +kernel) (ls' := [(0, jR 74)]) (st' := [jI (r7 74 7), jI (r7 74 8)]) rfl (p1 := 43) rfl ?_
  refine J_icmp_ge B.1 (off := 7) (tgt := 50) (by decide +kernel) (by decide) hf (fun hf => ?_) (fun hf => ?_)
  · refine B_blk B jlkX10_ok jcl_SKF [.iconst 0, .istore_n 1, .iconst 0, .istore_n 2] (by decide +kernel) (ls' := [(0, jR 74), (1, jI 0), (2, jI 0)]) (st' := []) rfl (p1 := 54) rfl ?_
    exact t_X10_lines_L54 B jFU 0 0 r7 _ hf hq
  · refine B_blk B jlkX10_ok jcl_SKF [.iconst 1, .goto 4, .istore_n 1, .iconst 0, .istore_n 2] (by decide +kernel) (ls' := [(0, jR 74), (1, jI 1), (2, jI 0)]) (st' := []) rfl (p1 := 54) rfl ?_
    exact t_X10_lines_L54 B jFU 1 0 r7 _ hf hq

def rm_X10_terms : Room := { frames := 67, cells := 0, slots := 0, locals := 994 }
def f_X10_terms_L96 : Nat → Int → Int → Int → jMu → Option (Int × jMu)
  | 0, _, _, _, _ => none
  | q + 1, v1, v2, v3, m => (if v1 ≤ v3 then (jlt (jup m 75 5 (jW (m 75 5 + 1))) fun m8 => some (jW (m8 75 5 - 1), m8)) else (if 0 ≤ v3 ∧ v3 < 400 then (if 0 ≤ jW (jW (v2 + 1) + v3) ∧ jW (jW (v2 + 1) + v3) < 2083 then (jlt (jup m 75 (jW (jW (v2 + 1) + v3)) (m 77 v3)) fun m9 => f_X10_terms_L96 q v1 v2 (jW (v3 + 1)) m9) else none) else none))
def f_X10_terms_J60 (v1 : Int) (s1 : Int) (m : jMu) : Option (Int × jMu) :=
  (jlt (jup m 74 0 s1) fun m6 => (if m6 74 0 ≤ 0 then (if 0 ≤ jW (880 + jW (401 * m6 75 5)) ∧ jW (880 + jW (401 * m6 75 5)) < 2083 then (jlt (jup m6 75 (jW (880 + jW (401 * m6 75 5))) v1) fun m7 => f_X10_terms_L96 jFU v1 (jW (880 + jW (401 * m6 75 5))) 0 m7) else none) else some (0, m6)))
def f_X10_terms (m : jMu) : Option (Int × jMu) :=
  (jlt (jup m 74 9 (-1)) fun m1 => (jlt (jup m1 74 6 (-1)) fun m2 => (jlt (jup m2 74 7 (m2 74 5)) fun m3 => (f_X10_lines m3).bind fun r4 => (jlt (jup r4 74 5 0) fun m5 => (if m5 74 9 = (-1) then (if m5 75 5 = 3 then f_X10_terms_J60 (r4 74 5) 2 m5 else f_X10_terms_J60 (r4 74 5) 0 m5) else f_X10_terms_J60 (r4 74 5) 1 m5)))))
theorem t_X10_terms_L96 {X : jX} (B : jB X cX10_terms RX10 4 SKF.length rm_X10_terms (some .int)) : ∀ (q : Nat) (v1 : Int) (v2 : Int) (v3 : Int) (m : jMu) (r : (Int × jMu)), f_X10_terms_L96 q v1 v2 v3 m = some r → jQ X (.inl (some (jI r.1))) SKF r.2 rm_X10_terms.cells rm_X10_terms.slots → J X SKF m 0 0 96 [(0, jR 74), (1, jI v1), (2, jI v2), (3, jI v3)] [] := by
  intro q
  induction q with
  | zero =>
    intro v1 v2 v3 m r hf
    rw [f_X10_terms_L96] at hf
    cases hf
  | succ q ih =>
    intro v1 v2 v3 m r hf hq
    rw [f_X10_terms_L96] at hf
    refine B_blk B jlkX10_ok jcl_SKF [.iload_n 3, .iload_n 1] (by decide +kernel) (ls' := [(0, jR 74), (1, jI v1), (2, jI v2), (3, jI v3)]) (st' := [jI v1, jI v3]) rfl (p1 := 98) rfl ?_
    refine J_icmp_ge B.1 (off := 25) (tgt := 123) (by decide +kernel) (by decide) hf (fun hf => ?_) (fun hf => ?_)
    · refine B_blk B jlkX10_ok jcl_SKF [.aload_n 0, .getfield 7, .iconst 5, .dup2] (by decide +kernel) (ls' := [(0, jR 74), (1, jI v1), (2, jI v2), (3, jI v3)]) (st' := [jI 5, jR 75, jI 5, jR 75]) rfl (p1 := 129) rfl ?_
      refine K_iald (lenI := 2083) B rfl rfl (by decide) (by decide +kernel) ?_
      refine B_blk B jlkX10_ok jcl_SKF [.iconst 1, .iadd] (by decide +kernel) (ls' := [(0, jR 74), (1, jI v1), (2, jI v2), (3, jI v3)]) (st' := [jI (jW (m 75 5 + 1)), jI 5, jR 75]) rfl (p1 := 132) rfl ?_
      refine K_iast (lenI := 2083) B rfl rfl (by decide) (by decide +kernel) ?_
      obtain ⟨m8, hm8, hf⟩ := jlt_s hf
      rw [hm8]
      refine B_blk B jlkX10_ok jcl_SKF [.aload_n 0, .getfield 7, .iconst 5] (by decide +kernel) (ls' := [(0, jR 74), (1, jI v1), (2, jI v2), (3, jI v3)]) (st' := [jI 5, jR 75]) rfl (p1 := 138) rfl ?_
      refine K_iald (lenI := 2083) B rfl rfl (by decide) (by decide +kernel) ?_
      refine B_blk B jlkX10_ok jcl_SKF [.iconst 1, .isub] (by decide +kernel) (ls' := [(0, jR 74), (1, jI v1), (2, jI v2), (3, jI v3)]) (st' := [jI (jW (m8 75 5 - 1))]) rfl (p1 := 141) rfl ?_
      cases hf
      exact B_retI B hq rfl (Nat.le_of_ble_eq_true rfl) (Nat.le_of_ble_eq_true rfl) (by decide +kernel)
    · refine B_blk B jlkX10_ok jcl_SKF [.aload_n 0, .getfield 7, .iload_n 2, .iconst 1, .iadd, .iload_n 3, .iadd, .aload_n 0, .getfield 16, .iload_n 3] (by decide +kernel) (ls' := [(0, jR 74), (1, jI v1), (2, jI v2), (3, jI v3)]) (st' := [jI v3, jR 77, jI (jW (jW (v2 + 1) + v3)), jR 75]) rfl (p1 := 115) rfl ?_
      obtain ⟨g11, hf⟩ := jgd hf
      refine K_iald (lenI := 400) B rfl rfl g11 (by decide +kernel) ?_
      obtain ⟨g10, hf⟩ := jgd hf
      refine K_iast (lenI := 2083) B rfl rfl g10 (by decide +kernel) ?_
      obtain ⟨m9, hm9, hf⟩ := jlt_s hf
      rw [hm9]
      refine B_blk B jlkX10_ok jcl_SKF [.iinc 3 1, .goto (-24)] (by decide +kernel) (ls' := [(0, jR 74), (1, jI v1), (2, jI v2), (3, jI (jW (v3 + 1)))]) (st' := []) rfl (p1 := 96) rfl ?_
      exact ih v1 v2 (jW (v3 + 1)) m9 _ hf hq
theorem t_X10_terms_J60 {X : jX} (B : jB X cX10_terms RX10 4 SKF.length rm_X10_terms (some .int)) (v1 : Int) (s1 : Int) (m : jMu) (r : (Int × jMu)) (hf : f_X10_terms_J60 v1 s1 m = some r) (hq : jQ X (.inl (some (jI r.1))) SKF r.2 rm_X10_terms.cells rm_X10_terms.slots) : J X SKF m 0 0 60 [(0, jR 74), (1, jI v1)] [jI s1, jR 74] := by
  unfold f_X10_terms_J60 at hf
  refine K_putI (jI' := 0) B jp_X10_51 rfl rfl rfl (by decide +kernel) ?_
  obtain ⟨m6, hm6, hf⟩ := jlt_s hf
  rw [hm6]
  refine B_blk B jlkX10_ok jcl_SKF [.aload_n 0, .getfield 51] (by decide +kernel) (ls' := [(0, jR 74), (1, jI v1)]) (st' := [jI (m6 74 0)]) rfl (p1 := 67) rfl ?_
  refine J_if_le B.1 (off := 5) (tgt := 72) (by decide +kernel) (by decide) hf (fun hf => ?_) (fun hf => ?_)
  · refine B_blk B jlkX10_ok jcl_SKF [.sipush 880, .sipush 401, .aload_n 0, .getfield 7, .iconst 5] (by decide +kernel) (ls' := [(0, jR 74), (1, jI v1)]) (st' := [jI 5, jR 75, jI 401, jI 880]) rfl (p1 := 83) rfl ?_
    refine K_iald (lenI := 2083) B rfl rfl (by decide) (by decide +kernel) ?_
    refine B_blk B jlkX10_ok jcl_SKF [.imul, .iadd, .istore_n 2, .aload_n 0, .getfield 7, .iload_n 2, .iload_n 1] (by decide +kernel) (ls' := [(0, jR 74), (1, jI v1), (2, jI (jW (880 + jW (401 * m6 75 5))))]) (st' := [jI v1, jI (jW (880 + jW (401 * m6 75 5))), jR 75]) rfl (p1 := 93) rfl ?_
    obtain ⟨g12, hf⟩ := jgd hf
    refine K_iast (lenI := 2083) B rfl rfl g12 (by decide +kernel) ?_
    obtain ⟨m7, hm7, hf⟩ := jlt_s hf
    rw [hm7]
    refine B_blk B jlkX10_ok jcl_SKF [.iconst 0, .istore_n 3] (by decide +kernel) (ls' := [(0, jR 74), (1, jI v1), (2, jI (jW (880 + jW (401 * m6 75 5)))), (3, jI 0)]) (st' := []) rfl (p1 := 96) rfl ?_
    exact t_X10_terms_L96 B jFU v1 (jW (880 + jW (401 * m6 75 5))) 0 m7 _ hf hq
  · refine B_blk B jlkX10_ok jcl_SKF [.iconst 0] (by decide +kernel) (ls' := [(0, jR 74), (1, jI v1)]) (st' := [jI 0]) rfl (p1 := 71) rfl ?_
    cases hf
    exact B_retI B hq rfl (Nat.le_of_ble_eq_true rfl) (Nat.le_of_ble_eq_true rfl) (by decide +kernel)
theorem t_X10_terms {l : Launch} {G : jG} (hl : l.stackTraces = false) {m : jMu} {r : (Int × jMu)} (hf : f_X10_terms m = some r) : jCt l G yX10_terms (.code yX10_terms cX10_terms 4 (some .int) :: jWG) rm_X10_terms [jR 74] SKF m (.inl (some (jI r.1))) SKF r.2 := by
  unfold f_X10_terms at hf
  refine J_start (ls0 := [(0, jR 74)]) (by decide +kernel) hl (Nat.le_of_ble_eq_true rfl) rfl fun X C hN hn hR hr hnm hno hq => ?_
  have B : jB X cX10_terms RX10 4 SKF.length rm_X10_terms (some .int) := ⟨C, hN, Nat.le_of_eq hn, hR, hr⟩
  refine B_blk B jlkX10_ok jcl_SKF [.aload_n 0, .iconst (-1)] (by decide +kernel) (ls' := [(0, jR 74)]) (st' := [jI (-1), jR 74]) rfl (p1 := 2) rfl ?_
  refine K_putI (jI' := 9) B jp_X10_19 rfl rfl rfl (by decide +kernel) ?_
  obtain ⟨m1, hm1, hf⟩ := jlt_s hf
  rw [hm1]
  refine B_blk B jlkX10_ok jcl_SKF [.aload_n 0, .iconst (-1)] (by decide +kernel) (ls' := [(0, jR 74)]) (st' := [jI (-1), jR 74]) rfl (p1 := 7) rfl ?_
  refine K_putI (jI' := 6) B jp_X10_61 rfl rfl rfl (by decide +kernel) ?_
  obtain ⟨m2, hm2, hf⟩ := jlt_s hf
  rw [hm2]
  refine B_blk B jlkX10_ok jcl_SKF [.aload_n 0, .aload_n 0, .getfield 58] (by decide +kernel) (ls' := [(0, jR 74)]) (st' := [jI (m2 74 5), jR 74]) rfl (p1 := 15) rfl ?_
  refine K_putI (jI' := 7) B jp_X10_67 rfl rfl rfl (by decide +kernel) ?_
  obtain ⟨m3, hm3, hf⟩ := jlt_s hf
  rw [hm3]
  refine B_blk B jlkX10_ok jcl_SKF [.aload_n 0] (by decide +kernel) (ls' := [(0, jR 74)]) (st' := [jR 74]) rfl (p1 := 19) rfl ?_
  obtain ⟨r4, h4, hf⟩ := jbd hf
  refine B_callV B (Nat.le_refl _) (μ' := r4) (k' := 0) (n' := 0) ca_X10_lines in_X10_lines se_X10_lines lk_X10_179 (t_X10_lines B.tr h4) (Nat.le_refl _) rfl rfl rfl (rest := []) rfl rfl (Nat.le_of_ble_eq_true rfl) (by decide +kernel) rfl rfl (st' := []) rfl ?_
  refine B_blk B jlkX10_ok jcl_SKF [.aload_n 0, .getfield 58, .istore_n 1, .aload_n 0, .iconst 0] (by decide +kernel) (ls' := [(0, jR 74), (1, jI (r4 74 5))]) (st' := [jI 0, jR 74]) rfl (p1 := 29) rfl ?_
  refine K_putI (jI' := 5) B jp_X10_58 rfl rfl rfl (by decide +kernel) ?_
  obtain ⟨m5, hm5, hf⟩ := jlt_s hf
  rw [hm5]
  refine B_blk B jlkX10_ok jcl_SKF [.aload_n 0, .aload_n 0, .getfield 19, .iconst (-1)] (by decide +kernel) (ls' := [(0, jR 74), (1, jI (r4 74 5))]) (st' := [jI (-1), jI (m5 74 9), jR 74]) rfl (p1 := 38) rfl ?_
  refine J_icmp_eq B.1 (off := 7) (tgt := 45) (by decide +kernel) (by decide) hf (fun hf => ?_) (fun hf => ?_)
  · refine B_blk B jlkX10_ok jcl_SKF [.aload_n 0, .getfield 7, .iconst 5] (by decide +kernel) (ls' := [(0, jR 74), (1, jI (r4 74 5))]) (st' := [jI 5, jR 75, jR 74]) rfl (p1 := 50) rfl ?_
    refine K_iald (lenI := 2083) B rfl rfl (by decide) (by decide +kernel) ?_
    refine B_blk B jlkX10_ok jcl_SKF [.iconst 3] (by decide +kernel) (ls' := [(0, jR 74), (1, jI (r4 74 5))]) (st' := [jI 3, jI (m5 75 5), jR 74]) rfl (p1 := 52) rfl ?_
    refine J_icmp_ne B.1 (off := 7) (tgt := 59) (by decide +kernel) (by decide) hf (fun hf => ?_) (fun hf => ?_)
    · refine B_blk B jlkX10_ok jcl_SKF [.iconst 2, .goto 4] (by decide +kernel) (ls' := [(0, jR 74), (1, jI (r4 74 5))]) (st' := [jI 2, jR 74]) rfl (p1 := 60) rfl ?_
      exact t_X10_terms_J60 B (r4 74 5) 2 m5 _ hf hq
    · refine B_blk B jlkX10_ok jcl_SKF [.iconst 0] (by decide +kernel) (ls' := [(0, jR 74), (1, jI (r4 74 5))]) (st' := [jI 0, jR 74]) rfl (p1 := 60) rfl ?_
      exact t_X10_terms_J60 B (r4 74 5) 0 m5 _ hf hq
  · refine B_blk B jlkX10_ok jcl_SKF [.iconst 1, .goto 18] (by decide +kernel) (ls' := [(0, jR 74), (1, jI (r4 74 5))]) (st' := [jI 1, jR 74]) rfl (p1 := 60) rfl ?_
    exact t_X10_terms_J60 B (r4 74 5) 1 m5 _ hf hq

def rm_X10_fault : Room := { frames := 2, cells := 0, slots := 0, locals := 64 }
def f_X10_fault (m : jMu) : Option (Int × jMu) :=
  (jlt (jup m 74 0 0) fun m1 => some (m1 74 9, m1))
theorem t_X10_fault {l : Launch} {G : jG} (hl : l.stackTraces = false) {m : jMu} {r : (Int × jMu)} (hf : f_X10_fault m = some r) : jCt l G yX10_fault (.code yX10_fault cX10_fault 1 (some .int) :: jWG) rm_X10_fault [jR 74] SKF m (.inl (some (jI r.1))) SKF r.2 := by
  unfold f_X10_fault at hf
  refine J_start (ls0 := [(0, jR 74)]) (by decide +kernel) hl (Nat.le_of_ble_eq_true rfl) rfl fun X C hN hn hR hr hnm hno hq => ?_
  have B : jB X cX10_fault RX10 1 SKF.length rm_X10_fault (some .int) := ⟨C, hN, Nat.le_of_eq hn, hR, hr⟩
  refine B_blk B jlkX10_ok jcl_SKF [.aload_n 0, .iconst 0] (by decide +kernel) (ls' := [(0, jR 74)]) (st' := [jI 0, jR 74]) rfl (p1 := 2) rfl ?_
  refine K_putI (jI' := 0) B jp_X10_51 rfl rfl rfl (by decide +kernel) ?_
  obtain ⟨m1, hm1, hf⟩ := jlt_s hf
  rw [hm1]
  refine B_blk B jlkX10_ok jcl_SKF [.aload_n 0, .getfield 19] (by decide +kernel) (ls' := [(0, jR 74)]) (st' := [jI (m1 74 9)]) rfl (p1 := 9) rfl ?_
  cases hf
  exact B_retI B hq rfl (Nat.le_of_ble_eq_true rfl) (Nat.le_of_ble_eq_true rfl) (by decide +kernel)
