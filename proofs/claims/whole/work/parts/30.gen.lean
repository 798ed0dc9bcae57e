/-! printed walks -/
def rm_X9_isIn : Room := { frames := 2, cells := 0, slots := 0, locals := 64 }
def f_X9_isIn (a0 : Int) (a1 : Int) (a2 : Int) : Option Int :=
  (if a0 < a1 then some 0 else (if a2 < a0 then some 0 else some 1))
theorem t_X9_isIn {l : Launch} {G : jG} (hl : l.stackTraces = false) {S : List jSh} (hcl : jcl S) {a0 : Int} {a1 : Int} {a2 : Int} {μ : jMu} {r : Int} (hf : f_X9_isIn a0 a1 a2 = some r) : jCt l G yX9_isIn (.code yX9_isIn cX9_isIn 3 (some .boolean) :: jWG) rm_X9_isIn [jI a0, jI a1, jI a2] S μ (.inl (some (jI r))) S μ := by
  unfold f_X9_isIn at hf
  refine J_start (ls0 := [(0, jI a0), (1, jI a1), (2, jI a2)]) (by decide +kernel) hl (Nat.le_of_ble_eq_true rfl) rfl fun X C hN hn hR hr hnm hno hq => ?_
  have B : jB X cX9_isIn RX9 3 S.length rm_X9_isIn (some .boolean) := ⟨C, hN, Nat.le_of_eq hn, hR, hr⟩
  refine B_blk B jlkX9_ok hcl [.iload_n 0, .iload_n 1] (by decide +kernel) (ls' := [(0, jI a0), (1, jI a1), (2, jI a2)]) (st' := [jI a1, jI a0]) rfl (p1 := 2) rfl ?_
  refine J_icmp_lt B.1 (off := 12) (tgt := 14) (by decide +kernel) (by decide) hf (fun hf => ?_) (fun hf => ?_)
  · refine B_blk B jlkX9_ok hcl [.iconst 0] (by decide +kernel) (ls' := [(0, jI a0), (1, jI a1), (2, jI a2)]) (st' := [jI 0]) rfl (p1 := 15) rfl ?_
    cases hf
    exact B_retZ B (Or.inl rfl) hq rfl (Nat.le_of_ble_eq_true rfl) (Nat.le_of_ble_eq_true rfl) (by decide +kernel)
  · refine B_blk B jlkX9_ok hcl [.iload_n 0, .iload_n 2] (by decide +kernel) (ls' := [(0, jI a0), (1, jI a1), (2, jI a2)]) (st' := [jI a2, jI a0]) rfl (p1 := 7) rfl ?_
    refine J_icmp_gt B.1 (off := 7) (tgt := 14) (by decide +kernel) (by decide) hf (fun hf => ?_) (fun hf => ?_)
    · refine B_blk B jlkX9_ok hcl [.iconst 0] (by decide +kernel) (ls' := [(0, jI a0), (1, jI a1), (2, jI a2)]) (st' := [jI 0]) rfl (p1 := 15) rfl ?_
      cases hf
      exact B_retZ B (Or.inl rfl) hq rfl (Nat.le_of_ble_eq_true rfl) (Nat.le_of_ble_eq_true rfl) (by decide +kernel)
    · refine B_blk B jlkX9_ok hcl [.iconst 1, .goto 4] (by decide +kernel) (ls' := [(0, jI a0), (1, jI a1), (2, jI a2)]) (st' := [jI 1]) rfl (p1 := 15) rfl ?_
      cases hf
      exact B_retZ B (Or.inr rfl) hq rfl (Nat.le_of_ble_eq_true rfl) (Nat.le_of_ble_eq_true rfl) (by decide +kernel)

def rm_X9_needArgument : Room := { frames := 7, cells := 1, slots := 6, locals := 100 }
def f_X9_needArgument (a0 : Int) (m : jMu) : Option (jOut Unit) :=
  (if a0 = 0 then some (.inl ("java/lang/IllegalArgumentException", m)) else some (.inr ((), m)))
theorem t_X9_needArgument {l : Launch} {G : jG} (hl : l.stackTraces = false) {a0 : Int} {m : jMu} {r : (jOut Unit)} (hf : f_X9_needArgument a0 m = some r) : jCt l G yX9_needArgument (.code yX9_needArgument cX9_needArgument 1 none :: jWG) rm_X9_needArgument [jI a0] SKF m (joV r) SKF (joM r) := by
  unfold f_X9_needArgument at hf
  refine J_start (ls0 := [(0, jI a0)]) (by decide +kernel) hl (Nat.le_of_ble_eq_true rfl) rfl fun X C hN hn hR hr hnm hno hq => ?_
  have B : jB X cX9_needArgument RX9 1 SKF.length rm_X9_needArgument none := ⟨C, hN, Nat.le_of_eq hn, hR, hr⟩
  refine B_blk B jlkX9_ok jcl_SKF [.iload_n 0] (by decide +kernel) (ls' := [(0, jI a0)]) (st' := [jI a0]) rfl (p1 := 1) rfl ?_
  refine J_if_ne B.1 (off := 11) (tgt := 12) (by decide +kernel) (by decide) hf (fun hf => ?_) (fun hf => ?_)
  · cases hf
    exact J_throw (E := "java/lang/IllegalArgumentException") B.1 (by decide) hq hno (by decide +kernel) cl_X9_301 ii_java_lang_IllegalArgumentException jat_303 jau_303 jav_303 B.2.2.2.1 (Nat.le_of_ble_eq_true rfl) (Nat.le_of_ble_eq_true rfl) (Nat.le_of_ble_eq_true rfl) (Nat.le_of_ble_eq_true rfl) (Nat.le_of_ble_eq_true rfl) (Nat.le_of_ble_eq_true rfl) (by decide +kernel) (by decide +kernel) (by decide +kernel) (by decide +kernel)
  · cases hf
    exact B_retV B hq rfl (Nat.le_of_ble_eq_true rfl) (Nat.le_of_ble_eq_true rfl) (by decide +kernel)

def rm_X9_days : Room := { frames := 9, cells := 1, slots := 6, locals := 120 }
def f_X9_days (a0 : Int) (m : jMu) : Option (jOut Int) :=
  (f_X9_isIn a0 0 (jW (199 - m 1 14))).bind fun r1 => jthr (f_X9_needArgument r1 m) fun r2 => (jlt (jup r2.2 1 14 (jW (r2.2 1 14 + a0))) fun m3 => some (.inr (m3 1 14, m3)))
theorem t_X9_days {l : Launch} {G : jG} (hl : l.stackTraces = false) {a0 : Int} {m : jMu} {r : (jOut Int)} (hf : f_X9_days a0 m = some r) : jCt l G yX9_days (.code yX9_days cX9_days 2 (some .int) :: jWG) rm_X9_days [jR 0, jI a0] SKF m (joI r) SKF (joM r) := by
  unfold f_X9_days at hf
  refine J_start (ls0 := [(0, jR 0), (1, jI a0)]) (by decide +kernel) hl (Nat.le_of_ble_eq_true rfl) rfl fun X C hN hn hR hr hnm hno hq => ?_
  have B : jB X cX9_days RX9 2 SKF.length rm_X9_days (some .int) := ⟨C, hN, Nat.le_of_eq hn, hR, hr⟩
  refine B_blk B jlkX9_ok jcl_SKF [.iload_n 1, .iconst 0, .sipush 199, .aload_n 0, .getfield 20, .getfield 90, .isub] (by decide +kernel) (ls' := [(0, jR 0), (1, jI a0)]) (st' := [jI (jW (199 - m 1 14)), jI 0, jI a0]) rfl (p1 := 13) rfl ?_
  obtain ⟨r1, h1, hf⟩ := jbd hf
  refine B_callS B (Nat.le_refl _) (μ' := m) (k' := 0) (n' := 0) ca_X9_isIn sa_X9_isIn lk_X9_93 (t_X9_isIn B.tr jcl_SKF h1) (Nat.le_refl _) rfl (rest := []) rfl rfl (Nat.le_of_ble_eq_true rfl) (by decide +kernel) rfl rfl (st' := [jI r1]) rfl ?_
  rcases jthr_s hf with ⟨e2, h2, hf⟩ | ⟨r2, h2, hf⟩
  · cases hf
    exact B_callST B (Nat.le_refl _) hno hq ca_X9_needArgument sa_X9_needArgument lk_X9_97 (t_X9_needArgument B.tr h2) (Nat.le_refl _) rfl (rest := []) rfl rfl (Nat.le_of_ble_eq_true rfl) (by decide +kernel) (Nat.le_of_ble_eq_true rfl) (Nat.le_of_ble_eq_true rfl)
  · refine B_callS B (Nat.le_refl _) (μ' := r2.2) (k' := 1) (n' := 6) ca_X9_needArgument sa_X9_needArgument lk_X9_97 (t_X9_needArgument B.tr h2) (Nat.le_refl _) rfl (rest := []) rfl rfl (Nat.le_of_ble_eq_true rfl) (by decide +kernel) rfl rfl (st' := []) rfl ?_
    refine B_blk B jlkX9_ok jcl_SKF [.aload_n 0, .getfield 20, .dup, .getfield 90, .iload_n 1, .iadd] (by decide +kernel) (ls' := [(0, jR 0), (1, jI a0)]) (st' := [jI (jW (r2.2 1 14 + a0)), jR 1]) rfl (p1 := 29) rfl ?_
    refine K_putI (jI' := 14) B jp_X9_90 rfl rfl rfl (by decide +kernel) ?_
    obtain ⟨m3, hm3, hf⟩ := jlt_s hf
    rw [hm3]
    refine B_blk B jlkX9_ok jcl_SKF [.aload_n 0, .getfield 20, .getfield 90] (by decide +kernel) (ls' := [(0, jR 0), (1, jI a0)]) (st' := [jI (m3 1 14)]) rfl (p1 := 39) rfl ?_
    cases hf
    exact B_retI B hq rfl (Nat.le_of_ble_eq_true rfl) (Nat.le_of_ble_eq_true rfl) (by decide +kernel)

def rm_X5_hasRoom : Room := { frames := 2, cells := 0, slots := 0, locals := 64 }
def f_X5_hasRoom (t a w : Nat) (m : jMu) : Option Int :=
  (if m t 0 ≤ m t 3 then some 0 else some 1)
theorem t_X5_hasRoom {l : Launch} {G : jG} (hl : l.stackTraces = false) {S : List jSh} (hcl : jcl S) {t a w : Nat} (hfacts : jTb S t a w) {m : jMu} {r : Int} (hf : f_X5_hasRoom t a w m = some r) : jCt l G yX5_hasRoom (.code yX5_hasRoom cX5_hasRoom 1 (some .boolean) :: jWG) rm_X5_hasRoom [jR t] S m (.inl (some (jI r))) S m := by
  unfold f_X5_hasRoom at hf
  refine J_start (ls0 := [(0, jR t)]) (by decide +kernel) hl (Nat.le_of_ble_eq_true rfl) rfl fun X C hN hn hR hr hnm hno hq => ?_
  have B : jB X cX5_hasRoom RX5 1 S.length rm_X5_hasRoom (some .boolean) := ⟨C, hN, Nat.le_of_eq hn, hR, hr⟩
  refine B_blk B jlkX5_ok hcl [.aload_n 0] (by decide +kernel) (ls' := [(0, jR t)]) (st' := [jR t]) rfl (p1 := 1) rfl ?_
  refine K_get (v := jI (m t 3)) B jlkX5_ok hcl (idx := 22) rfl hfacts.1 rfl rfl (by decide +kernel) ?_
  refine B_blk B jlkX5_ok hcl [.aload_n 0] (by decide +kernel) (ls' := [(0, jR t)]) (st' := [jR t, jI (m t 3)]) rfl (p1 := 5) rfl ?_
  refine K_get (v := jI (m t 0)) B jlkX5_ok hcl (idx := 9) rfl hfacts.1 rfl rfl (by decide +kernel) ?_
  refine J_icmp_ge B.1 (off := 7) (tgt := 15) (by decide +kernel) (by decide) hf (fun hf => ?_) (fun hf => ?_)
  · refine B_blk B jlkX5_ok hcl [.iconst 0] (by decide +kernel) (ls' := [(0, jR t)]) (st' := [jI 0]) rfl (p1 := 16) rfl ?_
    cases hf
    exact B_retZ B (Or.inl rfl) hq rfl (Nat.le_of_ble_eq_true rfl) (Nat.le_of_ble_eq_true rfl) (by decide +kernel)
  · refine B_blk B jlkX5_ok hcl [.iconst 1, .goto 4] (by decide +kernel) (ls' := [(0, jR t)]) (st' := [jI 1]) rfl (p1 := 16) rfl ?_
    cases hf
    exact B_retZ B (Or.inr rfl) hq rfl (Nat.le_of_ble_eq_true rfl) (Nat.le_of_ble_eq_true rfl) (by decide +kernel)

def rm_X9_needRoom : Room := { frames := 7, cells := 1, slots := 6, locals := 100 }
def f_X9_needRoom (a0 : Int) (m : jMu) : Option (jOut Unit) :=
  (if a0 = 0 then some (.inl ("java/lang/UnsupportedOperationException", m)) else some (.inr ((), m)))
theorem t_X9_needRoom {l : Launch} {G : jG} (hl : l.stackTraces = false) {a0 : Int} {m : jMu} {r : (jOut Unit)} (hf : f_X9_needRoom a0 m = some r) : jCt l G yX9_needRoom (.code yX9_needRoom cX9_needRoom 1 none :: jWG) rm_X9_needRoom [jI a0] SKF m (joV r) SKF (joM r) := by
  unfold f_X9_needRoom at hf
  refine J_start (ls0 := [(0, jI a0)]) (by decide +kernel) hl (Nat.le_of_ble_eq_true rfl) rfl fun X C hN hn hR hr hnm hno hq => ?_
  have B : jB X cX9_needRoom RX9 1 SKF.length rm_X9_needRoom none := ⟨C, hN, Nat.le_of_eq hn, hR, hr⟩
  refine B_blk B jlkX9_ok jcl_SKF [.iload_n 0] (by decide +kernel) (ls' := [(0, jI a0)]) (st' := [jI a0]) rfl (p1 := 1) rfl ?_
  refine J_if_ne B.1 (off := 11) (tgt := 12) (by decide +kernel) (by decide) hf (fun hf => ?_) (fun hf => ?_)
  · cases hf
    exact J_throw (E := "java/lang/UnsupportedOperationException") B.1 (by decide) hq hno (by decide +kernel) cl_X9_304 ii_java_lang_UnsupportedOperationException jat_306 jau_306 jav_306 B.2.2.2.1 (Nat.le_of_ble_eq_true rfl) (Nat.le_of_ble_eq_true rfl) (Nat.le_of_ble_eq_true rfl) (Nat.le_of_ble_eq_true rfl) (Nat.le_of_ble_eq_true rfl) (Nat.le_of_ble_eq_true rfl) (by decide +kernel) (by decide +kernel) (by decide +kernel) (by decide +kernel)
  · cases hf
    exact B_retV B hq rfl (Nat.le_of_ble_eq_true rfl) (Nat.le_of_ble_eq_true rfl) (by decide +kernel)

def rm_X9_bay : Room := { frames := 9, cells := 3, slots := 18, locals := 120 }
def f_X9_bay_J54 (v1 : Int) (v2 : Int) (v3 : Int) (v4 : Int) (s0 : Int) (m : jMu) : Option (jOut Int) :=
  jthr (f_X9_needArgument s0 m) fun r4 => (f_X5_hasRoom 4 5 80 r4.2).bind fun r5 => jthr (f_X9_needRoom r5 r4.2) fun r6 => (f_X5_addRow 4 5 80 r6.2).bind fun r7 => (f_X5_set 4 5 80 r7.1 0 v1 r7.2).bind fun r8 => (f_X5_set 4 5 80 r7.1 1 v2 r8).bind fun r9 => (f_X5_set 4 5 80 r7.1 2 v3 r9).bind fun r10 => (f_X5_set 4 5 80 r7.1 3 v4 r10).bind fun r11 => some (.inr (r7.1, r11))
def f_X9_bay_J53 (v1 : Int) (v2 : Int) (v3 : Int) (v4 : Int) (m : jMu) : Option (jOut Int) :=
  f_X9_bay_J54 v1 v2 v3 v4 0 m
def f_X9_bay_J24 (v1 : Int) (v2 : Int) (v3 : Int) (v4 : Int) (s0 : Int) (m : jMu) : Option (jOut Int) :=
  jthr (f_X9_needArgument s0 m) fun r2 => (f_X9_isIn v3 1 20).bind fun r3 => (if r3 = 0 then f_X9_bay_J53 v1 v2 v3 v4 r2.2 else (f_X9_isIn v4 0 500).bind fun r12 => (if r12 = 0 then f_X9_bay_J53 v1 v2 v3 v4 r2.2 else f_X9_bay_J54 v1 v2 v3 v4 1 r2.2))
def f_X9_bay_J23 (v1 : Int) (v2 : Int) (v3 : Int) (v4 : Int) (m : jMu) : Option (jOut Int) :=
  f_X9_bay_J24 v1 v2 v3 v4 0 m
def f_X9_bay (a0 : Int) (a1 : Int) (a2 : Int) (a3 : Int) (m : jMu) : Option (jOut Int) :=
  (f_X9_isIn a0 0 1).bind fun r1 => (if r1 = 0 then f_X9_bay_J23 a0 a1 a2 a3 m else (f_X9_isIn a1 0 9).bind fun r13 => (if r13 = 0 then f_X9_bay_J23 a0 a1 a2 a3 m else f_X9_bay_J24 a0 a1 a2 a3 1 m))
theorem t_X9_bay_J54 {X : jX} (B : jB X cX9_bay RX9 6 SKF.length rm_X9_bay (some .int)) (hno : ∀ x ∈ (xc X).exceptionTable.toList, False) (v1 : Int) (v2 : Int) (v3 : Int) (v4 : Int) (s0 : Int) (m : jMu) (r : (jOut Int)) (hf : f_X9_bay_J54 v1 v2 v3 v4 s0 m = some r) (hq : jQ X (joI r) SKF (joM r) rm_X9_bay.cells rm_X9_bay.slots) : J X SKF m 1 6 54 [(0, jR 0), (1, jI v1), (2, jI v2), (3, jI v3), (4, jI v4)] [jI s0] := by
  unfold f_X9_bay_J54 at hf
  rcases jthr_s hf with ⟨e4, h4, hf⟩ | ⟨r4, h4, hf⟩
  · cases hf
    exact B_callST B (Nat.le_refl _) hno hq ca_X9_needArgument sa_X9_needArgument lk_X9_97 (t_X9_needArgument B.tr h4) (Nat.le_refl _) rfl (rest := []) rfl rfl (Nat.le_of_ble_eq_true rfl) (by decide +kernel) (Nat.le_of_ble_eq_true rfl) (Nat.le_of_ble_eq_true rfl)
  · refine B_callS B (Nat.le_refl _) (μ' := r4.2) (k' := 2) (n' := 12) ca_X9_needArgument sa_X9_needArgument lk_X9_97 (t_X9_needArgument B.tr h4) (Nat.le_refl _) rfl (rest := []) rfl rfl (Nat.le_of_ble_eq_true rfl) (by decide +kernel) rfl rfl (st' := []) rfl ?_
    refine B_blk B jlkX9_ok jcl_SKF [.aload_n 0, .getfield 20, .getfield 101] (by decide +kernel) (ls' := [(0, jR 0), (1, jI v1), (2, jI v2), (3, jI v3), (4, jI v4)]) (st' := [jR 4]) rfl (p1 := 64) rfl ?_
    obtain ⟨r5, h5, hf⟩ := jbd hf
    refine B_callV B (Nat.le_refl _) (μ' := r4.2) (k' := 2) (n' := 12) ca_X5_hasRoom in_X5_hasRoom se_X5_hasRoom lk_X9_105 (t_X5_hasRoom B.tr jcl_SKF ⟨rfl, rfl, by decide⟩ h5) (Nat.le_refl _) rfl rfl rfl (rest := []) rfl rfl (Nat.le_of_ble_eq_true rfl) (by decide +kernel) rfl rfl (st' := [jI r5]) rfl ?_
    rcases jthr_s hf with ⟨e6, h6, hf⟩ | ⟨r6, h6, hf⟩
    · cases hf
      exact B_callST B (Nat.le_refl _) hno hq ca_X9_needRoom sa_X9_needRoom lk_X9_111 (t_X9_needRoom B.tr h6) (Nat.le_refl _) rfl (rest := []) rfl rfl (Nat.le_of_ble_eq_true rfl) (by decide +kernel) (Nat.le_of_ble_eq_true rfl) (Nat.le_of_ble_eq_true rfl)
    · refine B_callS B (Nat.le_refl _) (μ' := r6.2) (k' := 3) (n' := 18) ca_X9_needRoom sa_X9_needRoom lk_X9_111 (t_X9_needRoom B.tr h6) (Nat.le_refl _) rfl (rest := []) rfl rfl (Nat.le_of_ble_eq_true rfl) (by decide +kernel) rfl rfl (st' := []) rfl ?_
      refine B_blk B jlkX9_ok jcl_SKF [.aload_n 0, .getfield 20, .getfield 101] (by decide +kernel) (ls' := [(0, jR 0), (1, jI v1), (2, jI v2), (3, jI v3), (4, jI v4)]) (st' := [jR 4]) rfl (p1 := 77) rfl ?_
      obtain ⟨r7, h7, hf⟩ := jbd hf
      refine B_callV B (Nat.le_refl _) (μ' := r7.2) (k' := 3) (n' := 18) ca_X5_addRow in_X5_addRow se_X5_addRow lk_X9_114 (t_X5_addRow B.tr jcl_SKF ⟨rfl, rfl, by decide⟩ h7) (Nat.le_refl _) rfl rfl rfl (rest := []) rfl rfl (Nat.le_of_ble_eq_true rfl) (by decide +kernel) rfl rfl (st' := [jI r7.1]) rfl ?_
      refine B_blk B jlkX9_ok jcl_SKF [.istore 5, .aload_n 0, .getfield 20, .getfield 101, .iload 5, .iconst 0, .iload_n 1] (by decide +kernel) (ls' := [(0, jR 0), (1, jI v1), (2, jI v2), (3, jI v3), (4, jI v4), (5, jI r7.1)]) (st' := [jI v1, jI 0, jI r7.1, jR 4]) rfl (p1 := 93) rfl ?_
      obtain ⟨r8, h8, hf⟩ := jbd hf
      refine B_callV B (Nat.le_refl _) (μ' := r8) (k' := 3) (n' := 18) ca_X5_set in_X5_set se_X5_set lk_X9_117 (t_X5_set B.tr jcl_SKF ⟨rfl, rfl, by decide⟩ h8) (Nat.le_refl _) rfl rfl rfl (rest := []) rfl rfl (Nat.le_of_ble_eq_true rfl) (by decide +kernel) rfl rfl (st' := []) rfl ?_
      refine B_blk B jlkX9_ok jcl_SKF [.aload_n 0, .getfield 20, .getfield 101, .iload 5, .iconst 1, .iload_n 2] (by decide +kernel) (ls' := [(0, jR 0), (1, jI v1), (2, jI v2), (3, jI v3), (4, jI v4), (5, jI r7.1)]) (st' := [jI v2, jI 1, jI r7.1, jR 4]) rfl (p1 := 107) rfl ?_
      obtain ⟨r9, h9, hf⟩ := jbd hf
      refine B_callV B (Nat.le_refl _) (μ' := r9) (k' := 3) (n' := 18) ca_X5_set in_X5_set se_X5_set lk_X9_117 (t_X5_set B.tr jcl_SKF ⟨rfl, rfl, by decide⟩ h9) (Nat.le_refl _) rfl rfl rfl (rest := []) rfl rfl (Nat.le_of_ble_eq_true rfl) (by decide +kernel) rfl rfl (st' := []) rfl ?_
      refine B_blk B jlkX9_ok jcl_SKF [.aload_n 0, .getfield 20, .getfield 101, .iload 5, .iconst 2, .iload_n 3] (by decide +kernel) (ls' := [(0, jR 0), (1, jI v1), (2, jI v2), (3, jI v3), (4, jI v4), (5, jI r7.1)]) (st' := [jI v3, jI 2, jI r7.1, jR 4]) rfl (p1 := 121) rfl ?_
      obtain ⟨r10, h10, hf⟩ := jbd hf
      refine B_callV B (Nat.le_refl _) (μ' := r10) (k' := 3) (n' := 18) ca_X5_set in_X5_set se_X5_set lk_X9_117 (t_X5_set B.tr jcl_SKF ⟨rfl, rfl, by decide⟩ h10) (Nat.le_refl _) rfl rfl rfl (rest := []) rfl rfl (Nat.le_of_ble_eq_true rfl) (by decide +kernel) rfl rfl (st' := []) rfl ?_
      refine B_blk B jlkX9_ok jcl_SKF [.aload_n 0, .getfield 20, .getfield 101, .iload 5, .iconst 3, .iload 4] (by decide +kernel) (ls' := [(0, jR 0), (1, jI v1), (2, jI v2), (3, jI v3), (4, jI v4), (5, jI r7.1)]) (st' := [jI v4, jI 3, jI r7.1, jR 4]) rfl (p1 := 136) rfl ?_
      obtain ⟨r11, h11, hf⟩ := jbd hf
      refine B_callV B (Nat.le_refl _) (μ' := r11) (k' := 3) (n' := 18) ca_X5_set in_X5_set se_X5_set lk_X9_117 (t_X5_set B.tr jcl_SKF ⟨rfl, rfl, by decide⟩ h11) (Nat.le_refl _) rfl rfl rfl (rest := []) rfl rfl (Nat.le_of_ble_eq_true rfl) (by decide +kernel) rfl rfl (st' := []) rfl ?_
      refine B_blk B jlkX9_ok jcl_SKF [.iload 5] (by decide +kernel) (ls' := [(0, jR 0), (1, jI v1), (2, jI v2), (3, jI v3), (4, jI v4), (5, jI r7.1)]) (st' := [jI r7.1]) rfl (p1 := 141) rfl ?_
      cases hf
      exact B_retI B hq rfl (Nat.le_of_ble_eq_true rfl) (Nat.le_of_ble_eq_true rfl) (by decide +kernel)
theorem t_X9_bay_J53 {X : jX} (B : jB X cX9_bay RX9 6 SKF.length rm_X9_bay (some .int)) (hno : ∀ x ∈ (xc X).exceptionTable.toList, False) (v1 : Int) (v2 : Int) (v3 : Int) (v4 : Int) (m : jMu) (r : (jOut Int)) (hf : f_X9_bay_J53 v1 v2 v3 v4 m = some r) (hq : jQ X (joI r) SKF (joM r) rm_X9_bay.cells rm_X9_bay.slots) : J X SKF m 1 6 53 [(0, jR 0), (1, jI v1), (2, jI v2), (3, jI v3), (4, jI v4)] [] := by
  unfold f_X9_bay_J53 at hf
  refine B_blk B jlkX9_ok jcl_SKF [.iconst 0] (by decide +kernel) (ls' := [(0, jR 0), (1, jI v1), (2, jI v2), (3, jI v3), (4, jI v4)]) (st' := [jI 0]) rfl (p1 := 54) rfl ?_
  exact t_X9_bay_J54 B hno v1 v2 v3 v4 0 m _ hf hq
theorem t_X9_bay_J24 {X : jX} (B : jB X cX9_bay RX9 6 SKF.length rm_X9_bay (some .int)) (hno : ∀ x ∈ (xc X).exceptionTable.toList, False) (v1 : Int) (v2 : Int) (v3 : Int) (v4 : Int) (s0 : Int) (m : jMu) (r : (jOut Int)) (hf : f_X9_bay_J24 v1 v2 v3 v4 s0 m = some r) (hq : jQ X (joI r) SKF (joM r) rm_X9_bay.cells rm_X9_bay.slots) : J X SKF m 0 0 24 [(0, jR 0), (1, jI v1), (2, jI v2), (3, jI v3), (4, jI v4)] [jI s0] := by
  unfold f_X9_bay_J24 at hf
  rcases jthr_s hf with ⟨e2, h2, hf⟩ | ⟨r2, h2, hf⟩
  · cases hf
    exact B_callST B (Nat.le_refl _) hno hq ca_X9_needArgument sa_X9_needArgument lk_X9_97 (t_X9_needArgument B.tr h2) (Nat.le_refl _) rfl (rest := []) rfl rfl (Nat.le_of_ble_eq_true rfl) (by decide +kernel) (Nat.le_of_ble_eq_true rfl) (Nat.le_of_ble_eq_true rfl)
  · refine B_callS B (Nat.le_refl _) (μ' := r2.2) (k' := 1) (n' := 6) ca_X9_needArgument sa_X9_needArgument lk_X9_97 (t_X9_needArgument B.tr h2) (Nat.le_refl _) rfl (rest := []) rfl rfl (Nat.le_of_ble_eq_true rfl) (by decide +kernel) rfl rfl (st' := []) rfl ?_
    refine B_blk B jlkX9_ok jcl_SKF [.iload_n 3, .iconst 1, .bipush 20] (by decide +kernel) (ls' := [(0, jR 0), (1, jI v1), (2, jI v2), (3, jI v3), (4, jI v4)]) (st' := [jI 20, jI 1, jI v3]) rfl (p1 := 31) rfl ?_
    obtain ⟨r3, h3, hf⟩ := jbd hf
    refine B_callS B (Nat.le_refl _) (μ' := r2.2) (k' := 1) (n' := 6) ca_X9_isIn sa_X9_isIn lk_X9_93 (t_X9_isIn B.tr jcl_SKF h3) (Nat.le_refl _) rfl (rest := []) rfl rfl (Nat.le_of_ble_eq_true rfl) (by decide +kernel) rfl rfl (st' := [jI r3]) rfl ?_
    refine J_if_eq B.1 (off := 19) (tgt := 53) (by decide +kernel) (by decide) hf (fun hf => ?_) (fun hf => ?_)
    · exact t_X9_bay_J53 B hno v1 v2 v3 v4 r2.2 _ hf hq
    · refine B_blk B jlkX9_ok jcl_SKF [.iload 4, .iconst 0, .sipush 500] (by decide +kernel) (ls' := [(0, jR 0), (1, jI v1), (2, jI v2), (3, jI v3), (4, jI v4)]) (st' := [jI 500, jI 0, jI v4]) rfl (p1 := 43) rfl ?_
      obtain ⟨r12, h12, hf⟩ := jbd hf
      refine B_callS B (Nat.le_refl _) (μ' := r2.2) (k' := 1) (n' := 6) ca_X9_isIn sa_X9_isIn lk_X9_93 (t_X9_isIn B.tr jcl_SKF h12) (Nat.le_refl _) rfl (rest := []) rfl rfl (Nat.le_of_ble_eq_true rfl) (by decide +kernel) rfl rfl (st' := [jI r12]) rfl ?_
      refine J_if_eq B.1 (off := 7) (tgt := 53) (by decide +kernel) (by decide) hf (fun hf => ?_) (fun hf => ?_)
      · exact t_X9_bay_J53 B hno v1 v2 v3 v4 r2.2 _ hf hq
      · refine B_blk B jlkX9_ok jcl_SKF [.iconst 1, .goto 4] (by decide +kernel) (ls' := [(0, jR 0), (1, jI v1), (2, jI v2), (3, jI v3), (4, jI v4)]) (st' := [jI 1]) rfl (p1 := 54) rfl ?_
        exact t_X9_bay_J54 B hno v1 v2 v3 v4 1 r2.2 _ hf hq
theorem t_X9_bay_J23 {X : jX} (B : jB X cX9_bay RX9 6 SKF.length rm_X9_bay (some .int)) (hno : ∀ x ∈ (xc X).exceptionTable.toList, False) (v1 : Int) (v2 : Int) (v3 : Int) (v4 : Int) (m : jMu) (r : (jOut Int)) (hf : f_X9_bay_J23 v1 v2 v3 v4 m = some r) (hq : jQ X (joI r) SKF (joM r) rm_X9_bay.cells rm_X9_bay.slots) : J X SKF m 0 0 23 [(0, jR 0), (1, jI v1), (2, jI v2), (3, jI v3), (4, jI v4)] [] := by
  unfold f_X9_bay_J23 at hf
  refine B_blk B jlkX9_ok jcl_SKF [.iconst 0] (by decide +kernel) (ls' := [(0, jR 0), (1, jI v1), (2, jI v2), (3, jI v3), (4, jI v4)]) (st' := [jI 0]) rfl (p1 := 24) rfl ?_
  exact t_X9_bay_J24 B hno v1 v2 v3 v4 0 m _ hf hq
theorem t_X9_bay {l : Launch} {G : jG} (hl : l.stackTraces = false) {a0 : Int} {a1 : Int} {a2 : Int} {a3 : Int} {m : jMu} {r : (jOut Int)} (hf : f_X9_bay a0 a1 a2 a3 m = some r) : jCt l G yX9_bay (.code yX9_bay cX9_bay 6 (some .int) :: jWG) rm_X9_bay [jR 0, jI a0, jI a1, jI a2, jI a3] SKF m (joI r) SKF (joM r) := by
  unfold f_X9_bay at hf
  refine J_start (ls0 := [(0, jR 0), (1, jI a0), (2, jI a1), (3, jI a2), (4, jI a3)]) (by decide +kernel) hl (Nat.le_of_ble_eq_true rfl) rfl fun X C hN hn hR hr hnm hno hq => ?_
  have B : jB X cX9_bay RX9 6 SKF.length rm_X9_bay (some .int) := ⟨C, hN, Nat.le_of_eq hn, hR, hr⟩
  refine B_blk B jlkX9_ok jcl_SKF [.iload_n 1, .iconst 0, .iconst 1] (by decide +kernel) (ls' := [(0, jR 0), (1, jI a0), (2, jI a1), (3, jI a2), (4, jI a3)]) (st' := [jI 1, jI 0, jI a0]) rfl (p1 := 3) rfl ?_
  obtain ⟨r1, h1, hf⟩ := jbd hf
  refine B_callS B (Nat.le_refl _) (μ' := m) (k' := 0) (n' := 0) ca_X9_isIn sa_X9_isIn lk_X9_93 (t_X9_isIn B.tr jcl_SKF h1) (Nat.le_refl _) rfl (rest := []) rfl rfl (Nat.le_of_ble_eq_true rfl) (by decide +kernel) rfl rfl (st' := [jI r1]) rfl ?_
  refine J_if_eq B.1 (off := 17) (tgt := 23) (by decide +kernel) (by decide) hf (fun hf => ?_) (fun hf => ?_)
  · exact t_X9_bay_J23 B hno a0 a1 a2 a3 m _ hf hq
  · refine B_blk B jlkX9_ok jcl_SKF [.iload_n 2, .iconst 0, .bipush 9] (by decide +kernel) (ls' := [(0, jR 0), (1, jI a0), (2, jI a1), (3, jI a2), (4, jI a3)]) (st' := [jI 9, jI 0, jI a1]) rfl (p1 := 13) rfl ?_
    obtain ⟨r13, h13, hf⟩ := jbd hf
    refine B_callS B (Nat.le_refl _) (μ' := m) (k' := 0) (n' := 0) ca_X9_isIn sa_X9_isIn lk_X9_93 (t_X9_isIn B.tr jcl_SKF h13) (Nat.le_refl _) rfl (rest := []) rfl rfl (Nat.le_of_ble_eq_true rfl) (by decide +kernel) rfl rfl (st' := [jI r13]) rfl ?_
    refine J_if_eq B.1 (off := 7) (tgt := 23) (by decide +kernel) (by decide) hf (fun hf => ?_) (fun hf => ?_)
    · exact t_X9_bay_J23 B hno a0 a1 a2 a3 m _ hf hq
    · refine B_blk B jlkX9_ok jcl_SKF [.iconst 1, .goto 4] (by decide +kernel) (ls' := [(0, jR 0), (1, jI a0), (2, jI a1), (3, jI a2), (4, jI a3)]) (st' := [jI 1]) rfl (p1 := 24) rfl ?_
      exact t_X9_bay_J24 B hno a0 a1 a2 a3 1 m _ hf hq

def rm_X9_needIndex : Room := { frames := 7, cells := 1, slots := 6, locals := 100 }
def f_X9_needIndex (a0 : Int) (m : jMu) : Option (jOut Unit) :=
  (if a0 = 0 then some (.inl ("java/lang/IndexOutOfBoundsException", m)) else some (.inr ((), m)))
theorem t_X9_needIndex {l : Launch} {G : jG} (hl : l.stackTraces = false) {a0 : Int} {m : jMu} {r : (jOut Unit)} (hf : f_X9_needIndex a0 m = some r) : jCt l G yX9_needIndex (.code yX9_needIndex cX9_needIndex 1 none :: jWG) rm_X9_needIndex [jI a0] SKF m (joV r) SKF (joM r) := by
  unfold f_X9_needIndex at hf
  refine J_start (ls0 := [(0, jI a0)]) (by decide +kernel) hl (Nat.le_of_ble_eq_true rfl) rfl fun X C hN hn hR hr hnm hno hq => ?_
  have B : jB X cX9_needIndex RX9 1 SKF.length rm_X9_needIndex none := ⟨C, hN, Nat.le_of_eq hn, hR, hr⟩
  refine B_blk B jlkX9_ok jcl_SKF [.iload_n 0] (by decide +kernel) (ls' := [(0, jI a0)]) (st' := [jI a0]) rfl (p1 := 1) rfl ?_
  refine J_if_ne B.1 (off := 11) (tgt := 12) (by decide +kernel) (by decide) hf (fun hf => ?_) (fun hf => ?_)
  · cases hf
    exact J_throw (E := "java/lang/IndexOutOfBoundsException") B.1 (by decide) hq hno (by decide +kernel) cl_X9_298 ii_java_lang_IndexOutOfBoundsException jat_300 jau_300 jav_300 B.2.2.2.1 (Nat.le_of_ble_eq_true rfl) (Nat.le_of_ble_eq_true rfl) (Nat.le_of_ble_eq_true rfl) (Nat.le_of_ble_eq_true rfl) (Nat.le_of_ble_eq_true rfl) (Nat.le_of_ble_eq_true rfl) (by decide +kernel) (by decide +kernel) (by decide +kernel) (by decide +kernel)
  · cases hf
    exact B_retV B hq rfl (Nat.le_of_ble_eq_true rfl) (Nat.le_of_ble_eq_true rfl) (by decide +kernel)

def rm_X9_needDays : Room := { frames := 9, cells := 1, slots := 6, locals := 120 }
def f_X9_needDays (a0 : Int) (a1 : Int) (m : jMu) : Option (jOut Unit) :=
  (f_X9_isIn a0 0 199).bind fun r1 => (if r1 = 0 then jthr (f_X9_needIndex 0 m) fun r2 => some (.inr ((), r2.2)) else (f_X9_isIn a1 0 199).bind fun r3 => (if r3 = 0 then jthr (f_X9_needIndex 0 m) fun r4 => some (.inr ((), r4.2)) else jthr (f_X9_needIndex 1 m) fun r5 => some (.inr ((), r5.2))))
theorem t_X9_needDays {l : Launch} {G : jG} (hl : l.stackTraces = false) {a0 : Int} {a1 : Int} {m : jMu} {r : (jOut Unit)} (hf : f_X9_needDays a0 a1 m = some r) : jCt l G yX9_needDays (.code yX9_needDays cX9_needDays 2 none :: jWG) rm_X9_needDays [jI a0, jI a1] SKF m (joV r) SKF (joM r) := by
  unfold f_X9_needDays at hf
  refine J_start (ls0 := [(0, jI a0), (1, jI a1)]) (by decide +kernel) hl (Nat.le_of_ble_eq_true rfl) rfl fun X C hN hn hR hr hnm hno hq => ?_
  have B : jB X cX9_needDays RX9 2 SKF.length rm_X9_needDays none := ⟨C, hN, Nat.le_of_eq hn, hR, hr⟩
  refine B_blk B jlkX9_ok jcl_SKF [.iload_n 0, .iconst 0, .sipush 199] (by decide +kernel) (ls' := [(0, jI a0), (1, jI a1)]) (st' := [jI 199, jI 0, jI a0]) rfl (p1 := 5) rfl ?_
  obtain ⟨r1, h1, hf⟩ := jbd hf
  refine B_callS B (Nat.le_refl _) (μ' := m) (k' := 0) (n' := 0) ca_X9_isIn sa_X9_isIn lk_X9_93 (t_X9_isIn B.tr jcl_SKF h1) (Nat.le_refl _) rfl (rest := []) rfl rfl (Nat.le_of_ble_eq_true rfl) (by decide +kernel) rfl rfl (st' := [jI r1]) rfl ?_
  refine J_if_eq B.1 (off := 18) (tgt := 26) (by decide +kernel) (by decide) hf (fun hf => ?_) (fun hf => ?_)
  · refine B_blk B jlkX9_ok jcl_SKF [.iconst 0] (by decide +kernel) (ls' := [(0, jI a0), (1, jI a1)]) (st' := [jI 0]) rfl (p1 := 27) rfl ?_
    rcases jthr_s hf with ⟨e2, h2, hf⟩ | ⟨r2, h2, hf⟩
    · cases hf
      exact B_callST B (Nat.le_refl _) hno hq ca_X9_needIndex sa_X9_needIndex lk_X9_125 (t_X9_needIndex B.tr h2) (Nat.le_refl _) rfl (rest := []) rfl rfl (Nat.le_of_ble_eq_true rfl) (by decide +kernel) (Nat.le_of_ble_eq_true rfl) (Nat.le_of_ble_eq_true rfl)
    · refine B_callS B (Nat.le_refl _) (μ' := r2.2) (k' := 1) (n' := 6) ca_X9_needIndex sa_X9_needIndex lk_X9_125 (t_X9_needIndex B.tr h2) (Nat.le_refl _) rfl (rest := []) rfl rfl (Nat.le_of_ble_eq_true rfl) (by decide +kernel) rfl rfl (st' := []) rfl ?_
      cases hf
      exact B_retV B hq rfl (Nat.le_of_ble_eq_true rfl) (Nat.le_of_ble_eq_true rfl) (by decide +kernel)
  · refine B_blk B jlkX9_ok jcl_SKF [.iload_n 1, .iconst 0, .sipush 199] (by decide +kernel) (ls' := [(0, jI a0), (1, jI a1)]) (st' := [jI 199, jI 0, jI a1]) rfl (p1 := 16) rfl ?_
    obtain ⟨r3, h3, hf⟩ := jbd hf
    refine B_callS B (Nat.le_refl _) (μ' := m) (k' := 0) (n' := 0) ca_X9_isIn sa_X9_isIn lk_X9_93 (t_X9_isIn B.tr jcl_SKF h3) (Nat.le_refl _) rfl (rest := []) rfl rfl (Nat.le_of_ble_eq_true rfl) (by decide +kernel) rfl rfl (st' := [jI r3]) rfl ?_
    refine J_if_eq B.1 (off := 7) (tgt := 26) (by decide +kernel) (by decide) hf (fun hf => ?_) (fun hf => ?_)
    · refine B_blk B jlkX9_ok jcl_SKF [.iconst 0] (by decide +kernel) (ls' := [(0, jI a0), (1, jI a1)]) (st' := [jI 0]) rfl (p1 := 27) rfl ?_
      rcases jthr_s hf with ⟨e4, h4, hf⟩ | ⟨r4, h4, hf⟩
      · cases hf
        exact B_callST B (Nat.le_refl _) hno hq ca_X9_needIndex sa_X9_needIndex lk_X9_125 (t_X9_needIndex B.tr h4) (Nat.le_refl _) rfl (rest := []) rfl rfl (Nat.le_of_ble_eq_true rfl) (by decide +kernel) (Nat.le_of_ble_eq_true rfl) (Nat.le_of_ble_eq_true rfl)
      · refine B_callS B (Nat.le_refl _) (μ' := r4.2) (k' := 1) (n' := 6) ca_X9_needIndex sa_X9_needIndex lk_X9_125 (t_X9_needIndex B.tr h4) (Nat.le_refl _) rfl (rest := []) rfl rfl (Nat.le_of_ble_eq_true rfl) (by decide +kernel) rfl rfl (st' := []) rfl ?_
        cases hf
        exact B_retV B hq rfl (Nat.le_of_ble_eq_true rfl) (Nat.le_of_ble_eq_true rfl) (by decide +kernel)
    · refine B_blk B jlkX9_ok jcl_SKF [.iconst 1, .goto 4] (by decide +kernel) (ls' := [(0, jI a0), (1, jI a1)]) (st' := [jI 1]) rfl (p1 := 27) rfl ?_
      rcases jthr_s hf with ⟨e5, h5, hf⟩ | ⟨r5, h5, hf⟩
      · cases hf
        exact B_callST B (Nat.le_refl _) hno hq ca_X9_needIndex sa_X9_needIndex lk_X9_125 (t_X9_needIndex B.tr h5) (Nat.le_refl _) rfl (rest := []) rfl rfl (Nat.le_of_ble_eq_true rfl) (by decide +kernel) (Nat.le_of_ble_eq_true rfl) (Nat.le_of_ble_eq_true rfl)
      · refine B_callS B (Nat.le_refl _) (μ' := r5.2) (k' := 1) (n' := 6) ca_X9_needIndex sa_X9_needIndex lk_X9_125 (t_X9_needIndex B.tr h5) (Nat.le_refl _) rfl (rest := []) rfl rfl (Nat.le_of_ble_eq_true rfl) (by decide +kernel) rfl rfl (st' := []) rfl ?_
        cases hf
        exact B_retV B hq rfl (Nat.le_of_ble_eq_true rfl) (Nat.le_of_ble_eq_true rfl) (by decide +kernel)

def rm_X9_weather : Room := { frames := 11, cells := 5, slots := 30, locals := 141 }
def f_X9_weather_J186 (v5 : Int) (v6 : Int) (v7 : Int) (s1 : Int) (s2 : Int) (s3 : Int) (m : jMu) : Option (jOut Int) :=
  (f_X5_set 6 7 210 s1 s2 s3 m).bind fun r14 => (if 0 ≤ v5 then (f_X5_set 6 7 210 v7 5 v5 r14).bind fun r15 => (f_X5_set 6 7 210 v7 6 v6 r15).bind fun r16 => some (.inr (v7, r16)) else (f_X5_set 6 7 210 v7 5 (jW ((-1) - v5)) r14).bind fun r17 => (f_X5_set 6 7 210 v7 6 v6 r17).bind fun r18 => some (.inr (v7, r18)))
def f_X9_weather_J81 (v1 : Int) (v2 : Int) (v3 : Int) (v4 : Int) (v5 : Int) (v6 : Int) (s0 : Int) (m : jMu) : Option (jOut Int) :=
  jthr (f_X9_needArgument s0 m) fun r6 => (f_X5_hasRoom 6 7 210 r6.2).bind fun r7 => jthr (f_X9_needRoom r7 r6.2) fun r8 => (f_X5_addRow 6 7 210 r8.2).bind fun r9 => (f_X5_set 6 7 210 r9.1 0 v1 r9.2).bind fun r10 => (f_X5_set 6 7 210 r9.1 1 v2 r10).bind fun r11 => (f_X5_set 6 7 210 r9.1 2 v3 r11).bind fun r12 => (f_X5_set 6 7 210 r9.1 3 v4 r12).bind fun r13 => (if 0 ≤ v5 then f_X9_weather_J186 v5 v6 r9.1 r9.1 4 0 r13 else f_X9_weather_J186 v5 v6 r9.1 r9.1 4 1 r13)
def f_X9_weather_J80 (v1 : Int) (v2 : Int) (v3 : Int) (v4 : Int) (v5 : Int) (v6 : Int) (m : jMu) : Option (jOut Int) :=
  f_X9_weather_J81 v1 v2 v3 v4 v5 v6 0 m
def f_X9_weather_J50 (v1 : Int) (v2 : Int) (v3 : Int) (v4 : Int) (v5 : Int) (v6 : Int) (s0 : Int) (m : jMu) : Option (jOut Int) :=
  jthr (f_X9_needArgument s0 m) fun r4 => (f_X9_isIn v5 (-10) 9).bind fun r5 => (if r5 = 0 then f_X9_weather_J80 v1 v2 v3 v4 v5 v6 r4.2 else (f_X9_isIn v6 0 30).bind fun r19 => (if r19 = 0 then f_X9_weather_J80 v1 v2 v3 v4 v5 v6 r4.2 else f_X9_weather_J81 v1 v2 v3 v4 v5 v6 1 r4.2))
def f_X9_weather_J49 (v1 : Int) (v2 : Int) (v3 : Int) (v4 : Int) (v5 : Int) (v6 : Int) (m : jMu) : Option (jOut Int) :=
  f_X9_weather_J50 v1 v2 v3 v4 v5 v6 0 m
def f_X9_weather_J31 (v1 : Int) (v2 : Int) (v3 : Int) (v4 : Int) (v5 : Int) (v6 : Int) (s0 : Int) (m : jMu) : Option (jOut Int) :=
  jthr (f_X9_needIndex s0 m) fun r3 => (if v2 < v1 then f_X9_weather_J49 v1 v2 v3 v4 v5 v6 r3.2 else (if v4 < v3 then f_X9_weather_J49 v1 v2 v3 v4 v5 v6 r3.2 else f_X9_weather_J50 v1 v2 v3 v4 v5 v6 1 r3.2))
def f_X9_weather_J30 (v1 : Int) (v2 : Int) (v3 : Int) (v4 : Int) (v5 : Int) (v6 : Int) (m : jMu) : Option (jOut Int) :=
  f_X9_weather_J31 v1 v2 v3 v4 v5 v6 0 m
def f_X9_weather (a0 : Int) (a1 : Int) (a2 : Int) (a3 : Int) (a4 : Int) (a5 : Int) (m : jMu) : Option (jOut Int) :=
  jthr (f_X9_needDays a0 a1 m) fun r1 => (f_X9_isIn a2 0 11).bind fun r2 => (if r2 = 0 then f_X9_weather_J30 a0 a1 a2 a3 a4 a5 r1.2 else (f_X9_isIn a3 0 11).bind fun r20 => (if r20 = 0 then f_X9_weather_J30 a0 a1 a2 a3 a4 a5 r1.2 else f_X9_weather_J31 a0 a1 a2 a3 a4 a5 1 r1.2))
theorem t_X9_weather_J186 {X : jX} (B : jB X cX9_weather RX9 8 SKF.length rm_X9_weather (some .int)) (hno : ∀ x ∈ (xc X).exceptionTable.toList, False) (v5 : Int) (v6 : Int) (v7 : Int) (s1 : Int) (s2 : Int) (s3 : Int) (m : jMu) (r : (jOut Int)) (hf : f_X9_weather_J186 v5 v6 v7 s1 s2 s3 m = some r) (hq : jQ X (joI r) SKF (joM r) rm_X9_weather.cells rm_X9_weather.slots) : J X SKF m 5 30 186 [(0, jR 0), (5, jI v5), (6, jI v6), (7, jI v7)] [jI s3, jI s2, jI s1, jR 6] := by
  unfold f_X9_weather_J186 at hf
  obtain ⟨r14, h14, hf⟩ := jbd hf
  refine B_callV B (Nat.le_refl _) (μ' := r14) (k' := 5) (n' := 30) ca_X5_set in_X5_set se_X5_set lk_X9_117 (t_X5_set B.tr jcl_SKF ⟨rfl, rfl, by decide⟩ h14) (Nat.le_refl _) rfl rfl rfl (rest := []) rfl rfl (Nat.le_of_ble_eq_true rfl) (by decide +kernel) rfl rfl (st' := []) rfl ?_
  refine B_blk B jlkX9_ok jcl_SKF [.aload_n 0, .getfield 20, .getfield 128, .iload 7, .iconst 5, .iload 5] (by decide +kernel) (ls' := [(0, jR 0), (5, jI v5), (6, jI v6), (7, jI v7)]) (st' := [jI v5, jI 5, jI v7, jR 6]) rfl (p1 := 201) rfl ?_
  refine J_if_ge B.1 (off := 10) (tgt := 211) (by decide +kernel) (by decide) hf (fun hf => ?_) (fun hf => ?_)
  · refine B_blk B jlkX9_ok jcl_SKF [.iload 5] (by decide +kernel) (ls' := [(0, jR 0), (5, jI v5), (6, jI v6), (7, jI v7)]) (st' := [jI v5, jI 5, jI v7, jR 6]) rfl (p1 := 213) rfl ?_
    obtain ⟨r15, h15, hf⟩ := jbd hf
    refine B_callV B (Nat.le_refl _) (μ' := r15) (k' := 5) (n' := 30) ca_X5_set in_X5_set se_X5_set lk_X9_117 (t_X5_set B.tr jcl_SKF ⟨rfl, rfl, by decide⟩ h15) (Nat.le_refl _) rfl rfl rfl (rest := []) rfl rfl (Nat.le_of_ble_eq_true rfl) (by decide +kernel) rfl rfl (st' := []) rfl ?_
    refine B_blk B jlkX9_ok jcl_SKF [.aload_n 0, .getfield 20, .getfield 128, .iload 7, .bipush 6, .iload 6] (by decide +kernel) (ls' := [(0, jR 0), (5, jI v5), (6, jI v6), (7, jI v7)]) (st' := [jI v6, jI 6, jI v7, jR 6]) rfl (p1 := 229) rfl ?_
    obtain ⟨r16, h16, hf⟩ := jbd hf
    refine B_callV B (Nat.le_refl _) (μ' := r16) (k' := 5) (n' := 30) ca_X5_set in_X5_set se_X5_set lk_X9_117 (t_X5_set B.tr jcl_SKF ⟨rfl, rfl, by decide⟩ h16) (Nat.le_refl _) rfl rfl rfl (rest := []) rfl rfl (Nat.le_of_ble_eq_true rfl) (by decide +kernel) rfl rfl (st' := []) rfl ?_
    refine B_blk B jlkX9_ok jcl_SKF [.iload 7] (by decide +kernel) (ls' := [(0, jR 0), (5, jI v5), (6, jI v6), (7, jI v7)]) (st' := [jI v7]) rfl (p1 := 234) rfl ?_
    cases hf
    exact B_retI B hq rfl (Nat.le_of_ble_eq_true rfl) (Nat.le_of_ble_eq_true rfl) (by decide +kernel)
  · refine B_blk B jlkX9_ok jcl_SKF [.iconst (-1), .iload 5, .isub, .goto 5] (by decide +kernel) (ls' := [(0, jR 0), (5, jI v5), (6, jI v6), (7, jI v7)]) (st' := [jI (jW ((-1) - v5)), jI 5, jI v7, jR 6]) rfl (p1 := 213) rfl ?_
    obtain ⟨r17, h17, hf⟩ := jbd hf
    refine B_callV B (Nat.le_refl _) (μ' := r17) (k' := 5) (n' := 30) ca_X5_set in_X5_set se_X5_set lk_X9_117 (t_X5_set B.tr jcl_SKF ⟨rfl, rfl, by decide⟩ h17) (Nat.le_refl _) rfl rfl rfl (rest := []) rfl rfl (Nat.le_of_ble_eq_true rfl) (by decide +kernel) rfl rfl (st' := []) rfl ?_
    refine B_blk B jlkX9_ok jcl_SKF [.aload_n 0, .getfield 20, .getfield 128, .iload 7, .bipush 6, .iload 6] (by decide +kernel) (ls' := [(0, jR 0), (5, jI v5), (6, jI v6), (7, jI v7)]) (st' := [jI v6, jI 6, jI v7, jR 6]) rfl (p1 := 229) rfl ?_
    obtain ⟨r18, h18, hf⟩ := jbd hf
    refine B_callV B (Nat.le_refl _) (μ' := r18) (k' := 5) (n' := 30) ca_X5_set in_X5_set se_X5_set lk_X9_117 (t_X5_set B.tr jcl_SKF ⟨rfl, rfl, by decide⟩ h18) (Nat.le_refl _) rfl rfl rfl (rest := []) rfl rfl (Nat.le_of_ble_eq_true rfl) (by decide +kernel) rfl rfl (st' := []) rfl ?_
    refine B_blk B jlkX9_ok jcl_SKF [.iload 7] (by decide +kernel) (ls' := [(0, jR 0), (5, jI v5), (6, jI v6), (7, jI v7)]) (st' := [jI v7]) rfl (p1 := 234) rfl ?_
    cases hf
    exact B_retI B hq rfl (Nat.le_of_ble_eq_true rfl) (Nat.le_of_ble_eq_true rfl) (by decide +kernel)
theorem t_X9_weather_J81 {X : jX} (B : jB X cX9_weather RX9 8 SKF.length rm_X9_weather (some .int)) (hno : ∀ x ∈ (xc X).exceptionTable.toList, False) (v1 : Int) (v2 : Int) (v3 : Int) (v4 : Int) (v5 : Int) (v6 : Int) (s0 : Int) (m : jMu) (r : (jOut Int)) (hf : f_X9_weather_J81 v1 v2 v3 v4 v5 v6 s0 m = some r) (hq : jQ X (joI r) SKF (joM r) rm_X9_weather.cells rm_X9_weather.slots) : J X SKF m 3 18 81 [(0, jR 0), (1, jI v1), (2, jI v2), (3, jI v3), (4, jI v4), (5, jI v5), (6, jI v6)] [jI s0] := by
  unfold f_X9_weather_J81 at hf
  rcases jthr_s hf with ⟨e6, h6, hf⟩ | ⟨r6, h6, hf⟩
  · cases hf
    exact B_callST B (Nat.le_refl _) hno hq ca_X9_needArgument sa_X9_needArgument lk_X9_97 (t_X9_needArgument B.tr h6) (Nat.le_refl _) rfl (rest := []) rfl rfl (Nat.le_of_ble_eq_true rfl) (by decide +kernel) (Nat.le_of_ble_eq_true rfl) (Nat.le_of_ble_eq_true rfl)
  · refine B_callS B (Nat.le_refl _) (μ' := r6.2) (k' := 4) (n' := 24) ca_X9_needArgument sa_X9_needArgument lk_X9_97 (t_X9_needArgument B.tr h6) (Nat.le_refl _) rfl (rest := []) rfl rfl (Nat.le_of_ble_eq_true rfl) (by decide +kernel) rfl rfl (st' := []) rfl ?_
    refine B_blk B jlkX9_ok jcl_SKF [.aload_n 0, .getfield 20, .getfield 128] (by decide +kernel) (ls' := [(0, jR 0), (1, jI v1), (2, jI v2), (3, jI v3), (4, jI v4), (5, jI v5), (6, jI v6)]) (st' := [jR 6]) rfl (p1 := 91) rfl ?_
    obtain ⟨r7, h7, hf⟩ := jbd hf
    refine B_callV B (Nat.le_refl _) (μ' := r6.2) (k' := 4) (n' := 24) ca_X5_hasRoom in_X5_hasRoom se_X5_hasRoom lk_X9_105 (t_X5_hasRoom B.tr jcl_SKF ⟨rfl, rfl, by decide⟩ h7) (Nat.le_refl _) rfl rfl rfl (rest := []) rfl rfl (Nat.le_of_ble_eq_true rfl) (by decide +kernel) rfl rfl (st' := [jI r7]) rfl ?_
    rcases jthr_s hf with ⟨e8, h8, hf⟩ | ⟨r8, h8, hf⟩
    · cases hf
      exact B_callST B (Nat.le_refl _) hno hq ca_X9_needRoom sa_X9_needRoom lk_X9_111 (t_X9_needRoom B.tr h8) (Nat.le_refl _) rfl (rest := []) rfl rfl (Nat.le_of_ble_eq_true rfl) (by decide +kernel) (Nat.le_of_ble_eq_true rfl) (Nat.le_of_ble_eq_true rfl)
    · refine B_callS B (Nat.le_refl _) (μ' := r8.2) (k' := 5) (n' := 30) ca_X9_needRoom sa_X9_needRoom lk_X9_111 (t_X9_needRoom B.tr h8) (Nat.le_refl _) rfl (rest := []) rfl rfl (Nat.le_of_ble_eq_true rfl) (by decide +kernel) rfl rfl (st' := []) rfl ?_
      refine B_blk B jlkX9_ok jcl_SKF [.aload_n 0, .getfield 20, .getfield 128] (by decide +kernel) (ls' := [(0, jR 0), (1, jI v1), (2, jI v2), (3, jI v3), (4, jI v4), (5, jI v5), (6, jI v6)]) (st' := [jR 6]) rfl (p1 := 104) rfl ?_
      obtain ⟨r9, h9, hf⟩ := jbd hf
      refine B_callV B (Nat.le_refl _) (μ' := r9.2) (k' := 5) (n' := 30) ca_X5_addRow in_X5_addRow se_X5_addRow lk_X9_114 (t_X5_addRow B.tr jcl_SKF ⟨rfl, rfl, by decide⟩ h9) (Nat.le_refl _) rfl rfl rfl (rest := []) rfl rfl (Nat.le_of_ble_eq_true rfl) (by decide +kernel) rfl rfl (st' := [jI r9.1]) rfl ?_
      refine B_blk B jlkX9_ok jcl_SKF [.istore 7, .aload_n 0, .getfield 20, .getfield 128, .iload 7, .iconst 0, .iload_n 1] (by decide +kernel) (ls' := [(0, jR 0), (1, jI v1), (2, jI v2), (3, jI v3), (4, jI v4), (5, jI v5), (6, jI v6), (7, jI r9.1)]) (st' := [jI v1, jI 0, jI r9.1, jR 6]) rfl (p1 := 120) rfl ?_
      obtain ⟨r10, h10, hf⟩ := jbd hf
      refine B_callV B (Nat.le_refl _) (μ' := r10) (k' := 5) (n' := 30) ca_X5_set in_X5_set se_X5_set lk_X9_117 (t_X5_set B.tr jcl_SKF ⟨rfl, rfl, by decide⟩ h10) (Nat.le_refl _) rfl rfl rfl (rest := []) rfl rfl (Nat.le_of_ble_eq_true rfl) (by decide +kernel) rfl rfl (st' := []) rfl ?_
      refine B_blk B jlkX9_ok jcl_SKF [.aload_n 0, .getfield 20, .getfield 128, .iload 7, .iconst 1, .iload_n 2] (by decide +kernel) (ls' := [(0, jR 0), (1, jI v1), (2, jI v2), (3, jI v3), (4, jI v4), (5, jI v5), (6, jI v6), (7, jI r9.1)]) (st' := [jI v2, jI 1, jI r9.1, jR 6]) rfl (p1 := 134) rfl ?_
      obtain ⟨r11, h11, hf⟩ := jbd hf
      refine B_callV B (Nat.le_refl _) (μ' := r11) (k' := 5) (n' := 30) ca_X5_set in_X5_set se_X5_set lk_X9_117 (t_X5_set B.tr jcl_SKF ⟨rfl, rfl, by decide⟩ h11) (Nat.le_refl _) rfl rfl rfl (rest := []) rfl rfl (Nat.le_of_ble_eq_true rfl) (by decide +kernel) rfl rfl (st' := []) rfl ?_
      refine B_blk B jlkX9_ok jcl_SKF [.aload_n 0, .getfield 20, .getfield 128, .iload 7, .iconst 2, .iload_n 3] (by decide +kernel) (ls' := [(0, jR 0), (1, jI v1), (2, jI v2), (3, jI v3), (4, jI v4), (5, jI v5), (6, jI v6), (7, jI r9.1)]) (st' := [jI v3, jI 2, jI r9.1, jR 6]) rfl (p1 := 148) rfl ?_
      obtain ⟨r12, h12, hf⟩ := jbd hf
      refine B_callV B (Nat.le_refl _) (μ' := r12) (k' := 5) (n' := 30) ca_X5_set in_X5_set se_X5_set lk_X9_117 (t_X5_set B.tr jcl_SKF ⟨rfl, rfl, by decide⟩ h12) (Nat.le_refl _) rfl rfl rfl (rest := []) rfl rfl (Nat.le_of_ble_eq_true rfl) (by decide +kernel) rfl rfl (st' := []) rfl ?_
      refine B_blk B jlkX9_ok jcl_SKF [.aload_n 0, .getfield 20, .getfield 128, .iload 7, .iconst 3, .iload 4] (by decide +kernel) (ls' := [(0, jR 0), (1, jI v1), (2, jI v2), (3, jI v3), (4, jI v4), (5, jI v5), (6, jI v6), (7, jI r9.1)]) (st' := [jI v4, jI 3, jI r9.1, jR 6]) rfl (p1 := 163) rfl ?_
      obtain ⟨r13, h13, hf⟩ := jbd hf
      refine B_callV B (Nat.le_refl _) (μ' := r13) (k' := 5) (n' := 30) ca_X5_set in_X5_set se_X5_set lk_X9_117 (t_X5_set B.tr jcl_SKF ⟨rfl, rfl, by decide⟩ h13) (Nat.le_refl _) rfl rfl rfl (rest := []) rfl rfl (Nat.le_of_ble_eq_true rfl) (by decide +kernel) rfl rfl (st' := []) rfl ?_
      refine B_blk B jlkX9_ok jcl_SKF [.aload_n 0, .getfield 20, .getfield 128, .iload 7, .iconst 4, .iload 5] (by decide +kernel) (ls' := [(0, jR 0), (1, jI v1), (2, jI v2), (3, jI v3), (4, jI v4), (5, jI v5), (6, jI v6), (7, jI r9.1)]) (st' := [jI v5, jI 4, jI r9.1, jR 6]) rfl (p1 := 178) rfl ?_
      refine J_if_ge B.1 (off := 7) (tgt := 185) (by decide +kernel) (by decide) hf (fun hf => ?_) (fun hf => ?_)
      · refine B_blk B jlkX9_ok jcl_SKF [.iconst 0] (by decide +kernel) (ls' := [(0, jR 0), (1, jI v1), (2, jI v2), (3, jI v3), (4, jI v4), (5, jI v5), (6, jI v6), (7, jI r9.1)]) (st' := [jI 0, jI 4, jI r9.1, jR 6]) rfl (p1 := 186) rfl ?_
        refine J_pick [0, 5, 6, 7] (ls' := [(0, jR 0), (5, jI v5), (6, jI v6), (7, jI r9.1)]) rfl ?_
        exact t_X9_weather_J186 B hno v5 v6 r9.1 r9.1 4 0 r13 _ hf hq
      · refine B_blk B jlkX9_ok jcl_SKF [.iconst 1, .goto 4] (by decide +kernel) (ls' := [(0, jR 0), (1, jI v1), (2, jI v2), (3, jI v3), (4, jI v4), (5, jI v5), (6, jI v6), (7, jI r9.1)]) (st' := [jI 1, jI 4, jI r9.1, jR 6]) rfl (p1 := 186) rfl ?_
        refine J_pick [0, 5, 6, 7] (ls' := [(0, jR 0), (5, jI v5), (6, jI v6), (7, jI r9.1)]) rfl ?_
        exact t_X9_weather_J186 B hno v5 v6 r9.1 r9.1 4 1 r13 _ hf hq
theorem t_X9_weather_J80 {X : jX} (B : jB X cX9_weather RX9 8 SKF.length rm_X9_weather (some .int)) (hno : ∀ x ∈ (xc X).exceptionTable.toList, False) (v1 : Int) (v2 : Int) (v3 : Int) (v4 : Int) (v5 : Int) (v6 : Int) (m : jMu) (r : (jOut Int)) (hf : f_X9_weather_J80 v1 v2 v3 v4 v5 v6 m = some r) (hq : jQ X (joI r) SKF (joM r) rm_X9_weather.cells rm_X9_weather.slots) : J X SKF m 3 18 80 [(0, jR 0), (1, jI v1), (2, jI v2), (3, jI v3), (4, jI v4), (5, jI v5), (6, jI v6)] [] := by
  unfold f_X9_weather_J80 at hf
  refine B_blk B jlkX9_ok jcl_SKF [.iconst 0] (by decide +kernel) (ls' := [(0, jR 0), (1, jI v1), (2, jI v2), (3, jI v3), (4, jI v4), (5, jI v5), (6, jI v6)]) (st' := [jI 0]) rfl (p1 := 81) rfl ?_
  exact t_X9_weather_J81 B hno v1 v2 v3 v4 v5 v6 0 m _ hf hq
theorem t_X9_weather_J50 {X : jX} (B : jB X cX9_weather RX9 8 SKF.length rm_X9_weather (some .int)) (hno : ∀ x ∈ (xc X).exceptionTable.toList, False) (v1 : Int) (v2 : Int) (v3 : Int) (v4 : Int) (v5 : Int) (v6 : Int) (s0 : Int) (m : jMu) (r : (jOut Int)) (hf : f_X9_weather_J50 v1 v2 v3 v4 v5 v6 s0 m = some r) (hq : jQ X (joI r) SKF (joM r) rm_X9_weather.cells rm_X9_weather.slots) : J X SKF m 2 12 50 [(0, jR 0), (1, jI v1), (2, jI v2), (3, jI v3), (4, jI v4), (5, jI v5), (6, jI v6)] [jI s0] := by
  unfold f_X9_weather_J50 at hf
  rcases jthr_s hf with ⟨e4, h4, hf⟩ | ⟨r4, h4, hf⟩
  · cases hf
    exact B_callST B (Nat.le_refl _) hno hq ca_X9_needArgument sa_X9_needArgument lk_X9_97 (t_X9_needArgument B.tr h4) (Nat.le_refl _) rfl (rest := []) rfl rfl (Nat.le_of_ble_eq_true rfl) (by decide +kernel) (Nat.le_of_ble_eq_true rfl) (Nat.le_of_ble_eq_true rfl)
  · refine B_callS B (Nat.le_refl _) (μ' := r4.2) (k' := 3) (n' := 18) ca_X9_needArgument sa_X9_needArgument lk_X9_97 (t_X9_needArgument B.tr h4) (Nat.le_refl _) rfl (rest := []) rfl rfl (Nat.le_of_ble_eq_true rfl) (by decide +kernel) rfl rfl (st' := []) rfl ?_
    refine B_blk B jlkX9_ok jcl_SKF [.iload 5, .bipush (-10), .bipush 9] (by decide +kernel) (ls' := [(0, jR 0), (1, jI v1), (2, jI v2), (3, jI v3), (4, jI v4), (5, jI v5), (6, jI v6)]) (st' := [jI 9, jI (-10), jI v5]) rfl (p1 := 59) rfl ?_
    obtain ⟨r5, h5, hf⟩ := jbd hf
    refine B_callS B (Nat.le_refl _) (μ' := r4.2) (k' := 3) (n' := 18) ca_X9_isIn sa_X9_isIn lk_X9_93 (t_X9_isIn B.tr jcl_SKF h5) (Nat.le_refl _) rfl (rest := []) rfl rfl (Nat.le_of_ble_eq_true rfl) (by decide +kernel) rfl rfl (st' := [jI r5]) rfl ?_
    refine J_if_eq B.1 (off := 18) (tgt := 80) (by decide +kernel) (by decide) hf (fun hf => ?_) (fun hf => ?_)
    · exact t_X9_weather_J80 B hno v1 v2 v3 v4 v5 v6 r4.2 _ hf hq
    · refine B_blk B jlkX9_ok jcl_SKF [.iload 6, .iconst 0, .bipush 30] (by decide +kernel) (ls' := [(0, jR 0), (1, jI v1), (2, jI v2), (3, jI v3), (4, jI v4), (5, jI v5), (6, jI v6)]) (st' := [jI 30, jI 0, jI v6]) rfl (p1 := 70) rfl ?_
      obtain ⟨r19, h19, hf⟩ := jbd hf
      refine B_callS B (Nat.le_refl _) (μ' := r4.2) (k' := 3) (n' := 18) ca_X9_isIn sa_X9_isIn lk_X9_93 (t_X9_isIn B.tr jcl_SKF h19) (Nat.le_refl _) rfl (rest := []) rfl rfl (Nat.le_of_ble_eq_true rfl) (by decide +kernel) rfl rfl (st' := [jI r19]) rfl ?_
      refine J_if_eq B.1 (off := 7) (tgt := 80) (by decide +kernel) (by decide) hf (fun hf => ?_) (fun hf => ?_)
      · exact t_X9_weather_J80 B hno v1 v2 v3 v4 v5 v6 r4.2 _ hf hq
      · refine B_blk B jlkX9_ok jcl_SKF [.iconst 1, .goto 4] (by decide +kernel) (ls' := [(0, jR 0), (1, jI v1), (2, jI v2), (3, jI v3), (4, jI v4), (5, jI v5), (6, jI v6)]) (st' := [jI 1]) rfl (p1 := 81) rfl ?_
        exact t_X9_weather_J81 B hno v1 v2 v3 v4 v5 v6 1 r4.2 _ hf hq
theorem t_X9_weather_J49 {X : jX} (B : jB X cX9_weather RX9 8 SKF.length rm_X9_weather (some .int)) (hno : ∀ x ∈ (xc X).exceptionTable.toList, False) (v1 : Int) (v2 : Int) (v3 : Int) (v4 : Int) (v5 : Int) (v6 : Int) (m : jMu) (r : (jOut Int)) (hf : f_X9_weather_J49 v1 v2 v3 v4 v5 v6 m = some r) (hq : jQ X (joI r) SKF (joM r) rm_X9_weather.cells rm_X9_weather.slots) : J X SKF m 2 12 49 [(0, jR 0), (1, jI v1), (2, jI v2), (3, jI v3), (4, jI v4), (5, jI v5), (6, jI v6)] [] := by
  unfold f_X9_weather_J49 at hf
  refine B_blk B jlkX9_ok jcl_SKF [.iconst 0] (by decide +kernel) (ls' := [(0, jR 0), (1, jI v1), (2, jI v2), (3, jI v3), (4, jI v4), (5, jI v5), (6, jI v6)]) (st' := [jI 0]) rfl (p1 := 50) rfl ?_
  exact t_X9_weather_J50 B hno v1 v2 v3 v4 v5 v6 0 m _ hf hq
theorem t_X9_weather_J31 {X : jX} (B : jB X cX9_weather RX9 8 SKF.length rm_X9_weather (some .int)) (hno : ∀ x ∈ (xc X).exceptionTable.toList, False) (v1 : Int) (v2 : Int) (v3 : Int) (v4 : Int) (v5 : Int) (v6 : Int) (s0 : Int) (m : jMu) (r : (jOut Int)) (hf : f_X9_weather_J31 v1 v2 v3 v4 v5 v6 s0 m = some r) (hq : jQ X (joI r) SKF (joM r) rm_X9_weather.cells rm_X9_weather.slots) : J X SKF m 1 6 31 [(0, jR 0), (1, jI v1), (2, jI v2), (3, jI v3), (4, jI v4), (5, jI v5), (6, jI v6)] [jI s0] := by
  unfold f_X9_weather_J31 at hf
  rcases jthr_s hf with ⟨e3, h3, hf⟩ | ⟨r3, h3, hf⟩
  · cases hf
    exact B_callST B (Nat.le_refl _) hno hq ca_X9_needIndex sa_X9_needIndex lk_X9_125 (t_X9_needIndex B.tr h3) (Nat.le_refl _) rfl (rest := []) rfl rfl (Nat.le_of_ble_eq_true rfl) (by decide +kernel) (Nat.le_of_ble_eq_true rfl) (Nat.le_of_ble_eq_true rfl)
  · refine B_callS B (Nat.le_refl _) (μ' := r3.2) (k' := 2) (n' := 12) ca_X9_needIndex sa_X9_needIndex lk_X9_125 (t_X9_needIndex B.tr h3) (Nat.le_refl _) rfl (rest := []) rfl rfl (Nat.le_of_ble_eq_true rfl) (by decide +kernel) rfl rfl (st' := []) rfl ?_
    refine B_blk B jlkX9_ok jcl_SKF [.iload_n 1, .iload_n 2] (by decide +kernel) (ls' := [(0, jR 0), (1, jI v1), (2, jI v2), (3, jI v3), (4, jI v4), (5, jI v5), (6, jI v6)]) (st' := [jI v2, jI v1]) rfl (p1 := 36) rfl ?_
    refine J_icmp_gt B.1 (off := 13) (tgt := 49) (by decide +kernel) (by decide) hf (fun hf => ?_) (fun hf => ?_)
    · exact t_X9_weather_J49 B hno v1 v2 v3 v4 v5 v6 r3.2 _ hf hq
    · refine B_blk B jlkX9_ok jcl_SKF [.iload_n 3, .iload 4] (by decide +kernel) (ls' := [(0, jR 0), (1, jI v1), (2, jI v2), (3, jI v3), (4, jI v4), (5, jI v5), (6, jI v6)]) (st' := [jI v4, jI v3]) rfl (p1 := 42) rfl ?_
      refine J_icmp_gt B.1 (off := 7) (tgt := 49) (by decide +kernel) (by decide) hf (fun hf => ?_) (fun hf => ?_)
      · exact t_X9_weather_J49 B hno v1 v2 v3 v4 v5 v6 r3.2 _ hf hq
      · refine B_blk B jlkX9_ok jcl_SKF [.iconst 1, .goto 4] (by decide +kernel) (ls' := [(0, jR 0), (1, jI v1), (2, jI v2), (3, jI v3), (4, jI v4), (5, jI v5), (6, jI v6)]) (st' := [jI 1]) rfl (p1 := 50) rfl ?_
        exact t_X9_weather_J50 B hno v1 v2 v3 v4 v5 v6 1 r3.2 _ hf hq
theorem t_X9_weather_J30 {X : jX} (B : jB X cX9_weather RX9 8 SKF.length rm_X9_weather (some .int)) (hno : ∀ x ∈ (xc X).exceptionTable.toList, False) (v1 : Int) (v2 : Int) (v3 : Int) (v4 : Int) (v5 : Int) (v6 : Int) (m : jMu) (r : (jOut Int)) (hf : f_X9_weather_J30 v1 v2 v3 v4 v5 v6 m = some r) (hq : jQ X (joI r) SKF (joM r) rm_X9_weather.cells rm_X9_weather.slots) : J X SKF m 1 6 30 [(0, jR 0), (1, jI v1), (2, jI v2), (3, jI v3), (4, jI v4), (5, jI v5), (6, jI v6)] [] := by
  unfold f_X9_weather_J30 at hf
  refine B_blk B jlkX9_ok jcl_SKF [.iconst 0] (by decide +kernel) (ls' := [(0, jR 0), (1, jI v1), (2, jI v2), (3, jI v3), (4, jI v4), (5, jI v5), (6, jI v6)]) (st' := [jI 0]) rfl (p1 := 31) rfl ?_
  exact t_X9_weather_J31 B hno v1 v2 v3 v4 v5 v6 0 m _ hf hq
theorem t_X9_weather {l : Launch} {G : jG} (hl : l.stackTraces = false) {a0 : Int} {a1 : Int} {a2 : Int} {a3 : Int} {a4 : Int} {a5 : Int} {m : jMu} {r : (jOut Int)} (hf : f_X9_weather a0 a1 a2 a3 a4 a5 m = some r) : jCt l G yX9_weather (.code yX9_weather cX9_weather 8 (some .int) :: jWG) rm_X9_weather [jR 0, jI a0, jI a1, jI a2, jI a3, jI a4, jI a5] SKF m (joI r) SKF (joM r) := by
  unfold f_X9_weather at hf
  refine J_start (ls0 := [(0, jR 0), (1, jI a0), (2, jI a1), (3, jI a2), (4, jI a3), (5, jI a4), (6, jI a5)]) (by decide +kernel) hl (Nat.le_of_ble_eq_true rfl) rfl fun X C hN hn hR hr hnm hno hq => ?_
  have B : jB X cX9_weather RX9 8 SKF.length rm_X9_weather (some .int) := ⟨C, hN, Nat.le_of_eq hn, hR, hr⟩
  refine B_blk B jlkX9_ok jcl_SKF [.iload_n 1, .iload_n 2] (by decide +kernel) (ls' := [(0, jR 0), (1, jI a0), (2, jI a1), (3, jI a2), (4, jI a3), (5, jI a4), (6, jI a5)]) (st' := [jI a1, jI a0]) rfl (p1 := 2) rfl ?_
  rcases jthr_s hf with ⟨e1, h1, hf⟩ | ⟨r1, h1, hf⟩
  · cases hf
    exact B_callST B (Nat.le_refl _) hno hq ca_X9_needDays sa_X9_needDays lk_X9_121 (t_X9_needDays B.tr h1) (Nat.le_refl _) rfl (rest := []) rfl rfl (Nat.le_of_ble_eq_true rfl) (by decide +kernel) (Nat.le_of_ble_eq_true rfl) (Nat.le_of_ble_eq_true rfl)
  · refine B_callS B (Nat.le_refl _) (μ' := r1.2) (k' := 1) (n' := 6) ca_X9_needDays sa_X9_needDays lk_X9_121 (t_X9_needDays B.tr h1) (Nat.le_refl _) rfl (rest := []) rfl rfl (Nat.le_of_ble_eq_true rfl) (by decide +kernel) rfl rfl (st' := []) rfl ?_
    refine B_blk B jlkX9_ok jcl_SKF [.iload_n 3, .iconst 0, .bipush 11] (by decide +kernel) (ls' := [(0, jR 0), (1, jI a0), (2, jI a1), (3, jI a2), (4, jI a3), (5, jI a4), (6, jI a5)]) (st' := [jI 11, jI 0, jI a2]) rfl (p1 := 9) rfl ?_
    obtain ⟨r2, h2, hf⟩ := jbd hf
    refine B_callS B (Nat.le_refl _) (μ' := r1.2) (k' := 1) (n' := 6) ca_X9_isIn sa_X9_isIn lk_X9_93 (t_X9_isIn B.tr jcl_SKF h2) (Nat.le_refl _) rfl (rest := []) rfl rfl (Nat.le_of_ble_eq_true rfl) (by decide +kernel) rfl rfl (st' := [jI r2]) rfl ?_
    refine J_if_eq B.1 (off := 18) (tgt := 30) (by decide +kernel) (by decide) hf (fun hf => ?_) (fun hf => ?_)
    · exact t_X9_weather_J30 B hno a0 a1 a2 a3 a4 a5 r1.2 _ hf hq
    · refine B_blk B jlkX9_ok jcl_SKF [.iload 4, .iconst 0, .bipush 11] (by decide +kernel) (ls' := [(0, jR 0), (1, jI a0), (2, jI a1), (3, jI a2), (4, jI a3), (5, jI a4), (6, jI a5)]) (st' := [jI 11, jI 0, jI a3]) rfl (p1 := 20) rfl ?_
      obtain ⟨r20, h20, hf⟩ := jbd hf
      refine B_callS B (Nat.le_refl _) (μ' := r1.2) (k' := 1) (n' := 6) ca_X9_isIn sa_X9_isIn lk_X9_93 (t_X9_isIn B.tr jcl_SKF h20) (Nat.le_refl _) rfl (rest := []) rfl rfl (Nat.le_of_ble_eq_true rfl) (by decide +kernel) rfl rfl (st' := [jI r20]) rfl ?_
      refine J_if_eq B.1 (off := 7) (tgt := 30) (by decide +kernel) (by decide) hf (fun hf => ?_) (fun hf => ?_)
      · exact t_X9_weather_J30 B hno a0 a1 a2 a3 a4 a5 r1.2 _ hf hq
      · refine B_blk B jlkX9_ok jcl_SKF [.iconst 1, .goto 4] (by decide +kernel) (ls' := [(0, jR 0), (1, jI a0), (2, jI a1), (3, jI a2), (4, jI a3), (5, jI a4), (6, jI a5)]) (st' := [jI 1]) rfl (p1 := 31) rfl ?_
        exact t_X9_weather_J31 B hno a0 a1 a2 a3 a4 a5 1 r1.2 _ hf hq

def rm_X9_trains : Room := { frames := 9, cells := 1, slots := 6, locals := 120 }
def f_X9_trains (a0 : Int) (m : jMu) : Option (jOut Unit) :=
  (f_X9_isIn a0 0 4095).bind fun r1 => jthr (f_X9_needArgument r1 m) fun r2 => (jlt (jup r2.2 1 15 a0) fun m3 => some (.inr ((), m3)))
theorem t_X9_trains {l : Launch} {G : jG} (hl : l.stackTraces = false) {a0 : Int} {m : jMu} {r : (jOut Unit)} (hf : f_X9_trains a0 m = some r) : jCt l G yX9_trains (.code yX9_trains cX9_trains 2 none :: jWG) rm_X9_trains [jR 0, jI a0] SKF m (joV r) SKF (joM r) := by
  unfold f_X9_trains at hf
  refine J_start (ls0 := [(0, jR 0), (1, jI a0)]) (by decide +kernel) hl (Nat.le_of_ble_eq_true rfl) rfl fun X C hN hn hR hr hnm hno hq => ?_
  have B : jB X cX9_trains RX9 2 SKF.length rm_X9_trains none := ⟨C, hN, Nat.le_of_eq hn, hR, hr⟩
  refine B_blk B jlkX9_ok jcl_SKF [.iload_n 1, .iconst 0, .sipush 4095] (by decide +kernel) (ls' := [(0, jR 0), (1, jI a0)]) (st' := [jI 4095, jI 0, jI a0]) rfl (p1 := 5) rfl ?_
  obtain ⟨r1, h1, hf⟩ := jbd hf
  refine B_callS B (Nat.le_refl _) (μ' := m) (k' := 0) (n' := 0) ca_X9_isIn sa_X9_isIn lk_X9_93 (t_X9_isIn B.tr jcl_SKF h1) (Nat.le_refl _) rfl (rest := []) rfl rfl (Nat.le_of_ble_eq_true rfl) (by decide +kernel) rfl rfl (st' := [jI r1]) rfl ?_
  rcases jthr_s hf with ⟨e2, h2, hf⟩ | ⟨r2, h2, hf⟩
  · cases hf
    exact B_callST B (Nat.le_refl _) hno hq ca_X9_needArgument sa_X9_needArgument lk_X9_97 (t_X9_needArgument B.tr h2) (Nat.le_refl _) rfl (rest := []) rfl rfl (Nat.le_of_ble_eq_true rfl) (by decide +kernel) (Nat.le_of_ble_eq_true rfl) (Nat.le_of_ble_eq_true rfl)
  · refine B_callS B (Nat.le_refl _) (μ' := r2.2) (k' := 1) (n' := 6) ca_X9_needArgument sa_X9_needArgument lk_X9_97 (t_X9_needArgument B.tr h2) (Nat.le_refl _) rfl (rest := []) rfl rfl (Nat.le_of_ble_eq_true rfl) (by decide +kernel) rfl rfl (st' := []) rfl ?_
    refine B_blk B jlkX9_ok jcl_SKF [.aload_n 0, .getfield 20, .iload_n 1] (by decide +kernel) (ls' := [(0, jR 0), (1, jI a0)]) (st' := [jI a0, jR 1]) rfl (p1 := 16) rfl ?_
    refine K_putI (jI' := 15) B jp_X9_131 rfl rfl rfl (by decide +kernel) ?_
    obtain ⟨m3, hm3, hf⟩ := jlt_s hf
    rw [hm3]
    cases hf
    exact B_retV B hq rfl (Nat.le_of_ble_eq_true rfl) (Nat.le_of_ble_eq_true rfl) (by decide +kernel)

def rm_X5_size : Room := { frames := 2, cells := 0, slots := 0, locals := 64 }
def f_X5_size (t a w : Nat) (m : jMu) : Option Int :=
  some (m t 3)
theorem t_X5_size {l : Launch} {G : jG} (hl : l.stackTraces = false) {S : List jSh} (hcl : jcl S) {t a w : Nat} (hfacts : jTb S t a w) {m : jMu} {r : Int} (hf : f_X5_size t a w m = some r) : jCt l G yX5_size (.code yX5_size cX5_size 1 (some .int) :: jWG) rm_X5_size [jR t] S m (.inl (some (jI r))) S m := by
  unfold f_X5_size at hf
  refine J_start (ls0 := [(0, jR t)]) (by decide +kernel) hl (Nat.le_of_ble_eq_true rfl) rfl fun X C hN hn hR hr hnm hno hq => ?_
  have B : jB X cX5_size RX5 1 S.length rm_X5_size (some .int) := ⟨C, hN, Nat.le_of_eq hn, hR, hr⟩
  refine B_blk B jlkX5_ok hcl [.aload_n 0] (by decide +kernel) (ls' := [(0, jR t)]) (st' := [jR t]) rfl (p1 := 1) rfl ?_
  refine K_get (v := jI (m t 3)) B jlkX5_ok hcl (idx := 22) rfl hfacts.1 rfl rfl (by decide +kernel) ?_
  cases hf
  exact B_retI B hq rfl (Nat.le_of_ble_eq_true rfl) (Nat.le_of_ble_eq_true rfl) (by decide +kernel)

def rm_X9_span : Room := { frames := 11, cells := 3, slots := 18, locals := 141 }
def f_X9_span_J39 (v2 : Int) (v3 : Int) (m : jMu) : Option (jOut Int) :=
  (f_X5_hasRoom 8 9 12 m).bind fun r3 => jthr (f_X9_needRoom r3 m) fun r4 => (f_X5_addRow 8 9 12 r4.2).bind fun r5 => (f_X5_set 8 9 12 r5.1 0 v2 r5.2).bind fun r6 => (f_X5_set 8 9 12 r5.1 1 v3 r6).bind fun r7 => (f_X5_size 8 9 12 r7).bind fun r8 => some (.inr (r8, r7))
def f_X9_span_J39x (v2 : Int) (v3 : Int) (m : jMu) : Option (jOut Int) :=
  (f_X5_hasRoom 10 11 10 m).bind fun r9 => jthr (f_X9_needRoom r9 m) fun r10 => (f_X5_addRow 10 11 10 r10.2).bind fun r11 => (f_X5_set 10 11 10 r11.1 0 v2 r11.2).bind fun r12 => (f_X5_set 10 11 10 r11.1 1 v3 r12).bind fun r13 => (f_X5_size 10 11 10 r13).bind fun r14 => some (.inr (r14, r13))
def f_X9_span_J15 (v1 : Int) (v2 : Int) (v3 : Int) (s0 : Int) (m : jMu) : Option (jOut Int) :=
  jthr (f_X9_needArgument s0 m) fun r2 => (if v1 = 0 then f_X9_span_J39 v2 v3 r2.2 else f_X9_span_J39x v2 v3 r2.2)
def f_X9_span (a0 : Int) (a1 : Int) (a2 : Int) (m : jMu) : Option (jOut Int) :=
  jthr (f_X9_needDays a1 a2 m) fun r1 => (if a2 < a1 then f_X9_span_J15 a0 a1 a2 0 r1.2 else f_X9_span_J15 a0 a1 a2 1 r1.2)
theorem t_X9_span_J39 {X : jX} (B : jB X cX9_span RX9 6 SKF.length rm_X9_span (some .int)) (hno : ∀ x ∈ (xc X).exceptionTable.toList, False) (v2 : Int) (v3 : Int) (m : jMu) (r : (jOut Int)) (hf : f_X9_span_J39 v2 v3 m = some r) (hq : jQ X (joI r) SKF (joM r) rm_X9_span.cells rm_X9_span.slots) : J X SKF m 2 12 39 [(2, jI v2), (3, jI v3)] [jR 8] := by
  unfold f_X9_span_J39 at hf
  refine B_blk B jlkX9_ok jcl_SKF [.astore 4, .aload 4] (by decide +kernel) (ls' := [(2, jI v2), (3, jI v3), (4, jR 8)]) (st' := [jR 8]) rfl (p1 := 43) rfl ?_
  obtain ⟨r3, h3, hf⟩ := jbd hf
  refine B_callV B (Nat.le_refl _) (μ' := m) (k' := 2) (n' := 12) ca_X5_hasRoom in_X5_hasRoom se_X5_hasRoom lk_X9_105 (t_X5_hasRoom B.tr jcl_SKF ⟨rfl, rfl, by decide⟩ h3) (Nat.le_refl _) rfl rfl rfl (rest := []) rfl rfl (Nat.le_of_ble_eq_true rfl) (by decide +kernel) rfl rfl (st' := [jI r3]) rfl ?_
  rcases jthr_s hf with ⟨e4, h4, hf⟩ | ⟨r4, h4, hf⟩
  · cases hf
    exact B_callST B (Nat.le_refl _) hno hq ca_X9_needRoom sa_X9_needRoom lk_X9_111 (t_X9_needRoom B.tr h4) (Nat.le_refl _) rfl (rest := []) rfl rfl (Nat.le_of_ble_eq_true rfl) (by decide +kernel) (Nat.le_of_ble_eq_true rfl) (Nat.le_of_ble_eq_true rfl)
  · refine B_callS B (Nat.le_refl _) (μ' := r4.2) (k' := 3) (n' := 18) ca_X9_needRoom sa_X9_needRoom lk_X9_111 (t_X9_needRoom B.tr h4) (Nat.le_refl _) rfl (rest := []) rfl rfl (Nat.le_of_ble_eq_true rfl) (by decide +kernel) rfl rfl (st' := []) rfl ?_
    refine B_blk B jlkX9_ok jcl_SKF [.aload 4] (by decide +kernel) (ls' := [(2, jI v2), (3, jI v3), (4, jR 8)]) (st' := [jR 8]) rfl (p1 := 51) rfl ?_
    obtain ⟨r5, h5, hf⟩ := jbd hf
    refine B_callV B (Nat.le_refl _) (μ' := r5.2) (k' := 3) (n' := 18) ca_X5_addRow in_X5_addRow se_X5_addRow lk_X9_114 (t_X5_addRow B.tr jcl_SKF ⟨rfl, rfl, by decide⟩ h5) (Nat.le_refl _) rfl rfl rfl (rest := []) rfl rfl (Nat.le_of_ble_eq_true rfl) (by decide +kernel) rfl rfl (st' := [jI r5.1]) rfl ?_
    refine B_blk B jlkX9_ok jcl_SKF [.istore 5, .aload 4, .iload 5, .iconst 0, .iload_n 2] (by decide +kernel) (ls' := [(2, jI v2), (3, jI v3), (4, jR 8), (5, jI r5.1)]) (st' := [jI v2, jI 0, jI r5.1, jR 8]) rfl (p1 := 62) rfl ?_
    obtain ⟨r6, h6, hf⟩ := jbd hf
    refine B_callV B (Nat.le_refl _) (μ' := r6) (k' := 3) (n' := 18) ca_X5_set in_X5_set se_X5_set lk_X9_117 (t_X5_set B.tr jcl_SKF ⟨rfl, rfl, by decide⟩ h6) (Nat.le_refl _) rfl rfl rfl (rest := []) rfl rfl (Nat.le_of_ble_eq_true rfl) (by decide +kernel) rfl rfl (st' := []) rfl ?_
    refine B_blk B jlkX9_ok jcl_SKF [.aload 4, .iload 5, .iconst 1, .iload_n 3] (by decide +kernel) (ls' := [(2, jI v2), (3, jI v3), (4, jR 8), (5, jI r5.1)]) (st' := [jI v3, jI 1, jI r5.1, jR 8]) rfl (p1 := 71) rfl ?_
    obtain ⟨r7, h7, hf⟩ := jbd hf
    refine B_callV B (Nat.le_refl _) (μ' := r7) (k' := 3) (n' := 18) ca_X5_set in_X5_set se_X5_set lk_X9_117 (t_X5_set B.tr jcl_SKF ⟨rfl, rfl, by decide⟩ h7) (Nat.le_refl _) rfl rfl rfl (rest := []) rfl rfl (Nat.le_of_ble_eq_true rfl) (by decide +kernel) rfl rfl (st' := []) rfl ?_
    refine B_blk B jlkX9_ok jcl_SKF [.aload 4] (by decide +kernel) (ls' := [(2, jI v2), (3, jI v3), (4, jR 8), (5, jI r5.1)]) (st' := [jR 8]) rfl (p1 := 76) rfl ?_
    obtain ⟨r8, h8, hf⟩ := jbd hf
    refine B_callV B (Nat.le_refl _) (μ' := r7) (k' := 3) (n' := 18) ca_X5_size in_X5_size se_X5_size lk_X9_140 (t_X5_size B.tr jcl_SKF ⟨rfl, rfl, by decide⟩ h8) (Nat.le_refl _) rfl rfl rfl (rest := []) rfl rfl (Nat.le_of_ble_eq_true rfl) (by decide +kernel) rfl rfl (st' := [jI r8]) rfl ?_
    cases hf
    exact B_retI B hq rfl (Nat.le_of_ble_eq_true rfl) (Nat.le_of_ble_eq_true rfl) (by decide +kernel)
theorem t_X9_span_J39x {X : jX} (B : jB X cX9_span RX9 6 SKF.length rm_X9_span (some .int)) (hno : ∀ x ∈ (xc X).exceptionTable.toList, False) (v2 : Int) (v3 : Int) (m : jMu) (r : (jOut Int)) (hf : f_X9_span_J39x v2 v3 m = some r) (hq : jQ X (joI r) SKF (joM r) rm_X9_span.cells rm_X9_span.slots) : J X SKF m 2 12 39 [(2, jI v2), (3, jI v3)] [jR 10] := by
  unfold f_X9_span_J39x at hf
  refine B_blk B jlkX9_ok jcl_SKF [.astore 4, .aload 4] (by decide +kernel) (ls' := [(2, jI v2), (3, jI v3), (4, jR 10)]) (st' := [jR 10]) rfl (p1 := 43) rfl ?_
  obtain ⟨r9, h9, hf⟩ := jbd hf
  refine B_callV B (Nat.le_refl _) (μ' := m) (k' := 2) (n' := 12) ca_X5_hasRoom in_X5_hasRoom se_X5_hasRoom lk_X9_105 (t_X5_hasRoom B.tr jcl_SKF ⟨rfl, rfl, by decide⟩ h9) (Nat.le_refl _) rfl rfl rfl (rest := []) rfl rfl (Nat.le_of_ble_eq_true rfl) (by decide +kernel) rfl rfl (st' := [jI r9]) rfl ?_
  rcases jthr_s hf with ⟨e10, h10, hf⟩ | ⟨r10, h10, hf⟩
  · cases hf
    exact B_callST B (Nat.le_refl _) hno hq ca_X9_needRoom sa_X9_needRoom lk_X9_111 (t_X9_needRoom B.tr h10) (Nat.le_refl _) rfl (rest := []) rfl rfl (Nat.le_of_ble_eq_true rfl) (by decide +kernel) (Nat.le_of_ble_eq_true rfl) (Nat.le_of_ble_eq_true rfl)
  · refine B_callS B (Nat.le_refl _) (μ' := r10.2) (k' := 3) (n' := 18) ca_X9_needRoom sa_X9_needRoom lk_X9_111 (t_X9_needRoom B.tr h10) (Nat.le_refl _) rfl (rest := []) rfl rfl (Nat.le_of_ble_eq_true rfl) (by decide +kernel) rfl rfl (st' := []) rfl ?_
    refine B_blk B jlkX9_ok jcl_SKF [.aload 4] (by decide +kernel) (ls' := [(2, jI v2), (3, jI v3), (4, jR 10)]) (st' := [jR 10]) rfl (p1 := 51) rfl ?_
    obtain ⟨r11, h11, hf⟩ := jbd hf
    refine B_callV B (Nat.le_refl _) (μ' := r11.2) (k' := 3) (n' := 18) ca_X5_addRow in_X5_addRow se_X5_addRow lk_X9_114 (t_X5_addRow B.tr jcl_SKF ⟨rfl, rfl, by decide⟩ h11) (Nat.le_refl _) rfl rfl rfl (rest := []) rfl rfl (Nat.le_of_ble_eq_true rfl) (by decide +kernel) rfl rfl (st' := [jI r11.1]) rfl ?_
    refine B_blk B jlkX9_ok jcl_SKF [.istore 5, .aload 4, .iload 5, .iconst 0, .iload_n 2] (by decide +kernel) (ls' := [(2, jI v2), (3, jI v3), (4, jR 10), (5, jI r11.1)]) (st' := [jI v2, jI 0, jI r11.1, jR 10]) rfl (p1 := 62) rfl ?_
    obtain ⟨r12, h12, hf⟩ := jbd hf
    refine B_callV B (Nat.le_refl _) (μ' := r12) (k' := 3) (n' := 18) ca_X5_set in_X5_set se_X5_set lk_X9_117 (t_X5_set B.tr jcl_SKF ⟨rfl, rfl, by decide⟩ h12) (Nat.le_refl _) rfl rfl rfl (rest := []) rfl rfl (Nat.le_of_ble_eq_true rfl) (by decide +kernel) rfl rfl (st' := []) rfl ?_
    refine B_blk B jlkX9_ok jcl_SKF [.aload 4, .iload 5, .iconst 1, .iload_n 3] (by decide +kernel) (ls' := [(2, jI v2), (3, jI v3), (4, jR 10), (5, jI r11.1)]) (st' := [jI v3, jI 1, jI r11.1, jR 10]) rfl (p1 := 71) rfl ?_
    obtain ⟨r13, h13, hf⟩ := jbd hf
    refine B_callV B (Nat.le_refl _) (μ' := r13) (k' := 3) (n' := 18) ca_X5_set in_X5_set se_X5_set lk_X9_117 (t_X5_set B.tr jcl_SKF ⟨rfl, rfl, by decide⟩ h13) (Nat.le_refl _) rfl rfl rfl (rest := []) rfl rfl (Nat.le_of_ble_eq_true rfl) (by decide +kernel) rfl rfl (st' := []) rfl ?_
    refine B_blk B jlkX9_ok jcl_SKF [.aload 4] (by decide +kernel) (ls' := [(2, jI v2), (3, jI v3), (4, jR 10), (5, jI r11.1)]) (st' := [jR 10]) rfl (p1 := 76) rfl ?_
    obtain ⟨r14, h14, hf⟩ := jbd hf
    refine B_callV B (Nat.le_refl _) (μ' := r13) (k' := 3) (n' := 18) ca_X5_size in_X5_size se_X5_size lk_X9_140 (t_X5_size B.tr jcl_SKF ⟨rfl, rfl, by decide⟩ h14) (Nat.le_refl _) rfl rfl rfl (rest := []) rfl rfl (Nat.le_of_ble_eq_true rfl) (by decide +kernel) rfl rfl (st' := [jI r14]) rfl ?_
    cases hf
    exact B_retI B hq rfl (Nat.le_of_ble_eq_true rfl) (Nat.le_of_ble_eq_true rfl) (by decide +kernel)
theorem t_X9_span_J15 {X : jX} (B : jB X cX9_span RX9 6 SKF.length rm_X9_span (some .int)) (hno : ∀ x ∈ (xc X).exceptionTable.toList, False) (v1 : Int) (v2 : Int) (v3 : Int) (s0 : Int) (m : jMu) (r : (jOut Int)) (hf : f_X9_span_J15 v1 v2 v3 s0 m = some r) (hq : jQ X (joI r) SKF (joM r) rm_X9_span.cells rm_X9_span.slots) : J X SKF m 1 6 15 [(0, jR 0), (1, jI v1), (2, jI v2), (3, jI v3)] [jI s0] := by
  unfold f_X9_span_J15 at hf
  rcases jthr_s hf with ⟨e2, h2, hf⟩ | ⟨r2, h2, hf⟩
  · cases hf
    exact B_callST B (Nat.le_refl _) hno hq ca_X9_needArgument sa_X9_needArgument lk_X9_97 (t_X9_needArgument B.tr h2) (Nat.le_refl _) rfl (rest := []) rfl rfl (Nat.le_of_ble_eq_true rfl) (by decide +kernel) (Nat.le_of_ble_eq_true rfl) (Nat.le_of_ble_eq_true rfl)
  · refine B_callS B (Nat.le_refl _) (μ' := r2.2) (k' := 2) (n' := 12) ca_X9_needArgument sa_X9_needArgument lk_X9_97 (t_X9_needArgument B.tr h2) (Nat.le_refl _) rfl (rest := []) rfl rfl (Nat.le_of_ble_eq_true rfl) (by decide +kernel) rfl rfl (st' := []) rfl ?_
    refine B_blk B jlkX9_ok jcl_SKF [.iload_n 1] (by decide +kernel) (ls' := [(0, jR 0), (1, jI v1), (2, jI v2), (3, jI v3)]) (st' := [jI v1]) rfl (p1 := 19) rfl ?_
    refine J_if_eq B.1 (off := 13) (tgt := 32) (by decide +kernel) (by decide) hf (fun hf => ?_) (fun hf => ?_)
    · refine B_blk B jlkX9_ok jcl_SKF [.aload_n 0, .getfield 20, .getfield 137] (by decide +kernel) (ls' := [(0, jR 0), (1, jI v1), (2, jI v2), (3, jI v3)]) (st' := [jR 8]) rfl (p1 := 39) rfl ?_
      refine J_pick [2, 3] (ls' := [(2, jI v2), (3, jI v3)]) rfl ?_
      exact t_X9_span_J39 B hno v2 v3 r2.2 _ hf hq
    · refine B_blk B jlkX9_ok jcl_SKF [.aload_n 0, .getfield 20, .getfield 134, .goto 10] (by decide +kernel) (ls' := [(0, jR 0), (1, jI v1), (2, jI v2), (3, jI v3)]) (st' := [jR 10]) rfl (p1 := 39) rfl ?_
      refine J_pick [2, 3] (ls' := [(2, jI v2), (3, jI v3)]) rfl ?_
      exact t_X9_span_J39x B hno v2 v3 r2.2 _ hf hq
theorem t_X9_span {l : Launch} {G : jG} (hl : l.stackTraces = false) {a0 : Int} {a1 : Int} {a2 : Int} {m : jMu} {r : (jOut Int)} (hf : f_X9_span a0 a1 a2 m = some r) : jCt l G yX9_span (.code yX9_span cX9_span 6 (some .int) :: jWG) rm_X9_span [jR 0, jI a0, jI a1, jI a2] SKF m (joI r) SKF (joM r) := by
  unfold f_X9_span at hf
  refine J_start (ls0 := [(0, jR 0), (1, jI a0), (2, jI a1), (3, jI a2)]) (by decide +kernel) hl (Nat.le_of_ble_eq_true rfl) rfl fun X C hN hn hR hr hnm hno hq => ?_
  have B : jB X cX9_span RX9 6 SKF.length rm_X9_span (some .int) := ⟨C, hN, Nat.le_of_eq hn, hR, hr⟩
  refine B_blk B jlkX9_ok jcl_SKF [.iload_n 2, .iload_n 3] (by decide +kernel) (ls' := [(0, jR 0), (1, jI a0), (2, jI a1), (3, jI a2)]) (st' := [jI a2, jI a1]) rfl (p1 := 2) rfl ?_
  rcases jthr_s hf with ⟨e1, h1, hf⟩ | ⟨r1, h1, hf⟩
  · cases hf
    exact B_callST B (Nat.le_refl _) hno hq ca_X9_needDays sa_X9_needDays lk_X9_121 (t_X9_needDays B.tr h1) (Nat.le_refl _) rfl (rest := []) rfl rfl (Nat.le_of_ble_eq_true rfl) (by decide +kernel) (Nat.le_of_ble_eq_true rfl) (Nat.le_of_ble_eq_true rfl)
  · refine B_callS B (Nat.le_refl _) (μ' := r1.2) (k' := 1) (n' := 6) ca_X9_needDays sa_X9_needDays lk_X9_121 (t_X9_needDays B.tr h1) (Nat.le_refl _) rfl (rest := []) rfl rfl (Nat.le_of_ble_eq_true rfl) (by decide +kernel) rfl rfl (st' := []) rfl ?_
    refine B_blk B jlkX9_ok jcl_SKF [.iload_n 2, .iload_n 3] (by decide +kernel) (ls' := [(0, jR 0), (1, jI a0), (2, jI a1), (3, jI a2)]) (st' := [jI a2, jI a1]) rfl (p1 := 7) rfl ?_
    refine J_icmp_gt B.1 (off := 7) (tgt := 14) (by decide +kernel) (by decide) hf (fun hf => ?_) (fun hf => ?_)
    · refine B_blk B jlkX9_ok jcl_SKF [.iconst 0] (by decide +kernel) (ls' := [(0, jR 0), (1, jI a0), (2, jI a1), (3, jI a2)]) (st' := [jI 0]) rfl (p1 := 15) rfl ?_
      exact t_X9_span_J15 B hno a0 a1 a2 0 r1.2 _ hf hq
    · refine B_blk B jlkX9_ok jcl_SKF [.iconst 1, .goto 4] (by decide +kernel) (ls' := [(0, jR 0), (1, jI a0), (2, jI a1), (3, jI a2)]) (st' := [jI 1]) rfl (p1 := 15) rfl ?_
      exact t_X9_span_J15 B hno a0 a1 a2 1 r1.2 _ hf hq

def rm_X5_has : Room := { frames := 2, cells := 0, slots := 0, locals := 64 }
def f_X5_has (t a w : Nat) (a0 : Int) (m : jMu) : Option Int :=
  (if a0 < 0 then some 0 else (if m t 3 ≤ a0 then some 0 else some 1))
theorem t_X5_has {l : Launch} {G : jG} (hl : l.stackTraces = false) {S : List jSh} (hcl : jcl S) {t a w : Nat} (hfacts : jTb S t a w) {a0 : Int} {m : jMu} {r : Int} (hf : f_X5_has t a w a0 m = some r) : jCt l G yX5_has (.code yX5_has cX5_has 2 (some .boolean) :: jWG) rm_X5_has [jR t, jI a0] S m (.inl (some (jI r))) S m := by
  unfold f_X5_has at hf
  refine J_start (ls0 := [(0, jR t), (1, jI a0)]) (by decide +kernel) hl (Nat.le_of_ble_eq_true rfl) rfl fun X C hN hn hR hr hnm hno hq => ?_
  have B : jB X cX5_has RX5 2 S.length rm_X5_has (some .boolean) := ⟨C, hN, Nat.le_of_eq hn, hR, hr⟩
  refine B_blk B jlkX5_ok hcl [.iload_n 1] (by decide +kernel) (ls' := [(0, jR t), (1, jI a0)]) (st' := [jI a0]) rfl (p1 := 1) rfl ?_
  refine J_if_lt B.1 (off := 15) (tgt := 16) (by decide +kernel) (by decide) hf (fun hf => ?_) (fun hf => ?_)
  · refine B_blk B jlkX5_ok hcl [.iconst 0] (by decide +kernel) (ls' := [(0, jR t), (1, jI a0)]) (st' := [jI 0]) rfl (p1 := 17) rfl ?_
    cases hf
    exact B_retZ B (Or.inl rfl) hq rfl (Nat.le_of_ble_eq_true rfl) (Nat.le_of_ble_eq_true rfl) (by decide +kernel)
  · refine B_blk B jlkX5_ok hcl [.iload_n 1, .aload_n 0] (by decide +kernel) (ls' := [(0, jR t), (1, jI a0)]) (st' := [jR t, jI a0]) rfl (p1 := 6) rfl ?_
    refine K_get (v := jI (m t 3)) B jlkX5_ok hcl (idx := 22) rfl hfacts.1 rfl rfl (by decide +kernel) ?_
    refine J_icmp_ge B.1 (off := 7) (tgt := 16) (by decide +kernel) (by decide) hf (fun hf => ?_) (fun hf => ?_)
    · refine B_blk B jlkX5_ok hcl [.iconst 0] (by decide +kernel) (ls' := [(0, jR t), (1, jI a0)]) (st' := [jI 0]) rfl (p1 := 17) rfl ?_
      cases hf
      exact B_retZ B (Or.inl rfl) hq rfl (Nat.le_of_ble_eq_true rfl) (Nat.le_of_ble_eq_true rfl) (by decide +kernel)
    · refine B_blk B jlkX5_ok hcl [.iconst 1, .goto 4] (by decide +kernel) (ls' := [(0, jR t), (1, jI a0)]) (st' := [jI 1]) rfl (p1 := 17) rfl ?_
      cases hf
      exact B_retZ B (Or.inr rfl) hq rfl (Nat.le_of_ble_eq_true rfl) (Nat.le_of_ble_eq_true rfl) (by decide +kernel)

def rm_X9_nest : Room := { frames := 11, cells := 4, slots := 24, locals := 141 }
def f_X9_nest_J29 (v1 : Int) (v2 : Int) (v3 : Int) (s0 : Int) (m : jMu) : Option (jOut Int) :=
  jthr (f_X9_needArgument s0 m) fun r4 => (f_X5_hasRoom 12 13 24 r4.2).bind fun r5 => jthr (f_X9_needRoom r5 r4.2) fun r6 => (f_X5_addRow 12 13 24 r6.2).bind fun r7 => (f_X5_set 12 13 24 r7.1 0 v2 r7.2).bind fun r8 => (f_X5_set 12 13 24 r7.1 1 v3 r8).bind fun r9 => (f_X5_set 12 13 24 r7.1 2 v1 r9).bind fun r10 => some (.inr (r7.1, r10))
def f_X9_nest (a0 : Int) (a1 : Int) (a2 : Int) (m : jMu) : Option (jOut Int) :=
  (f_X5_has 4 5 80 a0 m).bind fun r1 => jthr (f_X9_needIndex r1 m) fun r2 => jthr (f_X9_needDays a1 a2 r2.2) fun r3 => (if a2 < a1 then f_X9_nest_J29 a0 a1 a2 0 r3.2 else f_X9_nest_J29 a0 a1 a2 1 r3.2)
theorem t_X9_nest_J29 {X : jX} (B : jB X cX9_nest RX9 5 SKF.length rm_X9_nest (some .int)) (hno : ∀ x ∈ (xc X).exceptionTable.toList, False) (v1 : Int) (v2 : Int) (v3 : Int) (s0 : Int) (m : jMu) (r : (jOut Int)) (hf : f_X9_nest_J29 v1 v2 v3 s0 m = some r) (hq : jQ X (joI r) SKF (joM r) rm_X9_nest.cells rm_X9_nest.slots) : J X SKF m 2 12 29 [(0, jR 0), (1, jI v1), (2, jI v2), (3, jI v3)] [jI s0] := by
  unfold f_X9_nest_J29 at hf
  rcases jthr_s hf with ⟨e4, h4, hf⟩ | ⟨r4, h4, hf⟩
  · cases hf
    exact B_callST B (Nat.le_refl _) hno hq ca_X9_needArgument sa_X9_needArgument lk_X9_97 (t_X9_needArgument B.tr h4) (Nat.le_refl _) rfl (rest := []) rfl rfl (Nat.le_of_ble_eq_true rfl) (by decide +kernel) (Nat.le_of_ble_eq_true rfl) (Nat.le_of_ble_eq_true rfl)
  · refine B_callS B (Nat.le_refl _) (μ' := r4.2) (k' := 3) (n' := 18) ca_X9_needArgument sa_X9_needArgument lk_X9_97 (t_X9_needArgument B.tr h4) (Nat.le_refl _) rfl (rest := []) rfl rfl (Nat.le_of_ble_eq_true rfl) (by decide +kernel) rfl rfl (st' := []) rfl ?_
    refine B_blk B jlkX9_ok jcl_SKF [.aload_n 0, .getfield 20, .getfield 146] (by decide +kernel) (ls' := [(0, jR 0), (1, jI v1), (2, jI v2), (3, jI v3)]) (st' := [jR 12]) rfl (p1 := 39) rfl ?_
    obtain ⟨r5, h5, hf⟩ := jbd hf
    refine B_callV B (Nat.le_refl _) (μ' := r4.2) (k' := 3) (n' := 18) ca_X5_hasRoom in_X5_hasRoom se_X5_hasRoom lk_X9_105 (t_X5_hasRoom B.tr jcl_SKF ⟨rfl, rfl, by decide⟩ h5) (Nat.le_refl _) rfl rfl rfl (rest := []) rfl rfl (Nat.le_of_ble_eq_true rfl) (by decide +kernel) rfl rfl (st' := [jI r5]) rfl ?_
    rcases jthr_s hf with ⟨e6, h6, hf⟩ | ⟨r6, h6, hf⟩
    · cases hf
      exact B_callST B (Nat.le_refl _) hno hq ca_X9_needRoom sa_X9_needRoom lk_X9_111 (t_X9_needRoom B.tr h6) (Nat.le_refl _) rfl (rest := []) rfl rfl (Nat.le_of_ble_eq_true rfl) (by decide +kernel) (Nat.le_of_ble_eq_true rfl) (Nat.le_of_ble_eq_true rfl)
    · refine B_callS B (Nat.le_refl _) (μ' := r6.2) (k' := 4) (n' := 24) ca_X9_needRoom sa_X9_needRoom lk_X9_111 (t_X9_needRoom B.tr h6) (Nat.le_refl _) rfl (rest := []) rfl rfl (Nat.le_of_ble_eq_true rfl) (by decide +kernel) rfl rfl (st' := []) rfl ?_
      refine B_blk B jlkX9_ok jcl_SKF [.aload_n 0, .getfield 20, .getfield 146] (by decide +kernel) (ls' := [(0, jR 0), (1, jI v1), (2, jI v2), (3, jI v3)]) (st' := [jR 12]) rfl (p1 := 52) rfl ?_
      obtain ⟨r7, h7, hf⟩ := jbd hf
      refine B_callV B (Nat.le_refl _) (μ' := r7.2) (k' := 4) (n' := 24) ca_X5_addRow in_X5_addRow se_X5_addRow lk_X9_114 (t_X5_addRow B.tr jcl_SKF ⟨rfl, rfl, by decide⟩ h7) (Nat.le_refl _) rfl rfl rfl (rest := []) rfl rfl (Nat.le_of_ble_eq_true rfl) (by decide +kernel) rfl rfl (st' := [jI r7.1]) rfl ?_
      refine B_blk B jlkX9_ok jcl_SKF [.istore 4, .aload_n 0, .getfield 20, .getfield 146, .iload 4, .iconst 0, .iload_n 2] (by decide +kernel) (ls' := [(0, jR 0), (1, jI v1), (2, jI v2), (3, jI v3), (4, jI r7.1)]) (st' := [jI v2, jI 0, jI r7.1, jR 12]) rfl (p1 := 68) rfl ?_
      obtain ⟨r8, h8, hf⟩ := jbd hf
      refine B_callV B (Nat.le_refl _) (μ' := r8) (k' := 4) (n' := 24) ca_X5_set in_X5_set se_X5_set lk_X9_117 (t_X5_set B.tr jcl_SKF ⟨rfl, rfl, by decide⟩ h8) (Nat.le_refl _) rfl rfl rfl (rest := []) rfl rfl (Nat.le_of_ble_eq_true rfl) (by decide +kernel) rfl rfl (st' := []) rfl ?_
      refine B_blk B jlkX9_ok jcl_SKF [.aload_n 0, .getfield 20, .getfield 146, .iload 4, .iconst 1, .iload_n 3] (by decide +kernel) (ls' := [(0, jR 0), (1, jI v1), (2, jI v2), (3, jI v3), (4, jI r7.1)]) (st' := [jI v3, jI 1, jI r7.1, jR 12]) rfl (p1 := 82) rfl ?_
      obtain ⟨r9, h9, hf⟩ := jbd hf
      refine B_callV B (Nat.le_refl _) (μ' := r9) (k' := 4) (n' := 24) ca_X5_set in_X5_set se_X5_set lk_X9_117 (t_X5_set B.tr jcl_SKF ⟨rfl, rfl, by decide⟩ h9) (Nat.le_refl _) rfl rfl rfl (rest := []) rfl rfl (Nat.le_of_ble_eq_true rfl) (by decide +kernel) rfl rfl (st' := []) rfl ?_
      refine B_blk B jlkX9_ok jcl_SKF [.aload_n 0, .getfield 20, .getfield 146, .iload 4, .iconst 2, .iload_n 1] (by decide +kernel) (ls' := [(0, jR 0), (1, jI v1), (2, jI v2), (3, jI v3), (4, jI r7.1)]) (st' := [jI v1, jI 2, jI r7.1, jR 12]) rfl (p1 := 96) rfl ?_
      obtain ⟨r10, h10, hf⟩ := jbd hf
      refine B_callV B (Nat.le_refl _) (μ' := r10) (k' := 4) (n' := 24) ca_X5_set in_X5_set se_X5_set lk_X9_117 (t_X5_set B.tr jcl_SKF ⟨rfl, rfl, by decide⟩ h10) (Nat.le_refl _) rfl rfl rfl (rest := []) rfl rfl (Nat.le_of_ble_eq_true rfl) (by decide +kernel) rfl rfl (st' := []) rfl ?_
      refine B_blk B jlkX9_ok jcl_SKF [.iload 4] (by decide +kernel) (ls' := [(0, jR 0), (1, jI v1), (2, jI v2), (3, jI v3), (4, jI r7.1)]) (st' := [jI r7.1]) rfl (p1 := 101) rfl ?_
      cases hf
      exact B_retI B hq rfl (Nat.le_of_ble_eq_true rfl) (Nat.le_of_ble_eq_true rfl) (by decide +kernel)
theorem t_X9_nest {l : Launch} {G : jG} (hl : l.stackTraces = false) {a0 : Int} {a1 : Int} {a2 : Int} {m : jMu} {r : (jOut Int)} (hf : f_X9_nest a0 a1 a2 m = some r) : jCt l G yX9_nest (.code yX9_nest cX9_nest 5 (some .int) :: jWG) rm_X9_nest [jR 0, jI a0, jI a1, jI a2] SKF m (joI r) SKF (joM r) := by
  unfold f_X9_nest at hf
  refine J_start (ls0 := [(0, jR 0), (1, jI a0), (2, jI a1), (3, jI a2)]) (by decide +kernel) hl (Nat.le_of_ble_eq_true rfl) rfl fun X C hN hn hR hr hnm hno hq => ?_
  have B : jB X cX9_nest RX9 5 SKF.length rm_X9_nest (some .int) := ⟨C, hN, Nat.le_of_eq hn, hR, hr⟩
  refine B_blk B jlkX9_ok jcl_SKF [.aload_n 0, .getfield 20, .getfield 101, .iload_n 1] (by decide +kernel) (ls' := [(0, jR 0), (1, jI a0), (2, jI a1), (3, jI a2)]) (st' := [jI a0, jR 4]) rfl (p1 := 8) rfl ?_
  obtain ⟨r1, h1, hf⟩ := jbd hf
  refine B_callV B (Nat.le_refl _) (μ' := m) (k' := 0) (n' := 0) ca_X5_has in_X5_has se_X5_has lk_X9_143 (t_X5_has B.tr jcl_SKF ⟨rfl, rfl, by decide⟩ h1) (Nat.le_refl _) rfl rfl rfl (rest := []) rfl rfl (Nat.le_of_ble_eq_true rfl) (by decide +kernel) rfl rfl (st' := [jI r1]) rfl ?_
  rcases jthr_s hf with ⟨e2, h2, hf⟩ | ⟨r2, h2, hf⟩
  · cases hf
    exact B_callST B (Nat.le_refl _) hno hq ca_X9_needIndex sa_X9_needIndex lk_X9_125 (t_X9_needIndex B.tr h2) (Nat.le_refl _) rfl (rest := []) rfl rfl (Nat.le_of_ble_eq_true rfl) (by decide +kernel) (Nat.le_of_ble_eq_true rfl) (Nat.le_of_ble_eq_true rfl)
  · refine B_callS B (Nat.le_refl _) (μ' := r2.2) (k' := 1) (n' := 6) ca_X9_needIndex sa_X9_needIndex lk_X9_125 (t_X9_needIndex B.tr h2) (Nat.le_refl _) rfl (rest := []) rfl rfl (Nat.le_of_ble_eq_true rfl) (by decide +kernel) rfl rfl (st' := []) rfl ?_
    refine B_blk B jlkX9_ok jcl_SKF [.iload_n 2, .iload_n 3] (by decide +kernel) (ls' := [(0, jR 0), (1, jI a0), (2, jI a1), (3, jI a2)]) (st' := [jI a2, jI a1]) rfl (p1 := 16) rfl ?_
    rcases jthr_s hf with ⟨e3, h3, hf⟩ | ⟨r3, h3, hf⟩
    · cases hf
      exact B_callST B (Nat.le_refl _) hno hq ca_X9_needDays sa_X9_needDays lk_X9_121 (t_X9_needDays B.tr h3) (Nat.le_refl _) rfl (rest := []) rfl rfl (Nat.le_of_ble_eq_true rfl) (by decide +kernel) (Nat.le_of_ble_eq_true rfl) (Nat.le_of_ble_eq_true rfl)
    · refine B_callS B (Nat.le_refl _) (μ' := r3.2) (k' := 2) (n' := 12) ca_X9_needDays sa_X9_needDays lk_X9_121 (t_X9_needDays B.tr h3) (Nat.le_refl _) rfl (rest := []) rfl rfl (Nat.le_of_ble_eq_true rfl) (by decide +kernel) rfl rfl (st' := []) rfl ?_
      refine B_blk B jlkX9_ok jcl_SKF [.iload_n 2, .iload_n 3] (by decide +kernel) (ls' := [(0, jR 0), (1, jI a0), (2, jI a1), (3, jI a2)]) (st' := [jI a2, jI a1]) rfl (p1 := 21) rfl ?_
      refine J_icmp_gt B.1 (off := 7) (tgt := 28) (by decide +kernel) (by decide) hf (fun hf => ?_) (fun hf => ?_)
      · refine B_blk B jlkX9_ok jcl_SKF [.iconst 0] (by decide +kernel) (ls' := [(0, jR 0), (1, jI a0), (2, jI a1), (3, jI a2)]) (st' := [jI 0]) rfl (p1 := 29) rfl ?_
        exact t_X9_nest_J29 B hno a0 a1 a2 0 r3.2 _ hf hq
      · refine B_blk B jlkX9_ok jcl_SKF [.iconst 1, .goto 4] (by decide +kernel) (ls' := [(0, jR 0), (1, jI a0), (2, jI a1), (3, jI a2)]) (st' := [jI 1]) rfl (p1 := 29) rfl ?_
        exact t_X9_nest_J29 B hno a0 a1 a2 1 r3.2 _ hf hq

def rm_X6_length : Room := { frames := 2, cells := 0, slots := 0, locals := 64 }
def f_X6_length (m : jMu) : Option Int :=
  some (m 30 1)
theorem t_X6_length {l : Launch} {G : jG} (hl : l.stackTraces = false) {m : jMu} {r : Int} (hf : f_X6_length m = some r) : jCt l G yX6_length (.code yX6_length cX6_length 1 (some .int) :: jWG) rm_X6_length [jR 30] SKF m (.inl (some (jI r))) SKF m := by
  unfold f_X6_length at hf
  refine J_start (ls0 := [(0, jR 30)]) (by decide +kernel) hl (Nat.le_of_ble_eq_true rfl) rfl fun X C hN hn hR hr hnm hno hq => ?_
  have B : jB X cX6_length RX6 1 SKF.length rm_X6_length (some .int) := ⟨C, hN, Nat.le_of_eq hn, hR, hr⟩
  refine B_blk B jlkX6_ok jcl_SKF [.aload_n 0, .getfield 15] (by decide +kernel) (ls' := [(0, jR 30)]) (st' := [jI (m 30 1)]) rfl (p1 := 4) rfl ?_
  cases hf
  exact B_retI B hq rfl (Nat.le_of_ble_eq_true rfl) (Nat.le_of_ble_eq_true rfl) (by decide +kernel)

def rm_X3_addWord : Room := { frames := 2, cells := 0, slots := 0, locals := 64 }
def f_X3_addWord (a0 : Int) (a1 : Int) (m : jMu) : Option jMu :=
  (if m 62 5 < 0 then some m else (if 401 ≤ m 62 5 then some m else (if 401 ≤ m 62 5 then some m else (if 0 ≤ m 62 5 ∧ m 62 5 < 401 then (jlt (jup m 63 (m 62 5) a0) fun m1 => (if 0 ≤ m1 62 5 ∧ m1 62 5 < 401 then (jlt (jup m1 64 (m1 62 5) a1) fun m2 => (jlt (jup m2 62 5 (jW (m2 62 5 + 1))) fun m3 => some m3)) else none)) else none))))
theorem t_X3_addWord {l : Launch} {G : jG} (hl : l.stackTraces = false) {a0 : Int} {a1 : Int} {m : jMu} {r : jMu} (hf : f_X3_addWord a0 a1 m = some r) : jCt l G yX3_addWord (.code yX3_addWord cX3_addWord 3 none :: jWG) rm_X3_addWord [jR 62, jI a0, jI a1] SKF m (.inl none) SKF r := by
  unfold f_X3_addWord at hf
  refine J_start (ls0 := [(0, jR 62), (1, jI a0), (2, jI a1)]) (by decide +kernel) hl (Nat.le_of_ble_eq_true rfl) rfl fun X C hN hn hR hr hnm hno hq => ?_
  have B : jB X cX3_addWord RX3 3 SKF.length rm_X3_addWord none := ⟨C, hN, Nat.le_of_eq hn, hR, hr⟩
  refine B_blk B jlkX3_ok jcl_SKF [.aload_n 0, .getfield 53] (by decide +kernel) (ls' := [(0, jR 62), (1, jI a0), (2, jI a1)]) (st' := [jI (m 62 5)]) rfl (p1 := 4) rfl ?_
  refine J_if_lt B.1 (off := 57) (tgt := 61) (by decide +kernel) (by decide) hf (fun hf => ?_) (fun hf => ?_)
  · cases hf
    exact B_retV B hq rfl (Nat.le_of_ble_eq_true rfl) (Nat.le_of_ble_eq_true rfl) (by decide +kernel)
  · refine B_blk B jlkX3_ok jcl_SKF [.aload_n 0, .getfield 53, .aload_n 0, .getfield 21, .arraylength] (by decide +kernel) (ls' := [(0, jR 62), (1, jI a0), (2, jI a1)]) (st' := [jI 401, jI (m 62 5)]) rfl (p1 := 16) rfl ?_
    refine J_icmp_ge B.1 (off := 45) (tgt := 61) (by decide +kernel) (by decide) hf (fun hf => ?_) (fun hf => ?_)
    · cases hf
      exact B_retV B hq rfl (Nat.le_of_ble_eq_true rfl) (Nat.le_of_ble_eq_true rfl) (by decide +kernel)
    · refine B_blk B jlkX3_ok jcl_SKF [.aload_n 0, .getfield 53, .aload_n 0, .getfield 25, .arraylength] (by decide +kernel) (ls' := [(0, jR 62), (1, jI a0), (2, jI a1)]) (st' := [jI 401, jI (m 62 5)]) rfl (p1 := 28) rfl ?_
      refine J_icmp_ge B.1 (off := 33) (tgt := 61) (by decide +kernel) (by decide) hf (fun hf => ?_) (fun hf => ?_)
      · cases hf
        exact B_retV B hq rfl (Nat.le_of_ble_eq_true rfl) (Nat.le_of_ble_eq_true rfl) (by decide +kernel)
      · refine B_blk B jlkX3_ok jcl_SKF [.aload_n 0, .getfield 21, .aload_n 0, .getfield 53, .iload_n 1] (by decide +kernel) (ls' := [(0, jR 62), (1, jI a0), (2, jI a1)]) (st' := [jI a0, jI (m 62 5), jR 63]) rfl (p1 := 40) rfl ?_
        obtain ⟨g5, hf⟩ := jgd hf
        refine K_iast (lenI := 401) B rfl rfl g5 (by decide +kernel) ?_
        obtain ⟨m1, hm1, hf⟩ := jlt_s hf
        rw [hm1]
        refine B_blk B jlkX3_ok jcl_SKF [.aload_n 0, .getfield 25, .aload_n 0, .getfield 53, .iload_n 2] (by decide +kernel) (ls' := [(0, jR 62), (1, jI a0), (2, jI a1)]) (st' := [jI a1, jI (m1 62 5), jR 64]) rfl (p1 := 50) rfl ?_
        obtain ⟨g4, hf⟩ := jgd hf
        refine K_iast (lenI := 401) B rfl rfl g4 (by decide +kernel) ?_
        obtain ⟨m2, hm2, hf⟩ := jlt_s hf
        rw [hm2]
        refine B_blk B jlkX3_ok jcl_SKF [.aload_n 0, .dup, .getfield 53, .iconst 1, .iadd] (by decide +kernel) (ls' := [(0, jR 62), (1, jI a0), (2, jI a1)]) (st' := [jI (jW (m2 62 5 + 1)), jR 62]) rfl (p1 := 58) rfl ?_
        refine K_putI (jI' := 5) B jp_X3_53 rfl rfl rfl (by decide +kernel) ?_
        obtain ⟨m3, hm3, hf⟩ := jlt_s hf
        rw [hm3]
        cases hf
        exact B_retV B hq rfl (Nat.le_of_ble_eq_true rfl) (Nat.le_of_ble_eq_true rfl) (by decide +kernel)

def rm_X6_byteAt : Room := { frames := 2, cells := 0, slots := 0, locals := 64 }
def f_X6_byteAt (a0 : Int) (m : jMu) : Option Int :=
  (if a0 < 0 then some (-1) else (if m 30 1 ≤ a0 then some (-1) else (if 400 ≤ a0 then some (-1) else (if 0 ≤ a0 ∧ a0 < 400 then some (m 31 a0) else none))))
theorem t_X6_byteAt {l : Launch} {G : jG} (hl : l.stackTraces = false) {a0 : Int} {m : jMu} {r : Int} (hf : f_X6_byteAt a0 m = some r) : jCt l G yX6_byteAt (.code yX6_byteAt cX6_byteAt 2 (some .int) :: jWG) rm_X6_byteAt [jR 30, jI a0] SKF m (.inl (some (jI r))) SKF m := by
  unfold f_X6_byteAt at hf
  refine J_start (ls0 := [(0, jR 30), (1, jI a0)]) (by decide +kernel) hl (Nat.le_of_ble_eq_true rfl) rfl fun X C hN hn hR hr hnm hno hq => ?_
  have B : jB X cX6_byteAt RX6 2 SKF.length rm_X6_byteAt (some .int) := ⟨C, hN, Nat.le_of_eq hn, hR, hr⟩
  refine B_blk B jlkX6_ok jcl_SKF [.iload_n 1] (by decide +kernel) (ls' := [(0, jR 30), (1, jI a0)]) (st' := [jI a0]) rfl (p1 := 1) rfl ?_
  refine J_if_lt B.1 (off := 29) (tgt := 30) (by decide +kernel) (by decide) hf (fun hf => ?_) (fun hf => ?_)
  · refine B_blk B jlkX6_ok jcl_SKF [.iconst (-1)] (by decide +kernel) (ls' := [(0, jR 30), (1, jI a0)]) (st' := [jI (-1)]) rfl (p1 := 31) rfl ?_
    cases hf
    exact B_retI B hq rfl (Nat.le_of_ble_eq_true rfl) (Nat.le_of_ble_eq_true rfl) (by decide +kernel)
  · refine B_blk B jlkX6_ok jcl_SKF [.iload_n 1, .aload_n 0, .getfield 15] (by decide +kernel) (ls' := [(0, jR 30), (1, jI a0)]) (st' := [jI (m 30 1), jI a0]) rfl (p1 := 9) rfl ?_
    refine J_icmp_ge B.1 (off := 21) (tgt := 30) (by decide +kernel) (by decide) hf (fun hf => ?_) (fun hf => ?_)
    · refine B_blk B jlkX6_ok jcl_SKF [.iconst (-1)] (by decide +kernel) (ls' := [(0, jR 30), (1, jI a0)]) (st' := [jI (-1)]) rfl (p1 := 31) rfl ?_
      cases hf
      exact B_retI B hq rfl (Nat.le_of_ble_eq_true rfl) (Nat.le_of_ble_eq_true rfl) (by decide +kernel)
    · refine B_blk B jlkX6_ok jcl_SKF [.iload_n 1, .aload_n 0, .getfield 11, .arraylength] (by decide +kernel) (ls' := [(0, jR 30), (1, jI a0)]) (st' := [jI 400, jI a0]) rfl (p1 := 18) rfl ?_
      refine J_icmp_ge B.1 (off := 12) (tgt := 30) (by decide +kernel) (by decide) hf (fun hf => ?_) (fun hf => ?_)
      · refine B_blk B jlkX6_ok jcl_SKF [.iconst (-1)] (by decide +kernel) (ls' := [(0, jR 30), (1, jI a0)]) (st' := [jI (-1)]) rfl (p1 := 31) rfl ?_
        cases hf
        exact B_retI B hq rfl (Nat.le_of_ble_eq_true rfl) (Nat.le_of_ble_eq_true rfl) (by decide +kernel)
      · refine B_blk B jlkX6_ok jcl_SKF [.aload_n 0, .getfield 11, .iload_n 1] (by decide +kernel) (ls' := [(0, jR 30), (1, jI a0)]) (st' := [jI a0, jR 31]) rfl (p1 := 26) rfl ?_
        obtain ⟨g1, hf⟩ := jgd hf
        refine K_iald (lenI := 400) B rfl rfl g1 (by decide +kernel) ?_
        refine B_blk B jlkX6_ok jcl_SKF [.goto 4] (by decide +kernel) (ls' := [(0, jR 30), (1, jI a0)]) (st' := [jI (m 31 a0)]) rfl (p1 := 31) rfl ?_
        cases hf
        exact B_retI B hq rfl (Nat.le_of_ble_eq_true rfl) (Nat.le_of_ble_eq_true rfl) (by decide +kernel)

def rm_X3_isLetter : Room := { frames := 2, cells := 0, slots := 0, locals := 64 }
def f_X3_isLetter (a0 : Int) : Option Int :=
  (if a0 < 97 then some 0 else (if 122 < a0 then some 0 else some 1))
theorem t_X3_isLetter {l : Launch} {G : jG} (hl : l.stackTraces = false) {S : List jSh} (hcl : jcl S) {a0 : Int} {μ : jMu} {r : Int} (hf : f_X3_isLetter a0 = some r) : jCt l G yX3_isLetter (.code yX3_isLetter cX3_isLetter 1 (some .boolean) :: jWG) rm_X3_isLetter [jI a0] S μ (.inl (some (jI r))) S μ := by
  unfold f_X3_isLetter at hf
  refine J_start (ls0 := [(0, jI a0)]) (by decide +kernel) hl (Nat.le_of_ble_eq_true rfl) rfl fun X C hN hn hR hr hnm hno hq => ?_
  have B : jB X cX3_isLetter RX3 1 S.length rm_X3_isLetter (some .boolean) := ⟨C, hN, Nat.le_of_eq hn, hR, hr⟩
  refine B_blk B jlkX3_ok hcl [.iload_n 0, .bipush 97] (by decide +kernel) (ls' := [(0, jI a0)]) (st' := [jI 97, jI a0]) rfl (p1 := 3) rfl ?_
  refine J_icmp_lt B.1 (off := 13) (tgt := 16) (by decide +kernel) (by decide) hf (fun hf => ?_) (fun hf => ?_)
  · refine B_blk B jlkX3_ok hcl [.iconst 0] (by decide +kernel) (ls' := [(0, jI a0)]) (st' := [jI 0]) rfl (p1 := 17) rfl ?_
    cases hf
    exact B_retZ B (Or.inl rfl) hq rfl (Nat.le_of_ble_eq_true rfl) (Nat.le_of_ble_eq_true rfl) (by decide +kernel)
  · refine B_blk B jlkX3_ok hcl [.iload_n 0, .bipush 122] (by decide +kernel) (ls' := [(0, jI a0)]) (st' := [jI 122, jI a0]) rfl (p1 := 9) rfl ?_
    refine J_icmp_gt B.1 (off := 7) (tgt := 16) (by decide +kernel) (by decide) hf (fun hf => ?_) (fun hf => ?_)
    · refine B_blk B jlkX3_ok hcl [.iconst 0] (by decide +kernel) (ls' := [(0, jI a0)]) (st' := [jI 0]) rfl (p1 := 17) rfl ?_
      cases hf
      exact B_retZ B (Or.inl rfl) hq rfl (Nat.le_of_ble_eq_true rfl) (Nat.le_of_ble_eq_true rfl) (by decide +kernel)
    · refine B_blk B jlkX3_ok hcl [.iconst 1, .goto 4] (by decide +kernel) (ls' := [(0, jI a0)]) (st' := [jI 1]) rfl (p1 := 17) rfl ?_
      cases hf
      exact B_retZ B (Or.inr rfl) hq rfl (Nat.le_of_ble_eq_true rfl) (Nat.le_of_ble_eq_true rfl) (by decide +kernel)

def rm_X3_isDigit : Room := { frames := 2, cells := 0, slots := 0, locals := 64 }
def f_X3_isDigit (a0 : Int) : Option Int :=
  (if a0 < 48 then some 0 else (if 57 < a0 then some 0 else some 1))
theorem t_X3_isDigit {l : Launch} {G : jG} (hl : l.stackTraces = false) {S : List jSh} (hcl : jcl S) {a0 : Int} {μ : jMu} {r : Int} (hf : f_X3_isDigit a0 = some r) : jCt l G yX3_isDigit (.code yX3_isDigit cX3_isDigit 1 (some .boolean) :: jWG) rm_X3_isDigit [jI a0] S μ (.inl (some (jI r))) S μ := by
  unfold f_X3_isDigit at hf
  refine J_start (ls0 := [(0, jI a0)]) (by decide +kernel) hl (Nat.le_of_ble_eq_true rfl) rfl fun X C hN hn hR hr hnm hno hq => ?_
  have B : jB X cX3_isDigit RX3 1 S.length rm_X3_isDigit (some .boolean) := ⟨C, hN, Nat.le_of_eq hn, hR, hr⟩
  refine B_blk B jlkX3_ok hcl [.iload_n 0, .bipush 48] (by decide +kernel) (ls' := [(0, jI a0)]) (st' := [jI 48, jI a0]) rfl (p1 := 3) rfl ?_
  refine J_icmp_lt B.1 (off := 13) (tgt := 16) (by decide +kernel) (by decide) hf (fun hf => ?_) (fun hf => ?_)
  · refine B_blk B jlkX3_ok hcl [.iconst 0] (by decide +kernel) (ls' := [(0, jI a0)]) (st' := [jI 0]) rfl (p1 := 17) rfl ?_
    cases hf
    exact B_retZ B (Or.inl rfl) hq rfl (Nat.le_of_ble_eq_true rfl) (Nat.le_of_ble_eq_true rfl) (by decide +kernel)
  · refine B_blk B jlkX3_ok hcl [.iload_n 0, .bipush 57] (by decide +kernel) (ls' := [(0, jI a0)]) (st' := [jI 57, jI a0]) rfl (p1 := 9) rfl ?_
    refine J_icmp_gt B.1 (off := 7) (tgt := 16) (by decide +kernel) (by decide) hf (fun hf => ?_) (fun hf => ?_)
    · refine B_blk B jlkX3_ok hcl [.iconst 0] (by decide +kernel) (ls' := [(0, jI a0)]) (st' := [jI 0]) rfl (p1 := 17) rfl ?_
      cases hf
      exact B_retZ B (Or.inl rfl) hq rfl (Nat.le_of_ble_eq_true rfl) (Nat.le_of_ble_eq_true rfl) (by decide +kernel)
    · refine B_blk B jlkX3_ok hcl [.iconst 1, .goto 4] (by decide +kernel) (ls' := [(0, jI a0)]) (st' := [jI 1]) rfl (p1 := 17) rfl ?_
      cases hf
      exact B_retZ B (Or.inr rfl) hq rfl (Nat.le_of_ble_eq_true rfl) (Nat.le_of_ble_eq_true rfl) (by decide +kernel)

def rm_X3_signOf : Room := { frames := 7, cells := 0, slots := 0, locals := 323 }
def f_X3_signOf_L2 : Nat → Int → Int → Option Int
  | 0, _, _ => none
  | q + 1, v0, v1 => (if jtl 1 ≤ v1 then some 131 else (if 0 ≤ v1 ∧ v1 < jtl 1 then (if jtc 1 v1 = v0 then some (jW (120 + v1)) else f_X3_signOf_L2 q v0 (jW (v1 + 1))) else none))
def f_X3_signOf (a0 : Int) : Option Int :=
  f_X3_signOf_L2 jFU a0 0
theorem t_X3_signOf_L2 {X : jX} {S : List jSh} (hcl : jcl S) (B : jB X cX3_signOf RX3 2 S.length rm_X3_signOf (some .int)) {μ : jMu} : ∀ (q : Nat) (v0 : Int) (v1 : Int) (r : Int), f_X3_signOf_L2 q v0 v1 = some r → jQ X (.inl (some (jI r))) S μ rm_X3_signOf.cells rm_X3_signOf.slots → J X S μ 0 0 2 [(0, jI v0), (1, jI v1)] [] := by
  intro q
  induction q with
  | zero =>
    intro v0 v1 r hf
    rw [f_X3_signOf_L2] at hf
    cases hf
  | succ q ih =>
    intro v0 v1 r hf hq
    rw [f_X3_signOf_L2] at hf
    refine B_blk B jlkX3_ok hcl [.iload_n 1] (by decide +kernel) (ls' := [(0, jI v0), (1, jI v1)]) (st' := [jI v1]) rfl (p1 := 3) rfl ?_
    refine J_ldcS (i := 1) (r := jXK + 1) B.1 rfl rfl (by decide) (by decide +kernel) ?_
    refine K_slen (w := 1) B hcl (Nat.le_refl _) (by decide) lk_X3_96 rfl (rest := [jI v1]) rfl (Nat.le_of_ble_eq_true rfl) (by decide +kernel) ?_
    refine J_icmp_ge B.1 (off := 24) (tgt := 32) (by decide +kernel) (by decide) hf (fun hf => ?_) (fun hf => ?_)
    · refine B_blk B jlkX3_ok hcl [.sipush 131] (by decide +kernel) (ls' := [(0, jI v0), (1, jI v1)]) (st' := [jI 131]) rfl (p1 := 35) rfl ?_
      cases hf
      exact B_retI B hq rfl (Nat.le_of_ble_eq_true rfl) (Nat.le_of_ble_eq_true rfl) (by decide +kernel)
    · refine J_ldcS (i := 1) (r := jXK + 1) B.1 rfl rfl (by decide) (by decide +kernel) ?_
      refine B_blk B jlkX3_ok hcl [.iload_n 1] (by decide +kernel) (ls' := [(0, jI v0), (1, jI v1)]) (st' := [jI v1, jR (jXK + 1)]) rfl (p1 := 14) rfl ?_
      obtain ⟨g1, hf⟩ := jgd hf
      refine K_schar (w := 1) B hcl (Nat.le_refl _) (by decide) lk_X3_99 g1 rfl (rest := []) rfl (Nat.le_of_ble_eq_true rfl) (by decide +kernel) ?_
      refine B_blk B jlkX3_ok hcl [.iload_n 0] (by decide +kernel) (ls' := [(0, jI v0), (1, jI v1)]) (st' := [jI v0, jI (jtc 1 v1)]) rfl (p1 := 18) rfl ?_
      refine J_icmp_ne B.1 (off := 8) (tgt := 26) (by decide +kernel) (by decide) hf (fun hf => ?_) (fun hf => ?_)
      · refine B_blk B jlkX3_ok hcl [.bipush 120, .iload_n 1, .iadd] (by decide +kernel) (ls' := [(0, jI v0), (1, jI v1)]) (st' := [jI (jW (120 + v1))]) rfl (p1 := 25) rfl ?_
        cases hf
        exact B_retI B hq rfl (Nat.le_of_ble_eq_true rfl) (Nat.le_of_ble_eq_true rfl) (by decide +kernel)
      · refine B_blk B jlkX3_ok hcl [.iinc 1 1, .goto (-27)] (by decide +kernel) (ls' := [(0, jI v0), (1, jI (jW (v1 + 1)))]) (st' := []) rfl (p1 := 2) rfl ?_
        exact ih v0 (jW (v1 + 1)) _ hf hq
theorem t_X3_signOf {l : Launch} {G : jG} (hl : l.stackTraces = false) {S : List jSh} (hcl : jcl S) {a0 : Int} {μ : jMu} {r : Int} (hf : f_X3_signOf a0 = some r) : jCt l G yX3_signOf (.code yX3_signOf cX3_signOf 2 (some .int) :: jWG) rm_X3_signOf [jI a0] S μ (.inl (some (jI r))) S μ := by
  unfold f_X3_signOf at hf
  refine J_start (ls0 := [(0, jI a0)]) (by decide +kernel) hl (Nat.le_of_ble_eq_true rfl) rfl fun X C hN hn hR hr hnm hno hq => ?_
  have B : jB X cX3_signOf RX3 2 S.length rm_X3_signOf (some .int) := ⟨C, hN, Nat.le_of_eq hn, hR, hr⟩
  refine B_blk B jlkX3_ok hcl [.iconst 0, .istore_n 1] (by decide +kernel) (ls' := [(0, jI a0), (1, jI 0)]) (st' := []) rfl (p1 := 2) rfl ?_
  exact t_X3_signOf_L2 hcl B jFU a0 0 _ hf hq

def rm_X3_runOf : Room := { frames := 4, cells := 0, slots := 0, locals := 85 }
def f_X3_runOf_L4 : Nat → Int → Int → Int → jMu → Option Int
  | 0, _, _, _, _ => none
  | q + 1, v1, v2, v3, m => (f_X6_length m).bind fun r1 => (if r1 ≤ v3 then some (jW (v3 - v1)) else (if v2 = 0 then (f_X6_byteAt v3 m).bind fun r2 => (f_X3_isDigit r2).bind fun r3 => (if r3 = 0 then some (jW (v3 - v1)) else f_X3_runOf_L4 q v1 v2 (jW (v3 + 1)) m) else (f_X6_byteAt v3 m).bind fun r4 => (f_X3_isLetter r4).bind fun r5 => (if r5 = 0 then some (jW (v3 - v1)) else f_X3_runOf_L4 q v1 v2 (jW (v3 + 1)) m)))
def f_X3_runOf (a0 : Int) (a1 : Int) (m : jMu) : Option Int :=
  f_X3_runOf_L4 jFU a0 a1 (jW (a0 + 1)) m
theorem t_X3_runOf_L4 {X : jX} (B : jB X cX3_runOf RX3 4 SKF.length rm_X3_runOf (some .int)) : ∀ (q : Nat) (v1 : Int) (v2 : Int) (v3 : Int) (m : jMu) (r : Int), f_X3_runOf_L4 q v1 v2 v3 m = some r → jQ X (.inl (some (jI r))) SKF m rm_X3_runOf.cells rm_X3_runOf.slots → J X SKF m 0 0 4 [(0, jR 62), (1, jI v1), (2, jI v2), (3, jI v3)] [] := by
  intro q
  induction q with
  | zero =>
    intro v1 v2 v3 m r hf
    rw [f_X3_runOf_L4] at hf
    cases hf
  | succ q ih =>
    intro v1 v2 v3 m r hf hq
    rw [f_X3_runOf_L4] at hf
    refine B_blk B jlkX3_ok jcl_SKF [.iload_n 3, .aload_n 0, .getfield 11] (by decide +kernel) (ls' := [(0, jR 62), (1, jI v1), (2, jI v2), (3, jI v3)]) (st' := [jR 30, jI v3]) rfl (p1 := 9) rfl ?_
    obtain ⟨r1, h1, hf⟩ := jbd hf
    refine B_callV B (Nat.le_refl _) (μ' := m) (k' := 0) (n' := 0) ca_X6_length in_X6_length se_X6_length lk_X3_56 (t_X6_length B.tr h1) (Nat.le_refl _) rfl rfl rfl (rest := [jI v3]) rfl rfl (Nat.le_of_ble_eq_true rfl) (by decide +kernel) rfl rfl (st' := [jI r1, jI v3]) rfl ?_
    refine J_icmp_ge B.1 (off := 44) (tgt := 56) (by decide +kernel) (by decide) hf (fun hf => ?_) (fun hf => ?_)
    · refine B_blk B jlkX3_ok jcl_SKF [.iload_n 3, .iload_n 1, .isub] (by decide +kernel) (ls' := [(0, jR 62), (1, jI v1), (2, jI v2), (3, jI v3)]) (st' := [jI (jW (v3 - v1))]) rfl (p1 := 59) rfl ?_
      cases hf
      exact B_retI B hq rfl (Nat.le_of_ble_eq_true rfl) (Nat.le_of_ble_eq_true rfl) (by decide +kernel)
    · refine B_blk B jlkX3_ok jcl_SKF [.iload_n 2] (by decide +kernel) (ls' := [(0, jR 62), (1, jI v1), (2, jI v2), (3, jI v3)]) (st' := [jI v2]) rfl (p1 := 16) rfl ?_
      refine J_if_eq B.1 (off := 20) (tgt := 36) (by decide +kernel) (by decide) hf (fun hf => ?_) (fun hf => ?_)
      · refine B_blk B jlkX3_ok jcl_SKF [.aload_n 0, .getfield 11, .iload_n 3] (by decide +kernel) (ls' := [(0, jR 62), (1, jI v1), (2, jI v2), (3, jI v3)]) (st' := [jI v3, jR 30]) rfl (p1 := 41) rfl ?_
        obtain ⟨r2, h2, hf⟩ := jbd hf
        refine B_callV B (Nat.le_refl _) (μ' := m) (k' := 0) (n' := 0) ca_X6_byteAt in_X6_byteAt se_X6_byteAt lk_X3_60 (t_X6_byteAt B.tr h2) (Nat.le_refl _) rfl rfl rfl (rest := []) rfl rfl (Nat.le_of_ble_eq_true rfl) (by decide +kernel) rfl rfl (st' := [jI r2]) rfl ?_
        obtain ⟨r3, h3, hf⟩ := jbd hf
        refine B_callS B (Nat.le_refl _) (μ' := m) (k' := 0) (n' := 0) ca_X3_isDigit sa_X3_isDigit lk_X3_80 (t_X3_isDigit B.tr jcl_SKF h3) (Nat.le_refl _) rfl (rest := []) rfl rfl (Nat.le_of_ble_eq_true rfl) (by decide +kernel) rfl rfl (st' := [jI r3]) rfl ?_
        refine J_if_eq B.1 (off := 9) (tgt := 56) (by decide +kernel) (by decide) hf (fun hf => ?_) (fun hf => ?_)
        · refine B_blk B jlkX3_ok jcl_SKF [.iload_n 3, .iload_n 1, .isub] (by decide +kernel) (ls' := [(0, jR 62), (1, jI v1), (2, jI v2), (3, jI v3)]) (st' := [jI (jW (v3 - v1))]) rfl (p1 := 59) rfl ?_
          cases hf
          exact B_retI B hq rfl (Nat.le_of_ble_eq_true rfl) (Nat.le_of_ble_eq_true rfl) (by decide +kernel)
        · refine B_blk B jlkX3_ok jcl_SKF [.iinc 3 1, .goto (-49)] (by decide +kernel) (ls' := [(0, jR 62), (1, jI v1), (2, jI v2), (3, jI (jW (v3 + 1)))]) (st' := []) rfl (p1 := 4) rfl ?_
          exact ih v1 v2 (jW (v3 + 1)) m _ hf hq
      · refine B_blk B jlkX3_ok jcl_SKF [.aload_n 0, .getfield 11, .iload_n 3] (by decide +kernel) (ls' := [(0, jR 62), (1, jI v1), (2, jI v2), (3, jI v3)]) (st' := [jI v3, jR 30]) rfl (p1 := 24) rfl ?_
        obtain ⟨r4, h4, hf⟩ := jbd hf
        refine B_callV B (Nat.le_refl _) (μ' := m) (k' := 0) (n' := 0) ca_X6_byteAt in_X6_byteAt se_X6_byteAt lk_X3_60 (t_X6_byteAt B.tr h4) (Nat.le_refl _) rfl rfl rfl (rest := []) rfl rfl (Nat.le_of_ble_eq_true rfl) (by decide +kernel) rfl rfl (st' := [jI r4]) rfl ?_
        obtain ⟨r5, h5, hf⟩ := jbd hf
        refine B_callS B (Nat.le_refl _) (μ' := m) (k' := 0) (n' := 0) ca_X3_isLetter sa_X3_isLetter lk_X3_64 (t_X3_isLetter B.tr jcl_SKF h5) (Nat.le_refl _) rfl (rest := []) rfl rfl (Nat.le_of_ble_eq_true rfl) (by decide +kernel) rfl rfl (st' := [jI r5]) rfl ?_
        refine J_if_eq B.1 (off := 26) (tgt := 56) (by decide +kernel) (by decide) hf (fun hf => ?_) (fun hf => ?_)
        · refine B_blk B jlkX3_ok jcl_SKF [.iload_n 3, .iload_n 1, .isub] (by decide +kernel) (ls' := [(0, jR 62), (1, jI v1), (2, jI v2), (3, jI v3)]) (st' := [jI (jW (v3 - v1))]) rfl (p1 := 59) rfl ?_
          cases hf
          exact B_retI B hq rfl (Nat.le_of_ble_eq_true rfl) (Nat.le_of_ble_eq_true rfl) (by decide +kernel)
        · refine B_blk B jlkX3_ok jcl_SKF [.goto 17, .iinc 3 1, .goto (-49)] (by decide +kernel) (ls' := [(0, jR 62), (1, jI v1), (2, jI v2), (3, jI (jW (v3 + 1)))]) (st' := []) rfl (p1 := 4) rfl ?_
          exact ih v1 v2 (jW (v3 + 1)) m _ hf hq
theorem t_X3_runOf {l : Launch} {G : jG} (hl : l.stackTraces = false) {a0 : Int} {a1 : Int} {m : jMu} {r : Int} (hf : f_X3_runOf a0 a1 m = some r) : jCt l G yX3_runOf (.code yX3_runOf cX3_runOf 4 (some .int) :: jWG) rm_X3_runOf [jR 62, jI a0, jI a1] SKF m (.inl (some (jI r))) SKF m := by
  unfold f_X3_runOf at hf
  refine J_start (ls0 := [(0, jR 62), (1, jI a0), (2, jI a1)]) (by decide +kernel) hl (Nat.le_of_ble_eq_true rfl) rfl fun X C hN hn hR hr hnm hno hq => ?_
  have B : jB X cX3_runOf RX3 4 SKF.length rm_X3_runOf (some .int) := ⟨C, hN, Nat.le_of_eq hn, hR, hr⟩
  refine B_blk B jlkX3_ok jcl_SKF [.iload_n 1, .iconst 1, .iadd, .istore_n 3] (by decide +kernel) (ls' := [(0, jR 62), (1, jI a0), (2, jI a1), (3, jI (jW (a0 + 1)))]) (st' := []) rfl (p1 := 4) rfl ?_
  exact t_X3_runOf_L4 B jFU a0 a1 (jW (a0 + 1)) m _ hf hq

def rm_X3_numberOf : Room := { frames := 4, cells := 0, slots := 0, locals := 85 }
def f_X3_numberOf (a0 : Int) (a1 : Int) (m : jMu) : Option Int :=
  (f_X6_byteAt a0 m).bind fun r1 => (if a1 = 1 then some (jW (r1 - 48)) else (if a1 = 2 then (f_X6_byteAt (jW (a0 + 1)) m).bind fun r2 => some (jW (jW (jW (jW (r1 - 48) * 10) + r2) - 48)) else some 131))
theorem t_X3_numberOf {l : Launch} {G : jG} (hl : l.stackTraces = false) {a0 : Int} {a1 : Int} {m : jMu} {r : Int} (hf : f_X3_numberOf a0 a1 m = some r) : jCt l G yX3_numberOf (.code yX3_numberOf cX3_numberOf 4 (some .int) :: jWG) rm_X3_numberOf [jR 62, jI a0, jI a1] SKF m (.inl (some (jI r))) SKF m := by
  unfold f_X3_numberOf at hf
  refine J_start (ls0 := [(0, jR 62), (1, jI a0), (2, jI a1)]) (by decide +kernel) hl (Nat.le_of_ble_eq_true rfl) rfl fun X C hN hn hR hr hnm hno hq => ?_
  have B : jB X cX3_numberOf RX3 4 SKF.length rm_X3_numberOf (some .int) := ⟨C, hN, Nat.le_of_eq hn, hR, hr⟩
  refine B_blk B jlkX3_ok jcl_SKF [.aload_n 0, .getfield 11, .iload_n 1] (by decide +kernel) (ls' := [(0, jR 62), (1, jI a0), (2, jI a1)]) (st' := [jI a0, jR 30]) rfl (p1 := 5) rfl ?_
  obtain ⟨r1, h1, hf⟩ := jbd hf
  refine B_callV B (Nat.le_refl _) (μ' := m) (k' := 0) (n' := 0) ca_X6_byteAt in_X6_byteAt se_X6_byteAt lk_X3_60 (t_X6_byteAt B.tr h1) (Nat.le_refl _) rfl rfl rfl (rest := []) rfl rfl (Nat.le_of_ble_eq_true rfl) (by decide +kernel) rfl rfl (st' := [jI r1]) rfl ?_
  refine B_blk B jlkX3_ok jcl_SKF [.bipush 48, .isub, .istore_n 3, .iload_n 2, .iconst 1] (by decide +kernel) (ls' := [(0, jR 62), (1, jI a0), (2, jI a1), (3, jI (jW (r1 - 48)))]) (st' := [jI 1, jI a1]) rfl (p1 := 14) rfl ?_
  refine J_icmp_ne B.1 (off := 5) (tgt := 19) (by decide +kernel) (by decide) hf (fun hf => ?_) (fun hf => ?_)
  · refine B_blk B jlkX3_ok jcl_SKF [.iload_n 3] (by decide +kernel) (ls' := [(0, jR 62), (1, jI a0), (2, jI a1), (3, jI (jW (r1 - 48)))]) (st' := [jI (jW (r1 - 48))]) rfl (p1 := 18) rfl ?_
    cases hf
    exact B_retI B hq rfl (Nat.le_of_ble_eq_true rfl) (Nat.le_of_ble_eq_true rfl) (by decide +kernel)
  · refine B_blk B jlkX3_ok jcl_SKF [.iload_n 2, .iconst 2] (by decide +kernel) (ls' := [(0, jR 62), (1, jI a0), (2, jI a1), (3, jI (jW (r1 - 48)))]) (st' := [jI 2, jI a1]) rfl (p1 := 21) rfl ?_
    refine J_icmp_ne B.1 (off := 24) (tgt := 45) (by decide +kernel) (by decide) hf (fun hf => ?_) (fun hf => ?_)
    · refine B_blk B jlkX3_ok jcl_SKF [.iload_n 3, .bipush 10, .imul, .aload_n 0, .getfield 11, .iload_n 1, .iconst 1, .iadd] (by decide +kernel) (ls' := [(0, jR 62), (1, jI a0), (2, jI a1), (3, jI (jW (r1 - 48)))]) (st' := [jI (jW (a0 + 1)), jR 30, jI (jW (jW (r1 - 48) * 10))]) rfl (p1 := 35) rfl ?_
      obtain ⟨r2, h2, hf⟩ := jbd hf
      refine B_callV B (Nat.le_refl _) (μ' := m) (k' := 0) (n' := 0) ca_X6_byteAt in_X6_byteAt se_X6_byteAt lk_X3_60 (t_X6_byteAt B.tr h2) (Nat.le_refl _) rfl rfl rfl (rest := [jI (jW (jW (r1 - 48) * 10))]) rfl rfl (Nat.le_of_ble_eq_true rfl) (by decide +kernel) rfl rfl (st' := [jI r2, jI (jW (jW (r1 - 48) * 10))]) rfl ?_
      refine B_blk B jlkX3_ok jcl_SKF [.iadd, .bipush 48, .isub, .goto 6] (by decide +kernel) (ls' := [(0, jR 62), (1, jI a0), (2, jI a1), (3, jI (jW (r1 - 48)))]) (st' := [jI (jW (jW (jW (jW (r1 - 48) * 10) + r2) - 48))]) rfl (p1 := 48) rfl ?_
      cases hf
      exact B_retI B hq rfl (Nat.le_of_ble_eq_true rfl) (Nat.le_of_ble_eq_true rfl) (by decide +kernel)
    · refine B_blk B jlkX3_ok jcl_SKF [.sipush 131] (by decide +kernel) (ls' := [(0, jR 62), (1, jI a0), (2, jI a1), (3, jI (jW (r1 - 48)))]) (st' := [jI 131]) rfl (p1 := 48) rfl ?_
      cases hf
      exact B_retI B hq rfl (Nat.le_of_ble_eq_true rfl) (Nat.le_of_ble_eq_true rfl) (by decide +kernel)

def rm_X3_isSame : Room := { frames := 7, cells := 0, slots := 0, locals := 323 }
def f_X3_isSame_L3 : Nat → Int → Int → Int → Int → jMu → Option Int
  | 0, _, _, _, _, _ => none
  | q + 1, v1, v2, v3, v4, m => (if v3 ≤ v4 then some 1 else (if jW (v2 + v4) < 0 then some 0 else (if jtl 0 ≤ jW (v2 + v4) then some 0 else (if 0 ≤ jW (v2 + v4) ∧ jW (v2 + v4) < jtl 0 then (f_X6_byteAt (jW (v1 + v4)) m).bind fun r1 => (if jtc 0 (jW (v2 + v4)) = r1 then f_X3_isSame_L3 q v1 v2 v3 (jW (v4 + 1)) m else some 0) else none))))
def f_X3_isSame (a0 : Int) (a1 : Int) (a2 : Int) (m : jMu) : Option Int :=
  f_X3_isSame_L3 jFU a0 a1 a2 0 m
theorem t_X3_isSame_L3 {X : jX} (B : jB X cX3_isSame RX3 6 SKF.length rm_X3_isSame (some .boolean)) : ∀ (q : Nat) (v1 : Int) (v2 : Int) (v3 : Int) (v4 : Int) (m : jMu) (r : Int), f_X3_isSame_L3 q v1 v2 v3 v4 m = some r → jQ X (.inl (some (jI r))) SKF m rm_X3_isSame.cells rm_X3_isSame.slots → J X SKF m 0 0 3 [(0, jR 62), (1, jI v1), (2, jI v2), (3, jI v3), (4, jI v4)] [] := by
  intro q
  induction q with
  | zero =>
    intro v1 v2 v3 v4 m r hf
    rw [f_X3_isSame_L3] at hf
    cases hf
  | succ q ih =>
    intro v1 v2 v3 v4 m r hf hq
    rw [f_X3_isSame_L3] at hf
    refine B_blk B jlkX3_ok jcl_SKF [.iload 4, .iload_n 3] (by decide +kernel) (ls' := [(0, jR 62), (1, jI v1), (2, jI v2), (3, jI v3), (4, jI v4)]) (st' := [jI v3, jI v4]) rfl (p1 := 6) rfl ?_
    refine J_icmp_ge B.1 (off := 53) (tgt := 59) (by decide +kernel) (by decide) hf (fun hf => ?_) (fun hf => ?_)
    · refine B_blk B jlkX3_ok jcl_SKF [.iconst 1] (by decide +kernel) (ls' := [(0, jR 62), (1, jI v1), (2, jI v2), (3, jI v3), (4, jI v4)]) (st' := [jI 1]) rfl (p1 := 60) rfl ?_
      cases hf
      exact B_retZ B (Or.inr rfl) hq rfl (Nat.le_of_ble_eq_true rfl) (Nat.le_of_ble_eq_true rfl) (by decide +kernel)
    · refine B_blk B jlkX3_ok jcl_SKF [.iload_n 2, .iload 4, .iadd, .istore 5, .iload 5] (by decide +kernel) (ls' := [(0, jR 62), (1, jI v1), (2, jI v2), (3, jI v3), (4, jI v4), (5, jI (jW (v2 + v4)))]) (st' := [jI (jW (v2 + v4))]) rfl (p1 := 17) rfl ?_
      refine J_if_lt B.1 (off := 34) (tgt := 51) (by decide +kernel) (by decide) hf (fun hf => ?_) (fun hf => ?_)
      · refine B_blk B jlkX3_ok jcl_SKF [.iconst 0] (by decide +kernel) (ls' := [(0, jR 62), (1, jI v1), (2, jI v2), (3, jI v3), (4, jI v4), (5, jI (jW (v2 + v4)))]) (st' := [jI 0]) rfl (p1 := 52) rfl ?_
        cases hf
        exact B_retZ B (Or.inl rfl) hq rfl (Nat.le_of_ble_eq_true rfl) (Nat.le_of_ble_eq_true rfl) (by decide +kernel)
      · refine B_blk B jlkX3_ok jcl_SKF [.iload 5] (by decide +kernel) (ls' := [(0, jR 62), (1, jI v1), (2, jI v2), (3, jI v3), (4, jI v4), (5, jI (jW (v2 + v4)))]) (st' := [jI (jW (v2 + v4))]) rfl (p1 := 22) rfl ?_
        refine J_ldcS (i := 0) (r := jXK + 0) B.1 rfl rfl (by decide) (by decide +kernel) ?_
        refine K_slen (w := 0) B jcl_SKF (Nat.le_refl _) (by decide) lk_X3_96 rfl (rest := [jI (jW (v2 + v4))]) rfl (Nat.le_of_ble_eq_true rfl) (by decide +kernel) ?_
        refine J_icmp_ge B.1 (off := 24) (tgt := 51) (by decide +kernel) (by decide) hf (fun hf => ?_) (fun hf => ?_)
        · refine B_blk B jlkX3_ok jcl_SKF [.iconst 0] (by decide +kernel) (ls' := [(0, jR 62), (1, jI v1), (2, jI v2), (3, jI v3), (4, jI v4), (5, jI (jW (v2 + v4)))]) (st' := [jI 0]) rfl (p1 := 52) rfl ?_
          cases hf
          exact B_retZ B (Or.inl rfl) hq rfl (Nat.le_of_ble_eq_true rfl) (Nat.le_of_ble_eq_true rfl) (by decide +kernel)
        · refine J_ldcS (i := 0) (r := jXK + 0) B.1 rfl rfl (by decide) (by decide +kernel) ?_
          refine B_blk B jlkX3_ok jcl_SKF [.iload 5] (by decide +kernel) (ls' := [(0, jR 62), (1, jI v1), (2, jI v2), (3, jI v3), (4, jI v4), (5, jI (jW (v2 + v4)))]) (st' := [jI (jW (v2 + v4)), jR (jXK + 0)]) rfl (p1 := 34) rfl ?_
          obtain ⟨g2, hf⟩ := jgd hf
          refine K_schar (w := 0) B jcl_SKF (Nat.le_refl _) (by decide) lk_X3_99 g2 rfl (rest := []) rfl (Nat.le_of_ble_eq_true rfl) (by decide +kernel) ?_
          refine B_blk B jlkX3_ok jcl_SKF [.aload_n 0, .getfield 11, .iload_n 1, .iload 4, .iadd] (by decide +kernel) (ls' := [(0, jR 62), (1, jI v1), (2, jI v2), (3, jI v3), (4, jI v4), (5, jI (jW (v2 + v4)))]) (st' := [jI (jW (v1 + v4)), jR 30, jI (jtc 0 (jW (v2 + v4)))]) rfl (p1 := 45) rfl ?_
          obtain ⟨r1, h1, hf⟩ := jbd hf
          refine B_callV B (Nat.le_refl _) (μ' := m) (k' := 0) (n' := 0) ca_X6_byteAt in_X6_byteAt se_X6_byteAt lk_X3_60 (t_X6_byteAt B.tr h1) (Nat.le_refl _) rfl rfl rfl (rest := [jI (jtc 0 (jW (v2 + v4)))]) rfl rfl (Nat.le_of_ble_eq_true rfl) (by decide +kernel) rfl rfl (st' := [jI r1, jI (jtc 0 (jW (v2 + v4)))]) rfl ?_
          refine J_icmp_eq B.1 (off := 5) (tgt := 53) (by decide +kernel) (by decide) hf (fun hf => ?_) (fun hf => ?_)
          · refine B_blk B jlkX3_ok jcl_SKF [.iinc 4 1, .goto (-53)] (by decide +kernel) (ls' := [(0, jR 62), (1, jI v1), (2, jI v2), (3, jI v3), (4, jI (jW (v4 + 1))), (5, jI (jW (v2 + v4)))]) (st' := []) rfl (p1 := 3) rfl ?_
            refine J_pick [0, 1, 2, 3, 4] (ls' := [(0, jR 62), (1, jI v1), (2, jI v2), (3, jI v3), (4, jI (jW (v4 + 1)))]) rfl ?_
            exact ih v1 v2 v3 (jW (v4 + 1)) m _ hf hq
          · refine B_blk B jlkX3_ok jcl_SKF [.iconst 0] (by decide +kernel) (ls' := [(0, jR 62), (1, jI v1), (2, jI v2), (3, jI v3), (4, jI v4), (5, jI (jW (v2 + v4)))]) (st' := [jI 0]) rfl (p1 := 52) rfl ?_
            cases hf
            exact B_retZ B (Or.inl rfl) hq rfl (Nat.le_of_ble_eq_true rfl) (Nat.le_of_ble_eq_true rfl) (by decide +kernel)
theorem t_X3_isSame {l : Launch} {G : jG} (hl : l.stackTraces = false) {a0 : Int} {a1 : Int} {a2 : Int} {m : jMu} {r : Int} (hf : f_X3_isSame a0 a1 a2 m = some r) : jCt l G yX3_isSame (.code yX3_isSame cX3_isSame 6 (some .boolean) :: jWG) rm_X3_isSame [jR 62, jI a0, jI a1, jI a2] SKF m (.inl (some (jI r))) SKF m := by
  unfold f_X3_isSame at hf
  refine J_start (ls0 := [(0, jR 62), (1, jI a0), (2, jI a1), (3, jI a2)]) (by decide +kernel) hl (Nat.le_of_ble_eq_true rfl) rfl fun X C hN hn hR hr hnm hno hq => ?_
  have B : jB X cX3_isSame RX3 6 SKF.length rm_X3_isSame (some .boolean) := ⟨C, hN, Nat.le_of_eq hn, hR, hr⟩
  refine B_blk B jlkX3_ok jcl_SKF [.iconst 0, .istore 4] (by decide +kernel) (ls' := [(0, jR 62), (1, jI a0), (2, jI a1), (3, jI a2), (4, jI 0)]) (st' := []) rfl (p1 := 3) rfl ?_
  exact t_X3_isSame_L3 B jFU a0 a1 a2 0 m _ hf hq

def rm_X3_wordOf : Room := { frames := 9, cells := 0, slots := 0, locals := 348 }
def f_X3_wordOf_L9 : Nat → Int → Int → Int → Int → Int → jMu → Option Int
  | 0, _, _, _, _, _, _ => none
  | q + 1, v1, v2, v3, v4, v5, m => (if jtl 0 ≤ v5 then some 131 else (if 0 ≤ v5 ∧ v5 < jtl 0 then (if jtc 0 v5 = 32 then (if jW (v5 - v4) = v2 then (f_X3_isSame v1 v4 v2 m).bind fun r1 => (if r1 = 0 then f_X3_wordOf_L9 q v1 v2 (jW (v3 + 1)) (jW (v5 + 1)) (jW (v5 + 1)) m else some v3) else f_X3_wordOf_L9 q v1 v2 (jW (v3 + 1)) (jW (v5 + 1)) (jW (v5 + 1)) m) else f_X3_wordOf_L9 q v1 v2 v3 v4 (jW (v5 + 1)) m) else none))
def f_X3_wordOf (a0 : Int) (a1 : Int) (m : jMu) : Option Int :=
  f_X3_wordOf_L9 jFU a0 a1 100 0 0 m
theorem t_X3_wordOf_L9 {X : jX} (B : jB X cX3_wordOf RX3 6 SKF.length rm_X3_wordOf (some .int)) : ∀ (q : Nat) (v1 : Int) (v2 : Int) (v3 : Int) (v4 : Int) (v5 : Int) (m : jMu) (r : Int), f_X3_wordOf_L9 q v1 v2 v3 v4 v5 m = some r → jQ X (.inl (some (jI r))) SKF m rm_X3_wordOf.cells rm_X3_wordOf.slots → J X SKF m 0 0 9 [(0, jR 62), (1, jI v1), (2, jI v2), (3, jI v3), (4, jI v4), (5, jI v5)] [] := by
  intro q
  induction q with
  | zero =>
    intro v1 v2 v3 v4 v5 m r hf
    rw [f_X3_wordOf_L9] at hf
    cases hf
  | succ q ih =>
    intro v1 v2 v3 v4 v5 m r hf hq
    rw [f_X3_wordOf_L9] at hf
    refine B_blk B jlkX3_ok jcl_SKF [.iload 5] (by decide +kernel) (ls' := [(0, jR 62), (1, jI v1), (2, jI v2), (3, jI v3), (4, jI v4), (5, jI v5)]) (st' := [jI v5]) rfl (p1 := 11) rfl ?_
    refine J_ldcS (i := 0) (r := jXK + 0) B.1 rfl rfl (by decide) (by decide +kernel) ?_
    refine K_slen (w := 0) B jcl_SKF (Nat.le_refl _) (by decide) lk_X3_96 rfl (rest := [jI v5]) rfl (Nat.le_of_ble_eq_true rfl) (by decide +kernel) ?_
    refine J_icmp_ge B.1 (off := 52) (tgt := 68) (by decide +kernel) (by decide) hf (fun hf => ?_) (fun hf => ?_)
    · refine B_blk B jlkX3_ok jcl_SKF [.sipush 131] (by decide +kernel) (ls' := [(0, jR 62), (1, jI v1), (2, jI v2), (3, jI v3), (4, jI v4), (5, jI v5)]) (st' := [jI 131]) rfl (p1 := 71) rfl ?_
      cases hf
      exact B_retI B hq rfl (Nat.le_of_ble_eq_true rfl) (Nat.le_of_ble_eq_true rfl) (by decide +kernel)
    · refine J_ldcS (i := 0) (r := jXK + 0) B.1 rfl rfl (by decide) (by decide +kernel) ?_
      refine B_blk B jlkX3_ok jcl_SKF [.iload 5] (by decide +kernel) (ls' := [(0, jR 62), (1, jI v1), (2, jI v2), (3, jI v3), (4, jI v4), (5, jI v5)]) (st' := [jI v5, jR (jXK + 0)]) rfl (p1 := 23) rfl ?_
      obtain ⟨g2, hf⟩ := jgd hf
      refine K_schar (w := 0) B jcl_SKF (Nat.le_refl _) (by decide) lk_X3_99 g2 rfl (rest := []) rfl (Nat.le_of_ble_eq_true rfl) (by decide +kernel) ?_
      refine B_blk B jlkX3_ok jcl_SKF [.bipush 32] (by decide +kernel) (ls' := [(0, jR 62), (1, jI v1), (2, jI v2), (3, jI v3), (4, jI v4), (5, jI v5)]) (st' := [jI 32, jI (jtc 0 v5)]) rfl (p1 := 28) rfl ?_
      refine J_icmp_ne B.1 (off := 34) (tgt := 62) (by decide +kernel) (by decide) hf (fun hf => ?_) (fun hf => ?_)
      · refine B_blk B jlkX3_ok jcl_SKF [.iload 5, .iload 4, .isub, .iload_n 2] (by decide +kernel) (ls' := [(0, jR 62), (1, jI v1), (2, jI v2), (3, jI v3), (4, jI v4), (5, jI v5)]) (st' := [jI v2, jI (jW (v5 - v4))]) rfl (p1 := 37) rfl ?_
        refine J_icmp_ne B.1 (off := 16) (tgt := 53) (by decide +kernel) (by decide) hf (fun hf => ?_) (fun hf => ?_)
        · refine B_blk B jlkX3_ok jcl_SKF [.aload_n 0, .iload_n 1, .iload 4, .iload_n 2] (by decide +kernel) (ls' := [(0, jR 62), (1, jI v1), (2, jI v2), (3, jI v3), (4, jI v4), (5, jI v5)]) (st' := [jI v2, jI v4, jI v1, jR 62]) rfl (p1 := 45) rfl ?_
          obtain ⟨r1, h1, hf⟩ := jbd hf
          refine B_callV B (Nat.le_refl _) (μ' := m) (k' := 0) (n' := 0) ca_X3_isSame in_X3_isSame se_X3_isSame lk_X3_103 (t_X3_isSame B.tr h1) (Nat.le_refl _) rfl rfl rfl (rest := []) rfl rfl (Nat.le_of_ble_eq_true rfl) (by decide +kernel) rfl rfl (st' := [jI r1]) rfl ?_
          refine J_if_eq B.1 (off := 5) (tgt := 53) (by decide +kernel) (by decide) hf (fun hf => ?_) (fun hf => ?_)
          · refine B_blk B jlkX3_ok jcl_SKF [.iinc 3 1, .iload 5, .iconst 1, .iadd, .istore 4, .iinc 5 1, .goto (-56)] (by decide +kernel) (ls' := [(0, jR 62), (1, jI v1), (2, jI v2), (3, jI (jW (v3 + 1))), (4, jI (jW (v5 + 1))), (5, jI (jW (v5 + 1)))]) (st' := []) rfl (p1 := 9) rfl ?_
            exact ih v1 v2 (jW (v3 + 1)) (jW (v5 + 1)) (jW (v5 + 1)) m _ hf hq
          · refine B_blk B jlkX3_ok jcl_SKF [.iload_n 3] (by decide +kernel) (ls' := [(0, jR 62), (1, jI v1), (2, jI v2), (3, jI v3), (4, jI v4), (5, jI v5)]) (st' := [jI v3]) rfl (p1 := 52) rfl ?_
            cases hf
            exact B_retI B hq rfl (Nat.le_of_ble_eq_true rfl) (Nat.le_of_ble_eq_true rfl) (by decide +kernel)
        · refine B_blk B jlkX3_ok jcl_SKF [.iinc 3 1, .iload 5, .iconst 1, .iadd, .istore 4, .iinc 5 1, .goto (-56)] (by decide +kernel) (ls' := [(0, jR 62), (1, jI v1), (2, jI v2), (3, jI (jW (v3 + 1))), (4, jI (jW (v5 + 1))), (5, jI (jW (v5 + 1)))]) (st' := []) rfl (p1 := 9) rfl ?_
          exact ih v1 v2 (jW (v3 + 1)) (jW (v5 + 1)) (jW (v5 + 1)) m _ hf hq
      · refine B_blk B jlkX3_ok jcl_SKF [.iinc 5 1, .goto (-56)] (by decide +kernel) (ls' := [(0, jR 62), (1, jI v1), (2, jI v2), (3, jI v3), (4, jI v4), (5, jI (jW (v5 + 1)))]) (st' := []) rfl (p1 := 9) rfl ?_
        exact ih v1 v2 v3 v4 (jW (v5 + 1)) m _ hf hq
theorem t_X3_wordOf {l : Launch} {G : jG} (hl : l.stackTraces = false) {a0 : Int} {a1 : Int} {m : jMu} {r : Int} (hf : f_X3_wordOf a0 a1 m = some r) : jCt l G yX3_wordOf (.code yX3_wordOf cX3_wordOf 6 (some .int) :: jWG) rm_X3_wordOf [jR 62, jI a0, jI a1] SKF m (.inl (some (jI r))) SKF m := by
  unfold f_X3_wordOf at hf
  refine J_start (ls0 := [(0, jR 62), (1, jI a0), (2, jI a1)]) (by decide +kernel) hl (Nat.le_of_ble_eq_true rfl) rfl fun X C hN hn hR hr hnm hno hq => ?_
  have B : jB X cX3_wordOf RX3 6 SKF.length rm_X3_wordOf (some .int) := ⟨C, hN, Nat.le_of_eq hn, hR, hr⟩
  refine B_blk B jlkX3_ok jcl_SKF [.bipush 100, .istore_n 3, .iconst 0, .istore 4, .iconst 0, .istore 5] (by decide +kernel) (ls' := [(0, jR 62), (1, jI a0), (2, jI a1), (3, jI 100), (4, jI 0), (5, jI 0)]) (st' := []) rfl (p1 := 9) rfl ?_
  exact t_X3_wordOf_L9 B jFU a0 a1 100 0 0 m _ hf hq

def rm_X3_splitWords : Room := { frames := 11, cells := 0, slots := 0, locals := 373 }
def f_X3_splitWords_L7 : Nat → Int → jMu → Option jMu
  | 0, _, _ => none
  | q + 1, v1, m => (f_X6_length m).bind fun r2 => (if r2 ≤ v1 then (f_X6_length m).bind fun r3 => (f_X3_addWord 130 r3 m).bind fun r4 => some r4 else (f_X6_byteAt v1 m).bind fun r5 => (f_X3_isLetter r5).bind fun r6 => (if r6 = 0 then (f_X3_isDigit r5).bind fun r7 => (if r7 = 0 then (if r5 = 32 then f_X3_splitWords_L7 q (jW (v1 + (if 1 < 1 then 1 else 1))) m else (f_X3_signOf r5).bind fun r8 => (f_X3_addWord r8 v1 m).bind fun r9 => f_X3_splitWords_L7 q (jW (v1 + (if 1 < 1 then 1 else 1))) r9) else (f_X3_runOf v1 0 m).bind fun r10 => (f_X3_numberOf v1 r10 m).bind fun r11 => (f_X3_addWord r11 v1 m).bind fun r12 => f_X3_splitWords_L7 q (jW (v1 + (if r10 < 1 then 1 else r10))) r12) else (f_X3_runOf v1 1 m).bind fun r13 => (f_X3_wordOf v1 r13 m).bind fun r14 => (f_X3_addWord r14 v1 m).bind fun r15 => f_X3_splitWords_L7 q (jW (v1 + (if r13 < 1 then 1 else r13))) r15))
def f_X3_splitWords (m : jMu) : Option jMu :=
  (jlt (jup m 62 5 0) fun m1 => f_X3_splitWords_L7 jFU 0 m1)
theorem t_X3_splitWords_L7 {X : jX} (B : jB X cX3_splitWords RX3 4 SKF.length rm_X3_splitWords none) : ∀ (q : Nat) (v1 : Int) (m : jMu) (r : jMu), f_X3_splitWords_L7 q v1 m = some r → jQ X (.inl none) SKF r rm_X3_splitWords.cells rm_X3_splitWords.slots → J X SKF m 0 0 7 [(0, jR 62), (1, jI v1)] [] := by
  intro q
  induction q with
  | zero =>
    intro v1 m r hf
    rw [f_X3_splitWords_L7] at hf
    cases hf
  | succ q ih =>
    intro v1 m r hf hq
    rw [f_X3_splitWords_L7] at hf
    refine B_blk B jlkX3_ok jcl_SKF [.iload_n 1, .aload_n 0, .getfield 11] (by decide +kernel) (ls' := [(0, jR 62), (1, jI v1)]) (st' := [jR 30, jI v1]) rfl (p1 := 12) rfl ?_
    obtain ⟨r2, h2, hf⟩ := jbd hf
    refine B_callV B (Nat.le_refl _) (μ' := m) (k' := 0) (n' := 0) ca_X6_length in_X6_length se_X6_length lk_X3_56 (t_X6_length B.tr h2) (Nat.le_refl _) rfl rfl rfl (rest := [jI v1]) rfl rfl (Nat.le_of_ble_eq_true rfl) (by decide +kernel) rfl rfl (st' := [jI r2, jI v1]) rfl ?_
    refine J_icmp_ge B.1 (off := 96) (tgt := 111) (by decide +kernel) (by decide) hf (fun hf => ?_) (fun hf => ?_)
    · refine B_blk B jlkX3_ok jcl_SKF [.aload_n 0, .sipush 130, .aload_n 0, .getfield 11] (by decide +kernel) (ls' := [(0, jR 62), (1, jI v1)]) (st' := [jR 30, jI 130, jR 62]) rfl (p1 := 119) rfl ?_
      obtain ⟨r3, h3, hf⟩ := jbd hf
      refine B_callV B (Nat.le_refl _) (μ' := m) (k' := 0) (n' := 0) ca_X6_length in_X6_length se_X6_length lk_X3_56 (t_X6_length B.tr h3) (Nat.le_refl _) rfl rfl rfl (rest := [jI 130, jR 62]) rfl rfl (Nat.le_of_ble_eq_true rfl) (by decide +kernel) rfl rfl (st' := [jI r3, jI 130, jR 62]) rfl ?_
      obtain ⟨r4, h4, hf⟩ := jbd hf
      refine B_callV B (Nat.le_refl _) (μ' := r4) (k' := 0) (n' := 0) ca_X3_addWord in_X3_addWord se_X3_addWord lk_X3_76 (t_X3_addWord B.tr h4) (Nat.le_refl _) rfl rfl rfl (rest := []) rfl rfl (Nat.le_of_ble_eq_true rfl) (by decide +kernel) rfl rfl (st' := []) rfl ?_
      cases hf
      exact B_retV B hq rfl (Nat.le_of_ble_eq_true rfl) (Nat.le_of_ble_eq_true rfl) (by decide +kernel)
    · refine B_blk B jlkX3_ok jcl_SKF [.iconst 1, .istore_n 2, .aload_n 0, .getfield 11, .iload_n 1] (by decide +kernel) (ls' := [(0, jR 62), (1, jI v1), (2, jI 1)]) (st' := [jI v1, jR 30]) rfl (p1 := 25) rfl ?_
      obtain ⟨r5, h5, hf⟩ := jbd hf
      refine B_callV B (Nat.le_refl _) (μ' := m) (k' := 0) (n' := 0) ca_X6_byteAt in_X6_byteAt se_X6_byteAt lk_X3_60 (t_X6_byteAt B.tr h5) (Nat.le_refl _) rfl rfl rfl (rest := []) rfl rfl (Nat.le_of_ble_eq_true rfl) (by decide +kernel) rfl rfl (st' := [jI r5]) rfl ?_
      refine B_blk B jlkX3_ok jcl_SKF [.istore_n 3, .iload_n 3] (by decide +kernel) (ls' := [(0, jR 62), (1, jI v1), (2, jI 1), (3, jI r5)]) (st' := [jI r5]) rfl (p1 := 30) rfl ?_
      obtain ⟨r6, h6, hf⟩ := jbd hf
      refine B_callS B (Nat.le_refl _) (μ' := m) (k' := 0) (n' := 0) ca_X3_isLetter sa_X3_isLetter lk_X3_64 (t_X3_isLetter B.tr jcl_SKF h6) (Nat.le_refl _) rfl (rest := []) rfl rfl (Nat.le_of_ble_eq_true rfl) (by decide +kernel) rfl rfl (st' := [jI r6]) rfl ?_
      refine J_if_eq B.1 (off := 24) (tgt := 57) (by decide +kernel) (by decide) hf (fun hf => ?_) (fun hf => ?_)
      · refine B_blk B jlkX3_ok jcl_SKF [.iload_n 3] (by decide +kernel) (ls' := [(0, jR 62), (1, jI v1), (2, jI 1), (3, jI r5)]) (st' := [jI r5]) rfl (p1 := 58) rfl ?_
        obtain ⟨r7, h7, hf⟩ := jbd hf
        refine B_callS B (Nat.le_refl _) (μ' := m) (k' := 0) (n' := 0) ca_X3_isDigit sa_X3_isDigit lk_X3_80 (t_X3_isDigit B.tr jcl_SKF h7) (Nat.le_refl _) rfl (rest := []) rfl rfl (Nat.le_of_ble_eq_true rfl) (by decide +kernel) rfl rfl (st' := [jI r7]) rfl ?_
        refine J_if_eq B.1 (off := 24) (tgt := 85) (by decide +kernel) (by decide) hf (fun hf => ?_) (fun hf => ?_)
        · refine B_blk B jlkX3_ok jcl_SKF [.iload_n 3, .bipush 32] (by decide +kernel) (ls' := [(0, jR 62), (1, jI v1), (2, jI 1), (3, jI r5)]) (st' := [jI 32, jI r5]) rfl (p1 := 88) rfl ?_
          refine J_icmp_eq B.1 (off := 12) (tgt := 100) (by decide +kernel) (by decide) hf (fun hf => ?_) (fun hf => ?_)
          · refine B_blk B jlkX3_ok jcl_SKF [.iload_n 1, .iload_n 2, .iconst 1] (by decide +kernel) (ls' := [(0, jR 62), (1, jI v1), (2, jI 1), (3, jI r5)]) (st' := [jI 1, jI 1, jI v1]) rfl (p1 := 103) rfl ?_
            refine J_max B.1 lk_X3_89 sa_max ii_J9 jca_max B.2.2.2.1 (Nat.le_of_ble_eq_true rfl) (Nat.le_of_ble_eq_true rfl) (Nat.le_of_ble_eq_true rfl) (Nat.le_of_ble_eq_true rfl) (by decide +kernel) ?_
            refine B_blk B jlkX3_ok jcl_SKF [.iadd, .istore_n 1, .goto (-101)] (by decide +kernel) (ls' := [(0, jR 62), (1, jI (jW (v1 + (if 1 < 1 then 1 else 1)))), (2, jI 1), (3, jI r5)]) (st' := []) rfl (p1 := 7) rfl ?_
            refine J_pick [0, 1] (ls' := [(0, jR 62), (1, jI (jW (v1 + (if 1 < 1 then 1 else 1))))]) rfl ?_
            exact ih (jW (v1 + (if 1 < 1 then 1 else 1))) m _ hf hq
          · refine B_blk B jlkX3_ok jcl_SKF [.aload_n 0, .iload_n 3] (by decide +kernel) (ls' := [(0, jR 62), (1, jI v1), (2, jI 1), (3, jI r5)]) (st' := [jI r5, jR 62]) rfl (p1 := 93) rfl ?_
            obtain ⟨r8, h8, hf⟩ := jbd hf
            refine B_callS B (Nat.le_refl _) (μ' := m) (k' := 0) (n' := 0) ca_X3_signOf sa_X3_signOf lk_X3_86 (t_X3_signOf B.tr jcl_SKF h8) (Nat.le_refl _) rfl (rest := [jR 62]) rfl rfl (Nat.le_of_ble_eq_true rfl) (by decide +kernel) rfl rfl (st' := [jI r8, jR 62]) rfl ?_
            refine B_blk B jlkX3_ok jcl_SKF [.iload_n 1] (by decide +kernel) (ls' := [(0, jR 62), (1, jI v1), (2, jI 1), (3, jI r5)]) (st' := [jI v1, jI r8, jR 62]) rfl (p1 := 97) rfl ?_
            obtain ⟨r9, h9, hf⟩ := jbd hf
            refine B_callV B (Nat.le_refl _) (μ' := r9) (k' := 0) (n' := 0) ca_X3_addWord in_X3_addWord se_X3_addWord lk_X3_76 (t_X3_addWord B.tr h9) (Nat.le_refl _) rfl rfl rfl (rest := []) rfl rfl (Nat.le_of_ble_eq_true rfl) (by decide +kernel) rfl rfl (st' := []) rfl ?_
            refine B_blk B jlkX3_ok jcl_SKF [.iload_n 1, .iload_n 2, .iconst 1] (by decide +kernel) (ls' := [(0, jR 62), (1, jI v1), (2, jI 1), (3, jI r5)]) (st' := [jI 1, jI 1, jI v1]) rfl (p1 := 103) rfl ?_
            refine J_max B.1 lk_X3_89 sa_max ii_J9 jca_max B.2.2.2.1 (Nat.le_of_ble_eq_true rfl) (Nat.le_of_ble_eq_true rfl) (Nat.le_of_ble_eq_true rfl) (Nat.le_of_ble_eq_true rfl) (by decide +kernel) ?_
            refine B_blk B jlkX3_ok jcl_SKF [.iadd, .istore_n 1, .goto (-101)] (by decide +kernel) (ls' := [(0, jR 62), (1, jI (jW (v1 + (if 1 < 1 then 1 else 1)))), (2, jI 1), (3, jI r5)]) (st' := []) rfl (p1 := 7) rfl ?_
            refine J_pick [0, 1] (ls' := [(0, jR 62), (1, jI (jW (v1 + (if 1 < 1 then 1 else 1))))]) rfl ?_
            exact ih (jW (v1 + (if 1 < 1 then 1 else 1))) r9 _ hf hq
        · refine B_blk B jlkX3_ok jcl_SKF [.aload_n 0, .iload_n 1, .iconst 0] (by decide +kernel) (ls' := [(0, jR 62), (1, jI v1), (2, jI 1), (3, jI r5)]) (st' := [jI 0, jI v1, jR 62]) rfl (p1 := 67) rfl ?_
          obtain ⟨r10, h10, hf⟩ := jbd hf
          refine B_callV B (Nat.le_refl _) (μ' := m) (k' := 0) (n' := 0) ca_X3_runOf in_X3_runOf se_X3_runOf lk_X3_68 (t_X3_runOf B.tr h10) (Nat.le_refl _) rfl rfl rfl (rest := []) rfl rfl (Nat.le_of_ble_eq_true rfl) (by decide +kernel) rfl rfl (st' := [jI r10]) rfl ?_
          refine B_blk B jlkX3_ok jcl_SKF [.istore_n 2, .aload_n 0, .aload_n 0, .iload_n 1, .iload_n 2] (by decide +kernel) (ls' := [(0, jR 62), (1, jI v1), (2, jI r10), (3, jI r5)]) (st' := [jI r10, jI v1, jR 62, jR 62]) rfl (p1 := 75) rfl ?_
          obtain ⟨r11, h11, hf⟩ := jbd hf
          refine B_callV B (Nat.le_refl _) (μ' := m) (k' := 0) (n' := 0) ca_X3_numberOf in_X3_numberOf se_X3_numberOf lk_X3_83 (t_X3_numberOf B.tr h11) (Nat.le_refl _) rfl rfl rfl (rest := [jR 62]) rfl rfl (Nat.le_of_ble_eq_true rfl) (by decide +kernel) rfl rfl (st' := [jI r11, jR 62]) rfl ?_
          refine B_blk B jlkX3_ok jcl_SKF [.iload_n 1] (by decide +kernel) (ls' := [(0, jR 62), (1, jI v1), (2, jI r10), (3, jI r5)]) (st' := [jI v1, jI r11, jR 62]) rfl (p1 := 79) rfl ?_
          obtain ⟨r12, h12, hf⟩ := jbd hf
          refine B_callV B (Nat.le_refl _) (μ' := r12) (k' := 0) (n' := 0) ca_X3_addWord in_X3_addWord se_X3_addWord lk_X3_76 (t_X3_addWord B.tr h12) (Nat.le_refl _) rfl rfl rfl (rest := []) rfl rfl (Nat.le_of_ble_eq_true rfl) (by decide +kernel) rfl rfl (st' := []) rfl ?_
          refine B_blk B jlkX3_ok jcl_SKF [.goto 18, .iload_n 1, .iload_n 2, .iconst 1] (by decide +kernel) (ls' := [(0, jR 62), (1, jI v1), (2, jI r10), (3, jI r5)]) (st' := [jI 1, jI r10, jI v1]) rfl (p1 := 103) rfl ?_
          refine J_max B.1 lk_X3_89 sa_max ii_J9 jca_max B.2.2.2.1 (Nat.le_of_ble_eq_true rfl) (Nat.le_of_ble_eq_true rfl) (Nat.le_of_ble_eq_true rfl) (Nat.le_of_ble_eq_true rfl) (by decide +kernel) ?_
          refine B_blk B jlkX3_ok jcl_SKF [.iadd, .istore_n 1, .goto (-101)] (by decide +kernel) (ls' := [(0, jR 62), (1, jI (jW (v1 + (if r10 < 1 then 1 else r10)))), (2, jI r10), (3, jI r5)]) (st' := []) rfl (p1 := 7) rfl ?_
          refine J_pick [0, 1] (ls' := [(0, jR 62), (1, jI (jW (v1 + (if r10 < 1 then 1 else r10))))]) rfl ?_
          exact ih (jW (v1 + (if r10 < 1 then 1 else r10))) r12 _ hf hq
      · refine B_blk B jlkX3_ok jcl_SKF [.aload_n 0, .iload_n 1, .iconst 1] (by decide +kernel) (ls' := [(0, jR 62), (1, jI v1), (2, jI 1), (3, jI r5)]) (st' := [jI 1, jI v1, jR 62]) rfl (p1 := 39) rfl ?_
        obtain ⟨r13, h13, hf⟩ := jbd hf
        refine B_callV B (Nat.le_refl _) (μ' := m) (k' := 0) (n' := 0) ca_X3_runOf in_X3_runOf se_X3_runOf lk_X3_68 (t_X3_runOf B.tr h13) (Nat.le_refl _) rfl rfl rfl (rest := []) rfl rfl (Nat.le_of_ble_eq_true rfl) (by decide +kernel) rfl rfl (st' := [jI r13]) rfl ?_
        refine B_blk B jlkX3_ok jcl_SKF [.istore_n 2, .aload_n 0, .aload_n 0, .iload_n 1, .iload_n 2] (by decide +kernel) (ls' := [(0, jR 62), (1, jI v1), (2, jI r13), (3, jI r5)]) (st' := [jI r13, jI v1, jR 62, jR 62]) rfl (p1 := 47) rfl ?_
        obtain ⟨r14, h14, hf⟩ := jbd hf
        refine B_callV B (Nat.le_refl _) (μ' := m) (k' := 0) (n' := 0) ca_X3_wordOf in_X3_wordOf se_X3_wordOf lk_X3_72 (t_X3_wordOf B.tr h14) (Nat.le_refl _) rfl rfl rfl (rest := [jR 62]) rfl rfl (Nat.le_of_ble_eq_true rfl) (by decide +kernel) rfl rfl (st' := [jI r14, jR 62]) rfl ?_
        refine B_blk B jlkX3_ok jcl_SKF [.iload_n 1] (by decide +kernel) (ls' := [(0, jR 62), (1, jI v1), (2, jI r13), (3, jI r5)]) (st' := [jI v1, jI r14, jR 62]) rfl (p1 := 51) rfl ?_
        obtain ⟨r15, h15, hf⟩ := jbd hf
        refine B_callV B (Nat.le_refl _) (μ' := r15) (k' := 0) (n' := 0) ca_X3_addWord in_X3_addWord se_X3_addWord lk_X3_76 (t_X3_addWord B.tr h15) (Nat.le_refl _) rfl rfl rfl (rest := []) rfl rfl (Nat.le_of_ble_eq_true rfl) (by decide +kernel) rfl rfl (st' := []) rfl ?_
        refine B_blk B jlkX3_ok jcl_SKF [.goto 46, .iload_n 1, .iload_n 2, .iconst 1] (by decide +kernel) (ls' := [(0, jR 62), (1, jI v1), (2, jI r13), (3, jI r5)]) (st' := [jI 1, jI r13, jI v1]) rfl (p1 := 103) rfl ?_
        refine J_max B.1 lk_X3_89 sa_max ii_J9 jca_max B.2.2.2.1 (Nat.le_of_ble_eq_true rfl) (Nat.le_of_ble_eq_true rfl) (Nat.le_of_ble_eq_true rfl) (Nat.le_of_ble_eq_true rfl) (by decide +kernel) ?_
        refine B_blk B jlkX3_ok jcl_SKF [.iadd, .istore_n 1, .goto (-101)] (by decide +kernel) (ls' := [(0, jR 62), (1, jI (jW (v1 + (if r13 < 1 then 1 else r13)))), (2, jI r13), (3, jI r5)]) (st' := []) rfl (p1 := 7) rfl ?_
        refine J_pick [0, 1] (ls' := [(0, jR 62), (1, jI (jW (v1 + (if r13 < 1 then 1 else r13))))]) rfl ?_
        exact ih (jW (v1 + (if r13 < 1 then 1 else r13))) r15 _ hf hq
theorem t_X3_splitWords {l : Launch} {G : jG} (hl : l.stackTraces = false) {m : jMu} {r : jMu} (hf : f_X3_splitWords m = some r) : jCt l G yX3_splitWords (.code yX3_splitWords cX3_splitWords 4 none :: jWG) rm_X3_splitWords [jR 62] SKF m (.inl none) SKF r := by
  unfold f_X3_splitWords at hf
  refine J_start (ls0 := [(0, jR 62)]) (by decide +kernel) hl (Nat.le_of_ble_eq_true rfl) rfl fun X C hN hn hR hr hnm hno hq => ?_
  have B : jB X cX3_splitWords RX3 4 SKF.length rm_X3_splitWords none := ⟨C, hN, Nat.le_of_eq hn, hR, hr⟩
  refine B_blk B jlkX3_ok jcl_SKF [.aload_n 0, .iconst 0] (by decide +kernel) (ls' := [(0, jR 62)]) (st' := [jI 0, jR 62]) rfl (p1 := 2) rfl ?_
  refine K_putI (jI' := 5) B jp_X3_53 rfl rfl rfl (by decide +kernel) ?_
  obtain ⟨m1, hm1, hf⟩ := jlt_s hf
  rw [hm1]
  refine B_blk B jlkX3_ok jcl_SKF [.iconst 0, .istore_n 1] (by decide +kernel) (ls' := [(0, jR 62), (1, jI 0)]) (st' := []) rfl (p1 := 7) rfl ?_
  exact t_X3_splitWords_L7 B jFU 0 m1 _ hf hq
