/-! printed walks -/
def rm_X10_isDay : Room := { frames := 4, cells := 0, slots := 0, locals := 86 }
def f_X10_isDay (a0 : Int) : Option Int :=
  (f_X10_isIn a0 0 199).bind fun r1 => (if r1 = 0 ∨ r1 = 1 then some r1 else none)
theorem t_X10_isDay {l : Launch} {G : jG} (hl : l.stackTraces = false) {S : List jSh} (hcl : jcl S) {a0 : Int} {μ : jMu} {r : Int} (hf : f_X10_isDay a0 = some r) : jCt l G yX10_isDay (.code yX10_isDay cX10_isDay 1 (some .boolean) :: jWG) rm_X10_isDay [jI a0] S μ (.inl (some (jI r))) S μ := by
  unfold f_X10_isDay at hf
  refine J_start (ls0 := [(0, jI a0)]) (by decide +kernel) hl (Nat.le_of_ble_eq_true rfl) rfl fun X C hN hn hR hr hnm hno hq => ?_
  have B : jB X cX10_isDay RX10 1 S.length rm_X10_isDay (some .boolean) := ⟨C, hN, Nat.le_of_eq hn, hR, hr⟩
  refine B_blk B jlkX10_ok hcl [.iload_n 0, .iconst 0, .sipush 199] (by decide +kernel) (ls' := [(0, jI a0)]) (st' := [jI 199, jI 0, jI a0]) rfl (p1 := 5) rfl ?_
  obtain ⟨r1, h1, hf⟩ := jbd hf
  refine B_callS B (Nat.le_refl _) (μ' := μ) (k' := 0) (n' := 0) ca_X10_isIn sa_X10_isIn lk_X10_54 (t_X10_isIn B.tr hcl h1) (Nat.le_refl _) rfl (rest := []) rfl rfl (Nat.le_of_ble_eq_true rfl) (by decide +kernel) rfl rfl (st' := [jI r1]) rfl ?_
  obtain ⟨gz, hf⟩ := jgd hf
  cases hf
  exact B_retZ B gz hq rfl (Nat.le_of_ble_eq_true rfl) (Nat.le_of_ble_eq_true rfl) (by decide +kernel)

def rm_X10_isHour : Room := { frames := 4, cells := 0, slots := 0, locals := 86 }
def f_X10_isHour (a0 : Int) : Option Int :=
  (f_X10_isIn a0 0 11).bind fun r1 => (if r1 = 0 ∨ r1 = 1 then some r1 else none)
theorem t_X10_isHour {l : Launch} {G : jG} (hl : l.stackTraces = false) {S : List jSh} (hcl : jcl S) {a0 : Int} {μ : jMu} {r : Int} (hf : f_X10_isHour a0 = some r) : jCt l G yX10_isHour (.code yX10_isHour cX10_isHour 1 (some .boolean) :: jWG) rm_X10_isHour [jI a0] S μ (.inl (some (jI r))) S μ := by
  unfold f_X10_isHour at hf
  refine J_start (ls0 := [(0, jI a0)]) (by decide +kernel) hl (Nat.le_of_ble_eq_true rfl) rfl fun X C hN hn hR hr hnm hno hq => ?_
  have B : jB X cX10_isHour RX10 1 S.length rm_X10_isHour (some .boolean) := ⟨C, hN, Nat.le_of_eq hn, hR, hr⟩
  refine B_blk B jlkX10_ok hcl [.iload_n 0, .iconst 0, .bipush 11] (by decide +kernel) (ls' := [(0, jI a0)]) (st' := [jI 11, jI 0, jI a0]) rfl (p1 := 4) rfl ?_
  obtain ⟨r1, h1, hf⟩ := jbd hf
  refine B_callS B (Nat.le_refl _) (μ' := μ) (k' := 0) (n' := 0) ca_X10_isIn sa_X10_isIn lk_X10_54 (t_X10_isIn B.tr hcl h1) (Nat.le_refl _) rfl (rest := []) rfl rfl (Nat.le_of_ble_eq_true rfl) (by decide +kernel) rfl rfl (st' := [jI r1]) rfl ?_
  obtain ⟨gz, hf⟩ := jgd hf
  cases hf
  exact B_retZ B gz hq rfl (Nat.le_of_ble_eq_true rfl) (Nat.le_of_ble_eq_true rfl) (by decide +kernel)

def rm_X10_weather : Room := { frames := 6, cells := 0, slots := 0, locals := 106 }
def f_X10_weather_J194 (v6 : Int) (v7 : Int) (s1 : Int) (s2 : Int) (m : jMu) : Option (Int × jMu) :=
  (if 0 ≤ s1 ∧ s1 < 2083 then (jlt (jup m 75 s1 s2) fun m8 => (if 0 ≤ jW (v7 + 6) ∧ jW (v7 + 6) < 2083 then (jlt (jup m8 75 (jW (v7 + 6)) v6) fun m9 => (jlt (jup m9 75 1 (jW (m9 75 1 + 1))) fun m10 => some (jW (m10 75 1 - 1), m10))) else none)) else none)
def f_X10_weather_J171 (v5 : Int) (v6 : Int) (v7 : Int) (s1 : Int) (s2 : Int) (m : jMu) : Option (Int × jMu) :=
  (if 0 ≤ s1 ∧ s1 < 2083 then (jlt (jup m 75 s1 s2) fun m7 => (if 0 ≤ v5 then f_X10_weather_J194 v6 v7 (jW (v7 + 5)) v5 m7 else f_X10_weather_J194 v6 v7 (jW (v7 + 5)) (jW ((-1) - v5)) m7)) else none)
def f_X10_weather_J88 (v1 : Int) (v2 : Int) (v3 : Int) (v4 : Int) (v5 : Int) (v6 : Int) (s1 : Int) (m : jMu) : Option (Int × jMu) :=
  (jlt (jup m 74 0 s1) fun m2 => (if m2 74 0 ≤ 0 then (if 0 ≤ jW (92 + jW (7 * m2 75 1)) ∧ jW (92 + jW (7 * m2 75 1)) < 2083 then (jlt (jup m2 75 (jW (92 + jW (7 * m2 75 1))) v1) fun m3 => (if 0 ≤ jW (jW (92 + jW (7 * m2 75 1)) + 1) ∧ jW (jW (92 + jW (7 * m2 75 1)) + 1) < 2083 then (jlt (jup m3 75 (jW (jW (92 + jW (7 * m2 75 1)) + 1)) v2) fun m4 => (if 0 ≤ jW (jW (92 + jW (7 * m2 75 1)) + 2) ∧ jW (jW (92 + jW (7 * m2 75 1)) + 2) < 2083 then (jlt (jup m4 75 (jW (jW (92 + jW (7 * m2 75 1)) + 2)) v3) fun m5 => (if 0 ≤ jW (jW (92 + jW (7 * m2 75 1)) + 3) ∧ jW (jW (92 + jW (7 * m2 75 1)) + 3) < 2083 then (jlt (jup m5 75 (jW (jW (92 + jW (7 * m2 75 1)) + 3)) v4) fun m6 => (if 0 ≤ v5 then f_X10_weather_J171 v5 v6 (jW (92 + jW (7 * m2 75 1))) (jW (jW (92 + jW (7 * m2 75 1)) + 4)) 0 m6 else f_X10_weather_J171 v5 v6 (jW (92 + jW (7 * m2 75 1))) (jW (jW (92 + jW (7 * m2 75 1)) + 4)) 1 m6)) else none)) else none)) else none)) else none) else some (0, m2)))
def f_X10_weather_J30 (v1 : Int) (v2 : Int) (v3 : Int) (v4 : Int) (v5 : Int) (v6 : Int) (m : jMu) : Option (Int × jMu) :=
  f_X10_weather_J88 v1 v2 v3 v4 v5 v6 1 m
def f_X10_weather_J68 (v1 : Int) (v2 : Int) (v3 : Int) (v4 : Int) (v5 : Int) (v6 : Int) (m : jMu) : Option (Int × jMu) :=
  f_X10_weather_J88 v1 v2 v3 v4 v5 v6 2 m
def f_X10_weather (a0 : Int) (a1 : Int) (a2 : Int) (a3 : Int) (a4 : Int) (a5 : Int) (m : jMu) : Option (Int × jMu) :=
  (f_X10_isDay a0).bind fun r1 => (if r1 = 0 then f_X10_weather_J30 a0 a1 a2 a3 a4 a5 m else (f_X10_isDay a1).bind fun r18 => (if r18 = 0 then f_X10_weather_J30 a0 a1 a2 a3 a4 a5 m else (f_X10_isHour a2).bind fun r19 => (if r19 = 0 then f_X10_weather_J30 a0 a1 a2 a3 a4 a5 m else (f_X10_isHour a3).bind fun r20 => (if r20 = 0 then f_X10_weather_J30 a0 a1 a2 a3 a4 a5 m else (if a1 < a0 then f_X10_weather_J68 a0 a1 a2 a3 a4 a5 m else (if a3 < a2 then f_X10_weather_J68 a0 a1 a2 a3 a4 a5 m else (f_X10_isIn a4 (-10) 9).bind fun r21 => (if r21 = 0 then f_X10_weather_J68 a0 a1 a2 a3 a4 a5 m else (f_X10_isIn a5 0 30).bind fun r22 => (if r22 = 0 then f_X10_weather_J68 a0 a1 a2 a3 a4 a5 m else (if m 75 1 = 30 then f_X10_weather_J88 a0 a1 a2 a3 a4 a5 3 m else f_X10_weather_J88 a0 a1 a2 a3 a4 a5 0 m)))))))))
theorem t_X10_weather_J194 {X : jX} (B : jB X cX10_weather RX10 8 SKF.length rm_X10_weather (some .int)) (v6 : Int) (v7 : Int) (s1 : Int) (s2 : Int) (m : jMu) (r : (Int × jMu)) (hf : f_X10_weather_J194 v6 v7 s1 s2 m = some r) (hq : jQ X (.inl (some (jI r.1))) SKF r.2 rm_X10_weather.cells rm_X10_weather.slots) : J X SKF m 0 0 194 [(0, jR 74), (6, jI v6), (7, jI v7)] [jI s2, jI s1, jR 75] := by
  unfold f_X10_weather_J194 at hf
  obtain ⟨g12, hf⟩ := jgd hf
  refine K_iast (lenI := 2083) B rfl rfl g12 (by decide +kernel) ?_
  obtain ⟨m8, hm8, hf⟩ := jlt_s hf
  rw [hm8]
  refine B_blk B jlkX10_ok jcl_SKF [.aload_n 0, .getfield 7, .iload 7, .bipush 6, .iadd, .iload 6] (by decide +kernel) (ls' := [(0, jR 74), (6, jI v6), (7, jI v7)]) (st' := [jI v6, jI (jW (v7 + 6)), jR 75]) rfl (p1 := 206) rfl ?_
  obtain ⟨g11, hf⟩ := jgd hf
  refine K_iast (lenI := 2083) B rfl rfl g11 (by decide +kernel) ?_
  obtain ⟨m9, hm9, hf⟩ := jlt_s hf
  rw [hm9]
  refine B_blk B jlkX10_ok jcl_SKF [.aload_n 0, .getfield 7, .iconst 1, .dup2] (by decide +kernel) (ls' := [(0, jR 74), (6, jI v6), (7, jI v7)]) (st' := [jI 1, jR 75, jI 1, jR 75]) rfl (p1 := 213) rfl ?_
  refine K_iald (lenI := 2083) B rfl rfl (by decide) (by decide +kernel) ?_
  refine B_blk B jlkX10_ok jcl_SKF [.iconst 1, .iadd] (by decide +kernel) (ls' := [(0, jR 74), (6, jI v6), (7, jI v7)]) (st' := [jI (jW (m9 75 1 + 1)), jI 1, jR 75]) rfl (p1 := 216) rfl ?_
  refine K_iast (lenI := 2083) B rfl rfl (by decide) (by decide +kernel) ?_
  obtain ⟨m10, hm10, hf⟩ := jlt_s hf
  rw [hm10]
  refine B_blk B jlkX10_ok jcl_SKF [.aload_n 0, .getfield 7, .iconst 1] (by decide +kernel) (ls' := [(0, jR 74), (6, jI v6), (7, jI v7)]) (st' := [jI 1, jR 75]) rfl (p1 := 222) rfl ?_
  refine K_iald (lenI := 2083) B rfl rfl (by decide) (by decide +kernel) ?_
  refine B_blk B jlkX10_ok jcl_SKF [.iconst 1, .isub] (by decide +kernel) (ls' := [(0, jR 74), (6, jI v6), (7, jI v7)]) (st' := [jI (jW (m10 75 1 - 1))]) rfl (p1 := 225) rfl ?_
  cases hf
  exact B_retI B hq rfl (Nat.le_of_ble_eq_true rfl) (Nat.le_of_ble_eq_true rfl) (by decide +kernel)
theorem t_X10_weather_J171 {X : jX} (B : jB X cX10_weather RX10 8 SKF.length rm_X10_weather (some .int)) (v5 : Int) (v6 : Int) (v7 : Int) (s1 : Int) (s2 : Int) (m : jMu) (r : (Int × jMu)) (hf : f_X10_weather_J171 v5 v6 v7 s1 s2 m = some r) (hq : jQ X (.inl (some (jI r.1))) SKF r.2 rm_X10_weather.cells rm_X10_weather.slots) : J X SKF m 0 0 171 [(0, jR 74), (5, jI v5), (6, jI v6), (7, jI v7)] [jI s2, jI s1, jR 75] := by
  unfold f_X10_weather_J171 at hf
  obtain ⟨g13, hf⟩ := jgd hf
  refine K_iast (lenI := 2083) B rfl rfl g13 (by decide +kernel) ?_
  obtain ⟨m7, hm7, hf⟩ := jlt_s hf
  rw [hm7]
  refine B_blk B jlkX10_ok jcl_SKF [.aload_n 0, .getfield 7, .iload 7, .iconst 5, .iadd, .iload 5] (by decide +kernel) (ls' := [(0, jR 74), (5, jI v5), (6, jI v6), (7, jI v7)]) (st' := [jI v5, jI (jW (v7 + 5)), jR 75]) rfl (p1 := 182) rfl ?_
  refine J_if_ge B.1 (off := 10) (tgt := 192) (by decide +kernel) (by decide) hf (fun hf => ?_) (fun hf => ?_)
  · refine B_blk B jlkX10_ok jcl_SKF [.iload 5] (by decide +kernel) (ls' := [(0, jR 74), (5, jI v5), (6, jI v6), (7, jI v7)]) (st' := [jI v5, jI (jW (v7 + 5)), jR 75]) rfl (p1 := 194) rfl ?_
    refine J_pick [0, 2, 3] (ls' := [(0, jR 74), (6, jI v6), (7, jI v7)]) rfl ?_
    exact t_X10_weather_J194 B v6 v7 (jW (v7 + 5)) v5 m7 _ hf hq
  · refine B_blk B jlkX10_ok jcl_SKF [.iconst (-1), .iload 5, .isub, .goto 5] (by decide +kernel) (ls' := [(0, jR 74), (5, jI v5), (6, jI v6), (7, jI v7)]) (st' := [jI (jW ((-1) - v5)), jI (jW (v7 + 5)), jR 75]) rfl (p1 := 194) rfl ?_
    refine J_pick [0, 2, 3] (ls' := [(0, jR 74), (6, jI v6), (7, jI v7)]) rfl ?_
    exact t_X10_weather_J194 B v6 v7 (jW (v7 + 5)) (jW ((-1) - v5)) m7 _ hf hq
theorem t_X10_weather_J88 {X : jX} (B : jB X cX10_weather RX10 8 SKF.length rm_X10_weather (some .int)) (v1 : Int) (v2 : Int) (v3 : Int) (v4 : Int) (v5 : Int) (v6 : Int) (s1 : Int) (m : jMu) (r : (Int × jMu)) (hf : f_X10_weather_J88 v1 v2 v3 v4 v5 v6 s1 m = some r) (hq : jQ X (.inl (some (jI r.1))) SKF r.2 rm_X10_weather.cells rm_X10_weather.slots) : J X SKF m 0 0 88 [(0, jR 74), (1, jI v1), (2, jI v2), (3, jI v3), (4, jI v4), (5, jI v5), (6, jI v6)] [jI s1, jR 74] := by
  unfold f_X10_weather_J88 at hf
  refine K_putI (jI' := 0) B jp_X10_51 rfl rfl rfl (by decide +kernel) ?_
  obtain ⟨m2, hm2, hf⟩ := jlt_s hf
  rw [hm2]
  refine B_blk B jlkX10_ok jcl_SKF [.aload_n 0, .getfield 51] (by decide +kernel) (ls' := [(0, jR 74), (1, jI v1), (2, jI v2), (3, jI v3), (4, jI v4), (5, jI v5), (6, jI v6)]) (st' := [jI (m2 74 0)]) rfl (p1 := 95) rfl ?_
  refine J_if_le B.1 (off := 5) (tgt := 100) (by decide +kernel) (by decide) hf (fun hf => ?_) (fun hf => ?_)
  · refine B_blk B jlkX10_ok jcl_SKF [.bipush 92, .bipush 7, .aload_n 0, .getfield 7, .iconst 1] (by decide +kernel) (ls' := [(0, jR 74), (1, jI v1), (2, jI v2), (3, jI v3), (4, jI v4), (5, jI v5), (6, jI v6)]) (st' := [jI 1, jR 75, jI 7, jI 92]) rfl (p1 := 109) rfl ?_
    refine K_iald (lenI := 2083) B rfl rfl (by decide) (by decide +kernel) ?_
    refine B_blk B jlkX10_ok jcl_SKF [.imul, .iadd, .istore 7, .aload_n 0, .getfield 7, .iload 7, .iload_n 1] (by decide +kernel) (ls' := [(0, jR 74), (1, jI v1), (2, jI v2), (3, jI v3), (4, jI v4), (5, jI v5), (6, jI v6), (7, jI (jW (92 + jW (7 * m2 75 1))))]) (st' := [jI v1, jI (jW (92 + jW (7 * m2 75 1))), jR 75]) rfl (p1 := 121) rfl ?_
    obtain ⟨g17, hf⟩ := jgd hf
    refine K_iast (lenI := 2083) B rfl rfl g17 (by decide +kernel) ?_
    obtain ⟨m3, hm3, hf⟩ := jlt_s hf
    rw [hm3]
    refine B_blk B jlkX10_ok jcl_SKF [.aload_n 0, .getfield 7, .iload 7, .iconst 1, .iadd, .iload_n 2] (by decide +kernel) (ls' := [(0, jR 74), (1, jI v1), (2, jI v2), (3, jI v3), (4, jI v4), (5, jI v5), (6, jI v6), (7, jI (jW (92 + jW (7 * m2 75 1))))]) (st' := [jI v2, jI (jW (jW (92 + jW (7 * m2 75 1)) + 1)), jR 75]) rfl (p1 := 131) rfl ?_
    obtain ⟨g16, hf⟩ := jgd hf
    refine K_iast (lenI := 2083) B rfl rfl g16 (by decide +kernel) ?_
    obtain ⟨m4, hm4, hf⟩ := jlt_s hf
    rw [hm4]
    refine B_blk B jlkX10_ok jcl_SKF [.aload_n 0, .getfield 7, .iload 7, .iconst 2, .iadd, .iload_n 3] (by decide +kernel) (ls' := [(0, jR 74), (1, jI v1), (2, jI v2), (3, jI v3), (4, jI v4), (5, jI v5), (6, jI v6), (7, jI (jW (92 + jW (7 * m2 75 1))))]) (st' := [jI v3, jI (jW (jW (92 + jW (7 * m2 75 1)) + 2)), jR 75]) rfl (p1 := 141) rfl ?_
    obtain ⟨g15, hf⟩ := jgd hf
    refine K_iast (lenI := 2083) B rfl rfl g15 (by decide +kernel) ?_
    obtain ⟨m5, hm5, hf⟩ := jlt_s hf
    rw [hm5]
    refine B_blk B jlkX10_ok jcl_SKF [.aload_n 0, .getfield 7, .iload 7, .iconst 3, .iadd, .iload 4] (by decide +kernel) (ls' := [(0, jR 74), (1, jI v1), (2, jI v2), (3, jI v3), (4, jI v4), (5, jI v5), (6, jI v6), (7, jI (jW (92 + jW (7 * m2 75 1))))]) (st' := [jI v4, jI (jW (jW (92 + jW (7 * m2 75 1)) + 3)), jR 75]) rfl (p1 := 152) rfl ?_
    obtain ⟨g14, hf⟩ := jgd hf
    refine K_iast (lenI := 2083) B rfl rfl g14 (by decide +kernel) ?_
    obtain ⟨m6, hm6, hf⟩ := jlt_s hf
    rw [hm6]
    refine B_blk B jlkX10_ok jcl_SKF [.aload_n 0, .getfield 7, .iload 7, .iconst 4, .iadd, .iload 5] (by decide +kernel) (ls' := [(0, jR 74), (1, jI v1), (2, jI v2), (3, jI v3), (4, jI v4), (5, jI v5), (6, jI v6), (7, jI (jW (92 + jW (7 * m2 75 1))))]) (st' := [jI v5, jI (jW (jW (92 + jW (7 * m2 75 1)) + 4)), jR 75]) rfl (p1 := 163) rfl ?_
    refine J_if_ge B.1 (off := 7) (tgt := 170) (by decide +kernel) (by decide) hf (fun hf => ?_) (fun hf => ?_)
    · refine B_blk B jlkX10_ok jcl_SKF [.iconst 0] (by decide +kernel) (ls' := [(0, jR 74), (1, jI v1), (2, jI v2), (3, jI v3), (4, jI v4), (5, jI v5), (6, jI v6), (7, jI (jW (92 + jW (7 * m2 75 1))))]) (st' := [jI 0, jI (jW (jW (92 + jW (7 * m2 75 1)) + 4)), jR 75]) rfl (p1 := 171) rfl ?_
      refine J_pick [0, 5, 6, 7] (ls' := [(0, jR 74), (5, jI v5), (6, jI v6), (7, jI (jW (92 + jW (7 * m2 75 1))))]) rfl ?_
      exact t_X10_weather_J171 B v5 v6 (jW (92 + jW (7 * m2 75 1))) (jW (jW (92 + jW (7 * m2 75 1)) + 4)) 0 m6 _ hf hq
    · refine B_blk B jlkX10_ok jcl_SKF [.iconst 1, .goto 4] (by decide +kernel) (ls' := [(0, jR 74), (1, jI v1), (2, jI v2), (3, jI v3), (4, jI v4), (5, jI v5), (6, jI v6), (7, jI (jW (92 + jW (7 * m2 75 1))))]) (st' := [jI 1, jI (jW (jW (92 + jW (7 * m2 75 1)) + 4)), jR 75]) rfl (p1 := 171) rfl ?_
      refine J_pick [0, 5, 6, 7] (ls' := [(0, jR 74), (5, jI v5), (6, jI v6), (7, jI (jW (92 + jW (7 * m2 75 1))))]) rfl ?_
      exact t_X10_weather_J171 B v5 v6 (jW (92 + jW (7 * m2 75 1))) (jW (jW (92 + jW (7 * m2 75 1)) + 4)) 1 m6 _ hf hq
  · refine B_blk B jlkX10_ok jcl_SKF [.iconst 0] (by decide +kernel) (ls' := [(0, jR 74), (1, jI v1), (2, jI v2), (3, jI v3), (4, jI v4), (5, jI v5), (6, jI v6)]) (st' := [jI 0]) rfl (p1 := 99) rfl ?_
    cases hf
    exact B_retI B hq rfl (Nat.le_of_ble_eq_true rfl) (Nat.le_of_ble_eq_true rfl) (by decide +kernel)
theorem t_X10_weather_J30 {X : jX} (B : jB X cX10_weather RX10 8 SKF.length rm_X10_weather (some .int)) (v1 : Int) (v2 : Int) (v3 : Int) (v4 : Int) (v5 : Int) (v6 : Int) (m : jMu) (r : (Int × jMu)) (hf : f_X10_weather_J30 v1 v2 v3 v4 v5 v6 m = some r) (hq : jQ X (.inl (some (jI r.1))) SKF r.2 rm_X10_weather.cells rm_X10_weather.slots) : J X SKF m 0 0 30 [(0, jR 74), (1, jI v1), (2, jI v2), (3, jI v3), (4, jI v4), (5, jI v5), (6, jI v6)] [jR 74] := by
  unfold f_X10_weather_J30 at hf
  refine B_blk B jlkX10_ok jcl_SKF [.iconst 1, .goto 57] (by decide +kernel) (ls' := [(0, jR 74), (1, jI v1), (2, jI v2), (3, jI v3), (4, jI v4), (5, jI v5), (6, jI v6)]) (st' := [jI 1, jR 74]) rfl (p1 := 88) rfl ?_
  exact t_X10_weather_J88 B v1 v2 v3 v4 v5 v6 1 m _ hf hq
theorem t_X10_weather_J68 {X : jX} (B : jB X cX10_weather RX10 8 SKF.length rm_X10_weather (some .int)) (v1 : Int) (v2 : Int) (v3 : Int) (v4 : Int) (v5 : Int) (v6 : Int) (m : jMu) (r : (Int × jMu)) (hf : f_X10_weather_J68 v1 v2 v3 v4 v5 v6 m = some r) (hq : jQ X (.inl (some (jI r.1))) SKF r.2 rm_X10_weather.cells rm_X10_weather.slots) : J X SKF m 0 0 68 [(0, jR 74), (1, jI v1), (2, jI v2), (3, jI v3), (4, jI v4), (5, jI v5), (6, jI v6)] [jR 74] := by
  unfold f_X10_weather_J68 at hf
  refine B_blk B jlkX10_ok jcl_SKF [.iconst 2, .goto 19] (by decide +kernel) (ls' := [(0, jR 74), (1, jI v1), (2, jI v2), (3, jI v3), (4, jI v4), (5, jI v5), (6, jI v6)]) (st' := [jI 2, jR 74]) rfl (p1 := 88) rfl ?_
  exact t_X10_weather_J88 B v1 v2 v3 v4 v5 v6 2 m _ hf hq
theorem t_X10_weather {l : Launch} {G : jG} (hl : l.stackTraces = false) {a0 : Int} {a1 : Int} {a2 : Int} {a3 : Int} {a4 : Int} {a5 : Int} {m : jMu} {r : (Int × jMu)} (hf : f_X10_weather a0 a1 a2 a3 a4 a5 m = some r) : jCt l G yX10_weather (.code yX10_weather cX10_weather 8 (some .int) :: jWG) rm_X10_weather [jR 74, jI a0, jI a1, jI a2, jI a3, jI a4, jI a5] SKF m (.inl (some (jI r.1))) SKF r.2 := by
  unfold f_X10_weather at hf
  refine J_start (ls0 := [(0, jR 74), (1, jI a0), (2, jI a1), (3, jI a2), (4, jI a3), (5, jI a4), (6, jI a5)]) (by decide +kernel) hl (Nat.le_of_ble_eq_true rfl) rfl fun X C hN hn hR hr hnm hno hq => ?_
  have B : jB X cX10_weather RX10 8 SKF.length rm_X10_weather (some .int) := ⟨C, hN, Nat.le_of_eq hn, hR, hr⟩
  refine B_blk B jlkX10_ok jcl_SKF [.aload_n 0, .iload_n 1] (by decide +kernel) (ls' := [(0, jR 74), (1, jI a0), (2, jI a1), (3, jI a2), (4, jI a3), (5, jI a4), (6, jI a5)]) (st' := [jI a0, jR 74]) rfl (p1 := 2) rfl ?_
  obtain ⟨r1, h1, hf⟩ := jbd hf
  refine B_callS B (Nat.le_refl _) (μ' := m) (k' := 0) (n' := 0) ca_X10_isDay sa_X10_isDay lk_X10_209 (t_X10_isDay B.tr jcl_SKF h1) (Nat.le_refl _) rfl (rest := [jR 74]) rfl rfl (Nat.le_of_ble_eq_true rfl) (by decide +kernel) rfl rfl (st' := [jI r1, jR 74]) rfl ?_
  refine J_if_eq B.1 (off := 25) (tgt := 30) (by decide +kernel) (by decide) hf (fun hf => ?_) (fun hf => ?_)
  · exact t_X10_weather_J30 B a0 a1 a2 a3 a4 a5 m _ hf hq
  · refine B_blk B jlkX10_ok jcl_SKF [.iload_n 2] (by decide +kernel) (ls' := [(0, jR 74), (1, jI a0), (2, jI a1), (3, jI a2), (4, jI a3), (5, jI a4), (6, jI a5)]) (st' := [jI a1, jR 74]) rfl (p1 := 9) rfl ?_
    obtain ⟨r18, h18, hf⟩ := jbd hf
    refine B_callS B (Nat.le_refl _) (μ' := m) (k' := 0) (n' := 0) ca_X10_isDay sa_X10_isDay lk_X10_209 (t_X10_isDay B.tr jcl_SKF h18) (Nat.le_refl _) rfl (rest := [jR 74]) rfl rfl (Nat.le_of_ble_eq_true rfl) (by decide +kernel) rfl rfl (st' := [jI r18, jR 74]) rfl ?_
    refine J_if_eq B.1 (off := 18) (tgt := 30) (by decide +kernel) (by decide) hf (fun hf => ?_) (fun hf => ?_)
    · exact t_X10_weather_J30 B a0 a1 a2 a3 a4 a5 m _ hf hq
    · refine B_blk B jlkX10_ok jcl_SKF [.iload_n 3] (by decide +kernel) (ls' := [(0, jR 74), (1, jI a0), (2, jI a1), (3, jI a2), (4, jI a3), (5, jI a4), (6, jI a5)]) (st' := [jI a2, jR 74]) rfl (p1 := 16) rfl ?_
      obtain ⟨r19, h19, hf⟩ := jbd hf
      refine B_callS B (Nat.le_refl _) (μ' := m) (k' := 0) (n' := 0) ca_X10_isHour sa_X10_isHour lk_X10_212 (t_X10_isHour B.tr jcl_SKF h19) (Nat.le_refl _) rfl (rest := [jR 74]) rfl rfl (Nat.le_of_ble_eq_true rfl) (by decide +kernel) rfl rfl (st' := [jI r19, jR 74]) rfl ?_
      refine J_if_eq B.1 (off := 11) (tgt := 30) (by decide +kernel) (by decide) hf (fun hf => ?_) (fun hf => ?_)
      · exact t_X10_weather_J30 B a0 a1 a2 a3 a4 a5 m _ hf hq
      · refine B_blk B jlkX10_ok jcl_SKF [.iload 4] (by decide +kernel) (ls' := [(0, jR 74), (1, jI a0), (2, jI a1), (3, jI a2), (4, jI a3), (5, jI a4), (6, jI a5)]) (st' := [jI a3, jR 74]) rfl (p1 := 24) rfl ?_
        obtain ⟨r20, h20, hf⟩ := jbd hf
        refine B_callS B (Nat.le_refl _) (μ' := m) (k' := 0) (n' := 0) ca_X10_isHour sa_X10_isHour lk_X10_212 (t_X10_isHour B.tr jcl_SKF h20) (Nat.le_refl _) rfl (rest := [jR 74]) rfl rfl (Nat.le_of_ble_eq_true rfl) (by decide +kernel) rfl rfl (st' := [jI r20, jR 74]) rfl ?_
        refine J_if_ne B.1 (off := 7) (tgt := 34) (by decide +kernel) (by decide) hf (fun hf => ?_) (fun hf => ?_)
        · exact t_X10_weather_J30 B a0 a1 a2 a3 a4 a5 m _ hf hq
        · refine B_blk B jlkX10_ok jcl_SKF [.iload_n 2, .iload_n 1] (by decide +kernel) (ls' := [(0, jR 74), (1, jI a0), (2, jI a1), (3, jI a2), (4, jI a3), (5, jI a4), (6, jI a5)]) (st' := [jI a0, jI a1, jR 74]) rfl (p1 := 36) rfl ?_
          refine J_icmp_lt B.1 (off := 32) (tgt := 68) (by decide +kernel) (by decide) hf (fun hf => ?_) (fun hf => ?_)
          · exact t_X10_weather_J68 B a0 a1 a2 a3 a4 a5 m _ hf hq
          · refine B_blk B jlkX10_ok jcl_SKF [.iload 4, .iload_n 3] (by decide +kernel) (ls' := [(0, jR 74), (1, jI a0), (2, jI a1), (3, jI a2), (4, jI a3), (5, jI a4), (6, jI a5)]) (st' := [jI a2, jI a3, jR 74]) rfl (p1 := 42) rfl ?_
            refine J_icmp_lt B.1 (off := 26) (tgt := 68) (by decide +kernel) (by decide) hf (fun hf => ?_) (fun hf => ?_)
            · exact t_X10_weather_J68 B a0 a1 a2 a3 a4 a5 m _ hf hq
            · refine B_blk B jlkX10_ok jcl_SKF [.iload 5, .bipush (-10), .bipush 9] (by decide +kernel) (ls' := [(0, jR 74), (1, jI a0), (2, jI a1), (3, jI a2), (4, jI a3), (5, jI a4), (6, jI a5)]) (st' := [jI 9, jI (-10), jI a4, jR 74]) rfl (p1 := 51) rfl ?_
              obtain ⟨r21, h21, hf⟩ := jbd hf
              refine B_callS B (Nat.le_refl _) (μ' := m) (k' := 0) (n' := 0) ca_X10_isIn sa_X10_isIn lk_X10_54 (t_X10_isIn B.tr jcl_SKF h21) (Nat.le_refl _) rfl (rest := [jR 74]) rfl rfl (Nat.le_of_ble_eq_true rfl) (by decide +kernel) rfl rfl (st' := [jI r21, jR 74]) rfl ?_
              refine J_if_eq B.1 (off := 14) (tgt := 68) (by decide +kernel) (by decide) hf (fun hf => ?_) (fun hf => ?_)
              · exact t_X10_weather_J68 B a0 a1 a2 a3 a4 a5 m _ hf hq
              · refine B_blk B jlkX10_ok jcl_SKF [.iload 6, .iconst 0, .bipush 30] (by decide +kernel) (ls' := [(0, jR 74), (1, jI a0), (2, jI a1), (3, jI a2), (4, jI a3), (5, jI a4), (6, jI a5)]) (st' := [jI 30, jI 0, jI a5, jR 74]) rfl (p1 := 62) rfl ?_
                obtain ⟨r22, h22, hf⟩ := jbd hf
                refine B_callS B (Nat.le_refl _) (μ' := m) (k' := 0) (n' := 0) ca_X10_isIn sa_X10_isIn lk_X10_54 (t_X10_isIn B.tr jcl_SKF h22) (Nat.le_refl _) rfl (rest := [jR 74]) rfl rfl (Nat.le_of_ble_eq_true rfl) (by decide +kernel) rfl rfl (st' := [jI r22, jR 74]) rfl ?_
                refine J_if_ne B.1 (off := 7) (tgt := 72) (by decide +kernel) (by decide) hf (fun hf => ?_) (fun hf => ?_)
                · exact t_X10_weather_J68 B a0 a1 a2 a3 a4 a5 m _ hf hq
                · refine B_blk B jlkX10_ok jcl_SKF [.aload_n 0, .getfield 7, .iconst 1] (by decide +kernel) (ls' := [(0, jR 74), (1, jI a0), (2, jI a1), (3, jI a2), (4, jI a3), (5, jI a4), (6, jI a5)]) (st' := [jI 1, jR 75, jR 74]) rfl (p1 := 77) rfl ?_
                  refine K_iald (lenI := 2083) B rfl rfl (by decide) (by decide +kernel) ?_
                  refine B_blk B jlkX10_ok jcl_SKF [.bipush 30] (by decide +kernel) (ls' := [(0, jR 74), (1, jI a0), (2, jI a1), (3, jI a2), (4, jI a3), (5, jI a4), (6, jI a5)]) (st' := [jI 30, jI (m 75 1), jR 74]) rfl (p1 := 80) rfl ?_
                  refine J_icmp_ne B.1 (off := 7) (tgt := 87) (by decide +kernel) (by decide) hf (fun hf => ?_) (fun hf => ?_)
                  · refine B_blk B jlkX10_ok jcl_SKF [.iconst 3, .goto 4] (by decide +kernel) (ls' := [(0, jR 74), (1, jI a0), (2, jI a1), (3, jI a2), (4, jI a3), (5, jI a4), (6, jI a5)]) (st' := [jI 3, jR 74]) rfl (p1 := 88) rfl ?_
                    exact t_X10_weather_J88 B a0 a1 a2 a3 a4 a5 3 m _ hf hq
                  · refine B_blk B jlkX10_ok jcl_SKF [.iconst 0] (by decide +kernel) (ls' := [(0, jR 74), (1, jI a0), (2, jI a1), (3, jI a2), (4, jI a3), (5, jI a4), (6, jI a5)]) (st' := [jI 0, jR 74]) rfl (p1 := 88) rfl ?_
                    exact t_X10_weather_J88 B a0 a1 a2 a3 a4 a5 0 m _ hf hq

def rm_X10_trains : Room := { frames := 4, cells := 0, slots := 0, locals := 86 }
def f_X10_trains (a0 : Int) (m : jMu) : Option jMu :=
  (f_X10_isIn a0 0 4095).bind fun r1 => (if r1 = 0 then (jlt (jup m 74 0 1) fun m2 => (if m2 74 0 ≤ 0 then (jlt (jup m2 75 12 a0) fun m3 => some m3) else some m2)) else (jlt (jup m 74 0 0) fun m4 => (if m4 74 0 ≤ 0 then (jlt (jup m4 75 12 a0) fun m5 => some m5) else some m4)))
theorem t_X10_trains {l : Launch} {G : jG} (hl : l.stackTraces = false) {a0 : Int} {m : jMu} {r : jMu} (hf : f_X10_trains a0 m = some r) : jCt l G yX10_trains (.code yX10_trains cX10_trains 2 none :: jWG) rm_X10_trains [jR 74, jI a0] SKF m (.inl none) SKF r := by
  unfold f_X10_trains at hf
  refine J_start (ls0 := [(0, jR 74), (1, jI a0)]) (by decide +kernel) hl (Nat.le_of_ble_eq_true rfl) rfl fun X C hN hn hR hr hnm hno hq => ?_
  have B : jB X cX10_trains RX10 2 SKF.length rm_X10_trains none := ⟨C, hN, Nat.le_of_eq hn, hR, hr⟩
  refine B_blk B jlkX10_ok jcl_SKF [.aload_n 0, .iload_n 1, .iconst 0, .sipush 4095] (by decide +kernel) (ls' := [(0, jR 74), (1, jI a0)]) (st' := [jI 4095, jI 0, jI a0, jR 74]) rfl (p1 := 6) rfl ?_
  obtain ⟨r1, h1, hf⟩ := jbd hf
  refine B_callS B (Nat.le_refl _) (μ' := m) (k' := 0) (n' := 0) ca_X10_isIn sa_X10_isIn lk_X10_54 (t_X10_isIn B.tr jcl_SKF h1) (Nat.le_refl _) rfl (rest := [jR 74]) rfl rfl (Nat.le_of_ble_eq_true rfl) (by decide +kernel) rfl rfl (st' := [jI r1, jR 74]) rfl ?_
  refine J_if_ne B.1 (off := 7) (tgt := 16) (by decide +kernel) (by decide) hf (fun hf => ?_) (fun hf => ?_)
  · refine B_blk B jlkX10_ok jcl_SKF [.iconst 1, .goto 4] (by decide +kernel) (ls' := [(0, jR 74), (1, jI a0)]) (st' := [jI 1, jR 74]) rfl (p1 := 17) rfl ?_
    refine K_putI (jI' := 0) B jp_X10_51 rfl rfl rfl (by decide +kernel) ?_
    obtain ⟨m2, hm2, hf⟩ := jlt_s hf
    rw [hm2]
    refine B_blk B jlkX10_ok jcl_SKF [.aload_n 0, .getfield 51] (by decide +kernel) (ls' := [(0, jR 74), (1, jI a0)]) (st' := [jI (m2 74 0)]) rfl (p1 := 24) rfl ?_
    refine J_if_le B.1 (off := 4) (tgt := 28) (by decide +kernel) (by decide) hf (fun hf => ?_) (fun hf => ?_)
    · refine B_blk B jlkX10_ok jcl_SKF [.aload_n 0, .getfield 7, .bipush 12, .iload_n 1] (by decide +kernel) (ls' := [(0, jR 74), (1, jI a0)]) (st' := [jI a0, jI 12, jR 75]) rfl (p1 := 35) rfl ?_
      refine K_iast (lenI := 2083) B rfl rfl (by decide) (by decide +kernel) ?_
      obtain ⟨m3, hm3, hf⟩ := jlt_s hf
      rw [hm3]
      cases hf
      exact B_retV B hq rfl (Nat.le_of_ble_eq_true rfl) (Nat.le_of_ble_eq_true rfl) (by decide +kernel)
    · cases hf
      exact B_retV B hq rfl (Nat.le_of_ble_eq_true rfl) (Nat.le_of_ble_eq_true rfl) (by decide +kernel)
  · refine B_blk B jlkX10_ok jcl_SKF [.iconst 0] (by decide +kernel) (ls' := [(0, jR 74), (1, jI a0)]) (st' := [jI 0, jR 74]) rfl (p1 := 17) rfl ?_
    refine K_putI (jI' := 0) B jp_X10_51 rfl rfl rfl (by decide +kernel) ?_
    obtain ⟨m4, hm4, hf⟩ := jlt_s hf
    rw [hm4]
    refine B_blk B jlkX10_ok jcl_SKF [.aload_n 0, .getfield 51] (by decide +kernel) (ls' := [(0, jR 74), (1, jI a0)]) (st' := [jI (m4 74 0)]) rfl (p1 := 24) rfl ?_
    refine J_if_le B.1 (off := 4) (tgt := 28) (by decide +kernel) (by decide) hf (fun hf => ?_) (fun hf => ?_)
    · refine B_blk B jlkX10_ok jcl_SKF [.aload_n 0, .getfield 7, .bipush 12, .iload_n 1] (by decide +kernel) (ls' := [(0, jR 74), (1, jI a0)]) (st' := [jI a0, jI 12, jR 75]) rfl (p1 := 35) rfl ?_
      refine K_iast (lenI := 2083) B rfl rfl (by decide) (by decide +kernel) ?_
      obtain ⟨m5, hm5, hf⟩ := jlt_s hf
      rw [hm5]
      cases hf
      exact B_retV B hq rfl (Nat.le_of_ble_eq_true rfl) (Nat.le_of_ble_eq_true rfl) (by decide +kernel)
    · cases hf
      exact B_retV B hq rfl (Nat.le_of_ble_eq_true rfl) (Nat.le_of_ble_eq_true rfl) (by decide +kernel)

def rm_X10_span : Room := { frames := 6, cells := 0, slots := 0, locals := 106 }
def f_X10_span_J89 (v2 : Int) (v3 : Int) (v4 : Int) (s0 : Int) (m : jMu) : Option (Int × jMu) :=
  (if 0 ≤ v4 ∧ v4 < 2083 then (if 0 ≤ jW (s0 + jW (2 * m 75 v4)) ∧ jW (s0 + jW (2 * m 75 v4)) < 2083 then (jlt (jup m 75 (jW (s0 + jW (2 * m 75 v4))) v2) fun m3 => (if 0 ≤ jW (jW (s0 + jW (2 * m 75 v4)) + 1) ∧ jW (jW (s0 + jW (2 * m 75 v4)) + 1) < 2083 then (jlt (jup m3 75 (jW (jW (s0 + jW (2 * m 75 v4)) + 1)) v3) fun m4 => (if 0 ≤ v4 ∧ v4 < 2083 then (if 0 ≤ v4 ∧ v4 < 2083 then (jlt (jup m4 75 v4 (jW (m4 75 v4 + 1))) fun m5 => (if 0 ≤ v4 ∧ v4 < 2083 then some (m5 75 v4, m5) else none)) else none) else none)) else none)) else none) else none)
def f_X10_span_J64 (v1 : Int) (v2 : Int) (v3 : Int) (v4 : Int) (s1 : Int) (m : jMu) : Option (Int × jMu) :=
  (jlt (jup m 74 0 s1) fun m2 => (if m2 74 0 ≤ 0 then (if v1 = 0 then f_X10_span_J89 v2 v3 v4 302 m2 else f_X10_span_J89 v2 v3 v4 314 m2) else some (0, m2)))
def f_X10_span_J26 (v1 : Int) (v2 : Int) (v3 : Int) (v4 : Int) (m : jMu) : Option (Int × jMu) :=
  f_X10_span_J64 v1 v2 v3 v4 1 m
def f_X10_span_J56 (v1 : Int) (v2 : Int) (v3 : Int) (v4 : Int) (s1 : Int) (s2 : Int) (m : jMu) : Option (Int × jMu) :=
  (if s1 = s2 then f_X10_span_J64 v1 v2 v3 v4 3 m else f_X10_span_J64 v1 v2 v3 v4 0 m)
def f_X10_span_J9 (v1 : Int) (v2 : Int) (v3 : Int) (s0 : Int) (m : jMu) : Option (Int × jMu) :=
  (f_X10_isDay v2).bind fun r1 => (if r1 = 0 then f_X10_span_J26 v1 v2 v3 s0 m else (f_X10_isDay v3).bind fun r12 => (if r12 = 0 then f_X10_span_J26 v1 v2 v3 s0 m else (if v2 ≤ v3 then (if 0 ≤ s0 ∧ s0 < 2083 then (if v1 = 0 then f_X10_span_J56 v1 v2 v3 s0 (m 75 s0) 6 m else f_X10_span_J56 v1 v2 v3 s0 (m 75 s0) 5 m) else none) else f_X10_span_J64 v1 v2 v3 s0 2 m)))
def f_X10_span (a0 : Int) (a1 : Int) (a2 : Int) (m : jMu) : Option (Int × jMu) :=
  (if a0 = 0 then f_X10_span_J9 a0 a1 a2 2 m else f_X10_span_J9 a0 a1 a2 3 m)
theorem t_X10_span_J89 {X : jX} (B : jB X cX10_span RX10 6 SKF.length rm_X10_span (some .int)) (v2 : Int) (v3 : Int) (v4 : Int) (s0 : Int) (m : jMu) (r : (Int × jMu)) (hf : f_X10_span_J89 v2 v3 v4 s0 m = some r) (hq : jQ X (.inl (some (jI r.1))) SKF r.2 rm_X10_span.cells rm_X10_span.slots) : J X SKF m 0 0 89 [(0, jR 74), (2, jI v2), (3, jI v3), (4, jI v4)] [jI s0] := by
  unfold f_X10_span_J89 at hf
  refine B_blk B jlkX10_ok jcl_SKF [.iconst 2, .aload_n 0, .getfield 7, .iload 4] (by decide +kernel) (ls' := [(0, jR 74), (2, jI v2), (3, jI v3), (4, jI v4)]) (st' := [jI v4, jR 75, jI 2, jI s0]) rfl (p1 := 96) rfl ?_
  obtain ⟨g11, hf⟩ := jgd hf
  refine K_iald (lenI := 2083) B rfl rfl g11 (by decide +kernel) ?_
  refine B_blk B jlkX10_ok jcl_SKF [.imul, .iadd, .istore 5, .aload_n 0, .getfield 7, .iload 5, .iload_n 2] (by decide +kernel) (ls' := [(0, jR 74), (2, jI v2), (3, jI v3), (4, jI v4), (5, jI (jW (s0 + jW (2 * m 75 v4))))]) (st' := [jI v2, jI (jW (s0 + jW (2 * m 75 v4))), jR 75]) rfl (p1 := 108) rfl ?_
  obtain ⟨g10, hf⟩ := jgd hf
  refine K_iast (lenI := 2083) B rfl rfl g10 (by decide +kernel) ?_
  obtain ⟨m3, hm3, hf⟩ := jlt_s hf
  rw [hm3]
  refine B_blk B jlkX10_ok jcl_SKF [.aload_n 0, .getfield 7, .iload 5, .iconst 1, .iadd, .iload_n 3] (by decide +kernel) (ls' := [(0, jR 74), (2, jI v2), (3, jI v3), (4, jI v4), (5, jI (jW (s0 + jW (2 * m 75 v4))))]) (st' := [jI v3, jI (jW (jW (s0 + jW (2 * m 75 v4)) + 1)), jR 75]) rfl (p1 := 118) rfl ?_
  obtain ⟨g9, hf⟩ := jgd hf
  refine K_iast (lenI := 2083) B rfl rfl g9 (by decide +kernel) ?_
  obtain ⟨m4, hm4, hf⟩ := jlt_s hf
  rw [hm4]
  refine B_blk B jlkX10_ok jcl_SKF [.aload_n 0, .getfield 7, .iload 4, .dup2] (by decide +kernel) (ls' := [(0, jR 74), (2, jI v2), (3, jI v3), (4, jI v4), (5, jI (jW (s0 + jW (2 * m 75 v4))))]) (st' := [jI v4, jR 75, jI v4, jR 75]) rfl (p1 := 126) rfl ?_
  obtain ⟨g8, hf⟩ := jgd hf
  refine K_iald (lenI := 2083) B rfl rfl g8 (by decide +kernel) ?_
  refine B_blk B jlkX10_ok jcl_SKF [.iconst 1, .iadd] (by decide +kernel) (ls' := [(0, jR 74), (2, jI v2), (3, jI v3), (4, jI v4), (5, jI (jW (s0 + jW (2 * m 75 v4))))]) (st' := [jI (jW (m4 75 v4 + 1)), jI v4, jR 75]) rfl (p1 := 129) rfl ?_
  obtain ⟨g7, hf⟩ := jgd hf
  refine K_iast (lenI := 2083) B rfl rfl g7 (by decide +kernel) ?_
  obtain ⟨m5, hm5, hf⟩ := jlt_s hf
  rw [hm5]
  refine B_blk B jlkX10_ok jcl_SKF [.aload_n 0, .getfield 7, .iload 4] (by decide +kernel) (ls' := [(0, jR 74), (2, jI v2), (3, jI v3), (4, jI v4), (5, jI (jW (s0 + jW (2 * m 75 v4))))]) (st' := [jI v4, jR 75]) rfl (p1 := 136) rfl ?_
  obtain ⟨g6, hf⟩ := jgd hf
  refine K_iald (lenI := 2083) B rfl rfl g6 (by decide +kernel) ?_
  cases hf
  exact B_retI B hq rfl (Nat.le_of_ble_eq_true rfl) (Nat.le_of_ble_eq_true rfl) (by decide +kernel)
theorem t_X10_span_J64 {X : jX} (B : jB X cX10_span RX10 6 SKF.length rm_X10_span (some .int)) (v1 : Int) (v2 : Int) (v3 : Int) (v4 : Int) (s1 : Int) (m : jMu) (r : (Int × jMu)) (hf : f_X10_span_J64 v1 v2 v3 v4 s1 m = some r) (hq : jQ X (.inl (some (jI r.1))) SKF r.2 rm_X10_span.cells rm_X10_span.slots) : J X SKF m 0 0 64 [(0, jR 74), (1, jI v1), (2, jI v2), (3, jI v3), (4, jI v4)] [jI s1, jR 74] := by
  unfold f_X10_span_J64 at hf
  refine K_putI (jI' := 0) B jp_X10_51 rfl rfl rfl (by decide +kernel) ?_
  obtain ⟨m2, hm2, hf⟩ := jlt_s hf
  rw [hm2]
  refine B_blk B jlkX10_ok jcl_SKF [.aload_n 0, .getfield 51] (by decide +kernel) (ls' := [(0, jR 74), (1, jI v1), (2, jI v2), (3, jI v3), (4, jI v4)]) (st' := [jI (m2 74 0)]) rfl (p1 := 71) rfl ?_
  refine J_if_le B.1 (off := 5) (tgt := 76) (by decide +kernel) (by decide) hf (fun hf => ?_) (fun hf => ?_)
  · refine B_blk B jlkX10_ok jcl_SKF [.iload_n 1] (by decide +kernel) (ls' := [(0, jR 74), (1, jI v1), (2, jI v2), (3, jI v3), (4, jI v4)]) (st' := [jI v1]) rfl (p1 := 77) rfl ?_
    refine J_if_eq B.1 (off := 9) (tgt := 86) (by decide +kernel) (by decide) hf (fun hf => ?_) (fun hf => ?_)
    · refine B_blk B jlkX10_ok jcl_SKF [.sipush 302] (by decide +kernel) (ls' := [(0, jR 74), (1, jI v1), (2, jI v2), (3, jI v3), (4, jI v4)]) (st' := [jI 302]) rfl (p1 := 89) rfl ?_
      refine J_pick [0, 2, 3, 4] (ls' := [(0, jR 74), (2, jI v2), (3, jI v3), (4, jI v4)]) rfl ?_
      exact t_X10_span_J89 B v2 v3 v4 302 m2 _ hf hq
    · refine B_blk B jlkX10_ok jcl_SKF [.sipush 314, .goto 6] (by decide +kernel) (ls' := [(0, jR 74), (1, jI v1), (2, jI v2), (3, jI v3), (4, jI v4)]) (st' := [jI 314]) rfl (p1 := 89) rfl ?_
      refine J_pick [0, 2, 3, 4] (ls' := [(0, jR 74), (2, jI v2), (3, jI v3), (4, jI v4)]) rfl ?_
      exact t_X10_span_J89 B v2 v3 v4 314 m2 _ hf hq
  · refine B_blk B jlkX10_ok jcl_SKF [.iconst 0] (by decide +kernel) (ls' := [(0, jR 74), (1, jI v1), (2, jI v2), (3, jI v3), (4, jI v4)]) (st' := [jI 0]) rfl (p1 := 75) rfl ?_
    cases hf
    exact B_retI B hq rfl (Nat.le_of_ble_eq_true rfl) (Nat.le_of_ble_eq_true rfl) (by decide +kernel)
theorem t_X10_span_J26 {X : jX} (B : jB X cX10_span RX10 6 SKF.length rm_X10_span (some .int)) (v1 : Int) (v2 : Int) (v3 : Int) (v4 : Int) (m : jMu) (r : (Int × jMu)) (hf : f_X10_span_J26 v1 v2 v3 v4 m = some r) (hq : jQ X (.inl (some (jI r.1))) SKF r.2 rm_X10_span.cells rm_X10_span.slots) : J X SKF m 0 0 26 [(0, jR 74), (1, jI v1), (2, jI v2), (3, jI v3), (4, jI v4)] [jR 74] := by
  unfold f_X10_span_J26 at hf
  refine B_blk B jlkX10_ok jcl_SKF [.iconst 1, .goto 37] (by decide +kernel) (ls' := [(0, jR 74), (1, jI v1), (2, jI v2), (3, jI v3), (4, jI v4)]) (st' := [jI 1, jR 74]) rfl (p1 := 64) rfl ?_
  exact t_X10_span_J64 B v1 v2 v3 v4 1 m _ hf hq
theorem t_X10_span_J56 {X : jX} (B : jB X cX10_span RX10 6 SKF.length rm_X10_span (some .int)) (v1 : Int) (v2 : Int) (v3 : Int) (v4 : Int) (s1 : Int) (s2 : Int) (m : jMu) (r : (Int × jMu)) (hf : f_X10_span_J56 v1 v2 v3 v4 s1 s2 m = some r) (hq : jQ X (.inl (some (jI r.1))) SKF r.2 rm_X10_span.cells rm_X10_span.slots) : J X SKF m 0 0 56 [(0, jR 74), (1, jI v1), (2, jI v2), (3, jI v3), (4, jI v4)] [jI s2, jI s1, jR 74] := by
  unfold f_X10_span_J56 at hf
  refine J_icmp_ne B.1 (off := 7) (tgt := 63) (by decide +kernel) (by decide) hf (fun hf => ?_) (fun hf => ?_)
  · refine B_blk B jlkX10_ok jcl_SKF [.iconst 3, .goto 4] (by decide +kernel) (ls' := [(0, jR 74), (1, jI v1), (2, jI v2), (3, jI v3), (4, jI v4)]) (st' := [jI 3, jR 74]) rfl (p1 := 64) rfl ?_
    exact t_X10_span_J64 B v1 v2 v3 v4 3 m _ hf hq
  · refine B_blk B jlkX10_ok jcl_SKF [.iconst 0] (by decide +kernel) (ls' := [(0, jR 74), (1, jI v1), (2, jI v2), (3, jI v3), (4, jI v4)]) (st' := [jI 0, jR 74]) rfl (p1 := 64) rfl ?_
    exact t_X10_span_J64 B v1 v2 v3 v4 0 m _ hf hq
theorem t_X10_span_J9 {X : jX} (B : jB X cX10_span RX10 6 SKF.length rm_X10_span (some .int)) (v1 : Int) (v2 : Int) (v3 : Int) (s0 : Int) (m : jMu) (r : (Int × jMu)) (hf : f_X10_span_J9 v1 v2 v3 s0 m = some r) (hq : jQ X (.inl (some (jI r.1))) SKF r.2 rm_X10_span.cells rm_X10_span.slots) : J X SKF m 0 0 9 [(0, jR 74), (1, jI v1), (2, jI v2), (3, jI v3)] [jI s0] := by
  unfold f_X10_span_J9 at hf
  refine B_blk B jlkX10_ok jcl_SKF [.istore 4, .aload_n 0, .iload_n 2] (by decide +kernel) (ls' := [(0, jR 74), (1, jI v1), (2, jI v2), (3, jI v3), (4, jI s0)]) (st' := [jI v2, jR 74]) rfl (p1 := 13) rfl ?_
  obtain ⟨r1, h1, hf⟩ := jbd hf
  refine B_callS B (Nat.le_refl _) (μ' := m) (k' := 0) (n' := 0) ca_X10_isDay sa_X10_isDay lk_X10_209 (t_X10_isDay B.tr jcl_SKF h1) (Nat.le_refl _) rfl (rest := [jR 74]) rfl rfl (Nat.le_of_ble_eq_true rfl) (by decide +kernel) rfl rfl (st' := [jI r1, jR 74]) rfl ?_
  refine J_if_eq B.1 (off := 10) (tgt := 26) (by decide +kernel) (by decide) hf (fun hf => ?_) (fun hf => ?_)
  · exact t_X10_span_J26 B v1 v2 v3 s0 m _ hf hq
  · refine B_blk B jlkX10_ok jcl_SKF [.iload_n 3] (by decide +kernel) (ls' := [(0, jR 74), (1, jI v1), (2, jI v2), (3, jI v3), (4, jI s0)]) (st' := [jI v3, jR 74]) rfl (p1 := 20) rfl ?_
    obtain ⟨r12, h12, hf⟩ := jbd hf
    refine B_callS B (Nat.le_refl _) (μ' := m) (k' := 0) (n' := 0) ca_X10_isDay sa_X10_isDay lk_X10_209 (t_X10_isDay B.tr jcl_SKF h12) (Nat.le_refl _) rfl (rest := [jR 74]) rfl rfl (Nat.le_of_ble_eq_true rfl) (by decide +kernel) rfl rfl (st' := [jI r12, jR 74]) rfl ?_
    refine J_if_ne B.1 (off := 7) (tgt := 30) (by decide +kernel) (by decide) hf (fun hf => ?_) (fun hf => ?_)
    · exact t_X10_span_J26 B v1 v2 v3 s0 m _ hf hq
    · refine B_blk B jlkX10_ok jcl_SKF [.iload_n 3, .iload_n 2] (by decide +kernel) (ls' := [(0, jR 74), (1, jI v1), (2, jI v2), (3, jI v3), (4, jI s0)]) (st' := [jI v2, jI v3, jR 74]) rfl (p1 := 32) rfl ?_
      refine J_icmp_ge B.1 (off := 7) (tgt := 39) (by decide +kernel) (by decide) hf (fun hf => ?_) (fun hf => ?_)
      · refine B_blk B jlkX10_ok jcl_SKF [.aload_n 0, .getfield 7, .iload 4] (by decide +kernel) (ls' := [(0, jR 74), (1, jI v1), (2, jI v2), (3, jI v3), (4, jI s0)]) (st' := [jI s0, jR 75, jR 74]) rfl (p1 := 45) rfl ?_
        obtain ⟨g13, hf⟩ := jgd hf
        refine K_iald (lenI := 2083) B rfl rfl g13 (by decide +kernel) ?_
        refine B_blk B jlkX10_ok jcl_SKF [.iload_n 1] (by decide +kernel) (ls' := [(0, jR 74), (1, jI v1), (2, jI v2), (3, jI v3), (4, jI s0)]) (st' := [jI v1, jI (m 75 s0), jR 74]) rfl (p1 := 47) rfl ?_
        refine J_if_eq B.1 (off := 7) (tgt := 54) (by decide +kernel) (by decide) hf (fun hf => ?_) (fun hf => ?_)
        · refine B_blk B jlkX10_ok jcl_SKF [.bipush 6] (by decide +kernel) (ls' := [(0, jR 74), (1, jI v1), (2, jI v2), (3, jI v3), (4, jI s0)]) (st' := [jI 6, jI (m 75 s0), jR 74]) rfl (p1 := 56) rfl ?_
          exact t_X10_span_J56 B v1 v2 v3 s0 (m 75 s0) 6 m _ hf hq
        · refine B_blk B jlkX10_ok jcl_SKF [.iconst 5, .goto 5] (by decide +kernel) (ls' := [(0, jR 74), (1, jI v1), (2, jI v2), (3, jI v3), (4, jI s0)]) (st' := [jI 5, jI (m 75 s0), jR 74]) rfl (p1 := 56) rfl ?_
          exact t_X10_span_J56 B v1 v2 v3 s0 (m 75 s0) 5 m _ hf hq
      · refine B_blk B jlkX10_ok jcl_SKF [.iconst 2, .goto 28] (by decide +kernel) (ls' := [(0, jR 74), (1, jI v1), (2, jI v2), (3, jI v3), (4, jI s0)]) (st' := [jI 2, jR 74]) rfl (p1 := 64) rfl ?_
        exact t_X10_span_J64 B v1 v2 v3 s0 2 m _ hf hq
theorem t_X10_span {l : Launch} {G : jG} (hl : l.stackTraces = false) {a0 : Int} {a1 : Int} {a2 : Int} {m : jMu} {r : (Int × jMu)} (hf : f_X10_span a0 a1 a2 m = some r) : jCt l G yX10_span (.code yX10_span cX10_span 6 (some .int) :: jWG) rm_X10_span [jR 74, jI a0, jI a1, jI a2] SKF m (.inl (some (jI r.1))) SKF r.2 := by
  unfold f_X10_span at hf
  refine J_start (ls0 := [(0, jR 74), (1, jI a0), (2, jI a1), (3, jI a2)]) (by decide +kernel) hl (Nat.le_of_ble_eq_true rfl) rfl fun X C hN hn hR hr hnm hno hq => ?_
  have B : jB X cX10_span RX10 6 SKF.length rm_X10_span (some .int) := ⟨C, hN, Nat.le_of_eq hn, hR, hr⟩
  refine B_blk B jlkX10_ok jcl_SKF [.iload_n 1] (by decide +kernel) (ls' := [(0, jR 74), (1, jI a0), (2, jI a1), (3, jI a2)]) (st' := [jI a0]) rfl (p1 := 1) rfl ?_
  refine J_if_eq B.1 (off := 7) (tgt := 8) (by decide +kernel) (by decide) hf (fun hf => ?_) (fun hf => ?_)
  · refine B_blk B jlkX10_ok jcl_SKF [.iconst 2] (by decide +kernel) (ls' := [(0, jR 74), (1, jI a0), (2, jI a1), (3, jI a2)]) (st' := [jI 2]) rfl (p1 := 9) rfl ?_
    exact t_X10_span_J9 B a0 a1 a2 2 m _ hf hq
  · refine B_blk B jlkX10_ok jcl_SKF [.iconst 3, .goto 4] (by decide +kernel) (ls' := [(0, jR 74), (1, jI a0), (2, jI a1), (3, jI a2)]) (st' := [jI 3]) rfl (p1 := 9) rfl ?_
    exact t_X10_span_J9 B a0 a1 a2 3 m _ hf hq

def rm_X10_isBay : Room := { frames := 4, cells := 0, slots := 0, locals := 86 }
def f_X10_isBay (a0 : Int) (m : jMu) : Option Int :=
  (f_X10_isIn a0 0 (jW (m 75 0 - 1))).bind fun r1 => (if r1 = 0 ∨ r1 = 1 then some r1 else none)
theorem t_X10_isBay {l : Launch} {G : jG} (hl : l.stackTraces = false) {a0 : Int} {m : jMu} {r : Int} (hf : f_X10_isBay a0 m = some r) : jCt l G yX10_isBay (.code yX10_isBay cX10_isBay 2 (some .boolean) :: jWG) rm_X10_isBay [jR 74, jI a0] SKF m (.inl (some (jI r))) SKF m := by
  unfold f_X10_isBay at hf
  refine J_start (ls0 := [(0, jR 74), (1, jI a0)]) (by decide +kernel) hl (Nat.le_of_ble_eq_true rfl) rfl fun X C hN hn hR hr hnm hno hq => ?_
  have B : jB X cX10_isBay RX10 2 SKF.length rm_X10_isBay (some .boolean) := ⟨C, hN, Nat.le_of_eq hn, hR, hr⟩
  refine B_blk B jlkX10_ok jcl_SKF [.iload_n 1, .iconst 0, .aload_n 0, .getfield 7, .iconst 0] (by decide +kernel) (ls' := [(0, jR 74), (1, jI a0)]) (st' := [jI 0, jR 75, jI 0, jI a0]) rfl (p1 := 7) rfl ?_
  refine K_iald (lenI := 2083) B rfl rfl (by decide) (by decide +kernel) ?_
  refine B_blk B jlkX10_ok jcl_SKF [.iconst 1, .isub] (by decide +kernel) (ls' := [(0, jR 74), (1, jI a0)]) (st' := [jI (jW (m 75 0 - 1)), jI 0, jI a0]) rfl (p1 := 10) rfl ?_
  obtain ⟨r1, h1, hf⟩ := jbd hf
  refine B_callS B (Nat.le_refl _) (μ' := m) (k' := 0) (n' := 0) ca_X10_isIn sa_X10_isIn lk_X10_54 (t_X10_isIn B.tr jcl_SKF h1) (Nat.le_refl _) rfl (rest := []) rfl rfl (Nat.le_of_ble_eq_true rfl) (by decide +kernel) rfl rfl (st' := [jI r1]) rfl ?_
  obtain ⟨gz, hf⟩ := jgd hf
  cases hf
  exact B_retZ B gz hq rfl (Nat.le_of_ble_eq_true rfl) (Nat.le_of_ble_eq_true rfl) (by decide +kernel)

def rm_X10_nest : Room := { frames := 6, cells := 0, slots := 0, locals := 107 }
def f_X10_nest_J52 (v1 : Int) (v2 : Int) (v3 : Int) (s1 : Int) (m : jMu) : Option (Int × jMu) :=
  (jlt (jup m 74 0 s1) fun m2 => (if m2 74 0 ≤ 0 then (if 0 ≤ jW (324 + jW (3 * m2 75 4)) ∧ jW (324 + jW (3 * m2 75 4)) < 2083 then (jlt (jup m2 75 (jW (324 + jW (3 * m2 75 4))) v1) fun m3 => (if 0 ≤ jW (jW (324 + jW (3 * m2 75 4)) + 1) ∧ jW (jW (324 + jW (3 * m2 75 4)) + 1) < 2083 then (jlt (jup m3 75 (jW (jW (324 + jW (3 * m2 75 4)) + 1)) v2) fun m4 => (if 0 ≤ jW (jW (324 + jW (3 * m2 75 4)) + 2) ∧ jW (jW (324 + jW (3 * m2 75 4)) + 2) < 2083 then (jlt (jup m4 75 (jW (jW (324 + jW (3 * m2 75 4)) + 2)) v3) fun m5 => (jlt (jup m5 75 4 (jW (m5 75 4 + 1))) fun m6 => some (jW (m6 75 4 - 1), m6))) else none)) else none)) else none) else some (0, m2)))
def f_X10_nest_J23 (v1 : Int) (v2 : Int) (v3 : Int) (m : jMu) : Option (Int × jMu) :=
  f_X10_nest_J52 v1 v2 v3 1 m
def f_X10_nest (a0 : Int) (a1 : Int) (a2 : Int) (m : jMu) : Option (Int × jMu) :=
  (f_X10_isBay a0 m).bind fun r1 => (if r1 = 0 then f_X10_nest_J23 a0 a1 a2 m else (f_X10_isDay a1).bind fun r10 => (if r10 = 0 then f_X10_nest_J23 a0 a1 a2 m else (f_X10_isDay a2).bind fun r11 => (if r11 = 0 then f_X10_nest_J23 a0 a1 a2 m else (if a1 ≤ a2 then (if m 75 4 = 8 then f_X10_nest_J52 a0 a1 a2 3 m else f_X10_nest_J52 a0 a1 a2 0 m) else f_X10_nest_J52 a0 a1 a2 2 m))))
theorem t_X10_nest_J52 {X : jX} (B : jB X cX10_nest RX10 5 SKF.length rm_X10_nest (some .int)) (v1 : Int) (v2 : Int) (v3 : Int) (s1 : Int) (m : jMu) (r : (Int × jMu)) (hf : f_X10_nest_J52 v1 v2 v3 s1 m = some r) (hq : jQ X (.inl (some (jI r.1))) SKF r.2 rm_X10_nest.cells rm_X10_nest.slots) : J X SKF m 0 0 52 [(0, jR 74), (1, jI v1), (2, jI v2), (3, jI v3)] [jI s1, jR 74] := by
  unfold f_X10_nest_J52 at hf
  refine K_putI (jI' := 0) B jp_X10_51 rfl rfl rfl (by decide +kernel) ?_
  obtain ⟨m2, hm2, hf⟩ := jlt_s hf
  rw [hm2]
  refine B_blk B jlkX10_ok jcl_SKF [.aload_n 0, .getfield 51] (by decide +kernel) (ls' := [(0, jR 74), (1, jI v1), (2, jI v2), (3, jI v3)]) (st' := [jI (m2 74 0)]) rfl (p1 := 59) rfl ?_
  refine J_if_le B.1 (off := 5) (tgt := 64) (by decide +kernel) (by decide) hf (fun hf => ?_) (fun hf => ?_)
  · refine B_blk B jlkX10_ok jcl_SKF [.sipush 324, .iconst 3, .aload_n 0, .getfield 7, .iconst 4] (by decide +kernel) (ls' := [(0, jR 74), (1, jI v1), (2, jI v2), (3, jI v3)]) (st' := [jI 4, jR 75, jI 3, jI 324]) rfl (p1 := 73) rfl ?_
    refine K_iald (lenI := 2083) B rfl rfl (by decide) (by decide +kernel) ?_
    refine B_blk B jlkX10_ok jcl_SKF [.imul, .iadd, .istore 4, .aload_n 0, .getfield 7, .iload 4, .iload_n 1] (by decide +kernel) (ls' := [(0, jR 74), (1, jI v1), (2, jI v2), (3, jI v3), (4, jI (jW (324 + jW (3 * m2 75 4))))]) (st' := [jI v1, jI (jW (324 + jW (3 * m2 75 4))), jR 75]) rfl (p1 := 85) rfl ?_
    obtain ⟨g9, hf⟩ := jgd hf
    refine K_iast (lenI := 2083) B rfl rfl g9 (by decide +kernel) ?_
    obtain ⟨m3, hm3, hf⟩ := jlt_s hf
    rw [hm3]
    refine B_blk B jlkX10_ok jcl_SKF [.aload_n 0, .getfield 7, .iload 4, .iconst 1, .iadd, .iload_n 2] (by decide +kernel) (ls' := [(0, jR 74), (1, jI v1), (2, jI v2), (3, jI v3), (4, jI (jW (324 + jW (3 * m2 75 4))))]) (st' := [jI v2, jI (jW (jW (324 + jW (3 * m2 75 4)) + 1)), jR 75]) rfl (p1 := 95) rfl ?_
    obtain ⟨g8, hf⟩ := jgd hf
    refine K_iast (lenI := 2083) B rfl rfl g8 (by decide +kernel) ?_
    obtain ⟨m4, hm4, hf⟩ := jlt_s hf
    rw [hm4]
    refine B_blk B jlkX10_ok jcl_SKF [.aload_n 0, .getfield 7, .iload 4, .iconst 2, .iadd, .iload_n 3] (by decide +kernel) (ls' := [(0, jR 74), (1, jI v1), (2, jI v2), (3, jI v3), (4, jI (jW (324 + jW (3 * m2 75 4))))]) (st' := [jI v3, jI (jW (jW (324 + jW (3 * m2 75 4)) + 2)), jR 75]) rfl (p1 := 105) rfl ?_
    obtain ⟨g7, hf⟩ := jgd hf
    refine K_iast (lenI := 2083) B rfl rfl g7 (by decide +kernel) ?_
    obtain ⟨m5, hm5, hf⟩ := jlt_s hf
    rw [hm5]
    refine B_blk B jlkX10_ok jcl_SKF [.aload_n 0, .getfield 7, .iconst 4, .dup2] (by decide +kernel) (ls' := [(0, jR 74), (1, jI v1), (2, jI v2), (3, jI v3), (4, jI (jW (324 + jW (3 * m2 75 4))))]) (st' := [jI 4, jR 75, jI 4, jR 75]) rfl (p1 := 112) rfl ?_
    refine K_iald (lenI := 2083) B rfl rfl (by decide) (by decide +kernel) ?_
    refine B_blk B jlkX10_ok jcl_SKF [.iconst 1, .iadd] (by decide +kernel) (ls' := [(0, jR 74), (1, jI v1), (2, jI v2), (3, jI v3), (4, jI (jW (324 + jW (3 * m2 75 4))))]) (st' := [jI (jW (m5 75 4 + 1)), jI 4, jR 75]) rfl (p1 := 115) rfl ?_
    refine K_iast (lenI := 2083) B rfl rfl (by decide) (by decide +kernel) ?_
    obtain ⟨m6, hm6, hf⟩ := jlt_s hf
    rw [hm6]
    refine B_blk B jlkX10_ok jcl_SKF [.aload_n 0, .getfield 7, .iconst 4] (by decide +kernel) (ls' := [(0, jR 74), (1, jI v1), (2, jI v2), (3, jI v3), (4, jI (jW (324 + jW (3 * m2 75 4))))]) (st' := [jI 4, jR 75]) rfl (p1 := 121) rfl ?_
    refine K_iald (lenI := 2083) B rfl rfl (by decide) (by decide +kernel) ?_
    refine B_blk B jlkX10_ok jcl_SKF [.iconst 1, .isub] (by decide +kernel) (ls' := [(0, jR 74), (1, jI v1), (2, jI v2), (3, jI v3), (4, jI (jW (324 + jW (3 * m2 75 4))))]) (st' := [jI (jW (m6 75 4 - 1))]) rfl (p1 := 124) rfl ?_
    cases hf
    exact B_retI B hq rfl (Nat.le_of_ble_eq_true rfl) (Nat.le_of_ble_eq_true rfl) (by decide +kernel)
  · refine B_blk B jlkX10_ok jcl_SKF [.iconst 0] (by decide +kernel) (ls' := [(0, jR 74), (1, jI v1), (2, jI v2), (3, jI v3)]) (st' := [jI 0]) rfl (p1 := 63) rfl ?_
    cases hf
    exact B_retI B hq rfl (Nat.le_of_ble_eq_true rfl) (Nat.le_of_ble_eq_true rfl) (by decide +kernel)
theorem t_X10_nest_J23 {X : jX} (B : jB X cX10_nest RX10 5 SKF.length rm_X10_nest (some .int)) (v1 : Int) (v2 : Int) (v3 : Int) (m : jMu) (r : (Int × jMu)) (hf : f_X10_nest_J23 v1 v2 v3 m = some r) (hq : jQ X (.inl (some (jI r.1))) SKF r.2 rm_X10_nest.cells rm_X10_nest.slots) : J X SKF m 0 0 23 [(0, jR 74), (1, jI v1), (2, jI v2), (3, jI v3)] [jR 74] := by
  unfold f_X10_nest_J23 at hf
  refine B_blk B jlkX10_ok jcl_SKF [.iconst 1, .goto 28] (by decide +kernel) (ls' := [(0, jR 74), (1, jI v1), (2, jI v2), (3, jI v3)]) (st' := [jI 1, jR 74]) rfl (p1 := 52) rfl ?_
  exact t_X10_nest_J52 B v1 v2 v3 1 m _ hf hq
theorem t_X10_nest {l : Launch} {G : jG} (hl : l.stackTraces = false) {a0 : Int} {a1 : Int} {a2 : Int} {m : jMu} {r : (Int × jMu)} (hf : f_X10_nest a0 a1 a2 m = some r) : jCt l G yX10_nest (.code yX10_nest cX10_nest 5 (some .int) :: jWG) rm_X10_nest [jR 74, jI a0, jI a1, jI a2] SKF m (.inl (some (jI r.1))) SKF r.2 := by
  unfold f_X10_nest at hf
  refine J_start (ls0 := [(0, jR 74), (1, jI a0), (2, jI a1), (3, jI a2)]) (by decide +kernel) hl (Nat.le_of_ble_eq_true rfl) rfl fun X C hN hn hR hr hnm hno hq => ?_
  have B : jB X cX10_nest RX10 5 SKF.length rm_X10_nest (some .int) := ⟨C, hN, Nat.le_of_eq hn, hR, hr⟩
  refine B_blk B jlkX10_ok jcl_SKF [.aload_n 0, .aload_n 0, .iload_n 1] (by decide +kernel) (ls' := [(0, jR 74), (1, jI a0), (2, jI a1), (3, jI a2)]) (st' := [jI a0, jR 74, jR 74]) rfl (p1 := 3) rfl ?_
  obtain ⟨r1, h1, hf⟩ := jbd hf
  refine B_callV B (Nat.le_refl _) (μ' := m) (k' := 0) (n' := 0) ca_X10_isBay in_X10_isBay se_X10_isBay lk_X10_206 (t_X10_isBay B.tr h1) (Nat.le_refl _) rfl rfl rfl (rest := [jR 74]) rfl rfl (Nat.le_of_ble_eq_true rfl) (by decide +kernel) rfl rfl (st' := [jI r1, jR 74]) rfl ?_
  refine J_if_eq B.1 (off := 17) (tgt := 23) (by decide +kernel) (by decide) hf (fun hf => ?_) (fun hf => ?_)
  · exact t_X10_nest_J23 B a0 a1 a2 m _ hf hq
  · refine B_blk B jlkX10_ok jcl_SKF [.iload_n 2] (by decide +kernel) (ls' := [(0, jR 74), (1, jI a0), (2, jI a1), (3, jI a2)]) (st' := [jI a1, jR 74]) rfl (p1 := 10) rfl ?_
    obtain ⟨r10, h10, hf⟩ := jbd hf
    refine B_callS B (Nat.le_refl _) (μ' := m) (k' := 0) (n' := 0) ca_X10_isDay sa_X10_isDay lk_X10_209 (t_X10_isDay B.tr jcl_SKF h10) (Nat.le_refl _) rfl (rest := [jR 74]) rfl rfl (Nat.le_of_ble_eq_true rfl) (by decide +kernel) rfl rfl (st' := [jI r10, jR 74]) rfl ?_
    refine J_if_eq B.1 (off := 10) (tgt := 23) (by decide +kernel) (by decide) hf (fun hf => ?_) (fun hf => ?_)
    · exact t_X10_nest_J23 B a0 a1 a2 m _ hf hq
    · refine B_blk B jlkX10_ok jcl_SKF [.iload_n 3] (by decide +kernel) (ls' := [(0, jR 74), (1, jI a0), (2, jI a1), (3, jI a2)]) (st' := [jI a2, jR 74]) rfl (p1 := 17) rfl ?_
      obtain ⟨r11, h11, hf⟩ := jbd hf
      refine B_callS B (Nat.le_refl _) (μ' := m) (k' := 0) (n' := 0) ca_X10_isDay sa_X10_isDay lk_X10_209 (t_X10_isDay B.tr jcl_SKF h11) (Nat.le_refl _) rfl (rest := [jR 74]) rfl rfl (Nat.le_of_ble_eq_true rfl) (by decide +kernel) rfl rfl (st' := [jI r11, jR 74]) rfl ?_
      refine J_if_ne B.1 (off := 7) (tgt := 27) (by decide +kernel) (by decide) hf (fun hf => ?_) (fun hf => ?_)
      · exact t_X10_nest_J23 B a0 a1 a2 m _ hf hq
      · refine B_blk B jlkX10_ok jcl_SKF [.iload_n 3, .iload_n 2] (by decide +kernel) (ls' := [(0, jR 74), (1, jI a0), (2, jI a1), (3, jI a2)]) (st' := [jI a1, jI a2, jR 74]) rfl (p1 := 29) rfl ?_
        refine J_icmp_ge B.1 (off := 7) (tgt := 36) (by decide +kernel) (by decide) hf (fun hf => ?_) (fun hf => ?_)
        · refine B_blk B jlkX10_ok jcl_SKF [.aload_n 0, .getfield 7, .iconst 4] (by decide +kernel) (ls' := [(0, jR 74), (1, jI a0), (2, jI a1), (3, jI a2)]) (st' := [jI 4, jR 75, jR 74]) rfl (p1 := 41) rfl ?_
          refine K_iald (lenI := 2083) B rfl rfl (by decide) (by decide +kernel) ?_
          refine B_blk B jlkX10_ok jcl_SKF [.bipush 8] (by decide +kernel) (ls' := [(0, jR 74), (1, jI a0), (2, jI a1), (3, jI a2)]) (st' := [jI 8, jI (m 75 4), jR 74]) rfl (p1 := 44) rfl ?_
          refine J_icmp_ne B.1 (off := 7) (tgt := 51) (by decide +kernel) (by decide) hf (fun hf => ?_) (fun hf => ?_)
          · refine B_blk B jlkX10_ok jcl_SKF [.iconst 3, .goto 4] (by decide +kernel) (ls' := [(0, jR 74), (1, jI a0), (2, jI a1), (3, jI a2)]) (st' := [jI 3, jR 74]) rfl (p1 := 52) rfl ?_
            exact t_X10_nest_J52 B a0 a1 a2 3 m _ hf hq
          · refine B_blk B jlkX10_ok jcl_SKF [.iconst 0] (by decide +kernel) (ls' := [(0, jR 74), (1, jI a0), (2, jI a1), (3, jI a2)]) (st' := [jI 0, jR 74]) rfl (p1 := 52) rfl ?_
            exact t_X10_nest_J52 B a0 a1 a2 0 m _ hf hq
        · refine B_blk B jlkX10_ok jcl_SKF [.iconst 2, .goto 19] (by decide +kernel) (ls' := [(0, jR 74), (1, jI a0), (2, jI a1), (3, jI a2)]) (st' := [jI 2, jR 74]) rfl (p1 := 52) rfl ?_
          exact t_X10_nest_J52 B a0 a1 a2 2 m _ hf hq

def rm_X10_letter : Room := { frames := 2, cells := 0, slots := 0, locals := 64 }
def f_X10_letter (a0 : Int) (m : jMu) : Option Int :=
  (if m 74 6 = (-1) then (if 0 ≤ a0 ∧ a0 < 400 then some (m 77 a0) else none) else (if 0 ≤ jW (m 74 6 + a0) ∧ jW (m 74 6 + a0) < 2083 then some (m 75 (jW (m 74 6 + a0))) else none))
theorem t_X10_letter {l : Launch} {G : jG} (hl : l.stackTraces = false) {a0 : Int} {m : jMu} {r : Int} (hf : f_X10_letter a0 m = some r) : jCt l G yX10_letter (.code yX10_letter cX10_letter 2 (some .int) :: jWG) rm_X10_letter [jR 74, jI a0] SKF m (.inl (some (jI r))) SKF m := by
  unfold f_X10_letter at hf
  refine J_start (ls0 := [(0, jR 74), (1, jI a0)]) (by decide +kernel) hl (Nat.le_of_ble_eq_true rfl) rfl fun X C hN hn hR hr hnm hno hq => ?_
  have B : jB X cX10_letter RX10 2 SKF.length rm_X10_letter (some .int) := ⟨C, hN, Nat.le_of_eq hn, hR, hr⟩
  refine B_blk B jlkX10_ok jcl_SKF [.aload_n 0, .getfield 61, .iconst (-1)] (by decide +kernel) (ls' := [(0, jR 74), (1, jI a0)]) (st' := [jI (-1), jI (m 74 6)]) rfl (p1 := 5) rfl ?_
  refine J_icmp_ne B.1 (off := 12) (tgt := 17) (by decide +kernel) (by decide) hf (fun hf => ?_) (fun hf => ?_)
  · refine B_blk B jlkX10_ok jcl_SKF [.aload_n 0, .getfield 16, .iload_n 1] (by decide +kernel) (ls' := [(0, jR 74), (1, jI a0)]) (st' := [jI a0, jR 77]) rfl (p1 := 13) rfl ?_
    obtain ⟨g1, hf⟩ := jgd hf
    refine K_iald (lenI := 400) B rfl rfl g1 (by decide +kernel) ?_
    refine B_blk B jlkX10_ok jcl_SKF [.goto 14] (by decide +kernel) (ls' := [(0, jR 74), (1, jI a0)]) (st' := [jI (m 77 a0)]) rfl (p1 := 28) rfl ?_
    cases hf
    exact B_retI B hq rfl (Nat.le_of_ble_eq_true rfl) (Nat.le_of_ble_eq_true rfl) (by decide +kernel)
  · refine B_blk B jlkX10_ok jcl_SKF [.aload_n 0, .getfield 7, .aload_n 0, .getfield 61, .iload_n 1, .iadd] (by decide +kernel) (ls' := [(0, jR 74), (1, jI a0)]) (st' := [jI (jW (m 74 6 + a0)), jR 75]) rfl (p1 := 27) rfl ?_
    obtain ⟨g2, hf⟩ := jgd hf
    refine K_iald (lenI := 2083) B rfl rfl g2 (by decide +kernel) ?_
    cases hf
    exact B_retI B hq rfl (Nat.le_of_ble_eq_true rfl) (Nat.le_of_ble_eq_true rfl) (by decide +kernel)

def rm_X10_skip : Room := { frames := 4, cells := 0, slots := 0, locals := 85 }
def f_X10_skip_L0 : Nat → jMu → Option jMu
  | 0, _ => none
  | q + 1, m => (if m 74 7 ≤ m 74 8 then some m else (f_X10_letter (m 74 8) m).bind fun r1 => (if r1 = 32 then (jlt (jup m 74 8 (jW (m 74 8 + 1))) fun m2 => f_X10_skip_L0 q m2) else some m))
def f_X10_skip (m : jMu) : Option jMu :=
  f_X10_skip_L0 jFU m
theorem t_X10_skip_L0 {X : jX} (B : jB X cX10_skip RX10 1 SKF.length rm_X10_skip none) : ∀ (q : Nat) (m : jMu) (r : jMu), f_X10_skip_L0 q m = some r → jQ X (.inl none) SKF r rm_X10_skip.cells rm_X10_skip.slots → J X SKF m 0 0 0 [(0, jR 74)] [] := by
  intro q
  induction q with
  | zero =>
    intro m r hf
    rw [f_X10_skip_L0] at hf
    cases hf
  | succ q ih =>
    intro m r hf hq
    rw [f_X10_skip_L0] at hf
    refine B_blk B jlkX10_ok jcl_SKF [.aload_n 0, .getfield 64, .aload_n 0, .getfield 67] (by decide +kernel) (ls' := [(0, jR 74)]) (st' := [jI (m 74 7), jI (m 74 8)]) rfl (p1 := 8) rfl ?_
    refine J_icmp_ge B.1 (off := 29) (tgt := 37) (by decide +kernel) (by decide) hf (fun hf => ?_) (fun hf => ?_)
    · cases hf
      exact B_retV B hq rfl (Nat.le_of_ble_eq_true rfl) (Nat.le_of_ble_eq_true rfl) (by decide +kernel)
    · refine B_blk B jlkX10_ok jcl_SKF [.aload_n 0, .aload_n 0, .getfield 64] (by decide +kernel) (ls' := [(0, jR 74)]) (st' := [jI (m 74 8), jR 74]) rfl (p1 := 16) rfl ?_
      obtain ⟨r1, h1, hf⟩ := jbd hf
      refine B_callV B (Nat.le_refl _) (μ' := m) (k' := 0) (n' := 0) ca_X10_letter in_X10_letter se_X10_letter lk_X10_70 (t_X10_letter B.tr h1) (Nat.le_refl _) rfl rfl rfl (rest := []) rfl rfl (Nat.le_of_ble_eq_true rfl) (by decide +kernel) rfl rfl (st' := [jI r1]) rfl ?_
      refine B_blk B jlkX10_ok jcl_SKF [.bipush 32] (by decide +kernel) (ls' := [(0, jR 74)]) (st' := [jI 32, jI r1]) rfl (p1 := 21) rfl ?_
      refine J_icmp_ne B.1 (off := 16) (tgt := 37) (by decide +kernel) (by decide) hf (fun hf => ?_) (fun hf => ?_)
      · refine B_blk B jlkX10_ok jcl_SKF [.aload_n 0, .dup, .getfield 64, .iconst 1, .iadd] (by decide +kernel) (ls' := [(0, jR 74)]) (st' := [jI (jW (m 74 8 + 1)), jR 74]) rfl (p1 := 31) rfl ?_
        refine K_putI (jI' := 8) B jp_X10_64 rfl rfl rfl (by decide +kernel) ?_
        obtain ⟨m2, hm2, hf⟩ := jlt_s hf
        rw [hm2]
        refine B_blk B jlkX10_ok jcl_SKF [.goto (-34)] (by decide +kernel) (ls' := [(0, jR 74)]) (st' := []) rfl (p1 := 0) rfl ?_
        exact ih m2 _ hf hq
      · cases hf
        exact B_retV B hq rfl (Nat.le_of_ble_eq_true rfl) (Nat.le_of_ble_eq_true rfl) (by decide +kernel)
theorem t_X10_skip {l : Launch} {G : jG} (hl : l.stackTraces = false) {m : jMu} {r : jMu} (hf : f_X10_skip m = some r) : jCt l G yX10_skip (.code yX10_skip cX10_skip 1 none :: jWG) rm_X10_skip [jR 74] SKF m (.inl none) SKF r := by
  unfold f_X10_skip at hf
  refine J_start (ls0 := [(0, jR 74)]) (by decide +kernel) hl (Nat.le_of_ble_eq_true rfl) rfl fun X C hN hn hR hr hnm hno hq => ?_
  have B : jB X cX10_skip RX10 1 SKF.length rm_X10_skip none := ⟨C, hN, Nat.le_of_eq hn, hR, hr⟩
  exact t_X10_skip_L0 B jFU m _ hf hq

def rm_X10_wrong : Room := { frames := 2, cells := 0, slots := 0, locals := 64 }
def f_X10_wrong (a0 : Int) (m : jMu) : Option jMu :=
  (if m 74 9 = (-1) then (jlt (jup m 74 9 a0) fun m1 => some m1) else some m)
theorem t_X10_wrong {l : Launch} {G : jG} (hl : l.stackTraces = false) {a0 : Int} {m : jMu} {r : jMu} (hf : f_X10_wrong a0 m = some r) : jCt l G yX10_wrong (.code yX10_wrong cX10_wrong 2 none :: jWG) rm_X10_wrong [jR 74, jI a0] SKF m (.inl none) SKF r := by
  unfold f_X10_wrong at hf
  refine J_start (ls0 := [(0, jR 74), (1, jI a0)]) (by decide +kernel) hl (Nat.le_of_ble_eq_true rfl) rfl fun X C hN hn hR hr hnm hno hq => ?_
  have B : jB X cX10_wrong RX10 2 SKF.length rm_X10_wrong none := ⟨C, hN, Nat.le_of_eq hn, hR, hr⟩
  refine B_blk B jlkX10_ok jcl_SKF [.aload_n 0, .getfield 19, .iconst (-1)] (by decide +kernel) (ls' := [(0, jR 74), (1, jI a0)]) (st' := [jI (-1), jI (m 74 9)]) rfl (p1 := 5) rfl ?_
  refine J_icmp_ne B.1 (off := 8) (tgt := 13) (by decide +kernel) (by decide) hf (fun hf => ?_) (fun hf => ?_)
  · refine B_blk B jlkX10_ok jcl_SKF [.aload_n 0, .iload_n 1] (by decide +kernel) (ls' := [(0, jR 74), (1, jI a0)]) (st' := [jI a0, jR 74]) rfl (p1 := 10) rfl ?_
    refine K_putI (jI' := 9) B jp_X10_19 rfl rfl rfl (by decide +kernel) ?_
    obtain ⟨m1, hm1, hf⟩ := jlt_s hf
    rw [hm1]
    cases hf
    exact B_retV B hq rfl (Nat.le_of_ble_eq_true rfl) (Nat.le_of_ble_eq_true rfl) (by decide +kernel)
  · cases hf
    exact B_retV B hq rfl (Nat.le_of_ble_eq_true rfl) (Nat.le_of_ble_eq_true rfl) (by decide +kernel)

def rm_X10_isSign : Room := { frames := 6, cells := 0, slots := 0, locals := 105 }
def f_X10_isSign (a0 : Int) (m : jMu) : Option (Int × jMu) :=
  (f_X10_skip m).bind fun r1 => (if r1 74 7 ≤ r1 74 8 then some (0, r1) else (f_X10_letter (r1 74 8) r1).bind fun r2 => (if r2 = a0 then some (1, r1) else some (0, r1)))
theorem t_X10_isSign {l : Launch} {G : jG} (hl : l.stackTraces = false) {a0 : Int} {m : jMu} {r : (Int × jMu)} (hf : f_X10_isSign a0 m = some r) : jCt l G yX10_isSign (.code yX10_isSign cX10_isSign 2 (some .boolean) :: jWG) rm_X10_isSign [jR 74, jI a0] SKF m (.inl (some (jI r.1))) SKF r.2 := by
  unfold f_X10_isSign at hf
  refine J_start (ls0 := [(0, jR 74), (1, jI a0)]) (by decide +kernel) hl (Nat.le_of_ble_eq_true rfl) rfl fun X C hN hn hR hr hnm hno hq => ?_
  have B : jB X cX10_isSign RX10 2 SKF.length rm_X10_isSign (some .boolean) := ⟨C, hN, Nat.le_of_eq hn, hR, hr⟩
  refine B_blk B jlkX10_ok jcl_SKF [.aload_n 0] (by decide +kernel) (ls' := [(0, jR 74), (1, jI a0)]) (st' := [jR 74]) rfl (p1 := 1) rfl ?_
  obtain ⟨r1, h1, hf⟩ := jbd hf
  refine B_callV B (Nat.le_refl _) (μ' := r1) (k' := 0) (n' := 0) ca_X10_skip in_X10_skip se_X10_skip lk_X10_74 (t_X10_skip B.tr h1) (Nat.le_refl _) rfl rfl rfl (rest := []) rfl rfl (Nat.le_of_ble_eq_true rfl) (by decide +kernel) rfl rfl (st' := []) rfl ?_
  refine B_blk B jlkX10_ok jcl_SKF [.aload_n 0, .getfield 64, .aload_n 0, .getfield 67] (by decide +kernel) (ls' := [(0, jR 74), (1, jI a0)]) (st' := [jI (r1 74 7), jI (r1 74 8)]) rfl (p1 := 12) rfl ?_
  refine J_icmp_ge B.1 (off := 19) (tgt := 31) (by decide +kernel) (by decide) hf (fun hf => ?_) (fun hf => ?_)
  · refine B_blk B jlkX10_ok jcl_SKF [.iconst 0] (by decide +kernel) (ls' := [(0, jR 74), (1, jI a0)]) (st' := [jI 0]) rfl (p1 := 32) rfl ?_
    cases hf
    exact B_retZ B (Or.inl rfl) hq rfl (Nat.le_of_ble_eq_true rfl) (Nat.le_of_ble_eq_true rfl) (by decide +kernel)
  · refine B_blk B jlkX10_ok jcl_SKF [.aload_n 0, .aload_n 0, .getfield 64] (by decide +kernel) (ls' := [(0, jR 74), (1, jI a0)]) (st' := [jI (r1 74 8), jR 74]) rfl (p1 := 20) rfl ?_
    obtain ⟨r2, h2, hf⟩ := jbd hf
    refine B_callV B (Nat.le_refl _) (μ' := r1) (k' := 0) (n' := 0) ca_X10_letter in_X10_letter se_X10_letter lk_X10_70 (t_X10_letter B.tr h2) (Nat.le_refl _) rfl rfl rfl (rest := []) rfl rfl (Nat.le_of_ble_eq_true rfl) (by decide +kernel) rfl rfl (st' := [jI r2]) rfl ?_
    refine B_blk B jlkX10_ok jcl_SKF [.iload_n 1] (by decide +kernel) (ls' := [(0, jR 74), (1, jI a0)]) (st' := [jI a0, jI r2]) rfl (p1 := 24) rfl ?_
    refine J_icmp_ne B.1 (off := 7) (tgt := 31) (by decide +kernel) (by decide) hf (fun hf => ?_) (fun hf => ?_)
    · refine B_blk B jlkX10_ok jcl_SKF [.iconst 1, .goto 4] (by decide +kernel) (ls' := [(0, jR 74), (1, jI a0)]) (st' := [jI 1]) rfl (p1 := 32) rfl ?_
      cases hf
      exact B_retZ B (Or.inr rfl) hq rfl (Nat.le_of_ble_eq_true rfl) (Nat.le_of_ble_eq_true rfl) (by decide +kernel)
    · refine B_blk B jlkX10_ok jcl_SKF [.iconst 0] (by decide +kernel) (ls' := [(0, jR 74), (1, jI a0)]) (st' := [jI 0]) rfl (p1 := 32) rfl ?_
      cases hf
      exact B_retZ B (Or.inl rfl) hq rfl (Nat.le_of_ble_eq_true rfl) (Nat.le_of_ble_eq_true rfl) (by decide +kernel)

def rm_X10_has : Room := { frames := 7, cells := 0, slots := 0, locals := 323 }
def f_X10_has_L55 (w : Nat) : Nat → Int → Int → jMu → Option (Int × jMu)
  | 0, _, _, _ => none
  | q + 1, v2, v3, m => (if jtl w ≤ v3 then (jlt (jup m 74 8 v2) fun m2 => some (1, m2)) else (f_X10_letter (jW (m 74 8 + v3)) m).bind fun r3 => (if 0 ≤ v3 ∧ v3 < jtl w then (if r3 = jtc w v3 then f_X10_has_L55 w q v2 (jW (v3 + 1)) m else some (0, m)) else none))
def f_X10_has_L9 (w : Nat) : Nat → Int → jMu → Option (Int × jMu)
  | 0, _, _ => none
  | q + 1, v2, m => (if m 74 7 ≤ v2 then (if jW (v2 - m 74 8) = jtl w then f_X10_has_L55 w jFU v2 0 m else some (0, m)) else (f_X10_letter v2 m).bind fun r5 => (f_X10_isIn r5 97 122).bind fun r6 => (if r6 = 0 then (if jW (v2 - m 74 8) = jtl w then f_X10_has_L55 w jFU v2 0 m else some (0, m)) else f_X10_has_L9 w q (jW (v2 + 1)) m))
def f_X10_has (w : Nat) (m : jMu) : Option (Int × jMu) :=
  (f_X10_skip m).bind fun r1 => f_X10_has_L9 w jFU (r1 74 8) r1
theorem t_X10_has_L55 {X : jX} {w : Nat} (hw19 : w < 19) (B : jB X cX10_has RX10 4 SKF.length rm_X10_has (some .boolean)) : ∀ (q : Nat) (v2 : Int) (v3 : Int) (m : jMu) (r : (Int × jMu)), f_X10_has_L55 w q v2 v3 m = some r → jQ X (.inl (some (jI r.1))) SKF r.2 rm_X10_has.cells rm_X10_has.slots → J X SKF m 0 0 55 [(0, jR 74), (1, jR (jXK + w)), (2, jI v2), (3, jI v3)] [] := by
  intro q
  induction q with
  | zero =>
    intro v2 v3 m r hf
    rw [f_X10_has_L55] at hf
    cases hf
  | succ q ih =>
    intro v2 v3 m r hf hq
    rw [f_X10_has_L55] at hf
    refine B_blk B jlkX10_ok jcl_SKF [.iload_n 3, .aload_n 1] (by decide +kernel) (ls' := [(0, jR 74), (1, jR (jXK + w)), (2, jI v2), (3, jI v3)]) (st' := [jR (jXK + w), jI v3]) rfl (p1 := 57) rfl ?_
    refine K_slen (w := w) B jcl_SKF (Nat.le_refl _) hw19 lk_X10_77 rfl (rest := [jI v3]) rfl (Nat.le_of_ble_eq_true rfl) (by decide +kernel) ?_
    refine J_icmp_ge B.1 (off := 29) (tgt := 89) (by decide +kernel) (by decide) hf (fun hf => ?_) (fun hf => ?_)
    · refine B_blk B jlkX10_ok jcl_SKF [.aload_n 0, .iload_n 2] (by decide +kernel) (ls' := [(0, jR 74), (1, jR (jXK + w)), (2, jI v2), (3, jI v3)]) (st' := [jI v2, jR 74]) rfl (p1 := 91) rfl ?_
      refine K_putI (jI' := 8) B jp_X10_64 rfl rfl rfl (by decide +kernel) ?_
      obtain ⟨m2, hm2, hf⟩ := jlt_s hf
      rw [hm2]
      refine B_blk B jlkX10_ok jcl_SKF [.iconst 1] (by decide +kernel) (ls' := [(0, jR 74), (1, jR (jXK + w)), (2, jI v2), (3, jI v3)]) (st' := [jI 1]) rfl (p1 := 95) rfl ?_
      cases hf
      exact B_retZ B (Or.inr rfl) hq rfl (Nat.le_of_ble_eq_true rfl) (Nat.le_of_ble_eq_true rfl) (by decide +kernel)
    · refine B_blk B jlkX10_ok jcl_SKF [.aload_n 0, .aload_n 0, .getfield 64, .iload_n 3, .iadd] (by decide +kernel) (ls' := [(0, jR 74), (1, jR (jXK + w)), (2, jI v2), (3, jI v3)]) (st' := [jI (jW (m 74 8 + v3)), jR 74]) rfl (p1 := 70) rfl ?_
      obtain ⟨r3, h3, hf⟩ := jbd hf
      refine B_callV B (Nat.le_refl _) (μ' := m) (k' := 0) (n' := 0) ca_X10_letter in_X10_letter se_X10_letter lk_X10_70 (t_X10_letter B.tr h3) (Nat.le_refl _) rfl rfl rfl (rest := []) rfl rfl (Nat.le_of_ble_eq_true rfl) (by decide +kernel) rfl rfl (st' := [jI r3]) rfl ?_
      refine B_blk B jlkX10_ok jcl_SKF [.aload_n 1, .iload_n 3] (by decide +kernel) (ls' := [(0, jR 74), (1, jR (jXK + w)), (2, jI v2), (3, jI v3)]) (st' := [jI v3, jR (jXK + w), jI r3]) rfl (p1 := 75) rfl ?_
      obtain ⟨g4, hf⟩ := jgd hf
      refine K_schar (w := w) B jcl_SKF (Nat.le_refl _) hw19 lk_X10_83 g4 rfl (rest := [jI r3]) rfl (Nat.le_of_ble_eq_true rfl) (by decide +kernel) ?_
      refine J_icmp_eq B.1 (off := 5) (tgt := 83) (by decide +kernel) (by decide) hf (fun hf => ?_) (fun hf => ?_)
      · refine B_blk B jlkX10_ok jcl_SKF [.iinc 3 1, .goto (-31)] (by decide +kernel) (ls' := [(0, jR 74), (1, jR (jXK + w)), (2, jI v2), (3, jI (jW (v3 + 1)))]) (st' := []) rfl (p1 := 55) rfl ?_
        exact ih v2 (jW (v3 + 1)) m _ hf hq
      · refine B_blk B jlkX10_ok jcl_SKF [.iconst 0] (by decide +kernel) (ls' := [(0, jR 74), (1, jR (jXK + w)), (2, jI v2), (3, jI v3)]) (st' := [jI 0]) rfl (p1 := 82) rfl ?_
        cases hf
        exact B_retZ B (Or.inl rfl) hq rfl (Nat.le_of_ble_eq_true rfl) (Nat.le_of_ble_eq_true rfl) (by decide +kernel)
theorem t_X10_has_L9 {X : jX} {w : Nat} (hw19 : w < 19) (B : jB X cX10_has RX10 4 SKF.length rm_X10_has (some .boolean)) : ∀ (q : Nat) (v2 : Int) (m : jMu) (r : (Int × jMu)), f_X10_has_L9 w q v2 m = some r → jQ X (.inl (some (jI r.1))) SKF r.2 rm_X10_has.cells rm_X10_has.slots → J X SKF m 0 0 9 [(0, jR 74), (1, jR (jXK + w)), (2, jI v2)] [] := by
  intro q
  induction q with
  | zero =>
    intro v2 m r hf
    rw [f_X10_has_L9] at hf
    cases hf
  | succ q ih =>
    intro v2 m r hf hq
    rw [f_X10_has_L9] at hf
    refine B_blk B jlkX10_ok jcl_SKF [.iload_n 2, .aload_n 0, .getfield 67] (by decide +kernel) (ls' := [(0, jR 74), (1, jR (jXK + w)), (2, jI v2)]) (st' := [jI (m 74 7), jI v2]) rfl (p1 := 14) rfl ?_
    refine J_icmp_ge B.1 (off := 24) (tgt := 38) (by decide +kernel) (by decide) hf (fun hf => ?_) (fun hf => ?_)
    · refine B_blk B jlkX10_ok jcl_SKF [.iload_n 2, .aload_n 0, .getfield 64, .isub, .aload_n 1] (by decide +kernel) (ls' := [(0, jR 74), (1, jR (jXK + w)), (2, jI v2)]) (st' := [jR (jXK + w), jI (jW (v2 - m 74 8))]) rfl (p1 := 45) rfl ?_
      refine K_slen (w := w) B jcl_SKF (Nat.le_refl _) hw19 lk_X10_77 rfl (rest := [jI (jW (v2 - m 74 8))]) rfl (Nat.le_of_ble_eq_true rfl) (by decide +kernel) ?_
      refine J_icmp_eq B.1 (off := 5) (tgt := 53) (by decide +kernel) (by decide) hf (fun hf => ?_) (fun hf => ?_)
      · refine B_blk B jlkX10_ok jcl_SKF [.iconst 0, .istore_n 3] (by decide +kernel) (ls' := [(0, jR 74), (1, jR (jXK + w)), (2, jI v2), (3, jI 0)]) (st' := []) rfl (p1 := 55) rfl ?_
        exact t_X10_has_L55 hw19 B jFU v2 0 m _ hf hq
      · refine B_blk B jlkX10_ok jcl_SKF [.iconst 0] (by decide +kernel) (ls' := [(0, jR 74), (1, jR (jXK + w)), (2, jI v2)]) (st' := [jI 0]) rfl (p1 := 52) rfl ?_
        cases hf
        exact B_retZ B (Or.inl rfl) hq rfl (Nat.le_of_ble_eq_true rfl) (Nat.le_of_ble_eq_true rfl) (by decide +kernel)
    · refine B_blk B jlkX10_ok jcl_SKF [.aload_n 0, .iload_n 2] (by decide +kernel) (ls' := [(0, jR 74), (1, jR (jXK + w)), (2, jI v2)]) (st' := [jI v2, jR 74]) rfl (p1 := 19) rfl ?_
      obtain ⟨r5, h5, hf⟩ := jbd hf
      refine B_callV B (Nat.le_refl _) (μ' := m) (k' := 0) (n' := 0) ca_X10_letter in_X10_letter se_X10_letter lk_X10_70 (t_X10_letter B.tr h5) (Nat.le_refl _) rfl rfl rfl (rest := []) rfl rfl (Nat.le_of_ble_eq_true rfl) (by decide +kernel) rfl rfl (st' := [jI r5]) rfl ?_
      refine B_blk B jlkX10_ok jcl_SKF [.bipush 97, .bipush 122] (by decide +kernel) (ls' := [(0, jR 74), (1, jR (jXK + w)), (2, jI v2)]) (st' := [jI 122, jI 97, jI r5]) rfl (p1 := 26) rfl ?_
      obtain ⟨r6, h6, hf⟩ := jbd hf
      refine B_callS B (Nat.le_refl _) (μ' := m) (k' := 0) (n' := 0) ca_X10_isIn sa_X10_isIn lk_X10_54 (t_X10_isIn B.tr jcl_SKF h6) (Nat.le_refl _) rfl (rest := []) rfl rfl (Nat.le_of_ble_eq_true rfl) (by decide +kernel) rfl rfl (st' := [jI r6]) rfl ?_
      refine J_if_eq B.1 (off := 9) (tgt := 38) (by decide +kernel) (by decide) hf (fun hf => ?_) (fun hf => ?_)
      · refine B_blk B jlkX10_ok jcl_SKF [.iload_n 2, .aload_n 0, .getfield 64, .isub, .aload_n 1] (by decide +kernel) (ls' := [(0, jR 74), (1, jR (jXK + w)), (2, jI v2)]) (st' := [jR (jXK + w), jI (jW (v2 - m 74 8))]) rfl (p1 := 45) rfl ?_
        refine K_slen (w := w) B jcl_SKF (Nat.le_refl _) hw19 lk_X10_77 rfl (rest := [jI (jW (v2 - m 74 8))]) rfl (Nat.le_of_ble_eq_true rfl) (by decide +kernel) ?_
        refine J_icmp_eq B.1 (off := 5) (tgt := 53) (by decide +kernel) (by decide) hf (fun hf => ?_) (fun hf => ?_)
        · refine B_blk B jlkX10_ok jcl_SKF [.iconst 0, .istore_n 3] (by decide +kernel) (ls' := [(0, jR 74), (1, jR (jXK + w)), (2, jI v2), (3, jI 0)]) (st' := []) rfl (p1 := 55) rfl ?_
          exact t_X10_has_L55 hw19 B jFU v2 0 m _ hf hq
        · refine B_blk B jlkX10_ok jcl_SKF [.iconst 0] (by decide +kernel) (ls' := [(0, jR 74), (1, jR (jXK + w)), (2, jI v2)]) (st' := [jI 0]) rfl (p1 := 52) rfl ?_
          cases hf
          exact B_retZ B (Or.inl rfl) hq rfl (Nat.le_of_ble_eq_true rfl) (Nat.le_of_ble_eq_true rfl) (by decide +kernel)
      · refine B_blk B jlkX10_ok jcl_SKF [.iinc 2 1, .goto (-26)] (by decide +kernel) (ls' := [(0, jR 74), (1, jR (jXK + w)), (2, jI (jW (v2 + 1)))]) (st' := []) rfl (p1 := 9) rfl ?_
        exact ih (jW (v2 + 1)) m _ hf hq
theorem t_X10_has {l : Launch} {G : jG} (hl : l.stackTraces = false) {w : Nat} (hw19 : w < 19) {m : jMu} {r : (Int × jMu)} (hf : f_X10_has w m = some r) : jCt l G yX10_has (.code yX10_has cX10_has 4 (some .boolean) :: jWG) rm_X10_has [jR 74, jR (jXK + w)] SKF m (.inl (some (jI r.1))) SKF r.2 := by
  unfold f_X10_has at hf
  refine J_start (ls0 := [(0, jR 74), (1, jR (jXK + w))]) (by decide +kernel) hl (Nat.le_of_ble_eq_true rfl) rfl fun X C hN hn hR hr hnm hno hq => ?_
  have B : jB X cX10_has RX10 4 SKF.length rm_X10_has (some .boolean) := ⟨C, hN, Nat.le_of_eq hn, hR, hr⟩
  refine B_blk B jlkX10_ok jcl_SKF [.aload_n 0] (by decide +kernel) (ls' := [(0, jR 74), (1, jR (jXK + w))]) (st' := [jR 74]) rfl (p1 := 1) rfl ?_
  obtain ⟨r1, h1, hf⟩ := jbd hf
  refine B_callV B (Nat.le_refl _) (μ' := r1) (k' := 0) (n' := 0) ca_X10_skip in_X10_skip se_X10_skip lk_X10_74 (t_X10_skip B.tr h1) (Nat.le_refl _) rfl rfl rfl (rest := []) rfl rfl (Nat.le_of_ble_eq_true rfl) (by decide +kernel) rfl rfl (st' := []) rfl ?_
  refine B_blk B jlkX10_ok jcl_SKF [.aload_n 0, .getfield 64, .istore_n 2] (by decide +kernel) (ls' := [(0, jR 74), (1, jR (jXK + w)), (2, jI (r1 74 8))]) (st' := []) rfl (p1 := 9) rfl ?_
  exact t_X10_has_L9 hw19 B jFU (r1 74 8) r1 _ hf hq

def rm_X10_number : Room := { frames := 6, cells := 0, slots := 0, locals := 105 }
def f_X10_number_J90 (v1 : Int) (v2 : Int) (v3 : Int) (m : jMu) : Option (Int × jMu) :=
  (if m 74 8 = v2 then (f_X10_wrong v2 m).bind fun r2 => some (v3, r2) else (if 2 < jW (m 74 8 - v2) then (f_X10_wrong v2 m).bind fun r3 => some (v3, r3) else (if v3 ≤ v1 then some (v3, m) else (f_X10_wrong v2 m).bind fun r4 => some (v3, r4))))
def f_X10_number_L21 : Nat → Int → Int → Int → jMu → Option (Int × jMu)
  | 0, _, _, _, _ => none
  | q + 1, v1, v2, v3, m => (if m 74 7 ≤ m 74 8 then f_X10_number_J90 v1 v2 v3 m else (f_X10_letter (m 74 8) m).bind fun r5 => (f_X10_isIn r5 48 57).bind fun r6 => (if r6 = 0 then f_X10_number_J90 v1 v2 v3 m else (if 3 ≤ jW (m 74 8 - v2) then f_X10_number_J90 v1 v2 v3 m else (f_X10_letter (m 74 8) m).bind fun r7 => (jlt (jup m 74 8 (jW (m 74 8 + 1))) fun m8 => f_X10_number_L21 q v1 v2 (jW (jW (jW (10 * v3) + r7) - 48)) m8))))
def f_X10_number (a0 : Int) (m : jMu) : Option (Int × jMu) :=
  (if m 74 9 = (-1) then (f_X10_skip m).bind fun r1 => f_X10_number_L21 jFU a0 (r1 74 8) 0 r1 else some (0, m))
theorem t_X10_number_J90 {X : jX} (B : jB X cX10_number RX10 4 SKF.length rm_X10_number (some .int)) (v1 : Int) (v2 : Int) (v3 : Int) (m : jMu) (r : (Int × jMu)) (hf : f_X10_number_J90 v1 v2 v3 m = some r) (hq : jQ X (.inl (some (jI r.1))) SKF r.2 rm_X10_number.cells rm_X10_number.slots) : J X SKF m 0 0 90 [(0, jR 74), (1, jI v1), (2, jI v2), (3, jI v3)] [] := by
  unfold f_X10_number_J90 at hf
  refine B_blk B jlkX10_ok jcl_SKF [.aload_n 0, .getfield 64, .iload_n 2] (by decide +kernel) (ls' := [(0, jR 74), (1, jI v1), (2, jI v2), (3, jI v3)]) (st' := [jI v2, jI (m 74 8)]) rfl (p1 := 95) rfl ?_
  refine J_icmp_eq B.1 (off := 18) (tgt := 113) (by decide +kernel) (by decide) hf (fun hf => ?_) (fun hf => ?_)
  · refine B_blk B jlkX10_ok jcl_SKF [.aload_n 0, .iload_n 2] (by decide +kernel) (ls' := [(0, jR 74), (1, jI v1), (2, jI v2), (3, jI v3)]) (st' := [jI v2, jR 74]) rfl (p1 := 115) rfl ?_
    obtain ⟨r2, h2, hf⟩ := jbd hf
    refine B_callV B (Nat.le_refl _) (μ' := r2) (k' := 0) (n' := 0) ca_X10_wrong in_X10_wrong se_X10_wrong lk_X10_87 (t_X10_wrong B.tr h2) (Nat.le_refl _) rfl rfl rfl (rest := []) rfl rfl (Nat.le_of_ble_eq_true rfl) (by decide +kernel) rfl rfl (st' := []) rfl ?_
    refine B_blk B jlkX10_ok jcl_SKF [.iload_n 3] (by decide +kernel) (ls' := [(0, jR 74), (1, jI v1), (2, jI v2), (3, jI v3)]) (st' := [jI v3]) rfl (p1 := 119) rfl ?_
    cases hf
    exact B_retI B hq rfl (Nat.le_of_ble_eq_true rfl) (Nat.le_of_ble_eq_true rfl) (by decide +kernel)
  · refine B_blk B jlkX10_ok jcl_SKF [.aload_n 0, .getfield 64, .iload_n 2, .isub, .iconst 2] (by decide +kernel) (ls' := [(0, jR 74), (1, jI v1), (2, jI v2), (3, jI v3)]) (st' := [jI 2, jI (jW (m 74 8 - v2))]) rfl (p1 := 105) rfl ?_
    refine J_icmp_gt B.1 (off := 8) (tgt := 113) (by decide +kernel) (by decide) hf (fun hf => ?_) (fun hf => ?_)
    · refine B_blk B jlkX10_ok jcl_SKF [.aload_n 0, .iload_n 2] (by decide +kernel) (ls' := [(0, jR 74), (1, jI v1), (2, jI v2), (3, jI v3)]) (st' := [jI v2, jR 74]) rfl (p1 := 115) rfl ?_
      obtain ⟨r3, h3, hf⟩ := jbd hf
      refine B_callV B (Nat.le_refl _) (μ' := r3) (k' := 0) (n' := 0) ca_X10_wrong in_X10_wrong se_X10_wrong lk_X10_87 (t_X10_wrong B.tr h3) (Nat.le_refl _) rfl rfl rfl (rest := []) rfl rfl (Nat.le_of_ble_eq_true rfl) (by decide +kernel) rfl rfl (st' := []) rfl ?_
      refine B_blk B jlkX10_ok jcl_SKF [.iload_n 3] (by decide +kernel) (ls' := [(0, jR 74), (1, jI v1), (2, jI v2), (3, jI v3)]) (st' := [jI v3]) rfl (p1 := 119) rfl ?_
      cases hf
      exact B_retI B hq rfl (Nat.le_of_ble_eq_true rfl) (Nat.le_of_ble_eq_true rfl) (by decide +kernel)
    · refine B_blk B jlkX10_ok jcl_SKF [.iload_n 3, .iload_n 1] (by decide +kernel) (ls' := [(0, jR 74), (1, jI v1), (2, jI v2), (3, jI v3)]) (st' := [jI v1, jI v3]) rfl (p1 := 110) rfl ?_
      refine J_icmp_le B.1 (off := 8) (tgt := 118) (by decide +kernel) (by decide) hf (fun hf => ?_) (fun hf => ?_)
      · refine B_blk B jlkX10_ok jcl_SKF [.iload_n 3] (by decide +kernel) (ls' := [(0, jR 74), (1, jI v1), (2, jI v2), (3, jI v3)]) (st' := [jI v3]) rfl (p1 := 119) rfl ?_
        cases hf
        exact B_retI B hq rfl (Nat.le_of_ble_eq_true rfl) (Nat.le_of_ble_eq_true rfl) (by decide +kernel)
      · refine B_blk B jlkX10_ok jcl_SKF [.aload_n 0, .iload_n 2] (by decide +kernel) (ls' := [(0, jR 74), (1, jI v1), (2, jI v2), (3, jI v3)]) (st' := [jI v2, jR 74]) rfl (p1 := 115) rfl ?_
        obtain ⟨r4, h4, hf⟩ := jbd hf
        refine B_callV B (Nat.le_refl _) (μ' := r4) (k' := 0) (n' := 0) ca_X10_wrong in_X10_wrong se_X10_wrong lk_X10_87 (t_X10_wrong B.tr h4) (Nat.le_refl _) rfl rfl rfl (rest := []) rfl rfl (Nat.le_of_ble_eq_true rfl) (by decide +kernel) rfl rfl (st' := []) rfl ?_
        refine B_blk B jlkX10_ok jcl_SKF [.iload_n 3] (by decide +kernel) (ls' := [(0, jR 74), (1, jI v1), (2, jI v2), (3, jI v3)]) (st' := [jI v3]) rfl (p1 := 119) rfl ?_
        cases hf
        exact B_retI B hq rfl (Nat.le_of_ble_eq_true rfl) (Nat.le_of_ble_eq_true rfl) (by decide +kernel)
theorem t_X10_number_L21 {X : jX} (B : jB X cX10_number RX10 4 SKF.length rm_X10_number (some .int)) : ∀ (q : Nat) (v1 : Int) (v2 : Int) (v3 : Int) (m : jMu) (r : (Int × jMu)), f_X10_number_L21 q v1 v2 v3 m = some r → jQ X (.inl (some (jI r.1))) SKF r.2 rm_X10_number.cells rm_X10_number.slots → J X SKF m 0 0 21 [(0, jR 74), (1, jI v1), (2, jI v2), (3, jI v3)] [] := by
  intro q
  induction q with
  | zero =>
    intro v1 v2 v3 m r hf
    rw [f_X10_number_L21] at hf
    cases hf
  | succ q ih =>
    intro v1 v2 v3 m r hf hq
    rw [f_X10_number_L21] at hf
    refine B_blk B jlkX10_ok jcl_SKF [.aload_n 0, .getfield 64, .aload_n 0, .getfield 67] (by decide +kernel) (ls' := [(0, jR 74), (1, jI v1), (2, jI v2), (3, jI v3)]) (st' := [jI (m 74 7), jI (m 74 8)]) rfl (p1 := 29) rfl ?_
    refine J_icmp_ge B.1 (off := 61) (tgt := 90) (by decide +kernel) (by decide) hf (fun hf => ?_) (fun hf => ?_)
    · exact t_X10_number_J90 B v1 v2 v3 m _ hf hq
    · refine B_blk B jlkX10_ok jcl_SKF [.aload_n 0, .aload_n 0, .getfield 64] (by decide +kernel) (ls' := [(0, jR 74), (1, jI v1), (2, jI v2), (3, jI v3)]) (st' := [jI (m 74 8), jR 74]) rfl (p1 := 37) rfl ?_
      obtain ⟨r5, h5, hf⟩ := jbd hf
      refine B_callV B (Nat.le_refl _) (μ' := m) (k' := 0) (n' := 0) ca_X10_letter in_X10_letter se_X10_letter lk_X10_70 (t_X10_letter B.tr h5) (Nat.le_refl _) rfl rfl rfl (rest := []) rfl rfl (Nat.le_of_ble_eq_true rfl) (by decide +kernel) rfl rfl (st' := [jI r5]) rfl ?_
      refine B_blk B jlkX10_ok jcl_SKF [.bipush 48, .bipush 57] (by decide +kernel) (ls' := [(0, jR 74), (1, jI v1), (2, jI v2), (3, jI v3)]) (st' := [jI 57, jI 48, jI r5]) rfl (p1 := 44) rfl ?_
      obtain ⟨r6, h6, hf⟩ := jbd hf
      refine B_callS B (Nat.le_refl _) (μ' := m) (k' := 0) (n' := 0) ca_X10_isIn sa_X10_isIn lk_X10_54 (t_X10_isIn B.tr jcl_SKF h6) (Nat.le_refl _) rfl (rest := []) rfl rfl (Nat.le_of_ble_eq_true rfl) (by decide +kernel) rfl rfl (st' := [jI r6]) rfl ?_
      refine J_if_eq B.1 (off := 43) (tgt := 90) (by decide +kernel) (by decide) hf (fun hf => ?_) (fun hf => ?_)
      · exact t_X10_number_J90 B v1 v2 v3 m _ hf hq
      · refine B_blk B jlkX10_ok jcl_SKF [.aload_n 0, .getfield 64, .iload_n 2, .isub, .iconst 3] (by decide +kernel) (ls' := [(0, jR 74), (1, jI v1), (2, jI v2), (3, jI v3)]) (st' := [jI 3, jI (jW (m 74 8 - v2))]) rfl (p1 := 57) rfl ?_
        refine J_icmp_ge B.1 (off := 33) (tgt := 90) (by decide +kernel) (by decide) hf (fun hf => ?_) (fun hf => ?_)
        · exact t_X10_number_J90 B v1 v2 v3 m _ hf hq
        · refine B_blk B jlkX10_ok jcl_SKF [.bipush 10, .iload_n 3, .imul, .aload_n 0, .aload_n 0, .getfield 64] (by decide +kernel) (ls' := [(0, jR 74), (1, jI v1), (2, jI v2), (3, jI v3)]) (st' := [jI (m 74 8), jR 74, jI (jW (10 * v3))]) rfl (p1 := 69) rfl ?_
          obtain ⟨r7, h7, hf⟩ := jbd hf
          refine B_callV B (Nat.le_refl _) (μ' := m) (k' := 0) (n' := 0) ca_X10_letter in_X10_letter se_X10_letter lk_X10_70 (t_X10_letter B.tr h7) (Nat.le_refl _) rfl rfl rfl (rest := [jI (jW (10 * v3))]) rfl rfl (Nat.le_of_ble_eq_true rfl) (by decide +kernel) rfl rfl (st' := [jI r7, jI (jW (10 * v3))]) rfl ?_
          refine B_blk B jlkX10_ok jcl_SKF [.iadd, .bipush 48, .isub, .istore_n 3, .aload_n 0, .dup, .getfield 64, .iconst 1, .iadd] (by decide +kernel) (ls' := [(0, jR 74), (1, jI v1), (2, jI v2), (3, jI (jW (jW (jW (10 * v3) + r7) - 48)))]) (st' := [jI (jW (m 74 8 + 1)), jR 74]) rfl (p1 := 84) rfl ?_
          refine K_putI (jI' := 8) B jp_X10_64 rfl rfl rfl (by decide +kernel) ?_
          obtain ⟨m8, hm8, hf⟩ := jlt_s hf
          rw [hm8]
          refine B_blk B jlkX10_ok jcl_SKF [.goto (-66)] (by decide +kernel) (ls' := [(0, jR 74), (1, jI v1), (2, jI v2), (3, jI (jW (jW (jW (10 * v3) + r7) - 48)))]) (st' := []) rfl (p1 := 21) rfl ?_
          exact ih v1 v2 (jW (jW (jW (10 * v3) + r7) - 48)) m8 _ hf hq
theorem t_X10_number {l : Launch} {G : jG} (hl : l.stackTraces = false) {a0 : Int} {m : jMu} {r : (Int × jMu)} (hf : f_X10_number a0 m = some r) : jCt l G yX10_number (.code yX10_number cX10_number 4 (some .int) :: jWG) rm_X10_number [jR 74, jI a0] SKF m (.inl (some (jI r.1))) SKF r.2 := by
  unfold f_X10_number at hf
  refine J_start (ls0 := [(0, jR 74), (1, jI a0)]) (by decide +kernel) hl (Nat.le_of_ble_eq_true rfl) rfl fun X C hN hn hR hr hnm hno hq => ?_
  have B : jB X cX10_number RX10 4 SKF.length rm_X10_number (some .int) := ⟨C, hN, Nat.le_of_eq hn, hR, hr⟩
  refine B_blk B jlkX10_ok jcl_SKF [.aload_n 0, .getfield 19, .iconst (-1)] (by decide +kernel) (ls' := [(0, jR 74), (1, jI a0)]) (st' := [jI (-1), jI (m 74 9)]) rfl (p1 := 5) rfl ?_
  refine J_icmp_eq B.1 (off := 5) (tgt := 10) (by decide +kernel) (by decide) hf (fun hf => ?_) (fun hf => ?_)
  · refine B_blk B jlkX10_ok jcl_SKF [.aload_n 0] (by decide +kernel) (ls' := [(0, jR 74), (1, jI a0)]) (st' := [jR 74]) rfl (p1 := 11) rfl ?_
    obtain ⟨r1, h1, hf⟩ := jbd hf
    refine B_callV B (Nat.le_refl _) (μ' := r1) (k' := 0) (n' := 0) ca_X10_skip in_X10_skip se_X10_skip lk_X10_74 (t_X10_skip B.tr h1) (Nat.le_refl _) rfl rfl rfl (rest := []) rfl rfl (Nat.le_of_ble_eq_true rfl) (by decide +kernel) rfl rfl (st' := []) rfl ?_
    refine B_blk B jlkX10_ok jcl_SKF [.aload_n 0, .getfield 64, .istore_n 2, .iconst 0, .istore_n 3] (by decide +kernel) (ls' := [(0, jR 74), (1, jI a0), (2, jI (r1 74 8)), (3, jI 0)]) (st' := []) rfl (p1 := 21) rfl ?_
    exact t_X10_number_L21 B jFU a0 (r1 74 8) 0 r1 _ hf hq
  · refine B_blk B jlkX10_ok jcl_SKF [.iconst 0] (by decide +kernel) (ls' := [(0, jR 74), (1, jI a0)]) (st' := [jI 0]) rfl (p1 := 9) rfl ?_
    cases hf
    exact B_retI B hq rfl (Nat.le_of_ble_eq_true rfl) (Nat.le_of_ble_eq_true rfl) (by decide +kernel)

def rm_X10_part : Room := { frames := 9, cells := 0, slots := 0, locals := 346 }
def f_X10_part_J129 (s0 : Int) (m : jMu) : Option (Int × jMu) :=
  (if s0 = (-1) then (f_X10_wrong (m 74 8) m).bind fun r8 => some (0, r8) else (if 0 ≤ s0 ∧ s0 < 6 then some (m 78 s0, m) else none))
def f_X10_part_J50 (m : jMu) : Option (Int × jMu) :=
  (f_X10_has 11 m).bind fun r2 => (if r2.1 = 0 then (f_X10_has 12 r2.2).bind fun r3 => (if r3.1 = 0 then (f_X10_has 13 r3.2).bind fun r4 => (if r4.1 = 0 then (f_X10_has 14 r4.2).bind fun r5 => (if r5.1 = 0 then (f_X10_has 15 r5.2).bind fun r6 => (if r6.1 = 0 then (f_X10_has 16 r6.2).bind fun r7 => (if r7.1 = 0 then f_X10_part_J129 (-1) r7.2 else f_X10_part_J129 5 r7.2) else f_X10_part_J129 4 r6.2) else f_X10_part_J129 3 r5.2) else f_X10_part_J129 2 r4.2) else f_X10_part_J129 1 r3.2) else f_X10_part_J129 0 r2.2)
def f_X10_part (m : jMu) : Option (Int × jMu) :=
  (if m 74 9 = (-1) then (f_X10_skip m).bind fun r1 => (if r1 74 7 ≤ r1 74 8 then f_X10_part_J50 r1 else (f_X10_letter (r1 74 8) r1).bind fun r10 => (f_X10_isIn r10 48 57).bind fun r11 => (if r11 = 0 then f_X10_part_J50 r1 else (f_X10_number 99 r1).bind fun r12 => some (r12.1, r12.2))) else some (0, m))
theorem t_X10_part_J129 {X : jX} (B : jB X cX10_part RX10 2 SKF.length rm_X10_part (some .int)) (s0 : Int) (m : jMu) (r : (Int × jMu)) (hf : f_X10_part_J129 s0 m = some r) (hq : jQ X (.inl (some (jI r.1))) SKF r.2 rm_X10_part.cells rm_X10_part.slots) : J X SKF m 0 0 129 [(0, jR 74)] [jI s0] := by
  unfold f_X10_part_J129 at hf
  refine B_blk B jlkX10_ok jcl_SKF [.istore_n 1, .iload_n 1, .iconst (-1)] (by decide +kernel) (ls' := [(0, jR 74), (1, jI s0)]) (st' := [jI (-1), jI s0]) rfl (p1 := 132) rfl ?_
  refine J_icmp_ne B.1 (off := 13) (tgt := 145) (by decide +kernel) (by decide) hf (fun hf => ?_) (fun hf => ?_)
  · refine B_blk B jlkX10_ok jcl_SKF [.aload_n 0, .aload_n 0, .getfield 64] (by decide +kernel) (ls' := [(0, jR 74), (1, jI s0)]) (st' := [jI (m 74 8), jR 74]) rfl (p1 := 140) rfl ?_
    obtain ⟨r8, h8, hf⟩ := jbd hf
    refine B_callV B (Nat.le_refl _) (μ' := r8) (k' := 0) (n' := 0) ca_X10_wrong in_X10_wrong se_X10_wrong lk_X10_87 (t_X10_wrong B.tr h8) (Nat.le_refl _) rfl rfl rfl (rest := []) rfl rfl (Nat.le_of_ble_eq_true rfl) (by decide +kernel) rfl rfl (st' := []) rfl ?_
    refine B_blk B jlkX10_ok jcl_SKF [.iconst 0] (by decide +kernel) (ls' := [(0, jR 74), (1, jI s0)]) (st' := [jI 0]) rfl (p1 := 144) rfl ?_
    cases hf
    exact B_retI B hq rfl (Nat.le_of_ble_eq_true rfl) (Nat.le_of_ble_eq_true rfl) (by decide +kernel)
  · refine B_blk B jlkX10_ok jcl_SKF [.aload_n 0, .getfield 23, .iload_n 1] (by decide +kernel) (ls' := [(0, jR 74), (1, jI s0)]) (st' := [jI s0, jR 78]) rfl (p1 := 150) rfl ?_
    obtain ⟨g9, hf⟩ := jgd hf
    refine K_iald (lenI := 6) B rfl rfl g9 (by decide +kernel) ?_
    cases hf
    exact B_retI B hq rfl (Nat.le_of_ble_eq_true rfl) (Nat.le_of_ble_eq_true rfl) (by decide +kernel)
theorem t_X10_part_J50 {X : jX} (B : jB X cX10_part RX10 2 SKF.length rm_X10_part (some .int)) (m : jMu) (r : (Int × jMu)) (hf : f_X10_part_J50 m = some r) (hq : jQ X (.inl (some (jI r.1))) SKF r.2 rm_X10_part.cells rm_X10_part.slots) : J X SKF m 0 0 50 [(0, jR 74)] [] := by
  unfold f_X10_part_J50 at hf
  refine B_blk B jlkX10_ok jcl_SKF [.aload_n 0] (by decide +kernel) (ls' := [(0, jR 74)]) (st' := [jR 74]) rfl (p1 := 51) rfl ?_
  refine J_ldcS (i := 11) (r := jXK + 11) B.1 rfl rfl (by decide) (by decide +kernel) ?_
  obtain ⟨r2, h2, hf⟩ := jbd hf
  refine B_callV B (Nat.le_refl _) (μ' := r2.2) (k' := 0) (n' := 0) ca_X10_has in_X10_has se_X10_has lk_X10_96 (t_X10_has B.tr (by decide) h2) (Nat.le_refl _) rfl rfl rfl (rest := []) rfl rfl (Nat.le_of_ble_eq_true rfl) (by decide +kernel) rfl rfl (st' := [jI r2.1]) rfl ?_
  refine J_if_eq B.1 (off := 7) (tgt := 63) (by decide +kernel) (by decide) hf (fun hf => ?_) (fun hf => ?_)
  · refine B_blk B jlkX10_ok jcl_SKF [.aload_n 0] (by decide +kernel) (ls' := [(0, jR 74)]) (st' := [jR 74]) rfl (p1 := 64) rfl ?_
    refine J_ldcS (i := 12) (r := jXK + 12) B.1 rfl rfl (by decide) (by decide +kernel) ?_
    obtain ⟨r3, h3, hf⟩ := jbd hf
    refine B_callV B (Nat.le_refl _) (μ' := r3.2) (k' := 0) (n' := 0) ca_X10_has in_X10_has se_X10_has lk_X10_96 (t_X10_has B.tr (by decide) h3) (Nat.le_refl _) rfl rfl rfl (rest := []) rfl rfl (Nat.le_of_ble_eq_true rfl) (by decide +kernel) rfl rfl (st' := [jI r3.1]) rfl ?_
    refine J_if_eq B.1 (off := 7) (tgt := 76) (by decide +kernel) (by decide) hf (fun hf => ?_) (fun hf => ?_)
    · refine B_blk B jlkX10_ok jcl_SKF [.aload_n 0] (by decide +kernel) (ls' := [(0, jR 74)]) (st' := [jR 74]) rfl (p1 := 77) rfl ?_
      refine J_ldcS (i := 13) (r := jXK + 13) B.1 rfl rfl (by decide) (by decide +kernel) ?_
      obtain ⟨r4, h4, hf⟩ := jbd hf
      refine B_callV B (Nat.le_refl _) (μ' := r4.2) (k' := 0) (n' := 0) ca_X10_has in_X10_has se_X10_has lk_X10_96 (t_X10_has B.tr (by decide) h4) (Nat.le_refl _) rfl rfl rfl (rest := []) rfl rfl (Nat.le_of_ble_eq_true rfl) (by decide +kernel) rfl rfl (st' := [jI r4.1]) rfl ?_
      refine J_if_eq B.1 (off := 7) (tgt := 89) (by decide +kernel) (by decide) hf (fun hf => ?_) (fun hf => ?_)
      · refine B_blk B jlkX10_ok jcl_SKF [.aload_n 0] (by decide +kernel) (ls' := [(0, jR 74)]) (st' := [jR 74]) rfl (p1 := 90) rfl ?_
        refine J_ldcS (i := 14) (r := jXK + 14) B.1 rfl rfl (by decide) (by decide +kernel) ?_
        obtain ⟨r5, h5, hf⟩ := jbd hf
        refine B_callV B (Nat.le_refl _) (μ' := r5.2) (k' := 0) (n' := 0) ca_X10_has in_X10_has se_X10_has lk_X10_96 (t_X10_has B.tr (by decide) h5) (Nat.le_refl _) rfl rfl rfl (rest := []) rfl rfl (Nat.le_of_ble_eq_true rfl) (by decide +kernel) rfl rfl (st' := [jI r5.1]) rfl ?_
        refine J_if_eq B.1 (off := 7) (tgt := 102) (by decide +kernel) (by decide) hf (fun hf => ?_) (fun hf => ?_)
        · refine B_blk B jlkX10_ok jcl_SKF [.aload_n 0] (by decide +kernel) (ls' := [(0, jR 74)]) (st' := [jR 74]) rfl (p1 := 103) rfl ?_
          refine J_ldcS (i := 15) (r := jXK + 15) B.1 rfl rfl (by decide) (by decide +kernel) ?_
          obtain ⟨r6, h6, hf⟩ := jbd hf
          refine B_callV B (Nat.le_refl _) (μ' := r6.2) (k' := 0) (n' := 0) ca_X10_has in_X10_has se_X10_has lk_X10_96 (t_X10_has B.tr (by decide) h6) (Nat.le_refl _) rfl rfl rfl (rest := []) rfl rfl (Nat.le_of_ble_eq_true rfl) (by decide +kernel) rfl rfl (st' := [jI r6.1]) rfl ?_
          refine J_if_eq B.1 (off := 7) (tgt := 115) (by decide +kernel) (by decide) hf (fun hf => ?_) (fun hf => ?_)
          · refine B_blk B jlkX10_ok jcl_SKF [.aload_n 0] (by decide +kernel) (ls' := [(0, jR 74)]) (st' := [jR 74]) rfl (p1 := 116) rfl ?_
            refine J_ldcS (i := 16) (r := jXK + 16) B.1 rfl rfl (by decide) (by decide +kernel) ?_
            obtain ⟨r7, h7, hf⟩ := jbd hf
            refine B_callV B (Nat.le_refl _) (μ' := r7.2) (k' := 0) (n' := 0) ca_X10_has in_X10_has se_X10_has lk_X10_96 (t_X10_has B.tr (by decide) h7) (Nat.le_refl _) rfl rfl rfl (rest := []) rfl rfl (Nat.le_of_ble_eq_true rfl) (by decide +kernel) rfl rfl (st' := [jI r7.1]) rfl ?_
            refine J_if_eq B.1 (off := 7) (tgt := 128) (by decide +kernel) (by decide) hf (fun hf => ?_) (fun hf => ?_)
            · refine B_blk B jlkX10_ok jcl_SKF [.iconst (-1)] (by decide +kernel) (ls' := [(0, jR 74)]) (st' := [jI (-1)]) rfl (p1 := 129) rfl ?_
              exact t_X10_part_J129 B (-1) r7.2 _ hf hq
            · refine B_blk B jlkX10_ok jcl_SKF [.iconst 5, .goto 4] (by decide +kernel) (ls' := [(0, jR 74)]) (st' := [jI 5]) rfl (p1 := 129) rfl ?_
              exact t_X10_part_J129 B 5 r7.2 _ hf hq
          · refine B_blk B jlkX10_ok jcl_SKF [.iconst 4, .goto 17] (by decide +kernel) (ls' := [(0, jR 74)]) (st' := [jI 4]) rfl (p1 := 129) rfl ?_
            exact t_X10_part_J129 B 4 r6.2 _ hf hq
        · refine B_blk B jlkX10_ok jcl_SKF [.iconst 3, .goto 30] (by decide +kernel) (ls' := [(0, jR 74)]) (st' := [jI 3]) rfl (p1 := 129) rfl ?_
          exact t_X10_part_J129 B 3 r5.2 _ hf hq
      · refine B_blk B jlkX10_ok jcl_SKF [.iconst 2, .goto 43] (by decide +kernel) (ls' := [(0, jR 74)]) (st' := [jI 2]) rfl (p1 := 129) rfl ?_
        exact t_X10_part_J129 B 2 r4.2 _ hf hq
    · refine B_blk B jlkX10_ok jcl_SKF [.iconst 1, .goto 56] (by decide +kernel) (ls' := [(0, jR 74)]) (st' := [jI 1]) rfl (p1 := 129) rfl ?_
      exact t_X10_part_J129 B 1 r3.2 _ hf hq
  · refine B_blk B jlkX10_ok jcl_SKF [.iconst 0, .goto 69] (by decide +kernel) (ls' := [(0, jR 74)]) (st' := [jI 0]) rfl (p1 := 129) rfl ?_
    exact t_X10_part_J129 B 0 r2.2 _ hf hq
theorem t_X10_part {l : Launch} {G : jG} (hl : l.stackTraces = false) {m : jMu} {r : (Int × jMu)} (hf : f_X10_part m = some r) : jCt l G yX10_part (.code yX10_part cX10_part 2 (some .int) :: jWG) rm_X10_part [jR 74] SKF m (.inl (some (jI r.1))) SKF r.2 := by
  unfold f_X10_part at hf
  refine J_start (ls0 := [(0, jR 74)]) (by decide +kernel) hl (Nat.le_of_ble_eq_true rfl) rfl fun X C hN hn hR hr hnm hno hq => ?_
  have B : jB X cX10_part RX10 2 SKF.length rm_X10_part (some .int) := ⟨C, hN, Nat.le_of_eq hn, hR, hr⟩
  refine B_blk B jlkX10_ok jcl_SKF [.aload_n 0, .getfield 19, .iconst (-1)] (by decide +kernel) (ls' := [(0, jR 74)]) (st' := [jI (-1), jI (m 74 9)]) rfl (p1 := 5) rfl ?_
  refine J_icmp_eq B.1 (off := 5) (tgt := 10) (by decide +kernel) (by decide) hf (fun hf => ?_) (fun hf => ?_)
  · refine B_blk B jlkX10_ok jcl_SKF [.aload_n 0] (by decide +kernel) (ls' := [(0, jR 74)]) (st' := [jR 74]) rfl (p1 := 11) rfl ?_
    obtain ⟨r1, h1, hf⟩ := jbd hf
    refine B_callV B (Nat.le_refl _) (μ' := r1) (k' := 0) (n' := 0) ca_X10_skip in_X10_skip se_X10_skip lk_X10_74 (t_X10_skip B.tr h1) (Nat.le_refl _) rfl rfl rfl (rest := []) rfl rfl (Nat.le_of_ble_eq_true rfl) (by decide +kernel) rfl rfl (st' := []) rfl ?_
    refine B_blk B jlkX10_ok jcl_SKF [.aload_n 0, .getfield 64, .aload_n 0, .getfield 67] (by decide +kernel) (ls' := [(0, jR 74)]) (st' := [jI (r1 74 7), jI (r1 74 8)]) rfl (p1 := 22) rfl ?_
    refine J_icmp_ge B.1 (off := 28) (tgt := 50) (by decide +kernel) (by decide) hf (fun hf => ?_) (fun hf => ?_)
    · exact t_X10_part_J50 B r1 _ hf hq
    · refine B_blk B jlkX10_ok jcl_SKF [.aload_n 0, .aload_n 0, .getfield 64] (by decide +kernel) (ls' := [(0, jR 74)]) (st' := [jI (r1 74 8), jR 74]) rfl (p1 := 30) rfl ?_
      obtain ⟨r10, h10, hf⟩ := jbd hf
      refine B_callV B (Nat.le_refl _) (μ' := r1) (k' := 0) (n' := 0) ca_X10_letter in_X10_letter se_X10_letter lk_X10_70 (t_X10_letter B.tr h10) (Nat.le_refl _) rfl rfl rfl (rest := []) rfl rfl (Nat.le_of_ble_eq_true rfl) (by decide +kernel) rfl rfl (st' := [jI r10]) rfl ?_
      refine B_blk B jlkX10_ok jcl_SKF [.bipush 48, .bipush 57] (by decide +kernel) (ls' := [(0, jR 74)]) (st' := [jI 57, jI 48, jI r10]) rfl (p1 := 37) rfl ?_
      obtain ⟨r11, h11, hf⟩ := jbd hf
      refine B_callS B (Nat.le_refl _) (μ' := r1) (k' := 0) (n' := 0) ca_X10_isIn sa_X10_isIn lk_X10_54 (t_X10_isIn B.tr jcl_SKF h11) (Nat.le_refl _) rfl (rest := []) rfl rfl (Nat.le_of_ble_eq_true rfl) (by decide +kernel) rfl rfl (st' := [jI r11]) rfl ?_
      refine J_if_eq B.1 (off := 10) (tgt := 50) (by decide +kernel) (by decide) hf (fun hf => ?_) (fun hf => ?_)
      · exact t_X10_part_J50 B r1 _ hf hq
      · refine B_blk B jlkX10_ok jcl_SKF [.aload_n 0, .bipush 99] (by decide +kernel) (ls' := [(0, jR 74)]) (st' := [jI 99, jR 74]) rfl (p1 := 46) rfl ?_
        obtain ⟨r12, h12, hf⟩ := jbd hf
        refine B_callV B (Nat.le_refl _) (μ' := r12.2) (k' := 0) (n' := 0) ca_X10_number in_X10_number se_X10_number lk_X10_91 (t_X10_number B.tr h12) (Nat.le_refl _) rfl rfl rfl (rest := []) rfl rfl (Nat.le_of_ble_eq_true rfl) (by decide +kernel) rfl rfl (st' := [jI r12.1]) rfl ?_
        cases hf
        exact B_retI B hq rfl (Nat.le_of_ble_eq_true rfl) (Nat.le_of_ble_eq_true rfl) (by decide +kernel)
  · refine B_blk B jlkX10_ok jcl_SKF [.iconst 0] (by decide +kernel) (ls' := [(0, jR 74)]) (st' := [jI 0]) rfl (p1 := 9) rfl ?_
    cases hf
    exact B_retI B hq rfl (Nat.le_of_ble_eq_true rfl) (Nat.le_of_ble_eq_true rfl) (by decide +kernel)

def rm_X10_sum : Room := { frames := 11, cells := 0, slots := 0, locals := 367 }
def f_X10_sum_L5 : Nat → Int → jMu → Option (Int × jMu)
  | 0, _, _ => none
  | q + 1, v1, m => (if m 74 9 = (-1) then (f_X10_isSign 43 m).bind fun r2 => (if r2.1 = 0 then some (v1, r2.2) else (jlt (jup r2.2 74 8 (jW (r2.2 74 8 + 1))) fun m3 => (f_X10_part m3).bind fun r4 => f_X10_sum_L5 q (jW (v1 + r4.1)) r4.2)) else some (v1, m))
def f_X10_sum (m : jMu) : Option (Int × jMu) :=
  (f_X10_part m).bind fun r1 => f_X10_sum_L5 jFU r1.1 r1.2
theorem t_X10_sum_L5 {X : jX} (B : jB X cX10_sum RX10 2 SKF.length rm_X10_sum (some .int)) : ∀ (q : Nat) (v1 : Int) (m : jMu) (r : (Int × jMu)), f_X10_sum_L5 q v1 m = some r → jQ X (.inl (some (jI r.1))) SKF r.2 rm_X10_sum.cells rm_X10_sum.slots → J X SKF m 0 0 5 [(0, jR 74), (1, jI v1)] [] := by
  intro q
  induction q with
  | zero =>
    intro v1 m r hf
    rw [f_X10_sum_L5] at hf
    cases hf
  | succ q ih =>
    intro v1 m r hf hq
    rw [f_X10_sum_L5] at hf
    refine B_blk B jlkX10_ok jcl_SKF [.aload_n 0, .getfield 19, .iconst (-1)] (by decide +kernel) (ls' := [(0, jR 74), (1, jI v1)]) (st' := [jI (-1), jI (m 74 9)]) rfl (p1 := 10) rfl ?_
    refine J_icmp_ne B.1 (off := 32) (tgt := 42) (by decide +kernel) (by decide) hf (fun hf => ?_) (fun hf => ?_)
    · refine B_blk B jlkX10_ok jcl_SKF [.aload_n 0, .bipush 43] (by decide +kernel) (ls' := [(0, jR 74), (1, jI v1)]) (st' := [jI 43, jR 74]) rfl (p1 := 16) rfl ?_
      obtain ⟨r2, h2, hf⟩ := jbd hf
      refine B_callV B (Nat.le_refl _) (μ' := r2.2) (k' := 0) (n' := 0) ca_X10_isSign in_X10_isSign se_X10_isSign lk_X10_113 (t_X10_isSign B.tr h2) (Nat.le_refl _) rfl rfl rfl (rest := []) rfl rfl (Nat.le_of_ble_eq_true rfl) (by decide +kernel) rfl rfl (st' := [jI r2.1]) rfl ?_
      refine J_if_eq B.1 (off := 23) (tgt := 42) (by decide +kernel) (by decide) hf (fun hf => ?_) (fun hf => ?_)
      · refine B_blk B jlkX10_ok jcl_SKF [.iload_n 1] (by decide +kernel) (ls' := [(0, jR 74), (1, jI v1)]) (st' := [jI v1]) rfl (p1 := 43) rfl ?_
        cases hf
        exact B_retI B hq rfl (Nat.le_of_ble_eq_true rfl) (Nat.le_of_ble_eq_true rfl) (by decide +kernel)
      · refine B_blk B jlkX10_ok jcl_SKF [.aload_n 0, .dup, .getfield 64, .iconst 1, .iadd] (by decide +kernel) (ls' := [(0, jR 74), (1, jI v1)]) (st' := [jI (jW (r2.2 74 8 + 1)), jR 74]) rfl (p1 := 29) rfl ?_
        refine K_putI (jI' := 8) B jp_X10_64 rfl rfl rfl (by decide +kernel) ?_
        obtain ⟨m3, hm3, hf⟩ := jlt_s hf
        rw [hm3]
        refine B_blk B jlkX10_ok jcl_SKF [.iload_n 1, .aload_n 0] (by decide +kernel) (ls' := [(0, jR 74), (1, jI v1)]) (st' := [jR 74, jI v1]) rfl (p1 := 34) rfl ?_
        obtain ⟨r4, h4, hf⟩ := jbd hf
        refine B_callV B (Nat.le_refl _) (μ' := r4.2) (k' := 0) (n' := 0) ca_X10_part in_X10_part se_X10_part lk_X10_110 (t_X10_part B.tr h4) (Nat.le_refl _) rfl rfl rfl (rest := [jI v1]) rfl rfl (Nat.le_of_ble_eq_true rfl) (by decide +kernel) rfl rfl (st' := [jI r4.1, jI v1]) rfl ?_
        refine B_blk B jlkX10_ok jcl_SKF [.iadd, .istore_n 1, .goto (-34)] (by decide +kernel) (ls' := [(0, jR 74), (1, jI (jW (v1 + r4.1)))]) (st' := []) rfl (p1 := 5) rfl ?_
        exact ih (jW (v1 + r4.1)) r4.2 _ hf hq
    · refine B_blk B jlkX10_ok jcl_SKF [.iload_n 1] (by decide +kernel) (ls' := [(0, jR 74), (1, jI v1)]) (st' := [jI v1]) rfl (p1 := 43) rfl ?_
      cases hf
      exact B_retI B hq rfl (Nat.le_of_ble_eq_true rfl) (Nat.le_of_ble_eq_true rfl) (by decide +kernel)
theorem t_X10_sum {l : Launch} {G : jG} (hl : l.stackTraces = false) {m : jMu} {r : (Int × jMu)} (hf : f_X10_sum m = some r) : jCt l G yX10_sum (.code yX10_sum cX10_sum 2 (some .int) :: jWG) rm_X10_sum [jR 74] SKF m (.inl (some (jI r.1))) SKF r.2 := by
  unfold f_X10_sum at hf
  refine J_start (ls0 := [(0, jR 74)]) (by decide +kernel) hl (Nat.le_of_ble_eq_true rfl) rfl fun X C hN hn hR hr hnm hno hq => ?_
  have B : jB X cX10_sum RX10 2 SKF.length rm_X10_sum (some .int) := ⟨C, hN, Nat.le_of_eq hn, hR, hr⟩
  refine B_blk B jlkX10_ok jcl_SKF [.aload_n 0] (by decide +kernel) (ls' := [(0, jR 74)]) (st' := [jR 74]) rfl (p1 := 1) rfl ?_
  obtain ⟨r1, h1, hf⟩ := jbd hf
  refine B_callV B (Nat.le_refl _) (μ' := r1.2) (k' := 0) (n' := 0) ca_X10_part in_X10_part se_X10_part lk_X10_110 (t_X10_part B.tr h1) (Nat.le_refl _) rfl rfl rfl (rest := []) rfl rfl (Nat.le_of_ble_eq_true rfl) (by decide +kernel) rfl rfl (st' := [jI r1.1]) rfl ?_
  refine B_blk B jlkX10_ok jcl_SKF [.istore_n 1] (by decide +kernel) (ls' := [(0, jR 74), (1, jI r1.1)]) (st' := []) rfl (p1 := 5) rfl ?_
  exact t_X10_sum_L5 B jFU r1.1 r1.2 _ hf hq

def rm_X10_plain : Room := { frames := 13, cells := 0, slots := 0, locals := 388 }
def f_X10_plain_J87 (v1 : Int) (v2 : Int) (m : jMu) : Option (Int × jMu) :=
  (jlt (jup m 74 8 (jW (m 74 8 + 1))) fun m8 => (f_X10_sum m8).bind fun r9 => (if v2 = 0 then (if v1 ≤ r9.1 then some (0, r9.2) else some (1, r9.2)) else (if r9.1 ≤ v1 then some (0, r9.2) else some (1, r9.2))))
def f_X10_plain (m : jMu) : Option (Int × jMu) :=
  (f_X10_has 8 m).bind fun r1 => (if r1.1 = 0 then (f_X10_has 9 r1.2).bind fun r2 => (if r2.1 = 0 then (f_X10_has 10 r2.2).bind fun r3 => (if r3.1 = 0 then (f_X10_sum r3.2).bind fun r4 => (if r4.2 74 9 = (-1) then (f_X10_isSign 60 r4.2).bind fun r5 => (if r5.1 = 0 then (f_X10_isSign 62 r5.2).bind fun r6 => (if r6.1 = 0 then (f_X10_wrong (r6.2 74 8) r6.2).bind fun r7 => some (0, r7) else f_X10_plain_J87 r4.1 r5.1 r6.2) else f_X10_plain_J87 r4.1 r5.1 r5.2) else some (0, r4.2)) else (if r3.2 74 14 = 0 ∨ r3.2 74 14 = 1 then some (r3.2 74 14, r3.2) else none)) else (if r2.2 74 13 = 0 ∨ r2.2 74 13 = 1 then some (r2.2 74 13, r2.2) else none)) else (if r1.2 74 12 = 0 ∨ r1.2 74 12 = 1 then some (r1.2 74 12, r1.2) else none))
theorem t_X10_plain_J87 {X : jX} (B : jB X cX10_plain RX10 4 SKF.length rm_X10_plain (some .boolean)) (v1 : Int) (v2 : Int) (m : jMu) (r : (Int × jMu)) (hf : f_X10_plain_J87 v1 v2 m = some r) (hq : jQ X (.inl (some (jI r.1))) SKF r.2 rm_X10_plain.cells rm_X10_plain.slots) : J X SKF m 0 0 87 [(0, jR 74), (1, jI v1), (2, jI v2)] [] := by
  unfold f_X10_plain_J87 at hf
  refine B_blk B jlkX10_ok jcl_SKF [.aload_n 0, .dup, .getfield 64, .iconst 1, .iadd] (by decide +kernel) (ls' := [(0, jR 74), (1, jI v1), (2, jI v2)]) (st' := [jI (jW (m 74 8 + 1)), jR 74]) rfl (p1 := 94) rfl ?_
  refine K_putI (jI' := 8) B jp_X10_64 rfl rfl rfl (by decide +kernel) ?_
  obtain ⟨m8, hm8, hf⟩ := jlt_s hf
  rw [hm8]
  refine B_blk B jlkX10_ok jcl_SKF [.aload_n 0] (by decide +kernel) (ls' := [(0, jR 74), (1, jI v1), (2, jI v2)]) (st' := [jR 74]) rfl (p1 := 98) rfl ?_
  obtain ⟨r9, h9, hf⟩ := jbd hf
  refine B_callV B (Nat.le_refl _) (μ' := r9.2) (k' := 0) (n' := 0) ca_X10_sum in_X10_sum se_X10_sum lk_X10_133 (t_X10_sum B.tr h9) (Nat.le_refl _) rfl rfl rfl (rest := []) rfl rfl (Nat.le_of_ble_eq_true rfl) (by decide +kernel) rfl rfl (st' := [jI r9.1]) rfl ?_
  refine B_blk B jlkX10_ok jcl_SKF [.istore_n 3, .iload_n 2] (by decide +kernel) (ls' := [(0, jR 74), (1, jI v1), (2, jI v2), (3, jI r9.1)]) (st' := [jI v2]) rfl (p1 := 103) rfl ?_
  refine J_if_eq B.1 (off := 16) (tgt := 119) (by decide +kernel) (by decide) hf (fun hf => ?_) (fun hf => ?_)
  · refine B_blk B jlkX10_ok jcl_SKF [.iload_n 1, .iload_n 3] (by decide +kernel) (ls' := [(0, jR 74), (1, jI v1), (2, jI v2), (3, jI r9.1)]) (st' := [jI r9.1, jI v1]) rfl (p1 := 121) rfl ?_
    refine J_icmp_le B.1 (off := 7) (tgt := 128) (by decide +kernel) (by decide) hf (fun hf => ?_) (fun hf => ?_)
    · refine B_blk B jlkX10_ok jcl_SKF [.iconst 0] (by decide +kernel) (ls' := [(0, jR 74), (1, jI v1), (2, jI v2), (3, jI r9.1)]) (st' := [jI 0]) rfl (p1 := 129) rfl ?_
      cases hf
      exact B_retZ B (Or.inl rfl) hq rfl (Nat.le_of_ble_eq_true rfl) (Nat.le_of_ble_eq_true rfl) (by decide +kernel)
    · refine B_blk B jlkX10_ok jcl_SKF [.iconst 1, .goto 4] (by decide +kernel) (ls' := [(0, jR 74), (1, jI v1), (2, jI v2), (3, jI r9.1)]) (st' := [jI 1]) rfl (p1 := 129) rfl ?_
      cases hf
      exact B_retZ B (Or.inr rfl) hq rfl (Nat.le_of_ble_eq_true rfl) (Nat.le_of_ble_eq_true rfl) (by decide +kernel)
  · refine B_blk B jlkX10_ok jcl_SKF [.iload_n 1, .iload_n 3] (by decide +kernel) (ls' := [(0, jR 74), (1, jI v1), (2, jI v2), (3, jI r9.1)]) (st' := [jI r9.1, jI v1]) rfl (p1 := 108) rfl ?_
    refine J_icmp_ge B.1 (off := 7) (tgt := 115) (by decide +kernel) (by decide) hf (fun hf => ?_) (fun hf => ?_)
    · refine B_blk B jlkX10_ok jcl_SKF [.iconst 0, .goto 13] (by decide +kernel) (ls' := [(0, jR 74), (1, jI v1), (2, jI v2), (3, jI r9.1)]) (st' := [jI 0]) rfl (p1 := 129) rfl ?_
      cases hf
      exact B_retZ B (Or.inl rfl) hq rfl (Nat.le_of_ble_eq_true rfl) (Nat.le_of_ble_eq_true rfl) (by decide +kernel)
    · refine B_blk B jlkX10_ok jcl_SKF [.iconst 1, .goto 17] (by decide +kernel) (ls' := [(0, jR 74), (1, jI v1), (2, jI v2), (3, jI r9.1)]) (st' := [jI 1]) rfl (p1 := 129) rfl ?_
      cases hf
      exact B_retZ B (Or.inr rfl) hq rfl (Nat.le_of_ble_eq_true rfl) (Nat.le_of_ble_eq_true rfl) (by decide +kernel)
theorem t_X10_plain {l : Launch} {G : jG} (hl : l.stackTraces = false) {m : jMu} {r : (Int × jMu)} (hf : f_X10_plain m = some r) : jCt l G yX10_plain (.code yX10_plain cX10_plain 4 (some .boolean) :: jWG) rm_X10_plain [jR 74] SKF m (.inl (some (jI r.1))) SKF r.2 := by
  unfold f_X10_plain at hf
  refine J_start (ls0 := [(0, jR 74)]) (by decide +kernel) hl (Nat.le_of_ble_eq_true rfl) rfl fun X C hN hn hR hr hnm hno hq => ?_
  have B : jB X cX10_plain RX10 4 SKF.length rm_X10_plain (some .boolean) := ⟨C, hN, Nat.le_of_eq hn, hR, hr⟩
  refine B_blk B jlkX10_ok jcl_SKF [.aload_n 0] (by decide +kernel) (ls' := [(0, jR 74)]) (st' := [jR 74]) rfl (p1 := 1) rfl ?_
  refine J_ldcS (i := 8) (r := jXK + 8) B.1 rfl rfl (by decide) (by decide +kernel) ?_
  obtain ⟨r1, h1, hf⟩ := jbd hf
  refine B_callV B (Nat.le_refl _) (μ' := r1.2) (k' := 0) (n' := 0) ca_X10_has in_X10_has se_X10_has lk_X10_96 (t_X10_has B.tr (by decide) h1) (Nat.le_refl _) rfl rfl rfl (rest := []) rfl rfl (Nat.le_of_ble_eq_true rfl) (by decide +kernel) rfl rfl (st' := [jI r1.1]) rfl ?_
  refine J_if_eq B.1 (off := 8) (tgt := 14) (by decide +kernel) (by decide) hf (fun hf => ?_) (fun hf => ?_)
  · refine B_blk B jlkX10_ok jcl_SKF [.aload_n 0] (by decide +kernel) (ls' := [(0, jR 74)]) (st' := [jR 74]) rfl (p1 := 15) rfl ?_
    refine J_ldcS (i := 9) (r := jXK + 9) B.1 rfl rfl (by decide) (by decide +kernel) ?_
    obtain ⟨r2, h2, hf⟩ := jbd hf
    refine B_callV B (Nat.le_refl _) (μ' := r2.2) (k' := 0) (n' := 0) ca_X10_has in_X10_has se_X10_has lk_X10_96 (t_X10_has B.tr (by decide) h2) (Nat.le_refl _) rfl rfl rfl (rest := []) rfl rfl (Nat.le_of_ble_eq_true rfl) (by decide +kernel) rfl rfl (st' := [jI r2.1]) rfl ?_
    refine J_if_eq B.1 (off := 8) (tgt := 28) (by decide +kernel) (by decide) hf (fun hf => ?_) (fun hf => ?_)
    · refine B_blk B jlkX10_ok jcl_SKF [.aload_n 0] (by decide +kernel) (ls' := [(0, jR 74)]) (st' := [jR 74]) rfl (p1 := 29) rfl ?_
      refine J_ldcS (i := 10) (r := jXK + 10) B.1 rfl rfl (by decide) (by decide +kernel) ?_
      obtain ⟨r3, h3, hf⟩ := jbd hf
      refine B_callV B (Nat.le_refl _) (μ' := r3.2) (k' := 0) (n' := 0) ca_X10_has in_X10_has se_X10_has lk_X10_96 (t_X10_has B.tr (by decide) h3) (Nat.le_refl _) rfl rfl rfl (rest := []) rfl rfl (Nat.le_of_ble_eq_true rfl) (by decide +kernel) rfl rfl (st' := [jI r3.1]) rfl ?_
      refine J_if_eq B.1 (off := 8) (tgt := 42) (by decide +kernel) (by decide) hf (fun hf => ?_) (fun hf => ?_)
      · refine B_blk B jlkX10_ok jcl_SKF [.aload_n 0] (by decide +kernel) (ls' := [(0, jR 74)]) (st' := [jR 74]) rfl (p1 := 43) rfl ?_
        obtain ⟨r4, h4, hf⟩ := jbd hf
        refine B_callV B (Nat.le_refl _) (μ' := r4.2) (k' := 0) (n' := 0) ca_X10_sum in_X10_sum se_X10_sum lk_X10_133 (t_X10_sum B.tr h4) (Nat.le_refl _) rfl rfl rfl (rest := []) rfl rfl (Nat.le_of_ble_eq_true rfl) (by decide +kernel) rfl rfl (st' := [jI r4.1]) rfl ?_
        refine B_blk B jlkX10_ok jcl_SKF [.istore_n 1, .aload_n 0, .getfield 19, .iconst (-1)] (by decide +kernel) (ls' := [(0, jR 74), (1, jI r4.1)]) (st' := [jI (-1), jI (r4.2 74 9)]) rfl (p1 := 52) rfl ?_
        refine J_icmp_eq B.1 (off := 5) (tgt := 57) (by decide +kernel) (by decide) hf (fun hf => ?_) (fun hf => ?_)
        · refine B_blk B jlkX10_ok jcl_SKF [.aload_n 0, .bipush 60] (by decide +kernel) (ls' := [(0, jR 74), (1, jI r4.1)]) (st' := [jI 60, jR 74]) rfl (p1 := 60) rfl ?_
          obtain ⟨r5, h5, hf⟩ := jbd hf
          refine B_callV B (Nat.le_refl _) (μ' := r5.2) (k' := 0) (n' := 0) ca_X10_isSign in_X10_isSign se_X10_isSign lk_X10_113 (t_X10_isSign B.tr h5) (Nat.le_refl _) rfl rfl rfl (rest := []) rfl rfl (Nat.le_of_ble_eq_true rfl) (by decide +kernel) rfl rfl (st' := [jI r5.1]) rfl ?_
          refine B_blk B jlkX10_ok jcl_SKF [.istore_n 2, .iload_n 2] (by decide +kernel) (ls' := [(0, jR 74), (1, jI r4.1), (2, jI r5.1)]) (st' := [jI r5.1]) rfl (p1 := 65) rfl ?_
          refine J_if_ne B.1 (off := 22) (tgt := 87) (by decide +kernel) (by decide) hf (fun hf => ?_) (fun hf => ?_)
          · refine B_blk B jlkX10_ok jcl_SKF [.aload_n 0, .bipush 62] (by decide +kernel) (ls' := [(0, jR 74), (1, jI r4.1), (2, jI r5.1)]) (st' := [jI 62, jR 74]) rfl (p1 := 71) rfl ?_
            obtain ⟨r6, h6, hf⟩ := jbd hf
            refine B_callV B (Nat.le_refl _) (μ' := r6.2) (k' := 0) (n' := 0) ca_X10_isSign in_X10_isSign se_X10_isSign lk_X10_113 (t_X10_isSign B.tr h6) (Nat.le_refl _) rfl rfl rfl (rest := []) rfl rfl (Nat.le_of_ble_eq_true rfl) (by decide +kernel) rfl rfl (st' := [jI r6.1]) rfl ?_
            refine J_if_ne B.1 (off := 13) (tgt := 87) (by decide +kernel) (by decide) hf (fun hf => ?_) (fun hf => ?_)
            · refine B_blk B jlkX10_ok jcl_SKF [.aload_n 0, .aload_n 0, .getfield 64] (by decide +kernel) (ls' := [(0, jR 74), (1, jI r4.1), (2, jI r5.1)]) (st' := [jI (r6.2 74 8), jR 74]) rfl (p1 := 82) rfl ?_
              obtain ⟨r7, h7, hf⟩ := jbd hf
              refine B_callV B (Nat.le_refl _) (μ' := r7) (k' := 0) (n' := 0) ca_X10_wrong in_X10_wrong se_X10_wrong lk_X10_87 (t_X10_wrong B.tr h7) (Nat.le_refl _) rfl rfl rfl (rest := []) rfl rfl (Nat.le_of_ble_eq_true rfl) (by decide +kernel) rfl rfl (st' := []) rfl ?_
              refine B_blk B jlkX10_ok jcl_SKF [.iconst 0] (by decide +kernel) (ls' := [(0, jR 74), (1, jI r4.1), (2, jI r5.1)]) (st' := [jI 0]) rfl (p1 := 86) rfl ?_
              cases hf
              exact B_retZ B (Or.inl rfl) hq rfl (Nat.le_of_ble_eq_true rfl) (Nat.le_of_ble_eq_true rfl) (by decide +kernel)
            · exact t_X10_plain_J87 B r4.1 r5.1 r6.2 _ hf hq
          · exact t_X10_plain_J87 B r4.1 r5.1 r5.2 _ hf hq
        · refine B_blk B jlkX10_ok jcl_SKF [.iconst 0] (by decide +kernel) (ls' := [(0, jR 74), (1, jI r4.1)]) (st' := [jI 0]) rfl (p1 := 56) rfl ?_
          cases hf
          exact B_retZ B (Or.inl rfl) hq rfl (Nat.le_of_ble_eq_true rfl) (Nat.le_of_ble_eq_true rfl) (by decide +kernel)
      · refine B_blk B jlkX10_ok jcl_SKF [.aload_n 0, .getfield 130] (by decide +kernel) (ls' := [(0, jR 74)]) (st' := [jI (r3.2 74 14)]) rfl (p1 := 41) rfl ?_
        obtain ⟨gz, hf⟩ := jgd hf
        cases hf
        exact B_retZ B gz hq rfl (Nat.le_of_ble_eq_true rfl) (Nat.le_of_ble_eq_true rfl) (by decide +kernel)
    · refine B_blk B jlkX10_ok jcl_SKF [.aload_n 0, .getfield 125] (by decide +kernel) (ls' := [(0, jR 74)]) (st' := [jI (r2.2 74 13)]) rfl (p1 := 27) rfl ?_
      obtain ⟨gz, hf⟩ := jgd hf
      cases hf
      exact B_retZ B gz hq rfl (Nat.le_of_ble_eq_true rfl) (Nat.le_of_ble_eq_true rfl) (by decide +kernel)
  · refine B_blk B jlkX10_ok jcl_SKF [.aload_n 0, .getfield 119] (by decide +kernel) (ls' := [(0, jR 74)]) (st' := [jI (r1.2 74 12)]) rfl (p1 := 13) rfl ?_
    obtain ⟨gz, hf⟩ := jgd hf
    cases hf
    exact B_retZ B gz hq rfl (Nat.le_of_ble_eq_true rfl) (Nat.le_of_ble_eq_true rfl) (by decide +kernel)

def f_X10_every_L5 (rec : jMu → Option (Int × jMu)) : Nat → Int → jMu → Option (Int × jMu)
  | 0, _, _ => none
  | q + 1, v1, m => (if m 74 9 = (-1) then (f_X10_has 17 m).bind fun r2 => (if r2.1 = 0 then (if v1 = 0 ∨ v1 = 1 then some (v1, r2.2) else none) else (rec r2.2).bind fun r3 => (if v1 = 0 then f_X10_every_L5 rec q 0 r3.2 else (if r3.1 = 0 then f_X10_every_L5 rec q 0 r3.2 else f_X10_every_L5 rec q 1 r3.2))) else (if v1 = 0 ∨ v1 = 1 then some (v1, m) else none))
def f_X10_every (rec : jMu → Option (Int × jMu)) (m : jMu) : Option (Int × jMu) :=
  (rec m).bind fun r1 => f_X10_every_L5 rec jFU r1.1 r1.2

def f_X10_some_L5 (rec : jMu → Option (Int × jMu)) : Nat → Int → jMu → Option (Int × jMu)
  | 0, _, _ => none
  | q + 1, v1, m => (if m 74 9 = (-1) then (f_X10_has 18 m).bind fun r2 => (if r2.1 = 0 then (if v1 = 0 ∨ v1 = 1 then some (v1, r2.2) else none) else (f_X10_every rec r2.2).bind fun r3 => (if v1 = 0 then (if r3.1 = 0 then f_X10_some_L5 rec q 0 r3.2 else f_X10_some_L5 rec q 1 r3.2) else f_X10_some_L5 rec q 1 r3.2)) else (if v1 = 0 ∨ v1 = 1 then some (v1, m) else none))
def f_X10_some (rec : jMu → Option (Int × jMu)) (m : jMu) : Option (Int × jMu) :=
  (f_X10_every rec m).bind fun r1 => f_X10_some_L5 rec jFU r1.1 r1.2

def f_X10_atom_J44 (rec : jMu → Option (Int × jMu)) (v1 : Int) (v2 : Int) (m : jMu) : Option (Int × jMu) :=
  (if m 74 10 = 6 then (f_X10_wrong v1 m).bind fun r5 => some (0, r5) else (jlt (jup m 74 10 (jW (m 74 10 + 1))) fun m6 => (if v2 = 0 then (jlt (jup m6 74 8 (jW (m6 74 8 + 1))) fun m7 => (f_X10_some rec m7).bind fun r8 => (if r8.2 74 9 = (-1) then (f_X10_isSign 41 r8.2).bind fun r9 => (if r9.1 = 0 then (f_X10_wrong (r9.2 74 8) r9.2).bind fun r10 => (jlt (jup r10 74 8 (jW (r10 74 8 + 1))) fun m11 => (jlt (jup m11 74 10 (jW (m11 74 10 - 1))) fun m12 => (if r8.1 = 0 ∨ r8.1 = 1 then some (r8.1, m12) else none))) else (jlt (jup r9.2 74 8 (jW (r9.2 74 8 + 1))) fun m13 => (jlt (jup m13 74 10 (jW (m13 74 10 - 1))) fun m14 => (if r8.1 = 0 ∨ r8.1 = 1 then some (r8.1, m14) else none)))) else (jlt (jup r8.2 74 8 (jW (r8.2 74 8 + 1))) fun m15 => (jlt (jup m15 74 10 (jW (m15 74 10 - 1))) fun m16 => (if r8.1 = 0 ∨ r8.1 = 1 then some (r8.1, m16) else none))))) else (rec m6).bind fun r17 => (if r17.1 = 0 then (jlt (jup r17.2 74 10 (jW (r17.2 74 10 - 1))) fun m18 => some (1, m18)) else (jlt (jup r17.2 74 10 (jW (r17.2 74 10 - 1))) fun m19 => some (0, m19))))))
def f_X10_atom (rec : jMu → Option (Int × jMu)) (m : jMu) : Option (Int × jMu) :=
  (if m 74 9 = (-1) then (f_X10_skip m).bind fun r1 => (f_X10_has 7 r1).bind fun r2 => (if r2.1 = 0 then (f_X10_isSign 40 r2.2).bind fun r3 => (if r3.1 = 0 then (f_X10_plain r3.2).bind fun r4 => (if r4.1 = 0 ∨ r4.1 = 1 then some (r4.1, r4.2) else none) else f_X10_atom_J44 rec (r1 74 8) r2.1 r3.2) else f_X10_atom_J44 rec (r1 74 8) r2.1 r2.2) else some (0, m))
def fr_X10_atom : Nat → jMu → Option (Int × jMu)
  | 0, _ => none
  | d + 1, x0 => f_X10_atom (fr_X10_atom d) x0

def rm_X10_atom_0 : Room := { frames := 2, cells := 0, slots := 0, locals := 64 }
theorem t_X10_atom_0 {l : Launch} {G : jG} (hl : l.stackTraces = false) {m : jMu} {r : (Int × jMu)} (hf : fr_X10_atom 0 m = some r) : jCt l G yX10_atom (.code yX10_atom cX10_atom 4 (some .boolean) :: jWG) rm_X10_atom_0 [jR 74] SKF m (.inl (some (jI r.1))) SKF r.2 := by
  rw [fr_X10_atom] at hf
  cases hf

def rm_X10_every_0 : Room := { frames := 9, cells := 0, slots := 0, locals := 346 }
theorem t_X10_every_L5_0 {X : jX} (B : jB X cX10_every RX10 3 SKF.length rm_X10_every_0 (some .boolean)) : ∀ (q : Nat) (v1 : Int) (m : jMu) (r : (Int × jMu)), f_X10_every_L5 (fr_X10_atom 0) q v1 m = some r → jQ X (.inl (some (jI r.1))) SKF r.2 rm_X10_every_0.cells rm_X10_every_0.slots → J X SKF m 0 0 5 [(0, jR 74), (1, jI v1)] [] := by
  intro q
  induction q with
  | zero =>
    intro v1 m r hf
    rw [f_X10_every_L5] at hf
    cases hf
  | succ q ih =>
    intro v1 m r hf hq
    rw [f_X10_every_L5] at hf
    refine B_blk B jlkX10_ok jcl_SKF [.aload_n 0, .getfield 19, .iconst (-1)] (by decide +kernel) (ls' := [(0, jR 74), (1, jI v1)]) (st' := [jI (-1), jI (m 74 9)]) rfl (p1 := 10) rfl ?_
    refine J_icmp_ne B.1 (off := 34) (tgt := 44) (by decide +kernel) (by decide) hf (fun hf => ?_) (fun hf => ?_)
    · refine B_blk B jlkX10_ok jcl_SKF [.aload_n 0] (by decide +kernel) (ls' := [(0, jR 74), (1, jI v1)]) (st' := [jR 74]) rfl (p1 := 14) rfl ?_
      refine J_ldcS (i := 17) (r := jXK + 17) B.1 rfl rfl (by decide) (by decide +kernel) ?_
      obtain ⟨r2, h2, hf⟩ := jbd hf
      refine B_callV B (Nat.le_refl _) (μ' := r2.2) (k' := 0) (n' := 0) ca_X10_has in_X10_has se_X10_has lk_X10_96 (t_X10_has B.tr (by decide) h2) (Nat.le_refl _) rfl rfl rfl (rest := []) rfl rfl (Nat.le_of_ble_eq_true rfl) (by decide +kernel) rfl rfl (st' := [jI r2.1]) rfl ?_
      refine J_if_eq B.1 (off := 25) (tgt := 44) (by decide +kernel) (by decide) hf (fun hf => ?_) (fun hf => ?_)
      · refine B_blk B jlkX10_ok jcl_SKF [.iload_n 1] (by decide +kernel) (ls' := [(0, jR 74), (1, jI v1)]) (st' := [jI v1]) rfl (p1 := 45) rfl ?_
        obtain ⟨gz, hf⟩ := jgd hf
        cases hf
        exact B_retZ B gz hq rfl (Nat.le_of_ble_eq_true rfl) (Nat.le_of_ble_eq_true rfl) (by decide +kernel)
      · refine B_blk B jlkX10_ok jcl_SKF [.aload_n 0] (by decide +kernel) (ls' := [(0, jR 74), (1, jI v1)]) (st' := [jR 74]) rfl (p1 := 23) rfl ?_
        obtain ⟨r3, h3, hf⟩ := jbd hf
        refine B_callV B (Nat.le_refl _) (μ' := r3.2) (k' := 0) (n' := 0) ca_X10_atom in_X10_atom se_X10_atom lk_X10_145 (t_X10_atom_0 B.tr h3) (Nat.le_refl _) rfl rfl rfl (rest := []) rfl rfl (Nat.le_of_ble_eq_true rfl) (by decide +kernel) rfl rfl (st' := [jI r3.1]) rfl ?_
        refine B_blk B jlkX10_ok jcl_SKF [.istore_n 2, .iload_n 1] (by decide +kernel) (ls' := [(0, jR 74), (1, jI v1), (2, jI r3.1)]) (st' := [jI v1]) rfl (p1 := 28) rfl ?_
        refine J_if_eq B.1 (off := 11) (tgt := 39) (by decide +kernel) (by decide) hf (fun hf => ?_) (fun hf => ?_)
        · refine B_blk B jlkX10_ok jcl_SKF [.iconst 0, .istore_n 1, .goto (-36)] (by decide +kernel) (ls' := [(0, jR 74), (1, jI 0), (2, jI r3.1)]) (st' := []) rfl (p1 := 5) rfl ?_
          refine J_pick [0, 1] (ls' := [(0, jR 74), (1, jI 0)]) rfl ?_
          exact ih 0 r3.2 _ hf hq
        · refine B_blk B jlkX10_ok jcl_SKF [.iload_n 2] (by decide +kernel) (ls' := [(0, jR 74), (1, jI v1), (2, jI r3.1)]) (st' := [jI r3.1]) rfl (p1 := 32) rfl ?_
          refine J_if_eq B.1 (off := 7) (tgt := 39) (by decide +kernel) (by decide) hf (fun hf => ?_) (fun hf => ?_)
          · refine B_blk B jlkX10_ok jcl_SKF [.iconst 0, .istore_n 1, .goto (-36)] (by decide +kernel) (ls' := [(0, jR 74), (1, jI 0), (2, jI r3.1)]) (st' := []) rfl (p1 := 5) rfl ?_
            refine J_pick [0, 1] (ls' := [(0, jR 74), (1, jI 0)]) rfl ?_
            exact ih 0 r3.2 _ hf hq
          · refine B_blk B jlkX10_ok jcl_SKF [.iconst 1, .goto 4, .istore_n 1, .goto (-36)] (by decide +kernel) (ls' := [(0, jR 74), (1, jI 1), (2, jI r3.1)]) (st' := []) rfl (p1 := 5) rfl ?_
            refine J_pick [0, 1] (ls' := [(0, jR 74), (1, jI 1)]) rfl ?_
            exact ih 1 r3.2 _ hf hq
    · refine B_blk B jlkX10_ok jcl_SKF [.iload_n 1] (by decide +kernel) (ls' := [(0, jR 74), (1, jI v1)]) (st' := [jI v1]) rfl (p1 := 45) rfl ?_
      obtain ⟨gz, hf⟩ := jgd hf
      cases hf
      exact B_retZ B gz hq rfl (Nat.le_of_ble_eq_true rfl) (Nat.le_of_ble_eq_true rfl) (by decide +kernel)
theorem t_X10_every_0 {l : Launch} {G : jG} (hl : l.stackTraces = false) {m : jMu} {r : (Int × jMu)} (hf : f_X10_every (fr_X10_atom 0) m = some r) : jCt l G yX10_every (.code yX10_every cX10_every 3 (some .boolean) :: jWG) rm_X10_every_0 [jR 74] SKF m (.inl (some (jI r.1))) SKF r.2 := by
  unfold f_X10_every at hf
  refine J_start (ls0 := [(0, jR 74)]) (by decide +kernel) hl (Nat.le_of_ble_eq_true rfl) rfl fun X C hN hn hR hr hnm hno hq => ?_
  have B : jB X cX10_every RX10 3 SKF.length rm_X10_every_0 (some .boolean) := ⟨C, hN, Nat.le_of_eq hn, hR, hr⟩
  refine B_blk B jlkX10_ok jcl_SKF [.aload_n 0] (by decide +kernel) (ls' := [(0, jR 74)]) (st' := [jR 74]) rfl (p1 := 1) rfl ?_
  obtain ⟨r1, h1, hf⟩ := jbd hf
  refine B_callV B (Nat.le_refl _) (μ' := r1.2) (k' := 0) (n' := 0) ca_X10_atom in_X10_atom se_X10_atom lk_X10_145 (t_X10_atom_0 B.tr h1) (Nat.le_refl _) rfl rfl rfl (rest := []) rfl rfl (Nat.le_of_ble_eq_true rfl) (by decide +kernel) rfl rfl (st' := [jI r1.1]) rfl ?_
  refine B_blk B jlkX10_ok jcl_SKF [.istore_n 1] (by decide +kernel) (ls' := [(0, jR 74), (1, jI r1.1)]) (st' := []) rfl (p1 := 5) rfl ?_
  exact t_X10_every_L5_0 B jFU r1.1 r1.2 _ hf hq

def rm_X10_some_0 : Room := { frames := 11, cells := 0, slots := 0, locals := 368 }
theorem t_X10_some_L5_0 {X : jX} (B : jB X cX10_some RX10 3 SKF.length rm_X10_some_0 (some .boolean)) : ∀ (q : Nat) (v1 : Int) (m : jMu) (r : (Int × jMu)), f_X10_some_L5 (fr_X10_atom 0) q v1 m = some r → jQ X (.inl (some (jI r.1))) SKF r.2 rm_X10_some_0.cells rm_X10_some_0.slots → J X SKF m 0 0 5 [(0, jR 74), (1, jI v1)] [] := by
  intro q
  induction q with
  | zero =>
    intro v1 m r hf
    rw [f_X10_some_L5] at hf
    cases hf
  | succ q ih =>
    intro v1 m r hf hq
    rw [f_X10_some_L5] at hf
    refine B_blk B jlkX10_ok jcl_SKF [.aload_n 0, .getfield 19, .iconst (-1)] (by decide +kernel) (ls' := [(0, jR 74), (1, jI v1)]) (st' := [jI (-1), jI (m 74 9)]) rfl (p1 := 10) rfl ?_
    refine J_icmp_ne B.1 (off := 34) (tgt := 44) (by decide +kernel) (by decide) hf (fun hf => ?_) (fun hf => ?_)
    · refine B_blk B jlkX10_ok jcl_SKF [.aload_n 0] (by decide +kernel) (ls' := [(0, jR 74), (1, jI v1)]) (st' := [jR 74]) rfl (p1 := 14) rfl ?_
      refine J_ldcS (i := 18) (r := jXK + 18) B.1 rfl rfl (by decide) (by decide +kernel) ?_
      obtain ⟨r2, h2, hf⟩ := jbd hf
      refine B_callV B (Nat.le_refl _) (μ' := r2.2) (k' := 0) (n' := 0) ca_X10_has in_X10_has se_X10_has lk_X10_96 (t_X10_has B.tr (by decide) h2) (Nat.le_refl _) rfl rfl rfl (rest := []) rfl rfl (Nat.le_of_ble_eq_true rfl) (by decide +kernel) rfl rfl (st' := [jI r2.1]) rfl ?_
      refine J_if_eq B.1 (off := 25) (tgt := 44) (by decide +kernel) (by decide) hf (fun hf => ?_) (fun hf => ?_)
      · refine B_blk B jlkX10_ok jcl_SKF [.iload_n 1] (by decide +kernel) (ls' := [(0, jR 74), (1, jI v1)]) (st' := [jI v1]) rfl (p1 := 45) rfl ?_
        obtain ⟨gz, hf⟩ := jgd hf
        cases hf
        exact B_retZ B gz hq rfl (Nat.le_of_ble_eq_true rfl) (Nat.le_of_ble_eq_true rfl) (by decide +kernel)
      · refine B_blk B jlkX10_ok jcl_SKF [.aload_n 0] (by decide +kernel) (ls' := [(0, jR 74), (1, jI v1)]) (st' := [jR 74]) rfl (p1 := 23) rfl ?_
        obtain ⟨r3, h3, hf⟩ := jbd hf
        refine B_callV B (Nat.le_refl _) (μ' := r3.2) (k' := 0) (n' := 0) ca_X10_every in_X10_every se_X10_every lk_X10_153 (t_X10_every_0 B.tr h3) (Nat.le_refl _) rfl rfl rfl (rest := []) rfl rfl (Nat.le_of_ble_eq_true rfl) (by decide +kernel) rfl rfl (st' := [jI r3.1]) rfl ?_
        refine B_blk B jlkX10_ok jcl_SKF [.istore_n 2, .iload_n 1] (by decide +kernel) (ls' := [(0, jR 74), (1, jI v1), (2, jI r3.1)]) (st' := [jI v1]) rfl (p1 := 28) rfl ?_
        refine J_if_ne B.1 (off := 7) (tgt := 35) (by decide +kernel) (by decide) hf (fun hf => ?_) (fun hf => ?_)
        · refine B_blk B jlkX10_ok jcl_SKF [.iload_n 2] (by decide +kernel) (ls' := [(0, jR 74), (1, jI v1), (2, jI r3.1)]) (st' := [jI r3.1]) rfl (p1 := 32) rfl ?_
          refine J_if_eq B.1 (off := 7) (tgt := 39) (by decide +kernel) (by decide) hf (fun hf => ?_) (fun hf => ?_)
          · refine B_blk B jlkX10_ok jcl_SKF [.iconst 0, .istore_n 1, .goto (-36)] (by decide +kernel) (ls' := [(0, jR 74), (1, jI 0), (2, jI r3.1)]) (st' := []) rfl (p1 := 5) rfl ?_
            refine J_pick [0, 1] (ls' := [(0, jR 74), (1, jI 0)]) rfl ?_
            exact ih 0 r3.2 _ hf hq
          · refine B_blk B jlkX10_ok jcl_SKF [.iconst 1, .goto 4, .istore_n 1, .goto (-36)] (by decide +kernel) (ls' := [(0, jR 74), (1, jI 1), (2, jI r3.1)]) (st' := []) rfl (p1 := 5) rfl ?_
            refine J_pick [0, 1] (ls' := [(0, jR 74), (1, jI 1)]) rfl ?_
            exact ih 1 r3.2 _ hf hq
        · refine B_blk B jlkX10_ok jcl_SKF [.iconst 1, .goto 4, .istore_n 1, .goto (-36)] (by decide +kernel) (ls' := [(0, jR 74), (1, jI 1), (2, jI r3.1)]) (st' := []) rfl (p1 := 5) rfl ?_
          refine J_pick [0, 1] (ls' := [(0, jR 74), (1, jI 1)]) rfl ?_
          exact ih 1 r3.2 _ hf hq
    · refine B_blk B jlkX10_ok jcl_SKF [.iload_n 1] (by decide +kernel) (ls' := [(0, jR 74), (1, jI v1)]) (st' := [jI v1]) rfl (p1 := 45) rfl ?_
      obtain ⟨gz, hf⟩ := jgd hf
      cases hf
      exact B_retZ B gz hq rfl (Nat.le_of_ble_eq_true rfl) (Nat.le_of_ble_eq_true rfl) (by decide +kernel)
theorem t_X10_some_0 {l : Launch} {G : jG} (hl : l.stackTraces = false) {m : jMu} {r : (Int × jMu)} (hf : f_X10_some (fr_X10_atom 0) m = some r) : jCt l G yX10_some (.code yX10_some cX10_some 3 (some .boolean) :: jWG) rm_X10_some_0 [jR 74] SKF m (.inl (some (jI r.1))) SKF r.2 := by
  unfold f_X10_some at hf
  refine J_start (ls0 := [(0, jR 74)]) (by decide +kernel) hl (Nat.le_of_ble_eq_true rfl) rfl fun X C hN hn hR hr hnm hno hq => ?_
  have B : jB X cX10_some RX10 3 SKF.length rm_X10_some_0 (some .boolean) := ⟨C, hN, Nat.le_of_eq hn, hR, hr⟩
  refine B_blk B jlkX10_ok jcl_SKF [.aload_n 0] (by decide +kernel) (ls' := [(0, jR 74)]) (st' := [jR 74]) rfl (p1 := 1) rfl ?_
  obtain ⟨r1, h1, hf⟩ := jbd hf
  refine B_callV B (Nat.le_refl _) (μ' := r1.2) (k' := 0) (n' := 0) ca_X10_every in_X10_every se_X10_every lk_X10_153 (t_X10_every_0 B.tr h1) (Nat.le_refl _) rfl rfl rfl (rest := []) rfl rfl (Nat.le_of_ble_eq_true rfl) (by decide +kernel) rfl rfl (st' := [jI r1.1]) rfl ?_
  refine B_blk B jlkX10_ok jcl_SKF [.istore_n 1] (by decide +kernel) (ls' := [(0, jR 74), (1, jI r1.1)]) (st' := []) rfl (p1 := 5) rfl ?_
  exact t_X10_some_L5_0 B jFU r1.1 r1.2 _ hf hq
