/-! printed walks -/
def rm_L_days : Room := { frames := 11, cells := 1, slots := 6, locals := 141 }
def f_L_days (a0 : Int) (m : jMu) : Option (Int × jMu) :=
  jcat2 (f_X9_days a0 m) (fun r1 => (jlt (jup r1.2 87 0 r1.1) fun m2 => some (0, m2))) (fun e1 w1 => if e1 = "java/lang/IllegalArgumentException" then some (1, w1) else none)
theorem t_L_days {l : Launch} {G : jG} (hl : l.stackTraces = false) {a0 : Int} {m : jMu} {r : (Int × jMu)} (hf : f_L_days a0 m = some r) : jCt l G yL_days (.codeWith yL_days cL_days 4 (some .int) [(0, 9, 12, 13)] :: jWG) rm_L_days [jR 0, jI a0, jR 87] SKF m (.inl (some (jI r.1))) SKF r.2 := by
  unfold f_L_days at hf
  refine J_startH (hh := [(0, 9, 12, 13)]) (ls0 := [(0, jR 0), (1, jI a0), (2, jR 87)]) (by decide +kernel) hl (Nat.le_of_ble_eq_true rfl) rfl fun X C hN hn hR hr htab hq => ?_
  have B : jB X cL_days RL 4 SKF.length rm_L_days (some .int) := ⟨C, hN, Nat.le_of_eq hn, hR, hr⟩
  refine B_blk B (jlkn_ok RL) jcl_SKF [.aload_n 2, .iconst 0, .aload_n 0, .iload_n 1] (by decide +kernel) (ls' := [(0, jR 0), (1, jI a0), (2, jR 87)]) (st' := [jI a0, jR 0, jI 0, jR 87]) rfl (p1 := 4) rfl ?_
  rcases jcat2_s hf with ⟨e1, w1, h1, hf⟩ | ⟨r1, h1, hf⟩
  · rcases jite hf with ⟨ce, hf⟩ | ⟨ce, hf⟩
    · subst ce
      cases hf
      exact B_callVX (E := "java/lang/IllegalArgumentException") (μ' := w1) (k' := 1) (n' := 6) B (Nat.le_refl _) ca_X9_days in_X9_days se_X9_days lk_L_7 (t_X9_days B.tr h1) (Nat.le_refl _) rfl rfl rfl (rest := [jI 0, jR 87]) rfl rfl (Nat.le_of_ble_eq_true rfl) (by decide +kernel) rfl rfl (JX_catch (z := 1) (j := 3) (hh := [(0, 9, 12, 13)]) (pre := []) (suf := []) (x := ⟨0, 9, 12, 13⟩) B.1 (by decide) htab rfl (fun y hy => nomatch hy) (by decide) (by decide) cl_L_13 rfl hq (by rw [B.2.2.2.2]) (by decide) (by rw [B.2.1]; decide) (Nat.le_of_ble_eq_true rfl) (Nat.le_of_ble_eq_true rfl) (Or.inl ⟨3, rfl, (by decide +kernel), rfl⟩) (by decide +kernel) (by decide +kernel))
    · cases hf
  · refine B_callV B (Nat.le_refl _) (μ' := r1.2) (k' := 1) (n' := 6) ca_X9_days in_X9_days se_X9_days lk_L_7 (t_X9_days B.tr h1) (Nat.le_refl _) rfl rfl rfl (rest := [jI 0, jR 87]) rfl rfl (Nat.le_of_ble_eq_true rfl) (by decide +kernel) rfl rfl (st' := [jI r1.1, jI 0, jR 87]) rfl ?_
    refine B_blk B (jlkn_ok RL) jcl_SKF [.i2l] (by decide +kernel) (ls' := [(0, jR 0), (1, jI a0), (2, jR 87)]) (st' := [jL r1.1, jI 0, jR 87]) rfl (p1 := 8) rfl ?_
    refine K_last (lenI := 1) B rfl rfl (by decide) (by decide +kernel) ?_
    obtain ⟨m2, hm2, hf⟩ := jlt_s hf
    rw [hm2]
    refine B_blk B (jlkn_ok RL) jcl_SKF [.goto 6, .iconst 0] (by decide +kernel) (ls' := [(0, jR 0), (1, jI a0), (2, jR 87)]) (st' := [jI 0]) rfl (p1 := 16) rfl ?_
    cases hf
    exact B_retI B hq rfl (Nat.le_of_ble_eq_true rfl) (Nat.le_of_ble_eq_true rfl) (by decide +kernel)

def rm_L_bay : Room := { frames := 11, cells := 3, slots := 18, locals := 145 }
def f_L_bay (a0 : Int) (a1 : Int) (a2 : Int) (a3 : Int) (m : jMu) : Option (Int × jMu) :=
  jcat2 (f_X9_bay a0 a1 a2 a3 m) (fun r1 => (jlt (jup r1.2 87 0 r1.1) fun m2 => some (0, m2))) (fun e1 w1 => if e1 = "java/lang/IllegalArgumentException" then some (1, w1) else if e1 = "java/lang/UnsupportedOperationException" then some (2, w1) else none)
theorem t_L_bay {l : Launch} {G : jG} (hl : l.stackTraces = false) {a0 : Int} {a1 : Int} {a2 : Int} {a3 : Int} {m : jMu} {r : (Int × jMu)} (hf : f_L_bay a0 a1 a2 a3 m = some r) : jCt l G yL_bay (.codeWith yL_bay cL_bay 7 (some .int) [(0, 14, 17, 13), (0, 14, 21, 19)] :: jWG) rm_L_bay [jR 0, jI a0, jI a1, jI a2, jI a3, jR 87] SKF m (.inl (some (jI r.1))) SKF r.2 := by
  unfold f_L_bay at hf
  refine J_startH (hh := [(0, 14, 17, 13), (0, 14, 21, 19)]) (ls0 := [(0, jR 0), (1, jI a0), (2, jI a1), (3, jI a2), (4, jI a3), (5, jR 87)]) (by decide +kernel) hl (Nat.le_of_ble_eq_true rfl) rfl fun X C hN hn hR hr htab hq => ?_
  have B : jB X cL_bay RL 7 SKF.length rm_L_bay (some .int) := ⟨C, hN, Nat.le_of_eq hn, hR, hr⟩
  refine B_blk B (jlkn_ok RL) jcl_SKF [.aload 5, .iconst 0, .aload_n 0, .iload_n 1, .iload_n 2, .iload_n 3, .iload 4] (by decide +kernel) (ls' := [(0, jR 0), (1, jI a0), (2, jI a1), (3, jI a2), (4, jI a3), (5, jR 87)]) (st' := [jI a3, jI a2, jI a1, jI a0, jR 0, jI 0, jR 87]) rfl (p1 := 9) rfl ?_
  rcases jcat2_s hf with ⟨e1, w1, h1, hf⟩ | ⟨r1, h1, hf⟩
  · rcases jite hf with ⟨ce, hf⟩ | ⟨ce, hf⟩
    · subst ce
      cases hf
      exact B_callVX (E := "java/lang/IllegalArgumentException") (μ' := w1) (k' := 3) (n' := 18) B (Nat.le_refl _) ca_X9_bay in_X9_bay se_X9_bay lk_L_15 (t_X9_bay B.tr h1) (Nat.le_refl _) rfl rfl rfl (rest := [jI 0, jR 87]) rfl rfl (Nat.le_of_ble_eq_true rfl) (by decide +kernel) rfl rfl (JX_catch (z := 1) (j := 6) (hh := [(0, 14, 17, 13), (0, 14, 21, 19)]) (pre := []) (suf := [⟨0, 14, 21, 19⟩]) (x := ⟨0, 14, 17, 13⟩) B.1 (by decide) htab rfl (fun y hy => nomatch hy) (by decide) (by decide) cl_L_13 rfl hq (by rw [B.2.2.2.2]) (by decide) (by rw [B.2.1]; decide) (Nat.le_of_ble_eq_true rfl) (Nat.le_of_ble_eq_true rfl) (Or.inr ⟨(by decide +kernel), rfl⟩) (by decide +kernel) (by decide +kernel))
    · rcases jite hf with ⟨ce, hf⟩ | ⟨ce, hf⟩
      · subst ce
        cases hf
        exact B_callVX (E := "java/lang/UnsupportedOperationException") (μ' := w1) (k' := 3) (n' := 18) B (Nat.le_refl _) ca_X9_bay in_X9_bay se_X9_bay lk_L_15 (t_X9_bay B.tr h1) (Nat.le_refl _) rfl rfl rfl (rest := [jI 0, jR 87]) rfl rfl (Nat.le_of_ble_eq_true rfl) (by decide +kernel) rfl rfl (JX_catch (z := 2) (j := 6) (hh := [(0, 14, 17, 13), (0, 14, 21, 19)]) (pre := [⟨0, 14, 17, 13⟩]) (suf := []) (x := ⟨0, 14, 21, 19⟩) B.1 (by decide) htab rfl (List.forall_mem_cons.mpr ⟨⟨by decide, "java/lang/IllegalArgumentException", by decide, by decide, cl_L_13⟩, fun y hy => nomatch hy⟩) (by decide) (by decide) cl_L_19 rfl hq (by rw [B.2.2.2.2]) (by decide) (by rw [B.2.1]; decide) (Nat.le_of_ble_eq_true rfl) (Nat.le_of_ble_eq_true rfl) (Or.inr ⟨(by decide +kernel), rfl⟩) (by decide +kernel) (by decide +kernel))
      · cases hf
  · refine B_callV B (Nat.le_refl _) (μ' := r1.2) (k' := 3) (n' := 18) ca_X9_bay in_X9_bay se_X9_bay lk_L_15 (t_X9_bay B.tr h1) (Nat.le_refl _) rfl rfl rfl (rest := [jI 0, jR 87]) rfl rfl (Nat.le_of_ble_eq_true rfl) (by decide +kernel) rfl rfl (st' := [jI r1.1, jI 0, jR 87]) rfl ?_
    refine B_blk B (jlkn_ok RL) jcl_SKF [.i2l] (by decide +kernel) (ls' := [(0, jR 0), (1, jI a0), (2, jI a1), (3, jI a2), (4, jI a3), (5, jR 87)]) (st' := [jL r1.1, jI 0, jR 87]) rfl (p1 := 13) rfl ?_
    refine K_last (lenI := 1) B rfl rfl (by decide) (by decide +kernel) ?_
    obtain ⟨m2, hm2, hf⟩ := jlt_s hf
    rw [hm2]
    refine B_blk B (jlkn_ok RL) jcl_SKF [.goto 11, .iconst 0] (by decide +kernel) (ls' := [(0, jR 0), (1, jI a0), (2, jI a1), (3, jI a2), (4, jI a3), (5, jR 87)]) (st' := [jI 0]) rfl (p1 := 26) rfl ?_
    cases hf
    exact B_retI B hq rfl (Nat.le_of_ble_eq_true rfl) (Nat.le_of_ble_eq_true rfl) (by decide +kernel)

def rm_L_weather : Room := { frames := 13, cells := 5, slots := 30, locals := 168 }
def f_L_weather (a0 : Int) (a1 : Int) (a2 : Int) (a3 : Int) (a4 : Int) (a5 : Int) (m : jMu) : Option (Int × jMu) :=
  jcat2 (f_X9_weather a0 a1 a2 a3 a4 a5 m) (fun r1 => (jlt (jup r1.2 87 0 r1.1) fun m2 => some (0, m2))) (fun e1 w1 => if e1 = "java/lang/IndexOutOfBoundsException" then some (1, w1) else if e1 = "java/lang/IllegalArgumentException" then some (2, w1) else if e1 = "java/lang/UnsupportedOperationException" then some (3, w1) else none)
theorem t_L_weather {l : Launch} {G : jG} (hl : l.stackTraces = false) {a0 : Int} {a1 : Int} {a2 : Int} {a3 : Int} {a4 : Int} {a5 : Int} {m : jMu} {r : (Int × jMu)} (hf : f_L_weather a0 a1 a2 a3 a4 a5 m = some r) : jCt l G yL_weather (.codeWith yL_weather cL_weather 9 (some .int) [(0, 18, 21, 25), (0, 18, 25, 13), (0, 18, 29, 19)] :: jWG) rm_L_weather [jR 0, jI a0, jI a1, jI a2, jI a3, jI a4, jI a5, jR 87] SKF m (.inl (some (jI r.1))) SKF r.2 := by
  unfold f_L_weather at hf
  refine J_startH (hh := [(0, 18, 21, 25), (0, 18, 25, 13), (0, 18, 29, 19)]) (ls0 := [(0, jR 0), (1, jI a0), (2, jI a1), (3, jI a2), (4, jI a3), (5, jI a4), (6, jI a5), (7, jR 87)]) (by decide +kernel) hl (Nat.le_of_ble_eq_true rfl) rfl fun X C hN hn hR hr htab hq => ?_
  have B : jB X cL_weather RL 9 SKF.length rm_L_weather (some .int) := ⟨C, hN, Nat.le_of_eq hn, hR, hr⟩
  refine B_blk B (jlkn_ok RL) jcl_SKF [.aload 7, .iconst 0, .aload_n 0, .iload_n 1, .iload_n 2, .iload_n 3, .iload 4, .iload 5, .iload 6] (by decide +kernel) (ls' := [(0, jR 0), (1, jI a0), (2, jI a1), (3, jI a2), (4, jI a3), (5, jI a4), (6, jI a5), (7, jR 87)]) (st' := [jI a5, jI a4, jI a3, jI a2, jI a1, jI a0, jR 0, jI 0, jR 87]) rfl (p1 := 13) rfl ?_
  rcases jcat2_s hf with ⟨e1, w1, h1, hf⟩ | ⟨r1, h1, hf⟩
  · rcases jite hf with ⟨ce, hf⟩ | ⟨ce, hf⟩
    · subst ce
      cases hf
      exact B_callVX (E := "java/lang/IndexOutOfBoundsException") (μ' := w1) (k' := 5) (n' := 30) B (Nat.le_refl _) ca_X9_weather in_X9_weather se_X9_weather lk_L_21 (t_X9_weather B.tr h1) (Nat.le_refl _) rfl rfl rfl (rest := [jI 0, jR 87]) rfl rfl (Nat.le_of_ble_eq_true rfl) (by decide +kernel) rfl rfl (JX_catch (z := 1) (j := 8) (hh := [(0, 18, 21, 25), (0, 18, 25, 13), (0, 18, 29, 19)]) (pre := []) (suf := [⟨0, 18, 25, 13⟩, ⟨0, 18, 29, 19⟩]) (x := ⟨0, 18, 21, 25⟩) B.1 (by decide) htab rfl (fun y hy => nomatch hy) (by decide) (by decide) cl_L_25 rfl hq (by rw [B.2.2.2.2]) (by decide) (by rw [B.2.1]; decide) (Nat.le_of_ble_eq_true rfl) (Nat.le_of_ble_eq_true rfl) (Or.inr ⟨(by decide +kernel), rfl⟩) (by decide +kernel) (by decide +kernel))
    · rcases jite hf with ⟨ce, hf⟩ | ⟨ce, hf⟩
      · subst ce
        cases hf
        exact B_callVX (E := "java/lang/IllegalArgumentException") (μ' := w1) (k' := 5) (n' := 30) B (Nat.le_refl _) ca_X9_weather in_X9_weather se_X9_weather lk_L_21 (t_X9_weather B.tr h1) (Nat.le_refl _) rfl rfl rfl (rest := [jI 0, jR 87]) rfl rfl (Nat.le_of_ble_eq_true rfl) (by decide +kernel) rfl rfl (JX_catch (z := 2) (j := 8) (hh := [(0, 18, 21, 25), (0, 18, 25, 13), (0, 18, 29, 19)]) (pre := [⟨0, 18, 21, 25⟩]) (suf := [⟨0, 18, 29, 19⟩]) (x := ⟨0, 18, 25, 13⟩) B.1 (by decide) htab rfl (List.forall_mem_cons.mpr ⟨⟨by decide, "java/lang/IndexOutOfBoundsException", by decide, by decide, cl_L_25⟩, fun y hy => nomatch hy⟩) (by decide) (by decide) cl_L_13 rfl hq (by rw [B.2.2.2.2]) (by decide) (by rw [B.2.1]; decide) (Nat.le_of_ble_eq_true rfl) (Nat.le_of_ble_eq_true rfl) (Or.inr ⟨(by decide +kernel), rfl⟩) (by decide +kernel) (by decide +kernel))
      · rcases jite hf with ⟨ce, hf⟩ | ⟨ce, hf⟩
        · subst ce
          cases hf
          exact B_callVX (E := "java/lang/UnsupportedOperationException") (μ' := w1) (k' := 5) (n' := 30) B (Nat.le_refl _) ca_X9_weather in_X9_weather se_X9_weather lk_L_21 (t_X9_weather B.tr h1) (Nat.le_refl _) rfl rfl rfl (rest := [jI 0, jR 87]) rfl rfl (Nat.le_of_ble_eq_true rfl) (by decide +kernel) rfl rfl (JX_catch (z := 3) (j := 8) (hh := [(0, 18, 21, 25), (0, 18, 25, 13), (0, 18, 29, 19)]) (pre := [⟨0, 18, 21, 25⟩, ⟨0, 18, 25, 13⟩]) (suf := []) (x := ⟨0, 18, 29, 19⟩) B.1 (by decide) htab rfl (List.forall_mem_cons.mpr ⟨⟨by decide, "java/lang/IndexOutOfBoundsException", by decide, by decide, cl_L_25⟩, List.forall_mem_cons.mpr ⟨⟨by decide, "java/lang/IllegalArgumentException", by decide, by decide, cl_L_13⟩, fun y hy => nomatch hy⟩⟩) (by decide) (by decide) cl_L_19 rfl hq (by rw [B.2.2.2.2]) (by decide) (by rw [B.2.1]; decide) (Nat.le_of_ble_eq_true rfl) (Nat.le_of_ble_eq_true rfl) (Or.inr ⟨(by decide +kernel), rfl⟩) (by decide +kernel) (by decide +kernel))
        · cases hf
  · refine B_callV B (Nat.le_refl _) (μ' := r1.2) (k' := 5) (n' := 30) ca_X9_weather in_X9_weather se_X9_weather lk_L_21 (t_X9_weather B.tr h1) (Nat.le_refl _) rfl rfl rfl (rest := [jI 0, jR 87]) rfl rfl (Nat.le_of_ble_eq_true rfl) (by decide +kernel) rfl rfl (st' := [jI r1.1, jI 0, jR 87]) rfl ?_
    refine B_blk B (jlkn_ok RL) jcl_SKF [.i2l] (by decide +kernel) (ls' := [(0, jR 0), (1, jI a0), (2, jI a1), (3, jI a2), (4, jI a3), (5, jI a4), (6, jI a5), (7, jR 87)]) (st' := [jL r1.1, jI 0, jR 87]) rfl (p1 := 17) rfl ?_
    refine K_last (lenI := 1) B rfl rfl (by decide) (by decide +kernel) ?_
    obtain ⟨m2, hm2, hf⟩ := jlt_s hf
    rw [hm2]
    refine B_blk B (jlkn_ok RL) jcl_SKF [.goto 15, .iconst 0] (by decide +kernel) (ls' := [(0, jR 0), (1, jI a0), (2, jI a1), (3, jI a2), (4, jI a3), (5, jI a4), (6, jI a5), (7, jR 87)]) (st' := [jI 0]) rfl (p1 := 34) rfl ?_
    cases hf
    exact B_retI B hq rfl (Nat.le_of_ble_eq_true rfl) (Nat.le_of_ble_eq_true rfl) (by decide +kernel)

def rm_L_trains : Room := { frames := 11, cells := 1, slots := 6, locals := 141 }
def f_L_trains (a0 : Int) (m : jMu) : Option (Int × jMu) :=
  jcat2 (f_X9_trains a0 m) (fun r1 => some (0, r1.2)) (fun e1 w1 => if e1 = "java/lang/IllegalArgumentException" then some (1, w1) else none)
theorem t_L_trains {l : Launch} {G : jG} (hl : l.stackTraces = false) {a0 : Int} {m : jMu} {r : (Int × jMu)} (hf : f_L_trains a0 m = some r) : jCt l G yL_trains (.codeWith yL_trains cL_trains 3 (some .int) [(0, 5, 8, 13)] :: jWG) rm_L_trains [jR 0, jI a0] SKF m (.inl (some (jI r.1))) SKF r.2 := by
  unfold f_L_trains at hf
  refine J_startH (hh := [(0, 5, 8, 13)]) (ls0 := [(0, jR 0), (1, jI a0)]) (by decide +kernel) hl (Nat.le_of_ble_eq_true rfl) rfl fun X C hN hn hR hr htab hq => ?_
  have B : jB X cL_trains RL 3 SKF.length rm_L_trains (some .int) := ⟨C, hN, Nat.le_of_eq hn, hR, hr⟩
  refine B_blk B (jlkn_ok RL) jcl_SKF [.aload_n 0, .iload_n 1] (by decide +kernel) (ls' := [(0, jR 0), (1, jI a0)]) (st' := [jI a0, jR 0]) rfl (p1 := 2) rfl ?_
  rcases jcat2_s hf with ⟨e1, w1, h1, hf⟩ | ⟨r1, h1, hf⟩
  · rcases jite hf with ⟨ce, hf⟩ | ⟨ce, hf⟩
    · subst ce
      cases hf
      exact B_callVX (E := "java/lang/IllegalArgumentException") (μ' := w1) (k' := 1) (n' := 6) B (Nat.le_refl _) ca_X9_trains in_X9_trains se_X9_trains lk_L_27 (t_X9_trains B.tr h1) (Nat.le_refl _) rfl rfl rfl (rest := []) rfl rfl (Nat.le_of_ble_eq_true rfl) (by decide +kernel) rfl rfl (JX_catch (z := 1) (j := 2) (hh := [(0, 5, 8, 13)]) (pre := []) (suf := []) (x := ⟨0, 5, 8, 13⟩) B.1 (by decide) htab rfl (fun y hy => nomatch hy) (by decide) (by decide) cl_L_13 rfl hq (by rw [B.2.2.2.2]) (by decide) (by rw [B.2.1]; decide) (Nat.le_of_ble_eq_true rfl) (Nat.le_of_ble_eq_true rfl) (Or.inl ⟨2, rfl, (by decide +kernel), rfl⟩) (by decide +kernel) (by decide +kernel))
    · cases hf
  · refine B_callV B (Nat.le_refl _) (μ' := r1.2) (k' := 1) (n' := 6) ca_X9_trains in_X9_trains se_X9_trains lk_L_27 (t_X9_trains B.tr h1) (Nat.le_refl _) rfl rfl rfl (rest := []) rfl rfl (Nat.le_of_ble_eq_true rfl) (by decide +kernel) rfl rfl (st' := []) rfl ?_
    refine B_blk B (jlkn_ok RL) jcl_SKF [.goto 6, .iconst 0] (by decide +kernel) (ls' := [(0, jR 0), (1, jI a0)]) (st' := [jI 0]) rfl (p1 := 12) rfl ?_
    cases hf
    exact B_retI B hq rfl (Nat.le_of_ble_eq_true rfl) (Nat.le_of_ble_eq_true rfl) (by decide +kernel)

def rm_L_span : Room := { frames := 13, cells := 3, slots := 18, locals := 166 }
def f_L_span (a0 : Int) (a1 : Int) (a2 : Int) (m : jMu) : Option (Int × jMu) :=
  jcat2 (f_X9_span a0 a1 a2 m) (fun r1 => (jlt (jup r1.2 87 0 r1.1) fun m2 => some (0, m2))) (fun e1 w1 => if e1 = "java/lang/IndexOutOfBoundsException" then some (1, w1) else if e1 = "java/lang/IllegalArgumentException" then some (2, w1) else if e1 = "java/lang/UnsupportedOperationException" then some (3, w1) else none)
theorem t_L_span {l : Launch} {G : jG} (hl : l.stackTraces = false) {a0 : Int} {a1 : Int} {a2 : Int} {m : jMu} {r : (Int × jMu)} (hf : f_L_span a0 a1 a2 m = some r) : jCt l G yL_span (.codeWith yL_span cL_span 6 (some .int) [(0, 12, 15, 25), (0, 12, 19, 13), (0, 12, 23, 19)] :: jWG) rm_L_span [jR 0, jI a0, jI a1, jI a2, jR 87] SKF m (.inl (some (jI r.1))) SKF r.2 := by
  unfold f_L_span at hf
  refine J_startH (hh := [(0, 12, 15, 25), (0, 12, 19, 13), (0, 12, 23, 19)]) (ls0 := [(0, jR 0), (1, jI a0), (2, jI a1), (3, jI a2), (4, jR 87)]) (by decide +kernel) hl (Nat.le_of_ble_eq_true rfl) rfl fun X C hN hn hR hr htab hq => ?_
  have B : jB X cL_span RL 6 SKF.length rm_L_span (some .int) := ⟨C, hN, Nat.le_of_eq hn, hR, hr⟩
  refine B_blk B (jlkn_ok RL) jcl_SKF [.aload 4, .iconst 0, .aload_n 0, .iload_n 1, .iload_n 2, .iload_n 3] (by decide +kernel) (ls' := [(0, jR 0), (1, jI a0), (2, jI a1), (3, jI a2), (4, jR 87)]) (st' := [jI a2, jI a1, jI a0, jR 0, jI 0, jR 87]) rfl (p1 := 7) rfl ?_
  rcases jcat2_s hf with ⟨e1, w1, h1, hf⟩ | ⟨r1, h1, hf⟩
  · rcases jite hf with ⟨ce, hf⟩ | ⟨ce, hf⟩
    · subst ce
      cases hf
      exact B_callVX (E := "java/lang/IndexOutOfBoundsException") (μ' := w1) (k' := 3) (n' := 18) B (Nat.le_refl _) ca_X9_span in_X9_span se_X9_span lk_L_31 (t_X9_span B.tr h1) (Nat.le_refl _) rfl rfl rfl (rest := [jI 0, jR 87]) rfl rfl (Nat.le_of_ble_eq_true rfl) (by decide +kernel) rfl rfl (JX_catch (z := 1) (j := 5) (hh := [(0, 12, 15, 25), (0, 12, 19, 13), (0, 12, 23, 19)]) (pre := []) (suf := [⟨0, 12, 19, 13⟩, ⟨0, 12, 23, 19⟩]) (x := ⟨0, 12, 15, 25⟩) B.1 (by decide) htab rfl (fun y hy => nomatch hy) (by decide) (by decide) cl_L_25 rfl hq (by rw [B.2.2.2.2]) (by decide) (by rw [B.2.1]; decide) (Nat.le_of_ble_eq_true rfl) (Nat.le_of_ble_eq_true rfl) (Or.inr ⟨(by decide +kernel), rfl⟩) (by decide +kernel) (by decide +kernel))
    · rcases jite hf with ⟨ce, hf⟩ | ⟨ce, hf⟩
      · subst ce
        cases hf
        exact B_callVX (E := "java/lang/IllegalArgumentException") (μ' := w1) (k' := 3) (n' := 18) B (Nat.le_refl _) ca_X9_span in_X9_span se_X9_span lk_L_31 (t_X9_span B.tr h1) (Nat.le_refl _) rfl rfl rfl (rest := [jI 0, jR 87]) rfl rfl (Nat.le_of_ble_eq_true rfl) (by decide +kernel) rfl rfl (JX_catch (z := 2) (j := 5) (hh := [(0, 12, 15, 25), (0, 12, 19, 13), (0, 12, 23, 19)]) (pre := [⟨0, 12, 15, 25⟩]) (suf := [⟨0, 12, 23, 19⟩]) (x := ⟨0, 12, 19, 13⟩) B.1 (by decide) htab rfl (List.forall_mem_cons.mpr ⟨⟨by decide, "java/lang/IndexOutOfBoundsException", by decide, by decide, cl_L_25⟩, fun y hy => nomatch hy⟩) (by decide) (by decide) cl_L_13 rfl hq (by rw [B.2.2.2.2]) (by decide) (by rw [B.2.1]; decide) (Nat.le_of_ble_eq_true rfl) (Nat.le_of_ble_eq_true rfl) (Or.inr ⟨(by decide +kernel), rfl⟩) (by decide +kernel) (by decide +kernel))
      · rcases jite hf with ⟨ce, hf⟩ | ⟨ce, hf⟩
        · subst ce
          cases hf
          exact B_callVX (E := "java/lang/UnsupportedOperationException") (μ' := w1) (k' := 3) (n' := 18) B (Nat.le_refl _) ca_X9_span in_X9_span se_X9_span lk_L_31 (t_X9_span B.tr h1) (Nat.le_refl _) rfl rfl rfl (rest := [jI 0, jR 87]) rfl rfl (Nat.le_of_ble_eq_true rfl) (by decide +kernel) rfl rfl (JX_catch (z := 3) (j := 5) (hh := [(0, 12, 15, 25), (0, 12, 19, 13), (0, 12, 23, 19)]) (pre := [⟨0, 12, 15, 25⟩, ⟨0, 12, 19, 13⟩]) (suf := []) (x := ⟨0, 12, 23, 19⟩) B.1 (by decide) htab rfl (List.forall_mem_cons.mpr ⟨⟨by decide, "java/lang/IndexOutOfBoundsException", by decide, by decide, cl_L_25⟩, List.forall_mem_cons.mpr ⟨⟨by decide, "java/lang/IllegalArgumentException", by decide, by decide, cl_L_13⟩, fun y hy => nomatch hy⟩⟩) (by decide) (by decide) cl_L_19 rfl hq (by rw [B.2.2.2.2]) (by decide) (by rw [B.2.1]; decide) (Nat.le_of_ble_eq_true rfl) (Nat.le_of_ble_eq_true rfl) (Or.inr ⟨(by decide +kernel), rfl⟩) (by decide +kernel) (by decide +kernel))
        · cases hf
  · refine B_callV B (Nat.le_refl _) (μ' := r1.2) (k' := 3) (n' := 18) ca_X9_span in_X9_span se_X9_span lk_L_31 (t_X9_span B.tr h1) (Nat.le_refl _) rfl rfl rfl (rest := [jI 0, jR 87]) rfl rfl (Nat.le_of_ble_eq_true rfl) (by decide +kernel) rfl rfl (st' := [jI r1.1, jI 0, jR 87]) rfl ?_
    refine B_blk B (jlkn_ok RL) jcl_SKF [.i2l] (by decide +kernel) (ls' := [(0, jR 0), (1, jI a0), (2, jI a1), (3, jI a2), (4, jR 87)]) (st' := [jL r1.1, jI 0, jR 87]) rfl (p1 := 11) rfl ?_
    refine K_last (lenI := 1) B rfl rfl (by decide) (by decide +kernel) ?_
    obtain ⟨m2, hm2, hf⟩ := jlt_s hf
    rw [hm2]
    refine B_blk B (jlkn_ok RL) jcl_SKF [.goto 15, .iconst 0] (by decide +kernel) (ls' := [(0, jR 0), (1, jI a0), (2, jI a1), (3, jI a2), (4, jR 87)]) (st' := [jI 0]) rfl (p1 := 28) rfl ?_
    cases hf
    exact B_retI B hq rfl (Nat.le_of_ble_eq_true rfl) (Nat.le_of_ble_eq_true rfl) (by decide +kernel)

def rm_L_nest : Room := { frames := 13, cells := 4, slots := 24, locals := 165 }
def f_L_nest (a0 : Int) (a1 : Int) (a2 : Int) (m : jMu) : Option (Int × jMu) :=
  jcat2 (f_X9_nest a0 a1 a2 m) (fun r1 => (jlt (jup r1.2 87 0 r1.1) fun m2 => some (0, m2))) (fun e1 w1 => if e1 = "java/lang/IndexOutOfBoundsException" then some (1, w1) else if e1 = "java/lang/IllegalArgumentException" then some (2, w1) else if e1 = "java/lang/UnsupportedOperationException" then some (3, w1) else none)
theorem t_L_nest {l : Launch} {G : jG} (hl : l.stackTraces = false) {a0 : Int} {a1 : Int} {a2 : Int} {m : jMu} {r : (Int × jMu)} (hf : f_L_nest a0 a1 a2 m = some r) : jCt l G yL_nest (.codeWith yL_nest cL_nest 6 (some .int) [(0, 12, 15, 25), (0, 12, 19, 13), (0, 12, 23, 19)] :: jWG) rm_L_nest [jR 0, jI a0, jI a1, jI a2, jR 87] SKF m (.inl (some (jI r.1))) SKF r.2 := by
  unfold f_L_nest at hf
  refine J_startH (hh := [(0, 12, 15, 25), (0, 12, 19, 13), (0, 12, 23, 19)]) (ls0 := [(0, jR 0), (1, jI a0), (2, jI a1), (3, jI a2), (4, jR 87)]) (by decide +kernel) hl (Nat.le_of_ble_eq_true rfl) rfl fun X C hN hn hR hr htab hq => ?_
  have B : jB X cL_nest RL 6 SKF.length rm_L_nest (some .int) := ⟨C, hN, Nat.le_of_eq hn, hR, hr⟩
  refine B_blk B (jlkn_ok RL) jcl_SKF [.aload 4, .iconst 0, .aload_n 0, .iload_n 1, .iload_n 2, .iload_n 3] (by decide +kernel) (ls' := [(0, jR 0), (1, jI a0), (2, jI a1), (3, jI a2), (4, jR 87)]) (st' := [jI a2, jI a1, jI a0, jR 0, jI 0, jR 87]) rfl (p1 := 7) rfl ?_
  rcases jcat2_s hf with ⟨e1, w1, h1, hf⟩ | ⟨r1, h1, hf⟩
  · rcases jite hf with ⟨ce, hf⟩ | ⟨ce, hf⟩
    · subst ce
      cases hf
      exact B_callVX (E := "java/lang/IndexOutOfBoundsException") (μ' := w1) (k' := 4) (n' := 24) B (Nat.le_refl _) ca_X9_nest in_X9_nest se_X9_nest lk_L_35 (t_X9_nest B.tr h1) (Nat.le_refl _) rfl rfl rfl (rest := [jI 0, jR 87]) rfl rfl (Nat.le_of_ble_eq_true rfl) (by decide +kernel) rfl rfl (JX_catch (z := 1) (j := 5) (hh := [(0, 12, 15, 25), (0, 12, 19, 13), (0, 12, 23, 19)]) (pre := []) (suf := [⟨0, 12, 19, 13⟩, ⟨0, 12, 23, 19⟩]) (x := ⟨0, 12, 15, 25⟩) B.1 (by decide) htab rfl (fun y hy => nomatch hy) (by decide) (by decide) cl_L_25 rfl hq (by rw [B.2.2.2.2]) (by decide) (by rw [B.2.1]; decide) (Nat.le_of_ble_eq_true rfl) (Nat.le_of_ble_eq_true rfl) (Or.inr ⟨(by decide +kernel), rfl⟩) (by decide +kernel) (by decide +kernel))
    · rcases jite hf with ⟨ce, hf⟩ | ⟨ce, hf⟩
      · subst ce
        cases hf
        exact B_callVX (E := "java/lang/IllegalArgumentException") (μ' := w1) (k' := 4) (n' := 24) B (Nat.le_refl _) ca_X9_nest in_X9_nest se_X9_nest lk_L_35 (t_X9_nest B.tr h1) (Nat.le_refl _) rfl rfl rfl (rest := [jI 0, jR 87]) rfl rfl (Nat.le_of_ble_eq_true rfl) (by decide +kernel) rfl rfl (JX_catch (z := 2) (j := 5) (hh := [(0, 12, 15, 25), (0, 12, 19, 13), (0, 12, 23, 19)]) (pre := [⟨0, 12, 15, 25⟩]) (suf := [⟨0, 12, 23, 19⟩]) (x := ⟨0, 12, 19, 13⟩) B.1 (by decide) htab rfl (List.forall_mem_cons.mpr ⟨⟨by decide, "java/lang/IndexOutOfBoundsException", by decide, by decide, cl_L_25⟩, fun y hy => nomatch hy⟩) (by decide) (by decide) cl_L_13 rfl hq (by rw [B.2.2.2.2]) (by decide) (by rw [B.2.1]; decide) (Nat.le_of_ble_eq_true rfl) (Nat.le_of_ble_eq_true rfl) (Or.inr ⟨(by decide +kernel), rfl⟩) (by decide +kernel) (by decide +kernel))
      · rcases jite hf with ⟨ce, hf⟩ | ⟨ce, hf⟩
        · subst ce
          cases hf
          exact B_callVX (E := "java/lang/UnsupportedOperationException") (μ' := w1) (k' := 4) (n' := 24) B (Nat.le_refl _) ca_X9_nest in_X9_nest se_X9_nest lk_L_35 (t_X9_nest B.tr h1) (Nat.le_refl _) rfl rfl rfl (rest := [jI 0, jR 87]) rfl rfl (Nat.le_of_ble_eq_true rfl) (by decide +kernel) rfl rfl (JX_catch (z := 3) (j := 5) (hh := [(0, 12, 15, 25), (0, 12, 19, 13), (0, 12, 23, 19)]) (pre := [⟨0, 12, 15, 25⟩, ⟨0, 12, 19, 13⟩]) (suf := []) (x := ⟨0, 12, 23, 19⟩) B.1 (by decide) htab rfl (List.forall_mem_cons.mpr ⟨⟨by decide, "java/lang/IndexOutOfBoundsException", by decide, by decide, cl_L_25⟩, List.forall_mem_cons.mpr ⟨⟨by decide, "java/lang/IllegalArgumentException", by decide, by decide, cl_L_13⟩, fun y hy => nomatch hy⟩⟩) (by decide) (by decide) cl_L_19 rfl hq (by rw [B.2.2.2.2]) (by decide) (by rw [B.2.1]; decide) (Nat.le_of_ble_eq_true rfl) (Nat.le_of_ble_eq_true rfl) (Or.inr ⟨(by decide +kernel), rfl⟩) (by decide +kernel) (by decide +kernel))
        · cases hf
  · refine B_callV B (Nat.le_refl _) (μ' := r1.2) (k' := 4) (n' := 24) ca_X9_nest in_X9_nest se_X9_nest lk_L_35 (t_X9_nest B.tr h1) (Nat.le_refl _) rfl rfl rfl (rest := [jI 0, jR 87]) rfl rfl (Nat.le_of_ble_eq_true rfl) (by decide +kernel) rfl rfl (st' := [jI r1.1, jI 0, jR 87]) rfl ?_
    refine B_blk B (jlkn_ok RL) jcl_SKF [.i2l] (by decide +kernel) (ls' := [(0, jR 0), (1, jI a0), (2, jI a1), (3, jI a2), (4, jR 87)]) (st' := [jL r1.1, jI 0, jR 87]) rfl (p1 := 11) rfl ?_
    refine K_last (lenI := 1) B rfl rfl (by decide) (by decide +kernel) ?_
    obtain ⟨m2, hm2, hf⟩ := jlt_s hf
    rw [hm2]
    refine B_blk B (jlkn_ok RL) jcl_SKF [.goto 15, .iconst 0] (by decide +kernel) (ls' := [(0, jR 0), (1, jI a0), (2, jI a1), (3, jI a2), (4, jR 87)]) (st' := [jI 0]) rfl (p1 := 28) rfl ?_
    cases hf
    exact B_retI B hq rfl (Nat.le_of_ble_eq_true rfl) (Nat.le_of_ble_eq_true rfl) (by decide +kernel)

def rm_L_terms : Room := { frames := 18, cells := 2, slots := 12, locals := 442 }
def f_L_terms (m : jMu) : Option (Int × jMu) :=
  jcat2 (f_X9_terms m) (fun r1 => (jlt (jup r1.2 87 0 r1.1) fun m2 => some (0, m2))) (fun e1 w1 => if e1 = "java/lang/IllegalArgumentException" then some (1, w1) else if e1 = "java/lang/UnsupportedOperationException" then some (2, w1) else none)
theorem t_L_terms {l : Launch} {G : jG} (hl : l.stackTraces = false) {m : jMu} {r : (Int × jMu)} (hf : f_L_terms m = some r) : jCt l G yL_terms (.codeWith yL_terms cL_terms 3 (some .int) [(0, 8, 11, 13), (0, 8, 14, 19)] :: jWG) rm_L_terms [jR 0, jR 87] SKF m (.inl (some (jI r.1))) SKF r.2 := by
  unfold f_L_terms at hf
  refine J_startH (hh := [(0, 8, 11, 13), (0, 8, 14, 19)]) (ls0 := [(0, jR 0), (1, jR 87)]) (by decide +kernel) hl (Nat.le_of_ble_eq_true rfl) rfl fun X C hN hn hR hr htab hq => ?_
  have B : jB X cL_terms RL 3 SKF.length rm_L_terms (some .int) := ⟨C, hN, Nat.le_of_eq hn, hR, hr⟩
  refine B_blk B (jlkn_ok RL) jcl_SKF [.aload_n 1, .iconst 0, .aload_n 0] (by decide +kernel) (ls' := [(0, jR 0), (1, jR 87)]) (st' := [jR 0, jI 0, jR 87]) rfl (p1 := 3) rfl ?_
  rcases jcat2_s hf with ⟨e1, w1, h1, hf⟩ | ⟨r1, h1, hf⟩
  · rcases jite hf with ⟨ce, hf⟩ | ⟨ce, hf⟩
    · subst ce
      cases hf
      exact B_callVX (E := "java/lang/IllegalArgumentException") (μ' := w1) (k' := 2) (n' := 12) B (Nat.le_refl _) ca_X9_terms in_X9_terms se_X9_terms lk_L_39 (t_X9_terms B.tr h1) (Nat.le_refl _) rfl rfl rfl (rest := [jI 0, jR 87]) rfl rfl (Nat.le_of_ble_eq_true rfl) (by decide +kernel) rfl rfl (JX_catch (z := 1) (j := 2) (hh := [(0, 8, 11, 13), (0, 8, 14, 19)]) (pre := []) (suf := [⟨0, 8, 14, 19⟩]) (x := ⟨0, 8, 11, 13⟩) B.1 (by decide) htab rfl (fun y hy => nomatch hy) (by decide) (by decide) cl_L_13 rfl hq (by rw [B.2.2.2.2]) (by decide) (by rw [B.2.1]; decide) (Nat.le_of_ble_eq_true rfl) (Nat.le_of_ble_eq_true rfl) (Or.inl ⟨2, rfl, (by decide +kernel), rfl⟩) (by decide +kernel) (by decide +kernel))
    · rcases jite hf with ⟨ce, hf⟩ | ⟨ce, hf⟩
      · subst ce
        cases hf
        exact B_callVX (E := "java/lang/UnsupportedOperationException") (μ' := w1) (k' := 2) (n' := 12) B (Nat.le_refl _) ca_X9_terms in_X9_terms se_X9_terms lk_L_39 (t_X9_terms B.tr h1) (Nat.le_refl _) rfl rfl rfl (rest := [jI 0, jR 87]) rfl rfl (Nat.le_of_ble_eq_true rfl) (by decide +kernel) rfl rfl (JX_catch (z := 2) (j := 2) (hh := [(0, 8, 11, 13), (0, 8, 14, 19)]) (pre := [⟨0, 8, 11, 13⟩]) (suf := []) (x := ⟨0, 8, 14, 19⟩) B.1 (by decide) htab rfl (List.forall_mem_cons.mpr ⟨⟨by decide, "java/lang/IllegalArgumentException", by decide, by decide, cl_L_13⟩, fun y hy => nomatch hy⟩) (by decide) (by decide) cl_L_19 rfl hq (by rw [B.2.2.2.2]) (by decide) (by rw [B.2.1]; decide) (Nat.le_of_ble_eq_true rfl) (Nat.le_of_ble_eq_true rfl) (Or.inl ⟨2, rfl, (by decide +kernel), rfl⟩) (by decide +kernel) (by decide +kernel))
      · cases hf
  · refine B_callV B (Nat.le_refl _) (μ' := r1.2) (k' := 2) (n' := 12) ca_X9_terms in_X9_terms se_X9_terms lk_L_39 (t_X9_terms B.tr h1) (Nat.le_refl _) rfl rfl rfl (rest := [jI 0, jR 87]) rfl rfl (Nat.le_of_ble_eq_true rfl) (by decide +kernel) rfl rfl (st' := [jI r1.1, jI 0, jR 87]) rfl ?_
    refine B_blk B (jlkn_ok RL) jcl_SKF [.i2l] (by decide +kernel) (ls' := [(0, jR 0), (1, jR 87)]) (st' := [jL r1.1, jI 0, jR 87]) rfl (p1 := 7) rfl ?_
    refine K_last (lenI := 1) B rfl rfl (by decide) (by decide +kernel) ?_
    obtain ⟨m2, hm2, hf⟩ := jlt_s hf
    rw [hm2]
    refine B_blk B (jlkn_ok RL) jcl_SKF [.goto 9, .iconst 0] (by decide +kernel) (ls' := [(0, jR 0), (1, jR 87)]) (st' := [jI 0]) rfl (p1 := 18) rfl ?_
    cases hf
    exact B_retI B hq rfl (Nat.le_of_ble_eq_true rfl) (Nat.le_of_ble_eq_true rfl) (by decide +kernel)

def rm_L_why : Room := { frames := 11, cells := 2, slots := 12, locals := 163 }
def f_L_why (a0 : Int) (a1 : Int) (a2 : Int) (a3 : Int) (m : jMu) : Option (Int × jMu) :=
  jcat2 (f_X9_why a0 a1 a2 a3 m) (fun r1 => (jlt (jup r1.2 87 0 r1.1) fun m2 => some (0, m2))) (fun e1 w1 => if e1 = "java/lang/IndexOutOfBoundsException" then some (1, w1) else none)
theorem t_L_why {l : Launch} {G : jG} (hl : l.stackTraces = false) {a0 : Int} {a1 : Int} {a2 : Int} {a3 : Int} {m : jMu} {r : (Int × jMu)} (hf : f_L_why a0 a1 a2 a3 m = some r) : jCt l G yL_why (.codeWith yL_why cL_why 7 (some .int) [(0, 14, 17, 25)] :: jWG) rm_L_why [jR 0, jI a0, jI a1, jI a2, jI a3, jR 87] SKF m (.inl (some (jI r.1))) SKF r.2 := by
  unfold f_L_why at hf
  refine J_startH (hh := [(0, 14, 17, 25)]) (ls0 := [(0, jR 0), (1, jI a0), (2, jI a1), (3, jI a2), (4, jI a3), (5, jR 87)]) (by decide +kernel) hl (Nat.le_of_ble_eq_true rfl) rfl fun X C hN hn hR hr htab hq => ?_
  have B : jB X cL_why RL 7 SKF.length rm_L_why (some .int) := ⟨C, hN, Nat.le_of_eq hn, hR, hr⟩
  refine B_blk B (jlkn_ok RL) jcl_SKF [.aload 5, .iconst 0, .aload_n 0, .iload_n 1, .iload_n 2, .iload_n 3, .iload 4] (by decide +kernel) (ls' := [(0, jR 0), (1, jI a0), (2, jI a1), (3, jI a2), (4, jI a3), (5, jR 87)]) (st' := [jI a3, jI a2, jI a1, jI a0, jR 0, jI 0, jR 87]) rfl (p1 := 9) rfl ?_
  rcases jcat2_s hf with ⟨e1, w1, h1, hf⟩ | ⟨r1, h1, hf⟩
  · rcases jite hf with ⟨ce, hf⟩ | ⟨ce, hf⟩
    · subst ce
      cases hf
      exact B_callVX (E := "java/lang/IndexOutOfBoundsException") (μ' := w1) (k' := 2) (n' := 12) B (Nat.le_refl _) ca_X9_why in_X9_why se_X9_why lk_L_43 (t_X9_why B.tr h1) (Nat.le_refl _) rfl rfl rfl (rest := [jI 0, jR 87]) rfl rfl (Nat.le_of_ble_eq_true rfl) (by decide +kernel) rfl rfl (JX_catch (z := 1) (j := 6) (hh := [(0, 14, 17, 25)]) (pre := []) (suf := []) (x := ⟨0, 14, 17, 25⟩) B.1 (by decide) htab rfl (fun y hy => nomatch hy) (by decide) (by decide) cl_L_25 rfl hq (by rw [B.2.2.2.2]) (by decide) (by rw [B.2.1]; decide) (Nat.le_of_ble_eq_true rfl) (Nat.le_of_ble_eq_true rfl) (Or.inr ⟨(by decide +kernel), rfl⟩) (by decide +kernel) (by decide +kernel))
    · cases hf
  · refine B_callV B (Nat.le_refl _) (μ' := r1.2) (k' := 2) (n' := 12) ca_X9_why in_X9_why se_X9_why lk_L_43 (t_X9_why B.tr h1) (Nat.le_refl _) rfl rfl rfl (rest := [jI 0, jR 87]) rfl rfl (Nat.le_of_ble_eq_true rfl) (by decide +kernel) rfl rfl (st' := [jI r1.1, jI 0, jR 87]) rfl ?_
    refine B_blk B (jlkn_ok RL) jcl_SKF [.i2l] (by decide +kernel) (ls' := [(0, jR 0), (1, jI a0), (2, jI a1), (3, jI a2), (4, jI a3), (5, jR 87)]) (st' := [jL r1.1, jI 0, jR 87]) rfl (p1 := 13) rfl ?_
    refine K_last (lenI := 1) B rfl rfl (by decide) (by decide +kernel) ?_
    obtain ⟨m2, hm2, hf⟩ := jlt_s hf
    rw [hm2]
    refine B_blk B (jlkn_ok RL) jcl_SKF [.goto 7, .iconst 0] (by decide +kernel) (ls' := [(0, jR 0), (1, jI a0), (2, jI a1), (3, jI a2), (4, jI a3), (5, jR 87)]) (st' := [jI 0]) rfl (p1 := 22) rfl ?_
    cases hf
    exact B_retI B hq rfl (Nat.le_of_ble_eq_true rfl) (Nat.le_of_ble_eq_true rfl) (by decide +kernel)

def rm_L_at : Room := { frames := 14, cells := 3, slots := 18, locals := 208 }
def f_L_at (a0 : Int) (a1 : Int) (a2 : Int) (a3 : Int) (a4 : Int) (m : jMu) : Option (Int × jMu) :=
  jcat2 (f_X9_at a0 a1 a2 a3 a4 m) (fun r1 => (jlt (jup r1.2 87 0 r1.1) fun m2 => some (0, m2))) (fun e1 w1 => if e1 = "java/lang/IndexOutOfBoundsException" then some (1, w1) else if e1 = "java/util/NoSuchElementException" then some (2, w1) else none)
theorem t_L_at {l : Launch} {G : jG} (hl : l.stackTraces = false) {a0 : Int} {a1 : Int} {a2 : Int} {a3 : Int} {a4 : Int} {m : jMu} {r : (Int × jMu)} (hf : f_L_at a0 a1 a2 a3 a4 m = some r) : jCt l G yL_at (.codeWith yL_at cL_at 8 (some .int) [(0, 16, 19, 25), (0, 16, 23, 50)] :: jWG) rm_L_at [jR 0, jI a0, jI a1, jI a2, jI a3, jI a4, jR 87] SKF m (.inl (some (jI r.1))) SKF r.2 := by
  unfold f_L_at at hf
  refine J_startH (hh := [(0, 16, 19, 25), (0, 16, 23, 50)]) (ls0 := [(0, jR 0), (1, jI a0), (2, jI a1), (3, jI a2), (4, jI a3), (5, jI a4), (6, jR 87)]) (by decide +kernel) hl (Nat.le_of_ble_eq_true rfl) rfl fun X C hN hn hR hr htab hq => ?_
  have B : jB X cL_at RL 8 SKF.length rm_L_at (some .int) := ⟨C, hN, Nat.le_of_eq hn, hR, hr⟩
  refine B_blk B (jlkn_ok RL) jcl_SKF [.aload 6, .iconst 0, .aload_n 0, .iload_n 1, .iload_n 2, .iload_n 3, .iload 4, .iload 5] (by decide +kernel) (ls' := [(0, jR 0), (1, jI a0), (2, jI a1), (3, jI a2), (4, jI a3), (5, jI a4), (6, jR 87)]) (st' := [jI a4, jI a3, jI a2, jI a1, jI a0, jR 0, jI 0, jR 87]) rfl (p1 := 11) rfl ?_
  rcases jcat2_s hf with ⟨e1, w1, h1, hf⟩ | ⟨r1, h1, hf⟩
  · rcases jite hf with ⟨ce, hf⟩ | ⟨ce, hf⟩
    · subst ce
      cases hf
      exact B_callVX (E := "java/lang/IndexOutOfBoundsException") (μ' := w1) (k' := 3) (n' := 18) B (Nat.le_refl _) ca_X9_at in_X9_at se_X9_at lk_L_46 (t_X9_at B.tr h1) (Nat.le_refl _) rfl rfl rfl (rest := [jI 0, jR 87]) rfl rfl (Nat.le_of_ble_eq_true rfl) (by decide +kernel) rfl rfl (JX_catch (z := 1) (j := 7) (hh := [(0, 16, 19, 25), (0, 16, 23, 50)]) (pre := []) (suf := [⟨0, 16, 23, 50⟩]) (x := ⟨0, 16, 19, 25⟩) B.1 (by decide) htab rfl (fun y hy => nomatch hy) (by decide) (by decide) cl_L_25 rfl hq (by rw [B.2.2.2.2]) (by decide) (by rw [B.2.1]; decide) (Nat.le_of_ble_eq_true rfl) (Nat.le_of_ble_eq_true rfl) (Or.inr ⟨(by decide +kernel), rfl⟩) (by decide +kernel) (by decide +kernel))
    · rcases jite hf with ⟨ce, hf⟩ | ⟨ce, hf⟩
      · subst ce
        cases hf
        exact B_callVX (E := "java/util/NoSuchElementException") (μ' := w1) (k' := 3) (n' := 18) B (Nat.le_refl _) ca_X9_at in_X9_at se_X9_at lk_L_46 (t_X9_at B.tr h1) (Nat.le_refl _) rfl rfl rfl (rest := [jI 0, jR 87]) rfl rfl (Nat.le_of_ble_eq_true rfl) (by decide +kernel) rfl rfl (JX_catch (z := 2) (j := 7) (hh := [(0, 16, 19, 25), (0, 16, 23, 50)]) (pre := [⟨0, 16, 19, 25⟩]) (suf := []) (x := ⟨0, 16, 23, 50⟩) B.1 (by decide) htab rfl (List.forall_mem_cons.mpr ⟨⟨by decide, "java/lang/IndexOutOfBoundsException", by decide, by decide, cl_L_25⟩, fun y hy => nomatch hy⟩) (by decide) (by decide) cl_L_50 rfl hq (by rw [B.2.2.2.2]) (by decide) (by rw [B.2.1]; decide) (Nat.le_of_ble_eq_true rfl) (Nat.le_of_ble_eq_true rfl) (Or.inr ⟨(by decide +kernel), rfl⟩) (by decide +kernel) (by decide +kernel))
      · cases hf
  · refine B_callV B (Nat.le_refl _) (μ' := r1.2) (k' := 3) (n' := 18) ca_X9_at in_X9_at se_X9_at lk_L_46 (t_X9_at B.tr h1) (Nat.le_refl _) rfl rfl rfl (rest := [jI 0, jR 87]) rfl rfl (Nat.le_of_ble_eq_true rfl) (by decide +kernel) rfl rfl (st' := [jI r1.1, jI 0, jR 87]) rfl ?_
    refine B_blk B (jlkn_ok RL) jcl_SKF [.i2l] (by decide +kernel) (ls' := [(0, jR 0), (1, jI a0), (2, jI a1), (3, jI a2), (4, jI a3), (5, jI a4), (6, jR 87)]) (st' := [jL r1.1, jI 0, jR 87]) rfl (p1 := 15) rfl ?_
    refine K_last (lenI := 1) B rfl rfl (by decide) (by decide +kernel) ?_
    obtain ⟨m2, hm2, hf⟩ := jlt_s hf
    rw [hm2]
    refine B_blk B (jlkn_ok RL) jcl_SKF [.goto 11, .iconst 0] (by decide +kernel) (ls' := [(0, jR 0), (1, jI a0), (2, jI a1), (3, jI a2), (4, jI a3), (5, jI a4), (6, jR 87)]) (st' := [jI 0]) rfl (p1 := 28) rfl ?_
    cases hf
    exact B_retI B hq rfl (Nat.le_of_ble_eq_true rfl) (Nat.le_of_ble_eq_true rfl) (by decide +kernel)

def rm_L_hours : Room := { frames := 14, cells := 4, slots := 24, locals := 211 }
def f_L_hours (a0 : Int) (a1 : Int) (a2 : Int) (a3 : Int) (a4 : Int) (m : jMu) : Option (Int × jMu) :=
  jcat2 (f_X9_hours a0 a1 a2 a3 a4 m) (fun r1 => (jlt (jup r1.2 87 0 r1.1) fun m2 => some (0, m2))) (fun e1 w1 => if e1 = "java/lang/IndexOutOfBoundsException" then some (1, w1) else if e1 = "java/lang/IllegalArgumentException" then some (2, w1) else if e1 = "java/util/NoSuchElementException" then some (3, w1) else none)
theorem t_L_hours {l : Launch} {G : jG} (hl : l.stackTraces = false) {a0 : Int} {a1 : Int} {a2 : Int} {a3 : Int} {a4 : Int} {m : jMu} {r : (Int × jMu)} (hf : f_L_hours a0 a1 a2 a3 a4 m = some r) : jCt l G yL_hours (.codeWith yL_hours cL_hours 8 (some .int) [(0, 16, 19, 25), (0, 16, 23, 13), (0, 16, 27, 50)] :: jWG) rm_L_hours [jR 0, jI a0, jI a1, jI a2, jI a3, jI a4, jR 87] SKF m (.inl (some (jI r.1))) SKF r.2 := by
  unfold f_L_hours at hf
  refine J_startH (hh := [(0, 16, 19, 25), (0, 16, 23, 13), (0, 16, 27, 50)]) (ls0 := [(0, jR 0), (1, jI a0), (2, jI a1), (3, jI a2), (4, jI a3), (5, jI a4), (6, jR 87)]) (by decide +kernel) hl (Nat.le_of_ble_eq_true rfl) rfl fun X C hN hn hR hr htab hq => ?_
  have B : jB X cL_hours RL 8 SKF.length rm_L_hours (some .int) := ⟨C, hN, Nat.le_of_eq hn, hR, hr⟩
  refine B_blk B (jlkn_ok RL) jcl_SKF [.aload 6, .iconst 0, .aload_n 0, .iload_n 1, .iload_n 2, .iload_n 3, .iload 4, .iload 5] (by decide +kernel) (ls' := [(0, jR 0), (1, jI a0), (2, jI a1), (3, jI a2), (4, jI a3), (5, jI a4), (6, jR 87)]) (st' := [jI a4, jI a3, jI a2, jI a1, jI a0, jR 0, jI 0, jR 87]) rfl (p1 := 11) rfl ?_
  rcases jcat2_s hf with ⟨e1, w1, h1, hf⟩ | ⟨r1, h1, hf⟩
  · rcases jite hf with ⟨ce, hf⟩ | ⟨ce, hf⟩
    · subst ce
      cases hf
      exact B_callVX (E := "java/lang/IndexOutOfBoundsException") (μ' := w1) (k' := 4) (n' := 24) B (Nat.le_refl _) ca_X9_hours in_X9_hours se_X9_hours lk_L_52 (t_X9_hours B.tr h1) (Nat.le_refl _) rfl rfl rfl (rest := [jI 0, jR 87]) rfl rfl (Nat.le_of_ble_eq_true rfl) (by decide +kernel) rfl rfl (JX_catch (z := 1) (j := 7) (hh := [(0, 16, 19, 25), (0, 16, 23, 13), (0, 16, 27, 50)]) (pre := []) (suf := [⟨0, 16, 23, 13⟩, ⟨0, 16, 27, 50⟩]) (x := ⟨0, 16, 19, 25⟩) B.1 (by decide) htab rfl (fun y hy => nomatch hy) (by decide) (by decide) cl_L_25 rfl hq (by rw [B.2.2.2.2]) (by decide) (by rw [B.2.1]; decide) (Nat.le_of_ble_eq_true rfl) (Nat.le_of_ble_eq_true rfl) (Or.inr ⟨(by decide +kernel), rfl⟩) (by decide +kernel) (by decide +kernel))
    · rcases jite hf with ⟨ce, hf⟩ | ⟨ce, hf⟩
      · subst ce
        cases hf
        exact B_callVX (E := "java/lang/IllegalArgumentException") (μ' := w1) (k' := 4) (n' := 24) B (Nat.le_refl _) ca_X9_hours in_X9_hours se_X9_hours lk_L_52 (t_X9_hours B.tr h1) (Nat.le_refl _) rfl rfl rfl (rest := [jI 0, jR 87]) rfl rfl (Nat.le_of_ble_eq_true rfl) (by decide +kernel) rfl rfl (JX_catch (z := 2) (j := 7) (hh := [(0, 16, 19, 25), (0, 16, 23, 13), (0, 16, 27, 50)]) (pre := [⟨0, 16, 19, 25⟩]) (suf := [⟨0, 16, 27, 50⟩]) (x := ⟨0, 16, 23, 13⟩) B.1 (by decide) htab rfl (List.forall_mem_cons.mpr ⟨⟨by decide, "java/lang/IndexOutOfBoundsException", by decide, by decide, cl_L_25⟩, fun y hy => nomatch hy⟩) (by decide) (by decide) cl_L_13 rfl hq (by rw [B.2.2.2.2]) (by decide) (by rw [B.2.1]; decide) (Nat.le_of_ble_eq_true rfl) (Nat.le_of_ble_eq_true rfl) (Or.inr ⟨(by decide +kernel), rfl⟩) (by decide +kernel) (by decide +kernel))
      · rcases jite hf with ⟨ce, hf⟩ | ⟨ce, hf⟩
        · subst ce
          cases hf
          exact B_callVX (E := "java/util/NoSuchElementException") (μ' := w1) (k' := 4) (n' := 24) B (Nat.le_refl _) ca_X9_hours in_X9_hours se_X9_hours lk_L_52 (t_X9_hours B.tr h1) (Nat.le_refl _) rfl rfl rfl (rest := [jI 0, jR 87]) rfl rfl (Nat.le_of_ble_eq_true rfl) (by decide +kernel) rfl rfl (JX_catch (z := 3) (j := 7) (hh := [(0, 16, 19, 25), (0, 16, 23, 13), (0, 16, 27, 50)]) (pre := [⟨0, 16, 19, 25⟩, ⟨0, 16, 23, 13⟩]) (suf := []) (x := ⟨0, 16, 27, 50⟩) B.1 (by decide) htab rfl (List.forall_mem_cons.mpr ⟨⟨by decide, "java/lang/IndexOutOfBoundsException", by decide, by decide, cl_L_25⟩, List.forall_mem_cons.mpr ⟨⟨by decide, "java/lang/IllegalArgumentException", by decide, by decide, cl_L_13⟩, fun y hy => nomatch hy⟩⟩) (by decide) (by decide) cl_L_50 rfl hq (by rw [B.2.2.2.2]) (by decide) (by rw [B.2.1]; decide) (Nat.le_of_ble_eq_true rfl) (Nat.le_of_ble_eq_true rfl) (Or.inr ⟨(by decide +kernel), rfl⟩) (by decide +kernel) (by decide +kernel))
        · cases hf
  · refine B_callV B (Nat.le_refl _) (μ' := r1.2) (k' := 4) (n' := 24) ca_X9_hours in_X9_hours se_X9_hours lk_L_52 (t_X9_hours B.tr h1) (Nat.le_refl _) rfl rfl rfl (rest := [jI 0, jR 87]) rfl rfl (Nat.le_of_ble_eq_true rfl) (by decide +kernel) rfl rfl (st' := [jI r1.1, jI 0, jR 87]) rfl ?_
    refine B_blk B (jlkn_ok RL) jcl_SKF [.i2l] (by decide +kernel) (ls' := [(0, jR 0), (1, jI a0), (2, jI a1), (3, jI a2), (4, jI a3), (5, jI a4), (6, jR 87)]) (st' := [jL r1.1, jI 0, jR 87]) rfl (p1 := 15) rfl ?_
    refine K_last (lenI := 1) B rfl rfl (by decide) (by decide +kernel) ?_
    obtain ⟨m2, hm2, hf⟩ := jlt_s hf
    rw [hm2]
    refine B_blk B (jlkn_ok RL) jcl_SKF [.goto 15, .iconst 0] (by decide +kernel) (ls' := [(0, jR 0), (1, jI a0), (2, jI a1), (3, jI a2), (4, jI a3), (5, jI a4), (6, jR 87)]) (st' := [jI 0]) rfl (p1 := 32) rfl ?_
    cases hf
    exact B_retI B hq rfl (Nat.le_of_ble_eq_true rfl) (Nat.le_of_ble_eq_true rfl) (by decide +kernel)

def rm_L_gang : Room := { frames := 11, cells := 2, slots := 12, locals := 142 }
def f_L_gang (a0 : Int) (m : jMu) : Option (Int × jMu) :=
  jcat2 (f_X9_gang a0 m) (fun r1 => (jlt (jup r1.2 87 0 r1.1) fun m2 => some (0, m2))) (fun e1 w1 => if e1 = "java/lang/IllegalArgumentException" then some (1, w1) else if e1 = "java/lang/UnsupportedOperationException" then some (2, w1) else none)
theorem t_L_gang {l : Launch} {G : jG} (hl : l.stackTraces = false) {a0 : Int} {m : jMu} {r : (Int × jMu)} (hf : f_L_gang a0 m = some r) : jCt l G yL_gang (.codeWith yL_gang cL_gang 4 (some .int) [(0, 9, 12, 13), (0, 9, 15, 19)] :: jWG) rm_L_gang [jR 0, jI a0, jR 87] SKF m (.inl (some (jI r.1))) SKF r.2 := by
  unfold f_L_gang at hf
  refine J_startH (hh := [(0, 9, 12, 13), (0, 9, 15, 19)]) (ls0 := [(0, jR 0), (1, jI a0), (2, jR 87)]) (by decide +kernel) hl (Nat.le_of_ble_eq_true rfl) rfl fun X C hN hn hR hr htab hq => ?_
  have B : jB X cL_gang RL 4 SKF.length rm_L_gang (some .int) := ⟨C, hN, Nat.le_of_eq hn, hR, hr⟩
  refine B_blk B (jlkn_ok RL) jcl_SKF [.aload_n 2, .iconst 0, .aload_n 0, .iload_n 1] (by decide +kernel) (ls' := [(0, jR 0), (1, jI a0), (2, jR 87)]) (st' := [jI a0, jR 0, jI 0, jR 87]) rfl (p1 := 4) rfl ?_
  rcases jcat2_s hf with ⟨e1, w1, h1, hf⟩ | ⟨r1, h1, hf⟩
  · rcases jite hf with ⟨ce, hf⟩ | ⟨ce, hf⟩
    · subst ce
      cases hf
      exact B_callVX (E := "java/lang/IllegalArgumentException") (μ' := w1) (k' := 2) (n' := 12) B (Nat.le_refl _) ca_X9_gang in_X9_gang se_X9_gang lk_L_55 (t_X9_gang B.tr h1) (Nat.le_refl _) rfl rfl rfl (rest := [jI 0, jR 87]) rfl rfl (Nat.le_of_ble_eq_true rfl) (by decide +kernel) rfl rfl (JX_catch (z := 1) (j := 3) (hh := [(0, 9, 12, 13), (0, 9, 15, 19)]) (pre := []) (suf := [⟨0, 9, 15, 19⟩]) (x := ⟨0, 9, 12, 13⟩) B.1 (by decide) htab rfl (fun y hy => nomatch hy) (by decide) (by decide) cl_L_13 rfl hq (by rw [B.2.2.2.2]) (by decide) (by rw [B.2.1]; decide) (Nat.le_of_ble_eq_true rfl) (Nat.le_of_ble_eq_true rfl) (Or.inl ⟨3, rfl, (by decide +kernel), rfl⟩) (by decide +kernel) (by decide +kernel))
    · rcases jite hf with ⟨ce, hf⟩ | ⟨ce, hf⟩
      · subst ce
        cases hf
        exact B_callVX (E := "java/lang/UnsupportedOperationException") (μ' := w1) (k' := 2) (n' := 12) B (Nat.le_refl _) ca_X9_gang in_X9_gang se_X9_gang lk_L_55 (t_X9_gang B.tr h1) (Nat.le_refl _) rfl rfl rfl (rest := [jI 0, jR 87]) rfl rfl (Nat.le_of_ble_eq_true rfl) (by decide +kernel) rfl rfl (JX_catch (z := 2) (j := 3) (hh := [(0, 9, 12, 13), (0, 9, 15, 19)]) (pre := [⟨0, 9, 12, 13⟩]) (suf := []) (x := ⟨0, 9, 15, 19⟩) B.1 (by decide) htab rfl (List.forall_mem_cons.mpr ⟨⟨by decide, "java/lang/IllegalArgumentException", by decide, by decide, cl_L_13⟩, fun y hy => nomatch hy⟩) (by decide) (by decide) cl_L_19 rfl hq (by rw [B.2.2.2.2]) (by decide) (by rw [B.2.1]; decide) (Nat.le_of_ble_eq_true rfl) (Nat.le_of_ble_eq_true rfl) (Or.inl ⟨3, rfl, (by decide +kernel), rfl⟩) (by decide +kernel) (by decide +kernel))
      · cases hf
  · refine B_callV B (Nat.le_refl _) (μ' := r1.2) (k' := 2) (n' := 12) ca_X9_gang in_X9_gang se_X9_gang lk_L_55 (t_X9_gang B.tr h1) (Nat.le_refl _) rfl rfl rfl (rest := [jI 0, jR 87]) rfl rfl (Nat.le_of_ble_eq_true rfl) (by decide +kernel) rfl rfl (st' := [jI r1.1, jI 0, jR 87]) rfl ?_
    refine B_blk B (jlkn_ok RL) jcl_SKF [.i2l] (by decide +kernel) (ls' := [(0, jR 0), (1, jI a0), (2, jR 87)]) (st' := [jL r1.1, jI 0, jR 87]) rfl (p1 := 8) rfl ?_
    refine K_last (lenI := 1) B rfl rfl (by decide) (by decide +kernel) ?_
    obtain ⟨m2, hm2, hf⟩ := jlt_s hf
    rw [hm2]
    refine B_blk B (jlkn_ok RL) jcl_SKF [.goto 9, .iconst 0] (by decide +kernel) (ls' := [(0, jR 0), (1, jI a0), (2, jR 87)]) (st' := [jI 0]) rfl (p1 := 19) rfl ?_
    cases hf
    exact B_retI B hq rfl (Nat.le_of_ble_eq_true rfl) (Nat.le_of_ble_eq_true rfl) (by decide +kernel)

def rm_L_batch : Room := { frames := 11, cells := 2, slots := 12, locals := 144 }
def f_L_batch (a0 : Int) (a1 : Int) (a2 : Int) (m : jMu) : Option (Int × jMu) :=
  jcat2 (f_X9_batch a0 a1 a2 m) (fun r1 => (jlt (jup r1.2 87 0 r1.1) fun m2 => some (0, m2))) (fun e1 w1 => if e1 = "java/lang/IllegalArgumentException" then some (1, w1) else if e1 = "java/lang/UnsupportedOperationException" then some (2, w1) else none)
theorem t_L_batch {l : Launch} {G : jG} (hl : l.stackTraces = false) {a0 : Int} {a1 : Int} {a2 : Int} {m : jMu} {r : (Int × jMu)} (hf : f_L_batch a0 a1 a2 m = some r) : jCt l G yL_batch (.codeWith yL_batch cL_batch 6 (some .int) [(0, 12, 15, 13), (0, 12, 19, 19)] :: jWG) rm_L_batch [jR 0, jI a0, jI a1, jI a2, jR 87] SKF m (.inl (some (jI r.1))) SKF r.2 := by
  unfold f_L_batch at hf
  refine J_startH (hh := [(0, 12, 15, 13), (0, 12, 19, 19)]) (ls0 := [(0, jR 0), (1, jI a0), (2, jI a1), (3, jI a2), (4, jR 87)]) (by decide +kernel) hl (Nat.le_of_ble_eq_true rfl) rfl fun X C hN hn hR hr htab hq => ?_
  have B : jB X cL_batch RL 6 SKF.length rm_L_batch (some .int) := ⟨C, hN, Nat.le_of_eq hn, hR, hr⟩
  refine B_blk B (jlkn_ok RL) jcl_SKF [.aload 4, .iconst 0, .aload_n 0, .iload_n 1, .iload_n 2, .iload_n 3] (by decide +kernel) (ls' := [(0, jR 0), (1, jI a0), (2, jI a1), (3, jI a2), (4, jR 87)]) (st' := [jI a2, jI a1, jI a0, jR 0, jI 0, jR 87]) rfl (p1 := 7) rfl ?_
  rcases jcat2_s hf with ⟨e1, w1, h1, hf⟩ | ⟨r1, h1, hf⟩
  · rcases jite hf with ⟨ce, hf⟩ | ⟨ce, hf⟩
    · subst ce
      cases hf
      exact B_callVX (E := "java/lang/IllegalArgumentException") (μ' := w1) (k' := 2) (n' := 12) B (Nat.le_refl _) ca_X9_batch in_X9_batch se_X9_batch lk_L_58 (t_X9_batch B.tr h1) (Nat.le_refl _) rfl rfl rfl (rest := [jI 0, jR 87]) rfl rfl (Nat.le_of_ble_eq_true rfl) (by decide +kernel) rfl rfl (JX_catch (z := 1) (j := 5) (hh := [(0, 12, 15, 13), (0, 12, 19, 19)]) (pre := []) (suf := [⟨0, 12, 19, 19⟩]) (x := ⟨0, 12, 15, 13⟩) B.1 (by decide) htab rfl (fun y hy => nomatch hy) (by decide) (by decide) cl_L_13 rfl hq (by rw [B.2.2.2.2]) (by decide) (by rw [B.2.1]; decide) (Nat.le_of_ble_eq_true rfl) (Nat.le_of_ble_eq_true rfl) (Or.inr ⟨(by decide +kernel), rfl⟩) (by decide +kernel) (by decide +kernel))
    · rcases jite hf with ⟨ce, hf⟩ | ⟨ce, hf⟩
      · subst ce
        cases hf
        exact B_callVX (E := "java/lang/UnsupportedOperationException") (μ' := w1) (k' := 2) (n' := 12) B (Nat.le_refl _) ca_X9_batch in_X9_batch se_X9_batch lk_L_58 (t_X9_batch B.tr h1) (Nat.le_refl _) rfl rfl rfl (rest := [jI 0, jR 87]) rfl rfl (Nat.le_of_ble_eq_true rfl) (by decide +kernel) rfl rfl (JX_catch (z := 2) (j := 5) (hh := [(0, 12, 15, 13), (0, 12, 19, 19)]) (pre := [⟨0, 12, 15, 13⟩]) (suf := []) (x := ⟨0, 12, 19, 19⟩) B.1 (by decide) htab rfl (List.forall_mem_cons.mpr ⟨⟨by decide, "java/lang/IllegalArgumentException", by decide, by decide, cl_L_13⟩, fun y hy => nomatch hy⟩) (by decide) (by decide) cl_L_19 rfl hq (by rw [B.2.2.2.2]) (by decide) (by rw [B.2.1]; decide) (Nat.le_of_ble_eq_true rfl) (Nat.le_of_ble_eq_true rfl) (Or.inr ⟨(by decide +kernel), rfl⟩) (by decide +kernel) (by decide +kernel))
      · cases hf
  · refine B_callV B (Nat.le_refl _) (μ' := r1.2) (k' := 2) (n' := 12) ca_X9_batch in_X9_batch se_X9_batch lk_L_58 (t_X9_batch B.tr h1) (Nat.le_refl _) rfl rfl rfl (rest := [jI 0, jR 87]) rfl rfl (Nat.le_of_ble_eq_true rfl) (by decide +kernel) rfl rfl (st' := [jI r1.1, jI 0, jR 87]) rfl ?_
    refine B_blk B (jlkn_ok RL) jcl_SKF [.i2l] (by decide +kernel) (ls' := [(0, jR 0), (1, jI a0), (2, jI a1), (3, jI a2), (4, jR 87)]) (st' := [jL r1.1, jI 0, jR 87]) rfl (p1 := 11) rfl ?_
    refine K_last (lenI := 1) B rfl rfl (by decide) (by decide +kernel) ?_
    obtain ⟨m2, hm2, hf⟩ := jlt_s hf
    rw [hm2]
    refine B_blk B (jlkn_ok RL) jcl_SKF [.goto 11, .iconst 0] (by decide +kernel) (ls' := [(0, jR 0), (1, jI a0), (2, jI a1), (3, jI a2), (4, jR 87)]) (st' := [jI 0]) rfl (p1 := 24) rfl ?_
    cases hf
    exact B_retI B hq rfl (Nat.le_of_ble_eq_true rfl) (Nat.le_of_ble_eq_true rfl) (by decide +kernel)

def rm_L_ends : Room := { frames := 16, cells := 2, slots := 12, locals := 232 }
def f_L_ends (a0 : Int) (a1 : Int) (a2 : Int) (a3 : Int) (m : jMu) : Option (Int × jMu) :=
  jcat2 (f_X9_ends a0 a1 a2 a3 m) (fun r1 => (jlt (jup r1.2 87 0 r1.1) fun m2 => some (0, m2))) (fun e1 w1 => if e1 = "java/lang/IndexOutOfBoundsException" then some (1, w1) else none)
theorem t_L_ends {l : Launch} {G : jG} (hl : l.stackTraces = false) {a0 : Int} {a1 : Int} {a2 : Int} {a3 : Int} {m : jMu} {r : (Int × jMu)} (hf : f_L_ends a0 a1 a2 a3 m = some r) : jCt l G yL_ends (.codeWith yL_ends cL_ends 7 (some .int) [(0, 14, 17, 25)] :: jWG) rm_L_ends [jR 0, jI a0, jI a1, jI a2, jI a3, jR 87] SKF m (.inl (some (jI r.1))) SKF r.2 := by
  unfold f_L_ends at hf
  refine J_startH (hh := [(0, 14, 17, 25)]) (ls0 := [(0, jR 0), (1, jI a0), (2, jI a1), (3, jI a2), (4, jI a3), (5, jR 87)]) (by decide +kernel) hl (Nat.le_of_ble_eq_true rfl) rfl fun X C hN hn hR hr htab hq => ?_
  have B : jB X cL_ends RL 7 SKF.length rm_L_ends (some .int) := ⟨C, hN, Nat.le_of_eq hn, hR, hr⟩
  refine B_blk B (jlkn_ok RL) jcl_SKF [.aload 5, .iconst 0, .aload_n 0, .iload_n 1, .iload_n 2, .iload_n 3, .iload 4] (by decide +kernel) (ls' := [(0, jR 0), (1, jI a0), (2, jI a1), (3, jI a2), (4, jI a3), (5, jR 87)]) (st' := [jI a3, jI a2, jI a1, jI a0, jR 0, jI 0, jR 87]) rfl (p1 := 9) rfl ?_
  rcases jcat2_s hf with ⟨e1, w1, h1, hf⟩ | ⟨r1, h1, hf⟩
  · rcases jite hf with ⟨ce, hf⟩ | ⟨ce, hf⟩
    · subst ce
      cases hf
      exact B_callVX (E := "java/lang/IndexOutOfBoundsException") (μ' := w1) (k' := 2) (n' := 12) B (Nat.le_refl _) ca_X9_ends in_X9_ends se_X9_ends lk_L_61 (t_X9_ends B.tr h1) (Nat.le_refl _) rfl rfl rfl (rest := [jI 0, jR 87]) rfl rfl (Nat.le_of_ble_eq_true rfl) (by decide +kernel) rfl rfl (JX_catch (z := 1) (j := 6) (hh := [(0, 14, 17, 25)]) (pre := []) (suf := []) (x := ⟨0, 14, 17, 25⟩) B.1 (by decide) htab rfl (fun y hy => nomatch hy) (by decide) (by decide) cl_L_25 rfl hq (by rw [B.2.2.2.2]) (by decide) (by rw [B.2.1]; decide) (Nat.le_of_ble_eq_true rfl) (Nat.le_of_ble_eq_true rfl) (Or.inr ⟨(by decide +kernel), rfl⟩) (by decide +kernel) (by decide +kernel))
    · cases hf
  · refine B_callV B (Nat.le_refl _) (μ' := r1.2) (k' := 2) (n' := 12) ca_X9_ends in_X9_ends se_X9_ends lk_L_61 (t_X9_ends B.tr h1) (Nat.le_refl _) rfl rfl rfl (rest := [jI 0, jR 87]) rfl rfl (Nat.le_of_ble_eq_true rfl) (by decide +kernel) rfl rfl (st' := [jI r1.1, jI 0, jR 87]) rfl ?_
    refine B_blk B (jlkn_ok RL) jcl_SKF [.i2l] (by decide +kernel) (ls' := [(0, jR 0), (1, jI a0), (2, jI a1), (3, jI a2), (4, jI a3), (5, jR 87)]) (st' := [jL r1.1, jI 0, jR 87]) rfl (p1 := 13) rfl ?_
    refine K_last (lenI := 1) B rfl rfl (by decide) (by decide +kernel) ?_
    obtain ⟨m2, hm2, hf⟩ := jlt_s hf
    rw [hm2]
    refine B_blk B (jlkn_ok RL) jcl_SKF [.goto 7, .iconst 0] (by decide +kernel) (ls' := [(0, jR 0), (1, jI a0), (2, jI a1), (3, jI a2), (4, jI a3), (5, jR 87)]) (st' := [jI 0]) rfl (p1 := 22) rfl ?_
    cases hf
    exact B_retI B hq rfl (Nat.le_of_ble_eq_true rfl) (Nat.le_of_ble_eq_true rfl) (by decide +kernel)

def rm_L_may : Room := { frames := 14, cells := 1, slots := 6, locals := 208 }
def f_L_may (a0 : Int) (a1 : Int) (m : jMu) : Option (Int × jMu) :=
  jcat2 (f_X9_may a0 a1 m) (fun r1 => (if r1.1 = 0 then (jlt (jup r1.2 87 0 0) fun m2 => some (0, m2)) else (jlt (jup r1.2 87 0 1) fun m3 => some (0, m3)))) (fun e1 w1 => if e1 = "java/lang/IndexOutOfBoundsException" then some (1, w1) else none)
theorem t_L_may {l : Launch} {G : jG} (hl : l.stackTraces = false) {a0 : Int} {a1 : Int} {m : jMu} {r : (Int × jMu)} (hf : f_L_may a0 a1 m = some r) : jCt l G yL_may (.codeWith yL_may cL_may 5 (some .int) [(0, 17, 20, 25)] :: jWG) rm_L_may [jR 0, jI a0, jI a1, jR 87] SKF m (.inl (some (jI r.1))) SKF r.2 := by
  unfold f_L_may at hf
  refine J_startH (hh := [(0, 17, 20, 25)]) (ls0 := [(0, jR 0), (1, jI a0), (2, jI a1), (3, jR 87)]) (by decide +kernel) hl (Nat.le_of_ble_eq_true rfl) rfl fun X C hN hn hR hr htab hq => ?_
  have B : jB X cL_may RL 5 SKF.length rm_L_may (some .int) := ⟨C, hN, Nat.le_of_eq hn, hR, hr⟩
  refine B_blk B (jlkn_ok RL) jcl_SKF [.aload_n 3, .iconst 0, .aload_n 0, .iload_n 1, .iload_n 2] (by decide +kernel) (ls' := [(0, jR 0), (1, jI a0), (2, jI a1), (3, jR 87)]) (st' := [jI a1, jI a0, jR 0, jI 0, jR 87]) rfl (p1 := 5) rfl ?_
  rcases jcat2_s hf with ⟨e1, w1, h1, hf⟩ | ⟨r1, h1, hf⟩
  · rcases jite hf with ⟨ce, hf⟩ | ⟨ce, hf⟩
    · subst ce
      cases hf
      exact B_callVX (E := "java/lang/IndexOutOfBoundsException") (μ' := w1) (k' := 1) (n' := 6) B (Nat.le_refl _) ca_X9_may in_X9_may se_X9_may lk_L_64 (t_X9_may B.tr h1) (Nat.le_refl _) rfl rfl rfl (rest := [jI 0, jR 87]) rfl rfl (Nat.le_of_ble_eq_true rfl) (by decide +kernel) rfl rfl (JX_catch (z := 1) (j := 4) (hh := [(0, 17, 20, 25)]) (pre := []) (suf := []) (x := ⟨0, 17, 20, 25⟩) B.1 (by decide) htab rfl (fun y hy => nomatch hy) (by decide) (by decide) cl_L_25 rfl hq (by rw [B.2.2.2.2]) (by decide) (by rw [B.2.1]; decide) (Nat.le_of_ble_eq_true rfl) (Nat.le_of_ble_eq_true rfl) (Or.inr ⟨(by decide +kernel), rfl⟩) (by decide +kernel) (by decide +kernel))
    · cases hf
  · refine B_callV B (Nat.le_refl _) (μ' := r1.2) (k' := 1) (n' := 6) ca_X9_may in_X9_may se_X9_may lk_L_64 (t_X9_may B.tr h1) (Nat.le_refl _) rfl rfl rfl (rest := [jI 0, jR 87]) rfl rfl (Nat.le_of_ble_eq_true rfl) (by decide +kernel) rfl rfl (st' := [jI r1.1, jI 0, jR 87]) rfl ?_
    refine J_if_eq B.1 (off := 7) (tgt := 15) (by decide +kernel) (by decide) hf (fun hf => ?_) (fun hf => ?_)
    · refine B_blk B (jlkn_ok RL) jcl_SKF [.lconst 0] (by decide +kernel) (ls' := [(0, jR 0), (1, jI a0), (2, jI a1), (3, jR 87)]) (st' := [jL 0, jI 0, jR 87]) rfl (p1 := 16) rfl ?_
      refine K_last (lenI := 1) B rfl rfl (by decide) (by decide +kernel) ?_
      obtain ⟨m2, hm2, hf⟩ := jlt_s hf
      rw [hm2]
      refine B_blk B (jlkn_ok RL) jcl_SKF [.goto 7, .iconst 0] (by decide +kernel) (ls' := [(0, jR 0), (1, jI a0), (2, jI a1), (3, jR 87)]) (st' := [jI 0]) rfl (p1 := 25) rfl ?_
      cases hf
      exact B_retI B hq rfl (Nat.le_of_ble_eq_true rfl) (Nat.le_of_ble_eq_true rfl) (by decide +kernel)
    · refine B_blk B (jlkn_ok RL) jcl_SKF [.lconst 1, .goto 4] (by decide +kernel) (ls' := [(0, jR 0), (1, jI a0), (2, jI a1), (3, jR 87)]) (st' := [jL 1, jI 0, jR 87]) rfl (p1 := 16) rfl ?_
      refine K_last (lenI := 1) B rfl rfl (by decide) (by decide +kernel) ?_
      obtain ⟨m3, hm3, hf⟩ := jlt_s hf
      rw [hm3]
      refine B_blk B (jlkn_ok RL) jcl_SKF [.goto 7, .iconst 0] (by decide +kernel) (ls' := [(0, jR 0), (1, jI a0), (2, jI a1), (3, jR 87)]) (st' := [jI 0]) rfl (p1 := 25) rfl ?_
      cases hf
      exact B_retI B hq rfl (Nat.le_of_ble_eq_true rfl) (Nat.le_of_ble_eq_true rfl) (by decide +kernel)

def rm_L_job : Room := { frames := 16, cells := 3, slots := 18, locals := 235 }
def f_L_job (a0 : Int) (a1 : Int) (a2 : Int) (a3 : Int) (a4 : Int) (m : jMu) : Option (Int × jMu) :=
  jcat2 (f_X9_job a0 a1 a2 a3 a4 m) (fun r1 => (jlt (jup r1.2 87 0 r1.1) fun m2 => some (0, m2))) (fun e1 w1 => if e1 = "java/lang/IndexOutOfBoundsException" then some (1, w1) else if e1 = "java/lang/UnsupportedOperationException" then some (2, w1) else none)
theorem t_L_job {l : Launch} {G : jG} (hl : l.stackTraces = false) {a0 : Int} {a1 : Int} {a2 : Int} {a3 : Int} {a4 : Int} {m : jMu} {r : (Int × jMu)} (hf : f_L_job a0 a1 a2 a3 a4 m = some r) : jCt l G yL_job (.codeWith yL_job cL_job 8 (some .int) [(0, 16, 19, 25), (0, 16, 23, 19)] :: jWG) rm_L_job [jR 0, jI a0, jI a1, jI a2, jI a3, jI a4, jR 87] SKF m (.inl (some (jI r.1))) SKF r.2 := by
  unfold f_L_job at hf
  refine J_startH (hh := [(0, 16, 19, 25), (0, 16, 23, 19)]) (ls0 := [(0, jR 0), (1, jI a0), (2, jI a1), (3, jI a2), (4, jI a3), (5, jI a4), (6, jR 87)]) (by decide +kernel) hl (Nat.le_of_ble_eq_true rfl) rfl fun X C hN hn hR hr htab hq => ?_
  have B : jB X cL_job RL 8 SKF.length rm_L_job (some .int) := ⟨C, hN, Nat.le_of_eq hn, hR, hr⟩
  refine B_blk B (jlkn_ok RL) jcl_SKF [.aload 6, .iconst 0, .aload_n 0, .iload_n 1, .iload_n 2, .iload_n 3, .iload 4, .iload 5] (by decide +kernel) (ls' := [(0, jR 0), (1, jI a0), (2, jI a1), (3, jI a2), (4, jI a3), (5, jI a4), (6, jR 87)]) (st' := [jI a4, jI a3, jI a2, jI a1, jI a0, jR 0, jI 0, jR 87]) rfl (p1 := 11) rfl ?_
  rcases jcat2_s hf with ⟨e1, w1, h1, hf⟩ | ⟨r1, h1, hf⟩
  · rcases jite hf with ⟨ce, hf⟩ | ⟨ce, hf⟩
    · subst ce
      cases hf
      exact B_callVX (E := "java/lang/IndexOutOfBoundsException") (μ' := w1) (k' := 3) (n' := 18) B (Nat.le_refl _) ca_X9_job in_X9_job se_X9_job lk_L_68 (t_X9_job B.tr h1) (Nat.le_refl _) rfl rfl rfl (rest := [jI 0, jR 87]) rfl rfl (Nat.le_of_ble_eq_true rfl) (by decide +kernel) rfl rfl (JX_catch (z := 1) (j := 7) (hh := [(0, 16, 19, 25), (0, 16, 23, 19)]) (pre := []) (suf := [⟨0, 16, 23, 19⟩]) (x := ⟨0, 16, 19, 25⟩) B.1 (by decide) htab rfl (fun y hy => nomatch hy) (by decide) (by decide) cl_L_25 rfl hq (by rw [B.2.2.2.2]) (by decide) (by rw [B.2.1]; decide) (Nat.le_of_ble_eq_true rfl) (Nat.le_of_ble_eq_true rfl) (Or.inr ⟨(by decide +kernel), rfl⟩) (by decide +kernel) (by decide +kernel))
    · rcases jite hf with ⟨ce, hf⟩ | ⟨ce, hf⟩
      · subst ce
        cases hf
        exact B_callVX (E := "java/lang/UnsupportedOperationException") (μ' := w1) (k' := 3) (n' := 18) B (Nat.le_refl _) ca_X9_job in_X9_job se_X9_job lk_L_68 (t_X9_job B.tr h1) (Nat.le_refl _) rfl rfl rfl (rest := [jI 0, jR 87]) rfl rfl (Nat.le_of_ble_eq_true rfl) (by decide +kernel) rfl rfl (JX_catch (z := 2) (j := 7) (hh := [(0, 16, 19, 25), (0, 16, 23, 19)]) (pre := [⟨0, 16, 19, 25⟩]) (suf := []) (x := ⟨0, 16, 23, 19⟩) B.1 (by decide) htab rfl (List.forall_mem_cons.mpr ⟨⟨by decide, "java/lang/IndexOutOfBoundsException", by decide, by decide, cl_L_25⟩, fun y hy => nomatch hy⟩) (by decide) (by decide) cl_L_19 rfl hq (by rw [B.2.2.2.2]) (by decide) (by rw [B.2.1]; decide) (Nat.le_of_ble_eq_true rfl) (Nat.le_of_ble_eq_true rfl) (Or.inr ⟨(by decide +kernel), rfl⟩) (by decide +kernel) (by decide +kernel))
      · cases hf
  · refine B_callV B (Nat.le_refl _) (μ' := r1.2) (k' := 3) (n' := 18) ca_X9_job in_X9_job se_X9_job lk_L_68 (t_X9_job B.tr h1) (Nat.le_refl _) rfl rfl rfl (rest := [jI 0, jR 87]) rfl rfl (Nat.le_of_ble_eq_true rfl) (by decide +kernel) rfl rfl (st' := [jI r1.1, jI 0, jR 87]) rfl ?_
    refine B_blk B (jlkn_ok RL) jcl_SKF [.i2l] (by decide +kernel) (ls' := [(0, jR 0), (1, jI a0), (2, jI a1), (3, jI a2), (4, jI a3), (5, jI a4), (6, jR 87)]) (st' := [jL r1.1, jI 0, jR 87]) rfl (p1 := 15) rfl ?_
    refine K_last (lenI := 1) B rfl rfl (by decide) (by decide +kernel) ?_
    obtain ⟨m2, hm2, hf⟩ := jlt_s hf
    rw [hm2]
    refine B_blk B (jlkn_ok RL) jcl_SKF [.goto 11, .iconst 0] (by decide +kernel) (ls' := [(0, jR 0), (1, jI a0), (2, jI a1), (3, jI a2), (4, jI a3), (5, jI a4), (6, jR 87)]) (st' := [jI 0]) rfl (p1 := 28) rfl ?_
    cases hf
    exact B_retI B hq rfl (Nat.le_of_ble_eq_true rfl) (Nat.le_of_ble_eq_true rfl) (by decide +kernel)

def rm_L_look : Room := { frames := 11, cells := 2, slots := 12, locals := 142 }
def f_L_look (a0 : Int) (a1 : Int) (m : jMu) : Option (Int × jMu) :=
  jcat2 (f_X9_look a0 a1 m) (fun r1 => (jlt (jup r1.2 87 0 r1.1) fun m2 => some (0, m2))) (fun e1 w1 => if e1 = "java/lang/IndexOutOfBoundsException" then some (1, w1) else if e1 = "java/util/NoSuchElementException" then some (2, w1) else none)
theorem t_L_look {l : Launch} {G : jG} (hl : l.stackTraces = false) {a0 : Int} {a1 : Int} {m : jMu} {r : (Int × jMu)} (hf : f_L_look a0 a1 m = some r) : jCt l G yL_look (.codeWith yL_look cL_look 5 (some .int) [(0, 10, 13, 25), (0, 10, 17, 50)] :: jWG) rm_L_look [jR 0, jI a0, jI a1, jR 87] SKF m (.inl (some (jI r.1))) SKF r.2 := by
  unfold f_L_look at hf
  refine J_startH (hh := [(0, 10, 13, 25), (0, 10, 17, 50)]) (ls0 := [(0, jR 0), (1, jI a0), (2, jI a1), (3, jR 87)]) (by decide +kernel) hl (Nat.le_of_ble_eq_true rfl) rfl fun X C hN hn hR hr htab hq => ?_
  have B : jB X cL_look RL 5 SKF.length rm_L_look (some .int) := ⟨C, hN, Nat.le_of_eq hn, hR, hr⟩
  refine B_blk B (jlkn_ok RL) jcl_SKF [.aload_n 3, .iconst 0, .aload_n 0, .iload_n 1, .iload_n 2] (by decide +kernel) (ls' := [(0, jR 0), (1, jI a0), (2, jI a1), (3, jR 87)]) (st' := [jI a1, jI a0, jR 0, jI 0, jR 87]) rfl (p1 := 5) rfl ?_
  rcases jcat2_s hf with ⟨e1, w1, h1, hf⟩ | ⟨r1, h1, hf⟩
  · rcases jite hf with ⟨ce, hf⟩ | ⟨ce, hf⟩
    · subst ce
      cases hf
      exact B_callVX (E := "java/lang/IndexOutOfBoundsException") (μ' := w1) (k' := 2) (n' := 12) B (Nat.le_refl _) ca_X9_look in_X9_look se_X9_look lk_L_71 (t_X9_look B.tr h1) (Nat.le_refl _) rfl rfl rfl (rest := [jI 0, jR 87]) rfl rfl (Nat.le_of_ble_eq_true rfl) (by decide +kernel) rfl rfl (JX_catch (z := 1) (j := 4) (hh := [(0, 10, 13, 25), (0, 10, 17, 50)]) (pre := []) (suf := [⟨0, 10, 17, 50⟩]) (x := ⟨0, 10, 13, 25⟩) B.1 (by decide) htab rfl (fun y hy => nomatch hy) (by decide) (by decide) cl_L_25 rfl hq (by rw [B.2.2.2.2]) (by decide) (by rw [B.2.1]; decide) (Nat.le_of_ble_eq_true rfl) (Nat.le_of_ble_eq_true rfl) (Or.inr ⟨(by decide +kernel), rfl⟩) (by decide +kernel) (by decide +kernel))
    · rcases jite hf with ⟨ce, hf⟩ | ⟨ce, hf⟩
      · subst ce
        cases hf
        exact B_callVX (E := "java/util/NoSuchElementException") (μ' := w1) (k' := 2) (n' := 12) B (Nat.le_refl _) ca_X9_look in_X9_look se_X9_look lk_L_71 (t_X9_look B.tr h1) (Nat.le_refl _) rfl rfl rfl (rest := [jI 0, jR 87]) rfl rfl (Nat.le_of_ble_eq_true rfl) (by decide +kernel) rfl rfl (JX_catch (z := 2) (j := 4) (hh := [(0, 10, 13, 25), (0, 10, 17, 50)]) (pre := [⟨0, 10, 13, 25⟩]) (suf := []) (x := ⟨0, 10, 17, 50⟩) B.1 (by decide) htab rfl (List.forall_mem_cons.mpr ⟨⟨by decide, "java/lang/IndexOutOfBoundsException", by decide, by decide, cl_L_25⟩, fun y hy => nomatch hy⟩) (by decide) (by decide) cl_L_50 rfl hq (by rw [B.2.2.2.2]) (by decide) (by rw [B.2.1]; decide) (Nat.le_of_ble_eq_true rfl) (Nat.le_of_ble_eq_true rfl) (Or.inr ⟨(by decide +kernel), rfl⟩) (by decide +kernel) (by decide +kernel))
      · cases hf
  · refine B_callV B (Nat.le_refl _) (μ' := r1.2) (k' := 2) (n' := 12) ca_X9_look in_X9_look se_X9_look lk_L_71 (t_X9_look B.tr h1) (Nat.le_refl _) rfl rfl rfl (rest := [jI 0, jR 87]) rfl rfl (Nat.le_of_ble_eq_true rfl) (by decide +kernel) rfl rfl (st' := [jI r1.1, jI 0, jR 87]) rfl ?_
    refine B_blk B (jlkn_ok RL) jcl_SKF [.i2l] (by decide +kernel) (ls' := [(0, jR 0), (1, jI a0), (2, jI a1), (3, jR 87)]) (st' := [jL r1.1, jI 0, jR 87]) rfl (p1 := 9) rfl ?_
    refine K_last (lenI := 1) B rfl rfl (by decide) (by decide +kernel) ?_
    obtain ⟨m2, hm2, hf⟩ := jlt_s hf
    rw [hm2]
    refine B_blk B (jlkn_ok RL) jcl_SKF [.goto 11, .iconst 0] (by decide +kernel) (ls' := [(0, jR 0), (1, jI a0), (2, jI a1), (3, jR 87)]) (st' := [jI 0]) rfl (p1 := 22) rfl ?_
    cases hf
    exact B_retI B hq rfl (Nat.le_of_ble_eq_true rfl) (Nat.le_of_ble_eq_true rfl) (by decide +kernel)

def rm_L_peel : Room := { frames := 11, cells := 1, slots := 6, locals := 141 }
def f_L_peel (a0 : Int) (m : jMu) : Option (Int × jMu) :=
  jcat2 (f_X9_peel a0 m) (fun r1 => (if r1.1 = 0 then (jlt (jup r1.2 87 0 0) fun m2 => some (0, m2)) else (jlt (jup r1.2 87 0 1) fun m3 => some (0, m3)))) (fun e1 w1 => if e1 = "java/lang/IndexOutOfBoundsException" then some (1, w1) else none)
theorem t_L_peel {l : Launch} {G : jG} (hl : l.stackTraces = false) {a0 : Int} {m : jMu} {r : (Int × jMu)} (hf : f_L_peel a0 m = some r) : jCt l G yL_peel (.codeWith yL_peel cL_peel 4 (some .int) [(0, 16, 19, 25)] :: jWG) rm_L_peel [jR 0, jI a0, jR 87] SKF m (.inl (some (jI r.1))) SKF r.2 := by
  unfold f_L_peel at hf
  refine J_startH (hh := [(0, 16, 19, 25)]) (ls0 := [(0, jR 0), (1, jI a0), (2, jR 87)]) (by decide +kernel) hl (Nat.le_of_ble_eq_true rfl) rfl fun X C hN hn hR hr htab hq => ?_
  have B : jB X cL_peel RL 4 SKF.length rm_L_peel (some .int) := ⟨C, hN, Nat.le_of_eq hn, hR, hr⟩
  refine B_blk B (jlkn_ok RL) jcl_SKF [.aload_n 2, .iconst 0, .aload_n 0, .iload_n 1] (by decide +kernel) (ls' := [(0, jR 0), (1, jI a0), (2, jR 87)]) (st' := [jI a0, jR 0, jI 0, jR 87]) rfl (p1 := 4) rfl ?_
  rcases jcat2_s hf with ⟨e1, w1, h1, hf⟩ | ⟨r1, h1, hf⟩
  · rcases jite hf with ⟨ce, hf⟩ | ⟨ce, hf⟩
    · subst ce
      cases hf
      exact B_callVX (E := "java/lang/IndexOutOfBoundsException") (μ' := w1) (k' := 1) (n' := 6) B (Nat.le_refl _) ca_X9_peel in_X9_peel se_X9_peel lk_L_75 (t_X9_peel B.tr h1) (Nat.le_refl _) rfl rfl rfl (rest := [jI 0, jR 87]) rfl rfl (Nat.le_of_ble_eq_true rfl) (by decide +kernel) rfl rfl (JX_catch (z := 1) (j := 3) (hh := [(0, 16, 19, 25)]) (pre := []) (suf := []) (x := ⟨0, 16, 19, 25⟩) B.1 (by decide) htab rfl (fun y hy => nomatch hy) (by decide) (by decide) cl_L_25 rfl hq (by rw [B.2.2.2.2]) (by decide) (by rw [B.2.1]; decide) (Nat.le_of_ble_eq_true rfl) (Nat.le_of_ble_eq_true rfl) (Or.inl ⟨3, rfl, (by decide +kernel), rfl⟩) (by decide +kernel) (by decide +kernel))
    · cases hf
  · refine B_callV B (Nat.le_refl _) (μ' := r1.2) (k' := 1) (n' := 6) ca_X9_peel in_X9_peel se_X9_peel lk_L_75 (t_X9_peel B.tr h1) (Nat.le_refl _) rfl rfl rfl (rest := [jI 0, jR 87]) rfl rfl (Nat.le_of_ble_eq_true rfl) (by decide +kernel) rfl rfl (st' := [jI r1.1, jI 0, jR 87]) rfl ?_
    refine J_if_eq B.1 (off := 7) (tgt := 14) (by decide +kernel) (by decide) hf (fun hf => ?_) (fun hf => ?_)
    · refine B_blk B (jlkn_ok RL) jcl_SKF [.lconst 0] (by decide +kernel) (ls' := [(0, jR 0), (1, jI a0), (2, jR 87)]) (st' := [jL 0, jI 0, jR 87]) rfl (p1 := 15) rfl ?_
      refine K_last (lenI := 1) B rfl rfl (by decide) (by decide +kernel) ?_
      obtain ⟨m2, hm2, hf⟩ := jlt_s hf
      rw [hm2]
      refine B_blk B (jlkn_ok RL) jcl_SKF [.goto 6, .iconst 0] (by decide +kernel) (ls' := [(0, jR 0), (1, jI a0), (2, jR 87)]) (st' := [jI 0]) rfl (p1 := 23) rfl ?_
      cases hf
      exact B_retI B hq rfl (Nat.le_of_ble_eq_true rfl) (Nat.le_of_ble_eq_true rfl) (by decide +kernel)
    · refine B_blk B (jlkn_ok RL) jcl_SKF [.lconst 1, .goto 4] (by decide +kernel) (ls' := [(0, jR 0), (1, jI a0), (2, jR 87)]) (st' := [jL 1, jI 0, jR 87]) rfl (p1 := 15) rfl ?_
      refine K_last (lenI := 1) B rfl rfl (by decide) (by decide +kernel) ?_
      obtain ⟨m3, hm3, hf⟩ := jlt_s hf
      rw [hm3]
      refine B_blk B (jlkn_ok RL) jcl_SKF [.goto 6, .iconst 0] (by decide +kernel) (ls' := [(0, jR 0), (1, jI a0), (2, jR 87)]) (st' := [jI 0]) rfl (p1 := 23) rfl ?_
      cases hf
      exact B_retI B hq rfl (Nat.le_of_ble_eq_true rfl) (Nat.le_of_ble_eq_true rfl) (by decide +kernel)

def rm_L_fail : Room := { frames := 11, cells := 1, slots := 6, locals := 141 }
def f_L_fail (a0 : Int) (m : jMu) : Option (Int × jMu) :=
  jcat2 (f_X9_fail a0 m) (fun r1 => (if r1.1 = 0 then (jlt (jup r1.2 87 0 0) fun m2 => some (0, m2)) else (jlt (jup r1.2 87 0 1) fun m3 => some (0, m3)))) (fun e1 w1 => if e1 = "java/lang/IndexOutOfBoundsException" then some (1, w1) else none)
theorem t_L_fail {l : Launch} {G : jG} (hl : l.stackTraces = false) {a0 : Int} {m : jMu} {r : (Int × jMu)} (hf : f_L_fail a0 m = some r) : jCt l G yL_fail (.codeWith yL_fail cL_fail 4 (some .int) [(0, 16, 19, 25)] :: jWG) rm_L_fail [jR 0, jI a0, jR 87] SKF m (.inl (some (jI r.1))) SKF r.2 := by
  unfold f_L_fail at hf
  refine J_startH (hh := [(0, 16, 19, 25)]) (ls0 := [(0, jR 0), (1, jI a0), (2, jR 87)]) (by decide +kernel) hl (Nat.le_of_ble_eq_true rfl) rfl fun X C hN hn hR hr htab hq => ?_
  have B : jB X cL_fail RL 4 SKF.length rm_L_fail (some .int) := ⟨C, hN, Nat.le_of_eq hn, hR, hr⟩
  refine B_blk B (jlkn_ok RL) jcl_SKF [.aload_n 2, .iconst 0, .aload_n 0, .iload_n 1] (by decide +kernel) (ls' := [(0, jR 0), (1, jI a0), (2, jR 87)]) (st' := [jI a0, jR 0, jI 0, jR 87]) rfl (p1 := 4) rfl ?_
  rcases jcat2_s hf with ⟨e1, w1, h1, hf⟩ | ⟨r1, h1, hf⟩
  · rcases jite hf with ⟨ce, hf⟩ | ⟨ce, hf⟩
    · subst ce
      cases hf
      exact B_callVX (E := "java/lang/IndexOutOfBoundsException") (μ' := w1) (k' := 1) (n' := 6) B (Nat.le_refl _) ca_X9_fail in_X9_fail se_X9_fail lk_L_79 (t_X9_fail B.tr h1) (Nat.le_refl _) rfl rfl rfl (rest := [jI 0, jR 87]) rfl rfl (Nat.le_of_ble_eq_true rfl) (by decide +kernel) rfl rfl (JX_catch (z := 1) (j := 3) (hh := [(0, 16, 19, 25)]) (pre := []) (suf := []) (x := ⟨0, 16, 19, 25⟩) B.1 (by decide) htab rfl (fun y hy => nomatch hy) (by decide) (by decide) cl_L_25 rfl hq (by rw [B.2.2.2.2]) (by decide) (by rw [B.2.1]; decide) (Nat.le_of_ble_eq_true rfl) (Nat.le_of_ble_eq_true rfl) (Or.inl ⟨3, rfl, (by decide +kernel), rfl⟩) (by decide +kernel) (by decide +kernel))
    · cases hf
  · refine B_callV B (Nat.le_refl _) (μ' := r1.2) (k' := 1) (n' := 6) ca_X9_fail in_X9_fail se_X9_fail lk_L_79 (t_X9_fail B.tr h1) (Nat.le_refl _) rfl rfl rfl (rest := [jI 0, jR 87]) rfl rfl (Nat.le_of_ble_eq_true rfl) (by decide +kernel) rfl rfl (st' := [jI r1.1, jI 0, jR 87]) rfl ?_
    refine J_if_eq B.1 (off := 7) (tgt := 14) (by decide +kernel) (by decide) hf (fun hf => ?_) (fun hf => ?_)
    · refine B_blk B (jlkn_ok RL) jcl_SKF [.lconst 0] (by decide +kernel) (ls' := [(0, jR 0), (1, jI a0), (2, jR 87)]) (st' := [jL 0, jI 0, jR 87]) rfl (p1 := 15) rfl ?_
      refine K_last (lenI := 1) B rfl rfl (by decide) (by decide +kernel) ?_
      obtain ⟨m2, hm2, hf⟩ := jlt_s hf
      rw [hm2]
      refine B_blk B (jlkn_ok RL) jcl_SKF [.goto 6, .iconst 0] (by decide +kernel) (ls' := [(0, jR 0), (1, jI a0), (2, jR 87)]) (st' := [jI 0]) rfl (p1 := 23) rfl ?_
      cases hf
      exact B_retI B hq rfl (Nat.le_of_ble_eq_true rfl) (Nat.le_of_ble_eq_true rfl) (by decide +kernel)
    · refine B_blk B (jlkn_ok RL) jcl_SKF [.lconst 1, .goto 4] (by decide +kernel) (ls' := [(0, jR 0), (1, jI a0), (2, jR 87)]) (st' := [jL 1, jI 0, jR 87]) rfl (p1 := 15) rfl ?_
      refine K_last (lenI := 1) B rfl rfl (by decide) (by decide +kernel) ?_
      obtain ⟨m3, hm3, hf⟩ := jlt_s hf
      rw [hm3]
      refine B_blk B (jlkn_ok RL) jcl_SKF [.goto 6, .iconst 0] (by decide +kernel) (ls' := [(0, jR 0), (1, jI a0), (2, jR 87)]) (st' := [jI 0]) rfl (p1 := 23) rfl ?_
      cases hf
      exact B_retI B hq rfl (Nat.le_of_ble_eq_true rfl) (Nat.le_of_ble_eq_true rfl) (by decide +kernel)

def rm_L_last : Room := { frames := 13, cells := 2, slots := 12, locals := 164 }
def f_L_last (a0 : Int) (a1 : Int) (a2 : Int) (m : jMu) : Option (Int × jMu) :=
  jcat2 (f_X9_last a0 a1 a2 m) (fun r1 => (jlt (jup r1.2 87 0 r1.1) fun m2 => some (0, m2))) (fun e1 w1 => if e1 = "java/lang/IndexOutOfBoundsException" then some (1, w1) else none)
theorem t_L_last {l : Launch} {G : jG} (hl : l.stackTraces = false) {a0 : Int} {a1 : Int} {a2 : Int} {m : jMu} {r : (Int × jMu)} (hf : f_L_last a0 a1 a2 m = some r) : jCt l G yL_last (.codeWith yL_last cL_last 6 (some .int) [(0, 12, 15, 25)] :: jWG) rm_L_last [jR 0, jI a0, jI a1, jI a2, jR 87] SKF m (.inl (some (jI r.1))) SKF r.2 := by
  unfold f_L_last at hf
  refine J_startH (hh := [(0, 12, 15, 25)]) (ls0 := [(0, jR 0), (1, jI a0), (2, jI a1), (3, jI a2), (4, jR 87)]) (by decide +kernel) hl (Nat.le_of_ble_eq_true rfl) rfl fun X C hN hn hR hr htab hq => ?_
  have B : jB X cL_last RL 6 SKF.length rm_L_last (some .int) := ⟨C, hN, Nat.le_of_eq hn, hR, hr⟩
  refine B_blk B (jlkn_ok RL) jcl_SKF [.aload 4, .iconst 0, .aload_n 0, .iload_n 1, .iload_n 2, .iload_n 3] (by decide +kernel) (ls' := [(0, jR 0), (1, jI a0), (2, jI a1), (3, jI a2), (4, jR 87)]) (st' := [jI a2, jI a1, jI a0, jR 0, jI 0, jR 87]) rfl (p1 := 7) rfl ?_
  rcases jcat2_s hf with ⟨e1, w1, h1, hf⟩ | ⟨r1, h1, hf⟩
  · rcases jite hf with ⟨ce, hf⟩ | ⟨ce, hf⟩
    · subst ce
      cases hf
      exact B_callVX (E := "java/lang/IndexOutOfBoundsException") (μ' := w1) (k' := 2) (n' := 12) B (Nat.le_refl _) ca_X9_last in_X9_last se_X9_last lk_L_82 (t_X9_last B.tr h1) (Nat.le_refl _) rfl rfl rfl (rest := [jI 0, jR 87]) rfl rfl (Nat.le_of_ble_eq_true rfl) (by decide +kernel) rfl rfl (JX_catch (z := 1) (j := 5) (hh := [(0, 12, 15, 25)]) (pre := []) (suf := []) (x := ⟨0, 12, 15, 25⟩) B.1 (by decide) htab rfl (fun y hy => nomatch hy) (by decide) (by decide) cl_L_25 rfl hq (by rw [B.2.2.2.2]) (by decide) (by rw [B.2.1]; decide) (Nat.le_of_ble_eq_true rfl) (Nat.le_of_ble_eq_true rfl) (Or.inr ⟨(by decide +kernel), rfl⟩) (by decide +kernel) (by decide +kernel))
    · cases hf
  · refine B_callV B (Nat.le_refl _) (μ' := r1.2) (k' := 2) (n' := 12) ca_X9_last in_X9_last se_X9_last lk_L_82 (t_X9_last B.tr h1) (Nat.le_refl _) rfl rfl rfl (rest := [jI 0, jR 87]) rfl rfl (Nat.le_of_ble_eq_true rfl) (by decide +kernel) rfl rfl (st' := [jI r1.1, jI 0, jR 87]) rfl ?_
    refine B_blk B (jlkn_ok RL) jcl_SKF [.i2l] (by decide +kernel) (ls' := [(0, jR 0), (1, jI a0), (2, jI a1), (3, jI a2), (4, jR 87)]) (st' := [jL r1.1, jI 0, jR 87]) rfl (p1 := 11) rfl ?_
    refine K_last (lenI := 1) B rfl rfl (by decide) (by decide +kernel) ?_
    obtain ⟨m2, hm2, hf⟩ := jlt_s hf
    rw [hm2]
    refine B_blk B (jlkn_ok RL) jcl_SKF [.goto 7, .iconst 0] (by decide +kernel) (ls' := [(0, jR 0), (1, jI a0), (2, jI a1), (3, jI a2), (4, jR 87)]) (st' := [jI 0]) rfl (p1 := 20) rfl ?_
    cases hf
    exact B_retI B hq rfl (Nat.le_of_ble_eq_true rfl) (Nat.le_of_ble_eq_true rfl) (by decide +kernel)

def rm_L_recall : Room := { frames := 12, cells := 1, slots := 6, locals := 188 }
def f_L_recall (a0 : Int) (a1 : Int) (a2 : Int) (m : jMu) : Option (Int × jMu) :=
  jcat2 (f_X9_recall a0 a1 a2 m) (fun r1 => (jlt (jup r1.2 87 0 r1.1) fun m2 => some (0, m2))) (fun e1 w1 => if e1 = "java/lang/IndexOutOfBoundsException" then some (1, w1) else none)
theorem t_L_recall {l : Launch} {G : jG} (hl : l.stackTraces = false) {a0 : Int} {a1 : Int} {a2 : Int} {m : jMu} {r : (Int × jMu)} (hf : f_L_recall a0 a1 a2 m = some r) : jCt l G yL_recall (.codeWith yL_recall cL_recall 6 (some .int) [(0, 12, 15, 25)] :: jWG) rm_L_recall [jR 0, jI a0, jI a1, jI a2, jR 87] SKF m (.inl (some (jI r.1))) SKF r.2 := by
  unfold f_L_recall at hf
  refine J_startH (hh := [(0, 12, 15, 25)]) (ls0 := [(0, jR 0), (1, jI a0), (2, jI a1), (3, jI a2), (4, jR 87)]) (by decide +kernel) hl (Nat.le_of_ble_eq_true rfl) rfl fun X C hN hn hR hr htab hq => ?_
  have B : jB X cL_recall RL 6 SKF.length rm_L_recall (some .int) := ⟨C, hN, Nat.le_of_eq hn, hR, hr⟩
  refine B_blk B (jlkn_ok RL) jcl_SKF [.aload 4, .iconst 0, .aload_n 0, .iload_n 1, .iload_n 2, .iload_n 3] (by decide +kernel) (ls' := [(0, jR 0), (1, jI a0), (2, jI a1), (3, jI a2), (4, jR 87)]) (st' := [jI a2, jI a1, jI a0, jR 0, jI 0, jR 87]) rfl (p1 := 7) rfl ?_
  rcases jcat2_s hf with ⟨e1, w1, h1, hf⟩ | ⟨r1, h1, hf⟩
  · rcases jite hf with ⟨ce, hf⟩ | ⟨ce, hf⟩
    · subst ce
      cases hf
      exact B_callVX (E := "java/lang/IndexOutOfBoundsException") (μ' := w1) (k' := 1) (n' := 6) B (Nat.le_refl _) ca_X9_recall in_X9_recall se_X9_recall lk_L_85 (t_X9_recall B.tr h1) (Nat.le_refl _) rfl rfl rfl (rest := [jI 0, jR 87]) rfl rfl (Nat.le_of_ble_eq_true rfl) (by decide +kernel) rfl rfl (JX_catch (z := 1) (j := 5) (hh := [(0, 12, 15, 25)]) (pre := []) (suf := []) (x := ⟨0, 12, 15, 25⟩) B.1 (by decide) htab rfl (fun y hy => nomatch hy) (by decide) (by decide) cl_L_25 rfl hq (by rw [B.2.2.2.2]) (by decide) (by rw [B.2.1]; decide) (Nat.le_of_ble_eq_true rfl) (Nat.le_of_ble_eq_true rfl) (Or.inr ⟨(by decide +kernel), rfl⟩) (by decide +kernel) (by decide +kernel))
    · cases hf
  · refine B_callV B (Nat.le_refl _) (μ' := r1.2) (k' := 1) (n' := 6) ca_X9_recall in_X9_recall se_X9_recall lk_L_85 (t_X9_recall B.tr h1) (Nat.le_refl _) rfl rfl rfl (rest := [jI 0, jR 87]) rfl rfl (Nat.le_of_ble_eq_true rfl) (by decide +kernel) rfl rfl (st' := [jI r1.1, jI 0, jR 87]) rfl ?_
    refine B_blk B (jlkn_ok RL) jcl_SKF [.i2l] (by decide +kernel) (ls' := [(0, jR 0), (1, jI a0), (2, jI a1), (3, jI a2), (4, jR 87)]) (st' := [jL r1.1, jI 0, jR 87]) rfl (p1 := 11) rfl ?_
    refine K_last (lenI := 1) B rfl rfl (by decide) (by decide +kernel) ?_
    obtain ⟨m2, hm2, hf⟩ := jlt_s hf
    rw [hm2]
    refine B_blk B (jlkn_ok RL) jcl_SKF [.goto 7, .iconst 0] (by decide +kernel) (ls' := [(0, jR 0), (1, jI a0), (2, jI a1), (3, jI a2), (4, jR 87)]) (st' := [jI 0]) rfl (p1 := 20) rfl ?_
    cases hf
    exact B_retI B hq rfl (Nat.le_of_ble_eq_true rfl) (Nat.le_of_ble_eq_true rfl) (by decide +kernel)

def rm_L_left : Room := { frames := 11, cells := 1, slots := 6, locals := 152 }
def f_L_left (a0 : Int) (m : jMu) : Option (Int × jMu) :=
  jcat2 (f_X9_left a0 m) (fun r1 => (jlt (jup r1.2 87 0 r1.1) fun m2 => some (0, m2))) (fun e1 w1 => if e1 = "java/lang/IndexOutOfBoundsException" then some (1, w1) else none)
theorem t_L_left {l : Launch} {G : jG} (hl : l.stackTraces = false) {a0 : Int} {m : jMu} {r : (Int × jMu)} (hf : f_L_left a0 m = some r) : jCt l G yL_left (.codeWith yL_left cL_left 4 (some .int) [(0, 9, 12, 25)] :: jWG) rm_L_left [jR 0, jI a0, jR 87] SKF m (.inl (some (jI r.1))) SKF r.2 := by
  unfold f_L_left at hf
  refine J_startH (hh := [(0, 9, 12, 25)]) (ls0 := [(0, jR 0), (1, jI a0), (2, jR 87)]) (by decide +kernel) hl (Nat.le_of_ble_eq_true rfl) rfl fun X C hN hn hR hr htab hq => ?_
  have B : jB X cL_left RL 4 SKF.length rm_L_left (some .int) := ⟨C, hN, Nat.le_of_eq hn, hR, hr⟩
  refine B_blk B (jlkn_ok RL) jcl_SKF [.aload_n 2, .iconst 0, .aload_n 0, .iload_n 1] (by decide +kernel) (ls' := [(0, jR 0), (1, jI a0), (2, jR 87)]) (st' := [jI a0, jR 0, jI 0, jR 87]) rfl (p1 := 4) rfl ?_
  rcases jcat2_s hf with ⟨e1, w1, h1, hf⟩ | ⟨r1, h1, hf⟩
  · rcases jite hf with ⟨ce, hf⟩ | ⟨ce, hf⟩
    · subst ce
      cases hf
      exact B_callVX (E := "java/lang/IndexOutOfBoundsException") (μ' := w1) (k' := 1) (n' := 6) B (Nat.le_refl _) ca_X9_left in_X9_left se_X9_left lk_L_89 (t_X9_left B.tr h1) (Nat.le_refl _) rfl rfl rfl (rest := [jI 0, jR 87]) rfl rfl (Nat.le_of_ble_eq_true rfl) (by decide +kernel) rfl rfl (JX_catch (z := 1) (j := 3) (hh := [(0, 9, 12, 25)]) (pre := []) (suf := []) (x := ⟨0, 9, 12, 25⟩) B.1 (by decide) htab rfl (fun y hy => nomatch hy) (by decide) (by decide) cl_L_25 rfl hq (by rw [B.2.2.2.2]) (by decide) (by rw [B.2.1]; decide) (Nat.le_of_ble_eq_true rfl) (Nat.le_of_ble_eq_true rfl) (Or.inl ⟨3, rfl, (by decide +kernel), rfl⟩) (by decide +kernel) (by decide +kernel))
    · cases hf
  · refine B_callV B (Nat.le_refl _) (μ' := r1.2) (k' := 1) (n' := 6) ca_X9_left in_X9_left se_X9_left lk_L_89 (t_X9_left B.tr h1) (Nat.le_refl _) rfl rfl rfl (rest := [jI 0, jR 87]) rfl rfl (Nat.le_of_ble_eq_true rfl) (by decide +kernel) rfl rfl (st' := [jI r1.1, jI 0, jR 87]) rfl ?_
    refine B_blk B (jlkn_ok RL) jcl_SKF [.i2l] (by decide +kernel) (ls' := [(0, jR 0), (1, jI a0), (2, jR 87)]) (st' := [jL r1.1, jI 0, jR 87]) rfl (p1 := 8) rfl ?_
    refine K_last (lenI := 1) B rfl rfl (by decide) (by decide +kernel) ?_
    obtain ⟨m2, hm2, hf⟩ := jlt_s hf
    rw [hm2]
    refine B_blk B (jlkn_ok RL) jcl_SKF [.goto 6, .iconst 0] (by decide +kernel) (ls' := [(0, jR 0), (1, jI a0), (2, jR 87)]) (st' := [jI 0]) rfl (p1 := 16) rfl ?_
    cases hf
    exact B_retI B hq rfl (Nat.le_of_ble_eq_true rfl) (Nat.le_of_ble_eq_true rfl) (by decide +kernel)

def rm_L_caught : Room := { frames := 13, cells := 3, slots := 18, locals := 164 }
def f_L_caught (a0 : Int) (a1 : Int) (a2 : Int) (m : jMu) : Option (Int × jMu) :=
  jcat2 (f_X9_caught a0 a1 a2 m) (fun r1 => (jlt (jup r1.2 87 0 r1.1) fun m2 => some (0, m2))) (fun e1 w1 => if e1 = "java/lang/IndexOutOfBoundsException" then some (1, w1) else if e1 = "java/lang/IllegalArgumentException" then some (2, w1) else none)
theorem t_L_caught {l : Launch} {G : jG} (hl : l.stackTraces = false) {a0 : Int} {a1 : Int} {a2 : Int} {m : jMu} {r : (Int × jMu)} (hf : f_L_caught a0 a1 a2 m = some r) : jCt l G yL_caught (.codeWith yL_caught cL_caught 6 (some .int) [(0, 12, 15, 25), (0, 12, 19, 13)] :: jWG) rm_L_caught [jR 0, jI a0, jI a1, jI a2, jR 87] SKF m (.inl (some (jI r.1))) SKF r.2 := by
  unfold f_L_caught at hf
  refine J_startH (hh := [(0, 12, 15, 25), (0, 12, 19, 13)]) (ls0 := [(0, jR 0), (1, jI a0), (2, jI a1), (3, jI a2), (4, jR 87)]) (by decide +kernel) hl (Nat.le_of_ble_eq_true rfl) rfl fun X C hN hn hR hr htab hq => ?_
  have B : jB X cL_caught RL 6 SKF.length rm_L_caught (some .int) := ⟨C, hN, Nat.le_of_eq hn, hR, hr⟩
  refine B_blk B (jlkn_ok RL) jcl_SKF [.aload 4, .iconst 0, .aload_n 0, .iload_n 1, .iload_n 2, .iload_n 3] (by decide +kernel) (ls' := [(0, jR 0), (1, jI a0), (2, jI a1), (3, jI a2), (4, jR 87)]) (st' := [jI a2, jI a1, jI a0, jR 0, jI 0, jR 87]) rfl (p1 := 7) rfl ?_
  rcases jcat2_s hf with ⟨e1, w1, h1, hf⟩ | ⟨r1, h1, hf⟩
  · rcases jite hf with ⟨ce, hf⟩ | ⟨ce, hf⟩
    · subst ce
      cases hf
      exact B_callVX (E := "java/lang/IndexOutOfBoundsException") (μ' := w1) (k' := 3) (n' := 18) B (Nat.le_refl _) ca_X9_caught in_X9_caught se_X9_caught lk_L_92 (t_X9_caught B.tr h1) (Nat.le_refl _) rfl rfl rfl (rest := [jI 0, jR 87]) rfl rfl (Nat.le_of_ble_eq_true rfl) (by decide +kernel) rfl rfl (JX_catch (z := 1) (j := 5) (hh := [(0, 12, 15, 25), (0, 12, 19, 13)]) (pre := []) (suf := [⟨0, 12, 19, 13⟩]) (x := ⟨0, 12, 15, 25⟩) B.1 (by decide) htab rfl (fun y hy => nomatch hy) (by decide) (by decide) cl_L_25 rfl hq (by rw [B.2.2.2.2]) (by decide) (by rw [B.2.1]; decide) (Nat.le_of_ble_eq_true rfl) (Nat.le_of_ble_eq_true rfl) (Or.inr ⟨(by decide +kernel), rfl⟩) (by decide +kernel) (by decide +kernel))
    · rcases jite hf with ⟨ce, hf⟩ | ⟨ce, hf⟩
      · subst ce
        cases hf
        exact B_callVX (E := "java/lang/IllegalArgumentException") (μ' := w1) (k' := 3) (n' := 18) B (Nat.le_refl _) ca_X9_caught in_X9_caught se_X9_caught lk_L_92 (t_X9_caught B.tr h1) (Nat.le_refl _) rfl rfl rfl (rest := [jI 0, jR 87]) rfl rfl (Nat.le_of_ble_eq_true rfl) (by decide +kernel) rfl rfl (JX_catch (z := 2) (j := 5) (hh := [(0, 12, 15, 25), (0, 12, 19, 13)]) (pre := [⟨0, 12, 15, 25⟩]) (suf := []) (x := ⟨0, 12, 19, 13⟩) B.1 (by decide) htab rfl (List.forall_mem_cons.mpr ⟨⟨by decide, "java/lang/IndexOutOfBoundsException", by decide, by decide, cl_L_25⟩, fun y hy => nomatch hy⟩) (by decide) (by decide) cl_L_13 rfl hq (by rw [B.2.2.2.2]) (by decide) (by rw [B.2.1]; decide) (Nat.le_of_ble_eq_true rfl) (Nat.le_of_ble_eq_true rfl) (Or.inr ⟨(by decide +kernel), rfl⟩) (by decide +kernel) (by decide +kernel))
      · cases hf
  · refine B_callV B (Nat.le_refl _) (μ' := r1.2) (k' := 3) (n' := 18) ca_X9_caught in_X9_caught se_X9_caught lk_L_92 (t_X9_caught B.tr h1) (Nat.le_refl _) rfl rfl rfl (rest := [jI 0, jR 87]) rfl rfl (Nat.le_of_ble_eq_true rfl) (by decide +kernel) rfl rfl (st' := [jI r1.1, jI 0, jR 87]) rfl ?_
    refine B_blk B (jlkn_ok RL) jcl_SKF [.i2l] (by decide +kernel) (ls' := [(0, jR 0), (1, jI a0), (2, jI a1), (3, jI a2), (4, jR 87)]) (st' := [jL r1.1, jI 0, jR 87]) rfl (p1 := 11) rfl ?_
    refine K_last (lenI := 1) B rfl rfl (by decide) (by decide +kernel) ?_
    obtain ⟨m2, hm2, hf⟩ := jlt_s hf
    rw [hm2]
    refine B_blk B (jlkn_ok RL) jcl_SKF [.goto 11, .iconst 0] (by decide +kernel) (ls' := [(0, jR 0), (1, jI a0), (2, jI a1), (3, jI a2), (4, jR 87)]) (st' := [jI 0]) rfl (p1 := 24) rfl ?_
    cases hf
    exact B_retI B hq rfl (Nat.le_of_ble_eq_true rfl) (Nat.le_of_ble_eq_true rfl) (by decide +kernel)

def rm_L_bare : Room := { frames := 16, cells := 3, slots := 18, locals := 236 }
def f_L_bare (a0 : Int) (a1 : Int) (a2 : Int) (a3 : Int) (m : jMu) : Option (Int × jMu) :=
  jcat2 (f_X9_bare a0 a1 a2 a3 m) (fun r1 => (jlt (jup r1.2 87 0 r1.1) fun m2 => some (0, m2))) (fun e1 w1 => if e1 = "java/lang/IndexOutOfBoundsException" then some (1, w1) else if e1 = "java/lang/IllegalArgumentException" then some (2, w1) else none)
theorem t_L_bare {l : Launch} {G : jG} (hl : l.stackTraces = false) {a0 : Int} {a1 : Int} {a2 : Int} {a3 : Int} {m : jMu} {r : (Int × jMu)} (hf : f_L_bare a0 a1 a2 a3 m = some r) : jCt l G yL_bare (.codeWith yL_bare cL_bare 7 (some .int) [(0, 14, 17, 25), (0, 14, 21, 13)] :: jWG) rm_L_bare [jR 0, jI a0, jI a1, jI a2, jI a3, jR 87] SKF m (.inl (some (jI r.1))) SKF r.2 := by
  unfold f_L_bare at hf
  refine J_startH (hh := [(0, 14, 17, 25), (0, 14, 21, 13)]) (ls0 := [(0, jR 0), (1, jI a0), (2, jI a1), (3, jI a2), (4, jI a3), (5, jR 87)]) (by decide +kernel) hl (Nat.le_of_ble_eq_true rfl) rfl fun X C hN hn hR hr htab hq => ?_
  have B : jB X cL_bare RL 7 SKF.length rm_L_bare (some .int) := ⟨C, hN, Nat.le_of_eq hn, hR, hr⟩
  refine B_blk B (jlkn_ok RL) jcl_SKF [.aload 5, .iconst 0, .aload_n 0, .iload_n 1, .iload_n 2, .iload_n 3, .iload 4] (by decide +kernel) (ls' := [(0, jR 0), (1, jI a0), (2, jI a1), (3, jI a2), (4, jI a3), (5, jR 87)]) (st' := [jI a3, jI a2, jI a1, jI a0, jR 0, jI 0, jR 87]) rfl (p1 := 9) rfl ?_
  rcases jcat2_s hf with ⟨e1, w1, h1, hf⟩ | ⟨r1, h1, hf⟩
  · rcases jite hf with ⟨ce, hf⟩ | ⟨ce, hf⟩
    · subst ce
      cases hf
      exact B_callVX (E := "java/lang/IndexOutOfBoundsException") (μ' := w1) (k' := 3) (n' := 18) B (Nat.le_refl _) ca_X9_bare in_X9_bare se_X9_bare lk_L_95 (t_X9_bare B.tr h1) (Nat.le_refl _) rfl rfl rfl (rest := [jI 0, jR 87]) rfl rfl (Nat.le_of_ble_eq_true rfl) (by decide +kernel) rfl rfl (JX_catch (z := 1) (j := 6) (hh := [(0, 14, 17, 25), (0, 14, 21, 13)]) (pre := []) (suf := [⟨0, 14, 21, 13⟩]) (x := ⟨0, 14, 17, 25⟩) B.1 (by decide) htab rfl (fun y hy => nomatch hy) (by decide) (by decide) cl_L_25 rfl hq (by rw [B.2.2.2.2]) (by decide) (by rw [B.2.1]; decide) (Nat.le_of_ble_eq_true rfl) (Nat.le_of_ble_eq_true rfl) (Or.inr ⟨(by decide +kernel), rfl⟩) (by decide +kernel) (by decide +kernel))
    · rcases jite hf with ⟨ce, hf⟩ | ⟨ce, hf⟩
      · subst ce
        cases hf
        exact B_callVX (E := "java/lang/IllegalArgumentException") (μ' := w1) (k' := 3) (n' := 18) B (Nat.le_refl _) ca_X9_bare in_X9_bare se_X9_bare lk_L_95 (t_X9_bare B.tr h1) (Nat.le_refl _) rfl rfl rfl (rest := [jI 0, jR 87]) rfl rfl (Nat.le_of_ble_eq_true rfl) (by decide +kernel) rfl rfl (JX_catch (z := 2) (j := 6) (hh := [(0, 14, 17, 25), (0, 14, 21, 13)]) (pre := [⟨0, 14, 17, 25⟩]) (suf := []) (x := ⟨0, 14, 21, 13⟩) B.1 (by decide) htab rfl (List.forall_mem_cons.mpr ⟨⟨by decide, "java/lang/IndexOutOfBoundsException", by decide, by decide, cl_L_25⟩, fun y hy => nomatch hy⟩) (by decide) (by decide) cl_L_13 rfl hq (by rw [B.2.2.2.2]) (by decide) (by rw [B.2.1]; decide) (Nat.le_of_ble_eq_true rfl) (Nat.le_of_ble_eq_true rfl) (Or.inr ⟨(by decide +kernel), rfl⟩) (by decide +kernel) (by decide +kernel))
      · cases hf
  · refine B_callV B (Nat.le_refl _) (μ' := r1.2) (k' := 3) (n' := 18) ca_X9_bare in_X9_bare se_X9_bare lk_L_95 (t_X9_bare B.tr h1) (Nat.le_refl _) rfl rfl rfl (rest := [jI 0, jR 87]) rfl rfl (Nat.le_of_ble_eq_true rfl) (by decide +kernel) rfl rfl (st' := [jI r1.1, jI 0, jR 87]) rfl ?_
    refine B_blk B (jlkn_ok RL) jcl_SKF [.i2l] (by decide +kernel) (ls' := [(0, jR 0), (1, jI a0), (2, jI a1), (3, jI a2), (4, jI a3), (5, jR 87)]) (st' := [jL r1.1, jI 0, jR 87]) rfl (p1 := 13) rfl ?_
    refine K_last (lenI := 1) B rfl rfl (by decide) (by decide +kernel) ?_
    obtain ⟨m2, hm2, hf⟩ := jlt_s hf
    rw [hm2]
    refine B_blk B (jlkn_ok RL) jcl_SKF [.goto 11, .iconst 0] (by decide +kernel) (ls' := [(0, jR 0), (1, jI a0), (2, jI a1), (3, jI a2), (4, jI a3), (5, jR 87)]) (st' := [jI 0]) rfl (p1 := 26) rfl ?_
    cases hf
    exact B_retI B hq rfl (Nat.le_of_ble_eq_true rfl) (Nat.le_of_ble_eq_true rfl) (by decide +kernel)

def rm_L_rust : Room := { frames := 11, cells := 2, slots := 12, locals := 143 }
def f_L_rust (a0 : Int) (a1 : Int) (a2 : Int) (m : jMu) : Option (Int × jMu) :=
  jcat2 (f_X9_rust a0 a1 a2 m) (fun r1 => some (0, r1.2)) (fun e1 w1 => if e1 = "java/lang/IndexOutOfBoundsException" then some (1, w1) else if e1 = "java/lang/IllegalArgumentException" then some (2, w1) else none)
theorem t_L_rust {l : Launch} {G : jG} (hl : l.stackTraces = false) {a0 : Int} {a1 : Int} {a2 : Int} {m : jMu} {r : (Int × jMu)} (hf : f_L_rust a0 a1 a2 m = some r) : jCt l G yL_rust (.codeWith yL_rust cL_rust 5 (some .int) [(0, 7, 10, 25), (0, 7, 14, 13)] :: jWG) rm_L_rust [jR 0, jI a0, jI a1, jI a2] SKF m (.inl (some (jI r.1))) SKF r.2 := by
  unfold f_L_rust at hf
  refine J_startH (hh := [(0, 7, 10, 25), (0, 7, 14, 13)]) (ls0 := [(0, jR 0), (1, jI a0), (2, jI a1), (3, jI a2)]) (by decide +kernel) hl (Nat.le_of_ble_eq_true rfl) rfl fun X C hN hn hR hr htab hq => ?_
  have B : jB X cL_rust RL 5 SKF.length rm_L_rust (some .int) := ⟨C, hN, Nat.le_of_eq hn, hR, hr⟩
  refine B_blk B (jlkn_ok RL) jcl_SKF [.aload_n 0, .iload_n 1, .iload_n 2, .iload_n 3] (by decide +kernel) (ls' := [(0, jR 0), (1, jI a0), (2, jI a1), (3, jI a2)]) (st' := [jI a2, jI a1, jI a0, jR 0]) rfl (p1 := 4) rfl ?_
  rcases jcat2_s hf with ⟨e1, w1, h1, hf⟩ | ⟨r1, h1, hf⟩
  · rcases jite hf with ⟨ce, hf⟩ | ⟨ce, hf⟩
    · subst ce
      cases hf
      exact B_callVX (E := "java/lang/IndexOutOfBoundsException") (μ' := w1) (k' := 2) (n' := 12) B (Nat.le_refl _) ca_X9_rust in_X9_rust se_X9_rust lk_L_98 (t_X9_rust B.tr h1) (Nat.le_refl _) rfl rfl rfl (rest := []) rfl rfl (Nat.le_of_ble_eq_true rfl) (by decide +kernel) rfl rfl (JX_catch (z := 1) (j := 4) (hh := [(0, 7, 10, 25), (0, 7, 14, 13)]) (pre := []) (suf := [⟨0, 7, 14, 13⟩]) (x := ⟨0, 7, 10, 25⟩) B.1 (by decide) htab rfl (fun y hy => nomatch hy) (by decide) (by decide) cl_L_25 rfl hq (by rw [B.2.2.2.2]) (by decide) (by rw [B.2.1]; decide) (Nat.le_of_ble_eq_true rfl) (Nat.le_of_ble_eq_true rfl) (Or.inr ⟨(by decide +kernel), rfl⟩) (by decide +kernel) (by decide +kernel))
    · rcases jite hf with ⟨ce, hf⟩ | ⟨ce, hf⟩
      · subst ce
        cases hf
        exact B_callVX (E := "java/lang/IllegalArgumentException") (μ' := w1) (k' := 2) (n' := 12) B (Nat.le_refl _) ca_X9_rust in_X9_rust se_X9_rust lk_L_98 (t_X9_rust B.tr h1) (Nat.le_refl _) rfl rfl rfl (rest := []) rfl rfl (Nat.le_of_ble_eq_true rfl) (by decide +kernel) rfl rfl (JX_catch (z := 2) (j := 4) (hh := [(0, 7, 10, 25), (0, 7, 14, 13)]) (pre := [⟨0, 7, 10, 25⟩]) (suf := []) (x := ⟨0, 7, 14, 13⟩) B.1 (by decide) htab rfl (List.forall_mem_cons.mpr ⟨⟨by decide, "java/lang/IndexOutOfBoundsException", by decide, by decide, cl_L_25⟩, fun y hy => nomatch hy⟩) (by decide) (by decide) cl_L_13 rfl hq (by rw [B.2.2.2.2]) (by decide) (by rw [B.2.1]; decide) (Nat.le_of_ble_eq_true rfl) (Nat.le_of_ble_eq_true rfl) (Or.inr ⟨(by decide +kernel), rfl⟩) (by decide +kernel) (by decide +kernel))
      · cases hf
  · refine B_callV B (Nat.le_refl _) (μ' := r1.2) (k' := 2) (n' := 12) ca_X9_rust in_X9_rust se_X9_rust lk_L_98 (t_X9_rust B.tr h1) (Nat.le_refl _) rfl rfl rfl (rest := []) rfl rfl (Nat.le_of_ble_eq_true rfl) (by decide +kernel) rfl rfl (st' := []) rfl ?_
    refine B_blk B (jlkn_ok RL) jcl_SKF [.goto 11, .iconst 0] (by decide +kernel) (ls' := [(0, jR 0), (1, jI a0), (2, jI a1), (3, jI a2)]) (st' := [jI 0]) rfl (p1 := 19) rfl ?_
    cases hf
    exact B_retI B hq rfl (Nat.le_of_ble_eq_true rfl) (Nat.le_of_ble_eq_true rfl) (by decide +kernel)

def rm_L_reading : Room := { frames := 11, cells := 3, slots := 18, locals := 144 }
def f_L_reading (a0 : Int) (a1 : Int) (a2 : Int) (m : jMu) : Option (Int × jMu) :=
  jcat2 (f_X9_reading a0 a1 a2 m) (fun r1 => (jlt (jup r1.2 87 0 r1.1) fun m2 => some (0, m2))) (fun e1 w1 => if e1 = "java/lang/IndexOutOfBoundsException" then some (1, w1) else if e1 = "java/lang/IllegalArgumentException" then some (2, w1) else if e1 = "java/lang/UnsupportedOperationException" then some (3, w1) else none)
theorem t_L_reading {l : Launch} {G : jG} (hl : l.stackTraces = false) {a0 : Int} {a1 : Int} {a2 : Int} {m : jMu} {r : (Int × jMu)} (hf : f_L_reading a0 a1 a2 m = some r) : jCt l G yL_reading (.codeWith yL_reading cL_reading 6 (some .int) [(0, 12, 15, 25), (0, 12, 19, 13), (0, 12, 23, 19)] :: jWG) rm_L_reading [jR 0, jI a0, jI a1, jI a2, jR 87] SKF m (.inl (some (jI r.1))) SKF r.2 := by
  unfold f_L_reading at hf
  refine J_startH (hh := [(0, 12, 15, 25), (0, 12, 19, 13), (0, 12, 23, 19)]) (ls0 := [(0, jR 0), (1, jI a0), (2, jI a1), (3, jI a2), (4, jR 87)]) (by decide +kernel) hl (Nat.le_of_ble_eq_true rfl) rfl fun X C hN hn hR hr htab hq => ?_
  have B : jB X cL_reading RL 6 SKF.length rm_L_reading (some .int) := ⟨C, hN, Nat.le_of_eq hn, hR, hr⟩
  refine B_blk B (jlkn_ok RL) jcl_SKF [.aload 4, .iconst 0, .aload_n 0, .iload_n 1, .iload_n 2, .iload_n 3] (by decide +kernel) (ls' := [(0, jR 0), (1, jI a0), (2, jI a1), (3, jI a2), (4, jR 87)]) (st' := [jI a2, jI a1, jI a0, jR 0, jI 0, jR 87]) rfl (p1 := 7) rfl ?_
  rcases jcat2_s hf with ⟨e1, w1, h1, hf⟩ | ⟨r1, h1, hf⟩
  · rcases jite hf with ⟨ce, hf⟩ | ⟨ce, hf⟩
    · subst ce
      cases hf
      exact B_callVX (E := "java/lang/IndexOutOfBoundsException") (μ' := w1) (k' := 3) (n' := 18) B (Nat.le_refl _) ca_X9_reading in_X9_reading se_X9_reading lk_L_102 (t_X9_reading B.tr h1) (Nat.le_refl _) rfl rfl rfl (rest := [jI 0, jR 87]) rfl rfl (Nat.le_of_ble_eq_true rfl) (by decide +kernel) rfl rfl (JX_catch (z := 1) (j := 5) (hh := [(0, 12, 15, 25), (0, 12, 19, 13), (0, 12, 23, 19)]) (pre := []) (suf := [⟨0, 12, 19, 13⟩, ⟨0, 12, 23, 19⟩]) (x := ⟨0, 12, 15, 25⟩) B.1 (by decide) htab rfl (fun y hy => nomatch hy) (by decide) (by decide) cl_L_25 rfl hq (by rw [B.2.2.2.2]) (by decide) (by rw [B.2.1]; decide) (Nat.le_of_ble_eq_true rfl) (Nat.le_of_ble_eq_true rfl) (Or.inr ⟨(by decide +kernel), rfl⟩) (by decide +kernel) (by decide +kernel))
    · rcases jite hf with ⟨ce, hf⟩ | ⟨ce, hf⟩
      · subst ce
        cases hf
        exact B_callVX (E := "java/lang/IllegalArgumentException") (μ' := w1) (k' := 3) (n' := 18) B (Nat.le_refl _) ca_X9_reading in_X9_reading se_X9_reading lk_L_102 (t_X9_reading B.tr h1) (Nat.le_refl _) rfl rfl rfl (rest := [jI 0, jR 87]) rfl rfl (Nat.le_of_ble_eq_true rfl) (by decide +kernel) rfl rfl (JX_catch (z := 2) (j := 5) (hh := [(0, 12, 15, 25), (0, 12, 19, 13), (0, 12, 23, 19)]) (pre := [⟨0, 12, 15, 25⟩]) (suf := [⟨0, 12, 23, 19⟩]) (x := ⟨0, 12, 19, 13⟩) B.1 (by decide) htab rfl (List.forall_mem_cons.mpr ⟨⟨by decide, "java/lang/IndexOutOfBoundsException", by decide, by decide, cl_L_25⟩, fun y hy => nomatch hy⟩) (by decide) (by decide) cl_L_13 rfl hq (by rw [B.2.2.2.2]) (by decide) (by rw [B.2.1]; decide) (Nat.le_of_ble_eq_true rfl) (Nat.le_of_ble_eq_true rfl) (Or.inr ⟨(by decide +kernel), rfl⟩) (by decide +kernel) (by decide +kernel))
      · rcases jite hf with ⟨ce, hf⟩ | ⟨ce, hf⟩
        · subst ce
          cases hf
          exact B_callVX (E := "java/lang/UnsupportedOperationException") (μ' := w1) (k' := 3) (n' := 18) B (Nat.le_refl _) ca_X9_reading in_X9_reading se_X9_reading lk_L_102 (t_X9_reading B.tr h1) (Nat.le_refl _) rfl rfl rfl (rest := [jI 0, jR 87]) rfl rfl (Nat.le_of_ble_eq_true rfl) (by decide +kernel) rfl rfl (JX_catch (z := 3) (j := 5) (hh := [(0, 12, 15, 25), (0, 12, 19, 13), (0, 12, 23, 19)]) (pre := [⟨0, 12, 15, 25⟩, ⟨0, 12, 19, 13⟩]) (suf := []) (x := ⟨0, 12, 23, 19⟩) B.1 (by decide) htab rfl (List.forall_mem_cons.mpr ⟨⟨by decide, "java/lang/IndexOutOfBoundsException", by decide, by decide, cl_L_25⟩, List.forall_mem_cons.mpr ⟨⟨by decide, "java/lang/IllegalArgumentException", by decide, by decide, cl_L_13⟩, fun y hy => nomatch hy⟩⟩) (by decide) (by decide) cl_L_19 rfl hq (by rw [B.2.2.2.2]) (by decide) (by rw [B.2.1]; decide) (Nat.le_of_ble_eq_true rfl) (Nat.le_of_ble_eq_true rfl) (Or.inr ⟨(by decide +kernel), rfl⟩) (by decide +kernel) (by decide +kernel))
        · cases hf
  · refine B_callV B (Nat.le_refl _) (μ' := r1.2) (k' := 3) (n' := 18) ca_X9_reading in_X9_reading se_X9_reading lk_L_102 (t_X9_reading B.tr h1) (Nat.le_refl _) rfl rfl rfl (rest := [jI 0, jR 87]) rfl rfl (Nat.le_of_ble_eq_true rfl) (by decide +kernel) rfl rfl (st' := [jI r1.1, jI 0, jR 87]) rfl ?_
    refine B_blk B (jlkn_ok RL) jcl_SKF [.i2l] (by decide +kernel) (ls' := [(0, jR 0), (1, jI a0), (2, jI a1), (3, jI a2), (4, jR 87)]) (st' := [jL r1.1, jI 0, jR 87]) rfl (p1 := 11) rfl ?_
    refine K_last (lenI := 1) B rfl rfl (by decide) (by decide +kernel) ?_
    obtain ⟨m2, hm2, hf⟩ := jlt_s hf
    rw [hm2]
    refine B_blk B (jlkn_ok RL) jcl_SKF [.goto 15, .iconst 0] (by decide +kernel) (ls' := [(0, jR 0), (1, jI a0), (2, jI a1), (3, jI a2), (4, jR 87)]) (st' := [jI 0]) rfl (p1 := 28) rfl ?_
    cases hf
    exact B_retI B hq rfl (Nat.le_of_ble_eq_true rfl) (Nat.le_of_ble_eq_true rfl) (by decide +kernel)

def rm_L_steel : Room := { frames := 16, cells := 2, slots := 12, locals := 236 }
def f_L_steel (a0 : Int) (a1 : Int) (a2 : Int) (a3 : Int) (m : jMu) : Option (Int × jMu) :=
  jcat2 (f_X9_steel a0 a1 a2 a3 m) (fun r1 => (jlt (jup r1.2 87 0 r1.1) fun m2 => some (0, m2))) (fun e1 w1 => if e1 = "java/lang/IndexOutOfBoundsException" then some (1, w1) else none)
theorem t_L_steel {l : Launch} {G : jG} (hl : l.stackTraces = false) {a0 : Int} {a1 : Int} {a2 : Int} {a3 : Int} {m : jMu} {r : (Int × jMu)} (hf : f_L_steel a0 a1 a2 a3 m = some r) : jCt l G yL_steel (.codeWith yL_steel cL_steel 7 (some .int) [(0, 14, 17, 25)] :: jWG) rm_L_steel [jR 0, jI a0, jI a1, jI a2, jI a3, jR 87] SKF m (.inl (some (jI r.1))) SKF r.2 := by
  unfold f_L_steel at hf
  refine J_startH (hh := [(0, 14, 17, 25)]) (ls0 := [(0, jR 0), (1, jI a0), (2, jI a1), (3, jI a2), (4, jI a3), (5, jR 87)]) (by decide +kernel) hl (Nat.le_of_ble_eq_true rfl) rfl fun X C hN hn hR hr htab hq => ?_
  have B : jB X cL_steel RL 7 SKF.length rm_L_steel (some .int) := ⟨C, hN, Nat.le_of_eq hn, hR, hr⟩
  refine B_blk B (jlkn_ok RL) jcl_SKF [.aload 5, .iconst 0, .aload_n 0, .iload_n 1, .iload_n 2, .iload_n 3, .iload 4] (by decide +kernel) (ls' := [(0, jR 0), (1, jI a0), (2, jI a1), (3, jI a2), (4, jI a3), (5, jR 87)]) (st' := [jI a3, jI a2, jI a1, jI a0, jR 0, jI 0, jR 87]) rfl (p1 := 9) rfl ?_
  rcases jcat2_s hf with ⟨e1, w1, h1, hf⟩ | ⟨r1, h1, hf⟩
  · rcases jite hf with ⟨ce, hf⟩ | ⟨ce, hf⟩
    · subst ce
      cases hf
      exact B_callVX (E := "java/lang/IndexOutOfBoundsException") (μ' := w1) (k' := 2) (n' := 12) B (Nat.le_refl _) ca_X9_steel in_X9_steel se_X9_steel lk_L_105 (t_X9_steel B.tr h1) (Nat.le_refl _) rfl rfl rfl (rest := [jI 0, jR 87]) rfl rfl (Nat.le_of_ble_eq_true rfl) (by decide +kernel) rfl rfl (JX_catch (z := 1) (j := 6) (hh := [(0, 14, 17, 25)]) (pre := []) (suf := []) (x := ⟨0, 14, 17, 25⟩) B.1 (by decide) htab rfl (fun y hy => nomatch hy) (by decide) (by decide) cl_L_25 rfl hq (by rw [B.2.2.2.2]) (by decide) (by rw [B.2.1]; decide) (Nat.le_of_ble_eq_true rfl) (Nat.le_of_ble_eq_true rfl) (Or.inr ⟨(by decide +kernel), rfl⟩) (by decide +kernel) (by decide +kernel))
    · cases hf
  · refine B_callV B (Nat.le_refl _) (μ' := r1.2) (k' := 2) (n' := 12) ca_X9_steel in_X9_steel se_X9_steel lk_L_105 (t_X9_steel B.tr h1) (Nat.le_refl _) rfl rfl rfl (rest := [jI 0, jR 87]) rfl rfl (Nat.le_of_ble_eq_true rfl) (by decide +kernel) rfl rfl (st' := [jI r1.1, jI 0, jR 87]) rfl ?_
    refine B_blk B (jlkn_ok RL) jcl_SKF [.i2l] (by decide +kernel) (ls' := [(0, jR 0), (1, jI a0), (2, jI a1), (3, jI a2), (4, jI a3), (5, jR 87)]) (st' := [jL r1.1, jI 0, jR 87]) rfl (p1 := 13) rfl ?_
    refine K_last (lenI := 1) B rfl rfl (by decide) (by decide +kernel) ?_
    obtain ⟨m2, hm2, hf⟩ := jlt_s hf
    rw [hm2]
    refine B_blk B (jlkn_ok RL) jcl_SKF [.goto 7, .iconst 0] (by decide +kernel) (ls' := [(0, jR 0), (1, jI a0), (2, jI a1), (3, jI a2), (4, jI a3), (5, jR 87)]) (st' := [jI 0]) rfl (p1 := 22) rfl ?_
    cases hf
    exact B_retI B hq rfl (Nat.le_of_ble_eq_true rfl) (Nat.le_of_ble_eq_true rfl) (by decide +kernel)

def rm_L_below : Room := { frames := 16, cells := 2, slots := 12, locals := 235 }
def f_L_below (a0 : Int) (a1 : Int) (a2 : Int) (m : jMu) : Option (Int × jMu) :=
  jcat2 (f_X9_below a0 a1 a2 m) (fun r1 => (jlt (jup r1.2 87 0 r1.1) fun m2 => some (0, m2))) (fun e1 w1 => if e1 = "java/lang/IndexOutOfBoundsException" then some (1, w1) else if e1 = "java/lang/IllegalArgumentException" then some (2, w1) else none)
theorem t_L_below {l : Launch} {G : jG} (hl : l.stackTraces = false) {a0 : Int} {a1 : Int} {a2 : Int} {m : jMu} {r : (Int × jMu)} (hf : f_L_below a0 a1 a2 m = some r) : jCt l G yL_below (.codeWith yL_below cL_below 6 (some .int) [(0, 12, 15, 25), (0, 12, 19, 13)] :: jWG) rm_L_below [jR 0, jI a0, jI a1, jI a2, jR 87] SKF m (.inl (some (jI r.1))) SKF r.2 := by
  unfold f_L_below at hf
  refine J_startH (hh := [(0, 12, 15, 25), (0, 12, 19, 13)]) (ls0 := [(0, jR 0), (1, jI a0), (2, jI a1), (3, jI a2), (4, jR 87)]) (by decide +kernel) hl (Nat.le_of_ble_eq_true rfl) rfl fun X C hN hn hR hr htab hq => ?_
  have B : jB X cL_below RL 6 SKF.length rm_L_below (some .int) := ⟨C, hN, Nat.le_of_eq hn, hR, hr⟩
  refine B_blk B (jlkn_ok RL) jcl_SKF [.aload 4, .iconst 0, .aload_n 0, .iload_n 1, .iload_n 2, .iload_n 3] (by decide +kernel) (ls' := [(0, jR 0), (1, jI a0), (2, jI a1), (3, jI a2), (4, jR 87)]) (st' := [jI a2, jI a1, jI a0, jR 0, jI 0, jR 87]) rfl (p1 := 7) rfl ?_
  rcases jcat2_s hf with ⟨e1, w1, h1, hf⟩ | ⟨r1, h1, hf⟩
  · rcases jite hf with ⟨ce, hf⟩ | ⟨ce, hf⟩
    · subst ce
      cases hf
      exact B_callVX (E := "java/lang/IndexOutOfBoundsException") (μ' := w1) (k' := 2) (n' := 12) B (Nat.le_refl _) ca_X9_below in_X9_below se_X9_below lk_L_109 (t_X9_below B.tr h1) (Nat.le_refl _) rfl rfl rfl (rest := [jI 0, jR 87]) rfl rfl (Nat.le_of_ble_eq_true rfl) (by decide +kernel) rfl rfl (JX_catch (z := 1) (j := 5) (hh := [(0, 12, 15, 25), (0, 12, 19, 13)]) (pre := []) (suf := [⟨0, 12, 19, 13⟩]) (x := ⟨0, 12, 15, 25⟩) B.1 (by decide) htab rfl (fun y hy => nomatch hy) (by decide) (by decide) cl_L_25 rfl hq (by rw [B.2.2.2.2]) (by decide) (by rw [B.2.1]; decide) (Nat.le_of_ble_eq_true rfl) (Nat.le_of_ble_eq_true rfl) (Or.inr ⟨(by decide +kernel), rfl⟩) (by decide +kernel) (by decide +kernel))
    · rcases jite hf with ⟨ce, hf⟩ | ⟨ce, hf⟩
      · subst ce
        cases hf
        exact B_callVX (E := "java/lang/IllegalArgumentException") (μ' := w1) (k' := 2) (n' := 12) B (Nat.le_refl _) ca_X9_below in_X9_below se_X9_below lk_L_109 (t_X9_below B.tr h1) (Nat.le_refl _) rfl rfl rfl (rest := [jI 0, jR 87]) rfl rfl (Nat.le_of_ble_eq_true rfl) (by decide +kernel) rfl rfl (JX_catch (z := 2) (j := 5) (hh := [(0, 12, 15, 25), (0, 12, 19, 13)]) (pre := [⟨0, 12, 15, 25⟩]) (suf := []) (x := ⟨0, 12, 19, 13⟩) B.1 (by decide) htab rfl (List.forall_mem_cons.mpr ⟨⟨by decide, "java/lang/IndexOutOfBoundsException", by decide, by decide, cl_L_25⟩, fun y hy => nomatch hy⟩) (by decide) (by decide) cl_L_13 rfl hq (by rw [B.2.2.2.2]) (by decide) (by rw [B.2.1]; decide) (Nat.le_of_ble_eq_true rfl) (Nat.le_of_ble_eq_true rfl) (Or.inr ⟨(by decide +kernel), rfl⟩) (by decide +kernel) (by decide +kernel))
      · cases hf
  · refine B_callV B (Nat.le_refl _) (μ' := r1.2) (k' := 2) (n' := 12) ca_X9_below in_X9_below se_X9_below lk_L_109 (t_X9_below B.tr h1) (Nat.le_refl _) rfl rfl rfl (rest := [jI 0, jR 87]) rfl rfl (Nat.le_of_ble_eq_true rfl) (by decide +kernel) rfl rfl (st' := [jI r1.1, jI 0, jR 87]) rfl ?_
    refine B_blk B (jlkn_ok RL) jcl_SKF [.i2l] (by decide +kernel) (ls' := [(0, jR 0), (1, jI a0), (2, jI a1), (3, jI a2), (4, jR 87)]) (st' := [jL r1.1, jI 0, jR 87]) rfl (p1 := 11) rfl ?_
    refine K_last (lenI := 1) B rfl rfl (by decide) (by decide +kernel) ?_
    obtain ⟨m2, hm2, hf⟩ := jlt_s hf
    rw [hm2]
    refine B_blk B (jlkn_ok RL) jcl_SKF [.goto 11, .iconst 0] (by decide +kernel) (ls' := [(0, jR 0), (1, jI a0), (2, jI a1), (3, jI a2), (4, jR 87)]) (st' := [jI 0]) rfl (p1 := 24) rfl ?_
    cases hf
    exact B_retI B hq rfl (Nat.le_of_ble_eq_true rfl) (Nat.le_of_ble_eq_true rfl) (by decide +kernel)

def rm_L_order : Room := { frames := 32, cells := 4, slots := 24, locals := 506 }
def f_L_order (a0 : Int) (a1 : Int) (a2 : Int) (a3 : Int) (a4 : Int) (m : jMu) : Option (Int × jMu) :=
  jcat2 (f_X9_order a0 a1 a2 a3 a4 m) (fun r1 => (jlt (jup r1.2 87 0 r1.1) fun m2 => some (0, m2))) (fun e1 w1 => if e1 = "java/lang/IndexOutOfBoundsException" then some (1, w1) else if e1 = "java/lang/IllegalArgumentException" then some (2, w1) else if e1 = "java/util/NoSuchElementException" then some (3, w1) else none)
theorem t_L_order {l : Launch} {G : jG} (hl : l.stackTraces = false) {a0 : Int} {a1 : Int} {a2 : Int} {a3 : Int} {a4 : Int} {m : jMu} {r : (Int × jMu)} (hf : f_L_order a0 a1 a2 a3 a4 m = some r) : jCt l G yL_order (.codeWith yL_order cL_order 8 (some .int) [(0, 16, 19, 25), (0, 16, 23, 13), (0, 16, 27, 50)] :: jWG) rm_L_order [jR 0, jI a0, jI a1, jI a2, jI a3, jI a4, jR 87] SKF m (.inl (some (jI r.1))) SKF r.2 := by
  unfold f_L_order at hf
  refine J_startH (hh := [(0, 16, 19, 25), (0, 16, 23, 13), (0, 16, 27, 50)]) (ls0 := [(0, jR 0), (1, jI a0), (2, jI a1), (3, jI a2), (4, jI a3), (5, jI a4), (6, jR 87)]) (by decide +kernel) hl (Nat.le_of_ble_eq_true rfl) rfl fun X C hN hn hR hr htab hq => ?_
  have B : jB X cL_order RL 8 SKF.length rm_L_order (some .int) := ⟨C, hN, Nat.le_of_eq hn, hR, hr⟩
  refine B_blk B (jlkn_ok RL) jcl_SKF [.aload 6, .iconst 0, .aload_n 0, .iload_n 1, .iload_n 2, .iload_n 3, .iload 4, .iload 5] (by decide +kernel) (ls' := [(0, jR 0), (1, jI a0), (2, jI a1), (3, jI a2), (4, jI a3), (5, jI a4), (6, jR 87)]) (st' := [jI a4, jI a3, jI a2, jI a1, jI a0, jR 0, jI 0, jR 87]) rfl (p1 := 11) rfl ?_
  rcases jcat2_s hf with ⟨e1, w1, h1, hf⟩ | ⟨r1, h1, hf⟩
  · rcases jite hf with ⟨ce, hf⟩ | ⟨ce, hf⟩
    · subst ce
      cases hf
      exact B_callVX (E := "java/lang/IndexOutOfBoundsException") (μ' := w1) (k' := 4) (n' := 24) B (Nat.le_refl _) ca_X9_order in_X9_order se_X9_order lk_L_112 (t_X9_order B.tr h1) (Nat.le_refl _) rfl rfl rfl (rest := [jI 0, jR 87]) rfl rfl (Nat.le_of_ble_eq_true rfl) (by decide +kernel) rfl rfl (JX_catch (z := 1) (j := 7) (hh := [(0, 16, 19, 25), (0, 16, 23, 13), (0, 16, 27, 50)]) (pre := []) (suf := [⟨0, 16, 23, 13⟩, ⟨0, 16, 27, 50⟩]) (x := ⟨0, 16, 19, 25⟩) B.1 (by decide) htab rfl (fun y hy => nomatch hy) (by decide) (by decide) cl_L_25 rfl hq (by rw [B.2.2.2.2]) (by decide) (by rw [B.2.1]; decide) (Nat.le_of_ble_eq_true rfl) (Nat.le_of_ble_eq_true rfl) (Or.inr ⟨(by decide +kernel), rfl⟩) (by decide +kernel) (by decide +kernel))
    · rcases jite hf with ⟨ce, hf⟩ | ⟨ce, hf⟩
      · subst ce
        cases hf
        exact B_callVX (E := "java/lang/IllegalArgumentException") (μ' := w1) (k' := 4) (n' := 24) B (Nat.le_refl _) ca_X9_order in_X9_order se_X9_order lk_L_112 (t_X9_order B.tr h1) (Nat.le_refl _) rfl rfl rfl (rest := [jI 0, jR 87]) rfl rfl (Nat.le_of_ble_eq_true rfl) (by decide +kernel) rfl rfl (JX_catch (z := 2) (j := 7) (hh := [(0, 16, 19, 25), (0, 16, 23, 13), (0, 16, 27, 50)]) (pre := [⟨0, 16, 19, 25⟩]) (suf := [⟨0, 16, 27, 50⟩]) (x := ⟨0, 16, 23, 13⟩) B.1 (by decide) htab rfl (List.forall_mem_cons.mpr ⟨⟨by decide, "java/lang/IndexOutOfBoundsException", by decide, by decide, cl_L_25⟩, fun y hy => nomatch hy⟩) (by decide) (by decide) cl_L_13 rfl hq (by rw [B.2.2.2.2]) (by decide) (by rw [B.2.1]; decide) (Nat.le_of_ble_eq_true rfl) (Nat.le_of_ble_eq_true rfl) (Or.inr ⟨(by decide +kernel), rfl⟩) (by decide +kernel) (by decide +kernel))
      · rcases jite hf with ⟨ce, hf⟩ | ⟨ce, hf⟩
        · subst ce
          cases hf
          exact B_callVX (E := "java/util/NoSuchElementException") (μ' := w1) (k' := 4) (n' := 24) B (Nat.le_refl _) ca_X9_order in_X9_order se_X9_order lk_L_112 (t_X9_order B.tr h1) (Nat.le_refl _) rfl rfl rfl (rest := [jI 0, jR 87]) rfl rfl (Nat.le_of_ble_eq_true rfl) (by decide +kernel) rfl rfl (JX_catch (z := 3) (j := 7) (hh := [(0, 16, 19, 25), (0, 16, 23, 13), (0, 16, 27, 50)]) (pre := [⟨0, 16, 19, 25⟩, ⟨0, 16, 23, 13⟩]) (suf := []) (x := ⟨0, 16, 27, 50⟩) B.1 (by decide) htab rfl (List.forall_mem_cons.mpr ⟨⟨by decide, "java/lang/IndexOutOfBoundsException", by decide, by decide, cl_L_25⟩, List.forall_mem_cons.mpr ⟨⟨by decide, "java/lang/IllegalArgumentException", by decide, by decide, cl_L_13⟩, fun y hy => nomatch hy⟩⟩) (by decide) (by decide) cl_L_50 rfl hq (by rw [B.2.2.2.2]) (by decide) (by rw [B.2.1]; decide) (Nat.le_of_ble_eq_true rfl) (Nat.le_of_ble_eq_true rfl) (Or.inr ⟨(by decide +kernel), rfl⟩) (by decide +kernel) (by decide +kernel))
        · cases hf
  · refine B_callV B (Nat.le_refl _) (μ' := r1.2) (k' := 4) (n' := 24) ca_X9_order in_X9_order se_X9_order lk_L_112 (t_X9_order B.tr h1) (Nat.le_refl _) rfl rfl rfl (rest := [jI 0, jR 87]) rfl rfl (Nat.le_of_ble_eq_true rfl) (by decide +kernel) rfl rfl (st' := [jI r1.1, jI 0, jR 87]) rfl ?_
    refine B_blk B (jlkn_ok RL) jcl_SKF [.i2l] (by decide +kernel) (ls' := [(0, jR 0), (1, jI a0), (2, jI a1), (3, jI a2), (4, jI a3), (5, jI a4), (6, jR 87)]) (st' := [jL r1.1, jI 0, jR 87]) rfl (p1 := 15) rfl ?_
    refine K_last (lenI := 1) B rfl rfl (by decide) (by decide +kernel) ?_
    obtain ⟨m2, hm2, hf⟩ := jlt_s hf
    rw [hm2]
    refine B_blk B (jlkn_ok RL) jcl_SKF [.goto 15, .iconst 0] (by decide +kernel) (ls' := [(0, jR 0), (1, jI a0), (2, jI a1), (3, jI a2), (4, jI a3), (5, jI a4), (6, jR 87)]) (st' := [jI 0]) rfl (p1 := 32) rfl ?_
    cases hf
    exact B_retI B hq rfl (Nat.le_of_ble_eq_true rfl) (Nat.le_of_ble_eq_true rfl) (by decide +kernel)

def rm_L_put : Room := { frames := 18, cells := 3, slots := 18, locals := 268 }
def f_L_put (a0 : Int) (a1 : Int) (a2 : Int) (a3 : Int) (m : jMu) : Option (Int × jMu) :=
  jcat2 (f_X9_put a0 a1 a2 a3 m) (fun r1 => (jlt (jup r1.2 87 0 r1.1) fun m2 => some (0, m2))) (fun e1 w1 => if e1 = "java/lang/IndexOutOfBoundsException" then some (1, w1) else if e1 = "java/lang/IllegalArgumentException" then some (2, w1) else none)
theorem t_L_put {l : Launch} {G : jG} (hl : l.stackTraces = false) {a0 : Int} {a1 : Int} {a2 : Int} {a3 : Int} {m : jMu} {r : (Int × jMu)} (hf : f_L_put a0 a1 a2 a3 m = some r) : jCt l G yL_put (.codeWith yL_put cL_put 7 (some .int) [(0, 14, 17, 25), (0, 14, 21, 13)] :: jWG) rm_L_put [jR 0, jI a0, jI a1, jI a2, jI a3, jR 87] SKF m (.inl (some (jI r.1))) SKF r.2 := by
  unfold f_L_put at hf
  refine J_startH (hh := [(0, 14, 17, 25), (0, 14, 21, 13)]) (ls0 := [(0, jR 0), (1, jI a0), (2, jI a1), (3, jI a2), (4, jI a3), (5, jR 87)]) (by decide +kernel) hl (Nat.le_of_ble_eq_true rfl) rfl fun X C hN hn hR hr htab hq => ?_
  have B : jB X cL_put RL 7 SKF.length rm_L_put (some .int) := ⟨C, hN, Nat.le_of_eq hn, hR, hr⟩
  refine B_blk B (jlkn_ok RL) jcl_SKF [.aload 5, .iconst 0, .aload_n 0, .iload_n 1, .iload_n 2, .iload_n 3, .iload 4] (by decide +kernel) (ls' := [(0, jR 0), (1, jI a0), (2, jI a1), (3, jI a2), (4, jI a3), (5, jR 87)]) (st' := [jI a3, jI a2, jI a1, jI a0, jR 0, jI 0, jR 87]) rfl (p1 := 9) rfl ?_
  rcases jcat2_s hf with ⟨e1, w1, h1, hf⟩ | ⟨r1, h1, hf⟩
  · rcases jite hf with ⟨ce, hf⟩ | ⟨ce, hf⟩
    · subst ce
      cases hf
      exact B_callVX (E := "java/lang/IndexOutOfBoundsException") (μ' := w1) (k' := 3) (n' := 18) B (Nat.le_refl _) ca_X9_put in_X9_put se_X9_put lk_L_115 (t_X9_put B.tr h1) (Nat.le_refl _) rfl rfl rfl (rest := [jI 0, jR 87]) rfl rfl (Nat.le_of_ble_eq_true rfl) (by decide +kernel) rfl rfl (JX_catch (z := 1) (j := 6) (hh := [(0, 14, 17, 25), (0, 14, 21, 13)]) (pre := []) (suf := [⟨0, 14, 21, 13⟩]) (x := ⟨0, 14, 17, 25⟩) B.1 (by decide) htab rfl (fun y hy => nomatch hy) (by decide) (by decide) cl_L_25 rfl hq (by rw [B.2.2.2.2]) (by decide) (by rw [B.2.1]; decide) (Nat.le_of_ble_eq_true rfl) (Nat.le_of_ble_eq_true rfl) (Or.inr ⟨(by decide +kernel), rfl⟩) (by decide +kernel) (by decide +kernel))
    · rcases jite hf with ⟨ce, hf⟩ | ⟨ce, hf⟩
      · subst ce
        cases hf
        exact B_callVX (E := "java/lang/IllegalArgumentException") (μ' := w1) (k' := 3) (n' := 18) B (Nat.le_refl _) ca_X9_put in_X9_put se_X9_put lk_L_115 (t_X9_put B.tr h1) (Nat.le_refl _) rfl rfl rfl (rest := [jI 0, jR 87]) rfl rfl (Nat.le_of_ble_eq_true rfl) (by decide +kernel) rfl rfl (JX_catch (z := 2) (j := 6) (hh := [(0, 14, 17, 25), (0, 14, 21, 13)]) (pre := [⟨0, 14, 17, 25⟩]) (suf := []) (x := ⟨0, 14, 21, 13⟩) B.1 (by decide) htab rfl (List.forall_mem_cons.mpr ⟨⟨by decide, "java/lang/IndexOutOfBoundsException", by decide, by decide, cl_L_25⟩, fun y hy => nomatch hy⟩) (by decide) (by decide) cl_L_13 rfl hq (by rw [B.2.2.2.2]) (by decide) (by rw [B.2.1]; decide) (Nat.le_of_ble_eq_true rfl) (Nat.le_of_ble_eq_true rfl) (Or.inr ⟨(by decide +kernel), rfl⟩) (by decide +kernel) (by decide +kernel))
      · cases hf
  · refine B_callV B (Nat.le_refl _) (μ' := r1.2) (k' := 3) (n' := 18) ca_X9_put in_X9_put se_X9_put lk_L_115 (t_X9_put B.tr h1) (Nat.le_refl _) rfl rfl rfl (rest := [jI 0, jR 87]) rfl rfl (Nat.le_of_ble_eq_true rfl) (by decide +kernel) rfl rfl (st' := [jI r1.1, jI 0, jR 87]) rfl ?_
    refine B_blk B (jlkn_ok RL) jcl_SKF [.i2l] (by decide +kernel) (ls' := [(0, jR 0), (1, jI a0), (2, jI a1), (3, jI a2), (4, jI a3), (5, jR 87)]) (st' := [jL r1.1, jI 0, jR 87]) rfl (p1 := 13) rfl ?_
    refine K_last (lenI := 1) B rfl rfl (by decide) (by decide +kernel) ?_
    obtain ⟨m2, hm2, hf⟩ := jlt_s hf
    rw [hm2]
    refine B_blk B (jlkn_ok RL) jcl_SKF [.goto 11, .iconst 0] (by decide +kernel) (ls' := [(0, jR 0), (1, jI a0), (2, jI a1), (3, jI a2), (4, jI a3), (5, jR 87)]) (st' := [jI 0]) rfl (p1 := 26) rfl ?_
    cases hf
    exact B_retI B hq rfl (Nat.le_of_ble_eq_true rfl) (Nat.le_of_ble_eq_true rfl) (by decide +kernel)

def rm_L_cost : Room := { frames := 11, cells := 2, slots := 12, locals := 143 }
def f_L_cost (a0 : Int) (a1 : Int) (a2 : Int) (m : jMu) : Option (Int × jMu) :=
  jcat2 (f_X9_cost a0 a1 a2 m) (fun r1 => some (0, r1.2)) (fun e1 w1 => if e1 = "java/lang/IndexOutOfBoundsException" then some (1, w1) else if e1 = "java/lang/IllegalArgumentException" then some (2, w1) else none)
theorem t_L_cost {l : Launch} {G : jG} (hl : l.stackTraces = false) {a0 : Int} {a1 : Int} {a2 : Int} {m : jMu} {r : (Int × jMu)} (hf : f_L_cost a0 a1 a2 m = some r) : jCt l G yL_cost (.codeWith yL_cost cL_cost 5 (some .int) [(0, 7, 10, 25), (0, 7, 14, 13)] :: jWG) rm_L_cost [jR 0, jI a0, jI a1, jI a2] SKF m (.inl (some (jI r.1))) SKF r.2 := by
  unfold f_L_cost at hf
  refine J_startH (hh := [(0, 7, 10, 25), (0, 7, 14, 13)]) (ls0 := [(0, jR 0), (1, jI a0), (2, jI a1), (3, jI a2)]) (by decide +kernel) hl (Nat.le_of_ble_eq_true rfl) rfl fun X C hN hn hR hr htab hq => ?_
  have B : jB X cL_cost RL 5 SKF.length rm_L_cost (some .int) := ⟨C, hN, Nat.le_of_eq hn, hR, hr⟩
  refine B_blk B (jlkn_ok RL) jcl_SKF [.aload_n 0, .iload_n 1, .iload_n 2, .iload_n 3] (by decide +kernel) (ls' := [(0, jR 0), (1, jI a0), (2, jI a1), (3, jI a2)]) (st' := [jI a2, jI a1, jI a0, jR 0]) rfl (p1 := 4) rfl ?_
  rcases jcat2_s hf with ⟨e1, w1, h1, hf⟩ | ⟨r1, h1, hf⟩
  · rcases jite hf with ⟨ce, hf⟩ | ⟨ce, hf⟩
    · subst ce
      cases hf
      exact B_callVX (E := "java/lang/IndexOutOfBoundsException") (μ' := w1) (k' := 2) (n' := 12) B (Nat.le_refl _) ca_X9_cost in_X9_cost se_X9_cost lk_L_118 (t_X9_cost B.tr h1) (Nat.le_refl _) rfl rfl rfl (rest := []) rfl rfl (Nat.le_of_ble_eq_true rfl) (by decide +kernel) rfl rfl (JX_catch (z := 1) (j := 4) (hh := [(0, 7, 10, 25), (0, 7, 14, 13)]) (pre := []) (suf := [⟨0, 7, 14, 13⟩]) (x := ⟨0, 7, 10, 25⟩) B.1 (by decide) htab rfl (fun y hy => nomatch hy) (by decide) (by decide) cl_L_25 rfl hq (by rw [B.2.2.2.2]) (by decide) (by rw [B.2.1]; decide) (Nat.le_of_ble_eq_true rfl) (Nat.le_of_ble_eq_true rfl) (Or.inr ⟨(by decide +kernel), rfl⟩) (by decide +kernel) (by decide +kernel))
    · rcases jite hf with ⟨ce, hf⟩ | ⟨ce, hf⟩
      · subst ce
        cases hf
        exact B_callVX (E := "java/lang/IllegalArgumentException") (μ' := w1) (k' := 2) (n' := 12) B (Nat.le_refl _) ca_X9_cost in_X9_cost se_X9_cost lk_L_118 (t_X9_cost B.tr h1) (Nat.le_refl _) rfl rfl rfl (rest := []) rfl rfl (Nat.le_of_ble_eq_true rfl) (by decide +kernel) rfl rfl (JX_catch (z := 2) (j := 4) (hh := [(0, 7, 10, 25), (0, 7, 14, 13)]) (pre := [⟨0, 7, 10, 25⟩]) (suf := []) (x := ⟨0, 7, 14, 13⟩) B.1 (by decide) htab rfl (List.forall_mem_cons.mpr ⟨⟨by decide, "java/lang/IndexOutOfBoundsException", by decide, by decide, cl_L_25⟩, fun y hy => nomatch hy⟩) (by decide) (by decide) cl_L_13 rfl hq (by rw [B.2.2.2.2]) (by decide) (by rw [B.2.1]; decide) (Nat.le_of_ble_eq_true rfl) (Nat.le_of_ble_eq_true rfl) (Or.inr ⟨(by decide +kernel), rfl⟩) (by decide +kernel) (by decide +kernel))
      · cases hf
  · refine B_callV B (Nat.le_refl _) (μ' := r1.2) (k' := 2) (n' := 12) ca_X9_cost in_X9_cost se_X9_cost lk_L_118 (t_X9_cost B.tr h1) (Nat.le_refl _) rfl rfl rfl (rest := []) rfl rfl (Nat.le_of_ble_eq_true rfl) (by decide +kernel) rfl rfl (st' := []) rfl ?_
    refine B_blk B (jlkn_ok RL) jcl_SKF [.goto 11, .iconst 0] (by decide +kernel) (ls' := [(0, jR 0), (1, jI a0), (2, jI a1), (3, jI a2)]) (st' := [jI 0]) rfl (p1 := 19) rfl ?_
    cases hf
    exact B_retI B hq rfl (Nat.le_of_ble_eq_true rfl) (Nat.le_of_ble_eq_true rfl) (by decide +kernel)

def rm_L_wear : Room := { frames := 11, cells := 2, slots := 12, locals := 144 }
def f_L_wear (a0 : Int) (a1 : Int) (a2 : Int) (a3 : Int) (m : jMu) : Option (Int × jMu) :=
  jcat2 (f_X9_wear a0 a1 a2 a3 m) (fun r1 => some (0, r1.2)) (fun e1 w1 => if e1 = "java/lang/IndexOutOfBoundsException" then some (1, w1) else if e1 = "java/lang/IllegalArgumentException" then some (2, w1) else none)
theorem t_L_wear {l : Launch} {G : jG} (hl : l.stackTraces = false) {a0 : Int} {a1 : Int} {a2 : Int} {a3 : Int} {m : jMu} {r : (Int × jMu)} (hf : f_L_wear a0 a1 a2 a3 m = some r) : jCt l G yL_wear (.codeWith yL_wear cL_wear 6 (some .int) [(0, 9, 12, 25), (0, 9, 16, 13)] :: jWG) rm_L_wear [jR 0, jI a0, jI a1, jI a2, jI a3] SKF m (.inl (some (jI r.1))) SKF r.2 := by
  unfold f_L_wear at hf
  refine J_startH (hh := [(0, 9, 12, 25), (0, 9, 16, 13)]) (ls0 := [(0, jR 0), (1, jI a0), (2, jI a1), (3, jI a2), (4, jI a3)]) (by decide +kernel) hl (Nat.le_of_ble_eq_true rfl) rfl fun X C hN hn hR hr htab hq => ?_
  have B : jB X cL_wear RL 6 SKF.length rm_L_wear (some .int) := ⟨C, hN, Nat.le_of_eq hn, hR, hr⟩
  refine B_blk B (jlkn_ok RL) jcl_SKF [.aload_n 0, .iload_n 1, .iload_n 2, .iload_n 3, .iload 4] (by decide +kernel) (ls' := [(0, jR 0), (1, jI a0), (2, jI a1), (3, jI a2), (4, jI a3)]) (st' := [jI a3, jI a2, jI a1, jI a0, jR 0]) rfl (p1 := 6) rfl ?_
  rcases jcat2_s hf with ⟨e1, w1, h1, hf⟩ | ⟨r1, h1, hf⟩
  · rcases jite hf with ⟨ce, hf⟩ | ⟨ce, hf⟩
    · subst ce
      cases hf
      exact B_callVX (E := "java/lang/IndexOutOfBoundsException") (μ' := w1) (k' := 2) (n' := 12) B (Nat.le_refl _) ca_X9_wear in_X9_wear se_X9_wear lk_L_121 (t_X9_wear B.tr h1) (Nat.le_refl _) rfl rfl rfl (rest := []) rfl rfl (Nat.le_of_ble_eq_true rfl) (by decide +kernel) rfl rfl (JX_catch (z := 1) (j := 5) (hh := [(0, 9, 12, 25), (0, 9, 16, 13)]) (pre := []) (suf := [⟨0, 9, 16, 13⟩]) (x := ⟨0, 9, 12, 25⟩) B.1 (by decide) htab rfl (fun y hy => nomatch hy) (by decide) (by decide) cl_L_25 rfl hq (by rw [B.2.2.2.2]) (by decide) (by rw [B.2.1]; decide) (Nat.le_of_ble_eq_true rfl) (Nat.le_of_ble_eq_true rfl) (Or.inr ⟨(by decide +kernel), rfl⟩) (by decide +kernel) (by decide +kernel))
    · rcases jite hf with ⟨ce, hf⟩ | ⟨ce, hf⟩
      · subst ce
        cases hf
        exact B_callVX (E := "java/lang/IllegalArgumentException") (μ' := w1) (k' := 2) (n' := 12) B (Nat.le_refl _) ca_X9_wear in_X9_wear se_X9_wear lk_L_121 (t_X9_wear B.tr h1) (Nat.le_refl _) rfl rfl rfl (rest := []) rfl rfl (Nat.le_of_ble_eq_true rfl) (by decide +kernel) rfl rfl (JX_catch (z := 2) (j := 5) (hh := [(0, 9, 12, 25), (0, 9, 16, 13)]) (pre := [⟨0, 9, 12, 25⟩]) (suf := []) (x := ⟨0, 9, 16, 13⟩) B.1 (by decide) htab rfl (List.forall_mem_cons.mpr ⟨⟨by decide, "java/lang/IndexOutOfBoundsException", by decide, by decide, cl_L_25⟩, fun y hy => nomatch hy⟩) (by decide) (by decide) cl_L_13 rfl hq (by rw [B.2.2.2.2]) (by decide) (by rw [B.2.1]; decide) (Nat.le_of_ble_eq_true rfl) (Nat.le_of_ble_eq_true rfl) (Or.inr ⟨(by decide +kernel), rfl⟩) (by decide +kernel) (by decide +kernel))
      · cases hf
  · refine B_callV B (Nat.le_refl _) (μ' := r1.2) (k' := 2) (n' := 12) ca_X9_wear in_X9_wear se_X9_wear lk_L_121 (t_X9_wear B.tr h1) (Nat.le_refl _) rfl rfl rfl (rest := []) rfl rfl (Nat.le_of_ble_eq_true rfl) (by decide +kernel) rfl rfl (st' := []) rfl ?_
    refine B_blk B (jlkn_ok RL) jcl_SKF [.goto 11, .iconst 0] (by decide +kernel) (ls' := [(0, jR 0), (1, jI a0), (2, jI a1), (3, jI a2), (4, jI a3)]) (st' := [jI 0]) rfl (p1 := 21) rfl ?_
    cases hf
    exact B_retI B hq rfl (Nat.le_of_ble_eq_true rfl) (Nat.le_of_ble_eq_true rfl) (by decide +kernel)
