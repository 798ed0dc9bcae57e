/-! printed walks -/
def rm_L_spent : Room := { frames := 11, cells := 2, slots := 12, locals := 162 }
def f_L_spent (a0 : Int) (a1 : Int) (m : jMu) : Option (Int × jMu) :=
  jcat2 (f_X9_spent a0 a1 m) (fun r1 => (jlt (jup r1.2 87 0 r1.1) fun m2 => some (0, m2))) (fun e1 w1 => if e1 = "java/lang/IndexOutOfBoundsException" then some (1, w1) else if e1 = "java/lang/IllegalArgumentException" then some (2, w1) else none)
theorem t_L_spent {l : Launch} {G : jG} (hl : l.stackTraces = false) {a0 : Int} {a1 : Int} {m : jMu} {r : (Int × jMu)} (hf : f_L_spent a0 a1 m = some r) : jCt l G yL_spent (.codeWith yL_spent cL_spent 5 (some .int) [(0, 10, 13, 25), (0, 10, 17, 13)] :: jWG) rm_L_spent [jR 0, jI a0, jI a1, jR 87] SKF m (.inl (some (jI r.1))) SKF r.2 := by
  unfold f_L_spent at hf
  refine J_startH (hh := [(0, 10, 13, 25), (0, 10, 17, 13)]) (ls0 := [(0, jR 0), (1, jI a0), (2, jI a1), (3, jR 87)]) (by decide +kernel) hl (Nat.le_of_ble_eq_true rfl) rfl fun X C hN hn hR hr htab hq => ?_
  have B : jB X cL_spent RL 5 SKF.length rm_L_spent (some .int) := ⟨C, hN, Nat.le_of_eq hn, hR, hr⟩
  refine B_blk B (jlkn_ok RL) jcl_SKF [.aload_n 3, .iconst 0, .aload_n 0, .iload_n 1, .iload_n 2] (by decide +kernel) (ls' := [(0, jR 0), (1, jI a0), (2, jI a1), (3, jR 87)]) (st' := [jI a1, jI a0, jR 0, jI 0, jR 87]) rfl (p1 := 5) rfl ?_
  rcases jcat2_s hf with ⟨e1, w1, h1, hf⟩ | ⟨r1, h1, hf⟩
  · rcases jite hf with ⟨ce, hf⟩ | ⟨ce, hf⟩
    · subst ce
      cases hf
      exact B_callVX (E := "java/lang/IndexOutOfBoundsException") (μ' := w1) (k' := 2) (n' := 12) B (Nat.le_refl _) ca_X9_spent in_X9_spent se_X9_spent lk_L_125 (t_X9_spent B.tr h1) (Nat.le_refl _) rfl rfl rfl (rest := [jI 0, jR 87]) rfl rfl (Nat.le_of_ble_eq_true rfl) (by decide +kernel) rfl rfl (JX_catch (z := 1) (j := 4) (hh := [(0, 10, 13, 25), (0, 10, 17, 13)]) (pre := []) (suf := [⟨0, 10, 17, 13⟩]) (x := ⟨0, 10, 13, 25⟩) B.1 (by decide) htab rfl (fun y hy => nomatch hy) (by decide) (by decide) cl_L_25 rfl hq (by rw [B.2.2.2.2]) (by decide) (by rw [B.2.1]; decide) (Nat.le_of_ble_eq_true rfl) (Nat.le_of_ble_eq_true rfl) (Or.inr ⟨(by decide +kernel), rfl⟩) (by decide +kernel) (by decide +kernel))
    · rcases jite hf with ⟨ce, hf⟩ | ⟨ce, hf⟩
      · subst ce
        cases hf
        exact B_callVX (E := "java/lang/IllegalArgumentException") (μ' := w1) (k' := 2) (n' := 12) B (Nat.le_refl _) ca_X9_spent in_X9_spent se_X9_spent lk_L_125 (t_X9_spent B.tr h1) (Nat.le_refl _) rfl rfl rfl (rest := [jI 0, jR 87]) rfl rfl (Nat.le_of_ble_eq_true rfl) (by decide +kernel) rfl rfl (JX_catch (z := 2) (j := 4) (hh := [(0, 10, 13, 25), (0, 10, 17, 13)]) (pre := [⟨0, 10, 13, 25⟩]) (suf := []) (x := ⟨0, 10, 17, 13⟩) B.1 (by decide) htab rfl (List.forall_mem_cons.mpr ⟨⟨by decide, "java/lang/IndexOutOfBoundsException", by decide, by decide, cl_L_25⟩, fun y hy => nomatch hy⟩) (by decide) (by decide) cl_L_13 rfl hq (by rw [B.2.2.2.2]) (by decide) (by rw [B.2.1]; decide) (Nat.le_of_ble_eq_true rfl) (Nat.le_of_ble_eq_true rfl) (Or.inr ⟨(by decide +kernel), rfl⟩) (by decide +kernel) (by decide +kernel))
      · cases hf
  · refine B_callV B (Nat.le_refl _) (μ' := r1.2) (k' := 2) (n' := 12) ca_X9_spent in_X9_spent se_X9_spent lk_L_125 (t_X9_spent B.tr h1) (Nat.le_refl _) rfl rfl rfl (rest := [jI 0, jR 87]) rfl rfl (Nat.le_of_ble_eq_true rfl) (by decide +kernel) rfl rfl (st' := [jI r1.1, jI 0, jR 87]) rfl ?_
    refine B_blk B (jlkn_ok RL) jcl_SKF [.i2l] (by decide +kernel) (ls' := [(0, jR 0), (1, jI a0), (2, jI a1), (3, jR 87)]) (st' := [jL r1.1, jI 0, jR 87]) rfl (p1 := 9) rfl ?_
    refine K_last (lenI := 1) B rfl rfl (by decide) (by decide +kernel) ?_
    obtain ⟨m2, hm2, hf⟩ := jlt_s hf
    rw [hm2]
    refine B_blk B (jlkn_ok RL) jcl_SKF [.goto 11, .iconst 0] (by decide +kernel) (ls' := [(0, jR 0), (1, jI a0), (2, jI a1), (3, jR 87)]) (st' := [jI 0]) rfl (p1 := 22) rfl ?_
    cases hf
    exact B_retI B hq rfl (Nat.le_of_ble_eq_true rfl) (Nat.le_of_ble_eq_true rfl) (by decide +kernel)

def rm_L_promise : Room := { frames := 13, cells := 1, slots := 6, locals := 165 }
def f_L_promise (a0 : Int) (a1 : Int) (a2 : Int) (m : jMu) : Option (Int × jMu) :=
  jcat2 (f_X9_promise a0 a1 a2 m) (fun r1 => (jlt (jup r1.2 87 0 r1.1) fun m2 => some (0, m2))) (fun e1 w1 => if e1 = "java/lang/IllegalArgumentException" then some (1, w1) else none)
theorem t_L_promise {l : Launch} {G : jG} (hl : l.stackTraces = false) {a0 : Int} {a1 : Int} {a2 : Int} {m : jMu} {r : (Int × jMu)} (hf : f_L_promise a0 a1 a2 m = some r) : jCt l G yL_promise (.codeWith yL_promise cL_promise 6 (some .int) [(0, 11, 14, 13)] :: jWG) rm_L_promise [jR 0, jI a0, jI a1, jI a2, jR 87] SKF m (.inl (some (jI r.1))) SKF r.2 := by
  unfold f_L_promise at hf
  refine J_startH (hh := [(0, 11, 14, 13)]) (ls0 := [(0, jR 0), (1, jI a0), (2, jI a1), (3, jI a2), (4, jR 87)]) (by decide +kernel) hl (Nat.le_of_ble_eq_true rfl) rfl fun X C hN hn hR hr htab hq => ?_
  have B : jB X cL_promise RL 6 SKF.length rm_L_promise (some .int) := ⟨C, hN, Nat.le_of_eq hn, hR, hr⟩
  refine B_blk B (jlkn_ok RL) jcl_SKF [.aload 4, .iconst 0, .aload_n 0, .iload_n 1, .iload_n 2, .iload_n 3] (by decide +kernel) (ls' := [(0, jR 0), (1, jI a0), (2, jI a1), (3, jI a2), (4, jR 87)]) (st' := [jI a2, jI a1, jI a0, jR 0, jI 0, jR 87]) rfl (p1 := 7) rfl ?_
  rcases jcat2_s hf with ⟨e1, w1, h1, hf⟩ | ⟨r1, h1, hf⟩
  · rcases jite hf with ⟨ce, hf⟩ | ⟨ce, hf⟩
    · subst ce
      cases hf
      exact B_callVX (E := "java/lang/IllegalArgumentException") (μ' := w1) (k' := 1) (n' := 6) B (Nat.le_refl _) ca_X9_promise in_X9_promise se_X9_promise lk_L_128 (t_X9_promise B.tr h1) (Nat.le_refl _) rfl rfl rfl (rest := [jI 0, jR 87]) rfl rfl (Nat.le_of_ble_eq_true rfl) (by decide +kernel) rfl rfl (JX_catch (z := 1) (j := 5) (hh := [(0, 11, 14, 13)]) (pre := []) (suf := []) (x := ⟨0, 11, 14, 13⟩) B.1 (by decide) htab rfl (fun y hy => nomatch hy) (by decide) (by decide) cl_L_13 rfl hq (by rw [B.2.2.2.2]) (by decide) (by rw [B.2.1]; decide) (Nat.le_of_ble_eq_true rfl) (Nat.le_of_ble_eq_true rfl) (Or.inr ⟨(by decide +kernel), rfl⟩) (by decide +kernel) (by decide +kernel))
    · cases hf
  · refine B_callV B (Nat.le_refl _) (μ' := r1.2) (k' := 1) (n' := 6) ca_X9_promise in_X9_promise se_X9_promise lk_L_128 (t_X9_promise B.tr h1) (Nat.le_refl _) rfl rfl rfl (rest := [jI 0, jR 87]) rfl rfl (Nat.le_of_ble_eq_true rfl) (by decide +kernel) rfl rfl (st' := [jL r1.1, jI 0, jR 87]) rfl ?_
    refine K_last (lenI := 1) B rfl rfl (by decide) (by decide +kernel) ?_
    obtain ⟨m2, hm2, hf⟩ := jlt_s hf
    rw [hm2]
    refine B_blk B (jlkn_ok RL) jcl_SKF [.goto 7, .iconst 0] (by decide +kernel) (ls' := [(0, jR 0), (1, jI a0), (2, jI a1), (3, jI a2), (4, jR 87)]) (st' := [jI 0]) rfl (p1 := 19) rfl ?_
    cases hf
    exact B_retI B hq rfl (Nat.le_of_ble_eq_true rfl) (Nat.le_of_ble_eq_true rfl) (by decide +kernel)

def rm_L_edge : Room := { frames := 13, cells := 2, slots := 12, locals := 168 }
def f_L_edge (a0 : Int) (a1 : Int) (a2 : Int) (a3 : Int) (m : jMu) : Option (Int × jMu) :=
  jcat2 (f_X9_edge a0 a1 a2 a3 m) (fun r1 => (jlt (jup r1.2 87 0 r1.1) fun m2 => some (0, m2))) (fun e1 w1 => if e1 = "java/lang/IllegalArgumentException" then some (1, w1) else none)
theorem t_L_edge {l : Launch} {G : jG} (hl : l.stackTraces = false) {a0 : Int} {a1 : Int} {a2 : Int} {a3 : Int} {m : jMu} {r : (Int × jMu)} (hf : f_L_edge a0 a1 a2 a3 m = some r) : jCt l G yL_edge (.codeWith yL_edge cL_edge 7 (some .int) [(0, 14, 17, 13)] :: jWG) rm_L_edge [jR 0, jI a0, jI a1, jI a2, jI a3, jR 87] SKF m (.inl (some (jI r.1))) SKF r.2 := by
  unfold f_L_edge at hf
  refine J_startH (hh := [(0, 14, 17, 13)]) (ls0 := [(0, jR 0), (1, jI a0), (2, jI a1), (3, jI a2), (4, jI a3), (5, jR 87)]) (by decide +kernel) hl (Nat.le_of_ble_eq_true rfl) rfl fun X C hN hn hR hr htab hq => ?_
  have B : jB X cL_edge RL 7 SKF.length rm_L_edge (some .int) := ⟨C, hN, Nat.le_of_eq hn, hR, hr⟩
  refine B_blk B (jlkn_ok RL) jcl_SKF [.aload 5, .iconst 0, .aload_n 0, .iload_n 1, .iload_n 2, .iload_n 3, .iload 4] (by decide +kernel) (ls' := [(0, jR 0), (1, jI a0), (2, jI a1), (3, jI a2), (4, jI a3), (5, jR 87)]) (st' := [jI a3, jI a2, jI a1, jI a0, jR 0, jI 0, jR 87]) rfl (p1 := 9) rfl ?_
  rcases jcat2_s hf with ⟨e1, w1, h1, hf⟩ | ⟨r1, h1, hf⟩
  · rcases jite hf with ⟨ce, hf⟩ | ⟨ce, hf⟩
    · subst ce
      cases hf
      exact B_callVX (E := "java/lang/IllegalArgumentException") (μ' := w1) (k' := 2) (n' := 12) B (Nat.le_refl _) ca_X9_edge in_X9_edge se_X9_edge lk_L_132 (t_X9_edge B.tr h1) (Nat.le_refl _) rfl rfl rfl (rest := [jI 0, jR 87]) rfl rfl (Nat.le_of_ble_eq_true rfl) (by decide +kernel) rfl rfl (JX_catch (z := 1) (j := 6) (hh := [(0, 14, 17, 13)]) (pre := []) (suf := []) (x := ⟨0, 14, 17, 13⟩) B.1 (by decide) htab rfl (fun y hy => nomatch hy) (by decide) (by decide) cl_L_13 rfl hq (by rw [B.2.2.2.2]) (by decide) (by rw [B.2.1]; decide) (Nat.le_of_ble_eq_true rfl) (Nat.le_of_ble_eq_true rfl) (Or.inr ⟨(by decide +kernel), rfl⟩) (by decide +kernel) (by decide +kernel))
    · cases hf
  · refine B_callV B (Nat.le_refl _) (μ' := r1.2) (k' := 2) (n' := 12) ca_X9_edge in_X9_edge se_X9_edge lk_L_132 (t_X9_edge B.tr h1) (Nat.le_refl _) rfl rfl rfl (rest := [jI 0, jR 87]) rfl rfl (Nat.le_of_ble_eq_true rfl) (by decide +kernel) rfl rfl (st' := [jI r1.1, jI 0, jR 87]) rfl ?_
    refine B_blk B (jlkn_ok RL) jcl_SKF [.i2l] (by decide +kernel) (ls' := [(0, jR 0), (1, jI a0), (2, jI a1), (3, jI a2), (4, jI a3), (5, jR 87)]) (st' := [jL r1.1, jI 0, jR 87]) rfl (p1 := 13) rfl ?_
    refine K_last (lenI := 1) B rfl rfl (by decide) (by decide +kernel) ?_
    obtain ⟨m2, hm2, hf⟩ := jlt_s hf
    rw [hm2]
    refine B_blk B (jlkn_ok RL) jcl_SKF [.goto 7, .iconst 0] (by decide +kernel) (ls' := [(0, jR 0), (1, jI a0), (2, jI a1), (3, jI a2), (4, jI a3), (5, jR 87)]) (st' := [jI 0]) rfl (p1 := 22) rfl ?_
    cases hf
    exact B_retI B hq rfl (Nat.le_of_ble_eq_true rfl) (Nat.le_of_ble_eq_true rfl) (by decide +kernel)

def rm_L_even : Room := { frames := 11, cells := 1, slots := 6, locals := 157 }
def f_L_even (a0 : Int) (m : jMu) : Option (Int × jMu) :=
  jcat2 (f_X9_even a0 m) (fun r1 => (jlt (jup r1.2 87 0 r1.1) fun m2 => some (0, m2))) (fun e1 w1 => if e1 = "java/lang/IllegalArgumentException" then some (1, w1) else none)
theorem t_L_even {l : Launch} {G : jG} (hl : l.stackTraces = false) {a0 : Int} {m : jMu} {r : (Int × jMu)} (hf : f_L_even a0 m = some r) : jCt l G yL_even (.codeWith yL_even cL_even 4 (some .int) [(0, 9, 12, 13)] :: jWG) rm_L_even [jR 0, jI a0, jR 87] SKF m (.inl (some (jI r.1))) SKF r.2 := by
  unfold f_L_even at hf
  refine J_startH (hh := [(0, 9, 12, 13)]) (ls0 := [(0, jR 0), (1, jI a0), (2, jR 87)]) (by decide +kernel) hl (Nat.le_of_ble_eq_true rfl) rfl fun X C hN hn hR hr htab hq => ?_
  have B : jB X cL_even RL 4 SKF.length rm_L_even (some .int) := ⟨C, hN, Nat.le_of_eq hn, hR, hr⟩
  refine B_blk B (jlkn_ok RL) jcl_SKF [.aload_n 2, .iconst 0, .aload_n 0, .iload_n 1] (by decide +kernel) (ls' := [(0, jR 0), (1, jI a0), (2, jR 87)]) (st' := [jI a0, jR 0, jI 0, jR 87]) rfl (p1 := 4) rfl ?_
  rcases jcat2_s hf with ⟨e1, w1, h1, hf⟩ | ⟨r1, h1, hf⟩
  · rcases jite hf with ⟨ce, hf⟩ | ⟨ce, hf⟩
    · subst ce
      cases hf
      exact B_callVX (E := "java/lang/IllegalArgumentException") (μ' := w1) (k' := 1) (n' := 6) B (Nat.le_refl _) ca_X9_even in_X9_even se_X9_even lk_L_135 (t_X9_even B.tr h1) (Nat.le_refl _) rfl rfl rfl (rest := [jI 0, jR 87]) rfl rfl (Nat.le_of_ble_eq_true rfl) (by decide +kernel) rfl rfl (JX_catch (z := 1) (j := 3) (hh := [(0, 9, 12, 13)]) (pre := []) (suf := []) (x := ⟨0, 9, 12, 13⟩) B.1 (by decide) htab rfl (fun y hy => nomatch hy) (by decide) (by decide) cl_L_13 rfl hq (by rw [B.2.2.2.2]) (by decide) (by rw [B.2.1]; decide) (Nat.le_of_ble_eq_true rfl) (Nat.le_of_ble_eq_true rfl) (Or.inl ⟨3, rfl, (by decide +kernel), rfl⟩) (by decide +kernel) (by decide +kernel))
    · cases hf
  · refine B_callV B (Nat.le_refl _) (μ' := r1.2) (k' := 1) (n' := 6) ca_X9_even in_X9_even se_X9_even lk_L_135 (t_X9_even B.tr h1) (Nat.le_refl _) rfl rfl rfl (rest := [jI 0, jR 87]) rfl rfl (Nat.le_of_ble_eq_true rfl) (by decide +kernel) rfl rfl (st' := [jI r1.1, jI 0, jR 87]) rfl ?_
    refine B_blk B (jlkn_ok RL) jcl_SKF [.i2l] (by decide +kernel) (ls' := [(0, jR 0), (1, jI a0), (2, jR 87)]) (st' := [jL r1.1, jI 0, jR 87]) rfl (p1 := 8) rfl ?_
    refine K_last (lenI := 1) B rfl rfl (by decide) (by decide +kernel) ?_
    obtain ⟨m2, hm2, hf⟩ := jlt_s hf
    rw [hm2]
    refine B_blk B (jlkn_ok RL) jcl_SKF [.goto 6, .iconst 0] (by decide +kernel) (ls' := [(0, jR 0), (1, jI a0), (2, jR 87)]) (st' := [jI 0]) rfl (p1 := 16) rfl ?_
    cases hf
    exact B_retI B hq rfl (Nat.le_of_ble_eq_true rfl) (Nat.le_of_ble_eq_true rfl) (by decide +kernel)

def rm_L_peels : Room := { frames := 11, cells := 1, slots := 6, locals := 160 }
def f_L_peels (a0 : Int) (a1 : Int) (a2 : Int) (m : jMu) : Option (Int × jMu) :=
  jcat2 (f_X9_peels a0 a1 a2 m) (fun r1 => (jlt (jup r1.2 87 0 r1.1) fun m2 => some (0, m2))) (fun e1 w1 => if e1 = "java/lang/IndexOutOfBoundsException" then some (1, w1) else none)
theorem t_L_peels {l : Launch} {G : jG} (hl : l.stackTraces = false) {a0 : Int} {a1 : Int} {a2 : Int} {m : jMu} {r : (Int × jMu)} (hf : f_L_peels a0 a1 a2 m = some r) : jCt l G yL_peels (.codeWith yL_peels cL_peels 6 (some .int) [(0, 12, 15, 25)] :: jWG) rm_L_peels [jR 0, jI a0, jI a1, jI a2, jR 87] SKF m (.inl (some (jI r.1))) SKF r.2 := by
  unfold f_L_peels at hf
  refine J_startH (hh := [(0, 12, 15, 25)]) (ls0 := [(0, jR 0), (1, jI a0), (2, jI a1), (3, jI a2), (4, jR 87)]) (by decide +kernel) hl (Nat.le_of_ble_eq_true rfl) rfl fun X C hN hn hR hr htab hq => ?_
  have B : jB X cL_peels RL 6 SKF.length rm_L_peels (some .int) := ⟨C, hN, Nat.le_of_eq hn, hR, hr⟩
  refine B_blk B (jlkn_ok RL) jcl_SKF [.aload 4, .iconst 0, .aload_n 0, .iload_n 1, .iload_n 2, .iload_n 3] (by decide +kernel) (ls' := [(0, jR 0), (1, jI a0), (2, jI a1), (3, jI a2), (4, jR 87)]) (st' := [jI a2, jI a1, jI a0, jR 0, jI 0, jR 87]) rfl (p1 := 7) rfl ?_
  rcases jcat2_s hf with ⟨e1, w1, h1, hf⟩ | ⟨r1, h1, hf⟩
  · rcases jite hf with ⟨ce, hf⟩ | ⟨ce, hf⟩
    · subst ce
      cases hf
      exact B_callVX (E := "java/lang/IndexOutOfBoundsException") (μ' := w1) (k' := 1) (n' := 6) B (Nat.le_refl _) ca_X9_peels in_X9_peels se_X9_peels lk_L_138 (t_X9_peels B.tr h1) (Nat.le_refl _) rfl rfl rfl (rest := [jI 0, jR 87]) rfl rfl (Nat.le_of_ble_eq_true rfl) (by decide +kernel) rfl rfl (JX_catch (z := 1) (j := 5) (hh := [(0, 12, 15, 25)]) (pre := []) (suf := []) (x := ⟨0, 12, 15, 25⟩) B.1 (by decide) htab rfl (fun y hy => nomatch hy) (by decide) (by decide) cl_L_25 rfl hq (by rw [B.2.2.2.2]) (by decide) (by rw [B.2.1]; decide) (Nat.le_of_ble_eq_true rfl) (Nat.le_of_ble_eq_true rfl) (Or.inr ⟨(by decide +kernel), rfl⟩) (by decide +kernel) (by decide +kernel))
    · cases hf
  · refine B_callV B (Nat.le_refl _) (μ' := r1.2) (k' := 1) (n' := 6) ca_X9_peels in_X9_peels se_X9_peels lk_L_138 (t_X9_peels B.tr h1) (Nat.le_refl _) rfl rfl rfl (rest := [jI 0, jR 87]) rfl rfl (Nat.le_of_ble_eq_true rfl) (by decide +kernel) rfl rfl (st' := [jI r1.1, jI 0, jR 87]) rfl ?_
    refine B_blk B (jlkn_ok RL) jcl_SKF [.i2l] (by decide +kernel) (ls' := [(0, jR 0), (1, jI a0), (2, jI a1), (3, jI a2), (4, jR 87)]) (st' := [jL r1.1, jI 0, jR 87]) rfl (p1 := 11) rfl ?_
    refine K_last (lenI := 1) B rfl rfl (by decide) (by decide +kernel) ?_
    obtain ⟨m2, hm2, hf⟩ := jlt_s hf
    rw [hm2]
    refine B_blk B (jlkn_ok RL) jcl_SKF [.goto 7, .iconst 0] (by decide +kernel) (ls' := [(0, jR 0), (1, jI a0), (2, jI a1), (3, jI a2), (4, jR 87)]) (st' := [jI 0]) rfl (p1 := 20) rfl ?_
    cases hf
    exact B_retI B hq rfl (Nat.le_of_ble_eq_true rfl) (Nat.le_of_ble_eq_true rfl) (by decide +kernel)

def rm_L_worst : Room := { frames := 12, cells := 1, slots := 6, locals := 185 }
def f_L_worst (a0 : Int) (m : jMu) : Option (Int × jMu) :=
  jcat2 (f_X9_worst a0 m) (fun r1 => (jlt (jup r1.2 87 0 r1.1) fun m2 => some (0, m2))) (fun e1 w1 => if e1 = "java/lang/IndexOutOfBoundsException" then some (1, w1) else none)
theorem t_L_worst {l : Launch} {G : jG} (hl : l.stackTraces = false) {a0 : Int} {m : jMu} {r : (Int × jMu)} (hf : f_L_worst a0 m = some r) : jCt l G yL_worst (.codeWith yL_worst cL_worst 4 (some .int) [(0, 9, 12, 25)] :: jWG) rm_L_worst [jR 0, jI a0, jR 87] SKF m (.inl (some (jI r.1))) SKF r.2 := by
  unfold f_L_worst at hf
  refine J_startH (hh := [(0, 9, 12, 25)]) (ls0 := [(0, jR 0), (1, jI a0), (2, jR 87)]) (by decide +kernel) hl (Nat.le_of_ble_eq_true rfl) rfl fun X C hN hn hR hr htab hq => ?_
  have B : jB X cL_worst RL 4 SKF.length rm_L_worst (some .int) := ⟨C, hN, Nat.le_of_eq hn, hR, hr⟩
  refine B_blk B (jlkn_ok RL) jcl_SKF [.aload_n 2, .iconst 0, .aload_n 0, .iload_n 1] (by decide +kernel) (ls' := [(0, jR 0), (1, jI a0), (2, jR 87)]) (st' := [jI a0, jR 0, jI 0, jR 87]) rfl (p1 := 4) rfl ?_
  rcases jcat2_s hf with ⟨e1, w1, h1, hf⟩ | ⟨r1, h1, hf⟩
  · rcases jite hf with ⟨ce, hf⟩ | ⟨ce, hf⟩
    · subst ce
      cases hf
      exact B_callVX (E := "java/lang/IndexOutOfBoundsException") (μ' := w1) (k' := 1) (n' := 6) B (Nat.le_refl _) ca_X9_worst in_X9_worst se_X9_worst lk_L_141 (t_X9_worst B.tr h1) (Nat.le_refl _) rfl rfl rfl (rest := [jI 0, jR 87]) rfl rfl (Nat.le_of_ble_eq_true rfl) (by decide +kernel) rfl rfl (JX_catch (z := 1) (j := 3) (hh := [(0, 9, 12, 25)]) (pre := []) (suf := []) (x := ⟨0, 9, 12, 25⟩) B.1 (by decide) htab rfl (fun y hy => nomatch hy) (by decide) (by decide) cl_L_25 rfl hq (by rw [B.2.2.2.2]) (by decide) (by rw [B.2.1]; decide) (Nat.le_of_ble_eq_true rfl) (Nat.le_of_ble_eq_true rfl) (Or.inl ⟨3, rfl, (by decide +kernel), rfl⟩) (by decide +kernel) (by decide +kernel))
    · cases hf
  · refine B_callV B (Nat.le_refl _) (μ' := r1.2) (k' := 1) (n' := 6) ca_X9_worst in_X9_worst se_X9_worst lk_L_141 (t_X9_worst B.tr h1) (Nat.le_refl _) rfl rfl rfl (rest := [jI 0, jR 87]) rfl rfl (Nat.le_of_ble_eq_true rfl) (by decide +kernel) rfl rfl (st' := [jI r1.1, jI 0, jR 87]) rfl ?_
    refine B_blk B (jlkn_ok RL) jcl_SKF [.i2l] (by decide +kernel) (ls' := [(0, jR 0), (1, jI a0), (2, jR 87)]) (st' := [jL r1.1, jI 0, jR 87]) rfl (p1 := 8) rfl ?_
    refine K_last (lenI := 1) B rfl rfl (by decide) (by decide +kernel) ?_
    obtain ⟨m2, hm2, hf⟩ := jlt_s hf
    rw [hm2]
    refine B_blk B (jlkn_ok RL) jcl_SKF [.goto 6, .iconst 0] (by decide +kernel) (ls' := [(0, jR 0), (1, jI a0), (2, jR 87)]) (st' := [jI 0]) rfl (p1 := 16) rfl ?_
    cases hf
    exact B_retI B hq rfl (Nat.le_of_ble_eq_true rfl) (Nat.le_of_ble_eq_true rfl) (by decide +kernel)

def rm_L_risk : Room := { frames := 12, cells := 1, slots := 6, locals := 186 }
def f_L_risk (a0 : Int) (m : jMu) : Option (Int × jMu) :=
  jcat2 (f_X9_risk a0 m) (fun r1 => (jlt (jup r1.2 87 0 r1.1) fun m2 => some (0, m2))) (fun e1 w1 => if e1 = "java/lang/IndexOutOfBoundsException" then some (1, w1) else none)
theorem t_L_risk {l : Launch} {G : jG} (hl : l.stackTraces = false) {a0 : Int} {m : jMu} {r : (Int × jMu)} (hf : f_L_risk a0 m = some r) : jCt l G yL_risk (.codeWith yL_risk cL_risk 4 (some .int) [(0, 9, 12, 25)] :: jWG) rm_L_risk [jR 0, jI a0, jR 87] SKF m (.inl (some (jI r.1))) SKF r.2 := by
  unfold f_L_risk at hf
  refine J_startH (hh := [(0, 9, 12, 25)]) (ls0 := [(0, jR 0), (1, jI a0), (2, jR 87)]) (by decide +kernel) hl (Nat.le_of_ble_eq_true rfl) rfl fun X C hN hn hR hr htab hq => ?_
  have B : jB X cL_risk RL 4 SKF.length rm_L_risk (some .int) := ⟨C, hN, Nat.le_of_eq hn, hR, hr⟩
  refine B_blk B (jlkn_ok RL) jcl_SKF [.aload_n 2, .iconst 0, .aload_n 0, .iload_n 1] (by decide +kernel) (ls' := [(0, jR 0), (1, jI a0), (2, jR 87)]) (st' := [jI a0, jR 0, jI 0, jR 87]) rfl (p1 := 4) rfl ?_
  rcases jcat2_s hf with ⟨e1, w1, h1, hf⟩ | ⟨r1, h1, hf⟩
  · rcases jite hf with ⟨ce, hf⟩ | ⟨ce, hf⟩
    · subst ce
      cases hf
      exact B_callVX (E := "java/lang/IndexOutOfBoundsException") (μ' := w1) (k' := 1) (n' := 6) B (Nat.le_refl _) ca_X9_risk in_X9_risk se_X9_risk lk_L_144 (t_X9_risk B.tr h1) (Nat.le_refl _) rfl rfl rfl (rest := [jI 0, jR 87]) rfl rfl (Nat.le_of_ble_eq_true rfl) (by decide +kernel) rfl rfl (JX_catch (z := 1) (j := 3) (hh := [(0, 9, 12, 25)]) (pre := []) (suf := []) (x := ⟨0, 9, 12, 25⟩) B.1 (by decide) htab rfl (fun y hy => nomatch hy) (by decide) (by decide) cl_L_25 rfl hq (by rw [B.2.2.2.2]) (by decide) (by rw [B.2.1]; decide) (Nat.le_of_ble_eq_true rfl) (Nat.le_of_ble_eq_true rfl) (Or.inl ⟨3, rfl, (by decide +kernel), rfl⟩) (by decide +kernel) (by decide +kernel))
    · cases hf
  · refine B_callV B (Nat.le_refl _) (μ' := r1.2) (k' := 1) (n' := 6) ca_X9_risk in_X9_risk se_X9_risk lk_L_144 (t_X9_risk B.tr h1) (Nat.le_refl _) rfl rfl rfl (rest := [jI 0, jR 87]) rfl rfl (Nat.le_of_ble_eq_true rfl) (by decide +kernel) rfl rfl (st' := [jI r1.1, jI 0, jR 87]) rfl ?_
    refine B_blk B (jlkn_ok RL) jcl_SKF [.i2l] (by decide +kernel) (ls' := [(0, jR 0), (1, jI a0), (2, jR 87)]) (st' := [jL r1.1, jI 0, jR 87]) rfl (p1 := 8) rfl ?_
    refine K_last (lenI := 1) B rfl rfl (by decide) (by decide +kernel) ?_
    obtain ⟨m2, hm2, hf⟩ := jlt_s hf
    rw [hm2]
    refine B_blk B (jlkn_ok RL) jcl_SKF [.goto 6, .iconst 0] (by decide +kernel) (ls' := [(0, jR 0), (1, jI a0), (2, jR 87)]) (st' := [jI 0]) rfl (p1 := 16) rfl ?_
    cases hf
    exact B_retI B hq rfl (Nat.le_of_ble_eq_true rfl) (Nat.le_of_ble_eq_true rfl) (by decide +kernel)

def rm_L_match : Room := { frames := 12, cells := 2, slots := 12, locals := 182 }
def f_L_match (a0 : Int) (a1 : Int) (m : jMu) : Option (Int × jMu) :=
  jcat2 (f_X9_match a0 a1 m) (fun r1 => (jlt (jup r1.2 87 0 r1.1) fun m2 => some (0, m2))) (fun e1 w1 => if e1 = "java/lang/IndexOutOfBoundsException" then some (1, w1) else if e1 = "java/lang/IllegalArgumentException" then some (2, w1) else none)
theorem t_L_match {l : Launch} {G : jG} (hl : l.stackTraces = false) {a0 : Int} {a1 : Int} {m : jMu} {r : (Int × jMu)} (hf : f_L_match a0 a1 m = some r) : jCt l G yL_match (.codeWith yL_match cL_match 5 (some .int) [(0, 10, 13, 25), (0, 10, 17, 13)] :: jWG) rm_L_match [jR 0, jI a0, jI a1, jR 87] SKF m (.inl (some (jI r.1))) SKF r.2 := by
  unfold f_L_match at hf
  refine J_startH (hh := [(0, 10, 13, 25), (0, 10, 17, 13)]) (ls0 := [(0, jR 0), (1, jI a0), (2, jI a1), (3, jR 87)]) (by decide +kernel) hl (Nat.le_of_ble_eq_true rfl) rfl fun X C hN hn hR hr htab hq => ?_
  have B : jB X cL_match RL 5 SKF.length rm_L_match (some .int) := ⟨C, hN, Nat.le_of_eq hn, hR, hr⟩
  refine B_blk B (jlkn_ok RL) jcl_SKF [.aload_n 3, .iconst 0, .aload_n 0, .iload_n 1, .iload_n 2] (by decide +kernel) (ls' := [(0, jR 0), (1, jI a0), (2, jI a1), (3, jR 87)]) (st' := [jI a1, jI a0, jR 0, jI 0, jR 87]) rfl (p1 := 5) rfl ?_
  rcases jcat2_s hf with ⟨e1, w1, h1, hf⟩ | ⟨r1, h1, hf⟩
  · rcases jite hf with ⟨ce, hf⟩ | ⟨ce, hf⟩
    · subst ce
      cases hf
      exact B_callVX (E := "java/lang/IndexOutOfBoundsException") (μ' := w1) (k' := 2) (n' := 12) B (Nat.le_refl _) ca_X9_match in_X9_match se_X9_match lk_L_147 (t_X9_match B.tr h1) (Nat.le_refl _) rfl rfl rfl (rest := [jI 0, jR 87]) rfl rfl (Nat.le_of_ble_eq_true rfl) (by decide +kernel) rfl rfl (JX_catch (z := 1) (j := 4) (hh := [(0, 10, 13, 25), (0, 10, 17, 13)]) (pre := []) (suf := [⟨0, 10, 17, 13⟩]) (x := ⟨0, 10, 13, 25⟩) B.1 (by decide) htab rfl (fun y hy => nomatch hy) (by decide) (by decide) cl_L_25 rfl hq (by rw [B.2.2.2.2]) (by decide) (by rw [B.2.1]; decide) (Nat.le_of_ble_eq_true rfl) (Nat.le_of_ble_eq_true rfl) (Or.inr ⟨(by decide +kernel), rfl⟩) (by decide +kernel) (by decide +kernel))
    · rcases jite hf with ⟨ce, hf⟩ | ⟨ce, hf⟩
      · subst ce
        cases hf
        exact B_callVX (E := "java/lang/IllegalArgumentException") (μ' := w1) (k' := 2) (n' := 12) B (Nat.le_refl _) ca_X9_match in_X9_match se_X9_match lk_L_147 (t_X9_match B.tr h1) (Nat.le_refl _) rfl rfl rfl (rest := [jI 0, jR 87]) rfl rfl (Nat.le_of_ble_eq_true rfl) (by decide +kernel) rfl rfl (JX_catch (z := 2) (j := 4) (hh := [(0, 10, 13, 25), (0, 10, 17, 13)]) (pre := [⟨0, 10, 13, 25⟩]) (suf := []) (x := ⟨0, 10, 17, 13⟩) B.1 (by decide) htab rfl (List.forall_mem_cons.mpr ⟨⟨by decide, "java/lang/IndexOutOfBoundsException", by decide, by decide, cl_L_25⟩, fun y hy => nomatch hy⟩) (by decide) (by decide) cl_L_13 rfl hq (by rw [B.2.2.2.2]) (by decide) (by rw [B.2.1]; decide) (Nat.le_of_ble_eq_true rfl) (Nat.le_of_ble_eq_true rfl) (Or.inr ⟨(by decide +kernel), rfl⟩) (by decide +kernel) (by decide +kernel))
      · cases hf
  · refine B_callV B (Nat.le_refl _) (μ' := r1.2) (k' := 2) (n' := 12) ca_X9_match in_X9_match se_X9_match lk_L_147 (t_X9_match B.tr h1) (Nat.le_refl _) rfl rfl rfl (rest := [jI 0, jR 87]) rfl rfl (Nat.le_of_ble_eq_true rfl) (by decide +kernel) rfl rfl (st' := [jI r1.1, jI 0, jR 87]) rfl ?_
    refine B_blk B (jlkn_ok RL) jcl_SKF [.i2l] (by decide +kernel) (ls' := [(0, jR 0), (1, jI a0), (2, jI a1), (3, jR 87)]) (st' := [jL r1.1, jI 0, jR 87]) rfl (p1 := 9) rfl ?_
    refine K_last (lenI := 1) B rfl rfl (by decide) (by decide +kernel) ?_
    obtain ⟨m2, hm2, hf⟩ := jlt_s hf
    rw [hm2]
    refine B_blk B (jlkn_ok RL) jcl_SKF [.goto 11, .iconst 0] (by decide +kernel) (ls' := [(0, jR 0), (1, jI a0), (2, jI a1), (3, jR 87)]) (st' := [jI 0]) rfl (p1 := 22) rfl ?_
    cases hf
    exact B_retI B hq rfl (Nat.le_of_ble_eq_true rfl) (Nat.le_of_ble_eq_true rfl) (by decide +kernel)

def rm_L_bolt : Room := { frames := 11, cells := 1, slots := 6, locals := 143 }
def f_L_bolt (a0 : Int) (a1 : Int) (m : jMu) : Option (Int × jMu) :=
  jcat2 (f_X9_bolt a0 a1 m) (fun r1 => (jlt (jup r1.2 87 0 r1.1) fun m2 => some (0, m2))) (fun e1 w1 => if e1 = "java/lang/IndexOutOfBoundsException" then some (1, w1) else none)
theorem t_L_bolt {l : Launch} {G : jG} (hl : l.stackTraces = false) {a0 : Int} {a1 : Int} {m : jMu} {r : (Int × jMu)} (hf : f_L_bolt a0 a1 m = some r) : jCt l G yL_bolt (.codeWith yL_bolt cL_bolt 5 (some .int) [(0, 10, 13, 25)] :: jWG) rm_L_bolt [jR 0, jI a0, jI a1, jR 87] SKF m (.inl (some (jI r.1))) SKF r.2 := by
  unfold f_L_bolt at hf
  refine J_startH (hh := [(0, 10, 13, 25)]) (ls0 := [(0, jR 0), (1, jI a0), (2, jI a1), (3, jR 87)]) (by decide +kernel) hl (Nat.le_of_ble_eq_true rfl) rfl fun X C hN hn hR hr htab hq => ?_
  have B : jB X cL_bolt RL 5 SKF.length rm_L_bolt (some .int) := ⟨C, hN, Nat.le_of_eq hn, hR, hr⟩
  refine B_blk B (jlkn_ok RL) jcl_SKF [.aload_n 3, .iconst 0, .aload_n 0, .iload_n 1, .iload_n 2] (by decide +kernel) (ls' := [(0, jR 0), (1, jI a0), (2, jI a1), (3, jR 87)]) (st' := [jI a1, jI a0, jR 0, jI 0, jR 87]) rfl (p1 := 5) rfl ?_
  rcases jcat2_s hf with ⟨e1, w1, h1, hf⟩ | ⟨r1, h1, hf⟩
  · rcases jite hf with ⟨ce, hf⟩ | ⟨ce, hf⟩
    · subst ce
      cases hf
      exact B_callVX (E := "java/lang/IndexOutOfBoundsException") (μ' := w1) (k' := 1) (n' := 6) B (Nat.le_refl _) ca_X9_bolt in_X9_bolt se_X9_bolt lk_L_150 (t_X9_bolt B.tr h1) (Nat.le_refl _) rfl rfl rfl (rest := [jI 0, jR 87]) rfl rfl (Nat.le_of_ble_eq_true rfl) (by decide +kernel) rfl rfl (JX_catch (z := 1) (j := 4) (hh := [(0, 10, 13, 25)]) (pre := []) (suf := []) (x := ⟨0, 10, 13, 25⟩) B.1 (by decide) htab rfl (fun y hy => nomatch hy) (by decide) (by decide) cl_L_25 rfl hq (by rw [B.2.2.2.2]) (by decide) (by rw [B.2.1]; decide) (Nat.le_of_ble_eq_true rfl) (Nat.le_of_ble_eq_true rfl) (Or.inr ⟨(by decide +kernel), rfl⟩) (by decide +kernel) (by decide +kernel))
    · cases hf
  · refine B_callV B (Nat.le_refl _) (μ' := r1.2) (k' := 1) (n' := 6) ca_X9_bolt in_X9_bolt se_X9_bolt lk_L_150 (t_X9_bolt B.tr h1) (Nat.le_refl _) rfl rfl rfl (rest := [jI 0, jR 87]) rfl rfl (Nat.le_of_ble_eq_true rfl) (by decide +kernel) rfl rfl (st' := [jI r1.1, jI 0, jR 87]) rfl ?_
    refine B_blk B (jlkn_ok RL) jcl_SKF [.i2l] (by decide +kernel) (ls' := [(0, jR 0), (1, jI a0), (2, jI a1), (3, jR 87)]) (st' := [jL r1.1, jI 0, jR 87]) rfl (p1 := 9) rfl ?_
    refine K_last (lenI := 1) B rfl rfl (by decide) (by decide +kernel) ?_
    obtain ⟨m2, hm2, hf⟩ := jlt_s hf
    rw [hm2]
    refine B_blk B (jlkn_ok RL) jcl_SKF [.goto 7, .iconst 0] (by decide +kernel) (ls' := [(0, jR 0), (1, jI a0), (2, jI a1), (3, jR 87)]) (st' := [jI 0]) rfl (p1 := 18) rfl ?_
    cases hf
    exact B_retI B hq rfl (Nat.le_of_ble_eq_true rfl) (Nat.le_of_ble_eq_true rfl) (by decide +kernel)

def rm_L_finds : Room := { frames := 13, cells := 3, slots := 18, locals := 164 }
def f_L_finds (a0 : Int) (a1 : Int) (a2 : Int) (m : jMu) : Option (Int × jMu) :=
  jcat2 (f_X9_finds a0 a1 a2 m) (fun r1 => (jlt (jup r1.2 87 0 r1.1) fun m2 => some (0, m2))) (fun e1 w1 => if e1 = "java/lang/IndexOutOfBoundsException" then some (1, w1) else if e1 = "java/lang/IllegalArgumentException" then some (2, w1) else none)
theorem t_L_finds {l : Launch} {G : jG} (hl : l.stackTraces = false) {a0 : Int} {a1 : Int} {a2 : Int} {m : jMu} {r : (Int × jMu)} (hf : f_L_finds a0 a1 a2 m = some r) : jCt l G yL_finds (.codeWith yL_finds cL_finds 6 (some .int) [(0, 12, 15, 25), (0, 12, 19, 13)] :: jWG) rm_L_finds [jR 0, jI a0, jI a1, jI a2, jR 87] SKF m (.inl (some (jI r.1))) SKF r.2 := by
  unfold f_L_finds at hf
  refine J_startH (hh := [(0, 12, 15, 25), (0, 12, 19, 13)]) (ls0 := [(0, jR 0), (1, jI a0), (2, jI a1), (3, jI a2), (4, jR 87)]) (by decide +kernel) hl (Nat.le_of_ble_eq_true rfl) rfl fun X C hN hn hR hr htab hq => ?_
  have B : jB X cL_finds RL 6 SKF.length rm_L_finds (some .int) := ⟨C, hN, Nat.le_of_eq hn, hR, hr⟩
  refine B_blk B (jlkn_ok RL) jcl_SKF [.aload 4, .iconst 0, .aload_n 0, .iload_n 1, .iload_n 2, .iload_n 3] (by decide +kernel) (ls' := [(0, jR 0), (1, jI a0), (2, jI a1), (3, jI a2), (4, jR 87)]) (st' := [jI a2, jI a1, jI a0, jR 0, jI 0, jR 87]) rfl (p1 := 7) rfl ?_
  rcases jcat2_s hf with ⟨e1, w1, h1, hf⟩ | ⟨r1, h1, hf⟩
  · rcases jite hf with ⟨ce, hf⟩ | ⟨ce, hf⟩
    · subst ce
      cases hf
      exact B_callVX (E := "java/lang/IndexOutOfBoundsException") (μ' := w1) (k' := 3) (n' := 18) B (Nat.le_refl _) ca_X9_finds in_X9_finds se_X9_finds lk_L_153 (t_X9_finds B.tr h1) (Nat.le_refl _) rfl rfl rfl (rest := [jI 0, jR 87]) rfl rfl (Nat.le_of_ble_eq_true rfl) (by decide +kernel) rfl rfl (JX_catch (z := 1) (j := 5) (hh := [(0, 12, 15, 25), (0, 12, 19, 13)]) (pre := []) (suf := [⟨0, 12, 19, 13⟩]) (x := ⟨0, 12, 15, 25⟩) B.1 (by decide) htab rfl (fun y hy => nomatch hy) (by decide) (by decide) cl_L_25 rfl hq (by rw [B.2.2.2.2]) (by decide) (by rw [B.2.1]; decide) (Nat.le_of_ble_eq_true rfl) (Nat.le_of_ble_eq_true rfl) (Or.inr ⟨(by decide +kernel), rfl⟩) (by decide +kernel) (by decide +kernel))
    · rcases jite hf with ⟨ce, hf⟩ | ⟨ce, hf⟩
      · subst ce
        cases hf
        exact B_callVX (E := "java/lang/IllegalArgumentException") (μ' := w1) (k' := 3) (n' := 18) B (Nat.le_refl _) ca_X9_finds in_X9_finds se_X9_finds lk_L_153 (t_X9_finds B.tr h1) (Nat.le_refl _) rfl rfl rfl (rest := [jI 0, jR 87]) rfl rfl (Nat.le_of_ble_eq_true rfl) (by decide +kernel) rfl rfl (JX_catch (z := 2) (j := 5) (hh := [(0, 12, 15, 25), (0, 12, 19, 13)]) (pre := [⟨0, 12, 15, 25⟩]) (suf := []) (x := ⟨0, 12, 19, 13⟩) B.1 (by decide) htab rfl (List.forall_mem_cons.mpr ⟨⟨by decide, "java/lang/IndexOutOfBoundsException", by decide, by decide, cl_L_25⟩, fun y hy => nomatch hy⟩) (by decide) (by decide) cl_L_13 rfl hq (by rw [B.2.2.2.2]) (by decide) (by rw [B.2.1]; decide) (Nat.le_of_ble_eq_true rfl) (Nat.le_of_ble_eq_true rfl) (Or.inr ⟨(by decide +kernel), rfl⟩) (by decide +kernel) (by decide +kernel))
      · cases hf
  · refine B_callV B (Nat.le_refl _) (μ' := r1.2) (k' := 3) (n' := 18) ca_X9_finds in_X9_finds se_X9_finds lk_L_153 (t_X9_finds B.tr h1) (Nat.le_refl _) rfl rfl rfl (rest := [jI 0, jR 87]) rfl rfl (Nat.le_of_ble_eq_true rfl) (by decide +kernel) rfl rfl (st' := [jI r1.1, jI 0, jR 87]) rfl ?_
    refine B_blk B (jlkn_ok RL) jcl_SKF [.i2l] (by decide +kernel) (ls' := [(0, jR 0), (1, jI a0), (2, jI a1), (3, jI a2), (4, jR 87)]) (st' := [jL r1.1, jI 0, jR 87]) rfl (p1 := 11) rfl ?_
    refine K_last (lenI := 1) B rfl rfl (by decide) (by decide +kernel) ?_
    obtain ⟨m2, hm2, hf⟩ := jlt_s hf
    rw [hm2]
    refine B_blk B (jlkn_ok RL) jcl_SKF [.goto 11, .iconst 0] (by decide +kernel) (ls' := [(0, jR 0), (1, jI a0), (2, jI a1), (3, jI a2), (4, jR 87)]) (st' := [jI 0]) rfl (p1 := 24) rfl ?_
    cases hf
    exact B_retI B hq rfl (Nat.le_of_ble_eq_true rfl) (Nat.le_of_ble_eq_true rfl) (by decide +kernel)

def SKE : List jSh := []
theorem jcl_SKE : jcl SKE := jcl_of (by decide +kernel)

def f_case_0 (sx : Int → Int) (L i : Int) (m : jMu) : Option jMu :=
  (if 0 ≤ jW (i + 1) ∧ jW (i + 1) < L then (if 0 ≤ jW (i + 2) ∧ jW (i + 2) < L then (if 0 ≤ jW (i + 3) ∧ jW (i + 3) < L then (if 0 ≤ jW (i + 4) ∧ jW (i + 4) < L then (if 0 ≤ jW (i + 5) ∧ jW (i + 5) < L then (f_X9_feed (sx (jW (i + 1))) (sx (jW (i + 2))) (sx (jW (i + 3))) (sx (jW (i + 4))) (sx (jW (i + 5))) m).bind fun r1 => (if 0 ≤ jW (i + 1) ∧ jW (i + 1) < L then (if 0 ≤ jW (i + 2) ∧ jW (i + 2) < L then (if 0 ≤ jW (i + 3) ∧ jW (i + 3) < L then (if 0 ≤ jW (i + 4) ∧ jW (i + 4) < L then (if 0 ≤ jW (i + 5) ∧ jW (i + 5) < L then (f_X10_feed (sx (jW (i + 1))) (sx (jW (i + 2))) (sx (jW (i + 3))) (sx (jW (i + 4))) (sx (jW (i + 5))) r1.2).bind fun r2 => (if r1.1 = r2.1 then some r2.2 else none) else none) else none) else none) else none) else none) else none) else none) else none) else none) else none)
theorem t_case_0 {X : jX} {L : Int} {sx : Int → Int} (hsx : jsx (xG X) L sx) (B : jB X cL_law RL 8 0 room_1 (some .boolean)) {k n : Nat} (hk : k ≤ 8900) (hn : n ≤ 89000) {i : Int} {m o : jMu} (hf : f_case_0 sx L i m = some o) (hx : J X SKF o (k + 5) (n + 30) 3623 [(0, jR jXS), (1, jR 0), (2, jR 74), (3, jR 87), (4, jI i)] []) : J X SKF m k n 248 [(0, jR jXS), (1, jR 0), (2, jR 74), (3, jR 87), (4, jI i)] [] := by
  unfold f_case_0 at hf
  refine B_blk B (jlkn_ok RL) jcl_SKF [.aload_n 1, .aload_n 0, .iload 4, .iconst 1, .iadd] (by decide +kernel) (ls' := [(0, jR jXS), (1, jR 0), (2, jR 74), (3, jR 87), (4, jI i)]) (st' := [jI (jW (i + 1)), jR jXS, jR 0]) rfl (p1 := 254) rfl ?_
  obtain ⟨g12, hf⟩ := jgd hf
  refine K_xald B hsx g12 (by decide +kernel) ?_
  refine B_blk B (jlkn_ok RL) jcl_SKF [.aload_n 0, .iload 4, .iconst 2, .iadd] (by decide +kernel) (ls' := [(0, jR jXS), (1, jR 0), (2, jR 74), (3, jR 87), (4, jI i)]) (st' := [jI (jW (i + 2)), jR jXS, jI (sx (jW (i + 1))), jR 0]) rfl (p1 := 260) rfl ?_
  obtain ⟨g11, hf⟩ := jgd hf
  refine K_xald B hsx g11 (by decide +kernel) ?_
  refine B_blk B (jlkn_ok RL) jcl_SKF [.aload_n 0, .iload 4, .iconst 3, .iadd] (by decide +kernel) (ls' := [(0, jR jXS), (1, jR 0), (2, jR 74), (3, jR 87), (4, jI i)]) (st' := [jI (jW (i + 3)), jR jXS, jI (sx (jW (i + 2))), jI (sx (jW (i + 1))), jR 0]) rfl (p1 := 266) rfl ?_
  obtain ⟨g10, hf⟩ := jgd hf
  refine K_xald B hsx g10 (by decide +kernel) ?_
  refine B_blk B (jlkn_ok RL) jcl_SKF [.aload_n 0, .iload 4, .iconst 4, .iadd] (by decide +kernel) (ls' := [(0, jR jXS), (1, jR 0), (2, jR 74), (3, jR 87), (4, jI i)]) (st' := [jI (jW (i + 4)), jR jXS, jI (sx (jW (i + 3))), jI (sx (jW (i + 2))), jI (sx (jW (i + 1))), jR 0]) rfl (p1 := 272) rfl ?_
  obtain ⟨g9, hf⟩ := jgd hf
  refine K_xald B hsx g9 (by decide +kernel) ?_
  refine B_blk B (jlkn_ok RL) jcl_SKF [.aload_n 0, .iload 4, .iconst 5, .iadd] (by decide +kernel) (ls' := [(0, jR jXS), (1, jR 0), (2, jR 74), (3, jR 87), (4, jI i)]) (st' := [jI (jW (i + 5)), jR jXS, jI (sx (jW (i + 4))), jI (sx (jW (i + 3))), jI (sx (jW (i + 2))), jI (sx (jW (i + 1))), jR 0]) rfl (p1 := 278) rfl ?_
  obtain ⟨g8, hf⟩ := jgd hf
  refine K_xald B hsx g8 (by decide +kernel) ?_
  obtain ⟨r1, h1, hf⟩ := jbd hf
  refine B_callV B (Nat.zero_le _) (μ' := r1.2) (k' := k) (n' := n) ca_X9_feed in_X9_feed se_X9_feed lk_L_160 (t_X9_feed B.tr h1) (Nat.le_refl _) (jRoom (K := 9000) (N := 90000) (by omega) (by omega) rfl) rfl rfl (rest := []) rfl rfl (Nat.le_of_ble_eq_true rfl) (by decide +kernel) rfl rfl (st' := [jI r1.1]) rfl ?_
  refine B_blk B (jlkn_ok RL) jcl_SKF [.aload_n 2, .aload_n 0, .iload 4, .iconst 1, .iadd] (by decide +kernel) (ls' := [(0, jR jXS), (1, jR 0), (2, jR 74), (3, jR 87), (4, jI i)]) (st' := [jI (jW (i + 1)), jR jXS, jR 74, jI r1.1]) rfl (p1 := 288) rfl ?_
  obtain ⟨g7, hf⟩ := jgd hf
  refine K_xald B hsx g7 (by decide +kernel) ?_
  refine B_blk B (jlkn_ok RL) jcl_SKF [.aload_n 0, .iload 4, .iconst 2, .iadd] (by decide +kernel) (ls' := [(0, jR jXS), (1, jR 0), (2, jR 74), (3, jR 87), (4, jI i)]) (st' := [jI (jW (i + 2)), jR jXS, jI (sx (jW (i + 1))), jR 74, jI r1.1]) rfl (p1 := 294) rfl ?_
  obtain ⟨g6, hf⟩ := jgd hf
  refine K_xald B hsx g6 (by decide +kernel) ?_
  refine B_blk B (jlkn_ok RL) jcl_SKF [.aload_n 0, .iload 4, .iconst 3, .iadd] (by decide +kernel) (ls' := [(0, jR jXS), (1, jR 0), (2, jR 74), (3, jR 87), (4, jI i)]) (st' := [jI (jW (i + 3)), jR jXS, jI (sx (jW (i + 2))), jI (sx (jW (i + 1))), jR 74, jI r1.1]) rfl (p1 := 300) rfl ?_
  obtain ⟨g5, hf⟩ := jgd hf
  refine K_xald B hsx g5 (by decide +kernel) ?_
  refine B_blk B (jlkn_ok RL) jcl_SKF [.aload_n 0, .iload 4, .iconst 4, .iadd] (by decide +kernel) (ls' := [(0, jR jXS), (1, jR 0), (2, jR 74), (3, jR 87), (4, jI i)]) (st' := [jI (jW (i + 4)), jR jXS, jI (sx (jW (i + 3))), jI (sx (jW (i + 2))), jI (sx (jW (i + 1))), jR 74, jI r1.1]) rfl (p1 := 306) rfl ?_
  obtain ⟨g4, hf⟩ := jgd hf
  refine K_xald B hsx g4 (by decide +kernel) ?_
  refine B_blk B (jlkn_ok RL) jcl_SKF [.aload_n 0, .iload 4, .iconst 5, .iadd] (by decide +kernel) (ls' := [(0, jR jXS), (1, jR 0), (2, jR 74), (3, jR 87), (4, jI i)]) (st' := [jI (jW (i + 5)), jR jXS, jI (sx (jW (i + 4))), jI (sx (jW (i + 3))), jI (sx (jW (i + 2))), jI (sx (jW (i + 1))), jR 74, jI r1.1]) rfl (p1 := 312) rfl ?_
  obtain ⟨g3, hf⟩ := jgd hf
  refine K_xald B hsx g3 (by decide +kernel) ?_
  obtain ⟨r2, h2, hf⟩ := jbd hf
  refine B_callV B (Nat.zero_le _) (μ' := r2.2) (k' := k) (n' := n) ca_X10_feed in_X10_feed se_X10_feed lk_L_163 (t_X10_feed B.tr h2) (Nat.le_refl _) (jRoom (K := 9000) (N := 90000) (by omega) (by omega) rfl) rfl rfl (rest := [jI r1.1]) rfl rfl (Nat.le_of_ble_eq_true rfl) (by decide +kernel) rfl rfl (st' := [jI r2.1, jI r1.1]) rfl ?_
  refine J_icmp_eq B.1 (off := 3307) (tgt := 3623) (by decide +kernel) (by decide) hf (fun hf => ?_) (fun hf => ?_)
  · cases hf
    exact J_widen (by omega) (by omega) hx
  · refine B_blk B (jlkn_ok RL) jcl_SKF [.iconst 0] (by decide +kernel) (ls' := [(0, jR jXS), (1, jR 0), (2, jR 74), (3, jR 87), (4, jI i)]) (st' := [jI 0]) rfl (p1 := 320) rfl ?_
    cases hf

def f_case_1 (sx : Int → Int) (L i : Int) (m : jMu) : Option jMu :=
  (if 0 ≤ jW (i + 1) ∧ jW (i + 1) < L then (f_X9_end (sx (jW (i + 1))) m).bind fun r1 => (if 0 ≤ jW (i + 1) ∧ jW (i + 1) < L then (f_X10_end (sx (jW (i + 1))) r1.2).bind fun r2 => (if r1.1 = r2.1 then some r2.2 else none) else none) else none)
theorem t_case_1 {X : jX} {L : Int} {sx : Int → Int} (hsx : jsx (xG X) L sx) (B : jB X cL_law RL 8 0 room_1 (some .boolean)) {k n : Nat} (hk : k ≤ 8900) (hn : n ≤ 89000) {i : Int} {m o : jMu} (hf : f_case_1 sx L i m = some o) (hx : J X SKF o (k + 5) (n + 30) 3623 [(0, jR jXS), (1, jR 0), (2, jR 74), (3, jR 87), (4, jI i)] []) : J X SKF m k n 321 [(0, jR jXS), (1, jR 0), (2, jR 74), (3, jR 87), (4, jI i)] [] := by
  unfold f_case_1 at hf
  refine B_blk B (jlkn_ok RL) jcl_SKF [.aload_n 1, .aload_n 0, .iload 4, .iconst 1, .iadd] (by decide +kernel) (ls' := [(0, jR jXS), (1, jR 0), (2, jR 74), (3, jR 87), (4, jI i)]) (st' := [jI (jW (i + 1)), jR jXS, jR 0]) rfl (p1 := 327) rfl ?_
  obtain ⟨g4, hf⟩ := jgd hf
  refine K_xald B hsx g4 (by decide +kernel) ?_
  obtain ⟨r1, h1, hf⟩ := jbd hf
  refine B_callV B (Nat.zero_le _) (μ' := r1.2) (k' := k) (n' := n) ca_X9_end in_X9_end se_X9_end lk_L_164 (t_X9_end B.tr h1) (Nat.le_refl _) (jRoom (K := 9000) (N := 90000) (by omega) (by omega) rfl) rfl rfl (rest := []) rfl rfl (Nat.le_of_ble_eq_true rfl) (by decide +kernel) rfl rfl (st' := [jI r1.1]) rfl ?_
  refine B_blk B (jlkn_ok RL) jcl_SKF [.aload_n 2, .aload_n 0, .iload 4, .iconst 1, .iadd] (by decide +kernel) (ls' := [(0, jR jXS), (1, jR 0), (2, jR 74), (3, jR 87), (4, jI i)]) (st' := [jI (jW (i + 1)), jR jXS, jR 74, jI r1.1]) rfl (p1 := 337) rfl ?_
  obtain ⟨g3, hf⟩ := jgd hf
  refine K_xald B hsx g3 (by decide +kernel) ?_
  obtain ⟨r2, h2, hf⟩ := jbd hf
  refine B_callV B (Nat.zero_le _) (μ' := r2.2) (k' := k) (n' := n) ca_X10_end in_X10_end se_X10_end lk_L_167 (t_X10_end B.tr h2) (Nat.le_refl _) (jRoom (K := 9000) (N := 90000) (by omega) (by omega) rfl) rfl rfl (rest := [jI r1.1]) rfl rfl (Nat.le_of_ble_eq_true rfl) (by decide +kernel) rfl rfl (st' := [jI r2.1, jI r1.1]) rfl ?_
  refine J_icmp_eq B.1 (off := 3282) (tgt := 3623) (by decide +kernel) (by decide) hf (fun hf => ?_) (fun hf => ?_)
  · cases hf
    exact J_widen (by omega) (by omega) hx
  · refine B_blk B (jlkn_ok RL) jcl_SKF [.iconst 0] (by decide +kernel) (ls' := [(0, jR jXS), (1, jR 0), (2, jR 74), (3, jR 87), (4, jI i)]) (st' := [jI 0]) rfl (p1 := 345) rfl ?_
    cases hf

def f_case_2 (sx : Int → Int) (L i : Int) (m : jMu) : Option jMu :=
  (if 0 ≤ jW (i + 1) ∧ jW (i + 1) < L then (f_L_days (sx (jW (i + 1))) m).bind fun r1 => (if 0 ≤ jW (i + 1) ∧ jW (i + 1) < L then (f_X10_days (sx (jW (i + 1))) r1.2).bind fun r2 => (f_X10_thrown r2.2).bind fun r3 => (if r3 = r1.1 then (if r1.1 = 0 then (if jCm (r2.2 87 0) r2.1 = 0 then some r2.2 else none) else some r2.2) else none) else none) else none)
theorem t_case_2 {X : jX} {L : Int} {sx : Int → Int} (hsx : jsx (xG X) L sx) (B : jB X cL_law RL 8 0 room_1 (some .boolean)) {k n : Nat} (hk : k ≤ 8900) (hn : n ≤ 89000) {i : Int} {m o : jMu} (hf : f_case_2 sx L i m = some o) (hx : J X SKF o (k + 5) (n + 30) 3623 [(0, jR jXS), (1, jR 0), (2, jR 74), (3, jR 87), (4, jI i)] []) : J X SKF m k n 346 [(0, jR jXS), (1, jR 0), (2, jR 74), (3, jR 87), (4, jI i)] [] := by
  unfold f_case_2 at hf
  refine B_blk B (jlkn_ok RL) jcl_SKF [.aload_n 1, .aload_n 0, .iload 4, .iconst 1, .iadd] (by decide +kernel) (ls' := [(0, jR jXS), (1, jR 0), (2, jR 74), (3, jR 87), (4, jI i)]) (st' := [jI (jW (i + 1)), jR jXS, jR 0]) rfl (p1 := 352) rfl ?_
  obtain ⟨g5, hf⟩ := jgd hf
  refine K_xald B hsx g5 (by decide +kernel) ?_
  refine B_blk B (jlkn_ok RL) jcl_SKF [.aload_n 3] (by decide +kernel) (ls' := [(0, jR jXS), (1, jR 0), (2, jR 74), (3, jR 87), (4, jI i)]) (st' := [jR 87, jI (sx (jW (i + 1))), jR 0]) rfl (p1 := 354) rfl ?_
  obtain ⟨r1, h1, hf⟩ := jbd hf
  refine B_callH B (Nat.zero_le _) (μ' := r1.2) (k' := k + 1) (n' := n + 6) ca_L_days sa_L_days lk_L_168 (t_L_days B.tr h1) (Nat.le_refl _) (jRoom (K := 9000) (N := 90000) (by omega) (by omega) rfl) (rest := []) rfl rfl (Nat.le_of_ble_eq_true rfl) (by decide +kernel) rfl rfl (st' := [jI r1.1]) rfl ?_
  refine B_blk B (jlkn_ok RL) jcl_SKF [.istore 5, .aload_n 2, .aload_n 0, .iload 4, .iconst 1, .iadd] (by decide +kernel) (ls' := [(0, jR jXS), (1, jR 0), (2, jR 74), (3, jR 87), (4, jI i), (5, jI r1.1)]) (st' := [jI (jW (i + 1)), jR jXS, jR 74]) rfl (p1 := 365) rfl ?_
  obtain ⟨g4, hf⟩ := jgd hf
  refine K_xald B hsx g4 (by decide +kernel) ?_
  obtain ⟨r2, h2, hf⟩ := jbd hf
  refine B_callV B (Nat.zero_le _) (μ' := r2.2) (k' := k + 1) (n' := n + 6) ca_X10_days in_X10_days se_X10_days lk_L_173 (t_X10_days B.tr h2) (Nat.le_refl _) (jRoom (K := 9000) (N := 90000) (by omega) (by omega) rfl) rfl rfl (rest := []) rfl rfl (Nat.le_of_ble_eq_true rfl) (by decide +kernel) rfl rfl (st' := [jI r2.1]) rfl ?_
  refine B_blk B (jlkn_ok RL) jcl_SKF [.istore 6, .aload_n 2] (by decide +kernel) (ls' := [(0, jR jXS), (1, jR 0), (2, jR 74), (3, jR 87), (4, jI i), (5, jI r1.1), (6, jI r2.1)]) (st' := [jR 74]) rfl (p1 := 372) rfl ?_
  obtain ⟨r3, h3, hf⟩ := jbd hf
  refine B_callV B (Nat.zero_le _) (μ' := r2.2) (k' := k + 1) (n' := n + 6) ca_X10_thrown in_X10_thrown se_X10_thrown lk_L_174 (t_X10_thrown B.tr h3) (Nat.le_refl _) (jRoom (K := 9000) (N := 90000) (by omega) (by omega) rfl) rfl rfl (rest := []) rfl rfl (Nat.le_of_ble_eq_true rfl) (by decide +kernel) rfl rfl (st' := [jI r3]) rfl ?_
  refine B_blk B (jlkn_ok RL) jcl_SKF [.iload 5] (by decide +kernel) (ls' := [(0, jR jXS), (1, jR 0), (2, jR 74), (3, jR 87), (4, jI i), (5, jI r1.1), (6, jI r2.1)]) (st' := [jI r1.1, jI r3]) rfl (p1 := 377) rfl ?_
  refine J_icmp_eq B.1 (off := 5) (tgt := 382) (by decide +kernel) (by decide) hf (fun hf => ?_) (fun hf => ?_)
  · refine B_blk B (jlkn_ok RL) jcl_SKF [.iload 5] (by decide +kernel) (ls' := [(0, jR jXS), (1, jR 0), (2, jR 74), (3, jR 87), (4, jI i), (5, jI r1.1), (6, jI r2.1)]) (st' := [jI r1.1]) rfl (p1 := 384) rfl ?_
    refine J_if_ne B.1 (off := 15) (tgt := 399) (by decide +kernel) (by decide) hf (fun hf => ?_) (fun hf => ?_)
    · refine B_blk B (jlkn_ok RL) jcl_SKF [.aload_n 3, .iconst 0] (by decide +kernel) (ls' := [(0, jR jXS), (1, jR 0), (2, jR 74), (3, jR 87), (4, jI i), (5, jI r1.1), (6, jI r2.1)]) (st' := [jI 0, jR 87]) rfl (p1 := 389) rfl ?_
      refine K_lald (lenI := 1) B rfl rfl (by decide) (by decide +kernel) ?_
      refine B_blk B (jlkn_ok RL) jcl_SKF [.iload 6, .i2l, .lcmp] (by decide +kernel) (ls' := [(0, jR jXS), (1, jR 0), (2, jR 74), (3, jR 87), (4, jI i), (5, jI r1.1), (6, jI r2.1)]) (st' := [jI (jCm (r2.2 87 0) r2.1)]) rfl (p1 := 394) rfl ?_
      refine J_if_eq B.1 (off := 5) (tgt := 399) (by decide +kernel) (by decide) hf (fun hf => ?_) (fun hf => ?_)
      · refine B_blk B (jlkn_ok RL) jcl_SKF [.goto 3224] (by decide +kernel) (ls' := [(0, jR jXS), (1, jR 0), (2, jR 74), (3, jR 87), (4, jI i), (5, jI r1.1), (6, jI r2.1)]) (st' := []) rfl (p1 := 3623) rfl ?_
        refine J_pick [0, 1, 2, 3, 4] (ls' := [(0, jR jXS), (1, jR 0), (2, jR 74), (3, jR 87), (4, jI i)]) rfl ?_
        cases hf
        exact J_widen (by omega) (by omega) hx
      · refine B_blk B (jlkn_ok RL) jcl_SKF [.iconst 0] (by decide +kernel) (ls' := [(0, jR jXS), (1, jR 0), (2, jR 74), (3, jR 87), (4, jI i), (5, jI r1.1), (6, jI r2.1)]) (st' := [jI 0]) rfl (p1 := 398) rfl ?_
        cases hf
    · refine B_blk B (jlkn_ok RL) jcl_SKF [.goto 3224] (by decide +kernel) (ls' := [(0, jR jXS), (1, jR 0), (2, jR 74), (3, jR 87), (4, jI i), (5, jI r1.1), (6, jI r2.1)]) (st' := []) rfl (p1 := 3623) rfl ?_
      refine J_pick [0, 1, 2, 3, 4] (ls' := [(0, jR jXS), (1, jR 0), (2, jR 74), (3, jR 87), (4, jI i)]) rfl ?_
      cases hf
      exact J_widen (by omega) (by omega) hx
  · refine B_blk B (jlkn_ok RL) jcl_SKF [.iconst 0] (by decide +kernel) (ls' := [(0, jR jXS), (1, jR 0), (2, jR 74), (3, jR 87), (4, jI i), (5, jI r1.1), (6, jI r2.1)]) (st' := [jI 0]) rfl (p1 := 381) rfl ?_
    cases hf

def f_case_3 (sx : Int → Int) (L i : Int) (m : jMu) : Option jMu :=
  (if 0 ≤ jW (i + 1) ∧ jW (i + 1) < L then (if 0 ≤ jW (i + 2) ∧ jW (i + 2) < L then (if 0 ≤ jW (i + 3) ∧ jW (i + 3) < L then (if 0 ≤ jW (i + 4) ∧ jW (i + 4) < L then (f_L_bay (sx (jW (i + 1))) (sx (jW (i + 2))) (sx (jW (i + 3))) (sx (jW (i + 4))) m).bind fun r1 => (if 0 ≤ jW (i + 1) ∧ jW (i + 1) < L then (if 0 ≤ jW (i + 2) ∧ jW (i + 2) < L then (if 0 ≤ jW (i + 3) ∧ jW (i + 3) < L then (if 0 ≤ jW (i + 4) ∧ jW (i + 4) < L then (f_X10_bay (sx (jW (i + 1))) (sx (jW (i + 2))) (sx (jW (i + 3))) (sx (jW (i + 4))) r1.2).bind fun r2 => (f_X10_thrown r2.2).bind fun r3 => (if r3 = r1.1 then (if r1.1 = 0 then (if jCm (r2.2 87 0) r2.1 = 0 then some r2.2 else none) else some r2.2) else none) else none) else none) else none) else none) else none) else none) else none) else none)
theorem t_case_3 {X : jX} {L : Int} {sx : Int → Int} (hsx : jsx (xG X) L sx) (B : jB X cL_law RL 8 0 room_1 (some .boolean)) {k n : Nat} (hk : k ≤ 8900) (hn : n ≤ 89000) {i : Int} {m o : jMu} (hf : f_case_3 sx L i m = some o) (hx : J X SKF o (k + 5) (n + 30) 3623 [(0, jR jXS), (1, jR 0), (2, jR 74), (3, jR 87), (4, jI i)] []) : J X SKF m k n 402 [(0, jR jXS), (1, jR 0), (2, jR 74), (3, jR 87), (4, jI i)] [] := by
  unfold f_case_3 at hf
  refine B_blk B (jlkn_ok RL) jcl_SKF [.aload_n 1, .aload_n 0, .iload 4, .iconst 1, .iadd] (by decide +kernel) (ls' := [(0, jR jXS), (1, jR 0), (2, jR 74), (3, jR 87), (4, jI i)]) (st' := [jI (jW (i + 1)), jR jXS, jR 0]) rfl (p1 := 408) rfl ?_
  obtain ⟨g11, hf⟩ := jgd hf
  refine K_xald B hsx g11 (by decide +kernel) ?_
  refine B_blk B (jlkn_ok RL) jcl_SKF [.aload_n 0, .iload 4, .iconst 2, .iadd] (by decide +kernel) (ls' := [(0, jR jXS), (1, jR 0), (2, jR 74), (3, jR 87), (4, jI i)]) (st' := [jI (jW (i + 2)), jR jXS, jI (sx (jW (i + 1))), jR 0]) rfl (p1 := 414) rfl ?_
  obtain ⟨g10, hf⟩ := jgd hf
  refine K_xald B hsx g10 (by decide +kernel) ?_
  refine B_blk B (jlkn_ok RL) jcl_SKF [.aload_n 0, .iload 4, .iconst 3, .iadd] (by decide +kernel) (ls' := [(0, jR jXS), (1, jR 0), (2, jR 74), (3, jR 87), (4, jI i)]) (st' := [jI (jW (i + 3)), jR jXS, jI (sx (jW (i + 2))), jI (sx (jW (i + 1))), jR 0]) rfl (p1 := 420) rfl ?_
  obtain ⟨g9, hf⟩ := jgd hf
  refine K_xald B hsx g9 (by decide +kernel) ?_
  refine B_blk B (jlkn_ok RL) jcl_SKF [.aload_n 0, .iload 4, .iconst 4, .iadd] (by decide +kernel) (ls' := [(0, jR jXS), (1, jR 0), (2, jR 74), (3, jR 87), (4, jI i)]) (st' := [jI (jW (i + 4)), jR jXS, jI (sx (jW (i + 3))), jI (sx (jW (i + 2))), jI (sx (jW (i + 1))), jR 0]) rfl (p1 := 426) rfl ?_
  obtain ⟨g8, hf⟩ := jgd hf
  refine K_xald B hsx g8 (by decide +kernel) ?_
  refine B_blk B (jlkn_ok RL) jcl_SKF [.aload_n 3] (by decide +kernel) (ls' := [(0, jR jXS), (1, jR 0), (2, jR 74), (3, jR 87), (4, jI i)]) (st' := [jR 87, jI (sx (jW (i + 4))), jI (sx (jW (i + 3))), jI (sx (jW (i + 2))), jI (sx (jW (i + 1))), jR 0]) rfl (p1 := 428) rfl ?_
  obtain ⟨r1, h1, hf⟩ := jbd hf
  refine B_callH B (Nat.zero_le _) (μ' := r1.2) (k' := k + 3) (n' := n + 18) ca_L_bay sa_L_bay lk_L_177 (t_L_bay B.tr h1) (Nat.le_refl _) (jRoom (K := 9000) (N := 90000) (by omega) (by omega) rfl) (rest := []) rfl rfl (Nat.le_of_ble_eq_true rfl) (by decide +kernel) rfl rfl (st' := [jI r1.1]) rfl ?_
  refine B_blk B (jlkn_ok RL) jcl_SKF [.istore 5, .aload_n 2, .aload_n 0, .iload 4, .iconst 1, .iadd] (by decide +kernel) (ls' := [(0, jR jXS), (1, jR 0), (2, jR 74), (3, jR 87), (4, jI i), (5, jI r1.1)]) (st' := [jI (jW (i + 1)), jR jXS, jR 74]) rfl (p1 := 439) rfl ?_
  obtain ⟨g7, hf⟩ := jgd hf
  refine K_xald B hsx g7 (by decide +kernel) ?_
  refine B_blk B (jlkn_ok RL) jcl_SKF [.aload_n 0, .iload 4, .iconst 2, .iadd] (by decide +kernel) (ls' := [(0, jR jXS), (1, jR 0), (2, jR 74), (3, jR 87), (4, jI i), (5, jI r1.1)]) (st' := [jI (jW (i + 2)), jR jXS, jI (sx (jW (i + 1))), jR 74]) rfl (p1 := 445) rfl ?_
  obtain ⟨g6, hf⟩ := jgd hf
  refine K_xald B hsx g6 (by decide +kernel) ?_
  refine B_blk B (jlkn_ok RL) jcl_SKF [.aload_n 0, .iload 4, .iconst 3, .iadd] (by decide +kernel) (ls' := [(0, jR jXS), (1, jR 0), (2, jR 74), (3, jR 87), (4, jI i), (5, jI r1.1)]) (st' := [jI (jW (i + 3)), jR jXS, jI (sx (jW (i + 2))), jI (sx (jW (i + 1))), jR 74]) rfl (p1 := 451) rfl ?_
  obtain ⟨g5, hf⟩ := jgd hf
  refine K_xald B hsx g5 (by decide +kernel) ?_
  refine B_blk B (jlkn_ok RL) jcl_SKF [.aload_n 0, .iload 4, .iconst 4, .iadd] (by decide +kernel) (ls' := [(0, jR jXS), (1, jR 0), (2, jR 74), (3, jR 87), (4, jI i), (5, jI r1.1)]) (st' := [jI (jW (i + 4)), jR jXS, jI (sx (jW (i + 3))), jI (sx (jW (i + 2))), jI (sx (jW (i + 1))), jR 74]) rfl (p1 := 457) rfl ?_
  obtain ⟨g4, hf⟩ := jgd hf
  refine K_xald B hsx g4 (by decide +kernel) ?_
  obtain ⟨r2, h2, hf⟩ := jbd hf
  refine B_callV B (Nat.zero_le _) (μ' := r2.2) (k' := k + 3) (n' := n + 18) ca_X10_bay in_X10_bay se_X10_bay lk_L_180 (t_X10_bay B.tr h2) (Nat.le_refl _) (jRoom (K := 9000) (N := 90000) (by omega) (by omega) rfl) rfl rfl (rest := []) rfl rfl (Nat.le_of_ble_eq_true rfl) (by decide +kernel) rfl rfl (st' := [jI r2.1]) rfl ?_
  refine B_blk B (jlkn_ok RL) jcl_SKF [.istore 6, .aload_n 2] (by decide +kernel) (ls' := [(0, jR jXS), (1, jR 0), (2, jR 74), (3, jR 87), (4, jI i), (5, jI r1.1), (6, jI r2.1)]) (st' := [jR 74]) rfl (p1 := 464) rfl ?_
  obtain ⟨r3, h3, hf⟩ := jbd hf
  refine B_callV B (Nat.zero_le _) (μ' := r2.2) (k' := k + 3) (n' := n + 18) ca_X10_thrown in_X10_thrown se_X10_thrown lk_L_174 (t_X10_thrown B.tr h3) (Nat.le_refl _) (jRoom (K := 9000) (N := 90000) (by omega) (by omega) rfl) rfl rfl (rest := []) rfl rfl (Nat.le_of_ble_eq_true rfl) (by decide +kernel) rfl rfl (st' := [jI r3]) rfl ?_
  refine B_blk B (jlkn_ok RL) jcl_SKF [.iload 5] (by decide +kernel) (ls' := [(0, jR jXS), (1, jR 0), (2, jR 74), (3, jR 87), (4, jI i), (5, jI r1.1), (6, jI r2.1)]) (st' := [jI r1.1, jI r3]) rfl (p1 := 469) rfl ?_
  refine J_icmp_eq B.1 (off := 5) (tgt := 474) (by decide +kernel) (by decide) hf (fun hf => ?_) (fun hf => ?_)
  · refine B_blk B (jlkn_ok RL) jcl_SKF [.iload 5] (by decide +kernel) (ls' := [(0, jR jXS), (1, jR 0), (2, jR 74), (3, jR 87), (4, jI i), (5, jI r1.1), (6, jI r2.1)]) (st' := [jI r1.1]) rfl (p1 := 476) rfl ?_
    refine J_if_ne B.1 (off := 15) (tgt := 491) (by decide +kernel) (by decide) hf (fun hf => ?_) (fun hf => ?_)
    · refine B_blk B (jlkn_ok RL) jcl_SKF [.aload_n 3, .iconst 0] (by decide +kernel) (ls' := [(0, jR jXS), (1, jR 0), (2, jR 74), (3, jR 87), (4, jI i), (5, jI r1.1), (6, jI r2.1)]) (st' := [jI 0, jR 87]) rfl (p1 := 481) rfl ?_
      refine K_lald (lenI := 1) B rfl rfl (by decide) (by decide +kernel) ?_
      refine B_blk B (jlkn_ok RL) jcl_SKF [.iload 6, .i2l, .lcmp] (by decide +kernel) (ls' := [(0, jR jXS), (1, jR 0), (2, jR 74), (3, jR 87), (4, jI i), (5, jI r1.1), (6, jI r2.1)]) (st' := [jI (jCm (r2.2 87 0) r2.1)]) rfl (p1 := 486) rfl ?_
      refine J_if_eq B.1 (off := 5) (tgt := 491) (by decide +kernel) (by decide) hf (fun hf => ?_) (fun hf => ?_)
      · refine B_blk B (jlkn_ok RL) jcl_SKF [.goto 3132] (by decide +kernel) (ls' := [(0, jR jXS), (1, jR 0), (2, jR 74), (3, jR 87), (4, jI i), (5, jI r1.1), (6, jI r2.1)]) (st' := []) rfl (p1 := 3623) rfl ?_
        refine J_pick [0, 1, 2, 3, 4] (ls' := [(0, jR jXS), (1, jR 0), (2, jR 74), (3, jR 87), (4, jI i)]) rfl ?_
        cases hf
        exact J_widen (by omega) (by omega) hx
      · refine B_blk B (jlkn_ok RL) jcl_SKF [.iconst 0] (by decide +kernel) (ls' := [(0, jR jXS), (1, jR 0), (2, jR 74), (3, jR 87), (4, jI i), (5, jI r1.1), (6, jI r2.1)]) (st' := [jI 0]) rfl (p1 := 490) rfl ?_
        cases hf
    · refine B_blk B (jlkn_ok RL) jcl_SKF [.goto 3132] (by decide +kernel) (ls' := [(0, jR jXS), (1, jR 0), (2, jR 74), (3, jR 87), (4, jI i), (5, jI r1.1), (6, jI r2.1)]) (st' := []) rfl (p1 := 3623) rfl ?_
      refine J_pick [0, 1, 2, 3, 4] (ls' := [(0, jR jXS), (1, jR 0), (2, jR 74), (3, jR 87), (4, jI i)]) rfl ?_
      cases hf
      exact J_widen (by omega) (by omega) hx
  · refine B_blk B (jlkn_ok RL) jcl_SKF [.iconst 0] (by decide +kernel) (ls' := [(0, jR jXS), (1, jR 0), (2, jR 74), (3, jR 87), (4, jI i), (5, jI r1.1), (6, jI r2.1)]) (st' := [jI 0]) rfl (p1 := 473) rfl ?_
    cases hf

def f_case_4 (sx : Int → Int) (L i : Int) (m : jMu) : Option jMu :=
  (if 0 ≤ jW (i + 1) ∧ jW (i + 1) < L then (if 0 ≤ jW (i + 2) ∧ jW (i + 2) < L then (if 0 ≤ jW (i + 3) ∧ jW (i + 3) < L then (if 0 ≤ jW (i + 4) ∧ jW (i + 4) < L then (if 0 ≤ jW (i + 5) ∧ jW (i + 5) < L then (if 0 ≤ jW (i + 6) ∧ jW (i + 6) < L then (f_L_weather (sx (jW (i + 1))) (sx (jW (i + 2))) (sx (jW (i + 3))) (sx (jW (i + 4))) (sx (jW (i + 5))) (sx (jW (i + 6))) m).bind fun r1 => (if 0 ≤ jW (i + 1) ∧ jW (i + 1) < L then (if 0 ≤ jW (i + 2) ∧ jW (i + 2) < L then (if 0 ≤ jW (i + 3) ∧ jW (i + 3) < L then (if 0 ≤ jW (i + 4) ∧ jW (i + 4) < L then (if 0 ≤ jW (i + 5) ∧ jW (i + 5) < L then (if 0 ≤ jW (i + 6) ∧ jW (i + 6) < L then (f_X10_weather (sx (jW (i + 1))) (sx (jW (i + 2))) (sx (jW (i + 3))) (sx (jW (i + 4))) (sx (jW (i + 5))) (sx (jW (i + 6))) r1.2).bind fun r2 => (f_X10_thrown r2.2).bind fun r3 => (if r3 = r1.1 then (if r1.1 = 0 then (if jCm (r2.2 87 0) r2.1 = 0 then some r2.2 else none) else some r2.2) else none) else none) else none) else none) else none) else none) else none) else none) else none) else none) else none) else none) else none)
theorem t_case_4 {X : jX} {L : Int} {sx : Int → Int} (hsx : jsx (xG X) L sx) (B : jB X cL_law RL 8 0 room_1 (some .boolean)) {k n : Nat} (hk : k ≤ 8900) (hn : n ≤ 89000) {i : Int} {m o : jMu} (hf : f_case_4 sx L i m = some o) (hx : J X SKF o (k + 5) (n + 30) 3623 [(0, jR jXS), (1, jR 0), (2, jR 74), (3, jR 87), (4, jI i)] []) : J X SKF m k n 494 [(0, jR jXS), (1, jR 0), (2, jR 74), (3, jR 87), (4, jI i)] [] := by
  unfold f_case_4 at hf
  refine B_blk B (jlkn_ok RL) jcl_SKF [.aload_n 1, .aload_n 0, .iload 4, .iconst 1, .iadd] (by decide +kernel) (ls' := [(0, jR jXS), (1, jR 0), (2, jR 74), (3, jR 87), (4, jI i)]) (st' := [jI (jW (i + 1)), jR jXS, jR 0]) rfl (p1 := 500) rfl ?_
  obtain ⟨g15, hf⟩ := jgd hf
  refine K_xald B hsx g15 (by decide +kernel) ?_
  refine B_blk B (jlkn_ok RL) jcl_SKF [.aload_n 0, .iload 4, .iconst 2, .iadd] (by decide +kernel) (ls' := [(0, jR jXS), (1, jR 0), (2, jR 74), (3, jR 87), (4, jI i)]) (st' := [jI (jW (i + 2)), jR jXS, jI (sx (jW (i + 1))), jR 0]) rfl (p1 := 506) rfl ?_
  obtain ⟨g14, hf⟩ := jgd hf
  refine K_xald B hsx g14 (by decide +kernel) ?_
  refine B_blk B (jlkn_ok RL) jcl_SKF [.aload_n 0, .iload 4, .iconst 3, .iadd] (by decide +kernel) (ls' := [(0, jR jXS), (1, jR 0), (2, jR 74), (3, jR 87), (4, jI i)]) (st' := [jI (jW (i + 3)), jR jXS, jI (sx (jW (i + 2))), jI (sx (jW (i + 1))), jR 0]) rfl (p1 := 512) rfl ?_
  obtain ⟨g13, hf⟩ := jgd hf
  refine K_xald B hsx g13 (by decide +kernel) ?_
  refine B_blk B (jlkn_ok RL) jcl_SKF [.aload_n 0, .iload 4, .iconst 4, .iadd] (by decide +kernel) (ls' := [(0, jR jXS), (1, jR 0), (2, jR 74), (3, jR 87), (4, jI i)]) (st' := [jI (jW (i + 4)), jR jXS, jI (sx (jW (i + 3))), jI (sx (jW (i + 2))), jI (sx (jW (i + 1))), jR 0]) rfl (p1 := 518) rfl ?_
  obtain ⟨g12, hf⟩ := jgd hf
  refine K_xald B hsx g12 (by decide +kernel) ?_
  refine B_blk B (jlkn_ok RL) jcl_SKF [.aload_n 0, .iload 4, .iconst 5, .iadd] (by decide +kernel) (ls' := [(0, jR jXS), (1, jR 0), (2, jR 74), (3, jR 87), (4, jI i)]) (st' := [jI (jW (i + 5)), jR jXS, jI (sx (jW (i + 4))), jI (sx (jW (i + 3))), jI (sx (jW (i + 2))), jI (sx (jW (i + 1))), jR 0]) rfl (p1 := 524) rfl ?_
  obtain ⟨g11, hf⟩ := jgd hf
  refine K_xald B hsx g11 (by decide +kernel) ?_
  refine B_blk B (jlkn_ok RL) jcl_SKF [.aload_n 0, .iload 4, .bipush 6, .iadd] (by decide +kernel) (ls' := [(0, jR jXS), (1, jR 0), (2, jR 74), (3, jR 87), (4, jI i)]) (st' := [jI (jW (i + 6)), jR jXS, jI (sx (jW (i + 5))), jI (sx (jW (i + 4))), jI (sx (jW (i + 3))), jI (sx (jW (i + 2))), jI (sx (jW (i + 1))), jR 0]) rfl (p1 := 531) rfl ?_
  obtain ⟨g10, hf⟩ := jgd hf
  refine K_xald B hsx g10 (by decide +kernel) ?_
  refine B_blk B (jlkn_ok RL) jcl_SKF [.aload_n 3] (by decide +kernel) (ls' := [(0, jR jXS), (1, jR 0), (2, jR 74), (3, jR 87), (4, jI i)]) (st' := [jR 87, jI (sx (jW (i + 6))), jI (sx (jW (i + 5))), jI (sx (jW (i + 4))), jI (sx (jW (i + 3))), jI (sx (jW (i + 2))), jI (sx (jW (i + 1))), jR 0]) rfl (p1 := 533) rfl ?_
  obtain ⟨r1, h1, hf⟩ := jbd hf
  refine B_callH B (Nat.zero_le _) (μ' := r1.2) (k' := k + 5) (n' := n + 30) ca_L_weather sa_L_weather lk_L_181 (t_L_weather B.tr h1) (Nat.le_refl _) (jRoom (K := 9000) (N := 90000) (by omega) (by omega) rfl) (rest := []) rfl rfl (Nat.le_of_ble_eq_true rfl) (by decide +kernel) rfl rfl (st' := [jI r1.1]) rfl ?_
  refine B_blk B (jlkn_ok RL) jcl_SKF [.istore 5, .aload_n 2, .aload_n 0, .iload 4, .iconst 1, .iadd] (by decide +kernel) (ls' := [(0, jR jXS), (1, jR 0), (2, jR 74), (3, jR 87), (4, jI i), (5, jI r1.1)]) (st' := [jI (jW (i + 1)), jR jXS, jR 74]) rfl (p1 := 544) rfl ?_
  obtain ⟨g9, hf⟩ := jgd hf
  refine K_xald B hsx g9 (by decide +kernel) ?_
  refine B_blk B (jlkn_ok RL) jcl_SKF [.aload_n 0, .iload 4, .iconst 2, .iadd] (by decide +kernel) (ls' := [(0, jR jXS), (1, jR 0), (2, jR 74), (3, jR 87), (4, jI i), (5, jI r1.1)]) (st' := [jI (jW (i + 2)), jR jXS, jI (sx (jW (i + 1))), jR 74]) rfl (p1 := 550) rfl ?_
  obtain ⟨g8, hf⟩ := jgd hf
  refine K_xald B hsx g8 (by decide +kernel) ?_
  refine B_blk B (jlkn_ok RL) jcl_SKF [.aload_n 0, .iload 4, .iconst 3, .iadd] (by decide +kernel) (ls' := [(0, jR jXS), (1, jR 0), (2, jR 74), (3, jR 87), (4, jI i), (5, jI r1.1)]) (st' := [jI (jW (i + 3)), jR jXS, jI (sx (jW (i + 2))), jI (sx (jW (i + 1))), jR 74]) rfl (p1 := 556) rfl ?_
  obtain ⟨g7, hf⟩ := jgd hf
  refine K_xald B hsx g7 (by decide +kernel) ?_
  refine B_blk B (jlkn_ok RL) jcl_SKF [.aload_n 0, .iload 4, .iconst 4, .iadd] (by decide +kernel) (ls' := [(0, jR jXS), (1, jR 0), (2, jR 74), (3, jR 87), (4, jI i), (5, jI r1.1)]) (st' := [jI (jW (i + 4)), jR jXS, jI (sx (jW (i + 3))), jI (sx (jW (i + 2))), jI (sx (jW (i + 1))), jR 74]) rfl (p1 := 562) rfl ?_
  obtain ⟨g6, hf⟩ := jgd hf
  refine K_xald B hsx g6 (by decide +kernel) ?_
  refine B_blk B (jlkn_ok RL) jcl_SKF [.aload_n 0, .iload 4, .iconst 5, .iadd] (by decide +kernel) (ls' := [(0, jR jXS), (1, jR 0), (2, jR 74), (3, jR 87), (4, jI i), (5, jI r1.1)]) (st' := [jI (jW (i + 5)), jR jXS, jI (sx (jW (i + 4))), jI (sx (jW (i + 3))), jI (sx (jW (i + 2))), jI (sx (jW (i + 1))), jR 74]) rfl (p1 := 568) rfl ?_
  obtain ⟨g5, hf⟩ := jgd hf
  refine K_xald B hsx g5 (by decide +kernel) ?_
  refine B_blk B (jlkn_ok RL) jcl_SKF [.aload_n 0, .iload 4, .bipush 6, .iadd] (by decide +kernel) (ls' := [(0, jR jXS), (1, jR 0), (2, jR 74), (3, jR 87), (4, jI i), (5, jI r1.1)]) (st' := [jI (jW (i + 6)), jR jXS, jI (sx (jW (i + 5))), jI (sx (jW (i + 4))), jI (sx (jW (i + 3))), jI (sx (jW (i + 2))), jI (sx (jW (i + 1))), jR 74]) rfl (p1 := 575) rfl ?_
  obtain ⟨g4, hf⟩ := jgd hf
  refine K_xald B hsx g4 (by decide +kernel) ?_
  obtain ⟨r2, h2, hf⟩ := jbd hf
  refine B_callV B (Nat.zero_le _) (μ' := r2.2) (k' := k + 5) (n' := n + 30) ca_X10_weather in_X10_weather se_X10_weather lk_L_184 (t_X10_weather B.tr h2) (Nat.le_refl _) (jRoom (K := 9000) (N := 90000) (by omega) (by omega) rfl) rfl rfl (rest := []) rfl rfl (Nat.le_of_ble_eq_true rfl) (by decide +kernel) rfl rfl (st' := [jI r2.1]) rfl ?_
  refine B_blk B (jlkn_ok RL) jcl_SKF [.istore 6, .aload_n 2] (by decide +kernel) (ls' := [(0, jR jXS), (1, jR 0), (2, jR 74), (3, jR 87), (4, jI i), (5, jI r1.1), (6, jI r2.1)]) (st' := [jR 74]) rfl (p1 := 582) rfl ?_
  obtain ⟨r3, h3, hf⟩ := jbd hf
  refine B_callV B (Nat.zero_le _) (μ' := r2.2) (k' := k + 5) (n' := n + 30) ca_X10_thrown in_X10_thrown se_X10_thrown lk_L_174 (t_X10_thrown B.tr h3) (Nat.le_refl _) (jRoom (K := 9000) (N := 90000) (by omega) (by omega) rfl) rfl rfl (rest := []) rfl rfl (Nat.le_of_ble_eq_true rfl) (by decide +kernel) rfl rfl (st' := [jI r3]) rfl ?_
  refine B_blk B (jlkn_ok RL) jcl_SKF [.iload 5] (by decide +kernel) (ls' := [(0, jR jXS), (1, jR 0), (2, jR 74), (3, jR 87), (4, jI i), (5, jI r1.1), (6, jI r2.1)]) (st' := [jI r1.1, jI r3]) rfl (p1 := 587) rfl ?_
  refine J_icmp_eq B.1 (off := 5) (tgt := 592) (by decide +kernel) (by decide) hf (fun hf => ?_) (fun hf => ?_)
  · refine B_blk B (jlkn_ok RL) jcl_SKF [.iload 5] (by decide +kernel) (ls' := [(0, jR jXS), (1, jR 0), (2, jR 74), (3, jR 87), (4, jI i), (5, jI r1.1), (6, jI r2.1)]) (st' := [jI r1.1]) rfl (p1 := 594) rfl ?_
    refine J_if_ne B.1 (off := 15) (tgt := 609) (by decide +kernel) (by decide) hf (fun hf => ?_) (fun hf => ?_)
    · refine B_blk B (jlkn_ok RL) jcl_SKF [.aload_n 3, .iconst 0] (by decide +kernel) (ls' := [(0, jR jXS), (1, jR 0), (2, jR 74), (3, jR 87), (4, jI i), (5, jI r1.1), (6, jI r2.1)]) (st' := [jI 0, jR 87]) rfl (p1 := 599) rfl ?_
      refine K_lald (lenI := 1) B rfl rfl (by decide) (by decide +kernel) ?_
      refine B_blk B (jlkn_ok RL) jcl_SKF [.iload 6, .i2l, .lcmp] (by decide +kernel) (ls' := [(0, jR jXS), (1, jR 0), (2, jR 74), (3, jR 87), (4, jI i), (5, jI r1.1), (6, jI r2.1)]) (st' := [jI (jCm (r2.2 87 0) r2.1)]) rfl (p1 := 604) rfl ?_
      refine J_if_eq B.1 (off := 5) (tgt := 609) (by decide +kernel) (by decide) hf (fun hf => ?_) (fun hf => ?_)
      · refine B_blk B (jlkn_ok RL) jcl_SKF [.goto 3014] (by decide +kernel) (ls' := [(0, jR jXS), (1, jR 0), (2, jR 74), (3, jR 87), (4, jI i), (5, jI r1.1), (6, jI r2.1)]) (st' := []) rfl (p1 := 3623) rfl ?_
        refine J_pick [0, 1, 2, 3, 4] (ls' := [(0, jR jXS), (1, jR 0), (2, jR 74), (3, jR 87), (4, jI i)]) rfl ?_
        cases hf
        exact J_widen (by omega) (by omega) hx
      · refine B_blk B (jlkn_ok RL) jcl_SKF [.iconst 0] (by decide +kernel) (ls' := [(0, jR jXS), (1, jR 0), (2, jR 74), (3, jR 87), (4, jI i), (5, jI r1.1), (6, jI r2.1)]) (st' := [jI 0]) rfl (p1 := 608) rfl ?_
        cases hf
    · refine B_blk B (jlkn_ok RL) jcl_SKF [.goto 3014] (by decide +kernel) (ls' := [(0, jR jXS), (1, jR 0), (2, jR 74), (3, jR 87), (4, jI i), (5, jI r1.1), (6, jI r2.1)]) (st' := []) rfl (p1 := 3623) rfl ?_
      refine J_pick [0, 1, 2, 3, 4] (ls' := [(0, jR jXS), (1, jR 0), (2, jR 74), (3, jR 87), (4, jI i)]) rfl ?_
      cases hf
      exact J_widen (by omega) (by omega) hx
  · refine B_blk B (jlkn_ok RL) jcl_SKF [.iconst 0] (by decide +kernel) (ls' := [(0, jR jXS), (1, jR 0), (2, jR 74), (3, jR 87), (4, jI i), (5, jI r1.1), (6, jI r2.1)]) (st' := [jI 0]) rfl (p1 := 591) rfl ?_
    cases hf

def f_case_5 (sx : Int → Int) (L i : Int) (m : jMu) : Option jMu :=
  (if 0 ≤ jW (i + 1) ∧ jW (i + 1) < L then (f_L_trains (sx (jW (i + 1))) m).bind fun r1 => (if 0 ≤ jW (i + 1) ∧ jW (i + 1) < L then (f_X10_trains (sx (jW (i + 1))) r1.2).bind fun r2 => (f_X10_thrown r2).bind fun r3 => (if r3 = r1.1 then some r2 else none) else none) else none)
theorem t_case_5 {X : jX} {L : Int} {sx : Int → Int} (hsx : jsx (xG X) L sx) (B : jB X cL_law RL 8 0 room_1 (some .boolean)) {k n : Nat} (hk : k ≤ 8900) (hn : n ≤ 89000) {i : Int} {m o : jMu} (hf : f_case_5 sx L i m = some o) (hx : J X SKF o (k + 5) (n + 30) 3623 [(0, jR jXS), (1, jR 0), (2, jR 74), (3, jR 87), (4, jI i)] []) : J X SKF m k n 612 [(0, jR jXS), (1, jR 0), (2, jR 74), (3, jR 87), (4, jI i)] [] := by
  unfold f_case_5 at hf
  refine B_blk B (jlkn_ok RL) jcl_SKF [.aload_n 1, .aload_n 0, .iload 4, .iconst 1, .iadd] (by decide +kernel) (ls' := [(0, jR jXS), (1, jR 0), (2, jR 74), (3, jR 87), (4, jI i)]) (st' := [jI (jW (i + 1)), jR jXS, jR 0]) rfl (p1 := 618) rfl ?_
  obtain ⟨g5, hf⟩ := jgd hf
  refine K_xald B hsx g5 (by decide +kernel) ?_
  obtain ⟨r1, h1, hf⟩ := jbd hf
  refine B_callH B (Nat.zero_le _) (μ' := r1.2) (k' := k + 1) (n' := n + 6) ca_L_trains sa_L_trains lk_L_185 (t_L_trains B.tr h1) (Nat.le_refl _) (jRoom (K := 9000) (N := 90000) (by omega) (by omega) rfl) (rest := []) rfl rfl (Nat.le_of_ble_eq_true rfl) (by decide +kernel) rfl rfl (st' := [jI r1.1]) rfl ?_
  refine B_blk B (jlkn_ok RL) jcl_SKF [.istore 5, .aload_n 2, .aload_n 0, .iload 4, .iconst 1, .iadd] (by decide +kernel) (ls' := [(0, jR jXS), (1, jR 0), (2, jR 74), (3, jR 87), (4, jI i), (5, jI r1.1)]) (st' := [jI (jW (i + 1)), jR jXS, jR 74]) rfl (p1 := 630) rfl ?_
  obtain ⟨g4, hf⟩ := jgd hf
  refine K_xald B hsx g4 (by decide +kernel) ?_
  obtain ⟨r2, h2, hf⟩ := jbd hf
  refine B_callV B (Nat.zero_le _) (μ' := r2) (k' := k + 1) (n' := n + 6) ca_X10_trains in_X10_trains se_X10_trains lk_L_188 (t_X10_trains B.tr h2) (Nat.le_refl _) (jRoom (K := 9000) (N := 90000) (by omega) (by omega) rfl) rfl rfl (rest := []) rfl rfl (Nat.le_of_ble_eq_true rfl) (by decide +kernel) rfl rfl (st' := []) rfl ?_
  refine B_blk B (jlkn_ok RL) jcl_SKF [.aload_n 2] (by decide +kernel) (ls' := [(0, jR jXS), (1, jR 0), (2, jR 74), (3, jR 87), (4, jI i), (5, jI r1.1)]) (st' := [jR 74]) rfl (p1 := 635) rfl ?_
  obtain ⟨r3, h3, hf⟩ := jbd hf
  refine B_callV B (Nat.zero_le _) (μ' := r2) (k' := k + 1) (n' := n + 6) ca_X10_thrown in_X10_thrown se_X10_thrown lk_L_174 (t_X10_thrown B.tr h3) (Nat.le_refl _) (jRoom (K := 9000) (N := 90000) (by omega) (by omega) rfl) rfl rfl (rest := []) rfl rfl (Nat.le_of_ble_eq_true rfl) (by decide +kernel) rfl rfl (st' := [jI r3]) rfl ?_
  refine B_blk B (jlkn_ok RL) jcl_SKF [.iload 5] (by decide +kernel) (ls' := [(0, jR jXS), (1, jR 0), (2, jR 74), (3, jR 87), (4, jI i), (5, jI r1.1)]) (st' := [jI r1.1, jI r3]) rfl (p1 := 640) rfl ?_
  refine J_icmp_eq B.1 (off := 5) (tgt := 645) (by decide +kernel) (by decide) hf (fun hf => ?_) (fun hf => ?_)
  · refine B_blk B (jlkn_ok RL) jcl_SKF [.goto 2978] (by decide +kernel) (ls' := [(0, jR jXS), (1, jR 0), (2, jR 74), (3, jR 87), (4, jI i), (5, jI r1.1)]) (st' := []) rfl (p1 := 3623) rfl ?_
    refine J_pick [0, 1, 2, 3, 4] (ls' := [(0, jR jXS), (1, jR 0), (2, jR 74), (3, jR 87), (4, jI i)]) rfl ?_
    cases hf
    exact J_widen (by omega) (by omega) hx
  · refine B_blk B (jlkn_ok RL) jcl_SKF [.iconst 0] (by decide +kernel) (ls' := [(0, jR jXS), (1, jR 0), (2, jR 74), (3, jR 87), (4, jI i), (5, jI r1.1)]) (st' := [jI 0]) rfl (p1 := 644) rfl ?_
    cases hf

def f_case_6 (sx : Int → Int) (L i : Int) (m : jMu) : Option jMu :=
  (if 0 ≤ jW (i + 1) ∧ jW (i + 1) < L then (if sx (jW (i + 1)) = 0 then (if 0 ≤ jW (i + 2) ∧ jW (i + 2) < L then (if 0 ≤ jW (i + 3) ∧ jW (i + 3) < L then (f_L_span 0 (sx (jW (i + 2))) (sx (jW (i + 3))) m).bind fun r1 => (if 0 ≤ jW (i + 1) ∧ jW (i + 1) < L then (if sx (jW (i + 1)) = 0 then (if 0 ≤ jW (i + 2) ∧ jW (i + 2) < L then (if 0 ≤ jW (i + 3) ∧ jW (i + 3) < L then (f_X10_span 0 (sx (jW (i + 2))) (sx (jW (i + 3))) r1.2).bind fun r2 => (f_X10_thrown r2.2).bind fun r3 => (if r3 = r1.1 then (if r1.1 = 0 then (if jCm (r2.2 87 0) r2.1 = 0 then some r2.2 else none) else some r2.2) else none) else none) else none) else (if 0 ≤ jW (i + 2) ∧ jW (i + 2) < L then (if 0 ≤ jW (i + 3) ∧ jW (i + 3) < L then (f_X10_span 1 (sx (jW (i + 2))) (sx (jW (i + 3))) r1.2).bind fun r6 => (f_X10_thrown r6.2).bind fun r7 => (if r7 = r1.1 then (if r1.1 = 0 then (if jCm (r6.2 87 0) r6.1 = 0 then some r6.2 else none) else some r6.2) else none) else none) else none)) else none) else none) else none) else (if 0 ≤ jW (i + 2) ∧ jW (i + 2) < L then (if 0 ≤ jW (i + 3) ∧ jW (i + 3) < L then (f_L_span 1 (sx (jW (i + 2))) (sx (jW (i + 3))) m).bind fun r13 => (if 0 ≤ jW (i + 1) ∧ jW (i + 1) < L then (if sx (jW (i + 1)) = 0 then (if 0 ≤ jW (i + 2) ∧ jW (i + 2) < L then (if 0 ≤ jW (i + 3) ∧ jW (i + 3) < L then (f_X10_span 0 (sx (jW (i + 2))) (sx (jW (i + 3))) r13.2).bind fun r14 => (f_X10_thrown r14.2).bind fun r15 => (if r15 = r13.1 then (if r13.1 = 0 then (if jCm (r14.2 87 0) r14.1 = 0 then some r14.2 else none) else some r14.2) else none) else none) else none) else (if 0 ≤ jW (i + 2) ∧ jW (i + 2) < L then (if 0 ≤ jW (i + 3) ∧ jW (i + 3) < L then (f_X10_span 1 (sx (jW (i + 2))) (sx (jW (i + 3))) r13.2).bind fun r18 => (f_X10_thrown r18.2).bind fun r19 => (if r19 = r13.1 then (if r13.1 = 0 then (if jCm (r18.2 87 0) r18.1 = 0 then some r18.2 else none) else some r18.2) else none) else none) else none)) else none) else none) else none)) else none)
theorem t_case_6 {X : jX} {L : Int} {sx : Int → Int} (hsx : jsx (xG X) L sx) (B : jB X cL_law RL 8 0 room_1 (some .boolean)) {k n : Nat} (hk : k ≤ 8900) (hn : n ≤ 89000) {i : Int} {m o : jMu} (hf : f_case_6 sx L i m = some o) (hx : J X SKF o (k + 5) (n + 30) 3623 [(0, jR jXS), (1, jR 0), (2, jR 74), (3, jR 87), (4, jI i)] []) : J X SKF m k n 648 [(0, jR jXS), (1, jR 0), (2, jR 74), (3, jR 87), (4, jI i)] [] := by
  unfold f_case_6 at hf
  refine B_blk B (jlkn_ok RL) jcl_SKF [.aload_n 1, .aload_n 0, .iload 4, .iconst 1, .iadd] (by decide +kernel) (ls' := [(0, jR jXS), (1, jR 0), (2, jR 74), (3, jR 87), (4, jI i)]) (st' := [jI (jW (i + 1)), jR jXS, jR 0]) rfl (p1 := 654) rfl ?_
  obtain ⟨g25, hf⟩ := jgd hf
  refine K_xald B hsx g25 (by decide +kernel) ?_
  refine J_if_eq B.1 (off := 7) (tgt := 662) (by decide +kernel) (by decide) hf (fun hf => ?_) (fun hf => ?_)
  · refine B_blk B (jlkn_ok RL) jcl_SKF [.iconst 0, .aload_n 0, .iload 4, .iconst 2, .iadd] (by decide +kernel) (ls' := [(0, jR jXS), (1, jR 0), (2, jR 74), (3, jR 87), (4, jI i)]) (st' := [jI (jW (i + 2)), jR jXS, jI 0, jR 0]) rfl (p1 := 668) rfl ?_
    obtain ⟨g12, hf⟩ := jgd hf
    refine K_xald B hsx g12 (by decide +kernel) ?_
    refine B_blk B (jlkn_ok RL) jcl_SKF [.aload_n 0, .iload 4, .iconst 3, .iadd] (by decide +kernel) (ls' := [(0, jR jXS), (1, jR 0), (2, jR 74), (3, jR 87), (4, jI i)]) (st' := [jI (jW (i + 3)), jR jXS, jI (sx (jW (i + 2))), jI 0, jR 0]) rfl (p1 := 674) rfl ?_
    obtain ⟨g11, hf⟩ := jgd hf
    refine K_xald B hsx g11 (by decide +kernel) ?_
    refine B_blk B (jlkn_ok RL) jcl_SKF [.aload_n 3] (by decide +kernel) (ls' := [(0, jR jXS), (1, jR 0), (2, jR 74), (3, jR 87), (4, jI i)]) (st' := [jR 87, jI (sx (jW (i + 3))), jI (sx (jW (i + 2))), jI 0, jR 0]) rfl (p1 := 676) rfl ?_
    obtain ⟨r1, h1, hf⟩ := jbd hf
    refine B_callH B (Nat.zero_le _) (μ' := r1.2) (k' := k + 3) (n' := n + 18) ca_L_span sa_L_span lk_L_189 (t_L_span B.tr h1) (Nat.le_refl _) (jRoom (K := 9000) (N := 90000) (by omega) (by omega) rfl) (rest := []) rfl rfl (Nat.le_of_ble_eq_true rfl) (by decide +kernel) rfl rfl (st' := [jI r1.1]) rfl ?_
    refine B_blk B (jlkn_ok RL) jcl_SKF [.istore 5, .aload_n 2, .aload_n 0, .iload 4, .iconst 1, .iadd] (by decide +kernel) (ls' := [(0, jR jXS), (1, jR 0), (2, jR 74), (3, jR 87), (4, jI i), (5, jI r1.1)]) (st' := [jI (jW (i + 1)), jR jXS, jR 74]) rfl (p1 := 687) rfl ?_
    obtain ⟨g10, hf⟩ := jgd hf
    refine K_xald B hsx g10 (by decide +kernel) ?_
    refine J_if_eq B.1 (off := 7) (tgt := 695) (by decide +kernel) (by decide) hf (fun hf => ?_) (fun hf => ?_)
    · refine B_blk B (jlkn_ok RL) jcl_SKF [.iconst 0, .aload_n 0, .iload 4, .iconst 2, .iadd] (by decide +kernel) (ls' := [(0, jR jXS), (1, jR 0), (2, jR 74), (3, jR 87), (4, jI i), (5, jI r1.1)]) (st' := [jI (jW (i + 2)), jR jXS, jI 0, jR 74]) rfl (p1 := 701) rfl ?_
      obtain ⟨g5, hf⟩ := jgd hf
      refine K_xald B hsx g5 (by decide +kernel) ?_
      refine B_blk B (jlkn_ok RL) jcl_SKF [.aload_n 0, .iload 4, .iconst 3, .iadd] (by decide +kernel) (ls' := [(0, jR jXS), (1, jR 0), (2, jR 74), (3, jR 87), (4, jI i), (5, jI r1.1)]) (st' := [jI (jW (i + 3)), jR jXS, jI (sx (jW (i + 2))), jI 0, jR 74]) rfl (p1 := 707) rfl ?_
      obtain ⟨g4, hf⟩ := jgd hf
      refine K_xald B hsx g4 (by decide +kernel) ?_
      obtain ⟨r2, h2, hf⟩ := jbd hf
      refine B_callV B (Nat.zero_le _) (μ' := r2.2) (k' := k + 3) (n' := n + 18) ca_X10_span in_X10_span se_X10_span lk_L_192 (t_X10_span B.tr h2) (Nat.le_refl _) (jRoom (K := 9000) (N := 90000) (by omega) (by omega) rfl) rfl rfl (rest := []) rfl rfl (Nat.le_of_ble_eq_true rfl) (by decide +kernel) rfl rfl (st' := [jI r2.1]) rfl ?_
      refine B_blk B (jlkn_ok RL) jcl_SKF [.istore 6, .aload_n 2] (by decide +kernel) (ls' := [(0, jR jXS), (1, jR 0), (2, jR 74), (3, jR 87), (4, jI i), (5, jI r1.1), (6, jI r2.1)]) (st' := [jR 74]) rfl (p1 := 714) rfl ?_
      obtain ⟨r3, h3, hf⟩ := jbd hf
      refine B_callV B (Nat.zero_le _) (μ' := r2.2) (k' := k + 3) (n' := n + 18) ca_X10_thrown in_X10_thrown se_X10_thrown lk_L_174 (t_X10_thrown B.tr h3) (Nat.le_refl _) (jRoom (K := 9000) (N := 90000) (by omega) (by omega) rfl) rfl rfl (rest := []) rfl rfl (Nat.le_of_ble_eq_true rfl) (by decide +kernel) rfl rfl (st' := [jI r3]) rfl ?_
      refine B_blk B (jlkn_ok RL) jcl_SKF [.iload 5] (by decide +kernel) (ls' := [(0, jR jXS), (1, jR 0), (2, jR 74), (3, jR 87), (4, jI i), (5, jI r1.1), (6, jI r2.1)]) (st' := [jI r1.1, jI r3]) rfl (p1 := 719) rfl ?_
      refine J_icmp_eq B.1 (off := 5) (tgt := 724) (by decide +kernel) (by decide) hf (fun hf => ?_) (fun hf => ?_)
      · refine B_blk B (jlkn_ok RL) jcl_SKF [.iload 5] (by decide +kernel) (ls' := [(0, jR jXS), (1, jR 0), (2, jR 74), (3, jR 87), (4, jI i), (5, jI r1.1), (6, jI r2.1)]) (st' := [jI r1.1]) rfl (p1 := 726) rfl ?_
        refine J_if_ne B.1 (off := 15) (tgt := 741) (by decide +kernel) (by decide) hf (fun hf => ?_) (fun hf => ?_)
        · refine B_blk B (jlkn_ok RL) jcl_SKF [.aload_n 3, .iconst 0] (by decide +kernel) (ls' := [(0, jR jXS), (1, jR 0), (2, jR 74), (3, jR 87), (4, jI i), (5, jI r1.1), (6, jI r2.1)]) (st' := [jI 0, jR 87]) rfl (p1 := 731) rfl ?_
          refine K_lald (lenI := 1) B rfl rfl (by decide) (by decide +kernel) ?_
          refine B_blk B (jlkn_ok RL) jcl_SKF [.iload 6, .i2l, .lcmp] (by decide +kernel) (ls' := [(0, jR jXS), (1, jR 0), (2, jR 74), (3, jR 87), (4, jI i), (5, jI r1.1), (6, jI r2.1)]) (st' := [jI (jCm (r2.2 87 0) r2.1)]) rfl (p1 := 736) rfl ?_
          refine J_if_eq B.1 (off := 5) (tgt := 741) (by decide +kernel) (by decide) hf (fun hf => ?_) (fun hf => ?_)
          · refine B_blk B (jlkn_ok RL) jcl_SKF [.goto 2882] (by decide +kernel) (ls' := [(0, jR jXS), (1, jR 0), (2, jR 74), (3, jR 87), (4, jI i), (5, jI r1.1), (6, jI r2.1)]) (st' := []) rfl (p1 := 3623) rfl ?_
            refine J_pick [0, 1, 2, 3, 4] (ls' := [(0, jR jXS), (1, jR 0), (2, jR 74), (3, jR 87), (4, jI i)]) rfl ?_
            cases hf
            exact J_widen (by omega) (by omega) hx
          · refine B_blk B (jlkn_ok RL) jcl_SKF [.iconst 0] (by decide +kernel) (ls' := [(0, jR jXS), (1, jR 0), (2, jR 74), (3, jR 87), (4, jI i), (5, jI r1.1), (6, jI r2.1)]) (st' := [jI 0]) rfl (p1 := 740) rfl ?_
            cases hf
        · refine B_blk B (jlkn_ok RL) jcl_SKF [.goto 2882] (by decide +kernel) (ls' := [(0, jR jXS), (1, jR 0), (2, jR 74), (3, jR 87), (4, jI i), (5, jI r1.1), (6, jI r2.1)]) (st' := []) rfl (p1 := 3623) rfl ?_
          refine J_pick [0, 1, 2, 3, 4] (ls' := [(0, jR jXS), (1, jR 0), (2, jR 74), (3, jR 87), (4, jI i)]) rfl ?_
          cases hf
          exact J_widen (by omega) (by omega) hx
      · refine B_blk B (jlkn_ok RL) jcl_SKF [.iconst 0] (by decide +kernel) (ls' := [(0, jR jXS), (1, jR 0), (2, jR 74), (3, jR 87), (4, jI i), (5, jI r1.1), (6, jI r2.1)]) (st' := [jI 0]) rfl (p1 := 723) rfl ?_
        cases hf
    · refine B_blk B (jlkn_ok RL) jcl_SKF [.iconst 1, .goto 4, .aload_n 0, .iload 4, .iconst 2, .iadd] (by decide +kernel) (ls' := [(0, jR jXS), (1, jR 0), (2, jR 74), (3, jR 87), (4, jI i), (5, jI r1.1)]) (st' := [jI (jW (i + 2)), jR jXS, jI 1, jR 74]) rfl (p1 := 701) rfl ?_
      obtain ⟨g9, hf⟩ := jgd hf
      refine K_xald B hsx g9 (by decide +kernel) ?_
      refine B_blk B (jlkn_ok RL) jcl_SKF [.aload_n 0, .iload 4, .iconst 3, .iadd] (by decide +kernel) (ls' := [(0, jR jXS), (1, jR 0), (2, jR 74), (3, jR 87), (4, jI i), (5, jI r1.1)]) (st' := [jI (jW (i + 3)), jR jXS, jI (sx (jW (i + 2))), jI 1, jR 74]) rfl (p1 := 707) rfl ?_
      obtain ⟨g8, hf⟩ := jgd hf
      refine K_xald B hsx g8 (by decide +kernel) ?_
      obtain ⟨r6, h6, hf⟩ := jbd hf
      refine B_callV B (Nat.zero_le _) (μ' := r6.2) (k' := k + 3) (n' := n + 18) ca_X10_span in_X10_span se_X10_span lk_L_192 (t_X10_span B.tr h6) (Nat.le_refl _) (jRoom (K := 9000) (N := 90000) (by omega) (by omega) rfl) rfl rfl (rest := []) rfl rfl (Nat.le_of_ble_eq_true rfl) (by decide +kernel) rfl rfl (st' := [jI r6.1]) rfl ?_
      refine B_blk B (jlkn_ok RL) jcl_SKF [.istore 6, .aload_n 2] (by decide +kernel) (ls' := [(0, jR jXS), (1, jR 0), (2, jR 74), (3, jR 87), (4, jI i), (5, jI r1.1), (6, jI r6.1)]) (st' := [jR 74]) rfl (p1 := 714) rfl ?_
      obtain ⟨r7, h7, hf⟩ := jbd hf
      refine B_callV B (Nat.zero_le _) (μ' := r6.2) (k' := k + 3) (n' := n + 18) ca_X10_thrown in_X10_thrown se_X10_thrown lk_L_174 (t_X10_thrown B.tr h7) (Nat.le_refl _) (jRoom (K := 9000) (N := 90000) (by omega) (by omega) rfl) rfl rfl (rest := []) rfl rfl (Nat.le_of_ble_eq_true rfl) (by decide +kernel) rfl rfl (st' := [jI r7]) rfl ?_
      refine B_blk B (jlkn_ok RL) jcl_SKF [.iload 5] (by decide +kernel) (ls' := [(0, jR jXS), (1, jR 0), (2, jR 74), (3, jR 87), (4, jI i), (5, jI r1.1), (6, jI r6.1)]) (st' := [jI r1.1, jI r7]) rfl (p1 := 719) rfl ?_
      refine J_icmp_eq B.1 (off := 5) (tgt := 724) (by decide +kernel) (by decide) hf (fun hf => ?_) (fun hf => ?_)
      · refine B_blk B (jlkn_ok RL) jcl_SKF [.iload 5] (by decide +kernel) (ls' := [(0, jR jXS), (1, jR 0), (2, jR 74), (3, jR 87), (4, jI i), (5, jI r1.1), (6, jI r6.1)]) (st' := [jI r1.1]) rfl (p1 := 726) rfl ?_
        refine J_if_ne B.1 (off := 15) (tgt := 741) (by decide +kernel) (by decide) hf (fun hf => ?_) (fun hf => ?_)
        · refine B_blk B (jlkn_ok RL) jcl_SKF [.aload_n 3, .iconst 0] (by decide +kernel) (ls' := [(0, jR jXS), (1, jR 0), (2, jR 74), (3, jR 87), (4, jI i), (5, jI r1.1), (6, jI r6.1)]) (st' := [jI 0, jR 87]) rfl (p1 := 731) rfl ?_
          refine K_lald (lenI := 1) B rfl rfl (by decide) (by decide +kernel) ?_
          refine B_blk B (jlkn_ok RL) jcl_SKF [.iload 6, .i2l, .lcmp] (by decide +kernel) (ls' := [(0, jR jXS), (1, jR 0), (2, jR 74), (3, jR 87), (4, jI i), (5, jI r1.1), (6, jI r6.1)]) (st' := [jI (jCm (r6.2 87 0) r6.1)]) rfl (p1 := 736) rfl ?_
          refine J_if_eq B.1 (off := 5) (tgt := 741) (by decide +kernel) (by decide) hf (fun hf => ?_) (fun hf => ?_)
          · refine B_blk B (jlkn_ok RL) jcl_SKF [.goto 2882] (by decide +kernel) (ls' := [(0, jR jXS), (1, jR 0), (2, jR 74), (3, jR 87), (4, jI i), (5, jI r1.1), (6, jI r6.1)]) (st' := []) rfl (p1 := 3623) rfl ?_
            refine J_pick [0, 1, 2, 3, 4] (ls' := [(0, jR jXS), (1, jR 0), (2, jR 74), (3, jR 87), (4, jI i)]) rfl ?_
            cases hf
            exact J_widen (by omega) (by omega) hx
          · refine B_blk B (jlkn_ok RL) jcl_SKF [.iconst 0] (by decide +kernel) (ls' := [(0, jR jXS), (1, jR 0), (2, jR 74), (3, jR 87), (4, jI i), (5, jI r1.1), (6, jI r6.1)]) (st' := [jI 0]) rfl (p1 := 740) rfl ?_
            cases hf
        · refine B_blk B (jlkn_ok RL) jcl_SKF [.goto 2882] (by decide +kernel) (ls' := [(0, jR jXS), (1, jR 0), (2, jR 74), (3, jR 87), (4, jI i), (5, jI r1.1), (6, jI r6.1)]) (st' := []) rfl (p1 := 3623) rfl ?_
          refine J_pick [0, 1, 2, 3, 4] (ls' := [(0, jR jXS), (1, jR 0), (2, jR 74), (3, jR 87), (4, jI i)]) rfl ?_
          cases hf
          exact J_widen (by omega) (by omega) hx
      · refine B_blk B (jlkn_ok RL) jcl_SKF [.iconst 0] (by decide +kernel) (ls' := [(0, jR jXS), (1, jR 0), (2, jR 74), (3, jR 87), (4, jI i), (5, jI r1.1), (6, jI r6.1)]) (st' := [jI 0]) rfl (p1 := 723) rfl ?_
        cases hf
  · refine B_blk B (jlkn_ok RL) jcl_SKF [.iconst 1, .goto 4, .aload_n 0, .iload 4, .iconst 2, .iadd] (by decide +kernel) (ls' := [(0, jR jXS), (1, jR 0), (2, jR 74), (3, jR 87), (4, jI i)]) (st' := [jI (jW (i + 2)), jR jXS, jI 1, jR 0]) rfl (p1 := 668) rfl ?_
    obtain ⟨g24, hf⟩ := jgd hf
    refine K_xald B hsx g24 (by decide +kernel) ?_
    refine B_blk B (jlkn_ok RL) jcl_SKF [.aload_n 0, .iload 4, .iconst 3, .iadd] (by decide +kernel) (ls' := [(0, jR jXS), (1, jR 0), (2, jR 74), (3, jR 87), (4, jI i)]) (st' := [jI (jW (i + 3)), jR jXS, jI (sx (jW (i + 2))), jI 1, jR 0]) rfl (p1 := 674) rfl ?_
    obtain ⟨g23, hf⟩ := jgd hf
    refine K_xald B hsx g23 (by decide +kernel) ?_
    refine B_blk B (jlkn_ok RL) jcl_SKF [.aload_n 3] (by decide +kernel) (ls' := [(0, jR jXS), (1, jR 0), (2, jR 74), (3, jR 87), (4, jI i)]) (st' := [jR 87, jI (sx (jW (i + 3))), jI (sx (jW (i + 2))), jI 1, jR 0]) rfl (p1 := 676) rfl ?_
    obtain ⟨r13, h13, hf⟩ := jbd hf
    refine B_callH B (Nat.zero_le _) (μ' := r13.2) (k' := k + 3) (n' := n + 18) ca_L_span sa_L_span lk_L_189 (t_L_span B.tr h13) (Nat.le_refl _) (jRoom (K := 9000) (N := 90000) (by omega) (by omega) rfl) (rest := []) rfl rfl (Nat.le_of_ble_eq_true rfl) (by decide +kernel) rfl rfl (st' := [jI r13.1]) rfl ?_
    refine B_blk B (jlkn_ok RL) jcl_SKF [.istore 5, .aload_n 2, .aload_n 0, .iload 4, .iconst 1, .iadd] (by decide +kernel) (ls' := [(0, jR jXS), (1, jR 0), (2, jR 74), (3, jR 87), (4, jI i), (5, jI r13.1)]) (st' := [jI (jW (i + 1)), jR jXS, jR 74]) rfl (p1 := 687) rfl ?_
    obtain ⟨g22, hf⟩ := jgd hf
    refine K_xald B hsx g22 (by decide +kernel) ?_
    refine J_if_eq B.1 (off := 7) (tgt := 695) (by decide +kernel) (by decide) hf (fun hf => ?_) (fun hf => ?_)
    · refine B_blk B (jlkn_ok RL) jcl_SKF [.iconst 0, .aload_n 0, .iload 4, .iconst 2, .iadd] (by decide +kernel) (ls' := [(0, jR jXS), (1, jR 0), (2, jR 74), (3, jR 87), (4, jI i), (5, jI r13.1)]) (st' := [jI (jW (i + 2)), jR jXS, jI 0, jR 74]) rfl (p1 := 701) rfl ?_
      obtain ⟨g17, hf⟩ := jgd hf
      refine K_xald B hsx g17 (by decide +kernel) ?_
      refine B_blk B (jlkn_ok RL) jcl_SKF [.aload_n 0, .iload 4, .iconst 3, .iadd] (by decide +kernel) (ls' := [(0, jR jXS), (1, jR 0), (2, jR 74), (3, jR 87), (4, jI i), (5, jI r13.1)]) (st' := [jI (jW (i + 3)), jR jXS, jI (sx (jW (i + 2))), jI 0, jR 74]) rfl (p1 := 707) rfl ?_
      obtain ⟨g16, hf⟩ := jgd hf
      refine K_xald B hsx g16 (by decide +kernel) ?_
      obtain ⟨r14, h14, hf⟩ := jbd hf
      refine B_callV B (Nat.zero_le _) (μ' := r14.2) (k' := k + 3) (n' := n + 18) ca_X10_span in_X10_span se_X10_span lk_L_192 (t_X10_span B.tr h14) (Nat.le_refl _) (jRoom (K := 9000) (N := 90000) (by omega) (by omega) rfl) rfl rfl (rest := []) rfl rfl (Nat.le_of_ble_eq_true rfl) (by decide +kernel) rfl rfl (st' := [jI r14.1]) rfl ?_
      refine B_blk B (jlkn_ok RL) jcl_SKF [.istore 6, .aload_n 2] (by decide +kernel) (ls' := [(0, jR jXS), (1, jR 0), (2, jR 74), (3, jR 87), (4, jI i), (5, jI r13.1), (6, jI r14.1)]) (st' := [jR 74]) rfl (p1 := 714) rfl ?_
      obtain ⟨r15, h15, hf⟩ := jbd hf
      refine B_callV B (Nat.zero_le _) (μ' := r14.2) (k' := k + 3) (n' := n + 18) ca_X10_thrown in_X10_thrown se_X10_thrown lk_L_174 (t_X10_thrown B.tr h15) (Nat.le_refl _) (jRoom (K := 9000) (N := 90000) (by omega) (by omega) rfl) rfl rfl (rest := []) rfl rfl (Nat.le_of_ble_eq_true rfl) (by decide +kernel) rfl rfl (st' := [jI r15]) rfl ?_
      refine B_blk B (jlkn_ok RL) jcl_SKF [.iload 5] (by decide +kernel) (ls' := [(0, jR jXS), (1, jR 0), (2, jR 74), (3, jR 87), (4, jI i), (5, jI r13.1), (6, jI r14.1)]) (st' := [jI r13.1, jI r15]) rfl (p1 := 719) rfl ?_
      refine J_icmp_eq B.1 (off := 5) (tgt := 724) (by decide +kernel) (by decide) hf (fun hf => ?_) (fun hf => ?_)
      · refine B_blk B (jlkn_ok RL) jcl_SKF [.iload 5] (by decide +kernel) (ls' := [(0, jR jXS), (1, jR 0), (2, jR 74), (3, jR 87), (4, jI i), (5, jI r13.1), (6, jI r14.1)]) (st' := [jI r13.1]) rfl (p1 := 726) rfl ?_
        refine J_if_ne B.1 (off := 15) (tgt := 741) (by decide +kernel) (by decide) hf (fun hf => ?_) (fun hf => ?_)
        · refine B_blk B (jlkn_ok RL) jcl_SKF [.aload_n 3, .iconst 0] (by decide +kernel) (ls' := [(0, jR jXS), (1, jR 0), (2, jR 74), (3, jR 87), (4, jI i), (5, jI r13.1), (6, jI r14.1)]) (st' := [jI 0, jR 87]) rfl (p1 := 731) rfl ?_
          refine K_lald (lenI := 1) B rfl rfl (by decide) (by decide +kernel) ?_
          refine B_blk B (jlkn_ok RL) jcl_SKF [.iload 6, .i2l, .lcmp] (by decide +kernel) (ls' := [(0, jR jXS), (1, jR 0), (2, jR 74), (3, jR 87), (4, jI i), (5, jI r13.1), (6, jI r14.1)]) (st' := [jI (jCm (r14.2 87 0) r14.1)]) rfl (p1 := 736) rfl ?_
          refine J_if_eq B.1 (off := 5) (tgt := 741) (by decide +kernel) (by decide) hf (fun hf => ?_) (fun hf => ?_)
          · refine B_blk B (jlkn_ok RL) jcl_SKF [.goto 2882] (by decide +kernel) (ls' := [(0, jR jXS), (1, jR 0), (2, jR 74), (3, jR 87), (4, jI i), (5, jI r13.1), (6, jI r14.1)]) (st' := []) rfl (p1 := 3623) rfl ?_
            refine J_pick [0, 1, 2, 3, 4] (ls' := [(0, jR jXS), (1, jR 0), (2, jR 74), (3, jR 87), (4, jI i)]) rfl ?_
            cases hf
            exact J_widen (by omega) (by omega) hx
          · refine B_blk B (jlkn_ok RL) jcl_SKF [.iconst 0] (by decide +kernel) (ls' := [(0, jR jXS), (1, jR 0), (2, jR 74), (3, jR 87), (4, jI i), (5, jI r13.1), (6, jI r14.1)]) (st' := [jI 0]) rfl (p1 := 740) rfl ?_
            cases hf
        · refine B_blk B (jlkn_ok RL) jcl_SKF [.goto 2882] (by decide +kernel) (ls' := [(0, jR jXS), (1, jR 0), (2, jR 74), (3, jR 87), (4, jI i), (5, jI r13.1), (6, jI r14.1)]) (st' := []) rfl (p1 := 3623) rfl ?_
          refine J_pick [0, 1, 2, 3, 4] (ls' := [(0, jR jXS), (1, jR 0), (2, jR 74), (3, jR 87), (4, jI i)]) rfl ?_
          cases hf
          exact J_widen (by omega) (by omega) hx
      · refine B_blk B (jlkn_ok RL) jcl_SKF [.iconst 0] (by decide +kernel) (ls' := [(0, jR jXS), (1, jR 0), (2, jR 74), (3, jR 87), (4, jI i), (5, jI r13.1), (6, jI r14.1)]) (st' := [jI 0]) rfl (p1 := 723) rfl ?_
        cases hf
    · refine B_blk B (jlkn_ok RL) jcl_SKF [.iconst 1, .goto 4, .aload_n 0, .iload 4, .iconst 2, .iadd] (by decide +kernel) (ls' := [(0, jR jXS), (1, jR 0), (2, jR 74), (3, jR 87), (4, jI i), (5, jI r13.1)]) (st' := [jI (jW (i + 2)), jR jXS, jI 1, jR 74]) rfl (p1 := 701) rfl ?_
      obtain ⟨g21, hf⟩ := jgd hf
      refine K_xald B hsx g21 (by decide +kernel) ?_
      refine B_blk B (jlkn_ok RL) jcl_SKF [.aload_n 0, .iload 4, .iconst 3, .iadd] (by decide +kernel) (ls' := [(0, jR jXS), (1, jR 0), (2, jR 74), (3, jR 87), (4, jI i), (5, jI r13.1)]) (st' := [jI (jW (i + 3)), jR jXS, jI (sx (jW (i + 2))), jI 1, jR 74]) rfl (p1 := 707) rfl ?_
      obtain ⟨g20, hf⟩ := jgd hf
      refine K_xald B hsx g20 (by decide +kernel) ?_
      obtain ⟨r18, h18, hf⟩ := jbd hf
      refine B_callV B (Nat.zero_le _) (μ' := r18.2) (k' := k + 3) (n' := n + 18) ca_X10_span in_X10_span se_X10_span lk_L_192 (t_X10_span B.tr h18) (Nat.le_refl _) (jRoom (K := 9000) (N := 90000) (by omega) (by omega) rfl) rfl rfl (rest := []) rfl rfl (Nat.le_of_ble_eq_true rfl) (by decide +kernel) rfl rfl (st' := [jI r18.1]) rfl ?_
      refine B_blk B (jlkn_ok RL) jcl_SKF [.istore 6, .aload_n 2] (by decide +kernel) (ls' := [(0, jR jXS), (1, jR 0), (2, jR 74), (3, jR 87), (4, jI i), (5, jI r13.1), (6, jI r18.1)]) (st' := [jR 74]) rfl (p1 := 714) rfl ?_
      obtain ⟨r19, h19, hf⟩ := jbd hf
      refine B_callV B (Nat.zero_le _) (μ' := r18.2) (k' := k + 3) (n' := n + 18) ca_X10_thrown in_X10_thrown se_X10_thrown lk_L_174 (t_X10_thrown B.tr h19) (Nat.le_refl _) (jRoom (K := 9000) (N := 90000) (by omega) (by omega) rfl) rfl rfl (rest := []) rfl rfl (Nat.le_of_ble_eq_true rfl) (by decide +kernel) rfl rfl (st' := [jI r19]) rfl ?_
      refine B_blk B (jlkn_ok RL) jcl_SKF [.iload 5] (by decide +kernel) (ls' := [(0, jR jXS), (1, jR 0), (2, jR 74), (3, jR 87), (4, jI i), (5, jI r13.1), (6, jI r18.1)]) (st' := [jI r13.1, jI r19]) rfl (p1 := 719) rfl ?_
      refine J_icmp_eq B.1 (off := 5) (tgt := 724) (by decide +kernel) (by decide) hf (fun hf => ?_) (fun hf => ?_)
      · refine B_blk B (jlkn_ok RL) jcl_SKF [.iload 5] (by decide +kernel) (ls' := [(0, jR jXS), (1, jR 0), (2, jR 74), (3, jR 87), (4, jI i), (5, jI r13.1), (6, jI r18.1)]) (st' := [jI r13.1]) rfl (p1 := 726) rfl ?_
        refine J_if_ne B.1 (off := 15) (tgt := 741) (by decide +kernel) (by decide) hf (fun hf => ?_) (fun hf => ?_)
        · refine B_blk B (jlkn_ok RL) jcl_SKF [.aload_n 3, .iconst 0] (by decide +kernel) (ls' := [(0, jR jXS), (1, jR 0), (2, jR 74), (3, jR 87), (4, jI i), (5, jI r13.1), (6, jI r18.1)]) (st' := [jI 0, jR 87]) rfl (p1 := 731) rfl ?_
          refine K_lald (lenI := 1) B rfl rfl (by decide) (by decide +kernel) ?_
          refine B_blk B (jlkn_ok RL) jcl_SKF [.iload 6, .i2l, .lcmp] (by decide +kernel) (ls' := [(0, jR jXS), (1, jR 0), (2, jR 74), (3, jR 87), (4, jI i), (5, jI r13.1), (6, jI r18.1)]) (st' := [jI (jCm (r18.2 87 0) r18.1)]) rfl (p1 := 736) rfl ?_
          refine J_if_eq B.1 (off := 5) (tgt := 741) (by decide +kernel) (by decide) hf (fun hf => ?_) (fun hf => ?_)
          · refine B_blk B (jlkn_ok RL) jcl_SKF [.goto 2882] (by decide +kernel) (ls' := [(0, jR jXS), (1, jR 0), (2, jR 74), (3, jR 87), (4, jI i), (5, jI r13.1), (6, jI r18.1)]) (st' := []) rfl (p1 := 3623) rfl ?_
            refine J_pick [0, 1, 2, 3, 4] (ls' := [(0, jR jXS), (1, jR 0), (2, jR 74), (3, jR 87), (4, jI i)]) rfl ?_
            cases hf
            exact J_widen (by omega) (by omega) hx
          · refine B_blk B (jlkn_ok RL) jcl_SKF [.iconst 0] (by decide +kernel) (ls' := [(0, jR jXS), (1, jR 0), (2, jR 74), (3, jR 87), (4, jI i), (5, jI r13.1), (6, jI r18.1)]) (st' := [jI 0]) rfl (p1 := 740) rfl ?_
            cases hf
        · refine B_blk B (jlkn_ok RL) jcl_SKF [.goto 2882] (by decide +kernel) (ls' := [(0, jR jXS), (1, jR 0), (2, jR 74), (3, jR 87), (4, jI i), (5, jI r13.1), (6, jI r18.1)]) (st' := []) rfl (p1 := 3623) rfl ?_
          refine J_pick [0, 1, 2, 3, 4] (ls' := [(0, jR jXS), (1, jR 0), (2, jR 74), (3, jR 87), (4, jI i)]) rfl ?_
          cases hf
          exact J_widen (by omega) (by omega) hx
      · refine B_blk B (jlkn_ok RL) jcl_SKF [.iconst 0] (by decide +kernel) (ls' := [(0, jR jXS), (1, jR 0), (2, jR 74), (3, jR 87), (4, jI i), (5, jI r13.1), (6, jI r18.1)]) (st' := [jI 0]) rfl (p1 := 723) rfl ?_
        cases hf

def f_case_7 (sx : Int → Int) (L i : Int) (m : jMu) : Option jMu :=
  (if 0 ≤ jW (i + 1) ∧ jW (i + 1) < L then (if 0 ≤ jW (i + 2) ∧ jW (i + 2) < L then (if 0 ≤ jW (i + 3) ∧ jW (i + 3) < L then (f_L_nest (sx (jW (i + 1))) (sx (jW (i + 2))) (sx (jW (i + 3))) m).bind fun r1 => (if 0 ≤ jW (i + 1) ∧ jW (i + 1) < L then (if 0 ≤ jW (i + 2) ∧ jW (i + 2) < L then (if 0 ≤ jW (i + 3) ∧ jW (i + 3) < L then (f_X10_nest (sx (jW (i + 1))) (sx (jW (i + 2))) (sx (jW (i + 3))) r1.2).bind fun r2 => (f_X10_thrown r2.2).bind fun r3 => (if r3 = r1.1 then (if r1.1 = 0 then (if jCm (r2.2 87 0) r2.1 = 0 then some r2.2 else none) else some r2.2) else none) else none) else none) else none) else none) else none) else none)
theorem t_case_7 {X : jX} {L : Int} {sx : Int → Int} (hsx : jsx (xG X) L sx) (B : jB X cL_law RL 8 0 room_1 (some .boolean)) {k n : Nat} (hk : k ≤ 8900) (hn : n ≤ 89000) {i : Int} {m o : jMu} (hf : f_case_7 sx L i m = some o) (hx : J X SKF o (k + 5) (n + 30) 3623 [(0, jR jXS), (1, jR 0), (2, jR 74), (3, jR 87), (4, jI i)] []) : J X SKF m k n 744 [(0, jR jXS), (1, jR 0), (2, jR 74), (3, jR 87), (4, jI i)] [] := by
  unfold f_case_7 at hf
  refine B_blk B (jlkn_ok RL) jcl_SKF [.aload_n 1, .aload_n 0, .iload 4, .iconst 1, .iadd] (by decide +kernel) (ls' := [(0, jR jXS), (1, jR 0), (2, jR 74), (3, jR 87), (4, jI i)]) (st' := [jI (jW (i + 1)), jR jXS, jR 0]) rfl (p1 := 750) rfl ?_
  obtain ⟨g9, hf⟩ := jgd hf
  refine K_xald B hsx g9 (by decide +kernel) ?_
  refine B_blk B (jlkn_ok RL) jcl_SKF [.aload_n 0, .iload 4, .iconst 2, .iadd] (by decide +kernel) (ls' := [(0, jR jXS), (1, jR 0), (2, jR 74), (3, jR 87), (4, jI i)]) (st' := [jI (jW (i + 2)), jR jXS, jI (sx (jW (i + 1))), jR 0]) rfl (p1 := 756) rfl ?_
  obtain ⟨g8, hf⟩ := jgd hf
  refine K_xald B hsx g8 (by decide +kernel) ?_
  refine B_blk B (jlkn_ok RL) jcl_SKF [.aload_n 0, .iload 4, .iconst 3, .iadd] (by decide +kernel) (ls' := [(0, jR jXS), (1, jR 0), (2, jR 74), (3, jR 87), (4, jI i)]) (st' := [jI (jW (i + 3)), jR jXS, jI (sx (jW (i + 2))), jI (sx (jW (i + 1))), jR 0]) rfl (p1 := 762) rfl ?_
  obtain ⟨g7, hf⟩ := jgd hf
  refine K_xald B hsx g7 (by decide +kernel) ?_
  refine B_blk B (jlkn_ok RL) jcl_SKF [.aload_n 3] (by decide +kernel) (ls' := [(0, jR jXS), (1, jR 0), (2, jR 74), (3, jR 87), (4, jI i)]) (st' := [jR 87, jI (sx (jW (i + 3))), jI (sx (jW (i + 2))), jI (sx (jW (i + 1))), jR 0]) rfl (p1 := 764) rfl ?_
  obtain ⟨r1, h1, hf⟩ := jbd hf
  refine B_callH B (Nat.zero_le _) (μ' := r1.2) (k' := k + 4) (n' := n + 24) ca_L_nest sa_L_nest lk_L_193 (t_L_nest B.tr h1) (Nat.le_refl _) (jRoom (K := 9000) (N := 90000) (by omega) (by omega) rfl) (rest := []) rfl rfl (Nat.le_of_ble_eq_true rfl) (by decide +kernel) rfl rfl (st' := [jI r1.1]) rfl ?_
  refine B_blk B (jlkn_ok RL) jcl_SKF [.istore 5, .aload_n 2, .aload_n 0, .iload 4, .iconst 1, .iadd] (by decide +kernel) (ls' := [(0, jR jXS), (1, jR 0), (2, jR 74), (3, jR 87), (4, jI i), (5, jI r1.1)]) (st' := [jI (jW (i + 1)), jR jXS, jR 74]) rfl (p1 := 775) rfl ?_
  obtain ⟨g6, hf⟩ := jgd hf
  refine K_xald B hsx g6 (by decide +kernel) ?_
  refine B_blk B (jlkn_ok RL) jcl_SKF [.aload_n 0, .iload 4, .iconst 2, .iadd] (by decide +kernel) (ls' := [(0, jR jXS), (1, jR 0), (2, jR 74), (3, jR 87), (4, jI i), (5, jI r1.1)]) (st' := [jI (jW (i + 2)), jR jXS, jI (sx (jW (i + 1))), jR 74]) rfl (p1 := 781) rfl ?_
  obtain ⟨g5, hf⟩ := jgd hf
  refine K_xald B hsx g5 (by decide +kernel) ?_
  refine B_blk B (jlkn_ok RL) jcl_SKF [.aload_n 0, .iload 4, .iconst 3, .iadd] (by decide +kernel) (ls' := [(0, jR jXS), (1, jR 0), (2, jR 74), (3, jR 87), (4, jI i), (5, jI r1.1)]) (st' := [jI (jW (i + 3)), jR jXS, jI (sx (jW (i + 2))), jI (sx (jW (i + 1))), jR 74]) rfl (p1 := 787) rfl ?_
  obtain ⟨g4, hf⟩ := jgd hf
  refine K_xald B hsx g4 (by decide +kernel) ?_
  obtain ⟨r2, h2, hf⟩ := jbd hf
  refine B_callV B (Nat.zero_le _) (μ' := r2.2) (k' := k + 4) (n' := n + 24) ca_X10_nest in_X10_nest se_X10_nest lk_L_196 (t_X10_nest B.tr h2) (Nat.le_refl _) (jRoom (K := 9000) (N := 90000) (by omega) (by omega) rfl) rfl rfl (rest := []) rfl rfl (Nat.le_of_ble_eq_true rfl) (by decide +kernel) rfl rfl (st' := [jI r2.1]) rfl ?_
  refine B_blk B (jlkn_ok RL) jcl_SKF [.istore 6, .aload_n 2] (by decide +kernel) (ls' := [(0, jR jXS), (1, jR 0), (2, jR 74), (3, jR 87), (4, jI i), (5, jI r1.1), (6, jI r2.1)]) (st' := [jR 74]) rfl (p1 := 794) rfl ?_
  obtain ⟨r3, h3, hf⟩ := jbd hf
  refine B_callV B (Nat.zero_le _) (μ' := r2.2) (k' := k + 4) (n' := n + 24) ca_X10_thrown in_X10_thrown se_X10_thrown lk_L_174 (t_X10_thrown B.tr h3) (Nat.le_refl _) (jRoom (K := 9000) (N := 90000) (by omega) (by omega) rfl) rfl rfl (rest := []) rfl rfl (Nat.le_of_ble_eq_true rfl) (by decide +kernel) rfl rfl (st' := [jI r3]) rfl ?_
  refine B_blk B (jlkn_ok RL) jcl_SKF [.iload 5] (by decide +kernel) (ls' := [(0, jR jXS), (1, jR 0), (2, jR 74), (3, jR 87), (4, jI i), (5, jI r1.1), (6, jI r2.1)]) (st' := [jI r1.1, jI r3]) rfl (p1 := 799) rfl ?_
  refine J_icmp_eq B.1 (off := 5) (tgt := 804) (by decide +kernel) (by decide) hf (fun hf => ?_) (fun hf => ?_)
  · refine B_blk B (jlkn_ok RL) jcl_SKF [.iload 5] (by decide +kernel) (ls' := [(0, jR jXS), (1, jR 0), (2, jR 74), (3, jR 87), (4, jI i), (5, jI r1.1), (6, jI r2.1)]) (st' := [jI r1.1]) rfl (p1 := 806) rfl ?_
    refine J_if_ne B.1 (off := 15) (tgt := 821) (by decide +kernel) (by decide) hf (fun hf => ?_) (fun hf => ?_)
    · refine B_blk B (jlkn_ok RL) jcl_SKF [.aload_n 3, .iconst 0] (by decide +kernel) (ls' := [(0, jR jXS), (1, jR 0), (2, jR 74), (3, jR 87), (4, jI i), (5, jI r1.1), (6, jI r2.1)]) (st' := [jI 0, jR 87]) rfl (p1 := 811) rfl ?_
      refine K_lald (lenI := 1) B rfl rfl (by decide) (by decide +kernel) ?_
      refine B_blk B (jlkn_ok RL) jcl_SKF [.iload 6, .i2l, .lcmp] (by decide +kernel) (ls' := [(0, jR jXS), (1, jR 0), (2, jR 74), (3, jR 87), (4, jI i), (5, jI r1.1), (6, jI r2.1)]) (st' := [jI (jCm (r2.2 87 0) r2.1)]) rfl (p1 := 816) rfl ?_
      refine J_if_eq B.1 (off := 5) (tgt := 821) (by decide +kernel) (by decide) hf (fun hf => ?_) (fun hf => ?_)
      · refine B_blk B (jlkn_ok RL) jcl_SKF [.goto 2802] (by decide +kernel) (ls' := [(0, jR jXS), (1, jR 0), (2, jR 74), (3, jR 87), (4, jI i), (5, jI r1.1), (6, jI r2.1)]) (st' := []) rfl (p1 := 3623) rfl ?_
        refine J_pick [0, 1, 2, 3, 4] (ls' := [(0, jR jXS), (1, jR 0), (2, jR 74), (3, jR 87), (4, jI i)]) rfl ?_
        cases hf
        exact J_widen (by omega) (by omega) hx
      · refine B_blk B (jlkn_ok RL) jcl_SKF [.iconst 0] (by decide +kernel) (ls' := [(0, jR jXS), (1, jR 0), (2, jR 74), (3, jR 87), (4, jI i), (5, jI r1.1), (6, jI r2.1)]) (st' := [jI 0]) rfl (p1 := 820) rfl ?_
        cases hf
    · refine B_blk B (jlkn_ok RL) jcl_SKF [.goto 2802] (by decide +kernel) (ls' := [(0, jR jXS), (1, jR 0), (2, jR 74), (3, jR 87), (4, jI i), (5, jI r1.1), (6, jI r2.1)]) (st' := []) rfl (p1 := 3623) rfl ?_
      refine J_pick [0, 1, 2, 3, 4] (ls' := [(0, jR jXS), (1, jR 0), (2, jR 74), (3, jR 87), (4, jI i)]) rfl ?_
      cases hf
      exact J_widen (by omega) (by omega) hx
  · refine B_blk B (jlkn_ok RL) jcl_SKF [.iconst 0] (by decide +kernel) (ls' := [(0, jR jXS), (1, jR 0), (2, jR 74), (3, jR 87), (4, jI i), (5, jI r1.1), (6, jI r2.1)]) (st' := [jI 0]) rfl (p1 := 803) rfl ?_
    cases hf

def f_case_8 (sx : Int → Int) (L i : Int) (m : jMu) : Option jMu :=
  (f_L_terms m).bind fun r1 => (f_X10_terms r1.2).bind fun r2 => (f_X10_thrown r2.2).bind fun r3 => (if r3 = r1.1 then (if r1.1 = 0 then (if jCm (r2.2 87 0) r2.1 = 0 then some r2.2 else none) else some r2.2) else none)
theorem t_case_8 {X : jX} {L : Int} {sx : Int → Int} (hsx : jsx (xG X) L sx) (B : jB X cL_law RL 8 0 room_1 (some .boolean)) {k n : Nat} (hk : k ≤ 8900) (hn : n ≤ 89000) {i : Int} {m o : jMu} (hf : f_case_8 sx L i m = some o) (hx : J X SKF o (k + 5) (n + 30) 3623 [(0, jR jXS), (1, jR 0), (2, jR 74), (3, jR 87), (4, jI i)] []) : J X SKF m k n 824 [(0, jR jXS), (1, jR 0), (2, jR 74), (3, jR 87), (4, jI i)] [] := by
  unfold f_case_8 at hf
  refine B_blk B (jlkn_ok RL) jcl_SKF [.aload_n 1, .aload_n 3] (by decide +kernel) (ls' := [(0, jR jXS), (1, jR 0), (2, jR 74), (3, jR 87), (4, jI i)]) (st' := [jR 87, jR 0]) rfl (p1 := 826) rfl ?_
  obtain ⟨r1, h1, hf⟩ := jbd hf
  refine B_callH B (Nat.zero_le _) (μ' := r1.2) (k' := k + 2) (n' := n + 12) ca_L_terms sa_L_terms lk_L_197 (t_L_terms B.tr h1) (Nat.le_refl _) (jRoom (K := 9000) (N := 90000) (by omega) (by omega) rfl) (rest := []) rfl rfl (Nat.le_of_ble_eq_true rfl) (by decide +kernel) rfl rfl (st' := [jI r1.1]) rfl ?_
  refine B_blk B (jlkn_ok RL) jcl_SKF [.istore 5, .aload_n 2] (by decide +kernel) (ls' := [(0, jR jXS), (1, jR 0), (2, jR 74), (3, jR 87), (4, jI i), (5, jI r1.1)]) (st' := [jR 74]) rfl (p1 := 832) rfl ?_
  obtain ⟨r2, h2, hf⟩ := jbd hf
  refine B_callV B (Nat.zero_le _) (μ' := r2.2) (k' := k + 2) (n' := n + 12) ca_X10_terms in_X10_terms se_X10_terms lk_L_200 (t_X10_terms B.tr h2) (Nat.le_refl _) (jRoom (K := 9000) (N := 90000) (by omega) (by omega) rfl) rfl rfl (rest := []) rfl rfl (Nat.le_of_ble_eq_true rfl) (by decide +kernel) rfl rfl (st' := [jI r2.1]) rfl ?_
  refine B_blk B (jlkn_ok RL) jcl_SKF [.istore 6, .aload_n 2] (by decide +kernel) (ls' := [(0, jR jXS), (1, jR 0), (2, jR 74), (3, jR 87), (4, jI i), (5, jI r1.1), (6, jI r2.1)]) (st' := [jR 74]) rfl (p1 := 838) rfl ?_
  obtain ⟨r3, h3, hf⟩ := jbd hf
  refine B_callV B (Nat.zero_le _) (μ' := r2.2) (k' := k + 2) (n' := n + 12) ca_X10_thrown in_X10_thrown se_X10_thrown lk_L_174 (t_X10_thrown B.tr h3) (Nat.le_refl _) (jRoom (K := 9000) (N := 90000) (by omega) (by omega) rfl) rfl rfl (rest := []) rfl rfl (Nat.le_of_ble_eq_true rfl) (by decide +kernel) rfl rfl (st' := [jI r3]) rfl ?_
  refine B_blk B (jlkn_ok RL) jcl_SKF [.iload 5] (by decide +kernel) (ls' := [(0, jR jXS), (1, jR 0), (2, jR 74), (3, jR 87), (4, jI i), (5, jI r1.1), (6, jI r2.1)]) (st' := [jI r1.1, jI r3]) rfl (p1 := 843) rfl ?_
  refine J_icmp_eq B.1 (off := 5) (tgt := 848) (by decide +kernel) (by decide) hf (fun hf => ?_) (fun hf => ?_)
  · refine B_blk B (jlkn_ok RL) jcl_SKF [.iload 5] (by decide +kernel) (ls' := [(0, jR jXS), (1, jR 0), (2, jR 74), (3, jR 87), (4, jI i), (5, jI r1.1), (6, jI r2.1)]) (st' := [jI r1.1]) rfl (p1 := 850) rfl ?_
    refine J_if_ne B.1 (off := 15) (tgt := 865) (by decide +kernel) (by decide) hf (fun hf => ?_) (fun hf => ?_)
    · refine B_blk B (jlkn_ok RL) jcl_SKF [.aload_n 3, .iconst 0] (by decide +kernel) (ls' := [(0, jR jXS), (1, jR 0), (2, jR 74), (3, jR 87), (4, jI i), (5, jI r1.1), (6, jI r2.1)]) (st' := [jI 0, jR 87]) rfl (p1 := 855) rfl ?_
      refine K_lald (lenI := 1) B rfl rfl (by decide) (by decide +kernel) ?_
      refine B_blk B (jlkn_ok RL) jcl_SKF [.iload 6, .i2l, .lcmp] (by decide +kernel) (ls' := [(0, jR jXS), (1, jR 0), (2, jR 74), (3, jR 87), (4, jI i), (5, jI r1.1), (6, jI r2.1)]) (st' := [jI (jCm (r2.2 87 0) r2.1)]) rfl (p1 := 860) rfl ?_
      refine J_if_eq B.1 (off := 5) (tgt := 865) (by decide +kernel) (by decide) hf (fun hf => ?_) (fun hf => ?_)
      · refine B_blk B (jlkn_ok RL) jcl_SKF [.goto 2758] (by decide +kernel) (ls' := [(0, jR jXS), (1, jR 0), (2, jR 74), (3, jR 87), (4, jI i), (5, jI r1.1), (6, jI r2.1)]) (st' := []) rfl (p1 := 3623) rfl ?_
        refine J_pick [0, 1, 2, 3, 4] (ls' := [(0, jR jXS), (1, jR 0), (2, jR 74), (3, jR 87), (4, jI i)]) rfl ?_
        cases hf
        exact J_widen (by omega) (by omega) hx
      · refine B_blk B (jlkn_ok RL) jcl_SKF [.iconst 0] (by decide +kernel) (ls' := [(0, jR jXS), (1, jR 0), (2, jR 74), (3, jR 87), (4, jI i), (5, jI r1.1), (6, jI r2.1)]) (st' := [jI 0]) rfl (p1 := 864) rfl ?_
        cases hf
    · refine B_blk B (jlkn_ok RL) jcl_SKF [.goto 2758] (by decide +kernel) (ls' := [(0, jR jXS), (1, jR 0), (2, jR 74), (3, jR 87), (4, jI i), (5, jI r1.1), (6, jI r2.1)]) (st' := []) rfl (p1 := 3623) rfl ?_
      refine J_pick [0, 1, 2, 3, 4] (ls' := [(0, jR jXS), (1, jR 0), (2, jR 74), (3, jR 87), (4, jI i)]) rfl ?_
      cases hf
      exact J_widen (by omega) (by omega) hx
  · refine B_blk B (jlkn_ok RL) jcl_SKF [.iconst 0] (by decide +kernel) (ls' := [(0, jR jXS), (1, jR 0), (2, jR 74), (3, jR 87), (4, jI i), (5, jI r1.1), (6, jI r2.1)]) (st' := [jI 0]) rfl (p1 := 847) rfl ?_
    cases hf

def f_case_9 (sx : Int → Int) (L i : Int) (m : jMu) : Option jMu :=
  (f_X9_fault m).bind fun r1 => (f_X10_fault m).bind fun r2 => (if r1 = r2.1 then some r2.2 else none)
theorem t_case_9 {X : jX} {L : Int} {sx : Int → Int} (hsx : jsx (xG X) L sx) (B : jB X cL_law RL 8 0 room_1 (some .boolean)) {k n : Nat} (hk : k ≤ 8900) (hn : n ≤ 89000) {i : Int} {m o : jMu} (hf : f_case_9 sx L i m = some o) (hx : J X SKF o (k + 5) (n + 30) 3623 [(0, jR jXS), (1, jR 0), (2, jR 74), (3, jR 87), (4, jI i)] []) : J X SKF m k n 868 [(0, jR jXS), (1, jR 0), (2, jR 74), (3, jR 87), (4, jI i)] [] := by
  unfold f_case_9 at hf
  refine B_blk B (jlkn_ok RL) jcl_SKF [.aload_n 1] (by decide +kernel) (ls' := [(0, jR jXS), (1, jR 0), (2, jR 74), (3, jR 87), (4, jI i)]) (st' := [jR 0]) rfl (p1 := 869) rfl ?_
  obtain ⟨r1, h1, hf⟩ := jbd hf
  refine B_callV B (Nat.zero_le _) (μ' := m) (k' := k) (n' := n) ca_X9_fault in_X9_fault se_X9_fault lk_L_201 (t_X9_fault B.tr h1) (Nat.le_refl _) (jRoom (K := 9000) (N := 90000) (by omega) (by omega) rfl) rfl rfl (rest := []) rfl rfl (Nat.le_of_ble_eq_true rfl) (by decide +kernel) rfl rfl (st' := [jI r1]) rfl ?_
  refine B_blk B (jlkn_ok RL) jcl_SKF [.aload_n 2] (by decide +kernel) (ls' := [(0, jR jXS), (1, jR 0), (2, jR 74), (3, jR 87), (4, jI i)]) (st' := [jR 74, jI r1]) rfl (p1 := 873) rfl ?_
  obtain ⟨r2, h2, hf⟩ := jbd hf
  refine B_callV B (Nat.zero_le _) (μ' := r2.2) (k' := k) (n' := n) ca_X10_fault in_X10_fault se_X10_fault lk_L_204 (t_X10_fault B.tr h2) (Nat.le_refl _) (jRoom (K := 9000) (N := 90000) (by omega) (by omega) rfl) rfl rfl (rest := [jI r1]) rfl rfl (Nat.le_of_ble_eq_true rfl) (by decide +kernel) rfl rfl (st' := [jI r2.1, jI r1]) rfl ?_
  refine J_icmp_eq B.1 (off := 2747) (tgt := 3623) (by decide +kernel) (by decide) hf (fun hf => ?_) (fun hf => ?_)
  · cases hf
    exact J_widen (by omega) (by omega) hx
  · refine B_blk B (jlkn_ok RL) jcl_SKF [.iconst 0] (by decide +kernel) (ls' := [(0, jR jXS), (1, jR 0), (2, jR 74), (3, jR 87), (4, jI i)]) (st' := [jI 0]) rfl (p1 := 880) rfl ?_
    cases hf

def f_case_10 (sx : Int → Int) (L i : Int) (m : jMu) : Option jMu :=
  (if 0 ≤ jW (i + 1) ∧ jW (i + 1) < L then (if 0 ≤ jW (i + 2) ∧ jW (i + 2) < L then (if 0 ≤ jW (i + 3) ∧ jW (i + 3) < L then (if 0 ≤ jW (i + 4) ∧ jW (i + 4) < L then (f_L_why (sx (jW (i + 1))) (sx (jW (i + 2))) (sx (jW (i + 3))) (sx (jW (i + 4))) m).bind fun r1 => (if 0 ≤ jW (i + 1) ∧ jW (i + 1) < L then (if 0 ≤ jW (i + 2) ∧ jW (i + 2) < L then (if 0 ≤ jW (i + 3) ∧ jW (i + 3) < L then (if 0 ≤ jW (i + 4) ∧ jW (i + 4) < L then (f_X10_why (sx (jW (i + 1))) (sx (jW (i + 2))) (sx (jW (i + 3))) (sx (jW (i + 4))) r1.2).bind fun r2 => (f_X10_thrown r2.2).bind fun r3 => (if r3 = r1.1 then (if r1.1 = 0 then (if jCm (r2.2 87 0) r2.1 = 0 then some r2.2 else none) else some r2.2) else none) else none) else none) else none) else none) else none) else none) else none) else none)
theorem t_case_10 {X : jX} {L : Int} {sx : Int → Int} (hsx : jsx (xG X) L sx) (B : jB X cL_law RL 8 0 room_1 (some .boolean)) {k n : Nat} (hk : k ≤ 8900) (hn : n ≤ 89000) {i : Int} {m o : jMu} (hf : f_case_10 sx L i m = some o) (hx : J X SKF o (k + 5) (n + 30) 3623 [(0, jR jXS), (1, jR 0), (2, jR 74), (3, jR 87), (4, jI i)] []) : J X SKF m k n 881 [(0, jR jXS), (1, jR 0), (2, jR 74), (3, jR 87), (4, jI i)] [] := by
  unfold f_case_10 at hf
  refine B_blk B (jlkn_ok RL) jcl_SKF [.aload_n 1, .aload_n 0, .iload 4, .iconst 1, .iadd] (by decide +kernel) (ls' := [(0, jR jXS), (1, jR 0), (2, jR 74), (3, jR 87), (4, jI i)]) (st' := [jI (jW (i + 1)), jR jXS, jR 0]) rfl (p1 := 887) rfl ?_
  obtain ⟨g11, hf⟩ := jgd hf
  refine K_xald B hsx g11 (by decide +kernel) ?_
  refine B_blk B (jlkn_ok RL) jcl_SKF [.aload_n 0, .iload 4, .iconst 2, .iadd] (by decide +kernel) (ls' := [(0, jR jXS), (1, jR 0), (2, jR 74), (3, jR 87), (4, jI i)]) (st' := [jI (jW (i + 2)), jR jXS, jI (sx (jW (i + 1))), jR 0]) rfl (p1 := 893) rfl ?_
  obtain ⟨g10, hf⟩ := jgd hf
  refine K_xald B hsx g10 (by decide +kernel) ?_
  refine B_blk B (jlkn_ok RL) jcl_SKF [.aload_n 0, .iload 4, .iconst 3, .iadd] (by decide +kernel) (ls' := [(0, jR jXS), (1, jR 0), (2, jR 74), (3, jR 87), (4, jI i)]) (st' := [jI (jW (i + 3)), jR jXS, jI (sx (jW (i + 2))), jI (sx (jW (i + 1))), jR 0]) rfl (p1 := 899) rfl ?_
  obtain ⟨g9, hf⟩ := jgd hf
  refine K_xald B hsx g9 (by decide +kernel) ?_
  refine B_blk B (jlkn_ok RL) jcl_SKF [.aload_n 0, .iload 4, .iconst 4, .iadd] (by decide +kernel) (ls' := [(0, jR jXS), (1, jR 0), (2, jR 74), (3, jR 87), (4, jI i)]) (st' := [jI (jW (i + 4)), jR jXS, jI (sx (jW (i + 3))), jI (sx (jW (i + 2))), jI (sx (jW (i + 1))), jR 0]) rfl (p1 := 905) rfl ?_
  obtain ⟨g8, hf⟩ := jgd hf
  refine K_xald B hsx g8 (by decide +kernel) ?_
  refine B_blk B (jlkn_ok RL) jcl_SKF [.aload_n 3] (by decide +kernel) (ls' := [(0, jR jXS), (1, jR 0), (2, jR 74), (3, jR 87), (4, jI i)]) (st' := [jR 87, jI (sx (jW (i + 4))), jI (sx (jW (i + 3))), jI (sx (jW (i + 2))), jI (sx (jW (i + 1))), jR 0]) rfl (p1 := 907) rfl ?_
  obtain ⟨r1, h1, hf⟩ := jbd hf
  refine B_callH B (Nat.zero_le _) (μ' := r1.2) (k' := k + 2) (n' := n + 12) ca_L_why sa_L_why lk_L_205 (t_L_why B.tr h1) (Nat.le_refl _) (jRoom (K := 9000) (N := 90000) (by omega) (by omega) rfl) (rest := []) rfl rfl (Nat.le_of_ble_eq_true rfl) (by decide +kernel) rfl rfl (st' := [jI r1.1]) rfl ?_
  refine B_blk B (jlkn_ok RL) jcl_SKF [.istore 5, .aload_n 2, .aload_n 0, .iload 4, .iconst 1, .iadd] (by decide +kernel) (ls' := [(0, jR jXS), (1, jR 0), (2, jR 74), (3, jR 87), (4, jI i), (5, jI r1.1)]) (st' := [jI (jW (i + 1)), jR jXS, jR 74]) rfl (p1 := 918) rfl ?_
  obtain ⟨g7, hf⟩ := jgd hf
  refine K_xald B hsx g7 (by decide +kernel) ?_
  refine B_blk B (jlkn_ok RL) jcl_SKF [.aload_n 0, .iload 4, .iconst 2, .iadd] (by decide +kernel) (ls' := [(0, jR jXS), (1, jR 0), (2, jR 74), (3, jR 87), (4, jI i), (5, jI r1.1)]) (st' := [jI (jW (i + 2)), jR jXS, jI (sx (jW (i + 1))), jR 74]) rfl (p1 := 924) rfl ?_
  obtain ⟨g6, hf⟩ := jgd hf
  refine K_xald B hsx g6 (by decide +kernel) ?_
  refine B_blk B (jlkn_ok RL) jcl_SKF [.aload_n 0, .iload 4, .iconst 3, .iadd] (by decide +kernel) (ls' := [(0, jR jXS), (1, jR 0), (2, jR 74), (3, jR 87), (4, jI i), (5, jI r1.1)]) (st' := [jI (jW (i + 3)), jR jXS, jI (sx (jW (i + 2))), jI (sx (jW (i + 1))), jR 74]) rfl (p1 := 930) rfl ?_
  obtain ⟨g5, hf⟩ := jgd hf
  refine K_xald B hsx g5 (by decide +kernel) ?_
  refine B_blk B (jlkn_ok RL) jcl_SKF [.aload_n 0, .iload 4, .iconst 4, .iadd] (by decide +kernel) (ls' := [(0, jR jXS), (1, jR 0), (2, jR 74), (3, jR 87), (4, jI i), (5, jI r1.1)]) (st' := [jI (jW (i + 4)), jR jXS, jI (sx (jW (i + 3))), jI (sx (jW (i + 2))), jI (sx (jW (i + 1))), jR 74]) rfl (p1 := 936) rfl ?_
  obtain ⟨g4, hf⟩ := jgd hf
  refine K_xald B hsx g4 (by decide +kernel) ?_
  obtain ⟨r2, h2, hf⟩ := jbd hf
  refine B_callV B (Nat.zero_le _) (μ' := r2.2) (k' := k + 2) (n' := n + 12) ca_X10_why in_X10_why se_X10_why lk_L_207 (t_X10_why B.tr h2) (Nat.le_refl _) (jRoom (K := 9000) (N := 90000) (by omega) (by omega) rfl) rfl rfl (rest := []) rfl rfl (Nat.le_of_ble_eq_true rfl) (by decide +kernel) rfl rfl (st' := [jI r2.1]) rfl ?_
  refine B_blk B (jlkn_ok RL) jcl_SKF [.istore 6, .aload_n 2] (by decide +kernel) (ls' := [(0, jR jXS), (1, jR 0), (2, jR 74), (3, jR 87), (4, jI i), (5, jI r1.1), (6, jI r2.1)]) (st' := [jR 74]) rfl (p1 := 943) rfl ?_
  obtain ⟨r3, h3, hf⟩ := jbd hf
  refine B_callV B (Nat.zero_le _) (μ' := r2.2) (k' := k + 2) (n' := n + 12) ca_X10_thrown in_X10_thrown se_X10_thrown lk_L_174 (t_X10_thrown B.tr h3) (Nat.le_refl _) (jRoom (K := 9000) (N := 90000) (by omega) (by omega) rfl) rfl rfl (rest := []) rfl rfl (Nat.le_of_ble_eq_true rfl) (by decide +kernel) rfl rfl (st' := [jI r3]) rfl ?_
  refine B_blk B (jlkn_ok RL) jcl_SKF [.iload 5] (by decide +kernel) (ls' := [(0, jR jXS), (1, jR 0), (2, jR 74), (3, jR 87), (4, jI i), (5, jI r1.1), (6, jI r2.1)]) (st' := [jI r1.1, jI r3]) rfl (p1 := 948) rfl ?_
  refine J_icmp_eq B.1 (off := 5) (tgt := 953) (by decide +kernel) (by decide) hf (fun hf => ?_) (fun hf => ?_)
  · refine B_blk B (jlkn_ok RL) jcl_SKF [.iload 5] (by decide +kernel) (ls' := [(0, jR jXS), (1, jR 0), (2, jR 74), (3, jR 87), (4, jI i), (5, jI r1.1), (6, jI r2.1)]) (st' := [jI r1.1]) rfl (p1 := 955) rfl ?_
    refine J_if_ne B.1 (off := 15) (tgt := 970) (by decide +kernel) (by decide) hf (fun hf => ?_) (fun hf => ?_)
    · refine B_blk B (jlkn_ok RL) jcl_SKF [.aload_n 3, .iconst 0] (by decide +kernel) (ls' := [(0, jR jXS), (1, jR 0), (2, jR 74), (3, jR 87), (4, jI i), (5, jI r1.1), (6, jI r2.1)]) (st' := [jI 0, jR 87]) rfl (p1 := 960) rfl ?_
      refine K_lald (lenI := 1) B rfl rfl (by decide) (by decide +kernel) ?_
      refine B_blk B (jlkn_ok RL) jcl_SKF [.iload 6, .i2l, .lcmp] (by decide +kernel) (ls' := [(0, jR jXS), (1, jR 0), (2, jR 74), (3, jR 87), (4, jI i), (5, jI r1.1), (6, jI r2.1)]) (st' := [jI (jCm (r2.2 87 0) r2.1)]) rfl (p1 := 965) rfl ?_
      refine J_if_eq B.1 (off := 5) (tgt := 970) (by decide +kernel) (by decide) hf (fun hf => ?_) (fun hf => ?_)
      · refine B_blk B (jlkn_ok RL) jcl_SKF [.goto 2653] (by decide +kernel) (ls' := [(0, jR jXS), (1, jR 0), (2, jR 74), (3, jR 87), (4, jI i), (5, jI r1.1), (6, jI r2.1)]) (st' := []) rfl (p1 := 3623) rfl ?_
        refine J_pick [0, 1, 2, 3, 4] (ls' := [(0, jR jXS), (1, jR 0), (2, jR 74), (3, jR 87), (4, jI i)]) rfl ?_
        cases hf
        exact J_widen (by omega) (by omega) hx
      · refine B_blk B (jlkn_ok RL) jcl_SKF [.iconst 0] (by decide +kernel) (ls' := [(0, jR jXS), (1, jR 0), (2, jR 74), (3, jR 87), (4, jI i), (5, jI r1.1), (6, jI r2.1)]) (st' := [jI 0]) rfl (p1 := 969) rfl ?_
        cases hf
    · refine B_blk B (jlkn_ok RL) jcl_SKF [.goto 2653] (by decide +kernel) (ls' := [(0, jR jXS), (1, jR 0), (2, jR 74), (3, jR 87), (4, jI i), (5, jI r1.1), (6, jI r2.1)]) (st' := []) rfl (p1 := 3623) rfl ?_
      refine J_pick [0, 1, 2, 3, 4] (ls' := [(0, jR jXS), (1, jR 0), (2, jR 74), (3, jR 87), (4, jI i)]) rfl ?_
      cases hf
      exact J_widen (by omega) (by omega) hx
  · refine B_blk B (jlkn_ok RL) jcl_SKF [.iconst 0] (by decide +kernel) (ls' := [(0, jR jXS), (1, jR 0), (2, jR 74), (3, jR 87), (4, jI i), (5, jI r1.1), (6, jI r2.1)]) (st' := [jI 0]) rfl (p1 := 952) rfl ?_
    cases hf

def f_case_11 (sx : Int → Int) (L i : Int) (m : jMu) : Option jMu :=
  (if 0 ≤ jW (i + 1) ∧ jW (i + 1) < L then (if 0 ≤ jW (i + 2) ∧ jW (i + 2) < L then (if 0 ≤ jW (i + 3) ∧ jW (i + 3) < L then (if 0 ≤ jW (i + 4) ∧ jW (i + 4) < L then (if 0 ≤ jW (i + 5) ∧ jW (i + 5) < L then (f_L_at (sx (jW (i + 1))) (sx (jW (i + 2))) (sx (jW (i + 3))) (sx (jW (i + 4))) (sx (jW (i + 5))) m).bind fun r1 => (if 0 ≤ jW (i + 1) ∧ jW (i + 1) < L then (if 0 ≤ jW (i + 2) ∧ jW (i + 2) < L then (if 0 ≤ jW (i + 3) ∧ jW (i + 3) < L then (if 0 ≤ jW (i + 4) ∧ jW (i + 4) < L then (if 0 ≤ jW (i + 5) ∧ jW (i + 5) < L then (f_X10_at (sx (jW (i + 1))) (sx (jW (i + 2))) (sx (jW (i + 3))) (sx (jW (i + 4))) (sx (jW (i + 5))) r1.2).bind fun r2 => (f_X10_thrown r2.2).bind fun r3 => (if r3 = r1.1 then (if r1.1 = 0 then (if jCm (r2.2 87 0) r2.1 = 0 then some r2.2 else none) else some r2.2) else none) else none) else none) else none) else none) else none) else none) else none) else none) else none) else none)
theorem t_case_11 {X : jX} {L : Int} {sx : Int → Int} (hsx : jsx (xG X) L sx) (B : jB X cL_law RL 8 0 room_1 (some .boolean)) {k n : Nat} (hk : k ≤ 8900) (hn : n ≤ 89000) {i : Int} {m o : jMu} (hf : f_case_11 sx L i m = some o) (hx : J X SKF o (k + 5) (n + 30) 3623 [(0, jR jXS), (1, jR 0), (2, jR 74), (3, jR 87), (4, jI i)] []) : J X SKF m k n 973 [(0, jR jXS), (1, jR 0), (2, jR 74), (3, jR 87), (4, jI i)] [] := by
  unfold f_case_11 at hf
  refine B_blk B (jlkn_ok RL) jcl_SKF [.aload_n 1, .aload_n 0, .iload 4, .iconst 1, .iadd] (by decide +kernel) (ls' := [(0, jR jXS), (1, jR 0), (2, jR 74), (3, jR 87), (4, jI i)]) (st' := [jI (jW (i + 1)), jR jXS, jR 0]) rfl (p1 := 979) rfl ?_
  obtain ⟨g13, hf⟩ := jgd hf
  refine K_xald B hsx g13 (by decide +kernel) ?_
  refine B_blk B (jlkn_ok RL) jcl_SKF [.aload_n 0, .iload 4, .iconst 2, .iadd] (by decide +kernel) (ls' := [(0, jR jXS), (1, jR 0), (2, jR 74), (3, jR 87), (4, jI i)]) (st' := [jI (jW (i + 2)), jR jXS, jI (sx (jW (i + 1))), jR 0]) rfl (p1 := 985) rfl ?_
  obtain ⟨g12, hf⟩ := jgd hf
  refine K_xald B hsx g12 (by decide +kernel) ?_
  refine B_blk B (jlkn_ok RL) jcl_SKF [.aload_n 0, .iload 4, .iconst 3, .iadd] (by decide +kernel) (ls' := [(0, jR jXS), (1, jR 0), (2, jR 74), (3, jR 87), (4, jI i)]) (st' := [jI (jW (i + 3)), jR jXS, jI (sx (jW (i + 2))), jI (sx (jW (i + 1))), jR 0]) rfl (p1 := 991) rfl ?_
  obtain ⟨g11, hf⟩ := jgd hf
  refine K_xald B hsx g11 (by decide +kernel) ?_
  refine B_blk B (jlkn_ok RL) jcl_SKF [.aload_n 0, .iload 4, .iconst 4, .iadd] (by decide +kernel) (ls' := [(0, jR jXS), (1, jR 0), (2, jR 74), (3, jR 87), (4, jI i)]) (st' := [jI (jW (i + 4)), jR jXS, jI (sx (jW (i + 3))), jI (sx (jW (i + 2))), jI (sx (jW (i + 1))), jR 0]) rfl (p1 := 997) rfl ?_
  obtain ⟨g10, hf⟩ := jgd hf
  refine K_xald B hsx g10 (by decide +kernel) ?_
  refine B_blk B (jlkn_ok RL) jcl_SKF [.aload_n 0, .iload 4, .iconst 5, .iadd] (by decide +kernel) (ls' := [(0, jR jXS), (1, jR 0), (2, jR 74), (3, jR 87), (4, jI i)]) (st' := [jI (jW (i + 5)), jR jXS, jI (sx (jW (i + 4))), jI (sx (jW (i + 3))), jI (sx (jW (i + 2))), jI (sx (jW (i + 1))), jR 0]) rfl (p1 := 1003) rfl ?_
  obtain ⟨g9, hf⟩ := jgd hf
  refine K_xald B hsx g9 (by decide +kernel) ?_
  refine B_blk B (jlkn_ok RL) jcl_SKF [.aload_n 3] (by decide +kernel) (ls' := [(0, jR jXS), (1, jR 0), (2, jR 74), (3, jR 87), (4, jI i)]) (st' := [jR 87, jI (sx (jW (i + 5))), jI (sx (jW (i + 4))), jI (sx (jW (i + 3))), jI (sx (jW (i + 2))), jI (sx (jW (i + 1))), jR 0]) rfl (p1 := 1005) rfl ?_
  obtain ⟨r1, h1, hf⟩ := jbd hf
  refine B_callH B (Nat.zero_le _) (μ' := r1.2) (k' := k + 3) (n' := n + 18) ca_L_at sa_L_at lk_L_208 (t_L_at B.tr h1) (Nat.le_refl _) (jRoom (K := 9000) (N := 90000) (by omega) (by omega) rfl) (rest := []) rfl rfl (Nat.le_of_ble_eq_true rfl) (by decide +kernel) rfl rfl (st' := [jI r1.1]) rfl ?_
  refine B_blk B (jlkn_ok RL) jcl_SKF [.istore 5, .aload_n 2, .aload_n 0, .iload 4, .iconst 1, .iadd] (by decide +kernel) (ls' := [(0, jR jXS), (1, jR 0), (2, jR 74), (3, jR 87), (4, jI i), (5, jI r1.1)]) (st' := [jI (jW (i + 1)), jR jXS, jR 74]) rfl (p1 := 1016) rfl ?_
  obtain ⟨g8, hf⟩ := jgd hf
  refine K_xald B hsx g8 (by decide +kernel) ?_
  refine B_blk B (jlkn_ok RL) jcl_SKF [.aload_n 0, .iload 4, .iconst 2, .iadd] (by decide +kernel) (ls' := [(0, jR jXS), (1, jR 0), (2, jR 74), (3, jR 87), (4, jI i), (5, jI r1.1)]) (st' := [jI (jW (i + 2)), jR jXS, jI (sx (jW (i + 1))), jR 74]) rfl (p1 := 1022) rfl ?_
  obtain ⟨g7, hf⟩ := jgd hf
  refine K_xald B hsx g7 (by decide +kernel) ?_
  refine B_blk B (jlkn_ok RL) jcl_SKF [.aload_n 0, .iload 4, .iconst 3, .iadd] (by decide +kernel) (ls' := [(0, jR jXS), (1, jR 0), (2, jR 74), (3, jR 87), (4, jI i), (5, jI r1.1)]) (st' := [jI (jW (i + 3)), jR jXS, jI (sx (jW (i + 2))), jI (sx (jW (i + 1))), jR 74]) rfl (p1 := 1028) rfl ?_
  obtain ⟨g6, hf⟩ := jgd hf
  refine K_xald B hsx g6 (by decide +kernel) ?_
  refine B_blk B (jlkn_ok RL) jcl_SKF [.aload_n 0, .iload 4, .iconst 4, .iadd] (by decide +kernel) (ls' := [(0, jR jXS), (1, jR 0), (2, jR 74), (3, jR 87), (4, jI i), (5, jI r1.1)]) (st' := [jI (jW (i + 4)), jR jXS, jI (sx (jW (i + 3))), jI (sx (jW (i + 2))), jI (sx (jW (i + 1))), jR 74]) rfl (p1 := 1034) rfl ?_
  obtain ⟨g5, hf⟩ := jgd hf
  refine K_xald B hsx g5 (by decide +kernel) ?_
  refine B_blk B (jlkn_ok RL) jcl_SKF [.aload_n 0, .iload 4, .iconst 5, .iadd] (by decide +kernel) (ls' := [(0, jR jXS), (1, jR 0), (2, jR 74), (3, jR 87), (4, jI i), (5, jI r1.1)]) (st' := [jI (jW (i + 5)), jR jXS, jI (sx (jW (i + 4))), jI (sx (jW (i + 3))), jI (sx (jW (i + 2))), jI (sx (jW (i + 1))), jR 74]) rfl (p1 := 1040) rfl ?_
  obtain ⟨g4, hf⟩ := jgd hf
  refine K_xald B hsx g4 (by decide +kernel) ?_
  obtain ⟨r2, h2, hf⟩ := jbd hf
  refine B_callV B (Nat.zero_le _) (μ' := r2.2) (k' := k + 3) (n' := n + 18) ca_X10_at in_X10_at se_X10_at lk_L_211 (t_X10_at B.tr h2) (Nat.le_refl _) (jRoom (K := 9000) (N := 90000) (by omega) (by omega) rfl) rfl rfl (rest := []) rfl rfl (Nat.le_of_ble_eq_true rfl) (by decide +kernel) rfl rfl (st' := [jI r2.1]) rfl ?_
  refine B_blk B (jlkn_ok RL) jcl_SKF [.istore 6, .aload_n 2] (by decide +kernel) (ls' := [(0, jR jXS), (1, jR 0), (2, jR 74), (3, jR 87), (4, jI i), (5, jI r1.1), (6, jI r2.1)]) (st' := [jR 74]) rfl (p1 := 1047) rfl ?_
  obtain ⟨r3, h3, hf⟩ := jbd hf
  refine B_callV B (Nat.zero_le _) (μ' := r2.2) (k' := k + 3) (n' := n + 18) ca_X10_thrown in_X10_thrown se_X10_thrown lk_L_174 (t_X10_thrown B.tr h3) (Nat.le_refl _) (jRoom (K := 9000) (N := 90000) (by omega) (by omega) rfl) rfl rfl (rest := []) rfl rfl (Nat.le_of_ble_eq_true rfl) (by decide +kernel) rfl rfl (st' := [jI r3]) rfl ?_
  refine B_blk B (jlkn_ok RL) jcl_SKF [.iload 5] (by decide +kernel) (ls' := [(0, jR jXS), (1, jR 0), (2, jR 74), (3, jR 87), (4, jI i), (5, jI r1.1), (6, jI r2.1)]) (st' := [jI r1.1, jI r3]) rfl (p1 := 1052) rfl ?_
  refine J_icmp_eq B.1 (off := 5) (tgt := 1057) (by decide +kernel) (by decide) hf (fun hf => ?_) (fun hf => ?_)
  · refine B_blk B (jlkn_ok RL) jcl_SKF [.iload 5] (by decide +kernel) (ls' := [(0, jR jXS), (1, jR 0), (2, jR 74), (3, jR 87), (4, jI i), (5, jI r1.1), (6, jI r2.1)]) (st' := [jI r1.1]) rfl (p1 := 1059) rfl ?_
    refine J_if_ne B.1 (off := 15) (tgt := 1074) (by decide +kernel) (by decide) hf (fun hf => ?_) (fun hf => ?_)
    · refine B_blk B (jlkn_ok RL) jcl_SKF [.aload_n 3, .iconst 0] (by decide +kernel) (ls' := [(0, jR jXS), (1, jR 0), (2, jR 74), (3, jR 87), (4, jI i), (5, jI r1.1), (6, jI r2.1)]) (st' := [jI 0, jR 87]) rfl (p1 := 1064) rfl ?_
      refine K_lald (lenI := 1) B rfl rfl (by decide) (by decide +kernel) ?_
      refine B_blk B (jlkn_ok RL) jcl_SKF [.iload 6, .i2l, .lcmp] (by decide +kernel) (ls' := [(0, jR jXS), (1, jR 0), (2, jR 74), (3, jR 87), (4, jI i), (5, jI r1.1), (6, jI r2.1)]) (st' := [jI (jCm (r2.2 87 0) r2.1)]) rfl (p1 := 1069) rfl ?_
      refine J_if_eq B.1 (off := 5) (tgt := 1074) (by decide +kernel) (by decide) hf (fun hf => ?_) (fun hf => ?_)
      · refine B_blk B (jlkn_ok RL) jcl_SKF [.goto 2549] (by decide +kernel) (ls' := [(0, jR jXS), (1, jR 0), (2, jR 74), (3, jR 87), (4, jI i), (5, jI r1.1), (6, jI r2.1)]) (st' := []) rfl (p1 := 3623) rfl ?_
        refine J_pick [0, 1, 2, 3, 4] (ls' := [(0, jR jXS), (1, jR 0), (2, jR 74), (3, jR 87), (4, jI i)]) rfl ?_
        cases hf
        exact J_widen (by omega) (by omega) hx
      · refine B_blk B (jlkn_ok RL) jcl_SKF [.iconst 0] (by decide +kernel) (ls' := [(0, jR jXS), (1, jR 0), (2, jR 74), (3, jR 87), (4, jI i), (5, jI r1.1), (6, jI r2.1)]) (st' := [jI 0]) rfl (p1 := 1073) rfl ?_
        cases hf
    · refine B_blk B (jlkn_ok RL) jcl_SKF [.goto 2549] (by decide +kernel) (ls' := [(0, jR jXS), (1, jR 0), (2, jR 74), (3, jR 87), (4, jI i), (5, jI r1.1), (6, jI r2.1)]) (st' := []) rfl (p1 := 3623) rfl ?_
      refine J_pick [0, 1, 2, 3, 4] (ls' := [(0, jR jXS), (1, jR 0), (2, jR 74), (3, jR 87), (4, jI i)]) rfl ?_
      cases hf
      exact J_widen (by omega) (by omega) hx
  · refine B_blk B (jlkn_ok RL) jcl_SKF [.iconst 0] (by decide +kernel) (ls' := [(0, jR jXS), (1, jR 0), (2, jR 74), (3, jR 87), (4, jI i), (5, jI r1.1), (6, jI r2.1)]) (st' := [jI 0]) rfl (p1 := 1056) rfl ?_
    cases hf
