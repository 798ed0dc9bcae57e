/-! length() and charAt(int) of the String constants -/
def rm_scod : Room := { frames := 2, cells := 0, slots := 0, locals := 64 }
def rm_sck : Room := { frames := 3, cells := 0, slots := 0, locals := 100 }
def rm_sck0 : Room := { frames := 4, cells := 0, slots := 0, locals := 200 }
def rm_sch1 : Room := { frames := 5, cells := 0, slots := 0, locals := 300 }
def rm_slen : Room := { frames := 3, cells := 0, slots := 0, locals := 100 }
def rm_schar : Room := { frames := 6, cells := 0, slots := 0, locals := 400 }
theorem t_scod {l : Launch} {G : jG} {S : List jSh} {μ : jMu} (hl : l.stackTraces = false) (hcl : jcl S) {w : Nat} (hw : w < 19) : jCt l G yJ0_coder_7d493 (.code yJ0_coder_7d493 cJ0_coder_7d493 1 (some .byte) :: jWG) rm_scod [jR (jXK + w)] S μ (.inl (some (jI 0))) S μ := by
  refine J_start (ls0 := [(0, jR (jXK + w))]) (by decide +kernel) hl (Nat.le_of_ble_eq_true rfl) rfl fun X C hN hn hR hr hnm hno hq => ?_
  have B : jB X cJ0_coder_7d493 RJ0 1 S.length rm_scod (some .byte) := ⟨C, hN, Nat.le_of_eq hn, hR, hr⟩
  refine J_scmp B.1 (by decide +kernel) ?_
  refine J_if_eq (T := none) (F := some ()) (r := ()) B.1 (off := 10) (tgt := 13) (by decide +kernel) (by decide) (if_neg (by decide)) (fun h => nomatch h) (fun _ => ?_)
  refine B_blk B (jlkn_ok RJ0) hcl [.aload_n 0] (by decide +kernel) (ls' := [(0, jR (jXK + w))]) (st' := [jR (jXK + w)]) rfl (p1 := 7) rfl ?_
  refine J_scod B.1 hw (by decide +kernel) ?_
  refine B_blk B (jlkn_ok RJ0) hcl [.goto 4] (by decide +kernel) (ls' := [(0, jR (jXK + w))]) (st' := [jI 0]) rfl (p1 := 14) rfl ?_
  exact J_ret B.1 hq (by rw [B.2.2.2.2]) (by decide +kernel) (Nat.le_of_ble_eq_true rfl) (Nat.le_of_ble_eq_true rfl) (by decide +kernel)
theorem t_slat {l : Launch} {G : jG} {S : List jSh} {μ : jMu} (hl : l.stackTraces = false) (hcl : jcl S) {w : Nat} (hw : w < 19) : jCt l G yJ0_isLatin1_aae02 (.code yJ0_isLatin1_aae02 cJ0_isLatin1_aae02 1 (some .boolean) :: jWG) rm_scod [jR (jXK + w)] S μ (.inl (some (jI 1))) S μ := by
  refine J_start (ls0 := [(0, jR (jXK + w))]) (by decide +kernel) hl (Nat.le_of_ble_eq_true rfl) rfl fun X C hN hn hR hr hnm hno hq => ?_
  have B : jB X cJ0_isLatin1_aae02 RJ0 1 S.length rm_scod (some .boolean) := ⟨C, hN, Nat.le_of_eq hn, hR, hr⟩
  refine J_scmp B.1 (by decide +kernel) ?_
  refine J_if_eq (T := none) (F := some ()) (r := ()) B.1 (off := 14) (tgt := 17) (by decide +kernel) (by decide) (if_neg (by decide)) (fun h => nomatch h) (fun _ => ?_)
  refine B_blk B (jlkn_ok RJ0) hcl [.aload_n 0] (by decide +kernel) (ls' := [(0, jR (jXK + w))]) (st' := [jR (jXK + w)]) rfl (p1 := 7) rfl ?_
  refine J_scod B.1 hw (by decide +kernel) ?_
  refine J_if_ne (T := some ()) (F := none) (r := ()) B.1 (off := 7) (tgt := 17) (by decide +kernel) (by decide) (if_pos (by decide)) (fun _ => ?_) (fun h => nomatch h)
  refine B_blk B (jlkn_ok RJ0) hcl [.iconst 1, .goto 4] (by decide +kernel) (ls' := [(0, jR (jXK + w))]) (st' := [jI 1]) rfl (p1 := 18) rfl ?_
  exact J_retZ B.1 (Or.inr rfl) hq (by rw [B.2.2.2.2]) (Nat.le_of_ble_eq_true rfl) (Nat.le_of_ble_eq_true rfl) (by decide +kernel)
theorem t_slen {l : Launch} {G : jG} {S : List jSh} {μ : jMu} (hl : l.stackTraces = false) (hcl : jcl S) {w : Nat} (hw : w < 19) : jCt l G yJ0_length_8abf5 (.code yJ0_length_8abf5 cJ0_length_8abf5 1 (some .int) :: jWG) rm_slen [jR (jXK + w)] S μ (.inl (some (jI (jtl w)))) S μ := by
  refine J_start (ls0 := [(0, jR (jXK + w))]) (by decide +kernel) hl (Nat.le_of_ble_eq_true rfl) rfl fun X C hN hn hR hr hnm hno hq => ?_
  have B : jB X cJ0_length_8abf5 RJ0 1 S.length rm_slen (some .int) := ⟨C, hN, Nat.le_of_eq hn, hR, hr⟩
  refine B_blk B (jlkn_ok RJ0) hcl [.aload_n 0] (by decide +kernel) (ls' := [(0, jR (jXK + w))]) (st' := [jR (jXK + w)]) rfl (p1 := 1) rfl ?_
  refine J_sval B.1 hw (by decide +kernel) ?_
  refine J_slen B.1 hw (by decide +kernel) ?_
  refine B_blk B (jlkn_ok RJ0) hcl [.aload_n 0] (by decide +kernel) (ls' := [(0, jR (jXK + w))]) (st' := [jR (jXK + w), jI (jtl w)]) rfl (p1 := 6) rfl ?_
  refine B_callT B (Nat.le_refl _) hw ca_J0_coder_7d493 in_J0_coder_7d493 se_J0_coder_7d493 lk_J0_335 (t_scod B.tr hcl hw) (Nat.le_refl _) rfl (rest := [jI (jtl w)]) rfl rfl (Nat.le_of_ble_eq_true rfl) (by decide +kernel) rfl rfl (st' := [jI 0, jI (jtl w)]) rfl ?_
  refine B_blk B (jlkn_ok RJ0) hcl [.ishr] (by decide +kernel) (ls' := [(0, jR (jXK + w))]) (st' := [jI (jSr (jtl w) 0)]) rfl (p1 := 10) rfl ?_
  rw [jshr0 w hw]
  exact B_retI B hq rfl (Nat.le_of_ble_eq_true rfl) (Nat.le_of_ble_eq_true rfl) (by decide +kernel)
theorem t_sck {l : Launch} {G : jG} {S : List jSh} {μ : jMu} (hl : l.stackTraces = false) (hcl : jcl S) {i n : Int} {v : jA} (hv : jcat v = 1) (hi : 0 ≤ i ∧ i < n) : jCt l G yJ3_checkIndex_8e157 (.code yJ3_checkIndex_8e157 cJ3_checkIndex_8e157 3 (some .int) :: jWG) rm_scod [jI i, jI n, v] S μ (.inl (some (jI i))) S μ := by
  refine J_start (ls0 := [(0, jI i), (1, jI n), (2, v)]) (by decide +kernel) hl (by simp only [List.map_cons, List.map_nil, List.sum_cons, List.sum_nil, hv]; exact Nat.le_of_ble_eq_true rfl) rfl fun X C hN hn hR hr hnm hno hq => ?_
  have B : jB X cJ3_checkIndex_8e157 RJ3 3 S.length rm_scod (some .int) := ⟨C, hN, Nat.le_of_eq hn, hR, hr⟩
  refine B_blk B (jlkn_ok RJ3) hcl [.iload_n 0] (by decide +kernel) (ls' := [(0, jI i), (1, jI n), (2, v)]) (st' := [jI i]) rfl (p1 := 1) rfl ?_
  refine J_if_lt (T := none) (F := some ()) (r := ()) B.1 (off := 8) (tgt := 9) (by decide +kernel) (by decide) (if_neg (by omega)) (fun h => nomatch h) (fun _ => ?_)
  refine B_blk B (jlkn_ok RJ3) hcl [.iload_n 0, .iload_n 1] (by decide +kernel) (ls' := [(0, jI i), (1, jI n), (2, v)]) (st' := [jI n, jI i]) rfl (p1 := 6) rfl ?_
  refine J_icmp_lt (T := some ()) (F := none) (r := ()) B.1 (off := 10) (tgt := 16) (by decide +kernel) (by decide) (if_pos (by omega)) (fun _ => ?_) (fun h => nomatch h)
  refine B_blk B (jlkn_ok RJ3) hcl [.iload_n 0] (by decide +kernel) (ls' := [(0, jI i), (1, jI n), (2, v)]) (st' := [jI i]) rfl (p1 := 17) rfl ?_
  exact B_retI B hq rfl (Nat.le_of_ble_eq_true rfl) (Nat.le_of_ble_eq_true rfl) (by decide +kernel)
theorem t_sck0 {l : Launch} {G : jG} {S : List jSh} {μ : jMu} (hl : l.stackTraces = false) (hcl : jcl S) {i n : Int} (hi : 0 ≤ i ∧ i < n) : jCt l G yJ0_checkIndex_df160 (.code yJ0_checkIndex_df160 cJ0_checkIndex_df160 2 none :: jWG) rm_sck [jI i, jI n] S μ (.inl none) S μ := by
  refine J_start (ls0 := [(0, jI i), (1, jI n)]) (by decide +kernel) hl (Nat.le_of_ble_eq_true rfl) rfl fun X C hN hn hR hr hnm hno hq => ?_
  have B : jB X cJ0_checkIndex_df160 RJ0 2 S.length rm_sck none := ⟨C, hN, Nat.le_of_eq hn, hR, hr⟩
  refine B_blk B (jlkn_ok RJ0) hcl [.iload_n 0, .iload_n 1] (by decide +kernel) (ls' := [(0, jI i), (1, jI n)]) (st' := [jI n, jI i]) rfl (p1 := 2) rfl ?_
  refine J_sfmt B.1 (by decide +kernel) fun v hv => ?_
  refine B_callS B (Nat.le_refl _) ca_J3_checkIndex_8e157 sa_J3_checkIndex_8e157 lk_J0_1059 (t_sck B.tr hcl hv hi) (Nat.le_refl _) rfl (rest := []) rfl rfl (by decide) (by decide +kernel) rfl rfl (st' := [jI i]) rfl ?_
  refine B_blk B (jlkn_ok RJ0) hcl [.pop] (by decide +kernel) (ls' := [(0, jI i), (1, jI n)]) (st' := []) rfl (p1 := 9) rfl ?_
  exact B_retV B hq rfl (Nat.le_of_ble_eq_true rfl) (Nat.le_of_ble_eq_true rfl) (by decide +kernel)
theorem t_sch1 {l : Launch} {G : jG} {S : List jSh} {μ : jMu} (hl : l.stackTraces = false) (hcl : jcl S) {w : Nat} (hw : w < 19) {j : Int} (hj : 0 ≤ j ∧ j < jtl w) : jCt l G yJ1_charAt_3b067 (.code yJ1_charAt_3b067 cJ1_charAt_3b067 2 (some .char) :: jWG) rm_sck0 [jR (jXB + w), jI j] S μ (.inl (some (jI (jtc w j)))) S μ := by
  have t6 := (jtx_all w hw).2.2.2.2 j.toNat (by omega)
  have ej : ((j.toNat : Nat) : Int) = j := by omega
  rw [ej] at t6
  refine J_start (ls0 := [(0, jR (jXB + w)), (1, jI j)]) (by decide +kernel) hl (Nat.le_of_ble_eq_true rfl) rfl fun X C hN hn hR hr hnm hno hq => ?_
  have B : jB X cJ1_charAt_3b067 RJ1 2 S.length rm_sck0 (some .char) := ⟨C, hN, Nat.le_of_eq hn, hR, hr⟩
  refine B_blk B (jlkn_ok RJ1) hcl [.iload_n 1, .aload_n 0] (by decide +kernel) (ls' := [(0, jR (jXB + w)), (1, jI j)]) (st' := [jR (jXB + w), jI j]) rfl (p1 := 2) rfl ?_
  refine J_slen B.1 hw (by decide +kernel) ?_
  refine B_callS B (Nat.le_refl _) ca_J0_checkIndex_df160 sa_J0_checkIndex_df160 lk_J1_9 (t_sck0 B.tr hcl hj) (Nat.le_refl _) rfl (rest := []) rfl rfl (by decide) (by decide +kernel) rfl rfl (st' := []) rfl ?_
  refine B_blk B (jlkn_ok RJ1) hcl [.aload_n 0, .iload_n 1] (by decide +kernel) (ls' := [(0, jR (jXB + w)), (1, jI j)]) (st' := [jI j, jR (jXB + w)]) rfl (p1 := 8) rfl ?_
  refine J_sbal B.1 hw hj (by decide +kernel) ?_
  refine B_blk B (jlkn_ok RJ1) hcl [.sipush 255, .iand] (by decide +kernel) (ls' := [(0, jR (jXB + w)), (1, jI j)]) (st' := [jI (jAn (jtc w j) 255)]) rfl (p1 := 13) rfl ?_
  rw [(jnar _ t6.2.1 t6.2.2).2.2]
  refine J_i2c B.1 t6.2.1 t6.2.2 (by decide +kernel) ?_
  exact J_ret B.1 hq (by rw [B.2.2.2.2]) (jnar _ t6.2.1 t6.2.2).1 (Nat.le_of_ble_eq_true rfl) (Nat.le_of_ble_eq_true rfl) (by decide +kernel)
theorem t_schar {l : Launch} {G : jG} {S : List jSh} {μ : jMu} (hl : l.stackTraces = false) (hcl : jcl S) {w : Nat} (hw : w < 19) {j : Int} (hj : 0 ≤ j ∧ j < jtl w) : jCt l G yJ0_charAt_5068e (.code yJ0_charAt_5068e cJ0_charAt_5068e 2 (some .char) :: jWG) rm_sch1 [jR (jXK + w), jI j] S μ (.inl (some (jI (jtc w j)))) S μ := by
  have t6 := (jtx_all w hw).2.2.2.2 j.toNat (by omega)
  have ej : ((j.toNat : Nat) : Int) = j := by omega
  rw [ej] at t6
  refine J_start (ls0 := [(0, jR (jXK + w)), (1, jI j)]) (by decide +kernel) hl (Nat.le_of_ble_eq_true rfl) rfl fun X C hN hn hR hr hnm hno hq => ?_
  have B : jB X cJ0_charAt_5068e RJ0 2 S.length rm_sch1 (some .char) := ⟨C, hN, Nat.le_of_eq hn, hR, hr⟩
  refine B_blk B (jlkn_ok RJ0) hcl [.aload_n 0] (by decide +kernel) (ls' := [(0, jR (jXK + w)), (1, jI j)]) (st' := [jR (jXK + w)]) rfl (p1 := 1) rfl ?_
  refine B_callT B (Nat.le_refl _) hw ca_J0_isLatin1_aae02 in_J0_isLatin1_aae02 se_J0_isLatin1_aae02 lk_J0_492 (t_slat B.tr hcl hw) (Nat.le_refl _) rfl (rest := []) rfl rfl (by decide) (by decide +kernel) rfl rfl (st' := [jI 1]) rfl ?_
  refine J_if_eq (T := none) (F := some ()) (r := ()) B.1 (off := 12) (tgt := 16) (by decide +kernel) (by decide) (if_neg (by decide)) (fun h => nomatch h) (fun _ => ?_)
  refine B_blk B (jlkn_ok RJ0) hcl [.aload_n 0] (by decide +kernel) (ls' := [(0, jR (jXK + w)), (1, jI j)]) (st' := [jR (jXK + w)]) rfl (p1 := 8) rfl ?_
  refine J_sval B.1 hw (by decide +kernel) ?_
  refine B_blk B (jlkn_ok RJ0) hcl [.iload_n 1] (by decide +kernel) (ls' := [(0, jR (jXK + w)), (1, jI j)]) (st' := [jI j, jR (jXB + w)]) rfl (p1 := 12) rfl ?_
  refine B_callS B (Nat.le_refl _) ca_J1_charAt_3b067 sa_J1_charAt_3b067 lk_J0_495 (t_sch1 B.tr hcl hw hj) (Nat.le_refl _) rfl (rest := []) rfl rfl (by decide) (by decide +kernel) rfl rfl (st' := [jI (jtc w j)]) rfl ?_
  exact J_ret B.1 hq (by rw [B.2.2.2.2]) (jnar _ t6.2.1 t6.2.2).1 (Nat.le_of_ble_eq_true rfl) (Nat.le_of_ble_eq_true rfl) (by decide +kernel)
section KTEXT
variable {X : jX} {S : List jSh} {μ : jMu} {k n pc nL n0 : Nat} {ls : List (Nat × jA)} {st rest : List jA} {cc : ByteArray} {own : String} {R : Room} {rt : Option FieldType} {w : Nat}
theorem K_slen (B : jB X cc own nL n0 R rt) (hcl : jcl S) (hn0 : n0 ≤ S.length) (hw : w < 19) {idx : Nat} (hlink : Cond.methodLink own idx yJ0_length_8abf5 ∈ jWG) (hroom : jRm' R rm_slen k n 1 = true) (hstk : st = jR (jXK + w) :: rest) (h8 : (rest.map jcat).sum ≤ 8) (d : decode cc pc = .ok (.invokevirtual idx, 3)) (kk : J X S μ k n (pc + 3) ls (jI (jtl w) :: rest)) : J X S μ k n pc ls st :=
  B_callT B hn0 hw ca_J0_length_8abf5 in_J0_length_8abf5 se_J0_length_8abf5 hlink (t_slen B.tr hcl hw) (Nat.le_refl _) hroom (rest := rest) hstk rfl h8 d rfl rfl rfl kk
theorem K_schar (B : jB X cc own nL n0 R rt) (hcl : jcl S) (hn0 : n0 ≤ S.length) (hw : w < 19) {idx : Nat} (hlink : Cond.methodLink own idx yJ0_charAt_5068e ∈ jWG) {j : Int} (hj : 0 ≤ j ∧ j < jtl w) (hroom : jRm' R rm_sch1 k n 2 = true) (hstk : st = jI j :: jR (jXK + w) :: rest) (h8 : (rest.map jcat).sum ≤ 8) (d : decode cc pc = .ok (.invokevirtual idx, 3)) (kk : J X S μ k n (pc + 3) ls (jI (jtc w j) :: rest)) : J X S μ k n pc ls st :=
  B_callT B hn0 hw ca_J0_charAt_5068e in_J0_charAt_5068e se_J0_charAt_5068e hlink (t_schar B.tr hcl hw hj) (Nat.le_refl _) hroom (rest := rest) hstk rfl h8 d rfl rfl rfl kk
end KTEXT
theorem K_tswI {X : jX} {S : List jSh} {μ : jMu} {k n pc nL n0 : Nat} {ls : List (Nat × jA)} {st : List jA} {cc : ByteArray} {own : String} {R : Room} {rt : Option FieldType} (B : jB X cc own nL n0 R rt) {x x0 dflt lo hi off : Int} {offs : Array Int} {len tgt : Nat} (hx : x = x0) (d : decode cc pc = .ok (.tableswitch dflt lo hi offs, len)) (h1 : lo ≤ x0) (h2 : x0 ≤ hi) (ho : offs[(x0 - lo).toNat]? = some off) (ht : (pc : Int) + off = (tgt : Int)) (h : J X S μ k n tgt ls st) : J X S μ k n pc ls (jI x :: st) := by
  subst hx
  exact J_tswI B.1 d h1 h2 ho ht h
