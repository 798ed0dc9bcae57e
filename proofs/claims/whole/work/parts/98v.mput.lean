/-! LEVEL 2: the reference's put -/
/-- bays and gangs from the last one on -/
def prL (s G : Int) : Nat → Int → List (Int × Int)
  | 0, _ => []
  | n + 1, c => if jAn (jSr s (n : Int)) 1 = 1 then ((n : Int), c % G) :: prL s G n (c / G) else prL s G n c
theorem prL_s {s G : Int} {n : Nat} {c : Int} : prL s G (n + 1) c = if jAn (jSr s (n : Int)) 1 = 1 then ((n : Int), c % G) :: prL s G n (c / G) else prL s G n c := rfl
theorem prL_zip {s : Int} {G : Nat} : ∀ (n : Nat) (c : Int), 0 ≤ c → prL s (G : Int) n c = ((lsF s n 0).zip (dgl G (lsF s n 0).length c)).reverse := by
  intro n
  induction n with
  | zero => intro c _; rfl
  | succ n ih =>
    intro c hc
    have sn := lsF_snoc (v := s) n 0
    rw [show (0 : Int) + (n : Int) = (n : Int) by omega] at sn
    rw [prL_s]
    by_cases g : jAn (jSr s (n : Int)) 1 = 1
    · rw [if_pos g] at sn
      have el : (lsF s (n + 1) 0).length = (lsF s n 0).length + 1 := by rw [sn, List.length_append]; rfl
      have hd : 0 ≤ c / (G : Int) := Int.ediv_nonneg hc (by omega)
      rw [if_pos g, ih _ hd, el, sn, dgl_snoc, List.zip_append (by rw [dgl_len]), List.reverse_append]
      rfl
    · rw [if_neg g, List.append_nil] at sn
      rw [if_neg g, ih c hc, sn]
/-- the state while a code is read -/
theorem m_put160 {mm : jMu} {M : Int → Int} (C : kC mm 0 M) {t s mo v4 v6 v7 v8 : Int} {G : Nat} (ht : 0 ≤ t ∧ t < M 5) (hm : 0 ≤ mo) (hG : M 6 = (G : Int)) (hs : ∃ n : Nat, s = (n : Int) ∧ n < 256) (hl : (bls s).length ≤ G) : ∀ (n q : Nat) (rest u sum : Int) (m : jMu), m 75 = M → kOp m M t → (∀ j, 0 ≤ j → j < M 8 → m 80 j = sDry M j) → (n : Int) ≤ M 0 → n < q → 0 ≤ rest → rest ≤ 1000 → (0 ≤ u ∧ u < 16) → 0 ≤ sum → sum ≤ 30000 - 2500 * (n : Int) →
    ∃ (all gd : Int) (m' : jMu), f_X10_put_L160 q s mo v4 v6 v7 v8 rest u sum 1 ((n : Int) - 1) m = some (s, mo, v4, v6, v7, v8, all, gd, m') ∧ (∀ c, c ≠ 83 → m' c = m c) ∧ (∀ x, (n : Int) ≤ x → m' 83 x = m 83 x) ∧
      ((gd = 0 ∧ pf (Eg M t mo) (prL s (G : Int) n rest) u sum = -1) ∨ (gd = 1 ∧ all = pf (Eg M t mo) (prL s (G : Int) n rest) u sum ∧ pf (Eg M t mo) (prL s (G : Int) n rest) u sum ≠ -1 ∧ (∀ x, 0 ≤ x → x < (n : Int) → ¬ jAn (jSr s x) 1 = 1 → m' 83 x = -1) ∧ ∀ i : Nat, i < (lsF s n 0).length → m' 83 ((lsF s n 0).getD i 0) = (dgl G (lsF s n 0).length rest).getD i 0)) := by
  have hn := C.n
  intro n
  induction n with
  | zero =>
    intro q rest u sum m e75 O hD _ hq _ _ _ s0 _
    obtain ⟨q, rfl⟩ : ∃ t, q = t + 1 := ⟨q - 1, by omega⟩
    refine ⟨sum, 1, m, ?_, fun _ _ => rfl, fun _ _ => rfl, Or.inr ⟨rfl, rfl, by show sum ≠ -1; omega, fun x a b => by omega, fun i hi => absurd hi (Nat.not_lt_zero _)⟩⟩
    rw [f_X10_put_L160, if_pos (by omega)]
  | succ n ih =>
    intro q rest u sum m e75 O hD hn0 hq r0 r1 hu s0 s1
    obtain ⟨q, rfl⟩ : ∃ t, q = t + 1 := ⟨q - 1, by omega⟩
    have eb : ((n + 1 : Nat) : Int) - 1 = (n : Int) := by omega
    have ej : jW ((n : Int) + (-1)) = (n : Int) - 1 := by rw [jW_of (by omega) (by omega)]; omega
    obtain ⟨sn, es, sn1⟩ := hs
    have b01 := lst_bit01 sn sn1 n (by omega)
    rw [← es] at b01
    have sno := lsF_snoc (v := s) n 0
    rw [show (0 : Int) + (n : Int) = (n : Int) by omega] at sno
    have q75 : jup m 83 (n : Int) (-1) 75 = M := by rw [jup_c (by decide)]; exact e75
    rw [eb, prL_s, f_X10_put_L160, if_neg (by omega), if_neg (show ¬ (1 : Int) = 0 by decide), if_pos (by omega), jlt_eq]
    by_cases g : jAn (jSr s (n : Int)) 1 = 1
    · rw [if_pos g] at sno
      have el : (lsF s (n + 1) 0).length = (lsF s n 0).length + 1 := by rw [sno, List.length_append]; rfl
      have le := lsF_le (v := s) (n + 1) (8 - (n + 1))
      rw [show n + 1 + (8 - (n + 1)) = 8 by omega] at le
      have le' : (lsF s (n + 1) 0).length ≤ (bls s).length := le
      have G1 : 1 ≤ G := by omega
      have hr0 : 0 ≤ rest % (G : Int) := Int.emod_nonneg _ (by omega)
      have hr1 : rest % (G : Int) < (G : Int) := Int.emod_lt_of_pos _ (by omega)
      have hd0 : 0 ≤ rest / (G : Int) := Int.ediv_nonneg r0 (by omega)
      have hd1 : rest / (G : Int) ≤ rest := Int.ediv_le_self _ r0
      have er : jRm rest (G : Int) = rest % (G : Int) := xrm r0 (by omega) (by omega)
      have ed : jDv rest (G : Int) = rest / (G : Int) := xdv r0 (by omega) (by omega)
      have U := us_i hu (g := rest % (G : Int)) ⟨hr0, by omega⟩ (h := 0)
      have Eb := Eg_b (M := M) (t := t) hm (n : Int) (rest % (G : Int))
      rw [if_neg (by omega), if_pos g, q75, hG, er, ed, if_pos (by omega), if_pos (by omega), if_pos (by omega), jlt_eq, pf_c]
      -- the memory with the gang in its place
      have F : ∀ c, c ≠ 83 → jup (jup m 83 (n : Int) (-1)) 83 (n : Int) (rest % (G : Int)) c = m c := fun c hc => by rw [jup_c hc, jup_c hc]
      have S83 : jup (jup m 83 (n : Int) (-1)) 83 (n : Int) (rest % (G : Int)) 83 (n : Int) = rest % (G : Int) := jup_s
      have N83 : ∀ x, x ≠ (n : Int) → jup (jup m 83 (n : Int) (-1)) 83 (n : Int) (rest % (G : Int)) 83 x = m 83 x := fun x hx => by rw [jup_j hx, jup_j hx]
      generalize jup (jup m 83 (n : Int) (-1)) 83 (n : Int) (rest % (G : Int)) = m1 at *
      have x75 : m1 75 = M := (F 75 (by decide)).trans e75
      have O1 : kOp m1 M t := fun b k a1 a2 a3 a4 => by rw [F 79 (by decide)]; exact O b k a1 a2 a3 a4
      have D1 : ∀ j, 0 ≤ j → j < M 8 → m1 80 j = sDry M j := fun j a b => by rw [F 80 (by decide)]; exact hD j a b
      -- where it is not good the reading ends
      have bad : ∀ a : Int, ∃ m', f_X10_put_L160 q s mo v4 v6 v7 v8 (rest / (G : Int)) (jOr u (jSl 1 (rest % (G : Int)))) a 0 (jW ((n : Int) + (-1))) m1 = some (s, mo, v4, v6, v7, v8, a, 0, m') ∧ (∀ c, c ≠ 83 → m' c = m c) ∧ ∀ x, ((n + 1 : Nat) : Int) ≤ x → m' 83 x = m 83 x := by
        intro a
        obtain ⟨q, rfl⟩ : ∃ t, q = t + 1 := ⟨q - 1, by omega⟩
        refine ⟨m1, ?_, F, fun x hx => N83 x (by omega)⟩
        rw [f_X10_put_L160]
        by_cases y : jW ((n : Int) + (-1)) < 0
        · rw [if_pos y]
        · rw [if_neg y, if_pos rfl]
      by_cases g2 : jAn (jSr u (rest % (G : Int))) 1 = 1
      · rw [if_pos g2, if_pos (Or.inr g2)]
        obtain ⟨m', a1, a2, a3⟩ := bad (jW (sum + (-1)))
        exact ⟨_, 0, m', a1, a2, a3, Or.inl ⟨rfl, rfl⟩⟩
      · have ef := m_ef (m := m1) (mm := mm) (t := t) (bay := (n : Int)) (g := rest % (G : Int)) (mo := mo) (by rw [x75]; exact C) (by rw [x75]; exact O1) (by rw [x75]; exact D1) (by rw [x75]; omega) (by rw [x75]; omega) hm
        rw [x75] at ef
        have eE : Eg M t mo (n : Int) (rest % (G : Int)) = sGo M t (rest % (G : Int)) (n : Int) mo := by
          unfold Eg
          rw [if_pos (by omega)]
        rw [if_neg g2, ef, Option.bind_some, ← eE]
        show ∃ (all gd : Int) (m' : jMu), (if Eg M t mo (n : Int) (rest % (G : Int)) = -1 then _ else _) = _ ∧ _
        by_cases g3 : Eg M t mo (n : Int) (rest % (G : Int)) = -1
        · rw [if_pos g3, if_pos (Or.inl g3)]
          obtain ⟨m', a1, a2, a3⟩ := bad (jW (sum + Eg M t mo (n : Int) (rest % (G : Int))))
          exact ⟨_, 0, m', a1, a2, a3, Or.inl ⟨rfl, rfl⟩⟩
        · rw [if_neg g3, if_neg (fun z => z.elim g3 g2), ej, jW_of (z := sum + Eg M t mo (n : Int) (rest % (G : Int))) (by omega) (by omega)]
          obtain ⟨all, gd, m', i1, i2, i3, i4⟩ := ih q (rest / (G : Int)) (jOr u (jSl 1 (rest % (G : Int)))) (sum + Eg M t mo (n : Int) (rest % (G : Int))) m1 x75 O1 D1 (by omega) (by omega) hd0 (by omega) U.1 (by omega) (by omega)
          refine ⟨all, gd, m', i1, fun c hc => (i2 c hc).trans (F c hc), fun x hx => by rw [i3 x (by omega), N83 x (by omega)], i4.imp id (fun z => ⟨z.1, z.2.1, z.2.2.1, fun x x0 x1 hx => ?_, fun i hi => ?_⟩)⟩
          · by_cases ex : x = (n : Int)
            · rw [ex] at hx
              exact (hx g).elim
            · exact z.2.2.2.1 x x0 (by omega) hx
          · rw [el] at hi
            rw [el, sno, dgl_snoc]
            by_cases ei : i = (lsF s n 0).length
            · have e1 : (lsF s n 0 ++ [(n : Int)]).getD i 0 = (n : Int) := by rw [ei, getD_r (Nat.le_refl _), Nat.sub_self]; rfl
              have e2 : (dgl G (lsF s n 0).length (rest / (G : Int)) ++ [rest % (G : Int)]).getD i 0 = rest % (G : Int) := by rw [ei, getD_r (by rw [dgl_len]; exact Nat.le_refl _), dgl_len, Nat.sub_self]; rfl
              rw [e1, e2, i3 (n : Int) (Int.le_refl _)]
              exact S83
            · rw [getD_l (by omega), getD_l (by rw [dgl_len]; omega)]
              exact z.2.2.2.2 i (by omega)
    · rw [if_neg g, List.append_nil] at sno
      rw [if_pos (by omega), if_neg g, ej]
      obtain ⟨all, gd, m', i1, i2, i3, i4⟩ := ih q rest u sum (jup m 83 (n : Int) (-1)) q75 (fun b k a1 a2 a3 a4 => by rw [jup_c (by decide)]; exact O b k a1 a2 a3 a4) (fun j a b => by rw [jup_c (by decide)]; exact hD j a b) (by omega) (by omega) r0 r1 hu s0 (by omega)
      refine ⟨all, gd, m', i1, fun c hc => by rw [i2 c hc, jup_c hc], fun x hx => by rw [i3 x (by omega), jup_j (by omega)], i4.imp id (fun z => ⟨z.1, z.2.1, z.2.2.1, fun x x0 x1 hx => ?_, fun i hi => ?_⟩)⟩
      · by_cases ex : x = (n : Int)
        · rw [ex, i3 (n : Int) (Int.le_refl _), jup_s]
        · exact z.2.2.2.1 x x0 (by omega) hx
      · rw [sno] at hi ⊢
        exact z.2.2.2.2 i hi
theorem m_copy312 {m : jMu} {v1 v2 v3 v4 v5 v6 : Int} (hn : 0 ≤ m 75 0 ∧ m 75 0 ≤ 8) : ∃ m', f_X10_put_L312 jFU v1 v2 v3 v4 v5 v6 0 m = some (v1, v2, v3, v4, v5, v6, m') ∧ (∀ c, c ≠ 84 → m' c = m c) ∧ ∀ j, 0 ≤ j → j < m 75 0 → m' 84 j = m 83 j := by
  obtain ⟨m', a, b⟩ := itz_loop (L := fun q i (_ : Unit) m => f_X10_put_L312 q v1 v2 v3 v4 v5 v6 i m) (fun _ s => s) (fun _ m => (v1, v2, v3, v4, v5, v6, m)) (fun i _ m' => (∀ c, c ≠ 84 → m' c = m c) ∧ ∀ j, 0 ≤ j → j < i → m' 84 j = m 83 j) (lo := 0) (n := m 75 0) (by
    intro q i u m1 g0 g1 hI
    have e75 : m1 75 = m 75 := hI.1 75 (by decide)
    have e83 : m1 83 = m 83 := hI.1 83 (by decide)
    refine ⟨jup m1 84 i (m 83 i), ⟨fun c hc => by rw [jup_c hc, hI.1 c hc], fun j j0 j1 => ?_⟩, ?_⟩
    · by_cases e : j = i
      · rw [e, jup_s]
      · rw [jup_j e]; exact hI.2 j j0 (by omega)
    · show f_X10_put_L312 (q + 1) v1 v2 v3 v4 v5 v6 i m1 = _
      rw [f_X10_put_L312, e75, if_neg (by omega), if_pos (by omega), if_pos (by omega), jlt_eq, e83, jW_of (by omega) (by omega)]) (by
    intro q u m1 hI
    have e75 : m1 75 = m 75 := hI.1 75 (by decide)
    show f_X10_put_L312 (q + 1) v1 v2 v3 v4 v5 v6 (m 75 0) m1 = _
    rw [f_X10_put_L312, e75, if_pos (Int.le_refl _)]) (m 75 0).toNat jFU 0 () m (Int.le_refl _) (by omega) (by unfold jFU; omega) ⟨fun _ _ => rfl, fun j a b => by omega⟩
  exact ⟨m', b, a.1, a.2⟩
/-- what the best so far has in the reference's array -/
def kPb (M : Int → Int) (s : Int) (st : Int × List Int) (m' : jMu) : Prop := st.1 = -1 ∨ (0 ≤ st.1 ∧ (∀ x, 0 ≤ x → x < M 0 → ¬ jAn (jSr s x) 1 = 1 → m' 84 x = -1) ∧ ∀ i : Nat, i < (bls s).length → m' 84 ((bls s).getD i 0) = st.2.getD i 0)
theorem pw_all : ∀ G : Nat, G < 5 → ∀ r : Nat, r < 5 → r ≤ G → 1 ≤ G ^ r ∧ G ^ r ≤ 256 := by decide +kernel
theorem m_put130 {mm m : jMu} (C : kC mm 0 (m 75)) {t s mo bay : Int} {G : Nat} (ht : 0 ≤ t ∧ t < m 75 5) (hm : 0 ≤ mo) (hG : m 75 6 = (G : Int)) (O : kOp m (m 75) t) (hD : ∀ j, 0 ≤ j → j < m 75 8 → m 80 j = sDry (m 75) j) (hs0 : 0 ≤ s) (hs : s < ((2 ^ (m 75 0).toNat : Nat) : Int)) (hl : (bls s).length ≤ G) (hb : bay = -1 ∨ (0 ≤ bay ∧ bay < m 75 0)) : ∃ m', f_X10_put_L130 jFU s mo bay ((G ^ (bls s).length : Nat) : Int) (-1) 0 m = some (sPut (m 75) t s mo bay, m') ∧ ∀ c, c ≠ 83 → c ≠ 84 → m' c = m c := by
  have hn := C.n
  have hB := cBs C
  have pw := pw_all G (by omega) (bls s).length (by omega) hl
  have hsn : ∃ n : Nat, s = (n : Int) ∧ n < 256 := ⟨s.toNat, by omega, by omega⟩
  have la := lsF_all (m 75 0).toNat (by omega) s.toNat (by omega)
  rw [show ((s.toNat : Nat) : Int) = s by omega] at la
  obtain ⟨m1, q1, J, _, e1⟩ := itr_run (L := fun q c (st : Int × List Int) m => f_X10_put_L130 q s mo bay ((G ^ (bls s).length : Nat) : Int) st.1 c m) (fun c st => spS (pVal (m 75) t mo (bls s)) st (dgl G (bls s).length c)) (fun _ st m' => (∀ c, c ≠ 83 → c ≠ 84 → m' c = m c) ∧ kPb (m 75) s st m') (lo := 0) (n := ((G ^ (bls s).length : Nat) : Int)) (by
    intro q c st m2 h0 h1 hI
    obtain ⟨F, P⟩ := hI
    have e75 : m2 75 = m 75 := F 75 (by decide) (by decide)
    have e79 : m2 79 = m 79 := F 79 (by decide) (by decide)
    have e80 : m2 80 = m 80 := F 80 (by decide) (by decide)
    obtain ⟨all, gd, m3, x1, x2, x3, x4⟩ := m_put160 C (t := t) (s := s) (mo := mo) (v4 := bay) (v6 := ((G ^ (bls s).length : Nat) : Int)) (v7 := st.1) (v8 := c) (G := G) ht hm hG hsn hl (m 75 0).toNat jFU c 0 0 m2 e75 (fun b k a1 a2 a3 a4 => by rw [e79]; exact O b k a1 a2 a3 a4) (fun j a b => by rw [e80]; exact hD j a b) (by omega) (by unfold jFU; omega) h0 (by omega) ⟨Int.le_refl _, by decide⟩ (Int.le_refl _) (by omega)
    have dz : ∀ p ∈ (bls s).zip (dgl G (bls s).length c), 0 ≤ p.2 ∧ p.2 < 4 := by
      intro p hp
      have hp2 := (List.of_mem_zip (a := p.1) (b := p.2) hp).2
      obtain ⟨j, hj, e⟩ := ix_mem hp2
      rw [dgl_len] at hj
      have G1 : 1 ≤ G := by omega
      rw [← e, dgl_get hj]
      have a1 := Int.emod_nonneg (c / (G : Int) ^ ((bls s).length - 1 - j)) (show (G : Int) ≠ 0 by omega)
      have a2 := Int.emod_lt_of_pos (c / (G : Int) ^ ((bls s).length - 1 - j)) (show 0 < (G : Int) by omega)
      omega
    have ev : pf (Eg (m 75) t mo) (prL s (G : Int) (m 75 0).toNat c) 0 0 = pVal (m 75) t mo (bls s) (dgl G (bls s).length c) := by
      rw [prL_zip _ c h0, la, pf_rev dz]
      rfl
    rw [ev, la] at x4
    have en : jW (m2 75 0 - 1) = ((m 75 0).toNat : Int) - 1 := by rw [e75, jW_of (by omega) (by omega)]; omega
    have ei : jW (c + 1) = c + 1 := jW_of (by omega) (by omega)
    have F3 : ∀ x, x ≠ 83 → x ≠ 84 → m3 x = m x := fun x a b => (x2 x a).trans (F x a b)
    have q84 : m3 84 = m2 84 := x2 84 (by decide)
    have E : f_X10_put_L130 (q + 1) s mo bay ((G ^ (bls s).length : Nat) : Int) st.1 c m2 = (if gd = 0 then f_X10_put_L130 q s mo bay ((G ^ (bls s).length : Nat) : Int) st.1 (c + 1) m3 else (if st.1 = -1 then (f_X10_put_L312 jFU s mo bay ((G ^ (bls s).length : Nat) : Int) all c 0 m3).bind (fun r17 => f_X10_put_L130 q r17.1 r17.2.1 r17.2.2.1 r17.2.2.2.1 r17.2.2.2.2.1 (jW (r17.2.2.2.2.2.1 + 1)) r17.2.2.2.2.2.2) else (if all < st.1 then (f_X10_put_L312 jFU s mo bay ((G ^ (bls s).length : Nat) : Int) all c 0 m3).bind (fun r18 => f_X10_put_L130 q r18.1 r18.2.1 r18.2.2.1 r18.2.2.2.1 r18.2.2.2.2.1 (jW (r18.2.2.2.2.2.1 + 1)) r18.2.2.2.2.2.2) else f_X10_put_L130 q s mo bay ((G ^ (bls s).length : Nat) : Int) st.1 (c + 1) m3))) := by
      rw [f_X10_put_L130, if_neg (by omega), en, x1, Option.bind_some]
      show (if gd = 0 then f_X10_put_L130 q s mo bay ((G ^ (bls s).length : Nat) : Int) st.1 (jW (c + 1)) m3 else _) = _
      rw [ei]
    -- a better one
    have good : gd = 1 → (∀ x, 0 ≤ x → x < ((m 75 0).toNat : Int) → ¬ jAn (jSr s x) 1 = 1 → m3 83 x = -1) → (∀ i : Nat, i < (bls s).length → m3 83 ((bls s).getD i 0) = (dgl G (bls s).length c).getD i 0) → 0 ≤ all → ∃ m4, (f_X10_put_L312 jFU s mo bay ((G ^ (bls s).length : Nat) : Int) all c 0 m3).bind (fun r17 => f_X10_put_L130 q r17.1 r17.2.1 r17.2.2.1 r17.2.2.2.1 r17.2.2.2.2.1 (jW (r17.2.2.2.2.2.1 + 1)) r17.2.2.2.2.2.2) = f_X10_put_L130 q s mo bay ((G ^ (bls s).length : Nat) : Int) all (c + 1) m4 ∧ (∀ x, x ≠ 83 → x ≠ 84 → m4 x = m x) ∧ kPb (m 75) s (all, dgl G (bls s).length c) m4 := by
      intro _ h3 h4 h5
      have r75 : m3 75 = m 75 := F3 75 (by decide) (by decide)
      obtain ⟨m4, y1, y2, y3⟩ := m_copy312 (m := m3) (v1 := s) (v2 := mo) (v3 := bay) (v4 := ((G ^ (bls s).length : Nat) : Int)) (v5 := all) (v6 := c) (by rw [r75]; omega)
      rw [r75] at y3
      refine ⟨m4, ?_, fun x a b => (y2 x b).trans (F3 x a b), Or.inr ⟨h5, fun x x0 x1' hx => ?_, fun i hi => ?_⟩⟩
      · rw [y1, Option.bind_some]
        show f_X10_put_L130 q s mo bay ((G ^ (bls s).length : Nat) : Int) all (jW (c + 1)) m4 = _
        rw [ei]
      · rw [y3 x x0 x1']
        exact h3 x x0 (by omega) hx
      · have hmem : (bls s).getD i 0 ∈ bls s := by
          rw [List.getD_eq_getElem?_getD, List.getElem?_eq_getElem hi]
          exact List.getElem_mem hi
        have hx := lst_n (n := (m 75 0).toNat) (s := s.toNat) (by omega) (by omega) (by rw [show ((s.toNat : Nat) : Int) = s by omega]; exact hmem)
        rw [y3 _ hx.1 (by omega)]
        exact h4 i hi
    show ∃ m', ((∀ c, c ≠ 83 → c ≠ 84 → m' c = m c) ∧ kPb (m 75) s (spS (pVal (m 75) t mo (bls s)) st (dgl G (bls s).length c)) m') ∧ f_X10_put_L130 (q + 1) s mo bay ((G ^ (bls s).length : Nat) : Int) st.1 c m2 = f_X10_put_L130 q s mo bay ((G ^ (bls s).length : Nat) : Int) (spS (pVal (m 75) t mo (bls s)) st (dgl G (bls s).length c)).1 (c + 1) m'
    rw [E]
    unfold spS
    have pv := pVal_b (M := m 75) (t := t) hm (show (bls s).length ≤ 4 by omega) (dgl G (bls s).length c)
    rcases x4 with ⟨g0, g1⟩ | ⟨g0, g1, g2, g3, g4⟩
    · refine ⟨m3, ⟨F3, ?_⟩, ?_⟩
      · rw [if_pos g1]
        unfold kPb
        rw [q84]
        exact P
      · rw [if_pos g0, if_pos g1]
    · rw [if_neg (show ¬ gd = 0 by omega), if_neg g2]
      by_cases z : st.1 = -1
      · obtain ⟨m4, y1, y2, y3⟩ := good g0 g3 g4 (by omega)
        refine ⟨m4, ⟨y2, ?_⟩, ?_⟩
        · rw [if_pos z, ← g1]; exact y3
        · rw [if_pos z, if_pos z, y1, g1]
      · by_cases y : all < st.1
        · obtain ⟨m4, y1, y2, y3⟩ := good g0 g3 g4 (by omega)
          refine ⟨m4, ⟨y2, ?_⟩, ?_⟩
          · rw [if_neg z, if_neg (by omega), ← g1]; exact y3
          · rw [if_neg z, if_neg z, if_pos y, if_neg (by omega), y1, g1]
        · refine ⟨m3, ⟨F3, ?_⟩, ?_⟩
          · rw [if_neg z, if_pos (by omega)]
            unfold kPb
            rw [q84]
            exact P
          · rw [if_neg z, if_neg z, if_neg y, if_pos (by omega)]) (G ^ (bls s).length) jFU 0 (-1, []) m (Int.le_refl _) (by omega) (by unfold jFU; omega) ⟨fun _ _ _ => rfl, Or.inl rfl⟩
  obtain ⟨F, P⟩ := J
  have fr := fold_rng (f := spS (pVal (m 75) t mo (bls s))) (F := fun c => dgl G (bls s).length c) (G ^ (bls s).length) (-1, [])
  have fr' : itn (fun c st => spS (pVal (m 75) t mo (bls s)) st (dgl G (bls s).length c)) (G ^ (bls s).length) 0 (-1, []) = sPst (m 75) t s mo := by
    unfold sPst
    rw [show (m 75 6).toNat = G by omega]
    exact fr.symm
  rw [fr'] at P e1
  refine ⟨m1, ?_, F⟩
  refine Eq.trans e1 ?_
  show f_X10_put_L130 (q1 + 1) s mo bay ((G ^ (bls s).length : Nat) : Int) (sPst (m 75) t s mo).1 ((G ^ (bls s).length : Nat) : Int) m1 = _
  rw [f_X10_put_L130, if_pos (Int.le_refl _)]
  unfold sPut
  rw [if_neg (show ¬ m 75 6 < ((bls s).length : Int) by omega)]
  by_cases z : (sPst (m 75) t s mo).1 = -1
  · rw [if_pos z, if_pos z, z]
  · obtain ⟨p1, p2, p3⟩ := P.resolve_left z
    rw [if_neg z, if_neg z]
    by_cases b1 : bay = -1
    · rw [if_pos b1, if_pos b1]
    · have hb' := hb.resolve_left b1
      rw [if_neg b1, if_neg b1, if_pos (by omega)]
      by_cases bb : jAn (jSr s bay) 1 = 1
      · obtain ⟨i, hi, ei⟩ := ix_mem (lsF_in bb 8 0 hb'.1 (by omega))
        have hi' : i < (bls s).length := hi
        have ei' : (bls s).getD i 0 = bay := ei
        have X := ix_all s.toNat (by omega) i (by omega) (by rw [show ((s.toNat : Nat) : Int) = s by omega]; exact hi')
        rw [show ((s.toNat : Nat) : Int) = s by omega, ei'] at X
        have p3' := p3 i hi'
        rw [ei'] at p3'
        rw [if_pos bb, X.1, p3']
      · rw [if_neg bb, p2 bay hb'.1 hb'.2 bb]
/-! the call put -/
def kPut (M : Int → Int) (t s mo bay : Int) : Int := if (0 ≤ t ∧ t < M 5) ∧ (0 ≤ mo ∧ mo ≤ 2399) ∧ (bay = -1 ∨ (0 ≤ bay ∧ bay < M 0)) then (if 0 ≤ s ∧ s < ((2 ^ (M 0).toNat : Nat) : Int) then 0 else 2) else 1
theorem cq_put {m : jMu} (hA : kA m) (t s mo bay : Int) : cQ (f_L_put t s mo bay m) m (kPut (m 75) t s mo bay) (sPut (m 75) t s mo bay) := by
  have hz := hA.1.z
  have hn := hA.1.n
  have hB := cBs hA.1
  have K : (0 ≤ t ∧ t < m 75 5) → (0 ≤ mo ∧ mo ≤ 2399) → (bay = -1 ∨ (0 ≤ bay ∧ bay < m 75 0)) → cQ (jcat2 (f_X9_put_J59 t s mo bay 1 m) (fun r1 => (jlt (jup r1.2 87 0 r1.1) fun m2 => some ((0 : Int), m2))) (fun e1 w1 => if e1 = "java/lang/IndexOutOfBoundsException" then some (1, w1) else if e1 = "java/lang/IllegalArgumentException" then some (2, w1) else none)) m (if 0 ≤ s ∧ s < ((2 ^ (m 75 0).toNat : Nat) : Int) then 0 else 2) (sPut (m 75) t s mo bay) := by
    intro h1 h2 h3
    unfold f_X9_put_J59
    rw [nI1z, hB.1, Option.bind_some, xIsIn, Option.bind_some, nAz]
    by_cases h4 : 0 ≤ s ∧ s < ((2 ^ (m 75 0).toNat : Nat) : Int)
    · have h4' : 0 ≤ s ∧ s ≤ ((2 ^ (m 75 0).toNat : Nat) : Int) - 1 := ⟨h4.1, by omega⟩
      obtain ⟨n, en⟩ : ∃ n : Nat, s = (n : Int) := ⟨s.toNat, by omega⟩
      have n1 : n < 256 := by omega
      have bc : f_J6_bitCount_0f7a4 s = some ((bls s).length : Int) := by rw [en]; exact (lsC_all n n1).1
      obtain ⟨m1, e1, f1, C1, K1, d1⟩ := c_begin hA.1 t s
      have z1 := C1.z
      rw [if_pos h4, if_pos h4', e1, Option.bind_some]
      unfold f_X8_putGangs f_X5_size
      rw [bc, Option.bind_some, z1.2.2.2.2.2.2.1, Option.bind_some]
      by_cases h5 : m 75 6 < ((bls s).length : Int)
      · have ev : sPut (m 75) t s mo bay = -1 := if_pos h5
        rw [if_pos h5, Option.bind_some, ev]
        exact cQ_val f1
      · have hl4 : (bls s).length ≤ 4 := by omega
        obtain ⟨m2, x1, x2, x3⟩ := c_meas (t := t) (s := s) (mo := mo) C1 K1 h1 h2.1 (fun b hb => by
          have hx := lst_n (n := (m 75 0).toNat) (s := n) (by omega) (by omega) (by rw [← en]; exact hb)
          exact ⟨by omega, fun j j0 j1 jb => d1 j j0 j1 (by rw [jb]; exact (lst_b hb).2.2)⟩) hl4
        rw [if_neg h5, if_pos (by omega), x1, Option.bind_some, c_choose h2.1 hl4 ⟨n, en, n1⟩ (h3.imp id (fun z => by omega)) x3 (by omega) (by omega), Option.bind_some]
        exact cQ_val (f1.tr x2.fC)
    · have h4' : ¬ (0 ≤ s ∧ s ≤ ((2 ^ (m 75 0).toNat : Nat) : Int) - 1) := fun z => h4 ⟨z.1, by omega⟩
      rw [if_neg h4, if_neg h4', jcat2_l, if_neg (by decide), if_pos rfl]
      exact cQ_thr (by decide)
  unfold f_L_put f_X9_put f_X9_put_J29 f_X9_put_J30 f_X9_put_J54 kPut
  by_cases h1 : 0 ≤ t ∧ t < m 75 5
  · by_cases h2 : 0 ≤ mo ∧ mo ≤ 2399
    · by_cases h0 : bay = -1
      · have h3 : bay = -1 ∨ (0 ≤ bay ∧ bay < m 75 0) := Or.inl h0
        rw [if_pos ⟨h1, h2, h3⟩, cHas, hz.2.2.2.2.2.1, Option.bind_some, ite01, if_pos h1, xIsIn, Option.bind_some, ite01, if_pos h2, nI1z, if_pos h0]
        exact K h1 h2 h3
      · by_cases h3 : 0 ≤ bay ∧ bay < m 75 0
        · rw [if_pos ⟨h1, h2, Or.inr h3⟩, cHas, hz.2.2.2.2.2.1, Option.bind_some, ite01, if_pos h1, xIsIn, Option.bind_some, ite01, if_pos h2, nI1z, if_neg h0]
          dsimp only
          rw [cHas, hz.1, Option.bind_some, ite01, if_pos h3]
          exact K h1 h2 (Or.inr h3)
        · rw [if_neg (fun z => z.2.2.elim h0 h3), cHas, hz.2.2.2.2.2.1, Option.bind_some, ite01, if_pos h1, xIsIn, Option.bind_some, ite01, if_pos h2, nI1z, if_neg h0]
          dsimp only
          rw [cHas, hz.1, Option.bind_some, ite01, if_neg h3]
          unfold f_X9_put_J59
          rw [nI0z, jcat2_l, if_pos rfl]
          exact cQ_thr (by decide)
    · rw [if_neg (fun z => h2 z.2.1), cHas, hz.2.2.2.2.2.1, Option.bind_some, ite01, if_pos h1, xIsIn, Option.bind_some, ite01, if_neg h2, nI0z, jcat2_l, if_pos rfl]
      exact cQ_thr (by decide)
  · rw [if_neg (fun z => h1 z.1), cHas, hz.2.2.2.2.2.1, Option.bind_some, ite01, if_neg h1, nI0z, jcat2_l, if_pos rfl]
    exact cQ_thr (by decide)
theorem m_put99 {m : jMu} {s mo bay : Int} {G r : Nat} (hG : m 75 6 = (G : Int)) (hG4 : G ≤ 4) (hr : r ≤ G) : ∃ q : Nat, q + 1 + r = jFU ∧ f_X10_put_L99 jFU s mo bay (r : Int) 1 0 m = f_X10_put_L130 jFU s mo bay ((G ^ r : Nat) : Int) (-1) 0 m := by
  obtain ⟨m', q, I, hq, e⟩ := itr_run (L := fun q i c m => f_X10_put_L99 q s mo bay (r : Int) c i m) (fun _ c => c * (G : Int)) (fun i c m' => m' = m ∧ c = ((G ^ i.toNat : Nat) : Int)) (lo := 0) (n := (r : Int)) (by
    intro q i c m1 h0 h1 hI
    obtain ⟨rfl, hc⟩ := hI
    have p1 : G ^ i.toNat ≤ 256 := (pw_all G (by omega) i.toNat (by omega) (by omega)).2
    have p2 : c * (G : Int) = ((G ^ (i.toNat + 1) : Nat) : Int) := by rw [hc, Nat.pow_succ, Int.natCast_mul]
    have p3 : G ^ (i.toNat + 1) ≤ 256 := (pw_all G (by omega) (i.toNat + 1) (by omega) (by omega)).2
    refine ⟨m1, ⟨rfl, by show c * (G : Int) = _; rw [p2, show (i + 1).toNat = i.toNat + 1 by omega]⟩, ?_⟩
    show f_X10_put_L99 (q + 1) s mo bay (r : Int) c i m1 = _
    rw [f_X10_put_L99, if_neg (by omega), hG, jW_of (z := i + 1) (by omega) (by omega), jW_of (z := c * (G : Int)) (by omega) (by omega)]) r jFU 0 1 m (Int.le_refl _) (by omega) (by unfold jFU; omega) ⟨rfl, rfl⟩
  obtain ⟨rfl, hc⟩ := I
  refine ⟨q, hq, ?_⟩
  refine Eq.trans e ?_
  show f_X10_put_L99 (q + 1) s mo bay (r : Int) (itn (fun _ c => c * (G : Int)) r 0 1) (r : Int) m' = _
  rw [hc, f_X10_put_L99, if_pos (Int.le_refl _), Int.toNat_natCast]
theorem mq_put {m : jMu} (hA : kA m) (t s mo bay : Int) : mQ (f_X10_put t s mo bay m) m (kPut (m 75) t s mo bay) (sPut (m 75) t s mo bay) := by
  have hn := hA.1.n
  have hB := cBs hA.1
  have hA' := kA_fM hA (fM.thr m 0)
  have e75 : jup m 74 0 0 75 = m 75 := jup_c (by decide)
  have K : (0 ≤ t ∧ t < m 75 5) → (0 ≤ mo ∧ mo ≤ 2399) → (bay = -1 ∨ (0 ≤ bay ∧ bay < m 75 0)) → mQ (f_X10_put_J35 t s mo bay m) m (if 0 ≤ s ∧ s < ((2 ^ (m 75 0).toNat : Nat) : Int) then 0 else 2) (sPut (m 75) t s mo bay) := by
    intro h1 h2 h3
    unfold f_X10_put_J35 f_X10_put_J51 f_X10_put_J56
    rw [hB.2.1]
    simp only [jlt_eq, jup_s, le00, le20, if_true, if_false]
    by_cases h4 : 0 ≤ s ∧ s < ((2 ^ (m 75 0).toNat : Nat) : Int)
    · obtain ⟨n, en⟩ : ∃ n : Nat, s = (n : Int) := ⟨s.toNat, by omega⟩
      have n1 : n < 256 := by omega
      have bc : f_X10_count1 s = some ((bls s).length : Int) := by rw [en]; exact (lsC_all n n1).2
      obtain ⟨m1, x1, x2, x3, x4, x5⟩ := m_lays hA'.1 (t := t) (by rw [e75]; exact h1)
      rw [e75] at x4 x5
      have q75 : m1 75 = m 75 := (x2.1 75 (by decide) (by decide)).trans e75
      obtain ⟨G, eG⟩ : ∃ G : Nat, m 75 6 = (G : Int) := ⟨(m 75 6).toNat, by omega⟩
      rw [if_pos h4, if_neg (show ¬ s < 0 by omega), if_pos h4.2, x1, Option.bind_some, bc, Option.bind_some, q75]
      by_cases h5 : ((bls s).length : Int) ≤ m 75 6
      · obtain ⟨q, _, e99⟩ := m_put99 (m := m1) (s := s) (mo := mo) (bay := bay) (G := G) (r := (bls s).length) (by rw [q75]; exact eG) (by omega) (by omega)
        obtain ⟨m2, y1, y2⟩ := m_put130 (mm := m) (m := m1) (t := t) (s := s) (mo := mo) (bay := bay) (G := G) (by rw [q75]; exact hA.1) (by rw [q75]; exact h1) h2.1 (by rw [q75]; exact eG) (by rw [q75]; exact x5) (by rw [q75]; exact x4) h4.1 (by rw [q75]; exact h4.2) (by omega) (by rw [q75]; exact h3)
        rw [q75] at y1
        rw [if_pos h5, e99, y1]
        exact ⟨_, m2, rfl, ((fM.thr m 0).tr x2).tr ⟨fun c c1 c2 => y2 c (by omega) (by omega), by rw [y2 74 (by decide) (by decide)], by rw [y2 74 (by decide) (by decide)], by rw [y2 74 (by decide) (by decide)], pE_cg (by rw [y2 74 (by decide) (by decide)]) (by rw [y2 74 (by decide) (by decide)]) (by rw [y2 74 (by decide) (by decide)]) (y2 78 (by decide) (by decide))⟩, by rw [y2 74 (by decide) (by decide), x3, jup_s], fun _ => rfl⟩
      · have ev : sPut (m 75) t s mo bay = -1 := if_pos (by omega)
        rw [if_neg h5, ev]
        exact ⟨_, m1, rfl, (fM.thr m 0).tr x2, by rw [x3, jup_s], fun _ => rfl⟩
    · rw [if_neg h4]
      by_cases h6 : s < 0
      · rw [if_pos h6]
        exact mQ_thr (by decide)
      · rw [if_neg h6, if_neg (fun z => h4 ⟨by omega, z⟩)]
        exact mQ_thr (by decide)
  have T : mQ (f_X10_put_J31 t s mo bay m) m 1 (sPut (m 75) t s mo bay) := by
    unfold f_X10_put_J31 f_X10_put_J56
    simp only [jlt_eq, jup_s, le10, if_false]
    exact mQ_thr (by decide)
  unfold f_X10_put kPut
  rw [mTerms _ hn.2.2.2.2.2.1, Option.bind_some, ite01]
  by_cases h1 : 0 ≤ t ∧ t < m 75 5
  · rw [if_pos h1, mMoment, Option.bind_some, ite01]
    by_cases h2 : 0 ≤ mo ∧ mo ≤ 2399
    · rw [if_pos h2]
      by_cases h0 : bay = -1
      · rw [if_pos h0, if_pos ⟨h1, h2, Or.inl h0⟩]
        exact K h1 h2 (Or.inl h0)
      · rw [if_neg h0, mBay _ hn.1, Option.bind_some, ite01]
        by_cases h3 : 0 ≤ bay ∧ bay < m 75 0
        · rw [if_pos h3, if_pos ⟨h1, h2, Or.inr h3⟩]
          exact K h1 h2 (Or.inr h3)
        · rw [if_neg h3, if_neg (fun z => z.2.2.elim h0 h3)]
          exact T
    · rw [if_neg h2, if_neg (fun z => h2 z.2.1)]
      exact T
  · rw [if_neg h1, if_neg (fun z => h1 z.1)]
    exact T
