/-! LEVEL 2: the call order -/
theorem cBs {m : jMu} {M : Int → Int} (C : kC m 0 M) : f_X4_baySet m = some (((2 ^ (M 0).toNat : Nat) : Int) - 1) ∧ jSl 1 (M 0) = ((2 ^ (M 0).toNat : Nat) : Int) ∧ 1 ≤ 2 ^ (M 0).toNat ∧ 2 ^ (M 0).toNat ≤ 256 := by
  have hn := C.n
  have hz := C.z
  obtain ⟨n, en⟩ : ∃ n : Nat, M 0 = (n : Int) := ⟨(M 0).toNat, by omega⟩
  have p1 : 1 ≤ 2 ^ n := Nat.one_le_two_pow
  have p2 : 2 ^ n ≤ 2 ^ 8 := Nat.pow_le_pow_right (by decide) (by omega)
  have p3 : (2 : Nat) ^ 8 = 256 := rfl
  have e := zSl (a := 1) (k := n) (by omega) (by omega) (by decide)
  rw [Nat.one_mul] at e
  have e' : jSl 1 (n : Int) = ((2 ^ n : Nat) : Int) := e
  have et : (M 0).toNat = n := by omega
  rw [et]
  refine ⟨?_, by rw [en]; exact e', p1, by omega⟩
  unfold f_X4_baySet f_X5_size
  rw [hz.1, Option.bind_some, en, e', jW_of (by omega) (by omega)]
section GOES
variable {m mm : jMu} {t g : Int}
theorem m_goesL (C : kC mm 0 (m 75)) (O : kOp m (m 75) t) (hD : ∀ j, 0 ≤ j → j < m 75 8 → m 80 j = sDry (m 75) j) (hg : 0 ≤ g ∧ g < m 75 6) {n : Int} (hn : n ≤ 6) : ∀ (r : List Int) (i q : Nat) (now : Int), (∀ x ∈ r, 0 ≤ x ∧ x < m 75 0) → (∀ a : Nat, a < r.length → m 82 ((i : Int) + a) = r.getD a 0) → (i : Int) + r.length = n → r.length < q → 0 ≤ now → f_X10_goes_L6 q n g now (i : Int) m = some (gGo (m 75) t g r now) := by
  intro r
  induction r with
  | nil =>
    intro i q now _ _ h3 h4 _
    obtain ⟨q, rfl⟩ : ∃ t, q = t + 1 := ⟨q - 1, by omega⟩
    rw [List.length_nil] at h3
    rw [f_X10_goes_L6, if_pos (by omega)]
    rfl
  | cons b r ih =>
    intro i q now h1 h2 h3 h4 h5
    obtain ⟨q, rfl⟩ : ∃ t, q = t + 1 := ⟨q - 1, by omega⟩
    rw [List.length_cons] at h3 h4
    have gi : 0 ≤ (i : Int) ∧ (i : Int) < 6 := by omega
    have gn : ¬ n ≤ (i : Int) := by omega
    have hb := h1 b List.mem_cons_self
    have e0 := h2 0 (by rw [List.length_cons]; omega)
    rw [Int.natCast_zero, Int.add_zero] at e0
    have e0' : m 82 (i : Int) = b := e0
    have ei : jW ((i : Int) + 1) = (i : Int) + 1 := jW_of (by omega) (by omega)
    have I := fun now h => ih (i + 1) q now (fun x hx => h1 x (List.mem_cons_of_mem _ hx)) (fun a ha => by
      have := h2 (a + 1) (by rw [List.length_cons]; omega)
      rw [show ((i + 1 : Nat) : Int) + (a : Int) = (i : Int) + ((a + 1 : Nat) : Int) by omega]
      exact this) (by omega) (by omega) h
    rw [f_X10_goes_L6, if_neg gn, if_pos gi, e0', m_ef C O hD hb hg h5, Option.bind_some, ei, gGo_c]
    by_cases z : sGo (m 75) t g b now = -1
    · rw [if_pos z, if_pos z]
    · have S := sGo_b z
      rw [if_neg z, if_neg z]
      have I2 := I (sGo (m 75) t g b now + gW b r) (by have := gW_0 b r; omega)
      rw [show ((i + 1 : Nat) : Int) = (i : Int) + 1 by omega] at I2
      cases r with
      | nil =>
        rw [List.length_nil] at h3
        rw [if_pos (by omega)]
        have e : gW b ([] : List Int) = 0 := rfl
        rw [e, Int.add_zero] at I2
        rw [e, Int.add_zero]
        exact I2
      | cons c r =>
        have e1 := h2 1 (by rw [List.length_cons, List.length_cons]; omega)
        have e1' : m 82 ((i : Int) + 1) = c := e1
        have hc := h1 c (List.mem_cons_of_mem _ List.mem_cons_self)
        have hN := C.n
        have e : gW b (c :: r) = if c ≤ b then b - c else c - b := rfl
        rw [List.length_cons] at h3
        rw [if_neg (by omega), if_pos (by omega), if_pos (by omega), e1']
        rw [e] at I2
        rw [e]
        by_cases y : c ≤ b
        · rw [if_pos y] at I2
          rw [if_pos y, if_pos y, if_pos (by omega), if_pos (by omega), jlt_eq, jW_of (z := b - c) (by omega) (by omega), jW_of (by omega) (by omega)]
          exact I2
        · rw [if_neg y] at I2
          rw [if_neg y, if_neg y, if_pos (by omega), if_pos (by omega), jlt_eq, jW_of (z := c - b) (by omega) (by omega), jW_of (by omega) (by omega)]
          exact I2
theorem m_goes (C : kC mm 0 (m 75)) (O : kOp m (m 75) t) (hD : ∀ j, 0 ≤ j → j < m 75 8 → m 80 j = sDry (m 75) j) (hg : 0 ≤ g ∧ g < m 75 6) {r : List Int} (h1 : ∀ x ∈ r, 0 ≤ x ∧ x < m 75 0) (h2 : ∀ a : Nat, a < r.length → m 82 (a : Int) = r.getD a 0) (h3 : r.length ≤ 6) {now : Int} (h4 : 0 ≤ now) : f_X10_goes (r.length : Int) g now m = some (gGo (m 75) t g r now) :=
  m_goesL C O hD hg (n := (r.length : Int)) (by omega) r 0 jFU now h1 (fun a ha => by rw [Int.natCast_zero, Int.zero_add]; exact h2 a ha) (by omega) (by unfold jFU; omega) h4
end GOES
/-! the reference's best -/
def stR (M : Int → Int) (t g mo : Int) (st : Int × Int) (p : List Int) : Int × Int := if gGo M t g p mo = -1 then st else if st.1 = -1 then (gGo M t g p mo, p.getD 0 0) else if st.1 ≤ gGo M t g p mo then st else (gGo M t g p mo, p.getD 0 0)
theorem gD_map {v : Int → Int} {p : List Int} {a : Nat} (h : a < p.length) : (p.map v).getD a 0 = v (p.getD a 0) := by
  rw [List.getD_eq_getElem?_getD, List.getElem?_map, List.getElem?_eq_getElem h, List.getD_eq_getElem?_getD, List.getElem?_eq_getElem h]
  rfl
theorem m_ord175 {m mm : jMu} {t g mo wh : Int} {l : List Int} (C : kC mm 0 (m 75)) (O : kOp m (m 75) t) (hD : ∀ j, 0 ≤ j → j < m 75 8 → m 80 j = sDry (m 75) j) (hg : 0 ≤ g ∧ g < m 75 6) (hm : 0 ≤ mo) (hl : ∀ x ∈ l, 0 ≤ x ∧ x < m 75 0) (hs : ∀ a b : Nat, a < b → b < l.length → l.getD a 0 < l.getD b 0) (h6 : l.length ≤ 6) (h1 : 1 ≤ l.length) : ∀ (Q : List (List Int)) (p : List Int) (st : Int × Int) (q : Nat) (m1 : jMu), chn l.length (p :: Q) = true → nH (rnk l) l.length m1 p → (∀ p' ∈ p :: Q, p'.length = l.length ∧ ∀ x ∈ p', x ∈ rng l.length) → (∀ c, c ≠ 82 → m1 c = m c) → Q.length + 2 < q → ∃ m', f_X10_order_L175 q g mo wh (l.length : Int) st.1 st.2 1 m1 = some (if wh = 0 then (((p :: Q).map (fun p => p.map (rnk l))).foldl (stR (m 75) t g mo) st).1 else (((p :: Q).map (fun p => p.map (rnk l))).foldl (stR (m 75) t g mo) st).2, m') ∧ ∀ c, c ≠ 82 → m' c = m c := by
  have hn := C.n
  have hv := rnk_le (l := l) (fun x hx => by have := hl x hx; omega) hs
  intro Q
  induction Q with
  | nil =>
    intro p st q m1 hc H hP F hq
    obtain ⟨q, rfl⟩ : ∃ t, q = t + 1 + 1 := ⟨q - 2, by omega⟩
    have hp := hP p List.mem_cons_self
    have q75 : m1 75 = m 75 := F 75 (by decide)
    have G := m_goes (m := m1) (mm := mm) (t := t) (g := g) (r := p.map (rnk l)) (now := mo) (by rw [q75]; exact C) (by rw [q75]; intro b k a1 a2 a3 a4; rw [F 79 (by decide)]; exact O b k a1 a2 a3 a4) (by rw [q75, F 80 (by decide)]; exact hD) (by rw [q75]; exact hg) (fun x hx => by
      obtain ⟨y, hy, rfl⟩ := List.mem_map.mp hx
      have : rnk l y ∈ l := by
        have h := List.mem_map_of_mem (f := rnk l) (hp.2 y hy)
        rw [rnk_rng] at h
        exact h
      rw [q75]
      exact hl _ this) (fun a ha => by
      rw [List.length_map] at ha
      rw [gD_map ha]
      exact H a (by omega)) (by rw [List.length_map]; omega) hm
    rw [List.length_map, hp.1, q75] at G
    have e0 : m1 82 0 = (p.map (rnk l)).getD 0 0 := by
      rw [gD_map (by omega)]
      exact H 0 (by omega)
    have E : f_X10_order_L175 (q + 1 + 1) g mo wh (l.length : Int) st.1 st.2 1 m1 = (f_X10_nextOrder (l.length : Int) m1).bind fun r => f_X10_order_L175 (q + 1) g mo wh (l.length : Int) (stR (m 75) t g mo st (p.map (rnk l))).1 (stR (m 75) t g mo st (p.map (rnk l))).2 r.1 r.2 := by
      rw [f_X10_order_L175, if_neg (by decide), G, Option.bind_some]
      unfold stR
      by_cases z : gGo (m 75) t g (p.map (rnk l)) mo = -1
      · rw [if_pos z, if_pos z]
      · rw [if_neg z, if_neg z]
        by_cases y : st.1 = -1
        · rw [if_pos y, if_pos y, e0]
        · rw [if_neg y, if_neg y]
          by_cases x : st.1 ≤ gGo (m 75) t g (p.map (rnk l)) mo
          · rw [if_pos x, if_pos x]
          · rw [if_neg x, if_neg x, e0]
    rw [E]
    obtain ⟨m2, x1, x2⟩ := nx_none hv h6 H hc
    rw [x1, Option.bind_some, f_X10_order_L175, if_pos rfl]
    refine ⟨m2, ?_, fun c c1 => (x2 c c1).trans (F c c1)⟩
    show (if wh = 0 then some ((stR (m 75) t g mo st (p.map (rnk l))).1, m2) else some ((stR (m 75) t g mo st (p.map (rnk l))).2, m2)) = some (if wh = 0 then (stR (m 75) t g mo st (p.map (rnk l))).1 else (stR (m 75) t g mo st (p.map (rnk l))).2, m2)
    split <;> rfl
  | cons p2 Q ih =>
    intro p st q m1 hc H hP F hq
    obtain ⟨q, rfl⟩ : ∃ t, q = t + 1 := ⟨q - 1, by omega⟩
    rw [List.length_cons] at hq
    have hp := hP p List.mem_cons_self
    have q75 : m1 75 = m 75 := F 75 (by decide)
    have hc' : (nxB l.length p (some p2) && chn l.length (p2 :: Q)) = true := hc
    rw [Bool.and_eq_true] at hc'
    have G := m_goes (m := m1) (mm := mm) (t := t) (g := g) (r := p.map (rnk l)) (now := mo) (by rw [q75]; exact C) (by rw [q75]; intro b k a1 a2 a3 a4; rw [F 79 (by decide)]; exact O b k a1 a2 a3 a4) (by rw [q75, F 80 (by decide)]; exact hD) (by rw [q75]; exact hg) (fun x hx => by
      obtain ⟨y, hy, rfl⟩ := List.mem_map.mp hx
      have : rnk l y ∈ l := by
        have h := List.mem_map_of_mem (f := rnk l) (hp.2 y hy)
        rw [rnk_rng] at h
        exact h
      rw [q75]
      exact hl _ this) (fun a ha => by
      rw [List.length_map] at ha
      rw [gD_map ha]
      exact H a (by omega)) (by rw [List.length_map]; omega) hm
    rw [List.length_map, hp.1, q75] at G
    have e0 : m1 82 0 = (p.map (rnk l)).getD 0 0 := by
      rw [gD_map (by omega)]
      exact H 0 (by omega)
    have E : f_X10_order_L175 (q + 1) g mo wh (l.length : Int) st.1 st.2 1 m1 = (f_X10_nextOrder (l.length : Int) m1).bind fun r => f_X10_order_L175 q g mo wh (l.length : Int) (stR (m 75) t g mo st (p.map (rnk l))).1 (stR (m 75) t g mo st (p.map (rnk l))).2 r.1 r.2 := by
      rw [f_X10_order_L175, if_neg (by decide), G, Option.bind_some]
      unfold stR
      by_cases z : gGo (m 75) t g (p.map (rnk l)) mo = -1
      · rw [if_pos z, if_pos z]
      · rw [if_neg z, if_neg z]
        by_cases y : st.1 = -1
        · rw [if_pos y, if_pos y, e0]
        · rw [if_neg y, if_neg y]
          by_cases x : st.1 ≤ gGo (m 75) t g (p.map (rnk l)) mo
          · rw [if_pos x, if_pos x]
          · rw [if_neg x, if_neg x, e0]
    rw [E]
    obtain ⟨m2, x1, x2, x3⟩ := nx_some hv h6 H hc'.1
    rw [x1, Option.bind_some]
    exact ih p2 (stR (m 75) t g mo st (p.map (rnk l))) q m2 hc'.2 x2 (fun p' h' => hP p' (List.mem_cons_of_mem _ h')) (fun c c1 => (x3 c c1).trans (F c c1)) (by omega)
/-- the two searches find the same -/
def stB (M : Int → Int) (t g mo : Int) (st : Int × Int) (p : List Int) : Int × Int := if gGo M t g p mo = -1 then st else if gGo M t g p mo < st.1 then (gGo M t g p mo, p.getD 0 0) else st
theorem stB_blk {M : Int → Int} {t g mo x : Int} : ∀ (L : List (List Int)) (st : Int × Int), (L.map (fun q => x :: q)).foldl (stB M t g mo) st = (mnF (fun q => gGo M t g (x :: q) mo) L st.1, if mnF (fun q => gGo M t g (x :: q) mo) L st.1 = st.1 then st.2 else x) := by
  intro L
  induction L with
  | nil =>
    intro st
    show st = (st.1, if st.1 = st.1 then st.2 else x)
    rw [if_pos rfl]
  | cons q L ih =>
    intro st
    have hle := mnF_le (fun q => gGo M t g (x :: q) mo) L (gGo M t g (x :: q) mo)
    rw [List.map_cons, List.foldl_cons, ih, mnF_cons]
    unfold stB mnS
    by_cases z : gGo M t g (x :: q) mo = -1
    · rw [if_pos z, if_pos z]
    · rw [if_neg z, if_neg z]
      by_cases y : gGo M t g (x :: q) mo < st.1
      · rw [if_pos y, if_pos y]
        show (mnF (fun q => gGo M t g (x :: q) mo) L (gGo M t g (x :: q) mo), if mnF (fun q => gGo M t g (x :: q) mo) L (gGo M t g (x :: q) mo) = gGo M t g (x :: q) mo then x else x) = _
        rw [if_neg (show ¬ mnF (fun q => gGo M t g (x :: q) mo) L (gGo M t g (x :: q) mo) = st.1 by omega)]
        split <;> rfl
      · rw [if_neg y, if_neg y]
theorem stB_all {M : Int → Int} {t g mo : Int} {k : Nat} {l : List Int} : (pm (k + 1) l).foldl (stB M t g mo) (2401, -1) = sBs M t g mo k l := by
  show (l.flatMap (fun x => (pm k (l.erase x)).map (fun q => x :: q))).foldl (stB M t g mo) (2401, -1) = _
  rw [List.foldl_flatMap]
  unfold sBs
  congr 1
  funext st x
  exact stB_blk _ st
theorem stR_B {M : Int → Int} {t g mo : Int} (hm : 0 ≤ mo) : ∀ (L : List (List Int)) (a b : Int × Int), (∀ p ∈ L, p ≠ [] ∧ 0 ≤ p.getD 0 0) → (a.2 = b.2 ∧ ((a.1 = -1 ∧ b.1 = 2401 ∧ b.2 = -1) ∨ (a.1 = b.1 ∧ 0 ≤ a.1 ∧ b.2 ≠ -1))) → (L.foldl (stR M t g mo) a).2 = (L.foldl (stB M t g mo) b).2 ∧ (((L.foldl (stR M t g mo) a).1 = -1 ∧ (L.foldl (stB M t g mo) b).1 = 2401 ∧ (L.foldl (stB M t g mo) b).2 = -1) ∨ ((L.foldl (stR M t g mo) a).1 = (L.foldl (stB M t g mo) b).1 ∧ 0 ≤ (L.foldl (stR M t g mo) a).1 ∧ (L.foldl (stB M t g mo) b).2 ≠ -1)) := by
  intro L
  induction L with
  | nil => intro a b _ h; exact h
  | cons p L ih =>
    intro a b hp h
    rw [List.foldl_cons, List.foldl_cons]
    refine ih _ _ (fun p' h' => hp p' (List.mem_cons_of_mem _ h')) ?_
    obtain ⟨p0, p1⟩ := hp p List.mem_cons_self
    have gl := gGo_le (M := M) (t := t) (g := g) p mo p0
    have gg := gGo_ge (M := M) (t := t) (g := g) p mo
    unfold stR stB
    by_cases z : gGo M t g p mo = -1
    · rw [if_pos z, if_pos z]
      exact h
    · rw [if_neg z, if_neg z]
      rcases h with ⟨h1, h2 | h2⟩
      · rw [if_pos h2.1, if_pos (by omega)]
        exact ⟨rfl, Or.inr ⟨rfl, by show 0 ≤ gGo M t g p mo; omega, by show p.getD 0 0 ≠ -1; omega⟩⟩
      · rw [if_neg (by omega)]
        by_cases y : a.1 ≤ gGo M t g p mo
        · rw [if_pos y, if_neg (by omega)]
          exact ⟨h1, Or.inr h2⟩
        · rw [if_neg y, if_pos (by omega)]
          exact ⟨rfl, Or.inr ⟨rfl, by show 0 ≤ gGo M t g p mo; omega, by show p.getD 0 0 ≠ -1; omega⟩⟩
/-! the call's answer -/
def sOrd (M : Int → Int) (t g s mo wh : Int) : Int := if wh = 1 then gGo M t g (bls s) mo else if wh = 0 then ((pm (bls s).length (bls s)).foldl (stR M t g mo) (-1, -1)).1 else ((pm (bls s).length (bls s)).foldl (stR M t g mo) (-1, -1)).2
def kOrd (M : Int → Int) (t g s mo wh : Int) : Int := if (0 ≤ t ∧ t < M 5) ∧ (0 ≤ g ∧ g < M 6) ∧ 0 ≤ mo ∧ mo ≤ 2399 then (if (1 ≤ s ∧ s < ((2 ^ (M 0).toNat : Nat) : Int)) ∧ ((bls s).length : Int) ≤ 6 then (if 0 ≤ wh ∧ wh ≤ 2 then 0 else 3) else 2) else 1
theorem bls_facts {m : jMu} {M : Int → Int} (C : kC m 0 M) {s : Int} (h1 : 1 ≤ s) (h2 : s < ((2 ^ (M 0).toNat : Nat) : Int)) : ∃ n : Nat, s = (n : Int) ∧ n < 256 ∧ 1 ≤ n ∧ n < 2 ^ (M 0).toNat ∧ (∀ x ∈ bls s, (0 ≤ x ∧ x < M 0) ∧ jAn (jSr s x) 1 = 1) ∧ bls s ≠ [] ∧ (∀ a b : Nat, a < b → b < (bls s).length → (bls s).getD a 0 < (bls s).getD b 0) := by
  have hn := C.n
  have hB := cBs C
  refine ⟨s.toNat, by omega, by omega, by omega, by omega, fun x hx => ?_, ?_, fun a b ha hb => lsF_lt 8 0 a b ha hb⟩
  · have hx' := lst_b hx
    have hx2 : x ∈ bls ((s.toNat : Nat) : Int) := by rw [show ((s.toNat : Nat) : Int) = s by omega]; exact hx
    have := lst_n (n := (M 0).toNat) (by omega) (by omega) hx2
    exact ⟨by omega, hx'.2.2⟩
  · have := lst_pos s.toNat (by omega) (by omega)
    rw [show ((s.toNat : Nat) : Int) = s by omega] at this
    exact this
theorem c_ordV {m : jMu} (hA : kA m) {t g s mo wh : Int} (ht : 0 ≤ t ∧ t < m 75 5) (hg : 0 ≤ g ∧ g < m 75 6) (hm : 0 ≤ mo ∧ mo ≤ 2399) (h1 : 1 ≤ s) (h2 : s < ((2 ^ (m 75 0).toNat : Nat) : Int)) (h3 : ((bls s).length : Int) ≤ 6) (hw : 0 ≤ wh ∧ wh ≤ 2) : ∃ m1, f_X8_begin t s m = some m1 ∧ ∃ m', (wh = 1 → f_X8_walkedEnd g s mo m1 = some (sOrd (m 75) t g s mo wh, m')) ∧ (wh = 2 → f_X8_bestOrder g s mo 1 m1 = some (sOrd (m 75) t g s mo wh, m')) ∧ (wh = 0 → f_X8_bestOrder g s mo 0 m1 = some (sOrd (m 75) t g s mo wh, m')) ∧ fC m m' := by
  obtain ⟨n, en, n1, n2, n3, fb, fne, flt⟩ := bls_facts hA.1 h1 h2
  obtain ⟨m1, e1, f1, C1, K1, d1⟩ := c_begin hA.1 t s
  have W : wK m1 (m 75) t g (bls s) := ⟨C1, ht, hg, fun b hb => ⟨(fb b hb).1, fun j j0 j1 jb => d1 j j0 j1 (by rw [jb]; exact (fb b hb).2)⟩⟩
  refine ⟨m1, e1, ?_⟩
  have hl : ∃ k, (bls s).length = k + 1 := by
    cases hx : bls s with
    | nil => exact (fne hx).elim
    | cons x r => exact ⟨r.length, rfl⟩
  obtain ⟨k, hk⟩ := hl
  have RB := stR_B (M := m 75) (t := t) (g := g) hm.1 (pm (bls s).length (bls s)) (-1, -1) (2401, -1) (fun p hp => by
    obtain ⟨p1, p2⟩ := pm_len _ _ p hp
    cases p with
    | nil => rw [hk] at p1; cases p1
    | cons x r => exact ⟨(by intro z; cases z), (fb x (p2 x List.mem_cons_self)).1.1⟩) ⟨rfl, Or.inl ⟨rfl, rfl, rfl⟩⟩
  rw [hk, stB_all] at RB
  by_cases w1 : wh = 1
  · obtain ⟨m', x1, x2, x3⟩ := c_walk W rfl (mo := mo) ⟨hm.1, by omega⟩ fne (iW.rf m1) K1
    refine ⟨m', fun _ => ?_, fun z => by omega, fun z => by omega, f1.tr x2.fC⟩
    rw [x1]
    unfold sOrd
    rw [if_pos w1]
  · by_cases w0 : wh = 0
    · obtain ⟨m', x1, x2, x3⟩ := c_best (wh := 0) W (s := n) (mo := mo) n1 (by rw [← en]) hk (by omega) ⟨hm.1, by omega⟩ (iW.rf m1) K1
      refine ⟨m', fun z => (w1 z).elim, fun z => by omega, fun _ => ?_, f1.tr x2.fC⟩
      rw [en, x1]
      unfold sOrd
      rw [if_neg w1, if_pos w0, if_pos rfl, ← en, hk]
      rcases RB.2 with ⟨y1, y2, y3⟩ | ⟨y1, y2, y3⟩
      · rw [if_pos y3, y1]
      · rw [if_neg y3, y1]
    · obtain ⟨m', x1, x2, x3⟩ := c_best (wh := 1) W (s := n) (mo := mo) n1 (by rw [← en]) hk (by omega) ⟨hm.1, by omega⟩ (iW.rf m1) K1
      refine ⟨m', fun z => (w1 z).elim, fun _ => ?_, fun z => (w0 z).elim, f1.tr x2.fC⟩
      rw [en, x1]
      unfold sOrd
      rw [if_neg w1, if_neg w0, if_neg (by decide), ← en, hk, RB.1]
theorem cq_order {m : jMu} (hA : kA m) (t g s mo wh : Int) : cQ (f_L_order t g s mo wh m) m (kOrd (m 75) t g s mo wh) (sOrd (m 75) t g s mo wh) := by
  have hz := hA.1.z
  have hB := cBs hA.1
  unfold f_L_order f_X9_order f_X9_order_J32 f_X9_order_J33 f_X9_order_J76 f_X9_order_J77 kOrd
  by_cases h1 : 0 ≤ t ∧ t < m 75 5
  · by_cases h2 : 0 ≤ g ∧ g < m 75 6
    · by_cases h3 : 0 ≤ mo ∧ mo ≤ 2399
      · by_cases h4 : 1 ≤ s ∧ s < ((2 ^ (m 75 0).toNat : Nat) : Int)
        · obtain ⟨n, en, n1, n2, n3, fb, fne, flt⟩ := bls_facts hA.1 h4.1 h4.2
          have bc : f_J6_bitCount_0f7a4 s = some ((bls s).length : Int) := by rw [en]; exact (lsC_all n n1).1
          have h4' : 1 ≤ s ∧ s ≤ ((2 ^ (m 75 0).toNat : Nat) : Int) - 1 := ⟨h4.1, by omega⟩
          by_cases h5 : ((bls s).length : Int) ≤ 6
          · by_cases h6 : 0 ≤ wh ∧ wh ≤ 2
            · obtain ⟨m1, e1, m', x1, x2, x0, F⟩ := c_ordV hA h1 h2 h3 h4.1 h4.2 h5 h6
              simp only [xIsIn, cHas, cRoom, Option.bind_some, nIz, nAz, nRz, nEz, nDz, nI0z, nI1z, nA0z, nA1z, nE0z, nE1z, nR0z, nR1z, jcat2_r, jcat2_l, jlt_eq, ite01, ite01o, ite01p, ite00, ite10, xe1, xe2, xe3, xe4, xe5, xe6, if_true, if_false, f_X5_size, Int.reduceLE, Int.reduceLT, hz, hB.1, h1, h2, h3, h4, h4', bc, Int.not_lt.mpr h5, h5, h6, and_self, e1]
              by_cases w1 : wh = 1
              · rw [if_pos w1, x1 w1]
                exact cQ_val F
              · by_cases w2 : wh = 2
                · rw [if_neg w1, if_pos w2, x2 w2]
                  exact cQ_val F
                · rw [if_neg w1, if_neg w2, x0 (by omega)]
                  exact cQ_val F
            · simp only [xIsIn, cHas, cRoom, Option.bind_some, nIz, nAz, nRz, nEz, nDz, nI0z, nI1z, nA0z, nA1z, nE0z, nE1z, nR0z, nR1z, jcat2_r, jcat2_l, jlt_eq, ite01, ite01o, ite01p, ite00, ite10, xe1, xe2, xe3, xe4, xe5, xe6, if_true, if_false, f_X5_size, Int.reduceLE, Int.reduceLT, hz, hB.1, h1, h2, h3, h4, h4', bc, Int.not_lt.mpr h5, h5, h6, and_self]
              exact cQ_thr (by decide)
          · simp only [xIsIn, cHas, cRoom, Option.bind_some, nIz, nAz, nRz, nEz, nDz, nI0z, nI1z, nA0z, nA1z, nE0z, nE1z, nR0z, nR1z, jcat2_r, jcat2_l, jlt_eq, ite01, ite01o, ite01p, ite00, ite10, xe1, xe2, xe3, xe4, xe5, xe6, if_true, if_false, f_X5_size, Int.reduceLE, Int.reduceLT, hz, hB.1, h1, h2, h3, h4, h4', bc, Int.not_le.mp h5, h5, and_self, and_false]
            exact cQ_thr (by decide)
        · have h4' : ¬ (1 ≤ s ∧ s ≤ ((2 ^ (m 75 0).toNat : Nat) : Int) - 1) := fun z => h4 ⟨z.1, by omega⟩
          simp only [xIsIn, cHas, cRoom, Option.bind_some, nIz, nAz, nRz, nEz, nDz, nI0z, nI1z, nA0z, nA1z, nE0z, nE1z, nR0z, nR1z, jcat2_r, jcat2_l, jlt_eq, ite01, ite01o, ite01p, ite00, ite10, xe1, xe2, xe3, xe4, xe5, xe6, if_true, if_false, f_X5_size, Int.reduceLE, Int.reduceLT, hz, hB.1, h1, h2, h3, h4, h4', and_self, false_and]
          exact cQ_thr (by decide)
      · simp only [xIsIn, cHas, cRoom, Option.bind_some, nIz, nAz, nRz, nEz, nDz, nI0z, nI1z, nA0z, nA1z, nE0z, nE1z, nR0z, nR1z, jcat2_r, jcat2_l, jlt_eq, ite01, ite01o, ite01p, ite00, ite10, xe1, xe2, xe3, xe4, xe5, xe6, if_true, if_false, f_X5_size, Int.reduceLE, Int.reduceLT, hz, h1, h2, h3, and_self, and_false]
        exact cQ_thr (by decide)
    · simp only [xIsIn, cHas, cRoom, Option.bind_some, nIz, nAz, nRz, nEz, nDz, nI0z, nI1z, nA0z, nA1z, nE0z, nE1z, nR0z, nR1z, jcat2_r, jcat2_l, jlt_eq, ite01, ite01o, ite01p, ite00, ite10, xe1, xe2, xe3, xe4, xe5, xe6, if_true, if_false, f_X5_size, Int.reduceLE, Int.reduceLT, hz, h1, h2, and_self, and_false, false_and]
      exact cQ_thr (by decide)
  · simp only [xIsIn, cHas, cRoom, Option.bind_some, nIz, nAz, nRz, nEz, nDz, nI0z, nI1z, nA0z, nA1z, nE0z, nE1z, nR0z, nR1z, jcat2_r, jcat2_l, jlt_eq, ite01, ite01o, ite01p, ite00, ite10, xe1, xe2, xe3, xe4, xe5, xe6, if_true, if_false, f_X5_size, Int.reduceLE, Int.reduceLT, hz, h1, false_and]
    exact cQ_thr (by decide)
/-! the reference's side of the call -/
theorem m_ordV {m mm : jMu} (C : kC mm 0 (m 75)) {t g s mo wh : Int} (ht : 0 ≤ t ∧ t < m 75 5) (hg : 0 ≤ g ∧ g < m 75 6) (hm : 0 ≤ mo ∧ mo ≤ 2399) (h1 : 1 ≤ s) (h2 : s < ((2 ^ (m 75 0).toNat : Nat) : Int)) (h3 : ((bls s).length : Int) ≤ 6) : ∃ m', ((f_X10_lays t m).bind fun r17 => f_X10_order_L109 jFU g s mo wh 0 0 r17) = some (sOrd (m 75) t g s mo wh, m') ∧ fM m m' ∧ m' 74 0 = m 74 0 := by
  have hn := C.n
  obtain ⟨n, en, n1, n2, n3, fb, fne, flt⟩ := bls_facts C h1 h2
  obtain ⟨m1, e1, f1, z1, d1, O1⟩ := m_lays C ht
  have q75 : m1 75 = m 75 := f1.1 75 (by decide) (by decide)
  have la := lsF_all (m 75 0).toNat (by omega) n n3
  rw [← en] at la
  obtain ⟨m2, q2, I2, _, e2⟩ := itr_run (L := fun q i c m => f_X10_order_L109 q g s mo wh c i m) (fun i c => if jAn (jSr s i) 1 = 1 then c + 1 else c) (fun i c m' => (∀ x, x ≠ 82 → m' x = m1 x) ∧ c = ((lsF s i.toNat 0).length : Int) ∧ ∀ a : Nat, a < (lsF s i.toNat 0).length → m' 82 (a : Int) = (lsF s i.toNat 0).getD a 0) (lo := 0) (n := m 75 0) (by
    intro q i c m3 g0 g1 hI
    obtain ⟨i1, i2, i3⟩ := hI
    have e75 : m3 75 = m 75 := (i1 75 (by decide)).trans q75
    have ei : jW (i + 1) = i + 1 := jW_of (by omega) (by omega)
    have b01 := lst_bit01 n n1 i.toNat (by omega)
    rw [← en, show ((i.toNat : Nat) : Int) = i by omega] at b01
    have sn := lsF_snoc (v := s) i.toNat 0
    rw [show (0 : Int) + (i.toNat : Int) = i by omega, show i.toNat + 1 = (i + 1).toNat by omega] at sn
    have le := lsF_le (v := s) (i + 1).toNat ((m 75 0).toNat - (i + 1).toNat)
    rw [show (i + 1).toNat + ((m 75 0).toNat - (i + 1).toNat) = (m 75 0).toNat by omega, la] at le
    by_cases gb : jAn (jSr s i) 1 = 1
    · rw [if_pos gb] at sn
      have el : (lsF s (i + 1).toNat 0).length = (lsF s i.toNat 0).length + 1 := by rw [sn, List.length_append]; rfl
      refine ⟨jup m3 82 c i, ⟨fun x hx => by rw [jup_c hx, i1 x hx], ?_, fun a ha => ?_⟩, ?_⟩
      · show (if jAn (jSr s i) 1 = 1 then c + 1 else c) = _
        rw [if_pos gb, el, i2]
        omega
      · rw [el] at ha
        rw [sn]
        by_cases ea : a = (lsF s i.toNat 0).length
        · rw [ea, ← i2, jup_s, getD_r (Nat.le_refl _), Nat.sub_self]
          rfl
        · rw [jup_j (by omega), getD_l (by omega)]
          exact i3 a (by omega)
      · show f_X10_order_L109 (q + 1) g s mo wh c i m3 = f_X10_order_L109 q g s mo wh (if jAn (jSr s i) 1 = 1 then c + 1 else c) (i + 1) (jup m3 82 c i)
        rw [if_pos gb, f_X10_order_L109, e75, if_neg (by omega), if_neg (by omega), if_pos (by omega), jlt_eq, ei, jW_of (z := c + 1) (by omega) (by omega)]
    · rw [if_neg gb, List.append_nil] at sn
      refine ⟨m3, ⟨i1, ?_, ?_⟩, ?_⟩
      · show (if jAn (jSr s i) 1 = 1 then c + 1 else c) = _
        rw [if_neg gb, sn]
        exact i2
      · rw [sn]
        exact i3
      · show f_X10_order_L109 (q + 1) g s mo wh c i m3 = f_X10_order_L109 q g s mo wh (if jAn (jSr s i) 1 = 1 then c + 1 else c) (i + 1) m3
        rw [if_neg gb, f_X10_order_L109, e75, if_neg (by omega), if_pos (by omega), ei]) (m 75 0).toNat jFU 0 0 m1 (Int.le_refl _) (by omega) (by unfold jFU; omega) ⟨fun _ _ => rfl, rfl, fun a ha => absurd ha (Nat.not_lt_zero _)⟩
  obtain ⟨i1, i2, i3⟩ := I2
  rw [la] at i2 i3
  have r75 : m2 75 = m 75 := (i1 75 (by decide)).trans q75
  have O2 : kOp m2 (m2 75) t := by
    rw [r75]
    intro b k a1 a2 a3 a4
    rw [i1 79 (by decide)]
    exact O1 b k a1 a2 a3 a4
  have D2 : ∀ j, 0 ≤ j → j < m2 75 8 → m2 80 j = sDry (m2 75) j := by
    rw [r75, i1 80 (by decide)]
    exact d1
  have C2 : kC mm 0 (m2 75) := by rw [r75]; exact C
  have F2 : ∀ m3 : jMu, (∀ c, c ≠ 82 → m3 c = m2 c) → fM m m3 ∧ m3 74 0 = m 74 0 := fun m3 h => ⟨f1.tr ⟨fun c c1 c2 => (h c (by omega)).trans (i1 c (by omega)), by rw [h 74 (by decide), i1 74 (by decide)], by rw [h 74 (by decide), i1 74 (by decide)], by rw [h 74 (by decide), i1 74 (by decide)], pE_cg (by rw [h 74 (by decide), i1 74 (by decide)]) (by rw [h 74 (by decide), i1 74 (by decide)]) (by rw [h 74 (by decide), i1 74 (by decide)]) (by rw [h 78 (by decide), i1 78 (by decide)])⟩, by rw [h 74 (by decide), i1 74 (by decide), z1]⟩
  have e2' : f_X10_order_L109 jFU g s mo wh 0 0 m1 = f_X10_order_L109 (q2 + 1) g s mo wh ((bls s).length : Int) (m 75 0) m2 := by rw [← i2]; exact e2
  rw [e1, Option.bind_some, e2', f_X10_order_L109, r75, if_pos (Int.le_refl _)]
  have l1 : 1 ≤ (bls s).length := by
    cases hx : bls s with
    | nil => exact (fne hx).elim
    | cons x r => exact Nat.succ_le_succ (Nat.zero_le _)
  unfold sOrd
  by_cases w1 : wh = 1
  · have G := m_goes C2 O2 D2 (r75 ▸ hg) (r := bls s) (now := mo) (fun x hx => by rw [r75]; exact (fb x hx).1) i3 (by omega) hm.1
    rw [r75] at G
    rw [if_pos w1, if_pos w1, G, Option.bind_some]
    exact ⟨m2, rfl, F2 m2 (fun _ _ => rfl)⟩
  · rw [if_neg w1, if_neg w1]
    have pe := pm_map (v := rnk (bls s)) (rnk_inj (fun x hx => by have := (fb x hx).1; omega) flt) (bls s).length (rng (bls s).length)
    rw [rnk_rng] at pe
    have ch := chn_all (bls s).length (by omega)
    cases hp : pm (bls s).length (rng (bls s).length) with
    | nil =>
      rw [hp] at pe
      have : ∀ (k : Nat) (l : List Int), l.length = k → pm k l ≠ [] := by
        intro k
        induction k with
        | zero => intro l _ z; cases z
        | succ k ih =>
          intro l hl z
          cases l with
          | nil => cases hl
          | cons x r =>
            have z' : (x :: r).flatMap (fun y => (pm k ((x :: r).erase y)).map (fun q => y :: q)) = [] := z
            rw [List.flatMap_cons, List.append_eq_nil_iff, List.map_eq_nil_iff] at z'
            have hl' : ((x :: r).erase x).length = k := by
              rw [List.length_erase_of_mem List.mem_cons_self, hl]
              rfl
            exact ih _ hl' z'.1
      exact (this _ _ rfl pe).elim
    | cons p Q =>
      rw [hp] at pe ch
      have hP : ∀ p' ∈ p :: Q, p'.length = (bls s).length ∧ ∀ x ∈ p', x ∈ rng (bls s).length := fun p' h' => pm_len _ _ p' (by rw [hp]; exact h')
      have p0 : p = rng (bls s).length := by
        have : ∀ (k : Nat) (l : List Int), l.length = k → (pm k l).head? = some l := by
          intro k
          induction k with
          | zero =>
            intro l hl
            rw [List.length_eq_zero_iff.mp hl]
            rfl
          | succ k ih =>
            intro l hl
            cases l with
            | nil => cases hl
            | cons x r =>
              have hr : r.length = k := by rw [List.length_cons] at hl; omega
              have I := ih r hr
              show ((x :: r).flatMap (fun y => (pm k ((x :: r).erase y)).map (fun q => y :: q))).head? = some (x :: r)
              rw [List.flatMap_cons, List.erase_cons_head]
              cases hy : pm k r with
              | nil => rw [hy] at I; cases I
              | cons y Y =>
                rw [hy] at I
                cases I
                rfl
        have h := this (bls s).length (rng (bls s).length) (by unfold rng; rw [List.length_map, List.length_range])
        rw [hp] at h
        cases h
        rfl
      have H : nH (rnk (bls s)) (bls s).length m2 p := by
        intro j hj
        have e := congrArg (fun l : List Int => l.getD j 0) (rnk_rng (bls s))
        have hr : j < (rng (bls s).length).length := by unfold rng; rw [List.length_map, List.length_range]; exact hj
        rw [i3 j hj, p0, ← gD_map (v := rnk (bls s)) hr]
        exact e.symm
      obtain ⟨m3, x1, x2⟩ := m_ord175 (m := m2) (mm := mm) (t := t) (g := g) (mo := mo) (wh := wh) (l := bls s) C2 O2 D2 (r75 ▸ hg) hm.1 (fun x hx => by rw [r75]; exact (fb x hx).1) flt (by omega) l1 Q p (-1, -1) jFU m2 ch H hP (fun _ _ => rfl) (by
        have hpl : (pm (bls s).length (rng (bls s).length)).length ≤ 1000 := by
          have : ∀ n : Nat, n < 7 → (pm n (rng n)).length ≤ 1000 := by decide +kernel
          exact this _ (by omega)
        rw [hp, List.length_cons] at hpl
        unfold jFU
        omega)
      rw [← pe, r75] at x1
      refine ⟨m3, ?_, F2 m3 x2⟩
      refine Eq.trans x1 ?_
      by_cases w0 : wh = 0
      · rw [if_pos w0]
      · rw [if_neg w0]
theorem mq_order {m : jMu} (hA : kA m) (t g s mo wh : Int) : mQ (f_X10_order t g s mo wh m) m (kOrd (m 75) t g s mo wh) (sOrd (m 75) t g s mo wh) := by
  have hn := hA.1.n
  have hB := cBs hA.1
  have hA' := kA_fM hA (fM.thr m 0)
  have e75 : jup m 74 0 0 75 = m 75 := jup_c (by decide)
  unfold f_X10_order f_X10_order_J24 f_X10_order_J29 f_X10_order_J67 kOrd
  by_cases h1 : 0 ≤ t ∧ t < m 75 5
  · by_cases h2 : 0 ≤ g ∧ g < m 75 6
    · by_cases h3 : 0 ≤ mo ∧ mo ≤ 2399
      · by_cases h4 : 1 ≤ s ∧ s < ((2 ^ (m 75 0).toNat : Nat) : Int)
        · obtain ⟨n, en, n1, n2, n3, fb, fne, flt⟩ := bls_facts hA.1 h4.1 h4.2
          have bc : f_X10_count1 s = some ((bls s).length : Int) := by rw [en]; exact (lsC_all n n1).2
          by_cases h5 : ((bls s).length : Int) ≤ 6
          · by_cases h6 : 0 ≤ wh ∧ wh ≤ 2
            · obtain ⟨m', x1, x2, x3⟩ := m_ordV hA'.1 (t := t) (g := g) (s := s) (mo := mo) (wh := wh) (by rw [e75]; exact h1) (by rw [e75]; exact h2) h3 h4.1 (by rw [e75]; exact h4.2) h5
              rw [e75] at x1
              simp only [mIsIn, mDay, mHour, mMoment, Option.bind_some, ite01, ite01o, ite01p, ite00, ite10, jlt_eq, jup_s, le00, le10, le20, le30, if_true, if_false, Int.reduceLE, Int.reduceLT, mTerms _ hn.2.2.2.2.2.1, mGang _ hn.2.2.2.2.2.2.1, hB.2.1, h1, h2, h3, h4, Int.not_lt.mpr h4.1, Int.not_le.mpr h4.2, bc, h5, h6, and_self]
              refine ⟨_, m', x1, (fM.thr m 0).tr x2, by rw [x3, jup_s], fun _ => rfl⟩
            · simp only [mIsIn, mDay, mHour, mMoment, Option.bind_some, ite01, ite01o, ite01p, ite00, ite10, jlt_eq, jup_s, le00, le10, le20, le30, if_true, if_false, Int.reduceLE, Int.reduceLT, mTerms _ hn.2.2.2.2.2.1, mGang _ hn.2.2.2.2.2.2.1, hB.2.1, h1, h2, h3, h4, Int.not_lt.mpr h4.1, Int.not_le.mpr h4.2, bc, h5, h6, and_self]
              exact mQ_thr (by decide)
          · simp only [mIsIn, mDay, mHour, mMoment, Option.bind_some, ite01, ite01o, ite01p, ite00, ite10, jlt_eq, jup_s, le00, le10, le20, le30, if_true, if_false, Int.reduceLE, Int.reduceLT, mTerms _ hn.2.2.2.2.2.1, mGang _ hn.2.2.2.2.2.2.1, hB.2.1, h1, h2, h3, h4, Int.not_lt.mpr h4.1, Int.not_le.mpr h4.2, bc, h5, and_self, and_false]
            exact mQ_thr (by decide)
        · by_cases h7 : s < 1
          · simp only [mIsIn, mDay, mHour, mMoment, Option.bind_some, ite01, ite01o, ite01p, ite00, ite10, jlt_eq, jup_s, le00, le10, le20, le30, if_true, if_false, Int.reduceLE, Int.reduceLT, mTerms _ hn.2.2.2.2.2.1, mGang _ hn.2.2.2.2.2.2.1, hB.2.1, h1, h2, h3, h4, h7, and_self, false_and]
            exact mQ_thr (by decide)
          · have h8 : ((2 ^ (m 75 0).toNat : Nat) : Int) ≤ s := by
              rcases Int.lt_or_le s ((2 ^ (m 75 0).toNat : Nat) : Int) with z | z
              · exact (h4 ⟨by omega, z⟩).elim
              · exact z
            simp only [mIsIn, mDay, mHour, mMoment, Option.bind_some, ite01, ite01o, ite01p, ite00, ite10, jlt_eq, jup_s, le00, le10, le20, le30, if_true, if_false, Int.reduceLE, Int.reduceLT, mTerms _ hn.2.2.2.2.2.1, mGang _ hn.2.2.2.2.2.2.1, hB.2.1, h1, h2, h3, h4, h7, h8, and_self, false_and]
            exact mQ_thr (by decide)
      · simp only [mIsIn, mDay, mHour, mMoment, Option.bind_some, ite01, ite01o, ite01p, ite00, ite10, jlt_eq, jup_s, le00, le10, le20, le30, if_true, if_false, Int.reduceLE, Int.reduceLT, mTerms _ hn.2.2.2.2.2.1, mGang _ hn.2.2.2.2.2.2.1, h1, h2, h3, and_self, and_false]
        exact mQ_thr (by decide)
    · simp only [mIsIn, mDay, mHour, mMoment, Option.bind_some, ite01, ite01o, ite01p, ite00, ite10, jlt_eq, jup_s, le00, le10, le20, le30, if_true, if_false, Int.reduceLE, Int.reduceLT, mTerms _ hn.2.2.2.2.2.1, mGang _ hn.2.2.2.2.2.2.1, h1, h2, and_self, and_false, false_and]
      exact mQ_thr (by decide)
  · simp only [mIsIn, mDay, mHour, mMoment, Option.bind_some, ite01, ite01o, ite01p, ite00, ite10, jlt_eq, jup_s, le00, le10, le20, le30, if_true, if_false, Int.reduceLE, Int.reduceLT, mTerms _ hn.2.2.2.2.2.1, h1, false_and]
    exact mQ_thr (by decide)
