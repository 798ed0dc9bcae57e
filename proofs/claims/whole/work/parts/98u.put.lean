/-! LEVEL 2: the call put -/
/-- the end of a gang at a bay -/
def Eg (M : Int → Int) (t mo b g : Int) : Int := if g < M 6 then sGo M t g b mo else -1
theorem Eg_b {M : Int → Int} {t mo : Int} (hm : 0 ≤ mo) (b g : Int) : Eg M t mo b g = -1 ∨ (0 ≤ Eg M t mo b g ∧ Eg M t mo b g ≤ 2400) := by
  unfold Eg
  by_cases h : g < M 6
  · rw [if_pos h]
    by_cases z : sGo M t g b mo = -1
    · exact Or.inl z
    · have := sGo_b z
      exact Or.inr (by omega)
  · rw [if_neg h]; exact Or.inl rfl
def pVal (M : Int → Int) (t mo : Int) (B a : List Int) : Int := pf (Eg M t mo) (B.zip a) 0 0
def sPst (M : Int → Int) (t s mo : Int) : Int × List Int := (al (M 6).toNat (bls s).length).foldl (spS (pVal M t mo (bls s))) (-1, [])
def sPut (M : Int → Int) (t s mo bay : Int) : Int := if M 6 < ((bls s).length : Int) then -1 else if (sPst M t s mo).1 = -1 then -1 else if bay = -1 then (sPst M t s mo).1 else if jAn (jSr s bay) 1 = 1 then (sPst M t s mo).2.getD (ixF (bls s) bay) 0 else -1
/-! the class measures -/
def iX (m0 m : jMu) : Prop := ∀ c, c ≠ 32 → c ≠ 67 → c ≠ 69 → m c = m0 c
theorem iX.rf (m : jMu) : iX m m := fun _ _ _ _ => rfl
theorem iX.tr {a b c : jMu} (h : iX a b) (g : iX b c) : iX a c := fun x h1 h2 h3 => (g x h1 h2 h3).trans (h x h1 h2 h3)
theorem iX.kC {m0 m : jMu} {M : Int → Int} (h : iX m0 m) (C : kC m0 0 M) : kC m 0 M := kC_frame C (fun c _ h2 => h c (by omega) (by omega) (by omega)) (fun _ _ _ => rfl)
theorem iX.fC {m0 m : jMu} (h : iX m0 m) : fC m0 m := fun c h1 _ => h c h1 (by omega) (by omega)
theorem c_measL {m : jMu} {M : Int → Int} {t s mo b row : Int} (C : kC m 0 M) (K : kLk m M t) (ht : 0 ≤ t ∧ t < M 5) (hb : 0 ≤ b ∧ b < M 0) (hr : 0 ≤ row ∧ row < 4) : ∃ m', f_X8_measurePuts_L34 jFU s mo row b (sFm M b mo) 0 m = some (s, mo, row, b, m') ∧ iX m m' ∧ kLk m' M t ∧ (∀ j, j < 4 * row → m' 69 j = m 69 j) ∧ ∀ k, 0 ≤ k → k < 4 → m' 69 (4 * row + k) = Eg M t mo b k := by
  have hn := C.n
  obtain ⟨m', a, e⟩ := itz_loop (L := fun q i (_ : Unit) m => f_X8_measurePuts_L34 q s mo row b (sFm M b mo) i m) (fun _ s => s) (fun _ m => (s, mo, row, b, m)) (fun i _ m' => iX m m' ∧ kLk m' M t ∧ (∀ j, j < 4 * row → m' 69 j = m 69 j) ∧ ∀ k, 0 ≤ k → k < i → m' 69 (4 * row + k) = Eg M t mo b k) (lo := 0) (n := 4) (by
    intro q i u m1 g0 g1 hI
    obtain ⟨i1, i2, i3, i4⟩ := hI
    have C1 := i1.kC C
    have W : ∃ m2, f_X8_workEnd b i (sFm M b mo) m1 = some (Eg M t mo b i, m2) ∧ iW m1 m2 ∧ kLk m2 M t := by
      by_cases hg : i < M 6
      · obtain ⟨m2, e1, f1, K1⟩ := c_end C1 (bay := b) (g := i) (mo := sFm M b mo) i2 ht hb ⟨g0, hg⟩
        refine ⟨m2, ?_, f1, K1⟩
        rw [e1]
        unfold Eg sGo
        rw [if_pos hg]
      · refine ⟨m1, ?_, iW.rf m1, i2⟩
        rw [c_end0 C1 (by omega)]
        unfold Eg
        rw [if_neg hg]
    obtain ⟨m2, e1, f1, K1⟩ := W
    have q69 : m2 69 = m1 69 := f1 69 (by decide) (by decide)
    refine ⟨jup m2 69 (4 * row + i) (Eg M t mo b i), ⟨fun c c1 c2 c3 => by rw [jup_c c3, f1 c c1 c2, i1 c c1 c2 c3], kLk_fr K1 (jup_c (by decide)) (jup_c (by decide)), fun j hj => by rw [jup_j (by omega), q69]; exact i3 j hj, fun k k0 k1 => ?_⟩, ?_⟩
    · by_cases ek : k = i
      · rw [ek, jup_s]
      · rw [jup_j (by omega), q69]
        exact i4 k k0 (by omega)
    · have ej : jW (jW (row * 4) + i) = 4 * row + i := by rw [jW_of (z := row * 4) (by omega) (by omega), jW_of (by omega) (by omega)]; omega
      show f_X8_measurePuts_L34 (q + 1) s mo row b (sFm M b mo) i m1 = _
      rw [f_X8_measurePuts_L34, if_neg (by omega), ej, if_neg (by omega), e1, Option.bind_some, if_pos (by omega), jlt_eq, jW_of (z := i + 1) (by omega) (by omega)]) (by
    intro q u m1 _
    show f_X8_measurePuts_L34 (q + 1) s mo row b (sFm M b mo) 4 m1 = _
    rw [f_X8_measurePuts_L34, if_pos (Int.le_refl _)]) 4 jFU 0 () m (Int.le_refl _) (by decide) (by unfold jFU; omega) ⟨iX.rf m, K, fun _ _ => rfl, fun k a b => by omega⟩
  exact ⟨m', e, a.1, a.2.1, a.2.2.1, a.2.2.2⟩
theorem c_meas {m : jMu} {M : Int → Int} {t s mo : Int} (C : kC m 0 M) (K : kLk m M t) (ht : 0 ≤ t ∧ t < M 5) (hm : 0 ≤ mo) (hB : ∀ b ∈ bls s, (0 ≤ b ∧ b < M 0) ∧ ∀ j, 0 ≤ j → j < M 8 → M (376 + 8 * j) = b → m 68 j = M (376 + 8 * j + 4) + sDry M j) (hl : (bls s).length ≤ 4) : ∃ m', f_X8_measurePuts s mo m = some m' ∧ iX m m' ∧ ∀ a : Nat, a < (bls s).length → ∀ k, 0 ≤ k → k < 4 → m' 69 (4 * (a : Int) + k) = Eg M t mo ((bls s).getD a 0) k := by
  obtain ⟨m', J, e⟩ := itz_loop (L := fun q i c m => f_X8_measurePuts_L5 q s mo c i m) (fun i c => if jAn (jSr s i) 1 = 1 then c + 1 else c) (fun _ m => m) (fun i c m' => iX m m' ∧ kLk m' M t ∧ c = ((lsF s i.toNat 0).length : Int) ∧ ∀ a : Nat, a < (lsF s i.toNat 0).length → ∀ k, 0 ≤ k → k < 4 → m' 69 (4 * (a : Int) + k) = Eg M t mo ((lsF s i.toNat 0).getD a 0) k) (lo := 0) (n := 8) (by
    intro q i c m1 g0 g1 hI
    obtain ⟨i1, i2, i3, i4⟩ := hI
    have ei : jW (i + 1) = i + 1 := jW_of (by omega) (by omega)
    have sn := lsF_snoc (v := s) i.toNat 0
    rw [show (0 : Int) + (i.toNat : Int) = i by omega, show i.toNat + 1 = (i + 1).toNat by omega] at sn
    have le := lsF_le (v := s) (i + 1).toNat (8 - (i + 1).toNat)
    rw [show (i + 1).toNat + (8 - (i + 1).toNat) = 8 by omega] at le
    have le' : (lsF s (i + 1).toNat 0).length ≤ (bls s).length := le
    by_cases gb : jAn (jSr s i) 1 = 1
    · rw [if_pos gb] at sn
      have el : (lsF s (i + 1).toNat 0).length = (lsF s i.toNat 0).length + 1 := by rw [sn, List.length_append]; rfl
      have hi := hB i (lsF_in gb 8 0 g0 (by omega))
      have C1 := i1.kC C
      have F := c_fm C1 (bay := i) (mo := mo) (fun j a b d => by rw [i1 68 (by decide) (by decide) (by decide)]; exact hi.2 j a b d) hm
      obtain ⟨m2, x1, x2, x3, x4, x5⟩ := c_measL (s := s) (mo := mo) (row := c) C1 i2 ht hi.1 (by omega)
      refine ⟨m2, ⟨i1.tr x2, x3, ?_, fun a ha k k0 k1 => ?_⟩, ?_⟩
      · show (if jAn (jSr s i) 1 = 1 then c + 1 else c) = _
        rw [if_pos gb, el, i3]
        omega
      · rw [el] at ha
        rw [sn]
        by_cases ea : a = (lsF s i.toNat 0).length
        · rw [ea, getD_r (Nat.le_refl _), Nat.sub_self, ← i3, x5 k k0 k1]
          rfl
        · rw [x4 _ (by omega), getD_l (by omega)]
          exact i4 a (by omega) k k0 k1
      · show f_X8_measurePuts_L5 (q + 1) s mo c i m1 = f_X8_measurePuts_L5 q s mo (if jAn (jSr s i) 1 = 1 then c + 1 else c) (i + 1) m2
        rw [if_pos gb, f_X8_measurePuts_L5, if_neg (by omega), if_pos gb, F, Option.bind_some, x1, Option.bind_some]
        show f_X8_measurePuts_L5 q s mo (jW (c + 1)) (jW (i + 1)) m2 = _
        rw [ei, jW_of (by omega) (by omega)]
    · rw [if_neg gb, List.append_nil] at sn
      refine ⟨m1, ⟨i1, i2, ?_, ?_⟩, ?_⟩
      · show (if jAn (jSr s i) 1 = 1 then c + 1 else c) = _
        rw [if_neg gb, sn]
        exact i3
      · rw [sn]
        exact i4
      · show f_X8_measurePuts_L5 (q + 1) s mo c i m1 = f_X8_measurePuts_L5 q s mo (if jAn (jSr s i) 1 = 1 then c + 1 else c) (i + 1) m1
        rw [if_neg gb, f_X8_measurePuts_L5, if_neg (by omega), if_neg gb, ei]) (by
    intro q c m1 _
    show f_X8_measurePuts_L5 (q + 1) s mo c 8 m1 = _
    rw [f_X8_measurePuts_L5, if_pos (Int.le_refl _)]) 8 jFU 0 0 m (Int.le_refl _) (by decide) (by unfold jFU; omega) ⟨iX.rf m, K, rfl, fun a ha => absurd ha (Nat.not_lt_zero _)⟩
  exact ⟨m', e, J.1, J.2.2.2⟩
theorem zip_get {B a : List Int} {i : Nat} (h1 : i < B.length) (h2 : B.length = a.length) : (B.zip a).drop i = (B.getD i 0, a.getD i 0) :: (B.zip a).drop (i + 1) := by
  have hz : i < (B.zip a).length := by rw [List.length_zip]; omega
  rw [List.drop_eq_getElem_cons hz]
  congr 1
  rw [List.getElem_zip, List.getD_eq_getElem?_getD, List.getElem?_eq_getElem h1, List.getD_eq_getElem?_getD, List.getElem?_eq_getElem (show i < a.length by omega)]
  rfl
/-- all ends of a choice together, by the class -/
theorem c_tog {m : jMu} {M : Int → Int} {t mo : Int} {B : List Int} {c : Nat} (hm : 0 ≤ mo) (hl : B.length ≤ 4) (hc : c < 256) (h : ∀ a : Nat, a < B.length → ∀ k, 0 ≤ k → k < 4 → m 69 (4 * (a : Int) + k) = Eg M t mo (B.getD a 0) k) : f_X8_endsTogether (c : Int) (B.length : Int) m = some (pVal M t mo B (dgl 4 B.length (c : Int))) := by
  have K : ∀ (d q i : Nat) (u s : Int), i + d = B.length → d < q → (0 ≤ u ∧ u < 16) → 0 ≤ s → s ≤ 2400 * i → f_X8_endsTogether_L8 q (c : Int) (B.length : Int) u s (i : Int) m = some (pf (Eg M t mo) ((B.zip (dgl 4 B.length (c : Int))).drop i) u s) := by
    intro d
    induction d with
    | zero =>
      intro q i u s h1 hq hu s0 s1
      obtain ⟨q, rfl⟩ : ∃ t, q = t + 1 := ⟨q - 1, by omega⟩
      rw [f_X8_endsTogether_L8, if_pos (by omega), List.drop_eq_nil_of_le (by rw [List.length_zip, dgl_len]; omega)]
      rfl
    | succ d ih =>
      intro q i u s h1 hq hu s0 s1
      obtain ⟨q, rfl⟩ : ∃ t, q = t + 1 := ⟨q - 1, by omega⟩
      have hd := dgl_get (K := 4) (r := B.length) (c := (c : Int)) (i := i) (by omega)
      have hk := dg_all c hc (B.length - 1 - i) (by omega)
      have nr : ¬ (B.length : Int) ≤ (i : Int) := by omega
      have hg : 0 ≤ (dgl 4 B.length (c : Int)).getD i 0 ∧ (dgl 4 B.length (c : Int)).getD i 0 < 4 := by
        rw [hd]
        have a1 := Int.emod_nonneg ((c : Int) / ((4 : Nat) : Int) ^ (B.length - 1 - i)) (show ((4 : Nat) : Int) ≠ 0 by decide)
        have a2 := Int.emod_lt_of_pos ((c : Int) / ((4 : Nat) : Int) ^ (B.length - 1 - i)) (show 0 < ((4 : Nat) : Int) by decide)
        exact ⟨a1, a2⟩
      have ex0 : (B.length : Int) - 1 - (i : Int) = ((B.length - 1 - i : Nat) : Int) := by omega
      have ex1 : -2147483648 ≤ (B.length : Int) - 1 ∧ (B.length : Int) - 1 < 2147483648 := by omega
      have ex2 : -2147483648 ≤ (B.length : Int) - 1 - (i : Int) ∧ (B.length : Int) - 1 - (i : Int) < 2147483648 := by omega
      have ex : jAn (jSr (c : Int) (jW (2 * jW (jW ((B.length : Int) - 1) - (i : Int))))) 3 = (dgl 4 B.length (c : Int)).getD i 0 := by
        rw [jW_of (z := (B.length : Int) - 1) ex1.1 ex1.2, jW_of (z := (B.length : Int) - 1 - (i : Int)) ex2.1 ex2.2, ex0, hk, hd]
        rfl
      have zg : (B.zip (dgl 4 B.length (c : Int))).drop i = (B.getD i 0, (dgl 4 B.length (c : Int)).getD i 0) :: (B.zip (dgl 4 B.length (c : Int))).drop (i + 1) := zip_get (by omega) (by rw [dgl_len])
      have I := fun (g : Int) (hu' : 0 ≤ jOr u (jSl 1 g) ∧ jOr u (jSl 1 g) < 16) h1' h2' => ih q (i + 1) (jOr u (jSl 1 g)) (s + Eg M t mo (B.getD i 0) g) (by omega) (by omega) hu' h1' h2'
      have e69 := h i (by omega) ((dgl 4 B.length (c : Int)).getD i 0) hg.1 hg.2
      rw [zg, pf_c]
      clear hd hk ih h zg
      generalize (dgl 4 B.length (c : Int)).getD i 0 = g at *
      have U := us_i hu hg (h := 0)
      have eb := Eg_b (M := M) (t := t) hm (B.getD i 0) g
      have n16 : ¬ (16 : Int) ≤ 4 * (i : Int) + g := by omega
      have p16 : 0 ≤ 4 * (i : Int) + g ∧ 4 * (i : Int) + g < 16 := by omega
      have bj : -2147483648 ≤ (i : Int) * 4 ∧ (i : Int) * 4 < 2147483648 ∧ -2147483648 ≤ (i : Int) * 4 + g ∧ (i : Int) * 4 + g < 2147483648 ∧ (i : Int) * 4 + g = 4 * (i : Int) + g := by omega
      have bi : -2147483648 ≤ (i : Int) + 1 ∧ (i : Int) + 1 < 2147483648 := by omega
      have bs : ¬ Eg M t mo (B.getD i 0) g = -1 → (-2147483648 ≤ s + Eg M t mo (B.getD i 0) g ∧ s + Eg M t mo (B.getD i 0) g < 2147483648) ∧ 0 ≤ s + Eg M t mo (B.getD i 0) g ∧ s + Eg M t mo (B.getD i 0) g ≤ 2400 * ((i + 1 : Nat) : Int) := by
        intro z
        have := eb.resolve_left z
        omega
      have ej : jW (jW ((i : Int) * 4) + g) = 4 * (i : Int) + g := by rw [jW_of bj.1 bj.2.1, jW_of bj.2.2.1 bj.2.2.2.1, bj.2.2.2.2]
      rw [f_X8_endsTogether_L8, if_neg nr, jlt_eq, ex, ej, if_neg n16, if_pos p16, e69]
      show (if Eg M t mo (B.getD i 0) g = -1 then some (-1) else _) = some (if Eg M t mo (B.getD i 0) g = -1 ∨ jAn (jSr u g) 1 = 1 then -1 else _)
      by_cases g1 : Eg M t mo (B.getD i 0) g = -1
      · rw [if_pos g1, if_pos (Or.inl g1)]
      · rw [if_neg g1]
        by_cases g2 : jAn (jSr u g) 1 = 1
        · rw [if_pos g2, if_pos (Or.inr g2)]
        · have b := bs g1
          rw [if_neg g2, if_neg (fun z => z.elim g1 g2), jW_of b.1.1 b.1.2, jW_of bi.1 bi.2]
          exact I g U.1 b.2.1 b.2.2
  have k0 := K B.length jFU 0 0 0 (by omega) (by unfold jFU; omega) ⟨Int.le_refl _, by decide⟩ (Int.le_refl _) (by omega)
  rw [List.drop_zero] at k0
  exact k0
theorem pVal_b {M : Int → Int} {t mo : Int} (hm : 0 ≤ mo) {B : List Int} (hl : B.length ≤ 4) (a : List Int) : pVal M t mo B a = -1 ∨ (0 ≤ pVal M t mo B a ∧ pVal M t mo B a ≤ 10000) := by
  have hz : (B.zip a).length ≤ 4 := by rw [List.length_zip]; omega
  rcases pf_b (E := Eg M t mo) (Eg_b hm) (B.zip a) 0 0 (Int.le_refl _) with z | z
  · exact Or.inl z
  · refine Or.inr ?_
    unfold pVal
    omega
/-- the search over all choices -/
def cCh (val : Int → Int) (c : Int) (st : Int × Int) : Int × Int := if val c = -1 then st else if st.2 ≤ val c then st else (c, val c)
theorem c_choose {m : jMu} {M : Int → Int} {t s mo bay : Int} (hm : 0 ≤ mo) (hl : (bls s).length ≤ 4) (hs : ∃ n : Nat, s = (n : Int) ∧ n < 256) (hb : bay = -1 ∨ (0 ≤ bay ∧ bay < 8)) (h : ∀ a : Nat, a < (bls s).length → ∀ k, 0 ≤ k → k < 4 → m 69 (4 * (a : Int) + k) = Eg M t mo ((bls s).getD a 0) k) (hG : ((bls s).length : Int) ≤ M 6) (hG4 : M 6 ≤ 4) : f_X8_putGangs_L45 jFU s bay ((bls s).length : Int) (-1) 1000000000 0 m = some (sPut M t s mo bay, m) := by
  have sh := sh_all (bls s).length (by omega)
  have pb := fun a => pVal_b (M := M) (t := t) hm hl a
  -- both folds
  have rel := itn_rel (f := cCh (fun c => pVal M t mo (bls s) (dgl 4 (bls s).length c))) (g := fun c st => spS (pVal M t mo (bls s)) st (dgl 4 (bls s).length c)) (fun _ (st : Int × Int) (st' : Int × List Int) => (st.1 = -1 ∧ st'.1 = -1 ∧ st.2 = 1000000000) ∨ (0 ≤ st.1 ∧ st.1 < 256 ∧ st.2 = st'.1 ∧ 0 ≤ st'.1 ∧ st'.2 = dgl 4 (bls s).length st.1)) (lo := 0) (n := ((4 ^ (bls s).length : Nat) : Int)) (fun i st st' h0 h1 hP => by
    unfold cCh spS
    have pv := pb (dgl 4 (bls s).length i)
    by_cases z : pVal M t mo (bls s) (dgl 4 (bls s).length i) = -1
    · rw [if_pos z, if_pos z]; exact hP
    · rw [if_neg z, if_neg z]
      rcases hP with ⟨p1, p2, p3⟩ | ⟨p1, p2, p3, p4, p5⟩
      · rw [if_neg (show ¬ st.2 ≤ pVal M t mo (bls s) (dgl 4 (bls s).length i) by omega), if_pos p2]
        exact Or.inr ⟨h0, by show i < 256; omega, rfl, by show 0 ≤ pVal M t mo (bls s) (dgl 4 (bls s).length i); omega, rfl⟩
      · rw [if_neg (show ¬ st'.1 = -1 by omega), p3]
        by_cases y : st'.1 ≤ pVal M t mo (bls s) (dgl 4 (bls s).length i)
        · rw [if_pos y, if_pos y]
          exact Or.inr ⟨p1, p2, p3, p4, p5⟩
        · rw [if_neg y, if_neg y]
          exact Or.inr ⟨h0, by show i < 256; omega, rfl, by show 0 ≤ pVal M t mo (bls s) (dgl 4 (bls s).length i); omega, rfl⟩) (4 ^ (bls s).length) 0 (-1, 1000000000) (-1, []) (Int.le_refl _) (by omega) (Or.inl ⟨rfl, rfl, rfl⟩)
  have fr := fold_rng (f := spS (pVal M t mo (bls s))) (F := fun c => dgl 4 (bls s).length c) (4 ^ (bls s).length) (-1, [])
  -- choices with digits that are no gang's have no end
  obtain ⟨G, eG⟩ : ∃ G : Nat, M 6 = (G : Int) := ⟨(M 6).toNat, by omega⟩
  have fil : sPst M t s mo = (al 4 (bls s).length).foldl (spS (pVal M t mo (bls s))) (-1, []) := by
    unfold sPst
    rw [show (M 6).toNat = G by omega, al_all G (by omega) (bls s).length (by omega) (by omega)]
    refine spS_fil _ _ (fun a ha hP => ?_)
    have la : a.length = (bls s).length := by
      unfold al at ha
      obtain ⟨c, _, rfl⟩ := List.mem_map.mp ha
      exact dgl_len _ _ _
    have hx : ∃ i : Nat, i < a.length ∧ ¬ a.getD i 0 < (G : Int) := by
      refine Classical.byContradiction fun z => ?_
      have : a.all (fun x => decide (x < (G : Int))) = true := by
        rw [List.all_eq_true]
        intro x hx
        obtain ⟨i, hi, e⟩ := ix_mem hx
        refine decide_eq_true ?_
        refine Classical.byContradiction fun y => z ⟨i, hi, ?_⟩
        rw [e]
        exact y
      rw [this] at hP
      cases hP
    obtain ⟨i, hi, hn⟩ := hx
    have d4 : ∀ p ∈ (bls s).zip a, 0 ≤ p.2 ∧ p.2 < 4 := by
      intro p hp
      have hp2 := (List.of_mem_zip (a := p.1) (b := p.2) hp).2
      obtain ⟨j, hj, e⟩ := ix_mem hp2
      unfold al at ha
      obtain ⟨c, _, rfl⟩ := List.mem_map.mp ha
      rw [dgl_len] at hj
      rw [← e, dgl_get hj]
      show 0 ≤ (c : Int) / 4 ^ ((bls s).length - 1 - j) % 4 ∧ (c : Int) / 4 ^ ((bls s).length - 1 - j) % 4 < 4
      omega
    refine (pf_v _ 0 0 d4 ⟨Int.le_refl _, by decide⟩).2 (fun ok => ?_)
    have hz := zip_get (B := bls s) (a := a) (i := i) (by omega) la.symm
    have hm' : ((bls s).getD i 0, a.getD i 0) ∈ (bls s).zip a := by
      refine List.mem_of_mem_drop (i := i) ?_
      rw [hz]
      exact List.mem_cons_self
    have := ok.1 _ hm'
    refine this ?_
    show Eg M t mo ((bls s).getD i 0) (a.getD i 0) = -1
    unfold Eg
    rw [if_neg (by omega)]
  have fr' : sPst M t s mo = itn (fun c st => spS (pVal M t mo (bls s)) st (dgl 4 (bls s).length c)) (4 ^ (bls s).length) 0 (-1, []) := by
    rw [fil]
    exact fr
  rw [← fr'] at rel
  generalize hst : itn (cCh (fun c => pVal M t mo (bls s) (dgl 4 (bls s).length c))) (4 ^ (bls s).length) 0 (-1, 1000000000) = fst at *
  -- what is answered at the end
  have fin : ∀ q : Nat, f_X8_putGangs_L45 (q + 1) s bay ((bls s).length : Int) fst.1 fst.2 ((4 ^ (bls s).length : Nat) : Int) m = some (sPut M t s mo bay, m) := by
    intro q
    rw [f_X8_putGangs_L45, sh.1, if_pos (Int.le_refl _)]
    unfold sPut
    rw [if_neg (show ¬ M 6 < ((bls s).length : Int) by omega)]
    rcases rel with ⟨p1, p2, p3⟩ | ⟨p1, p2, p3, p4, p5⟩
    · rw [if_pos p1, if_pos p1, if_pos p2]
    · rw [if_neg (show ¬ fst.1 = -1 by omega), if_neg (show ¬ (sPst M t s mo).1 = -1 by omega)]
      by_cases b1 : bay = -1
      · rw [if_pos b1, if_pos b1, if_neg (show ¬ fst.1 = -1 by omega), p3]
      · rw [if_neg b1, if_neg b1]
        have hb' : 0 ≤ bay ∧ bay < 8 := hb.resolve_left b1
        obtain ⟨n, en, n1⟩ := hs
        have b01 := lst_bit01 n n1 bay.toNat (by omega)
        rw [← en, show ((bay.toNat : Nat) : Int) = bay by omega] at b01
        by_cases bb : jAn (jSr s bay) 1 = 1
        · rw [if_neg (show ¬ jAn (jSr s bay) 1 = 0 by omega), if_pos bb]
          obtain ⟨i, hi, ei⟩ := ix_mem (lsF_in bb 8 0 hb'.1 (by omega))
          have hi' : i < (bls s).length := hi
          have ei' : (bls s).getD i 0 = bay := ei
          have X := ix_all n n1 i (by omega) (by rw [← en]; exact hi')
          rw [← en, ei'] at X
          rw [X.2, Option.bind_some, X.1, p5, dgl_get hi']
          obtain ⟨c, ec⟩ : ∃ c : Nat, fst.1 = (c : Int) := ⟨fst.1.toNat, by omega⟩
          have D := dg_all c (by omega) ((bls s).length - 1 - i) (by omega)
          rw [jW_of (z := ((bls s).length : Int) - (i : Int) - 1) (by omega) (by omega), show ((bls s).length : Int) - (i : Int) - 1 = (((bls s).length - 1 - i : Nat) : Int) by omega, ec, D]
          rfl
        · rw [if_pos (show jAn (jSr s bay) 1 = 0 by omega), if_neg bb]
  have run := itr_run (L := fun q c (st : Int × Int) m => f_X8_putGangs_L45 q s bay ((bls s).length : Int) st.1 st.2 c m) (cCh (fun c => pVal M t mo (bls s) (dgl 4 (bls s).length c))) (fun _ _ m' => m' = m) (lo := 0) (n := ((4 ^ (bls s).length : Nat) : Int)) (by
    intro q c st m1 h0 h1 hI
    subst hI
    refine ⟨m1, rfl, ?_⟩
    obtain ⟨cn, ec⟩ : ∃ n : Nat, c = (n : Int) := ⟨c.toNat, by omega⟩
    have T := c_tog (m := m1) (t := t) (mo := mo) (B := bls s) (c := cn) hm hl (by omega) h
    rw [← ec] at T
    have pv := pb (dgl 4 (bls s).length c)
    show f_X8_putGangs_L45 (q + 1) s bay ((bls s).length : Int) st.1 st.2 c m1 = f_X8_putGangs_L45 q s bay ((bls s).length : Int) (cCh (fun c => pVal M t mo (bls s) (dgl 4 (bls s).length c)) c st).1 (cCh (fun c => pVal M t mo (bls s) (dgl 4 (bls s).length c)) c st).2 (c + 1) m1
    rw [f_X8_putGangs_L45, sh.1, if_neg (by omega), T, Option.bind_some, jW_of (z := c + 1) (by omega) (by omega)]
    unfold cCh
    show (if pVal M t mo (bls s) (dgl 4 (bls s).length c) = -1 then _ else _) = _
    by_cases z : pVal M t mo (bls s) (dgl 4 (bls s).length c) = -1
    · rw [if_pos z, if_pos z]
    · rw [if_neg z, if_neg z]
      by_cases y : st.2 ≤ pVal M t mo (bls s) (dgl 4 (bls s).length c)
      · rw [if_pos y, if_pos y]
      · rw [if_neg y, if_neg y]) (4 ^ (bls s).length) jFU 0 (-1, 1000000000) m (Int.le_refl _) (by omega) (by unfold jFU; omega) rfl
  obtain ⟨m', q, rfl, _, e⟩ := run
  rw [hst] at e
  exact e.trans (fin q)
