/-! LEVEL 2: the class's walk and search -/
section CORDER
variable {m0 : jMu} {M : Int → Int} {t g : Int} {B : List Int}
/-- what the works have while they search: bays whose coats were measured -/
def wK (m0 : jMu) (M : Int → Int) (t g : Int) (B : List Int) : Prop := kC m0 0 M ∧ (0 ≤ t ∧ t < M 5) ∧ (0 ≤ g ∧ g < M 6) ∧ ∀ b ∈ B, (0 ≤ b ∧ b < M 0) ∧ ∀ j, 0 ≤ j → j < M 8 → M (376 + 8 * j) = b → m0 68 j = M (376 + 8 * j + 4) + sDry M j
theorem c_go {m : jMu} (W : wK m0 M t g B) (I : iW m0 m) (K : kLk m M t) {b fr : Int} (hb : b ∈ B) (h0 : 0 ≤ fr) : f_X8_firstMoment b fr m = some (sFm M b fr) ∧ ∃ m', f_X8_workEnd b g (sFm M b fr) m = some (sGo M t g b fr, m') ∧ iW m0 m' ∧ kLk m' M t := by
  obtain ⟨w1, w2, w3, w4⟩ := W
  have C := I.kC w1
  refine ⟨c_fm C (fun j a c d => by rw [I 68 (by decide) (by decide)]; exact (w4 b hb).2 j a c d) h0, ?_⟩
  obtain ⟨m', e1, f1, K1⟩ := c_end C (bay := b) (g := g) (mo := sFm M b fr) K w2 (w4 b hb).1 w3
  exact ⟨m', e1, I.tr f1, K1⟩
/-- what the walk ends with, where it stands behind some bays -/
def wV (M : Int → Int) (t g mo : Int) (l : List Int) (e bf : Int) : Int := match l with | [] => e | x :: _ => gGo M t g l (if bf = -1 then mo else e + (x - bf))
theorem wV_c {mo x e bf : Int} {r : List Int} : wV M t g mo (x :: r) e bf = gGo M t g (x :: r) (if bf = -1 then mo else e + (x - bf)) := rfl
theorem c_walkL (W : wK m0 M t g B) {s mo : Int} (hs : bls s = B) (hm : 0 ≤ mo ∧ mo ≤ 2400) : ∀ (d q : Nat) (i e bf : Int) (m : jMu), 0 ≤ i → i + d = 8 → d < q → (bf = -1 ∨ (0 ≤ bf ∧ bf < i ∧ 0 ≤ e ∧ e ≤ 2400)) → iW m0 m → kLk m M t → ∃ m', f_X8_walkedEnd_L9 q g s mo e bf i m = some (wV M t g mo (lsF s d i) e bf, m') ∧ iW m0 m' ∧ kLk m' M t := by
  intro d
  induction d with
  | zero =>
    intro q i e bf m h0 h1 hq hb I K
    obtain ⟨q, rfl⟩ : ∃ t, q = t + 1 := ⟨q - 1, by omega⟩
    exact ⟨m, by rw [f_X8_walkedEnd_L9, if_pos (by omega)]; rfl, I, K⟩
  | succ d ih =>
    intro q i e bf m h0 h1 hq hb I K
    obtain ⟨q, rfl⟩ : ∃ t, q = t + 1 := ⟨q - 1, by omega⟩
    have ei : jW (i + 1) = i + 1 := jW_of (by omega) (by omega)
    rw [f_X8_walkedEnd_L9, if_neg (by omega), ei]
    unfold lsF
    by_cases gb : jAn (jSr s i) 1 = 1
    · rw [if_pos gb, if_pos gb]
      have hiB : i ∈ B := by
        rw [← hs]
        have : ∀ (d : Nat) (k : Int), k ≤ i → i < k + d → i ∈ lsF s d k := by
          intro d
          induction d with
          | zero => intro k a b; omega
          | succ d ih2 =>
            intro k a b
            unfold lsF
            by_cases ek : k = i
            · rw [ek, if_pos gb]; exact List.mem_cons_self
            · have := ih2 (k + 1) (by omega) (by omega)
              split
              · exact List.mem_cons_of_mem _ this
              · exact this
        exact this 8 0 h0 (by omega)
      rw [wV_c, gGo_c]
      have go : ∀ fr : Int, 0 ≤ fr → ∃ m', ((f_X8_firstMoment i fr m).bind fun r1 => (f_X8_workEnd i g r1 m).bind fun r2 => (if r2.1 = (-1) then some ((-1), r2.2) else f_X8_walkedEnd_L9 q g s mo r2.1 i (i + 1) r2.2)) = some (if sGo M t g i fr = -1 then -1 else gGo M t g (lsF s d (i + 1)) (sGo M t g i fr + gW i (lsF s d (i + 1))), m') ∧ iW m0 m' ∧ kLk m' M t := by
        intro fr hfr
        obtain ⟨e1, m1, e2, I1, K1⟩ := c_go W I K hiB hfr
        rw [e1, Option.bind_some, e2, Option.bind_some]
        by_cases gz : sGo M t g i fr = -1
        · rw [if_pos gz, if_pos gz]
          exact ⟨m1, rfl, I1, K1⟩
        · have S := sGo_b gz
          rw [if_neg gz, if_neg gz]
          obtain ⟨m2, x1, x2, x3⟩ := ih q (i + 1) (sGo M t g i fr) i m1 (by omega) (by omega) (by omega) (Or.inr ⟨h0, by omega, by omega, S.2⟩) I1 K1
          refine ⟨m2, ?_, x2, x3⟩
          show f_X8_walkedEnd_L9 q g s mo (sGo M t g i fr) i (i + 1) m1 = _
          rw [x1]
          cases hl : lsF s d (i + 1) with
          | nil =>
            show some (sGo M t g i fr, m2) = some (sGo M t g i fr + 0, m2)
            rw [Int.add_zero]
          | cons y r =>
            have hy := lsF_mem d (i + 1) (show y ∈ lsF s d (i + 1) by rw [hl]; exact List.mem_cons_self)
            rw [wV_c, if_neg (by omega)]
            show _ = some (gGo M t g (y :: r) (sGo M t g i fr + (if y ≤ i then i - y else y - i)), m2)
            rw [if_neg (by omega)]
      by_cases gf : bf = -1
      · rw [if_pos gf, if_pos gf]
        exact go mo hm.1
      · rw [if_neg gf, if_neg gf, jW_of (z := e + i) (by omega) (by omega), jW_of (z := e + i - bf) (by omega) (by omega), show e + i - bf = e + (i - bf) by omega]
        exact go _ (by omega)
    · rw [if_neg gb, if_neg gb]
      exact ih q (i + 1) e bf m (by omega) (by omega) (by omega) (hb.imp id (fun z => ⟨z.1, by omega, z.2.2⟩)) I K
theorem c_walk (W : wK m0 M t g B) {s mo : Int} (hs : bls s = B) (hm : 0 ≤ mo ∧ mo ≤ 2400) (hne : B ≠ []) {m : jMu} (I : iW m0 m) (K : kLk m M t) : ∃ m', f_X8_walkedEnd g s mo m = some (gGo M t g B mo, m') ∧ iW m0 m' ∧ kLk m' M t := by
  obtain ⟨m', e1, e2, e3⟩ := c_walkL W hs hm 8 jFU 0 (-1) (-1) m (Int.le_refl _) (by decide) (by unfold jFU; omega) (Or.inl rfl) I K
  refine ⟨m', ?_, e2, e3⟩
  have hs' : lsF s 8 0 = B := hs
  rw [hs'] at e1
  unfold f_X8_walkedEnd
  rw [e1]
  cases B with
  | nil => exact (hne rfl).elim
  | cons x r => rfl
/-! the search -/
def sLst (M : Int → Int) (t g : Int) (k : Nat) (l : List Int) (b fr s : Int) : Int := mnF (fun q => gGo M t g (b :: q) fr) (pm k (l.erase b)) s
theorem c_least (W : wK m0 M t g B) : ∀ (k d s : Nat) (b fr bd dp : Int) (m : jMu), s < 256 → (∀ x ∈ bls (s : Int), x ∈ B) → (bls (s : Int)).length = k + 1 → b ∈ bls (s : Int) → 1 ≤ dp → dp + k ≤ 6 → k < d → 0 ≤ fr → fr ≤ 3000 → 0 ≤ bd → bd ≤ 3000 → iW m0 m → kLk m M t → ∃ m', fr_X8_leastEnd d g (s : Int) b fr bd dp m = some (if sLst M t g k (bls (s : Int)) b fr bd = bd then -1 else sLst M t g k (bls (s : Int)) b fr bd, m') ∧ iW m0 m' ∧ kLk m' M t := by
  intro k
  induction k with
  | zero =>
    intro d s b fr bd dp m hs hB hl hb hd1 hd2 hd h0 h1 h2 h3 I K
    obtain ⟨d, rfl⟩ : ∃ t, d = t + 1 := ⟨d - 1, by omega⟩
    have bb := lst_b hb
    obtain ⟨bn, rfl⟩ : ∃ n : Nat, b = (n : Int) := ⟨b.toNat, by omega⟩
    obtain ⟨r1, r2, r3⟩ := lsR_all s hs bn (by omega) hb
    have el : (bls (s : Int)).erase (bn : Int) = [] := List.length_eq_zero_iff.mp (by rw [List.length_erase_of_mem hb]; omega)
    obtain ⟨e1, m1, e2, I1, K1⟩ := c_go W I K (hB _ hb) h0
    have ev : sLst M t g 0 (bls (s : Int)) (bn : Int) fr bd = mnS (gGo M t g [(bn : Int)] fr) bd := by
      unfold sLst
      rw [el]
      rfl
    have eg : gGo M t g [(bn : Int)] fr = sGo M t g (bn : Int) fr := by
      rw [gGo_c]
      by_cases z : sGo M t g (bn : Int) fr = -1
      · rw [if_pos z, z]
      · rw [if_neg z]
        show sGo M t g (bn : Int) fr + 0 = _
        rw [Int.add_zero]
    rw [ev, eg]
    refine ⟨m1, ?_, I1, K1⟩
    show f_X8_leastEnd (fr_X8_leastEnd d) g (s : Int) (bn : Int) fr bd dp m = _
    unfold f_X8_leastEnd
    rw [e1, Option.bind_some, e2, Option.bind_some]
    unfold mnS
    by_cases z : sGo M t g (bn : Int) fr = -1
    · rw [if_pos z, if_pos z, if_pos rfl]
    · rw [if_neg z, if_neg z]
      by_cases z2 : bd ≤ sGo M t g (bn : Int) fr
      · rw [if_pos z2, if_neg (show ¬ sGo M t g (bn : Int) fr < bd by omega), if_pos rfl]
      · have er : jAn (s : Int) (jXo (jSl 1 (bn : Int)) (-1)) = 0 := r3.mpr el
        rw [if_neg z2, if_pos (show dp ≤ 6 by omega), if_pos er, if_pos (show sGo M t g (bn : Int) fr < bd by omega), if_neg (show ¬ sGo M t g (bn : Int) fr = bd by omega)]
  | succ k ih =>
    intro d s b fr bd dp m hs hB hl hb hd1 hd2 hd h0 h1 h2 h3 I K
    obtain ⟨d, rfl⟩ : ∃ t, d = t + 1 := ⟨d - 1, by omega⟩
    have bb := lst_b hb
    obtain ⟨bn, rfl⟩ : ∃ n : Nat, b = (n : Int) := ⟨b.toNat, by omega⟩
    obtain ⟨r1, r2, r3⟩ := lsR_all s hs bn (by omega) hb
    have ell : ((bls (s : Int)).erase (bn : Int)).length = k + 1 := by rw [List.length_erase_of_mem hb]; omega
    have ene : ¬ (bls (s : Int)).erase (bn : Int) = [] := fun z => by rw [z] at ell; cases ell
    obtain ⟨e1, m1, e2, I1, K1⟩ := c_go W I K (hB _ hb) h0
    have er : jAn (s : Int) (jXo (jSl 1 (bn : Int)) (-1)) = lsR (s : Int) (bn : Int) := rfl
    obtain ⟨rs, hrs⟩ : ∃ n : Nat, lsR (s : Int) (bn : Int) = (n : Int) := ⟨(lsR (s : Int) (bn : Int)).toNat, by omega⟩
    have ev : sLst M t g (k + 1) (bls (s : Int)) (bn : Int) fr bd = ((bls (s : Int)).erase (bn : Int)).foldl (fun s' x => mnF (fun q => gGo M t g ((bn : Int) :: x :: q) fr) (pm k (((bls (s : Int)).erase (bn : Int)).erase x)) s') bd := by
      unfold sLst
      exact mnF_fm _ _
    -- nothing is below the bound
    have no : (sGo M t g (bn : Int) fr = -1 ∨ bd ≤ sGo M t g (bn : Int) fr) → sLst M t g (k + 1) (bls (s : Int)) (bn : Int) fr bd = bd := by
      intro z
      unfold sLst
      refine mnF_no _ _ (fun q _ => ?_)
      rcases z with z | z
      · exact Or.inl (by show gGo M t g ((bn : Int) :: q) fr = -1; rw [gGo_c, if_pos z])
      · rcases gGo_1 (M := M) (t := t) (g := g) (b := (bn : Int)) (fr := fr) (r := q) with y | y
        · exact Or.inl y
        · exact Or.inr (Int.le_trans z y)
    by_cases z : sGo M t g (bn : Int) fr = -1
    · refine ⟨m1, ?_, I1, K1⟩
      show f_X8_leastEnd (fr_X8_leastEnd d) g (s : Int) (bn : Int) fr bd dp m = _
      unfold f_X8_leastEnd
      rw [e1, Option.bind_some, e2, Option.bind_some, if_pos z, no (Or.inl z), if_pos rfl]
    by_cases z2 : bd ≤ sGo M t g (bn : Int) fr
    · refine ⟨m1, ?_, I1, K1⟩
      show f_X8_leastEnd (fr_X8_leastEnd d) g (s : Int) (bn : Int) fr bd dp m = _
      unfold f_X8_leastEnd
      rw [e1, Option.bind_some, e2, Option.bind_some, if_neg z, if_pos z2, no (Or.inr z2), if_pos rfl]
    have S := sGo_b z
    -- one more bay behind
    let X : Int → Int → Int := fun x s' => mnF (fun q => gGo M t g (x :: q) (sGo M t g (bn : Int) fr + gW (bn : Int) [x])) (pm k (((bls (s : Int)).erase (bn : Int)).erase x)) s'
    have key := itz_loop (L := fun q i s' m => f_X8_leastEnd_L64 (fr_X8_leastEnd d) q g (bn : Int) dp (sGo M t g (bn : Int) fr) (rs : Int) (if s' = bd then -1 else s') s' i m) (fun i s' => if jAn (jSr (rs : Int) i) 1 = 1 then X i s' else s') (fun s' m => (if s' = bd then -1 else s', m)) (fun _ s' m => (0 ≤ s' ∧ s' ≤ bd) ∧ iW m0 m ∧ kLk m M t) (lo := 0) (n := 8) (by
      intro q i s' m2 g0 g1 hI
      obtain ⟨hs', I2, K2⟩ := hI
      have ei : jW (i + 1) = i + 1 := jW_of (by omega) (by omega)
      by_cases gb : jAn (jSr (rs : Int) i) 1 = 1
      · have him : i ∈ bls (rs : Int) := by
          have : ∀ (d : Nat) (k : Int), k ≤ i → i < k + d → i ∈ lsF (rs : Int) d k := by
            intro d
            induction d with
            | zero => intro k a b; omega
            | succ d ih2 =>
              intro k a b
              unfold lsF
              by_cases ek : k = i
              · rw [ek, if_pos gb]; exact List.mem_cons_self
              · have := ih2 (k + 1) (by omega) (by omega)
                split
                · exact List.mem_cons_of_mem _ this
                · exact this
          exact this 8 0 g0 (by omega)
        have r2' : bls (rs : Int) = (bls (s : Int)).erase (bn : Int) := by rw [← hrs]; exact r2
        have wv : gW (bn : Int) [i] = if i ≤ (bn : Int) then (bn : Int) - i else i - (bn : Int) := rfl
        have wb : 0 ≤ gW (bn : Int) [i] ∧ gW (bn : Int) [i] ≤ 7 := by rw [wv]; split <;> omega
        obtain ⟨m3, x1, x2, x3⟩ := ih d rs i (sGo M t g (bn : Int) fr + gW (bn : Int) [i]) s' (dp + 1) m2 (by omega) (fun x hx => by rw [r2'] at hx; exact hB x (List.mem_of_mem_erase hx)) (by rw [r2']; exact ell) him (by omega) (by omega) (by omega) (by omega) (by omega) (by omega) (by omega) I2 K2
        have xe : sLst M t g k (bls (rs : Int)) i (sGo M t g (bn : Int) fr + gW (bn : Int) [i]) s' = X i s' := by
          show mnF _ (pm k ((bls (rs : Int)).erase i)) s' = mnF _ (pm k (((bls (s : Int)).erase (bn : Int)).erase i)) s'
          rw [r2']
        rw [xe] at x1
        have xle : X i s' ≤ s' := mnF_le _ _ _
        have xge : 0 ≤ X i s' := mnF_ge (fun q => by
          rcases gGo_ge (M := M) (t := t) (g := g) (i :: q) (sGo M t g (bn : Int) fr + gW (bn : Int) [i]) with y | y
          · exact Or.inl y
          · exact Or.inr (by show 0 ≤ gGo M t g (i :: q) (sGo M t g (bn : Int) fr + gW (bn : Int) [i]); omega)) _ _ hs'.1
        have go : ∀ w : Int, w = sGo M t g (bn : Int) fr + gW (bn : Int) [i] → ((fr_X8_leastEnd d g (rs : Int) i w s' (jW (dp + 1)) m2).bind fun r3 => (if r3.1 = (-1) then f_X8_leastEnd_L64 (fr_X8_leastEnd d) q g (bn : Int) dp (sGo M t g (bn : Int) fr) (rs : Int) (if s' = bd then -1 else s') s' (i + 1) r3.2 else f_X8_leastEnd_L64 (fr_X8_leastEnd d) q g (bn : Int) dp (sGo M t g (bn : Int) fr) (rs : Int) r3.1 r3.1 (i + 1) r3.2)) = f_X8_leastEnd_L64 (fr_X8_leastEnd d) q g (bn : Int) dp (sGo M t g (bn : Int) fr) (rs : Int) (if X i s' = bd then -1 else X i s') (X i s') (i + 1) m3 := by
          intro w hw
          rw [hw, jW_of (z := dp + 1) (by omega) (by omega), x1, Option.bind_some]
          by_cases y : X i s' = s'
          · rw [if_pos y, if_pos rfl, y]
          · rw [if_neg y, if_neg (show ¬ X i s' = -1 by omega), if_neg (show ¬ X i s' = bd by omega)]
        refine ⟨m3, ⟨?_, x2, x3⟩, ?_⟩
        · show 0 ≤ (if jAn (jSr (rs : Int) i) 1 = 1 then X i s' else s') ∧ (if jAn (jSr (rs : Int) i) 1 = 1 then X i s' else s') ≤ bd
          rw [if_pos gb]
          omega
        · show f_X8_leastEnd_L64 (fr_X8_leastEnd d) (q + 1) g (bn : Int) dp (sGo M t g (bn : Int) fr) (rs : Int) (if s' = bd then -1 else s') s' i m2 = f_X8_leastEnd_L64 (fr_X8_leastEnd d) q g (bn : Int) dp (sGo M t g (bn : Int) fr) (rs : Int) (if (if jAn (jSr (rs : Int) i) 1 = 1 then X i s' else s') = bd then -1 else (if jAn (jSr (rs : Int) i) 1 = 1 then X i s' else s')) (if jAn (jSr (rs : Int) i) 1 = 1 then X i s' else s') (i + 1) m3
          rw [if_pos gb, f_X8_leastEnd_L64, if_neg (by omega), if_pos gb, ei]
          by_cases gi : (bn : Int) ≤ i
          · rw [if_pos gi]
            refine go _ ?_
            rw [jW_of (z := i - (bn : Int)) (by omega) (by omega), jW_of (by omega) (by omega), wv]
            by_cases gj : i ≤ (bn : Int)
            · rw [if_pos gj]; omega
            · rw [if_neg gj]
          · rw [if_neg gi]
            refine go _ ?_
            rw [jW_of (z := (bn : Int) - i) (by omega) (by omega), jW_of (by omega) (by omega), wv, if_pos (by omega)]
      · refine ⟨m2, ⟨?_, I2, K2⟩, ?_⟩
        · show 0 ≤ (if jAn (jSr (rs : Int) i) 1 = 1 then X i s' else s') ∧ (if jAn (jSr (rs : Int) i) 1 = 1 then X i s' else s') ≤ bd
          rw [if_neg gb]
          exact hs'
        · show f_X8_leastEnd_L64 (fr_X8_leastEnd d) (q + 1) g (bn : Int) dp (sGo M t g (bn : Int) fr) (rs : Int) (if s' = bd then -1 else s') s' i m2 = f_X8_leastEnd_L64 (fr_X8_leastEnd d) q g (bn : Int) dp (sGo M t g (bn : Int) fr) (rs : Int) (if (if jAn (jSr (rs : Int) i) 1 = 1 then X i s' else s') = bd then -1 else (if jAn (jSr (rs : Int) i) 1 = 1 then X i s' else s')) (if jAn (jSr (rs : Int) i) 1 = 1 then X i s' else s') (i + 1) m2
          rw [if_neg gb, f_X8_leastEnd_L64, if_neg (by omega), if_neg gb, ei]) (by
      intro q s' m2 _
      show f_X8_leastEnd_L64 (fr_X8_leastEnd d) (q + 1) g (bn : Int) dp (sGo M t g (bn : Int) fr) (rs : Int) (if s' = bd then -1 else s') s' 8 m2 = _
      rw [f_X8_leastEnd_L64, if_pos (Int.le_refl _)]) 8 jFU 0 bd m1 (Int.le_refl _) (by decide) (by unfold jFU; omega) ⟨⟨h2, Int.le_refl _⟩, I1, K1⟩
    obtain ⟨m4, J, ek⟩ := key
    rw [lsF_fold 8 0 bd] at J ek
    have r2'' : lsF (rs : Int) 8 0 = (bls (s : Int)).erase (bn : Int) := by
      have : bls (rs : Int) = (bls (s : Int)).erase (bn : Int) := by rw [← hrs]; exact r2
      exact this
    rw [r2''] at J ek
    have ef : ((bls (s : Int)).erase (bn : Int)).foldl (fun s' x => X x s') bd = sLst M t g (k + 1) (bls (s : Int)) (bn : Int) fr bd := by
      rw [ev]
      congr 1
      funext s' x
      refine mnF_cg _ _ (fun q _ => ?_)
      show gGo M t g (x :: q) (sGo M t g (bn : Int) fr + gW (bn : Int) [x]) = gGo M t g ((bn : Int) :: x :: q) fr
      rw [gGo_c (r := x :: q), if_neg z]
      rfl
    rw [ef] at ek
    refine ⟨m4, ?_, J.2.1, J.2.2⟩
    show f_X8_leastEnd (fr_X8_leastEnd d) g (s : Int) (bn : Int) fr bd dp m = _
    unfold f_X8_leastEnd
    rw [e1, Option.bind_some, e2, Option.bind_some, if_neg z, if_neg z2, if_pos (by omega), er, if_neg (fun y => ene (r3.mp y)), hrs]
    refine Eq.trans ?_ ek
    show f_X8_leastEnd_L64 (fr_X8_leastEnd d) jFU g (bn : Int) dp (sGo M t g (bn : Int) fr) (rs : Int) (-1) bd 0 m1 = f_X8_leastEnd_L64 (fr_X8_leastEnd d) jFU g (bn : Int) dp (sGo M t g (bn : Int) fr) (rs : Int) (if bd = bd then -1 else bd) bd 0 m1
    rw [if_pos rfl]
/-- the best order: its end, and the bay it begins with -/
def sBs (M : Int → Int) (t g mo : Int) (k : Nat) (l : List Int) : Int × Int := l.foldl (fun st x => (sLst M t g k l x mo st.1, if sLst M t g k l x mo st.1 = st.1 then st.2 else x)) (2401, -1)
theorem c_best (W : wK m0 M t g B) {k s : Nat} {mo wh : Int} (hs8 : s < 256) (hs : bls (s : Int) = B) (hl : B.length = k + 1) (hk : k ≤ 5) (hm : 0 ≤ mo ∧ mo ≤ 2400) {m : jMu} (I : iW m0 m) (K : kLk m M t) : ∃ m', f_X8_bestOrder g (s : Int) mo wh m = some (if wh = 0 then (if (sBs M t g mo k B).2 = -1 then -1 else (sBs M t g mo k B).1) else (sBs M t g mo k B).2, m') ∧ iW m0 m' ∧ kLk m' M t := by
  have key := itz_loop (L := fun q i (st : Int × Int) m => f_X8_bestOrder_L11 q g (s : Int) mo wh st.1 st.2 i m) (fun i (st : Int × Int) => if jAn (jSr (s : Int) i) 1 = 1 then (sLst M t g k B i mo st.1, if sLst M t g k B i mo st.1 = st.1 then st.2 else i) else st) (fun st m => (if wh = 0 then (if st.2 = -1 then -1 else st.1) else st.2, m)) (fun _ st m => (0 ≤ st.1 ∧ st.1 ≤ 2401) ∧ iW m0 m ∧ kLk m M t) (lo := 0) (n := 8) (by
    intro q i st m2 g0 g1 hI
    obtain ⟨hs', I2, K2⟩ := hI
    have ei : jW (i + 1) = i + 1 := jW_of (by omega) (by omega)
    by_cases gb : jAn (jSr (s : Int) i) 1 = 1
    · have him : i ∈ bls (s : Int) := by
        have : ∀ (d : Nat) (k : Int), k ≤ i → i < k + d → i ∈ lsF (s : Int) d k := by
          intro d
          induction d with
          | zero => intro k a b; omega
          | succ d ih2 =>
            intro k a b
            unfold lsF
            by_cases ek : k = i
            · rw [ek, if_pos gb]; exact List.mem_cons_self
            · have := ih2 (k + 1) (by omega) (by omega)
              split
              · exact List.mem_cons_of_mem _ this
              · exact this
        exact this 8 0 g0 (by omega)
      obtain ⟨m3, x1, x2, x3⟩ := c_least W k 8 s i mo st.1 1 m2 hs8 (fun x hx => by rw [hs] at hx; exact hx) (by rw [hs]; exact hl) him (by decide) (by omega) (by omega) hm.1 (by omega) hs'.1 (by omega) I2 K2
      rw [hs] at x1
      have xle : sLst M t g k B i mo st.1 ≤ st.1 := mnF_le _ _ _
      have xge : 0 ≤ sLst M t g k B i mo st.1 := mnF_ge (fun q => by
        rcases gGo_ge (M := M) (t := t) (g := g) (i :: q) mo with y | y
        · exact Or.inl y
        · exact Or.inr (by show 0 ≤ gGo M t g (i :: q) mo; omega)) _ _ hs'.1
      refine ⟨m3, ⟨?_, x2, x3⟩, ?_⟩
      · show 0 ≤ (if jAn (jSr (s : Int) i) 1 = 1 then (sLst M t g k B i mo st.1, if sLst M t g k B i mo st.1 = st.1 then st.2 else i) else st).1 ∧ (if jAn (jSr (s : Int) i) 1 = 1 then (sLst M t g k B i mo st.1, if sLst M t g k B i mo st.1 = st.1 then st.2 else i) else st).1 ≤ 2401
        rw [if_pos gb]
        show 0 ≤ sLst M t g k B i mo st.1 ∧ sLst M t g k B i mo st.1 ≤ 2401
        omega
      · show f_X8_bestOrder_L11 (q + 1) g (s : Int) mo wh st.1 st.2 i m2 = f_X8_bestOrder_L11 q g (s : Int) mo wh (if jAn (jSr (s : Int) i) 1 = 1 then (sLst M t g k B i mo st.1, if sLst M t g k B i mo st.1 = st.1 then st.2 else i) else st).1 (if jAn (jSr (s : Int) i) 1 = 1 then (sLst M t g k B i mo st.1, if sLst M t g k B i mo st.1 = st.1 then st.2 else i) else st).2 (i + 1) m3
        rw [if_pos gb, f_X8_bestOrder_L11, if_neg (by omega), if_pos gb, x1, Option.bind_some, ei]
        show (if (if sLst M t g k B i mo st.1 = st.1 then -1 else sLst M t g k B i mo st.1) = -1 then f_X8_bestOrder_L11 q g (s : Int) mo wh st.1 st.2 (i + 1) m3 else f_X8_bestOrder_L11 q g (s : Int) mo wh (if sLst M t g k B i mo st.1 = st.1 then -1 else sLst M t g k B i mo st.1) i (i + 1) m3) = f_X8_bestOrder_L11 q g (s : Int) mo wh (sLst M t g k B i mo st.1) (if sLst M t g k B i mo st.1 = st.1 then st.2 else i) (i + 1) m3
        by_cases y : sLst M t g k B i mo st.1 = st.1
        · rw [if_pos y, if_pos rfl, if_pos y, y]
        · rw [if_neg y, if_neg (by omega), if_neg y]
    · refine ⟨m2, ⟨?_, I2, K2⟩, ?_⟩
      · show 0 ≤ (if jAn (jSr (s : Int) i) 1 = 1 then (sLst M t g k B i mo st.1, if sLst M t g k B i mo st.1 = st.1 then st.2 else i) else st).1 ∧ (if jAn (jSr (s : Int) i) 1 = 1 then (sLst M t g k B i mo st.1, if sLst M t g k B i mo st.1 = st.1 then st.2 else i) else st).1 ≤ 2401
        rw [if_neg gb]
        exact hs'
      · show f_X8_bestOrder_L11 (q + 1) g (s : Int) mo wh st.1 st.2 i m2 = f_X8_bestOrder_L11 q g (s : Int) mo wh (if jAn (jSr (s : Int) i) 1 = 1 then (sLst M t g k B i mo st.1, if sLst M t g k B i mo st.1 = st.1 then st.2 else i) else st).1 (if jAn (jSr (s : Int) i) 1 = 1 then (sLst M t g k B i mo st.1, if sLst M t g k B i mo st.1 = st.1 then st.2 else i) else st).2 (i + 1) m2
        rw [if_neg gb, f_X8_bestOrder_L11, if_neg (by omega), if_neg gb, ei]) (by
    intro q st m2 _
    show f_X8_bestOrder_L11 (q + 1) g (s : Int) mo wh st.1 st.2 8 m2 = _
    rw [f_X8_bestOrder_L11, if_pos (Int.le_refl _)]
    by_cases y : wh = 0
    · rw [if_pos y, if_pos y]
      by_cases y2 : st.2 = -1
      · rw [if_pos y2, if_pos y2, y2]
      · rw [if_neg y2, if_neg y2]
    · rw [if_neg y, if_neg y]) 8 jFU 0 (2401, -1) m (Int.le_refl _) (by decide) (by unfold jFU; omega) ⟨⟨by decide, Int.le_refl _⟩, I, K⟩
  obtain ⟨m4, J, ek⟩ := key
  rw [lsF_fold 8 0 (2401, -1)] at J ek
  have hs' : lsF (s : Int) 8 0 = B := hs
  rw [hs'] at J ek
  exact ⟨m4, ek, J.2.1, J.2.2⟩
end CORDER
