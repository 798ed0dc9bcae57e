/-! LEVEL 2: code that a text can give: its truths, and how many wait -/
def eB (e : Int → Int) : Prop := (∀ c, 108 ≤ c → c ≤ 110 → e c = 0 ∨ e c = 1) ∧ ∀ c, 111 ≤ c → c ≤ 116 → 0 ≤ e c ∧ e c ≤ 400
/-- the machine stays small on its way -/
def xOk (e : Int → Int) : List Int → Int × Int × Int → Prop
  | [], _ => True
  | c :: cs, x => (0 ≤ x.1 ∧ x.1 < 1073741824 ∧ 0 ≤ x.2.2 ∧ x.2.2 ≤ 1000000) ∧ xOk e cs (xSt e x c)
theorem xOk_app (e : Int → Int) : ∀ (a c : List Int) (x : Int × Int × Int), xOk e a x → xOk e c (xEv e a x) → xOk e (a ++ c) x := by
  intro a
  induction a with
  | nil => intro c x _ h; exact h
  | cons y a ih => intro c x h1 h2; exact ⟨h1.1, ih c _ h1.2 h2⟩
def xB (h : Nat) : Int := ((2 ^ (30 - h) : Nat) : Int)
theorem xB_mono {h h' : Nat} (hh : h ≤ h') : xB h' ≤ xB h := Int.ofNat_le.mpr (Nat.pow_le_pow_right (by decide) (by omega))
theorem xB_s {h : Nat} (hh : h < 30) : xB h = 2 * xB (h + 1) := by
  unfold xB
  rw [show 30 - h = (30 - (h + 1)) + 1 by omega, Nat.pow_succ]
  omega
theorem xB_1 : xB 1 = 536870912 := rfl
theorem xB_2 : xB 2 = 268435456 := rfl
/-- good code that needs so much room above -/
def Gb (e : Int → Int) (h : Nat) (cs : List Int) : Prop := ∃ v, Gd e cs v ∧ ∀ x l, 0 ≤ x → x < xB h → xOk e cs (x, l, 0)
theorem Gb.mono {e : Int → Int} {h h' : Nat} {cs : List Int} (g : Gb e h cs) (hh : h ≤ h') : Gb e h' cs := by
  obtain ⟨v, g1, g2⟩ := g
  refine ⟨v, g1, fun x l h0 h1 => g2 x l h0 (Int.lt_of_lt_of_le h1 (xB_mono hh))⟩
theorem Gb.not {e : Int → Int} {h : Nat} {c : List Int} (g : Gb e h c) (h1 : 1 ≤ h) : Gb e h (c ++ [107]) := by
  obtain ⟨v, g1, g2⟩ := g
  refine ⟨1 - v, g1.not, fun x l h0 hx => xOk_app e c [107] _ (g2 x l h0 hx) ?_⟩
  obtain ⟨l', e1⟩ := g1.2 x l
  have hv := g1.1
  have hp : xB h ≤ 536870912 := xB_mono h1
  rw [e1]
  exact ⟨⟨by show 0 ≤ 2 * x + v; omega, by show 2 * x + v < 1073741824; omega, Int.le_refl 0, by show (0 : Int) ≤ 1000000; decide⟩, trivial⟩
theorem Gb.join {e : Int → Int} {h : Nat} {c c2 : List Int} {op : Int} (hop : op = 106 ∨ op = 105) (g : Gb e (h + 1) c) (k : Gb e h c2) (h1 : 1 ≤ h) (hh : h < 28) : Gb e (h + 1) (c ++ (c2 ++ [op])) := by
  obtain ⟨v, g1, g2⟩ := g
  obtain ⟨w, k1, k2⟩ := k
  have G : ∃ z, Gd e (c ++ (c2 ++ [op])) z := by
    rcases hop with rfl | rfl
    · exact ⟨_, g1.and k1⟩
    · exact ⟨_, g1.or k1⟩
  obtain ⟨z, G⟩ := G
  refine ⟨z, G, fun x l h0 hx => xOk_app e c _ _ (g2 x l h0 hx) ?_⟩
  obtain ⟨l', e1⟩ := g1.2 x l
  have hv := g1.1
  have hw := k1.1
  have hp := xB_s (h := h) (by omega)
  have hq : xB (h + 1) ≤ 268435456 := xB_mono (show 2 ≤ h + 1 by omega)
  rw [e1]
  refine xOk_app e c2 _ _ (k2 (2 * x + v) l' (by omega) (by omega)) ?_
  obtain ⟨l2, e2⟩ := k1.2 (2 * x + v) l'
  rw [e2]
  exact ⟨⟨by show 0 ≤ 2 * (2 * x + v) + w; omega, by show 2 * (2 * x + v) + w < 1073741824; omega, Int.le_refl 0, by show (0 : Int) ≤ 1000000; decide⟩, trivial⟩
