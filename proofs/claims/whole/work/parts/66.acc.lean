/-! LEVEL 2: loops, and reading the tables -/
/-- a loop that counts up: each turn ends it or gives what goes on -/
def itx {σ β : Type} (f : Int → σ → β ⊕ σ) (R : σ → β) : Nat → Int → σ → β
  | 0, _, s => R s
  | d + 1, i, s => match f i s with | .inl v => v | .inr t => itx f R d (i + 1) t
theorem itx_loop {σ β : Type} {L : Nat → Int → σ → Option β} (f : Int → σ → β ⊕ σ) (R : σ → β) (P : Int → σ → Prop) {lo n : Int}
    (hs : ∀ q i s, lo ≤ i → i < n → P i s → (∃ v, f i s = .inl v ∧ L (q + 1) i s = some v) ∨ (∃ t, f i s = .inr t ∧ L (q + 1) i s = L q (i + 1) t ∧ P (i + 1) t))
    (he : ∀ q s, P n s → L (q + 1) n s = some (R s)) : ∀ (d q : Nat) (i : Int) (s : σ), lo ≤ i → i + d = n → d < q → P i s → L q i s = some (itx f R d i s) := by
  intro d
  induction d with
  | zero =>
    intro q i s h0 h1 h2 hP
    obtain ⟨q, rfl⟩ : ∃ p, q = p + 1 := ⟨q - 1, by omega⟩
    have : i = n := by omega
    subst this
    exact he q s hP
  | succ d ih =>
    intro q i s h0 h1 h2 hP
    obtain ⟨q, rfl⟩ : ∃ p, q = p + 1 := ⟨q - 1, by omega⟩
    rcases hs q i s h0 (by omega) hP with ⟨v, a, b⟩ | ⟨t, a, b, c⟩
    · rw [b]; unfold itx; rw [a]
    · rw [b, ih q (i + 1) t (by omega) (by omega) (by omega) c]
      conv => rhs; unfold itx
      rw [a]
/-- a loop that counts up to its end -/
def itn {σ : Type} (f : Int → σ → σ) : Nat → Int → σ → σ
  | 0, _, s => s
  | d + 1, i, s => itn f d (i + 1) (f i s)
theorem itn_loop {σ β : Type} {L : Nat → Int → σ → Option β} (f : Int → σ → σ) (R : σ → β) (P : Int → σ → Prop) {lo n : Int}
    (hs : ∀ q i s, lo ≤ i → i < n → P i s → L (q + 1) i s = L q (i + 1) (f i s) ∧ P (i + 1) (f i s))
    (he : ∀ q s, P n s → L (q + 1) n s = some (R s)) : ∀ (d q : Nat) (i : Int) (s : σ), lo ≤ i → i + d = n → d < q → P i s → L q i s = some (R (itn f d i s)) ∧ P n (itn f d i s) := by
  intro d
  induction d with
  | zero =>
    intro q i s h0 h1 h2 hP
    obtain ⟨q, rfl⟩ : ∃ p, q = p + 1 := ⟨q - 1, by omega⟩
    have : i = n := by omega
    subst this
    exact ⟨he q s hP, hP⟩
  | succ d ih =>
    intro q i s h0 h1 h2 hP
    obtain ⟨q, rfl⟩ : ∃ p, q = p + 1 := ⟨q - 1, by omega⟩
    obtain ⟨b, c⟩ := hs q i s h0 (by omega) hP
    rw [b]
    exact ih q (i + 1) _ (by omega) (by omega) (by omega) c
/-- what holds of a loop's states one by one -/
theorem itn_inv {σ : Type} {f : Int → σ → σ} (P : Int → σ → Prop) {lo n : Int} (hs : ∀ i s, lo ≤ i → i < n → P i s → P (i + 1) (f i s)) : ∀ (d : Nat) (i : Int) (s : σ), lo ≤ i → i + d = n → P i s → P n (itn f d i s) := by
  intro d
  induction d with
  | zero =>
    intro i s h0 h1 hP
    have : i = n := by omega
    subst this
    exact hP
  | succ d ih => intro i s h0 h1 hP; exact ih (i + 1) _ (by omega) (by omega) (hs i s h0 (by omega) hP)
theorem itn_rel {σ τ : Type} {f : Int → σ → σ} {g : Int → τ → τ} (P : Int → σ → τ → Prop) {lo n : Int} (hs : ∀ i s t, lo ≤ i → i < n → P i s t → P (i + 1) (f i s) (g i t)) : ∀ (d : Nat) (i : Int) (s : σ) (t : τ), lo ≤ i → i + d = n → P i s t → P n (itn f d i s) (itn g d i t) := by
  intro d
  induction d with
  | zero =>
    intro i s t h0 h1 hP
    have : i = n := by omega
    subst this
    exact hP
  | succ d ih => intro i s t h0 h1 hP; exact ih (i + 1) _ _ (by omega) (by omega) (hs i s t h0 (by omega) hP)
section ACC
variable {m : jMu} {M : Int → Int} {r c : Int}
theorem kC.t (C : kC m 0 M) (k : Nat) (hk : k < 14) : TabR m (kT k).1 ((kT k).1 + 1) (kT k).2.2.1 (kT k).2.2.2 (kN M k) (kF M k) := (C.1 k hk).1
theorem kC.n (C : kC m 0 M) : (0 ≤ M 0 ∧ M 0 ≤ 8) ∧ (0 ≤ M 1 ∧ M 1 ≤ 30) ∧ (0 ≤ M 2 ∧ M 2 ≤ 6) ∧ (0 ≤ M 3 ∧ M 3 ≤ 5) ∧ (0 ≤ M 4 ∧ M 4 ≤ 8) ∧ (0 ≤ M 5 ∧ M 5 ≤ 3) ∧ (0 ≤ M 6 ∧ M 6 ≤ 4) ∧ (0 ≤ M 7 ∧ M 7 ≤ 6) ∧ (0 ≤ M 8 ∧ M 8 ≤ 40) ∧ (0 ≤ M 9 ∧ M 9 ≤ 30) ∧ (0 ≤ M 10 ∧ M 10 ≤ 30) ∧ (0 ≤ M 11 ∧ M 11 ≤ 199) ∧ (0 ≤ M 12 ∧ M 12 ≤ 4095) :=
  ⟨⟨(C.t 0 (by decide)).2.2.2.1, (C.t 0 (by decide)).2.2.2.2.1⟩, ⟨(C.t 1 (by decide)).2.2.2.1, (C.t 1 (by decide)).2.2.2.2.1⟩, ⟨(C.t 2 (by decide)).2.2.2.1, (C.t 2 (by decide)).2.2.2.2.1⟩, ⟨(C.t 3 (by decide)).2.2.2.1, (C.t 3 (by decide)).2.2.2.2.1⟩, ⟨(C.t 4 (by decide)).2.2.2.1, (C.t 4 (by decide)).2.2.2.2.1⟩, ⟨(C.t 11 (by decide)).2.2.2.1, (C.t 11 (by decide)).2.2.2.2.1⟩, ⟨(C.t 5 (by decide)).2.2.2.1, (C.t 5 (by decide)).2.2.2.2.1⟩, ⟨(C.t 6 (by decide)).2.2.2.1, (C.t 6 (by decide)).2.2.2.2.1⟩, ⟨(C.t 7 (by decide)).2.2.2.1, (C.t 7 (by decide)).2.2.2.2.1⟩, ⟨(C.t 9 (by decide)).2.2.2.1, (C.t 9 (by decide)).2.2.2.2.1⟩, ⟨(C.t 10 (by decide)).2.2.2.1, (C.t 10 (by decide)).2.2.2.2.1⟩, ⟨C.2.2.2.1, C.2.2.2.2.1⟩, ⟨C.2.2.2.2.2.1, C.2.2.2.2.2.2⟩⟩
theorem kC.z (C : kC m 0 M) : m 4 3 = M 0 ∧ m 6 3 = M 1 ∧ m 8 3 = M 2 ∧ m 10 3 = M 3 ∧ m 12 3 = M 4 ∧ m 14 3 = M 5 ∧ m 20 3 = M 6 ∧ m 22 3 = M 7 ∧ m 24 3 = M 8 ∧ m 26 3 = M 9 ∧ m 28 3 = M 10 ∧ m 1 14 = M 11 ∧ m 1 15 = M 12 ∧ m 4 0 = 8 ∧ m 6 0 = 30 ∧ m 8 0 = 6 ∧ m 10 0 = 5 ∧ m 12 0 = 8 ∧ m 14 0 = 3 ∧ m 20 0 = 4 ∧ m 22 0 = 6 ∧ m 24 0 = 40 ∧ m 26 0 = 30 ∧ m 28 0 = 30 :=
  ⟨(C.t 0 (by decide)).2.2.1, (C.t 1 (by decide)).2.2.1, (C.t 2 (by decide)).2.2.1, (C.t 3 (by decide)).2.2.1, (C.t 4 (by decide)).2.2.1, (C.t 11 (by decide)).2.2.1, (C.t 5 (by decide)).2.2.1, (C.t 6 (by decide)).2.2.1, (C.t 7 (by decide)).2.2.1, (C.t 9 (by decide)).2.2.1, (C.t 10 (by decide)).2.2.1, C.2.1, C.2.2.1, (C.t 0 (by decide)).1, (C.t 1 (by decide)).1, (C.t 2 (by decide)).1, (C.t 3 (by decide)).1, (C.t 4 (by decide)).1, (C.t 11 (by decide)).1, (C.t 5 (by decide)).1, (C.t 6 (by decide)).1, (C.t 7 (by decide)).1, (C.t 9 (by decide)).1, (C.t 10 (by decide)).1⟩
theorem cg_bay (C : kC m 0 M) (h0 : 0 ≤ r) (h1 : r < M 0) (h2 : 0 ≤ c) (h3 : c < 4) : f_X5_get 4 5 80 r c m = some (M (20 + 9 * r + c)) := by
  rw [tb_get (t := 4) (a := 5) (w := 80) (cols := 10) (lim := 8) (by unfold TabS; decide) (C.t 0 (by decide)) h0 h1 h2 (by omega)]
  show some (if c < 4 then M (20 + 9 * r + c) else _) = _
  rw [if_pos h3]
theorem cg_bay4 (C : kC m 0 M) (h0 : 0 ≤ r) (h1 : r < M 0) : f_X5_get 4 5 80 r 4 m = some 0 :=
  tb_get (cols := 10) (lim := 8) (by unfold TabS; decide) (C.t 0 (by decide)) h0 h1 (by decide) (by decide)
theorem cg_bayX (C : kC m 0 M) (h0 : 0 ≤ r) (h1 : r < M 0) (h2 : 4 < c) (h3 : c < 10) : f_X5_get 4 5 80 r c m = some (M (20 + 9 * r + (c - 1))) := by
  rw [tb_get (t := 4) (a := 5) (w := 80) (cols := 10) (lim := 8) (by unfold TabS; decide) (C.t 0 (by decide)) h0 h1 (by omega) (by omega)]
  show some (if c < 4 then M (20 + 9 * r + c) else if c = 4 then 0 else M (20 + 9 * r + (c - 1))) = _
  rw [if_neg (by omega), if_neg (by omega)]
theorem cg_sky (C : kC m 0 M) (h0 : 0 ≤ r) (h1 : r < M 1) (h2 : 0 ≤ c) (h3 : c < 7) : f_X5_get 6 7 210 r c m = some (M (92 + 7 * r + c)) :=
  tb_get (cols := 7) (lim := 30) (by unfold TabS; decide) (C.t 1 (by decide)) h0 h1 h2 h3
theorem cg_nest (C : kC m 0 M) (h0 : 0 ≤ r) (h1 : r < M 4) : f_X5_get 12 13 24 r 2 m = some (M (324 + 3 * r)) :=
  tb_get (cols := 3) (lim := 8) (by unfold TabS; decide) (C.t 4 (by decide)) h0 h1 (by decide) (by decide)
theorem cg_gang (C : kC m 0 M) (h0 : 0 ≤ r) (h1 : r < M 6) : f_X5_get 20 21 4 r 0 m = some (M (348 + r)) :=
  tb_get (cols := 1) (lim := 4) (by unfold TabS; decide) (C.t 5 (by decide)) h0 h1 (by decide) (by decide)
theorem cg_gang0 (C : kC m 0 M) (h1 : M 6 ≤ r) : f_X5_get 20 21 4 r 0 m = some 0 :=
  tb_get0 (cols := 1) (lim := 4) (by unfold TabS; decide) (C.t 5 (by decide)) (Or.inr h1) (by decide) (by decide)
theorem cg_bat (C : kC m 0 M) (h0 : 0 ≤ r) (h1 : r < M 7) (h2 : 0 ≤ c) (h3 : c < 4) : f_X5_get 22 23 24 r c m = some (M (352 + 4 * r + c)) :=
  tb_get (cols := 4) (lim := 6) (by unfold TabS; decide) (C.t 6 (by decide)) h0 h1 h2 h3
theorem cg_job (C : kC m 0 M) (h0 : 0 ≤ r) (h1 : r < M 8) (h2 : 0 ≤ c) (h3 : c < 8) : f_X5_get 24 25 320 r c m = some (M (376 + 8 * r + c)) :=
  tb_get (cols := 8) (lim := 40) (by unfold TabS; decide) (C.t 7 (by decide)) h0 h1 h2 h3
theorem cg_rust (C : kC m 0 M) (h0 : 0 ≤ r) (h1 : r < 2) (h2 : 0 ≤ c) (h3 : c < 2) : f_X5_get 2 3 4 r c m = some (M (876 + 2 * r + c)) :=
  tb_get (cols := 2) (lim := 2) (by unfold TabS; decide) (C.t 8 (by decide)) h0 h1 h2 h3
theorem cg_read (C : kC m 0 M) (h0 : 0 ≤ r) (h1 : r < M 9) (h2 : 0 ≤ c) (h3 : c < 4) : f_X5_get 26 27 120 r c m = some (M (696 + 4 * r + c)) :=
  tb_get (cols := 4) (lim := 30) (by unfold TabS; decide) (C.t 9 (by decide)) h0 h1 h2 h3
theorem cg_bolt (C : kC m 0 M) (h0 : 0 ≤ r) (h1 : r < M 10) (h2 : 0 ≤ c) (h3 : c < 2) : f_X5_get 28 29 60 r c m = some (M (816 + 2 * r + c)) :=
  tb_get (cols := 2) (lim := 30) (by unfold TabS; decide) (C.t 10 (by decide)) h0 h1 h2 h3
theorem tb_span {m : jMu} {t a w : Nat} {cols lim n r d : Int} {f : Int → Int → Int} (S : TabS t a w cols lim) (h : TabR m t a cols lim n f) (h0 : 0 ≤ r) (h1 : r < n) (h2 : 2 ≤ cols) : f_X5_isSpanned t a w r d m = some (if f r 0 ≤ d ∧ d ≤ f r 1 then 1 else 0) := by
  obtain ⟨g1, g2, g3, g4, g5, g6⟩ := h
  obtain ⟨s0, s1, s2, s3, s4, s5, s6⟩ := S
  have e := jrow (c := 1) h0 (Int.lt_of_lt_of_le h1 g5) (by omega) (show (1 : Int) < cols by omega)
  have e0 := g6 r 0 h0 h1 (by omega) (by omega)
  have e1 := g6 r 1 h0 h1 (by omega) (by omega)
  rw [Int.add_zero] at e0
  unfold f_X5_isSpanned
  rw [g2, g3]
  simp (disch := omega) only [jW_of, if_pos, if_neg]
  rw [e0, e1]
  by_cases b1 : d < f r 0
  · rw [if_pos b1, if_neg (by omega)]
  · rw [if_neg b1]
    by_cases b2 : f r 1 < d
    · rw [if_pos b2, if_neg (by omega)]
    · rw [if_neg b2, if_pos (by omega)]
theorem cp_sky {d : Int} (C : kC m 0 M) (h0 : 0 ≤ r) (h1 : r < M 1) : f_X5_isSpanned 6 7 210 r d m = some (if M (92 + 7 * r) ≤ d ∧ d ≤ M (92 + 7 * r + 1) then 1 else 0) := by
  have := tb_span (t := 6) (a := 7) (w := 210) (d := d) (cols := 7) (lim := 30) (by unfold TabS; decide) (C.t 1 (by decide)) h0 h1 (by decide)
  simpa only [kT, kF, Int.add_zero] using this
theorem cp_had {d : Int} (C : kC m 0 M) (h0 : 0 ≤ r) (h1 : r < M 2) : f_X5_isSpanned 8 9 12 r d m = some (if M (302 + 2 * r) ≤ d ∧ d ≤ M (302 + 2 * r + 1) then 1 else 0) := by
  have := tb_span (t := 8) (a := 9) (w := 12) (d := d) (cols := 2) (lim := 6) (by unfold TabS; decide) (C.t 2 (by decide)) h0 h1 (by decide)
  simpa only [kT, kF, Int.add_zero] using this
theorem cp_str {d : Int} (C : kC m 0 M) (h0 : 0 ≤ r) (h1 : r < M 3) : f_X5_isSpanned 10 11 10 r d m = some (if M (314 + 2 * r) ≤ d ∧ d ≤ M (314 + 2 * r + 1) then 1 else 0) := by
  have := tb_span (t := 10) (a := 11) (w := 10) (d := d) (cols := 2) (lim := 5) (by unfold TabS; decide) (C.t 3 (by decide)) h0 h1 (by decide)
  simpa only [kT, kF, Int.add_zero] using this
theorem cp_nest {d : Int} (C : kC m 0 M) (h0 : 0 ≤ r) (h1 : r < M 4) : f_X5_isSpanned 12 13 24 r d m = some (if M (324 + 3 * r + 1) ≤ d ∧ d ≤ M (324 + 3 * r + 2) then 1 else 0) :=
  tb_span (d := d) (cols := 3) (lim := 8) (by unfold TabS; decide) (C.t 4 (by decide)) h0 h1 (by decide)
end ACC
