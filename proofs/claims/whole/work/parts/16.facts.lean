/-! facts that the printed walks name -/
theorem j_norf (rf : List (Option (Option Nat))) (h : rf.all (fun f => match f with | some (some _) => false | _ => true) = true) : ∀ j y : Nat, rf[j]? ≠ some (some (some y)) := by
  intro j y hj
  have := List.all_eq_true.mp h _ (List.mem_of_getElem? hj)
  simp at this
def jTb (S : List jSh) (t a w : Nat) : Prop := S[t]? = some (.inl (5, [none, none, some (some a), none])) ∧ S[a]? = some (.inr (0, w)) ∧ (w : Int) < 2147483648
def jAr (S : List jSh) (a w : Nat) : Prop := S[a]? = some (.inr (0, w)) ∧ (w : Int) < 2147483648
/-- a literal's length, and the sign at a place -/
def jtl (w : Nat) : Int := ((jtx w).length : Int)
def jtc (w : Nat) (j : Int) : Int := (jtx w).getD j.toNat 0
theorem jac_0 : Cond.arrayClass (newarray.typeOf .int) ∈ jWG := j_c1 60 rfl rfl
theorem jac_1 : Cond.arrayClass (newarray.typeOf .boolean) ∈ jWG := j_c6 157 rfl rfl
theorem jac_2 : Cond.arrayClass (newarray.typeOf .long) ∈ jWG := j_c8 88 rfl rfl
theorem jca_max : Cond.code Lib.Math.max.name Lib.Math.max.code 2 (some .int) ∈ jWG := j_c3 191 rfl rfl
theorem jca_min : Cond.code Lib.Math.min.name Lib.Math.min.code 2 (some .int) ∈ jWG := j_c5 53 rfl rfl
theorem jca_abs : Cond.code Lib.Math.abs.name Lib.Math.abs.code 1 (some .int) ∈ jWG := j_c6 52 rfl rfl
theorem co_obj : Cond.code objectInit ⟨#[0xb1]⟩ 1 none ∈ jWG := j_c1 34 rfl rfl
theorem jat_300 : ∀ w ∈ (vx_at0 RX9 300 "java/lang/IndexOutOfBoundsException" ["java/lang/RuntimeException", "java/lang/Exception"]).filter goodWord, w ∈ jWG := by
  have h : (vx_at0 RX9 300 "java/lang/IndexOutOfBoundsException" ["java/lang/RuntimeException", "java/lang/Exception"]).all (fun w => decide (w ∈ lw_tbl)) = true := by decide +kernel
  intro w hw
  have hw := List.mem_filter.mp hw
  exact j_m (of_decide_eq_true (List.all_eq_true.mp h w hw.1)) hw.2
theorem jau_300 : ∀ w ∈ (vx_at0 RX9 300 "java/lang/IndexOutOfBoundsException" ["java/lang/RuntimeException", "java/lang/Exception"]).filter (fun w => !goodWord w), w ∈ jtb "java/lang/IndexOutOfBoundsException" := by
  have h : ((vx_at0 RX9 300 "java/lang/IndexOutOfBoundsException" ["java/lang/RuntimeException", "java/lang/Exception"]).filter (fun w => !goodWord w)).all (fun w => decide (w ∈ jtb "java/lang/IndexOutOfBoundsException")) = true := by decide +kernel
  exact fun w hw => of_decide_eq_true (List.all_eq_true.mp h w hw)
theorem jav_300 : ∀ w ∈ Cond.classLink RX9 298 "java/lang/IndexOutOfBoundsException" :: Cond.initialized "java/lang/IndexOutOfBoundsException" :: (vx_at0 RX9 300 "java/lang/IndexOutOfBoundsException" ["java/lang/RuntimeException", "java/lang/Exception"]), vx_ot w = true := by
  have h : (Cond.classLink RX9 298 "java/lang/IndexOutOfBoundsException" :: Cond.initialized "java/lang/IndexOutOfBoundsException" :: (vx_at0 RX9 300 "java/lang/IndexOutOfBoundsException" ["java/lang/RuntimeException", "java/lang/Exception"])).all vx_ot = true := by decide +kernel
  exact fun w hw => List.all_eq_true.mp h w hw
theorem jat_303 : ∀ w ∈ (vx_at0 RX9 303 "java/lang/IllegalArgumentException" ["java/lang/RuntimeException", "java/lang/Exception"]).filter goodWord, w ∈ jWG := by
  have h : (vx_at0 RX9 303 "java/lang/IllegalArgumentException" ["java/lang/RuntimeException", "java/lang/Exception"]).all (fun w => decide (w ∈ lw_tbl)) = true := by decide +kernel
  intro w hw
  have hw := List.mem_filter.mp hw
  exact j_m (of_decide_eq_true (List.all_eq_true.mp h w hw.1)) hw.2
theorem jau_303 : ∀ w ∈ (vx_at0 RX9 303 "java/lang/IllegalArgumentException" ["java/lang/RuntimeException", "java/lang/Exception"]).filter (fun w => !goodWord w), w ∈ jtb "java/lang/IllegalArgumentException" := by
  have h : ((vx_at0 RX9 303 "java/lang/IllegalArgumentException" ["java/lang/RuntimeException", "java/lang/Exception"]).filter (fun w => !goodWord w)).all (fun w => decide (w ∈ jtb "java/lang/IllegalArgumentException")) = true := by decide +kernel
  exact fun w hw => of_decide_eq_true (List.all_eq_true.mp h w hw)
theorem jav_303 : ∀ w ∈ Cond.classLink RX9 301 "java/lang/IllegalArgumentException" :: Cond.initialized "java/lang/IllegalArgumentException" :: (vx_at0 RX9 303 "java/lang/IllegalArgumentException" ["java/lang/RuntimeException", "java/lang/Exception"]), vx_ot w = true := by
  have h : (Cond.classLink RX9 301 "java/lang/IllegalArgumentException" :: Cond.initialized "java/lang/IllegalArgumentException" :: (vx_at0 RX9 303 "java/lang/IllegalArgumentException" ["java/lang/RuntimeException", "java/lang/Exception"])).all vx_ot = true := by decide +kernel
  exact fun w hw => List.all_eq_true.mp h w hw
theorem jat_306 : ∀ w ∈ (vx_at0 RX9 306 "java/lang/UnsupportedOperationException" ["java/lang/RuntimeException", "java/lang/Exception"]).filter goodWord, w ∈ jWG := by
  have h : (vx_at0 RX9 306 "java/lang/UnsupportedOperationException" ["java/lang/RuntimeException", "java/lang/Exception"]).all (fun w => decide (w ∈ lw_tbl)) = true := by decide +kernel
  intro w hw
  have hw := List.mem_filter.mp hw
  exact j_m (of_decide_eq_true (List.all_eq_true.mp h w hw.1)) hw.2
theorem jau_306 : ∀ w ∈ (vx_at0 RX9 306 "java/lang/UnsupportedOperationException" ["java/lang/RuntimeException", "java/lang/Exception"]).filter (fun w => !goodWord w), w ∈ jtb "java/lang/UnsupportedOperationException" := by
  have h : ((vx_at0 RX9 306 "java/lang/UnsupportedOperationException" ["java/lang/RuntimeException", "java/lang/Exception"]).filter (fun w => !goodWord w)).all (fun w => decide (w ∈ jtb "java/lang/UnsupportedOperationException")) = true := by decide +kernel
  exact fun w hw => of_decide_eq_true (List.all_eq_true.mp h w hw)
theorem jav_306 : ∀ w ∈ Cond.classLink RX9 304 "java/lang/UnsupportedOperationException" :: Cond.initialized "java/lang/UnsupportedOperationException" :: (vx_at0 RX9 306 "java/lang/UnsupportedOperationException" ["java/lang/RuntimeException", "java/lang/Exception"]), vx_ot w = true := by
  have h : (Cond.classLink RX9 304 "java/lang/UnsupportedOperationException" :: Cond.initialized "java/lang/UnsupportedOperationException" :: (vx_at0 RX9 306 "java/lang/UnsupportedOperationException" ["java/lang/RuntimeException", "java/lang/Exception"])).all vx_ot = true := by decide +kernel
  exact fun w hw => List.all_eq_true.mp h w hw
theorem jat_309 : ∀ w ∈ (vx_at0 RX9 309 "java/util/NoSuchElementException" ["java/lang/RuntimeException", "java/lang/Exception"]).filter goodWord, w ∈ jWG := by
  have h : (vx_at0 RX9 309 "java/util/NoSuchElementException" ["java/lang/RuntimeException", "java/lang/Exception"]).all (fun w => decide (w ∈ lw_tbl)) = true := by decide +kernel
  intro w hw
  have hw := List.mem_filter.mp hw
  exact j_m (of_decide_eq_true (List.all_eq_true.mp h w hw.1)) hw.2
theorem jau_309 : ∀ w ∈ (vx_at0 RX9 309 "java/util/NoSuchElementException" ["java/lang/RuntimeException", "java/lang/Exception"]).filter (fun w => !goodWord w), w ∈ jtb "java/util/NoSuchElementException" := by
  have h : ((vx_at0 RX9 309 "java/util/NoSuchElementException" ["java/lang/RuntimeException", "java/lang/Exception"]).filter (fun w => !goodWord w)).all (fun w => decide (w ∈ jtb "java/util/NoSuchElementException")) = true := by decide +kernel
  exact fun w hw => of_decide_eq_true (List.all_eq_true.mp h w hw)
theorem jav_309 : ∀ w ∈ Cond.classLink RX9 307 "java/util/NoSuchElementException" :: Cond.initialized "java/util/NoSuchElementException" :: (vx_at0 RX9 309 "java/util/NoSuchElementException" ["java/lang/RuntimeException", "java/lang/Exception"]), vx_ot w = true := by
  have h : (Cond.classLink RX9 307 "java/util/NoSuchElementException" :: Cond.initialized "java/util/NoSuchElementException" :: (vx_at0 RX9 309 "java/util/NoSuchElementException" ["java/lang/RuntimeException", "java/lang/Exception"])).all vx_ot = true := by decide +kernel
  exact fun w hw => List.all_eq_true.mp h w hw
/-- a value by its name -/
def jlt {α β : Type} (a : α) (f : α → Option β) : Option β := f a
theorem jlt_s {α β : Type} {a : α} {f : α → Option β} {r : β} (h : jlt a f = some r) : ∃ x, a = x ∧ f x = some r := ⟨a, rfl, h⟩
