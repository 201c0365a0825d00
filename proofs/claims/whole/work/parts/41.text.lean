/-! THE TEXT: class and reference hold the same one. -/
theorem wp_inx {x : Int32} {m : Nat} (h0 : ¬ x < 0) (h : x.toInt < m) : xr_in x m = true := by
  unfold xr_in
  rw [Bool.and_eq_true, Bool.not_eq_true', decide_eq_false_iff_not, decide_eq_true_eq]
  refine ⟨h0, ?_⟩
  have h1 : ¬ x.toInt < (0 : Int32).toInt := fun hh => h0 (Int32.lt_iff_toInt_lt.mpr hh)
  have h2 : (0 : Int32).toInt = 0 := rfl
  have h3 : x.toNatClampNeg = x.toInt.toNat := rfl
  omega
theorem wp_lt {x y : Int32} (h : x < y) {m : Nat} (hy : y.toInt ≤ m) : x.toInt < m := by
  have := Int32.lt_iff_toInt_lt.mp h
  omega
theorem wp_rcharAt {size th x : Int32} {text : Nat → Int32} (h1 : size.toInt ≤ (1200 : Nat)) :
    xf_rf_charAt size text th x = if x < 0 then some (0, 1) else if x < size then some (text x.toNatClampNeg, 0) else some (0, 1) := by
  have e0 : xf_rf_fails 0 0 1 = some (0, 0) := by decide
  have e1 : xf_rf_fails 0 1 1 = some (1, 1) := by decide
  unfold xf_rf_charAt xf_rf_charAt_18 xf_rf_charAt_23 xf_rf_charAt_40
  rw [e0, e1]
  by_cases a : x < 0
  · rw [if_pos a, if_pos a]; rfl
  · rw [if_neg a, if_neg a]
    by_cases b : x < size
    · rw [if_pos b, if_pos b]
      simp [wp_inx a (wp_lt b h1)]
    · rw [if_neg b, if_neg b]; rfl
theorem wp_lcharAt {len x : Int32} {signs : Nat → Int32} {p3 : Nat → Int64} (h1 : len.toInt ≤ (1200 : Nat)) (hf : ∀ j : Nat, j < len.toNatClampNeg → fits .char (.int (signs j)) = true) :
    xf_la_charAt len signs 1 p3 x = if x < 0 then some (1, p3) else if x < len then some (0, vp_updL p3 0 (signs x.toNatClampNeg).toInt64) else some (1, p3) := by
  have e0 : xr_in (0 : Int32) 1 = true := by decide
  unfold xf_la_charAt xf_xt_charAt xf_xt_charAt_15 xf_pg_signAt xf_pg_signAt_22
  rw [e0]
  by_cases a : x < 0
  · rw [if_pos a, if_pos a]; rfl
  · rw [if_neg a, if_neg a]
    by_cases b : x < len
    · have h2 : x.toNatClampNeg < len.toNatClampNeg := by
        have i1 := Int32.lt_iff_toInt_lt.mp b
        have i2 : ¬ x.toInt < (0 : Int32).toInt := fun hh => a (Int32.lt_iff_toInt_lt.mpr hh)
        have i3 : (0 : Int32).toInt = 0 := rfl
        have i4 : x.toNatClampNeg = x.toInt.toNat := rfl
        have i5 : len.toNatClampNeg = len.toInt.toNat := rfl
        omega
      rw [if_pos b, if_pos b, if_neg a, if_pos b, if_pos (wp_inx a (wp_lt b h1)), if_pos (hf _ h2)]; rfl
    · simp only [if_neg a, if_neg b]; rfl
/-- the text of the class and of the reference -/
def wp_T (A S : wp_A) : Prop := S 57 1 = S 1 1 ∧ ¬ S 1 1 < 0 ∧ (S 1 1).toInt ≤ (1200 : Nat) ∧ ∀ j : Nat, j < (S 1 1).toNatClampNeg → A 58 j = A 2 j ∧ fits .char (.int (A 2 j)) = true
theorem wp_T0 : wp_T (fun _ _ => 0) (fun _ _ => 0) := ⟨rfl, by decide, by decide, fun j h => absurd h (Nat.not_lt_zero j)⟩
