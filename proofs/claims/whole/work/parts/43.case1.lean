theorem wp_ltrim {len x : Int32} {p3 : Nat → Int64} : xf_la_trim 1 len p3 x = if x < 0 then some (1, len, p3) else if len < x then some (1, len, p3) else some (0, len - x, vp_updL p3 0 (len - x).toInt64) := by
  unfold xf_la_trim xf_xt_trim xf_xt_trim_15
  by_cases a : x < 0
  · simp only [if_pos a]; rfl
  · by_cases b : len < x
    · simp only [if_neg a, if_pos b]; rfl
    · simp only [if_neg a, if_neg b]; rfl
theorem wp_rtrim {size th x : Int32} : xf_rf_trim size th x = if x < 0 then some (0, size, 1) else if size < x then some (0, size, 1) else some (size - x, size - x, 0) := by
  have e0 : xf_rf_fails 0 0 1 = some (0, 0) := by decide
  have e1 : xf_rf_fails 0 1 1 = some (1, 1) := by decide
  unfold xf_rf_trim xf_rf_trim_18 xf_rf_trim_23
  rw [e0, e1]
  rfl
theorem wp_sub {x y : Int32} (hx : ¬ x < 0) (hy : ¬ y < 0) (h : ¬ y < x) : (y - x).toInt = y.toInt - x.toInt := by
  have i1 : ¬ x.toInt < (0 : Int32).toInt := fun hh => hx (Int32.lt_iff_toInt_lt.mpr hh)
  have i2 : ¬ y.toInt < x.toInt := fun hh => h (Int32.lt_iff_toInt_lt.mpr hh)
  have i3 : (0 : Int32).toInt = 0 := rfl
  have i4 := y.toInt_lt
  rw [Int32.toInt_sub]
  rw [Int.bmod_eq_of_le] <;> omega
theorem wp_case1 {sc : Nat × (Nat → Int32)} {n : Nat} {I : wp_A → wp_L → wp_A → Prop} (hT : ∀ A L S, I A L S → wp_T A S) (hK : ∀ A L S f v y, I A L S → ¬ y < 0 → ¬ S 1 1 < y → I A (xy_l L 77 f) (xy_s (xy_s (xy_s S 57 1 y) 57 0 v) 1 1 y)) : wp_Ok sc I (xf_law_1 sc n) := by
  intro k A L S ce sl i hI hc hs hi hL
  obtain ⟨T1, T2, T3, T4⟩ := hT A L S hI
  have hin : xr_in (Int32.ofNat (4 * i) + 1) sc.1 = true := by
    rw [show Int32.ofNat (4 * i) + 1 = Int32.ofNat (4 * i + 1) from wp_add (b := 1)]
    exact wp_in (by omega) (by omega)
  have c1 : ce + 1 ≤ 601024 ∧ sl + 6 ≤ 7293034 := ⟨by omega, by omega⟩
  have c2 : ce + 1 + 0 ≤ 601024 ∧ sl + 6 + 0 ≤ 7293034 := ⟨by omega, by omega⟩
  have c3 : ce + 1 + 0 + 0 ≤ 601024 ∧ sl + 6 + 0 + 0 ≤ 7293034 := ⟨by omega, by omega⟩
  have hirr : ¬ S 1 1 < S 1 1 := fun hh => by
    have := Int32.lt_iff_toInt_lt.mp hh
    omega
  unfold xf_law_1
  rw [if_pos hin, if_pos c1, wp_ltrim]
  generalize hx : sc.2 (Int32.ofNat (4 * i) + 1).toNatClampNeg = x
  by_cases a : x < 0
  · refine ⟨A, xy_l L 77 (L 77), xy_s (xy_s (xy_s S 57 1 (S 1 1)) 57 0 1) 1 1 (S 1 1), ce + 1 + 0 + 0, sl + 6 + 0 + 0, hK _ _ _ _ _ _ hI T2 hirr, by omega, by omega, ?_⟩
    rw [if_pos a, Option.bind_some, if_pos hin, if_pos c2, wp_rtrim, if_pos a, T1, Option.bind_some, if_pos c3]
    rfl
  · by_cases b : S 1 1 < x
    · refine ⟨A, xy_l L 77 (L 77), xy_s (xy_s (xy_s S 57 1 (S 1 1)) 57 0 1) 1 1 (S 1 1), ce + 1 + 0 + 0, sl + 6 + 0 + 0, hK _ _ _ _ _ _ hI T2 hirr, by omega, by omega, ?_⟩
      rw [if_neg a, if_pos b, Option.bind_some, if_pos hin, if_pos c2, wp_rtrim, if_neg a, T1, if_pos b, Option.bind_some, if_pos c3]
      rfl
    · have hs1 := wp_sub a T2 b
      have i1 : ¬ x.toInt < (0 : Int32).toInt := fun hh => a (Int32.lt_iff_toInt_lt.mpr hh)
      have i2 : ¬ (S 1 1).toInt < x.toInt := fun hh => b (Int32.lt_iff_toInt_lt.mpr hh)
      have i3 : (0 : Int32).toInt = 0 := rfl
      have y1 : ¬ S 1 1 - x < 0 := fun hh => by
        have := Int32.lt_iff_toInt_lt.mp hh
        omega
      have y2 : ¬ S 1 1 < S 1 1 - x := fun hh => by
        have := Int32.lt_iff_toInt_lt.mp hh
        omega
      refine ⟨A, xy_l L 77 (vp_updL (L 77) 0 (S 1 1 - x).toInt64), xy_s (xy_s (xy_s S 57 1 (S 1 1 - x)) 57 0 0) 1 1 (S 1 1 - x), ce + 1 + 0 + 0, sl + 6 + 0 + 0, hK _ _ _ _ _ _ hI y1 y2, by omega, by omega, ?_⟩
      rw [if_neg a, if_neg b, Option.bind_some, if_pos hin, if_pos c2, wp_rtrim, if_neg a, T1, if_neg b, Option.bind_some, if_pos c3]
      have e : lg_cmp ((vp_updL (L 77) 0 (S 1 1 - x).toInt64) ((0 : Int32)).toNatClampNeg) (S 1 1 - x).toInt64 = 0 := wp_cmp _
      unfold xf_rf_thrown
      rw [Option.bind_some, if_pos rfl, if_pos rfl]
      exact if_pos e
