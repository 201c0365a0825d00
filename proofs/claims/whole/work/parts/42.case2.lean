theorem wp_cmp (x : Int64) : lg_cmp x x = 0 := by
  unfold lg_cmp
  simp
theorem wp_case2 {sc : Nat × (Nat → Int32)} {n : Nat} {I : wp_A → wp_L → wp_A → Prop} (hT : ∀ A L S, I A L S → wp_T A S) (hK : ∀ A L S f v, I A L S → I A (xy_l L 77 f) (xy_s S 57 0 v)) : wp_Ok sc I (xf_law_2 sc n) := by
  intro k A L S ce sl i hI hc hs hi hL
  obtain ⟨T1, T2, T3, T4⟩ := hT A L S hI
  have hin : xr_in (Int32.ofNat (4 * i) + 1) sc.1 = true := by
    rw [show Int32.ofNat (4 * i) + 1 = Int32.ofNat (4 * i + 1) from wp_add (b := 1)]
    exact wp_in (by omega) (by omega)
  have c1 : ce + 1 ≤ 601024 ∧ sl + 6 ≤ 7293034 := ⟨by omega, by omega⟩
  have c2 : ce + 1 + 0 ≤ 601024 ∧ sl + 6 + 0 ≤ 7293034 := ⟨by omega, by omega⟩
  have c3 : ce + 1 + 0 + 0 ≤ 601024 ∧ sl + 6 + 0 + 0 ≤ 7293034 := ⟨by omega, by omega⟩
  unfold xf_law_2
  rw [if_pos hin, if_pos c1, wp_lcharAt T3 (fun j hj => (T4 j hj).2)]
  by_cases a : sc.2 (Int32.ofNat (4 * i) + 1).toNatClampNeg < 0
  · refine ⟨A, xy_l L 77 (L 77), xy_s S 57 0 1, ce + 1 + 0 + 0, sl + 6 + 0 + 0, hK _ _ _ _ _ hI, by omega, by omega, ?_⟩
    rw [if_pos a, Option.bind_some, if_pos hin, if_pos c2, wp_rcharAt (by rw [T1]; exact T3), if_pos a, Option.bind_some, if_pos c3]
    rfl
  · by_cases b : sc.2 (Int32.ofNat (4 * i) + 1).toNatClampNeg < S 1 1
    · refine ⟨A, xy_l L 77 (vp_updL (L 77) 0 (A 2 (sc.2 (Int32.ofNat (4 * i) + 1).toNatClampNeg).toNatClampNeg).toInt64), xy_s S 57 0 0, ce + 1 + 0 + 0, sl + 6 + 0 + 0, hK _ _ _ _ _ hI, by omega, by omega, ?_⟩
      have h2 : (sc.2 (Int32.ofNat (4 * i) + 1).toNatClampNeg).toNatClampNeg < (S 1 1).toNatClampNeg := by
        have i1 := Int32.lt_iff_toInt_lt.mp b
        have i2 : ¬ (sc.2 (Int32.ofNat (4 * i) + 1).toNatClampNeg).toInt < (0 : Int32).toInt := fun hh => a (Int32.lt_iff_toInt_lt.mpr hh)
        have i3 : (0 : Int32).toInt = 0 := rfl
        have i4 : (sc.2 (Int32.ofNat (4 * i) + 1).toNatClampNeg).toNatClampNeg = (sc.2 (Int32.ofNat (4 * i) + 1).toNatClampNeg).toInt.toNat := rfl
        have i5 : (S 1 1).toNatClampNeg = (S 1 1).toInt.toNat := rfl
        omega
      rw [if_neg a, if_pos b, Option.bind_some, if_pos hin, if_pos c2, wp_rcharAt (by rw [T1]; exact T3), if_neg a, T1, if_pos b, Option.bind_some, if_pos c3, (T4 _ h2).1]
      have e : lg_cmp ((vp_updL (L 77) 0 (A 2 (sc.2 (Int32.ofNat (4 * i) + 1).toNatClampNeg).toNatClampNeg).toInt64) ((0 : Int32)).toNatClampNeg) (A 2 (sc.2 (Int32.ofNat (4 * i) + 1).toNatClampNeg).toNatClampNeg).toInt64 = 0 := wp_cmp _
      unfold xf_rf_thrown
      rw [Option.bind_some, if_pos rfl, if_pos rfl]
      exact if_pos e
    · refine ⟨A, xy_l L 77 (L 77), xy_s S 57 0 1, ce + 1 + 0 + 0, sl + 6 + 0 + 0, hK _ _ _ _ _ hI, by omega, by omega, ?_⟩
      rw [if_neg a, if_neg b, Option.bind_some, if_pos hin, if_pos c2, wp_rcharAt (by rw [T1]; exact T3), if_neg a, T1, if_neg b, Option.bind_some, if_pos c3]
      rfl
