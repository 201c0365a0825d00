/-! each case of the law as a wish about the two functions -/
theorem wp_red_0 {sc : Nat × (Nat → Int32)} {n : Nat} {I : wp_A → wp_L → wp_A → Prop} (H : ∀ (A : wp_A) (L : wp_L) (S : wp_A) (x1 : Int32) (x2 : Int32), I A L S → ∃ q r, (xf_la_say 1 n (S 1 2) (S 1 1) (A 2) (L 77) ((xe_shl (x1.toInt64) ((32 : Int32))) ||| ((x2.toInt64) &&& ((4294967295 : Int64))))) = some q ∧ (xf_rf_say n (S 57 1) (A 58) (S 57 0) ((xe_shl (x1.toInt64) ((32 : Int32))) ||| ((x2.toInt64) &&& ((4294967295 : Int64))))) = some r ∧ (r.2.2.2 = q.1 ∧ (q.1 = (0 : Int32) → lg_cmp (q.2.2.2.2 ((0 : Int32)).toNatClampNeg) r.1.toInt64 = (0 : Int32))) ∧ I (xy_a (xy_a A 58 r.2.2.1) 2 q.2.2.2.1) (xy_l L 77 q.2.2.2.2) (xy_s (xy_s (xy_s (xy_s S 57 1 r.2.1) 57 0 r.2.2.2) 1 2 q.2.1) 1 1 q.2.2.1)) : wp_Ok sc I (xf_law_0 sc n) := by
  intro k A L S ce sl i hI hc hs hi hL
  have hin1 : xr_in (Int32.ofNat (4 * i) + 1) sc.1 = true := by
    rw [show Int32.ofNat (4 * i) + 1 = Int32.ofNat (4 * i + 1) from wp_add (b := 1)]
    exact wp_in (by omega) (by omega)
  have hin2 : xr_in (Int32.ofNat (4 * i) + 2) sc.1 = true := by
    rw [show Int32.ofNat (4 * i) + 2 = Int32.ofNat (4 * i + 2) from wp_add (b := 2)]
    exact wp_in (by omega) (by omega)
  have c1 : ce + 2 ≤ 601024 ∧ sl + 12 ≤ 7293034 := ⟨by omega, by omega⟩
  have c2 : ce + 2 + 0 ≤ 601024 ∧ sl + 12 + 0 ≤ 7293034 := ⟨by omega, by omega⟩
  have c3 : ce + 2 + 0 + 0 ≤ 601024 ∧ sl + 12 + 0 + 0 ≤ 7293034 := ⟨by omega, by omega⟩
  obtain ⟨q, r, h1, h2, h3, h4⟩ := H A L S (sc.2 (Int32.ofNat (4 * i) + 1).toNatClampNeg) (sc.2 (Int32.ofNat (4 * i) + 2).toNatClampNeg) hI
  refine ⟨_, _, _, (ce + 2 + 0 + 0), (sl + 12 + 0 + 0), h4, by omega, by omega, ?_⟩
  unfold xf_law_0
  rw [if_pos hin1, if_pos hin2, if_pos c1, h1, Option.bind_some, if_pos hin1, if_pos hin2, if_pos c2, h2, Option.bind_some, if_pos c3, xf_rf_thrown_s, Option.bind_some]
  rw [if_pos h3.1]
  by_cases h0 : q.1 = (0 : Int32)
  · rw [if_pos h0, if_pos (h3.2 h0)]
  · rw [if_neg h0]
theorem wp_red_1 {sc : Nat × (Nat → Int32)} {n : Nat} {I : wp_A → wp_L → wp_A → Prop} (H : ∀ (A : wp_A) (L : wp_L) (S : wp_A) (x1 : Int32), I A L S → ∃ q r, (xf_la_trim 1 (S 1 1) (L 77) x1) = some q ∧ (xf_rf_trim (S 57 1) (S 57 0) x1) = some r ∧ (r.2.2 = q.1 ∧ (q.1 = (0 : Int32) → lg_cmp (q.2.2 ((0 : Int32)).toNatClampNeg) r.1.toInt64 = (0 : Int32))) ∧ I A (xy_l L 77 q.2.2) (xy_s (xy_s (xy_s S 57 1 r.2.1) 57 0 r.2.2) 1 1 q.2.1)) : wp_Ok sc I (xf_law_1 sc n) := by
  intro k A L S ce sl i hI hc hs hi hL
  have hin1 : xr_in (Int32.ofNat (4 * i) + 1) sc.1 = true := by
    rw [show Int32.ofNat (4 * i) + 1 = Int32.ofNat (4 * i + 1) from wp_add (b := 1)]
    exact wp_in (by omega) (by omega)
  have c1 : ce + 1 ≤ 601024 ∧ sl + 6 ≤ 7293034 := ⟨by omega, by omega⟩
  have c2 : ce + 1 + 0 ≤ 601024 ∧ sl + 6 + 0 ≤ 7293034 := ⟨by omega, by omega⟩
  have c3 : ce + 1 + 0 + 0 ≤ 601024 ∧ sl + 6 + 0 + 0 ≤ 7293034 := ⟨by omega, by omega⟩
  obtain ⟨q, r, h1, h2, h3, h4⟩ := H A L S (sc.2 (Int32.ofNat (4 * i) + 1).toNatClampNeg) hI
  refine ⟨_, _, _, (ce + 1 + 0 + 0), (sl + 6 + 0 + 0), h4, by omega, by omega, ?_⟩
  unfold xf_law_1
  rw [if_pos hin1, if_pos c1, h1, Option.bind_some, if_pos hin1, if_pos c2, h2, Option.bind_some, if_pos c3, xf_rf_thrown_s, Option.bind_some]
  rw [if_pos h3.1]
  by_cases h0 : q.1 = (0 : Int32)
  · rw [if_pos h0, if_pos (h3.2 h0)]
  · rw [if_neg h0]
theorem wp_red_2 {sc : Nat × (Nat → Int32)} {n : Nat} {I : wp_A → wp_L → wp_A → Prop} (H : ∀ (A : wp_A) (L : wp_L) (S : wp_A) (x1 : Int32), I A L S → ∃ q r, (xf_la_charAt (S 1 1) (A 2) 1 (L 77) x1) = some q ∧ (xf_rf_charAt (S 57 1) (A 58) (S 57 0) x1) = some r ∧ (r.2 = q.1 ∧ (q.1 = (0 : Int32) → lg_cmp (q.2 ((0 : Int32)).toNatClampNeg) r.1.toInt64 = (0 : Int32))) ∧ I A (xy_l L 77 q.2) (xy_s S 57 0 r.2)) : wp_Ok sc I (xf_law_2 sc n) := by
  intro k A L S ce sl i hI hc hs hi hL
  have hin1 : xr_in (Int32.ofNat (4 * i) + 1) sc.1 = true := by
    rw [show Int32.ofNat (4 * i) + 1 = Int32.ofNat (4 * i + 1) from wp_add (b := 1)]
    exact wp_in (by omega) (by omega)
  have c1 : ce + 1 ≤ 601024 ∧ sl + 6 ≤ 7293034 := ⟨by omega, by omega⟩
  have c2 : ce + 1 + 0 ≤ 601024 ∧ sl + 6 + 0 ≤ 7293034 := ⟨by omega, by omega⟩
  have c3 : ce + 1 + 0 + 0 ≤ 601024 ∧ sl + 6 + 0 + 0 ≤ 7293034 := ⟨by omega, by omega⟩
  obtain ⟨q, r, h1, h2, h3, h4⟩ := H A L S (sc.2 (Int32.ofNat (4 * i) + 1).toNatClampNeg) hI
  refine ⟨_, _, _, (ce + 1 + 0 + 0), (sl + 6 + 0 + 0), h4, by omega, by omega, ?_⟩
  unfold xf_law_2
  rw [if_pos hin1, if_pos c1, h1, Option.bind_some, if_pos hin1, if_pos c2, h2, Option.bind_some, if_pos c3, xf_rf_thrown_s, Option.bind_some]
  rw [if_pos h3.1]
  by_cases h0 : q.1 = (0 : Int32)
  · rw [if_pos h0, if_pos (h3.2 h0)]
  · rw [if_neg h0]
theorem wp_red_3 {sc : Nat × (Nat → Int32)} {n : Nat} {I : wp_A → wp_L → wp_A → Prop} (H : ∀ (A : wp_A) (L : wp_L) (S : wp_A), I A L S → ∃ q r, (xf_xt_schema (A 2) n (A 9) (L 6) (A 7) (A 8) (S 5 0) (A 51) (A 54) (A 52) (A 53) (S 50 6) (S 50 5) (A 14) (L 11) (A 12) (A 13) (S 10 0) (S 1 2) (S 1 1)) = some q ∧ (xf_rf_schema (A 58) n (S 57 18) (S 57 19) (S 57 20) (A 61) (A 65) (A 62) (A 63) (A 64) (A 60) (S 57 1) (S 57 0)) = some r ∧ (q.1 = r.1) ∧ I (xy_a (xy_a (xy_a (xy_a (xy_a (xy_a (xy_a (xy_a (xy_a (xy_a (xy_a (xy_a (xy_a (xy_a (xy_a (xy_a A 61 r.2.2.2.2.1) 65 r.2.2.2.2.2.1) 62 r.2.2.2.2.2.2.1) 63 r.2.2.2.2.2.2.2.1) 64 r.2.2.2.2.2.2.2.2.1) 60 r.2.2.2.2.2.2.2.2.2.1) 9 q.2.1) 7 q.2.2.2.1) 8 q.2.2.2.2.1) 51 q.2.2.2.2.2.2.1) 54 q.2.2.2.2.2.2.2.1) 52 q.2.2.2.2.2.2.2.2.1) 53 q.2.2.2.2.2.2.2.2.2.1) 14 q.2.2.2.2.2.2.2.2.2.2.2.2.1) 12 q.2.2.2.2.2.2.2.2.2.2.2.2.2.2.1) 13 q.2.2.2.2.2.2.2.2.2.2.2.2.2.2.2.1) (xy_l (xy_l L 6 q.2.2.1) 11 q.2.2.2.2.2.2.2.2.2.2.2.2.2.1) (xy_s (xy_s (xy_s (xy_s (xy_s (xy_s (xy_s (xy_s (xy_s (xy_s (xy_s S 57 18 r.2.1) 57 19 r.2.2.1) 57 20 r.2.2.2.1) 57 1 r.2.2.2.2.2.2.2.2.2.2.1) 57 0 r.2.2.2.2.2.2.2.2.2.2.2) 5 0 q.2.2.2.2.2.1) 50 6 q.2.2.2.2.2.2.2.2.2.2.1) 50 5 q.2.2.2.2.2.2.2.2.2.2.2.1) 10 0 q.2.2.2.2.2.2.2.2.2.2.2.2.2.2.2.2.1) 1 2 q.2.2.2.2.2.2.2.2.2.2.2.2.2.2.2.2.2.1) 1 1 q.2.2.2.2.2.2.2.2.2.2.2.2.2.2.2.2.2.2)) : wp_Ok sc I (xf_law_3 sc n) := by
  intro k A L S ce sl i hI hc hs hi hL
  have c1 : ce + 0 ≤ 601024 ∧ sl + 0 ≤ 7293034 := ⟨by omega, by omega⟩
  have c2 : ce + 0 + 0 ≤ 601024 ∧ sl + 0 + 0 ≤ 7293034 := ⟨by omega, by omega⟩
  obtain ⟨q, r, h1, h2, h3, h4⟩ := H A L S hI
  refine ⟨_, _, _, (ce + 0 + 0), (sl + 0 + 0), h4, by omega, by omega, ?_⟩
  unfold xf_law_3
  rw [if_pos c1, h1, Option.bind_some, if_pos c2, h2, Option.bind_some]
  rw [if_pos h3]
theorem wp_red_4 {sc : Nat × (Nat → Int32)} {n : Nat} {I : wp_A → wp_L → wp_A → Prop} (H : ∀ (A : wp_A) (L : wp_L) (S : wp_A), I A L S → ∃ q r, (xf_xt_read (A 2) n (A 45) (L 43) (S 42 5) (L 44) (A 23) (S 15 1) (L 17) (A 16) (A 19) (S 15 0) (A 18) (A 20) (A 22) (S 15 2) (A 21) (A 51) (A 54) (A 52) (A 53) (S 50 6) (S 50 5) (A 32) (S 24 1) (L 26) (A 25) (A 28) (S 24 0) (A 27) (A 29) (A 31) (S 24 2) (A 30) (S 1 2) (S 1 1)) = some q ∧ (xf_rf_read (A 58) n (S 57 18) (S 57 19) (S 57 20) (A 73) (A 68) (A 66) (A 69) (A 67) (A 70) (S 57 1) (A 71) (S 57 0) (A 72)) = some r ∧ (q.1 = r.1) ∧ I (xy_a (xy_a (xy_a (xy_a (xy_a (xy_a (xy_a (xy_a (xy_a (xy_a (xy_a (xy_a (xy_a (xy_a (xy_a (xy_a (xy_a (xy_a (xy_a (xy_a (xy_a (xy_a (xy_a (xy_a (xy_a (xy_a (xy_a A 73 r.2.2.2.2.1) 68 r.2.2.2.2.2.1) 66 r.2.2.2.2.2.2.1) 69 r.2.2.2.2.2.2.2.1) 67 r.2.2.2.2.2.2.2.2.1) 70 r.2.2.2.2.2.2.2.2.2.1) 71 r.2.2.2.2.2.2.2.2.2.2.2.1) 72 r.2.2.2.2.2.2.2.2.2.2.2.2.2) 45 q.2.1) 23 q.2.2.2.2.2.1) 16 q.2.2.2.2.2.2.2.2.1) 19 q.2.2.2.2.2.2.2.2.2.1) 18 q.2.2.2.2.2.2.2.2.2.2.2.1) 20 q.2.2.2.2.2.2.2.2.2.2.2.2.1) 22 q.2.2.2.2.2.2.2.2.2.2.2.2.2.1) 21 q.2.2.2.2.2.2.2.2.2.2.2.2.2.2.2.1) 51 q.2.2.2.2.2.2.2.2.2.2.2.2.2.2.2.2.1) 54 q.2.2.2.2.2.2.2.2.2.2.2.2.2.2.2.2.2.1) 52 q.2.2.2.2.2.2.2.2.2.2.2.2.2.2.2.2.2.2.1) 53 q.2.2.2.2.2.2.2.2.2.2.2.2.2.2.2.2.2.2.2.1) 32 q.2.2.2.2.2.2.2.2.2.2.2.2.2.2.2.2.2.2.2.2.2.2.1) 25 q.2.2.2.2.2.2.2.2.2.2.2.2.2.2.2.2.2.2.2.2.2.2.2.2.2.1) 28 q.2.2.2.2.2.2.2.2.2.2.2.2.2.2.2.2.2.2.2.2.2.2.2.2.2.2.1) 27 q.2.2.2.2.2.2.2.2.2.2.2.2.2.2.2.2.2.2.2.2.2.2.2.2.2.2.2.2.1) 29 q.2.2.2.2.2.2.2.2.2.2.2.2.2.2.2.2.2.2.2.2.2.2.2.2.2.2.2.2.2.1) 31 q.2.2.2.2.2.2.2.2.2.2.2.2.2.2.2.2.2.2.2.2.2.2.2.2.2.2.2.2.2.2.1) 30 q.2.2.2.2.2.2.2.2.2.2.2.2.2.2.2.2.2.2.2.2.2.2.2.2.2.2.2.2.2.2.2.2.1) (xy_l (xy_l (xy_l (xy_l L 43 q.2.2.1) 44 q.2.2.2.2.1) 17 q.2.2.2.2.2.2.2.1) 26 q.2.2.2.2.2.2.2.2.2.2.2.2.2.2.2.2.2.2.2.2.2.2.2.2.1) (xy_s (xy_s (xy_s (xy_s (xy_s (xy_s (xy_s (xy_s (xy_s (xy_s (xy_s (xy_s (xy_s (xy_s (xy_s (xy_s S 57 18 r.2.1) 57 19 r.2.2.1) 57 20 r.2.2.2.1) 57 1 r.2.2.2.2.2.2.2.2.2.2.1) 57 0 r.2.2.2.2.2.2.2.2.2.2.2.2.1) 42 5 q.2.2.2.1) 15 1 q.2.2.2.2.2.2.1) 15 0 q.2.2.2.2.2.2.2.2.2.2.1) 15 2 q.2.2.2.2.2.2.2.2.2.2.2.2.2.2.1) 50 6 q.2.2.2.2.2.2.2.2.2.2.2.2.2.2.2.2.2.2.2.2.1) 50 5 q.2.2.2.2.2.2.2.2.2.2.2.2.2.2.2.2.2.2.2.2.2.1) 24 1 q.2.2.2.2.2.2.2.2.2.2.2.2.2.2.2.2.2.2.2.2.2.2.2.1) 24 0 q.2.2.2.2.2.2.2.2.2.2.2.2.2.2.2.2.2.2.2.2.2.2.2.2.2.2.2.1) 24 2 q.2.2.2.2.2.2.2.2.2.2.2.2.2.2.2.2.2.2.2.2.2.2.2.2.2.2.2.2.2.2.2.1) 1 2 q.2.2.2.2.2.2.2.2.2.2.2.2.2.2.2.2.2.2.2.2.2.2.2.2.2.2.2.2.2.2.2.2.2.1) 1 1 q.2.2.2.2.2.2.2.2.2.2.2.2.2.2.2.2.2.2.2.2.2.2.2.2.2.2.2.2.2.2.2.2.2.2)) : wp_Ok sc I (xf_law_4 sc n) := by
  intro k A L S ce sl i hI hc hs hi hL
  have c1 : ce + 0 ≤ 601024 ∧ sl + 0 ≤ 7293034 := ⟨by omega, by omega⟩
  have c2 : ce + 0 + 0 ≤ 601024 ∧ sl + 0 + 0 ≤ 7293034 := ⟨by omega, by omega⟩
  obtain ⟨q, r, h1, h2, h3, h4⟩ := H A L S hI
  refine ⟨_, _, _, (ce + 0 + 0), (sl + 0 + 0), h4, by omega, by omega, ?_⟩
  unfold xf_law_4
  rw [if_pos c1, h1, Option.bind_some, if_pos c2, h2, Option.bind_some]
  rw [if_pos h3]
theorem wp_red_5 {sc : Nat × (Nat → Int32)} {n : Nat} {I : wp_A → wp_L → wp_A → Prop} (H : ∀ (A : wp_A) (L : wp_L) (S : wp_A), I A L S → ∃ q r, (xf_xt_write (A 23) (S 15 1) (L 17) (A 16) (A 19) (A 18) (A 20) (A 22) (S 15 2) (A 21) n (S 3 2) (S 3 1) (A 4) (S 1 2) (S 1 1) (A 2)) = some q ∧ (xf_rf_write (A 73) (A 68) (A 66) (A 69) (A 67) (A 70) (A 71) (A 72) n (A 59) (S 57 1) (A 58) (S 57 0) (S 57 24)) = some r ∧ (q.1 = r.1) ∧ I (xy_a (xy_a (xy_a (xy_a A 59 r.2.1) 58 r.2.2.2.1) 4 q.2.2.2.1) 2 q.2.2.2.2.2.2) L (xy_s (xy_s (xy_s (xy_s (xy_s (xy_s (xy_s S 57 1 r.2.2.1) 57 0 r.2.2.2.2.1) 57 24 r.2.2.2.2.2) 3 2 q.2.1) 3 1 q.2.2.1) 1 2 q.2.2.2.2.1) 1 1 q.2.2.2.2.2.1)) : wp_Ok sc I (xf_law_5 sc n) := by
  intro k A L S ce sl i hI hc hs hi hL
  have c1 : ce + 0 ≤ 601024 ∧ sl + 0 ≤ 7293034 := ⟨by omega, by omega⟩
  have c2 : ce + 0 + 0 ≤ 601024 ∧ sl + 0 + 0 ≤ 7293034 := ⟨by omega, by omega⟩
  obtain ⟨q, r, h1, h2, h3, h4⟩ := H A L S hI
  refine ⟨_, _, _, (ce + 0 + 0), (sl + 0 + 0), h4, by omega, by omega, ?_⟩
  unfold xf_law_5
  rw [if_pos c1, h1, Option.bind_some, if_pos c2, h2, Option.bind_some]
  rw [if_pos h3]
theorem wp_red_6 {sc : Nat × (Nat → Int32)} {n : Nat} {I : wp_A → wp_L → wp_A → Prop} (H : ∀ (A : wp_A) (L : wp_L) (S : wp_A), I A L S → ∃ q r, (xf_xt_keep (A 23) (S 15 1) (L 17) (A 16) (A 19) (S 15 0) (A 18) (A 20) (A 22) (S 15 2) (A 21) (A 41) (S 33 1) (L 35) (A 34) (A 37) (S 33 0) (A 36) (A 38) (A 40) (S 33 2) (A 39)) = some q ∧ (xf_rf_keep n (A 73) (A 68) (A 66) (A 69) (A 67) (A 70) (A 71) (S 57 0) (A 72)) = some r ∧ (q.1 = r.1) ∧ I (xy_a (xy_a (xy_a (xy_a (xy_a (xy_a (xy_a (xy_a (xy_a (xy_a (xy_a (xy_a (xy_a (xy_a (xy_a A 73 r.2.1) 68 r.2.2.1) 66 r.2.2.2.1) 69 r.2.2.2.2.1) 67 r.2.2.2.2.2.1) 70 r.2.2.2.2.2.2.1) 71 r.2.2.2.2.2.2.2.1) 72 r.2.2.2.2.2.2.2.2.2) 41 q.2.1) 34 q.2.2.2.2.1) 37 q.2.2.2.2.2.1) 36 q.2.2.2.2.2.2.2.1) 38 q.2.2.2.2.2.2.2.2.1) 40 q.2.2.2.2.2.2.2.2.2.1) 39 q.2.2.2.2.2.2.2.2.2.2.2) (xy_l L 35 q.2.2.2.1) (xy_s (xy_s (xy_s (xy_s S 57 0 r.2.2.2.2.2.2.2.2.1) 33 1 q.2.2.1) 33 0 q.2.2.2.2.2.2.1) 33 2 q.2.2.2.2.2.2.2.2.2.2.1)) : wp_Ok sc I (xf_law_6 sc n) := by
  intro k A L S ce sl i hI hc hs hi hL
  have c1 : ce + 0 ≤ 601024 ∧ sl + 0 ≤ 7293034 := ⟨by omega, by omega⟩
  have c2 : ce + 0 + 0 ≤ 601024 ∧ sl + 0 + 0 ≤ 7293034 := ⟨by omega, by omega⟩
  obtain ⟨q, r, h1, h2, h3, h4⟩ := H A L S hI
  refine ⟨_, _, _, (ce + 0 + 0), (sl + 0 + 0), h4, by omega, by omega, ?_⟩
  unfold xf_law_6
  rw [if_pos c1, h1, Option.bind_some, if_pos c2, h2, Option.bind_some]
  rw [if_pos h3]
theorem wp_red_7 {sc : Nat × (Nat → Int32)} {n : Nat} {I : wp_A → wp_L → wp_A → Prop} (H : ∀ (A : wp_A) (L : wp_L) (S : wp_A) (x1 : Int32), I A L S → ∃ q r, (xf_la_line (S 15 1) (A 16) (A 19) 1 (L 77) x1) = some q ∧ (xf_rf_line (A 66) (A 67) (S 57 0) x1) = some r ∧ (r.2 = q.1 ∧ (q.1 = (0 : Int32) → lg_cmp (q.2 ((0 : Int32)).toNatClampNeg) r.1.toInt64 = (0 : Int32))) ∧ I A (xy_l L 77 q.2) (xy_s S 57 0 r.2)) : wp_Ok sc I (xf_law_7 sc n) := by
  intro k A L S ce sl i hI hc hs hi hL
  have hin1 : xr_in (Int32.ofNat (4 * i) + 1) sc.1 = true := by
    rw [show Int32.ofNat (4 * i) + 1 = Int32.ofNat (4 * i + 1) from wp_add (b := 1)]
    exact wp_in (by omega) (by omega)
  have c1 : ce + 1 ≤ 601024 ∧ sl + 6 ≤ 7293034 := ⟨by omega, by omega⟩
  have c2 : ce + 1 + 0 ≤ 601024 ∧ sl + 6 + 0 ≤ 7293034 := ⟨by omega, by omega⟩
  have c3 : ce + 1 + 0 + 0 ≤ 601024 ∧ sl + 6 + 0 + 0 ≤ 7293034 := ⟨by omega, by omega⟩
  obtain ⟨q, r, h1, h2, h3, h4⟩ := H A L S (sc.2 (Int32.ofNat (4 * i) + 1).toNatClampNeg) hI
  refine ⟨_, _, _, (ce + 1 + 0 + 0), (sl + 6 + 0 + 0), h4, by omega, by omega, ?_⟩
  unfold xf_law_7
  rw [if_pos hin1, if_pos c1, h1, Option.bind_some, if_pos hin1, if_pos c2, h2, Option.bind_some, if_pos c3, xf_rf_thrown_s, Option.bind_some]
  rw [if_pos h3.1]
  by_cases h0 : q.1 = (0 : Int32)
  · rw [if_pos h0, if_pos (h3.2 h0)]
  · rw [if_neg h0]
theorem wp_red_8 {sc : Nat × (Nat → Int32)} {n : Nat} {I : wp_A → wp_L → wp_A → Prop} (H : ∀ (A : wp_A) (L : wp_L) (S : wp_A) (x1 : Int32) (x2 : Int32), I A L S → ∃ q r, (xf_la_told (A 45) (L 6) (S 5 0) (S 15 1) (L 17) (A 16) (A 19) (A 18) (A 20) (A 21) 1 n (L 77) x1 x2) = some q ∧ (xf_rf_told (A 73) (A 61) (A 62) (A 60) (A 68) (A 66) (A 69) (A 67) (A 70) (A 71) (A 72) n (A 74) (S 57 0) (L 76) x1 x2) = some r ∧ (r.2.2.1 = q.1 ∧ (q.1 = (0 : Int32) → lg_cmp (q.2 ((0 : Int32)).toNatClampNeg) r.1.toInt64 = (0 : Int32))) ∧ I (xy_a A 74 r.2.1) (xy_l (xy_l L 76 r.2.2.2) 77 q.2) (xy_s S 57 0 r.2.2.1)) : wp_Ok sc I (xf_law_8 sc n) := by
  intro k A L S ce sl i hI hc hs hi hL
  have hin1 : xr_in (Int32.ofNat (4 * i) + 1) sc.1 = true := by
    rw [show Int32.ofNat (4 * i) + 1 = Int32.ofNat (4 * i + 1) from wp_add (b := 1)]
    exact wp_in (by omega) (by omega)
  have hin2 : xr_in (Int32.ofNat (4 * i) + 2) sc.1 = true := by
    rw [show Int32.ofNat (4 * i) + 2 = Int32.ofNat (4 * i + 2) from wp_add (b := 2)]
    exact wp_in (by omega) (by omega)
  have c1 : ce + 2 ≤ 601024 ∧ sl + 12 ≤ 7293034 := ⟨by omega, by omega⟩
  have c2 : ce + 2 + 0 ≤ 601024 ∧ sl + 12 + 0 ≤ 7293034 := ⟨by omega, by omega⟩
  have c3 : ce + 2 + 0 + 0 ≤ 601024 ∧ sl + 12 + 0 + 0 ≤ 7293034 := ⟨by omega, by omega⟩
  obtain ⟨q, r, h1, h2, h3, h4⟩ := H A L S (sc.2 (Int32.ofNat (4 * i) + 1).toNatClampNeg) (sc.2 (Int32.ofNat (4 * i) + 2).toNatClampNeg) hI
  refine ⟨_, _, _, (ce + 2 + 0 + 0), (sl + 12 + 0 + 0), h4, by omega, by omega, ?_⟩
  unfold xf_law_8
  rw [if_pos hin1, if_pos hin2, if_pos c1, h1, Option.bind_some, if_pos hin1, if_pos hin2, if_pos c2, h2, Option.bind_some, if_pos c3, xf_rf_thrown_s, Option.bind_some]
  rw [if_pos h3.1]
  by_cases h0 : q.1 = (0 : Int32)
  · rw [if_pos h0, if_pos (h3.2 h0)]
  · rw [if_neg h0]
theorem wp_red_9 {sc : Nat × (Nat → Int32)} {n : Nat} {I : wp_A → wp_L → wp_A → Prop} (H : ∀ (A : wp_A) (L : wp_L) (S : wp_A) (x1 : Int32) (x2 : Int32) (x3 : Int32), I A L S → ∃ q r, (xf_la_argument (S 15 1) (A 16) (A 19) (A 18) (A 20) (A 21) 1 n (L 77) x1 x2 x3) = some q ∧ (xf_rf_argument3 (A 66) (A 67) (A 70) (A 71) (A 72) n (S 57 0) x1 x2 x3) = some r ∧ (r.2 = q.1 ∧ (q.1 = (0 : Int32) → lg_cmp (q.2 ((0 : Int32)).toNatClampNeg) r.1.toInt64 = (0 : Int32))) ∧ I A (xy_l L 77 q.2) (xy_s S 57 0 r.2)) : wp_Ok sc I (xf_law_9 sc n) := by
  intro k A L S ce sl i hI hc hs hi hL
  have hin1 : xr_in (Int32.ofNat (4 * i) + 1) sc.1 = true := by
    rw [show Int32.ofNat (4 * i) + 1 = Int32.ofNat (4 * i + 1) from wp_add (b := 1)]
    exact wp_in (by omega) (by omega)
  have hin2 : xr_in (Int32.ofNat (4 * i) + 2) sc.1 = true := by
    rw [show Int32.ofNat (4 * i) + 2 = Int32.ofNat (4 * i + 2) from wp_add (b := 2)]
    exact wp_in (by omega) (by omega)
  have hin3 : xr_in (Int32.ofNat (4 * i) + 3) sc.1 = true := by
    rw [show Int32.ofNat (4 * i) + 3 = Int32.ofNat (4 * i + 3) from wp_add (b := 3)]
    exact wp_in (by omega) (by omega)
  have c1 : ce + 3 ≤ 601024 ∧ sl + 18 ≤ 7293034 := ⟨by omega, by omega⟩
  have c2 : ce + 3 + 0 ≤ 601024 ∧ sl + 18 + 0 ≤ 7293034 := ⟨by omega, by omega⟩
  have c3 : ce + 3 + 0 + 0 ≤ 601024 ∧ sl + 18 + 0 + 0 ≤ 7293034 := ⟨by omega, by omega⟩
  obtain ⟨q, r, h1, h2, h3, h4⟩ := H A L S (sc.2 (Int32.ofNat (4 * i) + 1).toNatClampNeg) (sc.2 (Int32.ofNat (4 * i) + 2).toNatClampNeg) (sc.2 (Int32.ofNat (4 * i) + 3).toNatClampNeg) hI
  refine ⟨_, _, _, (ce + 3 + 0 + 0), (sl + 18 + 0 + 0), h4, by omega, by omega, ?_⟩
  unfold xf_law_9
  rw [if_pos hin1, if_pos hin2, if_pos hin3, if_pos c1, h1, Option.bind_some, if_pos hin1, if_pos hin2, if_pos hin3, if_pos c2, h2, Option.bind_some, if_pos c3, xf_rf_thrown_s, Option.bind_some]
  rw [if_pos h3.1]
  by_cases h0 : q.1 = (0 : Int32)
  · rw [if_pos h0, if_pos (h3.2 h0)]
  · rw [if_neg h0]
theorem wp_red_10 {sc : Nat × (Nat → Int32)} {n : Nat} {I : wp_A → wp_L → wp_A → Prop} (H : ∀ (A : wp_A) (L : wp_L) (S : wp_A) (x1 : Int32) (x2 : Int32) (x3 : Int32), I A L S → ∃ q r, (xf_la_item (A 23) (S 15 1) (A 16) (A 19) (A 18) (A 20) (A 22) (S 15 2) (A 21) 1 n (L 77) x1 x2 x3) = some q ∧ (xf_rf_item (A 73) (A 66) (A 67) (A 70) (A 71) (A 72) n (S 57 0) x1 x2 x3) = some r ∧ (r.2 = q.1 ∧ (q.1 = (0 : Int32) → lg_cmp (q.2 ((0 : Int32)).toNatClampNeg) r.1.toInt64 = (0 : Int32))) ∧ I A (xy_l L 77 q.2) (xy_s S 57 0 r.2)) : wp_Ok sc I (xf_law_10 sc n) := by
  intro k A L S ce sl i hI hc hs hi hL
  have hin1 : xr_in (Int32.ofNat (4 * i) + 1) sc.1 = true := by
    rw [show Int32.ofNat (4 * i) + 1 = Int32.ofNat (4 * i + 1) from wp_add (b := 1)]
    exact wp_in (by omega) (by omega)
  have hin2 : xr_in (Int32.ofNat (4 * i) + 2) sc.1 = true := by
    rw [show Int32.ofNat (4 * i) + 2 = Int32.ofNat (4 * i + 2) from wp_add (b := 2)]
    exact wp_in (by omega) (by omega)
  have hin3 : xr_in (Int32.ofNat (4 * i) + 3) sc.1 = true := by
    rw [show Int32.ofNat (4 * i) + 3 = Int32.ofNat (4 * i + 3) from wp_add (b := 3)]
    exact wp_in (by omega) (by omega)
  have c1 : ce + 3 ≤ 601024 ∧ sl + 18 ≤ 7293034 := ⟨by omega, by omega⟩
  have c2 : ce + 3 + 0 ≤ 601024 ∧ sl + 18 + 0 ≤ 7293034 := ⟨by omega, by omega⟩
  have c3 : ce + 3 + 0 + 0 ≤ 601024 ∧ sl + 18 + 0 + 0 ≤ 7293034 := ⟨by omega, by omega⟩
  obtain ⟨q, r, h1, h2, h3, h4⟩ := H A L S (sc.2 (Int32.ofNat (4 * i) + 1).toNatClampNeg) (sc.2 (Int32.ofNat (4 * i) + 2).toNatClampNeg) (sc.2 (Int32.ofNat (4 * i) + 3).toNatClampNeg) hI
  refine ⟨_, _, _, (ce + 3 + 0 + 0), (sl + 18 + 0 + 0), h4, by omega, by omega, ?_⟩
  unfold xf_law_10
  rw [if_pos hin1, if_pos hin2, if_pos hin3, if_pos c1, h1, Option.bind_some, if_pos hin1, if_pos hin2, if_pos hin3, if_pos c2, h2, Option.bind_some, if_pos c3, xf_rf_thrown_s, Option.bind_some]
  rw [if_pos h3.1]
  by_cases h0 : q.1 = (0 : Int32)
  · rw [if_pos h0, if_pos (h3.2 h0)]
  · rw [if_neg h0]
theorem wp_red_11 {sc : Nat × (Nat → Int32)} {n : Nat} {I : wp_A → wp_L → wp_A → Prop} (H : ∀ (A : wp_A) (L : wp_L) (S : wp_A) (x1 : Int32) (x2 : Int32) (x3 : Int32), I A L S → ∃ q r, (xf_la_set (S 15 1) (A 16) (A 19) (A 18) (A 20) 1 n (S 42 5) (A 21) (L 77) x1 x2 x3) = some q ∧ (xf_rf_set (A 66) (A 67) (A 70) (A 71) n (S 57 0) (A 72) x1 x2 x3) = some r ∧ (r.2.1 = q.1 ∧ (q.1 = (0 : Int32) → lg_cmp (q.2.2.2 ((0 : Int32)).toNatClampNeg) r.1.toInt64 = (0 : Int32))) ∧ I (xy_a (xy_a A 72 r.2.2) 21 q.2.2.1) (xy_l L 77 q.2.2.2) (xy_s (xy_s S 57 0 r.2.1) 42 5 q.2.1)) : wp_Ok sc I (xf_law_11 sc n) := by
  intro k A L S ce sl i hI hc hs hi hL
  have hin1 : xr_in (Int32.ofNat (4 * i) + 1) sc.1 = true := by
    rw [show Int32.ofNat (4 * i) + 1 = Int32.ofNat (4 * i + 1) from wp_add (b := 1)]
    exact wp_in (by omega) (by omega)
  have hin2 : xr_in (Int32.ofNat (4 * i) + 2) sc.1 = true := by
    rw [show Int32.ofNat (4 * i) + 2 = Int32.ofNat (4 * i + 2) from wp_add (b := 2)]
    exact wp_in (by omega) (by omega)
  have hin3 : xr_in (Int32.ofNat (4 * i) + 3) sc.1 = true := by
    rw [show Int32.ofNat (4 * i) + 3 = Int32.ofNat (4 * i + 3) from wp_add (b := 3)]
    exact wp_in (by omega) (by omega)
  have c1 : ce + 4 ≤ 601024 ∧ sl + 24 ≤ 7293034 := ⟨by omega, by omega⟩
  have c2 : ce + 4 + 0 ≤ 601024 ∧ sl + 24 + 0 ≤ 7293034 := ⟨by omega, by omega⟩
  have c3 : ce + 4 + 0 + 0 ≤ 601024 ∧ sl + 24 + 0 + 0 ≤ 7293034 := ⟨by omega, by omega⟩
  obtain ⟨q, r, h1, h2, h3, h4⟩ := H A L S (sc.2 (Int32.ofNat (4 * i) + 1).toNatClampNeg) (sc.2 (Int32.ofNat (4 * i) + 2).toNatClampNeg) (sc.2 (Int32.ofNat (4 * i) + 3).toNatClampNeg) hI
  refine ⟨_, _, _, (ce + 4 + 0 + 0), (sl + 24 + 0 + 0), h4, by omega, by omega, ?_⟩
  unfold xf_law_11
  rw [if_pos hin1, if_pos hin2, if_pos hin3, if_pos c1, h1, Option.bind_some, if_pos hin1, if_pos hin2, if_pos hin3, if_pos c2, h2, Option.bind_some, if_pos c3, xf_rf_thrown_s, Option.bind_some]
  rw [if_pos h3.1]
  by_cases h0 : q.1 = (0 : Int32)
  · rw [if_pos h0, if_pos (h3.2 h0)]
  · rw [if_neg h0]
theorem wp_red_12 {sc : Nat × (Nat → Int32)} {n : Nat} {I : wp_A → wp_L → wp_A → Prop} (H : ∀ (A : wp_A) (L : wp_L) (S : wp_A) (x1 : Int32) (x2 : Int32), I A L S → ∃ q r, (xf_la_wrong (A 9) (L 6) (A 7) (A 8) (S 5 0) (S 15 1) (L 17) (A 16) (A 19) (A 18) (A 20) (A 21) 1 n (L 77) x1 x2) = some q ∧ (xf_rf_wrong (A 61) (A 65) (A 62) (A 63) (A 64) (A 60) (A 68) (A 66) (A 69) (A 67) (A 70) (A 71) (A 72) n (S 57 0) x1 x2) = some r ∧ (r.2 = q.1 ∧ (q.1 = (0 : Int32) → lg_cmp (q.2 ((0 : Int32)).toNatClampNeg) r.1.toInt64 = (0 : Int32))) ∧ I A (xy_l L 77 q.2) (xy_s S 57 0 r.2)) : wp_Ok sc I (xf_law_12 sc n) := by
  intro k A L S ce sl i hI hc hs hi hL
  have hin1 : xr_in (Int32.ofNat (4 * i) + 1) sc.1 = true := by
    rw [show Int32.ofNat (4 * i) + 1 = Int32.ofNat (4 * i + 1) from wp_add (b := 1)]
    exact wp_in (by omega) (by omega)
  have hin2 : xr_in (Int32.ofNat (4 * i) + 2) sc.1 = true := by
    rw [show Int32.ofNat (4 * i) + 2 = Int32.ofNat (4 * i + 2) from wp_add (b := 2)]
    exact wp_in (by omega) (by omega)
  have c1 : ce + 1 ≤ 601024 ∧ sl + 6 ≤ 7293034 := ⟨by omega, by omega⟩
  have c2 : ce + 1 + 0 ≤ 601024 ∧ sl + 6 + 0 ≤ 7293034 := ⟨by omega, by omega⟩
  have c3 : ce + 1 + 0 + 0 ≤ 601024 ∧ sl + 6 + 0 + 0 ≤ 7293034 := ⟨by omega, by omega⟩
  obtain ⟨q, r, h1, h2, h3, h4⟩ := H A L S (sc.2 (Int32.ofNat (4 * i) + 1).toNatClampNeg) (sc.2 (Int32.ofNat (4 * i) + 2).toNatClampNeg) hI
  refine ⟨_, _, _, (ce + 1 + 0 + 0), (sl + 6 + 0 + 0), h4, by omega, by omega, ?_⟩
  unfold xf_law_12
  rw [if_pos hin1, if_pos hin2, if_pos c1, h1, Option.bind_some, if_pos hin1, if_pos hin2, if_pos c2, h2, Option.bind_some, if_pos c3, xf_rf_thrown_s, Option.bind_some]
  rw [if_pos h3.1]
  by_cases h0 : q.1 = (0 : Int32)
  · rw [if_pos h0, if_pos (h3.2 h0)]
  · rw [if_neg h0]
theorem wp_red_13 {sc : Nat × (Nat → Int32)} {n : Nat} {I : wp_A → wp_L → wp_A → Prop} (H : ∀ (A : wp_A) (L : wp_L) (S : wp_A) (x1 : Int32) (x2 : Int32), I A L S → ∃ q r, (xf_la_from (L 43) (S 15 1) (A 16) (A 19) 1 n (L 77) x1 x2) = some q ∧ (xf_rf_from (A 73) (A 66) (A 67) (A 70) (A 71) (A 72) n (S 57 0) (L 76) x1 x2) = some r ∧ (r.2.1 = q.1 ∧ (q.1 = (0 : Int32) → lg_cmp (q.2 ((0 : Int32)).toNatClampNeg) r.1.toInt64 = (0 : Int32))) ∧ I A (xy_l (xy_l L 76 r.2.2) 77 q.2) (xy_s S 57 0 r.2.1)) : wp_Ok sc I (xf_law_13 sc n) := by
  intro k A L S ce sl i hI hc hs hi hL
  have hin1 : xr_in (Int32.ofNat (4 * i) + 1) sc.1 = true := by
    rw [show Int32.ofNat (4 * i) + 1 = Int32.ofNat (4 * i + 1) from wp_add (b := 1)]
    exact wp_in (by omega) (by omega)
  have hin2 : xr_in (Int32.ofNat (4 * i) + 2) sc.1 = true := by
    rw [show Int32.ofNat (4 * i) + 2 = Int32.ofNat (4 * i + 2) from wp_add (b := 2)]
    exact wp_in (by omega) (by omega)
  have c1 : ce + 2 ≤ 601024 ∧ sl + 12 ≤ 7293034 := ⟨by omega, by omega⟩
  have c2 : ce + 2 + 0 ≤ 601024 ∧ sl + 12 + 0 ≤ 7293034 := ⟨by omega, by omega⟩
  have c3 : ce + 2 + 0 + 0 ≤ 601024 ∧ sl + 12 + 0 + 0 ≤ 7293034 := ⟨by omega, by omega⟩
  obtain ⟨q, r, h1, h2, h3, h4⟩ := H A L S (sc.2 (Int32.ofNat (4 * i) + 1).toNatClampNeg) (sc.2 (Int32.ofNat (4 * i) + 2).toNatClampNeg) hI
  refine ⟨_, _, _, (ce + 2 + 0 + 0), (sl + 12 + 0 + 0), h4, by omega, by omega, ?_⟩
  unfold xf_law_13
  rw [if_pos hin1, if_pos hin2, if_pos c1, h1, Option.bind_some, if_pos hin1, if_pos hin2, if_pos c2, h2, Option.bind_some, if_pos c3, xf_rf_thrown_s, Option.bind_some]
  rw [if_pos h3.1]
  by_cases h0 : q.1 = (0 : Int32)
  · rw [if_pos h0, if_pos (h3.2 h0)]
  · rw [if_neg h0]
theorem wp_red_14 {sc : Nat × (Nat → Int32)} {n : Nat} {I : wp_A → wp_L → wp_A → Prop} (H : ∀ (A : wp_A) (L : wp_L) (S : wp_A) (x1 : Int32), I A L S → ∃ q r, (xf_la_ring (L 44) (S 15 1) (A 16) (A 19) 1 n (L 77) x1) = some q ∧ (xf_rf_ring (A 73) (A 66) (A 67) (A 70) (A 71) (A 72) n (A 74) (S 57 0) (L 76) x1) = some r ∧ (r.2.2.1 = q.1 ∧ (q.1 = (0 : Int32) → lg_cmp (q.2 ((0 : Int32)).toNatClampNeg) r.1.toInt64 = (0 : Int32))) ∧ I (xy_a A 74 r.2.1) (xy_l (xy_l L 76 r.2.2.2) 77 q.2) (xy_s S 57 0 r.2.2.1)) : wp_Ok sc I (xf_law_14 sc n) := by
  intro k A L S ce sl i hI hc hs hi hL
  have hin1 : xr_in (Int32.ofNat (4 * i) + 1) sc.1 = true := by
    rw [show Int32.ofNat (4 * i) + 1 = Int32.ofNat (4 * i + 1) from wp_add (b := 1)]
    exact wp_in (by omega) (by omega)
  have c1 : ce + 1 ≤ 601024 ∧ sl + 6 ≤ 7293034 := ⟨by omega, by omega⟩
  have c2 : ce + 1 + 0 ≤ 601024 ∧ sl + 6 + 0 ≤ 7293034 := ⟨by omega, by omega⟩
  have c3 : ce + 1 + 0 + 0 ≤ 601024 ∧ sl + 6 + 0 + 0 ≤ 7293034 := ⟨by omega, by omega⟩
  obtain ⟨q, r, h1, h2, h3, h4⟩ := H A L S (sc.2 (Int32.ofNat (4 * i) + 1).toNatClampNeg) hI
  refine ⟨_, _, _, (ce + 1 + 0 + 0), (sl + 6 + 0 + 0), h4, by omega, by omega, ?_⟩
  unfold xf_law_14
  rw [if_pos hin1, if_pos c1, h1, Option.bind_some, if_pos hin1, if_pos c2, h2, Option.bind_some, if_pos c3, xf_rf_thrown_s, Option.bind_some]
  rw [if_pos h3.1]
  by_cases h0 : q.1 = (0 : Int32)
  · rw [if_pos h0, if_pos (h3.2 h0)]
  · rw [if_neg h0]
theorem wp_red_15 {sc : Nat × (Nat → Int32)} {n : Nat} {I : wp_A → wp_L → wp_A → Prop} (H : ∀ (A : wp_A) (L : wp_L) (S : wp_A) (x1 : Int32) (x2 : Int32), I A L S → ∃ q r, (xf_la_place (S 15 1) (A 16) (A 19) (A 18) (A 20) (A 21) 1 n (L 77) x1 x2) = some q ∧ (xf_rf_place (A 66) (A 67) (A 70) (A 71) (A 72) n (S 57 0) x1 x2) = some r ∧ (r.2 = q.1 ∧ (q.1 = (0 : Int32) → lg_cmp (q.2 ((0 : Int32)).toNatClampNeg) r.1 = (0 : Int32))) ∧ I A (xy_l L 77 q.2) (xy_s S 57 0 r.2)) : wp_Ok sc I (xf_law_15 sc n) := by
  intro k A L S ce sl i hI hc hs hi hL
  have hin1 : xr_in (Int32.ofNat (4 * i) + 1) sc.1 = true := by
    rw [show Int32.ofNat (4 * i) + 1 = Int32.ofNat (4 * i + 1) from wp_add (b := 1)]
    exact wp_in (by omega) (by omega)
  have hin2 : xr_in (Int32.ofNat (4 * i) + 2) sc.1 = true := by
    rw [show Int32.ofNat (4 * i) + 2 = Int32.ofNat (4 * i + 2) from wp_add (b := 2)]
    exact wp_in (by omega) (by omega)
  have c1 : ce + 3 ≤ 601024 ∧ sl + 18 ≤ 7293034 := ⟨by omega, by omega⟩
  have c2 : ce + 3 + 0 ≤ 601024 ∧ sl + 18 + 0 ≤ 7293034 := ⟨by omega, by omega⟩
  have c3 : ce + 3 + 0 + 0 ≤ 601024 ∧ sl + 18 + 0 + 0 ≤ 7293034 := ⟨by omega, by omega⟩
  obtain ⟨q, r, h1, h2, h3, h4⟩ := H A L S (sc.2 (Int32.ofNat (4 * i) + 1).toNatClampNeg) (sc.2 (Int32.ofNat (4 * i) + 2).toNatClampNeg) hI
  refine ⟨_, _, _, (ce + 3 + 0 + 0), (sl + 18 + 0 + 0), h4, by omega, by omega, ?_⟩
  unfold xf_law_15
  rw [if_pos hin1, if_pos hin2, if_pos c1, h1, Option.bind_some, if_pos hin1, if_pos hin2, if_pos c2, h2, Option.bind_some, if_pos c3, xf_rf_thrown_s, Option.bind_some]
  rw [if_pos h3.1]
  by_cases h0 : q.1 = (0 : Int32)
  · rw [if_pos h0, if_pos (h3.2 h0)]
  · rw [if_neg h0]
theorem wp_red_16 {sc : Nat × (Nat → Int32)} {n : Nat} {I : wp_A → wp_L → wp_A → Prop} (H : ∀ (A : wp_A) (L : wp_L) (S : wp_A) (x1 : Int32) (x2 : Int32), I A L S → ∃ q r, (xf_la_alike (A 45) (A 23) (S 15 1) (L 17) (A 16) (A 19) (A 18) (A 20) (A 22) (S 15 2) (A 21) 1000 1 n (S 42 5) (A 47) (L 77) x1 x2) = some q ∧ (xf_rf_alike (A 73) (A 68) (A 66) (A 69) (A 67) (A 70) (A 71) (A 72) n (A 74) (A 75) (S 57 0) (L 76) x1 x2) = some r ∧ (r.2.2.2.1 = q.1 ∧ (q.1 = (0 : Int32) → r.1 = (0 : Int32) → lg_cmp (q.2.2.2 ((0 : Int32)).toNatClampNeg) ((0 : Int64)) = (0 : Int32)) ∧ (q.1 = (0 : Int32) → ¬ r.1 = (0 : Int32) → lg_cmp (q.2.2.2 ((0 : Int32)).toNatClampNeg) ((1 : Int64)) = (0 : Int32))) ∧ I (xy_a (xy_a (xy_a A 74 r.2.1) 75 r.2.2.1) 47 q.2.2.1) (xy_l (xy_l L 76 r.2.2.2.2) 77 q.2.2.2) (xy_s (xy_s S 57 0 r.2.2.2.1) 42 5 q.2.1)) : wp_Ok sc I (xf_law_16 sc n) := by
  intro k A L S ce sl i hI hc hs hi hL
  have hin1 : xr_in (Int32.ofNat (4 * i) + 1) sc.1 = true := by
    rw [show Int32.ofNat (4 * i) + 1 = Int32.ofNat (4 * i + 1) from wp_add (b := 1)]
    exact wp_in (by omega) (by omega)
  have hin2 : xr_in (Int32.ofNat (4 * i) + 2) sc.1 = true := by
    rw [show Int32.ofNat (4 * i) + 2 = Int32.ofNat (4 * i + 2) from wp_add (b := 2)]
    exact wp_in (by omega) (by omega)
  have c1 : ce + 2 ≤ 601024 ∧ sl + 12 ≤ 7293034 := ⟨by omega, by omega⟩
  have c2 : ce + 2 + 0 ≤ 601024 ∧ sl + 12 + 0 ≤ 7293034 := ⟨by omega, by omega⟩
  have c3 : ce + 2 + 0 + 0 ≤ 601024 ∧ sl + 12 + 0 + 0 ≤ 7293034 := ⟨by omega, by omega⟩
  obtain ⟨q, r, h1, h2, h3, h4⟩ := H A L S (sc.2 (Int32.ofNat (4 * i) + 1).toNatClampNeg) (sc.2 (Int32.ofNat (4 * i) + 2).toNatClampNeg) hI
  refine ⟨_, _, _, (ce + 2 + 0 + 0), (sl + 12 + 0 + 0), h4, by omega, by omega, ?_⟩
  unfold xf_law_16
  rw [if_pos hin1, if_pos hin2, if_pos c1, h1, Option.bind_some, if_pos hin1, if_pos hin2, if_pos c2, h2, Option.bind_some, if_pos c3, xf_rf_thrown_s, Option.bind_some]
  rw [if_pos h3.1]
  by_cases h0 : q.1 = (0 : Int32)
  · rw [if_pos h0]
    by_cases h5 : r.1 = (0 : Int32)
    · rw [if_pos h5, if_pos (h3.2.1 h0 h5)]
    · rw [if_neg h5, if_pos (h3.2.2 h0 h5)]
  · rw [if_neg h0]
theorem wp_red_17 {sc : Nat × (Nat → Int32)} {n : Nat} {I : wp_A → wp_L → wp_A → Prop} (H : ∀ (A : wp_A) (L : wp_L) (S : wp_A), I A L S → ∃ q r, (xf_xt_join (L 17) (A 16) (A 18) (A 20) (A 22) (S 15 2) 1000 n (A 45) (L 43) (S 42 5) (A 47) (L 44) (A 23) (S 15 1) (A 19) (A 21)) = some q ∧ (xf_rf_join n (A 74) (A 73) (A 68) (A 75) (A 66) (A 69) (A 67) (A 70) (A 71) (S 57 0) (A 72) (L 76)) = some r ∧ (q.1 = r.1) ∧ I (xy_a (xy_a (xy_a (xy_a (xy_a (xy_a (xy_a (xy_a (xy_a (xy_a (xy_a (xy_a (xy_a (xy_a (xy_a A 74 r.2.1) 73 r.2.2.1) 68 r.2.2.2.1) 75 r.2.2.2.2.1) 66 r.2.2.2.2.2.1) 69 r.2.2.2.2.2.2.1) 67 r.2.2.2.2.2.2.2.1) 70 r.2.2.2.2.2.2.2.2.1) 71 r.2.2.2.2.2.2.2.2.2.1) 72 r.2.2.2.2.2.2.2.2.2.2.2.1) 45 q.2.1) 47 q.2.2.2.2.1) 23 q.2.2.2.2.2.2.1) 19 q.2.2.2.2.2.2.2.2.1) 21 q.2.2.2.2.2.2.2.2.2) (xy_l (xy_l (xy_l L 76 r.2.2.2.2.2.2.2.2.2.2.2.2) 43 q.2.2.1) 44 q.2.2.2.2.2.1) (xy_s (xy_s (xy_s S 57 0 r.2.2.2.2.2.2.2.2.2.2.1) 42 5 q.2.2.2.1) 15 1 q.2.2.2.2.2.2.2.1)) : wp_Ok sc I (xf_law_17 sc n) := by
  intro k A L S ce sl i hI hc hs hi hL
  have c1 : ce + 0 ≤ 601024 ∧ sl + 0 ≤ 7293034 := ⟨by omega, by omega⟩
  have c2 : ce + 0 + 0 ≤ 601024 ∧ sl + 0 + 0 ≤ 7293034 := ⟨by omega, by omega⟩
  obtain ⟨q, r, h1, h2, h3, h4⟩ := H A L S hI
  refine ⟨_, _, _, (ce + 0 + 0), (sl + 0 + 0), h4, by omega, by omega, ?_⟩
  unfold xf_law_17
  rw [if_pos c1, h1, Option.bind_some, if_pos c2, h2, Option.bind_some]
  rw [if_pos h3]
theorem wp_red_18 {sc : Nat × (Nat → Int32)} {n : Nat} {I : wp_A → wp_L → wp_A → Prop} (H : ∀ (A : wp_A) (L : wp_L) (S : wp_A) (x1 : Int32) (x2 : Int32), I A L S → ∃ q r, (xf_la_differs (A 49) (A 41) (S 33 1) (L 35) (A 34) (A 37) (A 36) (A 38) (A 40) (S 33 2) (A 39) (A 23) (S 15 1) (L 17) (A 16) (A 19) (A 18) (A 20) (A 22) (S 15 2) (A 21) 0 1 n (L 77) x1 x2) = some q ∧ (xf_rf_differs (A 73) (A 68) (A 66) (A 69) (A 67) (A 70) (A 71) (A 72) n (S 57 0) x1 x2) = some r ∧ (r.2 = q.1 ∧ (q.1 = (0 : Int32) → lg_cmp (q.2 ((0 : Int32)).toNatClampNeg) r.1.toInt64 = (0 : Int32))) ∧ I A (xy_l L 77 q.2) (xy_s S 57 0 r.2)) : wp_Ok sc I (xf_law_18 sc n) := by
  intro k A L S ce sl i hI hc hs hi hL
  have hin1 : xr_in (Int32.ofNat (4 * i) + 1) sc.1 = true := by
    rw [show Int32.ofNat (4 * i) + 1 = Int32.ofNat (4 * i + 1) from wp_add (b := 1)]
    exact wp_in (by omega) (by omega)
  have hin2 : xr_in (Int32.ofNat (4 * i) + 2) sc.1 = true := by
    rw [show Int32.ofNat (4 * i) + 2 = Int32.ofNat (4 * i + 2) from wp_add (b := 2)]
    exact wp_in (by omega) (by omega)
  have c1 : ce + 1 ≤ 601024 ∧ sl + 6 ≤ 7293034 := ⟨by omega, by omega⟩
  have c2 : ce + 1 + 0 ≤ 601024 ∧ sl + 6 + 0 ≤ 7293034 := ⟨by omega, by omega⟩
  have c3 : ce + 1 + 0 + 0 ≤ 601024 ∧ sl + 6 + 0 + 0 ≤ 7293034 := ⟨by omega, by omega⟩
  obtain ⟨q, r, h1, h2, h3, h4⟩ := H A L S (sc.2 (Int32.ofNat (4 * i) + 1).toNatClampNeg) (sc.2 (Int32.ofNat (4 * i) + 2).toNatClampNeg) hI
  refine ⟨_, _, _, (ce + 1 + 0 + 0), (sl + 6 + 0 + 0), h4, by omega, by omega, ?_⟩
  unfold xf_law_18
  rw [if_pos hin1, if_pos hin2, if_pos c1, h1, Option.bind_some, if_pos hin1, if_pos hin2, if_pos c2, h2, Option.bind_some, if_pos c3, xf_rf_thrown_s, Option.bind_some]
  rw [if_pos h3.1]
  by_cases h0 : q.1 = (0 : Int32)
  · rw [if_pos h0, if_pos (h3.2 h0)]
  · rw [if_neg h0]
theorem wp_red_19 {sc : Nat × (Nat → Int32)} {n : Nat} {I : wp_A → wp_L → wp_A → Prop} (H : ∀ (A : wp_A) (L : wp_L) (S : wp_A) (x1 : Int32), I A L S → ∃ q r, (xf_la_count (S 33 1) (S 5 0) (S 15 1) (S 1 1) 1 (L 77) x1) = some q ∧ (xf_rf_count (A 60) (A 66) (S 57 1) (S 57 0) x1) = some r ∧ (r.2 = q.1 ∧ (q.1 = (0 : Int32) → lg_cmp (q.2 ((0 : Int32)).toNatClampNeg) r.1.toInt64 = (0 : Int32))) ∧ I A (xy_l L 77 q.2) (xy_s S 57 0 r.2)) : wp_Ok sc I (xf_law_19 sc n) := by
  intro k A L S ce sl i hI hc hs hi hL
  have hin1 : xr_in (Int32.ofNat (4 * i) + 1) sc.1 = true := by
    rw [show Int32.ofNat (4 * i) + 1 = Int32.ofNat (4 * i + 1) from wp_add (b := 1)]
    exact wp_in (by omega) (by omega)
  have c1 : ce + 1 ≤ 601024 ∧ sl + 6 ≤ 7293034 := ⟨by omega, by omega⟩
  have c2 : ce + 1 + 0 ≤ 601024 ∧ sl + 6 + 0 ≤ 7293034 := ⟨by omega, by omega⟩
  have c3 : ce + 1 + 0 + 0 ≤ 601024 ∧ sl + 6 + 0 + 0 ≤ 7293034 := ⟨by omega, by omega⟩
  obtain ⟨q, r, h1, h2, h3, h4⟩ := H A L S (sc.2 (Int32.ofNat (4 * i) + 1).toNatClampNeg) hI
  refine ⟨_, _, _, (ce + 1 + 0 + 0), (sl + 6 + 0 + 0), h4, by omega, by omega, ?_⟩
  unfold xf_law_19
  rw [if_pos hin1, if_pos c1, h1, Option.bind_some, if_pos hin1, if_pos c2, h2, Option.bind_some, if_pos c3, xf_rf_thrown_s, Option.bind_some]
  rw [if_pos h3.1]
  by_cases h0 : q.1 = (0 : Int32)
  · rw [if_pos h0, if_pos (h3.2 h0)]
  · rw [if_neg h0]
