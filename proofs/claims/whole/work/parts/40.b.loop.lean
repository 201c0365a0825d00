/-- a case of the law that goes on: what holds is kept, 1 is not refused -/
def wp_Ok (sc : Nat × (Nat → Int32)) (I : wp_A → wp_L → wp_A → Prop) (f : wp_K → wp_K) : Prop :=
  ∀ (k : wp_K) (A : wp_A) (L : wp_L) (S : wp_A) (ce sl i : Nat), I A L S → ce ≤ 100000 → sl ≤ 1000000 → 4 * i + 4 ≤ sc.1 → sc.1 ≤ 2048 →
    ∃ (A' : wp_A) (L' : wp_L) (S' : wp_A) (ce' sl' : Nat), I A' L' S' ∧ ce' ≤ ce + 8 ∧ sl' ≤ sl + 48 ∧ f k A L S ce sl (Int32.ofNat (4 * i)) = k A' L' S' ce' sl' (Int32.ofNat (4 * i) + 4)
theorem wp_loop {sc : Nat × (Nat → Int32)} (hL : sc.1 ≤ 2048) {n : Nat} {I : wp_A → wp_L → wp_A → Prop} (h0 : wp_Ok sc I (xf_law_0 sc n)) (h1 : wp_Ok sc I (xf_law_1 sc n)) (h2 : wp_Ok sc I (xf_law_2 sc n)) (h3 : wp_Ok sc I (xf_law_3 sc n)) (h4 : wp_Ok sc I (xf_law_4 sc n)) (h5 : wp_Ok sc I (xf_law_5 sc n)) (h6 : wp_Ok sc I (xf_law_6 sc n)) (h7 : wp_Ok sc I (xf_law_7 sc n)) (h8 : wp_Ok sc I (xf_law_8 sc n)) (h9 : wp_Ok sc I (xf_law_9 sc n)) (h10 : wp_Ok sc I (xf_law_10 sc n)) (h11 : wp_Ok sc I (xf_law_11 sc n)) (h12 : wp_Ok sc I (xf_law_12 sc n)) (h13 : wp_Ok sc I (xf_law_13 sc n)) (h14 : wp_Ok sc I (xf_law_14 sc n)) (h15 : wp_Ok sc I (xf_law_15 sc n)) (h16 : wp_Ok sc I (xf_law_16 sc n)) (h17 : wp_Ok sc I (xf_law_17 sc n)) (h18 : wp_Ok sc I (xf_law_18 sc n)) (h19 : wp_Ok sc I (xf_law_19 sc n)) :
    ∀ (N i : Nat) (A : wp_A) (L : wp_L) (S : wp_A) (ce sl : Nat), I A L S → ce ≤ 78 + 8 * i → sl ≤ 42406 + 48 * i → i ≤ 512 → 513 ≤ N + i → xf_law sc n N A L S ce sl (Int32.ofNat (4 * i)) = some 1 := by
  intro N
  induction N with
  | zero => intro i A L S ce sl _ _ _ h1 h2; omega
  | succ N ih =>
    intro i A L S ce sl hI hc hs hi hN
    rw [wp_succ]
    by_cases hlt : (Int32.ofNat sc.1 - (4 : Int32)) < Int32.ofNat (4 * i)
    · rw [if_pos hlt]
    · have hle : 4 * i + 4 ≤ sc.1 := by
        have h1 : ¬ (Int32.ofNat sc.1 - (4 : Int32)).toInt < (Int32.ofNat (4 * i)).toInt := fun hh => hlt (Int32.lt_iff_toInt_lt.mpr hh)
        rw [wp_sub4 hL, wp_int (by omega)] at h1
        omega
      have hgo : ∀ {f : wp_K → wp_K}, wp_Ok sc I f → f (xf_law sc n N) A L S ce sl (Int32.ofNat (4 * i)) = some 1 := by
        intro f hf
        obtain ⟨A', L', S', ce', sl', hI', hc', hs', he⟩ := hf (xf_law sc n N) A L S ce sl i hI (by omega) (by omega) hle hL
        rw [he, show Int32.ofNat (4 * i) + 4 = Int32.ofNat (4 * (i + 1)) from wp_add (b := 4)]
        exact ih (i + 1) A' L' S' ce' sl' hI' (by omega) (by omega) (by omega) (by omega)
      rw [if_neg hlt, if_pos (wp_in (by omega) (by omega))]
      by_cases c0 : ((sc.2) (Int32.ofNat (4 * i)).toNatClampNeg) &&& (31 : Int32) = (0 : Int32)
      · rw [if_pos c0]; exact hgo h0
      rw [if_neg c0]
      by_cases c1 : ((sc.2) (Int32.ofNat (4 * i)).toNatClampNeg) &&& (31 : Int32) = (1 : Int32)
      · rw [if_pos c1]; exact hgo h1
      rw [if_neg c1]
      by_cases c2 : ((sc.2) (Int32.ofNat (4 * i)).toNatClampNeg) &&& (31 : Int32) = (2 : Int32)
      · rw [if_pos c2]; exact hgo h2
      rw [if_neg c2]
      by_cases c3 : ((sc.2) (Int32.ofNat (4 * i)).toNatClampNeg) &&& (31 : Int32) = (3 : Int32)
      · rw [if_pos c3]; exact hgo h3
      rw [if_neg c3]
      by_cases c4 : ((sc.2) (Int32.ofNat (4 * i)).toNatClampNeg) &&& (31 : Int32) = (4 : Int32)
      · rw [if_pos c4]; exact hgo h4
      rw [if_neg c4]
      by_cases c5 : ((sc.2) (Int32.ofNat (4 * i)).toNatClampNeg) &&& (31 : Int32) = (5 : Int32)
      · rw [if_pos c5]; exact hgo h5
      rw [if_neg c5]
      by_cases c6 : ((sc.2) (Int32.ofNat (4 * i)).toNatClampNeg) &&& (31 : Int32) = (6 : Int32)
      · rw [if_pos c6]; exact hgo h6
      rw [if_neg c6]
      by_cases c7 : ((sc.2) (Int32.ofNat (4 * i)).toNatClampNeg) &&& (31 : Int32) = (7 : Int32)
      · rw [if_pos c7]; exact hgo h7
      rw [if_neg c7]
      by_cases c8 : ((sc.2) (Int32.ofNat (4 * i)).toNatClampNeg) &&& (31 : Int32) = (8 : Int32)
      · rw [if_pos c8]; exact hgo h8
      rw [if_neg c8]
      by_cases c9 : ((sc.2) (Int32.ofNat (4 * i)).toNatClampNeg) &&& (31 : Int32) = (9 : Int32)
      · rw [if_pos c9]; exact hgo h9
      rw [if_neg c9]
      by_cases c10 : ((sc.2) (Int32.ofNat (4 * i)).toNatClampNeg) &&& (31 : Int32) = (10 : Int32)
      · rw [if_pos c10]; exact hgo h10
      rw [if_neg c10]
      by_cases c11 : ((sc.2) (Int32.ofNat (4 * i)).toNatClampNeg) &&& (31 : Int32) = (11 : Int32)
      · rw [if_pos c11]; exact hgo h11
      rw [if_neg c11]
      by_cases c12 : ((sc.2) (Int32.ofNat (4 * i)).toNatClampNeg) &&& (31 : Int32) = (12 : Int32)
      · rw [if_pos c12]; exact hgo h12
      rw [if_neg c12]
      by_cases c13 : ((sc.2) (Int32.ofNat (4 * i)).toNatClampNeg) &&& (31 : Int32) = (13 : Int32)
      · rw [if_pos c13]; exact hgo h13
      rw [if_neg c13]
      by_cases c14 : ((sc.2) (Int32.ofNat (4 * i)).toNatClampNeg) &&& (31 : Int32) = (14 : Int32)
      · rw [if_pos c14]; exact hgo h14
      rw [if_neg c14]
      by_cases c15 : ((sc.2) (Int32.ofNat (4 * i)).toNatClampNeg) &&& (31 : Int32) = (15 : Int32)
      · rw [if_pos c15]; exact hgo h15
      rw [if_neg c15]
      by_cases c16 : ((sc.2) (Int32.ofNat (4 * i)).toNatClampNeg) &&& (31 : Int32) = (16 : Int32)
      · rw [if_pos c16]; exact hgo h16
      rw [if_neg c16]
      by_cases c17 : ((sc.2) (Int32.ofNat (4 * i)).toNatClampNeg) &&& (31 : Int32) = (17 : Int32)
      · rw [if_pos c17]; exact hgo h17
      rw [if_neg c17]
      by_cases c18 : ((sc.2) (Int32.ofNat (4 * i)).toNatClampNeg) &&& (31 : Int32) = (18 : Int32)
      · rw [if_pos c18]; exact hgo h18
      rw [if_neg c18]
      by_cases c19 : ((sc.2) (Int32.ofNat (4 * i)).toNatClampNeg) &&& (31 : Int32) = (19 : Int32)
      · rw [if_pos c19]; exact hgo h19
      rw [if_neg c19]
      rw [show Int32.ofNat (4 * i) + 4 = Int32.ofNat (4 * (i + 1)) from wp_add (b := 4)]
      exact ih (i + 1) _ _ _ _ _ hI (by omega) (by omega) (by omega) (by omega)
