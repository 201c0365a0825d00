/-! THE PURE PART: the law's loop out of its cases. -/
abbrev wp_A : Type := Nat → Nat → Int32
abbrev wp_L : Type := Nat → Nat → Int64
abbrev wp_K : Type := wp_A → wp_L → wp_A → Nat → Nat → Int32 → Option Int32
theorem wp_succ (sc : Nat × (Nat → Int32)) (n N : Nat) (A : wp_A) (L : wp_L) (S : wp_A) (ce sl : Nat) (v4 : Int32) : xf_law sc n (N + 1) A L S ce sl v4 = (
    if ((Int32.ofNat sc.1) - ((4 : Int32))) < v4 then
      (some ((1 : Int32)))
    else
      if xr_in v4 sc.1 = true then
        (if (((sc.2) v4.toNatClampNeg) &&& ((31 : Int32))) = (0 : Int32) then
          (xf_law_0 sc n (xf_law sc n N) A L S ce sl v4)
        else
          if (((sc.2) v4.toNatClampNeg) &&& ((31 : Int32))) = (1 : Int32) then
            (xf_law_1 sc n (xf_law sc n N) A L S ce sl v4)
          else
            if (((sc.2) v4.toNatClampNeg) &&& ((31 : Int32))) = (2 : Int32) then
              (xf_law_2 sc n (xf_law sc n N) A L S ce sl v4)
            else
              if (((sc.2) v4.toNatClampNeg) &&& ((31 : Int32))) = (3 : Int32) then
                (xf_law_3 sc n (xf_law sc n N) A L S ce sl v4)
              else
                if (((sc.2) v4.toNatClampNeg) &&& ((31 : Int32))) = (4 : Int32) then
                  (xf_law_4 sc n (xf_law sc n N) A L S ce sl v4)
                else
                  if (((sc.2) v4.toNatClampNeg) &&& ((31 : Int32))) = (5 : Int32) then
                    (xf_law_5 sc n (xf_law sc n N) A L S ce sl v4)
                  else
                    if (((sc.2) v4.toNatClampNeg) &&& ((31 : Int32))) = (6 : Int32) then
                      (xf_law_6 sc n (xf_law sc n N) A L S ce sl v4)
                    else
                      if (((sc.2) v4.toNatClampNeg) &&& ((31 : Int32))) = (7 : Int32) then
                        (xf_law_7 sc n (xf_law sc n N) A L S ce sl v4)
                      else
                        if (((sc.2) v4.toNatClampNeg) &&& ((31 : Int32))) = (8 : Int32) then
                          (xf_law_8 sc n (xf_law sc n N) A L S ce sl v4)
                        else
                          if (((sc.2) v4.toNatClampNeg) &&& ((31 : Int32))) = (9 : Int32) then
                            (xf_law_9 sc n (xf_law sc n N) A L S ce sl v4)
                          else
                            if (((sc.2) v4.toNatClampNeg) &&& ((31 : Int32))) = (10 : Int32) then
                              (xf_law_10 sc n (xf_law sc n N) A L S ce sl v4)
                            else
                              if (((sc.2) v4.toNatClampNeg) &&& ((31 : Int32))) = (11 : Int32) then
                                (xf_law_11 sc n (xf_law sc n N) A L S ce sl v4)
                              else
                                if (((sc.2) v4.toNatClampNeg) &&& ((31 : Int32))) = (12 : Int32) then
                                  (xf_law_12 sc n (xf_law sc n N) A L S ce sl v4)
                                else
                                  if (((sc.2) v4.toNatClampNeg) &&& ((31 : Int32))) = (13 : Int32) then
                                    (xf_law_13 sc n (xf_law sc n N) A L S ce sl v4)
                                  else
                                    if (((sc.2) v4.toNatClampNeg) &&& ((31 : Int32))) = (14 : Int32) then
                                      (xf_law_14 sc n (xf_law sc n N) A L S ce sl v4)
                                    else
                                      if (((sc.2) v4.toNatClampNeg) &&& ((31 : Int32))) = (15 : Int32) then
                                        (xf_law_15 sc n (xf_law sc n N) A L S ce sl v4)
                                      else
                                        if (((sc.2) v4.toNatClampNeg) &&& ((31 : Int32))) = (16 : Int32) then
                                          (xf_law_16 sc n (xf_law sc n N) A L S ce sl v4)
                                        else
                                          if (((sc.2) v4.toNatClampNeg) &&& ((31 : Int32))) = (17 : Int32) then
                                            (xf_law_17 sc n (xf_law sc n N) A L S ce sl v4)
                                          else
                                            if (((sc.2) v4.toNatClampNeg) &&& ((31 : Int32))) = (18 : Int32) then
                                              (xf_law_18 sc n (xf_law sc n N) A L S ce sl v4)
                                            else
                                              if (((sc.2) v4.toNatClampNeg) &&& ((31 : Int32))) = (19 : Int32) then
                                                (xf_law_19 sc n (xf_law sc n N) A L S ce sl v4)
                                              else
                                                (xf_law sc n N) A L S (ce) (sl) (v4 + (4 : Int32)))
      else none) := rfl
theorem wp_int {a : Nat} (h : a < 2 ^ 31) : (Int32.ofNat a).toInt = a := Int32.toInt_ofNat_of_lt h
theorem wp_nat {a : Nat} (h : a < 2 ^ 31) : (Int32.ofNat a).toNatClampNeg = a := by
  have h1 := wp_int h
  have h2 : (Int32.ofNat a).toNatClampNeg = (Int32.ofNat a).toInt.toNat := rfl
  rw [h2, h1]
  rfl
theorem wp_add {a b : Nat} : Int32.ofNat a + Int32.ofNat b = Int32.ofNat (a + b) := (Int32.ofNat_add a b).symm
theorem wp_sub4 {a : Nat} (h : a ≤ 2048) : (Int32.ofNat a - 4).toInt = (a : Int) - 4 := by
  rw [Int32.toInt_sub, wp_int (by omega), show (4 : Int32).toInt = 4 from rfl]
  rw [Int.bmod_eq_of_le] <;> omega
theorem wp_in {a m : Nat} (h : a < m) (hm : a < 2 ^ 31) : xr_in (Int32.ofNat a) m = true := by
  unfold xr_in
  rw [Bool.and_eq_true, Bool.not_eq_true', decide_eq_false_iff_not, decide_eq_true_eq, wp_nat hm]
  refine ⟨fun hc => ?_, h⟩
  have := Int32.lt_iff_toInt_lt.mp hc
  rw [wp_int hm] at this
  have h0 : (0 : Int32).toInt = 0 := rfl
  omega
