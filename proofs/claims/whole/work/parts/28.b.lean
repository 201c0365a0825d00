def xf_law_0 (sc : Nat × (Nat → Int32)) (n : Nat) (k23 : (Nat → Nat → Int32) → (Nat → Nat → Int64) → (Nat → Nat → Int32) → Nat → Nat → Int32 → Option (Int32)) (A : Nat → Nat → Int32) (L : Nat → Nat → Int64) (S : Nat → Nat → Int32) (ce sl : Nat) (v4 : Int32) : Option (Int32) :=
  if xr_in (v4 + ((1 : Int32))) sc.1 = true then
    (if xr_in (v4 + ((2 : Int32))) sc.1 = true then
      (if (ce + 2 ≤ 601024 ∧ sl + 12 ≤ 7293034) then
        ((xf_la_say 1 n (S 1 2) (S 1 1) (A 2) (L 77) ((xe_shl (((sc.2) (v4 + ((1 : Int32))).toNatClampNeg).toInt64) ((32 : Int32))) ||| ((((sc.2) (v4 + ((2 : Int32))).toNatClampNeg).toInt64) &&& ((4294967295 : Int64))))).bind fun q6 =>
        if xr_in (v4 + ((1 : Int32))) sc.1 = true then
          (if xr_in (v4 + ((2 : Int32))) sc.1 = true then
            (if (ce + 2 + 0 ≤ 601024 ∧ sl + 12 + 0 ≤ 7293034) then
              ((xf_rf_say n (S 57 1) (A 58) (S 57 0) ((xe_shl (((sc.2) (v4 + ((1 : Int32))).toNatClampNeg).toInt64) ((32 : Int32))) ||| ((((sc.2) (v4 + ((2 : Int32))).toNatClampNeg).toInt64) &&& ((4294967295 : Int64))))).bind fun q10 =>
              if (ce + 2 + 0 + 0 ≤ 601024 ∧ sl + 12 + 0 + 0 ≤ 7293034) then
                ((xf_rf_thrown q10.2.2.2).bind fun q12 =>
                if q12 = q6.1 then
                  (if q6.1 = (0 : Int32) then
                    (if (lg_cmp (q6.2.2.2.2 ((0 : Int32)).toNatClampNeg) q10.1.toInt64) = (0 : Int32) then
                      (k23 (xy_a (xy_a A 58 q10.2.2.1) 2 q6.2.2.2.1) (xy_l L 77 q6.2.2.2.2) (xy_s (xy_s (xy_s (xy_s S 57 1 q10.2.1) 57 0 q10.2.2.2) 1 2 q6.2.1) 1 1 q6.2.2.1) (ce + 2 + 0 + 0) (sl + 12 + 0 + 0) (v4 + (4 : Int32)))
                    else
                      some ((0 : Int32)))
                  else
                    k23 (xy_a (xy_a A 58 q10.2.2.1) 2 q6.2.2.2.1) (xy_l L 77 q6.2.2.2.2) (xy_s (xy_s (xy_s (xy_s S 57 1 q10.2.1) 57 0 q10.2.2.2) 1 2 q6.2.1) 1 1 q6.2.2.1) (ce + 2 + 0 + 0) (sl + 12 + 0 + 0) (v4 + (4 : Int32)))
                else
                  some ((0 : Int32)))
              else none)
            else none)
          else none)
        else none)
      else none)
    else none)
  else none
def xf_law_1 (sc : Nat × (Nat → Int32)) (n : Nat) (k23 : (Nat → Nat → Int32) → (Nat → Nat → Int64) → (Nat → Nat → Int32) → Nat → Nat → Int32 → Option (Int32)) (A : Nat → Nat → Int32) (L : Nat → Nat → Int64) (S : Nat → Nat → Int32) (ce sl : Nat) (v4 : Int32) : Option (Int32) :=
  if xr_in (v4 + ((1 : Int32))) sc.1 = true then
    (if (ce + 1 ≤ 601024 ∧ sl + 6 ≤ 7293034) then
      ((xf_la_trim 1 (S 1 1) (L 77) ((sc.2) (v4 + ((1 : Int32))).toNatClampNeg)).bind fun q19 =>
      if xr_in (v4 + ((1 : Int32))) sc.1 = true then
        (if (ce + 1 + 0 ≤ 601024 ∧ sl + 6 + 0 ≤ 7293034) then
          ((xf_rf_trim (S 57 1) (S 57 0) ((sc.2) (v4 + ((1 : Int32))).toNatClampNeg)).bind fun q22 =>
          if (ce + 1 + 0 + 0 ≤ 601024 ∧ sl + 6 + 0 + 0 ≤ 7293034) then
            ((xf_rf_thrown q22.2.2).bind fun q24 =>
            if q24 = q19.1 then
              (if q19.1 = (0 : Int32) then
                (if (lg_cmp (q19.2.2 ((0 : Int32)).toNatClampNeg) q22.1.toInt64) = (0 : Int32) then
                  (k23 A (xy_l L 77 q19.2.2) (xy_s (xy_s (xy_s S 57 1 q22.2.1) 57 0 q22.2.2) 1 1 q19.2.1) (ce + 1 + 0 + 0) (sl + 6 + 0 + 0) (v4 + (4 : Int32)))
                else
                  some ((0 : Int32)))
              else
                k23 A (xy_l L 77 q19.2.2) (xy_s (xy_s (xy_s S 57 1 q22.2.1) 57 0 q22.2.2) 1 1 q19.2.1) (ce + 1 + 0 + 0) (sl + 6 + 0 + 0) (v4 + (4 : Int32)))
            else
              some ((0 : Int32)))
          else none)
        else none)
      else none)
    else none)
  else none
def xf_law_2 (sc : Nat × (Nat → Int32)) (n : Nat) (k23 : (Nat → Nat → Int32) → (Nat → Nat → Int64) → (Nat → Nat → Int32) → Nat → Nat → Int32 → Option (Int32)) (A : Nat → Nat → Int32) (L : Nat → Nat → Int64) (S : Nat → Nat → Int32) (ce sl : Nat) (v4 : Int32) : Option (Int32) :=
  if xr_in (v4 + ((1 : Int32))) sc.1 = true then
    (if (ce + 1 ≤ 601024 ∧ sl + 6 ≤ 7293034) then
      ((xf_la_charAt (S 1 1) (A 2) 1 (L 77) ((sc.2) (v4 + ((1 : Int32))).toNatClampNeg)).bind fun q31 =>
      if xr_in (v4 + ((1 : Int32))) sc.1 = true then
        (if (ce + 1 + 0 ≤ 601024 ∧ sl + 6 + 0 ≤ 7293034) then
          ((xf_rf_charAt (S 57 1) (A 58) (S 57 0) ((sc.2) (v4 + ((1 : Int32))).toNatClampNeg)).bind fun q34 =>
          if (ce + 1 + 0 + 0 ≤ 601024 ∧ sl + 6 + 0 + 0 ≤ 7293034) then
            ((xf_rf_thrown q34.2).bind fun q36 =>
            if q36 = q31.1 then
              (if q31.1 = (0 : Int32) then
                (if (lg_cmp (q31.2 ((0 : Int32)).toNatClampNeg) q34.1.toInt64) = (0 : Int32) then
                  (k23 A (xy_l L 77 q31.2) (xy_s S 57 0 q34.2) (ce + 1 + 0 + 0) (sl + 6 + 0 + 0) (v4 + (4 : Int32)))
                else
                  some ((0 : Int32)))
              else
                k23 A (xy_l L 77 q31.2) (xy_s S 57 0 q34.2) (ce + 1 + 0 + 0) (sl + 6 + 0 + 0) (v4 + (4 : Int32)))
            else
              some ((0 : Int32)))
          else none)
        else none)
      else none)
    else none)
  else none
def xf_law_3 (sc : Nat × (Nat → Int32)) (n : Nat) (k23 : (Nat → Nat → Int32) → (Nat → Nat → Int64) → (Nat → Nat → Int32) → Nat → Nat → Int32 → Option (Int32)) (A : Nat → Nat → Int32) (L : Nat → Nat → Int64) (S : Nat → Nat → Int32) (ce sl : Nat) (v4 : Int32) : Option (Int32) :=
  if (ce + 0 ≤ 601024 ∧ sl + 0 ≤ 7293034) then
    ((xf_xt_schema (A 2) n (A 9) (L 6) (A 7) (A 8) (S 5 0) (A 51) (A 54) (A 52) (A 53) (S 50 6) (S 50 5) (A 14) (L 11) (A 12) (A 13) (S 10 0) (S 1 2) (S 1 1)).bind fun q42 =>
    if (ce + 0 + 0 ≤ 601024 ∧ sl + 0 + 0 ≤ 7293034) then
      ((xf_rf_schema (A 58) n (S 57 18) (S 57 19) (S 57 20) (A 61) (A 65) (A 62) (A 63) (A 64) (A 60) (S 57 1) (S 57 0)).bind fun q44 =>
      if q42.1 = q44.1 then
        (k23 (xy_a (xy_a (xy_a (xy_a (xy_a (xy_a (xy_a (xy_a (xy_a (xy_a (xy_a (xy_a (xy_a (xy_a (xy_a (xy_a A 61 q44.2.2.2.2.1) 65 q44.2.2.2.2.2.1) 62 q44.2.2.2.2.2.2.1) 63 q44.2.2.2.2.2.2.2.1) 64 q44.2.2.2.2.2.2.2.2.1) 60 q44.2.2.2.2.2.2.2.2.2.1) 9 q42.2.1) 7 q42.2.2.2.1) 8 q42.2.2.2.2.1) 51 q42.2.2.2.2.2.2.1) 54 q42.2.2.2.2.2.2.2.1) 52 q42.2.2.2.2.2.2.2.2.1) 53 q42.2.2.2.2.2.2.2.2.2.1) 14 q42.2.2.2.2.2.2.2.2.2.2.2.2.1) 12 q42.2.2.2.2.2.2.2.2.2.2.2.2.2.2.1) 13 q42.2.2.2.2.2.2.2.2.2.2.2.2.2.2.2.1) (xy_l (xy_l L 6 q42.2.2.1) 11 q42.2.2.2.2.2.2.2.2.2.2.2.2.2.1) (xy_s (xy_s (xy_s (xy_s (xy_s (xy_s (xy_s (xy_s (xy_s (xy_s (xy_s S 57 18 q44.2.1) 57 19 q44.2.2.1) 57 20 q44.2.2.2.1) 57 1 q44.2.2.2.2.2.2.2.2.2.2.1) 57 0 q44.2.2.2.2.2.2.2.2.2.2.2) 5 0 q42.2.2.2.2.2.1) 50 6 q42.2.2.2.2.2.2.2.2.2.2.1) 50 5 q42.2.2.2.2.2.2.2.2.2.2.2.1) 10 0 q42.2.2.2.2.2.2.2.2.2.2.2.2.2.2.2.2.1) 1 2 q42.2.2.2.2.2.2.2.2.2.2.2.2.2.2.2.2.2.1) 1 1 q42.2.2.2.2.2.2.2.2.2.2.2.2.2.2.2.2.2.2) (ce + 0 + 0) (sl + 0 + 0) (v4 + (4 : Int32)))
      else
        some ((0 : Int32)))
    else none)
  else none
def xf_law_4 (sc : Nat × (Nat → Int32)) (n : Nat) (k23 : (Nat → Nat → Int32) → (Nat → Nat → Int64) → (Nat → Nat → Int32) → Nat → Nat → Int32 → Option (Int32)) (A : Nat → Nat → Int32) (L : Nat → Nat → Int64) (S : Nat → Nat → Int32) (ce sl : Nat) (v4 : Int32) : Option (Int32) :=
  if (ce + 0 ≤ 601024 ∧ sl + 0 ≤ 7293034) then
    ((xf_xt_read (A 2) n (A 45) (L 43) (S 42 5) (L 44) (A 23) (S 15 1) (L 17) (A 16) (A 19) (S 15 0) (A 18) (A 20) (A 22) (S 15 2) (A 21) (A 51) (A 54) (A 52) (A 53) (S 50 6) (S 50 5) (A 32) (S 24 1) (L 26) (A 25) (A 28) (S 24 0) (A 27) (A 29) (A 31) (S 24 2) (A 30) (S 1 2) (S 1 1)).bind fun q48 =>
    if (ce + 0 + 0 ≤ 601024 ∧ sl + 0 + 0 ≤ 7293034) then
      ((xf_rf_read (A 58) n (S 57 18) (S 57 19) (S 57 20) (A 73) (A 68) (A 66) (A 69) (A 67) (A 70) (S 57 1) (A 71) (S 57 0) (A 72)).bind fun q50 =>
      if q48.1 = q50.1 then
        (k23 (xy_a (xy_a (xy_a (xy_a (xy_a (xy_a (xy_a (xy_a (xy_a (xy_a (xy_a (xy_a (xy_a (xy_a (xy_a (xy_a (xy_a (xy_a (xy_a (xy_a (xy_a (xy_a (xy_a (xy_a (xy_a (xy_a (xy_a A 73 q50.2.2.2.2.1) 68 q50.2.2.2.2.2.1) 66 q50.2.2.2.2.2.2.1) 69 q50.2.2.2.2.2.2.2.1) 67 q50.2.2.2.2.2.2.2.2.1) 70 q50.2.2.2.2.2.2.2.2.2.1) 71 q50.2.2.2.2.2.2.2.2.2.2.2.1) 72 q50.2.2.2.2.2.2.2.2.2.2.2.2.2) 45 q48.2.1) 23 q48.2.2.2.2.2.1) 16 q48.2.2.2.2.2.2.2.2.1) 19 q48.2.2.2.2.2.2.2.2.2.1) 18 q48.2.2.2.2.2.2.2.2.2.2.2.1) 20 q48.2.2.2.2.2.2.2.2.2.2.2.2.1) 22 q48.2.2.2.2.2.2.2.2.2.2.2.2.2.1) 21 q48.2.2.2.2.2.2.2.2.2.2.2.2.2.2.2.1) 51 q48.2.2.2.2.2.2.2.2.2.2.2.2.2.2.2.2.1) 54 q48.2.2.2.2.2.2.2.2.2.2.2.2.2.2.2.2.2.1) 52 q48.2.2.2.2.2.2.2.2.2.2.2.2.2.2.2.2.2.2.1) 53 q48.2.2.2.2.2.2.2.2.2.2.2.2.2.2.2.2.2.2.2.1) 32 q48.2.2.2.2.2.2.2.2.2.2.2.2.2.2.2.2.2.2.2.2.2.2.1) 25 q48.2.2.2.2.2.2.2.2.2.2.2.2.2.2.2.2.2.2.2.2.2.2.2.2.2.1) 28 q48.2.2.2.2.2.2.2.2.2.2.2.2.2.2.2.2.2.2.2.2.2.2.2.2.2.2.1) 27 q48.2.2.2.2.2.2.2.2.2.2.2.2.2.2.2.2.2.2.2.2.2.2.2.2.2.2.2.2.1) 29 q48.2.2.2.2.2.2.2.2.2.2.2.2.2.2.2.2.2.2.2.2.2.2.2.2.2.2.2.2.2.1) 31 q48.2.2.2.2.2.2.2.2.2.2.2.2.2.2.2.2.2.2.2.2.2.2.2.2.2.2.2.2.2.2.1) 30 q48.2.2.2.2.2.2.2.2.2.2.2.2.2.2.2.2.2.2.2.2.2.2.2.2.2.2.2.2.2.2.2.2.1) (xy_l (xy_l (xy_l (xy_l L 43 q48.2.2.1) 44 q48.2.2.2.2.1) 17 q48.2.2.2.2.2.2.2.1) 26 q48.2.2.2.2.2.2.2.2.2.2.2.2.2.2.2.2.2.2.2.2.2.2.2.2.1) (xy_s (xy_s (xy_s (xy_s (xy_s (xy_s (xy_s (xy_s (xy_s (xy_s (xy_s (xy_s (xy_s (xy_s (xy_s (xy_s S 57 18 q50.2.1) 57 19 q50.2.2.1) 57 20 q50.2.2.2.1) 57 1 q50.2.2.2.2.2.2.2.2.2.2.1) 57 0 q50.2.2.2.2.2.2.2.2.2.2.2.2.1) 42 5 q48.2.2.2.1) 15 1 q48.2.2.2.2.2.2.1) 15 0 q48.2.2.2.2.2.2.2.2.2.2.1) 15 2 q48.2.2.2.2.2.2.2.2.2.2.2.2.2.2.1) 50 6 q48.2.2.2.2.2.2.2.2.2.2.2.2.2.2.2.2.2.2.2.2.1) 50 5 q48.2.2.2.2.2.2.2.2.2.2.2.2.2.2.2.2.2.2.2.2.2.1) 24 1 q48.2.2.2.2.2.2.2.2.2.2.2.2.2.2.2.2.2.2.2.2.2.2.2.1) 24 0 q48.2.2.2.2.2.2.2.2.2.2.2.2.2.2.2.2.2.2.2.2.2.2.2.2.2.2.2.1) 24 2 q48.2.2.2.2.2.2.2.2.2.2.2.2.2.2.2.2.2.2.2.2.2.2.2.2.2.2.2.2.2.2.2.1) 1 2 q48.2.2.2.2.2.2.2.2.2.2.2.2.2.2.2.2.2.2.2.2.2.2.2.2.2.2.2.2.2.2.2.2.2.1) 1 1 q48.2.2.2.2.2.2.2.2.2.2.2.2.2.2.2.2.2.2.2.2.2.2.2.2.2.2.2.2.2.2.2.2.2.2) (ce + 0 + 0) (sl + 0 + 0) (v4 + (4 : Int32)))
      else
        some ((0 : Int32)))
    else none)
  else none
def xf_law_5 (sc : Nat × (Nat → Int32)) (n : Nat) (k23 : (Nat → Nat → Int32) → (Nat → Nat → Int64) → (Nat → Nat → Int32) → Nat → Nat → Int32 → Option (Int32)) (A : Nat → Nat → Int32) (L : Nat → Nat → Int64) (S : Nat → Nat → Int32) (ce sl : Nat) (v4 : Int32) : Option (Int32) :=
  if (ce + 0 ≤ 601024 ∧ sl + 0 ≤ 7293034) then
    ((xf_xt_write (A 23) (S 15 1) (L 17) (A 16) (A 19) (A 18) (A 20) (A 22) (S 15 2) (A 21) n (S 3 2) (S 3 1) (A 4) (S 1 2) (S 1 1) (A 2)).bind fun q54 =>
    if (ce + 0 + 0 ≤ 601024 ∧ sl + 0 + 0 ≤ 7293034) then
      ((xf_rf_write (A 73) (A 68) (A 66) (A 69) (A 67) (A 70) (A 71) (A 72) n (A 59) (S 57 1) (A 58) (S 57 0) (S 57 24)).bind fun q56 =>
      if q54.1 = q56.1 then
        (k23 (xy_a (xy_a (xy_a (xy_a A 59 q56.2.1) 58 q56.2.2.2.1) 4 q54.2.2.2.1) 2 q54.2.2.2.2.2.2) L (xy_s (xy_s (xy_s (xy_s (xy_s (xy_s (xy_s S 57 1 q56.2.2.1) 57 0 q56.2.2.2.2.1) 57 24 q56.2.2.2.2.2) 3 2 q54.2.1) 3 1 q54.2.2.1) 1 2 q54.2.2.2.2.1) 1 1 q54.2.2.2.2.2.1) (ce + 0 + 0) (sl + 0 + 0) (v4 + (4 : Int32)))
      else
        some ((0 : Int32)))
    else none)
  else none
def xf_law_6 (sc : Nat × (Nat → Int32)) (n : Nat) (k23 : (Nat → Nat → Int32) → (Nat → Nat → Int64) → (Nat → Nat → Int32) → Nat → Nat → Int32 → Option (Int32)) (A : Nat → Nat → Int32) (L : Nat → Nat → Int64) (S : Nat → Nat → Int32) (ce sl : Nat) (v4 : Int32) : Option (Int32) :=
  if (ce + 0 ≤ 601024 ∧ sl + 0 ≤ 7293034) then
    ((xf_xt_keep (A 23) (S 15 1) (L 17) (A 16) (A 19) (S 15 0) (A 18) (A 20) (A 22) (S 15 2) (A 21) (A 41) (S 33 1) (L 35) (A 34) (A 37) (S 33 0) (A 36) (A 38) (A 40) (S 33 2) (A 39)).bind fun q60 =>
    if (ce + 0 + 0 ≤ 601024 ∧ sl + 0 + 0 ≤ 7293034) then
      ((xf_rf_keep n (A 73) (A 68) (A 66) (A 69) (A 67) (A 70) (A 71) (S 57 0) (A 72)).bind fun q62 =>
      if q60.1 = q62.1 then
        (k23 (xy_a (xy_a (xy_a (xy_a (xy_a (xy_a (xy_a (xy_a (xy_a (xy_a (xy_a (xy_a (xy_a (xy_a (xy_a A 73 q62.2.1) 68 q62.2.2.1) 66 q62.2.2.2.1) 69 q62.2.2.2.2.1) 67 q62.2.2.2.2.2.1) 70 q62.2.2.2.2.2.2.1) 71 q62.2.2.2.2.2.2.2.1) 72 q62.2.2.2.2.2.2.2.2.2) 41 q60.2.1) 34 q60.2.2.2.2.1) 37 q60.2.2.2.2.2.1) 36 q60.2.2.2.2.2.2.2.1) 38 q60.2.2.2.2.2.2.2.2.1) 40 q60.2.2.2.2.2.2.2.2.2.1) 39 q60.2.2.2.2.2.2.2.2.2.2.2) (xy_l L 35 q60.2.2.2.1) (xy_s (xy_s (xy_s (xy_s S 57 0 q62.2.2.2.2.2.2.2.2.1) 33 1 q60.2.2.1) 33 0 q60.2.2.2.2.2.2.1) 33 2 q60.2.2.2.2.2.2.2.2.2.2.1) (ce + 0 + 0) (sl + 0 + 0) (v4 + (4 : Int32)))
      else
        some ((0 : Int32)))
    else none)
  else none
def xf_law_7 (sc : Nat × (Nat → Int32)) (n : Nat) (k23 : (Nat → Nat → Int32) → (Nat → Nat → Int64) → (Nat → Nat → Int32) → Nat → Nat → Int32 → Option (Int32)) (A : Nat → Nat → Int32) (L : Nat → Nat → Int64) (S : Nat → Nat → Int32) (ce sl : Nat) (v4 : Int32) : Option (Int32) :=
  if xr_in (v4 + ((1 : Int32))) sc.1 = true then
    (if (ce + 1 ≤ 601024 ∧ sl + 6 ≤ 7293034) then
      ((xf_la_line (S 15 1) (A 16) (A 19) 1 (L 77) ((sc.2) (v4 + ((1 : Int32))).toNatClampNeg)).bind fun q67 =>
      if xr_in (v4 + ((1 : Int32))) sc.1 = true then
        (if (ce + 1 + 0 ≤ 601024 ∧ sl + 6 + 0 ≤ 7293034) then
          ((xf_rf_line (A 66) (A 67) (S 57 0) ((sc.2) (v4 + ((1 : Int32))).toNatClampNeg)).bind fun q70 =>
          if (ce + 1 + 0 + 0 ≤ 601024 ∧ sl + 6 + 0 + 0 ≤ 7293034) then
            ((xf_rf_thrown q70.2).bind fun q72 =>
            if q72 = q67.1 then
              (if q67.1 = (0 : Int32) then
                (if (lg_cmp (q67.2 ((0 : Int32)).toNatClampNeg) q70.1.toInt64) = (0 : Int32) then
                  (k23 A (xy_l L 77 q67.2) (xy_s S 57 0 q70.2) (ce + 1 + 0 + 0) (sl + 6 + 0 + 0) (v4 + (4 : Int32)))
                else
                  some ((0 : Int32)))
              else
                k23 A (xy_l L 77 q67.2) (xy_s S 57 0 q70.2) (ce + 1 + 0 + 0) (sl + 6 + 0 + 0) (v4 + (4 : Int32)))
            else
              some ((0 : Int32)))
          else none)
        else none)
      else none)
    else none)
  else none
def xf_law_8 (sc : Nat × (Nat → Int32)) (n : Nat) (k23 : (Nat → Nat → Int32) → (Nat → Nat → Int64) → (Nat → Nat → Int32) → Nat → Nat → Int32 → Option (Int32)) (A : Nat → Nat → Int32) (L : Nat → Nat → Int64) (S : Nat → Nat → Int32) (ce sl : Nat) (v4 : Int32) : Option (Int32) :=
  if xr_in (v4 + ((1 : Int32))) sc.1 = true then
    (if xr_in (v4 + ((2 : Int32))) sc.1 = true then
      (if (ce + 2 ≤ 601024 ∧ sl + 12 ≤ 7293034) then
        ((xf_la_told (A 45) (L 6) (S 5 0) (S 15 1) (L 17) (A 16) (A 19) (A 18) (A 20) (A 21) 1 n (L 77) ((sc.2) (v4 + ((1 : Int32))).toNatClampNeg) ((sc.2) (v4 + ((2 : Int32))).toNatClampNeg)).bind fun q80 =>
        if xr_in (v4 + ((1 : Int32))) sc.1 = true then
          (if xr_in (v4 + ((2 : Int32))) sc.1 = true then
            (if (ce + 2 + 0 ≤ 601024 ∧ sl + 12 + 0 ≤ 7293034) then
              ((xf_rf_told (A 73) (A 61) (A 62) (A 60) (A 68) (A 66) (A 69) (A 67) (A 70) (A 71) (A 72) n (A 74) (S 57 0) (L 76) ((sc.2) (v4 + ((1 : Int32))).toNatClampNeg) ((sc.2) (v4 + ((2 : Int32))).toNatClampNeg)).bind fun q84 =>
              if (ce + 2 + 0 + 0 ≤ 601024 ∧ sl + 12 + 0 + 0 ≤ 7293034) then
                ((xf_rf_thrown q84.2.2.1).bind fun q86 =>
                if q86 = q80.1 then
                  (if q80.1 = (0 : Int32) then
                    (if (lg_cmp (q80.2 ((0 : Int32)).toNatClampNeg) q84.1.toInt64) = (0 : Int32) then
                      (k23 (xy_a A 74 q84.2.1) (xy_l (xy_l L 76 q84.2.2.2) 77 q80.2) (xy_s S 57 0 q84.2.2.1) (ce + 2 + 0 + 0) (sl + 12 + 0 + 0) (v4 + (4 : Int32)))
                    else
                      some ((0 : Int32)))
                  else
                    k23 (xy_a A 74 q84.2.1) (xy_l (xy_l L 76 q84.2.2.2) 77 q80.2) (xy_s S 57 0 q84.2.2.1) (ce + 2 + 0 + 0) (sl + 12 + 0 + 0) (v4 + (4 : Int32)))
                else
                  some ((0 : Int32)))
              else none)
            else none)
          else none)
        else none)
      else none)
    else none)
  else none
def xf_law_9 (sc : Nat × (Nat → Int32)) (n : Nat) (k23 : (Nat → Nat → Int32) → (Nat → Nat → Int64) → (Nat → Nat → Int32) → Nat → Nat → Int32 → Option (Int32)) (A : Nat → Nat → Int32) (L : Nat → Nat → Int64) (S : Nat → Nat → Int32) (ce sl : Nat) (v4 : Int32) : Option (Int32) :=
  if xr_in (v4 + ((1 : Int32))) sc.1 = true then
    (if xr_in (v4 + ((2 : Int32))) sc.1 = true then
      (if xr_in (v4 + ((3 : Int32))) sc.1 = true then
        (if (ce + 3 ≤ 601024 ∧ sl + 18 ≤ 7293034) then
          ((xf_la_argument (S 15 1) (A 16) (A 19) (A 18) (A 20) (A 21) 1 n (L 77) ((sc.2) (v4 + ((1 : Int32))).toNatClampNeg) ((sc.2) (v4 + ((2 : Int32))).toNatClampNeg) ((sc.2) (v4 + ((3 : Int32))).toNatClampNeg)).bind fun q95 =>
          if xr_in (v4 + ((1 : Int32))) sc.1 = true then
            (if xr_in (v4 + ((2 : Int32))) sc.1 = true then
              (if xr_in (v4 + ((3 : Int32))) sc.1 = true then
                (if (ce + 3 + 0 ≤ 601024 ∧ sl + 18 + 0 ≤ 7293034) then
                  ((xf_rf_argument3 (A 66) (A 67) (A 70) (A 71) (A 72) n (S 57 0) ((sc.2) (v4 + ((1 : Int32))).toNatClampNeg) ((sc.2) (v4 + ((2 : Int32))).toNatClampNeg) ((sc.2) (v4 + ((3 : Int32))).toNatClampNeg)).bind fun q100 =>
                  if (ce + 3 + 0 + 0 ≤ 601024 ∧ sl + 18 + 0 + 0 ≤ 7293034) then
                    ((xf_rf_thrown q100.2).bind fun q102 =>
                    if q102 = q95.1 then
                      (if q95.1 = (0 : Int32) then
                        (if (lg_cmp (q95.2 ((0 : Int32)).toNatClampNeg) q100.1.toInt64) = (0 : Int32) then
                          (k23 A (xy_l L 77 q95.2) (xy_s S 57 0 q100.2) (ce + 3 + 0 + 0) (sl + 18 + 0 + 0) (v4 + (4 : Int32)))
                        else
                          some ((0 : Int32)))
                      else
                        k23 A (xy_l L 77 q95.2) (xy_s S 57 0 q100.2) (ce + 3 + 0 + 0) (sl + 18 + 0 + 0) (v4 + (4 : Int32)))
                    else
                      some ((0 : Int32)))
                  else none)
                else none)
              else none)
            else none)
          else none)
        else none)
      else none)
    else none)
  else none
def xf_law_10 (sc : Nat × (Nat → Int32)) (n : Nat) (k23 : (Nat → Nat → Int32) → (Nat → Nat → Int64) → (Nat → Nat → Int32) → Nat → Nat → Int32 → Option (Int32)) (A : Nat → Nat → Int32) (L : Nat → Nat → Int64) (S : Nat → Nat → Int32) (ce sl : Nat) (v4 : Int32) : Option (Int32) :=
  if xr_in (v4 + ((1 : Int32))) sc.1 = true then
    (if xr_in (v4 + ((2 : Int32))) sc.1 = true then
      (if xr_in (v4 + ((3 : Int32))) sc.1 = true then
        (if (ce + 3 ≤ 601024 ∧ sl + 18 ≤ 7293034) then
          ((xf_la_item (A 23) (S 15 1) (A 16) (A 19) (A 18) (A 20) (A 22) (S 15 2) (A 21) 1 n (L 77) ((sc.2) (v4 + ((1 : Int32))).toNatClampNeg) ((sc.2) (v4 + ((2 : Int32))).toNatClampNeg) ((sc.2) (v4 + ((3 : Int32))).toNatClampNeg)).bind fun q111 =>
          if xr_in (v4 + ((1 : Int32))) sc.1 = true then
            (if xr_in (v4 + ((2 : Int32))) sc.1 = true then
              (if xr_in (v4 + ((3 : Int32))) sc.1 = true then
                (if (ce + 3 + 0 ≤ 601024 ∧ sl + 18 + 0 ≤ 7293034) then
                  ((xf_rf_item (A 73) (A 66) (A 67) (A 70) (A 71) (A 72) n (S 57 0) ((sc.2) (v4 + ((1 : Int32))).toNatClampNeg) ((sc.2) (v4 + ((2 : Int32))).toNatClampNeg) ((sc.2) (v4 + ((3 : Int32))).toNatClampNeg)).bind fun q116 =>
                  if (ce + 3 + 0 + 0 ≤ 601024 ∧ sl + 18 + 0 + 0 ≤ 7293034) then
                    ((xf_rf_thrown q116.2).bind fun q118 =>
                    if q118 = q111.1 then
                      (if q111.1 = (0 : Int32) then
                        (if (lg_cmp (q111.2 ((0 : Int32)).toNatClampNeg) q116.1.toInt64) = (0 : Int32) then
                          (k23 A (xy_l L 77 q111.2) (xy_s S 57 0 q116.2) (ce + 3 + 0 + 0) (sl + 18 + 0 + 0) (v4 + (4 : Int32)))
                        else
                          some ((0 : Int32)))
                      else
                        k23 A (xy_l L 77 q111.2) (xy_s S 57 0 q116.2) (ce + 3 + 0 + 0) (sl + 18 + 0 + 0) (v4 + (4 : Int32)))
                    else
                      some ((0 : Int32)))
                  else none)
                else none)
              else none)
            else none)
          else none)
        else none)
      else none)
    else none)
  else none
def xf_law_11 (sc : Nat × (Nat → Int32)) (n : Nat) (k23 : (Nat → Nat → Int32) → (Nat → Nat → Int64) → (Nat → Nat → Int32) → Nat → Nat → Int32 → Option (Int32)) (A : Nat → Nat → Int32) (L : Nat → Nat → Int64) (S : Nat → Nat → Int32) (ce sl : Nat) (v4 : Int32) : Option (Int32) :=
  if xr_in (v4 + ((1 : Int32))) sc.1 = true then
    (if xr_in (v4 + ((2 : Int32))) sc.1 = true then
      (if xr_in (v4 + ((3 : Int32))) sc.1 = true then
        (if (ce + 4 ≤ 601024 ∧ sl + 24 ≤ 7293034) then
          ((xf_la_set (S 15 1) (A 16) (A 19) (A 18) (A 20) 1 n (S 42 5) (A 21) (L 77) ((sc.2) (v4 + ((1 : Int32))).toNatClampNeg) ((sc.2) (v4 + ((2 : Int32))).toNatClampNeg) ((sc.2) (v4 + ((3 : Int32))).toNatClampNeg)).bind fun q127 =>
          if xr_in (v4 + ((1 : Int32))) sc.1 = true then
            (if xr_in (v4 + ((2 : Int32))) sc.1 = true then
              (if xr_in (v4 + ((3 : Int32))) sc.1 = true then
                (if (ce + 4 + 0 ≤ 601024 ∧ sl + 24 + 0 ≤ 7293034) then
                  ((xf_rf_set (A 66) (A 67) (A 70) (A 71) n (S 57 0) (A 72) ((sc.2) (v4 + ((1 : Int32))).toNatClampNeg) ((sc.2) (v4 + ((2 : Int32))).toNatClampNeg) ((sc.2) (v4 + ((3 : Int32))).toNatClampNeg)).bind fun q132 =>
                  if (ce + 4 + 0 + 0 ≤ 601024 ∧ sl + 24 + 0 + 0 ≤ 7293034) then
                    ((xf_rf_thrown q132.2.1).bind fun q134 =>
                    if q134 = q127.1 then
                      (if q127.1 = (0 : Int32) then
                        (if (lg_cmp (q127.2.2.2 ((0 : Int32)).toNatClampNeg) q132.1.toInt64) = (0 : Int32) then
                          (k23 (xy_a (xy_a A 72 q132.2.2) 21 q127.2.2.1) (xy_l L 77 q127.2.2.2) (xy_s (xy_s S 57 0 q132.2.1) 42 5 q127.2.1) (ce + 4 + 0 + 0) (sl + 24 + 0 + 0) (v4 + (4 : Int32)))
                        else
                          some ((0 : Int32)))
                      else
                        k23 (xy_a (xy_a A 72 q132.2.2) 21 q127.2.2.1) (xy_l L 77 q127.2.2.2) (xy_s (xy_s S 57 0 q132.2.1) 42 5 q127.2.1) (ce + 4 + 0 + 0) (sl + 24 + 0 + 0) (v4 + (4 : Int32)))
                    else
                      some ((0 : Int32)))
                  else none)
                else none)
              else none)
            else none)
          else none)
        else none)
      else none)
    else none)
  else none
def xf_law_12 (sc : Nat × (Nat → Int32)) (n : Nat) (k23 : (Nat → Nat → Int32) → (Nat → Nat → Int64) → (Nat → Nat → Int32) → Nat → Nat → Int32 → Option (Int32)) (A : Nat → Nat → Int32) (L : Nat → Nat → Int64) (S : Nat → Nat → Int32) (ce sl : Nat) (v4 : Int32) : Option (Int32) :=
  if xr_in (v4 + ((1 : Int32))) sc.1 = true then
    (if xr_in (v4 + ((2 : Int32))) sc.1 = true then
      (if (ce + 1 ≤ 601024 ∧ sl + 6 ≤ 7293034) then
        ((xf_la_wrong (A 9) (L 6) (A 7) (A 8) (S 5 0) (S 15 1) (L 17) (A 16) (A 19) (A 18) (A 20) (A 21) 1 n (L 77) ((sc.2) (v4 + ((1 : Int32))).toNatClampNeg) ((sc.2) (v4 + ((2 : Int32))).toNatClampNeg)).bind fun q142 =>
        if xr_in (v4 + ((1 : Int32))) sc.1 = true then
          (if xr_in (v4 + ((2 : Int32))) sc.1 = true then
            (if (ce + 1 + 0 ≤ 601024 ∧ sl + 6 + 0 ≤ 7293034) then
              ((xf_rf_wrong (A 61) (A 65) (A 62) (A 63) (A 64) (A 60) (A 68) (A 66) (A 69) (A 67) (A 70) (A 71) (A 72) n (S 57 0) ((sc.2) (v4 + ((1 : Int32))).toNatClampNeg) ((sc.2) (v4 + ((2 : Int32))).toNatClampNeg)).bind fun q146 =>
              if (ce + 1 + 0 + 0 ≤ 601024 ∧ sl + 6 + 0 + 0 ≤ 7293034) then
                ((xf_rf_thrown q146.2).bind fun q148 =>
                if q148 = q142.1 then
                  (if q142.1 = (0 : Int32) then
                    (if (lg_cmp (q142.2 ((0 : Int32)).toNatClampNeg) q146.1.toInt64) = (0 : Int32) then
                      (k23 A (xy_l L 77 q142.2) (xy_s S 57 0 q146.2) (ce + 1 + 0 + 0) (sl + 6 + 0 + 0) (v4 + (4 : Int32)))
                    else
                      some ((0 : Int32)))
                  else
                    k23 A (xy_l L 77 q142.2) (xy_s S 57 0 q146.2) (ce + 1 + 0 + 0) (sl + 6 + 0 + 0) (v4 + (4 : Int32)))
                else
                  some ((0 : Int32)))
              else none)
            else none)
          else none)
        else none)
      else none)
    else none)
  else none
def xf_law_13 (sc : Nat × (Nat → Int32)) (n : Nat) (k23 : (Nat → Nat → Int32) → (Nat → Nat → Int64) → (Nat → Nat → Int32) → Nat → Nat → Int32 → Option (Int32)) (A : Nat → Nat → Int32) (L : Nat → Nat → Int64) (S : Nat → Nat → Int32) (ce sl : Nat) (v4 : Int32) : Option (Int32) :=
  if xr_in (v4 + ((1 : Int32))) sc.1 = true then
    (if xr_in (v4 + ((2 : Int32))) sc.1 = true then
      (if (ce + 2 ≤ 601024 ∧ sl + 12 ≤ 7293034) then
        ((xf_la_from (L 43) (S 15 1) (A 16) (A 19) 1 n (L 77) ((sc.2) (v4 + ((1 : Int32))).toNatClampNeg) ((sc.2) (v4 + ((2 : Int32))).toNatClampNeg)).bind fun q156 =>
        if xr_in (v4 + ((1 : Int32))) sc.1 = true then
          (if xr_in (v4 + ((2 : Int32))) sc.1 = true then
            (if (ce + 2 + 0 ≤ 601024 ∧ sl + 12 + 0 ≤ 7293034) then
              ((xf_rf_from (A 73) (A 66) (A 67) (A 70) (A 71) (A 72) n (S 57 0) (L 76) ((sc.2) (v4 + ((1 : Int32))).toNatClampNeg) ((sc.2) (v4 + ((2 : Int32))).toNatClampNeg)).bind fun q160 =>
              if (ce + 2 + 0 + 0 ≤ 601024 ∧ sl + 12 + 0 + 0 ≤ 7293034) then
                ((xf_rf_thrown q160.2.1).bind fun q162 =>
                if q162 = q156.1 then
                  (if q156.1 = (0 : Int32) then
                    (if (lg_cmp (q156.2 ((0 : Int32)).toNatClampNeg) q160.1.toInt64) = (0 : Int32) then
                      (k23 A (xy_l (xy_l L 76 q160.2.2) 77 q156.2) (xy_s S 57 0 q160.2.1) (ce + 2 + 0 + 0) (sl + 12 + 0 + 0) (v4 + (4 : Int32)))
                    else
                      some ((0 : Int32)))
                  else
                    k23 A (xy_l (xy_l L 76 q160.2.2) 77 q156.2) (xy_s S 57 0 q160.2.1) (ce + 2 + 0 + 0) (sl + 12 + 0 + 0) (v4 + (4 : Int32)))
                else
                  some ((0 : Int32)))
              else none)
            else none)
          else none)
        else none)
      else none)
    else none)
  else none
def xf_law_14 (sc : Nat × (Nat → Int32)) (n : Nat) (k23 : (Nat → Nat → Int32) → (Nat → Nat → Int64) → (Nat → Nat → Int32) → Nat → Nat → Int32 → Option (Int32)) (A : Nat → Nat → Int32) (L : Nat → Nat → Int64) (S : Nat → Nat → Int32) (ce sl : Nat) (v4 : Int32) : Option (Int32) :=
  if xr_in (v4 + ((1 : Int32))) sc.1 = true then
    (if (ce + 1 ≤ 601024 ∧ sl + 6 ≤ 7293034) then
      ((xf_la_ring (L 44) (S 15 1) (A 16) (A 19) 1 n (L 77) ((sc.2) (v4 + ((1 : Int32))).toNatClampNeg)).bind fun q169 =>
      if xr_in (v4 + ((1 : Int32))) sc.1 = true then
        (if (ce + 1 + 0 ≤ 601024 ∧ sl + 6 + 0 ≤ 7293034) then
          ((xf_rf_ring (A 73) (A 66) (A 67) (A 70) (A 71) (A 72) n (A 74) (S 57 0) (L 76) ((sc.2) (v4 + ((1 : Int32))).toNatClampNeg)).bind fun q172 =>
          if (ce + 1 + 0 + 0 ≤ 601024 ∧ sl + 6 + 0 + 0 ≤ 7293034) then
            ((xf_rf_thrown q172.2.2.1).bind fun q174 =>
            if q174 = q169.1 then
              (if q169.1 = (0 : Int32) then
                (if (lg_cmp (q169.2 ((0 : Int32)).toNatClampNeg) q172.1.toInt64) = (0 : Int32) then
                  (k23 (xy_a A 74 q172.2.1) (xy_l (xy_l L 76 q172.2.2.2) 77 q169.2) (xy_s S 57 0 q172.2.2.1) (ce + 1 + 0 + 0) (sl + 6 + 0 + 0) (v4 + (4 : Int32)))
                else
                  some ((0 : Int32)))
              else
                k23 (xy_a A 74 q172.2.1) (xy_l (xy_l L 76 q172.2.2.2) 77 q169.2) (xy_s S 57 0 q172.2.2.1) (ce + 1 + 0 + 0) (sl + 6 + 0 + 0) (v4 + (4 : Int32)))
            else
              some ((0 : Int32)))
          else none)
        else none)
      else none)
    else none)
  else none
def xf_law_15 (sc : Nat × (Nat → Int32)) (n : Nat) (k23 : (Nat → Nat → Int32) → (Nat → Nat → Int64) → (Nat → Nat → Int32) → Nat → Nat → Int32 → Option (Int32)) (A : Nat → Nat → Int32) (L : Nat → Nat → Int64) (S : Nat → Nat → Int32) (ce sl : Nat) (v4 : Int32) : Option (Int32) :=
  if xr_in (v4 + ((1 : Int32))) sc.1 = true then
    (if xr_in (v4 + ((2 : Int32))) sc.1 = true then
      (if (ce + 3 ≤ 601024 ∧ sl + 18 ≤ 7293034) then
        ((xf_la_place (S 15 1) (A 16) (A 19) (A 18) (A 20) (A 21) 1 n (L 77) ((sc.2) (v4 + ((1 : Int32))).toNatClampNeg) ((sc.2) (v4 + ((2 : Int32))).toNatClampNeg)).bind fun q182 =>
        if xr_in (v4 + ((1 : Int32))) sc.1 = true then
          (if xr_in (v4 + ((2 : Int32))) sc.1 = true then
            (if (ce + 3 + 0 ≤ 601024 ∧ sl + 18 + 0 ≤ 7293034) then
              ((xf_rf_place (A 66) (A 67) (A 70) (A 71) (A 72) n (S 57 0) ((sc.2) (v4 + ((1 : Int32))).toNatClampNeg) ((sc.2) (v4 + ((2 : Int32))).toNatClampNeg)).bind fun q186 =>
              if (ce + 3 + 0 + 0 ≤ 601024 ∧ sl + 18 + 0 + 0 ≤ 7293034) then
                ((xf_rf_thrown q186.2).bind fun q188 =>
                if q188 = q182.1 then
                  (if q182.1 = (0 : Int32) then
                    (if (lg_cmp (q182.2 ((0 : Int32)).toNatClampNeg) q186.1) = (0 : Int32) then
                      (k23 A (xy_l L 77 q182.2) (xy_s S 57 0 q186.2) (ce + 3 + 0 + 0) (sl + 18 + 0 + 0) (v4 + (4 : Int32)))
                    else
                      some ((0 : Int32)))
                  else
                    k23 A (xy_l L 77 q182.2) (xy_s S 57 0 q186.2) (ce + 3 + 0 + 0) (sl + 18 + 0 + 0) (v4 + (4 : Int32)))
                else
                  some ((0 : Int32)))
              else none)
            else none)
          else none)
        else none)
      else none)
    else none)
  else none
def xf_law_16 (sc : Nat × (Nat → Int32)) (n : Nat) (k23 : (Nat → Nat → Int32) → (Nat → Nat → Int64) → (Nat → Nat → Int32) → Nat → Nat → Int32 → Option (Int32)) (A : Nat → Nat → Int32) (L : Nat → Nat → Int64) (S : Nat → Nat → Int32) (ce sl : Nat) (v4 : Int32) : Option (Int32) :=
  if xr_in (v4 + ((1 : Int32))) sc.1 = true then
    (if xr_in (v4 + ((2 : Int32))) sc.1 = true then
      (if (ce + 2 ≤ 601024 ∧ sl + 12 ≤ 7293034) then
        ((xf_la_alike (A 45) (A 23) (S 15 1) (L 17) (A 16) (A 19) (A 18) (A 20) (A 22) (S 15 2) (A 21) 1000 1 n (S 42 5) (A 47) (L 77) ((sc.2) (v4 + ((1 : Int32))).toNatClampNeg) ((sc.2) (v4 + ((2 : Int32))).toNatClampNeg)).bind fun q196 =>
        if xr_in (v4 + ((1 : Int32))) sc.1 = true then
          (if xr_in (v4 + ((2 : Int32))) sc.1 = true then
            (if (ce + 2 + 0 ≤ 601024 ∧ sl + 12 + 0 ≤ 7293034) then
              ((xf_rf_alike (A 73) (A 68) (A 66) (A 69) (A 67) (A 70) (A 71) (A 72) n (A 74) (A 75) (S 57 0) (L 76) ((sc.2) (v4 + ((1 : Int32))).toNatClampNeg) ((sc.2) (v4 + ((2 : Int32))).toNatClampNeg)).bind fun q200 =>
              if (ce + 2 + 0 + 0 ≤ 601024 ∧ sl + 12 + 0 + 0 ≤ 7293034) then
                ((xf_rf_thrown q200.2.2.2.1).bind fun q202 =>
                if q202 = q196.1 then
                  (if q196.1 = (0 : Int32) then
                    (if q200.1 = (0 : Int32) then
                      (if (lg_cmp (q196.2.2.2 ((0 : Int32)).toNatClampNeg) ((0 : Int64))) = (0 : Int32) then
                        (k23 (xy_a (xy_a (xy_a A 74 q200.2.1) 75 q200.2.2.1) 47 q196.2.2.1) (xy_l (xy_l L 76 q200.2.2.2.2) 77 q196.2.2.2) (xy_s (xy_s S 57 0 q200.2.2.2.1) 42 5 q196.2.1) (ce + 2 + 0 + 0) (sl + 12 + 0 + 0) (v4 + (4 : Int32)))
                      else
                        some ((0 : Int32)))
                    else
                      if (lg_cmp (q196.2.2.2 ((0 : Int32)).toNatClampNeg) ((1 : Int64))) = (0 : Int32) then
                        (k23 (xy_a (xy_a (xy_a A 74 q200.2.1) 75 q200.2.2.1) 47 q196.2.2.1) (xy_l (xy_l L 76 q200.2.2.2.2) 77 q196.2.2.2) (xy_s (xy_s S 57 0 q200.2.2.2.1) 42 5 q196.2.1) (ce + 2 + 0 + 0) (sl + 12 + 0 + 0) (v4 + (4 : Int32)))
                      else
                        some ((0 : Int32)))
                  else
                    k23 (xy_a (xy_a (xy_a A 74 q200.2.1) 75 q200.2.2.1) 47 q196.2.2.1) (xy_l (xy_l L 76 q200.2.2.2.2) 77 q196.2.2.2) (xy_s (xy_s S 57 0 q200.2.2.2.1) 42 5 q196.2.1) (ce + 2 + 0 + 0) (sl + 12 + 0 + 0) (v4 + (4 : Int32)))
                else
                  some ((0 : Int32)))
              else none)
            else none)
          else none)
        else none)
      else none)
    else none)
  else none
def xf_law_17 (sc : Nat × (Nat → Int32)) (n : Nat) (k23 : (Nat → Nat → Int32) → (Nat → Nat → Int64) → (Nat → Nat → Int32) → Nat → Nat → Int32 → Option (Int32)) (A : Nat → Nat → Int32) (L : Nat → Nat → Int64) (S : Nat → Nat → Int32) (ce sl : Nat) (v4 : Int32) : Option (Int32) :=
  if (ce + 0 ≤ 601024 ∧ sl + 0 ≤ 7293034) then
    ((xf_xt_join (L 17) (A 16) (A 18) (A 20) (A 22) (S 15 2) 1000 n (A 45) (L 43) (S 42 5) (A 47) (L 44) (A 23) (S 15 1) (A 19) (A 21)).bind fun q210 =>
    if (ce + 0 + 0 ≤ 601024 ∧ sl + 0 + 0 ≤ 7293034) then
      ((xf_rf_join n (A 74) (A 73) (A 68) (A 75) (A 66) (A 69) (A 67) (A 70) (A 71) (S 57 0) (A 72) (L 76)).bind fun q212 =>
      if q210.1 = q212.1 then
        (k23 (xy_a (xy_a (xy_a (xy_a (xy_a (xy_a (xy_a (xy_a (xy_a (xy_a (xy_a (xy_a (xy_a (xy_a (xy_a A 74 q212.2.1) 73 q212.2.2.1) 68 q212.2.2.2.1) 75 q212.2.2.2.2.1) 66 q212.2.2.2.2.2.1) 69 q212.2.2.2.2.2.2.1) 67 q212.2.2.2.2.2.2.2.1) 70 q212.2.2.2.2.2.2.2.2.1) 71 q212.2.2.2.2.2.2.2.2.2.1) 72 q212.2.2.2.2.2.2.2.2.2.2.2.1) 45 q210.2.1) 47 q210.2.2.2.2.1) 23 q210.2.2.2.2.2.2.1) 19 q210.2.2.2.2.2.2.2.2.1) 21 q210.2.2.2.2.2.2.2.2.2) (xy_l (xy_l (xy_l L 76 q212.2.2.2.2.2.2.2.2.2.2.2.2) 43 q210.2.2.1) 44 q210.2.2.2.2.2.1) (xy_s (xy_s (xy_s S 57 0 q212.2.2.2.2.2.2.2.2.2.2.1) 42 5 q210.2.2.2.1) 15 1 q210.2.2.2.2.2.2.2.1) (ce + 0 + 0) (sl + 0 + 0) (v4 + (4 : Int32)))
      else
        some ((0 : Int32)))
    else none)
  else none
def xf_law_18 (sc : Nat × (Nat → Int32)) (n : Nat) (k23 : (Nat → Nat → Int32) → (Nat → Nat → Int64) → (Nat → Nat → Int32) → Nat → Nat → Int32 → Option (Int32)) (A : Nat → Nat → Int32) (L : Nat → Nat → Int64) (S : Nat → Nat → Int32) (ce sl : Nat) (v4 : Int32) : Option (Int32) :=
  if xr_in (v4 + ((1 : Int32))) sc.1 = true then
    (if xr_in (v4 + ((2 : Int32))) sc.1 = true then
      (if (ce + 1 ≤ 601024 ∧ sl + 6 ≤ 7293034) then
        ((xf_la_differs (A 49) (A 41) (S 33 1) (L 35) (A 34) (A 37) (A 36) (A 38) (A 40) (S 33 2) (A 39) (A 23) (S 15 1) (L 17) (A 16) (A 19) (A 18) (A 20) (A 22) (S 15 2) (A 21) 0 1 n (L 77) ((sc.2) (v4 + ((1 : Int32))).toNatClampNeg) ((sc.2) (v4 + ((2 : Int32))).toNatClampNeg)).bind fun q218 =>
        if xr_in (v4 + ((1 : Int32))) sc.1 = true then
          (if xr_in (v4 + ((2 : Int32))) sc.1 = true then
            (if (ce + 1 + 0 ≤ 601024 ∧ sl + 6 + 0 ≤ 7293034) then
              ((xf_rf_differs (A 73) (A 68) (A 66) (A 69) (A 67) (A 70) (A 71) (A 72) n (S 57 0) ((sc.2) (v4 + ((1 : Int32))).toNatClampNeg) ((sc.2) (v4 + ((2 : Int32))).toNatClampNeg)).bind fun q222 =>
              if (ce + 1 + 0 + 0 ≤ 601024 ∧ sl + 6 + 0 + 0 ≤ 7293034) then
                ((xf_rf_thrown q222.2).bind fun q224 =>
                if q224 = q218.1 then
                  (if q218.1 = (0 : Int32) then
                    (if (lg_cmp (q218.2 ((0 : Int32)).toNatClampNeg) q222.1.toInt64) = (0 : Int32) then
                      (k23 A (xy_l L 77 q218.2) (xy_s S 57 0 q222.2) (ce + 1 + 0 + 0) (sl + 6 + 0 + 0) (v4 + (4 : Int32)))
                    else
                      some ((0 : Int32)))
                  else
                    k23 A (xy_l L 77 q218.2) (xy_s S 57 0 q222.2) (ce + 1 + 0 + 0) (sl + 6 + 0 + 0) (v4 + (4 : Int32)))
                else
                  some ((0 : Int32)))
              else none)
            else none)
          else none)
        else none)
      else none)
    else none)
  else none
def xf_law_19 (sc : Nat × (Nat → Int32)) (n : Nat) (k23 : (Nat → Nat → Int32) → (Nat → Nat → Int64) → (Nat → Nat → Int32) → Nat → Nat → Int32 → Option (Int32)) (A : Nat → Nat → Int32) (L : Nat → Nat → Int64) (S : Nat → Nat → Int32) (ce sl : Nat) (v4 : Int32) : Option (Int32) :=
  if xr_in (v4 + ((1 : Int32))) sc.1 = true then
    (if (ce + 1 ≤ 601024 ∧ sl + 6 ≤ 7293034) then
      ((xf_la_count (S 33 1) (S 5 0) (S 15 1) (S 1 1) 1 (L 77) ((sc.2) (v4 + ((1 : Int32))).toNatClampNeg)).bind fun q231 =>
      if xr_in (v4 + ((1 : Int32))) sc.1 = true then
        (if (ce + 1 + 0 ≤ 601024 ∧ sl + 6 + 0 ≤ 7293034) then
          ((xf_rf_count (A 60) (A 66) (S 57 1) (S 57 0) ((sc.2) (v4 + ((1 : Int32))).toNatClampNeg)).bind fun q234 =>
          if (ce + 1 + 0 + 0 ≤ 601024 ∧ sl + 6 + 0 + 0 ≤ 7293034) then
            ((xf_rf_thrown q234.2).bind fun q236 =>
            if q236 = q231.1 then
              (if q231.1 = (0 : Int32) then
                (if (lg_cmp (q231.2 ((0 : Int32)).toNatClampNeg) q234.1.toInt64) = (0 : Int32) then
                  (k23 A (xy_l L 77 q231.2) (xy_s S 57 0 q234.2) (ce + 1 + 0 + 0) (sl + 6 + 0 + 0) (v4 + (4 : Int32)))
                else
                  some ((0 : Int32)))
              else
                k23 A (xy_l L 77 q231.2) (xy_s S 57 0 q234.2) (ce + 1 + 0 + 0) (sl + 6 + 0 + 0) (v4 + (4 : Int32)))
            else
              some ((0 : Int32)))
          else none)
        else none)
      else none)
    else none)
  else none
def xf_law (sc : Nat × (Nat → Int32)) (n N : Nat) : (Nat → Nat → Int32) → (Nat → Nat → Int64) → (Nat → Nat → Int32) → Nat → Nat → Int32 → Option (Int32) :=
  Nat.rec (motive := fun _ => (Nat → Nat → Int32) → (Nat → Nat → Int64) → (Nat → Nat → Int32) → Nat → Nat → Int32 → Option (Int32)) (fun _ _ _ _ _ _ => none) (fun _ k23 A L S ce sl v4 =>
    if ((Int32.ofNat sc.1) - ((4 : Int32))) < v4 then
      (some ((1 : Int32)))
    else
      if xr_in v4 sc.1 = true then
        (if (((sc.2) v4.toNatClampNeg) &&& ((31 : Int32))) = (0 : Int32) then
          (xf_law_0 sc n k23 A L S ce sl v4)
        else
          if (((sc.2) v4.toNatClampNeg) &&& ((31 : Int32))) = (1 : Int32) then
            (xf_law_1 sc n k23 A L S ce sl v4)
          else
            if (((sc.2) v4.toNatClampNeg) &&& ((31 : Int32))) = (2 : Int32) then
              (xf_law_2 sc n k23 A L S ce sl v4)
            else
              if (((sc.2) v4.toNatClampNeg) &&& ((31 : Int32))) = (3 : Int32) then
                (xf_law_3 sc n k23 A L S ce sl v4)
              else
                if (((sc.2) v4.toNatClampNeg) &&& ((31 : Int32))) = (4 : Int32) then
                  (xf_law_4 sc n k23 A L S ce sl v4)
                else
                  if (((sc.2) v4.toNatClampNeg) &&& ((31 : Int32))) = (5 : Int32) then
                    (xf_law_5 sc n k23 A L S ce sl v4)
                  else
                    if (((sc.2) v4.toNatClampNeg) &&& ((31 : Int32))) = (6 : Int32) then
                      (xf_law_6 sc n k23 A L S ce sl v4)
                    else
                      if (((sc.2) v4.toNatClampNeg) &&& ((31 : Int32))) = (7 : Int32) then
                        (xf_law_7 sc n k23 A L S ce sl v4)
                      else
                        if (((sc.2) v4.toNatClampNeg) &&& ((31 : Int32))) = (8 : Int32) then
                          (xf_law_8 sc n k23 A L S ce sl v4)
                        else
                          if (((sc.2) v4.toNatClampNeg) &&& ((31 : Int32))) = (9 : Int32) then
                            (xf_law_9 sc n k23 A L S ce sl v4)
                          else
                            if (((sc.2) v4.toNatClampNeg) &&& ((31 : Int32))) = (10 : Int32) then
                              (xf_law_10 sc n k23 A L S ce sl v4)
                            else
                              if (((sc.2) v4.toNatClampNeg) &&& ((31 : Int32))) = (11 : Int32) then
                                (xf_law_11 sc n k23 A L S ce sl v4)
                              else
                                if (((sc.2) v4.toNatClampNeg) &&& ((31 : Int32))) = (12 : Int32) then
                                  (xf_law_12 sc n k23 A L S ce sl v4)
                                else
                                  if (((sc.2) v4.toNatClampNeg) &&& ((31 : Int32))) = (13 : Int32) then
                                    (xf_law_13 sc n k23 A L S ce sl v4)
                                  else
                                    if (((sc.2) v4.toNatClampNeg) &&& ((31 : Int32))) = (14 : Int32) then
                                      (xf_law_14 sc n k23 A L S ce sl v4)
                                    else
                                      if (((sc.2) v4.toNatClampNeg) &&& ((31 : Int32))) = (15 : Int32) then
                                        (xf_law_15 sc n k23 A L S ce sl v4)
                                      else
                                        if (((sc.2) v4.toNatClampNeg) &&& ((31 : Int32))) = (16 : Int32) then
                                          (xf_law_16 sc n k23 A L S ce sl v4)
                                        else
                                          if (((sc.2) v4.toNatClampNeg) &&& ((31 : Int32))) = (17 : Int32) then
                                            (xf_law_17 sc n k23 A L S ce sl v4)
                                          else
                                            if (((sc.2) v4.toNatClampNeg) &&& ((31 : Int32))) = (18 : Int32) then
                                              (xf_law_18 sc n k23 A L S ce sl v4)
                                            else
                                              if (((sc.2) v4.toNatClampNeg) &&& ((31 : Int32))) = (19 : Int32) then
                                                (xf_law_19 sc n k23 A L S ce sl v4)
                                              else
                                                k23 A L S (ce) (sl) (v4 + (4 : Int32)))
      else none) N
