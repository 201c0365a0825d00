def xy_c (Y : Nat → xr_C) (k : Nat) (c : xr_C) : Nat → xr_C := fun j => bif Nat.beq j k then c else Y j
/-- the world of the class, beside it Y -/
def xw_C (s_1_1 : Int32) (s_1_2 : Int32) (a_2 : Nat → Int32) (s_3_1 : Int32) (s_3_2 : Int32) (a_4 : Nat → Int32) (s_5_0 : Int32) (l_6 : Nat → Int64) (a_7 : Nat → Int32) (a_8 : Nat → Int32) (a_9 : Nat → Int32) (s_10_0 : Int32) (l_11 : Nat → Int64) (a_12 : Nat → Int32) (a_13 : Nat → Int32) (a_14 : Nat → Int32) (s_15_0 : Int32) (s_15_1 : Int32) (s_15_2 : Int32) (a_16 : Nat → Int32) (l_17 : Nat → Int64) (a_18 : Nat → Int32) (a_19 : Nat → Int32) (a_20 : Nat → Int32) (a_21 : Nat → Int32) (a_22 : Nat → Int32) (a_23 : Nat → Int32) (s_24_0 : Int32) (s_24_1 : Int32) (s_24_2 : Int32) (a_25 : Nat → Int32) (l_26 : Nat → Int64) (a_27 : Nat → Int32) (a_28 : Nat → Int32) (a_29 : Nat → Int32) (a_30 : Nat → Int32) (a_31 : Nat → Int32) (a_32 : Nat → Int32) (s_33_0 : Int32) (s_33_1 : Int32) (s_33_2 : Int32) (a_34 : Nat → Int32) (l_35 : Nat → Int64) (a_36 : Nat → Int32) (a_37 : Nat → Int32) (a_38 : Nat → Int32) (a_39 : Nat → Int32) (a_40 : Nat → Int32) (a_41 : Nat → Int32) (s_42_5 : Int32) (l_43 : Nat → Int64) (l_44 : Nat → Int64) (a_45 : Nat → Int32) (a_47 : Nat → Int32) (a_49 : Nat → Int32) (s_50_5 : Int32) (s_50_6 : Int32) (a_51 : Nat → Int32) (a_52 : Nat → Int32) (a_53 : Nat → Int32) (a_54 : Nat → Int32) (Y : Nat → xr_C) : xr_W :=
  [.inr (0, [.ref 3, .ref 5, .ref 7, .ref 12, .ref 17, .ref 26, .ref 35, .ref 44, .ref 50, .ref 57, .ref 58]), .inr (1, [.ref 4, .int s_1_1, .int s_1_2]), .inl (2, 1200, .inl a_2), .inr (1, [.ref 6, .int s_3_1, .int s_3_2]), .inl (2, 1200, .inl a_4), .inr (2, [.int s_5_0, .ref 8, .ref 9, .ref 10, .ref 11]), .inl (1, 12, .inr (.inl l_6)), .inl (0, 12, .inl a_7), .inl (0, 96, .inl a_8), .inl (3, 96, .inl a_9), .inr (2, [.int s_10_0, .ref 13, .ref 14, .ref 15, .ref 16]), .inl (1, 12, .inr (.inl l_11)), .inl (0, 12, .inl a_12), .inl (0, 96, .inl a_13), .inl (3, 96, .inl a_14), .inr (3, [.int s_15_0, .int s_15_1, .int s_15_2, .ref 18, .ref 19, .ref 20, .ref 21, .ref 22, .ref 23, .ref 24, .ref 25]), .inl (0, 40, .inl a_16), .inl (1, 40, .inr (.inl l_17)), .inl (0, 40, .inl a_18), .inl (0, 40, .inl a_19), .inl (0, 320, .inl a_20), .inl (0, 320, .inl a_21), .inl (0, 320, .inl a_22), .inl (0, 1200, .inl a_23), .inr (3, [.int s_24_0, .int s_24_1, .int s_24_2, .ref 27, .ref 28, .ref 29, .ref 30, .ref 31, .ref 32, .ref 33, .ref 34]), .inl (0, 40, .inl a_25), .inl (1, 40, .inr (.inl l_26)), .inl (0, 40, .inl a_27), .inl (0, 40, .inl a_28), .inl (0, 320, .inl a_29), .inl (0, 320, .inl a_30), .inl (0, 320, .inl a_31), .inl (0, 1200, .inl a_32), .inr (3, [.int s_33_0, .int s_33_1, .int s_33_2, .ref 36, .ref 37, .ref 38, .ref 39, .ref 40, .ref 41, .ref 42, .ref 43]), .inl (0, 40, .inl a_34), .inl (1, 40, .inr (.inl l_35)), .inl (0, 40, .inl a_36), .inl (0, 40, .inl a_37), .inl (0, 320, .inl a_38), .inl (0, 320, .inl a_39), .inl (0, 320, .inl a_40), .inl (0, 1200, .inl a_41), .inr (4, [.ref 17, .ref 45, .ref 46, .ref 47, .ref 48, .int s_42_5]), .inl (1, 40, .inr (.inl l_43)), .inl (1, 40, .inr (.inl l_44)), .inl (0, 40, .inl a_45), .inr (5, [.ref 49]), .inl (0, 1000, .inl a_47), .inr (5, [.ref 51]), .inl (0, 0, .inl a_49), .inr (6, [.ref 3, .ref 53, .ref 54, .ref 55, .ref 56, .int s_50_5, .int s_50_6]), .inl (0, 1200, .inl a_51), .inl (0, 1200, .inl a_52), .inl (2, 1200, .inl a_53), .inl (0, 1200, .inl a_54), .inr (7, [.ref 52, .ref 12]), .inr (8, [.ref 52, .ref 26]), Y 57, Y 58, Y 59, Y 60, Y 61, Y 62, Y 63, Y 64, Y 65, Y 66, Y 67, Y 68, Y 69, Y 70, Y 71, Y 72, Y 73, Y 74, Y 75, Y 76, Y 77]
/-- the world of the reference, beside it X -/
def xw_R (X : Nat → xr_C) (s_57_0 : Int32) (s_57_1 : Int32) (s_57_18 : Int32) (s_57_19 : Int32) (s_57_20 : Int32) (s_57_24 : Int32) (a_58 : Nat → Int32) (a_59 : Nat → Int32) (a_60 : Nat → Int32) (a_61 : Nat → Int32) (a_62 : Nat → Int32) (a_63 : Nat → Int32) (a_64 : Nat → Int32) (a_65 : Nat → Int32) (a_66 : Nat → Int32) (a_67 : Nat → Int32) (a_68 : Nat → Int32) (a_69 : Nat → Int32) (a_70 : Nat → Int32) (a_71 : Nat → Int32) (a_72 : Nat → Int32) (a_73 : Nat → Int32) (a_74 : Nat → Int32) (a_75 : Nat → Int32) (l_76 : Nat → Int64) : xr_W :=
  [X 0, X 1, X 2, X 3, X 4, X 5, X 6, X 7, X 8, X 9, X 10, X 11, X 12, X 13, X 14, X 15, X 16, X 17, X 18, X 19, X 20, X 21, X 22, X 23, X 24, X 25, X 26, X 27, X 28, X 29, X 30, X 31, X 32, X 33, X 34, X 35, X 36, X 37, X 38, X 39, X 40, X 41, X 42, X 43, X 44, X 45, X 46, X 47, X 48, X 49, X 50, X 51, X 52, X 53, X 54, X 55, X 56, .inr (9, [.int s_57_0, .int s_57_1, .ref 60, .ref 61, .ref 62, .ref 63, .ref 64, .ref 65, .ref 66, .ref 67, .ref 68, .ref 69, .ref 70, .ref 71, .ref 72, .ref 73, .ref 74, .ref 75, .int s_57_18, .int s_57_19, .int s_57_20, .ref 76, .ref 77, .ref 78, .int s_57_24]), .inl (0, 1200, .inl a_58), .inl (0, 1200, .inl a_59), .inl (0, 2, .inl a_60), .inl (0, 24, .inl a_61), .inl (0, 192, .inl a_62), .inl (0, 24, .inl a_63), .inl (0, 192, .inl a_64), .inl (3, 192, .inl a_65), .inl (0, 3, .inl a_66), .inl (0, 120, .inl a_67), .inl (0, 120, .inl a_68), .inl (0, 960, .inl a_69), .inl (0, 120, .inl a_70), .inl (0, 960, .inl a_71), .inl (0, 960, .inl a_72), .inl (0, 19200, .inl a_73), .inl (0, 40, .inl a_74), .inl (0, 40, .inl a_75), .inl (1, 40, .inr (.inl l_76)), X 77]
/-- the whole world: A the arrays of ints, chars and booleans, L those of longs, S the fields -/
def xw_W (A : Nat → Nat → Int32) (L : Nat → Nat → Int64) (S : Nat → Nat → Int32) : xr_W :=
  [.inr (0, [.ref 3, .ref 5, .ref 7, .ref 12, .ref 17, .ref 26, .ref 35, .ref 44, .ref 50, .ref 57, .ref 58]), .inr (1, [.ref 4, .int (S 1 1), .int (S 1 2)]), .inl (2, 1200, .inl (A 2)), .inr (1, [.ref 6, .int (S 3 1), .int (S 3 2)]), .inl (2, 1200, .inl (A 4)), .inr (2, [.int (S 5 0), .ref 8, .ref 9, .ref 10, .ref 11]), .inl (1, 12, .inr (.inl (L 6))), .inl (0, 12, .inl (A 7)), .inl (0, 96, .inl (A 8)), .inl (3, 96, .inl (A 9)), .inr (2, [.int (S 10 0), .ref 13, .ref 14, .ref 15, .ref 16]), .inl (1, 12, .inr (.inl (L 11))), .inl (0, 12, .inl (A 12)), .inl (0, 96, .inl (A 13)), .inl (3, 96, .inl (A 14)), .inr (3, [.int (S 15 0), .int (S 15 1), .int (S 15 2), .ref 18, .ref 19, .ref 20, .ref 21, .ref 22, .ref 23, .ref 24, .ref 25]), .inl (0, 40, .inl (A 16)), .inl (1, 40, .inr (.inl (L 17))), .inl (0, 40, .inl (A 18)), .inl (0, 40, .inl (A 19)), .inl (0, 320, .inl (A 20)), .inl (0, 320, .inl (A 21)), .inl (0, 320, .inl (A 22)), .inl (0, 1200, .inl (A 23)), .inr (3, [.int (S 24 0), .int (S 24 1), .int (S 24 2), .ref 27, .ref 28, .ref 29, .ref 30, .ref 31, .ref 32, .ref 33, .ref 34]), .inl (0, 40, .inl (A 25)), .inl (1, 40, .inr (.inl (L 26))), .inl (0, 40, .inl (A 27)), .inl (0, 40, .inl (A 28)), .inl (0, 320, .inl (A 29)), .inl (0, 320, .inl (A 30)), .inl (0, 320, .inl (A 31)), .inl (0, 1200, .inl (A 32)), .inr (3, [.int (S 33 0), .int (S 33 1), .int (S 33 2), .ref 36, .ref 37, .ref 38, .ref 39, .ref 40, .ref 41, .ref 42, .ref 43]), .inl (0, 40, .inl (A 34)), .inl (1, 40, .inr (.inl (L 35))), .inl (0, 40, .inl (A 36)), .inl (0, 40, .inl (A 37)), .inl (0, 320, .inl (A 38)), .inl (0, 320, .inl (A 39)), .inl (0, 320, .inl (A 40)), .inl (0, 1200, .inl (A 41)), .inr (4, [.ref 17, .ref 45, .ref 46, .ref 47, .ref 48, .int (S 42 5)]), .inl (1, 40, .inr (.inl (L 43))), .inl (1, 40, .inr (.inl (L 44))), .inl (0, 40, .inl (A 45)), .inr (5, [.ref 49]), .inl (0, 1000, .inl (A 47)), .inr (5, [.ref 51]), .inl (0, 0, .inl (A 49)), .inr (6, [.ref 3, .ref 53, .ref 54, .ref 55, .ref 56, .int (S 50 5), .int (S 50 6)]), .inl (0, 1200, .inl (A 51)), .inl (0, 1200, .inl (A 52)), .inl (2, 1200, .inl (A 53)), .inl (0, 1200, .inl (A 54)), .inr (7, [.ref 52, .ref 12]), .inr (8, [.ref 52, .ref 26]), .inr (9, [.int (S 57 0), .int (S 57 1), .ref 60, .ref 61, .ref 62, .ref 63, .ref 64, .ref 65, .ref 66, .ref 67, .ref 68, .ref 69, .ref 70, .ref 71, .ref 72, .ref 73, .ref 74, .ref 75, .int (S 57 18), .int (S 57 19), .int (S 57 20), .ref 76, .ref 77, .ref 78, .int (S 57 24)]), .inl (0, 1200, .inl (A 58)), .inl (0, 1200, .inl (A 59)), .inl (0, 2, .inl (A 60)), .inl (0, 24, .inl (A 61)), .inl (0, 192, .inl (A 62)), .inl (0, 24, .inl (A 63)), .inl (0, 192, .inl (A 64)), .inl (3, 192, .inl (A 65)), .inl (0, 3, .inl (A 66)), .inl (0, 120, .inl (A 67)), .inl (0, 120, .inl (A 68)), .inl (0, 960, .inl (A 69)), .inl (0, 120, .inl (A 70)), .inl (0, 960, .inl (A 71)), .inl (0, 960, .inl (A 72)), .inl (0, 19200, .inl (A 73)), .inl (0, 40, .inl (A 74)), .inl (0, 40, .inl (A 75)), .inl (1, 40, .inr (.inl (L 76))), .inl (1, 1, .inr (.inl (L 77)))]
/-- its cells, one by one -/
def xw_c (A : Nat → Nat → Int32) (L : Nat → Nat → Int64) (S : Nat → Nat → Int32) : Nat → xr_C := fun k => (xw_W A L S).getD k (.inr (0, []))
def xf_pg_signAt_22 (t_length : Int32) (t_signs : (Nat → Int32)) (s0 : Int32) : Option (Int32) :=
  if fits .char (.int s0) = true then some s0 else none
def xf_pg_signAt_21 (t_length : Int32) (t_signs : (Nat → Int32)) : Option (Int32) :=
  xf_pg_signAt_22 t_length t_signs ((0 : Int32))
def xf_pg_signAt (t_length : Int32) (t_signs : (Nat → Int32)) (a1 : Int32) : Option (Int32) :=
  if a1 < (0 : Int32) then
    (xf_pg_signAt_21 t_length t_signs)
  else
    if a1 < t_length then
      (if xr_in a1 1200 = true then
        (xf_pg_signAt_22 t_length t_signs (t_signs a1.toNatClampNeg))
      else none)
    else
      xf_pg_signAt_21 t_length t_signs
def xf_wd_textEndFrom_50 (t_page_length : Int32) (t_page_signs : (Nat → Int32)) (k4 : Int32 → Option (Int32)) (n : Nat) (v2 : Int32) : Option (Int32) :=
  k4 (v2 + (1 : Int32))
def xf_wd_textEndFrom_4 (t_page_length : Int32) (t_page_signs : (Nat → Int32)) (n : Nat) (N : Nat) : Int32 → Option (Int32) :=
  Nat.rec (motive := fun _ => Int32 → Option (Int32)) (fun _ => none) (fun _ k4 v2 =>
    if v2 < t_page_length then
      ((xf_pg_signAt t_page_length t_page_signs v2).bind fun q11 =>
      if q11 = ((39 : Int32)) then
        ((xf_pg_signAt t_page_length t_page_signs (v2 + ((1 : Int32)))).bind fun q13 =>
        if q13 = ((39 : Int32)) then
          (xf_wd_textEndFrom_50 t_page_length t_page_signs k4 n (v2 + (1 : Int32)))
        else
          some (v2 + ((1 : Int32))))
      else
        xf_wd_textEndFrom_50 t_page_length t_page_signs k4 n v2)
    else
      some ((-1 : Int32))) N
def xf_wd_textEndFrom (t_page_length : Int32) (t_page_signs : (Nat → Int32)) (n : Nat) (a1 : Int32) : Option (Int32) :=
  xf_wd_textEndFrom_4 t_page_length t_page_signs n n (a1 + ((1 : Int32)))
def xf_xt_isDigit_17 (s0 : Int32) : Option (Int32) :=
  if fits .boolean (.int s0) = true then some s0 else none
def xf_xt_isDigit_16 : Option (Int32) :=
  xf_xt_isDigit_17 ((0 : Int32))
def xf_xt_isDigit (a1 : Int32) : Option (Int32) :=
  if a1 < ((48 : Int32)) then
    (xf_xt_isDigit_16 )
  else
    if ((57 : Int32)) < a1 then
      (xf_xt_isDigit_16 )
    else
      xf_xt_isDigit_17 ((1 : Int32))
def xf_xt_isLetter_17 (s0 : Int32) : Option (Int32) :=
  if fits .boolean (.int s0) = true then some s0 else none
def xf_xt_isLetter_16 : Option (Int32) :=
  xf_xt_isLetter_17 ((0 : Int32))
def xf_xt_isLetter (a1 : Int32) : Option (Int32) :=
  if a1 < ((65 : Int32)) then
    (xf_xt_isLetter_16 )
  else
    if ((90 : Int32)) < a1 then
      (xf_xt_isLetter_16 )
    else
      xf_xt_isLetter_17 ((1 : Int32))
def xf_wd_endFrom_92 (t_page_length : Int32) (t_page_signs : (Nat → Int32)) (n : Nat) (v3 : Int32) : Option (Int32) :=
  some v3
def xf_wd_endFrom_61 (t_page_length : Int32) (t_page_signs : (Nat → Int32)) (n : Nat) (N : Nat) : Int32 → Option (Int32) :=
  Nat.rec (motive := fun _ => Int32 → Option (Int32)) (fun _ => none) (fun _ k61 v3 =>
    if v3 < t_page_length then
      ((xf_pg_signAt t_page_length t_page_signs v3).bind fun q27 =>
      (xf_xt_isLetter q27).bind fun q28 =>
      if q28 = (0 : Int32) then
        (xf_wd_endFrom_92 t_page_length t_page_signs n v3)
      else
        k61 (v3 + (1 : Int32)))
    else
      xf_wd_endFrom_92 t_page_length t_page_signs n v3) N
def xf_wd_endFrom_23 (t_page_length : Int32) (t_page_signs : (Nat → Int32)) (n : Nat) (N : Nat) : Int32 → Option (Int32) :=
  Nat.rec (motive := fun _ => Int32 → Option (Int32)) (fun _ => none) (fun _ k23 v3 =>
    if v3 < t_page_length then
      ((xf_pg_signAt t_page_length t_page_signs v3).bind fun q31 =>
      (xf_xt_isDigit q31).bind fun q32 =>
      if q32 = (0 : Int32) then
        (xf_wd_endFrom_92 t_page_length t_page_signs n v3)
      else
        k23 (v3 + (1 : Int32)))
    else
      xf_wd_endFrom_92 t_page_length t_page_signs n v3) N
def xf_wd_endFrom (t_page_length : Int32) (t_page_signs : (Nat → Int32)) (n : Nat) (a1 : Int32) (a2 : Int32) : Option (Int32) :=
  if a2 = ((39 : Int32)) then
    ((xf_wd_textEndFrom t_page_length t_page_signs n a1).bind fun q15 =>
    some q15)
  else
    (xf_xt_isDigit a2).bind fun q19 =>
    if q19 = (0 : Int32) then
      ((xf_xt_isLetter a2).bind fun q24 =>
      if q24 = (0 : Int32) then
        (xf_wd_endFrom_92 t_page_length t_page_signs n (a1 + ((1 : Int32))))
      else
        xf_wd_endFrom_61 t_page_length t_page_signs n n (a1 + ((1 : Int32))))
    else
      xf_wd_endFrom_23 t_page_length t_page_signs n n (a1 + ((1 : Int32)))
def xf_wd_split_196 (t_page_length : Int32) (t_page_signs : (Nat → Int32)) (k17 : (Nat → Int32) → (Nat → Int32) → (Nat → Int32) → (Nat → Int32) → Int32 → Int32 → Int32 → Int32 → Int32 → Int32 → Option (Unit × (Nat → Int32) × (Nat → Int32) × (Nat → Int32) × (Nat → Int32) × Int32 × Int32)) (n : Nat) (t_begin : (Nat → Int32)) (t_digits : (Nat → Int32)) (t_end : (Nat → Int32)) (t_first : (Nat → Int32)) (t_now : Int32) (t_total : Int32) (v1 : Int32) (v3 : Int32) (v4 : Int32) (s0 : Int32) : Option (Unit × (Nat → Int32) × (Nat → Int32) × (Nat → Int32) × (Nat → Int32) × Int32 × Int32) :=
  k17 t_begin t_digits t_end t_first t_now t_total v1 s0 v3 (v4 + (1 : Int32))
def xf_wd_split_177 (t_page_length : Int32) (t_page_signs : (Nat → Int32)) (k17 : (Nat → Int32) → (Nat → Int32) → (Nat → Int32) → (Nat → Int32) → Int32 → Int32 → Int32 → Int32 → Int32 → Int32 → Option (Unit × (Nat → Int32) × (Nat → Int32) × (Nat → Int32) × (Nat → Int32) × Int32 × Int32)) (n : Nat) (t_begin : (Nat → Int32)) (t_digits : (Nat → Int32)) (t_end : (Nat → Int32)) (t_first : (Nat → Int32)) (t_now : Int32) (t_total : Int32) (v1 : Int32) (v4 : Int32) (v6 : Int32) (s0 : Int32) : Option (Unit × (Nat → Int32) × (Nat → Int32) × (Nat → Int32) × (Nat → Int32) × Int32 × Int32) :=
  if v6 = ((-1 : Int32)) then
    (xf_wd_split_196 t_page_length t_page_signs k17 n t_begin t_digits t_end t_first t_now t_total v1 s0 v4 t_page_length)
  else
    xf_wd_split_196 t_page_length t_page_signs k17 n t_begin t_digits t_end t_first t_now t_total v1 s0 v4 v6
def xf_wd_split_176 (t_page_length : Int32) (t_page_signs : (Nat → Int32)) (k17 : (Nat → Int32) → (Nat → Int32) → (Nat → Int32) → (Nat → Int32) → Int32 → Int32 → Int32 → Int32 → Int32 → Int32 → Option (Unit × (Nat → Int32) × (Nat → Int32) × (Nat → Int32) × (Nat → Int32) × Int32 × Int32)) (n : Nat) (t_begin : (Nat → Int32)) (t_digits : (Nat → Int32)) (t_end : (Nat → Int32)) (t_first : (Nat → Int32)) (t_now : Int32) (t_total : Int32) (v1 : Int32) (v4 : Int32) (v6 : Int32) : Option (Unit × (Nat → Int32) × (Nat → Int32) × (Nat → Int32) × (Nat → Int32) × Int32 × Int32) :=
  xf_wd_split_177 t_page_length t_page_signs k17 n t_begin t_digits t_end t_first t_now t_total v1 v4 v6 ((0 : Int32))
def xf_wd_split_150 (t_page_length : Int32) (t_page_signs : (Nat → Int32)) (k17 : (Nat → Int32) → (Nat → Int32) → (Nat → Int32) → (Nat → Int32) → Int32 → Int32 → Int32 → Int32 → Int32 → Int32 → Option (Unit × (Nat → Int32) × (Nat → Int32) × (Nat → Int32) × (Nat → Int32) × Int32 × Int32)) (n : Nat) (t_begin : (Nat → Int32)) (t_digits : (Nat → Int32)) (t_end : (Nat → Int32)) (t_first : (Nat → Int32)) (t_now : Int32) (t_total : Int32) (v1 : Int32) (v3 : Int32) (v4 : Int32) (v5 : Int32) (v6 : Int32) : Option (Unit × (Nat → Int32) × (Nat → Int32) × (Nat → Int32) × (Nat → Int32) × Int32 × Int32) :=
  if v5 = ((61 : Int32)) then
    (xf_wd_split_177 t_page_length t_page_signs k17 n t_begin t_digits t_end t_first t_now t_total v1 v4 v6 v1)
  else
    if v3 = (0 : Int32) then
      (xf_wd_split_176 t_page_length t_page_signs k17 n t_begin t_digits t_end t_first t_now t_total v1 v4 v6)
    else
      if v5 = ((59 : Int32)) then
        (xf_wd_split_176 t_page_length t_page_signs k17 n t_begin t_digits t_end t_first t_now t_total v1 v4 v6)
      else
        xf_wd_split_177 t_page_length t_page_signs k17 n t_begin t_digits t_end t_first t_now t_total v1 v4 v6 ((1 : Int32))
def xf_wd_split_139 (t_page_length : Int32) (t_page_signs : (Nat → Int32)) (k17 : (Nat → Int32) → (Nat → Int32) → (Nat → Int32) → (Nat → Int32) → Int32 → Int32 → Int32 → Int32 → Int32 → Int32 → Option (Unit × (Nat → Int32) × (Nat → Int32) × (Nat → Int32) × (Nat → Int32) × Int32 × Int32)) (n : Nat) (t_begin : (Nat → Int32)) (t_digits : (Nat → Int32)) (t_end : (Nat → Int32)) (t_first : (Nat → Int32)) (t_now : Int32) (t_total : Int32) (v1 : Int32) (v3 : Int32) (v4 : Int32) (v5 : Int32) (v6 : Int32) (s1 : Int32) (s2 : Int32) : Option (Unit × (Nat → Int32) × (Nat → Int32) × (Nat → Int32) × (Nat → Int32) × Int32 × Int32) :=
  if xr_in s1 1200 = true then
    (xf_wd_split_150 t_page_length t_page_signs k17 n t_begin (upd t_digits s1.toNatClampNeg s2) t_end t_first t_now (t_total + ((1 : Int32))) v1 v3 v4 v5 v6)
  else none
def xf_wd_digitsBetween_15 (t_page_length : Int32) (t_page_signs : (Nat → Int32)) (n : Nat) (N : Nat) : Int32 → Int32 → Int32 → Option (Int32) :=
  Nat.rec (motive := fun _ => Int32 → Int32 → Int32 → Option (Int32)) (fun _ _ _ => none) (fun _ k15 v2 v3 v4 =>
    if v4 < v2 then
      ((xf_pg_signAt t_page_length t_page_signs v4).bind fun q48 =>
      k15 v2 (((v3 * ((10 : Int32))) + q48) - ((48 : Int32))) (v4 + (1 : Int32)))
    else
      some v3) N
def xf_wd_digitsBetween (t_page_length : Int32) (t_page_signs : (Nat → Int32)) (n : Nat) (a1 : Int32) (a2 : Int32) : Option (Int32) :=
  if ((9 : Int32)) < (a2 - a1) then
    (some ((-1 : Int32)))
  else
    xf_wd_digitsBetween_15 t_page_length t_page_signs n n a2 ((0 : Int32)) a1
def xf_wd_split_71 (t_page_length : Int32) (t_page_signs : (Nat → Int32)) (k17 : (Nat → Int32) → (Nat → Int32) → (Nat → Int32) → (Nat → Int32) → Int32 → Int32 → Int32 → Int32 → Int32 → Int32 → Option (Unit × (Nat → Int32) × (Nat → Int32) × (Nat → Int32) × (Nat → Int32) × Int32 × Int32)) (n : Nat) (t_begin : (Nat → Int32)) (t_digits : (Nat → Int32)) (t_end : (Nat → Int32)) (t_first : (Nat → Int32)) (t_now : Int32) (t_total : Int32) (v1 : Int32) (v2 : Int32) (v3 : Int32) (v4 : Int32) (v5 : Int32) (s0 : Int32) : Option (Unit × (Nat → Int32) × (Nat → Int32) × (Nat → Int32) × (Nat → Int32) × Int32 × Int32) :=
  if v5 = ((32 : Int32)) then
    (xf_wd_split_150 t_page_length t_page_signs k17 n t_begin t_digits t_end t_first t_now t_total v1 v3 v4 v5 s0)
  else
    if xr_in t_total 1200 = true then
      (if xr_in t_total 1200 = true then
        (if xr_in t_total 1200 = true then
          ((xf_xt_isDigit v5).bind fun q43 =>
          if q43 = (0 : Int32) then
            (xf_wd_split_139 t_page_length t_page_signs k17 n (upd t_begin t_total.toNatClampNeg v2) t_digits (upd t_end t_total.toNatClampNeg s0) (upd t_first t_total.toNatClampNeg (vp_nar .char v5)) t_now t_total v1 v3 v4 v5 s0 t_total ((-1 : Int32)))
          else
            (xf_wd_digitsBetween t_page_length t_page_signs n v2 s0).bind fun q49 =>
            xf_wd_split_139 t_page_length t_page_signs k17 n (upd t_begin t_total.toNatClampNeg v2) t_digits (upd t_end t_total.toNatClampNeg s0) (upd t_first t_total.toNatClampNeg (vp_nar .char v5)) t_now t_total v1 v3 v4 v5 s0 t_total q49)
        else none)
      else none)
    else none
def xf_wd_split_64 (t_page_length : Int32) (t_page_signs : (Nat → Int32)) (k17 : (Nat → Int32) → (Nat → Int32) → (Nat → Int32) → (Nat → Int32) → Int32 → Int32 → Int32 → Int32 → Int32 → Int32 → Option (Unit × (Nat → Int32) × (Nat → Int32) × (Nat → Int32) × (Nat → Int32) × Int32 × Int32)) (n : Nat) (t_begin : (Nat → Int32)) (t_digits : (Nat → Int32)) (t_end : (Nat → Int32)) (t_first : (Nat → Int32)) (t_now : Int32) (t_total : Int32) (v1 : Int32) (v2 : Int32) (v3 : Int32) (v4 : Int32) (v5 : Int32) : Option (Unit × (Nat → Int32) × (Nat → Int32) × (Nat → Int32) × (Nat → Int32) × Int32 × Int32) :=
  (xf_wd_endFrom t_page_length t_page_signs n v2 v5).bind fun q34 =>
  xf_wd_split_71 t_page_length t_page_signs k17 n t_begin t_digits t_end t_first t_now t_total v1 v2 v3 v4 v5 q34
def xf_wd_split_203 (t_page_length : Int32) (t_page_signs : (Nat → Int32)) (n : Nat) (t_begin : (Nat → Int32)) (t_digits : (Nat → Int32)) (t_end : (Nat → Int32)) (t_first : (Nat → Int32)) (t_now : Int32) (t_total : Int32) : Option (Unit × (Nat → Int32) × (Nat → Int32) × (Nat → Int32) × (Nat → Int32) × Int32 × Int32) :=
  some ((), t_begin, t_digits, t_end, t_first, t_now, t_total)
def xf_wd_split_17 (t_page_length : Int32) (t_page_signs : (Nat → Int32)) (n : Nat) (N : Nat) : (Nat → Int32) → (Nat → Int32) → (Nat → Int32) → (Nat → Int32) → Int32 → Int32 → Int32 → Int32 → Int32 → Int32 → Option (Unit × (Nat → Int32) × (Nat → Int32) × (Nat → Int32) × (Nat → Int32) × Int32 × Int32) :=
  Nat.rec (motive := fun _ => (Nat → Int32) → (Nat → Int32) → (Nat → Int32) → (Nat → Int32) → Int32 → Int32 → Int32 → Int32 → Int32 → Int32 → Option (Unit × (Nat → Int32) × (Nat → Int32) × (Nat → Int32) × (Nat → Int32) × Int32 × Int32)) (fun _ _ _ _ _ _ _ _ _ _ => none) (fun _ k17 t_begin t_digits t_end t_first t_now t_total v1 v2 v3 v4 =>
    if v4 < ((1200 : Int32)) then
      (if v2 < t_page_length then
        ((xf_pg_signAt t_page_length t_page_signs v2).bind fun q7 =>
        if v3 = (0 : Int32) then
          (xf_wd_split_64 t_page_length t_page_signs k17 n t_begin t_digits t_end t_first t_now t_total v1 v2 v3 v4 q7)
        else
          (xf_xt_isLetter q7).bind fun q50 =>
          if q50 = (0 : Int32) then
            (xf_wd_split_64 t_page_length t_page_signs k17 n t_begin t_digits t_end t_first t_now t_total v1 v2 v3 v4 q7)
          else
            xf_wd_split_71 t_page_length t_page_signs k17 n t_begin t_digits t_end t_first t_now t_total v1 v2 v3 v4 q7 (v2 + ((1 : Int32))))
      else
        xf_wd_split_203 t_page_length t_page_signs n t_begin t_digits t_end t_first t_now t_total)
    else
      xf_wd_split_203 t_page_length t_page_signs n t_begin t_digits t_end t_first t_now t_total) N
def xf_wd_split (t_page_length : Int32) (t_page_signs : (Nat → Int32)) (n : Nat) (t_begin : (Nat → Int32)) (t_digits : (Nat → Int32)) (t_end : (Nat → Int32)) (t_first : (Nat → Int32)) (t_now : Int32) (t_total : Int32) (a1 : Int32) : Option (Unit × (Nat → Int32) × (Nat → Int32) × (Nat → Int32) × (Nat → Int32) × Int32 × Int32) :=
  xf_wd_split_17 t_page_length t_page_signs n n t_begin t_digits t_end t_first ((0 : Int32)) ((0 : Int32)) a1 ((0 : Int32)) ((0 : Int32)) ((0 : Int32))
def xf_sr_readAll_49 (t_words_page_length : Int32) (t_words_page_signs : (Nat → Int32)) (n : Nat) (t_kinds_mayBeNothing : (Nat → Int32)) (t_kinds_name : (Nat → Int64)) (t_kinds_size : (Nat → Int32)) (t_kinds_sort : (Nat → Int32)) (t_kinds_total : Int32) (t_words_begin : (Nat → Int32)) (t_words_digits : (Nat → Int32)) (t_words_end : (Nat → Int32)) (t_words_first : (Nat → Int32)) (t_words_now : Int32) (t_words_total : Int32) : Option (Int32 × (Nat → Int32) × (Nat → Int64) × (Nat → Int32) × (Nat → Int32) × Int32 × (Nat → Int32) × (Nat → Int32) × (Nat → Int32) × (Nat → Int32) × Int32 × Int32) :=
  some ((1 : Int32), t_kinds_mayBeNothing, t_kinds_name, t_kinds_size, t_kinds_sort, t_kinds_total, t_words_begin, t_words_digits, t_words_end, t_words_first, t_words_now, t_words_total)
def xf_wd_more_16 (t_now : Int32) (t_total : Int32) (s0 : Int32) : Option (Int32) :=
  if fits .boolean (.int s0) = true then some s0 else none
def xf_wd_more (t_now : Int32) (t_total : Int32) : Option (Int32) :=
  if t_now < t_total then
    (xf_wd_more_16 t_now t_total ((1 : Int32)))
  else
    xf_wd_more_16 t_now t_total ((0 : Int32))
def xf_wd_ahead_24 (t_first : (Nat → Int32)) (t_now : Int32) (t_total : Int32) (s0 : Int32) : Option (Int32) :=
  if fits .char (.int s0) = true then some s0 else none
def xf_wd_ahead (t_first : (Nat → Int32)) (t_now : Int32) (t_total : Int32) : Option (Int32) :=
  if t_now < t_total then
    (if xr_in t_now 1200 = true then
      (xf_wd_ahead_24 t_first t_now t_total (t_first t_now.toNatClampNeg))
    else none)
  else
    xf_wd_ahead_24 t_first t_now t_total ((0 : Int32))
def xf_wd_nameAhead_34 (t_begin : (Nat → Int32)) (t_end : (Nat → Int32)) (t_first : (Nat → Int32)) (t_now : Int32) (t_page_length : Int32) (t_page_signs : (Nat → Int32)) (t_total : Int32) (n : Nat) : Option (Int64) :=
  some ((0 : Int64))
def xf_wd_nameAhead_48 (t_begin : (Nat → Int32)) (t_end : (Nat → Int32)) (t_first : (Nat → Int32)) (t_now : Int32) (t_page_length : Int32) (t_page_signs : (Nat → Int32)) (t_total : Int32) (n : Nat) (N : Nat) : Int64 → Int32 → Option (Int64) :=
  Nat.rec (motive := fun _ => Int64 → Int32 → Option (Int64)) (fun _ _ => none) (fun _ k48 v1 v3 =>
    if xr_in t_now 1200 = true then
      (if v3 < (t_end t_now.toNatClampNeg) then
        ((xf_pg_signAt t_page_length t_page_signs v3).bind fun q70 =>
        k48 ((xe_shl v1 ((8 : Int32))) ||| q70.toInt64) (v3 + (1 : Int32)))
      else
        some v1)
    else none) N
def xf_wd_nameAhead (t_begin : (Nat → Int32)) (t_end : (Nat → Int32)) (t_first : (Nat → Int32)) (t_now : Int32) (t_page_length : Int32) (t_page_signs : (Nat → Int32)) (t_total : Int32) (n : Nat) : Option (Int64) :=
  (xf_wd_ahead t_first t_now t_total).bind fun q61 =>
  (xf_xt_isLetter q61).bind fun q62 =>
  if q62 = (0 : Int32) then
    (xf_wd_nameAhead_34 t_begin t_end t_first t_now t_page_length t_page_signs t_total n)
  else
    if xr_in t_now 1200 = true then
      (if xr_in t_now 1200 = true then
        (if ((8 : Int32)) < ((t_end t_now.toNatClampNeg) - (t_begin t_now.toNatClampNeg)) then
          (xf_wd_nameAhead_34 t_begin t_end t_first t_now t_page_length t_page_signs t_total n)
        else
          if xr_in t_now 1200 = true then
            (xf_wd_nameAhead_48 t_begin t_end t_first t_now t_page_length t_page_signs t_total n n ((0 : Int64)) (t_begin t_now.toNatClampNeg))
          else none)
      else none)
    else none
def xf_sr_readKind_38 (t_words_begin : (Nat → Int32)) (t_words_end : (Nat → Int32)) (t_words_first : (Nat → Int32)) (t_words_page_length : Int32) (t_words_page_signs : (Nat → Int32)) (t_words_total : Int32) (n : Nat) (t_kinds_mayBeNothing : (Nat → Int32)) (t_kinds_name : (Nat → Int64)) (t_kinds_size : (Nat → Int32)) (t_kinds_sort : (Nat → Int32)) (t_kinds_total : Int32) (t_words_now : Int32) : Option (Int32 × (Nat → Int32) × (Nat → Int64) × (Nat → Int32) × (Nat → Int32) × Int32 × Int32) :=
  some ((0 : Int32), t_kinds_mayBeNothing, t_kinds_name, t_kinds_size, t_kinds_sort, t_kinds_total, t_words_now)
def xf_kd_find_2 (t_name : (Nat → Int64)) (t_total : Int32) (n : Nat) (N : Nat) : Int64 → Int32 → Option (Int32) :=
  Nat.rec (motive := fun _ => Int64 → Int32 → Option (Int32)) (fun _ _ => none) (fun _ k2 v1 v3 =>
    if v3 < t_total then
      (if xr_in v3 12 = true then
        (if (lg_cmp (t_name v3.toNatClampNeg) v1) = (0 : Int32) then
          (some v3)
        else
          k2 v1 (v3 + (1 : Int32)))
      else none)
    else
      some ((-1 : Int32))) N
def xf_kd_find (t_name : (Nat → Int64)) (t_total : Int32) (n : Nat) (a1 : Int64) : Option (Int32) :=
  xf_kd_find_2 t_name t_total n n a1 ((0 : Int32))
def xf_wd_step (t_now : Int32) : Option (Unit × Int32) :=
  some ((), t_now + ((1 : Int32)))
def xf_kd_addKind_39 (t_name : (Nat → Int64)) (t_size : (Nat → Int32)) (t_total : Int32) : Option (Unit × (Nat → Int64) × (Nat → Int32) × Int32) :=
  some ((), t_name, t_size, t_total)
def xf_kd_addKind (t_name : (Nat → Int64)) (t_size : (Nat → Int32)) (t_total : Int32) (a1 : Int64) : Option (Unit × (Nat → Int64) × (Nat → Int32) × Int32) :=
  if t_total < ((12 : Int32)) then
    (if xr_in t_total 12 = true then
      (if xr_in t_total 12 = true then
        (xf_kd_addKind_39 (vp_updL t_name t_total.toNatClampNeg a1) (upd t_size t_total.toNatClampNeg (((0 : Int32)))) (t_total + ((1 : Int32))))
      else none)
    else none)
  else
    xf_kd_addKind_39 t_name t_size t_total
def xf_wd_takes_44 (t_first : (Nat → Int32)) (t_total : Int32) (t_now : Int32) (v2 : Int32) : Option (Int32 × Int32) :=
  if fits .boolean (.int v2) = true then some (v2, t_now) else none
def xf_wd_takes_29 (t_first : (Nat → Int32)) (t_total : Int32) (t_now : Int32) (s0 : Int32) : Option (Int32 × Int32) :=
  if s0 = (0 : Int32) then
    (xf_wd_takes_44 t_first t_total t_now s0)
  else
    xf_wd_takes_44 t_first t_total (t_now + ((1 : Int32))) s0
def xf_wd_takes_28 (t_first : (Nat → Int32)) (t_total : Int32) (t_now : Int32) : Option (Int32 × Int32) :=
  xf_wd_takes_29 t_first t_total t_now ((0 : Int32))
def xf_wd_takes (t_first : (Nat → Int32)) (t_total : Int32) (t_now : Int32) (a1 : Int32) : Option (Int32 × Int32) :=
  if t_now < t_total then
    (if xr_in t_now 1200 = true then
      (if (t_first t_now.toNatClampNeg) = a1 then
        (xf_wd_takes_29 t_first t_total t_now ((1 : Int32)))
      else
        xf_wd_takes_28 t_first t_total t_now)
    else none)
  else
    xf_wd_takes_28 t_first t_total t_now
def xf_kd_addSort_61 (t_total : Int32) (t_mayBeNothing : (Nat → Int32)) (t_size : (Nat → Int32)) (t_sort : (Nat → Int32)) : Option (Unit × (Nat → Int32) × (Nat → Int32) × (Nat → Int32)) :=
  some ((), t_mayBeNothing, t_size, t_sort)
def xf_kd_addSort (t_total : Int32) (t_mayBeNothing : (Nat → Int32)) (t_size : (Nat → Int32)) (t_sort : (Nat → Int32)) (a1 : Int32) (a2 : Int32) : Option (Unit × (Nat → Int32) × (Nat → Int32) × (Nat → Int32)) :=
  if (t_total - ((1 : Int32))) < (0 : Int32) then
    (xf_kd_addSort_61 t_total t_mayBeNothing t_size t_sort)
  else
    if xr_in (t_total - ((1 : Int32))) 12 = true then
      (if (t_size (t_total - ((1 : Int32))).toNatClampNeg) < ((8 : Int32)) then
        (if xr_in (t_total - ((1 : Int32))) 12 = true then
          (if xr_in (((t_total - ((1 : Int32))) * ((8 : Int32))) + (t_size (t_total - ((1 : Int32))).toNatClampNeg)) 96 = true then
            (if xr_in (((t_total - ((1 : Int32))) * ((8 : Int32))) + (t_size (t_total - ((1 : Int32))).toNatClampNeg)) 96 = true then
              (if xr_in (t_total - ((1 : Int32))) 12 = true then
                (if xr_in (t_total - ((1 : Int32))) 12 = true then
                  (xf_kd_addSort_61 t_total (upd t_mayBeNothing (((t_total - ((1 : Int32))) * ((8 : Int32))) + (t_size (t_total - ((1 : Int32))).toNatClampNeg)).toNatClampNeg (vp_nar .boolean a2)) (upd t_size (t_total - ((1 : Int32))).toNatClampNeg (((t_size (t_total - ((1 : Int32))).toNatClampNeg) + ((1 : Int32))))) (upd t_sort (((t_total - ((1 : Int32))) * ((8 : Int32))) + (t_size (t_total - ((1 : Int32))).toNatClampNeg)).toNatClampNeg a1))
                else none)
              else none)
            else none)
          else none)
        else none)
      else
        xf_kd_addSort_61 t_total t_mayBeNothing t_size t_sort)
    else none
def xf_sr_readKind_71 (t_words_begin : (Nat → Int32)) (t_words_end : (Nat → Int32)) (t_words_first : (Nat → Int32)) (t_words_page_length : Int32) (t_words_page_signs : (Nat → Int32)) (t_words_total : Int32) (n : Nat) (N : Nat) : (Nat → Int32) → (Nat → Int64) → (Nat → Int32) → (Nat → Int32) → Int32 → Int32 → Int32 → Option (Int32 × (Nat → Int32) × (Nat → Int64) × (Nat → Int32) × (Nat → Int32) × Int32 × Int32) :=
  Nat.rec (motive := fun _ => (Nat → Int32) → (Nat → Int64) → (Nat → Int32) → (Nat → Int32) → Int32 → Int32 → Int32 → Option (Int32 × (Nat → Int32) × (Nat → Int64) × (Nat → Int32) × (Nat → Int32) × Int32 × Int32)) (fun _ _ _ _ _ _ _ => none) (fun _ k71 t_kinds_mayBeNothing t_kinds_name t_kinds_size t_kinds_sort t_kinds_total t_words_now v3 =>
    if v3 < ((8 : Int32)) then
      ((xf_wd_ahead t_words_first t_words_now t_words_total).bind fun q92 =>
      if (xr_ix q92) = ((-1 : Int32)) then
        (some ((0 : Int32), t_kinds_mayBeNothing, t_kinds_name, t_kinds_size, t_kinds_sort, t_kinds_total, t_words_now))
      else
        (xf_wd_step t_words_now).bind fun q94 =>
        (xf_wd_takes t_words_first t_words_total q94.2 ((63 : Int32))).bind fun q95 =>
        (xf_kd_addSort t_kinds_total t_kinds_mayBeNothing t_kinds_size t_kinds_sort (xr_ix q92) q95.1).bind fun q104 =>
        (xf_wd_takes t_words_first t_words_total q95.2 ((59 : Int32))).bind fun q105 =>
        if q105.1 = (0 : Int32) then
          (k71 q104.2.1 t_kinds_name q104.2.2.1 q104.2.2.2 t_kinds_total q105.2 (v3 + (1 : Int32)))
        else
          some ((1 : Int32), q104.2.1, t_kinds_name, q104.2.2.1, q104.2.2.2, t_kinds_total, q105.2))
    else
      some ((0 : Int32), t_kinds_mayBeNothing, t_kinds_name, t_kinds_size, t_kinds_sort, t_kinds_total, t_words_now)) N
def xf_sr_readKind (t_words_begin : (Nat → Int32)) (t_words_end : (Nat → Int32)) (t_words_first : (Nat → Int32)) (t_words_page_length : Int32) (t_words_page_signs : (Nat → Int32)) (t_words_total : Int32) (n : Nat) (t_kinds_mayBeNothing : (Nat → Int32)) (t_kinds_name : (Nat → Int64)) (t_kinds_size : (Nat → Int32)) (t_kinds_sort : (Nat → Int32)) (t_kinds_total : Int32) (t_words_now : Int32) : Option (Int32 × (Nat → Int32) × (Nat → Int64) × (Nat → Int32) × (Nat → Int32) × Int32 × Int32) :=
  (xf_wd_nameAhead t_words_begin t_words_end t_words_first t_words_now t_words_page_length t_words_page_signs t_words_total n).bind fun q71 =>
  if (lg_cmp q71 ((0 : Int64))) = (0 : Int32) then
    (xf_sr_readKind_38 t_words_begin t_words_end t_words_first t_words_page_length t_words_page_signs t_words_total n t_kinds_mayBeNothing t_kinds_name t_kinds_size t_kinds_sort t_kinds_total t_words_now)
  else
    if t_kinds_total < ((12 : Int32)) then
      ((xf_kd_find t_kinds_name t_kinds_total n q71).bind fun q77 =>
      if q77 = ((-1 : Int32)) then
        ((xf_wd_step t_words_now).bind fun q79 =>
        (xf_kd_addKind t_kinds_name t_kinds_size t_kinds_total q71).bind fun q83 =>
        (xf_wd_takes t_words_first t_words_total q79.2 ((61 : Int32))).bind fun q89 =>
        if q89.1 = (0 : Int32) then
          (some ((0 : Int32), t_kinds_mayBeNothing, q83.2.1, q83.2.2.1, t_kinds_sort, q83.2.2.2, q89.2))
        else
          xf_sr_readKind_71 t_words_begin t_words_end t_words_first t_words_page_length t_words_page_signs t_words_total n n t_kinds_mayBeNothing q83.2.1 q83.2.2.1 t_kinds_sort q83.2.2.2 q89.2 ((0 : Int32)))
      else
        xf_sr_readKind_38 t_words_begin t_words_end t_words_first t_words_page_length t_words_page_signs t_words_total n t_kinds_mayBeNothing t_kinds_name t_kinds_size t_kinds_sort t_kinds_total t_words_now)
    else
      xf_sr_readKind_38 t_words_begin t_words_end t_words_first t_words_page_length t_words_page_signs t_words_total n t_kinds_mayBeNothing t_kinds_name t_kinds_size t_kinds_sort t_kinds_total t_words_now
def xf_sr_readAll_18 (t_words_page_length : Int32) (t_words_page_signs : (Nat → Int32)) (n : Nat) (N : Nat) : (Nat → Int32) → (Nat → Int64) → (Nat → Int32) → (Nat → Int32) → Int32 → (Nat → Int32) → (Nat → Int32) → (Nat → Int32) → (Nat → Int32) → Int32 → Int32 → Int32 → Option (Int32 × (Nat → Int32) × (Nat → Int64) × (Nat → Int32) × (Nat → Int32) × Int32 × (Nat → Int32) × (Nat → Int32) × (Nat → Int32) × (Nat → Int32) × Int32 × Int32) :=
  Nat.rec (motive := fun _ => (Nat → Int32) → (Nat → Int64) → (Nat → Int32) → (Nat → Int32) → Int32 → (Nat → Int32) → (Nat → Int32) → (Nat → Int32) → (Nat → Int32) → Int32 → Int32 → Int32 → Option (Int32 × (Nat → Int32) × (Nat → Int64) × (Nat → Int32) × (Nat → Int32) × Int32 × (Nat → Int32) × (Nat → Int32) × (Nat → Int32) × (Nat → Int32) × Int32 × Int32)) (fun _ _ _ _ _ _ _ _ _ _ _ _ => none) (fun _ k18 t_kinds_mayBeNothing t_kinds_name t_kinds_size t_kinds_sort t_kinds_total t_words_begin t_words_digits t_words_end t_words_first t_words_now t_words_total v1 =>
    if ((12 : Int32)) < v1 then
      (xf_sr_readAll_49 t_words_page_length t_words_page_signs n t_kinds_mayBeNothing t_kinds_name t_kinds_size t_kinds_sort t_kinds_total t_words_begin t_words_digits t_words_end t_words_first t_words_now t_words_total)
    else
      (xf_wd_more t_words_now t_words_total).bind fun q56 =>
      if q56 = (0 : Int32) then
        (xf_sr_readAll_49 t_words_page_length t_words_page_signs n t_kinds_mayBeNothing t_kinds_name t_kinds_size t_kinds_sort t_kinds_total t_words_begin t_words_digits t_words_end t_words_first t_words_now t_words_total)
      else
        (xf_sr_readKind t_words_begin t_words_end t_words_first t_words_page_length t_words_page_signs t_words_total n t_kinds_mayBeNothing t_kinds_name t_kinds_size t_kinds_sort t_kinds_total t_words_now).bind fun q107 =>
        if q107.1 = (0 : Int32) then
          (some ((0 : Int32), q107.2.1, q107.2.2.1, q107.2.2.2.1, q107.2.2.2.2.1, q107.2.2.2.2.2.1, t_words_begin, t_words_digits, t_words_end, t_words_first, q107.2.2.2.2.2.2, t_words_total))
        else
          k18 q107.2.1 q107.2.2.1 q107.2.2.2.1 q107.2.2.2.2.1 q107.2.2.2.2.2.1 t_words_begin t_words_digits t_words_end t_words_first q107.2.2.2.2.2.2 t_words_total (v1 + (1 : Int32))) N
def xf_sr_readAll (t_words_page_length : Int32) (t_words_page_signs : (Nat → Int32)) (n : Nat) (t_kinds_mayBeNothing : (Nat → Int32)) (t_kinds_name : (Nat → Int64)) (t_kinds_size : (Nat → Int32)) (t_kinds_sort : (Nat → Int32)) (t_kinds_total : Int32) (t_words_begin : (Nat → Int32)) (t_words_digits : (Nat → Int32)) (t_words_end : (Nat → Int32)) (t_words_first : (Nat → Int32)) (t_words_now : Int32) (t_words_total : Int32) : Option (Int32 × (Nat → Int32) × (Nat → Int64) × (Nat → Int32) × (Nat → Int32) × Int32 × (Nat → Int32) × (Nat → Int32) × (Nat → Int32) × (Nat → Int32) × Int32 × Int32) :=
  (xf_wd_split t_words_page_length t_words_page_signs n t_words_begin t_words_digits t_words_end t_words_first t_words_now t_words_total ((1 : Int32))).bind fun q52 =>
  xf_sr_readAll_18 t_words_page_length t_words_page_signs n n t_kinds_mayBeNothing t_kinds_name t_kinds_size t_kinds_sort ((0 : Int32)) q52.2.1 q52.2.2.1 q52.2.2.2.1 q52.2.2.2.2.1 q52.2.2.2.2.2.1 q52.2.2.2.2.2.2 ((0 : Int32))
def xf_wd_standsAt_30 (t_begin : (Nat → Int32)) (t_now : Int32) (t_page_length : Int32) (t_total : Int32) (s0 : Int32) : Option (Int32) :=
  some s0
def xf_wd_standsAt (t_begin : (Nat → Int32)) (t_now : Int32) (t_page_length : Int32) (t_total : Int32) : Option (Int32) :=
  if t_now < t_total then
    (if xr_in t_now 1200 = true then
      (xf_wd_standsAt_30 t_begin t_now t_page_length t_total (t_begin t_now.toNatClampNeg))
    else none)
  else
    xf_wd_standsAt_30 t_begin t_now t_page_length t_total t_page_length
def xf_kd_copyFrom_40 (p1_mayBeNothing : (Nat → Int32)) (p1_name : (Nat → Int64)) (p1_size : (Nat → Int32)) (p1_sort : (Nat → Int32)) (p1_total : Int32) (n : Nat) (N : Nat) : (Nat → Int32) → (Nat → Int64) → (Nat → Int32) → (Nat → Int32) → Int32 → Int32 → Option (Unit × (Nat → Int32) × (Nat → Int64) × (Nat → Int32) × (Nat → Int32) × Int32) :=
  Nat.rec (motive := fun _ => (Nat → Int32) → (Nat → Int64) → (Nat → Int32) → (Nat → Int32) → Int32 → Int32 → Option (Unit × (Nat → Int32) × (Nat → Int64) × (Nat → Int32) × (Nat → Int32) × Int32)) (fun _ _ _ _ _ _ => none) (fun _ k40 t_mayBeNothing t_name t_size t_sort t_total v2 =>
    if v2 < (t_total * ((8 : Int32))) then
      (if xr_in v2 96 = true then
        (if xr_in v2 96 = true then
          (if xr_in v2 96 = true then
            (if xr_in v2 96 = true then
              (k40 (upd t_mayBeNothing v2.toNatClampNeg (vp_nar .boolean (p1_mayBeNothing v2.toNatClampNeg))) t_name t_size (upd t_sort v2.toNatClampNeg ((p1_sort v2.toNatClampNeg))) t_total (v2 + (1 : Int32)))
            else none)
          else none)
        else none)
      else none)
    else
      some ((), t_mayBeNothing, t_name, t_size, t_sort, t_total)) N
def xf_kd_copyFrom (p1_mayBeNothing : (Nat → Int32)) (p1_name : (Nat → Int64)) (p1_size : (Nat → Int32)) (p1_sort : (Nat → Int32)) (p1_total : Int32) (n : Nat) (t_mayBeNothing : (Nat → Int32)) (t_name : (Nat → Int64)) (t_size : (Nat → Int32)) (t_sort : (Nat → Int32)) (t_total : Int32) : Option (Unit × (Nat → Int32) × (Nat → Int64) × (Nat → Int32) × (Nat → Int32) × Int32) :=
  if xr_cg ((0 : Int32)) ((0 : Int32)) ((12 : Int32)) 12 12 then
    (if xr_cg ((0 : Int32)) ((0 : Int32)) ((12 : Int32)) 12 12 then
      (xf_kd_copyFrom_40 p1_mayBeNothing p1_name p1_size p1_sort p1_total n n t_mayBeNothing (va_cpy p1_name t_name ((0 : Int32)).toNatClampNeg ((0 : Int32)).toNatClampNeg ((12 : Int32)).toNatClampNeg) (va_cpy p1_size t_size ((0 : Int32)).toNatClampNeg ((0 : Int32)).toNatClampNeg ((12 : Int32)).toNatClampNeg) t_sort p1_total ((0 : Int32)))
    else none)
  else none
def xf_pg_clear (t_full : Int32) (t_length : Int32) : Option (Unit × Int32 × Int32) :=
  some ((), (0 : Int32), (0 : Int32))
def xf_xt_schema (t_text_signs : (Nat → Int32)) (n : Nat) (t_kinds_mayBeNothing : (Nat → Int32)) (t_kinds_name : (Nat → Int64)) (t_kinds_size : (Nat → Int32)) (t_kinds_sort : (Nat → Int32)) (t_kinds_total : Int32) (t_schemaReader_words_begin : (Nat → Int32)) (t_schemaReader_words_digits : (Nat → Int32)) (t_schemaReader_words_end : (Nat → Int32)) (t_schemaReader_words_first : (Nat → Int32)) (t_schemaReader_words_now : Int32) (t_schemaReader_words_total : Int32) (t_spareKinds_mayBeNothing : (Nat → Int32)) (t_spareKinds_name : (Nat → Int64)) (t_spareKinds_size : (Nat → Int32)) (t_spareKinds_sort : (Nat → Int32)) (t_spareKinds_total : Int32) (t_text_full : Int32) (t_text_length : Int32) : Option (Int32 × (Nat → Int32) × (Nat → Int64) × (Nat → Int32) × (Nat → Int32) × Int32 × (Nat → Int32) × (Nat → Int32) × (Nat → Int32) × (Nat → Int32) × Int32 × Int32 × (Nat → Int32) × (Nat → Int64) × (Nat → Int32) × (Nat → Int32) × Int32 × Int32 × Int32) :=
  (xf_sr_readAll t_text_length t_text_signs n t_spareKinds_mayBeNothing t_spareKinds_name t_spareKinds_size t_spareKinds_sort t_spareKinds_total t_schemaReader_words_begin t_schemaReader_words_digits t_schemaReader_words_end t_schemaReader_words_first t_schemaReader_words_now t_schemaReader_words_total).bind fun q109 =>
  if q109.1 = (0 : Int32) then
    ((xf_wd_standsAt q109.2.2.2.2.2.2.1 q109.2.2.2.2.2.2.2.2.2.2.1 t_text_length q109.2.2.2.2.2.2.2.2.2.2.2).bind fun q113 =>
    some (((-1 : Int32)) - q113, t_kinds_mayBeNothing, t_kinds_name, t_kinds_size, t_kinds_sort, t_kinds_total, q109.2.2.2.2.2.2.1, q109.2.2.2.2.2.2.2.1, q109.2.2.2.2.2.2.2.2.1, q109.2.2.2.2.2.2.2.2.2.1, q109.2.2.2.2.2.2.2.2.2.2.1, q109.2.2.2.2.2.2.2.2.2.2.2, q109.2.1, q109.2.2.1, q109.2.2.2.1, q109.2.2.2.2.1, q109.2.2.2.2.2.1, t_text_full, t_text_length))
  else
    (xf_kd_copyFrom q109.2.1 q109.2.2.1 q109.2.2.2.1 q109.2.2.2.2.1 q109.2.2.2.2.2.1 n t_kinds_mayBeNothing t_kinds_name t_kinds_size t_kinds_sort t_kinds_total).bind fun q121 =>
    (xf_pg_clear t_text_full t_text_length).bind fun q122 =>
    some (q121.2.2.2.2.2, q121.2.1, q121.2.2.1, q121.2.2.2.1, q121.2.2.2.2.1, q121.2.2.2.2.2, q109.2.2.2.2.2.2.1, q109.2.2.2.2.2.2.2.1, q109.2.2.2.2.2.2.2.2.1, q109.2.2.2.2.2.2.2.2.2.1, q109.2.2.2.2.2.2.2.2.2.2.1, q109.2.2.2.2.2.2.2.2.2.2.2, q109.2.1, q109.2.2.1, q109.2.2.2.1, q109.2.2.2.2.1, q109.2.2.2.2.2.1, q122.2.1, q122.2.2)
def xf_md_clear (t_lines : Int32) (t_rows : Int32) (t_used : Int32) : Option (Unit × Int32 × Int32 × Int32) :=
  some ((), (0 : Int32), (0 : Int32), (0 : Int32))
def xf_mr_readAll_67 (t_words_page_length : Int32) (t_words_page_signs : (Nat → Int32)) (n : Nat) (t_model_items : (Nat → Int32)) (t_model_lines : Int32) (t_model_name : (Nat → Int64)) (t_model_number : (Nat → Int32)) (t_model_order : (Nat → Int32)) (t_model_rows : Int32) (t_model_size : (Nat → Int32)) (t_model_sort : (Nat → Int32)) (t_model_start : (Nat → Int32)) (t_model_used : Int32) (t_model_value : (Nat → Int32)) (t_words_begin : (Nat → Int32)) (t_words_digits : (Nat → Int32)) (t_words_end : (Nat → Int32)) (t_words_first : (Nat → Int32)) (t_words_now : Int32) (t_words_total : Int32) : Option (Int32 × (Nat → Int32) × Int32 × (Nat → Int64) × (Nat → Int32) × (Nat → Int32) × Int32 × (Nat → Int32) × (Nat → Int32) × (Nat → Int32) × Int32 × (Nat → Int32) × (Nat → Int32) × (Nat → Int32) × (Nat → Int32) × (Nat → Int32) × Int32 × Int32) :=
  some ((1 : Int32), t_model_items, t_model_lines, t_model_name, t_model_number, t_model_order, t_model_rows, t_model_size, t_model_sort, t_model_start, t_model_used, t_model_value, t_words_begin, t_words_digits, t_words_end, t_words_first, t_words_now, t_words_total)
def xf_mr_readHead_24 (t_words_begin : (Nat → Int32)) (t_words_digits : (Nat → Int32)) (t_words_end : (Nat → Int32)) (t_words_first : (Nat → Int32)) (t_words_page_length : Int32) (t_words_page_signs : (Nat → Int32)) (t_words_total : Int32) (n : Nat) (t_model_lines : Int32) (t_model_name : (Nat → Int64)) (t_model_number : (Nat → Int32)) (t_model_order : (Nat → Int32)) (t_model_rows : Int32) (t_model_size : (Nat → Int32)) (t_words_now : Int32) : Option (Int32 × Int32 × (Nat → Int64) × (Nat → Int32) × (Nat → Int32) × Int32 × (Nat → Int32) × Int32) :=
  some ((0 : Int32), t_model_lines, t_model_name, t_model_number, t_model_order, t_model_rows, t_model_size, t_words_now)
def xf_wd_lineAhead_47 (t_begin : (Nat → Int32)) (t_digits : (Nat → Int32)) (t_end : (Nat → Int32)) (t_now : Int32) (t_total : Int32) : Option (Int32) :=
  some ((-1 : Int32))
def xf_wd_lineAhead (t_begin : (Nat → Int32)) (t_digits : (Nat → Int32)) (t_end : (Nat → Int32)) (t_now : Int32) (t_total : Int32) : Option (Int32) :=
  if t_now < t_total then
    (if xr_in t_now 1200 = true then
      (if xr_in t_now 1200 = true then
        (if ((3 : Int32)) < ((t_end t_now.toNatClampNeg) - (t_begin t_now.toNatClampNeg)) then
          (xf_wd_lineAhead_47 t_begin t_digits t_end t_now t_total)
        else
          if xr_in t_now 1200 = true then
            (if (t_digits t_now.toNatClampNeg) < ((1 : Int32)) then
              (xf_wd_lineAhead_47 t_begin t_digits t_end t_now t_total)
            else
              if xr_in t_now 1200 = true then
                (some (t_digits t_now.toNatClampNeg))
              else none)
          else none)
      else none)
    else none)
  else
    xf_wd_lineAhead_47 t_begin t_digits t_end t_now t_total
def xf_mr_readHead_51 (t_words_begin : (Nat → Int32)) (t_words_digits : (Nat → Int32)) (t_words_end : (Nat → Int32)) (t_words_first : (Nat → Int32)) (t_words_page_length : Int32) (t_words_page_signs : (Nat → Int32)) (t_words_total : Int32) (n : Nat) (t_model_lines : Int32) (t_model_name : (Nat → Int64)) (t_model_number : (Nat → Int32)) (t_model_order : (Nat → Int32)) (t_model_rows : Int32) (t_model_size : (Nat → Int32)) (t_words_now : Int32) : Option (Int32 × Int32 × (Nat → Int64) × (Nat → Int32) × (Nat → Int32) × Int32 × (Nat → Int32) × Int32) :=
  some ((0 : Int32), t_model_lines, t_model_name, t_model_number, t_model_order, t_model_rows, t_model_size, t_words_now)
def xf_md_rowOf_2 (t_lines : Int32) (t_number : (Nat → Int32)) (t_order : (Nat → Int32)) (n : Nat) (N : Nat) : Int32 → Int32 → Option (Int32) :=
  Nat.rec (motive := fun _ => Int32 → Int32 → Option (Int32)) (fun _ _ => none) (fun _ k2 v1 v2 =>
    if v2 < t_lines then
      (if xr_in v2 40 = true then
        (if xr_in (t_order v2.toNatClampNeg) 40 = true then
          (if (t_number (t_order v2.toNatClampNeg).toNatClampNeg) = v1 then
            (if xr_in v2 40 = true then
              (some (t_order v2.toNatClampNeg))
            else none)
          else
            k2 v1 (v2 + (1 : Int32)))
        else none)
      else none)
    else
      some ((-1 : Int32))) N
def xf_md_rowOf (t_lines : Int32) (t_number : (Nat → Int32)) (t_order : (Nat → Int32)) (n : Nat) (a1 : Int32) : Option (Int32) :=
  xf_md_rowOf_2 t_lines t_number t_order n n a1 ((0 : Int32))
def xf_md_addLine_61 (n : Nat) (t_lines : Int32) (t_name : (Nat → Int64)) (t_number : (Nat → Int32)) (t_order : (Nat → Int32)) (t_rows : Int32) (t_size : (Nat → Int32)) (v1 : Int32) (v2 : Int64) (v4 : Int32) : Option (Unit × Int32 × (Nat → Int64) × (Nat → Int32) × (Nat → Int32) × Int32 × (Nat → Int32)) :=
  if xr_in v4 40 = true then
    (if xr_in t_rows 40 = true then
      (if xr_in t_rows 40 = true then
        (if xr_in t_rows 40 = true then
          (some ((), t_lines + ((1 : Int32)), vp_updL t_name t_rows.toNatClampNeg v2, upd t_number t_rows.toNatClampNeg v1, upd t_order v4.toNatClampNeg t_rows, t_rows + ((1 : Int32)), upd t_size t_rows.toNatClampNeg (((0 : Int32)))))
        else none)
      else none)
    else none)
  else none
def xf_md_addLine_16 (n : Nat) (N : Nat) : Int32 → (Nat → Int64) → (Nat → Int32) → (Nat → Int32) → Int32 → (Nat → Int32) → Int32 → Int64 → Int32 → Option (Unit × Int32 × (Nat → Int64) × (Nat → Int32) × (Nat → Int32) × Int32 × (Nat → Int32)) :=
  Nat.rec (motive := fun _ => Int32 → (Nat → Int64) → (Nat → Int32) → (Nat → Int32) → Int32 → (Nat → Int32) → Int32 → Int64 → Int32 → Option (Unit × Int32 × (Nat → Int64) × (Nat → Int32) × (Nat → Int32) × Int32 × (Nat → Int32))) (fun _ _ _ _ _ _ _ _ _ => none) (fun _ k16 t_lines t_name t_number t_order t_rows t_size v1 v2 v4 =>
    if (0 : Int32) < v4 then
      (if xr_in (v4 - ((1 : Int32))) 40 = true then
        (if xr_in (t_order (v4 - ((1 : Int32))).toNatClampNeg) 40 = true then
          (if v1 < (t_number (t_order (v4 - ((1 : Int32))).toNatClampNeg).toNatClampNeg) then
            (if xr_in (v4 - ((1 : Int32))) 40 = true then
              (if xr_in v4 40 = true then
                (k16 t_lines t_name t_number (upd t_order v4.toNatClampNeg ((t_order (v4 - ((1 : Int32))).toNatClampNeg))) t_rows t_size v1 v2 (v4 + (-1 : Int32)))
              else none)
            else none)
          else
            xf_md_addLine_61 n t_lines t_name t_number t_order t_rows t_size v1 v2 v4)
        else none)
      else none)
    else
      xf_md_addLine_61 n t_lines t_name t_number t_order t_rows t_size v1 v2 v4) N
def xf_md_addLine (n : Nat) (t_lines : Int32) (t_name : (Nat → Int64)) (t_number : (Nat → Int32)) (t_order : (Nat → Int32)) (t_rows : Int32) (t_size : (Nat → Int32)) (a1 : Int32) (a2 : Int64) : Option (Unit × Int32 × (Nat → Int64) × (Nat → Int32) × (Nat → Int32) × Int32 × (Nat → Int32)) :=
  if t_rows < ((40 : Int32)) then
    (xf_md_addLine_16 n n t_lines t_name t_number t_order t_rows t_size a1 a2 t_lines)
  else
    some ((), t_lines, t_name, t_number, t_order, t_rows, t_size)
def xf_mr_readHead (t_words_begin : (Nat → Int32)) (t_words_digits : (Nat → Int32)) (t_words_end : (Nat → Int32)) (t_words_first : (Nat → Int32)) (t_words_page_length : Int32) (t_words_page_signs : (Nat → Int32)) (t_words_total : Int32) (n : Nat) (t_model_lines : Int32) (t_model_name : (Nat → Int64)) (t_model_number : (Nat → Int32)) (t_model_order : (Nat → Int32)) (t_model_rows : Int32) (t_model_size : (Nat → Int32)) (t_words_now : Int32) : Option (Int32 × Int32 × (Nat → Int64) × (Nat → Int32) × (Nat → Int32) × Int32 × (Nat → Int32) × Int32) :=
  if t_model_rows < ((40 : Int32)) then
    ((xf_wd_takes t_words_first t_words_total t_words_now ((35 : Int32))).bind fun q129 =>
    if q129.1 = (0 : Int32) then
      (xf_mr_readHead_24 t_words_begin t_words_digits t_words_end t_words_first t_words_page_length t_words_page_signs t_words_total n t_model_lines t_model_name t_model_number t_model_order t_model_rows t_model_size q129.2)
    else
      (xf_wd_lineAhead t_words_begin t_words_digits t_words_end q129.2 t_words_total).bind fun q138 =>
      if q138 = ((-1 : Int32)) then
        (xf_mr_readHead_51 t_words_begin t_words_digits t_words_end t_words_first t_words_page_length t_words_page_signs t_words_total n t_model_lines t_model_name t_model_number t_model_order t_model_rows t_model_size q129.2)
      else
        (xf_md_rowOf t_model_lines t_model_number t_model_order n q138).bind fun q145 =>
        if q145 = ((-1 : Int32)) then
          ((xf_wd_step q129.2).bind fun q147 =>
          (xf_wd_takes t_words_first t_words_total q147.2 ((61 : Int32))).bind fun q148 =>
          if q148.1 = (0 : Int32) then
            (some ((0 : Int32), t_model_lines, t_model_name, t_model_number, t_model_order, t_model_rows, t_model_size, q148.2))
          else
            (xf_wd_nameAhead t_words_begin t_words_end t_words_first q148.2 t_words_page_length t_words_page_signs t_words_total n).bind fun q150 =>
            if (lg_cmp q150 ((0 : Int64))) = (0 : Int32) then
              (some ((0 : Int32), t_model_lines, t_model_name, t_model_number, t_model_order, t_model_rows, t_model_size, q148.2))
            else
              (xf_wd_step q148.2).bind fun q152 =>
              (xf_md_addLine n t_model_lines t_model_name t_model_number t_model_order t_model_rows t_model_size q138 q150).bind fun q164 =>
              (xf_wd_takes t_words_first t_words_total q152.2 ((40 : Int32))).bind fun q165 =>
              if fits .boolean (.int q165.1) = true then some (q165.1, q164.2.1, q164.2.2.1, q164.2.2.2.1, q164.2.2.2.2.1, q164.2.2.2.2.2.1, q164.2.2.2.2.2.2, q165.2) else none)
        else
          xf_mr_readHead_51 t_words_begin t_words_digits t_words_end t_words_first t_words_page_length t_words_page_signs t_words_total n t_model_lines t_model_name t_model_number t_model_order t_model_rows t_model_size q129.2)
  else
    xf_mr_readHead_24 t_words_begin t_words_digits t_words_end t_words_first t_words_page_length t_words_page_signs t_words_total n t_model_lines t_model_name t_model_number t_model_order t_model_rows t_model_size t_words_now
def xf_mr_readAll_59 (t_words_page_length : Int32) (t_words_page_signs : (Nat → Int32)) (n : Nat) (t_model_items : (Nat → Int32)) (t_model_lines : Int32) (t_model_name : (Nat → Int64)) (t_model_number : (Nat → Int32)) (t_model_order : (Nat → Int32)) (t_model_rows : Int32) (t_model_size : (Nat → Int32)) (t_model_sort : (Nat → Int32)) (t_model_start : (Nat → Int32)) (t_model_used : Int32) (t_model_value : (Nat → Int32)) (t_words_begin : (Nat → Int32)) (t_words_digits : (Nat → Int32)) (t_words_end : (Nat → Int32)) (t_words_first : (Nat → Int32)) (t_words_now : Int32) (t_words_total : Int32) : Option (Int32 × (Nat → Int32) × Int32 × (Nat → Int64) × (Nat → Int32) × (Nat → Int32) × Int32 × (Nat → Int32) × (Nat → Int32) × (Nat → Int32) × Int32 × (Nat → Int32) × (Nat → Int32) × (Nat → Int32) × (Nat → Int32) × (Nat → Int32) × Int32 × Int32) :=
  some ((0 : Int32), t_model_items, t_model_lines, t_model_name, t_model_number, t_model_order, t_model_rows, t_model_size, t_model_sort, t_model_start, t_model_used, t_model_value, t_words_begin, t_words_digits, t_words_end, t_words_first, t_words_now, t_words_total)
def xf_md_addArgument_22 (t_rows : Int32) (t_size : (Nat → Int32)) : Option (Int32 × (Nat → Int32)) :=
  some ((-1 : Int32), t_size)
def xf_md_addArgument (t_rows : Int32) (t_size : (Nat → Int32)) : Option (Int32 × (Nat → Int32)) :=
  if (t_rows - ((1 : Int32))) < (0 : Int32) then
    (xf_md_addArgument_22 t_rows t_size)
  else
    if xr_in (t_rows - ((1 : Int32))) 40 = true then
      (if (t_size (t_rows - ((1 : Int32))).toNatClampNeg) < ((8 : Int32)) then
        (if xr_in (t_rows - ((1 : Int32))) 40 = true then
          (if xr_in (t_rows - ((1 : Int32))) 40 = true then
            (if xr_in (t_rows - ((1 : Int32))) 40 = true then
              (some ((((t_rows - ((1 : Int32))) * ((8 : Int32))) + ((upd t_size (t_rows - ((1 : Int32))).toNatClampNeg (((t_size (t_rows - ((1 : Int32))).toNatClampNeg) + ((1 : Int32))))) (t_rows - ((1 : Int32))).toNatClampNeg)) - ((1 : Int32)), upd t_size (t_rows - ((1 : Int32))).toNatClampNeg (((t_size (t_rows - ((1 : Int32))).toNatClampNeg) + ((1 : Int32))))))
            else none)
          else none)
        else none)
      else
        xf_md_addArgument_22 t_rows t_size)
    else none
def xf_mr_readArguments_29 (t_model_rows : Int32) (t_words_begin : (Nat → Int32)) (t_words_digits : (Nat → Int32)) (t_words_end : (Nat → Int32)) (t_words_first : (Nat → Int32)) (t_words_page_length : Int32) (t_words_page_signs : (Nat → Int32)) (t_words_total : Int32) (n : Nat) (t_model_items : (Nat → Int32)) (t_model_size : (Nat → Int32)) (t_model_sort : (Nat → Int32)) (t_model_start : (Nat → Int32)) (t_model_used : Int32) (t_model_value : (Nat → Int32)) (t_words_now : Int32) : Option (Int32 × (Nat → Int32) × (Nat → Int32) × (Nat → Int32) × (Nat → Int32) × Int32 × (Nat → Int32) × Int32) :=
  some ((0 : Int32), t_model_items, t_model_size, t_model_sort, t_model_start, t_model_used, t_model_value, t_words_now)
def xf_md_put (t_used : Int32) (t_sort : (Nat → Int32)) (t_start : (Nat → Int32)) (t_value : (Nat → Int32)) (a1 : Int32) (a2 : Int32) (a3 : Int32) : Option (Unit × (Nat → Int32) × (Nat → Int32) × (Nat → Int32)) :=
  if xr_in a1 320 = true then
    (if xr_in a1 320 = true then
      (if xr_in a1 320 = true then
        (some ((), upd t_sort a1.toNatClampNeg a2, upd t_start a1.toNatClampNeg t_used, upd t_value a1.toNatClampNeg a3))
      else none)
    else none)
  else none
def xf_wd_textSize_22 (t_begin : (Nat → Int32)) (t_end : (Nat → Int32)) (t_first : (Nat → Int32)) (t_now : Int32) (t_page_length : Int32) (t_page_signs : (Nat → Int32)) (t_total : Int32) (n : Nat) : Option (Int32) :=
  some ((-1 : Int32))
def xf_wd_textSize_72 (t_begin : (Nat → Int32)) (t_end : (Nat → Int32)) (t_first : (Nat → Int32)) (t_now : Int32) (t_page_length : Int32) (t_page_signs : (Nat → Int32)) (t_total : Int32) (k38 : Int32 → Int32 → Option (Int32)) (n : Nat) (v1 : Int32) (s0 : Int32) (s1 : Int32) : Option (Int32) :=
  k38 (v1 + (1 : Int32)) ((s0 + s1) + (1 : Int32))
def xf_wd_textSize_38 (t_begin : (Nat → Int32)) (t_end : (Nat → Int32)) (t_first : (Nat → Int32)) (t_now : Int32) (t_page_length : Int32) (t_page_signs : (Nat → Int32)) (t_total : Int32) (n : Nat) (N : Nat) : Int32 → Int32 → Option (Int32) :=
  Nat.rec (motive := fun _ => Int32 → Int32 → Option (Int32)) (fun _ _ => none) (fun _ k38 v1 v2 =>
    if xr_in t_now 1200 = true then
      (if v2 < ((t_end t_now.toNatClampNeg) - ((1 : Int32))) then
        ((xf_pg_signAt t_page_length t_page_signs v2).bind fun q193 =>
        if q193 = ((39 : Int32)) then
          (xf_wd_textSize_72 t_begin t_end t_first t_now t_page_length t_page_signs t_total k38 n v1 v2 ((1 : Int32)))
        else
          xf_wd_textSize_72 t_begin t_end t_first t_now t_page_length t_page_signs t_total k38 n v1 v2 ((0 : Int32)))
      else
        some v1)
    else none) N
def xf_wd_textSize (t_begin : (Nat → Int32)) (t_end : (Nat → Int32)) (t_first : (Nat → Int32)) (t_now : Int32) (t_page_length : Int32) (t_page_signs : (Nat → Int32)) (t_total : Int32) (n : Nat) : Option (Int32) :=
  (xf_wd_ahead t_first t_now t_total).bind fun q186 =>
  if q186 = ((39 : Int32)) then
    (if xr_in t_now 1200 = true then
      (if (t_end t_now.toNatClampNeg) = ((-1 : Int32)) then
        (xf_wd_textSize_22 t_begin t_end t_first t_now t_page_length t_page_signs t_total n)
      else
        if xr_in t_now 1200 = true then
          (xf_wd_textSize_38 t_begin t_end t_first t_now t_page_length t_page_signs t_total n n ((0 : Int32)) ((t_begin t_now.toNatClampNeg) + ((1 : Int32))))
        else none)
    else none)
  else
    xf_wd_textSize_22 t_begin t_end t_first t_now t_page_length t_page_signs t_total n
def xf_mr_readText_19 (t_words_begin : (Nat → Int32)) (t_words_end : (Nat → Int32)) (t_words_first : (Nat → Int32)) (t_words_page_length : Int32) (t_words_page_signs : (Nat → Int32)) (t_words_total : Int32) (n : Nat) (t_model_items : (Nat → Int32)) (t_model_sort : (Nat → Int32)) (t_model_start : (Nat → Int32)) (t_model_used : Int32) (t_model_value : (Nat → Int32)) (t_words_now : Int32) : Option (Int32 × (Nat → Int32) × (Nat → Int32) × (Nat → Int32) × Int32 × (Nat → Int32) × Int32) :=
  some ((0 : Int32), t_model_items, t_model_sort, t_model_start, t_model_used, t_model_value, t_words_now)
def xf_md_addItem_42 (t_items : (Nat → Int32)) (t_used : Int32) (t_value : (Nat → Int32)) : Option (Unit × (Nat → Int32) × Int32 × (Nat → Int32)) :=
  some ((), t_items, t_used, t_value)
def xf_md_addItem (t_items : (Nat → Int32)) (t_used : Int32) (t_value : (Nat → Int32)) (a1 : Int32) (a2 : Int32) : Option (Unit × (Nat → Int32) × Int32 × (Nat → Int32)) :=
  if t_used < (Int32.ofNat 1200) then
    (if xr_in t_used 1200 = true then
      (if xr_in a1 320 = true then
        (if xr_in a1 320 = true then
          (xf_md_addItem_42 (upd t_items t_used.toNatClampNeg a2) (t_used + ((1 : Int32))) (upd t_value a1.toNatClampNeg (((t_value a1.toNatClampNeg) + ((1 : Int32))))))
        else none)
      else none)
    else none)
  else
    xf_md_addItem_42 t_items t_used t_value
def xf_wd_takeText_56 (t_begin : (Nat → Int32)) (t_end : (Nat → Int32)) (t_first : (Nat → Int32)) (t_page_length : Int32) (t_page_signs : (Nat → Int32)) (t_total : Int32) (k22 : (Nat → Int32) → Int32 → (Nat → Int32) → Int32 → Int32 → Int32 → Option (Unit × (Nat → Int32) × Int32 × (Nat → Int32) × Int32)) (n : Nat) (p1_items : (Nat → Int32)) (p1_used : Int32) (p1_value : (Nat → Int32)) (t_now : Int32) (v2 : Int32) (s0 : Int32) (s1 : Int32) : Option (Unit × (Nat → Int32) × Int32 × (Nat → Int32) × Int32) :=
  (xf_pg_signAt t_page_length t_page_signs (s0 + s1)).bind fun q206 =>
  (xf_md_addItem p1_items p1_used p1_value v2 q206).bind fun q211 =>
  k22 q211.2.1 q211.2.2.1 q211.2.2.2 t_now v2 ((s0 + s1) + (1 : Int32))
def xf_wd_takeText_22 (t_begin : (Nat → Int32)) (t_end : (Nat → Int32)) (t_first : (Nat → Int32)) (t_page_length : Int32) (t_page_signs : (Nat → Int32)) (t_total : Int32) (n : Nat) (N : Nat) : (Nat → Int32) → Int32 → (Nat → Int32) → Int32 → Int32 → Int32 → Option (Unit × (Nat → Int32) × Int32 × (Nat → Int32) × Int32) :=
  Nat.rec (motive := fun _ => (Nat → Int32) → Int32 → (Nat → Int32) → Int32 → Int32 → Int32 → Option (Unit × (Nat → Int32) × Int32 × (Nat → Int32) × Int32)) (fun _ _ _ _ _ _ => none) (fun _ k22 p1_items p1_used p1_value t_now v2 v3 =>
    if xr_in t_now 1200 = true then
      (if v3 < ((t_end t_now.toNatClampNeg) - ((1 : Int32))) then
        ((xf_pg_signAt t_page_length t_page_signs v3).bind fun q204 =>
        if q204 = ((39 : Int32)) then
          (xf_wd_takeText_56 t_begin t_end t_first t_page_length t_page_signs t_total k22 n p1_items p1_used p1_value t_now v2 v3 ((1 : Int32)))
        else
          xf_wd_takeText_56 t_begin t_end t_first t_page_length t_page_signs t_total k22 n p1_items p1_used p1_value t_now v2 v3 ((0 : Int32)))
      else
        some ((), p1_items, p1_used, p1_value, t_now + ((1 : Int32))))
    else none) N
def xf_wd_takeText (t_begin : (Nat → Int32)) (t_end : (Nat → Int32)) (t_first : (Nat → Int32)) (t_page_length : Int32) (t_page_signs : (Nat → Int32)) (t_total : Int32) (n : Nat) (p1_items : (Nat → Int32)) (p1_used : Int32) (p1_value : (Nat → Int32)) (t_now : Int32) (a2 : Int32) : Option (Unit × (Nat → Int32) × Int32 × (Nat → Int32) × Int32) :=
  (xf_wd_ahead t_first t_now t_total).bind fun q199 =>
  if q199 = ((39 : Int32)) then
    (if xr_in t_now 1200 = true then
      (xf_wd_takeText_22 t_begin t_end t_first t_page_length t_page_signs t_total n n p1_items p1_used p1_value t_now a2 ((t_begin t_now.toNatClampNeg) + ((1 : Int32))))
    else none)
  else
    some ((), p1_items, p1_used, p1_value, t_now)
def xf_mr_readText (t_words_begin : (Nat → Int32)) (t_words_end : (Nat → Int32)) (t_words_first : (Nat → Int32)) (t_words_page_length : Int32) (t_words_page_signs : (Nat → Int32)) (t_words_total : Int32) (n : Nat) (t_model_items : (Nat → Int32)) (t_model_sort : (Nat → Int32)) (t_model_start : (Nat → Int32)) (t_model_used : Int32) (t_model_value : (Nat → Int32)) (t_words_now : Int32) (a1 : Int32) : Option (Int32 × (Nat → Int32) × (Nat → Int32) × (Nat → Int32) × Int32 × (Nat → Int32) × Int32) :=
  (xf_wd_textSize t_words_begin t_words_end t_words_first t_words_now t_words_page_length t_words_page_signs t_words_total n).bind fun q195 =>
  if q195 = ((-1 : Int32)) then
    (xf_mr_readText_19 t_words_begin t_words_end t_words_first t_words_page_length t_words_page_signs t_words_total n t_model_items t_model_sort t_model_start t_model_used t_model_value t_words_now)
  else
    if ((20 : Int32)) < q195 then
      (xf_mr_readText_19 t_words_begin t_words_end t_words_first t_words_page_length t_words_page_signs t_words_total n t_model_items t_model_sort t_model_start t_model_used t_model_value t_words_now)
    else
      (xf_md_put t_model_used t_model_sort t_model_start t_model_value a1 ((1 : Int32)) ((0 : Int32))).bind fun q198 =>
      (xf_wd_takeText t_words_begin t_words_end t_words_first t_words_page_length t_words_page_signs t_words_total n t_model_items t_model_used q198.2.2.2 t_words_now a1).bind fun q212 =>
      some ((1 : Int32), q212.2.1, q198.2.1, q198.2.2.1, q212.2.2.1, q212.2.2.2.1, q212.2.2.2.2)
def xf_mr_readWord_24 (t_words_begin : (Nat → Int32)) (t_words_end : (Nat → Int32)) (t_words_first : (Nat → Int32)) (t_words_page_length : Int32) (t_words_page_signs : (Nat → Int32)) (t_words_total : Int32) (n : Nat) (t_model_items : (Nat → Int32)) (t_model_sort : (Nat → Int32)) (t_model_start : (Nat → Int32)) (t_model_used : Int32) (t_model_value : (Nat → Int32)) (t_words_now : Int32) : Option (Int32 × (Nat → Int32) × (Nat → Int32) × (Nat → Int32) × Int32 × (Nat → Int32) × Int32) :=
  some ((0 : Int32), t_model_items, t_model_sort, t_model_start, t_model_used, t_model_value, t_words_now)
def xf_wd_takeLetters_21 (t_begin : (Nat → Int32)) (t_end : (Nat → Int32)) (t_first : (Nat → Int32)) (t_page_length : Int32) (t_page_signs : (Nat → Int32)) (t_total : Int32) (n : Nat) (N : Nat) : (Nat → Int32) → Int32 → (Nat → Int32) → Int32 → Int32 → Int32 → Option (Unit × (Nat → Int32) × Int32 × (Nat → Int32) × Int32) :=
  Nat.rec (motive := fun _ => (Nat → Int32) → Int32 → (Nat → Int32) → Int32 → Int32 → Int32 → Option (Unit × (Nat → Int32) × Int32 × (Nat → Int32) × Int32)) (fun _ _ _ _ _ _ => none) (fun _ k21 p1_items p1_used p1_value t_now v2 v3 =>
    if xr_in t_now 1200 = true then
      (if v3 < (t_end t_now.toNatClampNeg) then
        ((xf_pg_signAt t_page_length t_page_signs v3).bind fun q227 =>
        (xf_md_addItem p1_items p1_used p1_value v2 q227).bind fun q228 =>
        k21 q228.2.1 q228.2.2.1 q228.2.2.2 t_now v2 (v3 + (1 : Int32)))
      else
        some ((), p1_items, p1_used, p1_value, t_now + ((1 : Int32))))
    else none) N
def xf_wd_takeLetters (t_begin : (Nat → Int32)) (t_end : (Nat → Int32)) (t_first : (Nat → Int32)) (t_page_length : Int32) (t_page_signs : (Nat → Int32)) (t_total : Int32) (n : Nat) (p1_items : (Nat → Int32)) (p1_used : Int32) (p1_value : (Nat → Int32)) (t_now : Int32) (a2 : Int32) : Option (Unit × (Nat → Int32) × Int32 × (Nat → Int32) × Int32) :=
  (xf_wd_ahead t_first t_now t_total).bind fun q221 =>
  (xf_xt_isLetter q221).bind fun q222 =>
  if q222 = (0 : Int32) then
    (some ((), p1_items, p1_used, p1_value, t_now))
  else
    if xr_in t_now 1200 = true then
      (xf_wd_takeLetters_21 t_begin t_end t_first t_page_length t_page_signs t_total n n p1_items p1_used p1_value t_now a2 (t_begin t_now.toNatClampNeg))
    else none
def xf_mr_readWord (t_words_begin : (Nat → Int32)) (t_words_end : (Nat → Int32)) (t_words_first : (Nat → Int32)) (t_words_page_length : Int32) (t_words_page_signs : (Nat → Int32)) (t_words_total : Int32) (n : Nat) (t_model_items : (Nat → Int32)) (t_model_sort : (Nat → Int32)) (t_model_start : (Nat → Int32)) (t_model_used : Int32) (t_model_value : (Nat → Int32)) (t_words_now : Int32) (a1 : Int32) : Option (Int32 × (Nat → Int32) × (Nat → Int32) × (Nat → Int32) × Int32 × (Nat → Int32) × Int32) :=
  (xf_wd_takes t_words_first t_words_total t_words_now ((46 : Int32))).bind fun q216 =>
  if q216.1 = (0 : Int32) then
    (xf_mr_readWord_24 t_words_begin t_words_end t_words_first t_words_page_length t_words_page_signs t_words_total n t_model_items t_model_sort t_model_start t_model_used t_model_value q216.2)
  else
    (xf_wd_nameAhead t_words_begin t_words_end t_words_first q216.2 t_words_page_length t_words_page_signs t_words_total n).bind fun q218 =>
    if (lg_cmp q218 ((0 : Int64))) = (0 : Int32) then
      (xf_mr_readWord_24 t_words_begin t_words_end t_words_first t_words_page_length t_words_page_signs t_words_total n t_model_items t_model_sort t_model_start t_model_used t_model_value q216.2)
    else
      (xf_md_put t_model_used t_model_sort t_model_start t_model_value a1 ((5 : Int32)) ((0 : Int32))).bind fun q220 =>
      (xf_wd_takeLetters t_words_begin t_words_end t_words_first t_words_page_length t_words_page_signs t_words_total n t_model_items t_model_used q220.2.2.2 q216.2 a1).bind fun q229 =>
      (xf_wd_takes t_words_first t_words_total q229.2.2.2.2 ((46 : Int32))).bind fun q230 =>
      if fits .boolean (.int q230.1) = true then some (q230.1, q229.2.1, q220.2.1, q220.2.2.1, q229.2.2.1, q229.2.2.2.1, q230.2) else none
def xf_wd_takeNumber_104 (t_digits : (Nat → Int32)) (t_first : (Nat → Int32)) (t_total : Int32) (t_now : Int32) : Option (Int32 × Int32) :=
  some ((-2000000000 : Int32), t_now)
def xf_wd_takeNumber_99 (t_digits : (Nat → Int32)) (t_first : (Nat → Int32)) (t_total : Int32) (t_now : Int32) (v2 : Int32) : Option (Int32 × Int32) :=
  xf_wd_takeNumber_104 t_digits t_first t_total v2
def xf_wd_takeNumber_79 (t_digits : (Nat → Int32)) (t_first : (Nat → Int32)) (t_total : Int32) (t_now : Int32) (v2 : Int32) : Option (Int32 × Int32) :=
  if v2 < t_total then
    (if xr_in v2 1200 = true then
      ((xf_xt_isDigit (t_first v2.toNatClampNeg)).bind fun q253 =>
      if q253 = (0 : Int32) then
        (xf_wd_takeNumber_99 t_digits t_first t_total t_now v2)
      else
        xf_wd_takeNumber_104 t_digits t_first t_total t_now)
    else none)
  else
    xf_wd_takeNumber_99 t_digits t_first t_total t_now v2
def xf_wd_takeNumber_78 (t_digits : (Nat → Int32)) (t_first : (Nat → Int32)) (t_total : Int32) (t_now : Int32) (s0 : Int32) : Option (Int32 × Int32) :=
  some (s0, t_now)
def xf_wd_takeNumber_32 (t_digits : (Nat → Int32)) (t_first : (Nat → Int32)) (t_total : Int32) (t_now : Int32) (v1 : Int32) (s0 : Int32) : Option (Int32 × Int32) :=
  if s0 < t_total then
    (if xr_in s0 1200 = true then
      (if (t_digits s0.toNatClampNeg) = ((-1 : Int32)) then
        (xf_wd_takeNumber_79 t_digits t_first t_total t_now s0)
      else
        if v1 = (0 : Int32) then
          (if xr_in s0 1200 = true then
            (xf_wd_takeNumber_78 t_digits t_first t_total (s0 + ((1 : Int32))) (t_digits s0.toNatClampNeg))
          else none)
        else
          if xr_in s0 1200 = true then
            (xf_wd_takeNumber_78 t_digits t_first t_total (s0 + ((1 : Int32))) (-(t_digits s0.toNatClampNeg)))
          else none)
    else none)
  else
    xf_wd_takeNumber_79 t_digits t_first t_total t_now s0
def xf_wd_takeNumber_14 (t_digits : (Nat → Int32)) (t_first : (Nat → Int32)) (t_total : Int32) (t_now : Int32) (s0 : Int32) : Option (Int32 × Int32) :=
  if s0 = (0 : Int32) then
    (xf_wd_takeNumber_32 t_digits t_first t_total t_now s0 t_now)
  else
    xf_wd_takeNumber_32 t_digits t_first t_total t_now s0 (t_now + ((1 : Int32)))
def xf_wd_takeNumber (t_digits : (Nat → Int32)) (t_first : (Nat → Int32)) (t_total : Int32) (t_now : Int32) : Option (Int32 × Int32) :=
  (xf_wd_ahead t_first t_now t_total).bind fun q245 =>
  if q245 = ((45 : Int32)) then
    (xf_wd_takeNumber_14 t_digits t_first t_total t_now ((1 : Int32)))
  else
    xf_wd_takeNumber_14 t_digits t_first t_total t_now ((0 : Int32))
def xf_mr_readList_93 (t_words_begin : (Nat → Int32)) (t_words_digits : (Nat → Int32)) (t_words_end : (Nat → Int32)) (t_words_first : (Nat → Int32)) (t_words_total : Int32) (k66 : (Nat → Int32) → (Nat → Int32) → (Nat → Int32) → Int32 → (Nat → Int32) → Int32 → Int32 → Int32 → Int32 → Option (Int32 × (Nat → Int32) × (Nat → Int32) × (Nat → Int32) × Int32 × (Nat → Int32) × Int32)) (n : Nat) (t_model_items : (Nat → Int32)) (t_model_sort : (Nat → Int32)) (t_model_start : (Nat → Int32)) (t_model_used : Int32) (t_model_value : (Nat → Int32)) (t_words_now : Int32) (v1 : Int32) (v2 : Int32) (v3 : Int32) (s0 : Int32) : Option (Int32 × (Nat → Int32) × (Nat → Int32) × (Nat → Int32) × Int32 × (Nat → Int32) × Int32) :=
  if s0 = ((-2000000000 : Int32)) then
    (some ((0 : Int32), t_model_items, t_model_sort, t_model_start, t_model_used, t_model_value, t_words_now))
  else
    (xf_md_addItem t_model_items t_model_used t_model_value v1 s0).bind fun q260 =>
    (xf_wd_takes t_words_first t_words_total t_words_now ((41 : Int32))).bind fun q261 =>
    if q261.1 = (0 : Int32) then
      ((xf_wd_takes t_words_first t_words_total q261.2 ((44 : Int32))).bind fun q263 =>
      if q263.1 = (0 : Int32) then
        (some ((0 : Int32), q260.2.1, t_model_sort, t_model_start, q260.2.2.1, q260.2.2.2, q263.2))
      else
        k66 q260.2.1 t_model_sort t_model_start q260.2.2.1 q260.2.2.2 q263.2 v1 v2 (v3 + (1 : Int32)))
    else
      some ((1 : Int32), q260.2.1, t_model_sort, t_model_start, q260.2.2.1, q260.2.2.2, q261.2)
def xf_wd_takeReference_17 (t_begin : (Nat → Int32)) (t_digits : (Nat → Int32)) (t_end : (Nat → Int32)) (t_first : (Nat → Int32)) (t_total : Int32) (t_now : Int32) (s0 : Int32) : Option (Int32 × Int32) :=
  if s0 = ((-1 : Int32)) then
    (some ((-2000000000 : Int32), t_now))
  else
    some (s0, t_now + ((1 : Int32)))
def xf_wd_takeReference (t_begin : (Nat → Int32)) (t_digits : (Nat → Int32)) (t_end : (Nat → Int32)) (t_first : (Nat → Int32)) (t_total : Int32) (t_now : Int32) : Option (Int32 × Int32) :=
  (xf_wd_takes t_first t_total t_now ((35 : Int32))).bind fun q265 =>
  if q265.1 = (0 : Int32) then
    (xf_wd_takeReference_17 t_begin t_digits t_end t_first t_total q265.2 ((-1 : Int32)))
  else
    (xf_wd_lineAhead t_begin t_digits t_end q265.2 t_total).bind fun q268 =>
    xf_wd_takeReference_17 t_begin t_digits t_end t_first t_total q265.2 q268
def xf_mr_readList_66 (t_words_begin : (Nat → Int32)) (t_words_digits : (Nat → Int32)) (t_words_end : (Nat → Int32)) (t_words_first : (Nat → Int32)) (t_words_total : Int32) (n : Nat) (N : Nat) : (Nat → Int32) → (Nat → Int32) → (Nat → Int32) → Int32 → (Nat → Int32) → Int32 → Int32 → Int32 → Int32 → Option (Int32 × (Nat → Int32) × (Nat → Int32) × (Nat → Int32) × Int32 × (Nat → Int32) × Int32) :=
  Nat.rec (motive := fun _ => (Nat → Int32) → (Nat → Int32) → (Nat → Int32) → Int32 → (Nat → Int32) → Int32 → Int32 → Int32 → Int32 → Option (Int32 × (Nat → Int32) × (Nat → Int32) × (Nat → Int32) × Int32 × (Nat → Int32) × Int32)) (fun _ _ _ _ _ _ _ _ _ => none) (fun _ k66 t_model_items t_model_sort t_model_start t_model_used t_model_value t_words_now v1 v2 v3 =>
    if v3 < ((6 : Int32)) then
      (if v2 = (0 : Int32) then
        ((xf_wd_takeNumber t_words_digits t_words_first t_words_total t_words_now).bind fun q258 =>
        xf_mr_readList_93 t_words_begin t_words_digits t_words_end t_words_first t_words_total k66 n t_model_items t_model_sort t_model_start t_model_used t_model_value q258.2 v1 v2 v3 q258.1)
      else
        (xf_wd_takeReference t_words_begin t_words_digits t_words_end t_words_first t_words_total t_words_now).bind fun q269 =>
        xf_mr_readList_93 t_words_begin t_words_digits t_words_end t_words_first t_words_total k66 n t_model_items t_model_sort t_model_start t_model_used t_model_value q269.2 v1 v2 v3 q269.1)
    else
      some ((0 : Int32), t_model_items, t_model_sort, t_model_start, t_model_used, t_model_value, t_words_now)) N
def xf_mr_readList_46 (t_words_begin : (Nat → Int32)) (t_words_digits : (Nat → Int32)) (t_words_end : (Nat → Int32)) (t_words_first : (Nat → Int32)) (t_words_total : Int32) (n : Nat) (t_model_items : (Nat → Int32)) (t_model_sort : (Nat → Int32)) (t_model_start : (Nat → Int32)) (t_model_used : Int32) (t_model_value : (Nat → Int32)) (t_words_now : Int32) (v1 : Int32) (v2 : Int32) (s1 : Int32) (s2 : Int32) : Option (Int32 × (Nat → Int32) × (Nat → Int32) × (Nat → Int32) × Int32 × (Nat → Int32) × Int32) :=
  (xf_md_put t_model_used t_model_sort t_model_start t_model_value s1 s2 ((0 : Int32))).bind fun q240 =>
  (xf_wd_takes t_words_first t_words_total t_words_now ((41 : Int32))).bind fun q241 =>
  if q241.1 = (0 : Int32) then
    (xf_mr_readList_66 t_words_begin t_words_digits t_words_end t_words_first t_words_total n n t_model_items q240.2.1 q240.2.2.1 t_model_used q240.2.2.2 q241.2 v1 v2 ((0 : Int32)))
  else
    some ((1 : Int32), t_model_items, q240.2.1, q240.2.2.1, t_model_used, q240.2.2.2, q241.2)
def xf_mr_readList_31 (t_words_begin : (Nat → Int32)) (t_words_digits : (Nat → Int32)) (t_words_end : (Nat → Int32)) (t_words_first : (Nat → Int32)) (t_words_total : Int32) (n : Nat) (t_model_items : (Nat → Int32)) (t_model_sort : (Nat → Int32)) (t_model_start : (Nat → Int32)) (t_model_used : Int32) (t_model_value : (Nat → Int32)) (t_words_now : Int32) (v1 : Int32) (s0 : Int32) : Option (Int32 × (Nat → Int32) × (Nat → Int32) × (Nat → Int32) × Int32 × (Nat → Int32) × Int32) :=
  if s0 = (0 : Int32) then
    (xf_mr_readList_46 t_words_begin t_words_digits t_words_end t_words_first t_words_total n t_model_items t_model_sort t_model_start t_model_used t_model_value t_words_now v1 s0 v1 ((3 : Int32)))
  else
    xf_mr_readList_46 t_words_begin t_words_digits t_words_end t_words_first t_words_total n t_model_items t_model_sort t_model_start t_model_used t_model_value t_words_now v1 s0 v1 ((4 : Int32))
def xf_mr_readList (t_words_begin : (Nat → Int32)) (t_words_digits : (Nat → Int32)) (t_words_end : (Nat → Int32)) (t_words_first : (Nat → Int32)) (t_words_total : Int32) (n : Nat) (t_model_items : (Nat → Int32)) (t_model_sort : (Nat → Int32)) (t_model_start : (Nat → Int32)) (t_model_used : Int32) (t_model_value : (Nat → Int32)) (t_words_now : Int32) (a1 : Int32) : Option (Int32 × (Nat → Int32) × (Nat → Int32) × (Nat → Int32) × Int32 × (Nat → Int32) × Int32) :=
  (xf_wd_takes t_words_first t_words_total t_words_now ((40 : Int32))).bind fun q235 =>
  if q235.1 = (0 : Int32) then
    (some ((0 : Int32), t_model_items, t_model_sort, t_model_start, t_model_used, t_model_value, q235.2))
  else
    (xf_wd_ahead t_words_first q235.2 t_words_total).bind fun q237 =>
    if q237 = ((35 : Int32)) then
      (xf_mr_readList_31 t_words_begin t_words_digits t_words_end t_words_first t_words_total n t_model_items t_model_sort t_model_start t_model_used t_model_value q235.2 a1 ((1 : Int32)))
    else
      xf_mr_readList_31 t_words_begin t_words_digits t_words_end t_words_first t_words_total n t_model_items t_model_sort t_model_start t_model_used t_model_value q235.2 a1 ((0 : Int32))
def xf_mr_readArgument_136 (t_words_begin : (Nat → Int32)) (t_words_digits : (Nat → Int32)) (t_words_end : (Nat → Int32)) (t_words_first : (Nat → Int32)) (t_words_page_length : Int32) (t_words_page_signs : (Nat → Int32)) (t_words_total : Int32) (n : Nat) (t_model_items : (Nat → Int32)) (t_model_sort : (Nat → Int32)) (t_model_start : (Nat → Int32)) (t_model_used : Int32) (t_model_value : (Nat → Int32)) (t_words_now : Int32) (s0 : Int32) : Option (Int32 × (Nat → Int32) × (Nat → Int32) × (Nat → Int32) × Int32 × (Nat → Int32) × Int32) :=
  if fits .boolean (.int s0) = true then some (s0, t_model_items, t_model_sort, t_model_start, t_model_used, t_model_value, t_words_now) else none
def xf_mr_readArgument_119 (t_words_begin : (Nat → Int32)) (t_words_digits : (Nat → Int32)) (t_words_end : (Nat → Int32)) (t_words_first : (Nat → Int32)) (t_words_page_length : Int32) (t_words_page_signs : (Nat → Int32)) (t_words_total : Int32) (n : Nat) (t_model_items : (Nat → Int32)) (t_model_sort : (Nat → Int32)) (t_model_start : (Nat → Int32)) (t_model_used : Int32) (t_model_value : (Nat → Int32)) (t_words_now : Int32) (v4 : Int32) (s1 : Int32) (s2 : Int32) : Option (Int32 × (Nat → Int32) × (Nat → Int32) × (Nat → Int32) × Int32 × (Nat → Int32) × Int32) :=
  (xf_md_put t_model_used t_model_sort t_model_start t_model_value s1 s2 v4).bind fun q276 =>
  if v4 = ((-2000000000 : Int32)) then
    (xf_mr_readArgument_136 t_words_begin t_words_digits t_words_end t_words_first t_words_page_length t_words_page_signs t_words_total n t_model_items q276.2.1 q276.2.2.1 t_model_used q276.2.2.2 t_words_now ((0 : Int32)))
  else
    xf_mr_readArgument_136 t_words_begin t_words_digits t_words_end t_words_first t_words_page_length t_words_page_signs t_words_total n t_model_items q276.2.1 q276.2.2.1 t_model_used q276.2.2.2 t_words_now ((1 : Int32))
def xf_mr_readArgument_103 (t_words_begin : (Nat → Int32)) (t_words_digits : (Nat → Int32)) (t_words_end : (Nat → Int32)) (t_words_first : (Nat → Int32)) (t_words_page_length : Int32) (t_words_page_signs : (Nat → Int32)) (t_words_total : Int32) (n : Nat) (t_model_items : (Nat → Int32)) (t_model_sort : (Nat → Int32)) (t_model_start : (Nat → Int32)) (t_model_used : Int32) (t_model_value : (Nat → Int32)) (t_words_now : Int32) (v1 : Int32) (v3 : Int32) (s0 : Int32) : Option (Int32 × (Nat → Int32) × (Nat → Int32) × (Nat → Int32) × Int32 × (Nat → Int32) × Int32) :=
  if v3 = (0 : Int32) then
    (xf_mr_readArgument_119 t_words_begin t_words_digits t_words_end t_words_first t_words_page_length t_words_page_signs t_words_total n t_model_items t_model_sort t_model_start t_model_used t_model_value t_words_now s0 v1 ((0 : Int32)))
  else
    xf_mr_readArgument_119 t_words_begin t_words_digits t_words_end t_words_first t_words_page_length t_words_page_signs t_words_total n t_model_items t_model_sort t_model_start t_model_used t_model_value t_words_now s0 v1 ((2 : Int32))
def xf_mr_readArgument_81 (t_words_begin : (Nat → Int32)) (t_words_digits : (Nat → Int32)) (t_words_end : (Nat → Int32)) (t_words_first : (Nat → Int32)) (t_words_page_length : Int32) (t_words_page_signs : (Nat → Int32)) (t_words_total : Int32) (n : Nat) (t_model_items : (Nat → Int32)) (t_model_sort : (Nat → Int32)) (t_model_start : (Nat → Int32)) (t_model_used : Int32) (t_model_value : (Nat → Int32)) (t_words_now : Int32) (v1 : Int32) (s0 : Int32) : Option (Int32 × (Nat → Int32) × (Nat → Int32) × (Nat → Int32) × Int32 × (Nat → Int32) × Int32) :=
  if s0 = (0 : Int32) then
    ((xf_wd_takeNumber t_words_digits t_words_first t_words_total t_words_now).bind fun q274 =>
    xf_mr_readArgument_103 t_words_begin t_words_digits t_words_end t_words_first t_words_page_length t_words_page_signs t_words_total n t_model_items t_model_sort t_model_start t_model_used t_model_value q274.2 v1 s0 q274.1)
  else
    (xf_wd_takeReference t_words_begin t_words_digits t_words_end t_words_first t_words_total t_words_now).bind fun q279 =>
    xf_mr_readArgument_103 t_words_begin t_words_digits t_words_end t_words_first t_words_page_length t_words_page_signs t_words_total n t_model_items t_model_sort t_model_start t_model_used t_model_value q279.2 v1 s0 q279.1
def xf_mr_readArgument (t_words_begin : (Nat → Int32)) (t_words_digits : (Nat → Int32)) (t_words_end : (Nat → Int32)) (t_words_first : (Nat → Int32)) (t_words_page_length : Int32) (t_words_page_signs : (Nat → Int32)) (t_words_total : Int32) (n : Nat) (t_model_items : (Nat → Int32)) (t_model_sort : (Nat → Int32)) (t_model_start : (Nat → Int32)) (t_model_used : Int32) (t_model_value : (Nat → Int32)) (t_words_now : Int32) (a1 : Int32) : Option (Int32 × (Nat → Int32) × (Nat → Int32) × (Nat → Int32) × Int32 × (Nat → Int32) × Int32) :=
  (xf_wd_ahead t_words_first t_words_now t_words_total).bind fun q178 =>
  if q178 = ((36 : Int32)) then
    ((xf_wd_step t_words_now).bind fun q180 =>
    (xf_md_put t_model_used t_model_sort t_model_start t_model_value a1 ((6 : Int32)) ((0 : Int32))).bind fun q184 =>
    some ((1 : Int32), t_model_items, q184.2.1, q184.2.2.1, t_model_used, q184.2.2.2, q180.2))
  else
    if q178 = ((39 : Int32)) then
      ((xf_mr_readText t_words_begin t_words_end t_words_first t_words_page_length t_words_page_signs t_words_total n t_model_items t_model_sort t_model_start t_model_used t_model_value t_words_now a1).bind fun q213 =>
      if fits .boolean (.int q213.1) = true then some (q213.1, q213.2.1, q213.2.2.1, q213.2.2.2.1, q213.2.2.2.2.1, q213.2.2.2.2.2.1, q213.2.2.2.2.2.2) else none)
    else
      if q178 = ((46 : Int32)) then
        ((xf_mr_readWord t_words_begin t_words_end t_words_first t_words_page_length t_words_page_signs t_words_total n t_model_items t_model_sort t_model_start t_model_used t_model_value t_words_now a1).bind fun q232 =>
        if fits .boolean (.int q232.1) = true then some (q232.1, q232.2.1, q232.2.2.1, q232.2.2.2.1, q232.2.2.2.2.1, q232.2.2.2.2.2.1, q232.2.2.2.2.2.2) else none)
      else
        if q178 = ((40 : Int32)) then
          ((xf_mr_readList t_words_begin t_words_digits t_words_end t_words_first t_words_total n t_model_items t_model_sort t_model_start t_model_used t_model_value t_words_now a1).bind fun q270 =>
          if fits .boolean (.int q270.1) = true then some (q270.1, q270.2.1, q270.2.2.1, q270.2.2.2.1, q270.2.2.2.2.1, q270.2.2.2.2.2.1, q270.2.2.2.2.2.2) else none)
        else
          if q178 = ((35 : Int32)) then
            (xf_mr_readArgument_81 t_words_begin t_words_digits t_words_end t_words_first t_words_page_length t_words_page_signs t_words_total n t_model_items t_model_sort t_model_start t_model_used t_model_value t_words_now a1 ((1 : Int32)))
          else
            xf_mr_readArgument_81 t_words_begin t_words_digits t_words_end t_words_first t_words_page_length t_words_page_signs t_words_total n t_model_items t_model_sort t_model_start t_model_used t_model_value t_words_now a1 ((0 : Int32))
def xf_mr_readArguments_2 (t_model_rows : Int32) (t_words_begin : (Nat → Int32)) (t_words_digits : (Nat → Int32)) (t_words_end : (Nat → Int32)) (t_words_first : (Nat → Int32)) (t_words_page_length : Int32) (t_words_page_signs : (Nat → Int32)) (t_words_total : Int32) (n : Nat) (N : Nat) : (Nat → Int32) → (Nat → Int32) → (Nat → Int32) → (Nat → Int32) → Int32 → (Nat → Int32) → Int32 → Int32 → Option (Int32 × (Nat → Int32) × (Nat → Int32) × (Nat → Int32) × (Nat → Int32) × Int32 × (Nat → Int32) × Int32) :=
  Nat.rec (motive := fun _ => (Nat → Int32) → (Nat → Int32) → (Nat → Int32) → (Nat → Int32) → Int32 → (Nat → Int32) → Int32 → Int32 → Option (Int32 × (Nat → Int32) × (Nat → Int32) × (Nat → Int32) × (Nat → Int32) × Int32 × (Nat → Int32) × Int32)) (fun _ _ _ _ _ _ _ _ => none) (fun _ k2 t_model_items t_model_size t_model_sort t_model_start t_model_used t_model_value t_words_now v1 =>
    if v1 < ((8 : Int32)) then
      ((xf_md_addArgument t_model_rows t_model_size).bind fun q176 =>
      if q176.1 = ((-1 : Int32)) then
        (xf_mr_readArguments_29 t_model_rows t_words_begin t_words_digits t_words_end t_words_first t_words_page_length t_words_page_signs t_words_total n t_model_items q176.2 t_model_sort t_model_start t_model_used t_model_value t_words_now)
      else
        (xf_mr_readArgument t_words_begin t_words_digits t_words_end t_words_first t_words_page_length t_words_page_signs t_words_total n t_model_items t_model_sort t_model_start t_model_used t_model_value t_words_now q176.1).bind fun q280 =>
        if q280.1 = (0 : Int32) then
          (xf_mr_readArguments_29 t_model_rows t_words_begin t_words_digits t_words_end t_words_first t_words_page_length t_words_page_signs t_words_total n q280.2.1 q176.2 q280.2.2.1 q280.2.2.2.1 q280.2.2.2.2.1 q280.2.2.2.2.2.1 q280.2.2.2.2.2.2)
        else
          (xf_wd_takes t_words_first t_words_total q280.2.2.2.2.2.2 ((41 : Int32))).bind fun q282 =>
          if q282.1 = (0 : Int32) then
            ((xf_wd_takes t_words_first t_words_total q282.2 ((44 : Int32))).bind fun q284 =>
            if q284.1 = (0 : Int32) then
              (some ((0 : Int32), q280.2.1, q176.2, q280.2.2.1, q280.2.2.2.1, q280.2.2.2.2.1, q280.2.2.2.2.2.1, q284.2))
            else
              k2 q280.2.1 q176.2 q280.2.2.1 q280.2.2.2.1 q280.2.2.2.2.1 q280.2.2.2.2.2.1 q284.2 (v1 + (1 : Int32)))
          else
            some ((1 : Int32), q280.2.1, q176.2, q280.2.2.1, q280.2.2.2.1, q280.2.2.2.2.1, q280.2.2.2.2.2.1, q282.2))
    else
      some ((0 : Int32), t_model_items, t_model_size, t_model_sort, t_model_start, t_model_used, t_model_value, t_words_now)) N
def xf_mr_readArguments (t_model_rows : Int32) (t_words_begin : (Nat → Int32)) (t_words_digits : (Nat → Int32)) (t_words_end : (Nat → Int32)) (t_words_first : (Nat → Int32)) (t_words_page_length : Int32) (t_words_page_signs : (Nat → Int32)) (t_words_total : Int32) (n : Nat) (t_model_items : (Nat → Int32)) (t_model_size : (Nat → Int32)) (t_model_sort : (Nat → Int32)) (t_model_start : (Nat → Int32)) (t_model_used : Int32) (t_model_value : (Nat → Int32)) (t_words_now : Int32) : Option (Int32 × (Nat → Int32) × (Nat → Int32) × (Nat → Int32) × (Nat → Int32) × Int32 × (Nat → Int32) × Int32) :=
  xf_mr_readArguments_2 t_model_rows t_words_begin t_words_digits t_words_end t_words_first t_words_page_length t_words_page_signs t_words_total n n t_model_items t_model_size t_model_sort t_model_start t_model_used t_model_value t_words_now ((0 : Int32))
def xf_mr_readAll_17 (t_words_page_length : Int32) (t_words_page_signs : (Nat → Int32)) (n : Nat) (N : Nat) : (Nat → Int32) → Int32 → (Nat → Int64) → (Nat → Int32) → (Nat → Int32) → Int32 → (Nat → Int32) → (Nat → Int32) → (Nat → Int32) → Int32 → (Nat → Int32) → (Nat → Int32) → (Nat → Int32) → (Nat → Int32) → (Nat → Int32) → Int32 → Int32 → Int32 → Option (Int32 × (Nat → Int32) × Int32 × (Nat → Int64) × (Nat → Int32) × (Nat → Int32) × Int32 × (Nat → Int32) × (Nat → Int32) × (Nat → Int32) × Int32 × (Nat → Int32) × (Nat → Int32) × (Nat → Int32) × (Nat → Int32) × (Nat → Int32) × Int32 × Int32) :=
  Nat.rec (motive := fun _ => (Nat → Int32) → Int32 → (Nat → Int64) → (Nat → Int32) → (Nat → Int32) → Int32 → (Nat → Int32) → (Nat → Int32) → (Nat → Int32) → Int32 → (Nat → Int32) → (Nat → Int32) → (Nat → Int32) → (Nat → Int32) → (Nat → Int32) → Int32 → Int32 → Int32 → Option (Int32 × (Nat → Int32) × Int32 × (Nat → Int64) × (Nat → Int32) × (Nat → Int32) × Int32 × (Nat → Int32) × (Nat → Int32) × (Nat → Int32) × Int32 × (Nat → Int32) × (Nat → Int32) × (Nat → Int32) × (Nat → Int32) × (Nat → Int32) × Int32 × Int32)) (fun _ _ _ _ _ _ _ _ _ _ _ _ _ _ _ _ _ _ => none) (fun _ k17 t_model_items t_model_lines t_model_name t_model_number t_model_order t_model_rows t_model_size t_model_sort t_model_start t_model_used t_model_value t_words_begin t_words_digits t_words_end t_words_first t_words_now t_words_total v1 =>
    if ((40 : Int32)) < v1 then
      (xf_mr_readAll_67 t_words_page_length t_words_page_signs n t_model_items t_model_lines t_model_name t_model_number t_model_order t_model_rows t_model_size t_model_sort t_model_start t_model_used t_model_value t_words_begin t_words_digits t_words_end t_words_first t_words_now t_words_total)
    else
      (xf_wd_more t_words_now t_words_total).bind fun q126 =>
      if q126 = (0 : Int32) then
        (xf_mr_readAll_67 t_words_page_length t_words_page_signs n t_model_items t_model_lines t_model_name t_model_number t_model_order t_model_rows t_model_size t_model_sort t_model_start t_model_used t_model_value t_words_begin t_words_digits t_words_end t_words_first t_words_now t_words_total)
      else
        (xf_mr_readHead t_words_begin t_words_digits t_words_end t_words_first t_words_page_length t_words_page_signs t_words_total n t_model_lines t_model_name t_model_number t_model_order t_model_rows t_model_size t_words_now).bind fun q167 =>
        if q167.1 = (0 : Int32) then
          (xf_mr_readAll_59 t_words_page_length t_words_page_signs n t_model_items q167.2.1 q167.2.2.1 q167.2.2.2.1 q167.2.2.2.2.1 q167.2.2.2.2.2.1 q167.2.2.2.2.2.2.1 t_model_sort t_model_start t_model_used t_model_value t_words_begin t_words_digits t_words_end t_words_first q167.2.2.2.2.2.2.2 t_words_total)
        else
          (xf_mr_readArguments q167.2.2.2.2.2.1 t_words_begin t_words_digits t_words_end t_words_first t_words_page_length t_words_page_signs t_words_total n t_model_items q167.2.2.2.2.2.2.1 t_model_sort t_model_start t_model_used t_model_value q167.2.2.2.2.2.2.2).bind fun q286 =>
          if q286.1 = (0 : Int32) then
            (xf_mr_readAll_59 t_words_page_length t_words_page_signs n q286.2.1 q167.2.1 q167.2.2.1 q167.2.2.2.1 q167.2.2.2.2.1 q167.2.2.2.2.2.1 q286.2.2.1 q286.2.2.2.1 q286.2.2.2.2.1 q286.2.2.2.2.2.1 q286.2.2.2.2.2.2.1 t_words_begin t_words_digits t_words_end t_words_first q286.2.2.2.2.2.2.2 t_words_total)
          else
            (xf_wd_takes t_words_first t_words_total q286.2.2.2.2.2.2.2 ((59 : Int32))).bind fun q288 =>
            if q288.1 = (0 : Int32) then
              (xf_mr_readAll_59 t_words_page_length t_words_page_signs n q286.2.1 q167.2.1 q167.2.2.1 q167.2.2.2.1 q167.2.2.2.2.1 q167.2.2.2.2.2.1 q286.2.2.1 q286.2.2.2.1 q286.2.2.2.2.1 q286.2.2.2.2.2.1 q286.2.2.2.2.2.2.1 t_words_begin t_words_digits t_words_end t_words_first q288.2 t_words_total)
            else
              k17 q286.2.1 q167.2.1 q167.2.2.1 q167.2.2.2.1 q167.2.2.2.2.1 q167.2.2.2.2.2.1 q286.2.2.1 q286.2.2.2.1 q286.2.2.2.2.1 q286.2.2.2.2.2.1 q286.2.2.2.2.2.2.1 t_words_begin t_words_digits t_words_end t_words_first q288.2 t_words_total (v1 + (1 : Int32))) N
def xf_mr_readAll (t_words_page_length : Int32) (t_words_page_signs : (Nat → Int32)) (n : Nat) (t_model_items : (Nat → Int32)) (t_model_lines : Int32) (t_model_name : (Nat → Int64)) (t_model_number : (Nat → Int32)) (t_model_order : (Nat → Int32)) (t_model_rows : Int32) (t_model_size : (Nat → Int32)) (t_model_sort : (Nat → Int32)) (t_model_start : (Nat → Int32)) (t_model_used : Int32) (t_model_value : (Nat → Int32)) (t_words_begin : (Nat → Int32)) (t_words_digits : (Nat → Int32)) (t_words_end : (Nat → Int32)) (t_words_first : (Nat → Int32)) (t_words_now : Int32) (t_words_total : Int32) : Option (Int32 × (Nat → Int32) × Int32 × (Nat → Int64) × (Nat → Int32) × (Nat → Int32) × Int32 × (Nat → Int32) × (Nat → Int32) × (Nat → Int32) × Int32 × (Nat → Int32) × (Nat → Int32) × (Nat → Int32) × (Nat → Int32) × (Nat → Int32) × Int32 × Int32) :=
  (xf_md_clear t_model_lines t_model_rows t_model_used).bind fun q123 =>
  (xf_wd_split t_words_page_length t_words_page_signs n t_words_begin t_words_digits t_words_end t_words_first t_words_now t_words_total ((0 : Int32))).bind fun q124 =>
  xf_mr_readAll_17 t_words_page_length t_words_page_signs n n t_model_items q123.2.1 t_model_name t_model_number t_model_order q123.2.2.1 t_model_size t_model_sort t_model_start q123.2.2.2 t_model_value q124.2.1 q124.2.2.1 q124.2.2.2.1 q124.2.2.2.2.1 q124.2.2.2.2.2.1 q124.2.2.2.2.2.2 ((0 : Int32))
def xf_md_isLost_29 (t_items : (Nat → Int32)) (t_lines : Int32) (t_number : (Nat → Int32)) (t_order : (Nat → Int32)) (t_sort : (Nat → Int32)) (t_start : (Nat → Int32)) (t_used : Int32) (t_value : (Nat → Int32)) (n : Nat) (s0 : Int32) : Option (Int32) :=
  if fits .boolean (.int s0) = true then some s0 else none
def xf_md_itemAt_31 (t_items : (Nat → Int32)) (t_start : (Nat → Int32)) (t_used : Int32) (s0 : Int32) : Option (Int32) :=
  some s0
def xf_md_itemAt_30 (t_items : (Nat → Int32)) (t_start : (Nat → Int32)) (t_used : Int32) : Option (Int32) :=
  xf_md_itemAt_31 t_items t_start t_used ((0 : Int32))
def xf_md_itemAt (t_items : (Nat → Int32)) (t_start : (Nat → Int32)) (t_used : Int32) (a1 : Int32) (a2 : Int32) : Option (Int32) :=
  if xr_in a1 320 = true then
    (if ((t_start a1.toNatClampNeg) + a2) < (0 : Int32) then
      (xf_md_itemAt_30 t_items t_start t_used)
    else
      if ((t_start a1.toNatClampNeg) + a2) < t_used then
        (if xr_in ((t_start a1.toNatClampNeg) + a2) 1200 = true then
          (xf_md_itemAt_31 t_items t_start t_used (t_items ((t_start a1.toNatClampNeg) + a2).toNatClampNeg))
        else none)
      else
        xf_md_itemAt_30 t_items t_start t_used)
  else none
def xf_md_isLost_74 (t_items : (Nat → Int32)) (t_lines : Int32) (t_number : (Nat → Int32)) (t_order : (Nat → Int32)) (t_sort : (Nat → Int32)) (t_start : (Nat → Int32)) (t_used : Int32) (t_value : (Nat → Int32)) (n : Nat) : Option (Int32) :=
  some ((0 : Int32))
def xf_md_isLost_42 (t_items : (Nat → Int32)) (t_lines : Int32) (t_number : (Nat → Int32)) (t_order : (Nat → Int32)) (t_sort : (Nat → Int32)) (t_start : (Nat → Int32)) (t_used : Int32) (t_value : (Nat → Int32)) (n : Nat) (N : Nat) : Int32 → Int32 → Option (Int32) :=
  Nat.rec (motive := fun _ => Int32 → Int32 → Option (Int32)) (fun _ _ => none) (fun _ k42 v1 v2 =>
    if xr_in v1 320 = true then
      (if v2 < (t_value v1.toNatClampNeg) then
        ((xf_md_itemAt t_items t_start t_used v1 v2).bind fun q310 =>
        (xf_md_rowOf t_lines t_number t_order n q310).bind fun q311 =>
        if q311 = ((-1 : Int32)) then
          (some ((1 : Int32)))
        else
          k42 v1 (v2 + (1 : Int32)))
      else
        xf_md_isLost_74 t_items t_lines t_number t_order t_sort t_start t_used t_value n)
    else none) N
def xf_md_isLost (t_items : (Nat → Int32)) (t_lines : Int32) (t_number : (Nat → Int32)) (t_order : (Nat → Int32)) (t_sort : (Nat → Int32)) (t_start : (Nat → Int32)) (t_used : Int32) (t_value : (Nat → Int32)) (n : Nat) (a1 : Int32) : Option (Int32) :=
  if xr_in a1 320 = true then
    (if (t_sort a1.toNatClampNeg) = ((2 : Int32)) then
      (if xr_in a1 320 = true then
        ((xf_md_rowOf t_lines t_number t_order n (t_value a1.toNatClampNeg)).bind fun q299 =>
        if q299 = ((-1 : Int32)) then
          (xf_md_isLost_29 t_items t_lines t_number t_order t_sort t_start t_used t_value n ((1 : Int32)))
        else
          xf_md_isLost_29 t_items t_lines t_number t_order t_sort t_start t_used t_value n ((0 : Int32)))
      else none)
    else
      if xr_in a1 320 = true then
        (if (t_sort a1.toNatClampNeg) = ((4 : Int32)) then
          (xf_md_isLost_42 t_items t_lines t_number t_order t_sort t_start t_used t_value n n a1 ((0 : Int32)))
        else
          xf_md_isLost_74 t_items t_lines t_number t_order t_sort t_start t_used t_value n)
      else none)
  else none
def xf_md_firstLost_12 (t_items : (Nat → Int32)) (t_lines : Int32) (t_number : (Nat → Int32)) (t_order : (Nat → Int32)) (t_rows : Int32) (t_size : (Nat → Int32)) (t_sort : (Nat → Int32)) (t_start : (Nat → Int32)) (t_used : Int32) (t_value : (Nat → Int32)) (k2 : Int32 → Option (Int32)) (n : Nat) (N : Nat) : Int32 → Int32 → Option (Int32) :=
  Nat.rec (motive := fun _ => Int32 → Int32 → Option (Int32)) (fun _ _ => none) (fun _ k12 v1 v2 =>
    if xr_in v1 40 = true then
      (if v2 < (t_size v1.toNatClampNeg) then
        ((xf_md_isLost t_items t_lines t_number t_order t_sort t_start t_used t_value n ((v1 * ((8 : Int32))) + v2)).bind fun q313 =>
        if q313 = (0 : Int32) then
          (k12 v1 (v2 + (1 : Int32)))
        else
          if xr_in v1 40 = true then
            (some (t_number v1.toNatClampNeg))
          else none)
      else
        k2 (v1 + (1 : Int32)))
    else none) N
def xf_md_firstLost_2 (t_items : (Nat → Int32)) (t_lines : Int32) (t_number : (Nat → Int32)) (t_order : (Nat → Int32)) (t_rows : Int32) (t_size : (Nat → Int32)) (t_sort : (Nat → Int32)) (t_start : (Nat → Int32)) (t_used : Int32) (t_value : (Nat → Int32)) (n : Nat) (N : Nat) : Int32 → Option (Int32) :=
  Nat.rec (motive := fun _ => Int32 → Option (Int32)) (fun _ => none) (fun _ k2 v1 =>
    if v1 < t_rows then
      (xf_md_firstLost_12 t_items t_lines t_number t_order t_rows t_size t_sort t_start t_used t_value k2 n n v1 ((0 : Int32)))
    else
      some ((-1 : Int32))) N
def xf_md_firstLost (t_items : (Nat → Int32)) (t_lines : Int32) (t_number : (Nat → Int32)) (t_order : (Nat → Int32)) (t_rows : Int32) (t_size : (Nat → Int32)) (t_sort : (Nat → Int32)) (t_start : (Nat → Int32)) (t_used : Int32) (t_value : (Nat → Int32)) (n : Nat) : Option (Int32) :=
  xf_md_firstLost_2 t_items t_lines t_number t_order t_rows t_size t_sort t_start t_used t_value n n ((0 : Int32))
def xf_md_copyFrom (p1_items : (Nat → Int32)) (p1_lines : Int32) (p1_name : (Nat → Int64)) (p1_number : (Nat → Int32)) (p1_order : (Nat → Int32)) (p1_rows : Int32) (p1_size : (Nat → Int32)) (p1_sort : (Nat → Int32)) (p1_start : (Nat → Int32)) (p1_used : Int32) (p1_value : (Nat → Int32)) (t_items : (Nat → Int32)) (t_lines : Int32) (t_name : (Nat → Int64)) (t_number : (Nat → Int32)) (t_order : (Nat → Int32)) (t_rows : Int32) (t_size : (Nat → Int32)) (t_sort : (Nat → Int32)) (t_start : (Nat → Int32)) (t_used : Int32) (t_value : (Nat → Int32)) : Option (Unit × (Nat → Int32) × Int32 × (Nat → Int64) × (Nat → Int32) × (Nat → Int32) × Int32 × (Nat → Int32) × (Nat → Int32) × (Nat → Int32) × Int32 × (Nat → Int32)) :=
  if xr_cg ((0 : Int32)) ((0 : Int32)) p1_rows 40 40 then
    (if xr_cg ((0 : Int32)) ((0 : Int32)) p1_rows 40 40 then
      (if xr_cg ((0 : Int32)) ((0 : Int32)) p1_rows 40 40 then
        (if xr_cg ((0 : Int32)) ((0 : Int32)) p1_lines 40 40 then
          (if xr_cg ((0 : Int32)) ((0 : Int32)) (p1_rows * ((8 : Int32))) 320 320 then
            (if xr_cg ((0 : Int32)) ((0 : Int32)) (p1_rows * ((8 : Int32))) 320 320 then
              (if xr_cg ((0 : Int32)) ((0 : Int32)) (p1_rows * ((8 : Int32))) 320 320 then
                (if xr_cg ((0 : Int32)) ((0 : Int32)) p1_used 1200 1200 then
                  (some ((), va_cpy p1_items t_items ((0 : Int32)).toNatClampNeg ((0 : Int32)).toNatClampNeg p1_used.toNatClampNeg, p1_lines, va_cpy p1_name t_name ((0 : Int32)).toNatClampNeg ((0 : Int32)).toNatClampNeg p1_rows.toNatClampNeg, va_cpy p1_number t_number ((0 : Int32)).toNatClampNeg ((0 : Int32)).toNatClampNeg p1_rows.toNatClampNeg, va_cpy p1_order t_order ((0 : Int32)).toNatClampNeg ((0 : Int32)).toNatClampNeg p1_lines.toNatClampNeg, p1_rows, va_cpy p1_size t_size ((0 : Int32)).toNatClampNeg ((0 : Int32)).toNatClampNeg p1_rows.toNatClampNeg, va_cpy p1_sort t_sort ((0 : Int32)).toNatClampNeg ((0 : Int32)).toNatClampNeg (p1_rows * ((8 : Int32))).toNatClampNeg, va_cpy p1_start t_start ((0 : Int32)).toNatClampNeg ((0 : Int32)).toNatClampNeg (p1_rows * ((8 : Int32))).toNatClampNeg, p1_used, va_cpy p1_value t_value ((0 : Int32)).toNatClampNeg ((0 : Int32)).toNatClampNeg (p1_rows * ((8 : Int32))).toNatClampNeg))
                else none)
              else none)
            else none)
          else none)
        else none)
      else none)
    else none)
  else none
def xf_md_rowAt_22 (t_lines : Int32) (t_order : (Nat → Int32)) (s0 : Int32) : Option (Int32) :=
  some s0
def xf_md_rowAt_21 (t_lines : Int32) (t_order : (Nat → Int32)) : Option (Int32) :=
  xf_md_rowAt_22 t_lines t_order ((-1 : Int32))
def xf_md_rowAt (t_lines : Int32) (t_order : (Nat → Int32)) (a1 : Int32) : Option (Int32) :=
  if a1 < (0 : Int32) then
    (xf_md_rowAt_21 t_lines t_order)
  else
    if a1 < t_lines then
      (if xr_in a1 40 = true then
        (xf_md_rowAt_22 t_lines t_order (t_order a1.toNatClampNeg))
      else none)
    else
      xf_md_rowAt_21 t_lines t_order
def xf_gr_bitOf_21 (t_model_lines : Int32) (t_model_number : (Nat → Int32)) (t_model_order : (Nat → Int32)) (n : Nat) (s0 : Int64) : Option (Int64) :=
  some s0
def xf_gr_bitOf (t_model_lines : Int32) (t_model_number : (Nat → Int32)) (t_model_order : (Nat → Int32)) (n : Nat) (a1 : Int32) : Option (Int64) :=
  (xf_md_rowOf t_model_lines t_model_number t_model_order n a1).bind fun q342 =>
  if q342 = ((-1 : Int32)) then
    (xf_gr_bitOf_21 t_model_lines t_model_number t_model_order n ((0 : Int64)))
  else
    xf_gr_bitOf_21 t_model_lines t_model_number t_model_order n (xe_shl ((1 : Int64)) q342)
def xf_gr_bitsOf_118 (t_model_items : (Nat → Int32)) (t_model_lines : Int32) (t_model_number : (Nat → Int32)) (t_model_order : (Nat → Int32)) (t_model_size : (Nat → Int32)) (t_model_sort : (Nat → Int32)) (t_model_start : (Nat → Int32)) (t_model_used : Int32) (t_model_value : (Nat → Int32)) (k5 : Int32 → Int64 → Int32 → Option (Int64)) (n : Nat) (v1 : Int32) (v2 : Int64) (v4 : Int32) : Option (Int64) :=
  k5 v1 v2 (v4 + (1 : Int32))
def xf_gr_bitsOf_79 (t_model_items : (Nat → Int32)) (t_model_lines : Int32) (t_model_number : (Nat → Int32)) (t_model_order : (Nat → Int32)) (t_model_size : (Nat → Int32)) (t_model_sort : (Nat → Int32)) (t_model_start : (Nat → Int32)) (t_model_used : Int32) (t_model_value : (Nat → Int32)) (k5 : Int32 → Int64 → Int32 → Option (Int64)) (n : Nat) (N : Nat) : Int32 → Int64 → Int32 → Int32 → Int32 → Option (Int64) :=
  Nat.rec (motive := fun _ => Int32 → Int64 → Int32 → Int32 → Int32 → Option (Int64)) (fun _ _ _ _ _ => none) (fun _ k79 v1 v2 v4 v5 v6 =>
    if xr_in v5 320 = true then
      (if v6 < (t_model_value v5.toNatClampNeg) then
        ((xf_md_itemAt t_model_items t_model_start t_model_used v5 v6).bind fun q353 =>
        (xf_gr_bitOf t_model_lines t_model_number t_model_order n q353).bind fun q354 =>
        k79 v1 (v2 ||| q354) v4 v5 (v6 + (1 : Int32)))
      else
        xf_gr_bitsOf_118 t_model_items t_model_lines t_model_number t_model_order t_model_size t_model_sort t_model_start t_model_used t_model_value k5 n v1 v2 v4)
    else none) N
def xf_gr_bitsOf_5 (t_model_items : (Nat → Int32)) (t_model_lines : Int32) (t_model_number : (Nat → Int32)) (t_model_order : (Nat → Int32)) (t_model_size : (Nat → Int32)) (t_model_sort : (Nat → Int32)) (t_model_start : (Nat → Int32)) (t_model_used : Int32) (t_model_value : (Nat → Int32)) (n : Nat) (N : Nat) : Int32 → Int64 → Int32 → Option (Int64) :=
  Nat.rec (motive := fun _ => Int32 → Int64 → Int32 → Option (Int64)) (fun _ _ _ => none) (fun _ k5 v1 v2 v4 =>
    if xr_in v1 40 = true then
      (if v4 < (t_model_size v1.toNatClampNeg) then
        (if xr_in ((v1 * ((8 : Int32))) + v4) 320 = true then
          (if (t_model_sort ((v1 * ((8 : Int32))) + v4).toNatClampNeg) = ((2 : Int32)) then
            (if xr_in ((v1 * ((8 : Int32))) + v4) 320 = true then
              ((xf_gr_bitOf t_model_lines t_model_number t_model_order n (t_model_value ((v1 * ((8 : Int32))) + v4).toNatClampNeg)).bind fun q344 =>
              xf_gr_bitsOf_118 t_model_items t_model_lines t_model_number t_model_order t_model_size t_model_sort t_model_start t_model_used t_model_value k5 n v1 (v2 ||| q344) v4)
            else none)
          else
            if xr_in ((v1 * ((8 : Int32))) + v4) 320 = true then
              (if (t_model_sort ((v1 * ((8 : Int32))) + v4).toNatClampNeg) = ((4 : Int32)) then
                (xf_gr_bitsOf_79 t_model_items t_model_lines t_model_number t_model_order t_model_size t_model_sort t_model_start t_model_used t_model_value k5 n n v1 v2 v4 ((v1 * ((8 : Int32))) + v4) ((0 : Int32)))
              else
                xf_gr_bitsOf_118 t_model_items t_model_lines t_model_number t_model_order t_model_size t_model_sort t_model_start t_model_used t_model_value k5 n v1 v2 v4)
            else none)
        else none)
      else
        some v2)
    else none) N
def xf_gr_bitsOf (t_model_items : (Nat → Int32)) (t_model_lines : Int32) (t_model_number : (Nat → Int32)) (t_model_order : (Nat → Int32)) (t_model_size : (Nat → Int32)) (t_model_sort : (Nat → Int32)) (t_model_start : (Nat → Int32)) (t_model_used : Int32) (t_model_value : (Nat → Int32)) (n : Nat) (a1 : Int32) : Option (Int64) :=
  xf_gr_bitsOf_5 t_model_items t_model_lines t_model_number t_model_order t_model_size t_model_sort t_model_start t_model_used t_model_value n n a1 ((0 : Int64)) ((0 : Int32))
def xf_gr_reachFurther_77 (t_model_lines : Int32) (t_model_order : (Nat → Int32)) (k2 : (Nat → Int64) → Int32 → Option (Unit × (Nat → Int64))) (k24 : (Nat → Int64) → Int32 → Int32 → Int32 → Option (Unit × (Nat → Int64))) (n : Nat) (t_reach : (Nat → Int64)) (v1 : Int32) (v2 : Int32) (v3 : Int32) : Option (Unit × (Nat → Int64)) :=
  k24 t_reach v1 v2 (v3 + (1 : Int32))
def xf_gr_reachFurther_24 (t_model_lines : Int32) (t_model_order : (Nat → Int32)) (k2 : (Nat → Int64) → Int32 → Option (Unit × (Nat → Int64))) (n : Nat) (N : Nat) : (Nat → Int64) → Int32 → Int32 → Int32 → Option (Unit × (Nat → Int64)) :=
  Nat.rec (motive := fun _ => (Nat → Int64) → Int32 → Int32 → Int32 → Option (Unit × (Nat → Int64))) (fun _ _ _ _ => none) (fun _ k24 t_reach v1 v2 v3 =>
    if v3 < t_model_lines then
      ((xf_md_rowAt t_model_lines t_model_order v3).bind fun q363 =>
      if xr_in q363 40 = true then
        (if (lg_cmp ((xe_ushr (t_reach q363.toNatClampNeg) v2) &&& ((1 : Int64))) ((0 : Int64))) = (0 : Int32) then
          (xf_gr_reachFurther_77 t_model_lines t_model_order k2 k24 n t_reach v1 v2 v3)
        else
          if xr_in q363 40 = true then
            (if xr_in v2 40 = true then
              (if xr_in q363 40 = true then
                (xf_gr_reachFurther_77 t_model_lines t_model_order k2 k24 n (vp_updL t_reach q363.toNatClampNeg (((t_reach q363.toNatClampNeg) ||| (t_reach v2.toNatClampNeg)))) v1 v2 v3)
              else none)
            else none)
          else none)
      else none)
    else
      k2 t_reach (v1 + (1 : Int32))) N
def xf_gr_reachFurther_2 (t_model_lines : Int32) (t_model_order : (Nat → Int32)) (n : Nat) (N : Nat) : (Nat → Int64) → Int32 → Option (Unit × (Nat → Int64)) :=
  Nat.rec (motive := fun _ => (Nat → Int64) → Int32 → Option (Unit × (Nat → Int64))) (fun _ _ => none) (fun _ k2 t_reach v1 =>
    if v1 < t_model_lines then
      ((xf_md_rowAt t_model_lines t_model_order v1).bind fun q361 =>
      xf_gr_reachFurther_24 t_model_lines t_model_order k2 n n t_reach v1 q361 ((0 : Int32)))
    else
      some ((), t_reach)) N
def xf_gr_reachFurther (t_model_lines : Int32) (t_model_order : (Nat → Int32)) (n : Nat) (t_reach : (Nat → Int64)) : Option (Unit × (Nat → Int64)) :=
  xf_gr_reachFurther_2 t_model_lines t_model_order n n t_reach ((0 : Int32))
def xf_gr_measureDepths_116 (t_direct : (Nat → Int64)) (t_model_lines : Int32) (t_model_order : (Nat → Int32)) (n : Nat) (t_depth : (Nat → Int32)) : Option (Unit × (Nat → Int32)) :=
  some ((), t_depth)
def xf_gr_deepestOf_35 (t_depth : (Nat → Int32)) (k5 : Int64 → Int32 → Int32 → Option (Int32)) (n : Nat) (v1 : Int64) (v3 : Int32) (v4 : Int32) : Option (Int32) :=
  k5 v1 v3 (v4 + (1 : Int32))
def xf_gr_deepestOf_5 (t_depth : (Nat → Int32)) (n : Nat) (N : Nat) : Int64 → Int32 → Int32 → Option (Int32) :=
  Nat.rec (motive := fun _ => Int64 → Int32 → Int32 → Option (Int32)) (fun _ _ _ => none) (fun _ k5 v1 v3 v4 =>
    if v4 < ((40 : Int32)) then
      (if (lg_cmp ((xe_ushr v1 v4) &&& ((1 : Int64))) ((0 : Int64))) = (0 : Int32) then
        (xf_gr_deepestOf_35 t_depth k5 n v1 v3 v4)
      else
        if xr_in v4 40 = true then
          (xf_gr_deepestOf_35 t_depth k5 n v1 (xe_max v3 (t_depth v4.toNatClampNeg)) v4)
        else none)
    else
      some v3) N
def xf_gr_deepestOf (t_depth : (Nat → Int32)) (n : Nat) (a1 : Int64) : Option (Int32) :=
  xf_gr_deepestOf_5 t_depth n n a1 ((-1 : Int32)) ((0 : Int32))
def xf_gr_measureDepths_104 (t_direct : (Nat → Int64)) (t_model_lines : Int32) (t_model_order : (Nat → Int32)) (k7 : (Nat → Int32) → Int64 → Int32 → Int32 → Option (Unit × (Nat → Int32))) (k23 : (Nat → Int32) → Int64 → Int32 → Int32 → Int32 → Option (Unit × (Nat → Int32))) (n : Nat) (t_depth : (Nat → Int32)) (v1 : Int64) (v3 : Int32) (v4 : Int32) (v5 : Int32) : Option (Unit × (Nat → Int32)) :=
  k23 t_depth v1 v3 v4 (v5 + (1 : Int32))
def xf_gr_measureDepths_23 (t_direct : (Nat → Int64)) (t_model_lines : Int32) (t_model_order : (Nat → Int32)) (k7 : (Nat → Int32) → Int64 → Int32 → Int32 → Option (Unit × (Nat → Int32))) (n : Nat) (N : Nat) : (Nat → Int32) → Int64 → Int32 → Int32 → Int32 → Option (Unit × (Nat → Int32)) :=
  Nat.rec (motive := fun _ => (Nat → Int32) → Int64 → Int32 → Int32 → Int32 → Option (Unit × (Nat → Int32))) (fun _ _ _ _ _ => none) (fun _ k23 t_depth v1 v3 v4 v5 =>
    if v5 < t_model_lines then
      ((xf_md_rowAt t_model_lines t_model_order v5).bind fun q373 =>
      if xr_in q373 40 = true then
        (if (t_depth q373.toNatClampNeg) = ((-1 : Int32)) then
          (if xr_in q373 40 = true then
            (if (lg_cmp ((t_direct q373.toNatClampNeg) &&& (v1 ^^^ ((-1 : Int64)))) ((0 : Int64))) = (0 : Int32) then
              (if xr_in q373 40 = true then
                ((xf_gr_deepestOf t_depth n (t_direct q373.toNatClampNeg)).bind fun q382 =>
                if xr_in q373 40 = true then
                  (xf_gr_measureDepths_104 t_direct t_model_lines t_model_order k7 k23 n (upd t_depth q373.toNatClampNeg ((((1 : Int32)) + q382))) (v1 ||| (xe_shl ((1 : Int64)) q373)) ((1 : Int32)) v4 v5)
                else none)
              else none)
            else
              xf_gr_measureDepths_104 t_direct t_model_lines t_model_order k7 k23 n t_depth v1 v3 v4 v5)
          else none)
        else
          xf_gr_measureDepths_104 t_direct t_model_lines t_model_order k7 k23 n t_depth v1 v3 v4 v5)
      else none)
    else
      k7 t_depth v1 v3 (v4 + (1 : Int32))) N
def xf_gr_measureDepths_7 (t_direct : (Nat → Int64)) (t_model_lines : Int32) (t_model_order : (Nat → Int32)) (n : Nat) (N : Nat) : (Nat → Int32) → Int64 → Int32 → Int32 → Option (Unit × (Nat → Int32)) :=
  Nat.rec (motive := fun _ => (Nat → Int32) → Int64 → Int32 → Int32 → Option (Unit × (Nat → Int32))) (fun _ _ _ _ => none) (fun _ k7 t_depth v1 v3 v4 =>
    if v4 < ((40 : Int32)) then
      (if v3 = (0 : Int32) then
        (xf_gr_measureDepths_116 t_direct t_model_lines t_model_order n t_depth)
      else
        xf_gr_measureDepths_23 t_direct t_model_lines t_model_order k7 n n t_depth v1 ((0 : Int32)) v4 ((0 : Int32)))
    else
      xf_gr_measureDepths_116 t_direct t_model_lines t_model_order n t_depth) N
def xf_gr_measureDepths (t_direct : (Nat → Int64)) (t_model_lines : Int32) (t_model_order : (Nat → Int32)) (n : Nat) (t_depth : (Nat → Int32)) : Option (Unit × (Nat → Int32)) :=
  xf_gr_measureDepths_7 t_direct t_model_lines t_model_order n n t_depth ((0 : Int64)) ((1 : Int32)) ((0 : Int32))
def xf_gr_learn_7 (t_model_items : (Nat → Int32)) (t_model_lines : Int32) (t_model_number : (Nat → Int32)) (t_model_order : (Nat → Int32)) (t_model_size : (Nat → Int32)) (t_model_sort : (Nat → Int32)) (t_model_start : (Nat → Int32)) (t_model_used : Int32) (t_model_value : (Nat → Int32)) (n : Nat) (N : Nat) : (Nat → Int32) → (Nat → Int64) → Int32 → (Nat → Int64) → Int32 → Option (Unit × (Nat → Int32) × (Nat → Int64) × Int32 × (Nat → Int64)) :=
  Nat.rec (motive := fun _ => (Nat → Int32) → (Nat → Int64) → Int32 → (Nat → Int64) → Int32 → Option (Unit × (Nat → Int32) × (Nat → Int64) × Int32 × (Nat → Int64))) (fun _ _ _ _ _ => none) (fun _ k7 t_depth t_direct t_grouped t_reach v1 =>
    if v1 < t_model_lines then
      ((xf_md_rowAt t_model_lines t_model_order v1).bind fun q331 =>
      (xf_gr_bitsOf t_model_items t_model_lines t_model_number t_model_order t_model_size t_model_sort t_model_start t_model_used t_model_value n q331).bind fun q355 =>
      if xr_in q331 40 = true then
        (if xr_in q331 40 = true then
          (if xr_in q331 40 = true then
            (if xr_in q331 40 = true then
              (k7 (upd t_depth q331.toNatClampNeg (((-1 : Int32)))) (vp_updL t_direct q331.toNatClampNeg q355) t_grouped (vp_updL t_reach q331.toNatClampNeg (((vp_updL t_direct q331.toNatClampNeg q355) q331.toNatClampNeg))) (v1 + (1 : Int32)))
            else none)
          else none)
        else none)
      else none)
    else
      (xf_gr_reachFurther t_model_lines t_model_order n t_reach).bind fun q369 =>
      (xf_gr_measureDepths t_direct t_model_lines t_model_order n t_depth).bind fun q384 =>
      some ((), q384.2, t_direct, t_grouped, q369.2)) N
def xf_gr_learn (t_model_items : (Nat → Int32)) (t_model_lines : Int32) (t_model_number : (Nat → Int32)) (t_model_order : (Nat → Int32)) (t_model_size : (Nat → Int32)) (t_model_sort : (Nat → Int32)) (t_model_start : (Nat → Int32)) (t_model_used : Int32) (t_model_value : (Nat → Int32)) (n : Nat) (t_depth : (Nat → Int32)) (t_direct : (Nat → Int64)) (t_grouped : Int32) (t_reach : (Nat → Int64)) : Option (Unit × (Nat → Int32) × (Nat → Int64) × Int32 × (Nat → Int64)) :=
  xf_gr_learn_7 t_model_items t_model_lines t_model_number t_model_order t_model_size t_model_sort t_model_start t_model_used t_model_value n n t_depth t_direct ((0 : Int32)) t_reach ((0 : Int32))
def xf_xt_read (t_text_signs : (Nat → Int32)) (n : Nat) (t_graph_depth : (Nat → Int32)) (t_graph_direct : (Nat → Int64)) (t_graph_grouped : Int32) (t_graph_reach : (Nat → Int64)) (t_model_items : (Nat → Int32)) (t_model_lines : Int32) (t_model_name : (Nat → Int64)) (t_model_number : (Nat → Int32)) (t_model_order : (Nat → Int32)) (t_model_rows : Int32) (t_model_size : (Nat → Int32)) (t_model_sort : (Nat → Int32)) (t_model_start : (Nat → Int32)) (t_model_used : Int32) (t_model_value : (Nat → Int32)) (t_schemaReader_words_begin : (Nat → Int32)) (t_schemaReader_words_digits : (Nat → Int32)) (t_schemaReader_words_end : (Nat → Int32)) (t_schemaReader_words_first : (Nat → Int32)) (t_schemaReader_words_now : Int32) (t_schemaReader_words_total : Int32) (t_spareModel_items : (Nat → Int32)) (t_spareModel_lines : Int32) (t_spareModel_name : (Nat → Int64)) (t_spareModel_number : (Nat → Int32)) (t_spareModel_order : (Nat → Int32)) (t_spareModel_rows : Int32) (t_spareModel_size : (Nat → Int32)) (t_spareModel_sort : (Nat → Int32)) (t_spareModel_start : (Nat → Int32)) (t_spareModel_used : Int32) (t_spareModel_value : (Nat → Int32)) (t_text_full : Int32) (t_text_length : Int32) : Option (Int32 × (Nat → Int32) × (Nat → Int64) × Int32 × (Nat → Int64) × (Nat → Int32) × Int32 × (Nat → Int64) × (Nat → Int32) × (Nat → Int32) × Int32 × (Nat → Int32) × (Nat → Int32) × (Nat → Int32) × Int32 × (Nat → Int32) × (Nat → Int32) × (Nat → Int32) × (Nat → Int32) × (Nat → Int32) × Int32 × Int32 × (Nat → Int32) × Int32 × (Nat → Int64) × (Nat → Int32) × (Nat → Int32) × Int32 × (Nat → Int32) × (Nat → Int32) × (Nat → Int32) × Int32 × (Nat → Int32) × Int32 × Int32) :=
  (xf_mr_readAll t_text_length t_text_signs n t_spareModel_items t_spareModel_lines t_spareModel_name t_spareModel_number t_spareModel_order t_spareModel_rows t_spareModel_size t_spareModel_sort t_spareModel_start t_spareModel_used t_spareModel_value t_schemaReader_words_begin t_schemaReader_words_digits t_schemaReader_words_end t_schemaReader_words_first t_schemaReader_words_now t_schemaReader_words_total).bind fun q290 =>
  if q290.1 = (0 : Int32) then
    ((xf_wd_standsAt q290.2.2.2.2.2.2.2.2.2.2.2.2.1 q290.2.2.2.2.2.2.2.2.2.2.2.2.2.2.2.2.1 t_text_length q290.2.2.2.2.2.2.2.2.2.2.2.2.2.2.2.2.2).bind fun q292 =>
    some (((-1 : Int32)) - q292, t_graph_depth, t_graph_direct, t_graph_grouped, t_graph_reach, t_model_items, t_model_lines, t_model_name, t_model_number, t_model_order, t_model_rows, t_model_size, t_model_sort, t_model_start, t_model_used, t_model_value, q290.2.2.2.2.2.2.2.2.2.2.2.2.1, q290.2.2.2.2.2.2.2.2.2.2.2.2.2.1, q290.2.2.2.2.2.2.2.2.2.2.2.2.2.2.1, q290.2.2.2.2.2.2.2.2.2.2.2.2.2.2.2.1, q290.2.2.2.2.2.2.2.2.2.2.2.2.2.2.2.2.1, q290.2.2.2.2.2.2.2.2.2.2.2.2.2.2.2.2.2, q290.2.1, q290.2.2.1, q290.2.2.2.1, q290.2.2.2.2.1, q290.2.2.2.2.2.1, q290.2.2.2.2.2.2.1, q290.2.2.2.2.2.2.2.1, q290.2.2.2.2.2.2.2.2.1, q290.2.2.2.2.2.2.2.2.2.1, q290.2.2.2.2.2.2.2.2.2.2.1, q290.2.2.2.2.2.2.2.2.2.2.2.1, t_text_full, t_text_length))
  else
    (xf_md_firstLost q290.2.1 q290.2.2.1 q290.2.2.2.2.1 q290.2.2.2.2.2.1 q290.2.2.2.2.2.2.1 q290.2.2.2.2.2.2.2.1 q290.2.2.2.2.2.2.2.2.1 q290.2.2.2.2.2.2.2.2.2.1 q290.2.2.2.2.2.2.2.2.2.2.1 q290.2.2.2.2.2.2.2.2.2.2.2.1 n).bind fun q316 =>
    if q316 = ((-1 : Int32)) then
      ((xf_md_copyFrom q290.2.1 q290.2.2.1 q290.2.2.2.1 q290.2.2.2.2.1 q290.2.2.2.2.2.1 q290.2.2.2.2.2.2.1 q290.2.2.2.2.2.2.2.1 q290.2.2.2.2.2.2.2.2.1 q290.2.2.2.2.2.2.2.2.2.1 q290.2.2.2.2.2.2.2.2.2.2.1 q290.2.2.2.2.2.2.2.2.2.2.2.1 t_model_items t_model_lines t_model_name t_model_number t_model_order t_model_rows t_model_size t_model_sort t_model_start t_model_used t_model_value).bind fun q326 =>
      (xf_gr_learn q326.2.1 q326.2.2.1 q326.2.2.2.2.1 q326.2.2.2.2.2.1 q326.2.2.2.2.2.2.2.1 q326.2.2.2.2.2.2.2.2.1 q326.2.2.2.2.2.2.2.2.2.1 q326.2.2.2.2.2.2.2.2.2.2.1 q326.2.2.2.2.2.2.2.2.2.2.2 n t_graph_depth t_graph_direct t_graph_grouped t_graph_reach).bind fun q385 =>
      (xf_pg_clear t_text_full t_text_length).bind fun q386 =>
      some (q326.2.2.1, q385.2.1, q385.2.2.1, q385.2.2.2.1, q385.2.2.2.2, q326.2.1, q326.2.2.1, q326.2.2.2.1, q326.2.2.2.2.1, q326.2.2.2.2.2.1, q326.2.2.2.2.2.2.1, q326.2.2.2.2.2.2.2.1, q326.2.2.2.2.2.2.2.2.1, q326.2.2.2.2.2.2.2.2.2.1, q326.2.2.2.2.2.2.2.2.2.2.1, q326.2.2.2.2.2.2.2.2.2.2.2, q290.2.2.2.2.2.2.2.2.2.2.2.2.1, q290.2.2.2.2.2.2.2.2.2.2.2.2.2.1, q290.2.2.2.2.2.2.2.2.2.2.2.2.2.2.1, q290.2.2.2.2.2.2.2.2.2.2.2.2.2.2.2.1, q290.2.2.2.2.2.2.2.2.2.2.2.2.2.2.2.2.1, q290.2.2.2.2.2.2.2.2.2.2.2.2.2.2.2.2.2, q290.2.1, q290.2.2.1, q290.2.2.2.1, q290.2.2.2.2.1, q290.2.2.2.2.2.1, q290.2.2.2.2.2.2.1, q290.2.2.2.2.2.2.2.1, q290.2.2.2.2.2.2.2.2.1, q290.2.2.2.2.2.2.2.2.2.1, q290.2.2.2.2.2.2.2.2.2.2.1, q290.2.2.2.2.2.2.2.2.2.2.2.1, q386.2.1, q386.2.2))
    else
      some (((-10000 : Int32)) - q316, t_graph_depth, t_graph_direct, t_graph_grouped, t_graph_reach, t_model_items, t_model_lines, t_model_name, t_model_number, t_model_order, t_model_rows, t_model_size, t_model_sort, t_model_start, t_model_used, t_model_value, q290.2.2.2.2.2.2.2.2.2.2.2.2.1, q290.2.2.2.2.2.2.2.2.2.2.2.2.2.1, q290.2.2.2.2.2.2.2.2.2.2.2.2.2.2.1, q290.2.2.2.2.2.2.2.2.2.2.2.2.2.2.2.1, q290.2.2.2.2.2.2.2.2.2.2.2.2.2.2.2.2.1, q290.2.2.2.2.2.2.2.2.2.2.2.2.2.2.2.2.2, q290.2.1, q290.2.2.1, q290.2.2.2.1, q290.2.2.2.2.1, q290.2.2.2.2.2.1, q290.2.2.2.2.2.2.1, q290.2.2.2.2.2.2.2.1, q290.2.2.2.2.2.2.2.2.1, q290.2.2.2.2.2.2.2.2.2.1, q290.2.2.2.2.2.2.2.2.2.2.1, q290.2.2.2.2.2.2.2.2.2.2.2.1, t_text_full, t_text_length)
def xf_pg_add_47 (t_full : Int32) (t_length : Int32) (t_signs : (Nat → Int32)) : Option (Unit × Int32 × Int32 × (Nat → Int32)) :=
  some ((), t_full, t_length, t_signs)
def xf_pg_add_42 (t_full : Int32) (t_length : Int32) (t_signs : (Nat → Int32)) : Option (Unit × Int32 × Int32 × (Nat → Int32)) :=
  xf_pg_add_47 ((1 : Int32)) t_length t_signs
def xf_pg_add (t_full : Int32) (t_length : Int32) (t_signs : (Nat → Int32)) (a1 : Int32) : Option (Unit × Int32 × Int32 × (Nat → Int32)) :=
  if t_length < (0 : Int32) then
    (xf_pg_add_42 t_full t_length t_signs)
  else
    if t_length < (Int32.ofNat 1200) then
      (if xr_in t_length 1200 = true then
        (xf_pg_add_47 t_full (t_length + ((1 : Int32))) (upd t_signs t_length.toNatClampNeg (vp_nar .char a1)))
      else none)
    else
      xf_pg_add_42 t_full t_length t_signs
def xf_wr_writeNumber_76 (k27 : Int32 → Int32 → (Nat → Int32) → Int32 → Int32 → Int32 → Option (Unit × Int32 × Int32 × (Nat → Int32))) (n : Nat) (p2_full : Int32) (p2_length : Int32) (p2_signs : (Nat → Int32)) (v2 : Int32) (v3 : Int32) (v4 : Int32) : Option (Unit × Int32 × Int32 × (Nat → Int32)) :=
  if ((10 : Int32)) = (0 : Int32) then none else
  k27 p2_full p2_length p2_signs v2 v3 (v4 / ((10 : Int32)))
def xf_wr_writeNumber_61 (k27 : Int32 → Int32 → (Nat → Int32) → Int32 → Int32 → Int32 → Option (Unit × Int32 × Int32 × (Nat → Int32))) (n : Nat) (p2_full : Int32) (p2_length : Int32) (p2_signs : (Nat → Int32)) (v2 : Int32) (v4 : Int32) (v5 : Int32) (s0 : Int32) : Option (Unit × Int32 × Int32 × (Nat → Int32)) :=
  if s0 = (0 : Int32) then
    (xf_wr_writeNumber_76 k27 n p2_full p2_length p2_signs v2 s0 v4)
  else
    (xf_pg_add p2_full p2_length p2_signs (xe_i2c (((48 : Int32)) + v5))).bind fun q406 =>
    xf_wr_writeNumber_76 k27 n q406.2.1 q406.2.2.1 q406.2.2.2 v2 s0 v4
def xf_wr_writeNumber_56 (k27 : Int32 → Int32 → (Nat → Int32) → Int32 → Int32 → Int32 → Option (Unit × Int32 × Int32 × (Nat → Int32))) (n : Nat) (p2_full : Int32) (p2_length : Int32) (p2_signs : (Nat → Int32)) (v2 : Int32) (v4 : Int32) (v5 : Int32) : Option (Unit × Int32 × Int32 × (Nat → Int32)) :=
  xf_wr_writeNumber_61 k27 n p2_full p2_length p2_signs v2 v4 v5 ((1 : Int32))
def xf_wr_writeNumber_27 (n : Nat) (N : Nat) : Int32 → Int32 → (Nat → Int32) → Int32 → Int32 → Int32 → Option (Unit × Int32 × Int32 × (Nat → Int32)) :=
  Nat.rec (motive := fun _ => Int32 → Int32 → (Nat → Int32) → Int32 → Int32 → Int32 → Option (Unit × Int32 × Int32 × (Nat → Int32))) (fun _ _ _ _ _ _ => none) (fun _ k27 p2_full p2_length p2_signs v2 v3 v4 =>
    if (0 : Int32) < v4 then
      (if v4 = (0 : Int32) then none else
      if ((10 : Int32)) = (0 : Int32) then none else
      if v3 = (0 : Int32) then
        (if ((v2 / v4) - (v2 / v4) / ((10 : Int32)) * ((10 : Int32))) = (0 : Int32) then
          (if v4 = ((1 : Int32)) then
            (xf_wr_writeNumber_56 k27 n p2_full p2_length p2_signs v2 v4 ((v2 / v4) - (v2 / v4) / ((10 : Int32)) * ((10 : Int32))))
          else
            xf_wr_writeNumber_61 k27 n p2_full p2_length p2_signs v2 v4 ((v2 / v4) - (v2 / v4) / ((10 : Int32)) * ((10 : Int32))) ((0 : Int32)))
        else
          xf_wr_writeNumber_56 k27 n p2_full p2_length p2_signs v2 v4 ((v2 / v4) - (v2 / v4) / ((10 : Int32)) * ((10 : Int32))))
      else
        xf_wr_writeNumber_56 k27 n p2_full p2_length p2_signs v2 v4 ((v2 / v4) - (v2 / v4) / ((10 : Int32)) * ((10 : Int32))))
    else
      some ((), p2_full, p2_length, p2_signs)) N
def xf_wr_writeNumber_20 (n : Nat) (p2_full : Int32) (p2_length : Int32) (p2_signs : (Nat → Int32)) (s0 : Int32) : Option (Unit × Int32 × Int32 × (Nat → Int32)) :=
  xf_wr_writeNumber_27 n n p2_full p2_length p2_signs s0 ((0 : Int32)) ((100000000 : Int32))
def xf_wr_writeNumber_10 (n : Nat) (p2_full : Int32) (p2_length : Int32) (p2_signs : (Nat → Int32)) (v0 : Int32) : Option (Unit × Int32 × Int32 × (Nat → Int32)) :=
  if v0 < (0 : Int32) then
    (xf_wr_writeNumber_20 n p2_full p2_length p2_signs (-v0))
  else
    xf_wr_writeNumber_20 n p2_full p2_length p2_signs v0
def xf_wr_writeNumber (n : Nat) (p2_full : Int32) (p2_length : Int32) (p2_signs : (Nat → Int32)) (a1 : Int32) : Option (Unit × Int32 × Int32 × (Nat → Int32)) :=
  if a1 < (0 : Int32) then
    ((xf_pg_add p2_full p2_length p2_signs ((45 : Int32))).bind fun q396 =>
    xf_wr_writeNumber_10 n q396.2.1 q396.2.2.1 q396.2.2.2 a1)
  else
    xf_wr_writeNumber_10 n p2_full p2_length p2_signs a1
def xf_xt_byteOf (a1 : Int64) (a2 : Int32) : Option (Int32) :=
  some (((xe_ushr a1 a2).toInt32) &&& ((255 : Int32)))
def xf_pg_addBytes_26 (k3 : Int32 → Int32 → (Nat → Int32) → Int64 → Int32 → Option (Unit × Int32 × Int32 × (Nat → Int32))) (n : Nat) (t_full : Int32) (t_length : Int32) (t_signs : (Nat → Int32)) (v1 : Int64) (v3 : Int32) : Option (Unit × Int32 × Int32 × (Nat → Int32)) :=
  k3 t_full t_length t_signs v1 (v3 + (-8 : Int32))
def xf_pg_addBytes_3 (n : Nat) (N : Nat) : Int32 → Int32 → (Nat → Int32) → Int64 → Int32 → Option (Unit × Int32 × Int32 × (Nat → Int32)) :=
  Nat.rec (motive := fun _ => Int32 → Int32 → (Nat → Int32) → Int64 → Int32 → Option (Unit × Int32 × Int32 × (Nat → Int32))) (fun _ _ _ _ _ => none) (fun _ k3 t_full t_length t_signs v1 v3 =>
    if v3 < (0 : Int32) then
      (some ((), t_full, t_length, t_signs))
    else
      (xf_xt_byteOf v1 v3).bind fun q411 =>
      if q411 = (0 : Int32) then
        (xf_pg_addBytes_26 k3 n t_full t_length t_signs v1 v3)
      else
        (xf_pg_add t_full t_length t_signs (xe_i2c q411)).bind fun q413 =>
        xf_pg_addBytes_26 k3 n q413.2.1 q413.2.2.1 q413.2.2.2 v1 v3) N
def xf_pg_addBytes (n : Nat) (t_full : Int32) (t_length : Int32) (t_signs : (Nat → Int32)) (a1 : Int64) : Option (Unit × Int32 × Int32 × (Nat → Int32)) :=
  xf_pg_addBytes_3 n n t_full t_length t_signs a1 ((56 : Int32))
def xf_wr_writeArgument_117 (p1_items : (Nat → Int32)) (p1_sort : (Nat → Int32)) (p1_start : (Nat → Int32)) (p1_used : Int32) (p1_value : (Nat → Int32)) (n : Nat) (p3_full : Int32) (p3_length : Int32) (p3_signs : (Nat → Int32)) : Option (Unit × Int32 × Int32 × (Nat → Int32)) :=
  some ((), p3_full, p3_length, p3_signs)
def xf_md_itemsOf_32 (t_sort : (Nat → Int32)) (t_value : (Nat → Int32)) (s0 : Int32) : Option (Int32) :=
  some s0
def xf_md_itemsOf_22 (t_sort : (Nat → Int32)) (t_value : (Nat → Int32)) : Option (Int32) :=
  xf_md_itemsOf_32 t_sort t_value ((0 : Int32))
def xf_md_itemsOf (t_sort : (Nat → Int32)) (t_value : (Nat → Int32)) (a1 : Int32) : Option (Int32) :=
  if xr_in a1 320 = true then
    (if (t_sort a1.toNatClampNeg) = (0 : Int32) then
      (xf_md_itemsOf_22 t_sort t_value)
    else
      if (t_sort a1.toNatClampNeg) = ((2 : Int32)) then
        (xf_md_itemsOf_22 t_sort t_value)
      else
        if (t_sort a1.toNatClampNeg) = ((6 : Int32)) then
          (xf_md_itemsOf_22 t_sort t_value)
        else
          if xr_in a1 320 = true then
            (xf_md_itemsOf_32 t_sort t_value (t_value a1.toNatClampNeg))
          else none)
  else none
def xf_wr_writeSigns_46 (p1_items : (Nat → Int32)) (p1_sort : (Nat → Int32)) (p1_start : (Nat → Int32)) (p1_used : Int32) (p1_value : (Nat → Int32)) (k8 : Int32 → Int32 → (Nat → Int32) → Int32 → Int32 → Int32 → Option (Unit × Int32 × Int32 × (Nat → Int32))) (n : Nat) (p4_full : Int32) (p4_length : Int32) (p4_signs : (Nat → Int32)) (v1 : Int32) (v2 : Int32) (v4 : Int32) : Option (Unit × Int32 × Int32 × (Nat → Int32)) :=
  k8 p4_full p4_length p4_signs v1 v2 (v4 + (1 : Int32))
def xf_wr_writeSigns_8 (p1_items : (Nat → Int32)) (p1_sort : (Nat → Int32)) (p1_start : (Nat → Int32)) (p1_used : Int32) (p1_value : (Nat → Int32)) (n : Nat) (N : Nat) : Int32 → Int32 → (Nat → Int32) → Int32 → Int32 → Int32 → Option (Unit × Int32 × Int32 × (Nat → Int32)) :=
  Nat.rec (motive := fun _ => Int32 → Int32 → (Nat → Int32) → Int32 → Int32 → Int32 → Option (Unit × Int32 × Int32 × (Nat → Int32))) (fun _ _ _ _ _ _ => none) (fun _ k8 p4_full p4_length p4_signs v1 v2 v4 =>
    (xf_md_itemsOf p1_sort p1_value v1).bind fun q431 =>
    if v4 < q431 then
      ((xf_md_itemAt p1_items p1_start p1_used v1 v4).bind fun q433 =>
      (xf_pg_add p4_full p4_length p4_signs (xe_i2c q433)).bind fun q434 =>
      if (xe_i2c q433) = v2 then
        ((xf_pg_add q434.2.1 q434.2.2.1 q434.2.2.2 (xe_i2c q433)).bind fun q436 =>
        xf_wr_writeSigns_46 p1_items p1_sort p1_start p1_used p1_value k8 n q436.2.1 q436.2.2.1 q436.2.2.2 v1 v2 v4)
      else
        xf_wr_writeSigns_46 p1_items p1_sort p1_start p1_used p1_value k8 n q434.2.1 q434.2.2.1 q434.2.2.2 v1 v2 v4)
    else
      (xf_pg_add p4_full p4_length p4_signs v2).bind fun q437 =>
      some ((), q437.2.1, q437.2.2.1, q437.2.2.2)) N
def xf_wr_writeSigns (p1_items : (Nat → Int32)) (p1_sort : (Nat → Int32)) (p1_start : (Nat → Int32)) (p1_used : Int32) (p1_value : (Nat → Int32)) (n : Nat) (p4_full : Int32) (p4_length : Int32) (p4_signs : (Nat → Int32)) (a2 : Int32) (a3 : Int32) : Option (Unit × Int32 × Int32 × (Nat → Int32)) :=
  (xf_pg_add p4_full p4_length p4_signs a3).bind fun q425 =>
  xf_wr_writeSigns_8 p1_items p1_sort p1_start p1_used p1_value n n q425.2.1 q425.2.2.1 q425.2.2.2 a2 a3 ((0 : Int32))
def xf_wr_writeList_43 (p1_items : (Nat → Int32)) (p1_sort : (Nat → Int32)) (p1_start : (Nat → Int32)) (p1_used : Int32) (p1_value : (Nat → Int32)) (k8 : Int32 → Int32 → (Nat → Int32) → Int32 → Int32 → Option (Unit × Int32 × Int32 × (Nat → Int32))) (n : Nat) (p3_full : Int32) (p3_length : Int32) (p3_signs : (Nat → Int32)) (v1 : Int32) (v3 : Int32) : Option (Unit × Int32 × Int32 × (Nat → Int32)) :=
  (xf_md_itemAt p1_items p1_start p1_used v1 v3).bind fun q452 =>
  (xf_wr_writeNumber n p3_full p3_length p3_signs q452).bind fun q453 =>
  k8 q453.2.1 q453.2.2.1 q453.2.2.2 v1 (v3 + (1 : Int32))
def xf_wr_writeList_27 (p1_items : (Nat → Int32)) (p1_sort : (Nat → Int32)) (p1_start : (Nat → Int32)) (p1_used : Int32) (p1_value : (Nat → Int32)) (k8 : Int32 → Int32 → (Nat → Int32) → Int32 → Int32 → Option (Unit × Int32 × Int32 × (Nat → Int32))) (n : Nat) (p3_full : Int32) (p3_length : Int32) (p3_signs : (Nat → Int32)) (v1 : Int32) (v3 : Int32) : Option (Unit × Int32 × Int32 × (Nat → Int32)) :=
  if xr_in v1 320 = true then
    (if (p1_sort v1.toNatClampNeg) = ((4 : Int32)) then
      ((xf_pg_add p3_full p3_length p3_signs ((35 : Int32))).bind fun q451 =>
      xf_wr_writeList_43 p1_items p1_sort p1_start p1_used p1_value k8 n q451.2.1 q451.2.2.1 q451.2.2.2 v1 v3)
    else
      xf_wr_writeList_43 p1_items p1_sort p1_start p1_used p1_value k8 n p3_full p3_length p3_signs v1 v3)
  else none
def xf_wr_writeList_8 (p1_items : (Nat → Int32)) (p1_sort : (Nat → Int32)) (p1_start : (Nat → Int32)) (p1_used : Int32) (p1_value : (Nat → Int32)) (n : Nat) (N : Nat) : Int32 → Int32 → (Nat → Int32) → Int32 → Int32 → Option (Unit × Int32 × Int32 × (Nat → Int32)) :=
  Nat.rec (motive := fun _ => Int32 → Int32 → (Nat → Int32) → Int32 → Int32 → Option (Unit × Int32 × Int32 × (Nat → Int32))) (fun _ _ _ _ _ => none) (fun _ k8 p3_full p3_length p3_signs v1 v3 =>
    (xf_md_itemsOf p1_sort p1_value v1).bind fun q445 =>
    if v3 < q445 then
      (if (0 : Int32) < v3 then
        ((xf_pg_add p3_full p3_length p3_signs ((44 : Int32))).bind fun q448 =>
        xf_wr_writeList_27 p1_items p1_sort p1_start p1_used p1_value k8 n q448.2.1 q448.2.2.1 q448.2.2.2 v1 v3)
      else
        xf_wr_writeList_27 p1_items p1_sort p1_start p1_used p1_value k8 n p3_full p3_length p3_signs v1 v3)
    else
      (xf_pg_add p3_full p3_length p3_signs ((41 : Int32))).bind fun q454 =>
      some ((), q454.2.1, q454.2.2.1, q454.2.2.2)) N
def xf_wr_writeList (p1_items : (Nat → Int32)) (p1_sort : (Nat → Int32)) (p1_start : (Nat → Int32)) (p1_used : Int32) (p1_value : (Nat → Int32)) (n : Nat) (p3_full : Int32) (p3_length : Int32) (p3_signs : (Nat → Int32)) (a2 : Int32) : Option (Unit × Int32 × Int32 × (Nat → Int32)) :=
  (xf_pg_add p3_full p3_length p3_signs ((40 : Int32))).bind fun q444 =>
  xf_wr_writeList_8 p1_items p1_sort p1_start p1_used p1_value n n q444.2.1 q444.2.2.1 q444.2.2.2 a2 ((0 : Int32))
def xf_wr_writeArgument_111 (p1_items : (Nat → Int32)) (p1_sort : (Nat → Int32)) (p1_start : (Nat → Int32)) (p1_used : Int32) (p1_value : (Nat → Int32)) (n : Nat) (p3_full : Int32) (p3_length : Int32) (p3_signs : (Nat → Int32)) (v1 : Int32) : Option (Unit × Int32 × Int32 × (Nat → Int32)) :=
  (xf_wr_writeList p1_items p1_sort p1_start p1_used p1_value n p3_full p3_length p3_signs v1).bind fun q455 =>
  xf_wr_writeArgument_117 p1_items p1_sort p1_start p1_used p1_value n q455.2.1 q455.2.2.1 q455.2.2.2
def xf_wr_writeArgument (p1_items : (Nat → Int32)) (p1_sort : (Nat → Int32)) (p1_start : (Nat → Int32)) (p1_used : Int32) (p1_value : (Nat → Int32)) (n : Nat) (p3_full : Int32) (p3_length : Int32) (p3_signs : (Nat → Int32)) (a2 : Int32) : Option (Unit × Int32 × Int32 × (Nat → Int32)) :=
  if xr_in a2 320 = true then
    (if (p1_sort a2.toNatClampNeg) = (0 : Int32) then
      (if xr_in a2 320 = true then
        ((xf_wr_writeNumber n p3_full p3_length p3_signs (p1_value a2.toNatClampNeg)).bind fun q423 =>
        xf_wr_writeArgument_117 p1_items p1_sort p1_start p1_used p1_value n q423.2.1 q423.2.2.1 q423.2.2.2)
      else none)
    else
      if (p1_sort a2.toNatClampNeg) = (1 : Int32) then
        ((xf_wr_writeSigns p1_items p1_sort p1_start p1_used p1_value n p3_full p3_length p3_signs a2 ((39 : Int32))).bind fun q438 =>
        xf_wr_writeArgument_117 p1_items p1_sort p1_start p1_used p1_value n q438.2.1 q438.2.2.1 q438.2.2.2)
      else
        if (p1_sort a2.toNatClampNeg) = (2 : Int32) then
          ((xf_pg_add p3_full p3_length p3_signs ((35 : Int32))).bind fun q440 =>
          if xr_in a2 320 = true then
            ((xf_wr_writeNumber n q440.2.1 q440.2.2.1 q440.2.2.2 (p1_value a2.toNatClampNeg)).bind fun q442 =>
            xf_wr_writeArgument_117 p1_items p1_sort p1_start p1_used p1_value n q442.2.1 q442.2.2.1 q442.2.2.2)
          else none)
        else
          if (p1_sort a2.toNatClampNeg) = (3 : Int32) then
            (xf_wr_writeArgument_111 p1_items p1_sort p1_start p1_used p1_value n p3_full p3_length p3_signs a2)
          else
            if (p1_sort a2.toNatClampNeg) = (4 : Int32) then
              (xf_wr_writeArgument_111 p1_items p1_sort p1_start p1_used p1_value n p3_full p3_length p3_signs a2)
            else
              if (p1_sort a2.toNatClampNeg) = (5 : Int32) then
                ((xf_wr_writeSigns p1_items p1_sort p1_start p1_used p1_value n p3_full p3_length p3_signs a2 ((46 : Int32))).bind fun q458 =>
                xf_wr_writeArgument_117 p1_items p1_sort p1_start p1_used p1_value n q458.2.1 q458.2.2.1 q458.2.2.2)
              else
                if (p1_sort a2.toNatClampNeg) = (6 : Int32) then
                  ((xf_pg_add p3_full p3_length p3_signs ((36 : Int32))).bind fun q460 =>
                  xf_wr_writeArgument_117 p1_items p1_sort p1_start p1_used p1_value n q460.2.1 q460.2.2.1 q460.2.2.2)
                else
                  xf_wr_writeArgument_111 p1_items p1_sort p1_start p1_used p1_value n p3_full p3_length p3_signs a2)
  else none
def xf_wr_writeLine_60 (p1_items : (Nat → Int32)) (p1_name : (Nat → Int64)) (p1_number : (Nat → Int32)) (p1_size : (Nat → Int32)) (p1_sort : (Nat → Int32)) (p1_start : (Nat → Int32)) (p1_used : Int32) (p1_value : (Nat → Int32)) (k40 : Int32 → Int32 → (Nat → Int32) → Int32 → Int32 → Option (Unit × Int32 × Int32 × (Nat → Int32))) (n : Nat) (p3_full : Int32) (p3_length : Int32) (p3_signs : (Nat → Int32)) (v1 : Int32) (v3 : Int32) : Option (Unit × Int32 × Int32 × (Nat → Int32)) :=
  (xf_wr_writeArgument p1_items p1_sort p1_start p1_used p1_value n p3_full p3_length p3_signs ((v1 * ((8 : Int32))) + v3)).bind fun q461 =>
  k40 q461.2.1 q461.2.2.1 q461.2.2.2 v1 (v3 + (1 : Int32))
def xf_wr_writeLine_40 (p1_items : (Nat → Int32)) (p1_name : (Nat → Int64)) (p1_number : (Nat → Int32)) (p1_size : (Nat → Int32)) (p1_sort : (Nat → Int32)) (p1_start : (Nat → Int32)) (p1_used : Int32) (p1_value : (Nat → Int32)) (n : Nat) (N : Nat) : Int32 → Int32 → (Nat → Int32) → Int32 → Int32 → Option (Unit × Int32 × Int32 × (Nat → Int32)) :=
  Nat.rec (motive := fun _ => Int32 → Int32 → (Nat → Int32) → Int32 → Int32 → Option (Unit × Int32 × Int32 × (Nat → Int32))) (fun _ _ _ _ _ => none) (fun _ k40 p3_full p3_length p3_signs v1 v3 =>
    if xr_in v1 40 = true then
      (if v3 < (p1_size v1.toNatClampNeg) then
        (if (0 : Int32) < v3 then
          ((xf_pg_add p3_full p3_length p3_signs ((44 : Int32))).bind fun q419 =>
          xf_wr_writeLine_60 p1_items p1_name p1_number p1_size p1_sort p1_start p1_used p1_value k40 n q419.2.1 q419.2.2.1 q419.2.2.2 v1 v3)
        else
          xf_wr_writeLine_60 p1_items p1_name p1_number p1_size p1_sort p1_start p1_used p1_value k40 n p3_full p3_length p3_signs v1 v3)
      else
        (xf_pg_add p3_full p3_length p3_signs ((41 : Int32))).bind fun q462 =>
        (xf_pg_add q462.2.1 q462.2.2.1 q462.2.2.2 ((59 : Int32))).bind fun q463 =>
        some ((), q463.2.1, q463.2.2.1, q463.2.2.2))
    else none) N
def xf_wr_writeLine (p1_items : (Nat → Int32)) (p1_name : (Nat → Int64)) (p1_number : (Nat → Int32)) (p1_size : (Nat → Int32)) (p1_sort : (Nat → Int32)) (p1_start : (Nat → Int32)) (p1_used : Int32) (p1_value : (Nat → Int32)) (n : Nat) (p3_full : Int32) (p3_length : Int32) (p3_signs : (Nat → Int32)) (a2 : Int32) : Option (Unit × Int32 × Int32 × (Nat → Int32)) :=
  (xf_pg_add p3_full p3_length p3_signs ((35 : Int32))).bind fun q393 =>
  if xr_in a2 40 = true then
    ((xf_wr_writeNumber n q393.2.1 q393.2.2.1 q393.2.2.2 (p1_number a2.toNatClampNeg)).bind fun q407 =>
    (xf_pg_add q407.2.1 q407.2.2.1 q407.2.2.2 ((61 : Int32))).bind fun q408 =>
    if xr_in a2 40 = true then
      ((xf_pg_addBytes n q408.2.1 q408.2.2.1 q408.2.2.2 (p1_name a2.toNatClampNeg)).bind fun q414 =>
      (xf_pg_add q414.2.1 q414.2.2.1 q414.2.2.2 ((40 : Int32))).bind fun q415 =>
      xf_wr_writeLine_40 p1_items p1_name p1_number p1_size p1_sort p1_start p1_used p1_value n n q415.2.1 q415.2.2.1 q415.2.2.2 a2 ((0 : Int32)))
    else none)
  else none
def xf_pg_copyFrom (p1_full : Int32) (p1_length : Int32) (p1_signs : (Nat → Int32)) (t_full : Int32) (t_length : Int32) (t_signs : (Nat → Int32)) : Option (Unit × Int32 × Int32 × (Nat → Int32)) :=
  if xr_cg ((0 : Int32)) ((0 : Int32)) p1_length 1200 1200 then
    (if ((List.range p1_length.toNatClampNeg).all fun i => fits .char (.int (p1_signs (((0 : Int32)).toNatClampNeg + i)))) = true then
      (if fits .boolean (.int p1_full) = true then
        (some ((), p1_full, p1_length, va_cpy p1_signs t_signs ((0 : Int32)).toNatClampNeg ((0 : Int32)).toNatClampNeg p1_length.toNatClampNeg))
      else none)
    else none)
  else none
def xf_xt_write_9 (t_model_items : (Nat → Int32)) (t_model_lines : Int32) (t_model_name : (Nat → Int64)) (t_model_number : (Nat → Int32)) (t_model_order : (Nat → Int32)) (t_model_size : (Nat → Int32)) (t_model_sort : (Nat → Int32)) (t_model_start : (Nat → Int32)) (t_model_used : Int32) (t_model_value : (Nat → Int32)) (n : Nat) (N : Nat) : Int32 → Int32 → (Nat → Int32) → Int32 → Int32 → (Nat → Int32) → Int32 → Option (Int32 × Int32 × Int32 × (Nat → Int32) × Int32 × Int32 × (Nat → Int32)) :=
  Nat.rec (motive := fun _ => Int32 → Int32 → (Nat → Int32) → Int32 → Int32 → (Nat → Int32) → Int32 → Option (Int32 × Int32 × Int32 × (Nat → Int32) × Int32 × Int32 × (Nat → Int32))) (fun _ _ _ _ _ _ _ => none) (fun _ k9 t_spareText_full t_spareText_length t_spareText_signs t_text_full t_text_length t_text_signs v1 =>
    if v1 < t_model_lines then
      ((xf_md_rowAt t_model_lines t_model_order v1).bind fun q389 =>
      (xf_wr_writeLine t_model_items t_model_name t_model_number t_model_size t_model_sort t_model_start t_model_used t_model_value n t_spareText_full t_spareText_length t_spareText_signs q389).bind fun q464 =>
      k9 q464.2.1 q464.2.2.1 q464.2.2.2 t_text_full t_text_length t_text_signs (v1 + (1 : Int32)))
    else
      if t_spareText_full = (0 : Int32) then
        ((xf_pg_copyFrom t_spareText_full t_spareText_length t_spareText_signs t_text_full t_text_length t_text_signs).bind fun q469 =>
        some (q469.2.2.1, t_spareText_full, t_spareText_length, t_spareText_signs, q469.2.1, q469.2.2.1, q469.2.2.2))
      else
        some ((-2 : Int32), t_spareText_full, t_spareText_length, t_spareText_signs, t_text_full, t_text_length, t_text_signs)) N
def xf_xt_write (t_model_items : (Nat → Int32)) (t_model_lines : Int32) (t_model_name : (Nat → Int64)) (t_model_number : (Nat → Int32)) (t_model_order : (Nat → Int32)) (t_model_size : (Nat → Int32)) (t_model_sort : (Nat → Int32)) (t_model_start : (Nat → Int32)) (t_model_used : Int32) (t_model_value : (Nat → Int32)) (n : Nat) (t_spareText_full : Int32) (t_spareText_length : Int32) (t_spareText_signs : (Nat → Int32)) (t_text_full : Int32) (t_text_length : Int32) (t_text_signs : (Nat → Int32)) : Option (Int32 × Int32 × Int32 × (Nat → Int32) × Int32 × Int32 × (Nat → Int32)) :=
  (xf_pg_clear t_spareText_full t_spareText_length).bind fun q387 =>
  xf_xt_write_9 t_model_items t_model_lines t_model_name t_model_number t_model_order t_model_size t_model_sort t_model_start t_model_used t_model_value n n q387.2.1 q387.2.2 t_spareText_signs t_text_full t_text_length t_text_signs ((0 : Int32))
def xf_xt_keep (t_model_items : (Nat → Int32)) (t_model_lines : Int32) (t_model_name : (Nat → Int64)) (t_model_number : (Nat → Int32)) (t_model_order : (Nat → Int32)) (t_model_rows : Int32) (t_model_size : (Nat → Int32)) (t_model_sort : (Nat → Int32)) (t_model_start : (Nat → Int32)) (t_model_used : Int32) (t_model_value : (Nat → Int32)) (t_kept_items : (Nat → Int32)) (t_kept_lines : Int32) (t_kept_name : (Nat → Int64)) (t_kept_number : (Nat → Int32)) (t_kept_order : (Nat → Int32)) (t_kept_rows : Int32) (t_kept_size : (Nat → Int32)) (t_kept_sort : (Nat → Int32)) (t_kept_start : (Nat → Int32)) (t_kept_used : Int32) (t_kept_value : (Nat → Int32)) : Option (Int32 × (Nat → Int32) × Int32 × (Nat → Int64) × (Nat → Int32) × (Nat → Int32) × Int32 × (Nat → Int32) × (Nat → Int32) × (Nat → Int32) × Int32 × (Nat → Int32)) :=
  (xf_md_copyFrom t_model_items t_model_lines t_model_name t_model_number t_model_order t_model_rows t_model_size t_model_sort t_model_start t_model_used t_model_value t_kept_items t_kept_lines t_kept_name t_kept_number t_kept_order t_kept_rows t_kept_size t_kept_sort t_kept_start t_kept_used t_kept_value).bind fun q478 =>
  some (q478.2.2.1, q478.2.1, q478.2.2.1, q478.2.2.2.1, q478.2.2.2.2.1, q478.2.2.2.2.2.1, q478.2.2.2.2.2.2.1, q478.2.2.2.2.2.2.2.1, q478.2.2.2.2.2.2.2.2.1, q478.2.2.2.2.2.2.2.2.2.1, q478.2.2.2.2.2.2.2.2.2.2.1, q478.2.2.2.2.2.2.2.2.2.2.2)
def xf_le_point_20 (n_t_to : Nat) (t_to : (Nat → Int32)) : Option (Unit × (Nat → Int32)) :=
  some ((), t_to)
def xf_le_point (n_t_to : Nat) (t_to : (Nat → Int32)) (a1 : Int32) (a2 : Int32) : Option (Unit × (Nat → Int32)) :=
  if a1 < (0 : Int32) then
    (xf_le_point_20 n_t_to t_to)
  else
    if a1 < (Int32.ofNat n_t_to) then
      (if xr_in a1 n_t_to = true then
        (xf_le_point_20 n_t_to (upd t_to a1.toNatClampNeg a2))
      else none)
    else
      xf_le_point_20 n_t_to t_to
def xf_le_of_23 (t_to : (Nat → Int32)) (n_t_to : Nat) (s0 : Int32) : Option (Int32) :=
  some s0
def xf_le_of_22 (t_to : (Nat → Int32)) (n_t_to : Nat) (v1 : Int32) : Option (Int32) :=
  xf_le_of_23 t_to n_t_to v1
def xf_le_of (t_to : (Nat → Int32)) (n_t_to : Nat) (a1 : Int32) : Option (Int32) :=
  if a1 < (0 : Int32) then
    (xf_le_of_22 t_to n_t_to a1)
  else
    if a1 < (Int32.ofNat n_t_to) then
      (if xr_in a1 n_t_to = true then
        (xf_le_of_23 t_to n_t_to (t_to a1.toNatClampNeg))
      else none)
    else
      xf_le_of_22 t_to n_t_to a1
def xf_md_sameArgument_57 (p2_items : (Nat → Int32)) (p2_sort : (Nat → Int32)) (p2_start : (Nat → Int32)) (p2_used : Int32) (p2_value : (Nat → Int32)) (p4_to : (Nat → Int32)) (t_items : (Nat → Int32)) (t_sort : (Nat → Int32)) (t_start : (Nat → Int32)) (t_used : Int32) (t_value : (Nat → Int32)) (n_p4_to : Nat) (n : Nat) (s0 : Int32) : Option (Int32) :=
  if fits .boolean (.int s0) = true then some s0 else none
def xf_md_sameArgument_157 (p2_items : (Nat → Int32)) (p2_sort : (Nat → Int32)) (p2_start : (Nat → Int32)) (p2_used : Int32) (p2_value : (Nat → Int32)) (p4_to : (Nat → Int32)) (t_items : (Nat → Int32)) (t_sort : (Nat → Int32)) (t_start : (Nat → Int32)) (t_used : Int32) (t_value : (Nat → Int32)) (n_p4_to : Nat) (k95 : Int32 → Int32 → Int32 → Int32 → Option (Int32)) (n : Nat) (v1 : Int32) (v3 : Int32) (v5 : Int32) (v6 : Int32) : Option (Int32) :=
  k95 v1 v3 v5 (v6 + (1 : Int32))
def xf_md_sameArgument_155 (p2_items : (Nat → Int32)) (p2_sort : (Nat → Int32)) (p2_start : (Nat → Int32)) (p2_used : Int32) (p2_value : (Nat → Int32)) (p4_to : (Nat → Int32)) (t_items : (Nat → Int32)) (t_sort : (Nat → Int32)) (t_start : (Nat → Int32)) (t_used : Int32) (t_value : (Nat → Int32)) (n_p4_to : Nat) (n : Nat) : Option (Int32) :=
  some ((0 : Int32))
def xf_md_sameArgument_95 (p2_items : (Nat → Int32)) (p2_sort : (Nat → Int32)) (p2_start : (Nat → Int32)) (p2_used : Int32) (p2_value : (Nat → Int32)) (p4_to : (Nat → Int32)) (t_items : (Nat → Int32)) (t_sort : (Nat → Int32)) (t_start : (Nat → Int32)) (t_used : Int32) (t_value : (Nat → Int32)) (n_p4_to : Nat) (n : Nat) (N : Nat) : Int32 → Int32 → Int32 → Int32 → Option (Int32) :=
  Nat.rec (motive := fun _ => Int32 → Int32 → Int32 → Int32 → Option (Int32)) (fun _ _ _ _ => none) (fun _ k95 v1 v3 v5 v6 =>
    (xf_md_itemsOf t_sort t_value v1).bind fun q527 =>
    if v6 < q527 then
      ((xf_md_itemAt t_items t_start t_used v1 v6).bind fun q529 =>
      (xf_md_itemAt p2_items p2_start p2_used v3 v6).bind fun q530 =>
      if v5 = (0 : Int32) then
        (if q529 = q530 then
          (xf_md_sameArgument_157 p2_items p2_sort p2_start p2_used p2_value p4_to t_items t_sort t_start t_used t_value n_p4_to k95 n v1 v3 v5 v6)
        else
          xf_md_sameArgument_155 p2_items p2_sort p2_start p2_used p2_value p4_to t_items t_sort t_start t_used t_value n_p4_to n)
      else
        (xf_le_of p4_to n_p4_to q529).bind fun q533 =>
        (xf_le_of p4_to n_p4_to q530).bind fun q534 =>
        if q533 = q534 then
          (xf_md_sameArgument_157 p2_items p2_sort p2_start p2_used p2_value p4_to t_items t_sort t_start t_used t_value n_p4_to k95 n v1 v3 v5 v6)
        else
          xf_md_sameArgument_155 p2_items p2_sort p2_start p2_used p2_value p4_to t_items t_sort t_start t_used t_value n_p4_to n)
    else
      some ((1 : Int32))) N
def xf_md_sameArgument_90 (p2_items : (Nat → Int32)) (p2_sort : (Nat → Int32)) (p2_start : (Nat → Int32)) (p2_used : Int32) (p2_value : (Nat → Int32)) (p4_to : (Nat → Int32)) (t_items : (Nat → Int32)) (t_sort : (Nat → Int32)) (t_start : (Nat → Int32)) (t_used : Int32) (t_value : (Nat → Int32)) (n_p4_to : Nat) (n : Nat) (v1 : Int32) (v3 : Int32) (s0 : Int32) : Option (Int32) :=
  xf_md_sameArgument_95 p2_items p2_sort p2_start p2_used p2_value p4_to t_items t_sort t_start t_used t_value n_p4_to n n v1 v3 s0 ((0 : Int32))
def xf_md_sameArgument (p2_items : (Nat → Int32)) (p2_sort : (Nat → Int32)) (p2_start : (Nat → Int32)) (p2_used : Int32) (p2_value : (Nat → Int32)) (p4_to : (Nat → Int32)) (t_items : (Nat → Int32)) (t_sort : (Nat → Int32)) (t_start : (Nat → Int32)) (t_used : Int32) (t_value : (Nat → Int32)) (n_p4_to : Nat) (n : Nat) (a1 : Int32) (a3 : Int32) : Option (Int32) :=
  if xr_in a1 320 = true then
    (if xr_in a3 320 = true then
      (if (t_sort a1.toNatClampNeg) = (p2_sort a3.toNatClampNeg) then
        (if xr_in a1 320 = true then
          (if (t_sort a1.toNatClampNeg) = ((2 : Int32)) then
            (if xr_in a1 320 = true then
              ((xf_le_of p4_to n_p4_to (t_value a1.toNatClampNeg)).bind fun q517 =>
              if xr_in a3 320 = true then
                ((xf_le_of p4_to n_p4_to (p2_value a3.toNatClampNeg)).bind fun q519 =>
                if q517 = q519 then
                  (xf_md_sameArgument_57 p2_items p2_sort p2_start p2_used p2_value p4_to t_items t_sort t_start t_used t_value n_p4_to n ((1 : Int32)))
                else
                  xf_md_sameArgument_57 p2_items p2_sort p2_start p2_used p2_value p4_to t_items t_sort t_start t_used t_value n_p4_to n ((0 : Int32)))
              else none)
            else none)
          else
            if xr_in a1 320 = true then
              (if xr_in a3 320 = true then
                (if (t_value a1.toNatClampNeg) = (p2_value a3.toNatClampNeg) then
                  (if xr_in a1 320 = true then
                    (if (t_sort a1.toNatClampNeg) = ((4 : Int32)) then
                      (xf_md_sameArgument_90 p2_items p2_sort p2_start p2_used p2_value p4_to t_items t_sort t_start t_used t_value n_p4_to n a1 a3 ((1 : Int32)))
                    else
                      xf_md_sameArgument_90 p2_items p2_sort p2_start p2_used p2_value p4_to t_items t_sort t_start t_used t_value n_p4_to n a1 a3 ((0 : Int32)))
                  else none)
                else
                  some ((0 : Int32)))
              else none)
            else none)
        else none)
      else
        some ((0 : Int32)))
    else none)
  else none
def xf_md_sameLine_36 (p2_items : (Nat → Int32)) (p2_name : (Nat → Int64)) (p2_size : (Nat → Int32)) (p2_sort : (Nat → Int32)) (p2_start : (Nat → Int32)) (p2_used : Int32) (p2_value : (Nat → Int32)) (p4_to : (Nat → Int32)) (t_items : (Nat → Int32)) (t_name : (Nat → Int64)) (t_size : (Nat → Int32)) (t_sort : (Nat → Int32)) (t_start : (Nat → Int32)) (t_used : Int32) (t_value : (Nat → Int32)) (n_p4_to : Nat) (n : Nat) (N : Nat) : Int32 → Int32 → Int32 → Option (Int32) :=
  Nat.rec (motive := fun _ => Int32 → Int32 → Int32 → Option (Int32)) (fun _ _ _ => none) (fun _ k36 v1 v3 v5 =>
    if xr_in v1 40 = true then
      (if v5 < (t_size v1.toNatClampNeg) then
        ((xf_md_sameArgument p2_items p2_sort p2_start p2_used p2_value p4_to t_items t_sort t_start t_used t_value n_p4_to n ((v1 * ((8 : Int32))) + v5) ((v3 * ((8 : Int32))) + v5)).bind fun q536 =>
        if q536 = (0 : Int32) then
          (some ((0 : Int32)))
        else
          k36 v1 v3 (v5 + (1 : Int32)))
      else
        some ((1 : Int32)))
    else none) N
def xf_md_sameLine_31 (p2_items : (Nat → Int32)) (p2_name : (Nat → Int64)) (p2_size : (Nat → Int32)) (p2_sort : (Nat → Int32)) (p2_start : (Nat → Int32)) (p2_used : Int32) (p2_value : (Nat → Int32)) (p4_to : (Nat → Int32)) (t_items : (Nat → Int32)) (t_name : (Nat → Int64)) (t_size : (Nat → Int32)) (t_sort : (Nat → Int32)) (t_start : (Nat → Int32)) (t_used : Int32) (t_value : (Nat → Int32)) (n_p4_to : Nat) (n : Nat) : Option (Int32) :=
  some ((0 : Int32))
def xf_md_sameLine (p2_items : (Nat → Int32)) (p2_name : (Nat → Int64)) (p2_size : (Nat → Int32)) (p2_sort : (Nat → Int32)) (p2_start : (Nat → Int32)) (p2_used : Int32) (p2_value : (Nat → Int32)) (p4_to : (Nat → Int32)) (t_items : (Nat → Int32)) (t_name : (Nat → Int64)) (t_size : (Nat → Int32)) (t_sort : (Nat → Int32)) (t_start : (Nat → Int32)) (t_used : Int32) (t_value : (Nat → Int32)) (n_p4_to : Nat) (n : Nat) (a1 : Int32) (a3 : Int32) : Option (Int32) :=
  if xr_in a1 40 = true then
    (if xr_in a3 40 = true then
      (if (lg_cmp (t_name a1.toNatClampNeg) (p2_name a3.toNatClampNeg)) = (0 : Int32) then
        (if xr_in a1 40 = true then
          (if xr_in a3 40 = true then
            (if (t_size a1.toNatClampNeg) = (p2_size a3.toNatClampNeg) then
              (xf_md_sameLine_36 p2_items p2_name p2_size p2_sort p2_start p2_used p2_value p4_to t_items t_name t_size t_sort t_start t_used t_value n_p4_to n n a1 a3 ((0 : Int32)))
            else
              xf_md_sameLine_31 p2_items p2_name p2_size p2_sort p2_start p2_used p2_value p4_to t_items t_name t_size t_sort t_start t_used t_value n_p4_to n)
          else none)
        else none)
      else
        xf_md_sameLine_31 p2_items p2_name p2_size p2_sort p2_start p2_used p2_value p4_to t_items t_name t_size t_sort t_start t_used t_value n_p4_to n)
    else none)
  else none
def xf_gr_firstAlike_65 (t_depth : (Nat → Int32)) (t_leads_to : (Nat → Int32)) (t_model_items : (Nat → Int32)) (t_model_lines : Int32) (t_model_name : (Nat → Int64)) (t_model_number : (Nat → Int32)) (t_model_order : (Nat → Int32)) (t_model_size : (Nat → Int32)) (t_model_sort : (Nat → Int32)) (t_model_start : (Nat → Int32)) (t_model_used : Int32) (t_model_value : (Nat → Int32)) (n_t_leads_to : Nat) (k2 : Int32 → Int32 → Int32 → Option (Int32)) (n : Nat) (v1 : Int32) (v2 : Int32) (v3 : Int32) : Option (Int32) :=
  k2 v1 v2 (v3 + (1 : Int32))
def xf_gr_firstAlike_2 (t_depth : (Nat → Int32)) (t_leads_to : (Nat → Int32)) (t_model_items : (Nat → Int32)) (t_model_lines : Int32) (t_model_name : (Nat → Int64)) (t_model_number : (Nat → Int32)) (t_model_order : (Nat → Int32)) (t_model_size : (Nat → Int32)) (t_model_sort : (Nat → Int32)) (t_model_start : (Nat → Int32)) (t_model_used : Int32) (t_model_value : (Nat → Int32)) (n_t_leads_to : Nat) (n : Nat) (N : Nat) : Int32 → Int32 → Int32 → Option (Int32) :=
  Nat.rec (motive := fun _ => Int32 → Int32 → Int32 → Option (Int32)) (fun _ _ _ => none) (fun _ k2 v1 v2 v3 =>
    if v3 < v2 then
      ((xf_md_rowAt t_model_lines t_model_order v3).bind fun q496 =>
      if xr_in q496 40 = true then
        (if xr_in v1 40 = true then
          (if (t_depth q496.toNatClampNeg) = (t_depth v1.toNatClampNeg) then
            ((xf_md_sameLine t_model_items t_model_name t_model_size t_model_sort t_model_start t_model_used t_model_value t_leads_to t_model_items t_model_name t_model_size t_model_sort t_model_start t_model_used t_model_value n_t_leads_to n v1 q496).bind fun q538 =>
            if q538 = (0 : Int32) then
              (xf_gr_firstAlike_65 t_depth t_leads_to t_model_items t_model_lines t_model_name t_model_number t_model_order t_model_size t_model_sort t_model_start t_model_used t_model_value n_t_leads_to k2 n v1 v2 v3)
            else
              if xr_in q496 40 = true then
                (some (t_model_number q496.toNatClampNeg))
              else none)
          else
            xf_gr_firstAlike_65 t_depth t_leads_to t_model_items t_model_lines t_model_name t_model_number t_model_order t_model_size t_model_sort t_model_start t_model_used t_model_value n_t_leads_to k2 n v1 v2 v3)
        else none)
      else none)
    else
      if xr_in v1 40 = true then
        (some (t_model_number v1.toNatClampNeg))
      else none) N
def xf_gr_firstAlike (t_depth : (Nat → Int32)) (t_leads_to : (Nat → Int32)) (t_model_items : (Nat → Int32)) (t_model_lines : Int32) (t_model_name : (Nat → Int64)) (t_model_number : (Nat → Int32)) (t_model_order : (Nat → Int32)) (t_model_size : (Nat → Int32)) (t_model_sort : (Nat → Int32)) (t_model_start : (Nat → Int32)) (t_model_used : Int32) (t_model_value : (Nat → Int32)) (n_t_leads_to : Nat) (n : Nat) (a1 : Int32) (a2 : Int32) : Option (Int32) :=
  xf_gr_firstAlike_2 t_depth t_leads_to t_model_items t_model_lines t_model_name t_model_number t_model_order t_model_size t_model_sort t_model_start t_model_used t_model_value n_t_leads_to n n a1 a2 ((0 : Int32))
def xf_gr_group_139 (t_depth : (Nat → Int32)) (t_model_items : (Nat → Int32)) (t_model_lines : Int32) (t_model_name : (Nat → Int64)) (t_model_number : (Nat → Int32)) (t_model_order : (Nat → Int32)) (t_model_size : (Nat → Int32)) (t_model_sort : (Nat → Int32)) (t_model_start : (Nat → Int32)) (t_model_used : Int32) (t_model_value : (Nat → Int32)) (n_t_leads_to : Nat) (k76 : Int32 → (Nat → Int32) → Int32 → Int32 → Option (Unit × Int32 × (Nat → Int32))) (k83 : Int32 → (Nat → Int32) → Int32 → Int32 → Int32 → Option (Unit × Int32 × (Nat → Int32))) (n : Nat) (t_grouped : Int32) (t_leads_to : (Nat → Int32)) (v1 : Int32) (v2 : Int32) (v3 : Int32) : Option (Unit × Int32 × (Nat → Int32)) :=
  k83 t_grouped t_leads_to v1 v2 (v3 + (1 : Int32))
def xf_gr_group_83 (t_depth : (Nat → Int32)) (t_model_items : (Nat → Int32)) (t_model_lines : Int32) (t_model_name : (Nat → Int64)) (t_model_number : (Nat → Int32)) (t_model_order : (Nat → Int32)) (t_model_size : (Nat → Int32)) (t_model_sort : (Nat → Int32)) (t_model_start : (Nat → Int32)) (t_model_used : Int32) (t_model_value : (Nat → Int32)) (n_t_leads_to : Nat) (k76 : Int32 → (Nat → Int32) → Int32 → Int32 → Option (Unit × Int32 × (Nat → Int32))) (n : Nat) (N : Nat) : Int32 → (Nat → Int32) → Int32 → Int32 → Int32 → Option (Unit × Int32 × (Nat → Int32)) :=
  Nat.rec (motive := fun _ => Int32 → (Nat → Int32) → Int32 → Int32 → Int32 → Option (Unit × Int32 × (Nat → Int32))) (fun _ _ _ _ _ => none) (fun _ k83 t_grouped t_leads_to v1 v2 v3 =>
    if v3 < t_model_lines then
      ((xf_md_rowAt t_model_lines t_model_order v3).bind fun q491 =>
      if xr_in q491 40 = true then
        (if (t_depth q491.toNatClampNeg) = v2 then
          (if xr_in q491 40 = true then
            ((xf_gr_firstAlike t_depth t_leads_to t_model_items t_model_lines t_model_name t_model_number t_model_order t_model_size t_model_sort t_model_start t_model_used t_model_value n_t_leads_to n q491 v3).bind fun q542 =>
            (xf_le_point n_t_leads_to t_leads_to (t_model_number q491.toNatClampNeg) q542).bind fun q543 =>
            xf_gr_group_139 t_depth t_model_items t_model_lines t_model_name t_model_number t_model_order t_model_size t_model_sort t_model_start t_model_used t_model_value n_t_leads_to k76 k83 n t_grouped q543.2 v1 v2 v3)
          else none)
        else
          xf_gr_group_139 t_depth t_model_items t_model_lines t_model_name t_model_number t_model_order t_model_size t_model_sort t_model_start t_model_used t_model_value n_t_leads_to k76 k83 n t_grouped t_leads_to v1 v2 v3)
      else none)
    else
      k76 t_grouped t_leads_to v1 (v2 + (1 : Int32))) N
def xf_gr_group_76 (t_depth : (Nat → Int32)) (t_model_items : (Nat → Int32)) (t_model_lines : Int32) (t_model_name : (Nat → Int64)) (t_model_number : (Nat → Int32)) (t_model_order : (Nat → Int32)) (t_model_size : (Nat → Int32)) (t_model_sort : (Nat → Int32)) (t_model_start : (Nat → Int32)) (t_model_used : Int32) (t_model_value : (Nat → Int32)) (n_t_leads_to : Nat) (n : Nat) (N : Nat) : Int32 → (Nat → Int32) → Int32 → Int32 → Option (Unit × Int32 × (Nat → Int32)) :=
  Nat.rec (motive := fun _ => Int32 → (Nat → Int32) → Int32 → Int32 → Option (Unit × Int32 × (Nat → Int32))) (fun _ _ _ _ => none) (fun _ k76 t_grouped t_leads_to v1 v2 =>
    if v1 < v2 then
      (some ((), (1 : Int32), t_leads_to))
    else
      xf_gr_group_83 t_depth t_model_items t_model_lines t_model_name t_model_number t_model_order t_model_size t_model_sort t_model_start t_model_used t_model_value n_t_leads_to k76 n n t_grouped t_leads_to v1 v2 ((0 : Int32))) N
def xf_gr_group_12 (t_depth : (Nat → Int32)) (t_model_items : (Nat → Int32)) (t_model_lines : Int32) (t_model_name : (Nat → Int64)) (t_model_number : (Nat → Int32)) (t_model_order : (Nat → Int32)) (t_model_size : (Nat → Int32)) (t_model_sort : (Nat → Int32)) (t_model_start : (Nat → Int32)) (t_model_used : Int32) (t_model_value : (Nat → Int32)) (n_t_leads_to : Nat) (n : Nat) (N : Nat) : Int32 → (Nat → Int32) → Int32 → Int32 → Option (Unit × Int32 × (Nat → Int32)) :=
  Nat.rec (motive := fun _ => Int32 → (Nat → Int32) → Int32 → Int32 → Option (Unit × Int32 × (Nat → Int32))) (fun _ _ _ _ => none) (fun _ k12 t_grouped t_leads_to v1 v2 =>
    if v2 < t_model_lines then
      ((xf_md_rowAt t_model_lines t_model_order v2).bind fun q481 =>
      if xr_in q481 40 = true then
        (if xr_in q481 40 = true then
          ((xf_le_point n_t_leads_to t_leads_to (t_model_number q481.toNatClampNeg) (t_model_number q481.toNatClampNeg)).bind fun q487 =>
          if xr_in q481 40 = true then
            (k12 t_grouped q487.2 (xe_max v1 (t_depth q481.toNatClampNeg)) (v2 + (1 : Int32)))
          else none)
        else none)
      else none)
    else
      xf_gr_group_76 t_depth t_model_items t_model_lines t_model_name t_model_number t_model_order t_model_size t_model_sort t_model_start t_model_used t_model_value n_t_leads_to n n t_grouped t_leads_to v1 ((0 : Int32))) N
def xf_gr_group (t_depth : (Nat → Int32)) (t_model_items : (Nat → Int32)) (t_model_lines : Int32) (t_model_name : (Nat → Int64)) (t_model_number : (Nat → Int32)) (t_model_order : (Nat → Int32)) (t_model_size : (Nat → Int32)) (t_model_sort : (Nat → Int32)) (t_model_start : (Nat → Int32)) (t_model_used : Int32) (t_model_value : (Nat → Int32)) (n_t_leads_to : Nat) (n : Nat) (t_grouped : Int32) (t_leads_to : (Nat → Int32)) : Option (Unit × Int32 × (Nat → Int32)) :=
  if t_grouped = (0 : Int32) then
    (xf_gr_group_12 t_depth t_model_items t_model_lines t_model_name t_model_number t_model_order t_model_size t_model_sort t_model_start t_model_used t_model_value n_t_leads_to n n t_grouped t_leads_to ((-1 : Int32)) ((0 : Int32)))
  else
    some ((), t_grouped, t_leads_to)
def xf_md_lead_70 (p2_to : (Nat → Int32)) (t_size : (Nat → Int32)) (t_sort : (Nat → Int32)) (t_start : (Nat → Int32)) (t_used : Int32) (n_p2_to : Nat) (k2 : (Nat → Int32) → (Nat → Int32) → Int32 → Int32 → Option (Unit × (Nat → Int32) × (Nat → Int32))) (n : Nat) (t_items : (Nat → Int32)) (t_value : (Nat → Int32)) (v1 : Int32) (v3 : Int32) : Option (Unit × (Nat → Int32) × (Nat → Int32)) :=
  k2 t_items t_value v1 (v3 + (1 : Int32))
def xf_md_leadItems_54 (p2_to : (Nat → Int32)) (t_start : (Nat → Int32)) (t_used : Int32) (t_value : (Nat → Int32)) (n_p2_to : Nat) (n : Nat) (t_items : (Nat → Int32)) : Option (Unit × (Nat → Int32)) :=
  some ((), t_items)
def xf_md_leadItems_7 (p2_to : (Nat → Int32)) (t_start : (Nat → Int32)) (t_used : Int32) (t_value : (Nat → Int32)) (n_p2_to : Nat) (n : Nat) (N : Nat) : (Nat → Int32) → Int32 → Int32 → Option (Unit × (Nat → Int32)) :=
  Nat.rec (motive := fun _ => (Nat → Int32) → Int32 → Int32 → Option (Unit × (Nat → Int32))) (fun _ _ _ => none) (fun _ k7 t_items v1 v3 =>
    if xr_in v1 320 = true then
      (if xr_in v1 320 = true then
        (if v3 < ((t_start v1.toNatClampNeg) + (t_value v1.toNatClampNeg)) then
          (if v3 < t_used then
            (if xr_in v3 1200 = true then
              ((xf_le_of p2_to n_p2_to (t_items v3.toNatClampNeg)).bind fun q566 =>
              if xr_in v3 1200 = true then
                (k7 (upd t_items v3.toNatClampNeg q566) v1 (v3 + (1 : Int32)))
              else none)
            else none)
          else
            xf_md_leadItems_54 p2_to t_start t_used t_value n_p2_to n t_items)
        else
          xf_md_leadItems_54 p2_to t_start t_used t_value n_p2_to n t_items)
      else none)
    else none) N
def xf_md_leadItems (p2_to : (Nat → Int32)) (t_start : (Nat → Int32)) (t_used : Int32) (t_value : (Nat → Int32)) (n_p2_to : Nat) (n : Nat) (t_items : (Nat → Int32)) (a1 : Int32) : Option (Unit × (Nat → Int32)) :=
  if xr_in a1 320 = true then
    (xf_md_leadItems_7 p2_to t_start t_used t_value n_p2_to n n t_items a1 (t_start a1.toNatClampNeg))
  else none
def xf_md_lead_2 (p2_to : (Nat → Int32)) (t_size : (Nat → Int32)) (t_sort : (Nat → Int32)) (t_start : (Nat → Int32)) (t_used : Int32) (n_p2_to : Nat) (n : Nat) (N : Nat) : (Nat → Int32) → (Nat → Int32) → Int32 → Int32 → Option (Unit × (Nat → Int32) × (Nat → Int32)) :=
  Nat.rec (motive := fun _ => (Nat → Int32) → (Nat → Int32) → Int32 → Int32 → Option (Unit × (Nat → Int32) × (Nat → Int32))) (fun _ _ _ _ => none) (fun _ k2 t_items t_value v1 v3 =>
    if xr_in v1 40 = true then
      (if v3 < (t_size v1.toNatClampNeg) then
        (if xr_in ((v1 * ((8 : Int32))) + v3) 320 = true then
          (if (t_sort ((v1 * ((8 : Int32))) + v3).toNatClampNeg) = ((2 : Int32)) then
            (if xr_in ((v1 * ((8 : Int32))) + v3) 320 = true then
              ((xf_le_of p2_to n_p2_to (t_value ((v1 * ((8 : Int32))) + v3).toNatClampNeg)).bind fun q556 =>
              if xr_in ((v1 * ((8 : Int32))) + v3) 320 = true then
                (xf_md_lead_70 p2_to t_size t_sort t_start t_used n_p2_to k2 n t_items (upd t_value ((v1 * ((8 : Int32))) + v3).toNatClampNeg q556) v1 v3)
              else none)
            else none)
          else
            if xr_in ((v1 * ((8 : Int32))) + v3) 320 = true then
              (if (t_sort ((v1 * ((8 : Int32))) + v3).toNatClampNeg) = ((4 : Int32)) then
                ((xf_md_leadItems p2_to t_start t_used t_value n_p2_to n t_items ((v1 * ((8 : Int32))) + v3)).bind fun q568 =>
                xf_md_lead_70 p2_to t_size t_sort t_start t_used n_p2_to k2 n q568.2 t_value v1 v3)
              else
                xf_md_lead_70 p2_to t_size t_sort t_start t_used n_p2_to k2 n t_items t_value v1 v3)
            else none)
        else none)
      else
        some ((), t_items, t_value))
    else none) N
def xf_md_lead (p2_to : (Nat → Int32)) (t_size : (Nat → Int32)) (t_sort : (Nat → Int32)) (t_start : (Nat → Int32)) (t_used : Int32) (n_p2_to : Nat) (n : Nat) (t_items : (Nat → Int32)) (t_value : (Nat → Int32)) (a1 : Int32) : Option (Unit × (Nat → Int32) × (Nat → Int32)) :=
  xf_md_lead_2 p2_to t_size t_sort t_start t_used n_p2_to n n t_items t_value a1 ((0 : Int32))
def xf_md_follow_59 (p1_to : (Nat → Int32)) (t_number : (Nat → Int32)) (t_size : (Nat → Int32)) (t_sort : (Nat → Int32)) (t_start : (Nat → Int32)) (t_used : Int32) (n_p1_to : Nat) (k4 : (Nat → Int32) → Int32 → (Nat → Int32) → (Nat → Int32) → Int32 → Int32 → Option (Unit × (Nat → Int32) × Int32 × (Nat → Int32) × (Nat → Int32))) (n : Nat) (t_items : (Nat → Int32)) (t_lines : Int32) (t_order : (Nat → Int32)) (t_value : (Nat → Int32)) (v2 : Int32) (v3 : Int32) : Option (Unit × (Nat → Int32) × Int32 × (Nat → Int32) × (Nat → Int32)) :=
  k4 t_items t_lines t_order t_value v2 (v3 + (1 : Int32))
def xf_md_follow_4 (p1_to : (Nat → Int32)) (t_number : (Nat → Int32)) (t_size : (Nat → Int32)) (t_sort : (Nat → Int32)) (t_start : (Nat → Int32)) (t_used : Int32) (n_p1_to : Nat) (n : Nat) (N : Nat) : (Nat → Int32) → Int32 → (Nat → Int32) → (Nat → Int32) → Int32 → Int32 → Option (Unit × (Nat → Int32) × Int32 × (Nat → Int32) × (Nat → Int32)) :=
  Nat.rec (motive := fun _ => (Nat → Int32) → Int32 → (Nat → Int32) → (Nat → Int32) → Int32 → Int32 → Option (Unit × (Nat → Int32) × Int32 × (Nat → Int32) × (Nat → Int32))) (fun _ _ _ _ _ _ => none) (fun _ k4 t_items t_lines t_order t_value v2 v3 =>
    if v3 < t_lines then
      (if xr_in v3 40 = true then
        (if xr_in (t_order v3.toNatClampNeg) 40 = true then
          ((xf_le_of p1_to n_p1_to (t_number (t_order v3.toNatClampNeg).toNatClampNeg)).bind fun q548 =>
          if xr_in (t_order v3.toNatClampNeg) 40 = true then
            (if q548 = (t_number (t_order v3.toNatClampNeg).toNatClampNeg) then
              ((xf_md_lead p1_to t_size t_sort t_start t_used n_p1_to n t_items t_value (t_order v3.toNatClampNeg)).bind fun q569 =>
              if xr_in v2 40 = true then
                (xf_md_follow_59 p1_to t_number t_size t_sort t_start t_used n_p1_to k4 n q569.2.1 t_lines (upd t_order v2.toNatClampNeg ((t_order v3.toNatClampNeg))) q569.2.2 (v2 + (1 : Int32)) v3)
              else none)
            else
              xf_md_follow_59 p1_to t_number t_size t_sort t_start t_used n_p1_to k4 n t_items t_lines t_order t_value v2 v3)
          else none)
        else none)
      else none)
    else
      some ((), t_items, v2, t_order, t_value)) N
def xf_md_follow (p1_to : (Nat → Int32)) (t_number : (Nat → Int32)) (t_size : (Nat → Int32)) (t_sort : (Nat → Int32)) (t_start : (Nat → Int32)) (t_used : Int32) (n_p1_to : Nat) (n : Nat) (t_items : (Nat → Int32)) (t_lines : Int32) (t_order : (Nat → Int32)) (t_value : (Nat → Int32)) : Option (Unit × (Nat → Int32) × Int32 × (Nat → Int32) × (Nat → Int32)) :=
  xf_md_follow_4 p1_to t_number t_size t_sort t_start t_used n_p1_to n n t_items t_lines t_order t_value ((0 : Int32)) ((0 : Int32))
def xf_xt_join (t_model_name : (Nat → Int64)) (t_model_number : (Nat → Int32)) (t_model_size : (Nat → Int32)) (t_model_sort : (Nat → Int32)) (t_model_start : (Nat → Int32)) (t_model_used : Int32) (n_t_graph_leads_to : Nat) (n : Nat) (t_graph_depth : (Nat → Int32)) (t_graph_direct : (Nat → Int64)) (t_graph_grouped : Int32) (t_graph_leads_to : (Nat → Int32)) (t_graph_reach : (Nat → Int64)) (t_model_items : (Nat → Int32)) (t_model_lines : Int32) (t_model_order : (Nat → Int32)) (t_model_value : (Nat → Int32)) : Option (Int32 × (Nat → Int32) × (Nat → Int64) × Int32 × (Nat → Int32) × (Nat → Int64) × (Nat → Int32) × Int32 × (Nat → Int32) × (Nat → Int32)) :=
  (xf_gr_group t_graph_depth t_model_items t_model_lines t_model_name t_model_number t_model_order t_model_size t_model_sort t_model_start t_model_used t_model_value n_t_graph_leads_to n t_graph_grouped t_graph_leads_to).bind fun q544 =>
  (xf_md_follow q544.2.2 t_model_number t_model_size t_model_sort t_model_start t_model_used n_t_graph_leads_to n t_model_items t_model_lines t_model_order t_model_value).bind fun q571 =>
  (xf_gr_learn q571.2.1 q571.2.2.1 t_model_number q571.2.2.2.1 t_model_size t_model_sort t_model_start t_model_used q571.2.2.2.2 n t_graph_depth t_graph_direct q544.2.1 t_graph_reach).bind fun q572 =>
  some (t_model_lines - q571.2.2.1, q572.2.1, q572.2.2.1, q572.2.2.2.1, q544.2.2, q572.2.2.2.2, q571.2.1, q571.2.2.1, q571.2.2.2.1, q571.2.2.2.2)
def xf_rf_thrown (t_thrown : Int32) : Option (Int32) :=
  some t_thrown
def xf_rf_fails_28 (t_thrown : Int32) (s0 : Int32) : Option (Int32 × Int32) :=
  if fits .boolean (.int s0) = true then some (s0, t_thrown) else none
def xf_rf_fails_16 (t_thrown : Int32) : Option (Int32 × Int32) :=
  if (0 : Int32) < t_thrown then
    (xf_rf_fails_28 t_thrown ((1 : Int32)))
  else
    xf_rf_fails_28 t_thrown ((0 : Int32))
def xf_rf_fails (t_thrown : Int32) (a1 : Int32) (a2 : Int32) : Option (Int32 × Int32) :=
  if t_thrown = (0 : Int32) then
    (if a1 = (0 : Int32) then
      (xf_rf_fails_16 t_thrown)
    else
      xf_rf_fails_16 a2)
  else
    xf_rf_fails_16 t_thrown
def xf_rf_say_171 (k129 : Int32 → (Nat → Int32) → Int32 → Int64 → Int32 → Option (Int32 × Int32 × (Nat → Int32) × Int32)) (n : Nat) (t_size : Int32) (t_text : (Nat → Int32)) (t_thrown : Int32) (v1 : Int64) (v5 : Int32) : Option (Int32 × Int32 × (Nat → Int32) × Int32) :=
  k129 t_size t_text t_thrown v1 (v5 + (-8 : Int32))
def xf_rf_say_129 (n : Nat) (N : Nat) : Int32 → (Nat → Int32) → Int32 → Int64 → Int32 → Option (Int32 × Int32 × (Nat → Int32) × Int32) :=
  Nat.rec (motive := fun _ => Int32 → (Nat → Int32) → Int32 → Int64 → Int32 → Option (Int32 × Int32 × (Nat → Int32) × Int32)) (fun _ _ _ _ _ => none) (fun _ k129 t_size t_text t_thrown v1 v5 =>
    if v5 < (0 : Int32) then
      (some (t_size, t_size, t_text, t_thrown))
    else
      if (0 : Int32) < (((xe_shr v1 v5) &&& ((255 : Int64))).toInt32) then
        (if xr_in t_size 1200 = true then
          (xf_rf_say_171 k129 n (t_size + ((1 : Int32))) (upd t_text t_size.toNatClampNeg ((((xe_shr v1 v5) &&& ((255 : Int64))).toInt32))) t_thrown v1 v5)
        else none)
      else
        xf_rf_say_171 k129 n t_size t_text t_thrown v1 v5) N
def xf_rf_say_123 (n : Nat) (t_size : Int32) (t_text : (Nat → Int32)) (t_thrown : Int32) : Option (Int32 × Int32 × (Nat → Int32) × Int32) :=
  some ((0 : Int32), t_size, t_text, t_thrown)
def xf_rf_say_116 (n : Nat) (t_size : Int32) (t_text : (Nat → Int32)) (t_thrown : Int32) (v1 : Int64) (s1 : Int32) : Option (Int32 × Int32 × (Nat → Int32) × Int32) :=
  (xf_rf_fails t_thrown s1 ((2 : Int32))).bind fun q582 =>
  if q582.1 = (0 : Int32) then
    (xf_rf_say_129 n n t_size t_text q582.2 v1 ((56 : Int32)))
  else
    xf_rf_say_123 n t_size t_text q582.2
def xf_rf_say_91 (n : Nat) (t_size : Int32) (t_text : (Nat → Int32)) (t_thrown : Int32) (v1 : Int64) (v3 : Int32) (s1 : Int32) : Option (Int32 × Int32 × (Nat → Int32) × Int32) :=
  (xf_rf_fails t_thrown s1 ((1 : Int32))).bind fun q579 =>
  if q579.1 = (0 : Int32) then
    (if ((1200 : Int32)) < (t_size + v3) then
      (xf_rf_say_116 n t_size t_text q579.2 v1 ((1 : Int32)))
    else
      xf_rf_say_116 n t_size t_text q579.2 v1 ((0 : Int32)))
  else
    xf_rf_say_123 n t_size t_text q579.2
def xf_rf_say_72 (k14 : Int32 → (Nat → Int32) → Int32 → Int64 → Int32 → Int32 → Int32 → Option (Int32 × Int32 × (Nat → Int32) × Int32)) (n : Nat) (t_size : Int32) (t_text : (Nat → Int32)) (t_thrown : Int32) (v1 : Int64) (v4 : Int32) (v5 : Int32) (s0 : Int32) (s1 : Int32) : Option (Int32 × Int32 × (Nat → Int32) × Int32) :=
  k14 t_size t_text t_thrown v1 (s0 + s1) v4 (v5 + (-8 : Int32))
def xf_rf_say_59 (k14 : Int32 → (Nat → Int32) → Int32 → Int64 → Int32 → Int32 → Int32 → Option (Int32 × Int32 × (Nat → Int32) × Int32)) (n : Nat) (t_size : Int32) (t_text : (Nat → Int32)) (t_thrown : Int32) (v1 : Int64) (v3 : Int32) (v5 : Int32) (v6 : Int32) (s0 : Int32) : Option (Int32 × Int32 × (Nat → Int32) × Int32) :=
  if v6 = (0 : Int32) then
    (xf_rf_say_72 k14 n t_size t_text t_thrown v1 s0 v5 v3 ((0 : Int32)))
  else
    xf_rf_say_72 k14 n t_size t_text t_thrown v1 s0 v5 v3 ((1 : Int32))
def xf_rf_say_58 (k14 : Int32 → (Nat → Int32) → Int32 → Int64 → Int32 → Int32 → Int32 → Option (Int32 × Int32 × (Nat → Int32) × Int32)) (n : Nat) (t_size : Int32) (t_text : (Nat → Int32)) (t_thrown : Int32) (v1 : Int64) (v3 : Int32) (v5 : Int32) (v6 : Int32) : Option (Int32 × Int32 × (Nat → Int32) × Int32) :=
  xf_rf_say_59 k14 n t_size t_text t_thrown v1 v3 v5 v6 ((0 : Int32))
def xf_rf_say_54 (k14 : Int32 → (Nat → Int32) → Int32 → Int64 → Int32 → Int32 → Int32 → Option (Int32 × Int32 × (Nat → Int32) × Int32)) (n : Nat) (t_size : Int32) (t_text : (Nat → Int32)) (t_thrown : Int32) (v1 : Int64) (v3 : Int32) (v5 : Int32) (v6 : Int32) : Option (Int32 × Int32 × (Nat → Int32) × Int32) :=
  xf_rf_say_59 k14 n t_size t_text t_thrown v1 v3 v5 v6 ((1 : Int32))
def xf_rf_say_14 (n : Nat) (N : Nat) : Int32 → (Nat → Int32) → Int32 → Int64 → Int32 → Int32 → Int32 → Option (Int32 × Int32 × (Nat → Int32) × Int32) :=
  Nat.rec (motive := fun _ => Int32 → (Nat → Int32) → Int32 → Int64 → Int32 → Int32 → Int32 → Option (Int32 × Int32 × (Nat → Int32) × Int32)) (fun _ _ _ _ _ _ _ => none) (fun _ k14 t_size t_text t_thrown v1 v3 v4 v5 =>
    if v5 < (0 : Int32) then
      (if v4 = (0 : Int32) then
        (xf_rf_say_91 n t_size t_text t_thrown v1 v3 ((1 : Int32)))
      else
        xf_rf_say_91 n t_size t_text t_thrown v1 v3 ((0 : Int32)))
    else
      if v4 = (0 : Int32) then
        (xf_rf_say_58 k14 n t_size t_text t_thrown v1 v3 v5 (((xe_shr v1 v5) &&& ((255 : Int64))).toInt32))
      else
        if (((xe_shr v1 v5) &&& ((255 : Int64))).toInt32) = (0 : Int32) then
          (xf_rf_say_54 k14 n t_size t_text t_thrown v1 v3 v5 (((xe_shr v1 v5) &&& ((255 : Int64))).toInt32))
        else
          if (((xe_shr v1 v5) &&& ((255 : Int64))).toInt32) < ((32 : Int32)) then
            (xf_rf_say_58 k14 n t_size t_text t_thrown v1 v3 v5 (((xe_shr v1 v5) &&& ((255 : Int64))).toInt32))
          else
            if ((126 : Int32)) < (((xe_shr v1 v5) &&& ((255 : Int64))).toInt32) then
              (xf_rf_say_58 k14 n t_size t_text t_thrown v1 v3 v5 (((xe_shr v1 v5) &&& ((255 : Int64))).toInt32))
            else
              xf_rf_say_54 k14 n t_size t_text t_thrown v1 v3 v5 (((xe_shr v1 v5) &&& ((255 : Int64))).toInt32)) N
def xf_rf_say (n : Nat) (t_size : Int32) (t_text : (Nat → Int32)) (t_thrown : Int32) (a1 : Int64) : Option (Int32 × Int32 × (Nat → Int32) × Int32) :=
  xf_rf_say_14 n n t_size t_text ((0 : Int32)) a1 ((0 : Int32)) ((1 : Int32)) ((56 : Int32))
def xf_rf_trim_23 (t_size : Int32) (t_thrown : Int32) (v1 : Int32) (s1 : Int32) : Option (Int32 × Int32 × Int32) :=
  (xf_rf_fails t_thrown s1 ((1 : Int32))).bind fun q593 =>
  if q593.1 = (0 : Int32) then
    (some (t_size - v1, t_size - v1, q593.2))
  else
    some ((0 : Int32), t_size, q593.2)
def xf_rf_trim_18 (t_size : Int32) (t_thrown : Int32) (v1 : Int32) : Option (Int32 × Int32 × Int32) :=
  xf_rf_trim_23 t_size t_thrown v1 ((1 : Int32))
def xf_rf_trim (t_size : Int32) (t_thrown : Int32) (a1 : Int32) : Option (Int32 × Int32 × Int32) :=
  if a1 < (0 : Int32) then
    (xf_rf_trim_18 t_size ((0 : Int32)) a1)
  else
    if t_size < a1 then
      (xf_rf_trim_18 t_size ((0 : Int32)) a1)
    else
      xf_rf_trim_23 t_size ((0 : Int32)) a1 ((0 : Int32))
def xf_rf_charAt_40 (t_size : Int32) (t_text : (Nat → Int32)) (t_thrown : Int32) (s0 : Int32) : Option (Int32 × Int32) :=
  some (s0, t_thrown)
def xf_rf_charAt_23 (t_size : Int32) (t_text : (Nat → Int32)) (t_thrown : Int32) (v1 : Int32) (s1 : Int32) : Option (Int32 × Int32) :=
  (xf_rf_fails t_thrown s1 ((1 : Int32))).bind fun q597 =>
  if q597.1 = (0 : Int32) then
    (if xr_in v1 1200 = true then
      (xf_rf_charAt_40 t_size t_text q597.2 (t_text v1.toNatClampNeg))
    else none)
  else
    xf_rf_charAt_40 t_size t_text q597.2 ((0 : Int32))
def xf_rf_charAt_18 (t_size : Int32) (t_text : (Nat → Int32)) (t_thrown : Int32) (v1 : Int32) : Option (Int32 × Int32) :=
  xf_rf_charAt_23 t_size t_text t_thrown v1 ((1 : Int32))
def xf_rf_charAt (t_size : Int32) (t_text : (Nat → Int32)) (t_thrown : Int32) (a1 : Int32) : Option (Int32 × Int32) :=
  if a1 < (0 : Int32) then
    (xf_rf_charAt_18 t_size t_text ((0 : Int32)) a1)
  else
    if a1 < t_size then
      (xf_rf_charAt_23 t_size t_text ((0 : Int32)) a1 ((0 : Int32)))
    else
      xf_rf_charAt_18 t_size t_text ((0 : Int32)) a1
def xf_rf_peek_62 (t_size : Int32) (t_text : (Nat → Int32)) (n : Nat) (t_at : Int32) (s0 : Int32) : Option (Int32 × Int32) :=
  some (s0, t_at)
def xf_rf_peek_38 (t_size : Int32) (t_text : (Nat → Int32)) (n : Nat) (t_at : Int32) : Option (Int32 × Int32) :=
  if t_at < t_size then
    (if xr_in t_at 1200 = true then
      (xf_rf_peek_62 t_size t_text n t_at (t_text t_at.toNatClampNeg))
    else none)
  else
    xf_rf_peek_62 t_size t_text n t_at ((0 : Int32))
def xf_rf_peek_0 (t_size : Int32) (t_text : (Nat → Int32)) (n : Nat) (N : Nat) : Int32 → Option (Int32 × Int32) :=
  Nat.rec (motive := fun _ => Int32 → Option (Int32 × Int32)) (fun _ => none) (fun _ k0 t_at =>
    if t_at < t_size then
      (if xr_in t_at 1200 = true then
        (if (t_text t_at.toNatClampNeg) = ((32 : Int32)) then
          (k0 (t_at + ((1 : Int32))))
        else
          xf_rf_peek_38 t_size t_text n t_at)
      else none)
    else
      xf_rf_peek_38 t_size t_text n t_at) N
def xf_rf_peek (t_size : Int32) (t_text : (Nat → Int32)) (n : Nat) (t_at : Int32) : Option (Int32 × Int32) :=
  xf_rf_peek_0 t_size t_text n n t_at
def xf_rf_schema_111 (t_text : (Nat → Int32)) (k73 : Int32 → Int32 → Int32 → (Nat → Int32) → (Nat → Int32) → (Nat → Int32) → (Nat → Int32) → (Nat → Int32) → (Nat → Int32) → Int32 → Int32 → Int32 → Option (Int32 × Int32 × Int32 × Int32 × (Nat → Int32) × (Nat → Int32) × (Nat → Int32) × (Nat → Int32) × (Nat → Int32) × (Nat → Int32) × Int32 × Int32)) (n : Nat) (N : Nat) : Int32 → Int32 → Int32 → (Nat → Int32) → (Nat → Int32) → (Nat → Int32) → (Nat → Int32) → (Nat → Int32) → (Nat → Int32) → Int32 → Int32 → Int32 → Int32 → Option (Int32 × Int32 × Int32 × Int32 × (Nat → Int32) × (Nat → Int32) × (Nat → Int32) × (Nat → Int32) × (Nat → Int32) × (Nat → Int32) × Int32 × Int32) :=
  Nat.rec (motive := fun _ => Int32 → Int32 → Int32 → (Nat → Int32) → (Nat → Int32) → (Nat → Int32) → (Nat → Int32) → (Nat → Int32) → (Nat → Int32) → Int32 → Int32 → Int32 → Int32 → Option (Int32 × Int32 × Int32 × Int32 × (Nat → Int32) × (Nat → Int32) × (Nat → Int32) × (Nat → Int32) × (Nat → Int32) × (Nat → Int32) × Int32 × Int32)) (fun _ _ _ _ _ _ _ _ _ _ _ _ _ => none) (fun _ k111 t_at t_fault t_from t_kindLetters t_kindMay t_kindNames t_kindParts t_kindSorts t_kinds t_size t_thrown v1 v2 =>
    if v2 < ((8 : Int32)) then
      (if xr_in ((((8 : Int32)) * (((12 : Int32)) + v1)) + v2) 192 = true then
        (if xr_in ((((8 : Int32)) * v1) + v2) 192 = true then
          (if xr_in ((((8 : Int32)) * (((12 : Int32)) + v1)) + v2) 192 = true then
            (if xr_in ((((8 : Int32)) * v1) + v2) 192 = true then
              (if xr_in ((((8 : Int32)) * (((12 : Int32)) + v1)) + v2) 192 = true then
                (if xr_in ((((8 : Int32)) * v1) + v2) 192 = true then
                  (k111 t_at t_fault t_from t_kindLetters (upd t_kindMay ((((8 : Int32)) * v1) + v2).toNatClampNeg (vp_nar .boolean (t_kindMay ((((8 : Int32)) * (((12 : Int32)) + v1)) + v2).toNatClampNeg))) (upd t_kindNames ((((8 : Int32)) * v1) + v2).toNatClampNeg ((t_kindNames ((((8 : Int32)) * (((12 : Int32)) + v1)) + v2).toNatClampNeg))) t_kindParts (upd t_kindSorts ((((8 : Int32)) * v1) + v2).toNatClampNeg ((t_kindSorts ((((8 : Int32)) * (((12 : Int32)) + v1)) + v2).toNatClampNeg))) t_kinds t_size t_thrown v1 (v2 + (1 : Int32)))
                else none)
              else none)
            else none)
          else none)
        else none)
      else none)
    else
      k73 t_at t_fault t_from t_kindLetters t_kindMay t_kindNames t_kindParts t_kindSorts t_kinds t_size t_thrown (v1 + (1 : Int32))) N
def xf_rf_schema_73 (t_text : (Nat → Int32)) (n : Nat) (N : Nat) : Int32 → Int32 → Int32 → (Nat → Int32) → (Nat → Int32) → (Nat → Int32) → (Nat → Int32) → (Nat → Int32) → (Nat → Int32) → Int32 → Int32 → Int32 → Option (Int32 × Int32 × Int32 × Int32 × (Nat → Int32) × (Nat → Int32) × (Nat → Int32) × (Nat → Int32) × (Nat → Int32) × (Nat → Int32) × Int32 × Int32) :=
  Nat.rec (motive := fun _ => Int32 → Int32 → Int32 → (Nat → Int32) → (Nat → Int32) → (Nat → Int32) → (Nat → Int32) → (Nat → Int32) → (Nat → Int32) → Int32 → Int32 → Int32 → Option (Int32 × Int32 × Int32 × Int32 × (Nat → Int32) × (Nat → Int32) × (Nat → Int32) × (Nat → Int32) × (Nat → Int32) × (Nat → Int32) × Int32 × Int32)) (fun _ _ _ _ _ _ _ _ _ _ _ _ => none) (fun _ k73 t_at t_fault t_from t_kindLetters t_kindMay t_kindNames t_kindParts t_kindSorts t_kinds t_size t_thrown v1 =>
    if v1 < ((12 : Int32)) then
      (if xr_in (((12 : Int32)) + v1) 24 = true then
        (if xr_in v1 24 = true then
          (if xr_in (((12 : Int32)) + v1) 24 = true then
            (if xr_in v1 24 = true then
              (xf_rf_schema_111 t_text k73 n n t_at t_fault t_from (upd t_kindLetters v1.toNatClampNeg ((t_kindLetters (((12 : Int32)) + v1).toNatClampNeg))) t_kindMay t_kindNames (upd t_kindParts v1.toNatClampNeg ((t_kindParts (((12 : Int32)) + v1).toNatClampNeg))) t_kindSorts t_kinds t_size t_thrown v1 ((0 : Int32)))
            else none)
          else none)
        else none)
      else none)
    else
      some (t_kinds ((0 : Int32)).toNatClampNeg, t_at, t_fault, t_from, t_kindLetters, t_kindMay, t_kindNames, t_kindParts, t_kindSorts, t_kinds, (0 : Int32), t_thrown)) N
def xf_rf_schema_44 (t_text : (Nat → Int32)) (n : Nat) (t_at : Int32) (t_fault : Int32) (t_from : Int32) (t_kindLetters : (Nat → Int32)) (t_kindMay : (Nat → Int32)) (t_kindNames : (Nat → Int32)) (t_kindParts : (Nat → Int32)) (t_kindSorts : (Nat → Int32)) (t_kinds : (Nat → Int32)) (t_size : Int32) (t_thrown : Int32) : Option (Int32 × Int32 × Int32 × Int32 × (Nat → Int32) × (Nat → Int32) × (Nat → Int32) × (Nat → Int32) × (Nat → Int32) × (Nat → Int32) × Int32 × Int32) :=
  if t_fault = ((-1 : Int32)) then
    (xf_rf_schema_73 t_text n n t_at t_fault t_from t_kindLetters t_kindMay t_kindNames t_kindParts t_kindSorts (upd t_kinds ((0 : Int32)).toNatClampNeg ((t_kinds ((1 : Int32)).toNatClampNeg))) t_size t_thrown ((0 : Int32)))
  else
    some (((-1 : Int32)) - t_fault, t_at, t_fault, t_from, t_kindLetters, t_kindMay, t_kindNames, t_kindParts, t_kindSorts, t_kinds, t_size, t_thrown)
def xf_rf_wrongAt_13 (t_fault : Int32) : Option (Unit × Int32) :=
  some ((), t_fault)
def xf_rf_wrongAt (t_fault : Int32) (a1 : Int32) : Option (Unit × Int32) :=
  if t_fault = ((-1 : Int32)) then
    (xf_rf_wrongAt_13 a1)
  else
    xf_rf_wrongAt_13 t_fault
def xf_rf_isLetter_17 (s0 : Int32) : Option (Int32) :=
  if fits .boolean (.int s0) = true then some s0 else none
def xf_rf_isLetter_16 : Option (Int32) :=
  xf_rf_isLetter_17 ((0 : Int32))
def xf_rf_isLetter (a1 : Int32) : Option (Int32) :=
  if a1 < ((65 : Int32)) then
    (xf_rf_isLetter_16 )
  else
    if ((90 : Int32)) < a1 then
      (xf_rf_isLetter_16 )
    else
      xf_rf_isLetter_17 ((1 : Int32))
def xf_rf_name_131 (t_size : Int32) (t_text : (Nat → Int32)) (n_p1 : Nat) (n : Nat) (p1 : (Nat → Int32)) (t_at : Int32) (t_fault : Int32) (t_from : Int32) : Option (Int32 × (Nat → Int32) × Int32 × Int32 × Int32) :=
  some (t_at - t_from, p1, t_at, t_fault, t_from)
def xf_rf_name_123 (t_size : Int32) (t_text : (Nat → Int32)) (n_p1 : Nat) (n : Nat) (p1 : (Nat → Int32)) (t_at : Int32) (t_fault : Int32) (t_from : Int32) : Option (Int32 × (Nat → Int32) × Int32 × Int32 × Int32) :=
  (xf_rf_wrongAt t_fault t_from).bind fun q635 =>
  xf_rf_name_131 t_size t_text n_p1 n p1 t_at q635.2 t_from
def xf_rf_name_98 (t_size : Int32) (t_text : (Nat → Int32)) (n_p1 : Nat) (n : Nat) (p1 : (Nat → Int32)) (t_at : Int32) (t_fault : Int32) (t_from : Int32) : Option (Int32 × (Nat → Int32) × Int32 × Int32 × Int32) :=
  if t_at = t_from then
    (xf_rf_name_123 t_size t_text n_p1 n p1 t_at t_fault t_from)
  else
    if ((8 : Int32)) < (t_at - t_from) then
      (xf_rf_name_123 t_size t_text n_p1 n p1 t_at t_fault t_from)
    else
      xf_rf_name_131 t_size t_text n_p1 n p1 t_at t_fault t_from
def xf_rf_name_85 (t_size : Int32) (t_text : (Nat → Int32)) (n_p1 : Nat) (k23 : (Nat → Int32) → Int32 → Int32 → Int32 → Int32 → Option (Int32 × (Nat → Int32) × Int32 × Int32 × Int32)) (n : Nat) (p1 : (Nat → Int32)) (t_at : Int32) (t_fault : Int32) (t_from : Int32) (v2 : Int32) : Option (Int32 × (Nat → Int32) × Int32 × Int32 × Int32) :=
  k23 p1 (t_at + ((1 : Int32))) t_fault t_from v2
def xf_rf_name_23 (t_size : Int32) (t_text : (Nat → Int32)) (n_p1 : Nat) (n : Nat) (N : Nat) : (Nat → Int32) → Int32 → Int32 → Int32 → Int32 → Option (Int32 × (Nat → Int32) × Int32 × Int32 × Int32) :=
  Nat.rec (motive := fun _ => (Nat → Int32) → Int32 → Int32 → Int32 → Int32 → Option (Int32 × (Nat → Int32) × Int32 × Int32 × Int32)) (fun _ _ _ _ _ => none) (fun _ k23 p1 t_at t_fault t_from v2 =>
    if t_at < t_size then
      (if xr_in t_at 1200 = true then
        ((xf_rf_isLetter (t_text t_at.toNatClampNeg)).bind fun q632 =>
        if q632 = (0 : Int32) then
          (xf_rf_name_98 t_size t_text n_p1 n p1 t_at t_fault t_from)
        else
          if (t_at - t_from) < ((8 : Int32)) then
            (if xr_in t_at 1200 = true then
              (if xr_in ((v2 + t_at) - t_from) n_p1 = true then
                (xf_rf_name_85 t_size t_text n_p1 k23 n (upd p1 ((v2 + t_at) - t_from).toNatClampNeg ((t_text t_at.toNatClampNeg))) t_at t_fault t_from v2)
              else none)
            else none)
          else
            xf_rf_name_85 t_size t_text n_p1 k23 n p1 t_at t_fault t_from v2)
      else none)
    else
      xf_rf_name_98 t_size t_text n_p1 n p1 t_at t_fault t_from) N
def xf_rf_name (t_size : Int32) (t_text : (Nat → Int32)) (n_p1 : Nat) (n : Nat) (p1 : (Nat → Int32)) (t_at : Int32) (t_fault : Int32) (t_from : Int32) (a2 : Int32) : Option (Int32 × (Nat → Int32) × Int32 × Int32 × Int32) :=
  if t_fault = ((-1 : Int32)) then
    ((xf_rf_peek t_size t_text n t_at).bind fun q626 =>
    xf_rf_name_23 t_size t_text n_p1 n n p1 q626.2 t_fault q626.2 a2)
  else
    some ((0 : Int32), p1, t_at, t_fault, t_from)
def xf_rf_isSame_38 (p1 : (Nat → Int32)) (p3 : (Nat → Int32)) (n_p1 : Nat) (n_p3 : Nat) (k6 : Int32 → Int32 → Int32 → Int32 → Int32 → Option (Int32)) (n : Nat) (v1 : Int32) (v3 : Int32) (v4 : Int32) (v6 : Int32) (s0 : Int32) : Option (Int32) :=
  k6 v1 v3 v4 s0 (v6 + (1 : Int32))
def xf_rf_isSame_37 (p1 : (Nat → Int32)) (p3 : (Nat → Int32)) (n_p1 : Nat) (n_p3 : Nat) (k6 : Int32 → Int32 → Int32 → Int32 → Int32 → Option (Int32)) (n : Nat) (v1 : Int32) (v3 : Int32) (v4 : Int32) (v6 : Int32) : Option (Int32) :=
  xf_rf_isSame_38 p1 p3 n_p1 n_p3 k6 n v1 v3 v4 v6 ((0 : Int32))
def xf_rf_isSame_6 (p1 : (Nat → Int32)) (p3 : (Nat → Int32)) (n_p1 : Nat) (n_p3 : Nat) (n : Nat) (N : Nat) : Int32 → Int32 → Int32 → Int32 → Int32 → Option (Int32) :=
  Nat.rec (motive := fun _ => Int32 → Int32 → Int32 → Int32 → Int32 → Option (Int32)) (fun _ _ _ _ _ => none) (fun _ k6 v1 v3 v4 v5 v6 =>
    if v6 < v4 then
      (if v5 = (0 : Int32) then
        (xf_rf_isSame_37 p1 p3 n_p1 n_p3 k6 n v1 v3 v4 v6)
      else
        if xr_in (v1 + v6) n_p1 = true then
          (if xr_in (v3 + v6) n_p3 = true then
            (if (p1 (v1 + v6).toNatClampNeg) = (p3 (v3 + v6).toNatClampNeg) then
              (xf_rf_isSame_38 p1 p3 n_p1 n_p3 k6 n v1 v3 v4 v6 ((1 : Int32)))
            else
              xf_rf_isSame_37 p1 p3 n_p1 n_p3 k6 n v1 v3 v4 v6)
          else none)
        else none)
    else
      if fits .boolean (.int v5) = true then some v5 else none) N
def xf_rf_isSame (p1 : (Nat → Int32)) (p3 : (Nat → Int32)) (n_p1 : Nat) (n_p3 : Nat) (n : Nat) (a2 : Int32) (a4 : Int32) (a5 : Int32) : Option (Int32) :=
  xf_rf_isSame_6 p1 p3 n_p1 n_p3 n n a2 a4 a5 ((1 : Int32)) ((0 : Int32))
def xf_rf_kind_107 (t_size : Int32) (t_text : (Nat → Int32)) (k51 : Int32 → Int32 → Int32 → (Nat → Int32) → (Nat → Int32) → (Nat → Int32) → (Nat → Int32) → (Nat → Int32) → (Nat → Int32) → Int32 → Int32 → Option (Unit × Int32 × Int32 × Int32 × (Nat → Int32) × (Nat → Int32) × (Nat → Int32) × (Nat → Int32) × (Nat → Int32) × (Nat → Int32))) (n : Nat) (t_at : Int32) (t_fault : Int32) (t_from : Int32) (t_kindLetters : (Nat → Int32)) (t_kindMay : (Nat → Int32)) (t_kindNames : (Nat → Int32)) (t_kindParts : (Nat → Int32)) (t_kindSorts : (Nat → Int32)) (t_kinds : (Nat → Int32)) (v1 : Int32) (v2 : Int32) : Option (Unit × Int32 × Int32 × Int32 × (Nat → Int32) × (Nat → Int32) × (Nat → Int32) × (Nat → Int32) × (Nat → Int32) × (Nat → Int32)) :=
  k51 t_at t_fault t_from t_kindLetters t_kindMay t_kindNames t_kindParts t_kindSorts t_kinds v1 (v2 + (1 : Int32))
def xf_rf_sign_38 (t_size : Int32) (t_text : (Nat → Int32)) (n : Nat) (t_at : Int32) (t_fault : Int32) : Option (Unit × Int32 × Int32) :=
  some ((), t_at, t_fault)
def xf_rf_sign (t_size : Int32) (t_text : (Nat → Int32)) (n : Nat) (t_at : Int32) (t_fault : Int32) (a1 : Int32) : Option (Unit × Int32 × Int32) :=
  if t_fault = ((-1 : Int32)) then
    ((xf_rf_peek t_size t_text n t_at).bind fun q657 =>
    if q657.1 = a1 then
      (xf_rf_sign_38 t_size t_text n (q657.2 + ((1 : Int32))) t_fault)
    else
      (xf_rf_wrongAt t_fault q657.2).bind fun q659 =>
      xf_rf_sign_38 t_size t_text n q657.2 q659.2)
  else
    some ((), t_at, t_fault)
def xf_rf_kind_265 (t_size : Int32) (t_text : (Nat → Int32)) (n : Nat) (t_at : Int32) (t_fault : Int32) (t_from : Int32) (t_kindLetters : (Nat → Int32)) (t_kindMay : (Nat → Int32)) (t_kindNames : (Nat → Int32)) (t_kindParts : (Nat → Int32)) (t_kindSorts : (Nat → Int32)) (t_kinds : (Nat → Int32)) (v1 : Int32) (v2 : Int32) : Option (Unit × Int32 × Int32 × Int32 × (Nat → Int32) × (Nat → Int32) × (Nat → Int32) × (Nat → Int32) × (Nat → Int32) × (Nat → Int32)) :=
  if xr_in v1 24 = true then
    (some ((), t_at, t_fault, t_from, t_kindLetters, t_kindMay, t_kindNames, upd t_kindParts v1.toNatClampNeg v2, t_kindSorts, upd t_kinds ((1 : Int32)).toNatClampNeg (((t_kinds ((1 : Int32)).toNatClampNeg) + ((1 : Int32))))))
  else none
def xf_rf_kind_252 (t_size : Int32) (t_text : (Nat → Int32)) (k126 : Int32 → Int32 → Int32 → (Nat → Int32) → (Nat → Int32) → (Nat → Int32) → (Nat → Int32) → (Nat → Int32) → (Nat → Int32) → Int32 → Int32 → Int32 → Int32 → Option (Unit × Int32 × Int32 × Int32 × (Nat → Int32) × (Nat → Int32) × (Nat → Int32) × (Nat → Int32) × (Nat → Int32) × (Nat → Int32))) (n : Nat) (t_at : Int32) (t_fault : Int32) (t_from : Int32) (t_kindLetters : (Nat → Int32)) (t_kindMay : (Nat → Int32)) (t_kindNames : (Nat → Int32)) (t_kindParts : (Nat → Int32)) (t_kindSorts : (Nat → Int32)) (t_kinds : (Nat → Int32)) (v1 : Int32) (v2 : Int32) (v3 : Int32) (v4 : Int32) : Option (Unit × Int32 × Int32 × Int32 × (Nat → Int32) × (Nat → Int32) × (Nat → Int32) × (Nat → Int32) × (Nat → Int32) × (Nat → Int32)) :=
  k126 (t_at + ((1 : Int32))) t_fault t_from t_kindLetters t_kindMay t_kindNames t_kindParts t_kindSorts t_kinds v1 v2 v3 v4
def xf_rf_kind_207 (t_size : Int32) (t_text : (Nat → Int32)) (k126 : Int32 → Int32 → Int32 → (Nat → Int32) → (Nat → Int32) → (Nat → Int32) → (Nat → Int32) → (Nat → Int32) → (Nat → Int32) → Int32 → Int32 → Int32 → Int32 → Option (Unit × Int32 × Int32 × Int32 × (Nat → Int32) × (Nat → Int32) × (Nat → Int32) × (Nat → Int32) × (Nat → Int32) × (Nat → Int32))) (n : Nat) (t_at : Int32) (t_fault : Int32) (t_from : Int32) (t_kindLetters : (Nat → Int32)) (t_kindMay : (Nat → Int32)) (t_kindNames : (Nat → Int32)) (t_kindParts : (Nat → Int32)) (t_kindSorts : (Nat → Int32)) (t_kinds : (Nat → Int32)) (v1 : Int32) (v2 : Int32) (v3 : Int32) (v4 : Int32) : Option (Unit × Int32 × Int32 × Int32 × (Nat → Int32) × (Nat → Int32) × (Nat → Int32) × (Nat → Int32) × (Nat → Int32) × (Nat → Int32)) :=
  (xf_rf_wrongAt t_fault t_at).bind fun q671 =>
  xf_rf_kind_252 t_size t_text k126 n t_at q671.2 t_from t_kindLetters t_kindMay t_kindNames t_kindParts t_kindSorts t_kinds v1 v2 v3 v4
def xf_rf_sortOf_92 : Option (Int32) :=
  some ((-1 : Int32))
def xf_rf_sortOf (a1 : Int32) : Option (Int32) :=
  if a1 = (69 : Int32) then
    (some ((5 : Int32)))
  else
    if a1 = (70 : Int32) then
      (xf_rf_sortOf_92 )
    else
      if a1 = (71 : Int32) then
        (xf_rf_sortOf_92 )
      else
        if a1 = (72 : Int32) then
          (xf_rf_sortOf_92 )
        else
          if a1 = (73 : Int32) then
            (some ((0 : Int32)))
          else
            if a1 = (74 : Int32) then
              (xf_rf_sortOf_92 )
            else
              if a1 = (75 : Int32) then
                (xf_rf_sortOf_92 )
              else
                if a1 = (76 : Int32) then
                  (some ((3 : Int32)))
                else
                  if a1 = (77 : Int32) then
                    (some ((4 : Int32)))
                  else
                    if a1 = (78 : Int32) then
                      (xf_rf_sortOf_92 )
                    else
                      if a1 = (79 : Int32) then
                        (xf_rf_sortOf_92 )
                      else
                        if a1 = (80 : Int32) then
                          (xf_rf_sortOf_92 )
                        else
                          if a1 = (81 : Int32) then
                            (xf_rf_sortOf_92 )
                          else
                            if a1 = (82 : Int32) then
                              (some ((2 : Int32)))
                            else
                              if a1 = (83 : Int32) then
                                (xf_rf_sortOf_92 )
                              else
                                if a1 = (84 : Int32) then
                                  (some ((1 : Int32)))
                                else
                                  xf_rf_sortOf_92 
def xf_rf_kind_192 (t_size : Int32) (t_text : (Nat → Int32)) (k126 : Int32 → Int32 → Int32 → (Nat → Int32) → (Nat → Int32) → (Nat → Int32) → (Nat → Int32) → (Nat → Int32) → (Nat → Int32) → Int32 → Int32 → Int32 → Int32 → Option (Unit × Int32 × Int32 × Int32 × (Nat → Int32) × (Nat → Int32) × (Nat → Int32) × (Nat → Int32) × (Nat → Int32) × (Nat → Int32))) (n : Nat) (t_at : Int32) (t_fault : Int32) (t_from : Int32) (t_kindLetters : (Nat → Int32)) (t_kindMay : (Nat → Int32)) (t_kindNames : (Nat → Int32)) (t_kindParts : (Nat → Int32)) (t_kindSorts : (Nat → Int32)) (t_kinds : (Nat → Int32)) (v1 : Int32) (v2 : Int32) (v3 : Int32) (v4 : Int32) (v5 : Int32) : Option (Unit × Int32 × Int32 × Int32 × (Nat → Int32) × (Nat → Int32) × (Nat → Int32) × (Nat → Int32) × (Nat → Int32) × (Nat → Int32)) :=
  if v2 = ((8 : Int32)) then
    (xf_rf_kind_207 t_size t_text k126 n t_at t_fault t_from t_kindLetters t_kindMay t_kindNames t_kindParts t_kindSorts t_kinds v1 v2 v3 v4)
  else
    (xf_rf_sortOf v5).bind fun q688 =>
    if q688 = ((-1 : Int32)) then
      (xf_rf_kind_207 t_size t_text k126 n t_at t_fault t_from t_kindLetters t_kindMay t_kindNames t_kindParts t_kindSorts t_kinds v1 v2 v3 v4)
    else
      (xf_rf_sortOf v5).bind fun q690 =>
      if xr_in ((((8 : Int32)) * v1) + v2) 192 = true then
        (if xr_in ((((8 : Int32)) * v1) + v2) 192 = true then
          (xf_rf_kind_252 t_size t_text k126 n t_at t_fault t_from t_kindLetters (upd t_kindMay ((((8 : Int32)) * v1) + v2).toNatClampNeg (vp_nar .boolean ((0 : Int32)))) t_kindNames t_kindParts (upd t_kindSorts ((((8 : Int32)) * v1) + v2).toNatClampNeg q690) t_kinds v1 (v2 + (1 : Int32)) v3 ((0 : Int32)))
        else none)
      else none
def xf_rf_kind_160 (t_size : Int32) (t_text : (Nat → Int32)) (k126 : Int32 → Int32 → Int32 → (Nat → Int32) → (Nat → Int32) → (Nat → Int32) → (Nat → Int32) → (Nat → Int32) → (Nat → Int32) → Int32 → Int32 → Int32 → Int32 → Option (Unit × Int32 × Int32 × Int32 × (Nat → Int32) × (Nat → Int32) × (Nat → Int32) × (Nat → Int32) × (Nat → Int32) × (Nat → Int32))) (n : Nat) (t_at : Int32) (t_fault : Int32) (t_from : Int32) (t_kindLetters : (Nat → Int32)) (t_kindMay : (Nat → Int32)) (t_kindNames : (Nat → Int32)) (t_kindParts : (Nat → Int32)) (t_kindSorts : (Nat → Int32)) (t_kinds : (Nat → Int32)) (v1 : Int32) (v2 : Int32) (v3 : Int32) (v4 : Int32) (v5 : Int32) : Option (Unit × Int32 × Int32 × Int32 × (Nat → Int32) × (Nat → Int32) × (Nat → Int32) × (Nat → Int32) × (Nat → Int32) × (Nat → Int32)) :=
  if v4 = (0 : Int32) then
    (if v5 = ((63 : Int32)) then
      (if xr_in (((((8 : Int32)) * v1) + v2) - ((1 : Int32))) 192 = true then
        (xf_rf_kind_252 t_size t_text k126 n t_at t_fault t_from t_kindLetters (upd t_kindMay (((((8 : Int32)) * v1) + v2) - ((1 : Int32))).toNatClampNeg (vp_nar .boolean ((1 : Int32)))) t_kindNames t_kindParts t_kindSorts t_kinds v1 v2 v3 ((1 : Int32)))
      else none)
    else
      xf_rf_kind_192 t_size t_text k126 n t_at t_fault t_from t_kindLetters t_kindMay t_kindNames t_kindParts t_kindSorts t_kinds v1 v2 v3 v4 v5)
  else
    xf_rf_kind_192 t_size t_text k126 n t_at t_fault t_from t_kindLetters t_kindMay t_kindNames t_kindParts t_kindSorts t_kinds v1 v2 v3 v4 v5
def xf_rf_kind_126 (t_size : Int32) (t_text : (Nat → Int32)) (n : Nat) (N : Nat) : Int32 → Int32 → Int32 → (Nat → Int32) → (Nat → Int32) → (Nat → Int32) → (Nat → Int32) → (Nat → Int32) → (Nat → Int32) → Int32 → Int32 → Int32 → Int32 → Option (Unit × Int32 × Int32 × Int32 × (Nat → Int32) × (Nat → Int32) × (Nat → Int32) × (Nat → Int32) × (Nat → Int32) × (Nat → Int32)) :=
  Nat.rec (motive := fun _ => Int32 → Int32 → Int32 → (Nat → Int32) → (Nat → Int32) → (Nat → Int32) → (Nat → Int32) → (Nat → Int32) → (Nat → Int32) → Int32 → Int32 → Int32 → Int32 → Option (Unit × Int32 × Int32 × Int32 × (Nat → Int32) × (Nat → Int32) × (Nat → Int32) × (Nat → Int32) × (Nat → Int32) × (Nat → Int32))) (fun _ _ _ _ _ _ _ _ _ _ _ _ _ => none) (fun _ k126 t_at t_fault t_from t_kindLetters t_kindMay t_kindNames t_kindParts t_kindSorts t_kinds v1 v2 v3 v4 =>
    if v3 = (0 : Int32) then
      (xf_rf_kind_265 t_size t_text n t_at t_fault t_from t_kindLetters t_kindMay t_kindNames t_kindParts t_kindSorts t_kinds v1 v2)
    else
      if t_fault = ((-1 : Int32)) then
        ((xf_rf_peek t_size t_text n t_at).bind fun q664 =>
        if (0 : Int32) < v2 then
          (if q664.1 = ((59 : Int32)) then
            (xf_rf_kind_252 t_size t_text k126 n q664.2 t_fault t_from t_kindLetters t_kindMay t_kindNames t_kindParts t_kindSorts t_kinds v1 v2 ((0 : Int32)) v4)
          else
            xf_rf_kind_160 t_size t_text k126 n q664.2 t_fault t_from t_kindLetters t_kindMay t_kindNames t_kindParts t_kindSorts t_kinds v1 v2 v3 v4 q664.1)
        else
          xf_rf_kind_160 t_size t_text k126 n q664.2 t_fault t_from t_kindLetters t_kindMay t_kindNames t_kindParts t_kindSorts t_kinds v1 v2 v3 v4 q664.1)
      else
        xf_rf_kind_265 t_size t_text n t_at t_fault t_from t_kindLetters t_kindMay t_kindNames t_kindParts t_kindSorts t_kinds v1 v2) N
def xf_rf_kind_51 (t_size : Int32) (t_text : (Nat → Int32)) (n : Nat) (N : Nat) : Int32 → Int32 → Int32 → (Nat → Int32) → (Nat → Int32) → (Nat → Int32) → (Nat → Int32) → (Nat → Int32) → (Nat → Int32) → Int32 → Int32 → Option (Unit × Int32 × Int32 × Int32 × (Nat → Int32) × (Nat → Int32) × (Nat → Int32) × (Nat → Int32) × (Nat → Int32) × (Nat → Int32)) :=
  Nat.rec (motive := fun _ => Int32 → Int32 → Int32 → (Nat → Int32) → (Nat → Int32) → (Nat → Int32) → (Nat → Int32) → (Nat → Int32) → (Nat → Int32) → Int32 → Int32 → Option (Unit × Int32 × Int32 × Int32 × (Nat → Int32) × (Nat → Int32) × (Nat → Int32) × (Nat → Int32) × (Nat → Int32) × (Nat → Int32))) (fun _ _ _ _ _ _ _ _ _ _ _ => none) (fun _ k51 t_at t_fault t_from t_kindLetters t_kindMay t_kindNames t_kindParts t_kindSorts t_kinds v1 v2 =>
    if v2 < v1 then
      (if xr_in v2 24 = true then
        (if xr_in v1 24 = true then
          (if (t_kindLetters v2.toNatClampNeg) = (t_kindLetters v1.toNatClampNeg) then
            (if xr_in v1 24 = true then
              ((xf_rf_isSame t_kindNames t_kindNames 192 192 n (((8 : Int32)) * v2) (((8 : Int32)) * v1) (t_kindLetters v1.toNatClampNeg)).bind fun q653 =>
              if q653 = (0 : Int32) then
                (xf_rf_kind_107 t_size t_text k51 n t_at t_fault t_from t_kindLetters t_kindMay t_kindNames t_kindParts t_kindSorts t_kinds v1 v2)
              else
                (xf_rf_wrongAt t_fault t_from).bind fun q655 =>
                xf_rf_kind_107 t_size t_text k51 n t_at q655.2 t_from t_kindLetters t_kindMay t_kindNames t_kindParts t_kindSorts t_kinds v1 v2)
            else none)
          else
            xf_rf_kind_107 t_size t_text k51 n t_at t_fault t_from t_kindLetters t_kindMay t_kindNames t_kindParts t_kindSorts t_kinds v1 v2)
        else none)
      else none)
    else
      (xf_rf_sign t_size t_text n t_at t_fault ((61 : Int32))).bind fun q660 =>
      xf_rf_kind_126 t_size t_text n n q660.2.1 q660.2.2 t_from t_kindLetters t_kindMay t_kindNames t_kindParts t_kindSorts t_kinds v1 ((0 : Int32)) ((1 : Int32)) ((1 : Int32))) N
def xf_rf_kind (t_size : Int32) (t_text : (Nat → Int32)) (n : Nat) (t_at : Int32) (t_fault : Int32) (t_from : Int32) (t_kindLetters : (Nat → Int32)) (t_kindMay : (Nat → Int32)) (t_kindNames : (Nat → Int32)) (t_kindParts : (Nat → Int32)) (t_kindSorts : (Nat → Int32)) (t_kinds : (Nat → Int32)) : Option (Unit × Int32 × Int32 × Int32 × (Nat → Int32) × (Nat → Int32) × (Nat → Int32) × (Nat → Int32) × (Nat → Int32) × (Nat → Int32)) :=
  if (t_kinds ((1 : Int32)).toNatClampNeg) = ((12 : Int32)) then
    ((xf_rf_wrongAt t_fault t_at).bind fun q624 =>
    some ((), t_at, q624.2, t_from, t_kindLetters, t_kindMay, t_kindNames, t_kindParts, t_kindSorts, t_kinds))
  else
    (xf_rf_name t_size t_text 192 n t_kindNames t_at t_fault t_from (((8 : Int32)) * (((12 : Int32)) + (t_kinds ((1 : Int32)).toNatClampNeg)))).bind fun q640 =>
    if xr_in (((12 : Int32)) + (t_kinds ((1 : Int32)).toNatClampNeg)) 24 = true then
      (xf_rf_kind_51 t_size t_text n n q640.2.2.1 q640.2.2.2.1 q640.2.2.2.2 (upd t_kindLetters (((12 : Int32)) + (t_kinds ((1 : Int32)).toNatClampNeg)).toNatClampNeg q640.1) t_kindMay q640.2.1 t_kindParts t_kindSorts t_kinds (((12 : Int32)) + (t_kinds ((1 : Int32)).toNatClampNeg)) ((12 : Int32)))
    else none
def xf_rf_schema_22 (t_text : (Nat → Int32)) (n : Nat) (N : Nat) : Int32 → Int32 → Int32 → (Nat → Int32) → (Nat → Int32) → (Nat → Int32) → (Nat → Int32) → (Nat → Int32) → (Nat → Int32) → Int32 → Int32 → Option (Int32 × Int32 × Int32 × Int32 × (Nat → Int32) × (Nat → Int32) × (Nat → Int32) × (Nat → Int32) × (Nat → Int32) × (Nat → Int32) × Int32 × Int32) :=
  Nat.rec (motive := fun _ => Int32 → Int32 → Int32 → (Nat → Int32) → (Nat → Int32) → (Nat → Int32) → (Nat → Int32) → (Nat → Int32) → (Nat → Int32) → Int32 → Int32 → Option (Int32 × Int32 × Int32 × Int32 × (Nat → Int32) × (Nat → Int32) × (Nat → Int32) × (Nat → Int32) × (Nat → Int32) × (Nat → Int32) × Int32 × Int32)) (fun _ _ _ _ _ _ _ _ _ _ _ => none) (fun _ k22 t_at t_fault t_from t_kindLetters t_kindMay t_kindNames t_kindParts t_kindSorts t_kinds t_size t_thrown =>
    if t_fault = ((-1 : Int32)) then
      ((xf_rf_peek t_size t_text n t_at).bind fun q607 =>
      if q607.1 = (0 : Int32) then
        (xf_rf_schema_44 t_text n q607.2 t_fault t_from t_kindLetters t_kindMay t_kindNames t_kindParts t_kindSorts t_kinds t_size t_thrown)
      else
        (xf_rf_kind t_size t_text n q607.2 t_fault t_from t_kindLetters t_kindMay t_kindNames t_kindParts t_kindSorts t_kinds).bind fun q693 =>
        k22 q693.2.1 q693.2.2.1 q693.2.2.2.1 q693.2.2.2.2.1 q693.2.2.2.2.2.1 q693.2.2.2.2.2.2.1 q693.2.2.2.2.2.2.2.1 q693.2.2.2.2.2.2.2.2.1 q693.2.2.2.2.2.2.2.2.2 t_size t_thrown)
    else
      xf_rf_schema_44 t_text n t_at t_fault t_from t_kindLetters t_kindMay t_kindNames t_kindParts t_kindSorts t_kinds t_size t_thrown) N
def xf_rf_schema (t_text : (Nat → Int32)) (n : Nat) (t_at : Int32) (t_fault : Int32) (t_from : Int32) (t_kindLetters : (Nat → Int32)) (t_kindMay : (Nat → Int32)) (t_kindNames : (Nat → Int32)) (t_kindParts : (Nat → Int32)) (t_kindSorts : (Nat → Int32)) (t_kinds : (Nat → Int32)) (t_size : Int32) (t_thrown : Int32) : Option (Int32 × Int32 × Int32 × Int32 × (Nat → Int32) × (Nat → Int32) × (Nat → Int32) × (Nat → Int32) × (Nat → Int32) × (Nat → Int32) × Int32 × Int32) :=
  xf_rf_schema_22 t_text n n ((0 : Int32)) ((-1 : Int32)) t_from t_kindLetters t_kindMay t_kindNames t_kindParts t_kindSorts (upd t_kinds ((1 : Int32)).toNatClampNeg (((0 : Int32)))) t_size ((0 : Int32))
def xf_rf_find_5 (t_lines : (Nat → Int32)) (t_numbers : (Nat → Int32)) (n : Nat) (N : Nat) : Int32 → Int32 → Int32 → Option (Int32) :=
  Nat.rec (motive := fun _ => Int32 → Int32 → Int32 → Option (Int32)) (fun _ _ _ => none) (fun _ k5 v1 v2 v3 =>
    if xr_in v1 3 = true then
      (if v3 < ((((40 : Int32)) * v1) + (t_lines v1.toNatClampNeg)) then
        (if xr_in v3 120 = true then
          (if (t_numbers v3.toNatClampNeg) = v2 then
            (some v3)
          else
            k5 v1 v2 (v3 + (1 : Int32)))
        else none)
      else
        some ((-1 : Int32)))
    else none) N
def xf_rf_find (t_lines : (Nat → Int32)) (t_numbers : (Nat → Int32)) (n : Nat) (a1 : Int32) (a2 : Int32) : Option (Int32) :=
  xf_rf_find_5 t_lines t_numbers n n a1 a2 (((40 : Int32)) * a1)
def xf_rf_isMissing_111 (t_items : (Nat → Int32)) (t_lines : (Nat → Int32)) (t_numbers : (Nat → Int32)) (t_parts : (Nat → Int32)) (t_sorts : (Nat → Int32)) (t_values : (Nat → Int32)) (k7 : Int32 → Int32 → Int32 → Option (Int32)) (k60 : Int32 → Int32 → Int32 → Int32 → Option (Int32)) (n : Nat) (v1 : Int32) (v3 : Int32) (v4 : Int32) (s0 : Int32) : Option (Int32) :=
  k60 v1 s0 v3 (v4 + (1 : Int32))
def xf_rf_isMissing_106 (t_items : (Nat → Int32)) (t_lines : (Nat → Int32)) (t_numbers : (Nat → Int32)) (t_parts : (Nat → Int32)) (t_sorts : (Nat → Int32)) (t_values : (Nat → Int32)) (k7 : Int32 → Int32 → Int32 → Option (Int32)) (k60 : Int32 → Int32 → Int32 → Int32 → Option (Int32)) (n : Nat) (v1 : Int32) (v3 : Int32) (v4 : Int32) : Option (Int32) :=
  xf_rf_isMissing_111 t_items t_lines t_numbers t_parts t_sorts t_values k7 k60 n v1 v3 v4 ((1 : Int32))
def xf_rf_isMissing_118 (t_items : (Nat → Int32)) (t_lines : (Nat → Int32)) (t_numbers : (Nat → Int32)) (t_parts : (Nat → Int32)) (t_sorts : (Nat → Int32)) (t_values : (Nat → Int32)) (k7 : Int32 → Int32 → Int32 → Option (Int32)) (n : Nat) (v1 : Int32) (v2 : Int32) (v3 : Int32) : Option (Int32) :=
  k7 v1 v2 (v3 + (1 : Int32))
def xf_rf_isMissing_60 (t_items : (Nat → Int32)) (t_lines : (Nat → Int32)) (t_numbers : (Nat → Int32)) (t_parts : (Nat → Int32)) (t_sorts : (Nat → Int32)) (t_values : (Nat → Int32)) (k7 : Int32 → Int32 → Int32 → Option (Int32)) (n : Nat) (N : Nat) : Int32 → Int32 → Int32 → Int32 → Option (Int32) :=
  Nat.rec (motive := fun _ => Int32 → Int32 → Int32 → Int32 → Option (Int32)) (fun _ _ _ _ => none) (fun _ k60 v1 v2 v3 v4 =>
    if xr_in v3 960 = true then
      (if v4 < (t_values v3.toNatClampNeg) then
        (if xr_in v3 960 = true then
          (if (t_sorts v3.toNatClampNeg) = ((4 : Int32)) then
            (if v2 = (0 : Int32) then
              (if xr_in ((((20 : Int32)) * v3) + v4) 19200 = true then
                ((xf_rf_find t_lines t_numbers n ((1 : Int32)) (t_items ((((20 : Int32)) * v3) + v4).toNatClampNeg)).bind fun q717 =>
                if q717 = ((-1 : Int32)) then
                  (xf_rf_isMissing_106 t_items t_lines t_numbers t_parts t_sorts t_values k7 k60 n v1 v3 v4)
                else
                  xf_rf_isMissing_111 t_items t_lines t_numbers t_parts t_sorts t_values k7 k60 n v1 v3 v4 ((0 : Int32)))
              else none)
            else
              xf_rf_isMissing_106 t_items t_lines t_numbers t_parts t_sorts t_values k7 k60 n v1 v3 v4)
          else
            xf_rf_isMissing_118 t_items t_lines t_numbers t_parts t_sorts t_values k7 n v1 v2 v3)
        else none)
      else
        xf_rf_isMissing_118 t_items t_lines t_numbers t_parts t_sorts t_values k7 n v1 v2 v3)
    else none) N
def xf_rf_isMissing_57 (t_items : (Nat → Int32)) (t_lines : (Nat → Int32)) (t_numbers : (Nat → Int32)) (t_parts : (Nat → Int32)) (t_sorts : (Nat → Int32)) (t_values : (Nat → Int32)) (k7 : Int32 → Int32 → Int32 → Option (Int32)) (n : Nat) (v1 : Int32) (v2 : Int32) (v3 : Int32) : Option (Int32) :=
  xf_rf_isMissing_60 t_items t_lines t_numbers t_parts t_sorts t_values k7 n n v1 v2 v3 ((0 : Int32))
def xf_rf_isMissing_56 (t_items : (Nat → Int32)) (t_lines : (Nat → Int32)) (t_numbers : (Nat → Int32)) (t_parts : (Nat → Int32)) (t_sorts : (Nat → Int32)) (t_values : (Nat → Int32)) (k7 : Int32 → Int32 → Int32 → Option (Int32)) (n : Nat) (v1 : Int32) (v3 : Int32) (s0 : Int32) : Option (Int32) :=
  xf_rf_isMissing_57 t_items t_lines t_numbers t_parts t_sorts t_values k7 n v1 s0 v3
def xf_rf_isMissing_51 (t_items : (Nat → Int32)) (t_lines : (Nat → Int32)) (t_numbers : (Nat → Int32)) (t_parts : (Nat → Int32)) (t_sorts : (Nat → Int32)) (t_values : (Nat → Int32)) (k7 : Int32 → Int32 → Int32 → Option (Int32)) (n : Nat) (v1 : Int32) (v3 : Int32) : Option (Int32) :=
  xf_rf_isMissing_56 t_items t_lines t_numbers t_parts t_sorts t_values k7 n v1 v3 ((1 : Int32))
def xf_rf_isMissing_7 (t_items : (Nat → Int32)) (t_lines : (Nat → Int32)) (t_numbers : (Nat → Int32)) (t_parts : (Nat → Int32)) (t_sorts : (Nat → Int32)) (t_values : (Nat → Int32)) (n : Nat) (N : Nat) : Int32 → Int32 → Int32 → Option (Int32) :=
  Nat.rec (motive := fun _ => Int32 → Int32 → Int32 → Option (Int32)) (fun _ _ _ => none) (fun _ k7 v1 v2 v3 =>
    if xr_in v1 120 = true then
      (if v3 < ((((8 : Int32)) * v1) + (t_parts v1.toNatClampNeg)) then
        (if xr_in v3 960 = true then
          (if (t_sorts v3.toNatClampNeg) = ((2 : Int32)) then
            (if v2 = (0 : Int32) then
              (if xr_in v3 960 = true then
                ((xf_rf_find t_lines t_numbers n ((1 : Int32)) (t_values v3.toNatClampNeg)).bind fun q709 =>
                if q709 = ((-1 : Int32)) then
                  (xf_rf_isMissing_51 t_items t_lines t_numbers t_parts t_sorts t_values k7 n v1 v3)
                else
                  xf_rf_isMissing_56 t_items t_lines t_numbers t_parts t_sorts t_values k7 n v1 v3 ((0 : Int32)))
              else none)
            else
              xf_rf_isMissing_51 t_items t_lines t_numbers t_parts t_sorts t_values k7 n v1 v3)
          else
            xf_rf_isMissing_57 t_items t_lines t_numbers t_parts t_sorts t_values k7 n v1 v2 v3)
        else none)
      else
        if fits .boolean (.int v2) = true then some v2 else none)
    else none) N
def xf_rf_isMissing (t_items : (Nat → Int32)) (t_lines : (Nat → Int32)) (t_numbers : (Nat → Int32)) (t_parts : (Nat → Int32)) (t_sorts : (Nat → Int32)) (t_values : (Nat → Int32)) (n : Nat) (a1 : Int32) : Option (Int32) :=
  xf_rf_isMissing_7 t_items t_lines t_numbers t_parts t_sorts t_values n n a1 ((0 : Int32)) (((8 : Int32)) * a1)
def xf_rf_read_167 (t_text : (Nat → Int32)) (k115 : Int32 → Int32 → Int32 → (Nat → Int32) → (Nat → Int32) → (Nat → Int32) → (Nat → Int32) → (Nat → Int32) → (Nat → Int32) → Int32 → (Nat → Int32) → Int32 → (Nat → Int32) → Int32 → Option (Int32 × Int32 × Int32 × Int32 × (Nat → Int32) × (Nat → Int32) × (Nat → Int32) × (Nat → Int32) × (Nat → Int32) × (Nat → Int32) × Int32 × (Nat → Int32) × Int32 × (Nat → Int32))) (k133 : Int32 → Int32 → Int32 → (Nat → Int32) → (Nat → Int32) → (Nat → Int32) → (Nat → Int32) → (Nat → Int32) → (Nat → Int32) → Int32 → (Nat → Int32) → Int32 → (Nat → Int32) → Int32 → Int32 → Int32 → Option (Int32 × Int32 × Int32 × Int32 × (Nat → Int32) × (Nat → Int32) × (Nat → Int32) × (Nat → Int32) × (Nat → Int32) × (Nat → Int32) × Int32 × (Nat → Int32) × Int32 × (Nat → Int32))) (n : Nat) (t_at : Int32) (t_fault : Int32) (t_from : Int32) (t_items : (Nat → Int32)) (t_letters : (Nat → Int32)) (t_lines : (Nat → Int32)) (t_names : (Nat → Int32)) (t_numbers : (Nat → Int32)) (t_parts : (Nat → Int32)) (t_size : Int32) (t_sorts : (Nat → Int32)) (t_thrown : Int32) (t_values : (Nat → Int32)) (v1 : Int32) (v3 : Int32) (s0 : Int32) (s1 : Int32) : Option (Int32 × Int32 × Int32 × Int32 × (Nat → Int32) × (Nat → Int32) × (Nat → Int32) × (Nat → Int32) × (Nat → Int32) × (Nat → Int32) × Int32 × (Nat → Int32) × Int32 × (Nat → Int32)) :=
  k133 t_at t_fault t_from t_items t_letters t_lines t_names t_numbers t_parts t_size t_sorts t_thrown t_values v1 (s0 + s1) (v3 + (1 : Int32))
def xf_rf_copy_118 (n : Nat) (N : Nat) : (Nat → Int32) → (Nat → Int32) → (Nat → Int32) → (Nat → Int32) → (Nat → Int32) → (Nat → Int32) → (Nat → Int32) → Int32 → Int32 → Int32 → Option (Unit × (Nat → Int32) × (Nat → Int32) × (Nat → Int32) × (Nat → Int32) × (Nat → Int32) × (Nat → Int32) × (Nat → Int32)) :=
  Nat.rec (motive := fun _ => (Nat → Int32) → (Nat → Int32) → (Nat → Int32) → (Nat → Int32) → (Nat → Int32) → (Nat → Int32) → (Nat → Int32) → Int32 → Int32 → Int32 → Option (Unit × (Nat → Int32) × (Nat → Int32) × (Nat → Int32) × (Nat → Int32) × (Nat → Int32) × (Nat → Int32) × (Nat → Int32))) (fun _ _ _ _ _ _ _ _ _ _ => none) (fun _ k118 t_items t_letters t_names t_numbers t_parts t_sorts t_values v1 v2 v3 =>
    if v3 < ((160 : Int32)) then
      (if xr_in ((((160 : Int32)) * v2) + v3) 19200 = true then
        (if xr_in ((((160 : Int32)) * v1) + v3) 19200 = true then
          (k118 (upd t_items ((((160 : Int32)) * v1) + v3).toNatClampNeg ((t_items ((((160 : Int32)) * v2) + v3).toNatClampNeg))) t_letters t_names t_numbers t_parts t_sorts t_values v1 v2 (v3 + (1 : Int32)))
        else none)
      else none)
    else
      some ((), t_items, t_letters, t_names, t_numbers, t_parts, t_sorts, t_values)) N
def xf_rf_copy_38 (n : Nat) (N : Nat) : (Nat → Int32) → (Nat → Int32) → (Nat → Int32) → (Nat → Int32) → (Nat → Int32) → (Nat → Int32) → (Nat → Int32) → Int32 → Int32 → Int32 → Option (Unit × (Nat → Int32) × (Nat → Int32) × (Nat → Int32) × (Nat → Int32) × (Nat → Int32) × (Nat → Int32) × (Nat → Int32)) :=
  Nat.rec (motive := fun _ => (Nat → Int32) → (Nat → Int32) → (Nat → Int32) → (Nat → Int32) → (Nat → Int32) → (Nat → Int32) → (Nat → Int32) → Int32 → Int32 → Int32 → Option (Unit × (Nat → Int32) × (Nat → Int32) × (Nat → Int32) × (Nat → Int32) × (Nat → Int32) × (Nat → Int32) × (Nat → Int32))) (fun _ _ _ _ _ _ _ _ _ _ => none) (fun _ k38 t_items t_letters t_names t_numbers t_parts t_sorts t_values v1 v2 v3 =>
    if v3 < ((8 : Int32)) then
      (if xr_in ((((8 : Int32)) * v2) + v3) 960 = true then
        (if xr_in ((((8 : Int32)) * v1) + v3) 960 = true then
          (if xr_in ((((8 : Int32)) * v2) + v3) 960 = true then
            (if xr_in ((((8 : Int32)) * v1) + v3) 960 = true then
              (if xr_in ((((8 : Int32)) * v2) + v3) 960 = true then
                (if xr_in ((((8 : Int32)) * v1) + v3) 960 = true then
                  (k38 t_items t_letters (upd t_names ((((8 : Int32)) * v1) + v3).toNatClampNeg ((t_names ((((8 : Int32)) * v2) + v3).toNatClampNeg))) t_numbers t_parts (upd t_sorts ((((8 : Int32)) * v1) + v3).toNatClampNeg ((t_sorts ((((8 : Int32)) * v2) + v3).toNatClampNeg))) (upd t_values ((((8 : Int32)) * v1) + v3).toNatClampNeg ((t_values ((((8 : Int32)) * v2) + v3).toNatClampNeg))) v1 v2 (v3 + (1 : Int32)))
                else none)
              else none)
            else none)
          else none)
        else none)
      else none)
    else
      xf_rf_copy_118 n n t_items t_letters t_names t_numbers t_parts t_sorts t_values v1 v2 ((0 : Int32))) N
def xf_rf_copy (n : Nat) (t_items : (Nat → Int32)) (t_letters : (Nat → Int32)) (t_names : (Nat → Int32)) (t_numbers : (Nat → Int32)) (t_parts : (Nat → Int32)) (t_sorts : (Nat → Int32)) (t_values : (Nat → Int32)) (a1 : Int32) (a2 : Int32) : Option (Unit × (Nat → Int32) × (Nat → Int32) × (Nat → Int32) × (Nat → Int32) × (Nat → Int32) × (Nat → Int32) × (Nat → Int32)) :=
  if xr_in a2 120 = true then
    (if xr_in a1 120 = true then
      (if xr_in a2 120 = true then
        (if xr_in a1 120 = true then
          (if xr_in a2 120 = true then
            (if xr_in a1 120 = true then
              (xf_rf_copy_38 n n t_items (upd t_letters a1.toNatClampNeg ((t_letters a2.toNatClampNeg))) t_names (upd t_numbers a1.toNatClampNeg ((t_numbers a2.toNatClampNeg))) (upd t_parts a1.toNatClampNeg ((t_parts a2.toNatClampNeg))) t_sorts t_values a1 a2 ((0 : Int32)))
            else none)
          else none)
        else none)
      else none)
    else none)
  else none
def xf_rf_read_133 (t_text : (Nat → Int32)) (k115 : Int32 → Int32 → Int32 → (Nat → Int32) → (Nat → Int32) → (Nat → Int32) → (Nat → Int32) → (Nat → Int32) → (Nat → Int32) → Int32 → (Nat → Int32) → Int32 → (Nat → Int32) → Int32 → Option (Int32 × Int32 × Int32 × Int32 × (Nat → Int32) × (Nat → Int32) × (Nat → Int32) × (Nat → Int32) × (Nat → Int32) × (Nat → Int32) × Int32 × (Nat → Int32) × Int32 × (Nat → Int32))) (n : Nat) (N : Nat) : Int32 → Int32 → Int32 → (Nat → Int32) → (Nat → Int32) → (Nat → Int32) → (Nat → Int32) → (Nat → Int32) → (Nat → Int32) → Int32 → (Nat → Int32) → Int32 → (Nat → Int32) → Int32 → Int32 → Int32 → Option (Int32 × Int32 × Int32 × Int32 × (Nat → Int32) × (Nat → Int32) × (Nat → Int32) × (Nat → Int32) × (Nat → Int32) × (Nat → Int32) × Int32 × (Nat → Int32) × Int32 × (Nat → Int32)) :=
  Nat.rec (motive := fun _ => Int32 → Int32 → Int32 → (Nat → Int32) → (Nat → Int32) → (Nat → Int32) → (Nat → Int32) → (Nat → Int32) → (Nat → Int32) → Int32 → (Nat → Int32) → Int32 → (Nat → Int32) → Int32 → Int32 → Int32 → Option (Int32 × Int32 × Int32 × Int32 × (Nat → Int32) × (Nat → Int32) × (Nat → Int32) × (Nat → Int32) × (Nat → Int32) × (Nat → Int32) × Int32 × (Nat → Int32) × Int32 × (Nat → Int32))) (fun _ _ _ _ _ _ _ _ _ _ _ _ _ _ _ _ => none) (fun _ k133 t_at t_fault t_from t_items t_letters t_lines t_names t_numbers t_parts t_size t_sorts t_thrown t_values v1 v2 v3 =>
    if v3 < (((40 : Int32)) + (t_lines ((1 : Int32)).toNatClampNeg)) then
      (if xr_in v3 120 = true then
        (if xr_in v1 120 = true then
          (if (t_numbers v3.toNatClampNeg) < (t_numbers v1.toNatClampNeg) then
            (xf_rf_read_167 t_text k115 k133 n t_at t_fault t_from t_items t_letters t_lines t_names t_numbers t_parts t_size t_sorts t_thrown t_values v1 v3 v2 ((1 : Int32)))
          else
            xf_rf_read_167 t_text k115 k133 n t_at t_fault t_from t_items t_letters t_lines t_names t_numbers t_parts t_size t_sorts t_thrown t_values v1 v3 v2 ((0 : Int32)))
        else none)
      else none)
    else
      (xf_rf_copy n t_items t_letters t_names t_numbers t_parts t_sorts t_values v2 v1).bind fun q744 =>
      k115 t_at t_fault t_from q744.2.1 q744.2.2.1 t_lines q744.2.2.2.1 q744.2.2.2.2.1 q744.2.2.2.2.2.1 t_size q744.2.2.2.2.2.2.1 t_thrown q744.2.2.2.2.2.2.2 (v1 + (1 : Int32))) N
def xf_rf_read_115 (t_text : (Nat → Int32)) (n : Nat) (N : Nat) : Int32 → Int32 → Int32 → (Nat → Int32) → (Nat → Int32) → (Nat → Int32) → (Nat → Int32) → (Nat → Int32) → (Nat → Int32) → Int32 → (Nat → Int32) → Int32 → (Nat → Int32) → Int32 → Option (Int32 × Int32 × Int32 × Int32 × (Nat → Int32) × (Nat → Int32) × (Nat → Int32) × (Nat → Int32) × (Nat → Int32) × (Nat → Int32) × Int32 × (Nat → Int32) × Int32 × (Nat → Int32)) :=
  Nat.rec (motive := fun _ => Int32 → Int32 → Int32 → (Nat → Int32) → (Nat → Int32) → (Nat → Int32) → (Nat → Int32) → (Nat → Int32) → (Nat → Int32) → Int32 → (Nat → Int32) → Int32 → (Nat → Int32) → Int32 → Option (Int32 × Int32 × Int32 × Int32 × (Nat → Int32) × (Nat → Int32) × (Nat → Int32) × (Nat → Int32) × (Nat → Int32) × (Nat → Int32) × Int32 × (Nat → Int32) × Int32 × (Nat → Int32))) (fun _ _ _ _ _ _ _ _ _ _ _ _ _ _ => none) (fun _ k115 t_at t_fault t_from t_items t_letters t_lines t_names t_numbers t_parts t_size t_sorts t_thrown t_values v1 =>
    if v1 < (((40 : Int32)) + (t_lines ((1 : Int32)).toNatClampNeg)) then
      (xf_rf_read_133 t_text k115 n n t_at t_fault t_from t_items t_letters t_lines t_names t_numbers t_parts t_size t_sorts t_thrown t_values v1 ((0 : Int32)) ((40 : Int32)))
    else
      some (t_lines ((0 : Int32)).toNatClampNeg, t_at, t_fault, t_from, t_items, t_letters, t_lines, t_names, t_numbers, t_parts, (0 : Int32), t_sorts, t_thrown, t_values)) N
def xf_rf_read_62 (t_text : (Nat → Int32)) (n : Nat) (N : Nat) : Int32 → Int32 → Int32 → (Nat → Int32) → (Nat → Int32) → (Nat → Int32) → (Nat → Int32) → (Nat → Int32) → (Nat → Int32) → Int32 → (Nat → Int32) → Int32 → (Nat → Int32) → Int32 → Option (Int32 × Int32 × Int32 × Int32 × (Nat → Int32) × (Nat → Int32) × (Nat → Int32) × (Nat → Int32) × (Nat → Int32) × (Nat → Int32) × Int32 × (Nat → Int32) × Int32 × (Nat → Int32)) :=
  Nat.rec (motive := fun _ => Int32 → Int32 → Int32 → (Nat → Int32) → (Nat → Int32) → (Nat → Int32) → (Nat → Int32) → (Nat → Int32) → (Nat → Int32) → Int32 → (Nat → Int32) → Int32 → (Nat → Int32) → Int32 → Option (Int32 × Int32 × Int32 × Int32 × (Nat → Int32) × (Nat → Int32) × (Nat → Int32) × (Nat → Int32) × (Nat → Int32) × (Nat → Int32) × Int32 × (Nat → Int32) × Int32 × (Nat → Int32))) (fun _ _ _ _ _ _ _ _ _ _ _ _ _ _ => none) (fun _ k62 t_at t_fault t_from t_items t_letters t_lines t_names t_numbers t_parts t_size t_sorts t_thrown t_values v1 =>
    if v1 < (((40 : Int32)) + (t_lines ((1 : Int32)).toNatClampNeg)) then
      ((xf_rf_isMissing t_items t_lines t_numbers t_parts t_sorts t_values n v1).bind fun q720 =>
      if q720 = (0 : Int32) then
        (k62 t_at t_fault t_from t_items t_letters t_lines t_names t_numbers t_parts t_size t_sorts t_thrown t_values (v1 + (1 : Int32)))
      else
        if xr_in v1 120 = true then
          (some (((-10000 : Int32)) - (t_numbers v1.toNatClampNeg), t_at, t_fault, t_from, t_items, t_letters, t_lines, t_names, t_numbers, t_parts, t_size, t_sorts, t_thrown, t_values))
        else none)
    else
      xf_rf_read_115 t_text n n t_at t_fault t_from t_items t_letters (upd t_lines ((0 : Int32)).toNatClampNeg ((t_lines ((1 : Int32)).toNatClampNeg))) t_names t_numbers t_parts t_size t_sorts t_thrown t_values ((40 : Int32))) N
def xf_rf_read_44 (t_text : (Nat → Int32)) (n : Nat) (t_at : Int32) (t_fault : Int32) (t_from : Int32) (t_items : (Nat → Int32)) (t_letters : (Nat → Int32)) (t_lines : (Nat → Int32)) (t_names : (Nat → Int32)) (t_numbers : (Nat → Int32)) (t_parts : (Nat → Int32)) (t_size : Int32) (t_sorts : (Nat → Int32)) (t_thrown : Int32) (t_values : (Nat → Int32)) : Option (Int32 × Int32 × Int32 × Int32 × (Nat → Int32) × (Nat → Int32) × (Nat → Int32) × (Nat → Int32) × (Nat → Int32) × (Nat → Int32) × Int32 × (Nat → Int32) × Int32 × (Nat → Int32)) :=
  if t_fault = ((-1 : Int32)) then
    (xf_rf_read_62 t_text n n t_at t_fault t_from t_items t_letters t_lines t_names t_numbers t_parts t_size t_sorts t_thrown t_values ((40 : Int32)))
  else
    some (((-1 : Int32)) - t_fault, t_at, t_fault, t_from, t_items, t_letters, t_lines, t_names, t_numbers, t_parts, t_size, t_sorts, t_thrown, t_values)
def xf_rf_oneLine_20 (t_size : Int32) (t_text : (Nat → Int32)) (n : Nat) (t_at : Int32) (t_fault : Int32) (t_from : Int32) (t_items : (Nat → Int32)) (t_letters : (Nat → Int32)) (t_lines : (Nat → Int32)) (t_names : (Nat → Int32)) (t_numbers : (Nat → Int32)) (t_parts : (Nat → Int32)) (t_sorts : (Nat → Int32)) (t_values : (Nat → Int32)) : Option (Unit × Int32 × Int32 × Int32 × (Nat → Int32) × (Nat → Int32) × (Nat → Int32) × (Nat → Int32) × (Nat → Int32) × (Nat → Int32) × (Nat → Int32) × (Nat → Int32)) :=
  (xf_rf_wrongAt t_fault t_at).bind fun q748 =>
  some ((), t_at, q748.2, t_from, t_items, t_letters, t_lines, t_names, t_numbers, t_parts, t_sorts, t_values)
def xf_rf_isDigit_17 (s0 : Int32) : Option (Int32) :=
  if fits .boolean (.int s0) = true then some s0 else none
def xf_rf_isDigit_16 : Option (Int32) :=
  xf_rf_isDigit_17 ((0 : Int32))
def xf_rf_isDigit (a1 : Int32) : Option (Int32) :=
  if a1 < ((48 : Int32)) then
    (xf_rf_isDigit_16 )
  else
    if ((57 : Int32)) < a1 then
      (xf_rf_isDigit_16 )
    else
      xf_rf_isDigit_17 ((1 : Int32))
def xf_rf_digits_145 (t_size : Int32) (t_text : (Nat → Int32)) (n : Nat) (t_at : Int32) (t_fault : Int32) (t_from : Int32) (v3 : Int32) : Option (Int32 × Int32 × Int32 × Int32) :=
  some (v3, t_at, t_fault, t_from)
def xf_rf_digits_142 (t_size : Int32) (t_text : (Nat → Int32)) (n : Nat) (t_at : Int32) (t_fault : Int32) (t_from : Int32) (v3 : Int32) (s1 : Int32) : Option (Int32 × Int32 × Int32 × Int32) :=
  (xf_rf_wrongAt t_fault s1).bind fun q762 =>
  xf_rf_digits_145 t_size t_text n t_at q762.2 t_from v3
def xf_rf_digits_115 (t_size : Int32) (t_text : (Nat → Int32)) (n : Nat) (t_at : Int32) (t_fault : Int32) (t_from : Int32) (v1 : Int32) (v2 : Int32) (v3 : Int32) : Option (Int32 × Int32 × Int32 × Int32) :=
  if v1 < (t_at - t_from) then
    (if v2 = ((-1 : Int32)) then
      (xf_rf_digits_142 t_size t_text n t_at t_fault t_from v3 t_from)
    else
      xf_rf_digits_142 t_size t_text n t_at t_fault t_from v3 v2)
  else
    xf_rf_digits_145 t_size t_text n t_at t_fault t_from v3
def xf_rf_digits_96 (t_size : Int32) (t_text : (Nat → Int32)) (n : Nat) (t_at : Int32) (t_fault : Int32) (t_from : Int32) (v1 : Int32) (v2 : Int32) (v3 : Int32) : Option (Int32 × Int32 × Int32 × Int32) :=
  if t_at = t_from then
    ((xf_rf_wrongAt t_fault t_at).bind fun q759 =>
    xf_rf_digits_115 t_size t_text n t_at q759.2 t_from v1 v2 v3)
  else
    xf_rf_digits_115 t_size t_text n t_at t_fault t_from v1 v2 v3
def xf_rf_digits_83 (t_size : Int32) (t_text : (Nat → Int32)) (k25 : Int32 → Int32 → Int32 → Int32 → Int32 → Int32 → Option (Int32 × Int32 × Int32 × Int32)) (n : Nat) (t_at : Int32) (t_fault : Int32) (t_from : Int32) (v1 : Int32) (v2 : Int32) (v3 : Int32) : Option (Int32 × Int32 × Int32 × Int32) :=
  k25 (t_at + ((1 : Int32))) t_fault t_from v1 v2 v3
def xf_rf_digits_25 (t_size : Int32) (t_text : (Nat → Int32)) (n : Nat) (N : Nat) : Int32 → Int32 → Int32 → Int32 → Int32 → Int32 → Option (Int32 × Int32 × Int32 × Int32) :=
  Nat.rec (motive := fun _ => Int32 → Int32 → Int32 → Int32 → Int32 → Int32 → Option (Int32 × Int32 × Int32 × Int32)) (fun _ _ _ _ _ _ => none) (fun _ k25 t_at t_fault t_from v1 v2 v3 =>
    if t_at < t_size then
      (if xr_in t_at 1200 = true then
        ((xf_rf_isDigit (t_text t_at.toNatClampNeg)).bind fun q756 =>
        if q756 = (0 : Int32) then
          (xf_rf_digits_96 t_size t_text n t_at t_fault t_from v1 v2 v3)
        else
          if (t_at - t_from) < ((9 : Int32)) then
            (if xr_in t_at 1200 = true then
              (xf_rf_digits_83 t_size t_text k25 n t_at t_fault t_from v1 v2 (((((10 : Int32)) * v3) + (t_text t_at.toNatClampNeg)) - ((48 : Int32))))
            else none)
          else
            xf_rf_digits_83 t_size t_text k25 n t_at t_fault t_from v1 v2 v3)
      else none)
    else
      xf_rf_digits_96 t_size t_text n t_at t_fault t_from v1 v2 v3) N
def xf_rf_digits (t_size : Int32) (t_text : (Nat → Int32)) (n : Nat) (t_at : Int32) (t_fault : Int32) (t_from : Int32) (a1 : Int32) (a2 : Int32) : Option (Int32 × Int32 × Int32 × Int32) :=
  if t_fault = ((-1 : Int32)) then
    ((xf_rf_peek t_size t_text n t_at).bind fun q750 =>
    xf_rf_digits_25 t_size t_text n n q750.2 t_fault q750.2 a1 a2 ((0 : Int32)))
  else
    some ((0 : Int32), t_at, t_fault, t_from)
def xf_rf_oneLine_210 (t_size : Int32) (t_text : (Nat → Int32)) (n : Nat) (t_at : Int32) (t_fault : Int32) (t_from : Int32) (t_items : (Nat → Int32)) (t_letters : (Nat → Int32)) (t_lines : (Nat → Int32)) (t_names : (Nat → Int32)) (t_numbers : (Nat → Int32)) (t_parts : (Nat → Int32)) (t_sorts : (Nat → Int32)) (t_values : (Nat → Int32)) (v1 : Int32) (v3 : Int32) : Option (Unit × Int32 × Int32 × Int32 × (Nat → Int32) × (Nat → Int32) × (Nat → Int32) × (Nat → Int32) × (Nat → Int32) × (Nat → Int32) × (Nat → Int32) × (Nat → Int32)) :=
  (xf_rf_sign t_size t_text n t_at t_fault ((41 : Int32))).bind fun q786 =>
  (xf_rf_sign t_size t_text n q786.2.1 q786.2.2 ((59 : Int32))).bind fun q787 =>
  if xr_in v1 120 = true then
    (some ((), q787.2.1, q787.2.2, t_from, t_items, t_letters, upd t_lines ((1 : Int32)).toNatClampNeg (((t_lines ((1 : Int32)).toNatClampNeg) + ((1 : Int32)))), t_names, t_numbers, upd t_parts v1.toNatClampNeg v3, t_sorts, t_values))
  else none
def xf_rf_beginsNumber_18 (s0 : Int32) : Option (Int32) :=
  if fits .boolean (.int s0) = true then some s0 else none
def xf_rf_beginsNumber_13 : Option (Int32) :=
  xf_rf_beginsNumber_18 ((1 : Int32))
def xf_rf_beginsNumber (a1 : Int32) : Option (Int32) :=
  if a1 = ((45 : Int32)) then
    (xf_rf_beginsNumber_13 )
  else
    (xf_rf_isDigit a1).bind fun q797 =>
    if q797 = (0 : Int32) then
      (xf_rf_beginsNumber_18 ((0 : Int32)))
    else
      xf_rf_beginsNumber_13 
def xf_rf_writing_187 (t_size : Int32) (t_text : (Nat → Int32)) (n : Nat) (t_at : Int32) (t_fault : Int32) (t_items : (Nat → Int32)) (t_sorts : (Nat → Int32)) (t_values : (Nat → Int32)) (v1 : Int32) (v3 : Int32) (v4 : Int32) : Option (Unit × Int32 × Int32 × (Nat → Int32) × (Nat → Int32) × (Nat → Int32)) :=
  if xr_in v1 960 = true then
    (if xr_in v1 960 = true then
      (some ((), v4, t_fault, t_items, upd t_sorts v1.toNatClampNeg (((1 : Int32))), upd t_values v1.toNatClampNeg v3))
    else none)
  else none
def xf_rf_writing_184 (t_size : Int32) (t_text : (Nat → Int32)) (k18 : Int32 → Int32 → (Nat → Int32) → (Nat → Int32) → (Nat → Int32) → Int32 → Int32 → Int32 → Int32 → Int32 → Option (Unit × Int32 × Int32 × (Nat → Int32) × (Nat → Int32) × (Nat → Int32))) (n : Nat) (t_at : Int32) (t_fault : Int32) (t_items : (Nat → Int32)) (t_sorts : (Nat → Int32)) (t_values : (Nat → Int32)) (v1 : Int32) (v2 : Int32) (v3 : Int32) (v4 : Int32) (v5 : Int32) : Option (Unit × Int32 × Int32 × (Nat → Int32) × (Nat → Int32) × (Nat → Int32)) :=
  k18 t_at t_fault t_items t_sorts t_values v1 v2 v3 v4 v5
def xf_rf_writing_121 (t_size : Int32) (t_text : (Nat → Int32)) (k18 : Int32 → Int32 → (Nat → Int32) → (Nat → Int32) → (Nat → Int32) → Int32 → Int32 → Int32 → Int32 → Int32 → Option (Unit × Int32 × Int32 × (Nat → Int32) × (Nat → Int32) × (Nat → Int32))) (n : Nat) (t_at : Int32) (t_fault : Int32) (t_items : (Nat → Int32)) (t_sorts : (Nat → Int32)) (t_values : (Nat → Int32)) (v1 : Int32) (v2 : Int32) (v3 : Int32) (v4 : Int32) (v5 : Int32) : Option (Unit × Int32 × Int32 × (Nat → Int32) × (Nat → Int32) × (Nat → Int32)) :=
  (xf_rf_wrongAt t_fault v2).bind fun q813 =>
  xf_rf_writing_184 t_size t_text k18 n t_at q813.2 t_items t_sorts t_values v1 v2 v3 v4 v5
def xf_rf_writing_181 (t_size : Int32) (t_text : (Nat → Int32)) (k18 : Int32 → Int32 → (Nat → Int32) → (Nat → Int32) → (Nat → Int32) → Int32 → Int32 → Int32 → Int32 → Int32 → Option (Unit × Int32 × Int32 × (Nat → Int32) × (Nat → Int32) × (Nat → Int32))) (n : Nat) (t_at : Int32) (t_fault : Int32) (t_items : (Nat → Int32)) (t_sorts : (Nat → Int32)) (t_values : (Nat → Int32)) (v1 : Int32) (v2 : Int32) (v3 : Int32) (v5 : Int32) (s0 : Int32) (s1 : Int32) : Option (Unit × Int32 × Int32 × (Nat → Int32) × (Nat → Int32) × (Nat → Int32)) :=
  xf_rf_writing_184 t_size t_text k18 n t_at t_fault t_items t_sorts t_values v1 v2 v3 (s0 + s1) v5
def xf_rf_writing_148 (t_size : Int32) (t_text : (Nat → Int32)) (k18 : Int32 → Int32 → (Nat → Int32) → (Nat → Int32) → (Nat → Int32) → Int32 → Int32 → Int32 → Int32 → Int32 → Option (Unit × Int32 × Int32 × (Nat → Int32) × (Nat → Int32) × (Nat → Int32))) (n : Nat) (t_at : Int32) (t_fault : Int32) (t_items : (Nat → Int32)) (t_sorts : (Nat → Int32)) (t_values : (Nat → Int32)) (v1 : Int32) (v2 : Int32) (v3 : Int32) (v4 : Int32) (v5 : Int32) (v7 : Int32) : Option (Unit × Int32 × Int32 × (Nat → Int32) × (Nat → Int32) × (Nat → Int32)) :=
  if xr_in v4 1200 = true then
    (if xr_in ((((20 : Int32)) * v1) + v3) 19200 = true then
      (if v7 = (0 : Int32) then
        (xf_rf_writing_181 t_size t_text k18 n t_at t_fault (upd t_items ((((20 : Int32)) * v1) + v3).toNatClampNeg ((t_text v4.toNatClampNeg))) t_sorts t_values v1 v2 (v3 + (1 : Int32)) v5 v4 ((1 : Int32)))
      else
        xf_rf_writing_181 t_size t_text k18 n t_at t_fault (upd t_items ((((20 : Int32)) * v1) + v3).toNatClampNeg ((t_text v4.toNatClampNeg))) t_sorts t_values v1 v2 (v3 + (1 : Int32)) v5 v4 ((2 : Int32)))
    else none)
  else none
def xf_rf_writing_129 (t_size : Int32) (t_text : (Nat → Int32)) (k18 : Int32 → Int32 → (Nat → Int32) → (Nat → Int32) → (Nat → Int32) → Int32 → Int32 → Int32 → Int32 → Int32 → Option (Unit × Int32 × Int32 × (Nat → Int32) × (Nat → Int32) × (Nat → Int32))) (n : Nat) (t_at : Int32) (t_fault : Int32) (t_items : (Nat → Int32)) (t_sorts : (Nat → Int32)) (t_values : (Nat → Int32)) (v1 : Int32) (v2 : Int32) (v3 : Int32) (v4 : Int32) (v5 : Int32) (v6 : Int32) (v7 : Int32) : Option (Unit × Int32 × Int32 × (Nat → Int32) × (Nat → Int32) × (Nat → Int32)) :=
  if v6 = (0 : Int32) then
    (xf_rf_writing_148 t_size t_text k18 n t_at t_fault t_items t_sorts t_values v1 v2 v3 v4 v5 v7)
  else
    if v7 = (0 : Int32) then
      (xf_rf_writing_184 t_size t_text k18 n t_at t_fault t_items t_sorts t_values v1 v2 v3 (v4 + (1 : Int32)) ((0 : Int32)))
    else
      xf_rf_writing_148 t_size t_text k18 n t_at t_fault t_items t_sorts t_values v1 v2 v3 v4 v5 v7
def xf_rf_writing_94 (t_size : Int32) (t_text : (Nat → Int32)) (k18 : Int32 → Int32 → (Nat → Int32) → (Nat → Int32) → (Nat → Int32) → Int32 → Int32 → Int32 → Int32 → Int32 → Option (Unit × Int32 × Int32 × (Nat → Int32) × (Nat → Int32) × (Nat → Int32))) (n : Nat) (t_at : Int32) (t_fault : Int32) (t_items : (Nat → Int32)) (t_sorts : (Nat → Int32)) (t_values : (Nat → Int32)) (v1 : Int32) (v2 : Int32) (v3 : Int32) (v4 : Int32) (v5 : Int32) (v6 : Int32) (s0 : Int32) : Option (Unit × Int32 × Int32 × (Nat → Int32) × (Nat → Int32) × (Nat → Int32)) :=
  if v4 < t_size then
    (if v3 = ((20 : Int32)) then
      (if v6 = (0 : Int32) then
        (xf_rf_writing_121 t_size t_text k18 n t_at t_fault t_items t_sorts t_values v1 v2 v3 v4 v5)
      else
        if s0 = (0 : Int32) then
          (xf_rf_writing_129 t_size t_text k18 n t_at t_fault t_items t_sorts t_values v1 v2 v3 v4 v5 v6 s0)
        else
          xf_rf_writing_121 t_size t_text k18 n t_at t_fault t_items t_sorts t_values v1 v2 v3 v4 v5)
    else
      xf_rf_writing_129 t_size t_text k18 n t_at t_fault t_items t_sorts t_values v1 v2 v3 v4 v5 v6 s0)
  else
    xf_rf_writing_121 t_size t_text k18 n t_at t_fault t_items t_sorts t_values v1 v2 v3 v4 v5
def xf_rf_writing_93 (t_size : Int32) (t_text : (Nat → Int32)) (k18 : Int32 → Int32 → (Nat → Int32) → (Nat → Int32) → (Nat → Int32) → Int32 → Int32 → Int32 → Int32 → Int32 → Option (Unit × Int32 × Int32 × (Nat → Int32) × (Nat → Int32) × (Nat → Int32))) (n : Nat) (t_at : Int32) (t_fault : Int32) (t_items : (Nat → Int32)) (t_sorts : (Nat → Int32)) (t_values : (Nat → Int32)) (v1 : Int32) (v2 : Int32) (v3 : Int32) (v4 : Int32) (v5 : Int32) (v6 : Int32) : Option (Unit × Int32 × Int32 × (Nat → Int32) × (Nat → Int32) × (Nat → Int32)) :=
  xf_rf_writing_94 t_size t_text k18 n t_at t_fault t_items t_sorts t_values v1 v2 v3 v4 v5 v6 ((0 : Int32))
def xf_rf_writing_57 (t_size : Int32) (t_text : (Nat → Int32)) (k18 : Int32 → Int32 → (Nat → Int32) → (Nat → Int32) → (Nat → Int32) → Int32 → Int32 → Int32 → Int32 → Int32 → Option (Unit × Int32 × Int32 × (Nat → Int32) × (Nat → Int32) × (Nat → Int32))) (n : Nat) (t_at : Int32) (t_fault : Int32) (t_items : (Nat → Int32)) (t_sorts : (Nat → Int32)) (t_values : (Nat → Int32)) (v1 : Int32) (v2 : Int32) (v3 : Int32) (v4 : Int32) (v5 : Int32) (s0 : Int32) : Option (Unit × Int32 × Int32 × (Nat → Int32) × (Nat → Int32) × (Nat → Int32)) :=
  if s0 = (0 : Int32) then
    (xf_rf_writing_93 t_size t_text k18 n t_at t_fault t_items t_sorts t_values v1 v2 v3 v4 v5 s0)
  else
    if (v4 + ((1 : Int32))) < t_size then
      (if xr_in (v4 + ((1 : Int32))) 1200 = true then
        (if (t_text (v4 + ((1 : Int32))).toNatClampNeg) = ((39 : Int32)) then
          (xf_rf_writing_94 t_size t_text k18 n t_at t_fault t_items t_sorts t_values v1 v2 v3 v4 v5 s0 ((1 : Int32)))
        else
          xf_rf_writing_93 t_size t_text k18 n t_at t_fault t_items t_sorts t_values v1 v2 v3 v4 v5 s0)
      else none)
    else
      xf_rf_writing_93 t_size t_text k18 n t_at t_fault t_items t_sorts t_values v1 v2 v3 v4 v5 s0
def xf_rf_writing_56 (t_size : Int32) (t_text : (Nat → Int32)) (k18 : Int32 → Int32 → (Nat → Int32) → (Nat → Int32) → (Nat → Int32) → Int32 → Int32 → Int32 → Int32 → Int32 → Option (Unit × Int32 × Int32 × (Nat → Int32) × (Nat → Int32) × (Nat → Int32))) (n : Nat) (t_at : Int32) (t_fault : Int32) (t_items : (Nat → Int32)) (t_sorts : (Nat → Int32)) (t_values : (Nat → Int32)) (v1 : Int32) (v2 : Int32) (v3 : Int32) (v4 : Int32) (v5 : Int32) : Option (Unit × Int32 × Int32 × (Nat → Int32) × (Nat → Int32) × (Nat → Int32)) :=
  xf_rf_writing_57 t_size t_text k18 n t_at t_fault t_items t_sorts t_values v1 v2 v3 v4 v5 ((0 : Int32))
def xf_rf_writing_18 (t_size : Int32) (t_text : (Nat → Int32)) (n : Nat) (N : Nat) : Int32 → Int32 → (Nat → Int32) → (Nat → Int32) → (Nat → Int32) → Int32 → Int32 → Int32 → Int32 → Int32 → Option (Unit × Int32 × Int32 × (Nat → Int32) × (Nat → Int32) × (Nat → Int32)) :=
  Nat.rec (motive := fun _ => Int32 → Int32 → (Nat → Int32) → (Nat → Int32) → (Nat → Int32) → Int32 → Int32 → Int32 → Int32 → Int32 → Option (Unit × Int32 × Int32 × (Nat → Int32) × (Nat → Int32) × (Nat → Int32))) (fun _ _ _ _ _ _ _ _ _ _ => none) (fun _ k18 t_at t_fault t_items t_sorts t_values v1 v2 v3 v4 v5 =>
    if v5 = (0 : Int32) then
      (xf_rf_writing_187 t_size t_text n t_at t_fault t_items t_sorts t_values v1 v3 v4)
    else
      if t_fault = ((-1 : Int32)) then
        (if v4 < t_size then
          (if xr_in v4 1200 = true then
            (if (t_text v4.toNatClampNeg) = ((39 : Int32)) then
              (xf_rf_writing_57 t_size t_text k18 n t_at t_fault t_items t_sorts t_values v1 v2 v3 v4 v5 ((1 : Int32)))
            else
              xf_rf_writing_56 t_size t_text k18 n t_at t_fault t_items t_sorts t_values v1 v2 v3 v4 v5)
          else none)
        else
          xf_rf_writing_56 t_size t_text k18 n t_at t_fault t_items t_sorts t_values v1 v2 v3 v4 v5)
      else
        xf_rf_writing_187 t_size t_text n t_at t_fault t_items t_sorts t_values v1 v3 v4) N
def xf_rf_writing (t_size : Int32) (t_text : (Nat → Int32)) (n : Nat) (t_at : Int32) (t_fault : Int32) (t_items : (Nat → Int32)) (t_sorts : (Nat → Int32)) (t_values : (Nat → Int32)) (a1 : Int32) : Option (Unit × Int32 × Int32 × (Nat → Int32) × (Nat → Int32) × (Nat → Int32)) :=
  xf_rf_writing_18 t_size t_text n n t_at t_fault t_items t_sorts t_values a1 t_at ((0 : Int32)) (t_at + ((1 : Int32))) ((1 : Int32))
def xf_rf_argument1_178 (t_size : Int32) (t_text : (Nat → Int32)) (n : Nat) (t_at : Int32) (t_fault : Int32) (t_from : Int32) (t_items : (Nat → Int32)) (t_sorts : (Nat → Int32)) (t_values : (Nat → Int32)) : Option (Unit × Int32 × Int32 × Int32 × (Nat → Int32) × (Nat → Int32) × (Nat → Int32)) :=
  some ((), t_at, t_fault, t_from, t_items, t_sorts, t_values)
def xf_rf_reference_25 (t_size : Int32) (t_text : (Nat → Int32)) (n : Nat) (t_at : Int32) (t_fault : Int32) (t_from : Int32) (v1 : Int32) : Option (Int32 × Int32 × Int32 × Int32) :=
  some (v1, t_at, t_fault, t_from)
def xf_rf_reference (t_size : Int32) (t_text : (Nat → Int32)) (n : Nat) (t_at : Int32) (t_fault : Int32) (t_from : Int32) : Option (Int32 × Int32 × Int32 × Int32) :=
  (xf_rf_sign t_size t_text n t_at t_fault ((35 : Int32))).bind fun q826 =>
  (xf_rf_digits t_size t_text n q826.2.1 q826.2.2 t_from ((3 : Int32)) ((-1 : Int32))).bind fun q827 =>
  if q827.1 = (0 : Int32) then
    ((xf_rf_wrongAt q827.2.2.1 q827.2.2.2).bind fun q829 =>
    xf_rf_reference_25 t_size t_text n q827.2.1 q829.2 q827.2.2.2 q827.1)
  else
    xf_rf_reference_25 t_size t_text n q827.2.1 q827.2.2.1 q827.2.2.2 q827.1
def xf_rf_list_190 (t_size : Int32) (t_text : (Nat → Int32)) (n : Nat) (t_at : Int32) (t_fault : Int32) (t_from : Int32) (t_items : (Nat → Int32)) (t_sorts : (Nat → Int32)) (t_values : (Nat → Int32)) (v1 : Int32) (v2 : Int32) : Option (Unit × Int32 × Int32 × Int32 × (Nat → Int32) × (Nat → Int32) × (Nat → Int32)) :=
  (xf_rf_sign t_size t_text n t_at t_fault ((41 : Int32))).bind fun q858 =>
  if xr_in v1 960 = true then
    (some ((), q858.2.1, q858.2.2, t_from, t_items, t_sorts, upd t_values v1.toNatClampNeg v2))
  else none
def xf_rf_list_187 (t_size : Int32) (t_text : (Nat → Int32)) (k43 : Int32 → Int32 → Int32 → (Nat → Int32) → (Nat → Int32) → (Nat → Int32) → Int32 → Int32 → Int32 → Option (Unit × Int32 × Int32 × Int32 × (Nat → Int32) × (Nat → Int32) × (Nat → Int32))) (n : Nat) (t_at : Int32) (t_fault : Int32) (t_from : Int32) (t_items : (Nat → Int32)) (t_sorts : (Nat → Int32)) (t_values : (Nat → Int32)) (v1 : Int32) (v2 : Int32) (v4 : Int32) : Option (Unit × Int32 × Int32 × Int32 × (Nat → Int32) × (Nat → Int32) × (Nat → Int32)) :=
  k43 t_at t_fault t_from t_items t_sorts t_values v1 v2 v4
def xf_rf_list_102 (t_size : Int32) (t_text : (Nat → Int32)) (k43 : Int32 → Int32 → Int32 → (Nat → Int32) → (Nat → Int32) → (Nat → Int32) → Int32 → Int32 → Int32 → Option (Unit × Int32 × Int32 × Int32 × (Nat → Int32) × (Nat → Int32) × (Nat → Int32))) (n : Nat) (t_at : Int32) (t_fault : Int32) (t_from : Int32) (t_items : (Nat → Int32)) (t_sorts : (Nat → Int32)) (t_values : (Nat → Int32)) (v1 : Int32) (v2 : Int32) (v4 : Int32) : Option (Unit × Int32 × Int32 × Int32 × (Nat → Int32) × (Nat → Int32) × (Nat → Int32)) :=
  (xf_rf_wrongAt t_fault t_at).bind fun q866 =>
  xf_rf_list_187 t_size t_text k43 n t_at q866.2 t_from t_items t_sorts t_values v1 v2 v4
def xf_rf_list_170 (t_size : Int32) (t_text : (Nat → Int32)) (k43 : Int32 → Int32 → Int32 → (Nat → Int32) → (Nat → Int32) → (Nat → Int32) → Int32 → Int32 → Int32 → Option (Unit × Int32 × Int32 × Int32 × (Nat → Int32) × (Nat → Int32) × (Nat → Int32))) (n : Nat) (t_at : Int32) (t_fault : Int32) (t_from : Int32) (t_items : (Nat → Int32)) (t_sorts : (Nat → Int32)) (t_values : (Nat → Int32)) (v1 : Int32) (v2 : Int32) (s0 : Int32) : Option (Unit × Int32 × Int32 × Int32 × (Nat → Int32) × (Nat → Int32) × (Nat → Int32)) :=
  if s0 = (0 : Int32) then
    (xf_rf_list_187 t_size t_text k43 n t_at t_fault t_from t_items t_sorts t_values v1 v2 s0)
  else
    xf_rf_list_187 t_size t_text k43 n (t_at + ((1 : Int32))) t_fault t_from t_items t_sorts t_values v1 v2 s0
def xf_rf_list_169 (t_size : Int32) (t_text : (Nat → Int32)) (k43 : Int32 → Int32 → Int32 → (Nat → Int32) → (Nat → Int32) → (Nat → Int32) → Int32 → Int32 → Int32 → Option (Unit × Int32 × Int32 × Int32 × (Nat → Int32) × (Nat → Int32) × (Nat → Int32))) (n : Nat) (t_at : Int32) (t_fault : Int32) (t_from : Int32) (t_items : (Nat → Int32)) (t_sorts : (Nat → Int32)) (t_values : (Nat → Int32)) (v1 : Int32) (v2 : Int32) : Option (Unit × Int32 × Int32 × Int32 × (Nat → Int32) × (Nat → Int32) × (Nat → Int32)) :=
  xf_rf_list_170 t_size t_text k43 n t_at t_fault t_from t_items t_sorts t_values v1 v2 ((0 : Int32))
def xf_rf_list_144 (t_size : Int32) (t_text : (Nat → Int32)) (k43 : Int32 → Int32 → Int32 → (Nat → Int32) → (Nat → Int32) → (Nat → Int32) → Int32 → Int32 → Int32 → Option (Unit × Int32 × Int32 × Int32 × (Nat → Int32) × (Nat → Int32) × (Nat → Int32))) (n : Nat) (t_at : Int32) (t_fault : Int32) (t_from : Int32) (t_items : (Nat → Int32)) (t_sorts : (Nat → Int32)) (t_values : (Nat → Int32)) (v1 : Int32) (v2 : Int32) (s1 : Int32) (s2 : Int32) : Option (Unit × Int32 × Int32 × Int32 × (Nat → Int32) × (Nat → Int32) × (Nat → Int32)) :=
  if xr_in s1 19200 = true then
    (if t_fault = ((-1 : Int32)) then
      ((xf_rf_peek t_size t_text n t_at).bind fun q873 =>
      if q873.1 = ((44 : Int32)) then
        (xf_rf_list_170 t_size t_text k43 n q873.2 t_fault t_from (upd t_items s1.toNatClampNeg s2) t_sorts t_values v1 (v2 + (1 : Int32)) ((1 : Int32)))
      else
        xf_rf_list_169 t_size t_text k43 n q873.2 t_fault t_from (upd t_items s1.toNatClampNeg s2) t_sorts t_values v1 (v2 + (1 : Int32)))
    else
      xf_rf_list_169 t_size t_text k43 n t_at t_fault t_from (upd t_items s1.toNatClampNeg s2) t_sorts t_values v1 (v2 + (1 : Int32)))
  else none
def xf_rf_number_52 (t_size : Int32) (t_text : (Nat → Int32)) (n : Nat) (t_at : Int32) (t_fault : Int32) (t_from : Int32) (s0 : Int32) : Option (Int32 × Int32 × Int32 × Int32) :=
  some (s0, t_at, t_fault, t_from)
def xf_rf_number_34 (t_size : Int32) (t_text : (Nat → Int32)) (n : Nat) (t_at : Int32) (t_fault : Int32) (t_from : Int32) (v1 : Int32) (v2 : Int32) : Option (Int32 × Int32 × Int32 × Int32) :=
  (xf_rf_digits t_size t_text n t_at t_fault t_from ((9 : Int32)) v2).bind fun q879 =>
  if v1 = (0 : Int32) then
    (xf_rf_number_52 t_size t_text n q879.2.1 q879.2.2.1 q879.2.2.2 q879.1)
  else
    xf_rf_number_52 t_size t_text n q879.2.1 q879.2.2.1 q879.2.2.2 (-q879.1)
def xf_rf_number_14 (t_size : Int32) (t_text : (Nat → Int32)) (n : Nat) (t_at : Int32) (t_fault : Int32) (t_from : Int32) (s0 : Int32) : Option (Int32 × Int32 × Int32 × Int32) :=
  if s0 = (0 : Int32) then
    (xf_rf_number_34 t_size t_text n t_at t_fault t_from s0 t_at)
  else
    xf_rf_number_34 t_size t_text n (t_at + ((1 : Int32))) t_fault t_from s0 t_at
def xf_rf_number (t_size : Int32) (t_text : (Nat → Int32)) (n : Nat) (t_at : Int32) (t_fault : Int32) (t_from : Int32) : Option (Int32 × Int32 × Int32 × Int32) :=
  (xf_rf_peek t_size t_text n t_at).bind fun q876 =>
  if q876.1 = ((45 : Int32)) then
    (xf_rf_number_14 t_size t_text n q876.2 t_fault t_from ((1 : Int32)))
  else
    xf_rf_number_14 t_size t_text n q876.2 t_fault t_from ((0 : Int32))
def xf_rf_list_89 (t_size : Int32) (t_text : (Nat → Int32)) (k43 : Int32 → Int32 → Int32 → (Nat → Int32) → (Nat → Int32) → (Nat → Int32) → Int32 → Int32 → Int32 → Option (Unit × Int32 × Int32 × Int32 × (Nat → Int32) × (Nat → Int32) × (Nat → Int32))) (n : Nat) (t_at : Int32) (t_fault : Int32) (t_from : Int32) (t_items : (Nat → Int32)) (t_sorts : (Nat → Int32)) (t_values : (Nat → Int32)) (v1 : Int32) (v2 : Int32) (v4 : Int32) (s0 : Int32) : Option (Unit × Int32 × Int32 × Int32 × (Nat → Int32) × (Nat → Int32) × (Nat → Int32)) :=
  if v2 = ((6 : Int32)) then
    (xf_rf_list_102 t_size t_text k43 n t_at t_fault t_from t_items t_sorts t_values v1 v2 v4)
  else
    if s0 = (0 : Int32) then
      (xf_rf_list_102 t_size t_text k43 n t_at t_fault t_from t_items t_sorts t_values v1 v2 v4)
    else
      if xr_in v1 960 = true then
        (if (t_sorts v1.toNatClampNeg) = ((4 : Int32)) then
          ((xf_rf_reference t_size t_text n t_at t_fault t_from).bind fun q870 =>
          xf_rf_list_144 t_size t_text k43 n q870.2.1 q870.2.2.1 q870.2.2.2 t_items t_sorts t_values v1 v2 ((((20 : Int32)) * v1) + v2) q870.1)
        else
          (xf_rf_number t_size t_text n t_at t_fault t_from).bind fun q881 =>
          xf_rf_list_144 t_size t_text k43 n q881.2.1 q881.2.2.1 q881.2.2.2 t_items t_sorts t_values v1 v2 ((((20 : Int32)) * v1) + v2) q881.1)
      else none
def xf_rf_list_43 (t_size : Int32) (t_text : (Nat → Int32)) (n : Nat) (N : Nat) : Int32 → Int32 → Int32 → (Nat → Int32) → (Nat → Int32) → (Nat → Int32) → Int32 → Int32 → Int32 → Option (Unit × Int32 × Int32 × Int32 × (Nat → Int32) × (Nat → Int32) × (Nat → Int32)) :=
  Nat.rec (motive := fun _ => Int32 → Int32 → Int32 → (Nat → Int32) → (Nat → Int32) → (Nat → Int32) → Int32 → Int32 → Int32 → Option (Unit × Int32 × Int32 × Int32 × (Nat → Int32) × (Nat → Int32) × (Nat → Int32))) (fun _ _ _ _ _ _ _ _ _ => none) (fun _ k43 t_at t_fault t_from t_items t_sorts t_values v1 v2 v4 =>
    if v4 = (0 : Int32) then
      (xf_rf_list_190 t_size t_text n t_at t_fault t_from t_items t_sorts t_values v1 v2)
    else
      if t_fault = ((-1 : Int32)) then
        ((xf_rf_peek t_size t_text n t_at).bind fun q861 =>
        if xr_in v1 960 = true then
          (if (t_sorts v1.toNatClampNeg) = ((4 : Int32)) then
            (if q861.1 = ((35 : Int32)) then
              (xf_rf_list_89 t_size t_text k43 n q861.2 t_fault t_from t_items t_sorts t_values v1 v2 v4 ((1 : Int32)))
            else
              xf_rf_list_89 t_size t_text k43 n q861.2 t_fault t_from t_items t_sorts t_values v1 v2 v4 ((0 : Int32)))
          else
            (xf_rf_beginsNumber q861.1).bind fun q882 =>
            xf_rf_list_89 t_size t_text k43 n q861.2 t_fault t_from t_items t_sorts t_values v1 v2 v4 q882)
        else none)
      else
        xf_rf_list_190 t_size t_text n t_at t_fault t_from t_items t_sorts t_values v1 v2) N
def xf_rf_list_41 (t_size : Int32) (t_text : (Nat → Int32)) (n : Nat) (t_at : Int32) (t_fault : Int32) (t_from : Int32) (t_items : (Nat → Int32)) (t_sorts : (Nat → Int32)) (t_values : (Nat → Int32)) (v1 : Int32) (v2 : Int32) (s0 : Int32) : Option (Unit × Int32 × Int32 × Int32 × (Nat → Int32) × (Nat → Int32) × (Nat → Int32)) :=
  xf_rf_list_43 t_size t_text n n t_at t_fault t_from t_items t_sorts t_values v1 v2 s0
def xf_rf_list_29 (t_size : Int32) (t_text : (Nat → Int32)) (n : Nat) (t_at : Int32) (t_fault : Int32) (t_from : Int32) (t_items : (Nat → Int32)) (t_sorts : (Nat → Int32)) (t_values : (Nat → Int32)) (v1 : Int32) (v2 : Int32) (v3 : Int32) (s1 : Int32) (s2 : Int32) : Option (Unit × Int32 × Int32 × Int32 × (Nat → Int32) × (Nat → Int32) × (Nat → Int32)) :=
  if xr_in s1 960 = true then
    (if v3 = ((41 : Int32)) then
      (xf_rf_list_41 t_size t_text n t_at t_fault t_from t_items (upd t_sorts s1.toNatClampNeg s2) t_values v1 v2 ((0 : Int32)))
    else
      xf_rf_list_41 t_size t_text n t_at t_fault t_from t_items (upd t_sorts s1.toNatClampNeg s2) t_values v1 v2 ((1 : Int32)))
  else none
def xf_rf_list (t_size : Int32) (t_text : (Nat → Int32)) (n : Nat) (t_at : Int32) (t_fault : Int32) (t_from : Int32) (t_items : (Nat → Int32)) (t_sorts : (Nat → Int32)) (t_values : (Nat → Int32)) (a1 : Int32) : Option (Unit × Int32 × Int32 × Int32 × (Nat → Int32) × (Nat → Int32) × (Nat → Int32)) :=
  (xf_rf_sign t_size t_text n t_at t_fault ((40 : Int32))).bind fun q852 =>
  (xf_rf_peek t_size t_text n q852.2.1).bind fun q853 =>
  if q853.1 = ((35 : Int32)) then
    (xf_rf_list_29 t_size t_text n q853.2 q852.2.2 t_from t_items t_sorts t_values a1 ((0 : Int32)) q853.1 a1 ((4 : Int32)))
  else
    xf_rf_list_29 t_size t_text n q853.2 q852.2.2 t_from t_items t_sorts t_values a1 ((0 : Int32)) q853.1 a1 ((3 : Int32))
def xf_rf_argument1 (t_size : Int32) (t_text : (Nat → Int32)) (n : Nat) (t_at : Int32) (t_fault : Int32) (t_from : Int32) (t_items : (Nat → Int32)) (t_sorts : (Nat → Int32)) (t_values : (Nat → Int32)) (a1 : Int32) : Option (Unit × Int32 × Int32 × Int32 × (Nat → Int32) × (Nat → Int32) × (Nat → Int32)) :=
  (xf_rf_peek t_size t_text n t_at).bind fun q793 =>
  if xr_in a1 960 = true then
    ((xf_rf_beginsNumber q793.1).bind fun q799 =>
    if q799 = (0 : Int32) then
      (if q793.1 = ((39 : Int32)) then
        ((xf_rf_writing t_size t_text n q793.2 t_fault t_items t_sorts (upd t_values a1.toNatClampNeg (((0 : Int32)))) a1).bind fun q823 =>
        xf_rf_argument1_178 t_size t_text n q823.2.1 q823.2.2.1 t_from q823.2.2.2.1 q823.2.2.2.2.1 q823.2.2.2.2.2)
      else
        if q793.1 = ((35 : Int32)) then
          (if xr_in a1 960 = true then
            ((xf_rf_reference t_size t_text n q793.2 t_fault t_from).bind fun q830 =>
            if xr_in a1 960 = true then
              (xf_rf_argument1_178 t_size t_text n q830.2.1 q830.2.2.1 q830.2.2.2 t_items (upd t_sorts a1.toNatClampNeg (((2 : Int32)))) (upd (upd t_values a1.toNatClampNeg (((0 : Int32)))) a1.toNatClampNeg q830.1))
            else none)
          else none)
        else
          if q793.1 = ((36 : Int32)) then
            (if xr_in a1 960 = true then
              (xf_rf_argument1_178 t_size t_text n (q793.2 + ((1 : Int32))) t_fault t_from t_items (upd t_sorts a1.toNatClampNeg (((6 : Int32)))) (upd t_values a1.toNatClampNeg (((0 : Int32)))))
            else none)
          else
            if q793.1 = ((46 : Int32)) then
              (if xr_in a1 960 = true then
                ((xf_rf_name t_size t_text 19200 n t_items (q793.2 + ((1 : Int32))) t_fault t_from (((20 : Int32)) * a1)).bind fun q848 =>
                if xr_in a1 960 = true then
                  ((xf_rf_sign t_size t_text n q848.2.2.1 q848.2.2.2.1 ((46 : Int32))).bind fun q850 =>
                  xf_rf_argument1_178 t_size t_text n q850.2.1 q850.2.2 q848.2.2.2.2 q848.2.1 (upd t_sorts a1.toNatClampNeg (((5 : Int32)))) (upd (upd t_values a1.toNatClampNeg (((0 : Int32)))) a1.toNatClampNeg q848.1))
                else none)
              else none)
            else
              if q793.1 = ((40 : Int32)) then
                ((xf_rf_list t_size t_text n q793.2 t_fault t_from t_items t_sorts (upd t_values a1.toNatClampNeg (((0 : Int32)))) a1).bind fun q883 =>
                xf_rf_argument1_178 t_size t_text n q883.2.1 q883.2.2.1 q883.2.2.2.1 q883.2.2.2.2.1 q883.2.2.2.2.2.1 q883.2.2.2.2.2.2)
              else
                (xf_rf_wrongAt t_fault q793.2).bind fun q884 =>
                xf_rf_argument1_178 t_size t_text n q793.2 q884.2 t_from t_items t_sorts (upd t_values a1.toNatClampNeg (((0 : Int32)))))
    else
      if xr_in a1 960 = true then
        ((xf_rf_number t_size t_text n q793.2 t_fault t_from).bind fun q886 =>
        if xr_in a1 960 = true then
          (xf_rf_argument1_178 t_size t_text n q886.2.1 q886.2.2.1 q886.2.2.2 t_items (upd t_sorts a1.toNatClampNeg (((0 : Int32)))) (upd (upd t_values a1.toNatClampNeg (((0 : Int32)))) a1.toNatClampNeg q886.1))
        else none)
      else none)
  else none
def xf_rf_oneLine_190 (t_size : Int32) (t_text : (Nat → Int32)) (k120 : Int32 → Int32 → Int32 → (Nat → Int32) → (Nat → Int32) → (Nat → Int32) → (Nat → Int32) → (Nat → Int32) → (Nat → Int32) → (Nat → Int32) → (Nat → Int32) → Int32 → Int32 → Int32 → Option (Unit × Int32 × Int32 × Int32 × (Nat → Int32) × (Nat → Int32) × (Nat → Int32) × (Nat → Int32) × (Nat → Int32) × (Nat → Int32) × (Nat → Int32) × (Nat → Int32))) (n : Nat) (t_at : Int32) (t_fault : Int32) (t_from : Int32) (t_items : (Nat → Int32)) (t_letters : (Nat → Int32)) (t_lines : (Nat → Int32)) (t_names : (Nat → Int32)) (t_numbers : (Nat → Int32)) (t_parts : (Nat → Int32)) (t_sorts : (Nat → Int32)) (t_values : (Nat → Int32)) (v1 : Int32) (v3 : Int32) (s0 : Int32) : Option (Unit × Int32 × Int32 × Int32 × (Nat → Int32) × (Nat → Int32) × (Nat → Int32) × (Nat → Int32) × (Nat → Int32) × (Nat → Int32) × (Nat → Int32) × (Nat → Int32)) :=
  if s0 = (0 : Int32) then
    (k120 t_at t_fault t_from t_items t_letters t_lines t_names t_numbers t_parts t_sorts t_values v1 v3 s0)
  else
    k120 (t_at + ((1 : Int32))) t_fault t_from t_items t_letters t_lines t_names t_numbers t_parts t_sorts t_values v1 v3 s0
def xf_rf_oneLine_189 (t_size : Int32) (t_text : (Nat → Int32)) (k120 : Int32 → Int32 → Int32 → (Nat → Int32) → (Nat → Int32) → (Nat → Int32) → (Nat → Int32) → (Nat → Int32) → (Nat → Int32) → (Nat → Int32) → (Nat → Int32) → Int32 → Int32 → Int32 → Option (Unit × Int32 × Int32 × Int32 × (Nat → Int32) × (Nat → Int32) × (Nat → Int32) × (Nat → Int32) × (Nat → Int32) × (Nat → Int32) × (Nat → Int32) × (Nat → Int32))) (n : Nat) (t_at : Int32) (t_fault : Int32) (t_from : Int32) (t_items : (Nat → Int32)) (t_letters : (Nat → Int32)) (t_lines : (Nat → Int32)) (t_names : (Nat → Int32)) (t_numbers : (Nat → Int32)) (t_parts : (Nat → Int32)) (t_sorts : (Nat → Int32)) (t_values : (Nat → Int32)) (v1 : Int32) (v3 : Int32) : Option (Unit × Int32 × Int32 × Int32 × (Nat → Int32) × (Nat → Int32) × (Nat → Int32) × (Nat → Int32) × (Nat → Int32) × (Nat → Int32) × (Nat → Int32) × (Nat → Int32)) :=
  xf_rf_oneLine_190 t_size t_text k120 n t_at t_fault t_from t_items t_letters t_lines t_names t_numbers t_parts t_sorts t_values v1 v3 ((0 : Int32))
def xf_rf_oneLine_120 (t_size : Int32) (t_text : (Nat → Int32)) (n : Nat) (N : Nat) : Int32 → Int32 → Int32 → (Nat → Int32) → (Nat → Int32) → (Nat → Int32) → (Nat → Int32) → (Nat → Int32) → (Nat → Int32) → (Nat → Int32) → (Nat → Int32) → Int32 → Int32 → Int32 → Option (Unit × Int32 × Int32 × Int32 × (Nat → Int32) × (Nat → Int32) × (Nat → Int32) × (Nat → Int32) × (Nat → Int32) × (Nat → Int32) × (Nat → Int32) × (Nat → Int32)) :=
  Nat.rec (motive := fun _ => Int32 → Int32 → Int32 → (Nat → Int32) → (Nat → Int32) → (Nat → Int32) → (Nat → Int32) → (Nat → Int32) → (Nat → Int32) → (Nat → Int32) → (Nat → Int32) → Int32 → Int32 → Int32 → Option (Unit × Int32 × Int32 × Int32 × (Nat → Int32) × (Nat → Int32) × (Nat → Int32) × (Nat → Int32) × (Nat → Int32) × (Nat → Int32) × (Nat → Int32) × (Nat → Int32))) (fun _ _ _ _ _ _ _ _ _ _ _ _ _ _ => none) (fun _ k120 t_at t_fault t_from t_items t_letters t_lines t_names t_numbers t_parts t_sorts t_values v1 v3 v4 =>
    if v4 = (0 : Int32) then
      (xf_rf_oneLine_210 t_size t_text n t_at t_fault t_from t_items t_letters t_lines t_names t_numbers t_parts t_sorts t_values v1 v3)
    else
      if t_fault = ((-1 : Int32)) then
        ((xf_rf_peek t_size t_text n t_at).bind fun q790 =>
        if v3 = ((8 : Int32)) then
          ((xf_rf_wrongAt t_fault q790.2).bind fun q792 =>
          k120 q790.2 q792.2 t_from t_items t_letters t_lines t_names t_numbers t_parts t_sorts t_values v1 v3 v4)
        else
          (xf_rf_argument1 t_size t_text n q790.2 t_fault t_from t_items t_sorts t_values ((((8 : Int32)) * v1) + v3)).bind fun q888 =>
          if q888.2.2.1 = ((-1 : Int32)) then
            ((xf_rf_peek t_size t_text n q888.2.1).bind fun q890 =>
            if q890.1 = ((44 : Int32)) then
              (xf_rf_oneLine_190 t_size t_text k120 n q890.2 q888.2.2.1 q888.2.2.2.1 q888.2.2.2.2.1 t_letters t_lines t_names t_numbers t_parts q888.2.2.2.2.2.1 q888.2.2.2.2.2.2 v1 (v3 + (1 : Int32)) ((1 : Int32)))
            else
              xf_rf_oneLine_189 t_size t_text k120 n q890.2 q888.2.2.1 q888.2.2.2.1 q888.2.2.2.2.1 t_letters t_lines t_names t_numbers t_parts q888.2.2.2.2.2.1 q888.2.2.2.2.2.2 v1 (v3 + (1 : Int32)))
          else
            xf_rf_oneLine_189 t_size t_text k120 n q888.2.1 q888.2.2.1 q888.2.2.2.1 q888.2.2.2.2.1 t_letters t_lines t_names t_numbers t_parts q888.2.2.2.2.2.1 q888.2.2.2.2.2.2 v1 (v3 + (1 : Int32)))
      else
        xf_rf_oneLine_210 t_size t_text n t_at t_fault t_from t_items t_letters t_lines t_names t_numbers t_parts t_sorts t_values v1 v3) N
def xf_rf_oneLine_78 (t_size : Int32) (t_text : (Nat → Int32)) (n : Nat) (t_at : Int32) (t_fault : Int32) (t_from : Int32) (t_items : (Nat → Int32)) (t_letters : (Nat → Int32)) (t_lines : (Nat → Int32)) (t_names : (Nat → Int32)) (t_numbers : (Nat → Int32)) (t_parts : (Nat → Int32)) (t_sorts : (Nat → Int32)) (t_values : (Nat → Int32)) (v1 : Int32) (v2 : Int32) : Option (Unit × Int32 × Int32 × Int32 × (Nat → Int32) × (Nat → Int32) × (Nat → Int32) × (Nat → Int32) × (Nat → Int32) × (Nat → Int32) × (Nat → Int32) × (Nat → Int32)) :=
  if xr_in v1 120 = true then
    ((xf_rf_sign t_size t_text n t_at t_fault ((61 : Int32))).bind fun q769 =>
    (xf_rf_name t_size t_text 960 n t_names q769.2.1 q769.2.2 t_from (((8 : Int32)) * v1)).bind fun q782 =>
    if xr_in v1 120 = true then
      ((xf_rf_sign t_size t_text n q782.2.2.1 q782.2.2.2.1 ((40 : Int32))).bind fun q784 =>
      xf_rf_oneLine_120 t_size t_text n n q784.2.1 q784.2.2 q782.2.2.2.2 t_items (upd t_letters v1.toNatClampNeg q782.1) t_lines q782.2.1 (upd t_numbers v1.toNatClampNeg v2) t_parts t_sorts t_values v1 ((0 : Int32)) ((1 : Int32)))
    else none)
  else none
def xf_rf_oneLine_70 (t_size : Int32) (t_text : (Nat → Int32)) (n : Nat) (t_at : Int32) (t_fault : Int32) (t_from : Int32) (t_items : (Nat → Int32)) (t_letters : (Nat → Int32)) (t_lines : (Nat → Int32)) (t_names : (Nat → Int32)) (t_numbers : (Nat → Int32)) (t_parts : (Nat → Int32)) (t_sorts : (Nat → Int32)) (t_values : (Nat → Int32)) (v1 : Int32) (v2 : Int32) : Option (Unit × Int32 × Int32 × Int32 × (Nat → Int32) × (Nat → Int32) × (Nat → Int32) × (Nat → Int32) × (Nat → Int32) × (Nat → Int32) × (Nat → Int32) × (Nat → Int32)) :=
  (xf_rf_wrongAt t_fault t_from).bind fun q767 =>
  xf_rf_oneLine_78 t_size t_text n t_at q767.2 t_from t_items t_letters t_lines t_names t_numbers t_parts t_sorts t_values v1 v2
def xf_rf_oneLine (t_size : Int32) (t_text : (Nat → Int32)) (n : Nat) (t_at : Int32) (t_fault : Int32) (t_from : Int32) (t_items : (Nat → Int32)) (t_letters : (Nat → Int32)) (t_lines : (Nat → Int32)) (t_names : (Nat → Int32)) (t_numbers : (Nat → Int32)) (t_parts : (Nat → Int32)) (t_sorts : (Nat → Int32)) (t_values : (Nat → Int32)) : Option (Unit × Int32 × Int32 × Int32 × (Nat → Int32) × (Nat → Int32) × (Nat → Int32) × (Nat → Int32) × (Nat → Int32) × (Nat → Int32) × (Nat → Int32) × (Nat → Int32)) :=
  (xf_rf_peek t_size t_text n t_at).bind fun q745 =>
  if q745.1 = ((35 : Int32)) then
    (if (t_lines ((1 : Int32)).toNatClampNeg) = ((40 : Int32)) then
      (xf_rf_oneLine_20 t_size t_text n q745.2 t_fault t_from t_items t_letters t_lines t_names t_numbers t_parts t_sorts t_values)
    else
      (xf_rf_digits t_size t_text n (q745.2 + ((1 : Int32))) t_fault t_from ((3 : Int32)) ((-1 : Int32))).bind fun q765 =>
      if q765.1 = (0 : Int32) then
        (xf_rf_oneLine_70 t_size t_text n q765.2.1 q765.2.2.1 q765.2.2.2 t_items t_letters t_lines t_names t_numbers t_parts t_sorts t_values (((40 : Int32)) + (t_lines ((1 : Int32)).toNatClampNeg)) q765.1)
      else
        (xf_rf_find t_lines t_numbers n ((1 : Int32)) q765.1).bind fun q893 =>
        if q893 = ((-1 : Int32)) then
          (xf_rf_oneLine_78 t_size t_text n q765.2.1 q765.2.2.1 q765.2.2.2 t_items t_letters t_lines t_names t_numbers t_parts t_sorts t_values (((40 : Int32)) + (t_lines ((1 : Int32)).toNatClampNeg)) q765.1)
        else
          xf_rf_oneLine_70 t_size t_text n q765.2.1 q765.2.2.1 q765.2.2.2 t_items t_letters t_lines t_names t_numbers t_parts t_sorts t_values (((40 : Int32)) + (t_lines ((1 : Int32)).toNatClampNeg)) q765.1)
  else
    xf_rf_oneLine_20 t_size t_text n q745.2 t_fault t_from t_items t_letters t_lines t_names t_numbers t_parts t_sorts t_values
def xf_rf_read_22 (t_text : (Nat → Int32)) (n : Nat) (N : Nat) : Int32 → Int32 → Int32 → (Nat → Int32) → (Nat → Int32) → (Nat → Int32) → (Nat → Int32) → (Nat → Int32) → (Nat → Int32) → Int32 → (Nat → Int32) → Int32 → (Nat → Int32) → Option (Int32 × Int32 × Int32 × Int32 × (Nat → Int32) × (Nat → Int32) × (Nat → Int32) × (Nat → Int32) × (Nat → Int32) × (Nat → Int32) × Int32 × (Nat → Int32) × Int32 × (Nat → Int32)) :=
  Nat.rec (motive := fun _ => Int32 → Int32 → Int32 → (Nat → Int32) → (Nat → Int32) → (Nat → Int32) → (Nat → Int32) → (Nat → Int32) → (Nat → Int32) → Int32 → (Nat → Int32) → Int32 → (Nat → Int32) → Option (Int32 × Int32 × Int32 × Int32 × (Nat → Int32) × (Nat → Int32) × (Nat → Int32) × (Nat → Int32) × (Nat → Int32) × (Nat → Int32) × Int32 × (Nat → Int32) × Int32 × (Nat → Int32))) (fun _ _ _ _ _ _ _ _ _ _ _ _ _ => none) (fun _ k22 t_at t_fault t_from t_items t_letters t_lines t_names t_numbers t_parts t_size t_sorts t_thrown t_values =>
    if t_fault = ((-1 : Int32)) then
      ((xf_rf_peek t_size t_text n t_at).bind fun q695 =>
      if q695.1 = (0 : Int32) then
        (xf_rf_read_44 t_text n q695.2 t_fault t_from t_items t_letters t_lines t_names t_numbers t_parts t_size t_sorts t_thrown t_values)
      else
        (xf_rf_oneLine t_size t_text n q695.2 t_fault t_from t_items t_letters t_lines t_names t_numbers t_parts t_sorts t_values).bind fun q895 =>
        k22 q895.2.1 q895.2.2.1 q895.2.2.2.1 q895.2.2.2.2.1 q895.2.2.2.2.2.1 q895.2.2.2.2.2.2.1 q895.2.2.2.2.2.2.2.1 q895.2.2.2.2.2.2.2.2.1 q895.2.2.2.2.2.2.2.2.2.1 t_size q895.2.2.2.2.2.2.2.2.2.2.1 t_thrown q895.2.2.2.2.2.2.2.2.2.2.2)
    else
      xf_rf_read_44 t_text n t_at t_fault t_from t_items t_letters t_lines t_names t_numbers t_parts t_size t_sorts t_thrown t_values) N
def xf_rf_read (t_text : (Nat → Int32)) (n : Nat) (t_at : Int32) (t_fault : Int32) (t_from : Int32) (t_items : (Nat → Int32)) (t_letters : (Nat → Int32)) (t_lines : (Nat → Int32)) (t_names : (Nat → Int32)) (t_numbers : (Nat → Int32)) (t_parts : (Nat → Int32)) (t_size : Int32) (t_sorts : (Nat → Int32)) (t_thrown : Int32) (t_values : (Nat → Int32)) : Option (Int32 × Int32 × Int32 × Int32 × (Nat → Int32) × (Nat → Int32) × (Nat → Int32) × (Nat → Int32) × (Nat → Int32) × (Nat → Int32) × Int32 × (Nat → Int32) × Int32 × (Nat → Int32)) :=
  xf_rf_read_22 t_text n n ((0 : Int32)) ((-1 : Int32)) t_from t_items t_letters (upd t_lines ((1 : Int32)).toNatClampNeg (((0 : Int32)))) t_names t_numbers t_parts t_size t_sorts ((0 : Int32)) t_values
def xf_rf_put_20 (t_out : (Nat → Int32)) (t_written : Int32) : Option (Unit × (Nat → Int32) × Int32) :=
  some ((), t_out, t_written + ((1 : Int32)))
def xf_rf_put (t_out : (Nat → Int32)) (t_written : Int32) (a1 : Int32) : Option (Unit × (Nat → Int32) × Int32) :=
  if t_written < ((1200 : Int32)) then
    (if xr_in t_written 1200 = true then
      (xf_rf_put_20 (upd t_out t_written.toNatClampNeg a1) t_written)
    else none)
  else
    xf_rf_put_20 t_out t_written
def xf_rf_putNumber_39 (n : Nat) (N : Nat) : (Nat → Int32) → Int32 → Int32 → Int32 → Option (Unit × (Nat → Int32) × Int32) :=
  Nat.rec (motive := fun _ => (Nat → Int32) → Int32 → Int32 → Int32 → Option (Unit × (Nat → Int32) × Int32)) (fun _ _ _ _ => none) (fun _ k39 t_out t_written v2 v3 =>
    if (0 : Int32) < v3 then
      (if v3 = (0 : Int32) then none else
      if ((10 : Int32)) = (0 : Int32) then none else
      (xf_rf_put t_out t_written (((48 : Int32)) + ((v2 / v3) - (v2 / v3) / ((10 : Int32)) * ((10 : Int32))))).bind fun q909 =>
      if ((10 : Int32)) = (0 : Int32) then none else
      k39 q909.2.1 q909.2.2 v2 (v3 / ((10 : Int32))))
    else
      some ((), t_out, t_written)) N
def xf_rf_putNumber_23 (n : Nat) (N : Nat) : (Nat → Int32) → Int32 → Int32 → Int32 → Option (Unit × (Nat → Int32) × Int32) :=
  Nat.rec (motive := fun _ => (Nat → Int32) → Int32 → Int32 → Int32 → Option (Unit × (Nat → Int32) × Int32)) (fun _ _ _ _ => none) (fun _ k23 t_out t_written v2 v3 =>
    if v3 = (0 : Int32) then none else
    if ((9 : Int32)) < (v2 / v3) then
      (k23 t_out t_written v2 (((10 : Int32)) * v3))
    else
      xf_rf_putNumber_39 n n t_out t_written v2 v3) N
def xf_rf_putNumber_20 (n : Nat) (t_out : (Nat → Int32)) (t_written : Int32) (s0 : Int32) : Option (Unit × (Nat → Int32) × Int32) :=
  xf_rf_putNumber_23 n n t_out t_written s0 ((1 : Int32))
def xf_rf_putNumber_10 (n : Nat) (t_out : (Nat → Int32)) (t_written : Int32) (v1 : Int32) : Option (Unit × (Nat → Int32) × Int32) :=
  if v1 < (0 : Int32) then
    (xf_rf_putNumber_20 n t_out t_written (-v1))
  else
    xf_rf_putNumber_20 n t_out t_written v1
def xf_rf_putNumber (n : Nat) (t_out : (Nat → Int32)) (t_written : Int32) (a1 : Int32) : Option (Unit × (Nat → Int32) × Int32) :=
  if a1 < (0 : Int32) then
    ((xf_rf_put t_out t_written ((45 : Int32))).bind fun q902 =>
    xf_rf_putNumber_10 n q902.2.1 q902.2.2 a1)
  else
    xf_rf_putNumber_10 n t_out t_written a1
def xf_rf_putArgument_269 (t_items : (Nat → Int32)) (t_sorts : (Nat → Int32)) (t_values : (Nat → Int32)) (n : Nat) (t_out : (Nat → Int32)) (t_written : Int32) : Option (Unit × (Nat → Int32) × Int32) :=
  some ((), t_out, t_written)
def xf_rf_putArgument_107 (t_items : (Nat → Int32)) (t_sorts : (Nat → Int32)) (t_values : (Nat → Int32)) (k69 : (Nat → Int32) → Int32 → Int32 → Int32 → Option (Unit × (Nat → Int32) × Int32)) (n : Nat) (t_out : (Nat → Int32)) (t_written : Int32) (v1 : Int32) (v2 : Int32) : Option (Unit × (Nat → Int32) × Int32) :=
  k69 t_out t_written v1 (v2 + (1 : Int32))
def xf_rf_putArgument_69 (t_items : (Nat → Int32)) (t_sorts : (Nat → Int32)) (t_values : (Nat → Int32)) (n : Nat) (N : Nat) : (Nat → Int32) → Int32 → Int32 → Int32 → Option (Unit × (Nat → Int32) × Int32) :=
  Nat.rec (motive := fun _ => (Nat → Int32) → Int32 → Int32 → Int32 → Option (Unit × (Nat → Int32) × Int32)) (fun _ _ _ _ => none) (fun _ k69 t_out t_written v1 v2 =>
    if xr_in v1 960 = true then
      (if v2 < (t_values v1.toNatClampNeg) then
        (if xr_in ((((20 : Int32)) * v1) + v2) 19200 = true then
          ((xf_rf_put t_out t_written (t_items ((((20 : Int32)) * v1) + v2).toNatClampNeg)).bind fun q931 =>
          if (t_items ((((20 : Int32)) * v1) + v2).toNatClampNeg) = ((39 : Int32)) then
            ((xf_rf_put q931.2.1 q931.2.2 (t_items ((((20 : Int32)) * v1) + v2).toNatClampNeg)).bind fun q933 =>
            xf_rf_putArgument_107 t_items t_sorts t_values k69 n q933.2.1 q933.2.2 v1 v2)
          else
            xf_rf_putArgument_107 t_items t_sorts t_values k69 n q931.2.1 q931.2.2 v1 v2)
        else none)
      else
        (xf_rf_put t_out t_written ((39 : Int32))).bind fun q934 =>
        xf_rf_putArgument_269 t_items t_sorts t_values n q934.2.1 q934.2.2)
    else none) N
def xf_rf_putArgument_242 (t_items : (Nat → Int32)) (t_sorts : (Nat → Int32)) (t_values : (Nat → Int32)) (k206 : (Nat → Int32) → Int32 → Int32 → Int32 → Option (Unit × (Nat → Int32) × Int32)) (n : Nat) (t_out : (Nat → Int32)) (t_written : Int32) (v1 : Int32) (v2 : Int32) : Option (Unit × (Nat → Int32) × Int32) :=
  if xr_in ((((20 : Int32)) * v1) + v2) 19200 = true then
    ((xf_rf_putNumber n t_out t_written (t_items ((((20 : Int32)) * v1) + v2).toNatClampNeg)).bind fun q949 =>
    k206 q949.2.1 q949.2.2 v1 (v2 + (1 : Int32)))
  else none
def xf_rf_putArgument_226 (t_items : (Nat → Int32)) (t_sorts : (Nat → Int32)) (t_values : (Nat → Int32)) (k206 : (Nat → Int32) → Int32 → Int32 → Int32 → Option (Unit × (Nat → Int32) × Int32)) (n : Nat) (t_out : (Nat → Int32)) (t_written : Int32) (v1 : Int32) (v2 : Int32) : Option (Unit × (Nat → Int32) × Int32) :=
  if xr_in v1 960 = true then
    (if (t_sorts v1.toNatClampNeg) = ((4 : Int32)) then
      ((xf_rf_put t_out t_written ((35 : Int32))).bind fun q947 =>
      xf_rf_putArgument_242 t_items t_sorts t_values k206 n q947.2.1 q947.2.2 v1 v2)
    else
      xf_rf_putArgument_242 t_items t_sorts t_values k206 n t_out t_written v1 v2)
  else none
def xf_rf_putArgument_206 (t_items : (Nat → Int32)) (t_sorts : (Nat → Int32)) (t_values : (Nat → Int32)) (n : Nat) (N : Nat) : (Nat → Int32) → Int32 → Int32 → Int32 → Option (Unit × (Nat → Int32) × Int32) :=
  Nat.rec (motive := fun _ => (Nat → Int32) → Int32 → Int32 → Int32 → Option (Unit × (Nat → Int32) × Int32)) (fun _ _ _ _ => none) (fun _ k206 t_out t_written v1 v2 =>
    if xr_in v1 960 = true then
      (if v2 < (t_values v1.toNatClampNeg) then
        (if (0 : Int32) < v2 then
          ((xf_rf_put t_out t_written ((44 : Int32))).bind fun q944 =>
          xf_rf_putArgument_226 t_items t_sorts t_values k206 n q944.2.1 q944.2.2 v1 v2)
        else
          xf_rf_putArgument_226 t_items t_sorts t_values k206 n t_out t_written v1 v2)
      else
        (xf_rf_put t_out t_written ((41 : Int32))).bind fun q950 =>
        xf_rf_putArgument_269 t_items t_sorts t_values n q950.2.1 q950.2.2)
    else none) N
def xf_rf_putArgument_198 (t_items : (Nat → Int32)) (t_sorts : (Nat → Int32)) (t_values : (Nat → Int32)) (n : Nat) (t_out : (Nat → Int32)) (t_written : Int32) (v1 : Int32) : Option (Unit × (Nat → Int32) × Int32) :=
  (xf_rf_put t_out t_written ((40 : Int32))).bind fun q940 =>
  xf_rf_putArgument_206 t_items t_sorts t_values n n q940.2.1 q940.2.2 v1 ((0 : Int32))
def xf_rf_putArgument_149 (t_items : (Nat → Int32)) (t_sorts : (Nat → Int32)) (t_values : (Nat → Int32)) (n : Nat) (N : Nat) : (Nat → Int32) → Int32 → Int32 → Int32 → Option (Unit × (Nat → Int32) × Int32) :=
  Nat.rec (motive := fun _ => (Nat → Int32) → Int32 → Int32 → Int32 → Option (Unit × (Nat → Int32) × Int32)) (fun _ _ _ _ => none) (fun _ k149 t_out t_written v1 v2 =>
    if xr_in v1 960 = true then
      (if v2 < (t_values v1.toNatClampNeg) then
        (if xr_in ((((20 : Int32)) * v1) + v2) 19200 = true then
          ((xf_rf_put t_out t_written (t_items ((((20 : Int32)) * v1) + v2).toNatClampNeg)).bind fun q957 =>
          k149 q957.2.1 q957.2.2 v1 (v2 + (1 : Int32)))
        else none)
      else
        (xf_rf_put t_out t_written ((46 : Int32))).bind fun q958 =>
        xf_rf_putArgument_269 t_items t_sorts t_values n q958.2.1 q958.2.2)
    else none) N
def xf_rf_putArgument (t_items : (Nat → Int32)) (t_sorts : (Nat → Int32)) (t_values : (Nat → Int32)) (n : Nat) (t_out : (Nat → Int32)) (t_written : Int32) (a1 : Int32) : Option (Unit × (Nat → Int32) × Int32) :=
  if xr_in a1 960 = true then
    (if (t_sorts a1.toNatClampNeg) = (0 : Int32) then
      (if xr_in a1 960 = true then
        ((xf_rf_putNumber n t_out t_written (t_values a1.toNatClampNeg)).bind fun q925 =>
        xf_rf_putArgument_269 t_items t_sorts t_values n q925.2.1 q925.2.2)
      else none)
    else
      if (t_sorts a1.toNatClampNeg) = (1 : Int32) then
        ((xf_rf_put t_out t_written ((39 : Int32))).bind fun q927 =>
        xf_rf_putArgument_69 t_items t_sorts t_values n n q927.2.1 q927.2.2 a1 ((0 : Int32)))
      else
        if (t_sorts a1.toNatClampNeg) = (2 : Int32) then
          ((xf_rf_put t_out t_written ((35 : Int32))).bind fun q936 =>
          if xr_in a1 960 = true then
            ((xf_rf_putNumber n q936.2.1 q936.2.2 (t_values a1.toNatClampNeg)).bind fun q938 =>
            xf_rf_putArgument_269 t_items t_sorts t_values n q938.2.1 q938.2.2)
          else none)
        else
          if (t_sorts a1.toNatClampNeg) = (3 : Int32) then
            (xf_rf_putArgument_198 t_items t_sorts t_values n t_out t_written a1)
          else
            if (t_sorts a1.toNatClampNeg) = (4 : Int32) then
              (xf_rf_putArgument_198 t_items t_sorts t_values n t_out t_written a1)
            else
              if (t_sorts a1.toNatClampNeg) = (5 : Int32) then
                ((xf_rf_put t_out t_written ((46 : Int32))).bind fun q953 =>
                xf_rf_putArgument_149 t_items t_sorts t_values n n q953.2.1 q953.2.2 a1 ((0 : Int32)))
              else
                if (t_sorts a1.toNatClampNeg) = (6 : Int32) then
                  ((xf_rf_put t_out t_written ((36 : Int32))).bind fun q960 =>
                  xf_rf_putArgument_269 t_items t_sorts t_values n q960.2.1 q960.2.2)
                else
                  xf_rf_putArgument_198 t_items t_sorts t_values n t_out t_written a1)
  else none
def xf_rf_write_105 (t_items : (Nat → Int32)) (t_letters : (Nat → Int32)) (t_lines : (Nat → Int32)) (t_names : (Nat → Int32)) (t_numbers : (Nat → Int32)) (t_parts : (Nat → Int32)) (t_sorts : (Nat → Int32)) (t_values : (Nat → Int32)) (k12 : (Nat → Int32) → Int32 → (Nat → Int32) → Int32 → Int32 → Int32 → Option (Int32 × (Nat → Int32) × Int32 × (Nat → Int32) × Int32 × Int32)) (k85 : (Nat → Int32) → Int32 → (Nat → Int32) → Int32 → Int32 → Int32 → Int32 → Option (Int32 × (Nat → Int32) × Int32 × (Nat → Int32) × Int32 × Int32)) (n : Nat) (t_out : (Nat → Int32)) (t_size : Int32) (t_text : (Nat → Int32)) (t_thrown : Int32) (t_written : Int32) (v1 : Int32) (v2 : Int32) : Option (Int32 × (Nat → Int32) × Int32 × (Nat → Int32) × Int32 × Int32) :=
  (xf_rf_putArgument t_items t_sorts t_values n t_out t_written ((((8 : Int32)) * v1) + v2)).bind fun q961 =>
  k85 q961.2.1 t_size t_text t_thrown q961.2.2 v1 (v2 + (1 : Int32))
def xf_rf_write_85 (t_items : (Nat → Int32)) (t_letters : (Nat → Int32)) (t_lines : (Nat → Int32)) (t_names : (Nat → Int32)) (t_numbers : (Nat → Int32)) (t_parts : (Nat → Int32)) (t_sorts : (Nat → Int32)) (t_values : (Nat → Int32)) (k12 : (Nat → Int32) → Int32 → (Nat → Int32) → Int32 → Int32 → Int32 → Option (Int32 × (Nat → Int32) × Int32 × (Nat → Int32) × Int32 × Int32)) (n : Nat) (N : Nat) : (Nat → Int32) → Int32 → (Nat → Int32) → Int32 → Int32 → Int32 → Int32 → Option (Int32 × (Nat → Int32) × Int32 × (Nat → Int32) × Int32 × Int32) :=
  Nat.rec (motive := fun _ => (Nat → Int32) → Int32 → (Nat → Int32) → Int32 → Int32 → Int32 → Int32 → Option (Int32 × (Nat → Int32) × Int32 × (Nat → Int32) × Int32 × Int32)) (fun _ _ _ _ _ _ _ => none) (fun _ k85 t_out t_size t_text t_thrown t_written v1 v2 =>
    if xr_in v1 120 = true then
      (if v2 < (t_parts v1.toNatClampNeg) then
        (if (0 : Int32) < v2 then
          ((xf_rf_put t_out t_written ((44 : Int32))).bind fun q921 =>
          xf_rf_write_105 t_items t_letters t_lines t_names t_numbers t_parts t_sorts t_values k12 k85 n q921.2.1 t_size t_text t_thrown q921.2.2 v1 v2)
        else
          xf_rf_write_105 t_items t_letters t_lines t_names t_numbers t_parts t_sorts t_values k12 k85 n t_out t_size t_text t_thrown t_written v1 v2)
      else
        (xf_rf_put t_out t_written ((41 : Int32))).bind fun q962 =>
        (xf_rf_put q962.2.1 q962.2.2 ((59 : Int32))).bind fun q963 =>
        k12 q963.2.1 t_size t_text t_thrown q963.2.2 (v1 + (1 : Int32)))
    else none) N
def xf_rf_write_46 (t_items : (Nat → Int32)) (t_letters : (Nat → Int32)) (t_lines : (Nat → Int32)) (t_names : (Nat → Int32)) (t_numbers : (Nat → Int32)) (t_parts : (Nat → Int32)) (t_sorts : (Nat → Int32)) (t_values : (Nat → Int32)) (k12 : (Nat → Int32) → Int32 → (Nat → Int32) → Int32 → Int32 → Int32 → Option (Int32 × (Nat → Int32) × Int32 × (Nat → Int32) × Int32 × Int32)) (n : Nat) (N : Nat) : (Nat → Int32) → Int32 → (Nat → Int32) → Int32 → Int32 → Int32 → Int32 → Option (Int32 × (Nat → Int32) × Int32 × (Nat → Int32) × Int32 × Int32) :=
  Nat.rec (motive := fun _ => (Nat → Int32) → Int32 → (Nat → Int32) → Int32 → Int32 → Int32 → Int32 → Option (Int32 × (Nat → Int32) × Int32 × (Nat → Int32) × Int32 × Int32)) (fun _ _ _ _ _ _ _ => none) (fun _ k46 t_out t_size t_text t_thrown t_written v1 v2 =>
    if xr_in v1 120 = true then
      (if v2 < (t_letters v1.toNatClampNeg) then
        (if xr_in ((((8 : Int32)) * v1) + v2) 960 = true then
          ((xf_rf_put t_out t_written (t_names ((((8 : Int32)) * v1) + v2).toNatClampNeg)).bind fun q916 =>
          k46 q916.2.1 t_size t_text t_thrown q916.2.2 v1 (v2 + (1 : Int32)))
        else none)
      else
        (xf_rf_put t_out t_written ((40 : Int32))).bind fun q917 =>
        xf_rf_write_85 t_items t_letters t_lines t_names t_numbers t_parts t_sorts t_values k12 n n q917.2.1 t_size t_text t_thrown q917.2.2 v1 ((0 : Int32)))
    else none) N
def xf_rf_write_154 (t_items : (Nat → Int32)) (t_letters : (Nat → Int32)) (t_lines : (Nat → Int32)) (t_names : (Nat → Int32)) (t_numbers : (Nat → Int32)) (t_parts : (Nat → Int32)) (t_sorts : (Nat → Int32)) (t_values : (Nat → Int32)) (n : Nat) (N : Nat) : (Nat → Int32) → Int32 → (Nat → Int32) → Int32 → Int32 → Int32 → Option (Int32 × (Nat → Int32) × Int32 × (Nat → Int32) × Int32 × Int32) :=
  Nat.rec (motive := fun _ => (Nat → Int32) → Int32 → (Nat → Int32) → Int32 → Int32 → Int32 → Option (Int32 × (Nat → Int32) × Int32 × (Nat → Int32) × Int32 × Int32)) (fun _ _ _ _ _ _ => none) (fun _ k154 t_out t_size t_text t_thrown t_written v1 =>
    if v1 < t_written then
      (if xr_in v1 1200 = true then
        (if xr_in v1 1200 = true then
          (k154 t_out t_size (upd t_text v1.toNatClampNeg ((t_out v1.toNatClampNeg))) t_thrown t_written (v1 + (1 : Int32)))
        else none)
      else none)
    else
      some (t_written, t_out, t_written, t_text, t_thrown, t_written)) N
def xf_rf_write_12 (t_items : (Nat → Int32)) (t_letters : (Nat → Int32)) (t_lines : (Nat → Int32)) (t_names : (Nat → Int32)) (t_numbers : (Nat → Int32)) (t_parts : (Nat → Int32)) (t_sorts : (Nat → Int32)) (t_values : (Nat → Int32)) (n : Nat) (N : Nat) : (Nat → Int32) → Int32 → (Nat → Int32) → Int32 → Int32 → Int32 → Option (Int32 × (Nat → Int32) × Int32 × (Nat → Int32) × Int32 × Int32) :=
  Nat.rec (motive := fun _ => (Nat → Int32) → Int32 → (Nat → Int32) → Int32 → Int32 → Int32 → Option (Int32 × (Nat → Int32) × Int32 × (Nat → Int32) × Int32 × Int32)) (fun _ _ _ _ _ _ => none) (fun _ k12 t_out t_size t_text t_thrown t_written v1 =>
    if v1 < (t_lines ((0 : Int32)).toNatClampNeg) then
      ((xf_rf_put t_out t_written ((35 : Int32))).bind fun q899 =>
      if xr_in v1 120 = true then
        ((xf_rf_putNumber n q899.2.1 q899.2.2 (t_numbers v1.toNatClampNeg)).bind fun q911 =>
        (xf_rf_put q911.2.1 q911.2.2 ((61 : Int32))).bind fun q912 =>
        xf_rf_write_46 t_items t_letters t_lines t_names t_numbers t_parts t_sorts t_values k12 n n q912.2.1 t_size t_text t_thrown q912.2.2 v1 ((0 : Int32)))
      else none)
    else
      if ((1200 : Int32)) < t_written then
        (some ((-2 : Int32), t_out, t_size, t_text, t_thrown, t_written))
      else
        xf_rf_write_154 t_items t_letters t_lines t_names t_numbers t_parts t_sorts t_values n n t_out t_size t_text t_thrown t_written ((0 : Int32))) N
def xf_rf_write (t_items : (Nat → Int32)) (t_letters : (Nat → Int32)) (t_lines : (Nat → Int32)) (t_names : (Nat → Int32)) (t_numbers : (Nat → Int32)) (t_parts : (Nat → Int32)) (t_sorts : (Nat → Int32)) (t_values : (Nat → Int32)) (n : Nat) (t_out : (Nat → Int32)) (t_size : Int32) (t_text : (Nat → Int32)) (t_thrown : Int32) (t_written : Int32) : Option (Int32 × (Nat → Int32) × Int32 × (Nat → Int32) × Int32 × Int32) :=
  xf_rf_write_12 t_items t_letters t_lines t_names t_numbers t_parts t_sorts t_values n n t_out t_size t_text ((0 : Int32)) ((0 : Int32)) ((0 : Int32))
def xf_rf_keep_19 (n : Nat) (N : Nat) : (Nat → Int32) → (Nat → Int32) → (Nat → Int32) → (Nat → Int32) → (Nat → Int32) → (Nat → Int32) → (Nat → Int32) → Int32 → (Nat → Int32) → Int32 → Option (Int32 × (Nat → Int32) × (Nat → Int32) × (Nat → Int32) × (Nat → Int32) × (Nat → Int32) × (Nat → Int32) × (Nat → Int32) × Int32 × (Nat → Int32)) :=
  Nat.rec (motive := fun _ => (Nat → Int32) → (Nat → Int32) → (Nat → Int32) → (Nat → Int32) → (Nat → Int32) → (Nat → Int32) → (Nat → Int32) → Int32 → (Nat → Int32) → Int32 → Option (Int32 × (Nat → Int32) × (Nat → Int32) × (Nat → Int32) × (Nat → Int32) × (Nat → Int32) × (Nat → Int32) × (Nat → Int32) × Int32 × (Nat → Int32))) (fun _ _ _ _ _ _ _ _ _ _ => none) (fun _ k19 t_items t_letters t_lines t_names t_numbers t_parts t_sorts t_thrown t_values v1 =>
    if v1 < (t_lines ((0 : Int32)).toNatClampNeg) then
      ((xf_rf_copy n t_items t_letters t_names t_numbers t_parts t_sorts t_values (((80 : Int32)) + v1) v1).bind fun q969 =>
      k19 q969.2.1 q969.2.2.1 t_lines q969.2.2.2.1 q969.2.2.2.2.1 q969.2.2.2.2.2.1 q969.2.2.2.2.2.2.1 t_thrown q969.2.2.2.2.2.2.2 (v1 + (1 : Int32)))
    else
      some (t_lines ((2 : Int32)).toNatClampNeg, t_items, t_letters, t_lines, t_names, t_numbers, t_parts, t_sorts, t_thrown, t_values)) N
def xf_rf_keep (n : Nat) (t_items : (Nat → Int32)) (t_letters : (Nat → Int32)) (t_lines : (Nat → Int32)) (t_names : (Nat → Int32)) (t_numbers : (Nat → Int32)) (t_parts : (Nat → Int32)) (t_sorts : (Nat → Int32)) (t_thrown : Int32) (t_values : (Nat → Int32)) : Option (Int32 × (Nat → Int32) × (Nat → Int32) × (Nat → Int32) × (Nat → Int32) × (Nat → Int32) × (Nat → Int32) × (Nat → Int32) × Int32 × (Nat → Int32)) :=
  xf_rf_keep_19 n n t_items t_letters (upd t_lines ((2 : Int32)).toNatClampNeg ((t_lines ((0 : Int32)).toNatClampNeg))) t_names t_numbers t_parts t_sorts ((0 : Int32)) t_values ((0 : Int32))
def xf_rf_line_44 (t_lines : (Nat → Int32)) (t_numbers : (Nat → Int32)) (t_thrown : Int32) (s0 : Int32) : Option (Int32 × Int32) :=
  some (s0, t_thrown)
def xf_rf_line_15 (t_lines : (Nat → Int32)) (t_numbers : (Nat → Int32)) (t_thrown : Int32) (v1 : Int32) (s1 : Int32) : Option (Int32 × Int32) :=
  (xf_rf_fails t_thrown s1 ((1 : Int32))).bind fun q971 =>
  if q971.1 = (0 : Int32) then
    (if v1 < (t_lines ((0 : Int32)).toNatClampNeg) then
      (if xr_in v1 120 = true then
        (xf_rf_line_44 t_lines t_numbers q971.2 (t_numbers v1.toNatClampNeg))
      else none)
    else
      xf_rf_line_44 t_lines t_numbers q971.2 ((-1 : Int32)))
  else
    some ((0 : Int32), q971.2)
def xf_rf_line (t_lines : (Nat → Int32)) (t_numbers : (Nat → Int32)) (t_thrown : Int32) (a1 : Int32) : Option (Int32 × Int32) :=
  if a1 < (0 : Int32) then
    (xf_rf_line_15 t_lines t_numbers ((0 : Int32)) a1 ((1 : Int32)))
  else
    xf_rf_line_15 t_lines t_numbers ((0 : Int32)) a1 ((0 : Int32))
def xf_rf_references_34 (t_sorts : (Nat → Int32)) (t_values : (Nat → Int32)) (s0 : Int32) : Option (Int32) :=
  some s0
def xf_rf_references (t_sorts : (Nat → Int32)) (t_values : (Nat → Int32)) (a1 : Int32) : Option (Int32) :=
  if xr_in a1 960 = true then
    (if (t_sorts a1.toNatClampNeg) = ((2 : Int32)) then
      (xf_rf_references_34 t_sorts t_values ((1 : Int32)))
    else
      if xr_in a1 960 = true then
        (if (t_sorts a1.toNatClampNeg) = ((4 : Int32)) then
          (if xr_in a1 960 = true then
            (xf_rf_references_34 t_sorts t_values (t_values a1.toNatClampNeg))
          else none)
        else
          xf_rf_references_34 t_sorts t_values ((0 : Int32)))
      else none)
  else none
def xf_rf_referred_32 (t_items : (Nat → Int32)) (t_lines : (Nat → Int32)) (t_numbers : (Nat → Int32)) (t_sorts : (Nat → Int32)) (t_values : (Nat → Int32)) (n : Nat) (s1 : Int32) (s2 : Int32) : Option (Int32) :=
  (xf_rf_find t_lines t_numbers n s1 s2).bind fun q994 =>
  some q994
def xf_rf_referred (t_items : (Nat → Int32)) (t_lines : (Nat → Int32)) (t_numbers : (Nat → Int32)) (t_sorts : (Nat → Int32)) (t_values : (Nat → Int32)) (n : Nat) (a1 : Int32) (a2 : Int32) : Option (Int32) :=
  if xr_in a1 960 = true then
    (if (t_sorts a1.toNatClampNeg) = ((2 : Int32)) then
      (if xr_in a1 960 = true then
        (xf_rf_referred_32 t_items t_lines t_numbers t_sorts t_values n ((0 : Int32)) (t_values a1.toNatClampNeg))
      else none)
    else
      if xr_in ((((20 : Int32)) * a1) + a2) 19200 = true then
        (xf_rf_referred_32 t_items t_lines t_numbers t_sorts t_values n ((0 : Int32)) (t_items ((((20 : Int32)) * a1) + a2).toNatClampNeg))
      else none)
  else none
def xf_rf_findWays_41 (t_items : (Nat → Int32)) (t_lines : (Nat → Int32)) (t_numbers : (Nat → Int32)) (t_parts : (Nat → Int32)) (t_sorts : (Nat → Int32)) (t_values : (Nat → Int32)) (k2 : (Nat → Int64) → Int32 → Option (Unit × (Nat → Int64))) (k24 : (Nat → Int64) → Int32 → Int32 → Option (Unit × (Nat → Int64))) (n : Nat) (N : Nat) : (Nat → Int64) → Int32 → Int32 → Int32 → Option (Unit × (Nat → Int64)) :=
  Nat.rec (motive := fun _ => (Nat → Int64) → Int32 → Int32 → Int32 → Option (Unit × (Nat → Int64))) (fun _ _ _ _ => none) (fun _ k41 t_ways v1 v2 v3 =>
    (xf_rf_references t_sorts t_values v2).bind fun q988 =>
    if v3 < q988 then
      (if xr_in v1 40 = true then
        ((xf_rf_referred t_items t_lines t_numbers t_sorts t_values n v2 v3).bind fun q996 =>
        if xr_in v1 40 = true then
          (k41 (vp_updL t_ways v1.toNatClampNeg (((t_ways v1.toNatClampNeg) ||| (xe_shl ((1 : Int64)) q996)))) v1 v2 (v3 + (1 : Int32)))
        else none)
      else none)
    else
      k24 t_ways v1 (v2 + (1 : Int32))) N
def xf_rf_findWays_24 (t_items : (Nat → Int32)) (t_lines : (Nat → Int32)) (t_numbers : (Nat → Int32)) (t_parts : (Nat → Int32)) (t_sorts : (Nat → Int32)) (t_values : (Nat → Int32)) (k2 : (Nat → Int64) → Int32 → Option (Unit × (Nat → Int64))) (n : Nat) (N : Nat) : (Nat → Int64) → Int32 → Int32 → Option (Unit × (Nat → Int64)) :=
  Nat.rec (motive := fun _ => (Nat → Int64) → Int32 → Int32 → Option (Unit × (Nat → Int64))) (fun _ _ _ => none) (fun _ k24 t_ways v1 v2 =>
    if xr_in v1 120 = true then
      (if v2 < ((((8 : Int32)) * v1) + (t_parts v1.toNatClampNeg)) then
        (xf_rf_findWays_41 t_items t_lines t_numbers t_parts t_sorts t_values k2 k24 n n t_ways v1 v2 ((0 : Int32)))
      else
        k2 t_ways (v1 + (1 : Int32)))
    else none) N
def xf_rf_findWays_2 (t_items : (Nat → Int32)) (t_lines : (Nat → Int32)) (t_numbers : (Nat → Int32)) (t_parts : (Nat → Int32)) (t_sorts : (Nat → Int32)) (t_values : (Nat → Int32)) (n : Nat) (N : Nat) : (Nat → Int64) → Int32 → Option (Unit × (Nat → Int64)) :=
  Nat.rec (motive := fun _ => (Nat → Int64) → Int32 → Option (Unit × (Nat → Int64))) (fun _ _ => none) (fun _ k2 t_ways v1 =>
    if v1 < (t_lines ((0 : Int32)).toNatClampNeg) then
      (if xr_in v1 40 = true then
        (xf_rf_findWays_24 t_items t_lines t_numbers t_parts t_sorts t_values k2 n n (vp_updL t_ways v1.toNatClampNeg (((0 : Int64)))) v1 (((8 : Int32)) * v1))
      else none)
    else
      some ((), t_ways)) N
def xf_rf_findWays (t_items : (Nat → Int32)) (t_lines : (Nat → Int32)) (t_numbers : (Nat → Int32)) (t_parts : (Nat → Int32)) (t_sorts : (Nat → Int32)) (t_values : (Nat → Int32)) (n : Nat) (t_ways : (Nat → Int64)) : Option (Unit × (Nat → Int64)) :=
  xf_rf_findWays_2 t_items t_lines t_numbers t_parts t_sorts t_values n n t_ways ((0 : Int32))
def xf_rf_findDepths_146 (t_items : (Nat → Int32)) (t_lines : (Nat → Int32)) (t_numbers : (Nat → Int32)) (t_parts : (Nat → Int32)) (t_sorts : (Nat → Int32)) (t_values : (Nat → Int32)) (k27 : (Nat → Int32) → (Nat → Int64) → Int32 → Option (Unit × (Nat → Int32) × (Nat → Int64))) (k35 : (Nat → Int32) → (Nat → Int64) → Int32 → Int32 → Option (Unit × (Nat → Int32) × (Nat → Int64))) (k66 : (Nat → Int32) → (Nat → Int64) → Int32 → Int32 → Int32 → Int32 → Int32 → Option (Unit × (Nat → Int32) × (Nat → Int64))) (n : Nat) (t_depths : (Nat → Int32)) (t_ways : (Nat → Int64)) (v1 : Int32) (v2 : Int32) (v3 : Int32) (v4 : Int32) (v5 : Int32) : Option (Unit × (Nat → Int32) × (Nat → Int64)) :=
  k66 t_depths t_ways v1 v2 v3 v4 (v5 + (1 : Int32))
def xf_rf_findDepths_145 (t_items : (Nat → Int32)) (t_lines : (Nat → Int32)) (t_numbers : (Nat → Int32)) (t_parts : (Nat → Int32)) (t_sorts : (Nat → Int32)) (t_values : (Nat → Int32)) (k27 : (Nat → Int32) → (Nat → Int64) → Int32 → Option (Unit × (Nat → Int32) × (Nat → Int64))) (k35 : (Nat → Int32) → (Nat → Int64) → Int32 → Int32 → Option (Unit × (Nat → Int32) × (Nat → Int64))) (k66 : (Nat → Int32) → (Nat → Int64) → Int32 → Int32 → Int32 → Int32 → Int32 → Option (Unit × (Nat → Int32) × (Nat → Int64))) (n : Nat) (t_depths : (Nat → Int32)) (t_ways : (Nat → Int64)) (v1 : Int32) (v2 : Int32) (v4 : Int32) (v5 : Int32) (s0 : Int32) : Option (Unit × (Nat → Int32) × (Nat → Int64)) :=
  xf_rf_findDepths_146 t_items t_lines t_numbers t_parts t_sorts t_values k27 k35 k66 n t_depths t_ways v1 v2 s0 v4 v5
def xf_rf_findDepths_117 (t_items : (Nat → Int32)) (t_lines : (Nat → Int32)) (t_numbers : (Nat → Int32)) (t_parts : (Nat → Int32)) (t_sorts : (Nat → Int32)) (t_values : (Nat → Int32)) (k27 : (Nat → Int32) → (Nat → Int64) → Int32 → Option (Unit × (Nat → Int32) × (Nat → Int64))) (k35 : (Nat → Int32) → (Nat → Int64) → Int32 → Int32 → Option (Unit × (Nat → Int32) × (Nat → Int64))) (k66 : (Nat → Int32) → (Nat → Int64) → Int32 → Int32 → Int32 → Int32 → Int32 → Option (Unit × (Nat → Int32) × (Nat → Int64))) (n : Nat) (t_depths : (Nat → Int32)) (t_ways : (Nat → Int64)) (v1 : Int32) (v2 : Int32) (v3 : Int32) (v5 : Int32) (s0 : Int32) : Option (Unit × (Nat → Int32) × (Nat → Int64)) :=
  if xr_in v5 40 = true then
    (if v3 < ((t_depths v5.toNatClampNeg) + ((1 : Int32))) then
      (if xr_in v5 40 = true then
        (xf_rf_findDepths_145 t_items t_lines t_numbers t_parts t_sorts t_values k27 k35 k66 n t_depths t_ways v1 v2 s0 v5 ((t_depths v5.toNatClampNeg) + ((1 : Int32))))
      else none)
    else
      xf_rf_findDepths_145 t_items t_lines t_numbers t_parts t_sorts t_values k27 k35 k66 n t_depths t_ways v1 v2 s0 v5 v3)
  else none
def xf_rf_findDepths_116 (t_items : (Nat → Int32)) (t_lines : (Nat → Int32)) (t_numbers : (Nat → Int32)) (t_parts : (Nat → Int32)) (t_sorts : (Nat → Int32)) (t_values : (Nat → Int32)) (k27 : (Nat → Int32) → (Nat → Int64) → Int32 → Option (Unit × (Nat → Int32) × (Nat → Int64))) (k35 : (Nat → Int32) → (Nat → Int64) → Int32 → Int32 → Option (Unit × (Nat → Int32) × (Nat → Int64))) (k66 : (Nat → Int32) → (Nat → Int64) → Int32 → Int32 → Int32 → Int32 → Int32 → Option (Unit × (Nat → Int32) × (Nat → Int64))) (n : Nat) (t_depths : (Nat → Int32)) (t_ways : (Nat → Int64)) (v1 : Int32) (v2 : Int32) (v3 : Int32) (v5 : Int32) : Option (Unit × (Nat → Int32) × (Nat → Int64)) :=
  xf_rf_findDepths_117 t_items t_lines t_numbers t_parts t_sorts t_values k27 k35 k66 n t_depths t_ways v1 v2 v3 v5 ((0 : Int32))
def xf_rf_findDepths_166 (t_items : (Nat → Int32)) (t_lines : (Nat → Int32)) (t_numbers : (Nat → Int32)) (t_parts : (Nat → Int32)) (t_sorts : (Nat → Int32)) (t_values : (Nat → Int32)) (k27 : (Nat → Int32) → (Nat → Int64) → Int32 → Option (Unit × (Nat → Int32) × (Nat → Int64))) (k35 : (Nat → Int32) → (Nat → Int64) → Int32 → Int32 → Option (Unit × (Nat → Int32) × (Nat → Int64))) (n : Nat) (t_depths : (Nat → Int32)) (t_ways : (Nat → Int64)) (v1 : Int32) (v2 : Int32) : Option (Unit × (Nat → Int32) × (Nat → Int64)) :=
  k35 t_depths t_ways v1 (v2 + (1 : Int32))
def xf_rf_findDepths_66 (t_items : (Nat → Int32)) (t_lines : (Nat → Int32)) (t_numbers : (Nat → Int32)) (t_parts : (Nat → Int32)) (t_sorts : (Nat → Int32)) (t_values : (Nat → Int32)) (k27 : (Nat → Int32) → (Nat → Int64) → Int32 → Option (Unit × (Nat → Int32) × (Nat → Int64))) (k35 : (Nat → Int32) → (Nat → Int64) → Int32 → Int32 → Option (Unit × (Nat → Int32) × (Nat → Int64))) (n : Nat) (N : Nat) : (Nat → Int32) → (Nat → Int64) → Int32 → Int32 → Int32 → Int32 → Int32 → Option (Unit × (Nat → Int32) × (Nat → Int64)) :=
  Nat.rec (motive := fun _ => (Nat → Int32) → (Nat → Int64) → Int32 → Int32 → Int32 → Int32 → Int32 → Option (Unit × (Nat → Int32) × (Nat → Int64))) (fun _ _ _ _ _ _ _ => none) (fun _ k66 t_depths t_ways v1 v2 v3 v4 v5 =>
    if v5 < (t_lines ((0 : Int32)).toNatClampNeg) then
      (if xr_in v2 40 = true then
        (if (lg_cmp ((xe_shr (t_ways v2.toNatClampNeg) v5) &&& ((1 : Int64))) ((0 : Int64))) = (0 : Int32) then
          (xf_rf_findDepths_146 t_items t_lines t_numbers t_parts t_sorts t_values k27 k35 k66 n t_depths t_ways v1 v2 v3 v4 v5)
        else
          if v4 = (0 : Int32) then
            (xf_rf_findDepths_116 t_items t_lines t_numbers t_parts t_sorts t_values k27 k35 k66 n t_depths t_ways v1 v2 v3 v5)
          else
            if xr_in v5 40 = true then
              (if (t_depths v5.toNatClampNeg) = ((-1 : Int32)) then
                (xf_rf_findDepths_116 t_items t_lines t_numbers t_parts t_sorts t_values k27 k35 k66 n t_depths t_ways v1 v2 v3 v5)
              else
                xf_rf_findDepths_117 t_items t_lines t_numbers t_parts t_sorts t_values k27 k35 k66 n t_depths t_ways v1 v2 v3 v5 ((1 : Int32)))
            else none)
      else none)
    else
      if v4 = (0 : Int32) then
        (xf_rf_findDepths_166 t_items t_lines t_numbers t_parts t_sorts t_values k27 k35 n t_depths t_ways v1 v2)
      else
        if xr_in v2 40 = true then
          (xf_rf_findDepths_166 t_items t_lines t_numbers t_parts t_sorts t_values k27 k35 n (upd t_depths v2.toNatClampNeg v3) t_ways ((1 : Int32)) v2)
        else none) N
def xf_rf_findDepths_35 (t_items : (Nat → Int32)) (t_lines : (Nat → Int32)) (t_numbers : (Nat → Int32)) (t_parts : (Nat → Int32)) (t_sorts : (Nat → Int32)) (t_values : (Nat → Int32)) (k27 : (Nat → Int32) → (Nat → Int64) → Int32 → Option (Unit × (Nat → Int32) × (Nat → Int64))) (n : Nat) (N : Nat) : (Nat → Int32) → (Nat → Int64) → Int32 → Int32 → Option (Unit × (Nat → Int32) × (Nat → Int64)) :=
  Nat.rec (motive := fun _ => (Nat → Int32) → (Nat → Int64) → Int32 → Int32 → Option (Unit × (Nat → Int32) × (Nat → Int64))) (fun _ _ _ _ => none) (fun _ k35 t_depths t_ways v1 v2 =>
    if v2 < (t_lines ((0 : Int32)).toNatClampNeg) then
      (if xr_in v2 40 = true then
        (if (t_depths v2.toNatClampNeg) = ((-1 : Int32)) then
          (xf_rf_findDepths_66 t_items t_lines t_numbers t_parts t_sorts t_values k27 k35 n n t_depths t_ways v1 v2 ((0 : Int32)) ((1 : Int32)) ((0 : Int32)))
        else
          xf_rf_findDepths_166 t_items t_lines t_numbers t_parts t_sorts t_values k27 k35 n t_depths t_ways v1 v2)
      else none)
    else
      k27 t_depths t_ways v1) N
def xf_rf_findDepths_27 (t_items : (Nat → Int32)) (t_lines : (Nat → Int32)) (t_numbers : (Nat → Int32)) (t_parts : (Nat → Int32)) (t_sorts : (Nat → Int32)) (t_values : (Nat → Int32)) (n : Nat) (N : Nat) : (Nat → Int32) → (Nat → Int64) → Int32 → Option (Unit × (Nat → Int32) × (Nat → Int64)) :=
  Nat.rec (motive := fun _ => (Nat → Int32) → (Nat → Int64) → Int32 → Option (Unit × (Nat → Int32) × (Nat → Int64))) (fun _ _ _ => none) (fun _ k27 t_depths t_ways v1 =>
    if v1 = (0 : Int32) then
      (some ((), t_depths, t_ways))
    else
      xf_rf_findDepths_35 t_items t_lines t_numbers t_parts t_sorts t_values k27 n n t_depths t_ways ((0 : Int32)) ((0 : Int32))) N
def xf_rf_findDepths_6 (t_items : (Nat → Int32)) (t_lines : (Nat → Int32)) (t_numbers : (Nat → Int32)) (t_parts : (Nat → Int32)) (t_sorts : (Nat → Int32)) (t_values : (Nat → Int32)) (n : Nat) (N : Nat) : (Nat → Int32) → (Nat → Int64) → Int32 → Option (Unit × (Nat → Int32) × (Nat → Int64)) :=
  Nat.rec (motive := fun _ => (Nat → Int32) → (Nat → Int64) → Int32 → Option (Unit × (Nat → Int32) × (Nat → Int64))) (fun _ _ _ => none) (fun _ k6 t_depths t_ways v1 =>
    if v1 < ((40 : Int32)) then
      (if xr_in v1 40 = true then
        (k6 (upd t_depths v1.toNatClampNeg (((-1 : Int32)))) t_ways (v1 + (1 : Int32)))
      else none)
    else
      xf_rf_findDepths_27 t_items t_lines t_numbers t_parts t_sorts t_values n n t_depths t_ways ((1 : Int32))) N
def xf_rf_findDepths (t_items : (Nat → Int32)) (t_lines : (Nat → Int32)) (t_numbers : (Nat → Int32)) (t_parts : (Nat → Int32)) (t_sorts : (Nat → Int32)) (t_values : (Nat → Int32)) (n : Nat) (t_depths : (Nat → Int32)) (t_ways : (Nat → Int64)) : Option (Unit × (Nat → Int32) × (Nat → Int64)) :=
  (xf_rf_findWays t_items t_lines t_numbers t_parts t_sorts t_values n t_ways).bind fun q998 =>
  xf_rf_findDepths_6 t_items t_lines t_numbers t_parts t_sorts t_values n n t_depths q998.2 ((0 : Int32))
def xf_rf_kindOf_57 (t_kindLetters : (Nat → Int32)) (t_kindNames : (Nat → Int32)) (t_kinds : (Nat → Int32)) (t_letters : (Nat → Int32)) (t_names : (Nat → Int32)) (k2 : Int32 → Int32 → Option (Int32)) (n : Nat) (v1 : Int32) (v2 : Int32) : Option (Int32) :=
  k2 v1 (v2 + (1 : Int32))
def xf_rf_kindOf_2 (t_kindLetters : (Nat → Int32)) (t_kindNames : (Nat → Int32)) (t_kinds : (Nat → Int32)) (t_letters : (Nat → Int32)) (t_names : (Nat → Int32)) (n : Nat) (N : Nat) : Int32 → Int32 → Option (Int32) :=
  Nat.rec (motive := fun _ => Int32 → Int32 → Option (Int32)) (fun _ _ => none) (fun _ k2 v1 v2 =>
    if v2 < (t_kinds ((0 : Int32)).toNatClampNeg) then
      (if xr_in v2 24 = true then
        (if xr_in v1 120 = true then
          (if (t_kindLetters v2.toNatClampNeg) = (t_letters v1.toNatClampNeg) then
            (if xr_in v1 120 = true then
              ((xf_rf_isSame t_kindNames t_names 192 960 n (((8 : Int32)) * v2) (((8 : Int32)) * v1) (t_letters v1.toNatClampNeg)).bind fun q1029 =>
              if q1029 = (0 : Int32) then
                (xf_rf_kindOf_57 t_kindLetters t_kindNames t_kinds t_letters t_names k2 n v1 v2)
              else
                some v2)
            else none)
          else
            xf_rf_kindOf_57 t_kindLetters t_kindNames t_kinds t_letters t_names k2 n v1 v2)
        else none)
      else none)
    else
      some ((-1 : Int32))) N
def xf_rf_kindOf (t_kindLetters : (Nat → Int32)) (t_kindNames : (Nat → Int32)) (t_kinds : (Nat → Int32)) (t_letters : (Nat → Int32)) (t_names : (Nat → Int32)) (n : Nat) (a1 : Int32) : Option (Int32) :=
  xf_rf_kindOf_2 t_kindLetters t_kindNames t_kinds t_letters t_names n n a1 ((0 : Int32))
def xf_rf_told_90 (t_items : (Nat → Int32)) (t_kindLetters : (Nat → Int32)) (t_kindNames : (Nat → Int32)) (t_kinds : (Nat → Int32)) (t_letters : (Nat → Int32)) (t_lines : (Nat → Int32)) (t_names : (Nat → Int32)) (t_numbers : (Nat → Int32)) (t_parts : (Nat → Int32)) (t_sorts : (Nat → Int32)) (t_values : (Nat → Int32)) (n : Nat) (t_depths : (Nat → Int32)) (t_thrown : Int32) (t_ways : (Nat → Int64)) (s0 : Int32) : Option (Int32 × (Nat → Int32) × Int32 × (Nat → Int64)) :=
  some (s0, t_depths, t_thrown, t_ways)
def xf_rf_referencesOf_7 (t_parts : (Nat → Int32)) (t_sorts : (Nat → Int32)) (t_values : (Nat → Int32)) (n : Nat) (N : Nat) : Int32 → Int32 → Int32 → Option (Int32) :=
  Nat.rec (motive := fun _ => Int32 → Int32 → Int32 → Option (Int32)) (fun _ _ _ => none) (fun _ k7 v1 v2 v3 =>
    if xr_in v1 120 = true then
      (if v3 < ((((8 : Int32)) * v1) + (t_parts v1.toNatClampNeg)) then
        ((xf_rf_references t_sorts t_values v3).bind fun q1037 =>
        k7 v1 (v2 + q1037) (v3 + (1 : Int32)))
      else
        some v2)
    else none) N
def xf_rf_referencesOf (t_parts : (Nat → Int32)) (t_sorts : (Nat → Int32)) (t_values : (Nat → Int32)) (n : Nat) (a1 : Int32) : Option (Int32) :=
  xf_rf_referencesOf_7 t_parts t_sorts t_values n n a1 ((0 : Int32)) (((8 : Int32)) * a1)
def xf_rf_told_32 (t_items : (Nat → Int32)) (t_kindLetters : (Nat → Int32)) (t_kindNames : (Nat → Int32)) (t_kinds : (Nat → Int32)) (t_letters : (Nat → Int32)) (t_lines : (Nat → Int32)) (t_names : (Nat → Int32)) (t_numbers : (Nat → Int32)) (t_parts : (Nat → Int32)) (t_sorts : (Nat → Int32)) (t_values : (Nat → Int32)) (n : Nat) (t_depths : (Nat → Int32)) (t_thrown : Int32) (t_ways : (Nat → Int64)) (v2 : Int32) (v3 : Int32) (s1 : Int32) : Option (Int32 × (Nat → Int32) × Int32 × (Nat → Int64)) :=
  (xf_rf_fails t_thrown s1 ((1 : Int32))).bind fun q977 =>
  if q977.1 = (0 : Int32) then
    ((xf_rf_findDepths t_items t_lines t_numbers t_parts t_sorts t_values n t_depths t_ways).bind fun q1016 =>
    if v2 = (0 : Int32) then
      ((xf_rf_kindOf t_kindLetters t_kindNames t_kinds t_letters t_names n v3).bind fun q1031 =>
      xf_rf_told_90 t_items t_kindLetters t_kindNames t_kinds t_letters t_lines t_names t_numbers t_parts t_sorts t_values n q1016.2.1 q977.2 q1016.2.2 q1031)
    else
      if v2 = ((1 : Int32)) then
        (if xr_in v3 120 = true then
          (xf_rf_told_90 t_items t_kindLetters t_kindNames t_kinds t_letters t_lines t_names t_numbers t_parts t_sorts t_values n q1016.2.1 q977.2 q1016.2.2 (t_parts v3.toNatClampNeg))
        else none)
      else
        if v2 = ((2 : Int32)) then
          ((xf_rf_referencesOf t_parts t_sorts t_values n v3).bind fun q1038 =>
          xf_rf_told_90 t_items t_kindLetters t_kindNames t_kinds t_letters t_lines t_names t_numbers t_parts t_sorts t_values n q1016.2.1 q977.2 q1016.2.2 q1038)
        else
          if xr_in v3 40 = true then
            (xf_rf_told_90 t_items t_kindLetters t_kindNames t_kinds t_letters t_lines t_names t_numbers t_parts t_sorts t_values n q1016.2.1 q977.2 q1016.2.2 (q1016.2.1 v3.toNatClampNeg))
          else none)
  else
    some ((0 : Int32), t_depths, q977.2, t_ways)
def xf_rf_told_27 (t_items : (Nat → Int32)) (t_kindLetters : (Nat → Int32)) (t_kindNames : (Nat → Int32)) (t_kinds : (Nat → Int32)) (t_letters : (Nat → Int32)) (t_lines : (Nat → Int32)) (t_names : (Nat → Int32)) (t_numbers : (Nat → Int32)) (t_parts : (Nat → Int32)) (t_sorts : (Nat → Int32)) (t_values : (Nat → Int32)) (n : Nat) (t_depths : (Nat → Int32)) (t_thrown : Int32) (t_ways : (Nat → Int64)) (v2 : Int32) (v3 : Int32) : Option (Int32 × (Nat → Int32) × Int32 × (Nat → Int64)) :=
  xf_rf_told_32 t_items t_kindLetters t_kindNames t_kinds t_letters t_lines t_names t_numbers t_parts t_sorts t_values n t_depths t_thrown t_ways v2 v3 ((1 : Int32))
def xf_rf_told (t_items : (Nat → Int32)) (t_kindLetters : (Nat → Int32)) (t_kindNames : (Nat → Int32)) (t_kinds : (Nat → Int32)) (t_letters : (Nat → Int32)) (t_lines : (Nat → Int32)) (t_names : (Nat → Int32)) (t_numbers : (Nat → Int32)) (t_parts : (Nat → Int32)) (t_sorts : (Nat → Int32)) (t_values : (Nat → Int32)) (n : Nat) (t_depths : (Nat → Int32)) (t_thrown : Int32) (t_ways : (Nat → Int64)) (a1 : Int32) (a2 : Int32) : Option (Int32 × (Nat → Int32) × Int32 × (Nat → Int64)) :=
  (xf_rf_find t_lines t_numbers n ((0 : Int32)) a1).bind fun q975 =>
  if q975 = ((-1 : Int32)) then
    (xf_rf_told_27 t_items t_kindLetters t_kindNames t_kinds t_letters t_lines t_names t_numbers t_parts t_sorts t_values n t_depths ((0 : Int32)) t_ways a2 q975)
  else
    if a2 < (0 : Int32) then
      (xf_rf_told_27 t_items t_kindLetters t_kindNames t_kinds t_letters t_lines t_names t_numbers t_parts t_sorts t_values n t_depths ((0 : Int32)) t_ways a2 q975)
    else
      if ((3 : Int32)) < a2 then
        (xf_rf_told_27 t_items t_kindLetters t_kindNames t_kinds t_letters t_lines t_names t_numbers t_parts t_sorts t_values n t_depths ((0 : Int32)) t_ways a2 q975)
      else
        xf_rf_told_32 t_items t_kindLetters t_kindNames t_kinds t_letters t_lines t_names t_numbers t_parts t_sorts t_values n t_depths ((0 : Int32)) t_ways a2 q975 ((0 : Int32))
def xf_rf_argumentAt_36 (t_lines : (Nat → Int32)) (t_numbers : (Nat → Int32)) (t_parts : (Nat → Int32)) (n : Nat) (s0 : Int32) : Option (Int32) :=
  some s0
def xf_rf_argumentAt_26 (t_lines : (Nat → Int32)) (t_numbers : (Nat → Int32)) (t_parts : (Nat → Int32)) (n : Nat) : Option (Int32) :=
  xf_rf_argumentAt_36 t_lines t_numbers t_parts n ((-1 : Int32))
def xf_rf_argumentAt (t_lines : (Nat → Int32)) (t_numbers : (Nat → Int32)) (t_parts : (Nat → Int32)) (n : Nat) (a1 : Int32) (a2 : Int32) : Option (Int32) :=
  (xf_rf_find t_lines t_numbers n ((0 : Int32)) a1).bind fun q1042 =>
  if q1042 = ((-1 : Int32)) then
    (xf_rf_argumentAt_26 t_lines t_numbers t_parts n)
  else
    if a2 < (0 : Int32) then
      (xf_rf_argumentAt_26 t_lines t_numbers t_parts n)
    else
      if xr_in q1042 120 = true then
        (if a2 < (t_parts q1042.toNatClampNeg) then
          (xf_rf_argumentAt_36 t_lines t_numbers t_parts n ((((8 : Int32)) * q1042) + a2))
        else
          xf_rf_argumentAt_26 t_lines t_numbers t_parts n)
      else none
def xf_rf_argument3_64 (t_lines : (Nat → Int32)) (t_numbers : (Nat → Int32)) (t_parts : (Nat → Int32)) (t_sorts : (Nat → Int32)) (t_values : (Nat → Int32)) (n : Nat) (t_thrown : Int32) (s0 : Int32) : Option (Int32 × Int32) :=
  some (s0, t_thrown)
def xf_rf_argument3_34 (t_lines : (Nat → Int32)) (t_numbers : (Nat → Int32)) (t_parts : (Nat → Int32)) (t_sorts : (Nat → Int32)) (t_values : (Nat → Int32)) (n : Nat) (t_thrown : Int32) (v3 : Int32) (v4 : Int32) (s1 : Int32) : Option (Int32 × Int32) :=
  (xf_rf_fails t_thrown s1 ((1 : Int32))).bind fun q1049 =>
  if q1049.1 = (0 : Int32) then
    (if v3 = (0 : Int32) then
      (if xr_in v4 960 = true then
        (xf_rf_argument3_64 t_lines t_numbers t_parts t_sorts t_values n q1049.2 (t_sorts v4.toNatClampNeg))
      else none)
    else
      if xr_in v4 960 = true then
        (xf_rf_argument3_64 t_lines t_numbers t_parts t_sorts t_values n q1049.2 (t_values v4.toNatClampNeg))
      else none)
  else
    some ((0 : Int32), q1049.2)
def xf_rf_argument3_29 (t_lines : (Nat → Int32)) (t_numbers : (Nat → Int32)) (t_parts : (Nat → Int32)) (t_sorts : (Nat → Int32)) (t_values : (Nat → Int32)) (n : Nat) (t_thrown : Int32) (v3 : Int32) (v4 : Int32) : Option (Int32 × Int32) :=
  xf_rf_argument3_34 t_lines t_numbers t_parts t_sorts t_values n t_thrown v3 v4 ((1 : Int32))
def xf_rf_argument3 (t_lines : (Nat → Int32)) (t_numbers : (Nat → Int32)) (t_parts : (Nat → Int32)) (t_sorts : (Nat → Int32)) (t_values : (Nat → Int32)) (n : Nat) (t_thrown : Int32) (a1 : Int32) (a2 : Int32) (a3 : Int32) : Option (Int32 × Int32) :=
  (xf_rf_argumentAt t_lines t_numbers t_parts n a1 a2).bind fun q1047 =>
  if q1047 = ((-1 : Int32)) then
    (xf_rf_argument3_29 t_lines t_numbers t_parts t_sorts t_values n ((0 : Int32)) a3 q1047)
  else
    if a3 < (0 : Int32) then
      (xf_rf_argument3_29 t_lines t_numbers t_parts t_sorts t_values n ((0 : Int32)) a3 q1047)
    else
      if ((1 : Int32)) < a3 then
        (xf_rf_argument3_29 t_lines t_numbers t_parts t_sorts t_values n ((0 : Int32)) a3 q1047)
      else
        xf_rf_argument3_34 t_lines t_numbers t_parts t_sorts t_values n ((0 : Int32)) a3 q1047 ((0 : Int32))
def xf_rf_item_85 (t_items : (Nat → Int32)) (t_lines : (Nat → Int32)) (t_numbers : (Nat → Int32)) (t_parts : (Nat → Int32)) (t_sorts : (Nat → Int32)) (t_values : (Nat → Int32)) (n : Nat) (t_thrown : Int32) (v3 : Int32) (v4 : Int32) (s1 : Int32) : Option (Int32 × Int32) :=
  (xf_rf_fails t_thrown s1 ((1 : Int32))).bind fun q1059 =>
  if q1059.1 = (0 : Int32) then
    (if xr_in ((((20 : Int32)) * v4) + v3) 19200 = true then
      (some (t_items ((((20 : Int32)) * v4) + v3).toNatClampNeg, q1059.2))
    else none)
  else
    some ((0 : Int32), q1059.2)
def xf_rf_item_80 (t_items : (Nat → Int32)) (t_lines : (Nat → Int32)) (t_numbers : (Nat → Int32)) (t_parts : (Nat → Int32)) (t_sorts : (Nat → Int32)) (t_values : (Nat → Int32)) (n : Nat) (t_thrown : Int32) (v3 : Int32) (v4 : Int32) : Option (Int32 × Int32) :=
  xf_rf_item_85 t_items t_lines t_numbers t_parts t_sorts t_values n t_thrown v3 v4 ((1 : Int32))
def xf_rf_item_57 (t_items : (Nat → Int32)) (t_lines : (Nat → Int32)) (t_numbers : (Nat → Int32)) (t_parts : (Nat → Int32)) (t_sorts : (Nat → Int32)) (t_values : (Nat → Int32)) (n : Nat) (t_thrown : Int32) (v3 : Int32) (v4 : Int32) (s0 : Int32) : Option (Int32 × Int32) :=
  if s0 = (0 : Int32) then
    (xf_rf_item_80 t_items t_lines t_numbers t_parts t_sorts t_values n t_thrown v3 v4)
  else
    if v3 < (0 : Int32) then
      (xf_rf_item_80 t_items t_lines t_numbers t_parts t_sorts t_values n t_thrown v3 v4)
    else
      if xr_in v4 960 = true then
        (if v3 < (t_values v4.toNatClampNeg) then
          (xf_rf_item_85 t_items t_lines t_numbers t_parts t_sorts t_values n t_thrown v3 v4 ((0 : Int32)))
        else
          xf_rf_item_80 t_items t_lines t_numbers t_parts t_sorts t_values n t_thrown v3 v4)
      else none
def xf_rf_item_56 (t_items : (Nat → Int32)) (t_lines : (Nat → Int32)) (t_numbers : (Nat → Int32)) (t_parts : (Nat → Int32)) (t_sorts : (Nat → Int32)) (t_values : (Nat → Int32)) (n : Nat) (t_thrown : Int32) (v3 : Int32) (v4 : Int32) : Option (Int32 × Int32) :=
  xf_rf_item_57 t_items t_lines t_numbers t_parts t_sorts t_values n t_thrown v3 v4 ((0 : Int32))
def xf_rf_item (t_items : (Nat → Int32)) (t_lines : (Nat → Int32)) (t_numbers : (Nat → Int32)) (t_parts : (Nat → Int32)) (t_sorts : (Nat → Int32)) (t_values : (Nat → Int32)) (n : Nat) (t_thrown : Int32) (a1 : Int32) (a2 : Int32) (a3 : Int32) : Option (Int32 × Int32) :=
  (xf_rf_argumentAt t_lines t_numbers t_parts n a1 a2).bind fun q1056 =>
  if q1056 = ((-1 : Int32)) then
    (xf_rf_item_56 t_items t_lines t_numbers t_parts t_sorts t_values n ((0 : Int32)) a3 q1056)
  else
    if xr_in q1056 960 = true then
      (if (t_sorts q1056.toNatClampNeg) = (0 : Int32) then
        (xf_rf_item_56 t_items t_lines t_numbers t_parts t_sorts t_values n ((0 : Int32)) a3 q1056)
      else
        if xr_in q1056 960 = true then
          (if (t_sorts q1056.toNatClampNeg) = ((2 : Int32)) then
            (xf_rf_item_56 t_items t_lines t_numbers t_parts t_sorts t_values n ((0 : Int32)) a3 q1056)
          else
            if xr_in q1056 960 = true then
              (if (t_sorts q1056.toNatClampNeg) = ((6 : Int32)) then
                (xf_rf_item_56 t_items t_lines t_numbers t_parts t_sorts t_values n ((0 : Int32)) a3 q1056)
              else
                xf_rf_item_57 t_items t_lines t_numbers t_parts t_sorts t_values n ((0 : Int32)) a3 q1056 ((1 : Int32)))
            else none)
        else none)
    else none
def xf_rf_set_47 (t_lines : (Nat → Int32)) (t_numbers : (Nat → Int32)) (t_parts : (Nat → Int32)) (t_sorts : (Nat → Int32)) (n : Nat) (t_thrown : Int32) (t_values : (Nat → Int32)) (v3 : Int32) (v4 : Int32) (s1 : Int32) : Option (Int32 × Int32 × (Nat → Int32)) :=
  (xf_rf_fails t_thrown s1 ((1 : Int32))).bind fun q1073 =>
  if q1073.1 = (0 : Int32) then
    (if xr_in v4 960 = true then
      (if xr_in v4 960 = true then
        (some (t_values v4.toNatClampNeg, q1073.2, upd t_values v4.toNatClampNeg v3))
      else none)
    else none)
  else
    some ((0 : Int32), q1073.2, t_values)
def xf_rf_set_42 (t_lines : (Nat → Int32)) (t_numbers : (Nat → Int32)) (t_parts : (Nat → Int32)) (t_sorts : (Nat → Int32)) (n : Nat) (t_thrown : Int32) (t_values : (Nat → Int32)) (v3 : Int32) (v4 : Int32) : Option (Int32 × Int32 × (Nat → Int32)) :=
  xf_rf_set_47 t_lines t_numbers t_parts t_sorts n t_thrown t_values v3 v4 ((1 : Int32))
def xf_rf_set (t_lines : (Nat → Int32)) (t_numbers : (Nat → Int32)) (t_parts : (Nat → Int32)) (t_sorts : (Nat → Int32)) (n : Nat) (t_thrown : Int32) (t_values : (Nat → Int32)) (a1 : Int32) (a2 : Int32) (a3 : Int32) : Option (Int32 × Int32 × (Nat → Int32)) :=
  (xf_rf_argumentAt t_lines t_numbers t_parts n a1 a2).bind fun q1071 =>
  if q1071 = ((-1 : Int32)) then
    (xf_rf_set_42 t_lines t_numbers t_parts t_sorts n ((0 : Int32)) t_values a3 q1071)
  else
    if xr_in q1071 960 = true then
      (if (t_sorts q1071.toNatClampNeg) = (0 : Int32) then
        (if a3 < ((-999999999 : Int32)) then
          (xf_rf_set_42 t_lines t_numbers t_parts t_sorts n ((0 : Int32)) t_values a3 q1071)
        else
          if ((999999999 : Int32)) < a3 then
            (xf_rf_set_42 t_lines t_numbers t_parts t_sorts n ((0 : Int32)) t_values a3 q1071)
          else
            xf_rf_set_47 t_lines t_numbers t_parts t_sorts n ((0 : Int32)) t_values a3 q1071 ((0 : Int32)))
      else
        xf_rf_set_42 t_lines t_numbers t_parts t_sorts n ((0 : Int32)) t_values a3 q1071)
    else none
def xf_rf_firstWrong_124 (t_kindMay : (Nat → Int32)) (t_kindSorts : (Nat → Int32)) (t_parts : (Nat → Int32)) (t_sorts : (Nat → Int32)) (t_values : (Nat → Int32)) (k2 : Int32 → Int32 → Int32 → Option (Int32)) (n : Nat) (v1 : Int32) (v2 : Int32) (v3 : Int32) : Option (Int32) :=
  k2 v1 v2 (v3 + (1 : Int32))
def xf_rf_firstWrong_98 (t_kindMay : (Nat → Int32)) (t_kindSorts : (Nat → Int32)) (t_parts : (Nat → Int32)) (t_sorts : (Nat → Int32)) (t_values : (Nat → Int32)) (k2 : Int32 → Int32 → Int32 → Option (Int32)) (n : Nat) (v1 : Int32) (v2 : Int32) (v3 : Int32) (v4 : Int32) (v5 : Int32) (v6 : Int32) (s0 : Int32) : Option (Int32) :=
  if xr_in v4 960 = true then
    (if (t_sorts v4.toNatClampNeg) = v5 then
      (xf_rf_firstWrong_124 t_kindMay t_kindSorts t_parts t_sorts t_values k2 n v1 v2 v3)
    else
      if v6 = (0 : Int32) then
        (if s0 = (0 : Int32) then
          (some v3)
        else
          xf_rf_firstWrong_124 t_kindMay t_kindSorts t_parts t_sorts t_values k2 n v1 v2 v3)
      else
        xf_rf_firstWrong_124 t_kindMay t_kindSorts t_parts t_sorts t_values k2 n v1 v2 v3)
  else none
def xf_rf_firstWrong_97 (t_kindMay : (Nat → Int32)) (t_kindSorts : (Nat → Int32)) (t_parts : (Nat → Int32)) (t_sorts : (Nat → Int32)) (t_values : (Nat → Int32)) (k2 : Int32 → Int32 → Int32 → Option (Int32)) (n : Nat) (v1 : Int32) (v2 : Int32) (v3 : Int32) (v4 : Int32) (v5 : Int32) (v6 : Int32) : Option (Int32) :=
  xf_rf_firstWrong_98 t_kindMay t_kindSorts t_parts t_sorts t_values k2 n v1 v2 v3 v4 v5 v6 ((0 : Int32))
def xf_rf_firstWrong_65 (t_kindMay : (Nat → Int32)) (t_kindSorts : (Nat → Int32)) (t_parts : (Nat → Int32)) (t_sorts : (Nat → Int32)) (t_values : (Nat → Int32)) (k2 : Int32 → Int32 → Int32 → Option (Int32)) (n : Nat) (v1 : Int32) (v2 : Int32) (v3 : Int32) (v4 : Int32) (v5 : Int32) (s0 : Int32) : Option (Int32) :=
  if xr_in v4 960 = true then
    (if (t_sorts v4.toNatClampNeg) = ((6 : Int32)) then
      (if xr_in ((((8 : Int32)) * v2) + v3) 192 = true then
        (if (t_kindMay ((((8 : Int32)) * v2) + v3).toNatClampNeg) = (0 : Int32) then
          (xf_rf_firstWrong_97 t_kindMay t_kindSorts t_parts t_sorts t_values k2 n v1 v2 v3 v4 v5 s0)
        else
          xf_rf_firstWrong_98 t_kindMay t_kindSorts t_parts t_sorts t_values k2 n v1 v2 v3 v4 v5 s0 ((1 : Int32)))
      else none)
    else
      xf_rf_firstWrong_97 t_kindMay t_kindSorts t_parts t_sorts t_values k2 n v1 v2 v3 v4 v5 s0)
  else none
def xf_rf_firstWrong_64 (t_kindMay : (Nat → Int32)) (t_kindSorts : (Nat → Int32)) (t_parts : (Nat → Int32)) (t_sorts : (Nat → Int32)) (t_values : (Nat → Int32)) (k2 : Int32 → Int32 → Int32 → Option (Int32)) (n : Nat) (v1 : Int32) (v2 : Int32) (v3 : Int32) (v4 : Int32) (v5 : Int32) : Option (Int32) :=
  xf_rf_firstWrong_65 t_kindMay t_kindSorts t_parts t_sorts t_values k2 n v1 v2 v3 v4 v5 ((0 : Int32))
def xf_rf_firstWrong_2 (t_kindMay : (Nat → Int32)) (t_kindSorts : (Nat → Int32)) (t_parts : (Nat → Int32)) (t_sorts : (Nat → Int32)) (t_values : (Nat → Int32)) (n : Nat) (N : Nat) : Int32 → Int32 → Int32 → Option (Int32) :=
  Nat.rec (motive := fun _ => Int32 → Int32 → Int32 → Option (Int32)) (fun _ _ _ => none) (fun _ k2 v1 v2 v3 =>
    if xr_in v1 120 = true then
      (if v3 < (t_parts v1.toNatClampNeg) then
        (if xr_in ((((8 : Int32)) * v2) + v3) 192 = true then
          (if (t_kindSorts ((((8 : Int32)) * v2) + v3).toNatClampNeg) = ((4 : Int32)) then
            (if xr_in ((((8 : Int32)) * v1) + v3) 960 = true then
              (if (t_sorts ((((8 : Int32)) * v1) + v3).toNatClampNeg) = ((3 : Int32)) then
                (if xr_in ((((8 : Int32)) * v1) + v3) 960 = true then
                  (if (t_values ((((8 : Int32)) * v1) + v3).toNatClampNeg) = (0 : Int32) then
                    (xf_rf_firstWrong_65 t_kindMay t_kindSorts t_parts t_sorts t_values k2 n v1 v2 v3 ((((8 : Int32)) * v1) + v3) (t_kindSorts ((((8 : Int32)) * v2) + v3).toNatClampNeg) ((1 : Int32)))
                  else
                    xf_rf_firstWrong_64 t_kindMay t_kindSorts t_parts t_sorts t_values k2 n v1 v2 v3 ((((8 : Int32)) * v1) + v3) (t_kindSorts ((((8 : Int32)) * v2) + v3).toNatClampNeg))
                else none)
              else
                xf_rf_firstWrong_64 t_kindMay t_kindSorts t_parts t_sorts t_values k2 n v1 v2 v3 ((((8 : Int32)) * v1) + v3) (t_kindSorts ((((8 : Int32)) * v2) + v3).toNatClampNeg))
            else none)
          else
            xf_rf_firstWrong_64 t_kindMay t_kindSorts t_parts t_sorts t_values k2 n v1 v2 v3 ((((8 : Int32)) * v1) + v3) (t_kindSorts ((((8 : Int32)) * v2) + v3).toNatClampNeg))
        else none)
      else
        some ((-1 : Int32)))
    else none) N
def xf_rf_firstWrong (t_kindMay : (Nat → Int32)) (t_kindSorts : (Nat → Int32)) (t_parts : (Nat → Int32)) (t_sorts : (Nat → Int32)) (t_values : (Nat → Int32)) (n : Nat) (a1 : Int32) (a2 : Int32) : Option (Int32) :=
  xf_rf_firstWrong_2 t_kindMay t_kindSorts t_parts t_sorts t_values n n a1 a2 ((0 : Int32))
def xf_rf_wrong_166 (t_kindLetters : (Nat → Int32)) (t_kindMay : (Nat → Int32)) (t_kindNames : (Nat → Int32)) (t_kindParts : (Nat → Int32)) (t_kindSorts : (Nat → Int32)) (t_kinds : (Nat → Int32)) (t_letters : (Nat → Int32)) (t_lines : (Nat → Int32)) (t_names : (Nat → Int32)) (t_numbers : (Nat → Int32)) (t_parts : (Nat → Int32)) (t_sorts : (Nat → Int32)) (t_values : (Nat → Int32)) (k38 : Int32 → Int32 → Int32 → Int32 → Option (Int32 × Int32)) (n : Nat) (t_thrown : Int32) (v2 : Int32) (v3 : Int32) (v4 : Int32) : Option (Int32 × Int32) :=
  k38 t_thrown v2 v3 (v4 + (1 : Int32))
def xf_rf_wrong_162 (t_kindLetters : (Nat → Int32)) (t_kindMay : (Nat → Int32)) (t_kindNames : (Nat → Int32)) (t_kindParts : (Nat → Int32)) (t_kindSorts : (Nat → Int32)) (t_kinds : (Nat → Int32)) (t_letters : (Nat → Int32)) (t_lines : (Nat → Int32)) (t_names : (Nat → Int32)) (t_numbers : (Nat → Int32)) (t_parts : (Nat → Int32)) (t_sorts : (Nat → Int32)) (t_values : (Nat → Int32)) (n : Nat) (t_thrown : Int32) (s0 : Int32) : Option (Int32 × Int32) :=
  some (s0, t_thrown)
def xf_rf_wrong_122 (t_kindLetters : (Nat → Int32)) (t_kindMay : (Nat → Int32)) (t_kindNames : (Nat → Int32)) (t_kindParts : (Nat → Int32)) (t_kindSorts : (Nat → Int32)) (t_kinds : (Nat → Int32)) (t_letters : (Nat → Int32)) (t_lines : (Nat → Int32)) (t_names : (Nat → Int32)) (t_numbers : (Nat → Int32)) (t_parts : (Nat → Int32)) (t_sorts : (Nat → Int32)) (t_values : (Nat → Int32)) (k38 : Int32 → Int32 → Int32 → Int32 → Option (Int32 × Int32)) (n : Nat) (t_thrown : Int32) (v2 : Int32) (v3 : Int32) (v4 : Int32) (v7 : Int32) (s0 : Int32) : Option (Int32 × Int32) :=
  if s0 = (0 : Int32) then
    (xf_rf_wrong_166 t_kindLetters t_kindMay t_kindNames t_kindParts t_kindSorts t_kinds t_letters t_lines t_names t_numbers t_parts t_sorts t_values k38 n t_thrown v2 v3 v4)
  else
    if v3 = (0 : Int32) then
      (if v2 = (0 : Int32) then
        (if xr_in v4 120 = true then
          (xf_rf_wrong_162 t_kindLetters t_kindMay t_kindNames t_kindParts t_kindSorts t_kinds t_letters t_lines t_names t_numbers t_parts t_sorts t_values n t_thrown (t_numbers v4.toNatClampNeg))
        else none)
      else
        if v2 = ((1 : Int32)) then
          (xf_rf_wrong_162 t_kindLetters t_kindMay t_kindNames t_kindParts t_kindSorts t_kinds t_letters t_lines t_names t_numbers t_parts t_sorts t_values n t_thrown s0)
        else
          xf_rf_wrong_162 t_kindLetters t_kindMay t_kindNames t_kindParts t_kindSorts t_kinds t_letters t_lines t_names t_numbers t_parts t_sorts t_values n t_thrown v7)
    else
      xf_rf_wrong_166 t_kindLetters t_kindMay t_kindNames t_kindParts t_kindSorts t_kinds t_letters t_lines t_names t_numbers t_parts t_sorts t_values k38 n t_thrown v2 (v3 + (-1 : Int32)) v4
def xf_rf_wrong_108 (t_kindLetters : (Nat → Int32)) (t_kindMay : (Nat → Int32)) (t_kindNames : (Nat → Int32)) (t_kindParts : (Nat → Int32)) (t_kindSorts : (Nat → Int32)) (t_kinds : (Nat → Int32)) (t_letters : (Nat → Int32)) (t_lines : (Nat → Int32)) (t_names : (Nat → Int32)) (t_numbers : (Nat → Int32)) (t_parts : (Nat → Int32)) (t_sorts : (Nat → Int32)) (t_values : (Nat → Int32)) (k38 : Int32 → Int32 → Int32 → Int32 → Option (Int32 × Int32)) (n : Nat) (t_thrown : Int32) (v2 : Int32) (v3 : Int32) (v4 : Int32) (v6 : Int32) (s0 : Int32) : Option (Int32 × Int32) :=
  if s0 = ((-1 : Int32)) then
    (xf_rf_wrong_122 t_kindLetters t_kindMay t_kindNames t_kindParts t_kindSorts t_kinds t_letters t_lines t_names t_numbers t_parts t_sorts t_values k38 n t_thrown v2 v3 v4 s0 v6)
  else
    xf_rf_wrong_122 t_kindLetters t_kindMay t_kindNames t_kindParts t_kindSorts t_kinds t_letters t_lines t_names t_numbers t_parts t_sorts t_values k38 n t_thrown v2 v3 v4 s0 ((3 : Int32))
def xf_rf_wrong_89 (t_kindLetters : (Nat → Int32)) (t_kindMay : (Nat → Int32)) (t_kindNames : (Nat → Int32)) (t_kindParts : (Nat → Int32)) (t_kindSorts : (Nat → Int32)) (t_kinds : (Nat → Int32)) (t_letters : (Nat → Int32)) (t_lines : (Nat → Int32)) (t_names : (Nat → Int32)) (t_numbers : (Nat → Int32)) (t_parts : (Nat → Int32)) (t_sorts : (Nat → Int32)) (t_values : (Nat → Int32)) (k38 : Int32 → Int32 → Int32 → Int32 → Option (Int32 × Int32)) (n : Nat) (t_thrown : Int32) (v2 : Int32) (v3 : Int32) (v4 : Int32) (v5 : Int32) (s0 : Int32) : Option (Int32 × Int32) :=
  if s0 = (0 : Int32) then
    ((xf_rf_firstWrong t_kindMay t_kindSorts t_parts t_sorts t_values n v4 v5).bind fun q1104 =>
    xf_rf_wrong_108 t_kindLetters t_kindMay t_kindNames t_kindParts t_kindSorts t_kinds t_letters t_lines t_names t_numbers t_parts t_sorts t_values k38 n t_thrown v2 v3 v4 s0 q1104)
  else
    xf_rf_wrong_108 t_kindLetters t_kindMay t_kindNames t_kindParts t_kindSorts t_kinds t_letters t_lines t_names t_numbers t_parts t_sorts t_values k38 n t_thrown v2 v3 v4 s0 ((-1 : Int32))
def xf_rf_wrong_38 (t_kindLetters : (Nat → Int32)) (t_kindMay : (Nat → Int32)) (t_kindNames : (Nat → Int32)) (t_kindParts : (Nat → Int32)) (t_kindSorts : (Nat → Int32)) (t_kinds : (Nat → Int32)) (t_letters : (Nat → Int32)) (t_lines : (Nat → Int32)) (t_names : (Nat → Int32)) (t_numbers : (Nat → Int32)) (t_parts : (Nat → Int32)) (t_sorts : (Nat → Int32)) (t_values : (Nat → Int32)) (n : Nat) (N : Nat) : Int32 → Int32 → Int32 → Int32 → Option (Int32 × Int32) :=
  Nat.rec (motive := fun _ => Int32 → Int32 → Int32 → Int32 → Option (Int32 × Int32)) (fun _ _ _ _ => none) (fun _ k38 t_thrown v2 v3 v4 =>
    if v4 < (t_lines ((0 : Int32)).toNatClampNeg) then
      ((xf_rf_kindOf t_kindLetters t_kindNames t_kinds t_letters t_names n v4).bind fun q1085 =>
      if q1085 = ((-1 : Int32)) then
        (xf_rf_wrong_89 t_kindLetters t_kindMay t_kindNames t_kindParts t_kindSorts t_kinds t_letters t_lines t_names t_numbers t_parts t_sorts t_values k38 n t_thrown v2 v3 v4 q1085 ((1 : Int32)))
      else
        if xr_in q1085 24 = true then
          (if xr_in v4 120 = true then
            (if (t_kindParts q1085.toNatClampNeg) = (t_parts v4.toNatClampNeg) then
              (xf_rf_wrong_89 t_kindLetters t_kindMay t_kindNames t_kindParts t_kindSorts t_kinds t_letters t_lines t_names t_numbers t_parts t_sorts t_values k38 n t_thrown v2 v3 v4 q1085 ((0 : Int32)))
            else
              xf_rf_wrong_89 t_kindLetters t_kindMay t_kindNames t_kindParts t_kindSorts t_kinds t_letters t_lines t_names t_numbers t_parts t_sorts t_values k38 n t_thrown v2 v3 v4 q1085 ((2 : Int32)))
          else none)
        else none)
    else
      some ((-1 : Int32), t_thrown)) N
def xf_rf_wrong_24 (t_kindLetters : (Nat → Int32)) (t_kindMay : (Nat → Int32)) (t_kindNames : (Nat → Int32)) (t_kindParts : (Nat → Int32)) (t_kindSorts : (Nat → Int32)) (t_kinds : (Nat → Int32)) (t_letters : (Nat → Int32)) (t_lines : (Nat → Int32)) (t_names : (Nat → Int32)) (t_numbers : (Nat → Int32)) (t_parts : (Nat → Int32)) (t_sorts : (Nat → Int32)) (t_values : (Nat → Int32)) (n : Nat) (t_thrown : Int32) (v1 : Int32) (v2 : Int32) (s1 : Int32) : Option (Int32 × Int32) :=
  (xf_rf_fails t_thrown s1 ((1 : Int32))).bind fun q1082 =>
  if q1082.1 = (0 : Int32) then
    (xf_rf_wrong_38 t_kindLetters t_kindMay t_kindNames t_kindParts t_kindSorts t_kinds t_letters t_lines t_names t_numbers t_parts t_sorts t_values n n q1082.2 v2 v1 ((0 : Int32)))
  else
    some ((0 : Int32), q1082.2)
def xf_rf_wrong_19 (t_kindLetters : (Nat → Int32)) (t_kindMay : (Nat → Int32)) (t_kindNames : (Nat → Int32)) (t_kindParts : (Nat → Int32)) (t_kindSorts : (Nat → Int32)) (t_kinds : (Nat → Int32)) (t_letters : (Nat → Int32)) (t_lines : (Nat → Int32)) (t_names : (Nat → Int32)) (t_numbers : (Nat → Int32)) (t_parts : (Nat → Int32)) (t_sorts : (Nat → Int32)) (t_values : (Nat → Int32)) (n : Nat) (t_thrown : Int32) (v1 : Int32) (v2 : Int32) : Option (Int32 × Int32) :=
  xf_rf_wrong_24 t_kindLetters t_kindMay t_kindNames t_kindParts t_kindSorts t_kinds t_letters t_lines t_names t_numbers t_parts t_sorts t_values n t_thrown v1 v2 ((1 : Int32))
def xf_rf_wrong (t_kindLetters : (Nat → Int32)) (t_kindMay : (Nat → Int32)) (t_kindNames : (Nat → Int32)) (t_kindParts : (Nat → Int32)) (t_kindSorts : (Nat → Int32)) (t_kinds : (Nat → Int32)) (t_letters : (Nat → Int32)) (t_lines : (Nat → Int32)) (t_names : (Nat → Int32)) (t_numbers : (Nat → Int32)) (t_parts : (Nat → Int32)) (t_sorts : (Nat → Int32)) (t_values : (Nat → Int32)) (n : Nat) (t_thrown : Int32) (a1 : Int32) (a2 : Int32) : Option (Int32 × Int32) :=
  if a1 < (0 : Int32) then
    (xf_rf_wrong_19 t_kindLetters t_kindMay t_kindNames t_kindParts t_kindSorts t_kinds t_letters t_lines t_names t_numbers t_parts t_sorts t_values n ((0 : Int32)) a1 a2)
  else
    if a2 < (0 : Int32) then
      (xf_rf_wrong_19 t_kindLetters t_kindMay t_kindNames t_kindParts t_kindSorts t_kinds t_letters t_lines t_names t_numbers t_parts t_sorts t_values n ((0 : Int32)) a1 a2)
    else
      if ((2 : Int32)) < a2 then
        (xf_rf_wrong_19 t_kindLetters t_kindMay t_kindNames t_kindParts t_kindSorts t_kinds t_letters t_lines t_names t_numbers t_parts t_sorts t_values n ((0 : Int32)) a1 a2)
      else
        xf_rf_wrong_24 t_kindLetters t_kindMay t_kindNames t_kindParts t_kindSorts t_kinds t_letters t_lines t_names t_numbers t_parts t_sorts t_values n ((0 : Int32)) a1 a2 ((0 : Int32))
def xf_rf_from_92 (t_items : (Nat → Int32)) (t_lines : (Nat → Int32)) (t_numbers : (Nat → Int32)) (t_parts : (Nat → Int32)) (t_sorts : (Nat → Int32)) (t_values : (Nat → Int32)) (k46 : Int32 → (Nat → Int64) → Int32 → Int32 → Int32 → Option (Int32 × Int32 × (Nat → Int64))) (n : Nat) (t_thrown : Int32) (t_ways : (Nat → Int64)) (v3 : Int32) (v4 : Int32) (v5 : Int32) : Option (Int32 × Int32 × (Nat → Int64)) :=
  k46 t_thrown t_ways v3 v4 (v5 + (1 : Int32))
def xf_rf_from_46 (t_items : (Nat → Int32)) (t_lines : (Nat → Int32)) (t_numbers : (Nat → Int32)) (t_parts : (Nat → Int32)) (t_sorts : (Nat → Int32)) (t_values : (Nat → Int32)) (n : Nat) (N : Nat) : Int32 → (Nat → Int64) → Int32 → Int32 → Int32 → Option (Int32 × Int32 × (Nat → Int64)) :=
  Nat.rec (motive := fun _ => Int32 → (Nat → Int64) → Int32 → Int32 → Int32 → Option (Int32 × Int32 × (Nat → Int64))) (fun _ _ _ _ _ => none) (fun _ k46 t_thrown t_ways v3 v4 v5 =>
    if v5 < (t_lines ((0 : Int32)).toNatClampNeg) then
      (if xr_in v5 40 = true then
        (if (lg_cmp ((xe_shr (t_ways v5.toNatClampNeg) v3) &&& ((1 : Int64))) ((0 : Int64))) = (0 : Int32) then
          (xf_rf_from_92 t_items t_lines t_numbers t_parts t_sorts t_values k46 n t_thrown t_ways v3 v4 v5)
        else
          if v4 = (0 : Int32) then
            (if xr_in v5 120 = true then
              (some (t_numbers v5.toNatClampNeg, t_thrown, t_ways))
            else none)
          else
            xf_rf_from_92 t_items t_lines t_numbers t_parts t_sorts t_values k46 n t_thrown t_ways v3 (v4 + (-1 : Int32)) v5)
      else none)
    else
      some ((-1 : Int32), t_thrown, t_ways)) N
def xf_rf_from_27 (t_items : (Nat → Int32)) (t_lines : (Nat → Int32)) (t_numbers : (Nat → Int32)) (t_parts : (Nat → Int32)) (t_sorts : (Nat → Int32)) (t_values : (Nat → Int32)) (n : Nat) (t_thrown : Int32) (t_ways : (Nat → Int64)) (v2 : Int32) (v3 : Int32) (s1 : Int32) : Option (Int32 × Int32 × (Nat → Int64)) :=
  (xf_rf_fails t_thrown s1 ((1 : Int32))).bind fun q1118 =>
  if q1118.1 = (0 : Int32) then
    ((xf_rf_findWays t_items t_lines t_numbers t_parts t_sorts t_values n t_ways).bind fun q1120 =>
    xf_rf_from_46 t_items t_lines t_numbers t_parts t_sorts t_values n n q1118.2 q1120.2 v3 v2 ((0 : Int32)))
  else
    some ((0 : Int32), q1118.2, t_ways)
def xf_rf_from_22 (t_items : (Nat → Int32)) (t_lines : (Nat → Int32)) (t_numbers : (Nat → Int32)) (t_parts : (Nat → Int32)) (t_sorts : (Nat → Int32)) (t_values : (Nat → Int32)) (n : Nat) (t_thrown : Int32) (t_ways : (Nat → Int64)) (v2 : Int32) (v3 : Int32) : Option (Int32 × Int32 × (Nat → Int64)) :=
  xf_rf_from_27 t_items t_lines t_numbers t_parts t_sorts t_values n t_thrown t_ways v2 v3 ((1 : Int32))
def xf_rf_from (t_items : (Nat → Int32)) (t_lines : (Nat → Int32)) (t_numbers : (Nat → Int32)) (t_parts : (Nat → Int32)) (t_sorts : (Nat → Int32)) (t_values : (Nat → Int32)) (n : Nat) (t_thrown : Int32) (t_ways : (Nat → Int64)) (a1 : Int32) (a2 : Int32) : Option (Int32 × Int32 × (Nat → Int64)) :=
  (xf_rf_find t_lines t_numbers n ((0 : Int32)) a1).bind fun q1116 =>
  if q1116 = ((-1 : Int32)) then
    (xf_rf_from_22 t_items t_lines t_numbers t_parts t_sorts t_values n ((0 : Int32)) t_ways a2 q1116)
  else
    if a2 < (0 : Int32) then
      (xf_rf_from_22 t_items t_lines t_numbers t_parts t_sorts t_values n ((0 : Int32)) t_ways a2 q1116)
    else
      xf_rf_from_27 t_items t_lines t_numbers t_parts t_sorts t_values n ((0 : Int32)) t_ways a2 q1116 ((0 : Int32))
def xf_rf_isOnRing_79 (t_lines : (Nat → Int32)) (t_ways : (Nat → Int64)) (n : Nat) (s0 : Int32) : Option (Int32) :=
  if fits .boolean (.int s0) = true then some s0 else none
def xf_rf_isOnRing_55 (t_lines : (Nat → Int32)) (t_ways : (Nat → Int64)) (k10 : Int32 → Int64 → Int64 → Option (Int32)) (k23 : Int32 → Int64 → Int64 → Int32 → Option (Int32)) (n : Nat) (v1 : Int32) (v2 : Int64) (v4 : Int64) (v6 : Int32) : Option (Int32) :=
  k23 v1 v2 v4 (v6 + (1 : Int32))
def xf_rf_isOnRing_23 (t_lines : (Nat → Int32)) (t_ways : (Nat → Int64)) (k10 : Int32 → Int64 → Int64 → Option (Int32)) (n : Nat) (N : Nat) : Int32 → Int64 → Int64 → Int32 → Option (Int32) :=
  Nat.rec (motive := fun _ => Int32 → Int64 → Int64 → Int32 → Option (Int32)) (fun _ _ _ _ => none) (fun _ k23 v1 v2 v4 v6 =>
    if v6 < (t_lines ((0 : Int32)).toNatClampNeg) then
      (if (lg_cmp ((xe_shr v2 v6) &&& ((1 : Int64))) ((1 : Int64))) = (0 : Int32) then
        (if xr_in v6 40 = true then
          (xf_rf_isOnRing_55 t_lines t_ways k10 k23 n v1 (v2 ||| (t_ways v6.toNatClampNeg)) v4 v6)
        else none)
      else
        xf_rf_isOnRing_55 t_lines t_ways k10 k23 n v1 v2 v4 v6)
    else
      k10 v1 v2 v4) N
def xf_rf_isOnRing_10 (t_lines : (Nat → Int32)) (t_ways : (Nat → Int64)) (n : Nat) (N : Nat) : Int32 → Int64 → Int64 → Option (Int32) :=
  Nat.rec (motive := fun _ => Int32 → Int64 → Int64 → Option (Int32)) (fun _ _ _ => none) (fun _ k10 v1 v2 v4 =>
    if (lg_cmp v2 v4) = (0 : Int32) then
      (if (lg_cmp ((xe_shr v2 v1) &&& ((1 : Int64))) ((1 : Int64))) = (0 : Int32) then
        (xf_rf_isOnRing_79 t_lines t_ways n ((1 : Int32)))
      else
        xf_rf_isOnRing_79 t_lines t_ways n ((0 : Int32)))
    else
      xf_rf_isOnRing_23 t_lines t_ways k10 n n v1 v2 v2 ((0 : Int32))) N
def xf_rf_isOnRing (t_lines : (Nat → Int32)) (t_ways : (Nat → Int64)) (n : Nat) (a1 : Int32) : Option (Int32) :=
  if xr_in a1 40 = true then
    (xf_rf_isOnRing_10 t_lines t_ways n n a1 (t_ways a1.toNatClampNeg) ((0 : Int64)))
  else none
def xf_rf_ring_77 (t_items : (Nat → Int32)) (t_lines : (Nat → Int32)) (t_numbers : (Nat → Int32)) (t_parts : (Nat → Int32)) (t_sorts : (Nat → Int32)) (t_values : (Nat → Int32)) (k32 : (Nat → Int32) → Int32 → (Nat → Int64) → Int32 → Int32 → Option (Int32 × (Nat → Int32) × Int32 × (Nat → Int64))) (n : Nat) (t_depths : (Nat → Int32)) (t_thrown : Int32) (t_ways : (Nat → Int64)) (v2 : Int32) (v3 : Int32) : Option (Int32 × (Nat → Int32) × Int32 × (Nat → Int64)) :=
  k32 t_depths t_thrown t_ways v2 (v3 + (1 : Int32))
def xf_rf_ring_32 (t_items : (Nat → Int32)) (t_lines : (Nat → Int32)) (t_numbers : (Nat → Int32)) (t_parts : (Nat → Int32)) (t_sorts : (Nat → Int32)) (t_values : (Nat → Int32)) (n : Nat) (N : Nat) : (Nat → Int32) → Int32 → (Nat → Int64) → Int32 → Int32 → Option (Int32 × (Nat → Int32) × Int32 × (Nat → Int64)) :=
  Nat.rec (motive := fun _ => (Nat → Int32) → Int32 → (Nat → Int64) → Int32 → Int32 → Option (Int32 × (Nat → Int32) × Int32 × (Nat → Int64))) (fun _ _ _ _ _ => none) (fun _ k32 t_depths t_thrown t_ways v2 v3 =>
    if v3 < (t_lines ((0 : Int32)).toNatClampNeg) then
      (if xr_in v3 40 = true then
        (if (t_depths v3.toNatClampNeg) = ((-1 : Int32)) then
          ((xf_rf_isOnRing t_lines t_ways n v3).bind fun q1141 =>
          if q1141 = (0 : Int32) then
            (xf_rf_ring_77 t_items t_lines t_numbers t_parts t_sorts t_values k32 n t_depths t_thrown t_ways v2 v3)
          else
            if v2 = (0 : Int32) then
              (if xr_in v3 120 = true then
                (some (t_numbers v3.toNatClampNeg, t_depths, t_thrown, t_ways))
              else none)
            else
              xf_rf_ring_77 t_items t_lines t_numbers t_parts t_sorts t_values k32 n t_depths t_thrown t_ways (v2 + (-1 : Int32)) v3)
        else
          xf_rf_ring_77 t_items t_lines t_numbers t_parts t_sorts t_values k32 n t_depths t_thrown t_ways v2 v3)
      else none)
    else
      some ((-1 : Int32), t_depths, t_thrown, t_ways)) N
def xf_rf_ring_15 (t_items : (Nat → Int32)) (t_lines : (Nat → Int32)) (t_numbers : (Nat → Int32)) (t_parts : (Nat → Int32)) (t_sorts : (Nat → Int32)) (t_values : (Nat → Int32)) (n : Nat) (t_depths : (Nat → Int32)) (t_thrown : Int32) (t_ways : (Nat → Int64)) (v1 : Int32) (s1 : Int32) : Option (Int32 × (Nat → Int32) × Int32 × (Nat → Int64)) :=
  (xf_rf_fails t_thrown s1 ((1 : Int32))).bind fun q1128 =>
  if q1128.1 = (0 : Int32) then
    ((xf_rf_findDepths t_items t_lines t_numbers t_parts t_sorts t_values n t_depths t_ways).bind fun q1130 =>
    xf_rf_ring_32 t_items t_lines t_numbers t_parts t_sorts t_values n n q1130.2.1 q1128.2 q1130.2.2 v1 ((0 : Int32)))
  else
    some ((0 : Int32), t_depths, q1128.2, t_ways)
def xf_rf_ring (t_items : (Nat → Int32)) (t_lines : (Nat → Int32)) (t_numbers : (Nat → Int32)) (t_parts : (Nat → Int32)) (t_sorts : (Nat → Int32)) (t_values : (Nat → Int32)) (n : Nat) (t_depths : (Nat → Int32)) (t_thrown : Int32) (t_ways : (Nat → Int64)) (a1 : Int32) : Option (Int32 × (Nat → Int32) × Int32 × (Nat → Int64)) :=
  if a1 < (0 : Int32) then
    (xf_rf_ring_15 t_items t_lines t_numbers t_parts t_sorts t_values n t_depths ((0 : Int32)) t_ways a1 ((1 : Int32)))
  else
    xf_rf_ring_15 t_items t_lines t_numbers t_parts t_sorts t_values n t_depths ((0 : Int32)) t_ways a1 ((0 : Int32))
def xf_rf_isPlaced_76 (t_parts : (Nat → Int32)) (t_sorts : (Nat → Int32)) (s0 : Int32) : Option (Int32) :=
  if fits .boolean (.int s0) = true then some s0 else none
def xf_rf_isPlaced_71 (t_parts : (Nat → Int32)) (t_sorts : (Nat → Int32)) : Option (Int32) :=
  xf_rf_isPlaced_76 t_parts t_sorts ((1 : Int32))
def xf_rf_isPlaced_75 (t_parts : (Nat → Int32)) (t_sorts : (Nat → Int32)) : Option (Int32) :=
  xf_rf_isPlaced_76 t_parts t_sorts ((0 : Int32))
def xf_rf_isPlaced (t_parts : (Nat → Int32)) (t_sorts : (Nat → Int32)) (a1 : Int32) : Option (Int32) :=
  if xr_in a1 120 = true then
    (if ((3 : Int32)) < (t_parts a1.toNatClampNeg) then
      (if xr_in (((8 : Int32)) * a1) 960 = true then
        (if (t_sorts (((8 : Int32)) * a1).toNatClampNeg) = (0 : Int32) then
          (if xr_in ((((8 : Int32)) * a1) + ((1 : Int32))) 960 = true then
            (if (t_sorts ((((8 : Int32)) * a1) + ((1 : Int32))).toNatClampNeg) = (0 : Int32) then
              (if xr_in ((((8 : Int32)) * a1) + ((2 : Int32))) 960 = true then
                (if (t_sorts ((((8 : Int32)) * a1) + ((2 : Int32))).toNatClampNeg) = (0 : Int32) then
                  (if xr_in ((((8 : Int32)) * a1) + ((3 : Int32))) 960 = true then
                    (if (t_sorts ((((8 : Int32)) * a1) + ((3 : Int32))).toNatClampNeg) = ((2 : Int32)) then
                      (xf_rf_isPlaced_71 t_parts t_sorts)
                    else
                      if xr_in ((((8 : Int32)) * a1) + ((3 : Int32))) 960 = true then
                        (if (t_sorts ((((8 : Int32)) * a1) + ((3 : Int32))).toNatClampNeg) = ((6 : Int32)) then
                          (xf_rf_isPlaced_71 t_parts t_sorts)
                        else
                          xf_rf_isPlaced_75 t_parts t_sorts)
                      else none)
                  else none)
                else
                  xf_rf_isPlaced_75 t_parts t_sorts)
              else none)
            else
              xf_rf_isPlaced_75 t_parts t_sorts)
          else none)
        else
          xf_rf_isPlaced_75 t_parts t_sorts)
      else none)
    else
      xf_rf_isPlaced_75 t_parts t_sorts)
  else none
def xf_rf_place_166 (t_lines : (Nat → Int32)) (t_numbers : (Nat → Int32)) (t_parts : (Nat → Int32)) (t_sorts : (Nat → Int32)) (t_values : (Nat → Int32)) (k68 : Int32 → Int32 → Int32 → Int64 → Int32 → Option (Int64 × Int32)) (n : Nat) (t_thrown : Int32) (v2 : Int32) (v4 : Int64) (v6 : Int32) (s0 : Int32) : Option (Int64 × Int32) :=
  k68 t_thrown v2 s0 v4 v6
def xf_rf_place_165 (t_lines : (Nat → Int32)) (t_numbers : (Nat → Int32)) (t_parts : (Nat → Int32)) (t_sorts : (Nat → Int32)) (t_values : (Nat → Int32)) (k68 : Int32 → Int32 → Int32 → Int64 → Int32 → Option (Int64 × Int32)) (n : Nat) (t_thrown : Int32) (v2 : Int32) (v4 : Int64) (v6 : Int32) : Option (Int64 × Int32) :=
  xf_rf_place_166 t_lines t_numbers t_parts t_sorts t_values k68 n t_thrown v2 v4 v6 ((-1 : Int32))
def xf_rf_place_143 (t_lines : (Nat → Int32)) (t_numbers : (Nat → Int32)) (t_parts : (Nat → Int32)) (t_sorts : (Nat → Int32)) (t_values : (Nat → Int32)) (k68 : Int32 → Int32 → Int32 → Int64 → Int32 → Option (Int64 × Int32)) (n : Nat) (t_thrown : Int32) (v2 : Int32) (v4 : Int64) (v6 : Int32) (s0 : Int32) : Option (Int64 × Int32) :=
  if s0 = ((-1 : Int32)) then
    (xf_rf_place_165 t_lines t_numbers t_parts t_sorts t_values k68 n t_thrown v2 v4 v6)
  else
    (xf_rf_isPlaced t_parts t_sorts s0).bind fun q1174 =>
    if q1174 = (0 : Int32) then
      (xf_rf_place_165 t_lines t_numbers t_parts t_sorts t_values k68 n t_thrown v2 v4 v6)
    else
      xf_rf_place_166 t_lines t_numbers t_parts t_sorts t_values k68 n t_thrown v2 v4 v6 s0
def xf_rf_place_68 (t_lines : (Nat → Int32)) (t_numbers : (Nat → Int32)) (t_parts : (Nat → Int32)) (t_sorts : (Nat → Int32)) (t_values : (Nat → Int32)) (n : Nat) (N : Nat) : Int32 → Int32 → Int32 → Int64 → Int32 → Option (Int64 × Int32) :=
  Nat.rec (motive := fun _ => Int32 → Int32 → Int32 → Int64 → Int32 → Option (Int64 × Int32)) (fun _ _ _ _ _ => none) (fun _ k68 t_thrown v2 v3 v4 v6 =>
    if v3 = ((-1 : Int32)) then
      (some (v4, t_thrown))
    else
      if (t_lines ((0 : Int32)).toNatClampNeg) < v6 then
        (some ((1000000000000 : Int64), t_thrown))
      else
        if xr_in ((((8 : Int32)) * v3) + v2) 960 = true then
          (if xr_in ((((8 : Int32)) * v3) + ((3 : Int32))) 960 = true then
            (if (t_sorts ((((8 : Int32)) * v3) + ((3 : Int32))).toNatClampNeg) = ((2 : Int32)) then
              (if xr_in ((((8 : Int32)) * v3) + ((3 : Int32))) 960 = true then
                ((xf_rf_find t_lines t_numbers n ((0 : Int32)) (t_values ((((8 : Int32)) * v3) + ((3 : Int32))).toNatClampNeg)).bind fun q1172 =>
                xf_rf_place_143 t_lines t_numbers t_parts t_sorts t_values k68 n t_thrown v2 (v4 + ((t_values ((((8 : Int32)) * v3) + v2).toNatClampNeg).toInt64)) (v6 + (1 : Int32)) q1172)
              else none)
            else
              xf_rf_place_143 t_lines t_numbers t_parts t_sorts t_values k68 n t_thrown v2 (v4 + ((t_values ((((8 : Int32)) * v3) + v2).toNatClampNeg).toInt64)) (v6 + (1 : Int32)) ((-1 : Int32)))
          else none)
        else none) N
def xf_rf_place_60 (t_lines : (Nat → Int32)) (t_numbers : (Nat → Int32)) (t_parts : (Nat → Int32)) (t_sorts : (Nat → Int32)) (t_values : (Nat → Int32)) (n : Nat) (t_thrown : Int32) : Option (Int64 × Int32) :=
  some ((0 : Int64), t_thrown)
def xf_rf_place_53 (t_lines : (Nat → Int32)) (t_numbers : (Nat → Int32)) (t_parts : (Nat → Int32)) (t_sorts : (Nat → Int32)) (t_values : (Nat → Int32)) (n : Nat) (t_thrown : Int32) (v2 : Int32) (v3 : Int32) (s1 : Int32) : Option (Int64 × Int32) :=
  (xf_rf_fails t_thrown s1 ((1 : Int32))).bind fun q1164 =>
  if q1164.1 = (0 : Int32) then
    (xf_rf_place_68 t_lines t_numbers t_parts t_sorts t_values n n q1164.2 v2 v3 ((0 : Int64)) ((0 : Int32)))
  else
    xf_rf_place_60 t_lines t_numbers t_parts t_sorts t_values n q1164.2
def xf_rf_place_32 (t_lines : (Nat → Int32)) (t_numbers : (Nat → Int32)) (t_parts : (Nat → Int32)) (t_sorts : (Nat → Int32)) (t_values : (Nat → Int32)) (n : Nat) (t_thrown : Int32) (v2 : Int32) (v3 : Int32) (s1 : Int32) : Option (Int64 × Int32) :=
  (xf_rf_fails t_thrown s1 ((1 : Int32))).bind fun q1147 =>
  if q1147.1 = (0 : Int32) then
    ((xf_rf_isPlaced t_parts t_sorts v3).bind fun q1162 =>
    if q1162 = (0 : Int32) then
      (xf_rf_place_53 t_lines t_numbers t_parts t_sorts t_values n q1147.2 v2 v3 ((1 : Int32)))
    else
      xf_rf_place_53 t_lines t_numbers t_parts t_sorts t_values n q1147.2 v2 v3 ((0 : Int32)))
  else
    xf_rf_place_60 t_lines t_numbers t_parts t_sorts t_values n q1147.2
def xf_rf_place_27 (t_lines : (Nat → Int32)) (t_numbers : (Nat → Int32)) (t_parts : (Nat → Int32)) (t_sorts : (Nat → Int32)) (t_values : (Nat → Int32)) (n : Nat) (t_thrown : Int32) (v2 : Int32) (v3 : Int32) : Option (Int64 × Int32) :=
  xf_rf_place_32 t_lines t_numbers t_parts t_sorts t_values n t_thrown v2 v3 ((1 : Int32))
def xf_rf_place (t_lines : (Nat → Int32)) (t_numbers : (Nat → Int32)) (t_parts : (Nat → Int32)) (t_sorts : (Nat → Int32)) (t_values : (Nat → Int32)) (n : Nat) (t_thrown : Int32) (a1 : Int32) (a2 : Int32) : Option (Int64 × Int32) :=
  (xf_rf_find t_lines t_numbers n ((0 : Int32)) a1).bind fun q1145 =>
  if q1145 = ((-1 : Int32)) then
    (xf_rf_place_27 t_lines t_numbers t_parts t_sorts t_values n ((0 : Int32)) a2 q1145)
  else
    if a2 < (0 : Int32) then
      (xf_rf_place_27 t_lines t_numbers t_parts t_sorts t_values n ((0 : Int32)) a2 q1145)
    else
      if ((2 : Int32)) < a2 then
        (xf_rf_place_27 t_lines t_numbers t_parts t_sorts t_values n ((0 : Int32)) a2 q1145)
      else
        xf_rf_place_32 t_lines t_numbers t_parts t_sorts t_values n ((0 : Int32)) a2 q1145 ((0 : Int32))
def xf_rf_isLineAlike_107 (t_items : (Nat → Int32)) (t_letters : (Nat → Int32)) (t_likes : (Nat → Int32)) (t_lines : (Nat → Int32)) (t_names : (Nat → Int32)) (t_numbers : (Nat → Int32)) (t_parts : (Nat → Int32)) (t_sorts : (Nat → Int32)) (t_values : (Nat → Int32)) (n : Nat) (v3 : Int32) : Option (Int32) :=
  if fits .boolean (.int v3) = true then some v3 else none
def xf_rf_isArgumentAlike_57 (t_items : (Nat → Int32)) (t_likes : (Nat → Int32)) (t_lines : (Nat → Int32)) (t_numbers : (Nat → Int32)) (t_sorts : (Nat → Int32)) (t_values : (Nat → Int32)) (n : Nat) (s0 : Int32) : Option (Int32) :=
  if fits .boolean (.int s0) = true then some s0 else none
def xf_rf_isArgumentAlike_37 (t_items : (Nat → Int32)) (t_likes : (Nat → Int32)) (t_lines : (Nat → Int32)) (t_numbers : (Nat → Int32)) (t_sorts : (Nat → Int32)) (t_values : (Nat → Int32)) (n : Nat) (v1 : Int32) (v2 : Int32) : Option (Int32) :=
  if xr_in v1 960 = true then
    (if xr_in v2 960 = true then
      (if (t_values v1.toNatClampNeg) = (t_values v2.toNatClampNeg) then
        (xf_rf_isArgumentAlike_57 t_items t_likes t_lines t_numbers t_sorts t_values n ((1 : Int32)))
      else
        xf_rf_isArgumentAlike_57 t_items t_likes t_lines t_numbers t_sorts t_values n ((0 : Int32)))
    else none)
  else none
def xf_rf_isArgumentAlike_98 (t_items : (Nat → Int32)) (t_likes : (Nat → Int32)) (t_lines : (Nat → Int32)) (t_numbers : (Nat → Int32)) (t_sorts : (Nat → Int32)) (t_values : (Nat → Int32)) (n : Nat) (s0 : Int32) : Option (Int32) :=
  if fits .boolean (.int s0) = true then some s0 else none
def xf_rf_isArgumentAlike_204 (t_items : (Nat → Int32)) (t_likes : (Nat → Int32)) (t_lines : (Nat → Int32)) (t_numbers : (Nat → Int32)) (t_sorts : (Nat → Int32)) (t_values : (Nat → Int32)) (k157 : Int32 → Int32 → Int32 → Int32 → Option (Int32)) (n : Nat) (v1 : Int32) (v2 : Int32) (v4 : Int32) (s0 : Int32) : Option (Int32) :=
  k157 v1 v2 s0 (v4 + (1 : Int32))
def xf_rf_isArgumentAlike_203 (t_items : (Nat → Int32)) (t_likes : (Nat → Int32)) (t_lines : (Nat → Int32)) (t_numbers : (Nat → Int32)) (t_sorts : (Nat → Int32)) (t_values : (Nat → Int32)) (k157 : Int32 → Int32 → Int32 → Int32 → Option (Int32)) (n : Nat) (v1 : Int32) (v2 : Int32) (v4 : Int32) : Option (Int32) :=
  xf_rf_isArgumentAlike_204 t_items t_likes t_lines t_numbers t_sorts t_values k157 n v1 v2 v4 ((0 : Int32))
def xf_rf_isArgumentAlike_157 (t_items : (Nat → Int32)) (t_likes : (Nat → Int32)) (t_lines : (Nat → Int32)) (t_numbers : (Nat → Int32)) (t_sorts : (Nat → Int32)) (t_values : (Nat → Int32)) (n : Nat) (N : Nat) : Int32 → Int32 → Int32 → Int32 → Option (Int32) :=
  Nat.rec (motive := fun _ => Int32 → Int32 → Int32 → Int32 → Option (Int32)) (fun _ _ _ _ => none) (fun _ k157 v1 v2 v3 v4 =>
    if xr_in v1 960 = true then
      (if v4 < (t_values v1.toNatClampNeg) then
        (if v3 = (0 : Int32) then
          (xf_rf_isArgumentAlike_203 t_items t_likes t_lines t_numbers t_sorts t_values k157 n v1 v2 v4)
        else
          (xf_rf_referred t_items t_lines t_numbers t_sorts t_values n v1 v4).bind fun q1241 =>
          if xr_in q1241 40 = true then
            ((xf_rf_referred t_items t_lines t_numbers t_sorts t_values n v2 v4).bind fun q1243 =>
            if xr_in q1243 40 = true then
              (if (t_likes q1241.toNatClampNeg) = (t_likes q1243.toNatClampNeg) then
                (xf_rf_isArgumentAlike_204 t_items t_likes t_lines t_numbers t_sorts t_values k157 n v1 v2 v4 ((1 : Int32)))
              else
                xf_rf_isArgumentAlike_203 t_items t_likes t_lines t_numbers t_sorts t_values k157 n v1 v2 v4)
            else none)
          else none)
      else
        if fits .boolean (.int v3) = true then some v3 else none)
    else none) N
def xf_rf_isArgumentAlike (t_items : (Nat → Int32)) (t_likes : (Nat → Int32)) (t_lines : (Nat → Int32)) (t_numbers : (Nat → Int32)) (t_sorts : (Nat → Int32)) (t_values : (Nat → Int32)) (n : Nat) (a1 : Int32) (a2 : Int32) : Option (Int32) :=
  if xr_in a1 960 = true then
    (if xr_in a2 960 = true then
      (if (t_sorts a1.toNatClampNeg) = (t_sorts a2.toNatClampNeg) then
        (if xr_in a1 960 = true then
          (if (t_sorts a1.toNatClampNeg) = (0 : Int32) then
            (xf_rf_isArgumentAlike_37 t_items t_likes t_lines t_numbers t_sorts t_values n a1 a2)
          else
            if xr_in a1 960 = true then
              (if (t_sorts a1.toNatClampNeg) = ((6 : Int32)) then
                (xf_rf_isArgumentAlike_37 t_items t_likes t_lines t_numbers t_sorts t_values n a1 a2)
              else
                if xr_in a1 960 = true then
                  (if (t_sorts a1.toNatClampNeg) = ((2 : Int32)) then
                    ((xf_rf_referred t_items t_lines t_numbers t_sorts t_values n a1 ((0 : Int32))).bind fun q1227 =>
                    if xr_in q1227 40 = true then
                      ((xf_rf_referred t_items t_lines t_numbers t_sorts t_values n a2 ((0 : Int32))).bind fun q1229 =>
                      if xr_in q1229 40 = true then
                        (if (t_likes q1227.toNatClampNeg) = (t_likes q1229.toNatClampNeg) then
                          (xf_rf_isArgumentAlike_98 t_items t_likes t_lines t_numbers t_sorts t_values n ((1 : Int32)))
                        else
                          xf_rf_isArgumentAlike_98 t_items t_likes t_lines t_numbers t_sorts t_values n ((0 : Int32)))
                      else none)
                    else none)
                  else
                    if xr_in a1 960 = true then
                      (if xr_in a2 960 = true then
                        (if (t_values a1.toNatClampNeg) = (t_values a2.toNatClampNeg) then
                          (if xr_in a1 960 = true then
                            (if (t_sorts a1.toNatClampNeg) = ((4 : Int32)) then
                              (xf_rf_isArgumentAlike_157 t_items t_likes t_lines t_numbers t_sorts t_values n n a1 a2 ((1 : Int32)) ((0 : Int32)))
                            else
                              if xr_in a1 960 = true then
                                ((xf_rf_isSame t_items t_items 19200 19200 n (((20 : Int32)) * a1) (((20 : Int32)) * a2) (t_values a1.toNatClampNeg)).bind fun q1254 =>
                                if fits .boolean (.int q1254) = true then some q1254 else none)
                              else none)
                          else none)
                        else
                          some ((0 : Int32)))
                      else none)
                    else none)
                else none)
            else none)
        else none)
      else
        some ((0 : Int32)))
    else none)
  else none
def xf_rf_isLineAlike_67 (t_items : (Nat → Int32)) (t_letters : (Nat → Int32)) (t_likes : (Nat → Int32)) (t_lines : (Nat → Int32)) (t_names : (Nat → Int32)) (t_numbers : (Nat → Int32)) (t_parts : (Nat → Int32)) (t_sorts : (Nat → Int32)) (t_values : (Nat → Int32)) (n : Nat) (N : Nat) : Int32 → Int32 → Int32 → Int32 → Option (Int32) :=
  Nat.rec (motive := fun _ => Int32 → Int32 → Int32 → Int32 → Option (Int32)) (fun _ _ _ _ => none) (fun _ k67 v1 v2 v3 v4 =>
    if xr_in v1 120 = true then
      (if v4 < (t_parts v1.toNatClampNeg) then
        (if v3 = (0 : Int32) then
          (xf_rf_isLineAlike_107 t_items t_letters t_likes t_lines t_names t_numbers t_parts t_sorts t_values n v3)
        else
          (xf_rf_isArgumentAlike t_items t_likes t_lines t_numbers t_sorts t_values n ((((8 : Int32)) * v1) + v4) ((((8 : Int32)) * v2) + v4)).bind fun q1256 =>
          k67 v1 v2 q1256 (v4 + (1 : Int32)))
      else
        xf_rf_isLineAlike_107 t_items t_letters t_likes t_lines t_names t_numbers t_parts t_sorts t_values n v3)
    else none) N
def xf_rf_isLineAlike_63 (t_items : (Nat → Int32)) (t_letters : (Nat → Int32)) (t_likes : (Nat → Int32)) (t_lines : (Nat → Int32)) (t_names : (Nat → Int32)) (t_numbers : (Nat → Int32)) (t_parts : (Nat → Int32)) (t_sorts : (Nat → Int32)) (t_values : (Nat → Int32)) (n : Nat) (v1 : Int32) (v2 : Int32) (s0 : Int32) : Option (Int32) :=
  xf_rf_isLineAlike_67 t_items t_letters t_likes t_lines t_names t_numbers t_parts t_sorts t_values n n v1 v2 s0 ((0 : Int32))
def xf_rf_isLineAlike_62 (t_items : (Nat → Int32)) (t_letters : (Nat → Int32)) (t_likes : (Nat → Int32)) (t_lines : (Nat → Int32)) (t_names : (Nat → Int32)) (t_numbers : (Nat → Int32)) (t_parts : (Nat → Int32)) (t_sorts : (Nat → Int32)) (t_values : (Nat → Int32)) (n : Nat) (v1 : Int32) (v2 : Int32) : Option (Int32) :=
  xf_rf_isLineAlike_63 t_items t_letters t_likes t_lines t_names t_numbers t_parts t_sorts t_values n v1 v2 ((0 : Int32))
def xf_rf_isLineAlike (t_items : (Nat → Int32)) (t_letters : (Nat → Int32)) (t_likes : (Nat → Int32)) (t_lines : (Nat → Int32)) (t_names : (Nat → Int32)) (t_numbers : (Nat → Int32)) (t_parts : (Nat → Int32)) (t_sorts : (Nat → Int32)) (t_values : (Nat → Int32)) (n : Nat) (a1 : Int32) (a2 : Int32) : Option (Int32) :=
  if xr_in a1 120 = true then
    (if xr_in a2 120 = true then
      (if (t_letters a1.toNatClampNeg) = (t_letters a2.toNatClampNeg) then
        (if xr_in a1 120 = true then
          (if xr_in a2 120 = true then
            (if (t_parts a1.toNatClampNeg) = (t_parts a2.toNatClampNeg) then
              (if xr_in a1 120 = true then
                ((xf_rf_isSame t_names t_names 960 960 n (((8 : Int32)) * a1) (((8 : Int32)) * a2) (t_letters a1.toNatClampNeg)).bind fun q1208 =>
                if q1208 = (0 : Int32) then
                  (xf_rf_isLineAlike_62 t_items t_letters t_likes t_lines t_names t_numbers t_parts t_sorts t_values n a1 a2)
                else
                  xf_rf_isLineAlike_63 t_items t_letters t_likes t_lines t_names t_numbers t_parts t_sorts t_values n a1 a2 ((1 : Int32)))
              else none)
            else
              xf_rf_isLineAlike_62 t_items t_letters t_likes t_lines t_names t_numbers t_parts t_sorts t_values n a1 a2)
          else none)
        else none)
      else
        xf_rf_isLineAlike_62 t_items t_letters t_likes t_lines t_names t_numbers t_parts t_sorts t_values n a1 a2)
    else none)
  else none
def xf_rf_findLikes_106 (t_items : (Nat → Int32)) (t_letters : (Nat → Int32)) (t_lines : (Nat → Int32)) (t_names : (Nat → Int32)) (t_numbers : (Nat → Int32)) (t_parts : (Nat → Int32)) (t_sorts : (Nat → Int32)) (t_values : (Nat → Int32)) (k27 : (Nat → Int32) → (Nat → Int32) → (Nat → Int64) → Int32 → Option (Unit × (Nat → Int32) × (Nat → Int32) × (Nat → Int64))) (k35 : (Nat → Int32) → (Nat → Int32) → (Nat → Int64) → Int32 → Int32 → Option (Unit × (Nat → Int32) × (Nat → Int32) × (Nat → Int64))) (k60 : (Nat → Int32) → (Nat → Int32) → (Nat → Int64) → Int32 → Int32 → Int32 → Option (Unit × (Nat → Int32) × (Nat → Int32) × (Nat → Int64))) (n : Nat) (t_depths : (Nat → Int32)) (t_likes : (Nat → Int32)) (t_ways : (Nat → Int64)) (v1 : Int32) (v2 : Int32) (v3 : Int32) : Option (Unit × (Nat → Int32) × (Nat → Int32) × (Nat → Int64)) :=
  k60 t_depths t_likes t_ways v1 v2 (v3 + (1 : Int32))
def xf_rf_findLikes_112 (t_items : (Nat → Int32)) (t_letters : (Nat → Int32)) (t_lines : (Nat → Int32)) (t_names : (Nat → Int32)) (t_numbers : (Nat → Int32)) (t_parts : (Nat → Int32)) (t_sorts : (Nat → Int32)) (t_values : (Nat → Int32)) (k27 : (Nat → Int32) → (Nat → Int32) → (Nat → Int64) → Int32 → Option (Unit × (Nat → Int32) × (Nat → Int32) × (Nat → Int64))) (k35 : (Nat → Int32) → (Nat → Int32) → (Nat → Int64) → Int32 → Int32 → Option (Unit × (Nat → Int32) × (Nat → Int32) × (Nat → Int64))) (n : Nat) (t_depths : (Nat → Int32)) (t_likes : (Nat → Int32)) (t_ways : (Nat → Int64)) (v1 : Int32) (v2 : Int32) : Option (Unit × (Nat → Int32) × (Nat → Int32) × (Nat → Int64)) :=
  k35 t_depths t_likes t_ways v1 (v2 + (1 : Int32))
def xf_rf_findLikes_60 (t_items : (Nat → Int32)) (t_letters : (Nat → Int32)) (t_lines : (Nat → Int32)) (t_names : (Nat → Int32)) (t_numbers : (Nat → Int32)) (t_parts : (Nat → Int32)) (t_sorts : (Nat → Int32)) (t_values : (Nat → Int32)) (k27 : (Nat → Int32) → (Nat → Int32) → (Nat → Int64) → Int32 → Option (Unit × (Nat → Int32) × (Nat → Int32) × (Nat → Int64))) (k35 : (Nat → Int32) → (Nat → Int32) → (Nat → Int64) → Int32 → Int32 → Option (Unit × (Nat → Int32) × (Nat → Int32) × (Nat → Int64))) (n : Nat) (N : Nat) : (Nat → Int32) → (Nat → Int32) → (Nat → Int64) → Int32 → Int32 → Int32 → Option (Unit × (Nat → Int32) × (Nat → Int32) × (Nat → Int64)) :=
  Nat.rec (motive := fun _ => (Nat → Int32) → (Nat → Int32) → (Nat → Int64) → Int32 → Int32 → Int32 → Option (Unit × (Nat → Int32) × (Nat → Int32) × (Nat → Int64))) (fun _ _ _ _ _ _ => none) (fun _ k60 t_depths t_likes t_ways v1 v2 v3 =>
    if v3 < v2 then
      (if xr_in v2 40 = true then
        (if (t_likes v2.toNatClampNeg) = v2 then
          (if xr_in v3 40 = true then
            (if (t_depths v3.toNatClampNeg) = v1 then
              ((xf_rf_isLineAlike t_items t_letters t_likes t_lines t_names t_numbers t_parts t_sorts t_values n v2 v3).bind fun q1257 =>
              if q1257 = (0 : Int32) then
                (xf_rf_findLikes_106 t_items t_letters t_lines t_names t_numbers t_parts t_sorts t_values k27 k35 k60 n t_depths t_likes t_ways v1 v2 v3)
              else
                if xr_in v3 40 = true then
                  (if xr_in v2 40 = true then
                    (xf_rf_findLikes_106 t_items t_letters t_lines t_names t_numbers t_parts t_sorts t_values k27 k35 k60 n t_depths (upd t_likes v2.toNatClampNeg ((t_likes v3.toNatClampNeg))) t_ways v1 v2 v3)
                  else none)
                else none)
            else
              xf_rf_findLikes_106 t_items t_letters t_lines t_names t_numbers t_parts t_sorts t_values k27 k35 k60 n t_depths t_likes t_ways v1 v2 v3)
          else none)
        else
          xf_rf_findLikes_112 t_items t_letters t_lines t_names t_numbers t_parts t_sorts t_values k27 k35 n t_depths t_likes t_ways v1 v2)
      else none)
    else
      xf_rf_findLikes_112 t_items t_letters t_lines t_names t_numbers t_parts t_sorts t_values k27 k35 n t_depths t_likes t_ways v1 v2) N
def xf_rf_findLikes_35 (t_items : (Nat → Int32)) (t_letters : (Nat → Int32)) (t_lines : (Nat → Int32)) (t_names : (Nat → Int32)) (t_numbers : (Nat → Int32)) (t_parts : (Nat → Int32)) (t_sorts : (Nat → Int32)) (t_values : (Nat → Int32)) (k27 : (Nat → Int32) → (Nat → Int32) → (Nat → Int64) → Int32 → Option (Unit × (Nat → Int32) × (Nat → Int32) × (Nat → Int64))) (n : Nat) (N : Nat) : (Nat → Int32) → (Nat → Int32) → (Nat → Int64) → Int32 → Int32 → Option (Unit × (Nat → Int32) × (Nat → Int32) × (Nat → Int64)) :=
  Nat.rec (motive := fun _ => (Nat → Int32) → (Nat → Int32) → (Nat → Int64) → Int32 → Int32 → Option (Unit × (Nat → Int32) × (Nat → Int32) × (Nat → Int64))) (fun _ _ _ _ _ => none) (fun _ k35 t_depths t_likes t_ways v1 v2 =>
    if v2 < (t_lines ((0 : Int32)).toNatClampNeg) then
      (if xr_in v2 40 = true then
        (if (t_depths v2.toNatClampNeg) = v1 then
          (xf_rf_findLikes_60 t_items t_letters t_lines t_names t_numbers t_parts t_sorts t_values k27 k35 n n t_depths t_likes t_ways v1 v2 ((0 : Int32)))
        else
          xf_rf_findLikes_112 t_items t_letters t_lines t_names t_numbers t_parts t_sorts t_values k27 k35 n t_depths t_likes t_ways v1 v2)
      else none)
    else
      k27 t_depths t_likes t_ways (v1 + (1 : Int32))) N
def xf_rf_findLikes_27 (t_items : (Nat → Int32)) (t_letters : (Nat → Int32)) (t_lines : (Nat → Int32)) (t_names : (Nat → Int32)) (t_numbers : (Nat → Int32)) (t_parts : (Nat → Int32)) (t_sorts : (Nat → Int32)) (t_values : (Nat → Int32)) (n : Nat) (N : Nat) : (Nat → Int32) → (Nat → Int32) → (Nat → Int64) → Int32 → Option (Unit × (Nat → Int32) × (Nat → Int32) × (Nat → Int64)) :=
  Nat.rec (motive := fun _ => (Nat → Int32) → (Nat → Int32) → (Nat → Int64) → Int32 → Option (Unit × (Nat → Int32) × (Nat → Int32) × (Nat → Int64))) (fun _ _ _ _ => none) (fun _ k27 t_depths t_likes t_ways v1 =>
    if v1 < ((40 : Int32)) then
      (xf_rf_findLikes_35 t_items t_letters t_lines t_names t_numbers t_parts t_sorts t_values k27 n n t_depths t_likes t_ways v1 ((0 : Int32)))
    else
      some ((), t_depths, t_likes, t_ways)) N
def xf_rf_findLikes_6 (t_items : (Nat → Int32)) (t_letters : (Nat → Int32)) (t_lines : (Nat → Int32)) (t_names : (Nat → Int32)) (t_numbers : (Nat → Int32)) (t_parts : (Nat → Int32)) (t_sorts : (Nat → Int32)) (t_values : (Nat → Int32)) (n : Nat) (N : Nat) : (Nat → Int32) → (Nat → Int32) → (Nat → Int64) → Int32 → Option (Unit × (Nat → Int32) × (Nat → Int32) × (Nat → Int64)) :=
  Nat.rec (motive := fun _ => (Nat → Int32) → (Nat → Int32) → (Nat → Int64) → Int32 → Option (Unit × (Nat → Int32) × (Nat → Int32) × (Nat → Int64))) (fun _ _ _ _ => none) (fun _ k6 t_depths t_likes t_ways v1 =>
    if v1 < ((40 : Int32)) then
      (if xr_in v1 40 = true then
        (k6 t_depths (upd t_likes v1.toNatClampNeg v1) t_ways (v1 + (1 : Int32)))
      else none)
    else
      xf_rf_findLikes_27 t_items t_letters t_lines t_names t_numbers t_parts t_sorts t_values n n t_depths t_likes t_ways ((0 : Int32))) N
def xf_rf_findLikes (t_items : (Nat → Int32)) (t_letters : (Nat → Int32)) (t_lines : (Nat → Int32)) (t_names : (Nat → Int32)) (t_numbers : (Nat → Int32)) (t_parts : (Nat → Int32)) (t_sorts : (Nat → Int32)) (t_values : (Nat → Int32)) (n : Nat) (t_depths : (Nat → Int32)) (t_likes : (Nat → Int32)) (t_ways : (Nat → Int64)) : Option (Unit × (Nat → Int32) × (Nat → Int32) × (Nat → Int64)) :=
  (xf_rf_findDepths t_items t_lines t_numbers t_parts t_sorts t_values n t_depths t_ways).bind fun q1183 =>
  xf_rf_findLikes_6 t_items t_letters t_lines t_names t_numbers t_parts t_sorts t_values n n q1183.2.1 t_likes q1183.2.2 ((0 : Int32))
def xf_rf_alike_71 (t_items : (Nat → Int32)) (t_letters : (Nat → Int32)) (t_lines : (Nat → Int32)) (t_names : (Nat → Int32)) (t_numbers : (Nat → Int32)) (t_parts : (Nat → Int32)) (t_sorts : (Nat → Int32)) (t_values : (Nat → Int32)) (n : Nat) (t_depths : (Nat → Int32)) (t_likes : (Nat → Int32)) (t_thrown : Int32) (t_ways : (Nat → Int64)) (s0 : Int32) : Option (Int32 × (Nat → Int32) × (Nat → Int32) × Int32 × (Nat → Int64)) :=
  if fits .boolean (.int s0) = true then some (s0, t_depths, t_likes, t_thrown, t_ways) else none
def xf_rf_alike_37 (t_items : (Nat → Int32)) (t_letters : (Nat → Int32)) (t_lines : (Nat → Int32)) (t_names : (Nat → Int32)) (t_numbers : (Nat → Int32)) (t_parts : (Nat → Int32)) (t_sorts : (Nat → Int32)) (t_values : (Nat → Int32)) (n : Nat) (t_depths : (Nat → Int32)) (t_likes : (Nat → Int32)) (t_thrown : Int32) (t_ways : (Nat → Int64)) (v3 : Int32) (v4 : Int32) (s1 : Int32) : Option (Int32 × (Nat → Int32) × (Nat → Int32) × Int32 × (Nat → Int64)) :=
  (xf_rf_fails t_thrown s1 ((1 : Int32))).bind fun q1181 =>
  if q1181.1 = (0 : Int32) then
    ((xf_rf_findLikes t_items t_letters t_lines t_names t_numbers t_parts t_sorts t_values n t_depths t_likes t_ways).bind fun q1261 =>
    if xr_in v3 40 = true then
      (if xr_in v4 40 = true then
        (if (q1261.2.2.1 v3.toNatClampNeg) = (q1261.2.2.1 v4.toNatClampNeg) then
          (xf_rf_alike_71 t_items t_letters t_lines t_names t_numbers t_parts t_sorts t_values n q1261.2.1 q1261.2.2.1 q1181.2 q1261.2.2.2 ((1 : Int32)))
        else
          xf_rf_alike_71 t_items t_letters t_lines t_names t_numbers t_parts t_sorts t_values n q1261.2.1 q1261.2.2.1 q1181.2 q1261.2.2.2 ((0 : Int32)))
      else none)
    else none)
  else
    some ((0 : Int32), t_depths, t_likes, q1181.2, t_ways)
def xf_rf_alike_32 (t_items : (Nat → Int32)) (t_letters : (Nat → Int32)) (t_lines : (Nat → Int32)) (t_names : (Nat → Int32)) (t_numbers : (Nat → Int32)) (t_parts : (Nat → Int32)) (t_sorts : (Nat → Int32)) (t_values : (Nat → Int32)) (n : Nat) (t_depths : (Nat → Int32)) (t_likes : (Nat → Int32)) (t_thrown : Int32) (t_ways : (Nat → Int64)) (v3 : Int32) (v4 : Int32) : Option (Int32 × (Nat → Int32) × (Nat → Int32) × Int32 × (Nat → Int64)) :=
  xf_rf_alike_37 t_items t_letters t_lines t_names t_numbers t_parts t_sorts t_values n t_depths t_likes t_thrown t_ways v3 v4 ((1 : Int32))
def xf_rf_alike (t_items : (Nat → Int32)) (t_letters : (Nat → Int32)) (t_lines : (Nat → Int32)) (t_names : (Nat → Int32)) (t_numbers : (Nat → Int32)) (t_parts : (Nat → Int32)) (t_sorts : (Nat → Int32)) (t_values : (Nat → Int32)) (n : Nat) (t_depths : (Nat → Int32)) (t_likes : (Nat → Int32)) (t_thrown : Int32) (t_ways : (Nat → Int64)) (a1 : Int32) (a2 : Int32) : Option (Int32 × (Nat → Int32) × (Nat → Int32) × Int32 × (Nat → Int64)) :=
  (xf_rf_find t_lines t_numbers n ((0 : Int32)) a1).bind fun q1178 =>
  (xf_rf_find t_lines t_numbers n ((0 : Int32)) a2).bind fun q1179 =>
  if q1178 = ((-1 : Int32)) then
    (xf_rf_alike_32 t_items t_letters t_lines t_names t_numbers t_parts t_sorts t_values n t_depths t_likes ((0 : Int32)) t_ways q1178 q1179)
  else
    if q1179 = ((-1 : Int32)) then
      (xf_rf_alike_32 t_items t_letters t_lines t_names t_numbers t_parts t_sorts t_values n t_depths t_likes ((0 : Int32)) t_ways q1178 q1179)
    else
      xf_rf_alike_37 t_items t_letters t_lines t_names t_numbers t_parts t_sorts t_values n t_depths t_likes ((0 : Int32)) t_ways q1178 q1179 ((0 : Int32))
def xf_rf_join_128 (k11 : (Nat → Int32) → (Nat → Int32) → (Nat → Int32) → (Nat → Int32) → (Nat → Int32) → (Nat → Int32) → (Nat → Int32) → (Nat → Int32) → (Nat → Int32) → Int32 → (Nat → Int32) → (Nat → Int64) → Int32 → Option (Int32 × (Nat → Int32) × (Nat → Int32) × (Nat → Int32) × (Nat → Int32) × (Nat → Int32) × (Nat → Int32) × (Nat → Int32) × (Nat → Int32) × (Nat → Int32) × Int32 × (Nat → Int32) × (Nat → Int64))) (k26 : (Nat → Int32) → (Nat → Int32) → (Nat → Int32) → (Nat → Int32) → (Nat → Int32) → (Nat → Int32) → (Nat → Int32) → (Nat → Int32) → (Nat → Int32) → Int32 → (Nat → Int32) → (Nat → Int64) → Int32 → Int32 → Option (Int32 × (Nat → Int32) × (Nat → Int32) × (Nat → Int32) × (Nat → Int32) × (Nat → Int32) × (Nat → Int32) × (Nat → Int32) × (Nat → Int32) × (Nat → Int32) × Int32 × (Nat → Int32) × (Nat → Int64))) (n : Nat) (t_depths : (Nat → Int32)) (t_items : (Nat → Int32)) (t_letters : (Nat → Int32)) (t_likes : (Nat → Int32)) (t_lines : (Nat → Int32)) (t_names : (Nat → Int32)) (t_numbers : (Nat → Int32)) (t_parts : (Nat → Int32)) (t_sorts : (Nat → Int32)) (t_thrown : Int32) (t_values : (Nat → Int32)) (t_ways : (Nat → Int64)) (v1 : Int32) (v2 : Int32) : Option (Int32 × (Nat → Int32) × (Nat → Int32) × (Nat → Int32) × (Nat → Int32) × (Nat → Int32) × (Nat → Int32) × (Nat → Int32) × (Nat → Int32) × (Nat → Int32) × Int32 × (Nat → Int32) × (Nat → Int64)) :=
  k26 t_depths t_items t_letters t_likes t_lines t_names t_numbers t_parts t_sorts t_thrown t_values t_ways v1 (v2 + (1 : Int32))
def xf_rf_join_75 (k11 : (Nat → Int32) → (Nat → Int32) → (Nat → Int32) → (Nat → Int32) → (Nat → Int32) → (Nat → Int32) → (Nat → Int32) → (Nat → Int32) → (Nat → Int32) → Int32 → (Nat → Int32) → (Nat → Int64) → Int32 → Option (Int32 × (Nat → Int32) × (Nat → Int32) × (Nat → Int32) × (Nat → Int32) × (Nat → Int32) × (Nat → Int32) × (Nat → Int32) × (Nat → Int32) × (Nat → Int32) × Int32 × (Nat → Int32) × (Nat → Int64))) (k26 : (Nat → Int32) → (Nat → Int32) → (Nat → Int32) → (Nat → Int32) → (Nat → Int32) → (Nat → Int32) → (Nat → Int32) → (Nat → Int32) → (Nat → Int32) → Int32 → (Nat → Int32) → (Nat → Int64) → Int32 → Int32 → Option (Int32 × (Nat → Int32) × (Nat → Int32) × (Nat → Int32) × (Nat → Int32) × (Nat → Int32) × (Nat → Int32) × (Nat → Int32) × (Nat → Int32) × (Nat → Int32) × Int32 × (Nat → Int32) × (Nat → Int64))) (n : Nat) (N : Nat) : (Nat → Int32) → (Nat → Int32) → (Nat → Int32) → (Nat → Int32) → (Nat → Int32) → (Nat → Int32) → (Nat → Int32) → (Nat → Int32) → (Nat → Int32) → Int32 → (Nat → Int32) → (Nat → Int64) → Int32 → Int32 → Int32 → Option (Int32 × (Nat → Int32) × (Nat → Int32) × (Nat → Int32) × (Nat → Int32) × (Nat → Int32) × (Nat → Int32) × (Nat → Int32) × (Nat → Int32) × (Nat → Int32) × Int32 × (Nat → Int32) × (Nat → Int64)) :=
  Nat.rec (motive := fun _ => (Nat → Int32) → (Nat → Int32) → (Nat → Int32) → (Nat → Int32) → (Nat → Int32) → (Nat → Int32) → (Nat → Int32) → (Nat → Int32) → (Nat → Int32) → Int32 → (Nat → Int32) → (Nat → Int64) → Int32 → Int32 → Int32 → Option (Int32 × (Nat → Int32) × (Nat → Int32) × (Nat → Int32) × (Nat → Int32) × (Nat → Int32) × (Nat → Int32) × (Nat → Int32) × (Nat → Int32) × (Nat → Int32) × Int32 × (Nat → Int32) × (Nat → Int64))) (fun _ _ _ _ _ _ _ _ _ _ _ _ _ _ _ => none) (fun _ k75 t_depths t_items t_letters t_likes t_lines t_names t_numbers t_parts t_sorts t_thrown t_values t_ways v1 v2 v3 =>
    if xr_in v2 960 = true then
      (if v3 < (t_values v2.toNatClampNeg) then
        (if xr_in v2 960 = true then
          (if (t_sorts v2.toNatClampNeg) = ((4 : Int32)) then
            ((xf_rf_referred t_items t_lines t_numbers t_sorts t_values n v2 v3).bind fun q1281 =>
            if xr_in q1281 40 = true then
              (if xr_in (t_likes q1281.toNatClampNeg) 120 = true then
                (if xr_in ((((20 : Int32)) * v2) + v3) 19200 = true then
                  (k75 t_depths (upd t_items ((((20 : Int32)) * v2) + v3).toNatClampNeg ((t_numbers (t_likes q1281.toNatClampNeg).toNatClampNeg))) t_letters t_likes t_lines t_names t_numbers t_parts t_sorts t_thrown t_values t_ways v1 v2 (v3 + (1 : Int32)))
                else none)
              else none)
            else none)
          else
            xf_rf_join_128 k11 k26 n t_depths t_items t_letters t_likes t_lines t_names t_numbers t_parts t_sorts t_thrown t_values t_ways v1 v2)
        else none)
      else
        xf_rf_join_128 k11 k26 n t_depths t_items t_letters t_likes t_lines t_names t_numbers t_parts t_sorts t_thrown t_values t_ways v1 v2)
    else none) N
def xf_rf_join_73 (k11 : (Nat → Int32) → (Nat → Int32) → (Nat → Int32) → (Nat → Int32) → (Nat → Int32) → (Nat → Int32) → (Nat → Int32) → (Nat → Int32) → (Nat → Int32) → Int32 → (Nat → Int32) → (Nat → Int64) → Int32 → Option (Int32 × (Nat → Int32) × (Nat → Int32) × (Nat → Int32) × (Nat → Int32) × (Nat → Int32) × (Nat → Int32) × (Nat → Int32) × (Nat → Int32) × (Nat → Int32) × Int32 × (Nat → Int32) × (Nat → Int64))) (k26 : (Nat → Int32) → (Nat → Int32) → (Nat → Int32) → (Nat → Int32) → (Nat → Int32) → (Nat → Int32) → (Nat → Int32) → (Nat → Int32) → (Nat → Int32) → Int32 → (Nat → Int32) → (Nat → Int64) → Int32 → Int32 → Option (Int32 × (Nat → Int32) × (Nat → Int32) × (Nat → Int32) × (Nat → Int32) × (Nat → Int32) × (Nat → Int32) × (Nat → Int32) × (Nat → Int32) × (Nat → Int32) × Int32 × (Nat → Int32) × (Nat → Int64))) (n : Nat) (t_depths : (Nat → Int32)) (t_items : (Nat → Int32)) (t_letters : (Nat → Int32)) (t_likes : (Nat → Int32)) (t_lines : (Nat → Int32)) (t_names : (Nat → Int32)) (t_numbers : (Nat → Int32)) (t_parts : (Nat → Int32)) (t_sorts : (Nat → Int32)) (t_thrown : Int32) (t_values : (Nat → Int32)) (t_ways : (Nat → Int64)) (v1 : Int32) (v2 : Int32) : Option (Int32 × (Nat → Int32) × (Nat → Int32) × (Nat → Int32) × (Nat → Int32) × (Nat → Int32) × (Nat → Int32) × (Nat → Int32) × (Nat → Int32) × (Nat → Int32) × Int32 × (Nat → Int32) × (Nat → Int64)) :=
  xf_rf_join_75 k11 k26 n n t_depths t_items t_letters t_likes t_lines t_names t_numbers t_parts t_sorts t_thrown t_values t_ways v1 v2 ((0 : Int32))
def xf_rf_join_26 (k11 : (Nat → Int32) → (Nat → Int32) → (Nat → Int32) → (Nat → Int32) → (Nat → Int32) → (Nat → Int32) → (Nat → Int32) → (Nat → Int32) → (Nat → Int32) → Int32 → (Nat → Int32) → (Nat → Int64) → Int32 → Option (Int32 × (Nat → Int32) × (Nat → Int32) × (Nat → Int32) × (Nat → Int32) × (Nat → Int32) × (Nat → Int32) × (Nat → Int32) × (Nat → Int32) × (Nat → Int32) × Int32 × (Nat → Int32) × (Nat → Int64))) (n : Nat) (N : Nat) : (Nat → Int32) → (Nat → Int32) → (Nat → Int32) → (Nat → Int32) → (Nat → Int32) → (Nat → Int32) → (Nat → Int32) → (Nat → Int32) → (Nat → Int32) → Int32 → (Nat → Int32) → (Nat → Int64) → Int32 → Int32 → Option (Int32 × (Nat → Int32) × (Nat → Int32) × (Nat → Int32) × (Nat → Int32) × (Nat → Int32) × (Nat → Int32) × (Nat → Int32) × (Nat → Int32) × (Nat → Int32) × Int32 × (Nat → Int32) × (Nat → Int64)) :=
  Nat.rec (motive := fun _ => (Nat → Int32) → (Nat → Int32) → (Nat → Int32) → (Nat → Int32) → (Nat → Int32) → (Nat → Int32) → (Nat → Int32) → (Nat → Int32) → (Nat → Int32) → Int32 → (Nat → Int32) → (Nat → Int64) → Int32 → Int32 → Option (Int32 × (Nat → Int32) × (Nat → Int32) × (Nat → Int32) × (Nat → Int32) × (Nat → Int32) × (Nat → Int32) × (Nat → Int32) × (Nat → Int32) × (Nat → Int32) × Int32 × (Nat → Int32) × (Nat → Int64))) (fun _ _ _ _ _ _ _ _ _ _ _ _ _ _ => none) (fun _ k26 t_depths t_items t_letters t_likes t_lines t_names t_numbers t_parts t_sorts t_thrown t_values t_ways v1 v2 =>
    if xr_in v1 120 = true then
      (if v2 < ((((8 : Int32)) * v1) + (t_parts v1.toNatClampNeg)) then
        (if xr_in v2 960 = true then
          (if (t_sorts v2.toNatClampNeg) = ((2 : Int32)) then
            ((xf_rf_referred t_items t_lines t_numbers t_sorts t_values n v2 ((0 : Int32))).bind fun q1273 =>
            if xr_in q1273 40 = true then
              (if xr_in (t_likes q1273.toNatClampNeg) 120 = true then
                (if xr_in v2 960 = true then
                  (xf_rf_join_73 k11 k26 n t_depths t_items t_letters t_likes t_lines t_names t_numbers t_parts t_sorts t_thrown (upd t_values v2.toNatClampNeg ((t_numbers (t_likes q1273.toNatClampNeg).toNatClampNeg))) t_ways v1 v2)
                else none)
              else none)
            else none)
          else
            xf_rf_join_73 k11 k26 n t_depths t_items t_letters t_likes t_lines t_names t_numbers t_parts t_sorts t_thrown t_values t_ways v1 v2)
        else none)
      else
        k11 t_depths t_items t_letters t_likes t_lines t_names t_numbers t_parts t_sorts t_thrown t_values t_ways (v1 + (1 : Int32)))
    else none) N
def xf_rf_join_181 (k146 : (Nat → Int32) → (Nat → Int32) → (Nat → Int32) → (Nat → Int32) → (Nat → Int32) → (Nat → Int32) → (Nat → Int32) → (Nat → Int32) → (Nat → Int32) → Int32 → (Nat → Int32) → (Nat → Int64) → Int32 → Int32 → Int32 → Option (Int32 × (Nat → Int32) × (Nat → Int32) × (Nat → Int32) × (Nat → Int32) × (Nat → Int32) × (Nat → Int32) × (Nat → Int32) × (Nat → Int32) × (Nat → Int32) × Int32 × (Nat → Int32) × (Nat → Int64))) (n : Nat) (t_depths : (Nat → Int32)) (t_items : (Nat → Int32)) (t_letters : (Nat → Int32)) (t_likes : (Nat → Int32)) (t_lines : (Nat → Int32)) (t_names : (Nat → Int32)) (t_numbers : (Nat → Int32)) (t_parts : (Nat → Int32)) (t_sorts : (Nat → Int32)) (t_thrown : Int32) (t_values : (Nat → Int32)) (t_ways : (Nat → Int64)) (v1 : Int32) (v2 : Int32) (v3 : Int32) : Option (Int32 × (Nat → Int32) × (Nat → Int32) × (Nat → Int32) × (Nat → Int32) × (Nat → Int32) × (Nat → Int32) × (Nat → Int32) × (Nat → Int32) × (Nat → Int32) × Int32 × (Nat → Int32) × (Nat → Int64)) :=
  k146 t_depths t_items t_letters t_likes t_lines t_names t_numbers t_parts t_sorts t_thrown t_values t_ways v1 v2 (v3 + (1 : Int32))
def xf_rf_join_146 (n : Nat) (N : Nat) : (Nat → Int32) → (Nat → Int32) → (Nat → Int32) → (Nat → Int32) → (Nat → Int32) → (Nat → Int32) → (Nat → Int32) → (Nat → Int32) → (Nat → Int32) → Int32 → (Nat → Int32) → (Nat → Int64) → Int32 → Int32 → Int32 → Option (Int32 × (Nat → Int32) × (Nat → Int32) × (Nat → Int32) × (Nat → Int32) × (Nat → Int32) × (Nat → Int32) × (Nat → Int32) × (Nat → Int32) × (Nat → Int32) × Int32 × (Nat → Int32) × (Nat → Int64)) :=
  Nat.rec (motive := fun _ => (Nat → Int32) → (Nat → Int32) → (Nat → Int32) → (Nat → Int32) → (Nat → Int32) → (Nat → Int32) → (Nat → Int32) → (Nat → Int32) → (Nat → Int32) → Int32 → (Nat → Int32) → (Nat → Int64) → Int32 → Int32 → Int32 → Option (Int32 × (Nat → Int32) × (Nat → Int32) × (Nat → Int32) × (Nat → Int32) × (Nat → Int32) × (Nat → Int32) × (Nat → Int32) × (Nat → Int32) × (Nat → Int32) × Int32 × (Nat → Int32) × (Nat → Int64))) (fun _ _ _ _ _ _ _ _ _ _ _ _ _ _ _ => none) (fun _ k146 t_depths t_items t_letters t_likes t_lines t_names t_numbers t_parts t_sorts t_thrown t_values t_ways v1 v2 v3 =>
    if v3 < (t_lines ((0 : Int32)).toNatClampNeg) then
      (if xr_in v3 40 = true then
        (if (t_likes v3.toNatClampNeg) = v3 then
          ((xf_rf_copy n t_items t_letters t_names t_numbers t_parts t_sorts t_values v2 v3).bind fun q1288 =>
          xf_rf_join_181 k146 n t_depths q1288.2.1 q1288.2.2.1 t_likes t_lines q1288.2.2.2.1 q1288.2.2.2.2.1 q1288.2.2.2.2.2.1 q1288.2.2.2.2.2.2.1 t_thrown q1288.2.2.2.2.2.2.2 t_ways v1 (v2 + (1 : Int32)) v3)
        else
          xf_rf_join_181 k146 n t_depths t_items t_letters t_likes t_lines t_names t_numbers t_parts t_sorts t_thrown t_values t_ways (v1 + (1 : Int32)) v2 v3)
      else none)
    else
      some (v1, t_depths, t_items, t_letters, t_likes, upd t_lines ((0 : Int32)).toNatClampNeg v2, t_names, t_numbers, t_parts, t_sorts, t_thrown, t_values, t_ways)) N
def xf_rf_join_11 (n : Nat) (N : Nat) : (Nat → Int32) → (Nat → Int32) → (Nat → Int32) → (Nat → Int32) → (Nat → Int32) → (Nat → Int32) → (Nat → Int32) → (Nat → Int32) → (Nat → Int32) → Int32 → (Nat → Int32) → (Nat → Int64) → Int32 → Option (Int32 × (Nat → Int32) × (Nat → Int32) × (Nat → Int32) × (Nat → Int32) × (Nat → Int32) × (Nat → Int32) × (Nat → Int32) × (Nat → Int32) × (Nat → Int32) × Int32 × (Nat → Int32) × (Nat → Int64)) :=
  Nat.rec (motive := fun _ => (Nat → Int32) → (Nat → Int32) → (Nat → Int32) → (Nat → Int32) → (Nat → Int32) → (Nat → Int32) → (Nat → Int32) → (Nat → Int32) → (Nat → Int32) → Int32 → (Nat → Int32) → (Nat → Int64) → Int32 → Option (Int32 × (Nat → Int32) × (Nat → Int32) × (Nat → Int32) × (Nat → Int32) × (Nat → Int32) × (Nat → Int32) × (Nat → Int32) × (Nat → Int32) × (Nat → Int32) × Int32 × (Nat → Int32) × (Nat → Int64))) (fun _ _ _ _ _ _ _ _ _ _ _ _ _ => none) (fun _ k11 t_depths t_items t_letters t_likes t_lines t_names t_numbers t_parts t_sorts t_thrown t_values t_ways v1 =>
    if v1 < (t_lines ((0 : Int32)).toNatClampNeg) then
      (xf_rf_join_26 k11 n n t_depths t_items t_letters t_likes t_lines t_names t_numbers t_parts t_sorts t_thrown t_values t_ways v1 (((8 : Int32)) * v1))
    else
      xf_rf_join_146 n n t_depths t_items t_letters t_likes t_lines t_names t_numbers t_parts t_sorts t_thrown t_values t_ways ((0 : Int32)) ((0 : Int32)) ((0 : Int32))) N
def xf_rf_join (n : Nat) (t_depths : (Nat → Int32)) (t_items : (Nat → Int32)) (t_letters : (Nat → Int32)) (t_likes : (Nat → Int32)) (t_lines : (Nat → Int32)) (t_names : (Nat → Int32)) (t_numbers : (Nat → Int32)) (t_parts : (Nat → Int32)) (t_sorts : (Nat → Int32)) (t_thrown : Int32) (t_values : (Nat → Int32)) (t_ways : (Nat → Int64)) : Option (Int32 × (Nat → Int32) × (Nat → Int32) × (Nat → Int32) × (Nat → Int32) × (Nat → Int32) × (Nat → Int32) × (Nat → Int32) × (Nat → Int32) × (Nat → Int32) × Int32 × (Nat → Int32) × (Nat → Int64)) :=
  (xf_rf_findLikes t_items t_letters t_lines t_names t_numbers t_parts t_sorts t_values n t_depths t_likes t_ways).bind fun q1267 =>
  xf_rf_join_11 n n q1267.2.1 t_items t_letters q1267.2.2.1 t_lines t_names t_numbers t_parts t_sorts ((0 : Int32)) t_values q1267.2.2.2 ((0 : Int32))
def xf_rf_differs_145 (t_items : (Nat → Int32)) (t_letters : (Nat → Int32)) (t_lines : (Nat → Int32)) (t_names : (Nat → Int32)) (t_numbers : (Nat → Int32)) (t_parts : (Nat → Int32)) (t_sorts : (Nat → Int32)) (t_values : (Nat → Int32)) (k38 : Int32 → Int32 → Int32 → Int32 → Option (Int32 × Int32)) (n : Nat) (t_thrown : Int32) (v2 : Int32) (v3 : Int32) (v4 : Int32) : Option (Int32 × Int32) :=
  k38 t_thrown v2 v3 (v4 + (1 : Int32))
def xf_rf_differs_141 (t_items : (Nat → Int32)) (t_letters : (Nat → Int32)) (t_lines : (Nat → Int32)) (t_names : (Nat → Int32)) (t_numbers : (Nat → Int32)) (t_parts : (Nat → Int32)) (t_sorts : (Nat → Int32)) (t_values : (Nat → Int32)) (n : Nat) (t_thrown : Int32) (s0 : Int32) : Option (Int32 × Int32) :=
  some (s0, t_thrown)
def xf_rf_differs_116 (t_items : (Nat → Int32)) (t_letters : (Nat → Int32)) (t_lines : (Nat → Int32)) (t_names : (Nat → Int32)) (t_numbers : (Nat → Int32)) (t_parts : (Nat → Int32)) (t_sorts : (Nat → Int32)) (t_values : (Nat → Int32)) (k38 : Int32 → Int32 → Int32 → Int32 → Option (Int32 × Int32)) (n : Nat) (t_thrown : Int32) (v2 : Int32) (v3 : Int32) (v4 : Int32) (s0 : Int32) : Option (Int32 × Int32) :=
  if s0 = (0 : Int32) then
    (xf_rf_differs_145 t_items t_letters t_lines t_names t_numbers t_parts t_sorts t_values k38 n t_thrown v2 v3 v4)
  else
    if v3 = (0 : Int32) then
      (if v2 = (0 : Int32) then
        (xf_rf_differs_141 t_items t_letters t_lines t_names t_numbers t_parts t_sorts t_values n t_thrown v4)
      else
        xf_rf_differs_141 t_items t_letters t_lines t_names t_numbers t_parts t_sorts t_values n t_thrown s0)
    else
      xf_rf_differs_145 t_items t_letters t_lines t_names t_numbers t_parts t_sorts t_values k38 n t_thrown v2 (v3 + (-1 : Int32)) v4
def xf_rf_isLineSame_243 (t_items : (Nat → Int32)) (t_letters : (Nat → Int32)) (t_names : (Nat → Int32)) (t_parts : (Nat → Int32)) (t_sorts : (Nat → Int32)) (t_values : (Nat → Int32)) (n : Nat) (v3 : Int32) : Option (Int32) :=
  if fits .boolean (.int v3) = true then some v3 else none
def xf_rf_isLineSame_236 (t_items : (Nat → Int32)) (t_letters : (Nat → Int32)) (t_names : (Nat → Int32)) (t_parts : (Nat → Int32)) (t_sorts : (Nat → Int32)) (t_values : (Nat → Int32)) (k67 : Int32 → Int32 → Int32 → Int32 → Option (Int32)) (n : Nat) (v1 : Int32) (v2 : Int32) (v4 : Int32) (s0 : Int32) : Option (Int32) :=
  k67 v1 v2 s0 (v4 + (1 : Int32))
def xf_rf_isLineSame_235 (t_items : (Nat → Int32)) (t_letters : (Nat → Int32)) (t_names : (Nat → Int32)) (t_parts : (Nat → Int32)) (t_sorts : (Nat → Int32)) (t_values : (Nat → Int32)) (k67 : Int32 → Int32 → Int32 → Int32 → Option (Int32)) (n : Nat) (v1 : Int32) (v2 : Int32) (v4 : Int32) : Option (Int32) :=
  xf_rf_isLineSame_236 t_items t_letters t_names t_parts t_sorts t_values k67 n v1 v2 v4 ((0 : Int32))
def xf_rf_isLineSame_231 (t_items : (Nat → Int32)) (t_letters : (Nat → Int32)) (t_names : (Nat → Int32)) (t_parts : (Nat → Int32)) (t_sorts : (Nat → Int32)) (t_values : (Nat → Int32)) (k67 : Int32 → Int32 → Int32 → Int32 → Option (Int32)) (n : Nat) (v1 : Int32) (v2 : Int32) (v4 : Int32) : Option (Int32) :=
  xf_rf_isLineSame_236 t_items t_letters t_names t_parts t_sorts t_values k67 n v1 v2 v4 ((1 : Int32))
def xf_rf_isLineSame_189 (t_items : (Nat → Int32)) (t_letters : (Nat → Int32)) (t_names : (Nat → Int32)) (t_parts : (Nat → Int32)) (t_sorts : (Nat → Int32)) (t_values : (Nat → Int32)) (k67 : Int32 → Int32 → Int32 → Int32 → Option (Int32)) (n : Nat) (v1 : Int32) (v2 : Int32) (v3 : Int32) (v4 : Int32) (v5 : Int32) (v6 : Int32) (s0 : Int32) : Option (Int32) :=
  if v3 = (0 : Int32) then
    (xf_rf_isLineSame_235 t_items t_letters t_names t_parts t_sorts t_values k67 n v1 v2 v4)
  else
    if s0 = (0 : Int32) then
      (xf_rf_isLineSame_231 t_items t_letters t_names t_parts t_sorts t_values k67 n v1 v2 v4)
    else
      if xr_in v5 960 = true then
        ((xf_rf_isSame t_items t_items 19200 19200 n (((20 : Int32)) * v5) (((20 : Int32)) * v6) (t_values v5.toNatClampNeg)).bind fun q1326 =>
        if q1326 = (0 : Int32) then
          (xf_rf_isLineSame_235 t_items t_letters t_names t_parts t_sorts t_values k67 n v1 v2 v4)
        else
          xf_rf_isLineSame_231 t_items t_letters t_names t_parts t_sorts t_values k67 n v1 v2 v4)
      else none
def xf_rf_isLineSame_184 (t_items : (Nat → Int32)) (t_letters : (Nat → Int32)) (t_names : (Nat → Int32)) (t_parts : (Nat → Int32)) (t_sorts : (Nat → Int32)) (t_values : (Nat → Int32)) (k67 : Int32 → Int32 → Int32 → Int32 → Option (Int32)) (n : Nat) (v1 : Int32) (v2 : Int32) (v3 : Int32) (v4 : Int32) (v5 : Int32) (v6 : Int32) : Option (Int32) :=
  xf_rf_isLineSame_189 t_items t_letters t_names t_parts t_sorts t_values k67 n v1 v2 v3 v4 v5 v6 ((1 : Int32))
def xf_rf_isLineSame_139 (t_items : (Nat → Int32)) (t_letters : (Nat → Int32)) (t_names : (Nat → Int32)) (t_parts : (Nat → Int32)) (t_sorts : (Nat → Int32)) (t_values : (Nat → Int32)) (k67 : Int32 → Int32 → Int32 → Int32 → Option (Int32)) (n : Nat) (v1 : Int32) (v2 : Int32) (v4 : Int32) (v5 : Int32) (v6 : Int32) (s0 : Int32) : Option (Int32) :=
  if xr_in v5 960 = true then
    (if (t_sorts v5.toNatClampNeg) = ((1 : Int32)) then
      (xf_rf_isLineSame_184 t_items t_letters t_names t_parts t_sorts t_values k67 n v1 v2 s0 v4 v5 v6)
    else
      if xr_in v5 960 = true then
        (if (t_sorts v5.toNatClampNeg) = ((5 : Int32)) then
          (xf_rf_isLineSame_184 t_items t_letters t_names t_parts t_sorts t_values k67 n v1 v2 s0 v4 v5 v6)
        else
          if xr_in v5 960 = true then
            (if (t_sorts v5.toNatClampNeg) = ((3 : Int32)) then
              (xf_rf_isLineSame_184 t_items t_letters t_names t_parts t_sorts t_values k67 n v1 v2 s0 v4 v5 v6)
            else
              if xr_in v5 960 = true then
                (if (t_sorts v5.toNatClampNeg) = ((4 : Int32)) then
                  (xf_rf_isLineSame_184 t_items t_letters t_names t_parts t_sorts t_values k67 n v1 v2 s0 v4 v5 v6)
                else
                  xf_rf_isLineSame_189 t_items t_letters t_names t_parts t_sorts t_values k67 n v1 v2 s0 v4 v5 v6 ((0 : Int32)))
              else none)
          else none)
      else none)
  else none
def xf_rf_isLineSame_138 (t_items : (Nat → Int32)) (t_letters : (Nat → Int32)) (t_names : (Nat → Int32)) (t_parts : (Nat → Int32)) (t_sorts : (Nat → Int32)) (t_values : (Nat → Int32)) (k67 : Int32 → Int32 → Int32 → Int32 → Option (Int32)) (n : Nat) (v1 : Int32) (v2 : Int32) (v4 : Int32) (v5 : Int32) (v6 : Int32) : Option (Int32) :=
  xf_rf_isLineSame_139 t_items t_letters t_names t_parts t_sorts t_values k67 n v1 v2 v4 v5 v6 ((0 : Int32))
def xf_rf_isLineSame_67 (t_items : (Nat → Int32)) (t_letters : (Nat → Int32)) (t_names : (Nat → Int32)) (t_parts : (Nat → Int32)) (t_sorts : (Nat → Int32)) (t_values : (Nat → Int32)) (n : Nat) (N : Nat) : Int32 → Int32 → Int32 → Int32 → Option (Int32) :=
  Nat.rec (motive := fun _ => Int32 → Int32 → Int32 → Int32 → Option (Int32)) (fun _ _ _ _ => none) (fun _ k67 v1 v2 v3 v4 =>
    if xr_in v1 120 = true then
      (if v4 < (t_parts v1.toNatClampNeg) then
        (if v3 = (0 : Int32) then
          (xf_rf_isLineSame_243 t_items t_letters t_names t_parts t_sorts t_values n v3)
        else
          if xr_in ((((8 : Int32)) * v1) + v4) 960 = true then
            (if xr_in ((((8 : Int32)) * v2) + v4) 960 = true then
              (if (t_sorts ((((8 : Int32)) * v1) + v4).toNatClampNeg) = (t_sorts ((((8 : Int32)) * v2) + v4).toNatClampNeg) then
                (if xr_in ((((8 : Int32)) * v1) + v4) 960 = true then
                  (if xr_in ((((8 : Int32)) * v2) + v4) 960 = true then
                    (if (t_values ((((8 : Int32)) * v1) + v4).toNatClampNeg) = (t_values ((((8 : Int32)) * v2) + v4).toNatClampNeg) then
                      (xf_rf_isLineSame_139 t_items t_letters t_names t_parts t_sorts t_values k67 n v1 v2 v4 ((((8 : Int32)) * v1) + v4) ((((8 : Int32)) * v2) + v4) ((1 : Int32)))
                    else
                      xf_rf_isLineSame_138 t_items t_letters t_names t_parts t_sorts t_values k67 n v1 v2 v4 ((((8 : Int32)) * v1) + v4) ((((8 : Int32)) * v2) + v4))
                  else none)
                else none)
              else
                xf_rf_isLineSame_138 t_items t_letters t_names t_parts t_sorts t_values k67 n v1 v2 v4 ((((8 : Int32)) * v1) + v4) ((((8 : Int32)) * v2) + v4))
            else none)
          else none)
      else
        xf_rf_isLineSame_243 t_items t_letters t_names t_parts t_sorts t_values n v3)
    else none) N
def xf_rf_isLineSame_63 (t_items : (Nat → Int32)) (t_letters : (Nat → Int32)) (t_names : (Nat → Int32)) (t_parts : (Nat → Int32)) (t_sorts : (Nat → Int32)) (t_values : (Nat → Int32)) (n : Nat) (v1 : Int32) (v2 : Int32) (s0 : Int32) : Option (Int32) :=
  xf_rf_isLineSame_67 t_items t_letters t_names t_parts t_sorts t_values n n v1 v2 s0 ((0 : Int32))
def xf_rf_isLineSame_62 (t_items : (Nat → Int32)) (t_letters : (Nat → Int32)) (t_names : (Nat → Int32)) (t_parts : (Nat → Int32)) (t_sorts : (Nat → Int32)) (t_values : (Nat → Int32)) (n : Nat) (v1 : Int32) (v2 : Int32) : Option (Int32) :=
  xf_rf_isLineSame_63 t_items t_letters t_names t_parts t_sorts t_values n v1 v2 ((0 : Int32))
def xf_rf_isLineSame (t_items : (Nat → Int32)) (t_letters : (Nat → Int32)) (t_names : (Nat → Int32)) (t_parts : (Nat → Int32)) (t_sorts : (Nat → Int32)) (t_values : (Nat → Int32)) (n : Nat) (a1 : Int32) (a2 : Int32) : Option (Int32) :=
  if xr_in a1 120 = true then
    (if xr_in a2 120 = true then
      (if (t_letters a1.toNatClampNeg) = (t_letters a2.toNatClampNeg) then
        (if xr_in a1 120 = true then
          (if xr_in a2 120 = true then
            (if (t_parts a1.toNatClampNeg) = (t_parts a2.toNatClampNeg) then
              (if xr_in a1 120 = true then
                ((xf_rf_isSame t_names t_names 960 960 n (((8 : Int32)) * a1) (((8 : Int32)) * a2) (t_letters a1.toNatClampNeg)).bind fun q1309 =>
                if q1309 = (0 : Int32) then
                  (xf_rf_isLineSame_62 t_items t_letters t_names t_parts t_sorts t_values n a1 a2)
                else
                  xf_rf_isLineSame_63 t_items t_letters t_names t_parts t_sorts t_values n a1 a2 ((1 : Int32)))
              else none)
            else
              xf_rf_isLineSame_62 t_items t_letters t_names t_parts t_sorts t_values n a1 a2)
          else none)
        else none)
      else
        xf_rf_isLineSame_62 t_items t_letters t_names t_parts t_sorts t_values n a1 a2)
    else none)
  else none
def xf_rf_differs_80 (t_items : (Nat → Int32)) (t_letters : (Nat → Int32)) (t_lines : (Nat → Int32)) (t_names : (Nat → Int32)) (t_numbers : (Nat → Int32)) (t_parts : (Nat → Int32)) (t_sorts : (Nat → Int32)) (t_values : (Nat → Int32)) (k38 : Int32 → Int32 → Int32 → Int32 → Option (Int32 × Int32)) (n : Nat) (t_thrown : Int32) (v2 : Int32) (v3 : Int32) (v4 : Int32) (v5 : Int32) (v6 : Int32) : Option (Int32 × Int32) :=
  if v5 = ((-1 : Int32)) then
    (xf_rf_differs_116 t_items t_letters t_lines t_names t_numbers t_parts t_sorts t_values k38 n t_thrown v2 v3 v4 ((1 : Int32)))
  else
    if v6 = ((-1 : Int32)) then
      (xf_rf_differs_116 t_items t_letters t_lines t_names t_numbers t_parts t_sorts t_values k38 n t_thrown v2 v3 v4 ((2 : Int32)))
    else
      (xf_rf_isLineSame t_items t_letters t_names t_parts t_sorts t_values n v5 v6).bind fun q1334 =>
      if q1334 = (0 : Int32) then
        (xf_rf_differs_116 t_items t_letters t_lines t_names t_numbers t_parts t_sorts t_values k38 n t_thrown v2 v3 v4 ((3 : Int32)))
      else
        xf_rf_differs_116 t_items t_letters t_lines t_names t_numbers t_parts t_sorts t_values k38 n t_thrown v2 v3 v4 ((0 : Int32))
def xf_rf_differs_38 (t_items : (Nat → Int32)) (t_letters : (Nat → Int32)) (t_lines : (Nat → Int32)) (t_names : (Nat → Int32)) (t_numbers : (Nat → Int32)) (t_parts : (Nat → Int32)) (t_sorts : (Nat → Int32)) (t_values : (Nat → Int32)) (n : Nat) (N : Nat) : Int32 → Int32 → Int32 → Int32 → Option (Int32 × Int32) :=
  Nat.rec (motive := fun _ => Int32 → Int32 → Int32 → Int32 → Option (Int32 × Int32)) (fun _ _ _ _ => none) (fun _ k38 t_thrown v2 v3 v4 =>
    if v4 < ((1000 : Int32)) then
      ((xf_rf_find t_lines t_numbers n ((0 : Int32)) v4).bind fun q1293 =>
      (xf_rf_find t_lines t_numbers n ((2 : Int32)) v4).bind fun q1294 =>
      if q1293 = ((-1 : Int32)) then
        (if q1294 = ((-1 : Int32)) then
          (xf_rf_differs_116 t_items t_letters t_lines t_names t_numbers t_parts t_sorts t_values k38 n t_thrown v2 v3 v4 ((0 : Int32)))
        else
          xf_rf_differs_80 t_items t_letters t_lines t_names t_numbers t_parts t_sorts t_values k38 n t_thrown v2 v3 v4 q1293 q1294)
      else
        xf_rf_differs_80 t_items t_letters t_lines t_names t_numbers t_parts t_sorts t_values k38 n t_thrown v2 v3 v4 q1293 q1294)
    else
      some ((-1 : Int32), t_thrown)) N
def xf_rf_differs_24 (t_items : (Nat → Int32)) (t_letters : (Nat → Int32)) (t_lines : (Nat → Int32)) (t_names : (Nat → Int32)) (t_numbers : (Nat → Int32)) (t_parts : (Nat → Int32)) (t_sorts : (Nat → Int32)) (t_values : (Nat → Int32)) (n : Nat) (t_thrown : Int32) (v1 : Int32) (v2 : Int32) (s1 : Int32) : Option (Int32 × Int32) :=
  (xf_rf_fails t_thrown s1 ((1 : Int32))).bind fun q1290 =>
  if q1290.1 = (0 : Int32) then
    (xf_rf_differs_38 t_items t_letters t_lines t_names t_numbers t_parts t_sorts t_values n n q1290.2 v2 v1 ((1 : Int32)))
  else
    some ((0 : Int32), q1290.2)
def xf_rf_differs_19 (t_items : (Nat → Int32)) (t_letters : (Nat → Int32)) (t_lines : (Nat → Int32)) (t_names : (Nat → Int32)) (t_numbers : (Nat → Int32)) (t_parts : (Nat → Int32)) (t_sorts : (Nat → Int32)) (t_values : (Nat → Int32)) (n : Nat) (t_thrown : Int32) (v1 : Int32) (v2 : Int32) : Option (Int32 × Int32) :=
  xf_rf_differs_24 t_items t_letters t_lines t_names t_numbers t_parts t_sorts t_values n t_thrown v1 v2 ((1 : Int32))
def xf_rf_differs (t_items : (Nat → Int32)) (t_letters : (Nat → Int32)) (t_lines : (Nat → Int32)) (t_names : (Nat → Int32)) (t_numbers : (Nat → Int32)) (t_parts : (Nat → Int32)) (t_sorts : (Nat → Int32)) (t_values : (Nat → Int32)) (n : Nat) (t_thrown : Int32) (a1 : Int32) (a2 : Int32) : Option (Int32 × Int32) :=
  if a1 < (0 : Int32) then
    (xf_rf_differs_19 t_items t_letters t_lines t_names t_numbers t_parts t_sorts t_values n ((0 : Int32)) a1 a2)
  else
    if a2 < (0 : Int32) then
      (xf_rf_differs_19 t_items t_letters t_lines t_names t_numbers t_parts t_sorts t_values n ((0 : Int32)) a1 a2)
    else
      if ((1 : Int32)) < a2 then
        (xf_rf_differs_19 t_items t_letters t_lines t_names t_numbers t_parts t_sorts t_values n ((0 : Int32)) a1 a2)
      else
        xf_rf_differs_24 t_items t_letters t_lines t_names t_numbers t_parts t_sorts t_values n ((0 : Int32)) a1 a2 ((0 : Int32))
def xf_rf_count_74 (t_kinds : (Nat → Int32)) (t_lines : (Nat → Int32)) (t_size : Int32) (t_thrown : Int32) (s0 : Int32) : Option (Int32 × Int32) :=
  some (s0, t_thrown)
def xf_rf_count_20 (t_kinds : (Nat → Int32)) (t_lines : (Nat → Int32)) (t_size : Int32) (t_thrown : Int32) (v1 : Int32) (s1 : Int32) : Option (Int32 × Int32) :=
  (xf_rf_fails t_thrown s1 ((1 : Int32))).bind fun q1339 =>
  if q1339.1 = (0 : Int32) then
    (if v1 = (0 : Int32) then
      (xf_rf_count_74 t_kinds t_lines t_size q1339.2 t_size)
    else
      if v1 = ((1 : Int32)) then
        (xf_rf_count_74 t_kinds t_lines t_size q1339.2 (t_kinds ((0 : Int32)).toNatClampNeg))
      else
        if v1 = ((2 : Int32)) then
          (xf_rf_count_74 t_kinds t_lines t_size q1339.2 (t_lines ((0 : Int32)).toNatClampNeg))
        else
          xf_rf_count_74 t_kinds t_lines t_size q1339.2 (t_lines ((2 : Int32)).toNatClampNeg))
  else
    some ((0 : Int32), q1339.2)
def xf_rf_count_15 (t_kinds : (Nat → Int32)) (t_lines : (Nat → Int32)) (t_size : Int32) (t_thrown : Int32) (v1 : Int32) : Option (Int32 × Int32) :=
  xf_rf_count_20 t_kinds t_lines t_size t_thrown v1 ((1 : Int32))
def xf_rf_count (t_kinds : (Nat → Int32)) (t_lines : (Nat → Int32)) (t_size : Int32) (t_thrown : Int32) (a1 : Int32) : Option (Int32 × Int32) :=
  if a1 < (0 : Int32) then
    (xf_rf_count_15 t_kinds t_lines t_size ((0 : Int32)) a1)
  else
    if ((3 : Int32)) < a1 then
      (xf_rf_count_15 t_kinds t_lines t_size ((0 : Int32)) a1)
    else
      xf_rf_count_20 t_kinds t_lines t_size ((0 : Int32)) a1 ((0 : Int32))
def xf_xt_say_59 (k6 : Int32 → Int32 → (Nat → Int32) → Int64 → Int32 → Int32 → Option ((Int32 ⊕ String) × Int32 × Int32 × (Nat → Int32))) (n : Nat) (t_text_full : Int32) (t_text_length : Int32) (t_text_signs : (Nat → Int32)) (v1 : Int64) (v4 : Int32) (s0 : Int32) (s1 : Int32) : Option ((Int32 ⊕ String) × Int32 × Int32 × (Nat → Int32)) :=
  k6 t_text_full t_text_length t_text_signs v1 (s0 + s1) (v4 + (-8 : Int32))
def xf_xt_say_48 (k6 : Int32 → Int32 → (Nat → Int32) → Int64 → Int32 → Int32 → Option ((Int32 ⊕ String) × Int32 × Int32 × (Nat → Int32))) (n : Nat) (t_text_full : Int32) (t_text_length : Int32) (t_text_signs : (Nat → Int32)) (v1 : Int64) (v3 : Int32) (v4 : Int32) (v5 : Int32) : Option ((Int32 ⊕ String) × Int32 × Int32 × (Nat → Int32)) :=
  if v5 = (0 : Int32) then
    (xf_xt_say_59 k6 n t_text_full t_text_length t_text_signs v1 v4 v3 ((0 : Int32)))
  else
    xf_xt_say_59 k6 n t_text_full t_text_length t_text_signs v1 v4 v3 ((1 : Int32))
def xf_xt_say_38 (n : Nat) (t_text_full : Int32) (t_text_length : Int32) (t_text_signs : (Nat → Int32)) : Option ((Int32 ⊕ String) × Int32 × Int32 × (Nat → Int32)) :=
  some (.inr "java/lang/IllegalArgumentException", t_text_full, t_text_length, t_text_signs)
def xf_xt_say_6 (n : Nat) (N : Nat) : Int32 → Int32 → (Nat → Int32) → Int64 → Int32 → Int32 → Option ((Int32 ⊕ String) × Int32 × Int32 × (Nat → Int32)) :=
  Nat.rec (motive := fun _ => Int32 → Int32 → (Nat → Int32) → Int64 → Int32 → Int32 → Option ((Int32 ⊕ String) × Int32 × Int32 × (Nat → Int32))) (fun _ _ _ _ _ _ => none) (fun _ k6 t_text_full t_text_length t_text_signs v1 v3 v4 =>
    if v4 < (0 : Int32) then
      (if ((1200 : Int32)) < (t_text_length + v3) then
        (some (.inr "java/lang/IllegalStateException", t_text_full, t_text_length, t_text_signs))
      else
        (xf_pg_addBytes n t_text_full t_text_length t_text_signs v1).bind fun q1354 =>
        some (.inl q1354.2.2.1, q1354.2.1, q1354.2.2.1, q1354.2.2.2))
    else
      (xf_xt_byteOf v1 v4).bind fun q1355 =>
      if q1355 = (0 : Int32) then
        (xf_xt_say_48 k6 n t_text_full t_text_length t_text_signs v1 v3 v4 q1355)
      else
        if q1355 < ((32 : Int32)) then
          (xf_xt_say_38 n t_text_full t_text_length t_text_signs)
        else
          if ((126 : Int32)) < q1355 then
            (xf_xt_say_38 n t_text_full t_text_length t_text_signs)
          else
            xf_xt_say_48 k6 n t_text_full t_text_length t_text_signs v1 v3 v4 q1355) N
def xf_xt_say (n : Nat) (t_text_full : Int32) (t_text_length : Int32) (t_text_signs : (Nat → Int32)) (a1 : Int64) : Option ((Int32 ⊕ String) × Int32 × Int32 × (Nat → Int32)) :=
  xf_xt_say_6 n n t_text_full t_text_length t_text_signs a1 ((0 : Int32)) ((56 : Int32))
def xf_la_say (n_p3 : Nat) (n : Nat) (p1_text_full : Int32) (p1_text_length : Int32) (p1_text_signs : (Nat → Int32)) (p3 : (Nat → Int64)) (a2 : Int64) : Option (Int32 × Int32 × Int32 × (Nat → Int32) × (Nat → Int64)) :=
  (xf_xt_say n p1_text_full p1_text_length p1_text_signs a2).bind fun q1360 =>
  Sum.elim (fun r1361 =>
    if xr_in ((0 : Int32)) n_p3 = true then
      (some ((0 : Int32), q1360.2.1, q1360.2.2.1, q1360.2.2.2, vp_updL p3 ((0 : Int32)).toNatClampNeg r1361.toInt64))
    else none)
    (fun r1361 =>
      if r1361 = "java/lang/IllegalArgumentException" then
        (some ((1 : Int32), q1360.2.1, q1360.2.2.1, q1360.2.2.2, p3))
      else
        if r1361 = "java/lang/IllegalStateException" then
          (some ((2 : Int32), q1360.2.1, q1360.2.2.1, q1360.2.2.2, p3))
        else
          none) q1360.1
def xf_xt_trim_15 (t_text_length : Int32) : Option ((Int32 ⊕ String) × Int32) :=
  some (.inr "java/lang/IllegalArgumentException", t_text_length)
def xf_xt_trim (t_text_length : Int32) (a1 : Int32) : Option ((Int32 ⊕ String) × Int32) :=
  if a1 < (0 : Int32) then
    (xf_xt_trim_15 t_text_length)
  else
    if t_text_length < a1 then
      (xf_xt_trim_15 t_text_length)
    else
      some (.inl (t_text_length - a1), t_text_length - a1)
def xf_la_trim (n_p3 : Nat) (p1_text_length : Int32) (p3 : (Nat → Int64)) (a2 : Int32) : Option (Int32 × Int32 × (Nat → Int64)) :=
  (xf_xt_trim p1_text_length a2).bind fun q1367 =>
  Sum.elim (fun r1368 =>
    if xr_in ((0 : Int32)) n_p3 = true then
      (some ((0 : Int32), q1367.2, vp_updL p3 ((0 : Int32)).toNatClampNeg r1368.toInt64))
    else none)
    (fun r1368 =>
      if r1368 = "java/lang/IllegalArgumentException" then
        (some ((1 : Int32), q1367.2, p3))
      else
        none) q1367.1
def xf_xt_charAt_15 (t_text_length : Int32) (t_text_signs : (Nat → Int32)) : Option ((Int32 ⊕ String)) :=
  some (.inr "java/lang/IllegalArgumentException")
def xf_xt_charAt (t_text_length : Int32) (t_text_signs : (Nat → Int32)) (a1 : Int32) : Option ((Int32 ⊕ String)) :=
  if a1 < (0 : Int32) then
    (xf_xt_charAt_15 t_text_length t_text_signs)
  else
    if a1 < t_text_length then
      ((xf_pg_signAt t_text_length t_text_signs a1).bind fun q1373 =>
      some (.inl q1373))
    else
      xf_xt_charAt_15 t_text_length t_text_signs
def xf_la_charAt (p1_text_length : Int32) (p1_text_signs : (Nat → Int32)) (n_p3 : Nat) (p3 : (Nat → Int64)) (a2 : Int32) : Option (Int32 × (Nat → Int64)) :=
  (xf_xt_charAt p1_text_length p1_text_signs a2).bind fun q1374 =>
  Sum.elim (fun r1375 =>
    if xr_in ((0 : Int32)) n_p3 = true then
      (some ((0 : Int32), vp_updL p3 ((0 : Int32)).toNatClampNeg r1375.toInt64))
    else none)
    (fun r1375 =>
      if r1375 = "java/lang/IllegalArgumentException" then
        (some ((1 : Int32), p3))
      else
        none) q1374
def xf_xt_refuseUnless (a1 : Int32) : Option ((Unit ⊕ String)) :=
  if a1 = (0 : Int32) then
    (some (.inr "java/lang/IllegalArgumentException"))
  else
    some (.inl (()))
def xf_xt_line_39 (t_model_lines : Int32) (t_model_number : (Nat → Int32)) (t_model_order : (Nat → Int32)) (s0 : Int32) : Option ((Int32 ⊕ String)) :=
  some (.inl s0)
def xf_xt_line_9 (t_model_lines : Int32) (t_model_number : (Nat → Int32)) (t_model_order : (Nat → Int32)) (v1 : Int32) (s0 : Int32) : Option ((Int32 ⊕ String)) :=
  (xf_xt_refuseUnless s0).bind fun q1380 =>
  Sum.elim (fun r1381 =>
    (xf_md_rowAt t_model_lines t_model_order v1).bind fun q1382 =>
    if q1382 = ((-1 : Int32)) then
      (xf_xt_line_39 t_model_lines t_model_number t_model_order ((-1 : Int32)))
    else
      if xr_in q1382 40 = true then
        (xf_xt_line_39 t_model_lines t_model_number t_model_order (t_model_number q1382.toNatClampNeg))
      else none)
    (fun r1381 =>
      some (.inr r1381)) q1380
def xf_xt_line (t_model_lines : Int32) (t_model_number : (Nat → Int32)) (t_model_order : (Nat → Int32)) (a1 : Int32) : Option ((Int32 ⊕ String)) :=
  if a1 < (0 : Int32) then
    (xf_xt_line_9 t_model_lines t_model_number t_model_order a1 ((0 : Int32)))
  else
    xf_xt_line_9 t_model_lines t_model_number t_model_order a1 ((1 : Int32))
def xf_la_line (p1_model_lines : Int32) (p1_model_number : (Nat → Int32)) (p1_model_order : (Nat → Int32)) (n_p3 : Nat) (p3 : (Nat → Int64)) (a2 : Int32) : Option (Int32 × (Nat → Int64)) :=
  (xf_xt_line p1_model_lines p1_model_number p1_model_order a2).bind fun q1385 =>
  Sum.elim (fun r1386 =>
    if xr_in ((0 : Int32)) n_p3 = true then
      (some ((0 : Int32), vp_updL p3 ((0 : Int32)).toNatClampNeg r1386.toInt64))
    else none)
    (fun r1386 =>
      if r1386 = "java/lang/IllegalArgumentException" then
        (some ((1 : Int32), p3))
      else
        none) q1385
def xf_xt_rowOrRefuse_19 (t_model_lines : Int32) (t_model_number : (Nat → Int32)) (t_model_order : (Nat → Int32)) (n : Nat) (v2 : Int32) (s0 : Int32) : Option ((Int32 ⊕ String)) :=
  (xf_xt_refuseUnless s0).bind fun q1391 =>
  Sum.elim (fun r1392 =>
    some (.inl v2))
    (fun r1392 =>
      some (.inr r1392)) q1391
def xf_xt_rowOrRefuse (t_model_lines : Int32) (t_model_number : (Nat → Int32)) (t_model_order : (Nat → Int32)) (n : Nat) (a1 : Int32) : Option ((Int32 ⊕ String)) :=
  (xf_md_rowOf t_model_lines t_model_number t_model_order n a1).bind fun q1389 =>
  if q1389 = ((-1 : Int32)) then
    (xf_xt_rowOrRefuse_19 t_model_lines t_model_number t_model_order n q1389 ((0 : Int32)))
  else
    xf_xt_rowOrRefuse_19 t_model_lines t_model_number t_model_order n q1389 ((1 : Int32))
def xf_md_referencesOf_60 (t_size : (Nat → Int32)) (t_sort : (Nat → Int32)) (t_value : (Nat → Int32)) (k4 : Int32 → Int32 → Int32 → Option (Int32)) (n : Nat) (v1 : Int32) (v2 : Int32) (v3 : Int32) : Option (Int32) :=
  k4 v1 v2 (v3 + (1 : Int32))
def xf_md_referencesOf_4 (t_size : (Nat → Int32)) (t_sort : (Nat → Int32)) (t_value : (Nat → Int32)) (n : Nat) (N : Nat) : Int32 → Int32 → Int32 → Option (Int32) :=
  Nat.rec (motive := fun _ => Int32 → Int32 → Int32 → Option (Int32)) (fun _ _ _ => none) (fun _ k4 v1 v2 v3 =>
    if xr_in v1 40 = true then
      (if v3 < (t_size v1.toNatClampNeg) then
        (if xr_in ((v1 * ((8 : Int32))) + v3) 320 = true then
          (if (t_sort ((v1 * ((8 : Int32))) + v3).toNatClampNeg) = ((2 : Int32)) then
            (xf_md_referencesOf_60 t_size t_sort t_value k4 n v1 (v2 + (1 : Int32)) v3)
          else
            if xr_in ((v1 * ((8 : Int32))) + v3) 320 = true then
              (if (t_sort ((v1 * ((8 : Int32))) + v3).toNatClampNeg) = ((4 : Int32)) then
                (if xr_in ((v1 * ((8 : Int32))) + v3) 320 = true then
                  (xf_md_referencesOf_60 t_size t_sort t_value k4 n v1 (v2 + (t_value ((v1 * ((8 : Int32))) + v3).toNatClampNeg)) v3)
                else none)
              else
                xf_md_referencesOf_60 t_size t_sort t_value k4 n v1 v2 v3)
            else none)
        else none)
      else
        some v2)
    else none) N
def xf_md_referencesOf (t_size : (Nat → Int32)) (t_sort : (Nat → Int32)) (t_value : (Nat → Int32)) (n : Nat) (a1 : Int32) : Option (Int32) :=
  xf_md_referencesOf_4 t_size t_sort t_value n n a1 ((0 : Int32)) ((0 : Int32))
def xf_xt_told_84 (t_graph_depth : (Nat → Int32)) (t_kinds_name : (Nat → Int64)) (t_kinds_total : Int32) (t_model_lines : Int32) (t_model_name : (Nat → Int64)) (t_model_number : (Nat → Int32)) (t_model_order : (Nat → Int32)) (t_model_size : (Nat → Int32)) (t_model_sort : (Nat → Int32)) (t_model_value : (Nat → Int32)) (n : Nat) (s0 : Int32) : Option ((Int32 ⊕ String)) :=
  some (.inl s0)
def xf_xt_told_20 (t_graph_depth : (Nat → Int32)) (t_kinds_name : (Nat → Int64)) (t_kinds_total : Int32) (t_model_lines : Int32) (t_model_name : (Nat → Int64)) (t_model_number : (Nat → Int32)) (t_model_order : (Nat → Int32)) (t_model_size : (Nat → Int32)) (t_model_sort : (Nat → Int32)) (t_model_value : (Nat → Int32)) (n : Nat) (v2 : Int32) (v3 : Int32) (s0 : Int32) : Option ((Int32 ⊕ String)) :=
  (xf_xt_refuseUnless s0).bind fun q1396 =>
  Sum.elim (fun r1397 =>
    if v2 = (0 : Int32) then
      (if xr_in v3 40 = true then
        ((xf_kd_find t_kinds_name t_kinds_total n (t_model_name v3.toNatClampNeg)).bind fun q1403 =>
        some (.inl q1403))
      else none)
    else
      if v2 = ((1 : Int32)) then
        (if xr_in v3 40 = true then
          (some (.inl (t_model_size v3.toNatClampNeg)))
        else none)
      else
        if v2 = ((2 : Int32)) then
          ((xf_md_referencesOf t_model_size t_model_sort t_model_value n v3).bind fun q1414 =>
          xf_xt_told_84 t_graph_depth t_kinds_name t_kinds_total t_model_lines t_model_name t_model_number t_model_order t_model_size t_model_sort t_model_value n q1414)
        else
          if xr_in v3 40 = true then
            (xf_xt_told_84 t_graph_depth t_kinds_name t_kinds_total t_model_lines t_model_name t_model_number t_model_order t_model_size t_model_sort t_model_value n (t_graph_depth v3.toNatClampNeg))
          else none)
    (fun r1397 =>
      some (.inr r1397)) q1396
def xf_xt_told_19 (t_graph_depth : (Nat → Int32)) (t_kinds_name : (Nat → Int64)) (t_kinds_total : Int32) (t_model_lines : Int32) (t_model_name : (Nat → Int64)) (t_model_number : (Nat → Int32)) (t_model_order : (Nat → Int32)) (t_model_size : (Nat → Int32)) (t_model_sort : (Nat → Int32)) (t_model_value : (Nat → Int32)) (n : Nat) (v2 : Int32) (v3 : Int32) : Option ((Int32 ⊕ String)) :=
  xf_xt_told_20 t_graph_depth t_kinds_name t_kinds_total t_model_lines t_model_name t_model_number t_model_order t_model_size t_model_sort t_model_value n v2 v3 ((0 : Int32))
def xf_xt_told (t_graph_depth : (Nat → Int32)) (t_kinds_name : (Nat → Int64)) (t_kinds_total : Int32) (t_model_lines : Int32) (t_model_name : (Nat → Int64)) (t_model_number : (Nat → Int32)) (t_model_order : (Nat → Int32)) (t_model_size : (Nat → Int32)) (t_model_sort : (Nat → Int32)) (t_model_value : (Nat → Int32)) (n : Nat) (a1 : Int32) (a2 : Int32) : Option ((Int32 ⊕ String)) :=
  (xf_xt_rowOrRefuse t_model_lines t_model_number t_model_order n a1).bind fun q1393 =>
  Sum.elim (fun r1394 =>
    if a2 < (0 : Int32) then
      (xf_xt_told_19 t_graph_depth t_kinds_name t_kinds_total t_model_lines t_model_name t_model_number t_model_order t_model_size t_model_sort t_model_value n a2 r1394)
    else
      if ((3 : Int32)) < a2 then
        (xf_xt_told_19 t_graph_depth t_kinds_name t_kinds_total t_model_lines t_model_name t_model_number t_model_order t_model_size t_model_sort t_model_value n a2 r1394)
      else
        xf_xt_told_20 t_graph_depth t_kinds_name t_kinds_total t_model_lines t_model_name t_model_number t_model_order t_model_size t_model_sort t_model_value n a2 r1394 ((1 : Int32)))
    (fun r1394 =>
      some (.inr r1394)) q1393
def xf_la_told (p1_graph_depth : (Nat → Int32)) (p1_kinds_name : (Nat → Int64)) (p1_kinds_total : Int32) (p1_model_lines : Int32) (p1_model_name : (Nat → Int64)) (p1_model_number : (Nat → Int32)) (p1_model_order : (Nat → Int32)) (p1_model_size : (Nat → Int32)) (p1_model_sort : (Nat → Int32)) (p1_model_value : (Nat → Int32)) (n_p4 : Nat) (n : Nat) (p4 : (Nat → Int64)) (a2 : Int32) (a3 : Int32) : Option (Int32 × (Nat → Int64)) :=
  (xf_xt_told p1_graph_depth p1_kinds_name p1_kinds_total p1_model_lines p1_model_name p1_model_number p1_model_order p1_model_size p1_model_sort p1_model_value n a2 a3).bind fun q1417 =>
  Sum.elim (fun r1418 =>
    if xr_in ((0 : Int32)) n_p4 = true then
      (some ((0 : Int32), vp_updL p4 ((0 : Int32)).toNatClampNeg r1418.toInt64))
    else none)
    (fun r1418 =>
      if r1418 = "java/lang/IllegalArgumentException" then
        (some ((1 : Int32), p4))
      else
        none) q1417
def xf_xt_spotOrRefuse_28 (t_model_lines : Int32) (t_model_number : (Nat → Int32)) (t_model_order : (Nat → Int32)) (t_model_size : (Nat → Int32)) (n : Nat) (v2 : Int32) (v3 : Int32) (s0 : Int32) : Option ((Int32 ⊕ String)) :=
  (xf_xt_refuseUnless s0).bind fun q1424 =>
  Sum.elim (fun r1425 =>
    some (.inl ((v3 * ((8 : Int32))) + v2)))
    (fun r1425 =>
      some (.inr r1425)) q1424
def xf_xt_spotOrRefuse_27 (t_model_lines : Int32) (t_model_number : (Nat → Int32)) (t_model_order : (Nat → Int32)) (t_model_size : (Nat → Int32)) (n : Nat) (v2 : Int32) (v3 : Int32) : Option ((Int32 ⊕ String)) :=
  xf_xt_spotOrRefuse_28 t_model_lines t_model_number t_model_order t_model_size n v2 v3 ((0 : Int32))
def xf_xt_spotOrRefuse (t_model_lines : Int32) (t_model_number : (Nat → Int32)) (t_model_order : (Nat → Int32)) (t_model_size : (Nat → Int32)) (n : Nat) (a1 : Int32) (a2 : Int32) : Option ((Int32 ⊕ String)) :=
  (xf_xt_rowOrRefuse t_model_lines t_model_number t_model_order n a1).bind fun q1421 =>
  Sum.elim (fun r1422 =>
    if a2 < (0 : Int32) then
      (xf_xt_spotOrRefuse_27 t_model_lines t_model_number t_model_order t_model_size n a2 r1422)
    else
      if xr_in r1422 40 = true then
        (if a2 < (t_model_size r1422.toNatClampNeg) then
          (xf_xt_spotOrRefuse_28 t_model_lines t_model_number t_model_order t_model_size n a2 r1422 ((1 : Int32)))
        else
          xf_xt_spotOrRefuse_27 t_model_lines t_model_number t_model_order t_model_size n a2 r1422)
      else none)
    (fun r1422 =>
      some (.inr r1422)) q1421
def xf_xt_argument_52 (t_model_lines : Int32) (t_model_number : (Nat → Int32)) (t_model_order : (Nat → Int32)) (t_model_size : (Nat → Int32)) (t_model_sort : (Nat → Int32)) (t_model_value : (Nat → Int32)) (n : Nat) (s0 : Int32) : Option ((Int32 ⊕ String)) :=
  some (.inl s0)
def xf_xt_argument_22 (t_model_lines : Int32) (t_model_number : (Nat → Int32)) (t_model_order : (Nat → Int32)) (t_model_size : (Nat → Int32)) (t_model_sort : (Nat → Int32)) (t_model_value : (Nat → Int32)) (n : Nat) (v3 : Int32) (v4 : Int32) (s0 : Int32) : Option ((Int32 ⊕ String)) :=
  (xf_xt_refuseUnless s0).bind fun q1431 =>
  Sum.elim (fun r1432 =>
    if v3 = (0 : Int32) then
      (if xr_in v4 320 = true then
        (xf_xt_argument_52 t_model_lines t_model_number t_model_order t_model_size t_model_sort t_model_value n (t_model_sort v4.toNatClampNeg))
      else none)
    else
      if xr_in v4 320 = true then
        (xf_xt_argument_52 t_model_lines t_model_number t_model_order t_model_size t_model_sort t_model_value n (t_model_value v4.toNatClampNeg))
      else none)
    (fun r1432 =>
      some (.inr r1432)) q1431
def xf_xt_argument_17 (t_model_lines : Int32) (t_model_number : (Nat → Int32)) (t_model_order : (Nat → Int32)) (t_model_size : (Nat → Int32)) (t_model_sort : (Nat → Int32)) (t_model_value : (Nat → Int32)) (n : Nat) (v3 : Int32) (v4 : Int32) : Option ((Int32 ⊕ String)) :=
  xf_xt_argument_22 t_model_lines t_model_number t_model_order t_model_size t_model_sort t_model_value n v3 v4 ((1 : Int32))
def xf_xt_argument (t_model_lines : Int32) (t_model_number : (Nat → Int32)) (t_model_order : (Nat → Int32)) (t_model_size : (Nat → Int32)) (t_model_sort : (Nat → Int32)) (t_model_value : (Nat → Int32)) (n : Nat) (a1 : Int32) (a2 : Int32) (a3 : Int32) : Option ((Int32 ⊕ String)) :=
  (xf_xt_spotOrRefuse t_model_lines t_model_number t_model_order t_model_size n a1 a2).bind fun q1428 =>
  Sum.elim (fun r1429 =>
    if a3 = (0 : Int32) then
      (xf_xt_argument_17 t_model_lines t_model_number t_model_order t_model_size t_model_sort t_model_value n a3 r1429)
    else
      if a3 = ((1 : Int32)) then
        (xf_xt_argument_17 t_model_lines t_model_number t_model_order t_model_size t_model_sort t_model_value n a3 r1429)
      else
        xf_xt_argument_22 t_model_lines t_model_number t_model_order t_model_size t_model_sort t_model_value n a3 r1429 ((0 : Int32)))
    (fun r1429 =>
      some (.inr r1429)) q1428
def xf_la_argument (p1_model_lines : Int32) (p1_model_number : (Nat → Int32)) (p1_model_order : (Nat → Int32)) (p1_model_size : (Nat → Int32)) (p1_model_sort : (Nat → Int32)) (p1_model_value : (Nat → Int32)) (n_p5 : Nat) (n : Nat) (p5 : (Nat → Int64)) (a2 : Int32) (a3 : Int32) (a4 : Int32) : Option (Int32 × (Nat → Int64)) :=
  (xf_xt_argument p1_model_lines p1_model_number p1_model_order p1_model_size p1_model_sort p1_model_value n a2 a3 a4).bind fun q1437 =>
  Sum.elim (fun r1438 =>
    if xr_in ((0 : Int32)) n_p5 = true then
      (some ((0 : Int32), vp_updL p5 ((0 : Int32)).toNatClampNeg r1438.toInt64))
    else none)
    (fun r1438 =>
      if r1438 = "java/lang/IllegalArgumentException" then
        (some ((1 : Int32), p5))
      else
        none) q1437
def xf_xt_item_30 (t_model_items : (Nat → Int32)) (t_model_lines : Int32) (t_model_number : (Nat → Int32)) (t_model_order : (Nat → Int32)) (t_model_size : (Nat → Int32)) (t_model_sort : (Nat → Int32)) (t_model_start : (Nat → Int32)) (t_model_used : Int32) (t_model_value : (Nat → Int32)) (n : Nat) (v3 : Int32) (v4 : Int32) (s0 : Int32) : Option ((Int32 ⊕ String)) :=
  (xf_xt_refuseUnless s0).bind fun q1444 =>
  Sum.elim (fun r1445 =>
    (xf_md_itemAt t_model_items t_model_start t_model_used v4 v3).bind fun q1446 =>
    some (.inl q1446))
    (fun r1445 =>
      some (.inr r1445)) q1444
def xf_xt_item_29 (t_model_items : (Nat → Int32)) (t_model_lines : Int32) (t_model_number : (Nat → Int32)) (t_model_order : (Nat → Int32)) (t_model_size : (Nat → Int32)) (t_model_sort : (Nat → Int32)) (t_model_start : (Nat → Int32)) (t_model_used : Int32) (t_model_value : (Nat → Int32)) (n : Nat) (v3 : Int32) (v4 : Int32) : Option ((Int32 ⊕ String)) :=
  xf_xt_item_30 t_model_items t_model_lines t_model_number t_model_order t_model_size t_model_sort t_model_start t_model_used t_model_value n v3 v4 ((0 : Int32))
def xf_xt_item (t_model_items : (Nat → Int32)) (t_model_lines : Int32) (t_model_number : (Nat → Int32)) (t_model_order : (Nat → Int32)) (t_model_size : (Nat → Int32)) (t_model_sort : (Nat → Int32)) (t_model_start : (Nat → Int32)) (t_model_used : Int32) (t_model_value : (Nat → Int32)) (n : Nat) (a1 : Int32) (a2 : Int32) (a3 : Int32) : Option ((Int32 ⊕ String)) :=
  (xf_xt_spotOrRefuse t_model_lines t_model_number t_model_order t_model_size n a1 a2).bind fun q1441 =>
  Sum.elim (fun r1442 =>
    if a3 < (0 : Int32) then
      (xf_xt_item_29 t_model_items t_model_lines t_model_number t_model_order t_model_size t_model_sort t_model_start t_model_used t_model_value n a3 r1442)
    else
      (xf_md_itemsOf t_model_sort t_model_value r1442).bind fun q1447 =>
      if a3 < q1447 then
        (xf_xt_item_30 t_model_items t_model_lines t_model_number t_model_order t_model_size t_model_sort t_model_start t_model_used t_model_value n a3 r1442 ((1 : Int32)))
      else
        xf_xt_item_29 t_model_items t_model_lines t_model_number t_model_order t_model_size t_model_sort t_model_start t_model_used t_model_value n a3 r1442)
    (fun r1442 =>
      some (.inr r1442)) q1441
def xf_la_item (p1_model_items : (Nat → Int32)) (p1_model_lines : Int32) (p1_model_number : (Nat → Int32)) (p1_model_order : (Nat → Int32)) (p1_model_size : (Nat → Int32)) (p1_model_sort : (Nat → Int32)) (p1_model_start : (Nat → Int32)) (p1_model_used : Int32) (p1_model_value : (Nat → Int32)) (n_p5 : Nat) (n : Nat) (p5 : (Nat → Int64)) (a2 : Int32) (a3 : Int32) (a4 : Int32) : Option (Int32 × (Nat → Int64)) :=
  (xf_xt_item p1_model_items p1_model_lines p1_model_number p1_model_order p1_model_size p1_model_sort p1_model_start p1_model_used p1_model_value n a2 a3 a4).bind fun q1449 =>
  Sum.elim (fun r1450 =>
    if xr_in ((0 : Int32)) n_p5 = true then
      (some ((0 : Int32), vp_updL p5 ((0 : Int32)).toNatClampNeg r1450.toInt64))
    else none)
    (fun r1450 =>
      if r1450 = "java/lang/IllegalArgumentException" then
        (some ((1 : Int32), p5))
      else
        none) q1449
def xf_gr_forgetGroups (t_grouped : Int32) : Option (Unit × Int32) :=
  some ((), (0 : Int32))
def xf_xt_set_46 (t_model_lines : Int32) (t_model_number : (Nat → Int32)) (t_model_order : (Nat → Int32)) (t_model_size : (Nat → Int32)) (t_model_sort : (Nat → Int32)) (n : Nat) (t_graph_grouped : Int32) (t_model_value : (Nat → Int32)) (v3 : Int32) (v4 : Int32) (s0 : Int32) : Option ((Int32 ⊕ String) × Int32 × (Nat → Int32)) :=
  (xf_xt_refuseUnless s0).bind fun q1460 =>
  Sum.elim (fun r1461 =>
    if xr_in v4 320 = true then
      (if xr_in v4 320 = true then
        ((xf_gr_forgetGroups t_graph_grouped).bind fun q1464 =>
        some (.inl (t_model_value v4.toNatClampNeg), q1464.2, upd t_model_value v4.toNatClampNeg v3))
      else none)
    else none)
    (fun r1461 =>
      some (.inr r1461, t_graph_grouped, t_model_value)) q1460
def xf_xt_set_25 (t_model_lines : Int32) (t_model_number : (Nat → Int32)) (t_model_order : (Nat → Int32)) (t_model_size : (Nat → Int32)) (t_model_sort : (Nat → Int32)) (n : Nat) (t_graph_grouped : Int32) (t_model_value : (Nat → Int32)) (v3 : Int32) (v4 : Int32) (s0 : Int32) : Option ((Int32 ⊕ String) × Int32 × (Nat → Int32)) :=
  (xf_xt_refuseUnless s0).bind fun q1456 =>
  Sum.elim (fun r1457 =>
    if xr_in v4 320 = true then
      (if (t_model_sort v4.toNatClampNeg) = (0 : Int32) then
        (xf_xt_set_46 t_model_lines t_model_number t_model_order t_model_size t_model_sort n t_graph_grouped t_model_value v3 v4 ((1 : Int32)))
      else
        xf_xt_set_46 t_model_lines t_model_number t_model_order t_model_size t_model_sort n t_graph_grouped t_model_value v3 v4 ((0 : Int32)))
    else none)
    (fun r1457 =>
      some (.inr r1457, t_graph_grouped, t_model_value)) q1456
def xf_xt_set_24 (t_model_lines : Int32) (t_model_number : (Nat → Int32)) (t_model_order : (Nat → Int32)) (t_model_size : (Nat → Int32)) (t_model_sort : (Nat → Int32)) (n : Nat) (t_graph_grouped : Int32) (t_model_value : (Nat → Int32)) (v3 : Int32) (v4 : Int32) : Option ((Int32 ⊕ String) × Int32 × (Nat → Int32)) :=
  xf_xt_set_25 t_model_lines t_model_number t_model_order t_model_size t_model_sort n t_graph_grouped t_model_value v3 v4 ((0 : Int32))
def xf_xt_set (t_model_lines : Int32) (t_model_number : (Nat → Int32)) (t_model_order : (Nat → Int32)) (t_model_size : (Nat → Int32)) (t_model_sort : (Nat → Int32)) (n : Nat) (t_graph_grouped : Int32) (t_model_value : (Nat → Int32)) (a1 : Int32) (a2 : Int32) (a3 : Int32) : Option ((Int32 ⊕ String) × Int32 × (Nat → Int32)) :=
  (xf_xt_spotOrRefuse t_model_lines t_model_number t_model_order t_model_size n a1 a2).bind fun q1453 =>
  Sum.elim (fun r1454 =>
    if a3 < ((-999999999 : Int32)) then
      (xf_xt_set_24 t_model_lines t_model_number t_model_order t_model_size t_model_sort n t_graph_grouped t_model_value a3 r1454)
    else
      if ((999999999 : Int32)) < a3 then
        (xf_xt_set_24 t_model_lines t_model_number t_model_order t_model_size t_model_sort n t_graph_grouped t_model_value a3 r1454)
      else
        xf_xt_set_25 t_model_lines t_model_number t_model_order t_model_size t_model_sort n t_graph_grouped t_model_value a3 r1454 ((1 : Int32)))
    (fun r1454 =>
      some (.inr r1454, t_graph_grouped, t_model_value)) q1453
def xf_la_set (p1_model_lines : Int32) (p1_model_number : (Nat → Int32)) (p1_model_order : (Nat → Int32)) (p1_model_size : (Nat → Int32)) (p1_model_sort : (Nat → Int32)) (n_p5 : Nat) (n : Nat) (p1_graph_grouped : Int32) (p1_model_value : (Nat → Int32)) (p5 : (Nat → Int64)) (a2 : Int32) (a3 : Int32) (a4 : Int32) : Option (Int32 × Int32 × (Nat → Int32) × (Nat → Int64)) :=
  (xf_xt_set p1_model_lines p1_model_number p1_model_order p1_model_size p1_model_sort n p1_graph_grouped p1_model_value a2 a3 a4).bind fun q1466 =>
  Sum.elim (fun r1467 =>
    if xr_in ((0 : Int32)) n_p5 = true then
      (some ((0 : Int32), q1466.2.1, q1466.2.2, vp_updL p5 ((0 : Int32)).toNatClampNeg r1467.toInt64))
    else none)
    (fun r1467 =>
      if r1467 = "java/lang/IllegalArgumentException" then
        (some ((1 : Int32), q1466.2.1, q1466.2.2, p5))
      else
        none) q1466.1
def xf_xt_misfitOf_27 (t_kinds_mayBeNothing : (Nat → Int32)) (t_kinds_name : (Nat → Int64)) (t_kinds_sort : (Nat → Int32)) (t_kinds_total : Int32) (t_model_name : (Nat → Int64)) (t_model_size : (Nat → Int32)) (t_model_sort : (Nat → Int32)) (t_model_value : (Nat → Int32)) (n : Nat) : Option (Int32) :=
  some ((-1 : Int32))
def xf_kd_takesSort_59 (t_mayBeNothing : (Nat → Int32)) (t_sort : (Nat → Int32)) (s0 : Int32) : Option (Int32) :=
  if fits .boolean (.int s0) = true then some s0 else none
def xf_kd_takesSort_54 (t_mayBeNothing : (Nat → Int32)) (t_sort : (Nat → Int32)) : Option (Int32) :=
  xf_kd_takesSort_59 t_mayBeNothing t_sort ((1 : Int32))
def xf_kd_takesSort_58 (t_mayBeNothing : (Nat → Int32)) (t_sort : (Nat → Int32)) : Option (Int32) :=
  xf_kd_takesSort_59 t_mayBeNothing t_sort ((0 : Int32))
def xf_kd_takesSort (t_mayBeNothing : (Nat → Int32)) (t_sort : (Nat → Int32)) (a1 : Int32) (a2 : Int32) (a3 : Int32) (a4 : Int32) : Option (Int32) :=
  if a3 = ((6 : Int32)) then
    (if xr_in ((a1 * ((8 : Int32))) + a2) 96 = true then
      (if fits .boolean (.int (t_mayBeNothing ((a1 * ((8 : Int32))) + a2).toNatClampNeg)) = true then some (t_mayBeNothing ((a1 * ((8 : Int32))) + a2).toNatClampNeg) else none)
    else none)
  else
    if xr_in ((a1 * ((8 : Int32))) + a2) 96 = true then
      (if a3 = (t_sort ((a1 * ((8 : Int32))) + a2).toNatClampNeg) then
        (xf_kd_takesSort_54 t_mayBeNothing t_sort)
      else
        if a3 = ((3 : Int32)) then
          (if a4 = (0 : Int32) then
            (if xr_in ((a1 * ((8 : Int32))) + a2) 96 = true then
              (if (t_sort ((a1 * ((8 : Int32))) + a2).toNatClampNeg) = ((4 : Int32)) then
                (xf_kd_takesSort_54 t_mayBeNothing t_sort)
              else
                xf_kd_takesSort_58 t_mayBeNothing t_sort)
            else none)
          else
            xf_kd_takesSort_58 t_mayBeNothing t_sort)
        else
          xf_kd_takesSort_58 t_mayBeNothing t_sort)
    else none
def xf_xt_misfitOf_32 (t_kinds_mayBeNothing : (Nat → Int32)) (t_kinds_name : (Nat → Int64)) (t_kinds_sort : (Nat → Int32)) (t_kinds_total : Int32) (t_model_name : (Nat → Int64)) (t_model_size : (Nat → Int32)) (t_model_sort : (Nat → Int32)) (t_model_value : (Nat → Int32)) (n : Nat) (N : Nat) : Int32 → Int32 → Int32 → Option (Int32) :=
  Nat.rec (motive := fun _ => Int32 → Int32 → Int32 → Option (Int32)) (fun _ _ _ => none) (fun _ k32 v1 v3 v4 =>
    if xr_in v1 40 = true then
      (if v4 < (t_model_size v1.toNatClampNeg) then
        (if xr_in ((v1 * ((8 : Int32))) + v4) 320 = true then
          (if xr_in ((v1 * ((8 : Int32))) + v4) 320 = true then
            ((xf_kd_takesSort t_kinds_mayBeNothing t_kinds_sort v3 v4 (t_model_sort ((v1 * ((8 : Int32))) + v4).toNatClampNeg) (t_model_value ((v1 * ((8 : Int32))) + v4).toNatClampNeg)).bind fun q1499 =>
            if q1499 = (0 : Int32) then
              (some v4)
            else
              k32 v1 v3 (v4 + (1 : Int32)))
          else none)
        else none)
      else
        some ((-1 : Int32)))
    else none) N
def xf_xt_misfitOf (t_kinds_mayBeNothing : (Nat → Int32)) (t_kinds_name : (Nat → Int64)) (t_kinds_sort : (Nat → Int32)) (t_kinds_total : Int32) (t_model_name : (Nat → Int64)) (t_model_size : (Nat → Int32)) (t_model_sort : (Nat → Int32)) (t_model_value : (Nat → Int32)) (n : Nat) (a1 : Int32) (a2 : Int32) : Option (Int32) :=
  if xr_in a1 40 = true then
    ((xf_kd_find t_kinds_name t_kinds_total n (t_model_name a1.toNatClampNeg)).bind fun q1482 =>
    if a2 = ((3 : Int32)) then
      (if q1482 = ((-1 : Int32)) then
        (xf_xt_misfitOf_27 t_kinds_mayBeNothing t_kinds_name t_kinds_sort t_kinds_total t_model_name t_model_size t_model_sort t_model_value n)
      else
        xf_xt_misfitOf_32 t_kinds_mayBeNothing t_kinds_name t_kinds_sort t_kinds_total t_model_name t_model_size t_model_sort t_model_value n n a1 q1482 ((0 : Int32)))
    else
      xf_xt_misfitOf_27 t_kinds_mayBeNothing t_kinds_name t_kinds_sort t_kinds_total t_model_name t_model_size t_model_sort t_model_value n)
  else none
def xf_xt_whyWrong_62 (t_kinds_mayBeNothing : (Nat → Int32)) (t_kinds_name : (Nat → Int64)) (t_kinds_size : (Nat → Int32)) (t_kinds_sort : (Nat → Int32)) (t_kinds_total : Int32) (t_model_name : (Nat → Int64)) (t_model_size : (Nat → Int32)) (t_model_sort : (Nat → Int32)) (t_model_value : (Nat → Int32)) (n : Nat) (s0 : Int32) : Option (Int32) :=
  some s0
def xf_xt_whyWrong (t_kinds_mayBeNothing : (Nat → Int32)) (t_kinds_name : (Nat → Int64)) (t_kinds_size : (Nat → Int32)) (t_kinds_sort : (Nat → Int32)) (t_kinds_total : Int32) (t_model_name : (Nat → Int64)) (t_model_size : (Nat → Int32)) (t_model_sort : (Nat → Int32)) (t_model_value : (Nat → Int32)) (n : Nat) (a1 : Int32) : Option (Int32) :=
  if xr_in a1 40 = true then
    ((xf_kd_find t_kinds_name t_kinds_total n (t_model_name a1.toNatClampNeg)).bind fun q1476 =>
    if q1476 = ((-1 : Int32)) then
      (some ((1 : Int32)))
    else
      if xr_in q1476 12 = true then
        (if xr_in a1 40 = true then
          (if (t_kinds_size q1476.toNatClampNeg) = (t_model_size a1.toNatClampNeg) then
            ((xf_xt_misfitOf t_kinds_mayBeNothing t_kinds_name t_kinds_sort t_kinds_total t_model_name t_model_size t_model_sort t_model_value n a1 ((3 : Int32))).bind fun q1501 =>
            if q1501 = ((-1 : Int32)) then
              (xf_xt_whyWrong_62 t_kinds_mayBeNothing t_kinds_name t_kinds_size t_kinds_sort t_kinds_total t_model_name t_model_size t_model_sort t_model_value n ((0 : Int32)))
            else
              xf_xt_whyWrong_62 t_kinds_mayBeNothing t_kinds_name t_kinds_size t_kinds_sort t_kinds_total t_model_name t_model_size t_model_sort t_model_value n ((3 : Int32)))
          else
            some ((2 : Int32)))
        else none)
      else none)
  else none
def xf_xt_wrong_111 (t_kinds_mayBeNothing : (Nat → Int32)) (t_kinds_name : (Nat → Int64)) (t_kinds_size : (Nat → Int32)) (t_kinds_sort : (Nat → Int32)) (t_kinds_total : Int32) (t_model_lines : Int32) (t_model_name : (Nat → Int64)) (t_model_number : (Nat → Int32)) (t_model_order : (Nat → Int32)) (t_model_size : (Nat → Int32)) (t_model_sort : (Nat → Int32)) (t_model_value : (Nat → Int32)) (k26 : Int32 → Int32 → Int32 → Option ((Int32 ⊕ String))) (n : Nat) (v2 : Int32) (v4 : Int32) (s0 : Int32) (s1 : Int32) : Option ((Int32 ⊕ String)) :=
  k26 v2 (s0 - s1) (v4 + (1 : Int32))
def xf_xt_wrong_100 (t_kinds_mayBeNothing : (Nat → Int32)) (t_kinds_name : (Nat → Int64)) (t_kinds_size : (Nat → Int32)) (t_kinds_sort : (Nat → Int32)) (t_kinds_total : Int32) (t_model_lines : Int32) (t_model_name : (Nat → Int64)) (t_model_number : (Nat → Int32)) (t_model_order : (Nat → Int32)) (t_model_size : (Nat → Int32)) (t_model_sort : (Nat → Int32)) (t_model_value : (Nat → Int32)) (k26 : Int32 → Int32 → Int32 → Option ((Int32 ⊕ String))) (n : Nat) (v2 : Int32) (v3 : Int32) (v4 : Int32) (v6 : Int32) : Option ((Int32 ⊕ String)) :=
  if v6 = (0 : Int32) then
    (xf_xt_wrong_111 t_kinds_mayBeNothing t_kinds_name t_kinds_size t_kinds_sort t_kinds_total t_model_lines t_model_name t_model_number t_model_order t_model_size t_model_sort t_model_value k26 n v2 v4 v3 ((0 : Int32)))
  else
    xf_xt_wrong_111 t_kinds_mayBeNothing t_kinds_name t_kinds_size t_kinds_sort t_kinds_total t_model_lines t_model_name t_model_number t_model_order t_model_size t_model_sort t_model_value k26 n v2 v4 v3 ((1 : Int32))
def xf_xt_wrong_99 (t_kinds_mayBeNothing : (Nat → Int32)) (t_kinds_name : (Nat → Int64)) (t_kinds_size : (Nat → Int32)) (t_kinds_sort : (Nat → Int32)) (t_kinds_total : Int32) (t_model_lines : Int32) (t_model_name : (Nat → Int64)) (t_model_number : (Nat → Int32)) (t_model_order : (Nat → Int32)) (t_model_size : (Nat → Int32)) (t_model_sort : (Nat → Int32)) (t_model_value : (Nat → Int32)) (n : Nat) (s0 : Int32) : Option ((Int32 ⊕ String)) :=
  some (.inl s0)
def xf_xt_wrong_26 (t_kinds_mayBeNothing : (Nat → Int32)) (t_kinds_name : (Nat → Int64)) (t_kinds_size : (Nat → Int32)) (t_kinds_sort : (Nat → Int32)) (t_kinds_total : Int32) (t_model_lines : Int32) (t_model_name : (Nat → Int64)) (t_model_number : (Nat → Int32)) (t_model_order : (Nat → Int32)) (t_model_size : (Nat → Int32)) (t_model_sort : (Nat → Int32)) (t_model_value : (Nat → Int32)) (n : Nat) (N : Nat) : Int32 → Int32 → Int32 → Option ((Int32 ⊕ String)) :=
  Nat.rec (motive := fun _ => Int32 → Int32 → Int32 → Option ((Int32 ⊕ String))) (fun _ _ _ => none) (fun _ k26 v2 v3 v4 =>
    if v4 < t_model_lines then
      ((xf_md_rowAt t_model_lines t_model_order v4).bind fun q1474 =>
      (xf_xt_whyWrong t_kinds_mayBeNothing t_kinds_name t_kinds_size t_kinds_sort t_kinds_total t_model_name t_model_size t_model_sort t_model_value n q1474).bind fun q1503 =>
      if q1503 = (0 : Int32) then
        (xf_xt_wrong_100 t_kinds_mayBeNothing t_kinds_name t_kinds_size t_kinds_sort t_kinds_total t_model_lines t_model_name t_model_number t_model_order t_model_size t_model_sort t_model_value k26 n v2 v3 v4 q1503)
      else
        if v3 = (0 : Int32) then
          (if v2 = (0 : Int32) then
            (if xr_in q1474 40 = true then
              (some (.inl (t_model_number q1474.toNatClampNeg)))
            else none)
          else
            if v2 = ((1 : Int32)) then
              (xf_xt_wrong_99 t_kinds_mayBeNothing t_kinds_name t_kinds_size t_kinds_sort t_kinds_total t_model_lines t_model_name t_model_number t_model_order t_model_size t_model_sort t_model_value n q1503)
            else
              (xf_xt_misfitOf t_kinds_mayBeNothing t_kinds_name t_kinds_sort t_kinds_total t_model_name t_model_size t_model_sort t_model_value n q1474 q1503).bind fun q1510 =>
              xf_xt_wrong_99 t_kinds_mayBeNothing t_kinds_name t_kinds_size t_kinds_sort t_kinds_total t_model_lines t_model_name t_model_number t_model_order t_model_size t_model_sort t_model_value n q1510)
        else
          xf_xt_wrong_100 t_kinds_mayBeNothing t_kinds_name t_kinds_size t_kinds_sort t_kinds_total t_model_lines t_model_name t_model_number t_model_order t_model_size t_model_sort t_model_value k26 n v2 v3 v4 q1503)
    else
      some (.inl ((-1 : Int32)))) N
def xf_xt_wrong_18 (t_kinds_mayBeNothing : (Nat → Int32)) (t_kinds_name : (Nat → Int64)) (t_kinds_size : (Nat → Int32)) (t_kinds_sort : (Nat → Int32)) (t_kinds_total : Int32) (t_model_lines : Int32) (t_model_name : (Nat → Int64)) (t_model_number : (Nat → Int32)) (t_model_order : (Nat → Int32)) (t_model_size : (Nat → Int32)) (t_model_sort : (Nat → Int32)) (t_model_value : (Nat → Int32)) (n : Nat) (v1 : Int32) (v2 : Int32) (s0 : Int32) : Option ((Int32 ⊕ String)) :=
  (xf_xt_refuseUnless s0).bind fun q1471 =>
  Sum.elim (fun r1472 =>
    xf_xt_wrong_26 t_kinds_mayBeNothing t_kinds_name t_kinds_size t_kinds_sort t_kinds_total t_model_lines t_model_name t_model_number t_model_order t_model_size t_model_sort t_model_value n n v2 v1 ((0 : Int32)))
    (fun r1472 =>
      some (.inr r1472)) q1471
def xf_xt_wrong_17 (t_kinds_mayBeNothing : (Nat → Int32)) (t_kinds_name : (Nat → Int64)) (t_kinds_size : (Nat → Int32)) (t_kinds_sort : (Nat → Int32)) (t_kinds_total : Int32) (t_model_lines : Int32) (t_model_name : (Nat → Int64)) (t_model_number : (Nat → Int32)) (t_model_order : (Nat → Int32)) (t_model_size : (Nat → Int32)) (t_model_sort : (Nat → Int32)) (t_model_value : (Nat → Int32)) (n : Nat) (v1 : Int32) (v2 : Int32) : Option ((Int32 ⊕ String)) :=
  xf_xt_wrong_18 t_kinds_mayBeNothing t_kinds_name t_kinds_size t_kinds_sort t_kinds_total t_model_lines t_model_name t_model_number t_model_order t_model_size t_model_sort t_model_value n v1 v2 ((0 : Int32))
def xf_xt_wrong (t_kinds_mayBeNothing : (Nat → Int32)) (t_kinds_name : (Nat → Int64)) (t_kinds_size : (Nat → Int32)) (t_kinds_sort : (Nat → Int32)) (t_kinds_total : Int32) (t_model_lines : Int32) (t_model_name : (Nat → Int64)) (t_model_number : (Nat → Int32)) (t_model_order : (Nat → Int32)) (t_model_size : (Nat → Int32)) (t_model_sort : (Nat → Int32)) (t_model_value : (Nat → Int32)) (n : Nat) (a1 : Int32) (a2 : Int32) : Option ((Int32 ⊕ String)) :=
  if a1 < (0 : Int32) then
    (xf_xt_wrong_17 t_kinds_mayBeNothing t_kinds_name t_kinds_size t_kinds_sort t_kinds_total t_model_lines t_model_name t_model_number t_model_order t_model_size t_model_sort t_model_value n a1 a2)
  else
    if a2 < (0 : Int32) then
      (xf_xt_wrong_17 t_kinds_mayBeNothing t_kinds_name t_kinds_size t_kinds_sort t_kinds_total t_model_lines t_model_name t_model_number t_model_order t_model_size t_model_sort t_model_value n a1 a2)
    else
      if ((2 : Int32)) < a2 then
        (xf_xt_wrong_17 t_kinds_mayBeNothing t_kinds_name t_kinds_size t_kinds_sort t_kinds_total t_model_lines t_model_name t_model_number t_model_order t_model_size t_model_sort t_model_value n a1 a2)
      else
        xf_xt_wrong_18 t_kinds_mayBeNothing t_kinds_name t_kinds_size t_kinds_sort t_kinds_total t_model_lines t_model_name t_model_number t_model_order t_model_size t_model_sort t_model_value n a1 a2 ((1 : Int32))
def xf_la_wrong (p1_kinds_mayBeNothing : (Nat → Int32)) (p1_kinds_name : (Nat → Int64)) (p1_kinds_size : (Nat → Int32)) (p1_kinds_sort : (Nat → Int32)) (p1_kinds_total : Int32) (p1_model_lines : Int32) (p1_model_name : (Nat → Int64)) (p1_model_number : (Nat → Int32)) (p1_model_order : (Nat → Int32)) (p1_model_size : (Nat → Int32)) (p1_model_sort : (Nat → Int32)) (p1_model_value : (Nat → Int32)) (n_p4 : Nat) (n : Nat) (p4 : (Nat → Int64)) (a2 : Int32) (a3 : Int32) : Option (Int32 × (Nat → Int64)) :=
  (xf_xt_wrong p1_kinds_mayBeNothing p1_kinds_name p1_kinds_size p1_kinds_sort p1_kinds_total p1_model_lines p1_model_name p1_model_number p1_model_order p1_model_size p1_model_sort p1_model_value n a2 a3).bind fun q1513 =>
  Sum.elim (fun r1514 =>
    if xr_in ((0 : Int32)) n_p4 = true then
      (some ((0 : Int32), vp_updL p4 ((0 : Int32)).toNatClampNeg r1514.toInt64))
    else none)
    (fun r1514 =>
      if r1514 = "java/lang/IllegalArgumentException" then
        (some ((1 : Int32), p4))
      else
        none) q1513
def xf_gr_refersTo_20 (t_direct : (Nat → Int64)) (s0 : Int32) : Option (Int32) :=
  if fits .boolean (.int s0) = true then some s0 else none
def xf_gr_refersTo (t_direct : (Nat → Int64)) (a1 : Int32) (a2 : Int32) : Option (Int32) :=
  if xr_in a1 40 = true then
    (if (lg_cmp ((xe_ushr (t_direct a1.toNatClampNeg) a2) &&& ((1 : Int64))) ((0 : Int64))) = (0 : Int32) then
      (xf_gr_refersTo_20 t_direct ((0 : Int32)))
    else
      xf_gr_refersTo_20 t_direct ((1 : Int32)))
  else none
def xf_xt_from_79 (t_graph_direct : (Nat → Int64)) (t_model_lines : Int32) (t_model_number : (Nat → Int32)) (t_model_order : (Nat → Int32)) (k24 : Int32 → Int32 → Int32 → Option ((Int32 ⊕ String))) (n : Nat) (v3 : Int32) (v4 : Int32) (v5 : Int32) : Option ((Int32 ⊕ String)) :=
  k24 v3 v4 (v5 + (1 : Int32))
def xf_xt_from_24 (t_graph_direct : (Nat → Int64)) (t_model_lines : Int32) (t_model_number : (Nat → Int32)) (t_model_order : (Nat → Int32)) (n : Nat) (N : Nat) : Int32 → Int32 → Int32 → Option ((Int32 ⊕ String)) :=
  Nat.rec (motive := fun _ => Int32 → Int32 → Int32 → Option ((Int32 ⊕ String))) (fun _ _ _ => none) (fun _ k24 v3 v4 v5 =>
    if v5 < t_model_lines then
      ((xf_md_rowAt t_model_lines t_model_order v5).bind fun q1523 =>
      (xf_gr_refersTo t_graph_direct q1523 v3).bind fun q1527 =>
      if q1527 = (0 : Int32) then
        (xf_xt_from_79 t_graph_direct t_model_lines t_model_number t_model_order k24 n v3 v4 v5)
      else
        if v4 = (0 : Int32) then
          (if xr_in q1523 40 = true then
            (some (.inl (t_model_number q1523.toNatClampNeg)))
          else none)
        else
          xf_xt_from_79 t_graph_direct t_model_lines t_model_number t_model_order k24 n v3 (v4 + (-1 : Int32)) v5)
    else
      some (.inl ((-1 : Int32)))) N
def xf_xt_from_15 (t_graph_direct : (Nat → Int64)) (t_model_lines : Int32) (t_model_number : (Nat → Int32)) (t_model_order : (Nat → Int32)) (n : Nat) (v2 : Int32) (v3 : Int32) (s0 : Int32) : Option ((Int32 ⊕ String)) :=
  (xf_xt_refuseUnless s0).bind fun q1520 =>
  Sum.elim (fun r1521 =>
    xf_xt_from_24 t_graph_direct t_model_lines t_model_number t_model_order n n v3 v2 ((0 : Int32)))
    (fun r1521 =>
      some (.inr r1521)) q1520
def xf_xt_from (t_graph_direct : (Nat → Int64)) (t_model_lines : Int32) (t_model_number : (Nat → Int32)) (t_model_order : (Nat → Int32)) (n : Nat) (a1 : Int32) (a2 : Int32) : Option ((Int32 ⊕ String)) :=
  (xf_xt_rowOrRefuse t_model_lines t_model_number t_model_order n a1).bind fun q1517 =>
  Sum.elim (fun r1518 =>
    if a2 < (0 : Int32) then
      (xf_xt_from_15 t_graph_direct t_model_lines t_model_number t_model_order n a2 r1518 ((0 : Int32)))
    else
      xf_xt_from_15 t_graph_direct t_model_lines t_model_number t_model_order n a2 r1518 ((1 : Int32)))
    (fun r1518 =>
      some (.inr r1518)) q1517
def xf_la_from (p1_graph_direct : (Nat → Int64)) (p1_model_lines : Int32) (p1_model_number : (Nat → Int32)) (p1_model_order : (Nat → Int32)) (n_p4 : Nat) (n : Nat) (p4 : (Nat → Int64)) (a2 : Int32) (a3 : Int32) : Option (Int32 × (Nat → Int64)) :=
  (xf_xt_from p1_graph_direct p1_model_lines p1_model_number p1_model_order n a2 a3).bind fun q1531 =>
  Sum.elim (fun r1532 =>
    if xr_in ((0 : Int32)) n_p4 = true then
      (some ((0 : Int32), vp_updL p4 ((0 : Int32)).toNatClampNeg r1532.toInt64))
    else none)
    (fun r1532 =>
      if r1532 = "java/lang/IllegalArgumentException" then
        (some ((1 : Int32), p4))
      else
        none) q1531
def xf_gr_comesBack_20 (t_reach : (Nat → Int64)) (s0 : Int32) : Option (Int32) :=
  if fits .boolean (.int s0) = true then some s0 else none
def xf_gr_comesBack (t_reach : (Nat → Int64)) (a1 : Int32) : Option (Int32) :=
  if xr_in a1 40 = true then
    (if (lg_cmp ((xe_ushr (t_reach a1.toNatClampNeg) a1) &&& ((1 : Int64))) ((0 : Int64))) = (0 : Int32) then
      (xf_gr_comesBack_20 t_reach ((0 : Int32)))
    else
      xf_gr_comesBack_20 t_reach ((1 : Int32)))
  else none
def xf_xt_ring_67 (t_graph_reach : (Nat → Int64)) (t_model_lines : Int32) (t_model_number : (Nat → Int32)) (t_model_order : (Nat → Int32)) (k16 : Int32 → Int32 → Option ((Int32 ⊕ String))) (n : Nat) (v2 : Int32) (v3 : Int32) : Option ((Int32 ⊕ String)) :=
  k16 v2 (v3 + (1 : Int32))
def xf_xt_ring_16 (t_graph_reach : (Nat → Int64)) (t_model_lines : Int32) (t_model_number : (Nat → Int32)) (t_model_order : (Nat → Int32)) (n : Nat) (N : Nat) : Int32 → Int32 → Option ((Int32 ⊕ String)) :=
  Nat.rec (motive := fun _ => Int32 → Int32 → Option ((Int32 ⊕ String))) (fun _ _ => none) (fun _ k16 v2 v3 =>
    if v3 < t_model_lines then
      ((xf_md_rowAt t_model_lines t_model_order v3).bind fun q1539 =>
      (xf_gr_comesBack t_graph_reach q1539).bind fun q1543 =>
      if q1543 = (0 : Int32) then
        (xf_xt_ring_67 t_graph_reach t_model_lines t_model_number t_model_order k16 n v2 v3)
      else
        if v2 = (0 : Int32) then
          (if xr_in q1539 40 = true then
            (some (.inl (t_model_number q1539.toNatClampNeg)))
          else none)
        else
          xf_xt_ring_67 t_graph_reach t_model_lines t_model_number t_model_order k16 n (v2 + (-1 : Int32)) v3)
    else
      some (.inl ((-1 : Int32)))) N
def xf_xt_ring_9 (t_graph_reach : (Nat → Int64)) (t_model_lines : Int32) (t_model_number : (Nat → Int32)) (t_model_order : (Nat → Int32)) (n : Nat) (v1 : Int32) (s0 : Int32) : Option ((Int32 ⊕ String)) :=
  (xf_xt_refuseUnless s0).bind fun q1536 =>
  Sum.elim (fun r1537 =>
    xf_xt_ring_16 t_graph_reach t_model_lines t_model_number t_model_order n n v1 ((0 : Int32)))
    (fun r1537 =>
      some (.inr r1537)) q1536
def xf_xt_ring (t_graph_reach : (Nat → Int64)) (t_model_lines : Int32) (t_model_number : (Nat → Int32)) (t_model_order : (Nat → Int32)) (n : Nat) (a1 : Int32) : Option ((Int32 ⊕ String)) :=
  if a1 < (0 : Int32) then
    (xf_xt_ring_9 t_graph_reach t_model_lines t_model_number t_model_order n a1 ((0 : Int32)))
  else
    xf_xt_ring_9 t_graph_reach t_model_lines t_model_number t_model_order n a1 ((1 : Int32))
def xf_la_ring (p1_graph_reach : (Nat → Int64)) (p1_model_lines : Int32) (p1_model_number : (Nat → Int32)) (p1_model_order : (Nat → Int32)) (n_p3 : Nat) (n : Nat) (p3 : (Nat → Int64)) (a2 : Int32) : Option (Int32 × (Nat → Int64)) :=
  (xf_xt_ring p1_graph_reach p1_model_lines p1_model_number p1_model_order n a2).bind fun q1547 =>
  Sum.elim (fun r1548 =>
    if xr_in ((0 : Int32)) n_p3 = true then
      (some ((0 : Int32), vp_updL p3 ((0 : Int32)).toNatClampNeg r1548.toInt64))
    else none)
    (fun r1548 =>
      if r1548 = "java/lang/IllegalArgumentException" then
        (some ((1 : Int32), p3))
      else
        none) q1547
def xf_md_isPlaced_73 (t_size : (Nat → Int32)) (t_sort : (Nat → Int32)) (n : Nat) (s0 : Int32) : Option (Int32) :=
  if fits .boolean (.int s0) = true then some s0 else none
def xf_md_isPlaced_68 (t_size : (Nat → Int32)) (t_sort : (Nat → Int32)) (n : Nat) : Option (Int32) :=
  xf_md_isPlaced_73 t_size t_sort n ((1 : Int32))
def xf_md_isPlaced_19 (t_size : (Nat → Int32)) (t_sort : (Nat → Int32)) (n : Nat) (N : Nat) : Int32 → Int32 → Option (Int32) :=
  Nat.rec (motive := fun _ => Int32 → Int32 → Option (Int32)) (fun _ _ => none) (fun _ k19 v2 v3 =>
    if v3 < ((3 : Int32)) then
      (if xr_in (v2 + v3) 320 = true then
        (if (t_sort (v2 + v3).toNatClampNeg) = (0 : Int32) then
          (k19 v2 (v3 + (1 : Int32)))
        else
          some ((0 : Int32)))
      else none)
    else
      if xr_in (v2 + ((3 : Int32))) 320 = true then
        (if (t_sort (v2 + ((3 : Int32))).toNatClampNeg) = ((2 : Int32)) then
          (xf_md_isPlaced_68 t_size t_sort n)
        else
          if xr_in (v2 + ((3 : Int32))) 320 = true then
            (if (t_sort (v2 + ((3 : Int32))).toNatClampNeg) = ((6 : Int32)) then
              (xf_md_isPlaced_68 t_size t_sort n)
            else
              xf_md_isPlaced_73 t_size t_sort n ((0 : Int32)))
          else none)
      else none) N
def xf_md_isPlaced (t_size : (Nat → Int32)) (t_sort : (Nat → Int32)) (n : Nat) (a1 : Int32) : Option (Int32) :=
  if xr_in a1 40 = true then
    (if ((3 : Int32)) < (t_size a1.toNatClampNeg) then
      (xf_md_isPlaced_19 t_size t_sort n n (a1 * ((8 : Int32))) ((0 : Int32)))
    else
      some ((0 : Int32)))
  else none
def xf_md_nextPlaced_48 (t_lines : Int32) (t_number : (Nat → Int32)) (t_order : (Nat → Int32)) (t_size : (Nat → Int32)) (t_sort : (Nat → Int32)) (t_value : (Nat → Int32)) (n : Nat) (s0 : Int32) : Option (Int32) :=
  some s0
def xf_md_nextPlaced_47 (t_lines : Int32) (t_number : (Nat → Int32)) (t_order : (Nat → Int32)) (t_size : (Nat → Int32)) (t_sort : (Nat → Int32)) (t_value : (Nat → Int32)) (n : Nat) : Option (Int32) :=
  xf_md_nextPlaced_48 t_lines t_number t_order t_size t_sort t_value n ((-1 : Int32))
def xf_md_nextPlaced (t_lines : Int32) (t_number : (Nat → Int32)) (t_order : (Nat → Int32)) (t_size : (Nat → Int32)) (t_sort : (Nat → Int32)) (t_value : (Nat → Int32)) (n : Nat) (a1 : Int32) : Option (Int32) :=
  if xr_in ((a1 * ((8 : Int32))) + ((3 : Int32))) 320 = true then
    (if (t_sort ((a1 * ((8 : Int32))) + ((3 : Int32))).toNatClampNeg) = ((2 : Int32)) then
      (if xr_in ((a1 * ((8 : Int32))) + ((3 : Int32))) 320 = true then
        ((xf_md_rowOf t_lines t_number t_order n (t_value ((a1 * ((8 : Int32))) + ((3 : Int32))).toNatClampNeg)).bind fun q1574 =>
        if q1574 = ((-1 : Int32)) then
          (xf_md_nextPlaced_47 t_lines t_number t_order t_size t_sort t_value n)
        else
          (xf_md_isPlaced t_size t_sort n q1574).bind fun q1576 =>
          if q1576 = (0 : Int32) then
            (xf_md_nextPlaced_47 t_lines t_number t_order t_size t_sort t_value n)
          else
            xf_md_nextPlaced_48 t_lines t_number t_order t_size t_sort t_value n q1574)
      else none)
    else
      some ((-1 : Int32)))
  else none
def xf_xt_place_40 (t_model_lines : Int32) (t_model_number : (Nat → Int32)) (t_model_order : (Nat → Int32)) (t_model_size : (Nat → Int32)) (t_model_sort : (Nat → Int32)) (t_model_value : (Nat → Int32)) (n : Nat) (N : Nat) : Int32 → Int32 → Int64 → Int32 → Option ((Int64 ⊕ String)) :=
  Nat.rec (motive := fun _ => Int32 → Int32 → Int64 → Int32 → Option ((Int64 ⊕ String))) (fun _ _ _ _ => none) (fun _ k40 v2 v3 v4 v6 =>
    if v6 < t_model_lines then
      (if xr_in ((v3 * ((8 : Int32))) + v2) 320 = true then
        ((xf_md_nextPlaced t_model_lines t_model_number t_model_order t_model_size t_model_sort t_model_value n v3).bind fun q1578 =>
        if q1578 = ((-1 : Int32)) then
          (some (.inl (v4 + ((t_model_value ((v3 * ((8 : Int32))) + v2).toNatClampNeg).toInt64))))
        else
          k40 v2 q1578 (v4 + ((t_model_value ((v3 * ((8 : Int32))) + v2).toNatClampNeg).toInt64)) (v6 + (1 : Int32)))
      else none)
    else
      some (.inl ((1000000000000 : Int64)))) N
def xf_xt_place_20 (t_model_lines : Int32) (t_model_number : (Nat → Int32)) (t_model_order : (Nat → Int32)) (t_model_size : (Nat → Int32)) (t_model_sort : (Nat → Int32)) (t_model_value : (Nat → Int32)) (n : Nat) (v2 : Int32) (v3 : Int32) (s0 : Int32) : Option ((Int64 ⊕ String)) :=
  (xf_xt_refuseUnless s0).bind fun q1554 =>
  Sum.elim (fun r1555 =>
    (xf_md_isPlaced t_model_size t_model_sort n v3).bind fun q1566 =>
    (xf_xt_refuseUnless q1566).bind fun q1567 =>
    Sum.elim (fun r1568 =>
      xf_xt_place_40 t_model_lines t_model_number t_model_order t_model_size t_model_sort t_model_value n n v2 v3 ((0 : Int64)) ((0 : Int32)))
      (fun r1568 =>
        some (.inr r1568)) q1567)
    (fun r1555 =>
      some (.inr r1555)) q1554
def xf_xt_place_19 (t_model_lines : Int32) (t_model_number : (Nat → Int32)) (t_model_order : (Nat → Int32)) (t_model_size : (Nat → Int32)) (t_model_sort : (Nat → Int32)) (t_model_value : (Nat → Int32)) (n : Nat) (v2 : Int32) (v3 : Int32) : Option ((Int64 ⊕ String)) :=
  xf_xt_place_20 t_model_lines t_model_number t_model_order t_model_size t_model_sort t_model_value n v2 v3 ((0 : Int32))
def xf_xt_place (t_model_lines : Int32) (t_model_number : (Nat → Int32)) (t_model_order : (Nat → Int32)) (t_model_size : (Nat → Int32)) (t_model_sort : (Nat → Int32)) (t_model_value : (Nat → Int32)) (n : Nat) (a1 : Int32) (a2 : Int32) : Option ((Int64 ⊕ String)) :=
  (xf_xt_rowOrRefuse t_model_lines t_model_number t_model_order n a1).bind fun q1551 =>
  Sum.elim (fun r1552 =>
    if a2 < (0 : Int32) then
      (xf_xt_place_19 t_model_lines t_model_number t_model_order t_model_size t_model_sort t_model_value n a2 r1552)
    else
      if a2 < ((3 : Int32)) then
        (xf_xt_place_20 t_model_lines t_model_number t_model_order t_model_size t_model_sort t_model_value n a2 r1552 ((1 : Int32)))
      else
        xf_xt_place_19 t_model_lines t_model_number t_model_order t_model_size t_model_sort t_model_value n a2 r1552)
    (fun r1552 =>
      some (.inr r1552)) q1551
def xf_la_place (p1_model_lines : Int32) (p1_model_number : (Nat → Int32)) (p1_model_order : (Nat → Int32)) (p1_model_size : (Nat → Int32)) (p1_model_sort : (Nat → Int32)) (p1_model_value : (Nat → Int32)) (n_p4 : Nat) (n : Nat) (p4 : (Nat → Int64)) (a2 : Int32) (a3 : Int32) : Option (Int32 × (Nat → Int64)) :=
  (xf_xt_place p1_model_lines p1_model_number p1_model_order p1_model_size p1_model_sort p1_model_value n a2 a3).bind fun q1581 =>
  Sum.elim (fun r1582 =>
    if xr_in ((0 : Int32)) n_p4 = true then
      (some ((0 : Int32), vp_updL p4 ((0 : Int32)).toNatClampNeg r1582))
    else none)
    (fun r1582 =>
      if r1582 = "java/lang/IllegalArgumentException" then
        (some ((1 : Int32), p4))
      else
        none) q1581
def xf_xt_alike_49 (t_graph_depth : (Nat → Int32)) (t_model_items : (Nat → Int32)) (t_model_lines : Int32) (t_model_name : (Nat → Int64)) (t_model_number : (Nat → Int32)) (t_model_order : (Nat → Int32)) (t_model_size : (Nat → Int32)) (t_model_sort : (Nat → Int32)) (t_model_start : (Nat → Int32)) (t_model_used : Int32) (t_model_value : (Nat → Int32)) (n_t_graph_leads_to : Nat) (n : Nat) (t_graph_grouped : Int32) (t_graph_leads_to : (Nat → Int32)) (s0 : Int32) : Option ((Int32 ⊕ String) × Int32 × (Nat → Int32)) :=
  if fits .boolean (.int s0) = true then some (.inl s0, t_graph_grouped, t_graph_leads_to) else none
def xf_xt_alike (t_graph_depth : (Nat → Int32)) (t_model_items : (Nat → Int32)) (t_model_lines : Int32) (t_model_name : (Nat → Int64)) (t_model_number : (Nat → Int32)) (t_model_order : (Nat → Int32)) (t_model_size : (Nat → Int32)) (t_model_sort : (Nat → Int32)) (t_model_start : (Nat → Int32)) (t_model_used : Int32) (t_model_value : (Nat → Int32)) (n_t_graph_leads_to : Nat) (n : Nat) (t_graph_grouped : Int32) (t_graph_leads_to : (Nat → Int32)) (a1 : Int32) (a2 : Int32) : Option ((Int32 ⊕ String) × Int32 × (Nat → Int32)) :=
  (xf_xt_rowOrRefuse t_model_lines t_model_number t_model_order n a1).bind fun q1585 =>
  Sum.elim (fun r1586 =>
    (xf_xt_rowOrRefuse t_model_lines t_model_number t_model_order n a2).bind fun q1587 =>
    Sum.elim (fun r1588 =>
      (xf_gr_group t_graph_depth t_model_items t_model_lines t_model_name t_model_number t_model_order t_model_size t_model_sort t_model_start t_model_used t_model_value n_t_graph_leads_to n t_graph_grouped t_graph_leads_to).bind fun q1589 =>
      (xf_le_of q1589.2.2 n_t_graph_leads_to a1).bind fun q1590 =>
      (xf_le_of q1589.2.2 n_t_graph_leads_to a2).bind fun q1591 =>
      if q1590 = q1591 then
        (xf_xt_alike_49 t_graph_depth t_model_items t_model_lines t_model_name t_model_number t_model_order t_model_size t_model_sort t_model_start t_model_used t_model_value n_t_graph_leads_to n q1589.2.1 q1589.2.2 ((1 : Int32)))
      else
        xf_xt_alike_49 t_graph_depth t_model_items t_model_lines t_model_name t_model_number t_model_order t_model_size t_model_sort t_model_start t_model_used t_model_value n_t_graph_leads_to n q1589.2.1 q1589.2.2 ((0 : Int32)))
      (fun r1588 =>
        some (.inr r1588, t_graph_grouped, t_graph_leads_to)) q1587)
    (fun r1586 =>
      some (.inr r1586, t_graph_grouped, t_graph_leads_to)) q1585
def xf_la_alike_16 (p1_graph_depth : (Nat → Int32)) (p1_model_items : (Nat → Int32)) (p1_model_lines : Int32) (p1_model_name : (Nat → Int64)) (p1_model_number : (Nat → Int32)) (p1_model_order : (Nat → Int32)) (p1_model_size : (Nat → Int32)) (p1_model_sort : (Nat → Int32)) (p1_model_start : (Nat → Int32)) (p1_model_used : Int32) (p1_model_value : (Nat → Int32)) (n_p1_graph_leads_to : Nat) (n_p4 : Nat) (n : Nat) (p1_graph_grouped : Int32) (p1_graph_leads_to : (Nat → Int32)) (p4 : (Nat → Int64)) (s1 : Int32) (s2 : Int64) : Option (Int32 × Int32 × (Nat → Int32) × (Nat → Int64)) :=
  if xr_in s1 n_p4 = true then
    (some ((0 : Int32), p1_graph_grouped, p1_graph_leads_to, vp_updL p4 s1.toNatClampNeg s2))
  else none
def xf_la_alike (p1_graph_depth : (Nat → Int32)) (p1_model_items : (Nat → Int32)) (p1_model_lines : Int32) (p1_model_name : (Nat → Int64)) (p1_model_number : (Nat → Int32)) (p1_model_order : (Nat → Int32)) (p1_model_size : (Nat → Int32)) (p1_model_sort : (Nat → Int32)) (p1_model_start : (Nat → Int32)) (p1_model_used : Int32) (p1_model_value : (Nat → Int32)) (n_p1_graph_leads_to : Nat) (n_p4 : Nat) (n : Nat) (p1_graph_grouped : Int32) (p1_graph_leads_to : (Nat → Int32)) (p4 : (Nat → Int64)) (a2 : Int32) (a3 : Int32) : Option (Int32 × Int32 × (Nat → Int32) × (Nat → Int64)) :=
  (xf_xt_alike p1_graph_depth p1_model_items p1_model_lines p1_model_name p1_model_number p1_model_order p1_model_size p1_model_sort p1_model_start p1_model_used p1_model_value n_p1_graph_leads_to n p1_graph_grouped p1_graph_leads_to a2 a3).bind fun q1594 =>
  Sum.elim (fun r1595 =>
    if r1595 = (0 : Int32) then
      (xf_la_alike_16 p1_graph_depth p1_model_items p1_model_lines p1_model_name p1_model_number p1_model_order p1_model_size p1_model_sort p1_model_start p1_model_used p1_model_value n_p1_graph_leads_to n_p4 n q1594.2.1 q1594.2.2 p4 ((0 : Int32)) ((0 : Int64)))
    else
      xf_la_alike_16 p1_graph_depth p1_model_items p1_model_lines p1_model_name p1_model_number p1_model_order p1_model_size p1_model_sort p1_model_start p1_model_used p1_model_value n_p1_graph_leads_to n_p4 n q1594.2.1 q1594.2.2 p4 ((0 : Int32)) ((1 : Int64)))
    (fun r1595 =>
      if r1595 = "java/lang/IllegalArgumentException" then
        (some ((1 : Int32), q1594.2.1, q1594.2.2, p4))
      else
        none) q1594.1
def xf_xt_howDiffers_33 (t_byNumber_to : (Nat → Int32)) (t_kept_items : (Nat → Int32)) (t_kept_name : (Nat → Int64)) (t_kept_number : (Nat → Int32)) (t_kept_size : (Nat → Int32)) (t_kept_sort : (Nat → Int32)) (t_kept_start : (Nat → Int32)) (t_kept_used : Int32) (t_kept_value : (Nat → Int32)) (t_model_items : (Nat → Int32)) (t_model_name : (Nat → Int64)) (t_model_number : (Nat → Int32)) (t_model_size : (Nat → Int32)) (t_model_sort : (Nat → Int32)) (t_model_start : (Nat → Int32)) (t_model_used : Int32) (t_model_value : (Nat → Int32)) (n_t_byNumber_to : Nat) (n : Nat) : Option (Int32) :=
  some ((2 : Int32))
def xf_xt_howDiffers_83 (t_byNumber_to : (Nat → Int32)) (t_kept_items : (Nat → Int32)) (t_kept_name : (Nat → Int64)) (t_kept_number : (Nat → Int32)) (t_kept_size : (Nat → Int32)) (t_kept_sort : (Nat → Int32)) (t_kept_start : (Nat → Int32)) (t_kept_used : Int32) (t_kept_value : (Nat → Int32)) (t_model_items : (Nat → Int32)) (t_model_name : (Nat → Int64)) (t_model_number : (Nat → Int32)) (t_model_size : (Nat → Int32)) (t_model_sort : (Nat → Int32)) (t_model_start : (Nat → Int32)) (t_model_used : Int32) (t_model_value : (Nat → Int32)) (n_t_byNumber_to : Nat) (n : Nat) (s0 : Int32) : Option (Int32) :=
  some s0
def xf_xt_howDiffers (t_byNumber_to : (Nat → Int32)) (t_kept_items : (Nat → Int32)) (t_kept_name : (Nat → Int64)) (t_kept_number : (Nat → Int32)) (t_kept_size : (Nat → Int32)) (t_kept_sort : (Nat → Int32)) (t_kept_start : (Nat → Int32)) (t_kept_used : Int32) (t_kept_value : (Nat → Int32)) (t_model_items : (Nat → Int32)) (t_model_name : (Nat → Int64)) (t_model_number : (Nat → Int32)) (t_model_size : (Nat → Int32)) (t_model_sort : (Nat → Int32)) (t_model_start : (Nat → Int32)) (t_model_used : Int32) (t_model_value : (Nat → Int32)) (n_t_byNumber_to : Nat) (n : Nat) (a1 : Int32) (a2 : Int32) : Option (Int32) :=
  if a1 = ((-1 : Int32)) then
    (some ((1 : Int32)))
  else
    if a2 = ((-1 : Int32)) then
      (xf_xt_howDiffers_33 t_byNumber_to t_kept_items t_kept_name t_kept_number t_kept_size t_kept_sort t_kept_start t_kept_used t_kept_value t_model_items t_model_name t_model_number t_model_size t_model_sort t_model_start t_model_used t_model_value n_t_byNumber_to n)
    else
      if xr_in a1 40 = true then
        (if xr_in a2 40 = true then
          (if (t_model_number a1.toNatClampNeg) < (t_kept_number a2.toNatClampNeg) then
            (xf_xt_howDiffers_33 t_byNumber_to t_kept_items t_kept_name t_kept_number t_kept_size t_kept_sort t_kept_start t_kept_used t_kept_value t_model_items t_model_name t_model_number t_model_size t_model_sort t_model_start t_model_used t_model_value n_t_byNumber_to n)
          else
            if xr_in a1 40 = true then
              (if xr_in a2 40 = true then
                (if (t_kept_number a2.toNatClampNeg) < (t_model_number a1.toNatClampNeg) then
                  (some ((1 : Int32)))
                else
                  (xf_md_sameLine t_kept_items t_kept_name t_kept_size t_kept_sort t_kept_start t_kept_used t_kept_value t_byNumber_to t_model_items t_model_name t_model_size t_model_sort t_model_start t_model_used t_model_value n_t_byNumber_to n a1 a2).bind fun q1659 =>
                  if q1659 = (0 : Int32) then
                    (xf_xt_howDiffers_83 t_byNumber_to t_kept_items t_kept_name t_kept_number t_kept_size t_kept_sort t_kept_start t_kept_used t_kept_value t_model_items t_model_name t_model_number t_model_size t_model_sort t_model_start t_model_used t_model_value n_t_byNumber_to n ((3 : Int32)))
                  else
                    xf_xt_howDiffers_83 t_byNumber_to t_kept_items t_kept_name t_kept_number t_kept_size t_kept_sort t_kept_start t_kept_used t_kept_value t_model_items t_model_name t_model_number t_model_size t_model_sort t_model_start t_model_used t_model_value n_t_byNumber_to n ((0 : Int32)))
              else none)
            else none)
        else none)
      else none
def xf_xt_differs_184 (t_byNumber_to : (Nat → Int32)) (t_kept_items : (Nat → Int32)) (t_kept_lines : Int32) (t_kept_name : (Nat → Int64)) (t_kept_number : (Nat → Int32)) (t_kept_order : (Nat → Int32)) (t_kept_size : (Nat → Int32)) (t_kept_sort : (Nat → Int32)) (t_kept_start : (Nat → Int32)) (t_kept_used : Int32) (t_kept_value : (Nat → Int32)) (t_model_items : (Nat → Int32)) (t_model_lines : Int32) (t_model_name : (Nat → Int64)) (t_model_number : (Nat → Int32)) (t_model_order : (Nat → Int32)) (t_model_size : (Nat → Int32)) (t_model_sort : (Nat → Int32)) (t_model_start : (Nat → Int32)) (t_model_used : Int32) (t_model_value : (Nat → Int32)) (n_t_byNumber_to : Nat) (k32 : Int32 → Int32 → Int32 → Int32 → Int32 → Option ((Int32 ⊕ String))) (n : Nat) (v2 : Int32) (v3 : Int32) (v4 : Int32) (v6 : Int32) (s0 : Int32) (s1 : Int32) : Option ((Int32 ⊕ String)) :=
  k32 v2 v3 v4 (s0 + s1) (v6 + (1 : Int32))
def xf_xt_differs_168 (t_byNumber_to : (Nat → Int32)) (t_kept_items : (Nat → Int32)) (t_kept_lines : Int32) (t_kept_name : (Nat → Int64)) (t_kept_number : (Nat → Int32)) (t_kept_order : (Nat → Int32)) (t_kept_size : (Nat → Int32)) (t_kept_sort : (Nat → Int32)) (t_kept_start : (Nat → Int32)) (t_kept_used : Int32) (t_kept_value : (Nat → Int32)) (t_model_items : (Nat → Int32)) (t_model_lines : Int32) (t_model_name : (Nat → Int64)) (t_model_number : (Nat → Int32)) (t_model_order : (Nat → Int32)) (t_model_size : (Nat → Int32)) (t_model_sort : (Nat → Int32)) (t_model_start : (Nat → Int32)) (t_model_used : Int32) (t_model_value : (Nat → Int32)) (n_t_byNumber_to : Nat) (k32 : Int32 → Int32 → Int32 → Int32 → Int32 → Option ((Int32 ⊕ String))) (n : Nat) (v2 : Int32) (v3 : Int32) (v5 : Int32) (v6 : Int32) (v9 : Int32) (s0 : Int32) (s1 : Int32) : Option ((Int32 ⊕ String)) :=
  if v9 = ((2 : Int32)) then
    (xf_xt_differs_184 t_byNumber_to t_kept_items t_kept_lines t_kept_name t_kept_number t_kept_order t_kept_size t_kept_sort t_kept_start t_kept_used t_kept_value t_model_items t_model_lines t_model_name t_model_number t_model_order t_model_size t_model_sort t_model_start t_model_used t_model_value n_t_byNumber_to k32 n v2 v3 (s0 + s1) v6 v5 ((0 : Int32)))
  else
    xf_xt_differs_184 t_byNumber_to t_kept_items t_kept_lines t_kept_name t_kept_number t_kept_order t_kept_size t_kept_sort t_kept_start t_kept_used t_kept_value t_model_items t_model_lines t_model_name t_model_number t_model_order t_model_size t_model_sort t_model_start t_model_used t_model_value n_t_byNumber_to k32 n v2 v3 (s0 + s1) v6 v5 ((1 : Int32))
def xf_xt_differs_153 (t_byNumber_to : (Nat → Int32)) (t_kept_items : (Nat → Int32)) (t_kept_lines : Int32) (t_kept_name : (Nat → Int64)) (t_kept_number : (Nat → Int32)) (t_kept_order : (Nat → Int32)) (t_kept_size : (Nat → Int32)) (t_kept_sort : (Nat → Int32)) (t_kept_start : (Nat → Int32)) (t_kept_used : Int32) (t_kept_value : (Nat → Int32)) (t_model_items : (Nat → Int32)) (t_model_lines : Int32) (t_model_name : (Nat → Int64)) (t_model_number : (Nat → Int32)) (t_model_order : (Nat → Int32)) (t_model_size : (Nat → Int32)) (t_model_sort : (Nat → Int32)) (t_model_start : (Nat → Int32)) (t_model_used : Int32) (t_model_value : (Nat → Int32)) (n_t_byNumber_to : Nat) (k32 : Int32 → Int32 → Int32 → Int32 → Int32 → Option ((Int32 ⊕ String))) (n : Nat) (v2 : Int32) (v4 : Int32) (v5 : Int32) (v6 : Int32) (v9 : Int32) (s0 : Int32) (s1 : Int32) : Option ((Int32 ⊕ String)) :=
  if v9 = ((1 : Int32)) then
    (xf_xt_differs_168 t_byNumber_to t_kept_items t_kept_lines t_kept_name t_kept_number t_kept_order t_kept_size t_kept_sort t_kept_start t_kept_used t_kept_value t_model_items t_model_lines t_model_name t_model_number t_model_order t_model_size t_model_sort t_model_start t_model_used t_model_value n_t_byNumber_to k32 n v2 (s0 - s1) v5 v6 v9 v4 ((0 : Int32)))
  else
    xf_xt_differs_168 t_byNumber_to t_kept_items t_kept_lines t_kept_name t_kept_number t_kept_order t_kept_size t_kept_sort t_kept_start t_kept_used t_kept_value t_model_items t_model_lines t_model_name t_model_number t_model_order t_model_size t_model_sort t_model_start t_model_used t_model_value n_t_byNumber_to k32 n v2 (s0 - s1) v5 v6 v9 v4 ((1 : Int32))
def xf_xt_differs_142 (t_byNumber_to : (Nat → Int32)) (t_kept_items : (Nat → Int32)) (t_kept_lines : Int32) (t_kept_name : (Nat → Int64)) (t_kept_number : (Nat → Int32)) (t_kept_order : (Nat → Int32)) (t_kept_size : (Nat → Int32)) (t_kept_sort : (Nat → Int32)) (t_kept_start : (Nat → Int32)) (t_kept_used : Int32) (t_kept_value : (Nat → Int32)) (t_model_items : (Nat → Int32)) (t_model_lines : Int32) (t_model_name : (Nat → Int64)) (t_model_number : (Nat → Int32)) (t_model_order : (Nat → Int32)) (t_model_size : (Nat → Int32)) (t_model_sort : (Nat → Int32)) (t_model_start : (Nat → Int32)) (t_model_used : Int32) (t_model_value : (Nat → Int32)) (n_t_byNumber_to : Nat) (k32 : Int32 → Int32 → Int32 → Int32 → Int32 → Option ((Int32 ⊕ String))) (n : Nat) (v2 : Int32) (v3 : Int32) (v4 : Int32) (v5 : Int32) (v6 : Int32) (v9 : Int32) : Option ((Int32 ⊕ String)) :=
  if v9 = (0 : Int32) then
    (xf_xt_differs_153 t_byNumber_to t_kept_items t_kept_lines t_kept_name t_kept_number t_kept_order t_kept_size t_kept_sort t_kept_start t_kept_used t_kept_value t_model_items t_model_lines t_model_name t_model_number t_model_order t_model_size t_model_sort t_model_start t_model_used t_model_value n_t_byNumber_to k32 n v2 v4 v5 v6 v9 v3 ((0 : Int32)))
  else
    xf_xt_differs_153 t_byNumber_to t_kept_items t_kept_lines t_kept_name t_kept_number t_kept_order t_kept_size t_kept_sort t_kept_start t_kept_used t_kept_value t_model_items t_model_lines t_model_name t_model_number t_model_order t_model_size t_model_sort t_model_start t_model_used t_model_value n_t_byNumber_to k32 n v2 v4 v5 v6 v9 v3 ((1 : Int32))
def xf_xt_differs_141 (t_byNumber_to : (Nat → Int32)) (t_kept_items : (Nat → Int32)) (t_kept_lines : Int32) (t_kept_name : (Nat → Int64)) (t_kept_number : (Nat → Int32)) (t_kept_order : (Nat → Int32)) (t_kept_size : (Nat → Int32)) (t_kept_sort : (Nat → Int32)) (t_kept_start : (Nat → Int32)) (t_kept_used : Int32) (t_kept_value : (Nat → Int32)) (t_model_items : (Nat → Int32)) (t_model_lines : Int32) (t_model_name : (Nat → Int64)) (t_model_number : (Nat → Int32)) (t_model_order : (Nat → Int32)) (t_model_size : (Nat → Int32)) (t_model_sort : (Nat → Int32)) (t_model_start : (Nat → Int32)) (t_model_used : Int32) (t_model_value : (Nat → Int32)) (n_t_byNumber_to : Nat) (n : Nat) (s0 : Int32) : Option ((Int32 ⊕ String)) :=
  some (.inl s0)
def xf_xt_differs_63 (t_byNumber_to : (Nat → Int32)) (t_kept_items : (Nat → Int32)) (t_kept_lines : Int32) (t_kept_name : (Nat → Int64)) (t_kept_number : (Nat → Int32)) (t_kept_order : (Nat → Int32)) (t_kept_size : (Nat → Int32)) (t_kept_sort : (Nat → Int32)) (t_kept_start : (Nat → Int32)) (t_kept_used : Int32) (t_kept_value : (Nat → Int32)) (t_model_items : (Nat → Int32)) (t_model_lines : Int32) (t_model_name : (Nat → Int64)) (t_model_number : (Nat → Int32)) (t_model_order : (Nat → Int32)) (t_model_size : (Nat → Int32)) (t_model_sort : (Nat → Int32)) (t_model_start : (Nat → Int32)) (t_model_used : Int32) (t_model_value : (Nat → Int32)) (n_t_byNumber_to : Nat) (k32 : Int32 → Int32 → Int32 → Int32 → Int32 → Option ((Int32 ⊕ String))) (n : Nat) (v2 : Int32) (v3 : Int32) (v4 : Int32) (v5 : Int32) (v6 : Int32) : Option ((Int32 ⊕ String)) :=
  (xf_md_rowAt t_model_lines t_model_order v4).bind fun q1604 =>
  (xf_md_rowAt t_kept_lines t_kept_order v5).bind fun q1608 =>
  (xf_xt_howDiffers t_byNumber_to t_kept_items t_kept_name t_kept_number t_kept_size t_kept_sort t_kept_start t_kept_used t_kept_value t_model_items t_model_name t_model_number t_model_size t_model_sort t_model_start t_model_used t_model_value n_t_byNumber_to n q1604 q1608).bind fun q1661 =>
  if q1661 = (0 : Int32) then
    (xf_xt_differs_142 t_byNumber_to t_kept_items t_kept_lines t_kept_name t_kept_number t_kept_order t_kept_size t_kept_sort t_kept_start t_kept_used t_kept_value t_model_items t_model_lines t_model_name t_model_number t_model_order t_model_size t_model_sort t_model_start t_model_used t_model_value n_t_byNumber_to k32 n v2 v3 v4 v5 v6 q1661)
  else
    if v3 = (0 : Int32) then
      (if v2 = ((1 : Int32)) then
        (some (.inl q1661))
      else
        if q1661 = ((1 : Int32)) then
          (if xr_in q1608 40 = true then
            (xf_xt_differs_141 t_byNumber_to t_kept_items t_kept_lines t_kept_name t_kept_number t_kept_order t_kept_size t_kept_sort t_kept_start t_kept_used t_kept_value t_model_items t_model_lines t_model_name t_model_number t_model_order t_model_size t_model_sort t_model_start t_model_used t_model_value n_t_byNumber_to n (t_kept_number q1608.toNatClampNeg))
          else none)
        else
          if xr_in q1604 40 = true then
            (xf_xt_differs_141 t_byNumber_to t_kept_items t_kept_lines t_kept_name t_kept_number t_kept_order t_kept_size t_kept_sort t_kept_start t_kept_used t_kept_value t_model_items t_model_lines t_model_name t_model_number t_model_order t_model_size t_model_sort t_model_start t_model_used t_model_value n_t_byNumber_to n (t_model_number q1604.toNatClampNeg))
          else none)
    else
      xf_xt_differs_142 t_byNumber_to t_kept_items t_kept_lines t_kept_name t_kept_number t_kept_order t_kept_size t_kept_sort t_kept_start t_kept_used t_kept_value t_model_items t_model_lines t_model_name t_model_number t_model_order t_model_size t_model_sort t_model_start t_model_used t_model_value n_t_byNumber_to k32 n v2 v3 v4 v5 v6 q1661
def xf_xt_differs_193 (t_byNumber_to : (Nat → Int32)) (t_kept_items : (Nat → Int32)) (t_kept_lines : Int32) (t_kept_name : (Nat → Int64)) (t_kept_number : (Nat → Int32)) (t_kept_order : (Nat → Int32)) (t_kept_size : (Nat → Int32)) (t_kept_sort : (Nat → Int32)) (t_kept_start : (Nat → Int32)) (t_kept_used : Int32) (t_kept_value : (Nat → Int32)) (t_model_items : (Nat → Int32)) (t_model_lines : Int32) (t_model_name : (Nat → Int64)) (t_model_number : (Nat → Int32)) (t_model_order : (Nat → Int32)) (t_model_size : (Nat → Int32)) (t_model_sort : (Nat → Int32)) (t_model_start : (Nat → Int32)) (t_model_used : Int32) (t_model_value : (Nat → Int32)) (n_t_byNumber_to : Nat) (n : Nat) : Option ((Int32 ⊕ String)) :=
  some (.inl ((-1 : Int32)))
def xf_xt_differs_32 (t_byNumber_to : (Nat → Int32)) (t_kept_items : (Nat → Int32)) (t_kept_lines : Int32) (t_kept_name : (Nat → Int64)) (t_kept_number : (Nat → Int32)) (t_kept_order : (Nat → Int32)) (t_kept_size : (Nat → Int32)) (t_kept_sort : (Nat → Int32)) (t_kept_start : (Nat → Int32)) (t_kept_used : Int32) (t_kept_value : (Nat → Int32)) (t_model_items : (Nat → Int32)) (t_model_lines : Int32) (t_model_name : (Nat → Int64)) (t_model_number : (Nat → Int32)) (t_model_order : (Nat → Int32)) (t_model_size : (Nat → Int32)) (t_model_sort : (Nat → Int32)) (t_model_start : (Nat → Int32)) (t_model_used : Int32) (t_model_value : (Nat → Int32)) (n_t_byNumber_to : Nat) (n : Nat) (N : Nat) : Int32 → Int32 → Int32 → Int32 → Int32 → Option ((Int32 ⊕ String)) :=
  Nat.rec (motive := fun _ => Int32 → Int32 → Int32 → Int32 → Int32 → Option ((Int32 ⊕ String))) (fun _ _ _ _ _ => none) (fun _ k32 v2 v3 v4 v5 v6 =>
    if v6 < ((80 : Int32)) then
      (if v4 < t_model_lines then
        (xf_xt_differs_63 t_byNumber_to t_kept_items t_kept_lines t_kept_name t_kept_number t_kept_order t_kept_size t_kept_sort t_kept_start t_kept_used t_kept_value t_model_items t_model_lines t_model_name t_model_number t_model_order t_model_size t_model_sort t_model_start t_model_used t_model_value n_t_byNumber_to k32 n v2 v3 v4 v5 v6)
      else
        if v5 < t_kept_lines then
          (xf_xt_differs_63 t_byNumber_to t_kept_items t_kept_lines t_kept_name t_kept_number t_kept_order t_kept_size t_kept_sort t_kept_start t_kept_used t_kept_value t_model_items t_model_lines t_model_name t_model_number t_model_order t_model_size t_model_sort t_model_start t_model_used t_model_value n_t_byNumber_to k32 n v2 v3 v4 v5 v6)
        else
          xf_xt_differs_193 t_byNumber_to t_kept_items t_kept_lines t_kept_name t_kept_number t_kept_order t_kept_size t_kept_sort t_kept_start t_kept_used t_kept_value t_model_items t_model_lines t_model_name t_model_number t_model_order t_model_size t_model_sort t_model_start t_model_used t_model_value n_t_byNumber_to n)
    else
      xf_xt_differs_193 t_byNumber_to t_kept_items t_kept_lines t_kept_name t_kept_number t_kept_order t_kept_size t_kept_sort t_kept_start t_kept_used t_kept_value t_model_items t_model_lines t_model_name t_model_number t_model_order t_model_size t_model_sort t_model_start t_model_used t_model_value n_t_byNumber_to n) N
def xf_xt_differs_18 (t_byNumber_to : (Nat → Int32)) (t_kept_items : (Nat → Int32)) (t_kept_lines : Int32) (t_kept_name : (Nat → Int64)) (t_kept_number : (Nat → Int32)) (t_kept_order : (Nat → Int32)) (t_kept_size : (Nat → Int32)) (t_kept_sort : (Nat → Int32)) (t_kept_start : (Nat → Int32)) (t_kept_used : Int32) (t_kept_value : (Nat → Int32)) (t_model_items : (Nat → Int32)) (t_model_lines : Int32) (t_model_name : (Nat → Int64)) (t_model_number : (Nat → Int32)) (t_model_order : (Nat → Int32)) (t_model_size : (Nat → Int32)) (t_model_sort : (Nat → Int32)) (t_model_start : (Nat → Int32)) (t_model_used : Int32) (t_model_value : (Nat → Int32)) (n_t_byNumber_to : Nat) (n : Nat) (v1 : Int32) (v2 : Int32) (s0 : Int32) : Option ((Int32 ⊕ String)) :=
  (xf_xt_refuseUnless s0).bind fun q1600 =>
  Sum.elim (fun r1601 =>
    xf_xt_differs_32 t_byNumber_to t_kept_items t_kept_lines t_kept_name t_kept_number t_kept_order t_kept_size t_kept_sort t_kept_start t_kept_used t_kept_value t_model_items t_model_lines t_model_name t_model_number t_model_order t_model_size t_model_sort t_model_start t_model_used t_model_value n_t_byNumber_to n n v2 v1 ((0 : Int32)) ((0 : Int32)) ((0 : Int32)))
    (fun r1601 =>
      some (.inr r1601)) q1600
def xf_xt_differs_17 (t_byNumber_to : (Nat → Int32)) (t_kept_items : (Nat → Int32)) (t_kept_lines : Int32) (t_kept_name : (Nat → Int64)) (t_kept_number : (Nat → Int32)) (t_kept_order : (Nat → Int32)) (t_kept_size : (Nat → Int32)) (t_kept_sort : (Nat → Int32)) (t_kept_start : (Nat → Int32)) (t_kept_used : Int32) (t_kept_value : (Nat → Int32)) (t_model_items : (Nat → Int32)) (t_model_lines : Int32) (t_model_name : (Nat → Int64)) (t_model_number : (Nat → Int32)) (t_model_order : (Nat → Int32)) (t_model_size : (Nat → Int32)) (t_model_sort : (Nat → Int32)) (t_model_start : (Nat → Int32)) (t_model_used : Int32) (t_model_value : (Nat → Int32)) (n_t_byNumber_to : Nat) (n : Nat) (v1 : Int32) (v2 : Int32) : Option ((Int32 ⊕ String)) :=
  xf_xt_differs_18 t_byNumber_to t_kept_items t_kept_lines t_kept_name t_kept_number t_kept_order t_kept_size t_kept_sort t_kept_start t_kept_used t_kept_value t_model_items t_model_lines t_model_name t_model_number t_model_order t_model_size t_model_sort t_model_start t_model_used t_model_value n_t_byNumber_to n v1 v2 ((0 : Int32))
def xf_xt_differs_13 (t_byNumber_to : (Nat → Int32)) (t_kept_items : (Nat → Int32)) (t_kept_lines : Int32) (t_kept_name : (Nat → Int64)) (t_kept_number : (Nat → Int32)) (t_kept_order : (Nat → Int32)) (t_kept_size : (Nat → Int32)) (t_kept_sort : (Nat → Int32)) (t_kept_start : (Nat → Int32)) (t_kept_used : Int32) (t_kept_value : (Nat → Int32)) (t_model_items : (Nat → Int32)) (t_model_lines : Int32) (t_model_name : (Nat → Int64)) (t_model_number : (Nat → Int32)) (t_model_order : (Nat → Int32)) (t_model_size : (Nat → Int32)) (t_model_sort : (Nat → Int32)) (t_model_start : (Nat → Int32)) (t_model_used : Int32) (t_model_value : (Nat → Int32)) (n_t_byNumber_to : Nat) (n : Nat) (v1 : Int32) (v2 : Int32) : Option ((Int32 ⊕ String)) :=
  xf_xt_differs_18 t_byNumber_to t_kept_items t_kept_lines t_kept_name t_kept_number t_kept_order t_kept_size t_kept_sort t_kept_start t_kept_used t_kept_value t_model_items t_model_lines t_model_name t_model_number t_model_order t_model_size t_model_sort t_model_start t_model_used t_model_value n_t_byNumber_to n v1 v2 ((1 : Int32))
def xf_xt_differs (t_byNumber_to : (Nat → Int32)) (t_kept_items : (Nat → Int32)) (t_kept_lines : Int32) (t_kept_name : (Nat → Int64)) (t_kept_number : (Nat → Int32)) (t_kept_order : (Nat → Int32)) (t_kept_size : (Nat → Int32)) (t_kept_sort : (Nat → Int32)) (t_kept_start : (Nat → Int32)) (t_kept_used : Int32) (t_kept_value : (Nat → Int32)) (t_model_items : (Nat → Int32)) (t_model_lines : Int32) (t_model_name : (Nat → Int64)) (t_model_number : (Nat → Int32)) (t_model_order : (Nat → Int32)) (t_model_size : (Nat → Int32)) (t_model_sort : (Nat → Int32)) (t_model_start : (Nat → Int32)) (t_model_used : Int32) (t_model_value : (Nat → Int32)) (n_t_byNumber_to : Nat) (n : Nat) (a1 : Int32) (a2 : Int32) : Option ((Int32 ⊕ String)) :=
  if a1 < (0 : Int32) then
    (xf_xt_differs_17 t_byNumber_to t_kept_items t_kept_lines t_kept_name t_kept_number t_kept_order t_kept_size t_kept_sort t_kept_start t_kept_used t_kept_value t_model_items t_model_lines t_model_name t_model_number t_model_order t_model_size t_model_sort t_model_start t_model_used t_model_value n_t_byNumber_to n a1 a2)
  else
    if a2 = (0 : Int32) then
      (xf_xt_differs_13 t_byNumber_to t_kept_items t_kept_lines t_kept_name t_kept_number t_kept_order t_kept_size t_kept_sort t_kept_start t_kept_used t_kept_value t_model_items t_model_lines t_model_name t_model_number t_model_order t_model_size t_model_sort t_model_start t_model_used t_model_value n_t_byNumber_to n a1 a2)
    else
      if a2 = ((1 : Int32)) then
        (xf_xt_differs_13 t_byNumber_to t_kept_items t_kept_lines t_kept_name t_kept_number t_kept_order t_kept_size t_kept_sort t_kept_start t_kept_used t_kept_value t_model_items t_model_lines t_model_name t_model_number t_model_order t_model_size t_model_sort t_model_start t_model_used t_model_value n_t_byNumber_to n a1 a2)
      else
        xf_xt_differs_17 t_byNumber_to t_kept_items t_kept_lines t_kept_name t_kept_number t_kept_order t_kept_size t_kept_sort t_kept_start t_kept_used t_kept_value t_model_items t_model_lines t_model_name t_model_number t_model_order t_model_size t_model_sort t_model_start t_model_used t_model_value n_t_byNumber_to n a1 a2
def xf_la_differs (p1_byNumber_to : (Nat → Int32)) (p1_kept_items : (Nat → Int32)) (p1_kept_lines : Int32) (p1_kept_name : (Nat → Int64)) (p1_kept_number : (Nat → Int32)) (p1_kept_order : (Nat → Int32)) (p1_kept_size : (Nat → Int32)) (p1_kept_sort : (Nat → Int32)) (p1_kept_start : (Nat → Int32)) (p1_kept_used : Int32) (p1_kept_value : (Nat → Int32)) (p1_model_items : (Nat → Int32)) (p1_model_lines : Int32) (p1_model_name : (Nat → Int64)) (p1_model_number : (Nat → Int32)) (p1_model_order : (Nat → Int32)) (p1_model_size : (Nat → Int32)) (p1_model_sort : (Nat → Int32)) (p1_model_start : (Nat → Int32)) (p1_model_used : Int32) (p1_model_value : (Nat → Int32)) (n_p1_byNumber_to : Nat) (n_p4 : Nat) (n : Nat) (p4 : (Nat → Int64)) (a2 : Int32) (a3 : Int32) : Option (Int32 × (Nat → Int64)) :=
  (xf_xt_differs p1_byNumber_to p1_kept_items p1_kept_lines p1_kept_name p1_kept_number p1_kept_order p1_kept_size p1_kept_sort p1_kept_start p1_kept_used p1_kept_value p1_model_items p1_model_lines p1_model_name p1_model_number p1_model_order p1_model_size p1_model_sort p1_model_start p1_model_used p1_model_value n_p1_byNumber_to n a2 a3).bind fun q1674 =>
  Sum.elim (fun r1675 =>
    if xr_in ((0 : Int32)) n_p4 = true then
      (some ((0 : Int32), vp_updL p4 ((0 : Int32)).toNatClampNeg r1675.toInt64))
    else none)
    (fun r1675 =>
      if r1675 = "java/lang/IllegalArgumentException" then
        (some ((1 : Int32), p4))
      else
        none) q1674
def xf_xt_count_64 (t_kept_lines : Int32) (t_kinds_total : Int32) (t_model_lines : Int32) (t_text_length : Int32) (s0 : Int32) : Option ((Int32 ⊕ String)) :=
  some (.inl s0)
def xf_xt_count_14 (t_kept_lines : Int32) (t_kinds_total : Int32) (t_model_lines : Int32) (t_text_length : Int32) (v1 : Int32) (s0 : Int32) : Option ((Int32 ⊕ String)) :=
  (xf_xt_refuseUnless s0).bind fun q1679 =>
  Sum.elim (fun r1680 =>
    if v1 = (0 : Int32) then
      (some (.inl t_text_length))
    else
      if v1 = ((1 : Int32)) then
        (some (.inl t_kinds_total))
      else
        if v1 = ((2 : Int32)) then
          (xf_xt_count_64 t_kept_lines t_kinds_total t_model_lines t_text_length t_model_lines)
        else
          xf_xt_count_64 t_kept_lines t_kinds_total t_model_lines t_text_length t_kept_lines)
    (fun r1680 =>
      some (.inr r1680)) q1679
def xf_xt_count_13 (t_kept_lines : Int32) (t_kinds_total : Int32) (t_model_lines : Int32) (t_text_length : Int32) (v1 : Int32) : Option ((Int32 ⊕ String)) :=
  xf_xt_count_14 t_kept_lines t_kinds_total t_model_lines t_text_length v1 ((0 : Int32))
def xf_xt_count (t_kept_lines : Int32) (t_kinds_total : Int32) (t_model_lines : Int32) (t_text_length : Int32) (a1 : Int32) : Option ((Int32 ⊕ String)) :=
  if a1 < (0 : Int32) then
    (xf_xt_count_13 t_kept_lines t_kinds_total t_model_lines t_text_length a1)
  else
    if ((3 : Int32)) < a1 then
      (xf_xt_count_13 t_kept_lines t_kinds_total t_model_lines t_text_length a1)
    else
      xf_xt_count_14 t_kept_lines t_kinds_total t_model_lines t_text_length a1 ((1 : Int32))
def xf_la_count (p1_kept_lines : Int32) (p1_kinds_total : Int32) (p1_model_lines : Int32) (p1_text_length : Int32) (n_p3 : Nat) (p3 : (Nat → Int64)) (a2 : Int32) : Option (Int32 × (Nat → Int64)) :=
  (xf_xt_count p1_kept_lines p1_kinds_total p1_model_lines p1_text_length a2).bind fun q1685 =>
  Sum.elim (fun r1686 =>
    if xr_in ((0 : Int32)) n_p3 = true then
      (some ((0 : Int32), vp_updL p3 ((0 : Int32)).toNatClampNeg r1686.toInt64))
    else none)
    (fun r1686 =>
      if r1686 = "java/lang/IllegalArgumentException" then
        (some ((1 : Int32), p3))
      else
        none) q1685
