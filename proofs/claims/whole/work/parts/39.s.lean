/-! one equation for each function; numbers written as Int32.ofNat -/
theorem xf_pg_signAt_22_s (t_length : Int32) (t_signs : (Nat → Int32)) (s0 : Int32) : xf_pg_signAt_22 t_length t_signs s0 = (
  if fits .char (.int s0) = true then some s0 else none) := rfl
theorem xf_pg_signAt_21_s (t_length : Int32) (t_signs : (Nat → Int32)) : xf_pg_signAt_21 t_length t_signs = (
  xf_pg_signAt_22 t_length t_signs (Int32.ofNat 0)) := rfl
theorem xf_pg_signAt_s (t_length : Int32) (t_signs : (Nat → Int32)) (a1 : Int32) : xf_pg_signAt t_length t_signs a1 = (
  if a1 < (Int32.ofNat 0) then
    (xf_pg_signAt_21 t_length t_signs)
  else
    if a1 < t_length then
      (if xr_in a1 1200 = true then
        (xf_pg_signAt_22 t_length t_signs (t_signs a1.toNatClampNeg))
      else none)
    else
      xf_pg_signAt_21 t_length t_signs) := rfl
theorem xf_wd_textEndFrom_50_s (t_page_length : Int32) (t_page_signs : (Nat → Int32)) (k4 : Int32 → Option (Int32)) (n : Nat) (v2 : Int32) : xf_wd_textEndFrom_50 t_page_length t_page_signs k4 n v2 = (
  k4 (v2 + (Int32.ofNat 1))) := rfl
theorem xf_wd_textEndFrom_4_s (t_page_length : Int32) (t_page_signs : (Nat → Int32)) (n : Nat) (N : Nat) (v2 : Int32) : xf_wd_textEndFrom_4 t_page_length t_page_signs n (N + 1) v2 = (
    if v2 < t_page_length then
      ((xf_pg_signAt t_page_length t_page_signs v2).bind fun q11 =>
      if q11 = (Int32.ofNat 39) then
        ((xf_pg_signAt t_page_length t_page_signs (v2 + (Int32.ofNat 1))).bind fun q13 =>
        if q13 = (Int32.ofNat 39) then
          (xf_wd_textEndFrom_50 t_page_length t_page_signs (xf_wd_textEndFrom_4 t_page_length t_page_signs n N) n (v2 + (Int32.ofNat 1)))
        else
          some (v2 + (Int32.ofNat 1)))
      else
        xf_wd_textEndFrom_50 t_page_length t_page_signs (xf_wd_textEndFrom_4 t_page_length t_page_signs n N) n v2)
    else
      some (-1 : Int32)) := rfl
theorem xf_wd_textEndFrom_s (t_page_length : Int32) (t_page_signs : (Nat → Int32)) (n : Nat) (a1 : Int32) : xf_wd_textEndFrom t_page_length t_page_signs n a1 = (
  xf_wd_textEndFrom_4 t_page_length t_page_signs n n (a1 + (Int32.ofNat 1))) := rfl
theorem xf_xt_isDigit_17_s (s0 : Int32) : xf_xt_isDigit_17 s0 = (
  if fits .boolean (.int s0) = true then some s0 else none) := rfl
theorem xf_xt_isDigit_16_s  : xf_xt_isDigit_16 = (
  xf_xt_isDigit_17 (Int32.ofNat 0)) := rfl
theorem xf_xt_isDigit_s (a1 : Int32) : xf_xt_isDigit a1 = (
  if a1 < (Int32.ofNat 48) then
    (xf_xt_isDigit_16 )
  else
    if (Int32.ofNat 57) < a1 then
      (xf_xt_isDigit_16 )
    else
      xf_xt_isDigit_17 (Int32.ofNat 1)) := rfl
theorem xf_xt_isLetter_17_s (s0 : Int32) : xf_xt_isLetter_17 s0 = (
  if fits .boolean (.int s0) = true then some s0 else none) := rfl
theorem xf_xt_isLetter_16_s  : xf_xt_isLetter_16 = (
  xf_xt_isLetter_17 (Int32.ofNat 0)) := rfl
theorem xf_xt_isLetter_s (a1 : Int32) : xf_xt_isLetter a1 = (
  if a1 < (Int32.ofNat 65) then
    (xf_xt_isLetter_16 )
  else
    if (Int32.ofNat 90) < a1 then
      (xf_xt_isLetter_16 )
    else
      xf_xt_isLetter_17 (Int32.ofNat 1)) := rfl
theorem xf_wd_endFrom_92_s (t_page_length : Int32) (t_page_signs : (Nat → Int32)) (n : Nat) (v3 : Int32) : xf_wd_endFrom_92 t_page_length t_page_signs n v3 = (
  some v3) := rfl
theorem xf_wd_endFrom_61_s (t_page_length : Int32) (t_page_signs : (Nat → Int32)) (n : Nat) (N : Nat) (v3 : Int32) : xf_wd_endFrom_61 t_page_length t_page_signs n (N + 1) v3 = (
    if v3 < t_page_length then
      ((xf_pg_signAt t_page_length t_page_signs v3).bind fun q27 =>
      (xf_xt_isLetter q27).bind fun q28 =>
      if q28 = (Int32.ofNat 0) then
        (xf_wd_endFrom_92 t_page_length t_page_signs n v3)
      else
        (xf_wd_endFrom_61 t_page_length t_page_signs n N) (v3 + (Int32.ofNat 1)))
    else
      xf_wd_endFrom_92 t_page_length t_page_signs n v3) := rfl
theorem xf_wd_endFrom_23_s (t_page_length : Int32) (t_page_signs : (Nat → Int32)) (n : Nat) (N : Nat) (v3 : Int32) : xf_wd_endFrom_23 t_page_length t_page_signs n (N + 1) v3 = (
    if v3 < t_page_length then
      ((xf_pg_signAt t_page_length t_page_signs v3).bind fun q31 =>
      (xf_xt_isDigit q31).bind fun q32 =>
      if q32 = (Int32.ofNat 0) then
        (xf_wd_endFrom_92 t_page_length t_page_signs n v3)
      else
        (xf_wd_endFrom_23 t_page_length t_page_signs n N) (v3 + (Int32.ofNat 1)))
    else
      xf_wd_endFrom_92 t_page_length t_page_signs n v3) := rfl
theorem xf_wd_endFrom_s (t_page_length : Int32) (t_page_signs : (Nat → Int32)) (n : Nat) (a1 : Int32) (a2 : Int32) : xf_wd_endFrom t_page_length t_page_signs n a1 a2 = (
  if a2 = (Int32.ofNat 39) then
    ((xf_wd_textEndFrom t_page_length t_page_signs n a1).bind fun q15 =>
    some q15)
  else
    (xf_xt_isDigit a2).bind fun q19 =>
    if q19 = (Int32.ofNat 0) then
      ((xf_xt_isLetter a2).bind fun q24 =>
      if q24 = (Int32.ofNat 0) then
        (xf_wd_endFrom_92 t_page_length t_page_signs n (a1 + (Int32.ofNat 1)))
      else
        xf_wd_endFrom_61 t_page_length t_page_signs n n (a1 + (Int32.ofNat 1)))
    else
      xf_wd_endFrom_23 t_page_length t_page_signs n n (a1 + (Int32.ofNat 1))) := rfl
theorem xf_wd_split_196_s (t_page_length : Int32) (t_page_signs : (Nat → Int32)) (k17 : (Nat → Int32) → (Nat → Int32) → (Nat → Int32) → (Nat → Int32) → Int32 → Int32 → Int32 → Int32 → Int32 → Int32 → Option (Unit × (Nat → Int32) × (Nat → Int32) × (Nat → Int32) × (Nat → Int32) × Int32 × Int32)) (n : Nat) (t_begin : (Nat → Int32)) (t_digits : (Nat → Int32)) (t_end : (Nat → Int32)) (t_first : (Nat → Int32)) (t_now : Int32) (t_total : Int32) (v1 : Int32) (v3 : Int32) (v4 : Int32) (s0 : Int32) : xf_wd_split_196 t_page_length t_page_signs k17 n t_begin t_digits t_end t_first t_now t_total v1 v3 v4 s0 = (
  k17 t_begin t_digits t_end t_first t_now t_total v1 s0 v3 (v4 + (Int32.ofNat 1))) := rfl
theorem xf_wd_split_177_s (t_page_length : Int32) (t_page_signs : (Nat → Int32)) (k17 : (Nat → Int32) → (Nat → Int32) → (Nat → Int32) → (Nat → Int32) → Int32 → Int32 → Int32 → Int32 → Int32 → Int32 → Option (Unit × (Nat → Int32) × (Nat → Int32) × (Nat → Int32) × (Nat → Int32) × Int32 × Int32)) (n : Nat) (t_begin : (Nat → Int32)) (t_digits : (Nat → Int32)) (t_end : (Nat → Int32)) (t_first : (Nat → Int32)) (t_now : Int32) (t_total : Int32) (v1 : Int32) (v4 : Int32) (v6 : Int32) (s0 : Int32) : xf_wd_split_177 t_page_length t_page_signs k17 n t_begin t_digits t_end t_first t_now t_total v1 v4 v6 s0 = (
  if v6 = (-1 : Int32) then
    (xf_wd_split_196 t_page_length t_page_signs k17 n t_begin t_digits t_end t_first t_now t_total v1 s0 v4 t_page_length)
  else
    xf_wd_split_196 t_page_length t_page_signs k17 n t_begin t_digits t_end t_first t_now t_total v1 s0 v4 v6) := rfl
theorem xf_wd_split_176_s (t_page_length : Int32) (t_page_signs : (Nat → Int32)) (k17 : (Nat → Int32) → (Nat → Int32) → (Nat → Int32) → (Nat → Int32) → Int32 → Int32 → Int32 → Int32 → Int32 → Int32 → Option (Unit × (Nat → Int32) × (Nat → Int32) × (Nat → Int32) × (Nat → Int32) × Int32 × Int32)) (n : Nat) (t_begin : (Nat → Int32)) (t_digits : (Nat → Int32)) (t_end : (Nat → Int32)) (t_first : (Nat → Int32)) (t_now : Int32) (t_total : Int32) (v1 : Int32) (v4 : Int32) (v6 : Int32) : xf_wd_split_176 t_page_length t_page_signs k17 n t_begin t_digits t_end t_first t_now t_total v1 v4 v6 = (
  xf_wd_split_177 t_page_length t_page_signs k17 n t_begin t_digits t_end t_first t_now t_total v1 v4 v6 (Int32.ofNat 0)) := rfl
theorem xf_wd_split_150_s (t_page_length : Int32) (t_page_signs : (Nat → Int32)) (k17 : (Nat → Int32) → (Nat → Int32) → (Nat → Int32) → (Nat → Int32) → Int32 → Int32 → Int32 → Int32 → Int32 → Int32 → Option (Unit × (Nat → Int32) × (Nat → Int32) × (Nat → Int32) × (Nat → Int32) × Int32 × Int32)) (n : Nat) (t_begin : (Nat → Int32)) (t_digits : (Nat → Int32)) (t_end : (Nat → Int32)) (t_first : (Nat → Int32)) (t_now : Int32) (t_total : Int32) (v1 : Int32) (v3 : Int32) (v4 : Int32) (v5 : Int32) (v6 : Int32) : xf_wd_split_150 t_page_length t_page_signs k17 n t_begin t_digits t_end t_first t_now t_total v1 v3 v4 v5 v6 = (
  if v5 = (Int32.ofNat 61) then
    (xf_wd_split_177 t_page_length t_page_signs k17 n t_begin t_digits t_end t_first t_now t_total v1 v4 v6 v1)
  else
    if v3 = (Int32.ofNat 0) then
      (xf_wd_split_176 t_page_length t_page_signs k17 n t_begin t_digits t_end t_first t_now t_total v1 v4 v6)
    else
      if v5 = (Int32.ofNat 59) then
        (xf_wd_split_176 t_page_length t_page_signs k17 n t_begin t_digits t_end t_first t_now t_total v1 v4 v6)
      else
        xf_wd_split_177 t_page_length t_page_signs k17 n t_begin t_digits t_end t_first t_now t_total v1 v4 v6 (Int32.ofNat 1)) := rfl
theorem xf_wd_split_139_s (t_page_length : Int32) (t_page_signs : (Nat → Int32)) (k17 : (Nat → Int32) → (Nat → Int32) → (Nat → Int32) → (Nat → Int32) → Int32 → Int32 → Int32 → Int32 → Int32 → Int32 → Option (Unit × (Nat → Int32) × (Nat → Int32) × (Nat → Int32) × (Nat → Int32) × Int32 × Int32)) (n : Nat) (t_begin : (Nat → Int32)) (t_digits : (Nat → Int32)) (t_end : (Nat → Int32)) (t_first : (Nat → Int32)) (t_now : Int32) (t_total : Int32) (v1 : Int32) (v3 : Int32) (v4 : Int32) (v5 : Int32) (v6 : Int32) (s1 : Int32) (s2 : Int32) : xf_wd_split_139 t_page_length t_page_signs k17 n t_begin t_digits t_end t_first t_now t_total v1 v3 v4 v5 v6 s1 s2 = (
  if xr_in s1 1200 = true then
    (xf_wd_split_150 t_page_length t_page_signs k17 n t_begin (upd t_digits s1.toNatClampNeg s2) t_end t_first t_now (t_total + (Int32.ofNat 1)) v1 v3 v4 v5 v6)
  else none) := rfl
theorem xf_wd_digitsBetween_15_s (t_page_length : Int32) (t_page_signs : (Nat → Int32)) (n : Nat) (N : Nat) (v2 : Int32) (v3 : Int32) (v4 : Int32) : xf_wd_digitsBetween_15 t_page_length t_page_signs n (N + 1) v2 v3 v4 = (
    if v4 < v2 then
      ((xf_pg_signAt t_page_length t_page_signs v4).bind fun q48 =>
      (xf_wd_digitsBetween_15 t_page_length t_page_signs n N) v2 (((v3 * (Int32.ofNat 10)) + q48) - (Int32.ofNat 48)) (v4 + (Int32.ofNat 1)))
    else
      some v3) := rfl
theorem xf_wd_digitsBetween_s (t_page_length : Int32) (t_page_signs : (Nat → Int32)) (n : Nat) (a1 : Int32) (a2 : Int32) : xf_wd_digitsBetween t_page_length t_page_signs n a1 a2 = (
  if (Int32.ofNat 9) < (a2 - a1) then
    (some (-1 : Int32))
  else
    xf_wd_digitsBetween_15 t_page_length t_page_signs n n a2 (Int32.ofNat 0) a1) := rfl
theorem xf_wd_split_71_s (t_page_length : Int32) (t_page_signs : (Nat → Int32)) (k17 : (Nat → Int32) → (Nat → Int32) → (Nat → Int32) → (Nat → Int32) → Int32 → Int32 → Int32 → Int32 → Int32 → Int32 → Option (Unit × (Nat → Int32) × (Nat → Int32) × (Nat → Int32) × (Nat → Int32) × Int32 × Int32)) (n : Nat) (t_begin : (Nat → Int32)) (t_digits : (Nat → Int32)) (t_end : (Nat → Int32)) (t_first : (Nat → Int32)) (t_now : Int32) (t_total : Int32) (v1 : Int32) (v2 : Int32) (v3 : Int32) (v4 : Int32) (v5 : Int32) (s0 : Int32) : xf_wd_split_71 t_page_length t_page_signs k17 n t_begin t_digits t_end t_first t_now t_total v1 v2 v3 v4 v5 s0 = (
  if v5 = (Int32.ofNat 32) then
    (xf_wd_split_150 t_page_length t_page_signs k17 n t_begin t_digits t_end t_first t_now t_total v1 v3 v4 v5 s0)
  else
    if xr_in t_total 1200 = true then
      (if xr_in t_total 1200 = true then
        (if xr_in t_total 1200 = true then
          ((xf_xt_isDigit v5).bind fun q43 =>
          if q43 = (Int32.ofNat 0) then
            (xf_wd_split_139 t_page_length t_page_signs k17 n (upd t_begin t_total.toNatClampNeg v2) t_digits (upd t_end t_total.toNatClampNeg s0) (upd t_first t_total.toNatClampNeg (vp_nar .char v5)) t_now t_total v1 v3 v4 v5 s0 t_total (-1 : Int32))
          else
            (xf_wd_digitsBetween t_page_length t_page_signs n v2 s0).bind fun q49 =>
            xf_wd_split_139 t_page_length t_page_signs k17 n (upd t_begin t_total.toNatClampNeg v2) t_digits (upd t_end t_total.toNatClampNeg s0) (upd t_first t_total.toNatClampNeg (vp_nar .char v5)) t_now t_total v1 v3 v4 v5 s0 t_total q49)
        else none)
      else none)
    else none) := rfl
theorem xf_wd_split_64_s (t_page_length : Int32) (t_page_signs : (Nat → Int32)) (k17 : (Nat → Int32) → (Nat → Int32) → (Nat → Int32) → (Nat → Int32) → Int32 → Int32 → Int32 → Int32 → Int32 → Int32 → Option (Unit × (Nat → Int32) × (Nat → Int32) × (Nat → Int32) × (Nat → Int32) × Int32 × Int32)) (n : Nat) (t_begin : (Nat → Int32)) (t_digits : (Nat → Int32)) (t_end : (Nat → Int32)) (t_first : (Nat → Int32)) (t_now : Int32) (t_total : Int32) (v1 : Int32) (v2 : Int32) (v3 : Int32) (v4 : Int32) (v5 : Int32) : xf_wd_split_64 t_page_length t_page_signs k17 n t_begin t_digits t_end t_first t_now t_total v1 v2 v3 v4 v5 = (
  (xf_wd_endFrom t_page_length t_page_signs n v2 v5).bind fun q34 =>
  xf_wd_split_71 t_page_length t_page_signs k17 n t_begin t_digits t_end t_first t_now t_total v1 v2 v3 v4 v5 q34) := rfl
theorem xf_wd_split_203_s (t_page_length : Int32) (t_page_signs : (Nat → Int32)) (n : Nat) (t_begin : (Nat → Int32)) (t_digits : (Nat → Int32)) (t_end : (Nat → Int32)) (t_first : (Nat → Int32)) (t_now : Int32) (t_total : Int32) : xf_wd_split_203 t_page_length t_page_signs n t_begin t_digits t_end t_first t_now t_total = (
  some ((), t_begin, t_digits, t_end, t_first, t_now, t_total)) := rfl
theorem xf_wd_split_17_s (t_page_length : Int32) (t_page_signs : (Nat → Int32)) (n : Nat) (N : Nat) (t_begin : (Nat → Int32)) (t_digits : (Nat → Int32)) (t_end : (Nat → Int32)) (t_first : (Nat → Int32)) (t_now : Int32) (t_total : Int32) (v1 : Int32) (v2 : Int32) (v3 : Int32) (v4 : Int32) : xf_wd_split_17 t_page_length t_page_signs n (N + 1) t_begin t_digits t_end t_first t_now t_total v1 v2 v3 v4 = (
    if v4 < (Int32.ofNat 1200) then
      (if v2 < t_page_length then
        ((xf_pg_signAt t_page_length t_page_signs v2).bind fun q7 =>
        if v3 = (Int32.ofNat 0) then
          (xf_wd_split_64 t_page_length t_page_signs (xf_wd_split_17 t_page_length t_page_signs n N) n t_begin t_digits t_end t_first t_now t_total v1 v2 v3 v4 q7)
        else
          (xf_xt_isLetter q7).bind fun q50 =>
          if q50 = (Int32.ofNat 0) then
            (xf_wd_split_64 t_page_length t_page_signs (xf_wd_split_17 t_page_length t_page_signs n N) n t_begin t_digits t_end t_first t_now t_total v1 v2 v3 v4 q7)
          else
            xf_wd_split_71 t_page_length t_page_signs (xf_wd_split_17 t_page_length t_page_signs n N) n t_begin t_digits t_end t_first t_now t_total v1 v2 v3 v4 q7 (v2 + (Int32.ofNat 1)))
      else
        xf_wd_split_203 t_page_length t_page_signs n t_begin t_digits t_end t_first t_now t_total)
    else
      xf_wd_split_203 t_page_length t_page_signs n t_begin t_digits t_end t_first t_now t_total) := rfl
theorem xf_wd_split_s (t_page_length : Int32) (t_page_signs : (Nat → Int32)) (n : Nat) (t_begin : (Nat → Int32)) (t_digits : (Nat → Int32)) (t_end : (Nat → Int32)) (t_first : (Nat → Int32)) (t_now : Int32) (t_total : Int32) (a1 : Int32) : xf_wd_split t_page_length t_page_signs n t_begin t_digits t_end t_first t_now t_total a1 = (
  xf_wd_split_17 t_page_length t_page_signs n n t_begin t_digits t_end t_first (Int32.ofNat 0) (Int32.ofNat 0) a1 (Int32.ofNat 0) (Int32.ofNat 0) (Int32.ofNat 0)) := rfl
theorem xf_sr_readAll_49_s (t_words_page_length : Int32) (t_words_page_signs : (Nat → Int32)) (n : Nat) (t_kinds_mayBeNothing : (Nat → Int32)) (t_kinds_name : (Nat → Int64)) (t_kinds_size : (Nat → Int32)) (t_kinds_sort : (Nat → Int32)) (t_kinds_total : Int32) (t_words_begin : (Nat → Int32)) (t_words_digits : (Nat → Int32)) (t_words_end : (Nat → Int32)) (t_words_first : (Nat → Int32)) (t_words_now : Int32) (t_words_total : Int32) : xf_sr_readAll_49 t_words_page_length t_words_page_signs n t_kinds_mayBeNothing t_kinds_name t_kinds_size t_kinds_sort t_kinds_total t_words_begin t_words_digits t_words_end t_words_first t_words_now t_words_total = (
  some ((Int32.ofNat 1), t_kinds_mayBeNothing, t_kinds_name, t_kinds_size, t_kinds_sort, t_kinds_total, t_words_begin, t_words_digits, t_words_end, t_words_first, t_words_now, t_words_total)) := rfl
theorem xf_wd_more_16_s (t_now : Int32) (t_total : Int32) (s0 : Int32) : xf_wd_more_16 t_now t_total s0 = (
  if fits .boolean (.int s0) = true then some s0 else none) := rfl
theorem xf_wd_more_s (t_now : Int32) (t_total : Int32) : xf_wd_more t_now t_total = (
  if t_now < t_total then
    (xf_wd_more_16 t_now t_total (Int32.ofNat 1))
  else
    xf_wd_more_16 t_now t_total (Int32.ofNat 0)) := rfl
theorem xf_wd_ahead_24_s (t_first : (Nat → Int32)) (t_now : Int32) (t_total : Int32) (s0 : Int32) : xf_wd_ahead_24 t_first t_now t_total s0 = (
  if fits .char (.int s0) = true then some s0 else none) := rfl
theorem xf_wd_ahead_s (t_first : (Nat → Int32)) (t_now : Int32) (t_total : Int32) : xf_wd_ahead t_first t_now t_total = (
  if t_now < t_total then
    (if xr_in t_now 1200 = true then
      (xf_wd_ahead_24 t_first t_now t_total (t_first t_now.toNatClampNeg))
    else none)
  else
    xf_wd_ahead_24 t_first t_now t_total (Int32.ofNat 0)) := rfl
theorem xf_wd_nameAhead_34_s (t_begin : (Nat → Int32)) (t_end : (Nat → Int32)) (t_first : (Nat → Int32)) (t_now : Int32) (t_page_length : Int32) (t_page_signs : (Nat → Int32)) (t_total : Int32) (n : Nat) : xf_wd_nameAhead_34 t_begin t_end t_first t_now t_page_length t_page_signs t_total n = (
  some ((0 : Int64))) := rfl
theorem xf_wd_nameAhead_48_s (t_begin : (Nat → Int32)) (t_end : (Nat → Int32)) (t_first : (Nat → Int32)) (t_now : Int32) (t_page_length : Int32) (t_page_signs : (Nat → Int32)) (t_total : Int32) (n : Nat) (N : Nat) (v1 : Int64) (v3 : Int32) : xf_wd_nameAhead_48 t_begin t_end t_first t_now t_page_length t_page_signs t_total n (N + 1) v1 v3 = (
    if xr_in t_now 1200 = true then
      (if v3 < (t_end t_now.toNatClampNeg) then
        ((xf_pg_signAt t_page_length t_page_signs v3).bind fun q70 =>
        (xf_wd_nameAhead_48 t_begin t_end t_first t_now t_page_length t_page_signs t_total n N) ((xe_shl v1 (Int32.ofNat 8)) ||| q70.toInt64) (v3 + (Int32.ofNat 1)))
      else
        some v1)
    else none) := rfl
theorem xf_wd_nameAhead_s (t_begin : (Nat → Int32)) (t_end : (Nat → Int32)) (t_first : (Nat → Int32)) (t_now : Int32) (t_page_length : Int32) (t_page_signs : (Nat → Int32)) (t_total : Int32) (n : Nat) : xf_wd_nameAhead t_begin t_end t_first t_now t_page_length t_page_signs t_total n = (
  (xf_wd_ahead t_first t_now t_total).bind fun q61 =>
  (xf_xt_isLetter q61).bind fun q62 =>
  if q62 = (Int32.ofNat 0) then
    (xf_wd_nameAhead_34 t_begin t_end t_first t_now t_page_length t_page_signs t_total n)
  else
    if xr_in t_now 1200 = true then
      (if xr_in t_now 1200 = true then
        (if (Int32.ofNat 8) < ((t_end t_now.toNatClampNeg) - (t_begin t_now.toNatClampNeg)) then
          (xf_wd_nameAhead_34 t_begin t_end t_first t_now t_page_length t_page_signs t_total n)
        else
          if xr_in t_now 1200 = true then
            (xf_wd_nameAhead_48 t_begin t_end t_first t_now t_page_length t_page_signs t_total n n ((0 : Int64)) (t_begin t_now.toNatClampNeg))
          else none)
      else none)
    else none) := rfl
theorem xf_sr_readKind_38_s (t_words_begin : (Nat → Int32)) (t_words_end : (Nat → Int32)) (t_words_first : (Nat → Int32)) (t_words_page_length : Int32) (t_words_page_signs : (Nat → Int32)) (t_words_total : Int32) (n : Nat) (t_kinds_mayBeNothing : (Nat → Int32)) (t_kinds_name : (Nat → Int64)) (t_kinds_size : (Nat → Int32)) (t_kinds_sort : (Nat → Int32)) (t_kinds_total : Int32) (t_words_now : Int32) : xf_sr_readKind_38 t_words_begin t_words_end t_words_first t_words_page_length t_words_page_signs t_words_total n t_kinds_mayBeNothing t_kinds_name t_kinds_size t_kinds_sort t_kinds_total t_words_now = (
  some ((Int32.ofNat 0), t_kinds_mayBeNothing, t_kinds_name, t_kinds_size, t_kinds_sort, t_kinds_total, t_words_now)) := rfl
theorem xf_kd_find_2_s (t_name : (Nat → Int64)) (t_total : Int32) (n : Nat) (N : Nat) (v1 : Int64) (v3 : Int32) : xf_kd_find_2 t_name t_total n (N + 1) v1 v3 = (
    if v3 < t_total then
      (if xr_in v3 12 = true then
        (if (lg_cmp (t_name v3.toNatClampNeg) v1) = (Int32.ofNat 0) then
          (some v3)
        else
          (xf_kd_find_2 t_name t_total n N) v1 (v3 + (Int32.ofNat 1)))
      else none)
    else
      some (-1 : Int32)) := rfl
theorem xf_kd_find_s (t_name : (Nat → Int64)) (t_total : Int32) (n : Nat) (a1 : Int64) : xf_kd_find t_name t_total n a1 = (
  xf_kd_find_2 t_name t_total n n a1 (Int32.ofNat 0)) := rfl
theorem xf_wd_step_s (t_now : Int32) : xf_wd_step t_now = (
  some ((), t_now + (Int32.ofNat 1))) := rfl
theorem xf_kd_addKind_39_s (t_name : (Nat → Int64)) (t_size : (Nat → Int32)) (t_total : Int32) : xf_kd_addKind_39 t_name t_size t_total = (
  some ((), t_name, t_size, t_total)) := rfl
theorem xf_kd_addKind_s (t_name : (Nat → Int64)) (t_size : (Nat → Int32)) (t_total : Int32) (a1 : Int64) : xf_kd_addKind t_name t_size t_total a1 = (
  if t_total < (Int32.ofNat 12) then
    (if xr_in t_total 12 = true then
      (if xr_in t_total 12 = true then
        (xf_kd_addKind_39 (vp_updL t_name t_total.toNatClampNeg a1) (upd t_size t_total.toNatClampNeg ((Int32.ofNat 0))) (t_total + (Int32.ofNat 1)))
      else none)
    else none)
  else
    xf_kd_addKind_39 t_name t_size t_total) := rfl
theorem xf_wd_takes_44_s (t_first : (Nat → Int32)) (t_total : Int32) (t_now : Int32) (v2 : Int32) : xf_wd_takes_44 t_first t_total t_now v2 = (
  if fits .boolean (.int v2) = true then some (v2, t_now) else none) := rfl
theorem xf_wd_takes_29_s (t_first : (Nat → Int32)) (t_total : Int32) (t_now : Int32) (s0 : Int32) : xf_wd_takes_29 t_first t_total t_now s0 = (
  if s0 = (Int32.ofNat 0) then
    (xf_wd_takes_44 t_first t_total t_now s0)
  else
    xf_wd_takes_44 t_first t_total (t_now + (Int32.ofNat 1)) s0) := rfl
theorem xf_wd_takes_28_s (t_first : (Nat → Int32)) (t_total : Int32) (t_now : Int32) : xf_wd_takes_28 t_first t_total t_now = (
  xf_wd_takes_29 t_first t_total t_now (Int32.ofNat 0)) := rfl
theorem xf_wd_takes_s (t_first : (Nat → Int32)) (t_total : Int32) (t_now : Int32) (a1 : Int32) : xf_wd_takes t_first t_total t_now a1 = (
  if t_now < t_total then
    (if xr_in t_now 1200 = true then
      (if (t_first t_now.toNatClampNeg) = a1 then
        (xf_wd_takes_29 t_first t_total t_now (Int32.ofNat 1))
      else
        xf_wd_takes_28 t_first t_total t_now)
    else none)
  else
    xf_wd_takes_28 t_first t_total t_now) := rfl
theorem xf_kd_addSort_61_s (t_total : Int32) (t_mayBeNothing : (Nat → Int32)) (t_size : (Nat → Int32)) (t_sort : (Nat → Int32)) : xf_kd_addSort_61 t_total t_mayBeNothing t_size t_sort = (
  some ((), t_mayBeNothing, t_size, t_sort)) := rfl
theorem xf_kd_addSort_s (t_total : Int32) (t_mayBeNothing : (Nat → Int32)) (t_size : (Nat → Int32)) (t_sort : (Nat → Int32)) (a1 : Int32) (a2 : Int32) : xf_kd_addSort t_total t_mayBeNothing t_size t_sort a1 a2 = (
  if (t_total - (Int32.ofNat 1)) < (Int32.ofNat 0) then
    (xf_kd_addSort_61 t_total t_mayBeNothing t_size t_sort)
  else
    if xr_in (t_total - (Int32.ofNat 1)) 12 = true then
      (if (t_size (t_total - (Int32.ofNat 1)).toNatClampNeg) < (Int32.ofNat 8) then
        (if xr_in (t_total - (Int32.ofNat 1)) 12 = true then
          (if xr_in (((t_total - (Int32.ofNat 1)) * (Int32.ofNat 8)) + (t_size (t_total - (Int32.ofNat 1)).toNatClampNeg)) 96 = true then
            (if xr_in (((t_total - (Int32.ofNat 1)) * (Int32.ofNat 8)) + (t_size (t_total - (Int32.ofNat 1)).toNatClampNeg)) 96 = true then
              (if xr_in (t_total - (Int32.ofNat 1)) 12 = true then
                (if xr_in (t_total - (Int32.ofNat 1)) 12 = true then
                  (xf_kd_addSort_61 t_total (upd t_mayBeNothing (((t_total - (Int32.ofNat 1)) * (Int32.ofNat 8)) + (t_size (t_total - (Int32.ofNat 1)).toNatClampNeg)).toNatClampNeg (vp_nar .boolean a2)) (upd t_size (t_total - (Int32.ofNat 1)).toNatClampNeg (((t_size (t_total - (Int32.ofNat 1)).toNatClampNeg) + (Int32.ofNat 1)))) (upd t_sort (((t_total - (Int32.ofNat 1)) * (Int32.ofNat 8)) + (t_size (t_total - (Int32.ofNat 1)).toNatClampNeg)).toNatClampNeg a1))
                else none)
              else none)
            else none)
          else none)
        else none)
      else
        xf_kd_addSort_61 t_total t_mayBeNothing t_size t_sort)
    else none) := rfl
theorem xf_sr_readKind_71_s (t_words_begin : (Nat → Int32)) (t_words_end : (Nat → Int32)) (t_words_first : (Nat → Int32)) (t_words_page_length : Int32) (t_words_page_signs : (Nat → Int32)) (t_words_total : Int32) (n : Nat) (N : Nat) (t_kinds_mayBeNothing : (Nat → Int32)) (t_kinds_name : (Nat → Int64)) (t_kinds_size : (Nat → Int32)) (t_kinds_sort : (Nat → Int32)) (t_kinds_total : Int32) (t_words_now : Int32) (v3 : Int32) : xf_sr_readKind_71 t_words_begin t_words_end t_words_first t_words_page_length t_words_page_signs t_words_total n (N + 1) t_kinds_mayBeNothing t_kinds_name t_kinds_size t_kinds_sort t_kinds_total t_words_now v3 = (
    if v3 < (Int32.ofNat 8) then
      ((xf_wd_ahead t_words_first t_words_now t_words_total).bind fun q92 =>
      if (xr_ix q92) = (-1 : Int32) then
        (some ((Int32.ofNat 0), t_kinds_mayBeNothing, t_kinds_name, t_kinds_size, t_kinds_sort, t_kinds_total, t_words_now))
      else
        (xf_wd_step t_words_now).bind fun q94 =>
        (xf_wd_takes t_words_first t_words_total q94.2 (Int32.ofNat 63)).bind fun q95 =>
        (xf_kd_addSort t_kinds_total t_kinds_mayBeNothing t_kinds_size t_kinds_sort (xr_ix q92) q95.1).bind fun q104 =>
        (xf_wd_takes t_words_first t_words_total q95.2 (Int32.ofNat 59)).bind fun q105 =>
        if q105.1 = (Int32.ofNat 0) then
          ((xf_sr_readKind_71 t_words_begin t_words_end t_words_first t_words_page_length t_words_page_signs t_words_total n N) q104.2.1 t_kinds_name q104.2.2.1 q104.2.2.2 t_kinds_total q105.2 (v3 + (Int32.ofNat 1)))
        else
          some ((Int32.ofNat 1), q104.2.1, t_kinds_name, q104.2.2.1, q104.2.2.2, t_kinds_total, q105.2))
    else
      some ((Int32.ofNat 0), t_kinds_mayBeNothing, t_kinds_name, t_kinds_size, t_kinds_sort, t_kinds_total, t_words_now)) := rfl
theorem xf_sr_readKind_s (t_words_begin : (Nat → Int32)) (t_words_end : (Nat → Int32)) (t_words_first : (Nat → Int32)) (t_words_page_length : Int32) (t_words_page_signs : (Nat → Int32)) (t_words_total : Int32) (n : Nat) (t_kinds_mayBeNothing : (Nat → Int32)) (t_kinds_name : (Nat → Int64)) (t_kinds_size : (Nat → Int32)) (t_kinds_sort : (Nat → Int32)) (t_kinds_total : Int32) (t_words_now : Int32) : xf_sr_readKind t_words_begin t_words_end t_words_first t_words_page_length t_words_page_signs t_words_total n t_kinds_mayBeNothing t_kinds_name t_kinds_size t_kinds_sort t_kinds_total t_words_now = (
  (xf_wd_nameAhead t_words_begin t_words_end t_words_first t_words_now t_words_page_length t_words_page_signs t_words_total n).bind fun q71 =>
  if (lg_cmp q71 ((0 : Int64))) = (Int32.ofNat 0) then
    (xf_sr_readKind_38 t_words_begin t_words_end t_words_first t_words_page_length t_words_page_signs t_words_total n t_kinds_mayBeNothing t_kinds_name t_kinds_size t_kinds_sort t_kinds_total t_words_now)
  else
    if t_kinds_total < (Int32.ofNat 12) then
      ((xf_kd_find t_kinds_name t_kinds_total n q71).bind fun q77 =>
      if q77 = (-1 : Int32) then
        ((xf_wd_step t_words_now).bind fun q79 =>
        (xf_kd_addKind t_kinds_name t_kinds_size t_kinds_total q71).bind fun q83 =>
        (xf_wd_takes t_words_first t_words_total q79.2 (Int32.ofNat 61)).bind fun q89 =>
        if q89.1 = (Int32.ofNat 0) then
          (some ((Int32.ofNat 0), t_kinds_mayBeNothing, q83.2.1, q83.2.2.1, t_kinds_sort, q83.2.2.2, q89.2))
        else
          xf_sr_readKind_71 t_words_begin t_words_end t_words_first t_words_page_length t_words_page_signs t_words_total n n t_kinds_mayBeNothing q83.2.1 q83.2.2.1 t_kinds_sort q83.2.2.2 q89.2 (Int32.ofNat 0))
      else
        xf_sr_readKind_38 t_words_begin t_words_end t_words_first t_words_page_length t_words_page_signs t_words_total n t_kinds_mayBeNothing t_kinds_name t_kinds_size t_kinds_sort t_kinds_total t_words_now)
    else
      xf_sr_readKind_38 t_words_begin t_words_end t_words_first t_words_page_length t_words_page_signs t_words_total n t_kinds_mayBeNothing t_kinds_name t_kinds_size t_kinds_sort t_kinds_total t_words_now) := rfl
theorem xf_sr_readAll_18_s (t_words_page_length : Int32) (t_words_page_signs : (Nat → Int32)) (n : Nat) (N : Nat) (t_kinds_mayBeNothing : (Nat → Int32)) (t_kinds_name : (Nat → Int64)) (t_kinds_size : (Nat → Int32)) (t_kinds_sort : (Nat → Int32)) (t_kinds_total : Int32) (t_words_begin : (Nat → Int32)) (t_words_digits : (Nat → Int32)) (t_words_end : (Nat → Int32)) (t_words_first : (Nat → Int32)) (t_words_now : Int32) (t_words_total : Int32) (v1 : Int32) : xf_sr_readAll_18 t_words_page_length t_words_page_signs n (N + 1) t_kinds_mayBeNothing t_kinds_name t_kinds_size t_kinds_sort t_kinds_total t_words_begin t_words_digits t_words_end t_words_first t_words_now t_words_total v1 = (
    if (Int32.ofNat 12) < v1 then
      (xf_sr_readAll_49 t_words_page_length t_words_page_signs n t_kinds_mayBeNothing t_kinds_name t_kinds_size t_kinds_sort t_kinds_total t_words_begin t_words_digits t_words_end t_words_first t_words_now t_words_total)
    else
      (xf_wd_more t_words_now t_words_total).bind fun q56 =>
      if q56 = (Int32.ofNat 0) then
        (xf_sr_readAll_49 t_words_page_length t_words_page_signs n t_kinds_mayBeNothing t_kinds_name t_kinds_size t_kinds_sort t_kinds_total t_words_begin t_words_digits t_words_end t_words_first t_words_now t_words_total)
      else
        (xf_sr_readKind t_words_begin t_words_end t_words_first t_words_page_length t_words_page_signs t_words_total n t_kinds_mayBeNothing t_kinds_name t_kinds_size t_kinds_sort t_kinds_total t_words_now).bind fun q107 =>
        if q107.1 = (Int32.ofNat 0) then
          (some ((Int32.ofNat 0), q107.2.1, q107.2.2.1, q107.2.2.2.1, q107.2.2.2.2.1, q107.2.2.2.2.2.1, t_words_begin, t_words_digits, t_words_end, t_words_first, q107.2.2.2.2.2.2, t_words_total))
        else
          (xf_sr_readAll_18 t_words_page_length t_words_page_signs n N) q107.2.1 q107.2.2.1 q107.2.2.2.1 q107.2.2.2.2.1 q107.2.2.2.2.2.1 t_words_begin t_words_digits t_words_end t_words_first q107.2.2.2.2.2.2 t_words_total (v1 + (Int32.ofNat 1))) := rfl
theorem xf_sr_readAll_s (t_words_page_length : Int32) (t_words_page_signs : (Nat → Int32)) (n : Nat) (t_kinds_mayBeNothing : (Nat → Int32)) (t_kinds_name : (Nat → Int64)) (t_kinds_size : (Nat → Int32)) (t_kinds_sort : (Nat → Int32)) (t_kinds_total : Int32) (t_words_begin : (Nat → Int32)) (t_words_digits : (Nat → Int32)) (t_words_end : (Nat → Int32)) (t_words_first : (Nat → Int32)) (t_words_now : Int32) (t_words_total : Int32) : xf_sr_readAll t_words_page_length t_words_page_signs n t_kinds_mayBeNothing t_kinds_name t_kinds_size t_kinds_sort t_kinds_total t_words_begin t_words_digits t_words_end t_words_first t_words_now t_words_total = (
  (xf_wd_split t_words_page_length t_words_page_signs n t_words_begin t_words_digits t_words_end t_words_first t_words_now t_words_total (Int32.ofNat 1)).bind fun q52 =>
  xf_sr_readAll_18 t_words_page_length t_words_page_signs n n t_kinds_mayBeNothing t_kinds_name t_kinds_size t_kinds_sort (Int32.ofNat 0) q52.2.1 q52.2.2.1 q52.2.2.2.1 q52.2.2.2.2.1 q52.2.2.2.2.2.1 q52.2.2.2.2.2.2 (Int32.ofNat 0)) := rfl
theorem xf_wd_standsAt_30_s (t_begin : (Nat → Int32)) (t_now : Int32) (t_page_length : Int32) (t_total : Int32) (s0 : Int32) : xf_wd_standsAt_30 t_begin t_now t_page_length t_total s0 = (
  some s0) := rfl
theorem xf_wd_standsAt_s (t_begin : (Nat → Int32)) (t_now : Int32) (t_page_length : Int32) (t_total : Int32) : xf_wd_standsAt t_begin t_now t_page_length t_total = (
  if t_now < t_total then
    (if xr_in t_now 1200 = true then
      (xf_wd_standsAt_30 t_begin t_now t_page_length t_total (t_begin t_now.toNatClampNeg))
    else none)
  else
    xf_wd_standsAt_30 t_begin t_now t_page_length t_total t_page_length) := rfl
theorem xf_kd_copyFrom_40_s (p1_mayBeNothing : (Nat → Int32)) (p1_name : (Nat → Int64)) (p1_size : (Nat → Int32)) (p1_sort : (Nat → Int32)) (p1_total : Int32) (n : Nat) (N : Nat) (t_mayBeNothing : (Nat → Int32)) (t_name : (Nat → Int64)) (t_size : (Nat → Int32)) (t_sort : (Nat → Int32)) (t_total : Int32) (v2 : Int32) : xf_kd_copyFrom_40 p1_mayBeNothing p1_name p1_size p1_sort p1_total n (N + 1) t_mayBeNothing t_name t_size t_sort t_total v2 = (
    if v2 < (t_total * (Int32.ofNat 8)) then
      (if xr_in v2 96 = true then
        (if xr_in v2 96 = true then
          (if xr_in v2 96 = true then
            (if xr_in v2 96 = true then
              ((xf_kd_copyFrom_40 p1_mayBeNothing p1_name p1_size p1_sort p1_total n N) (upd t_mayBeNothing v2.toNatClampNeg (vp_nar .boolean (p1_mayBeNothing v2.toNatClampNeg))) t_name t_size (upd t_sort v2.toNatClampNeg ((p1_sort v2.toNatClampNeg))) t_total (v2 + (Int32.ofNat 1)))
            else none)
          else none)
        else none)
      else none)
    else
      some ((), t_mayBeNothing, t_name, t_size, t_sort, t_total)) := rfl
theorem xf_kd_copyFrom_s (p1_mayBeNothing : (Nat → Int32)) (p1_name : (Nat → Int64)) (p1_size : (Nat → Int32)) (p1_sort : (Nat → Int32)) (p1_total : Int32) (n : Nat) (t_mayBeNothing : (Nat → Int32)) (t_name : (Nat → Int64)) (t_size : (Nat → Int32)) (t_sort : (Nat → Int32)) (t_total : Int32) : xf_kd_copyFrom p1_mayBeNothing p1_name p1_size p1_sort p1_total n t_mayBeNothing t_name t_size t_sort t_total = (
  if xr_cg (Int32.ofNat 0) (Int32.ofNat 0) (Int32.ofNat 12) 12 12 then
    (if xr_cg (Int32.ofNat 0) (Int32.ofNat 0) (Int32.ofNat 12) 12 12 then
      (xf_kd_copyFrom_40 p1_mayBeNothing p1_name p1_size p1_sort p1_total n n t_mayBeNothing (va_cpy p1_name t_name (Int32.ofNat 0).toNatClampNeg (Int32.ofNat 0).toNatClampNeg (Int32.ofNat 12).toNatClampNeg) (va_cpy p1_size t_size (Int32.ofNat 0).toNatClampNeg (Int32.ofNat 0).toNatClampNeg (Int32.ofNat 12).toNatClampNeg) t_sort p1_total (Int32.ofNat 0))
    else none)
  else none) := rfl
theorem xf_pg_clear_s (t_full : Int32) (t_length : Int32) : xf_pg_clear t_full t_length = (
  some ((), (Int32.ofNat 0), (Int32.ofNat 0))) := rfl
theorem xf_xt_schema_s (t_text_signs : (Nat → Int32)) (n : Nat) (t_kinds_mayBeNothing : (Nat → Int32)) (t_kinds_name : (Nat → Int64)) (t_kinds_size : (Nat → Int32)) (t_kinds_sort : (Nat → Int32)) (t_kinds_total : Int32) (t_schemaReader_words_begin : (Nat → Int32)) (t_schemaReader_words_digits : (Nat → Int32)) (t_schemaReader_words_end : (Nat → Int32)) (t_schemaReader_words_first : (Nat → Int32)) (t_schemaReader_words_now : Int32) (t_schemaReader_words_total : Int32) (t_spareKinds_mayBeNothing : (Nat → Int32)) (t_spareKinds_name : (Nat → Int64)) (t_spareKinds_size : (Nat → Int32)) (t_spareKinds_sort : (Nat → Int32)) (t_spareKinds_total : Int32) (t_text_full : Int32) (t_text_length : Int32) : xf_xt_schema t_text_signs n t_kinds_mayBeNothing t_kinds_name t_kinds_size t_kinds_sort t_kinds_total t_schemaReader_words_begin t_schemaReader_words_digits t_schemaReader_words_end t_schemaReader_words_first t_schemaReader_words_now t_schemaReader_words_total t_spareKinds_mayBeNothing t_spareKinds_name t_spareKinds_size t_spareKinds_sort t_spareKinds_total t_text_full t_text_length = (
  (xf_sr_readAll t_text_length t_text_signs n t_spareKinds_mayBeNothing t_spareKinds_name t_spareKinds_size t_spareKinds_sort t_spareKinds_total t_schemaReader_words_begin t_schemaReader_words_digits t_schemaReader_words_end t_schemaReader_words_first t_schemaReader_words_now t_schemaReader_words_total).bind fun q109 =>
  if q109.1 = (Int32.ofNat 0) then
    ((xf_wd_standsAt q109.2.2.2.2.2.2.1 q109.2.2.2.2.2.2.2.2.2.2.1 t_text_length q109.2.2.2.2.2.2.2.2.2.2.2).bind fun q113 =>
    some ((-1 : Int32) - q113, t_kinds_mayBeNothing, t_kinds_name, t_kinds_size, t_kinds_sort, t_kinds_total, q109.2.2.2.2.2.2.1, q109.2.2.2.2.2.2.2.1, q109.2.2.2.2.2.2.2.2.1, q109.2.2.2.2.2.2.2.2.2.1, q109.2.2.2.2.2.2.2.2.2.2.1, q109.2.2.2.2.2.2.2.2.2.2.2, q109.2.1, q109.2.2.1, q109.2.2.2.1, q109.2.2.2.2.1, q109.2.2.2.2.2.1, t_text_full, t_text_length))
  else
    (xf_kd_copyFrom q109.2.1 q109.2.2.1 q109.2.2.2.1 q109.2.2.2.2.1 q109.2.2.2.2.2.1 n t_kinds_mayBeNothing t_kinds_name t_kinds_size t_kinds_sort t_kinds_total).bind fun q121 =>
    (xf_pg_clear t_text_full t_text_length).bind fun q122 =>
    some (q121.2.2.2.2.2, q121.2.1, q121.2.2.1, q121.2.2.2.1, q121.2.2.2.2.1, q121.2.2.2.2.2, q109.2.2.2.2.2.2.1, q109.2.2.2.2.2.2.2.1, q109.2.2.2.2.2.2.2.2.1, q109.2.2.2.2.2.2.2.2.2.1, q109.2.2.2.2.2.2.2.2.2.2.1, q109.2.2.2.2.2.2.2.2.2.2.2, q109.2.1, q109.2.2.1, q109.2.2.2.1, q109.2.2.2.2.1, q109.2.2.2.2.2.1, q122.2.1, q122.2.2)) := rfl
theorem xf_md_clear_s (t_lines : Int32) (t_rows : Int32) (t_used : Int32) : xf_md_clear t_lines t_rows t_used = (
  some ((), (Int32.ofNat 0), (Int32.ofNat 0), (Int32.ofNat 0))) := rfl
theorem xf_mr_readAll_67_s (t_words_page_length : Int32) (t_words_page_signs : (Nat → Int32)) (n : Nat) (t_model_items : (Nat → Int32)) (t_model_lines : Int32) (t_model_name : (Nat → Int64)) (t_model_number : (Nat → Int32)) (t_model_order : (Nat → Int32)) (t_model_rows : Int32) (t_model_size : (Nat → Int32)) (t_model_sort : (Nat → Int32)) (t_model_start : (Nat → Int32)) (t_model_used : Int32) (t_model_value : (Nat → Int32)) (t_words_begin : (Nat → Int32)) (t_words_digits : (Nat → Int32)) (t_words_end : (Nat → Int32)) (t_words_first : (Nat → Int32)) (t_words_now : Int32) (t_words_total : Int32) : xf_mr_readAll_67 t_words_page_length t_words_page_signs n t_model_items t_model_lines t_model_name t_model_number t_model_order t_model_rows t_model_size t_model_sort t_model_start t_model_used t_model_value t_words_begin t_words_digits t_words_end t_words_first t_words_now t_words_total = (
  some ((Int32.ofNat 1), t_model_items, t_model_lines, t_model_name, t_model_number, t_model_order, t_model_rows, t_model_size, t_model_sort, t_model_start, t_model_used, t_model_value, t_words_begin, t_words_digits, t_words_end, t_words_first, t_words_now, t_words_total)) := rfl
theorem xf_mr_readHead_24_s (t_words_begin : (Nat → Int32)) (t_words_digits : (Nat → Int32)) (t_words_end : (Nat → Int32)) (t_words_first : (Nat → Int32)) (t_words_page_length : Int32) (t_words_page_signs : (Nat → Int32)) (t_words_total : Int32) (n : Nat) (t_model_lines : Int32) (t_model_name : (Nat → Int64)) (t_model_number : (Nat → Int32)) (t_model_order : (Nat → Int32)) (t_model_rows : Int32) (t_model_size : (Nat → Int32)) (t_words_now : Int32) : xf_mr_readHead_24 t_words_begin t_words_digits t_words_end t_words_first t_words_page_length t_words_page_signs t_words_total n t_model_lines t_model_name t_model_number t_model_order t_model_rows t_model_size t_words_now = (
  some ((Int32.ofNat 0), t_model_lines, t_model_name, t_model_number, t_model_order, t_model_rows, t_model_size, t_words_now)) := rfl
theorem xf_wd_lineAhead_47_s (t_begin : (Nat → Int32)) (t_digits : (Nat → Int32)) (t_end : (Nat → Int32)) (t_now : Int32) (t_total : Int32) : xf_wd_lineAhead_47 t_begin t_digits t_end t_now t_total = (
  some (-1 : Int32)) := rfl
theorem xf_wd_lineAhead_s (t_begin : (Nat → Int32)) (t_digits : (Nat → Int32)) (t_end : (Nat → Int32)) (t_now : Int32) (t_total : Int32) : xf_wd_lineAhead t_begin t_digits t_end t_now t_total = (
  if t_now < t_total then
    (if xr_in t_now 1200 = true then
      (if xr_in t_now 1200 = true then
        (if (Int32.ofNat 3) < ((t_end t_now.toNatClampNeg) - (t_begin t_now.toNatClampNeg)) then
          (xf_wd_lineAhead_47 t_begin t_digits t_end t_now t_total)
        else
          if xr_in t_now 1200 = true then
            (if (t_digits t_now.toNatClampNeg) < (Int32.ofNat 1) then
              (xf_wd_lineAhead_47 t_begin t_digits t_end t_now t_total)
            else
              if xr_in t_now 1200 = true then
                (some (t_digits t_now.toNatClampNeg))
              else none)
          else none)
      else none)
    else none)
  else
    xf_wd_lineAhead_47 t_begin t_digits t_end t_now t_total) := rfl
theorem xf_mr_readHead_51_s (t_words_begin : (Nat → Int32)) (t_words_digits : (Nat → Int32)) (t_words_end : (Nat → Int32)) (t_words_first : (Nat → Int32)) (t_words_page_length : Int32) (t_words_page_signs : (Nat → Int32)) (t_words_total : Int32) (n : Nat) (t_model_lines : Int32) (t_model_name : (Nat → Int64)) (t_model_number : (Nat → Int32)) (t_model_order : (Nat → Int32)) (t_model_rows : Int32) (t_model_size : (Nat → Int32)) (t_words_now : Int32) : xf_mr_readHead_51 t_words_begin t_words_digits t_words_end t_words_first t_words_page_length t_words_page_signs t_words_total n t_model_lines t_model_name t_model_number t_model_order t_model_rows t_model_size t_words_now = (
  some ((Int32.ofNat 0), t_model_lines, t_model_name, t_model_number, t_model_order, t_model_rows, t_model_size, t_words_now)) := rfl
theorem xf_md_rowOf_2_s (t_lines : Int32) (t_number : (Nat → Int32)) (t_order : (Nat → Int32)) (n : Nat) (N : Nat) (v1 : Int32) (v2 : Int32) : xf_md_rowOf_2 t_lines t_number t_order n (N + 1) v1 v2 = (
    if v2 < t_lines then
      (if xr_in v2 40 = true then
        (if xr_in (t_order v2.toNatClampNeg) 40 = true then
          (if (t_number (t_order v2.toNatClampNeg).toNatClampNeg) = v1 then
            (if xr_in v2 40 = true then
              (some (t_order v2.toNatClampNeg))
            else none)
          else
            (xf_md_rowOf_2 t_lines t_number t_order n N) v1 (v2 + (Int32.ofNat 1)))
        else none)
      else none)
    else
      some (-1 : Int32)) := rfl
theorem xf_md_rowOf_s (t_lines : Int32) (t_number : (Nat → Int32)) (t_order : (Nat → Int32)) (n : Nat) (a1 : Int32) : xf_md_rowOf t_lines t_number t_order n a1 = (
  xf_md_rowOf_2 t_lines t_number t_order n n a1 (Int32.ofNat 0)) := rfl
theorem xf_md_addLine_61_s (n : Nat) (t_lines : Int32) (t_name : (Nat → Int64)) (t_number : (Nat → Int32)) (t_order : (Nat → Int32)) (t_rows : Int32) (t_size : (Nat → Int32)) (v1 : Int32) (v2 : Int64) (v4 : Int32) : xf_md_addLine_61 n t_lines t_name t_number t_order t_rows t_size v1 v2 v4 = (
  if xr_in v4 40 = true then
    (if xr_in t_rows 40 = true then
      (if xr_in t_rows 40 = true then
        (if xr_in t_rows 40 = true then
          (some ((), t_lines + (Int32.ofNat 1), vp_updL t_name t_rows.toNatClampNeg v2, upd t_number t_rows.toNatClampNeg v1, upd t_order v4.toNatClampNeg t_rows, t_rows + (Int32.ofNat 1), upd t_size t_rows.toNatClampNeg ((Int32.ofNat 0))))
        else none)
      else none)
    else none)
  else none) := rfl
theorem xf_md_addLine_16_s (n : Nat) (N : Nat) (t_lines : Int32) (t_name : (Nat → Int64)) (t_number : (Nat → Int32)) (t_order : (Nat → Int32)) (t_rows : Int32) (t_size : (Nat → Int32)) (v1 : Int32) (v2 : Int64) (v4 : Int32) : xf_md_addLine_16 n (N + 1) t_lines t_name t_number t_order t_rows t_size v1 v2 v4 = (
    if (Int32.ofNat 0) < v4 then
      (if xr_in (v4 - (Int32.ofNat 1)) 40 = true then
        (if xr_in (t_order (v4 - (Int32.ofNat 1)).toNatClampNeg) 40 = true then
          (if v1 < (t_number (t_order (v4 - (Int32.ofNat 1)).toNatClampNeg).toNatClampNeg) then
            (if xr_in (v4 - (Int32.ofNat 1)) 40 = true then
              (if xr_in v4 40 = true then
                ((xf_md_addLine_16 n N) t_lines t_name t_number (upd t_order v4.toNatClampNeg ((t_order (v4 - (Int32.ofNat 1)).toNatClampNeg))) t_rows t_size v1 v2 (v4 + (-1 : Int32)))
              else none)
            else none)
          else
            xf_md_addLine_61 n t_lines t_name t_number t_order t_rows t_size v1 v2 v4)
        else none)
      else none)
    else
      xf_md_addLine_61 n t_lines t_name t_number t_order t_rows t_size v1 v2 v4) := rfl
theorem xf_md_addLine_s (n : Nat) (t_lines : Int32) (t_name : (Nat → Int64)) (t_number : (Nat → Int32)) (t_order : (Nat → Int32)) (t_rows : Int32) (t_size : (Nat → Int32)) (a1 : Int32) (a2 : Int64) : xf_md_addLine n t_lines t_name t_number t_order t_rows t_size a1 a2 = (
  if t_rows < (Int32.ofNat 40) then
    (xf_md_addLine_16 n n t_lines t_name t_number t_order t_rows t_size a1 a2 t_lines)
  else
    some ((), t_lines, t_name, t_number, t_order, t_rows, t_size)) := rfl
theorem xf_mr_readHead_s (t_words_begin : (Nat → Int32)) (t_words_digits : (Nat → Int32)) (t_words_end : (Nat → Int32)) (t_words_first : (Nat → Int32)) (t_words_page_length : Int32) (t_words_page_signs : (Nat → Int32)) (t_words_total : Int32) (n : Nat) (t_model_lines : Int32) (t_model_name : (Nat → Int64)) (t_model_number : (Nat → Int32)) (t_model_order : (Nat → Int32)) (t_model_rows : Int32) (t_model_size : (Nat → Int32)) (t_words_now : Int32) : xf_mr_readHead t_words_begin t_words_digits t_words_end t_words_first t_words_page_length t_words_page_signs t_words_total n t_model_lines t_model_name t_model_number t_model_order t_model_rows t_model_size t_words_now = (
  if t_model_rows < (Int32.ofNat 40) then
    ((xf_wd_takes t_words_first t_words_total t_words_now (Int32.ofNat 35)).bind fun q129 =>
    if q129.1 = (Int32.ofNat 0) then
      (xf_mr_readHead_24 t_words_begin t_words_digits t_words_end t_words_first t_words_page_length t_words_page_signs t_words_total n t_model_lines t_model_name t_model_number t_model_order t_model_rows t_model_size q129.2)
    else
      (xf_wd_lineAhead t_words_begin t_words_digits t_words_end q129.2 t_words_total).bind fun q138 =>
      if q138 = (-1 : Int32) then
        (xf_mr_readHead_51 t_words_begin t_words_digits t_words_end t_words_first t_words_page_length t_words_page_signs t_words_total n t_model_lines t_model_name t_model_number t_model_order t_model_rows t_model_size q129.2)
      else
        (xf_md_rowOf t_model_lines t_model_number t_model_order n q138).bind fun q145 =>
        if q145 = (-1 : Int32) then
          ((xf_wd_step q129.2).bind fun q147 =>
          (xf_wd_takes t_words_first t_words_total q147.2 (Int32.ofNat 61)).bind fun q148 =>
          if q148.1 = (Int32.ofNat 0) then
            (some ((Int32.ofNat 0), t_model_lines, t_model_name, t_model_number, t_model_order, t_model_rows, t_model_size, q148.2))
          else
            (xf_wd_nameAhead t_words_begin t_words_end t_words_first q148.2 t_words_page_length t_words_page_signs t_words_total n).bind fun q150 =>
            if (lg_cmp q150 ((0 : Int64))) = (Int32.ofNat 0) then
              (some ((Int32.ofNat 0), t_model_lines, t_model_name, t_model_number, t_model_order, t_model_rows, t_model_size, q148.2))
            else
              (xf_wd_step q148.2).bind fun q152 =>
              (xf_md_addLine n t_model_lines t_model_name t_model_number t_model_order t_model_rows t_model_size q138 q150).bind fun q164 =>
              (xf_wd_takes t_words_first t_words_total q152.2 (Int32.ofNat 40)).bind fun q165 =>
              if fits .boolean (.int q165.1) = true then some (q165.1, q164.2.1, q164.2.2.1, q164.2.2.2.1, q164.2.2.2.2.1, q164.2.2.2.2.2.1, q164.2.2.2.2.2.2, q165.2) else none)
        else
          xf_mr_readHead_51 t_words_begin t_words_digits t_words_end t_words_first t_words_page_length t_words_page_signs t_words_total n t_model_lines t_model_name t_model_number t_model_order t_model_rows t_model_size q129.2)
  else
    xf_mr_readHead_24 t_words_begin t_words_digits t_words_end t_words_first t_words_page_length t_words_page_signs t_words_total n t_model_lines t_model_name t_model_number t_model_order t_model_rows t_model_size t_words_now) := rfl
theorem xf_mr_readAll_59_s (t_words_page_length : Int32) (t_words_page_signs : (Nat → Int32)) (n : Nat) (t_model_items : (Nat → Int32)) (t_model_lines : Int32) (t_model_name : (Nat → Int64)) (t_model_number : (Nat → Int32)) (t_model_order : (Nat → Int32)) (t_model_rows : Int32) (t_model_size : (Nat → Int32)) (t_model_sort : (Nat → Int32)) (t_model_start : (Nat → Int32)) (t_model_used : Int32) (t_model_value : (Nat → Int32)) (t_words_begin : (Nat → Int32)) (t_words_digits : (Nat → Int32)) (t_words_end : (Nat → Int32)) (t_words_first : (Nat → Int32)) (t_words_now : Int32) (t_words_total : Int32) : xf_mr_readAll_59 t_words_page_length t_words_page_signs n t_model_items t_model_lines t_model_name t_model_number t_model_order t_model_rows t_model_size t_model_sort t_model_start t_model_used t_model_value t_words_begin t_words_digits t_words_end t_words_first t_words_now t_words_total = (
  some ((Int32.ofNat 0), t_model_items, t_model_lines, t_model_name, t_model_number, t_model_order, t_model_rows, t_model_size, t_model_sort, t_model_start, t_model_used, t_model_value, t_words_begin, t_words_digits, t_words_end, t_words_first, t_words_now, t_words_total)) := rfl
theorem xf_md_addArgument_22_s (t_rows : Int32) (t_size : (Nat → Int32)) : xf_md_addArgument_22 t_rows t_size = (
  some ((-1 : Int32), t_size)) := rfl
theorem xf_md_addArgument_s (t_rows : Int32) (t_size : (Nat → Int32)) : xf_md_addArgument t_rows t_size = (
  if (t_rows - (Int32.ofNat 1)) < (Int32.ofNat 0) then
    (xf_md_addArgument_22 t_rows t_size)
  else
    if xr_in (t_rows - (Int32.ofNat 1)) 40 = true then
      (if (t_size (t_rows - (Int32.ofNat 1)).toNatClampNeg) < (Int32.ofNat 8) then
        (if xr_in (t_rows - (Int32.ofNat 1)) 40 = true then
          (if xr_in (t_rows - (Int32.ofNat 1)) 40 = true then
            (if xr_in (t_rows - (Int32.ofNat 1)) 40 = true then
              (some ((((t_rows - (Int32.ofNat 1)) * (Int32.ofNat 8)) + ((upd t_size (t_rows - (Int32.ofNat 1)).toNatClampNeg (((t_size (t_rows - (Int32.ofNat 1)).toNatClampNeg) + (Int32.ofNat 1)))) (t_rows - (Int32.ofNat 1)).toNatClampNeg)) - (Int32.ofNat 1), upd t_size (t_rows - (Int32.ofNat 1)).toNatClampNeg (((t_size (t_rows - (Int32.ofNat 1)).toNatClampNeg) + (Int32.ofNat 1)))))
            else none)
          else none)
        else none)
      else
        xf_md_addArgument_22 t_rows t_size)
    else none) := rfl
theorem xf_mr_readArguments_29_s (t_model_rows : Int32) (t_words_begin : (Nat → Int32)) (t_words_digits : (Nat → Int32)) (t_words_end : (Nat → Int32)) (t_words_first : (Nat → Int32)) (t_words_page_length : Int32) (t_words_page_signs : (Nat → Int32)) (t_words_total : Int32) (n : Nat) (t_model_items : (Nat → Int32)) (t_model_size : (Nat → Int32)) (t_model_sort : (Nat → Int32)) (t_model_start : (Nat → Int32)) (t_model_used : Int32) (t_model_value : (Nat → Int32)) (t_words_now : Int32) : xf_mr_readArguments_29 t_model_rows t_words_begin t_words_digits t_words_end t_words_first t_words_page_length t_words_page_signs t_words_total n t_model_items t_model_size t_model_sort t_model_start t_model_used t_model_value t_words_now = (
  some ((Int32.ofNat 0), t_model_items, t_model_size, t_model_sort, t_model_start, t_model_used, t_model_value, t_words_now)) := rfl
theorem xf_md_put_s (t_used : Int32) (t_sort : (Nat → Int32)) (t_start : (Nat → Int32)) (t_value : (Nat → Int32)) (a1 : Int32) (a2 : Int32) (a3 : Int32) : xf_md_put t_used t_sort t_start t_value a1 a2 a3 = (
  if xr_in a1 320 = true then
    (if xr_in a1 320 = true then
      (if xr_in a1 320 = true then
        (some ((), upd t_sort a1.toNatClampNeg a2, upd t_start a1.toNatClampNeg t_used, upd t_value a1.toNatClampNeg a3))
      else none)
    else none)
  else none) := rfl
theorem xf_wd_textSize_22_s (t_begin : (Nat → Int32)) (t_end : (Nat → Int32)) (t_first : (Nat → Int32)) (t_now : Int32) (t_page_length : Int32) (t_page_signs : (Nat → Int32)) (t_total : Int32) (n : Nat) : xf_wd_textSize_22 t_begin t_end t_first t_now t_page_length t_page_signs t_total n = (
  some (-1 : Int32)) := rfl
theorem xf_wd_textSize_72_s (t_begin : (Nat → Int32)) (t_end : (Nat → Int32)) (t_first : (Nat → Int32)) (t_now : Int32) (t_page_length : Int32) (t_page_signs : (Nat → Int32)) (t_total : Int32) (k38 : Int32 → Int32 → Option (Int32)) (n : Nat) (v1 : Int32) (s0 : Int32) (s1 : Int32) : xf_wd_textSize_72 t_begin t_end t_first t_now t_page_length t_page_signs t_total k38 n v1 s0 s1 = (
  k38 (v1 + (Int32.ofNat 1)) ((s0 + s1) + (Int32.ofNat 1))) := rfl
theorem xf_wd_textSize_38_s (t_begin : (Nat → Int32)) (t_end : (Nat → Int32)) (t_first : (Nat → Int32)) (t_now : Int32) (t_page_length : Int32) (t_page_signs : (Nat → Int32)) (t_total : Int32) (n : Nat) (N : Nat) (v1 : Int32) (v2 : Int32) : xf_wd_textSize_38 t_begin t_end t_first t_now t_page_length t_page_signs t_total n (N + 1) v1 v2 = (
    if xr_in t_now 1200 = true then
      (if v2 < ((t_end t_now.toNatClampNeg) - (Int32.ofNat 1)) then
        ((xf_pg_signAt t_page_length t_page_signs v2).bind fun q193 =>
        if q193 = (Int32.ofNat 39) then
          (xf_wd_textSize_72 t_begin t_end t_first t_now t_page_length t_page_signs t_total (xf_wd_textSize_38 t_begin t_end t_first t_now t_page_length t_page_signs t_total n N) n v1 v2 (Int32.ofNat 1))
        else
          xf_wd_textSize_72 t_begin t_end t_first t_now t_page_length t_page_signs t_total (xf_wd_textSize_38 t_begin t_end t_first t_now t_page_length t_page_signs t_total n N) n v1 v2 (Int32.ofNat 0))
      else
        some v1)
    else none) := rfl
theorem xf_wd_textSize_s (t_begin : (Nat → Int32)) (t_end : (Nat → Int32)) (t_first : (Nat → Int32)) (t_now : Int32) (t_page_length : Int32) (t_page_signs : (Nat → Int32)) (t_total : Int32) (n : Nat) : xf_wd_textSize t_begin t_end t_first t_now t_page_length t_page_signs t_total n = (
  (xf_wd_ahead t_first t_now t_total).bind fun q186 =>
  if q186 = (Int32.ofNat 39) then
    (if xr_in t_now 1200 = true then
      (if (t_end t_now.toNatClampNeg) = (-1 : Int32) then
        (xf_wd_textSize_22 t_begin t_end t_first t_now t_page_length t_page_signs t_total n)
      else
        if xr_in t_now 1200 = true then
          (xf_wd_textSize_38 t_begin t_end t_first t_now t_page_length t_page_signs t_total n n (Int32.ofNat 0) ((t_begin t_now.toNatClampNeg) + (Int32.ofNat 1)))
        else none)
    else none)
  else
    xf_wd_textSize_22 t_begin t_end t_first t_now t_page_length t_page_signs t_total n) := rfl
theorem xf_mr_readText_19_s (t_words_begin : (Nat → Int32)) (t_words_end : (Nat → Int32)) (t_words_first : (Nat → Int32)) (t_words_page_length : Int32) (t_words_page_signs : (Nat → Int32)) (t_words_total : Int32) (n : Nat) (t_model_items : (Nat → Int32)) (t_model_sort : (Nat → Int32)) (t_model_start : (Nat → Int32)) (t_model_used : Int32) (t_model_value : (Nat → Int32)) (t_words_now : Int32) : xf_mr_readText_19 t_words_begin t_words_end t_words_first t_words_page_length t_words_page_signs t_words_total n t_model_items t_model_sort t_model_start t_model_used t_model_value t_words_now = (
  some ((Int32.ofNat 0), t_model_items, t_model_sort, t_model_start, t_model_used, t_model_value, t_words_now)) := rfl
theorem xf_md_addItem_42_s (t_items : (Nat → Int32)) (t_used : Int32) (t_value : (Nat → Int32)) : xf_md_addItem_42 t_items t_used t_value = (
  some ((), t_items, t_used, t_value)) := rfl
theorem xf_md_addItem_s (t_items : (Nat → Int32)) (t_used : Int32) (t_value : (Nat → Int32)) (a1 : Int32) (a2 : Int32) : xf_md_addItem t_items t_used t_value a1 a2 = (
  if t_used < (Int32.ofNat 1200) then
    (if xr_in t_used 1200 = true then
      (if xr_in a1 320 = true then
        (if xr_in a1 320 = true then
          (xf_md_addItem_42 (upd t_items t_used.toNatClampNeg a2) (t_used + (Int32.ofNat 1)) (upd t_value a1.toNatClampNeg (((t_value a1.toNatClampNeg) + (Int32.ofNat 1)))))
        else none)
      else none)
    else none)
  else
    xf_md_addItem_42 t_items t_used t_value) := rfl
theorem xf_wd_takeText_56_s (t_begin : (Nat → Int32)) (t_end : (Nat → Int32)) (t_first : (Nat → Int32)) (t_page_length : Int32) (t_page_signs : (Nat → Int32)) (t_total : Int32) (k22 : (Nat → Int32) → Int32 → (Nat → Int32) → Int32 → Int32 → Int32 → Option (Unit × (Nat → Int32) × Int32 × (Nat → Int32) × Int32)) (n : Nat) (p1_items : (Nat → Int32)) (p1_used : Int32) (p1_value : (Nat → Int32)) (t_now : Int32) (v2 : Int32) (s0 : Int32) (s1 : Int32) : xf_wd_takeText_56 t_begin t_end t_first t_page_length t_page_signs t_total k22 n p1_items p1_used p1_value t_now v2 s0 s1 = (
  (xf_pg_signAt t_page_length t_page_signs (s0 + s1)).bind fun q206 =>
  (xf_md_addItem p1_items p1_used p1_value v2 q206).bind fun q211 =>
  k22 q211.2.1 q211.2.2.1 q211.2.2.2 t_now v2 ((s0 + s1) + (Int32.ofNat 1))) := rfl
theorem xf_wd_takeText_22_s (t_begin : (Nat → Int32)) (t_end : (Nat → Int32)) (t_first : (Nat → Int32)) (t_page_length : Int32) (t_page_signs : (Nat → Int32)) (t_total : Int32) (n : Nat) (N : Nat) (p1_items : (Nat → Int32)) (p1_used : Int32) (p1_value : (Nat → Int32)) (t_now : Int32) (v2 : Int32) (v3 : Int32) : xf_wd_takeText_22 t_begin t_end t_first t_page_length t_page_signs t_total n (N + 1) p1_items p1_used p1_value t_now v2 v3 = (
    if xr_in t_now 1200 = true then
      (if v3 < ((t_end t_now.toNatClampNeg) - (Int32.ofNat 1)) then
        ((xf_pg_signAt t_page_length t_page_signs v3).bind fun q204 =>
        if q204 = (Int32.ofNat 39) then
          (xf_wd_takeText_56 t_begin t_end t_first t_page_length t_page_signs t_total (xf_wd_takeText_22 t_begin t_end t_first t_page_length t_page_signs t_total n N) n p1_items p1_used p1_value t_now v2 v3 (Int32.ofNat 1))
        else
          xf_wd_takeText_56 t_begin t_end t_first t_page_length t_page_signs t_total (xf_wd_takeText_22 t_begin t_end t_first t_page_length t_page_signs t_total n N) n p1_items p1_used p1_value t_now v2 v3 (Int32.ofNat 0))
      else
        some ((), p1_items, p1_used, p1_value, t_now + (Int32.ofNat 1)))
    else none) := rfl
theorem xf_wd_takeText_s (t_begin : (Nat → Int32)) (t_end : (Nat → Int32)) (t_first : (Nat → Int32)) (t_page_length : Int32) (t_page_signs : (Nat → Int32)) (t_total : Int32) (n : Nat) (p1_items : (Nat → Int32)) (p1_used : Int32) (p1_value : (Nat → Int32)) (t_now : Int32) (a2 : Int32) : xf_wd_takeText t_begin t_end t_first t_page_length t_page_signs t_total n p1_items p1_used p1_value t_now a2 = (
  (xf_wd_ahead t_first t_now t_total).bind fun q199 =>
  if q199 = (Int32.ofNat 39) then
    (if xr_in t_now 1200 = true then
      (xf_wd_takeText_22 t_begin t_end t_first t_page_length t_page_signs t_total n n p1_items p1_used p1_value t_now a2 ((t_begin t_now.toNatClampNeg) + (Int32.ofNat 1)))
    else none)
  else
    some ((), p1_items, p1_used, p1_value, t_now)) := rfl
theorem xf_mr_readText_s (t_words_begin : (Nat → Int32)) (t_words_end : (Nat → Int32)) (t_words_first : (Nat → Int32)) (t_words_page_length : Int32) (t_words_page_signs : (Nat → Int32)) (t_words_total : Int32) (n : Nat) (t_model_items : (Nat → Int32)) (t_model_sort : (Nat → Int32)) (t_model_start : (Nat → Int32)) (t_model_used : Int32) (t_model_value : (Nat → Int32)) (t_words_now : Int32) (a1 : Int32) : xf_mr_readText t_words_begin t_words_end t_words_first t_words_page_length t_words_page_signs t_words_total n t_model_items t_model_sort t_model_start t_model_used t_model_value t_words_now a1 = (
  (xf_wd_textSize t_words_begin t_words_end t_words_first t_words_now t_words_page_length t_words_page_signs t_words_total n).bind fun q195 =>
  if q195 = (-1 : Int32) then
    (xf_mr_readText_19 t_words_begin t_words_end t_words_first t_words_page_length t_words_page_signs t_words_total n t_model_items t_model_sort t_model_start t_model_used t_model_value t_words_now)
  else
    if (Int32.ofNat 20) < q195 then
      (xf_mr_readText_19 t_words_begin t_words_end t_words_first t_words_page_length t_words_page_signs t_words_total n t_model_items t_model_sort t_model_start t_model_used t_model_value t_words_now)
    else
      (xf_md_put t_model_used t_model_sort t_model_start t_model_value a1 (Int32.ofNat 1) (Int32.ofNat 0)).bind fun q198 =>
      (xf_wd_takeText t_words_begin t_words_end t_words_first t_words_page_length t_words_page_signs t_words_total n t_model_items t_model_used q198.2.2.2 t_words_now a1).bind fun q212 =>
      some ((Int32.ofNat 1), q212.2.1, q198.2.1, q198.2.2.1, q212.2.2.1, q212.2.2.2.1, q212.2.2.2.2)) := rfl
theorem xf_mr_readWord_24_s (t_words_begin : (Nat → Int32)) (t_words_end : (Nat → Int32)) (t_words_first : (Nat → Int32)) (t_words_page_length : Int32) (t_words_page_signs : (Nat → Int32)) (t_words_total : Int32) (n : Nat) (t_model_items : (Nat → Int32)) (t_model_sort : (Nat → Int32)) (t_model_start : (Nat → Int32)) (t_model_used : Int32) (t_model_value : (Nat → Int32)) (t_words_now : Int32) : xf_mr_readWord_24 t_words_begin t_words_end t_words_first t_words_page_length t_words_page_signs t_words_total n t_model_items t_model_sort t_model_start t_model_used t_model_value t_words_now = (
  some ((Int32.ofNat 0), t_model_items, t_model_sort, t_model_start, t_model_used, t_model_value, t_words_now)) := rfl
theorem xf_wd_takeLetters_21_s (t_begin : (Nat → Int32)) (t_end : (Nat → Int32)) (t_first : (Nat → Int32)) (t_page_length : Int32) (t_page_signs : (Nat → Int32)) (t_total : Int32) (n : Nat) (N : Nat) (p1_items : (Nat → Int32)) (p1_used : Int32) (p1_value : (Nat → Int32)) (t_now : Int32) (v2 : Int32) (v3 : Int32) : xf_wd_takeLetters_21 t_begin t_end t_first t_page_length t_page_signs t_total n (N + 1) p1_items p1_used p1_value t_now v2 v3 = (
    if xr_in t_now 1200 = true then
      (if v3 < (t_end t_now.toNatClampNeg) then
        ((xf_pg_signAt t_page_length t_page_signs v3).bind fun q227 =>
        (xf_md_addItem p1_items p1_used p1_value v2 q227).bind fun q228 =>
        (xf_wd_takeLetters_21 t_begin t_end t_first t_page_length t_page_signs t_total n N) q228.2.1 q228.2.2.1 q228.2.2.2 t_now v2 (v3 + (Int32.ofNat 1)))
      else
        some ((), p1_items, p1_used, p1_value, t_now + (Int32.ofNat 1)))
    else none) := rfl
theorem xf_wd_takeLetters_s (t_begin : (Nat → Int32)) (t_end : (Nat → Int32)) (t_first : (Nat → Int32)) (t_page_length : Int32) (t_page_signs : (Nat → Int32)) (t_total : Int32) (n : Nat) (p1_items : (Nat → Int32)) (p1_used : Int32) (p1_value : (Nat → Int32)) (t_now : Int32) (a2 : Int32) : xf_wd_takeLetters t_begin t_end t_first t_page_length t_page_signs t_total n p1_items p1_used p1_value t_now a2 = (
  (xf_wd_ahead t_first t_now t_total).bind fun q221 =>
  (xf_xt_isLetter q221).bind fun q222 =>
  if q222 = (Int32.ofNat 0) then
    (some ((), p1_items, p1_used, p1_value, t_now))
  else
    if xr_in t_now 1200 = true then
      (xf_wd_takeLetters_21 t_begin t_end t_first t_page_length t_page_signs t_total n n p1_items p1_used p1_value t_now a2 (t_begin t_now.toNatClampNeg))
    else none) := rfl
theorem xf_mr_readWord_s (t_words_begin : (Nat → Int32)) (t_words_end : (Nat → Int32)) (t_words_first : (Nat → Int32)) (t_words_page_length : Int32) (t_words_page_signs : (Nat → Int32)) (t_words_total : Int32) (n : Nat) (t_model_items : (Nat → Int32)) (t_model_sort : (Nat → Int32)) (t_model_start : (Nat → Int32)) (t_model_used : Int32) (t_model_value : (Nat → Int32)) (t_words_now : Int32) (a1 : Int32) : xf_mr_readWord t_words_begin t_words_end t_words_first t_words_page_length t_words_page_signs t_words_total n t_model_items t_model_sort t_model_start t_model_used t_model_value t_words_now a1 = (
  (xf_wd_takes t_words_first t_words_total t_words_now (Int32.ofNat 46)).bind fun q216 =>
  if q216.1 = (Int32.ofNat 0) then
    (xf_mr_readWord_24 t_words_begin t_words_end t_words_first t_words_page_length t_words_page_signs t_words_total n t_model_items t_model_sort t_model_start t_model_used t_model_value q216.2)
  else
    (xf_wd_nameAhead t_words_begin t_words_end t_words_first q216.2 t_words_page_length t_words_page_signs t_words_total n).bind fun q218 =>
    if (lg_cmp q218 ((0 : Int64))) = (Int32.ofNat 0) then
      (xf_mr_readWord_24 t_words_begin t_words_end t_words_first t_words_page_length t_words_page_signs t_words_total n t_model_items t_model_sort t_model_start t_model_used t_model_value q216.2)
    else
      (xf_md_put t_model_used t_model_sort t_model_start t_model_value a1 (Int32.ofNat 5) (Int32.ofNat 0)).bind fun q220 =>
      (xf_wd_takeLetters t_words_begin t_words_end t_words_first t_words_page_length t_words_page_signs t_words_total n t_model_items t_model_used q220.2.2.2 q216.2 a1).bind fun q229 =>
      (xf_wd_takes t_words_first t_words_total q229.2.2.2.2 (Int32.ofNat 46)).bind fun q230 =>
      if fits .boolean (.int q230.1) = true then some (q230.1, q229.2.1, q220.2.1, q220.2.2.1, q229.2.2.1, q229.2.2.2.1, q230.2) else none) := rfl
theorem xf_wd_takeNumber_104_s (t_digits : (Nat → Int32)) (t_first : (Nat → Int32)) (t_total : Int32) (t_now : Int32) : xf_wd_takeNumber_104 t_digits t_first t_total t_now = (
  some ((-2000000000 : Int32), t_now)) := rfl
theorem xf_wd_takeNumber_99_s (t_digits : (Nat → Int32)) (t_first : (Nat → Int32)) (t_total : Int32) (t_now : Int32) (v2 : Int32) : xf_wd_takeNumber_99 t_digits t_first t_total t_now v2 = (
  xf_wd_takeNumber_104 t_digits t_first t_total v2) := rfl
theorem xf_wd_takeNumber_79_s (t_digits : (Nat → Int32)) (t_first : (Nat → Int32)) (t_total : Int32) (t_now : Int32) (v2 : Int32) : xf_wd_takeNumber_79 t_digits t_first t_total t_now v2 = (
  if v2 < t_total then
    (if xr_in v2 1200 = true then
      ((xf_xt_isDigit (t_first v2.toNatClampNeg)).bind fun q253 =>
      if q253 = (Int32.ofNat 0) then
        (xf_wd_takeNumber_99 t_digits t_first t_total t_now v2)
      else
        xf_wd_takeNumber_104 t_digits t_first t_total t_now)
    else none)
  else
    xf_wd_takeNumber_99 t_digits t_first t_total t_now v2) := rfl
theorem xf_wd_takeNumber_78_s (t_digits : (Nat → Int32)) (t_first : (Nat → Int32)) (t_total : Int32) (t_now : Int32) (s0 : Int32) : xf_wd_takeNumber_78 t_digits t_first t_total t_now s0 = (
  some (s0, t_now)) := rfl
theorem xf_wd_takeNumber_32_s (t_digits : (Nat → Int32)) (t_first : (Nat → Int32)) (t_total : Int32) (t_now : Int32) (v1 : Int32) (s0 : Int32) : xf_wd_takeNumber_32 t_digits t_first t_total t_now v1 s0 = (
  if s0 < t_total then
    (if xr_in s0 1200 = true then
      (if (t_digits s0.toNatClampNeg) = (-1 : Int32) then
        (xf_wd_takeNumber_79 t_digits t_first t_total t_now s0)
      else
        if v1 = (Int32.ofNat 0) then
          (if xr_in s0 1200 = true then
            (xf_wd_takeNumber_78 t_digits t_first t_total (s0 + (Int32.ofNat 1)) (t_digits s0.toNatClampNeg))
          else none)
        else
          if xr_in s0 1200 = true then
            (xf_wd_takeNumber_78 t_digits t_first t_total (s0 + (Int32.ofNat 1)) (-(t_digits s0.toNatClampNeg)))
          else none)
    else none)
  else
    xf_wd_takeNumber_79 t_digits t_first t_total t_now s0) := rfl
theorem xf_wd_takeNumber_14_s (t_digits : (Nat → Int32)) (t_first : (Nat → Int32)) (t_total : Int32) (t_now : Int32) (s0 : Int32) : xf_wd_takeNumber_14 t_digits t_first t_total t_now s0 = (
  if s0 = (Int32.ofNat 0) then
    (xf_wd_takeNumber_32 t_digits t_first t_total t_now s0 t_now)
  else
    xf_wd_takeNumber_32 t_digits t_first t_total t_now s0 (t_now + (Int32.ofNat 1))) := rfl
theorem xf_wd_takeNumber_s (t_digits : (Nat → Int32)) (t_first : (Nat → Int32)) (t_total : Int32) (t_now : Int32) : xf_wd_takeNumber t_digits t_first t_total t_now = (
  (xf_wd_ahead t_first t_now t_total).bind fun q245 =>
  if q245 = (Int32.ofNat 45) then
    (xf_wd_takeNumber_14 t_digits t_first t_total t_now (Int32.ofNat 1))
  else
    xf_wd_takeNumber_14 t_digits t_first t_total t_now (Int32.ofNat 0)) := rfl
theorem xf_mr_readList_93_s (t_words_begin : (Nat → Int32)) (t_words_digits : (Nat → Int32)) (t_words_end : (Nat → Int32)) (t_words_first : (Nat → Int32)) (t_words_total : Int32) (k66 : (Nat → Int32) → (Nat → Int32) → (Nat → Int32) → Int32 → (Nat → Int32) → Int32 → Int32 → Int32 → Int32 → Option (Int32 × (Nat → Int32) × (Nat → Int32) × (Nat → Int32) × Int32 × (Nat → Int32) × Int32)) (n : Nat) (t_model_items : (Nat → Int32)) (t_model_sort : (Nat → Int32)) (t_model_start : (Nat → Int32)) (t_model_used : Int32) (t_model_value : (Nat → Int32)) (t_words_now : Int32) (v1 : Int32) (v2 : Int32) (v3 : Int32) (s0 : Int32) : xf_mr_readList_93 t_words_begin t_words_digits t_words_end t_words_first t_words_total k66 n t_model_items t_model_sort t_model_start t_model_used t_model_value t_words_now v1 v2 v3 s0 = (
  if s0 = (-2000000000 : Int32) then
    (some ((Int32.ofNat 0), t_model_items, t_model_sort, t_model_start, t_model_used, t_model_value, t_words_now))
  else
    (xf_md_addItem t_model_items t_model_used t_model_value v1 s0).bind fun q260 =>
    (xf_wd_takes t_words_first t_words_total t_words_now (Int32.ofNat 41)).bind fun q261 =>
    if q261.1 = (Int32.ofNat 0) then
      ((xf_wd_takes t_words_first t_words_total q261.2 (Int32.ofNat 44)).bind fun q263 =>
      if q263.1 = (Int32.ofNat 0) then
        (some ((Int32.ofNat 0), q260.2.1, t_model_sort, t_model_start, q260.2.2.1, q260.2.2.2, q263.2))
      else
        k66 q260.2.1 t_model_sort t_model_start q260.2.2.1 q260.2.2.2 q263.2 v1 v2 (v3 + (Int32.ofNat 1)))
    else
      some ((Int32.ofNat 1), q260.2.1, t_model_sort, t_model_start, q260.2.2.1, q260.2.2.2, q261.2)) := rfl
theorem xf_wd_takeReference_17_s (t_begin : (Nat → Int32)) (t_digits : (Nat → Int32)) (t_end : (Nat → Int32)) (t_first : (Nat → Int32)) (t_total : Int32) (t_now : Int32) (s0 : Int32) : xf_wd_takeReference_17 t_begin t_digits t_end t_first t_total t_now s0 = (
  if s0 = (-1 : Int32) then
    (some ((-2000000000 : Int32), t_now))
  else
    some (s0, t_now + (Int32.ofNat 1))) := rfl
theorem xf_wd_takeReference_s (t_begin : (Nat → Int32)) (t_digits : (Nat → Int32)) (t_end : (Nat → Int32)) (t_first : (Nat → Int32)) (t_total : Int32) (t_now : Int32) : xf_wd_takeReference t_begin t_digits t_end t_first t_total t_now = (
  (xf_wd_takes t_first t_total t_now (Int32.ofNat 35)).bind fun q265 =>
  if q265.1 = (Int32.ofNat 0) then
    (xf_wd_takeReference_17 t_begin t_digits t_end t_first t_total q265.2 (-1 : Int32))
  else
    (xf_wd_lineAhead t_begin t_digits t_end q265.2 t_total).bind fun q268 =>
    xf_wd_takeReference_17 t_begin t_digits t_end t_first t_total q265.2 q268) := rfl
theorem xf_mr_readList_66_s (t_words_begin : (Nat → Int32)) (t_words_digits : (Nat → Int32)) (t_words_end : (Nat → Int32)) (t_words_first : (Nat → Int32)) (t_words_total : Int32) (n : Nat) (N : Nat) (t_model_items : (Nat → Int32)) (t_model_sort : (Nat → Int32)) (t_model_start : (Nat → Int32)) (t_model_used : Int32) (t_model_value : (Nat → Int32)) (t_words_now : Int32) (v1 : Int32) (v2 : Int32) (v3 : Int32) : xf_mr_readList_66 t_words_begin t_words_digits t_words_end t_words_first t_words_total n (N + 1) t_model_items t_model_sort t_model_start t_model_used t_model_value t_words_now v1 v2 v3 = (
    if v3 < (Int32.ofNat 6) then
      (if v2 = (Int32.ofNat 0) then
        ((xf_wd_takeNumber t_words_digits t_words_first t_words_total t_words_now).bind fun q258 =>
        xf_mr_readList_93 t_words_begin t_words_digits t_words_end t_words_first t_words_total (xf_mr_readList_66 t_words_begin t_words_digits t_words_end t_words_first t_words_total n N) n t_model_items t_model_sort t_model_start t_model_used t_model_value q258.2 v1 v2 v3 q258.1)
      else
        (xf_wd_takeReference t_words_begin t_words_digits t_words_end t_words_first t_words_total t_words_now).bind fun q269 =>
        xf_mr_readList_93 t_words_begin t_words_digits t_words_end t_words_first t_words_total (xf_mr_readList_66 t_words_begin t_words_digits t_words_end t_words_first t_words_total n N) n t_model_items t_model_sort t_model_start t_model_used t_model_value q269.2 v1 v2 v3 q269.1)
    else
      some ((Int32.ofNat 0), t_model_items, t_model_sort, t_model_start, t_model_used, t_model_value, t_words_now)) := rfl
theorem xf_mr_readList_46_s (t_words_begin : (Nat → Int32)) (t_words_digits : (Nat → Int32)) (t_words_end : (Nat → Int32)) (t_words_first : (Nat → Int32)) (t_words_total : Int32) (n : Nat) (t_model_items : (Nat → Int32)) (t_model_sort : (Nat → Int32)) (t_model_start : (Nat → Int32)) (t_model_used : Int32) (t_model_value : (Nat → Int32)) (t_words_now : Int32) (v1 : Int32) (v2 : Int32) (s1 : Int32) (s2 : Int32) : xf_mr_readList_46 t_words_begin t_words_digits t_words_end t_words_first t_words_total n t_model_items t_model_sort t_model_start t_model_used t_model_value t_words_now v1 v2 s1 s2 = (
  (xf_md_put t_model_used t_model_sort t_model_start t_model_value s1 s2 (Int32.ofNat 0)).bind fun q240 =>
  (xf_wd_takes t_words_first t_words_total t_words_now (Int32.ofNat 41)).bind fun q241 =>
  if q241.1 = (Int32.ofNat 0) then
    (xf_mr_readList_66 t_words_begin t_words_digits t_words_end t_words_first t_words_total n n t_model_items q240.2.1 q240.2.2.1 t_model_used q240.2.2.2 q241.2 v1 v2 (Int32.ofNat 0))
  else
    some ((Int32.ofNat 1), t_model_items, q240.2.1, q240.2.2.1, t_model_used, q240.2.2.2, q241.2)) := rfl
theorem xf_mr_readList_31_s (t_words_begin : (Nat → Int32)) (t_words_digits : (Nat → Int32)) (t_words_end : (Nat → Int32)) (t_words_first : (Nat → Int32)) (t_words_total : Int32) (n : Nat) (t_model_items : (Nat → Int32)) (t_model_sort : (Nat → Int32)) (t_model_start : (Nat → Int32)) (t_model_used : Int32) (t_model_value : (Nat → Int32)) (t_words_now : Int32) (v1 : Int32) (s0 : Int32) : xf_mr_readList_31 t_words_begin t_words_digits t_words_end t_words_first t_words_total n t_model_items t_model_sort t_model_start t_model_used t_model_value t_words_now v1 s0 = (
  if s0 = (Int32.ofNat 0) then
    (xf_mr_readList_46 t_words_begin t_words_digits t_words_end t_words_first t_words_total n t_model_items t_model_sort t_model_start t_model_used t_model_value t_words_now v1 s0 v1 (Int32.ofNat 3))
  else
    xf_mr_readList_46 t_words_begin t_words_digits t_words_end t_words_first t_words_total n t_model_items t_model_sort t_model_start t_model_used t_model_value t_words_now v1 s0 v1 (Int32.ofNat 4)) := rfl
theorem xf_mr_readList_s (t_words_begin : (Nat → Int32)) (t_words_digits : (Nat → Int32)) (t_words_end : (Nat → Int32)) (t_words_first : (Nat → Int32)) (t_words_total : Int32) (n : Nat) (t_model_items : (Nat → Int32)) (t_model_sort : (Nat → Int32)) (t_model_start : (Nat → Int32)) (t_model_used : Int32) (t_model_value : (Nat → Int32)) (t_words_now : Int32) (a1 : Int32) : xf_mr_readList t_words_begin t_words_digits t_words_end t_words_first t_words_total n t_model_items t_model_sort t_model_start t_model_used t_model_value t_words_now a1 = (
  (xf_wd_takes t_words_first t_words_total t_words_now (Int32.ofNat 40)).bind fun q235 =>
  if q235.1 = (Int32.ofNat 0) then
    (some ((Int32.ofNat 0), t_model_items, t_model_sort, t_model_start, t_model_used, t_model_value, q235.2))
  else
    (xf_wd_ahead t_words_first q235.2 t_words_total).bind fun q237 =>
    if q237 = (Int32.ofNat 35) then
      (xf_mr_readList_31 t_words_begin t_words_digits t_words_end t_words_first t_words_total n t_model_items t_model_sort t_model_start t_model_used t_model_value q235.2 a1 (Int32.ofNat 1))
    else
      xf_mr_readList_31 t_words_begin t_words_digits t_words_end t_words_first t_words_total n t_model_items t_model_sort t_model_start t_model_used t_model_value q235.2 a1 (Int32.ofNat 0)) := rfl
theorem xf_mr_readArgument_136_s (t_words_begin : (Nat → Int32)) (t_words_digits : (Nat → Int32)) (t_words_end : (Nat → Int32)) (t_words_first : (Nat → Int32)) (t_words_page_length : Int32) (t_words_page_signs : (Nat → Int32)) (t_words_total : Int32) (n : Nat) (t_model_items : (Nat → Int32)) (t_model_sort : (Nat → Int32)) (t_model_start : (Nat → Int32)) (t_model_used : Int32) (t_model_value : (Nat → Int32)) (t_words_now : Int32) (s0 : Int32) : xf_mr_readArgument_136 t_words_begin t_words_digits t_words_end t_words_first t_words_page_length t_words_page_signs t_words_total n t_model_items t_model_sort t_model_start t_model_used t_model_value t_words_now s0 = (
  if fits .boolean (.int s0) = true then some (s0, t_model_items, t_model_sort, t_model_start, t_model_used, t_model_value, t_words_now) else none) := rfl
theorem xf_mr_readArgument_119_s (t_words_begin : (Nat → Int32)) (t_words_digits : (Nat → Int32)) (t_words_end : (Nat → Int32)) (t_words_first : (Nat → Int32)) (t_words_page_length : Int32) (t_words_page_signs : (Nat → Int32)) (t_words_total : Int32) (n : Nat) (t_model_items : (Nat → Int32)) (t_model_sort : (Nat → Int32)) (t_model_start : (Nat → Int32)) (t_model_used : Int32) (t_model_value : (Nat → Int32)) (t_words_now : Int32) (v4 : Int32) (s1 : Int32) (s2 : Int32) : xf_mr_readArgument_119 t_words_begin t_words_digits t_words_end t_words_first t_words_page_length t_words_page_signs t_words_total n t_model_items t_model_sort t_model_start t_model_used t_model_value t_words_now v4 s1 s2 = (
  (xf_md_put t_model_used t_model_sort t_model_start t_model_value s1 s2 v4).bind fun q276 =>
  if v4 = (-2000000000 : Int32) then
    (xf_mr_readArgument_136 t_words_begin t_words_digits t_words_end t_words_first t_words_page_length t_words_page_signs t_words_total n t_model_items q276.2.1 q276.2.2.1 t_model_used q276.2.2.2 t_words_now (Int32.ofNat 0))
  else
    xf_mr_readArgument_136 t_words_begin t_words_digits t_words_end t_words_first t_words_page_length t_words_page_signs t_words_total n t_model_items q276.2.1 q276.2.2.1 t_model_used q276.2.2.2 t_words_now (Int32.ofNat 1)) := rfl
theorem xf_mr_readArgument_103_s (t_words_begin : (Nat → Int32)) (t_words_digits : (Nat → Int32)) (t_words_end : (Nat → Int32)) (t_words_first : (Nat → Int32)) (t_words_page_length : Int32) (t_words_page_signs : (Nat → Int32)) (t_words_total : Int32) (n : Nat) (t_model_items : (Nat → Int32)) (t_model_sort : (Nat → Int32)) (t_model_start : (Nat → Int32)) (t_model_used : Int32) (t_model_value : (Nat → Int32)) (t_words_now : Int32) (v1 : Int32) (v3 : Int32) (s0 : Int32) : xf_mr_readArgument_103 t_words_begin t_words_digits t_words_end t_words_first t_words_page_length t_words_page_signs t_words_total n t_model_items t_model_sort t_model_start t_model_used t_model_value t_words_now v1 v3 s0 = (
  if v3 = (Int32.ofNat 0) then
    (xf_mr_readArgument_119 t_words_begin t_words_digits t_words_end t_words_first t_words_page_length t_words_page_signs t_words_total n t_model_items t_model_sort t_model_start t_model_used t_model_value t_words_now s0 v1 (Int32.ofNat 0))
  else
    xf_mr_readArgument_119 t_words_begin t_words_digits t_words_end t_words_first t_words_page_length t_words_page_signs t_words_total n t_model_items t_model_sort t_model_start t_model_used t_model_value t_words_now s0 v1 (Int32.ofNat 2)) := rfl
theorem xf_mr_readArgument_81_s (t_words_begin : (Nat → Int32)) (t_words_digits : (Nat → Int32)) (t_words_end : (Nat → Int32)) (t_words_first : (Nat → Int32)) (t_words_page_length : Int32) (t_words_page_signs : (Nat → Int32)) (t_words_total : Int32) (n : Nat) (t_model_items : (Nat → Int32)) (t_model_sort : (Nat → Int32)) (t_model_start : (Nat → Int32)) (t_model_used : Int32) (t_model_value : (Nat → Int32)) (t_words_now : Int32) (v1 : Int32) (s0 : Int32) : xf_mr_readArgument_81 t_words_begin t_words_digits t_words_end t_words_first t_words_page_length t_words_page_signs t_words_total n t_model_items t_model_sort t_model_start t_model_used t_model_value t_words_now v1 s0 = (
  if s0 = (Int32.ofNat 0) then
    ((xf_wd_takeNumber t_words_digits t_words_first t_words_total t_words_now).bind fun q274 =>
    xf_mr_readArgument_103 t_words_begin t_words_digits t_words_end t_words_first t_words_page_length t_words_page_signs t_words_total n t_model_items t_model_sort t_model_start t_model_used t_model_value q274.2 v1 s0 q274.1)
  else
    (xf_wd_takeReference t_words_begin t_words_digits t_words_end t_words_first t_words_total t_words_now).bind fun q279 =>
    xf_mr_readArgument_103 t_words_begin t_words_digits t_words_end t_words_first t_words_page_length t_words_page_signs t_words_total n t_model_items t_model_sort t_model_start t_model_used t_model_value q279.2 v1 s0 q279.1) := rfl
theorem xf_mr_readArgument_s (t_words_begin : (Nat → Int32)) (t_words_digits : (Nat → Int32)) (t_words_end : (Nat → Int32)) (t_words_first : (Nat → Int32)) (t_words_page_length : Int32) (t_words_page_signs : (Nat → Int32)) (t_words_total : Int32) (n : Nat) (t_model_items : (Nat → Int32)) (t_model_sort : (Nat → Int32)) (t_model_start : (Nat → Int32)) (t_model_used : Int32) (t_model_value : (Nat → Int32)) (t_words_now : Int32) (a1 : Int32) : xf_mr_readArgument t_words_begin t_words_digits t_words_end t_words_first t_words_page_length t_words_page_signs t_words_total n t_model_items t_model_sort t_model_start t_model_used t_model_value t_words_now a1 = (
  (xf_wd_ahead t_words_first t_words_now t_words_total).bind fun q178 =>
  if q178 = (Int32.ofNat 36) then
    ((xf_wd_step t_words_now).bind fun q180 =>
    (xf_md_put t_model_used t_model_sort t_model_start t_model_value a1 (Int32.ofNat 6) (Int32.ofNat 0)).bind fun q184 =>
    some ((Int32.ofNat 1), t_model_items, q184.2.1, q184.2.2.1, t_model_used, q184.2.2.2, q180.2))
  else
    if q178 = (Int32.ofNat 39) then
      ((xf_mr_readText t_words_begin t_words_end t_words_first t_words_page_length t_words_page_signs t_words_total n t_model_items t_model_sort t_model_start t_model_used t_model_value t_words_now a1).bind fun q213 =>
      if fits .boolean (.int q213.1) = true then some (q213.1, q213.2.1, q213.2.2.1, q213.2.2.2.1, q213.2.2.2.2.1, q213.2.2.2.2.2.1, q213.2.2.2.2.2.2) else none)
    else
      if q178 = (Int32.ofNat 46) then
        ((xf_mr_readWord t_words_begin t_words_end t_words_first t_words_page_length t_words_page_signs t_words_total n t_model_items t_model_sort t_model_start t_model_used t_model_value t_words_now a1).bind fun q232 =>
        if fits .boolean (.int q232.1) = true then some (q232.1, q232.2.1, q232.2.2.1, q232.2.2.2.1, q232.2.2.2.2.1, q232.2.2.2.2.2.1, q232.2.2.2.2.2.2) else none)
      else
        if q178 = (Int32.ofNat 40) then
          ((xf_mr_readList t_words_begin t_words_digits t_words_end t_words_first t_words_total n t_model_items t_model_sort t_model_start t_model_used t_model_value t_words_now a1).bind fun q270 =>
          if fits .boolean (.int q270.1) = true then some (q270.1, q270.2.1, q270.2.2.1, q270.2.2.2.1, q270.2.2.2.2.1, q270.2.2.2.2.2.1, q270.2.2.2.2.2.2) else none)
        else
          if q178 = (Int32.ofNat 35) then
            (xf_mr_readArgument_81 t_words_begin t_words_digits t_words_end t_words_first t_words_page_length t_words_page_signs t_words_total n t_model_items t_model_sort t_model_start t_model_used t_model_value t_words_now a1 (Int32.ofNat 1))
          else
            xf_mr_readArgument_81 t_words_begin t_words_digits t_words_end t_words_first t_words_page_length t_words_page_signs t_words_total n t_model_items t_model_sort t_model_start t_model_used t_model_value t_words_now a1 (Int32.ofNat 0)) := rfl
theorem xf_mr_readArguments_2_s (t_model_rows : Int32) (t_words_begin : (Nat → Int32)) (t_words_digits : (Nat → Int32)) (t_words_end : (Nat → Int32)) (t_words_first : (Nat → Int32)) (t_words_page_length : Int32) (t_words_page_signs : (Nat → Int32)) (t_words_total : Int32) (n : Nat) (N : Nat) (t_model_items : (Nat → Int32)) (t_model_size : (Nat → Int32)) (t_model_sort : (Nat → Int32)) (t_model_start : (Nat → Int32)) (t_model_used : Int32) (t_model_value : (Nat → Int32)) (t_words_now : Int32) (v1 : Int32) : xf_mr_readArguments_2 t_model_rows t_words_begin t_words_digits t_words_end t_words_first t_words_page_length t_words_page_signs t_words_total n (N + 1) t_model_items t_model_size t_model_sort t_model_start t_model_used t_model_value t_words_now v1 = (
    if v1 < (Int32.ofNat 8) then
      ((xf_md_addArgument t_model_rows t_model_size).bind fun q176 =>
      if q176.1 = (-1 : Int32) then
        (xf_mr_readArguments_29 t_model_rows t_words_begin t_words_digits t_words_end t_words_first t_words_page_length t_words_page_signs t_words_total n t_model_items q176.2 t_model_sort t_model_start t_model_used t_model_value t_words_now)
      else
        (xf_mr_readArgument t_words_begin t_words_digits t_words_end t_words_first t_words_page_length t_words_page_signs t_words_total n t_model_items t_model_sort t_model_start t_model_used t_model_value t_words_now q176.1).bind fun q280 =>
        if q280.1 = (Int32.ofNat 0) then
          (xf_mr_readArguments_29 t_model_rows t_words_begin t_words_digits t_words_end t_words_first t_words_page_length t_words_page_signs t_words_total n q280.2.1 q176.2 q280.2.2.1 q280.2.2.2.1 q280.2.2.2.2.1 q280.2.2.2.2.2.1 q280.2.2.2.2.2.2)
        else
          (xf_wd_takes t_words_first t_words_total q280.2.2.2.2.2.2 (Int32.ofNat 41)).bind fun q282 =>
          if q282.1 = (Int32.ofNat 0) then
            ((xf_wd_takes t_words_first t_words_total q282.2 (Int32.ofNat 44)).bind fun q284 =>
            if q284.1 = (Int32.ofNat 0) then
              (some ((Int32.ofNat 0), q280.2.1, q176.2, q280.2.2.1, q280.2.2.2.1, q280.2.2.2.2.1, q280.2.2.2.2.2.1, q284.2))
            else
              (xf_mr_readArguments_2 t_model_rows t_words_begin t_words_digits t_words_end t_words_first t_words_page_length t_words_page_signs t_words_total n N) q280.2.1 q176.2 q280.2.2.1 q280.2.2.2.1 q280.2.2.2.2.1 q280.2.2.2.2.2.1 q284.2 (v1 + (Int32.ofNat 1)))
          else
            some ((Int32.ofNat 1), q280.2.1, q176.2, q280.2.2.1, q280.2.2.2.1, q280.2.2.2.2.1, q280.2.2.2.2.2.1, q282.2))
    else
      some ((Int32.ofNat 0), t_model_items, t_model_size, t_model_sort, t_model_start, t_model_used, t_model_value, t_words_now)) := rfl
theorem xf_mr_readArguments_s (t_model_rows : Int32) (t_words_begin : (Nat → Int32)) (t_words_digits : (Nat → Int32)) (t_words_end : (Nat → Int32)) (t_words_first : (Nat → Int32)) (t_words_page_length : Int32) (t_words_page_signs : (Nat → Int32)) (t_words_total : Int32) (n : Nat) (t_model_items : (Nat → Int32)) (t_model_size : (Nat → Int32)) (t_model_sort : (Nat → Int32)) (t_model_start : (Nat → Int32)) (t_model_used : Int32) (t_model_value : (Nat → Int32)) (t_words_now : Int32) : xf_mr_readArguments t_model_rows t_words_begin t_words_digits t_words_end t_words_first t_words_page_length t_words_page_signs t_words_total n t_model_items t_model_size t_model_sort t_model_start t_model_used t_model_value t_words_now = (
  xf_mr_readArguments_2 t_model_rows t_words_begin t_words_digits t_words_end t_words_first t_words_page_length t_words_page_signs t_words_total n n t_model_items t_model_size t_model_sort t_model_start t_model_used t_model_value t_words_now (Int32.ofNat 0)) := rfl
theorem xf_mr_readAll_17_s (t_words_page_length : Int32) (t_words_page_signs : (Nat → Int32)) (n : Nat) (N : Nat) (t_model_items : (Nat → Int32)) (t_model_lines : Int32) (t_model_name : (Nat → Int64)) (t_model_number : (Nat → Int32)) (t_model_order : (Nat → Int32)) (t_model_rows : Int32) (t_model_size : (Nat → Int32)) (t_model_sort : (Nat → Int32)) (t_model_start : (Nat → Int32)) (t_model_used : Int32) (t_model_value : (Nat → Int32)) (t_words_begin : (Nat → Int32)) (t_words_digits : (Nat → Int32)) (t_words_end : (Nat → Int32)) (t_words_first : (Nat → Int32)) (t_words_now : Int32) (t_words_total : Int32) (v1 : Int32) : xf_mr_readAll_17 t_words_page_length t_words_page_signs n (N + 1) t_model_items t_model_lines t_model_name t_model_number t_model_order t_model_rows t_model_size t_model_sort t_model_start t_model_used t_model_value t_words_begin t_words_digits t_words_end t_words_first t_words_now t_words_total v1 = (
    if (Int32.ofNat 40) < v1 then
      (xf_mr_readAll_67 t_words_page_length t_words_page_signs n t_model_items t_model_lines t_model_name t_model_number t_model_order t_model_rows t_model_size t_model_sort t_model_start t_model_used t_model_value t_words_begin t_words_digits t_words_end t_words_first t_words_now t_words_total)
    else
      (xf_wd_more t_words_now t_words_total).bind fun q126 =>
      if q126 = (Int32.ofNat 0) then
        (xf_mr_readAll_67 t_words_page_length t_words_page_signs n t_model_items t_model_lines t_model_name t_model_number t_model_order t_model_rows t_model_size t_model_sort t_model_start t_model_used t_model_value t_words_begin t_words_digits t_words_end t_words_first t_words_now t_words_total)
      else
        (xf_mr_readHead t_words_begin t_words_digits t_words_end t_words_first t_words_page_length t_words_page_signs t_words_total n t_model_lines t_model_name t_model_number t_model_order t_model_rows t_model_size t_words_now).bind fun q167 =>
        if q167.1 = (Int32.ofNat 0) then
          (xf_mr_readAll_59 t_words_page_length t_words_page_signs n t_model_items q167.2.1 q167.2.2.1 q167.2.2.2.1 q167.2.2.2.2.1 q167.2.2.2.2.2.1 q167.2.2.2.2.2.2.1 t_model_sort t_model_start t_model_used t_model_value t_words_begin t_words_digits t_words_end t_words_first q167.2.2.2.2.2.2.2 t_words_total)
        else
          (xf_mr_readArguments q167.2.2.2.2.2.1 t_words_begin t_words_digits t_words_end t_words_first t_words_page_length t_words_page_signs t_words_total n t_model_items q167.2.2.2.2.2.2.1 t_model_sort t_model_start t_model_used t_model_value q167.2.2.2.2.2.2.2).bind fun q286 =>
          if q286.1 = (Int32.ofNat 0) then
            (xf_mr_readAll_59 t_words_page_length t_words_page_signs n q286.2.1 q167.2.1 q167.2.2.1 q167.2.2.2.1 q167.2.2.2.2.1 q167.2.2.2.2.2.1 q286.2.2.1 q286.2.2.2.1 q286.2.2.2.2.1 q286.2.2.2.2.2.1 q286.2.2.2.2.2.2.1 t_words_begin t_words_digits t_words_end t_words_first q286.2.2.2.2.2.2.2 t_words_total)
          else
            (xf_wd_takes t_words_first t_words_total q286.2.2.2.2.2.2.2 (Int32.ofNat 59)).bind fun q288 =>
            if q288.1 = (Int32.ofNat 0) then
              (xf_mr_readAll_59 t_words_page_length t_words_page_signs n q286.2.1 q167.2.1 q167.2.2.1 q167.2.2.2.1 q167.2.2.2.2.1 q167.2.2.2.2.2.1 q286.2.2.1 q286.2.2.2.1 q286.2.2.2.2.1 q286.2.2.2.2.2.1 q286.2.2.2.2.2.2.1 t_words_begin t_words_digits t_words_end t_words_first q288.2 t_words_total)
            else
              (xf_mr_readAll_17 t_words_page_length t_words_page_signs n N) q286.2.1 q167.2.1 q167.2.2.1 q167.2.2.2.1 q167.2.2.2.2.1 q167.2.2.2.2.2.1 q286.2.2.1 q286.2.2.2.1 q286.2.2.2.2.1 q286.2.2.2.2.2.1 q286.2.2.2.2.2.2.1 t_words_begin t_words_digits t_words_end t_words_first q288.2 t_words_total (v1 + (Int32.ofNat 1))) := rfl
theorem xf_mr_readAll_s (t_words_page_length : Int32) (t_words_page_signs : (Nat → Int32)) (n : Nat) (t_model_items : (Nat → Int32)) (t_model_lines : Int32) (t_model_name : (Nat → Int64)) (t_model_number : (Nat → Int32)) (t_model_order : (Nat → Int32)) (t_model_rows : Int32) (t_model_size : (Nat → Int32)) (t_model_sort : (Nat → Int32)) (t_model_start : (Nat → Int32)) (t_model_used : Int32) (t_model_value : (Nat → Int32)) (t_words_begin : (Nat → Int32)) (t_words_digits : (Nat → Int32)) (t_words_end : (Nat → Int32)) (t_words_first : (Nat → Int32)) (t_words_now : Int32) (t_words_total : Int32) : xf_mr_readAll t_words_page_length t_words_page_signs n t_model_items t_model_lines t_model_name t_model_number t_model_order t_model_rows t_model_size t_model_sort t_model_start t_model_used t_model_value t_words_begin t_words_digits t_words_end t_words_first t_words_now t_words_total = (
  (xf_md_clear t_model_lines t_model_rows t_model_used).bind fun q123 =>
  (xf_wd_split t_words_page_length t_words_page_signs n t_words_begin t_words_digits t_words_end t_words_first t_words_now t_words_total (Int32.ofNat 0)).bind fun q124 =>
  xf_mr_readAll_17 t_words_page_length t_words_page_signs n n t_model_items q123.2.1 t_model_name t_model_number t_model_order q123.2.2.1 t_model_size t_model_sort t_model_start q123.2.2.2 t_model_value q124.2.1 q124.2.2.1 q124.2.2.2.1 q124.2.2.2.2.1 q124.2.2.2.2.2.1 q124.2.2.2.2.2.2 (Int32.ofNat 0)) := rfl
theorem xf_md_isLost_29_s (t_items : (Nat → Int32)) (t_lines : Int32) (t_number : (Nat → Int32)) (t_order : (Nat → Int32)) (t_sort : (Nat → Int32)) (t_start : (Nat → Int32)) (t_used : Int32) (t_value : (Nat → Int32)) (n : Nat) (s0 : Int32) : xf_md_isLost_29 t_items t_lines t_number t_order t_sort t_start t_used t_value n s0 = (
  if fits .boolean (.int s0) = true then some s0 else none) := rfl
theorem xf_md_itemAt_31_s (t_items : (Nat → Int32)) (t_start : (Nat → Int32)) (t_used : Int32) (s0 : Int32) : xf_md_itemAt_31 t_items t_start t_used s0 = (
  some s0) := rfl
theorem xf_md_itemAt_30_s (t_items : (Nat → Int32)) (t_start : (Nat → Int32)) (t_used : Int32) : xf_md_itemAt_30 t_items t_start t_used = (
  xf_md_itemAt_31 t_items t_start t_used (Int32.ofNat 0)) := rfl
theorem xf_md_itemAt_s (t_items : (Nat → Int32)) (t_start : (Nat → Int32)) (t_used : Int32) (a1 : Int32) (a2 : Int32) : xf_md_itemAt t_items t_start t_used a1 a2 = (
  if xr_in a1 320 = true then
    (if ((t_start a1.toNatClampNeg) + a2) < (Int32.ofNat 0) then
      (xf_md_itemAt_30 t_items t_start t_used)
    else
      if ((t_start a1.toNatClampNeg) + a2) < t_used then
        (if xr_in ((t_start a1.toNatClampNeg) + a2) 1200 = true then
          (xf_md_itemAt_31 t_items t_start t_used (t_items ((t_start a1.toNatClampNeg) + a2).toNatClampNeg))
        else none)
      else
        xf_md_itemAt_30 t_items t_start t_used)
  else none) := rfl
theorem xf_md_isLost_74_s (t_items : (Nat → Int32)) (t_lines : Int32) (t_number : (Nat → Int32)) (t_order : (Nat → Int32)) (t_sort : (Nat → Int32)) (t_start : (Nat → Int32)) (t_used : Int32) (t_value : (Nat → Int32)) (n : Nat) : xf_md_isLost_74 t_items t_lines t_number t_order t_sort t_start t_used t_value n = (
  some (Int32.ofNat 0)) := rfl
theorem xf_md_isLost_42_s (t_items : (Nat → Int32)) (t_lines : Int32) (t_number : (Nat → Int32)) (t_order : (Nat → Int32)) (t_sort : (Nat → Int32)) (t_start : (Nat → Int32)) (t_used : Int32) (t_value : (Nat → Int32)) (n : Nat) (N : Nat) (v1 : Int32) (v2 : Int32) : xf_md_isLost_42 t_items t_lines t_number t_order t_sort t_start t_used t_value n (N + 1) v1 v2 = (
    if xr_in v1 320 = true then
      (if v2 < (t_value v1.toNatClampNeg) then
        ((xf_md_itemAt t_items t_start t_used v1 v2).bind fun q310 =>
        (xf_md_rowOf t_lines t_number t_order n q310).bind fun q311 =>
        if q311 = (-1 : Int32) then
          (some (Int32.ofNat 1))
        else
          (xf_md_isLost_42 t_items t_lines t_number t_order t_sort t_start t_used t_value n N) v1 (v2 + (Int32.ofNat 1)))
      else
        xf_md_isLost_74 t_items t_lines t_number t_order t_sort t_start t_used t_value n)
    else none) := rfl
theorem xf_md_isLost_s (t_items : (Nat → Int32)) (t_lines : Int32) (t_number : (Nat → Int32)) (t_order : (Nat → Int32)) (t_sort : (Nat → Int32)) (t_start : (Nat → Int32)) (t_used : Int32) (t_value : (Nat → Int32)) (n : Nat) (a1 : Int32) : xf_md_isLost t_items t_lines t_number t_order t_sort t_start t_used t_value n a1 = (
  if xr_in a1 320 = true then
    (if (t_sort a1.toNatClampNeg) = (Int32.ofNat 2) then
      (if xr_in a1 320 = true then
        ((xf_md_rowOf t_lines t_number t_order n (t_value a1.toNatClampNeg)).bind fun q299 =>
        if q299 = (-1 : Int32) then
          (xf_md_isLost_29 t_items t_lines t_number t_order t_sort t_start t_used t_value n (Int32.ofNat 1))
        else
          xf_md_isLost_29 t_items t_lines t_number t_order t_sort t_start t_used t_value n (Int32.ofNat 0))
      else none)
    else
      if xr_in a1 320 = true then
        (if (t_sort a1.toNatClampNeg) = (Int32.ofNat 4) then
          (xf_md_isLost_42 t_items t_lines t_number t_order t_sort t_start t_used t_value n n a1 (Int32.ofNat 0))
        else
          xf_md_isLost_74 t_items t_lines t_number t_order t_sort t_start t_used t_value n)
      else none)
  else none) := rfl
theorem xf_md_firstLost_12_s (t_items : (Nat → Int32)) (t_lines : Int32) (t_number : (Nat → Int32)) (t_order : (Nat → Int32)) (t_rows : Int32) (t_size : (Nat → Int32)) (t_sort : (Nat → Int32)) (t_start : (Nat → Int32)) (t_used : Int32) (t_value : (Nat → Int32)) (k2 : Int32 → Option (Int32)) (n : Nat) (N : Nat) (v1 : Int32) (v2 : Int32) : xf_md_firstLost_12 t_items t_lines t_number t_order t_rows t_size t_sort t_start t_used t_value k2 n (N + 1) v1 v2 = (
    if xr_in v1 40 = true then
      (if v2 < (t_size v1.toNatClampNeg) then
        ((xf_md_isLost t_items t_lines t_number t_order t_sort t_start t_used t_value n ((v1 * (Int32.ofNat 8)) + v2)).bind fun q313 =>
        if q313 = (Int32.ofNat 0) then
          ((xf_md_firstLost_12 t_items t_lines t_number t_order t_rows t_size t_sort t_start t_used t_value k2 n N) v1 (v2 + (Int32.ofNat 1)))
        else
          if xr_in v1 40 = true then
            (some (t_number v1.toNatClampNeg))
          else none)
      else
        k2 (v1 + (Int32.ofNat 1)))
    else none) := rfl
theorem xf_md_firstLost_2_s (t_items : (Nat → Int32)) (t_lines : Int32) (t_number : (Nat → Int32)) (t_order : (Nat → Int32)) (t_rows : Int32) (t_size : (Nat → Int32)) (t_sort : (Nat → Int32)) (t_start : (Nat → Int32)) (t_used : Int32) (t_value : (Nat → Int32)) (n : Nat) (N : Nat) (v1 : Int32) : xf_md_firstLost_2 t_items t_lines t_number t_order t_rows t_size t_sort t_start t_used t_value n (N + 1) v1 = (
    if v1 < t_rows then
      (xf_md_firstLost_12 t_items t_lines t_number t_order t_rows t_size t_sort t_start t_used t_value (xf_md_firstLost_2 t_items t_lines t_number t_order t_rows t_size t_sort t_start t_used t_value n N) n n v1 (Int32.ofNat 0))
    else
      some (-1 : Int32)) := rfl
theorem xf_md_firstLost_s (t_items : (Nat → Int32)) (t_lines : Int32) (t_number : (Nat → Int32)) (t_order : (Nat → Int32)) (t_rows : Int32) (t_size : (Nat → Int32)) (t_sort : (Nat → Int32)) (t_start : (Nat → Int32)) (t_used : Int32) (t_value : (Nat → Int32)) (n : Nat) : xf_md_firstLost t_items t_lines t_number t_order t_rows t_size t_sort t_start t_used t_value n = (
  xf_md_firstLost_2 t_items t_lines t_number t_order t_rows t_size t_sort t_start t_used t_value n n (Int32.ofNat 0)) := rfl
theorem xf_md_copyFrom_s (p1_items : (Nat → Int32)) (p1_lines : Int32) (p1_name : (Nat → Int64)) (p1_number : (Nat → Int32)) (p1_order : (Nat → Int32)) (p1_rows : Int32) (p1_size : (Nat → Int32)) (p1_sort : (Nat → Int32)) (p1_start : (Nat → Int32)) (p1_used : Int32) (p1_value : (Nat → Int32)) (t_items : (Nat → Int32)) (t_lines : Int32) (t_name : (Nat → Int64)) (t_number : (Nat → Int32)) (t_order : (Nat → Int32)) (t_rows : Int32) (t_size : (Nat → Int32)) (t_sort : (Nat → Int32)) (t_start : (Nat → Int32)) (t_used : Int32) (t_value : (Nat → Int32)) : xf_md_copyFrom p1_items p1_lines p1_name p1_number p1_order p1_rows p1_size p1_sort p1_start p1_used p1_value t_items t_lines t_name t_number t_order t_rows t_size t_sort t_start t_used t_value = (
  if xr_cg (Int32.ofNat 0) (Int32.ofNat 0) p1_rows 40 40 then
    (if xr_cg (Int32.ofNat 0) (Int32.ofNat 0) p1_rows 40 40 then
      (if xr_cg (Int32.ofNat 0) (Int32.ofNat 0) p1_rows 40 40 then
        (if xr_cg (Int32.ofNat 0) (Int32.ofNat 0) p1_lines 40 40 then
          (if xr_cg (Int32.ofNat 0) (Int32.ofNat 0) (p1_rows * (Int32.ofNat 8)) 320 320 then
            (if xr_cg (Int32.ofNat 0) (Int32.ofNat 0) (p1_rows * (Int32.ofNat 8)) 320 320 then
              (if xr_cg (Int32.ofNat 0) (Int32.ofNat 0) (p1_rows * (Int32.ofNat 8)) 320 320 then
                (if xr_cg (Int32.ofNat 0) (Int32.ofNat 0) p1_used 1200 1200 then
                  (some ((), va_cpy p1_items t_items (Int32.ofNat 0).toNatClampNeg (Int32.ofNat 0).toNatClampNeg p1_used.toNatClampNeg, p1_lines, va_cpy p1_name t_name (Int32.ofNat 0).toNatClampNeg (Int32.ofNat 0).toNatClampNeg p1_rows.toNatClampNeg, va_cpy p1_number t_number (Int32.ofNat 0).toNatClampNeg (Int32.ofNat 0).toNatClampNeg p1_rows.toNatClampNeg, va_cpy p1_order t_order (Int32.ofNat 0).toNatClampNeg (Int32.ofNat 0).toNatClampNeg p1_lines.toNatClampNeg, p1_rows, va_cpy p1_size t_size (Int32.ofNat 0).toNatClampNeg (Int32.ofNat 0).toNatClampNeg p1_rows.toNatClampNeg, va_cpy p1_sort t_sort (Int32.ofNat 0).toNatClampNeg (Int32.ofNat 0).toNatClampNeg (p1_rows * (Int32.ofNat 8)).toNatClampNeg, va_cpy p1_start t_start (Int32.ofNat 0).toNatClampNeg (Int32.ofNat 0).toNatClampNeg (p1_rows * (Int32.ofNat 8)).toNatClampNeg, p1_used, va_cpy p1_value t_value (Int32.ofNat 0).toNatClampNeg (Int32.ofNat 0).toNatClampNeg (p1_rows * (Int32.ofNat 8)).toNatClampNeg))
                else none)
              else none)
            else none)
          else none)
        else none)
      else none)
    else none)
  else none) := rfl
theorem xf_md_rowAt_22_s (t_lines : Int32) (t_order : (Nat → Int32)) (s0 : Int32) : xf_md_rowAt_22 t_lines t_order s0 = (
  some s0) := rfl
theorem xf_md_rowAt_21_s (t_lines : Int32) (t_order : (Nat → Int32)) : xf_md_rowAt_21 t_lines t_order = (
  xf_md_rowAt_22 t_lines t_order (-1 : Int32)) := rfl
theorem xf_md_rowAt_s (t_lines : Int32) (t_order : (Nat → Int32)) (a1 : Int32) : xf_md_rowAt t_lines t_order a1 = (
  if a1 < (Int32.ofNat 0) then
    (xf_md_rowAt_21 t_lines t_order)
  else
    if a1 < t_lines then
      (if xr_in a1 40 = true then
        (xf_md_rowAt_22 t_lines t_order (t_order a1.toNatClampNeg))
      else none)
    else
      xf_md_rowAt_21 t_lines t_order) := rfl
theorem xf_gr_bitOf_21_s (t_model_lines : Int32) (t_model_number : (Nat → Int32)) (t_model_order : (Nat → Int32)) (n : Nat) (s0 : Int64) : xf_gr_bitOf_21 t_model_lines t_model_number t_model_order n s0 = (
  some s0) := rfl
theorem xf_gr_bitOf_s (t_model_lines : Int32) (t_model_number : (Nat → Int32)) (t_model_order : (Nat → Int32)) (n : Nat) (a1 : Int32) : xf_gr_bitOf t_model_lines t_model_number t_model_order n a1 = (
  (xf_md_rowOf t_model_lines t_model_number t_model_order n a1).bind fun q342 =>
  if q342 = (-1 : Int32) then
    (xf_gr_bitOf_21 t_model_lines t_model_number t_model_order n ((0 : Int64)))
  else
    xf_gr_bitOf_21 t_model_lines t_model_number t_model_order n (xe_shl ((1 : Int64)) q342)) := rfl
theorem xf_gr_bitsOf_118_s (t_model_items : (Nat → Int32)) (t_model_lines : Int32) (t_model_number : (Nat → Int32)) (t_model_order : (Nat → Int32)) (t_model_size : (Nat → Int32)) (t_model_sort : (Nat → Int32)) (t_model_start : (Nat → Int32)) (t_model_used : Int32) (t_model_value : (Nat → Int32)) (k5 : Int32 → Int64 → Int32 → Option (Int64)) (n : Nat) (v1 : Int32) (v2 : Int64) (v4 : Int32) : xf_gr_bitsOf_118 t_model_items t_model_lines t_model_number t_model_order t_model_size t_model_sort t_model_start t_model_used t_model_value k5 n v1 v2 v4 = (
  k5 v1 v2 (v4 + (Int32.ofNat 1))) := rfl
theorem xf_gr_bitsOf_79_s (t_model_items : (Nat → Int32)) (t_model_lines : Int32) (t_model_number : (Nat → Int32)) (t_model_order : (Nat → Int32)) (t_model_size : (Nat → Int32)) (t_model_sort : (Nat → Int32)) (t_model_start : (Nat → Int32)) (t_model_used : Int32) (t_model_value : (Nat → Int32)) (k5 : Int32 → Int64 → Int32 → Option (Int64)) (n : Nat) (N : Nat) (v1 : Int32) (v2 : Int64) (v4 : Int32) (v5 : Int32) (v6 : Int32) : xf_gr_bitsOf_79 t_model_items t_model_lines t_model_number t_model_order t_model_size t_model_sort t_model_start t_model_used t_model_value k5 n (N + 1) v1 v2 v4 v5 v6 = (
    if xr_in v5 320 = true then
      (if v6 < (t_model_value v5.toNatClampNeg) then
        ((xf_md_itemAt t_model_items t_model_start t_model_used v5 v6).bind fun q353 =>
        (xf_gr_bitOf t_model_lines t_model_number t_model_order n q353).bind fun q354 =>
        (xf_gr_bitsOf_79 t_model_items t_model_lines t_model_number t_model_order t_model_size t_model_sort t_model_start t_model_used t_model_value k5 n N) v1 (v2 ||| q354) v4 v5 (v6 + (Int32.ofNat 1)))
      else
        xf_gr_bitsOf_118 t_model_items t_model_lines t_model_number t_model_order t_model_size t_model_sort t_model_start t_model_used t_model_value k5 n v1 v2 v4)
    else none) := rfl
theorem xf_gr_bitsOf_5_s (t_model_items : (Nat → Int32)) (t_model_lines : Int32) (t_model_number : (Nat → Int32)) (t_model_order : (Nat → Int32)) (t_model_size : (Nat → Int32)) (t_model_sort : (Nat → Int32)) (t_model_start : (Nat → Int32)) (t_model_used : Int32) (t_model_value : (Nat → Int32)) (n : Nat) (N : Nat) (v1 : Int32) (v2 : Int64) (v4 : Int32) : xf_gr_bitsOf_5 t_model_items t_model_lines t_model_number t_model_order t_model_size t_model_sort t_model_start t_model_used t_model_value n (N + 1) v1 v2 v4 = (
    if xr_in v1 40 = true then
      (if v4 < (t_model_size v1.toNatClampNeg) then
        (if xr_in ((v1 * (Int32.ofNat 8)) + v4) 320 = true then
          (if (t_model_sort ((v1 * (Int32.ofNat 8)) + v4).toNatClampNeg) = (Int32.ofNat 2) then
            (if xr_in ((v1 * (Int32.ofNat 8)) + v4) 320 = true then
              ((xf_gr_bitOf t_model_lines t_model_number t_model_order n (t_model_value ((v1 * (Int32.ofNat 8)) + v4).toNatClampNeg)).bind fun q344 =>
              xf_gr_bitsOf_118 t_model_items t_model_lines t_model_number t_model_order t_model_size t_model_sort t_model_start t_model_used t_model_value (xf_gr_bitsOf_5 t_model_items t_model_lines t_model_number t_model_order t_model_size t_model_sort t_model_start t_model_used t_model_value n N) n v1 (v2 ||| q344) v4)
            else none)
          else
            if xr_in ((v1 * (Int32.ofNat 8)) + v4) 320 = true then
              (if (t_model_sort ((v1 * (Int32.ofNat 8)) + v4).toNatClampNeg) = (Int32.ofNat 4) then
                (xf_gr_bitsOf_79 t_model_items t_model_lines t_model_number t_model_order t_model_size t_model_sort t_model_start t_model_used t_model_value (xf_gr_bitsOf_5 t_model_items t_model_lines t_model_number t_model_order t_model_size t_model_sort t_model_start t_model_used t_model_value n N) n n v1 v2 v4 ((v1 * (Int32.ofNat 8)) + v4) (Int32.ofNat 0))
              else
                xf_gr_bitsOf_118 t_model_items t_model_lines t_model_number t_model_order t_model_size t_model_sort t_model_start t_model_used t_model_value (xf_gr_bitsOf_5 t_model_items t_model_lines t_model_number t_model_order t_model_size t_model_sort t_model_start t_model_used t_model_value n N) n v1 v2 v4)
            else none)
        else none)
      else
        some v2)
    else none) := rfl
theorem xf_gr_bitsOf_s (t_model_items : (Nat → Int32)) (t_model_lines : Int32) (t_model_number : (Nat → Int32)) (t_model_order : (Nat → Int32)) (t_model_size : (Nat → Int32)) (t_model_sort : (Nat → Int32)) (t_model_start : (Nat → Int32)) (t_model_used : Int32) (t_model_value : (Nat → Int32)) (n : Nat) (a1 : Int32) : xf_gr_bitsOf t_model_items t_model_lines t_model_number t_model_order t_model_size t_model_sort t_model_start t_model_used t_model_value n a1 = (
  xf_gr_bitsOf_5 t_model_items t_model_lines t_model_number t_model_order t_model_size t_model_sort t_model_start t_model_used t_model_value n n a1 ((0 : Int64)) (Int32.ofNat 0)) := rfl
theorem xf_gr_reachFurther_77_s (t_model_lines : Int32) (t_model_order : (Nat → Int32)) (k2 : (Nat → Int64) → Int32 → Option (Unit × (Nat → Int64))) (k24 : (Nat → Int64) → Int32 → Int32 → Int32 → Option (Unit × (Nat → Int64))) (n : Nat) (t_reach : (Nat → Int64)) (v1 : Int32) (v2 : Int32) (v3 : Int32) : xf_gr_reachFurther_77 t_model_lines t_model_order k2 k24 n t_reach v1 v2 v3 = (
  k24 t_reach v1 v2 (v3 + (Int32.ofNat 1))) := rfl
theorem xf_gr_reachFurther_24_s (t_model_lines : Int32) (t_model_order : (Nat → Int32)) (k2 : (Nat → Int64) → Int32 → Option (Unit × (Nat → Int64))) (n : Nat) (N : Nat) (t_reach : (Nat → Int64)) (v1 : Int32) (v2 : Int32) (v3 : Int32) : xf_gr_reachFurther_24 t_model_lines t_model_order k2 n (N + 1) t_reach v1 v2 v3 = (
    if v3 < t_model_lines then
      ((xf_md_rowAt t_model_lines t_model_order v3).bind fun q363 =>
      if xr_in q363 40 = true then
        (if (lg_cmp ((xe_ushr (t_reach q363.toNatClampNeg) v2) &&& ((1 : Int64))) ((0 : Int64))) = (Int32.ofNat 0) then
          (xf_gr_reachFurther_77 t_model_lines t_model_order k2 (xf_gr_reachFurther_24 t_model_lines t_model_order k2 n N) n t_reach v1 v2 v3)
        else
          if xr_in q363 40 = true then
            (if xr_in v2 40 = true then
              (if xr_in q363 40 = true then
                (xf_gr_reachFurther_77 t_model_lines t_model_order k2 (xf_gr_reachFurther_24 t_model_lines t_model_order k2 n N) n (vp_updL t_reach q363.toNatClampNeg (((t_reach q363.toNatClampNeg) ||| (t_reach v2.toNatClampNeg)))) v1 v2 v3)
              else none)
            else none)
          else none)
      else none)
    else
      k2 t_reach (v1 + (Int32.ofNat 1))) := rfl
theorem xf_gr_reachFurther_2_s (t_model_lines : Int32) (t_model_order : (Nat → Int32)) (n : Nat) (N : Nat) (t_reach : (Nat → Int64)) (v1 : Int32) : xf_gr_reachFurther_2 t_model_lines t_model_order n (N + 1) t_reach v1 = (
    if v1 < t_model_lines then
      ((xf_md_rowAt t_model_lines t_model_order v1).bind fun q361 =>
      xf_gr_reachFurther_24 t_model_lines t_model_order (xf_gr_reachFurther_2 t_model_lines t_model_order n N) n n t_reach v1 q361 (Int32.ofNat 0))
    else
      some ((), t_reach)) := rfl
theorem xf_gr_reachFurther_s (t_model_lines : Int32) (t_model_order : (Nat → Int32)) (n : Nat) (t_reach : (Nat → Int64)) : xf_gr_reachFurther t_model_lines t_model_order n t_reach = (
  xf_gr_reachFurther_2 t_model_lines t_model_order n n t_reach (Int32.ofNat 0)) := rfl
theorem xf_gr_measureDepths_116_s (t_direct : (Nat → Int64)) (t_model_lines : Int32) (t_model_order : (Nat → Int32)) (n : Nat) (t_depth : (Nat → Int32)) : xf_gr_measureDepths_116 t_direct t_model_lines t_model_order n t_depth = (
  some ((), t_depth)) := rfl
theorem xf_gr_deepestOf_35_s (t_depth : (Nat → Int32)) (k5 : Int64 → Int32 → Int32 → Option (Int32)) (n : Nat) (v1 : Int64) (v3 : Int32) (v4 : Int32) : xf_gr_deepestOf_35 t_depth k5 n v1 v3 v4 = (
  k5 v1 v3 (v4 + (Int32.ofNat 1))) := rfl
theorem xf_gr_deepestOf_5_s (t_depth : (Nat → Int32)) (n : Nat) (N : Nat) (v1 : Int64) (v3 : Int32) (v4 : Int32) : xf_gr_deepestOf_5 t_depth n (N + 1) v1 v3 v4 = (
    if v4 < (Int32.ofNat 40) then
      (if (lg_cmp ((xe_ushr v1 v4) &&& ((1 : Int64))) ((0 : Int64))) = (Int32.ofNat 0) then
        (xf_gr_deepestOf_35 t_depth (xf_gr_deepestOf_5 t_depth n N) n v1 v3 v4)
      else
        if xr_in v4 40 = true then
          (xf_gr_deepestOf_35 t_depth (xf_gr_deepestOf_5 t_depth n N) n v1 (xe_max v3 (t_depth v4.toNatClampNeg)) v4)
        else none)
    else
      some v3) := rfl
theorem xf_gr_deepestOf_s (t_depth : (Nat → Int32)) (n : Nat) (a1 : Int64) : xf_gr_deepestOf t_depth n a1 = (
  xf_gr_deepestOf_5 t_depth n n a1 (-1 : Int32) (Int32.ofNat 0)) := rfl
theorem xf_gr_measureDepths_104_s (t_direct : (Nat → Int64)) (t_model_lines : Int32) (t_model_order : (Nat → Int32)) (k7 : (Nat → Int32) → Int64 → Int32 → Int32 → Option (Unit × (Nat → Int32))) (k23 : (Nat → Int32) → Int64 → Int32 → Int32 → Int32 → Option (Unit × (Nat → Int32))) (n : Nat) (t_depth : (Nat → Int32)) (v1 : Int64) (v3 : Int32) (v4 : Int32) (v5 : Int32) : xf_gr_measureDepths_104 t_direct t_model_lines t_model_order k7 k23 n t_depth v1 v3 v4 v5 = (
  k23 t_depth v1 v3 v4 (v5 + (Int32.ofNat 1))) := rfl
theorem xf_gr_measureDepths_23_s (t_direct : (Nat → Int64)) (t_model_lines : Int32) (t_model_order : (Nat → Int32)) (k7 : (Nat → Int32) → Int64 → Int32 → Int32 → Option (Unit × (Nat → Int32))) (n : Nat) (N : Nat) (t_depth : (Nat → Int32)) (v1 : Int64) (v3 : Int32) (v4 : Int32) (v5 : Int32) : xf_gr_measureDepths_23 t_direct t_model_lines t_model_order k7 n (N + 1) t_depth v1 v3 v4 v5 = (
    if v5 < t_model_lines then
      ((xf_md_rowAt t_model_lines t_model_order v5).bind fun q373 =>
      if xr_in q373 40 = true then
        (if (t_depth q373.toNatClampNeg) = (-1 : Int32) then
          (if xr_in q373 40 = true then
            (if (lg_cmp ((t_direct q373.toNatClampNeg) &&& (v1 ^^^ ((-1 : Int64)))) ((0 : Int64))) = (Int32.ofNat 0) then
              (if xr_in q373 40 = true then
                ((xf_gr_deepestOf t_depth n (t_direct q373.toNatClampNeg)).bind fun q382 =>
                if xr_in q373 40 = true then
                  (xf_gr_measureDepths_104 t_direct t_model_lines t_model_order k7 (xf_gr_measureDepths_23 t_direct t_model_lines t_model_order k7 n N) n (upd t_depth q373.toNatClampNeg (((Int32.ofNat 1) + q382))) (v1 ||| (xe_shl ((1 : Int64)) q373)) (Int32.ofNat 1) v4 v5)
                else none)
              else none)
            else
              xf_gr_measureDepths_104 t_direct t_model_lines t_model_order k7 (xf_gr_measureDepths_23 t_direct t_model_lines t_model_order k7 n N) n t_depth v1 v3 v4 v5)
          else none)
        else
          xf_gr_measureDepths_104 t_direct t_model_lines t_model_order k7 (xf_gr_measureDepths_23 t_direct t_model_lines t_model_order k7 n N) n t_depth v1 v3 v4 v5)
      else none)
    else
      k7 t_depth v1 v3 (v4 + (Int32.ofNat 1))) := rfl
theorem xf_gr_measureDepths_7_s (t_direct : (Nat → Int64)) (t_model_lines : Int32) (t_model_order : (Nat → Int32)) (n : Nat) (N : Nat) (t_depth : (Nat → Int32)) (v1 : Int64) (v3 : Int32) (v4 : Int32) : xf_gr_measureDepths_7 t_direct t_model_lines t_model_order n (N + 1) t_depth v1 v3 v4 = (
    if v4 < (Int32.ofNat 40) then
      (if v3 = (Int32.ofNat 0) then
        (xf_gr_measureDepths_116 t_direct t_model_lines t_model_order n t_depth)
      else
        xf_gr_measureDepths_23 t_direct t_model_lines t_model_order (xf_gr_measureDepths_7 t_direct t_model_lines t_model_order n N) n n t_depth v1 (Int32.ofNat 0) v4 (Int32.ofNat 0))
    else
      xf_gr_measureDepths_116 t_direct t_model_lines t_model_order n t_depth) := rfl
theorem xf_gr_measureDepths_s (t_direct : (Nat → Int64)) (t_model_lines : Int32) (t_model_order : (Nat → Int32)) (n : Nat) (t_depth : (Nat → Int32)) : xf_gr_measureDepths t_direct t_model_lines t_model_order n t_depth = (
  xf_gr_measureDepths_7 t_direct t_model_lines t_model_order n n t_depth ((0 : Int64)) (Int32.ofNat 1) (Int32.ofNat 0)) := rfl
theorem xf_gr_learn_7_s (t_model_items : (Nat → Int32)) (t_model_lines : Int32) (t_model_number : (Nat → Int32)) (t_model_order : (Nat → Int32)) (t_model_size : (Nat → Int32)) (t_model_sort : (Nat → Int32)) (t_model_start : (Nat → Int32)) (t_model_used : Int32) (t_model_value : (Nat → Int32)) (n : Nat) (N : Nat) (t_depth : (Nat → Int32)) (t_direct : (Nat → Int64)) (t_grouped : Int32) (t_reach : (Nat → Int64)) (v1 : Int32) : xf_gr_learn_7 t_model_items t_model_lines t_model_number t_model_order t_model_size t_model_sort t_model_start t_model_used t_model_value n (N + 1) t_depth t_direct t_grouped t_reach v1 = (
    if v1 < t_model_lines then
      ((xf_md_rowAt t_model_lines t_model_order v1).bind fun q331 =>
      (xf_gr_bitsOf t_model_items t_model_lines t_model_number t_model_order t_model_size t_model_sort t_model_start t_model_used t_model_value n q331).bind fun q355 =>
      if xr_in q331 40 = true then
        (if xr_in q331 40 = true then
          (if xr_in q331 40 = true then
            (if xr_in q331 40 = true then
              ((xf_gr_learn_7 t_model_items t_model_lines t_model_number t_model_order t_model_size t_model_sort t_model_start t_model_used t_model_value n N) (upd t_depth q331.toNatClampNeg ((-1 : Int32))) (vp_updL t_direct q331.toNatClampNeg q355) t_grouped (vp_updL t_reach q331.toNatClampNeg (((vp_updL t_direct q331.toNatClampNeg q355) q331.toNatClampNeg))) (v1 + (Int32.ofNat 1)))
            else none)
          else none)
        else none)
      else none)
    else
      (xf_gr_reachFurther t_model_lines t_model_order n t_reach).bind fun q369 =>
      (xf_gr_measureDepths t_direct t_model_lines t_model_order n t_depth).bind fun q384 =>
      some ((), q384.2, t_direct, t_grouped, q369.2)) := rfl
theorem xf_gr_learn_s (t_model_items : (Nat → Int32)) (t_model_lines : Int32) (t_model_number : (Nat → Int32)) (t_model_order : (Nat → Int32)) (t_model_size : (Nat → Int32)) (t_model_sort : (Nat → Int32)) (t_model_start : (Nat → Int32)) (t_model_used : Int32) (t_model_value : (Nat → Int32)) (n : Nat) (t_depth : (Nat → Int32)) (t_direct : (Nat → Int64)) (t_grouped : Int32) (t_reach : (Nat → Int64)) : xf_gr_learn t_model_items t_model_lines t_model_number t_model_order t_model_size t_model_sort t_model_start t_model_used t_model_value n t_depth t_direct t_grouped t_reach = (
  xf_gr_learn_7 t_model_items t_model_lines t_model_number t_model_order t_model_size t_model_sort t_model_start t_model_used t_model_value n n t_depth t_direct (Int32.ofNat 0) t_reach (Int32.ofNat 0)) := rfl
theorem xf_xt_read_s (t_text_signs : (Nat → Int32)) (n : Nat) (t_graph_depth : (Nat → Int32)) (t_graph_direct : (Nat → Int64)) (t_graph_grouped : Int32) (t_graph_reach : (Nat → Int64)) (t_model_items : (Nat → Int32)) (t_model_lines : Int32) (t_model_name : (Nat → Int64)) (t_model_number : (Nat → Int32)) (t_model_order : (Nat → Int32)) (t_model_rows : Int32) (t_model_size : (Nat → Int32)) (t_model_sort : (Nat → Int32)) (t_model_start : (Nat → Int32)) (t_model_used : Int32) (t_model_value : (Nat → Int32)) (t_schemaReader_words_begin : (Nat → Int32)) (t_schemaReader_words_digits : (Nat → Int32)) (t_schemaReader_words_end : (Nat → Int32)) (t_schemaReader_words_first : (Nat → Int32)) (t_schemaReader_words_now : Int32) (t_schemaReader_words_total : Int32) (t_spareModel_items : (Nat → Int32)) (t_spareModel_lines : Int32) (t_spareModel_name : (Nat → Int64)) (t_spareModel_number : (Nat → Int32)) (t_spareModel_order : (Nat → Int32)) (t_spareModel_rows : Int32) (t_spareModel_size : (Nat → Int32)) (t_spareModel_sort : (Nat → Int32)) (t_spareModel_start : (Nat → Int32)) (t_spareModel_used : Int32) (t_spareModel_value : (Nat → Int32)) (t_text_full : Int32) (t_text_length : Int32) : xf_xt_read t_text_signs n t_graph_depth t_graph_direct t_graph_grouped t_graph_reach t_model_items t_model_lines t_model_name t_model_number t_model_order t_model_rows t_model_size t_model_sort t_model_start t_model_used t_model_value t_schemaReader_words_begin t_schemaReader_words_digits t_schemaReader_words_end t_schemaReader_words_first t_schemaReader_words_now t_schemaReader_words_total t_spareModel_items t_spareModel_lines t_spareModel_name t_spareModel_number t_spareModel_order t_spareModel_rows t_spareModel_size t_spareModel_sort t_spareModel_start t_spareModel_used t_spareModel_value t_text_full t_text_length = (
  (xf_mr_readAll t_text_length t_text_signs n t_spareModel_items t_spareModel_lines t_spareModel_name t_spareModel_number t_spareModel_order t_spareModel_rows t_spareModel_size t_spareModel_sort t_spareModel_start t_spareModel_used t_spareModel_value t_schemaReader_words_begin t_schemaReader_words_digits t_schemaReader_words_end t_schemaReader_words_first t_schemaReader_words_now t_schemaReader_words_total).bind fun q290 =>
  if q290.1 = (Int32.ofNat 0) then
    ((xf_wd_standsAt q290.2.2.2.2.2.2.2.2.2.2.2.2.1 q290.2.2.2.2.2.2.2.2.2.2.2.2.2.2.2.2.1 t_text_length q290.2.2.2.2.2.2.2.2.2.2.2.2.2.2.2.2.2).bind fun q292 =>
    some ((-1 : Int32) - q292, t_graph_depth, t_graph_direct, t_graph_grouped, t_graph_reach, t_model_items, t_model_lines, t_model_name, t_model_number, t_model_order, t_model_rows, t_model_size, t_model_sort, t_model_start, t_model_used, t_model_value, q290.2.2.2.2.2.2.2.2.2.2.2.2.1, q290.2.2.2.2.2.2.2.2.2.2.2.2.2.1, q290.2.2.2.2.2.2.2.2.2.2.2.2.2.2.1, q290.2.2.2.2.2.2.2.2.2.2.2.2.2.2.2.1, q290.2.2.2.2.2.2.2.2.2.2.2.2.2.2.2.2.1, q290.2.2.2.2.2.2.2.2.2.2.2.2.2.2.2.2.2, q290.2.1, q290.2.2.1, q290.2.2.2.1, q290.2.2.2.2.1, q290.2.2.2.2.2.1, q290.2.2.2.2.2.2.1, q290.2.2.2.2.2.2.2.1, q290.2.2.2.2.2.2.2.2.1, q290.2.2.2.2.2.2.2.2.2.1, q290.2.2.2.2.2.2.2.2.2.2.1, q290.2.2.2.2.2.2.2.2.2.2.2.1, t_text_full, t_text_length))
  else
    (xf_md_firstLost q290.2.1 q290.2.2.1 q290.2.2.2.2.1 q290.2.2.2.2.2.1 q290.2.2.2.2.2.2.1 q290.2.2.2.2.2.2.2.1 q290.2.2.2.2.2.2.2.2.1 q290.2.2.2.2.2.2.2.2.2.1 q290.2.2.2.2.2.2.2.2.2.2.1 q290.2.2.2.2.2.2.2.2.2.2.2.1 n).bind fun q316 =>
    if q316 = (-1 : Int32) then
      ((xf_md_copyFrom q290.2.1 q290.2.2.1 q290.2.2.2.1 q290.2.2.2.2.1 q290.2.2.2.2.2.1 q290.2.2.2.2.2.2.1 q290.2.2.2.2.2.2.2.1 q290.2.2.2.2.2.2.2.2.1 q290.2.2.2.2.2.2.2.2.2.1 q290.2.2.2.2.2.2.2.2.2.2.1 q290.2.2.2.2.2.2.2.2.2.2.2.1 t_model_items t_model_lines t_model_name t_model_number t_model_order t_model_rows t_model_size t_model_sort t_model_start t_model_used t_model_value).bind fun q326 =>
      (xf_gr_learn q326.2.1 q326.2.2.1 q326.2.2.2.2.1 q326.2.2.2.2.2.1 q326.2.2.2.2.2.2.2.1 q326.2.2.2.2.2.2.2.2.1 q326.2.2.2.2.2.2.2.2.2.1 q326.2.2.2.2.2.2.2.2.2.2.1 q326.2.2.2.2.2.2.2.2.2.2.2 n t_graph_depth t_graph_direct t_graph_grouped t_graph_reach).bind fun q385 =>
      (xf_pg_clear t_text_full t_text_length).bind fun q386 =>
      some (q326.2.2.1, q385.2.1, q385.2.2.1, q385.2.2.2.1, q385.2.2.2.2, q326.2.1, q326.2.2.1, q326.2.2.2.1, q326.2.2.2.2.1, q326.2.2.2.2.2.1, q326.2.2.2.2.2.2.1, q326.2.2.2.2.2.2.2.1, q326.2.2.2.2.2.2.2.2.1, q326.2.2.2.2.2.2.2.2.2.1, q326.2.2.2.2.2.2.2.2.2.2.1, q326.2.2.2.2.2.2.2.2.2.2.2, q290.2.2.2.2.2.2.2.2.2.2.2.2.1, q290.2.2.2.2.2.2.2.2.2.2.2.2.2.1, q290.2.2.2.2.2.2.2.2.2.2.2.2.2.2.1, q290.2.2.2.2.2.2.2.2.2.2.2.2.2.2.2.1, q290.2.2.2.2.2.2.2.2.2.2.2.2.2.2.2.2.1, q290.2.2.2.2.2.2.2.2.2.2.2.2.2.2.2.2.2, q290.2.1, q290.2.2.1, q290.2.2.2.1, q290.2.2.2.2.1, q290.2.2.2.2.2.1, q290.2.2.2.2.2.2.1, q290.2.2.2.2.2.2.2.1, q290.2.2.2.2.2.2.2.2.1, q290.2.2.2.2.2.2.2.2.2.1, q290.2.2.2.2.2.2.2.2.2.2.1, q290.2.2.2.2.2.2.2.2.2.2.2.1, q386.2.1, q386.2.2))
    else
      some ((-10000 : Int32) - q316, t_graph_depth, t_graph_direct, t_graph_grouped, t_graph_reach, t_model_items, t_model_lines, t_model_name, t_model_number, t_model_order, t_model_rows, t_model_size, t_model_sort, t_model_start, t_model_used, t_model_value, q290.2.2.2.2.2.2.2.2.2.2.2.2.1, q290.2.2.2.2.2.2.2.2.2.2.2.2.2.1, q290.2.2.2.2.2.2.2.2.2.2.2.2.2.2.1, q290.2.2.2.2.2.2.2.2.2.2.2.2.2.2.2.1, q290.2.2.2.2.2.2.2.2.2.2.2.2.2.2.2.2.1, q290.2.2.2.2.2.2.2.2.2.2.2.2.2.2.2.2.2, q290.2.1, q290.2.2.1, q290.2.2.2.1, q290.2.2.2.2.1, q290.2.2.2.2.2.1, q290.2.2.2.2.2.2.1, q290.2.2.2.2.2.2.2.1, q290.2.2.2.2.2.2.2.2.1, q290.2.2.2.2.2.2.2.2.2.1, q290.2.2.2.2.2.2.2.2.2.2.1, q290.2.2.2.2.2.2.2.2.2.2.2.1, t_text_full, t_text_length)) := rfl
theorem xf_pg_add_47_s (t_full : Int32) (t_length : Int32) (t_signs : (Nat → Int32)) : xf_pg_add_47 t_full t_length t_signs = (
  some ((), t_full, t_length, t_signs)) := rfl
theorem xf_pg_add_42_s (t_full : Int32) (t_length : Int32) (t_signs : (Nat → Int32)) : xf_pg_add_42 t_full t_length t_signs = (
  xf_pg_add_47 (Int32.ofNat 1) t_length t_signs) := rfl
theorem xf_pg_add_s (t_full : Int32) (t_length : Int32) (t_signs : (Nat → Int32)) (a1 : Int32) : xf_pg_add t_full t_length t_signs a1 = (
  if t_length < (Int32.ofNat 0) then
    (xf_pg_add_42 t_full t_length t_signs)
  else
    if t_length < (Int32.ofNat 1200) then
      (if xr_in t_length 1200 = true then
        (xf_pg_add_47 t_full (t_length + (Int32.ofNat 1)) (upd t_signs t_length.toNatClampNeg (vp_nar .char a1)))
      else none)
    else
      xf_pg_add_42 t_full t_length t_signs) := rfl
theorem xf_wr_writeNumber_76_s (k27 : Int32 → Int32 → (Nat → Int32) → Int32 → Int32 → Int32 → Option (Unit × Int32 × Int32 × (Nat → Int32))) (n : Nat) (p2_full : Int32) (p2_length : Int32) (p2_signs : (Nat → Int32)) (v2 : Int32) (v3 : Int32) (v4 : Int32) : xf_wr_writeNumber_76 k27 n p2_full p2_length p2_signs v2 v3 v4 = (
  if (Int32.ofNat 10) = (Int32.ofNat 0) then none else
  k27 p2_full p2_length p2_signs v2 v3 (v4 / (Int32.ofNat 10))) := rfl
theorem xf_wr_writeNumber_61_s (k27 : Int32 → Int32 → (Nat → Int32) → Int32 → Int32 → Int32 → Option (Unit × Int32 × Int32 × (Nat → Int32))) (n : Nat) (p2_full : Int32) (p2_length : Int32) (p2_signs : (Nat → Int32)) (v2 : Int32) (v4 : Int32) (v5 : Int32) (s0 : Int32) : xf_wr_writeNumber_61 k27 n p2_full p2_length p2_signs v2 v4 v5 s0 = (
  if s0 = (Int32.ofNat 0) then
    (xf_wr_writeNumber_76 k27 n p2_full p2_length p2_signs v2 s0 v4)
  else
    (xf_pg_add p2_full p2_length p2_signs (xe_i2c ((Int32.ofNat 48) + v5))).bind fun q406 =>
    xf_wr_writeNumber_76 k27 n q406.2.1 q406.2.2.1 q406.2.2.2 v2 s0 v4) := rfl
theorem xf_wr_writeNumber_56_s (k27 : Int32 → Int32 → (Nat → Int32) → Int32 → Int32 → Int32 → Option (Unit × Int32 × Int32 × (Nat → Int32))) (n : Nat) (p2_full : Int32) (p2_length : Int32) (p2_signs : (Nat → Int32)) (v2 : Int32) (v4 : Int32) (v5 : Int32) : xf_wr_writeNumber_56 k27 n p2_full p2_length p2_signs v2 v4 v5 = (
  xf_wr_writeNumber_61 k27 n p2_full p2_length p2_signs v2 v4 v5 (Int32.ofNat 1)) := rfl
theorem xf_wr_writeNumber_27_s (n : Nat) (N : Nat) (p2_full : Int32) (p2_length : Int32) (p2_signs : (Nat → Int32)) (v2 : Int32) (v3 : Int32) (v4 : Int32) : xf_wr_writeNumber_27 n (N + 1) p2_full p2_length p2_signs v2 v3 v4 = (
    if (Int32.ofNat 0) < v4 then
      (if v4 = (Int32.ofNat 0) then none else
      if (Int32.ofNat 10) = (Int32.ofNat 0) then none else
      if v3 = (Int32.ofNat 0) then
        (if ((v2 / v4) - (v2 / v4) / (Int32.ofNat 10) * (Int32.ofNat 10)) = (Int32.ofNat 0) then
          (if v4 = (Int32.ofNat 1) then
            (xf_wr_writeNumber_56 (xf_wr_writeNumber_27 n N) n p2_full p2_length p2_signs v2 v4 ((v2 / v4) - (v2 / v4) / (Int32.ofNat 10) * (Int32.ofNat 10)))
          else
            xf_wr_writeNumber_61 (xf_wr_writeNumber_27 n N) n p2_full p2_length p2_signs v2 v4 ((v2 / v4) - (v2 / v4) / (Int32.ofNat 10) * (Int32.ofNat 10)) (Int32.ofNat 0))
        else
          xf_wr_writeNumber_56 (xf_wr_writeNumber_27 n N) n p2_full p2_length p2_signs v2 v4 ((v2 / v4) - (v2 / v4) / (Int32.ofNat 10) * (Int32.ofNat 10)))
      else
        xf_wr_writeNumber_56 (xf_wr_writeNumber_27 n N) n p2_full p2_length p2_signs v2 v4 ((v2 / v4) - (v2 / v4) / (Int32.ofNat 10) * (Int32.ofNat 10)))
    else
      some ((), p2_full, p2_length, p2_signs)) := rfl
theorem xf_wr_writeNumber_20_s (n : Nat) (p2_full : Int32) (p2_length : Int32) (p2_signs : (Nat → Int32)) (s0 : Int32) : xf_wr_writeNumber_20 n p2_full p2_length p2_signs s0 = (
  xf_wr_writeNumber_27 n n p2_full p2_length p2_signs s0 (Int32.ofNat 0) (Int32.ofNat 100000000)) := rfl
theorem xf_wr_writeNumber_10_s (n : Nat) (p2_full : Int32) (p2_length : Int32) (p2_signs : (Nat → Int32)) (v0 : Int32) : xf_wr_writeNumber_10 n p2_full p2_length p2_signs v0 = (
  if v0 < (Int32.ofNat 0) then
    (xf_wr_writeNumber_20 n p2_full p2_length p2_signs (-v0))
  else
    xf_wr_writeNumber_20 n p2_full p2_length p2_signs v0) := rfl
theorem xf_wr_writeNumber_s (n : Nat) (p2_full : Int32) (p2_length : Int32) (p2_signs : (Nat → Int32)) (a1 : Int32) : xf_wr_writeNumber n p2_full p2_length p2_signs a1 = (
  if a1 < (Int32.ofNat 0) then
    ((xf_pg_add p2_full p2_length p2_signs (Int32.ofNat 45)).bind fun q396 =>
    xf_wr_writeNumber_10 n q396.2.1 q396.2.2.1 q396.2.2.2 a1)
  else
    xf_wr_writeNumber_10 n p2_full p2_length p2_signs a1) := rfl
theorem xf_xt_byteOf_s (a1 : Int64) (a2 : Int32) : xf_xt_byteOf a1 a2 = (
  some (((xe_ushr a1 a2).toInt32) &&& (Int32.ofNat 255))) := rfl
theorem xf_pg_addBytes_26_s (k3 : Int32 → Int32 → (Nat → Int32) → Int64 → Int32 → Option (Unit × Int32 × Int32 × (Nat → Int32))) (n : Nat) (t_full : Int32) (t_length : Int32) (t_signs : (Nat → Int32)) (v1 : Int64) (v3 : Int32) : xf_pg_addBytes_26 k3 n t_full t_length t_signs v1 v3 = (
  k3 t_full t_length t_signs v1 (v3 + (-8 : Int32))) := rfl
theorem xf_pg_addBytes_3_s (n : Nat) (N : Nat) (t_full : Int32) (t_length : Int32) (t_signs : (Nat → Int32)) (v1 : Int64) (v3 : Int32) : xf_pg_addBytes_3 n (N + 1) t_full t_length t_signs v1 v3 = (
    if v3 < (Int32.ofNat 0) then
      (some ((), t_full, t_length, t_signs))
    else
      (xf_xt_byteOf v1 v3).bind fun q411 =>
      if q411 = (Int32.ofNat 0) then
        (xf_pg_addBytes_26 (xf_pg_addBytes_3 n N) n t_full t_length t_signs v1 v3)
      else
        (xf_pg_add t_full t_length t_signs (xe_i2c q411)).bind fun q413 =>
        xf_pg_addBytes_26 (xf_pg_addBytes_3 n N) n q413.2.1 q413.2.2.1 q413.2.2.2 v1 v3) := rfl
theorem xf_pg_addBytes_s (n : Nat) (t_full : Int32) (t_length : Int32) (t_signs : (Nat → Int32)) (a1 : Int64) : xf_pg_addBytes n t_full t_length t_signs a1 = (
  xf_pg_addBytes_3 n n t_full t_length t_signs a1 (Int32.ofNat 56)) := rfl
theorem xf_wr_writeArgument_117_s (p1_items : (Nat → Int32)) (p1_sort : (Nat → Int32)) (p1_start : (Nat → Int32)) (p1_used : Int32) (p1_value : (Nat → Int32)) (n : Nat) (p3_full : Int32) (p3_length : Int32) (p3_signs : (Nat → Int32)) : xf_wr_writeArgument_117 p1_items p1_sort p1_start p1_used p1_value n p3_full p3_length p3_signs = (
  some ((), p3_full, p3_length, p3_signs)) := rfl
theorem xf_md_itemsOf_32_s (t_sort : (Nat → Int32)) (t_value : (Nat → Int32)) (s0 : Int32) : xf_md_itemsOf_32 t_sort t_value s0 = (
  some s0) := rfl
theorem xf_md_itemsOf_22_s (t_sort : (Nat → Int32)) (t_value : (Nat → Int32)) : xf_md_itemsOf_22 t_sort t_value = (
  xf_md_itemsOf_32 t_sort t_value (Int32.ofNat 0)) := rfl
theorem xf_md_itemsOf_s (t_sort : (Nat → Int32)) (t_value : (Nat → Int32)) (a1 : Int32) : xf_md_itemsOf t_sort t_value a1 = (
  if xr_in a1 320 = true then
    (if (t_sort a1.toNatClampNeg) = (Int32.ofNat 0) then
      (xf_md_itemsOf_22 t_sort t_value)
    else
      if (t_sort a1.toNatClampNeg) = (Int32.ofNat 2) then
        (xf_md_itemsOf_22 t_sort t_value)
      else
        if (t_sort a1.toNatClampNeg) = (Int32.ofNat 6) then
          (xf_md_itemsOf_22 t_sort t_value)
        else
          if xr_in a1 320 = true then
            (xf_md_itemsOf_32 t_sort t_value (t_value a1.toNatClampNeg))
          else none)
  else none) := rfl
theorem xf_wr_writeSigns_46_s (p1_items : (Nat → Int32)) (p1_sort : (Nat → Int32)) (p1_start : (Nat → Int32)) (p1_used : Int32) (p1_value : (Nat → Int32)) (k8 : Int32 → Int32 → (Nat → Int32) → Int32 → Int32 → Int32 → Option (Unit × Int32 × Int32 × (Nat → Int32))) (n : Nat) (p4_full : Int32) (p4_length : Int32) (p4_signs : (Nat → Int32)) (v1 : Int32) (v2 : Int32) (v4 : Int32) : xf_wr_writeSigns_46 p1_items p1_sort p1_start p1_used p1_value k8 n p4_full p4_length p4_signs v1 v2 v4 = (
  k8 p4_full p4_length p4_signs v1 v2 (v4 + (Int32.ofNat 1))) := rfl
theorem xf_wr_writeSigns_8_s (p1_items : (Nat → Int32)) (p1_sort : (Nat → Int32)) (p1_start : (Nat → Int32)) (p1_used : Int32) (p1_value : (Nat → Int32)) (n : Nat) (N : Nat) (p4_full : Int32) (p4_length : Int32) (p4_signs : (Nat → Int32)) (v1 : Int32) (v2 : Int32) (v4 : Int32) : xf_wr_writeSigns_8 p1_items p1_sort p1_start p1_used p1_value n (N + 1) p4_full p4_length p4_signs v1 v2 v4 = (
    (xf_md_itemsOf p1_sort p1_value v1).bind fun q431 =>
    if v4 < q431 then
      ((xf_md_itemAt p1_items p1_start p1_used v1 v4).bind fun q433 =>
      (xf_pg_add p4_full p4_length p4_signs (xe_i2c q433)).bind fun q434 =>
      if (xe_i2c q433) = v2 then
        ((xf_pg_add q434.2.1 q434.2.2.1 q434.2.2.2 (xe_i2c q433)).bind fun q436 =>
        xf_wr_writeSigns_46 p1_items p1_sort p1_start p1_used p1_value (xf_wr_writeSigns_8 p1_items p1_sort p1_start p1_used p1_value n N) n q436.2.1 q436.2.2.1 q436.2.2.2 v1 v2 v4)
      else
        xf_wr_writeSigns_46 p1_items p1_sort p1_start p1_used p1_value (xf_wr_writeSigns_8 p1_items p1_sort p1_start p1_used p1_value n N) n q434.2.1 q434.2.2.1 q434.2.2.2 v1 v2 v4)
    else
      (xf_pg_add p4_full p4_length p4_signs v2).bind fun q437 =>
      some ((), q437.2.1, q437.2.2.1, q437.2.2.2)) := rfl
theorem xf_wr_writeSigns_s (p1_items : (Nat → Int32)) (p1_sort : (Nat → Int32)) (p1_start : (Nat → Int32)) (p1_used : Int32) (p1_value : (Nat → Int32)) (n : Nat) (p4_full : Int32) (p4_length : Int32) (p4_signs : (Nat → Int32)) (a2 : Int32) (a3 : Int32) : xf_wr_writeSigns p1_items p1_sort p1_start p1_used p1_value n p4_full p4_length p4_signs a2 a3 = (
  (xf_pg_add p4_full p4_length p4_signs a3).bind fun q425 =>
  xf_wr_writeSigns_8 p1_items p1_sort p1_start p1_used p1_value n n q425.2.1 q425.2.2.1 q425.2.2.2 a2 a3 (Int32.ofNat 0)) := rfl
theorem xf_wr_writeList_43_s (p1_items : (Nat → Int32)) (p1_sort : (Nat → Int32)) (p1_start : (Nat → Int32)) (p1_used : Int32) (p1_value : (Nat → Int32)) (k8 : Int32 → Int32 → (Nat → Int32) → Int32 → Int32 → Option (Unit × Int32 × Int32 × (Nat → Int32))) (n : Nat) (p3_full : Int32) (p3_length : Int32) (p3_signs : (Nat → Int32)) (v1 : Int32) (v3 : Int32) : xf_wr_writeList_43 p1_items p1_sort p1_start p1_used p1_value k8 n p3_full p3_length p3_signs v1 v3 = (
  (xf_md_itemAt p1_items p1_start p1_used v1 v3).bind fun q452 =>
  (xf_wr_writeNumber n p3_full p3_length p3_signs q452).bind fun q453 =>
  k8 q453.2.1 q453.2.2.1 q453.2.2.2 v1 (v3 + (Int32.ofNat 1))) := rfl
theorem xf_wr_writeList_27_s (p1_items : (Nat → Int32)) (p1_sort : (Nat → Int32)) (p1_start : (Nat → Int32)) (p1_used : Int32) (p1_value : (Nat → Int32)) (k8 : Int32 → Int32 → (Nat → Int32) → Int32 → Int32 → Option (Unit × Int32 × Int32 × (Nat → Int32))) (n : Nat) (p3_full : Int32) (p3_length : Int32) (p3_signs : (Nat → Int32)) (v1 : Int32) (v3 : Int32) : xf_wr_writeList_27 p1_items p1_sort p1_start p1_used p1_value k8 n p3_full p3_length p3_signs v1 v3 = (
  if xr_in v1 320 = true then
    (if (p1_sort v1.toNatClampNeg) = (Int32.ofNat 4) then
      ((xf_pg_add p3_full p3_length p3_signs (Int32.ofNat 35)).bind fun q451 =>
      xf_wr_writeList_43 p1_items p1_sort p1_start p1_used p1_value k8 n q451.2.1 q451.2.2.1 q451.2.2.2 v1 v3)
    else
      xf_wr_writeList_43 p1_items p1_sort p1_start p1_used p1_value k8 n p3_full p3_length p3_signs v1 v3)
  else none) := rfl
theorem xf_wr_writeList_8_s (p1_items : (Nat → Int32)) (p1_sort : (Nat → Int32)) (p1_start : (Nat → Int32)) (p1_used : Int32) (p1_value : (Nat → Int32)) (n : Nat) (N : Nat) (p3_full : Int32) (p3_length : Int32) (p3_signs : (Nat → Int32)) (v1 : Int32) (v3 : Int32) : xf_wr_writeList_8 p1_items p1_sort p1_start p1_used p1_value n (N + 1) p3_full p3_length p3_signs v1 v3 = (
    (xf_md_itemsOf p1_sort p1_value v1).bind fun q445 =>
    if v3 < q445 then
      (if (Int32.ofNat 0) < v3 then
        ((xf_pg_add p3_full p3_length p3_signs (Int32.ofNat 44)).bind fun q448 =>
        xf_wr_writeList_27 p1_items p1_sort p1_start p1_used p1_value (xf_wr_writeList_8 p1_items p1_sort p1_start p1_used p1_value n N) n q448.2.1 q448.2.2.1 q448.2.2.2 v1 v3)
      else
        xf_wr_writeList_27 p1_items p1_sort p1_start p1_used p1_value (xf_wr_writeList_8 p1_items p1_sort p1_start p1_used p1_value n N) n p3_full p3_length p3_signs v1 v3)
    else
      (xf_pg_add p3_full p3_length p3_signs (Int32.ofNat 41)).bind fun q454 =>
      some ((), q454.2.1, q454.2.2.1, q454.2.2.2)) := rfl
theorem xf_wr_writeList_s (p1_items : (Nat → Int32)) (p1_sort : (Nat → Int32)) (p1_start : (Nat → Int32)) (p1_used : Int32) (p1_value : (Nat → Int32)) (n : Nat) (p3_full : Int32) (p3_length : Int32) (p3_signs : (Nat → Int32)) (a2 : Int32) : xf_wr_writeList p1_items p1_sort p1_start p1_used p1_value n p3_full p3_length p3_signs a2 = (
  (xf_pg_add p3_full p3_length p3_signs (Int32.ofNat 40)).bind fun q444 =>
  xf_wr_writeList_8 p1_items p1_sort p1_start p1_used p1_value n n q444.2.1 q444.2.2.1 q444.2.2.2 a2 (Int32.ofNat 0)) := rfl
theorem xf_wr_writeArgument_111_s (p1_items : (Nat → Int32)) (p1_sort : (Nat → Int32)) (p1_start : (Nat → Int32)) (p1_used : Int32) (p1_value : (Nat → Int32)) (n : Nat) (p3_full : Int32) (p3_length : Int32) (p3_signs : (Nat → Int32)) (v1 : Int32) : xf_wr_writeArgument_111 p1_items p1_sort p1_start p1_used p1_value n p3_full p3_length p3_signs v1 = (
  (xf_wr_writeList p1_items p1_sort p1_start p1_used p1_value n p3_full p3_length p3_signs v1).bind fun q455 =>
  xf_wr_writeArgument_117 p1_items p1_sort p1_start p1_used p1_value n q455.2.1 q455.2.2.1 q455.2.2.2) := rfl
theorem xf_wr_writeArgument_s (p1_items : (Nat → Int32)) (p1_sort : (Nat → Int32)) (p1_start : (Nat → Int32)) (p1_used : Int32) (p1_value : (Nat → Int32)) (n : Nat) (p3_full : Int32) (p3_length : Int32) (p3_signs : (Nat → Int32)) (a2 : Int32) : xf_wr_writeArgument p1_items p1_sort p1_start p1_used p1_value n p3_full p3_length p3_signs a2 = (
  if xr_in a2 320 = true then
    (if (p1_sort a2.toNatClampNeg) = (Int32.ofNat 0) then
      (if xr_in a2 320 = true then
        ((xf_wr_writeNumber n p3_full p3_length p3_signs (p1_value a2.toNatClampNeg)).bind fun q423 =>
        xf_wr_writeArgument_117 p1_items p1_sort p1_start p1_used p1_value n q423.2.1 q423.2.2.1 q423.2.2.2)
      else none)
    else
      if (p1_sort a2.toNatClampNeg) = (Int32.ofNat 1) then
        ((xf_wr_writeSigns p1_items p1_sort p1_start p1_used p1_value n p3_full p3_length p3_signs a2 (Int32.ofNat 39)).bind fun q438 =>
        xf_wr_writeArgument_117 p1_items p1_sort p1_start p1_used p1_value n q438.2.1 q438.2.2.1 q438.2.2.2)
      else
        if (p1_sort a2.toNatClampNeg) = (Int32.ofNat 2) then
          ((xf_pg_add p3_full p3_length p3_signs (Int32.ofNat 35)).bind fun q440 =>
          if xr_in a2 320 = true then
            ((xf_wr_writeNumber n q440.2.1 q440.2.2.1 q440.2.2.2 (p1_value a2.toNatClampNeg)).bind fun q442 =>
            xf_wr_writeArgument_117 p1_items p1_sort p1_start p1_used p1_value n q442.2.1 q442.2.2.1 q442.2.2.2)
          else none)
        else
          if (p1_sort a2.toNatClampNeg) = (Int32.ofNat 3) then
            (xf_wr_writeArgument_111 p1_items p1_sort p1_start p1_used p1_value n p3_full p3_length p3_signs a2)
          else
            if (p1_sort a2.toNatClampNeg) = (Int32.ofNat 4) then
              (xf_wr_writeArgument_111 p1_items p1_sort p1_start p1_used p1_value n p3_full p3_length p3_signs a2)
            else
              if (p1_sort a2.toNatClampNeg) = (Int32.ofNat 5) then
                ((xf_wr_writeSigns p1_items p1_sort p1_start p1_used p1_value n p3_full p3_length p3_signs a2 (Int32.ofNat 46)).bind fun q458 =>
                xf_wr_writeArgument_117 p1_items p1_sort p1_start p1_used p1_value n q458.2.1 q458.2.2.1 q458.2.2.2)
              else
                if (p1_sort a2.toNatClampNeg) = (Int32.ofNat 6) then
                  ((xf_pg_add p3_full p3_length p3_signs (Int32.ofNat 36)).bind fun q460 =>
                  xf_wr_writeArgument_117 p1_items p1_sort p1_start p1_used p1_value n q460.2.1 q460.2.2.1 q460.2.2.2)
                else
                  xf_wr_writeArgument_111 p1_items p1_sort p1_start p1_used p1_value n p3_full p3_length p3_signs a2)
  else none) := rfl
theorem xf_wr_writeLine_60_s (p1_items : (Nat → Int32)) (p1_name : (Nat → Int64)) (p1_number : (Nat → Int32)) (p1_size : (Nat → Int32)) (p1_sort : (Nat → Int32)) (p1_start : (Nat → Int32)) (p1_used : Int32) (p1_value : (Nat → Int32)) (k40 : Int32 → Int32 → (Nat → Int32) → Int32 → Int32 → Option (Unit × Int32 × Int32 × (Nat → Int32))) (n : Nat) (p3_full : Int32) (p3_length : Int32) (p3_signs : (Nat → Int32)) (v1 : Int32) (v3 : Int32) : xf_wr_writeLine_60 p1_items p1_name p1_number p1_size p1_sort p1_start p1_used p1_value k40 n p3_full p3_length p3_signs v1 v3 = (
  (xf_wr_writeArgument p1_items p1_sort p1_start p1_used p1_value n p3_full p3_length p3_signs ((v1 * (Int32.ofNat 8)) + v3)).bind fun q461 =>
  k40 q461.2.1 q461.2.2.1 q461.2.2.2 v1 (v3 + (Int32.ofNat 1))) := rfl
theorem xf_wr_writeLine_40_s (p1_items : (Nat → Int32)) (p1_name : (Nat → Int64)) (p1_number : (Nat → Int32)) (p1_size : (Nat → Int32)) (p1_sort : (Nat → Int32)) (p1_start : (Nat → Int32)) (p1_used : Int32) (p1_value : (Nat → Int32)) (n : Nat) (N : Nat) (p3_full : Int32) (p3_length : Int32) (p3_signs : (Nat → Int32)) (v1 : Int32) (v3 : Int32) : xf_wr_writeLine_40 p1_items p1_name p1_number p1_size p1_sort p1_start p1_used p1_value n (N + 1) p3_full p3_length p3_signs v1 v3 = (
    if xr_in v1 40 = true then
      (if v3 < (p1_size v1.toNatClampNeg) then
        (if (Int32.ofNat 0) < v3 then
          ((xf_pg_add p3_full p3_length p3_signs (Int32.ofNat 44)).bind fun q419 =>
          xf_wr_writeLine_60 p1_items p1_name p1_number p1_size p1_sort p1_start p1_used p1_value (xf_wr_writeLine_40 p1_items p1_name p1_number p1_size p1_sort p1_start p1_used p1_value n N) n q419.2.1 q419.2.2.1 q419.2.2.2 v1 v3)
        else
          xf_wr_writeLine_60 p1_items p1_name p1_number p1_size p1_sort p1_start p1_used p1_value (xf_wr_writeLine_40 p1_items p1_name p1_number p1_size p1_sort p1_start p1_used p1_value n N) n p3_full p3_length p3_signs v1 v3)
      else
        (xf_pg_add p3_full p3_length p3_signs (Int32.ofNat 41)).bind fun q462 =>
        (xf_pg_add q462.2.1 q462.2.2.1 q462.2.2.2 (Int32.ofNat 59)).bind fun q463 =>
        some ((), q463.2.1, q463.2.2.1, q463.2.2.2))
    else none) := rfl
theorem xf_wr_writeLine_s (p1_items : (Nat → Int32)) (p1_name : (Nat → Int64)) (p1_number : (Nat → Int32)) (p1_size : (Nat → Int32)) (p1_sort : (Nat → Int32)) (p1_start : (Nat → Int32)) (p1_used : Int32) (p1_value : (Nat → Int32)) (n : Nat) (p3_full : Int32) (p3_length : Int32) (p3_signs : (Nat → Int32)) (a2 : Int32) : xf_wr_writeLine p1_items p1_name p1_number p1_size p1_sort p1_start p1_used p1_value n p3_full p3_length p3_signs a2 = (
  (xf_pg_add p3_full p3_length p3_signs (Int32.ofNat 35)).bind fun q393 =>
  if xr_in a2 40 = true then
    ((xf_wr_writeNumber n q393.2.1 q393.2.2.1 q393.2.2.2 (p1_number a2.toNatClampNeg)).bind fun q407 =>
    (xf_pg_add q407.2.1 q407.2.2.1 q407.2.2.2 (Int32.ofNat 61)).bind fun q408 =>
    if xr_in a2 40 = true then
      ((xf_pg_addBytes n q408.2.1 q408.2.2.1 q408.2.2.2 (p1_name a2.toNatClampNeg)).bind fun q414 =>
      (xf_pg_add q414.2.1 q414.2.2.1 q414.2.2.2 (Int32.ofNat 40)).bind fun q415 =>
      xf_wr_writeLine_40 p1_items p1_name p1_number p1_size p1_sort p1_start p1_used p1_value n n q415.2.1 q415.2.2.1 q415.2.2.2 a2 (Int32.ofNat 0))
    else none)
  else none) := rfl
theorem xf_pg_copyFrom_s (p1_full : Int32) (p1_length : Int32) (p1_signs : (Nat → Int32)) (t_full : Int32) (t_length : Int32) (t_signs : (Nat → Int32)) : xf_pg_copyFrom p1_full p1_length p1_signs t_full t_length t_signs = (
  if xr_cg (Int32.ofNat 0) (Int32.ofNat 0) p1_length 1200 1200 then
    (if ((List.range p1_length.toNatClampNeg).all fun i => fits .char (.int (p1_signs ((Int32.ofNat 0).toNatClampNeg + i)))) = true then
      (if fits .boolean (.int p1_full) = true then
        (some ((), p1_full, p1_length, va_cpy p1_signs t_signs (Int32.ofNat 0).toNatClampNeg (Int32.ofNat 0).toNatClampNeg p1_length.toNatClampNeg))
      else none)
    else none)
  else none) := rfl
theorem xf_xt_write_9_s (t_model_items : (Nat → Int32)) (t_model_lines : Int32) (t_model_name : (Nat → Int64)) (t_model_number : (Nat → Int32)) (t_model_order : (Nat → Int32)) (t_model_size : (Nat → Int32)) (t_model_sort : (Nat → Int32)) (t_model_start : (Nat → Int32)) (t_model_used : Int32) (t_model_value : (Nat → Int32)) (n : Nat) (N : Nat) (t_spareText_full : Int32) (t_spareText_length : Int32) (t_spareText_signs : (Nat → Int32)) (t_text_full : Int32) (t_text_length : Int32) (t_text_signs : (Nat → Int32)) (v1 : Int32) : xf_xt_write_9 t_model_items t_model_lines t_model_name t_model_number t_model_order t_model_size t_model_sort t_model_start t_model_used t_model_value n (N + 1) t_spareText_full t_spareText_length t_spareText_signs t_text_full t_text_length t_text_signs v1 = (
    if v1 < t_model_lines then
      ((xf_md_rowAt t_model_lines t_model_order v1).bind fun q389 =>
      (xf_wr_writeLine t_model_items t_model_name t_model_number t_model_size t_model_sort t_model_start t_model_used t_model_value n t_spareText_full t_spareText_length t_spareText_signs q389).bind fun q464 =>
      (xf_xt_write_9 t_model_items t_model_lines t_model_name t_model_number t_model_order t_model_size t_model_sort t_model_start t_model_used t_model_value n N) q464.2.1 q464.2.2.1 q464.2.2.2 t_text_full t_text_length t_text_signs (v1 + (Int32.ofNat 1)))
    else
      if t_spareText_full = (Int32.ofNat 0) then
        ((xf_pg_copyFrom t_spareText_full t_spareText_length t_spareText_signs t_text_full t_text_length t_text_signs).bind fun q469 =>
        some (q469.2.2.1, t_spareText_full, t_spareText_length, t_spareText_signs, q469.2.1, q469.2.2.1, q469.2.2.2))
      else
        some ((-2 : Int32), t_spareText_full, t_spareText_length, t_spareText_signs, t_text_full, t_text_length, t_text_signs)) := rfl
theorem xf_xt_write_s (t_model_items : (Nat → Int32)) (t_model_lines : Int32) (t_model_name : (Nat → Int64)) (t_model_number : (Nat → Int32)) (t_model_order : (Nat → Int32)) (t_model_size : (Nat → Int32)) (t_model_sort : (Nat → Int32)) (t_model_start : (Nat → Int32)) (t_model_used : Int32) (t_model_value : (Nat → Int32)) (n : Nat) (t_spareText_full : Int32) (t_spareText_length : Int32) (t_spareText_signs : (Nat → Int32)) (t_text_full : Int32) (t_text_length : Int32) (t_text_signs : (Nat → Int32)) : xf_xt_write t_model_items t_model_lines t_model_name t_model_number t_model_order t_model_size t_model_sort t_model_start t_model_used t_model_value n t_spareText_full t_spareText_length t_spareText_signs t_text_full t_text_length t_text_signs = (
  (xf_pg_clear t_spareText_full t_spareText_length).bind fun q387 =>
  xf_xt_write_9 t_model_items t_model_lines t_model_name t_model_number t_model_order t_model_size t_model_sort t_model_start t_model_used t_model_value n n q387.2.1 q387.2.2 t_spareText_signs t_text_full t_text_length t_text_signs (Int32.ofNat 0)) := rfl
theorem xf_xt_keep_s (t_model_items : (Nat → Int32)) (t_model_lines : Int32) (t_model_name : (Nat → Int64)) (t_model_number : (Nat → Int32)) (t_model_order : (Nat → Int32)) (t_model_rows : Int32) (t_model_size : (Nat → Int32)) (t_model_sort : (Nat → Int32)) (t_model_start : (Nat → Int32)) (t_model_used : Int32) (t_model_value : (Nat → Int32)) (t_kept_items : (Nat → Int32)) (t_kept_lines : Int32) (t_kept_name : (Nat → Int64)) (t_kept_number : (Nat → Int32)) (t_kept_order : (Nat → Int32)) (t_kept_rows : Int32) (t_kept_size : (Nat → Int32)) (t_kept_sort : (Nat → Int32)) (t_kept_start : (Nat → Int32)) (t_kept_used : Int32) (t_kept_value : (Nat → Int32)) : xf_xt_keep t_model_items t_model_lines t_model_name t_model_number t_model_order t_model_rows t_model_size t_model_sort t_model_start t_model_used t_model_value t_kept_items t_kept_lines t_kept_name t_kept_number t_kept_order t_kept_rows t_kept_size t_kept_sort t_kept_start t_kept_used t_kept_value = (
  (xf_md_copyFrom t_model_items t_model_lines t_model_name t_model_number t_model_order t_model_rows t_model_size t_model_sort t_model_start t_model_used t_model_value t_kept_items t_kept_lines t_kept_name t_kept_number t_kept_order t_kept_rows t_kept_size t_kept_sort t_kept_start t_kept_used t_kept_value).bind fun q478 =>
  some (q478.2.2.1, q478.2.1, q478.2.2.1, q478.2.2.2.1, q478.2.2.2.2.1, q478.2.2.2.2.2.1, q478.2.2.2.2.2.2.1, q478.2.2.2.2.2.2.2.1, q478.2.2.2.2.2.2.2.2.1, q478.2.2.2.2.2.2.2.2.2.1, q478.2.2.2.2.2.2.2.2.2.2.1, q478.2.2.2.2.2.2.2.2.2.2.2)) := rfl
theorem xf_le_point_20_s (n_t_to : Nat) (t_to : (Nat → Int32)) : xf_le_point_20 n_t_to t_to = (
  some ((), t_to)) := rfl
theorem xf_le_point_s (n_t_to : Nat) (t_to : (Nat → Int32)) (a1 : Int32) (a2 : Int32) : xf_le_point n_t_to t_to a1 a2 = (
  if a1 < (Int32.ofNat 0) then
    (xf_le_point_20 n_t_to t_to)
  else
    if a1 < (Int32.ofNat n_t_to) then
      (if xr_in a1 n_t_to = true then
        (xf_le_point_20 n_t_to (upd t_to a1.toNatClampNeg a2))
      else none)
    else
      xf_le_point_20 n_t_to t_to) := rfl
theorem xf_le_of_23_s (t_to : (Nat → Int32)) (n_t_to : Nat) (s0 : Int32) : xf_le_of_23 t_to n_t_to s0 = (
  some s0) := rfl
theorem xf_le_of_22_s (t_to : (Nat → Int32)) (n_t_to : Nat) (v1 : Int32) : xf_le_of_22 t_to n_t_to v1 = (
  xf_le_of_23 t_to n_t_to v1) := rfl
theorem xf_le_of_s (t_to : (Nat → Int32)) (n_t_to : Nat) (a1 : Int32) : xf_le_of t_to n_t_to a1 = (
  if a1 < (Int32.ofNat 0) then
    (xf_le_of_22 t_to n_t_to a1)
  else
    if a1 < (Int32.ofNat n_t_to) then
      (if xr_in a1 n_t_to = true then
        (xf_le_of_23 t_to n_t_to (t_to a1.toNatClampNeg))
      else none)
    else
      xf_le_of_22 t_to n_t_to a1) := rfl
theorem xf_md_sameArgument_57_s (p2_items : (Nat → Int32)) (p2_sort : (Nat → Int32)) (p2_start : (Nat → Int32)) (p2_used : Int32) (p2_value : (Nat → Int32)) (p4_to : (Nat → Int32)) (t_items : (Nat → Int32)) (t_sort : (Nat → Int32)) (t_start : (Nat → Int32)) (t_used : Int32) (t_value : (Nat → Int32)) (n_p4_to : Nat) (n : Nat) (s0 : Int32) : xf_md_sameArgument_57 p2_items p2_sort p2_start p2_used p2_value p4_to t_items t_sort t_start t_used t_value n_p4_to n s0 = (
  if fits .boolean (.int s0) = true then some s0 else none) := rfl
theorem xf_md_sameArgument_157_s (p2_items : (Nat → Int32)) (p2_sort : (Nat → Int32)) (p2_start : (Nat → Int32)) (p2_used : Int32) (p2_value : (Nat → Int32)) (p4_to : (Nat → Int32)) (t_items : (Nat → Int32)) (t_sort : (Nat → Int32)) (t_start : (Nat → Int32)) (t_used : Int32) (t_value : (Nat → Int32)) (n_p4_to : Nat) (k95 : Int32 → Int32 → Int32 → Int32 → Option (Int32)) (n : Nat) (v1 : Int32) (v3 : Int32) (v5 : Int32) (v6 : Int32) : xf_md_sameArgument_157 p2_items p2_sort p2_start p2_used p2_value p4_to t_items t_sort t_start t_used t_value n_p4_to k95 n v1 v3 v5 v6 = (
  k95 v1 v3 v5 (v6 + (Int32.ofNat 1))) := rfl
theorem xf_md_sameArgument_155_s (p2_items : (Nat → Int32)) (p2_sort : (Nat → Int32)) (p2_start : (Nat → Int32)) (p2_used : Int32) (p2_value : (Nat → Int32)) (p4_to : (Nat → Int32)) (t_items : (Nat → Int32)) (t_sort : (Nat → Int32)) (t_start : (Nat → Int32)) (t_used : Int32) (t_value : (Nat → Int32)) (n_p4_to : Nat) (n : Nat) : xf_md_sameArgument_155 p2_items p2_sort p2_start p2_used p2_value p4_to t_items t_sort t_start t_used t_value n_p4_to n = (
  some (Int32.ofNat 0)) := rfl
theorem xf_md_sameArgument_95_s (p2_items : (Nat → Int32)) (p2_sort : (Nat → Int32)) (p2_start : (Nat → Int32)) (p2_used : Int32) (p2_value : (Nat → Int32)) (p4_to : (Nat → Int32)) (t_items : (Nat → Int32)) (t_sort : (Nat → Int32)) (t_start : (Nat → Int32)) (t_used : Int32) (t_value : (Nat → Int32)) (n_p4_to : Nat) (n : Nat) (N : Nat) (v1 : Int32) (v3 : Int32) (v5 : Int32) (v6 : Int32) : xf_md_sameArgument_95 p2_items p2_sort p2_start p2_used p2_value p4_to t_items t_sort t_start t_used t_value n_p4_to n (N + 1) v1 v3 v5 v6 = (
    (xf_md_itemsOf t_sort t_value v1).bind fun q527 =>
    if v6 < q527 then
      ((xf_md_itemAt t_items t_start t_used v1 v6).bind fun q529 =>
      (xf_md_itemAt p2_items p2_start p2_used v3 v6).bind fun q530 =>
      if v5 = (Int32.ofNat 0) then
        (if q529 = q530 then
          (xf_md_sameArgument_157 p2_items p2_sort p2_start p2_used p2_value p4_to t_items t_sort t_start t_used t_value n_p4_to (xf_md_sameArgument_95 p2_items p2_sort p2_start p2_used p2_value p4_to t_items t_sort t_start t_used t_value n_p4_to n N) n v1 v3 v5 v6)
        else
          xf_md_sameArgument_155 p2_items p2_sort p2_start p2_used p2_value p4_to t_items t_sort t_start t_used t_value n_p4_to n)
      else
        (xf_le_of p4_to n_p4_to q529).bind fun q533 =>
        (xf_le_of p4_to n_p4_to q530).bind fun q534 =>
        if q533 = q534 then
          (xf_md_sameArgument_157 p2_items p2_sort p2_start p2_used p2_value p4_to t_items t_sort t_start t_used t_value n_p4_to (xf_md_sameArgument_95 p2_items p2_sort p2_start p2_used p2_value p4_to t_items t_sort t_start t_used t_value n_p4_to n N) n v1 v3 v5 v6)
        else
          xf_md_sameArgument_155 p2_items p2_sort p2_start p2_used p2_value p4_to t_items t_sort t_start t_used t_value n_p4_to n)
    else
      some (Int32.ofNat 1)) := rfl
theorem xf_md_sameArgument_90_s (p2_items : (Nat → Int32)) (p2_sort : (Nat → Int32)) (p2_start : (Nat → Int32)) (p2_used : Int32) (p2_value : (Nat → Int32)) (p4_to : (Nat → Int32)) (t_items : (Nat → Int32)) (t_sort : (Nat → Int32)) (t_start : (Nat → Int32)) (t_used : Int32) (t_value : (Nat → Int32)) (n_p4_to : Nat) (n : Nat) (v1 : Int32) (v3 : Int32) (s0 : Int32) : xf_md_sameArgument_90 p2_items p2_sort p2_start p2_used p2_value p4_to t_items t_sort t_start t_used t_value n_p4_to n v1 v3 s0 = (
  xf_md_sameArgument_95 p2_items p2_sort p2_start p2_used p2_value p4_to t_items t_sort t_start t_used t_value n_p4_to n n v1 v3 s0 (Int32.ofNat 0)) := rfl
theorem xf_md_sameArgument_s (p2_items : (Nat → Int32)) (p2_sort : (Nat → Int32)) (p2_start : (Nat → Int32)) (p2_used : Int32) (p2_value : (Nat → Int32)) (p4_to : (Nat → Int32)) (t_items : (Nat → Int32)) (t_sort : (Nat → Int32)) (t_start : (Nat → Int32)) (t_used : Int32) (t_value : (Nat → Int32)) (n_p4_to : Nat) (n : Nat) (a1 : Int32) (a3 : Int32) : xf_md_sameArgument p2_items p2_sort p2_start p2_used p2_value p4_to t_items t_sort t_start t_used t_value n_p4_to n a1 a3 = (
  if xr_in a1 320 = true then
    (if xr_in a3 320 = true then
      (if (t_sort a1.toNatClampNeg) = (p2_sort a3.toNatClampNeg) then
        (if xr_in a1 320 = true then
          (if (t_sort a1.toNatClampNeg) = (Int32.ofNat 2) then
            (if xr_in a1 320 = true then
              ((xf_le_of p4_to n_p4_to (t_value a1.toNatClampNeg)).bind fun q517 =>
              if xr_in a3 320 = true then
                ((xf_le_of p4_to n_p4_to (p2_value a3.toNatClampNeg)).bind fun q519 =>
                if q517 = q519 then
                  (xf_md_sameArgument_57 p2_items p2_sort p2_start p2_used p2_value p4_to t_items t_sort t_start t_used t_value n_p4_to n (Int32.ofNat 1))
                else
                  xf_md_sameArgument_57 p2_items p2_sort p2_start p2_used p2_value p4_to t_items t_sort t_start t_used t_value n_p4_to n (Int32.ofNat 0))
              else none)
            else none)
          else
            if xr_in a1 320 = true then
              (if xr_in a3 320 = true then
                (if (t_value a1.toNatClampNeg) = (p2_value a3.toNatClampNeg) then
                  (if xr_in a1 320 = true then
                    (if (t_sort a1.toNatClampNeg) = (Int32.ofNat 4) then
                      (xf_md_sameArgument_90 p2_items p2_sort p2_start p2_used p2_value p4_to t_items t_sort t_start t_used t_value n_p4_to n a1 a3 (Int32.ofNat 1))
                    else
                      xf_md_sameArgument_90 p2_items p2_sort p2_start p2_used p2_value p4_to t_items t_sort t_start t_used t_value n_p4_to n a1 a3 (Int32.ofNat 0))
                  else none)
                else
                  some (Int32.ofNat 0))
              else none)
            else none)
        else none)
      else
        some (Int32.ofNat 0))
    else none)
  else none) := rfl
theorem xf_md_sameLine_36_s (p2_items : (Nat → Int32)) (p2_name : (Nat → Int64)) (p2_size : (Nat → Int32)) (p2_sort : (Nat → Int32)) (p2_start : (Nat → Int32)) (p2_used : Int32) (p2_value : (Nat → Int32)) (p4_to : (Nat → Int32)) (t_items : (Nat → Int32)) (t_name : (Nat → Int64)) (t_size : (Nat → Int32)) (t_sort : (Nat → Int32)) (t_start : (Nat → Int32)) (t_used : Int32) (t_value : (Nat → Int32)) (n_p4_to : Nat) (n : Nat) (N : Nat) (v1 : Int32) (v3 : Int32) (v5 : Int32) : xf_md_sameLine_36 p2_items p2_name p2_size p2_sort p2_start p2_used p2_value p4_to t_items t_name t_size t_sort t_start t_used t_value n_p4_to n (N + 1) v1 v3 v5 = (
    if xr_in v1 40 = true then
      (if v5 < (t_size v1.toNatClampNeg) then
        ((xf_md_sameArgument p2_items p2_sort p2_start p2_used p2_value p4_to t_items t_sort t_start t_used t_value n_p4_to n ((v1 * (Int32.ofNat 8)) + v5) ((v3 * (Int32.ofNat 8)) + v5)).bind fun q536 =>
        if q536 = (Int32.ofNat 0) then
          (some (Int32.ofNat 0))
        else
          (xf_md_sameLine_36 p2_items p2_name p2_size p2_sort p2_start p2_used p2_value p4_to t_items t_name t_size t_sort t_start t_used t_value n_p4_to n N) v1 v3 (v5 + (Int32.ofNat 1)))
      else
        some (Int32.ofNat 1))
    else none) := rfl
theorem xf_md_sameLine_31_s (p2_items : (Nat → Int32)) (p2_name : (Nat → Int64)) (p2_size : (Nat → Int32)) (p2_sort : (Nat → Int32)) (p2_start : (Nat → Int32)) (p2_used : Int32) (p2_value : (Nat → Int32)) (p4_to : (Nat → Int32)) (t_items : (Nat → Int32)) (t_name : (Nat → Int64)) (t_size : (Nat → Int32)) (t_sort : (Nat → Int32)) (t_start : (Nat → Int32)) (t_used : Int32) (t_value : (Nat → Int32)) (n_p4_to : Nat) (n : Nat) : xf_md_sameLine_31 p2_items p2_name p2_size p2_sort p2_start p2_used p2_value p4_to t_items t_name t_size t_sort t_start t_used t_value n_p4_to n = (
  some (Int32.ofNat 0)) := rfl
theorem xf_md_sameLine_s (p2_items : (Nat → Int32)) (p2_name : (Nat → Int64)) (p2_size : (Nat → Int32)) (p2_sort : (Nat → Int32)) (p2_start : (Nat → Int32)) (p2_used : Int32) (p2_value : (Nat → Int32)) (p4_to : (Nat → Int32)) (t_items : (Nat → Int32)) (t_name : (Nat → Int64)) (t_size : (Nat → Int32)) (t_sort : (Nat → Int32)) (t_start : (Nat → Int32)) (t_used : Int32) (t_value : (Nat → Int32)) (n_p4_to : Nat) (n : Nat) (a1 : Int32) (a3 : Int32) : xf_md_sameLine p2_items p2_name p2_size p2_sort p2_start p2_used p2_value p4_to t_items t_name t_size t_sort t_start t_used t_value n_p4_to n a1 a3 = (
  if xr_in a1 40 = true then
    (if xr_in a3 40 = true then
      (if (lg_cmp (t_name a1.toNatClampNeg) (p2_name a3.toNatClampNeg)) = (Int32.ofNat 0) then
        (if xr_in a1 40 = true then
          (if xr_in a3 40 = true then
            (if (t_size a1.toNatClampNeg) = (p2_size a3.toNatClampNeg) then
              (xf_md_sameLine_36 p2_items p2_name p2_size p2_sort p2_start p2_used p2_value p4_to t_items t_name t_size t_sort t_start t_used t_value n_p4_to n n a1 a3 (Int32.ofNat 0))
            else
              xf_md_sameLine_31 p2_items p2_name p2_size p2_sort p2_start p2_used p2_value p4_to t_items t_name t_size t_sort t_start t_used t_value n_p4_to n)
          else none)
        else none)
      else
        xf_md_sameLine_31 p2_items p2_name p2_size p2_sort p2_start p2_used p2_value p4_to t_items t_name t_size t_sort t_start t_used t_value n_p4_to n)
    else none)
  else none) := rfl
theorem xf_gr_firstAlike_65_s (t_depth : (Nat → Int32)) (t_leads_to : (Nat → Int32)) (t_model_items : (Nat → Int32)) (t_model_lines : Int32) (t_model_name : (Nat → Int64)) (t_model_number : (Nat → Int32)) (t_model_order : (Nat → Int32)) (t_model_size : (Nat → Int32)) (t_model_sort : (Nat → Int32)) (t_model_start : (Nat → Int32)) (t_model_used : Int32) (t_model_value : (Nat → Int32)) (n_t_leads_to : Nat) (k2 : Int32 → Int32 → Int32 → Option (Int32)) (n : Nat) (v1 : Int32) (v2 : Int32) (v3 : Int32) : xf_gr_firstAlike_65 t_depth t_leads_to t_model_items t_model_lines t_model_name t_model_number t_model_order t_model_size t_model_sort t_model_start t_model_used t_model_value n_t_leads_to k2 n v1 v2 v3 = (
  k2 v1 v2 (v3 + (Int32.ofNat 1))) := rfl
theorem xf_gr_firstAlike_2_s (t_depth : (Nat → Int32)) (t_leads_to : (Nat → Int32)) (t_model_items : (Nat → Int32)) (t_model_lines : Int32) (t_model_name : (Nat → Int64)) (t_model_number : (Nat → Int32)) (t_model_order : (Nat → Int32)) (t_model_size : (Nat → Int32)) (t_model_sort : (Nat → Int32)) (t_model_start : (Nat → Int32)) (t_model_used : Int32) (t_model_value : (Nat → Int32)) (n_t_leads_to : Nat) (n : Nat) (N : Nat) (v1 : Int32) (v2 : Int32) (v3 : Int32) : xf_gr_firstAlike_2 t_depth t_leads_to t_model_items t_model_lines t_model_name t_model_number t_model_order t_model_size t_model_sort t_model_start t_model_used t_model_value n_t_leads_to n (N + 1) v1 v2 v3 = (
    if v3 < v2 then
      ((xf_md_rowAt t_model_lines t_model_order v3).bind fun q496 =>
      if xr_in q496 40 = true then
        (if xr_in v1 40 = true then
          (if (t_depth q496.toNatClampNeg) = (t_depth v1.toNatClampNeg) then
            ((xf_md_sameLine t_model_items t_model_name t_model_size t_model_sort t_model_start t_model_used t_model_value t_leads_to t_model_items t_model_name t_model_size t_model_sort t_model_start t_model_used t_model_value n_t_leads_to n v1 q496).bind fun q538 =>
            if q538 = (Int32.ofNat 0) then
              (xf_gr_firstAlike_65 t_depth t_leads_to t_model_items t_model_lines t_model_name t_model_number t_model_order t_model_size t_model_sort t_model_start t_model_used t_model_value n_t_leads_to (xf_gr_firstAlike_2 t_depth t_leads_to t_model_items t_model_lines t_model_name t_model_number t_model_order t_model_size t_model_sort t_model_start t_model_used t_model_value n_t_leads_to n N) n v1 v2 v3)
            else
              if xr_in q496 40 = true then
                (some (t_model_number q496.toNatClampNeg))
              else none)
          else
            xf_gr_firstAlike_65 t_depth t_leads_to t_model_items t_model_lines t_model_name t_model_number t_model_order t_model_size t_model_sort t_model_start t_model_used t_model_value n_t_leads_to (xf_gr_firstAlike_2 t_depth t_leads_to t_model_items t_model_lines t_model_name t_model_number t_model_order t_model_size t_model_sort t_model_start t_model_used t_model_value n_t_leads_to n N) n v1 v2 v3)
        else none)
      else none)
    else
      if xr_in v1 40 = true then
        (some (t_model_number v1.toNatClampNeg))
      else none) := rfl
theorem xf_gr_firstAlike_s (t_depth : (Nat → Int32)) (t_leads_to : (Nat → Int32)) (t_model_items : (Nat → Int32)) (t_model_lines : Int32) (t_model_name : (Nat → Int64)) (t_model_number : (Nat → Int32)) (t_model_order : (Nat → Int32)) (t_model_size : (Nat → Int32)) (t_model_sort : (Nat → Int32)) (t_model_start : (Nat → Int32)) (t_model_used : Int32) (t_model_value : (Nat → Int32)) (n_t_leads_to : Nat) (n : Nat) (a1 : Int32) (a2 : Int32) : xf_gr_firstAlike t_depth t_leads_to t_model_items t_model_lines t_model_name t_model_number t_model_order t_model_size t_model_sort t_model_start t_model_used t_model_value n_t_leads_to n a1 a2 = (
  xf_gr_firstAlike_2 t_depth t_leads_to t_model_items t_model_lines t_model_name t_model_number t_model_order t_model_size t_model_sort t_model_start t_model_used t_model_value n_t_leads_to n n a1 a2 (Int32.ofNat 0)) := rfl
theorem xf_gr_group_139_s (t_depth : (Nat → Int32)) (t_model_items : (Nat → Int32)) (t_model_lines : Int32) (t_model_name : (Nat → Int64)) (t_model_number : (Nat → Int32)) (t_model_order : (Nat → Int32)) (t_model_size : (Nat → Int32)) (t_model_sort : (Nat → Int32)) (t_model_start : (Nat → Int32)) (t_model_used : Int32) (t_model_value : (Nat → Int32)) (n_t_leads_to : Nat) (k76 : Int32 → (Nat → Int32) → Int32 → Int32 → Option (Unit × Int32 × (Nat → Int32))) (k83 : Int32 → (Nat → Int32) → Int32 → Int32 → Int32 → Option (Unit × Int32 × (Nat → Int32))) (n : Nat) (t_grouped : Int32) (t_leads_to : (Nat → Int32)) (v1 : Int32) (v2 : Int32) (v3 : Int32) : xf_gr_group_139 t_depth t_model_items t_model_lines t_model_name t_model_number t_model_order t_model_size t_model_sort t_model_start t_model_used t_model_value n_t_leads_to k76 k83 n t_grouped t_leads_to v1 v2 v3 = (
  k83 t_grouped t_leads_to v1 v2 (v3 + (Int32.ofNat 1))) := rfl
theorem xf_gr_group_83_s (t_depth : (Nat → Int32)) (t_model_items : (Nat → Int32)) (t_model_lines : Int32) (t_model_name : (Nat → Int64)) (t_model_number : (Nat → Int32)) (t_model_order : (Nat → Int32)) (t_model_size : (Nat → Int32)) (t_model_sort : (Nat → Int32)) (t_model_start : (Nat → Int32)) (t_model_used : Int32) (t_model_value : (Nat → Int32)) (n_t_leads_to : Nat) (k76 : Int32 → (Nat → Int32) → Int32 → Int32 → Option (Unit × Int32 × (Nat → Int32))) (n : Nat) (N : Nat) (t_grouped : Int32) (t_leads_to : (Nat → Int32)) (v1 : Int32) (v2 : Int32) (v3 : Int32) : xf_gr_group_83 t_depth t_model_items t_model_lines t_model_name t_model_number t_model_order t_model_size t_model_sort t_model_start t_model_used t_model_value n_t_leads_to k76 n (N + 1) t_grouped t_leads_to v1 v2 v3 = (
    if v3 < t_model_lines then
      ((xf_md_rowAt t_model_lines t_model_order v3).bind fun q491 =>
      if xr_in q491 40 = true then
        (if (t_depth q491.toNatClampNeg) = v2 then
          (if xr_in q491 40 = true then
            ((xf_gr_firstAlike t_depth t_leads_to t_model_items t_model_lines t_model_name t_model_number t_model_order t_model_size t_model_sort t_model_start t_model_used t_model_value n_t_leads_to n q491 v3).bind fun q542 =>
            (xf_le_point n_t_leads_to t_leads_to (t_model_number q491.toNatClampNeg) q542).bind fun q543 =>
            xf_gr_group_139 t_depth t_model_items t_model_lines t_model_name t_model_number t_model_order t_model_size t_model_sort t_model_start t_model_used t_model_value n_t_leads_to k76 (xf_gr_group_83 t_depth t_model_items t_model_lines t_model_name t_model_number t_model_order t_model_size t_model_sort t_model_start t_model_used t_model_value n_t_leads_to k76 n N) n t_grouped q543.2 v1 v2 v3)
          else none)
        else
          xf_gr_group_139 t_depth t_model_items t_model_lines t_model_name t_model_number t_model_order t_model_size t_model_sort t_model_start t_model_used t_model_value n_t_leads_to k76 (xf_gr_group_83 t_depth t_model_items t_model_lines t_model_name t_model_number t_model_order t_model_size t_model_sort t_model_start t_model_used t_model_value n_t_leads_to k76 n N) n t_grouped t_leads_to v1 v2 v3)
      else none)
    else
      k76 t_grouped t_leads_to v1 (v2 + (Int32.ofNat 1))) := rfl
theorem xf_gr_group_76_s (t_depth : (Nat → Int32)) (t_model_items : (Nat → Int32)) (t_model_lines : Int32) (t_model_name : (Nat → Int64)) (t_model_number : (Nat → Int32)) (t_model_order : (Nat → Int32)) (t_model_size : (Nat → Int32)) (t_model_sort : (Nat → Int32)) (t_model_start : (Nat → Int32)) (t_model_used : Int32) (t_model_value : (Nat → Int32)) (n_t_leads_to : Nat) (n : Nat) (N : Nat) (t_grouped : Int32) (t_leads_to : (Nat → Int32)) (v1 : Int32) (v2 : Int32) : xf_gr_group_76 t_depth t_model_items t_model_lines t_model_name t_model_number t_model_order t_model_size t_model_sort t_model_start t_model_used t_model_value n_t_leads_to n (N + 1) t_grouped t_leads_to v1 v2 = (
    if v1 < v2 then
      (some ((), (Int32.ofNat 1), t_leads_to))
    else
      xf_gr_group_83 t_depth t_model_items t_model_lines t_model_name t_model_number t_model_order t_model_size t_model_sort t_model_start t_model_used t_model_value n_t_leads_to (xf_gr_group_76 t_depth t_model_items t_model_lines t_model_name t_model_number t_model_order t_model_size t_model_sort t_model_start t_model_used t_model_value n_t_leads_to n N) n n t_grouped t_leads_to v1 v2 (Int32.ofNat 0)) := rfl
theorem xf_gr_group_12_s (t_depth : (Nat → Int32)) (t_model_items : (Nat → Int32)) (t_model_lines : Int32) (t_model_name : (Nat → Int64)) (t_model_number : (Nat → Int32)) (t_model_order : (Nat → Int32)) (t_model_size : (Nat → Int32)) (t_model_sort : (Nat → Int32)) (t_model_start : (Nat → Int32)) (t_model_used : Int32) (t_model_value : (Nat → Int32)) (n_t_leads_to : Nat) (n : Nat) (N : Nat) (t_grouped : Int32) (t_leads_to : (Nat → Int32)) (v1 : Int32) (v2 : Int32) : xf_gr_group_12 t_depth t_model_items t_model_lines t_model_name t_model_number t_model_order t_model_size t_model_sort t_model_start t_model_used t_model_value n_t_leads_to n (N + 1) t_grouped t_leads_to v1 v2 = (
    if v2 < t_model_lines then
      ((xf_md_rowAt t_model_lines t_model_order v2).bind fun q481 =>
      if xr_in q481 40 = true then
        (if xr_in q481 40 = true then
          ((xf_le_point n_t_leads_to t_leads_to (t_model_number q481.toNatClampNeg) (t_model_number q481.toNatClampNeg)).bind fun q487 =>
          if xr_in q481 40 = true then
            ((xf_gr_group_12 t_depth t_model_items t_model_lines t_model_name t_model_number t_model_order t_model_size t_model_sort t_model_start t_model_used t_model_value n_t_leads_to n N) t_grouped q487.2 (xe_max v1 (t_depth q481.toNatClampNeg)) (v2 + (Int32.ofNat 1)))
          else none)
        else none)
      else none)
    else
      xf_gr_group_76 t_depth t_model_items t_model_lines t_model_name t_model_number t_model_order t_model_size t_model_sort t_model_start t_model_used t_model_value n_t_leads_to n n t_grouped t_leads_to v1 (Int32.ofNat 0)) := rfl
theorem xf_gr_group_s (t_depth : (Nat → Int32)) (t_model_items : (Nat → Int32)) (t_model_lines : Int32) (t_model_name : (Nat → Int64)) (t_model_number : (Nat → Int32)) (t_model_order : (Nat → Int32)) (t_model_size : (Nat → Int32)) (t_model_sort : (Nat → Int32)) (t_model_start : (Nat → Int32)) (t_model_used : Int32) (t_model_value : (Nat → Int32)) (n_t_leads_to : Nat) (n : Nat) (t_grouped : Int32) (t_leads_to : (Nat → Int32)) : xf_gr_group t_depth t_model_items t_model_lines t_model_name t_model_number t_model_order t_model_size t_model_sort t_model_start t_model_used t_model_value n_t_leads_to n t_grouped t_leads_to = (
  if t_grouped = (Int32.ofNat 0) then
    (xf_gr_group_12 t_depth t_model_items t_model_lines t_model_name t_model_number t_model_order t_model_size t_model_sort t_model_start t_model_used t_model_value n_t_leads_to n n t_grouped t_leads_to (-1 : Int32) (Int32.ofNat 0))
  else
    some ((), t_grouped, t_leads_to)) := rfl
theorem xf_md_lead_70_s (p2_to : (Nat → Int32)) (t_size : (Nat → Int32)) (t_sort : (Nat → Int32)) (t_start : (Nat → Int32)) (t_used : Int32) (n_p2_to : Nat) (k2 : (Nat → Int32) → (Nat → Int32) → Int32 → Int32 → Option (Unit × (Nat → Int32) × (Nat → Int32))) (n : Nat) (t_items : (Nat → Int32)) (t_value : (Nat → Int32)) (v1 : Int32) (v3 : Int32) : xf_md_lead_70 p2_to t_size t_sort t_start t_used n_p2_to k2 n t_items t_value v1 v3 = (
  k2 t_items t_value v1 (v3 + (Int32.ofNat 1))) := rfl
theorem xf_md_leadItems_54_s (p2_to : (Nat → Int32)) (t_start : (Nat → Int32)) (t_used : Int32) (t_value : (Nat → Int32)) (n_p2_to : Nat) (n : Nat) (t_items : (Nat → Int32)) : xf_md_leadItems_54 p2_to t_start t_used t_value n_p2_to n t_items = (
  some ((), t_items)) := rfl
theorem xf_md_leadItems_7_s (p2_to : (Nat → Int32)) (t_start : (Nat → Int32)) (t_used : Int32) (t_value : (Nat → Int32)) (n_p2_to : Nat) (n : Nat) (N : Nat) (t_items : (Nat → Int32)) (v1 : Int32) (v3 : Int32) : xf_md_leadItems_7 p2_to t_start t_used t_value n_p2_to n (N + 1) t_items v1 v3 = (
    if xr_in v1 320 = true then
      (if xr_in v1 320 = true then
        (if v3 < ((t_start v1.toNatClampNeg) + (t_value v1.toNatClampNeg)) then
          (if v3 < t_used then
            (if xr_in v3 1200 = true then
              ((xf_le_of p2_to n_p2_to (t_items v3.toNatClampNeg)).bind fun q566 =>
              if xr_in v3 1200 = true then
                ((xf_md_leadItems_7 p2_to t_start t_used t_value n_p2_to n N) (upd t_items v3.toNatClampNeg q566) v1 (v3 + (Int32.ofNat 1)))
              else none)
            else none)
          else
            xf_md_leadItems_54 p2_to t_start t_used t_value n_p2_to n t_items)
        else
          xf_md_leadItems_54 p2_to t_start t_used t_value n_p2_to n t_items)
      else none)
    else none) := rfl
theorem xf_md_leadItems_s (p2_to : (Nat → Int32)) (t_start : (Nat → Int32)) (t_used : Int32) (t_value : (Nat → Int32)) (n_p2_to : Nat) (n : Nat) (t_items : (Nat → Int32)) (a1 : Int32) : xf_md_leadItems p2_to t_start t_used t_value n_p2_to n t_items a1 = (
  if xr_in a1 320 = true then
    (xf_md_leadItems_7 p2_to t_start t_used t_value n_p2_to n n t_items a1 (t_start a1.toNatClampNeg))
  else none) := rfl
theorem xf_md_lead_2_s (p2_to : (Nat → Int32)) (t_size : (Nat → Int32)) (t_sort : (Nat → Int32)) (t_start : (Nat → Int32)) (t_used : Int32) (n_p2_to : Nat) (n : Nat) (N : Nat) (t_items : (Nat → Int32)) (t_value : (Nat → Int32)) (v1 : Int32) (v3 : Int32) : xf_md_lead_2 p2_to t_size t_sort t_start t_used n_p2_to n (N + 1) t_items t_value v1 v3 = (
    if xr_in v1 40 = true then
      (if v3 < (t_size v1.toNatClampNeg) then
        (if xr_in ((v1 * (Int32.ofNat 8)) + v3) 320 = true then
          (if (t_sort ((v1 * (Int32.ofNat 8)) + v3).toNatClampNeg) = (Int32.ofNat 2) then
            (if xr_in ((v1 * (Int32.ofNat 8)) + v3) 320 = true then
              ((xf_le_of p2_to n_p2_to (t_value ((v1 * (Int32.ofNat 8)) + v3).toNatClampNeg)).bind fun q556 =>
              if xr_in ((v1 * (Int32.ofNat 8)) + v3) 320 = true then
                (xf_md_lead_70 p2_to t_size t_sort t_start t_used n_p2_to (xf_md_lead_2 p2_to t_size t_sort t_start t_used n_p2_to n N) n t_items (upd t_value ((v1 * (Int32.ofNat 8)) + v3).toNatClampNeg q556) v1 v3)
              else none)
            else none)
          else
            if xr_in ((v1 * (Int32.ofNat 8)) + v3) 320 = true then
              (if (t_sort ((v1 * (Int32.ofNat 8)) + v3).toNatClampNeg) = (Int32.ofNat 4) then
                ((xf_md_leadItems p2_to t_start t_used t_value n_p2_to n t_items ((v1 * (Int32.ofNat 8)) + v3)).bind fun q568 =>
                xf_md_lead_70 p2_to t_size t_sort t_start t_used n_p2_to (xf_md_lead_2 p2_to t_size t_sort t_start t_used n_p2_to n N) n q568.2 t_value v1 v3)
              else
                xf_md_lead_70 p2_to t_size t_sort t_start t_used n_p2_to (xf_md_lead_2 p2_to t_size t_sort t_start t_used n_p2_to n N) n t_items t_value v1 v3)
            else none)
        else none)
      else
        some ((), t_items, t_value))
    else none) := rfl
theorem xf_md_lead_s (p2_to : (Nat → Int32)) (t_size : (Nat → Int32)) (t_sort : (Nat → Int32)) (t_start : (Nat → Int32)) (t_used : Int32) (n_p2_to : Nat) (n : Nat) (t_items : (Nat → Int32)) (t_value : (Nat → Int32)) (a1 : Int32) : xf_md_lead p2_to t_size t_sort t_start t_used n_p2_to n t_items t_value a1 = (
  xf_md_lead_2 p2_to t_size t_sort t_start t_used n_p2_to n n t_items t_value a1 (Int32.ofNat 0)) := rfl
theorem xf_md_follow_59_s (p1_to : (Nat → Int32)) (t_number : (Nat → Int32)) (t_size : (Nat → Int32)) (t_sort : (Nat → Int32)) (t_start : (Nat → Int32)) (t_used : Int32) (n_p1_to : Nat) (k4 : (Nat → Int32) → Int32 → (Nat → Int32) → (Nat → Int32) → Int32 → Int32 → Option (Unit × (Nat → Int32) × Int32 × (Nat → Int32) × (Nat → Int32))) (n : Nat) (t_items : (Nat → Int32)) (t_lines : Int32) (t_order : (Nat → Int32)) (t_value : (Nat → Int32)) (v2 : Int32) (v3 : Int32) : xf_md_follow_59 p1_to t_number t_size t_sort t_start t_used n_p1_to k4 n t_items t_lines t_order t_value v2 v3 = (
  k4 t_items t_lines t_order t_value v2 (v3 + (Int32.ofNat 1))) := rfl
theorem xf_md_follow_4_s (p1_to : (Nat → Int32)) (t_number : (Nat → Int32)) (t_size : (Nat → Int32)) (t_sort : (Nat → Int32)) (t_start : (Nat → Int32)) (t_used : Int32) (n_p1_to : Nat) (n : Nat) (N : Nat) (t_items : (Nat → Int32)) (t_lines : Int32) (t_order : (Nat → Int32)) (t_value : (Nat → Int32)) (v2 : Int32) (v3 : Int32) : xf_md_follow_4 p1_to t_number t_size t_sort t_start t_used n_p1_to n (N + 1) t_items t_lines t_order t_value v2 v3 = (
    if v3 < t_lines then
      (if xr_in v3 40 = true then
        (if xr_in (t_order v3.toNatClampNeg) 40 = true then
          ((xf_le_of p1_to n_p1_to (t_number (t_order v3.toNatClampNeg).toNatClampNeg)).bind fun q548 =>
          if xr_in (t_order v3.toNatClampNeg) 40 = true then
            (if q548 = (t_number (t_order v3.toNatClampNeg).toNatClampNeg) then
              ((xf_md_lead p1_to t_size t_sort t_start t_used n_p1_to n t_items t_value (t_order v3.toNatClampNeg)).bind fun q569 =>
              if xr_in v2 40 = true then
                (xf_md_follow_59 p1_to t_number t_size t_sort t_start t_used n_p1_to (xf_md_follow_4 p1_to t_number t_size t_sort t_start t_used n_p1_to n N) n q569.2.1 t_lines (upd t_order v2.toNatClampNeg ((t_order v3.toNatClampNeg))) q569.2.2 (v2 + (Int32.ofNat 1)) v3)
              else none)
            else
              xf_md_follow_59 p1_to t_number t_size t_sort t_start t_used n_p1_to (xf_md_follow_4 p1_to t_number t_size t_sort t_start t_used n_p1_to n N) n t_items t_lines t_order t_value v2 v3)
          else none)
        else none)
      else none)
    else
      some ((), t_items, v2, t_order, t_value)) := rfl
theorem xf_md_follow_s (p1_to : (Nat → Int32)) (t_number : (Nat → Int32)) (t_size : (Nat → Int32)) (t_sort : (Nat → Int32)) (t_start : (Nat → Int32)) (t_used : Int32) (n_p1_to : Nat) (n : Nat) (t_items : (Nat → Int32)) (t_lines : Int32) (t_order : (Nat → Int32)) (t_value : (Nat → Int32)) : xf_md_follow p1_to t_number t_size t_sort t_start t_used n_p1_to n t_items t_lines t_order t_value = (
  xf_md_follow_4 p1_to t_number t_size t_sort t_start t_used n_p1_to n n t_items t_lines t_order t_value (Int32.ofNat 0) (Int32.ofNat 0)) := rfl
theorem xf_xt_join_s (t_model_name : (Nat → Int64)) (t_model_number : (Nat → Int32)) (t_model_size : (Nat → Int32)) (t_model_sort : (Nat → Int32)) (t_model_start : (Nat → Int32)) (t_model_used : Int32) (n_t_graph_leads_to : Nat) (n : Nat) (t_graph_depth : (Nat → Int32)) (t_graph_direct : (Nat → Int64)) (t_graph_grouped : Int32) (t_graph_leads_to : (Nat → Int32)) (t_graph_reach : (Nat → Int64)) (t_model_items : (Nat → Int32)) (t_model_lines : Int32) (t_model_order : (Nat → Int32)) (t_model_value : (Nat → Int32)) : xf_xt_join t_model_name t_model_number t_model_size t_model_sort t_model_start t_model_used n_t_graph_leads_to n t_graph_depth t_graph_direct t_graph_grouped t_graph_leads_to t_graph_reach t_model_items t_model_lines t_model_order t_model_value = (
  (xf_gr_group t_graph_depth t_model_items t_model_lines t_model_name t_model_number t_model_order t_model_size t_model_sort t_model_start t_model_used t_model_value n_t_graph_leads_to n t_graph_grouped t_graph_leads_to).bind fun q544 =>
  (xf_md_follow q544.2.2 t_model_number t_model_size t_model_sort t_model_start t_model_used n_t_graph_leads_to n t_model_items t_model_lines t_model_order t_model_value).bind fun q571 =>
  (xf_gr_learn q571.2.1 q571.2.2.1 t_model_number q571.2.2.2.1 t_model_size t_model_sort t_model_start t_model_used q571.2.2.2.2 n t_graph_depth t_graph_direct q544.2.1 t_graph_reach).bind fun q572 =>
  some (t_model_lines - q571.2.2.1, q572.2.1, q572.2.2.1, q572.2.2.2.1, q544.2.2, q572.2.2.2.2, q571.2.1, q571.2.2.1, q571.2.2.2.1, q571.2.2.2.2)) := rfl
theorem xf_rf_thrown_s (t_thrown : Int32) : xf_rf_thrown t_thrown = (
  some t_thrown) := rfl
theorem xf_rf_fails_28_s (t_thrown : Int32) (s0 : Int32) : xf_rf_fails_28 t_thrown s0 = (
  if fits .boolean (.int s0) = true then some (s0, t_thrown) else none) := rfl
theorem xf_rf_fails_16_s (t_thrown : Int32) : xf_rf_fails_16 t_thrown = (
  if (Int32.ofNat 0) < t_thrown then
    (xf_rf_fails_28 t_thrown (Int32.ofNat 1))
  else
    xf_rf_fails_28 t_thrown (Int32.ofNat 0)) := rfl
theorem xf_rf_fails_s (t_thrown : Int32) (a1 : Int32) (a2 : Int32) : xf_rf_fails t_thrown a1 a2 = (
  if t_thrown = (Int32.ofNat 0) then
    (if a1 = (Int32.ofNat 0) then
      (xf_rf_fails_16 t_thrown)
    else
      xf_rf_fails_16 a2)
  else
    xf_rf_fails_16 t_thrown) := rfl
theorem xf_rf_say_171_s (k129 : Int32 → (Nat → Int32) → Int32 → Int64 → Int32 → Option (Int32 × Int32 × (Nat → Int32) × Int32)) (n : Nat) (t_size : Int32) (t_text : (Nat → Int32)) (t_thrown : Int32) (v1 : Int64) (v5 : Int32) : xf_rf_say_171 k129 n t_size t_text t_thrown v1 v5 = (
  k129 t_size t_text t_thrown v1 (v5 + (-8 : Int32))) := rfl
theorem xf_rf_say_129_s (n : Nat) (N : Nat) (t_size : Int32) (t_text : (Nat → Int32)) (t_thrown : Int32) (v1 : Int64) (v5 : Int32) : xf_rf_say_129 n (N + 1) t_size t_text t_thrown v1 v5 = (
    if v5 < (Int32.ofNat 0) then
      (some (t_size, t_size, t_text, t_thrown))
    else
      if (Int32.ofNat 0) < (((xe_shr v1 v5) &&& ((255 : Int64))).toInt32) then
        (if xr_in t_size 1200 = true then
          (xf_rf_say_171 (xf_rf_say_129 n N) n (t_size + (Int32.ofNat 1)) (upd t_text t_size.toNatClampNeg ((((xe_shr v1 v5) &&& ((255 : Int64))).toInt32))) t_thrown v1 v5)
        else none)
      else
        xf_rf_say_171 (xf_rf_say_129 n N) n t_size t_text t_thrown v1 v5) := rfl
theorem xf_rf_say_123_s (n : Nat) (t_size : Int32) (t_text : (Nat → Int32)) (t_thrown : Int32) : xf_rf_say_123 n t_size t_text t_thrown = (
  some ((Int32.ofNat 0), t_size, t_text, t_thrown)) := rfl
theorem xf_rf_say_116_s (n : Nat) (t_size : Int32) (t_text : (Nat → Int32)) (t_thrown : Int32) (v1 : Int64) (s1 : Int32) : xf_rf_say_116 n t_size t_text t_thrown v1 s1 = (
  (xf_rf_fails t_thrown s1 (Int32.ofNat 2)).bind fun q582 =>
  if q582.1 = (Int32.ofNat 0) then
    (xf_rf_say_129 n n t_size t_text q582.2 v1 (Int32.ofNat 56))
  else
    xf_rf_say_123 n t_size t_text q582.2) := rfl
theorem xf_rf_say_91_s (n : Nat) (t_size : Int32) (t_text : (Nat → Int32)) (t_thrown : Int32) (v1 : Int64) (v3 : Int32) (s1 : Int32) : xf_rf_say_91 n t_size t_text t_thrown v1 v3 s1 = (
  (xf_rf_fails t_thrown s1 (Int32.ofNat 1)).bind fun q579 =>
  if q579.1 = (Int32.ofNat 0) then
    (if (Int32.ofNat 1200) < (t_size + v3) then
      (xf_rf_say_116 n t_size t_text q579.2 v1 (Int32.ofNat 1))
    else
      xf_rf_say_116 n t_size t_text q579.2 v1 (Int32.ofNat 0))
  else
    xf_rf_say_123 n t_size t_text q579.2) := rfl
theorem xf_rf_say_72_s (k14 : Int32 → (Nat → Int32) → Int32 → Int64 → Int32 → Int32 → Int32 → Option (Int32 × Int32 × (Nat → Int32) × Int32)) (n : Nat) (t_size : Int32) (t_text : (Nat → Int32)) (t_thrown : Int32) (v1 : Int64) (v4 : Int32) (v5 : Int32) (s0 : Int32) (s1 : Int32) : xf_rf_say_72 k14 n t_size t_text t_thrown v1 v4 v5 s0 s1 = (
  k14 t_size t_text t_thrown v1 (s0 + s1) v4 (v5 + (-8 : Int32))) := rfl
theorem xf_rf_say_59_s (k14 : Int32 → (Nat → Int32) → Int32 → Int64 → Int32 → Int32 → Int32 → Option (Int32 × Int32 × (Nat → Int32) × Int32)) (n : Nat) (t_size : Int32) (t_text : (Nat → Int32)) (t_thrown : Int32) (v1 : Int64) (v3 : Int32) (v5 : Int32) (v6 : Int32) (s0 : Int32) : xf_rf_say_59 k14 n t_size t_text t_thrown v1 v3 v5 v6 s0 = (
  if v6 = (Int32.ofNat 0) then
    (xf_rf_say_72 k14 n t_size t_text t_thrown v1 s0 v5 v3 (Int32.ofNat 0))
  else
    xf_rf_say_72 k14 n t_size t_text t_thrown v1 s0 v5 v3 (Int32.ofNat 1)) := rfl
theorem xf_rf_say_58_s (k14 : Int32 → (Nat → Int32) → Int32 → Int64 → Int32 → Int32 → Int32 → Option (Int32 × Int32 × (Nat → Int32) × Int32)) (n : Nat) (t_size : Int32) (t_text : (Nat → Int32)) (t_thrown : Int32) (v1 : Int64) (v3 : Int32) (v5 : Int32) (v6 : Int32) : xf_rf_say_58 k14 n t_size t_text t_thrown v1 v3 v5 v6 = (
  xf_rf_say_59 k14 n t_size t_text t_thrown v1 v3 v5 v6 (Int32.ofNat 0)) := rfl
theorem xf_rf_say_54_s (k14 : Int32 → (Nat → Int32) → Int32 → Int64 → Int32 → Int32 → Int32 → Option (Int32 × Int32 × (Nat → Int32) × Int32)) (n : Nat) (t_size : Int32) (t_text : (Nat → Int32)) (t_thrown : Int32) (v1 : Int64) (v3 : Int32) (v5 : Int32) (v6 : Int32) : xf_rf_say_54 k14 n t_size t_text t_thrown v1 v3 v5 v6 = (
  xf_rf_say_59 k14 n t_size t_text t_thrown v1 v3 v5 v6 (Int32.ofNat 1)) := rfl
theorem xf_rf_say_14_s (n : Nat) (N : Nat) (t_size : Int32) (t_text : (Nat → Int32)) (t_thrown : Int32) (v1 : Int64) (v3 : Int32) (v4 : Int32) (v5 : Int32) : xf_rf_say_14 n (N + 1) t_size t_text t_thrown v1 v3 v4 v5 = (
    if v5 < (Int32.ofNat 0) then
      (if v4 = (Int32.ofNat 0) then
        (xf_rf_say_91 n t_size t_text t_thrown v1 v3 (Int32.ofNat 1))
      else
        xf_rf_say_91 n t_size t_text t_thrown v1 v3 (Int32.ofNat 0))
    else
      if v4 = (Int32.ofNat 0) then
        (xf_rf_say_58 (xf_rf_say_14 n N) n t_size t_text t_thrown v1 v3 v5 (((xe_shr v1 v5) &&& ((255 : Int64))).toInt32))
      else
        if (((xe_shr v1 v5) &&& ((255 : Int64))).toInt32) = (Int32.ofNat 0) then
          (xf_rf_say_54 (xf_rf_say_14 n N) n t_size t_text t_thrown v1 v3 v5 (((xe_shr v1 v5) &&& ((255 : Int64))).toInt32))
        else
          if (((xe_shr v1 v5) &&& ((255 : Int64))).toInt32) < (Int32.ofNat 32) then
            (xf_rf_say_58 (xf_rf_say_14 n N) n t_size t_text t_thrown v1 v3 v5 (((xe_shr v1 v5) &&& ((255 : Int64))).toInt32))
          else
            if (Int32.ofNat 126) < (((xe_shr v1 v5) &&& ((255 : Int64))).toInt32) then
              (xf_rf_say_58 (xf_rf_say_14 n N) n t_size t_text t_thrown v1 v3 v5 (((xe_shr v1 v5) &&& ((255 : Int64))).toInt32))
            else
              xf_rf_say_54 (xf_rf_say_14 n N) n t_size t_text t_thrown v1 v3 v5 (((xe_shr v1 v5) &&& ((255 : Int64))).toInt32)) := rfl
theorem xf_rf_say_s (n : Nat) (t_size : Int32) (t_text : (Nat → Int32)) (t_thrown : Int32) (a1 : Int64) : xf_rf_say n t_size t_text t_thrown a1 = (
  xf_rf_say_14 n n t_size t_text (Int32.ofNat 0) a1 (Int32.ofNat 0) (Int32.ofNat 1) (Int32.ofNat 56)) := rfl
theorem xf_rf_trim_23_s (t_size : Int32) (t_thrown : Int32) (v1 : Int32) (s1 : Int32) : xf_rf_trim_23 t_size t_thrown v1 s1 = (
  (xf_rf_fails t_thrown s1 (Int32.ofNat 1)).bind fun q593 =>
  if q593.1 = (Int32.ofNat 0) then
    (some (t_size - v1, t_size - v1, q593.2))
  else
    some ((Int32.ofNat 0), t_size, q593.2)) := rfl
theorem xf_rf_trim_18_s (t_size : Int32) (t_thrown : Int32) (v1 : Int32) : xf_rf_trim_18 t_size t_thrown v1 = (
  xf_rf_trim_23 t_size t_thrown v1 (Int32.ofNat 1)) := rfl
theorem xf_rf_trim_s (t_size : Int32) (t_thrown : Int32) (a1 : Int32) : xf_rf_trim t_size t_thrown a1 = (
  if a1 < (Int32.ofNat 0) then
    (xf_rf_trim_18 t_size (Int32.ofNat 0) a1)
  else
    if t_size < a1 then
      (xf_rf_trim_18 t_size (Int32.ofNat 0) a1)
    else
      xf_rf_trim_23 t_size (Int32.ofNat 0) a1 (Int32.ofNat 0)) := rfl
theorem xf_rf_charAt_40_s (t_size : Int32) (t_text : (Nat → Int32)) (t_thrown : Int32) (s0 : Int32) : xf_rf_charAt_40 t_size t_text t_thrown s0 = (
  some (s0, t_thrown)) := rfl
theorem xf_rf_charAt_23_s (t_size : Int32) (t_text : (Nat → Int32)) (t_thrown : Int32) (v1 : Int32) (s1 : Int32) : xf_rf_charAt_23 t_size t_text t_thrown v1 s1 = (
  (xf_rf_fails t_thrown s1 (Int32.ofNat 1)).bind fun q597 =>
  if q597.1 = (Int32.ofNat 0) then
    (if xr_in v1 1200 = true then
      (xf_rf_charAt_40 t_size t_text q597.2 (t_text v1.toNatClampNeg))
    else none)
  else
    xf_rf_charAt_40 t_size t_text q597.2 (Int32.ofNat 0)) := rfl
theorem xf_rf_charAt_18_s (t_size : Int32) (t_text : (Nat → Int32)) (t_thrown : Int32) (v1 : Int32) : xf_rf_charAt_18 t_size t_text t_thrown v1 = (
  xf_rf_charAt_23 t_size t_text t_thrown v1 (Int32.ofNat 1)) := rfl
theorem xf_rf_charAt_s (t_size : Int32) (t_text : (Nat → Int32)) (t_thrown : Int32) (a1 : Int32) : xf_rf_charAt t_size t_text t_thrown a1 = (
  if a1 < (Int32.ofNat 0) then
    (xf_rf_charAt_18 t_size t_text (Int32.ofNat 0) a1)
  else
    if a1 < t_size then
      (xf_rf_charAt_23 t_size t_text (Int32.ofNat 0) a1 (Int32.ofNat 0))
    else
      xf_rf_charAt_18 t_size t_text (Int32.ofNat 0) a1) := rfl
theorem xf_rf_peek_62_s (t_size : Int32) (t_text : (Nat → Int32)) (n : Nat) (t_at : Int32) (s0 : Int32) : xf_rf_peek_62 t_size t_text n t_at s0 = (
  some (s0, t_at)) := rfl
theorem xf_rf_peek_38_s (t_size : Int32) (t_text : (Nat → Int32)) (n : Nat) (t_at : Int32) : xf_rf_peek_38 t_size t_text n t_at = (
  if t_at < t_size then
    (if xr_in t_at 1200 = true then
      (xf_rf_peek_62 t_size t_text n t_at (t_text t_at.toNatClampNeg))
    else none)
  else
    xf_rf_peek_62 t_size t_text n t_at (Int32.ofNat 0)) := rfl
theorem xf_rf_peek_0_s (t_size : Int32) (t_text : (Nat → Int32)) (n : Nat) (N : Nat) (t_at : Int32) : xf_rf_peek_0 t_size t_text n (N + 1) t_at = (
    if t_at < t_size then
      (if xr_in t_at 1200 = true then
        (if (t_text t_at.toNatClampNeg) = (Int32.ofNat 32) then
          ((xf_rf_peek_0 t_size t_text n N) (t_at + (Int32.ofNat 1)))
        else
          xf_rf_peek_38 t_size t_text n t_at)
      else none)
    else
      xf_rf_peek_38 t_size t_text n t_at) := rfl
theorem xf_rf_peek_s (t_size : Int32) (t_text : (Nat → Int32)) (n : Nat) (t_at : Int32) : xf_rf_peek t_size t_text n t_at = (
  xf_rf_peek_0 t_size t_text n n t_at) := rfl
theorem xf_rf_schema_111_s (t_text : (Nat → Int32)) (k73 : Int32 → Int32 → Int32 → (Nat → Int32) → (Nat → Int32) → (Nat → Int32) → (Nat → Int32) → (Nat → Int32) → (Nat → Int32) → Int32 → Int32 → Int32 → Option (Int32 × Int32 × Int32 × Int32 × (Nat → Int32) × (Nat → Int32) × (Nat → Int32) × (Nat → Int32) × (Nat → Int32) × (Nat → Int32) × Int32 × Int32)) (n : Nat) (N : Nat) (t_at : Int32) (t_fault : Int32) (t_from : Int32) (t_kindLetters : (Nat → Int32)) (t_kindMay : (Nat → Int32)) (t_kindNames : (Nat → Int32)) (t_kindParts : (Nat → Int32)) (t_kindSorts : (Nat → Int32)) (t_kinds : (Nat → Int32)) (t_size : Int32) (t_thrown : Int32) (v1 : Int32) (v2 : Int32) : xf_rf_schema_111 t_text k73 n (N + 1) t_at t_fault t_from t_kindLetters t_kindMay t_kindNames t_kindParts t_kindSorts t_kinds t_size t_thrown v1 v2 = (
    if v2 < (Int32.ofNat 8) then
      (if xr_in (((Int32.ofNat 8) * ((Int32.ofNat 12) + v1)) + v2) 192 = true then
        (if xr_in (((Int32.ofNat 8) * v1) + v2) 192 = true then
          (if xr_in (((Int32.ofNat 8) * ((Int32.ofNat 12) + v1)) + v2) 192 = true then
            (if xr_in (((Int32.ofNat 8) * v1) + v2) 192 = true then
              (if xr_in (((Int32.ofNat 8) * ((Int32.ofNat 12) + v1)) + v2) 192 = true then
                (if xr_in (((Int32.ofNat 8) * v1) + v2) 192 = true then
                  ((xf_rf_schema_111 t_text k73 n N) t_at t_fault t_from t_kindLetters (upd t_kindMay (((Int32.ofNat 8) * v1) + v2).toNatClampNeg (vp_nar .boolean (t_kindMay (((Int32.ofNat 8) * ((Int32.ofNat 12) + v1)) + v2).toNatClampNeg))) (upd t_kindNames (((Int32.ofNat 8) * v1) + v2).toNatClampNeg ((t_kindNames (((Int32.ofNat 8) * ((Int32.ofNat 12) + v1)) + v2).toNatClampNeg))) t_kindParts (upd t_kindSorts (((Int32.ofNat 8) * v1) + v2).toNatClampNeg ((t_kindSorts (((Int32.ofNat 8) * ((Int32.ofNat 12) + v1)) + v2).toNatClampNeg))) t_kinds t_size t_thrown v1 (v2 + (Int32.ofNat 1)))
                else none)
              else none)
            else none)
          else none)
        else none)
      else none)
    else
      k73 t_at t_fault t_from t_kindLetters t_kindMay t_kindNames t_kindParts t_kindSorts t_kinds t_size t_thrown (v1 + (Int32.ofNat 1))) := rfl
theorem xf_rf_schema_73_s (t_text : (Nat → Int32)) (n : Nat) (N : Nat) (t_at : Int32) (t_fault : Int32) (t_from : Int32) (t_kindLetters : (Nat → Int32)) (t_kindMay : (Nat → Int32)) (t_kindNames : (Nat → Int32)) (t_kindParts : (Nat → Int32)) (t_kindSorts : (Nat → Int32)) (t_kinds : (Nat → Int32)) (t_size : Int32) (t_thrown : Int32) (v1 : Int32) : xf_rf_schema_73 t_text n (N + 1) t_at t_fault t_from t_kindLetters t_kindMay t_kindNames t_kindParts t_kindSorts t_kinds t_size t_thrown v1 = (
    if v1 < (Int32.ofNat 12) then
      (if xr_in ((Int32.ofNat 12) + v1) 24 = true then
        (if xr_in v1 24 = true then
          (if xr_in ((Int32.ofNat 12) + v1) 24 = true then
            (if xr_in v1 24 = true then
              (xf_rf_schema_111 t_text (xf_rf_schema_73 t_text n N) n n t_at t_fault t_from (upd t_kindLetters v1.toNatClampNeg ((t_kindLetters ((Int32.ofNat 12) + v1).toNatClampNeg))) t_kindMay t_kindNames (upd t_kindParts v1.toNatClampNeg ((t_kindParts ((Int32.ofNat 12) + v1).toNatClampNeg))) t_kindSorts t_kinds t_size t_thrown v1 (Int32.ofNat 0))
            else none)
          else none)
        else none)
      else none)
    else
      some (t_kinds (Int32.ofNat 0).toNatClampNeg, t_at, t_fault, t_from, t_kindLetters, t_kindMay, t_kindNames, t_kindParts, t_kindSorts, t_kinds, (Int32.ofNat 0), t_thrown)) := rfl
theorem xf_rf_schema_44_s (t_text : (Nat → Int32)) (n : Nat) (t_at : Int32) (t_fault : Int32) (t_from : Int32) (t_kindLetters : (Nat → Int32)) (t_kindMay : (Nat → Int32)) (t_kindNames : (Nat → Int32)) (t_kindParts : (Nat → Int32)) (t_kindSorts : (Nat → Int32)) (t_kinds : (Nat → Int32)) (t_size : Int32) (t_thrown : Int32) : xf_rf_schema_44 t_text n t_at t_fault t_from t_kindLetters t_kindMay t_kindNames t_kindParts t_kindSorts t_kinds t_size t_thrown = (
  if t_fault = (-1 : Int32) then
    (xf_rf_schema_73 t_text n n t_at t_fault t_from t_kindLetters t_kindMay t_kindNames t_kindParts t_kindSorts (upd t_kinds (Int32.ofNat 0).toNatClampNeg ((t_kinds (Int32.ofNat 1).toNatClampNeg))) t_size t_thrown (Int32.ofNat 0))
  else
    some ((-1 : Int32) - t_fault, t_at, t_fault, t_from, t_kindLetters, t_kindMay, t_kindNames, t_kindParts, t_kindSorts, t_kinds, t_size, t_thrown)) := rfl
theorem xf_rf_wrongAt_13_s (t_fault : Int32) : xf_rf_wrongAt_13 t_fault = (
  some ((), t_fault)) := rfl
theorem xf_rf_wrongAt_s (t_fault : Int32) (a1 : Int32) : xf_rf_wrongAt t_fault a1 = (
  if t_fault = (-1 : Int32) then
    (xf_rf_wrongAt_13 a1)
  else
    xf_rf_wrongAt_13 t_fault) := rfl
theorem xf_rf_isLetter_17_s (s0 : Int32) : xf_rf_isLetter_17 s0 = (
  if fits .boolean (.int s0) = true then some s0 else none) := rfl
theorem xf_rf_isLetter_16_s  : xf_rf_isLetter_16 = (
  xf_rf_isLetter_17 (Int32.ofNat 0)) := rfl
theorem xf_rf_isLetter_s (a1 : Int32) : xf_rf_isLetter a1 = (
  if a1 < (Int32.ofNat 65) then
    (xf_rf_isLetter_16 )
  else
    if (Int32.ofNat 90) < a1 then
      (xf_rf_isLetter_16 )
    else
      xf_rf_isLetter_17 (Int32.ofNat 1)) := rfl
theorem xf_rf_name_131_s (t_size : Int32) (t_text : (Nat → Int32)) (n_p1 : Nat) (n : Nat) (p1 : (Nat → Int32)) (t_at : Int32) (t_fault : Int32) (t_from : Int32) : xf_rf_name_131 t_size t_text n_p1 n p1 t_at t_fault t_from = (
  some (t_at - t_from, p1, t_at, t_fault, t_from)) := rfl
theorem xf_rf_name_123_s (t_size : Int32) (t_text : (Nat → Int32)) (n_p1 : Nat) (n : Nat) (p1 : (Nat → Int32)) (t_at : Int32) (t_fault : Int32) (t_from : Int32) : xf_rf_name_123 t_size t_text n_p1 n p1 t_at t_fault t_from = (
  (xf_rf_wrongAt t_fault t_from).bind fun q635 =>
  xf_rf_name_131 t_size t_text n_p1 n p1 t_at q635.2 t_from) := rfl
theorem xf_rf_name_98_s (t_size : Int32) (t_text : (Nat → Int32)) (n_p1 : Nat) (n : Nat) (p1 : (Nat → Int32)) (t_at : Int32) (t_fault : Int32) (t_from : Int32) : xf_rf_name_98 t_size t_text n_p1 n p1 t_at t_fault t_from = (
  if t_at = t_from then
    (xf_rf_name_123 t_size t_text n_p1 n p1 t_at t_fault t_from)
  else
    if (Int32.ofNat 8) < (t_at - t_from) then
      (xf_rf_name_123 t_size t_text n_p1 n p1 t_at t_fault t_from)
    else
      xf_rf_name_131 t_size t_text n_p1 n p1 t_at t_fault t_from) := rfl
theorem xf_rf_name_85_s (t_size : Int32) (t_text : (Nat → Int32)) (n_p1 : Nat) (k23 : (Nat → Int32) → Int32 → Int32 → Int32 → Int32 → Option (Int32 × (Nat → Int32) × Int32 × Int32 × Int32)) (n : Nat) (p1 : (Nat → Int32)) (t_at : Int32) (t_fault : Int32) (t_from : Int32) (v2 : Int32) : xf_rf_name_85 t_size t_text n_p1 k23 n p1 t_at t_fault t_from v2 = (
  k23 p1 (t_at + (Int32.ofNat 1)) t_fault t_from v2) := rfl
theorem xf_rf_name_23_s (t_size : Int32) (t_text : (Nat → Int32)) (n_p1 : Nat) (n : Nat) (N : Nat) (p1 : (Nat → Int32)) (t_at : Int32) (t_fault : Int32) (t_from : Int32) (v2 : Int32) : xf_rf_name_23 t_size t_text n_p1 n (N + 1) p1 t_at t_fault t_from v2 = (
    if t_at < t_size then
      (if xr_in t_at 1200 = true then
        ((xf_rf_isLetter (t_text t_at.toNatClampNeg)).bind fun q632 =>
        if q632 = (Int32.ofNat 0) then
          (xf_rf_name_98 t_size t_text n_p1 n p1 t_at t_fault t_from)
        else
          if (t_at - t_from) < (Int32.ofNat 8) then
            (if xr_in t_at 1200 = true then
              (if xr_in ((v2 + t_at) - t_from) n_p1 = true then
                (xf_rf_name_85 t_size t_text n_p1 (xf_rf_name_23 t_size t_text n_p1 n N) n (upd p1 ((v2 + t_at) - t_from).toNatClampNeg ((t_text t_at.toNatClampNeg))) t_at t_fault t_from v2)
              else none)
            else none)
          else
            xf_rf_name_85 t_size t_text n_p1 (xf_rf_name_23 t_size t_text n_p1 n N) n p1 t_at t_fault t_from v2)
      else none)
    else
      xf_rf_name_98 t_size t_text n_p1 n p1 t_at t_fault t_from) := rfl
theorem xf_rf_name_s (t_size : Int32) (t_text : (Nat → Int32)) (n_p1 : Nat) (n : Nat) (p1 : (Nat → Int32)) (t_at : Int32) (t_fault : Int32) (t_from : Int32) (a2 : Int32) : xf_rf_name t_size t_text n_p1 n p1 t_at t_fault t_from a2 = (
  if t_fault = (-1 : Int32) then
    ((xf_rf_peek t_size t_text n t_at).bind fun q626 =>
    xf_rf_name_23 t_size t_text n_p1 n n p1 q626.2 t_fault q626.2 a2)
  else
    some ((Int32.ofNat 0), p1, t_at, t_fault, t_from)) := rfl
theorem xf_rf_isSame_38_s (p1 : (Nat → Int32)) (p3 : (Nat → Int32)) (n_p1 : Nat) (n_p3 : Nat) (k6 : Int32 → Int32 → Int32 → Int32 → Int32 → Option (Int32)) (n : Nat) (v1 : Int32) (v3 : Int32) (v4 : Int32) (v6 : Int32) (s0 : Int32) : xf_rf_isSame_38 p1 p3 n_p1 n_p3 k6 n v1 v3 v4 v6 s0 = (
  k6 v1 v3 v4 s0 (v6 + (Int32.ofNat 1))) := rfl
theorem xf_rf_isSame_37_s (p1 : (Nat → Int32)) (p3 : (Nat → Int32)) (n_p1 : Nat) (n_p3 : Nat) (k6 : Int32 → Int32 → Int32 → Int32 → Int32 → Option (Int32)) (n : Nat) (v1 : Int32) (v3 : Int32) (v4 : Int32) (v6 : Int32) : xf_rf_isSame_37 p1 p3 n_p1 n_p3 k6 n v1 v3 v4 v6 = (
  xf_rf_isSame_38 p1 p3 n_p1 n_p3 k6 n v1 v3 v4 v6 (Int32.ofNat 0)) := rfl
theorem xf_rf_isSame_6_s (p1 : (Nat → Int32)) (p3 : (Nat → Int32)) (n_p1 : Nat) (n_p3 : Nat) (n : Nat) (N : Nat) (v1 : Int32) (v3 : Int32) (v4 : Int32) (v5 : Int32) (v6 : Int32) : xf_rf_isSame_6 p1 p3 n_p1 n_p3 n (N + 1) v1 v3 v4 v5 v6 = (
    if v6 < v4 then
      (if v5 = (Int32.ofNat 0) then
        (xf_rf_isSame_37 p1 p3 n_p1 n_p3 (xf_rf_isSame_6 p1 p3 n_p1 n_p3 n N) n v1 v3 v4 v6)
      else
        if xr_in (v1 + v6) n_p1 = true then
          (if xr_in (v3 + v6) n_p3 = true then
            (if (p1 (v1 + v6).toNatClampNeg) = (p3 (v3 + v6).toNatClampNeg) then
              (xf_rf_isSame_38 p1 p3 n_p1 n_p3 (xf_rf_isSame_6 p1 p3 n_p1 n_p3 n N) n v1 v3 v4 v6 (Int32.ofNat 1))
            else
              xf_rf_isSame_37 p1 p3 n_p1 n_p3 (xf_rf_isSame_6 p1 p3 n_p1 n_p3 n N) n v1 v3 v4 v6)
          else none)
        else none)
    else
      if fits .boolean (.int v5) = true then some v5 else none) := rfl
theorem xf_rf_isSame_s (p1 : (Nat → Int32)) (p3 : (Nat → Int32)) (n_p1 : Nat) (n_p3 : Nat) (n : Nat) (a2 : Int32) (a4 : Int32) (a5 : Int32) : xf_rf_isSame p1 p3 n_p1 n_p3 n a2 a4 a5 = (
  xf_rf_isSame_6 p1 p3 n_p1 n_p3 n n a2 a4 a5 (Int32.ofNat 1) (Int32.ofNat 0)) := rfl
theorem xf_rf_kind_107_s (t_size : Int32) (t_text : (Nat → Int32)) (k51 : Int32 → Int32 → Int32 → (Nat → Int32) → (Nat → Int32) → (Nat → Int32) → (Nat → Int32) → (Nat → Int32) → (Nat → Int32) → Int32 → Int32 → Option (Unit × Int32 × Int32 × Int32 × (Nat → Int32) × (Nat → Int32) × (Nat → Int32) × (Nat → Int32) × (Nat → Int32) × (Nat → Int32))) (n : Nat) (t_at : Int32) (t_fault : Int32) (t_from : Int32) (t_kindLetters : (Nat → Int32)) (t_kindMay : (Nat → Int32)) (t_kindNames : (Nat → Int32)) (t_kindParts : (Nat → Int32)) (t_kindSorts : (Nat → Int32)) (t_kinds : (Nat → Int32)) (v1 : Int32) (v2 : Int32) : xf_rf_kind_107 t_size t_text k51 n t_at t_fault t_from t_kindLetters t_kindMay t_kindNames t_kindParts t_kindSorts t_kinds v1 v2 = (
  k51 t_at t_fault t_from t_kindLetters t_kindMay t_kindNames t_kindParts t_kindSorts t_kinds v1 (v2 + (Int32.ofNat 1))) := rfl
theorem xf_rf_sign_38_s (t_size : Int32) (t_text : (Nat → Int32)) (n : Nat) (t_at : Int32) (t_fault : Int32) : xf_rf_sign_38 t_size t_text n t_at t_fault = (
  some ((), t_at, t_fault)) := rfl
theorem xf_rf_sign_s (t_size : Int32) (t_text : (Nat → Int32)) (n : Nat) (t_at : Int32) (t_fault : Int32) (a1 : Int32) : xf_rf_sign t_size t_text n t_at t_fault a1 = (
  if t_fault = (-1 : Int32) then
    ((xf_rf_peek t_size t_text n t_at).bind fun q657 =>
    if q657.1 = a1 then
      (xf_rf_sign_38 t_size t_text n (q657.2 + (Int32.ofNat 1)) t_fault)
    else
      (xf_rf_wrongAt t_fault q657.2).bind fun q659 =>
      xf_rf_sign_38 t_size t_text n q657.2 q659.2)
  else
    some ((), t_at, t_fault)) := rfl
theorem xf_rf_kind_265_s (t_size : Int32) (t_text : (Nat → Int32)) (n : Nat) (t_at : Int32) (t_fault : Int32) (t_from : Int32) (t_kindLetters : (Nat → Int32)) (t_kindMay : (Nat → Int32)) (t_kindNames : (Nat → Int32)) (t_kindParts : (Nat → Int32)) (t_kindSorts : (Nat → Int32)) (t_kinds : (Nat → Int32)) (v1 : Int32) (v2 : Int32) : xf_rf_kind_265 t_size t_text n t_at t_fault t_from t_kindLetters t_kindMay t_kindNames t_kindParts t_kindSorts t_kinds v1 v2 = (
  if xr_in v1 24 = true then
    (some ((), t_at, t_fault, t_from, t_kindLetters, t_kindMay, t_kindNames, upd t_kindParts v1.toNatClampNeg v2, t_kindSorts, upd t_kinds (Int32.ofNat 1).toNatClampNeg (((t_kinds (Int32.ofNat 1).toNatClampNeg) + (Int32.ofNat 1)))))
  else none) := rfl
theorem xf_rf_kind_252_s (t_size : Int32) (t_text : (Nat → Int32)) (k126 : Int32 → Int32 → Int32 → (Nat → Int32) → (Nat → Int32) → (Nat → Int32) → (Nat → Int32) → (Nat → Int32) → (Nat → Int32) → Int32 → Int32 → Int32 → Int32 → Option (Unit × Int32 × Int32 × Int32 × (Nat → Int32) × (Nat → Int32) × (Nat → Int32) × (Nat → Int32) × (Nat → Int32) × (Nat → Int32))) (n : Nat) (t_at : Int32) (t_fault : Int32) (t_from : Int32) (t_kindLetters : (Nat → Int32)) (t_kindMay : (Nat → Int32)) (t_kindNames : (Nat → Int32)) (t_kindParts : (Nat → Int32)) (t_kindSorts : (Nat → Int32)) (t_kinds : (Nat → Int32)) (v1 : Int32) (v2 : Int32) (v3 : Int32) (v4 : Int32) : xf_rf_kind_252 t_size t_text k126 n t_at t_fault t_from t_kindLetters t_kindMay t_kindNames t_kindParts t_kindSorts t_kinds v1 v2 v3 v4 = (
  k126 (t_at + (Int32.ofNat 1)) t_fault t_from t_kindLetters t_kindMay t_kindNames t_kindParts t_kindSorts t_kinds v1 v2 v3 v4) := rfl
theorem xf_rf_kind_207_s (t_size : Int32) (t_text : (Nat → Int32)) (k126 : Int32 → Int32 → Int32 → (Nat → Int32) → (Nat → Int32) → (Nat → Int32) → (Nat → Int32) → (Nat → Int32) → (Nat → Int32) → Int32 → Int32 → Int32 → Int32 → Option (Unit × Int32 × Int32 × Int32 × (Nat → Int32) × (Nat → Int32) × (Nat → Int32) × (Nat → Int32) × (Nat → Int32) × (Nat → Int32))) (n : Nat) (t_at : Int32) (t_fault : Int32) (t_from : Int32) (t_kindLetters : (Nat → Int32)) (t_kindMay : (Nat → Int32)) (t_kindNames : (Nat → Int32)) (t_kindParts : (Nat → Int32)) (t_kindSorts : (Nat → Int32)) (t_kinds : (Nat → Int32)) (v1 : Int32) (v2 : Int32) (v3 : Int32) (v4 : Int32) : xf_rf_kind_207 t_size t_text k126 n t_at t_fault t_from t_kindLetters t_kindMay t_kindNames t_kindParts t_kindSorts t_kinds v1 v2 v3 v4 = (
  (xf_rf_wrongAt t_fault t_at).bind fun q671 =>
  xf_rf_kind_252 t_size t_text k126 n t_at q671.2 t_from t_kindLetters t_kindMay t_kindNames t_kindParts t_kindSorts t_kinds v1 v2 v3 v4) := rfl
theorem xf_rf_sortOf_92_s  : xf_rf_sortOf_92 = (
  some (-1 : Int32)) := rfl
theorem xf_rf_sortOf_s (a1 : Int32) : xf_rf_sortOf a1 = (
  if a1 = (Int32.ofNat 69) then
    (some (Int32.ofNat 5))
  else
    if a1 = (Int32.ofNat 70) then
      (xf_rf_sortOf_92 )
    else
      if a1 = (Int32.ofNat 71) then
        (xf_rf_sortOf_92 )
      else
        if a1 = (Int32.ofNat 72) then
          (xf_rf_sortOf_92 )
        else
          if a1 = (Int32.ofNat 73) then
            (some (Int32.ofNat 0))
          else
            if a1 = (Int32.ofNat 74) then
              (xf_rf_sortOf_92 )
            else
              if a1 = (Int32.ofNat 75) then
                (xf_rf_sortOf_92 )
              else
                if a1 = (Int32.ofNat 76) then
                  (some (Int32.ofNat 3))
                else
                  if a1 = (Int32.ofNat 77) then
                    (some (Int32.ofNat 4))
                  else
                    if a1 = (Int32.ofNat 78) then
                      (xf_rf_sortOf_92 )
                    else
                      if a1 = (Int32.ofNat 79) then
                        (xf_rf_sortOf_92 )
                      else
                        if a1 = (Int32.ofNat 80) then
                          (xf_rf_sortOf_92 )
                        else
                          if a1 = (Int32.ofNat 81) then
                            (xf_rf_sortOf_92 )
                          else
                            if a1 = (Int32.ofNat 82) then
                              (some (Int32.ofNat 2))
                            else
                              if a1 = (Int32.ofNat 83) then
                                (xf_rf_sortOf_92 )
                              else
                                if a1 = (Int32.ofNat 84) then
                                  (some (Int32.ofNat 1))
                                else
                                  xf_rf_sortOf_92 ) := rfl
theorem xf_rf_kind_192_s (t_size : Int32) (t_text : (Nat → Int32)) (k126 : Int32 → Int32 → Int32 → (Nat → Int32) → (Nat → Int32) → (Nat → Int32) → (Nat → Int32) → (Nat → Int32) → (Nat → Int32) → Int32 → Int32 → Int32 → Int32 → Option (Unit × Int32 × Int32 × Int32 × (Nat → Int32) × (Nat → Int32) × (Nat → Int32) × (Nat → Int32) × (Nat → Int32) × (Nat → Int32))) (n : Nat) (t_at : Int32) (t_fault : Int32) (t_from : Int32) (t_kindLetters : (Nat → Int32)) (t_kindMay : (Nat → Int32)) (t_kindNames : (Nat → Int32)) (t_kindParts : (Nat → Int32)) (t_kindSorts : (Nat → Int32)) (t_kinds : (Nat → Int32)) (v1 : Int32) (v2 : Int32) (v3 : Int32) (v4 : Int32) (v5 : Int32) : xf_rf_kind_192 t_size t_text k126 n t_at t_fault t_from t_kindLetters t_kindMay t_kindNames t_kindParts t_kindSorts t_kinds v1 v2 v3 v4 v5 = (
  if v2 = (Int32.ofNat 8) then
    (xf_rf_kind_207 t_size t_text k126 n t_at t_fault t_from t_kindLetters t_kindMay t_kindNames t_kindParts t_kindSorts t_kinds v1 v2 v3 v4)
  else
    (xf_rf_sortOf v5).bind fun q688 =>
    if q688 = (-1 : Int32) then
      (xf_rf_kind_207 t_size t_text k126 n t_at t_fault t_from t_kindLetters t_kindMay t_kindNames t_kindParts t_kindSorts t_kinds v1 v2 v3 v4)
    else
      (xf_rf_sortOf v5).bind fun q690 =>
      if xr_in (((Int32.ofNat 8) * v1) + v2) 192 = true then
        (if xr_in (((Int32.ofNat 8) * v1) + v2) 192 = true then
          (xf_rf_kind_252 t_size t_text k126 n t_at t_fault t_from t_kindLetters (upd t_kindMay (((Int32.ofNat 8) * v1) + v2).toNatClampNeg (vp_nar .boolean (Int32.ofNat 0))) t_kindNames t_kindParts (upd t_kindSorts (((Int32.ofNat 8) * v1) + v2).toNatClampNeg q690) t_kinds v1 (v2 + (Int32.ofNat 1)) v3 (Int32.ofNat 0))
        else none)
      else none) := rfl
theorem xf_rf_kind_160_s (t_size : Int32) (t_text : (Nat → Int32)) (k126 : Int32 → Int32 → Int32 → (Nat → Int32) → (Nat → Int32) → (Nat → Int32) → (Nat → Int32) → (Nat → Int32) → (Nat → Int32) → Int32 → Int32 → Int32 → Int32 → Option (Unit × Int32 × Int32 × Int32 × (Nat → Int32) × (Nat → Int32) × (Nat → Int32) × (Nat → Int32) × (Nat → Int32) × (Nat → Int32))) (n : Nat) (t_at : Int32) (t_fault : Int32) (t_from : Int32) (t_kindLetters : (Nat → Int32)) (t_kindMay : (Nat → Int32)) (t_kindNames : (Nat → Int32)) (t_kindParts : (Nat → Int32)) (t_kindSorts : (Nat → Int32)) (t_kinds : (Nat → Int32)) (v1 : Int32) (v2 : Int32) (v3 : Int32) (v4 : Int32) (v5 : Int32) : xf_rf_kind_160 t_size t_text k126 n t_at t_fault t_from t_kindLetters t_kindMay t_kindNames t_kindParts t_kindSorts t_kinds v1 v2 v3 v4 v5 = (
  if v4 = (Int32.ofNat 0) then
    (if v5 = (Int32.ofNat 63) then
      (if xr_in ((((Int32.ofNat 8) * v1) + v2) - (Int32.ofNat 1)) 192 = true then
        (xf_rf_kind_252 t_size t_text k126 n t_at t_fault t_from t_kindLetters (upd t_kindMay ((((Int32.ofNat 8) * v1) + v2) - (Int32.ofNat 1)).toNatClampNeg (vp_nar .boolean (Int32.ofNat 1))) t_kindNames t_kindParts t_kindSorts t_kinds v1 v2 v3 (Int32.ofNat 1))
      else none)
    else
      xf_rf_kind_192 t_size t_text k126 n t_at t_fault t_from t_kindLetters t_kindMay t_kindNames t_kindParts t_kindSorts t_kinds v1 v2 v3 v4 v5)
  else
    xf_rf_kind_192 t_size t_text k126 n t_at t_fault t_from t_kindLetters t_kindMay t_kindNames t_kindParts t_kindSorts t_kinds v1 v2 v3 v4 v5) := rfl
theorem xf_rf_kind_126_s (t_size : Int32) (t_text : (Nat → Int32)) (n : Nat) (N : Nat) (t_at : Int32) (t_fault : Int32) (t_from : Int32) (t_kindLetters : (Nat → Int32)) (t_kindMay : (Nat → Int32)) (t_kindNames : (Nat → Int32)) (t_kindParts : (Nat → Int32)) (t_kindSorts : (Nat → Int32)) (t_kinds : (Nat → Int32)) (v1 : Int32) (v2 : Int32) (v3 : Int32) (v4 : Int32) : xf_rf_kind_126 t_size t_text n (N + 1) t_at t_fault t_from t_kindLetters t_kindMay t_kindNames t_kindParts t_kindSorts t_kinds v1 v2 v3 v4 = (
    if v3 = (Int32.ofNat 0) then
      (xf_rf_kind_265 t_size t_text n t_at t_fault t_from t_kindLetters t_kindMay t_kindNames t_kindParts t_kindSorts t_kinds v1 v2)
    else
      if t_fault = (-1 : Int32) then
        ((xf_rf_peek t_size t_text n t_at).bind fun q664 =>
        if (Int32.ofNat 0) < v2 then
          (if q664.1 = (Int32.ofNat 59) then
            (xf_rf_kind_252 t_size t_text (xf_rf_kind_126 t_size t_text n N) n q664.2 t_fault t_from t_kindLetters t_kindMay t_kindNames t_kindParts t_kindSorts t_kinds v1 v2 (Int32.ofNat 0) v4)
          else
            xf_rf_kind_160 t_size t_text (xf_rf_kind_126 t_size t_text n N) n q664.2 t_fault t_from t_kindLetters t_kindMay t_kindNames t_kindParts t_kindSorts t_kinds v1 v2 v3 v4 q664.1)
        else
          xf_rf_kind_160 t_size t_text (xf_rf_kind_126 t_size t_text n N) n q664.2 t_fault t_from t_kindLetters t_kindMay t_kindNames t_kindParts t_kindSorts t_kinds v1 v2 v3 v4 q664.1)
      else
        xf_rf_kind_265 t_size t_text n t_at t_fault t_from t_kindLetters t_kindMay t_kindNames t_kindParts t_kindSorts t_kinds v1 v2) := rfl
theorem xf_rf_kind_51_s (t_size : Int32) (t_text : (Nat → Int32)) (n : Nat) (N : Nat) (t_at : Int32) (t_fault : Int32) (t_from : Int32) (t_kindLetters : (Nat → Int32)) (t_kindMay : (Nat → Int32)) (t_kindNames : (Nat → Int32)) (t_kindParts : (Nat → Int32)) (t_kindSorts : (Nat → Int32)) (t_kinds : (Nat → Int32)) (v1 : Int32) (v2 : Int32) : xf_rf_kind_51 t_size t_text n (N + 1) t_at t_fault t_from t_kindLetters t_kindMay t_kindNames t_kindParts t_kindSorts t_kinds v1 v2 = (
    if v2 < v1 then
      (if xr_in v2 24 = true then
        (if xr_in v1 24 = true then
          (if (t_kindLetters v2.toNatClampNeg) = (t_kindLetters v1.toNatClampNeg) then
            (if xr_in v1 24 = true then
              ((xf_rf_isSame t_kindNames t_kindNames 192 192 n ((Int32.ofNat 8) * v2) ((Int32.ofNat 8) * v1) (t_kindLetters v1.toNatClampNeg)).bind fun q653 =>
              if q653 = (Int32.ofNat 0) then
                (xf_rf_kind_107 t_size t_text (xf_rf_kind_51 t_size t_text n N) n t_at t_fault t_from t_kindLetters t_kindMay t_kindNames t_kindParts t_kindSorts t_kinds v1 v2)
              else
                (xf_rf_wrongAt t_fault t_from).bind fun q655 =>
                xf_rf_kind_107 t_size t_text (xf_rf_kind_51 t_size t_text n N) n t_at q655.2 t_from t_kindLetters t_kindMay t_kindNames t_kindParts t_kindSorts t_kinds v1 v2)
            else none)
          else
            xf_rf_kind_107 t_size t_text (xf_rf_kind_51 t_size t_text n N) n t_at t_fault t_from t_kindLetters t_kindMay t_kindNames t_kindParts t_kindSorts t_kinds v1 v2)
        else none)
      else none)
    else
      (xf_rf_sign t_size t_text n t_at t_fault (Int32.ofNat 61)).bind fun q660 =>
      xf_rf_kind_126 t_size t_text n n q660.2.1 q660.2.2 t_from t_kindLetters t_kindMay t_kindNames t_kindParts t_kindSorts t_kinds v1 (Int32.ofNat 0) (Int32.ofNat 1) (Int32.ofNat 1)) := rfl
theorem xf_rf_kind_s (t_size : Int32) (t_text : (Nat → Int32)) (n : Nat) (t_at : Int32) (t_fault : Int32) (t_from : Int32) (t_kindLetters : (Nat → Int32)) (t_kindMay : (Nat → Int32)) (t_kindNames : (Nat → Int32)) (t_kindParts : (Nat → Int32)) (t_kindSorts : (Nat → Int32)) (t_kinds : (Nat → Int32)) : xf_rf_kind t_size t_text n t_at t_fault t_from t_kindLetters t_kindMay t_kindNames t_kindParts t_kindSorts t_kinds = (
  if (t_kinds (Int32.ofNat 1).toNatClampNeg) = (Int32.ofNat 12) then
    ((xf_rf_wrongAt t_fault t_at).bind fun q624 =>
    some ((), t_at, q624.2, t_from, t_kindLetters, t_kindMay, t_kindNames, t_kindParts, t_kindSorts, t_kinds))
  else
    (xf_rf_name t_size t_text 192 n t_kindNames t_at t_fault t_from ((Int32.ofNat 8) * ((Int32.ofNat 12) + (t_kinds (Int32.ofNat 1).toNatClampNeg)))).bind fun q640 =>
    if xr_in ((Int32.ofNat 12) + (t_kinds (Int32.ofNat 1).toNatClampNeg)) 24 = true then
      (xf_rf_kind_51 t_size t_text n n q640.2.2.1 q640.2.2.2.1 q640.2.2.2.2 (upd t_kindLetters ((Int32.ofNat 12) + (t_kinds (Int32.ofNat 1).toNatClampNeg)).toNatClampNeg q640.1) t_kindMay q640.2.1 t_kindParts t_kindSorts t_kinds ((Int32.ofNat 12) + (t_kinds (Int32.ofNat 1).toNatClampNeg)) (Int32.ofNat 12))
    else none) := rfl
theorem xf_rf_schema_22_s (t_text : (Nat → Int32)) (n : Nat) (N : Nat) (t_at : Int32) (t_fault : Int32) (t_from : Int32) (t_kindLetters : (Nat → Int32)) (t_kindMay : (Nat → Int32)) (t_kindNames : (Nat → Int32)) (t_kindParts : (Nat → Int32)) (t_kindSorts : (Nat → Int32)) (t_kinds : (Nat → Int32)) (t_size : Int32) (t_thrown : Int32) : xf_rf_schema_22 t_text n (N + 1) t_at t_fault t_from t_kindLetters t_kindMay t_kindNames t_kindParts t_kindSorts t_kinds t_size t_thrown = (
    if t_fault = (-1 : Int32) then
      ((xf_rf_peek t_size t_text n t_at).bind fun q607 =>
      if q607.1 = (Int32.ofNat 0) then
        (xf_rf_schema_44 t_text n q607.2 t_fault t_from t_kindLetters t_kindMay t_kindNames t_kindParts t_kindSorts t_kinds t_size t_thrown)
      else
        (xf_rf_kind t_size t_text n q607.2 t_fault t_from t_kindLetters t_kindMay t_kindNames t_kindParts t_kindSorts t_kinds).bind fun q693 =>
        (xf_rf_schema_22 t_text n N) q693.2.1 q693.2.2.1 q693.2.2.2.1 q693.2.2.2.2.1 q693.2.2.2.2.2.1 q693.2.2.2.2.2.2.1 q693.2.2.2.2.2.2.2.1 q693.2.2.2.2.2.2.2.2.1 q693.2.2.2.2.2.2.2.2.2 t_size t_thrown)
    else
      xf_rf_schema_44 t_text n t_at t_fault t_from t_kindLetters t_kindMay t_kindNames t_kindParts t_kindSorts t_kinds t_size t_thrown) := rfl
theorem xf_rf_schema_s (t_text : (Nat → Int32)) (n : Nat) (t_at : Int32) (t_fault : Int32) (t_from : Int32) (t_kindLetters : (Nat → Int32)) (t_kindMay : (Nat → Int32)) (t_kindNames : (Nat → Int32)) (t_kindParts : (Nat → Int32)) (t_kindSorts : (Nat → Int32)) (t_kinds : (Nat → Int32)) (t_size : Int32) (t_thrown : Int32) : xf_rf_schema t_text n t_at t_fault t_from t_kindLetters t_kindMay t_kindNames t_kindParts t_kindSorts t_kinds t_size t_thrown = (
  xf_rf_schema_22 t_text n n (Int32.ofNat 0) (-1 : Int32) t_from t_kindLetters t_kindMay t_kindNames t_kindParts t_kindSorts (upd t_kinds (Int32.ofNat 1).toNatClampNeg ((Int32.ofNat 0))) t_size (Int32.ofNat 0)) := rfl
theorem xf_rf_find_5_s (t_lines : (Nat → Int32)) (t_numbers : (Nat → Int32)) (n : Nat) (N : Nat) (v1 : Int32) (v2 : Int32) (v3 : Int32) : xf_rf_find_5 t_lines t_numbers n (N + 1) v1 v2 v3 = (
    if xr_in v1 3 = true then
      (if v3 < (((Int32.ofNat 40) * v1) + (t_lines v1.toNatClampNeg)) then
        (if xr_in v3 120 = true then
          (if (t_numbers v3.toNatClampNeg) = v2 then
            (some v3)
          else
            (xf_rf_find_5 t_lines t_numbers n N) v1 v2 (v3 + (Int32.ofNat 1)))
        else none)
      else
        some (-1 : Int32))
    else none) := rfl
theorem xf_rf_find_s (t_lines : (Nat → Int32)) (t_numbers : (Nat → Int32)) (n : Nat) (a1 : Int32) (a2 : Int32) : xf_rf_find t_lines t_numbers n a1 a2 = (
  xf_rf_find_5 t_lines t_numbers n n a1 a2 ((Int32.ofNat 40) * a1)) := rfl
theorem xf_rf_isMissing_111_s (t_items : (Nat → Int32)) (t_lines : (Nat → Int32)) (t_numbers : (Nat → Int32)) (t_parts : (Nat → Int32)) (t_sorts : (Nat → Int32)) (t_values : (Nat → Int32)) (k7 : Int32 → Int32 → Int32 → Option (Int32)) (k60 : Int32 → Int32 → Int32 → Int32 → Option (Int32)) (n : Nat) (v1 : Int32) (v3 : Int32) (v4 : Int32) (s0 : Int32) : xf_rf_isMissing_111 t_items t_lines t_numbers t_parts t_sorts t_values k7 k60 n v1 v3 v4 s0 = (
  k60 v1 s0 v3 (v4 + (Int32.ofNat 1))) := rfl
theorem xf_rf_isMissing_106_s (t_items : (Nat → Int32)) (t_lines : (Nat → Int32)) (t_numbers : (Nat → Int32)) (t_parts : (Nat → Int32)) (t_sorts : (Nat → Int32)) (t_values : (Nat → Int32)) (k7 : Int32 → Int32 → Int32 → Option (Int32)) (k60 : Int32 → Int32 → Int32 → Int32 → Option (Int32)) (n : Nat) (v1 : Int32) (v3 : Int32) (v4 : Int32) : xf_rf_isMissing_106 t_items t_lines t_numbers t_parts t_sorts t_values k7 k60 n v1 v3 v4 = (
  xf_rf_isMissing_111 t_items t_lines t_numbers t_parts t_sorts t_values k7 k60 n v1 v3 v4 (Int32.ofNat 1)) := rfl
theorem xf_rf_isMissing_118_s (t_items : (Nat → Int32)) (t_lines : (Nat → Int32)) (t_numbers : (Nat → Int32)) (t_parts : (Nat → Int32)) (t_sorts : (Nat → Int32)) (t_values : (Nat → Int32)) (k7 : Int32 → Int32 → Int32 → Option (Int32)) (n : Nat) (v1 : Int32) (v2 : Int32) (v3 : Int32) : xf_rf_isMissing_118 t_items t_lines t_numbers t_parts t_sorts t_values k7 n v1 v2 v3 = (
  k7 v1 v2 (v3 + (Int32.ofNat 1))) := rfl
theorem xf_rf_isMissing_60_s (t_items : (Nat → Int32)) (t_lines : (Nat → Int32)) (t_numbers : (Nat → Int32)) (t_parts : (Nat → Int32)) (t_sorts : (Nat → Int32)) (t_values : (Nat → Int32)) (k7 : Int32 → Int32 → Int32 → Option (Int32)) (n : Nat) (N : Nat) (v1 : Int32) (v2 : Int32) (v3 : Int32) (v4 : Int32) : xf_rf_isMissing_60 t_items t_lines t_numbers t_parts t_sorts t_values k7 n (N + 1) v1 v2 v3 v4 = (
    if xr_in v3 960 = true then
      (if v4 < (t_values v3.toNatClampNeg) then
        (if xr_in v3 960 = true then
          (if (t_sorts v3.toNatClampNeg) = (Int32.ofNat 4) then
            (if v2 = (Int32.ofNat 0) then
              (if xr_in (((Int32.ofNat 20) * v3) + v4) 19200 = true then
                ((xf_rf_find t_lines t_numbers n (Int32.ofNat 1) (t_items (((Int32.ofNat 20) * v3) + v4).toNatClampNeg)).bind fun q717 =>
                if q717 = (-1 : Int32) then
                  (xf_rf_isMissing_106 t_items t_lines t_numbers t_parts t_sorts t_values k7 (xf_rf_isMissing_60 t_items t_lines t_numbers t_parts t_sorts t_values k7 n N) n v1 v3 v4)
                else
                  xf_rf_isMissing_111 t_items t_lines t_numbers t_parts t_sorts t_values k7 (xf_rf_isMissing_60 t_items t_lines t_numbers t_parts t_sorts t_values k7 n N) n v1 v3 v4 (Int32.ofNat 0))
              else none)
            else
              xf_rf_isMissing_106 t_items t_lines t_numbers t_parts t_sorts t_values k7 (xf_rf_isMissing_60 t_items t_lines t_numbers t_parts t_sorts t_values k7 n N) n v1 v3 v4)
          else
            xf_rf_isMissing_118 t_items t_lines t_numbers t_parts t_sorts t_values k7 n v1 v2 v3)
        else none)
      else
        xf_rf_isMissing_118 t_items t_lines t_numbers t_parts t_sorts t_values k7 n v1 v2 v3)
    else none) := rfl
theorem xf_rf_isMissing_57_s (t_items : (Nat → Int32)) (t_lines : (Nat → Int32)) (t_numbers : (Nat → Int32)) (t_parts : (Nat → Int32)) (t_sorts : (Nat → Int32)) (t_values : (Nat → Int32)) (k7 : Int32 → Int32 → Int32 → Option (Int32)) (n : Nat) (v1 : Int32) (v2 : Int32) (v3 : Int32) : xf_rf_isMissing_57 t_items t_lines t_numbers t_parts t_sorts t_values k7 n v1 v2 v3 = (
  xf_rf_isMissing_60 t_items t_lines t_numbers t_parts t_sorts t_values k7 n n v1 v2 v3 (Int32.ofNat 0)) := rfl
theorem xf_rf_isMissing_56_s (t_items : (Nat → Int32)) (t_lines : (Nat → Int32)) (t_numbers : (Nat → Int32)) (t_parts : (Nat → Int32)) (t_sorts : (Nat → Int32)) (t_values : (Nat → Int32)) (k7 : Int32 → Int32 → Int32 → Option (Int32)) (n : Nat) (v1 : Int32) (v3 : Int32) (s0 : Int32) : xf_rf_isMissing_56 t_items t_lines t_numbers t_parts t_sorts t_values k7 n v1 v3 s0 = (
  xf_rf_isMissing_57 t_items t_lines t_numbers t_parts t_sorts t_values k7 n v1 s0 v3) := rfl
theorem xf_rf_isMissing_51_s (t_items : (Nat → Int32)) (t_lines : (Nat → Int32)) (t_numbers : (Nat → Int32)) (t_parts : (Nat → Int32)) (t_sorts : (Nat → Int32)) (t_values : (Nat → Int32)) (k7 : Int32 → Int32 → Int32 → Option (Int32)) (n : Nat) (v1 : Int32) (v3 : Int32) : xf_rf_isMissing_51 t_items t_lines t_numbers t_parts t_sorts t_values k7 n v1 v3 = (
  xf_rf_isMissing_56 t_items t_lines t_numbers t_parts t_sorts t_values k7 n v1 v3 (Int32.ofNat 1)) := rfl
theorem xf_rf_isMissing_7_s (t_items : (Nat → Int32)) (t_lines : (Nat → Int32)) (t_numbers : (Nat → Int32)) (t_parts : (Nat → Int32)) (t_sorts : (Nat → Int32)) (t_values : (Nat → Int32)) (n : Nat) (N : Nat) (v1 : Int32) (v2 : Int32) (v3 : Int32) : xf_rf_isMissing_7 t_items t_lines t_numbers t_parts t_sorts t_values n (N + 1) v1 v2 v3 = (
    if xr_in v1 120 = true then
      (if v3 < (((Int32.ofNat 8) * v1) + (t_parts v1.toNatClampNeg)) then
        (if xr_in v3 960 = true then
          (if (t_sorts v3.toNatClampNeg) = (Int32.ofNat 2) then
            (if v2 = (Int32.ofNat 0) then
              (if xr_in v3 960 = true then
                ((xf_rf_find t_lines t_numbers n (Int32.ofNat 1) (t_values v3.toNatClampNeg)).bind fun q709 =>
                if q709 = (-1 : Int32) then
                  (xf_rf_isMissing_51 t_items t_lines t_numbers t_parts t_sorts t_values (xf_rf_isMissing_7 t_items t_lines t_numbers t_parts t_sorts t_values n N) n v1 v3)
                else
                  xf_rf_isMissing_56 t_items t_lines t_numbers t_parts t_sorts t_values (xf_rf_isMissing_7 t_items t_lines t_numbers t_parts t_sorts t_values n N) n v1 v3 (Int32.ofNat 0))
              else none)
            else
              xf_rf_isMissing_51 t_items t_lines t_numbers t_parts t_sorts t_values (xf_rf_isMissing_7 t_items t_lines t_numbers t_parts t_sorts t_values n N) n v1 v3)
          else
            xf_rf_isMissing_57 t_items t_lines t_numbers t_parts t_sorts t_values (xf_rf_isMissing_7 t_items t_lines t_numbers t_parts t_sorts t_values n N) n v1 v2 v3)
        else none)
      else
        if fits .boolean (.int v2) = true then some v2 else none)
    else none) := rfl
theorem xf_rf_isMissing_s (t_items : (Nat → Int32)) (t_lines : (Nat → Int32)) (t_numbers : (Nat → Int32)) (t_parts : (Nat → Int32)) (t_sorts : (Nat → Int32)) (t_values : (Nat → Int32)) (n : Nat) (a1 : Int32) : xf_rf_isMissing t_items t_lines t_numbers t_parts t_sorts t_values n a1 = (
  xf_rf_isMissing_7 t_items t_lines t_numbers t_parts t_sorts t_values n n a1 (Int32.ofNat 0) ((Int32.ofNat 8) * a1)) := rfl
theorem xf_rf_read_167_s (t_text : (Nat → Int32)) (k115 : Int32 → Int32 → Int32 → (Nat → Int32) → (Nat → Int32) → (Nat → Int32) → (Nat → Int32) → (Nat → Int32) → (Nat → Int32) → Int32 → (Nat → Int32) → Int32 → (Nat → Int32) → Int32 → Option (Int32 × Int32 × Int32 × Int32 × (Nat → Int32) × (Nat → Int32) × (Nat → Int32) × (Nat → Int32) × (Nat → Int32) × (Nat → Int32) × Int32 × (Nat → Int32) × Int32 × (Nat → Int32))) (k133 : Int32 → Int32 → Int32 → (Nat → Int32) → (Nat → Int32) → (Nat → Int32) → (Nat → Int32) → (Nat → Int32) → (Nat → Int32) → Int32 → (Nat → Int32) → Int32 → (Nat → Int32) → Int32 → Int32 → Int32 → Option (Int32 × Int32 × Int32 × Int32 × (Nat → Int32) × (Nat → Int32) × (Nat → Int32) × (Nat → Int32) × (Nat → Int32) × (Nat → Int32) × Int32 × (Nat → Int32) × Int32 × (Nat → Int32))) (n : Nat) (t_at : Int32) (t_fault : Int32) (t_from : Int32) (t_items : (Nat → Int32)) (t_letters : (Nat → Int32)) (t_lines : (Nat → Int32)) (t_names : (Nat → Int32)) (t_numbers : (Nat → Int32)) (t_parts : (Nat → Int32)) (t_size : Int32) (t_sorts : (Nat → Int32)) (t_thrown : Int32) (t_values : (Nat → Int32)) (v1 : Int32) (v3 : Int32) (s0 : Int32) (s1 : Int32) : xf_rf_read_167 t_text k115 k133 n t_at t_fault t_from t_items t_letters t_lines t_names t_numbers t_parts t_size t_sorts t_thrown t_values v1 v3 s0 s1 = (
  k133 t_at t_fault t_from t_items t_letters t_lines t_names t_numbers t_parts t_size t_sorts t_thrown t_values v1 (s0 + s1) (v3 + (Int32.ofNat 1))) := rfl
theorem xf_rf_copy_118_s (n : Nat) (N : Nat) (t_items : (Nat → Int32)) (t_letters : (Nat → Int32)) (t_names : (Nat → Int32)) (t_numbers : (Nat → Int32)) (t_parts : (Nat → Int32)) (t_sorts : (Nat → Int32)) (t_values : (Nat → Int32)) (v1 : Int32) (v2 : Int32) (v3 : Int32) : xf_rf_copy_118 n (N + 1) t_items t_letters t_names t_numbers t_parts t_sorts t_values v1 v2 v3 = (
    if v3 < (Int32.ofNat 160) then
      (if xr_in (((Int32.ofNat 160) * v2) + v3) 19200 = true then
        (if xr_in (((Int32.ofNat 160) * v1) + v3) 19200 = true then
          ((xf_rf_copy_118 n N) (upd t_items (((Int32.ofNat 160) * v1) + v3).toNatClampNeg ((t_items (((Int32.ofNat 160) * v2) + v3).toNatClampNeg))) t_letters t_names t_numbers t_parts t_sorts t_values v1 v2 (v3 + (Int32.ofNat 1)))
        else none)
      else none)
    else
      some ((), t_items, t_letters, t_names, t_numbers, t_parts, t_sorts, t_values)) := rfl
theorem xf_rf_copy_38_s (n : Nat) (N : Nat) (t_items : (Nat → Int32)) (t_letters : (Nat → Int32)) (t_names : (Nat → Int32)) (t_numbers : (Nat → Int32)) (t_parts : (Nat → Int32)) (t_sorts : (Nat → Int32)) (t_values : (Nat → Int32)) (v1 : Int32) (v2 : Int32) (v3 : Int32) : xf_rf_copy_38 n (N + 1) t_items t_letters t_names t_numbers t_parts t_sorts t_values v1 v2 v3 = (
    if v3 < (Int32.ofNat 8) then
      (if xr_in (((Int32.ofNat 8) * v2) + v3) 960 = true then
        (if xr_in (((Int32.ofNat 8) * v1) + v3) 960 = true then
          (if xr_in (((Int32.ofNat 8) * v2) + v3) 960 = true then
            (if xr_in (((Int32.ofNat 8) * v1) + v3) 960 = true then
              (if xr_in (((Int32.ofNat 8) * v2) + v3) 960 = true then
                (if xr_in (((Int32.ofNat 8) * v1) + v3) 960 = true then
                  ((xf_rf_copy_38 n N) t_items t_letters (upd t_names (((Int32.ofNat 8) * v1) + v3).toNatClampNeg ((t_names (((Int32.ofNat 8) * v2) + v3).toNatClampNeg))) t_numbers t_parts (upd t_sorts (((Int32.ofNat 8) * v1) + v3).toNatClampNeg ((t_sorts (((Int32.ofNat 8) * v2) + v3).toNatClampNeg))) (upd t_values (((Int32.ofNat 8) * v1) + v3).toNatClampNeg ((t_values (((Int32.ofNat 8) * v2) + v3).toNatClampNeg))) v1 v2 (v3 + (Int32.ofNat 1)))
                else none)
              else none)
            else none)
          else none)
        else none)
      else none)
    else
      xf_rf_copy_118 n n t_items t_letters t_names t_numbers t_parts t_sorts t_values v1 v2 (Int32.ofNat 0)) := rfl
theorem xf_rf_copy_s (n : Nat) (t_items : (Nat → Int32)) (t_letters : (Nat → Int32)) (t_names : (Nat → Int32)) (t_numbers : (Nat → Int32)) (t_parts : (Nat → Int32)) (t_sorts : (Nat → Int32)) (t_values : (Nat → Int32)) (a1 : Int32) (a2 : Int32) : xf_rf_copy n t_items t_letters t_names t_numbers t_parts t_sorts t_values a1 a2 = (
  if xr_in a2 120 = true then
    (if xr_in a1 120 = true then
      (if xr_in a2 120 = true then
        (if xr_in a1 120 = true then
          (if xr_in a2 120 = true then
            (if xr_in a1 120 = true then
              (xf_rf_copy_38 n n t_items (upd t_letters a1.toNatClampNeg ((t_letters a2.toNatClampNeg))) t_names (upd t_numbers a1.toNatClampNeg ((t_numbers a2.toNatClampNeg))) (upd t_parts a1.toNatClampNeg ((t_parts a2.toNatClampNeg))) t_sorts t_values a1 a2 (Int32.ofNat 0))
            else none)
          else none)
        else none)
      else none)
    else none)
  else none) := rfl
theorem xf_rf_read_133_s (t_text : (Nat → Int32)) (k115 : Int32 → Int32 → Int32 → (Nat → Int32) → (Nat → Int32) → (Nat → Int32) → (Nat → Int32) → (Nat → Int32) → (Nat → Int32) → Int32 → (Nat → Int32) → Int32 → (Nat → Int32) → Int32 → Option (Int32 × Int32 × Int32 × Int32 × (Nat → Int32) × (Nat → Int32) × (Nat → Int32) × (Nat → Int32) × (Nat → Int32) × (Nat → Int32) × Int32 × (Nat → Int32) × Int32 × (Nat → Int32))) (n : Nat) (N : Nat) (t_at : Int32) (t_fault : Int32) (t_from : Int32) (t_items : (Nat → Int32)) (t_letters : (Nat → Int32)) (t_lines : (Nat → Int32)) (t_names : (Nat → Int32)) (t_numbers : (Nat → Int32)) (t_parts : (Nat → Int32)) (t_size : Int32) (t_sorts : (Nat → Int32)) (t_thrown : Int32) (t_values : (Nat → Int32)) (v1 : Int32) (v2 : Int32) (v3 : Int32) : xf_rf_read_133 t_text k115 n (N + 1) t_at t_fault t_from t_items t_letters t_lines t_names t_numbers t_parts t_size t_sorts t_thrown t_values v1 v2 v3 = (
    if v3 < ((Int32.ofNat 40) + (t_lines (Int32.ofNat 1).toNatClampNeg)) then
      (if xr_in v3 120 = true then
        (if xr_in v1 120 = true then
          (if (t_numbers v3.toNatClampNeg) < (t_numbers v1.toNatClampNeg) then
            (xf_rf_read_167 t_text k115 (xf_rf_read_133 t_text k115 n N) n t_at t_fault t_from t_items t_letters t_lines t_names t_numbers t_parts t_size t_sorts t_thrown t_values v1 v3 v2 (Int32.ofNat 1))
          else
            xf_rf_read_167 t_text k115 (xf_rf_read_133 t_text k115 n N) n t_at t_fault t_from t_items t_letters t_lines t_names t_numbers t_parts t_size t_sorts t_thrown t_values v1 v3 v2 (Int32.ofNat 0))
        else none)
      else none)
    else
      (xf_rf_copy n t_items t_letters t_names t_numbers t_parts t_sorts t_values v2 v1).bind fun q744 =>
      k115 t_at t_fault t_from q744.2.1 q744.2.2.1 t_lines q744.2.2.2.1 q744.2.2.2.2.1 q744.2.2.2.2.2.1 t_size q744.2.2.2.2.2.2.1 t_thrown q744.2.2.2.2.2.2.2 (v1 + (Int32.ofNat 1))) := rfl
theorem xf_rf_read_115_s (t_text : (Nat → Int32)) (n : Nat) (N : Nat) (t_at : Int32) (t_fault : Int32) (t_from : Int32) (t_items : (Nat → Int32)) (t_letters : (Nat → Int32)) (t_lines : (Nat → Int32)) (t_names : (Nat → Int32)) (t_numbers : (Nat → Int32)) (t_parts : (Nat → Int32)) (t_size : Int32) (t_sorts : (Nat → Int32)) (t_thrown : Int32) (t_values : (Nat → Int32)) (v1 : Int32) : xf_rf_read_115 t_text n (N + 1) t_at t_fault t_from t_items t_letters t_lines t_names t_numbers t_parts t_size t_sorts t_thrown t_values v1 = (
    if v1 < ((Int32.ofNat 40) + (t_lines (Int32.ofNat 1).toNatClampNeg)) then
      (xf_rf_read_133 t_text (xf_rf_read_115 t_text n N) n n t_at t_fault t_from t_items t_letters t_lines t_names t_numbers t_parts t_size t_sorts t_thrown t_values v1 (Int32.ofNat 0) (Int32.ofNat 40))
    else
      some (t_lines (Int32.ofNat 0).toNatClampNeg, t_at, t_fault, t_from, t_items, t_letters, t_lines, t_names, t_numbers, t_parts, (Int32.ofNat 0), t_sorts, t_thrown, t_values)) := rfl
theorem xf_rf_read_62_s (t_text : (Nat → Int32)) (n : Nat) (N : Nat) (t_at : Int32) (t_fault : Int32) (t_from : Int32) (t_items : (Nat → Int32)) (t_letters : (Nat → Int32)) (t_lines : (Nat → Int32)) (t_names : (Nat → Int32)) (t_numbers : (Nat → Int32)) (t_parts : (Nat → Int32)) (t_size : Int32) (t_sorts : (Nat → Int32)) (t_thrown : Int32) (t_values : (Nat → Int32)) (v1 : Int32) : xf_rf_read_62 t_text n (N + 1) t_at t_fault t_from t_items t_letters t_lines t_names t_numbers t_parts t_size t_sorts t_thrown t_values v1 = (
    if v1 < ((Int32.ofNat 40) + (t_lines (Int32.ofNat 1).toNatClampNeg)) then
      ((xf_rf_isMissing t_items t_lines t_numbers t_parts t_sorts t_values n v1).bind fun q720 =>
      if q720 = (Int32.ofNat 0) then
        ((xf_rf_read_62 t_text n N) t_at t_fault t_from t_items t_letters t_lines t_names t_numbers t_parts t_size t_sorts t_thrown t_values (v1 + (Int32.ofNat 1)))
      else
        if xr_in v1 120 = true then
          (some ((-10000 : Int32) - (t_numbers v1.toNatClampNeg), t_at, t_fault, t_from, t_items, t_letters, t_lines, t_names, t_numbers, t_parts, t_size, t_sorts, t_thrown, t_values))
        else none)
    else
      xf_rf_read_115 t_text n n t_at t_fault t_from t_items t_letters (upd t_lines (Int32.ofNat 0).toNatClampNeg ((t_lines (Int32.ofNat 1).toNatClampNeg))) t_names t_numbers t_parts t_size t_sorts t_thrown t_values (Int32.ofNat 40)) := rfl
theorem xf_rf_read_44_s (t_text : (Nat → Int32)) (n : Nat) (t_at : Int32) (t_fault : Int32) (t_from : Int32) (t_items : (Nat → Int32)) (t_letters : (Nat → Int32)) (t_lines : (Nat → Int32)) (t_names : (Nat → Int32)) (t_numbers : (Nat → Int32)) (t_parts : (Nat → Int32)) (t_size : Int32) (t_sorts : (Nat → Int32)) (t_thrown : Int32) (t_values : (Nat → Int32)) : xf_rf_read_44 t_text n t_at t_fault t_from t_items t_letters t_lines t_names t_numbers t_parts t_size t_sorts t_thrown t_values = (
  if t_fault = (-1 : Int32) then
    (xf_rf_read_62 t_text n n t_at t_fault t_from t_items t_letters t_lines t_names t_numbers t_parts t_size t_sorts t_thrown t_values (Int32.ofNat 40))
  else
    some ((-1 : Int32) - t_fault, t_at, t_fault, t_from, t_items, t_letters, t_lines, t_names, t_numbers, t_parts, t_size, t_sorts, t_thrown, t_values)) := rfl
theorem xf_rf_oneLine_20_s (t_size : Int32) (t_text : (Nat → Int32)) (n : Nat) (t_at : Int32) (t_fault : Int32) (t_from : Int32) (t_items : (Nat → Int32)) (t_letters : (Nat → Int32)) (t_lines : (Nat → Int32)) (t_names : (Nat → Int32)) (t_numbers : (Nat → Int32)) (t_parts : (Nat → Int32)) (t_sorts : (Nat → Int32)) (t_values : (Nat → Int32)) : xf_rf_oneLine_20 t_size t_text n t_at t_fault t_from t_items t_letters t_lines t_names t_numbers t_parts t_sorts t_values = (
  (xf_rf_wrongAt t_fault t_at).bind fun q748 =>
  some ((), t_at, q748.2, t_from, t_items, t_letters, t_lines, t_names, t_numbers, t_parts, t_sorts, t_values)) := rfl
theorem xf_rf_isDigit_17_s (s0 : Int32) : xf_rf_isDigit_17 s0 = (
  if fits .boolean (.int s0) = true then some s0 else none) := rfl
theorem xf_rf_isDigit_16_s  : xf_rf_isDigit_16 = (
  xf_rf_isDigit_17 (Int32.ofNat 0)) := rfl
theorem xf_rf_isDigit_s (a1 : Int32) : xf_rf_isDigit a1 = (
  if a1 < (Int32.ofNat 48) then
    (xf_rf_isDigit_16 )
  else
    if (Int32.ofNat 57) < a1 then
      (xf_rf_isDigit_16 )
    else
      xf_rf_isDigit_17 (Int32.ofNat 1)) := rfl
theorem xf_rf_digits_145_s (t_size : Int32) (t_text : (Nat → Int32)) (n : Nat) (t_at : Int32) (t_fault : Int32) (t_from : Int32) (v3 : Int32) : xf_rf_digits_145 t_size t_text n t_at t_fault t_from v3 = (
  some (v3, t_at, t_fault, t_from)) := rfl
theorem xf_rf_digits_142_s (t_size : Int32) (t_text : (Nat → Int32)) (n : Nat) (t_at : Int32) (t_fault : Int32) (t_from : Int32) (v3 : Int32) (s1 : Int32) : xf_rf_digits_142 t_size t_text n t_at t_fault t_from v3 s1 = (
  (xf_rf_wrongAt t_fault s1).bind fun q762 =>
  xf_rf_digits_145 t_size t_text n t_at q762.2 t_from v3) := rfl
theorem xf_rf_digits_115_s (t_size : Int32) (t_text : (Nat → Int32)) (n : Nat) (t_at : Int32) (t_fault : Int32) (t_from : Int32) (v1 : Int32) (v2 : Int32) (v3 : Int32) : xf_rf_digits_115 t_size t_text n t_at t_fault t_from v1 v2 v3 = (
  if v1 < (t_at - t_from) then
    (if v2 = (-1 : Int32) then
      (xf_rf_digits_142 t_size t_text n t_at t_fault t_from v3 t_from)
    else
      xf_rf_digits_142 t_size t_text n t_at t_fault t_from v3 v2)
  else
    xf_rf_digits_145 t_size t_text n t_at t_fault t_from v3) := rfl
theorem xf_rf_digits_96_s (t_size : Int32) (t_text : (Nat → Int32)) (n : Nat) (t_at : Int32) (t_fault : Int32) (t_from : Int32) (v1 : Int32) (v2 : Int32) (v3 : Int32) : xf_rf_digits_96 t_size t_text n t_at t_fault t_from v1 v2 v3 = (
  if t_at = t_from then
    ((xf_rf_wrongAt t_fault t_at).bind fun q759 =>
    xf_rf_digits_115 t_size t_text n t_at q759.2 t_from v1 v2 v3)
  else
    xf_rf_digits_115 t_size t_text n t_at t_fault t_from v1 v2 v3) := rfl
theorem xf_rf_digits_83_s (t_size : Int32) (t_text : (Nat → Int32)) (k25 : Int32 → Int32 → Int32 → Int32 → Int32 → Int32 → Option (Int32 × Int32 × Int32 × Int32)) (n : Nat) (t_at : Int32) (t_fault : Int32) (t_from : Int32) (v1 : Int32) (v2 : Int32) (v3 : Int32) : xf_rf_digits_83 t_size t_text k25 n t_at t_fault t_from v1 v2 v3 = (
  k25 (t_at + (Int32.ofNat 1)) t_fault t_from v1 v2 v3) := rfl
theorem xf_rf_digits_25_s (t_size : Int32) (t_text : (Nat → Int32)) (n : Nat) (N : Nat) (t_at : Int32) (t_fault : Int32) (t_from : Int32) (v1 : Int32) (v2 : Int32) (v3 : Int32) : xf_rf_digits_25 t_size t_text n (N + 1) t_at t_fault t_from v1 v2 v3 = (
    if t_at < t_size then
      (if xr_in t_at 1200 = true then
        ((xf_rf_isDigit (t_text t_at.toNatClampNeg)).bind fun q756 =>
        if q756 = (Int32.ofNat 0) then
          (xf_rf_digits_96 t_size t_text n t_at t_fault t_from v1 v2 v3)
        else
          if (t_at - t_from) < (Int32.ofNat 9) then
            (if xr_in t_at 1200 = true then
              (xf_rf_digits_83 t_size t_text (xf_rf_digits_25 t_size t_text n N) n t_at t_fault t_from v1 v2 ((((Int32.ofNat 10) * v3) + (t_text t_at.toNatClampNeg)) - (Int32.ofNat 48)))
            else none)
          else
            xf_rf_digits_83 t_size t_text (xf_rf_digits_25 t_size t_text n N) n t_at t_fault t_from v1 v2 v3)
      else none)
    else
      xf_rf_digits_96 t_size t_text n t_at t_fault t_from v1 v2 v3) := rfl
theorem xf_rf_digits_s (t_size : Int32) (t_text : (Nat → Int32)) (n : Nat) (t_at : Int32) (t_fault : Int32) (t_from : Int32) (a1 : Int32) (a2 : Int32) : xf_rf_digits t_size t_text n t_at t_fault t_from a1 a2 = (
  if t_fault = (-1 : Int32) then
    ((xf_rf_peek t_size t_text n t_at).bind fun q750 =>
    xf_rf_digits_25 t_size t_text n n q750.2 t_fault q750.2 a1 a2 (Int32.ofNat 0))
  else
    some ((Int32.ofNat 0), t_at, t_fault, t_from)) := rfl
theorem xf_rf_oneLine_210_s (t_size : Int32) (t_text : (Nat → Int32)) (n : Nat) (t_at : Int32) (t_fault : Int32) (t_from : Int32) (t_items : (Nat → Int32)) (t_letters : (Nat → Int32)) (t_lines : (Nat → Int32)) (t_names : (Nat → Int32)) (t_numbers : (Nat → Int32)) (t_parts : (Nat → Int32)) (t_sorts : (Nat → Int32)) (t_values : (Nat → Int32)) (v1 : Int32) (v3 : Int32) : xf_rf_oneLine_210 t_size t_text n t_at t_fault t_from t_items t_letters t_lines t_names t_numbers t_parts t_sorts t_values v1 v3 = (
  (xf_rf_sign t_size t_text n t_at t_fault (Int32.ofNat 41)).bind fun q786 =>
  (xf_rf_sign t_size t_text n q786.2.1 q786.2.2 (Int32.ofNat 59)).bind fun q787 =>
  if xr_in v1 120 = true then
    (some ((), q787.2.1, q787.2.2, t_from, t_items, t_letters, upd t_lines (Int32.ofNat 1).toNatClampNeg (((t_lines (Int32.ofNat 1).toNatClampNeg) + (Int32.ofNat 1))), t_names, t_numbers, upd t_parts v1.toNatClampNeg v3, t_sorts, t_values))
  else none) := rfl
theorem xf_rf_beginsNumber_18_s (s0 : Int32) : xf_rf_beginsNumber_18 s0 = (
  if fits .boolean (.int s0) = true then some s0 else none) := rfl
theorem xf_rf_beginsNumber_13_s  : xf_rf_beginsNumber_13 = (
  xf_rf_beginsNumber_18 (Int32.ofNat 1)) := rfl
theorem xf_rf_beginsNumber_s (a1 : Int32) : xf_rf_beginsNumber a1 = (
  if a1 = (Int32.ofNat 45) then
    (xf_rf_beginsNumber_13 )
  else
    (xf_rf_isDigit a1).bind fun q797 =>
    if q797 = (Int32.ofNat 0) then
      (xf_rf_beginsNumber_18 (Int32.ofNat 0))
    else
      xf_rf_beginsNumber_13 ) := rfl
theorem xf_rf_writing_187_s (t_size : Int32) (t_text : (Nat → Int32)) (n : Nat) (t_at : Int32) (t_fault : Int32) (t_items : (Nat → Int32)) (t_sorts : (Nat → Int32)) (t_values : (Nat → Int32)) (v1 : Int32) (v3 : Int32) (v4 : Int32) : xf_rf_writing_187 t_size t_text n t_at t_fault t_items t_sorts t_values v1 v3 v4 = (
  if xr_in v1 960 = true then
    (if xr_in v1 960 = true then
      (some ((), v4, t_fault, t_items, upd t_sorts v1.toNatClampNeg ((Int32.ofNat 1)), upd t_values v1.toNatClampNeg v3))
    else none)
  else none) := rfl
theorem xf_rf_writing_184_s (t_size : Int32) (t_text : (Nat → Int32)) (k18 : Int32 → Int32 → (Nat → Int32) → (Nat → Int32) → (Nat → Int32) → Int32 → Int32 → Int32 → Int32 → Int32 → Option (Unit × Int32 × Int32 × (Nat → Int32) × (Nat → Int32) × (Nat → Int32))) (n : Nat) (t_at : Int32) (t_fault : Int32) (t_items : (Nat → Int32)) (t_sorts : (Nat → Int32)) (t_values : (Nat → Int32)) (v1 : Int32) (v2 : Int32) (v3 : Int32) (v4 : Int32) (v5 : Int32) : xf_rf_writing_184 t_size t_text k18 n t_at t_fault t_items t_sorts t_values v1 v2 v3 v4 v5 = (
  k18 t_at t_fault t_items t_sorts t_values v1 v2 v3 v4 v5) := rfl
theorem xf_rf_writing_121_s (t_size : Int32) (t_text : (Nat → Int32)) (k18 : Int32 → Int32 → (Nat → Int32) → (Nat → Int32) → (Nat → Int32) → Int32 → Int32 → Int32 → Int32 → Int32 → Option (Unit × Int32 × Int32 × (Nat → Int32) × (Nat → Int32) × (Nat → Int32))) (n : Nat) (t_at : Int32) (t_fault : Int32) (t_items : (Nat → Int32)) (t_sorts : (Nat → Int32)) (t_values : (Nat → Int32)) (v1 : Int32) (v2 : Int32) (v3 : Int32) (v4 : Int32) (v5 : Int32) : xf_rf_writing_121 t_size t_text k18 n t_at t_fault t_items t_sorts t_values v1 v2 v3 v4 v5 = (
  (xf_rf_wrongAt t_fault v2).bind fun q813 =>
  xf_rf_writing_184 t_size t_text k18 n t_at q813.2 t_items t_sorts t_values v1 v2 v3 v4 v5) := rfl
theorem xf_rf_writing_181_s (t_size : Int32) (t_text : (Nat → Int32)) (k18 : Int32 → Int32 → (Nat → Int32) → (Nat → Int32) → (Nat → Int32) → Int32 → Int32 → Int32 → Int32 → Int32 → Option (Unit × Int32 × Int32 × (Nat → Int32) × (Nat → Int32) × (Nat → Int32))) (n : Nat) (t_at : Int32) (t_fault : Int32) (t_items : (Nat → Int32)) (t_sorts : (Nat → Int32)) (t_values : (Nat → Int32)) (v1 : Int32) (v2 : Int32) (v3 : Int32) (v5 : Int32) (s0 : Int32) (s1 : Int32) : xf_rf_writing_181 t_size t_text k18 n t_at t_fault t_items t_sorts t_values v1 v2 v3 v5 s0 s1 = (
  xf_rf_writing_184 t_size t_text k18 n t_at t_fault t_items t_sorts t_values v1 v2 v3 (s0 + s1) v5) := rfl
theorem xf_rf_writing_148_s (t_size : Int32) (t_text : (Nat → Int32)) (k18 : Int32 → Int32 → (Nat → Int32) → (Nat → Int32) → (Nat → Int32) → Int32 → Int32 → Int32 → Int32 → Int32 → Option (Unit × Int32 × Int32 × (Nat → Int32) × (Nat → Int32) × (Nat → Int32))) (n : Nat) (t_at : Int32) (t_fault : Int32) (t_items : (Nat → Int32)) (t_sorts : (Nat → Int32)) (t_values : (Nat → Int32)) (v1 : Int32) (v2 : Int32) (v3 : Int32) (v4 : Int32) (v5 : Int32) (v7 : Int32) : xf_rf_writing_148 t_size t_text k18 n t_at t_fault t_items t_sorts t_values v1 v2 v3 v4 v5 v7 = (
  if xr_in v4 1200 = true then
    (if xr_in (((Int32.ofNat 20) * v1) + v3) 19200 = true then
      (if v7 = (Int32.ofNat 0) then
        (xf_rf_writing_181 t_size t_text k18 n t_at t_fault (upd t_items (((Int32.ofNat 20) * v1) + v3).toNatClampNeg ((t_text v4.toNatClampNeg))) t_sorts t_values v1 v2 (v3 + (Int32.ofNat 1)) v5 v4 (Int32.ofNat 1))
      else
        xf_rf_writing_181 t_size t_text k18 n t_at t_fault (upd t_items (((Int32.ofNat 20) * v1) + v3).toNatClampNeg ((t_text v4.toNatClampNeg))) t_sorts t_values v1 v2 (v3 + (Int32.ofNat 1)) v5 v4 (Int32.ofNat 2))
    else none)
  else none) := rfl
theorem xf_rf_writing_129_s (t_size : Int32) (t_text : (Nat → Int32)) (k18 : Int32 → Int32 → (Nat → Int32) → (Nat → Int32) → (Nat → Int32) → Int32 → Int32 → Int32 → Int32 → Int32 → Option (Unit × Int32 × Int32 × (Nat → Int32) × (Nat → Int32) × (Nat → Int32))) (n : Nat) (t_at : Int32) (t_fault : Int32) (t_items : (Nat → Int32)) (t_sorts : (Nat → Int32)) (t_values : (Nat → Int32)) (v1 : Int32) (v2 : Int32) (v3 : Int32) (v4 : Int32) (v5 : Int32) (v6 : Int32) (v7 : Int32) : xf_rf_writing_129 t_size t_text k18 n t_at t_fault t_items t_sorts t_values v1 v2 v3 v4 v5 v6 v7 = (
  if v6 = (Int32.ofNat 0) then
    (xf_rf_writing_148 t_size t_text k18 n t_at t_fault t_items t_sorts t_values v1 v2 v3 v4 v5 v7)
  else
    if v7 = (Int32.ofNat 0) then
      (xf_rf_writing_184 t_size t_text k18 n t_at t_fault t_items t_sorts t_values v1 v2 v3 (v4 + (Int32.ofNat 1)) (Int32.ofNat 0))
    else
      xf_rf_writing_148 t_size t_text k18 n t_at t_fault t_items t_sorts t_values v1 v2 v3 v4 v5 v7) := rfl
theorem xf_rf_writing_94_s (t_size : Int32) (t_text : (Nat → Int32)) (k18 : Int32 → Int32 → (Nat → Int32) → (Nat → Int32) → (Nat → Int32) → Int32 → Int32 → Int32 → Int32 → Int32 → Option (Unit × Int32 × Int32 × (Nat → Int32) × (Nat → Int32) × (Nat → Int32))) (n : Nat) (t_at : Int32) (t_fault : Int32) (t_items : (Nat → Int32)) (t_sorts : (Nat → Int32)) (t_values : (Nat → Int32)) (v1 : Int32) (v2 : Int32) (v3 : Int32) (v4 : Int32) (v5 : Int32) (v6 : Int32) (s0 : Int32) : xf_rf_writing_94 t_size t_text k18 n t_at t_fault t_items t_sorts t_values v1 v2 v3 v4 v5 v6 s0 = (
  if v4 < t_size then
    (if v3 = (Int32.ofNat 20) then
      (if v6 = (Int32.ofNat 0) then
        (xf_rf_writing_121 t_size t_text k18 n t_at t_fault t_items t_sorts t_values v1 v2 v3 v4 v5)
      else
        if s0 = (Int32.ofNat 0) then
          (xf_rf_writing_129 t_size t_text k18 n t_at t_fault t_items t_sorts t_values v1 v2 v3 v4 v5 v6 s0)
        else
          xf_rf_writing_121 t_size t_text k18 n t_at t_fault t_items t_sorts t_values v1 v2 v3 v4 v5)
    else
      xf_rf_writing_129 t_size t_text k18 n t_at t_fault t_items t_sorts t_values v1 v2 v3 v4 v5 v6 s0)
  else
    xf_rf_writing_121 t_size t_text k18 n t_at t_fault t_items t_sorts t_values v1 v2 v3 v4 v5) := rfl
theorem xf_rf_writing_93_s (t_size : Int32) (t_text : (Nat → Int32)) (k18 : Int32 → Int32 → (Nat → Int32) → (Nat → Int32) → (Nat → Int32) → Int32 → Int32 → Int32 → Int32 → Int32 → Option (Unit × Int32 × Int32 × (Nat → Int32) × (Nat → Int32) × (Nat → Int32))) (n : Nat) (t_at : Int32) (t_fault : Int32) (t_items : (Nat → Int32)) (t_sorts : (Nat → Int32)) (t_values : (Nat → Int32)) (v1 : Int32) (v2 : Int32) (v3 : Int32) (v4 : Int32) (v5 : Int32) (v6 : Int32) : xf_rf_writing_93 t_size t_text k18 n t_at t_fault t_items t_sorts t_values v1 v2 v3 v4 v5 v6 = (
  xf_rf_writing_94 t_size t_text k18 n t_at t_fault t_items t_sorts t_values v1 v2 v3 v4 v5 v6 (Int32.ofNat 0)) := rfl
theorem xf_rf_writing_57_s (t_size : Int32) (t_text : (Nat → Int32)) (k18 : Int32 → Int32 → (Nat → Int32) → (Nat → Int32) → (Nat → Int32) → Int32 → Int32 → Int32 → Int32 → Int32 → Option (Unit × Int32 × Int32 × (Nat → Int32) × (Nat → Int32) × (Nat → Int32))) (n : Nat) (t_at : Int32) (t_fault : Int32) (t_items : (Nat → Int32)) (t_sorts : (Nat → Int32)) (t_values : (Nat → Int32)) (v1 : Int32) (v2 : Int32) (v3 : Int32) (v4 : Int32) (v5 : Int32) (s0 : Int32) : xf_rf_writing_57 t_size t_text k18 n t_at t_fault t_items t_sorts t_values v1 v2 v3 v4 v5 s0 = (
  if s0 = (Int32.ofNat 0) then
    (xf_rf_writing_93 t_size t_text k18 n t_at t_fault t_items t_sorts t_values v1 v2 v3 v4 v5 s0)
  else
    if (v4 + (Int32.ofNat 1)) < t_size then
      (if xr_in (v4 + (Int32.ofNat 1)) 1200 = true then
        (if (t_text (v4 + (Int32.ofNat 1)).toNatClampNeg) = (Int32.ofNat 39) then
          (xf_rf_writing_94 t_size t_text k18 n t_at t_fault t_items t_sorts t_values v1 v2 v3 v4 v5 s0 (Int32.ofNat 1))
        else
          xf_rf_writing_93 t_size t_text k18 n t_at t_fault t_items t_sorts t_values v1 v2 v3 v4 v5 s0)
      else none)
    else
      xf_rf_writing_93 t_size t_text k18 n t_at t_fault t_items t_sorts t_values v1 v2 v3 v4 v5 s0) := rfl
theorem xf_rf_writing_56_s (t_size : Int32) (t_text : (Nat → Int32)) (k18 : Int32 → Int32 → (Nat → Int32) → (Nat → Int32) → (Nat → Int32) → Int32 → Int32 → Int32 → Int32 → Int32 → Option (Unit × Int32 × Int32 × (Nat → Int32) × (Nat → Int32) × (Nat → Int32))) (n : Nat) (t_at : Int32) (t_fault : Int32) (t_items : (Nat → Int32)) (t_sorts : (Nat → Int32)) (t_values : (Nat → Int32)) (v1 : Int32) (v2 : Int32) (v3 : Int32) (v4 : Int32) (v5 : Int32) : xf_rf_writing_56 t_size t_text k18 n t_at t_fault t_items t_sorts t_values v1 v2 v3 v4 v5 = (
  xf_rf_writing_57 t_size t_text k18 n t_at t_fault t_items t_sorts t_values v1 v2 v3 v4 v5 (Int32.ofNat 0)) := rfl
theorem xf_rf_writing_18_s (t_size : Int32) (t_text : (Nat → Int32)) (n : Nat) (N : Nat) (t_at : Int32) (t_fault : Int32) (t_items : (Nat → Int32)) (t_sorts : (Nat → Int32)) (t_values : (Nat → Int32)) (v1 : Int32) (v2 : Int32) (v3 : Int32) (v4 : Int32) (v5 : Int32) : xf_rf_writing_18 t_size t_text n (N + 1) t_at t_fault t_items t_sorts t_values v1 v2 v3 v4 v5 = (
    if v5 = (Int32.ofNat 0) then
      (xf_rf_writing_187 t_size t_text n t_at t_fault t_items t_sorts t_values v1 v3 v4)
    else
      if t_fault = (-1 : Int32) then
        (if v4 < t_size then
          (if xr_in v4 1200 = true then
            (if (t_text v4.toNatClampNeg) = (Int32.ofNat 39) then
              (xf_rf_writing_57 t_size t_text (xf_rf_writing_18 t_size t_text n N) n t_at t_fault t_items t_sorts t_values v1 v2 v3 v4 v5 (Int32.ofNat 1))
            else
              xf_rf_writing_56 t_size t_text (xf_rf_writing_18 t_size t_text n N) n t_at t_fault t_items t_sorts t_values v1 v2 v3 v4 v5)
          else none)
        else
          xf_rf_writing_56 t_size t_text (xf_rf_writing_18 t_size t_text n N) n t_at t_fault t_items t_sorts t_values v1 v2 v3 v4 v5)
      else
        xf_rf_writing_187 t_size t_text n t_at t_fault t_items t_sorts t_values v1 v3 v4) := rfl
theorem xf_rf_writing_s (t_size : Int32) (t_text : (Nat → Int32)) (n : Nat) (t_at : Int32) (t_fault : Int32) (t_items : (Nat → Int32)) (t_sorts : (Nat → Int32)) (t_values : (Nat → Int32)) (a1 : Int32) : xf_rf_writing t_size t_text n t_at t_fault t_items t_sorts t_values a1 = (
  xf_rf_writing_18 t_size t_text n n t_at t_fault t_items t_sorts t_values a1 t_at (Int32.ofNat 0) (t_at + (Int32.ofNat 1)) (Int32.ofNat 1)) := rfl
theorem xf_rf_argument1_178_s (t_size : Int32) (t_text : (Nat → Int32)) (n : Nat) (t_at : Int32) (t_fault : Int32) (t_from : Int32) (t_items : (Nat → Int32)) (t_sorts : (Nat → Int32)) (t_values : (Nat → Int32)) : xf_rf_argument1_178 t_size t_text n t_at t_fault t_from t_items t_sorts t_values = (
  some ((), t_at, t_fault, t_from, t_items, t_sorts, t_values)) := rfl
theorem xf_rf_reference_25_s (t_size : Int32) (t_text : (Nat → Int32)) (n : Nat) (t_at : Int32) (t_fault : Int32) (t_from : Int32) (v1 : Int32) : xf_rf_reference_25 t_size t_text n t_at t_fault t_from v1 = (
  some (v1, t_at, t_fault, t_from)) := rfl
theorem xf_rf_reference_s (t_size : Int32) (t_text : (Nat → Int32)) (n : Nat) (t_at : Int32) (t_fault : Int32) (t_from : Int32) : xf_rf_reference t_size t_text n t_at t_fault t_from = (
  (xf_rf_sign t_size t_text n t_at t_fault (Int32.ofNat 35)).bind fun q826 =>
  (xf_rf_digits t_size t_text n q826.2.1 q826.2.2 t_from (Int32.ofNat 3) (-1 : Int32)).bind fun q827 =>
  if q827.1 = (Int32.ofNat 0) then
    ((xf_rf_wrongAt q827.2.2.1 q827.2.2.2).bind fun q829 =>
    xf_rf_reference_25 t_size t_text n q827.2.1 q829.2 q827.2.2.2 q827.1)
  else
    xf_rf_reference_25 t_size t_text n q827.2.1 q827.2.2.1 q827.2.2.2 q827.1) := rfl
theorem xf_rf_list_190_s (t_size : Int32) (t_text : (Nat → Int32)) (n : Nat) (t_at : Int32) (t_fault : Int32) (t_from : Int32) (t_items : (Nat → Int32)) (t_sorts : (Nat → Int32)) (t_values : (Nat → Int32)) (v1 : Int32) (v2 : Int32) : xf_rf_list_190 t_size t_text n t_at t_fault t_from t_items t_sorts t_values v1 v2 = (
  (xf_rf_sign t_size t_text n t_at t_fault (Int32.ofNat 41)).bind fun q858 =>
  if xr_in v1 960 = true then
    (some ((), q858.2.1, q858.2.2, t_from, t_items, t_sorts, upd t_values v1.toNatClampNeg v2))
  else none) := rfl
theorem xf_rf_list_187_s (t_size : Int32) (t_text : (Nat → Int32)) (k43 : Int32 → Int32 → Int32 → (Nat → Int32) → (Nat → Int32) → (Nat → Int32) → Int32 → Int32 → Int32 → Option (Unit × Int32 × Int32 × Int32 × (Nat → Int32) × (Nat → Int32) × (Nat → Int32))) (n : Nat) (t_at : Int32) (t_fault : Int32) (t_from : Int32) (t_items : (Nat → Int32)) (t_sorts : (Nat → Int32)) (t_values : (Nat → Int32)) (v1 : Int32) (v2 : Int32) (v4 : Int32) : xf_rf_list_187 t_size t_text k43 n t_at t_fault t_from t_items t_sorts t_values v1 v2 v4 = (
  k43 t_at t_fault t_from t_items t_sorts t_values v1 v2 v4) := rfl
theorem xf_rf_list_102_s (t_size : Int32) (t_text : (Nat → Int32)) (k43 : Int32 → Int32 → Int32 → (Nat → Int32) → (Nat → Int32) → (Nat → Int32) → Int32 → Int32 → Int32 → Option (Unit × Int32 × Int32 × Int32 × (Nat → Int32) × (Nat → Int32) × (Nat → Int32))) (n : Nat) (t_at : Int32) (t_fault : Int32) (t_from : Int32) (t_items : (Nat → Int32)) (t_sorts : (Nat → Int32)) (t_values : (Nat → Int32)) (v1 : Int32) (v2 : Int32) (v4 : Int32) : xf_rf_list_102 t_size t_text k43 n t_at t_fault t_from t_items t_sorts t_values v1 v2 v4 = (
  (xf_rf_wrongAt t_fault t_at).bind fun q866 =>
  xf_rf_list_187 t_size t_text k43 n t_at q866.2 t_from t_items t_sorts t_values v1 v2 v4) := rfl
theorem xf_rf_list_170_s (t_size : Int32) (t_text : (Nat → Int32)) (k43 : Int32 → Int32 → Int32 → (Nat → Int32) → (Nat → Int32) → (Nat → Int32) → Int32 → Int32 → Int32 → Option (Unit × Int32 × Int32 × Int32 × (Nat → Int32) × (Nat → Int32) × (Nat → Int32))) (n : Nat) (t_at : Int32) (t_fault : Int32) (t_from : Int32) (t_items : (Nat → Int32)) (t_sorts : (Nat → Int32)) (t_values : (Nat → Int32)) (v1 : Int32) (v2 : Int32) (s0 : Int32) : xf_rf_list_170 t_size t_text k43 n t_at t_fault t_from t_items t_sorts t_values v1 v2 s0 = (
  if s0 = (Int32.ofNat 0) then
    (xf_rf_list_187 t_size t_text k43 n t_at t_fault t_from t_items t_sorts t_values v1 v2 s0)
  else
    xf_rf_list_187 t_size t_text k43 n (t_at + (Int32.ofNat 1)) t_fault t_from t_items t_sorts t_values v1 v2 s0) := rfl
theorem xf_rf_list_169_s (t_size : Int32) (t_text : (Nat → Int32)) (k43 : Int32 → Int32 → Int32 → (Nat → Int32) → (Nat → Int32) → (Nat → Int32) → Int32 → Int32 → Int32 → Option (Unit × Int32 × Int32 × Int32 × (Nat → Int32) × (Nat → Int32) × (Nat → Int32))) (n : Nat) (t_at : Int32) (t_fault : Int32) (t_from : Int32) (t_items : (Nat → Int32)) (t_sorts : (Nat → Int32)) (t_values : (Nat → Int32)) (v1 : Int32) (v2 : Int32) : xf_rf_list_169 t_size t_text k43 n t_at t_fault t_from t_items t_sorts t_values v1 v2 = (
  xf_rf_list_170 t_size t_text k43 n t_at t_fault t_from t_items t_sorts t_values v1 v2 (Int32.ofNat 0)) := rfl
theorem xf_rf_list_144_s (t_size : Int32) (t_text : (Nat → Int32)) (k43 : Int32 → Int32 → Int32 → (Nat → Int32) → (Nat → Int32) → (Nat → Int32) → Int32 → Int32 → Int32 → Option (Unit × Int32 × Int32 × Int32 × (Nat → Int32) × (Nat → Int32) × (Nat → Int32))) (n : Nat) (t_at : Int32) (t_fault : Int32) (t_from : Int32) (t_items : (Nat → Int32)) (t_sorts : (Nat → Int32)) (t_values : (Nat → Int32)) (v1 : Int32) (v2 : Int32) (s1 : Int32) (s2 : Int32) : xf_rf_list_144 t_size t_text k43 n t_at t_fault t_from t_items t_sorts t_values v1 v2 s1 s2 = (
  if xr_in s1 19200 = true then
    (if t_fault = (-1 : Int32) then
      ((xf_rf_peek t_size t_text n t_at).bind fun q873 =>
      if q873.1 = (Int32.ofNat 44) then
        (xf_rf_list_170 t_size t_text k43 n q873.2 t_fault t_from (upd t_items s1.toNatClampNeg s2) t_sorts t_values v1 (v2 + (Int32.ofNat 1)) (Int32.ofNat 1))
      else
        xf_rf_list_169 t_size t_text k43 n q873.2 t_fault t_from (upd t_items s1.toNatClampNeg s2) t_sorts t_values v1 (v2 + (Int32.ofNat 1)))
    else
      xf_rf_list_169 t_size t_text k43 n t_at t_fault t_from (upd t_items s1.toNatClampNeg s2) t_sorts t_values v1 (v2 + (Int32.ofNat 1)))
  else none) := rfl
theorem xf_rf_number_52_s (t_size : Int32) (t_text : (Nat → Int32)) (n : Nat) (t_at : Int32) (t_fault : Int32) (t_from : Int32) (s0 : Int32) : xf_rf_number_52 t_size t_text n t_at t_fault t_from s0 = (
  some (s0, t_at, t_fault, t_from)) := rfl
theorem xf_rf_number_34_s (t_size : Int32) (t_text : (Nat → Int32)) (n : Nat) (t_at : Int32) (t_fault : Int32) (t_from : Int32) (v1 : Int32) (v2 : Int32) : xf_rf_number_34 t_size t_text n t_at t_fault t_from v1 v2 = (
  (xf_rf_digits t_size t_text n t_at t_fault t_from (Int32.ofNat 9) v2).bind fun q879 =>
  if v1 = (Int32.ofNat 0) then
    (xf_rf_number_52 t_size t_text n q879.2.1 q879.2.2.1 q879.2.2.2 q879.1)
  else
    xf_rf_number_52 t_size t_text n q879.2.1 q879.2.2.1 q879.2.2.2 (-q879.1)) := rfl
theorem xf_rf_number_14_s (t_size : Int32) (t_text : (Nat → Int32)) (n : Nat) (t_at : Int32) (t_fault : Int32) (t_from : Int32) (s0 : Int32) : xf_rf_number_14 t_size t_text n t_at t_fault t_from s0 = (
  if s0 = (Int32.ofNat 0) then
    (xf_rf_number_34 t_size t_text n t_at t_fault t_from s0 t_at)
  else
    xf_rf_number_34 t_size t_text n (t_at + (Int32.ofNat 1)) t_fault t_from s0 t_at) := rfl
theorem xf_rf_number_s (t_size : Int32) (t_text : (Nat → Int32)) (n : Nat) (t_at : Int32) (t_fault : Int32) (t_from : Int32) : xf_rf_number t_size t_text n t_at t_fault t_from = (
  (xf_rf_peek t_size t_text n t_at).bind fun q876 =>
  if q876.1 = (Int32.ofNat 45) then
    (xf_rf_number_14 t_size t_text n q876.2 t_fault t_from (Int32.ofNat 1))
  else
    xf_rf_number_14 t_size t_text n q876.2 t_fault t_from (Int32.ofNat 0)) := rfl
theorem xf_rf_list_89_s (t_size : Int32) (t_text : (Nat → Int32)) (k43 : Int32 → Int32 → Int32 → (Nat → Int32) → (Nat → Int32) → (Nat → Int32) → Int32 → Int32 → Int32 → Option (Unit × Int32 × Int32 × Int32 × (Nat → Int32) × (Nat → Int32) × (Nat → Int32))) (n : Nat) (t_at : Int32) (t_fault : Int32) (t_from : Int32) (t_items : (Nat → Int32)) (t_sorts : (Nat → Int32)) (t_values : (Nat → Int32)) (v1 : Int32) (v2 : Int32) (v4 : Int32) (s0 : Int32) : xf_rf_list_89 t_size t_text k43 n t_at t_fault t_from t_items t_sorts t_values v1 v2 v4 s0 = (
  if v2 = (Int32.ofNat 6) then
    (xf_rf_list_102 t_size t_text k43 n t_at t_fault t_from t_items t_sorts t_values v1 v2 v4)
  else
    if s0 = (Int32.ofNat 0) then
      (xf_rf_list_102 t_size t_text k43 n t_at t_fault t_from t_items t_sorts t_values v1 v2 v4)
    else
      if xr_in v1 960 = true then
        (if (t_sorts v1.toNatClampNeg) = (Int32.ofNat 4) then
          ((xf_rf_reference t_size t_text n t_at t_fault t_from).bind fun q870 =>
          xf_rf_list_144 t_size t_text k43 n q870.2.1 q870.2.2.1 q870.2.2.2 t_items t_sorts t_values v1 v2 (((Int32.ofNat 20) * v1) + v2) q870.1)
        else
          (xf_rf_number t_size t_text n t_at t_fault t_from).bind fun q881 =>
          xf_rf_list_144 t_size t_text k43 n q881.2.1 q881.2.2.1 q881.2.2.2 t_items t_sorts t_values v1 v2 (((Int32.ofNat 20) * v1) + v2) q881.1)
      else none) := rfl
theorem xf_rf_list_43_s (t_size : Int32) (t_text : (Nat → Int32)) (n : Nat) (N : Nat) (t_at : Int32) (t_fault : Int32) (t_from : Int32) (t_items : (Nat → Int32)) (t_sorts : (Nat → Int32)) (t_values : (Nat → Int32)) (v1 : Int32) (v2 : Int32) (v4 : Int32) : xf_rf_list_43 t_size t_text n (N + 1) t_at t_fault t_from t_items t_sorts t_values v1 v2 v4 = (
    if v4 = (Int32.ofNat 0) then
      (xf_rf_list_190 t_size t_text n t_at t_fault t_from t_items t_sorts t_values v1 v2)
    else
      if t_fault = (-1 : Int32) then
        ((xf_rf_peek t_size t_text n t_at).bind fun q861 =>
        if xr_in v1 960 = true then
          (if (t_sorts v1.toNatClampNeg) = (Int32.ofNat 4) then
            (if q861.1 = (Int32.ofNat 35) then
              (xf_rf_list_89 t_size t_text (xf_rf_list_43 t_size t_text n N) n q861.2 t_fault t_from t_items t_sorts t_values v1 v2 v4 (Int32.ofNat 1))
            else
              xf_rf_list_89 t_size t_text (xf_rf_list_43 t_size t_text n N) n q861.2 t_fault t_from t_items t_sorts t_values v1 v2 v4 (Int32.ofNat 0))
          else
            (xf_rf_beginsNumber q861.1).bind fun q882 =>
            xf_rf_list_89 t_size t_text (xf_rf_list_43 t_size t_text n N) n q861.2 t_fault t_from t_items t_sorts t_values v1 v2 v4 q882)
        else none)
      else
        xf_rf_list_190 t_size t_text n t_at t_fault t_from t_items t_sorts t_values v1 v2) := rfl
theorem xf_rf_list_41_s (t_size : Int32) (t_text : (Nat → Int32)) (n : Nat) (t_at : Int32) (t_fault : Int32) (t_from : Int32) (t_items : (Nat → Int32)) (t_sorts : (Nat → Int32)) (t_values : (Nat → Int32)) (v1 : Int32) (v2 : Int32) (s0 : Int32) : xf_rf_list_41 t_size t_text n t_at t_fault t_from t_items t_sorts t_values v1 v2 s0 = (
  xf_rf_list_43 t_size t_text n n t_at t_fault t_from t_items t_sorts t_values v1 v2 s0) := rfl
theorem xf_rf_list_29_s (t_size : Int32) (t_text : (Nat → Int32)) (n : Nat) (t_at : Int32) (t_fault : Int32) (t_from : Int32) (t_items : (Nat → Int32)) (t_sorts : (Nat → Int32)) (t_values : (Nat → Int32)) (v1 : Int32) (v2 : Int32) (v3 : Int32) (s1 : Int32) (s2 : Int32) : xf_rf_list_29 t_size t_text n t_at t_fault t_from t_items t_sorts t_values v1 v2 v3 s1 s2 = (
  if xr_in s1 960 = true then
    (if v3 = (Int32.ofNat 41) then
      (xf_rf_list_41 t_size t_text n t_at t_fault t_from t_items (upd t_sorts s1.toNatClampNeg s2) t_values v1 v2 (Int32.ofNat 0))
    else
      xf_rf_list_41 t_size t_text n t_at t_fault t_from t_items (upd t_sorts s1.toNatClampNeg s2) t_values v1 v2 (Int32.ofNat 1))
  else none) := rfl
theorem xf_rf_list_s (t_size : Int32) (t_text : (Nat → Int32)) (n : Nat) (t_at : Int32) (t_fault : Int32) (t_from : Int32) (t_items : (Nat → Int32)) (t_sorts : (Nat → Int32)) (t_values : (Nat → Int32)) (a1 : Int32) : xf_rf_list t_size t_text n t_at t_fault t_from t_items t_sorts t_values a1 = (
  (xf_rf_sign t_size t_text n t_at t_fault (Int32.ofNat 40)).bind fun q852 =>
  (xf_rf_peek t_size t_text n q852.2.1).bind fun q853 =>
  if q853.1 = (Int32.ofNat 35) then
    (xf_rf_list_29 t_size t_text n q853.2 q852.2.2 t_from t_items t_sorts t_values a1 (Int32.ofNat 0) q853.1 a1 (Int32.ofNat 4))
  else
    xf_rf_list_29 t_size t_text n q853.2 q852.2.2 t_from t_items t_sorts t_values a1 (Int32.ofNat 0) q853.1 a1 (Int32.ofNat 3)) := rfl
theorem xf_rf_argument1_s (t_size : Int32) (t_text : (Nat → Int32)) (n : Nat) (t_at : Int32) (t_fault : Int32) (t_from : Int32) (t_items : (Nat → Int32)) (t_sorts : (Nat → Int32)) (t_values : (Nat → Int32)) (a1 : Int32) : xf_rf_argument1 t_size t_text n t_at t_fault t_from t_items t_sorts t_values a1 = (
  (xf_rf_peek t_size t_text n t_at).bind fun q793 =>
  if xr_in a1 960 = true then
    ((xf_rf_beginsNumber q793.1).bind fun q799 =>
    if q799 = (Int32.ofNat 0) then
      (if q793.1 = (Int32.ofNat 39) then
        ((xf_rf_writing t_size t_text n q793.2 t_fault t_items t_sorts (upd t_values a1.toNatClampNeg ((Int32.ofNat 0))) a1).bind fun q823 =>
        xf_rf_argument1_178 t_size t_text n q823.2.1 q823.2.2.1 t_from q823.2.2.2.1 q823.2.2.2.2.1 q823.2.2.2.2.2)
      else
        if q793.1 = (Int32.ofNat 35) then
          (if xr_in a1 960 = true then
            ((xf_rf_reference t_size t_text n q793.2 t_fault t_from).bind fun q830 =>
            if xr_in a1 960 = true then
              (xf_rf_argument1_178 t_size t_text n q830.2.1 q830.2.2.1 q830.2.2.2 t_items (upd t_sorts a1.toNatClampNeg ((Int32.ofNat 2))) (upd (upd t_values a1.toNatClampNeg ((Int32.ofNat 0))) a1.toNatClampNeg q830.1))
            else none)
          else none)
        else
          if q793.1 = (Int32.ofNat 36) then
            (if xr_in a1 960 = true then
              (xf_rf_argument1_178 t_size t_text n (q793.2 + (Int32.ofNat 1)) t_fault t_from t_items (upd t_sorts a1.toNatClampNeg ((Int32.ofNat 6))) (upd t_values a1.toNatClampNeg ((Int32.ofNat 0))))
            else none)
          else
            if q793.1 = (Int32.ofNat 46) then
              (if xr_in a1 960 = true then
                ((xf_rf_name t_size t_text 19200 n t_items (q793.2 + (Int32.ofNat 1)) t_fault t_from ((Int32.ofNat 20) * a1)).bind fun q848 =>
                if xr_in a1 960 = true then
                  ((xf_rf_sign t_size t_text n q848.2.2.1 q848.2.2.2.1 (Int32.ofNat 46)).bind fun q850 =>
                  xf_rf_argument1_178 t_size t_text n q850.2.1 q850.2.2 q848.2.2.2.2 q848.2.1 (upd t_sorts a1.toNatClampNeg ((Int32.ofNat 5))) (upd (upd t_values a1.toNatClampNeg ((Int32.ofNat 0))) a1.toNatClampNeg q848.1))
                else none)
              else none)
            else
              if q793.1 = (Int32.ofNat 40) then
                ((xf_rf_list t_size t_text n q793.2 t_fault t_from t_items t_sorts (upd t_values a1.toNatClampNeg ((Int32.ofNat 0))) a1).bind fun q883 =>
                xf_rf_argument1_178 t_size t_text n q883.2.1 q883.2.2.1 q883.2.2.2.1 q883.2.2.2.2.1 q883.2.2.2.2.2.1 q883.2.2.2.2.2.2)
              else
                (xf_rf_wrongAt t_fault q793.2).bind fun q884 =>
                xf_rf_argument1_178 t_size t_text n q793.2 q884.2 t_from t_items t_sorts (upd t_values a1.toNatClampNeg ((Int32.ofNat 0))))
    else
      if xr_in a1 960 = true then
        ((xf_rf_number t_size t_text n q793.2 t_fault t_from).bind fun q886 =>
        if xr_in a1 960 = true then
          (xf_rf_argument1_178 t_size t_text n q886.2.1 q886.2.2.1 q886.2.2.2 t_items (upd t_sorts a1.toNatClampNeg ((Int32.ofNat 0))) (upd (upd t_values a1.toNatClampNeg ((Int32.ofNat 0))) a1.toNatClampNeg q886.1))
        else none)
      else none)
  else none) := rfl
theorem xf_rf_oneLine_190_s (t_size : Int32) (t_text : (Nat → Int32)) (k120 : Int32 → Int32 → Int32 → (Nat → Int32) → (Nat → Int32) → (Nat → Int32) → (Nat → Int32) → (Nat → Int32) → (Nat → Int32) → (Nat → Int32) → (Nat → Int32) → Int32 → Int32 → Int32 → Option (Unit × Int32 × Int32 × Int32 × (Nat → Int32) × (Nat → Int32) × (Nat → Int32) × (Nat → Int32) × (Nat → Int32) × (Nat → Int32) × (Nat → Int32) × (Nat → Int32))) (n : Nat) (t_at : Int32) (t_fault : Int32) (t_from : Int32) (t_items : (Nat → Int32)) (t_letters : (Nat → Int32)) (t_lines : (Nat → Int32)) (t_names : (Nat → Int32)) (t_numbers : (Nat → Int32)) (t_parts : (Nat → Int32)) (t_sorts : (Nat → Int32)) (t_values : (Nat → Int32)) (v1 : Int32) (v3 : Int32) (s0 : Int32) : xf_rf_oneLine_190 t_size t_text k120 n t_at t_fault t_from t_items t_letters t_lines t_names t_numbers t_parts t_sorts t_values v1 v3 s0 = (
  if s0 = (Int32.ofNat 0) then
    (k120 t_at t_fault t_from t_items t_letters t_lines t_names t_numbers t_parts t_sorts t_values v1 v3 s0)
  else
    k120 (t_at + (Int32.ofNat 1)) t_fault t_from t_items t_letters t_lines t_names t_numbers t_parts t_sorts t_values v1 v3 s0) := rfl
theorem xf_rf_oneLine_189_s (t_size : Int32) (t_text : (Nat → Int32)) (k120 : Int32 → Int32 → Int32 → (Nat → Int32) → (Nat → Int32) → (Nat → Int32) → (Nat → Int32) → (Nat → Int32) → (Nat → Int32) → (Nat → Int32) → (Nat → Int32) → Int32 → Int32 → Int32 → Option (Unit × Int32 × Int32 × Int32 × (Nat → Int32) × (Nat → Int32) × (Nat → Int32) × (Nat → Int32) × (Nat → Int32) × (Nat → Int32) × (Nat → Int32) × (Nat → Int32))) (n : Nat) (t_at : Int32) (t_fault : Int32) (t_from : Int32) (t_items : (Nat → Int32)) (t_letters : (Nat → Int32)) (t_lines : (Nat → Int32)) (t_names : (Nat → Int32)) (t_numbers : (Nat → Int32)) (t_parts : (Nat → Int32)) (t_sorts : (Nat → Int32)) (t_values : (Nat → Int32)) (v1 : Int32) (v3 : Int32) : xf_rf_oneLine_189 t_size t_text k120 n t_at t_fault t_from t_items t_letters t_lines t_names t_numbers t_parts t_sorts t_values v1 v3 = (
  xf_rf_oneLine_190 t_size t_text k120 n t_at t_fault t_from t_items t_letters t_lines t_names t_numbers t_parts t_sorts t_values v1 v3 (Int32.ofNat 0)) := rfl
theorem xf_rf_oneLine_120_s (t_size : Int32) (t_text : (Nat → Int32)) (n : Nat) (N : Nat) (t_at : Int32) (t_fault : Int32) (t_from : Int32) (t_items : (Nat → Int32)) (t_letters : (Nat → Int32)) (t_lines : (Nat → Int32)) (t_names : (Nat → Int32)) (t_numbers : (Nat → Int32)) (t_parts : (Nat → Int32)) (t_sorts : (Nat → Int32)) (t_values : (Nat → Int32)) (v1 : Int32) (v3 : Int32) (v4 : Int32) : xf_rf_oneLine_120 t_size t_text n (N + 1) t_at t_fault t_from t_items t_letters t_lines t_names t_numbers t_parts t_sorts t_values v1 v3 v4 = (
    if v4 = (Int32.ofNat 0) then
      (xf_rf_oneLine_210 t_size t_text n t_at t_fault t_from t_items t_letters t_lines t_names t_numbers t_parts t_sorts t_values v1 v3)
    else
      if t_fault = (-1 : Int32) then
        ((xf_rf_peek t_size t_text n t_at).bind fun q790 =>
        if v3 = (Int32.ofNat 8) then
          ((xf_rf_wrongAt t_fault q790.2).bind fun q792 =>
          (xf_rf_oneLine_120 t_size t_text n N) q790.2 q792.2 t_from t_items t_letters t_lines t_names t_numbers t_parts t_sorts t_values v1 v3 v4)
        else
          (xf_rf_argument1 t_size t_text n q790.2 t_fault t_from t_items t_sorts t_values (((Int32.ofNat 8) * v1) + v3)).bind fun q888 =>
          if q888.2.2.1 = (-1 : Int32) then
            ((xf_rf_peek t_size t_text n q888.2.1).bind fun q890 =>
            if q890.1 = (Int32.ofNat 44) then
              (xf_rf_oneLine_190 t_size t_text (xf_rf_oneLine_120 t_size t_text n N) n q890.2 q888.2.2.1 q888.2.2.2.1 q888.2.2.2.2.1 t_letters t_lines t_names t_numbers t_parts q888.2.2.2.2.2.1 q888.2.2.2.2.2.2 v1 (v3 + (Int32.ofNat 1)) (Int32.ofNat 1))
            else
              xf_rf_oneLine_189 t_size t_text (xf_rf_oneLine_120 t_size t_text n N) n q890.2 q888.2.2.1 q888.2.2.2.1 q888.2.2.2.2.1 t_letters t_lines t_names t_numbers t_parts q888.2.2.2.2.2.1 q888.2.2.2.2.2.2 v1 (v3 + (Int32.ofNat 1)))
          else
            xf_rf_oneLine_189 t_size t_text (xf_rf_oneLine_120 t_size t_text n N) n q888.2.1 q888.2.2.1 q888.2.2.2.1 q888.2.2.2.2.1 t_letters t_lines t_names t_numbers t_parts q888.2.2.2.2.2.1 q888.2.2.2.2.2.2 v1 (v3 + (Int32.ofNat 1)))
      else
        xf_rf_oneLine_210 t_size t_text n t_at t_fault t_from t_items t_letters t_lines t_names t_numbers t_parts t_sorts t_values v1 v3) := rfl
theorem xf_rf_oneLine_78_s (t_size : Int32) (t_text : (Nat → Int32)) (n : Nat) (t_at : Int32) (t_fault : Int32) (t_from : Int32) (t_items : (Nat → Int32)) (t_letters : (Nat → Int32)) (t_lines : (Nat → Int32)) (t_names : (Nat → Int32)) (t_numbers : (Nat → Int32)) (t_parts : (Nat → Int32)) (t_sorts : (Nat → Int32)) (t_values : (Nat → Int32)) (v1 : Int32) (v2 : Int32) : xf_rf_oneLine_78 t_size t_text n t_at t_fault t_from t_items t_letters t_lines t_names t_numbers t_parts t_sorts t_values v1 v2 = (
  if xr_in v1 120 = true then
    ((xf_rf_sign t_size t_text n t_at t_fault (Int32.ofNat 61)).bind fun q769 =>
    (xf_rf_name t_size t_text 960 n t_names q769.2.1 q769.2.2 t_from ((Int32.ofNat 8) * v1)).bind fun q782 =>
    if xr_in v1 120 = true then
      ((xf_rf_sign t_size t_text n q782.2.2.1 q782.2.2.2.1 (Int32.ofNat 40)).bind fun q784 =>
      xf_rf_oneLine_120 t_size t_text n n q784.2.1 q784.2.2 q782.2.2.2.2 t_items (upd t_letters v1.toNatClampNeg q782.1) t_lines q782.2.1 (upd t_numbers v1.toNatClampNeg v2) t_parts t_sorts t_values v1 (Int32.ofNat 0) (Int32.ofNat 1))
    else none)
  else none) := rfl
theorem xf_rf_oneLine_70_s (t_size : Int32) (t_text : (Nat → Int32)) (n : Nat) (t_at : Int32) (t_fault : Int32) (t_from : Int32) (t_items : (Nat → Int32)) (t_letters : (Nat → Int32)) (t_lines : (Nat → Int32)) (t_names : (Nat → Int32)) (t_numbers : (Nat → Int32)) (t_parts : (Nat → Int32)) (t_sorts : (Nat → Int32)) (t_values : (Nat → Int32)) (v1 : Int32) (v2 : Int32) : xf_rf_oneLine_70 t_size t_text n t_at t_fault t_from t_items t_letters t_lines t_names t_numbers t_parts t_sorts t_values v1 v2 = (
  (xf_rf_wrongAt t_fault t_from).bind fun q767 =>
  xf_rf_oneLine_78 t_size t_text n t_at q767.2 t_from t_items t_letters t_lines t_names t_numbers t_parts t_sorts t_values v1 v2) := rfl
theorem xf_rf_oneLine_s (t_size : Int32) (t_text : (Nat → Int32)) (n : Nat) (t_at : Int32) (t_fault : Int32) (t_from : Int32) (t_items : (Nat → Int32)) (t_letters : (Nat → Int32)) (t_lines : (Nat → Int32)) (t_names : (Nat → Int32)) (t_numbers : (Nat → Int32)) (t_parts : (Nat → Int32)) (t_sorts : (Nat → Int32)) (t_values : (Nat → Int32)) : xf_rf_oneLine t_size t_text n t_at t_fault t_from t_items t_letters t_lines t_names t_numbers t_parts t_sorts t_values = (
  (xf_rf_peek t_size t_text n t_at).bind fun q745 =>
  if q745.1 = (Int32.ofNat 35) then
    (if (t_lines (Int32.ofNat 1).toNatClampNeg) = (Int32.ofNat 40) then
      (xf_rf_oneLine_20 t_size t_text n q745.2 t_fault t_from t_items t_letters t_lines t_names t_numbers t_parts t_sorts t_values)
    else
      (xf_rf_digits t_size t_text n (q745.2 + (Int32.ofNat 1)) t_fault t_from (Int32.ofNat 3) (-1 : Int32)).bind fun q765 =>
      if q765.1 = (Int32.ofNat 0) then
        (xf_rf_oneLine_70 t_size t_text n q765.2.1 q765.2.2.1 q765.2.2.2 t_items t_letters t_lines t_names t_numbers t_parts t_sorts t_values ((Int32.ofNat 40) + (t_lines (Int32.ofNat 1).toNatClampNeg)) q765.1)
      else
        (xf_rf_find t_lines t_numbers n (Int32.ofNat 1) q765.1).bind fun q893 =>
        if q893 = (-1 : Int32) then
          (xf_rf_oneLine_78 t_size t_text n q765.2.1 q765.2.2.1 q765.2.2.2 t_items t_letters t_lines t_names t_numbers t_parts t_sorts t_values ((Int32.ofNat 40) + (t_lines (Int32.ofNat 1).toNatClampNeg)) q765.1)
        else
          xf_rf_oneLine_70 t_size t_text n q765.2.1 q765.2.2.1 q765.2.2.2 t_items t_letters t_lines t_names t_numbers t_parts t_sorts t_values ((Int32.ofNat 40) + (t_lines (Int32.ofNat 1).toNatClampNeg)) q765.1)
  else
    xf_rf_oneLine_20 t_size t_text n q745.2 t_fault t_from t_items t_letters t_lines t_names t_numbers t_parts t_sorts t_values) := rfl
theorem xf_rf_read_22_s (t_text : (Nat → Int32)) (n : Nat) (N : Nat) (t_at : Int32) (t_fault : Int32) (t_from : Int32) (t_items : (Nat → Int32)) (t_letters : (Nat → Int32)) (t_lines : (Nat → Int32)) (t_names : (Nat → Int32)) (t_numbers : (Nat → Int32)) (t_parts : (Nat → Int32)) (t_size : Int32) (t_sorts : (Nat → Int32)) (t_thrown : Int32) (t_values : (Nat → Int32)) : xf_rf_read_22 t_text n (N + 1) t_at t_fault t_from t_items t_letters t_lines t_names t_numbers t_parts t_size t_sorts t_thrown t_values = (
    if t_fault = (-1 : Int32) then
      ((xf_rf_peek t_size t_text n t_at).bind fun q695 =>
      if q695.1 = (Int32.ofNat 0) then
        (xf_rf_read_44 t_text n q695.2 t_fault t_from t_items t_letters t_lines t_names t_numbers t_parts t_size t_sorts t_thrown t_values)
      else
        (xf_rf_oneLine t_size t_text n q695.2 t_fault t_from t_items t_letters t_lines t_names t_numbers t_parts t_sorts t_values).bind fun q895 =>
        (xf_rf_read_22 t_text n N) q895.2.1 q895.2.2.1 q895.2.2.2.1 q895.2.2.2.2.1 q895.2.2.2.2.2.1 q895.2.2.2.2.2.2.1 q895.2.2.2.2.2.2.2.1 q895.2.2.2.2.2.2.2.2.1 q895.2.2.2.2.2.2.2.2.2.1 t_size q895.2.2.2.2.2.2.2.2.2.2.1 t_thrown q895.2.2.2.2.2.2.2.2.2.2.2)
    else
      xf_rf_read_44 t_text n t_at t_fault t_from t_items t_letters t_lines t_names t_numbers t_parts t_size t_sorts t_thrown t_values) := rfl
theorem xf_rf_read_s (t_text : (Nat → Int32)) (n : Nat) (t_at : Int32) (t_fault : Int32) (t_from : Int32) (t_items : (Nat → Int32)) (t_letters : (Nat → Int32)) (t_lines : (Nat → Int32)) (t_names : (Nat → Int32)) (t_numbers : (Nat → Int32)) (t_parts : (Nat → Int32)) (t_size : Int32) (t_sorts : (Nat → Int32)) (t_thrown : Int32) (t_values : (Nat → Int32)) : xf_rf_read t_text n t_at t_fault t_from t_items t_letters t_lines t_names t_numbers t_parts t_size t_sorts t_thrown t_values = (
  xf_rf_read_22 t_text n n (Int32.ofNat 0) (-1 : Int32) t_from t_items t_letters (upd t_lines (Int32.ofNat 1).toNatClampNeg ((Int32.ofNat 0))) t_names t_numbers t_parts t_size t_sorts (Int32.ofNat 0) t_values) := rfl
theorem xf_rf_put_20_s (t_out : (Nat → Int32)) (t_written : Int32) : xf_rf_put_20 t_out t_written = (
  some ((), t_out, t_written + (Int32.ofNat 1))) := rfl
theorem xf_rf_put_s (t_out : (Nat → Int32)) (t_written : Int32) (a1 : Int32) : xf_rf_put t_out t_written a1 = (
  if t_written < (Int32.ofNat 1200) then
    (if xr_in t_written 1200 = true then
      (xf_rf_put_20 (upd t_out t_written.toNatClampNeg a1) t_written)
    else none)
  else
    xf_rf_put_20 t_out t_written) := rfl
theorem xf_rf_putNumber_39_s (n : Nat) (N : Nat) (t_out : (Nat → Int32)) (t_written : Int32) (v2 : Int32) (v3 : Int32) : xf_rf_putNumber_39 n (N + 1) t_out t_written v2 v3 = (
    if (Int32.ofNat 0) < v3 then
      (if v3 = (Int32.ofNat 0) then none else
      if (Int32.ofNat 10) = (Int32.ofNat 0) then none else
      (xf_rf_put t_out t_written ((Int32.ofNat 48) + ((v2 / v3) - (v2 / v3) / (Int32.ofNat 10) * (Int32.ofNat 10)))).bind fun q909 =>
      if (Int32.ofNat 10) = (Int32.ofNat 0) then none else
      (xf_rf_putNumber_39 n N) q909.2.1 q909.2.2 v2 (v3 / (Int32.ofNat 10)))
    else
      some ((), t_out, t_written)) := rfl
theorem xf_rf_putNumber_23_s (n : Nat) (N : Nat) (t_out : (Nat → Int32)) (t_written : Int32) (v2 : Int32) (v3 : Int32) : xf_rf_putNumber_23 n (N + 1) t_out t_written v2 v3 = (
    if v3 = (Int32.ofNat 0) then none else
    if (Int32.ofNat 9) < (v2 / v3) then
      ((xf_rf_putNumber_23 n N) t_out t_written v2 ((Int32.ofNat 10) * v3))
    else
      xf_rf_putNumber_39 n n t_out t_written v2 v3) := rfl
theorem xf_rf_putNumber_20_s (n : Nat) (t_out : (Nat → Int32)) (t_written : Int32) (s0 : Int32) : xf_rf_putNumber_20 n t_out t_written s0 = (
  xf_rf_putNumber_23 n n t_out t_written s0 (Int32.ofNat 1)) := rfl
theorem xf_rf_putNumber_10_s (n : Nat) (t_out : (Nat → Int32)) (t_written : Int32) (v1 : Int32) : xf_rf_putNumber_10 n t_out t_written v1 = (
  if v1 < (Int32.ofNat 0) then
    (xf_rf_putNumber_20 n t_out t_written (-v1))
  else
    xf_rf_putNumber_20 n t_out t_written v1) := rfl
theorem xf_rf_putNumber_s (n : Nat) (t_out : (Nat → Int32)) (t_written : Int32) (a1 : Int32) : xf_rf_putNumber n t_out t_written a1 = (
  if a1 < (Int32.ofNat 0) then
    ((xf_rf_put t_out t_written (Int32.ofNat 45)).bind fun q902 =>
    xf_rf_putNumber_10 n q902.2.1 q902.2.2 a1)
  else
    xf_rf_putNumber_10 n t_out t_written a1) := rfl
theorem xf_rf_putArgument_269_s (t_items : (Nat → Int32)) (t_sorts : (Nat → Int32)) (t_values : (Nat → Int32)) (n : Nat) (t_out : (Nat → Int32)) (t_written : Int32) : xf_rf_putArgument_269 t_items t_sorts t_values n t_out t_written = (
  some ((), t_out, t_written)) := rfl
theorem xf_rf_putArgument_107_s (t_items : (Nat → Int32)) (t_sorts : (Nat → Int32)) (t_values : (Nat → Int32)) (k69 : (Nat → Int32) → Int32 → Int32 → Int32 → Option (Unit × (Nat → Int32) × Int32)) (n : Nat) (t_out : (Nat → Int32)) (t_written : Int32) (v1 : Int32) (v2 : Int32) : xf_rf_putArgument_107 t_items t_sorts t_values k69 n t_out t_written v1 v2 = (
  k69 t_out t_written v1 (v2 + (Int32.ofNat 1))) := rfl
theorem xf_rf_putArgument_69_s (t_items : (Nat → Int32)) (t_sorts : (Nat → Int32)) (t_values : (Nat → Int32)) (n : Nat) (N : Nat) (t_out : (Nat → Int32)) (t_written : Int32) (v1 : Int32) (v2 : Int32) : xf_rf_putArgument_69 t_items t_sorts t_values n (N + 1) t_out t_written v1 v2 = (
    if xr_in v1 960 = true then
      (if v2 < (t_values v1.toNatClampNeg) then
        (if xr_in (((Int32.ofNat 20) * v1) + v2) 19200 = true then
          ((xf_rf_put t_out t_written (t_items (((Int32.ofNat 20) * v1) + v2).toNatClampNeg)).bind fun q931 =>
          if (t_items (((Int32.ofNat 20) * v1) + v2).toNatClampNeg) = (Int32.ofNat 39) then
            ((xf_rf_put q931.2.1 q931.2.2 (t_items (((Int32.ofNat 20) * v1) + v2).toNatClampNeg)).bind fun q933 =>
            xf_rf_putArgument_107 t_items t_sorts t_values (xf_rf_putArgument_69 t_items t_sorts t_values n N) n q933.2.1 q933.2.2 v1 v2)
          else
            xf_rf_putArgument_107 t_items t_sorts t_values (xf_rf_putArgument_69 t_items t_sorts t_values n N) n q931.2.1 q931.2.2 v1 v2)
        else none)
      else
        (xf_rf_put t_out t_written (Int32.ofNat 39)).bind fun q934 =>
        xf_rf_putArgument_269 t_items t_sorts t_values n q934.2.1 q934.2.2)
    else none) := rfl
theorem xf_rf_putArgument_242_s (t_items : (Nat → Int32)) (t_sorts : (Nat → Int32)) (t_values : (Nat → Int32)) (k206 : (Nat → Int32) → Int32 → Int32 → Int32 → Option (Unit × (Nat → Int32) × Int32)) (n : Nat) (t_out : (Nat → Int32)) (t_written : Int32) (v1 : Int32) (v2 : Int32) : xf_rf_putArgument_242 t_items t_sorts t_values k206 n t_out t_written v1 v2 = (
  if xr_in (((Int32.ofNat 20) * v1) + v2) 19200 = true then
    ((xf_rf_putNumber n t_out t_written (t_items (((Int32.ofNat 20) * v1) + v2).toNatClampNeg)).bind fun q949 =>
    k206 q949.2.1 q949.2.2 v1 (v2 + (Int32.ofNat 1)))
  else none) := rfl
theorem xf_rf_putArgument_226_s (t_items : (Nat → Int32)) (t_sorts : (Nat → Int32)) (t_values : (Nat → Int32)) (k206 : (Nat → Int32) → Int32 → Int32 → Int32 → Option (Unit × (Nat → Int32) × Int32)) (n : Nat) (t_out : (Nat → Int32)) (t_written : Int32) (v1 : Int32) (v2 : Int32) : xf_rf_putArgument_226 t_items t_sorts t_values k206 n t_out t_written v1 v2 = (
  if xr_in v1 960 = true then
    (if (t_sorts v1.toNatClampNeg) = (Int32.ofNat 4) then
      ((xf_rf_put t_out t_written (Int32.ofNat 35)).bind fun q947 =>
      xf_rf_putArgument_242 t_items t_sorts t_values k206 n q947.2.1 q947.2.2 v1 v2)
    else
      xf_rf_putArgument_242 t_items t_sorts t_values k206 n t_out t_written v1 v2)
  else none) := rfl
theorem xf_rf_putArgument_206_s (t_items : (Nat → Int32)) (t_sorts : (Nat → Int32)) (t_values : (Nat → Int32)) (n : Nat) (N : Nat) (t_out : (Nat → Int32)) (t_written : Int32) (v1 : Int32) (v2 : Int32) : xf_rf_putArgument_206 t_items t_sorts t_values n (N + 1) t_out t_written v1 v2 = (
    if xr_in v1 960 = true then
      (if v2 < (t_values v1.toNatClampNeg) then
        (if (Int32.ofNat 0) < v2 then
          ((xf_rf_put t_out t_written (Int32.ofNat 44)).bind fun q944 =>
          xf_rf_putArgument_226 t_items t_sorts t_values (xf_rf_putArgument_206 t_items t_sorts t_values n N) n q944.2.1 q944.2.2 v1 v2)
        else
          xf_rf_putArgument_226 t_items t_sorts t_values (xf_rf_putArgument_206 t_items t_sorts t_values n N) n t_out t_written v1 v2)
      else
        (xf_rf_put t_out t_written (Int32.ofNat 41)).bind fun q950 =>
        xf_rf_putArgument_269 t_items t_sorts t_values n q950.2.1 q950.2.2)
    else none) := rfl
theorem xf_rf_putArgument_198_s (t_items : (Nat → Int32)) (t_sorts : (Nat → Int32)) (t_values : (Nat → Int32)) (n : Nat) (t_out : (Nat → Int32)) (t_written : Int32) (v1 : Int32) : xf_rf_putArgument_198 t_items t_sorts t_values n t_out t_written v1 = (
  (xf_rf_put t_out t_written (Int32.ofNat 40)).bind fun q940 =>
  xf_rf_putArgument_206 t_items t_sorts t_values n n q940.2.1 q940.2.2 v1 (Int32.ofNat 0)) := rfl
theorem xf_rf_putArgument_149_s (t_items : (Nat → Int32)) (t_sorts : (Nat → Int32)) (t_values : (Nat → Int32)) (n : Nat) (N : Nat) (t_out : (Nat → Int32)) (t_written : Int32) (v1 : Int32) (v2 : Int32) : xf_rf_putArgument_149 t_items t_sorts t_values n (N + 1) t_out t_written v1 v2 = (
    if xr_in v1 960 = true then
      (if v2 < (t_values v1.toNatClampNeg) then
        (if xr_in (((Int32.ofNat 20) * v1) + v2) 19200 = true then
          ((xf_rf_put t_out t_written (t_items (((Int32.ofNat 20) * v1) + v2).toNatClampNeg)).bind fun q957 =>
          (xf_rf_putArgument_149 t_items t_sorts t_values n N) q957.2.1 q957.2.2 v1 (v2 + (Int32.ofNat 1)))
        else none)
      else
        (xf_rf_put t_out t_written (Int32.ofNat 46)).bind fun q958 =>
        xf_rf_putArgument_269 t_items t_sorts t_values n q958.2.1 q958.2.2)
    else none) := rfl
theorem xf_rf_putArgument_s (t_items : (Nat → Int32)) (t_sorts : (Nat → Int32)) (t_values : (Nat → Int32)) (n : Nat) (t_out : (Nat → Int32)) (t_written : Int32) (a1 : Int32) : xf_rf_putArgument t_items t_sorts t_values n t_out t_written a1 = (
  if xr_in a1 960 = true then
    (if (t_sorts a1.toNatClampNeg) = (Int32.ofNat 0) then
      (if xr_in a1 960 = true then
        ((xf_rf_putNumber n t_out t_written (t_values a1.toNatClampNeg)).bind fun q925 =>
        xf_rf_putArgument_269 t_items t_sorts t_values n q925.2.1 q925.2.2)
      else none)
    else
      if (t_sorts a1.toNatClampNeg) = (Int32.ofNat 1) then
        ((xf_rf_put t_out t_written (Int32.ofNat 39)).bind fun q927 =>
        xf_rf_putArgument_69 t_items t_sorts t_values n n q927.2.1 q927.2.2 a1 (Int32.ofNat 0))
      else
        if (t_sorts a1.toNatClampNeg) = (Int32.ofNat 2) then
          ((xf_rf_put t_out t_written (Int32.ofNat 35)).bind fun q936 =>
          if xr_in a1 960 = true then
            ((xf_rf_putNumber n q936.2.1 q936.2.2 (t_values a1.toNatClampNeg)).bind fun q938 =>
            xf_rf_putArgument_269 t_items t_sorts t_values n q938.2.1 q938.2.2)
          else none)
        else
          if (t_sorts a1.toNatClampNeg) = (Int32.ofNat 3) then
            (xf_rf_putArgument_198 t_items t_sorts t_values n t_out t_written a1)
          else
            if (t_sorts a1.toNatClampNeg) = (Int32.ofNat 4) then
              (xf_rf_putArgument_198 t_items t_sorts t_values n t_out t_written a1)
            else
              if (t_sorts a1.toNatClampNeg) = (Int32.ofNat 5) then
                ((xf_rf_put t_out t_written (Int32.ofNat 46)).bind fun q953 =>
                xf_rf_putArgument_149 t_items t_sorts t_values n n q953.2.1 q953.2.2 a1 (Int32.ofNat 0))
              else
                if (t_sorts a1.toNatClampNeg) = (Int32.ofNat 6) then
                  ((xf_rf_put t_out t_written (Int32.ofNat 36)).bind fun q960 =>
                  xf_rf_putArgument_269 t_items t_sorts t_values n q960.2.1 q960.2.2)
                else
                  xf_rf_putArgument_198 t_items t_sorts t_values n t_out t_written a1)
  else none) := rfl
theorem xf_rf_write_105_s (t_items : (Nat → Int32)) (t_letters : (Nat → Int32)) (t_lines : (Nat → Int32)) (t_names : (Nat → Int32)) (t_numbers : (Nat → Int32)) (t_parts : (Nat → Int32)) (t_sorts : (Nat → Int32)) (t_values : (Nat → Int32)) (k12 : (Nat → Int32) → Int32 → (Nat → Int32) → Int32 → Int32 → Int32 → Option (Int32 × (Nat → Int32) × Int32 × (Nat → Int32) × Int32 × Int32)) (k85 : (Nat → Int32) → Int32 → (Nat → Int32) → Int32 → Int32 → Int32 → Int32 → Option (Int32 × (Nat → Int32) × Int32 × (Nat → Int32) × Int32 × Int32)) (n : Nat) (t_out : (Nat → Int32)) (t_size : Int32) (t_text : (Nat → Int32)) (t_thrown : Int32) (t_written : Int32) (v1 : Int32) (v2 : Int32) : xf_rf_write_105 t_items t_letters t_lines t_names t_numbers t_parts t_sorts t_values k12 k85 n t_out t_size t_text t_thrown t_written v1 v2 = (
  (xf_rf_putArgument t_items t_sorts t_values n t_out t_written (((Int32.ofNat 8) * v1) + v2)).bind fun q961 =>
  k85 q961.2.1 t_size t_text t_thrown q961.2.2 v1 (v2 + (Int32.ofNat 1))) := rfl
theorem xf_rf_write_85_s (t_items : (Nat → Int32)) (t_letters : (Nat → Int32)) (t_lines : (Nat → Int32)) (t_names : (Nat → Int32)) (t_numbers : (Nat → Int32)) (t_parts : (Nat → Int32)) (t_sorts : (Nat → Int32)) (t_values : (Nat → Int32)) (k12 : (Nat → Int32) → Int32 → (Nat → Int32) → Int32 → Int32 → Int32 → Option (Int32 × (Nat → Int32) × Int32 × (Nat → Int32) × Int32 × Int32)) (n : Nat) (N : Nat) (t_out : (Nat → Int32)) (t_size : Int32) (t_text : (Nat → Int32)) (t_thrown : Int32) (t_written : Int32) (v1 : Int32) (v2 : Int32) : xf_rf_write_85 t_items t_letters t_lines t_names t_numbers t_parts t_sorts t_values k12 n (N + 1) t_out t_size t_text t_thrown t_written v1 v2 = (
    if xr_in v1 120 = true then
      (if v2 < (t_parts v1.toNatClampNeg) then
        (if (Int32.ofNat 0) < v2 then
          ((xf_rf_put t_out t_written (Int32.ofNat 44)).bind fun q921 =>
          xf_rf_write_105 t_items t_letters t_lines t_names t_numbers t_parts t_sorts t_values k12 (xf_rf_write_85 t_items t_letters t_lines t_names t_numbers t_parts t_sorts t_values k12 n N) n q921.2.1 t_size t_text t_thrown q921.2.2 v1 v2)
        else
          xf_rf_write_105 t_items t_letters t_lines t_names t_numbers t_parts t_sorts t_values k12 (xf_rf_write_85 t_items t_letters t_lines t_names t_numbers t_parts t_sorts t_values k12 n N) n t_out t_size t_text t_thrown t_written v1 v2)
      else
        (xf_rf_put t_out t_written (Int32.ofNat 41)).bind fun q962 =>
        (xf_rf_put q962.2.1 q962.2.2 (Int32.ofNat 59)).bind fun q963 =>
        k12 q963.2.1 t_size t_text t_thrown q963.2.2 (v1 + (Int32.ofNat 1)))
    else none) := rfl
theorem xf_rf_write_46_s (t_items : (Nat → Int32)) (t_letters : (Nat → Int32)) (t_lines : (Nat → Int32)) (t_names : (Nat → Int32)) (t_numbers : (Nat → Int32)) (t_parts : (Nat → Int32)) (t_sorts : (Nat → Int32)) (t_values : (Nat → Int32)) (k12 : (Nat → Int32) → Int32 → (Nat → Int32) → Int32 → Int32 → Int32 → Option (Int32 × (Nat → Int32) × Int32 × (Nat → Int32) × Int32 × Int32)) (n : Nat) (N : Nat) (t_out : (Nat → Int32)) (t_size : Int32) (t_text : (Nat → Int32)) (t_thrown : Int32) (t_written : Int32) (v1 : Int32) (v2 : Int32) : xf_rf_write_46 t_items t_letters t_lines t_names t_numbers t_parts t_sorts t_values k12 n (N + 1) t_out t_size t_text t_thrown t_written v1 v2 = (
    if xr_in v1 120 = true then
      (if v2 < (t_letters v1.toNatClampNeg) then
        (if xr_in (((Int32.ofNat 8) * v1) + v2) 960 = true then
          ((xf_rf_put t_out t_written (t_names (((Int32.ofNat 8) * v1) + v2).toNatClampNeg)).bind fun q916 =>
          (xf_rf_write_46 t_items t_letters t_lines t_names t_numbers t_parts t_sorts t_values k12 n N) q916.2.1 t_size t_text t_thrown q916.2.2 v1 (v2 + (Int32.ofNat 1)))
        else none)
      else
        (xf_rf_put t_out t_written (Int32.ofNat 40)).bind fun q917 =>
        xf_rf_write_85 t_items t_letters t_lines t_names t_numbers t_parts t_sorts t_values k12 n n q917.2.1 t_size t_text t_thrown q917.2.2 v1 (Int32.ofNat 0))
    else none) := rfl
theorem xf_rf_write_154_s (t_items : (Nat → Int32)) (t_letters : (Nat → Int32)) (t_lines : (Nat → Int32)) (t_names : (Nat → Int32)) (t_numbers : (Nat → Int32)) (t_parts : (Nat → Int32)) (t_sorts : (Nat → Int32)) (t_values : (Nat → Int32)) (n : Nat) (N : Nat) (t_out : (Nat → Int32)) (t_size : Int32) (t_text : (Nat → Int32)) (t_thrown : Int32) (t_written : Int32) (v1 : Int32) : xf_rf_write_154 t_items t_letters t_lines t_names t_numbers t_parts t_sorts t_values n (N + 1) t_out t_size t_text t_thrown t_written v1 = (
    if v1 < t_written then
      (if xr_in v1 1200 = true then
        (if xr_in v1 1200 = true then
          ((xf_rf_write_154 t_items t_letters t_lines t_names t_numbers t_parts t_sorts t_values n N) t_out t_size (upd t_text v1.toNatClampNeg ((t_out v1.toNatClampNeg))) t_thrown t_written (v1 + (Int32.ofNat 1)))
        else none)
      else none)
    else
      some (t_written, t_out, t_written, t_text, t_thrown, t_written)) := rfl
theorem xf_rf_write_12_s (t_items : (Nat → Int32)) (t_letters : (Nat → Int32)) (t_lines : (Nat → Int32)) (t_names : (Nat → Int32)) (t_numbers : (Nat → Int32)) (t_parts : (Nat → Int32)) (t_sorts : (Nat → Int32)) (t_values : (Nat → Int32)) (n : Nat) (N : Nat) (t_out : (Nat → Int32)) (t_size : Int32) (t_text : (Nat → Int32)) (t_thrown : Int32) (t_written : Int32) (v1 : Int32) : xf_rf_write_12 t_items t_letters t_lines t_names t_numbers t_parts t_sorts t_values n (N + 1) t_out t_size t_text t_thrown t_written v1 = (
    if v1 < (t_lines (Int32.ofNat 0).toNatClampNeg) then
      ((xf_rf_put t_out t_written (Int32.ofNat 35)).bind fun q899 =>
      if xr_in v1 120 = true then
        ((xf_rf_putNumber n q899.2.1 q899.2.2 (t_numbers v1.toNatClampNeg)).bind fun q911 =>
        (xf_rf_put q911.2.1 q911.2.2 (Int32.ofNat 61)).bind fun q912 =>
        xf_rf_write_46 t_items t_letters t_lines t_names t_numbers t_parts t_sorts t_values (xf_rf_write_12 t_items t_letters t_lines t_names t_numbers t_parts t_sorts t_values n N) n n q912.2.1 t_size t_text t_thrown q912.2.2 v1 (Int32.ofNat 0))
      else none)
    else
      if (Int32.ofNat 1200) < t_written then
        (some ((-2 : Int32), t_out, t_size, t_text, t_thrown, t_written))
      else
        xf_rf_write_154 t_items t_letters t_lines t_names t_numbers t_parts t_sorts t_values n n t_out t_size t_text t_thrown t_written (Int32.ofNat 0)) := rfl
theorem xf_rf_write_s (t_items : (Nat → Int32)) (t_letters : (Nat → Int32)) (t_lines : (Nat → Int32)) (t_names : (Nat → Int32)) (t_numbers : (Nat → Int32)) (t_parts : (Nat → Int32)) (t_sorts : (Nat → Int32)) (t_values : (Nat → Int32)) (n : Nat) (t_out : (Nat → Int32)) (t_size : Int32) (t_text : (Nat → Int32)) (t_thrown : Int32) (t_written : Int32) : xf_rf_write t_items t_letters t_lines t_names t_numbers t_parts t_sorts t_values n t_out t_size t_text t_thrown t_written = (
  xf_rf_write_12 t_items t_letters t_lines t_names t_numbers t_parts t_sorts t_values n n t_out t_size t_text (Int32.ofNat 0) (Int32.ofNat 0) (Int32.ofNat 0)) := rfl
theorem xf_rf_keep_19_s (n : Nat) (N : Nat) (t_items : (Nat → Int32)) (t_letters : (Nat → Int32)) (t_lines : (Nat → Int32)) (t_names : (Nat → Int32)) (t_numbers : (Nat → Int32)) (t_parts : (Nat → Int32)) (t_sorts : (Nat → Int32)) (t_thrown : Int32) (t_values : (Nat → Int32)) (v1 : Int32) : xf_rf_keep_19 n (N + 1) t_items t_letters t_lines t_names t_numbers t_parts t_sorts t_thrown t_values v1 = (
    if v1 < (t_lines (Int32.ofNat 0).toNatClampNeg) then
      ((xf_rf_copy n t_items t_letters t_names t_numbers t_parts t_sorts t_values ((Int32.ofNat 80) + v1) v1).bind fun q969 =>
      (xf_rf_keep_19 n N) q969.2.1 q969.2.2.1 t_lines q969.2.2.2.1 q969.2.2.2.2.1 q969.2.2.2.2.2.1 q969.2.2.2.2.2.2.1 t_thrown q969.2.2.2.2.2.2.2 (v1 + (Int32.ofNat 1)))
    else
      some (t_lines (Int32.ofNat 2).toNatClampNeg, t_items, t_letters, t_lines, t_names, t_numbers, t_parts, t_sorts, t_thrown, t_values)) := rfl
theorem xf_rf_keep_s (n : Nat) (t_items : (Nat → Int32)) (t_letters : (Nat → Int32)) (t_lines : (Nat → Int32)) (t_names : (Nat → Int32)) (t_numbers : (Nat → Int32)) (t_parts : (Nat → Int32)) (t_sorts : (Nat → Int32)) (t_thrown : Int32) (t_values : (Nat → Int32)) : xf_rf_keep n t_items t_letters t_lines t_names t_numbers t_parts t_sorts t_thrown t_values = (
  xf_rf_keep_19 n n t_items t_letters (upd t_lines (Int32.ofNat 2).toNatClampNeg ((t_lines (Int32.ofNat 0).toNatClampNeg))) t_names t_numbers t_parts t_sorts (Int32.ofNat 0) t_values (Int32.ofNat 0)) := rfl
theorem xf_rf_line_44_s (t_lines : (Nat → Int32)) (t_numbers : (Nat → Int32)) (t_thrown : Int32) (s0 : Int32) : xf_rf_line_44 t_lines t_numbers t_thrown s0 = (
  some (s0, t_thrown)) := rfl
theorem xf_rf_line_15_s (t_lines : (Nat → Int32)) (t_numbers : (Nat → Int32)) (t_thrown : Int32) (v1 : Int32) (s1 : Int32) : xf_rf_line_15 t_lines t_numbers t_thrown v1 s1 = (
  (xf_rf_fails t_thrown s1 (Int32.ofNat 1)).bind fun q971 =>
  if q971.1 = (Int32.ofNat 0) then
    (if v1 < (t_lines (Int32.ofNat 0).toNatClampNeg) then
      (if xr_in v1 120 = true then
        (xf_rf_line_44 t_lines t_numbers q971.2 (t_numbers v1.toNatClampNeg))
      else none)
    else
      xf_rf_line_44 t_lines t_numbers q971.2 (-1 : Int32))
  else
    some ((Int32.ofNat 0), q971.2)) := rfl
theorem xf_rf_line_s (t_lines : (Nat → Int32)) (t_numbers : (Nat → Int32)) (t_thrown : Int32) (a1 : Int32) : xf_rf_line t_lines t_numbers t_thrown a1 = (
  if a1 < (Int32.ofNat 0) then
    (xf_rf_line_15 t_lines t_numbers (Int32.ofNat 0) a1 (Int32.ofNat 1))
  else
    xf_rf_line_15 t_lines t_numbers (Int32.ofNat 0) a1 (Int32.ofNat 0)) := rfl
theorem xf_rf_references_34_s (t_sorts : (Nat → Int32)) (t_values : (Nat → Int32)) (s0 : Int32) : xf_rf_references_34 t_sorts t_values s0 = (
  some s0) := rfl
theorem xf_rf_references_s (t_sorts : (Nat → Int32)) (t_values : (Nat → Int32)) (a1 : Int32) : xf_rf_references t_sorts t_values a1 = (
  if xr_in a1 960 = true then
    (if (t_sorts a1.toNatClampNeg) = (Int32.ofNat 2) then
      (xf_rf_references_34 t_sorts t_values (Int32.ofNat 1))
    else
      if xr_in a1 960 = true then
        (if (t_sorts a1.toNatClampNeg) = (Int32.ofNat 4) then
          (if xr_in a1 960 = true then
            (xf_rf_references_34 t_sorts t_values (t_values a1.toNatClampNeg))
          else none)
        else
          xf_rf_references_34 t_sorts t_values (Int32.ofNat 0))
      else none)
  else none) := rfl
theorem xf_rf_referred_32_s (t_items : (Nat → Int32)) (t_lines : (Nat → Int32)) (t_numbers : (Nat → Int32)) (t_sorts : (Nat → Int32)) (t_values : (Nat → Int32)) (n : Nat) (s1 : Int32) (s2 : Int32) : xf_rf_referred_32 t_items t_lines t_numbers t_sorts t_values n s1 s2 = (
  (xf_rf_find t_lines t_numbers n s1 s2).bind fun q994 =>
  some q994) := rfl
theorem xf_rf_referred_s (t_items : (Nat → Int32)) (t_lines : (Nat → Int32)) (t_numbers : (Nat → Int32)) (t_sorts : (Nat → Int32)) (t_values : (Nat → Int32)) (n : Nat) (a1 : Int32) (a2 : Int32) : xf_rf_referred t_items t_lines t_numbers t_sorts t_values n a1 a2 = (
  if xr_in a1 960 = true then
    (if (t_sorts a1.toNatClampNeg) = (Int32.ofNat 2) then
      (if xr_in a1 960 = true then
        (xf_rf_referred_32 t_items t_lines t_numbers t_sorts t_values n (Int32.ofNat 0) (t_values a1.toNatClampNeg))
      else none)
    else
      if xr_in (((Int32.ofNat 20) * a1) + a2) 19200 = true then
        (xf_rf_referred_32 t_items t_lines t_numbers t_sorts t_values n (Int32.ofNat 0) (t_items (((Int32.ofNat 20) * a1) + a2).toNatClampNeg))
      else none)
  else none) := rfl
theorem xf_rf_findWays_41_s (t_items : (Nat → Int32)) (t_lines : (Nat → Int32)) (t_numbers : (Nat → Int32)) (t_parts : (Nat → Int32)) (t_sorts : (Nat → Int32)) (t_values : (Nat → Int32)) (k2 : (Nat → Int64) → Int32 → Option (Unit × (Nat → Int64))) (k24 : (Nat → Int64) → Int32 → Int32 → Option (Unit × (Nat → Int64))) (n : Nat) (N : Nat) (t_ways : (Nat → Int64)) (v1 : Int32) (v2 : Int32) (v3 : Int32) : xf_rf_findWays_41 t_items t_lines t_numbers t_parts t_sorts t_values k2 k24 n (N + 1) t_ways v1 v2 v3 = (
    (xf_rf_references t_sorts t_values v2).bind fun q988 =>
    if v3 < q988 then
      (if xr_in v1 40 = true then
        ((xf_rf_referred t_items t_lines t_numbers t_sorts t_values n v2 v3).bind fun q996 =>
        if xr_in v1 40 = true then
          ((xf_rf_findWays_41 t_items t_lines t_numbers t_parts t_sorts t_values k2 k24 n N) (vp_updL t_ways v1.toNatClampNeg (((t_ways v1.toNatClampNeg) ||| (xe_shl ((1 : Int64)) q996)))) v1 v2 (v3 + (Int32.ofNat 1)))
        else none)
      else none)
    else
      k24 t_ways v1 (v2 + (Int32.ofNat 1))) := rfl
theorem xf_rf_findWays_24_s (t_items : (Nat → Int32)) (t_lines : (Nat → Int32)) (t_numbers : (Nat → Int32)) (t_parts : (Nat → Int32)) (t_sorts : (Nat → Int32)) (t_values : (Nat → Int32)) (k2 : (Nat → Int64) → Int32 → Option (Unit × (Nat → Int64))) (n : Nat) (N : Nat) (t_ways : (Nat → Int64)) (v1 : Int32) (v2 : Int32) : xf_rf_findWays_24 t_items t_lines t_numbers t_parts t_sorts t_values k2 n (N + 1) t_ways v1 v2 = (
    if xr_in v1 120 = true then
      (if v2 < (((Int32.ofNat 8) * v1) + (t_parts v1.toNatClampNeg)) then
        (xf_rf_findWays_41 t_items t_lines t_numbers t_parts t_sorts t_values k2 (xf_rf_findWays_24 t_items t_lines t_numbers t_parts t_sorts t_values k2 n N) n n t_ways v1 v2 (Int32.ofNat 0))
      else
        k2 t_ways (v1 + (Int32.ofNat 1)))
    else none) := rfl
theorem xf_rf_findWays_2_s (t_items : (Nat → Int32)) (t_lines : (Nat → Int32)) (t_numbers : (Nat → Int32)) (t_parts : (Nat → Int32)) (t_sorts : (Nat → Int32)) (t_values : (Nat → Int32)) (n : Nat) (N : Nat) (t_ways : (Nat → Int64)) (v1 : Int32) : xf_rf_findWays_2 t_items t_lines t_numbers t_parts t_sorts t_values n (N + 1) t_ways v1 = (
    if v1 < (t_lines (Int32.ofNat 0).toNatClampNeg) then
      (if xr_in v1 40 = true then
        (xf_rf_findWays_24 t_items t_lines t_numbers t_parts t_sorts t_values (xf_rf_findWays_2 t_items t_lines t_numbers t_parts t_sorts t_values n N) n n (vp_updL t_ways v1.toNatClampNeg (((0 : Int64)))) v1 ((Int32.ofNat 8) * v1))
      else none)
    else
      some ((), t_ways)) := rfl
theorem xf_rf_findWays_s (t_items : (Nat → Int32)) (t_lines : (Nat → Int32)) (t_numbers : (Nat → Int32)) (t_parts : (Nat → Int32)) (t_sorts : (Nat → Int32)) (t_values : (Nat → Int32)) (n : Nat) (t_ways : (Nat → Int64)) : xf_rf_findWays t_items t_lines t_numbers t_parts t_sorts t_values n t_ways = (
  xf_rf_findWays_2 t_items t_lines t_numbers t_parts t_sorts t_values n n t_ways (Int32.ofNat 0)) := rfl
theorem xf_rf_findDepths_146_s (t_items : (Nat → Int32)) (t_lines : (Nat → Int32)) (t_numbers : (Nat → Int32)) (t_parts : (Nat → Int32)) (t_sorts : (Nat → Int32)) (t_values : (Nat → Int32)) (k27 : (Nat → Int32) → (Nat → Int64) → Int32 → Option (Unit × (Nat → Int32) × (Nat → Int64))) (k35 : (Nat → Int32) → (Nat → Int64) → Int32 → Int32 → Option (Unit × (Nat → Int32) × (Nat → Int64))) (k66 : (Nat → Int32) → (Nat → Int64) → Int32 → Int32 → Int32 → Int32 → Int32 → Option (Unit × (Nat → Int32) × (Nat → Int64))) (n : Nat) (t_depths : (Nat → Int32)) (t_ways : (Nat → Int64)) (v1 : Int32) (v2 : Int32) (v3 : Int32) (v4 : Int32) (v5 : Int32) : xf_rf_findDepths_146 t_items t_lines t_numbers t_parts t_sorts t_values k27 k35 k66 n t_depths t_ways v1 v2 v3 v4 v5 = (
  k66 t_depths t_ways v1 v2 v3 v4 (v5 + (Int32.ofNat 1))) := rfl
theorem xf_rf_findDepths_145_s (t_items : (Nat → Int32)) (t_lines : (Nat → Int32)) (t_numbers : (Nat → Int32)) (t_parts : (Nat → Int32)) (t_sorts : (Nat → Int32)) (t_values : (Nat → Int32)) (k27 : (Nat → Int32) → (Nat → Int64) → Int32 → Option (Unit × (Nat → Int32) × (Nat → Int64))) (k35 : (Nat → Int32) → (Nat → Int64) → Int32 → Int32 → Option (Unit × (Nat → Int32) × (Nat → Int64))) (k66 : (Nat → Int32) → (Nat → Int64) → Int32 → Int32 → Int32 → Int32 → Int32 → Option (Unit × (Nat → Int32) × (Nat → Int64))) (n : Nat) (t_depths : (Nat → Int32)) (t_ways : (Nat → Int64)) (v1 : Int32) (v2 : Int32) (v4 : Int32) (v5 : Int32) (s0 : Int32) : xf_rf_findDepths_145 t_items t_lines t_numbers t_parts t_sorts t_values k27 k35 k66 n t_depths t_ways v1 v2 v4 v5 s0 = (
  xf_rf_findDepths_146 t_items t_lines t_numbers t_parts t_sorts t_values k27 k35 k66 n t_depths t_ways v1 v2 s0 v4 v5) := rfl
theorem xf_rf_findDepths_117_s (t_items : (Nat → Int32)) (t_lines : (Nat → Int32)) (t_numbers : (Nat → Int32)) (t_parts : (Nat → Int32)) (t_sorts : (Nat → Int32)) (t_values : (Nat → Int32)) (k27 : (Nat → Int32) → (Nat → Int64) → Int32 → Option (Unit × (Nat → Int32) × (Nat → Int64))) (k35 : (Nat → Int32) → (Nat → Int64) → Int32 → Int32 → Option (Unit × (Nat → Int32) × (Nat → Int64))) (k66 : (Nat → Int32) → (Nat → Int64) → Int32 → Int32 → Int32 → Int32 → Int32 → Option (Unit × (Nat → Int32) × (Nat → Int64))) (n : Nat) (t_depths : (Nat → Int32)) (t_ways : (Nat → Int64)) (v1 : Int32) (v2 : Int32) (v3 : Int32) (v5 : Int32) (s0 : Int32) : xf_rf_findDepths_117 t_items t_lines t_numbers t_parts t_sorts t_values k27 k35 k66 n t_depths t_ways v1 v2 v3 v5 s0 = (
  if xr_in v5 40 = true then
    (if v3 < ((t_depths v5.toNatClampNeg) + (Int32.ofNat 1)) then
      (if xr_in v5 40 = true then
        (xf_rf_findDepths_145 t_items t_lines t_numbers t_parts t_sorts t_values k27 k35 k66 n t_depths t_ways v1 v2 s0 v5 ((t_depths v5.toNatClampNeg) + (Int32.ofNat 1)))
      else none)
    else
      xf_rf_findDepths_145 t_items t_lines t_numbers t_parts t_sorts t_values k27 k35 k66 n t_depths t_ways v1 v2 s0 v5 v3)
  else none) := rfl
theorem xf_rf_findDepths_116_s (t_items : (Nat → Int32)) (t_lines : (Nat → Int32)) (t_numbers : (Nat → Int32)) (t_parts : (Nat → Int32)) (t_sorts : (Nat → Int32)) (t_values : (Nat → Int32)) (k27 : (Nat → Int32) → (Nat → Int64) → Int32 → Option (Unit × (Nat → Int32) × (Nat → Int64))) (k35 : (Nat → Int32) → (Nat → Int64) → Int32 → Int32 → Option (Unit × (Nat → Int32) × (Nat → Int64))) (k66 : (Nat → Int32) → (Nat → Int64) → Int32 → Int32 → Int32 → Int32 → Int32 → Option (Unit × (Nat → Int32) × (Nat → Int64))) (n : Nat) (t_depths : (Nat → Int32)) (t_ways : (Nat → Int64)) (v1 : Int32) (v2 : Int32) (v3 : Int32) (v5 : Int32) : xf_rf_findDepths_116 t_items t_lines t_numbers t_parts t_sorts t_values k27 k35 k66 n t_depths t_ways v1 v2 v3 v5 = (
  xf_rf_findDepths_117 t_items t_lines t_numbers t_parts t_sorts t_values k27 k35 k66 n t_depths t_ways v1 v2 v3 v5 (Int32.ofNat 0)) := rfl
theorem xf_rf_findDepths_166_s (t_items : (Nat → Int32)) (t_lines : (Nat → Int32)) (t_numbers : (Nat → Int32)) (t_parts : (Nat → Int32)) (t_sorts : (Nat → Int32)) (t_values : (Nat → Int32)) (k27 : (Nat → Int32) → (Nat → Int64) → Int32 → Option (Unit × (Nat → Int32) × (Nat → Int64))) (k35 : (Nat → Int32) → (Nat → Int64) → Int32 → Int32 → Option (Unit × (Nat → Int32) × (Nat → Int64))) (n : Nat) (t_depths : (Nat → Int32)) (t_ways : (Nat → Int64)) (v1 : Int32) (v2 : Int32) : xf_rf_findDepths_166 t_items t_lines t_numbers t_parts t_sorts t_values k27 k35 n t_depths t_ways v1 v2 = (
  k35 t_depths t_ways v1 (v2 + (Int32.ofNat 1))) := rfl
theorem xf_rf_findDepths_66_s (t_items : (Nat → Int32)) (t_lines : (Nat → Int32)) (t_numbers : (Nat → Int32)) (t_parts : (Nat → Int32)) (t_sorts : (Nat → Int32)) (t_values : (Nat → Int32)) (k27 : (Nat → Int32) → (Nat → Int64) → Int32 → Option (Unit × (Nat → Int32) × (Nat → Int64))) (k35 : (Nat → Int32) → (Nat → Int64) → Int32 → Int32 → Option (Unit × (Nat → Int32) × (Nat → Int64))) (n : Nat) (N : Nat) (t_depths : (Nat → Int32)) (t_ways : (Nat → Int64)) (v1 : Int32) (v2 : Int32) (v3 : Int32) (v4 : Int32) (v5 : Int32) : xf_rf_findDepths_66 t_items t_lines t_numbers t_parts t_sorts t_values k27 k35 n (N + 1) t_depths t_ways v1 v2 v3 v4 v5 = (
    if v5 < (t_lines (Int32.ofNat 0).toNatClampNeg) then
      (if xr_in v2 40 = true then
        (if (lg_cmp ((xe_shr (t_ways v2.toNatClampNeg) v5) &&& ((1 : Int64))) ((0 : Int64))) = (Int32.ofNat 0) then
          (xf_rf_findDepths_146 t_items t_lines t_numbers t_parts t_sorts t_values k27 k35 (xf_rf_findDepths_66 t_items t_lines t_numbers t_parts t_sorts t_values k27 k35 n N) n t_depths t_ways v1 v2 v3 v4 v5)
        else
          if v4 = (Int32.ofNat 0) then
            (xf_rf_findDepths_116 t_items t_lines t_numbers t_parts t_sorts t_values k27 k35 (xf_rf_findDepths_66 t_items t_lines t_numbers t_parts t_sorts t_values k27 k35 n N) n t_depths t_ways v1 v2 v3 v5)
          else
            if xr_in v5 40 = true then
              (if (t_depths v5.toNatClampNeg) = (-1 : Int32) then
                (xf_rf_findDepths_116 t_items t_lines t_numbers t_parts t_sorts t_values k27 k35 (xf_rf_findDepths_66 t_items t_lines t_numbers t_parts t_sorts t_values k27 k35 n N) n t_depths t_ways v1 v2 v3 v5)
              else
                xf_rf_findDepths_117 t_items t_lines t_numbers t_parts t_sorts t_values k27 k35 (xf_rf_findDepths_66 t_items t_lines t_numbers t_parts t_sorts t_values k27 k35 n N) n t_depths t_ways v1 v2 v3 v5 (Int32.ofNat 1))
            else none)
      else none)
    else
      if v4 = (Int32.ofNat 0) then
        (xf_rf_findDepths_166 t_items t_lines t_numbers t_parts t_sorts t_values k27 k35 n t_depths t_ways v1 v2)
      else
        if xr_in v2 40 = true then
          (xf_rf_findDepths_166 t_items t_lines t_numbers t_parts t_sorts t_values k27 k35 n (upd t_depths v2.toNatClampNeg v3) t_ways (Int32.ofNat 1) v2)
        else none) := rfl
theorem xf_rf_findDepths_35_s (t_items : (Nat → Int32)) (t_lines : (Nat → Int32)) (t_numbers : (Nat → Int32)) (t_parts : (Nat → Int32)) (t_sorts : (Nat → Int32)) (t_values : (Nat → Int32)) (k27 : (Nat → Int32) → (Nat → Int64) → Int32 → Option (Unit × (Nat → Int32) × (Nat → Int64))) (n : Nat) (N : Nat) (t_depths : (Nat → Int32)) (t_ways : (Nat → Int64)) (v1 : Int32) (v2 : Int32) : xf_rf_findDepths_35 t_items t_lines t_numbers t_parts t_sorts t_values k27 n (N + 1) t_depths t_ways v1 v2 = (
    if v2 < (t_lines (Int32.ofNat 0).toNatClampNeg) then
      (if xr_in v2 40 = true then
        (if (t_depths v2.toNatClampNeg) = (-1 : Int32) then
          (xf_rf_findDepths_66 t_items t_lines t_numbers t_parts t_sorts t_values k27 (xf_rf_findDepths_35 t_items t_lines t_numbers t_parts t_sorts t_values k27 n N) n n t_depths t_ways v1 v2 (Int32.ofNat 0) (Int32.ofNat 1) (Int32.ofNat 0))
        else
          xf_rf_findDepths_166 t_items t_lines t_numbers t_parts t_sorts t_values k27 (xf_rf_findDepths_35 t_items t_lines t_numbers t_parts t_sorts t_values k27 n N) n t_depths t_ways v1 v2)
      else none)
    else
      k27 t_depths t_ways v1) := rfl
theorem xf_rf_findDepths_27_s (t_items : (Nat → Int32)) (t_lines : (Nat → Int32)) (t_numbers : (Nat → Int32)) (t_parts : (Nat → Int32)) (t_sorts : (Nat → Int32)) (t_values : (Nat → Int32)) (n : Nat) (N : Nat) (t_depths : (Nat → Int32)) (t_ways : (Nat → Int64)) (v1 : Int32) : xf_rf_findDepths_27 t_items t_lines t_numbers t_parts t_sorts t_values n (N + 1) t_depths t_ways v1 = (
    if v1 = (Int32.ofNat 0) then
      (some ((), t_depths, t_ways))
    else
      xf_rf_findDepths_35 t_items t_lines t_numbers t_parts t_sorts t_values (xf_rf_findDepths_27 t_items t_lines t_numbers t_parts t_sorts t_values n N) n n t_depths t_ways (Int32.ofNat 0) (Int32.ofNat 0)) := rfl
theorem xf_rf_findDepths_6_s (t_items : (Nat → Int32)) (t_lines : (Nat → Int32)) (t_numbers : (Nat → Int32)) (t_parts : (Nat → Int32)) (t_sorts : (Nat → Int32)) (t_values : (Nat → Int32)) (n : Nat) (N : Nat) (t_depths : (Nat → Int32)) (t_ways : (Nat → Int64)) (v1 : Int32) : xf_rf_findDepths_6 t_items t_lines t_numbers t_parts t_sorts t_values n (N + 1) t_depths t_ways v1 = (
    if v1 < (Int32.ofNat 40) then
      (if xr_in v1 40 = true then
        ((xf_rf_findDepths_6 t_items t_lines t_numbers t_parts t_sorts t_values n N) (upd t_depths v1.toNatClampNeg ((-1 : Int32))) t_ways (v1 + (Int32.ofNat 1)))
      else none)
    else
      xf_rf_findDepths_27 t_items t_lines t_numbers t_parts t_sorts t_values n n t_depths t_ways (Int32.ofNat 1)) := rfl
theorem xf_rf_findDepths_s (t_items : (Nat → Int32)) (t_lines : (Nat → Int32)) (t_numbers : (Nat → Int32)) (t_parts : (Nat → Int32)) (t_sorts : (Nat → Int32)) (t_values : (Nat → Int32)) (n : Nat) (t_depths : (Nat → Int32)) (t_ways : (Nat → Int64)) : xf_rf_findDepths t_items t_lines t_numbers t_parts t_sorts t_values n t_depths t_ways = (
  (xf_rf_findWays t_items t_lines t_numbers t_parts t_sorts t_values n t_ways).bind fun q998 =>
  xf_rf_findDepths_6 t_items t_lines t_numbers t_parts t_sorts t_values n n t_depths q998.2 (Int32.ofNat 0)) := rfl
theorem xf_rf_kindOf_57_s (t_kindLetters : (Nat → Int32)) (t_kindNames : (Nat → Int32)) (t_kinds : (Nat → Int32)) (t_letters : (Nat → Int32)) (t_names : (Nat → Int32)) (k2 : Int32 → Int32 → Option (Int32)) (n : Nat) (v1 : Int32) (v2 : Int32) : xf_rf_kindOf_57 t_kindLetters t_kindNames t_kinds t_letters t_names k2 n v1 v2 = (
  k2 v1 (v2 + (Int32.ofNat 1))) := rfl
theorem xf_rf_kindOf_2_s (t_kindLetters : (Nat → Int32)) (t_kindNames : (Nat → Int32)) (t_kinds : (Nat → Int32)) (t_letters : (Nat → Int32)) (t_names : (Nat → Int32)) (n : Nat) (N : Nat) (v1 : Int32) (v2 : Int32) : xf_rf_kindOf_2 t_kindLetters t_kindNames t_kinds t_letters t_names n (N + 1) v1 v2 = (
    if v2 < (t_kinds (Int32.ofNat 0).toNatClampNeg) then
      (if xr_in v2 24 = true then
        (if xr_in v1 120 = true then
          (if (t_kindLetters v2.toNatClampNeg) = (t_letters v1.toNatClampNeg) then
            (if xr_in v1 120 = true then
              ((xf_rf_isSame t_kindNames t_names 192 960 n ((Int32.ofNat 8) * v2) ((Int32.ofNat 8) * v1) (t_letters v1.toNatClampNeg)).bind fun q1029 =>
              if q1029 = (Int32.ofNat 0) then
                (xf_rf_kindOf_57 t_kindLetters t_kindNames t_kinds t_letters t_names (xf_rf_kindOf_2 t_kindLetters t_kindNames t_kinds t_letters t_names n N) n v1 v2)
              else
                some v2)
            else none)
          else
            xf_rf_kindOf_57 t_kindLetters t_kindNames t_kinds t_letters t_names (xf_rf_kindOf_2 t_kindLetters t_kindNames t_kinds t_letters t_names n N) n v1 v2)
        else none)
      else none)
    else
      some (-1 : Int32)) := rfl
theorem xf_rf_kindOf_s (t_kindLetters : (Nat → Int32)) (t_kindNames : (Nat → Int32)) (t_kinds : (Nat → Int32)) (t_letters : (Nat → Int32)) (t_names : (Nat → Int32)) (n : Nat) (a1 : Int32) : xf_rf_kindOf t_kindLetters t_kindNames t_kinds t_letters t_names n a1 = (
  xf_rf_kindOf_2 t_kindLetters t_kindNames t_kinds t_letters t_names n n a1 (Int32.ofNat 0)) := rfl
theorem xf_rf_told_90_s (t_items : (Nat → Int32)) (t_kindLetters : (Nat → Int32)) (t_kindNames : (Nat → Int32)) (t_kinds : (Nat → Int32)) (t_letters : (Nat → Int32)) (t_lines : (Nat → Int32)) (t_names : (Nat → Int32)) (t_numbers : (Nat → Int32)) (t_parts : (Nat → Int32)) (t_sorts : (Nat → Int32)) (t_values : (Nat → Int32)) (n : Nat) (t_depths : (Nat → Int32)) (t_thrown : Int32) (t_ways : (Nat → Int64)) (s0 : Int32) : xf_rf_told_90 t_items t_kindLetters t_kindNames t_kinds t_letters t_lines t_names t_numbers t_parts t_sorts t_values n t_depths t_thrown t_ways s0 = (
  some (s0, t_depths, t_thrown, t_ways)) := rfl
theorem xf_rf_referencesOf_7_s (t_parts : (Nat → Int32)) (t_sorts : (Nat → Int32)) (t_values : (Nat → Int32)) (n : Nat) (N : Nat) (v1 : Int32) (v2 : Int32) (v3 : Int32) : xf_rf_referencesOf_7 t_parts t_sorts t_values n (N + 1) v1 v2 v3 = (
    if xr_in v1 120 = true then
      (if v3 < (((Int32.ofNat 8) * v1) + (t_parts v1.toNatClampNeg)) then
        ((xf_rf_references t_sorts t_values v3).bind fun q1037 =>
        (xf_rf_referencesOf_7 t_parts t_sorts t_values n N) v1 (v2 + q1037) (v3 + (Int32.ofNat 1)))
      else
        some v2)
    else none) := rfl
theorem xf_rf_referencesOf_s (t_parts : (Nat → Int32)) (t_sorts : (Nat → Int32)) (t_values : (Nat → Int32)) (n : Nat) (a1 : Int32) : xf_rf_referencesOf t_parts t_sorts t_values n a1 = (
  xf_rf_referencesOf_7 t_parts t_sorts t_values n n a1 (Int32.ofNat 0) ((Int32.ofNat 8) * a1)) := rfl
theorem xf_rf_told_32_s (t_items : (Nat → Int32)) (t_kindLetters : (Nat → Int32)) (t_kindNames : (Nat → Int32)) (t_kinds : (Nat → Int32)) (t_letters : (Nat → Int32)) (t_lines : (Nat → Int32)) (t_names : (Nat → Int32)) (t_numbers : (Nat → Int32)) (t_parts : (Nat → Int32)) (t_sorts : (Nat → Int32)) (t_values : (Nat → Int32)) (n : Nat) (t_depths : (Nat → Int32)) (t_thrown : Int32) (t_ways : (Nat → Int64)) (v2 : Int32) (v3 : Int32) (s1 : Int32) : xf_rf_told_32 t_items t_kindLetters t_kindNames t_kinds t_letters t_lines t_names t_numbers t_parts t_sorts t_values n t_depths t_thrown t_ways v2 v3 s1 = (
  (xf_rf_fails t_thrown s1 (Int32.ofNat 1)).bind fun q977 =>
  if q977.1 = (Int32.ofNat 0) then
    ((xf_rf_findDepths t_items t_lines t_numbers t_parts t_sorts t_values n t_depths t_ways).bind fun q1016 =>
    if v2 = (Int32.ofNat 0) then
      ((xf_rf_kindOf t_kindLetters t_kindNames t_kinds t_letters t_names n v3).bind fun q1031 =>
      xf_rf_told_90 t_items t_kindLetters t_kindNames t_kinds t_letters t_lines t_names t_numbers t_parts t_sorts t_values n q1016.2.1 q977.2 q1016.2.2 q1031)
    else
      if v2 = (Int32.ofNat 1) then
        (if xr_in v3 120 = true then
          (xf_rf_told_90 t_items t_kindLetters t_kindNames t_kinds t_letters t_lines t_names t_numbers t_parts t_sorts t_values n q1016.2.1 q977.2 q1016.2.2 (t_parts v3.toNatClampNeg))
        else none)
      else
        if v2 = (Int32.ofNat 2) then
          ((xf_rf_referencesOf t_parts t_sorts t_values n v3).bind fun q1038 =>
          xf_rf_told_90 t_items t_kindLetters t_kindNames t_kinds t_letters t_lines t_names t_numbers t_parts t_sorts t_values n q1016.2.1 q977.2 q1016.2.2 q1038)
        else
          if xr_in v3 40 = true then
            (xf_rf_told_90 t_items t_kindLetters t_kindNames t_kinds t_letters t_lines t_names t_numbers t_parts t_sorts t_values n q1016.2.1 q977.2 q1016.2.2 (q1016.2.1 v3.toNatClampNeg))
          else none)
  else
    some ((Int32.ofNat 0), t_depths, q977.2, t_ways)) := rfl
theorem xf_rf_told_27_s (t_items : (Nat → Int32)) (t_kindLetters : (Nat → Int32)) (t_kindNames : (Nat → Int32)) (t_kinds : (Nat → Int32)) (t_letters : (Nat → Int32)) (t_lines : (Nat → Int32)) (t_names : (Nat → Int32)) (t_numbers : (Nat → Int32)) (t_parts : (Nat → Int32)) (t_sorts : (Nat → Int32)) (t_values : (Nat → Int32)) (n : Nat) (t_depths : (Nat → Int32)) (t_thrown : Int32) (t_ways : (Nat → Int64)) (v2 : Int32) (v3 : Int32) : xf_rf_told_27 t_items t_kindLetters t_kindNames t_kinds t_letters t_lines t_names t_numbers t_parts t_sorts t_values n t_depths t_thrown t_ways v2 v3 = (
  xf_rf_told_32 t_items t_kindLetters t_kindNames t_kinds t_letters t_lines t_names t_numbers t_parts t_sorts t_values n t_depths t_thrown t_ways v2 v3 (Int32.ofNat 1)) := rfl
theorem xf_rf_told_s (t_items : (Nat → Int32)) (t_kindLetters : (Nat → Int32)) (t_kindNames : (Nat → Int32)) (t_kinds : (Nat → Int32)) (t_letters : (Nat → Int32)) (t_lines : (Nat → Int32)) (t_names : (Nat → Int32)) (t_numbers : (Nat → Int32)) (t_parts : (Nat → Int32)) (t_sorts : (Nat → Int32)) (t_values : (Nat → Int32)) (n : Nat) (t_depths : (Nat → Int32)) (t_thrown : Int32) (t_ways : (Nat → Int64)) (a1 : Int32) (a2 : Int32) : xf_rf_told t_items t_kindLetters t_kindNames t_kinds t_letters t_lines t_names t_numbers t_parts t_sorts t_values n t_depths t_thrown t_ways a1 a2 = (
  (xf_rf_find t_lines t_numbers n (Int32.ofNat 0) a1).bind fun q975 =>
  if q975 = (-1 : Int32) then
    (xf_rf_told_27 t_items t_kindLetters t_kindNames t_kinds t_letters t_lines t_names t_numbers t_parts t_sorts t_values n t_depths (Int32.ofNat 0) t_ways a2 q975)
  else
    if a2 < (Int32.ofNat 0) then
      (xf_rf_told_27 t_items t_kindLetters t_kindNames t_kinds t_letters t_lines t_names t_numbers t_parts t_sorts t_values n t_depths (Int32.ofNat 0) t_ways a2 q975)
    else
      if (Int32.ofNat 3) < a2 then
        (xf_rf_told_27 t_items t_kindLetters t_kindNames t_kinds t_letters t_lines t_names t_numbers t_parts t_sorts t_values n t_depths (Int32.ofNat 0) t_ways a2 q975)
      else
        xf_rf_told_32 t_items t_kindLetters t_kindNames t_kinds t_letters t_lines t_names t_numbers t_parts t_sorts t_values n t_depths (Int32.ofNat 0) t_ways a2 q975 (Int32.ofNat 0)) := rfl
theorem xf_rf_argumentAt_36_s (t_lines : (Nat → Int32)) (t_numbers : (Nat → Int32)) (t_parts : (Nat → Int32)) (n : Nat) (s0 : Int32) : xf_rf_argumentAt_36 t_lines t_numbers t_parts n s0 = (
  some s0) := rfl
theorem xf_rf_argumentAt_26_s (t_lines : (Nat → Int32)) (t_numbers : (Nat → Int32)) (t_parts : (Nat → Int32)) (n : Nat) : xf_rf_argumentAt_26 t_lines t_numbers t_parts n = (
  xf_rf_argumentAt_36 t_lines t_numbers t_parts n (-1 : Int32)) := rfl
theorem xf_rf_argumentAt_s (t_lines : (Nat → Int32)) (t_numbers : (Nat → Int32)) (t_parts : (Nat → Int32)) (n : Nat) (a1 : Int32) (a2 : Int32) : xf_rf_argumentAt t_lines t_numbers t_parts n a1 a2 = (
  (xf_rf_find t_lines t_numbers n (Int32.ofNat 0) a1).bind fun q1042 =>
  if q1042 = (-1 : Int32) then
    (xf_rf_argumentAt_26 t_lines t_numbers t_parts n)
  else
    if a2 < (Int32.ofNat 0) then
      (xf_rf_argumentAt_26 t_lines t_numbers t_parts n)
    else
      if xr_in q1042 120 = true then
        (if a2 < (t_parts q1042.toNatClampNeg) then
          (xf_rf_argumentAt_36 t_lines t_numbers t_parts n (((Int32.ofNat 8) * q1042) + a2))
        else
          xf_rf_argumentAt_26 t_lines t_numbers t_parts n)
      else none) := rfl
theorem xf_rf_argument3_64_s (t_lines : (Nat → Int32)) (t_numbers : (Nat → Int32)) (t_parts : (Nat → Int32)) (t_sorts : (Nat → Int32)) (t_values : (Nat → Int32)) (n : Nat) (t_thrown : Int32) (s0 : Int32) : xf_rf_argument3_64 t_lines t_numbers t_parts t_sorts t_values n t_thrown s0 = (
  some (s0, t_thrown)) := rfl
theorem xf_rf_argument3_34_s (t_lines : (Nat → Int32)) (t_numbers : (Nat → Int32)) (t_parts : (Nat → Int32)) (t_sorts : (Nat → Int32)) (t_values : (Nat → Int32)) (n : Nat) (t_thrown : Int32) (v3 : Int32) (v4 : Int32) (s1 : Int32) : xf_rf_argument3_34 t_lines t_numbers t_parts t_sorts t_values n t_thrown v3 v4 s1 = (
  (xf_rf_fails t_thrown s1 (Int32.ofNat 1)).bind fun q1049 =>
  if q1049.1 = (Int32.ofNat 0) then
    (if v3 = (Int32.ofNat 0) then
      (if xr_in v4 960 = true then
        (xf_rf_argument3_64 t_lines t_numbers t_parts t_sorts t_values n q1049.2 (t_sorts v4.toNatClampNeg))
      else none)
    else
      if xr_in v4 960 = true then
        (xf_rf_argument3_64 t_lines t_numbers t_parts t_sorts t_values n q1049.2 (t_values v4.toNatClampNeg))
      else none)
  else
    some ((Int32.ofNat 0), q1049.2)) := rfl
theorem xf_rf_argument3_29_s (t_lines : (Nat → Int32)) (t_numbers : (Nat → Int32)) (t_parts : (Nat → Int32)) (t_sorts : (Nat → Int32)) (t_values : (Nat → Int32)) (n : Nat) (t_thrown : Int32) (v3 : Int32) (v4 : Int32) : xf_rf_argument3_29 t_lines t_numbers t_parts t_sorts t_values n t_thrown v3 v4 = (
  xf_rf_argument3_34 t_lines t_numbers t_parts t_sorts t_values n t_thrown v3 v4 (Int32.ofNat 1)) := rfl
theorem xf_rf_argument3_s (t_lines : (Nat → Int32)) (t_numbers : (Nat → Int32)) (t_parts : (Nat → Int32)) (t_sorts : (Nat → Int32)) (t_values : (Nat → Int32)) (n : Nat) (t_thrown : Int32) (a1 : Int32) (a2 : Int32) (a3 : Int32) : xf_rf_argument3 t_lines t_numbers t_parts t_sorts t_values n t_thrown a1 a2 a3 = (
  (xf_rf_argumentAt t_lines t_numbers t_parts n a1 a2).bind fun q1047 =>
  if q1047 = (-1 : Int32) then
    (xf_rf_argument3_29 t_lines t_numbers t_parts t_sorts t_values n (Int32.ofNat 0) a3 q1047)
  else
    if a3 < (Int32.ofNat 0) then
      (xf_rf_argument3_29 t_lines t_numbers t_parts t_sorts t_values n (Int32.ofNat 0) a3 q1047)
    else
      if (Int32.ofNat 1) < a3 then
        (xf_rf_argument3_29 t_lines t_numbers t_parts t_sorts t_values n (Int32.ofNat 0) a3 q1047)
      else
        xf_rf_argument3_34 t_lines t_numbers t_parts t_sorts t_values n (Int32.ofNat 0) a3 q1047 (Int32.ofNat 0)) := rfl
theorem xf_rf_item_85_s (t_items : (Nat → Int32)) (t_lines : (Nat → Int32)) (t_numbers : (Nat → Int32)) (t_parts : (Nat → Int32)) (t_sorts : (Nat → Int32)) (t_values : (Nat → Int32)) (n : Nat) (t_thrown : Int32) (v3 : Int32) (v4 : Int32) (s1 : Int32) : xf_rf_item_85 t_items t_lines t_numbers t_parts t_sorts t_values n t_thrown v3 v4 s1 = (
  (xf_rf_fails t_thrown s1 (Int32.ofNat 1)).bind fun q1059 =>
  if q1059.1 = (Int32.ofNat 0) then
    (if xr_in (((Int32.ofNat 20) * v4) + v3) 19200 = true then
      (some (t_items (((Int32.ofNat 20) * v4) + v3).toNatClampNeg, q1059.2))
    else none)
  else
    some ((Int32.ofNat 0), q1059.2)) := rfl
theorem xf_rf_item_80_s (t_items : (Nat → Int32)) (t_lines : (Nat → Int32)) (t_numbers : (Nat → Int32)) (t_parts : (Nat → Int32)) (t_sorts : (Nat → Int32)) (t_values : (Nat → Int32)) (n : Nat) (t_thrown : Int32) (v3 : Int32) (v4 : Int32) : xf_rf_item_80 t_items t_lines t_numbers t_parts t_sorts t_values n t_thrown v3 v4 = (
  xf_rf_item_85 t_items t_lines t_numbers t_parts t_sorts t_values n t_thrown v3 v4 (Int32.ofNat 1)) := rfl
theorem xf_rf_item_57_s (t_items : (Nat → Int32)) (t_lines : (Nat → Int32)) (t_numbers : (Nat → Int32)) (t_parts : (Nat → Int32)) (t_sorts : (Nat → Int32)) (t_values : (Nat → Int32)) (n : Nat) (t_thrown : Int32) (v3 : Int32) (v4 : Int32) (s0 : Int32) : xf_rf_item_57 t_items t_lines t_numbers t_parts t_sorts t_values n t_thrown v3 v4 s0 = (
  if s0 = (Int32.ofNat 0) then
    (xf_rf_item_80 t_items t_lines t_numbers t_parts t_sorts t_values n t_thrown v3 v4)
  else
    if v3 < (Int32.ofNat 0) then
      (xf_rf_item_80 t_items t_lines t_numbers t_parts t_sorts t_values n t_thrown v3 v4)
    else
      if xr_in v4 960 = true then
        (if v3 < (t_values v4.toNatClampNeg) then
          (xf_rf_item_85 t_items t_lines t_numbers t_parts t_sorts t_values n t_thrown v3 v4 (Int32.ofNat 0))
        else
          xf_rf_item_80 t_items t_lines t_numbers t_parts t_sorts t_values n t_thrown v3 v4)
      else none) := rfl
theorem xf_rf_item_56_s (t_items : (Nat → Int32)) (t_lines : (Nat → Int32)) (t_numbers : (Nat → Int32)) (t_parts : (Nat → Int32)) (t_sorts : (Nat → Int32)) (t_values : (Nat → Int32)) (n : Nat) (t_thrown : Int32) (v3 : Int32) (v4 : Int32) : xf_rf_item_56 t_items t_lines t_numbers t_parts t_sorts t_values n t_thrown v3 v4 = (
  xf_rf_item_57 t_items t_lines t_numbers t_parts t_sorts t_values n t_thrown v3 v4 (Int32.ofNat 0)) := rfl
theorem xf_rf_item_s (t_items : (Nat → Int32)) (t_lines : (Nat → Int32)) (t_numbers : (Nat → Int32)) (t_parts : (Nat → Int32)) (t_sorts : (Nat → Int32)) (t_values : (Nat → Int32)) (n : Nat) (t_thrown : Int32) (a1 : Int32) (a2 : Int32) (a3 : Int32) : xf_rf_item t_items t_lines t_numbers t_parts t_sorts t_values n t_thrown a1 a2 a3 = (
  (xf_rf_argumentAt t_lines t_numbers t_parts n a1 a2).bind fun q1056 =>
  if q1056 = (-1 : Int32) then
    (xf_rf_item_56 t_items t_lines t_numbers t_parts t_sorts t_values n (Int32.ofNat 0) a3 q1056)
  else
    if xr_in q1056 960 = true then
      (if (t_sorts q1056.toNatClampNeg) = (Int32.ofNat 0) then
        (xf_rf_item_56 t_items t_lines t_numbers t_parts t_sorts t_values n (Int32.ofNat 0) a3 q1056)
      else
        if xr_in q1056 960 = true then
          (if (t_sorts q1056.toNatClampNeg) = (Int32.ofNat 2) then
            (xf_rf_item_56 t_items t_lines t_numbers t_parts t_sorts t_values n (Int32.ofNat 0) a3 q1056)
          else
            if xr_in q1056 960 = true then
              (if (t_sorts q1056.toNatClampNeg) = (Int32.ofNat 6) then
                (xf_rf_item_56 t_items t_lines t_numbers t_parts t_sorts t_values n (Int32.ofNat 0) a3 q1056)
              else
                xf_rf_item_57 t_items t_lines t_numbers t_parts t_sorts t_values n (Int32.ofNat 0) a3 q1056 (Int32.ofNat 1))
            else none)
        else none)
    else none) := rfl
theorem xf_rf_set_47_s (t_lines : (Nat → Int32)) (t_numbers : (Nat → Int32)) (t_parts : (Nat → Int32)) (t_sorts : (Nat → Int32)) (n : Nat) (t_thrown : Int32) (t_values : (Nat → Int32)) (v3 : Int32) (v4 : Int32) (s1 : Int32) : xf_rf_set_47 t_lines t_numbers t_parts t_sorts n t_thrown t_values v3 v4 s1 = (
  (xf_rf_fails t_thrown s1 (Int32.ofNat 1)).bind fun q1073 =>
  if q1073.1 = (Int32.ofNat 0) then
    (if xr_in v4 960 = true then
      (if xr_in v4 960 = true then
        (some (t_values v4.toNatClampNeg, q1073.2, upd t_values v4.toNatClampNeg v3))
      else none)
    else none)
  else
    some ((Int32.ofNat 0), q1073.2, t_values)) := rfl
theorem xf_rf_set_42_s (t_lines : (Nat → Int32)) (t_numbers : (Nat → Int32)) (t_parts : (Nat → Int32)) (t_sorts : (Nat → Int32)) (n : Nat) (t_thrown : Int32) (t_values : (Nat → Int32)) (v3 : Int32) (v4 : Int32) : xf_rf_set_42 t_lines t_numbers t_parts t_sorts n t_thrown t_values v3 v4 = (
  xf_rf_set_47 t_lines t_numbers t_parts t_sorts n t_thrown t_values v3 v4 (Int32.ofNat 1)) := rfl
theorem xf_rf_set_s (t_lines : (Nat → Int32)) (t_numbers : (Nat → Int32)) (t_parts : (Nat → Int32)) (t_sorts : (Nat → Int32)) (n : Nat) (t_thrown : Int32) (t_values : (Nat → Int32)) (a1 : Int32) (a2 : Int32) (a3 : Int32) : xf_rf_set t_lines t_numbers t_parts t_sorts n t_thrown t_values a1 a2 a3 = (
  (xf_rf_argumentAt t_lines t_numbers t_parts n a1 a2).bind fun q1071 =>
  if q1071 = (-1 : Int32) then
    (xf_rf_set_42 t_lines t_numbers t_parts t_sorts n (Int32.ofNat 0) t_values a3 q1071)
  else
    if xr_in q1071 960 = true then
      (if (t_sorts q1071.toNatClampNeg) = (Int32.ofNat 0) then
        (if a3 < (-999999999 : Int32) then
          (xf_rf_set_42 t_lines t_numbers t_parts t_sorts n (Int32.ofNat 0) t_values a3 q1071)
        else
          if (Int32.ofNat 999999999) < a3 then
            (xf_rf_set_42 t_lines t_numbers t_parts t_sorts n (Int32.ofNat 0) t_values a3 q1071)
          else
            xf_rf_set_47 t_lines t_numbers t_parts t_sorts n (Int32.ofNat 0) t_values a3 q1071 (Int32.ofNat 0))
      else
        xf_rf_set_42 t_lines t_numbers t_parts t_sorts n (Int32.ofNat 0) t_values a3 q1071)
    else none) := rfl
theorem xf_rf_firstWrong_124_s (t_kindMay : (Nat → Int32)) (t_kindSorts : (Nat → Int32)) (t_parts : (Nat → Int32)) (t_sorts : (Nat → Int32)) (t_values : (Nat → Int32)) (k2 : Int32 → Int32 → Int32 → Option (Int32)) (n : Nat) (v1 : Int32) (v2 : Int32) (v3 : Int32) : xf_rf_firstWrong_124 t_kindMay t_kindSorts t_parts t_sorts t_values k2 n v1 v2 v3 = (
  k2 v1 v2 (v3 + (Int32.ofNat 1))) := rfl
theorem xf_rf_firstWrong_98_s (t_kindMay : (Nat → Int32)) (t_kindSorts : (Nat → Int32)) (t_parts : (Nat → Int32)) (t_sorts : (Nat → Int32)) (t_values : (Nat → Int32)) (k2 : Int32 → Int32 → Int32 → Option (Int32)) (n : Nat) (v1 : Int32) (v2 : Int32) (v3 : Int32) (v4 : Int32) (v5 : Int32) (v6 : Int32) (s0 : Int32) : xf_rf_firstWrong_98 t_kindMay t_kindSorts t_parts t_sorts t_values k2 n v1 v2 v3 v4 v5 v6 s0 = (
  if xr_in v4 960 = true then
    (if (t_sorts v4.toNatClampNeg) = v5 then
      (xf_rf_firstWrong_124 t_kindMay t_kindSorts t_parts t_sorts t_values k2 n v1 v2 v3)
    else
      if v6 = (Int32.ofNat 0) then
        (if s0 = (Int32.ofNat 0) then
          (some v3)
        else
          xf_rf_firstWrong_124 t_kindMay t_kindSorts t_parts t_sorts t_values k2 n v1 v2 v3)
      else
        xf_rf_firstWrong_124 t_kindMay t_kindSorts t_parts t_sorts t_values k2 n v1 v2 v3)
  else none) := rfl
theorem xf_rf_firstWrong_97_s (t_kindMay : (Nat → Int32)) (t_kindSorts : (Nat → Int32)) (t_parts : (Nat → Int32)) (t_sorts : (Nat → Int32)) (t_values : (Nat → Int32)) (k2 : Int32 → Int32 → Int32 → Option (Int32)) (n : Nat) (v1 : Int32) (v2 : Int32) (v3 : Int32) (v4 : Int32) (v5 : Int32) (v6 : Int32) : xf_rf_firstWrong_97 t_kindMay t_kindSorts t_parts t_sorts t_values k2 n v1 v2 v3 v4 v5 v6 = (
  xf_rf_firstWrong_98 t_kindMay t_kindSorts t_parts t_sorts t_values k2 n v1 v2 v3 v4 v5 v6 (Int32.ofNat 0)) := rfl
theorem xf_rf_firstWrong_65_s (t_kindMay : (Nat → Int32)) (t_kindSorts : (Nat → Int32)) (t_parts : (Nat → Int32)) (t_sorts : (Nat → Int32)) (t_values : (Nat → Int32)) (k2 : Int32 → Int32 → Int32 → Option (Int32)) (n : Nat) (v1 : Int32) (v2 : Int32) (v3 : Int32) (v4 : Int32) (v5 : Int32) (s0 : Int32) : xf_rf_firstWrong_65 t_kindMay t_kindSorts t_parts t_sorts t_values k2 n v1 v2 v3 v4 v5 s0 = (
  if xr_in v4 960 = true then
    (if (t_sorts v4.toNatClampNeg) = (Int32.ofNat 6) then
      (if xr_in (((Int32.ofNat 8) * v2) + v3) 192 = true then
        (if (t_kindMay (((Int32.ofNat 8) * v2) + v3).toNatClampNeg) = (Int32.ofNat 0) then
          (xf_rf_firstWrong_97 t_kindMay t_kindSorts t_parts t_sorts t_values k2 n v1 v2 v3 v4 v5 s0)
        else
          xf_rf_firstWrong_98 t_kindMay t_kindSorts t_parts t_sorts t_values k2 n v1 v2 v3 v4 v5 s0 (Int32.ofNat 1))
      else none)
    else
      xf_rf_firstWrong_97 t_kindMay t_kindSorts t_parts t_sorts t_values k2 n v1 v2 v3 v4 v5 s0)
  else none) := rfl
theorem xf_rf_firstWrong_64_s (t_kindMay : (Nat → Int32)) (t_kindSorts : (Nat → Int32)) (t_parts : (Nat → Int32)) (t_sorts : (Nat → Int32)) (t_values : (Nat → Int32)) (k2 : Int32 → Int32 → Int32 → Option (Int32)) (n : Nat) (v1 : Int32) (v2 : Int32) (v3 : Int32) (v4 : Int32) (v5 : Int32) : xf_rf_firstWrong_64 t_kindMay t_kindSorts t_parts t_sorts t_values k2 n v1 v2 v3 v4 v5 = (
  xf_rf_firstWrong_65 t_kindMay t_kindSorts t_parts t_sorts t_values k2 n v1 v2 v3 v4 v5 (Int32.ofNat 0)) := rfl
theorem xf_rf_firstWrong_2_s (t_kindMay : (Nat → Int32)) (t_kindSorts : (Nat → Int32)) (t_parts : (Nat → Int32)) (t_sorts : (Nat → Int32)) (t_values : (Nat → Int32)) (n : Nat) (N : Nat) (v1 : Int32) (v2 : Int32) (v3 : Int32) : xf_rf_firstWrong_2 t_kindMay t_kindSorts t_parts t_sorts t_values n (N + 1) v1 v2 v3 = (
    if xr_in v1 120 = true then
      (if v3 < (t_parts v1.toNatClampNeg) then
        (if xr_in (((Int32.ofNat 8) * v2) + v3) 192 = true then
          (if (t_kindSorts (((Int32.ofNat 8) * v2) + v3).toNatClampNeg) = (Int32.ofNat 4) then
            (if xr_in (((Int32.ofNat 8) * v1) + v3) 960 = true then
              (if (t_sorts (((Int32.ofNat 8) * v1) + v3).toNatClampNeg) = (Int32.ofNat 3) then
                (if xr_in (((Int32.ofNat 8) * v1) + v3) 960 = true then
                  (if (t_values (((Int32.ofNat 8) * v1) + v3).toNatClampNeg) = (Int32.ofNat 0) then
                    (xf_rf_firstWrong_65 t_kindMay t_kindSorts t_parts t_sorts t_values (xf_rf_firstWrong_2 t_kindMay t_kindSorts t_parts t_sorts t_values n N) n v1 v2 v3 (((Int32.ofNat 8) * v1) + v3) (t_kindSorts (((Int32.ofNat 8) * v2) + v3).toNatClampNeg) (Int32.ofNat 1))
                  else
                    xf_rf_firstWrong_64 t_kindMay t_kindSorts t_parts t_sorts t_values (xf_rf_firstWrong_2 t_kindMay t_kindSorts t_parts t_sorts t_values n N) n v1 v2 v3 (((Int32.ofNat 8) * v1) + v3) (t_kindSorts (((Int32.ofNat 8) * v2) + v3).toNatClampNeg))
                else none)
              else
                xf_rf_firstWrong_64 t_kindMay t_kindSorts t_parts t_sorts t_values (xf_rf_firstWrong_2 t_kindMay t_kindSorts t_parts t_sorts t_values n N) n v1 v2 v3 (((Int32.ofNat 8) * v1) + v3) (t_kindSorts (((Int32.ofNat 8) * v2) + v3).toNatClampNeg))
            else none)
          else
            xf_rf_firstWrong_64 t_kindMay t_kindSorts t_parts t_sorts t_values (xf_rf_firstWrong_2 t_kindMay t_kindSorts t_parts t_sorts t_values n N) n v1 v2 v3 (((Int32.ofNat 8) * v1) + v3) (t_kindSorts (((Int32.ofNat 8) * v2) + v3).toNatClampNeg))
        else none)
      else
        some (-1 : Int32))
    else none) := rfl
theorem xf_rf_firstWrong_s (t_kindMay : (Nat → Int32)) (t_kindSorts : (Nat → Int32)) (t_parts : (Nat → Int32)) (t_sorts : (Nat → Int32)) (t_values : (Nat → Int32)) (n : Nat) (a1 : Int32) (a2 : Int32) : xf_rf_firstWrong t_kindMay t_kindSorts t_parts t_sorts t_values n a1 a2 = (
  xf_rf_firstWrong_2 t_kindMay t_kindSorts t_parts t_sorts t_values n n a1 a2 (Int32.ofNat 0)) := rfl
theorem xf_rf_wrong_166_s (t_kindLetters : (Nat → Int32)) (t_kindMay : (Nat → Int32)) (t_kindNames : (Nat → Int32)) (t_kindParts : (Nat → Int32)) (t_kindSorts : (Nat → Int32)) (t_kinds : (Nat → Int32)) (t_letters : (Nat → Int32)) (t_lines : (Nat → Int32)) (t_names : (Nat → Int32)) (t_numbers : (Nat → Int32)) (t_parts : (Nat → Int32)) (t_sorts : (Nat → Int32)) (t_values : (Nat → Int32)) (k38 : Int32 → Int32 → Int32 → Int32 → Option (Int32 × Int32)) (n : Nat) (t_thrown : Int32) (v2 : Int32) (v3 : Int32) (v4 : Int32) : xf_rf_wrong_166 t_kindLetters t_kindMay t_kindNames t_kindParts t_kindSorts t_kinds t_letters t_lines t_names t_numbers t_parts t_sorts t_values k38 n t_thrown v2 v3 v4 = (
  k38 t_thrown v2 v3 (v4 + (Int32.ofNat 1))) := rfl
theorem xf_rf_wrong_162_s (t_kindLetters : (Nat → Int32)) (t_kindMay : (Nat → Int32)) (t_kindNames : (Nat → Int32)) (t_kindParts : (Nat → Int32)) (t_kindSorts : (Nat → Int32)) (t_kinds : (Nat → Int32)) (t_letters : (Nat → Int32)) (t_lines : (Nat → Int32)) (t_names : (Nat → Int32)) (t_numbers : (Nat → Int32)) (t_parts : (Nat → Int32)) (t_sorts : (Nat → Int32)) (t_values : (Nat → Int32)) (n : Nat) (t_thrown : Int32) (s0 : Int32) : xf_rf_wrong_162 t_kindLetters t_kindMay t_kindNames t_kindParts t_kindSorts t_kinds t_letters t_lines t_names t_numbers t_parts t_sorts t_values n t_thrown s0 = (
  some (s0, t_thrown)) := rfl
theorem xf_rf_wrong_122_s (t_kindLetters : (Nat → Int32)) (t_kindMay : (Nat → Int32)) (t_kindNames : (Nat → Int32)) (t_kindParts : (Nat → Int32)) (t_kindSorts : (Nat → Int32)) (t_kinds : (Nat → Int32)) (t_letters : (Nat → Int32)) (t_lines : (Nat → Int32)) (t_names : (Nat → Int32)) (t_numbers : (Nat → Int32)) (t_parts : (Nat → Int32)) (t_sorts : (Nat → Int32)) (t_values : (Nat → Int32)) (k38 : Int32 → Int32 → Int32 → Int32 → Option (Int32 × Int32)) (n : Nat) (t_thrown : Int32) (v2 : Int32) (v3 : Int32) (v4 : Int32) (v7 : Int32) (s0 : Int32) : xf_rf_wrong_122 t_kindLetters t_kindMay t_kindNames t_kindParts t_kindSorts t_kinds t_letters t_lines t_names t_numbers t_parts t_sorts t_values k38 n t_thrown v2 v3 v4 v7 s0 = (
  if s0 = (Int32.ofNat 0) then
    (xf_rf_wrong_166 t_kindLetters t_kindMay t_kindNames t_kindParts t_kindSorts t_kinds t_letters t_lines t_names t_numbers t_parts t_sorts t_values k38 n t_thrown v2 v3 v4)
  else
    if v3 = (Int32.ofNat 0) then
      (if v2 = (Int32.ofNat 0) then
        (if xr_in v4 120 = true then
          (xf_rf_wrong_162 t_kindLetters t_kindMay t_kindNames t_kindParts t_kindSorts t_kinds t_letters t_lines t_names t_numbers t_parts t_sorts t_values n t_thrown (t_numbers v4.toNatClampNeg))
        else none)
      else
        if v2 = (Int32.ofNat 1) then
          (xf_rf_wrong_162 t_kindLetters t_kindMay t_kindNames t_kindParts t_kindSorts t_kinds t_letters t_lines t_names t_numbers t_parts t_sorts t_values n t_thrown s0)
        else
          xf_rf_wrong_162 t_kindLetters t_kindMay t_kindNames t_kindParts t_kindSorts t_kinds t_letters t_lines t_names t_numbers t_parts t_sorts t_values n t_thrown v7)
    else
      xf_rf_wrong_166 t_kindLetters t_kindMay t_kindNames t_kindParts t_kindSorts t_kinds t_letters t_lines t_names t_numbers t_parts t_sorts t_values k38 n t_thrown v2 (v3 + (-1 : Int32)) v4) := rfl
theorem xf_rf_wrong_108_s (t_kindLetters : (Nat → Int32)) (t_kindMay : (Nat → Int32)) (t_kindNames : (Nat → Int32)) (t_kindParts : (Nat → Int32)) (t_kindSorts : (Nat → Int32)) (t_kinds : (Nat → Int32)) (t_letters : (Nat → Int32)) (t_lines : (Nat → Int32)) (t_names : (Nat → Int32)) (t_numbers : (Nat → Int32)) (t_parts : (Nat → Int32)) (t_sorts : (Nat → Int32)) (t_values : (Nat → Int32)) (k38 : Int32 → Int32 → Int32 → Int32 → Option (Int32 × Int32)) (n : Nat) (t_thrown : Int32) (v2 : Int32) (v3 : Int32) (v4 : Int32) (v6 : Int32) (s0 : Int32) : xf_rf_wrong_108 t_kindLetters t_kindMay t_kindNames t_kindParts t_kindSorts t_kinds t_letters t_lines t_names t_numbers t_parts t_sorts t_values k38 n t_thrown v2 v3 v4 v6 s0 = (
  if s0 = (-1 : Int32) then
    (xf_rf_wrong_122 t_kindLetters t_kindMay t_kindNames t_kindParts t_kindSorts t_kinds t_letters t_lines t_names t_numbers t_parts t_sorts t_values k38 n t_thrown v2 v3 v4 s0 v6)
  else
    xf_rf_wrong_122 t_kindLetters t_kindMay t_kindNames t_kindParts t_kindSorts t_kinds t_letters t_lines t_names t_numbers t_parts t_sorts t_values k38 n t_thrown v2 v3 v4 s0 (Int32.ofNat 3)) := rfl
theorem xf_rf_wrong_89_s (t_kindLetters : (Nat → Int32)) (t_kindMay : (Nat → Int32)) (t_kindNames : (Nat → Int32)) (t_kindParts : (Nat → Int32)) (t_kindSorts : (Nat → Int32)) (t_kinds : (Nat → Int32)) (t_letters : (Nat → Int32)) (t_lines : (Nat → Int32)) (t_names : (Nat → Int32)) (t_numbers : (Nat → Int32)) (t_parts : (Nat → Int32)) (t_sorts : (Nat → Int32)) (t_values : (Nat → Int32)) (k38 : Int32 → Int32 → Int32 → Int32 → Option (Int32 × Int32)) (n : Nat) (t_thrown : Int32) (v2 : Int32) (v3 : Int32) (v4 : Int32) (v5 : Int32) (s0 : Int32) : xf_rf_wrong_89 t_kindLetters t_kindMay t_kindNames t_kindParts t_kindSorts t_kinds t_letters t_lines t_names t_numbers t_parts t_sorts t_values k38 n t_thrown v2 v3 v4 v5 s0 = (
  if s0 = (Int32.ofNat 0) then
    ((xf_rf_firstWrong t_kindMay t_kindSorts t_parts t_sorts t_values n v4 v5).bind fun q1104 =>
    xf_rf_wrong_108 t_kindLetters t_kindMay t_kindNames t_kindParts t_kindSorts t_kinds t_letters t_lines t_names t_numbers t_parts t_sorts t_values k38 n t_thrown v2 v3 v4 s0 q1104)
  else
    xf_rf_wrong_108 t_kindLetters t_kindMay t_kindNames t_kindParts t_kindSorts t_kinds t_letters t_lines t_names t_numbers t_parts t_sorts t_values k38 n t_thrown v2 v3 v4 s0 (-1 : Int32)) := rfl
theorem xf_rf_wrong_38_s (t_kindLetters : (Nat → Int32)) (t_kindMay : (Nat → Int32)) (t_kindNames : (Nat → Int32)) (t_kindParts : (Nat → Int32)) (t_kindSorts : (Nat → Int32)) (t_kinds : (Nat → Int32)) (t_letters : (Nat → Int32)) (t_lines : (Nat → Int32)) (t_names : (Nat → Int32)) (t_numbers : (Nat → Int32)) (t_parts : (Nat → Int32)) (t_sorts : (Nat → Int32)) (t_values : (Nat → Int32)) (n : Nat) (N : Nat) (t_thrown : Int32) (v2 : Int32) (v3 : Int32) (v4 : Int32) : xf_rf_wrong_38 t_kindLetters t_kindMay t_kindNames t_kindParts t_kindSorts t_kinds t_letters t_lines t_names t_numbers t_parts t_sorts t_values n (N + 1) t_thrown v2 v3 v4 = (
    if v4 < (t_lines (Int32.ofNat 0).toNatClampNeg) then
      ((xf_rf_kindOf t_kindLetters t_kindNames t_kinds t_letters t_names n v4).bind fun q1085 =>
      if q1085 = (-1 : Int32) then
        (xf_rf_wrong_89 t_kindLetters t_kindMay t_kindNames t_kindParts t_kindSorts t_kinds t_letters t_lines t_names t_numbers t_parts t_sorts t_values (xf_rf_wrong_38 t_kindLetters t_kindMay t_kindNames t_kindParts t_kindSorts t_kinds t_letters t_lines t_names t_numbers t_parts t_sorts t_values n N) n t_thrown v2 v3 v4 q1085 (Int32.ofNat 1))
      else
        if xr_in q1085 24 = true then
          (if xr_in v4 120 = true then
            (if (t_kindParts q1085.toNatClampNeg) = (t_parts v4.toNatClampNeg) then
              (xf_rf_wrong_89 t_kindLetters t_kindMay t_kindNames t_kindParts t_kindSorts t_kinds t_letters t_lines t_names t_numbers t_parts t_sorts t_values (xf_rf_wrong_38 t_kindLetters t_kindMay t_kindNames t_kindParts t_kindSorts t_kinds t_letters t_lines t_names t_numbers t_parts t_sorts t_values n N) n t_thrown v2 v3 v4 q1085 (Int32.ofNat 0))
            else
              xf_rf_wrong_89 t_kindLetters t_kindMay t_kindNames t_kindParts t_kindSorts t_kinds t_letters t_lines t_names t_numbers t_parts t_sorts t_values (xf_rf_wrong_38 t_kindLetters t_kindMay t_kindNames t_kindParts t_kindSorts t_kinds t_letters t_lines t_names t_numbers t_parts t_sorts t_values n N) n t_thrown v2 v3 v4 q1085 (Int32.ofNat 2))
          else none)
        else none)
    else
      some ((-1 : Int32), t_thrown)) := rfl
theorem xf_rf_wrong_24_s (t_kindLetters : (Nat → Int32)) (t_kindMay : (Nat → Int32)) (t_kindNames : (Nat → Int32)) (t_kindParts : (Nat → Int32)) (t_kindSorts : (Nat → Int32)) (t_kinds : (Nat → Int32)) (t_letters : (Nat → Int32)) (t_lines : (Nat → Int32)) (t_names : (Nat → Int32)) (t_numbers : (Nat → Int32)) (t_parts : (Nat → Int32)) (t_sorts : (Nat → Int32)) (t_values : (Nat → Int32)) (n : Nat) (t_thrown : Int32) (v1 : Int32) (v2 : Int32) (s1 : Int32) : xf_rf_wrong_24 t_kindLetters t_kindMay t_kindNames t_kindParts t_kindSorts t_kinds t_letters t_lines t_names t_numbers t_parts t_sorts t_values n t_thrown v1 v2 s1 = (
  (xf_rf_fails t_thrown s1 (Int32.ofNat 1)).bind fun q1082 =>
  if q1082.1 = (Int32.ofNat 0) then
    (xf_rf_wrong_38 t_kindLetters t_kindMay t_kindNames t_kindParts t_kindSorts t_kinds t_letters t_lines t_names t_numbers t_parts t_sorts t_values n n q1082.2 v2 v1 (Int32.ofNat 0))
  else
    some ((Int32.ofNat 0), q1082.2)) := rfl
theorem xf_rf_wrong_19_s (t_kindLetters : (Nat → Int32)) (t_kindMay : (Nat → Int32)) (t_kindNames : (Nat → Int32)) (t_kindParts : (Nat → Int32)) (t_kindSorts : (Nat → Int32)) (t_kinds : (Nat → Int32)) (t_letters : (Nat → Int32)) (t_lines : (Nat → Int32)) (t_names : (Nat → Int32)) (t_numbers : (Nat → Int32)) (t_parts : (Nat → Int32)) (t_sorts : (Nat → Int32)) (t_values : (Nat → Int32)) (n : Nat) (t_thrown : Int32) (v1 : Int32) (v2 : Int32) : xf_rf_wrong_19 t_kindLetters t_kindMay t_kindNames t_kindParts t_kindSorts t_kinds t_letters t_lines t_names t_numbers t_parts t_sorts t_values n t_thrown v1 v2 = (
  xf_rf_wrong_24 t_kindLetters t_kindMay t_kindNames t_kindParts t_kindSorts t_kinds t_letters t_lines t_names t_numbers t_parts t_sorts t_values n t_thrown v1 v2 (Int32.ofNat 1)) := rfl
theorem xf_rf_wrong_s (t_kindLetters : (Nat → Int32)) (t_kindMay : (Nat → Int32)) (t_kindNames : (Nat → Int32)) (t_kindParts : (Nat → Int32)) (t_kindSorts : (Nat → Int32)) (t_kinds : (Nat → Int32)) (t_letters : (Nat → Int32)) (t_lines : (Nat → Int32)) (t_names : (Nat → Int32)) (t_numbers : (Nat → Int32)) (t_parts : (Nat → Int32)) (t_sorts : (Nat → Int32)) (t_values : (Nat → Int32)) (n : Nat) (t_thrown : Int32) (a1 : Int32) (a2 : Int32) : xf_rf_wrong t_kindLetters t_kindMay t_kindNames t_kindParts t_kindSorts t_kinds t_letters t_lines t_names t_numbers t_parts t_sorts t_values n t_thrown a1 a2 = (
  if a1 < (Int32.ofNat 0) then
    (xf_rf_wrong_19 t_kindLetters t_kindMay t_kindNames t_kindParts t_kindSorts t_kinds t_letters t_lines t_names t_numbers t_parts t_sorts t_values n (Int32.ofNat 0) a1 a2)
  else
    if a2 < (Int32.ofNat 0) then
      (xf_rf_wrong_19 t_kindLetters t_kindMay t_kindNames t_kindParts t_kindSorts t_kinds t_letters t_lines t_names t_numbers t_parts t_sorts t_values n (Int32.ofNat 0) a1 a2)
    else
      if (Int32.ofNat 2) < a2 then
        (xf_rf_wrong_19 t_kindLetters t_kindMay t_kindNames t_kindParts t_kindSorts t_kinds t_letters t_lines t_names t_numbers t_parts t_sorts t_values n (Int32.ofNat 0) a1 a2)
      else
        xf_rf_wrong_24 t_kindLetters t_kindMay t_kindNames t_kindParts t_kindSorts t_kinds t_letters t_lines t_names t_numbers t_parts t_sorts t_values n (Int32.ofNat 0) a1 a2 (Int32.ofNat 0)) := rfl
theorem xf_rf_from_92_s (t_items : (Nat → Int32)) (t_lines : (Nat → Int32)) (t_numbers : (Nat → Int32)) (t_parts : (Nat → Int32)) (t_sorts : (Nat → Int32)) (t_values : (Nat → Int32)) (k46 : Int32 → (Nat → Int64) → Int32 → Int32 → Int32 → Option (Int32 × Int32 × (Nat → Int64))) (n : Nat) (t_thrown : Int32) (t_ways : (Nat → Int64)) (v3 : Int32) (v4 : Int32) (v5 : Int32) : xf_rf_from_92 t_items t_lines t_numbers t_parts t_sorts t_values k46 n t_thrown t_ways v3 v4 v5 = (
  k46 t_thrown t_ways v3 v4 (v5 + (Int32.ofNat 1))) := rfl
theorem xf_rf_from_46_s (t_items : (Nat → Int32)) (t_lines : (Nat → Int32)) (t_numbers : (Nat → Int32)) (t_parts : (Nat → Int32)) (t_sorts : (Nat → Int32)) (t_values : (Nat → Int32)) (n : Nat) (N : Nat) (t_thrown : Int32) (t_ways : (Nat → Int64)) (v3 : Int32) (v4 : Int32) (v5 : Int32) : xf_rf_from_46 t_items t_lines t_numbers t_parts t_sorts t_values n (N + 1) t_thrown t_ways v3 v4 v5 = (
    if v5 < (t_lines (Int32.ofNat 0).toNatClampNeg) then
      (if xr_in v5 40 = true then
        (if (lg_cmp ((xe_shr (t_ways v5.toNatClampNeg) v3) &&& ((1 : Int64))) ((0 : Int64))) = (Int32.ofNat 0) then
          (xf_rf_from_92 t_items t_lines t_numbers t_parts t_sorts t_values (xf_rf_from_46 t_items t_lines t_numbers t_parts t_sorts t_values n N) n t_thrown t_ways v3 v4 v5)
        else
          if v4 = (Int32.ofNat 0) then
            (if xr_in v5 120 = true then
              (some (t_numbers v5.toNatClampNeg, t_thrown, t_ways))
            else none)
          else
            xf_rf_from_92 t_items t_lines t_numbers t_parts t_sorts t_values (xf_rf_from_46 t_items t_lines t_numbers t_parts t_sorts t_values n N) n t_thrown t_ways v3 (v4 + (-1 : Int32)) v5)
      else none)
    else
      some ((-1 : Int32), t_thrown, t_ways)) := rfl
theorem xf_rf_from_27_s (t_items : (Nat → Int32)) (t_lines : (Nat → Int32)) (t_numbers : (Nat → Int32)) (t_parts : (Nat → Int32)) (t_sorts : (Nat → Int32)) (t_values : (Nat → Int32)) (n : Nat) (t_thrown : Int32) (t_ways : (Nat → Int64)) (v2 : Int32) (v3 : Int32) (s1 : Int32) : xf_rf_from_27 t_items t_lines t_numbers t_parts t_sorts t_values n t_thrown t_ways v2 v3 s1 = (
  (xf_rf_fails t_thrown s1 (Int32.ofNat 1)).bind fun q1118 =>
  if q1118.1 = (Int32.ofNat 0) then
    ((xf_rf_findWays t_items t_lines t_numbers t_parts t_sorts t_values n t_ways).bind fun q1120 =>
    xf_rf_from_46 t_items t_lines t_numbers t_parts t_sorts t_values n n q1118.2 q1120.2 v3 v2 (Int32.ofNat 0))
  else
    some ((Int32.ofNat 0), q1118.2, t_ways)) := rfl
theorem xf_rf_from_22_s (t_items : (Nat → Int32)) (t_lines : (Nat → Int32)) (t_numbers : (Nat → Int32)) (t_parts : (Nat → Int32)) (t_sorts : (Nat → Int32)) (t_values : (Nat → Int32)) (n : Nat) (t_thrown : Int32) (t_ways : (Nat → Int64)) (v2 : Int32) (v3 : Int32) : xf_rf_from_22 t_items t_lines t_numbers t_parts t_sorts t_values n t_thrown t_ways v2 v3 = (
  xf_rf_from_27 t_items t_lines t_numbers t_parts t_sorts t_values n t_thrown t_ways v2 v3 (Int32.ofNat 1)) := rfl
theorem xf_rf_from_s (t_items : (Nat → Int32)) (t_lines : (Nat → Int32)) (t_numbers : (Nat → Int32)) (t_parts : (Nat → Int32)) (t_sorts : (Nat → Int32)) (t_values : (Nat → Int32)) (n : Nat) (t_thrown : Int32) (t_ways : (Nat → Int64)) (a1 : Int32) (a2 : Int32) : xf_rf_from t_items t_lines t_numbers t_parts t_sorts t_values n t_thrown t_ways a1 a2 = (
  (xf_rf_find t_lines t_numbers n (Int32.ofNat 0) a1).bind fun q1116 =>
  if q1116 = (-1 : Int32) then
    (xf_rf_from_22 t_items t_lines t_numbers t_parts t_sorts t_values n (Int32.ofNat 0) t_ways a2 q1116)
  else
    if a2 < (Int32.ofNat 0) then
      (xf_rf_from_22 t_items t_lines t_numbers t_parts t_sorts t_values n (Int32.ofNat 0) t_ways a2 q1116)
    else
      xf_rf_from_27 t_items t_lines t_numbers t_parts t_sorts t_values n (Int32.ofNat 0) t_ways a2 q1116 (Int32.ofNat 0)) := rfl
theorem xf_rf_isOnRing_79_s (t_lines : (Nat → Int32)) (t_ways : (Nat → Int64)) (n : Nat) (s0 : Int32) : xf_rf_isOnRing_79 t_lines t_ways n s0 = (
  if fits .boolean (.int s0) = true then some s0 else none) := rfl
theorem xf_rf_isOnRing_55_s (t_lines : (Nat → Int32)) (t_ways : (Nat → Int64)) (k10 : Int32 → Int64 → Int64 → Option (Int32)) (k23 : Int32 → Int64 → Int64 → Int32 → Option (Int32)) (n : Nat) (v1 : Int32) (v2 : Int64) (v4 : Int64) (v6 : Int32) : xf_rf_isOnRing_55 t_lines t_ways k10 k23 n v1 v2 v4 v6 = (
  k23 v1 v2 v4 (v6 + (Int32.ofNat 1))) := rfl
theorem xf_rf_isOnRing_23_s (t_lines : (Nat → Int32)) (t_ways : (Nat → Int64)) (k10 : Int32 → Int64 → Int64 → Option (Int32)) (n : Nat) (N : Nat) (v1 : Int32) (v2 : Int64) (v4 : Int64) (v6 : Int32) : xf_rf_isOnRing_23 t_lines t_ways k10 n (N + 1) v1 v2 v4 v6 = (
    if v6 < (t_lines (Int32.ofNat 0).toNatClampNeg) then
      (if (lg_cmp ((xe_shr v2 v6) &&& ((1 : Int64))) ((1 : Int64))) = (Int32.ofNat 0) then
        (if xr_in v6 40 = true then
          (xf_rf_isOnRing_55 t_lines t_ways k10 (xf_rf_isOnRing_23 t_lines t_ways k10 n N) n v1 (v2 ||| (t_ways v6.toNatClampNeg)) v4 v6)
        else none)
      else
        xf_rf_isOnRing_55 t_lines t_ways k10 (xf_rf_isOnRing_23 t_lines t_ways k10 n N) n v1 v2 v4 v6)
    else
      k10 v1 v2 v4) := rfl
theorem xf_rf_isOnRing_10_s (t_lines : (Nat → Int32)) (t_ways : (Nat → Int64)) (n : Nat) (N : Nat) (v1 : Int32) (v2 : Int64) (v4 : Int64) : xf_rf_isOnRing_10 t_lines t_ways n (N + 1) v1 v2 v4 = (
    if (lg_cmp v2 v4) = (Int32.ofNat 0) then
      (if (lg_cmp ((xe_shr v2 v1) &&& ((1 : Int64))) ((1 : Int64))) = (Int32.ofNat 0) then
        (xf_rf_isOnRing_79 t_lines t_ways n (Int32.ofNat 1))
      else
        xf_rf_isOnRing_79 t_lines t_ways n (Int32.ofNat 0))
    else
      xf_rf_isOnRing_23 t_lines t_ways (xf_rf_isOnRing_10 t_lines t_ways n N) n n v1 v2 v2 (Int32.ofNat 0)) := rfl
theorem xf_rf_isOnRing_s (t_lines : (Nat → Int32)) (t_ways : (Nat → Int64)) (n : Nat) (a1 : Int32) : xf_rf_isOnRing t_lines t_ways n a1 = (
  if xr_in a1 40 = true then
    (xf_rf_isOnRing_10 t_lines t_ways n n a1 (t_ways a1.toNatClampNeg) ((0 : Int64)))
  else none) := rfl
theorem xf_rf_ring_77_s (t_items : (Nat → Int32)) (t_lines : (Nat → Int32)) (t_numbers : (Nat → Int32)) (t_parts : (Nat → Int32)) (t_sorts : (Nat → Int32)) (t_values : (Nat → Int32)) (k32 : (Nat → Int32) → Int32 → (Nat → Int64) → Int32 → Int32 → Option (Int32 × (Nat → Int32) × Int32 × (Nat → Int64))) (n : Nat) (t_depths : (Nat → Int32)) (t_thrown : Int32) (t_ways : (Nat → Int64)) (v2 : Int32) (v3 : Int32) : xf_rf_ring_77 t_items t_lines t_numbers t_parts t_sorts t_values k32 n t_depths t_thrown t_ways v2 v3 = (
  k32 t_depths t_thrown t_ways v2 (v3 + (Int32.ofNat 1))) := rfl
theorem xf_rf_ring_32_s (t_items : (Nat → Int32)) (t_lines : (Nat → Int32)) (t_numbers : (Nat → Int32)) (t_parts : (Nat → Int32)) (t_sorts : (Nat → Int32)) (t_values : (Nat → Int32)) (n : Nat) (N : Nat) (t_depths : (Nat → Int32)) (t_thrown : Int32) (t_ways : (Nat → Int64)) (v2 : Int32) (v3 : Int32) : xf_rf_ring_32 t_items t_lines t_numbers t_parts t_sorts t_values n (N + 1) t_depths t_thrown t_ways v2 v3 = (
    if v3 < (t_lines (Int32.ofNat 0).toNatClampNeg) then
      (if xr_in v3 40 = true then
        (if (t_depths v3.toNatClampNeg) = (-1 : Int32) then
          ((xf_rf_isOnRing t_lines t_ways n v3).bind fun q1141 =>
          if q1141 = (Int32.ofNat 0) then
            (xf_rf_ring_77 t_items t_lines t_numbers t_parts t_sorts t_values (xf_rf_ring_32 t_items t_lines t_numbers t_parts t_sorts t_values n N) n t_depths t_thrown t_ways v2 v3)
          else
            if v2 = (Int32.ofNat 0) then
              (if xr_in v3 120 = true then
                (some (t_numbers v3.toNatClampNeg, t_depths, t_thrown, t_ways))
              else none)
            else
              xf_rf_ring_77 t_items t_lines t_numbers t_parts t_sorts t_values (xf_rf_ring_32 t_items t_lines t_numbers t_parts t_sorts t_values n N) n t_depths t_thrown t_ways (v2 + (-1 : Int32)) v3)
        else
          xf_rf_ring_77 t_items t_lines t_numbers t_parts t_sorts t_values (xf_rf_ring_32 t_items t_lines t_numbers t_parts t_sorts t_values n N) n t_depths t_thrown t_ways v2 v3)
      else none)
    else
      some ((-1 : Int32), t_depths, t_thrown, t_ways)) := rfl
theorem xf_rf_ring_15_s (t_items : (Nat → Int32)) (t_lines : (Nat → Int32)) (t_numbers : (Nat → Int32)) (t_parts : (Nat → Int32)) (t_sorts : (Nat → Int32)) (t_values : (Nat → Int32)) (n : Nat) (t_depths : (Nat → Int32)) (t_thrown : Int32) (t_ways : (Nat → Int64)) (v1 : Int32) (s1 : Int32) : xf_rf_ring_15 t_items t_lines t_numbers t_parts t_sorts t_values n t_depths t_thrown t_ways v1 s1 = (
  (xf_rf_fails t_thrown s1 (Int32.ofNat 1)).bind fun q1128 =>
  if q1128.1 = (Int32.ofNat 0) then
    ((xf_rf_findDepths t_items t_lines t_numbers t_parts t_sorts t_values n t_depths t_ways).bind fun q1130 =>
    xf_rf_ring_32 t_items t_lines t_numbers t_parts t_sorts t_values n n q1130.2.1 q1128.2 q1130.2.2 v1 (Int32.ofNat 0))
  else
    some ((Int32.ofNat 0), t_depths, q1128.2, t_ways)) := rfl
theorem xf_rf_ring_s (t_items : (Nat → Int32)) (t_lines : (Nat → Int32)) (t_numbers : (Nat → Int32)) (t_parts : (Nat → Int32)) (t_sorts : (Nat → Int32)) (t_values : (Nat → Int32)) (n : Nat) (t_depths : (Nat → Int32)) (t_thrown : Int32) (t_ways : (Nat → Int64)) (a1 : Int32) : xf_rf_ring t_items t_lines t_numbers t_parts t_sorts t_values n t_depths t_thrown t_ways a1 = (
  if a1 < (Int32.ofNat 0) then
    (xf_rf_ring_15 t_items t_lines t_numbers t_parts t_sorts t_values n t_depths (Int32.ofNat 0) t_ways a1 (Int32.ofNat 1))
  else
    xf_rf_ring_15 t_items t_lines t_numbers t_parts t_sorts t_values n t_depths (Int32.ofNat 0) t_ways a1 (Int32.ofNat 0)) := rfl
theorem xf_rf_isPlaced_76_s (t_parts : (Nat → Int32)) (t_sorts : (Nat → Int32)) (s0 : Int32) : xf_rf_isPlaced_76 t_parts t_sorts s0 = (
  if fits .boolean (.int s0) = true then some s0 else none) := rfl
theorem xf_rf_isPlaced_71_s (t_parts : (Nat → Int32)) (t_sorts : (Nat → Int32)) : xf_rf_isPlaced_71 t_parts t_sorts = (
  xf_rf_isPlaced_76 t_parts t_sorts (Int32.ofNat 1)) := rfl
theorem xf_rf_isPlaced_75_s (t_parts : (Nat → Int32)) (t_sorts : (Nat → Int32)) : xf_rf_isPlaced_75 t_parts t_sorts = (
  xf_rf_isPlaced_76 t_parts t_sorts (Int32.ofNat 0)) := rfl
theorem xf_rf_isPlaced_s (t_parts : (Nat → Int32)) (t_sorts : (Nat → Int32)) (a1 : Int32) : xf_rf_isPlaced t_parts t_sorts a1 = (
  if xr_in a1 120 = true then
    (if (Int32.ofNat 3) < (t_parts a1.toNatClampNeg) then
      (if xr_in ((Int32.ofNat 8) * a1) 960 = true then
        (if (t_sorts ((Int32.ofNat 8) * a1).toNatClampNeg) = (Int32.ofNat 0) then
          (if xr_in (((Int32.ofNat 8) * a1) + (Int32.ofNat 1)) 960 = true then
            (if (t_sorts (((Int32.ofNat 8) * a1) + (Int32.ofNat 1)).toNatClampNeg) = (Int32.ofNat 0) then
              (if xr_in (((Int32.ofNat 8) * a1) + (Int32.ofNat 2)) 960 = true then
                (if (t_sorts (((Int32.ofNat 8) * a1) + (Int32.ofNat 2)).toNatClampNeg) = (Int32.ofNat 0) then
                  (if xr_in (((Int32.ofNat 8) * a1) + (Int32.ofNat 3)) 960 = true then
                    (if (t_sorts (((Int32.ofNat 8) * a1) + (Int32.ofNat 3)).toNatClampNeg) = (Int32.ofNat 2) then
                      (xf_rf_isPlaced_71 t_parts t_sorts)
                    else
                      if xr_in (((Int32.ofNat 8) * a1) + (Int32.ofNat 3)) 960 = true then
                        (if (t_sorts (((Int32.ofNat 8) * a1) + (Int32.ofNat 3)).toNatClampNeg) = (Int32.ofNat 6) then
                          (xf_rf_isPlaced_71 t_parts t_sorts)
                        else
                          xf_rf_isPlaced_75 t_parts t_sorts)
                      else none)
                  else none)
                else
                  xf_rf_isPlaced_75 t_parts t_sorts)
              else none)
            else
              xf_rf_isPlaced_75 t_parts t_sorts)
          else none)
        else
          xf_rf_isPlaced_75 t_parts t_sorts)
      else none)
    else
      xf_rf_isPlaced_75 t_parts t_sorts)
  else none) := rfl
theorem xf_rf_place_166_s (t_lines : (Nat → Int32)) (t_numbers : (Nat → Int32)) (t_parts : (Nat → Int32)) (t_sorts : (Nat → Int32)) (t_values : (Nat → Int32)) (k68 : Int32 → Int32 → Int32 → Int64 → Int32 → Option (Int64 × Int32)) (n : Nat) (t_thrown : Int32) (v2 : Int32) (v4 : Int64) (v6 : Int32) (s0 : Int32) : xf_rf_place_166 t_lines t_numbers t_parts t_sorts t_values k68 n t_thrown v2 v4 v6 s0 = (
  k68 t_thrown v2 s0 v4 v6) := rfl
theorem xf_rf_place_165_s (t_lines : (Nat → Int32)) (t_numbers : (Nat → Int32)) (t_parts : (Nat → Int32)) (t_sorts : (Nat → Int32)) (t_values : (Nat → Int32)) (k68 : Int32 → Int32 → Int32 → Int64 → Int32 → Option (Int64 × Int32)) (n : Nat) (t_thrown : Int32) (v2 : Int32) (v4 : Int64) (v6 : Int32) : xf_rf_place_165 t_lines t_numbers t_parts t_sorts t_values k68 n t_thrown v2 v4 v6 = (
  xf_rf_place_166 t_lines t_numbers t_parts t_sorts t_values k68 n t_thrown v2 v4 v6 (-1 : Int32)) := rfl
theorem xf_rf_place_143_s (t_lines : (Nat → Int32)) (t_numbers : (Nat → Int32)) (t_parts : (Nat → Int32)) (t_sorts : (Nat → Int32)) (t_values : (Nat → Int32)) (k68 : Int32 → Int32 → Int32 → Int64 → Int32 → Option (Int64 × Int32)) (n : Nat) (t_thrown : Int32) (v2 : Int32) (v4 : Int64) (v6 : Int32) (s0 : Int32) : xf_rf_place_143 t_lines t_numbers t_parts t_sorts t_values k68 n t_thrown v2 v4 v6 s0 = (
  if s0 = (-1 : Int32) then
    (xf_rf_place_165 t_lines t_numbers t_parts t_sorts t_values k68 n t_thrown v2 v4 v6)
  else
    (xf_rf_isPlaced t_parts t_sorts s0).bind fun q1174 =>
    if q1174 = (Int32.ofNat 0) then
      (xf_rf_place_165 t_lines t_numbers t_parts t_sorts t_values k68 n t_thrown v2 v4 v6)
    else
      xf_rf_place_166 t_lines t_numbers t_parts t_sorts t_values k68 n t_thrown v2 v4 v6 s0) := rfl
theorem xf_rf_place_68_s (t_lines : (Nat → Int32)) (t_numbers : (Nat → Int32)) (t_parts : (Nat → Int32)) (t_sorts : (Nat → Int32)) (t_values : (Nat → Int32)) (n : Nat) (N : Nat) (t_thrown : Int32) (v2 : Int32) (v3 : Int32) (v4 : Int64) (v6 : Int32) : xf_rf_place_68 t_lines t_numbers t_parts t_sorts t_values n (N + 1) t_thrown v2 v3 v4 v6 = (
    if v3 = (-1 : Int32) then
      (some (v4, t_thrown))
    else
      if (t_lines (Int32.ofNat 0).toNatClampNeg) < v6 then
        (some ((1000000000000 : Int64), t_thrown))
      else
        if xr_in (((Int32.ofNat 8) * v3) + v2) 960 = true then
          (if xr_in (((Int32.ofNat 8) * v3) + (Int32.ofNat 3)) 960 = true then
            (if (t_sorts (((Int32.ofNat 8) * v3) + (Int32.ofNat 3)).toNatClampNeg) = (Int32.ofNat 2) then
              (if xr_in (((Int32.ofNat 8) * v3) + (Int32.ofNat 3)) 960 = true then
                ((xf_rf_find t_lines t_numbers n (Int32.ofNat 0) (t_values (((Int32.ofNat 8) * v3) + (Int32.ofNat 3)).toNatClampNeg)).bind fun q1172 =>
                xf_rf_place_143 t_lines t_numbers t_parts t_sorts t_values (xf_rf_place_68 t_lines t_numbers t_parts t_sorts t_values n N) n t_thrown v2 (v4 + ((t_values (((Int32.ofNat 8) * v3) + v2).toNatClampNeg).toInt64)) (v6 + (Int32.ofNat 1)) q1172)
              else none)
            else
              xf_rf_place_143 t_lines t_numbers t_parts t_sorts t_values (xf_rf_place_68 t_lines t_numbers t_parts t_sorts t_values n N) n t_thrown v2 (v4 + ((t_values (((Int32.ofNat 8) * v3) + v2).toNatClampNeg).toInt64)) (v6 + (Int32.ofNat 1)) (-1 : Int32))
          else none)
        else none) := rfl
theorem xf_rf_place_60_s (t_lines : (Nat → Int32)) (t_numbers : (Nat → Int32)) (t_parts : (Nat → Int32)) (t_sorts : (Nat → Int32)) (t_values : (Nat → Int32)) (n : Nat) (t_thrown : Int32) : xf_rf_place_60 t_lines t_numbers t_parts t_sorts t_values n t_thrown = (
  some ((0 : Int64), t_thrown)) := rfl
theorem xf_rf_place_53_s (t_lines : (Nat → Int32)) (t_numbers : (Nat → Int32)) (t_parts : (Nat → Int32)) (t_sorts : (Nat → Int32)) (t_values : (Nat → Int32)) (n : Nat) (t_thrown : Int32) (v2 : Int32) (v3 : Int32) (s1 : Int32) : xf_rf_place_53 t_lines t_numbers t_parts t_sorts t_values n t_thrown v2 v3 s1 = (
  (xf_rf_fails t_thrown s1 (Int32.ofNat 1)).bind fun q1164 =>
  if q1164.1 = (Int32.ofNat 0) then
    (xf_rf_place_68 t_lines t_numbers t_parts t_sorts t_values n n q1164.2 v2 v3 ((0 : Int64)) (Int32.ofNat 0))
  else
    xf_rf_place_60 t_lines t_numbers t_parts t_sorts t_values n q1164.2) := rfl
theorem xf_rf_place_32_s (t_lines : (Nat → Int32)) (t_numbers : (Nat → Int32)) (t_parts : (Nat → Int32)) (t_sorts : (Nat → Int32)) (t_values : (Nat → Int32)) (n : Nat) (t_thrown : Int32) (v2 : Int32) (v3 : Int32) (s1 : Int32) : xf_rf_place_32 t_lines t_numbers t_parts t_sorts t_values n t_thrown v2 v3 s1 = (
  (xf_rf_fails t_thrown s1 (Int32.ofNat 1)).bind fun q1147 =>
  if q1147.1 = (Int32.ofNat 0) then
    ((xf_rf_isPlaced t_parts t_sorts v3).bind fun q1162 =>
    if q1162 = (Int32.ofNat 0) then
      (xf_rf_place_53 t_lines t_numbers t_parts t_sorts t_values n q1147.2 v2 v3 (Int32.ofNat 1))
    else
      xf_rf_place_53 t_lines t_numbers t_parts t_sorts t_values n q1147.2 v2 v3 (Int32.ofNat 0))
  else
    xf_rf_place_60 t_lines t_numbers t_parts t_sorts t_values n q1147.2) := rfl
theorem xf_rf_place_27_s (t_lines : (Nat → Int32)) (t_numbers : (Nat → Int32)) (t_parts : (Nat → Int32)) (t_sorts : (Nat → Int32)) (t_values : (Nat → Int32)) (n : Nat) (t_thrown : Int32) (v2 : Int32) (v3 : Int32) : xf_rf_place_27 t_lines t_numbers t_parts t_sorts t_values n t_thrown v2 v3 = (
  xf_rf_place_32 t_lines t_numbers t_parts t_sorts t_values n t_thrown v2 v3 (Int32.ofNat 1)) := rfl
theorem xf_rf_place_s (t_lines : (Nat → Int32)) (t_numbers : (Nat → Int32)) (t_parts : (Nat → Int32)) (t_sorts : (Nat → Int32)) (t_values : (Nat → Int32)) (n : Nat) (t_thrown : Int32) (a1 : Int32) (a2 : Int32) : xf_rf_place t_lines t_numbers t_parts t_sorts t_values n t_thrown a1 a2 = (
  (xf_rf_find t_lines t_numbers n (Int32.ofNat 0) a1).bind fun q1145 =>
  if q1145 = (-1 : Int32) then
    (xf_rf_place_27 t_lines t_numbers t_parts t_sorts t_values n (Int32.ofNat 0) a2 q1145)
  else
    if a2 < (Int32.ofNat 0) then
      (xf_rf_place_27 t_lines t_numbers t_parts t_sorts t_values n (Int32.ofNat 0) a2 q1145)
    else
      if (Int32.ofNat 2) < a2 then
        (xf_rf_place_27 t_lines t_numbers t_parts t_sorts t_values n (Int32.ofNat 0) a2 q1145)
      else
        xf_rf_place_32 t_lines t_numbers t_parts t_sorts t_values n (Int32.ofNat 0) a2 q1145 (Int32.ofNat 0)) := rfl
theorem xf_rf_isLineAlike_107_s (t_items : (Nat → Int32)) (t_letters : (Nat → Int32)) (t_likes : (Nat → Int32)) (t_lines : (Nat → Int32)) (t_names : (Nat → Int32)) (t_numbers : (Nat → Int32)) (t_parts : (Nat → Int32)) (t_sorts : (Nat → Int32)) (t_values : (Nat → Int32)) (n : Nat) (v3 : Int32) : xf_rf_isLineAlike_107 t_items t_letters t_likes t_lines t_names t_numbers t_parts t_sorts t_values n v3 = (
  if fits .boolean (.int v3) = true then some v3 else none) := rfl
theorem xf_rf_isArgumentAlike_57_s (t_items : (Nat → Int32)) (t_likes : (Nat → Int32)) (t_lines : (Nat → Int32)) (t_numbers : (Nat → Int32)) (t_sorts : (Nat → Int32)) (t_values : (Nat → Int32)) (n : Nat) (s0 : Int32) : xf_rf_isArgumentAlike_57 t_items t_likes t_lines t_numbers t_sorts t_values n s0 = (
  if fits .boolean (.int s0) = true then some s0 else none) := rfl
theorem xf_rf_isArgumentAlike_37_s (t_items : (Nat → Int32)) (t_likes : (Nat → Int32)) (t_lines : (Nat → Int32)) (t_numbers : (Nat → Int32)) (t_sorts : (Nat → Int32)) (t_values : (Nat → Int32)) (n : Nat) (v1 : Int32) (v2 : Int32) : xf_rf_isArgumentAlike_37 t_items t_likes t_lines t_numbers t_sorts t_values n v1 v2 = (
  if xr_in v1 960 = true then
    (if xr_in v2 960 = true then
      (if (t_values v1.toNatClampNeg) = (t_values v2.toNatClampNeg) then
        (xf_rf_isArgumentAlike_57 t_items t_likes t_lines t_numbers t_sorts t_values n (Int32.ofNat 1))
      else
        xf_rf_isArgumentAlike_57 t_items t_likes t_lines t_numbers t_sorts t_values n (Int32.ofNat 0))
    else none)
  else none) := rfl
theorem xf_rf_isArgumentAlike_98_s (t_items : (Nat → Int32)) (t_likes : (Nat → Int32)) (t_lines : (Nat → Int32)) (t_numbers : (Nat → Int32)) (t_sorts : (Nat → Int32)) (t_values : (Nat → Int32)) (n : Nat) (s0 : Int32) : xf_rf_isArgumentAlike_98 t_items t_likes t_lines t_numbers t_sorts t_values n s0 = (
  if fits .boolean (.int s0) = true then some s0 else none) := rfl
theorem xf_rf_isArgumentAlike_204_s (t_items : (Nat → Int32)) (t_likes : (Nat → Int32)) (t_lines : (Nat → Int32)) (t_numbers : (Nat → Int32)) (t_sorts : (Nat → Int32)) (t_values : (Nat → Int32)) (k157 : Int32 → Int32 → Int32 → Int32 → Option (Int32)) (n : Nat) (v1 : Int32) (v2 : Int32) (v4 : Int32) (s0 : Int32) : xf_rf_isArgumentAlike_204 t_items t_likes t_lines t_numbers t_sorts t_values k157 n v1 v2 v4 s0 = (
  k157 v1 v2 s0 (v4 + (Int32.ofNat 1))) := rfl
theorem xf_rf_isArgumentAlike_203_s (t_items : (Nat → Int32)) (t_likes : (Nat → Int32)) (t_lines : (Nat → Int32)) (t_numbers : (Nat → Int32)) (t_sorts : (Nat → Int32)) (t_values : (Nat → Int32)) (k157 : Int32 → Int32 → Int32 → Int32 → Option (Int32)) (n : Nat) (v1 : Int32) (v2 : Int32) (v4 : Int32) : xf_rf_isArgumentAlike_203 t_items t_likes t_lines t_numbers t_sorts t_values k157 n v1 v2 v4 = (
  xf_rf_isArgumentAlike_204 t_items t_likes t_lines t_numbers t_sorts t_values k157 n v1 v2 v4 (Int32.ofNat 0)) := rfl
theorem xf_rf_isArgumentAlike_157_s (t_items : (Nat → Int32)) (t_likes : (Nat → Int32)) (t_lines : (Nat → Int32)) (t_numbers : (Nat → Int32)) (t_sorts : (Nat → Int32)) (t_values : (Nat → Int32)) (n : Nat) (N : Nat) (v1 : Int32) (v2 : Int32) (v3 : Int32) (v4 : Int32) : xf_rf_isArgumentAlike_157 t_items t_likes t_lines t_numbers t_sorts t_values n (N + 1) v1 v2 v3 v4 = (
    if xr_in v1 960 = true then
      (if v4 < (t_values v1.toNatClampNeg) then
        (if v3 = (Int32.ofNat 0) then
          (xf_rf_isArgumentAlike_203 t_items t_likes t_lines t_numbers t_sorts t_values (xf_rf_isArgumentAlike_157 t_items t_likes t_lines t_numbers t_sorts t_values n N) n v1 v2 v4)
        else
          (xf_rf_referred t_items t_lines t_numbers t_sorts t_values n v1 v4).bind fun q1241 =>
          if xr_in q1241 40 = true then
            ((xf_rf_referred t_items t_lines t_numbers t_sorts t_values n v2 v4).bind fun q1243 =>
            if xr_in q1243 40 = true then
              (if (t_likes q1241.toNatClampNeg) = (t_likes q1243.toNatClampNeg) then
                (xf_rf_isArgumentAlike_204 t_items t_likes t_lines t_numbers t_sorts t_values (xf_rf_isArgumentAlike_157 t_items t_likes t_lines t_numbers t_sorts t_values n N) n v1 v2 v4 (Int32.ofNat 1))
              else
                xf_rf_isArgumentAlike_203 t_items t_likes t_lines t_numbers t_sorts t_values (xf_rf_isArgumentAlike_157 t_items t_likes t_lines t_numbers t_sorts t_values n N) n v1 v2 v4)
            else none)
          else none)
      else
        if fits .boolean (.int v3) = true then some v3 else none)
    else none) := rfl
theorem xf_rf_isArgumentAlike_s (t_items : (Nat → Int32)) (t_likes : (Nat → Int32)) (t_lines : (Nat → Int32)) (t_numbers : (Nat → Int32)) (t_sorts : (Nat → Int32)) (t_values : (Nat → Int32)) (n : Nat) (a1 : Int32) (a2 : Int32) : xf_rf_isArgumentAlike t_items t_likes t_lines t_numbers t_sorts t_values n a1 a2 = (
  if xr_in a1 960 = true then
    (if xr_in a2 960 = true then
      (if (t_sorts a1.toNatClampNeg) = (t_sorts a2.toNatClampNeg) then
        (if xr_in a1 960 = true then
          (if (t_sorts a1.toNatClampNeg) = (Int32.ofNat 0) then
            (xf_rf_isArgumentAlike_37 t_items t_likes t_lines t_numbers t_sorts t_values n a1 a2)
          else
            if xr_in a1 960 = true then
              (if (t_sorts a1.toNatClampNeg) = (Int32.ofNat 6) then
                (xf_rf_isArgumentAlike_37 t_items t_likes t_lines t_numbers t_sorts t_values n a1 a2)
              else
                if xr_in a1 960 = true then
                  (if (t_sorts a1.toNatClampNeg) = (Int32.ofNat 2) then
                    ((xf_rf_referred t_items t_lines t_numbers t_sorts t_values n a1 (Int32.ofNat 0)).bind fun q1227 =>
                    if xr_in q1227 40 = true then
                      ((xf_rf_referred t_items t_lines t_numbers t_sorts t_values n a2 (Int32.ofNat 0)).bind fun q1229 =>
                      if xr_in q1229 40 = true then
                        (if (t_likes q1227.toNatClampNeg) = (t_likes q1229.toNatClampNeg) then
                          (xf_rf_isArgumentAlike_98 t_items t_likes t_lines t_numbers t_sorts t_values n (Int32.ofNat 1))
                        else
                          xf_rf_isArgumentAlike_98 t_items t_likes t_lines t_numbers t_sorts t_values n (Int32.ofNat 0))
                      else none)
                    else none)
                  else
                    if xr_in a1 960 = true then
                      (if xr_in a2 960 = true then
                        (if (t_values a1.toNatClampNeg) = (t_values a2.toNatClampNeg) then
                          (if xr_in a1 960 = true then
                            (if (t_sorts a1.toNatClampNeg) = (Int32.ofNat 4) then
                              (xf_rf_isArgumentAlike_157 t_items t_likes t_lines t_numbers t_sorts t_values n n a1 a2 (Int32.ofNat 1) (Int32.ofNat 0))
                            else
                              if xr_in a1 960 = true then
                                ((xf_rf_isSame t_items t_items 19200 19200 n ((Int32.ofNat 20) * a1) ((Int32.ofNat 20) * a2) (t_values a1.toNatClampNeg)).bind fun q1254 =>
                                if fits .boolean (.int q1254) = true then some q1254 else none)
                              else none)
                          else none)
                        else
                          some (Int32.ofNat 0))
                      else none)
                    else none)
                else none)
            else none)
        else none)
      else
        some (Int32.ofNat 0))
    else none)
  else none) := rfl
theorem xf_rf_isLineAlike_67_s (t_items : (Nat → Int32)) (t_letters : (Nat → Int32)) (t_likes : (Nat → Int32)) (t_lines : (Nat → Int32)) (t_names : (Nat → Int32)) (t_numbers : (Nat → Int32)) (t_parts : (Nat → Int32)) (t_sorts : (Nat → Int32)) (t_values : (Nat → Int32)) (n : Nat) (N : Nat) (v1 : Int32) (v2 : Int32) (v3 : Int32) (v4 : Int32) : xf_rf_isLineAlike_67 t_items t_letters t_likes t_lines t_names t_numbers t_parts t_sorts t_values n (N + 1) v1 v2 v3 v4 = (
    if xr_in v1 120 = true then
      (if v4 < (t_parts v1.toNatClampNeg) then
        (if v3 = (Int32.ofNat 0) then
          (xf_rf_isLineAlike_107 t_items t_letters t_likes t_lines t_names t_numbers t_parts t_sorts t_values n v3)
        else
          (xf_rf_isArgumentAlike t_items t_likes t_lines t_numbers t_sorts t_values n (((Int32.ofNat 8) * v1) + v4) (((Int32.ofNat 8) * v2) + v4)).bind fun q1256 =>
          (xf_rf_isLineAlike_67 t_items t_letters t_likes t_lines t_names t_numbers t_parts t_sorts t_values n N) v1 v2 q1256 (v4 + (Int32.ofNat 1)))
      else
        xf_rf_isLineAlike_107 t_items t_letters t_likes t_lines t_names t_numbers t_parts t_sorts t_values n v3)
    else none) := rfl
theorem xf_rf_isLineAlike_63_s (t_items : (Nat → Int32)) (t_letters : (Nat → Int32)) (t_likes : (Nat → Int32)) (t_lines : (Nat → Int32)) (t_names : (Nat → Int32)) (t_numbers : (Nat → Int32)) (t_parts : (Nat → Int32)) (t_sorts : (Nat → Int32)) (t_values : (Nat → Int32)) (n : Nat) (v1 : Int32) (v2 : Int32) (s0 : Int32) : xf_rf_isLineAlike_63 t_items t_letters t_likes t_lines t_names t_numbers t_parts t_sorts t_values n v1 v2 s0 = (
  xf_rf_isLineAlike_67 t_items t_letters t_likes t_lines t_names t_numbers t_parts t_sorts t_values n n v1 v2 s0 (Int32.ofNat 0)) := rfl
theorem xf_rf_isLineAlike_62_s (t_items : (Nat → Int32)) (t_letters : (Nat → Int32)) (t_likes : (Nat → Int32)) (t_lines : (Nat → Int32)) (t_names : (Nat → Int32)) (t_numbers : (Nat → Int32)) (t_parts : (Nat → Int32)) (t_sorts : (Nat → Int32)) (t_values : (Nat → Int32)) (n : Nat) (v1 : Int32) (v2 : Int32) : xf_rf_isLineAlike_62 t_items t_letters t_likes t_lines t_names t_numbers t_parts t_sorts t_values n v1 v2 = (
  xf_rf_isLineAlike_63 t_items t_letters t_likes t_lines t_names t_numbers t_parts t_sorts t_values n v1 v2 (Int32.ofNat 0)) := rfl
theorem xf_rf_isLineAlike_s (t_items : (Nat → Int32)) (t_letters : (Nat → Int32)) (t_likes : (Nat → Int32)) (t_lines : (Nat → Int32)) (t_names : (Nat → Int32)) (t_numbers : (Nat → Int32)) (t_parts : (Nat → Int32)) (t_sorts : (Nat → Int32)) (t_values : (Nat → Int32)) (n : Nat) (a1 : Int32) (a2 : Int32) : xf_rf_isLineAlike t_items t_letters t_likes t_lines t_names t_numbers t_parts t_sorts t_values n a1 a2 = (
  if xr_in a1 120 = true then
    (if xr_in a2 120 = true then
      (if (t_letters a1.toNatClampNeg) = (t_letters a2.toNatClampNeg) then
        (if xr_in a1 120 = true then
          (if xr_in a2 120 = true then
            (if (t_parts a1.toNatClampNeg) = (t_parts a2.toNatClampNeg) then
              (if xr_in a1 120 = true then
                ((xf_rf_isSame t_names t_names 960 960 n ((Int32.ofNat 8) * a1) ((Int32.ofNat 8) * a2) (t_letters a1.toNatClampNeg)).bind fun q1208 =>
                if q1208 = (Int32.ofNat 0) then
                  (xf_rf_isLineAlike_62 t_items t_letters t_likes t_lines t_names t_numbers t_parts t_sorts t_values n a1 a2)
                else
                  xf_rf_isLineAlike_63 t_items t_letters t_likes t_lines t_names t_numbers t_parts t_sorts t_values n a1 a2 (Int32.ofNat 1))
              else none)
            else
              xf_rf_isLineAlike_62 t_items t_letters t_likes t_lines t_names t_numbers t_parts t_sorts t_values n a1 a2)
          else none)
        else none)
      else
        xf_rf_isLineAlike_62 t_items t_letters t_likes t_lines t_names t_numbers t_parts t_sorts t_values n a1 a2)
    else none)
  else none) := rfl
theorem xf_rf_findLikes_106_s (t_items : (Nat → Int32)) (t_letters : (Nat → Int32)) (t_lines : (Nat → Int32)) (t_names : (Nat → Int32)) (t_numbers : (Nat → Int32)) (t_parts : (Nat → Int32)) (t_sorts : (Nat → Int32)) (t_values : (Nat → Int32)) (k27 : (Nat → Int32) → (Nat → Int32) → (Nat → Int64) → Int32 → Option (Unit × (Nat → Int32) × (Nat → Int32) × (Nat → Int64))) (k35 : (Nat → Int32) → (Nat → Int32) → (Nat → Int64) → Int32 → Int32 → Option (Unit × (Nat → Int32) × (Nat → Int32) × (Nat → Int64))) (k60 : (Nat → Int32) → (Nat → Int32) → (Nat → Int64) → Int32 → Int32 → Int32 → Option (Unit × (Nat → Int32) × (Nat → Int32) × (Nat → Int64))) (n : Nat) (t_depths : (Nat → Int32)) (t_likes : (Nat → Int32)) (t_ways : (Nat → Int64)) (v1 : Int32) (v2 : Int32) (v3 : Int32) : xf_rf_findLikes_106 t_items t_letters t_lines t_names t_numbers t_parts t_sorts t_values k27 k35 k60 n t_depths t_likes t_ways v1 v2 v3 = (
  k60 t_depths t_likes t_ways v1 v2 (v3 + (Int32.ofNat 1))) := rfl
theorem xf_rf_findLikes_112_s (t_items : (Nat → Int32)) (t_letters : (Nat → Int32)) (t_lines : (Nat → Int32)) (t_names : (Nat → Int32)) (t_numbers : (Nat → Int32)) (t_parts : (Nat → Int32)) (t_sorts : (Nat → Int32)) (t_values : (Nat → Int32)) (k27 : (Nat → Int32) → (Nat → Int32) → (Nat → Int64) → Int32 → Option (Unit × (Nat → Int32) × (Nat → Int32) × (Nat → Int64))) (k35 : (Nat → Int32) → (Nat → Int32) → (Nat → Int64) → Int32 → Int32 → Option (Unit × (Nat → Int32) × (Nat → Int32) × (Nat → Int64))) (n : Nat) (t_depths : (Nat → Int32)) (t_likes : (Nat → Int32)) (t_ways : (Nat → Int64)) (v1 : Int32) (v2 : Int32) : xf_rf_findLikes_112 t_items t_letters t_lines t_names t_numbers t_parts t_sorts t_values k27 k35 n t_depths t_likes t_ways v1 v2 = (
  k35 t_depths t_likes t_ways v1 (v2 + (Int32.ofNat 1))) := rfl
theorem xf_rf_findLikes_60_s (t_items : (Nat → Int32)) (t_letters : (Nat → Int32)) (t_lines : (Nat → Int32)) (t_names : (Nat → Int32)) (t_numbers : (Nat → Int32)) (t_parts : (Nat → Int32)) (t_sorts : (Nat → Int32)) (t_values : (Nat → Int32)) (k27 : (Nat → Int32) → (Nat → Int32) → (Nat → Int64) → Int32 → Option (Unit × (Nat → Int32) × (Nat → Int32) × (Nat → Int64))) (k35 : (Nat → Int32) → (Nat → Int32) → (Nat → Int64) → Int32 → Int32 → Option (Unit × (Nat → Int32) × (Nat → Int32) × (Nat → Int64))) (n : Nat) (N : Nat) (t_depths : (Nat → Int32)) (t_likes : (Nat → Int32)) (t_ways : (Nat → Int64)) (v1 : Int32) (v2 : Int32) (v3 : Int32) : xf_rf_findLikes_60 t_items t_letters t_lines t_names t_numbers t_parts t_sorts t_values k27 k35 n (N + 1) t_depths t_likes t_ways v1 v2 v3 = (
    if v3 < v2 then
      (if xr_in v2 40 = true then
        (if (t_likes v2.toNatClampNeg) = v2 then
          (if xr_in v3 40 = true then
            (if (t_depths v3.toNatClampNeg) = v1 then
              ((xf_rf_isLineAlike t_items t_letters t_likes t_lines t_names t_numbers t_parts t_sorts t_values n v2 v3).bind fun q1257 =>
              if q1257 = (Int32.ofNat 0) then
                (xf_rf_findLikes_106 t_items t_letters t_lines t_names t_numbers t_parts t_sorts t_values k27 k35 (xf_rf_findLikes_60 t_items t_letters t_lines t_names t_numbers t_parts t_sorts t_values k27 k35 n N) n t_depths t_likes t_ways v1 v2 v3)
              else
                if xr_in v3 40 = true then
                  (if xr_in v2 40 = true then
                    (xf_rf_findLikes_106 t_items t_letters t_lines t_names t_numbers t_parts t_sorts t_values k27 k35 (xf_rf_findLikes_60 t_items t_letters t_lines t_names t_numbers t_parts t_sorts t_values k27 k35 n N) n t_depths (upd t_likes v2.toNatClampNeg ((t_likes v3.toNatClampNeg))) t_ways v1 v2 v3)
                  else none)
                else none)
            else
              xf_rf_findLikes_106 t_items t_letters t_lines t_names t_numbers t_parts t_sorts t_values k27 k35 (xf_rf_findLikes_60 t_items t_letters t_lines t_names t_numbers t_parts t_sorts t_values k27 k35 n N) n t_depths t_likes t_ways v1 v2 v3)
          else none)
        else
          xf_rf_findLikes_112 t_items t_letters t_lines t_names t_numbers t_parts t_sorts t_values k27 k35 n t_depths t_likes t_ways v1 v2)
      else none)
    else
      xf_rf_findLikes_112 t_items t_letters t_lines t_names t_numbers t_parts t_sorts t_values k27 k35 n t_depths t_likes t_ways v1 v2) := rfl
theorem xf_rf_findLikes_35_s (t_items : (Nat → Int32)) (t_letters : (Nat → Int32)) (t_lines : (Nat → Int32)) (t_names : (Nat → Int32)) (t_numbers : (Nat → Int32)) (t_parts : (Nat → Int32)) (t_sorts : (Nat → Int32)) (t_values : (Nat → Int32)) (k27 : (Nat → Int32) → (Nat → Int32) → (Nat → Int64) → Int32 → Option (Unit × (Nat → Int32) × (Nat → Int32) × (Nat → Int64))) (n : Nat) (N : Nat) (t_depths : (Nat → Int32)) (t_likes : (Nat → Int32)) (t_ways : (Nat → Int64)) (v1 : Int32) (v2 : Int32) : xf_rf_findLikes_35 t_items t_letters t_lines t_names t_numbers t_parts t_sorts t_values k27 n (N + 1) t_depths t_likes t_ways v1 v2 = (
    if v2 < (t_lines (Int32.ofNat 0).toNatClampNeg) then
      (if xr_in v2 40 = true then
        (if (t_depths v2.toNatClampNeg) = v1 then
          (xf_rf_findLikes_60 t_items t_letters t_lines t_names t_numbers t_parts t_sorts t_values k27 (xf_rf_findLikes_35 t_items t_letters t_lines t_names t_numbers t_parts t_sorts t_values k27 n N) n n t_depths t_likes t_ways v1 v2 (Int32.ofNat 0))
        else
          xf_rf_findLikes_112 t_items t_letters t_lines t_names t_numbers t_parts t_sorts t_values k27 (xf_rf_findLikes_35 t_items t_letters t_lines t_names t_numbers t_parts t_sorts t_values k27 n N) n t_depths t_likes t_ways v1 v2)
      else none)
    else
      k27 t_depths t_likes t_ways (v1 + (Int32.ofNat 1))) := rfl
theorem xf_rf_findLikes_27_s (t_items : (Nat → Int32)) (t_letters : (Nat → Int32)) (t_lines : (Nat → Int32)) (t_names : (Nat → Int32)) (t_numbers : (Nat → Int32)) (t_parts : (Nat → Int32)) (t_sorts : (Nat → Int32)) (t_values : (Nat → Int32)) (n : Nat) (N : Nat) (t_depths : (Nat → Int32)) (t_likes : (Nat → Int32)) (t_ways : (Nat → Int64)) (v1 : Int32) : xf_rf_findLikes_27 t_items t_letters t_lines t_names t_numbers t_parts t_sorts t_values n (N + 1) t_depths t_likes t_ways v1 = (
    if v1 < (Int32.ofNat 40) then
      (xf_rf_findLikes_35 t_items t_letters t_lines t_names t_numbers t_parts t_sorts t_values (xf_rf_findLikes_27 t_items t_letters t_lines t_names t_numbers t_parts t_sorts t_values n N) n n t_depths t_likes t_ways v1 (Int32.ofNat 0))
    else
      some ((), t_depths, t_likes, t_ways)) := rfl
theorem xf_rf_findLikes_6_s (t_items : (Nat → Int32)) (t_letters : (Nat → Int32)) (t_lines : (Nat → Int32)) (t_names : (Nat → Int32)) (t_numbers : (Nat → Int32)) (t_parts : (Nat → Int32)) (t_sorts : (Nat → Int32)) (t_values : (Nat → Int32)) (n : Nat) (N : Nat) (t_depths : (Nat → Int32)) (t_likes : (Nat → Int32)) (t_ways : (Nat → Int64)) (v1 : Int32) : xf_rf_findLikes_6 t_items t_letters t_lines t_names t_numbers t_parts t_sorts t_values n (N + 1) t_depths t_likes t_ways v1 = (
    if v1 < (Int32.ofNat 40) then
      (if xr_in v1 40 = true then
        ((xf_rf_findLikes_6 t_items t_letters t_lines t_names t_numbers t_parts t_sorts t_values n N) t_depths (upd t_likes v1.toNatClampNeg v1) t_ways (v1 + (Int32.ofNat 1)))
      else none)
    else
      xf_rf_findLikes_27 t_items t_letters t_lines t_names t_numbers t_parts t_sorts t_values n n t_depths t_likes t_ways (Int32.ofNat 0)) := rfl
theorem xf_rf_findLikes_s (t_items : (Nat → Int32)) (t_letters : (Nat → Int32)) (t_lines : (Nat → Int32)) (t_names : (Nat → Int32)) (t_numbers : (Nat → Int32)) (t_parts : (Nat → Int32)) (t_sorts : (Nat → Int32)) (t_values : (Nat → Int32)) (n : Nat) (t_depths : (Nat → Int32)) (t_likes : (Nat → Int32)) (t_ways : (Nat → Int64)) : xf_rf_findLikes t_items t_letters t_lines t_names t_numbers t_parts t_sorts t_values n t_depths t_likes t_ways = (
  (xf_rf_findDepths t_items t_lines t_numbers t_parts t_sorts t_values n t_depths t_ways).bind fun q1183 =>
  xf_rf_findLikes_6 t_items t_letters t_lines t_names t_numbers t_parts t_sorts t_values n n q1183.2.1 t_likes q1183.2.2 (Int32.ofNat 0)) := rfl
theorem xf_rf_alike_71_s (t_items : (Nat → Int32)) (t_letters : (Nat → Int32)) (t_lines : (Nat → Int32)) (t_names : (Nat → Int32)) (t_numbers : (Nat → Int32)) (t_parts : (Nat → Int32)) (t_sorts : (Nat → Int32)) (t_values : (Nat → Int32)) (n : Nat) (t_depths : (Nat → Int32)) (t_likes : (Nat → Int32)) (t_thrown : Int32) (t_ways : (Nat → Int64)) (s0 : Int32) : xf_rf_alike_71 t_items t_letters t_lines t_names t_numbers t_parts t_sorts t_values n t_depths t_likes t_thrown t_ways s0 = (
  if fits .boolean (.int s0) = true then some (s0, t_depths, t_likes, t_thrown, t_ways) else none) := rfl
theorem xf_rf_alike_37_s (t_items : (Nat → Int32)) (t_letters : (Nat → Int32)) (t_lines : (Nat → Int32)) (t_names : (Nat → Int32)) (t_numbers : (Nat → Int32)) (t_parts : (Nat → Int32)) (t_sorts : (Nat → Int32)) (t_values : (Nat → Int32)) (n : Nat) (t_depths : (Nat → Int32)) (t_likes : (Nat → Int32)) (t_thrown : Int32) (t_ways : (Nat → Int64)) (v3 : Int32) (v4 : Int32) (s1 : Int32) : xf_rf_alike_37 t_items t_letters t_lines t_names t_numbers t_parts t_sorts t_values n t_depths t_likes t_thrown t_ways v3 v4 s1 = (
  (xf_rf_fails t_thrown s1 (Int32.ofNat 1)).bind fun q1181 =>
  if q1181.1 = (Int32.ofNat 0) then
    ((xf_rf_findLikes t_items t_letters t_lines t_names t_numbers t_parts t_sorts t_values n t_depths t_likes t_ways).bind fun q1261 =>
    if xr_in v3 40 = true then
      (if xr_in v4 40 = true then
        (if (q1261.2.2.1 v3.toNatClampNeg) = (q1261.2.2.1 v4.toNatClampNeg) then
          (xf_rf_alike_71 t_items t_letters t_lines t_names t_numbers t_parts t_sorts t_values n q1261.2.1 q1261.2.2.1 q1181.2 q1261.2.2.2 (Int32.ofNat 1))
        else
          xf_rf_alike_71 t_items t_letters t_lines t_names t_numbers t_parts t_sorts t_values n q1261.2.1 q1261.2.2.1 q1181.2 q1261.2.2.2 (Int32.ofNat 0))
      else none)
    else none)
  else
    some ((Int32.ofNat 0), t_depths, t_likes, q1181.2, t_ways)) := rfl
theorem xf_rf_alike_32_s (t_items : (Nat → Int32)) (t_letters : (Nat → Int32)) (t_lines : (Nat → Int32)) (t_names : (Nat → Int32)) (t_numbers : (Nat → Int32)) (t_parts : (Nat → Int32)) (t_sorts : (Nat → Int32)) (t_values : (Nat → Int32)) (n : Nat) (t_depths : (Nat → Int32)) (t_likes : (Nat → Int32)) (t_thrown : Int32) (t_ways : (Nat → Int64)) (v3 : Int32) (v4 : Int32) : xf_rf_alike_32 t_items t_letters t_lines t_names t_numbers t_parts t_sorts t_values n t_depths t_likes t_thrown t_ways v3 v4 = (
  xf_rf_alike_37 t_items t_letters t_lines t_names t_numbers t_parts t_sorts t_values n t_depths t_likes t_thrown t_ways v3 v4 (Int32.ofNat 1)) := rfl
theorem xf_rf_alike_s (t_items : (Nat → Int32)) (t_letters : (Nat → Int32)) (t_lines : (Nat → Int32)) (t_names : (Nat → Int32)) (t_numbers : (Nat → Int32)) (t_parts : (Nat → Int32)) (t_sorts : (Nat → Int32)) (t_values : (Nat → Int32)) (n : Nat) (t_depths : (Nat → Int32)) (t_likes : (Nat → Int32)) (t_thrown : Int32) (t_ways : (Nat → Int64)) (a1 : Int32) (a2 : Int32) : xf_rf_alike t_items t_letters t_lines t_names t_numbers t_parts t_sorts t_values n t_depths t_likes t_thrown t_ways a1 a2 = (
  (xf_rf_find t_lines t_numbers n (Int32.ofNat 0) a1).bind fun q1178 =>
  (xf_rf_find t_lines t_numbers n (Int32.ofNat 0) a2).bind fun q1179 =>
  if q1178 = (-1 : Int32) then
    (xf_rf_alike_32 t_items t_letters t_lines t_names t_numbers t_parts t_sorts t_values n t_depths t_likes (Int32.ofNat 0) t_ways q1178 q1179)
  else
    if q1179 = (-1 : Int32) then
      (xf_rf_alike_32 t_items t_letters t_lines t_names t_numbers t_parts t_sorts t_values n t_depths t_likes (Int32.ofNat 0) t_ways q1178 q1179)
    else
      xf_rf_alike_37 t_items t_letters t_lines t_names t_numbers t_parts t_sorts t_values n t_depths t_likes (Int32.ofNat 0) t_ways q1178 q1179 (Int32.ofNat 0)) := rfl
theorem xf_rf_join_128_s (k11 : (Nat → Int32) → (Nat → Int32) → (Nat → Int32) → (Nat → Int32) → (Nat → Int32) → (Nat → Int32) → (Nat → Int32) → (Nat → Int32) → (Nat → Int32) → Int32 → (Nat → Int32) → (Nat → Int64) → Int32 → Option (Int32 × (Nat → Int32) × (Nat → Int32) × (Nat → Int32) × (Nat → Int32) × (Nat → Int32) × (Nat → Int32) × (Nat → Int32) × (Nat → Int32) × (Nat → Int32) × Int32 × (Nat → Int32) × (Nat → Int64))) (k26 : (Nat → Int32) → (Nat → Int32) → (Nat → Int32) → (Nat → Int32) → (Nat → Int32) → (Nat → Int32) → (Nat → Int32) → (Nat → Int32) → (Nat → Int32) → Int32 → (Nat → Int32) → (Nat → Int64) → Int32 → Int32 → Option (Int32 × (Nat → Int32) × (Nat → Int32) × (Nat → Int32) × (Nat → Int32) × (Nat → Int32) × (Nat → Int32) × (Nat → Int32) × (Nat → Int32) × (Nat → Int32) × Int32 × (Nat → Int32) × (Nat → Int64))) (n : Nat) (t_depths : (Nat → Int32)) (t_items : (Nat → Int32)) (t_letters : (Nat → Int32)) (t_likes : (Nat → Int32)) (t_lines : (Nat → Int32)) (t_names : (Nat → Int32)) (t_numbers : (Nat → Int32)) (t_parts : (Nat → Int32)) (t_sorts : (Nat → Int32)) (t_thrown : Int32) (t_values : (Nat → Int32)) (t_ways : (Nat → Int64)) (v1 : Int32) (v2 : Int32) : xf_rf_join_128 k11 k26 n t_depths t_items t_letters t_likes t_lines t_names t_numbers t_parts t_sorts t_thrown t_values t_ways v1 v2 = (
  k26 t_depths t_items t_letters t_likes t_lines t_names t_numbers t_parts t_sorts t_thrown t_values t_ways v1 (v2 + (Int32.ofNat 1))) := rfl
theorem xf_rf_join_75_s (k11 : (Nat → Int32) → (Nat → Int32) → (Nat → Int32) → (Nat → Int32) → (Nat → Int32) → (Nat → Int32) → (Nat → Int32) → (Nat → Int32) → (Nat → Int32) → Int32 → (Nat → Int32) → (Nat → Int64) → Int32 → Option (Int32 × (Nat → Int32) × (Nat → Int32) × (Nat → Int32) × (Nat → Int32) × (Nat → Int32) × (Nat → Int32) × (Nat → Int32) × (Nat → Int32) × (Nat → Int32) × Int32 × (Nat → Int32) × (Nat → Int64))) (k26 : (Nat → Int32) → (Nat → Int32) → (Nat → Int32) → (Nat → Int32) → (Nat → Int32) → (Nat → Int32) → (Nat → Int32) → (Nat → Int32) → (Nat → Int32) → Int32 → (Nat → Int32) → (Nat → Int64) → Int32 → Int32 → Option (Int32 × (Nat → Int32) × (Nat → Int32) × (Nat → Int32) × (Nat → Int32) × (Nat → Int32) × (Nat → Int32) × (Nat → Int32) × (Nat → Int32) × (Nat → Int32) × Int32 × (Nat → Int32) × (Nat → Int64))) (n : Nat) (N : Nat) (t_depths : (Nat → Int32)) (t_items : (Nat → Int32)) (t_letters : (Nat → Int32)) (t_likes : (Nat → Int32)) (t_lines : (Nat → Int32)) (t_names : (Nat → Int32)) (t_numbers : (Nat → Int32)) (t_parts : (Nat → Int32)) (t_sorts : (Nat → Int32)) (t_thrown : Int32) (t_values : (Nat → Int32)) (t_ways : (Nat → Int64)) (v1 : Int32) (v2 : Int32) (v3 : Int32) : xf_rf_join_75 k11 k26 n (N + 1) t_depths t_items t_letters t_likes t_lines t_names t_numbers t_parts t_sorts t_thrown t_values t_ways v1 v2 v3 = (
    if xr_in v2 960 = true then
      (if v3 < (t_values v2.toNatClampNeg) then
        (if xr_in v2 960 = true then
          (if (t_sorts v2.toNatClampNeg) = (Int32.ofNat 4) then
            ((xf_rf_referred t_items t_lines t_numbers t_sorts t_values n v2 v3).bind fun q1281 =>
            if xr_in q1281 40 = true then
              (if xr_in (t_likes q1281.toNatClampNeg) 120 = true then
                (if xr_in (((Int32.ofNat 20) * v2) + v3) 19200 = true then
                  ((xf_rf_join_75 k11 k26 n N) t_depths (upd t_items (((Int32.ofNat 20) * v2) + v3).toNatClampNeg ((t_numbers (t_likes q1281.toNatClampNeg).toNatClampNeg))) t_letters t_likes t_lines t_names t_numbers t_parts t_sorts t_thrown t_values t_ways v1 v2 (v3 + (Int32.ofNat 1)))
                else none)
              else none)
            else none)
          else
            xf_rf_join_128 k11 k26 n t_depths t_items t_letters t_likes t_lines t_names t_numbers t_parts t_sorts t_thrown t_values t_ways v1 v2)
        else none)
      else
        xf_rf_join_128 k11 k26 n t_depths t_items t_letters t_likes t_lines t_names t_numbers t_parts t_sorts t_thrown t_values t_ways v1 v2)
    else none) := rfl
theorem xf_rf_join_73_s (k11 : (Nat → Int32) → (Nat → Int32) → (Nat → Int32) → (Nat → Int32) → (Nat → Int32) → (Nat → Int32) → (Nat → Int32) → (Nat → Int32) → (Nat → Int32) → Int32 → (Nat → Int32) → (Nat → Int64) → Int32 → Option (Int32 × (Nat → Int32) × (Nat → Int32) × (Nat → Int32) × (Nat → Int32) × (Nat → Int32) × (Nat → Int32) × (Nat → Int32) × (Nat → Int32) × (Nat → Int32) × Int32 × (Nat → Int32) × (Nat → Int64))) (k26 : (Nat → Int32) → (Nat → Int32) → (Nat → Int32) → (Nat → Int32) → (Nat → Int32) → (Nat → Int32) → (Nat → Int32) → (Nat → Int32) → (Nat → Int32) → Int32 → (Nat → Int32) → (Nat → Int64) → Int32 → Int32 → Option (Int32 × (Nat → Int32) × (Nat → Int32) × (Nat → Int32) × (Nat → Int32) × (Nat → Int32) × (Nat → Int32) × (Nat → Int32) × (Nat → Int32) × (Nat → Int32) × Int32 × (Nat → Int32) × (Nat → Int64))) (n : Nat) (t_depths : (Nat → Int32)) (t_items : (Nat → Int32)) (t_letters : (Nat → Int32)) (t_likes : (Nat → Int32)) (t_lines : (Nat → Int32)) (t_names : (Nat → Int32)) (t_numbers : (Nat → Int32)) (t_parts : (Nat → Int32)) (t_sorts : (Nat → Int32)) (t_thrown : Int32) (t_values : (Nat → Int32)) (t_ways : (Nat → Int64)) (v1 : Int32) (v2 : Int32) : xf_rf_join_73 k11 k26 n t_depths t_items t_letters t_likes t_lines t_names t_numbers t_parts t_sorts t_thrown t_values t_ways v1 v2 = (
  xf_rf_join_75 k11 k26 n n t_depths t_items t_letters t_likes t_lines t_names t_numbers t_parts t_sorts t_thrown t_values t_ways v1 v2 (Int32.ofNat 0)) := rfl
theorem xf_rf_join_26_s (k11 : (Nat → Int32) → (Nat → Int32) → (Nat → Int32) → (Nat → Int32) → (Nat → Int32) → (Nat → Int32) → (Nat → Int32) → (Nat → Int32) → (Nat → Int32) → Int32 → (Nat → Int32) → (Nat → Int64) → Int32 → Option (Int32 × (Nat → Int32) × (Nat → Int32) × (Nat → Int32) × (Nat → Int32) × (Nat → Int32) × (Nat → Int32) × (Nat → Int32) × (Nat → Int32) × (Nat → Int32) × Int32 × (Nat → Int32) × (Nat → Int64))) (n : Nat) (N : Nat) (t_depths : (Nat → Int32)) (t_items : (Nat → Int32)) (t_letters : (Nat → Int32)) (t_likes : (Nat → Int32)) (t_lines : (Nat → Int32)) (t_names : (Nat → Int32)) (t_numbers : (Nat → Int32)) (t_parts : (Nat → Int32)) (t_sorts : (Nat → Int32)) (t_thrown : Int32) (t_values : (Nat → Int32)) (t_ways : (Nat → Int64)) (v1 : Int32) (v2 : Int32) : xf_rf_join_26 k11 n (N + 1) t_depths t_items t_letters t_likes t_lines t_names t_numbers t_parts t_sorts t_thrown t_values t_ways v1 v2 = (
    if xr_in v1 120 = true then
      (if v2 < (((Int32.ofNat 8) * v1) + (t_parts v1.toNatClampNeg)) then
        (if xr_in v2 960 = true then
          (if (t_sorts v2.toNatClampNeg) = (Int32.ofNat 2) then
            ((xf_rf_referred t_items t_lines t_numbers t_sorts t_values n v2 (Int32.ofNat 0)).bind fun q1273 =>
            if xr_in q1273 40 = true then
              (if xr_in (t_likes q1273.toNatClampNeg) 120 = true then
                (if xr_in v2 960 = true then
                  (xf_rf_join_73 k11 (xf_rf_join_26 k11 n N) n t_depths t_items t_letters t_likes t_lines t_names t_numbers t_parts t_sorts t_thrown (upd t_values v2.toNatClampNeg ((t_numbers (t_likes q1273.toNatClampNeg).toNatClampNeg))) t_ways v1 v2)
                else none)
              else none)
            else none)
          else
            xf_rf_join_73 k11 (xf_rf_join_26 k11 n N) n t_depths t_items t_letters t_likes t_lines t_names t_numbers t_parts t_sorts t_thrown t_values t_ways v1 v2)
        else none)
      else
        k11 t_depths t_items t_letters t_likes t_lines t_names t_numbers t_parts t_sorts t_thrown t_values t_ways (v1 + (Int32.ofNat 1)))
    else none) := rfl
theorem xf_rf_join_181_s (k146 : (Nat → Int32) → (Nat → Int32) → (Nat → Int32) → (Nat → Int32) → (Nat → Int32) → (Nat → Int32) → (Nat → Int32) → (Nat → Int32) → (Nat → Int32) → Int32 → (Nat → Int32) → (Nat → Int64) → Int32 → Int32 → Int32 → Option (Int32 × (Nat → Int32) × (Nat → Int32) × (Nat → Int32) × (Nat → Int32) × (Nat → Int32) × (Nat → Int32) × (Nat → Int32) × (Nat → Int32) × (Nat → Int32) × Int32 × (Nat → Int32) × (Nat → Int64))) (n : Nat) (t_depths : (Nat → Int32)) (t_items : (Nat → Int32)) (t_letters : (Nat → Int32)) (t_likes : (Nat → Int32)) (t_lines : (Nat → Int32)) (t_names : (Nat → Int32)) (t_numbers : (Nat → Int32)) (t_parts : (Nat → Int32)) (t_sorts : (Nat → Int32)) (t_thrown : Int32) (t_values : (Nat → Int32)) (t_ways : (Nat → Int64)) (v1 : Int32) (v2 : Int32) (v3 : Int32) : xf_rf_join_181 k146 n t_depths t_items t_letters t_likes t_lines t_names t_numbers t_parts t_sorts t_thrown t_values t_ways v1 v2 v3 = (
  k146 t_depths t_items t_letters t_likes t_lines t_names t_numbers t_parts t_sorts t_thrown t_values t_ways v1 v2 (v3 + (Int32.ofNat 1))) := rfl
theorem xf_rf_join_146_s (n : Nat) (N : Nat) (t_depths : (Nat → Int32)) (t_items : (Nat → Int32)) (t_letters : (Nat → Int32)) (t_likes : (Nat → Int32)) (t_lines : (Nat → Int32)) (t_names : (Nat → Int32)) (t_numbers : (Nat → Int32)) (t_parts : (Nat → Int32)) (t_sorts : (Nat → Int32)) (t_thrown : Int32) (t_values : (Nat → Int32)) (t_ways : (Nat → Int64)) (v1 : Int32) (v2 : Int32) (v3 : Int32) : xf_rf_join_146 n (N + 1) t_depths t_items t_letters t_likes t_lines t_names t_numbers t_parts t_sorts t_thrown t_values t_ways v1 v2 v3 = (
    if v3 < (t_lines (Int32.ofNat 0).toNatClampNeg) then
      (if xr_in v3 40 = true then
        (if (t_likes v3.toNatClampNeg) = v3 then
          ((xf_rf_copy n t_items t_letters t_names t_numbers t_parts t_sorts t_values v2 v3).bind fun q1288 =>
          xf_rf_join_181 (xf_rf_join_146 n N) n t_depths q1288.2.1 q1288.2.2.1 t_likes t_lines q1288.2.2.2.1 q1288.2.2.2.2.1 q1288.2.2.2.2.2.1 q1288.2.2.2.2.2.2.1 t_thrown q1288.2.2.2.2.2.2.2 t_ways v1 (v2 + (Int32.ofNat 1)) v3)
        else
          xf_rf_join_181 (xf_rf_join_146 n N) n t_depths t_items t_letters t_likes t_lines t_names t_numbers t_parts t_sorts t_thrown t_values t_ways (v1 + (Int32.ofNat 1)) v2 v3)
      else none)
    else
      some (v1, t_depths, t_items, t_letters, t_likes, upd t_lines (Int32.ofNat 0).toNatClampNeg v2, t_names, t_numbers, t_parts, t_sorts, t_thrown, t_values, t_ways)) := rfl
theorem xf_rf_join_11_s (n : Nat) (N : Nat) (t_depths : (Nat → Int32)) (t_items : (Nat → Int32)) (t_letters : (Nat → Int32)) (t_likes : (Nat → Int32)) (t_lines : (Nat → Int32)) (t_names : (Nat → Int32)) (t_numbers : (Nat → Int32)) (t_parts : (Nat → Int32)) (t_sorts : (Nat → Int32)) (t_thrown : Int32) (t_values : (Nat → Int32)) (t_ways : (Nat → Int64)) (v1 : Int32) : xf_rf_join_11 n (N + 1) t_depths t_items t_letters t_likes t_lines t_names t_numbers t_parts t_sorts t_thrown t_values t_ways v1 = (
    if v1 < (t_lines (Int32.ofNat 0).toNatClampNeg) then
      (xf_rf_join_26 (xf_rf_join_11 n N) n n t_depths t_items t_letters t_likes t_lines t_names t_numbers t_parts t_sorts t_thrown t_values t_ways v1 ((Int32.ofNat 8) * v1))
    else
      xf_rf_join_146 n n t_depths t_items t_letters t_likes t_lines t_names t_numbers t_parts t_sorts t_thrown t_values t_ways (Int32.ofNat 0) (Int32.ofNat 0) (Int32.ofNat 0)) := rfl
theorem xf_rf_join_s (n : Nat) (t_depths : (Nat → Int32)) (t_items : (Nat → Int32)) (t_letters : (Nat → Int32)) (t_likes : (Nat → Int32)) (t_lines : (Nat → Int32)) (t_names : (Nat → Int32)) (t_numbers : (Nat → Int32)) (t_parts : (Nat → Int32)) (t_sorts : (Nat → Int32)) (t_thrown : Int32) (t_values : (Nat → Int32)) (t_ways : (Nat → Int64)) : xf_rf_join n t_depths t_items t_letters t_likes t_lines t_names t_numbers t_parts t_sorts t_thrown t_values t_ways = (
  (xf_rf_findLikes t_items t_letters t_lines t_names t_numbers t_parts t_sorts t_values n t_depths t_likes t_ways).bind fun q1267 =>
  xf_rf_join_11 n n q1267.2.1 t_items t_letters q1267.2.2.1 t_lines t_names t_numbers t_parts t_sorts (Int32.ofNat 0) t_values q1267.2.2.2 (Int32.ofNat 0)) := rfl
theorem xf_rf_differs_145_s (t_items : (Nat → Int32)) (t_letters : (Nat → Int32)) (t_lines : (Nat → Int32)) (t_names : (Nat → Int32)) (t_numbers : (Nat → Int32)) (t_parts : (Nat → Int32)) (t_sorts : (Nat → Int32)) (t_values : (Nat → Int32)) (k38 : Int32 → Int32 → Int32 → Int32 → Option (Int32 × Int32)) (n : Nat) (t_thrown : Int32) (v2 : Int32) (v3 : Int32) (v4 : Int32) : xf_rf_differs_145 t_items t_letters t_lines t_names t_numbers t_parts t_sorts t_values k38 n t_thrown v2 v3 v4 = (
  k38 t_thrown v2 v3 (v4 + (Int32.ofNat 1))) := rfl
theorem xf_rf_differs_141_s (t_items : (Nat → Int32)) (t_letters : (Nat → Int32)) (t_lines : (Nat → Int32)) (t_names : (Nat → Int32)) (t_numbers : (Nat → Int32)) (t_parts : (Nat → Int32)) (t_sorts : (Nat → Int32)) (t_values : (Nat → Int32)) (n : Nat) (t_thrown : Int32) (s0 : Int32) : xf_rf_differs_141 t_items t_letters t_lines t_names t_numbers t_parts t_sorts t_values n t_thrown s0 = (
  some (s0, t_thrown)) := rfl
theorem xf_rf_differs_116_s (t_items : (Nat → Int32)) (t_letters : (Nat → Int32)) (t_lines : (Nat → Int32)) (t_names : (Nat → Int32)) (t_numbers : (Nat → Int32)) (t_parts : (Nat → Int32)) (t_sorts : (Nat → Int32)) (t_values : (Nat → Int32)) (k38 : Int32 → Int32 → Int32 → Int32 → Option (Int32 × Int32)) (n : Nat) (t_thrown : Int32) (v2 : Int32) (v3 : Int32) (v4 : Int32) (s0 : Int32) : xf_rf_differs_116 t_items t_letters t_lines t_names t_numbers t_parts t_sorts t_values k38 n t_thrown v2 v3 v4 s0 = (
  if s0 = (Int32.ofNat 0) then
    (xf_rf_differs_145 t_items t_letters t_lines t_names t_numbers t_parts t_sorts t_values k38 n t_thrown v2 v3 v4)
  else
    if v3 = (Int32.ofNat 0) then
      (if v2 = (Int32.ofNat 0) then
        (xf_rf_differs_141 t_items t_letters t_lines t_names t_numbers t_parts t_sorts t_values n t_thrown v4)
      else
        xf_rf_differs_141 t_items t_letters t_lines t_names t_numbers t_parts t_sorts t_values n t_thrown s0)
    else
      xf_rf_differs_145 t_items t_letters t_lines t_names t_numbers t_parts t_sorts t_values k38 n t_thrown v2 (v3 + (-1 : Int32)) v4) := rfl
theorem xf_rf_isLineSame_243_s (t_items : (Nat → Int32)) (t_letters : (Nat → Int32)) (t_names : (Nat → Int32)) (t_parts : (Nat → Int32)) (t_sorts : (Nat → Int32)) (t_values : (Nat → Int32)) (n : Nat) (v3 : Int32) : xf_rf_isLineSame_243 t_items t_letters t_names t_parts t_sorts t_values n v3 = (
  if fits .boolean (.int v3) = true then some v3 else none) := rfl
theorem xf_rf_isLineSame_236_s (t_items : (Nat → Int32)) (t_letters : (Nat → Int32)) (t_names : (Nat → Int32)) (t_parts : (Nat → Int32)) (t_sorts : (Nat → Int32)) (t_values : (Nat → Int32)) (k67 : Int32 → Int32 → Int32 → Int32 → Option (Int32)) (n : Nat) (v1 : Int32) (v2 : Int32) (v4 : Int32) (s0 : Int32) : xf_rf_isLineSame_236 t_items t_letters t_names t_parts t_sorts t_values k67 n v1 v2 v4 s0 = (
  k67 v1 v2 s0 (v4 + (Int32.ofNat 1))) := rfl
theorem xf_rf_isLineSame_235_s (t_items : (Nat → Int32)) (t_letters : (Nat → Int32)) (t_names : (Nat → Int32)) (t_parts : (Nat → Int32)) (t_sorts : (Nat → Int32)) (t_values : (Nat → Int32)) (k67 : Int32 → Int32 → Int32 → Int32 → Option (Int32)) (n : Nat) (v1 : Int32) (v2 : Int32) (v4 : Int32) : xf_rf_isLineSame_235 t_items t_letters t_names t_parts t_sorts t_values k67 n v1 v2 v4 = (
  xf_rf_isLineSame_236 t_items t_letters t_names t_parts t_sorts t_values k67 n v1 v2 v4 (Int32.ofNat 0)) := rfl
theorem xf_rf_isLineSame_231_s (t_items : (Nat → Int32)) (t_letters : (Nat → Int32)) (t_names : (Nat → Int32)) (t_parts : (Nat → Int32)) (t_sorts : (Nat → Int32)) (t_values : (Nat → Int32)) (k67 : Int32 → Int32 → Int32 → Int32 → Option (Int32)) (n : Nat) (v1 : Int32) (v2 : Int32) (v4 : Int32) : xf_rf_isLineSame_231 t_items t_letters t_names t_parts t_sorts t_values k67 n v1 v2 v4 = (
  xf_rf_isLineSame_236 t_items t_letters t_names t_parts t_sorts t_values k67 n v1 v2 v4 (Int32.ofNat 1)) := rfl
theorem xf_rf_isLineSame_189_s (t_items : (Nat → Int32)) (t_letters : (Nat → Int32)) (t_names : (Nat → Int32)) (t_parts : (Nat → Int32)) (t_sorts : (Nat → Int32)) (t_values : (Nat → Int32)) (k67 : Int32 → Int32 → Int32 → Int32 → Option (Int32)) (n : Nat) (v1 : Int32) (v2 : Int32) (v3 : Int32) (v4 : Int32) (v5 : Int32) (v6 : Int32) (s0 : Int32) : xf_rf_isLineSame_189 t_items t_letters t_names t_parts t_sorts t_values k67 n v1 v2 v3 v4 v5 v6 s0 = (
  if v3 = (Int32.ofNat 0) then
    (xf_rf_isLineSame_235 t_items t_letters t_names t_parts t_sorts t_values k67 n v1 v2 v4)
  else
    if s0 = (Int32.ofNat 0) then
      (xf_rf_isLineSame_231 t_items t_letters t_names t_parts t_sorts t_values k67 n v1 v2 v4)
    else
      if xr_in v5 960 = true then
        ((xf_rf_isSame t_items t_items 19200 19200 n ((Int32.ofNat 20) * v5) ((Int32.ofNat 20) * v6) (t_values v5.toNatClampNeg)).bind fun q1326 =>
        if q1326 = (Int32.ofNat 0) then
          (xf_rf_isLineSame_235 t_items t_letters t_names t_parts t_sorts t_values k67 n v1 v2 v4)
        else
          xf_rf_isLineSame_231 t_items t_letters t_names t_parts t_sorts t_values k67 n v1 v2 v4)
      else none) := rfl
theorem xf_rf_isLineSame_184_s (t_items : (Nat → Int32)) (t_letters : (Nat → Int32)) (t_names : (Nat → Int32)) (t_parts : (Nat → Int32)) (t_sorts : (Nat → Int32)) (t_values : (Nat → Int32)) (k67 : Int32 → Int32 → Int32 → Int32 → Option (Int32)) (n : Nat) (v1 : Int32) (v2 : Int32) (v3 : Int32) (v4 : Int32) (v5 : Int32) (v6 : Int32) : xf_rf_isLineSame_184 t_items t_letters t_names t_parts t_sorts t_values k67 n v1 v2 v3 v4 v5 v6 = (
  xf_rf_isLineSame_189 t_items t_letters t_names t_parts t_sorts t_values k67 n v1 v2 v3 v4 v5 v6 (Int32.ofNat 1)) := rfl
theorem xf_rf_isLineSame_139_s (t_items : (Nat → Int32)) (t_letters : (Nat → Int32)) (t_names : (Nat → Int32)) (t_parts : (Nat → Int32)) (t_sorts : (Nat → Int32)) (t_values : (Nat → Int32)) (k67 : Int32 → Int32 → Int32 → Int32 → Option (Int32)) (n : Nat) (v1 : Int32) (v2 : Int32) (v4 : Int32) (v5 : Int32) (v6 : Int32) (s0 : Int32) : xf_rf_isLineSame_139 t_items t_letters t_names t_parts t_sorts t_values k67 n v1 v2 v4 v5 v6 s0 = (
  if xr_in v5 960 = true then
    (if (t_sorts v5.toNatClampNeg) = (Int32.ofNat 1) then
      (xf_rf_isLineSame_184 t_items t_letters t_names t_parts t_sorts t_values k67 n v1 v2 s0 v4 v5 v6)
    else
      if xr_in v5 960 = true then
        (if (t_sorts v5.toNatClampNeg) = (Int32.ofNat 5) then
          (xf_rf_isLineSame_184 t_items t_letters t_names t_parts t_sorts t_values k67 n v1 v2 s0 v4 v5 v6)
        else
          if xr_in v5 960 = true then
            (if (t_sorts v5.toNatClampNeg) = (Int32.ofNat 3) then
              (xf_rf_isLineSame_184 t_items t_letters t_names t_parts t_sorts t_values k67 n v1 v2 s0 v4 v5 v6)
            else
              if xr_in v5 960 = true then
                (if (t_sorts v5.toNatClampNeg) = (Int32.ofNat 4) then
                  (xf_rf_isLineSame_184 t_items t_letters t_names t_parts t_sorts t_values k67 n v1 v2 s0 v4 v5 v6)
                else
                  xf_rf_isLineSame_189 t_items t_letters t_names t_parts t_sorts t_values k67 n v1 v2 s0 v4 v5 v6 (Int32.ofNat 0))
              else none)
          else none)
      else none)
  else none) := rfl
theorem xf_rf_isLineSame_138_s (t_items : (Nat → Int32)) (t_letters : (Nat → Int32)) (t_names : (Nat → Int32)) (t_parts : (Nat → Int32)) (t_sorts : (Nat → Int32)) (t_values : (Nat → Int32)) (k67 : Int32 → Int32 → Int32 → Int32 → Option (Int32)) (n : Nat) (v1 : Int32) (v2 : Int32) (v4 : Int32) (v5 : Int32) (v6 : Int32) : xf_rf_isLineSame_138 t_items t_letters t_names t_parts t_sorts t_values k67 n v1 v2 v4 v5 v6 = (
  xf_rf_isLineSame_139 t_items t_letters t_names t_parts t_sorts t_values k67 n v1 v2 v4 v5 v6 (Int32.ofNat 0)) := rfl
theorem xf_rf_isLineSame_67_s (t_items : (Nat → Int32)) (t_letters : (Nat → Int32)) (t_names : (Nat → Int32)) (t_parts : (Nat → Int32)) (t_sorts : (Nat → Int32)) (t_values : (Nat → Int32)) (n : Nat) (N : Nat) (v1 : Int32) (v2 : Int32) (v3 : Int32) (v4 : Int32) : xf_rf_isLineSame_67 t_items t_letters t_names t_parts t_sorts t_values n (N + 1) v1 v2 v3 v4 = (
    if xr_in v1 120 = true then
      (if v4 < (t_parts v1.toNatClampNeg) then
        (if v3 = (Int32.ofNat 0) then
          (xf_rf_isLineSame_243 t_items t_letters t_names t_parts t_sorts t_values n v3)
        else
          if xr_in (((Int32.ofNat 8) * v1) + v4) 960 = true then
            (if xr_in (((Int32.ofNat 8) * v2) + v4) 960 = true then
              (if (t_sorts (((Int32.ofNat 8) * v1) + v4).toNatClampNeg) = (t_sorts (((Int32.ofNat 8) * v2) + v4).toNatClampNeg) then
                (if xr_in (((Int32.ofNat 8) * v1) + v4) 960 = true then
                  (if xr_in (((Int32.ofNat 8) * v2) + v4) 960 = true then
                    (if (t_values (((Int32.ofNat 8) * v1) + v4).toNatClampNeg) = (t_values (((Int32.ofNat 8) * v2) + v4).toNatClampNeg) then
                      (xf_rf_isLineSame_139 t_items t_letters t_names t_parts t_sorts t_values (xf_rf_isLineSame_67 t_items t_letters t_names t_parts t_sorts t_values n N) n v1 v2 v4 (((Int32.ofNat 8) * v1) + v4) (((Int32.ofNat 8) * v2) + v4) (Int32.ofNat 1))
                    else
                      xf_rf_isLineSame_138 t_items t_letters t_names t_parts t_sorts t_values (xf_rf_isLineSame_67 t_items t_letters t_names t_parts t_sorts t_values n N) n v1 v2 v4 (((Int32.ofNat 8) * v1) + v4) (((Int32.ofNat 8) * v2) + v4))
                  else none)
                else none)
              else
                xf_rf_isLineSame_138 t_items t_letters t_names t_parts t_sorts t_values (xf_rf_isLineSame_67 t_items t_letters t_names t_parts t_sorts t_values n N) n v1 v2 v4 (((Int32.ofNat 8) * v1) + v4) (((Int32.ofNat 8) * v2) + v4))
            else none)
          else none)
      else
        xf_rf_isLineSame_243 t_items t_letters t_names t_parts t_sorts t_values n v3)
    else none) := rfl
theorem xf_rf_isLineSame_63_s (t_items : (Nat → Int32)) (t_letters : (Nat → Int32)) (t_names : (Nat → Int32)) (t_parts : (Nat → Int32)) (t_sorts : (Nat → Int32)) (t_values : (Nat → Int32)) (n : Nat) (v1 : Int32) (v2 : Int32) (s0 : Int32) : xf_rf_isLineSame_63 t_items t_letters t_names t_parts t_sorts t_values n v1 v2 s0 = (
  xf_rf_isLineSame_67 t_items t_letters t_names t_parts t_sorts t_values n n v1 v2 s0 (Int32.ofNat 0)) := rfl
theorem xf_rf_isLineSame_62_s (t_items : (Nat → Int32)) (t_letters : (Nat → Int32)) (t_names : (Nat → Int32)) (t_parts : (Nat → Int32)) (t_sorts : (Nat → Int32)) (t_values : (Nat → Int32)) (n : Nat) (v1 : Int32) (v2 : Int32) : xf_rf_isLineSame_62 t_items t_letters t_names t_parts t_sorts t_values n v1 v2 = (
  xf_rf_isLineSame_63 t_items t_letters t_names t_parts t_sorts t_values n v1 v2 (Int32.ofNat 0)) := rfl
theorem xf_rf_isLineSame_s (t_items : (Nat → Int32)) (t_letters : (Nat → Int32)) (t_names : (Nat → Int32)) (t_parts : (Nat → Int32)) (t_sorts : (Nat → Int32)) (t_values : (Nat → Int32)) (n : Nat) (a1 : Int32) (a2 : Int32) : xf_rf_isLineSame t_items t_letters t_names t_parts t_sorts t_values n a1 a2 = (
  if xr_in a1 120 = true then
    (if xr_in a2 120 = true then
      (if (t_letters a1.toNatClampNeg) = (t_letters a2.toNatClampNeg) then
        (if xr_in a1 120 = true then
          (if xr_in a2 120 = true then
            (if (t_parts a1.toNatClampNeg) = (t_parts a2.toNatClampNeg) then
              (if xr_in a1 120 = true then
                ((xf_rf_isSame t_names t_names 960 960 n ((Int32.ofNat 8) * a1) ((Int32.ofNat 8) * a2) (t_letters a1.toNatClampNeg)).bind fun q1309 =>
                if q1309 = (Int32.ofNat 0) then
                  (xf_rf_isLineSame_62 t_items t_letters t_names t_parts t_sorts t_values n a1 a2)
                else
                  xf_rf_isLineSame_63 t_items t_letters t_names t_parts t_sorts t_values n a1 a2 (Int32.ofNat 1))
              else none)
            else
              xf_rf_isLineSame_62 t_items t_letters t_names t_parts t_sorts t_values n a1 a2)
          else none)
        else none)
      else
        xf_rf_isLineSame_62 t_items t_letters t_names t_parts t_sorts t_values n a1 a2)
    else none)
  else none) := rfl
theorem xf_rf_differs_80_s (t_items : (Nat → Int32)) (t_letters : (Nat → Int32)) (t_lines : (Nat → Int32)) (t_names : (Nat → Int32)) (t_numbers : (Nat → Int32)) (t_parts : (Nat → Int32)) (t_sorts : (Nat → Int32)) (t_values : (Nat → Int32)) (k38 : Int32 → Int32 → Int32 → Int32 → Option (Int32 × Int32)) (n : Nat) (t_thrown : Int32) (v2 : Int32) (v3 : Int32) (v4 : Int32) (v5 : Int32) (v6 : Int32) : xf_rf_differs_80 t_items t_letters t_lines t_names t_numbers t_parts t_sorts t_values k38 n t_thrown v2 v3 v4 v5 v6 = (
  if v5 = (-1 : Int32) then
    (xf_rf_differs_116 t_items t_letters t_lines t_names t_numbers t_parts t_sorts t_values k38 n t_thrown v2 v3 v4 (Int32.ofNat 1))
  else
    if v6 = (-1 : Int32) then
      (xf_rf_differs_116 t_items t_letters t_lines t_names t_numbers t_parts t_sorts t_values k38 n t_thrown v2 v3 v4 (Int32.ofNat 2))
    else
      (xf_rf_isLineSame t_items t_letters t_names t_parts t_sorts t_values n v5 v6).bind fun q1334 =>
      if q1334 = (Int32.ofNat 0) then
        (xf_rf_differs_116 t_items t_letters t_lines t_names t_numbers t_parts t_sorts t_values k38 n t_thrown v2 v3 v4 (Int32.ofNat 3))
      else
        xf_rf_differs_116 t_items t_letters t_lines t_names t_numbers t_parts t_sorts t_values k38 n t_thrown v2 v3 v4 (Int32.ofNat 0)) := rfl
theorem xf_rf_differs_38_s (t_items : (Nat → Int32)) (t_letters : (Nat → Int32)) (t_lines : (Nat → Int32)) (t_names : (Nat → Int32)) (t_numbers : (Nat → Int32)) (t_parts : (Nat → Int32)) (t_sorts : (Nat → Int32)) (t_values : (Nat → Int32)) (n : Nat) (N : Nat) (t_thrown : Int32) (v2 : Int32) (v3 : Int32) (v4 : Int32) : xf_rf_differs_38 t_items t_letters t_lines t_names t_numbers t_parts t_sorts t_values n (N + 1) t_thrown v2 v3 v4 = (
    if v4 < (Int32.ofNat 1000) then
      ((xf_rf_find t_lines t_numbers n (Int32.ofNat 0) v4).bind fun q1293 =>
      (xf_rf_find t_lines t_numbers n (Int32.ofNat 2) v4).bind fun q1294 =>
      if q1293 = (-1 : Int32) then
        (if q1294 = (-1 : Int32) then
          (xf_rf_differs_116 t_items t_letters t_lines t_names t_numbers t_parts t_sorts t_values (xf_rf_differs_38 t_items t_letters t_lines t_names t_numbers t_parts t_sorts t_values n N) n t_thrown v2 v3 v4 (Int32.ofNat 0))
        else
          xf_rf_differs_80 t_items t_letters t_lines t_names t_numbers t_parts t_sorts t_values (xf_rf_differs_38 t_items t_letters t_lines t_names t_numbers t_parts t_sorts t_values n N) n t_thrown v2 v3 v4 q1293 q1294)
      else
        xf_rf_differs_80 t_items t_letters t_lines t_names t_numbers t_parts t_sorts t_values (xf_rf_differs_38 t_items t_letters t_lines t_names t_numbers t_parts t_sorts t_values n N) n t_thrown v2 v3 v4 q1293 q1294)
    else
      some ((-1 : Int32), t_thrown)) := rfl
theorem xf_rf_differs_24_s (t_items : (Nat → Int32)) (t_letters : (Nat → Int32)) (t_lines : (Nat → Int32)) (t_names : (Nat → Int32)) (t_numbers : (Nat → Int32)) (t_parts : (Nat → Int32)) (t_sorts : (Nat → Int32)) (t_values : (Nat → Int32)) (n : Nat) (t_thrown : Int32) (v1 : Int32) (v2 : Int32) (s1 : Int32) : xf_rf_differs_24 t_items t_letters t_lines t_names t_numbers t_parts t_sorts t_values n t_thrown v1 v2 s1 = (
  (xf_rf_fails t_thrown s1 (Int32.ofNat 1)).bind fun q1290 =>
  if q1290.1 = (Int32.ofNat 0) then
    (xf_rf_differs_38 t_items t_letters t_lines t_names t_numbers t_parts t_sorts t_values n n q1290.2 v2 v1 (Int32.ofNat 1))
  else
    some ((Int32.ofNat 0), q1290.2)) := rfl
theorem xf_rf_differs_19_s (t_items : (Nat → Int32)) (t_letters : (Nat → Int32)) (t_lines : (Nat → Int32)) (t_names : (Nat → Int32)) (t_numbers : (Nat → Int32)) (t_parts : (Nat → Int32)) (t_sorts : (Nat → Int32)) (t_values : (Nat → Int32)) (n : Nat) (t_thrown : Int32) (v1 : Int32) (v2 : Int32) : xf_rf_differs_19 t_items t_letters t_lines t_names t_numbers t_parts t_sorts t_values n t_thrown v1 v2 = (
  xf_rf_differs_24 t_items t_letters t_lines t_names t_numbers t_parts t_sorts t_values n t_thrown v1 v2 (Int32.ofNat 1)) := rfl
theorem xf_rf_differs_s (t_items : (Nat → Int32)) (t_letters : (Nat → Int32)) (t_lines : (Nat → Int32)) (t_names : (Nat → Int32)) (t_numbers : (Nat → Int32)) (t_parts : (Nat → Int32)) (t_sorts : (Nat → Int32)) (t_values : (Nat → Int32)) (n : Nat) (t_thrown : Int32) (a1 : Int32) (a2 : Int32) : xf_rf_differs t_items t_letters t_lines t_names t_numbers t_parts t_sorts t_values n t_thrown a1 a2 = (
  if a1 < (Int32.ofNat 0) then
    (xf_rf_differs_19 t_items t_letters t_lines t_names t_numbers t_parts t_sorts t_values n (Int32.ofNat 0) a1 a2)
  else
    if a2 < (Int32.ofNat 0) then
      (xf_rf_differs_19 t_items t_letters t_lines t_names t_numbers t_parts t_sorts t_values n (Int32.ofNat 0) a1 a2)
    else
      if (Int32.ofNat 1) < a2 then
        (xf_rf_differs_19 t_items t_letters t_lines t_names t_numbers t_parts t_sorts t_values n (Int32.ofNat 0) a1 a2)
      else
        xf_rf_differs_24 t_items t_letters t_lines t_names t_numbers t_parts t_sorts t_values n (Int32.ofNat 0) a1 a2 (Int32.ofNat 0)) := rfl
theorem xf_rf_count_74_s (t_kinds : (Nat → Int32)) (t_lines : (Nat → Int32)) (t_size : Int32) (t_thrown : Int32) (s0 : Int32) : xf_rf_count_74 t_kinds t_lines t_size t_thrown s0 = (
  some (s0, t_thrown)) := rfl
theorem xf_rf_count_20_s (t_kinds : (Nat → Int32)) (t_lines : (Nat → Int32)) (t_size : Int32) (t_thrown : Int32) (v1 : Int32) (s1 : Int32) : xf_rf_count_20 t_kinds t_lines t_size t_thrown v1 s1 = (
  (xf_rf_fails t_thrown s1 (Int32.ofNat 1)).bind fun q1339 =>
  if q1339.1 = (Int32.ofNat 0) then
    (if v1 = (Int32.ofNat 0) then
      (xf_rf_count_74 t_kinds t_lines t_size q1339.2 t_size)
    else
      if v1 = (Int32.ofNat 1) then
        (xf_rf_count_74 t_kinds t_lines t_size q1339.2 (t_kinds (Int32.ofNat 0).toNatClampNeg))
      else
        if v1 = (Int32.ofNat 2) then
          (xf_rf_count_74 t_kinds t_lines t_size q1339.2 (t_lines (Int32.ofNat 0).toNatClampNeg))
        else
          xf_rf_count_74 t_kinds t_lines t_size q1339.2 (t_lines (Int32.ofNat 2).toNatClampNeg))
  else
    some ((Int32.ofNat 0), q1339.2)) := rfl
theorem xf_rf_count_15_s (t_kinds : (Nat → Int32)) (t_lines : (Nat → Int32)) (t_size : Int32) (t_thrown : Int32) (v1 : Int32) : xf_rf_count_15 t_kinds t_lines t_size t_thrown v1 = (
  xf_rf_count_20 t_kinds t_lines t_size t_thrown v1 (Int32.ofNat 1)) := rfl
theorem xf_rf_count_s (t_kinds : (Nat → Int32)) (t_lines : (Nat → Int32)) (t_size : Int32) (t_thrown : Int32) (a1 : Int32) : xf_rf_count t_kinds t_lines t_size t_thrown a1 = (
  if a1 < (Int32.ofNat 0) then
    (xf_rf_count_15 t_kinds t_lines t_size (Int32.ofNat 0) a1)
  else
    if (Int32.ofNat 3) < a1 then
      (xf_rf_count_15 t_kinds t_lines t_size (Int32.ofNat 0) a1)
    else
      xf_rf_count_20 t_kinds t_lines t_size (Int32.ofNat 0) a1 (Int32.ofNat 0)) := rfl
theorem xf_xt_say_59_s (k6 : Int32 → Int32 → (Nat → Int32) → Int64 → Int32 → Int32 → Option ((Int32 ⊕ String) × Int32 × Int32 × (Nat → Int32))) (n : Nat) (t_text_full : Int32) (t_text_length : Int32) (t_text_signs : (Nat → Int32)) (v1 : Int64) (v4 : Int32) (s0 : Int32) (s1 : Int32) : xf_xt_say_59 k6 n t_text_full t_text_length t_text_signs v1 v4 s0 s1 = (
  k6 t_text_full t_text_length t_text_signs v1 (s0 + s1) (v4 + (-8 : Int32))) := rfl
theorem xf_xt_say_48_s (k6 : Int32 → Int32 → (Nat → Int32) → Int64 → Int32 → Int32 → Option ((Int32 ⊕ String) × Int32 × Int32 × (Nat → Int32))) (n : Nat) (t_text_full : Int32) (t_text_length : Int32) (t_text_signs : (Nat → Int32)) (v1 : Int64) (v3 : Int32) (v4 : Int32) (v5 : Int32) : xf_xt_say_48 k6 n t_text_full t_text_length t_text_signs v1 v3 v4 v5 = (
  if v5 = (Int32.ofNat 0) then
    (xf_xt_say_59 k6 n t_text_full t_text_length t_text_signs v1 v4 v3 (Int32.ofNat 0))
  else
    xf_xt_say_59 k6 n t_text_full t_text_length t_text_signs v1 v4 v3 (Int32.ofNat 1)) := rfl
theorem xf_xt_say_38_s (n : Nat) (t_text_full : Int32) (t_text_length : Int32) (t_text_signs : (Nat → Int32)) : xf_xt_say_38 n t_text_full t_text_length t_text_signs = (
  some (.inr "java/lang/IllegalArgumentException", t_text_full, t_text_length, t_text_signs)) := rfl
theorem xf_xt_say_6_s (n : Nat) (N : Nat) (t_text_full : Int32) (t_text_length : Int32) (t_text_signs : (Nat → Int32)) (v1 : Int64) (v3 : Int32) (v4 : Int32) : xf_xt_say_6 n (N + 1) t_text_full t_text_length t_text_signs v1 v3 v4 = (
    if v4 < (Int32.ofNat 0) then
      (if (Int32.ofNat 1200) < (t_text_length + v3) then
        (some (.inr "java/lang/IllegalStateException", t_text_full, t_text_length, t_text_signs))
      else
        (xf_pg_addBytes n t_text_full t_text_length t_text_signs v1).bind fun q1354 =>
        some (.inl q1354.2.2.1, q1354.2.1, q1354.2.2.1, q1354.2.2.2))
    else
      (xf_xt_byteOf v1 v4).bind fun q1355 =>
      if q1355 = (Int32.ofNat 0) then
        (xf_xt_say_48 (xf_xt_say_6 n N) n t_text_full t_text_length t_text_signs v1 v3 v4 q1355)
      else
        if q1355 < (Int32.ofNat 32) then
          (xf_xt_say_38 n t_text_full t_text_length t_text_signs)
        else
          if (Int32.ofNat 126) < q1355 then
            (xf_xt_say_38 n t_text_full t_text_length t_text_signs)
          else
            xf_xt_say_48 (xf_xt_say_6 n N) n t_text_full t_text_length t_text_signs v1 v3 v4 q1355) := rfl
theorem xf_xt_say_s (n : Nat) (t_text_full : Int32) (t_text_length : Int32) (t_text_signs : (Nat → Int32)) (a1 : Int64) : xf_xt_say n t_text_full t_text_length t_text_signs a1 = (
  xf_xt_say_6 n n t_text_full t_text_length t_text_signs a1 (Int32.ofNat 0) (Int32.ofNat 56)) := rfl
theorem xf_la_say_s (n_p3 : Nat) (n : Nat) (p1_text_full : Int32) (p1_text_length : Int32) (p1_text_signs : (Nat → Int32)) (p3 : (Nat → Int64)) (a2 : Int64) : xf_la_say n_p3 n p1_text_full p1_text_length p1_text_signs p3 a2 = (
  (xf_xt_say n p1_text_full p1_text_length p1_text_signs a2).bind fun q1360 =>
  Sum.elim (fun r1361 =>
    if xr_in (Int32.ofNat 0) n_p3 = true then
      (some ((Int32.ofNat 0), q1360.2.1, q1360.2.2.1, q1360.2.2.2, vp_updL p3 (Int32.ofNat 0).toNatClampNeg r1361.toInt64))
    else none)
    (fun r1361 =>
      if r1361 = "java/lang/IllegalArgumentException" then
        (some ((Int32.ofNat 1), q1360.2.1, q1360.2.2.1, q1360.2.2.2, p3))
      else
        if r1361 = "java/lang/IllegalStateException" then
          (some ((Int32.ofNat 2), q1360.2.1, q1360.2.2.1, q1360.2.2.2, p3))
        else
          none) q1360.1) := rfl
theorem xf_xt_trim_15_s (t_text_length : Int32) : xf_xt_trim_15 t_text_length = (
  some (.inr "java/lang/IllegalArgumentException", t_text_length)) := rfl
theorem xf_xt_trim_s (t_text_length : Int32) (a1 : Int32) : xf_xt_trim t_text_length a1 = (
  if a1 < (Int32.ofNat 0) then
    (xf_xt_trim_15 t_text_length)
  else
    if t_text_length < a1 then
      (xf_xt_trim_15 t_text_length)
    else
      some (.inl (t_text_length - a1), t_text_length - a1)) := rfl
theorem xf_la_trim_s (n_p3 : Nat) (p1_text_length : Int32) (p3 : (Nat → Int64)) (a2 : Int32) : xf_la_trim n_p3 p1_text_length p3 a2 = (
  (xf_xt_trim p1_text_length a2).bind fun q1367 =>
  Sum.elim (fun r1368 =>
    if xr_in (Int32.ofNat 0) n_p3 = true then
      (some ((Int32.ofNat 0), q1367.2, vp_updL p3 (Int32.ofNat 0).toNatClampNeg r1368.toInt64))
    else none)
    (fun r1368 =>
      if r1368 = "java/lang/IllegalArgumentException" then
        (some ((Int32.ofNat 1), q1367.2, p3))
      else
        none) q1367.1) := rfl
theorem xf_xt_charAt_15_s (t_text_length : Int32) (t_text_signs : (Nat → Int32)) : xf_xt_charAt_15 t_text_length t_text_signs = (
  some (.inr "java/lang/IllegalArgumentException")) := rfl
theorem xf_xt_charAt_s (t_text_length : Int32) (t_text_signs : (Nat → Int32)) (a1 : Int32) : xf_xt_charAt t_text_length t_text_signs a1 = (
  if a1 < (Int32.ofNat 0) then
    (xf_xt_charAt_15 t_text_length t_text_signs)
  else
    if a1 < t_text_length then
      ((xf_pg_signAt t_text_length t_text_signs a1).bind fun q1373 =>
      some (.inl q1373))
    else
      xf_xt_charAt_15 t_text_length t_text_signs) := rfl
theorem xf_la_charAt_s (p1_text_length : Int32) (p1_text_signs : (Nat → Int32)) (n_p3 : Nat) (p3 : (Nat → Int64)) (a2 : Int32) : xf_la_charAt p1_text_length p1_text_signs n_p3 p3 a2 = (
  (xf_xt_charAt p1_text_length p1_text_signs a2).bind fun q1374 =>
  Sum.elim (fun r1375 =>
    if xr_in (Int32.ofNat 0) n_p3 = true then
      (some ((Int32.ofNat 0), vp_updL p3 (Int32.ofNat 0).toNatClampNeg r1375.toInt64))
    else none)
    (fun r1375 =>
      if r1375 = "java/lang/IllegalArgumentException" then
        (some ((Int32.ofNat 1), p3))
      else
        none) q1374) := rfl
theorem xf_xt_refuseUnless_s (a1 : Int32) : xf_xt_refuseUnless a1 = (
  if a1 = (Int32.ofNat 0) then
    (some (.inr "java/lang/IllegalArgumentException"))
  else
    some (.inl (()))) := rfl
theorem xf_xt_line_39_s (t_model_lines : Int32) (t_model_number : (Nat → Int32)) (t_model_order : (Nat → Int32)) (s0 : Int32) : xf_xt_line_39 t_model_lines t_model_number t_model_order s0 = (
  some (.inl s0)) := rfl
theorem xf_xt_line_9_s (t_model_lines : Int32) (t_model_number : (Nat → Int32)) (t_model_order : (Nat → Int32)) (v1 : Int32) (s0 : Int32) : xf_xt_line_9 t_model_lines t_model_number t_model_order v1 s0 = (
  (xf_xt_refuseUnless s0).bind fun q1380 =>
  Sum.elim (fun r1381 =>
    (xf_md_rowAt t_model_lines t_model_order v1).bind fun q1382 =>
    if q1382 = (-1 : Int32) then
      (xf_xt_line_39 t_model_lines t_model_number t_model_order (-1 : Int32))
    else
      if xr_in q1382 40 = true then
        (xf_xt_line_39 t_model_lines t_model_number t_model_order (t_model_number q1382.toNatClampNeg))
      else none)
    (fun r1381 =>
      some (.inr r1381)) q1380) := rfl
theorem xf_xt_line_s (t_model_lines : Int32) (t_model_number : (Nat → Int32)) (t_model_order : (Nat → Int32)) (a1 : Int32) : xf_xt_line t_model_lines t_model_number t_model_order a1 = (
  if a1 < (Int32.ofNat 0) then
    (xf_xt_line_9 t_model_lines t_model_number t_model_order a1 (Int32.ofNat 0))
  else
    xf_xt_line_9 t_model_lines t_model_number t_model_order a1 (Int32.ofNat 1)) := rfl
theorem xf_la_line_s (p1_model_lines : Int32) (p1_model_number : (Nat → Int32)) (p1_model_order : (Nat → Int32)) (n_p3 : Nat) (p3 : (Nat → Int64)) (a2 : Int32) : xf_la_line p1_model_lines p1_model_number p1_model_order n_p3 p3 a2 = (
  (xf_xt_line p1_model_lines p1_model_number p1_model_order a2).bind fun q1385 =>
  Sum.elim (fun r1386 =>
    if xr_in (Int32.ofNat 0) n_p3 = true then
      (some ((Int32.ofNat 0), vp_updL p3 (Int32.ofNat 0).toNatClampNeg r1386.toInt64))
    else none)
    (fun r1386 =>
      if r1386 = "java/lang/IllegalArgumentException" then
        (some ((Int32.ofNat 1), p3))
      else
        none) q1385) := rfl
theorem xf_xt_rowOrRefuse_19_s (t_model_lines : Int32) (t_model_number : (Nat → Int32)) (t_model_order : (Nat → Int32)) (n : Nat) (v2 : Int32) (s0 : Int32) : xf_xt_rowOrRefuse_19 t_model_lines t_model_number t_model_order n v2 s0 = (
  (xf_xt_refuseUnless s0).bind fun q1391 =>
  Sum.elim (fun r1392 =>
    some (.inl v2))
    (fun r1392 =>
      some (.inr r1392)) q1391) := rfl
theorem xf_xt_rowOrRefuse_s (t_model_lines : Int32) (t_model_number : (Nat → Int32)) (t_model_order : (Nat → Int32)) (n : Nat) (a1 : Int32) : xf_xt_rowOrRefuse t_model_lines t_model_number t_model_order n a1 = (
  (xf_md_rowOf t_model_lines t_model_number t_model_order n a1).bind fun q1389 =>
  if q1389 = (-1 : Int32) then
    (xf_xt_rowOrRefuse_19 t_model_lines t_model_number t_model_order n q1389 (Int32.ofNat 0))
  else
    xf_xt_rowOrRefuse_19 t_model_lines t_model_number t_model_order n q1389 (Int32.ofNat 1)) := rfl
theorem xf_md_referencesOf_60_s (t_size : (Nat → Int32)) (t_sort : (Nat → Int32)) (t_value : (Nat → Int32)) (k4 : Int32 → Int32 → Int32 → Option (Int32)) (n : Nat) (v1 : Int32) (v2 : Int32) (v3 : Int32) : xf_md_referencesOf_60 t_size t_sort t_value k4 n v1 v2 v3 = (
  k4 v1 v2 (v3 + (Int32.ofNat 1))) := rfl
theorem xf_md_referencesOf_4_s (t_size : (Nat → Int32)) (t_sort : (Nat → Int32)) (t_value : (Nat → Int32)) (n : Nat) (N : Nat) (v1 : Int32) (v2 : Int32) (v3 : Int32) : xf_md_referencesOf_4 t_size t_sort t_value n (N + 1) v1 v2 v3 = (
    if xr_in v1 40 = true then
      (if v3 < (t_size v1.toNatClampNeg) then
        (if xr_in ((v1 * (Int32.ofNat 8)) + v3) 320 = true then
          (if (t_sort ((v1 * (Int32.ofNat 8)) + v3).toNatClampNeg) = (Int32.ofNat 2) then
            (xf_md_referencesOf_60 t_size t_sort t_value (xf_md_referencesOf_4 t_size t_sort t_value n N) n v1 (v2 + (Int32.ofNat 1)) v3)
          else
            if xr_in ((v1 * (Int32.ofNat 8)) + v3) 320 = true then
              (if (t_sort ((v1 * (Int32.ofNat 8)) + v3).toNatClampNeg) = (Int32.ofNat 4) then
                (if xr_in ((v1 * (Int32.ofNat 8)) + v3) 320 = true then
                  (xf_md_referencesOf_60 t_size t_sort t_value (xf_md_referencesOf_4 t_size t_sort t_value n N) n v1 (v2 + (t_value ((v1 * (Int32.ofNat 8)) + v3).toNatClampNeg)) v3)
                else none)
              else
                xf_md_referencesOf_60 t_size t_sort t_value (xf_md_referencesOf_4 t_size t_sort t_value n N) n v1 v2 v3)
            else none)
        else none)
      else
        some v2)
    else none) := rfl
theorem xf_md_referencesOf_s (t_size : (Nat → Int32)) (t_sort : (Nat → Int32)) (t_value : (Nat → Int32)) (n : Nat) (a1 : Int32) : xf_md_referencesOf t_size t_sort t_value n a1 = (
  xf_md_referencesOf_4 t_size t_sort t_value n n a1 (Int32.ofNat 0) (Int32.ofNat 0)) := rfl
theorem xf_xt_told_84_s (t_graph_depth : (Nat → Int32)) (t_kinds_name : (Nat → Int64)) (t_kinds_total : Int32) (t_model_lines : Int32) (t_model_name : (Nat → Int64)) (t_model_number : (Nat → Int32)) (t_model_order : (Nat → Int32)) (t_model_size : (Nat → Int32)) (t_model_sort : (Nat → Int32)) (t_model_value : (Nat → Int32)) (n : Nat) (s0 : Int32) : xf_xt_told_84 t_graph_depth t_kinds_name t_kinds_total t_model_lines t_model_name t_model_number t_model_order t_model_size t_model_sort t_model_value n s0 = (
  some (.inl s0)) := rfl
theorem xf_xt_told_20_s (t_graph_depth : (Nat → Int32)) (t_kinds_name : (Nat → Int64)) (t_kinds_total : Int32) (t_model_lines : Int32) (t_model_name : (Nat → Int64)) (t_model_number : (Nat → Int32)) (t_model_order : (Nat → Int32)) (t_model_size : (Nat → Int32)) (t_model_sort : (Nat → Int32)) (t_model_value : (Nat → Int32)) (n : Nat) (v2 : Int32) (v3 : Int32) (s0 : Int32) : xf_xt_told_20 t_graph_depth t_kinds_name t_kinds_total t_model_lines t_model_name t_model_number t_model_order t_model_size t_model_sort t_model_value n v2 v3 s0 = (
  (xf_xt_refuseUnless s0).bind fun q1396 =>
  Sum.elim (fun r1397 =>
    if v2 = (Int32.ofNat 0) then
      (if xr_in v3 40 = true then
        ((xf_kd_find t_kinds_name t_kinds_total n (t_model_name v3.toNatClampNeg)).bind fun q1403 =>
        some (.inl q1403))
      else none)
    else
      if v2 = (Int32.ofNat 1) then
        (if xr_in v3 40 = true then
          (some (.inl (t_model_size v3.toNatClampNeg)))
        else none)
      else
        if v2 = (Int32.ofNat 2) then
          ((xf_md_referencesOf t_model_size t_model_sort t_model_value n v3).bind fun q1414 =>
          xf_xt_told_84 t_graph_depth t_kinds_name t_kinds_total t_model_lines t_model_name t_model_number t_model_order t_model_size t_model_sort t_model_value n q1414)
        else
          if xr_in v3 40 = true then
            (xf_xt_told_84 t_graph_depth t_kinds_name t_kinds_total t_model_lines t_model_name t_model_number t_model_order t_model_size t_model_sort t_model_value n (t_graph_depth v3.toNatClampNeg))
          else none)
    (fun r1397 =>
      some (.inr r1397)) q1396) := rfl
theorem xf_xt_told_19_s (t_graph_depth : (Nat → Int32)) (t_kinds_name : (Nat → Int64)) (t_kinds_total : Int32) (t_model_lines : Int32) (t_model_name : (Nat → Int64)) (t_model_number : (Nat → Int32)) (t_model_order : (Nat → Int32)) (t_model_size : (Nat → Int32)) (t_model_sort : (Nat → Int32)) (t_model_value : (Nat → Int32)) (n : Nat) (v2 : Int32) (v3 : Int32) : xf_xt_told_19 t_graph_depth t_kinds_name t_kinds_total t_model_lines t_model_name t_model_number t_model_order t_model_size t_model_sort t_model_value n v2 v3 = (
  xf_xt_told_20 t_graph_depth t_kinds_name t_kinds_total t_model_lines t_model_name t_model_number t_model_order t_model_size t_model_sort t_model_value n v2 v3 (Int32.ofNat 0)) := rfl
theorem xf_xt_told_s (t_graph_depth : (Nat → Int32)) (t_kinds_name : (Nat → Int64)) (t_kinds_total : Int32) (t_model_lines : Int32) (t_model_name : (Nat → Int64)) (t_model_number : (Nat → Int32)) (t_model_order : (Nat → Int32)) (t_model_size : (Nat → Int32)) (t_model_sort : (Nat → Int32)) (t_model_value : (Nat → Int32)) (n : Nat) (a1 : Int32) (a2 : Int32) : xf_xt_told t_graph_depth t_kinds_name t_kinds_total t_model_lines t_model_name t_model_number t_model_order t_model_size t_model_sort t_model_value n a1 a2 = (
  (xf_xt_rowOrRefuse t_model_lines t_model_number t_model_order n a1).bind fun q1393 =>
  Sum.elim (fun r1394 =>
    if a2 < (Int32.ofNat 0) then
      (xf_xt_told_19 t_graph_depth t_kinds_name t_kinds_total t_model_lines t_model_name t_model_number t_model_order t_model_size t_model_sort t_model_value n a2 r1394)
    else
      if (Int32.ofNat 3) < a2 then
        (xf_xt_told_19 t_graph_depth t_kinds_name t_kinds_total t_model_lines t_model_name t_model_number t_model_order t_model_size t_model_sort t_model_value n a2 r1394)
      else
        xf_xt_told_20 t_graph_depth t_kinds_name t_kinds_total t_model_lines t_model_name t_model_number t_model_order t_model_size t_model_sort t_model_value n a2 r1394 (Int32.ofNat 1))
    (fun r1394 =>
      some (.inr r1394)) q1393) := rfl
theorem xf_la_told_s (p1_graph_depth : (Nat → Int32)) (p1_kinds_name : (Nat → Int64)) (p1_kinds_total : Int32) (p1_model_lines : Int32) (p1_model_name : (Nat → Int64)) (p1_model_number : (Nat → Int32)) (p1_model_order : (Nat → Int32)) (p1_model_size : (Nat → Int32)) (p1_model_sort : (Nat → Int32)) (p1_model_value : (Nat → Int32)) (n_p4 : Nat) (n : Nat) (p4 : (Nat → Int64)) (a2 : Int32) (a3 : Int32) : xf_la_told p1_graph_depth p1_kinds_name p1_kinds_total p1_model_lines p1_model_name p1_model_number p1_model_order p1_model_size p1_model_sort p1_model_value n_p4 n p4 a2 a3 = (
  (xf_xt_told p1_graph_depth p1_kinds_name p1_kinds_total p1_model_lines p1_model_name p1_model_number p1_model_order p1_model_size p1_model_sort p1_model_value n a2 a3).bind fun q1417 =>
  Sum.elim (fun r1418 =>
    if xr_in (Int32.ofNat 0) n_p4 = true then
      (some ((Int32.ofNat 0), vp_updL p4 (Int32.ofNat 0).toNatClampNeg r1418.toInt64))
    else none)
    (fun r1418 =>
      if r1418 = "java/lang/IllegalArgumentException" then
        (some ((Int32.ofNat 1), p4))
      else
        none) q1417) := rfl
theorem xf_xt_spotOrRefuse_28_s (t_model_lines : Int32) (t_model_number : (Nat → Int32)) (t_model_order : (Nat → Int32)) (t_model_size : (Nat → Int32)) (n : Nat) (v2 : Int32) (v3 : Int32) (s0 : Int32) : xf_xt_spotOrRefuse_28 t_model_lines t_model_number t_model_order t_model_size n v2 v3 s0 = (
  (xf_xt_refuseUnless s0).bind fun q1424 =>
  Sum.elim (fun r1425 =>
    some (.inl ((v3 * (Int32.ofNat 8)) + v2)))
    (fun r1425 =>
      some (.inr r1425)) q1424) := rfl
theorem xf_xt_spotOrRefuse_27_s (t_model_lines : Int32) (t_model_number : (Nat → Int32)) (t_model_order : (Nat → Int32)) (t_model_size : (Nat → Int32)) (n : Nat) (v2 : Int32) (v3 : Int32) : xf_xt_spotOrRefuse_27 t_model_lines t_model_number t_model_order t_model_size n v2 v3 = (
  xf_xt_spotOrRefuse_28 t_model_lines t_model_number t_model_order t_model_size n v2 v3 (Int32.ofNat 0)) := rfl
theorem xf_xt_spotOrRefuse_s (t_model_lines : Int32) (t_model_number : (Nat → Int32)) (t_model_order : (Nat → Int32)) (t_model_size : (Nat → Int32)) (n : Nat) (a1 : Int32) (a2 : Int32) : xf_xt_spotOrRefuse t_model_lines t_model_number t_model_order t_model_size n a1 a2 = (
  (xf_xt_rowOrRefuse t_model_lines t_model_number t_model_order n a1).bind fun q1421 =>
  Sum.elim (fun r1422 =>
    if a2 < (Int32.ofNat 0) then
      (xf_xt_spotOrRefuse_27 t_model_lines t_model_number t_model_order t_model_size n a2 r1422)
    else
      if xr_in r1422 40 = true then
        (if a2 < (t_model_size r1422.toNatClampNeg) then
          (xf_xt_spotOrRefuse_28 t_model_lines t_model_number t_model_order t_model_size n a2 r1422 (Int32.ofNat 1))
        else
          xf_xt_spotOrRefuse_27 t_model_lines t_model_number t_model_order t_model_size n a2 r1422)
      else none)
    (fun r1422 =>
      some (.inr r1422)) q1421) := rfl
theorem xf_xt_argument_52_s (t_model_lines : Int32) (t_model_number : (Nat → Int32)) (t_model_order : (Nat → Int32)) (t_model_size : (Nat → Int32)) (t_model_sort : (Nat → Int32)) (t_model_value : (Nat → Int32)) (n : Nat) (s0 : Int32) : xf_xt_argument_52 t_model_lines t_model_number t_model_order t_model_size t_model_sort t_model_value n s0 = (
  some (.inl s0)) := rfl
theorem xf_xt_argument_22_s (t_model_lines : Int32) (t_model_number : (Nat → Int32)) (t_model_order : (Nat → Int32)) (t_model_size : (Nat → Int32)) (t_model_sort : (Nat → Int32)) (t_model_value : (Nat → Int32)) (n : Nat) (v3 : Int32) (v4 : Int32) (s0 : Int32) : xf_xt_argument_22 t_model_lines t_model_number t_model_order t_model_size t_model_sort t_model_value n v3 v4 s0 = (
  (xf_xt_refuseUnless s0).bind fun q1431 =>
  Sum.elim (fun r1432 =>
    if v3 = (Int32.ofNat 0) then
      (if xr_in v4 320 = true then
        (xf_xt_argument_52 t_model_lines t_model_number t_model_order t_model_size t_model_sort t_model_value n (t_model_sort v4.toNatClampNeg))
      else none)
    else
      if xr_in v4 320 = true then
        (xf_xt_argument_52 t_model_lines t_model_number t_model_order t_model_size t_model_sort t_model_value n (t_model_value v4.toNatClampNeg))
      else none)
    (fun r1432 =>
      some (.inr r1432)) q1431) := rfl
theorem xf_xt_argument_17_s (t_model_lines : Int32) (t_model_number : (Nat → Int32)) (t_model_order : (Nat → Int32)) (t_model_size : (Nat → Int32)) (t_model_sort : (Nat → Int32)) (t_model_value : (Nat → Int32)) (n : Nat) (v3 : Int32) (v4 : Int32) : xf_xt_argument_17 t_model_lines t_model_number t_model_order t_model_size t_model_sort t_model_value n v3 v4 = (
  xf_xt_argument_22 t_model_lines t_model_number t_model_order t_model_size t_model_sort t_model_value n v3 v4 (Int32.ofNat 1)) := rfl
theorem xf_xt_argument_s (t_model_lines : Int32) (t_model_number : (Nat → Int32)) (t_model_order : (Nat → Int32)) (t_model_size : (Nat → Int32)) (t_model_sort : (Nat → Int32)) (t_model_value : (Nat → Int32)) (n : Nat) (a1 : Int32) (a2 : Int32) (a3 : Int32) : xf_xt_argument t_model_lines t_model_number t_model_order t_model_size t_model_sort t_model_value n a1 a2 a3 = (
  (xf_xt_spotOrRefuse t_model_lines t_model_number t_model_order t_model_size n a1 a2).bind fun q1428 =>
  Sum.elim (fun r1429 =>
    if a3 = (Int32.ofNat 0) then
      (xf_xt_argument_17 t_model_lines t_model_number t_model_order t_model_size t_model_sort t_model_value n a3 r1429)
    else
      if a3 = (Int32.ofNat 1) then
        (xf_xt_argument_17 t_model_lines t_model_number t_model_order t_model_size t_model_sort t_model_value n a3 r1429)
      else
        xf_xt_argument_22 t_model_lines t_model_number t_model_order t_model_size t_model_sort t_model_value n a3 r1429 (Int32.ofNat 0))
    (fun r1429 =>
      some (.inr r1429)) q1428) := rfl
theorem xf_la_argument_s (p1_model_lines : Int32) (p1_model_number : (Nat → Int32)) (p1_model_order : (Nat → Int32)) (p1_model_size : (Nat → Int32)) (p1_model_sort : (Nat → Int32)) (p1_model_value : (Nat → Int32)) (n_p5 : Nat) (n : Nat) (p5 : (Nat → Int64)) (a2 : Int32) (a3 : Int32) (a4 : Int32) : xf_la_argument p1_model_lines p1_model_number p1_model_order p1_model_size p1_model_sort p1_model_value n_p5 n p5 a2 a3 a4 = (
  (xf_xt_argument p1_model_lines p1_model_number p1_model_order p1_model_size p1_model_sort p1_model_value n a2 a3 a4).bind fun q1437 =>
  Sum.elim (fun r1438 =>
    if xr_in (Int32.ofNat 0) n_p5 = true then
      (some ((Int32.ofNat 0), vp_updL p5 (Int32.ofNat 0).toNatClampNeg r1438.toInt64))
    else none)
    (fun r1438 =>
      if r1438 = "java/lang/IllegalArgumentException" then
        (some ((Int32.ofNat 1), p5))
      else
        none) q1437) := rfl
theorem xf_xt_item_30_s (t_model_items : (Nat → Int32)) (t_model_lines : Int32) (t_model_number : (Nat → Int32)) (t_model_order : (Nat → Int32)) (t_model_size : (Nat → Int32)) (t_model_sort : (Nat → Int32)) (t_model_start : (Nat → Int32)) (t_model_used : Int32) (t_model_value : (Nat → Int32)) (n : Nat) (v3 : Int32) (v4 : Int32) (s0 : Int32) : xf_xt_item_30 t_model_items t_model_lines t_model_number t_model_order t_model_size t_model_sort t_model_start t_model_used t_model_value n v3 v4 s0 = (
  (xf_xt_refuseUnless s0).bind fun q1444 =>
  Sum.elim (fun r1445 =>
    (xf_md_itemAt t_model_items t_model_start t_model_used v4 v3).bind fun q1446 =>
    some (.inl q1446))
    (fun r1445 =>
      some (.inr r1445)) q1444) := rfl
theorem xf_xt_item_29_s (t_model_items : (Nat → Int32)) (t_model_lines : Int32) (t_model_number : (Nat → Int32)) (t_model_order : (Nat → Int32)) (t_model_size : (Nat → Int32)) (t_model_sort : (Nat → Int32)) (t_model_start : (Nat → Int32)) (t_model_used : Int32) (t_model_value : (Nat → Int32)) (n : Nat) (v3 : Int32) (v4 : Int32) : xf_xt_item_29 t_model_items t_model_lines t_model_number t_model_order t_model_size t_model_sort t_model_start t_model_used t_model_value n v3 v4 = (
  xf_xt_item_30 t_model_items t_model_lines t_model_number t_model_order t_model_size t_model_sort t_model_start t_model_used t_model_value n v3 v4 (Int32.ofNat 0)) := rfl
theorem xf_xt_item_s (t_model_items : (Nat → Int32)) (t_model_lines : Int32) (t_model_number : (Nat → Int32)) (t_model_order : (Nat → Int32)) (t_model_size : (Nat → Int32)) (t_model_sort : (Nat → Int32)) (t_model_start : (Nat → Int32)) (t_model_used : Int32) (t_model_value : (Nat → Int32)) (n : Nat) (a1 : Int32) (a2 : Int32) (a3 : Int32) : xf_xt_item t_model_items t_model_lines t_model_number t_model_order t_model_size t_model_sort t_model_start t_model_used t_model_value n a1 a2 a3 = (
  (xf_xt_spotOrRefuse t_model_lines t_model_number t_model_order t_model_size n a1 a2).bind fun q1441 =>
  Sum.elim (fun r1442 =>
    if a3 < (Int32.ofNat 0) then
      (xf_xt_item_29 t_model_items t_model_lines t_model_number t_model_order t_model_size t_model_sort t_model_start t_model_used t_model_value n a3 r1442)
    else
      (xf_md_itemsOf t_model_sort t_model_value r1442).bind fun q1447 =>
      if a3 < q1447 then
        (xf_xt_item_30 t_model_items t_model_lines t_model_number t_model_order t_model_size t_model_sort t_model_start t_model_used t_model_value n a3 r1442 (Int32.ofNat 1))
      else
        xf_xt_item_29 t_model_items t_model_lines t_model_number t_model_order t_model_size t_model_sort t_model_start t_model_used t_model_value n a3 r1442)
    (fun r1442 =>
      some (.inr r1442)) q1441) := rfl
theorem xf_la_item_s (p1_model_items : (Nat → Int32)) (p1_model_lines : Int32) (p1_model_number : (Nat → Int32)) (p1_model_order : (Nat → Int32)) (p1_model_size : (Nat → Int32)) (p1_model_sort : (Nat → Int32)) (p1_model_start : (Nat → Int32)) (p1_model_used : Int32) (p1_model_value : (Nat → Int32)) (n_p5 : Nat) (n : Nat) (p5 : (Nat → Int64)) (a2 : Int32) (a3 : Int32) (a4 : Int32) : xf_la_item p1_model_items p1_model_lines p1_model_number p1_model_order p1_model_size p1_model_sort p1_model_start p1_model_used p1_model_value n_p5 n p5 a2 a3 a4 = (
  (xf_xt_item p1_model_items p1_model_lines p1_model_number p1_model_order p1_model_size p1_model_sort p1_model_start p1_model_used p1_model_value n a2 a3 a4).bind fun q1449 =>
  Sum.elim (fun r1450 =>
    if xr_in (Int32.ofNat 0) n_p5 = true then
      (some ((Int32.ofNat 0), vp_updL p5 (Int32.ofNat 0).toNatClampNeg r1450.toInt64))
    else none)
    (fun r1450 =>
      if r1450 = "java/lang/IllegalArgumentException" then
        (some ((Int32.ofNat 1), p5))
      else
        none) q1449) := rfl
theorem xf_gr_forgetGroups_s (t_grouped : Int32) : xf_gr_forgetGroups t_grouped = (
  some ((), (Int32.ofNat 0))) := rfl
theorem xf_xt_set_46_s (t_model_lines : Int32) (t_model_number : (Nat → Int32)) (t_model_order : (Nat → Int32)) (t_model_size : (Nat → Int32)) (t_model_sort : (Nat → Int32)) (n : Nat) (t_graph_grouped : Int32) (t_model_value : (Nat → Int32)) (v3 : Int32) (v4 : Int32) (s0 : Int32) : xf_xt_set_46 t_model_lines t_model_number t_model_order t_model_size t_model_sort n t_graph_grouped t_model_value v3 v4 s0 = (
  (xf_xt_refuseUnless s0).bind fun q1460 =>
  Sum.elim (fun r1461 =>
    if xr_in v4 320 = true then
      (if xr_in v4 320 = true then
        ((xf_gr_forgetGroups t_graph_grouped).bind fun q1464 =>
        some (.inl (t_model_value v4.toNatClampNeg), q1464.2, upd t_model_value v4.toNatClampNeg v3))
      else none)
    else none)
    (fun r1461 =>
      some (.inr r1461, t_graph_grouped, t_model_value)) q1460) := rfl
theorem xf_xt_set_25_s (t_model_lines : Int32) (t_model_number : (Nat → Int32)) (t_model_order : (Nat → Int32)) (t_model_size : (Nat → Int32)) (t_model_sort : (Nat → Int32)) (n : Nat) (t_graph_grouped : Int32) (t_model_value : (Nat → Int32)) (v3 : Int32) (v4 : Int32) (s0 : Int32) : xf_xt_set_25 t_model_lines t_model_number t_model_order t_model_size t_model_sort n t_graph_grouped t_model_value v3 v4 s0 = (
  (xf_xt_refuseUnless s0).bind fun q1456 =>
  Sum.elim (fun r1457 =>
    if xr_in v4 320 = true then
      (if (t_model_sort v4.toNatClampNeg) = (Int32.ofNat 0) then
        (xf_xt_set_46 t_model_lines t_model_number t_model_order t_model_size t_model_sort n t_graph_grouped t_model_value v3 v4 (Int32.ofNat 1))
      else
        xf_xt_set_46 t_model_lines t_model_number t_model_order t_model_size t_model_sort n t_graph_grouped t_model_value v3 v4 (Int32.ofNat 0))
    else none)
    (fun r1457 =>
      some (.inr r1457, t_graph_grouped, t_model_value)) q1456) := rfl
theorem xf_xt_set_24_s (t_model_lines : Int32) (t_model_number : (Nat → Int32)) (t_model_order : (Nat → Int32)) (t_model_size : (Nat → Int32)) (t_model_sort : (Nat → Int32)) (n : Nat) (t_graph_grouped : Int32) (t_model_value : (Nat → Int32)) (v3 : Int32) (v4 : Int32) : xf_xt_set_24 t_model_lines t_model_number t_model_order t_model_size t_model_sort n t_graph_grouped t_model_value v3 v4 = (
  xf_xt_set_25 t_model_lines t_model_number t_model_order t_model_size t_model_sort n t_graph_grouped t_model_value v3 v4 (Int32.ofNat 0)) := rfl
theorem xf_xt_set_s (t_model_lines : Int32) (t_model_number : (Nat → Int32)) (t_model_order : (Nat → Int32)) (t_model_size : (Nat → Int32)) (t_model_sort : (Nat → Int32)) (n : Nat) (t_graph_grouped : Int32) (t_model_value : (Nat → Int32)) (a1 : Int32) (a2 : Int32) (a3 : Int32) : xf_xt_set t_model_lines t_model_number t_model_order t_model_size t_model_sort n t_graph_grouped t_model_value a1 a2 a3 = (
  (xf_xt_spotOrRefuse t_model_lines t_model_number t_model_order t_model_size n a1 a2).bind fun q1453 =>
  Sum.elim (fun r1454 =>
    if a3 < (-999999999 : Int32) then
      (xf_xt_set_24 t_model_lines t_model_number t_model_order t_model_size t_model_sort n t_graph_grouped t_model_value a3 r1454)
    else
      if (Int32.ofNat 999999999) < a3 then
        (xf_xt_set_24 t_model_lines t_model_number t_model_order t_model_size t_model_sort n t_graph_grouped t_model_value a3 r1454)
      else
        xf_xt_set_25 t_model_lines t_model_number t_model_order t_model_size t_model_sort n t_graph_grouped t_model_value a3 r1454 (Int32.ofNat 1))
    (fun r1454 =>
      some (.inr r1454, t_graph_grouped, t_model_value)) q1453) := rfl
theorem xf_la_set_s (p1_model_lines : Int32) (p1_model_number : (Nat → Int32)) (p1_model_order : (Nat → Int32)) (p1_model_size : (Nat → Int32)) (p1_model_sort : (Nat → Int32)) (n_p5 : Nat) (n : Nat) (p1_graph_grouped : Int32) (p1_model_value : (Nat → Int32)) (p5 : (Nat → Int64)) (a2 : Int32) (a3 : Int32) (a4 : Int32) : xf_la_set p1_model_lines p1_model_number p1_model_order p1_model_size p1_model_sort n_p5 n p1_graph_grouped p1_model_value p5 a2 a3 a4 = (
  (xf_xt_set p1_model_lines p1_model_number p1_model_order p1_model_size p1_model_sort n p1_graph_grouped p1_model_value a2 a3 a4).bind fun q1466 =>
  Sum.elim (fun r1467 =>
    if xr_in (Int32.ofNat 0) n_p5 = true then
      (some ((Int32.ofNat 0), q1466.2.1, q1466.2.2, vp_updL p5 (Int32.ofNat 0).toNatClampNeg r1467.toInt64))
    else none)
    (fun r1467 =>
      if r1467 = "java/lang/IllegalArgumentException" then
        (some ((Int32.ofNat 1), q1466.2.1, q1466.2.2, p5))
      else
        none) q1466.1) := rfl
theorem xf_xt_misfitOf_27_s (t_kinds_mayBeNothing : (Nat → Int32)) (t_kinds_name : (Nat → Int64)) (t_kinds_sort : (Nat → Int32)) (t_kinds_total : Int32) (t_model_name : (Nat → Int64)) (t_model_size : (Nat → Int32)) (t_model_sort : (Nat → Int32)) (t_model_value : (Nat → Int32)) (n : Nat) : xf_xt_misfitOf_27 t_kinds_mayBeNothing t_kinds_name t_kinds_sort t_kinds_total t_model_name t_model_size t_model_sort t_model_value n = (
  some (-1 : Int32)) := rfl
theorem xf_kd_takesSort_59_s (t_mayBeNothing : (Nat → Int32)) (t_sort : (Nat → Int32)) (s0 : Int32) : xf_kd_takesSort_59 t_mayBeNothing t_sort s0 = (
  if fits .boolean (.int s0) = true then some s0 else none) := rfl
theorem xf_kd_takesSort_54_s (t_mayBeNothing : (Nat → Int32)) (t_sort : (Nat → Int32)) : xf_kd_takesSort_54 t_mayBeNothing t_sort = (
  xf_kd_takesSort_59 t_mayBeNothing t_sort (Int32.ofNat 1)) := rfl
theorem xf_kd_takesSort_58_s (t_mayBeNothing : (Nat → Int32)) (t_sort : (Nat → Int32)) : xf_kd_takesSort_58 t_mayBeNothing t_sort = (
  xf_kd_takesSort_59 t_mayBeNothing t_sort (Int32.ofNat 0)) := rfl
theorem xf_kd_takesSort_s (t_mayBeNothing : (Nat → Int32)) (t_sort : (Nat → Int32)) (a1 : Int32) (a2 : Int32) (a3 : Int32) (a4 : Int32) : xf_kd_takesSort t_mayBeNothing t_sort a1 a2 a3 a4 = (
  if a3 = (Int32.ofNat 6) then
    (if xr_in ((a1 * (Int32.ofNat 8)) + a2) 96 = true then
      (if fits .boolean (.int (t_mayBeNothing ((a1 * (Int32.ofNat 8)) + a2).toNatClampNeg)) = true then some (t_mayBeNothing ((a1 * (Int32.ofNat 8)) + a2).toNatClampNeg) else none)
    else none)
  else
    if xr_in ((a1 * (Int32.ofNat 8)) + a2) 96 = true then
      (if a3 = (t_sort ((a1 * (Int32.ofNat 8)) + a2).toNatClampNeg) then
        (xf_kd_takesSort_54 t_mayBeNothing t_sort)
      else
        if a3 = (Int32.ofNat 3) then
          (if a4 = (Int32.ofNat 0) then
            (if xr_in ((a1 * (Int32.ofNat 8)) + a2) 96 = true then
              (if (t_sort ((a1 * (Int32.ofNat 8)) + a2).toNatClampNeg) = (Int32.ofNat 4) then
                (xf_kd_takesSort_54 t_mayBeNothing t_sort)
              else
                xf_kd_takesSort_58 t_mayBeNothing t_sort)
            else none)
          else
            xf_kd_takesSort_58 t_mayBeNothing t_sort)
        else
          xf_kd_takesSort_58 t_mayBeNothing t_sort)
    else none) := rfl
theorem xf_xt_misfitOf_32_s (t_kinds_mayBeNothing : (Nat → Int32)) (t_kinds_name : (Nat → Int64)) (t_kinds_sort : (Nat → Int32)) (t_kinds_total : Int32) (t_model_name : (Nat → Int64)) (t_model_size : (Nat → Int32)) (t_model_sort : (Nat → Int32)) (t_model_value : (Nat → Int32)) (n : Nat) (N : Nat) (v1 : Int32) (v3 : Int32) (v4 : Int32) : xf_xt_misfitOf_32 t_kinds_mayBeNothing t_kinds_name t_kinds_sort t_kinds_total t_model_name t_model_size t_model_sort t_model_value n (N + 1) v1 v3 v4 = (
    if xr_in v1 40 = true then
      (if v4 < (t_model_size v1.toNatClampNeg) then
        (if xr_in ((v1 * (Int32.ofNat 8)) + v4) 320 = true then
          (if xr_in ((v1 * (Int32.ofNat 8)) + v4) 320 = true then
            ((xf_kd_takesSort t_kinds_mayBeNothing t_kinds_sort v3 v4 (t_model_sort ((v1 * (Int32.ofNat 8)) + v4).toNatClampNeg) (t_model_value ((v1 * (Int32.ofNat 8)) + v4).toNatClampNeg)).bind fun q1499 =>
            if q1499 = (Int32.ofNat 0) then
              (some v4)
            else
              (xf_xt_misfitOf_32 t_kinds_mayBeNothing t_kinds_name t_kinds_sort t_kinds_total t_model_name t_model_size t_model_sort t_model_value n N) v1 v3 (v4 + (Int32.ofNat 1)))
          else none)
        else none)
      else
        some (-1 : Int32))
    else none) := rfl
theorem xf_xt_misfitOf_s (t_kinds_mayBeNothing : (Nat → Int32)) (t_kinds_name : (Nat → Int64)) (t_kinds_sort : (Nat → Int32)) (t_kinds_total : Int32) (t_model_name : (Nat → Int64)) (t_model_size : (Nat → Int32)) (t_model_sort : (Nat → Int32)) (t_model_value : (Nat → Int32)) (n : Nat) (a1 : Int32) (a2 : Int32) : xf_xt_misfitOf t_kinds_mayBeNothing t_kinds_name t_kinds_sort t_kinds_total t_model_name t_model_size t_model_sort t_model_value n a1 a2 = (
  if xr_in a1 40 = true then
    ((xf_kd_find t_kinds_name t_kinds_total n (t_model_name a1.toNatClampNeg)).bind fun q1482 =>
    if a2 = (Int32.ofNat 3) then
      (if q1482 = (-1 : Int32) then
        (xf_xt_misfitOf_27 t_kinds_mayBeNothing t_kinds_name t_kinds_sort t_kinds_total t_model_name t_model_size t_model_sort t_model_value n)
      else
        xf_xt_misfitOf_32 t_kinds_mayBeNothing t_kinds_name t_kinds_sort t_kinds_total t_model_name t_model_size t_model_sort t_model_value n n a1 q1482 (Int32.ofNat 0))
    else
      xf_xt_misfitOf_27 t_kinds_mayBeNothing t_kinds_name t_kinds_sort t_kinds_total t_model_name t_model_size t_model_sort t_model_value n)
  else none) := rfl
theorem xf_xt_whyWrong_62_s (t_kinds_mayBeNothing : (Nat → Int32)) (t_kinds_name : (Nat → Int64)) (t_kinds_size : (Nat → Int32)) (t_kinds_sort : (Nat → Int32)) (t_kinds_total : Int32) (t_model_name : (Nat → Int64)) (t_model_size : (Nat → Int32)) (t_model_sort : (Nat → Int32)) (t_model_value : (Nat → Int32)) (n : Nat) (s0 : Int32) : xf_xt_whyWrong_62 t_kinds_mayBeNothing t_kinds_name t_kinds_size t_kinds_sort t_kinds_total t_model_name t_model_size t_model_sort t_model_value n s0 = (
  some s0) := rfl
theorem xf_xt_whyWrong_s (t_kinds_mayBeNothing : (Nat → Int32)) (t_kinds_name : (Nat → Int64)) (t_kinds_size : (Nat → Int32)) (t_kinds_sort : (Nat → Int32)) (t_kinds_total : Int32) (t_model_name : (Nat → Int64)) (t_model_size : (Nat → Int32)) (t_model_sort : (Nat → Int32)) (t_model_value : (Nat → Int32)) (n : Nat) (a1 : Int32) : xf_xt_whyWrong t_kinds_mayBeNothing t_kinds_name t_kinds_size t_kinds_sort t_kinds_total t_model_name t_model_size t_model_sort t_model_value n a1 = (
  if xr_in a1 40 = true then
    ((xf_kd_find t_kinds_name t_kinds_total n (t_model_name a1.toNatClampNeg)).bind fun q1476 =>
    if q1476 = (-1 : Int32) then
      (some (Int32.ofNat 1))
    else
      if xr_in q1476 12 = true then
        (if xr_in a1 40 = true then
          (if (t_kinds_size q1476.toNatClampNeg) = (t_model_size a1.toNatClampNeg) then
            ((xf_xt_misfitOf t_kinds_mayBeNothing t_kinds_name t_kinds_sort t_kinds_total t_model_name t_model_size t_model_sort t_model_value n a1 (Int32.ofNat 3)).bind fun q1501 =>
            if q1501 = (-1 : Int32) then
              (xf_xt_whyWrong_62 t_kinds_mayBeNothing t_kinds_name t_kinds_size t_kinds_sort t_kinds_total t_model_name t_model_size t_model_sort t_model_value n (Int32.ofNat 0))
            else
              xf_xt_whyWrong_62 t_kinds_mayBeNothing t_kinds_name t_kinds_size t_kinds_sort t_kinds_total t_model_name t_model_size t_model_sort t_model_value n (Int32.ofNat 3))
          else
            some (Int32.ofNat 2))
        else none)
      else none)
  else none) := rfl
theorem xf_xt_wrong_111_s (t_kinds_mayBeNothing : (Nat → Int32)) (t_kinds_name : (Nat → Int64)) (t_kinds_size : (Nat → Int32)) (t_kinds_sort : (Nat → Int32)) (t_kinds_total : Int32) (t_model_lines : Int32) (t_model_name : (Nat → Int64)) (t_model_number : (Nat → Int32)) (t_model_order : (Nat → Int32)) (t_model_size : (Nat → Int32)) (t_model_sort : (Nat → Int32)) (t_model_value : (Nat → Int32)) (k26 : Int32 → Int32 → Int32 → Option ((Int32 ⊕ String))) (n : Nat) (v2 : Int32) (v4 : Int32) (s0 : Int32) (s1 : Int32) : xf_xt_wrong_111 t_kinds_mayBeNothing t_kinds_name t_kinds_size t_kinds_sort t_kinds_total t_model_lines t_model_name t_model_number t_model_order t_model_size t_model_sort t_model_value k26 n v2 v4 s0 s1 = (
  k26 v2 (s0 - s1) (v4 + (Int32.ofNat 1))) := rfl
theorem xf_xt_wrong_100_s (t_kinds_mayBeNothing : (Nat → Int32)) (t_kinds_name : (Nat → Int64)) (t_kinds_size : (Nat → Int32)) (t_kinds_sort : (Nat → Int32)) (t_kinds_total : Int32) (t_model_lines : Int32) (t_model_name : (Nat → Int64)) (t_model_number : (Nat → Int32)) (t_model_order : (Nat → Int32)) (t_model_size : (Nat → Int32)) (t_model_sort : (Nat → Int32)) (t_model_value : (Nat → Int32)) (k26 : Int32 → Int32 → Int32 → Option ((Int32 ⊕ String))) (n : Nat) (v2 : Int32) (v3 : Int32) (v4 : Int32) (v6 : Int32) : xf_xt_wrong_100 t_kinds_mayBeNothing t_kinds_name t_kinds_size t_kinds_sort t_kinds_total t_model_lines t_model_name t_model_number t_model_order t_model_size t_model_sort t_model_value k26 n v2 v3 v4 v6 = (
  if v6 = (Int32.ofNat 0) then
    (xf_xt_wrong_111 t_kinds_mayBeNothing t_kinds_name t_kinds_size t_kinds_sort t_kinds_total t_model_lines t_model_name t_model_number t_model_order t_model_size t_model_sort t_model_value k26 n v2 v4 v3 (Int32.ofNat 0))
  else
    xf_xt_wrong_111 t_kinds_mayBeNothing t_kinds_name t_kinds_size t_kinds_sort t_kinds_total t_model_lines t_model_name t_model_number t_model_order t_model_size t_model_sort t_model_value k26 n v2 v4 v3 (Int32.ofNat 1)) := rfl
theorem xf_xt_wrong_99_s (t_kinds_mayBeNothing : (Nat → Int32)) (t_kinds_name : (Nat → Int64)) (t_kinds_size : (Nat → Int32)) (t_kinds_sort : (Nat → Int32)) (t_kinds_total : Int32) (t_model_lines : Int32) (t_model_name : (Nat → Int64)) (t_model_number : (Nat → Int32)) (t_model_order : (Nat → Int32)) (t_model_size : (Nat → Int32)) (t_model_sort : (Nat → Int32)) (t_model_value : (Nat → Int32)) (n : Nat) (s0 : Int32) : xf_xt_wrong_99 t_kinds_mayBeNothing t_kinds_name t_kinds_size t_kinds_sort t_kinds_total t_model_lines t_model_name t_model_number t_model_order t_model_size t_model_sort t_model_value n s0 = (
  some (.inl s0)) := rfl
theorem xf_xt_wrong_26_s (t_kinds_mayBeNothing : (Nat → Int32)) (t_kinds_name : (Nat → Int64)) (t_kinds_size : (Nat → Int32)) (t_kinds_sort : (Nat → Int32)) (t_kinds_total : Int32) (t_model_lines : Int32) (t_model_name : (Nat → Int64)) (t_model_number : (Nat → Int32)) (t_model_order : (Nat → Int32)) (t_model_size : (Nat → Int32)) (t_model_sort : (Nat → Int32)) (t_model_value : (Nat → Int32)) (n : Nat) (N : Nat) (v2 : Int32) (v3 : Int32) (v4 : Int32) : xf_xt_wrong_26 t_kinds_mayBeNothing t_kinds_name t_kinds_size t_kinds_sort t_kinds_total t_model_lines t_model_name t_model_number t_model_order t_model_size t_model_sort t_model_value n (N + 1) v2 v3 v4 = (
    if v4 < t_model_lines then
      ((xf_md_rowAt t_model_lines t_model_order v4).bind fun q1474 =>
      (xf_xt_whyWrong t_kinds_mayBeNothing t_kinds_name t_kinds_size t_kinds_sort t_kinds_total t_model_name t_model_size t_model_sort t_model_value n q1474).bind fun q1503 =>
      if q1503 = (Int32.ofNat 0) then
        (xf_xt_wrong_100 t_kinds_mayBeNothing t_kinds_name t_kinds_size t_kinds_sort t_kinds_total t_model_lines t_model_name t_model_number t_model_order t_model_size t_model_sort t_model_value (xf_xt_wrong_26 t_kinds_mayBeNothing t_kinds_name t_kinds_size t_kinds_sort t_kinds_total t_model_lines t_model_name t_model_number t_model_order t_model_size t_model_sort t_model_value n N) n v2 v3 v4 q1503)
      else
        if v3 = (Int32.ofNat 0) then
          (if v2 = (Int32.ofNat 0) then
            (if xr_in q1474 40 = true then
              (some (.inl (t_model_number q1474.toNatClampNeg)))
            else none)
          else
            if v2 = (Int32.ofNat 1) then
              (xf_xt_wrong_99 t_kinds_mayBeNothing t_kinds_name t_kinds_size t_kinds_sort t_kinds_total t_model_lines t_model_name t_model_number t_model_order t_model_size t_model_sort t_model_value n q1503)
            else
              (xf_xt_misfitOf t_kinds_mayBeNothing t_kinds_name t_kinds_sort t_kinds_total t_model_name t_model_size t_model_sort t_model_value n q1474 q1503).bind fun q1510 =>
              xf_xt_wrong_99 t_kinds_mayBeNothing t_kinds_name t_kinds_size t_kinds_sort t_kinds_total t_model_lines t_model_name t_model_number t_model_order t_model_size t_model_sort t_model_value n q1510)
        else
          xf_xt_wrong_100 t_kinds_mayBeNothing t_kinds_name t_kinds_size t_kinds_sort t_kinds_total t_model_lines t_model_name t_model_number t_model_order t_model_size t_model_sort t_model_value (xf_xt_wrong_26 t_kinds_mayBeNothing t_kinds_name t_kinds_size t_kinds_sort t_kinds_total t_model_lines t_model_name t_model_number t_model_order t_model_size t_model_sort t_model_value n N) n v2 v3 v4 q1503)
    else
      some (.inl (-1 : Int32))) := rfl
theorem xf_xt_wrong_18_s (t_kinds_mayBeNothing : (Nat → Int32)) (t_kinds_name : (Nat → Int64)) (t_kinds_size : (Nat → Int32)) (t_kinds_sort : (Nat → Int32)) (t_kinds_total : Int32) (t_model_lines : Int32) (t_model_name : (Nat → Int64)) (t_model_number : (Nat → Int32)) (t_model_order : (Nat → Int32)) (t_model_size : (Nat → Int32)) (t_model_sort : (Nat → Int32)) (t_model_value : (Nat → Int32)) (n : Nat) (v1 : Int32) (v2 : Int32) (s0 : Int32) : xf_xt_wrong_18 t_kinds_mayBeNothing t_kinds_name t_kinds_size t_kinds_sort t_kinds_total t_model_lines t_model_name t_model_number t_model_order t_model_size t_model_sort t_model_value n v1 v2 s0 = (
  (xf_xt_refuseUnless s0).bind fun q1471 =>
  Sum.elim (fun r1472 =>
    xf_xt_wrong_26 t_kinds_mayBeNothing t_kinds_name t_kinds_size t_kinds_sort t_kinds_total t_model_lines t_model_name t_model_number t_model_order t_model_size t_model_sort t_model_value n n v2 v1 (Int32.ofNat 0))
    (fun r1472 =>
      some (.inr r1472)) q1471) := rfl
theorem xf_xt_wrong_17_s (t_kinds_mayBeNothing : (Nat → Int32)) (t_kinds_name : (Nat → Int64)) (t_kinds_size : (Nat → Int32)) (t_kinds_sort : (Nat → Int32)) (t_kinds_total : Int32) (t_model_lines : Int32) (t_model_name : (Nat → Int64)) (t_model_number : (Nat → Int32)) (t_model_order : (Nat → Int32)) (t_model_size : (Nat → Int32)) (t_model_sort : (Nat → Int32)) (t_model_value : (Nat → Int32)) (n : Nat) (v1 : Int32) (v2 : Int32) : xf_xt_wrong_17 t_kinds_mayBeNothing t_kinds_name t_kinds_size t_kinds_sort t_kinds_total t_model_lines t_model_name t_model_number t_model_order t_model_size t_model_sort t_model_value n v1 v2 = (
  xf_xt_wrong_18 t_kinds_mayBeNothing t_kinds_name t_kinds_size t_kinds_sort t_kinds_total t_model_lines t_model_name t_model_number t_model_order t_model_size t_model_sort t_model_value n v1 v2 (Int32.ofNat 0)) := rfl
theorem xf_xt_wrong_s (t_kinds_mayBeNothing : (Nat → Int32)) (t_kinds_name : (Nat → Int64)) (t_kinds_size : (Nat → Int32)) (t_kinds_sort : (Nat → Int32)) (t_kinds_total : Int32) (t_model_lines : Int32) (t_model_name : (Nat → Int64)) (t_model_number : (Nat → Int32)) (t_model_order : (Nat → Int32)) (t_model_size : (Nat → Int32)) (t_model_sort : (Nat → Int32)) (t_model_value : (Nat → Int32)) (n : Nat) (a1 : Int32) (a2 : Int32) : xf_xt_wrong t_kinds_mayBeNothing t_kinds_name t_kinds_size t_kinds_sort t_kinds_total t_model_lines t_model_name t_model_number t_model_order t_model_size t_model_sort t_model_value n a1 a2 = (
  if a1 < (Int32.ofNat 0) then
    (xf_xt_wrong_17 t_kinds_mayBeNothing t_kinds_name t_kinds_size t_kinds_sort t_kinds_total t_model_lines t_model_name t_model_number t_model_order t_model_size t_model_sort t_model_value n a1 a2)
  else
    if a2 < (Int32.ofNat 0) then
      (xf_xt_wrong_17 t_kinds_mayBeNothing t_kinds_name t_kinds_size t_kinds_sort t_kinds_total t_model_lines t_model_name t_model_number t_model_order t_model_size t_model_sort t_model_value n a1 a2)
    else
      if (Int32.ofNat 2) < a2 then
        (xf_xt_wrong_17 t_kinds_mayBeNothing t_kinds_name t_kinds_size t_kinds_sort t_kinds_total t_model_lines t_model_name t_model_number t_model_order t_model_size t_model_sort t_model_value n a1 a2)
      else
        xf_xt_wrong_18 t_kinds_mayBeNothing t_kinds_name t_kinds_size t_kinds_sort t_kinds_total t_model_lines t_model_name t_model_number t_model_order t_model_size t_model_sort t_model_value n a1 a2 (Int32.ofNat 1)) := rfl
theorem xf_la_wrong_s (p1_kinds_mayBeNothing : (Nat → Int32)) (p1_kinds_name : (Nat → Int64)) (p1_kinds_size : (Nat → Int32)) (p1_kinds_sort : (Nat → Int32)) (p1_kinds_total : Int32) (p1_model_lines : Int32) (p1_model_name : (Nat → Int64)) (p1_model_number : (Nat → Int32)) (p1_model_order : (Nat → Int32)) (p1_model_size : (Nat → Int32)) (p1_model_sort : (Nat → Int32)) (p1_model_value : (Nat → Int32)) (n_p4 : Nat) (n : Nat) (p4 : (Nat → Int64)) (a2 : Int32) (a3 : Int32) : xf_la_wrong p1_kinds_mayBeNothing p1_kinds_name p1_kinds_size p1_kinds_sort p1_kinds_total p1_model_lines p1_model_name p1_model_number p1_model_order p1_model_size p1_model_sort p1_model_value n_p4 n p4 a2 a3 = (
  (xf_xt_wrong p1_kinds_mayBeNothing p1_kinds_name p1_kinds_size p1_kinds_sort p1_kinds_total p1_model_lines p1_model_name p1_model_number p1_model_order p1_model_size p1_model_sort p1_model_value n a2 a3).bind fun q1513 =>
  Sum.elim (fun r1514 =>
    if xr_in (Int32.ofNat 0) n_p4 = true then
      (some ((Int32.ofNat 0), vp_updL p4 (Int32.ofNat 0).toNatClampNeg r1514.toInt64))
    else none)
    (fun r1514 =>
      if r1514 = "java/lang/IllegalArgumentException" then
        (some ((Int32.ofNat 1), p4))
      else
        none) q1513) := rfl
theorem xf_gr_refersTo_20_s (t_direct : (Nat → Int64)) (s0 : Int32) : xf_gr_refersTo_20 t_direct s0 = (
  if fits .boolean (.int s0) = true then some s0 else none) := rfl
theorem xf_gr_refersTo_s (t_direct : (Nat → Int64)) (a1 : Int32) (a2 : Int32) : xf_gr_refersTo t_direct a1 a2 = (
  if xr_in a1 40 = true then
    (if (lg_cmp ((xe_ushr (t_direct a1.toNatClampNeg) a2) &&& ((1 : Int64))) ((0 : Int64))) = (Int32.ofNat 0) then
      (xf_gr_refersTo_20 t_direct (Int32.ofNat 0))
    else
      xf_gr_refersTo_20 t_direct (Int32.ofNat 1))
  else none) := rfl
theorem xf_xt_from_79_s (t_graph_direct : (Nat → Int64)) (t_model_lines : Int32) (t_model_number : (Nat → Int32)) (t_model_order : (Nat → Int32)) (k24 : Int32 → Int32 → Int32 → Option ((Int32 ⊕ String))) (n : Nat) (v3 : Int32) (v4 : Int32) (v5 : Int32) : xf_xt_from_79 t_graph_direct t_model_lines t_model_number t_model_order k24 n v3 v4 v5 = (
  k24 v3 v4 (v5 + (Int32.ofNat 1))) := rfl
theorem xf_xt_from_24_s (t_graph_direct : (Nat → Int64)) (t_model_lines : Int32) (t_model_number : (Nat → Int32)) (t_model_order : (Nat → Int32)) (n : Nat) (N : Nat) (v3 : Int32) (v4 : Int32) (v5 : Int32) : xf_xt_from_24 t_graph_direct t_model_lines t_model_number t_model_order n (N + 1) v3 v4 v5 = (
    if v5 < t_model_lines then
      ((xf_md_rowAt t_model_lines t_model_order v5).bind fun q1523 =>
      (xf_gr_refersTo t_graph_direct q1523 v3).bind fun q1527 =>
      if q1527 = (Int32.ofNat 0) then
        (xf_xt_from_79 t_graph_direct t_model_lines t_model_number t_model_order (xf_xt_from_24 t_graph_direct t_model_lines t_model_number t_model_order n N) n v3 v4 v5)
      else
        if v4 = (Int32.ofNat 0) then
          (if xr_in q1523 40 = true then
            (some (.inl (t_model_number q1523.toNatClampNeg)))
          else none)
        else
          xf_xt_from_79 t_graph_direct t_model_lines t_model_number t_model_order (xf_xt_from_24 t_graph_direct t_model_lines t_model_number t_model_order n N) n v3 (v4 + (-1 : Int32)) v5)
    else
      some (.inl (-1 : Int32))) := rfl
theorem xf_xt_from_15_s (t_graph_direct : (Nat → Int64)) (t_model_lines : Int32) (t_model_number : (Nat → Int32)) (t_model_order : (Nat → Int32)) (n : Nat) (v2 : Int32) (v3 : Int32) (s0 : Int32) : xf_xt_from_15 t_graph_direct t_model_lines t_model_number t_model_order n v2 v3 s0 = (
  (xf_xt_refuseUnless s0).bind fun q1520 =>
  Sum.elim (fun r1521 =>
    xf_xt_from_24 t_graph_direct t_model_lines t_model_number t_model_order n n v3 v2 (Int32.ofNat 0))
    (fun r1521 =>
      some (.inr r1521)) q1520) := rfl
theorem xf_xt_from_s (t_graph_direct : (Nat → Int64)) (t_model_lines : Int32) (t_model_number : (Nat → Int32)) (t_model_order : (Nat → Int32)) (n : Nat) (a1 : Int32) (a2 : Int32) : xf_xt_from t_graph_direct t_model_lines t_model_number t_model_order n a1 a2 = (
  (xf_xt_rowOrRefuse t_model_lines t_model_number t_model_order n a1).bind fun q1517 =>
  Sum.elim (fun r1518 =>
    if a2 < (Int32.ofNat 0) then
      (xf_xt_from_15 t_graph_direct t_model_lines t_model_number t_model_order n a2 r1518 (Int32.ofNat 0))
    else
      xf_xt_from_15 t_graph_direct t_model_lines t_model_number t_model_order n a2 r1518 (Int32.ofNat 1))
    (fun r1518 =>
      some (.inr r1518)) q1517) := rfl
theorem xf_la_from_s (p1_graph_direct : (Nat → Int64)) (p1_model_lines : Int32) (p1_model_number : (Nat → Int32)) (p1_model_order : (Nat → Int32)) (n_p4 : Nat) (n : Nat) (p4 : (Nat → Int64)) (a2 : Int32) (a3 : Int32) : xf_la_from p1_graph_direct p1_model_lines p1_model_number p1_model_order n_p4 n p4 a2 a3 = (
  (xf_xt_from p1_graph_direct p1_model_lines p1_model_number p1_model_order n a2 a3).bind fun q1531 =>
  Sum.elim (fun r1532 =>
    if xr_in (Int32.ofNat 0) n_p4 = true then
      (some ((Int32.ofNat 0), vp_updL p4 (Int32.ofNat 0).toNatClampNeg r1532.toInt64))
    else none)
    (fun r1532 =>
      if r1532 = "java/lang/IllegalArgumentException" then
        (some ((Int32.ofNat 1), p4))
      else
        none) q1531) := rfl
theorem xf_gr_comesBack_20_s (t_reach : (Nat → Int64)) (s0 : Int32) : xf_gr_comesBack_20 t_reach s0 = (
  if fits .boolean (.int s0) = true then some s0 else none) := rfl
theorem xf_gr_comesBack_s (t_reach : (Nat → Int64)) (a1 : Int32) : xf_gr_comesBack t_reach a1 = (
  if xr_in a1 40 = true then
    (if (lg_cmp ((xe_ushr (t_reach a1.toNatClampNeg) a1) &&& ((1 : Int64))) ((0 : Int64))) = (Int32.ofNat 0) then
      (xf_gr_comesBack_20 t_reach (Int32.ofNat 0))
    else
      xf_gr_comesBack_20 t_reach (Int32.ofNat 1))
  else none) := rfl
theorem xf_xt_ring_67_s (t_graph_reach : (Nat → Int64)) (t_model_lines : Int32) (t_model_number : (Nat → Int32)) (t_model_order : (Nat → Int32)) (k16 : Int32 → Int32 → Option ((Int32 ⊕ String))) (n : Nat) (v2 : Int32) (v3 : Int32) : xf_xt_ring_67 t_graph_reach t_model_lines t_model_number t_model_order k16 n v2 v3 = (
  k16 v2 (v3 + (Int32.ofNat 1))) := rfl
theorem xf_xt_ring_16_s (t_graph_reach : (Nat → Int64)) (t_model_lines : Int32) (t_model_number : (Nat → Int32)) (t_model_order : (Nat → Int32)) (n : Nat) (N : Nat) (v2 : Int32) (v3 : Int32) : xf_xt_ring_16 t_graph_reach t_model_lines t_model_number t_model_order n (N + 1) v2 v3 = (
    if v3 < t_model_lines then
      ((xf_md_rowAt t_model_lines t_model_order v3).bind fun q1539 =>
      (xf_gr_comesBack t_graph_reach q1539).bind fun q1543 =>
      if q1543 = (Int32.ofNat 0) then
        (xf_xt_ring_67 t_graph_reach t_model_lines t_model_number t_model_order (xf_xt_ring_16 t_graph_reach t_model_lines t_model_number t_model_order n N) n v2 v3)
      else
        if v2 = (Int32.ofNat 0) then
          (if xr_in q1539 40 = true then
            (some (.inl (t_model_number q1539.toNatClampNeg)))
          else none)
        else
          xf_xt_ring_67 t_graph_reach t_model_lines t_model_number t_model_order (xf_xt_ring_16 t_graph_reach t_model_lines t_model_number t_model_order n N) n (v2 + (-1 : Int32)) v3)
    else
      some (.inl (-1 : Int32))) := rfl
theorem xf_xt_ring_9_s (t_graph_reach : (Nat → Int64)) (t_model_lines : Int32) (t_model_number : (Nat → Int32)) (t_model_order : (Nat → Int32)) (n : Nat) (v1 : Int32) (s0 : Int32) : xf_xt_ring_9 t_graph_reach t_model_lines t_model_number t_model_order n v1 s0 = (
  (xf_xt_refuseUnless s0).bind fun q1536 =>
  Sum.elim (fun r1537 =>
    xf_xt_ring_16 t_graph_reach t_model_lines t_model_number t_model_order n n v1 (Int32.ofNat 0))
    (fun r1537 =>
      some (.inr r1537)) q1536) := rfl
theorem xf_xt_ring_s (t_graph_reach : (Nat → Int64)) (t_model_lines : Int32) (t_model_number : (Nat → Int32)) (t_model_order : (Nat → Int32)) (n : Nat) (a1 : Int32) : xf_xt_ring t_graph_reach t_model_lines t_model_number t_model_order n a1 = (
  if a1 < (Int32.ofNat 0) then
    (xf_xt_ring_9 t_graph_reach t_model_lines t_model_number t_model_order n a1 (Int32.ofNat 0))
  else
    xf_xt_ring_9 t_graph_reach t_model_lines t_model_number t_model_order n a1 (Int32.ofNat 1)) := rfl
theorem xf_la_ring_s (p1_graph_reach : (Nat → Int64)) (p1_model_lines : Int32) (p1_model_number : (Nat → Int32)) (p1_model_order : (Nat → Int32)) (n_p3 : Nat) (n : Nat) (p3 : (Nat → Int64)) (a2 : Int32) : xf_la_ring p1_graph_reach p1_model_lines p1_model_number p1_model_order n_p3 n p3 a2 = (
  (xf_xt_ring p1_graph_reach p1_model_lines p1_model_number p1_model_order n a2).bind fun q1547 =>
  Sum.elim (fun r1548 =>
    if xr_in (Int32.ofNat 0) n_p3 = true then
      (some ((Int32.ofNat 0), vp_updL p3 (Int32.ofNat 0).toNatClampNeg r1548.toInt64))
    else none)
    (fun r1548 =>
      if r1548 = "java/lang/IllegalArgumentException" then
        (some ((Int32.ofNat 1), p3))
      else
        none) q1547) := rfl
theorem xf_md_isPlaced_73_s (t_size : (Nat → Int32)) (t_sort : (Nat → Int32)) (n : Nat) (s0 : Int32) : xf_md_isPlaced_73 t_size t_sort n s0 = (
  if fits .boolean (.int s0) = true then some s0 else none) := rfl
theorem xf_md_isPlaced_68_s (t_size : (Nat → Int32)) (t_sort : (Nat → Int32)) (n : Nat) : xf_md_isPlaced_68 t_size t_sort n = (
  xf_md_isPlaced_73 t_size t_sort n (Int32.ofNat 1)) := rfl
theorem xf_md_isPlaced_19_s (t_size : (Nat → Int32)) (t_sort : (Nat → Int32)) (n : Nat) (N : Nat) (v2 : Int32) (v3 : Int32) : xf_md_isPlaced_19 t_size t_sort n (N + 1) v2 v3 = (
    if v3 < (Int32.ofNat 3) then
      (if xr_in (v2 + v3) 320 = true then
        (if (t_sort (v2 + v3).toNatClampNeg) = (Int32.ofNat 0) then
          ((xf_md_isPlaced_19 t_size t_sort n N) v2 (v3 + (Int32.ofNat 1)))
        else
          some (Int32.ofNat 0))
      else none)
    else
      if xr_in (v2 + (Int32.ofNat 3)) 320 = true then
        (if (t_sort (v2 + (Int32.ofNat 3)).toNatClampNeg) = (Int32.ofNat 2) then
          (xf_md_isPlaced_68 t_size t_sort n)
        else
          if xr_in (v2 + (Int32.ofNat 3)) 320 = true then
            (if (t_sort (v2 + (Int32.ofNat 3)).toNatClampNeg) = (Int32.ofNat 6) then
              (xf_md_isPlaced_68 t_size t_sort n)
            else
              xf_md_isPlaced_73 t_size t_sort n (Int32.ofNat 0))
          else none)
      else none) := rfl
theorem xf_md_isPlaced_s (t_size : (Nat → Int32)) (t_sort : (Nat → Int32)) (n : Nat) (a1 : Int32) : xf_md_isPlaced t_size t_sort n a1 = (
  if xr_in a1 40 = true then
    (if (Int32.ofNat 3) < (t_size a1.toNatClampNeg) then
      (xf_md_isPlaced_19 t_size t_sort n n (a1 * (Int32.ofNat 8)) (Int32.ofNat 0))
    else
      some (Int32.ofNat 0))
  else none) := rfl
theorem xf_md_nextPlaced_48_s (t_lines : Int32) (t_number : (Nat → Int32)) (t_order : (Nat → Int32)) (t_size : (Nat → Int32)) (t_sort : (Nat → Int32)) (t_value : (Nat → Int32)) (n : Nat) (s0 : Int32) : xf_md_nextPlaced_48 t_lines t_number t_order t_size t_sort t_value n s0 = (
  some s0) := rfl
theorem xf_md_nextPlaced_47_s (t_lines : Int32) (t_number : (Nat → Int32)) (t_order : (Nat → Int32)) (t_size : (Nat → Int32)) (t_sort : (Nat → Int32)) (t_value : (Nat → Int32)) (n : Nat) : xf_md_nextPlaced_47 t_lines t_number t_order t_size t_sort t_value n = (
  xf_md_nextPlaced_48 t_lines t_number t_order t_size t_sort t_value n (-1 : Int32)) := rfl
theorem xf_md_nextPlaced_s (t_lines : Int32) (t_number : (Nat → Int32)) (t_order : (Nat → Int32)) (t_size : (Nat → Int32)) (t_sort : (Nat → Int32)) (t_value : (Nat → Int32)) (n : Nat) (a1 : Int32) : xf_md_nextPlaced t_lines t_number t_order t_size t_sort t_value n a1 = (
  if xr_in ((a1 * (Int32.ofNat 8)) + (Int32.ofNat 3)) 320 = true then
    (if (t_sort ((a1 * (Int32.ofNat 8)) + (Int32.ofNat 3)).toNatClampNeg) = (Int32.ofNat 2) then
      (if xr_in ((a1 * (Int32.ofNat 8)) + (Int32.ofNat 3)) 320 = true then
        ((xf_md_rowOf t_lines t_number t_order n (t_value ((a1 * (Int32.ofNat 8)) + (Int32.ofNat 3)).toNatClampNeg)).bind fun q1574 =>
        if q1574 = (-1 : Int32) then
          (xf_md_nextPlaced_47 t_lines t_number t_order t_size t_sort t_value n)
        else
          (xf_md_isPlaced t_size t_sort n q1574).bind fun q1576 =>
          if q1576 = (Int32.ofNat 0) then
            (xf_md_nextPlaced_47 t_lines t_number t_order t_size t_sort t_value n)
          else
            xf_md_nextPlaced_48 t_lines t_number t_order t_size t_sort t_value n q1574)
      else none)
    else
      some (-1 : Int32))
  else none) := rfl
theorem xf_xt_place_40_s (t_model_lines : Int32) (t_model_number : (Nat → Int32)) (t_model_order : (Nat → Int32)) (t_model_size : (Nat → Int32)) (t_model_sort : (Nat → Int32)) (t_model_value : (Nat → Int32)) (n : Nat) (N : Nat) (v2 : Int32) (v3 : Int32) (v4 : Int64) (v6 : Int32) : xf_xt_place_40 t_model_lines t_model_number t_model_order t_model_size t_model_sort t_model_value n (N + 1) v2 v3 v4 v6 = (
    if v6 < t_model_lines then
      (if xr_in ((v3 * (Int32.ofNat 8)) + v2) 320 = true then
        ((xf_md_nextPlaced t_model_lines t_model_number t_model_order t_model_size t_model_sort t_model_value n v3).bind fun q1578 =>
        if q1578 = (-1 : Int32) then
          (some (.inl (v4 + ((t_model_value ((v3 * (Int32.ofNat 8)) + v2).toNatClampNeg).toInt64))))
        else
          (xf_xt_place_40 t_model_lines t_model_number t_model_order t_model_size t_model_sort t_model_value n N) v2 q1578 (v4 + ((t_model_value ((v3 * (Int32.ofNat 8)) + v2).toNatClampNeg).toInt64)) (v6 + (Int32.ofNat 1)))
      else none)
    else
      some (.inl ((1000000000000 : Int64)))) := rfl
theorem xf_xt_place_20_s (t_model_lines : Int32) (t_model_number : (Nat → Int32)) (t_model_order : (Nat → Int32)) (t_model_size : (Nat → Int32)) (t_model_sort : (Nat → Int32)) (t_model_value : (Nat → Int32)) (n : Nat) (v2 : Int32) (v3 : Int32) (s0 : Int32) : xf_xt_place_20 t_model_lines t_model_number t_model_order t_model_size t_model_sort t_model_value n v2 v3 s0 = (
  (xf_xt_refuseUnless s0).bind fun q1554 =>
  Sum.elim (fun r1555 =>
    (xf_md_isPlaced t_model_size t_model_sort n v3).bind fun q1566 =>
    (xf_xt_refuseUnless q1566).bind fun q1567 =>
    Sum.elim (fun r1568 =>
      xf_xt_place_40 t_model_lines t_model_number t_model_order t_model_size t_model_sort t_model_value n n v2 v3 ((0 : Int64)) (Int32.ofNat 0))
      (fun r1568 =>
        some (.inr r1568)) q1567)
    (fun r1555 =>
      some (.inr r1555)) q1554) := rfl
theorem xf_xt_place_19_s (t_model_lines : Int32) (t_model_number : (Nat → Int32)) (t_model_order : (Nat → Int32)) (t_model_size : (Nat → Int32)) (t_model_sort : (Nat → Int32)) (t_model_value : (Nat → Int32)) (n : Nat) (v2 : Int32) (v3 : Int32) : xf_xt_place_19 t_model_lines t_model_number t_model_order t_model_size t_model_sort t_model_value n v2 v3 = (
  xf_xt_place_20 t_model_lines t_model_number t_model_order t_model_size t_model_sort t_model_value n v2 v3 (Int32.ofNat 0)) := rfl
theorem xf_xt_place_s (t_model_lines : Int32) (t_model_number : (Nat → Int32)) (t_model_order : (Nat → Int32)) (t_model_size : (Nat → Int32)) (t_model_sort : (Nat → Int32)) (t_model_value : (Nat → Int32)) (n : Nat) (a1 : Int32) (a2 : Int32) : xf_xt_place t_model_lines t_model_number t_model_order t_model_size t_model_sort t_model_value n a1 a2 = (
  (xf_xt_rowOrRefuse t_model_lines t_model_number t_model_order n a1).bind fun q1551 =>
  Sum.elim (fun r1552 =>
    if a2 < (Int32.ofNat 0) then
      (xf_xt_place_19 t_model_lines t_model_number t_model_order t_model_size t_model_sort t_model_value n a2 r1552)
    else
      if a2 < (Int32.ofNat 3) then
        (xf_xt_place_20 t_model_lines t_model_number t_model_order t_model_size t_model_sort t_model_value n a2 r1552 (Int32.ofNat 1))
      else
        xf_xt_place_19 t_model_lines t_model_number t_model_order t_model_size t_model_sort t_model_value n a2 r1552)
    (fun r1552 =>
      some (.inr r1552)) q1551) := rfl
theorem xf_la_place_s (p1_model_lines : Int32) (p1_model_number : (Nat → Int32)) (p1_model_order : (Nat → Int32)) (p1_model_size : (Nat → Int32)) (p1_model_sort : (Nat → Int32)) (p1_model_value : (Nat → Int32)) (n_p4 : Nat) (n : Nat) (p4 : (Nat → Int64)) (a2 : Int32) (a3 : Int32) : xf_la_place p1_model_lines p1_model_number p1_model_order p1_model_size p1_model_sort p1_model_value n_p4 n p4 a2 a3 = (
  (xf_xt_place p1_model_lines p1_model_number p1_model_order p1_model_size p1_model_sort p1_model_value n a2 a3).bind fun q1581 =>
  Sum.elim (fun r1582 =>
    if xr_in (Int32.ofNat 0) n_p4 = true then
      (some ((Int32.ofNat 0), vp_updL p4 (Int32.ofNat 0).toNatClampNeg r1582))
    else none)
    (fun r1582 =>
      if r1582 = "java/lang/IllegalArgumentException" then
        (some ((Int32.ofNat 1), p4))
      else
        none) q1581) := rfl
theorem xf_xt_alike_49_s (t_graph_depth : (Nat → Int32)) (t_model_items : (Nat → Int32)) (t_model_lines : Int32) (t_model_name : (Nat → Int64)) (t_model_number : (Nat → Int32)) (t_model_order : (Nat → Int32)) (t_model_size : (Nat → Int32)) (t_model_sort : (Nat → Int32)) (t_model_start : (Nat → Int32)) (t_model_used : Int32) (t_model_value : (Nat → Int32)) (n_t_graph_leads_to : Nat) (n : Nat) (t_graph_grouped : Int32) (t_graph_leads_to : (Nat → Int32)) (s0 : Int32) : xf_xt_alike_49 t_graph_depth t_model_items t_model_lines t_model_name t_model_number t_model_order t_model_size t_model_sort t_model_start t_model_used t_model_value n_t_graph_leads_to n t_graph_grouped t_graph_leads_to s0 = (
  if fits .boolean (.int s0) = true then some (.inl s0, t_graph_grouped, t_graph_leads_to) else none) := rfl
theorem xf_xt_alike_s (t_graph_depth : (Nat → Int32)) (t_model_items : (Nat → Int32)) (t_model_lines : Int32) (t_model_name : (Nat → Int64)) (t_model_number : (Nat → Int32)) (t_model_order : (Nat → Int32)) (t_model_size : (Nat → Int32)) (t_model_sort : (Nat → Int32)) (t_model_start : (Nat → Int32)) (t_model_used : Int32) (t_model_value : (Nat → Int32)) (n_t_graph_leads_to : Nat) (n : Nat) (t_graph_grouped : Int32) (t_graph_leads_to : (Nat → Int32)) (a1 : Int32) (a2 : Int32) : xf_xt_alike t_graph_depth t_model_items t_model_lines t_model_name t_model_number t_model_order t_model_size t_model_sort t_model_start t_model_used t_model_value n_t_graph_leads_to n t_graph_grouped t_graph_leads_to a1 a2 = (
  (xf_xt_rowOrRefuse t_model_lines t_model_number t_model_order n a1).bind fun q1585 =>
  Sum.elim (fun r1586 =>
    (xf_xt_rowOrRefuse t_model_lines t_model_number t_model_order n a2).bind fun q1587 =>
    Sum.elim (fun r1588 =>
      (xf_gr_group t_graph_depth t_model_items t_model_lines t_model_name t_model_number t_model_order t_model_size t_model_sort t_model_start t_model_used t_model_value n_t_graph_leads_to n t_graph_grouped t_graph_leads_to).bind fun q1589 =>
      (xf_le_of q1589.2.2 n_t_graph_leads_to a1).bind fun q1590 =>
      (xf_le_of q1589.2.2 n_t_graph_leads_to a2).bind fun q1591 =>
      if q1590 = q1591 then
        (xf_xt_alike_49 t_graph_depth t_model_items t_model_lines t_model_name t_model_number t_model_order t_model_size t_model_sort t_model_start t_model_used t_model_value n_t_graph_leads_to n q1589.2.1 q1589.2.2 (Int32.ofNat 1))
      else
        xf_xt_alike_49 t_graph_depth t_model_items t_model_lines t_model_name t_model_number t_model_order t_model_size t_model_sort t_model_start t_model_used t_model_value n_t_graph_leads_to n q1589.2.1 q1589.2.2 (Int32.ofNat 0))
      (fun r1588 =>
        some (.inr r1588, t_graph_grouped, t_graph_leads_to)) q1587)
    (fun r1586 =>
      some (.inr r1586, t_graph_grouped, t_graph_leads_to)) q1585) := rfl
theorem xf_la_alike_16_s (p1_graph_depth : (Nat → Int32)) (p1_model_items : (Nat → Int32)) (p1_model_lines : Int32) (p1_model_name : (Nat → Int64)) (p1_model_number : (Nat → Int32)) (p1_model_order : (Nat → Int32)) (p1_model_size : (Nat → Int32)) (p1_model_sort : (Nat → Int32)) (p1_model_start : (Nat → Int32)) (p1_model_used : Int32) (p1_model_value : (Nat → Int32)) (n_p1_graph_leads_to : Nat) (n_p4 : Nat) (n : Nat) (p1_graph_grouped : Int32) (p1_graph_leads_to : (Nat → Int32)) (p4 : (Nat → Int64)) (s1 : Int32) (s2 : Int64) : xf_la_alike_16 p1_graph_depth p1_model_items p1_model_lines p1_model_name p1_model_number p1_model_order p1_model_size p1_model_sort p1_model_start p1_model_used p1_model_value n_p1_graph_leads_to n_p4 n p1_graph_grouped p1_graph_leads_to p4 s1 s2 = (
  if xr_in s1 n_p4 = true then
    (some ((Int32.ofNat 0), p1_graph_grouped, p1_graph_leads_to, vp_updL p4 s1.toNatClampNeg s2))
  else none) := rfl
theorem xf_la_alike_s (p1_graph_depth : (Nat → Int32)) (p1_model_items : (Nat → Int32)) (p1_model_lines : Int32) (p1_model_name : (Nat → Int64)) (p1_model_number : (Nat → Int32)) (p1_model_order : (Nat → Int32)) (p1_model_size : (Nat → Int32)) (p1_model_sort : (Nat → Int32)) (p1_model_start : (Nat → Int32)) (p1_model_used : Int32) (p1_model_value : (Nat → Int32)) (n_p1_graph_leads_to : Nat) (n_p4 : Nat) (n : Nat) (p1_graph_grouped : Int32) (p1_graph_leads_to : (Nat → Int32)) (p4 : (Nat → Int64)) (a2 : Int32) (a3 : Int32) : xf_la_alike p1_graph_depth p1_model_items p1_model_lines p1_model_name p1_model_number p1_model_order p1_model_size p1_model_sort p1_model_start p1_model_used p1_model_value n_p1_graph_leads_to n_p4 n p1_graph_grouped p1_graph_leads_to p4 a2 a3 = (
  (xf_xt_alike p1_graph_depth p1_model_items p1_model_lines p1_model_name p1_model_number p1_model_order p1_model_size p1_model_sort p1_model_start p1_model_used p1_model_value n_p1_graph_leads_to n p1_graph_grouped p1_graph_leads_to a2 a3).bind fun q1594 =>
  Sum.elim (fun r1595 =>
    if r1595 = (Int32.ofNat 0) then
      (xf_la_alike_16 p1_graph_depth p1_model_items p1_model_lines p1_model_name p1_model_number p1_model_order p1_model_size p1_model_sort p1_model_start p1_model_used p1_model_value n_p1_graph_leads_to n_p4 n q1594.2.1 q1594.2.2 p4 (Int32.ofNat 0) ((0 : Int64)))
    else
      xf_la_alike_16 p1_graph_depth p1_model_items p1_model_lines p1_model_name p1_model_number p1_model_order p1_model_size p1_model_sort p1_model_start p1_model_used p1_model_value n_p1_graph_leads_to n_p4 n q1594.2.1 q1594.2.2 p4 (Int32.ofNat 0) ((1 : Int64)))
    (fun r1595 =>
      if r1595 = "java/lang/IllegalArgumentException" then
        (some ((Int32.ofNat 1), q1594.2.1, q1594.2.2, p4))
      else
        none) q1594.1) := rfl
theorem xf_xt_howDiffers_33_s (t_byNumber_to : (Nat → Int32)) (t_kept_items : (Nat → Int32)) (t_kept_name : (Nat → Int64)) (t_kept_number : (Nat → Int32)) (t_kept_size : (Nat → Int32)) (t_kept_sort : (Nat → Int32)) (t_kept_start : (Nat → Int32)) (t_kept_used : Int32) (t_kept_value : (Nat → Int32)) (t_model_items : (Nat → Int32)) (t_model_name : (Nat → Int64)) (t_model_number : (Nat → Int32)) (t_model_size : (Nat → Int32)) (t_model_sort : (Nat → Int32)) (t_model_start : (Nat → Int32)) (t_model_used : Int32) (t_model_value : (Nat → Int32)) (n_t_byNumber_to : Nat) (n : Nat) : xf_xt_howDiffers_33 t_byNumber_to t_kept_items t_kept_name t_kept_number t_kept_size t_kept_sort t_kept_start t_kept_used t_kept_value t_model_items t_model_name t_model_number t_model_size t_model_sort t_model_start t_model_used t_model_value n_t_byNumber_to n = (
  some (Int32.ofNat 2)) := rfl
theorem xf_xt_howDiffers_83_s (t_byNumber_to : (Nat → Int32)) (t_kept_items : (Nat → Int32)) (t_kept_name : (Nat → Int64)) (t_kept_number : (Nat → Int32)) (t_kept_size : (Nat → Int32)) (t_kept_sort : (Nat → Int32)) (t_kept_start : (Nat → Int32)) (t_kept_used : Int32) (t_kept_value : (Nat → Int32)) (t_model_items : (Nat → Int32)) (t_model_name : (Nat → Int64)) (t_model_number : (Nat → Int32)) (t_model_size : (Nat → Int32)) (t_model_sort : (Nat → Int32)) (t_model_start : (Nat → Int32)) (t_model_used : Int32) (t_model_value : (Nat → Int32)) (n_t_byNumber_to : Nat) (n : Nat) (s0 : Int32) : xf_xt_howDiffers_83 t_byNumber_to t_kept_items t_kept_name t_kept_number t_kept_size t_kept_sort t_kept_start t_kept_used t_kept_value t_model_items t_model_name t_model_number t_model_size t_model_sort t_model_start t_model_used t_model_value n_t_byNumber_to n s0 = (
  some s0) := rfl
theorem xf_xt_howDiffers_s (t_byNumber_to : (Nat → Int32)) (t_kept_items : (Nat → Int32)) (t_kept_name : (Nat → Int64)) (t_kept_number : (Nat → Int32)) (t_kept_size : (Nat → Int32)) (t_kept_sort : (Nat → Int32)) (t_kept_start : (Nat → Int32)) (t_kept_used : Int32) (t_kept_value : (Nat → Int32)) (t_model_items : (Nat → Int32)) (t_model_name : (Nat → Int64)) (t_model_number : (Nat → Int32)) (t_model_size : (Nat → Int32)) (t_model_sort : (Nat → Int32)) (t_model_start : (Nat → Int32)) (t_model_used : Int32) (t_model_value : (Nat → Int32)) (n_t_byNumber_to : Nat) (n : Nat) (a1 : Int32) (a2 : Int32) : xf_xt_howDiffers t_byNumber_to t_kept_items t_kept_name t_kept_number t_kept_size t_kept_sort t_kept_start t_kept_used t_kept_value t_model_items t_model_name t_model_number t_model_size t_model_sort t_model_start t_model_used t_model_value n_t_byNumber_to n a1 a2 = (
  if a1 = (-1 : Int32) then
    (some (Int32.ofNat 1))
  else
    if a2 = (-1 : Int32) then
      (xf_xt_howDiffers_33 t_byNumber_to t_kept_items t_kept_name t_kept_number t_kept_size t_kept_sort t_kept_start t_kept_used t_kept_value t_model_items t_model_name t_model_number t_model_size t_model_sort t_model_start t_model_used t_model_value n_t_byNumber_to n)
    else
      if xr_in a1 40 = true then
        (if xr_in a2 40 = true then
          (if (t_model_number a1.toNatClampNeg) < (t_kept_number a2.toNatClampNeg) then
            (xf_xt_howDiffers_33 t_byNumber_to t_kept_items t_kept_name t_kept_number t_kept_size t_kept_sort t_kept_start t_kept_used t_kept_value t_model_items t_model_name t_model_number t_model_size t_model_sort t_model_start t_model_used t_model_value n_t_byNumber_to n)
          else
            if xr_in a1 40 = true then
              (if xr_in a2 40 = true then
                (if (t_kept_number a2.toNatClampNeg) < (t_model_number a1.toNatClampNeg) then
                  (some (Int32.ofNat 1))
                else
                  (xf_md_sameLine t_kept_items t_kept_name t_kept_size t_kept_sort t_kept_start t_kept_used t_kept_value t_byNumber_to t_model_items t_model_name t_model_size t_model_sort t_model_start t_model_used t_model_value n_t_byNumber_to n a1 a2).bind fun q1659 =>
                  if q1659 = (Int32.ofNat 0) then
                    (xf_xt_howDiffers_83 t_byNumber_to t_kept_items t_kept_name t_kept_number t_kept_size t_kept_sort t_kept_start t_kept_used t_kept_value t_model_items t_model_name t_model_number t_model_size t_model_sort t_model_start t_model_used t_model_value n_t_byNumber_to n (Int32.ofNat 3))
                  else
                    xf_xt_howDiffers_83 t_byNumber_to t_kept_items t_kept_name t_kept_number t_kept_size t_kept_sort t_kept_start t_kept_used t_kept_value t_model_items t_model_name t_model_number t_model_size t_model_sort t_model_start t_model_used t_model_value n_t_byNumber_to n (Int32.ofNat 0))
              else none)
            else none)
        else none)
      else none) := rfl
theorem xf_xt_differs_184_s (t_byNumber_to : (Nat → Int32)) (t_kept_items : (Nat → Int32)) (t_kept_lines : Int32) (t_kept_name : (Nat → Int64)) (t_kept_number : (Nat → Int32)) (t_kept_order : (Nat → Int32)) (t_kept_size : (Nat → Int32)) (t_kept_sort : (Nat → Int32)) (t_kept_start : (Nat → Int32)) (t_kept_used : Int32) (t_kept_value : (Nat → Int32)) (t_model_items : (Nat → Int32)) (t_model_lines : Int32) (t_model_name : (Nat → Int64)) (t_model_number : (Nat → Int32)) (t_model_order : (Nat → Int32)) (t_model_size : (Nat → Int32)) (t_model_sort : (Nat → Int32)) (t_model_start : (Nat → Int32)) (t_model_used : Int32) (t_model_value : (Nat → Int32)) (n_t_byNumber_to : Nat) (k32 : Int32 → Int32 → Int32 → Int32 → Int32 → Option ((Int32 ⊕ String))) (n : Nat) (v2 : Int32) (v3 : Int32) (v4 : Int32) (v6 : Int32) (s0 : Int32) (s1 : Int32) : xf_xt_differs_184 t_byNumber_to t_kept_items t_kept_lines t_kept_name t_kept_number t_kept_order t_kept_size t_kept_sort t_kept_start t_kept_used t_kept_value t_model_items t_model_lines t_model_name t_model_number t_model_order t_model_size t_model_sort t_model_start t_model_used t_model_value n_t_byNumber_to k32 n v2 v3 v4 v6 s0 s1 = (
  k32 v2 v3 v4 (s0 + s1) (v6 + (Int32.ofNat 1))) := rfl
theorem xf_xt_differs_168_s (t_byNumber_to : (Nat → Int32)) (t_kept_items : (Nat → Int32)) (t_kept_lines : Int32) (t_kept_name : (Nat → Int64)) (t_kept_number : (Nat → Int32)) (t_kept_order : (Nat → Int32)) (t_kept_size : (Nat → Int32)) (t_kept_sort : (Nat → Int32)) (t_kept_start : (Nat → Int32)) (t_kept_used : Int32) (t_kept_value : (Nat → Int32)) (t_model_items : (Nat → Int32)) (t_model_lines : Int32) (t_model_name : (Nat → Int64)) (t_model_number : (Nat → Int32)) (t_model_order : (Nat → Int32)) (t_model_size : (Nat → Int32)) (t_model_sort : (Nat → Int32)) (t_model_start : (Nat → Int32)) (t_model_used : Int32) (t_model_value : (Nat → Int32)) (n_t_byNumber_to : Nat) (k32 : Int32 → Int32 → Int32 → Int32 → Int32 → Option ((Int32 ⊕ String))) (n : Nat) (v2 : Int32) (v3 : Int32) (v5 : Int32) (v6 : Int32) (v9 : Int32) (s0 : Int32) (s1 : Int32) : xf_xt_differs_168 t_byNumber_to t_kept_items t_kept_lines t_kept_name t_kept_number t_kept_order t_kept_size t_kept_sort t_kept_start t_kept_used t_kept_value t_model_items t_model_lines t_model_name t_model_number t_model_order t_model_size t_model_sort t_model_start t_model_used t_model_value n_t_byNumber_to k32 n v2 v3 v5 v6 v9 s0 s1 = (
  if v9 = (Int32.ofNat 2) then
    (xf_xt_differs_184 t_byNumber_to t_kept_items t_kept_lines t_kept_name t_kept_number t_kept_order t_kept_size t_kept_sort t_kept_start t_kept_used t_kept_value t_model_items t_model_lines t_model_name t_model_number t_model_order t_model_size t_model_sort t_model_start t_model_used t_model_value n_t_byNumber_to k32 n v2 v3 (s0 + s1) v6 v5 (Int32.ofNat 0))
  else
    xf_xt_differs_184 t_byNumber_to t_kept_items t_kept_lines t_kept_name t_kept_number t_kept_order t_kept_size t_kept_sort t_kept_start t_kept_used t_kept_value t_model_items t_model_lines t_model_name t_model_number t_model_order t_model_size t_model_sort t_model_start t_model_used t_model_value n_t_byNumber_to k32 n v2 v3 (s0 + s1) v6 v5 (Int32.ofNat 1)) := rfl
theorem xf_xt_differs_153_s (t_byNumber_to : (Nat → Int32)) (t_kept_items : (Nat → Int32)) (t_kept_lines : Int32) (t_kept_name : (Nat → Int64)) (t_kept_number : (Nat → Int32)) (t_kept_order : (Nat → Int32)) (t_kept_size : (Nat → Int32)) (t_kept_sort : (Nat → Int32)) (t_kept_start : (Nat → Int32)) (t_kept_used : Int32) (t_kept_value : (Nat → Int32)) (t_model_items : (Nat → Int32)) (t_model_lines : Int32) (t_model_name : (Nat → Int64)) (t_model_number : (Nat → Int32)) (t_model_order : (Nat → Int32)) (t_model_size : (Nat → Int32)) (t_model_sort : (Nat → Int32)) (t_model_start : (Nat → Int32)) (t_model_used : Int32) (t_model_value : (Nat → Int32)) (n_t_byNumber_to : Nat) (k32 : Int32 → Int32 → Int32 → Int32 → Int32 → Option ((Int32 ⊕ String))) (n : Nat) (v2 : Int32) (v4 : Int32) (v5 : Int32) (v6 : Int32) (v9 : Int32) (s0 : Int32) (s1 : Int32) : xf_xt_differs_153 t_byNumber_to t_kept_items t_kept_lines t_kept_name t_kept_number t_kept_order t_kept_size t_kept_sort t_kept_start t_kept_used t_kept_value t_model_items t_model_lines t_model_name t_model_number t_model_order t_model_size t_model_sort t_model_start t_model_used t_model_value n_t_byNumber_to k32 n v2 v4 v5 v6 v9 s0 s1 = (
  if v9 = (Int32.ofNat 1) then
    (xf_xt_differs_168 t_byNumber_to t_kept_items t_kept_lines t_kept_name t_kept_number t_kept_order t_kept_size t_kept_sort t_kept_start t_kept_used t_kept_value t_model_items t_model_lines t_model_name t_model_number t_model_order t_model_size t_model_sort t_model_start t_model_used t_model_value n_t_byNumber_to k32 n v2 (s0 - s1) v5 v6 v9 v4 (Int32.ofNat 0))
  else
    xf_xt_differs_168 t_byNumber_to t_kept_items t_kept_lines t_kept_name t_kept_number t_kept_order t_kept_size t_kept_sort t_kept_start t_kept_used t_kept_value t_model_items t_model_lines t_model_name t_model_number t_model_order t_model_size t_model_sort t_model_start t_model_used t_model_value n_t_byNumber_to k32 n v2 (s0 - s1) v5 v6 v9 v4 (Int32.ofNat 1)) := rfl
theorem xf_xt_differs_142_s (t_byNumber_to : (Nat → Int32)) (t_kept_items : (Nat → Int32)) (t_kept_lines : Int32) (t_kept_name : (Nat → Int64)) (t_kept_number : (Nat → Int32)) (t_kept_order : (Nat → Int32)) (t_kept_size : (Nat → Int32)) (t_kept_sort : (Nat → Int32)) (t_kept_start : (Nat → Int32)) (t_kept_used : Int32) (t_kept_value : (Nat → Int32)) (t_model_items : (Nat → Int32)) (t_model_lines : Int32) (t_model_name : (Nat → Int64)) (t_model_number : (Nat → Int32)) (t_model_order : (Nat → Int32)) (t_model_size : (Nat → Int32)) (t_model_sort : (Nat → Int32)) (t_model_start : (Nat → Int32)) (t_model_used : Int32) (t_model_value : (Nat → Int32)) (n_t_byNumber_to : Nat) (k32 : Int32 → Int32 → Int32 → Int32 → Int32 → Option ((Int32 ⊕ String))) (n : Nat) (v2 : Int32) (v3 : Int32) (v4 : Int32) (v5 : Int32) (v6 : Int32) (v9 : Int32) : xf_xt_differs_142 t_byNumber_to t_kept_items t_kept_lines t_kept_name t_kept_number t_kept_order t_kept_size t_kept_sort t_kept_start t_kept_used t_kept_value t_model_items t_model_lines t_model_name t_model_number t_model_order t_model_size t_model_sort t_model_start t_model_used t_model_value n_t_byNumber_to k32 n v2 v3 v4 v5 v6 v9 = (
  if v9 = (Int32.ofNat 0) then
    (xf_xt_differs_153 t_byNumber_to t_kept_items t_kept_lines t_kept_name t_kept_number t_kept_order t_kept_size t_kept_sort t_kept_start t_kept_used t_kept_value t_model_items t_model_lines t_model_name t_model_number t_model_order t_model_size t_model_sort t_model_start t_model_used t_model_value n_t_byNumber_to k32 n v2 v4 v5 v6 v9 v3 (Int32.ofNat 0))
  else
    xf_xt_differs_153 t_byNumber_to t_kept_items t_kept_lines t_kept_name t_kept_number t_kept_order t_kept_size t_kept_sort t_kept_start t_kept_used t_kept_value t_model_items t_model_lines t_model_name t_model_number t_model_order t_model_size t_model_sort t_model_start t_model_used t_model_value n_t_byNumber_to k32 n v2 v4 v5 v6 v9 v3 (Int32.ofNat 1)) := rfl
theorem xf_xt_differs_141_s (t_byNumber_to : (Nat → Int32)) (t_kept_items : (Nat → Int32)) (t_kept_lines : Int32) (t_kept_name : (Nat → Int64)) (t_kept_number : (Nat → Int32)) (t_kept_order : (Nat → Int32)) (t_kept_size : (Nat → Int32)) (t_kept_sort : (Nat → Int32)) (t_kept_start : (Nat → Int32)) (t_kept_used : Int32) (t_kept_value : (Nat → Int32)) (t_model_items : (Nat → Int32)) (t_model_lines : Int32) (t_model_name : (Nat → Int64)) (t_model_number : (Nat → Int32)) (t_model_order : (Nat → Int32)) (t_model_size : (Nat → Int32)) (t_model_sort : (Nat → Int32)) (t_model_start : (Nat → Int32)) (t_model_used : Int32) (t_model_value : (Nat → Int32)) (n_t_byNumber_to : Nat) (n : Nat) (s0 : Int32) : xf_xt_differs_141 t_byNumber_to t_kept_items t_kept_lines t_kept_name t_kept_number t_kept_order t_kept_size t_kept_sort t_kept_start t_kept_used t_kept_value t_model_items t_model_lines t_model_name t_model_number t_model_order t_model_size t_model_sort t_model_start t_model_used t_model_value n_t_byNumber_to n s0 = (
  some (.inl s0)) := rfl
theorem xf_xt_differs_63_s (t_byNumber_to : (Nat → Int32)) (t_kept_items : (Nat → Int32)) (t_kept_lines : Int32) (t_kept_name : (Nat → Int64)) (t_kept_number : (Nat → Int32)) (t_kept_order : (Nat → Int32)) (t_kept_size : (Nat → Int32)) (t_kept_sort : (Nat → Int32)) (t_kept_start : (Nat → Int32)) (t_kept_used : Int32) (t_kept_value : (Nat → Int32)) (t_model_items : (Nat → Int32)) (t_model_lines : Int32) (t_model_name : (Nat → Int64)) (t_model_number : (Nat → Int32)) (t_model_order : (Nat → Int32)) (t_model_size : (Nat → Int32)) (t_model_sort : (Nat → Int32)) (t_model_start : (Nat → Int32)) (t_model_used : Int32) (t_model_value : (Nat → Int32)) (n_t_byNumber_to : Nat) (k32 : Int32 → Int32 → Int32 → Int32 → Int32 → Option ((Int32 ⊕ String))) (n : Nat) (v2 : Int32) (v3 : Int32) (v4 : Int32) (v5 : Int32) (v6 : Int32) : xf_xt_differs_63 t_byNumber_to t_kept_items t_kept_lines t_kept_name t_kept_number t_kept_order t_kept_size t_kept_sort t_kept_start t_kept_used t_kept_value t_model_items t_model_lines t_model_name t_model_number t_model_order t_model_size t_model_sort t_model_start t_model_used t_model_value n_t_byNumber_to k32 n v2 v3 v4 v5 v6 = (
  (xf_md_rowAt t_model_lines t_model_order v4).bind fun q1604 =>
  (xf_md_rowAt t_kept_lines t_kept_order v5).bind fun q1608 =>
  (xf_xt_howDiffers t_byNumber_to t_kept_items t_kept_name t_kept_number t_kept_size t_kept_sort t_kept_start t_kept_used t_kept_value t_model_items t_model_name t_model_number t_model_size t_model_sort t_model_start t_model_used t_model_value n_t_byNumber_to n q1604 q1608).bind fun q1661 =>
  if q1661 = (Int32.ofNat 0) then
    (xf_xt_differs_142 t_byNumber_to t_kept_items t_kept_lines t_kept_name t_kept_number t_kept_order t_kept_size t_kept_sort t_kept_start t_kept_used t_kept_value t_model_items t_model_lines t_model_name t_model_number t_model_order t_model_size t_model_sort t_model_start t_model_used t_model_value n_t_byNumber_to k32 n v2 v3 v4 v5 v6 q1661)
  else
    if v3 = (Int32.ofNat 0) then
      (if v2 = (Int32.ofNat 1) then
        (some (.inl q1661))
      else
        if q1661 = (Int32.ofNat 1) then
          (if xr_in q1608 40 = true then
            (xf_xt_differs_141 t_byNumber_to t_kept_items t_kept_lines t_kept_name t_kept_number t_kept_order t_kept_size t_kept_sort t_kept_start t_kept_used t_kept_value t_model_items t_model_lines t_model_name t_model_number t_model_order t_model_size t_model_sort t_model_start t_model_used t_model_value n_t_byNumber_to n (t_kept_number q1608.toNatClampNeg))
          else none)
        else
          if xr_in q1604 40 = true then
            (xf_xt_differs_141 t_byNumber_to t_kept_items t_kept_lines t_kept_name t_kept_number t_kept_order t_kept_size t_kept_sort t_kept_start t_kept_used t_kept_value t_model_items t_model_lines t_model_name t_model_number t_model_order t_model_size t_model_sort t_model_start t_model_used t_model_value n_t_byNumber_to n (t_model_number q1604.toNatClampNeg))
          else none)
    else
      xf_xt_differs_142 t_byNumber_to t_kept_items t_kept_lines t_kept_name t_kept_number t_kept_order t_kept_size t_kept_sort t_kept_start t_kept_used t_kept_value t_model_items t_model_lines t_model_name t_model_number t_model_order t_model_size t_model_sort t_model_start t_model_used t_model_value n_t_byNumber_to k32 n v2 v3 v4 v5 v6 q1661) := rfl
theorem xf_xt_differs_193_s (t_byNumber_to : (Nat → Int32)) (t_kept_items : (Nat → Int32)) (t_kept_lines : Int32) (t_kept_name : (Nat → Int64)) (t_kept_number : (Nat → Int32)) (t_kept_order : (Nat → Int32)) (t_kept_size : (Nat → Int32)) (t_kept_sort : (Nat → Int32)) (t_kept_start : (Nat → Int32)) (t_kept_used : Int32) (t_kept_value : (Nat → Int32)) (t_model_items : (Nat → Int32)) (t_model_lines : Int32) (t_model_name : (Nat → Int64)) (t_model_number : (Nat → Int32)) (t_model_order : (Nat → Int32)) (t_model_size : (Nat → Int32)) (t_model_sort : (Nat → Int32)) (t_model_start : (Nat → Int32)) (t_model_used : Int32) (t_model_value : (Nat → Int32)) (n_t_byNumber_to : Nat) (n : Nat) : xf_xt_differs_193 t_byNumber_to t_kept_items t_kept_lines t_kept_name t_kept_number t_kept_order t_kept_size t_kept_sort t_kept_start t_kept_used t_kept_value t_model_items t_model_lines t_model_name t_model_number t_model_order t_model_size t_model_sort t_model_start t_model_used t_model_value n_t_byNumber_to n = (
  some (.inl (-1 : Int32))) := rfl
theorem xf_xt_differs_32_s (t_byNumber_to : (Nat → Int32)) (t_kept_items : (Nat → Int32)) (t_kept_lines : Int32) (t_kept_name : (Nat → Int64)) (t_kept_number : (Nat → Int32)) (t_kept_order : (Nat → Int32)) (t_kept_size : (Nat → Int32)) (t_kept_sort : (Nat → Int32)) (t_kept_start : (Nat → Int32)) (t_kept_used : Int32) (t_kept_value : (Nat → Int32)) (t_model_items : (Nat → Int32)) (t_model_lines : Int32) (t_model_name : (Nat → Int64)) (t_model_number : (Nat → Int32)) (t_model_order : (Nat → Int32)) (t_model_size : (Nat → Int32)) (t_model_sort : (Nat → Int32)) (t_model_start : (Nat → Int32)) (t_model_used : Int32) (t_model_value : (Nat → Int32)) (n_t_byNumber_to : Nat) (n : Nat) (N : Nat) (v2 : Int32) (v3 : Int32) (v4 : Int32) (v5 : Int32) (v6 : Int32) : xf_xt_differs_32 t_byNumber_to t_kept_items t_kept_lines t_kept_name t_kept_number t_kept_order t_kept_size t_kept_sort t_kept_start t_kept_used t_kept_value t_model_items t_model_lines t_model_name t_model_number t_model_order t_model_size t_model_sort t_model_start t_model_used t_model_value n_t_byNumber_to n (N + 1) v2 v3 v4 v5 v6 = (
    if v6 < (Int32.ofNat 80) then
      (if v4 < t_model_lines then
        (xf_xt_differs_63 t_byNumber_to t_kept_items t_kept_lines t_kept_name t_kept_number t_kept_order t_kept_size t_kept_sort t_kept_start t_kept_used t_kept_value t_model_items t_model_lines t_model_name t_model_number t_model_order t_model_size t_model_sort t_model_start t_model_used t_model_value n_t_byNumber_to (xf_xt_differs_32 t_byNumber_to t_kept_items t_kept_lines t_kept_name t_kept_number t_kept_order t_kept_size t_kept_sort t_kept_start t_kept_used t_kept_value t_model_items t_model_lines t_model_name t_model_number t_model_order t_model_size t_model_sort t_model_start t_model_used t_model_value n_t_byNumber_to n N) n v2 v3 v4 v5 v6)
      else
        if v5 < t_kept_lines then
          (xf_xt_differs_63 t_byNumber_to t_kept_items t_kept_lines t_kept_name t_kept_number t_kept_order t_kept_size t_kept_sort t_kept_start t_kept_used t_kept_value t_model_items t_model_lines t_model_name t_model_number t_model_order t_model_size t_model_sort t_model_start t_model_used t_model_value n_t_byNumber_to (xf_xt_differs_32 t_byNumber_to t_kept_items t_kept_lines t_kept_name t_kept_number t_kept_order t_kept_size t_kept_sort t_kept_start t_kept_used t_kept_value t_model_items t_model_lines t_model_name t_model_number t_model_order t_model_size t_model_sort t_model_start t_model_used t_model_value n_t_byNumber_to n N) n v2 v3 v4 v5 v6)
        else
          xf_xt_differs_193 t_byNumber_to t_kept_items t_kept_lines t_kept_name t_kept_number t_kept_order t_kept_size t_kept_sort t_kept_start t_kept_used t_kept_value t_model_items t_model_lines t_model_name t_model_number t_model_order t_model_size t_model_sort t_model_start t_model_used t_model_value n_t_byNumber_to n)
    else
      xf_xt_differs_193 t_byNumber_to t_kept_items t_kept_lines t_kept_name t_kept_number t_kept_order t_kept_size t_kept_sort t_kept_start t_kept_used t_kept_value t_model_items t_model_lines t_model_name t_model_number t_model_order t_model_size t_model_sort t_model_start t_model_used t_model_value n_t_byNumber_to n) := rfl
theorem xf_xt_differs_18_s (t_byNumber_to : (Nat → Int32)) (t_kept_items : (Nat → Int32)) (t_kept_lines : Int32) (t_kept_name : (Nat → Int64)) (t_kept_number : (Nat → Int32)) (t_kept_order : (Nat → Int32)) (t_kept_size : (Nat → Int32)) (t_kept_sort : (Nat → Int32)) (t_kept_start : (Nat → Int32)) (t_kept_used : Int32) (t_kept_value : (Nat → Int32)) (t_model_items : (Nat → Int32)) (t_model_lines : Int32) (t_model_name : (Nat → Int64)) (t_model_number : (Nat → Int32)) (t_model_order : (Nat → Int32)) (t_model_size : (Nat → Int32)) (t_model_sort : (Nat → Int32)) (t_model_start : (Nat → Int32)) (t_model_used : Int32) (t_model_value : (Nat → Int32)) (n_t_byNumber_to : Nat) (n : Nat) (v1 : Int32) (v2 : Int32) (s0 : Int32) : xf_xt_differs_18 t_byNumber_to t_kept_items t_kept_lines t_kept_name t_kept_number t_kept_order t_kept_size t_kept_sort t_kept_start t_kept_used t_kept_value t_model_items t_model_lines t_model_name t_model_number t_model_order t_model_size t_model_sort t_model_start t_model_used t_model_value n_t_byNumber_to n v1 v2 s0 = (
  (xf_xt_refuseUnless s0).bind fun q1600 =>
  Sum.elim (fun r1601 =>
    xf_xt_differs_32 t_byNumber_to t_kept_items t_kept_lines t_kept_name t_kept_number t_kept_order t_kept_size t_kept_sort t_kept_start t_kept_used t_kept_value t_model_items t_model_lines t_model_name t_model_number t_model_order t_model_size t_model_sort t_model_start t_model_used t_model_value n_t_byNumber_to n n v2 v1 (Int32.ofNat 0) (Int32.ofNat 0) (Int32.ofNat 0))
    (fun r1601 =>
      some (.inr r1601)) q1600) := rfl
theorem xf_xt_differs_17_s (t_byNumber_to : (Nat → Int32)) (t_kept_items : (Nat → Int32)) (t_kept_lines : Int32) (t_kept_name : (Nat → Int64)) (t_kept_number : (Nat → Int32)) (t_kept_order : (Nat → Int32)) (t_kept_size : (Nat → Int32)) (t_kept_sort : (Nat → Int32)) (t_kept_start : (Nat → Int32)) (t_kept_used : Int32) (t_kept_value : (Nat → Int32)) (t_model_items : (Nat → Int32)) (t_model_lines : Int32) (t_model_name : (Nat → Int64)) (t_model_number : (Nat → Int32)) (t_model_order : (Nat → Int32)) (t_model_size : (Nat → Int32)) (t_model_sort : (Nat → Int32)) (t_model_start : (Nat → Int32)) (t_model_used : Int32) (t_model_value : (Nat → Int32)) (n_t_byNumber_to : Nat) (n : Nat) (v1 : Int32) (v2 : Int32) : xf_xt_differs_17 t_byNumber_to t_kept_items t_kept_lines t_kept_name t_kept_number t_kept_order t_kept_size t_kept_sort t_kept_start t_kept_used t_kept_value t_model_items t_model_lines t_model_name t_model_number t_model_order t_model_size t_model_sort t_model_start t_model_used t_model_value n_t_byNumber_to n v1 v2 = (
  xf_xt_differs_18 t_byNumber_to t_kept_items t_kept_lines t_kept_name t_kept_number t_kept_order t_kept_size t_kept_sort t_kept_start t_kept_used t_kept_value t_model_items t_model_lines t_model_name t_model_number t_model_order t_model_size t_model_sort t_model_start t_model_used t_model_value n_t_byNumber_to n v1 v2 (Int32.ofNat 0)) := rfl
theorem xf_xt_differs_13_s (t_byNumber_to : (Nat → Int32)) (t_kept_items : (Nat → Int32)) (t_kept_lines : Int32) (t_kept_name : (Nat → Int64)) (t_kept_number : (Nat → Int32)) (t_kept_order : (Nat → Int32)) (t_kept_size : (Nat → Int32)) (t_kept_sort : (Nat → Int32)) (t_kept_start : (Nat → Int32)) (t_kept_used : Int32) (t_kept_value : (Nat → Int32)) (t_model_items : (Nat → Int32)) (t_model_lines : Int32) (t_model_name : (Nat → Int64)) (t_model_number : (Nat → Int32)) (t_model_order : (Nat → Int32)) (t_model_size : (Nat → Int32)) (t_model_sort : (Nat → Int32)) (t_model_start : (Nat → Int32)) (t_model_used : Int32) (t_model_value : (Nat → Int32)) (n_t_byNumber_to : Nat) (n : Nat) (v1 : Int32) (v2 : Int32) : xf_xt_differs_13 t_byNumber_to t_kept_items t_kept_lines t_kept_name t_kept_number t_kept_order t_kept_size t_kept_sort t_kept_start t_kept_used t_kept_value t_model_items t_model_lines t_model_name t_model_number t_model_order t_model_size t_model_sort t_model_start t_model_used t_model_value n_t_byNumber_to n v1 v2 = (
  xf_xt_differs_18 t_byNumber_to t_kept_items t_kept_lines t_kept_name t_kept_number t_kept_order t_kept_size t_kept_sort t_kept_start t_kept_used t_kept_value t_model_items t_model_lines t_model_name t_model_number t_model_order t_model_size t_model_sort t_model_start t_model_used t_model_value n_t_byNumber_to n v1 v2 (Int32.ofNat 1)) := rfl
theorem xf_xt_differs_s (t_byNumber_to : (Nat → Int32)) (t_kept_items : (Nat → Int32)) (t_kept_lines : Int32) (t_kept_name : (Nat → Int64)) (t_kept_number : (Nat → Int32)) (t_kept_order : (Nat → Int32)) (t_kept_size : (Nat → Int32)) (t_kept_sort : (Nat → Int32)) (t_kept_start : (Nat → Int32)) (t_kept_used : Int32) (t_kept_value : (Nat → Int32)) (t_model_items : (Nat → Int32)) (t_model_lines : Int32) (t_model_name : (Nat → Int64)) (t_model_number : (Nat → Int32)) (t_model_order : (Nat → Int32)) (t_model_size : (Nat → Int32)) (t_model_sort : (Nat → Int32)) (t_model_start : (Nat → Int32)) (t_model_used : Int32) (t_model_value : (Nat → Int32)) (n_t_byNumber_to : Nat) (n : Nat) (a1 : Int32) (a2 : Int32) : xf_xt_differs t_byNumber_to t_kept_items t_kept_lines t_kept_name t_kept_number t_kept_order t_kept_size t_kept_sort t_kept_start t_kept_used t_kept_value t_model_items t_model_lines t_model_name t_model_number t_model_order t_model_size t_model_sort t_model_start t_model_used t_model_value n_t_byNumber_to n a1 a2 = (
  if a1 < (Int32.ofNat 0) then
    (xf_xt_differs_17 t_byNumber_to t_kept_items t_kept_lines t_kept_name t_kept_number t_kept_order t_kept_size t_kept_sort t_kept_start t_kept_used t_kept_value t_model_items t_model_lines t_model_name t_model_number t_model_order t_model_size t_model_sort t_model_start t_model_used t_model_value n_t_byNumber_to n a1 a2)
  else
    if a2 = (Int32.ofNat 0) then
      (xf_xt_differs_13 t_byNumber_to t_kept_items t_kept_lines t_kept_name t_kept_number t_kept_order t_kept_size t_kept_sort t_kept_start t_kept_used t_kept_value t_model_items t_model_lines t_model_name t_model_number t_model_order t_model_size t_model_sort t_model_start t_model_used t_model_value n_t_byNumber_to n a1 a2)
    else
      if a2 = (Int32.ofNat 1) then
        (xf_xt_differs_13 t_byNumber_to t_kept_items t_kept_lines t_kept_name t_kept_number t_kept_order t_kept_size t_kept_sort t_kept_start t_kept_used t_kept_value t_model_items t_model_lines t_model_name t_model_number t_model_order t_model_size t_model_sort t_model_start t_model_used t_model_value n_t_byNumber_to n a1 a2)
      else
        xf_xt_differs_17 t_byNumber_to t_kept_items t_kept_lines t_kept_name t_kept_number t_kept_order t_kept_size t_kept_sort t_kept_start t_kept_used t_kept_value t_model_items t_model_lines t_model_name t_model_number t_model_order t_model_size t_model_sort t_model_start t_model_used t_model_value n_t_byNumber_to n a1 a2) := rfl
theorem xf_la_differs_s (p1_byNumber_to : (Nat → Int32)) (p1_kept_items : (Nat → Int32)) (p1_kept_lines : Int32) (p1_kept_name : (Nat → Int64)) (p1_kept_number : (Nat → Int32)) (p1_kept_order : (Nat → Int32)) (p1_kept_size : (Nat → Int32)) (p1_kept_sort : (Nat → Int32)) (p1_kept_start : (Nat → Int32)) (p1_kept_used : Int32) (p1_kept_value : (Nat → Int32)) (p1_model_items : (Nat → Int32)) (p1_model_lines : Int32) (p1_model_name : (Nat → Int64)) (p1_model_number : (Nat → Int32)) (p1_model_order : (Nat → Int32)) (p1_model_size : (Nat → Int32)) (p1_model_sort : (Nat → Int32)) (p1_model_start : (Nat → Int32)) (p1_model_used : Int32) (p1_model_value : (Nat → Int32)) (n_p1_byNumber_to : Nat) (n_p4 : Nat) (n : Nat) (p4 : (Nat → Int64)) (a2 : Int32) (a3 : Int32) : xf_la_differs p1_byNumber_to p1_kept_items p1_kept_lines p1_kept_name p1_kept_number p1_kept_order p1_kept_size p1_kept_sort p1_kept_start p1_kept_used p1_kept_value p1_model_items p1_model_lines p1_model_name p1_model_number p1_model_order p1_model_size p1_model_sort p1_model_start p1_model_used p1_model_value n_p1_byNumber_to n_p4 n p4 a2 a3 = (
  (xf_xt_differs p1_byNumber_to p1_kept_items p1_kept_lines p1_kept_name p1_kept_number p1_kept_order p1_kept_size p1_kept_sort p1_kept_start p1_kept_used p1_kept_value p1_model_items p1_model_lines p1_model_name p1_model_number p1_model_order p1_model_size p1_model_sort p1_model_start p1_model_used p1_model_value n_p1_byNumber_to n a2 a3).bind fun q1674 =>
  Sum.elim (fun r1675 =>
    if xr_in (Int32.ofNat 0) n_p4 = true then
      (some ((Int32.ofNat 0), vp_updL p4 (Int32.ofNat 0).toNatClampNeg r1675.toInt64))
    else none)
    (fun r1675 =>
      if r1675 = "java/lang/IllegalArgumentException" then
        (some ((Int32.ofNat 1), p4))
      else
        none) q1674) := rfl
theorem xf_xt_count_64_s (t_kept_lines : Int32) (t_kinds_total : Int32) (t_model_lines : Int32) (t_text_length : Int32) (s0 : Int32) : xf_xt_count_64 t_kept_lines t_kinds_total t_model_lines t_text_length s0 = (
  some (.inl s0)) := rfl
theorem xf_xt_count_14_s (t_kept_lines : Int32) (t_kinds_total : Int32) (t_model_lines : Int32) (t_text_length : Int32) (v1 : Int32) (s0 : Int32) : xf_xt_count_14 t_kept_lines t_kinds_total t_model_lines t_text_length v1 s0 = (
  (xf_xt_refuseUnless s0).bind fun q1679 =>
  Sum.elim (fun r1680 =>
    if v1 = (Int32.ofNat 0) then
      (some (.inl t_text_length))
    else
      if v1 = (Int32.ofNat 1) then
        (some (.inl t_kinds_total))
      else
        if v1 = (Int32.ofNat 2) then
          (xf_xt_count_64 t_kept_lines t_kinds_total t_model_lines t_text_length t_model_lines)
        else
          xf_xt_count_64 t_kept_lines t_kinds_total t_model_lines t_text_length t_kept_lines)
    (fun r1680 =>
      some (.inr r1680)) q1679) := rfl
theorem xf_xt_count_13_s (t_kept_lines : Int32) (t_kinds_total : Int32) (t_model_lines : Int32) (t_text_length : Int32) (v1 : Int32) : xf_xt_count_13 t_kept_lines t_kinds_total t_model_lines t_text_length v1 = (
  xf_xt_count_14 t_kept_lines t_kinds_total t_model_lines t_text_length v1 (Int32.ofNat 0)) := rfl
theorem xf_xt_count_s (t_kept_lines : Int32) (t_kinds_total : Int32) (t_model_lines : Int32) (t_text_length : Int32) (a1 : Int32) : xf_xt_count t_kept_lines t_kinds_total t_model_lines t_text_length a1 = (
  if a1 < (Int32.ofNat 0) then
    (xf_xt_count_13 t_kept_lines t_kinds_total t_model_lines t_text_length a1)
  else
    if (Int32.ofNat 3) < a1 then
      (xf_xt_count_13 t_kept_lines t_kinds_total t_model_lines t_text_length a1)
    else
      xf_xt_count_14 t_kept_lines t_kinds_total t_model_lines t_text_length a1 (Int32.ofNat 1)) := rfl
theorem xf_la_count_s (p1_kept_lines : Int32) (p1_kinds_total : Int32) (p1_model_lines : Int32) (p1_text_length : Int32) (n_p3 : Nat) (p3 : (Nat → Int64)) (a2 : Int32) : xf_la_count p1_kept_lines p1_kinds_total p1_model_lines p1_text_length n_p3 p3 a2 = (
  (xf_xt_count p1_kept_lines p1_kinds_total p1_model_lines p1_text_length a2).bind fun q1685 =>
  Sum.elim (fun r1686 =>
    if xr_in (Int32.ofNat 0) n_p3 = true then
      (some ((Int32.ofNat 0), vp_updL p3 (Int32.ofNat 0).toNatClampNeg r1686.toInt64))
    else none)
    (fun r1686 =>
      if r1686 = "java/lang/IllegalArgumentException" then
        (some ((Int32.ofNat 1), p3))
      else
        none) q1685) := rfl
