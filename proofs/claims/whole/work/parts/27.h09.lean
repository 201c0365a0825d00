set_option maxHeartbeats 400000 in
theorem xh_rf_told_57_27 {l : Launch} {g : xr_G} (ok : xr_OK xm_P) (a_58 a_59 a_63 a_64 a_65 a_75 : Nat → Int32) (s_57_1 s_57_18 s_57_19 s_57_20 s_57_24 : Int32) (X : Nat → xr_C) (t_items : (Nat → Int32)) (t_kindLetters : (Nat → Int32)) (t_kindNames : (Nat → Int32)) (t_kinds : (Nat → Int32)) (t_letters : (Nat → Int32)) (t_lines : (Nat → Int32)) (t_names : (Nat → Int32)) (t_numbers : (Nat → Int32)) (t_parts : (Nat → Int32)) (t_sorts : (Nat → Int32)) (t_values : (Nat → Int32)) (n : Nat) : ∀ (t_depths : (Nat → Int32)) (t_thrown : Int32) (t_ways : (Nat → Int64)) (v2 : Int32) (v3 : Int32) (r : (Int32 × (Nat → Int32) × Int32 × (Nat → Int64))), xf_rf_told_27 t_items t_kindLetters t_kindNames t_kinds t_letters t_lines t_names t_numbers t_parts t_sorts t_values n t_depths t_thrown t_ways v2 v3 = some r → xV xm_P l g (70, xm_i70, xm_I70, 0, 0, 27, [(0, .ref 59), (2, .int v2), (3, .int v3)], [.ref 59], xw_R X t_thrown s_57_1 s_57_18 s_57_19 s_57_20 s_57_24 a_58 a_59 t_kinds t_kindLetters t_kindNames a_63 a_64 a_65 t_lines t_numbers t_letters t_names t_parts t_sorts t_values t_items t_depths a_75 t_ways) (.inl (some (.int r.1)), xw_R X r.2.2.1 s_57_1 s_57_18 s_57_19 s_57_20 s_57_24 a_58 a_59 t_kinds t_kindLetters t_kindNames a_63 a_64 a_65 t_lines t_numbers t_letters t_names t_parts t_sorts t_values t_items r.2.1 a_75 r.2.2.2) := by
  intro t_depths t_thrown t_ways v2 v3 r h
  unfold xf_rf_told_27 at h
  refine xe_seg ok 2 (G := (fun K => K (70, xm_i70, xm_I70, 0, 0, 32, [(0, .ref 59), (2, .int v2), (3, .int v3)], [.int ((1 : Int32)), .ref 59], xw_R X t_thrown s_57_1 s_57_18 s_57_19 s_57_20 s_57_24 a_58 a_59 t_kinds t_kindLetters t_kindNames a_63 a_64 a_65 t_lines t_numbers t_letters t_names t_parts t_sorts t_values t_items t_depths a_75 t_ways))) (fun K => rfl) ?_
  refine xe_k ?_
  refine xe_sub [true, true, true] (lv' := [(0, .ref 59), (2, .int v2), (3, .int v3)]) rfl ?_
  have hz := xh_rf_told_57_32 (l := l) (g := g) ok a_58 a_59 a_63 a_64 a_65 a_75 s_57_1 s_57_18 s_57_19 s_57_20 s_57_24 X t_items t_kindLetters t_kindNames t_kinds t_letters t_lines t_names t_numbers t_parts t_sorts t_values n t_depths t_thrown t_ways v2 v3 ((1 : Int32)) _ h
  exact hz
set_option maxHeartbeats 400000 in
theorem xh_rf_told_57 {l : Launch} {g : xr_G} (ok : xr_OK xm_P) (a_58 a_59 a_63 a_64 a_65 a_75 : Nat → Int32) (s_57_1 s_57_18 s_57_19 s_57_20 s_57_24 : Int32) (X : Nat → xr_C) (t_items : (Nat → Int32)) (t_kindLetters : (Nat → Int32)) (t_kindNames : (Nat → Int32)) (t_kinds : (Nat → Int32)) (t_letters : (Nat → Int32)) (t_lines : (Nat → Int32)) (t_names : (Nat → Int32)) (t_numbers : (Nat → Int32)) (t_parts : (Nat → Int32)) (t_sorts : (Nat → Int32)) (t_values : (Nat → Int32)) (n : Nat) : ∀ (t_depths : (Nat → Int32)) (t_thrown : Int32) (t_ways : (Nat → Int64)) (a1 : Int32) (a2 : Int32) (r : (Int32 × (Nat → Int32) × Int32 × (Nat → Int64))), xf_rf_told t_items t_kindLetters t_kindNames t_kinds t_letters t_lines t_names t_numbers t_parts t_sorts t_values n t_depths t_thrown t_ways a1 a2 = some r → xV xm_P l g (70, xm_i70, xm_I70, 0, 0, 0, [(0, .ref 59), (1, .int a1), (2, .int a2)], [], xw_R X t_thrown s_57_1 s_57_18 s_57_19 s_57_20 s_57_24 a_58 a_59 t_kinds t_kindLetters t_kindNames a_63 a_64 a_65 t_lines t_numbers t_letters t_names t_parts t_sorts t_values t_items t_depths a_75 t_ways) (.inl (some (.int r.1)), xw_R X r.2.2.1 s_57_1 s_57_18 s_57_19 s_57_20 s_57_24 a_58 a_59 t_kinds t_kindLetters t_kindNames a_63 a_64 a_65 t_lines t_numbers t_letters t_names t_parts t_sorts t_values t_items r.2.1 a_75 r.2.2.2) := by
  intro t_depths t_thrown t_ways a1 a2 r h
  unfold xf_rf_told at h
  refine xe_seg ok 7 (G := (fun K => xr_back K 70 xm_i70 xm_I70 0 0 8 [(0, .ref 59), (1, .int a1), (2, .int a2)] [] 78 true (K (50, xm_i50, xm_I50, 0, 0, 0, [(0, .ref 59), (1, .int ((0 : Int32))), (2, .int a1)], [], xw_R X ((0 : Int32)) s_57_1 s_57_18 s_57_19 s_57_20 s_57_24 a_58 a_59 t_kinds t_kindLetters t_kindNames a_63 a_64 a_65 t_lines t_numbers t_letters t_names t_parts t_sorts t_values t_items t_depths a_75 t_ways)))) (fun K => rfl) ?_
  obtain ⟨q975, hq975, h⟩ := Option.bind_eq_some_iff.mp h
  have heq975 := xh_rf_find_57 (l := l) (g := g) ok a_58 a_59 t_kinds t_kindLetters t_kindNames a_63 a_64 a_65 t_letters t_names t_parts t_sorts t_values t_items t_depths a_75 t_ways ((0 : Int32)) s_57_1 s_57_18 s_57_19 s_57_20 s_57_24 X t_lines t_numbers n ((0 : Int32)) a1 _ hq975
  refine xe_call1 (ws' := xw_R X ((0 : Int32)) s_57_1 s_57_18 s_57_19 s_57_20 s_57_24 a_58 a_59 t_kinds t_kindLetters t_kindNames a_63 a_64 a_65 t_lines t_numbers t_letters t_names t_parts t_sorts t_values t_items t_depths a_75 t_ways) (by decide) heq975 (Or.inl rfl) ?_
  refine xe_seg ok 5 (G := (fun K => if q975 = ((-1 : Int32)) then K (70, xm_i70, xm_I70, 0, 0, 27, [(0, .ref 59), (1, .int a1), (2, .int a2), (3, .int q975)], [.ref 59], xw_R X ((0 : Int32)) s_57_1 s_57_18 s_57_19 s_57_20 s_57_24 a_58 a_59 t_kinds t_kindLetters t_kindNames a_63 a_64 a_65 t_lines t_numbers t_letters t_names t_parts t_sorts t_values t_items t_depths a_75 t_ways) else K (70, xm_i70, xm_I70, 0, 0, 18, [(0, .ref 59), (1, .int a1), (2, .int a2), (3, .int q975)], [.ref 59], xw_R X ((0 : Int32)) s_57_1 s_57_18 s_57_19 s_57_20 s_57_24 a_58 a_59 t_kinds t_kindLetters t_kindNames a_63 a_64 a_65 t_lines t_numbers t_letters t_names t_parts t_sorts t_values t_items t_depths a_75 t_ways))) (fun K => rfl) ?_
  rcases xb_if h with ⟨hc976, h⟩ | ⟨hc976, h⟩
  · refine xe_pos hc976 (xe_k ?_)
    refine xe_sub [true, false, true, true] (lv' := [(0, .ref 59), (2, .int a2), (3, .int q975)]) rfl ?_
    have hz := xh_rf_told_57_27 (l := l) (g := g) ok a_58 a_59 a_63 a_64 a_65 a_75 s_57_1 s_57_18 s_57_19 s_57_20 s_57_24 X t_items t_kindLetters t_kindNames t_kinds t_letters t_lines t_names t_numbers t_parts t_sorts t_values n t_depths ((0 : Int32)) t_ways a2 q975 _ h
    exact hz
  · refine xe_neg hc976 (xe_k ?_)
    refine xe_seg ok 2 (G := (fun K => if a2 < (0 : Int32) then K (70, xm_i70, xm_I70, 0, 0, 27, [(0, .ref 59), (1, .int a1), (2, .int a2), (3, .int q975)], [.ref 59], xw_R X ((0 : Int32)) s_57_1 s_57_18 s_57_19 s_57_20 s_57_24 a_58 a_59 t_kinds t_kindLetters t_kindNames a_63 a_64 a_65 t_lines t_numbers t_letters t_names t_parts t_sorts t_values t_items t_depths a_75 t_ways) else K (70, xm_i70, xm_I70, 0, 0, 22, [(0, .ref 59), (1, .int a1), (2, .int a2), (3, .int q975)], [.ref 59], xw_R X ((0 : Int32)) s_57_1 s_57_18 s_57_19 s_57_20 s_57_24 a_58 a_59 t_kinds t_kindLetters t_kindNames a_63 a_64 a_65 t_lines t_numbers t_letters t_names t_parts t_sorts t_values t_items t_depths a_75 t_ways))) (fun K => rfl) ?_
    rcases xb_if h with ⟨hc1040, h⟩ | ⟨hc1040, h⟩
    · refine xe_pos hc1040 (xe_k ?_)
      refine xe_sub [true, false, true, true] (lv' := [(0, .ref 59), (2, .int a2), (3, .int q975)]) rfl ?_
      have hz := xh_rf_told_57_27 (l := l) (g := g) ok a_58 a_59 a_63 a_64 a_65 a_75 s_57_1 s_57_18 s_57_19 s_57_20 s_57_24 X t_items t_kindLetters t_kindNames t_kinds t_letters t_lines t_names t_numbers t_parts t_sorts t_values n t_depths ((0 : Int32)) t_ways a2 q975 _ h
      exact hz
    · refine xe_neg hc1040 (xe_k ?_)
      refine xe_seg ok 3 (G := (fun K => if ((3 : Int32)) < a2 then K (70, xm_i70, xm_I70, 0, 0, 27, [(0, .ref 59), (1, .int a1), (2, .int a2), (3, .int q975)], [.ref 59], xw_R X ((0 : Int32)) s_57_1 s_57_18 s_57_19 s_57_20 s_57_24 a_58 a_59 t_kinds t_kindLetters t_kindNames a_63 a_64 a_65 t_lines t_numbers t_letters t_names t_parts t_sorts t_values t_items t_depths a_75 t_ways) else K (70, xm_i70, xm_I70, 0, 0, 31, [(0, .ref 59), (1, .int a1), (2, .int a2), (3, .int q975)], [.ref 59], xw_R X ((0 : Int32)) s_57_1 s_57_18 s_57_19 s_57_20 s_57_24 a_58 a_59 t_kinds t_kindLetters t_kindNames a_63 a_64 a_65 t_lines t_numbers t_letters t_names t_parts t_sorts t_values t_items t_depths a_75 t_ways))) (fun K => rfl) ?_
      rcases xb_if h with ⟨hc1041, h⟩ | ⟨hc1041, h⟩
      · refine xe_pos hc1041 (xe_k ?_)
        refine xe_sub [true, false, true, true] (lv' := [(0, .ref 59), (2, .int a2), (3, .int q975)]) rfl ?_
        have hz := xh_rf_told_57_27 (l := l) (g := g) ok a_58 a_59 a_63 a_64 a_65 a_75 s_57_1 s_57_18 s_57_19 s_57_20 s_57_24 X t_items t_kindLetters t_kindNames t_kinds t_letters t_lines t_names t_numbers t_parts t_sorts t_values n t_depths ((0 : Int32)) t_ways a2 q975 _ h
        exact hz
      · refine xe_neg hc1041 (xe_k ?_)
        refine xe_seg ok 1 (G := (fun K => K (70, xm_i70, xm_I70, 0, 0, 32, [(0, .ref 59), (1, .int a1), (2, .int a2), (3, .int q975)], [.int ((0 : Int32)), .ref 59], xw_R X ((0 : Int32)) s_57_1 s_57_18 s_57_19 s_57_20 s_57_24 a_58 a_59 t_kinds t_kindLetters t_kindNames a_63 a_64 a_65 t_lines t_numbers t_letters t_names t_parts t_sorts t_values t_items t_depths a_75 t_ways))) (fun K => rfl) ?_
        refine xe_k ?_
        refine xe_sub [true, false, true, true] (lv' := [(0, .ref 59), (2, .int a2), (3, .int q975)]) rfl ?_
        have hz := xh_rf_told_57_32 (l := l) (g := g) ok a_58 a_59 a_63 a_64 a_65 a_75 s_57_1 s_57_18 s_57_19 s_57_20 s_57_24 X t_items t_kindLetters t_kindNames t_kinds t_letters t_lines t_names t_numbers t_parts t_sorts t_values n t_depths ((0 : Int32)) t_ways a2 q975 ((0 : Int32)) _ h
        exact hz
set_option maxHeartbeats 400000 in
theorem xh_rf_argumentAt_57_36 {l : Launch} {g : xr_G} (ok : xr_OK xm_P) (a_58 a_59 a_60 a_61 a_62 a_63 a_64 a_65 a_68 a_69 a_71 a_72 a_73 a_74 a_75 : Nat → Int32) (l_76 : Nat → Int64) (s_57_0 s_57_1 s_57_18 s_57_19 s_57_20 s_57_24 : Int32) (X : Nat → xr_C) (t_lines : (Nat → Int32)) (t_numbers : (Nat → Int32)) (t_parts : (Nat → Int32)) (n : Nat) : ∀ (s0 : Int32) (r : (Int32)), xf_rf_argumentAt_36 t_lines t_numbers t_parts n s0 = some r → xV xm_P l g (71, xm_i71, xm_I71, 0, 0, 36, [], [.int s0], xw_R X s_57_0 s_57_1 s_57_18 s_57_19 s_57_20 s_57_24 a_58 a_59 a_60 a_61 a_62 a_63 a_64 a_65 t_lines t_numbers a_68 a_69 t_parts a_71 a_72 a_73 a_74 a_75 l_76) (.inl (some (.int r)), xw_R X s_57_0 s_57_1 s_57_18 s_57_19 s_57_20 s_57_24 a_58 a_59 a_60 a_61 a_62 a_63 a_64 a_65 t_lines t_numbers a_68 a_69 t_parts a_71 a_72 a_73 a_74 a_75 l_76) := by
  intro s0 r h
  unfold xf_rf_argumentAt_36 at h
  obtain rfl := Option.some.inj h
  refine xe_seg ok 1 (G := (fun _ => some (.inl (some (.int s0)), xw_R X s_57_0 s_57_1 s_57_18 s_57_19 s_57_20 s_57_24 a_58 a_59 a_60 a_61 a_62 a_63 a_64 a_65 t_lines t_numbers a_68 a_69 t_parts a_71 a_72 a_73 a_74 a_75 l_76))) (fun K => rfl) ?_
  exact xe_ret
set_option maxHeartbeats 400000 in
theorem xh_rf_argumentAt_57_26 {l : Launch} {g : xr_G} (ok : xr_OK xm_P) (a_58 a_59 a_60 a_61 a_62 a_63 a_64 a_65 a_68 a_69 a_71 a_72 a_73 a_74 a_75 : Nat → Int32) (l_76 : Nat → Int64) (s_57_0 s_57_1 s_57_18 s_57_19 s_57_20 s_57_24 : Int32) (X : Nat → xr_C) (t_lines : (Nat → Int32)) (t_numbers : (Nat → Int32)) (t_parts : (Nat → Int32)) (n : Nat) : ∀  (r : (Int32)), xf_rf_argumentAt_26 t_lines t_numbers t_parts n  = some r → xV xm_P l g (71, xm_i71, xm_I71, 0, 0, 26, [], [], xw_R X s_57_0 s_57_1 s_57_18 s_57_19 s_57_20 s_57_24 a_58 a_59 a_60 a_61 a_62 a_63 a_64 a_65 t_lines t_numbers a_68 a_69 t_parts a_71 a_72 a_73 a_74 a_75 l_76) (.inl (some (.int r)), xw_R X s_57_0 s_57_1 s_57_18 s_57_19 s_57_20 s_57_24 a_58 a_59 a_60 a_61 a_62 a_63 a_64 a_65 t_lines t_numbers a_68 a_69 t_parts a_71 a_72 a_73 a_74 a_75 l_76) := by
  intro  r h
  unfold xf_rf_argumentAt_26 at h
  refine xe_seg ok 2 (G := (fun K => K (71, xm_i71, xm_I71, 0, 0, 36, [], [.int ((-1 : Int32))], xw_R X s_57_0 s_57_1 s_57_18 s_57_19 s_57_20 s_57_24 a_58 a_59 a_60 a_61 a_62 a_63 a_64 a_65 t_lines t_numbers a_68 a_69 t_parts a_71 a_72 a_73 a_74 a_75 l_76))) (fun K => rfl) ?_
  refine xe_k ?_
  refine xe_sub [] (lv' := []) rfl ?_
  have hz := xh_rf_argumentAt_57_36 (l := l) (g := g) ok a_58 a_59 a_60 a_61 a_62 a_63 a_64 a_65 a_68 a_69 a_71 a_72 a_73 a_74 a_75 l_76 s_57_0 s_57_1 s_57_18 s_57_19 s_57_20 s_57_24 X t_lines t_numbers t_parts n ((-1 : Int32)) _ h
  exact hz
set_option maxHeartbeats 400000 in
theorem xh_rf_argumentAt_57 {l : Launch} {g : xr_G} (ok : xr_OK xm_P) (a_58 a_59 a_60 a_61 a_62 a_63 a_64 a_65 a_68 a_69 a_71 a_72 a_73 a_74 a_75 : Nat → Int32) (l_76 : Nat → Int64) (s_57_0 s_57_1 s_57_18 s_57_19 s_57_20 s_57_24 : Int32) (X : Nat → xr_C) (t_lines : (Nat → Int32)) (t_numbers : (Nat → Int32)) (t_parts : (Nat → Int32)) (n : Nat) : ∀ (a1 : Int32) (a2 : Int32) (r : (Int32)), xf_rf_argumentAt t_lines t_numbers t_parts n a1 a2 = some r → xV xm_P l g (71, xm_i71, xm_I71, 0, 0, 0, [(0, .ref 59), (1, .int a1), (2, .int a2)], [], xw_R X s_57_0 s_57_1 s_57_18 s_57_19 s_57_20 s_57_24 a_58 a_59 a_60 a_61 a_62 a_63 a_64 a_65 t_lines t_numbers a_68 a_69 t_parts a_71 a_72 a_73 a_74 a_75 l_76) (.inl (some (.int r)), xw_R X s_57_0 s_57_1 s_57_18 s_57_19 s_57_20 s_57_24 a_58 a_59 a_60 a_61 a_62 a_63 a_64 a_65 t_lines t_numbers a_68 a_69 t_parts a_71 a_72 a_73 a_74 a_75 l_76) := by
  intro a1 a2 r h
  unfold xf_rf_argumentAt at h
  refine xe_seg ok 4 (G := (fun K => xr_back K 71 xm_i71 xm_I71 0 0 3 [(0, .ref 59), (1, .int a1), (2, .int a2)] [] 78 true (K (50, xm_i50, xm_I50, 0, 0, 0, [(0, .ref 59), (1, .int ((0 : Int32))), (2, .int a1)], [], xw_R X s_57_0 s_57_1 s_57_18 s_57_19 s_57_20 s_57_24 a_58 a_59 a_60 a_61 a_62 a_63 a_64 a_65 t_lines t_numbers a_68 a_69 t_parts a_71 a_72 a_73 a_74 a_75 l_76)))) (fun K => rfl) ?_
  obtain ⟨q1042, hq1042, h⟩ := Option.bind_eq_some_iff.mp h
  have heq1042 := xh_rf_find_57 (l := l) (g := g) ok a_58 a_59 a_60 a_61 a_62 a_63 a_64 a_65 a_68 a_69 t_parts a_71 a_72 a_73 a_74 a_75 l_76 s_57_0 s_57_1 s_57_18 s_57_19 s_57_20 s_57_24 X t_lines t_numbers n ((0 : Int32)) a1 _ hq1042
  refine xe_call1 (ws' := xw_R X s_57_0 s_57_1 s_57_18 s_57_19 s_57_20 s_57_24 a_58 a_59 a_60 a_61 a_62 a_63 a_64 a_65 t_lines t_numbers a_68 a_69 t_parts a_71 a_72 a_73 a_74 a_75 l_76) (by decide) heq1042 (Or.inl rfl) ?_
  refine xe_seg ok 4 (G := (fun K => if q1042 = ((-1 : Int32)) then K (71, xm_i71, xm_I71, 0, 0, 26, [(0, .ref 59), (1, .int a1), (2, .int a2), (3, .int q1042)], [], xw_R X s_57_0 s_57_1 s_57_18 s_57_19 s_57_20 s_57_24 a_58 a_59 a_60 a_61 a_62 a_63 a_64 a_65 t_lines t_numbers a_68 a_69 t_parts a_71 a_72 a_73 a_74 a_75 l_76) else K (71, xm_i71, xm_I71, 0, 0, 12, [(0, .ref 59), (1, .int a1), (2, .int a2), (3, .int q1042)], [], xw_R X s_57_0 s_57_1 s_57_18 s_57_19 s_57_20 s_57_24 a_58 a_59 a_60 a_61 a_62 a_63 a_64 a_65 t_lines t_numbers a_68 a_69 t_parts a_71 a_72 a_73 a_74 a_75 l_76))) (fun K => rfl) ?_
  rcases xb_if h with ⟨hc1043, h⟩ | ⟨hc1043, h⟩
  · refine xe_pos hc1043 (xe_k ?_)
    refine xe_sub [false, false, false, false] (lv' := []) rfl ?_
    have hz := xh_rf_argumentAt_57_26 (l := l) (g := g) ok a_58 a_59 a_60 a_61 a_62 a_63 a_64 a_65 a_68 a_69 a_71 a_72 a_73 a_74 a_75 l_76 s_57_0 s_57_1 s_57_18 s_57_19 s_57_20 s_57_24 X t_lines t_numbers t_parts n _ h
    exact hz
  · refine xe_neg hc1043 (xe_k ?_)
    refine xe_seg ok 2 (G := (fun K => if a2 < (0 : Int32) then K (71, xm_i71, xm_I71, 0, 0, 26, [(0, .ref 59), (1, .int a1), (2, .int a2), (3, .int q1042)], [], xw_R X s_57_0 s_57_1 s_57_18 s_57_19 s_57_20 s_57_24 a_58 a_59 a_60 a_61 a_62 a_63 a_64 a_65 t_lines t_numbers a_68 a_69 t_parts a_71 a_72 a_73 a_74 a_75 l_76) else K (71, xm_i71, xm_I71, 0, 0, 16, [(0, .ref 59), (1, .int a1), (2, .int a2), (3, .int q1042)], [], xw_R X s_57_0 s_57_1 s_57_18 s_57_19 s_57_20 s_57_24 a_58 a_59 a_60 a_61 a_62 a_63 a_64 a_65 t_lines t_numbers a_68 a_69 t_parts a_71 a_72 a_73 a_74 a_75 l_76))) (fun K => rfl) ?_
    rcases xb_if h with ⟨hc1044, h⟩ | ⟨hc1044, h⟩
    · refine xe_pos hc1044 (xe_k ?_)
      refine xe_sub [false, false, false, false] (lv' := []) rfl ?_
      have hz := xh_rf_argumentAt_57_26 (l := l) (g := g) ok a_58 a_59 a_60 a_61 a_62 a_63 a_64 a_65 a_68 a_69 a_71 a_72 a_73 a_74 a_75 l_76 s_57_0 s_57_1 s_57_18 s_57_19 s_57_20 s_57_24 X t_lines t_numbers t_parts n _ h
      exact hz
    · refine xe_neg hc1044 (xe_k ?_)
      refine xe_seg ok 5 (G := (fun K => if xr_in q1042 120 = true then K (71, xm_i71, xm_I71, 0, 0, 23, [(0, .ref 59), (1, .int a1), (2, .int a2), (3, .int q1042)], [.int (t_parts q1042.toNatClampNeg), .int a2], xw_R X s_57_0 s_57_1 s_57_18 s_57_19 s_57_20 s_57_24 a_58 a_59 a_60 a_61 a_62 a_63 a_64 a_65 t_lines t_numbers a_68 a_69 t_parts a_71 a_72 a_73 a_74 a_75 l_76) else none)) (fun K => rfl) ?_
      obtain ⟨hg1045, h⟩ := xn_if h
      refine xe_pos hg1045 (xe_k ?_)
      refine xe_seg ok 1 (G := (fun K => if a2 < (t_parts q1042.toNatClampNeg) then K (71, xm_i71, xm_I71, 0, 0, 30, [(0, .ref 59), (1, .int a1), (2, .int a2), (3, .int q1042)], [], xw_R X s_57_0 s_57_1 s_57_18 s_57_19 s_57_20 s_57_24 a_58 a_59 a_60 a_61 a_62 a_63 a_64 a_65 t_lines t_numbers a_68 a_69 t_parts a_71 a_72 a_73 a_74 a_75 l_76) else K (71, xm_i71, xm_I71, 0, 0, 26, [(0, .ref 59), (1, .int a1), (2, .int a2), (3, .int q1042)], [], xw_R X s_57_0 s_57_1 s_57_18 s_57_19 s_57_20 s_57_24 a_58 a_59 a_60 a_61 a_62 a_63 a_64 a_65 t_lines t_numbers a_68 a_69 t_parts a_71 a_72 a_73 a_74 a_75 l_76))) (fun K => rfl) ?_
      rcases xb_if h with ⟨hc1046, h⟩ | ⟨hc1046, h⟩
      · refine xe_pos hc1046 (xe_k ?_)
        refine xe_seg ok 5 (G := (fun K => K (71, xm_i71, xm_I71, 0, 0, 36, [(0, .ref 59), (1, .int a1), (2, .int a2), (3, .int q1042)], [.int ((((8 : Int32)) * q1042) + a2)], xw_R X s_57_0 s_57_1 s_57_18 s_57_19 s_57_20 s_57_24 a_58 a_59 a_60 a_61 a_62 a_63 a_64 a_65 t_lines t_numbers a_68 a_69 t_parts a_71 a_72 a_73 a_74 a_75 l_76))) (fun K => rfl) ?_
        refine xe_k ?_
        refine xe_sub [false, false, false, false] (lv' := []) rfl ?_
        have hz := xh_rf_argumentAt_57_36 (l := l) (g := g) ok a_58 a_59 a_60 a_61 a_62 a_63 a_64 a_65 a_68 a_69 a_71 a_72 a_73 a_74 a_75 l_76 s_57_0 s_57_1 s_57_18 s_57_19 s_57_20 s_57_24 X t_lines t_numbers t_parts n ((((8 : Int32)) * q1042) + a2) _ h
        exact hz
      · refine xe_neg hc1046 (xe_k ?_)
        refine xe_sub [false, false, false, false] (lv' := []) rfl ?_
        have hz := xh_rf_argumentAt_57_26 (l := l) (g := g) ok a_58 a_59 a_60 a_61 a_62 a_63 a_64 a_65 a_68 a_69 a_71 a_72 a_73 a_74 a_75 l_76 s_57_0 s_57_1 s_57_18 s_57_19 s_57_20 s_57_24 X t_lines t_numbers t_parts n _ h
        exact hz
set_option maxHeartbeats 400000 in
theorem xh_rf_argument3_57_64 {l : Launch} {g : xr_G} (ok : xr_OK xm_P) (a_58 a_59 a_60 a_61 a_62 a_63 a_64 a_65 a_68 a_69 a_73 a_74 a_75 : Nat → Int32) (l_76 : Nat → Int64) (s_57_1 s_57_18 s_57_19 s_57_20 s_57_24 : Int32) (X : Nat → xr_C) (t_lines : (Nat → Int32)) (t_numbers : (Nat → Int32)) (t_parts : (Nat → Int32)) (t_sorts : (Nat → Int32)) (t_values : (Nat → Int32)) (n : Nat) : ∀ (t_thrown : Int32) (s0 : Int32) (r : (Int32 × Int32)), xf_rf_argument3_64 t_lines t_numbers t_parts t_sorts t_values n t_thrown s0 = some r → xV xm_P l g (72, xm_i72, xm_I72, 0, 0, 64, [], [.int s0], xw_R X t_thrown s_57_1 s_57_18 s_57_19 s_57_20 s_57_24 a_58 a_59 a_60 a_61 a_62 a_63 a_64 a_65 t_lines t_numbers a_68 a_69 t_parts t_sorts t_values a_73 a_74 a_75 l_76) (.inl (some (.int r.1)), xw_R X r.2 s_57_1 s_57_18 s_57_19 s_57_20 s_57_24 a_58 a_59 a_60 a_61 a_62 a_63 a_64 a_65 t_lines t_numbers a_68 a_69 t_parts t_sorts t_values a_73 a_74 a_75 l_76) := by
  intro t_thrown s0 r h
  unfold xf_rf_argument3_64 at h
  obtain rfl := Option.some.inj h
  refine xe_seg ok 1 (G := (fun _ => some (.inl (some (.int s0)), xw_R X t_thrown s_57_1 s_57_18 s_57_19 s_57_20 s_57_24 a_58 a_59 a_60 a_61 a_62 a_63 a_64 a_65 t_lines t_numbers a_68 a_69 t_parts t_sorts t_values a_73 a_74 a_75 l_76))) (fun K => rfl) ?_
  exact xe_ret
set_option maxHeartbeats 400000 in
theorem xh_rf_argument3_57_34 {l : Launch} {g : xr_G} (ok : xr_OK xm_P) (a_58 a_59 a_60 a_61 a_62 a_63 a_64 a_65 a_68 a_69 a_73 a_74 a_75 : Nat → Int32) (l_76 : Nat → Int64) (s_57_1 s_57_18 s_57_19 s_57_20 s_57_24 : Int32) (X : Nat → xr_C) (t_lines : (Nat → Int32)) (t_numbers : (Nat → Int32)) (t_parts : (Nat → Int32)) (t_sorts : (Nat → Int32)) (t_values : (Nat → Int32)) (n : Nat) : ∀ (t_thrown : Int32) (v3 : Int32) (v4 : Int32) (s1 : Int32) (r : (Int32 × Int32)), xf_rf_argument3_34 t_lines t_numbers t_parts t_sorts t_values n t_thrown v3 v4 s1 = some r → xV xm_P l g (72, xm_i72, xm_I72, 0, 0, 34, [(0, .ref 59), (3, .int v3), (4, .int v4)], [.int s1, .ref 59], xw_R X t_thrown s_57_1 s_57_18 s_57_19 s_57_20 s_57_24 a_58 a_59 a_60 a_61 a_62 a_63 a_64 a_65 t_lines t_numbers a_68 a_69 t_parts t_sorts t_values a_73 a_74 a_75 l_76) (.inl (some (.int r.1)), xw_R X r.2 s_57_1 s_57_18 s_57_19 s_57_20 s_57_24 a_58 a_59 a_60 a_61 a_62 a_63 a_64 a_65 t_lines t_numbers a_68 a_69 t_parts t_sorts t_values a_73 a_74 a_75 l_76) := by
  intro t_thrown v3 v4 s1 r h
  unfold xf_rf_argument3_34 at h
  refine xe_seg ok 2 (G := (fun K => xr_back K 72 xm_i72 xm_I72 0 0 35 [(0, .ref 59), (3, .int v3), (4, .int v4)] [] 78 true (K (32, xm_i32, xm_I32, 0, 0, 0, [(0, .ref 59), (1, .int s1), (2, .int ((1 : Int32)))], [], xw_R X t_thrown s_57_1 s_57_18 s_57_19 s_57_20 s_57_24 a_58 a_59 a_60 a_61 a_62 a_63 a_64 a_65 t_lines t_numbers a_68 a_69 t_parts t_sorts t_values a_73 a_74 a_75 l_76)))) (fun K => rfl) ?_
  obtain ⟨q1049, hq1049, h⟩ := Option.bind_eq_some_iff.mp h
  have heq1049 := xh_rf_fails_57 (l := l) (g := g) ok a_58 a_59 a_60 a_61 a_62 a_63 a_64 a_65 t_lines t_numbers a_68 a_69 t_parts t_sorts t_values a_73 a_74 a_75 l_76 s_57_1 s_57_18 s_57_19 s_57_20 s_57_24 X t_thrown s1 ((1 : Int32)) _ hq1049
  refine xe_call1 (ws' := xw_R X q1049.2 s_57_1 s_57_18 s_57_19 s_57_20 s_57_24 a_58 a_59 a_60 a_61 a_62 a_63 a_64 a_65 t_lines t_numbers a_68 a_69 t_parts t_sorts t_values a_73 a_74 a_75 l_76) (by decide) heq1049 (Or.inl rfl) ?_
  refine xe_seg ok 1 (G := (fun K => if q1049.1 = (0 : Int32) then K (72, xm_i72, xm_I72, 0, 0, 43, [(0, .ref 59), (3, .int v3), (4, .int v4)], [], xw_R X q1049.2 s_57_1 s_57_18 s_57_19 s_57_20 s_57_24 a_58 a_59 a_60 a_61 a_62 a_63 a_64 a_65 t_lines t_numbers a_68 a_69 t_parts t_sorts t_values a_73 a_74 a_75 l_76) else K (72, xm_i72, xm_I72, 0, 0, 41, [(0, .ref 59), (3, .int v3), (4, .int v4)], [], xw_R X q1049.2 s_57_1 s_57_18 s_57_19 s_57_20 s_57_24 a_58 a_59 a_60 a_61 a_62 a_63 a_64 a_65 t_lines t_numbers a_68 a_69 t_parts t_sorts t_values a_73 a_74 a_75 l_76))) (fun K => rfl) ?_
  rcases xb_if h with ⟨hc1050, h⟩ | ⟨hc1050, h⟩
  · refine xe_pos hc1050 (xe_k ?_)
    refine xe_seg ok 2 (G := (fun K => if v3 = (0 : Int32) then K (72, xm_i72, xm_I72, 0, 0, 47, [(0, .ref 59), (3, .int v3), (4, .int v4)], [], xw_R X q1049.2 s_57_1 s_57_18 s_57_19 s_57_20 s_57_24 a_58 a_59 a_60 a_61 a_62 a_63 a_64 a_65 t_lines t_numbers a_68 a_69 t_parts t_sorts t_values a_73 a_74 a_75 l_76) else K (72, xm_i72, xm_I72, 0, 0, 57, [(0, .ref 59), (3, .int v3), (4, .int v4)], [], xw_R X q1049.2 s_57_1 s_57_18 s_57_19 s_57_20 s_57_24 a_58 a_59 a_60 a_61 a_62 a_63 a_64 a_65 t_lines t_numbers a_68 a_69 t_parts t_sorts t_values a_73 a_74 a_75 l_76))) (fun K => rfl) ?_
    rcases xb_if h with ⟨hc1051, h⟩ | ⟨hc1051, h⟩
    · refine xe_pos hc1051 (xe_k ?_)
      refine xe_seg ok 4 (G := (fun K => if xr_in v4 960 = true then K (72, xm_i72, xm_I72, 0, 0, 54, [(0, .ref 59), (3, .int v3), (4, .int v4)], [.int (t_sorts v4.toNatClampNeg)], xw_R X q1049.2 s_57_1 s_57_18 s_57_19 s_57_20 s_57_24 a_58 a_59 a_60 a_61 a_62 a_63 a_64 a_65 t_lines t_numbers a_68 a_69 t_parts t_sorts t_values a_73 a_74 a_75 l_76) else none)) (fun K => rfl) ?_
      obtain ⟨hg1052, h⟩ := xn_if h
      refine xe_pos hg1052 (xe_k ?_)
      refine xe_seg ok 1 (G := (fun K => K (72, xm_i72, xm_I72, 0, 0, 64, [(0, .ref 59), (3, .int v3), (4, .int v4)], [.int (t_sorts v4.toNatClampNeg)], xw_R X q1049.2 s_57_1 s_57_18 s_57_19 s_57_20 s_57_24 a_58 a_59 a_60 a_61 a_62 a_63 a_64 a_65 t_lines t_numbers a_68 a_69 t_parts t_sorts t_values a_73 a_74 a_75 l_76))) (fun K => rfl) ?_
      refine xe_k ?_
      refine xe_sub [false, false, false] (lv' := []) rfl ?_
      have hz := xh_rf_argument3_57_64 (l := l) (g := g) ok a_58 a_59 a_60 a_61 a_62 a_63 a_64 a_65 a_68 a_69 a_73 a_74 a_75 l_76 s_57_1 s_57_18 s_57_19 s_57_20 s_57_24 X t_lines t_numbers t_parts t_sorts t_values n q1049.2 (t_sorts v4.toNatClampNeg) _ h
      exact hz
    · refine xe_neg hc1051 (xe_k ?_)
      refine xe_seg ok 4 (G := (fun K => if xr_in v4 960 = true then K (72, xm_i72, xm_I72, 0, 0, 64, [(0, .ref 59), (3, .int v3), (4, .int v4)], [.int (t_values v4.toNatClampNeg)], xw_R X q1049.2 s_57_1 s_57_18 s_57_19 s_57_20 s_57_24 a_58 a_59 a_60 a_61 a_62 a_63 a_64 a_65 t_lines t_numbers a_68 a_69 t_parts t_sorts t_values a_73 a_74 a_75 l_76) else none)) (fun K => rfl) ?_
      obtain ⟨hg1053, h⟩ := xn_if h
      refine xe_pos hg1053 (xe_k ?_)
      refine xe_sub [false, false, false] (lv' := []) rfl ?_
      have hz := xh_rf_argument3_57_64 (l := l) (g := g) ok a_58 a_59 a_60 a_61 a_62 a_63 a_64 a_65 a_68 a_69 a_73 a_74 a_75 l_76 s_57_1 s_57_18 s_57_19 s_57_20 s_57_24 X t_lines t_numbers t_parts t_sorts t_values n q1049.2 (t_values v4.toNatClampNeg) _ h
      exact hz
  · refine xe_neg hc1050 (xe_k ?_)
    obtain rfl := Option.some.inj h
    refine xe_seg ok 2 (G := (fun _ => some (.inl (some (.int ((0 : Int32)))), xw_R X q1049.2 s_57_1 s_57_18 s_57_19 s_57_20 s_57_24 a_58 a_59 a_60 a_61 a_62 a_63 a_64 a_65 t_lines t_numbers a_68 a_69 t_parts t_sorts t_values a_73 a_74 a_75 l_76))) (fun K => rfl) ?_
    exact xe_ret
set_option maxHeartbeats 400000 in
theorem xh_rf_argument3_57_29 {l : Launch} {g : xr_G} (ok : xr_OK xm_P) (a_58 a_59 a_60 a_61 a_62 a_63 a_64 a_65 a_68 a_69 a_73 a_74 a_75 : Nat → Int32) (l_76 : Nat → Int64) (s_57_1 s_57_18 s_57_19 s_57_20 s_57_24 : Int32) (X : Nat → xr_C) (t_lines : (Nat → Int32)) (t_numbers : (Nat → Int32)) (t_parts : (Nat → Int32)) (t_sorts : (Nat → Int32)) (t_values : (Nat → Int32)) (n : Nat) : ∀ (t_thrown : Int32) (v3 : Int32) (v4 : Int32) (r : (Int32 × Int32)), xf_rf_argument3_29 t_lines t_numbers t_parts t_sorts t_values n t_thrown v3 v4 = some r → xV xm_P l g (72, xm_i72, xm_I72, 0, 0, 29, [(0, .ref 59), (3, .int v3), (4, .int v4)], [.ref 59], xw_R X t_thrown s_57_1 s_57_18 s_57_19 s_57_20 s_57_24 a_58 a_59 a_60 a_61 a_62 a_63 a_64 a_65 t_lines t_numbers a_68 a_69 t_parts t_sorts t_values a_73 a_74 a_75 l_76) (.inl (some (.int r.1)), xw_R X r.2 s_57_1 s_57_18 s_57_19 s_57_20 s_57_24 a_58 a_59 a_60 a_61 a_62 a_63 a_64 a_65 t_lines t_numbers a_68 a_69 t_parts t_sorts t_values a_73 a_74 a_75 l_76) := by
  intro t_thrown v3 v4 r h
  unfold xf_rf_argument3_29 at h
  refine xe_seg ok 2 (G := (fun K => K (72, xm_i72, xm_I72, 0, 0, 34, [(0, .ref 59), (3, .int v3), (4, .int v4)], [.int ((1 : Int32)), .ref 59], xw_R X t_thrown s_57_1 s_57_18 s_57_19 s_57_20 s_57_24 a_58 a_59 a_60 a_61 a_62 a_63 a_64 a_65 t_lines t_numbers a_68 a_69 t_parts t_sorts t_values a_73 a_74 a_75 l_76))) (fun K => rfl) ?_
  refine xe_k ?_
  refine xe_sub [true, true, true] (lv' := [(0, .ref 59), (3, .int v3), (4, .int v4)]) rfl ?_
  have hz := xh_rf_argument3_57_34 (l := l) (g := g) ok a_58 a_59 a_60 a_61 a_62 a_63 a_64 a_65 a_68 a_69 a_73 a_74 a_75 l_76 s_57_1 s_57_18 s_57_19 s_57_20 s_57_24 X t_lines t_numbers t_parts t_sorts t_values n t_thrown v3 v4 ((1 : Int32)) _ h
  exact hz
set_option maxHeartbeats 400000 in
theorem xh_rf_argument3_57 {l : Launch} {g : xr_G} (ok : xr_OK xm_P) (a_58 a_59 a_60 a_61 a_62 a_63 a_64 a_65 a_68 a_69 a_73 a_74 a_75 : Nat → Int32) (l_76 : Nat → Int64) (s_57_1 s_57_18 s_57_19 s_57_20 s_57_24 : Int32) (X : Nat → xr_C) (t_lines : (Nat → Int32)) (t_numbers : (Nat → Int32)) (t_parts : (Nat → Int32)) (t_sorts : (Nat → Int32)) (t_values : (Nat → Int32)) (n : Nat) : ∀ (t_thrown : Int32) (a1 : Int32) (a2 : Int32) (a3 : Int32) (r : (Int32 × Int32)), xf_rf_argument3 t_lines t_numbers t_parts t_sorts t_values n t_thrown a1 a2 a3 = some r → xV xm_P l g (72, xm_i72, xm_I72, 0, 0, 0, [(0, .ref 59), (1, .int a1), (2, .int a2), (3, .int a3)], [], xw_R X t_thrown s_57_1 s_57_18 s_57_19 s_57_20 s_57_24 a_58 a_59 a_60 a_61 a_62 a_63 a_64 a_65 t_lines t_numbers a_68 a_69 t_parts t_sorts t_values a_73 a_74 a_75 l_76) (.inl (some (.int r.1)), xw_R X r.2 s_57_1 s_57_18 s_57_19 s_57_20 s_57_24 a_58 a_59 a_60 a_61 a_62 a_63 a_64 a_65 t_lines t_numbers a_68 a_69 t_parts t_sorts t_values a_73 a_74 a_75 l_76) := by
  intro t_thrown a1 a2 a3 r h
  unfold xf_rf_argument3 at h
  refine xe_seg ok 7 (G := (fun K => xr_back K 72 xm_i72 xm_I72 0 0 8 [(0, .ref 59), (1, .int a1), (2, .int a2), (3, .int a3)] [] 78 true (K (71, xm_i71, xm_I71, 0, 0, 0, [(0, .ref 59), (1, .int a1), (2, .int a2)], [], xw_R X ((0 : Int32)) s_57_1 s_57_18 s_57_19 s_57_20 s_57_24 a_58 a_59 a_60 a_61 a_62 a_63 a_64 a_65 t_lines t_numbers a_68 a_69 t_parts t_sorts t_values a_73 a_74 a_75 l_76)))) (fun K => rfl) ?_
  obtain ⟨q1047, hq1047, h⟩ := Option.bind_eq_some_iff.mp h
  have heq1047 := xh_rf_argumentAt_57 (l := l) (g := g) ok a_58 a_59 a_60 a_61 a_62 a_63 a_64 a_65 a_68 a_69 t_sorts t_values a_73 a_74 a_75 l_76 ((0 : Int32)) s_57_1 s_57_18 s_57_19 s_57_20 s_57_24 X t_lines t_numbers t_parts n a1 a2 _ hq1047
  refine xe_call1 (ws' := xw_R X ((0 : Int32)) s_57_1 s_57_18 s_57_19 s_57_20 s_57_24 a_58 a_59 a_60 a_61 a_62 a_63 a_64 a_65 t_lines t_numbers a_68 a_69 t_parts t_sorts t_values a_73 a_74 a_75 l_76) (by decide) heq1047 (Or.inl rfl) ?_
  refine xe_seg ok 5 (G := (fun K => if q1047 = ((-1 : Int32)) then K (72, xm_i72, xm_I72, 0, 0, 29, [(0, .ref 59), (1, .int a1), (2, .int a2), (3, .int a3), (4, .int q1047)], [.ref 59], xw_R X ((0 : Int32)) s_57_1 s_57_18 s_57_19 s_57_20 s_57_24 a_58 a_59 a_60 a_61 a_62 a_63 a_64 a_65 t_lines t_numbers a_68 a_69 t_parts t_sorts t_values a_73 a_74 a_75 l_76) else K (72, xm_i72, xm_I72, 0, 0, 20, [(0, .ref 59), (1, .int a1), (2, .int a2), (3, .int a3), (4, .int q1047)], [.ref 59], xw_R X ((0 : Int32)) s_57_1 s_57_18 s_57_19 s_57_20 s_57_24 a_58 a_59 a_60 a_61 a_62 a_63 a_64 a_65 t_lines t_numbers a_68 a_69 t_parts t_sorts t_values a_73 a_74 a_75 l_76))) (fun K => rfl) ?_
  rcases xb_if h with ⟨hc1048, h⟩ | ⟨hc1048, h⟩
  · refine xe_pos hc1048 (xe_k ?_)
    refine xe_sub [true, false, false, true, true] (lv' := [(0, .ref 59), (3, .int a3), (4, .int q1047)]) rfl ?_
    have hz := xh_rf_argument3_57_29 (l := l) (g := g) ok a_58 a_59 a_60 a_61 a_62 a_63 a_64 a_65 a_68 a_69 a_73 a_74 a_75 l_76 s_57_1 s_57_18 s_57_19 s_57_20 s_57_24 X t_lines t_numbers t_parts t_sorts t_values n ((0 : Int32)) a3 q1047 _ h
    exact hz
  · refine xe_neg hc1048 (xe_k ?_)
    refine xe_seg ok 2 (G := (fun K => if a3 < (0 : Int32) then K (72, xm_i72, xm_I72, 0, 0, 29, [(0, .ref 59), (1, .int a1), (2, .int a2), (3, .int a3), (4, .int q1047)], [.ref 59], xw_R X ((0 : Int32)) s_57_1 s_57_18 s_57_19 s_57_20 s_57_24 a_58 a_59 a_60 a_61 a_62 a_63 a_64 a_65 t_lines t_numbers a_68 a_69 t_parts t_sorts t_values a_73 a_74 a_75 l_76) else K (72, xm_i72, xm_I72, 0, 0, 24, [(0, .ref 59), (1, .int a1), (2, .int a2), (3, .int a3), (4, .int q1047)], [.ref 59], xw_R X ((0 : Int32)) s_57_1 s_57_18 s_57_19 s_57_20 s_57_24 a_58 a_59 a_60 a_61 a_62 a_63 a_64 a_65 t_lines t_numbers a_68 a_69 t_parts t_sorts t_values a_73 a_74 a_75 l_76))) (fun K => rfl) ?_
    rcases xb_if h with ⟨hc1054, h⟩ | ⟨hc1054, h⟩
    · refine xe_pos hc1054 (xe_k ?_)
      refine xe_sub [true, false, false, true, true] (lv' := [(0, .ref 59), (3, .int a3), (4, .int q1047)]) rfl ?_
      have hz := xh_rf_argument3_57_29 (l := l) (g := g) ok a_58 a_59 a_60 a_61 a_62 a_63 a_64 a_65 a_68 a_69 a_73 a_74 a_75 l_76 s_57_1 s_57_18 s_57_19 s_57_20 s_57_24 X t_lines t_numbers t_parts t_sorts t_values n ((0 : Int32)) a3 q1047 _ h
      exact hz
    · refine xe_neg hc1054 (xe_k ?_)
      refine xe_seg ok 3 (G := (fun K => if ((1 : Int32)) < a3 then K (72, xm_i72, xm_I72, 0, 0, 29, [(0, .ref 59), (1, .int a1), (2, .int a2), (3, .int a3), (4, .int q1047)], [.ref 59], xw_R X ((0 : Int32)) s_57_1 s_57_18 s_57_19 s_57_20 s_57_24 a_58 a_59 a_60 a_61 a_62 a_63 a_64 a_65 t_lines t_numbers a_68 a_69 t_parts t_sorts t_values a_73 a_74 a_75 l_76) else K (72, xm_i72, xm_I72, 0, 0, 33, [(0, .ref 59), (1, .int a1), (2, .int a2), (3, .int a3), (4, .int q1047)], [.ref 59], xw_R X ((0 : Int32)) s_57_1 s_57_18 s_57_19 s_57_20 s_57_24 a_58 a_59 a_60 a_61 a_62 a_63 a_64 a_65 t_lines t_numbers a_68 a_69 t_parts t_sorts t_values a_73 a_74 a_75 l_76))) (fun K => rfl) ?_
      rcases xb_if h with ⟨hc1055, h⟩ | ⟨hc1055, h⟩
      · refine xe_pos hc1055 (xe_k ?_)
        refine xe_sub [true, false, false, true, true] (lv' := [(0, .ref 59), (3, .int a3), (4, .int q1047)]) rfl ?_
        have hz := xh_rf_argument3_57_29 (l := l) (g := g) ok a_58 a_59 a_60 a_61 a_62 a_63 a_64 a_65 a_68 a_69 a_73 a_74 a_75 l_76 s_57_1 s_57_18 s_57_19 s_57_20 s_57_24 X t_lines t_numbers t_parts t_sorts t_values n ((0 : Int32)) a3 q1047 _ h
        exact hz
      · refine xe_neg hc1055 (xe_k ?_)
        refine xe_seg ok 1 (G := (fun K => K (72, xm_i72, xm_I72, 0, 0, 34, [(0, .ref 59), (1, .int a1), (2, .int a2), (3, .int a3), (4, .int q1047)], [.int ((0 : Int32)), .ref 59], xw_R X ((0 : Int32)) s_57_1 s_57_18 s_57_19 s_57_20 s_57_24 a_58 a_59 a_60 a_61 a_62 a_63 a_64 a_65 t_lines t_numbers a_68 a_69 t_parts t_sorts t_values a_73 a_74 a_75 l_76))) (fun K => rfl) ?_
        refine xe_k ?_
        refine xe_sub [true, false, false, true, true] (lv' := [(0, .ref 59), (3, .int a3), (4, .int q1047)]) rfl ?_
        have hz := xh_rf_argument3_57_34 (l := l) (g := g) ok a_58 a_59 a_60 a_61 a_62 a_63 a_64 a_65 a_68 a_69 a_73 a_74 a_75 l_76 s_57_1 s_57_18 s_57_19 s_57_20 s_57_24 X t_lines t_numbers t_parts t_sorts t_values n ((0 : Int32)) a3 q1047 ((0 : Int32)) _ h
        exact hz
set_option maxHeartbeats 400000 in
theorem xh_rf_item_57_85 {l : Launch} {g : xr_G} (ok : xr_OK xm_P) (a_58 a_59 a_60 a_61 a_62 a_63 a_64 a_65 a_68 a_69 a_74 a_75 : Nat → Int32) (l_76 : Nat → Int64) (s_57_1 s_57_18 s_57_19 s_57_20 s_57_24 : Int32) (X : Nat → xr_C) (t_items : (Nat → Int32)) (t_lines : (Nat → Int32)) (t_numbers : (Nat → Int32)) (t_parts : (Nat → Int32)) (t_sorts : (Nat → Int32)) (t_values : (Nat → Int32)) (n : Nat) : ∀ (t_thrown : Int32) (v3 : Int32) (v4 : Int32) (s1 : Int32) (r : (Int32 × Int32)), xf_rf_item_85 t_items t_lines t_numbers t_parts t_sorts t_values n t_thrown v3 v4 s1 = some r → xV xm_P l g (73, xm_i73, xm_I73, 0, 0, 85, [(0, .ref 59), (3, .int v3), (4, .int v4)], [.int s1, .ref 59], xw_R X t_thrown s_57_1 s_57_18 s_57_19 s_57_20 s_57_24 a_58 a_59 a_60 a_61 a_62 a_63 a_64 a_65 t_lines t_numbers a_68 a_69 t_parts t_sorts t_values t_items a_74 a_75 l_76) (.inl (some (.int r.1)), xw_R X r.2 s_57_1 s_57_18 s_57_19 s_57_20 s_57_24 a_58 a_59 a_60 a_61 a_62 a_63 a_64 a_65 t_lines t_numbers a_68 a_69 t_parts t_sorts t_values t_items a_74 a_75 l_76) := by
  intro t_thrown v3 v4 s1 r h
  unfold xf_rf_item_85 at h
  refine xe_seg ok 2 (G := (fun K => xr_back K 73 xm_i73 xm_I73 0 0 86 [(0, .ref 59), (3, .int v3), (4, .int v4)] [] 78 true (K (32, xm_i32, xm_I32, 0, 0, 0, [(0, .ref 59), (1, .int s1), (2, .int ((1 : Int32)))], [], xw_R X t_thrown s_57_1 s_57_18 s_57_19 s_57_20 s_57_24 a_58 a_59 a_60 a_61 a_62 a_63 a_64 a_65 t_lines t_numbers a_68 a_69 t_parts t_sorts t_values t_items a_74 a_75 l_76)))) (fun K => rfl) ?_
  obtain ⟨q1059, hq1059, h⟩ := Option.bind_eq_some_iff.mp h
  have heq1059 := xh_rf_fails_57 (l := l) (g := g) ok a_58 a_59 a_60 a_61 a_62 a_63 a_64 a_65 t_lines t_numbers a_68 a_69 t_parts t_sorts t_values t_items a_74 a_75 l_76 s_57_1 s_57_18 s_57_19 s_57_20 s_57_24 X t_thrown s1 ((1 : Int32)) _ hq1059
  refine xe_call1 (ws' := xw_R X q1059.2 s_57_1 s_57_18 s_57_19 s_57_20 s_57_24 a_58 a_59 a_60 a_61 a_62 a_63 a_64 a_65 t_lines t_numbers a_68 a_69 t_parts t_sorts t_values t_items a_74 a_75 l_76) (by decide) heq1059 (Or.inl rfl) ?_
  refine xe_seg ok 1 (G := (fun K => if q1059.1 = (0 : Int32) then K (73, xm_i73, xm_I73, 0, 0, 94, [(0, .ref 59), (3, .int v3), (4, .int v4)], [], xw_R X q1059.2 s_57_1 s_57_18 s_57_19 s_57_20 s_57_24 a_58 a_59 a_60 a_61 a_62 a_63 a_64 a_65 t_lines t_numbers a_68 a_69 t_parts t_sorts t_values t_items a_74 a_75 l_76) else K (73, xm_i73, xm_I73, 0, 0, 92, [(0, .ref 59), (3, .int v3), (4, .int v4)], [], xw_R X q1059.2 s_57_1 s_57_18 s_57_19 s_57_20 s_57_24 a_58 a_59 a_60 a_61 a_62 a_63 a_64 a_65 t_lines t_numbers a_68 a_69 t_parts t_sorts t_values t_items a_74 a_75 l_76))) (fun K => rfl) ?_
  rcases xb_if h with ⟨hc1060, h⟩ | ⟨hc1060, h⟩
  · refine xe_pos hc1060 (xe_k ?_)
    refine xe_seg ok 8 (G := (fun K => if xr_in ((((20 : Int32)) * v4) + v3) 19200 = true then K (73, xm_i73, xm_I73, 0, 0, 106, [(0, .ref 59), (3, .int v3), (4, .int v4)], [.int (t_items ((((20 : Int32)) * v4) + v3).toNatClampNeg)], xw_R X q1059.2 s_57_1 s_57_18 s_57_19 s_57_20 s_57_24 a_58 a_59 a_60 a_61 a_62 a_63 a_64 a_65 t_lines t_numbers a_68 a_69 t_parts t_sorts t_values t_items a_74 a_75 l_76) else none)) (fun K => rfl) ?_
    obtain ⟨hg1061, h⟩ := xn_if h
    refine xe_pos hg1061 (xe_k ?_)
    obtain rfl := Option.some.inj h
    refine xe_seg ok 1 (G := (fun _ => some (.inl (some (.int (t_items ((((20 : Int32)) * v4) + v3).toNatClampNeg))), xw_R X q1059.2 s_57_1 s_57_18 s_57_19 s_57_20 s_57_24 a_58 a_59 a_60 a_61 a_62 a_63 a_64 a_65 t_lines t_numbers a_68 a_69 t_parts t_sorts t_values t_items a_74 a_75 l_76))) (fun K => rfl) ?_
    exact xe_ret
  · refine xe_neg hc1060 (xe_k ?_)
    obtain rfl := Option.some.inj h
    refine xe_seg ok 2 (G := (fun _ => some (.inl (some (.int ((0 : Int32)))), xw_R X q1059.2 s_57_1 s_57_18 s_57_19 s_57_20 s_57_24 a_58 a_59 a_60 a_61 a_62 a_63 a_64 a_65 t_lines t_numbers a_68 a_69 t_parts t_sorts t_values t_items a_74 a_75 l_76))) (fun K => rfl) ?_
    exact xe_ret
set_option maxHeartbeats 400000 in
theorem xh_rf_item_57_80 {l : Launch} {g : xr_G} (ok : xr_OK xm_P) (a_58 a_59 a_60 a_61 a_62 a_63 a_64 a_65 a_68 a_69 a_74 a_75 : Nat → Int32) (l_76 : Nat → Int64) (s_57_1 s_57_18 s_57_19 s_57_20 s_57_24 : Int32) (X : Nat → xr_C) (t_items : (Nat → Int32)) (t_lines : (Nat → Int32)) (t_numbers : (Nat → Int32)) (t_parts : (Nat → Int32)) (t_sorts : (Nat → Int32)) (t_values : (Nat → Int32)) (n : Nat) : ∀ (t_thrown : Int32) (v3 : Int32) (v4 : Int32) (r : (Int32 × Int32)), xf_rf_item_80 t_items t_lines t_numbers t_parts t_sorts t_values n t_thrown v3 v4 = some r → xV xm_P l g (73, xm_i73, xm_I73, 0, 0, 80, [(0, .ref 59), (3, .int v3), (4, .int v4)], [.ref 59], xw_R X t_thrown s_57_1 s_57_18 s_57_19 s_57_20 s_57_24 a_58 a_59 a_60 a_61 a_62 a_63 a_64 a_65 t_lines t_numbers a_68 a_69 t_parts t_sorts t_values t_items a_74 a_75 l_76) (.inl (some (.int r.1)), xw_R X r.2 s_57_1 s_57_18 s_57_19 s_57_20 s_57_24 a_58 a_59 a_60 a_61 a_62 a_63 a_64 a_65 t_lines t_numbers a_68 a_69 t_parts t_sorts t_values t_items a_74 a_75 l_76) := by
  intro t_thrown v3 v4 r h
  unfold xf_rf_item_80 at h
  refine xe_seg ok 2 (G := (fun K => K (73, xm_i73, xm_I73, 0, 0, 85, [(0, .ref 59), (3, .int v3), (4, .int v4)], [.int ((1 : Int32)), .ref 59], xw_R X t_thrown s_57_1 s_57_18 s_57_19 s_57_20 s_57_24 a_58 a_59 a_60 a_61 a_62 a_63 a_64 a_65 t_lines t_numbers a_68 a_69 t_parts t_sorts t_values t_items a_74 a_75 l_76))) (fun K => rfl) ?_
  refine xe_k ?_
  refine xe_sub [true, true, true] (lv' := [(0, .ref 59), (3, .int v3), (4, .int v4)]) rfl ?_
  have hz := xh_rf_item_57_85 (l := l) (g := g) ok a_58 a_59 a_60 a_61 a_62 a_63 a_64 a_65 a_68 a_69 a_74 a_75 l_76 s_57_1 s_57_18 s_57_19 s_57_20 s_57_24 X t_items t_lines t_numbers t_parts t_sorts t_values n t_thrown v3 v4 ((1 : Int32)) _ h
  exact hz
set_option maxHeartbeats 400000 in
theorem xh_rf_item_57_57 {l : Launch} {g : xr_G} (ok : xr_OK xm_P) (a_58 a_59 a_60 a_61 a_62 a_63 a_64 a_65 a_68 a_69 a_74 a_75 : Nat → Int32) (l_76 : Nat → Int64) (s_57_1 s_57_18 s_57_19 s_57_20 s_57_24 : Int32) (X : Nat → xr_C) (t_items : (Nat → Int32)) (t_lines : (Nat → Int32)) (t_numbers : (Nat → Int32)) (t_parts : (Nat → Int32)) (t_sorts : (Nat → Int32)) (t_values : (Nat → Int32)) (n : Nat) : ∀ (t_thrown : Int32) (v3 : Int32) (v4 : Int32) (s0 : Int32) (r : (Int32 × Int32)), xf_rf_item_57 t_items t_lines t_numbers t_parts t_sorts t_values n t_thrown v3 v4 s0 = some r → xV xm_P l g (73, xm_i73, xm_I73, 0, 0, 57, [(0, .ref 59), (3, .int v3), (4, .int v4)], [.int s0], xw_R X t_thrown s_57_1 s_57_18 s_57_19 s_57_20 s_57_24 a_58 a_59 a_60 a_61 a_62 a_63 a_64 a_65 t_lines t_numbers a_68 a_69 t_parts t_sorts t_values t_items a_74 a_75 l_76) (.inl (some (.int r.1)), xw_R X r.2 s_57_1 s_57_18 s_57_19 s_57_20 s_57_24 a_58 a_59 a_60 a_61 a_62 a_63 a_64 a_65 t_lines t_numbers a_68 a_69 t_parts t_sorts t_values t_items a_74 a_75 l_76) := by
  intro t_thrown v3 v4 s0 r h
  unfold xf_rf_item_57 at h
  refine xe_seg ok 4 (G := (fun K => if s0 = (0 : Int32) then K (73, xm_i73, xm_I73, 0, 0, 80, [(0, .ref 59), (3, .int v3), (4, .int v4), (5, .int s0)], [.ref 59], xw_R X t_thrown s_57_1 s_57_18 s_57_19 s_57_20 s_57_24 a_58 a_59 a_60 a_61 a_62 a_63 a_64 a_65 t_lines t_numbers a_68 a_69 t_parts t_sorts t_values t_items a_74 a_75 l_76) else K (73, xm_i73, xm_I73, 0, 0, 65, [(0, .ref 59), (3, .int v3), (4, .int v4), (5, .int s0)], [.ref 59], xw_R X t_thrown s_57_1 s_57_18 s_57_19 s_57_20 s_57_24 a_58 a_59 a_60 a_61 a_62 a_63 a_64 a_65 t_lines t_numbers a_68 a_69 t_parts t_sorts t_values t_items a_74 a_75 l_76))) (fun K => rfl) ?_
  rcases xb_if h with ⟨hc1058, h⟩ | ⟨hc1058, h⟩
  · refine xe_pos hc1058 (xe_k ?_)
    refine xe_sub [true, true, true, false] (lv' := [(0, .ref 59), (3, .int v3), (4, .int v4)]) rfl ?_
    have hz := xh_rf_item_57_80 (l := l) (g := g) ok a_58 a_59 a_60 a_61 a_62 a_63 a_64 a_65 a_68 a_69 a_74 a_75 l_76 s_57_1 s_57_18 s_57_19 s_57_20 s_57_24 X t_items t_lines t_numbers t_parts t_sorts t_values n t_thrown v3 v4 _ h
    exact hz
  · refine xe_neg hc1058 (xe_k ?_)
    refine xe_seg ok 2 (G := (fun K => if v3 < (0 : Int32) then K (73, xm_i73, xm_I73, 0, 0, 80, [(0, .ref 59), (3, .int v3), (4, .int v4), (5, .int s0)], [.ref 59], xw_R X t_thrown s_57_1 s_57_18 s_57_19 s_57_20 s_57_24 a_58 a_59 a_60 a_61 a_62 a_63 a_64 a_65 t_lines t_numbers a_68 a_69 t_parts t_sorts t_values t_items a_74 a_75 l_76) else K (73, xm_i73, xm_I73, 0, 0, 69, [(0, .ref 59), (3, .int v3), (4, .int v4), (5, .int s0)], [.ref 59], xw_R X t_thrown s_57_1 s_57_18 s_57_19 s_57_20 s_57_24 a_58 a_59 a_60 a_61 a_62 a_63 a_64 a_65 t_lines t_numbers a_68 a_69 t_parts t_sorts t_values t_items a_74 a_75 l_76))) (fun K => rfl) ?_
    rcases xb_if h with ⟨hc1062, h⟩ | ⟨hc1062, h⟩
    · refine xe_pos hc1062 (xe_k ?_)
      refine xe_sub [true, true, true, false] (lv' := [(0, .ref 59), (3, .int v3), (4, .int v4)]) rfl ?_
      have hz := xh_rf_item_57_80 (l := l) (g := g) ok a_58 a_59 a_60 a_61 a_62 a_63 a_64 a_65 a_68 a_69 a_74 a_75 l_76 s_57_1 s_57_18 s_57_19 s_57_20 s_57_24 X t_items t_lines t_numbers t_parts t_sorts t_values n t_thrown v3 v4 _ h
      exact hz
    · refine xe_neg hc1062 (xe_k ?_)
      refine xe_seg ok 5 (G := (fun K => if xr_in v4 960 = true then K (73, xm_i73, xm_I73, 0, 0, 77, [(0, .ref 59), (3, .int v3), (4, .int v4), (5, .int s0)], [.int (t_values v4.toNatClampNeg), .int v3, .ref 59], xw_R X t_thrown s_57_1 s_57_18 s_57_19 s_57_20 s_57_24 a_58 a_59 a_60 a_61 a_62 a_63 a_64 a_65 t_lines t_numbers a_68 a_69 t_parts t_sorts t_values t_items a_74 a_75 l_76) else none)) (fun K => rfl) ?_
      obtain ⟨hg1063, h⟩ := xn_if h
      refine xe_pos hg1063 (xe_k ?_)
      refine xe_seg ok 1 (G := (fun K => if v3 < (t_values v4.toNatClampNeg) then K (73, xm_i73, xm_I73, 0, 0, 84, [(0, .ref 59), (3, .int v3), (4, .int v4), (5, .int s0)], [.ref 59], xw_R X t_thrown s_57_1 s_57_18 s_57_19 s_57_20 s_57_24 a_58 a_59 a_60 a_61 a_62 a_63 a_64 a_65 t_lines t_numbers a_68 a_69 t_parts t_sorts t_values t_items a_74 a_75 l_76) else K (73, xm_i73, xm_I73, 0, 0, 80, [(0, .ref 59), (3, .int v3), (4, .int v4), (5, .int s0)], [.ref 59], xw_R X t_thrown s_57_1 s_57_18 s_57_19 s_57_20 s_57_24 a_58 a_59 a_60 a_61 a_62 a_63 a_64 a_65 t_lines t_numbers a_68 a_69 t_parts t_sorts t_values t_items a_74 a_75 l_76))) (fun K => rfl) ?_
      rcases xb_if h with ⟨hc1064, h⟩ | ⟨hc1064, h⟩
      · refine xe_pos hc1064 (xe_k ?_)
        refine xe_seg ok 1 (G := (fun K => K (73, xm_i73, xm_I73, 0, 0, 85, [(0, .ref 59), (3, .int v3), (4, .int v4), (5, .int s0)], [.int ((0 : Int32)), .ref 59], xw_R X t_thrown s_57_1 s_57_18 s_57_19 s_57_20 s_57_24 a_58 a_59 a_60 a_61 a_62 a_63 a_64 a_65 t_lines t_numbers a_68 a_69 t_parts t_sorts t_values t_items a_74 a_75 l_76))) (fun K => rfl) ?_
        refine xe_k ?_
        refine xe_sub [true, true, true, false] (lv' := [(0, .ref 59), (3, .int v3), (4, .int v4)]) rfl ?_
        have hz := xh_rf_item_57_85 (l := l) (g := g) ok a_58 a_59 a_60 a_61 a_62 a_63 a_64 a_65 a_68 a_69 a_74 a_75 l_76 s_57_1 s_57_18 s_57_19 s_57_20 s_57_24 X t_items t_lines t_numbers t_parts t_sorts t_values n t_thrown v3 v4 ((0 : Int32)) _ h
        exact hz
      · refine xe_neg hc1064 (xe_k ?_)
        refine xe_sub [true, true, true, false] (lv' := [(0, .ref 59), (3, .int v3), (4, .int v4)]) rfl ?_
        have hz := xh_rf_item_57_80 (l := l) (g := g) ok a_58 a_59 a_60 a_61 a_62 a_63 a_64 a_65 a_68 a_69 a_74 a_75 l_76 s_57_1 s_57_18 s_57_19 s_57_20 s_57_24 X t_items t_lines t_numbers t_parts t_sorts t_values n t_thrown v3 v4 _ h
        exact hz
set_option maxHeartbeats 400000 in
theorem xh_rf_item_57_56 {l : Launch} {g : xr_G} (ok : xr_OK xm_P) (a_58 a_59 a_60 a_61 a_62 a_63 a_64 a_65 a_68 a_69 a_74 a_75 : Nat → Int32) (l_76 : Nat → Int64) (s_57_1 s_57_18 s_57_19 s_57_20 s_57_24 : Int32) (X : Nat → xr_C) (t_items : (Nat → Int32)) (t_lines : (Nat → Int32)) (t_numbers : (Nat → Int32)) (t_parts : (Nat → Int32)) (t_sorts : (Nat → Int32)) (t_values : (Nat → Int32)) (n : Nat) : ∀ (t_thrown : Int32) (v3 : Int32) (v4 : Int32) (r : (Int32 × Int32)), xf_rf_item_56 t_items t_lines t_numbers t_parts t_sorts t_values n t_thrown v3 v4 = some r → xV xm_P l g (73, xm_i73, xm_I73, 0, 0, 56, [(0, .ref 59), (3, .int v3), (4, .int v4)], [], xw_R X t_thrown s_57_1 s_57_18 s_57_19 s_57_20 s_57_24 a_58 a_59 a_60 a_61 a_62 a_63 a_64 a_65 t_lines t_numbers a_68 a_69 t_parts t_sorts t_values t_items a_74 a_75 l_76) (.inl (some (.int r.1)), xw_R X r.2 s_57_1 s_57_18 s_57_19 s_57_20 s_57_24 a_58 a_59 a_60 a_61 a_62 a_63 a_64 a_65 t_lines t_numbers a_68 a_69 t_parts t_sorts t_values t_items a_74 a_75 l_76) := by
  intro t_thrown v3 v4 r h
  unfold xf_rf_item_56 at h
  refine xe_seg ok 1 (G := (fun K => K (73, xm_i73, xm_I73, 0, 0, 57, [(0, .ref 59), (3, .int v3), (4, .int v4)], [.int ((0 : Int32))], xw_R X t_thrown s_57_1 s_57_18 s_57_19 s_57_20 s_57_24 a_58 a_59 a_60 a_61 a_62 a_63 a_64 a_65 t_lines t_numbers a_68 a_69 t_parts t_sorts t_values t_items a_74 a_75 l_76))) (fun K => rfl) ?_
  refine xe_k ?_
  refine xe_sub [true, true, true] (lv' := [(0, .ref 59), (3, .int v3), (4, .int v4)]) rfl ?_
  have hz := xh_rf_item_57_57 (l := l) (g := g) ok a_58 a_59 a_60 a_61 a_62 a_63 a_64 a_65 a_68 a_69 a_74 a_75 l_76 s_57_1 s_57_18 s_57_19 s_57_20 s_57_24 X t_items t_lines t_numbers t_parts t_sorts t_values n t_thrown v3 v4 ((0 : Int32)) _ h
  exact hz
set_option maxHeartbeats 400000 in
theorem xh_rf_item_57 {l : Launch} {g : xr_G} (ok : xr_OK xm_P) (a_58 a_59 a_60 a_61 a_62 a_63 a_64 a_65 a_68 a_69 a_74 a_75 : Nat → Int32) (l_76 : Nat → Int64) (s_57_1 s_57_18 s_57_19 s_57_20 s_57_24 : Int32) (X : Nat → xr_C) (t_items : (Nat → Int32)) (t_lines : (Nat → Int32)) (t_numbers : (Nat → Int32)) (t_parts : (Nat → Int32)) (t_sorts : (Nat → Int32)) (t_values : (Nat → Int32)) (n : Nat) : ∀ (t_thrown : Int32) (a1 : Int32) (a2 : Int32) (a3 : Int32) (r : (Int32 × Int32)), xf_rf_item t_items t_lines t_numbers t_parts t_sorts t_values n t_thrown a1 a2 a3 = some r → xV xm_P l g (73, xm_i73, xm_I73, 0, 0, 0, [(0, .ref 59), (1, .int a1), (2, .int a2), (3, .int a3)], [], xw_R X t_thrown s_57_1 s_57_18 s_57_19 s_57_20 s_57_24 a_58 a_59 a_60 a_61 a_62 a_63 a_64 a_65 t_lines t_numbers a_68 a_69 t_parts t_sorts t_values t_items a_74 a_75 l_76) (.inl (some (.int r.1)), xw_R X r.2 s_57_1 s_57_18 s_57_19 s_57_20 s_57_24 a_58 a_59 a_60 a_61 a_62 a_63 a_64 a_65 t_lines t_numbers a_68 a_69 t_parts t_sorts t_values t_items a_74 a_75 l_76) := by
  intro t_thrown a1 a2 a3 r h
  unfold xf_rf_item at h
  refine xe_seg ok 7 (G := (fun K => xr_back K 73 xm_i73 xm_I73 0 0 8 [(0, .ref 59), (1, .int a1), (2, .int a2), (3, .int a3)] [] 78 true (K (71, xm_i71, xm_I71, 0, 0, 0, [(0, .ref 59), (1, .int a1), (2, .int a2)], [], xw_R X ((0 : Int32)) s_57_1 s_57_18 s_57_19 s_57_20 s_57_24 a_58 a_59 a_60 a_61 a_62 a_63 a_64 a_65 t_lines t_numbers a_68 a_69 t_parts t_sorts t_values t_items a_74 a_75 l_76)))) (fun K => rfl) ?_
  obtain ⟨q1056, hq1056, h⟩ := Option.bind_eq_some_iff.mp h
  have heq1056 := xh_rf_argumentAt_57 (l := l) (g := g) ok a_58 a_59 a_60 a_61 a_62 a_63 a_64 a_65 a_68 a_69 t_sorts t_values t_items a_74 a_75 l_76 ((0 : Int32)) s_57_1 s_57_18 s_57_19 s_57_20 s_57_24 X t_lines t_numbers t_parts n a1 a2 _ hq1056
  refine xe_call1 (ws' := xw_R X ((0 : Int32)) s_57_1 s_57_18 s_57_19 s_57_20 s_57_24 a_58 a_59 a_60 a_61 a_62 a_63 a_64 a_65 t_lines t_numbers a_68 a_69 t_parts t_sorts t_values t_items a_74 a_75 l_76) (by decide) heq1056 (Or.inl rfl) ?_
  refine xe_seg ok 4 (G := (fun K => if q1056 = ((-1 : Int32)) then K (73, xm_i73, xm_I73, 0, 0, 56, [(0, .ref 59), (1, .int a1), (2, .int a2), (3, .int a3), (4, .int q1056)], [], xw_R X ((0 : Int32)) s_57_1 s_57_18 s_57_19 s_57_20 s_57_24 a_58 a_59 a_60 a_61 a_62 a_63 a_64 a_65 t_lines t_numbers a_68 a_69 t_parts t_sorts t_values t_items a_74 a_75 l_76) else K (73, xm_i73, xm_I73, 0, 0, 19, [(0, .ref 59), (1, .int a1), (2, .int a2), (3, .int a3), (4, .int q1056)], [], xw_R X ((0 : Int32)) s_57_1 s_57_18 s_57_19 s_57_20 s_57_24 a_58 a_59 a_60 a_61 a_62 a_63 a_64 a_65 t_lines t_numbers a_68 a_69 t_parts t_sorts t_values t_items a_74 a_75 l_76))) (fun K => rfl) ?_
  rcases xb_if h with ⟨hc1057, h⟩ | ⟨hc1057, h⟩
  · refine xe_pos hc1057 (xe_k ?_)
    refine xe_sub [true, false, false, true, true] (lv' := [(0, .ref 59), (3, .int a3), (4, .int q1056)]) rfl ?_
    have hz := xh_rf_item_57_56 (l := l) (g := g) ok a_58 a_59 a_60 a_61 a_62 a_63 a_64 a_65 a_68 a_69 a_74 a_75 l_76 s_57_1 s_57_18 s_57_19 s_57_20 s_57_24 X t_items t_lines t_numbers t_parts t_sorts t_values n ((0 : Int32)) a3 q1056 _ h
    exact hz
  · refine xe_neg hc1057 (xe_k ?_)
    refine xe_seg ok 4 (G := (fun K => if xr_in q1056 960 = true then K (73, xm_i73, xm_I73, 0, 0, 26, [(0, .ref 59), (1, .int a1), (2, .int a2), (3, .int a3), (4, .int q1056)], [.int (t_sorts q1056.toNatClampNeg)], xw_R X ((0 : Int32)) s_57_1 s_57_18 s_57_19 s_57_20 s_57_24 a_58 a_59 a_60 a_61 a_62 a_63 a_64 a_65 t_lines t_numbers a_68 a_69 t_parts t_sorts t_values t_items a_74 a_75 l_76) else none)) (fun K => rfl) ?_
    obtain ⟨hg1065, h⟩ := xn_if h
    refine xe_pos hg1065 (xe_k ?_)
    refine xe_seg ok 1 (G := (fun K => if (t_sorts q1056.toNatClampNeg) = (0 : Int32) then K (73, xm_i73, xm_I73, 0, 0, 56, [(0, .ref 59), (1, .int a1), (2, .int a2), (3, .int a3), (4, .int q1056)], [], xw_R X ((0 : Int32)) s_57_1 s_57_18 s_57_19 s_57_20 s_57_24 a_58 a_59 a_60 a_61 a_62 a_63 a_64 a_65 t_lines t_numbers a_68 a_69 t_parts t_sorts t_values t_items a_74 a_75 l_76) else K (73, xm_i73, xm_I73, 0, 0, 29, [(0, .ref 59), (1, .int a1), (2, .int a2), (3, .int a3), (4, .int q1056)], [], xw_R X ((0 : Int32)) s_57_1 s_57_18 s_57_19 s_57_20 s_57_24 a_58 a_59 a_60 a_61 a_62 a_63 a_64 a_65 t_lines t_numbers a_68 a_69 t_parts t_sorts t_values t_items a_74 a_75 l_76))) (fun K => rfl) ?_
    rcases xb_if h with ⟨hc1066, h⟩ | ⟨hc1066, h⟩
    · refine xe_pos hc1066 (xe_k ?_)
      refine xe_sub [true, false, false, true, true] (lv' := [(0, .ref 59), (3, .int a3), (4, .int q1056)]) rfl ?_
      have hz := xh_rf_item_57_56 (l := l) (g := g) ok a_58 a_59 a_60 a_61 a_62 a_63 a_64 a_65 a_68 a_69 a_74 a_75 l_76 s_57_1 s_57_18 s_57_19 s_57_20 s_57_24 X t_items t_lines t_numbers t_parts t_sorts t_values n ((0 : Int32)) a3 q1056 _ h
      exact hz
    · refine xe_neg hc1066 (xe_k ?_)
      refine xe_seg ok 4 (G := (fun K => if xr_in q1056 960 = true then K (73, xm_i73, xm_I73, 0, 0, 36, [(0, .ref 59), (1, .int a1), (2, .int a2), (3, .int a3), (4, .int q1056)], [.int (t_sorts q1056.toNatClampNeg)], xw_R X ((0 : Int32)) s_57_1 s_57_18 s_57_19 s_57_20 s_57_24 a_58 a_59 a_60 a_61 a_62 a_63 a_64 a_65 t_lines t_numbers a_68 a_69 t_parts t_sorts t_values t_items a_74 a_75 l_76) else none)) (fun K => rfl) ?_
      obtain ⟨hg1067, h⟩ := xn_if h
      refine xe_pos hg1067 (xe_k ?_)
      refine xe_seg ok 2 (G := (fun K => if (t_sorts q1056.toNatClampNeg) = ((2 : Int32)) then K (73, xm_i73, xm_I73, 0, 0, 56, [(0, .ref 59), (1, .int a1), (2, .int a2), (3, .int a3), (4, .int q1056)], [], xw_R X ((0 : Int32)) s_57_1 s_57_18 s_57_19 s_57_20 s_57_24 a_58 a_59 a_60 a_61 a_62 a_63 a_64 a_65 t_lines t_numbers a_68 a_69 t_parts t_sorts t_values t_items a_74 a_75 l_76) else K (73, xm_i73, xm_I73, 0, 0, 40, [(0, .ref 59), (1, .int a1), (2, .int a2), (3, .int a3), (4, .int q1056)], [], xw_R X ((0 : Int32)) s_57_1 s_57_18 s_57_19 s_57_20 s_57_24 a_58 a_59 a_60 a_61 a_62 a_63 a_64 a_65 t_lines t_numbers a_68 a_69 t_parts t_sorts t_values t_items a_74 a_75 l_76))) (fun K => rfl) ?_
      rcases xb_if h with ⟨hc1068, h⟩ | ⟨hc1068, h⟩
      · refine xe_pos hc1068 (xe_k ?_)
        refine xe_sub [true, false, false, true, true] (lv' := [(0, .ref 59), (3, .int a3), (4, .int q1056)]) rfl ?_
        have hz := xh_rf_item_57_56 (l := l) (g := g) ok a_58 a_59 a_60 a_61 a_62 a_63 a_64 a_65 a_68 a_69 a_74 a_75 l_76 s_57_1 s_57_18 s_57_19 s_57_20 s_57_24 X t_items t_lines t_numbers t_parts t_sorts t_values n ((0 : Int32)) a3 q1056 _ h
        exact hz
      · refine xe_neg hc1068 (xe_k ?_)
        refine xe_seg ok 4 (G := (fun K => if xr_in q1056 960 = true then K (73, xm_i73, xm_I73, 0, 0, 47, [(0, .ref 59), (1, .int a1), (2, .int a2), (3, .int a3), (4, .int q1056)], [.int (t_sorts q1056.toNatClampNeg)], xw_R X ((0 : Int32)) s_57_1 s_57_18 s_57_19 s_57_20 s_57_24 a_58 a_59 a_60 a_61 a_62 a_63 a_64 a_65 t_lines t_numbers a_68 a_69 t_parts t_sorts t_values t_items a_74 a_75 l_76) else none)) (fun K => rfl) ?_
        obtain ⟨hg1069, h⟩ := xn_if h
        refine xe_pos hg1069 (xe_k ?_)
        refine xe_seg ok 2 (G := (fun K => if (t_sorts q1056.toNatClampNeg) = ((6 : Int32)) then K (73, xm_i73, xm_I73, 0, 0, 56, [(0, .ref 59), (1, .int a1), (2, .int a2), (3, .int a3), (4, .int q1056)], [], xw_R X ((0 : Int32)) s_57_1 s_57_18 s_57_19 s_57_20 s_57_24 a_58 a_59 a_60 a_61 a_62 a_63 a_64 a_65 t_lines t_numbers a_68 a_69 t_parts t_sorts t_values t_items a_74 a_75 l_76) else K (73, xm_i73, xm_I73, 0, 0, 52, [(0, .ref 59), (1, .int a1), (2, .int a2), (3, .int a3), (4, .int q1056)], [], xw_R X ((0 : Int32)) s_57_1 s_57_18 s_57_19 s_57_20 s_57_24 a_58 a_59 a_60 a_61 a_62 a_63 a_64 a_65 t_lines t_numbers a_68 a_69 t_parts t_sorts t_values t_items a_74 a_75 l_76))) (fun K => rfl) ?_
        rcases xb_if h with ⟨hc1070, h⟩ | ⟨hc1070, h⟩
        · refine xe_pos hc1070 (xe_k ?_)
          refine xe_sub [true, false, false, true, true] (lv' := [(0, .ref 59), (3, .int a3), (4, .int q1056)]) rfl ?_
          have hz := xh_rf_item_57_56 (l := l) (g := g) ok a_58 a_59 a_60 a_61 a_62 a_63 a_64 a_65 a_68 a_69 a_74 a_75 l_76 s_57_1 s_57_18 s_57_19 s_57_20 s_57_24 X t_items t_lines t_numbers t_parts t_sorts t_values n ((0 : Int32)) a3 q1056 _ h
          exact hz
        · refine xe_neg hc1070 (xe_k ?_)
          refine xe_seg ok 2 (G := (fun K => K (73, xm_i73, xm_I73, 0, 0, 57, [(0, .ref 59), (1, .int a1), (2, .int a2), (3, .int a3), (4, .int q1056)], [.int ((1 : Int32))], xw_R X ((0 : Int32)) s_57_1 s_57_18 s_57_19 s_57_20 s_57_24 a_58 a_59 a_60 a_61 a_62 a_63 a_64 a_65 t_lines t_numbers a_68 a_69 t_parts t_sorts t_values t_items a_74 a_75 l_76))) (fun K => rfl) ?_
          refine xe_k ?_
          refine xe_sub [true, false, false, true, true] (lv' := [(0, .ref 59), (3, .int a3), (4, .int q1056)]) rfl ?_
          have hz := xh_rf_item_57_57 (l := l) (g := g) ok a_58 a_59 a_60 a_61 a_62 a_63 a_64 a_65 a_68 a_69 a_74 a_75 l_76 s_57_1 s_57_18 s_57_19 s_57_20 s_57_24 X t_items t_lines t_numbers t_parts t_sorts t_values n ((0 : Int32)) a3 q1056 ((1 : Int32)) _ h
          exact hz
set_option maxHeartbeats 400000 in
theorem xh_rf_set_57_47 {l : Launch} {g : xr_G} (ok : xr_OK xm_P) (a_58 a_59 a_60 a_61 a_62 a_63 a_64 a_65 a_68 a_69 a_73 a_74 a_75 : Nat → Int32) (l_76 : Nat → Int64) (s_57_1 s_57_18 s_57_19 s_57_20 s_57_24 : Int32) (X : Nat → xr_C) (t_lines : (Nat → Int32)) (t_numbers : (Nat → Int32)) (t_parts : (Nat → Int32)) (t_sorts : (Nat → Int32)) (n : Nat) : ∀ (t_thrown : Int32) (t_values : (Nat → Int32)) (v3 : Int32) (v4 : Int32) (s1 : Int32) (r : (Int32 × Int32 × (Nat → Int32))), xf_rf_set_47 t_lines t_numbers t_parts t_sorts n t_thrown t_values v3 v4 s1 = some r → xV xm_P l g (74, xm_i74, xm_I74, 0, 0, 47, [(0, .ref 59), (3, .int v3), (4, .int v4)], [.int s1, .ref 59], xw_R X t_thrown s_57_1 s_57_18 s_57_19 s_57_20 s_57_24 a_58 a_59 a_60 a_61 a_62 a_63 a_64 a_65 t_lines t_numbers a_68 a_69 t_parts t_sorts t_values a_73 a_74 a_75 l_76) (.inl (some (.int r.1)), xw_R X r.2.1 s_57_1 s_57_18 s_57_19 s_57_20 s_57_24 a_58 a_59 a_60 a_61 a_62 a_63 a_64 a_65 t_lines t_numbers a_68 a_69 t_parts t_sorts r.2.2 a_73 a_74 a_75 l_76) := by
  intro t_thrown t_values v3 v4 s1 r h
  unfold xf_rf_set_47 at h
  refine xe_seg ok 2 (G := (fun K => xr_back K 74 xm_i74 xm_I74 0 0 48 [(0, .ref 59), (3, .int v3), (4, .int v4)] [] 78 true (K (32, xm_i32, xm_I32, 0, 0, 0, [(0, .ref 59), (1, .int s1), (2, .int ((1 : Int32)))], [], xw_R X t_thrown s_57_1 s_57_18 s_57_19 s_57_20 s_57_24 a_58 a_59 a_60 a_61 a_62 a_63 a_64 a_65 t_lines t_numbers a_68 a_69 t_parts t_sorts t_values a_73 a_74 a_75 l_76)))) (fun K => rfl) ?_
  obtain ⟨q1073, hq1073, h⟩ := Option.bind_eq_some_iff.mp h
  have heq1073 := xh_rf_fails_57 (l := l) (g := g) ok a_58 a_59 a_60 a_61 a_62 a_63 a_64 a_65 t_lines t_numbers a_68 a_69 t_parts t_sorts t_values a_73 a_74 a_75 l_76 s_57_1 s_57_18 s_57_19 s_57_20 s_57_24 X t_thrown s1 ((1 : Int32)) _ hq1073
  refine xe_call1 (ws' := xw_R X q1073.2 s_57_1 s_57_18 s_57_19 s_57_20 s_57_24 a_58 a_59 a_60 a_61 a_62 a_63 a_64 a_65 t_lines t_numbers a_68 a_69 t_parts t_sorts t_values a_73 a_74 a_75 l_76) (by decide) heq1073 (Or.inl rfl) ?_
  refine xe_seg ok 1 (G := (fun K => if q1073.1 = (0 : Int32) then K (74, xm_i74, xm_I74, 0, 0, 56, [(0, .ref 59), (3, .int v3), (4, .int v4)], [], xw_R X q1073.2 s_57_1 s_57_18 s_57_19 s_57_20 s_57_24 a_58 a_59 a_60 a_61 a_62 a_63 a_64 a_65 t_lines t_numbers a_68 a_69 t_parts t_sorts t_values a_73 a_74 a_75 l_76) else K (74, xm_i74, xm_I74, 0, 0, 54, [(0, .ref 59), (3, .int v3), (4, .int v4)], [], xw_R X q1073.2 s_57_1 s_57_18 s_57_19 s_57_20 s_57_24 a_58 a_59 a_60 a_61 a_62 a_63 a_64 a_65 t_lines t_numbers a_68 a_69 t_parts t_sorts t_values a_73 a_74 a_75 l_76))) (fun K => rfl) ?_
  rcases xb_if h with ⟨hc1074, h⟩ | ⟨hc1074, h⟩
  · refine xe_pos hc1074 (xe_k ?_)
    refine xe_seg ok 4 (G := (fun K => if xr_in v4 960 = true then K (74, xm_i74, xm_I74, 0, 0, 63, [(0, .ref 59), (3, .int v3), (4, .int v4)], [.int (t_values v4.toNatClampNeg)], xw_R X q1073.2 s_57_1 s_57_18 s_57_19 s_57_20 s_57_24 a_58 a_59 a_60 a_61 a_62 a_63 a_64 a_65 t_lines t_numbers a_68 a_69 t_parts t_sorts t_values a_73 a_74 a_75 l_76) else none)) (fun K => rfl) ?_
    obtain ⟨hg1075, h⟩ := xn_if h
    refine xe_pos hg1075 (xe_k ?_)
    refine xe_seg ok 6 (G := (fun K => if xr_in v4 960 = true then K (74, xm_i74, xm_I74, 0, 0, 73, [(0, .ref 59), (3, .int v3), (4, .int v4), (5, .int (t_values v4.toNatClampNeg))], [], xw_R X q1073.2 s_57_1 s_57_18 s_57_19 s_57_20 s_57_24 a_58 a_59 a_60 a_61 a_62 a_63 a_64 a_65 t_lines t_numbers a_68 a_69 t_parts t_sorts (upd t_values v4.toNatClampNeg v3) a_73 a_74 a_75 l_76) else none)) (fun K => rfl) ?_
    obtain ⟨hg1076, h⟩ := xn_if h
    refine xe_pos hg1076 (xe_k ?_)
    obtain rfl := Option.some.inj h
    refine xe_seg ok 2 (G := (fun _ => some (.inl (some (.int (t_values v4.toNatClampNeg))), xw_R X q1073.2 s_57_1 s_57_18 s_57_19 s_57_20 s_57_24 a_58 a_59 a_60 a_61 a_62 a_63 a_64 a_65 t_lines t_numbers a_68 a_69 t_parts t_sorts (upd t_values v4.toNatClampNeg v3) a_73 a_74 a_75 l_76))) (fun K => rfl) ?_
    exact xe_ret
  · refine xe_neg hc1074 (xe_k ?_)
    obtain rfl := Option.some.inj h
    refine xe_seg ok 2 (G := (fun _ => some (.inl (some (.int ((0 : Int32)))), xw_R X q1073.2 s_57_1 s_57_18 s_57_19 s_57_20 s_57_24 a_58 a_59 a_60 a_61 a_62 a_63 a_64 a_65 t_lines t_numbers a_68 a_69 t_parts t_sorts t_values a_73 a_74 a_75 l_76))) (fun K => rfl) ?_
    exact xe_ret
set_option maxHeartbeats 400000 in
theorem xh_rf_set_57_42 {l : Launch} {g : xr_G} (ok : xr_OK xm_P) (a_58 a_59 a_60 a_61 a_62 a_63 a_64 a_65 a_68 a_69 a_73 a_74 a_75 : Nat → Int32) (l_76 : Nat → Int64) (s_57_1 s_57_18 s_57_19 s_57_20 s_57_24 : Int32) (X : Nat → xr_C) (t_lines : (Nat → Int32)) (t_numbers : (Nat → Int32)) (t_parts : (Nat → Int32)) (t_sorts : (Nat → Int32)) (n : Nat) : ∀ (t_thrown : Int32) (t_values : (Nat → Int32)) (v3 : Int32) (v4 : Int32) (r : (Int32 × Int32 × (Nat → Int32))), xf_rf_set_42 t_lines t_numbers t_parts t_sorts n t_thrown t_values v3 v4 = some r → xV xm_P l g (74, xm_i74, xm_I74, 0, 0, 42, [(0, .ref 59), (3, .int v3), (4, .int v4)], [.ref 59], xw_R X t_thrown s_57_1 s_57_18 s_57_19 s_57_20 s_57_24 a_58 a_59 a_60 a_61 a_62 a_63 a_64 a_65 t_lines t_numbers a_68 a_69 t_parts t_sorts t_values a_73 a_74 a_75 l_76) (.inl (some (.int r.1)), xw_R X r.2.1 s_57_1 s_57_18 s_57_19 s_57_20 s_57_24 a_58 a_59 a_60 a_61 a_62 a_63 a_64 a_65 t_lines t_numbers a_68 a_69 t_parts t_sorts r.2.2 a_73 a_74 a_75 l_76) := by
  intro t_thrown t_values v3 v4 r h
  unfold xf_rf_set_42 at h
  refine xe_seg ok 2 (G := (fun K => K (74, xm_i74, xm_I74, 0, 0, 47, [(0, .ref 59), (3, .int v3), (4, .int v4)], [.int ((1 : Int32)), .ref 59], xw_R X t_thrown s_57_1 s_57_18 s_57_19 s_57_20 s_57_24 a_58 a_59 a_60 a_61 a_62 a_63 a_64 a_65 t_lines t_numbers a_68 a_69 t_parts t_sorts t_values a_73 a_74 a_75 l_76))) (fun K => rfl) ?_
  refine xe_k ?_
  refine xe_sub [true, true, true] (lv' := [(0, .ref 59), (3, .int v3), (4, .int v4)]) rfl ?_
  have hz := xh_rf_set_57_47 (l := l) (g := g) ok a_58 a_59 a_60 a_61 a_62 a_63 a_64 a_65 a_68 a_69 a_73 a_74 a_75 l_76 s_57_1 s_57_18 s_57_19 s_57_20 s_57_24 X t_lines t_numbers t_parts t_sorts n t_thrown t_values v3 v4 ((1 : Int32)) _ h
  exact hz
set_option maxHeartbeats 400000 in
theorem xh_rf_set_57 {l : Launch} {g : xr_G} (ok : xr_OK xm_P) (a_58 a_59 a_60 a_61 a_62 a_63 a_64 a_65 a_68 a_69 a_73 a_74 a_75 : Nat → Int32) (l_76 : Nat → Int64) (s_57_1 s_57_18 s_57_19 s_57_20 s_57_24 : Int32) (X : Nat → xr_C) (t_lines : (Nat → Int32)) (t_numbers : (Nat → Int32)) (t_parts : (Nat → Int32)) (t_sorts : (Nat → Int32)) (n : Nat) : ∀ (t_thrown : Int32) (t_values : (Nat → Int32)) (a1 : Int32) (a2 : Int32) (a3 : Int32) (r : (Int32 × Int32 × (Nat → Int32))), xf_rf_set t_lines t_numbers t_parts t_sorts n t_thrown t_values a1 a2 a3 = some r → xV xm_P l g (74, xm_i74, xm_I74, 0, 0, 0, [(0, .ref 59), (1, .int a1), (2, .int a2), (3, .int a3)], [], xw_R X t_thrown s_57_1 s_57_18 s_57_19 s_57_20 s_57_24 a_58 a_59 a_60 a_61 a_62 a_63 a_64 a_65 t_lines t_numbers a_68 a_69 t_parts t_sorts t_values a_73 a_74 a_75 l_76) (.inl (some (.int r.1)), xw_R X r.2.1 s_57_1 s_57_18 s_57_19 s_57_20 s_57_24 a_58 a_59 a_60 a_61 a_62 a_63 a_64 a_65 t_lines t_numbers a_68 a_69 t_parts t_sorts r.2.2 a_73 a_74 a_75 l_76) := by
  intro t_thrown t_values a1 a2 a3 r h
  unfold xf_rf_set at h
  refine xe_seg ok 7 (G := (fun K => xr_back K 74 xm_i74 xm_I74 0 0 8 [(0, .ref 59), (1, .int a1), (2, .int a2), (3, .int a3)] [] 78 true (K (71, xm_i71, xm_I71, 0, 0, 0, [(0, .ref 59), (1, .int a1), (2, .int a2)], [], xw_R X ((0 : Int32)) s_57_1 s_57_18 s_57_19 s_57_20 s_57_24 a_58 a_59 a_60 a_61 a_62 a_63 a_64 a_65 t_lines t_numbers a_68 a_69 t_parts t_sorts t_values a_73 a_74 a_75 l_76)))) (fun K => rfl) ?_
  obtain ⟨q1071, hq1071, h⟩ := Option.bind_eq_some_iff.mp h
  have heq1071 := xh_rf_argumentAt_57 (l := l) (g := g) ok a_58 a_59 a_60 a_61 a_62 a_63 a_64 a_65 a_68 a_69 t_sorts t_values a_73 a_74 a_75 l_76 ((0 : Int32)) s_57_1 s_57_18 s_57_19 s_57_20 s_57_24 X t_lines t_numbers t_parts n a1 a2 _ hq1071
  refine xe_call1 (ws' := xw_R X ((0 : Int32)) s_57_1 s_57_18 s_57_19 s_57_20 s_57_24 a_58 a_59 a_60 a_61 a_62 a_63 a_64 a_65 t_lines t_numbers a_68 a_69 t_parts t_sorts t_values a_73 a_74 a_75 l_76) (by decide) heq1071 (Or.inl rfl) ?_
  refine xe_seg ok 5 (G := (fun K => if q1071 = ((-1 : Int32)) then K (74, xm_i74, xm_I74, 0, 0, 42, [(0, .ref 59), (1, .int a1), (2, .int a2), (3, .int a3), (4, .int q1071)], [.ref 59], xw_R X ((0 : Int32)) s_57_1 s_57_18 s_57_19 s_57_20 s_57_24 a_58 a_59 a_60 a_61 a_62 a_63 a_64 a_65 t_lines t_numbers a_68 a_69 t_parts t_sorts t_values a_73 a_74 a_75 l_76) else K (74, xm_i74, xm_I74, 0, 0, 20, [(0, .ref 59), (1, .int a1), (2, .int a2), (3, .int a3), (4, .int q1071)], [.ref 59], xw_R X ((0 : Int32)) s_57_1 s_57_18 s_57_19 s_57_20 s_57_24 a_58 a_59 a_60 a_61 a_62 a_63 a_64 a_65 t_lines t_numbers a_68 a_69 t_parts t_sorts t_values a_73 a_74 a_75 l_76))) (fun K => rfl) ?_
  rcases xb_if h with ⟨hc1072, h⟩ | ⟨hc1072, h⟩
  · refine xe_pos hc1072 (xe_k ?_)
    refine xe_sub [true, false, false, true, true] (lv' := [(0, .ref 59), (3, .int a3), (4, .int q1071)]) rfl ?_
    have hz := xh_rf_set_57_42 (l := l) (g := g) ok a_58 a_59 a_60 a_61 a_62 a_63 a_64 a_65 a_68 a_69 a_73 a_74 a_75 l_76 s_57_1 s_57_18 s_57_19 s_57_20 s_57_24 X t_lines t_numbers t_parts t_sorts n ((0 : Int32)) t_values a3 q1071 _ h
    exact hz
  · refine xe_neg hc1072 (xe_k ?_)
    refine xe_seg ok 4 (G := (fun K => if xr_in q1071 960 = true then K (74, xm_i74, xm_I74, 0, 0, 27, [(0, .ref 59), (1, .int a1), (2, .int a2), (3, .int a3), (4, .int q1071)], [.int (t_sorts q1071.toNatClampNeg), .ref 59], xw_R X ((0 : Int32)) s_57_1 s_57_18 s_57_19 s_57_20 s_57_24 a_58 a_59 a_60 a_61 a_62 a_63 a_64 a_65 t_lines t_numbers a_68 a_69 t_parts t_sorts t_values a_73 a_74 a_75 l_76) else none)) (fun K => rfl) ?_
    obtain ⟨hg1077, h⟩ := xn_if h
    refine xe_pos hg1077 (xe_k ?_)
    refine xe_seg ok 1 (G := (fun K => if (t_sorts q1071.toNatClampNeg) = (0 : Int32) then K (74, xm_i74, xm_I74, 0, 0, 30, [(0, .ref 59), (1, .int a1), (2, .int a2), (3, .int a3), (4, .int q1071)], [.ref 59], xw_R X ((0 : Int32)) s_57_1 s_57_18 s_57_19 s_57_20 s_57_24 a_58 a_59 a_60 a_61 a_62 a_63 a_64 a_65 t_lines t_numbers a_68 a_69 t_parts t_sorts t_values a_73 a_74 a_75 l_76) else K (74, xm_i74, xm_I74, 0, 0, 42, [(0, .ref 59), (1, .int a1), (2, .int a2), (3, .int a3), (4, .int q1071)], [.ref 59], xw_R X ((0 : Int32)) s_57_1 s_57_18 s_57_19 s_57_20 s_57_24 a_58 a_59 a_60 a_61 a_62 a_63 a_64 a_65 t_lines t_numbers a_68 a_69 t_parts t_sorts t_values a_73 a_74 a_75 l_76))) (fun K => rfl) ?_
    rcases xb_if h with ⟨hc1078, h⟩ | ⟨hc1078, h⟩
    · refine xe_pos hc1078 (xe_k ?_)
      refine xe_seg ok 3 (G := (fun K => if a3 < ((-999999999 : Int32)) then K (74, xm_i74, xm_I74, 0, 0, 42, [(0, .ref 59), (1, .int a1), (2, .int a2), (3, .int a3), (4, .int q1071)], [.ref 59], xw_R X ((0 : Int32)) s_57_1 s_57_18 s_57_19 s_57_20 s_57_24 a_58 a_59 a_60 a_61 a_62 a_63 a_64 a_65 t_lines t_numbers a_68 a_69 t_parts t_sorts t_values a_73 a_74 a_75 l_76) else K (74, xm_i74, xm_I74, 0, 0, 36, [(0, .ref 59), (1, .int a1), (2, .int a2), (3, .int a3), (4, .int q1071)], [.ref 59], xw_R X ((0 : Int32)) s_57_1 s_57_18 s_57_19 s_57_20 s_57_24 a_58 a_59 a_60 a_61 a_62 a_63 a_64 a_65 t_lines t_numbers a_68 a_69 t_parts t_sorts t_values a_73 a_74 a_75 l_76))) (fun K => rfl) ?_
      rcases xb_if h with ⟨hc1079, h⟩ | ⟨hc1079, h⟩
      · refine xe_pos hc1079 (xe_k ?_)
        refine xe_sub [true, false, false, true, true] (lv' := [(0, .ref 59), (3, .int a3), (4, .int q1071)]) rfl ?_
        have hz := xh_rf_set_57_42 (l := l) (g := g) ok a_58 a_59 a_60 a_61 a_62 a_63 a_64 a_65 a_68 a_69 a_73 a_74 a_75 l_76 s_57_1 s_57_18 s_57_19 s_57_20 s_57_24 X t_lines t_numbers t_parts t_sorts n ((0 : Int32)) t_values a3 q1071 _ h
        exact hz
      · refine xe_neg hc1079 (xe_k ?_)
        refine xe_seg ok 3 (G := (fun K => if ((999999999 : Int32)) < a3 then K (74, xm_i74, xm_I74, 0, 0, 42, [(0, .ref 59), (1, .int a1), (2, .int a2), (3, .int a3), (4, .int q1071)], [.ref 59], xw_R X ((0 : Int32)) s_57_1 s_57_18 s_57_19 s_57_20 s_57_24 a_58 a_59 a_60 a_61 a_62 a_63 a_64 a_65 t_lines t_numbers a_68 a_69 t_parts t_sorts t_values a_73 a_74 a_75 l_76) else K (74, xm_i74, xm_I74, 0, 0, 46, [(0, .ref 59), (1, .int a1), (2, .int a2), (3, .int a3), (4, .int q1071)], [.ref 59], xw_R X ((0 : Int32)) s_57_1 s_57_18 s_57_19 s_57_20 s_57_24 a_58 a_59 a_60 a_61 a_62 a_63 a_64 a_65 t_lines t_numbers a_68 a_69 t_parts t_sorts t_values a_73 a_74 a_75 l_76))) (fun K => rfl) ?_
        rcases xb_if h with ⟨hc1080, h⟩ | ⟨hc1080, h⟩
        · refine xe_pos hc1080 (xe_k ?_)
          refine xe_sub [true, false, false, true, true] (lv' := [(0, .ref 59), (3, .int a3), (4, .int q1071)]) rfl ?_
          have hz := xh_rf_set_57_42 (l := l) (g := g) ok a_58 a_59 a_60 a_61 a_62 a_63 a_64 a_65 a_68 a_69 a_73 a_74 a_75 l_76 s_57_1 s_57_18 s_57_19 s_57_20 s_57_24 X t_lines t_numbers t_parts t_sorts n ((0 : Int32)) t_values a3 q1071 _ h
          exact hz
        · refine xe_neg hc1080 (xe_k ?_)
          refine xe_seg ok 1 (G := (fun K => K (74, xm_i74, xm_I74, 0, 0, 47, [(0, .ref 59), (1, .int a1), (2, .int a2), (3, .int a3), (4, .int q1071)], [.int ((0 : Int32)), .ref 59], xw_R X ((0 : Int32)) s_57_1 s_57_18 s_57_19 s_57_20 s_57_24 a_58 a_59 a_60 a_61 a_62 a_63 a_64 a_65 t_lines t_numbers a_68 a_69 t_parts t_sorts t_values a_73 a_74 a_75 l_76))) (fun K => rfl) ?_
          refine xe_k ?_
          refine xe_sub [true, false, false, true, true] (lv' := [(0, .ref 59), (3, .int a3), (4, .int q1071)]) rfl ?_
          have hz := xh_rf_set_57_47 (l := l) (g := g) ok a_58 a_59 a_60 a_61 a_62 a_63 a_64 a_65 a_68 a_69 a_73 a_74 a_75 l_76 s_57_1 s_57_18 s_57_19 s_57_20 s_57_24 X t_lines t_numbers t_parts t_sorts n ((0 : Int32)) t_values a3 q1071 ((0 : Int32)) _ h
          exact hz
    · refine xe_neg hc1078 (xe_k ?_)
      refine xe_sub [true, false, false, true, true] (lv' := [(0, .ref 59), (3, .int a3), (4, .int q1071)]) rfl ?_
      have hz := xh_rf_set_57_42 (l := l) (g := g) ok a_58 a_59 a_60 a_61 a_62 a_63 a_64 a_65 a_68 a_69 a_73 a_74 a_75 l_76 s_57_1 s_57_18 s_57_19 s_57_20 s_57_24 X t_lines t_numbers t_parts t_sorts n ((0 : Int32)) t_values a3 q1071 _ h
      exact hz
set_option maxHeartbeats 400000 in
theorem xh_rf_firstWrong_57_124 {l : Launch} {g : xr_G} (ok : xr_OK xm_P) (a_58 a_59 a_60 a_61 a_62 a_63 a_66 a_67 a_68 a_69 a_73 a_74 a_75 : Nat → Int32) (l_76 : Nat → Int64) (s_57_0 s_57_1 s_57_18 s_57_19 s_57_20 s_57_24 : Int32) (X : Nat → xr_C) (t_kindMay : (Nat → Int32)) (t_kindSorts : (Nat → Int32)) (t_parts : (Nat → Int32)) (t_sorts : (Nat → Int32)) (t_values : (Nat → Int32)) {k2 : Int32 → Int32 → Int32 → Option (Int32)} (hk2 : ∀ (v1 : Int32) (v2 : Int32) (v3 : Int32) (r : (Int32)), k2 v1 v2 v3 = some r → xV xm_P l g (75, xm_i75, xm_I75, 0, 0, 2, [(0, .ref 59), (1, .int v1), (2, .int v2), (3, .int v3)], [], xw_R X s_57_0 s_57_1 s_57_18 s_57_19 s_57_20 s_57_24 a_58 a_59 a_60 a_61 a_62 a_63 t_kindSorts t_kindMay a_66 a_67 a_68 a_69 t_parts t_sorts t_values a_73 a_74 a_75 l_76) (.inl (some (.int r)), xw_R X s_57_0 s_57_1 s_57_18 s_57_19 s_57_20 s_57_24 a_58 a_59 a_60 a_61 a_62 a_63 t_kindSorts t_kindMay a_66 a_67 a_68 a_69 t_parts t_sorts t_values a_73 a_74 a_75 l_76)) (n : Nat) : ∀ (v1 : Int32) (v2 : Int32) (v3 : Int32) (r : (Int32)), xf_rf_firstWrong_124 t_kindMay t_kindSorts t_parts t_sorts t_values k2 n v1 v2 v3 = some r → xV xm_P l g (75, xm_i75, xm_I75, 0, 0, 124, [(0, .ref 59), (1, .int v1), (2, .int v2), (3, .int v3)], [], xw_R X s_57_0 s_57_1 s_57_18 s_57_19 s_57_20 s_57_24 a_58 a_59 a_60 a_61 a_62 a_63 t_kindSorts t_kindMay a_66 a_67 a_68 a_69 t_parts t_sorts t_values a_73 a_74 a_75 l_76) (.inl (some (.int r)), xw_R X s_57_0 s_57_1 s_57_18 s_57_19 s_57_20 s_57_24 a_58 a_59 a_60 a_61 a_62 a_63 t_kindSorts t_kindMay a_66 a_67 a_68 a_69 t_parts t_sorts t_values a_73 a_74 a_75 l_76) := by
  intro v1 v2 v3 r h
  unfold xf_rf_firstWrong_124 at h
  refine xe_seg ok 2 (G := (fun K => K (75, xm_i75, xm_I75, 0, 0, 2, [(0, .ref 59), (1, .int v1), (2, .int v2), (3, .int (v3 + (1 : Int32)))], [], xw_R X s_57_0 s_57_1 s_57_18 s_57_19 s_57_20 s_57_24 a_58 a_59 a_60 a_61 a_62 a_63 t_kindSorts t_kindMay a_66 a_67 a_68 a_69 t_parts t_sorts t_values a_73 a_74 a_75 l_76))) (fun K => rfl) ?_
  refine xe_k ?_
  refine xe_sub [true, true, true, true] (lv' := [(0, .ref 59), (1, .int v1), (2, .int v2), (3, .int (v3 + (1 : Int32)))]) rfl ?_
  have hz := hk2 v1 v2 (v3 + (1 : Int32)) _ h
  exact hz
set_option maxHeartbeats 400000 in
theorem xh_rf_firstWrong_57_98 {l : Launch} {g : xr_G} (ok : xr_OK xm_P) (a_58 a_59 a_60 a_61 a_62 a_63 a_66 a_67 a_68 a_69 a_73 a_74 a_75 : Nat → Int32) (l_76 : Nat → Int64) (s_57_0 s_57_1 s_57_18 s_57_19 s_57_20 s_57_24 : Int32) (X : Nat → xr_C) (t_kindMay : (Nat → Int32)) (t_kindSorts : (Nat → Int32)) (t_parts : (Nat → Int32)) (t_sorts : (Nat → Int32)) (t_values : (Nat → Int32)) {k2 : Int32 → Int32 → Int32 → Option (Int32)} (hk2 : ∀ (v1 : Int32) (v2 : Int32) (v3 : Int32) (r : (Int32)), k2 v1 v2 v3 = some r → xV xm_P l g (75, xm_i75, xm_I75, 0, 0, 2, [(0, .ref 59), (1, .int v1), (2, .int v2), (3, .int v3)], [], xw_R X s_57_0 s_57_1 s_57_18 s_57_19 s_57_20 s_57_24 a_58 a_59 a_60 a_61 a_62 a_63 t_kindSorts t_kindMay a_66 a_67 a_68 a_69 t_parts t_sorts t_values a_73 a_74 a_75 l_76) (.inl (some (.int r)), xw_R X s_57_0 s_57_1 s_57_18 s_57_19 s_57_20 s_57_24 a_58 a_59 a_60 a_61 a_62 a_63 t_kindSorts t_kindMay a_66 a_67 a_68 a_69 t_parts t_sorts t_values a_73 a_74 a_75 l_76)) (n : Nat) : ∀ (v1 : Int32) (v2 : Int32) (v3 : Int32) (v4 : Int32) (v5 : Int32) (v6 : Int32) (s0 : Int32) (r : (Int32)), xf_rf_firstWrong_98 t_kindMay t_kindSorts t_parts t_sorts t_values k2 n v1 v2 v3 v4 v5 v6 s0 = some r → xV xm_P l g (75, xm_i75, xm_I75, 0, 0, 98, [(0, .ref 59), (1, .int v1), (2, .int v2), (3, .int v3), (4, .int v4), (5, .int v5), (6, .int v6)], [.int s0], xw_R X s_57_0 s_57_1 s_57_18 s_57_19 s_57_20 s_57_24 a_58 a_59 a_60 a_61 a_62 a_63 t_kindSorts t_kindMay a_66 a_67 a_68 a_69 t_parts t_sorts t_values a_73 a_74 a_75 l_76) (.inl (some (.int r)), xw_R X s_57_0 s_57_1 s_57_18 s_57_19 s_57_20 s_57_24 a_58 a_59 a_60 a_61 a_62 a_63 t_kindSorts t_kindMay a_66 a_67 a_68 a_69 t_parts t_sorts t_values a_73 a_74 a_75 l_76) := by
  intro v1 v2 v3 v4 v5 v6 s0 r h
  unfold xf_rf_firstWrong_98 at h
  refine xe_seg ok 5 (G := (fun K => if xr_in v4 960 = true then K (75, xm_i75, xm_I75, 0, 0, 107, [(0, .ref 59), (1, .int v1), (2, .int v2), (3, .int v3), (4, .int v4), (5, .int v5), (6, .int v6), (7, .int s0)], [.int (t_sorts v4.toNatClampNeg)], xw_R X s_57_0 s_57_1 s_57_18 s_57_19 s_57_20 s_57_24 a_58 a_59 a_60 a_61 a_62 a_63 t_kindSorts t_kindMay a_66 a_67 a_68 a_69 t_parts t_sorts t_values a_73 a_74 a_75 l_76) else none)) (fun K => rfl) ?_
  obtain ⟨hg1100, h⟩ := xn_if h
  refine xe_pos hg1100 (xe_k ?_)
  refine xe_seg ok 2 (G := (fun K => if (t_sorts v4.toNatClampNeg) = v5 then K (75, xm_i75, xm_I75, 0, 0, 124, [(0, .ref 59), (1, .int v1), (2, .int v2), (3, .int v3), (4, .int v4), (5, .int v5), (6, .int v6), (7, .int s0)], [], xw_R X s_57_0 s_57_1 s_57_18 s_57_19 s_57_20 s_57_24 a_58 a_59 a_60 a_61 a_62 a_63 t_kindSorts t_kindMay a_66 a_67 a_68 a_69 t_parts t_sorts t_values a_73 a_74 a_75 l_76) else K (75, xm_i75, xm_I75, 0, 0, 112, [(0, .ref 59), (1, .int v1), (2, .int v2), (3, .int v3), (4, .int v4), (5, .int v5), (6, .int v6), (7, .int s0)], [], xw_R X s_57_0 s_57_1 s_57_18 s_57_19 s_57_20 s_57_24 a_58 a_59 a_60 a_61 a_62 a_63 t_kindSorts t_kindMay a_66 a_67 a_68 a_69 t_parts t_sorts t_values a_73 a_74 a_75 l_76))) (fun K => rfl) ?_
  rcases xb_if h with ⟨hc1101, h⟩ | ⟨hc1101, h⟩
  · refine xe_pos hc1101 (xe_k ?_)
    refine xe_sub [true, true, true, true, false, false, false, false] (lv' := [(0, .ref 59), (1, .int v1), (2, .int v2), (3, .int v3)]) rfl ?_
    have hz := xh_rf_firstWrong_57_124 (l := l) (g := g) ok a_58 a_59 a_60 a_61 a_62 a_63 a_66 a_67 a_68 a_69 a_73 a_74 a_75 l_76 s_57_0 s_57_1 s_57_18 s_57_19 s_57_20 s_57_24 X t_kindMay t_kindSorts t_parts t_sorts t_values hk2 n v1 v2 v3 _ h
    exact hz
  · refine xe_neg hc1101 (xe_k ?_)
    refine xe_seg ok 2 (G := (fun K => if v6 = (0 : Int32) then K (75, xm_i75, xm_I75, 0, 0, 117, [(0, .ref 59), (1, .int v1), (2, .int v2), (3, .int v3), (4, .int v4), (5, .int v5), (6, .int v6), (7, .int s0)], [], xw_R X s_57_0 s_57_1 s_57_18 s_57_19 s_57_20 s_57_24 a_58 a_59 a_60 a_61 a_62 a_63 t_kindSorts t_kindMay a_66 a_67 a_68 a_69 t_parts t_sorts t_values a_73 a_74 a_75 l_76) else K (75, xm_i75, xm_I75, 0, 0, 124, [(0, .ref 59), (1, .int v1), (2, .int v2), (3, .int v3), (4, .int v4), (5, .int v5), (6, .int v6), (7, .int s0)], [], xw_R X s_57_0 s_57_1 s_57_18 s_57_19 s_57_20 s_57_24 a_58 a_59 a_60 a_61 a_62 a_63 t_kindSorts t_kindMay a_66 a_67 a_68 a_69 t_parts t_sorts t_values a_73 a_74 a_75 l_76))) (fun K => rfl) ?_
    rcases xb_if h with ⟨hc1102, h⟩ | ⟨hc1102, h⟩
    · refine xe_pos hc1102 (xe_k ?_)
      refine xe_seg ok 2 (G := (fun K => if s0 = (0 : Int32) then K (75, xm_i75, xm_I75, 0, 0, 122, [(0, .ref 59), (1, .int v1), (2, .int v2), (3, .int v3), (4, .int v4), (5, .int v5), (6, .int v6), (7, .int s0)], [], xw_R X s_57_0 s_57_1 s_57_18 s_57_19 s_57_20 s_57_24 a_58 a_59 a_60 a_61 a_62 a_63 t_kindSorts t_kindMay a_66 a_67 a_68 a_69 t_parts t_sorts t_values a_73 a_74 a_75 l_76) else K (75, xm_i75, xm_I75, 0, 0, 124, [(0, .ref 59), (1, .int v1), (2, .int v2), (3, .int v3), (4, .int v4), (5, .int v5), (6, .int v6), (7, .int s0)], [], xw_R X s_57_0 s_57_1 s_57_18 s_57_19 s_57_20 s_57_24 a_58 a_59 a_60 a_61 a_62 a_63 t_kindSorts t_kindMay a_66 a_67 a_68 a_69 t_parts t_sorts t_values a_73 a_74 a_75 l_76))) (fun K => rfl) ?_
      rcases xb_if h with ⟨hc1103, h⟩ | ⟨hc1103, h⟩
      · refine xe_pos hc1103 (xe_k ?_)
        obtain rfl := Option.some.inj h
        refine xe_seg ok 2 (G := (fun _ => some (.inl (some (.int v3)), xw_R X s_57_0 s_57_1 s_57_18 s_57_19 s_57_20 s_57_24 a_58 a_59 a_60 a_61 a_62 a_63 t_kindSorts t_kindMay a_66 a_67 a_68 a_69 t_parts t_sorts t_values a_73 a_74 a_75 l_76))) (fun K => rfl) ?_
        exact xe_ret
      · refine xe_neg hc1103 (xe_k ?_)
        refine xe_sub [true, true, true, true, false, false, false, false] (lv' := [(0, .ref 59), (1, .int v1), (2, .int v2), (3, .int v3)]) rfl ?_
        have hz := xh_rf_firstWrong_57_124 (l := l) (g := g) ok a_58 a_59 a_60 a_61 a_62 a_63 a_66 a_67 a_68 a_69 a_73 a_74 a_75 l_76 s_57_0 s_57_1 s_57_18 s_57_19 s_57_20 s_57_24 X t_kindMay t_kindSorts t_parts t_sorts t_values hk2 n v1 v2 v3 _ h
        exact hz
    · refine xe_neg hc1102 (xe_k ?_)
      refine xe_sub [true, true, true, true, false, false, false, false] (lv' := [(0, .ref 59), (1, .int v1), (2, .int v2), (3, .int v3)]) rfl ?_
      have hz := xh_rf_firstWrong_57_124 (l := l) (g := g) ok a_58 a_59 a_60 a_61 a_62 a_63 a_66 a_67 a_68 a_69 a_73 a_74 a_75 l_76 s_57_0 s_57_1 s_57_18 s_57_19 s_57_20 s_57_24 X t_kindMay t_kindSorts t_parts t_sorts t_values hk2 n v1 v2 v3 _ h
      exact hz
set_option maxHeartbeats 400000 in
theorem xh_rf_firstWrong_57_97 {l : Launch} {g : xr_G} (ok : xr_OK xm_P) (a_58 a_59 a_60 a_61 a_62 a_63 a_66 a_67 a_68 a_69 a_73 a_74 a_75 : Nat → Int32) (l_76 : Nat → Int64) (s_57_0 s_57_1 s_57_18 s_57_19 s_57_20 s_57_24 : Int32) (X : Nat → xr_C) (t_kindMay : (Nat → Int32)) (t_kindSorts : (Nat → Int32)) (t_parts : (Nat → Int32)) (t_sorts : (Nat → Int32)) (t_values : (Nat → Int32)) {k2 : Int32 → Int32 → Int32 → Option (Int32)} (hk2 : ∀ (v1 : Int32) (v2 : Int32) (v3 : Int32) (r : (Int32)), k2 v1 v2 v3 = some r → xV xm_P l g (75, xm_i75, xm_I75, 0, 0, 2, [(0, .ref 59), (1, .int v1), (2, .int v2), (3, .int v3)], [], xw_R X s_57_0 s_57_1 s_57_18 s_57_19 s_57_20 s_57_24 a_58 a_59 a_60 a_61 a_62 a_63 t_kindSorts t_kindMay a_66 a_67 a_68 a_69 t_parts t_sorts t_values a_73 a_74 a_75 l_76) (.inl (some (.int r)), xw_R X s_57_0 s_57_1 s_57_18 s_57_19 s_57_20 s_57_24 a_58 a_59 a_60 a_61 a_62 a_63 t_kindSorts t_kindMay a_66 a_67 a_68 a_69 t_parts t_sorts t_values a_73 a_74 a_75 l_76)) (n : Nat) : ∀ (v1 : Int32) (v2 : Int32) (v3 : Int32) (v4 : Int32) (v5 : Int32) (v6 : Int32) (r : (Int32)), xf_rf_firstWrong_97 t_kindMay t_kindSorts t_parts t_sorts t_values k2 n v1 v2 v3 v4 v5 v6 = some r → xV xm_P l g (75, xm_i75, xm_I75, 0, 0, 97, [(0, .ref 59), (1, .int v1), (2, .int v2), (3, .int v3), (4, .int v4), (5, .int v5), (6, .int v6)], [], xw_R X s_57_0 s_57_1 s_57_18 s_57_19 s_57_20 s_57_24 a_58 a_59 a_60 a_61 a_62 a_63 t_kindSorts t_kindMay a_66 a_67 a_68 a_69 t_parts t_sorts t_values a_73 a_74 a_75 l_76) (.inl (some (.int r)), xw_R X s_57_0 s_57_1 s_57_18 s_57_19 s_57_20 s_57_24 a_58 a_59 a_60 a_61 a_62 a_63 t_kindSorts t_kindMay a_66 a_67 a_68 a_69 t_parts t_sorts t_values a_73 a_74 a_75 l_76) := by
  intro v1 v2 v3 v4 v5 v6 r h
  unfold xf_rf_firstWrong_97 at h
  refine xe_seg ok 1 (G := (fun K => K (75, xm_i75, xm_I75, 0, 0, 98, [(0, .ref 59), (1, .int v1), (2, .int v2), (3, .int v3), (4, .int v4), (5, .int v5), (6, .int v6)], [.int ((0 : Int32))], xw_R X s_57_0 s_57_1 s_57_18 s_57_19 s_57_20 s_57_24 a_58 a_59 a_60 a_61 a_62 a_63 t_kindSorts t_kindMay a_66 a_67 a_68 a_69 t_parts t_sorts t_values a_73 a_74 a_75 l_76))) (fun K => rfl) ?_
  refine xe_k ?_
  refine xe_sub [true, true, true, true, true, true, true] (lv' := [(0, .ref 59), (1, .int v1), (2, .int v2), (3, .int v3), (4, .int v4), (5, .int v5), (6, .int v6)]) rfl ?_
  have hz := xh_rf_firstWrong_57_98 (l := l) (g := g) ok a_58 a_59 a_60 a_61 a_62 a_63 a_66 a_67 a_68 a_69 a_73 a_74 a_75 l_76 s_57_0 s_57_1 s_57_18 s_57_19 s_57_20 s_57_24 X t_kindMay t_kindSorts t_parts t_sorts t_values hk2 n v1 v2 v3 v4 v5 v6 ((0 : Int32)) _ h
  exact hz
set_option maxHeartbeats 400000 in
theorem xh_rf_firstWrong_57_65 {l : Launch} {g : xr_G} (ok : xr_OK xm_P) (a_58 a_59 a_60 a_61 a_62 a_63 a_66 a_67 a_68 a_69 a_73 a_74 a_75 : Nat → Int32) (l_76 : Nat → Int64) (s_57_0 s_57_1 s_57_18 s_57_19 s_57_20 s_57_24 : Int32) (X : Nat → xr_C) (t_kindMay : (Nat → Int32)) (t_kindSorts : (Nat → Int32)) (t_parts : (Nat → Int32)) (t_sorts : (Nat → Int32)) (t_values : (Nat → Int32)) {k2 : Int32 → Int32 → Int32 → Option (Int32)} (hk2 : ∀ (v1 : Int32) (v2 : Int32) (v3 : Int32) (r : (Int32)), k2 v1 v2 v3 = some r → xV xm_P l g (75, xm_i75, xm_I75, 0, 0, 2, [(0, .ref 59), (1, .int v1), (2, .int v2), (3, .int v3)], [], xw_R X s_57_0 s_57_1 s_57_18 s_57_19 s_57_20 s_57_24 a_58 a_59 a_60 a_61 a_62 a_63 t_kindSorts t_kindMay a_66 a_67 a_68 a_69 t_parts t_sorts t_values a_73 a_74 a_75 l_76) (.inl (some (.int r)), xw_R X s_57_0 s_57_1 s_57_18 s_57_19 s_57_20 s_57_24 a_58 a_59 a_60 a_61 a_62 a_63 t_kindSorts t_kindMay a_66 a_67 a_68 a_69 t_parts t_sorts t_values a_73 a_74 a_75 l_76)) (n : Nat) : ∀ (v1 : Int32) (v2 : Int32) (v3 : Int32) (v4 : Int32) (v5 : Int32) (s0 : Int32) (r : (Int32)), xf_rf_firstWrong_65 t_kindMay t_kindSorts t_parts t_sorts t_values k2 n v1 v2 v3 v4 v5 s0 = some r → xV xm_P l g (75, xm_i75, xm_I75, 0, 0, 65, [(0, .ref 59), (1, .int v1), (2, .int v2), (3, .int v3), (4, .int v4), (5, .int v5)], [.int s0], xw_R X s_57_0 s_57_1 s_57_18 s_57_19 s_57_20 s_57_24 a_58 a_59 a_60 a_61 a_62 a_63 t_kindSorts t_kindMay a_66 a_67 a_68 a_69 t_parts t_sorts t_values a_73 a_74 a_75 l_76) (.inl (some (.int r)), xw_R X s_57_0 s_57_1 s_57_18 s_57_19 s_57_20 s_57_24 a_58 a_59 a_60 a_61 a_62 a_63 t_kindSorts t_kindMay a_66 a_67 a_68 a_69 t_parts t_sorts t_values a_73 a_74 a_75 l_76) := by
  intro v1 v2 v3 v4 v5 s0 r h
  unfold xf_rf_firstWrong_65 at h
  refine xe_seg ok 5 (G := (fun K => if xr_in v4 960 = true then K (75, xm_i75, xm_I75, 0, 0, 74, [(0, .ref 59), (1, .int v1), (2, .int v2), (3, .int v3), (4, .int v4), (5, .int v5), (6, .int s0)], [.int (t_sorts v4.toNatClampNeg)], xw_R X s_57_0 s_57_1 s_57_18 s_57_19 s_57_20 s_57_24 a_58 a_59 a_60 a_61 a_62 a_63 t_kindSorts t_kindMay a_66 a_67 a_68 a_69 t_parts t_sorts t_values a_73 a_74 a_75 l_76) else none)) (fun K => rfl) ?_
  obtain ⟨hg1096, h⟩ := xn_if h
  refine xe_pos hg1096 (xe_k ?_)
  refine xe_seg ok 2 (G := (fun K => if (t_sorts v4.toNatClampNeg) = ((6 : Int32)) then K (75, xm_i75, xm_I75, 0, 0, 79, [(0, .ref 59), (1, .int v1), (2, .int v2), (3, .int v3), (4, .int v4), (5, .int v5), (6, .int s0)], [], xw_R X s_57_0 s_57_1 s_57_18 s_57_19 s_57_20 s_57_24 a_58 a_59 a_60 a_61 a_62 a_63 t_kindSorts t_kindMay a_66 a_67 a_68 a_69 t_parts t_sorts t_values a_73 a_74 a_75 l_76) else K (75, xm_i75, xm_I75, 0, 0, 97, [(0, .ref 59), (1, .int v1), (2, .int v2), (3, .int v3), (4, .int v4), (5, .int v5), (6, .int s0)], [], xw_R X s_57_0 s_57_1 s_57_18 s_57_19 s_57_20 s_57_24 a_58 a_59 a_60 a_61 a_62 a_63 t_kindSorts t_kindMay a_66 a_67 a_68 a_69 t_parts t_sorts t_values a_73 a_74 a_75 l_76))) (fun K => rfl) ?_
  rcases xb_if h with ⟨hc1097, h⟩ | ⟨hc1097, h⟩
  · refine xe_pos hc1097 (xe_k ?_)
    refine xe_seg ok 8 (G := (fun K => if xr_in ((((8 : Int32)) * v2) + v3) 192 = true then K (75, xm_i75, xm_I75, 0, 0, 90, [(0, .ref 59), (1, .int v1), (2, .int v2), (3, .int v3), (4, .int v4), (5, .int v5), (6, .int s0)], [.int (t_kindMay ((((8 : Int32)) * v2) + v3).toNatClampNeg)], xw_R X s_57_0 s_57_1 s_57_18 s_57_19 s_57_20 s_57_24 a_58 a_59 a_60 a_61 a_62 a_63 t_kindSorts t_kindMay a_66 a_67 a_68 a_69 t_parts t_sorts t_values a_73 a_74 a_75 l_76) else none)) (fun K => rfl) ?_
    obtain ⟨hg1098, h⟩ := xn_if h
    refine xe_pos hg1098 (xe_k ?_)
    refine xe_seg ok 1 (G := (fun K => if (t_kindMay ((((8 : Int32)) * v2) + v3).toNatClampNeg) = (0 : Int32) then K (75, xm_i75, xm_I75, 0, 0, 97, [(0, .ref 59), (1, .int v1), (2, .int v2), (3, .int v3), (4, .int v4), (5, .int v5), (6, .int s0)], [], xw_R X s_57_0 s_57_1 s_57_18 s_57_19 s_57_20 s_57_24 a_58 a_59 a_60 a_61 a_62 a_63 t_kindSorts t_kindMay a_66 a_67 a_68 a_69 t_parts t_sorts t_values a_73 a_74 a_75 l_76) else K (75, xm_i75, xm_I75, 0, 0, 93, [(0, .ref 59), (1, .int v1), (2, .int v2), (3, .int v3), (4, .int v4), (5, .int v5), (6, .int s0)], [], xw_R X s_57_0 s_57_1 s_57_18 s_57_19 s_57_20 s_57_24 a_58 a_59 a_60 a_61 a_62 a_63 t_kindSorts t_kindMay a_66 a_67 a_68 a_69 t_parts t_sorts t_values a_73 a_74 a_75 l_76))) (fun K => rfl) ?_
    rcases xb_if h with ⟨hc1099, h⟩ | ⟨hc1099, h⟩
    · refine xe_pos hc1099 (xe_k ?_)
      refine xe_sub [true, true, true, true, true, true, true] (lv' := [(0, .ref 59), (1, .int v1), (2, .int v2), (3, .int v3), (4, .int v4), (5, .int v5), (6, .int s0)]) rfl ?_
      have hz := xh_rf_firstWrong_57_97 (l := l) (g := g) ok a_58 a_59 a_60 a_61 a_62 a_63 a_66 a_67 a_68 a_69 a_73 a_74 a_75 l_76 s_57_0 s_57_1 s_57_18 s_57_19 s_57_20 s_57_24 X t_kindMay t_kindSorts t_parts t_sorts t_values hk2 n v1 v2 v3 v4 v5 s0 _ h
      exact hz
    · refine xe_neg hc1099 (xe_k ?_)
      refine xe_seg ok 2 (G := (fun K => K (75, xm_i75, xm_I75, 0, 0, 98, [(0, .ref 59), (1, .int v1), (2, .int v2), (3, .int v3), (4, .int v4), (5, .int v5), (6, .int s0)], [.int ((1 : Int32))], xw_R X s_57_0 s_57_1 s_57_18 s_57_19 s_57_20 s_57_24 a_58 a_59 a_60 a_61 a_62 a_63 t_kindSorts t_kindMay a_66 a_67 a_68 a_69 t_parts t_sorts t_values a_73 a_74 a_75 l_76))) (fun K => rfl) ?_
      refine xe_k ?_
      refine xe_sub [true, true, true, true, true, true, true] (lv' := [(0, .ref 59), (1, .int v1), (2, .int v2), (3, .int v3), (4, .int v4), (5, .int v5), (6, .int s0)]) rfl ?_
      have hz := xh_rf_firstWrong_57_98 (l := l) (g := g) ok a_58 a_59 a_60 a_61 a_62 a_63 a_66 a_67 a_68 a_69 a_73 a_74 a_75 l_76 s_57_0 s_57_1 s_57_18 s_57_19 s_57_20 s_57_24 X t_kindMay t_kindSorts t_parts t_sorts t_values hk2 n v1 v2 v3 v4 v5 s0 ((1 : Int32)) _ h
      exact hz
  · refine xe_neg hc1097 (xe_k ?_)
    refine xe_sub [true, true, true, true, true, true, true] (lv' := [(0, .ref 59), (1, .int v1), (2, .int v2), (3, .int v3), (4, .int v4), (5, .int v5), (6, .int s0)]) rfl ?_
    have hz := xh_rf_firstWrong_57_97 (l := l) (g := g) ok a_58 a_59 a_60 a_61 a_62 a_63 a_66 a_67 a_68 a_69 a_73 a_74 a_75 l_76 s_57_0 s_57_1 s_57_18 s_57_19 s_57_20 s_57_24 X t_kindMay t_kindSorts t_parts t_sorts t_values hk2 n v1 v2 v3 v4 v5 s0 _ h
    exact hz
set_option maxHeartbeats 400000 in
theorem xh_rf_firstWrong_57_64 {l : Launch} {g : xr_G} (ok : xr_OK xm_P) (a_58 a_59 a_60 a_61 a_62 a_63 a_66 a_67 a_68 a_69 a_73 a_74 a_75 : Nat → Int32) (l_76 : Nat → Int64) (s_57_0 s_57_1 s_57_18 s_57_19 s_57_20 s_57_24 : Int32) (X : Nat → xr_C) (t_kindMay : (Nat → Int32)) (t_kindSorts : (Nat → Int32)) (t_parts : (Nat → Int32)) (t_sorts : (Nat → Int32)) (t_values : (Nat → Int32)) {k2 : Int32 → Int32 → Int32 → Option (Int32)} (hk2 : ∀ (v1 : Int32) (v2 : Int32) (v3 : Int32) (r : (Int32)), k2 v1 v2 v3 = some r → xV xm_P l g (75, xm_i75, xm_I75, 0, 0, 2, [(0, .ref 59), (1, .int v1), (2, .int v2), (3, .int v3)], [], xw_R X s_57_0 s_57_1 s_57_18 s_57_19 s_57_20 s_57_24 a_58 a_59 a_60 a_61 a_62 a_63 t_kindSorts t_kindMay a_66 a_67 a_68 a_69 t_parts t_sorts t_values a_73 a_74 a_75 l_76) (.inl (some (.int r)), xw_R X s_57_0 s_57_1 s_57_18 s_57_19 s_57_20 s_57_24 a_58 a_59 a_60 a_61 a_62 a_63 t_kindSorts t_kindMay a_66 a_67 a_68 a_69 t_parts t_sorts t_values a_73 a_74 a_75 l_76)) (n : Nat) : ∀ (v1 : Int32) (v2 : Int32) (v3 : Int32) (v4 : Int32) (v5 : Int32) (r : (Int32)), xf_rf_firstWrong_64 t_kindMay t_kindSorts t_parts t_sorts t_values k2 n v1 v2 v3 v4 v5 = some r → xV xm_P l g (75, xm_i75, xm_I75, 0, 0, 64, [(0, .ref 59), (1, .int v1), (2, .int v2), (3, .int v3), (4, .int v4), (5, .int v5)], [], xw_R X s_57_0 s_57_1 s_57_18 s_57_19 s_57_20 s_57_24 a_58 a_59 a_60 a_61 a_62 a_63 t_kindSorts t_kindMay a_66 a_67 a_68 a_69 t_parts t_sorts t_values a_73 a_74 a_75 l_76) (.inl (some (.int r)), xw_R X s_57_0 s_57_1 s_57_18 s_57_19 s_57_20 s_57_24 a_58 a_59 a_60 a_61 a_62 a_63 t_kindSorts t_kindMay a_66 a_67 a_68 a_69 t_parts t_sorts t_values a_73 a_74 a_75 l_76) := by
  intro v1 v2 v3 v4 v5 r h
  unfold xf_rf_firstWrong_64 at h
  refine xe_seg ok 1 (G := (fun K => K (75, xm_i75, xm_I75, 0, 0, 65, [(0, .ref 59), (1, .int v1), (2, .int v2), (3, .int v3), (4, .int v4), (5, .int v5)], [.int ((0 : Int32))], xw_R X s_57_0 s_57_1 s_57_18 s_57_19 s_57_20 s_57_24 a_58 a_59 a_60 a_61 a_62 a_63 t_kindSorts t_kindMay a_66 a_67 a_68 a_69 t_parts t_sorts t_values a_73 a_74 a_75 l_76))) (fun K => rfl) ?_
  refine xe_k ?_
  refine xe_sub [true, true, true, true, true, true] (lv' := [(0, .ref 59), (1, .int v1), (2, .int v2), (3, .int v3), (4, .int v4), (5, .int v5)]) rfl ?_
  have hz := xh_rf_firstWrong_57_65 (l := l) (g := g) ok a_58 a_59 a_60 a_61 a_62 a_63 a_66 a_67 a_68 a_69 a_73 a_74 a_75 l_76 s_57_0 s_57_1 s_57_18 s_57_19 s_57_20 s_57_24 X t_kindMay t_kindSorts t_parts t_sorts t_values hk2 n v1 v2 v3 v4 v5 ((0 : Int32)) _ h
  exact hz
set_option maxHeartbeats 400000 in
theorem xh_rf_firstWrong_57_2 {l : Launch} {g : xr_G} (ok : xr_OK xm_P) (a_58 a_59 a_60 a_61 a_62 a_63 a_66 a_67 a_68 a_69 a_73 a_74 a_75 : Nat → Int32) (l_76 : Nat → Int64) (s_57_0 s_57_1 s_57_18 s_57_19 s_57_20 s_57_24 : Int32) (X : Nat → xr_C) (t_kindMay : (Nat → Int32)) (t_kindSorts : (Nat → Int32)) (t_parts : (Nat → Int32)) (t_sorts : (Nat → Int32)) (t_values : (Nat → Int32)) (n : Nat) : ∀ (N : Nat) (v1 : Int32) (v2 : Int32) (v3 : Int32) (r : (Int32)), xf_rf_firstWrong_2 t_kindMay t_kindSorts t_parts t_sorts t_values n N v1 v2 v3 = some r → xV xm_P l g (75, xm_i75, xm_I75, 0, 0, 2, [(0, .ref 59), (1, .int v1), (2, .int v2), (3, .int v3)], [], xw_R X s_57_0 s_57_1 s_57_18 s_57_19 s_57_20 s_57_24 a_58 a_59 a_60 a_61 a_62 a_63 t_kindSorts t_kindMay a_66 a_67 a_68 a_69 t_parts t_sorts t_values a_73 a_74 a_75 l_76) (.inl (some (.int r)), xw_R X s_57_0 s_57_1 s_57_18 s_57_19 s_57_20 s_57_24 a_58 a_59 a_60 a_61 a_62 a_63 t_kindSorts t_kindMay a_66 a_67 a_68 a_69 t_parts t_sorts t_values a_73 a_74 a_75 l_76) := by
  intro N
  induction N with
  | zero => intro v1 v2 v3 r h; cases h
  | succ N hk2 =>
    intro v1 v2 v3 r h
    refine xe_seg ok 5 (G := (fun K => if xr_in v1 120 = true then K (75, xm_i75, xm_I75, 0, 0, 9, [(0, .ref 59), (1, .int v1), (2, .int v2), (3, .int v3)], [.int (t_parts v1.toNatClampNeg), .int v3], xw_R X s_57_0 s_57_1 s_57_18 s_57_19 s_57_20 s_57_24 a_58 a_59 a_60 a_61 a_62 a_63 t_kindSorts t_kindMay a_66 a_67 a_68 a_69 t_parts t_sorts t_values a_73 a_74 a_75 l_76) else none)) (fun K => rfl) ?_
    obtain ⟨hg1088, h⟩ := xn_if h
    refine xe_pos hg1088 (xe_k ?_)
    refine xe_seg ok 1 (G := (fun K => if v3 < (t_parts v1.toNatClampNeg) then K (75, xm_i75, xm_I75, 0, 0, 12, [(0, .ref 59), (1, .int v1), (2, .int v2), (3, .int v3)], [], xw_R X s_57_0 s_57_1 s_57_18 s_57_19 s_57_20 s_57_24 a_58 a_59 a_60 a_61 a_62 a_63 t_kindSorts t_kindMay a_66 a_67 a_68 a_69 t_parts t_sorts t_values a_73 a_74 a_75 l_76) else K (75, xm_i75, xm_I75, 0, 0, 130, [(0, .ref 59), (1, .int v1), (2, .int v2), (3, .int v3)], [], xw_R X s_57_0 s_57_1 s_57_18 s_57_19 s_57_20 s_57_24 a_58 a_59 a_60 a_61 a_62 a_63 t_kindSorts t_kindMay a_66 a_67 a_68 a_69 t_parts t_sorts t_values a_73 a_74 a_75 l_76))) (fun K => rfl) ?_
    rcases xb_if h with ⟨hc1089, h⟩ | ⟨hc1089, h⟩
    · refine xe_pos hc1089 (xe_k ?_)
      refine xe_seg ok 14 (G := (fun K => if xr_in ((((8 : Int32)) * v2) + v3) 192 = true then K (75, xm_i75, xm_I75, 0, 0, 31, [(0, .ref 59), (1, .int v1), (2, .int v2), (3, .int v3), (4, .int ((((8 : Int32)) * v1) + v3))], [.int (t_kindSorts ((((8 : Int32)) * v2) + v3).toNatClampNeg)], xw_R X s_57_0 s_57_1 s_57_18 s_57_19 s_57_20 s_57_24 a_58 a_59 a_60 a_61 a_62 a_63 t_kindSorts t_kindMay a_66 a_67 a_68 a_69 t_parts t_sorts t_values a_73 a_74 a_75 l_76) else none)) (fun K => rfl) ?_
      obtain ⟨hg1090, h⟩ := xn_if h
      refine xe_pos hg1090 (xe_k ?_)
      refine xe_seg ok 4 (G := (fun K => if (t_kindSorts ((((8 : Int32)) * v2) + v3).toNatClampNeg) = ((4 : Int32)) then K (75, xm_i75, xm_I75, 0, 0, 39, [(0, .ref 59), (1, .int v1), (2, .int v2), (3, .int v3), (4, .int ((((8 : Int32)) * v1) + v3)), (5, .int (t_kindSorts ((((8 : Int32)) * v2) + v3).toNatClampNeg))], [], xw_R X s_57_0 s_57_1 s_57_18 s_57_19 s_57_20 s_57_24 a_58 a_59 a_60 a_61 a_62 a_63 t_kindSorts t_kindMay a_66 a_67 a_68 a_69 t_parts t_sorts t_values a_73 a_74 a_75 l_76) else K (75, xm_i75, xm_I75, 0, 0, 64, [(0, .ref 59), (1, .int v1), (2, .int v2), (3, .int v3), (4, .int ((((8 : Int32)) * v1) + v3)), (5, .int (t_kindSorts ((((8 : Int32)) * v2) + v3).toNatClampNeg))], [], xw_R X s_57_0 s_57_1 s_57_18 s_57_19 s_57_20 s_57_24 a_58 a_59 a_60 a_61 a_62 a_63 t_kindSorts t_kindMay a_66 a_67 a_68 a_69 t_parts t_sorts t_values a_73 a_74 a_75 l_76))) (fun K => rfl) ?_
      rcases xb_if h with ⟨hc1091, h⟩ | ⟨hc1091, h⟩
      · refine xe_pos hc1091 (xe_k ?_)
        refine xe_seg ok 4 (G := (fun K => if xr_in ((((8 : Int32)) * v1) + v3) 960 = true then K (75, xm_i75, xm_I75, 0, 0, 46, [(0, .ref 59), (1, .int v1), (2, .int v2), (3, .int v3), (4, .int ((((8 : Int32)) * v1) + v3)), (5, .int (t_kindSorts ((((8 : Int32)) * v2) + v3).toNatClampNeg))], [.int (t_sorts ((((8 : Int32)) * v1) + v3).toNatClampNeg)], xw_R X s_57_0 s_57_1 s_57_18 s_57_19 s_57_20 s_57_24 a_58 a_59 a_60 a_61 a_62 a_63 t_kindSorts t_kindMay a_66 a_67 a_68 a_69 t_parts t_sorts t_values a_73 a_74 a_75 l_76) else none)) (fun K => rfl) ?_
        obtain ⟨hg1092, h⟩ := xn_if h
        refine xe_pos hg1092 (xe_k ?_)
        refine xe_seg ok 2 (G := (fun K => if (t_sorts ((((8 : Int32)) * v1) + v3).toNatClampNeg) = ((3 : Int32)) then K (75, xm_i75, xm_I75, 0, 0, 50, [(0, .ref 59), (1, .int v1), (2, .int v2), (3, .int v3), (4, .int ((((8 : Int32)) * v1) + v3)), (5, .int (t_kindSorts ((((8 : Int32)) * v2) + v3).toNatClampNeg))], [], xw_R X s_57_0 s_57_1 s_57_18 s_57_19 s_57_20 s_57_24 a_58 a_59 a_60 a_61 a_62 a_63 t_kindSorts t_kindMay a_66 a_67 a_68 a_69 t_parts t_sorts t_values a_73 a_74 a_75 l_76) else K (75, xm_i75, xm_I75, 0, 0, 64, [(0, .ref 59), (1, .int v1), (2, .int v2), (3, .int v3), (4, .int ((((8 : Int32)) * v1) + v3)), (5, .int (t_kindSorts ((((8 : Int32)) * v2) + v3).toNatClampNeg))], [], xw_R X s_57_0 s_57_1 s_57_18 s_57_19 s_57_20 s_57_24 a_58 a_59 a_60 a_61 a_62 a_63 t_kindSorts t_kindMay a_66 a_67 a_68 a_69 t_parts t_sorts t_values a_73 a_74 a_75 l_76))) (fun K => rfl) ?_
        rcases xb_if h with ⟨hc1093, h⟩ | ⟨hc1093, h⟩
        · refine xe_pos hc1093 (xe_k ?_)
          refine xe_seg ok 4 (G := (fun K => if xr_in ((((8 : Int32)) * v1) + v3) 960 = true then K (75, xm_i75, xm_I75, 0, 0, 57, [(0, .ref 59), (1, .int v1), (2, .int v2), (3, .int v3), (4, .int ((((8 : Int32)) * v1) + v3)), (5, .int (t_kindSorts ((((8 : Int32)) * v2) + v3).toNatClampNeg))], [.int (t_values ((((8 : Int32)) * v1) + v3).toNatClampNeg)], xw_R X s_57_0 s_57_1 s_57_18 s_57_19 s_57_20 s_57_24 a_58 a_59 a_60 a_61 a_62 a_63 t_kindSorts t_kindMay a_66 a_67 a_68 a_69 t_parts t_sorts t_values a_73 a_74 a_75 l_76) else none)) (fun K => rfl) ?_
          obtain ⟨hg1094, h⟩ := xn_if h
          refine xe_pos hg1094 (xe_k ?_)
          refine xe_seg ok 1 (G := (fun K => if (t_values ((((8 : Int32)) * v1) + v3).toNatClampNeg) = (0 : Int32) then K (75, xm_i75, xm_I75, 0, 0, 60, [(0, .ref 59), (1, .int v1), (2, .int v2), (3, .int v3), (4, .int ((((8 : Int32)) * v1) + v3)), (5, .int (t_kindSorts ((((8 : Int32)) * v2) + v3).toNatClampNeg))], [], xw_R X s_57_0 s_57_1 s_57_18 s_57_19 s_57_20 s_57_24 a_58 a_59 a_60 a_61 a_62 a_63 t_kindSorts t_kindMay a_66 a_67 a_68 a_69 t_parts t_sorts t_values a_73 a_74 a_75 l_76) else K (75, xm_i75, xm_I75, 0, 0, 64, [(0, .ref 59), (1, .int v1), (2, .int v2), (3, .int v3), (4, .int ((((8 : Int32)) * v1) + v3)), (5, .int (t_kindSorts ((((8 : Int32)) * v2) + v3).toNatClampNeg))], [], xw_R X s_57_0 s_57_1 s_57_18 s_57_19 s_57_20 s_57_24 a_58 a_59 a_60 a_61 a_62 a_63 t_kindSorts t_kindMay a_66 a_67 a_68 a_69 t_parts t_sorts t_values a_73 a_74 a_75 l_76))) (fun K => rfl) ?_
          rcases xb_if h with ⟨hc1095, h⟩ | ⟨hc1095, h⟩
          · refine xe_pos hc1095 (xe_k ?_)
            refine xe_seg ok 2 (G := (fun K => K (75, xm_i75, xm_I75, 0, 0, 65, [(0, .ref 59), (1, .int v1), (2, .int v2), (3, .int v3), (4, .int ((((8 : Int32)) * v1) + v3)), (5, .int (t_kindSorts ((((8 : Int32)) * v2) + v3).toNatClampNeg))], [.int ((1 : Int32))], xw_R X s_57_0 s_57_1 s_57_18 s_57_19 s_57_20 s_57_24 a_58 a_59 a_60 a_61 a_62 a_63 t_kindSorts t_kindMay a_66 a_67 a_68 a_69 t_parts t_sorts t_values a_73 a_74 a_75 l_76))) (fun K => rfl) ?_
            refine xe_k ?_
            refine xe_sub [true, true, true, true, true, true] (lv' := [(0, .ref 59), (1, .int v1), (2, .int v2), (3, .int v3), (4, .int ((((8 : Int32)) * v1) + v3)), (5, .int (t_kindSorts ((((8 : Int32)) * v2) + v3).toNatClampNeg))]) rfl ?_
            have hz := xh_rf_firstWrong_57_65 (l := l) (g := g) ok a_58 a_59 a_60 a_61 a_62 a_63 a_66 a_67 a_68 a_69 a_73 a_74 a_75 l_76 s_57_0 s_57_1 s_57_18 s_57_19 s_57_20 s_57_24 X t_kindMay t_kindSorts t_parts t_sorts t_values hk2 n v1 v2 v3 ((((8 : Int32)) * v1) + v3) (t_kindSorts ((((8 : Int32)) * v2) + v3).toNatClampNeg) ((1 : Int32)) _ h
            exact hz
          · refine xe_neg hc1095 (xe_k ?_)
            refine xe_sub [true, true, true, true, true, true] (lv' := [(0, .ref 59), (1, .int v1), (2, .int v2), (3, .int v3), (4, .int ((((8 : Int32)) * v1) + v3)), (5, .int (t_kindSorts ((((8 : Int32)) * v2) + v3).toNatClampNeg))]) rfl ?_
            have hz := xh_rf_firstWrong_57_64 (l := l) (g := g) ok a_58 a_59 a_60 a_61 a_62 a_63 a_66 a_67 a_68 a_69 a_73 a_74 a_75 l_76 s_57_0 s_57_1 s_57_18 s_57_19 s_57_20 s_57_24 X t_kindMay t_kindSorts t_parts t_sorts t_values hk2 n v1 v2 v3 ((((8 : Int32)) * v1) + v3) (t_kindSorts ((((8 : Int32)) * v2) + v3).toNatClampNeg) _ h
            exact hz
        · refine xe_neg hc1093 (xe_k ?_)
          refine xe_sub [true, true, true, true, true, true] (lv' := [(0, .ref 59), (1, .int v1), (2, .int v2), (3, .int v3), (4, .int ((((8 : Int32)) * v1) + v3)), (5, .int (t_kindSorts ((((8 : Int32)) * v2) + v3).toNatClampNeg))]) rfl ?_
          have hz := xh_rf_firstWrong_57_64 (l := l) (g := g) ok a_58 a_59 a_60 a_61 a_62 a_63 a_66 a_67 a_68 a_69 a_73 a_74 a_75 l_76 s_57_0 s_57_1 s_57_18 s_57_19 s_57_20 s_57_24 X t_kindMay t_kindSorts t_parts t_sorts t_values hk2 n v1 v2 v3 ((((8 : Int32)) * v1) + v3) (t_kindSorts ((((8 : Int32)) * v2) + v3).toNatClampNeg) _ h
          exact hz
      · refine xe_neg hc1091 (xe_k ?_)
        refine xe_sub [true, true, true, true, true, true] (lv' := [(0, .ref 59), (1, .int v1), (2, .int v2), (3, .int v3), (4, .int ((((8 : Int32)) * v1) + v3)), (5, .int (t_kindSorts ((((8 : Int32)) * v2) + v3).toNatClampNeg))]) rfl ?_
        have hz := xh_rf_firstWrong_57_64 (l := l) (g := g) ok a_58 a_59 a_60 a_61 a_62 a_63 a_66 a_67 a_68 a_69 a_73 a_74 a_75 l_76 s_57_0 s_57_1 s_57_18 s_57_19 s_57_20 s_57_24 X t_kindMay t_kindSorts t_parts t_sorts t_values hk2 n v1 v2 v3 ((((8 : Int32)) * v1) + v3) (t_kindSorts ((((8 : Int32)) * v2) + v3).toNatClampNeg) _ h
        exact hz
    · refine xe_neg hc1089 (xe_k ?_)
      obtain rfl := Option.some.inj h
      refine xe_seg ok 2 (G := (fun _ => some (.inl (some (.int ((-1 : Int32)))), xw_R X s_57_0 s_57_1 s_57_18 s_57_19 s_57_20 s_57_24 a_58 a_59 a_60 a_61 a_62 a_63 t_kindSorts t_kindMay a_66 a_67 a_68 a_69 t_parts t_sorts t_values a_73 a_74 a_75 l_76))) (fun K => rfl) ?_
      exact xe_ret
set_option maxHeartbeats 400000 in
theorem xh_rf_firstWrong_57 {l : Launch} {g : xr_G} (ok : xr_OK xm_P) (a_58 a_59 a_60 a_61 a_62 a_63 a_66 a_67 a_68 a_69 a_73 a_74 a_75 : Nat → Int32) (l_76 : Nat → Int64) (s_57_0 s_57_1 s_57_18 s_57_19 s_57_20 s_57_24 : Int32) (X : Nat → xr_C) (t_kindMay : (Nat → Int32)) (t_kindSorts : (Nat → Int32)) (t_parts : (Nat → Int32)) (t_sorts : (Nat → Int32)) (t_values : (Nat → Int32)) (n : Nat) : ∀ (a1 : Int32) (a2 : Int32) (r : (Int32)), xf_rf_firstWrong t_kindMay t_kindSorts t_parts t_sorts t_values n a1 a2 = some r → xV xm_P l g (75, xm_i75, xm_I75, 0, 0, 0, [(0, .ref 59), (1, .int a1), (2, .int a2)], [], xw_R X s_57_0 s_57_1 s_57_18 s_57_19 s_57_20 s_57_24 a_58 a_59 a_60 a_61 a_62 a_63 t_kindSorts t_kindMay a_66 a_67 a_68 a_69 t_parts t_sorts t_values a_73 a_74 a_75 l_76) (.inl (some (.int r)), xw_R X s_57_0 s_57_1 s_57_18 s_57_19 s_57_20 s_57_24 a_58 a_59 a_60 a_61 a_62 a_63 t_kindSorts t_kindMay a_66 a_67 a_68 a_69 t_parts t_sorts t_values a_73 a_74 a_75 l_76) := by
  intro a1 a2 r h
  unfold xf_rf_firstWrong at h
  refine xe_seg ok 2 (G := (fun K => K (75, xm_i75, xm_I75, 0, 0, 2, [(0, .ref 59), (1, .int a1), (2, .int a2), (3, .int ((0 : Int32)))], [], xw_R X s_57_0 s_57_1 s_57_18 s_57_19 s_57_20 s_57_24 a_58 a_59 a_60 a_61 a_62 a_63 t_kindSorts t_kindMay a_66 a_67 a_68 a_69 t_parts t_sorts t_values a_73 a_74 a_75 l_76))) (fun K => rfl) ?_
  refine xe_k ?_
  refine xe_sub [true, true, true, true] (lv' := [(0, .ref 59), (1, .int a1), (2, .int a2), (3, .int ((0 : Int32)))]) rfl ?_
  have hz := xh_rf_firstWrong_57_2 (l := l) (g := g) ok a_58 a_59 a_60 a_61 a_62 a_63 a_66 a_67 a_68 a_69 a_73 a_74 a_75 l_76 s_57_0 s_57_1 s_57_18 s_57_19 s_57_20 s_57_24 X t_kindMay t_kindSorts t_parts t_sorts t_values n n a1 a2 ((0 : Int32)) _ h
  exact hz
set_option maxHeartbeats 400000 in
theorem xh_rf_wrong_57_166 {l : Launch} {g : xr_G} (ok : xr_OK xm_P) (a_58 a_59 a_73 a_74 a_75 : Nat → Int32) (l_76 : Nat → Int64) (s_57_1 s_57_18 s_57_19 s_57_20 s_57_24 : Int32) (X : Nat → xr_C) (t_kindLetters : (Nat → Int32)) (t_kindMay : (Nat → Int32)) (t_kindNames : (Nat → Int32)) (t_kindParts : (Nat → Int32)) (t_kindSorts : (Nat → Int32)) (t_kinds : (Nat → Int32)) (t_letters : (Nat → Int32)) (t_lines : (Nat → Int32)) (t_names : (Nat → Int32)) (t_numbers : (Nat → Int32)) (t_parts : (Nat → Int32)) (t_sorts : (Nat → Int32)) (t_values : (Nat → Int32)) {k38 : Int32 → Int32 → Int32 → Int32 → Option (Int32 × Int32)} (hk38 : ∀ (t_thrown : Int32) (v2 : Int32) (v3 : Int32) (v4 : Int32) (r : (Int32 × Int32)), k38 t_thrown v2 v3 v4 = some r → xV xm_P l g (76, xm_i76, xm_I76, 0, 0, 38, [(0, .ref 59), (2, .int v2), (3, .int v3), (4, .int v4)], [], xw_R X t_thrown s_57_1 s_57_18 s_57_19 s_57_20 s_57_24 a_58 a_59 t_kinds t_kindLetters t_kindNames t_kindParts t_kindSorts t_kindMay t_lines t_numbers t_letters t_names t_parts t_sorts t_values a_73 a_74 a_75 l_76) (.inl (some (.int r.1)), xw_R X r.2 s_57_1 s_57_18 s_57_19 s_57_20 s_57_24 a_58 a_59 t_kinds t_kindLetters t_kindNames t_kindParts t_kindSorts t_kindMay t_lines t_numbers t_letters t_names t_parts t_sorts t_values a_73 a_74 a_75 l_76)) (n : Nat) : ∀ (t_thrown : Int32) (v2 : Int32) (v3 : Int32) (v4 : Int32) (r : (Int32 × Int32)), xf_rf_wrong_166 t_kindLetters t_kindMay t_kindNames t_kindParts t_kindSorts t_kinds t_letters t_lines t_names t_numbers t_parts t_sorts t_values k38 n t_thrown v2 v3 v4 = some r → xV xm_P l g (76, xm_i76, xm_I76, 0, 0, 166, [(0, .ref 59), (2, .int v2), (3, .int v3), (4, .int v4)], [], xw_R X t_thrown s_57_1 s_57_18 s_57_19 s_57_20 s_57_24 a_58 a_59 t_kinds t_kindLetters t_kindNames t_kindParts t_kindSorts t_kindMay t_lines t_numbers t_letters t_names t_parts t_sorts t_values a_73 a_74 a_75 l_76) (.inl (some (.int r.1)), xw_R X r.2 s_57_1 s_57_18 s_57_19 s_57_20 s_57_24 a_58 a_59 t_kinds t_kindLetters t_kindNames t_kindParts t_kindSorts t_kindMay t_lines t_numbers t_letters t_names t_parts t_sorts t_values a_73 a_74 a_75 l_76) := by
  intro t_thrown v2 v3 v4 r h
  unfold xf_rf_wrong_166 at h
  refine xe_seg ok 2 (G := (fun K => K (76, xm_i76, xm_I76, 0, 0, 38, [(0, .ref 59), (2, .int v2), (3, .int v3), (4, .int (v4 + (1 : Int32)))], [], xw_R X t_thrown s_57_1 s_57_18 s_57_19 s_57_20 s_57_24 a_58 a_59 t_kinds t_kindLetters t_kindNames t_kindParts t_kindSorts t_kindMay t_lines t_numbers t_letters t_names t_parts t_sorts t_values a_73 a_74 a_75 l_76))) (fun K => rfl) ?_
  refine xe_k ?_
  refine xe_sub [true, true, true, true] (lv' := [(0, .ref 59), (2, .int v2), (3, .int v3), (4, .int (v4 + (1 : Int32)))]) rfl ?_
  have hz := hk38 t_thrown v2 v3 (v4 + (1 : Int32)) _ h
  exact hz
set_option maxHeartbeats 400000 in
theorem xh_rf_wrong_57_162 {l : Launch} {g : xr_G} (ok : xr_OK xm_P) (a_58 a_59 a_73 a_74 a_75 : Nat → Int32) (l_76 : Nat → Int64) (s_57_1 s_57_18 s_57_19 s_57_20 s_57_24 : Int32) (X : Nat → xr_C) (t_kindLetters : (Nat → Int32)) (t_kindMay : (Nat → Int32)) (t_kindNames : (Nat → Int32)) (t_kindParts : (Nat → Int32)) (t_kindSorts : (Nat → Int32)) (t_kinds : (Nat → Int32)) (t_letters : (Nat → Int32)) (t_lines : (Nat → Int32)) (t_names : (Nat → Int32)) (t_numbers : (Nat → Int32)) (t_parts : (Nat → Int32)) (t_sorts : (Nat → Int32)) (t_values : (Nat → Int32)) (n : Nat) : ∀ (t_thrown : Int32) (s0 : Int32) (r : (Int32 × Int32)), xf_rf_wrong_162 t_kindLetters t_kindMay t_kindNames t_kindParts t_kindSorts t_kinds t_letters t_lines t_names t_numbers t_parts t_sorts t_values n t_thrown s0 = some r → xV xm_P l g (76, xm_i76, xm_I76, 0, 0, 162, [], [.int s0], xw_R X t_thrown s_57_1 s_57_18 s_57_19 s_57_20 s_57_24 a_58 a_59 t_kinds t_kindLetters t_kindNames t_kindParts t_kindSorts t_kindMay t_lines t_numbers t_letters t_names t_parts t_sorts t_values a_73 a_74 a_75 l_76) (.inl (some (.int r.1)), xw_R X r.2 s_57_1 s_57_18 s_57_19 s_57_20 s_57_24 a_58 a_59 t_kinds t_kindLetters t_kindNames t_kindParts t_kindSorts t_kindMay t_lines t_numbers t_letters t_names t_parts t_sorts t_values a_73 a_74 a_75 l_76) := by
  intro t_thrown s0 r h
  unfold xf_rf_wrong_162 at h
  obtain rfl := Option.some.inj h
  refine xe_seg ok 1 (G := (fun _ => some (.inl (some (.int s0)), xw_R X t_thrown s_57_1 s_57_18 s_57_19 s_57_20 s_57_24 a_58 a_59 t_kinds t_kindLetters t_kindNames t_kindParts t_kindSorts t_kindMay t_lines t_numbers t_letters t_names t_parts t_sorts t_values a_73 a_74 a_75 l_76))) (fun K => rfl) ?_
  exact xe_ret
set_option maxHeartbeats 400000 in
theorem xh_rf_wrong_57_122 {l : Launch} {g : xr_G} (ok : xr_OK xm_P) (a_58 a_59 a_73 a_74 a_75 : Nat → Int32) (l_76 : Nat → Int64) (s_57_1 s_57_18 s_57_19 s_57_20 s_57_24 : Int32) (X : Nat → xr_C) (t_kindLetters : (Nat → Int32)) (t_kindMay : (Nat → Int32)) (t_kindNames : (Nat → Int32)) (t_kindParts : (Nat → Int32)) (t_kindSorts : (Nat → Int32)) (t_kinds : (Nat → Int32)) (t_letters : (Nat → Int32)) (t_lines : (Nat → Int32)) (t_names : (Nat → Int32)) (t_numbers : (Nat → Int32)) (t_parts : (Nat → Int32)) (t_sorts : (Nat → Int32)) (t_values : (Nat → Int32)) {k38 : Int32 → Int32 → Int32 → Int32 → Option (Int32 × Int32)} (hk38 : ∀ (t_thrown : Int32) (v2 : Int32) (v3 : Int32) (v4 : Int32) (r : (Int32 × Int32)), k38 t_thrown v2 v3 v4 = some r → xV xm_P l g (76, xm_i76, xm_I76, 0, 0, 38, [(0, .ref 59), (2, .int v2), (3, .int v3), (4, .int v4)], [], xw_R X t_thrown s_57_1 s_57_18 s_57_19 s_57_20 s_57_24 a_58 a_59 t_kinds t_kindLetters t_kindNames t_kindParts t_kindSorts t_kindMay t_lines t_numbers t_letters t_names t_parts t_sorts t_values a_73 a_74 a_75 l_76) (.inl (some (.int r.1)), xw_R X r.2 s_57_1 s_57_18 s_57_19 s_57_20 s_57_24 a_58 a_59 t_kinds t_kindLetters t_kindNames t_kindParts t_kindSorts t_kindMay t_lines t_numbers t_letters t_names t_parts t_sorts t_values a_73 a_74 a_75 l_76)) (n : Nat) : ∀ (t_thrown : Int32) (v2 : Int32) (v3 : Int32) (v4 : Int32) (v7 : Int32) (s0 : Int32) (r : (Int32 × Int32)), xf_rf_wrong_122 t_kindLetters t_kindMay t_kindNames t_kindParts t_kindSorts t_kinds t_letters t_lines t_names t_numbers t_parts t_sorts t_values k38 n t_thrown v2 v3 v4 v7 s0 = some r → xV xm_P l g (76, xm_i76, xm_I76, 0, 0, 122, [(0, .ref 59), (2, .int v2), (3, .int v3), (4, .int v4), (7, .int v7)], [.int s0], xw_R X t_thrown s_57_1 s_57_18 s_57_19 s_57_20 s_57_24 a_58 a_59 t_kinds t_kindLetters t_kindNames t_kindParts t_kindSorts t_kindMay t_lines t_numbers t_letters t_names t_parts t_sorts t_values a_73 a_74 a_75 l_76) (.inl (some (.int r.1)), xw_R X r.2 s_57_1 s_57_18 s_57_19 s_57_20 s_57_24 a_58 a_59 t_kinds t_kindLetters t_kindNames t_kindParts t_kindSorts t_kindMay t_lines t_numbers t_letters t_names t_parts t_sorts t_values a_73 a_74 a_75 l_76) := by
  intro t_thrown v2 v3 v4 v7 s0 r h
  unfold xf_rf_wrong_122 at h
  refine xe_seg ok 3 (G := (fun K => if s0 = (0 : Int32) then K (76, xm_i76, xm_I76, 0, 0, 129, [(0, .ref 59), (2, .int v2), (3, .int v3), (4, .int v4), (6, .int s0), (7, .int v7)], [], xw_R X t_thrown s_57_1 s_57_18 s_57_19 s_57_20 s_57_24 a_58 a_59 t_kinds t_kindLetters t_kindNames t_kindParts t_kindSorts t_kindMay t_lines t_numbers t_letters t_names t_parts t_sorts t_values a_73 a_74 a_75 l_76) else K (76, xm_i76, xm_I76, 0, 0, 132, [(0, .ref 59), (2, .int v2), (3, .int v3), (4, .int v4), (6, .int s0), (7, .int v7)], [], xw_R X t_thrown s_57_1 s_57_18 s_57_19 s_57_20 s_57_24 a_58 a_59 t_kinds t_kindLetters t_kindNames t_kindParts t_kindSorts t_kindMay t_lines t_numbers t_letters t_names t_parts t_sorts t_values a_73 a_74 a_75 l_76))) (fun K => rfl) ?_
  rcases xb_if h with ⟨hc1106, h⟩ | ⟨hc1106, h⟩
  · refine xe_pos hc1106 (xe_k ?_)
    refine xe_seg ok 1 (G := (fun K => K (76, xm_i76, xm_I76, 0, 0, 166, [(0, .ref 59), (2, .int v2), (3, .int v3), (4, .int v4), (6, .int s0), (7, .int v7)], [], xw_R X t_thrown s_57_1 s_57_18 s_57_19 s_57_20 s_57_24 a_58 a_59 t_kinds t_kindLetters t_kindNames t_kindParts t_kindSorts t_kindMay t_lines t_numbers t_letters t_names t_parts t_sorts t_values a_73 a_74 a_75 l_76))) (fun K => rfl) ?_
    refine xe_k ?_
    refine xe_sub [true, true, true, true, false, false] (lv' := [(0, .ref 59), (2, .int v2), (3, .int v3), (4, .int v4)]) rfl ?_
    have hz := xh_rf_wrong_57_166 (l := l) (g := g) ok a_58 a_59 a_73 a_74 a_75 l_76 s_57_1 s_57_18 s_57_19 s_57_20 s_57_24 X t_kindLetters t_kindMay t_kindNames t_kindParts t_kindSorts t_kinds t_letters t_lines t_names t_numbers t_parts t_sorts t_values hk38 n t_thrown v2 v3 v4 _ h
    exact hz
  · refine xe_neg hc1106 (xe_k ?_)
    refine xe_seg ok 2 (G := (fun K => if v3 = (0 : Int32) then K (76, xm_i76, xm_I76, 0, 0, 136, [(0, .ref 59), (2, .int v2), (3, .int v3), (4, .int v4), (6, .int s0), (7, .int v7)], [], xw_R X t_thrown s_57_1 s_57_18 s_57_19 s_57_20 s_57_24 a_58 a_59 t_kinds t_kindLetters t_kindNames t_kindParts t_kindSorts t_kindMay t_lines t_numbers t_letters t_names t_parts t_sorts t_values a_73 a_74 a_75 l_76) else K (76, xm_i76, xm_I76, 0, 0, 163, [(0, .ref 59), (2, .int v2), (3, .int v3), (4, .int v4), (6, .int s0), (7, .int v7)], [], xw_R X t_thrown s_57_1 s_57_18 s_57_19 s_57_20 s_57_24 a_58 a_59 t_kinds t_kindLetters t_kindNames t_kindParts t_kindSorts t_kindMay t_lines t_numbers t_letters t_names t_parts t_sorts t_values a_73 a_74 a_75 l_76))) (fun K => rfl) ?_
    rcases xb_if h with ⟨hc1107, h⟩ | ⟨hc1107, h⟩
    · refine xe_pos hc1107 (xe_k ?_)
      refine xe_seg ok 2 (G := (fun K => if v2 = (0 : Int32) then K (76, xm_i76, xm_I76, 0, 0, 140, [(0, .ref 59), (2, .int v2), (3, .int v3), (4, .int v4), (6, .int s0), (7, .int v7)], [], xw_R X t_thrown s_57_1 s_57_18 s_57_19 s_57_20 s_57_24 a_58 a_59 t_kinds t_kindLetters t_kindNames t_kindParts t_kindSorts t_kindMay t_lines t_numbers t_letters t_names t_parts t_sorts t_values a_73 a_74 a_75 l_76) else K (76, xm_i76, xm_I76, 0, 0, 150, [(0, .ref 59), (2, .int v2), (3, .int v3), (4, .int v4), (6, .int s0), (7, .int v7)], [], xw_R X t_thrown s_57_1 s_57_18 s_57_19 s_57_20 s_57_24 a_58 a_59 t_kinds t_kindLetters t_kindNames t_kindParts t_kindSorts t_kindMay t_lines t_numbers t_letters t_names t_parts t_sorts t_values a_73 a_74 a_75 l_76))) (fun K => rfl) ?_
      rcases xb_if h with ⟨hc1108, h⟩ | ⟨hc1108, h⟩
      · refine xe_pos hc1108 (xe_k ?_)
        refine xe_seg ok 4 (G := (fun K => if xr_in v4 120 = true then K (76, xm_i76, xm_I76, 0, 0, 147, [(0, .ref 59), (2, .int v2), (3, .int v3), (4, .int v4), (6, .int s0), (7, .int v7)], [.int (t_numbers v4.toNatClampNeg)], xw_R X t_thrown s_57_1 s_57_18 s_57_19 s_57_20 s_57_24 a_58 a_59 t_kinds t_kindLetters t_kindNames t_kindParts t_kindSorts t_kindMay t_lines t_numbers t_letters t_names t_parts t_sorts t_values a_73 a_74 a_75 l_76) else none)) (fun K => rfl) ?_
        obtain ⟨hg1109, h⟩ := xn_if h
        refine xe_pos hg1109 (xe_k ?_)
        refine xe_seg ok 1 (G := (fun K => K (76, xm_i76, xm_I76, 0, 0, 162, [(0, .ref 59), (2, .int v2), (3, .int v3), (4, .int v4), (6, .int s0), (7, .int v7)], [.int (t_numbers v4.toNatClampNeg)], xw_R X t_thrown s_57_1 s_57_18 s_57_19 s_57_20 s_57_24 a_58 a_59 t_kinds t_kindLetters t_kindNames t_kindParts t_kindSorts t_kindMay t_lines t_numbers t_letters t_names t_parts t_sorts t_values a_73 a_74 a_75 l_76))) (fun K => rfl) ?_
        refine xe_k ?_
        refine xe_sub [false, false, false, false, false, false] (lv' := []) rfl ?_
        have hz := xh_rf_wrong_57_162 (l := l) (g := g) ok a_58 a_59 a_73 a_74 a_75 l_76 s_57_1 s_57_18 s_57_19 s_57_20 s_57_24 X t_kindLetters t_kindMay t_kindNames t_kindParts t_kindSorts t_kinds t_letters t_lines t_names t_numbers t_parts t_sorts t_values n t_thrown (t_numbers v4.toNatClampNeg) _ h
        exact hz
      · refine xe_neg hc1108 (xe_k ?_)
        refine xe_seg ok 3 (G := (fun K => if v2 = ((1 : Int32)) then K (76, xm_i76, xm_I76, 0, 0, 155, [(0, .ref 59), (2, .int v2), (3, .int v3), (4, .int v4), (6, .int s0), (7, .int v7)], [], xw_R X t_thrown s_57_1 s_57_18 s_57_19 s_57_20 s_57_24 a_58 a_59 t_kinds t_kindLetters t_kindNames t_kindParts t_kindSorts t_kindMay t_lines t_numbers t_letters t_names t_parts t_sorts t_values a_73 a_74 a_75 l_76) else K (76, xm_i76, xm_I76, 0, 0, 160, [(0, .ref 59), (2, .int v2), (3, .int v3), (4, .int v4), (6, .int s0), (7, .int v7)], [], xw_R X t_thrown s_57_1 s_57_18 s_57_19 s_57_20 s_57_24 a_58 a_59 t_kinds t_kindLetters t_kindNames t_kindParts t_kindSorts t_kindMay t_lines t_numbers t_letters t_names t_parts t_sorts t_values a_73 a_74 a_75 l_76))) (fun K => rfl) ?_
        rcases xb_if h with ⟨hc1110, h⟩ | ⟨hc1110, h⟩
        · refine xe_pos hc1110 (xe_k ?_)
          refine xe_seg ok 2 (G := (fun K => K (76, xm_i76, xm_I76, 0, 0, 162, [(0, .ref 59), (2, .int v2), (3, .int v3), (4, .int v4), (6, .int s0), (7, .int v7)], [.int s0], xw_R X t_thrown s_57_1 s_57_18 s_57_19 s_57_20 s_57_24 a_58 a_59 t_kinds t_kindLetters t_kindNames t_kindParts t_kindSorts t_kindMay t_lines t_numbers t_letters t_names t_parts t_sorts t_values a_73 a_74 a_75 l_76))) (fun K => rfl) ?_
          refine xe_k ?_
          refine xe_sub [false, false, false, false, false, false] (lv' := []) rfl ?_
          have hz := xh_rf_wrong_57_162 (l := l) (g := g) ok a_58 a_59 a_73 a_74 a_75 l_76 s_57_1 s_57_18 s_57_19 s_57_20 s_57_24 X t_kindLetters t_kindMay t_kindNames t_kindParts t_kindSorts t_kinds t_letters t_lines t_names t_numbers t_parts t_sorts t_values n t_thrown s0 _ h
          exact hz
        · refine xe_neg hc1110 (xe_k ?_)
          refine xe_seg ok 1 (G := (fun K => K (76, xm_i76, xm_I76, 0, 0, 162, [(0, .ref 59), (2, .int v2), (3, .int v3), (4, .int v4), (6, .int s0), (7, .int v7)], [.int v7], xw_R X t_thrown s_57_1 s_57_18 s_57_19 s_57_20 s_57_24 a_58 a_59 t_kinds t_kindLetters t_kindNames t_kindParts t_kindSorts t_kindMay t_lines t_numbers t_letters t_names t_parts t_sorts t_values a_73 a_74 a_75 l_76))) (fun K => rfl) ?_
          refine xe_k ?_
          refine xe_sub [false, false, false, false, false, false] (lv' := []) rfl ?_
          have hz := xh_rf_wrong_57_162 (l := l) (g := g) ok a_58 a_59 a_73 a_74 a_75 l_76 s_57_1 s_57_18 s_57_19 s_57_20 s_57_24 X t_kindLetters t_kindMay t_kindNames t_kindParts t_kindSorts t_kinds t_letters t_lines t_names t_numbers t_parts t_sorts t_values n t_thrown v7 _ h
          exact hz
    · refine xe_neg hc1107 (xe_k ?_)
      refine xe_seg ok 1 (G := (fun K => K (76, xm_i76, xm_I76, 0, 0, 166, [(0, .ref 59), (2, .int v2), (3, .int (v3 + (-1 : Int32))), (4, .int v4), (6, .int s0), (7, .int v7)], [], xw_R X t_thrown s_57_1 s_57_18 s_57_19 s_57_20 s_57_24 a_58 a_59 t_kinds t_kindLetters t_kindNames t_kindParts t_kindSorts t_kindMay t_lines t_numbers t_letters t_names t_parts t_sorts t_values a_73 a_74 a_75 l_76))) (fun K => rfl) ?_
      refine xe_k ?_
      refine xe_sub [true, true, true, true, false, false] (lv' := [(0, .ref 59), (2, .int v2), (3, .int (v3 + (-1 : Int32))), (4, .int v4)]) rfl ?_
      have hz := xh_rf_wrong_57_166 (l := l) (g := g) ok a_58 a_59 a_73 a_74 a_75 l_76 s_57_1 s_57_18 s_57_19 s_57_20 s_57_24 X t_kindLetters t_kindMay t_kindNames t_kindParts t_kindSorts t_kinds t_letters t_lines t_names t_numbers t_parts t_sorts t_values hk38 n t_thrown v2 (v3 + (-1 : Int32)) v4 _ h
      exact hz
set_option maxHeartbeats 400000 in
theorem xh_rf_wrong_57_108 {l : Launch} {g : xr_G} (ok : xr_OK xm_P) (a_58 a_59 a_73 a_74 a_75 : Nat → Int32) (l_76 : Nat → Int64) (s_57_1 s_57_18 s_57_19 s_57_20 s_57_24 : Int32) (X : Nat → xr_C) (t_kindLetters : (Nat → Int32)) (t_kindMay : (Nat → Int32)) (t_kindNames : (Nat → Int32)) (t_kindParts : (Nat → Int32)) (t_kindSorts : (Nat → Int32)) (t_kinds : (Nat → Int32)) (t_letters : (Nat → Int32)) (t_lines : (Nat → Int32)) (t_names : (Nat → Int32)) (t_numbers : (Nat → Int32)) (t_parts : (Nat → Int32)) (t_sorts : (Nat → Int32)) (t_values : (Nat → Int32)) {k38 : Int32 → Int32 → Int32 → Int32 → Option (Int32 × Int32)} (hk38 : ∀ (t_thrown : Int32) (v2 : Int32) (v3 : Int32) (v4 : Int32) (r : (Int32 × Int32)), k38 t_thrown v2 v3 v4 = some r → xV xm_P l g (76, xm_i76, xm_I76, 0, 0, 38, [(0, .ref 59), (2, .int v2), (3, .int v3), (4, .int v4)], [], xw_R X t_thrown s_57_1 s_57_18 s_57_19 s_57_20 s_57_24 a_58 a_59 t_kinds t_kindLetters t_kindNames t_kindParts t_kindSorts t_kindMay t_lines t_numbers t_letters t_names t_parts t_sorts t_values a_73 a_74 a_75 l_76) (.inl (some (.int r.1)), xw_R X r.2 s_57_1 s_57_18 s_57_19 s_57_20 s_57_24 a_58 a_59 t_kinds t_kindLetters t_kindNames t_kindParts t_kindSorts t_kindMay t_lines t_numbers t_letters t_names t_parts t_sorts t_values a_73 a_74 a_75 l_76)) (n : Nat) : ∀ (t_thrown : Int32) (v2 : Int32) (v3 : Int32) (v4 : Int32) (v6 : Int32) (s0 : Int32) (r : (Int32 × Int32)), xf_rf_wrong_108 t_kindLetters t_kindMay t_kindNames t_kindParts t_kindSorts t_kinds t_letters t_lines t_names t_numbers t_parts t_sorts t_values k38 n t_thrown v2 v3 v4 v6 s0 = some r → xV xm_P l g (76, xm_i76, xm_I76, 0, 0, 108, [(0, .ref 59), (2, .int v2), (3, .int v3), (4, .int v4), (6, .int v6)], [.int s0], xw_R X t_thrown s_57_1 s_57_18 s_57_19 s_57_20 s_57_24 a_58 a_59 t_kinds t_kindLetters t_kindNames t_kindParts t_kindSorts t_kindMay t_lines t_numbers t_letters t_names t_parts t_sorts t_values a_73 a_74 a_75 l_76) (.inl (some (.int r.1)), xw_R X r.2 s_57_1 s_57_18 s_57_19 s_57_20 s_57_24 a_58 a_59 t_kinds t_kindLetters t_kindNames t_kindParts t_kindSorts t_kindMay t_lines t_numbers t_letters t_names t_parts t_sorts t_values a_73 a_74 a_75 l_76) := by
  intro t_thrown v2 v3 v4 v6 s0 r h
  unfold xf_rf_wrong_108 at h
  refine xe_seg ok 4 (G := (fun K => if s0 = ((-1 : Int32)) then K (76, xm_i76, xm_I76, 0, 0, 120, [(0, .ref 59), (2, .int v2), (3, .int v3), (4, .int v4), (6, .int v6), (7, .int s0)], [], xw_R X t_thrown s_57_1 s_57_18 s_57_19 s_57_20 s_57_24 a_58 a_59 t_kinds t_kindLetters t_kindNames t_kindParts t_kindSorts t_kindMay t_lines t_numbers t_letters t_names t_parts t_sorts t_values a_73 a_74 a_75 l_76) else K (76, xm_i76, xm_I76, 0, 0, 116, [(0, .ref 59), (2, .int v2), (3, .int v3), (4, .int v4), (6, .int v6), (7, .int s0)], [], xw_R X t_thrown s_57_1 s_57_18 s_57_19 s_57_20 s_57_24 a_58 a_59 t_kinds t_kindLetters t_kindNames t_kindParts t_kindSorts t_kindMay t_lines t_numbers t_letters t_names t_parts t_sorts t_values a_73 a_74 a_75 l_76))) (fun K => rfl) ?_
  rcases xb_if h with ⟨hc1105, h⟩ | ⟨hc1105, h⟩
  · refine xe_pos hc1105 (xe_k ?_)
    refine xe_seg ok 1 (G := (fun K => K (76, xm_i76, xm_I76, 0, 0, 122, [(0, .ref 59), (2, .int v2), (3, .int v3), (4, .int v4), (6, .int v6), (7, .int s0)], [.int v6], xw_R X t_thrown s_57_1 s_57_18 s_57_19 s_57_20 s_57_24 a_58 a_59 t_kinds t_kindLetters t_kindNames t_kindParts t_kindSorts t_kindMay t_lines t_numbers t_letters t_names t_parts t_sorts t_values a_73 a_74 a_75 l_76))) (fun K => rfl) ?_
    refine xe_k ?_
    refine xe_sub [true, true, true, true, false, true] (lv' := [(0, .ref 59), (2, .int v2), (3, .int v3), (4, .int v4), (7, .int s0)]) rfl ?_
    have hz := xh_rf_wrong_57_122 (l := l) (g := g) ok a_58 a_59 a_73 a_74 a_75 l_76 s_57_1 s_57_18 s_57_19 s_57_20 s_57_24 X t_kindLetters t_kindMay t_kindNames t_kindParts t_kindSorts t_kinds t_letters t_lines t_names t_numbers t_parts t_sorts t_values hk38 n t_thrown v2 v3 v4 s0 v6 _ h
    exact hz
  · refine xe_neg hc1105 (xe_k ?_)
    refine xe_seg ok 2 (G := (fun K => K (76, xm_i76, xm_I76, 0, 0, 122, [(0, .ref 59), (2, .int v2), (3, .int v3), (4, .int v4), (6, .int v6), (7, .int s0)], [.int ((3 : Int32))], xw_R X t_thrown s_57_1 s_57_18 s_57_19 s_57_20 s_57_24 a_58 a_59 t_kinds t_kindLetters t_kindNames t_kindParts t_kindSorts t_kindMay t_lines t_numbers t_letters t_names t_parts t_sorts t_values a_73 a_74 a_75 l_76))) (fun K => rfl) ?_
    refine xe_k ?_
    refine xe_sub [true, true, true, true, false, true] (lv' := [(0, .ref 59), (2, .int v2), (3, .int v3), (4, .int v4), (7, .int s0)]) rfl ?_
    have hz := xh_rf_wrong_57_122 (l := l) (g := g) ok a_58 a_59 a_73 a_74 a_75 l_76 s_57_1 s_57_18 s_57_19 s_57_20 s_57_24 X t_kindLetters t_kindMay t_kindNames t_kindParts t_kindSorts t_kinds t_letters t_lines t_names t_numbers t_parts t_sorts t_values hk38 n t_thrown v2 v3 v4 s0 ((3 : Int32)) _ h
    exact hz
set_option maxHeartbeats 400000 in
theorem xh_rf_wrong_57_89 {l : Launch} {g : xr_G} (ok : xr_OK xm_P) (a_58 a_59 a_73 a_74 a_75 : Nat → Int32) (l_76 : Nat → Int64) (s_57_1 s_57_18 s_57_19 s_57_20 s_57_24 : Int32) (X : Nat → xr_C) (t_kindLetters : (Nat → Int32)) (t_kindMay : (Nat → Int32)) (t_kindNames : (Nat → Int32)) (t_kindParts : (Nat → Int32)) (t_kindSorts : (Nat → Int32)) (t_kinds : (Nat → Int32)) (t_letters : (Nat → Int32)) (t_lines : (Nat → Int32)) (t_names : (Nat → Int32)) (t_numbers : (Nat → Int32)) (t_parts : (Nat → Int32)) (t_sorts : (Nat → Int32)) (t_values : (Nat → Int32)) {k38 : Int32 → Int32 → Int32 → Int32 → Option (Int32 × Int32)} (hk38 : ∀ (t_thrown : Int32) (v2 : Int32) (v3 : Int32) (v4 : Int32) (r : (Int32 × Int32)), k38 t_thrown v2 v3 v4 = some r → xV xm_P l g (76, xm_i76, xm_I76, 0, 0, 38, [(0, .ref 59), (2, .int v2), (3, .int v3), (4, .int v4)], [], xw_R X t_thrown s_57_1 s_57_18 s_57_19 s_57_20 s_57_24 a_58 a_59 t_kinds t_kindLetters t_kindNames t_kindParts t_kindSorts t_kindMay t_lines t_numbers t_letters t_names t_parts t_sorts t_values a_73 a_74 a_75 l_76) (.inl (some (.int r.1)), xw_R X r.2 s_57_1 s_57_18 s_57_19 s_57_20 s_57_24 a_58 a_59 t_kinds t_kindLetters t_kindNames t_kindParts t_kindSorts t_kindMay t_lines t_numbers t_letters t_names t_parts t_sorts t_values a_73 a_74 a_75 l_76)) (n : Nat) : ∀ (t_thrown : Int32) (v2 : Int32) (v3 : Int32) (v4 : Int32) (v5 : Int32) (s0 : Int32) (r : (Int32 × Int32)), xf_rf_wrong_89 t_kindLetters t_kindMay t_kindNames t_kindParts t_kindSorts t_kinds t_letters t_lines t_names t_numbers t_parts t_sorts t_values k38 n t_thrown v2 v3 v4 v5 s0 = some r → xV xm_P l g (76, xm_i76, xm_I76, 0, 0, 89, [(0, .ref 59), (2, .int v2), (3, .int v3), (4, .int v4), (5, .int v5)], [.int s0], xw_R X t_thrown s_57_1 s_57_18 s_57_19 s_57_20 s_57_24 a_58 a_59 t_kinds t_kindLetters t_kindNames t_kindParts t_kindSorts t_kindMay t_lines t_numbers t_letters t_names t_parts t_sorts t_values a_73 a_74 a_75 l_76) (.inl (some (.int r.1)), xw_R X r.2 s_57_1 s_57_18 s_57_19 s_57_20 s_57_24 a_58 a_59 t_kinds t_kindLetters t_kindNames t_kindParts t_kindSorts t_kindMay t_lines t_numbers t_letters t_names t_parts t_sorts t_values a_73 a_74 a_75 l_76) := by
  intro t_thrown v2 v3 v4 v5 s0 r h
  unfold xf_rf_wrong_89 at h
  refine xe_seg ok 3 (G := (fun K => if s0 = (0 : Int32) then K (76, xm_i76, xm_I76, 0, 0, 96, [(0, .ref 59), (2, .int v2), (3, .int v3), (4, .int v4), (5, .int v5), (6, .int s0)], [], xw_R X t_thrown s_57_1 s_57_18 s_57_19 s_57_20 s_57_24 a_58 a_59 t_kinds t_kindLetters t_kindNames t_kindParts t_kindSorts t_kindMay t_lines t_numbers t_letters t_names t_parts t_sorts t_values a_73 a_74 a_75 l_76) else K (76, xm_i76, xm_I76, 0, 0, 107, [(0, .ref 59), (2, .int v2), (3, .int v3), (4, .int v4), (5, .int v5), (6, .int s0)], [], xw_R X t_thrown s_57_1 s_57_18 s_57_19 s_57_20 s_57_24 a_58 a_59 t_kinds t_kindLetters t_kindNames t_kindParts t_kindSorts t_kindMay t_lines t_numbers t_letters t_names t_parts t_sorts t_values a_73 a_74 a_75 l_76))) (fun K => rfl) ?_
  rcases xb_if h with ⟨hc1087, h⟩ | ⟨hc1087, h⟩
  · refine xe_pos hc1087 (xe_k ?_)
    refine xe_seg ok 4 (G := (fun K => xr_back K 76 xm_i76 xm_I76 0 0 101 [(0, .ref 59), (2, .int v2), (3, .int v3), (4, .int v4), (5, .int v5), (6, .int s0)] [] 78 true (K (75, xm_i75, xm_I75, 0, 0, 0, [(0, .ref 59), (1, .int v4), (2, .int v5)], [], xw_R X t_thrown s_57_1 s_57_18 s_57_19 s_57_20 s_57_24 a_58 a_59 t_kinds t_kindLetters t_kindNames t_kindParts t_kindSorts t_kindMay t_lines t_numbers t_letters t_names t_parts t_sorts t_values a_73 a_74 a_75 l_76)))) (fun K => rfl) ?_
    obtain ⟨q1104, hq1104, h⟩ := Option.bind_eq_some_iff.mp h
    have heq1104 := xh_rf_firstWrong_57 (l := l) (g := g) ok a_58 a_59 t_kinds t_kindLetters t_kindNames t_kindParts t_lines t_numbers t_letters t_names a_73 a_74 a_75 l_76 t_thrown s_57_1 s_57_18 s_57_19 s_57_20 s_57_24 X t_kindMay t_kindSorts t_parts t_sorts t_values n v4 v5 _ hq1104
    refine xe_call1 (ws' := xw_R X t_thrown s_57_1 s_57_18 s_57_19 s_57_20 s_57_24 a_58 a_59 t_kinds t_kindLetters t_kindNames t_kindParts t_kindSorts t_kindMay t_lines t_numbers t_letters t_names t_parts t_sorts t_values a_73 a_74 a_75 l_76) (by decide) heq1104 (Or.inl rfl) ?_
    refine xe_seg ok 1 (G := (fun K => K (76, xm_i76, xm_I76, 0, 0, 108, [(0, .ref 59), (2, .int v2), (3, .int v3), (4, .int v4), (5, .int v5), (6, .int s0)], [.int q1104], xw_R X t_thrown s_57_1 s_57_18 s_57_19 s_57_20 s_57_24 a_58 a_59 t_kinds t_kindLetters t_kindNames t_kindParts t_kindSorts t_kindMay t_lines t_numbers t_letters t_names t_parts t_sorts t_values a_73 a_74 a_75 l_76))) (fun K => rfl) ?_
    refine xe_k ?_
    refine xe_sub [true, true, true, true, false, true] (lv' := [(0, .ref 59), (2, .int v2), (3, .int v3), (4, .int v4), (6, .int s0)]) rfl ?_
    have hz := xh_rf_wrong_57_108 (l := l) (g := g) ok a_58 a_59 a_73 a_74 a_75 l_76 s_57_1 s_57_18 s_57_19 s_57_20 s_57_24 X t_kindLetters t_kindMay t_kindNames t_kindParts t_kindSorts t_kinds t_letters t_lines t_names t_numbers t_parts t_sorts t_values hk38 n t_thrown v2 v3 v4 s0 q1104 _ h
    exact hz
  · refine xe_neg hc1087 (xe_k ?_)
    refine xe_seg ok 1 (G := (fun K => K (76, xm_i76, xm_I76, 0, 0, 108, [(0, .ref 59), (2, .int v2), (3, .int v3), (4, .int v4), (5, .int v5), (6, .int s0)], [.int ((-1 : Int32))], xw_R X t_thrown s_57_1 s_57_18 s_57_19 s_57_20 s_57_24 a_58 a_59 t_kinds t_kindLetters t_kindNames t_kindParts t_kindSorts t_kindMay t_lines t_numbers t_letters t_names t_parts t_sorts t_values a_73 a_74 a_75 l_76))) (fun K => rfl) ?_
    refine xe_k ?_
    refine xe_sub [true, true, true, true, false, true] (lv' := [(0, .ref 59), (2, .int v2), (3, .int v3), (4, .int v4), (6, .int s0)]) rfl ?_
    have hz := xh_rf_wrong_57_108 (l := l) (g := g) ok a_58 a_59 a_73 a_74 a_75 l_76 s_57_1 s_57_18 s_57_19 s_57_20 s_57_24 X t_kindLetters t_kindMay t_kindNames t_kindParts t_kindSorts t_kinds t_letters t_lines t_names t_numbers t_parts t_sorts t_values hk38 n t_thrown v2 v3 v4 s0 ((-1 : Int32)) _ h
    exact hz
set_option maxHeartbeats 400000 in
theorem xh_rf_wrong_57_38 {l : Launch} {g : xr_G} (ok : xr_OK xm_P) (a_58 a_59 a_73 a_74 a_75 : Nat → Int32) (l_76 : Nat → Int64) (s_57_1 s_57_18 s_57_19 s_57_20 s_57_24 : Int32) (X : Nat → xr_C) (t_kindLetters : (Nat → Int32)) (t_kindMay : (Nat → Int32)) (t_kindNames : (Nat → Int32)) (t_kindParts : (Nat → Int32)) (t_kindSorts : (Nat → Int32)) (t_kinds : (Nat → Int32)) (t_letters : (Nat → Int32)) (t_lines : (Nat → Int32)) (t_names : (Nat → Int32)) (t_numbers : (Nat → Int32)) (t_parts : (Nat → Int32)) (t_sorts : (Nat → Int32)) (t_values : (Nat → Int32)) (n : Nat) : ∀ (N : Nat) (t_thrown : Int32) (v2 : Int32) (v3 : Int32) (v4 : Int32) (r : (Int32 × Int32)), xf_rf_wrong_38 t_kindLetters t_kindMay t_kindNames t_kindParts t_kindSorts t_kinds t_letters t_lines t_names t_numbers t_parts t_sorts t_values n N t_thrown v2 v3 v4 = some r → xV xm_P l g (76, xm_i76, xm_I76, 0, 0, 38, [(0, .ref 59), (2, .int v2), (3, .int v3), (4, .int v4)], [], xw_R X t_thrown s_57_1 s_57_18 s_57_19 s_57_20 s_57_24 a_58 a_59 t_kinds t_kindLetters t_kindNames t_kindParts t_kindSorts t_kindMay t_lines t_numbers t_letters t_names t_parts t_sorts t_values a_73 a_74 a_75 l_76) (.inl (some (.int r.1)), xw_R X r.2 s_57_1 s_57_18 s_57_19 s_57_20 s_57_24 a_58 a_59 t_kinds t_kindLetters t_kindNames t_kindParts t_kindSorts t_kindMay t_lines t_numbers t_letters t_names t_parts t_sorts t_values a_73 a_74 a_75 l_76) := by
  intro N
  induction N with
  | zero => intro t_thrown v2 v3 v4 r h; cases h
  | succ N hk38 =>
    intro t_thrown v2 v3 v4 r h
    refine xe_seg ok 5 (G := (fun K => if xr_in ((0 : Int32)) 3 = true then K (76, xm_i76, xm_I76, 0, 0, 46, [(0, .ref 59), (2, .int v2), (3, .int v3), (4, .int v4)], [.int (t_lines ((0 : Int32)).toNatClampNeg), .int v4], xw_R X t_thrown s_57_1 s_57_18 s_57_19 s_57_20 s_57_24 a_58 a_59 t_kinds t_kindLetters t_kindNames t_kindParts t_kindSorts t_kindMay t_lines t_numbers t_letters t_names t_parts t_sorts t_values a_73 a_74 a_75 l_76) else none)) (fun K => rfl) ?_
    refine xe_pos (by decide) (xe_k ?_)
    refine xe_seg ok 1 (G := (fun K => if v4 < (t_lines ((0 : Int32)).toNatClampNeg) then K (76, xm_i76, xm_I76, 0, 0, 49, [(0, .ref 59), (2, .int v2), (3, .int v3), (4, .int v4)], [], xw_R X t_thrown s_57_1 s_57_18 s_57_19 s_57_20 s_57_24 a_58 a_59 t_kinds t_kindLetters t_kindNames t_kindParts t_kindSorts t_kindMay t_lines t_numbers t_letters t_names t_parts t_sorts t_values a_73 a_74 a_75 l_76) else K (76, xm_i76, xm_I76, 0, 0, 172, [(0, .ref 59), (2, .int v2), (3, .int v3), (4, .int v4)], [], xw_R X t_thrown s_57_1 s_57_18 s_57_19 s_57_20 s_57_24 a_58 a_59 t_kinds t_kindLetters t_kindNames t_kindParts t_kindSorts t_kindMay t_lines t_numbers t_letters t_names t_parts t_sorts t_values a_73 a_74 a_75 l_76))) (fun K => rfl) ?_
    rcases xb_if h with ⟨hc1084, h⟩ | ⟨hc1084, h⟩
    · refine xe_pos hc1084 (xe_k ?_)
      refine xe_seg ok 3 (G := (fun K => xr_back K 76 xm_i76 xm_I76 0 0 52 [(0, .ref 59), (2, .int v2), (3, .int v3), (4, .int v4)] [] 78 true (K (64, xm_i64, xm_I64, 0, 0, 0, [(0, .ref 59), (1, .int v4)], [], xw_R X t_thrown s_57_1 s_57_18 s_57_19 s_57_20 s_57_24 a_58 a_59 t_kinds t_kindLetters t_kindNames t_kindParts t_kindSorts t_kindMay t_lines t_numbers t_letters t_names t_parts t_sorts t_values a_73 a_74 a_75 l_76)))) (fun K => rfl) ?_
      obtain ⟨q1085, hq1085, h⟩ := Option.bind_eq_some_iff.mp h
      have heq1085 := xh_rf_kindOf_57 (l := l) (g := g) ok a_58 a_59 t_kindParts t_kindSorts t_kindMay t_lines t_numbers t_parts t_sorts t_values a_73 a_74 a_75 l_76 t_thrown s_57_1 s_57_18 s_57_19 s_57_20 s_57_24 X t_kindLetters t_kindNames t_kinds t_letters t_names n v4 _ hq1085
      refine xe_call1 (ws' := xw_R X t_thrown s_57_1 s_57_18 s_57_19 s_57_20 s_57_24 a_58 a_59 t_kinds t_kindLetters t_kindNames t_kindParts t_kindSorts t_kindMay t_lines t_numbers t_letters t_names t_parts t_sorts t_values a_73 a_74 a_75 l_76) (by decide) heq1085 (Or.inl rfl) ?_
      refine xe_seg ok 4 (G := (fun K => if q1085 = ((-1 : Int32)) then K (76, xm_i76, xm_I76, 0, 0, 63, [(0, .ref 59), (2, .int v2), (3, .int v3), (4, .int v4), (5, .int q1085)], [], xw_R X t_thrown s_57_1 s_57_18 s_57_19 s_57_20 s_57_24 a_58 a_59 t_kinds t_kindLetters t_kindNames t_kindParts t_kindSorts t_kindMay t_lines t_numbers t_letters t_names t_parts t_sorts t_values a_73 a_74 a_75 l_76) else K (76, xm_i76, xm_I76, 0, 0, 67, [(0, .ref 59), (2, .int v2), (3, .int v3), (4, .int v4), (5, .int q1085)], [], xw_R X t_thrown s_57_1 s_57_18 s_57_19 s_57_20 s_57_24 a_58 a_59 t_kinds t_kindLetters t_kindNames t_kindParts t_kindSorts t_kindMay t_lines t_numbers t_letters t_names t_parts t_sorts t_values a_73 a_74 a_75 l_76))) (fun K => rfl) ?_
      rcases xb_if h with ⟨hc1086, h⟩ | ⟨hc1086, h⟩
      · refine xe_pos hc1086 (xe_k ?_)
        refine xe_seg ok 2 (G := (fun K => K (76, xm_i76, xm_I76, 0, 0, 89, [(0, .ref 59), (2, .int v2), (3, .int v3), (4, .int v4), (5, .int q1085)], [.int ((1 : Int32))], xw_R X t_thrown s_57_1 s_57_18 s_57_19 s_57_20 s_57_24 a_58 a_59 t_kinds t_kindLetters t_kindNames t_kindParts t_kindSorts t_kindMay t_lines t_numbers t_letters t_names t_parts t_sorts t_values a_73 a_74 a_75 l_76))) (fun K => rfl) ?_
        refine xe_k ?_
        refine xe_sub [true, true, true, true, true] (lv' := [(0, .ref 59), (2, .int v2), (3, .int v3), (4, .int v4), (5, .int q1085)]) rfl ?_
        have hz := xh_rf_wrong_57_89 (l := l) (g := g) ok a_58 a_59 a_73 a_74 a_75 l_76 s_57_1 s_57_18 s_57_19 s_57_20 s_57_24 X t_kindLetters t_kindMay t_kindNames t_kindParts t_kindSorts t_kinds t_letters t_lines t_names t_numbers t_parts t_sorts t_values hk38 n t_thrown v2 v3 v4 q1085 ((1 : Int32)) _ h
        exact hz
      · refine xe_neg hc1086 (xe_k ?_)
        refine xe_seg ok 4 (G := (fun K => if xr_in q1085 24 = true then K (76, xm_i76, xm_I76, 0, 0, 74, [(0, .ref 59), (2, .int v2), (3, .int v3), (4, .int v4), (5, .int q1085)], [.int (t_kindParts q1085.toNatClampNeg)], xw_R X t_thrown s_57_1 s_57_18 s_57_19 s_57_20 s_57_24 a_58 a_59 t_kinds t_kindLetters t_kindNames t_kindParts t_kindSorts t_kindMay t_lines t_numbers t_letters t_names t_parts t_sorts t_values a_73 a_74 a_75 l_76) else none)) (fun K => rfl) ?_
        obtain ⟨hg1111, h⟩ := xn_if h
        refine xe_pos hg1111 (xe_k ?_)
        refine xe_seg ok 4 (G := (fun K => if xr_in v4 120 = true then K (76, xm_i76, xm_I76, 0, 0, 81, [(0, .ref 59), (2, .int v2), (3, .int v3), (4, .int v4), (5, .int q1085)], [.int (t_parts v4.toNatClampNeg), .int (t_kindParts q1085.toNatClampNeg)], xw_R X t_thrown s_57_1 s_57_18 s_57_19 s_57_20 s_57_24 a_58 a_59 t_kinds t_kindLetters t_kindNames t_kindParts t_kindSorts t_kindMay t_lines t_numbers t_letters t_names t_parts t_sorts t_values a_73 a_74 a_75 l_76) else none)) (fun K => rfl) ?_
        obtain ⟨hg1112, h⟩ := xn_if h
        refine xe_pos hg1112 (xe_k ?_)
        refine xe_seg ok 1 (G := (fun K => if (t_kindParts q1085.toNatClampNeg) = (t_parts v4.toNatClampNeg) then K (76, xm_i76, xm_I76, 0, 0, 88, [(0, .ref 59), (2, .int v2), (3, .int v3), (4, .int v4), (5, .int q1085)], [], xw_R X t_thrown s_57_1 s_57_18 s_57_19 s_57_20 s_57_24 a_58 a_59 t_kinds t_kindLetters t_kindNames t_kindParts t_kindSorts t_kindMay t_lines t_numbers t_letters t_names t_parts t_sorts t_values a_73 a_74 a_75 l_76) else K (76, xm_i76, xm_I76, 0, 0, 84, [(0, .ref 59), (2, .int v2), (3, .int v3), (4, .int v4), (5, .int q1085)], [], xw_R X t_thrown s_57_1 s_57_18 s_57_19 s_57_20 s_57_24 a_58 a_59 t_kinds t_kindLetters t_kindNames t_kindParts t_kindSorts t_kindMay t_lines t_numbers t_letters t_names t_parts t_sorts t_values a_73 a_74 a_75 l_76))) (fun K => rfl) ?_
        rcases xb_if h with ⟨hc1113, h⟩ | ⟨hc1113, h⟩
        · refine xe_pos hc1113 (xe_k ?_)
          refine xe_seg ok 1 (G := (fun K => K (76, xm_i76, xm_I76, 0, 0, 89, [(0, .ref 59), (2, .int v2), (3, .int v3), (4, .int v4), (5, .int q1085)], [.int ((0 : Int32))], xw_R X t_thrown s_57_1 s_57_18 s_57_19 s_57_20 s_57_24 a_58 a_59 t_kinds t_kindLetters t_kindNames t_kindParts t_kindSorts t_kindMay t_lines t_numbers t_letters t_names t_parts t_sorts t_values a_73 a_74 a_75 l_76))) (fun K => rfl) ?_
          refine xe_k ?_
          refine xe_sub [true, true, true, true, true] (lv' := [(0, .ref 59), (2, .int v2), (3, .int v3), (4, .int v4), (5, .int q1085)]) rfl ?_
          have hz := xh_rf_wrong_57_89 (l := l) (g := g) ok a_58 a_59 a_73 a_74 a_75 l_76 s_57_1 s_57_18 s_57_19 s_57_20 s_57_24 X t_kindLetters t_kindMay t_kindNames t_kindParts t_kindSorts t_kinds t_letters t_lines t_names t_numbers t_parts t_sorts t_values hk38 n t_thrown v2 v3 v4 q1085 ((0 : Int32)) _ h
          exact hz
        · refine xe_neg hc1113 (xe_k ?_)
          refine xe_seg ok 2 (G := (fun K => K (76, xm_i76, xm_I76, 0, 0, 89, [(0, .ref 59), (2, .int v2), (3, .int v3), (4, .int v4), (5, .int q1085)], [.int ((2 : Int32))], xw_R X t_thrown s_57_1 s_57_18 s_57_19 s_57_20 s_57_24 a_58 a_59 t_kinds t_kindLetters t_kindNames t_kindParts t_kindSorts t_kindMay t_lines t_numbers t_letters t_names t_parts t_sorts t_values a_73 a_74 a_75 l_76))) (fun K => rfl) ?_
          refine xe_k ?_
          refine xe_sub [true, true, true, true, true] (lv' := [(0, .ref 59), (2, .int v2), (3, .int v3), (4, .int v4), (5, .int q1085)]) rfl ?_
          have hz := xh_rf_wrong_57_89 (l := l) (g := g) ok a_58 a_59 a_73 a_74 a_75 l_76 s_57_1 s_57_18 s_57_19 s_57_20 s_57_24 X t_kindLetters t_kindMay t_kindNames t_kindParts t_kindSorts t_kinds t_letters t_lines t_names t_numbers t_parts t_sorts t_values hk38 n t_thrown v2 v3 v4 q1085 ((2 : Int32)) _ h
          exact hz
    · refine xe_neg hc1084 (xe_k ?_)
      obtain rfl := Option.some.inj h
      refine xe_seg ok 2 (G := (fun _ => some (.inl (some (.int ((-1 : Int32)))), xw_R X t_thrown s_57_1 s_57_18 s_57_19 s_57_20 s_57_24 a_58 a_59 t_kinds t_kindLetters t_kindNames t_kindParts t_kindSorts t_kindMay t_lines t_numbers t_letters t_names t_parts t_sorts t_values a_73 a_74 a_75 l_76))) (fun K => rfl) ?_
      exact xe_ret
set_option maxHeartbeats 400000 in
theorem xh_rf_wrong_57_24 {l : Launch} {g : xr_G} (ok : xr_OK xm_P) (a_58 a_59 a_73 a_74 a_75 : Nat → Int32) (l_76 : Nat → Int64) (s_57_1 s_57_18 s_57_19 s_57_20 s_57_24 : Int32) (X : Nat → xr_C) (t_kindLetters : (Nat → Int32)) (t_kindMay : (Nat → Int32)) (t_kindNames : (Nat → Int32)) (t_kindParts : (Nat → Int32)) (t_kindSorts : (Nat → Int32)) (t_kinds : (Nat → Int32)) (t_letters : (Nat → Int32)) (t_lines : (Nat → Int32)) (t_names : (Nat → Int32)) (t_numbers : (Nat → Int32)) (t_parts : (Nat → Int32)) (t_sorts : (Nat → Int32)) (t_values : (Nat → Int32)) (n : Nat) : ∀ (t_thrown : Int32) (v1 : Int32) (v2 : Int32) (s1 : Int32) (r : (Int32 × Int32)), xf_rf_wrong_24 t_kindLetters t_kindMay t_kindNames t_kindParts t_kindSorts t_kinds t_letters t_lines t_names t_numbers t_parts t_sorts t_values n t_thrown v1 v2 s1 = some r → xV xm_P l g (76, xm_i76, xm_I76, 0, 0, 24, [(0, .ref 59), (1, .int v1), (2, .int v2)], [.int s1, .ref 59], xw_R X t_thrown s_57_1 s_57_18 s_57_19 s_57_20 s_57_24 a_58 a_59 t_kinds t_kindLetters t_kindNames t_kindParts t_kindSorts t_kindMay t_lines t_numbers t_letters t_names t_parts t_sorts t_values a_73 a_74 a_75 l_76) (.inl (some (.int r.1)), xw_R X r.2 s_57_1 s_57_18 s_57_19 s_57_20 s_57_24 a_58 a_59 t_kinds t_kindLetters t_kindNames t_kindParts t_kindSorts t_kindMay t_lines t_numbers t_letters t_names t_parts t_sorts t_values a_73 a_74 a_75 l_76) := by
  intro t_thrown v1 v2 s1 r h
  unfold xf_rf_wrong_24 at h
  refine xe_seg ok 2 (G := (fun K => xr_back K 76 xm_i76 xm_I76 0 0 25 [(0, .ref 59), (1, .int v1), (2, .int v2)] [] 78 true (K (32, xm_i32, xm_I32, 0, 0, 0, [(0, .ref 59), (1, .int s1), (2, .int ((1 : Int32)))], [], xw_R X t_thrown s_57_1 s_57_18 s_57_19 s_57_20 s_57_24 a_58 a_59 t_kinds t_kindLetters t_kindNames t_kindParts t_kindSorts t_kindMay t_lines t_numbers t_letters t_names t_parts t_sorts t_values a_73 a_74 a_75 l_76)))) (fun K => rfl) ?_
  obtain ⟨q1082, hq1082, h⟩ := Option.bind_eq_some_iff.mp h
  have heq1082 := xh_rf_fails_57 (l := l) (g := g) ok a_58 a_59 t_kinds t_kindLetters t_kindNames t_kindParts t_kindSorts t_kindMay t_lines t_numbers t_letters t_names t_parts t_sorts t_values a_73 a_74 a_75 l_76 s_57_1 s_57_18 s_57_19 s_57_20 s_57_24 X t_thrown s1 ((1 : Int32)) _ hq1082
  refine xe_call1 (ws' := xw_R X q1082.2 s_57_1 s_57_18 s_57_19 s_57_20 s_57_24 a_58 a_59 t_kinds t_kindLetters t_kindNames t_kindParts t_kindSorts t_kindMay t_lines t_numbers t_letters t_names t_parts t_sorts t_values a_73 a_74 a_75 l_76) (by decide) heq1082 (Or.inl rfl) ?_
  refine xe_seg ok 1 (G := (fun K => if q1082.1 = (0 : Int32) then K (76, xm_i76, xm_I76, 0, 0, 33, [(0, .ref 59), (1, .int v1), (2, .int v2)], [], xw_R X q1082.2 s_57_1 s_57_18 s_57_19 s_57_20 s_57_24 a_58 a_59 t_kinds t_kindLetters t_kindNames t_kindParts t_kindSorts t_kindMay t_lines t_numbers t_letters t_names t_parts t_sorts t_values a_73 a_74 a_75 l_76) else K (76, xm_i76, xm_I76, 0, 0, 31, [(0, .ref 59), (1, .int v1), (2, .int v2)], [], xw_R X q1082.2 s_57_1 s_57_18 s_57_19 s_57_20 s_57_24 a_58 a_59 t_kinds t_kindLetters t_kindNames t_kindParts t_kindSorts t_kindMay t_lines t_numbers t_letters t_names t_parts t_sorts t_values a_73 a_74 a_75 l_76))) (fun K => rfl) ?_
  rcases xb_if h with ⟨hc1083, h⟩ | ⟨hc1083, h⟩
  · refine xe_pos hc1083 (xe_k ?_)
    refine xe_seg ok 4 (G := (fun K => K (76, xm_i76, xm_I76, 0, 0, 38, [(0, .ref 59), (1, .int v1), (2, .int v2), (3, .int v1), (4, .int ((0 : Int32)))], [], xw_R X q1082.2 s_57_1 s_57_18 s_57_19 s_57_20 s_57_24 a_58 a_59 t_kinds t_kindLetters t_kindNames t_kindParts t_kindSorts t_kindMay t_lines t_numbers t_letters t_names t_parts t_sorts t_values a_73 a_74 a_75 l_76))) (fun K => rfl) ?_
    refine xe_k ?_
    refine xe_sub [true, false, true, true, true] (lv' := [(0, .ref 59), (2, .int v2), (3, .int v1), (4, .int ((0 : Int32)))]) rfl ?_
    have hz := xh_rf_wrong_57_38 (l := l) (g := g) ok a_58 a_59 a_73 a_74 a_75 l_76 s_57_1 s_57_18 s_57_19 s_57_20 s_57_24 X t_kindLetters t_kindMay t_kindNames t_kindParts t_kindSorts t_kinds t_letters t_lines t_names t_numbers t_parts t_sorts t_values n n q1082.2 v2 v1 ((0 : Int32)) _ h
    exact hz
  · refine xe_neg hc1083 (xe_k ?_)
    obtain rfl := Option.some.inj h
    refine xe_seg ok 2 (G := (fun _ => some (.inl (some (.int ((0 : Int32)))), xw_R X q1082.2 s_57_1 s_57_18 s_57_19 s_57_20 s_57_24 a_58 a_59 t_kinds t_kindLetters t_kindNames t_kindParts t_kindSorts t_kindMay t_lines t_numbers t_letters t_names t_parts t_sorts t_values a_73 a_74 a_75 l_76))) (fun K => rfl) ?_
    exact xe_ret
set_option maxHeartbeats 400000 in
theorem xh_rf_wrong_57_19 {l : Launch} {g : xr_G} (ok : xr_OK xm_P) (a_58 a_59 a_73 a_74 a_75 : Nat → Int32) (l_76 : Nat → Int64) (s_57_1 s_57_18 s_57_19 s_57_20 s_57_24 : Int32) (X : Nat → xr_C) (t_kindLetters : (Nat → Int32)) (t_kindMay : (Nat → Int32)) (t_kindNames : (Nat → Int32)) (t_kindParts : (Nat → Int32)) (t_kindSorts : (Nat → Int32)) (t_kinds : (Nat → Int32)) (t_letters : (Nat → Int32)) (t_lines : (Nat → Int32)) (t_names : (Nat → Int32)) (t_numbers : (Nat → Int32)) (t_parts : (Nat → Int32)) (t_sorts : (Nat → Int32)) (t_values : (Nat → Int32)) (n : Nat) : ∀ (t_thrown : Int32) (v1 : Int32) (v2 : Int32) (r : (Int32 × Int32)), xf_rf_wrong_19 t_kindLetters t_kindMay t_kindNames t_kindParts t_kindSorts t_kinds t_letters t_lines t_names t_numbers t_parts t_sorts t_values n t_thrown v1 v2 = some r → xV xm_P l g (76, xm_i76, xm_I76, 0, 0, 19, [(0, .ref 59), (1, .int v1), (2, .int v2)], [.ref 59], xw_R X t_thrown s_57_1 s_57_18 s_57_19 s_57_20 s_57_24 a_58 a_59 t_kinds t_kindLetters t_kindNames t_kindParts t_kindSorts t_kindMay t_lines t_numbers t_letters t_names t_parts t_sorts t_values a_73 a_74 a_75 l_76) (.inl (some (.int r.1)), xw_R X r.2 s_57_1 s_57_18 s_57_19 s_57_20 s_57_24 a_58 a_59 t_kinds t_kindLetters t_kindNames t_kindParts t_kindSorts t_kindMay t_lines t_numbers t_letters t_names t_parts t_sorts t_values a_73 a_74 a_75 l_76) := by
  intro t_thrown v1 v2 r h
  unfold xf_rf_wrong_19 at h
  refine xe_seg ok 2 (G := (fun K => K (76, xm_i76, xm_I76, 0, 0, 24, [(0, .ref 59), (1, .int v1), (2, .int v2)], [.int ((1 : Int32)), .ref 59], xw_R X t_thrown s_57_1 s_57_18 s_57_19 s_57_20 s_57_24 a_58 a_59 t_kinds t_kindLetters t_kindNames t_kindParts t_kindSorts t_kindMay t_lines t_numbers t_letters t_names t_parts t_sorts t_values a_73 a_74 a_75 l_76))) (fun K => rfl) ?_
  refine xe_k ?_
  refine xe_sub [true, true, true] (lv' := [(0, .ref 59), (1, .int v1), (2, .int v2)]) rfl ?_
  have hz := xh_rf_wrong_57_24 (l := l) (g := g) ok a_58 a_59 a_73 a_74 a_75 l_76 s_57_1 s_57_18 s_57_19 s_57_20 s_57_24 X t_kindLetters t_kindMay t_kindNames t_kindParts t_kindSorts t_kinds t_letters t_lines t_names t_numbers t_parts t_sorts t_values n t_thrown v1 v2 ((1 : Int32)) _ h
  exact hz
set_option maxHeartbeats 400000 in
theorem xh_rf_wrong_57 {l : Launch} {g : xr_G} (ok : xr_OK xm_P) (a_58 a_59 a_73 a_74 a_75 : Nat → Int32) (l_76 : Nat → Int64) (s_57_1 s_57_18 s_57_19 s_57_20 s_57_24 : Int32) (X : Nat → xr_C) (t_kindLetters : (Nat → Int32)) (t_kindMay : (Nat → Int32)) (t_kindNames : (Nat → Int32)) (t_kindParts : (Nat → Int32)) (t_kindSorts : (Nat → Int32)) (t_kinds : (Nat → Int32)) (t_letters : (Nat → Int32)) (t_lines : (Nat → Int32)) (t_names : (Nat → Int32)) (t_numbers : (Nat → Int32)) (t_parts : (Nat → Int32)) (t_sorts : (Nat → Int32)) (t_values : (Nat → Int32)) (n : Nat) : ∀ (t_thrown : Int32) (a1 : Int32) (a2 : Int32) (r : (Int32 × Int32)), xf_rf_wrong t_kindLetters t_kindMay t_kindNames t_kindParts t_kindSorts t_kinds t_letters t_lines t_names t_numbers t_parts t_sorts t_values n t_thrown a1 a2 = some r → xV xm_P l g (76, xm_i76, xm_I76, 0, 0, 0, [(0, .ref 59), (1, .int a1), (2, .int a2)], [], xw_R X t_thrown s_57_1 s_57_18 s_57_19 s_57_20 s_57_24 a_58 a_59 t_kinds t_kindLetters t_kindNames t_kindParts t_kindSorts t_kindMay t_lines t_numbers t_letters t_names t_parts t_sorts t_values a_73 a_74 a_75 l_76) (.inl (some (.int r.1)), xw_R X r.2 s_57_1 s_57_18 s_57_19 s_57_20 s_57_24 a_58 a_59 t_kinds t_kindLetters t_kindNames t_kindParts t_kindSorts t_kindMay t_lines t_numbers t_letters t_names t_parts t_sorts t_values a_73 a_74 a_75 l_76) := by
  intro t_thrown a1 a2 r h
  unfold xf_rf_wrong at h
  refine xe_seg ok 6 (G := (fun K => if a1 < (0 : Int32) then K (76, xm_i76, xm_I76, 0, 0, 19, [(0, .ref 59), (1, .int a1), (2, .int a2)], [.ref 59], xw_R X ((0 : Int32)) s_57_1 s_57_18 s_57_19 s_57_20 s_57_24 a_58 a_59 t_kinds t_kindLetters t_kindNames t_kindParts t_kindSorts t_kindMay t_lines t_numbers t_letters t_names t_parts t_sorts t_values a_73 a_74 a_75 l_76) else K (76, xm_i76, xm_I76, 0, 0, 10, [(0, .ref 59), (1, .int a1), (2, .int a2)], [.ref 59], xw_R X ((0 : Int32)) s_57_1 s_57_18 s_57_19 s_57_20 s_57_24 a_58 a_59 t_kinds t_kindLetters t_kindNames t_kindParts t_kindSorts t_kindMay t_lines t_numbers t_letters t_names t_parts t_sorts t_values a_73 a_74 a_75 l_76))) (fun K => rfl) ?_
  rcases xb_if h with ⟨hc1081, h⟩ | ⟨hc1081, h⟩
  · refine xe_pos hc1081 (xe_k ?_)
    refine xe_sub [true, true, true] (lv' := [(0, .ref 59), (1, .int a1), (2, .int a2)]) rfl ?_
    have hz := xh_rf_wrong_57_19 (l := l) (g := g) ok a_58 a_59 a_73 a_74 a_75 l_76 s_57_1 s_57_18 s_57_19 s_57_20 s_57_24 X t_kindLetters t_kindMay t_kindNames t_kindParts t_kindSorts t_kinds t_letters t_lines t_names t_numbers t_parts t_sorts t_values n ((0 : Int32)) a1 a2 _ h
    exact hz
  · refine xe_neg hc1081 (xe_k ?_)
    refine xe_seg ok 2 (G := (fun K => if a2 < (0 : Int32) then K (76, xm_i76, xm_I76, 0, 0, 19, [(0, .ref 59), (1, .int a1), (2, .int a2)], [.ref 59], xw_R X ((0 : Int32)) s_57_1 s_57_18 s_57_19 s_57_20 s_57_24 a_58 a_59 t_kinds t_kindLetters t_kindNames t_kindParts t_kindSorts t_kindMay t_lines t_numbers t_letters t_names t_parts t_sorts t_values a_73 a_74 a_75 l_76) else K (76, xm_i76, xm_I76, 0, 0, 14, [(0, .ref 59), (1, .int a1), (2, .int a2)], [.ref 59], xw_R X ((0 : Int32)) s_57_1 s_57_18 s_57_19 s_57_20 s_57_24 a_58 a_59 t_kinds t_kindLetters t_kindNames t_kindParts t_kindSorts t_kindMay t_lines t_numbers t_letters t_names t_parts t_sorts t_values a_73 a_74 a_75 l_76))) (fun K => rfl) ?_
    rcases xb_if h with ⟨hc1114, h⟩ | ⟨hc1114, h⟩
    · refine xe_pos hc1114 (xe_k ?_)
      refine xe_sub [true, true, true] (lv' := [(0, .ref 59), (1, .int a1), (2, .int a2)]) rfl ?_
      have hz := xh_rf_wrong_57_19 (l := l) (g := g) ok a_58 a_59 a_73 a_74 a_75 l_76 s_57_1 s_57_18 s_57_19 s_57_20 s_57_24 X t_kindLetters t_kindMay t_kindNames t_kindParts t_kindSorts t_kinds t_letters t_lines t_names t_numbers t_parts t_sorts t_values n ((0 : Int32)) a1 a2 _ h
      exact hz
    · refine xe_neg hc1114 (xe_k ?_)
      refine xe_seg ok 3 (G := (fun K => if ((2 : Int32)) < a2 then K (76, xm_i76, xm_I76, 0, 0, 19, [(0, .ref 59), (1, .int a1), (2, .int a2)], [.ref 59], xw_R X ((0 : Int32)) s_57_1 s_57_18 s_57_19 s_57_20 s_57_24 a_58 a_59 t_kinds t_kindLetters t_kindNames t_kindParts t_kindSorts t_kindMay t_lines t_numbers t_letters t_names t_parts t_sorts t_values a_73 a_74 a_75 l_76) else K (76, xm_i76, xm_I76, 0, 0, 23, [(0, .ref 59), (1, .int a1), (2, .int a2)], [.ref 59], xw_R X ((0 : Int32)) s_57_1 s_57_18 s_57_19 s_57_20 s_57_24 a_58 a_59 t_kinds t_kindLetters t_kindNames t_kindParts t_kindSorts t_kindMay t_lines t_numbers t_letters t_names t_parts t_sorts t_values a_73 a_74 a_75 l_76))) (fun K => rfl) ?_
      rcases xb_if h with ⟨hc1115, h⟩ | ⟨hc1115, h⟩
      · refine xe_pos hc1115 (xe_k ?_)
        refine xe_sub [true, true, true] (lv' := [(0, .ref 59), (1, .int a1), (2, .int a2)]) rfl ?_
        have hz := xh_rf_wrong_57_19 (l := l) (g := g) ok a_58 a_59 a_73 a_74 a_75 l_76 s_57_1 s_57_18 s_57_19 s_57_20 s_57_24 X t_kindLetters t_kindMay t_kindNames t_kindParts t_kindSorts t_kinds t_letters t_lines t_names t_numbers t_parts t_sorts t_values n ((0 : Int32)) a1 a2 _ h
        exact hz
      · refine xe_neg hc1115 (xe_k ?_)
        refine xe_seg ok 1 (G := (fun K => K (76, xm_i76, xm_I76, 0, 0, 24, [(0, .ref 59), (1, .int a1), (2, .int a2)], [.int ((0 : Int32)), .ref 59], xw_R X ((0 : Int32)) s_57_1 s_57_18 s_57_19 s_57_20 s_57_24 a_58 a_59 t_kinds t_kindLetters t_kindNames t_kindParts t_kindSorts t_kindMay t_lines t_numbers t_letters t_names t_parts t_sorts t_values a_73 a_74 a_75 l_76))) (fun K => rfl) ?_
        refine xe_k ?_
        refine xe_sub [true, true, true] (lv' := [(0, .ref 59), (1, .int a1), (2, .int a2)]) rfl ?_
        have hz := xh_rf_wrong_57_24 (l := l) (g := g) ok a_58 a_59 a_73 a_74 a_75 l_76 s_57_1 s_57_18 s_57_19 s_57_20 s_57_24 X t_kindLetters t_kindMay t_kindNames t_kindParts t_kindSorts t_kinds t_letters t_lines t_names t_numbers t_parts t_sorts t_values n ((0 : Int32)) a1 a2 ((0 : Int32)) _ h
        exact hz
set_option maxHeartbeats 400000 in
theorem xh_rf_from_57_92 {l : Launch} {g : xr_G} (ok : xr_OK xm_P) (a_58 a_59 a_60 a_61 a_62 a_63 a_64 a_65 a_68 a_69 a_74 a_75 : Nat → Int32) (s_57_1 s_57_18 s_57_19 s_57_20 s_57_24 : Int32) (X : Nat → xr_C) (t_items : (Nat → Int32)) (t_lines : (Nat → Int32)) (t_numbers : (Nat → Int32)) (t_parts : (Nat → Int32)) (t_sorts : (Nat → Int32)) (t_values : (Nat → Int32)) {k46 : Int32 → (Nat → Int64) → Int32 → Int32 → Int32 → Option (Int32 × Int32 × (Nat → Int64))} (hk46 : ∀ (t_thrown : Int32) (t_ways : (Nat → Int64)) (v3 : Int32) (v4 : Int32) (v5 : Int32) (r : (Int32 × Int32 × (Nat → Int64))), k46 t_thrown t_ways v3 v4 v5 = some r → xV xm_P l g (77, xm_i77, xm_I77, 0, 0, 46, [(0, .ref 59), (3, .int v3), (4, .int v4), (5, .int v5)], [], xw_R X t_thrown s_57_1 s_57_18 s_57_19 s_57_20 s_57_24 a_58 a_59 a_60 a_61 a_62 a_63 a_64 a_65 t_lines t_numbers a_68 a_69 t_parts t_sorts t_values t_items a_74 a_75 t_ways) (.inl (some (.int r.1)), xw_R X r.2.1 s_57_1 s_57_18 s_57_19 s_57_20 s_57_24 a_58 a_59 a_60 a_61 a_62 a_63 a_64 a_65 t_lines t_numbers a_68 a_69 t_parts t_sorts t_values t_items a_74 a_75 r.2.2)) (n : Nat) : ∀ (t_thrown : Int32) (t_ways : (Nat → Int64)) (v3 : Int32) (v4 : Int32) (v5 : Int32) (r : (Int32 × Int32 × (Nat → Int64))), xf_rf_from_92 t_items t_lines t_numbers t_parts t_sorts t_values k46 n t_thrown t_ways v3 v4 v5 = some r → xV xm_P l g (77, xm_i77, xm_I77, 0, 0, 92, [(0, .ref 59), (3, .int v3), (4, .int v4), (5, .int v5)], [], xw_R X t_thrown s_57_1 s_57_18 s_57_19 s_57_20 s_57_24 a_58 a_59 a_60 a_61 a_62 a_63 a_64 a_65 t_lines t_numbers a_68 a_69 t_parts t_sorts t_values t_items a_74 a_75 t_ways) (.inl (some (.int r.1)), xw_R X r.2.1 s_57_1 s_57_18 s_57_19 s_57_20 s_57_24 a_58 a_59 a_60 a_61 a_62 a_63 a_64 a_65 t_lines t_numbers a_68 a_69 t_parts t_sorts t_values t_items a_74 a_75 r.2.2) := by
  intro t_thrown t_ways v3 v4 v5 r h
  unfold xf_rf_from_92 at h
  refine xe_seg ok 2 (G := (fun K => K (77, xm_i77, xm_I77, 0, 0, 46, [(0, .ref 59), (3, .int v3), (4, .int v4), (5, .int (v5 + (1 : Int32)))], [], xw_R X t_thrown s_57_1 s_57_18 s_57_19 s_57_20 s_57_24 a_58 a_59 a_60 a_61 a_62 a_63 a_64 a_65 t_lines t_numbers a_68 a_69 t_parts t_sorts t_values t_items a_74 a_75 t_ways))) (fun K => rfl) ?_
  refine xe_k ?_
  refine xe_sub [true, true, true, true] (lv' := [(0, .ref 59), (3, .int v3), (4, .int v4), (5, .int (v5 + (1 : Int32)))]) rfl ?_
  have hz := hk46 t_thrown t_ways v3 v4 (v5 + (1 : Int32)) _ h
  exact hz
set_option maxHeartbeats 400000 in
theorem xh_rf_from_57_46 {l : Launch} {g : xr_G} (ok : xr_OK xm_P) (a_58 a_59 a_60 a_61 a_62 a_63 a_64 a_65 a_68 a_69 a_74 a_75 : Nat → Int32) (s_57_1 s_57_18 s_57_19 s_57_20 s_57_24 : Int32) (X : Nat → xr_C) (t_items : (Nat → Int32)) (t_lines : (Nat → Int32)) (t_numbers : (Nat → Int32)) (t_parts : (Nat → Int32)) (t_sorts : (Nat → Int32)) (t_values : (Nat → Int32)) (n : Nat) : ∀ (N : Nat) (t_thrown : Int32) (t_ways : (Nat → Int64)) (v3 : Int32) (v4 : Int32) (v5 : Int32) (r : (Int32 × Int32 × (Nat → Int64))), xf_rf_from_46 t_items t_lines t_numbers t_parts t_sorts t_values n N t_thrown t_ways v3 v4 v5 = some r → xV xm_P l g (77, xm_i77, xm_I77, 0, 0, 46, [(0, .ref 59), (3, .int v3), (4, .int v4), (5, .int v5)], [], xw_R X t_thrown s_57_1 s_57_18 s_57_19 s_57_20 s_57_24 a_58 a_59 a_60 a_61 a_62 a_63 a_64 a_65 t_lines t_numbers a_68 a_69 t_parts t_sorts t_values t_items a_74 a_75 t_ways) (.inl (some (.int r.1)), xw_R X r.2.1 s_57_1 s_57_18 s_57_19 s_57_20 s_57_24 a_58 a_59 a_60 a_61 a_62 a_63 a_64 a_65 t_lines t_numbers a_68 a_69 t_parts t_sorts t_values t_items a_74 a_75 r.2.2) := by
  intro N
  induction N with
  | zero => intro t_thrown t_ways v3 v4 v5 r h; cases h
  | succ N hk46 =>
    intro t_thrown t_ways v3 v4 v5 r h
    refine xe_seg ok 5 (G := (fun K => if xr_in ((0 : Int32)) 3 = true then K (77, xm_i77, xm_I77, 0, 0, 54, [(0, .ref 59), (3, .int v3), (4, .int v4), (5, .int v5)], [.int (t_lines ((0 : Int32)).toNatClampNeg), .int v5], xw_R X t_thrown s_57_1 s_57_18 s_57_19 s_57_20 s_57_24 a_58 a_59 a_60 a_61 a_62 a_63 a_64 a_65 t_lines t_numbers a_68 a_69 t_parts t_sorts t_values t_items a_74 a_75 t_ways) else none)) (fun K => rfl) ?_
    refine xe_pos (by decide) (xe_k ?_)
    refine xe_seg ok 1 (G := (fun K => if v5 < (t_lines ((0 : Int32)).toNatClampNeg) then K (77, xm_i77, xm_I77, 0, 0, 57, [(0, .ref 59), (3, .int v3), (4, .int v4), (5, .int v5)], [], xw_R X t_thrown s_57_1 s_57_18 s_57_19 s_57_20 s_57_24 a_58 a_59 a_60 a_61 a_62 a_63 a_64 a_65 t_lines t_numbers a_68 a_69 t_parts t_sorts t_values t_items a_74 a_75 t_ways) else K (77, xm_i77, xm_I77, 0, 0, 98, [(0, .ref 59), (3, .int v3), (4, .int v4), (5, .int v5)], [], xw_R X t_thrown s_57_1 s_57_18 s_57_19 s_57_20 s_57_24 a_58 a_59 a_60 a_61 a_62 a_63 a_64 a_65 t_lines t_numbers a_68 a_69 t_parts t_sorts t_values t_items a_74 a_75 t_ways))) (fun K => rfl) ?_
    rcases xb_if h with ⟨hc1121, h⟩ | ⟨hc1121, h⟩
    · refine xe_pos hc1121 (xe_k ?_)
      refine xe_seg ok 4 (G := (fun K => if xr_in v5 40 = true then K (77, xm_i77, xm_I77, 0, 0, 64, [(0, .ref 59), (3, .int v3), (4, .int v4), (5, .int v5)], [.long (t_ways v5.toNatClampNeg)], xw_R X t_thrown s_57_1 s_57_18 s_57_19 s_57_20 s_57_24 a_58 a_59 a_60 a_61 a_62 a_63 a_64 a_65 t_lines t_numbers a_68 a_69 t_parts t_sorts t_values t_items a_74 a_75 t_ways) else none)) (fun K => rfl) ?_
      obtain ⟨hg1122, h⟩ := xn_if h
      refine xe_pos hg1122 (xe_k ?_)
      refine xe_seg ok 7 (G := (fun K => if (lg_cmp ((xe_shr (t_ways v5.toNatClampNeg) v3) &&& ((1 : Int64))) ((0 : Int64))) = (0 : Int32) then K (77, xm_i77, xm_I77, 0, 0, 73, [(0, .ref 59), (3, .int v3), (4, .int v4), (5, .int v5)], [], xw_R X t_thrown s_57_1 s_57_18 s_57_19 s_57_20 s_57_24 a_58 a_59 a_60 a_61 a_62 a_63 a_64 a_65 t_lines t_numbers a_68 a_69 t_parts t_sorts t_values t_items a_74 a_75 t_ways) else K (77, xm_i77, xm_I77, 0, 0, 76, [(0, .ref 59), (3, .int v3), (4, .int v4), (5, .int v5)], [], xw_R X t_thrown s_57_1 s_57_18 s_57_19 s_57_20 s_57_24 a_58 a_59 a_60 a_61 a_62 a_63 a_64 a_65 t_lines t_numbers a_68 a_69 t_parts t_sorts t_values t_items a_74 a_75 t_ways))) (fun K => rfl) ?_
      rcases xb_if h with ⟨hc1123, h⟩ | ⟨hc1123, h⟩
      · refine xe_pos hc1123 (xe_k ?_)
        refine xe_seg ok 1 (G := (fun K => K (77, xm_i77, xm_I77, 0, 0, 92, [(0, .ref 59), (3, .int v3), (4, .int v4), (5, .int v5)], [], xw_R X t_thrown s_57_1 s_57_18 s_57_19 s_57_20 s_57_24 a_58 a_59 a_60 a_61 a_62 a_63 a_64 a_65 t_lines t_numbers a_68 a_69 t_parts t_sorts t_values t_items a_74 a_75 t_ways))) (fun K => rfl) ?_
        refine xe_k ?_
        refine xe_sub [true, true, true, true] (lv' := [(0, .ref 59), (3, .int v3), (4, .int v4), (5, .int v5)]) rfl ?_
        have hz := xh_rf_from_57_92 (l := l) (g := g) ok a_58 a_59 a_60 a_61 a_62 a_63 a_64 a_65 a_68 a_69 a_74 a_75 s_57_1 s_57_18 s_57_19 s_57_20 s_57_24 X t_items t_lines t_numbers t_parts t_sorts t_values hk46 n t_thrown t_ways v3 v4 v5 _ h
        exact hz
      · refine xe_neg hc1123 (xe_k ?_)
        refine xe_seg ok 2 (G := (fun K => if v4 = (0 : Int32) then K (77, xm_i77, xm_I77, 0, 0, 81, [(0, .ref 59), (3, .int v3), (4, .int v4), (5, .int v5)], [], xw_R X t_thrown s_57_1 s_57_18 s_57_19 s_57_20 s_57_24 a_58 a_59 a_60 a_61 a_62 a_63 a_64 a_65 t_lines t_numbers a_68 a_69 t_parts t_sorts t_values t_items a_74 a_75 t_ways) else K (77, xm_i77, xm_I77, 0, 0, 89, [(0, .ref 59), (3, .int v3), (4, .int v4), (5, .int v5)], [], xw_R X t_thrown s_57_1 s_57_18 s_57_19 s_57_20 s_57_24 a_58 a_59 a_60 a_61 a_62 a_63 a_64 a_65 t_lines t_numbers a_68 a_69 t_parts t_sorts t_values t_items a_74 a_75 t_ways))) (fun K => rfl) ?_
        rcases xb_if h with ⟨hc1124, h⟩ | ⟨hc1124, h⟩
        · refine xe_pos hc1124 (xe_k ?_)
          refine xe_seg ok 4 (G := (fun K => if xr_in v5 120 = true then K (77, xm_i77, xm_I77, 0, 0, 88, [(0, .ref 59), (3, .int v3), (4, .int v4), (5, .int v5)], [.int (t_numbers v5.toNatClampNeg)], xw_R X t_thrown s_57_1 s_57_18 s_57_19 s_57_20 s_57_24 a_58 a_59 a_60 a_61 a_62 a_63 a_64 a_65 t_lines t_numbers a_68 a_69 t_parts t_sorts t_values t_items a_74 a_75 t_ways) else none)) (fun K => rfl) ?_
          obtain ⟨hg1125, h⟩ := xn_if h
          refine xe_pos hg1125 (xe_k ?_)
          obtain rfl := Option.some.inj h
          refine xe_seg ok 1 (G := (fun _ => some (.inl (some (.int (t_numbers v5.toNatClampNeg))), xw_R X t_thrown s_57_1 s_57_18 s_57_19 s_57_20 s_57_24 a_58 a_59 a_60 a_61 a_62 a_63 a_64 a_65 t_lines t_numbers a_68 a_69 t_parts t_sorts t_values t_items a_74 a_75 t_ways))) (fun K => rfl) ?_
          exact xe_ret
        · refine xe_neg hc1124 (xe_k ?_)
          refine xe_seg ok 1 (G := (fun K => K (77, xm_i77, xm_I77, 0, 0, 92, [(0, .ref 59), (3, .int v3), (4, .int (v4 + (-1 : Int32))), (5, .int v5)], [], xw_R X t_thrown s_57_1 s_57_18 s_57_19 s_57_20 s_57_24 a_58 a_59 a_60 a_61 a_62 a_63 a_64 a_65 t_lines t_numbers a_68 a_69 t_parts t_sorts t_values t_items a_74 a_75 t_ways))) (fun K => rfl) ?_
          refine xe_k ?_
          refine xe_sub [true, true, true, true] (lv' := [(0, .ref 59), (3, .int v3), (4, .int (v4 + (-1 : Int32))), (5, .int v5)]) rfl ?_
          have hz := xh_rf_from_57_92 (l := l) (g := g) ok a_58 a_59 a_60 a_61 a_62 a_63 a_64 a_65 a_68 a_69 a_74 a_75 s_57_1 s_57_18 s_57_19 s_57_20 s_57_24 X t_items t_lines t_numbers t_parts t_sorts t_values hk46 n t_thrown t_ways v3 (v4 + (-1 : Int32)) v5 _ h
          exact hz
    · refine xe_neg hc1121 (xe_k ?_)
      obtain rfl := Option.some.inj h
      refine xe_seg ok 2 (G := (fun _ => some (.inl (some (.int ((-1 : Int32)))), xw_R X t_thrown s_57_1 s_57_18 s_57_19 s_57_20 s_57_24 a_58 a_59 a_60 a_61 a_62 a_63 a_64 a_65 t_lines t_numbers a_68 a_69 t_parts t_sorts t_values t_items a_74 a_75 t_ways))) (fun K => rfl) ?_
      exact xe_ret
set_option maxHeartbeats 400000 in
theorem xh_rf_from_57_27 {l : Launch} {g : xr_G} (ok : xr_OK xm_P) (a_58 a_59 a_60 a_61 a_62 a_63 a_64 a_65 a_68 a_69 a_74 a_75 : Nat → Int32) (s_57_1 s_57_18 s_57_19 s_57_20 s_57_24 : Int32) (X : Nat → xr_C) (t_items : (Nat → Int32)) (t_lines : (Nat → Int32)) (t_numbers : (Nat → Int32)) (t_parts : (Nat → Int32)) (t_sorts : (Nat → Int32)) (t_values : (Nat → Int32)) (n : Nat) : ∀ (t_thrown : Int32) (t_ways : (Nat → Int64)) (v2 : Int32) (v3 : Int32) (s1 : Int32) (r : (Int32 × Int32 × (Nat → Int64))), xf_rf_from_27 t_items t_lines t_numbers t_parts t_sorts t_values n t_thrown t_ways v2 v3 s1 = some r → xV xm_P l g (77, xm_i77, xm_I77, 0, 0, 27, [(0, .ref 59), (2, .int v2), (3, .int v3)], [.int s1, .ref 59], xw_R X t_thrown s_57_1 s_57_18 s_57_19 s_57_20 s_57_24 a_58 a_59 a_60 a_61 a_62 a_63 a_64 a_65 t_lines t_numbers a_68 a_69 t_parts t_sorts t_values t_items a_74 a_75 t_ways) (.inl (some (.int r.1)), xw_R X r.2.1 s_57_1 s_57_18 s_57_19 s_57_20 s_57_24 a_58 a_59 a_60 a_61 a_62 a_63 a_64 a_65 t_lines t_numbers a_68 a_69 t_parts t_sorts t_values t_items a_74 a_75 r.2.2) := by
  intro t_thrown t_ways v2 v3 s1 r h
  unfold xf_rf_from_27 at h
  refine xe_seg ok 2 (G := (fun K => xr_back K 77 xm_i77 xm_I77 0 0 28 [(0, .ref 59), (2, .int v2), (3, .int v3)] [] 78 true (K (32, xm_i32, xm_I32, 0, 0, 0, [(0, .ref 59), (1, .int s1), (2, .int ((1 : Int32)))], [], xw_R X t_thrown s_57_1 s_57_18 s_57_19 s_57_20 s_57_24 a_58 a_59 a_60 a_61 a_62 a_63 a_64 a_65 t_lines t_numbers a_68 a_69 t_parts t_sorts t_values t_items a_74 a_75 t_ways)))) (fun K => rfl) ?_
  obtain ⟨q1118, hq1118, h⟩ := Option.bind_eq_some_iff.mp h
  have heq1118 := xh_rf_fails_57 (l := l) (g := g) ok a_58 a_59 a_60 a_61 a_62 a_63 a_64 a_65 t_lines t_numbers a_68 a_69 t_parts t_sorts t_values t_items a_74 a_75 t_ways s_57_1 s_57_18 s_57_19 s_57_20 s_57_24 X t_thrown s1 ((1 : Int32)) _ hq1118
  refine xe_call1 (ws' := xw_R X q1118.2 s_57_1 s_57_18 s_57_19 s_57_20 s_57_24 a_58 a_59 a_60 a_61 a_62 a_63 a_64 a_65 t_lines t_numbers a_68 a_69 t_parts t_sorts t_values t_items a_74 a_75 t_ways) (by decide) heq1118 (Or.inl rfl) ?_
  refine xe_seg ok 1 (G := (fun K => if q1118.1 = (0 : Int32) then K (77, xm_i77, xm_I77, 0, 0, 36, [(0, .ref 59), (2, .int v2), (3, .int v3)], [], xw_R X q1118.2 s_57_1 s_57_18 s_57_19 s_57_20 s_57_24 a_58 a_59 a_60 a_61 a_62 a_63 a_64 a_65 t_lines t_numbers a_68 a_69 t_parts t_sorts t_values t_items a_74 a_75 t_ways) else K (77, xm_i77, xm_I77, 0, 0, 34, [(0, .ref 59), (2, .int v2), (3, .int v3)], [], xw_R X q1118.2 s_57_1 s_57_18 s_57_19 s_57_20 s_57_24 a_58 a_59 a_60 a_61 a_62 a_63 a_64 a_65 t_lines t_numbers a_68 a_69 t_parts t_sorts t_values t_items a_74 a_75 t_ways))) (fun K => rfl) ?_
  rcases xb_if h with ⟨hc1119, h⟩ | ⟨hc1119, h⟩
  · refine xe_pos hc1119 (xe_k ?_)
    refine xe_seg ok 2 (G := (fun K => xr_back K 77 xm_i77 xm_I77 0 0 37 [(0, .ref 59), (2, .int v2), (3, .int v3)] [] 78 true (K (68, xm_i68, xm_I68, 0, 0, 0, [(0, .ref 59)], [], xw_R X q1118.2 s_57_1 s_57_18 s_57_19 s_57_20 s_57_24 a_58 a_59 a_60 a_61 a_62 a_63 a_64 a_65 t_lines t_numbers a_68 a_69 t_parts t_sorts t_values t_items a_74 a_75 t_ways)))) (fun K => rfl) ?_
    obtain ⟨q1120, hq1120, h⟩ := Option.bind_eq_some_iff.mp h
    have heq1120 := xh_rf_findWays_57 (l := l) (g := g) ok a_58 a_59 a_60 a_61 a_62 a_63 a_64 a_65 a_68 a_69 a_74 a_75 q1118.2 s_57_1 s_57_18 s_57_19 s_57_20 s_57_24 X t_items t_lines t_numbers t_parts t_sorts t_values n t_ways _ hq1120
    refine xe_call0 (ws' := xw_R X q1118.2 s_57_1 s_57_18 s_57_19 s_57_20 s_57_24 a_58 a_59 a_60 a_61 a_62 a_63 a_64 a_65 t_lines t_numbers a_68 a_69 t_parts t_sorts t_values t_items a_74 a_75 q1120.2) (by decide) heq1120 (Or.inl rfl) ?_
    refine xe_seg ok 4 (G := (fun K => K (77, xm_i77, xm_I77, 0, 0, 46, [(0, .ref 59), (2, .int v2), (3, .int v3), (4, .int v2), (5, .int ((0 : Int32)))], [], xw_R X q1118.2 s_57_1 s_57_18 s_57_19 s_57_20 s_57_24 a_58 a_59 a_60 a_61 a_62 a_63 a_64 a_65 t_lines t_numbers a_68 a_69 t_parts t_sorts t_values t_items a_74 a_75 q1120.2))) (fun K => rfl) ?_
    refine xe_k ?_
    refine xe_sub [true, false, true, true, true] (lv' := [(0, .ref 59), (3, .int v3), (4, .int v2), (5, .int ((0 : Int32)))]) rfl ?_
    have hz := xh_rf_from_57_46 (l := l) (g := g) ok a_58 a_59 a_60 a_61 a_62 a_63 a_64 a_65 a_68 a_69 a_74 a_75 s_57_1 s_57_18 s_57_19 s_57_20 s_57_24 X t_items t_lines t_numbers t_parts t_sorts t_values n n q1118.2 q1120.2 v3 v2 ((0 : Int32)) _ h
    exact hz
  · refine xe_neg hc1119 (xe_k ?_)
    obtain rfl := Option.some.inj h
    refine xe_seg ok 2 (G := (fun _ => some (.inl (some (.int ((0 : Int32)))), xw_R X q1118.2 s_57_1 s_57_18 s_57_19 s_57_20 s_57_24 a_58 a_59 a_60 a_61 a_62 a_63 a_64 a_65 t_lines t_numbers a_68 a_69 t_parts t_sorts t_values t_items a_74 a_75 t_ways))) (fun K => rfl) ?_
    exact xe_ret
set_option maxHeartbeats 400000 in
theorem xh_rf_from_57_22 {l : Launch} {g : xr_G} (ok : xr_OK xm_P) (a_58 a_59 a_60 a_61 a_62 a_63 a_64 a_65 a_68 a_69 a_74 a_75 : Nat → Int32) (s_57_1 s_57_18 s_57_19 s_57_20 s_57_24 : Int32) (X : Nat → xr_C) (t_items : (Nat → Int32)) (t_lines : (Nat → Int32)) (t_numbers : (Nat → Int32)) (t_parts : (Nat → Int32)) (t_sorts : (Nat → Int32)) (t_values : (Nat → Int32)) (n : Nat) : ∀ (t_thrown : Int32) (t_ways : (Nat → Int64)) (v2 : Int32) (v3 : Int32) (r : (Int32 × Int32 × (Nat → Int64))), xf_rf_from_22 t_items t_lines t_numbers t_parts t_sorts t_values n t_thrown t_ways v2 v3 = some r → xV xm_P l g (77, xm_i77, xm_I77, 0, 0, 22, [(0, .ref 59), (2, .int v2), (3, .int v3)], [.ref 59], xw_R X t_thrown s_57_1 s_57_18 s_57_19 s_57_20 s_57_24 a_58 a_59 a_60 a_61 a_62 a_63 a_64 a_65 t_lines t_numbers a_68 a_69 t_parts t_sorts t_values t_items a_74 a_75 t_ways) (.inl (some (.int r.1)), xw_R X r.2.1 s_57_1 s_57_18 s_57_19 s_57_20 s_57_24 a_58 a_59 a_60 a_61 a_62 a_63 a_64 a_65 t_lines t_numbers a_68 a_69 t_parts t_sorts t_values t_items a_74 a_75 r.2.2) := by
  intro t_thrown t_ways v2 v3 r h
  unfold xf_rf_from_22 at h
  refine xe_seg ok 2 (G := (fun K => K (77, xm_i77, xm_I77, 0, 0, 27, [(0, .ref 59), (2, .int v2), (3, .int v3)], [.int ((1 : Int32)), .ref 59], xw_R X t_thrown s_57_1 s_57_18 s_57_19 s_57_20 s_57_24 a_58 a_59 a_60 a_61 a_62 a_63 a_64 a_65 t_lines t_numbers a_68 a_69 t_parts t_sorts t_values t_items a_74 a_75 t_ways))) (fun K => rfl) ?_
  refine xe_k ?_
  refine xe_sub [true, true, true] (lv' := [(0, .ref 59), (2, .int v2), (3, .int v3)]) rfl ?_
  have hz := xh_rf_from_57_27 (l := l) (g := g) ok a_58 a_59 a_60 a_61 a_62 a_63 a_64 a_65 a_68 a_69 a_74 a_75 s_57_1 s_57_18 s_57_19 s_57_20 s_57_24 X t_items t_lines t_numbers t_parts t_sorts t_values n t_thrown t_ways v2 v3 ((1 : Int32)) _ h
  exact hz
set_option maxHeartbeats 400000 in
theorem xh_rf_from_57 {l : Launch} {g : xr_G} (ok : xr_OK xm_P) (a_58 a_59 a_60 a_61 a_62 a_63 a_64 a_65 a_68 a_69 a_74 a_75 : Nat → Int32) (s_57_1 s_57_18 s_57_19 s_57_20 s_57_24 : Int32) (X : Nat → xr_C) (t_items : (Nat → Int32)) (t_lines : (Nat → Int32)) (t_numbers : (Nat → Int32)) (t_parts : (Nat → Int32)) (t_sorts : (Nat → Int32)) (t_values : (Nat → Int32)) (n : Nat) : ∀ (t_thrown : Int32) (t_ways : (Nat → Int64)) (a1 : Int32) (a2 : Int32) (r : (Int32 × Int32 × (Nat → Int64))), xf_rf_from t_items t_lines t_numbers t_parts t_sorts t_values n t_thrown t_ways a1 a2 = some r → xV xm_P l g (77, xm_i77, xm_I77, 0, 0, 0, [(0, .ref 59), (1, .int a1), (2, .int a2)], [], xw_R X t_thrown s_57_1 s_57_18 s_57_19 s_57_20 s_57_24 a_58 a_59 a_60 a_61 a_62 a_63 a_64 a_65 t_lines t_numbers a_68 a_69 t_parts t_sorts t_values t_items a_74 a_75 t_ways) (.inl (some (.int r.1)), xw_R X r.2.1 s_57_1 s_57_18 s_57_19 s_57_20 s_57_24 a_58 a_59 a_60 a_61 a_62 a_63 a_64 a_65 t_lines t_numbers a_68 a_69 t_parts t_sorts t_values t_items a_74 a_75 r.2.2) := by
  intro t_thrown t_ways a1 a2 r h
  unfold xf_rf_from at h
  refine xe_seg ok 7 (G := (fun K => xr_back K 77 xm_i77 xm_I77 0 0 8 [(0, .ref 59), (1, .int a1), (2, .int a2)] [] 78 true (K (50, xm_i50, xm_I50, 0, 0, 0, [(0, .ref 59), (1, .int ((0 : Int32))), (2, .int a1)], [], xw_R X ((0 : Int32)) s_57_1 s_57_18 s_57_19 s_57_20 s_57_24 a_58 a_59 a_60 a_61 a_62 a_63 a_64 a_65 t_lines t_numbers a_68 a_69 t_parts t_sorts t_values t_items a_74 a_75 t_ways)))) (fun K => rfl) ?_
  obtain ⟨q1116, hq1116, h⟩ := Option.bind_eq_some_iff.mp h
  have heq1116 := xh_rf_find_57 (l := l) (g := g) ok a_58 a_59 a_60 a_61 a_62 a_63 a_64 a_65 a_68 a_69 t_parts t_sorts t_values t_items a_74 a_75 t_ways ((0 : Int32)) s_57_1 s_57_18 s_57_19 s_57_20 s_57_24 X t_lines t_numbers n ((0 : Int32)) a1 _ hq1116
  refine xe_call1 (ws' := xw_R X ((0 : Int32)) s_57_1 s_57_18 s_57_19 s_57_20 s_57_24 a_58 a_59 a_60 a_61 a_62 a_63 a_64 a_65 t_lines t_numbers a_68 a_69 t_parts t_sorts t_values t_items a_74 a_75 t_ways) (by decide) heq1116 (Or.inl rfl) ?_
  refine xe_seg ok 5 (G := (fun K => if q1116 = ((-1 : Int32)) then K (77, xm_i77, xm_I77, 0, 0, 22, [(0, .ref 59), (1, .int a1), (2, .int a2), (3, .int q1116)], [.ref 59], xw_R X ((0 : Int32)) s_57_1 s_57_18 s_57_19 s_57_20 s_57_24 a_58 a_59 a_60 a_61 a_62 a_63 a_64 a_65 t_lines t_numbers a_68 a_69 t_parts t_sorts t_values t_items a_74 a_75 t_ways) else K (77, xm_i77, xm_I77, 0, 0, 18, [(0, .ref 59), (1, .int a1), (2, .int a2), (3, .int q1116)], [.ref 59], xw_R X ((0 : Int32)) s_57_1 s_57_18 s_57_19 s_57_20 s_57_24 a_58 a_59 a_60 a_61 a_62 a_63 a_64 a_65 t_lines t_numbers a_68 a_69 t_parts t_sorts t_values t_items a_74 a_75 t_ways))) (fun K => rfl) ?_
  rcases xb_if h with ⟨hc1117, h⟩ | ⟨hc1117, h⟩
  · refine xe_pos hc1117 (xe_k ?_)
    refine xe_sub [true, false, true, true] (lv' := [(0, .ref 59), (2, .int a2), (3, .int q1116)]) rfl ?_
    have hz := xh_rf_from_57_22 (l := l) (g := g) ok a_58 a_59 a_60 a_61 a_62 a_63 a_64 a_65 a_68 a_69 a_74 a_75 s_57_1 s_57_18 s_57_19 s_57_20 s_57_24 X t_items t_lines t_numbers t_parts t_sorts t_values n ((0 : Int32)) t_ways a2 q1116 _ h
    exact hz
  · refine xe_neg hc1117 (xe_k ?_)
    refine xe_seg ok 2 (G := (fun K => if a2 < (0 : Int32) then K (77, xm_i77, xm_I77, 0, 0, 22, [(0, .ref 59), (1, .int a1), (2, .int a2), (3, .int q1116)], [.ref 59], xw_R X ((0 : Int32)) s_57_1 s_57_18 s_57_19 s_57_20 s_57_24 a_58 a_59 a_60 a_61 a_62 a_63 a_64 a_65 t_lines t_numbers a_68 a_69 t_parts t_sorts t_values t_items a_74 a_75 t_ways) else K (77, xm_i77, xm_I77, 0, 0, 26, [(0, .ref 59), (1, .int a1), (2, .int a2), (3, .int q1116)], [.ref 59], xw_R X ((0 : Int32)) s_57_1 s_57_18 s_57_19 s_57_20 s_57_24 a_58 a_59 a_60 a_61 a_62 a_63 a_64 a_65 t_lines t_numbers a_68 a_69 t_parts t_sorts t_values t_items a_74 a_75 t_ways))) (fun K => rfl) ?_
    rcases xb_if h with ⟨hc1126, h⟩ | ⟨hc1126, h⟩
    · refine xe_pos hc1126 (xe_k ?_)
      refine xe_sub [true, false, true, true] (lv' := [(0, .ref 59), (2, .int a2), (3, .int q1116)]) rfl ?_
      have hz := xh_rf_from_57_22 (l := l) (g := g) ok a_58 a_59 a_60 a_61 a_62 a_63 a_64 a_65 a_68 a_69 a_74 a_75 s_57_1 s_57_18 s_57_19 s_57_20 s_57_24 X t_items t_lines t_numbers t_parts t_sorts t_values n ((0 : Int32)) t_ways a2 q1116 _ h
      exact hz
    · refine xe_neg hc1126 (xe_k ?_)
      refine xe_seg ok 1 (G := (fun K => K (77, xm_i77, xm_I77, 0, 0, 27, [(0, .ref 59), (1, .int a1), (2, .int a2), (3, .int q1116)], [.int ((0 : Int32)), .ref 59], xw_R X ((0 : Int32)) s_57_1 s_57_18 s_57_19 s_57_20 s_57_24 a_58 a_59 a_60 a_61 a_62 a_63 a_64 a_65 t_lines t_numbers a_68 a_69 t_parts t_sorts t_values t_items a_74 a_75 t_ways))) (fun K => rfl) ?_
      refine xe_k ?_
      refine xe_sub [true, false, true, true] (lv' := [(0, .ref 59), (2, .int a2), (3, .int q1116)]) rfl ?_
      have hz := xh_rf_from_57_27 (l := l) (g := g) ok a_58 a_59 a_60 a_61 a_62 a_63 a_64 a_65 a_68 a_69 a_74 a_75 s_57_1 s_57_18 s_57_19 s_57_20 s_57_24 X t_items t_lines t_numbers t_parts t_sorts t_values n ((0 : Int32)) t_ways a2 q1116 ((0 : Int32)) _ h
      exact hz
set_option maxHeartbeats 400000 in
theorem xh_rf_isOnRing_57_79 {l : Launch} {g : xr_G} (ok : xr_OK xm_P) (a_58 a_59 a_60 a_61 a_62 a_63 a_64 a_65 a_67 a_68 a_69 a_70 a_71 a_72 a_73 a_74 a_75 : Nat → Int32) (s_57_0 s_57_1 s_57_18 s_57_19 s_57_20 s_57_24 : Int32) (X : Nat → xr_C) (t_lines : (Nat → Int32)) (t_ways : (Nat → Int64)) (n : Nat) : ∀ (s0 : Int32) (r : (Int32)), xf_rf_isOnRing_79 t_lines t_ways n s0 = some r → xV xm_P l g (78, xm_i78, xm_I78, 0, 0, 79, [], [.int s0], xw_R X s_57_0 s_57_1 s_57_18 s_57_19 s_57_20 s_57_24 a_58 a_59 a_60 a_61 a_62 a_63 a_64 a_65 t_lines a_67 a_68 a_69 a_70 a_71 a_72 a_73 a_74 a_75 t_ways) (.inl (some (.int r)), xw_R X s_57_0 s_57_1 s_57_18 s_57_19 s_57_20 s_57_24 a_58 a_59 a_60 a_61 a_62 a_63 a_64 a_65 t_lines a_67 a_68 a_69 a_70 a_71 a_72 a_73 a_74 a_75 t_ways) := by
  intro s0 r h
  unfold xf_rf_isOnRing_79 at h
  refine xe_seg ok 1 (G := (fun _ => if fits .boolean (.int s0) = true then some (.inl (some (.int s0)), xw_R X s_57_0 s_57_1 s_57_18 s_57_19 s_57_20 s_57_24 a_58 a_59 a_60 a_61 a_62 a_63 a_64 a_65 t_lines a_67 a_68 a_69 a_70 a_71 a_72 a_73 a_74 a_75 t_ways) else none)) (fun K => rfl) ?_
  obtain ⟨hg1137, h⟩ := xn_if h
  obtain rfl := Option.some.inj h
  exact xe_pos (A := fun _ => some (.inl (some (.int s0)), xw_R X s_57_0 s_57_1 s_57_18 s_57_19 s_57_20 s_57_24 a_58 a_59 a_60 a_61 a_62 a_63 a_64 a_65 t_lines a_67 a_68 a_69 a_70 a_71 a_72 a_73 a_74 a_75 t_ways)) (B := fun _ => none) hg1137 xe_ret
set_option maxHeartbeats 400000 in
theorem xh_rf_isOnRing_57_55 {l : Launch} {g : xr_G} (ok : xr_OK xm_P) (a_58 a_59 a_60 a_61 a_62 a_63 a_64 a_65 a_67 a_68 a_69 a_70 a_71 a_72 a_73 a_74 a_75 : Nat → Int32) (s_57_0 s_57_1 s_57_18 s_57_19 s_57_20 s_57_24 : Int32) (X : Nat → xr_C) (t_lines : (Nat → Int32)) (t_ways : (Nat → Int64)) {k10 : Int32 → Int64 → Int64 → Option (Int32)} (hk10 : ∀ (v1 : Int32) (v2 : Int64) (v4 : Int64) (r : (Int32)), k10 v1 v2 v4 = some r → xV xm_P l g (78, xm_i78, xm_I78, 0, 0, 10, [(0, .ref 59), (1, .int v1), (2, .long v2), (4, .long v4)], [], xw_R X s_57_0 s_57_1 s_57_18 s_57_19 s_57_20 s_57_24 a_58 a_59 a_60 a_61 a_62 a_63 a_64 a_65 t_lines a_67 a_68 a_69 a_70 a_71 a_72 a_73 a_74 a_75 t_ways) (.inl (some (.int r)), xw_R X s_57_0 s_57_1 s_57_18 s_57_19 s_57_20 s_57_24 a_58 a_59 a_60 a_61 a_62 a_63 a_64 a_65 t_lines a_67 a_68 a_69 a_70 a_71 a_72 a_73 a_74 a_75 t_ways)) {k23 : Int32 → Int64 → Int64 → Int32 → Option (Int32)} (hk23 : ∀ (v1 : Int32) (v2 : Int64) (v4 : Int64) (v6 : Int32) (r : (Int32)), k23 v1 v2 v4 v6 = some r → xV xm_P l g (78, xm_i78, xm_I78, 0, 0, 23, [(0, .ref 59), (1, .int v1), (2, .long v2), (4, .long v4), (6, .int v6)], [], xw_R X s_57_0 s_57_1 s_57_18 s_57_19 s_57_20 s_57_24 a_58 a_59 a_60 a_61 a_62 a_63 a_64 a_65 t_lines a_67 a_68 a_69 a_70 a_71 a_72 a_73 a_74 a_75 t_ways) (.inl (some (.int r)), xw_R X s_57_0 s_57_1 s_57_18 s_57_19 s_57_20 s_57_24 a_58 a_59 a_60 a_61 a_62 a_63 a_64 a_65 t_lines a_67 a_68 a_69 a_70 a_71 a_72 a_73 a_74 a_75 t_ways)) (n : Nat) : ∀ (v1 : Int32) (v2 : Int64) (v4 : Int64) (v6 : Int32) (r : (Int32)), xf_rf_isOnRing_55 t_lines t_ways k10 k23 n v1 v2 v4 v6 = some r → xV xm_P l g (78, xm_i78, xm_I78, 0, 0, 55, [(0, .ref 59), (1, .int v1), (2, .long v2), (4, .long v4), (6, .int v6)], [], xw_R X s_57_0 s_57_1 s_57_18 s_57_19 s_57_20 s_57_24 a_58 a_59 a_60 a_61 a_62 a_63 a_64 a_65 t_lines a_67 a_68 a_69 a_70 a_71 a_72 a_73 a_74 a_75 t_ways) (.inl (some (.int r)), xw_R X s_57_0 s_57_1 s_57_18 s_57_19 s_57_20 s_57_24 a_58 a_59 a_60 a_61 a_62 a_63 a_64 a_65 t_lines a_67 a_68 a_69 a_70 a_71 a_72 a_73 a_74 a_75 t_ways) := by
  intro v1 v2 v4 v6 r h
  unfold xf_rf_isOnRing_55 at h
  refine xe_seg ok 2 (G := (fun K => K (78, xm_i78, xm_I78, 0, 0, 23, [(0, .ref 59), (1, .int v1), (2, .long v2), (4, .long v4), (6, .int (v6 + (1 : Int32)))], [], xw_R X s_57_0 s_57_1 s_57_18 s_57_19 s_57_20 s_57_24 a_58 a_59 a_60 a_61 a_62 a_63 a_64 a_65 t_lines a_67 a_68 a_69 a_70 a_71 a_72 a_73 a_74 a_75 t_ways))) (fun K => rfl) ?_
  refine xe_k ?_
  refine xe_sub [true, true, true, true, true] (lv' := [(0, .ref 59), (1, .int v1), (2, .long v2), (4, .long v4), (6, .int (v6 + (1 : Int32)))]) rfl ?_
  have hz := hk23 v1 v2 v4 (v6 + (1 : Int32)) _ h
  exact hz
set_option maxHeartbeats 400000 in
theorem xh_rf_isOnRing_57_23 {l : Launch} {g : xr_G} (ok : xr_OK xm_P) (a_58 a_59 a_60 a_61 a_62 a_63 a_64 a_65 a_67 a_68 a_69 a_70 a_71 a_72 a_73 a_74 a_75 : Nat → Int32) (s_57_0 s_57_1 s_57_18 s_57_19 s_57_20 s_57_24 : Int32) (X : Nat → xr_C) (t_lines : (Nat → Int32)) (t_ways : (Nat → Int64)) {k10 : Int32 → Int64 → Int64 → Option (Int32)} (hk10 : ∀ (v1 : Int32) (v2 : Int64) (v4 : Int64) (r : (Int32)), k10 v1 v2 v4 = some r → xV xm_P l g (78, xm_i78, xm_I78, 0, 0, 10, [(0, .ref 59), (1, .int v1), (2, .long v2), (4, .long v4)], [], xw_R X s_57_0 s_57_1 s_57_18 s_57_19 s_57_20 s_57_24 a_58 a_59 a_60 a_61 a_62 a_63 a_64 a_65 t_lines a_67 a_68 a_69 a_70 a_71 a_72 a_73 a_74 a_75 t_ways) (.inl (some (.int r)), xw_R X s_57_0 s_57_1 s_57_18 s_57_19 s_57_20 s_57_24 a_58 a_59 a_60 a_61 a_62 a_63 a_64 a_65 t_lines a_67 a_68 a_69 a_70 a_71 a_72 a_73 a_74 a_75 t_ways)) (n : Nat) : ∀ (N : Nat) (v1 : Int32) (v2 : Int64) (v4 : Int64) (v6 : Int32) (r : (Int32)), xf_rf_isOnRing_23 t_lines t_ways k10 n N v1 v2 v4 v6 = some r → xV xm_P l g (78, xm_i78, xm_I78, 0, 0, 23, [(0, .ref 59), (1, .int v1), (2, .long v2), (4, .long v4), (6, .int v6)], [], xw_R X s_57_0 s_57_1 s_57_18 s_57_19 s_57_20 s_57_24 a_58 a_59 a_60 a_61 a_62 a_63 a_64 a_65 t_lines a_67 a_68 a_69 a_70 a_71 a_72 a_73 a_74 a_75 t_ways) (.inl (some (.int r)), xw_R X s_57_0 s_57_1 s_57_18 s_57_19 s_57_20 s_57_24 a_58 a_59 a_60 a_61 a_62 a_63 a_64 a_65 t_lines a_67 a_68 a_69 a_70 a_71 a_72 a_73 a_74 a_75 t_ways) := by
  intro N
  induction N with
  | zero => intro v1 v2 v4 v6 r h; cases h
  | succ N hk23 =>
    intro v1 v2 v4 v6 r h
    refine xe_seg ok 5 (G := (fun K => if xr_in ((0 : Int32)) 3 = true then K (78, xm_i78, xm_I78, 0, 0, 31, [(0, .ref 59), (1, .int v1), (2, .long v2), (4, .long v4), (6, .int v6)], [.int (t_lines ((0 : Int32)).toNatClampNeg), .int v6], xw_R X s_57_0 s_57_1 s_57_18 s_57_19 s_57_20 s_57_24 a_58 a_59 a_60 a_61 a_62 a_63 a_64 a_65 t_lines a_67 a_68 a_69 a_70 a_71 a_72 a_73 a_74 a_75 t_ways) else none)) (fun K => rfl) ?_
    refine xe_pos (by decide) (xe_k ?_)
    refine xe_seg ok 1 (G := (fun K => if v6 < (t_lines ((0 : Int32)).toNatClampNeg) then K (78, xm_i78, xm_I78, 0, 0, 34, [(0, .ref 59), (1, .int v1), (2, .long v2), (4, .long v4), (6, .int v6)], [], xw_R X s_57_0 s_57_1 s_57_18 s_57_19 s_57_20 s_57_24 a_58 a_59 a_60 a_61 a_62 a_63 a_64 a_65 t_lines a_67 a_68 a_69 a_70 a_71 a_72 a_73 a_74 a_75 t_ways) else K (78, xm_i78, xm_I78, 0, 0, 61, [(0, .ref 59), (1, .int v1), (2, .long v2), (4, .long v4), (6, .int v6)], [], xw_R X s_57_0 s_57_1 s_57_18 s_57_19 s_57_20 s_57_24 a_58 a_59 a_60 a_61 a_62 a_63 a_64 a_65 t_lines a_67 a_68 a_69 a_70 a_71 a_72 a_73 a_74 a_75 t_ways))) (fun K => rfl) ?_
    rcases xb_if h with ⟨hc1138, h⟩ | ⟨hc1138, h⟩
    · refine xe_pos hc1138 (xe_k ?_)
      refine xe_seg ok 8 (G := (fun K => if (lg_cmp ((xe_shr v2 v6) &&& ((1 : Int64))) ((1 : Int64))) = (0 : Int32) then K (78, xm_i78, xm_I78, 0, 0, 45, [(0, .ref 59), (1, .int v1), (2, .long v2), (4, .long v4), (6, .int v6)], [], xw_R X s_57_0 s_57_1 s_57_18 s_57_19 s_57_20 s_57_24 a_58 a_59 a_60 a_61 a_62 a_63 a_64 a_65 t_lines a_67 a_68 a_69 a_70 a_71 a_72 a_73 a_74 a_75 t_ways) else K (78, xm_i78, xm_I78, 0, 0, 55, [(0, .ref 59), (1, .int v1), (2, .long v2), (4, .long v4), (6, .int v6)], [], xw_R X s_57_0 s_57_1 s_57_18 s_57_19 s_57_20 s_57_24 a_58 a_59 a_60 a_61 a_62 a_63 a_64 a_65 t_lines a_67 a_68 a_69 a_70 a_71 a_72 a_73 a_74 a_75 t_ways))) (fun K => rfl) ?_
      rcases xb_if h with ⟨hc1139, h⟩ | ⟨hc1139, h⟩
      · refine xe_pos hc1139 (xe_k ?_)
        refine xe_seg ok 5 (G := (fun K => if xr_in v6 40 = true then K (78, xm_i78, xm_I78, 0, 0, 53, [(0, .ref 59), (1, .int v1), (2, .long v2), (4, .long v4), (6, .int v6)], [.long (t_ways v6.toNatClampNeg), .long v2], xw_R X s_57_0 s_57_1 s_57_18 s_57_19 s_57_20 s_57_24 a_58 a_59 a_60 a_61 a_62 a_63 a_64 a_65 t_lines a_67 a_68 a_69 a_70 a_71 a_72 a_73 a_74 a_75 t_ways) else none)) (fun K => rfl) ?_
        obtain ⟨hg1140, h⟩ := xn_if h
        refine xe_pos hg1140 (xe_k ?_)
        refine xe_seg ok 2 (G := (fun K => K (78, xm_i78, xm_I78, 0, 0, 55, [(0, .ref 59), (1, .int v1), (2, .long (v2 ||| (t_ways v6.toNatClampNeg))), (4, .long v4), (6, .int v6)], [], xw_R X s_57_0 s_57_1 s_57_18 s_57_19 s_57_20 s_57_24 a_58 a_59 a_60 a_61 a_62 a_63 a_64 a_65 t_lines a_67 a_68 a_69 a_70 a_71 a_72 a_73 a_74 a_75 t_ways))) (fun K => rfl) ?_
        refine xe_k ?_
        refine xe_sub [true, true, true, true, true] (lv' := [(0, .ref 59), (1, .int v1), (2, .long (v2 ||| (t_ways v6.toNatClampNeg))), (4, .long v4), (6, .int v6)]) rfl ?_
        have hz := xh_rf_isOnRing_57_55 (l := l) (g := g) ok a_58 a_59 a_60 a_61 a_62 a_63 a_64 a_65 a_67 a_68 a_69 a_70 a_71 a_72 a_73 a_74 a_75 s_57_0 s_57_1 s_57_18 s_57_19 s_57_20 s_57_24 X t_lines t_ways hk10 hk23 n v1 (v2 ||| (t_ways v6.toNatClampNeg)) v4 v6 _ h
        exact hz
      · refine xe_neg hc1139 (xe_k ?_)
        refine xe_sub [true, true, true, true, true] (lv' := [(0, .ref 59), (1, .int v1), (2, .long v2), (4, .long v4), (6, .int v6)]) rfl ?_
        have hz := xh_rf_isOnRing_57_55 (l := l) (g := g) ok a_58 a_59 a_60 a_61 a_62 a_63 a_64 a_65 a_67 a_68 a_69 a_70 a_71 a_72 a_73 a_74 a_75 s_57_0 s_57_1 s_57_18 s_57_19 s_57_20 s_57_24 X t_lines t_ways hk10 hk23 n v1 v2 v4 v6 _ h
        exact hz
    · refine xe_neg hc1138 (xe_k ?_)
      refine xe_seg ok 1 (G := (fun K => K (78, xm_i78, xm_I78, 0, 0, 10, [(0, .ref 59), (1, .int v1), (2, .long v2), (4, .long v4), (6, .int v6)], [], xw_R X s_57_0 s_57_1 s_57_18 s_57_19 s_57_20 s_57_24 a_58 a_59 a_60 a_61 a_62 a_63 a_64 a_65 t_lines a_67 a_68 a_69 a_70 a_71 a_72 a_73 a_74 a_75 t_ways))) (fun K => rfl) ?_
      refine xe_k ?_
      refine xe_sub [true, true, true, true, false] (lv' := [(0, .ref 59), (1, .int v1), (2, .long v2), (4, .long v4)]) rfl ?_
      have hz := hk10 v1 v2 v4 _ h
      exact hz
set_option maxHeartbeats 400000 in
theorem xh_rf_isOnRing_57_10 {l : Launch} {g : xr_G} (ok : xr_OK xm_P) (a_58 a_59 a_60 a_61 a_62 a_63 a_64 a_65 a_67 a_68 a_69 a_70 a_71 a_72 a_73 a_74 a_75 : Nat → Int32) (s_57_0 s_57_1 s_57_18 s_57_19 s_57_20 s_57_24 : Int32) (X : Nat → xr_C) (t_lines : (Nat → Int32)) (t_ways : (Nat → Int64)) (n : Nat) : ∀ (N : Nat) (v1 : Int32) (v2 : Int64) (v4 : Int64) (r : (Int32)), xf_rf_isOnRing_10 t_lines t_ways n N v1 v2 v4 = some r → xV xm_P l g (78, xm_i78, xm_I78, 0, 0, 10, [(0, .ref 59), (1, .int v1), (2, .long v2), (4, .long v4)], [], xw_R X s_57_0 s_57_1 s_57_18 s_57_19 s_57_20 s_57_24 a_58 a_59 a_60 a_61 a_62 a_63 a_64 a_65 t_lines a_67 a_68 a_69 a_70 a_71 a_72 a_73 a_74 a_75 t_ways) (.inl (some (.int r)), xw_R X s_57_0 s_57_1 s_57_18 s_57_19 s_57_20 s_57_24 a_58 a_59 a_60 a_61 a_62 a_63 a_64 a_65 t_lines a_67 a_68 a_69 a_70 a_71 a_72 a_73 a_74 a_75 t_ways) := by
  intro N
  induction N with
  | zero => intro v1 v2 v4 r h; cases h
  | succ N hk10 =>
    intro v1 v2 v4 r h
    refine xe_seg ok 4 (G := (fun K => if (lg_cmp v2 v4) = (0 : Int32) then K (78, xm_i78, xm_I78, 0, 0, 64, [(0, .ref 59), (1, .int v1), (2, .long v2), (4, .long v4)], [], xw_R X s_57_0 s_57_1 s_57_18 s_57_19 s_57_20 s_57_24 a_58 a_59 a_60 a_61 a_62 a_63 a_64 a_65 t_lines a_67 a_68 a_69 a_70 a_71 a_72 a_73 a_74 a_75 t_ways) else K (78, xm_i78, xm_I78, 0, 0, 17, [(0, .ref 59), (1, .int v1), (2, .long v2), (4, .long v4)], [], xw_R X s_57_0 s_57_1 s_57_18 s_57_19 s_57_20 s_57_24 a_58 a_59 a_60 a_61 a_62 a_63 a_64 a_65 t_lines a_67 a_68 a_69 a_70 a_71 a_72 a_73 a_74 a_75 t_ways))) (fun K => rfl) ?_
    rcases xb_if h with ⟨hc1135, h⟩ | ⟨hc1135, h⟩
    · refine xe_pos hc1135 (xe_k ?_)
      refine xe_seg ok 8 (G := (fun K => if (lg_cmp ((xe_shr v2 v1) &&& ((1 : Int64))) ((1 : Int64))) = (0 : Int32) then K (78, xm_i78, xm_I78, 0, 0, 74, [(0, .ref 59), (1, .int v1), (2, .long v2), (4, .long v4)], [], xw_R X s_57_0 s_57_1 s_57_18 s_57_19 s_57_20 s_57_24 a_58 a_59 a_60 a_61 a_62 a_63 a_64 a_65 t_lines a_67 a_68 a_69 a_70 a_71 a_72 a_73 a_74 a_75 t_ways) else K (78, xm_i78, xm_I78, 0, 0, 78, [(0, .ref 59), (1, .int v1), (2, .long v2), (4, .long v4)], [], xw_R X s_57_0 s_57_1 s_57_18 s_57_19 s_57_20 s_57_24 a_58 a_59 a_60 a_61 a_62 a_63 a_64 a_65 t_lines a_67 a_68 a_69 a_70 a_71 a_72 a_73 a_74 a_75 t_ways))) (fun K => rfl) ?_
      rcases xb_if h with ⟨hc1136, h⟩ | ⟨hc1136, h⟩
      · refine xe_pos hc1136 (xe_k ?_)
        refine xe_seg ok 2 (G := (fun K => K (78, xm_i78, xm_I78, 0, 0, 79, [(0, .ref 59), (1, .int v1), (2, .long v2), (4, .long v4)], [.int ((1 : Int32))], xw_R X s_57_0 s_57_1 s_57_18 s_57_19 s_57_20 s_57_24 a_58 a_59 a_60 a_61 a_62 a_63 a_64 a_65 t_lines a_67 a_68 a_69 a_70 a_71 a_72 a_73 a_74 a_75 t_ways))) (fun K => rfl) ?_
        refine xe_k ?_
        refine xe_sub [false, false, false, false] (lv' := []) rfl ?_
        have hz := xh_rf_isOnRing_57_79 (l := l) (g := g) ok a_58 a_59 a_60 a_61 a_62 a_63 a_64 a_65 a_67 a_68 a_69 a_70 a_71 a_72 a_73 a_74 a_75 s_57_0 s_57_1 s_57_18 s_57_19 s_57_20 s_57_24 X t_lines t_ways n ((1 : Int32)) _ h
        exact hz
      · refine xe_neg hc1136 (xe_k ?_)
        refine xe_seg ok 1 (G := (fun K => K (78, xm_i78, xm_I78, 0, 0, 79, [(0, .ref 59), (1, .int v1), (2, .long v2), (4, .long v4)], [.int ((0 : Int32))], xw_R X s_57_0 s_57_1 s_57_18 s_57_19 s_57_20 s_57_24 a_58 a_59 a_60 a_61 a_62 a_63 a_64 a_65 t_lines a_67 a_68 a_69 a_70 a_71 a_72 a_73 a_74 a_75 t_ways))) (fun K => rfl) ?_
        refine xe_k ?_
        refine xe_sub [false, false, false, false] (lv' := []) rfl ?_
        have hz := xh_rf_isOnRing_57_79 (l := l) (g := g) ok a_58 a_59 a_60 a_61 a_62 a_63 a_64 a_65 a_67 a_68 a_69 a_70 a_71 a_72 a_73 a_74 a_75 s_57_0 s_57_1 s_57_18 s_57_19 s_57_20 s_57_24 X t_lines t_ways n ((0 : Int32)) _ h
        exact hz
    · refine xe_neg hc1135 (xe_k ?_)
      refine xe_seg ok 4 (G := (fun K => K (78, xm_i78, xm_I78, 0, 0, 23, [(0, .ref 59), (1, .int v1), (2, .long v2), (4, .long v2), (6, .int ((0 : Int32)))], [], xw_R X s_57_0 s_57_1 s_57_18 s_57_19 s_57_20 s_57_24 a_58 a_59 a_60 a_61 a_62 a_63 a_64 a_65 t_lines a_67 a_68 a_69 a_70 a_71 a_72 a_73 a_74 a_75 t_ways))) (fun K => rfl) ?_
      refine xe_k ?_
      refine xe_sub [true, true, true, true, true] (lv' := [(0, .ref 59), (1, .int v1), (2, .long v2), (4, .long v2), (6, .int ((0 : Int32)))]) rfl ?_
      have hz := xh_rf_isOnRing_57_23 (l := l) (g := g) ok a_58 a_59 a_60 a_61 a_62 a_63 a_64 a_65 a_67 a_68 a_69 a_70 a_71 a_72 a_73 a_74 a_75 s_57_0 s_57_1 s_57_18 s_57_19 s_57_20 s_57_24 X t_lines t_ways hk10 n n v1 v2 v2 ((0 : Int32)) _ h
      exact hz
set_option maxHeartbeats 400000 in
theorem xh_rf_isOnRing_57 {l : Launch} {g : xr_G} (ok : xr_OK xm_P) (a_58 a_59 a_60 a_61 a_62 a_63 a_64 a_65 a_67 a_68 a_69 a_70 a_71 a_72 a_73 a_74 a_75 : Nat → Int32) (s_57_0 s_57_1 s_57_18 s_57_19 s_57_20 s_57_24 : Int32) (X : Nat → xr_C) (t_lines : (Nat → Int32)) (t_ways : (Nat → Int64)) (n : Nat) : ∀ (a1 : Int32) (r : (Int32)), xf_rf_isOnRing t_lines t_ways n a1 = some r → xV xm_P l g (78, xm_i78, xm_I78, 0, 0, 0, [(0, .ref 59), (1, .int a1)], [], xw_R X s_57_0 s_57_1 s_57_18 s_57_19 s_57_20 s_57_24 a_58 a_59 a_60 a_61 a_62 a_63 a_64 a_65 t_lines a_67 a_68 a_69 a_70 a_71 a_72 a_73 a_74 a_75 t_ways) (.inl (some (.int r)), xw_R X s_57_0 s_57_1 s_57_18 s_57_19 s_57_20 s_57_24 a_58 a_59 a_60 a_61 a_62 a_63 a_64 a_65 t_lines a_67 a_68 a_69 a_70 a_71 a_72 a_73 a_74 a_75 t_ways) := by
  intro a1 r h
  unfold xf_rf_isOnRing at h
  refine xe_seg ok 4 (G := (fun K => if xr_in a1 40 = true then K (78, xm_i78, xm_I78, 0, 0, 6, [(0, .ref 59), (1, .int a1)], [.long (t_ways a1.toNatClampNeg)], xw_R X s_57_0 s_57_1 s_57_18 s_57_19 s_57_20 s_57_24 a_58 a_59 a_60 a_61 a_62 a_63 a_64 a_65 t_lines a_67 a_68 a_69 a_70 a_71 a_72 a_73 a_74 a_75 t_ways) else none)) (fun K => rfl) ?_
  obtain ⟨hg1134, h⟩ := xn_if h
  refine xe_pos hg1134 (xe_k ?_)
  refine xe_seg ok 3 (G := (fun K => K (78, xm_i78, xm_I78, 0, 0, 10, [(0, .ref 59), (1, .int a1), (2, .long (t_ways a1.toNatClampNeg)), (4, .long ((0 : Int64)))], [], xw_R X s_57_0 s_57_1 s_57_18 s_57_19 s_57_20 s_57_24 a_58 a_59 a_60 a_61 a_62 a_63 a_64 a_65 t_lines a_67 a_68 a_69 a_70 a_71 a_72 a_73 a_74 a_75 t_ways))) (fun K => rfl) ?_
  refine xe_k ?_
  refine xe_sub [true, true, true, true] (lv' := [(0, .ref 59), (1, .int a1), (2, .long (t_ways a1.toNatClampNeg)), (4, .long ((0 : Int64)))]) rfl ?_
  have hz := xh_rf_isOnRing_57_10 (l := l) (g := g) ok a_58 a_59 a_60 a_61 a_62 a_63 a_64 a_65 a_67 a_68 a_69 a_70 a_71 a_72 a_73 a_74 a_75 s_57_0 s_57_1 s_57_18 s_57_19 s_57_20 s_57_24 X t_lines t_ways n n a1 (t_ways a1.toNatClampNeg) ((0 : Int64)) _ h
  exact hz
set_option maxHeartbeats 400000 in
theorem xh_rf_ring_57_77 {l : Launch} {g : xr_G} (ok : xr_OK xm_P) (a_58 a_59 a_60 a_61 a_62 a_63 a_64 a_65 a_68 a_69 a_75 : Nat → Int32) (s_57_1 s_57_18 s_57_19 s_57_20 s_57_24 : Int32) (X : Nat → xr_C) (t_items : (Nat → Int32)) (t_lines : (Nat → Int32)) (t_numbers : (Nat → Int32)) (t_parts : (Nat → Int32)) (t_sorts : (Nat → Int32)) (t_values : (Nat → Int32)) {k32 : (Nat → Int32) → Int32 → (Nat → Int64) → Int32 → Int32 → Option (Int32 × (Nat → Int32) × Int32 × (Nat → Int64))} (hk32 : ∀ (t_depths : (Nat → Int32)) (t_thrown : Int32) (t_ways : (Nat → Int64)) (v2 : Int32) (v3 : Int32) (r : (Int32 × (Nat → Int32) × Int32 × (Nat → Int64))), k32 t_depths t_thrown t_ways v2 v3 = some r → xV xm_P l g (79, xm_i79, xm_I79, 0, 0, 32, [(0, .ref 59), (2, .int v2), (3, .int v3)], [], xw_R X t_thrown s_57_1 s_57_18 s_57_19 s_57_20 s_57_24 a_58 a_59 a_60 a_61 a_62 a_63 a_64 a_65 t_lines t_numbers a_68 a_69 t_parts t_sorts t_values t_items t_depths a_75 t_ways) (.inl (some (.int r.1)), xw_R X r.2.2.1 s_57_1 s_57_18 s_57_19 s_57_20 s_57_24 a_58 a_59 a_60 a_61 a_62 a_63 a_64 a_65 t_lines t_numbers a_68 a_69 t_parts t_sorts t_values t_items r.2.1 a_75 r.2.2.2)) (n : Nat) : ∀ (t_depths : (Nat → Int32)) (t_thrown : Int32) (t_ways : (Nat → Int64)) (v2 : Int32) (v3 : Int32) (r : (Int32 × (Nat → Int32) × Int32 × (Nat → Int64))), xf_rf_ring_77 t_items t_lines t_numbers t_parts t_sorts t_values k32 n t_depths t_thrown t_ways v2 v3 = some r → xV xm_P l g (79, xm_i79, xm_I79, 0, 0, 77, [(0, .ref 59), (2, .int v2), (3, .int v3)], [], xw_R X t_thrown s_57_1 s_57_18 s_57_19 s_57_20 s_57_24 a_58 a_59 a_60 a_61 a_62 a_63 a_64 a_65 t_lines t_numbers a_68 a_69 t_parts t_sorts t_values t_items t_depths a_75 t_ways) (.inl (some (.int r.1)), xw_R X r.2.2.1 s_57_1 s_57_18 s_57_19 s_57_20 s_57_24 a_58 a_59 a_60 a_61 a_62 a_63 a_64 a_65 t_lines t_numbers a_68 a_69 t_parts t_sorts t_values t_items r.2.1 a_75 r.2.2.2) := by
  intro t_depths t_thrown t_ways v2 v3 r h
  unfold xf_rf_ring_77 at h
  refine xe_seg ok 2 (G := (fun K => K (79, xm_i79, xm_I79, 0, 0, 32, [(0, .ref 59), (2, .int v2), (3, .int (v3 + (1 : Int32)))], [], xw_R X t_thrown s_57_1 s_57_18 s_57_19 s_57_20 s_57_24 a_58 a_59 a_60 a_61 a_62 a_63 a_64 a_65 t_lines t_numbers a_68 a_69 t_parts t_sorts t_values t_items t_depths a_75 t_ways))) (fun K => rfl) ?_
  refine xe_k ?_
  refine xe_sub [true, true, true] (lv' := [(0, .ref 59), (2, .int v2), (3, .int (v3 + (1 : Int32)))]) rfl ?_
  have hz := hk32 t_depths t_thrown t_ways v2 (v3 + (1 : Int32)) _ h
  exact hz
set_option maxHeartbeats 400000 in
theorem xh_rf_ring_57_32 {l : Launch} {g : xr_G} (ok : xr_OK xm_P) (a_58 a_59 a_60 a_61 a_62 a_63 a_64 a_65 a_68 a_69 a_75 : Nat → Int32) (s_57_1 s_57_18 s_57_19 s_57_20 s_57_24 : Int32) (X : Nat → xr_C) (t_items : (Nat → Int32)) (t_lines : (Nat → Int32)) (t_numbers : (Nat → Int32)) (t_parts : (Nat → Int32)) (t_sorts : (Nat → Int32)) (t_values : (Nat → Int32)) (n : Nat) : ∀ (N : Nat) (t_depths : (Nat → Int32)) (t_thrown : Int32) (t_ways : (Nat → Int64)) (v2 : Int32) (v3 : Int32) (r : (Int32 × (Nat → Int32) × Int32 × (Nat → Int64))), xf_rf_ring_32 t_items t_lines t_numbers t_parts t_sorts t_values n N t_depths t_thrown t_ways v2 v3 = some r → xV xm_P l g (79, xm_i79, xm_I79, 0, 0, 32, [(0, .ref 59), (2, .int v2), (3, .int v3)], [], xw_R X t_thrown s_57_1 s_57_18 s_57_19 s_57_20 s_57_24 a_58 a_59 a_60 a_61 a_62 a_63 a_64 a_65 t_lines t_numbers a_68 a_69 t_parts t_sorts t_values t_items t_depths a_75 t_ways) (.inl (some (.int r.1)), xw_R X r.2.2.1 s_57_1 s_57_18 s_57_19 s_57_20 s_57_24 a_58 a_59 a_60 a_61 a_62 a_63 a_64 a_65 t_lines t_numbers a_68 a_69 t_parts t_sorts t_values t_items r.2.1 a_75 r.2.2.2) := by
  intro N
  induction N with
  | zero => intro t_depths t_thrown t_ways v2 v3 r h; cases h
  | succ N hk32 =>
    intro t_depths t_thrown t_ways v2 v3 r h
    refine xe_seg ok 5 (G := (fun K => if xr_in ((0 : Int32)) 3 = true then K (79, xm_i79, xm_I79, 0, 0, 39, [(0, .ref 59), (2, .int v2), (3, .int v3)], [.int (t_lines ((0 : Int32)).toNatClampNeg), .int v3], xw_R X t_thrown s_57_1 s_57_18 s_57_19 s_57_20 s_57_24 a_58 a_59 a_60 a_61 a_62 a_63 a_64 a_65 t_lines t_numbers a_68 a_69 t_parts t_sorts t_values t_items t_depths a_75 t_ways) else none)) (fun K => rfl) ?_
    refine xe_pos (by decide) (xe_k ?_)
    refine xe_seg ok 1 (G := (fun K => if v3 < (t_lines ((0 : Int32)).toNatClampNeg) then K (79, xm_i79, xm_I79, 0, 0, 42, [(0, .ref 59), (2, .int v2), (3, .int v3)], [], xw_R X t_thrown s_57_1 s_57_18 s_57_19 s_57_20 s_57_24 a_58 a_59 a_60 a_61 a_62 a_63 a_64 a_65 t_lines t_numbers a_68 a_69 t_parts t_sorts t_values t_items t_depths a_75 t_ways) else K (79, xm_i79, xm_I79, 0, 0, 83, [(0, .ref 59), (2, .int v2), (3, .int v3)], [], xw_R X t_thrown s_57_1 s_57_18 s_57_19 s_57_20 s_57_24 a_58 a_59 a_60 a_61 a_62 a_63 a_64 a_65 t_lines t_numbers a_68 a_69 t_parts t_sorts t_values t_items t_depths a_75 t_ways))) (fun K => rfl) ?_
    rcases xb_if h with ⟨hc1131, h⟩ | ⟨hc1131, h⟩
    · refine xe_pos hc1131 (xe_k ?_)
      refine xe_seg ok 4 (G := (fun K => if xr_in v3 40 = true then K (79, xm_i79, xm_I79, 0, 0, 48, [(0, .ref 59), (2, .int v2), (3, .int v3)], [.int (t_depths v3.toNatClampNeg)], xw_R X t_thrown s_57_1 s_57_18 s_57_19 s_57_20 s_57_24 a_58 a_59 a_60 a_61 a_62 a_63 a_64 a_65 t_lines t_numbers a_68 a_69 t_parts t_sorts t_values t_items t_depths a_75 t_ways) else none)) (fun K => rfl) ?_
      obtain ⟨hg1132, h⟩ := xn_if h
      refine xe_pos hg1132 (xe_k ?_)
      refine xe_seg ok 2 (G := (fun K => if (t_depths v3.toNatClampNeg) = ((-1 : Int32)) then K (79, xm_i79, xm_I79, 0, 0, 52, [(0, .ref 59), (2, .int v2), (3, .int v3)], [], xw_R X t_thrown s_57_1 s_57_18 s_57_19 s_57_20 s_57_24 a_58 a_59 a_60 a_61 a_62 a_63 a_64 a_65 t_lines t_numbers a_68 a_69 t_parts t_sorts t_values t_items t_depths a_75 t_ways) else K (79, xm_i79, xm_I79, 0, 0, 77, [(0, .ref 59), (2, .int v2), (3, .int v3)], [], xw_R X t_thrown s_57_1 s_57_18 s_57_19 s_57_20 s_57_24 a_58 a_59 a_60 a_61 a_62 a_63 a_64 a_65 t_lines t_numbers a_68 a_69 t_parts t_sorts t_values t_items t_depths a_75 t_ways))) (fun K => rfl) ?_
      rcases xb_if h with ⟨hc1133, h⟩ | ⟨hc1133, h⟩
      · refine xe_pos hc1133 (xe_k ?_)
        refine xe_seg ok 3 (G := (fun K => xr_back K 79 xm_i79 xm_I79 0 0 54 [(0, .ref 59), (2, .int v2), (3, .int v3)] [] 78 true (K (78, xm_i78, xm_I78, 0, 0, 0, [(0, .ref 59), (1, .int v3)], [], xw_R X t_thrown s_57_1 s_57_18 s_57_19 s_57_20 s_57_24 a_58 a_59 a_60 a_61 a_62 a_63 a_64 a_65 t_lines t_numbers a_68 a_69 t_parts t_sorts t_values t_items t_depths a_75 t_ways)))) (fun K => rfl) ?_
        obtain ⟨q1141, hq1141, h⟩ := Option.bind_eq_some_iff.mp h
        have heq1141 := xh_rf_isOnRing_57 (l := l) (g := g) ok a_58 a_59 a_60 a_61 a_62 a_63 a_64 a_65 t_numbers a_68 a_69 t_parts t_sorts t_values t_items t_depths a_75 t_thrown s_57_1 s_57_18 s_57_19 s_57_20 s_57_24 X t_lines t_ways n v3 _ hq1141
        refine xe_call1 (ws' := xw_R X t_thrown s_57_1 s_57_18 s_57_19 s_57_20 s_57_24 a_58 a_59 a_60 a_61 a_62 a_63 a_64 a_65 t_lines t_numbers a_68 a_69 t_parts t_sorts t_values t_items t_depths a_75 t_ways) (by decide) heq1141 (Or.inl rfl) ?_
        refine xe_seg ok 1 (G := (fun K => if q1141 = (0 : Int32) then K (79, xm_i79, xm_I79, 0, 0, 60, [(0, .ref 59), (2, .int v2), (3, .int v3)], [], xw_R X t_thrown s_57_1 s_57_18 s_57_19 s_57_20 s_57_24 a_58 a_59 a_60 a_61 a_62 a_63 a_64 a_65 t_lines t_numbers a_68 a_69 t_parts t_sorts t_values t_items t_depths a_75 t_ways) else K (79, xm_i79, xm_I79, 0, 0, 63, [(0, .ref 59), (2, .int v2), (3, .int v3)], [], xw_R X t_thrown s_57_1 s_57_18 s_57_19 s_57_20 s_57_24 a_58 a_59 a_60 a_61 a_62 a_63 a_64 a_65 t_lines t_numbers a_68 a_69 t_parts t_sorts t_values t_items t_depths a_75 t_ways))) (fun K => rfl) ?_
        rcases xb_if h with ⟨hc1142, h⟩ | ⟨hc1142, h⟩
        · refine xe_pos hc1142 (xe_k ?_)
          refine xe_seg ok 1 (G := (fun K => K (79, xm_i79, xm_I79, 0, 0, 77, [(0, .ref 59), (2, .int v2), (3, .int v3)], [], xw_R X t_thrown s_57_1 s_57_18 s_57_19 s_57_20 s_57_24 a_58 a_59 a_60 a_61 a_62 a_63 a_64 a_65 t_lines t_numbers a_68 a_69 t_parts t_sorts t_values t_items t_depths a_75 t_ways))) (fun K => rfl) ?_
          refine xe_k ?_
          refine xe_sub [true, true, true] (lv' := [(0, .ref 59), (2, .int v2), (3, .int v3)]) rfl ?_
          have hz := xh_rf_ring_57_77 (l := l) (g := g) ok a_58 a_59 a_60 a_61 a_62 a_63 a_64 a_65 a_68 a_69 a_75 s_57_1 s_57_18 s_57_19 s_57_20 s_57_24 X t_items t_lines t_numbers t_parts t_sorts t_values hk32 n t_depths t_thrown t_ways v2 v3 _ h
          exact hz
        · refine xe_neg hc1142 (xe_k ?_)
          refine xe_seg ok 2 (G := (fun K => if v2 = (0 : Int32) then K (79, xm_i79, xm_I79, 0, 0, 67, [(0, .ref 59), (2, .int v2), (3, .int v3)], [], xw_R X t_thrown s_57_1 s_57_18 s_57_19 s_57_20 s_57_24 a_58 a_59 a_60 a_61 a_62 a_63 a_64 a_65 t_lines t_numbers a_68 a_69 t_parts t_sorts t_values t_items t_depths a_75 t_ways) else K (79, xm_i79, xm_I79, 0, 0, 74, [(0, .ref 59), (2, .int v2), (3, .int v3)], [], xw_R X t_thrown s_57_1 s_57_18 s_57_19 s_57_20 s_57_24 a_58 a_59 a_60 a_61 a_62 a_63 a_64 a_65 t_lines t_numbers a_68 a_69 t_parts t_sorts t_values t_items t_depths a_75 t_ways))) (fun K => rfl) ?_
          rcases xb_if h with ⟨hc1143, h⟩ | ⟨hc1143, h⟩
          · refine xe_pos hc1143 (xe_k ?_)
            refine xe_seg ok 4 (G := (fun K => if xr_in v3 120 = true then K (79, xm_i79, xm_I79, 0, 0, 73, [(0, .ref 59), (2, .int v2), (3, .int v3)], [.int (t_numbers v3.toNatClampNeg)], xw_R X t_thrown s_57_1 s_57_18 s_57_19 s_57_20 s_57_24 a_58 a_59 a_60 a_61 a_62 a_63 a_64 a_65 t_lines t_numbers a_68 a_69 t_parts t_sorts t_values t_items t_depths a_75 t_ways) else none)) (fun K => rfl) ?_
            obtain ⟨hg1144, h⟩ := xn_if h
            refine xe_pos hg1144 (xe_k ?_)
            obtain rfl := Option.some.inj h
            refine xe_seg ok 1 (G := (fun _ => some (.inl (some (.int (t_numbers v3.toNatClampNeg))), xw_R X t_thrown s_57_1 s_57_18 s_57_19 s_57_20 s_57_24 a_58 a_59 a_60 a_61 a_62 a_63 a_64 a_65 t_lines t_numbers a_68 a_69 t_parts t_sorts t_values t_items t_depths a_75 t_ways))) (fun K => rfl) ?_
            exact xe_ret
          · refine xe_neg hc1143 (xe_k ?_)
            refine xe_seg ok 1 (G := (fun K => K (79, xm_i79, xm_I79, 0, 0, 77, [(0, .ref 59), (2, .int (v2 + (-1 : Int32))), (3, .int v3)], [], xw_R X t_thrown s_57_1 s_57_18 s_57_19 s_57_20 s_57_24 a_58 a_59 a_60 a_61 a_62 a_63 a_64 a_65 t_lines t_numbers a_68 a_69 t_parts t_sorts t_values t_items t_depths a_75 t_ways))) (fun K => rfl) ?_
            refine xe_k ?_
            refine xe_sub [true, true, true] (lv' := [(0, .ref 59), (2, .int (v2 + (-1 : Int32))), (3, .int v3)]) rfl ?_
            have hz := xh_rf_ring_57_77 (l := l) (g := g) ok a_58 a_59 a_60 a_61 a_62 a_63 a_64 a_65 a_68 a_69 a_75 s_57_1 s_57_18 s_57_19 s_57_20 s_57_24 X t_items t_lines t_numbers t_parts t_sorts t_values hk32 n t_depths t_thrown t_ways (v2 + (-1 : Int32)) v3 _ h
            exact hz
      · refine xe_neg hc1133 (xe_k ?_)
        refine xe_sub [true, true, true] (lv' := [(0, .ref 59), (2, .int v2), (3, .int v3)]) rfl ?_
        have hz := xh_rf_ring_57_77 (l := l) (g := g) ok a_58 a_59 a_60 a_61 a_62 a_63 a_64 a_65 a_68 a_69 a_75 s_57_1 s_57_18 s_57_19 s_57_20 s_57_24 X t_items t_lines t_numbers t_parts t_sorts t_values hk32 n t_depths t_thrown t_ways v2 v3 _ h
        exact hz
    · refine xe_neg hc1131 (xe_k ?_)
      obtain rfl := Option.some.inj h
      refine xe_seg ok 2 (G := (fun _ => some (.inl (some (.int ((-1 : Int32)))), xw_R X t_thrown s_57_1 s_57_18 s_57_19 s_57_20 s_57_24 a_58 a_59 a_60 a_61 a_62 a_63 a_64 a_65 t_lines t_numbers a_68 a_69 t_parts t_sorts t_values t_items t_depths a_75 t_ways))) (fun K => rfl) ?_
      exact xe_ret
set_option maxHeartbeats 400000 in
theorem xh_rf_ring_57_15 {l : Launch} {g : xr_G} (ok : xr_OK xm_P) (a_58 a_59 a_60 a_61 a_62 a_63 a_64 a_65 a_68 a_69 a_75 : Nat → Int32) (s_57_1 s_57_18 s_57_19 s_57_20 s_57_24 : Int32) (X : Nat → xr_C) (t_items : (Nat → Int32)) (t_lines : (Nat → Int32)) (t_numbers : (Nat → Int32)) (t_parts : (Nat → Int32)) (t_sorts : (Nat → Int32)) (t_values : (Nat → Int32)) (n : Nat) : ∀ (t_depths : (Nat → Int32)) (t_thrown : Int32) (t_ways : (Nat → Int64)) (v1 : Int32) (s1 : Int32) (r : (Int32 × (Nat → Int32) × Int32 × (Nat → Int64))), xf_rf_ring_15 t_items t_lines t_numbers t_parts t_sorts t_values n t_depths t_thrown t_ways v1 s1 = some r → xV xm_P l g (79, xm_i79, xm_I79, 0, 0, 15, [(0, .ref 59), (1, .int v1)], [.int s1, .ref 59], xw_R X t_thrown s_57_1 s_57_18 s_57_19 s_57_20 s_57_24 a_58 a_59 a_60 a_61 a_62 a_63 a_64 a_65 t_lines t_numbers a_68 a_69 t_parts t_sorts t_values t_items t_depths a_75 t_ways) (.inl (some (.int r.1)), xw_R X r.2.2.1 s_57_1 s_57_18 s_57_19 s_57_20 s_57_24 a_58 a_59 a_60 a_61 a_62 a_63 a_64 a_65 t_lines t_numbers a_68 a_69 t_parts t_sorts t_values t_items r.2.1 a_75 r.2.2.2) := by
  intro t_depths t_thrown t_ways v1 s1 r h
  unfold xf_rf_ring_15 at h
  refine xe_seg ok 2 (G := (fun K => xr_back K 79 xm_i79 xm_I79 0 0 16 [(0, .ref 59), (1, .int v1)] [] 78 true (K (32, xm_i32, xm_I32, 0, 0, 0, [(0, .ref 59), (1, .int s1), (2, .int ((1 : Int32)))], [], xw_R X t_thrown s_57_1 s_57_18 s_57_19 s_57_20 s_57_24 a_58 a_59 a_60 a_61 a_62 a_63 a_64 a_65 t_lines t_numbers a_68 a_69 t_parts t_sorts t_values t_items t_depths a_75 t_ways)))) (fun K => rfl) ?_
  obtain ⟨q1128, hq1128, h⟩ := Option.bind_eq_some_iff.mp h
  have heq1128 := xh_rf_fails_57 (l := l) (g := g) ok a_58 a_59 a_60 a_61 a_62 a_63 a_64 a_65 t_lines t_numbers a_68 a_69 t_parts t_sorts t_values t_items t_depths a_75 t_ways s_57_1 s_57_18 s_57_19 s_57_20 s_57_24 X t_thrown s1 ((1 : Int32)) _ hq1128
  refine xe_call1 (ws' := xw_R X q1128.2 s_57_1 s_57_18 s_57_19 s_57_20 s_57_24 a_58 a_59 a_60 a_61 a_62 a_63 a_64 a_65 t_lines t_numbers a_68 a_69 t_parts t_sorts t_values t_items t_depths a_75 t_ways) (by decide) heq1128 (Or.inl rfl) ?_
  refine xe_seg ok 1 (G := (fun K => if q1128.1 = (0 : Int32) then K (79, xm_i79, xm_I79, 0, 0, 24, [(0, .ref 59), (1, .int v1)], [], xw_R X q1128.2 s_57_1 s_57_18 s_57_19 s_57_20 s_57_24 a_58 a_59 a_60 a_61 a_62 a_63 a_64 a_65 t_lines t_numbers a_68 a_69 t_parts t_sorts t_values t_items t_depths a_75 t_ways) else K (79, xm_i79, xm_I79, 0, 0, 22, [(0, .ref 59), (1, .int v1)], [], xw_R X q1128.2 s_57_1 s_57_18 s_57_19 s_57_20 s_57_24 a_58 a_59 a_60 a_61 a_62 a_63 a_64 a_65 t_lines t_numbers a_68 a_69 t_parts t_sorts t_values t_items t_depths a_75 t_ways))) (fun K => rfl) ?_
  rcases xb_if h with ⟨hc1129, h⟩ | ⟨hc1129, h⟩
  · refine xe_pos hc1129 (xe_k ?_)
    refine xe_seg ok 2 (G := (fun K => xr_back K 79 xm_i79 xm_I79 0 0 25 [(0, .ref 59), (1, .int v1)] [] 78 true (K (69, xm_i69, xm_I69, 0, 0, 0, [(0, .ref 59)], [], xw_R X q1128.2 s_57_1 s_57_18 s_57_19 s_57_20 s_57_24 a_58 a_59 a_60 a_61 a_62 a_63 a_64 a_65 t_lines t_numbers a_68 a_69 t_parts t_sorts t_values t_items t_depths a_75 t_ways)))) (fun K => rfl) ?_
    obtain ⟨q1130, hq1130, h⟩ := Option.bind_eq_some_iff.mp h
    have heq1130 := xh_rf_findDepths_57 (l := l) (g := g) ok a_58 a_59 a_60 a_61 a_62 a_63 a_64 a_65 a_68 a_69 a_75 q1128.2 s_57_1 s_57_18 s_57_19 s_57_20 s_57_24 X t_items t_lines t_numbers t_parts t_sorts t_values n t_depths t_ways _ hq1130
    refine xe_call0 (ws' := xw_R X q1128.2 s_57_1 s_57_18 s_57_19 s_57_20 s_57_24 a_58 a_59 a_60 a_61 a_62 a_63 a_64 a_65 t_lines t_numbers a_68 a_69 t_parts t_sorts t_values t_items q1130.2.1 a_75 q1130.2.2) (by decide) heq1130 (Or.inl rfl) ?_
    refine xe_seg ok 4 (G := (fun K => K (79, xm_i79, xm_I79, 0, 0, 32, [(0, .ref 59), (1, .int v1), (2, .int v1), (3, .int ((0 : Int32)))], [], xw_R X q1128.2 s_57_1 s_57_18 s_57_19 s_57_20 s_57_24 a_58 a_59 a_60 a_61 a_62 a_63 a_64 a_65 t_lines t_numbers a_68 a_69 t_parts t_sorts t_values t_items q1130.2.1 a_75 q1130.2.2))) (fun K => rfl) ?_
    refine xe_k ?_
    refine xe_sub [true, false, true, true] (lv' := [(0, .ref 59), (2, .int v1), (3, .int ((0 : Int32)))]) rfl ?_
    have hz := xh_rf_ring_57_32 (l := l) (g := g) ok a_58 a_59 a_60 a_61 a_62 a_63 a_64 a_65 a_68 a_69 a_75 s_57_1 s_57_18 s_57_19 s_57_20 s_57_24 X t_items t_lines t_numbers t_parts t_sorts t_values n n q1130.2.1 q1128.2 q1130.2.2 v1 ((0 : Int32)) _ h
    exact hz
  · refine xe_neg hc1129 (xe_k ?_)
    obtain rfl := Option.some.inj h
    refine xe_seg ok 2 (G := (fun _ => some (.inl (some (.int ((0 : Int32)))), xw_R X q1128.2 s_57_1 s_57_18 s_57_19 s_57_20 s_57_24 a_58 a_59 a_60 a_61 a_62 a_63 a_64 a_65 t_lines t_numbers a_68 a_69 t_parts t_sorts t_values t_items t_depths a_75 t_ways))) (fun K => rfl) ?_
    exact xe_ret
set_option maxHeartbeats 400000 in
theorem xh_rf_ring_57 {l : Launch} {g : xr_G} (ok : xr_OK xm_P) (a_58 a_59 a_60 a_61 a_62 a_63 a_64 a_65 a_68 a_69 a_75 : Nat → Int32) (s_57_1 s_57_18 s_57_19 s_57_20 s_57_24 : Int32) (X : Nat → xr_C) (t_items : (Nat → Int32)) (t_lines : (Nat → Int32)) (t_numbers : (Nat → Int32)) (t_parts : (Nat → Int32)) (t_sorts : (Nat → Int32)) (t_values : (Nat → Int32)) (n : Nat) : ∀ (t_depths : (Nat → Int32)) (t_thrown : Int32) (t_ways : (Nat → Int64)) (a1 : Int32) (r : (Int32 × (Nat → Int32) × Int32 × (Nat → Int64))), xf_rf_ring t_items t_lines t_numbers t_parts t_sorts t_values n t_depths t_thrown t_ways a1 = some r → xV xm_P l g (79, xm_i79, xm_I79, 0, 0, 0, [(0, .ref 59), (1, .int a1)], [], xw_R X t_thrown s_57_1 s_57_18 s_57_19 s_57_20 s_57_24 a_58 a_59 a_60 a_61 a_62 a_63 a_64 a_65 t_lines t_numbers a_68 a_69 t_parts t_sorts t_values t_items t_depths a_75 t_ways) (.inl (some (.int r.1)), xw_R X r.2.2.1 s_57_1 s_57_18 s_57_19 s_57_20 s_57_24 a_58 a_59 a_60 a_61 a_62 a_63 a_64 a_65 t_lines t_numbers a_68 a_69 t_parts t_sorts t_values t_items r.2.1 a_75 r.2.2.2) := by
  intro t_depths t_thrown t_ways a1 r h
  unfold xf_rf_ring at h
  refine xe_seg ok 6 (G := (fun K => if a1 < (0 : Int32) then K (79, xm_i79, xm_I79, 0, 0, 10, [(0, .ref 59), (1, .int a1)], [.ref 59], xw_R X ((0 : Int32)) s_57_1 s_57_18 s_57_19 s_57_20 s_57_24 a_58 a_59 a_60 a_61 a_62 a_63 a_64 a_65 t_lines t_numbers a_68 a_69 t_parts t_sorts t_values t_items t_depths a_75 t_ways) else K (79, xm_i79, xm_I79, 0, 0, 14, [(0, .ref 59), (1, .int a1)], [.ref 59], xw_R X ((0 : Int32)) s_57_1 s_57_18 s_57_19 s_57_20 s_57_24 a_58 a_59 a_60 a_61 a_62 a_63 a_64 a_65 t_lines t_numbers a_68 a_69 t_parts t_sorts t_values t_items t_depths a_75 t_ways))) (fun K => rfl) ?_
  rcases xb_if h with ⟨hc1127, h⟩ | ⟨hc1127, h⟩
  · refine xe_pos hc1127 (xe_k ?_)
    refine xe_seg ok 2 (G := (fun K => K (79, xm_i79, xm_I79, 0, 0, 15, [(0, .ref 59), (1, .int a1)], [.int ((1 : Int32)), .ref 59], xw_R X ((0 : Int32)) s_57_1 s_57_18 s_57_19 s_57_20 s_57_24 a_58 a_59 a_60 a_61 a_62 a_63 a_64 a_65 t_lines t_numbers a_68 a_69 t_parts t_sorts t_values t_items t_depths a_75 t_ways))) (fun K => rfl) ?_
    refine xe_k ?_
    refine xe_sub [true, true] (lv' := [(0, .ref 59), (1, .int a1)]) rfl ?_
    have hz := xh_rf_ring_57_15 (l := l) (g := g) ok a_58 a_59 a_60 a_61 a_62 a_63 a_64 a_65 a_68 a_69 a_75 s_57_1 s_57_18 s_57_19 s_57_20 s_57_24 X t_items t_lines t_numbers t_parts t_sorts t_values n t_depths ((0 : Int32)) t_ways a1 ((1 : Int32)) _ h
    exact hz
  · refine xe_neg hc1127 (xe_k ?_)
    refine xe_seg ok 1 (G := (fun K => K (79, xm_i79, xm_I79, 0, 0, 15, [(0, .ref 59), (1, .int a1)], [.int ((0 : Int32)), .ref 59], xw_R X ((0 : Int32)) s_57_1 s_57_18 s_57_19 s_57_20 s_57_24 a_58 a_59 a_60 a_61 a_62 a_63 a_64 a_65 t_lines t_numbers a_68 a_69 t_parts t_sorts t_values t_items t_depths a_75 t_ways))) (fun K => rfl) ?_
    refine xe_k ?_
    refine xe_sub [true, true] (lv' := [(0, .ref 59), (1, .int a1)]) rfl ?_
    have hz := xh_rf_ring_57_15 (l := l) (g := g) ok a_58 a_59 a_60 a_61 a_62 a_63 a_64 a_65 a_68 a_69 a_75 s_57_1 s_57_18 s_57_19 s_57_20 s_57_24 X t_items t_lines t_numbers t_parts t_sorts t_values n t_depths ((0 : Int32)) t_ways a1 ((0 : Int32)) _ h
    exact hz
set_option maxHeartbeats 400000 in
theorem xh_rf_isPlaced_57_76 {l : Launch} {g : xr_G} (ok : xr_OK xm_P) (a_58 a_59 a_60 a_61 a_62 a_63 a_64 a_65 a_66 a_67 a_68 a_69 a_72 a_73 a_74 a_75 : Nat → Int32) (l_76 : Nat → Int64) (s_57_0 s_57_1 s_57_18 s_57_19 s_57_20 s_57_24 : Int32) (X : Nat → xr_C) (t_parts : (Nat → Int32)) (t_sorts : (Nat → Int32)) : ∀ (s0 : Int32) (r : (Int32)), xf_rf_isPlaced_76 t_parts t_sorts s0 = some r → xV xm_P l g (80, xm_i80, xm_I80, 0, 0, 76, [], [.int s0], xw_R X s_57_0 s_57_1 s_57_18 s_57_19 s_57_20 s_57_24 a_58 a_59 a_60 a_61 a_62 a_63 a_64 a_65 a_66 a_67 a_68 a_69 t_parts t_sorts a_72 a_73 a_74 a_75 l_76) (.inl (some (.int r)), xw_R X s_57_0 s_57_1 s_57_18 s_57_19 s_57_20 s_57_24 a_58 a_59 a_60 a_61 a_62 a_63 a_64 a_65 a_66 a_67 a_68 a_69 t_parts t_sorts a_72 a_73 a_74 a_75 l_76) := by
  intro s0 r h
  unfold xf_rf_isPlaced_76 at h
  refine xe_seg ok 1 (G := (fun _ => if fits .boolean (.int s0) = true then some (.inl (some (.int s0)), xw_R X s_57_0 s_57_1 s_57_18 s_57_19 s_57_20 s_57_24 a_58 a_59 a_60 a_61 a_62 a_63 a_64 a_65 a_66 a_67 a_68 a_69 t_parts t_sorts a_72 a_73 a_74 a_75 l_76) else none)) (fun K => rfl) ?_
  obtain ⟨hg1159, h⟩ := xn_if h
  obtain rfl := Option.some.inj h
  exact xe_pos (A := fun _ => some (.inl (some (.int s0)), xw_R X s_57_0 s_57_1 s_57_18 s_57_19 s_57_20 s_57_24 a_58 a_59 a_60 a_61 a_62 a_63 a_64 a_65 a_66 a_67 a_68 a_69 t_parts t_sorts a_72 a_73 a_74 a_75 l_76)) (B := fun _ => none) hg1159 xe_ret
set_option maxHeartbeats 400000 in
theorem xh_rf_isPlaced_57_71 {l : Launch} {g : xr_G} (ok : xr_OK xm_P) (a_58 a_59 a_60 a_61 a_62 a_63 a_64 a_65 a_66 a_67 a_68 a_69 a_72 a_73 a_74 a_75 : Nat → Int32) (l_76 : Nat → Int64) (s_57_0 s_57_1 s_57_18 s_57_19 s_57_20 s_57_24 : Int32) (X : Nat → xr_C) (t_parts : (Nat → Int32)) (t_sorts : (Nat → Int32)) : ∀  (r : (Int32)), xf_rf_isPlaced_71 t_parts t_sorts  = some r → xV xm_P l g (80, xm_i80, xm_I80, 0, 0, 71, [], [], xw_R X s_57_0 s_57_1 s_57_18 s_57_19 s_57_20 s_57_24 a_58 a_59 a_60 a_61 a_62 a_63 a_64 a_65 a_66 a_67 a_68 a_69 t_parts t_sorts a_72 a_73 a_74 a_75 l_76) (.inl (some (.int r)), xw_R X s_57_0 s_57_1 s_57_18 s_57_19 s_57_20 s_57_24 a_58 a_59 a_60 a_61 a_62 a_63 a_64 a_65 a_66 a_67 a_68 a_69 t_parts t_sorts a_72 a_73 a_74 a_75 l_76) := by
  intro  r h
  unfold xf_rf_isPlaced_71 at h
  refine xe_seg ok 2 (G := (fun K => K (80, xm_i80, xm_I80, 0, 0, 76, [], [.int ((1 : Int32))], xw_R X s_57_0 s_57_1 s_57_18 s_57_19 s_57_20 s_57_24 a_58 a_59 a_60 a_61 a_62 a_63 a_64 a_65 a_66 a_67 a_68 a_69 t_parts t_sorts a_72 a_73 a_74 a_75 l_76))) (fun K => rfl) ?_
  refine xe_k ?_
  refine xe_sub [] (lv' := []) rfl ?_
  have hz := xh_rf_isPlaced_57_76 (l := l) (g := g) ok a_58 a_59 a_60 a_61 a_62 a_63 a_64 a_65 a_66 a_67 a_68 a_69 a_72 a_73 a_74 a_75 l_76 s_57_0 s_57_1 s_57_18 s_57_19 s_57_20 s_57_24 X t_parts t_sorts ((1 : Int32)) _ h
  exact hz
set_option maxHeartbeats 400000 in
theorem xh_rf_isPlaced_57_75 {l : Launch} {g : xr_G} (ok : xr_OK xm_P) (a_58 a_59 a_60 a_61 a_62 a_63 a_64 a_65 a_66 a_67 a_68 a_69 a_72 a_73 a_74 a_75 : Nat → Int32) (l_76 : Nat → Int64) (s_57_0 s_57_1 s_57_18 s_57_19 s_57_20 s_57_24 : Int32) (X : Nat → xr_C) (t_parts : (Nat → Int32)) (t_sorts : (Nat → Int32)) : ∀  (r : (Int32)), xf_rf_isPlaced_75 t_parts t_sorts  = some r → xV xm_P l g (80, xm_i80, xm_I80, 0, 0, 75, [], [], xw_R X s_57_0 s_57_1 s_57_18 s_57_19 s_57_20 s_57_24 a_58 a_59 a_60 a_61 a_62 a_63 a_64 a_65 a_66 a_67 a_68 a_69 t_parts t_sorts a_72 a_73 a_74 a_75 l_76) (.inl (some (.int r)), xw_R X s_57_0 s_57_1 s_57_18 s_57_19 s_57_20 s_57_24 a_58 a_59 a_60 a_61 a_62 a_63 a_64 a_65 a_66 a_67 a_68 a_69 t_parts t_sorts a_72 a_73 a_74 a_75 l_76) := by
  intro  r h
  unfold xf_rf_isPlaced_75 at h
  refine xe_seg ok 1 (G := (fun K => K (80, xm_i80, xm_I80, 0, 0, 76, [], [.int ((0 : Int32))], xw_R X s_57_0 s_57_1 s_57_18 s_57_19 s_57_20 s_57_24 a_58 a_59 a_60 a_61 a_62 a_63 a_64 a_65 a_66 a_67 a_68 a_69 t_parts t_sorts a_72 a_73 a_74 a_75 l_76))) (fun K => rfl) ?_
  refine xe_k ?_
  refine xe_sub [] (lv' := []) rfl ?_
  have hz := xh_rf_isPlaced_57_76 (l := l) (g := g) ok a_58 a_59 a_60 a_61 a_62 a_63 a_64 a_65 a_66 a_67 a_68 a_69 a_72 a_73 a_74 a_75 l_76 s_57_0 s_57_1 s_57_18 s_57_19 s_57_20 s_57_24 X t_parts t_sorts ((0 : Int32)) _ h
  exact hz
set_option maxHeartbeats 400000 in
theorem xh_rf_isPlaced_57 {l : Launch} {g : xr_G} (ok : xr_OK xm_P) (a_58 a_59 a_60 a_61 a_62 a_63 a_64 a_65 a_66 a_67 a_68 a_69 a_72 a_73 a_74 a_75 : Nat → Int32) (l_76 : Nat → Int64) (s_57_0 s_57_1 s_57_18 s_57_19 s_57_20 s_57_24 : Int32) (X : Nat → xr_C) (t_parts : (Nat → Int32)) (t_sorts : (Nat → Int32)) : ∀ (a1 : Int32) (r : (Int32)), xf_rf_isPlaced t_parts t_sorts a1 = some r → xV xm_P l g (80, xm_i80, xm_I80, 0, 0, 0, [(0, .ref 59), (1, .int a1)], [], xw_R X s_57_0 s_57_1 s_57_18 s_57_19 s_57_20 s_57_24 a_58 a_59 a_60 a_61 a_62 a_63 a_64 a_65 a_66 a_67 a_68 a_69 t_parts t_sorts a_72 a_73 a_74 a_75 l_76) (.inl (some (.int r)), xw_R X s_57_0 s_57_1 s_57_18 s_57_19 s_57_20 s_57_24 a_58 a_59 a_60 a_61 a_62 a_63 a_64 a_65 a_66 a_67 a_68 a_69 t_parts t_sorts a_72 a_73 a_74 a_75 l_76) := by
  intro a1 r h
  unfold xf_rf_isPlaced at h
  refine xe_seg ok 8 (G := (fun K => if xr_in a1 120 = true then K (80, xm_i80, xm_I80, 0, 0, 11, [(0, .ref 59), (1, .int a1), (2, .int (((8 : Int32)) * a1))], [.int (t_parts a1.toNatClampNeg)], xw_R X s_57_0 s_57_1 s_57_18 s_57_19 s_57_20 s_57_24 a_58 a_59 a_60 a_61 a_62 a_63 a_64 a_65 a_66 a_67 a_68 a_69 t_parts t_sorts a_72 a_73 a_74 a_75 l_76) else none)) (fun K => rfl) ?_
  obtain ⟨hg1149, h⟩ := xn_if h
  refine xe_pos hg1149 (xe_k ?_)
  refine xe_seg ok 2 (G := (fun K => if ((3 : Int32)) < (t_parts a1.toNatClampNeg) then K (80, xm_i80, xm_I80, 0, 0, 15, [(0, .ref 59), (1, .int a1), (2, .int (((8 : Int32)) * a1))], [], xw_R X s_57_0 s_57_1 s_57_18 s_57_19 s_57_20 s_57_24 a_58 a_59 a_60 a_61 a_62 a_63 a_64 a_65 a_66 a_67 a_68 a_69 t_parts t_sorts a_72 a_73 a_74 a_75 l_76) else K (80, xm_i80, xm_I80, 0, 0, 75, [(0, .ref 59), (1, .int a1), (2, .int (((8 : Int32)) * a1))], [], xw_R X s_57_0 s_57_1 s_57_18 s_57_19 s_57_20 s_57_24 a_58 a_59 a_60 a_61 a_62 a_63 a_64 a_65 a_66 a_67 a_68 a_69 t_parts t_sorts a_72 a_73 a_74 a_75 l_76))) (fun K => rfl) ?_
  rcases xb_if h with ⟨hc1150, h⟩ | ⟨hc1150, h⟩
  · refine xe_pos hc1150 (xe_k ?_)
    refine xe_seg ok 4 (G := (fun K => if xr_in (((8 : Int32)) * a1) 960 = true then K (80, xm_i80, xm_I80, 0, 0, 21, [(0, .ref 59), (1, .int a1), (2, .int (((8 : Int32)) * a1))], [.int (t_sorts (((8 : Int32)) * a1).toNatClampNeg)], xw_R X s_57_0 s_57_1 s_57_18 s_57_19 s_57_20 s_57_24 a_58 a_59 a_60 a_61 a_62 a_63 a_64 a_65 a_66 a_67 a_68 a_69 t_parts t_sorts a_72 a_73 a_74 a_75 l_76) else none)) (fun K => rfl) ?_
    obtain ⟨hg1151, h⟩ := xn_if h
    refine xe_pos hg1151 (xe_k ?_)
    refine xe_seg ok 1 (G := (fun K => if (t_sorts (((8 : Int32)) * a1).toNatClampNeg) = (0 : Int32) then K (80, xm_i80, xm_I80, 0, 0, 24, [(0, .ref 59), (1, .int a1), (2, .int (((8 : Int32)) * a1))], [], xw_R X s_57_0 s_57_1 s_57_18 s_57_19 s_57_20 s_57_24 a_58 a_59 a_60 a_61 a_62 a_63 a_64 a_65 a_66 a_67 a_68 a_69 t_parts t_sorts a_72 a_73 a_74 a_75 l_76) else K (80, xm_i80, xm_I80, 0, 0, 75, [(0, .ref 59), (1, .int a1), (2, .int (((8 : Int32)) * a1))], [], xw_R X s_57_0 s_57_1 s_57_18 s_57_19 s_57_20 s_57_24 a_58 a_59 a_60 a_61 a_62 a_63 a_64 a_65 a_66 a_67 a_68 a_69 t_parts t_sorts a_72 a_73 a_74 a_75 l_76))) (fun K => rfl) ?_
    rcases xb_if h with ⟨hc1152, h⟩ | ⟨hc1152, h⟩
    · refine xe_pos hc1152 (xe_k ?_)
      refine xe_seg ok 6 (G := (fun K => if xr_in ((((8 : Int32)) * a1) + ((1 : Int32))) 960 = true then K (80, xm_i80, xm_I80, 0, 0, 32, [(0, .ref 59), (1, .int a1), (2, .int (((8 : Int32)) * a1))], [.int (t_sorts ((((8 : Int32)) * a1) + ((1 : Int32))).toNatClampNeg)], xw_R X s_57_0 s_57_1 s_57_18 s_57_19 s_57_20 s_57_24 a_58 a_59 a_60 a_61 a_62 a_63 a_64 a_65 a_66 a_67 a_68 a_69 t_parts t_sorts a_72 a_73 a_74 a_75 l_76) else none)) (fun K => rfl) ?_
      obtain ⟨hg1153, h⟩ := xn_if h
      refine xe_pos hg1153 (xe_k ?_)
      refine xe_seg ok 1 (G := (fun K => if (t_sorts ((((8 : Int32)) * a1) + ((1 : Int32))).toNatClampNeg) = (0 : Int32) then K (80, xm_i80, xm_I80, 0, 0, 35, [(0, .ref 59), (1, .int a1), (2, .int (((8 : Int32)) * a1))], [], xw_R X s_57_0 s_57_1 s_57_18 s_57_19 s_57_20 s_57_24 a_58 a_59 a_60 a_61 a_62 a_63 a_64 a_65 a_66 a_67 a_68 a_69 t_parts t_sorts a_72 a_73 a_74 a_75 l_76) else K (80, xm_i80, xm_I80, 0, 0, 75, [(0, .ref 59), (1, .int a1), (2, .int (((8 : Int32)) * a1))], [], xw_R X s_57_0 s_57_1 s_57_18 s_57_19 s_57_20 s_57_24 a_58 a_59 a_60 a_61 a_62 a_63 a_64 a_65 a_66 a_67 a_68 a_69 t_parts t_sorts a_72 a_73 a_74 a_75 l_76))) (fun K => rfl) ?_
      rcases xb_if h with ⟨hc1154, h⟩ | ⟨hc1154, h⟩
      · refine xe_pos hc1154 (xe_k ?_)
        refine xe_seg ok 6 (G := (fun K => if xr_in ((((8 : Int32)) * a1) + ((2 : Int32))) 960 = true then K (80, xm_i80, xm_I80, 0, 0, 43, [(0, .ref 59), (1, .int a1), (2, .int (((8 : Int32)) * a1))], [.int (t_sorts ((((8 : Int32)) * a1) + ((2 : Int32))).toNatClampNeg)], xw_R X s_57_0 s_57_1 s_57_18 s_57_19 s_57_20 s_57_24 a_58 a_59 a_60 a_61 a_62 a_63 a_64 a_65 a_66 a_67 a_68 a_69 t_parts t_sorts a_72 a_73 a_74 a_75 l_76) else none)) (fun K => rfl) ?_
        obtain ⟨hg1155, h⟩ := xn_if h
        refine xe_pos hg1155 (xe_k ?_)
        refine xe_seg ok 1 (G := (fun K => if (t_sorts ((((8 : Int32)) * a1) + ((2 : Int32))).toNatClampNeg) = (0 : Int32) then K (80, xm_i80, xm_I80, 0, 0, 46, [(0, .ref 59), (1, .int a1), (2, .int (((8 : Int32)) * a1))], [], xw_R X s_57_0 s_57_1 s_57_18 s_57_19 s_57_20 s_57_24 a_58 a_59 a_60 a_61 a_62 a_63 a_64 a_65 a_66 a_67 a_68 a_69 t_parts t_sorts a_72 a_73 a_74 a_75 l_76) else K (80, xm_i80, xm_I80, 0, 0, 75, [(0, .ref 59), (1, .int a1), (2, .int (((8 : Int32)) * a1))], [], xw_R X s_57_0 s_57_1 s_57_18 s_57_19 s_57_20 s_57_24 a_58 a_59 a_60 a_61 a_62 a_63 a_64 a_65 a_66 a_67 a_68 a_69 t_parts t_sorts a_72 a_73 a_74 a_75 l_76))) (fun K => rfl) ?_
        rcases xb_if h with ⟨hc1156, h⟩ | ⟨hc1156, h⟩
        · refine xe_pos hc1156 (xe_k ?_)
          refine xe_seg ok 6 (G := (fun K => if xr_in ((((8 : Int32)) * a1) + ((3 : Int32))) 960 = true then K (80, xm_i80, xm_I80, 0, 0, 54, [(0, .ref 59), (1, .int a1), (2, .int (((8 : Int32)) * a1))], [.int (t_sorts ((((8 : Int32)) * a1) + ((3 : Int32))).toNatClampNeg)], xw_R X s_57_0 s_57_1 s_57_18 s_57_19 s_57_20 s_57_24 a_58 a_59 a_60 a_61 a_62 a_63 a_64 a_65 a_66 a_67 a_68 a_69 t_parts t_sorts a_72 a_73 a_74 a_75 l_76) else none)) (fun K => rfl) ?_
          obtain ⟨hg1157, h⟩ := xn_if h
          refine xe_pos hg1157 (xe_k ?_)
          refine xe_seg ok 2 (G := (fun K => if (t_sorts ((((8 : Int32)) * a1) + ((3 : Int32))).toNatClampNeg) = ((2 : Int32)) then K (80, xm_i80, xm_I80, 0, 0, 71, [(0, .ref 59), (1, .int a1), (2, .int (((8 : Int32)) * a1))], [], xw_R X s_57_0 s_57_1 s_57_18 s_57_19 s_57_20 s_57_24 a_58 a_59 a_60 a_61 a_62 a_63 a_64 a_65 a_66 a_67 a_68 a_69 t_parts t_sorts a_72 a_73 a_74 a_75 l_76) else K (80, xm_i80, xm_I80, 0, 0, 58, [(0, .ref 59), (1, .int a1), (2, .int (((8 : Int32)) * a1))], [], xw_R X s_57_0 s_57_1 s_57_18 s_57_19 s_57_20 s_57_24 a_58 a_59 a_60 a_61 a_62 a_63 a_64 a_65 a_66 a_67 a_68 a_69 t_parts t_sorts a_72 a_73 a_74 a_75 l_76))) (fun K => rfl) ?_
          rcases xb_if h with ⟨hc1158, h⟩ | ⟨hc1158, h⟩
          · refine xe_pos hc1158 (xe_k ?_)
            refine xe_sub [false, false, false] (lv' := []) rfl ?_
            have hz := xh_rf_isPlaced_57_71 (l := l) (g := g) ok a_58 a_59 a_60 a_61 a_62 a_63 a_64 a_65 a_66 a_67 a_68 a_69 a_72 a_73 a_74 a_75 l_76 s_57_0 s_57_1 s_57_18 s_57_19 s_57_20 s_57_24 X t_parts t_sorts _ h
            exact hz
          · refine xe_neg hc1158 (xe_k ?_)
            refine xe_seg ok 6 (G := (fun K => if xr_in ((((8 : Int32)) * a1) + ((3 : Int32))) 960 = true then K (80, xm_i80, xm_I80, 0, 0, 66, [(0, .ref 59), (1, .int a1), (2, .int (((8 : Int32)) * a1))], [.int (t_sorts ((((8 : Int32)) * a1) + ((3 : Int32))).toNatClampNeg)], xw_R X s_57_0 s_57_1 s_57_18 s_57_19 s_57_20 s_57_24 a_58 a_59 a_60 a_61 a_62 a_63 a_64 a_65 a_66 a_67 a_68 a_69 t_parts t_sorts a_72 a_73 a_74 a_75 l_76) else none)) (fun K => rfl) ?_
            obtain ⟨hg1160, h⟩ := xn_if h
            refine xe_pos hg1160 (xe_k ?_)
            refine xe_seg ok 2 (G := (fun K => if (t_sorts ((((8 : Int32)) * a1) + ((3 : Int32))).toNatClampNeg) = ((6 : Int32)) then K (80, xm_i80, xm_I80, 0, 0, 71, [(0, .ref 59), (1, .int a1), (2, .int (((8 : Int32)) * a1))], [], xw_R X s_57_0 s_57_1 s_57_18 s_57_19 s_57_20 s_57_24 a_58 a_59 a_60 a_61 a_62 a_63 a_64 a_65 a_66 a_67 a_68 a_69 t_parts t_sorts a_72 a_73 a_74 a_75 l_76) else K (80, xm_i80, xm_I80, 0, 0, 75, [(0, .ref 59), (1, .int a1), (2, .int (((8 : Int32)) * a1))], [], xw_R X s_57_0 s_57_1 s_57_18 s_57_19 s_57_20 s_57_24 a_58 a_59 a_60 a_61 a_62 a_63 a_64 a_65 a_66 a_67 a_68 a_69 t_parts t_sorts a_72 a_73 a_74 a_75 l_76))) (fun K => rfl) ?_
            rcases xb_if h with ⟨hc1161, h⟩ | ⟨hc1161, h⟩
            · refine xe_pos hc1161 (xe_k ?_)
              refine xe_sub [false, false, false] (lv' := []) rfl ?_
              have hz := xh_rf_isPlaced_57_71 (l := l) (g := g) ok a_58 a_59 a_60 a_61 a_62 a_63 a_64 a_65 a_66 a_67 a_68 a_69 a_72 a_73 a_74 a_75 l_76 s_57_0 s_57_1 s_57_18 s_57_19 s_57_20 s_57_24 X t_parts t_sorts _ h
              exact hz
            · refine xe_neg hc1161 (xe_k ?_)
              refine xe_sub [false, false, false] (lv' := []) rfl ?_
              have hz := xh_rf_isPlaced_57_75 (l := l) (g := g) ok a_58 a_59 a_60 a_61 a_62 a_63 a_64 a_65 a_66 a_67 a_68 a_69 a_72 a_73 a_74 a_75 l_76 s_57_0 s_57_1 s_57_18 s_57_19 s_57_20 s_57_24 X t_parts t_sorts _ h
              exact hz
        · refine xe_neg hc1156 (xe_k ?_)
          refine xe_sub [false, false, false] (lv' := []) rfl ?_
          have hz := xh_rf_isPlaced_57_75 (l := l) (g := g) ok a_58 a_59 a_60 a_61 a_62 a_63 a_64 a_65 a_66 a_67 a_68 a_69 a_72 a_73 a_74 a_75 l_76 s_57_0 s_57_1 s_57_18 s_57_19 s_57_20 s_57_24 X t_parts t_sorts _ h
          exact hz
      · refine xe_neg hc1154 (xe_k ?_)
        refine xe_sub [false, false, false] (lv' := []) rfl ?_
        have hz := xh_rf_isPlaced_57_75 (l := l) (g := g) ok a_58 a_59 a_60 a_61 a_62 a_63 a_64 a_65 a_66 a_67 a_68 a_69 a_72 a_73 a_74 a_75 l_76 s_57_0 s_57_1 s_57_18 s_57_19 s_57_20 s_57_24 X t_parts t_sorts _ h
        exact hz
    · refine xe_neg hc1152 (xe_k ?_)
      refine xe_sub [false, false, false] (lv' := []) rfl ?_
      have hz := xh_rf_isPlaced_57_75 (l := l) (g := g) ok a_58 a_59 a_60 a_61 a_62 a_63 a_64 a_65 a_66 a_67 a_68 a_69 a_72 a_73 a_74 a_75 l_76 s_57_0 s_57_1 s_57_18 s_57_19 s_57_20 s_57_24 X t_parts t_sorts _ h
      exact hz
  · refine xe_neg hc1150 (xe_k ?_)
    refine xe_sub [false, false, false] (lv' := []) rfl ?_
    have hz := xh_rf_isPlaced_57_75 (l := l) (g := g) ok a_58 a_59 a_60 a_61 a_62 a_63 a_64 a_65 a_66 a_67 a_68 a_69 a_72 a_73 a_74 a_75 l_76 s_57_0 s_57_1 s_57_18 s_57_19 s_57_20 s_57_24 X t_parts t_sorts _ h
    exact hz
set_option maxHeartbeats 400000 in
theorem xh_rf_place_57_166 {l : Launch} {g : xr_G} (ok : xr_OK xm_P) (a_58 a_59 a_60 a_61 a_62 a_63 a_64 a_65 a_68 a_69 a_73 a_74 a_75 : Nat → Int32) (l_76 : Nat → Int64) (s_57_1 s_57_18 s_57_19 s_57_20 s_57_24 : Int32) (X : Nat → xr_C) (t_lines : (Nat → Int32)) (t_numbers : (Nat → Int32)) (t_parts : (Nat → Int32)) (t_sorts : (Nat → Int32)) (t_values : (Nat → Int32)) {k68 : Int32 → Int32 → Int32 → Int64 → Int32 → Option (Int64 × Int32)} (hk68 : ∀ (t_thrown : Int32) (v2 : Int32) (v3 : Int32) (v4 : Int64) (v6 : Int32) (r : (Int64 × Int32)), k68 t_thrown v2 v3 v4 v6 = some r → xV xm_P l g (81, xm_i81, xm_I81, 0, 0, 68, [(0, .ref 59), (2, .int v2), (3, .int v3), (4, .long v4), (6, .int v6)], [], xw_R X t_thrown s_57_1 s_57_18 s_57_19 s_57_20 s_57_24 a_58 a_59 a_60 a_61 a_62 a_63 a_64 a_65 t_lines t_numbers a_68 a_69 t_parts t_sorts t_values a_73 a_74 a_75 l_76) (.inl (some (.long r.1)), xw_R X r.2 s_57_1 s_57_18 s_57_19 s_57_20 s_57_24 a_58 a_59 a_60 a_61 a_62 a_63 a_64 a_65 t_lines t_numbers a_68 a_69 t_parts t_sorts t_values a_73 a_74 a_75 l_76)) (n : Nat) : ∀ (t_thrown : Int32) (v2 : Int32) (v4 : Int64) (v6 : Int32) (s0 : Int32) (r : (Int64 × Int32)), xf_rf_place_166 t_lines t_numbers t_parts t_sorts t_values k68 n t_thrown v2 v4 v6 s0 = some r → xV xm_P l g (81, xm_i81, xm_I81, 0, 0, 166, [(0, .ref 59), (2, .int v2), (4, .long v4), (6, .int v6)], [.int s0], xw_R X t_thrown s_57_1 s_57_18 s_57_19 s_57_20 s_57_24 a_58 a_59 a_60 a_61 a_62 a_63 a_64 a_65 t_lines t_numbers a_68 a_69 t_parts t_sorts t_values a_73 a_74 a_75 l_76) (.inl (some (.long r.1)), xw_R X r.2 s_57_1 s_57_18 s_57_19 s_57_20 s_57_24 a_58 a_59 a_60 a_61 a_62 a_63 a_64 a_65 t_lines t_numbers a_68 a_69 t_parts t_sorts t_values a_73 a_74 a_75 l_76) := by
  intro t_thrown v2 v4 v6 s0 r h
  unfold xf_rf_place_166 at h
  refine xe_seg ok 2 (G := (fun K => K (81, xm_i81, xm_I81, 0, 0, 68, [(0, .ref 59), (2, .int v2), (3, .int s0), (4, .long v4), (6, .int v6)], [], xw_R X t_thrown s_57_1 s_57_18 s_57_19 s_57_20 s_57_24 a_58 a_59 a_60 a_61 a_62 a_63 a_64 a_65 t_lines t_numbers a_68 a_69 t_parts t_sorts t_values a_73 a_74 a_75 l_76))) (fun K => rfl) ?_
  refine xe_k ?_
  refine xe_sub [true, true, true, true, true] (lv' := [(0, .ref 59), (2, .int v2), (3, .int s0), (4, .long v4), (6, .int v6)]) rfl ?_
  have hz := hk68 t_thrown v2 s0 v4 v6 _ h
  exact hz
set_option maxHeartbeats 400000 in
theorem xh_rf_place_57_165 {l : Launch} {g : xr_G} (ok : xr_OK xm_P) (a_58 a_59 a_60 a_61 a_62 a_63 a_64 a_65 a_68 a_69 a_73 a_74 a_75 : Nat → Int32) (l_76 : Nat → Int64) (s_57_1 s_57_18 s_57_19 s_57_20 s_57_24 : Int32) (X : Nat → xr_C) (t_lines : (Nat → Int32)) (t_numbers : (Nat → Int32)) (t_parts : (Nat → Int32)) (t_sorts : (Nat → Int32)) (t_values : (Nat → Int32)) {k68 : Int32 → Int32 → Int32 → Int64 → Int32 → Option (Int64 × Int32)} (hk68 : ∀ (t_thrown : Int32) (v2 : Int32) (v3 : Int32) (v4 : Int64) (v6 : Int32) (r : (Int64 × Int32)), k68 t_thrown v2 v3 v4 v6 = some r → xV xm_P l g (81, xm_i81, xm_I81, 0, 0, 68, [(0, .ref 59), (2, .int v2), (3, .int v3), (4, .long v4), (6, .int v6)], [], xw_R X t_thrown s_57_1 s_57_18 s_57_19 s_57_20 s_57_24 a_58 a_59 a_60 a_61 a_62 a_63 a_64 a_65 t_lines t_numbers a_68 a_69 t_parts t_sorts t_values a_73 a_74 a_75 l_76) (.inl (some (.long r.1)), xw_R X r.2 s_57_1 s_57_18 s_57_19 s_57_20 s_57_24 a_58 a_59 a_60 a_61 a_62 a_63 a_64 a_65 t_lines t_numbers a_68 a_69 t_parts t_sorts t_values a_73 a_74 a_75 l_76)) (n : Nat) : ∀ (t_thrown : Int32) (v2 : Int32) (v4 : Int64) (v6 : Int32) (r : (Int64 × Int32)), xf_rf_place_165 t_lines t_numbers t_parts t_sorts t_values k68 n t_thrown v2 v4 v6 = some r → xV xm_P l g (81, xm_i81, xm_I81, 0, 0, 165, [(0, .ref 59), (2, .int v2), (4, .long v4), (6, .int v6)], [], xw_R X t_thrown s_57_1 s_57_18 s_57_19 s_57_20 s_57_24 a_58 a_59 a_60 a_61 a_62 a_63 a_64 a_65 t_lines t_numbers a_68 a_69 t_parts t_sorts t_values a_73 a_74 a_75 l_76) (.inl (some (.long r.1)), xw_R X r.2 s_57_1 s_57_18 s_57_19 s_57_20 s_57_24 a_58 a_59 a_60 a_61 a_62 a_63 a_64 a_65 t_lines t_numbers a_68 a_69 t_parts t_sorts t_values a_73 a_74 a_75 l_76) := by
  intro t_thrown v2 v4 v6 r h
  unfold xf_rf_place_165 at h
  refine xe_seg ok 1 (G := (fun K => K (81, xm_i81, xm_I81, 0, 0, 166, [(0, .ref 59), (2, .int v2), (4, .long v4), (6, .int v6)], [.int ((-1 : Int32))], xw_R X t_thrown s_57_1 s_57_18 s_57_19 s_57_20 s_57_24 a_58 a_59 a_60 a_61 a_62 a_63 a_64 a_65 t_lines t_numbers a_68 a_69 t_parts t_sorts t_values a_73 a_74 a_75 l_76))) (fun K => rfl) ?_
  refine xe_k ?_
  refine xe_sub [true, true, true, true] (lv' := [(0, .ref 59), (2, .int v2), (4, .long v4), (6, .int v6)]) rfl ?_
  have hz := xh_rf_place_57_166 (l := l) (g := g) ok a_58 a_59 a_60 a_61 a_62 a_63 a_64 a_65 a_68 a_69 a_73 a_74 a_75 l_76 s_57_1 s_57_18 s_57_19 s_57_20 s_57_24 X t_lines t_numbers t_parts t_sorts t_values hk68 n t_thrown v2 v4 v6 ((-1 : Int32)) _ h
  exact hz
set_option maxHeartbeats 400000 in
theorem xh_rf_place_57_143 {l : Launch} {g : xr_G} (ok : xr_OK xm_P) (a_58 a_59 a_60 a_61 a_62 a_63 a_64 a_65 a_68 a_69 a_73 a_74 a_75 : Nat → Int32) (l_76 : Nat → Int64) (s_57_1 s_57_18 s_57_19 s_57_20 s_57_24 : Int32) (X : Nat → xr_C) (t_lines : (Nat → Int32)) (t_numbers : (Nat → Int32)) (t_parts : (Nat → Int32)) (t_sorts : (Nat → Int32)) (t_values : (Nat → Int32)) {k68 : Int32 → Int32 → Int32 → Int64 → Int32 → Option (Int64 × Int32)} (hk68 : ∀ (t_thrown : Int32) (v2 : Int32) (v3 : Int32) (v4 : Int64) (v6 : Int32) (r : (Int64 × Int32)), k68 t_thrown v2 v3 v4 v6 = some r → xV xm_P l g (81, xm_i81, xm_I81, 0, 0, 68, [(0, .ref 59), (2, .int v2), (3, .int v3), (4, .long v4), (6, .int v6)], [], xw_R X t_thrown s_57_1 s_57_18 s_57_19 s_57_20 s_57_24 a_58 a_59 a_60 a_61 a_62 a_63 a_64 a_65 t_lines t_numbers a_68 a_69 t_parts t_sorts t_values a_73 a_74 a_75 l_76) (.inl (some (.long r.1)), xw_R X r.2 s_57_1 s_57_18 s_57_19 s_57_20 s_57_24 a_58 a_59 a_60 a_61 a_62 a_63 a_64 a_65 t_lines t_numbers a_68 a_69 t_parts t_sorts t_values a_73 a_74 a_75 l_76)) (n : Nat) : ∀ (t_thrown : Int32) (v2 : Int32) (v4 : Int64) (v6 : Int32) (s0 : Int32) (r : (Int64 × Int32)), xf_rf_place_143 t_lines t_numbers t_parts t_sorts t_values k68 n t_thrown v2 v4 v6 s0 = some r → xV xm_P l g (81, xm_i81, xm_I81, 0, 0, 143, [(0, .ref 59), (2, .int v2), (4, .long v4), (6, .int v6)], [.int s0], xw_R X t_thrown s_57_1 s_57_18 s_57_19 s_57_20 s_57_24 a_58 a_59 a_60 a_61 a_62 a_63 a_64 a_65 t_lines t_numbers a_68 a_69 t_parts t_sorts t_values a_73 a_74 a_75 l_76) (.inl (some (.long r.1)), xw_R X r.2 s_57_1 s_57_18 s_57_19 s_57_20 s_57_24 a_58 a_59 a_60 a_61 a_62 a_63 a_64 a_65 t_lines t_numbers a_68 a_69 t_parts t_sorts t_values a_73 a_74 a_75 l_76) := by
  intro t_thrown v2 v4 v6 s0 r h
  unfold xf_rf_place_143 at h
  refine xe_seg ok 4 (G := (fun K => if s0 = ((-1 : Int32)) then K (81, xm_i81, xm_I81, 0, 0, 165, [(0, .ref 59), (2, .int v2), (4, .long v4), (6, .int v6), (7, .int s0)], [], xw_R X t_thrown s_57_1 s_57_18 s_57_19 s_57_20 s_57_24 a_58 a_59 a_60 a_61 a_62 a_63 a_64 a_65 t_lines t_numbers a_68 a_69 t_parts t_sorts t_values a_73 a_74 a_75 l_76) else K (81, xm_i81, xm_I81, 0, 0, 151, [(0, .ref 59), (2, .int v2), (4, .long v4), (6, .int v6), (7, .int s0)], [], xw_R X t_thrown s_57_1 s_57_18 s_57_19 s_57_20 s_57_24 a_58 a_59 a_60 a_61 a_62 a_63 a_64 a_65 t_lines t_numbers a_68 a_69 t_parts t_sorts t_values a_73 a_74 a_75 l_76))) (fun K => rfl) ?_
  rcases xb_if h with ⟨hc1173, h⟩ | ⟨hc1173, h⟩
  · refine xe_pos hc1173 (xe_k ?_)
    refine xe_sub [true, true, true, true, false] (lv' := [(0, .ref 59), (2, .int v2), (4, .long v4), (6, .int v6)]) rfl ?_
    have hz := xh_rf_place_57_165 (l := l) (g := g) ok a_58 a_59 a_60 a_61 a_62 a_63 a_64 a_65 a_68 a_69 a_73 a_74 a_75 l_76 s_57_1 s_57_18 s_57_19 s_57_20 s_57_24 X t_lines t_numbers t_parts t_sorts t_values hk68 n t_thrown v2 v4 v6 _ h
    exact hz
  · refine xe_neg hc1173 (xe_k ?_)
    refine xe_seg ok 3 (G := (fun K => xr_back K 81 xm_i81 xm_I81 0 0 154 [(0, .ref 59), (2, .int v2), (4, .long v4), (6, .int v6), (7, .int s0)] [] 78 true (K (80, xm_i80, xm_I80, 0, 0, 0, [(0, .ref 59), (1, .int s0)], [], xw_R X t_thrown s_57_1 s_57_18 s_57_19 s_57_20 s_57_24 a_58 a_59 a_60 a_61 a_62 a_63 a_64 a_65 t_lines t_numbers a_68 a_69 t_parts t_sorts t_values a_73 a_74 a_75 l_76)))) (fun K => rfl) ?_
    obtain ⟨q1174, hq1174, h⟩ := Option.bind_eq_some_iff.mp h
    have heq1174 := xh_rf_isPlaced_57 (l := l) (g := g) ok a_58 a_59 a_60 a_61 a_62 a_63 a_64 a_65 t_lines t_numbers a_68 a_69 t_values a_73 a_74 a_75 l_76 t_thrown s_57_1 s_57_18 s_57_19 s_57_20 s_57_24 X t_parts t_sorts s0 _ hq1174
    refine xe_call1 (ws' := xw_R X t_thrown s_57_1 s_57_18 s_57_19 s_57_20 s_57_24 a_58 a_59 a_60 a_61 a_62 a_63 a_64 a_65 t_lines t_numbers a_68 a_69 t_parts t_sorts t_values a_73 a_74 a_75 l_76) (by decide) heq1174 (Or.inl rfl) ?_
    refine xe_seg ok 1 (G := (fun K => if q1174 = (0 : Int32) then K (81, xm_i81, xm_I81, 0, 0, 165, [(0, .ref 59), (2, .int v2), (4, .long v4), (6, .int v6), (7, .int s0)], [], xw_R X t_thrown s_57_1 s_57_18 s_57_19 s_57_20 s_57_24 a_58 a_59 a_60 a_61 a_62 a_63 a_64 a_65 t_lines t_numbers a_68 a_69 t_parts t_sorts t_values a_73 a_74 a_75 l_76) else K (81, xm_i81, xm_I81, 0, 0, 160, [(0, .ref 59), (2, .int v2), (4, .long v4), (6, .int v6), (7, .int s0)], [], xw_R X t_thrown s_57_1 s_57_18 s_57_19 s_57_20 s_57_24 a_58 a_59 a_60 a_61 a_62 a_63 a_64 a_65 t_lines t_numbers a_68 a_69 t_parts t_sorts t_values a_73 a_74 a_75 l_76))) (fun K => rfl) ?_
    rcases xb_if h with ⟨hc1175, h⟩ | ⟨hc1175, h⟩
    · refine xe_pos hc1175 (xe_k ?_)
      refine xe_sub [true, true, true, true, false] (lv' := [(0, .ref 59), (2, .int v2), (4, .long v4), (6, .int v6)]) rfl ?_
      have hz := xh_rf_place_57_165 (l := l) (g := g) ok a_58 a_59 a_60 a_61 a_62 a_63 a_64 a_65 a_68 a_69 a_73 a_74 a_75 l_76 s_57_1 s_57_18 s_57_19 s_57_20 s_57_24 X t_lines t_numbers t_parts t_sorts t_values hk68 n t_thrown v2 v4 v6 _ h
      exact hz
    · refine xe_neg hc1175 (xe_k ?_)
      refine xe_seg ok 2 (G := (fun K => K (81, xm_i81, xm_I81, 0, 0, 166, [(0, .ref 59), (2, .int v2), (4, .long v4), (6, .int v6), (7, .int s0)], [.int s0], xw_R X t_thrown s_57_1 s_57_18 s_57_19 s_57_20 s_57_24 a_58 a_59 a_60 a_61 a_62 a_63 a_64 a_65 t_lines t_numbers a_68 a_69 t_parts t_sorts t_values a_73 a_74 a_75 l_76))) (fun K => rfl) ?_
      refine xe_k ?_
      refine xe_sub [true, true, true, true, false] (lv' := [(0, .ref 59), (2, .int v2), (4, .long v4), (6, .int v6)]) rfl ?_
      have hz := xh_rf_place_57_166 (l := l) (g := g) ok a_58 a_59 a_60 a_61 a_62 a_63 a_64 a_65 a_68 a_69 a_73 a_74 a_75 l_76 s_57_1 s_57_18 s_57_19 s_57_20 s_57_24 X t_lines t_numbers t_parts t_sorts t_values hk68 n t_thrown v2 v4 v6 s0 _ h
      exact hz
set_option maxHeartbeats 400000 in
theorem xh_rf_place_57_68 {l : Launch} {g : xr_G} (ok : xr_OK xm_P) (a_58 a_59 a_60 a_61 a_62 a_63 a_64 a_65 a_68 a_69 a_73 a_74 a_75 : Nat → Int32) (l_76 : Nat → Int64) (s_57_1 s_57_18 s_57_19 s_57_20 s_57_24 : Int32) (X : Nat → xr_C) (t_lines : (Nat → Int32)) (t_numbers : (Nat → Int32)) (t_parts : (Nat → Int32)) (t_sorts : (Nat → Int32)) (t_values : (Nat → Int32)) (n : Nat) : ∀ (N : Nat) (t_thrown : Int32) (v2 : Int32) (v3 : Int32) (v4 : Int64) (v6 : Int32) (r : (Int64 × Int32)), xf_rf_place_68 t_lines t_numbers t_parts t_sorts t_values n N t_thrown v2 v3 v4 v6 = some r → xV xm_P l g (81, xm_i81, xm_I81, 0, 0, 68, [(0, .ref 59), (2, .int v2), (3, .int v3), (4, .long v4), (6, .int v6)], [], xw_R X t_thrown s_57_1 s_57_18 s_57_19 s_57_20 s_57_24 a_58 a_59 a_60 a_61 a_62 a_63 a_64 a_65 t_lines t_numbers a_68 a_69 t_parts t_sorts t_values a_73 a_74 a_75 l_76) (.inl (some (.long r.1)), xw_R X r.2 s_57_1 s_57_18 s_57_19 s_57_20 s_57_24 a_58 a_59 a_60 a_61 a_62 a_63 a_64 a_65 t_lines t_numbers a_68 a_69 t_parts t_sorts t_values a_73 a_74 a_75 l_76) := by
  intro N
  induction N with
  | zero => intro t_thrown v2 v3 v4 v6 r h; cases h
  | succ N hk68 =>
    intro t_thrown v2 v3 v4 v6 r h
    refine xe_seg ok 3 (G := (fun K => if v3 = ((-1 : Int32)) then K (81, xm_i81, xm_I81, 0, 0, 170, [(0, .ref 59), (2, .int v2), (3, .int v3), (4, .long v4), (6, .int v6)], [], xw_R X t_thrown s_57_1 s_57_18 s_57_19 s_57_20 s_57_24 a_58 a_59 a_60 a_61 a_62 a_63 a_64 a_65 t_lines t_numbers a_68 a_69 t_parts t_sorts t_values a_73 a_74 a_75 l_76) else K (81, xm_i81, xm_I81, 0, 0, 73, [(0, .ref 59), (2, .int v2), (3, .int v3), (4, .long v4), (6, .int v6)], [], xw_R X t_thrown s_57_1 s_57_18 s_57_19 s_57_20 s_57_24 a_58 a_59 a_60 a_61 a_62 a_63 a_64 a_65 t_lines t_numbers a_68 a_69 t_parts t_sorts t_values a_73 a_74 a_75 l_76))) (fun K => rfl) ?_
    rcases xb_if h with ⟨hc1166, h⟩ | ⟨hc1166, h⟩
    · refine xe_pos hc1166 (xe_k ?_)
      obtain rfl := Option.some.inj h
      refine xe_seg ok 2 (G := (fun _ => some (.inl (some (.long v4)), xw_R X t_thrown s_57_1 s_57_18 s_57_19 s_57_20 s_57_24 a_58 a_59 a_60 a_61 a_62 a_63 a_64 a_65 t_lines t_numbers a_68 a_69 t_parts t_sorts t_values a_73 a_74 a_75 l_76))) (fun K => rfl) ?_
      exact xe_ret
    · refine xe_neg hc1166 (xe_k ?_)
      refine xe_seg ok 5 (G := (fun K => if xr_in ((0 : Int32)) 3 = true then K (81, xm_i81, xm_I81, 0, 0, 81, [(0, .ref 59), (2, .int v2), (3, .int v3), (4, .long v4), (6, .int v6)], [.int (t_lines ((0 : Int32)).toNatClampNeg), .int v6], xw_R X t_thrown s_57_1 s_57_18 s_57_19 s_57_20 s_57_24 a_58 a_59 a_60 a_61 a_62 a_63 a_64 a_65 t_lines t_numbers a_68 a_69 t_parts t_sorts t_values a_73 a_74 a_75 l_76) else none)) (fun K => rfl) ?_
      refine xe_pos (by decide) (xe_k ?_)
      refine xe_seg ok 1 (G := (fun K => if (t_lines ((0 : Int32)).toNatClampNeg) < v6 then K (81, xm_i81, xm_I81, 0, 0, 84, [(0, .ref 59), (2, .int v2), (3, .int v3), (4, .long v4), (6, .int v6)], [], xw_R X t_thrown s_57_1 s_57_18 s_57_19 s_57_20 s_57_24 a_58 a_59 a_60 a_61 a_62 a_63 a_64 a_65 t_lines t_numbers a_68 a_69 t_parts t_sorts t_values a_73 a_74 a_75 l_76) else K (81, xm_i81, xm_I81, 0, 0, 88, [(0, .ref 59), (2, .int v2), (3, .int v3), (4, .long v4), (6, .int v6)], [], xw_R X t_thrown s_57_1 s_57_18 s_57_19 s_57_20 s_57_24 a_58 a_59 a_60 a_61 a_62 a_63 a_64 a_65 t_lines t_numbers a_68 a_69 t_parts t_sorts t_values a_73 a_74 a_75 l_76))) (fun K => rfl) ?_
      rcases xb_if h with ⟨hc1167, h⟩ | ⟨hc1167, h⟩
      · refine xe_pos hc1167 (xe_k ?_)
        obtain rfl := Option.some.inj h
        refine xe_seg ok 2 (G := (fun _ => some (.inl (some (.long ((1000000000000 : Int64)))), xw_R X t_thrown s_57_1 s_57_18 s_57_19 s_57_20 s_57_24 a_58 a_59 a_60 a_61 a_62 a_63 a_64 a_65 t_lines t_numbers a_68 a_69 t_parts t_sorts t_values a_73 a_74 a_75 l_76))) (fun K => rfl) ?_
        exact xe_ret
      · refine xe_neg hc1167 (xe_k ?_)
        refine xe_seg ok 10 (G := (fun K => if xr_in ((((8 : Int32)) * v3) + v2) 960 = true then K (81, xm_i81, xm_I81, 0, 0, 104, [(0, .ref 59), (2, .int v2), (3, .int v3), (4, .long v4), (6, .int (v6 + (1 : Int32)))], [.int (t_values ((((8 : Int32)) * v3) + v2).toNatClampNeg), .long v4], xw_R X t_thrown s_57_1 s_57_18 s_57_19 s_57_20 s_57_24 a_58 a_59 a_60 a_61 a_62 a_63 a_64 a_65 t_lines t_numbers a_68 a_69 t_parts t_sorts t_values a_73 a_74 a_75 l_76) else none)) (fun K => rfl) ?_
        obtain ⟨hg1168, h⟩ := xn_if h
        refine xe_pos hg1168 (xe_k ?_)
        refine xe_seg ok 11 (G := (fun K => if xr_in ((((8 : Int32)) * v3) + ((3 : Int32))) 960 = true then K (81, xm_i81, xm_I81, 0, 0, 119, [(0, .ref 59), (2, .int v2), (3, .int v3), (4, .long (v4 + ((t_values ((((8 : Int32)) * v3) + v2).toNatClampNeg).toInt64))), (6, .int (v6 + (1 : Int32)))], [.int (t_sorts ((((8 : Int32)) * v3) + ((3 : Int32))).toNatClampNeg)], xw_R X t_thrown s_57_1 s_57_18 s_57_19 s_57_20 s_57_24 a_58 a_59 a_60 a_61 a_62 a_63 a_64 a_65 t_lines t_numbers a_68 a_69 t_parts t_sorts t_values a_73 a_74 a_75 l_76) else none)) (fun K => rfl) ?_
        obtain ⟨hg1169, h⟩ := xn_if h
        refine xe_pos hg1169 (xe_k ?_)
        refine xe_seg ok 2 (G := (fun K => if (t_sorts ((((8 : Int32)) * v3) + ((3 : Int32))).toNatClampNeg) = ((2 : Int32)) then K (81, xm_i81, xm_I81, 0, 0, 123, [(0, .ref 59), (2, .int v2), (3, .int v3), (4, .long (v4 + ((t_values ((((8 : Int32)) * v3) + v2).toNatClampNeg).toInt64))), (6, .int (v6 + (1 : Int32)))], [], xw_R X t_thrown s_57_1 s_57_18 s_57_19 s_57_20 s_57_24 a_58 a_59 a_60 a_61 a_62 a_63 a_64 a_65 t_lines t_numbers a_68 a_69 t_parts t_sorts t_values a_73 a_74 a_75 l_76) else K (81, xm_i81, xm_I81, 0, 0, 142, [(0, .ref 59), (2, .int v2), (3, .int v3), (4, .long (v4 + ((t_values ((((8 : Int32)) * v3) + v2).toNatClampNeg).toInt64))), (6, .int (v6 + (1 : Int32)))], [], xw_R X t_thrown s_57_1 s_57_18 s_57_19 s_57_20 s_57_24 a_58 a_59 a_60 a_61 a_62 a_63 a_64 a_65 t_lines t_numbers a_68 a_69 t_parts t_sorts t_values a_73 a_74 a_75 l_76))) (fun K => rfl) ?_
        rcases xb_if h with ⟨hc1170, h⟩ | ⟨hc1170, h⟩
        · refine xe_pos hc1170 (xe_k ?_)
          refine xe_seg ok 10 (G := (fun K => if xr_in ((((8 : Int32)) * v3) + ((3 : Int32))) 960 = true then K (81, xm_i81, xm_I81, 0, 0, 136, [(0, .ref 59), (2, .int v2), (3, .int v3), (4, .long (v4 + ((t_values ((((8 : Int32)) * v3) + v2).toNatClampNeg).toInt64))), (6, .int (v6 + (1 : Int32)))], [.int (t_values ((((8 : Int32)) * v3) + ((3 : Int32))).toNatClampNeg), .int ((0 : Int32)), .ref 59], xw_R X t_thrown s_57_1 s_57_18 s_57_19 s_57_20 s_57_24 a_58 a_59 a_60 a_61 a_62 a_63 a_64 a_65 t_lines t_numbers a_68 a_69 t_parts t_sorts t_values a_73 a_74 a_75 l_76) else none)) (fun K => rfl) ?_
          obtain ⟨hg1171, h⟩ := xn_if h
          refine xe_pos hg1171 (xe_k ?_)
          refine xe_seg ok 1 (G := (fun K => xr_back K 81 xm_i81 xm_I81 0 0 136 [(0, .ref 59), (2, .int v2), (3, .int v3), (4, .long (v4 + ((t_values ((((8 : Int32)) * v3) + v2).toNatClampNeg).toInt64))), (6, .int (v6 + (1 : Int32)))] [] 78 true (K (50, xm_i50, xm_I50, 0, 0, 0, [(0, .ref 59), (1, .int ((0 : Int32))), (2, .int (t_values ((((8 : Int32)) * v3) + ((3 : Int32))).toNatClampNeg))], [], xw_R X t_thrown s_57_1 s_57_18 s_57_19 s_57_20 s_57_24 a_58 a_59 a_60 a_61 a_62 a_63 a_64 a_65 t_lines t_numbers a_68 a_69 t_parts t_sorts t_values a_73 a_74 a_75 l_76)))) (fun K => rfl) ?_
          obtain ⟨q1172, hq1172, h⟩ := Option.bind_eq_some_iff.mp h
          have heq1172 := xh_rf_find_57 (l := l) (g := g) ok a_58 a_59 a_60 a_61 a_62 a_63 a_64 a_65 a_68 a_69 t_parts t_sorts t_values a_73 a_74 a_75 l_76 t_thrown s_57_1 s_57_18 s_57_19 s_57_20 s_57_24 X t_lines t_numbers n ((0 : Int32)) (t_values ((((8 : Int32)) * v3) + ((3 : Int32))).toNatClampNeg) _ hq1172
          refine xe_call1 (ws' := xw_R X t_thrown s_57_1 s_57_18 s_57_19 s_57_20 s_57_24 a_58 a_59 a_60 a_61 a_62 a_63 a_64 a_65 t_lines t_numbers a_68 a_69 t_parts t_sorts t_values a_73 a_74 a_75 l_76) (by decide) heq1172 (Or.inl rfl) ?_
          refine xe_seg ok 1 (G := (fun K => K (81, xm_i81, xm_I81, 0, 0, 143, [(0, .ref 59), (2, .int v2), (3, .int v3), (4, .long (v4 + ((t_values ((((8 : Int32)) * v3) + v2).toNatClampNeg).toInt64))), (6, .int (v6 + (1 : Int32)))], [.int q1172], xw_R X t_thrown s_57_1 s_57_18 s_57_19 s_57_20 s_57_24 a_58 a_59 a_60 a_61 a_62 a_63 a_64 a_65 t_lines t_numbers a_68 a_69 t_parts t_sorts t_values a_73 a_74 a_75 l_76))) (fun K => rfl) ?_
          refine xe_k ?_
          refine xe_sub [true, true, false, true, true] (lv' := [(0, .ref 59), (2, .int v2), (4, .long (v4 + ((t_values ((((8 : Int32)) * v3) + v2).toNatClampNeg).toInt64))), (6, .int (v6 + (1 : Int32)))]) rfl ?_
          have hz := xh_rf_place_57_143 (l := l) (g := g) ok a_58 a_59 a_60 a_61 a_62 a_63 a_64 a_65 a_68 a_69 a_73 a_74 a_75 l_76 s_57_1 s_57_18 s_57_19 s_57_20 s_57_24 X t_lines t_numbers t_parts t_sorts t_values hk68 n t_thrown v2 (v4 + ((t_values ((((8 : Int32)) * v3) + v2).toNatClampNeg).toInt64)) (v6 + (1 : Int32)) q1172 _ h
          exact hz
        · refine xe_neg hc1170 (xe_k ?_)
          refine xe_seg ok 1 (G := (fun K => K (81, xm_i81, xm_I81, 0, 0, 143, [(0, .ref 59), (2, .int v2), (3, .int v3), (4, .long (v4 + ((t_values ((((8 : Int32)) * v3) + v2).toNatClampNeg).toInt64))), (6, .int (v6 + (1 : Int32)))], [.int ((-1 : Int32))], xw_R X t_thrown s_57_1 s_57_18 s_57_19 s_57_20 s_57_24 a_58 a_59 a_60 a_61 a_62 a_63 a_64 a_65 t_lines t_numbers a_68 a_69 t_parts t_sorts t_values a_73 a_74 a_75 l_76))) (fun K => rfl) ?_
          refine xe_k ?_
          refine xe_sub [true, true, false, true, true] (lv' := [(0, .ref 59), (2, .int v2), (4, .long (v4 + ((t_values ((((8 : Int32)) * v3) + v2).toNatClampNeg).toInt64))), (6, .int (v6 + (1 : Int32)))]) rfl ?_
          have hz := xh_rf_place_57_143 (l := l) (g := g) ok a_58 a_59 a_60 a_61 a_62 a_63 a_64 a_65 a_68 a_69 a_73 a_74 a_75 l_76 s_57_1 s_57_18 s_57_19 s_57_20 s_57_24 X t_lines t_numbers t_parts t_sorts t_values hk68 n t_thrown v2 (v4 + ((t_values ((((8 : Int32)) * v3) + v2).toNatClampNeg).toInt64)) (v6 + (1 : Int32)) ((-1 : Int32)) _ h
          exact hz
set_option maxHeartbeats 400000 in
theorem xh_rf_place_57_60 {l : Launch} {g : xr_G} (ok : xr_OK xm_P) (a_58 a_59 a_60 a_61 a_62 a_63 a_64 a_65 a_68 a_69 a_73 a_74 a_75 : Nat → Int32) (l_76 : Nat → Int64) (s_57_1 s_57_18 s_57_19 s_57_20 s_57_24 : Int32) (X : Nat → xr_C) (t_lines : (Nat → Int32)) (t_numbers : (Nat → Int32)) (t_parts : (Nat → Int32)) (t_sorts : (Nat → Int32)) (t_values : (Nat → Int32)) (n : Nat) : ∀ (t_thrown : Int32) (r : (Int64 × Int32)), xf_rf_place_60 t_lines t_numbers t_parts t_sorts t_values n t_thrown = some r → xV xm_P l g (81, xm_i81, xm_I81, 0, 0, 60, [], [], xw_R X t_thrown s_57_1 s_57_18 s_57_19 s_57_20 s_57_24 a_58 a_59 a_60 a_61 a_62 a_63 a_64 a_65 t_lines t_numbers a_68 a_69 t_parts t_sorts t_values a_73 a_74 a_75 l_76) (.inl (some (.long r.1)), xw_R X r.2 s_57_1 s_57_18 s_57_19 s_57_20 s_57_24 a_58 a_59 a_60 a_61 a_62 a_63 a_64 a_65 t_lines t_numbers a_68 a_69 t_parts t_sorts t_values a_73 a_74 a_75 l_76) := by
  intro t_thrown r h
  unfold xf_rf_place_60 at h
  obtain rfl := Option.some.inj h
  refine xe_seg ok 2 (G := (fun _ => some (.inl (some (.long ((0 : Int64)))), xw_R X t_thrown s_57_1 s_57_18 s_57_19 s_57_20 s_57_24 a_58 a_59 a_60 a_61 a_62 a_63 a_64 a_65 t_lines t_numbers a_68 a_69 t_parts t_sorts t_values a_73 a_74 a_75 l_76))) (fun K => rfl) ?_
  exact xe_ret
set_option maxHeartbeats 400000 in
theorem xh_rf_place_57_53 {l : Launch} {g : xr_G} (ok : xr_OK xm_P) (a_58 a_59 a_60 a_61 a_62 a_63 a_64 a_65 a_68 a_69 a_73 a_74 a_75 : Nat → Int32) (l_76 : Nat → Int64) (s_57_1 s_57_18 s_57_19 s_57_20 s_57_24 : Int32) (X : Nat → xr_C) (t_lines : (Nat → Int32)) (t_numbers : (Nat → Int32)) (t_parts : (Nat → Int32)) (t_sorts : (Nat → Int32)) (t_values : (Nat → Int32)) (n : Nat) : ∀ (t_thrown : Int32) (v2 : Int32) (v3 : Int32) (s1 : Int32) (r : (Int64 × Int32)), xf_rf_place_53 t_lines t_numbers t_parts t_sorts t_values n t_thrown v2 v3 s1 = some r → xV xm_P l g (81, xm_i81, xm_I81, 0, 0, 53, [(0, .ref 59), (2, .int v2), (3, .int v3)], [.int s1, .ref 59], xw_R X t_thrown s_57_1 s_57_18 s_57_19 s_57_20 s_57_24 a_58 a_59 a_60 a_61 a_62 a_63 a_64 a_65 t_lines t_numbers a_68 a_69 t_parts t_sorts t_values a_73 a_74 a_75 l_76) (.inl (some (.long r.1)), xw_R X r.2 s_57_1 s_57_18 s_57_19 s_57_20 s_57_24 a_58 a_59 a_60 a_61 a_62 a_63 a_64 a_65 t_lines t_numbers a_68 a_69 t_parts t_sorts t_values a_73 a_74 a_75 l_76) := by
  intro t_thrown v2 v3 s1 r h
  unfold xf_rf_place_53 at h
  refine xe_seg ok 2 (G := (fun K => xr_back K 81 xm_i81 xm_I81 0 0 54 [(0, .ref 59), (2, .int v2), (3, .int v3)] [] 78 true (K (32, xm_i32, xm_I32, 0, 0, 0, [(0, .ref 59), (1, .int s1), (2, .int ((1 : Int32)))], [], xw_R X t_thrown s_57_1 s_57_18 s_57_19 s_57_20 s_57_24 a_58 a_59 a_60 a_61 a_62 a_63 a_64 a_65 t_lines t_numbers a_68 a_69 t_parts t_sorts t_values a_73 a_74 a_75 l_76)))) (fun K => rfl) ?_
  obtain ⟨q1164, hq1164, h⟩ := Option.bind_eq_some_iff.mp h
  have heq1164 := xh_rf_fails_57 (l := l) (g := g) ok a_58 a_59 a_60 a_61 a_62 a_63 a_64 a_65 t_lines t_numbers a_68 a_69 t_parts t_sorts t_values a_73 a_74 a_75 l_76 s_57_1 s_57_18 s_57_19 s_57_20 s_57_24 X t_thrown s1 ((1 : Int32)) _ hq1164
  refine xe_call1 (ws' := xw_R X q1164.2 s_57_1 s_57_18 s_57_19 s_57_20 s_57_24 a_58 a_59 a_60 a_61 a_62 a_63 a_64 a_65 t_lines t_numbers a_68 a_69 t_parts t_sorts t_values a_73 a_74 a_75 l_76) (by decide) heq1164 (Or.inl rfl) ?_
  refine xe_seg ok 1 (G := (fun K => if q1164.1 = (0 : Int32) then K (81, xm_i81, xm_I81, 0, 0, 62, [(0, .ref 59), (2, .int v2), (3, .int v3)], [], xw_R X q1164.2 s_57_1 s_57_18 s_57_19 s_57_20 s_57_24 a_58 a_59 a_60 a_61 a_62 a_63 a_64 a_65 t_lines t_numbers a_68 a_69 t_parts t_sorts t_values a_73 a_74 a_75 l_76) else K (81, xm_i81, xm_I81, 0, 0, 60, [(0, .ref 59), (2, .int v2), (3, .int v3)], [], xw_R X q1164.2 s_57_1 s_57_18 s_57_19 s_57_20 s_57_24 a_58 a_59 a_60 a_61 a_62 a_63 a_64 a_65 t_lines t_numbers a_68 a_69 t_parts t_sorts t_values a_73 a_74 a_75 l_76))) (fun K => rfl) ?_
  rcases xb_if h with ⟨hc1165, h⟩ | ⟨hc1165, h⟩
  · refine xe_pos hc1165 (xe_k ?_)
    refine xe_seg ok 4 (G := (fun K => K (81, xm_i81, xm_I81, 0, 0, 68, [(0, .ref 59), (2, .int v2), (3, .int v3), (4, .long ((0 : Int64))), (6, .int ((0 : Int32)))], [], xw_R X q1164.2 s_57_1 s_57_18 s_57_19 s_57_20 s_57_24 a_58 a_59 a_60 a_61 a_62 a_63 a_64 a_65 t_lines t_numbers a_68 a_69 t_parts t_sorts t_values a_73 a_74 a_75 l_76))) (fun K => rfl) ?_
    refine xe_k ?_
    refine xe_sub [true, true, true, true, true] (lv' := [(0, .ref 59), (2, .int v2), (3, .int v3), (4, .long ((0 : Int64))), (6, .int ((0 : Int32)))]) rfl ?_
    have hz := xh_rf_place_57_68 (l := l) (g := g) ok a_58 a_59 a_60 a_61 a_62 a_63 a_64 a_65 a_68 a_69 a_73 a_74 a_75 l_76 s_57_1 s_57_18 s_57_19 s_57_20 s_57_24 X t_lines t_numbers t_parts t_sorts t_values n n q1164.2 v2 v3 ((0 : Int64)) ((0 : Int32)) _ h
    exact hz
  · refine xe_neg hc1165 (xe_k ?_)
    refine xe_sub [false, false, false] (lv' := []) rfl ?_
    have hz := xh_rf_place_57_60 (l := l) (g := g) ok a_58 a_59 a_60 a_61 a_62 a_63 a_64 a_65 a_68 a_69 a_73 a_74 a_75 l_76 s_57_1 s_57_18 s_57_19 s_57_20 s_57_24 X t_lines t_numbers t_parts t_sorts t_values n q1164.2 _ h
    exact hz
