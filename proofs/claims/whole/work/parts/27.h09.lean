set_option maxHeartbeats 400000 in
theorem xh_rf_told_57_27 {l : Launch} {g : xr_G} (ok : xr_OK xm_P) (a_58 a_59 a_63 a_64 a_65 a_75 : Nat → Int32) (s_57_1 s_57_18 s_57_19 s_57_20 s_57_24 : Int32) (X : Nat → xr_C) (t_items : (Nat → Int32)) (t_kindLetters : (Nat → Int32)) (t_kindNames : (Nat → Int32)) (t_kinds : (Nat → Int32)) (t_letters : (Nat → Int32)) (t_lines : (Nat → Int32)) (t_names : (Nat → Int32)) (t_numbers : (Nat → Int32)) (t_parts : (Nat → Int32)) (t_sorts : (Nat → Int32)) (t_values : (Nat → Int32)) (n : Nat) : ∀ (t_depths : (Nat → Int32)) (t_thrown : Int32) (t_ways : (Nat → Int64)) (v2 : Int32) (v3 : Int32) (r : (Int32 × (Nat → Int32) × Int32 × (Nat → Int64))), xf_rf_told_27 t_items t_kindLetters t_kindNames t_kinds t_letters t_lines t_names t_numbers t_parts t_sorts t_values n t_depths t_thrown t_ways v2 v3 = some r → xV xm_P l g (70, xm_i70, xm_I70, 0, 0, 27, [(0, .ref 59), (2, .int v2), (3, .int v3)], [.ref 59], xw_R X t_thrown s_57_1 s_57_18 s_57_19 s_57_20 s_57_24 a_58 a_59 t_kinds t_kindLetters t_kindNames a_63 a_64 a_65 t_lines t_numbers t_letters t_names t_parts t_sorts t_values t_items t_depths a_75 t_ways) (.inl (some (.int r.1)), xw_R X r.2.2.1 s_57_1 s_57_18 s_57_19 s_57_20 s_57_24 a_58 a_59 t_kinds t_kindLetters t_kindNames a_63 a_64 a_65 t_lines t_numbers t_letters t_names t_parts t_sorts t_values t_items r.2.1 a_75 r.2.2.2) := by
  intro t_depths t_thrown t_ways v2 v3 r h
  unfold xf_rf_told_27 at h
  refine xe_seg ok 2 (G := (fun K => K (70, xm_i70, xm_I70, 0, 0, 32, [(0, .ref 59), (2, .int v2), (3, .int v3)], [.int ((1 : Int32)), .ref 59], xw_R X t_thrown s_57_1 s_57_18 s_57_19 s_57_20 s_57_24 a_58 a_59 t_kinds t_kindLetters t_kindNames a_63 a_64 a_65 t_lines t_numbers t_letters t_names t_parts t_sorts t_values t_items t_depths a_75 t_ways))) (fun K => rfl) ?_
  refine xe_k ?_
  refine xe_sub [true, true, true] (lv' := [(0, .ref 59), (2, .int v2), (3, .int v3)]) rfl ?_
  have hz := xh_rf_told_57_32 (l := l) (g := g) ok a_58 a_59 a_63 a_64 a_65 a_75 s_57_1 s_57_18 s_57_19 s_57_20 s_57_24 X t_items t_kindLetters t_kindNames t_kinds t_letters t_lines t_names t_numbers t_parts t_sorts t_values n t_depths t_thrown t_ways v2 v3 ((1 : Int32)) _ h
  exact hz
set_option maxHeartbeats 400000 in
theorem xh_rf_told_57 {l : Launch} {g : xr_G} (ok : xr_OK xm_P) (a_58 a_59 a_63 a_64 a_65 a_75 : Nat → Int32) (s_57_1 s_57_18 s_57_19 s_57_20 s_57_24 : Int32) (X : Nat → xr_C) (t_items : (Nat → Int32)) (t_kindLetters : (Nat → Int32)) (t_kindNames : (Nat → Int32)) (t_kinds : (Nat → Int32)) (t_letters : (Nat → Int32)) (t_lines : (Nat → Int32)) (t_names : (Nat → Int32)) (t_numbers : (Nat → Int32)) (t_parts : (Nat → Int32)) (t_sorts : (Nat → Int32)) (t_values : (Nat → Int32)) (n : Nat) : ∀ (t_depths : (Nat → Int32)) (t_thrown : Int32) (t_ways : (Nat → Int64)) (a1 : Int32) (a2 : Int32) (r : (Int32 × (Nat → Int32) × Int32 × (Nat → Int64))), xf_rf_told t_items t_kindLetters t_kindNames t_kinds t_letters t_lines t_names t_numbers t_parts t_sorts t_values n t_depths t_thrown t_ways a1 a2 = some r → xV xm_P l g (70, xm_i70, xm_I70, 0, 0, 0, [(0, .ref 59), (1, .int a1), (2, .int a2)], [], xw_R X t_thrown s_57_1 s_57_18 s_57_19 s_57_20 s_57_24 a_58 a_59 t_kinds t_kindLetters t_kindNames a_63 a_64 a_65 t_lines t_numbers t_letters t_names t_parts t_sorts t_values t_items t_depths a_75 t_ways) (.inl (some (.int r.1)), xw_R X r.2.2.1 s_57_1 s_57_18 s_57_19 s_57_20 s_57_24 a_58 a_59 t_kinds t_kindLetters t_kindNames a_63 a_64 a_65 t_lines t_numbers t_letters t_names t_parts t_sorts t_values t_items r.2.1 a_75 r.2.2.2) := by
  intro t_depths t_thrown t_ways a1 a2 r h
  unfold xf_rf_told at h
  refine xe_seg ok 7 (G := (fun K => xr_back K 70 xm_i70 xm_I70 0 0 8 [(0, .ref 59), (1, .int a1), (2, .int a2)] [] 78 true (K (50, xm_i50, xm_I50, 0, 0, 0, [(0, .ref 59), (1, .int ((0 : Int32))), (2, .int a1)], [], xw_R X ((0 : Int32)) s_57_1 s_57_18 s_57_19 s_57_20 s_57_24 a_58 a_59 t_kinds t_kindLetters t_kindNames a_63 a_64 a_65 t_lines t_numbers t_letters t_names t_parts t_sorts t_values t_items t_depths a_75 t_ways)))) (fun K => rfl) ?_
  obtain ⟨q1000, hq1000, h⟩ := Option.bind_eq_some_iff.mp h
  have heq1000 := xh_rf_find_57 (l := l) (g := g) ok a_58 a_59 t_kinds t_kindLetters t_kindNames a_63 a_64 a_65 t_letters t_names t_parts t_sorts t_values t_items t_depths a_75 t_ways ((0 : Int32)) s_57_1 s_57_18 s_57_19 s_57_20 s_57_24 X t_lines t_numbers n ((0 : Int32)) a1 _ hq1000
  refine xe_call1 (ws' := xw_R X ((0 : Int32)) s_57_1 s_57_18 s_57_19 s_57_20 s_57_24 a_58 a_59 t_kinds t_kindLetters t_kindNames a_63 a_64 a_65 t_lines t_numbers t_letters t_names t_parts t_sorts t_values t_items t_depths a_75 t_ways) (by decide) heq1000 (Or.inl rfl) ?_
  refine xe_seg ok 5 (G := (fun K => if q1000 = ((-1 : Int32)) then K (70, xm_i70, xm_I70, 0, 0, 27, [(0, .ref 59), (1, .int a1), (2, .int a2), (3, .int q1000)], [.ref 59], xw_R X ((0 : Int32)) s_57_1 s_57_18 s_57_19 s_57_20 s_57_24 a_58 a_59 t_kinds t_kindLetters t_kindNames a_63 a_64 a_65 t_lines t_numbers t_letters t_names t_parts t_sorts t_values t_items t_depths a_75 t_ways) else K (70, xm_i70, xm_I70, 0, 0, 18, [(0, .ref 59), (1, .int a1), (2, .int a2), (3, .int q1000)], [.ref 59], xw_R X ((0 : Int32)) s_57_1 s_57_18 s_57_19 s_57_20 s_57_24 a_58 a_59 t_kinds t_kindLetters t_kindNames a_63 a_64 a_65 t_lines t_numbers t_letters t_names t_parts t_sorts t_values t_items t_depths a_75 t_ways))) (fun K => rfl) ?_
  rcases xb_if h with ⟨hc1001, h⟩ | ⟨hc1001, h⟩
  · refine xe_pos hc1001 (xe_k ?_)
    refine xe_sub [true, false, true, true] (lv' := [(0, .ref 59), (2, .int a2), (3, .int q1000)]) rfl ?_
    have hz := xh_rf_told_57_27 (l := l) (g := g) ok a_58 a_59 a_63 a_64 a_65 a_75 s_57_1 s_57_18 s_57_19 s_57_20 s_57_24 X t_items t_kindLetters t_kindNames t_kinds t_letters t_lines t_names t_numbers t_parts t_sorts t_values n t_depths ((0 : Int32)) t_ways a2 q1000 _ h
    exact hz
  · refine xe_neg hc1001 (xe_k ?_)
    refine xe_seg ok 2 (G := (fun K => if a2 < (0 : Int32) then K (70, xm_i70, xm_I70, 0, 0, 27, [(0, .ref 59), (1, .int a1), (2, .int a2), (3, .int q1000)], [.ref 59], xw_R X ((0 : Int32)) s_57_1 s_57_18 s_57_19 s_57_20 s_57_24 a_58 a_59 t_kinds t_kindLetters t_kindNames a_63 a_64 a_65 t_lines t_numbers t_letters t_names t_parts t_sorts t_values t_items t_depths a_75 t_ways) else K (70, xm_i70, xm_I70, 0, 0, 22, [(0, .ref 59), (1, .int a1), (2, .int a2), (3, .int q1000)], [.ref 59], xw_R X ((0 : Int32)) s_57_1 s_57_18 s_57_19 s_57_20 s_57_24 a_58 a_59 t_kinds t_kindLetters t_kindNames a_63 a_64 a_65 t_lines t_numbers t_letters t_names t_parts t_sorts t_values t_items t_depths a_75 t_ways))) (fun K => rfl) ?_
    rcases xb_if h with ⟨hc1069, h⟩ | ⟨hc1069, h⟩
    · refine xe_pos hc1069 (xe_k ?_)
      refine xe_sub [true, false, true, true] (lv' := [(0, .ref 59), (2, .int a2), (3, .int q1000)]) rfl ?_
      have hz := xh_rf_told_57_27 (l := l) (g := g) ok a_58 a_59 a_63 a_64 a_65 a_75 s_57_1 s_57_18 s_57_19 s_57_20 s_57_24 X t_items t_kindLetters t_kindNames t_kinds t_letters t_lines t_names t_numbers t_parts t_sorts t_values n t_depths ((0 : Int32)) t_ways a2 q1000 _ h
      exact hz
    · refine xe_neg hc1069 (xe_k ?_)
      refine xe_seg ok 3 (G := (fun K => if ((3 : Int32)) < a2 then K (70, xm_i70, xm_I70, 0, 0, 27, [(0, .ref 59), (1, .int a1), (2, .int a2), (3, .int q1000)], [.ref 59], xw_R X ((0 : Int32)) s_57_1 s_57_18 s_57_19 s_57_20 s_57_24 a_58 a_59 t_kinds t_kindLetters t_kindNames a_63 a_64 a_65 t_lines t_numbers t_letters t_names t_parts t_sorts t_values t_items t_depths a_75 t_ways) else K (70, xm_i70, xm_I70, 0, 0, 31, [(0, .ref 59), (1, .int a1), (2, .int a2), (3, .int q1000)], [.ref 59], xw_R X ((0 : Int32)) s_57_1 s_57_18 s_57_19 s_57_20 s_57_24 a_58 a_59 t_kinds t_kindLetters t_kindNames a_63 a_64 a_65 t_lines t_numbers t_letters t_names t_parts t_sorts t_values t_items t_depths a_75 t_ways))) (fun K => rfl) ?_
      rcases xb_if h with ⟨hc1070, h⟩ | ⟨hc1070, h⟩
      · refine xe_pos hc1070 (xe_k ?_)
        refine xe_sub [true, false, true, true] (lv' := [(0, .ref 59), (2, .int a2), (3, .int q1000)]) rfl ?_
        have hz := xh_rf_told_57_27 (l := l) (g := g) ok a_58 a_59 a_63 a_64 a_65 a_75 s_57_1 s_57_18 s_57_19 s_57_20 s_57_24 X t_items t_kindLetters t_kindNames t_kinds t_letters t_lines t_names t_numbers t_parts t_sorts t_values n t_depths ((0 : Int32)) t_ways a2 q1000 _ h
        exact hz
      · refine xe_neg hc1070 (xe_k ?_)
        refine xe_seg ok 1 (G := (fun K => K (70, xm_i70, xm_I70, 0, 0, 32, [(0, .ref 59), (1, .int a1), (2, .int a2), (3, .int q1000)], [.int ((0 : Int32)), .ref 59], xw_R X ((0 : Int32)) s_57_1 s_57_18 s_57_19 s_57_20 s_57_24 a_58 a_59 t_kinds t_kindLetters t_kindNames a_63 a_64 a_65 t_lines t_numbers t_letters t_names t_parts t_sorts t_values t_items t_depths a_75 t_ways))) (fun K => rfl) ?_
        refine xe_k ?_
        refine xe_sub [true, false, true, true] (lv' := [(0, .ref 59), (2, .int a2), (3, .int q1000)]) rfl ?_
        have hz := xh_rf_told_57_32 (l := l) (g := g) ok a_58 a_59 a_63 a_64 a_65 a_75 s_57_1 s_57_18 s_57_19 s_57_20 s_57_24 X t_items t_kindLetters t_kindNames t_kinds t_letters t_lines t_names t_numbers t_parts t_sorts t_values n t_depths ((0 : Int32)) t_ways a2 q1000 ((0 : Int32)) _ h
        exact hz
set_option maxHeartbeats 400000 in
theorem xh_rf_argumentAt_57_36 {l : Launch} {g : xr_G} (ok : xr_OK xm_P) (a_58 a_59 a_60 a_61 a_62 a_63 a_64 a_65 a_68 a_69 a_71 a_72 a_73 a_74 a_75 : Nat → Int32) (l_76 : Nat → Int64) (s_57_0 s_57_1 s_57_18 s_57_19 s_57_20 s_57_24 : Int32) (X : Nat → xr_C) (t_lines : (Nat → Int32)) (t_numbers : (Nat → Int32)) (t_parts : (Nat → Int32)) (n : Nat) : ∀ (s0 : Int32) (r : (Int32)), xf_rf_argumentAt_36 t_lines t_numbers t_parts n s0 = some r → xV xm_P l g (71, xm_i71, xm_I71, 0, 0, 36, [], [.int s0], xw_R X s_57_0 s_57_1 s_57_18 s_57_19 s_57_20 s_57_24 a_58 a_59 a_60 a_61 a_62 a_63 a_64 a_65 t_lines t_numbers a_68 a_69 t_parts a_71 a_72 a_73 a_74 a_75 l_76) (.inl (some (.int r)), xw_R X s_57_0 s_57_1 s_57_18 s_57_19 s_57_20 s_57_24 a_58 a_59 a_60 a_61 a_62 a_63 a_64 a_65 t_lines t_numbers a_68 a_69 t_parts a_71 a_72 a_73 a_74 a_75 l_76) := by
  intro s0 r h
  unfold xf_rf_argumentAt_36 at h
  obtain rfl := Option.some.inj h
  refine xe_seg ok 1 (G := (fun _ => some (.inl (some (.int s0)), xw_R X s_57_0 s_57_1 s_57_18 s_57_19 s_57_20 s_57_24 a_58 a_59 a_60 a_61 a_62 a_63 a_64 a_65 t_lines t_numbers a_68 a_69 t_parts a_71 a_72 a_73 a_74 a_75 l_76))) (fun K => rfl) ?_
  exact xe_ret
set_option maxHeartbeats 400000 in
theorem xh_rf_argumentAt_57_26 {l : Launch} {g : xr_G} (ok : xr_OK xm_P) (a_58 a_59 a_60 a_61 a_62 a_63 a_64 a_65 a_68 a_69 a_71 a_72 a_73 a_74 a_75 : Nat → Int32) (l_76 : Nat → Int64) (s_57_0 s_57_1 s_57_18 s_57_19 s_57_20 s_57_24 : Int32) (X : Nat → xr_C) (t_lines : (Nat → Int32)) (t_numbers : (Nat → Int32)) (t_parts : (Nat → Int32)) (n : Nat) : ∀  (r : (Int32)), xf_rf_argumentAt_26 t_lines t_numbers t_parts n  = some r → xV xm_P l g (71, xm_i71, xm_I71, 0, 0, 26, [], [], xw_R X s_57_0 s_57_1 s_57_18 s_57_19 s_57_20 s_57_24 a_58 a_59 a_60 a_61 a_62 a_63 a_64 a_65 t_lines t_numbers a_68 a_69 t_parts a_71 a_72 a_73 a_74 a_75 l_76) (.inl (some (.int r)), xw_R X s_57_0 s_57_1 s_57_18 s_57_19 s_57_20 s_57_24 a_58 a_59 a_60 a_61 a_62 a_63 a_64 a_65 t_lines t_numbers a_68 a_69 t_parts a_71 a_72 a_73 a_74 a_75 l_76) := by
  intro  r h
  unfold xf_rf_argumentAt_26 at h
  refine xe_seg ok 2 (G := (fun K => K (71, xm_i71, xm_I71, 0, 0, 36, [], [.int ((-1 : Int32))], xw_R X s_57_0 s_57_1 s_57_18 s_57_19 s_57_20 s_57_24 a_58 a_59 a_60 a_61 a_62 a_63 a_64 a_65 t_lines t_numbers a_68 a_69 t_parts a_71 a_72 a_73 a_74 a_75 l_76))) (fun K => rfl) ?_
  refine xe_k ?_
  refine xe_sub [] (lv' := []) rfl ?_
  have hz := xh_rf_argumentAt_57_36 (l := l) (g := g) ok a_58 a_59 a_60 a_61 a_62 a_63 a_64 a_65 a_68 a_69 a_71 a_72 a_73 a_74 a_75 l_76 s_57_0 s_57_1 s_57_18 s_57_19 s_57_20 s_57_24 X t_lines t_numbers t_parts n ((-1 : Int32)) _ h
  exact hz
set_option maxHeartbeats 400000 in
theorem xh_rf_argumentAt_57 {l : Launch} {g : xr_G} (ok : xr_OK xm_P) (a_58 a_59 a_60 a_61 a_62 a_63 a_64 a_65 a_68 a_69 a_71 a_72 a_73 a_74 a_75 : Nat → Int32) (l_76 : Nat → Int64) (s_57_0 s_57_1 s_57_18 s_57_19 s_57_20 s_57_24 : Int32) (X : Nat → xr_C) (t_lines : (Nat → Int32)) (t_numbers : (Nat → Int32)) (t_parts : (Nat → Int32)) (n : Nat) : ∀ (a1 : Int32) (a2 : Int32) (r : (Int32)), xf_rf_argumentAt t_lines t_numbers t_parts n a1 a2 = some r → xV xm_P l g (71, xm_i71, xm_I71, 0, 0, 0, [(0, .ref 59), (1, .int a1), (2, .int a2)], [], xw_R X s_57_0 s_57_1 s_57_18 s_57_19 s_57_20 s_57_24 a_58 a_59 a_60 a_61 a_62 a_63 a_64 a_65 t_lines t_numbers a_68 a_69 t_parts a_71 a_72 a_73 a_74 a_75 l_76) (.inl (some (.int r)), xw_R X s_57_0 s_57_1 s_57_18 s_57_19 s_57_20 s_57_24 a_58 a_59 a_60 a_61 a_62 a_63 a_64 a_65 t_lines t_numbers a_68 a_69 t_parts a_71 a_72 a_73 a_74 a_75 l_76) := by
  intro a1 a2 r h
  unfold xf_rf_argumentAt at h
  refine xe_seg ok 4 (G := (fun K => xr_back K 71 xm_i71 xm_I71 0 0 3 [(0, .ref 59), (1, .int a1), (2, .int a2)] [] 78 true (K (50, xm_i50, xm_I50, 0, 0, 0, [(0, .ref 59), (1, .int ((0 : Int32))), (2, .int a1)], [], xw_R X s_57_0 s_57_1 s_57_18 s_57_19 s_57_20 s_57_24 a_58 a_59 a_60 a_61 a_62 a_63 a_64 a_65 t_lines t_numbers a_68 a_69 t_parts a_71 a_72 a_73 a_74 a_75 l_76)))) (fun K => rfl) ?_
  obtain ⟨q1071, hq1071, h⟩ := Option.bind_eq_some_iff.mp h
  have heq1071 := xh_rf_find_57 (l := l) (g := g) ok a_58 a_59 a_60 a_61 a_62 a_63 a_64 a_65 a_68 a_69 t_parts a_71 a_72 a_73 a_74 a_75 l_76 s_57_0 s_57_1 s_57_18 s_57_19 s_57_20 s_57_24 X t_lines t_numbers n ((0 : Int32)) a1 _ hq1071
  refine xe_call1 (ws' := xw_R X s_57_0 s_57_1 s_57_18 s_57_19 s_57_20 s_57_24 a_58 a_59 a_60 a_61 a_62 a_63 a_64 a_65 t_lines t_numbers a_68 a_69 t_parts a_71 a_72 a_73 a_74 a_75 l_76) (by decide) heq1071 (Or.inl rfl) ?_
  refine xe_seg ok 4 (G := (fun K => if q1071 = ((-1 : Int32)) then K (71, xm_i71, xm_I71, 0, 0, 26, [(0, .ref 59), (1, .int a1), (2, .int a2), (3, .int q1071)], [], xw_R X s_57_0 s_57_1 s_57_18 s_57_19 s_57_20 s_57_24 a_58 a_59 a_60 a_61 a_62 a_63 a_64 a_65 t_lines t_numbers a_68 a_69 t_parts a_71 a_72 a_73 a_74 a_75 l_76) else K (71, xm_i71, xm_I71, 0, 0, 12, [(0, .ref 59), (1, .int a1), (2, .int a2), (3, .int q1071)], [], xw_R X s_57_0 s_57_1 s_57_18 s_57_19 s_57_20 s_57_24 a_58 a_59 a_60 a_61 a_62 a_63 a_64 a_65 t_lines t_numbers a_68 a_69 t_parts a_71 a_72 a_73 a_74 a_75 l_76))) (fun K => rfl) ?_
  rcases xb_if h with ⟨hc1072, h⟩ | ⟨hc1072, h⟩
  · refine xe_pos hc1072 (xe_k ?_)
    refine xe_sub [false, false, false, false] (lv' := []) rfl ?_
    have hz := xh_rf_argumentAt_57_26 (l := l) (g := g) ok a_58 a_59 a_60 a_61 a_62 a_63 a_64 a_65 a_68 a_69 a_71 a_72 a_73 a_74 a_75 l_76 s_57_0 s_57_1 s_57_18 s_57_19 s_57_20 s_57_24 X t_lines t_numbers t_parts n _ h
    exact hz
  · refine xe_neg hc1072 (xe_k ?_)
    refine xe_seg ok 2 (G := (fun K => if a2 < (0 : Int32) then K (71, xm_i71, xm_I71, 0, 0, 26, [(0, .ref 59), (1, .int a1), (2, .int a2), (3, .int q1071)], [], xw_R X s_57_0 s_57_1 s_57_18 s_57_19 s_57_20 s_57_24 a_58 a_59 a_60 a_61 a_62 a_63 a_64 a_65 t_lines t_numbers a_68 a_69 t_parts a_71 a_72 a_73 a_74 a_75 l_76) else K (71, xm_i71, xm_I71, 0, 0, 16, [(0, .ref 59), (1, .int a1), (2, .int a2), (3, .int q1071)], [], xw_R X s_57_0 s_57_1 s_57_18 s_57_19 s_57_20 s_57_24 a_58 a_59 a_60 a_61 a_62 a_63 a_64 a_65 t_lines t_numbers a_68 a_69 t_parts a_71 a_72 a_73 a_74 a_75 l_76))) (fun K => rfl) ?_
    rcases xb_if h with ⟨hc1073, h⟩ | ⟨hc1073, h⟩
    · refine xe_pos hc1073 (xe_k ?_)
      refine xe_sub [false, false, false, false] (lv' := []) rfl ?_
      have hz := xh_rf_argumentAt_57_26 (l := l) (g := g) ok a_58 a_59 a_60 a_61 a_62 a_63 a_64 a_65 a_68 a_69 a_71 a_72 a_73 a_74 a_75 l_76 s_57_0 s_57_1 s_57_18 s_57_19 s_57_20 s_57_24 X t_lines t_numbers t_parts n _ h
      exact hz
    · refine xe_neg hc1073 (xe_k ?_)
      refine xe_seg ok 5 (G := (fun K => if xr_in q1071 120 = true then K (71, xm_i71, xm_I71, 0, 0, 23, [(0, .ref 59), (1, .int a1), (2, .int a2), (3, .int q1071)], [.int (t_parts q1071.toNatClampNeg), .int a2], xw_R X s_57_0 s_57_1 s_57_18 s_57_19 s_57_20 s_57_24 a_58 a_59 a_60 a_61 a_62 a_63 a_64 a_65 t_lines t_numbers a_68 a_69 t_parts a_71 a_72 a_73 a_74 a_75 l_76) else none)) (fun K => rfl) ?_
      obtain ⟨hg1074, h⟩ := xn_if h
      refine xe_pos hg1074 (xe_k ?_)
      refine xe_seg ok 1 (G := (fun K => if a2 < (t_parts q1071.toNatClampNeg) then K (71, xm_i71, xm_I71, 0, 0, 30, [(0, .ref 59), (1, .int a1), (2, .int a2), (3, .int q1071)], [], xw_R X s_57_0 s_57_1 s_57_18 s_57_19 s_57_20 s_57_24 a_58 a_59 a_60 a_61 a_62 a_63 a_64 a_65 t_lines t_numbers a_68 a_69 t_parts a_71 a_72 a_73 a_74 a_75 l_76) else K (71, xm_i71, xm_I71, 0, 0, 26, [(0, .ref 59), (1, .int a1), (2, .int a2), (3, .int q1071)], [], xw_R X s_57_0 s_57_1 s_57_18 s_57_19 s_57_20 s_57_24 a_58 a_59 a_60 a_61 a_62 a_63 a_64 a_65 t_lines t_numbers a_68 a_69 t_parts a_71 a_72 a_73 a_74 a_75 l_76))) (fun K => rfl) ?_
      rcases xb_if h with ⟨hc1075, h⟩ | ⟨hc1075, h⟩
      · refine xe_pos hc1075 (xe_k ?_)
        refine xe_seg ok 5 (G := (fun K => K (71, xm_i71, xm_I71, 0, 0, 36, [(0, .ref 59), (1, .int a1), (2, .int a2), (3, .int q1071)], [.int ((((8 : Int32)) * q1071) + a2)], xw_R X s_57_0 s_57_1 s_57_18 s_57_19 s_57_20 s_57_24 a_58 a_59 a_60 a_61 a_62 a_63 a_64 a_65 t_lines t_numbers a_68 a_69 t_parts a_71 a_72 a_73 a_74 a_75 l_76))) (fun K => rfl) ?_
        refine xe_k ?_
        refine xe_sub [false, false, false, false] (lv' := []) rfl ?_
        have hz := xh_rf_argumentAt_57_36 (l := l) (g := g) ok a_58 a_59 a_60 a_61 a_62 a_63 a_64 a_65 a_68 a_69 a_71 a_72 a_73 a_74 a_75 l_76 s_57_0 s_57_1 s_57_18 s_57_19 s_57_20 s_57_24 X t_lines t_numbers t_parts n ((((8 : Int32)) * q1071) + a2) _ h
        exact hz
      · refine xe_neg hc1075 (xe_k ?_)
        refine xe_sub [false, false, false, false] (lv' := []) rfl ?_
        have hz := xh_rf_argumentAt_57_26 (l := l) (g := g) ok a_58 a_59 a_60 a_61 a_62 a_63 a_64 a_65 a_68 a_69 a_71 a_72 a_73 a_74 a_75 l_76 s_57_0 s_57_1 s_57_18 s_57_19 s_57_20 s_57_24 X t_lines t_numbers t_parts n _ h
        exact hz
set_option maxHeartbeats 400000 in
theorem xh_rf_argument3_57_64 {l : Launch} {g : xr_G} (ok : xr_OK xm_P) (a_58 a_59 a_60 a_61 a_62 a_63 a_64 a_65 a_68 a_69 a_73 a_74 a_75 : Nat → Int32) (l_76 : Nat → Int64) (s_57_1 s_57_18 s_57_19 s_57_20 s_57_24 : Int32) (X : Nat → xr_C) (t_lines : (Nat → Int32)) (t_numbers : (Nat → Int32)) (t_parts : (Nat → Int32)) (t_sorts : (Nat → Int32)) (t_values : (Nat → Int32)) (n : Nat) : ∀ (t_thrown : Int32) (s0 : Int32) (r : (Int32 × Int32)), xf_rf_argument3_64 t_lines t_numbers t_parts t_sorts t_values n t_thrown s0 = some r → xV xm_P l g (72, xm_i72, xm_I72, 0, 0, 64, [], [.int s0], xw_R X t_thrown s_57_1 s_57_18 s_57_19 s_57_20 s_57_24 a_58 a_59 a_60 a_61 a_62 a_63 a_64 a_65 t_lines t_numbers a_68 a_69 t_parts t_sorts t_values a_73 a_74 a_75 l_76) (.inl (some (.int r.1)), xw_R X r.2 s_57_1 s_57_18 s_57_19 s_57_20 s_57_24 a_58 a_59 a_60 a_61 a_62 a_63 a_64 a_65 t_lines t_numbers a_68 a_69 t_parts t_sorts t_values a_73 a_74 a_75 l_76) := by
  intro t_thrown s0 r h
  unfold xf_rf_argument3_64 at h
  obtain rfl := Option.some.inj h
  refine xe_seg ok 1 (G := (fun _ => some (.inl (some (.int s0)), xw_R X t_thrown s_57_1 s_57_18 s_57_19 s_57_20 s_57_24 a_58 a_59 a_60 a_61 a_62 a_63 a_64 a_65 t_lines t_numbers a_68 a_69 t_parts t_sorts t_values a_73 a_74 a_75 l_76))) (fun K => rfl) ?_
  exact xe_ret
set_option maxHeartbeats 400000 in
theorem xh_rf_argument3_57_34 {l : Launch} {g : xr_G} (ok : xr_OK xm_P) (a_58 a_59 a_60 a_61 a_62 a_63 a_64 a_65 a_68 a_69 a_73 a_74 a_75 : Nat → Int32) (l_76 : Nat → Int64) (s_57_1 s_57_18 s_57_19 s_57_20 s_57_24 : Int32) (X : Nat → xr_C) (t_lines : (Nat → Int32)) (t_numbers : (Nat → Int32)) (t_parts : (Nat → Int32)) (t_sorts : (Nat → Int32)) (t_values : (Nat → Int32)) (n : Nat) : ∀ (t_thrown : Int32) (v3 : Int32) (v4 : Int32) (s1 : Int32) (r : (Int32 × Int32)), xf_rf_argument3_34 t_lines t_numbers t_parts t_sorts t_values n t_thrown v3 v4 s1 = some r → xV xm_P l g (72, xm_i72, xm_I72, 0, 0, 34, [(0, .ref 59), (3, .int v3), (4, .int v4)], [.int s1, .ref 59], xw_R X t_thrown s_57_1 s_57_18 s_57_19 s_57_20 s_57_24 a_58 a_59 a_60 a_61 a_62 a_63 a_64 a_65 t_lines t_numbers a_68 a_69 t_parts t_sorts t_values a_73 a_74 a_75 l_76) (.inl (some (.int r.1)), xw_R X r.2 s_57_1 s_57_18 s_57_19 s_57_20 s_57_24 a_58 a_59 a_60 a_61 a_62 a_63 a_64 a_65 t_lines t_numbers a_68 a_69 t_parts t_sorts t_values a_73 a_74 a_75 l_76) := by
  intro t_thrown v3 v4 s1 r h
  unfold xf_rf_argument3_34 at h
  refine xe_seg ok 2 (G := (fun K => xr_back K 72 xm_i72 xm_I72 0 0 35 [(0, .ref 59), (3, .int v3), (4, .int v4)] [] 78 true (K (32, xm_i32, xm_I32, 0, 0, 0, [(0, .ref 59), (1, .int s1), (2, .int ((1 : Int32)))], [], xw_R X t_thrown s_57_1 s_57_18 s_57_19 s_57_20 s_57_24 a_58 a_59 a_60 a_61 a_62 a_63 a_64 a_65 t_lines t_numbers a_68 a_69 t_parts t_sorts t_values a_73 a_74 a_75 l_76)))) (fun K => rfl) ?_
  obtain ⟨q1078, hq1078, h⟩ := Option.bind_eq_some_iff.mp h
  have heq1078 := xh_rf_fails_57 (l := l) (g := g) ok a_58 a_59 a_60 a_61 a_62 a_63 a_64 a_65 t_lines t_numbers a_68 a_69 t_parts t_sorts t_values a_73 a_74 a_75 l_76 s_57_1 s_57_18 s_57_19 s_57_20 s_57_24 X t_thrown s1 ((1 : Int32)) _ hq1078
  refine xe_call1 (ws' := xw_R X q1078.2 s_57_1 s_57_18 s_57_19 s_57_20 s_57_24 a_58 a_59 a_60 a_61 a_62 a_63 a_64 a_65 t_lines t_numbers a_68 a_69 t_parts t_sorts t_values a_73 a_74 a_75 l_76) (by decide) heq1078 (Or.inl rfl) ?_
  refine xe_seg ok 1 (G := (fun K => if q1078.1 = (0 : Int32) then K (72, xm_i72, xm_I72, 0, 0, 43, [(0, .ref 59), (3, .int v3), (4, .int v4)], [], xw_R X q1078.2 s_57_1 s_57_18 s_57_19 s_57_20 s_57_24 a_58 a_59 a_60 a_61 a_62 a_63 a_64 a_65 t_lines t_numbers a_68 a_69 t_parts t_sorts t_values a_73 a_74 a_75 l_76) else K (72, xm_i72, xm_I72, 0, 0, 41, [(0, .ref 59), (3, .int v3), (4, .int v4)], [], xw_R X q1078.2 s_57_1 s_57_18 s_57_19 s_57_20 s_57_24 a_58 a_59 a_60 a_61 a_62 a_63 a_64 a_65 t_lines t_numbers a_68 a_69 t_parts t_sorts t_values a_73 a_74 a_75 l_76))) (fun K => rfl) ?_
  rcases xb_if h with ⟨hc1079, h⟩ | ⟨hc1079, h⟩
  · refine xe_pos hc1079 (xe_k ?_)
    refine xe_seg ok 2 (G := (fun K => if v3 = (0 : Int32) then K (72, xm_i72, xm_I72, 0, 0, 47, [(0, .ref 59), (3, .int v3), (4, .int v4)], [], xw_R X q1078.2 s_57_1 s_57_18 s_57_19 s_57_20 s_57_24 a_58 a_59 a_60 a_61 a_62 a_63 a_64 a_65 t_lines t_numbers a_68 a_69 t_parts t_sorts t_values a_73 a_74 a_75 l_76) else K (72, xm_i72, xm_I72, 0, 0, 57, [(0, .ref 59), (3, .int v3), (4, .int v4)], [], xw_R X q1078.2 s_57_1 s_57_18 s_57_19 s_57_20 s_57_24 a_58 a_59 a_60 a_61 a_62 a_63 a_64 a_65 t_lines t_numbers a_68 a_69 t_parts t_sorts t_values a_73 a_74 a_75 l_76))) (fun K => rfl) ?_
    rcases xb_if h with ⟨hc1080, h⟩ | ⟨hc1080, h⟩
    · refine xe_pos hc1080 (xe_k ?_)
      refine xe_seg ok 4 (G := (fun K => if xr_in v4 960 = true then K (72, xm_i72, xm_I72, 0, 0, 54, [(0, .ref 59), (3, .int v3), (4, .int v4)], [.int (t_sorts v4.toNatClampNeg)], xw_R X q1078.2 s_57_1 s_57_18 s_57_19 s_57_20 s_57_24 a_58 a_59 a_60 a_61 a_62 a_63 a_64 a_65 t_lines t_numbers a_68 a_69 t_parts t_sorts t_values a_73 a_74 a_75 l_76) else none)) (fun K => rfl) ?_
      obtain ⟨hg1081, h⟩ := xn_if h
      refine xe_pos hg1081 (xe_k ?_)
      refine xe_seg ok 1 (G := (fun K => K (72, xm_i72, xm_I72, 0, 0, 64, [(0, .ref 59), (3, .int v3), (4, .int v4)], [.int (t_sorts v4.toNatClampNeg)], xw_R X q1078.2 s_57_1 s_57_18 s_57_19 s_57_20 s_57_24 a_58 a_59 a_60 a_61 a_62 a_63 a_64 a_65 t_lines t_numbers a_68 a_69 t_parts t_sorts t_values a_73 a_74 a_75 l_76))) (fun K => rfl) ?_
      refine xe_k ?_
      refine xe_sub [false, false, false] (lv' := []) rfl ?_
      have hz := xh_rf_argument3_57_64 (l := l) (g := g) ok a_58 a_59 a_60 a_61 a_62 a_63 a_64 a_65 a_68 a_69 a_73 a_74 a_75 l_76 s_57_1 s_57_18 s_57_19 s_57_20 s_57_24 X t_lines t_numbers t_parts t_sorts t_values n q1078.2 (t_sorts v4.toNatClampNeg) _ h
      exact hz
    · refine xe_neg hc1080 (xe_k ?_)
      refine xe_seg ok 4 (G := (fun K => if xr_in v4 960 = true then K (72, xm_i72, xm_I72, 0, 0, 64, [(0, .ref 59), (3, .int v3), (4, .int v4)], [.int (t_values v4.toNatClampNeg)], xw_R X q1078.2 s_57_1 s_57_18 s_57_19 s_57_20 s_57_24 a_58 a_59 a_60 a_61 a_62 a_63 a_64 a_65 t_lines t_numbers a_68 a_69 t_parts t_sorts t_values a_73 a_74 a_75 l_76) else none)) (fun K => rfl) ?_
      obtain ⟨hg1082, h⟩ := xn_if h
      refine xe_pos hg1082 (xe_k ?_)
      refine xe_sub [false, false, false] (lv' := []) rfl ?_
      have hz := xh_rf_argument3_57_64 (l := l) (g := g) ok a_58 a_59 a_60 a_61 a_62 a_63 a_64 a_65 a_68 a_69 a_73 a_74 a_75 l_76 s_57_1 s_57_18 s_57_19 s_57_20 s_57_24 X t_lines t_numbers t_parts t_sorts t_values n q1078.2 (t_values v4.toNatClampNeg) _ h
      exact hz
  · refine xe_neg hc1079 (xe_k ?_)
    obtain rfl := Option.some.inj h
    refine xe_seg ok 2 (G := (fun _ => some (.inl (some (.int ((0 : Int32)))), xw_R X q1078.2 s_57_1 s_57_18 s_57_19 s_57_20 s_57_24 a_58 a_59 a_60 a_61 a_62 a_63 a_64 a_65 t_lines t_numbers a_68 a_69 t_parts t_sorts t_values a_73 a_74 a_75 l_76))) (fun K => rfl) ?_
    exact xe_ret
set_option maxHeartbeats 400000 in
theorem xh_rf_argument3_57_29 {l : Launch} {g : xr_G} (ok : xr_OK xm_P) (a_58 a_59 a_60 a_61 a_62 a_63 a_64 a_65 a_68 a_69 a_73 a_74 a_75 : Nat → Int32) (l_76 : Nat → Int64) (s_57_1 s_57_18 s_57_19 s_57_20 s_57_24 : Int32) (X : Nat → xr_C) (t_lines : (Nat → Int32)) (t_numbers : (Nat → Int32)) (t_parts : (Nat → Int32)) (t_sorts : (Nat → Int32)) (t_values : (Nat → Int32)) (n : Nat) : ∀ (t_thrown : Int32) (v3 : Int32) (v4 : Int32) (r : (Int32 × Int32)), xf_rf_argument3_29 t_lines t_numbers t_parts t_sorts t_values n t_thrown v3 v4 = some r → xV xm_P l g (72, xm_i72, xm_I72, 0, 0, 29, [(0, .ref 59), (3, .int v3), (4, .int v4)], [.ref 59], xw_R X t_thrown s_57_1 s_57_18 s_57_19 s_57_20 s_57_24 a_58 a_59 a_60 a_61 a_62 a_63 a_64 a_65 t_lines t_numbers a_68 a_69 t_parts t_sorts t_values a_73 a_74 a_75 l_76) (.inl (some (.int r.1)), xw_R X r.2 s_57_1 s_57_18 s_57_19 s_57_20 s_57_24 a_58 a_59 a_60 a_61 a_62 a_63 a_64 a_65 t_lines t_numbers a_68 a_69 t_parts t_sorts t_values a_73 a_74 a_75 l_76) := by
  intro t_thrown v3 v4 r h
  unfold xf_rf_argument3_29 at h
  refine xe_seg ok 2 (G := (fun K => K (72, xm_i72, xm_I72, 0, 0, 34, [(0, .ref 59), (3, .int v3), (4, .int v4)], [.int ((1 : Int32)), .ref 59], xw_R X t_thrown s_57_1 s_57_18 s_57_19 s_57_20 s_57_24 a_58 a_59 a_60 a_61 a_62 a_63 a_64 a_65 t_lines t_numbers a_68 a_69 t_parts t_sorts t_values a_73 a_74 a_75 l_76))) (fun K => rfl) ?_
  refine xe_k ?_
  refine xe_sub [true, true, true] (lv' := [(0, .ref 59), (3, .int v3), (4, .int v4)]) rfl ?_
  have hz := xh_rf_argument3_57_34 (l := l) (g := g) ok a_58 a_59 a_60 a_61 a_62 a_63 a_64 a_65 a_68 a_69 a_73 a_74 a_75 l_76 s_57_1 s_57_18 s_57_19 s_57_20 s_57_24 X t_lines t_numbers t_parts t_sorts t_values n t_thrown v3 v4 ((1 : Int32)) _ h
  exact hz
set_option maxHeartbeats 400000 in
theorem xh_rf_argument3_57 {l : Launch} {g : xr_G} (ok : xr_OK xm_P) (a_58 a_59 a_60 a_61 a_62 a_63 a_64 a_65 a_68 a_69 a_73 a_74 a_75 : Nat → Int32) (l_76 : Nat → Int64) (s_57_1 s_57_18 s_57_19 s_57_20 s_57_24 : Int32) (X : Nat → xr_C) (t_lines : (Nat → Int32)) (t_numbers : (Nat → Int32)) (t_parts : (Nat → Int32)) (t_sorts : (Nat → Int32)) (t_values : (Nat → Int32)) (n : Nat) : ∀ (t_thrown : Int32) (a1 : Int32) (a2 : Int32) (a3 : Int32) (r : (Int32 × Int32)), xf_rf_argument3 t_lines t_numbers t_parts t_sorts t_values n t_thrown a1 a2 a3 = some r → xV xm_P l g (72, xm_i72, xm_I72, 0, 0, 0, [(0, .ref 59), (1, .int a1), (2, .int a2), (3, .int a3)], [], xw_R X t_thrown s_57_1 s_57_18 s_57_19 s_57_20 s_57_24 a_58 a_59 a_60 a_61 a_62 a_63 a_64 a_65 t_lines t_numbers a_68 a_69 t_parts t_sorts t_values a_73 a_74 a_75 l_76) (.inl (some (.int r.1)), xw_R X r.2 s_57_1 s_57_18 s_57_19 s_57_20 s_57_24 a_58 a_59 a_60 a_61 a_62 a_63 a_64 a_65 t_lines t_numbers a_68 a_69 t_parts t_sorts t_values a_73 a_74 a_75 l_76) := by
  intro t_thrown a1 a2 a3 r h
  unfold xf_rf_argument3 at h
  refine xe_seg ok 7 (G := (fun K => xr_back K 72 xm_i72 xm_I72 0 0 8 [(0, .ref 59), (1, .int a1), (2, .int a2), (3, .int a3)] [] 78 true (K (71, xm_i71, xm_I71, 0, 0, 0, [(0, .ref 59), (1, .int a1), (2, .int a2)], [], xw_R X ((0 : Int32)) s_57_1 s_57_18 s_57_19 s_57_20 s_57_24 a_58 a_59 a_60 a_61 a_62 a_63 a_64 a_65 t_lines t_numbers a_68 a_69 t_parts t_sorts t_values a_73 a_74 a_75 l_76)))) (fun K => rfl) ?_
  obtain ⟨q1076, hq1076, h⟩ := Option.bind_eq_some_iff.mp h
  have heq1076 := xh_rf_argumentAt_57 (l := l) (g := g) ok a_58 a_59 a_60 a_61 a_62 a_63 a_64 a_65 a_68 a_69 t_sorts t_values a_73 a_74 a_75 l_76 ((0 : Int32)) s_57_1 s_57_18 s_57_19 s_57_20 s_57_24 X t_lines t_numbers t_parts n a1 a2 _ hq1076
  refine xe_call1 (ws' := xw_R X ((0 : Int32)) s_57_1 s_57_18 s_57_19 s_57_20 s_57_24 a_58 a_59 a_60 a_61 a_62 a_63 a_64 a_65 t_lines t_numbers a_68 a_69 t_parts t_sorts t_values a_73 a_74 a_75 l_76) (by decide) heq1076 (Or.inl rfl) ?_
  refine xe_seg ok 5 (G := (fun K => if q1076 = ((-1 : Int32)) then K (72, xm_i72, xm_I72, 0, 0, 29, [(0, .ref 59), (1, .int a1), (2, .int a2), (3, .int a3), (4, .int q1076)], [.ref 59], xw_R X ((0 : Int32)) s_57_1 s_57_18 s_57_19 s_57_20 s_57_24 a_58 a_59 a_60 a_61 a_62 a_63 a_64 a_65 t_lines t_numbers a_68 a_69 t_parts t_sorts t_values a_73 a_74 a_75 l_76) else K (72, xm_i72, xm_I72, 0, 0, 20, [(0, .ref 59), (1, .int a1), (2, .int a2), (3, .int a3), (4, .int q1076)], [.ref 59], xw_R X ((0 : Int32)) s_57_1 s_57_18 s_57_19 s_57_20 s_57_24 a_58 a_59 a_60 a_61 a_62 a_63 a_64 a_65 t_lines t_numbers a_68 a_69 t_parts t_sorts t_values a_73 a_74 a_75 l_76))) (fun K => rfl) ?_
  rcases xb_if h with ⟨hc1077, h⟩ | ⟨hc1077, h⟩
  · refine xe_pos hc1077 (xe_k ?_)
    refine xe_sub [true, false, false, true, true] (lv' := [(0, .ref 59), (3, .int a3), (4, .int q1076)]) rfl ?_
    have hz := xh_rf_argument3_57_29 (l := l) (g := g) ok a_58 a_59 a_60 a_61 a_62 a_63 a_64 a_65 a_68 a_69 a_73 a_74 a_75 l_76 s_57_1 s_57_18 s_57_19 s_57_20 s_57_24 X t_lines t_numbers t_parts t_sorts t_values n ((0 : Int32)) a3 q1076 _ h
    exact hz
  · refine xe_neg hc1077 (xe_k ?_)
    refine xe_seg ok 2 (G := (fun K => if a3 < (0 : Int32) then K (72, xm_i72, xm_I72, 0, 0, 29, [(0, .ref 59), (1, .int a1), (2, .int a2), (3, .int a3), (4, .int q1076)], [.ref 59], xw_R X ((0 : Int32)) s_57_1 s_57_18 s_57_19 s_57_20 s_57_24 a_58 a_59 a_60 a_61 a_62 a_63 a_64 a_65 t_lines t_numbers a_68 a_69 t_parts t_sorts t_values a_73 a_74 a_75 l_76) else K (72, xm_i72, xm_I72, 0, 0, 24, [(0, .ref 59), (1, .int a1), (2, .int a2), (3, .int a3), (4, .int q1076)], [.ref 59], xw_R X ((0 : Int32)) s_57_1 s_57_18 s_57_19 s_57_20 s_57_24 a_58 a_59 a_60 a_61 a_62 a_63 a_64 a_65 t_lines t_numbers a_68 a_69 t_parts t_sorts t_values a_73 a_74 a_75 l_76))) (fun K => rfl) ?_
    rcases xb_if h with ⟨hc1083, h⟩ | ⟨hc1083, h⟩
    · refine xe_pos hc1083 (xe_k ?_)
      refine xe_sub [true, false, false, true, true] (lv' := [(0, .ref 59), (3, .int a3), (4, .int q1076)]) rfl ?_
      have hz := xh_rf_argument3_57_29 (l := l) (g := g) ok a_58 a_59 a_60 a_61 a_62 a_63 a_64 a_65 a_68 a_69 a_73 a_74 a_75 l_76 s_57_1 s_57_18 s_57_19 s_57_20 s_57_24 X t_lines t_numbers t_parts t_sorts t_values n ((0 : Int32)) a3 q1076 _ h
      exact hz
    · refine xe_neg hc1083 (xe_k ?_)
      refine xe_seg ok 3 (G := (fun K => if ((1 : Int32)) < a3 then K (72, xm_i72, xm_I72, 0, 0, 29, [(0, .ref 59), (1, .int a1), (2, .int a2), (3, .int a3), (4, .int q1076)], [.ref 59], xw_R X ((0 : Int32)) s_57_1 s_57_18 s_57_19 s_57_20 s_57_24 a_58 a_59 a_60 a_61 a_62 a_63 a_64 a_65 t_lines t_numbers a_68 a_69 t_parts t_sorts t_values a_73 a_74 a_75 l_76) else K (72, xm_i72, xm_I72, 0, 0, 33, [(0, .ref 59), (1, .int a1), (2, .int a2), (3, .int a3), (4, .int q1076)], [.ref 59], xw_R X ((0 : Int32)) s_57_1 s_57_18 s_57_19 s_57_20 s_57_24 a_58 a_59 a_60 a_61 a_62 a_63 a_64 a_65 t_lines t_numbers a_68 a_69 t_parts t_sorts t_values a_73 a_74 a_75 l_76))) (fun K => rfl) ?_
      rcases xb_if h with ⟨hc1084, h⟩ | ⟨hc1084, h⟩
      · refine xe_pos hc1084 (xe_k ?_)
        refine xe_sub [true, false, false, true, true] (lv' := [(0, .ref 59), (3, .int a3), (4, .int q1076)]) rfl ?_
        have hz := xh_rf_argument3_57_29 (l := l) (g := g) ok a_58 a_59 a_60 a_61 a_62 a_63 a_64 a_65 a_68 a_69 a_73 a_74 a_75 l_76 s_57_1 s_57_18 s_57_19 s_57_20 s_57_24 X t_lines t_numbers t_parts t_sorts t_values n ((0 : Int32)) a3 q1076 _ h
        exact hz
      · refine xe_neg hc1084 (xe_k ?_)
        refine xe_seg ok 1 (G := (fun K => K (72, xm_i72, xm_I72, 0, 0, 34, [(0, .ref 59), (1, .int a1), (2, .int a2), (3, .int a3), (4, .int q1076)], [.int ((0 : Int32)), .ref 59], xw_R X ((0 : Int32)) s_57_1 s_57_18 s_57_19 s_57_20 s_57_24 a_58 a_59 a_60 a_61 a_62 a_63 a_64 a_65 t_lines t_numbers a_68 a_69 t_parts t_sorts t_values a_73 a_74 a_75 l_76))) (fun K => rfl) ?_
        refine xe_k ?_
        refine xe_sub [true, false, false, true, true] (lv' := [(0, .ref 59), (3, .int a3), (4, .int q1076)]) rfl ?_
        have hz := xh_rf_argument3_57_34 (l := l) (g := g) ok a_58 a_59 a_60 a_61 a_62 a_63 a_64 a_65 a_68 a_69 a_73 a_74 a_75 l_76 s_57_1 s_57_18 s_57_19 s_57_20 s_57_24 X t_lines t_numbers t_parts t_sorts t_values n ((0 : Int32)) a3 q1076 ((0 : Int32)) _ h
        exact hz
set_option maxHeartbeats 400000 in
theorem xh_rf_item_57_85 {l : Launch} {g : xr_G} (ok : xr_OK xm_P) (a_58 a_59 a_60 a_61 a_62 a_63 a_64 a_65 a_68 a_69 a_74 a_75 : Nat → Int32) (l_76 : Nat → Int64) (s_57_1 s_57_18 s_57_19 s_57_20 s_57_24 : Int32) (X : Nat → xr_C) (t_items : (Nat → Int32)) (t_lines : (Nat → Int32)) (t_numbers : (Nat → Int32)) (t_parts : (Nat → Int32)) (t_sorts : (Nat → Int32)) (t_values : (Nat → Int32)) (n : Nat) : ∀ (t_thrown : Int32) (v3 : Int32) (v4 : Int32) (s1 : Int32) (r : (Int32 × Int32)), xf_rf_item_85 t_items t_lines t_numbers t_parts t_sorts t_values n t_thrown v3 v4 s1 = some r → xV xm_P l g (73, xm_i73, xm_I73, 0, 0, 85, [(0, .ref 59), (3, .int v3), (4, .int v4)], [.int s1, .ref 59], xw_R X t_thrown s_57_1 s_57_18 s_57_19 s_57_20 s_57_24 a_58 a_59 a_60 a_61 a_62 a_63 a_64 a_65 t_lines t_numbers a_68 a_69 t_parts t_sorts t_values t_items a_74 a_75 l_76) (.inl (some (.int r.1)), xw_R X r.2 s_57_1 s_57_18 s_57_19 s_57_20 s_57_24 a_58 a_59 a_60 a_61 a_62 a_63 a_64 a_65 t_lines t_numbers a_68 a_69 t_parts t_sorts t_values t_items a_74 a_75 l_76) := by
  intro t_thrown v3 v4 s1 r h
  unfold xf_rf_item_85 at h
  refine xe_seg ok 2 (G := (fun K => xr_back K 73 xm_i73 xm_I73 0 0 86 [(0, .ref 59), (3, .int v3), (4, .int v4)] [] 78 true (K (32, xm_i32, xm_I32, 0, 0, 0, [(0, .ref 59), (1, .int s1), (2, .int ((1 : Int32)))], [], xw_R X t_thrown s_57_1 s_57_18 s_57_19 s_57_20 s_57_24 a_58 a_59 a_60 a_61 a_62 a_63 a_64 a_65 t_lines t_numbers a_68 a_69 t_parts t_sorts t_values t_items a_74 a_75 l_76)))) (fun K => rfl) ?_
  obtain ⟨q1088, hq1088, h⟩ := Option.bind_eq_some_iff.mp h
  have heq1088 := xh_rf_fails_57 (l := l) (g := g) ok a_58 a_59 a_60 a_61 a_62 a_63 a_64 a_65 t_lines t_numbers a_68 a_69 t_parts t_sorts t_values t_items a_74 a_75 l_76 s_57_1 s_57_18 s_57_19 s_57_20 s_57_24 X t_thrown s1 ((1 : Int32)) _ hq1088
  refine xe_call1 (ws' := xw_R X q1088.2 s_57_1 s_57_18 s_57_19 s_57_20 s_57_24 a_58 a_59 a_60 a_61 a_62 a_63 a_64 a_65 t_lines t_numbers a_68 a_69 t_parts t_sorts t_values t_items a_74 a_75 l_76) (by decide) heq1088 (Or.inl rfl) ?_
  refine xe_seg ok 1 (G := (fun K => if q1088.1 = (0 : Int32) then K (73, xm_i73, xm_I73, 0, 0, 94, [(0, .ref 59), (3, .int v3), (4, .int v4)], [], xw_R X q1088.2 s_57_1 s_57_18 s_57_19 s_57_20 s_57_24 a_58 a_59 a_60 a_61 a_62 a_63 a_64 a_65 t_lines t_numbers a_68 a_69 t_parts t_sorts t_values t_items a_74 a_75 l_76) else K (73, xm_i73, xm_I73, 0, 0, 92, [(0, .ref 59), (3, .int v3), (4, .int v4)], [], xw_R X q1088.2 s_57_1 s_57_18 s_57_19 s_57_20 s_57_24 a_58 a_59 a_60 a_61 a_62 a_63 a_64 a_65 t_lines t_numbers a_68 a_69 t_parts t_sorts t_values t_items a_74 a_75 l_76))) (fun K => rfl) ?_
  rcases xb_if h with ⟨hc1089, h⟩ | ⟨hc1089, h⟩
  · refine xe_pos hc1089 (xe_k ?_)
    refine xe_seg ok 8 (G := (fun K => if xr_in ((((20 : Int32)) * v4) + v3) 19200 = true then K (73, xm_i73, xm_I73, 0, 0, 106, [(0, .ref 59), (3, .int v3), (4, .int v4)], [.int (t_items ((((20 : Int32)) * v4) + v3).toNatClampNeg)], xw_R X q1088.2 s_57_1 s_57_18 s_57_19 s_57_20 s_57_24 a_58 a_59 a_60 a_61 a_62 a_63 a_64 a_65 t_lines t_numbers a_68 a_69 t_parts t_sorts t_values t_items a_74 a_75 l_76) else none)) (fun K => rfl) ?_
    obtain ⟨hg1090, h⟩ := xn_if h
    refine xe_pos hg1090 (xe_k ?_)
    obtain rfl := Option.some.inj h
    refine xe_seg ok 1 (G := (fun _ => some (.inl (some (.int (t_items ((((20 : Int32)) * v4) + v3).toNatClampNeg))), xw_R X q1088.2 s_57_1 s_57_18 s_57_19 s_57_20 s_57_24 a_58 a_59 a_60 a_61 a_62 a_63 a_64 a_65 t_lines t_numbers a_68 a_69 t_parts t_sorts t_values t_items a_74 a_75 l_76))) (fun K => rfl) ?_
    exact xe_ret
  · refine xe_neg hc1089 (xe_k ?_)
    obtain rfl := Option.some.inj h
    refine xe_seg ok 2 (G := (fun _ => some (.inl (some (.int ((0 : Int32)))), xw_R X q1088.2 s_57_1 s_57_18 s_57_19 s_57_20 s_57_24 a_58 a_59 a_60 a_61 a_62 a_63 a_64 a_65 t_lines t_numbers a_68 a_69 t_parts t_sorts t_values t_items a_74 a_75 l_76))) (fun K => rfl) ?_
    exact xe_ret
set_option maxHeartbeats 400000 in
theorem xh_rf_item_57_80 {l : Launch} {g : xr_G} (ok : xr_OK xm_P) (a_58 a_59 a_60 a_61 a_62 a_63 a_64 a_65 a_68 a_69 a_74 a_75 : Nat → Int32) (l_76 : Nat → Int64) (s_57_1 s_57_18 s_57_19 s_57_20 s_57_24 : Int32) (X : Nat → xr_C) (t_items : (Nat → Int32)) (t_lines : (Nat → Int32)) (t_numbers : (Nat → Int32)) (t_parts : (Nat → Int32)) (t_sorts : (Nat → Int32)) (t_values : (Nat → Int32)) (n : Nat) : ∀ (t_thrown : Int32) (v3 : Int32) (v4 : Int32) (r : (Int32 × Int32)), xf_rf_item_80 t_items t_lines t_numbers t_parts t_sorts t_values n t_thrown v3 v4 = some r → xV xm_P l g (73, xm_i73, xm_I73, 0, 0, 80, [(0, .ref 59), (3, .int v3), (4, .int v4)], [.ref 59], xw_R X t_thrown s_57_1 s_57_18 s_57_19 s_57_20 s_57_24 a_58 a_59 a_60 a_61 a_62 a_63 a_64 a_65 t_lines t_numbers a_68 a_69 t_parts t_sorts t_values t_items a_74 a_75 l_76) (.inl (some (.int r.1)), xw_R X r.2 s_57_1 s_57_18 s_57_19 s_57_20 s_57_24 a_58 a_59 a_60 a_61 a_62 a_63 a_64 a_65 t_lines t_numbers a_68 a_69 t_parts t_sorts t_values t_items a_74 a_75 l_76) := by
  intro t_thrown v3 v4 r h
  unfold xf_rf_item_80 at h
  refine xe_seg ok 2 (G := (fun K => K (73, xm_i73, xm_I73, 0, 0, 85, [(0, .ref 59), (3, .int v3), (4, .int v4)], [.int ((1 : Int32)), .ref 59], xw_R X t_thrown s_57_1 s_57_18 s_57_19 s_57_20 s_57_24 a_58 a_59 a_60 a_61 a_62 a_63 a_64 a_65 t_lines t_numbers a_68 a_69 t_parts t_sorts t_values t_items a_74 a_75 l_76))) (fun K => rfl) ?_
  refine xe_k ?_
  refine xe_sub [true, true, true] (lv' := [(0, .ref 59), (3, .int v3), (4, .int v4)]) rfl ?_
  have hz := xh_rf_item_57_85 (l := l) (g := g) ok a_58 a_59 a_60 a_61 a_62 a_63 a_64 a_65 a_68 a_69 a_74 a_75 l_76 s_57_1 s_57_18 s_57_19 s_57_20 s_57_24 X t_items t_lines t_numbers t_parts t_sorts t_values n t_thrown v3 v4 ((1 : Int32)) _ h
  exact hz
set_option maxHeartbeats 400000 in
theorem xh_rf_item_57_57 {l : Launch} {g : xr_G} (ok : xr_OK xm_P) (a_58 a_59 a_60 a_61 a_62 a_63 a_64 a_65 a_68 a_69 a_74 a_75 : Nat → Int32) (l_76 : Nat → Int64) (s_57_1 s_57_18 s_57_19 s_57_20 s_57_24 : Int32) (X : Nat → xr_C) (t_items : (Nat → Int32)) (t_lines : (Nat → Int32)) (t_numbers : (Nat → Int32)) (t_parts : (Nat → Int32)) (t_sorts : (Nat → Int32)) (t_values : (Nat → Int32)) (n : Nat) : ∀ (t_thrown : Int32) (v3 : Int32) (v4 : Int32) (s0 : Int32) (r : (Int32 × Int32)), xf_rf_item_57 t_items t_lines t_numbers t_parts t_sorts t_values n t_thrown v3 v4 s0 = some r → xV xm_P l g (73, xm_i73, xm_I73, 0, 0, 57, [(0, .ref 59), (3, .int v3), (4, .int v4)], [.int s0], xw_R X t_thrown s_57_1 s_57_18 s_57_19 s_57_20 s_57_24 a_58 a_59 a_60 a_61 a_62 a_63 a_64 a_65 t_lines t_numbers a_68 a_69 t_parts t_sorts t_values t_items a_74 a_75 l_76) (.inl (some (.int r.1)), xw_R X r.2 s_57_1 s_57_18 s_57_19 s_57_20 s_57_24 a_58 a_59 a_60 a_61 a_62 a_63 a_64 a_65 t_lines t_numbers a_68 a_69 t_parts t_sorts t_values t_items a_74 a_75 l_76) := by
  intro t_thrown v3 v4 s0 r h
  unfold xf_rf_item_57 at h
  refine xe_seg ok 4 (G := (fun K => if s0 = (0 : Int32) then K (73, xm_i73, xm_I73, 0, 0, 80, [(0, .ref 59), (3, .int v3), (4, .int v4), (5, .int s0)], [.ref 59], xw_R X t_thrown s_57_1 s_57_18 s_57_19 s_57_20 s_57_24 a_58 a_59 a_60 a_61 a_62 a_63 a_64 a_65 t_lines t_numbers a_68 a_69 t_parts t_sorts t_values t_items a_74 a_75 l_76) else K (73, xm_i73, xm_I73, 0, 0, 65, [(0, .ref 59), (3, .int v3), (4, .int v4), (5, .int s0)], [.ref 59], xw_R X t_thrown s_57_1 s_57_18 s_57_19 s_57_20 s_57_24 a_58 a_59 a_60 a_61 a_62 a_63 a_64 a_65 t_lines t_numbers a_68 a_69 t_parts t_sorts t_values t_items a_74 a_75 l_76))) (fun K => rfl) ?_
  rcases xb_if h with ⟨hc1087, h⟩ | ⟨hc1087, h⟩
  · refine xe_pos hc1087 (xe_k ?_)
    refine xe_sub [true, true, true, false] (lv' := [(0, .ref 59), (3, .int v3), (4, .int v4)]) rfl ?_
    have hz := xh_rf_item_57_80 (l := l) (g := g) ok a_58 a_59 a_60 a_61 a_62 a_63 a_64 a_65 a_68 a_69 a_74 a_75 l_76 s_57_1 s_57_18 s_57_19 s_57_20 s_57_24 X t_items t_lines t_numbers t_parts t_sorts t_values n t_thrown v3 v4 _ h
    exact hz
  · refine xe_neg hc1087 (xe_k ?_)
    refine xe_seg ok 2 (G := (fun K => if v3 < (0 : Int32) then K (73, xm_i73, xm_I73, 0, 0, 80, [(0, .ref 59), (3, .int v3), (4, .int v4), (5, .int s0)], [.ref 59], xw_R X t_thrown s_57_1 s_57_18 s_57_19 s_57_20 s_57_24 a_58 a_59 a_60 a_61 a_62 a_63 a_64 a_65 t_lines t_numbers a_68 a_69 t_parts t_sorts t_values t_items a_74 a_75 l_76) else K (73, xm_i73, xm_I73, 0, 0, 69, [(0, .ref 59), (3, .int v3), (4, .int v4), (5, .int s0)], [.ref 59], xw_R X t_thrown s_57_1 s_57_18 s_57_19 s_57_20 s_57_24 a_58 a_59 a_60 a_61 a_62 a_63 a_64 a_65 t_lines t_numbers a_68 a_69 t_parts t_sorts t_values t_items a_74 a_75 l_76))) (fun K => rfl) ?_
    rcases xb_if h with ⟨hc1091, h⟩ | ⟨hc1091, h⟩
    · refine xe_pos hc1091 (xe_k ?_)
      refine xe_sub [true, true, true, false] (lv' := [(0, .ref 59), (3, .int v3), (4, .int v4)]) rfl ?_
      have hz := xh_rf_item_57_80 (l := l) (g := g) ok a_58 a_59 a_60 a_61 a_62 a_63 a_64 a_65 a_68 a_69 a_74 a_75 l_76 s_57_1 s_57_18 s_57_19 s_57_20 s_57_24 X t_items t_lines t_numbers t_parts t_sorts t_values n t_thrown v3 v4 _ h
      exact hz
    · refine xe_neg hc1091 (xe_k ?_)
      refine xe_seg ok 5 (G := (fun K => if xr_in v4 960 = true then K (73, xm_i73, xm_I73, 0, 0, 77, [(0, .ref 59), (3, .int v3), (4, .int v4), (5, .int s0)], [.int (t_values v4.toNatClampNeg), .int v3, .ref 59], xw_R X t_thrown s_57_1 s_57_18 s_57_19 s_57_20 s_57_24 a_58 a_59 a_60 a_61 a_62 a_63 a_64 a_65 t_lines t_numbers a_68 a_69 t_parts t_sorts t_values t_items a_74 a_75 l_76) else none)) (fun K => rfl) ?_
      obtain ⟨hg1092, h⟩ := xn_if h
      refine xe_pos hg1092 (xe_k ?_)
      refine xe_seg ok 1 (G := (fun K => if v3 < (t_values v4.toNatClampNeg) then K (73, xm_i73, xm_I73, 0, 0, 84, [(0, .ref 59), (3, .int v3), (4, .int v4), (5, .int s0)], [.ref 59], xw_R X t_thrown s_57_1 s_57_18 s_57_19 s_57_20 s_57_24 a_58 a_59 a_60 a_61 a_62 a_63 a_64 a_65 t_lines t_numbers a_68 a_69 t_parts t_sorts t_values t_items a_74 a_75 l_76) else K (73, xm_i73, xm_I73, 0, 0, 80, [(0, .ref 59), (3, .int v3), (4, .int v4), (5, .int s0)], [.ref 59], xw_R X t_thrown s_57_1 s_57_18 s_57_19 s_57_20 s_57_24 a_58 a_59 a_60 a_61 a_62 a_63 a_64 a_65 t_lines t_numbers a_68 a_69 t_parts t_sorts t_values t_items a_74 a_75 l_76))) (fun K => rfl) ?_
      rcases xb_if h with ⟨hc1093, h⟩ | ⟨hc1093, h⟩
      · refine xe_pos hc1093 (xe_k ?_)
        refine xe_seg ok 1 (G := (fun K => K (73, xm_i73, xm_I73, 0, 0, 85, [(0, .ref 59), (3, .int v3), (4, .int v4), (5, .int s0)], [.int ((0 : Int32)), .ref 59], xw_R X t_thrown s_57_1 s_57_18 s_57_19 s_57_20 s_57_24 a_58 a_59 a_60 a_61 a_62 a_63 a_64 a_65 t_lines t_numbers a_68 a_69 t_parts t_sorts t_values t_items a_74 a_75 l_76))) (fun K => rfl) ?_
        refine xe_k ?_
        refine xe_sub [true, true, true, false] (lv' := [(0, .ref 59), (3, .int v3), (4, .int v4)]) rfl ?_
        have hz := xh_rf_item_57_85 (l := l) (g := g) ok a_58 a_59 a_60 a_61 a_62 a_63 a_64 a_65 a_68 a_69 a_74 a_75 l_76 s_57_1 s_57_18 s_57_19 s_57_20 s_57_24 X t_items t_lines t_numbers t_parts t_sorts t_values n t_thrown v3 v4 ((0 : Int32)) _ h
        exact hz
      · refine xe_neg hc1093 (xe_k ?_)
        refine xe_sub [true, true, true, false] (lv' := [(0, .ref 59), (3, .int v3), (4, .int v4)]) rfl ?_
        have hz := xh_rf_item_57_80 (l := l) (g := g) ok a_58 a_59 a_60 a_61 a_62 a_63 a_64 a_65 a_68 a_69 a_74 a_75 l_76 s_57_1 s_57_18 s_57_19 s_57_20 s_57_24 X t_items t_lines t_numbers t_parts t_sorts t_values n t_thrown v3 v4 _ h
        exact hz
set_option maxHeartbeats 400000 in
theorem xh_rf_item_57_56 {l : Launch} {g : xr_G} (ok : xr_OK xm_P) (a_58 a_59 a_60 a_61 a_62 a_63 a_64 a_65 a_68 a_69 a_74 a_75 : Nat → Int32) (l_76 : Nat → Int64) (s_57_1 s_57_18 s_57_19 s_57_20 s_57_24 : Int32) (X : Nat → xr_C) (t_items : (Nat → Int32)) (t_lines : (Nat → Int32)) (t_numbers : (Nat → Int32)) (t_parts : (Nat → Int32)) (t_sorts : (Nat → Int32)) (t_values : (Nat → Int32)) (n : Nat) : ∀ (t_thrown : Int32) (v3 : Int32) (v4 : Int32) (r : (Int32 × Int32)), xf_rf_item_56 t_items t_lines t_numbers t_parts t_sorts t_values n t_thrown v3 v4 = some r → xV xm_P l g (73, xm_i73, xm_I73, 0, 0, 56, [(0, .ref 59), (3, .int v3), (4, .int v4)], [], xw_R X t_thrown s_57_1 s_57_18 s_57_19 s_57_20 s_57_24 a_58 a_59 a_60 a_61 a_62 a_63 a_64 a_65 t_lines t_numbers a_68 a_69 t_parts t_sorts t_values t_items a_74 a_75 l_76) (.inl (some (.int r.1)), xw_R X r.2 s_57_1 s_57_18 s_57_19 s_57_20 s_57_24 a_58 a_59 a_60 a_61 a_62 a_63 a_64 a_65 t_lines t_numbers a_68 a_69 t_parts t_sorts t_values t_items a_74 a_75 l_76) := by
  intro t_thrown v3 v4 r h
  unfold xf_rf_item_56 at h
  refine xe_seg ok 1 (G := (fun K => K (73, xm_i73, xm_I73, 0, 0, 57, [(0, .ref 59), (3, .int v3), (4, .int v4)], [.int ((0 : Int32))], xw_R X t_thrown s_57_1 s_57_18 s_57_19 s_57_20 s_57_24 a_58 a_59 a_60 a_61 a_62 a_63 a_64 a_65 t_lines t_numbers a_68 a_69 t_parts t_sorts t_values t_items a_74 a_75 l_76))) (fun K => rfl) ?_
  refine xe_k ?_
  refine xe_sub [true, true, true] (lv' := [(0, .ref 59), (3, .int v3), (4, .int v4)]) rfl ?_
  have hz := xh_rf_item_57_57 (l := l) (g := g) ok a_58 a_59 a_60 a_61 a_62 a_63 a_64 a_65 a_68 a_69 a_74 a_75 l_76 s_57_1 s_57_18 s_57_19 s_57_20 s_57_24 X t_items t_lines t_numbers t_parts t_sorts t_values n t_thrown v3 v4 ((0 : Int32)) _ h
  exact hz
set_option maxHeartbeats 400000 in
theorem xh_rf_item_57 {l : Launch} {g : xr_G} (ok : xr_OK xm_P) (a_58 a_59 a_60 a_61 a_62 a_63 a_64 a_65 a_68 a_69 a_74 a_75 : Nat → Int32) (l_76 : Nat → Int64) (s_57_1 s_57_18 s_57_19 s_57_20 s_57_24 : Int32) (X : Nat → xr_C) (t_items : (Nat → Int32)) (t_lines : (Nat → Int32)) (t_numbers : (Nat → Int32)) (t_parts : (Nat → Int32)) (t_sorts : (Nat → Int32)) (t_values : (Nat → Int32)) (n : Nat) : ∀ (t_thrown : Int32) (a1 : Int32) (a2 : Int32) (a3 : Int32) (r : (Int32 × Int32)), xf_rf_item t_items t_lines t_numbers t_parts t_sorts t_values n t_thrown a1 a2 a3 = some r → xV xm_P l g (73, xm_i73, xm_I73, 0, 0, 0, [(0, .ref 59), (1, .int a1), (2, .int a2), (3, .int a3)], [], xw_R X t_thrown s_57_1 s_57_18 s_57_19 s_57_20 s_57_24 a_58 a_59 a_60 a_61 a_62 a_63 a_64 a_65 t_lines t_numbers a_68 a_69 t_parts t_sorts t_values t_items a_74 a_75 l_76) (.inl (some (.int r.1)), xw_R X r.2 s_57_1 s_57_18 s_57_19 s_57_20 s_57_24 a_58 a_59 a_60 a_61 a_62 a_63 a_64 a_65 t_lines t_numbers a_68 a_69 t_parts t_sorts t_values t_items a_74 a_75 l_76) := by
  intro t_thrown a1 a2 a3 r h
  unfold xf_rf_item at h
  refine xe_seg ok 7 (G := (fun K => xr_back K 73 xm_i73 xm_I73 0 0 8 [(0, .ref 59), (1, .int a1), (2, .int a2), (3, .int a3)] [] 78 true (K (71, xm_i71, xm_I71, 0, 0, 0, [(0, .ref 59), (1, .int a1), (2, .int a2)], [], xw_R X ((0 : Int32)) s_57_1 s_57_18 s_57_19 s_57_20 s_57_24 a_58 a_59 a_60 a_61 a_62 a_63 a_64 a_65 t_lines t_numbers a_68 a_69 t_parts t_sorts t_values t_items a_74 a_75 l_76)))) (fun K => rfl) ?_
  obtain ⟨q1085, hq1085, h⟩ := Option.bind_eq_some_iff.mp h
  have heq1085 := xh_rf_argumentAt_57 (l := l) (g := g) ok a_58 a_59 a_60 a_61 a_62 a_63 a_64 a_65 a_68 a_69 t_sorts t_values t_items a_74 a_75 l_76 ((0 : Int32)) s_57_1 s_57_18 s_57_19 s_57_20 s_57_24 X t_lines t_numbers t_parts n a1 a2 _ hq1085
  refine xe_call1 (ws' := xw_R X ((0 : Int32)) s_57_1 s_57_18 s_57_19 s_57_20 s_57_24 a_58 a_59 a_60 a_61 a_62 a_63 a_64 a_65 t_lines t_numbers a_68 a_69 t_parts t_sorts t_values t_items a_74 a_75 l_76) (by decide) heq1085 (Or.inl rfl) ?_
  refine xe_seg ok 4 (G := (fun K => if q1085 = ((-1 : Int32)) then K (73, xm_i73, xm_I73, 0, 0, 56, [(0, .ref 59), (1, .int a1), (2, .int a2), (3, .int a3), (4, .int q1085)], [], xw_R X ((0 : Int32)) s_57_1 s_57_18 s_57_19 s_57_20 s_57_24 a_58 a_59 a_60 a_61 a_62 a_63 a_64 a_65 t_lines t_numbers a_68 a_69 t_parts t_sorts t_values t_items a_74 a_75 l_76) else K (73, xm_i73, xm_I73, 0, 0, 19, [(0, .ref 59), (1, .int a1), (2, .int a2), (3, .int a3), (4, .int q1085)], [], xw_R X ((0 : Int32)) s_57_1 s_57_18 s_57_19 s_57_20 s_57_24 a_58 a_59 a_60 a_61 a_62 a_63 a_64 a_65 t_lines t_numbers a_68 a_69 t_parts t_sorts t_values t_items a_74 a_75 l_76))) (fun K => rfl) ?_
  rcases xb_if h with ⟨hc1086, h⟩ | ⟨hc1086, h⟩
  · refine xe_pos hc1086 (xe_k ?_)
    refine xe_sub [true, false, false, true, true] (lv' := [(0, .ref 59), (3, .int a3), (4, .int q1085)]) rfl ?_
    have hz := xh_rf_item_57_56 (l := l) (g := g) ok a_58 a_59 a_60 a_61 a_62 a_63 a_64 a_65 a_68 a_69 a_74 a_75 l_76 s_57_1 s_57_18 s_57_19 s_57_20 s_57_24 X t_items t_lines t_numbers t_parts t_sorts t_values n ((0 : Int32)) a3 q1085 _ h
    exact hz
  · refine xe_neg hc1086 (xe_k ?_)
    refine xe_seg ok 4 (G := (fun K => if xr_in q1085 960 = true then K (73, xm_i73, xm_I73, 0, 0, 26, [(0, .ref 59), (1, .int a1), (2, .int a2), (3, .int a3), (4, .int q1085)], [.int (t_sorts q1085.toNatClampNeg)], xw_R X ((0 : Int32)) s_57_1 s_57_18 s_57_19 s_57_20 s_57_24 a_58 a_59 a_60 a_61 a_62 a_63 a_64 a_65 t_lines t_numbers a_68 a_69 t_parts t_sorts t_values t_items a_74 a_75 l_76) else none)) (fun K => rfl) ?_
    obtain ⟨hg1094, h⟩ := xn_if h
    refine xe_pos hg1094 (xe_k ?_)
    refine xe_seg ok 1 (G := (fun K => if (t_sorts q1085.toNatClampNeg) = (0 : Int32) then K (73, xm_i73, xm_I73, 0, 0, 56, [(0, .ref 59), (1, .int a1), (2, .int a2), (3, .int a3), (4, .int q1085)], [], xw_R X ((0 : Int32)) s_57_1 s_57_18 s_57_19 s_57_20 s_57_24 a_58 a_59 a_60 a_61 a_62 a_63 a_64 a_65 t_lines t_numbers a_68 a_69 t_parts t_sorts t_values t_items a_74 a_75 l_76) else K (73, xm_i73, xm_I73, 0, 0, 29, [(0, .ref 59), (1, .int a1), (2, .int a2), (3, .int a3), (4, .int q1085)], [], xw_R X ((0 : Int32)) s_57_1 s_57_18 s_57_19 s_57_20 s_57_24 a_58 a_59 a_60 a_61 a_62 a_63 a_64 a_65 t_lines t_numbers a_68 a_69 t_parts t_sorts t_values t_items a_74 a_75 l_76))) (fun K => rfl) ?_
    rcases xb_if h with ⟨hc1095, h⟩ | ⟨hc1095, h⟩
    · refine xe_pos hc1095 (xe_k ?_)
      refine xe_sub [true, false, false, true, true] (lv' := [(0, .ref 59), (3, .int a3), (4, .int q1085)]) rfl ?_
      have hz := xh_rf_item_57_56 (l := l) (g := g) ok a_58 a_59 a_60 a_61 a_62 a_63 a_64 a_65 a_68 a_69 a_74 a_75 l_76 s_57_1 s_57_18 s_57_19 s_57_20 s_57_24 X t_items t_lines t_numbers t_parts t_sorts t_values n ((0 : Int32)) a3 q1085 _ h
      exact hz
    · refine xe_neg hc1095 (xe_k ?_)
      refine xe_seg ok 4 (G := (fun K => if xr_in q1085 960 = true then K (73, xm_i73, xm_I73, 0, 0, 36, [(0, .ref 59), (1, .int a1), (2, .int a2), (3, .int a3), (4, .int q1085)], [.int (t_sorts q1085.toNatClampNeg)], xw_R X ((0 : Int32)) s_57_1 s_57_18 s_57_19 s_57_20 s_57_24 a_58 a_59 a_60 a_61 a_62 a_63 a_64 a_65 t_lines t_numbers a_68 a_69 t_parts t_sorts t_values t_items a_74 a_75 l_76) else none)) (fun K => rfl) ?_
      obtain ⟨hg1096, h⟩ := xn_if h
      refine xe_pos hg1096 (xe_k ?_)
      refine xe_seg ok 2 (G := (fun K => if (t_sorts q1085.toNatClampNeg) = ((2 : Int32)) then K (73, xm_i73, xm_I73, 0, 0, 56, [(0, .ref 59), (1, .int a1), (2, .int a2), (3, .int a3), (4, .int q1085)], [], xw_R X ((0 : Int32)) s_57_1 s_57_18 s_57_19 s_57_20 s_57_24 a_58 a_59 a_60 a_61 a_62 a_63 a_64 a_65 t_lines t_numbers a_68 a_69 t_parts t_sorts t_values t_items a_74 a_75 l_76) else K (73, xm_i73, xm_I73, 0, 0, 40, [(0, .ref 59), (1, .int a1), (2, .int a2), (3, .int a3), (4, .int q1085)], [], xw_R X ((0 : Int32)) s_57_1 s_57_18 s_57_19 s_57_20 s_57_24 a_58 a_59 a_60 a_61 a_62 a_63 a_64 a_65 t_lines t_numbers a_68 a_69 t_parts t_sorts t_values t_items a_74 a_75 l_76))) (fun K => rfl) ?_
      rcases xb_if h with ⟨hc1097, h⟩ | ⟨hc1097, h⟩
      · refine xe_pos hc1097 (xe_k ?_)
        refine xe_sub [true, false, false, true, true] (lv' := [(0, .ref 59), (3, .int a3), (4, .int q1085)]) rfl ?_
        have hz := xh_rf_item_57_56 (l := l) (g := g) ok a_58 a_59 a_60 a_61 a_62 a_63 a_64 a_65 a_68 a_69 a_74 a_75 l_76 s_57_1 s_57_18 s_57_19 s_57_20 s_57_24 X t_items t_lines t_numbers t_parts t_sorts t_values n ((0 : Int32)) a3 q1085 _ h
        exact hz
      · refine xe_neg hc1097 (xe_k ?_)
        refine xe_seg ok 4 (G := (fun K => if xr_in q1085 960 = true then K (73, xm_i73, xm_I73, 0, 0, 47, [(0, .ref 59), (1, .int a1), (2, .int a2), (3, .int a3), (4, .int q1085)], [.int (t_sorts q1085.toNatClampNeg)], xw_R X ((0 : Int32)) s_57_1 s_57_18 s_57_19 s_57_20 s_57_24 a_58 a_59 a_60 a_61 a_62 a_63 a_64 a_65 t_lines t_numbers a_68 a_69 t_parts t_sorts t_values t_items a_74 a_75 l_76) else none)) (fun K => rfl) ?_
        obtain ⟨hg1098, h⟩ := xn_if h
        refine xe_pos hg1098 (xe_k ?_)
        refine xe_seg ok 2 (G := (fun K => if (t_sorts q1085.toNatClampNeg) = ((6 : Int32)) then K (73, xm_i73, xm_I73, 0, 0, 56, [(0, .ref 59), (1, .int a1), (2, .int a2), (3, .int a3), (4, .int q1085)], [], xw_R X ((0 : Int32)) s_57_1 s_57_18 s_57_19 s_57_20 s_57_24 a_58 a_59 a_60 a_61 a_62 a_63 a_64 a_65 t_lines t_numbers a_68 a_69 t_parts t_sorts t_values t_items a_74 a_75 l_76) else K (73, xm_i73, xm_I73, 0, 0, 52, [(0, .ref 59), (1, .int a1), (2, .int a2), (3, .int a3), (4, .int q1085)], [], xw_R X ((0 : Int32)) s_57_1 s_57_18 s_57_19 s_57_20 s_57_24 a_58 a_59 a_60 a_61 a_62 a_63 a_64 a_65 t_lines t_numbers a_68 a_69 t_parts t_sorts t_values t_items a_74 a_75 l_76))) (fun K => rfl) ?_
        rcases xb_if h with ⟨hc1099, h⟩ | ⟨hc1099, h⟩
        · refine xe_pos hc1099 (xe_k ?_)
          refine xe_sub [true, false, false, true, true] (lv' := [(0, .ref 59), (3, .int a3), (4, .int q1085)]) rfl ?_
          have hz := xh_rf_item_57_56 (l := l) (g := g) ok a_58 a_59 a_60 a_61 a_62 a_63 a_64 a_65 a_68 a_69 a_74 a_75 l_76 s_57_1 s_57_18 s_57_19 s_57_20 s_57_24 X t_items t_lines t_numbers t_parts t_sorts t_values n ((0 : Int32)) a3 q1085 _ h
          exact hz
        · refine xe_neg hc1099 (xe_k ?_)
          refine xe_seg ok 2 (G := (fun K => K (73, xm_i73, xm_I73, 0, 0, 57, [(0, .ref 59), (1, .int a1), (2, .int a2), (3, .int a3), (4, .int q1085)], [.int ((1 : Int32))], xw_R X ((0 : Int32)) s_57_1 s_57_18 s_57_19 s_57_20 s_57_24 a_58 a_59 a_60 a_61 a_62 a_63 a_64 a_65 t_lines t_numbers a_68 a_69 t_parts t_sorts t_values t_items a_74 a_75 l_76))) (fun K => rfl) ?_
          refine xe_k ?_
          refine xe_sub [true, false, false, true, true] (lv' := [(0, .ref 59), (3, .int a3), (4, .int q1085)]) rfl ?_
          have hz := xh_rf_item_57_57 (l := l) (g := g) ok a_58 a_59 a_60 a_61 a_62 a_63 a_64 a_65 a_68 a_69 a_74 a_75 l_76 s_57_1 s_57_18 s_57_19 s_57_20 s_57_24 X t_items t_lines t_numbers t_parts t_sorts t_values n ((0 : Int32)) a3 q1085 ((1 : Int32)) _ h
          exact hz
set_option maxHeartbeats 400000 in
theorem xh_rf_set_57_47 {l : Launch} {g : xr_G} (ok : xr_OK xm_P) (a_58 a_59 a_60 a_61 a_62 a_63 a_64 a_65 a_68 a_69 a_73 a_74 a_75 : Nat → Int32) (l_76 : Nat → Int64) (s_57_1 s_57_18 s_57_19 s_57_20 s_57_24 : Int32) (X : Nat → xr_C) (t_lines : (Nat → Int32)) (t_numbers : (Nat → Int32)) (t_parts : (Nat → Int32)) (t_sorts : (Nat → Int32)) (n : Nat) : ∀ (t_thrown : Int32) (t_values : (Nat → Int32)) (v3 : Int32) (v4 : Int32) (s1 : Int32) (r : (Int32 × Int32 × (Nat → Int32))), xf_rf_set_47 t_lines t_numbers t_parts t_sorts n t_thrown t_values v3 v4 s1 = some r → xV xm_P l g (74, xm_i74, xm_I74, 0, 0, 47, [(0, .ref 59), (3, .int v3), (4, .int v4)], [.int s1, .ref 59], xw_R X t_thrown s_57_1 s_57_18 s_57_19 s_57_20 s_57_24 a_58 a_59 a_60 a_61 a_62 a_63 a_64 a_65 t_lines t_numbers a_68 a_69 t_parts t_sorts t_values a_73 a_74 a_75 l_76) (.inl (some (.int r.1)), xw_R X r.2.1 s_57_1 s_57_18 s_57_19 s_57_20 s_57_24 a_58 a_59 a_60 a_61 a_62 a_63 a_64 a_65 t_lines t_numbers a_68 a_69 t_parts t_sorts r.2.2 a_73 a_74 a_75 l_76) := by
  intro t_thrown t_values v3 v4 s1 r h
  unfold xf_rf_set_47 at h
  refine xe_seg ok 2 (G := (fun K => xr_back K 74 xm_i74 xm_I74 0 0 48 [(0, .ref 59), (3, .int v3), (4, .int v4)] [] 78 true (K (32, xm_i32, xm_I32, 0, 0, 0, [(0, .ref 59), (1, .int s1), (2, .int ((1 : Int32)))], [], xw_R X t_thrown s_57_1 s_57_18 s_57_19 s_57_20 s_57_24 a_58 a_59 a_60 a_61 a_62 a_63 a_64 a_65 t_lines t_numbers a_68 a_69 t_parts t_sorts t_values a_73 a_74 a_75 l_76)))) (fun K => rfl) ?_
  obtain ⟨q1102, hq1102, h⟩ := Option.bind_eq_some_iff.mp h
  have heq1102 := xh_rf_fails_57 (l := l) (g := g) ok a_58 a_59 a_60 a_61 a_62 a_63 a_64 a_65 t_lines t_numbers a_68 a_69 t_parts t_sorts t_values a_73 a_74 a_75 l_76 s_57_1 s_57_18 s_57_19 s_57_20 s_57_24 X t_thrown s1 ((1 : Int32)) _ hq1102
  refine xe_call1 (ws' := xw_R X q1102.2 s_57_1 s_57_18 s_57_19 s_57_20 s_57_24 a_58 a_59 a_60 a_61 a_62 a_63 a_64 a_65 t_lines t_numbers a_68 a_69 t_parts t_sorts t_values a_73 a_74 a_75 l_76) (by decide) heq1102 (Or.inl rfl) ?_
  refine xe_seg ok 1 (G := (fun K => if q1102.1 = (0 : Int32) then K (74, xm_i74, xm_I74, 0, 0, 56, [(0, .ref 59), (3, .int v3), (4, .int v4)], [], xw_R X q1102.2 s_57_1 s_57_18 s_57_19 s_57_20 s_57_24 a_58 a_59 a_60 a_61 a_62 a_63 a_64 a_65 t_lines t_numbers a_68 a_69 t_parts t_sorts t_values a_73 a_74 a_75 l_76) else K (74, xm_i74, xm_I74, 0, 0, 54, [(0, .ref 59), (3, .int v3), (4, .int v4)], [], xw_R X q1102.2 s_57_1 s_57_18 s_57_19 s_57_20 s_57_24 a_58 a_59 a_60 a_61 a_62 a_63 a_64 a_65 t_lines t_numbers a_68 a_69 t_parts t_sorts t_values a_73 a_74 a_75 l_76))) (fun K => rfl) ?_
  rcases xb_if h with ⟨hc1103, h⟩ | ⟨hc1103, h⟩
  · refine xe_pos hc1103 (xe_k ?_)
    refine xe_seg ok 4 (G := (fun K => if xr_in v4 960 = true then K (74, xm_i74, xm_I74, 0, 0, 63, [(0, .ref 59), (3, .int v3), (4, .int v4)], [.int (t_values v4.toNatClampNeg)], xw_R X q1102.2 s_57_1 s_57_18 s_57_19 s_57_20 s_57_24 a_58 a_59 a_60 a_61 a_62 a_63 a_64 a_65 t_lines t_numbers a_68 a_69 t_parts t_sorts t_values a_73 a_74 a_75 l_76) else none)) (fun K => rfl) ?_
    obtain ⟨hg1104, h⟩ := xn_if h
    refine xe_pos hg1104 (xe_k ?_)
    refine xe_seg ok 6 (G := (fun K => if xr_in v4 960 = true then K (74, xm_i74, xm_I74, 0, 0, 73, [(0, .ref 59), (3, .int v3), (4, .int v4), (5, .int (t_values v4.toNatClampNeg))], [], xw_R X q1102.2 s_57_1 s_57_18 s_57_19 s_57_20 s_57_24 a_58 a_59 a_60 a_61 a_62 a_63 a_64 a_65 t_lines t_numbers a_68 a_69 t_parts t_sorts (upd t_values v4.toNatClampNeg v3) a_73 a_74 a_75 l_76) else none)) (fun K => rfl) ?_
    obtain ⟨hg1105, h⟩ := xn_if h
    refine xe_pos hg1105 (xe_k ?_)
    obtain rfl := Option.some.inj h
    refine xe_seg ok 2 (G := (fun _ => some (.inl (some (.int (t_values v4.toNatClampNeg))), xw_R X q1102.2 s_57_1 s_57_18 s_57_19 s_57_20 s_57_24 a_58 a_59 a_60 a_61 a_62 a_63 a_64 a_65 t_lines t_numbers a_68 a_69 t_parts t_sorts (upd t_values v4.toNatClampNeg v3) a_73 a_74 a_75 l_76))) (fun K => rfl) ?_
    exact xe_ret
  · refine xe_neg hc1103 (xe_k ?_)
    obtain rfl := Option.some.inj h
    refine xe_seg ok 2 (G := (fun _ => some (.inl (some (.int ((0 : Int32)))), xw_R X q1102.2 s_57_1 s_57_18 s_57_19 s_57_20 s_57_24 a_58 a_59 a_60 a_61 a_62 a_63 a_64 a_65 t_lines t_numbers a_68 a_69 t_parts t_sorts t_values a_73 a_74 a_75 l_76))) (fun K => rfl) ?_
    exact xe_ret
set_option maxHeartbeats 400000 in
theorem xh_rf_set_57_42 {l : Launch} {g : xr_G} (ok : xr_OK xm_P) (a_58 a_59 a_60 a_61 a_62 a_63 a_64 a_65 a_68 a_69 a_73 a_74 a_75 : Nat → Int32) (l_76 : Nat → Int64) (s_57_1 s_57_18 s_57_19 s_57_20 s_57_24 : Int32) (X : Nat → xr_C) (t_lines : (Nat → Int32)) (t_numbers : (Nat → Int32)) (t_parts : (Nat → Int32)) (t_sorts : (Nat → Int32)) (n : Nat) : ∀ (t_thrown : Int32) (t_values : (Nat → Int32)) (v3 : Int32) (v4 : Int32) (r : (Int32 × Int32 × (Nat → Int32))), xf_rf_set_42 t_lines t_numbers t_parts t_sorts n t_thrown t_values v3 v4 = some r → xV xm_P l g (74, xm_i74, xm_I74, 0, 0, 42, [(0, .ref 59), (3, .int v3), (4, .int v4)], [.ref 59], xw_R X t_thrown s_57_1 s_57_18 s_57_19 s_57_20 s_57_24 a_58 a_59 a_60 a_61 a_62 a_63 a_64 a_65 t_lines t_numbers a_68 a_69 t_parts t_sorts t_values a_73 a_74 a_75 l_76) (.inl (some (.int r.1)), xw_R X r.2.1 s_57_1 s_57_18 s_57_19 s_57_20 s_57_24 a_58 a_59 a_60 a_61 a_62 a_63 a_64 a_65 t_lines t_numbers a_68 a_69 t_parts t_sorts r.2.2 a_73 a_74 a_75 l_76) := by
  intro t_thrown t_values v3 v4 r h
  unfold xf_rf_set_42 at h
  refine xe_seg ok 2 (G := (fun K => K (74, xm_i74, xm_I74, 0, 0, 47, [(0, .ref 59), (3, .int v3), (4, .int v4)], [.int ((1 : Int32)), .ref 59], xw_R X t_thrown s_57_1 s_57_18 s_57_19 s_57_20 s_57_24 a_58 a_59 a_60 a_61 a_62 a_63 a_64 a_65 t_lines t_numbers a_68 a_69 t_parts t_sorts t_values a_73 a_74 a_75 l_76))) (fun K => rfl) ?_
  refine xe_k ?_
  refine xe_sub [true, true, true] (lv' := [(0, .ref 59), (3, .int v3), (4, .int v4)]) rfl ?_
  have hz := xh_rf_set_57_47 (l := l) (g := g) ok a_58 a_59 a_60 a_61 a_62 a_63 a_64 a_65 a_68 a_69 a_73 a_74 a_75 l_76 s_57_1 s_57_18 s_57_19 s_57_20 s_57_24 X t_lines t_numbers t_parts t_sorts n t_thrown t_values v3 v4 ((1 : Int32)) _ h
  exact hz
set_option maxHeartbeats 400000 in
theorem xh_rf_set_57 {l : Launch} {g : xr_G} (ok : xr_OK xm_P) (a_58 a_59 a_60 a_61 a_62 a_63 a_64 a_65 a_68 a_69 a_73 a_74 a_75 : Nat → Int32) (l_76 : Nat → Int64) (s_57_1 s_57_18 s_57_19 s_57_20 s_57_24 : Int32) (X : Nat → xr_C) (t_lines : (Nat → Int32)) (t_numbers : (Nat → Int32)) (t_parts : (Nat → Int32)) (t_sorts : (Nat → Int32)) (n : Nat) : ∀ (t_thrown : Int32) (t_values : (Nat → Int32)) (a1 : Int32) (a2 : Int32) (a3 : Int32) (r : (Int32 × Int32 × (Nat → Int32))), xf_rf_set t_lines t_numbers t_parts t_sorts n t_thrown t_values a1 a2 a3 = some r → xV xm_P l g (74, xm_i74, xm_I74, 0, 0, 0, [(0, .ref 59), (1, .int a1), (2, .int a2), (3, .int a3)], [], xw_R X t_thrown s_57_1 s_57_18 s_57_19 s_57_20 s_57_24 a_58 a_59 a_60 a_61 a_62 a_63 a_64 a_65 t_lines t_numbers a_68 a_69 t_parts t_sorts t_values a_73 a_74 a_75 l_76) (.inl (some (.int r.1)), xw_R X r.2.1 s_57_1 s_57_18 s_57_19 s_57_20 s_57_24 a_58 a_59 a_60 a_61 a_62 a_63 a_64 a_65 t_lines t_numbers a_68 a_69 t_parts t_sorts r.2.2 a_73 a_74 a_75 l_76) := by
  intro t_thrown t_values a1 a2 a3 r h
  unfold xf_rf_set at h
  refine xe_seg ok 7 (G := (fun K => xr_back K 74 xm_i74 xm_I74 0 0 8 [(0, .ref 59), (1, .int a1), (2, .int a2), (3, .int a3)] [] 78 true (K (71, xm_i71, xm_I71, 0, 0, 0, [(0, .ref 59), (1, .int a1), (2, .int a2)], [], xw_R X ((0 : Int32)) s_57_1 s_57_18 s_57_19 s_57_20 s_57_24 a_58 a_59 a_60 a_61 a_62 a_63 a_64 a_65 t_lines t_numbers a_68 a_69 t_parts t_sorts t_values a_73 a_74 a_75 l_76)))) (fun K => rfl) ?_
  obtain ⟨q1100, hq1100, h⟩ := Option.bind_eq_some_iff.mp h
  have heq1100 := xh_rf_argumentAt_57 (l := l) (g := g) ok a_58 a_59 a_60 a_61 a_62 a_63 a_64 a_65 a_68 a_69 t_sorts t_values a_73 a_74 a_75 l_76 ((0 : Int32)) s_57_1 s_57_18 s_57_19 s_57_20 s_57_24 X t_lines t_numbers t_parts n a1 a2 _ hq1100
  refine xe_call1 (ws' := xw_R X ((0 : Int32)) s_57_1 s_57_18 s_57_19 s_57_20 s_57_24 a_58 a_59 a_60 a_61 a_62 a_63 a_64 a_65 t_lines t_numbers a_68 a_69 t_parts t_sorts t_values a_73 a_74 a_75 l_76) (by decide) heq1100 (Or.inl rfl) ?_
  refine xe_seg ok 5 (G := (fun K => if q1100 = ((-1 : Int32)) then K (74, xm_i74, xm_I74, 0, 0, 42, [(0, .ref 59), (1, .int a1), (2, .int a2), (3, .int a3), (4, .int q1100)], [.ref 59], xw_R X ((0 : Int32)) s_57_1 s_57_18 s_57_19 s_57_20 s_57_24 a_58 a_59 a_60 a_61 a_62 a_63 a_64 a_65 t_lines t_numbers a_68 a_69 t_parts t_sorts t_values a_73 a_74 a_75 l_76) else K (74, xm_i74, xm_I74, 0, 0, 20, [(0, .ref 59), (1, .int a1), (2, .int a2), (3, .int a3), (4, .int q1100)], [.ref 59], xw_R X ((0 : Int32)) s_57_1 s_57_18 s_57_19 s_57_20 s_57_24 a_58 a_59 a_60 a_61 a_62 a_63 a_64 a_65 t_lines t_numbers a_68 a_69 t_parts t_sorts t_values a_73 a_74 a_75 l_76))) (fun K => rfl) ?_
  rcases xb_if h with ⟨hc1101, h⟩ | ⟨hc1101, h⟩
  · refine xe_pos hc1101 (xe_k ?_)
    refine xe_sub [true, false, false, true, true] (lv' := [(0, .ref 59), (3, .int a3), (4, .int q1100)]) rfl ?_
    have hz := xh_rf_set_57_42 (l := l) (g := g) ok a_58 a_59 a_60 a_61 a_62 a_63 a_64 a_65 a_68 a_69 a_73 a_74 a_75 l_76 s_57_1 s_57_18 s_57_19 s_57_20 s_57_24 X t_lines t_numbers t_parts t_sorts n ((0 : Int32)) t_values a3 q1100 _ h
    exact hz
  · refine xe_neg hc1101 (xe_k ?_)
    refine xe_seg ok 4 (G := (fun K => if xr_in q1100 960 = true then K (74, xm_i74, xm_I74, 0, 0, 27, [(0, .ref 59), (1, .int a1), (2, .int a2), (3, .int a3), (4, .int q1100)], [.int (t_sorts q1100.toNatClampNeg), .ref 59], xw_R X ((0 : Int32)) s_57_1 s_57_18 s_57_19 s_57_20 s_57_24 a_58 a_59 a_60 a_61 a_62 a_63 a_64 a_65 t_lines t_numbers a_68 a_69 t_parts t_sorts t_values a_73 a_74 a_75 l_76) else none)) (fun K => rfl) ?_
    obtain ⟨hg1106, h⟩ := xn_if h
    refine xe_pos hg1106 (xe_k ?_)
    refine xe_seg ok 1 (G := (fun K => if (t_sorts q1100.toNatClampNeg) = (0 : Int32) then K (74, xm_i74, xm_I74, 0, 0, 30, [(0, .ref 59), (1, .int a1), (2, .int a2), (3, .int a3), (4, .int q1100)], [.ref 59], xw_R X ((0 : Int32)) s_57_1 s_57_18 s_57_19 s_57_20 s_57_24 a_58 a_59 a_60 a_61 a_62 a_63 a_64 a_65 t_lines t_numbers a_68 a_69 t_parts t_sorts t_values a_73 a_74 a_75 l_76) else K (74, xm_i74, xm_I74, 0, 0, 42, [(0, .ref 59), (1, .int a1), (2, .int a2), (3, .int a3), (4, .int q1100)], [.ref 59], xw_R X ((0 : Int32)) s_57_1 s_57_18 s_57_19 s_57_20 s_57_24 a_58 a_59 a_60 a_61 a_62 a_63 a_64 a_65 t_lines t_numbers a_68 a_69 t_parts t_sorts t_values a_73 a_74 a_75 l_76))) (fun K => rfl) ?_
    rcases xb_if h with ⟨hc1107, h⟩ | ⟨hc1107, h⟩
    · refine xe_pos hc1107 (xe_k ?_)
      refine xe_seg ok 3 (G := (fun K => if a3 < ((-999999999 : Int32)) then K (74, xm_i74, xm_I74, 0, 0, 42, [(0, .ref 59), (1, .int a1), (2, .int a2), (3, .int a3), (4, .int q1100)], [.ref 59], xw_R X ((0 : Int32)) s_57_1 s_57_18 s_57_19 s_57_20 s_57_24 a_58 a_59 a_60 a_61 a_62 a_63 a_64 a_65 t_lines t_numbers a_68 a_69 t_parts t_sorts t_values a_73 a_74 a_75 l_76) else K (74, xm_i74, xm_I74, 0, 0, 36, [(0, .ref 59), (1, .int a1), (2, .int a2), (3, .int a3), (4, .int q1100)], [.ref 59], xw_R X ((0 : Int32)) s_57_1 s_57_18 s_57_19 s_57_20 s_57_24 a_58 a_59 a_60 a_61 a_62 a_63 a_64 a_65 t_lines t_numbers a_68 a_69 t_parts t_sorts t_values a_73 a_74 a_75 l_76))) (fun K => rfl) ?_
      rcases xb_if h with ⟨hc1108, h⟩ | ⟨hc1108, h⟩
      · refine xe_pos hc1108 (xe_k ?_)
        refine xe_sub [true, false, false, true, true] (lv' := [(0, .ref 59), (3, .int a3), (4, .int q1100)]) rfl ?_
        have hz := xh_rf_set_57_42 (l := l) (g := g) ok a_58 a_59 a_60 a_61 a_62 a_63 a_64 a_65 a_68 a_69 a_73 a_74 a_75 l_76 s_57_1 s_57_18 s_57_19 s_57_20 s_57_24 X t_lines t_numbers t_parts t_sorts n ((0 : Int32)) t_values a3 q1100 _ h
        exact hz
      · refine xe_neg hc1108 (xe_k ?_)
        refine xe_seg ok 3 (G := (fun K => if ((999999999 : Int32)) < a3 then K (74, xm_i74, xm_I74, 0, 0, 42, [(0, .ref 59), (1, .int a1), (2, .int a2), (3, .int a3), (4, .int q1100)], [.ref 59], xw_R X ((0 : Int32)) s_57_1 s_57_18 s_57_19 s_57_20 s_57_24 a_58 a_59 a_60 a_61 a_62 a_63 a_64 a_65 t_lines t_numbers a_68 a_69 t_parts t_sorts t_values a_73 a_74 a_75 l_76) else K (74, xm_i74, xm_I74, 0, 0, 46, [(0, .ref 59), (1, .int a1), (2, .int a2), (3, .int a3), (4, .int q1100)], [.ref 59], xw_R X ((0 : Int32)) s_57_1 s_57_18 s_57_19 s_57_20 s_57_24 a_58 a_59 a_60 a_61 a_62 a_63 a_64 a_65 t_lines t_numbers a_68 a_69 t_parts t_sorts t_values a_73 a_74 a_75 l_76))) (fun K => rfl) ?_
        rcases xb_if h with ⟨hc1109, h⟩ | ⟨hc1109, h⟩
        · refine xe_pos hc1109 (xe_k ?_)
          refine xe_sub [true, false, false, true, true] (lv' := [(0, .ref 59), (3, .int a3), (4, .int q1100)]) rfl ?_
          have hz := xh_rf_set_57_42 (l := l) (g := g) ok a_58 a_59 a_60 a_61 a_62 a_63 a_64 a_65 a_68 a_69 a_73 a_74 a_75 l_76 s_57_1 s_57_18 s_57_19 s_57_20 s_57_24 X t_lines t_numbers t_parts t_sorts n ((0 : Int32)) t_values a3 q1100 _ h
          exact hz
        · refine xe_neg hc1109 (xe_k ?_)
          refine xe_seg ok 1 (G := (fun K => K (74, xm_i74, xm_I74, 0, 0, 47, [(0, .ref 59), (1, .int a1), (2, .int a2), (3, .int a3), (4, .int q1100)], [.int ((0 : Int32)), .ref 59], xw_R X ((0 : Int32)) s_57_1 s_57_18 s_57_19 s_57_20 s_57_24 a_58 a_59 a_60 a_61 a_62 a_63 a_64 a_65 t_lines t_numbers a_68 a_69 t_parts t_sorts t_values a_73 a_74 a_75 l_76))) (fun K => rfl) ?_
          refine xe_k ?_
          refine xe_sub [true, false, false, true, true] (lv' := [(0, .ref 59), (3, .int a3), (4, .int q1100)]) rfl ?_
          have hz := xh_rf_set_57_47 (l := l) (g := g) ok a_58 a_59 a_60 a_61 a_62 a_63 a_64 a_65 a_68 a_69 a_73 a_74 a_75 l_76 s_57_1 s_57_18 s_57_19 s_57_20 s_57_24 X t_lines t_numbers t_parts t_sorts n ((0 : Int32)) t_values a3 q1100 ((0 : Int32)) _ h
          exact hz
    · refine xe_neg hc1107 (xe_k ?_)
      refine xe_sub [true, false, false, true, true] (lv' := [(0, .ref 59), (3, .int a3), (4, .int q1100)]) rfl ?_
      have hz := xh_rf_set_57_42 (l := l) (g := g) ok a_58 a_59 a_60 a_61 a_62 a_63 a_64 a_65 a_68 a_69 a_73 a_74 a_75 l_76 s_57_1 s_57_18 s_57_19 s_57_20 s_57_24 X t_lines t_numbers t_parts t_sorts n ((0 : Int32)) t_values a3 q1100 _ h
      exact hz
set_option maxHeartbeats 400000 in
theorem xh_rf_firstWrong_57_124 {l : Launch} {g : xr_G} (ok : xr_OK xm_P) (a_58 a_59 a_60 a_61 a_62 a_63 a_66 a_67 a_68 a_69 a_73 a_74 a_75 : Nat → Int32) (l_76 : Nat → Int64) (s_57_0 s_57_1 s_57_18 s_57_19 s_57_20 s_57_24 : Int32) (X : Nat → xr_C) (t_kindMay : (Nat → Int32)) (t_kindSorts : (Nat → Int32)) (t_parts : (Nat → Int32)) (t_sorts : (Nat → Int32)) (t_values : (Nat → Int32)) {k2 : Int32 → Int32 → Int32 → Option (Int32)} (hk2 : ∀ (v1 : Int32) (v2 : Int32) (v3 : Int32) (r : (Int32)), k2 v1 v2 v3 = some r → xV xm_P l g (75, xm_i75, xm_I75, 0, 0, 2, [(0, .ref 59), (1, .int v1), (2, .int v2), (3, .int v3)], [], xw_R X s_57_0 s_57_1 s_57_18 s_57_19 s_57_20 s_57_24 a_58 a_59 a_60 a_61 a_62 a_63 t_kindSorts t_kindMay a_66 a_67 a_68 a_69 t_parts t_sorts t_values a_73 a_74 a_75 l_76) (.inl (some (.int r)), xw_R X s_57_0 s_57_1 s_57_18 s_57_19 s_57_20 s_57_24 a_58 a_59 a_60 a_61 a_62 a_63 t_kindSorts t_kindMay a_66 a_67 a_68 a_69 t_parts t_sorts t_values a_73 a_74 a_75 l_76)) (n : Nat) : ∀ (v1 : Int32) (v2 : Int32) (v3 : Int32) (r : (Int32)), xf_rf_firstWrong_124 t_kindMay t_kindSorts t_parts t_sorts t_values k2 n v1 v2 v3 = some r → xV xm_P l g (75, xm_i75, xm_I75, 0, 0, 124, [(0, .ref 59), (1, .int v1), (2, .int v2), (3, .int v3)], [], xw_R X s_57_0 s_57_1 s_57_18 s_57_19 s_57_20 s_57_24 a_58 a_59 a_60 a_61 a_62 a_63 t_kindSorts t_kindMay a_66 a_67 a_68 a_69 t_parts t_sorts t_values a_73 a_74 a_75 l_76) (.inl (some (.int r)), xw_R X s_57_0 s_57_1 s_57_18 s_57_19 s_57_20 s_57_24 a_58 a_59 a_60 a_61 a_62 a_63 t_kindSorts t_kindMay a_66 a_67 a_68 a_69 t_parts t_sorts t_values a_73 a_74 a_75 l_76) := by
  intro v1 v2 v3 r h
  unfold xf_rf_firstWrong_124 at h
  refine xe_seg ok 2 (G := (fun K => K (75, xm_i75, xm_I75, 0, 0, 2, [(0, .ref 59), (1, .int v1), (2, .int v2), (3, .int (v3 + (1 : Int32)))], [], xw_R X s_57_0 s_57_1 s_57_18 s_57_19 s_57_20 s_57_24 a_58 a_59 a_60 a_61 a_62 a_63 t_kindSorts t_kindMay a_66 a_67 a_68 a_69 t_parts t_sorts t_values a_73 a_74 a_75 l_76))) (fun K => rfl) ?_
  refine xe_k ?_
  refine xe_sub [true, true, true, true] (lv' := [(0, .ref 59), (1, .int v1), (2, .int v2), (3, .int (v3 + (1 : Int32)))]) rfl ?_
  have hz := hk2 v1 v2 (v3 + (1 : Int32)) _ h
  exact hz
set_option maxHeartbeats 400000 in
theorem xh_rf_firstWrong_57_98 {l : Launch} {g : xr_G} (ok : xr_OK xm_P) (a_58 a_59 a_60 a_61 a_62 a_63 a_66 a_67 a_68 a_69 a_73 a_74 a_75 : Nat → Int32) (l_76 : Nat → Int64) (s_57_0 s_57_1 s_57_18 s_57_19 s_57_20 s_57_24 : Int32) (X : Nat → xr_C) (t_kindMay : (Nat → Int32)) (t_kindSorts : (Nat → Int32)) (t_parts : (Nat → Int32)) (t_sorts : (Nat → Int32)) (t_values : (Nat → Int32)) {k2 : Int32 → Int32 → Int32 → Option (Int32)} (hk2 : ∀ (v1 : Int32) (v2 : Int32) (v3 : Int32) (r : (Int32)), k2 v1 v2 v3 = some r → xV xm_P l g (75, xm_i75, xm_I75, 0, 0, 2, [(0, .ref 59), (1, .int v1), (2, .int v2), (3, .int v3)], [], xw_R X s_57_0 s_57_1 s_57_18 s_57_19 s_57_20 s_57_24 a_58 a_59 a_60 a_61 a_62 a_63 t_kindSorts t_kindMay a_66 a_67 a_68 a_69 t_parts t_sorts t_values a_73 a_74 a_75 l_76) (.inl (some (.int r)), xw_R X s_57_0 s_57_1 s_57_18 s_57_19 s_57_20 s_57_24 a_58 a_59 a_60 a_61 a_62 a_63 t_kindSorts t_kindMay a_66 a_67 a_68 a_69 t_parts t_sorts t_values a_73 a_74 a_75 l_76)) (n : Nat) : ∀ (v1 : Int32) (v2 : Int32) (v3 : Int32) (v4 : Int32) (v5 : Int32) (v6 : Int32) (s0 : Int32) (r : (Int32)), xf_rf_firstWrong_98 t_kindMay t_kindSorts t_parts t_sorts t_values k2 n v1 v2 v3 v4 v5 v6 s0 = some r → xV xm_P l g (75, xm_i75, xm_I75, 0, 0, 98, [(0, .ref 59), (1, .int v1), (2, .int v2), (3, .int v3), (4, .int v4), (5, .int v5), (6, .int v6)], [.int s0], xw_R X s_57_0 s_57_1 s_57_18 s_57_19 s_57_20 s_57_24 a_58 a_59 a_60 a_61 a_62 a_63 t_kindSorts t_kindMay a_66 a_67 a_68 a_69 t_parts t_sorts t_values a_73 a_74 a_75 l_76) (.inl (some (.int r)), xw_R X s_57_0 s_57_1 s_57_18 s_57_19 s_57_20 s_57_24 a_58 a_59 a_60 a_61 a_62 a_63 t_kindSorts t_kindMay a_66 a_67 a_68 a_69 t_parts t_sorts t_values a_73 a_74 a_75 l_76) := by
  intro v1 v2 v3 v4 v5 v6 s0 r h
  unfold xf_rf_firstWrong_98 at h
  refine xe_seg ok 5 (G := (fun K => if xr_in v4 960 = true then K (75, xm_i75, xm_I75, 0, 0, 107, [(0, .ref 59), (1, .int v1), (2, .int v2), (3, .int v3), (4, .int v4), (5, .int v5), (6, .int v6), (7, .int s0)], [.int (t_sorts v4.toNatClampNeg)], xw_R X s_57_0 s_57_1 s_57_18 s_57_19 s_57_20 s_57_24 a_58 a_59 a_60 a_61 a_62 a_63 t_kindSorts t_kindMay a_66 a_67 a_68 a_69 t_parts t_sorts t_values a_73 a_74 a_75 l_76) else none)) (fun K => rfl) ?_
  obtain ⟨hg1130, h⟩ := xn_if h
  refine xe_pos hg1130 (xe_k ?_)
  refine xe_seg ok 2 (G := (fun K => if (t_sorts v4.toNatClampNeg) = v5 then K (75, xm_i75, xm_I75, 0, 0, 124, [(0, .ref 59), (1, .int v1), (2, .int v2), (3, .int v3), (4, .int v4), (5, .int v5), (6, .int v6), (7, .int s0)], [], xw_R X s_57_0 s_57_1 s_57_18 s_57_19 s_57_20 s_57_24 a_58 a_59 a_60 a_61 a_62 a_63 t_kindSorts t_kindMay a_66 a_67 a_68 a_69 t_parts t_sorts t_values a_73 a_74 a_75 l_76) else K (75, xm_i75, xm_I75, 0, 0, 112, [(0, .ref 59), (1, .int v1), (2, .int v2), (3, .int v3), (4, .int v4), (5, .int v5), (6, .int v6), (7, .int s0)], [], xw_R X s_57_0 s_57_1 s_57_18 s_57_19 s_57_20 s_57_24 a_58 a_59 a_60 a_61 a_62 a_63 t_kindSorts t_kindMay a_66 a_67 a_68 a_69 t_parts t_sorts t_values a_73 a_74 a_75 l_76))) (fun K => rfl) ?_
  rcases xb_if h with ⟨hc1131, h⟩ | ⟨hc1131, h⟩
  · refine xe_pos hc1131 (xe_k ?_)
    refine xe_sub [true, true, true, true, false, false, false, false] (lv' := [(0, .ref 59), (1, .int v1), (2, .int v2), (3, .int v3)]) rfl ?_
    have hz := xh_rf_firstWrong_57_124 (l := l) (g := g) ok a_58 a_59 a_60 a_61 a_62 a_63 a_66 a_67 a_68 a_69 a_73 a_74 a_75 l_76 s_57_0 s_57_1 s_57_18 s_57_19 s_57_20 s_57_24 X t_kindMay t_kindSorts t_parts t_sorts t_values hk2 n v1 v2 v3 _ h
    exact hz
  · refine xe_neg hc1131 (xe_k ?_)
    refine xe_seg ok 2 (G := (fun K => if v6 = (0 : Int32) then K (75, xm_i75, xm_I75, 0, 0, 117, [(0, .ref 59), (1, .int v1), (2, .int v2), (3, .int v3), (4, .int v4), (5, .int v5), (6, .int v6), (7, .int s0)], [], xw_R X s_57_0 s_57_1 s_57_18 s_57_19 s_57_20 s_57_24 a_58 a_59 a_60 a_61 a_62 a_63 t_kindSorts t_kindMay a_66 a_67 a_68 a_69 t_parts t_sorts t_values a_73 a_74 a_75 l_76) else K (75, xm_i75, xm_I75, 0, 0, 124, [(0, .ref 59), (1, .int v1), (2, .int v2), (3, .int v3), (4, .int v4), (5, .int v5), (6, .int v6), (7, .int s0)], [], xw_R X s_57_0 s_57_1 s_57_18 s_57_19 s_57_20 s_57_24 a_58 a_59 a_60 a_61 a_62 a_63 t_kindSorts t_kindMay a_66 a_67 a_68 a_69 t_parts t_sorts t_values a_73 a_74 a_75 l_76))) (fun K => rfl) ?_
    rcases xb_if h with ⟨hc1132, h⟩ | ⟨hc1132, h⟩
    · refine xe_pos hc1132 (xe_k ?_)
      refine xe_seg ok 2 (G := (fun K => if s0 = (0 : Int32) then K (75, xm_i75, xm_I75, 0, 0, 122, [(0, .ref 59), (1, .int v1), (2, .int v2), (3, .int v3), (4, .int v4), (5, .int v5), (6, .int v6), (7, .int s0)], [], xw_R X s_57_0 s_57_1 s_57_18 s_57_19 s_57_20 s_57_24 a_58 a_59 a_60 a_61 a_62 a_63 t_kindSorts t_kindMay a_66 a_67 a_68 a_69 t_parts t_sorts t_values a_73 a_74 a_75 l_76) else K (75, xm_i75, xm_I75, 0, 0, 124, [(0, .ref 59), (1, .int v1), (2, .int v2), (3, .int v3), (4, .int v4), (5, .int v5), (6, .int v6), (7, .int s0)], [], xw_R X s_57_0 s_57_1 s_57_18 s_57_19 s_57_20 s_57_24 a_58 a_59 a_60 a_61 a_62 a_63 t_kindSorts t_kindMay a_66 a_67 a_68 a_69 t_parts t_sorts t_values a_73 a_74 a_75 l_76))) (fun K => rfl) ?_
      rcases xb_if h with ⟨hc1133, h⟩ | ⟨hc1133, h⟩
      · refine xe_pos hc1133 (xe_k ?_)
        obtain rfl := Option.some.inj h
        refine xe_seg ok 2 (G := (fun _ => some (.inl (some (.int v3)), xw_R X s_57_0 s_57_1 s_57_18 s_57_19 s_57_20 s_57_24 a_58 a_59 a_60 a_61 a_62 a_63 t_kindSorts t_kindMay a_66 a_67 a_68 a_69 t_parts t_sorts t_values a_73 a_74 a_75 l_76))) (fun K => rfl) ?_
        exact xe_ret
      · refine xe_neg hc1133 (xe_k ?_)
        refine xe_sub [true, true, true, true, false, false, false, false] (lv' := [(0, .ref 59), (1, .int v1), (2, .int v2), (3, .int v3)]) rfl ?_
        have hz := xh_rf_firstWrong_57_124 (l := l) (g := g) ok a_58 a_59 a_60 a_61 a_62 a_63 a_66 a_67 a_68 a_69 a_73 a_74 a_75 l_76 s_57_0 s_57_1 s_57_18 s_57_19 s_57_20 s_57_24 X t_kindMay t_kindSorts t_parts t_sorts t_values hk2 n v1 v2 v3 _ h
        exact hz
    · refine xe_neg hc1132 (xe_k ?_)
      refine xe_sub [true, true, true, true, false, false, false, false] (lv' := [(0, .ref 59), (1, .int v1), (2, .int v2), (3, .int v3)]) rfl ?_
      have hz := xh_rf_firstWrong_57_124 (l := l) (g := g) ok a_58 a_59 a_60 a_61 a_62 a_63 a_66 a_67 a_68 a_69 a_73 a_74 a_75 l_76 s_57_0 s_57_1 s_57_18 s_57_19 s_57_20 s_57_24 X t_kindMay t_kindSorts t_parts t_sorts t_values hk2 n v1 v2 v3 _ h
      exact hz
set_option maxHeartbeats 400000 in
theorem xh_rf_firstWrong_57_97 {l : Launch} {g : xr_G} (ok : xr_OK xm_P) (a_58 a_59 a_60 a_61 a_62 a_63 a_66 a_67 a_68 a_69 a_73 a_74 a_75 : Nat → Int32) (l_76 : Nat → Int64) (s_57_0 s_57_1 s_57_18 s_57_19 s_57_20 s_57_24 : Int32) (X : Nat → xr_C) (t_kindMay : (Nat → Int32)) (t_kindSorts : (Nat → Int32)) (t_parts : (Nat → Int32)) (t_sorts : (Nat → Int32)) (t_values : (Nat → Int32)) {k2 : Int32 → Int32 → Int32 → Option (Int32)} (hk2 : ∀ (v1 : Int32) (v2 : Int32) (v3 : Int32) (r : (Int32)), k2 v1 v2 v3 = some r → xV xm_P l g (75, xm_i75, xm_I75, 0, 0, 2, [(0, .ref 59), (1, .int v1), (2, .int v2), (3, .int v3)], [], xw_R X s_57_0 s_57_1 s_57_18 s_57_19 s_57_20 s_57_24 a_58 a_59 a_60 a_61 a_62 a_63 t_kindSorts t_kindMay a_66 a_67 a_68 a_69 t_parts t_sorts t_values a_73 a_74 a_75 l_76) (.inl (some (.int r)), xw_R X s_57_0 s_57_1 s_57_18 s_57_19 s_57_20 s_57_24 a_58 a_59 a_60 a_61 a_62 a_63 t_kindSorts t_kindMay a_66 a_67 a_68 a_69 t_parts t_sorts t_values a_73 a_74 a_75 l_76)) (n : Nat) : ∀ (v1 : Int32) (v2 : Int32) (v3 : Int32) (v4 : Int32) (v5 : Int32) (v6 : Int32) (r : (Int32)), xf_rf_firstWrong_97 t_kindMay t_kindSorts t_parts t_sorts t_values k2 n v1 v2 v3 v4 v5 v6 = some r → xV xm_P l g (75, xm_i75, xm_I75, 0, 0, 97, [(0, .ref 59), (1, .int v1), (2, .int v2), (3, .int v3), (4, .int v4), (5, .int v5), (6, .int v6)], [], xw_R X s_57_0 s_57_1 s_57_18 s_57_19 s_57_20 s_57_24 a_58 a_59 a_60 a_61 a_62 a_63 t_kindSorts t_kindMay a_66 a_67 a_68 a_69 t_parts t_sorts t_values a_73 a_74 a_75 l_76) (.inl (some (.int r)), xw_R X s_57_0 s_57_1 s_57_18 s_57_19 s_57_20 s_57_24 a_58 a_59 a_60 a_61 a_62 a_63 t_kindSorts t_kindMay a_66 a_67 a_68 a_69 t_parts t_sorts t_values a_73 a_74 a_75 l_76) := by
  intro v1 v2 v3 v4 v5 v6 r h
  unfold xf_rf_firstWrong_97 at h
  refine xe_seg ok 1 (G := (fun K => K (75, xm_i75, xm_I75, 0, 0, 98, [(0, .ref 59), (1, .int v1), (2, .int v2), (3, .int v3), (4, .int v4), (5, .int v5), (6, .int v6)], [.int ((0 : Int32))], xw_R X s_57_0 s_57_1 s_57_18 s_57_19 s_57_20 s_57_24 a_58 a_59 a_60 a_61 a_62 a_63 t_kindSorts t_kindMay a_66 a_67 a_68 a_69 t_parts t_sorts t_values a_73 a_74 a_75 l_76))) (fun K => rfl) ?_
  refine xe_k ?_
  refine xe_sub [true, true, true, true, true, true, true] (lv' := [(0, .ref 59), (1, .int v1), (2, .int v2), (3, .int v3), (4, .int v4), (5, .int v5), (6, .int v6)]) rfl ?_
  have hz := xh_rf_firstWrong_57_98 (l := l) (g := g) ok a_58 a_59 a_60 a_61 a_62 a_63 a_66 a_67 a_68 a_69 a_73 a_74 a_75 l_76 s_57_0 s_57_1 s_57_18 s_57_19 s_57_20 s_57_24 X t_kindMay t_kindSorts t_parts t_sorts t_values hk2 n v1 v2 v3 v4 v5 v6 ((0 : Int32)) _ h
  exact hz
set_option maxHeartbeats 400000 in
theorem xh_rf_firstWrong_57_65 {l : Launch} {g : xr_G} (ok : xr_OK xm_P) (a_58 a_59 a_60 a_61 a_62 a_63 a_66 a_67 a_68 a_69 a_73 a_74 a_75 : Nat → Int32) (l_76 : Nat → Int64) (s_57_0 s_57_1 s_57_18 s_57_19 s_57_20 s_57_24 : Int32) (X : Nat → xr_C) (t_kindMay : (Nat → Int32)) (t_kindSorts : (Nat → Int32)) (t_parts : (Nat → Int32)) (t_sorts : (Nat → Int32)) (t_values : (Nat → Int32)) {k2 : Int32 → Int32 → Int32 → Option (Int32)} (hk2 : ∀ (v1 : Int32) (v2 : Int32) (v3 : Int32) (r : (Int32)), k2 v1 v2 v3 = some r → xV xm_P l g (75, xm_i75, xm_I75, 0, 0, 2, [(0, .ref 59), (1, .int v1), (2, .int v2), (3, .int v3)], [], xw_R X s_57_0 s_57_1 s_57_18 s_57_19 s_57_20 s_57_24 a_58 a_59 a_60 a_61 a_62 a_63 t_kindSorts t_kindMay a_66 a_67 a_68 a_69 t_parts t_sorts t_values a_73 a_74 a_75 l_76) (.inl (some (.int r)), xw_R X s_57_0 s_57_1 s_57_18 s_57_19 s_57_20 s_57_24 a_58 a_59 a_60 a_61 a_62 a_63 t_kindSorts t_kindMay a_66 a_67 a_68 a_69 t_parts t_sorts t_values a_73 a_74 a_75 l_76)) (n : Nat) : ∀ (v1 : Int32) (v2 : Int32) (v3 : Int32) (v4 : Int32) (v5 : Int32) (s0 : Int32) (r : (Int32)), xf_rf_firstWrong_65 t_kindMay t_kindSorts t_parts t_sorts t_values k2 n v1 v2 v3 v4 v5 s0 = some r → xV xm_P l g (75, xm_i75, xm_I75, 0, 0, 65, [(0, .ref 59), (1, .int v1), (2, .int v2), (3, .int v3), (4, .int v4), (5, .int v5)], [.int s0], xw_R X s_57_0 s_57_1 s_57_18 s_57_19 s_57_20 s_57_24 a_58 a_59 a_60 a_61 a_62 a_63 t_kindSorts t_kindMay a_66 a_67 a_68 a_69 t_parts t_sorts t_values a_73 a_74 a_75 l_76) (.inl (some (.int r)), xw_R X s_57_0 s_57_1 s_57_18 s_57_19 s_57_20 s_57_24 a_58 a_59 a_60 a_61 a_62 a_63 t_kindSorts t_kindMay a_66 a_67 a_68 a_69 t_parts t_sorts t_values a_73 a_74 a_75 l_76) := by
  intro v1 v2 v3 v4 v5 s0 r h
  unfold xf_rf_firstWrong_65 at h
  refine xe_seg ok 5 (G := (fun K => if xr_in v4 960 = true then K (75, xm_i75, xm_I75, 0, 0, 74, [(0, .ref 59), (1, .int v1), (2, .int v2), (3, .int v3), (4, .int v4), (5, .int v5), (6, .int s0)], [.int (t_sorts v4.toNatClampNeg)], xw_R X s_57_0 s_57_1 s_57_18 s_57_19 s_57_20 s_57_24 a_58 a_59 a_60 a_61 a_62 a_63 t_kindSorts t_kindMay a_66 a_67 a_68 a_69 t_parts t_sorts t_values a_73 a_74 a_75 l_76) else none)) (fun K => rfl) ?_
  obtain ⟨hg1126, h⟩ := xn_if h
  refine xe_pos hg1126 (xe_k ?_)
  refine xe_seg ok 2 (G := (fun K => if (t_sorts v4.toNatClampNeg) = ((6 : Int32)) then K (75, xm_i75, xm_I75, 0, 0, 79, [(0, .ref 59), (1, .int v1), (2, .int v2), (3, .int v3), (4, .int v4), (5, .int v5), (6, .int s0)], [], xw_R X s_57_0 s_57_1 s_57_18 s_57_19 s_57_20 s_57_24 a_58 a_59 a_60 a_61 a_62 a_63 t_kindSorts t_kindMay a_66 a_67 a_68 a_69 t_parts t_sorts t_values a_73 a_74 a_75 l_76) else K (75, xm_i75, xm_I75, 0, 0, 97, [(0, .ref 59), (1, .int v1), (2, .int v2), (3, .int v3), (4, .int v4), (5, .int v5), (6, .int s0)], [], xw_R X s_57_0 s_57_1 s_57_18 s_57_19 s_57_20 s_57_24 a_58 a_59 a_60 a_61 a_62 a_63 t_kindSorts t_kindMay a_66 a_67 a_68 a_69 t_parts t_sorts t_values a_73 a_74 a_75 l_76))) (fun K => rfl) ?_
  rcases xb_if h with ⟨hc1127, h⟩ | ⟨hc1127, h⟩
  · refine xe_pos hc1127 (xe_k ?_)
    refine xe_seg ok 8 (G := (fun K => if xr_in ((((8 : Int32)) * v2) + v3) 192 = true then K (75, xm_i75, xm_I75, 0, 0, 90, [(0, .ref 59), (1, .int v1), (2, .int v2), (3, .int v3), (4, .int v4), (5, .int v5), (6, .int s0)], [.int (t_kindMay ((((8 : Int32)) * v2) + v3).toNatClampNeg)], xw_R X s_57_0 s_57_1 s_57_18 s_57_19 s_57_20 s_57_24 a_58 a_59 a_60 a_61 a_62 a_63 t_kindSorts t_kindMay a_66 a_67 a_68 a_69 t_parts t_sorts t_values a_73 a_74 a_75 l_76) else none)) (fun K => rfl) ?_
    obtain ⟨hg1128, h⟩ := xn_if h
    refine xe_pos hg1128 (xe_k ?_)
    refine xe_seg ok 1 (G := (fun K => if (t_kindMay ((((8 : Int32)) * v2) + v3).toNatClampNeg) = (0 : Int32) then K (75, xm_i75, xm_I75, 0, 0, 97, [(0, .ref 59), (1, .int v1), (2, .int v2), (3, .int v3), (4, .int v4), (5, .int v5), (6, .int s0)], [], xw_R X s_57_0 s_57_1 s_57_18 s_57_19 s_57_20 s_57_24 a_58 a_59 a_60 a_61 a_62 a_63 t_kindSorts t_kindMay a_66 a_67 a_68 a_69 t_parts t_sorts t_values a_73 a_74 a_75 l_76) else K (75, xm_i75, xm_I75, 0, 0, 93, [(0, .ref 59), (1, .int v1), (2, .int v2), (3, .int v3), (4, .int v4), (5, .int v5), (6, .int s0)], [], xw_R X s_57_0 s_57_1 s_57_18 s_57_19 s_57_20 s_57_24 a_58 a_59 a_60 a_61 a_62 a_63 t_kindSorts t_kindMay a_66 a_67 a_68 a_69 t_parts t_sorts t_values a_73 a_74 a_75 l_76))) (fun K => rfl) ?_
    rcases xb_if h with ⟨hc1129, h⟩ | ⟨hc1129, h⟩
    · refine xe_pos hc1129 (xe_k ?_)
      refine xe_sub [true, true, true, true, true, true, true] (lv' := [(0, .ref 59), (1, .int v1), (2, .int v2), (3, .int v3), (4, .int v4), (5, .int v5), (6, .int s0)]) rfl ?_
      have hz := xh_rf_firstWrong_57_97 (l := l) (g := g) ok a_58 a_59 a_60 a_61 a_62 a_63 a_66 a_67 a_68 a_69 a_73 a_74 a_75 l_76 s_57_0 s_57_1 s_57_18 s_57_19 s_57_20 s_57_24 X t_kindMay t_kindSorts t_parts t_sorts t_values hk2 n v1 v2 v3 v4 v5 s0 _ h
      exact hz
    · refine xe_neg hc1129 (xe_k ?_)
      refine xe_seg ok 2 (G := (fun K => K (75, xm_i75, xm_I75, 0, 0, 98, [(0, .ref 59), (1, .int v1), (2, .int v2), (3, .int v3), (4, .int v4), (5, .int v5), (6, .int s0)], [.int ((1 : Int32))], xw_R X s_57_0 s_57_1 s_57_18 s_57_19 s_57_20 s_57_24 a_58 a_59 a_60 a_61 a_62 a_63 t_kindSorts t_kindMay a_66 a_67 a_68 a_69 t_parts t_sorts t_values a_73 a_74 a_75 l_76))) (fun K => rfl) ?_
      refine xe_k ?_
      refine xe_sub [true, true, true, true, true, true, true] (lv' := [(0, .ref 59), (1, .int v1), (2, .int v2), (3, .int v3), (4, .int v4), (5, .int v5), (6, .int s0)]) rfl ?_
      have hz := xh_rf_firstWrong_57_98 (l := l) (g := g) ok a_58 a_59 a_60 a_61 a_62 a_63 a_66 a_67 a_68 a_69 a_73 a_74 a_75 l_76 s_57_0 s_57_1 s_57_18 s_57_19 s_57_20 s_57_24 X t_kindMay t_kindSorts t_parts t_sorts t_values hk2 n v1 v2 v3 v4 v5 s0 ((1 : Int32)) _ h
      exact hz
  · refine xe_neg hc1127 (xe_k ?_)
    refine xe_sub [true, true, true, true, true, true, true] (lv' := [(0, .ref 59), (1, .int v1), (2, .int v2), (3, .int v3), (4, .int v4), (5, .int v5), (6, .int s0)]) rfl ?_
    have hz := xh_rf_firstWrong_57_97 (l := l) (g := g) ok a_58 a_59 a_60 a_61 a_62 a_63 a_66 a_67 a_68 a_69 a_73 a_74 a_75 l_76 s_57_0 s_57_1 s_57_18 s_57_19 s_57_20 s_57_24 X t_kindMay t_kindSorts t_parts t_sorts t_values hk2 n v1 v2 v3 v4 v5 s0 _ h
    exact hz
set_option maxHeartbeats 400000 in
theorem xh_rf_firstWrong_57_64 {l : Launch} {g : xr_G} (ok : xr_OK xm_P) (a_58 a_59 a_60 a_61 a_62 a_63 a_66 a_67 a_68 a_69 a_73 a_74 a_75 : Nat → Int32) (l_76 : Nat → Int64) (s_57_0 s_57_1 s_57_18 s_57_19 s_57_20 s_57_24 : Int32) (X : Nat → xr_C) (t_kindMay : (Nat → Int32)) (t_kindSorts : (Nat → Int32)) (t_parts : (Nat → Int32)) (t_sorts : (Nat → Int32)) (t_values : (Nat → Int32)) {k2 : Int32 → Int32 → Int32 → Option (Int32)} (hk2 : ∀ (v1 : Int32) (v2 : Int32) (v3 : Int32) (r : (Int32)), k2 v1 v2 v3 = some r → xV xm_P l g (75, xm_i75, xm_I75, 0, 0, 2, [(0, .ref 59), (1, .int v1), (2, .int v2), (3, .int v3)], [], xw_R X s_57_0 s_57_1 s_57_18 s_57_19 s_57_20 s_57_24 a_58 a_59 a_60 a_61 a_62 a_63 t_kindSorts t_kindMay a_66 a_67 a_68 a_69 t_parts t_sorts t_values a_73 a_74 a_75 l_76) (.inl (some (.int r)), xw_R X s_57_0 s_57_1 s_57_18 s_57_19 s_57_20 s_57_24 a_58 a_59 a_60 a_61 a_62 a_63 t_kindSorts t_kindMay a_66 a_67 a_68 a_69 t_parts t_sorts t_values a_73 a_74 a_75 l_76)) (n : Nat) : ∀ (v1 : Int32) (v2 : Int32) (v3 : Int32) (v4 : Int32) (v5 : Int32) (r : (Int32)), xf_rf_firstWrong_64 t_kindMay t_kindSorts t_parts t_sorts t_values k2 n v1 v2 v3 v4 v5 = some r → xV xm_P l g (75, xm_i75, xm_I75, 0, 0, 64, [(0, .ref 59), (1, .int v1), (2, .int v2), (3, .int v3), (4, .int v4), (5, .int v5)], [], xw_R X s_57_0 s_57_1 s_57_18 s_57_19 s_57_20 s_57_24 a_58 a_59 a_60 a_61 a_62 a_63 t_kindSorts t_kindMay a_66 a_67 a_68 a_69 t_parts t_sorts t_values a_73 a_74 a_75 l_76) (.inl (some (.int r)), xw_R X s_57_0 s_57_1 s_57_18 s_57_19 s_57_20 s_57_24 a_58 a_59 a_60 a_61 a_62 a_63 t_kindSorts t_kindMay a_66 a_67 a_68 a_69 t_parts t_sorts t_values a_73 a_74 a_75 l_76) := by
  intro v1 v2 v3 v4 v5 r h
  unfold xf_rf_firstWrong_64 at h
  refine xe_seg ok 1 (G := (fun K => K (75, xm_i75, xm_I75, 0, 0, 65, [(0, .ref 59), (1, .int v1), (2, .int v2), (3, .int v3), (4, .int v4), (5, .int v5)], [.int ((0 : Int32))], xw_R X s_57_0 s_57_1 s_57_18 s_57_19 s_57_20 s_57_24 a_58 a_59 a_60 a_61 a_62 a_63 t_kindSorts t_kindMay a_66 a_67 a_68 a_69 t_parts t_sorts t_values a_73 a_74 a_75 l_76))) (fun K => rfl) ?_
  refine xe_k ?_
  refine xe_sub [true, true, true, true, true, true] (lv' := [(0, .ref 59), (1, .int v1), (2, .int v2), (3, .int v3), (4, .int v4), (5, .int v5)]) rfl ?_
  have hz := xh_rf_firstWrong_57_65 (l := l) (g := g) ok a_58 a_59 a_60 a_61 a_62 a_63 a_66 a_67 a_68 a_69 a_73 a_74 a_75 l_76 s_57_0 s_57_1 s_57_18 s_57_19 s_57_20 s_57_24 X t_kindMay t_kindSorts t_parts t_sorts t_values hk2 n v1 v2 v3 v4 v5 ((0 : Int32)) _ h
  exact hz
set_option maxHeartbeats 400000 in
theorem xh_rf_firstWrong_57_2 {l : Launch} {g : xr_G} (ok : xr_OK xm_P) (a_58 a_59 a_60 a_61 a_62 a_63 a_66 a_67 a_68 a_69 a_73 a_74 a_75 : Nat → Int32) (l_76 : Nat → Int64) (s_57_0 s_57_1 s_57_18 s_57_19 s_57_20 s_57_24 : Int32) (X : Nat → xr_C) (t_kindMay : (Nat → Int32)) (t_kindSorts : (Nat → Int32)) (t_parts : (Nat → Int32)) (t_sorts : (Nat → Int32)) (t_values : (Nat → Int32)) (n : Nat) : ∀ (N : Nat) (v1 : Int32) (v2 : Int32) (v3 : Int32) (r : (Int32)), xf_rf_firstWrong_2 t_kindMay t_kindSorts t_parts t_sorts t_values n N v1 v2 v3 = some r → xV xm_P l g (75, xm_i75, xm_I75, 0, 0, 2, [(0, .ref 59), (1, .int v1), (2, .int v2), (3, .int v3)], [], xw_R X s_57_0 s_57_1 s_57_18 s_57_19 s_57_20 s_57_24 a_58 a_59 a_60 a_61 a_62 a_63 t_kindSorts t_kindMay a_66 a_67 a_68 a_69 t_parts t_sorts t_values a_73 a_74 a_75 l_76) (.inl (some (.int r)), xw_R X s_57_0 s_57_1 s_57_18 s_57_19 s_57_20 s_57_24 a_58 a_59 a_60 a_61 a_62 a_63 t_kindSorts t_kindMay a_66 a_67 a_68 a_69 t_parts t_sorts t_values a_73 a_74 a_75 l_76) := by
  intro N
  induction N with
  | zero => intro v1 v2 v3 r h; cases h
  | succ N hk2 =>
    intro v1 v2 v3 r h
    refine xe_seg ok 5 (G := (fun K => if xr_in v1 120 = true then K (75, xm_i75, xm_I75, 0, 0, 9, [(0, .ref 59), (1, .int v1), (2, .int v2), (3, .int v3)], [.int (t_parts v1.toNatClampNeg), .int v3], xw_R X s_57_0 s_57_1 s_57_18 s_57_19 s_57_20 s_57_24 a_58 a_59 a_60 a_61 a_62 a_63 t_kindSorts t_kindMay a_66 a_67 a_68 a_69 t_parts t_sorts t_values a_73 a_74 a_75 l_76) else none)) (fun K => rfl) ?_
    obtain ⟨hg1118, h⟩ := xn_if h
    refine xe_pos hg1118 (xe_k ?_)
    refine xe_seg ok 1 (G := (fun K => if v3 < (t_parts v1.toNatClampNeg) then K (75, xm_i75, xm_I75, 0, 0, 12, [(0, .ref 59), (1, .int v1), (2, .int v2), (3, .int v3)], [], xw_R X s_57_0 s_57_1 s_57_18 s_57_19 s_57_20 s_57_24 a_58 a_59 a_60 a_61 a_62 a_63 t_kindSorts t_kindMay a_66 a_67 a_68 a_69 t_parts t_sorts t_values a_73 a_74 a_75 l_76) else K (75, xm_i75, xm_I75, 0, 0, 130, [(0, .ref 59), (1, .int v1), (2, .int v2), (3, .int v3)], [], xw_R X s_57_0 s_57_1 s_57_18 s_57_19 s_57_20 s_57_24 a_58 a_59 a_60 a_61 a_62 a_63 t_kindSorts t_kindMay a_66 a_67 a_68 a_69 t_parts t_sorts t_values a_73 a_74 a_75 l_76))) (fun K => rfl) ?_
    rcases xb_if h with ⟨hc1119, h⟩ | ⟨hc1119, h⟩
    · refine xe_pos hc1119 (xe_k ?_)
      refine xe_seg ok 14 (G := (fun K => if xr_in ((((8 : Int32)) * v2) + v3) 192 = true then K (75, xm_i75, xm_I75, 0, 0, 31, [(0, .ref 59), (1, .int v1), (2, .int v2), (3, .int v3), (4, .int ((((8 : Int32)) * v1) + v3))], [.int (t_kindSorts ((((8 : Int32)) * v2) + v3).toNatClampNeg)], xw_R X s_57_0 s_57_1 s_57_18 s_57_19 s_57_20 s_57_24 a_58 a_59 a_60 a_61 a_62 a_63 t_kindSorts t_kindMay a_66 a_67 a_68 a_69 t_parts t_sorts t_values a_73 a_74 a_75 l_76) else none)) (fun K => rfl) ?_
      obtain ⟨hg1120, h⟩ := xn_if h
      refine xe_pos hg1120 (xe_k ?_)
      refine xe_seg ok 4 (G := (fun K => if (t_kindSorts ((((8 : Int32)) * v2) + v3).toNatClampNeg) = ((4 : Int32)) then K (75, xm_i75, xm_I75, 0, 0, 39, [(0, .ref 59), (1, .int v1), (2, .int v2), (3, .int v3), (4, .int ((((8 : Int32)) * v1) + v3)), (5, .int (t_kindSorts ((((8 : Int32)) * v2) + v3).toNatClampNeg))], [], xw_R X s_57_0 s_57_1 s_57_18 s_57_19 s_57_20 s_57_24 a_58 a_59 a_60 a_61 a_62 a_63 t_kindSorts t_kindMay a_66 a_67 a_68 a_69 t_parts t_sorts t_values a_73 a_74 a_75 l_76) else K (75, xm_i75, xm_I75, 0, 0, 64, [(0, .ref 59), (1, .int v1), (2, .int v2), (3, .int v3), (4, .int ((((8 : Int32)) * v1) + v3)), (5, .int (t_kindSorts ((((8 : Int32)) * v2) + v3).toNatClampNeg))], [], xw_R X s_57_0 s_57_1 s_57_18 s_57_19 s_57_20 s_57_24 a_58 a_59 a_60 a_61 a_62 a_63 t_kindSorts t_kindMay a_66 a_67 a_68 a_69 t_parts t_sorts t_values a_73 a_74 a_75 l_76))) (fun K => rfl) ?_
      rcases xb_if h with ⟨hc1121, h⟩ | ⟨hc1121, h⟩
      · refine xe_pos hc1121 (xe_k ?_)
        refine xe_seg ok 4 (G := (fun K => if xr_in ((((8 : Int32)) * v1) + v3) 960 = true then K (75, xm_i75, xm_I75, 0, 0, 46, [(0, .ref 59), (1, .int v1), (2, .int v2), (3, .int v3), (4, .int ((((8 : Int32)) * v1) + v3)), (5, .int (t_kindSorts ((((8 : Int32)) * v2) + v3).toNatClampNeg))], [.int (t_sorts ((((8 : Int32)) * v1) + v3).toNatClampNeg)], xw_R X s_57_0 s_57_1 s_57_18 s_57_19 s_57_20 s_57_24 a_58 a_59 a_60 a_61 a_62 a_63 t_kindSorts t_kindMay a_66 a_67 a_68 a_69 t_parts t_sorts t_values a_73 a_74 a_75 l_76) else none)) (fun K => rfl) ?_
        obtain ⟨hg1122, h⟩ := xn_if h
        refine xe_pos hg1122 (xe_k ?_)
        refine xe_seg ok 2 (G := (fun K => if (t_sorts ((((8 : Int32)) * v1) + v3).toNatClampNeg) = ((3 : Int32)) then K (75, xm_i75, xm_I75, 0, 0, 50, [(0, .ref 59), (1, .int v1), (2, .int v2), (3, .int v3), (4, .int ((((8 : Int32)) * v1) + v3)), (5, .int (t_kindSorts ((((8 : Int32)) * v2) + v3).toNatClampNeg))], [], xw_R X s_57_0 s_57_1 s_57_18 s_57_19 s_57_20 s_57_24 a_58 a_59 a_60 a_61 a_62 a_63 t_kindSorts t_kindMay a_66 a_67 a_68 a_69 t_parts t_sorts t_values a_73 a_74 a_75 l_76) else K (75, xm_i75, xm_I75, 0, 0, 64, [(0, .ref 59), (1, .int v1), (2, .int v2), (3, .int v3), (4, .int ((((8 : Int32)) * v1) + v3)), (5, .int (t_kindSorts ((((8 : Int32)) * v2) + v3).toNatClampNeg))], [], xw_R X s_57_0 s_57_1 s_57_18 s_57_19 s_57_20 s_57_24 a_58 a_59 a_60 a_61 a_62 a_63 t_kindSorts t_kindMay a_66 a_67 a_68 a_69 t_parts t_sorts t_values a_73 a_74 a_75 l_76))) (fun K => rfl) ?_
        rcases xb_if h with ⟨hc1123, h⟩ | ⟨hc1123, h⟩
        · refine xe_pos hc1123 (xe_k ?_)
          refine xe_seg ok 4 (G := (fun K => if xr_in ((((8 : Int32)) * v1) + v3) 960 = true then K (75, xm_i75, xm_I75, 0, 0, 57, [(0, .ref 59), (1, .int v1), (2, .int v2), (3, .int v3), (4, .int ((((8 : Int32)) * v1) + v3)), (5, .int (t_kindSorts ((((8 : Int32)) * v2) + v3).toNatClampNeg))], [.int (t_values ((((8 : Int32)) * v1) + v3).toNatClampNeg)], xw_R X s_57_0 s_57_1 s_57_18 s_57_19 s_57_20 s_57_24 a_58 a_59 a_60 a_61 a_62 a_63 t_kindSorts t_kindMay a_66 a_67 a_68 a_69 t_parts t_sorts t_values a_73 a_74 a_75 l_76) else none)) (fun K => rfl) ?_
          obtain ⟨hg1124, h⟩ := xn_if h
          refine xe_pos hg1124 (xe_k ?_)
          refine xe_seg ok 1 (G := (fun K => if (t_values ((((8 : Int32)) * v1) + v3).toNatClampNeg) = (0 : Int32) then K (75, xm_i75, xm_I75, 0, 0, 60, [(0, .ref 59), (1, .int v1), (2, .int v2), (3, .int v3), (4, .int ((((8 : Int32)) * v1) + v3)), (5, .int (t_kindSorts ((((8 : Int32)) * v2) + v3).toNatClampNeg))], [], xw_R X s_57_0 s_57_1 s_57_18 s_57_19 s_57_20 s_57_24 a_58 a_59 a_60 a_61 a_62 a_63 t_kindSorts t_kindMay a_66 a_67 a_68 a_69 t_parts t_sorts t_values a_73 a_74 a_75 l_76) else K (75, xm_i75, xm_I75, 0, 0, 64, [(0, .ref 59), (1, .int v1), (2, .int v2), (3, .int v3), (4, .int ((((8 : Int32)) * v1) + v3)), (5, .int (t_kindSorts ((((8 : Int32)) * v2) + v3).toNatClampNeg))], [], xw_R X s_57_0 s_57_1 s_57_18 s_57_19 s_57_20 s_57_24 a_58 a_59 a_60 a_61 a_62 a_63 t_kindSorts t_kindMay a_66 a_67 a_68 a_69 t_parts t_sorts t_values a_73 a_74 a_75 l_76))) (fun K => rfl) ?_
          rcases xb_if h with ⟨hc1125, h⟩ | ⟨hc1125, h⟩
          · refine xe_pos hc1125 (xe_k ?_)
            refine xe_seg ok 2 (G := (fun K => K (75, xm_i75, xm_I75, 0, 0, 65, [(0, .ref 59), (1, .int v1), (2, .int v2), (3, .int v3), (4, .int ((((8 : Int32)) * v1) + v3)), (5, .int (t_kindSorts ((((8 : Int32)) * v2) + v3).toNatClampNeg))], [.int ((1 : Int32))], xw_R X s_57_0 s_57_1 s_57_18 s_57_19 s_57_20 s_57_24 a_58 a_59 a_60 a_61 a_62 a_63 t_kindSorts t_kindMay a_66 a_67 a_68 a_69 t_parts t_sorts t_values a_73 a_74 a_75 l_76))) (fun K => rfl) ?_
            refine xe_k ?_
            refine xe_sub [true, true, true, true, true, true] (lv' := [(0, .ref 59), (1, .int v1), (2, .int v2), (3, .int v3), (4, .int ((((8 : Int32)) * v1) + v3)), (5, .int (t_kindSorts ((((8 : Int32)) * v2) + v3).toNatClampNeg))]) rfl ?_
            have hz := xh_rf_firstWrong_57_65 (l := l) (g := g) ok a_58 a_59 a_60 a_61 a_62 a_63 a_66 a_67 a_68 a_69 a_73 a_74 a_75 l_76 s_57_0 s_57_1 s_57_18 s_57_19 s_57_20 s_57_24 X t_kindMay t_kindSorts t_parts t_sorts t_values hk2 n v1 v2 v3 ((((8 : Int32)) * v1) + v3) (t_kindSorts ((((8 : Int32)) * v2) + v3).toNatClampNeg) ((1 : Int32)) _ h
            exact hz
          · refine xe_neg hc1125 (xe_k ?_)
            refine xe_sub [true, true, true, true, true, true] (lv' := [(0, .ref 59), (1, .int v1), (2, .int v2), (3, .int v3), (4, .int ((((8 : Int32)) * v1) + v3)), (5, .int (t_kindSorts ((((8 : Int32)) * v2) + v3).toNatClampNeg))]) rfl ?_
            have hz := xh_rf_firstWrong_57_64 (l := l) (g := g) ok a_58 a_59 a_60 a_61 a_62 a_63 a_66 a_67 a_68 a_69 a_73 a_74 a_75 l_76 s_57_0 s_57_1 s_57_18 s_57_19 s_57_20 s_57_24 X t_kindMay t_kindSorts t_parts t_sorts t_values hk2 n v1 v2 v3 ((((8 : Int32)) * v1) + v3) (t_kindSorts ((((8 : Int32)) * v2) + v3).toNatClampNeg) _ h
            exact hz
        · refine xe_neg hc1123 (xe_k ?_)
          refine xe_sub [true, true, true, true, true, true] (lv' := [(0, .ref 59), (1, .int v1), (2, .int v2), (3, .int v3), (4, .int ((((8 : Int32)) * v1) + v3)), (5, .int (t_kindSorts ((((8 : Int32)) * v2) + v3).toNatClampNeg))]) rfl ?_
          have hz := xh_rf_firstWrong_57_64 (l := l) (g := g) ok a_58 a_59 a_60 a_61 a_62 a_63 a_66 a_67 a_68 a_69 a_73 a_74 a_75 l_76 s_57_0 s_57_1 s_57_18 s_57_19 s_57_20 s_57_24 X t_kindMay t_kindSorts t_parts t_sorts t_values hk2 n v1 v2 v3 ((((8 : Int32)) * v1) + v3) (t_kindSorts ((((8 : Int32)) * v2) + v3).toNatClampNeg) _ h
          exact hz
      · refine xe_neg hc1121 (xe_k ?_)
        refine xe_sub [true, true, true, true, true, true] (lv' := [(0, .ref 59), (1, .int v1), (2, .int v2), (3, .int v3), (4, .int ((((8 : Int32)) * v1) + v3)), (5, .int (t_kindSorts ((((8 : Int32)) * v2) + v3).toNatClampNeg))]) rfl ?_
        have hz := xh_rf_firstWrong_57_64 (l := l) (g := g) ok a_58 a_59 a_60 a_61 a_62 a_63 a_66 a_67 a_68 a_69 a_73 a_74 a_75 l_76 s_57_0 s_57_1 s_57_18 s_57_19 s_57_20 s_57_24 X t_kindMay t_kindSorts t_parts t_sorts t_values hk2 n v1 v2 v3 ((((8 : Int32)) * v1) + v3) (t_kindSorts ((((8 : Int32)) * v2) + v3).toNatClampNeg) _ h
        exact hz
    · refine xe_neg hc1119 (xe_k ?_)
      obtain rfl := Option.some.inj h
      refine xe_seg ok 2 (G := (fun _ => some (.inl (some (.int ((-1 : Int32)))), xw_R X s_57_0 s_57_1 s_57_18 s_57_19 s_57_20 s_57_24 a_58 a_59 a_60 a_61 a_62 a_63 t_kindSorts t_kindMay a_66 a_67 a_68 a_69 t_parts t_sorts t_values a_73 a_74 a_75 l_76))) (fun K => rfl) ?_
      exact xe_ret
set_option maxHeartbeats 400000 in
theorem xh_rf_firstWrong_57 {l : Launch} {g : xr_G} (ok : xr_OK xm_P) (a_58 a_59 a_60 a_61 a_62 a_63 a_66 a_67 a_68 a_69 a_73 a_74 a_75 : Nat → Int32) (l_76 : Nat → Int64) (s_57_0 s_57_1 s_57_18 s_57_19 s_57_20 s_57_24 : Int32) (X : Nat → xr_C) (t_kindMay : (Nat → Int32)) (t_kindSorts : (Nat → Int32)) (t_parts : (Nat → Int32)) (t_sorts : (Nat → Int32)) (t_values : (Nat → Int32)) (n : Nat) : ∀ (a1 : Int32) (a2 : Int32) (r : (Int32)), xf_rf_firstWrong t_kindMay t_kindSorts t_parts t_sorts t_values n a1 a2 = some r → xV xm_P l g (75, xm_i75, xm_I75, 0, 0, 0, [(0, .ref 59), (1, .int a1), (2, .int a2)], [], xw_R X s_57_0 s_57_1 s_57_18 s_57_19 s_57_20 s_57_24 a_58 a_59 a_60 a_61 a_62 a_63 t_kindSorts t_kindMay a_66 a_67 a_68 a_69 t_parts t_sorts t_values a_73 a_74 a_75 l_76) (.inl (some (.int r)), xw_R X s_57_0 s_57_1 s_57_18 s_57_19 s_57_20 s_57_24 a_58 a_59 a_60 a_61 a_62 a_63 t_kindSorts t_kindMay a_66 a_67 a_68 a_69 t_parts t_sorts t_values a_73 a_74 a_75 l_76) := by
  intro a1 a2 r h
  unfold xf_rf_firstWrong at h
  refine xe_seg ok 2 (G := (fun K => K (75, xm_i75, xm_I75, 0, 0, 2, [(0, .ref 59), (1, .int a1), (2, .int a2), (3, .int ((0 : Int32)))], [], xw_R X s_57_0 s_57_1 s_57_18 s_57_19 s_57_20 s_57_24 a_58 a_59 a_60 a_61 a_62 a_63 t_kindSorts t_kindMay a_66 a_67 a_68 a_69 t_parts t_sorts t_values a_73 a_74 a_75 l_76))) (fun K => rfl) ?_
  refine xe_k ?_
  refine xe_sub [true, true, true, true] (lv' := [(0, .ref 59), (1, .int a1), (2, .int a2), (3, .int ((0 : Int32)))]) rfl ?_
  have hz := xh_rf_firstWrong_57_2 (l := l) (g := g) ok a_58 a_59 a_60 a_61 a_62 a_63 a_66 a_67 a_68 a_69 a_73 a_74 a_75 l_76 s_57_0 s_57_1 s_57_18 s_57_19 s_57_20 s_57_24 X t_kindMay t_kindSorts t_parts t_sorts t_values n n a1 a2 ((0 : Int32)) _ h
  exact hz
set_option maxHeartbeats 400000 in
theorem xh_rf_wrong_57_166 {l : Launch} {g : xr_G} (ok : xr_OK xm_P) (a_58 a_59 a_73 a_74 a_75 : Nat → Int32) (l_76 : Nat → Int64) (s_57_1 s_57_18 s_57_19 s_57_20 s_57_24 : Int32) (X : Nat → xr_C) (t_kindLetters : (Nat → Int32)) (t_kindMay : (Nat → Int32)) (t_kindNames : (Nat → Int32)) (t_kindParts : (Nat → Int32)) (t_kindSorts : (Nat → Int32)) (t_kinds : (Nat → Int32)) (t_letters : (Nat → Int32)) (t_lines : (Nat → Int32)) (t_names : (Nat → Int32)) (t_numbers : (Nat → Int32)) (t_parts : (Nat → Int32)) (t_sorts : (Nat → Int32)) (t_values : (Nat → Int32)) {k38 : Int32 → Int32 → Int32 → Int32 → Option (Int32 × Int32)} (hk38 : ∀ (t_thrown : Int32) (v2 : Int32) (v3 : Int32) (v4 : Int32) (r : (Int32 × Int32)), k38 t_thrown v2 v3 v4 = some r → xV xm_P l g (76, xm_i76, xm_I76, 0, 0, 38, [(0, .ref 59), (2, .int v2), (3, .int v3), (4, .int v4)], [], xw_R X t_thrown s_57_1 s_57_18 s_57_19 s_57_20 s_57_24 a_58 a_59 t_kinds t_kindLetters t_kindNames t_kindParts t_kindSorts t_kindMay t_lines t_numbers t_letters t_names t_parts t_sorts t_values a_73 a_74 a_75 l_76) (.inl (some (.int r.1)), xw_R X r.2 s_57_1 s_57_18 s_57_19 s_57_20 s_57_24 a_58 a_59 t_kinds t_kindLetters t_kindNames t_kindParts t_kindSorts t_kindMay t_lines t_numbers t_letters t_names t_parts t_sorts t_values a_73 a_74 a_75 l_76)) (n : Nat) : ∀ (t_thrown : Int32) (v2 : Int32) (v3 : Int32) (v4 : Int32) (r : (Int32 × Int32)), xf_rf_wrong_166 t_kindLetters t_kindMay t_kindNames t_kindParts t_kindSorts t_kinds t_letters t_lines t_names t_numbers t_parts t_sorts t_values k38 n t_thrown v2 v3 v4 = some r → xV xm_P l g (76, xm_i76, xm_I76, 0, 0, 166, [(0, .ref 59), (2, .int v2), (3, .int v3), (4, .int v4)], [], xw_R X t_thrown s_57_1 s_57_18 s_57_19 s_57_20 s_57_24 a_58 a_59 t_kinds t_kindLetters t_kindNames t_kindParts t_kindSorts t_kindMay t_lines t_numbers t_letters t_names t_parts t_sorts t_values a_73 a_74 a_75 l_76) (.inl (some (.int r.1)), xw_R X r.2 s_57_1 s_57_18 s_57_19 s_57_20 s_57_24 a_58 a_59 t_kinds t_kindLetters t_kindNames t_kindParts t_kindSorts t_kindMay t_lines t_numbers t_letters t_names t_parts t_sorts t_values a_73 a_74 a_75 l_76) := by
  intro t_thrown v2 v3 v4 r h
  unfold xf_rf_wrong_166 at h
  refine xe_seg ok 2 (G := (fun K => K (76, xm_i76, xm_I76, 0, 0, 38, [(0, .ref 59), (2, .int v2), (3, .int v3), (4, .int (v4 + (1 : Int32)))], [], xw_R X t_thrown s_57_1 s_57_18 s_57_19 s_57_20 s_57_24 a_58 a_59 t_kinds t_kindLetters t_kindNames t_kindParts t_kindSorts t_kindMay t_lines t_numbers t_letters t_names t_parts t_sorts t_values a_73 a_74 a_75 l_76))) (fun K => rfl) ?_
  refine xe_k ?_
  refine xe_sub [true, true, true, true] (lv' := [(0, .ref 59), (2, .int v2), (3, .int v3), (4, .int (v4 + (1 : Int32)))]) rfl ?_
  have hz := hk38 t_thrown v2 v3 (v4 + (1 : Int32)) _ h
  exact hz
set_option maxHeartbeats 400000 in
theorem xh_rf_wrong_57_162 {l : Launch} {g : xr_G} (ok : xr_OK xm_P) (a_58 a_59 a_73 a_74 a_75 : Nat → Int32) (l_76 : Nat → Int64) (s_57_1 s_57_18 s_57_19 s_57_20 s_57_24 : Int32) (X : Nat → xr_C) (t_kindLetters : (Nat → Int32)) (t_kindMay : (Nat → Int32)) (t_kindNames : (Nat → Int32)) (t_kindParts : (Nat → Int32)) (t_kindSorts : (Nat → Int32)) (t_kinds : (Nat → Int32)) (t_letters : (Nat → Int32)) (t_lines : (Nat → Int32)) (t_names : (Nat → Int32)) (t_numbers : (Nat → Int32)) (t_parts : (Nat → Int32)) (t_sorts : (Nat → Int32)) (t_values : (Nat → Int32)) (n : Nat) : ∀ (t_thrown : Int32) (s0 : Int32) (r : (Int32 × Int32)), xf_rf_wrong_162 t_kindLetters t_kindMay t_kindNames t_kindParts t_kindSorts t_kinds t_letters t_lines t_names t_numbers t_parts t_sorts t_values n t_thrown s0 = some r → xV xm_P l g (76, xm_i76, xm_I76, 0, 0, 162, [], [.int s0], xw_R X t_thrown s_57_1 s_57_18 s_57_19 s_57_20 s_57_24 a_58 a_59 t_kinds t_kindLetters t_kindNames t_kindParts t_kindSorts t_kindMay t_lines t_numbers t_letters t_names t_parts t_sorts t_values a_73 a_74 a_75 l_76) (.inl (some (.int r.1)), xw_R X r.2 s_57_1 s_57_18 s_57_19 s_57_20 s_57_24 a_58 a_59 t_kinds t_kindLetters t_kindNames t_kindParts t_kindSorts t_kindMay t_lines t_numbers t_letters t_names t_parts t_sorts t_values a_73 a_74 a_75 l_76) := by
  intro t_thrown s0 r h
  unfold xf_rf_wrong_162 at h
  obtain rfl := Option.some.inj h
  refine xe_seg ok 1 (G := (fun _ => some (.inl (some (.int s0)), xw_R X t_thrown s_57_1 s_57_18 s_57_19 s_57_20 s_57_24 a_58 a_59 t_kinds t_kindLetters t_kindNames t_kindParts t_kindSorts t_kindMay t_lines t_numbers t_letters t_names t_parts t_sorts t_values a_73 a_74 a_75 l_76))) (fun K => rfl) ?_
  exact xe_ret
set_option maxHeartbeats 400000 in
theorem xh_rf_wrong_57_122 {l : Launch} {g : xr_G} (ok : xr_OK xm_P) (a_58 a_59 a_73 a_74 a_75 : Nat → Int32) (l_76 : Nat → Int64) (s_57_1 s_57_18 s_57_19 s_57_20 s_57_24 : Int32) (X : Nat → xr_C) (t_kindLetters : (Nat → Int32)) (t_kindMay : (Nat → Int32)) (t_kindNames : (Nat → Int32)) (t_kindParts : (Nat → Int32)) (t_kindSorts : (Nat → Int32)) (t_kinds : (Nat → Int32)) (t_letters : (Nat → Int32)) (t_lines : (Nat → Int32)) (t_names : (Nat → Int32)) (t_numbers : (Nat → Int32)) (t_parts : (Nat → Int32)) (t_sorts : (Nat → Int32)) (t_values : (Nat → Int32)) {k38 : Int32 → Int32 → Int32 → Int32 → Option (Int32 × Int32)} (hk38 : ∀ (t_thrown : Int32) (v2 : Int32) (v3 : Int32) (v4 : Int32) (r : (Int32 × Int32)), k38 t_thrown v2 v3 v4 = some r → xV xm_P l g (76, xm_i76, xm_I76, 0, 0, 38, [(0, .ref 59), (2, .int v2), (3, .int v3), (4, .int v4)], [], xw_R X t_thrown s_57_1 s_57_18 s_57_19 s_57_20 s_57_24 a_58 a_59 t_kinds t_kindLetters t_kindNames t_kindParts t_kindSorts t_kindMay t_lines t_numbers t_letters t_names t_parts t_sorts t_values a_73 a_74 a_75 l_76) (.inl (some (.int r.1)), xw_R X r.2 s_57_1 s_57_18 s_57_19 s_57_20 s_57_24 a_58 a_59 t_kinds t_kindLetters t_kindNames t_kindParts t_kindSorts t_kindMay t_lines t_numbers t_letters t_names t_parts t_sorts t_values a_73 a_74 a_75 l_76)) (n : Nat) : ∀ (t_thrown : Int32) (v2 : Int32) (v3 : Int32) (v4 : Int32) (v7 : Int32) (s0 : Int32) (r : (Int32 × Int32)), xf_rf_wrong_122 t_kindLetters t_kindMay t_kindNames t_kindParts t_kindSorts t_kinds t_letters t_lines t_names t_numbers t_parts t_sorts t_values k38 n t_thrown v2 v3 v4 v7 s0 = some r → xV xm_P l g (76, xm_i76, xm_I76, 0, 0, 122, [(0, .ref 59), (2, .int v2), (3, .int v3), (4, .int v4), (7, .int v7)], [.int s0], xw_R X t_thrown s_57_1 s_57_18 s_57_19 s_57_20 s_57_24 a_58 a_59 t_kinds t_kindLetters t_kindNames t_kindParts t_kindSorts t_kindMay t_lines t_numbers t_letters t_names t_parts t_sorts t_values a_73 a_74 a_75 l_76) (.inl (some (.int r.1)), xw_R X r.2 s_57_1 s_57_18 s_57_19 s_57_20 s_57_24 a_58 a_59 t_kinds t_kindLetters t_kindNames t_kindParts t_kindSorts t_kindMay t_lines t_numbers t_letters t_names t_parts t_sorts t_values a_73 a_74 a_75 l_76) := by
  intro t_thrown v2 v3 v4 v7 s0 r h
  unfold xf_rf_wrong_122 at h
  refine xe_seg ok 3 (G := (fun K => if s0 = (0 : Int32) then K (76, xm_i76, xm_I76, 0, 0, 129, [(0, .ref 59), (2, .int v2), (3, .int v3), (4, .int v4), (6, .int s0), (7, .int v7)], [], xw_R X t_thrown s_57_1 s_57_18 s_57_19 s_57_20 s_57_24 a_58 a_59 t_kinds t_kindLetters t_kindNames t_kindParts t_kindSorts t_kindMay t_lines t_numbers t_letters t_names t_parts t_sorts t_values a_73 a_74 a_75 l_76) else K (76, xm_i76, xm_I76, 0, 0, 132, [(0, .ref 59), (2, .int v2), (3, .int v3), (4, .int v4), (6, .int s0), (7, .int v7)], [], xw_R X t_thrown s_57_1 s_57_18 s_57_19 s_57_20 s_57_24 a_58 a_59 t_kinds t_kindLetters t_kindNames t_kindParts t_kindSorts t_kindMay t_lines t_numbers t_letters t_names t_parts t_sorts t_values a_73 a_74 a_75 l_76))) (fun K => rfl) ?_
  rcases xb_if h with ⟨hc1136, h⟩ | ⟨hc1136, h⟩
  · refine xe_pos hc1136 (xe_k ?_)
    refine xe_seg ok 1 (G := (fun K => K (76, xm_i76, xm_I76, 0, 0, 166, [(0, .ref 59), (2, .int v2), (3, .int v3), (4, .int v4), (6, .int s0), (7, .int v7)], [], xw_R X t_thrown s_57_1 s_57_18 s_57_19 s_57_20 s_57_24 a_58 a_59 t_kinds t_kindLetters t_kindNames t_kindParts t_kindSorts t_kindMay t_lines t_numbers t_letters t_names t_parts t_sorts t_values a_73 a_74 a_75 l_76))) (fun K => rfl) ?_
    refine xe_k ?_
    refine xe_sub [true, true, true, true, false, false] (lv' := [(0, .ref 59), (2, .int v2), (3, .int v3), (4, .int v4)]) rfl ?_
    have hz := xh_rf_wrong_57_166 (l := l) (g := g) ok a_58 a_59 a_73 a_74 a_75 l_76 s_57_1 s_57_18 s_57_19 s_57_20 s_57_24 X t_kindLetters t_kindMay t_kindNames t_kindParts t_kindSorts t_kinds t_letters t_lines t_names t_numbers t_parts t_sorts t_values hk38 n t_thrown v2 v3 v4 _ h
    exact hz
  · refine xe_neg hc1136 (xe_k ?_)
    refine xe_seg ok 2 (G := (fun K => if v3 = (0 : Int32) then K (76, xm_i76, xm_I76, 0, 0, 136, [(0, .ref 59), (2, .int v2), (3, .int v3), (4, .int v4), (6, .int s0), (7, .int v7)], [], xw_R X t_thrown s_57_1 s_57_18 s_57_19 s_57_20 s_57_24 a_58 a_59 t_kinds t_kindLetters t_kindNames t_kindParts t_kindSorts t_kindMay t_lines t_numbers t_letters t_names t_parts t_sorts t_values a_73 a_74 a_75 l_76) else K (76, xm_i76, xm_I76, 0, 0, 163, [(0, .ref 59), (2, .int v2), (3, .int v3), (4, .int v4), (6, .int s0), (7, .int v7)], [], xw_R X t_thrown s_57_1 s_57_18 s_57_19 s_57_20 s_57_24 a_58 a_59 t_kinds t_kindLetters t_kindNames t_kindParts t_kindSorts t_kindMay t_lines t_numbers t_letters t_names t_parts t_sorts t_values a_73 a_74 a_75 l_76))) (fun K => rfl) ?_
    rcases xb_if h with ⟨hc1137, h⟩ | ⟨hc1137, h⟩
    · refine xe_pos hc1137 (xe_k ?_)
      refine xe_seg ok 2 (G := (fun K => if v2 = (0 : Int32) then K (76, xm_i76, xm_I76, 0, 0, 140, [(0, .ref 59), (2, .int v2), (3, .int v3), (4, .int v4), (6, .int s0), (7, .int v7)], [], xw_R X t_thrown s_57_1 s_57_18 s_57_19 s_57_20 s_57_24 a_58 a_59 t_kinds t_kindLetters t_kindNames t_kindParts t_kindSorts t_kindMay t_lines t_numbers t_letters t_names t_parts t_sorts t_values a_73 a_74 a_75 l_76) else K (76, xm_i76, xm_I76, 0, 0, 150, [(0, .ref 59), (2, .int v2), (3, .int v3), (4, .int v4), (6, .int s0), (7, .int v7)], [], xw_R X t_thrown s_57_1 s_57_18 s_57_19 s_57_20 s_57_24 a_58 a_59 t_kinds t_kindLetters t_kindNames t_kindParts t_kindSorts t_kindMay t_lines t_numbers t_letters t_names t_parts t_sorts t_values a_73 a_74 a_75 l_76))) (fun K => rfl) ?_
      rcases xb_if h with ⟨hc1138, h⟩ | ⟨hc1138, h⟩
      · refine xe_pos hc1138 (xe_k ?_)
        refine xe_seg ok 4 (G := (fun K => if xr_in v4 120 = true then K (76, xm_i76, xm_I76, 0, 0, 147, [(0, .ref 59), (2, .int v2), (3, .int v3), (4, .int v4), (6, .int s0), (7, .int v7)], [.int (t_numbers v4.toNatClampNeg)], xw_R X t_thrown s_57_1 s_57_18 s_57_19 s_57_20 s_57_24 a_58 a_59 t_kinds t_kindLetters t_kindNames t_kindParts t_kindSorts t_kindMay t_lines t_numbers t_letters t_names t_parts t_sorts t_values a_73 a_74 a_75 l_76) else none)) (fun K => rfl) ?_
        obtain ⟨hg1139, h⟩ := xn_if h
        refine xe_pos hg1139 (xe_k ?_)
        refine xe_seg ok 1 (G := (fun K => K (76, xm_i76, xm_I76, 0, 0, 162, [(0, .ref 59), (2, .int v2), (3, .int v3), (4, .int v4), (6, .int s0), (7, .int v7)], [.int (t_numbers v4.toNatClampNeg)], xw_R X t_thrown s_57_1 s_57_18 s_57_19 s_57_20 s_57_24 a_58 a_59 t_kinds t_kindLetters t_kindNames t_kindParts t_kindSorts t_kindMay t_lines t_numbers t_letters t_names t_parts t_sorts t_values a_73 a_74 a_75 l_76))) (fun K => rfl) ?_
        refine xe_k ?_
        refine xe_sub [false, false, false, false, false, false] (lv' := []) rfl ?_
        have hz := xh_rf_wrong_57_162 (l := l) (g := g) ok a_58 a_59 a_73 a_74 a_75 l_76 s_57_1 s_57_18 s_57_19 s_57_20 s_57_24 X t_kindLetters t_kindMay t_kindNames t_kindParts t_kindSorts t_kinds t_letters t_lines t_names t_numbers t_parts t_sorts t_values n t_thrown (t_numbers v4.toNatClampNeg) _ h
        exact hz
      · refine xe_neg hc1138 (xe_k ?_)
        refine xe_seg ok 3 (G := (fun K => if v2 = ((1 : Int32)) then K (76, xm_i76, xm_I76, 0, 0, 155, [(0, .ref 59), (2, .int v2), (3, .int v3), (4, .int v4), (6, .int s0), (7, .int v7)], [], xw_R X t_thrown s_57_1 s_57_18 s_57_19 s_57_20 s_57_24 a_58 a_59 t_kinds t_kindLetters t_kindNames t_kindParts t_kindSorts t_kindMay t_lines t_numbers t_letters t_names t_parts t_sorts t_values a_73 a_74 a_75 l_76) else K (76, xm_i76, xm_I76, 0, 0, 160, [(0, .ref 59), (2, .int v2), (3, .int v3), (4, .int v4), (6, .int s0), (7, .int v7)], [], xw_R X t_thrown s_57_1 s_57_18 s_57_19 s_57_20 s_57_24 a_58 a_59 t_kinds t_kindLetters t_kindNames t_kindParts t_kindSorts t_kindMay t_lines t_numbers t_letters t_names t_parts t_sorts t_values a_73 a_74 a_75 l_76))) (fun K => rfl) ?_
        rcases xb_if h with ⟨hc1140, h⟩ | ⟨hc1140, h⟩
        · refine xe_pos hc1140 (xe_k ?_)
          refine xe_seg ok 2 (G := (fun K => K (76, xm_i76, xm_I76, 0, 0, 162, [(0, .ref 59), (2, .int v2), (3, .int v3), (4, .int v4), (6, .int s0), (7, .int v7)], [.int s0], xw_R X t_thrown s_57_1 s_57_18 s_57_19 s_57_20 s_57_24 a_58 a_59 t_kinds t_kindLetters t_kindNames t_kindParts t_kindSorts t_kindMay t_lines t_numbers t_letters t_names t_parts t_sorts t_values a_73 a_74 a_75 l_76))) (fun K => rfl) ?_
          refine xe_k ?_
          refine xe_sub [false, false, false, false, false, false] (lv' := []) rfl ?_
          have hz := xh_rf_wrong_57_162 (l := l) (g := g) ok a_58 a_59 a_73 a_74 a_75 l_76 s_57_1 s_57_18 s_57_19 s_57_20 s_57_24 X t_kindLetters t_kindMay t_kindNames t_kindParts t_kindSorts t_kinds t_letters t_lines t_names t_numbers t_parts t_sorts t_values n t_thrown s0 _ h
          exact hz
        · refine xe_neg hc1140 (xe_k ?_)
          refine xe_seg ok 1 (G := (fun K => K (76, xm_i76, xm_I76, 0, 0, 162, [(0, .ref 59), (2, .int v2), (3, .int v3), (4, .int v4), (6, .int s0), (7, .int v7)], [.int v7], xw_R X t_thrown s_57_1 s_57_18 s_57_19 s_57_20 s_57_24 a_58 a_59 t_kinds t_kindLetters t_kindNames t_kindParts t_kindSorts t_kindMay t_lines t_numbers t_letters t_names t_parts t_sorts t_values a_73 a_74 a_75 l_76))) (fun K => rfl) ?_
          refine xe_k ?_
          refine xe_sub [false, false, false, false, false, false] (lv' := []) rfl ?_
          have hz := xh_rf_wrong_57_162 (l := l) (g := g) ok a_58 a_59 a_73 a_74 a_75 l_76 s_57_1 s_57_18 s_57_19 s_57_20 s_57_24 X t_kindLetters t_kindMay t_kindNames t_kindParts t_kindSorts t_kinds t_letters t_lines t_names t_numbers t_parts t_sorts t_values n t_thrown v7 _ h
          exact hz
    · refine xe_neg hc1137 (xe_k ?_)
      refine xe_seg ok 1 (G := (fun K => K (76, xm_i76, xm_I76, 0, 0, 166, [(0, .ref 59), (2, .int v2), (3, .int (v3 + (-1 : Int32))), (4, .int v4), (6, .int s0), (7, .int v7)], [], xw_R X t_thrown s_57_1 s_57_18 s_57_19 s_57_20 s_57_24 a_58 a_59 t_kinds t_kindLetters t_kindNames t_kindParts t_kindSorts t_kindMay t_lines t_numbers t_letters t_names t_parts t_sorts t_values a_73 a_74 a_75 l_76))) (fun K => rfl) ?_
      refine xe_k ?_
      refine xe_sub [true, true, true, true, false, false] (lv' := [(0, .ref 59), (2, .int v2), (3, .int (v3 + (-1 : Int32))), (4, .int v4)]) rfl ?_
      have hz := xh_rf_wrong_57_166 (l := l) (g := g) ok a_58 a_59 a_73 a_74 a_75 l_76 s_57_1 s_57_18 s_57_19 s_57_20 s_57_24 X t_kindLetters t_kindMay t_kindNames t_kindParts t_kindSorts t_kinds t_letters t_lines t_names t_numbers t_parts t_sorts t_values hk38 n t_thrown v2 (v3 + (-1 : Int32)) v4 _ h
      exact hz
set_option maxHeartbeats 400000 in
theorem xh_rf_wrong_57_108 {l : Launch} {g : xr_G} (ok : xr_OK xm_P) (a_58 a_59 a_73 a_74 a_75 : Nat → Int32) (l_76 : Nat → Int64) (s_57_1 s_57_18 s_57_19 s_57_20 s_57_24 : Int32) (X : Nat → xr_C) (t_kindLetters : (Nat → Int32)) (t_kindMay : (Nat → Int32)) (t_kindNames : (Nat → Int32)) (t_kindParts : (Nat → Int32)) (t_kindSorts : (Nat → Int32)) (t_kinds : (Nat → Int32)) (t_letters : (Nat → Int32)) (t_lines : (Nat → Int32)) (t_names : (Nat → Int32)) (t_numbers : (Nat → Int32)) (t_parts : (Nat → Int32)) (t_sorts : (Nat → Int32)) (t_values : (Nat → Int32)) {k38 : Int32 → Int32 → Int32 → Int32 → Option (Int32 × Int32)} (hk38 : ∀ (t_thrown : Int32) (v2 : Int32) (v3 : Int32) (v4 : Int32) (r : (Int32 × Int32)), k38 t_thrown v2 v3 v4 = some r → xV xm_P l g (76, xm_i76, xm_I76, 0, 0, 38, [(0, .ref 59), (2, .int v2), (3, .int v3), (4, .int v4)], [], xw_R X t_thrown s_57_1 s_57_18 s_57_19 s_57_20 s_57_24 a_58 a_59 t_kinds t_kindLetters t_kindNames t_kindParts t_kindSorts t_kindMay t_lines t_numbers t_letters t_names t_parts t_sorts t_values a_73 a_74 a_75 l_76) (.inl (some (.int r.1)), xw_R X r.2 s_57_1 s_57_18 s_57_19 s_57_20 s_57_24 a_58 a_59 t_kinds t_kindLetters t_kindNames t_kindParts t_kindSorts t_kindMay t_lines t_numbers t_letters t_names t_parts t_sorts t_values a_73 a_74 a_75 l_76)) (n : Nat) : ∀ (t_thrown : Int32) (v2 : Int32) (v3 : Int32) (v4 : Int32) (v6 : Int32) (s0 : Int32) (r : (Int32 × Int32)), xf_rf_wrong_108 t_kindLetters t_kindMay t_kindNames t_kindParts t_kindSorts t_kinds t_letters t_lines t_names t_numbers t_parts t_sorts t_values k38 n t_thrown v2 v3 v4 v6 s0 = some r → xV xm_P l g (76, xm_i76, xm_I76, 0, 0, 108, [(0, .ref 59), (2, .int v2), (3, .int v3), (4, .int v4), (6, .int v6)], [.int s0], xw_R X t_thrown s_57_1 s_57_18 s_57_19 s_57_20 s_57_24 a_58 a_59 t_kinds t_kindLetters t_kindNames t_kindParts t_kindSorts t_kindMay t_lines t_numbers t_letters t_names t_parts t_sorts t_values a_73 a_74 a_75 l_76) (.inl (some (.int r.1)), xw_R X r.2 s_57_1 s_57_18 s_57_19 s_57_20 s_57_24 a_58 a_59 t_kinds t_kindLetters t_kindNames t_kindParts t_kindSorts t_kindMay t_lines t_numbers t_letters t_names t_parts t_sorts t_values a_73 a_74 a_75 l_76) := by
  intro t_thrown v2 v3 v4 v6 s0 r h
  unfold xf_rf_wrong_108 at h
  refine xe_seg ok 4 (G := (fun K => if s0 = ((-1 : Int32)) then K (76, xm_i76, xm_I76, 0, 0, 120, [(0, .ref 59), (2, .int v2), (3, .int v3), (4, .int v4), (6, .int v6), (7, .int s0)], [], xw_R X t_thrown s_57_1 s_57_18 s_57_19 s_57_20 s_57_24 a_58 a_59 t_kinds t_kindLetters t_kindNames t_kindParts t_kindSorts t_kindMay t_lines t_numbers t_letters t_names t_parts t_sorts t_values a_73 a_74 a_75 l_76) else K (76, xm_i76, xm_I76, 0, 0, 116, [(0, .ref 59), (2, .int v2), (3, .int v3), (4, .int v4), (6, .int v6), (7, .int s0)], [], xw_R X t_thrown s_57_1 s_57_18 s_57_19 s_57_20 s_57_24 a_58 a_59 t_kinds t_kindLetters t_kindNames t_kindParts t_kindSorts t_kindMay t_lines t_numbers t_letters t_names t_parts t_sorts t_values a_73 a_74 a_75 l_76))) (fun K => rfl) ?_
  rcases xb_if h with ⟨hc1135, h⟩ | ⟨hc1135, h⟩
  · refine xe_pos hc1135 (xe_k ?_)
    refine xe_seg ok 1 (G := (fun K => K (76, xm_i76, xm_I76, 0, 0, 122, [(0, .ref 59), (2, .int v2), (3, .int v3), (4, .int v4), (6, .int v6), (7, .int s0)], [.int v6], xw_R X t_thrown s_57_1 s_57_18 s_57_19 s_57_20 s_57_24 a_58 a_59 t_kinds t_kindLetters t_kindNames t_kindParts t_kindSorts t_kindMay t_lines t_numbers t_letters t_names t_parts t_sorts t_values a_73 a_74 a_75 l_76))) (fun K => rfl) ?_
    refine xe_k ?_
    refine xe_sub [true, true, true, true, false, true] (lv' := [(0, .ref 59), (2, .int v2), (3, .int v3), (4, .int v4), (7, .int s0)]) rfl ?_
    have hz := xh_rf_wrong_57_122 (l := l) (g := g) ok a_58 a_59 a_73 a_74 a_75 l_76 s_57_1 s_57_18 s_57_19 s_57_20 s_57_24 X t_kindLetters t_kindMay t_kindNames t_kindParts t_kindSorts t_kinds t_letters t_lines t_names t_numbers t_parts t_sorts t_values hk38 n t_thrown v2 v3 v4 s0 v6 _ h
    exact hz
  · refine xe_neg hc1135 (xe_k ?_)
    refine xe_seg ok 2 (G := (fun K => K (76, xm_i76, xm_I76, 0, 0, 122, [(0, .ref 59), (2, .int v2), (3, .int v3), (4, .int v4), (6, .int v6), (7, .int s0)], [.int ((3 : Int32))], xw_R X t_thrown s_57_1 s_57_18 s_57_19 s_57_20 s_57_24 a_58 a_59 t_kinds t_kindLetters t_kindNames t_kindParts t_kindSorts t_kindMay t_lines t_numbers t_letters t_names t_parts t_sorts t_values a_73 a_74 a_75 l_76))) (fun K => rfl) ?_
    refine xe_k ?_
    refine xe_sub [true, true, true, true, false, true] (lv' := [(0, .ref 59), (2, .int v2), (3, .int v3), (4, .int v4), (7, .int s0)]) rfl ?_
    have hz := xh_rf_wrong_57_122 (l := l) (g := g) ok a_58 a_59 a_73 a_74 a_75 l_76 s_57_1 s_57_18 s_57_19 s_57_20 s_57_24 X t_kindLetters t_kindMay t_kindNames t_kindParts t_kindSorts t_kinds t_letters t_lines t_names t_numbers t_parts t_sorts t_values hk38 n t_thrown v2 v3 v4 s0 ((3 : Int32)) _ h
    exact hz
set_option maxHeartbeats 400000 in
theorem xh_rf_wrong_57_89 {l : Launch} {g : xr_G} (ok : xr_OK xm_P) (a_58 a_59 a_73 a_74 a_75 : Nat → Int32) (l_76 : Nat → Int64) (s_57_1 s_57_18 s_57_19 s_57_20 s_57_24 : Int32) (X : Nat → xr_C) (t_kindLetters : (Nat → Int32)) (t_kindMay : (Nat → Int32)) (t_kindNames : (Nat → Int32)) (t_kindParts : (Nat → Int32)) (t_kindSorts : (Nat → Int32)) (t_kinds : (Nat → Int32)) (t_letters : (Nat → Int32)) (t_lines : (Nat → Int32)) (t_names : (Nat → Int32)) (t_numbers : (Nat → Int32)) (t_parts : (Nat → Int32)) (t_sorts : (Nat → Int32)) (t_values : (Nat → Int32)) {k38 : Int32 → Int32 → Int32 → Int32 → Option (Int32 × Int32)} (hk38 : ∀ (t_thrown : Int32) (v2 : Int32) (v3 : Int32) (v4 : Int32) (r : (Int32 × Int32)), k38 t_thrown v2 v3 v4 = some r → xV xm_P l g (76, xm_i76, xm_I76, 0, 0, 38, [(0, .ref 59), (2, .int v2), (3, .int v3), (4, .int v4)], [], xw_R X t_thrown s_57_1 s_57_18 s_57_19 s_57_20 s_57_24 a_58 a_59 t_kinds t_kindLetters t_kindNames t_kindParts t_kindSorts t_kindMay t_lines t_numbers t_letters t_names t_parts t_sorts t_values a_73 a_74 a_75 l_76) (.inl (some (.int r.1)), xw_R X r.2 s_57_1 s_57_18 s_57_19 s_57_20 s_57_24 a_58 a_59 t_kinds t_kindLetters t_kindNames t_kindParts t_kindSorts t_kindMay t_lines t_numbers t_letters t_names t_parts t_sorts t_values a_73 a_74 a_75 l_76)) (n : Nat) : ∀ (t_thrown : Int32) (v2 : Int32) (v3 : Int32) (v4 : Int32) (v5 : Int32) (s0 : Int32) (r : (Int32 × Int32)), xf_rf_wrong_89 t_kindLetters t_kindMay t_kindNames t_kindParts t_kindSorts t_kinds t_letters t_lines t_names t_numbers t_parts t_sorts t_values k38 n t_thrown v2 v3 v4 v5 s0 = some r → xV xm_P l g (76, xm_i76, xm_I76, 0, 0, 89, [(0, .ref 59), (2, .int v2), (3, .int v3), (4, .int v4), (5, .int v5)], [.int s0], xw_R X t_thrown s_57_1 s_57_18 s_57_19 s_57_20 s_57_24 a_58 a_59 t_kinds t_kindLetters t_kindNames t_kindParts t_kindSorts t_kindMay t_lines t_numbers t_letters t_names t_parts t_sorts t_values a_73 a_74 a_75 l_76) (.inl (some (.int r.1)), xw_R X r.2 s_57_1 s_57_18 s_57_19 s_57_20 s_57_24 a_58 a_59 t_kinds t_kindLetters t_kindNames t_kindParts t_kindSorts t_kindMay t_lines t_numbers t_letters t_names t_parts t_sorts t_values a_73 a_74 a_75 l_76) := by
  intro t_thrown v2 v3 v4 v5 s0 r h
  unfold xf_rf_wrong_89 at h
  refine xe_seg ok 3 (G := (fun K => if s0 = (0 : Int32) then K (76, xm_i76, xm_I76, 0, 0, 96, [(0, .ref 59), (2, .int v2), (3, .int v3), (4, .int v4), (5, .int v5), (6, .int s0)], [], xw_R X t_thrown s_57_1 s_57_18 s_57_19 s_57_20 s_57_24 a_58 a_59 t_kinds t_kindLetters t_kindNames t_kindParts t_kindSorts t_kindMay t_lines t_numbers t_letters t_names t_parts t_sorts t_values a_73 a_74 a_75 l_76) else K (76, xm_i76, xm_I76, 0, 0, 107, [(0, .ref 59), (2, .int v2), (3, .int v3), (4, .int v4), (5, .int v5), (6, .int s0)], [], xw_R X t_thrown s_57_1 s_57_18 s_57_19 s_57_20 s_57_24 a_58 a_59 t_kinds t_kindLetters t_kindNames t_kindParts t_kindSorts t_kindMay t_lines t_numbers t_letters t_names t_parts t_sorts t_values a_73 a_74 a_75 l_76))) (fun K => rfl) ?_
  rcases xb_if h with ⟨hc1117, h⟩ | ⟨hc1117, h⟩
  · refine xe_pos hc1117 (xe_k ?_)
    refine xe_seg ok 4 (G := (fun K => xr_back K 76 xm_i76 xm_I76 0 0 101 [(0, .ref 59), (2, .int v2), (3, .int v3), (4, .int v4), (5, .int v5), (6, .int s0)] [] 78 true (K (75, xm_i75, xm_I75, 0, 0, 0, [(0, .ref 59), (1, .int v4), (2, .int v5)], [], xw_R X t_thrown s_57_1 s_57_18 s_57_19 s_57_20 s_57_24 a_58 a_59 t_kinds t_kindLetters t_kindNames t_kindParts t_kindSorts t_kindMay t_lines t_numbers t_letters t_names t_parts t_sorts t_values a_73 a_74 a_75 l_76)))) (fun K => rfl) ?_
    obtain ⟨q1134, hq1134, h⟩ := Option.bind_eq_some_iff.mp h
    have heq1134 := xh_rf_firstWrong_57 (l := l) (g := g) ok a_58 a_59 t_kinds t_kindLetters t_kindNames t_kindParts t_lines t_numbers t_letters t_names a_73 a_74 a_75 l_76 t_thrown s_57_1 s_57_18 s_57_19 s_57_20 s_57_24 X t_kindMay t_kindSorts t_parts t_sorts t_values n v4 v5 _ hq1134
    refine xe_call1 (ws' := xw_R X t_thrown s_57_1 s_57_18 s_57_19 s_57_20 s_57_24 a_58 a_59 t_kinds t_kindLetters t_kindNames t_kindParts t_kindSorts t_kindMay t_lines t_numbers t_letters t_names t_parts t_sorts t_values a_73 a_74 a_75 l_76) (by decide) heq1134 (Or.inl rfl) ?_
    refine xe_seg ok 1 (G := (fun K => K (76, xm_i76, xm_I76, 0, 0, 108, [(0, .ref 59), (2, .int v2), (3, .int v3), (4, .int v4), (5, .int v5), (6, .int s0)], [.int q1134], xw_R X t_thrown s_57_1 s_57_18 s_57_19 s_57_20 s_57_24 a_58 a_59 t_kinds t_kindLetters t_kindNames t_kindParts t_kindSorts t_kindMay t_lines t_numbers t_letters t_names t_parts t_sorts t_values a_73 a_74 a_75 l_76))) (fun K => rfl) ?_
    refine xe_k ?_
    refine xe_sub [true, true, true, true, false, true] (lv' := [(0, .ref 59), (2, .int v2), (3, .int v3), (4, .int v4), (6, .int s0)]) rfl ?_
    have hz := xh_rf_wrong_57_108 (l := l) (g := g) ok a_58 a_59 a_73 a_74 a_75 l_76 s_57_1 s_57_18 s_57_19 s_57_20 s_57_24 X t_kindLetters t_kindMay t_kindNames t_kindParts t_kindSorts t_kinds t_letters t_lines t_names t_numbers t_parts t_sorts t_values hk38 n t_thrown v2 v3 v4 s0 q1134 _ h
    exact hz
  · refine xe_neg hc1117 (xe_k ?_)
    refine xe_seg ok 1 (G := (fun K => K (76, xm_i76, xm_I76, 0, 0, 108, [(0, .ref 59), (2, .int v2), (3, .int v3), (4, .int v4), (5, .int v5), (6, .int s0)], [.int ((-1 : Int32))], xw_R X t_thrown s_57_1 s_57_18 s_57_19 s_57_20 s_57_24 a_58 a_59 t_kinds t_kindLetters t_kindNames t_kindParts t_kindSorts t_kindMay t_lines t_numbers t_letters t_names t_parts t_sorts t_values a_73 a_74 a_75 l_76))) (fun K => rfl) ?_
    refine xe_k ?_
    refine xe_sub [true, true, true, true, false, true] (lv' := [(0, .ref 59), (2, .int v2), (3, .int v3), (4, .int v4), (6, .int s0)]) rfl ?_
    have hz := xh_rf_wrong_57_108 (l := l) (g := g) ok a_58 a_59 a_73 a_74 a_75 l_76 s_57_1 s_57_18 s_57_19 s_57_20 s_57_24 X t_kindLetters t_kindMay t_kindNames t_kindParts t_kindSorts t_kinds t_letters t_lines t_names t_numbers t_parts t_sorts t_values hk38 n t_thrown v2 v3 v4 s0 ((-1 : Int32)) _ h
    exact hz
set_option maxHeartbeats 400000 in
theorem xh_rf_wrong_57_38 {l : Launch} {g : xr_G} (ok : xr_OK xm_P) (a_58 a_59 a_73 a_74 a_75 : Nat → Int32) (l_76 : Nat → Int64) (s_57_1 s_57_18 s_57_19 s_57_20 s_57_24 : Int32) (X : Nat → xr_C) (t_kindLetters : (Nat → Int32)) (t_kindMay : (Nat → Int32)) (t_kindNames : (Nat → Int32)) (t_kindParts : (Nat → Int32)) (t_kindSorts : (Nat → Int32)) (t_kinds : (Nat → Int32)) (t_letters : (Nat → Int32)) (t_lines : (Nat → Int32)) (t_names : (Nat → Int32)) (t_numbers : (Nat → Int32)) (t_parts : (Nat → Int32)) (t_sorts : (Nat → Int32)) (t_values : (Nat → Int32)) (n : Nat) : ∀ (N : Nat) (t_thrown : Int32) (v2 : Int32) (v3 : Int32) (v4 : Int32) (r : (Int32 × Int32)), xf_rf_wrong_38 t_kindLetters t_kindMay t_kindNames t_kindParts t_kindSorts t_kinds t_letters t_lines t_names t_numbers t_parts t_sorts t_values n N t_thrown v2 v3 v4 = some r → xV xm_P l g (76, xm_i76, xm_I76, 0, 0, 38, [(0, .ref 59), (2, .int v2), (3, .int v3), (4, .int v4)], [], xw_R X t_thrown s_57_1 s_57_18 s_57_19 s_57_20 s_57_24 a_58 a_59 t_kinds t_kindLetters t_kindNames t_kindParts t_kindSorts t_kindMay t_lines t_numbers t_letters t_names t_parts t_sorts t_values a_73 a_74 a_75 l_76) (.inl (some (.int r.1)), xw_R X r.2 s_57_1 s_57_18 s_57_19 s_57_20 s_57_24 a_58 a_59 t_kinds t_kindLetters t_kindNames t_kindParts t_kindSorts t_kindMay t_lines t_numbers t_letters t_names t_parts t_sorts t_values a_73 a_74 a_75 l_76) := by
  intro N
  induction N with
  | zero => intro t_thrown v2 v3 v4 r h; cases h
  | succ N hk38 =>
    intro t_thrown v2 v3 v4 r h
    refine xe_seg ok 5 (G := (fun K => if xr_in ((0 : Int32)) 3 = true then K (76, xm_i76, xm_I76, 0, 0, 46, [(0, .ref 59), (2, .int v2), (3, .int v3), (4, .int v4)], [.int (t_lines ((0 : Int32)).toNatClampNeg), .int v4], xw_R X t_thrown s_57_1 s_57_18 s_57_19 s_57_20 s_57_24 a_58 a_59 t_kinds t_kindLetters t_kindNames t_kindParts t_kindSorts t_kindMay t_lines t_numbers t_letters t_names t_parts t_sorts t_values a_73 a_74 a_75 l_76) else none)) (fun K => rfl) ?_
    obtain ⟨hg1113, h⟩ := xn_if h
    refine xe_pos hg1113 (xe_k ?_)
    refine xe_seg ok 1 (G := (fun K => if v4 < (t_lines ((0 : Int32)).toNatClampNeg) then K (76, xm_i76, xm_I76, 0, 0, 49, [(0, .ref 59), (2, .int v2), (3, .int v3), (4, .int v4)], [], xw_R X t_thrown s_57_1 s_57_18 s_57_19 s_57_20 s_57_24 a_58 a_59 t_kinds t_kindLetters t_kindNames t_kindParts t_kindSorts t_kindMay t_lines t_numbers t_letters t_names t_parts t_sorts t_values a_73 a_74 a_75 l_76) else K (76, xm_i76, xm_I76, 0, 0, 172, [(0, .ref 59), (2, .int v2), (3, .int v3), (4, .int v4)], [], xw_R X t_thrown s_57_1 s_57_18 s_57_19 s_57_20 s_57_24 a_58 a_59 t_kinds t_kindLetters t_kindNames t_kindParts t_kindSorts t_kindMay t_lines t_numbers t_letters t_names t_parts t_sorts t_values a_73 a_74 a_75 l_76))) (fun K => rfl) ?_
    rcases xb_if h with ⟨hc1114, h⟩ | ⟨hc1114, h⟩
    · refine xe_pos hc1114 (xe_k ?_)
      refine xe_seg ok 3 (G := (fun K => xr_back K 76 xm_i76 xm_I76 0 0 52 [(0, .ref 59), (2, .int v2), (3, .int v3), (4, .int v4)] [] 78 true (K (64, xm_i64, xm_I64, 0, 0, 0, [(0, .ref 59), (1, .int v4)], [], xw_R X t_thrown s_57_1 s_57_18 s_57_19 s_57_20 s_57_24 a_58 a_59 t_kinds t_kindLetters t_kindNames t_kindParts t_kindSorts t_kindMay t_lines t_numbers t_letters t_names t_parts t_sorts t_values a_73 a_74 a_75 l_76)))) (fun K => rfl) ?_
      obtain ⟨q1115, hq1115, h⟩ := Option.bind_eq_some_iff.mp h
      have heq1115 := xh_rf_kindOf_57 (l := l) (g := g) ok a_58 a_59 t_kindParts t_kindSorts t_kindMay t_lines t_numbers t_parts t_sorts t_values a_73 a_74 a_75 l_76 t_thrown s_57_1 s_57_18 s_57_19 s_57_20 s_57_24 X t_kindLetters t_kindNames t_kinds t_letters t_names n v4 _ hq1115
      refine xe_call1 (ws' := xw_R X t_thrown s_57_1 s_57_18 s_57_19 s_57_20 s_57_24 a_58 a_59 t_kinds t_kindLetters t_kindNames t_kindParts t_kindSorts t_kindMay t_lines t_numbers t_letters t_names t_parts t_sorts t_values a_73 a_74 a_75 l_76) (by decide) heq1115 (Or.inl rfl) ?_
      refine xe_seg ok 4 (G := (fun K => if q1115 = ((-1 : Int32)) then K (76, xm_i76, xm_I76, 0, 0, 63, [(0, .ref 59), (2, .int v2), (3, .int v3), (4, .int v4), (5, .int q1115)], [], xw_R X t_thrown s_57_1 s_57_18 s_57_19 s_57_20 s_57_24 a_58 a_59 t_kinds t_kindLetters t_kindNames t_kindParts t_kindSorts t_kindMay t_lines t_numbers t_letters t_names t_parts t_sorts t_values a_73 a_74 a_75 l_76) else K (76, xm_i76, xm_I76, 0, 0, 67, [(0, .ref 59), (2, .int v2), (3, .int v3), (4, .int v4), (5, .int q1115)], [], xw_R X t_thrown s_57_1 s_57_18 s_57_19 s_57_20 s_57_24 a_58 a_59 t_kinds t_kindLetters t_kindNames t_kindParts t_kindSorts t_kindMay t_lines t_numbers t_letters t_names t_parts t_sorts t_values a_73 a_74 a_75 l_76))) (fun K => rfl) ?_
      rcases xb_if h with ⟨hc1116, h⟩ | ⟨hc1116, h⟩
      · refine xe_pos hc1116 (xe_k ?_)
        refine xe_seg ok 2 (G := (fun K => K (76, xm_i76, xm_I76, 0, 0, 89, [(0, .ref 59), (2, .int v2), (3, .int v3), (4, .int v4), (5, .int q1115)], [.int ((1 : Int32))], xw_R X t_thrown s_57_1 s_57_18 s_57_19 s_57_20 s_57_24 a_58 a_59 t_kinds t_kindLetters t_kindNames t_kindParts t_kindSorts t_kindMay t_lines t_numbers t_letters t_names t_parts t_sorts t_values a_73 a_74 a_75 l_76))) (fun K => rfl) ?_
        refine xe_k ?_
        refine xe_sub [true, true, true, true, true] (lv' := [(0, .ref 59), (2, .int v2), (3, .int v3), (4, .int v4), (5, .int q1115)]) rfl ?_
        have hz := xh_rf_wrong_57_89 (l := l) (g := g) ok a_58 a_59 a_73 a_74 a_75 l_76 s_57_1 s_57_18 s_57_19 s_57_20 s_57_24 X t_kindLetters t_kindMay t_kindNames t_kindParts t_kindSorts t_kinds t_letters t_lines t_names t_numbers t_parts t_sorts t_values hk38 n t_thrown v2 v3 v4 q1115 ((1 : Int32)) _ h
        exact hz
      · refine xe_neg hc1116 (xe_k ?_)
        refine xe_seg ok 4 (G := (fun K => if xr_in q1115 24 = true then K (76, xm_i76, xm_I76, 0, 0, 74, [(0, .ref 59), (2, .int v2), (3, .int v3), (4, .int v4), (5, .int q1115)], [.int (t_kindParts q1115.toNatClampNeg)], xw_R X t_thrown s_57_1 s_57_18 s_57_19 s_57_20 s_57_24 a_58 a_59 t_kinds t_kindLetters t_kindNames t_kindParts t_kindSorts t_kindMay t_lines t_numbers t_letters t_names t_parts t_sorts t_values a_73 a_74 a_75 l_76) else none)) (fun K => rfl) ?_
        obtain ⟨hg1141, h⟩ := xn_if h
        refine xe_pos hg1141 (xe_k ?_)
        refine xe_seg ok 4 (G := (fun K => if xr_in v4 120 = true then K (76, xm_i76, xm_I76, 0, 0, 81, [(0, .ref 59), (2, .int v2), (3, .int v3), (4, .int v4), (5, .int q1115)], [.int (t_parts v4.toNatClampNeg), .int (t_kindParts q1115.toNatClampNeg)], xw_R X t_thrown s_57_1 s_57_18 s_57_19 s_57_20 s_57_24 a_58 a_59 t_kinds t_kindLetters t_kindNames t_kindParts t_kindSorts t_kindMay t_lines t_numbers t_letters t_names t_parts t_sorts t_values a_73 a_74 a_75 l_76) else none)) (fun K => rfl) ?_
        obtain ⟨hg1142, h⟩ := xn_if h
        refine xe_pos hg1142 (xe_k ?_)
        refine xe_seg ok 1 (G := (fun K => if (t_kindParts q1115.toNatClampNeg) = (t_parts v4.toNatClampNeg) then K (76, xm_i76, xm_I76, 0, 0, 88, [(0, .ref 59), (2, .int v2), (3, .int v3), (4, .int v4), (5, .int q1115)], [], xw_R X t_thrown s_57_1 s_57_18 s_57_19 s_57_20 s_57_24 a_58 a_59 t_kinds t_kindLetters t_kindNames t_kindParts t_kindSorts t_kindMay t_lines t_numbers t_letters t_names t_parts t_sorts t_values a_73 a_74 a_75 l_76) else K (76, xm_i76, xm_I76, 0, 0, 84, [(0, .ref 59), (2, .int v2), (3, .int v3), (4, .int v4), (5, .int q1115)], [], xw_R X t_thrown s_57_1 s_57_18 s_57_19 s_57_20 s_57_24 a_58 a_59 t_kinds t_kindLetters t_kindNames t_kindParts t_kindSorts t_kindMay t_lines t_numbers t_letters t_names t_parts t_sorts t_values a_73 a_74 a_75 l_76))) (fun K => rfl) ?_
        rcases xb_if h with ⟨hc1143, h⟩ | ⟨hc1143, h⟩
        · refine xe_pos hc1143 (xe_k ?_)
          refine xe_seg ok 1 (G := (fun K => K (76, xm_i76, xm_I76, 0, 0, 89, [(0, .ref 59), (2, .int v2), (3, .int v3), (4, .int v4), (5, .int q1115)], [.int ((0 : Int32))], xw_R X t_thrown s_57_1 s_57_18 s_57_19 s_57_20 s_57_24 a_58 a_59 t_kinds t_kindLetters t_kindNames t_kindParts t_kindSorts t_kindMay t_lines t_numbers t_letters t_names t_parts t_sorts t_values a_73 a_74 a_75 l_76))) (fun K => rfl) ?_
          refine xe_k ?_
          refine xe_sub [true, true, true, true, true] (lv' := [(0, .ref 59), (2, .int v2), (3, .int v3), (4, .int v4), (5, .int q1115)]) rfl ?_
          have hz := xh_rf_wrong_57_89 (l := l) (g := g) ok a_58 a_59 a_73 a_74 a_75 l_76 s_57_1 s_57_18 s_57_19 s_57_20 s_57_24 X t_kindLetters t_kindMay t_kindNames t_kindParts t_kindSorts t_kinds t_letters t_lines t_names t_numbers t_parts t_sorts t_values hk38 n t_thrown v2 v3 v4 q1115 ((0 : Int32)) _ h
          exact hz
        · refine xe_neg hc1143 (xe_k ?_)
          refine xe_seg ok 2 (G := (fun K => K (76, xm_i76, xm_I76, 0, 0, 89, [(0, .ref 59), (2, .int v2), (3, .int v3), (4, .int v4), (5, .int q1115)], [.int ((2 : Int32))], xw_R X t_thrown s_57_1 s_57_18 s_57_19 s_57_20 s_57_24 a_58 a_59 t_kinds t_kindLetters t_kindNames t_kindParts t_kindSorts t_kindMay t_lines t_numbers t_letters t_names t_parts t_sorts t_values a_73 a_74 a_75 l_76))) (fun K => rfl) ?_
          refine xe_k ?_
          refine xe_sub [true, true, true, true, true] (lv' := [(0, .ref 59), (2, .int v2), (3, .int v3), (4, .int v4), (5, .int q1115)]) rfl ?_
          have hz := xh_rf_wrong_57_89 (l := l) (g := g) ok a_58 a_59 a_73 a_74 a_75 l_76 s_57_1 s_57_18 s_57_19 s_57_20 s_57_24 X t_kindLetters t_kindMay t_kindNames t_kindParts t_kindSorts t_kinds t_letters t_lines t_names t_numbers t_parts t_sorts t_values hk38 n t_thrown v2 v3 v4 q1115 ((2 : Int32)) _ h
          exact hz
    · refine xe_neg hc1114 (xe_k ?_)
      obtain rfl := Option.some.inj h
      refine xe_seg ok 2 (G := (fun _ => some (.inl (some (.int ((-1 : Int32)))), xw_R X t_thrown s_57_1 s_57_18 s_57_19 s_57_20 s_57_24 a_58 a_59 t_kinds t_kindLetters t_kindNames t_kindParts t_kindSorts t_kindMay t_lines t_numbers t_letters t_names t_parts t_sorts t_values a_73 a_74 a_75 l_76))) (fun K => rfl) ?_
      exact xe_ret
set_option maxHeartbeats 400000 in
theorem xh_rf_wrong_57_24 {l : Launch} {g : xr_G} (ok : xr_OK xm_P) (a_58 a_59 a_73 a_74 a_75 : Nat → Int32) (l_76 : Nat → Int64) (s_57_1 s_57_18 s_57_19 s_57_20 s_57_24 : Int32) (X : Nat → xr_C) (t_kindLetters : (Nat → Int32)) (t_kindMay : (Nat → Int32)) (t_kindNames : (Nat → Int32)) (t_kindParts : (Nat → Int32)) (t_kindSorts : (Nat → Int32)) (t_kinds : (Nat → Int32)) (t_letters : (Nat → Int32)) (t_lines : (Nat → Int32)) (t_names : (Nat → Int32)) (t_numbers : (Nat → Int32)) (t_parts : (Nat → Int32)) (t_sorts : (Nat → Int32)) (t_values : (Nat → Int32)) (n : Nat) : ∀ (t_thrown : Int32) (v1 : Int32) (v2 : Int32) (s1 : Int32) (r : (Int32 × Int32)), xf_rf_wrong_24 t_kindLetters t_kindMay t_kindNames t_kindParts t_kindSorts t_kinds t_letters t_lines t_names t_numbers t_parts t_sorts t_values n t_thrown v1 v2 s1 = some r → xV xm_P l g (76, xm_i76, xm_I76, 0, 0, 24, [(0, .ref 59), (1, .int v1), (2, .int v2)], [.int s1, .ref 59], xw_R X t_thrown s_57_1 s_57_18 s_57_19 s_57_20 s_57_24 a_58 a_59 t_kinds t_kindLetters t_kindNames t_kindParts t_kindSorts t_kindMay t_lines t_numbers t_letters t_names t_parts t_sorts t_values a_73 a_74 a_75 l_76) (.inl (some (.int r.1)), xw_R X r.2 s_57_1 s_57_18 s_57_19 s_57_20 s_57_24 a_58 a_59 t_kinds t_kindLetters t_kindNames t_kindParts t_kindSorts t_kindMay t_lines t_numbers t_letters t_names t_parts t_sorts t_values a_73 a_74 a_75 l_76) := by
  intro t_thrown v1 v2 s1 r h
  unfold xf_rf_wrong_24 at h
  refine xe_seg ok 2 (G := (fun K => xr_back K 76 xm_i76 xm_I76 0 0 25 [(0, .ref 59), (1, .int v1), (2, .int v2)] [] 78 true (K (32, xm_i32, xm_I32, 0, 0, 0, [(0, .ref 59), (1, .int s1), (2, .int ((1 : Int32)))], [], xw_R X t_thrown s_57_1 s_57_18 s_57_19 s_57_20 s_57_24 a_58 a_59 t_kinds t_kindLetters t_kindNames t_kindParts t_kindSorts t_kindMay t_lines t_numbers t_letters t_names t_parts t_sorts t_values a_73 a_74 a_75 l_76)))) (fun K => rfl) ?_
  obtain ⟨q1111, hq1111, h⟩ := Option.bind_eq_some_iff.mp h
  have heq1111 := xh_rf_fails_57 (l := l) (g := g) ok a_58 a_59 t_kinds t_kindLetters t_kindNames t_kindParts t_kindSorts t_kindMay t_lines t_numbers t_letters t_names t_parts t_sorts t_values a_73 a_74 a_75 l_76 s_57_1 s_57_18 s_57_19 s_57_20 s_57_24 X t_thrown s1 ((1 : Int32)) _ hq1111
  refine xe_call1 (ws' := xw_R X q1111.2 s_57_1 s_57_18 s_57_19 s_57_20 s_57_24 a_58 a_59 t_kinds t_kindLetters t_kindNames t_kindParts t_kindSorts t_kindMay t_lines t_numbers t_letters t_names t_parts t_sorts t_values a_73 a_74 a_75 l_76) (by decide) heq1111 (Or.inl rfl) ?_
  refine xe_seg ok 1 (G := (fun K => if q1111.1 = (0 : Int32) then K (76, xm_i76, xm_I76, 0, 0, 33, [(0, .ref 59), (1, .int v1), (2, .int v2)], [], xw_R X q1111.2 s_57_1 s_57_18 s_57_19 s_57_20 s_57_24 a_58 a_59 t_kinds t_kindLetters t_kindNames t_kindParts t_kindSorts t_kindMay t_lines t_numbers t_letters t_names t_parts t_sorts t_values a_73 a_74 a_75 l_76) else K (76, xm_i76, xm_I76, 0, 0, 31, [(0, .ref 59), (1, .int v1), (2, .int v2)], [], xw_R X q1111.2 s_57_1 s_57_18 s_57_19 s_57_20 s_57_24 a_58 a_59 t_kinds t_kindLetters t_kindNames t_kindParts t_kindSorts t_kindMay t_lines t_numbers t_letters t_names t_parts t_sorts t_values a_73 a_74 a_75 l_76))) (fun K => rfl) ?_
  rcases xb_if h with ⟨hc1112, h⟩ | ⟨hc1112, h⟩
  · refine xe_pos hc1112 (xe_k ?_)
    refine xe_seg ok 4 (G := (fun K => K (76, xm_i76, xm_I76, 0, 0, 38, [(0, .ref 59), (1, .int v1), (2, .int v2), (3, .int v1), (4, .int ((0 : Int32)))], [], xw_R X q1111.2 s_57_1 s_57_18 s_57_19 s_57_20 s_57_24 a_58 a_59 t_kinds t_kindLetters t_kindNames t_kindParts t_kindSorts t_kindMay t_lines t_numbers t_letters t_names t_parts t_sorts t_values a_73 a_74 a_75 l_76))) (fun K => rfl) ?_
    refine xe_k ?_
    refine xe_sub [true, false, true, true, true] (lv' := [(0, .ref 59), (2, .int v2), (3, .int v1), (4, .int ((0 : Int32)))]) rfl ?_
    have hz := xh_rf_wrong_57_38 (l := l) (g := g) ok a_58 a_59 a_73 a_74 a_75 l_76 s_57_1 s_57_18 s_57_19 s_57_20 s_57_24 X t_kindLetters t_kindMay t_kindNames t_kindParts t_kindSorts t_kinds t_letters t_lines t_names t_numbers t_parts t_sorts t_values n n q1111.2 v2 v1 ((0 : Int32)) _ h
    exact hz
  · refine xe_neg hc1112 (xe_k ?_)
    obtain rfl := Option.some.inj h
    refine xe_seg ok 2 (G := (fun _ => some (.inl (some (.int ((0 : Int32)))), xw_R X q1111.2 s_57_1 s_57_18 s_57_19 s_57_20 s_57_24 a_58 a_59 t_kinds t_kindLetters t_kindNames t_kindParts t_kindSorts t_kindMay t_lines t_numbers t_letters t_names t_parts t_sorts t_values a_73 a_74 a_75 l_76))) (fun K => rfl) ?_
    exact xe_ret
set_option maxHeartbeats 400000 in
theorem xh_rf_wrong_57_19 {l : Launch} {g : xr_G} (ok : xr_OK xm_P) (a_58 a_59 a_73 a_74 a_75 : Nat → Int32) (l_76 : Nat → Int64) (s_57_1 s_57_18 s_57_19 s_57_20 s_57_24 : Int32) (X : Nat → xr_C) (t_kindLetters : (Nat → Int32)) (t_kindMay : (Nat → Int32)) (t_kindNames : (Nat → Int32)) (t_kindParts : (Nat → Int32)) (t_kindSorts : (Nat → Int32)) (t_kinds : (Nat → Int32)) (t_letters : (Nat → Int32)) (t_lines : (Nat → Int32)) (t_names : (Nat → Int32)) (t_numbers : (Nat → Int32)) (t_parts : (Nat → Int32)) (t_sorts : (Nat → Int32)) (t_values : (Nat → Int32)) (n : Nat) : ∀ (t_thrown : Int32) (v1 : Int32) (v2 : Int32) (r : (Int32 × Int32)), xf_rf_wrong_19 t_kindLetters t_kindMay t_kindNames t_kindParts t_kindSorts t_kinds t_letters t_lines t_names t_numbers t_parts t_sorts t_values n t_thrown v1 v2 = some r → xV xm_P l g (76, xm_i76, xm_I76, 0, 0, 19, [(0, .ref 59), (1, .int v1), (2, .int v2)], [.ref 59], xw_R X t_thrown s_57_1 s_57_18 s_57_19 s_57_20 s_57_24 a_58 a_59 t_kinds t_kindLetters t_kindNames t_kindParts t_kindSorts t_kindMay t_lines t_numbers t_letters t_names t_parts t_sorts t_values a_73 a_74 a_75 l_76) (.inl (some (.int r.1)), xw_R X r.2 s_57_1 s_57_18 s_57_19 s_57_20 s_57_24 a_58 a_59 t_kinds t_kindLetters t_kindNames t_kindParts t_kindSorts t_kindMay t_lines t_numbers t_letters t_names t_parts t_sorts t_values a_73 a_74 a_75 l_76) := by
  intro t_thrown v1 v2 r h
  unfold xf_rf_wrong_19 at h
  refine xe_seg ok 2 (G := (fun K => K (76, xm_i76, xm_I76, 0, 0, 24, [(0, .ref 59), (1, .int v1), (2, .int v2)], [.int ((1 : Int32)), .ref 59], xw_R X t_thrown s_57_1 s_57_18 s_57_19 s_57_20 s_57_24 a_58 a_59 t_kinds t_kindLetters t_kindNames t_kindParts t_kindSorts t_kindMay t_lines t_numbers t_letters t_names t_parts t_sorts t_values a_73 a_74 a_75 l_76))) (fun K => rfl) ?_
  refine xe_k ?_
  refine xe_sub [true, true, true] (lv' := [(0, .ref 59), (1, .int v1), (2, .int v2)]) rfl ?_
  have hz := xh_rf_wrong_57_24 (l := l) (g := g) ok a_58 a_59 a_73 a_74 a_75 l_76 s_57_1 s_57_18 s_57_19 s_57_20 s_57_24 X t_kindLetters t_kindMay t_kindNames t_kindParts t_kindSorts t_kinds t_letters t_lines t_names t_numbers t_parts t_sorts t_values n t_thrown v1 v2 ((1 : Int32)) _ h
  exact hz
set_option maxHeartbeats 400000 in
theorem xh_rf_wrong_57 {l : Launch} {g : xr_G} (ok : xr_OK xm_P) (a_58 a_59 a_73 a_74 a_75 : Nat → Int32) (l_76 : Nat → Int64) (s_57_1 s_57_18 s_57_19 s_57_20 s_57_24 : Int32) (X : Nat → xr_C) (t_kindLetters : (Nat → Int32)) (t_kindMay : (Nat → Int32)) (t_kindNames : (Nat → Int32)) (t_kindParts : (Nat → Int32)) (t_kindSorts : (Nat → Int32)) (t_kinds : (Nat → Int32)) (t_letters : (Nat → Int32)) (t_lines : (Nat → Int32)) (t_names : (Nat → Int32)) (t_numbers : (Nat → Int32)) (t_parts : (Nat → Int32)) (t_sorts : (Nat → Int32)) (t_values : (Nat → Int32)) (n : Nat) : ∀ (t_thrown : Int32) (a1 : Int32) (a2 : Int32) (r : (Int32 × Int32)), xf_rf_wrong t_kindLetters t_kindMay t_kindNames t_kindParts t_kindSorts t_kinds t_letters t_lines t_names t_numbers t_parts t_sorts t_values n t_thrown a1 a2 = some r → xV xm_P l g (76, xm_i76, xm_I76, 0, 0, 0, [(0, .ref 59), (1, .int a1), (2, .int a2)], [], xw_R X t_thrown s_57_1 s_57_18 s_57_19 s_57_20 s_57_24 a_58 a_59 t_kinds t_kindLetters t_kindNames t_kindParts t_kindSorts t_kindMay t_lines t_numbers t_letters t_names t_parts t_sorts t_values a_73 a_74 a_75 l_76) (.inl (some (.int r.1)), xw_R X r.2 s_57_1 s_57_18 s_57_19 s_57_20 s_57_24 a_58 a_59 t_kinds t_kindLetters t_kindNames t_kindParts t_kindSorts t_kindMay t_lines t_numbers t_letters t_names t_parts t_sorts t_values a_73 a_74 a_75 l_76) := by
  intro t_thrown a1 a2 r h
  unfold xf_rf_wrong at h
  refine xe_seg ok 6 (G := (fun K => if a1 < (0 : Int32) then K (76, xm_i76, xm_I76, 0, 0, 19, [(0, .ref 59), (1, .int a1), (2, .int a2)], [.ref 59], xw_R X ((0 : Int32)) s_57_1 s_57_18 s_57_19 s_57_20 s_57_24 a_58 a_59 t_kinds t_kindLetters t_kindNames t_kindParts t_kindSorts t_kindMay t_lines t_numbers t_letters t_names t_parts t_sorts t_values a_73 a_74 a_75 l_76) else K (76, xm_i76, xm_I76, 0, 0, 10, [(0, .ref 59), (1, .int a1), (2, .int a2)], [.ref 59], xw_R X ((0 : Int32)) s_57_1 s_57_18 s_57_19 s_57_20 s_57_24 a_58 a_59 t_kinds t_kindLetters t_kindNames t_kindParts t_kindSorts t_kindMay t_lines t_numbers t_letters t_names t_parts t_sorts t_values a_73 a_74 a_75 l_76))) (fun K => rfl) ?_
  rcases xb_if h with ⟨hc1110, h⟩ | ⟨hc1110, h⟩
  · refine xe_pos hc1110 (xe_k ?_)
    refine xe_sub [true, true, true] (lv' := [(0, .ref 59), (1, .int a1), (2, .int a2)]) rfl ?_
    have hz := xh_rf_wrong_57_19 (l := l) (g := g) ok a_58 a_59 a_73 a_74 a_75 l_76 s_57_1 s_57_18 s_57_19 s_57_20 s_57_24 X t_kindLetters t_kindMay t_kindNames t_kindParts t_kindSorts t_kinds t_letters t_lines t_names t_numbers t_parts t_sorts t_values n ((0 : Int32)) a1 a2 _ h
    exact hz
  · refine xe_neg hc1110 (xe_k ?_)
    refine xe_seg ok 2 (G := (fun K => if a2 < (0 : Int32) then K (76, xm_i76, xm_I76, 0, 0, 19, [(0, .ref 59), (1, .int a1), (2, .int a2)], [.ref 59], xw_R X ((0 : Int32)) s_57_1 s_57_18 s_57_19 s_57_20 s_57_24 a_58 a_59 t_kinds t_kindLetters t_kindNames t_kindParts t_kindSorts t_kindMay t_lines t_numbers t_letters t_names t_parts t_sorts t_values a_73 a_74 a_75 l_76) else K (76, xm_i76, xm_I76, 0, 0, 14, [(0, .ref 59), (1, .int a1), (2, .int a2)], [.ref 59], xw_R X ((0 : Int32)) s_57_1 s_57_18 s_57_19 s_57_20 s_57_24 a_58 a_59 t_kinds t_kindLetters t_kindNames t_kindParts t_kindSorts t_kindMay t_lines t_numbers t_letters t_names t_parts t_sorts t_values a_73 a_74 a_75 l_76))) (fun K => rfl) ?_
    rcases xb_if h with ⟨hc1144, h⟩ | ⟨hc1144, h⟩
    · refine xe_pos hc1144 (xe_k ?_)
      refine xe_sub [true, true, true] (lv' := [(0, .ref 59), (1, .int a1), (2, .int a2)]) rfl ?_
      have hz := xh_rf_wrong_57_19 (l := l) (g := g) ok a_58 a_59 a_73 a_74 a_75 l_76 s_57_1 s_57_18 s_57_19 s_57_20 s_57_24 X t_kindLetters t_kindMay t_kindNames t_kindParts t_kindSorts t_kinds t_letters t_lines t_names t_numbers t_parts t_sorts t_values n ((0 : Int32)) a1 a2 _ h
      exact hz
    · refine xe_neg hc1144 (xe_k ?_)
      refine xe_seg ok 3 (G := (fun K => if ((2 : Int32)) < a2 then K (76, xm_i76, xm_I76, 0, 0, 19, [(0, .ref 59), (1, .int a1), (2, .int a2)], [.ref 59], xw_R X ((0 : Int32)) s_57_1 s_57_18 s_57_19 s_57_20 s_57_24 a_58 a_59 t_kinds t_kindLetters t_kindNames t_kindParts t_kindSorts t_kindMay t_lines t_numbers t_letters t_names t_parts t_sorts t_values a_73 a_74 a_75 l_76) else K (76, xm_i76, xm_I76, 0, 0, 23, [(0, .ref 59), (1, .int a1), (2, .int a2)], [.ref 59], xw_R X ((0 : Int32)) s_57_1 s_57_18 s_57_19 s_57_20 s_57_24 a_58 a_59 t_kinds t_kindLetters t_kindNames t_kindParts t_kindSorts t_kindMay t_lines t_numbers t_letters t_names t_parts t_sorts t_values a_73 a_74 a_75 l_76))) (fun K => rfl) ?_
      rcases xb_if h with ⟨hc1145, h⟩ | ⟨hc1145, h⟩
      · refine xe_pos hc1145 (xe_k ?_)
        refine xe_sub [true, true, true] (lv' := [(0, .ref 59), (1, .int a1), (2, .int a2)]) rfl ?_
        have hz := xh_rf_wrong_57_19 (l := l) (g := g) ok a_58 a_59 a_73 a_74 a_75 l_76 s_57_1 s_57_18 s_57_19 s_57_20 s_57_24 X t_kindLetters t_kindMay t_kindNames t_kindParts t_kindSorts t_kinds t_letters t_lines t_names t_numbers t_parts t_sorts t_values n ((0 : Int32)) a1 a2 _ h
        exact hz
      · refine xe_neg hc1145 (xe_k ?_)
        refine xe_seg ok 1 (G := (fun K => K (76, xm_i76, xm_I76, 0, 0, 24, [(0, .ref 59), (1, .int a1), (2, .int a2)], [.int ((0 : Int32)), .ref 59], xw_R X ((0 : Int32)) s_57_1 s_57_18 s_57_19 s_57_20 s_57_24 a_58 a_59 t_kinds t_kindLetters t_kindNames t_kindParts t_kindSorts t_kindMay t_lines t_numbers t_letters t_names t_parts t_sorts t_values a_73 a_74 a_75 l_76))) (fun K => rfl) ?_
        refine xe_k ?_
        refine xe_sub [true, true, true] (lv' := [(0, .ref 59), (1, .int a1), (2, .int a2)]) rfl ?_
        have hz := xh_rf_wrong_57_24 (l := l) (g := g) ok a_58 a_59 a_73 a_74 a_75 l_76 s_57_1 s_57_18 s_57_19 s_57_20 s_57_24 X t_kindLetters t_kindMay t_kindNames t_kindParts t_kindSorts t_kinds t_letters t_lines t_names t_numbers t_parts t_sorts t_values n ((0 : Int32)) a1 a2 ((0 : Int32)) _ h
        exact hz
set_option maxHeartbeats 400000 in
theorem xh_rf_from_57_92 {l : Launch} {g : xr_G} (ok : xr_OK xm_P) (a_58 a_59 a_60 a_61 a_62 a_63 a_64 a_65 a_68 a_69 a_74 a_75 : Nat → Int32) (s_57_1 s_57_18 s_57_19 s_57_20 s_57_24 : Int32) (X : Nat → xr_C) (t_items : (Nat → Int32)) (t_lines : (Nat → Int32)) (t_numbers : (Nat → Int32)) (t_parts : (Nat → Int32)) (t_sorts : (Nat → Int32)) (t_values : (Nat → Int32)) {k46 : Int32 → (Nat → Int64) → Int32 → Int32 → Int32 → Option (Int32 × Int32 × (Nat → Int64))} (hk46 : ∀ (t_thrown : Int32) (t_ways : (Nat → Int64)) (v3 : Int32) (v4 : Int32) (v5 : Int32) (r : (Int32 × Int32 × (Nat → Int64))), k46 t_thrown t_ways v3 v4 v5 = some r → xV xm_P l g (77, xm_i77, xm_I77, 0, 0, 46, [(0, .ref 59), (3, .int v3), (4, .int v4), (5, .int v5)], [], xw_R X t_thrown s_57_1 s_57_18 s_57_19 s_57_20 s_57_24 a_58 a_59 a_60 a_61 a_62 a_63 a_64 a_65 t_lines t_numbers a_68 a_69 t_parts t_sorts t_values t_items a_74 a_75 t_ways) (.inl (some (.int r.1)), xw_R X r.2.1 s_57_1 s_57_18 s_57_19 s_57_20 s_57_24 a_58 a_59 a_60 a_61 a_62 a_63 a_64 a_65 t_lines t_numbers a_68 a_69 t_parts t_sorts t_values t_items a_74 a_75 r.2.2)) (n : Nat) : ∀ (t_thrown : Int32) (t_ways : (Nat → Int64)) (v3 : Int32) (v4 : Int32) (v5 : Int32) (r : (Int32 × Int32 × (Nat → Int64))), xf_rf_from_92 t_items t_lines t_numbers t_parts t_sorts t_values k46 n t_thrown t_ways v3 v4 v5 = some r → xV xm_P l g (77, xm_i77, xm_I77, 0, 0, 92, [(0, .ref 59), (3, .int v3), (4, .int v4), (5, .int v5)], [], xw_R X t_thrown s_57_1 s_57_18 s_57_19 s_57_20 s_57_24 a_58 a_59 a_60 a_61 a_62 a_63 a_64 a_65 t_lines t_numbers a_68 a_69 t_parts t_sorts t_values t_items a_74 a_75 t_ways) (.inl (some (.int r.1)), xw_R X r.2.1 s_57_1 s_57_18 s_57_19 s_57_20 s_57_24 a_58 a_59 a_60 a_61 a_62 a_63 a_64 a_65 t_lines t_numbers a_68 a_69 t_parts t_sorts t_values t_items a_74 a_75 r.2.2) := by
  intro t_thrown t_ways v3 v4 v5 r h
  unfold xf_rf_from_92 at h
  refine xe_seg ok 2 (G := (fun K => K (77, xm_i77, xm_I77, 0, 0, 46, [(0, .ref 59), (3, .int v3), (4, .int v4), (5, .int (v5 + (1 : Int32)))], [], xw_R X t_thrown s_57_1 s_57_18 s_57_19 s_57_20 s_57_24 a_58 a_59 a_60 a_61 a_62 a_63 a_64 a_65 t_lines t_numbers a_68 a_69 t_parts t_sorts t_values t_items a_74 a_75 t_ways))) (fun K => rfl) ?_
  refine xe_k ?_
  refine xe_sub [true, true, true, true] (lv' := [(0, .ref 59), (3, .int v3), (4, .int v4), (5, .int (v5 + (1 : Int32)))]) rfl ?_
  have hz := hk46 t_thrown t_ways v3 v4 (v5 + (1 : Int32)) _ h
  exact hz
set_option maxHeartbeats 400000 in
theorem xh_rf_from_57_46 {l : Launch} {g : xr_G} (ok : xr_OK xm_P) (a_58 a_59 a_60 a_61 a_62 a_63 a_64 a_65 a_68 a_69 a_74 a_75 : Nat → Int32) (s_57_1 s_57_18 s_57_19 s_57_20 s_57_24 : Int32) (X : Nat → xr_C) (t_items : (Nat → Int32)) (t_lines : (Nat → Int32)) (t_numbers : (Nat → Int32)) (t_parts : (Nat → Int32)) (t_sorts : (Nat → Int32)) (t_values : (Nat → Int32)) (n : Nat) : ∀ (N : Nat) (t_thrown : Int32) (t_ways : (Nat → Int64)) (v3 : Int32) (v4 : Int32) (v5 : Int32) (r : (Int32 × Int32 × (Nat → Int64))), xf_rf_from_46 t_items t_lines t_numbers t_parts t_sorts t_values n N t_thrown t_ways v3 v4 v5 = some r → xV xm_P l g (77, xm_i77, xm_I77, 0, 0, 46, [(0, .ref 59), (3, .int v3), (4, .int v4), (5, .int v5)], [], xw_R X t_thrown s_57_1 s_57_18 s_57_19 s_57_20 s_57_24 a_58 a_59 a_60 a_61 a_62 a_63 a_64 a_65 t_lines t_numbers a_68 a_69 t_parts t_sorts t_values t_items a_74 a_75 t_ways) (.inl (some (.int r.1)), xw_R X r.2.1 s_57_1 s_57_18 s_57_19 s_57_20 s_57_24 a_58 a_59 a_60 a_61 a_62 a_63 a_64 a_65 t_lines t_numbers a_68 a_69 t_parts t_sorts t_values t_items a_74 a_75 r.2.2) := by
  intro N
  induction N with
  | zero => intro t_thrown t_ways v3 v4 v5 r h; cases h
  | succ N hk46 =>
    intro t_thrown t_ways v3 v4 v5 r h
    refine xe_seg ok 5 (G := (fun K => if xr_in ((0 : Int32)) 3 = true then K (77, xm_i77, xm_I77, 0, 0, 54, [(0, .ref 59), (3, .int v3), (4, .int v4), (5, .int v5)], [.int (t_lines ((0 : Int32)).toNatClampNeg), .int v5], xw_R X t_thrown s_57_1 s_57_18 s_57_19 s_57_20 s_57_24 a_58 a_59 a_60 a_61 a_62 a_63 a_64 a_65 t_lines t_numbers a_68 a_69 t_parts t_sorts t_values t_items a_74 a_75 t_ways) else none)) (fun K => rfl) ?_
    obtain ⟨hg1151, h⟩ := xn_if h
    refine xe_pos hg1151 (xe_k ?_)
    refine xe_seg ok 1 (G := (fun K => if v5 < (t_lines ((0 : Int32)).toNatClampNeg) then K (77, xm_i77, xm_I77, 0, 0, 57, [(0, .ref 59), (3, .int v3), (4, .int v4), (5, .int v5)], [], xw_R X t_thrown s_57_1 s_57_18 s_57_19 s_57_20 s_57_24 a_58 a_59 a_60 a_61 a_62 a_63 a_64 a_65 t_lines t_numbers a_68 a_69 t_parts t_sorts t_values t_items a_74 a_75 t_ways) else K (77, xm_i77, xm_I77, 0, 0, 98, [(0, .ref 59), (3, .int v3), (4, .int v4), (5, .int v5)], [], xw_R X t_thrown s_57_1 s_57_18 s_57_19 s_57_20 s_57_24 a_58 a_59 a_60 a_61 a_62 a_63 a_64 a_65 t_lines t_numbers a_68 a_69 t_parts t_sorts t_values t_items a_74 a_75 t_ways))) (fun K => rfl) ?_
    rcases xb_if h with ⟨hc1152, h⟩ | ⟨hc1152, h⟩
    · refine xe_pos hc1152 (xe_k ?_)
      refine xe_seg ok 4 (G := (fun K => if xr_in v5 40 = true then K (77, xm_i77, xm_I77, 0, 0, 64, [(0, .ref 59), (3, .int v3), (4, .int v4), (5, .int v5)], [.long (t_ways v5.toNatClampNeg)], xw_R X t_thrown s_57_1 s_57_18 s_57_19 s_57_20 s_57_24 a_58 a_59 a_60 a_61 a_62 a_63 a_64 a_65 t_lines t_numbers a_68 a_69 t_parts t_sorts t_values t_items a_74 a_75 t_ways) else none)) (fun K => rfl) ?_
      obtain ⟨hg1153, h⟩ := xn_if h
      refine xe_pos hg1153 (xe_k ?_)
      refine xe_seg ok 7 (G := (fun K => if (lg_cmp ((xe_shr (t_ways v5.toNatClampNeg) v3) &&& ((1 : Int64))) ((0 : Int64))) = (0 : Int32) then K (77, xm_i77, xm_I77, 0, 0, 73, [(0, .ref 59), (3, .int v3), (4, .int v4), (5, .int v5)], [], xw_R X t_thrown s_57_1 s_57_18 s_57_19 s_57_20 s_57_24 a_58 a_59 a_60 a_61 a_62 a_63 a_64 a_65 t_lines t_numbers a_68 a_69 t_parts t_sorts t_values t_items a_74 a_75 t_ways) else K (77, xm_i77, xm_I77, 0, 0, 76, [(0, .ref 59), (3, .int v3), (4, .int v4), (5, .int v5)], [], xw_R X t_thrown s_57_1 s_57_18 s_57_19 s_57_20 s_57_24 a_58 a_59 a_60 a_61 a_62 a_63 a_64 a_65 t_lines t_numbers a_68 a_69 t_parts t_sorts t_values t_items a_74 a_75 t_ways))) (fun K => rfl) ?_
      rcases xb_if h with ⟨hc1154, h⟩ | ⟨hc1154, h⟩
      · refine xe_pos hc1154 (xe_k ?_)
        refine xe_seg ok 1 (G := (fun K => K (77, xm_i77, xm_I77, 0, 0, 92, [(0, .ref 59), (3, .int v3), (4, .int v4), (5, .int v5)], [], xw_R X t_thrown s_57_1 s_57_18 s_57_19 s_57_20 s_57_24 a_58 a_59 a_60 a_61 a_62 a_63 a_64 a_65 t_lines t_numbers a_68 a_69 t_parts t_sorts t_values t_items a_74 a_75 t_ways))) (fun K => rfl) ?_
        refine xe_k ?_
        refine xe_sub [true, true, true, true] (lv' := [(0, .ref 59), (3, .int v3), (4, .int v4), (5, .int v5)]) rfl ?_
        have hz := xh_rf_from_57_92 (l := l) (g := g) ok a_58 a_59 a_60 a_61 a_62 a_63 a_64 a_65 a_68 a_69 a_74 a_75 s_57_1 s_57_18 s_57_19 s_57_20 s_57_24 X t_items t_lines t_numbers t_parts t_sorts t_values hk46 n t_thrown t_ways v3 v4 v5 _ h
        exact hz
      · refine xe_neg hc1154 (xe_k ?_)
        refine xe_seg ok 2 (G := (fun K => if v4 = (0 : Int32) then K (77, xm_i77, xm_I77, 0, 0, 81, [(0, .ref 59), (3, .int v3), (4, .int v4), (5, .int v5)], [], xw_R X t_thrown s_57_1 s_57_18 s_57_19 s_57_20 s_57_24 a_58 a_59 a_60 a_61 a_62 a_63 a_64 a_65 t_lines t_numbers a_68 a_69 t_parts t_sorts t_values t_items a_74 a_75 t_ways) else K (77, xm_i77, xm_I77, 0, 0, 89, [(0, .ref 59), (3, .int v3), (4, .int v4), (5, .int v5)], [], xw_R X t_thrown s_57_1 s_57_18 s_57_19 s_57_20 s_57_24 a_58 a_59 a_60 a_61 a_62 a_63 a_64 a_65 t_lines t_numbers a_68 a_69 t_parts t_sorts t_values t_items a_74 a_75 t_ways))) (fun K => rfl) ?_
        rcases xb_if h with ⟨hc1155, h⟩ | ⟨hc1155, h⟩
        · refine xe_pos hc1155 (xe_k ?_)
          refine xe_seg ok 4 (G := (fun K => if xr_in v5 120 = true then K (77, xm_i77, xm_I77, 0, 0, 88, [(0, .ref 59), (3, .int v3), (4, .int v4), (5, .int v5)], [.int (t_numbers v5.toNatClampNeg)], xw_R X t_thrown s_57_1 s_57_18 s_57_19 s_57_20 s_57_24 a_58 a_59 a_60 a_61 a_62 a_63 a_64 a_65 t_lines t_numbers a_68 a_69 t_parts t_sorts t_values t_items a_74 a_75 t_ways) else none)) (fun K => rfl) ?_
          obtain ⟨hg1156, h⟩ := xn_if h
          refine xe_pos hg1156 (xe_k ?_)
          obtain rfl := Option.some.inj h
          refine xe_seg ok 1 (G := (fun _ => some (.inl (some (.int (t_numbers v5.toNatClampNeg))), xw_R X t_thrown s_57_1 s_57_18 s_57_19 s_57_20 s_57_24 a_58 a_59 a_60 a_61 a_62 a_63 a_64 a_65 t_lines t_numbers a_68 a_69 t_parts t_sorts t_values t_items a_74 a_75 t_ways))) (fun K => rfl) ?_
          exact xe_ret
        · refine xe_neg hc1155 (xe_k ?_)
          refine xe_seg ok 1 (G := (fun K => K (77, xm_i77, xm_I77, 0, 0, 92, [(0, .ref 59), (3, .int v3), (4, .int (v4 + (-1 : Int32))), (5, .int v5)], [], xw_R X t_thrown s_57_1 s_57_18 s_57_19 s_57_20 s_57_24 a_58 a_59 a_60 a_61 a_62 a_63 a_64 a_65 t_lines t_numbers a_68 a_69 t_parts t_sorts t_values t_items a_74 a_75 t_ways))) (fun K => rfl) ?_
          refine xe_k ?_
          refine xe_sub [true, true, true, true] (lv' := [(0, .ref 59), (3, .int v3), (4, .int (v4 + (-1 : Int32))), (5, .int v5)]) rfl ?_
          have hz := xh_rf_from_57_92 (l := l) (g := g) ok a_58 a_59 a_60 a_61 a_62 a_63 a_64 a_65 a_68 a_69 a_74 a_75 s_57_1 s_57_18 s_57_19 s_57_20 s_57_24 X t_items t_lines t_numbers t_parts t_sorts t_values hk46 n t_thrown t_ways v3 (v4 + (-1 : Int32)) v5 _ h
          exact hz
    · refine xe_neg hc1152 (xe_k ?_)
      obtain rfl := Option.some.inj h
      refine xe_seg ok 2 (G := (fun _ => some (.inl (some (.int ((-1 : Int32)))), xw_R X t_thrown s_57_1 s_57_18 s_57_19 s_57_20 s_57_24 a_58 a_59 a_60 a_61 a_62 a_63 a_64 a_65 t_lines t_numbers a_68 a_69 t_parts t_sorts t_values t_items a_74 a_75 t_ways))) (fun K => rfl) ?_
      exact xe_ret
set_option maxHeartbeats 400000 in
theorem xh_rf_from_57_27 {l : Launch} {g : xr_G} (ok : xr_OK xm_P) (a_58 a_59 a_60 a_61 a_62 a_63 a_64 a_65 a_68 a_69 a_74 a_75 : Nat → Int32) (s_57_1 s_57_18 s_57_19 s_57_20 s_57_24 : Int32) (X : Nat → xr_C) (t_items : (Nat → Int32)) (t_lines : (Nat → Int32)) (t_numbers : (Nat → Int32)) (t_parts : (Nat → Int32)) (t_sorts : (Nat → Int32)) (t_values : (Nat → Int32)) (n : Nat) : ∀ (t_thrown : Int32) (t_ways : (Nat → Int64)) (v2 : Int32) (v3 : Int32) (s1 : Int32) (r : (Int32 × Int32 × (Nat → Int64))), xf_rf_from_27 t_items t_lines t_numbers t_parts t_sorts t_values n t_thrown t_ways v2 v3 s1 = some r → xV xm_P l g (77, xm_i77, xm_I77, 0, 0, 27, [(0, .ref 59), (2, .int v2), (3, .int v3)], [.int s1, .ref 59], xw_R X t_thrown s_57_1 s_57_18 s_57_19 s_57_20 s_57_24 a_58 a_59 a_60 a_61 a_62 a_63 a_64 a_65 t_lines t_numbers a_68 a_69 t_parts t_sorts t_values t_items a_74 a_75 t_ways) (.inl (some (.int r.1)), xw_R X r.2.1 s_57_1 s_57_18 s_57_19 s_57_20 s_57_24 a_58 a_59 a_60 a_61 a_62 a_63 a_64 a_65 t_lines t_numbers a_68 a_69 t_parts t_sorts t_values t_items a_74 a_75 r.2.2) := by
  intro t_thrown t_ways v2 v3 s1 r h
  unfold xf_rf_from_27 at h
  refine xe_seg ok 2 (G := (fun K => xr_back K 77 xm_i77 xm_I77 0 0 28 [(0, .ref 59), (2, .int v2), (3, .int v3)] [] 78 true (K (32, xm_i32, xm_I32, 0, 0, 0, [(0, .ref 59), (1, .int s1), (2, .int ((1 : Int32)))], [], xw_R X t_thrown s_57_1 s_57_18 s_57_19 s_57_20 s_57_24 a_58 a_59 a_60 a_61 a_62 a_63 a_64 a_65 t_lines t_numbers a_68 a_69 t_parts t_sorts t_values t_items a_74 a_75 t_ways)))) (fun K => rfl) ?_
  obtain ⟨q1148, hq1148, h⟩ := Option.bind_eq_some_iff.mp h
  have heq1148 := xh_rf_fails_57 (l := l) (g := g) ok a_58 a_59 a_60 a_61 a_62 a_63 a_64 a_65 t_lines t_numbers a_68 a_69 t_parts t_sorts t_values t_items a_74 a_75 t_ways s_57_1 s_57_18 s_57_19 s_57_20 s_57_24 X t_thrown s1 ((1 : Int32)) _ hq1148
  refine xe_call1 (ws' := xw_R X q1148.2 s_57_1 s_57_18 s_57_19 s_57_20 s_57_24 a_58 a_59 a_60 a_61 a_62 a_63 a_64 a_65 t_lines t_numbers a_68 a_69 t_parts t_sorts t_values t_items a_74 a_75 t_ways) (by decide) heq1148 (Or.inl rfl) ?_
  refine xe_seg ok 1 (G := (fun K => if q1148.1 = (0 : Int32) then K (77, xm_i77, xm_I77, 0, 0, 36, [(0, .ref 59), (2, .int v2), (3, .int v3)], [], xw_R X q1148.2 s_57_1 s_57_18 s_57_19 s_57_20 s_57_24 a_58 a_59 a_60 a_61 a_62 a_63 a_64 a_65 t_lines t_numbers a_68 a_69 t_parts t_sorts t_values t_items a_74 a_75 t_ways) else K (77, xm_i77, xm_I77, 0, 0, 34, [(0, .ref 59), (2, .int v2), (3, .int v3)], [], xw_R X q1148.2 s_57_1 s_57_18 s_57_19 s_57_20 s_57_24 a_58 a_59 a_60 a_61 a_62 a_63 a_64 a_65 t_lines t_numbers a_68 a_69 t_parts t_sorts t_values t_items a_74 a_75 t_ways))) (fun K => rfl) ?_
  rcases xb_if h with ⟨hc1149, h⟩ | ⟨hc1149, h⟩
  · refine xe_pos hc1149 (xe_k ?_)
    refine xe_seg ok 2 (G := (fun K => xr_back K 77 xm_i77 xm_I77 0 0 37 [(0, .ref 59), (2, .int v2), (3, .int v3)] [] 78 true (K (68, xm_i68, xm_I68, 0, 0, 0, [(0, .ref 59)], [], xw_R X q1148.2 s_57_1 s_57_18 s_57_19 s_57_20 s_57_24 a_58 a_59 a_60 a_61 a_62 a_63 a_64 a_65 t_lines t_numbers a_68 a_69 t_parts t_sorts t_values t_items a_74 a_75 t_ways)))) (fun K => rfl) ?_
    obtain ⟨q1150, hq1150, h⟩ := Option.bind_eq_some_iff.mp h
    have heq1150 := xh_rf_findWays_57 (l := l) (g := g) ok a_58 a_59 a_60 a_61 a_62 a_63 a_64 a_65 a_68 a_69 a_74 a_75 q1148.2 s_57_1 s_57_18 s_57_19 s_57_20 s_57_24 X t_items t_lines t_numbers t_parts t_sorts t_values n t_ways _ hq1150
    refine xe_call0 (ws' := xw_R X q1148.2 s_57_1 s_57_18 s_57_19 s_57_20 s_57_24 a_58 a_59 a_60 a_61 a_62 a_63 a_64 a_65 t_lines t_numbers a_68 a_69 t_parts t_sorts t_values t_items a_74 a_75 q1150.2) (by decide) heq1150 (Or.inl rfl) ?_
    refine xe_seg ok 4 (G := (fun K => K (77, xm_i77, xm_I77, 0, 0, 46, [(0, .ref 59), (2, .int v2), (3, .int v3), (4, .int v2), (5, .int ((0 : Int32)))], [], xw_R X q1148.2 s_57_1 s_57_18 s_57_19 s_57_20 s_57_24 a_58 a_59 a_60 a_61 a_62 a_63 a_64 a_65 t_lines t_numbers a_68 a_69 t_parts t_sorts t_values t_items a_74 a_75 q1150.2))) (fun K => rfl) ?_
    refine xe_k ?_
    refine xe_sub [true, false, true, true, true] (lv' := [(0, .ref 59), (3, .int v3), (4, .int v2), (5, .int ((0 : Int32)))]) rfl ?_
    have hz := xh_rf_from_57_46 (l := l) (g := g) ok a_58 a_59 a_60 a_61 a_62 a_63 a_64 a_65 a_68 a_69 a_74 a_75 s_57_1 s_57_18 s_57_19 s_57_20 s_57_24 X t_items t_lines t_numbers t_parts t_sorts t_values n n q1148.2 q1150.2 v3 v2 ((0 : Int32)) _ h
    exact hz
  · refine xe_neg hc1149 (xe_k ?_)
    obtain rfl := Option.some.inj h
    refine xe_seg ok 2 (G := (fun _ => some (.inl (some (.int ((0 : Int32)))), xw_R X q1148.2 s_57_1 s_57_18 s_57_19 s_57_20 s_57_24 a_58 a_59 a_60 a_61 a_62 a_63 a_64 a_65 t_lines t_numbers a_68 a_69 t_parts t_sorts t_values t_items a_74 a_75 t_ways))) (fun K => rfl) ?_
    exact xe_ret
set_option maxHeartbeats 400000 in
theorem xh_rf_from_57_22 {l : Launch} {g : xr_G} (ok : xr_OK xm_P) (a_58 a_59 a_60 a_61 a_62 a_63 a_64 a_65 a_68 a_69 a_74 a_75 : Nat → Int32) (s_57_1 s_57_18 s_57_19 s_57_20 s_57_24 : Int32) (X : Nat → xr_C) (t_items : (Nat → Int32)) (t_lines : (Nat → Int32)) (t_numbers : (Nat → Int32)) (t_parts : (Nat → Int32)) (t_sorts : (Nat → Int32)) (t_values : (Nat → Int32)) (n : Nat) : ∀ (t_thrown : Int32) (t_ways : (Nat → Int64)) (v2 : Int32) (v3 : Int32) (r : (Int32 × Int32 × (Nat → Int64))), xf_rf_from_22 t_items t_lines t_numbers t_parts t_sorts t_values n t_thrown t_ways v2 v3 = some r → xV xm_P l g (77, xm_i77, xm_I77, 0, 0, 22, [(0, .ref 59), (2, .int v2), (3, .int v3)], [.ref 59], xw_R X t_thrown s_57_1 s_57_18 s_57_19 s_57_20 s_57_24 a_58 a_59 a_60 a_61 a_62 a_63 a_64 a_65 t_lines t_numbers a_68 a_69 t_parts t_sorts t_values t_items a_74 a_75 t_ways) (.inl (some (.int r.1)), xw_R X r.2.1 s_57_1 s_57_18 s_57_19 s_57_20 s_57_24 a_58 a_59 a_60 a_61 a_62 a_63 a_64 a_65 t_lines t_numbers a_68 a_69 t_parts t_sorts t_values t_items a_74 a_75 r.2.2) := by
  intro t_thrown t_ways v2 v3 r h
  unfold xf_rf_from_22 at h
  refine xe_seg ok 2 (G := (fun K => K (77, xm_i77, xm_I77, 0, 0, 27, [(0, .ref 59), (2, .int v2), (3, .int v3)], [.int ((1 : Int32)), .ref 59], xw_R X t_thrown s_57_1 s_57_18 s_57_19 s_57_20 s_57_24 a_58 a_59 a_60 a_61 a_62 a_63 a_64 a_65 t_lines t_numbers a_68 a_69 t_parts t_sorts t_values t_items a_74 a_75 t_ways))) (fun K => rfl) ?_
  refine xe_k ?_
  refine xe_sub [true, true, true] (lv' := [(0, .ref 59), (2, .int v2), (3, .int v3)]) rfl ?_
  have hz := xh_rf_from_57_27 (l := l) (g := g) ok a_58 a_59 a_60 a_61 a_62 a_63 a_64 a_65 a_68 a_69 a_74 a_75 s_57_1 s_57_18 s_57_19 s_57_20 s_57_24 X t_items t_lines t_numbers t_parts t_sorts t_values n t_thrown t_ways v2 v3 ((1 : Int32)) _ h
  exact hz
set_option maxHeartbeats 400000 in
theorem xh_rf_from_57 {l : Launch} {g : xr_G} (ok : xr_OK xm_P) (a_58 a_59 a_60 a_61 a_62 a_63 a_64 a_65 a_68 a_69 a_74 a_75 : Nat → Int32) (s_57_1 s_57_18 s_57_19 s_57_20 s_57_24 : Int32) (X : Nat → xr_C) (t_items : (Nat → Int32)) (t_lines : (Nat → Int32)) (t_numbers : (Nat → Int32)) (t_parts : (Nat → Int32)) (t_sorts : (Nat → Int32)) (t_values : (Nat → Int32)) (n : Nat) : ∀ (t_thrown : Int32) (t_ways : (Nat → Int64)) (a1 : Int32) (a2 : Int32) (r : (Int32 × Int32 × (Nat → Int64))), xf_rf_from t_items t_lines t_numbers t_parts t_sorts t_values n t_thrown t_ways a1 a2 = some r → xV xm_P l g (77, xm_i77, xm_I77, 0, 0, 0, [(0, .ref 59), (1, .int a1), (2, .int a2)], [], xw_R X t_thrown s_57_1 s_57_18 s_57_19 s_57_20 s_57_24 a_58 a_59 a_60 a_61 a_62 a_63 a_64 a_65 t_lines t_numbers a_68 a_69 t_parts t_sorts t_values t_items a_74 a_75 t_ways) (.inl (some (.int r.1)), xw_R X r.2.1 s_57_1 s_57_18 s_57_19 s_57_20 s_57_24 a_58 a_59 a_60 a_61 a_62 a_63 a_64 a_65 t_lines t_numbers a_68 a_69 t_parts t_sorts t_values t_items a_74 a_75 r.2.2) := by
  intro t_thrown t_ways a1 a2 r h
  unfold xf_rf_from at h
  refine xe_seg ok 7 (G := (fun K => xr_back K 77 xm_i77 xm_I77 0 0 8 [(0, .ref 59), (1, .int a1), (2, .int a2)] [] 78 true (K (50, xm_i50, xm_I50, 0, 0, 0, [(0, .ref 59), (1, .int ((0 : Int32))), (2, .int a1)], [], xw_R X ((0 : Int32)) s_57_1 s_57_18 s_57_19 s_57_20 s_57_24 a_58 a_59 a_60 a_61 a_62 a_63 a_64 a_65 t_lines t_numbers a_68 a_69 t_parts t_sorts t_values t_items a_74 a_75 t_ways)))) (fun K => rfl) ?_
  obtain ⟨q1146, hq1146, h⟩ := Option.bind_eq_some_iff.mp h
  have heq1146 := xh_rf_find_57 (l := l) (g := g) ok a_58 a_59 a_60 a_61 a_62 a_63 a_64 a_65 a_68 a_69 t_parts t_sorts t_values t_items a_74 a_75 t_ways ((0 : Int32)) s_57_1 s_57_18 s_57_19 s_57_20 s_57_24 X t_lines t_numbers n ((0 : Int32)) a1 _ hq1146
  refine xe_call1 (ws' := xw_R X ((0 : Int32)) s_57_1 s_57_18 s_57_19 s_57_20 s_57_24 a_58 a_59 a_60 a_61 a_62 a_63 a_64 a_65 t_lines t_numbers a_68 a_69 t_parts t_sorts t_values t_items a_74 a_75 t_ways) (by decide) heq1146 (Or.inl rfl) ?_
  refine xe_seg ok 5 (G := (fun K => if q1146 = ((-1 : Int32)) then K (77, xm_i77, xm_I77, 0, 0, 22, [(0, .ref 59), (1, .int a1), (2, .int a2), (3, .int q1146)], [.ref 59], xw_R X ((0 : Int32)) s_57_1 s_57_18 s_57_19 s_57_20 s_57_24 a_58 a_59 a_60 a_61 a_62 a_63 a_64 a_65 t_lines t_numbers a_68 a_69 t_parts t_sorts t_values t_items a_74 a_75 t_ways) else K (77, xm_i77, xm_I77, 0, 0, 18, [(0, .ref 59), (1, .int a1), (2, .int a2), (3, .int q1146)], [.ref 59], xw_R X ((0 : Int32)) s_57_1 s_57_18 s_57_19 s_57_20 s_57_24 a_58 a_59 a_60 a_61 a_62 a_63 a_64 a_65 t_lines t_numbers a_68 a_69 t_parts t_sorts t_values t_items a_74 a_75 t_ways))) (fun K => rfl) ?_
  rcases xb_if h with ⟨hc1147, h⟩ | ⟨hc1147, h⟩
  · refine xe_pos hc1147 (xe_k ?_)
    refine xe_sub [true, false, true, true] (lv' := [(0, .ref 59), (2, .int a2), (3, .int q1146)]) rfl ?_
    have hz := xh_rf_from_57_22 (l := l) (g := g) ok a_58 a_59 a_60 a_61 a_62 a_63 a_64 a_65 a_68 a_69 a_74 a_75 s_57_1 s_57_18 s_57_19 s_57_20 s_57_24 X t_items t_lines t_numbers t_parts t_sorts t_values n ((0 : Int32)) t_ways a2 q1146 _ h
    exact hz
  · refine xe_neg hc1147 (xe_k ?_)
    refine xe_seg ok 2 (G := (fun K => if a2 < (0 : Int32) then K (77, xm_i77, xm_I77, 0, 0, 22, [(0, .ref 59), (1, .int a1), (2, .int a2), (3, .int q1146)], [.ref 59], xw_R X ((0 : Int32)) s_57_1 s_57_18 s_57_19 s_57_20 s_57_24 a_58 a_59 a_60 a_61 a_62 a_63 a_64 a_65 t_lines t_numbers a_68 a_69 t_parts t_sorts t_values t_items a_74 a_75 t_ways) else K (77, xm_i77, xm_I77, 0, 0, 26, [(0, .ref 59), (1, .int a1), (2, .int a2), (3, .int q1146)], [.ref 59], xw_R X ((0 : Int32)) s_57_1 s_57_18 s_57_19 s_57_20 s_57_24 a_58 a_59 a_60 a_61 a_62 a_63 a_64 a_65 t_lines t_numbers a_68 a_69 t_parts t_sorts t_values t_items a_74 a_75 t_ways))) (fun K => rfl) ?_
    rcases xb_if h with ⟨hc1157, h⟩ | ⟨hc1157, h⟩
    · refine xe_pos hc1157 (xe_k ?_)
      refine xe_sub [true, false, true, true] (lv' := [(0, .ref 59), (2, .int a2), (3, .int q1146)]) rfl ?_
      have hz := xh_rf_from_57_22 (l := l) (g := g) ok a_58 a_59 a_60 a_61 a_62 a_63 a_64 a_65 a_68 a_69 a_74 a_75 s_57_1 s_57_18 s_57_19 s_57_20 s_57_24 X t_items t_lines t_numbers t_parts t_sorts t_values n ((0 : Int32)) t_ways a2 q1146 _ h
      exact hz
    · refine xe_neg hc1157 (xe_k ?_)
      refine xe_seg ok 1 (G := (fun K => K (77, xm_i77, xm_I77, 0, 0, 27, [(0, .ref 59), (1, .int a1), (2, .int a2), (3, .int q1146)], [.int ((0 : Int32)), .ref 59], xw_R X ((0 : Int32)) s_57_1 s_57_18 s_57_19 s_57_20 s_57_24 a_58 a_59 a_60 a_61 a_62 a_63 a_64 a_65 t_lines t_numbers a_68 a_69 t_parts t_sorts t_values t_items a_74 a_75 t_ways))) (fun K => rfl) ?_
      refine xe_k ?_
      refine xe_sub [true, false, true, true] (lv' := [(0, .ref 59), (2, .int a2), (3, .int q1146)]) rfl ?_
      have hz := xh_rf_from_57_27 (l := l) (g := g) ok a_58 a_59 a_60 a_61 a_62 a_63 a_64 a_65 a_68 a_69 a_74 a_75 s_57_1 s_57_18 s_57_19 s_57_20 s_57_24 X t_items t_lines t_numbers t_parts t_sorts t_values n ((0 : Int32)) t_ways a2 q1146 ((0 : Int32)) _ h
      exact hz
set_option maxHeartbeats 400000 in
theorem xh_rf_isOnRing_57_79 {l : Launch} {g : xr_G} (ok : xr_OK xm_P) (a_58 a_59 a_60 a_61 a_62 a_63 a_64 a_65 a_67 a_68 a_69 a_70 a_71 a_72 a_73 a_74 a_75 : Nat → Int32) (s_57_0 s_57_1 s_57_18 s_57_19 s_57_20 s_57_24 : Int32) (X : Nat → xr_C) (t_lines : (Nat → Int32)) (t_ways : (Nat → Int64)) (n : Nat) : ∀ (s0 : Int32) (r : (Int32)), xf_rf_isOnRing_79 t_lines t_ways n s0 = some r → xV xm_P l g (78, xm_i78, xm_I78, 0, 0, 79, [], [.int s0], xw_R X s_57_0 s_57_1 s_57_18 s_57_19 s_57_20 s_57_24 a_58 a_59 a_60 a_61 a_62 a_63 a_64 a_65 t_lines a_67 a_68 a_69 a_70 a_71 a_72 a_73 a_74 a_75 t_ways) (.inl (some (.int r)), xw_R X s_57_0 s_57_1 s_57_18 s_57_19 s_57_20 s_57_24 a_58 a_59 a_60 a_61 a_62 a_63 a_64 a_65 t_lines a_67 a_68 a_69 a_70 a_71 a_72 a_73 a_74 a_75 t_ways) := by
  intro s0 r h
  unfold xf_rf_isOnRing_79 at h
  refine xe_seg ok 1 (G := (fun _ => if fits .boolean (.int s0) = true then some (.inl (some (.int s0)), xw_R X s_57_0 s_57_1 s_57_18 s_57_19 s_57_20 s_57_24 a_58 a_59 a_60 a_61 a_62 a_63 a_64 a_65 t_lines a_67 a_68 a_69 a_70 a_71 a_72 a_73 a_74 a_75 t_ways) else none)) (fun K => rfl) ?_
  obtain ⟨hg1169, h⟩ := xn_if h
  obtain rfl := Option.some.inj h
  exact xe_pos (A := fun _ => some (.inl (some (.int s0)), xw_R X s_57_0 s_57_1 s_57_18 s_57_19 s_57_20 s_57_24 a_58 a_59 a_60 a_61 a_62 a_63 a_64 a_65 t_lines a_67 a_68 a_69 a_70 a_71 a_72 a_73 a_74 a_75 t_ways)) (B := fun _ => none) hg1169 xe_ret
set_option maxHeartbeats 400000 in
theorem xh_rf_isOnRing_57_55 {l : Launch} {g : xr_G} (ok : xr_OK xm_P) (a_58 a_59 a_60 a_61 a_62 a_63 a_64 a_65 a_67 a_68 a_69 a_70 a_71 a_72 a_73 a_74 a_75 : Nat → Int32) (s_57_0 s_57_1 s_57_18 s_57_19 s_57_20 s_57_24 : Int32) (X : Nat → xr_C) (t_lines : (Nat → Int32)) (t_ways : (Nat → Int64)) {k10 : Int32 → Int64 → Int64 → Option (Int32)} (hk10 : ∀ (v1 : Int32) (v2 : Int64) (v4 : Int64) (r : (Int32)), k10 v1 v2 v4 = some r → xV xm_P l g (78, xm_i78, xm_I78, 0, 0, 10, [(0, .ref 59), (1, .int v1), (2, .long v2), (4, .long v4)], [], xw_R X s_57_0 s_57_1 s_57_18 s_57_19 s_57_20 s_57_24 a_58 a_59 a_60 a_61 a_62 a_63 a_64 a_65 t_lines a_67 a_68 a_69 a_70 a_71 a_72 a_73 a_74 a_75 t_ways) (.inl (some (.int r)), xw_R X s_57_0 s_57_1 s_57_18 s_57_19 s_57_20 s_57_24 a_58 a_59 a_60 a_61 a_62 a_63 a_64 a_65 t_lines a_67 a_68 a_69 a_70 a_71 a_72 a_73 a_74 a_75 t_ways)) {k23 : Int32 → Int64 → Int64 → Int32 → Option (Int32)} (hk23 : ∀ (v1 : Int32) (v2 : Int64) (v4 : Int64) (v6 : Int32) (r : (Int32)), k23 v1 v2 v4 v6 = some r → xV xm_P l g (78, xm_i78, xm_I78, 0, 0, 23, [(0, .ref 59), (1, .int v1), (2, .long v2), (4, .long v4), (6, .int v6)], [], xw_R X s_57_0 s_57_1 s_57_18 s_57_19 s_57_20 s_57_24 a_58 a_59 a_60 a_61 a_62 a_63 a_64 a_65 t_lines a_67 a_68 a_69 a_70 a_71 a_72 a_73 a_74 a_75 t_ways) (.inl (some (.int r)), xw_R X s_57_0 s_57_1 s_57_18 s_57_19 s_57_20 s_57_24 a_58 a_59 a_60 a_61 a_62 a_63 a_64 a_65 t_lines a_67 a_68 a_69 a_70 a_71 a_72 a_73 a_74 a_75 t_ways)) (n : Nat) : ∀ (v1 : Int32) (v2 : Int64) (v4 : Int64) (v6 : Int32) (r : (Int32)), xf_rf_isOnRing_55 t_lines t_ways k10 k23 n v1 v2 v4 v6 = some r → xV xm_P l g (78, xm_i78, xm_I78, 0, 0, 55, [(0, .ref 59), (1, .int v1), (2, .long v2), (4, .long v4), (6, .int v6)], [], xw_R X s_57_0 s_57_1 s_57_18 s_57_19 s_57_20 s_57_24 a_58 a_59 a_60 a_61 a_62 a_63 a_64 a_65 t_lines a_67 a_68 a_69 a_70 a_71 a_72 a_73 a_74 a_75 t_ways) (.inl (some (.int r)), xw_R X s_57_0 s_57_1 s_57_18 s_57_19 s_57_20 s_57_24 a_58 a_59 a_60 a_61 a_62 a_63 a_64 a_65 t_lines a_67 a_68 a_69 a_70 a_71 a_72 a_73 a_74 a_75 t_ways) := by
  intro v1 v2 v4 v6 r h
  unfold xf_rf_isOnRing_55 at h
  refine xe_seg ok 2 (G := (fun K => K (78, xm_i78, xm_I78, 0, 0, 23, [(0, .ref 59), (1, .int v1), (2, .long v2), (4, .long v4), (6, .int (v6 + (1 : Int32)))], [], xw_R X s_57_0 s_57_1 s_57_18 s_57_19 s_57_20 s_57_24 a_58 a_59 a_60 a_61 a_62 a_63 a_64 a_65 t_lines a_67 a_68 a_69 a_70 a_71 a_72 a_73 a_74 a_75 t_ways))) (fun K => rfl) ?_
  refine xe_k ?_
  refine xe_sub [true, true, true, true, true] (lv' := [(0, .ref 59), (1, .int v1), (2, .long v2), (4, .long v4), (6, .int (v6 + (1 : Int32)))]) rfl ?_
  have hz := hk23 v1 v2 v4 (v6 + (1 : Int32)) _ h
  exact hz
set_option maxHeartbeats 400000 in
theorem xh_rf_isOnRing_57_23 {l : Launch} {g : xr_G} (ok : xr_OK xm_P) (a_58 a_59 a_60 a_61 a_62 a_63 a_64 a_65 a_67 a_68 a_69 a_70 a_71 a_72 a_73 a_74 a_75 : Nat → Int32) (s_57_0 s_57_1 s_57_18 s_57_19 s_57_20 s_57_24 : Int32) (X : Nat → xr_C) (t_lines : (Nat → Int32)) (t_ways : (Nat → Int64)) {k10 : Int32 → Int64 → Int64 → Option (Int32)} (hk10 : ∀ (v1 : Int32) (v2 : Int64) (v4 : Int64) (r : (Int32)), k10 v1 v2 v4 = some r → xV xm_P l g (78, xm_i78, xm_I78, 0, 0, 10, [(0, .ref 59), (1, .int v1), (2, .long v2), (4, .long v4)], [], xw_R X s_57_0 s_57_1 s_57_18 s_57_19 s_57_20 s_57_24 a_58 a_59 a_60 a_61 a_62 a_63 a_64 a_65 t_lines a_67 a_68 a_69 a_70 a_71 a_72 a_73 a_74 a_75 t_ways) (.inl (some (.int r)), xw_R X s_57_0 s_57_1 s_57_18 s_57_19 s_57_20 s_57_24 a_58 a_59 a_60 a_61 a_62 a_63 a_64 a_65 t_lines a_67 a_68 a_69 a_70 a_71 a_72 a_73 a_74 a_75 t_ways)) (n : Nat) : ∀ (N : Nat) (v1 : Int32) (v2 : Int64) (v4 : Int64) (v6 : Int32) (r : (Int32)), xf_rf_isOnRing_23 t_lines t_ways k10 n N v1 v2 v4 v6 = some r → xV xm_P l g (78, xm_i78, xm_I78, 0, 0, 23, [(0, .ref 59), (1, .int v1), (2, .long v2), (4, .long v4), (6, .int v6)], [], xw_R X s_57_0 s_57_1 s_57_18 s_57_19 s_57_20 s_57_24 a_58 a_59 a_60 a_61 a_62 a_63 a_64 a_65 t_lines a_67 a_68 a_69 a_70 a_71 a_72 a_73 a_74 a_75 t_ways) (.inl (some (.int r)), xw_R X s_57_0 s_57_1 s_57_18 s_57_19 s_57_20 s_57_24 a_58 a_59 a_60 a_61 a_62 a_63 a_64 a_65 t_lines a_67 a_68 a_69 a_70 a_71 a_72 a_73 a_74 a_75 t_ways) := by
  intro N
  induction N with
  | zero => intro v1 v2 v4 v6 r h; cases h
  | succ N hk23 =>
    intro v1 v2 v4 v6 r h
    refine xe_seg ok 5 (G := (fun K => if xr_in ((0 : Int32)) 3 = true then K (78, xm_i78, xm_I78, 0, 0, 31, [(0, .ref 59), (1, .int v1), (2, .long v2), (4, .long v4), (6, .int v6)], [.int (t_lines ((0 : Int32)).toNatClampNeg), .int v6], xw_R X s_57_0 s_57_1 s_57_18 s_57_19 s_57_20 s_57_24 a_58 a_59 a_60 a_61 a_62 a_63 a_64 a_65 t_lines a_67 a_68 a_69 a_70 a_71 a_72 a_73 a_74 a_75 t_ways) else none)) (fun K => rfl) ?_
    obtain ⟨hg1170, h⟩ := xn_if h
    refine xe_pos hg1170 (xe_k ?_)
    refine xe_seg ok 1 (G := (fun K => if v6 < (t_lines ((0 : Int32)).toNatClampNeg) then K (78, xm_i78, xm_I78, 0, 0, 34, [(0, .ref 59), (1, .int v1), (2, .long v2), (4, .long v4), (6, .int v6)], [], xw_R X s_57_0 s_57_1 s_57_18 s_57_19 s_57_20 s_57_24 a_58 a_59 a_60 a_61 a_62 a_63 a_64 a_65 t_lines a_67 a_68 a_69 a_70 a_71 a_72 a_73 a_74 a_75 t_ways) else K (78, xm_i78, xm_I78, 0, 0, 61, [(0, .ref 59), (1, .int v1), (2, .long v2), (4, .long v4), (6, .int v6)], [], xw_R X s_57_0 s_57_1 s_57_18 s_57_19 s_57_20 s_57_24 a_58 a_59 a_60 a_61 a_62 a_63 a_64 a_65 t_lines a_67 a_68 a_69 a_70 a_71 a_72 a_73 a_74 a_75 t_ways))) (fun K => rfl) ?_
    rcases xb_if h with ⟨hc1171, h⟩ | ⟨hc1171, h⟩
    · refine xe_pos hc1171 (xe_k ?_)
      refine xe_seg ok 8 (G := (fun K => if (lg_cmp ((xe_shr v2 v6) &&& ((1 : Int64))) ((1 : Int64))) = (0 : Int32) then K (78, xm_i78, xm_I78, 0, 0, 45, [(0, .ref 59), (1, .int v1), (2, .long v2), (4, .long v4), (6, .int v6)], [], xw_R X s_57_0 s_57_1 s_57_18 s_57_19 s_57_20 s_57_24 a_58 a_59 a_60 a_61 a_62 a_63 a_64 a_65 t_lines a_67 a_68 a_69 a_70 a_71 a_72 a_73 a_74 a_75 t_ways) else K (78, xm_i78, xm_I78, 0, 0, 55, [(0, .ref 59), (1, .int v1), (2, .long v2), (4, .long v4), (6, .int v6)], [], xw_R X s_57_0 s_57_1 s_57_18 s_57_19 s_57_20 s_57_24 a_58 a_59 a_60 a_61 a_62 a_63 a_64 a_65 t_lines a_67 a_68 a_69 a_70 a_71 a_72 a_73 a_74 a_75 t_ways))) (fun K => rfl) ?_
      rcases xb_if h with ⟨hc1172, h⟩ | ⟨hc1172, h⟩
      · refine xe_pos hc1172 (xe_k ?_)
        refine xe_seg ok 5 (G := (fun K => if xr_in v6 40 = true then K (78, xm_i78, xm_I78, 0, 0, 53, [(0, .ref 59), (1, .int v1), (2, .long v2), (4, .long v4), (6, .int v6)], [.long (t_ways v6.toNatClampNeg), .long v2], xw_R X s_57_0 s_57_1 s_57_18 s_57_19 s_57_20 s_57_24 a_58 a_59 a_60 a_61 a_62 a_63 a_64 a_65 t_lines a_67 a_68 a_69 a_70 a_71 a_72 a_73 a_74 a_75 t_ways) else none)) (fun K => rfl) ?_
        obtain ⟨hg1173, h⟩ := xn_if h
        refine xe_pos hg1173 (xe_k ?_)
        refine xe_seg ok 2 (G := (fun K => K (78, xm_i78, xm_I78, 0, 0, 55, [(0, .ref 59), (1, .int v1), (2, .long (v2 ||| (t_ways v6.toNatClampNeg))), (4, .long v4), (6, .int v6)], [], xw_R X s_57_0 s_57_1 s_57_18 s_57_19 s_57_20 s_57_24 a_58 a_59 a_60 a_61 a_62 a_63 a_64 a_65 t_lines a_67 a_68 a_69 a_70 a_71 a_72 a_73 a_74 a_75 t_ways))) (fun K => rfl) ?_
        refine xe_k ?_
        refine xe_sub [true, true, true, true, true] (lv' := [(0, .ref 59), (1, .int v1), (2, .long (v2 ||| (t_ways v6.toNatClampNeg))), (4, .long v4), (6, .int v6)]) rfl ?_
        have hz := xh_rf_isOnRing_57_55 (l := l) (g := g) ok a_58 a_59 a_60 a_61 a_62 a_63 a_64 a_65 a_67 a_68 a_69 a_70 a_71 a_72 a_73 a_74 a_75 s_57_0 s_57_1 s_57_18 s_57_19 s_57_20 s_57_24 X t_lines t_ways hk10 hk23 n v1 (v2 ||| (t_ways v6.toNatClampNeg)) v4 v6 _ h
        exact hz
      · refine xe_neg hc1172 (xe_k ?_)
        refine xe_sub [true, true, true, true, true] (lv' := [(0, .ref 59), (1, .int v1), (2, .long v2), (4, .long v4), (6, .int v6)]) rfl ?_
        have hz := xh_rf_isOnRing_57_55 (l := l) (g := g) ok a_58 a_59 a_60 a_61 a_62 a_63 a_64 a_65 a_67 a_68 a_69 a_70 a_71 a_72 a_73 a_74 a_75 s_57_0 s_57_1 s_57_18 s_57_19 s_57_20 s_57_24 X t_lines t_ways hk10 hk23 n v1 v2 v4 v6 _ h
        exact hz
    · refine xe_neg hc1171 (xe_k ?_)
      refine xe_seg ok 1 (G := (fun K => K (78, xm_i78, xm_I78, 0, 0, 10, [(0, .ref 59), (1, .int v1), (2, .long v2), (4, .long v4), (6, .int v6)], [], xw_R X s_57_0 s_57_1 s_57_18 s_57_19 s_57_20 s_57_24 a_58 a_59 a_60 a_61 a_62 a_63 a_64 a_65 t_lines a_67 a_68 a_69 a_70 a_71 a_72 a_73 a_74 a_75 t_ways))) (fun K => rfl) ?_
      refine xe_k ?_
      refine xe_sub [true, true, true, true, false] (lv' := [(0, .ref 59), (1, .int v1), (2, .long v2), (4, .long v4)]) rfl ?_
      have hz := hk10 v1 v2 v4 _ h
      exact hz
set_option maxHeartbeats 400000 in
theorem xh_rf_isOnRing_57_10 {l : Launch} {g : xr_G} (ok : xr_OK xm_P) (a_58 a_59 a_60 a_61 a_62 a_63 a_64 a_65 a_67 a_68 a_69 a_70 a_71 a_72 a_73 a_74 a_75 : Nat → Int32) (s_57_0 s_57_1 s_57_18 s_57_19 s_57_20 s_57_24 : Int32) (X : Nat → xr_C) (t_lines : (Nat → Int32)) (t_ways : (Nat → Int64)) (n : Nat) : ∀ (N : Nat) (v1 : Int32) (v2 : Int64) (v4 : Int64) (r : (Int32)), xf_rf_isOnRing_10 t_lines t_ways n N v1 v2 v4 = some r → xV xm_P l g (78, xm_i78, xm_I78, 0, 0, 10, [(0, .ref 59), (1, .int v1), (2, .long v2), (4, .long v4)], [], xw_R X s_57_0 s_57_1 s_57_18 s_57_19 s_57_20 s_57_24 a_58 a_59 a_60 a_61 a_62 a_63 a_64 a_65 t_lines a_67 a_68 a_69 a_70 a_71 a_72 a_73 a_74 a_75 t_ways) (.inl (some (.int r)), xw_R X s_57_0 s_57_1 s_57_18 s_57_19 s_57_20 s_57_24 a_58 a_59 a_60 a_61 a_62 a_63 a_64 a_65 t_lines a_67 a_68 a_69 a_70 a_71 a_72 a_73 a_74 a_75 t_ways) := by
  intro N
  induction N with
  | zero => intro v1 v2 v4 r h; cases h
  | succ N hk10 =>
    intro v1 v2 v4 r h
    refine xe_seg ok 4 (G := (fun K => if (lg_cmp v2 v4) = (0 : Int32) then K (78, xm_i78, xm_I78, 0, 0, 64, [(0, .ref 59), (1, .int v1), (2, .long v2), (4, .long v4)], [], xw_R X s_57_0 s_57_1 s_57_18 s_57_19 s_57_20 s_57_24 a_58 a_59 a_60 a_61 a_62 a_63 a_64 a_65 t_lines a_67 a_68 a_69 a_70 a_71 a_72 a_73 a_74 a_75 t_ways) else K (78, xm_i78, xm_I78, 0, 0, 17, [(0, .ref 59), (1, .int v1), (2, .long v2), (4, .long v4)], [], xw_R X s_57_0 s_57_1 s_57_18 s_57_19 s_57_20 s_57_24 a_58 a_59 a_60 a_61 a_62 a_63 a_64 a_65 t_lines a_67 a_68 a_69 a_70 a_71 a_72 a_73 a_74 a_75 t_ways))) (fun K => rfl) ?_
    rcases xb_if h with ⟨hc1167, h⟩ | ⟨hc1167, h⟩
    · refine xe_pos hc1167 (xe_k ?_)
      refine xe_seg ok 8 (G := (fun K => if (lg_cmp ((xe_shr v2 v1) &&& ((1 : Int64))) ((1 : Int64))) = (0 : Int32) then K (78, xm_i78, xm_I78, 0, 0, 74, [(0, .ref 59), (1, .int v1), (2, .long v2), (4, .long v4)], [], xw_R X s_57_0 s_57_1 s_57_18 s_57_19 s_57_20 s_57_24 a_58 a_59 a_60 a_61 a_62 a_63 a_64 a_65 t_lines a_67 a_68 a_69 a_70 a_71 a_72 a_73 a_74 a_75 t_ways) else K (78, xm_i78, xm_I78, 0, 0, 78, [(0, .ref 59), (1, .int v1), (2, .long v2), (4, .long v4)], [], xw_R X s_57_0 s_57_1 s_57_18 s_57_19 s_57_20 s_57_24 a_58 a_59 a_60 a_61 a_62 a_63 a_64 a_65 t_lines a_67 a_68 a_69 a_70 a_71 a_72 a_73 a_74 a_75 t_ways))) (fun K => rfl) ?_
      rcases xb_if h with ⟨hc1168, h⟩ | ⟨hc1168, h⟩
      · refine xe_pos hc1168 (xe_k ?_)
        refine xe_seg ok 2 (G := (fun K => K (78, xm_i78, xm_I78, 0, 0, 79, [(0, .ref 59), (1, .int v1), (2, .long v2), (4, .long v4)], [.int ((1 : Int32))], xw_R X s_57_0 s_57_1 s_57_18 s_57_19 s_57_20 s_57_24 a_58 a_59 a_60 a_61 a_62 a_63 a_64 a_65 t_lines a_67 a_68 a_69 a_70 a_71 a_72 a_73 a_74 a_75 t_ways))) (fun K => rfl) ?_
        refine xe_k ?_
        refine xe_sub [false, false, false, false] (lv' := []) rfl ?_
        have hz := xh_rf_isOnRing_57_79 (l := l) (g := g) ok a_58 a_59 a_60 a_61 a_62 a_63 a_64 a_65 a_67 a_68 a_69 a_70 a_71 a_72 a_73 a_74 a_75 s_57_0 s_57_1 s_57_18 s_57_19 s_57_20 s_57_24 X t_lines t_ways n ((1 : Int32)) _ h
        exact hz
      · refine xe_neg hc1168 (xe_k ?_)
        refine xe_seg ok 1 (G := (fun K => K (78, xm_i78, xm_I78, 0, 0, 79, [(0, .ref 59), (1, .int v1), (2, .long v2), (4, .long v4)], [.int ((0 : Int32))], xw_R X s_57_0 s_57_1 s_57_18 s_57_19 s_57_20 s_57_24 a_58 a_59 a_60 a_61 a_62 a_63 a_64 a_65 t_lines a_67 a_68 a_69 a_70 a_71 a_72 a_73 a_74 a_75 t_ways))) (fun K => rfl) ?_
        refine xe_k ?_
        refine xe_sub [false, false, false, false] (lv' := []) rfl ?_
        have hz := xh_rf_isOnRing_57_79 (l := l) (g := g) ok a_58 a_59 a_60 a_61 a_62 a_63 a_64 a_65 a_67 a_68 a_69 a_70 a_71 a_72 a_73 a_74 a_75 s_57_0 s_57_1 s_57_18 s_57_19 s_57_20 s_57_24 X t_lines t_ways n ((0 : Int32)) _ h
        exact hz
    · refine xe_neg hc1167 (xe_k ?_)
      refine xe_seg ok 4 (G := (fun K => K (78, xm_i78, xm_I78, 0, 0, 23, [(0, .ref 59), (1, .int v1), (2, .long v2), (4, .long v2), (6, .int ((0 : Int32)))], [], xw_R X s_57_0 s_57_1 s_57_18 s_57_19 s_57_20 s_57_24 a_58 a_59 a_60 a_61 a_62 a_63 a_64 a_65 t_lines a_67 a_68 a_69 a_70 a_71 a_72 a_73 a_74 a_75 t_ways))) (fun K => rfl) ?_
      refine xe_k ?_
      refine xe_sub [true, true, true, true, true] (lv' := [(0, .ref 59), (1, .int v1), (2, .long v2), (4, .long v2), (6, .int ((0 : Int32)))]) rfl ?_
      have hz := xh_rf_isOnRing_57_23 (l := l) (g := g) ok a_58 a_59 a_60 a_61 a_62 a_63 a_64 a_65 a_67 a_68 a_69 a_70 a_71 a_72 a_73 a_74 a_75 s_57_0 s_57_1 s_57_18 s_57_19 s_57_20 s_57_24 X t_lines t_ways hk10 n n v1 v2 v2 ((0 : Int32)) _ h
      exact hz
set_option maxHeartbeats 400000 in
theorem xh_rf_isOnRing_57 {l : Launch} {g : xr_G} (ok : xr_OK xm_P) (a_58 a_59 a_60 a_61 a_62 a_63 a_64 a_65 a_67 a_68 a_69 a_70 a_71 a_72 a_73 a_74 a_75 : Nat → Int32) (s_57_0 s_57_1 s_57_18 s_57_19 s_57_20 s_57_24 : Int32) (X : Nat → xr_C) (t_lines : (Nat → Int32)) (t_ways : (Nat → Int64)) (n : Nat) : ∀ (a1 : Int32) (r : (Int32)), xf_rf_isOnRing t_lines t_ways n a1 = some r → xV xm_P l g (78, xm_i78, xm_I78, 0, 0, 0, [(0, .ref 59), (1, .int a1)], [], xw_R X s_57_0 s_57_1 s_57_18 s_57_19 s_57_20 s_57_24 a_58 a_59 a_60 a_61 a_62 a_63 a_64 a_65 t_lines a_67 a_68 a_69 a_70 a_71 a_72 a_73 a_74 a_75 t_ways) (.inl (some (.int r)), xw_R X s_57_0 s_57_1 s_57_18 s_57_19 s_57_20 s_57_24 a_58 a_59 a_60 a_61 a_62 a_63 a_64 a_65 t_lines a_67 a_68 a_69 a_70 a_71 a_72 a_73 a_74 a_75 t_ways) := by
  intro a1 r h
  unfold xf_rf_isOnRing at h
  refine xe_seg ok 4 (G := (fun K => if xr_in a1 40 = true then K (78, xm_i78, xm_I78, 0, 0, 6, [(0, .ref 59), (1, .int a1)], [.long (t_ways a1.toNatClampNeg)], xw_R X s_57_0 s_57_1 s_57_18 s_57_19 s_57_20 s_57_24 a_58 a_59 a_60 a_61 a_62 a_63 a_64 a_65 t_lines a_67 a_68 a_69 a_70 a_71 a_72 a_73 a_74 a_75 t_ways) else none)) (fun K => rfl) ?_
  obtain ⟨hg1166, h⟩ := xn_if h
  refine xe_pos hg1166 (xe_k ?_)
  refine xe_seg ok 3 (G := (fun K => K (78, xm_i78, xm_I78, 0, 0, 10, [(0, .ref 59), (1, .int a1), (2, .long (t_ways a1.toNatClampNeg)), (4, .long ((0 : Int64)))], [], xw_R X s_57_0 s_57_1 s_57_18 s_57_19 s_57_20 s_57_24 a_58 a_59 a_60 a_61 a_62 a_63 a_64 a_65 t_lines a_67 a_68 a_69 a_70 a_71 a_72 a_73 a_74 a_75 t_ways))) (fun K => rfl) ?_
  refine xe_k ?_
  refine xe_sub [true, true, true, true] (lv' := [(0, .ref 59), (1, .int a1), (2, .long (t_ways a1.toNatClampNeg)), (4, .long ((0 : Int64)))]) rfl ?_
  have hz := xh_rf_isOnRing_57_10 (l := l) (g := g) ok a_58 a_59 a_60 a_61 a_62 a_63 a_64 a_65 a_67 a_68 a_69 a_70 a_71 a_72 a_73 a_74 a_75 s_57_0 s_57_1 s_57_18 s_57_19 s_57_20 s_57_24 X t_lines t_ways n n a1 (t_ways a1.toNatClampNeg) ((0 : Int64)) _ h
  exact hz
set_option maxHeartbeats 400000 in
theorem xh_rf_ring_57_77 {l : Launch} {g : xr_G} (ok : xr_OK xm_P) (a_58 a_59 a_60 a_61 a_62 a_63 a_64 a_65 a_68 a_69 a_75 : Nat → Int32) (s_57_1 s_57_18 s_57_19 s_57_20 s_57_24 : Int32) (X : Nat → xr_C) (t_items : (Nat → Int32)) (t_lines : (Nat → Int32)) (t_numbers : (Nat → Int32)) (t_parts : (Nat → Int32)) (t_sorts : (Nat → Int32)) (t_values : (Nat → Int32)) {k32 : (Nat → Int32) → Int32 → (Nat → Int64) → Int32 → Int32 → Option (Int32 × (Nat → Int32) × Int32 × (Nat → Int64))} (hk32 : ∀ (t_depths : (Nat → Int32)) (t_thrown : Int32) (t_ways : (Nat → Int64)) (v2 : Int32) (v3 : Int32) (r : (Int32 × (Nat → Int32) × Int32 × (Nat → Int64))), k32 t_depths t_thrown t_ways v2 v3 = some r → xV xm_P l g (79, xm_i79, xm_I79, 0, 0, 32, [(0, .ref 59), (2, .int v2), (3, .int v3)], [], xw_R X t_thrown s_57_1 s_57_18 s_57_19 s_57_20 s_57_24 a_58 a_59 a_60 a_61 a_62 a_63 a_64 a_65 t_lines t_numbers a_68 a_69 t_parts t_sorts t_values t_items t_depths a_75 t_ways) (.inl (some (.int r.1)), xw_R X r.2.2.1 s_57_1 s_57_18 s_57_19 s_57_20 s_57_24 a_58 a_59 a_60 a_61 a_62 a_63 a_64 a_65 t_lines t_numbers a_68 a_69 t_parts t_sorts t_values t_items r.2.1 a_75 r.2.2.2)) (n : Nat) : ∀ (t_depths : (Nat → Int32)) (t_thrown : Int32) (t_ways : (Nat → Int64)) (v2 : Int32) (v3 : Int32) (r : (Int32 × (Nat → Int32) × Int32 × (Nat → Int64))), xf_rf_ring_77 t_items t_lines t_numbers t_parts t_sorts t_values k32 n t_depths t_thrown t_ways v2 v3 = some r → xV xm_P l g (79, xm_i79, xm_I79, 0, 0, 77, [(0, .ref 59), (2, .int v2), (3, .int v3)], [], xw_R X t_thrown s_57_1 s_57_18 s_57_19 s_57_20 s_57_24 a_58 a_59 a_60 a_61 a_62 a_63 a_64 a_65 t_lines t_numbers a_68 a_69 t_parts t_sorts t_values t_items t_depths a_75 t_ways) (.inl (some (.int r.1)), xw_R X r.2.2.1 s_57_1 s_57_18 s_57_19 s_57_20 s_57_24 a_58 a_59 a_60 a_61 a_62 a_63 a_64 a_65 t_lines t_numbers a_68 a_69 t_parts t_sorts t_values t_items r.2.1 a_75 r.2.2.2) := by
  intro t_depths t_thrown t_ways v2 v3 r h
  unfold xf_rf_ring_77 at h
  refine xe_seg ok 2 (G := (fun K => K (79, xm_i79, xm_I79, 0, 0, 32, [(0, .ref 59), (2, .int v2), (3, .int (v3 + (1 : Int32)))], [], xw_R X t_thrown s_57_1 s_57_18 s_57_19 s_57_20 s_57_24 a_58 a_59 a_60 a_61 a_62 a_63 a_64 a_65 t_lines t_numbers a_68 a_69 t_parts t_sorts t_values t_items t_depths a_75 t_ways))) (fun K => rfl) ?_
  refine xe_k ?_
  refine xe_sub [true, true, true] (lv' := [(0, .ref 59), (2, .int v2), (3, .int (v3 + (1 : Int32)))]) rfl ?_
  have hz := hk32 t_depths t_thrown t_ways v2 (v3 + (1 : Int32)) _ h
  exact hz
set_option maxHeartbeats 400000 in
theorem xh_rf_ring_57_32 {l : Launch} {g : xr_G} (ok : xr_OK xm_P) (a_58 a_59 a_60 a_61 a_62 a_63 a_64 a_65 a_68 a_69 a_75 : Nat → Int32) (s_57_1 s_57_18 s_57_19 s_57_20 s_57_24 : Int32) (X : Nat → xr_C) (t_items : (Nat → Int32)) (t_lines : (Nat → Int32)) (t_numbers : (Nat → Int32)) (t_parts : (Nat → Int32)) (t_sorts : (Nat → Int32)) (t_values : (Nat → Int32)) (n : Nat) : ∀ (N : Nat) (t_depths : (Nat → Int32)) (t_thrown : Int32) (t_ways : (Nat → Int64)) (v2 : Int32) (v3 : Int32) (r : (Int32 × (Nat → Int32) × Int32 × (Nat → Int64))), xf_rf_ring_32 t_items t_lines t_numbers t_parts t_sorts t_values n N t_depths t_thrown t_ways v2 v3 = some r → xV xm_P l g (79, xm_i79, xm_I79, 0, 0, 32, [(0, .ref 59), (2, .int v2), (3, .int v3)], [], xw_R X t_thrown s_57_1 s_57_18 s_57_19 s_57_20 s_57_24 a_58 a_59 a_60 a_61 a_62 a_63 a_64 a_65 t_lines t_numbers a_68 a_69 t_parts t_sorts t_values t_items t_depths a_75 t_ways) (.inl (some (.int r.1)), xw_R X r.2.2.1 s_57_1 s_57_18 s_57_19 s_57_20 s_57_24 a_58 a_59 a_60 a_61 a_62 a_63 a_64 a_65 t_lines t_numbers a_68 a_69 t_parts t_sorts t_values t_items r.2.1 a_75 r.2.2.2) := by
  intro N
  induction N with
  | zero => intro t_depths t_thrown t_ways v2 v3 r h; cases h
  | succ N hk32 =>
    intro t_depths t_thrown t_ways v2 v3 r h
    refine xe_seg ok 5 (G := (fun K => if xr_in ((0 : Int32)) 3 = true then K (79, xm_i79, xm_I79, 0, 0, 39, [(0, .ref 59), (2, .int v2), (3, .int v3)], [.int (t_lines ((0 : Int32)).toNatClampNeg), .int v3], xw_R X t_thrown s_57_1 s_57_18 s_57_19 s_57_20 s_57_24 a_58 a_59 a_60 a_61 a_62 a_63 a_64 a_65 t_lines t_numbers a_68 a_69 t_parts t_sorts t_values t_items t_depths a_75 t_ways) else none)) (fun K => rfl) ?_
    obtain ⟨hg1162, h⟩ := xn_if h
    refine xe_pos hg1162 (xe_k ?_)
    refine xe_seg ok 1 (G := (fun K => if v3 < (t_lines ((0 : Int32)).toNatClampNeg) then K (79, xm_i79, xm_I79, 0, 0, 42, [(0, .ref 59), (2, .int v2), (3, .int v3)], [], xw_R X t_thrown s_57_1 s_57_18 s_57_19 s_57_20 s_57_24 a_58 a_59 a_60 a_61 a_62 a_63 a_64 a_65 t_lines t_numbers a_68 a_69 t_parts t_sorts t_values t_items t_depths a_75 t_ways) else K (79, xm_i79, xm_I79, 0, 0, 83, [(0, .ref 59), (2, .int v2), (3, .int v3)], [], xw_R X t_thrown s_57_1 s_57_18 s_57_19 s_57_20 s_57_24 a_58 a_59 a_60 a_61 a_62 a_63 a_64 a_65 t_lines t_numbers a_68 a_69 t_parts t_sorts t_values t_items t_depths a_75 t_ways))) (fun K => rfl) ?_
    rcases xb_if h with ⟨hc1163, h⟩ | ⟨hc1163, h⟩
    · refine xe_pos hc1163 (xe_k ?_)
      refine xe_seg ok 4 (G := (fun K => if xr_in v3 40 = true then K (79, xm_i79, xm_I79, 0, 0, 48, [(0, .ref 59), (2, .int v2), (3, .int v3)], [.int (t_depths v3.toNatClampNeg)], xw_R X t_thrown s_57_1 s_57_18 s_57_19 s_57_20 s_57_24 a_58 a_59 a_60 a_61 a_62 a_63 a_64 a_65 t_lines t_numbers a_68 a_69 t_parts t_sorts t_values t_items t_depths a_75 t_ways) else none)) (fun K => rfl) ?_
      obtain ⟨hg1164, h⟩ := xn_if h
      refine xe_pos hg1164 (xe_k ?_)
      refine xe_seg ok 2 (G := (fun K => if (t_depths v3.toNatClampNeg) = ((-1 : Int32)) then K (79, xm_i79, xm_I79, 0, 0, 52, [(0, .ref 59), (2, .int v2), (3, .int v3)], [], xw_R X t_thrown s_57_1 s_57_18 s_57_19 s_57_20 s_57_24 a_58 a_59 a_60 a_61 a_62 a_63 a_64 a_65 t_lines t_numbers a_68 a_69 t_parts t_sorts t_values t_items t_depths a_75 t_ways) else K (79, xm_i79, xm_I79, 0, 0, 77, [(0, .ref 59), (2, .int v2), (3, .int v3)], [], xw_R X t_thrown s_57_1 s_57_18 s_57_19 s_57_20 s_57_24 a_58 a_59 a_60 a_61 a_62 a_63 a_64 a_65 t_lines t_numbers a_68 a_69 t_parts t_sorts t_values t_items t_depths a_75 t_ways))) (fun K => rfl) ?_
      rcases xb_if h with ⟨hc1165, h⟩ | ⟨hc1165, h⟩
      · refine xe_pos hc1165 (xe_k ?_)
        refine xe_seg ok 3 (G := (fun K => xr_back K 79 xm_i79 xm_I79 0 0 54 [(0, .ref 59), (2, .int v2), (3, .int v3)] [] 78 true (K (78, xm_i78, xm_I78, 0, 0, 0, [(0, .ref 59), (1, .int v3)], [], xw_R X t_thrown s_57_1 s_57_18 s_57_19 s_57_20 s_57_24 a_58 a_59 a_60 a_61 a_62 a_63 a_64 a_65 t_lines t_numbers a_68 a_69 t_parts t_sorts t_values t_items t_depths a_75 t_ways)))) (fun K => rfl) ?_
        obtain ⟨q1174, hq1174, h⟩ := Option.bind_eq_some_iff.mp h
        have heq1174 := xh_rf_isOnRing_57 (l := l) (g := g) ok a_58 a_59 a_60 a_61 a_62 a_63 a_64 a_65 t_numbers a_68 a_69 t_parts t_sorts t_values t_items t_depths a_75 t_thrown s_57_1 s_57_18 s_57_19 s_57_20 s_57_24 X t_lines t_ways n v3 _ hq1174
        refine xe_call1 (ws' := xw_R X t_thrown s_57_1 s_57_18 s_57_19 s_57_20 s_57_24 a_58 a_59 a_60 a_61 a_62 a_63 a_64 a_65 t_lines t_numbers a_68 a_69 t_parts t_sorts t_values t_items t_depths a_75 t_ways) (by decide) heq1174 (Or.inl rfl) ?_
        refine xe_seg ok 1 (G := (fun K => if q1174 = (0 : Int32) then K (79, xm_i79, xm_I79, 0, 0, 60, [(0, .ref 59), (2, .int v2), (3, .int v3)], [], xw_R X t_thrown s_57_1 s_57_18 s_57_19 s_57_20 s_57_24 a_58 a_59 a_60 a_61 a_62 a_63 a_64 a_65 t_lines t_numbers a_68 a_69 t_parts t_sorts t_values t_items t_depths a_75 t_ways) else K (79, xm_i79, xm_I79, 0, 0, 63, [(0, .ref 59), (2, .int v2), (3, .int v3)], [], xw_R X t_thrown s_57_1 s_57_18 s_57_19 s_57_20 s_57_24 a_58 a_59 a_60 a_61 a_62 a_63 a_64 a_65 t_lines t_numbers a_68 a_69 t_parts t_sorts t_values t_items t_depths a_75 t_ways))) (fun K => rfl) ?_
        rcases xb_if h with ⟨hc1175, h⟩ | ⟨hc1175, h⟩
        · refine xe_pos hc1175 (xe_k ?_)
          refine xe_seg ok 1 (G := (fun K => K (79, xm_i79, xm_I79, 0, 0, 77, [(0, .ref 59), (2, .int v2), (3, .int v3)], [], xw_R X t_thrown s_57_1 s_57_18 s_57_19 s_57_20 s_57_24 a_58 a_59 a_60 a_61 a_62 a_63 a_64 a_65 t_lines t_numbers a_68 a_69 t_parts t_sorts t_values t_items t_depths a_75 t_ways))) (fun K => rfl) ?_
          refine xe_k ?_
          refine xe_sub [true, true, true] (lv' := [(0, .ref 59), (2, .int v2), (3, .int v3)]) rfl ?_
          have hz := xh_rf_ring_57_77 (l := l) (g := g) ok a_58 a_59 a_60 a_61 a_62 a_63 a_64 a_65 a_68 a_69 a_75 s_57_1 s_57_18 s_57_19 s_57_20 s_57_24 X t_items t_lines t_numbers t_parts t_sorts t_values hk32 n t_depths t_thrown t_ways v2 v3 _ h
          exact hz
        · refine xe_neg hc1175 (xe_k ?_)
          refine xe_seg ok 2 (G := (fun K => if v2 = (0 : Int32) then K (79, xm_i79, xm_I79, 0, 0, 67, [(0, .ref 59), (2, .int v2), (3, .int v3)], [], xw_R X t_thrown s_57_1 s_57_18 s_57_19 s_57_20 s_57_24 a_58 a_59 a_60 a_61 a_62 a_63 a_64 a_65 t_lines t_numbers a_68 a_69 t_parts t_sorts t_values t_items t_depths a_75 t_ways) else K (79, xm_i79, xm_I79, 0, 0, 74, [(0, .ref 59), (2, .int v2), (3, .int v3)], [], xw_R X t_thrown s_57_1 s_57_18 s_57_19 s_57_20 s_57_24 a_58 a_59 a_60 a_61 a_62 a_63 a_64 a_65 t_lines t_numbers a_68 a_69 t_parts t_sorts t_values t_items t_depths a_75 t_ways))) (fun K => rfl) ?_
          rcases xb_if h with ⟨hc1176, h⟩ | ⟨hc1176, h⟩
          · refine xe_pos hc1176 (xe_k ?_)
            refine xe_seg ok 4 (G := (fun K => if xr_in v3 120 = true then K (79, xm_i79, xm_I79, 0, 0, 73, [(0, .ref 59), (2, .int v2), (3, .int v3)], [.int (t_numbers v3.toNatClampNeg)], xw_R X t_thrown s_57_1 s_57_18 s_57_19 s_57_20 s_57_24 a_58 a_59 a_60 a_61 a_62 a_63 a_64 a_65 t_lines t_numbers a_68 a_69 t_parts t_sorts t_values t_items t_depths a_75 t_ways) else none)) (fun K => rfl) ?_
            obtain ⟨hg1177, h⟩ := xn_if h
            refine xe_pos hg1177 (xe_k ?_)
            obtain rfl := Option.some.inj h
            refine xe_seg ok 1 (G := (fun _ => some (.inl (some (.int (t_numbers v3.toNatClampNeg))), xw_R X t_thrown s_57_1 s_57_18 s_57_19 s_57_20 s_57_24 a_58 a_59 a_60 a_61 a_62 a_63 a_64 a_65 t_lines t_numbers a_68 a_69 t_parts t_sorts t_values t_items t_depths a_75 t_ways))) (fun K => rfl) ?_
            exact xe_ret
          · refine xe_neg hc1176 (xe_k ?_)
            refine xe_seg ok 1 (G := (fun K => K (79, xm_i79, xm_I79, 0, 0, 77, [(0, .ref 59), (2, .int (v2 + (-1 : Int32))), (3, .int v3)], [], xw_R X t_thrown s_57_1 s_57_18 s_57_19 s_57_20 s_57_24 a_58 a_59 a_60 a_61 a_62 a_63 a_64 a_65 t_lines t_numbers a_68 a_69 t_parts t_sorts t_values t_items t_depths a_75 t_ways))) (fun K => rfl) ?_
            refine xe_k ?_
            refine xe_sub [true, true, true] (lv' := [(0, .ref 59), (2, .int (v2 + (-1 : Int32))), (3, .int v3)]) rfl ?_
            have hz := xh_rf_ring_57_77 (l := l) (g := g) ok a_58 a_59 a_60 a_61 a_62 a_63 a_64 a_65 a_68 a_69 a_75 s_57_1 s_57_18 s_57_19 s_57_20 s_57_24 X t_items t_lines t_numbers t_parts t_sorts t_values hk32 n t_depths t_thrown t_ways (v2 + (-1 : Int32)) v3 _ h
            exact hz
      · refine xe_neg hc1165 (xe_k ?_)
        refine xe_sub [true, true, true] (lv' := [(0, .ref 59), (2, .int v2), (3, .int v3)]) rfl ?_
        have hz := xh_rf_ring_57_77 (l := l) (g := g) ok a_58 a_59 a_60 a_61 a_62 a_63 a_64 a_65 a_68 a_69 a_75 s_57_1 s_57_18 s_57_19 s_57_20 s_57_24 X t_items t_lines t_numbers t_parts t_sorts t_values hk32 n t_depths t_thrown t_ways v2 v3 _ h
        exact hz
    · refine xe_neg hc1163 (xe_k ?_)
      obtain rfl := Option.some.inj h
      refine xe_seg ok 2 (G := (fun _ => some (.inl (some (.int ((-1 : Int32)))), xw_R X t_thrown s_57_1 s_57_18 s_57_19 s_57_20 s_57_24 a_58 a_59 a_60 a_61 a_62 a_63 a_64 a_65 t_lines t_numbers a_68 a_69 t_parts t_sorts t_values t_items t_depths a_75 t_ways))) (fun K => rfl) ?_
      exact xe_ret
set_option maxHeartbeats 400000 in
theorem xh_rf_ring_57_15 {l : Launch} {g : xr_G} (ok : xr_OK xm_P) (a_58 a_59 a_60 a_61 a_62 a_63 a_64 a_65 a_68 a_69 a_75 : Nat → Int32) (s_57_1 s_57_18 s_57_19 s_57_20 s_57_24 : Int32) (X : Nat → xr_C) (t_items : (Nat → Int32)) (t_lines : (Nat → Int32)) (t_numbers : (Nat → Int32)) (t_parts : (Nat → Int32)) (t_sorts : (Nat → Int32)) (t_values : (Nat → Int32)) (n : Nat) : ∀ (t_depths : (Nat → Int32)) (t_thrown : Int32) (t_ways : (Nat → Int64)) (v1 : Int32) (s1 : Int32) (r : (Int32 × (Nat → Int32) × Int32 × (Nat → Int64))), xf_rf_ring_15 t_items t_lines t_numbers t_parts t_sorts t_values n t_depths t_thrown t_ways v1 s1 = some r → xV xm_P l g (79, xm_i79, xm_I79, 0, 0, 15, [(0, .ref 59), (1, .int v1)], [.int s1, .ref 59], xw_R X t_thrown s_57_1 s_57_18 s_57_19 s_57_20 s_57_24 a_58 a_59 a_60 a_61 a_62 a_63 a_64 a_65 t_lines t_numbers a_68 a_69 t_parts t_sorts t_values t_items t_depths a_75 t_ways) (.inl (some (.int r.1)), xw_R X r.2.2.1 s_57_1 s_57_18 s_57_19 s_57_20 s_57_24 a_58 a_59 a_60 a_61 a_62 a_63 a_64 a_65 t_lines t_numbers a_68 a_69 t_parts t_sorts t_values t_items r.2.1 a_75 r.2.2.2) := by
  intro t_depths t_thrown t_ways v1 s1 r h
  unfold xf_rf_ring_15 at h
  refine xe_seg ok 2 (G := (fun K => xr_back K 79 xm_i79 xm_I79 0 0 16 [(0, .ref 59), (1, .int v1)] [] 78 true (K (32, xm_i32, xm_I32, 0, 0, 0, [(0, .ref 59), (1, .int s1), (2, .int ((1 : Int32)))], [], xw_R X t_thrown s_57_1 s_57_18 s_57_19 s_57_20 s_57_24 a_58 a_59 a_60 a_61 a_62 a_63 a_64 a_65 t_lines t_numbers a_68 a_69 t_parts t_sorts t_values t_items t_depths a_75 t_ways)))) (fun K => rfl) ?_
  obtain ⟨q1159, hq1159, h⟩ := Option.bind_eq_some_iff.mp h
  have heq1159 := xh_rf_fails_57 (l := l) (g := g) ok a_58 a_59 a_60 a_61 a_62 a_63 a_64 a_65 t_lines t_numbers a_68 a_69 t_parts t_sorts t_values t_items t_depths a_75 t_ways s_57_1 s_57_18 s_57_19 s_57_20 s_57_24 X t_thrown s1 ((1 : Int32)) _ hq1159
  refine xe_call1 (ws' := xw_R X q1159.2 s_57_1 s_57_18 s_57_19 s_57_20 s_57_24 a_58 a_59 a_60 a_61 a_62 a_63 a_64 a_65 t_lines t_numbers a_68 a_69 t_parts t_sorts t_values t_items t_depths a_75 t_ways) (by decide) heq1159 (Or.inl rfl) ?_
  refine xe_seg ok 1 (G := (fun K => if q1159.1 = (0 : Int32) then K (79, xm_i79, xm_I79, 0, 0, 24, [(0, .ref 59), (1, .int v1)], [], xw_R X q1159.2 s_57_1 s_57_18 s_57_19 s_57_20 s_57_24 a_58 a_59 a_60 a_61 a_62 a_63 a_64 a_65 t_lines t_numbers a_68 a_69 t_parts t_sorts t_values t_items t_depths a_75 t_ways) else K (79, xm_i79, xm_I79, 0, 0, 22, [(0, .ref 59), (1, .int v1)], [], xw_R X q1159.2 s_57_1 s_57_18 s_57_19 s_57_20 s_57_24 a_58 a_59 a_60 a_61 a_62 a_63 a_64 a_65 t_lines t_numbers a_68 a_69 t_parts t_sorts t_values t_items t_depths a_75 t_ways))) (fun K => rfl) ?_
  rcases xb_if h with ⟨hc1160, h⟩ | ⟨hc1160, h⟩
  · refine xe_pos hc1160 (xe_k ?_)
    refine xe_seg ok 2 (G := (fun K => xr_back K 79 xm_i79 xm_I79 0 0 25 [(0, .ref 59), (1, .int v1)] [] 78 true (K (69, xm_i69, xm_I69, 0, 0, 0, [(0, .ref 59)], [], xw_R X q1159.2 s_57_1 s_57_18 s_57_19 s_57_20 s_57_24 a_58 a_59 a_60 a_61 a_62 a_63 a_64 a_65 t_lines t_numbers a_68 a_69 t_parts t_sorts t_values t_items t_depths a_75 t_ways)))) (fun K => rfl) ?_
    obtain ⟨q1161, hq1161, h⟩ := Option.bind_eq_some_iff.mp h
    have heq1161 := xh_rf_findDepths_57 (l := l) (g := g) ok a_58 a_59 a_60 a_61 a_62 a_63 a_64 a_65 a_68 a_69 a_75 q1159.2 s_57_1 s_57_18 s_57_19 s_57_20 s_57_24 X t_items t_lines t_numbers t_parts t_sorts t_values n t_depths t_ways _ hq1161
    refine xe_call0 (ws' := xw_R X q1159.2 s_57_1 s_57_18 s_57_19 s_57_20 s_57_24 a_58 a_59 a_60 a_61 a_62 a_63 a_64 a_65 t_lines t_numbers a_68 a_69 t_parts t_sorts t_values t_items q1161.2.1 a_75 q1161.2.2) (by decide) heq1161 (Or.inl rfl) ?_
    refine xe_seg ok 4 (G := (fun K => K (79, xm_i79, xm_I79, 0, 0, 32, [(0, .ref 59), (1, .int v1), (2, .int v1), (3, .int ((0 : Int32)))], [], xw_R X q1159.2 s_57_1 s_57_18 s_57_19 s_57_20 s_57_24 a_58 a_59 a_60 a_61 a_62 a_63 a_64 a_65 t_lines t_numbers a_68 a_69 t_parts t_sorts t_values t_items q1161.2.1 a_75 q1161.2.2))) (fun K => rfl) ?_
    refine xe_k ?_
    refine xe_sub [true, false, true, true] (lv' := [(0, .ref 59), (2, .int v1), (3, .int ((0 : Int32)))]) rfl ?_
    have hz := xh_rf_ring_57_32 (l := l) (g := g) ok a_58 a_59 a_60 a_61 a_62 a_63 a_64 a_65 a_68 a_69 a_75 s_57_1 s_57_18 s_57_19 s_57_20 s_57_24 X t_items t_lines t_numbers t_parts t_sorts t_values n n q1161.2.1 q1159.2 q1161.2.2 v1 ((0 : Int32)) _ h
    exact hz
  · refine xe_neg hc1160 (xe_k ?_)
    obtain rfl := Option.some.inj h
    refine xe_seg ok 2 (G := (fun _ => some (.inl (some (.int ((0 : Int32)))), xw_R X q1159.2 s_57_1 s_57_18 s_57_19 s_57_20 s_57_24 a_58 a_59 a_60 a_61 a_62 a_63 a_64 a_65 t_lines t_numbers a_68 a_69 t_parts t_sorts t_values t_items t_depths a_75 t_ways))) (fun K => rfl) ?_
    exact xe_ret
set_option maxHeartbeats 400000 in
theorem xh_rf_ring_57 {l : Launch} {g : xr_G} (ok : xr_OK xm_P) (a_58 a_59 a_60 a_61 a_62 a_63 a_64 a_65 a_68 a_69 a_75 : Nat → Int32) (s_57_1 s_57_18 s_57_19 s_57_20 s_57_24 : Int32) (X : Nat → xr_C) (t_items : (Nat → Int32)) (t_lines : (Nat → Int32)) (t_numbers : (Nat → Int32)) (t_parts : (Nat → Int32)) (t_sorts : (Nat → Int32)) (t_values : (Nat → Int32)) (n : Nat) : ∀ (t_depths : (Nat → Int32)) (t_thrown : Int32) (t_ways : (Nat → Int64)) (a1 : Int32) (r : (Int32 × (Nat → Int32) × Int32 × (Nat → Int64))), xf_rf_ring t_items t_lines t_numbers t_parts t_sorts t_values n t_depths t_thrown t_ways a1 = some r → xV xm_P l g (79, xm_i79, xm_I79, 0, 0, 0, [(0, .ref 59), (1, .int a1)], [], xw_R X t_thrown s_57_1 s_57_18 s_57_19 s_57_20 s_57_24 a_58 a_59 a_60 a_61 a_62 a_63 a_64 a_65 t_lines t_numbers a_68 a_69 t_parts t_sorts t_values t_items t_depths a_75 t_ways) (.inl (some (.int r.1)), xw_R X r.2.2.1 s_57_1 s_57_18 s_57_19 s_57_20 s_57_24 a_58 a_59 a_60 a_61 a_62 a_63 a_64 a_65 t_lines t_numbers a_68 a_69 t_parts t_sorts t_values t_items r.2.1 a_75 r.2.2.2) := by
  intro t_depths t_thrown t_ways a1 r h
  unfold xf_rf_ring at h
  refine xe_seg ok 6 (G := (fun K => if a1 < (0 : Int32) then K (79, xm_i79, xm_I79, 0, 0, 10, [(0, .ref 59), (1, .int a1)], [.ref 59], xw_R X ((0 : Int32)) s_57_1 s_57_18 s_57_19 s_57_20 s_57_24 a_58 a_59 a_60 a_61 a_62 a_63 a_64 a_65 t_lines t_numbers a_68 a_69 t_parts t_sorts t_values t_items t_depths a_75 t_ways) else K (79, xm_i79, xm_I79, 0, 0, 14, [(0, .ref 59), (1, .int a1)], [.ref 59], xw_R X ((0 : Int32)) s_57_1 s_57_18 s_57_19 s_57_20 s_57_24 a_58 a_59 a_60 a_61 a_62 a_63 a_64 a_65 t_lines t_numbers a_68 a_69 t_parts t_sorts t_values t_items t_depths a_75 t_ways))) (fun K => rfl) ?_
  rcases xb_if h with ⟨hc1158, h⟩ | ⟨hc1158, h⟩
  · refine xe_pos hc1158 (xe_k ?_)
    refine xe_seg ok 2 (G := (fun K => K (79, xm_i79, xm_I79, 0, 0, 15, [(0, .ref 59), (1, .int a1)], [.int ((1 : Int32)), .ref 59], xw_R X ((0 : Int32)) s_57_1 s_57_18 s_57_19 s_57_20 s_57_24 a_58 a_59 a_60 a_61 a_62 a_63 a_64 a_65 t_lines t_numbers a_68 a_69 t_parts t_sorts t_values t_items t_depths a_75 t_ways))) (fun K => rfl) ?_
    refine xe_k ?_
    refine xe_sub [true, true] (lv' := [(0, .ref 59), (1, .int a1)]) rfl ?_
    have hz := xh_rf_ring_57_15 (l := l) (g := g) ok a_58 a_59 a_60 a_61 a_62 a_63 a_64 a_65 a_68 a_69 a_75 s_57_1 s_57_18 s_57_19 s_57_20 s_57_24 X t_items t_lines t_numbers t_parts t_sorts t_values n t_depths ((0 : Int32)) t_ways a1 ((1 : Int32)) _ h
    exact hz
  · refine xe_neg hc1158 (xe_k ?_)
    refine xe_seg ok 1 (G := (fun K => K (79, xm_i79, xm_I79, 0, 0, 15, [(0, .ref 59), (1, .int a1)], [.int ((0 : Int32)), .ref 59], xw_R X ((0 : Int32)) s_57_1 s_57_18 s_57_19 s_57_20 s_57_24 a_58 a_59 a_60 a_61 a_62 a_63 a_64 a_65 t_lines t_numbers a_68 a_69 t_parts t_sorts t_values t_items t_depths a_75 t_ways))) (fun K => rfl) ?_
    refine xe_k ?_
    refine xe_sub [true, true] (lv' := [(0, .ref 59), (1, .int a1)]) rfl ?_
    have hz := xh_rf_ring_57_15 (l := l) (g := g) ok a_58 a_59 a_60 a_61 a_62 a_63 a_64 a_65 a_68 a_69 a_75 s_57_1 s_57_18 s_57_19 s_57_20 s_57_24 X t_items t_lines t_numbers t_parts t_sorts t_values n t_depths ((0 : Int32)) t_ways a1 ((0 : Int32)) _ h
    exact hz
set_option maxHeartbeats 400000 in
theorem xh_rf_isPlaced_57_76 {l : Launch} {g : xr_G} (ok : xr_OK xm_P) (a_58 a_59 a_60 a_61 a_62 a_63 a_64 a_65 a_66 a_67 a_68 a_69 a_72 a_73 a_74 a_75 : Nat → Int32) (l_76 : Nat → Int64) (s_57_0 s_57_1 s_57_18 s_57_19 s_57_20 s_57_24 : Int32) (X : Nat → xr_C) (t_parts : (Nat → Int32)) (t_sorts : (Nat → Int32)) : ∀ (s0 : Int32) (r : (Int32)), xf_rf_isPlaced_76 t_parts t_sorts s0 = some r → xV xm_P l g (80, xm_i80, xm_I80, 0, 0, 76, [], [.int s0], xw_R X s_57_0 s_57_1 s_57_18 s_57_19 s_57_20 s_57_24 a_58 a_59 a_60 a_61 a_62 a_63 a_64 a_65 a_66 a_67 a_68 a_69 t_parts t_sorts a_72 a_73 a_74 a_75 l_76) (.inl (some (.int r)), xw_R X s_57_0 s_57_1 s_57_18 s_57_19 s_57_20 s_57_24 a_58 a_59 a_60 a_61 a_62 a_63 a_64 a_65 a_66 a_67 a_68 a_69 t_parts t_sorts a_72 a_73 a_74 a_75 l_76) := by
  intro s0 r h
  unfold xf_rf_isPlaced_76 at h
  refine xe_seg ok 1 (G := (fun _ => if fits .boolean (.int s0) = true then some (.inl (some (.int s0)), xw_R X s_57_0 s_57_1 s_57_18 s_57_19 s_57_20 s_57_24 a_58 a_59 a_60 a_61 a_62 a_63 a_64 a_65 a_66 a_67 a_68 a_69 t_parts t_sorts a_72 a_73 a_74 a_75 l_76) else none)) (fun K => rfl) ?_
  obtain ⟨hg1192, h⟩ := xn_if h
  obtain rfl := Option.some.inj h
  exact xe_pos (A := fun _ => some (.inl (some (.int s0)), xw_R X s_57_0 s_57_1 s_57_18 s_57_19 s_57_20 s_57_24 a_58 a_59 a_60 a_61 a_62 a_63 a_64 a_65 a_66 a_67 a_68 a_69 t_parts t_sorts a_72 a_73 a_74 a_75 l_76)) (B := fun _ => none) hg1192 xe_ret
set_option maxHeartbeats 400000 in
theorem xh_rf_isPlaced_57_71 {l : Launch} {g : xr_G} (ok : xr_OK xm_P) (a_58 a_59 a_60 a_61 a_62 a_63 a_64 a_65 a_66 a_67 a_68 a_69 a_72 a_73 a_74 a_75 : Nat → Int32) (l_76 : Nat → Int64) (s_57_0 s_57_1 s_57_18 s_57_19 s_57_20 s_57_24 : Int32) (X : Nat → xr_C) (t_parts : (Nat → Int32)) (t_sorts : (Nat → Int32)) : ∀  (r : (Int32)), xf_rf_isPlaced_71 t_parts t_sorts  = some r → xV xm_P l g (80, xm_i80, xm_I80, 0, 0, 71, [], [], xw_R X s_57_0 s_57_1 s_57_18 s_57_19 s_57_20 s_57_24 a_58 a_59 a_60 a_61 a_62 a_63 a_64 a_65 a_66 a_67 a_68 a_69 t_parts t_sorts a_72 a_73 a_74 a_75 l_76) (.inl (some (.int r)), xw_R X s_57_0 s_57_1 s_57_18 s_57_19 s_57_20 s_57_24 a_58 a_59 a_60 a_61 a_62 a_63 a_64 a_65 a_66 a_67 a_68 a_69 t_parts t_sorts a_72 a_73 a_74 a_75 l_76) := by
  intro  r h
  unfold xf_rf_isPlaced_71 at h
  refine xe_seg ok 2 (G := (fun K => K (80, xm_i80, xm_I80, 0, 0, 76, [], [.int ((1 : Int32))], xw_R X s_57_0 s_57_1 s_57_18 s_57_19 s_57_20 s_57_24 a_58 a_59 a_60 a_61 a_62 a_63 a_64 a_65 a_66 a_67 a_68 a_69 t_parts t_sorts a_72 a_73 a_74 a_75 l_76))) (fun K => rfl) ?_
  refine xe_k ?_
  refine xe_sub [] (lv' := []) rfl ?_
  have hz := xh_rf_isPlaced_57_76 (l := l) (g := g) ok a_58 a_59 a_60 a_61 a_62 a_63 a_64 a_65 a_66 a_67 a_68 a_69 a_72 a_73 a_74 a_75 l_76 s_57_0 s_57_1 s_57_18 s_57_19 s_57_20 s_57_24 X t_parts t_sorts ((1 : Int32)) _ h
  exact hz
set_option maxHeartbeats 400000 in
theorem xh_rf_isPlaced_57_75 {l : Launch} {g : xr_G} (ok : xr_OK xm_P) (a_58 a_59 a_60 a_61 a_62 a_63 a_64 a_65 a_66 a_67 a_68 a_69 a_72 a_73 a_74 a_75 : Nat → Int32) (l_76 : Nat → Int64) (s_57_0 s_57_1 s_57_18 s_57_19 s_57_20 s_57_24 : Int32) (X : Nat → xr_C) (t_parts : (Nat → Int32)) (t_sorts : (Nat → Int32)) : ∀  (r : (Int32)), xf_rf_isPlaced_75 t_parts t_sorts  = some r → xV xm_P l g (80, xm_i80, xm_I80, 0, 0, 75, [], [], xw_R X s_57_0 s_57_1 s_57_18 s_57_19 s_57_20 s_57_24 a_58 a_59 a_60 a_61 a_62 a_63 a_64 a_65 a_66 a_67 a_68 a_69 t_parts t_sorts a_72 a_73 a_74 a_75 l_76) (.inl (some (.int r)), xw_R X s_57_0 s_57_1 s_57_18 s_57_19 s_57_20 s_57_24 a_58 a_59 a_60 a_61 a_62 a_63 a_64 a_65 a_66 a_67 a_68 a_69 t_parts t_sorts a_72 a_73 a_74 a_75 l_76) := by
  intro  r h
  unfold xf_rf_isPlaced_75 at h
  refine xe_seg ok 1 (G := (fun K => K (80, xm_i80, xm_I80, 0, 0, 76, [], [.int ((0 : Int32))], xw_R X s_57_0 s_57_1 s_57_18 s_57_19 s_57_20 s_57_24 a_58 a_59 a_60 a_61 a_62 a_63 a_64 a_65 a_66 a_67 a_68 a_69 t_parts t_sorts a_72 a_73 a_74 a_75 l_76))) (fun K => rfl) ?_
  refine xe_k ?_
  refine xe_sub [] (lv' := []) rfl ?_
  have hz := xh_rf_isPlaced_57_76 (l := l) (g := g) ok a_58 a_59 a_60 a_61 a_62 a_63 a_64 a_65 a_66 a_67 a_68 a_69 a_72 a_73 a_74 a_75 l_76 s_57_0 s_57_1 s_57_18 s_57_19 s_57_20 s_57_24 X t_parts t_sorts ((0 : Int32)) _ h
  exact hz
set_option maxHeartbeats 400000 in
theorem xh_rf_isPlaced_57 {l : Launch} {g : xr_G} (ok : xr_OK xm_P) (a_58 a_59 a_60 a_61 a_62 a_63 a_64 a_65 a_66 a_67 a_68 a_69 a_72 a_73 a_74 a_75 : Nat → Int32) (l_76 : Nat → Int64) (s_57_0 s_57_1 s_57_18 s_57_19 s_57_20 s_57_24 : Int32) (X : Nat → xr_C) (t_parts : (Nat → Int32)) (t_sorts : (Nat → Int32)) : ∀ (a1 : Int32) (r : (Int32)), xf_rf_isPlaced t_parts t_sorts a1 = some r → xV xm_P l g (80, xm_i80, xm_I80, 0, 0, 0, [(0, .ref 59), (1, .int a1)], [], xw_R X s_57_0 s_57_1 s_57_18 s_57_19 s_57_20 s_57_24 a_58 a_59 a_60 a_61 a_62 a_63 a_64 a_65 a_66 a_67 a_68 a_69 t_parts t_sorts a_72 a_73 a_74 a_75 l_76) (.inl (some (.int r)), xw_R X s_57_0 s_57_1 s_57_18 s_57_19 s_57_20 s_57_24 a_58 a_59 a_60 a_61 a_62 a_63 a_64 a_65 a_66 a_67 a_68 a_69 t_parts t_sorts a_72 a_73 a_74 a_75 l_76) := by
  intro a1 r h
  unfold xf_rf_isPlaced at h
  refine xe_seg ok 8 (G := (fun K => if xr_in a1 120 = true then K (80, xm_i80, xm_I80, 0, 0, 11, [(0, .ref 59), (1, .int a1), (2, .int (((8 : Int32)) * a1))], [.int (t_parts a1.toNatClampNeg)], xw_R X s_57_0 s_57_1 s_57_18 s_57_19 s_57_20 s_57_24 a_58 a_59 a_60 a_61 a_62 a_63 a_64 a_65 a_66 a_67 a_68 a_69 t_parts t_sorts a_72 a_73 a_74 a_75 l_76) else none)) (fun K => rfl) ?_
  obtain ⟨hg1182, h⟩ := xn_if h
  refine xe_pos hg1182 (xe_k ?_)
  refine xe_seg ok 2 (G := (fun K => if ((3 : Int32)) < (t_parts a1.toNatClampNeg) then K (80, xm_i80, xm_I80, 0, 0, 15, [(0, .ref 59), (1, .int a1), (2, .int (((8 : Int32)) * a1))], [], xw_R X s_57_0 s_57_1 s_57_18 s_57_19 s_57_20 s_57_24 a_58 a_59 a_60 a_61 a_62 a_63 a_64 a_65 a_66 a_67 a_68 a_69 t_parts t_sorts a_72 a_73 a_74 a_75 l_76) else K (80, xm_i80, xm_I80, 0, 0, 75, [(0, .ref 59), (1, .int a1), (2, .int (((8 : Int32)) * a1))], [], xw_R X s_57_0 s_57_1 s_57_18 s_57_19 s_57_20 s_57_24 a_58 a_59 a_60 a_61 a_62 a_63 a_64 a_65 a_66 a_67 a_68 a_69 t_parts t_sorts a_72 a_73 a_74 a_75 l_76))) (fun K => rfl) ?_
  rcases xb_if h with ⟨hc1183, h⟩ | ⟨hc1183, h⟩
  · refine xe_pos hc1183 (xe_k ?_)
    refine xe_seg ok 4 (G := (fun K => if xr_in (((8 : Int32)) * a1) 960 = true then K (80, xm_i80, xm_I80, 0, 0, 21, [(0, .ref 59), (1, .int a1), (2, .int (((8 : Int32)) * a1))], [.int (t_sorts (((8 : Int32)) * a1).toNatClampNeg)], xw_R X s_57_0 s_57_1 s_57_18 s_57_19 s_57_20 s_57_24 a_58 a_59 a_60 a_61 a_62 a_63 a_64 a_65 a_66 a_67 a_68 a_69 t_parts t_sorts a_72 a_73 a_74 a_75 l_76) else none)) (fun K => rfl) ?_
    obtain ⟨hg1184, h⟩ := xn_if h
    refine xe_pos hg1184 (xe_k ?_)
    refine xe_seg ok 1 (G := (fun K => if (t_sorts (((8 : Int32)) * a1).toNatClampNeg) = (0 : Int32) then K (80, xm_i80, xm_I80, 0, 0, 24, [(0, .ref 59), (1, .int a1), (2, .int (((8 : Int32)) * a1))], [], xw_R X s_57_0 s_57_1 s_57_18 s_57_19 s_57_20 s_57_24 a_58 a_59 a_60 a_61 a_62 a_63 a_64 a_65 a_66 a_67 a_68 a_69 t_parts t_sorts a_72 a_73 a_74 a_75 l_76) else K (80, xm_i80, xm_I80, 0, 0, 75, [(0, .ref 59), (1, .int a1), (2, .int (((8 : Int32)) * a1))], [], xw_R X s_57_0 s_57_1 s_57_18 s_57_19 s_57_20 s_57_24 a_58 a_59 a_60 a_61 a_62 a_63 a_64 a_65 a_66 a_67 a_68 a_69 t_parts t_sorts a_72 a_73 a_74 a_75 l_76))) (fun K => rfl) ?_
    rcases xb_if h with ⟨hc1185, h⟩ | ⟨hc1185, h⟩
    · refine xe_pos hc1185 (xe_k ?_)
      refine xe_seg ok 6 (G := (fun K => if xr_in ((((8 : Int32)) * a1) + ((1 : Int32))) 960 = true then K (80, xm_i80, xm_I80, 0, 0, 32, [(0, .ref 59), (1, .int a1), (2, .int (((8 : Int32)) * a1))], [.int (t_sorts ((((8 : Int32)) * a1) + ((1 : Int32))).toNatClampNeg)], xw_R X s_57_0 s_57_1 s_57_18 s_57_19 s_57_20 s_57_24 a_58 a_59 a_60 a_61 a_62 a_63 a_64 a_65 a_66 a_67 a_68 a_69 t_parts t_sorts a_72 a_73 a_74 a_75 l_76) else none)) (fun K => rfl) ?_
      obtain ⟨hg1186, h⟩ := xn_if h
      refine xe_pos hg1186 (xe_k ?_)
      refine xe_seg ok 1 (G := (fun K => if (t_sorts ((((8 : Int32)) * a1) + ((1 : Int32))).toNatClampNeg) = (0 : Int32) then K (80, xm_i80, xm_I80, 0, 0, 35, [(0, .ref 59), (1, .int a1), (2, .int (((8 : Int32)) * a1))], [], xw_R X s_57_0 s_57_1 s_57_18 s_57_19 s_57_20 s_57_24 a_58 a_59 a_60 a_61 a_62 a_63 a_64 a_65 a_66 a_67 a_68 a_69 t_parts t_sorts a_72 a_73 a_74 a_75 l_76) else K (80, xm_i80, xm_I80, 0, 0, 75, [(0, .ref 59), (1, .int a1), (2, .int (((8 : Int32)) * a1))], [], xw_R X s_57_0 s_57_1 s_57_18 s_57_19 s_57_20 s_57_24 a_58 a_59 a_60 a_61 a_62 a_63 a_64 a_65 a_66 a_67 a_68 a_69 t_parts t_sorts a_72 a_73 a_74 a_75 l_76))) (fun K => rfl) ?_
      rcases xb_if h with ⟨hc1187, h⟩ | ⟨hc1187, h⟩
      · refine xe_pos hc1187 (xe_k ?_)
        refine xe_seg ok 6 (G := (fun K => if xr_in ((((8 : Int32)) * a1) + ((2 : Int32))) 960 = true then K (80, xm_i80, xm_I80, 0, 0, 43, [(0, .ref 59), (1, .int a1), (2, .int (((8 : Int32)) * a1))], [.int (t_sorts ((((8 : Int32)) * a1) + ((2 : Int32))).toNatClampNeg)], xw_R X s_57_0 s_57_1 s_57_18 s_57_19 s_57_20 s_57_24 a_58 a_59 a_60 a_61 a_62 a_63 a_64 a_65 a_66 a_67 a_68 a_69 t_parts t_sorts a_72 a_73 a_74 a_75 l_76) else none)) (fun K => rfl) ?_
        obtain ⟨hg1188, h⟩ := xn_if h
        refine xe_pos hg1188 (xe_k ?_)
        refine xe_seg ok 1 (G := (fun K => if (t_sorts ((((8 : Int32)) * a1) + ((2 : Int32))).toNatClampNeg) = (0 : Int32) then K (80, xm_i80, xm_I80, 0, 0, 46, [(0, .ref 59), (1, .int a1), (2, .int (((8 : Int32)) * a1))], [], xw_R X s_57_0 s_57_1 s_57_18 s_57_19 s_57_20 s_57_24 a_58 a_59 a_60 a_61 a_62 a_63 a_64 a_65 a_66 a_67 a_68 a_69 t_parts t_sorts a_72 a_73 a_74 a_75 l_76) else K (80, xm_i80, xm_I80, 0, 0, 75, [(0, .ref 59), (1, .int a1), (2, .int (((8 : Int32)) * a1))], [], xw_R X s_57_0 s_57_1 s_57_18 s_57_19 s_57_20 s_57_24 a_58 a_59 a_60 a_61 a_62 a_63 a_64 a_65 a_66 a_67 a_68 a_69 t_parts t_sorts a_72 a_73 a_74 a_75 l_76))) (fun K => rfl) ?_
        rcases xb_if h with ⟨hc1189, h⟩ | ⟨hc1189, h⟩
        · refine xe_pos hc1189 (xe_k ?_)
          refine xe_seg ok 6 (G := (fun K => if xr_in ((((8 : Int32)) * a1) + ((3 : Int32))) 960 = true then K (80, xm_i80, xm_I80, 0, 0, 54, [(0, .ref 59), (1, .int a1), (2, .int (((8 : Int32)) * a1))], [.int (t_sorts ((((8 : Int32)) * a1) + ((3 : Int32))).toNatClampNeg)], xw_R X s_57_0 s_57_1 s_57_18 s_57_19 s_57_20 s_57_24 a_58 a_59 a_60 a_61 a_62 a_63 a_64 a_65 a_66 a_67 a_68 a_69 t_parts t_sorts a_72 a_73 a_74 a_75 l_76) else none)) (fun K => rfl) ?_
          obtain ⟨hg1190, h⟩ := xn_if h
          refine xe_pos hg1190 (xe_k ?_)
          refine xe_seg ok 2 (G := (fun K => if (t_sorts ((((8 : Int32)) * a1) + ((3 : Int32))).toNatClampNeg) = ((2 : Int32)) then K (80, xm_i80, xm_I80, 0, 0, 71, [(0, .ref 59), (1, .int a1), (2, .int (((8 : Int32)) * a1))], [], xw_R X s_57_0 s_57_1 s_57_18 s_57_19 s_57_20 s_57_24 a_58 a_59 a_60 a_61 a_62 a_63 a_64 a_65 a_66 a_67 a_68 a_69 t_parts t_sorts a_72 a_73 a_74 a_75 l_76) else K (80, xm_i80, xm_I80, 0, 0, 58, [(0, .ref 59), (1, .int a1), (2, .int (((8 : Int32)) * a1))], [], xw_R X s_57_0 s_57_1 s_57_18 s_57_19 s_57_20 s_57_24 a_58 a_59 a_60 a_61 a_62 a_63 a_64 a_65 a_66 a_67 a_68 a_69 t_parts t_sorts a_72 a_73 a_74 a_75 l_76))) (fun K => rfl) ?_
          rcases xb_if h with ⟨hc1191, h⟩ | ⟨hc1191, h⟩
          · refine xe_pos hc1191 (xe_k ?_)
            refine xe_sub [false, false, false] (lv' := []) rfl ?_
            have hz := xh_rf_isPlaced_57_71 (l := l) (g := g) ok a_58 a_59 a_60 a_61 a_62 a_63 a_64 a_65 a_66 a_67 a_68 a_69 a_72 a_73 a_74 a_75 l_76 s_57_0 s_57_1 s_57_18 s_57_19 s_57_20 s_57_24 X t_parts t_sorts _ h
            exact hz
          · refine xe_neg hc1191 (xe_k ?_)
            refine xe_seg ok 6 (G := (fun K => if xr_in ((((8 : Int32)) * a1) + ((3 : Int32))) 960 = true then K (80, xm_i80, xm_I80, 0, 0, 66, [(0, .ref 59), (1, .int a1), (2, .int (((8 : Int32)) * a1))], [.int (t_sorts ((((8 : Int32)) * a1) + ((3 : Int32))).toNatClampNeg)], xw_R X s_57_0 s_57_1 s_57_18 s_57_19 s_57_20 s_57_24 a_58 a_59 a_60 a_61 a_62 a_63 a_64 a_65 a_66 a_67 a_68 a_69 t_parts t_sorts a_72 a_73 a_74 a_75 l_76) else none)) (fun K => rfl) ?_
            obtain ⟨hg1193, h⟩ := xn_if h
            refine xe_pos hg1193 (xe_k ?_)
            refine xe_seg ok 2 (G := (fun K => if (t_sorts ((((8 : Int32)) * a1) + ((3 : Int32))).toNatClampNeg) = ((6 : Int32)) then K (80, xm_i80, xm_I80, 0, 0, 71, [(0, .ref 59), (1, .int a1), (2, .int (((8 : Int32)) * a1))], [], xw_R X s_57_0 s_57_1 s_57_18 s_57_19 s_57_20 s_57_24 a_58 a_59 a_60 a_61 a_62 a_63 a_64 a_65 a_66 a_67 a_68 a_69 t_parts t_sorts a_72 a_73 a_74 a_75 l_76) else K (80, xm_i80, xm_I80, 0, 0, 75, [(0, .ref 59), (1, .int a1), (2, .int (((8 : Int32)) * a1))], [], xw_R X s_57_0 s_57_1 s_57_18 s_57_19 s_57_20 s_57_24 a_58 a_59 a_60 a_61 a_62 a_63 a_64 a_65 a_66 a_67 a_68 a_69 t_parts t_sorts a_72 a_73 a_74 a_75 l_76))) (fun K => rfl) ?_
            rcases xb_if h with ⟨hc1194, h⟩ | ⟨hc1194, h⟩
            · refine xe_pos hc1194 (xe_k ?_)
              refine xe_sub [false, false, false] (lv' := []) rfl ?_
              have hz := xh_rf_isPlaced_57_71 (l := l) (g := g) ok a_58 a_59 a_60 a_61 a_62 a_63 a_64 a_65 a_66 a_67 a_68 a_69 a_72 a_73 a_74 a_75 l_76 s_57_0 s_57_1 s_57_18 s_57_19 s_57_20 s_57_24 X t_parts t_sorts _ h
              exact hz
            · refine xe_neg hc1194 (xe_k ?_)
              refine xe_sub [false, false, false] (lv' := []) rfl ?_
              have hz := xh_rf_isPlaced_57_75 (l := l) (g := g) ok a_58 a_59 a_60 a_61 a_62 a_63 a_64 a_65 a_66 a_67 a_68 a_69 a_72 a_73 a_74 a_75 l_76 s_57_0 s_57_1 s_57_18 s_57_19 s_57_20 s_57_24 X t_parts t_sorts _ h
              exact hz
        · refine xe_neg hc1189 (xe_k ?_)
          refine xe_sub [false, false, false] (lv' := []) rfl ?_
          have hz := xh_rf_isPlaced_57_75 (l := l) (g := g) ok a_58 a_59 a_60 a_61 a_62 a_63 a_64 a_65 a_66 a_67 a_68 a_69 a_72 a_73 a_74 a_75 l_76 s_57_0 s_57_1 s_57_18 s_57_19 s_57_20 s_57_24 X t_parts t_sorts _ h
          exact hz
      · refine xe_neg hc1187 (xe_k ?_)
        refine xe_sub [false, false, false] (lv' := []) rfl ?_
        have hz := xh_rf_isPlaced_57_75 (l := l) (g := g) ok a_58 a_59 a_60 a_61 a_62 a_63 a_64 a_65 a_66 a_67 a_68 a_69 a_72 a_73 a_74 a_75 l_76 s_57_0 s_57_1 s_57_18 s_57_19 s_57_20 s_57_24 X t_parts t_sorts _ h
        exact hz
    · refine xe_neg hc1185 (xe_k ?_)
      refine xe_sub [false, false, false] (lv' := []) rfl ?_
      have hz := xh_rf_isPlaced_57_75 (l := l) (g := g) ok a_58 a_59 a_60 a_61 a_62 a_63 a_64 a_65 a_66 a_67 a_68 a_69 a_72 a_73 a_74 a_75 l_76 s_57_0 s_57_1 s_57_18 s_57_19 s_57_20 s_57_24 X t_parts t_sorts _ h
      exact hz
  · refine xe_neg hc1183 (xe_k ?_)
    refine xe_sub [false, false, false] (lv' := []) rfl ?_
    have hz := xh_rf_isPlaced_57_75 (l := l) (g := g) ok a_58 a_59 a_60 a_61 a_62 a_63 a_64 a_65 a_66 a_67 a_68 a_69 a_72 a_73 a_74 a_75 l_76 s_57_0 s_57_1 s_57_18 s_57_19 s_57_20 s_57_24 X t_parts t_sorts _ h
    exact hz
set_option maxHeartbeats 400000 in
theorem xh_rf_place_57_166 {l : Launch} {g : xr_G} (ok : xr_OK xm_P) (a_58 a_59 a_60 a_61 a_62 a_63 a_64 a_65 a_68 a_69 a_73 a_74 a_75 : Nat → Int32) (l_76 : Nat → Int64) (s_57_1 s_57_18 s_57_19 s_57_20 s_57_24 : Int32) (X : Nat → xr_C) (t_lines : (Nat → Int32)) (t_numbers : (Nat → Int32)) (t_parts : (Nat → Int32)) (t_sorts : (Nat → Int32)) (t_values : (Nat → Int32)) {k68 : Int32 → Int32 → Int32 → Int64 → Int32 → Option (Int64 × Int32)} (hk68 : ∀ (t_thrown : Int32) (v2 : Int32) (v3 : Int32) (v4 : Int64) (v6 : Int32) (r : (Int64 × Int32)), k68 t_thrown v2 v3 v4 v6 = some r → xV xm_P l g (81, xm_i81, xm_I81, 0, 0, 68, [(0, .ref 59), (2, .int v2), (3, .int v3), (4, .long v4), (6, .int v6)], [], xw_R X t_thrown s_57_1 s_57_18 s_57_19 s_57_20 s_57_24 a_58 a_59 a_60 a_61 a_62 a_63 a_64 a_65 t_lines t_numbers a_68 a_69 t_parts t_sorts t_values a_73 a_74 a_75 l_76) (.inl (some (.long r.1)), xw_R X r.2 s_57_1 s_57_18 s_57_19 s_57_20 s_57_24 a_58 a_59 a_60 a_61 a_62 a_63 a_64 a_65 t_lines t_numbers a_68 a_69 t_parts t_sorts t_values a_73 a_74 a_75 l_76)) (n : Nat) : ∀ (t_thrown : Int32) (v2 : Int32) (v4 : Int64) (v6 : Int32) (s0 : Int32) (r : (Int64 × Int32)), xf_rf_place_166 t_lines t_numbers t_parts t_sorts t_values k68 n t_thrown v2 v4 v6 s0 = some r → xV xm_P l g (81, xm_i81, xm_I81, 0, 0, 166, [(0, .ref 59), (2, .int v2), (4, .long v4), (6, .int v6)], [.int s0], xw_R X t_thrown s_57_1 s_57_18 s_57_19 s_57_20 s_57_24 a_58 a_59 a_60 a_61 a_62 a_63 a_64 a_65 t_lines t_numbers a_68 a_69 t_parts t_sorts t_values a_73 a_74 a_75 l_76) (.inl (some (.long r.1)), xw_R X r.2 s_57_1 s_57_18 s_57_19 s_57_20 s_57_24 a_58 a_59 a_60 a_61 a_62 a_63 a_64 a_65 t_lines t_numbers a_68 a_69 t_parts t_sorts t_values a_73 a_74 a_75 l_76) := by
  intro t_thrown v2 v4 v6 s0 r h
  unfold xf_rf_place_166 at h
  refine xe_seg ok 2 (G := (fun K => K (81, xm_i81, xm_I81, 0, 0, 68, [(0, .ref 59), (2, .int v2), (3, .int s0), (4, .long v4), (6, .int v6)], [], xw_R X t_thrown s_57_1 s_57_18 s_57_19 s_57_20 s_57_24 a_58 a_59 a_60 a_61 a_62 a_63 a_64 a_65 t_lines t_numbers a_68 a_69 t_parts t_sorts t_values a_73 a_74 a_75 l_76))) (fun K => rfl) ?_
  refine xe_k ?_
  refine xe_sub [true, true, true, true, true] (lv' := [(0, .ref 59), (2, .int v2), (3, .int s0), (4, .long v4), (6, .int v6)]) rfl ?_
  have hz := hk68 t_thrown v2 s0 v4 v6 _ h
  exact hz
set_option maxHeartbeats 400000 in
theorem xh_rf_place_57_165 {l : Launch} {g : xr_G} (ok : xr_OK xm_P) (a_58 a_59 a_60 a_61 a_62 a_63 a_64 a_65 a_68 a_69 a_73 a_74 a_75 : Nat → Int32) (l_76 : Nat → Int64) (s_57_1 s_57_18 s_57_19 s_57_20 s_57_24 : Int32) (X : Nat → xr_C) (t_lines : (Nat → Int32)) (t_numbers : (Nat → Int32)) (t_parts : (Nat → Int32)) (t_sorts : (Nat → Int32)) (t_values : (Nat → Int32)) {k68 : Int32 → Int32 → Int32 → Int64 → Int32 → Option (Int64 × Int32)} (hk68 : ∀ (t_thrown : Int32) (v2 : Int32) (v3 : Int32) (v4 : Int64) (v6 : Int32) (r : (Int64 × Int32)), k68 t_thrown v2 v3 v4 v6 = some r → xV xm_P l g (81, xm_i81, xm_I81, 0, 0, 68, [(0, .ref 59), (2, .int v2), (3, .int v3), (4, .long v4), (6, .int v6)], [], xw_R X t_thrown s_57_1 s_57_18 s_57_19 s_57_20 s_57_24 a_58 a_59 a_60 a_61 a_62 a_63 a_64 a_65 t_lines t_numbers a_68 a_69 t_parts t_sorts t_values a_73 a_74 a_75 l_76) (.inl (some (.long r.1)), xw_R X r.2 s_57_1 s_57_18 s_57_19 s_57_20 s_57_24 a_58 a_59 a_60 a_61 a_62 a_63 a_64 a_65 t_lines t_numbers a_68 a_69 t_parts t_sorts t_values a_73 a_74 a_75 l_76)) (n : Nat) : ∀ (t_thrown : Int32) (v2 : Int32) (v4 : Int64) (v6 : Int32) (r : (Int64 × Int32)), xf_rf_place_165 t_lines t_numbers t_parts t_sorts t_values k68 n t_thrown v2 v4 v6 = some r → xV xm_P l g (81, xm_i81, xm_I81, 0, 0, 165, [(0, .ref 59), (2, .int v2), (4, .long v4), (6, .int v6)], [], xw_R X t_thrown s_57_1 s_57_18 s_57_19 s_57_20 s_57_24 a_58 a_59 a_60 a_61 a_62 a_63 a_64 a_65 t_lines t_numbers a_68 a_69 t_parts t_sorts t_values a_73 a_74 a_75 l_76) (.inl (some (.long r.1)), xw_R X r.2 s_57_1 s_57_18 s_57_19 s_57_20 s_57_24 a_58 a_59 a_60 a_61 a_62 a_63 a_64 a_65 t_lines t_numbers a_68 a_69 t_parts t_sorts t_values a_73 a_74 a_75 l_76) := by
  intro t_thrown v2 v4 v6 r h
  unfold xf_rf_place_165 at h
  refine xe_seg ok 1 (G := (fun K => K (81, xm_i81, xm_I81, 0, 0, 166, [(0, .ref 59), (2, .int v2), (4, .long v4), (6, .int v6)], [.int ((-1 : Int32))], xw_R X t_thrown s_57_1 s_57_18 s_57_19 s_57_20 s_57_24 a_58 a_59 a_60 a_61 a_62 a_63 a_64 a_65 t_lines t_numbers a_68 a_69 t_parts t_sorts t_values a_73 a_74 a_75 l_76))) (fun K => rfl) ?_
  refine xe_k ?_
  refine xe_sub [true, true, true, true] (lv' := [(0, .ref 59), (2, .int v2), (4, .long v4), (6, .int v6)]) rfl ?_
  have hz := xh_rf_place_57_166 (l := l) (g := g) ok a_58 a_59 a_60 a_61 a_62 a_63 a_64 a_65 a_68 a_69 a_73 a_74 a_75 l_76 s_57_1 s_57_18 s_57_19 s_57_20 s_57_24 X t_lines t_numbers t_parts t_sorts t_values hk68 n t_thrown v2 v4 v6 ((-1 : Int32)) _ h
  exact hz
set_option maxHeartbeats 400000 in
theorem xh_rf_place_57_143 {l : Launch} {g : xr_G} (ok : xr_OK xm_P) (a_58 a_59 a_60 a_61 a_62 a_63 a_64 a_65 a_68 a_69 a_73 a_74 a_75 : Nat → Int32) (l_76 : Nat → Int64) (s_57_1 s_57_18 s_57_19 s_57_20 s_57_24 : Int32) (X : Nat → xr_C) (t_lines : (Nat → Int32)) (t_numbers : (Nat → Int32)) (t_parts : (Nat → Int32)) (t_sorts : (Nat → Int32)) (t_values : (Nat → Int32)) {k68 : Int32 → Int32 → Int32 → Int64 → Int32 → Option (Int64 × Int32)} (hk68 : ∀ (t_thrown : Int32) (v2 : Int32) (v3 : Int32) (v4 : Int64) (v6 : Int32) (r : (Int64 × Int32)), k68 t_thrown v2 v3 v4 v6 = some r → xV xm_P l g (81, xm_i81, xm_I81, 0, 0, 68, [(0, .ref 59), (2, .int v2), (3, .int v3), (4, .long v4), (6, .int v6)], [], xw_R X t_thrown s_57_1 s_57_18 s_57_19 s_57_20 s_57_24 a_58 a_59 a_60 a_61 a_62 a_63 a_64 a_65 t_lines t_numbers a_68 a_69 t_parts t_sorts t_values a_73 a_74 a_75 l_76) (.inl (some (.long r.1)), xw_R X r.2 s_57_1 s_57_18 s_57_19 s_57_20 s_57_24 a_58 a_59 a_60 a_61 a_62 a_63 a_64 a_65 t_lines t_numbers a_68 a_69 t_parts t_sorts t_values a_73 a_74 a_75 l_76)) (n : Nat) : ∀ (t_thrown : Int32) (v2 : Int32) (v4 : Int64) (v6 : Int32) (s0 : Int32) (r : (Int64 × Int32)), xf_rf_place_143 t_lines t_numbers t_parts t_sorts t_values k68 n t_thrown v2 v4 v6 s0 = some r → xV xm_P l g (81, xm_i81, xm_I81, 0, 0, 143, [(0, .ref 59), (2, .int v2), (4, .long v4), (6, .int v6)], [.int s0], xw_R X t_thrown s_57_1 s_57_18 s_57_19 s_57_20 s_57_24 a_58 a_59 a_60 a_61 a_62 a_63 a_64 a_65 t_lines t_numbers a_68 a_69 t_parts t_sorts t_values a_73 a_74 a_75 l_76) (.inl (some (.long r.1)), xw_R X r.2 s_57_1 s_57_18 s_57_19 s_57_20 s_57_24 a_58 a_59 a_60 a_61 a_62 a_63 a_64 a_65 t_lines t_numbers a_68 a_69 t_parts t_sorts t_values a_73 a_74 a_75 l_76) := by
  intro t_thrown v2 v4 v6 s0 r h
  unfold xf_rf_place_143 at h
  refine xe_seg ok 4 (G := (fun K => if s0 = ((-1 : Int32)) then K (81, xm_i81, xm_I81, 0, 0, 165, [(0, .ref 59), (2, .int v2), (4, .long v4), (6, .int v6), (7, .int s0)], [], xw_R X t_thrown s_57_1 s_57_18 s_57_19 s_57_20 s_57_24 a_58 a_59 a_60 a_61 a_62 a_63 a_64 a_65 t_lines t_numbers a_68 a_69 t_parts t_sorts t_values a_73 a_74 a_75 l_76) else K (81, xm_i81, xm_I81, 0, 0, 151, [(0, .ref 59), (2, .int v2), (4, .long v4), (6, .int v6), (7, .int s0)], [], xw_R X t_thrown s_57_1 s_57_18 s_57_19 s_57_20 s_57_24 a_58 a_59 a_60 a_61 a_62 a_63 a_64 a_65 t_lines t_numbers a_68 a_69 t_parts t_sorts t_values a_73 a_74 a_75 l_76))) (fun K => rfl) ?_
  rcases xb_if h with ⟨hc1207, h⟩ | ⟨hc1207, h⟩
  · refine xe_pos hc1207 (xe_k ?_)
    refine xe_sub [true, true, true, true, false] (lv' := [(0, .ref 59), (2, .int v2), (4, .long v4), (6, .int v6)]) rfl ?_
    have hz := xh_rf_place_57_165 (l := l) (g := g) ok a_58 a_59 a_60 a_61 a_62 a_63 a_64 a_65 a_68 a_69 a_73 a_74 a_75 l_76 s_57_1 s_57_18 s_57_19 s_57_20 s_57_24 X t_lines t_numbers t_parts t_sorts t_values hk68 n t_thrown v2 v4 v6 _ h
    exact hz
  · refine xe_neg hc1207 (xe_k ?_)
    refine xe_seg ok 3 (G := (fun K => xr_back K 81 xm_i81 xm_I81 0 0 154 [(0, .ref 59), (2, .int v2), (4, .long v4), (6, .int v6), (7, .int s0)] [] 78 true (K (80, xm_i80, xm_I80, 0, 0, 0, [(0, .ref 59), (1, .int s0)], [], xw_R X t_thrown s_57_1 s_57_18 s_57_19 s_57_20 s_57_24 a_58 a_59 a_60 a_61 a_62 a_63 a_64 a_65 t_lines t_numbers a_68 a_69 t_parts t_sorts t_values a_73 a_74 a_75 l_76)))) (fun K => rfl) ?_
    obtain ⟨q1208, hq1208, h⟩ := Option.bind_eq_some_iff.mp h
    have heq1208 := xh_rf_isPlaced_57 (l := l) (g := g) ok a_58 a_59 a_60 a_61 a_62 a_63 a_64 a_65 t_lines t_numbers a_68 a_69 t_values a_73 a_74 a_75 l_76 t_thrown s_57_1 s_57_18 s_57_19 s_57_20 s_57_24 X t_parts t_sorts s0 _ hq1208
    refine xe_call1 (ws' := xw_R X t_thrown s_57_1 s_57_18 s_57_19 s_57_20 s_57_24 a_58 a_59 a_60 a_61 a_62 a_63 a_64 a_65 t_lines t_numbers a_68 a_69 t_parts t_sorts t_values a_73 a_74 a_75 l_76) (by decide) heq1208 (Or.inl rfl) ?_
    refine xe_seg ok 1 (G := (fun K => if q1208 = (0 : Int32) then K (81, xm_i81, xm_I81, 0, 0, 165, [(0, .ref 59), (2, .int v2), (4, .long v4), (6, .int v6), (7, .int s0)], [], xw_R X t_thrown s_57_1 s_57_18 s_57_19 s_57_20 s_57_24 a_58 a_59 a_60 a_61 a_62 a_63 a_64 a_65 t_lines t_numbers a_68 a_69 t_parts t_sorts t_values a_73 a_74 a_75 l_76) else K (81, xm_i81, xm_I81, 0, 0, 160, [(0, .ref 59), (2, .int v2), (4, .long v4), (6, .int v6), (7, .int s0)], [], xw_R X t_thrown s_57_1 s_57_18 s_57_19 s_57_20 s_57_24 a_58 a_59 a_60 a_61 a_62 a_63 a_64 a_65 t_lines t_numbers a_68 a_69 t_parts t_sorts t_values a_73 a_74 a_75 l_76))) (fun K => rfl) ?_
    rcases xb_if h with ⟨hc1209, h⟩ | ⟨hc1209, h⟩
    · refine xe_pos hc1209 (xe_k ?_)
      refine xe_sub [true, true, true, true, false] (lv' := [(0, .ref 59), (2, .int v2), (4, .long v4), (6, .int v6)]) rfl ?_
      have hz := xh_rf_place_57_165 (l := l) (g := g) ok a_58 a_59 a_60 a_61 a_62 a_63 a_64 a_65 a_68 a_69 a_73 a_74 a_75 l_76 s_57_1 s_57_18 s_57_19 s_57_20 s_57_24 X t_lines t_numbers t_parts t_sorts t_values hk68 n t_thrown v2 v4 v6 _ h
      exact hz
    · refine xe_neg hc1209 (xe_k ?_)
      refine xe_seg ok 2 (G := (fun K => K (81, xm_i81, xm_I81, 0, 0, 166, [(0, .ref 59), (2, .int v2), (4, .long v4), (6, .int v6), (7, .int s0)], [.int s0], xw_R X t_thrown s_57_1 s_57_18 s_57_19 s_57_20 s_57_24 a_58 a_59 a_60 a_61 a_62 a_63 a_64 a_65 t_lines t_numbers a_68 a_69 t_parts t_sorts t_values a_73 a_74 a_75 l_76))) (fun K => rfl) ?_
      refine xe_k ?_
      refine xe_sub [true, true, true, true, false] (lv' := [(0, .ref 59), (2, .int v2), (4, .long v4), (6, .int v6)]) rfl ?_
      have hz := xh_rf_place_57_166 (l := l) (g := g) ok a_58 a_59 a_60 a_61 a_62 a_63 a_64 a_65 a_68 a_69 a_73 a_74 a_75 l_76 s_57_1 s_57_18 s_57_19 s_57_20 s_57_24 X t_lines t_numbers t_parts t_sorts t_values hk68 n t_thrown v2 v4 v6 s0 _ h
      exact hz
set_option maxHeartbeats 400000 in
theorem xh_rf_place_57_68 {l : Launch} {g : xr_G} (ok : xr_OK xm_P) (a_58 a_59 a_60 a_61 a_62 a_63 a_64 a_65 a_68 a_69 a_73 a_74 a_75 : Nat → Int32) (l_76 : Nat → Int64) (s_57_1 s_57_18 s_57_19 s_57_20 s_57_24 : Int32) (X : Nat → xr_C) (t_lines : (Nat → Int32)) (t_numbers : (Nat → Int32)) (t_parts : (Nat → Int32)) (t_sorts : (Nat → Int32)) (t_values : (Nat → Int32)) (n : Nat) : ∀ (N : Nat) (t_thrown : Int32) (v2 : Int32) (v3 : Int32) (v4 : Int64) (v6 : Int32) (r : (Int64 × Int32)), xf_rf_place_68 t_lines t_numbers t_parts t_sorts t_values n N t_thrown v2 v3 v4 v6 = some r → xV xm_P l g (81, xm_i81, xm_I81, 0, 0, 68, [(0, .ref 59), (2, .int v2), (3, .int v3), (4, .long v4), (6, .int v6)], [], xw_R X t_thrown s_57_1 s_57_18 s_57_19 s_57_20 s_57_24 a_58 a_59 a_60 a_61 a_62 a_63 a_64 a_65 t_lines t_numbers a_68 a_69 t_parts t_sorts t_values a_73 a_74 a_75 l_76) (.inl (some (.long r.1)), xw_R X r.2 s_57_1 s_57_18 s_57_19 s_57_20 s_57_24 a_58 a_59 a_60 a_61 a_62 a_63 a_64 a_65 t_lines t_numbers a_68 a_69 t_parts t_sorts t_values a_73 a_74 a_75 l_76) := by
  intro N
  induction N with
  | zero => intro t_thrown v2 v3 v4 v6 r h; cases h
  | succ N hk68 =>
    intro t_thrown v2 v3 v4 v6 r h
    refine xe_seg ok 3 (G := (fun K => if v3 = ((-1 : Int32)) then K (81, xm_i81, xm_I81, 0, 0, 170, [(0, .ref 59), (2, .int v2), (3, .int v3), (4, .long v4), (6, .int v6)], [], xw_R X t_thrown s_57_1 s_57_18 s_57_19 s_57_20 s_57_24 a_58 a_59 a_60 a_61 a_62 a_63 a_64 a_65 t_lines t_numbers a_68 a_69 t_parts t_sorts t_values a_73 a_74 a_75 l_76) else K (81, xm_i81, xm_I81, 0, 0, 73, [(0, .ref 59), (2, .int v2), (3, .int v3), (4, .long v4), (6, .int v6)], [], xw_R X t_thrown s_57_1 s_57_18 s_57_19 s_57_20 s_57_24 a_58 a_59 a_60 a_61 a_62 a_63 a_64 a_65 t_lines t_numbers a_68 a_69 t_parts t_sorts t_values a_73 a_74 a_75 l_76))) (fun K => rfl) ?_
    rcases xb_if h with ⟨hc1199, h⟩ | ⟨hc1199, h⟩
    · refine xe_pos hc1199 (xe_k ?_)
      obtain rfl := Option.some.inj h
      refine xe_seg ok 2 (G := (fun _ => some (.inl (some (.long v4)), xw_R X t_thrown s_57_1 s_57_18 s_57_19 s_57_20 s_57_24 a_58 a_59 a_60 a_61 a_62 a_63 a_64 a_65 t_lines t_numbers a_68 a_69 t_parts t_sorts t_values a_73 a_74 a_75 l_76))) (fun K => rfl) ?_
      exact xe_ret
    · refine xe_neg hc1199 (xe_k ?_)
      refine xe_seg ok 5 (G := (fun K => if xr_in ((0 : Int32)) 3 = true then K (81, xm_i81, xm_I81, 0, 0, 81, [(0, .ref 59), (2, .int v2), (3, .int v3), (4, .long v4), (6, .int v6)], [.int (t_lines ((0 : Int32)).toNatClampNeg), .int v6], xw_R X t_thrown s_57_1 s_57_18 s_57_19 s_57_20 s_57_24 a_58 a_59 a_60 a_61 a_62 a_63 a_64 a_65 t_lines t_numbers a_68 a_69 t_parts t_sorts t_values a_73 a_74 a_75 l_76) else none)) (fun K => rfl) ?_
      obtain ⟨hg1200, h⟩ := xn_if h
      refine xe_pos hg1200 (xe_k ?_)
      refine xe_seg ok 1 (G := (fun K => if (t_lines ((0 : Int32)).toNatClampNeg) < v6 then K (81, xm_i81, xm_I81, 0, 0, 84, [(0, .ref 59), (2, .int v2), (3, .int v3), (4, .long v4), (6, .int v6)], [], xw_R X t_thrown s_57_1 s_57_18 s_57_19 s_57_20 s_57_24 a_58 a_59 a_60 a_61 a_62 a_63 a_64 a_65 t_lines t_numbers a_68 a_69 t_parts t_sorts t_values a_73 a_74 a_75 l_76) else K (81, xm_i81, xm_I81, 0, 0, 88, [(0, .ref 59), (2, .int v2), (3, .int v3), (4, .long v4), (6, .int v6)], [], xw_R X t_thrown s_57_1 s_57_18 s_57_19 s_57_20 s_57_24 a_58 a_59 a_60 a_61 a_62 a_63 a_64 a_65 t_lines t_numbers a_68 a_69 t_parts t_sorts t_values a_73 a_74 a_75 l_76))) (fun K => rfl) ?_
      rcases xb_if h with ⟨hc1201, h⟩ | ⟨hc1201, h⟩
      · refine xe_pos hc1201 (xe_k ?_)
        obtain rfl := Option.some.inj h
        refine xe_seg ok 2 (G := (fun _ => some (.inl (some (.long ((1000000000000 : Int64)))), xw_R X t_thrown s_57_1 s_57_18 s_57_19 s_57_20 s_57_24 a_58 a_59 a_60 a_61 a_62 a_63 a_64 a_65 t_lines t_numbers a_68 a_69 t_parts t_sorts t_values a_73 a_74 a_75 l_76))) (fun K => rfl) ?_
        exact xe_ret
      · refine xe_neg hc1201 (xe_k ?_)
        refine xe_seg ok 10 (G := (fun K => if xr_in ((((8 : Int32)) * v3) + v2) 960 = true then K (81, xm_i81, xm_I81, 0, 0, 104, [(0, .ref 59), (2, .int v2), (3, .int v3), (4, .long v4), (6, .int (v6 + (1 : Int32)))], [.int (t_values ((((8 : Int32)) * v3) + v2).toNatClampNeg), .long v4], xw_R X t_thrown s_57_1 s_57_18 s_57_19 s_57_20 s_57_24 a_58 a_59 a_60 a_61 a_62 a_63 a_64 a_65 t_lines t_numbers a_68 a_69 t_parts t_sorts t_values a_73 a_74 a_75 l_76) else none)) (fun K => rfl) ?_
        obtain ⟨hg1202, h⟩ := xn_if h
        refine xe_pos hg1202 (xe_k ?_)
        refine xe_seg ok 11 (G := (fun K => if xr_in ((((8 : Int32)) * v3) + ((3 : Int32))) 960 = true then K (81, xm_i81, xm_I81, 0, 0, 119, [(0, .ref 59), (2, .int v2), (3, .int v3), (4, .long (v4 + ((t_values ((((8 : Int32)) * v3) + v2).toNatClampNeg).toInt64))), (6, .int (v6 + (1 : Int32)))], [.int (t_sorts ((((8 : Int32)) * v3) + ((3 : Int32))).toNatClampNeg)], xw_R X t_thrown s_57_1 s_57_18 s_57_19 s_57_20 s_57_24 a_58 a_59 a_60 a_61 a_62 a_63 a_64 a_65 t_lines t_numbers a_68 a_69 t_parts t_sorts t_values a_73 a_74 a_75 l_76) else none)) (fun K => rfl) ?_
        obtain ⟨hg1203, h⟩ := xn_if h
        refine xe_pos hg1203 (xe_k ?_)
        refine xe_seg ok 2 (G := (fun K => if (t_sorts ((((8 : Int32)) * v3) + ((3 : Int32))).toNatClampNeg) = ((2 : Int32)) then K (81, xm_i81, xm_I81, 0, 0, 123, [(0, .ref 59), (2, .int v2), (3, .int v3), (4, .long (v4 + ((t_values ((((8 : Int32)) * v3) + v2).toNatClampNeg).toInt64))), (6, .int (v6 + (1 : Int32)))], [], xw_R X t_thrown s_57_1 s_57_18 s_57_19 s_57_20 s_57_24 a_58 a_59 a_60 a_61 a_62 a_63 a_64 a_65 t_lines t_numbers a_68 a_69 t_parts t_sorts t_values a_73 a_74 a_75 l_76) else K (81, xm_i81, xm_I81, 0, 0, 142, [(0, .ref 59), (2, .int v2), (3, .int v3), (4, .long (v4 + ((t_values ((((8 : Int32)) * v3) + v2).toNatClampNeg).toInt64))), (6, .int (v6 + (1 : Int32)))], [], xw_R X t_thrown s_57_1 s_57_18 s_57_19 s_57_20 s_57_24 a_58 a_59 a_60 a_61 a_62 a_63 a_64 a_65 t_lines t_numbers a_68 a_69 t_parts t_sorts t_values a_73 a_74 a_75 l_76))) (fun K => rfl) ?_
        rcases xb_if h with ⟨hc1204, h⟩ | ⟨hc1204, h⟩
        · refine xe_pos hc1204 (xe_k ?_)
          refine xe_seg ok 10 (G := (fun K => if xr_in ((((8 : Int32)) * v3) + ((3 : Int32))) 960 = true then K (81, xm_i81, xm_I81, 0, 0, 136, [(0, .ref 59), (2, .int v2), (3, .int v3), (4, .long (v4 + ((t_values ((((8 : Int32)) * v3) + v2).toNatClampNeg).toInt64))), (6, .int (v6 + (1 : Int32)))], [.int (t_values ((((8 : Int32)) * v3) + ((3 : Int32))).toNatClampNeg), .int ((0 : Int32)), .ref 59], xw_R X t_thrown s_57_1 s_57_18 s_57_19 s_57_20 s_57_24 a_58 a_59 a_60 a_61 a_62 a_63 a_64 a_65 t_lines t_numbers a_68 a_69 t_parts t_sorts t_values a_73 a_74 a_75 l_76) else none)) (fun K => rfl) ?_
          obtain ⟨hg1205, h⟩ := xn_if h
          refine xe_pos hg1205 (xe_k ?_)
          refine xe_seg ok 1 (G := (fun K => xr_back K 81 xm_i81 xm_I81 0 0 136 [(0, .ref 59), (2, .int v2), (3, .int v3), (4, .long (v4 + ((t_values ((((8 : Int32)) * v3) + v2).toNatClampNeg).toInt64))), (6, .int (v6 + (1 : Int32)))] [] 78 true (K (50, xm_i50, xm_I50, 0, 0, 0, [(0, .ref 59), (1, .int ((0 : Int32))), (2, .int (t_values ((((8 : Int32)) * v3) + ((3 : Int32))).toNatClampNeg))], [], xw_R X t_thrown s_57_1 s_57_18 s_57_19 s_57_20 s_57_24 a_58 a_59 a_60 a_61 a_62 a_63 a_64 a_65 t_lines t_numbers a_68 a_69 t_parts t_sorts t_values a_73 a_74 a_75 l_76)))) (fun K => rfl) ?_
          obtain ⟨q1206, hq1206, h⟩ := Option.bind_eq_some_iff.mp h
          have heq1206 := xh_rf_find_57 (l := l) (g := g) ok a_58 a_59 a_60 a_61 a_62 a_63 a_64 a_65 a_68 a_69 t_parts t_sorts t_values a_73 a_74 a_75 l_76 t_thrown s_57_1 s_57_18 s_57_19 s_57_20 s_57_24 X t_lines t_numbers n ((0 : Int32)) (t_values ((((8 : Int32)) * v3) + ((3 : Int32))).toNatClampNeg) _ hq1206
          refine xe_call1 (ws' := xw_R X t_thrown s_57_1 s_57_18 s_57_19 s_57_20 s_57_24 a_58 a_59 a_60 a_61 a_62 a_63 a_64 a_65 t_lines t_numbers a_68 a_69 t_parts t_sorts t_values a_73 a_74 a_75 l_76) (by decide) heq1206 (Or.inl rfl) ?_
          refine xe_seg ok 1 (G := (fun K => K (81, xm_i81, xm_I81, 0, 0, 143, [(0, .ref 59), (2, .int v2), (3, .int v3), (4, .long (v4 + ((t_values ((((8 : Int32)) * v3) + v2).toNatClampNeg).toInt64))), (6, .int (v6 + (1 : Int32)))], [.int q1206], xw_R X t_thrown s_57_1 s_57_18 s_57_19 s_57_20 s_57_24 a_58 a_59 a_60 a_61 a_62 a_63 a_64 a_65 t_lines t_numbers a_68 a_69 t_parts t_sorts t_values a_73 a_74 a_75 l_76))) (fun K => rfl) ?_
          refine xe_k ?_
          refine xe_sub [true, true, false, true, true] (lv' := [(0, .ref 59), (2, .int v2), (4, .long (v4 + ((t_values ((((8 : Int32)) * v3) + v2).toNatClampNeg).toInt64))), (6, .int (v6 + (1 : Int32)))]) rfl ?_
          have hz := xh_rf_place_57_143 (l := l) (g := g) ok a_58 a_59 a_60 a_61 a_62 a_63 a_64 a_65 a_68 a_69 a_73 a_74 a_75 l_76 s_57_1 s_57_18 s_57_19 s_57_20 s_57_24 X t_lines t_numbers t_parts t_sorts t_values hk68 n t_thrown v2 (v4 + ((t_values ((((8 : Int32)) * v3) + v2).toNatClampNeg).toInt64)) (v6 + (1 : Int32)) q1206 _ h
          exact hz
        · refine xe_neg hc1204 (xe_k ?_)
          refine xe_seg ok 1 (G := (fun K => K (81, xm_i81, xm_I81, 0, 0, 143, [(0, .ref 59), (2, .int v2), (3, .int v3), (4, .long (v4 + ((t_values ((((8 : Int32)) * v3) + v2).toNatClampNeg).toInt64))), (6, .int (v6 + (1 : Int32)))], [.int ((-1 : Int32))], xw_R X t_thrown s_57_1 s_57_18 s_57_19 s_57_20 s_57_24 a_58 a_59 a_60 a_61 a_62 a_63 a_64 a_65 t_lines t_numbers a_68 a_69 t_parts t_sorts t_values a_73 a_74 a_75 l_76))) (fun K => rfl) ?_
          refine xe_k ?_
          refine xe_sub [true, true, false, true, true] (lv' := [(0, .ref 59), (2, .int v2), (4, .long (v4 + ((t_values ((((8 : Int32)) * v3) + v2).toNatClampNeg).toInt64))), (6, .int (v6 + (1 : Int32)))]) rfl ?_
          have hz := xh_rf_place_57_143 (l := l) (g := g) ok a_58 a_59 a_60 a_61 a_62 a_63 a_64 a_65 a_68 a_69 a_73 a_74 a_75 l_76 s_57_1 s_57_18 s_57_19 s_57_20 s_57_24 X t_lines t_numbers t_parts t_sorts t_values hk68 n t_thrown v2 (v4 + ((t_values ((((8 : Int32)) * v3) + v2).toNatClampNeg).toInt64)) (v6 + (1 : Int32)) ((-1 : Int32)) _ h
          exact hz
set_option maxHeartbeats 400000 in
theorem xh_rf_place_57_60 {l : Launch} {g : xr_G} (ok : xr_OK xm_P) (a_58 a_59 a_60 a_61 a_62 a_63 a_64 a_65 a_68 a_69 a_73 a_74 a_75 : Nat → Int32) (l_76 : Nat → Int64) (s_57_1 s_57_18 s_57_19 s_57_20 s_57_24 : Int32) (X : Nat → xr_C) (t_lines : (Nat → Int32)) (t_numbers : (Nat → Int32)) (t_parts : (Nat → Int32)) (t_sorts : (Nat → Int32)) (t_values : (Nat → Int32)) (n : Nat) : ∀ (t_thrown : Int32) (r : (Int64 × Int32)), xf_rf_place_60 t_lines t_numbers t_parts t_sorts t_values n t_thrown = some r → xV xm_P l g (81, xm_i81, xm_I81, 0, 0, 60, [], [], xw_R X t_thrown s_57_1 s_57_18 s_57_19 s_57_20 s_57_24 a_58 a_59 a_60 a_61 a_62 a_63 a_64 a_65 t_lines t_numbers a_68 a_69 t_parts t_sorts t_values a_73 a_74 a_75 l_76) (.inl (some (.long r.1)), xw_R X r.2 s_57_1 s_57_18 s_57_19 s_57_20 s_57_24 a_58 a_59 a_60 a_61 a_62 a_63 a_64 a_65 t_lines t_numbers a_68 a_69 t_parts t_sorts t_values a_73 a_74 a_75 l_76) := by
  intro t_thrown r h
  unfold xf_rf_place_60 at h
  obtain rfl := Option.some.inj h
  refine xe_seg ok 2 (G := (fun _ => some (.inl (some (.long ((0 : Int64)))), xw_R X t_thrown s_57_1 s_57_18 s_57_19 s_57_20 s_57_24 a_58 a_59 a_60 a_61 a_62 a_63 a_64 a_65 t_lines t_numbers a_68 a_69 t_parts t_sorts t_values a_73 a_74 a_75 l_76))) (fun K => rfl) ?_
  exact xe_ret
set_option maxHeartbeats 400000 in
theorem xh_rf_place_57_53 {l : Launch} {g : xr_G} (ok : xr_OK xm_P) (a_58 a_59 a_60 a_61 a_62 a_63 a_64 a_65 a_68 a_69 a_73 a_74 a_75 : Nat → Int32) (l_76 : Nat → Int64) (s_57_1 s_57_18 s_57_19 s_57_20 s_57_24 : Int32) (X : Nat → xr_C) (t_lines : (Nat → Int32)) (t_numbers : (Nat → Int32)) (t_parts : (Nat → Int32)) (t_sorts : (Nat → Int32)) (t_values : (Nat → Int32)) (n : Nat) : ∀ (t_thrown : Int32) (v2 : Int32) (v3 : Int32) (s1 : Int32) (r : (Int64 × Int32)), xf_rf_place_53 t_lines t_numbers t_parts t_sorts t_values n t_thrown v2 v3 s1 = some r → xV xm_P l g (81, xm_i81, xm_I81, 0, 0, 53, [(0, .ref 59), (2, .int v2), (3, .int v3)], [.int s1, .ref 59], xw_R X t_thrown s_57_1 s_57_18 s_57_19 s_57_20 s_57_24 a_58 a_59 a_60 a_61 a_62 a_63 a_64 a_65 t_lines t_numbers a_68 a_69 t_parts t_sorts t_values a_73 a_74 a_75 l_76) (.inl (some (.long r.1)), xw_R X r.2 s_57_1 s_57_18 s_57_19 s_57_20 s_57_24 a_58 a_59 a_60 a_61 a_62 a_63 a_64 a_65 t_lines t_numbers a_68 a_69 t_parts t_sorts t_values a_73 a_74 a_75 l_76) := by
  intro t_thrown v2 v3 s1 r h
  unfold xf_rf_place_53 at h
  refine xe_seg ok 2 (G := (fun K => xr_back K 81 xm_i81 xm_I81 0 0 54 [(0, .ref 59), (2, .int v2), (3, .int v3)] [] 78 true (K (32, xm_i32, xm_I32, 0, 0, 0, [(0, .ref 59), (1, .int s1), (2, .int ((1 : Int32)))], [], xw_R X t_thrown s_57_1 s_57_18 s_57_19 s_57_20 s_57_24 a_58 a_59 a_60 a_61 a_62 a_63 a_64 a_65 t_lines t_numbers a_68 a_69 t_parts t_sorts t_values a_73 a_74 a_75 l_76)))) (fun K => rfl) ?_
  obtain ⟨q1197, hq1197, h⟩ := Option.bind_eq_some_iff.mp h
  have heq1197 := xh_rf_fails_57 (l := l) (g := g) ok a_58 a_59 a_60 a_61 a_62 a_63 a_64 a_65 t_lines t_numbers a_68 a_69 t_parts t_sorts t_values a_73 a_74 a_75 l_76 s_57_1 s_57_18 s_57_19 s_57_20 s_57_24 X t_thrown s1 ((1 : Int32)) _ hq1197
  refine xe_call1 (ws' := xw_R X q1197.2 s_57_1 s_57_18 s_57_19 s_57_20 s_57_24 a_58 a_59 a_60 a_61 a_62 a_63 a_64 a_65 t_lines t_numbers a_68 a_69 t_parts t_sorts t_values a_73 a_74 a_75 l_76) (by decide) heq1197 (Or.inl rfl) ?_
  refine xe_seg ok 1 (G := (fun K => if q1197.1 = (0 : Int32) then K (81, xm_i81, xm_I81, 0, 0, 62, [(0, .ref 59), (2, .int v2), (3, .int v3)], [], xw_R X q1197.2 s_57_1 s_57_18 s_57_19 s_57_20 s_57_24 a_58 a_59 a_60 a_61 a_62 a_63 a_64 a_65 t_lines t_numbers a_68 a_69 t_parts t_sorts t_values a_73 a_74 a_75 l_76) else K (81, xm_i81, xm_I81, 0, 0, 60, [(0, .ref 59), (2, .int v2), (3, .int v3)], [], xw_R X q1197.2 s_57_1 s_57_18 s_57_19 s_57_20 s_57_24 a_58 a_59 a_60 a_61 a_62 a_63 a_64 a_65 t_lines t_numbers a_68 a_69 t_parts t_sorts t_values a_73 a_74 a_75 l_76))) (fun K => rfl) ?_
  rcases xb_if h with ⟨hc1198, h⟩ | ⟨hc1198, h⟩
  · refine xe_pos hc1198 (xe_k ?_)
    refine xe_seg ok 4 (G := (fun K => K (81, xm_i81, xm_I81, 0, 0, 68, [(0, .ref 59), (2, .int v2), (3, .int v3), (4, .long ((0 : Int64))), (6, .int ((0 : Int32)))], [], xw_R X q1197.2 s_57_1 s_57_18 s_57_19 s_57_20 s_57_24 a_58 a_59 a_60 a_61 a_62 a_63 a_64 a_65 t_lines t_numbers a_68 a_69 t_parts t_sorts t_values a_73 a_74 a_75 l_76))) (fun K => rfl) ?_
    refine xe_k ?_
    refine xe_sub [true, true, true, true, true] (lv' := [(0, .ref 59), (2, .int v2), (3, .int v3), (4, .long ((0 : Int64))), (6, .int ((0 : Int32)))]) rfl ?_
    have hz := xh_rf_place_57_68 (l := l) (g := g) ok a_58 a_59 a_60 a_61 a_62 a_63 a_64 a_65 a_68 a_69 a_73 a_74 a_75 l_76 s_57_1 s_57_18 s_57_19 s_57_20 s_57_24 X t_lines t_numbers t_parts t_sorts t_values n n q1197.2 v2 v3 ((0 : Int64)) ((0 : Int32)) _ h
    exact hz
  · refine xe_neg hc1198 (xe_k ?_)
    refine xe_sub [false, false, false] (lv' := []) rfl ?_
    have hz := xh_rf_place_57_60 (l := l) (g := g) ok a_58 a_59 a_60 a_61 a_62 a_63 a_64 a_65 a_68 a_69 a_73 a_74 a_75 l_76 s_57_1 s_57_18 s_57_19 s_57_20 s_57_24 X t_lines t_numbers t_parts t_sorts t_values n q1197.2 _ h
    exact hz
